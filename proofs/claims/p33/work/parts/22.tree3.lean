def f_Tr_take (T : TV) (x1 : Int) (x2 : Int) : Option (TV) :=
  bd1 (f_Rt_put (tR T) (tLev T) x1 x2) <| fun T_1 => bd1 (f_Rt_put (tR T) (tSiz T) x1 0) <| fun T_4 => bd1 (f_Rt_put (tR T) (tHol T) x1 (-1)) <| fun T_7 => some ((sSiz (sHol (sLev T T_1) T_7) T_4))
abbrev rm_Tr_take : Room := ({ frames := 1, cells := 0, slots := 0, locals := 22 } : Room)
set_option maxHeartbeats 4000000 in
set_option maxRecDepth 100000 in
theorem c_Tr_take (l : Launch) (D : va_G) (cI cZ cT : ClassId) (h_T : Nat) (q_T : Nat → Nat) (T : TV) (x1 : Int) (x2 : Int) (sz : Nat) (res : TV) (h : f_Tr_take T x1 x2 = some res) : zMv l yX4_take cX4_take 3 rm_Tr_take D (zt cI cZ cT) [.ref h_T, vI x1, vI x2] ((zTr cI h_T q_T T)) sz (fun u => (zTr cI h_T q_T (res))) 0 0 := by
  refine z_enth (Qc := zQv D (fun u => (zTr cI h_T q_T (res)))) (by decide) (Nat.le_of_ble_eq_true rfl) (fun p e s m args below meth c A ls H locs hF hP hD hS hl => ?_)
  have hx := hF.1.1
  have hb := hF.1.2.1
  have hml := hF.1.2.2.1
  have hown : s.vm.findClass "RectangleTree$Tree" = some m.cls := hF.1.2.2.2.1
  have hts := hF.1.2.2.2.2
  have hr := hF.2.1
  have hlk := hF.2.2.1
  have hK := hF.2.2.2.2.1
  have hN := hF.2.2.2.2.2.1
  have hA := hF.2.2.2.2.2.2
  unfold f_Tr_take at h
  refine lv_aload_n hx hb dX4_take_0 rfl (lv_at hl 0 rfl) ?_
  refine va_get (D := D) (ci := 4) (v := .ref (q_T 0)) (C := RX4) (T := TX4) (N := 10) hx hb hts zin4 hown hK hP 0 rfl rfl 0 (by decide) (hts _ wm62) (fun _ h9 => h9) rfl dX4_take_1 ?_
  refine lv_iload_n hx hb dX4_take_4 rfl (lv_at hl 1 rfl) ?_
  refine lv_iload_n hx hb dX4_take_5 rfl (lv_at hl 2 rfl) ?_
  obtain ⟨T_1, e_2, h⟩ := bd1_e h
  refine z_gov (wc := (zAr cI ((q_T 0)) ((tR T)) ((tLev T)))) (wn := fun u_3 => (zTr cI h_T q_T (sLev T T_1))) (wr := ([0, 2, 3, 4, 5].filterMap (fun i => ((zTr cI h_T q_T T))[i]?))) (va_runSN (As := [.ref (q_T 0), vI x1, vI x2]) (rest := []) hF.1 (c_Rt_put l D cI cZ cT (q_T 0) (tR T) (tLev T) x1 x2 H.size (T_1) e_2) ⟨va_cnB 3 hts (zW_good wm61) rfl rfl rfl (hN.at 0 rfl) (hts _ wm32) (by decide +kernel) ⟨Nat.le_of_ble_eq_true rfl, Nat.le_of_ble_eq_true rfl⟩, hts _ wm60, trivial⟩ ⟨zP.blind, zP.enter (z_subP (ws' := (zAr cI ((q_T 0)) ((tR T)) ((tLev T)))) hP [1] rfl) hK (hD.sub [1] (by decide) rfl) hN⟩ rfl rfl hl.1 rfl (lv_room (Nat.le_of_ble_eq_true rfl)) dX4_take_6 ⟨Nat.le_refl _, Nat.le_refl _⟩) hP hD hS hA [1] [0, 2, 3, 4, 5] [0, 5, 1, 2, 3, 4] rfl rfl (by decide) (fun _ => rfl) (fun u_3 H locs hP hD hS hz => ?_)
  refine lv_aload_n hx hb dX4_take_9 rfl (lv_at hl 0 rfl) ?_
  refine va_get (D := D) (ci := 4) (v := .ref (q_T 2)) (C := RX4) (T := TX4) (N := 10) hx hb hts zin4 hown hK hP 0 rfl rfl 2 (by decide) (hts _ wm64) (fun _ h9 => h9) rfl dX4_take_10 ?_
  refine lv_iload_n hx hb dX4_take_13 rfl (lv_at hl 1 rfl) ?_
  refine lv_iconst (v := Int32.ofInt 0) hx hb dX4_take_14 rfl ?_
  obtain ⟨T_4, e_5, h⟩ := bd1_e h
  refine z_gov (wc := (zAr cI ((q_T 2)) ((tR T)) ((tSiz T)))) (wn := fun u_6 => (zTr cI h_T q_T (sSiz (sLev T T_1) T_4))) (wr := ([0, 1, 2, 4, 5].filterMap (fun i => ((zTr cI h_T q_T (sLev T T_1)))[i]?))) (va_runSN (As := [.ref (q_T 2), vI x1, vI 0]) (rest := []) hF.1 (c_Rt_put l D cI cZ cT (q_T 2) (tR T) (tSiz T) x1 0 H.size (T_4) e_5) ⟨va_cnB 3 hts (zW_good wm61) rfl rfl rfl (hN.at 0 rfl) (hts _ wm32) (by decide +kernel) ⟨Nat.le_of_ble_eq_true rfl, Nat.le_of_ble_eq_true rfl⟩, hts _ wm60, trivial⟩ ⟨zP.blind, zP.enter (z_subP (ws' := (zAr cI ((q_T 2)) ((tR T)) ((tSiz T)))) hP [3] rfl) hK (hD.sub [3] (by decide) rfl) hN⟩ rfl rfl hl.1 rfl (lv_room (Nat.le_of_ble_eq_true rfl)) dX4_take_15 ⟨Nat.le_refl _, Nat.le_refl _⟩) hP hD hS hA [3] [0, 1, 2, 4, 5] [0, 1, 2, 5, 3, 4] rfl rfl (by decide) (fun _ => rfl) (fun u_6 H locs hP hD hS hz => ?_)
  refine lv_aload_n hx hb dX4_take_18 rfl (lv_at hl 0 rfl) ?_
  refine va_get (D := D) (ci := 4) (v := .ref (q_T 1)) (C := RX4) (T := TX4) (N := 10) hx hb hts zin4 hown hK hP 0 rfl rfl 1 (by decide) (hts _ wm63) (fun _ h9 => h9) rfl dX4_take_19 ?_
  refine lv_iload_n hx hb dX4_take_22 rfl (lv_at hl 1 rfl) ?_
  refine lv_iconst (v := Int32.ofInt (-1)) hx hb dX4_take_23 rfl ?_
  obtain ⟨T_7, e_8, h⟩ := bd1_e h
  refine z_gov (wc := (zAr cI ((q_T 1)) ((tR T)) ((tHol T)))) (wn := fun u_9 => (zTr cI h_T q_T (sSiz (sHol (sLev T T_1) T_7) T_4))) (wr := ([0, 1, 3, 4, 5].filterMap (fun i => ((zTr cI h_T q_T (sSiz (sLev T T_1) T_4)))[i]?))) (va_runSN (As := [.ref (q_T 1), vI x1, vI (-1)]) (rest := []) hF.1 (c_Rt_put l D cI cZ cT (q_T 1) (tR T) (tHol T) x1 (-1) H.size (T_7) e_8) ⟨va_cnB 3 hts (zW_good wm61) rfl rfl rfl (hN.at 0 rfl) (hts _ wm32) (by decide +kernel) ⟨Nat.le_of_ble_eq_true rfl, Nat.le_of_ble_eq_true rfl⟩, hts _ wm60, trivial⟩ ⟨zP.blind, zP.enter (z_subP (ws' := (zAr cI ((q_T 1)) ((tR T)) ((tHol T)))) hP [2] rfl) hK (hD.sub [2] (by decide) rfl) hN⟩ rfl rfl hl.1 rfl (lv_room (Nat.le_of_ble_eq_true rfl)) dX4_take_24 ⟨Nat.le_refl _, Nat.le_refl _⟩) hP hD hS hA [2] [0, 1, 3, 4, 5] [0, 1, 5, 2, 3, 4] rfl rfl (by decide) (fun _ => rfl) (fun u_9 H locs hP hD hS hz => ?_)
  obtain rfl := Option.some.inj h
  exact z_vret hx hb hr hlk (fun _ _ => 0) hP hD hS dX4_take_27
def f_Tr_release (T : TV) (x1 : Int) : Option (TV) :=
  bd1 (f_Tr_take T x1 (-2)) <| fun T_1 => some (T_1)
abbrev rm_Tr_release : Room := ({ frames := 2, cells := 0, slots := 0, locals := 44 } : Room)
set_option maxHeartbeats 4000000 in
set_option maxRecDepth 100000 in
theorem c_Tr_release (l : Launch) (D : va_G) (cI cZ cT : ClassId) (h_T : Nat) (q_T : Nat → Nat) (T : TV) (x1 : Int) (sz : Nat) (res : TV) (h : f_Tr_release T x1 = some res) : zMv l yX4_release cX4_release 2 rm_Tr_release D (zt cI cZ cT) [.ref h_T, vI x1] ((zTr cI h_T q_T T)) sz (fun u => (zTr cI h_T q_T (res))) 0 0 := by
  refine z_enth (Qc := zQv D (fun u => (zTr cI h_T q_T (res)))) (by decide) (Nat.le_of_ble_eq_true rfl) (fun p e s m args below meth c A ls H locs hF hP hD hS hl => ?_)
  have hx := hF.1.1
  have hb := hF.1.2.1
  have hml := hF.1.2.2.1
  have hown : s.vm.findClass "RectangleTree$Tree" = some m.cls := hF.1.2.2.2.1
  have hts := hF.1.2.2.2.2
  have hr := hF.2.1
  have hlk := hF.2.2.1
  have hK := hF.2.2.2.2.1
  have hN := hF.2.2.2.2.2.1
  have hA := hF.2.2.2.2.2.2
  unfold f_Tr_release at h
  refine lv_aload_n hx hb dX4_release_0 rfl (lv_at hl 0 rfl) ?_
  refine lv_iload_n hx hb dX4_release_1 rfl (lv_at hl 1 rfl) ?_
  refine lv_bipush (v := Int32.ofInt (-2)) hx hb dX4_release_2 (by decide +kernel) ?_
  obtain ⟨T_1, e_2, h⟩ := bd1_e h
  refine z_gov (wc := (zTr cI (h_T) (q_T) (T))) (wn := fun u_3 => (zTr cI h_T q_T T_1)) (wr := []) (va_runV (As := [vI x1, vI (-2)]) (rest := []) hF.1 (c_Tr_take l D cI cZ cT h_T q_T T x1 (-2) H.size (T_1) e_2) (cwV 2 hts (zgV wm488 wm490 wm6 wm33 wm491) rfl rfl rfl (by decide +kernel) ⟨Nat.le_of_ble_eq_true rfl, Nat.le_of_ble_eq_true rfl⟩) ⟨zP.blind, va_recv hK (z_subP (ws' := (zTr cI (h_T) (q_T) (T))) hP [0, 1, 2, 3, 4, 5] rfl) (ci := 4) (q0 := 0) rfl rfl, zP.enter (z_subP (ws' := (zTr cI (h_T) (q_T) (T))) hP [0, 1, 2, 3, 4, 5] rfl) hK (hD.sub [0, 1, 2, 3, 4, 5] (by decide) rfl) hN⟩ rfl rfl hl.1 rfl (lv_room (Nat.le_of_ble_eq_true rfl)) dX4_release_4 ⟨Nat.le_refl _, Nat.le_refl _⟩) hP hD hS hA [0, 1, 2, 3, 4, 5] [] [0, 1, 2, 3, 4, 5] rfl rfl (by decide) (fun _ => rfl) (fun u_3 H locs hP hD hS hz => ?_)
  obtain rfl := Option.some.inj h
  exact z_vret hx hb hr hlk (fun _ _ => 0) hP hD hS dX4_release_7
def f_Tr_setLoose (T : TV) (x1 : Int) : Option (TV) :=
  bd1 (f_Rt_put (tR T) (tHol T) x1 (-1)) <| fun T_1 => some ((sHol T T_1))
abbrev rm_Tr_setLoose : Room := ({ frames := 1, cells := 0, slots := 0, locals := 22 } : Room)
set_option maxHeartbeats 4000000 in
set_option maxRecDepth 100000 in
theorem c_Tr_setLoose (l : Launch) (D : va_G) (cI cZ cT : ClassId) (h_T : Nat) (q_T : Nat → Nat) (T : TV) (x1 : Int) (sz : Nat) (res : TV) (h : f_Tr_setLoose T x1 = some res) : zMv l yX4_setLoose cX4_setLoose 2 rm_Tr_setLoose D (zt cI cZ cT) [.ref h_T, vI x1] ((zTr cI h_T q_T T)) sz (fun u => (zTr cI h_T q_T (res))) 0 0 := by
  refine z_enth (Qc := zQv D (fun u => (zTr cI h_T q_T (res)))) (by decide) (Nat.le_of_ble_eq_true rfl) (fun p e s m args below meth c A ls H locs hF hP hD hS hl => ?_)
  have hx := hF.1.1
  have hb := hF.1.2.1
  have hml := hF.1.2.2.1
  have hown : s.vm.findClass "RectangleTree$Tree" = some m.cls := hF.1.2.2.2.1
  have hts := hF.1.2.2.2.2
  have hr := hF.2.1
  have hlk := hF.2.2.1
  have hK := hF.2.2.2.2.1
  have hN := hF.2.2.2.2.2.1
  have hA := hF.2.2.2.2.2.2
  unfold f_Tr_setLoose at h
  refine lv_aload_n hx hb dX4_setLoose_0 rfl (lv_at hl 0 rfl) ?_
  refine va_get (D := D) (ci := 4) (v := .ref (q_T 1)) (C := RX4) (T := TX4) (N := 10) hx hb hts zin4 hown hK hP 0 rfl rfl 1 (by decide) (hts _ wm63) (fun _ h9 => h9) rfl dX4_setLoose_1 ?_
  refine lv_iload_n hx hb dX4_setLoose_4 rfl (lv_at hl 1 rfl) ?_
  refine lv_iconst (v := Int32.ofInt (-1)) hx hb dX4_setLoose_5 rfl ?_
  obtain ⟨T_1, e_2, h⟩ := bd1_e h
  refine z_gov (wc := (zAr cI ((q_T 1)) ((tR T)) ((tHol T)))) (wn := fun u_3 => (zTr cI h_T q_T (sHol T T_1))) (wr := ([0, 1, 3, 4, 5].filterMap (fun i => ((zTr cI h_T q_T T))[i]?))) (va_runSN (As := [.ref (q_T 1), vI x1, vI (-1)]) (rest := []) hF.1 (c_Rt_put l D cI cZ cT (q_T 1) (tR T) (tHol T) x1 (-1) H.size (T_1) e_2) ⟨va_cnB 3 hts (zW_good wm61) rfl rfl rfl (hN.at 0 rfl) (hts _ wm32) (by decide +kernel) ⟨Nat.le_of_ble_eq_true rfl, Nat.le_of_ble_eq_true rfl⟩, hts _ wm60, trivial⟩ ⟨zP.blind, zP.enter (z_subP (ws' := (zAr cI ((q_T 1)) ((tR T)) ((tHol T)))) hP [2] rfl) hK (hD.sub [2] (by decide) rfl) hN⟩ rfl rfl hl.1 rfl (lv_room (Nat.le_of_ble_eq_true rfl)) dX4_setLoose_6 ⟨Nat.le_refl _, Nat.le_refl _⟩) hP hD hS hA [2] [0, 1, 3, 4, 5] [0, 1, 5, 2, 3, 4] rfl rfl (by decide) (fun _ => rfl) (fun u_3 H locs hP hD hS hz => ?_)
  obtain rfl := Option.some.inj h
  exact z_vret hx hb hr hlk (fun _ _ => 0) hP hD hS dX4_setLoose_9
def f_Tr_makeListEmpty (T : TV) (x1 : Int) : Option (TV) :=
  bd1 (f_Rt_put (tR T) (tSiz T) x1 0) <| fun T_1 => some ((sSiz T T_1))
abbrev rm_Tr_makeListEmpty : Room := ({ frames := 1, cells := 0, slots := 0, locals := 22 } : Room)
set_option maxHeartbeats 4000000 in
set_option maxRecDepth 100000 in
theorem c_Tr_makeListEmpty (l : Launch) (D : va_G) (cI cZ cT : ClassId) (h_T : Nat) (q_T : Nat → Nat) (T : TV) (x1 : Int) (sz : Nat) (res : TV) (h : f_Tr_makeListEmpty T x1 = some res) : zMv l yX4_makeListEmpty cX4_makeListEmpty 2 rm_Tr_makeListEmpty D (zt cI cZ cT) [.ref h_T, vI x1] ((zTr cI h_T q_T T)) sz (fun u => (zTr cI h_T q_T (res))) 0 0 := by
  refine z_enth (Qc := zQv D (fun u => (zTr cI h_T q_T (res)))) (by decide) (Nat.le_of_ble_eq_true rfl) (fun p e s m args below meth c A ls H locs hF hP hD hS hl => ?_)
  have hx := hF.1.1
  have hb := hF.1.2.1
  have hml := hF.1.2.2.1
  have hown : s.vm.findClass "RectangleTree$Tree" = some m.cls := hF.1.2.2.2.1
  have hts := hF.1.2.2.2.2
  have hr := hF.2.1
  have hlk := hF.2.2.1
  have hK := hF.2.2.2.2.1
  have hN := hF.2.2.2.2.2.1
  have hA := hF.2.2.2.2.2.2
  unfold f_Tr_makeListEmpty at h
  refine lv_aload_n hx hb dX4_makeListEmpty_0 rfl (lv_at hl 0 rfl) ?_
  refine va_get (D := D) (ci := 4) (v := .ref (q_T 2)) (C := RX4) (T := TX4) (N := 10) hx hb hts zin4 hown hK hP 0 rfl rfl 2 (by decide) (hts _ wm64) (fun _ h9 => h9) rfl dX4_makeListEmpty_1 ?_
  refine lv_iload_n hx hb dX4_makeListEmpty_4 rfl (lv_at hl 1 rfl) ?_
  refine lv_iconst (v := Int32.ofInt 0) hx hb dX4_makeListEmpty_5 rfl ?_
  obtain ⟨T_1, e_2, h⟩ := bd1_e h
  refine z_gov (wc := (zAr cI ((q_T 2)) ((tR T)) ((tSiz T)))) (wn := fun u_3 => (zTr cI h_T q_T (sSiz T T_1))) (wr := ([0, 1, 2, 4, 5].filterMap (fun i => ((zTr cI h_T q_T T))[i]?))) (va_runSN (As := [.ref (q_T 2), vI x1, vI 0]) (rest := []) hF.1 (c_Rt_put l D cI cZ cT (q_T 2) (tR T) (tSiz T) x1 0 H.size (T_1) e_2) ⟨va_cnB 3 hts (zW_good wm61) rfl rfl rfl (hN.at 0 rfl) (hts _ wm32) (by decide +kernel) ⟨Nat.le_of_ble_eq_true rfl, Nat.le_of_ble_eq_true rfl⟩, hts _ wm60, trivial⟩ ⟨zP.blind, zP.enter (z_subP (ws' := (zAr cI ((q_T 2)) ((tR T)) ((tSiz T)))) hP [3] rfl) hK (hD.sub [3] (by decide) rfl) hN⟩ rfl rfl hl.1 rfl (lv_room (Nat.le_of_ble_eq_true rfl)) dX4_makeListEmpty_6 ⟨Nat.le_refl _, Nat.le_refl _⟩) hP hD hS hA [3] [0, 1, 2, 4, 5] [0, 1, 2, 5, 3, 4] rfl rfl (by decide) (fun _ => rfl) (fun u_3 H locs hP hD hS hz => ?_)
  obtain rfl := Option.some.inj h
  exact z_vret hx hb hr hlk (fun _ _ => 0) hP hD hS dX4_makeListEmpty_9
def f_Tr_setCorners (T : TV) (x1 : Int) (x2 : Int) (x3 : Int) (x4 : Int) (x5 : Int) : Option (TV) :=
  gd (ck (x1 * 4)) <| if (x1 * 4) < 0 then (some (T)) else (gd (ck (((((tR T) * 4) : Nat) : Int) - 4)) <| if (((((tR T) * 4) : Nat) : Int) - 4) < (x1 * 4) then (some (T)) else (gd (0 ≤ (x1 * 4) ∧ (x1 * 4) < ((((tR T) * 4) : Nat) : Int)) <| gd (0 ≤ ((x1 * 4) + 1) ∧ ((x1 * 4) + 1) < ((((tR T) * 4) : Nat) : Int)) <| gd (ck ((x1 * 4) + 1)) <| gd (0 ≤ ((x1 * 4) + 2) ∧ ((x1 * 4) + 2) < ((((tR T) * 4) : Nat) : Int)) <| gd (ck ((x1 * 4) + 2)) <| gd (0 ≤ ((x1 * 4) + 3) ∧ ((x1 * 4) + 3) < ((((tR T) * 4) : Nat) : Int)) <| gd (ck ((x1 * 4) + 3)) <| some ((sCor T (up (up (up (up (tCor T) (((x1 * 4)).toNat) x2) ((((x1 * 4) + 1)).toNat) x3) ((((x1 * 4) + 2)).toNat) x4) ((((x1 * 4) + 3)).toNat) x5)))))
abbrev rm_Tr_setCorners : Room := ({ frames := 0, cells := 0, slots := 0, locals := 0 } : Room)
set_option maxHeartbeats 4000000 in
set_option maxRecDepth 100000 in
theorem c_Tr_setCorners (l : Launch) (D : va_G) (cI cZ cT : ClassId) (h_T : Nat) (q_T : Nat → Nat) (T : TV) (x1 : Int) (x2 : Int) (x3 : Int) (x4 : Int) (x5 : Int) (sz : Nat) (res : TV) (h : f_Tr_setCorners T x1 x2 x3 x4 x5 = some res) : zMv l yX4_setCorners cX4_setCorners 7 rm_Tr_setCorners D (zt cI cZ cT) [.ref h_T, vI x1, vI x2, vI x3, vI x4, vI x5] ((zTr cI h_T q_T T)) sz (fun u => (zTr cI h_T q_T (res))) 0 0 := by
  refine z_enth (Qc := zQv D (fun u => (zTr cI h_T q_T (res)))) (by decide) (Nat.le_of_ble_eq_true rfl) (fun p e s m args below meth c A ls H locs hF hP hD hS hl => ?_)
  have hx := hF.1.1
  have hb := hF.1.2.1
  have hml := hF.1.2.2.1
  have hown : s.vm.findClass "RectangleTree$Tree" = some m.cls := hF.1.2.2.2.1
  have hts := hF.1.2.2.2.2
  have hr := hF.2.1
  have hlk := hF.2.2.1
  have hK := hF.2.2.2.2.1
  have hN := hF.2.2.2.2.2.1
  have hA := hF.2.2.2.2.2.2
  unfold f_Tr_setCorners at h
  refine lv_iload_n hx hb dX4_setCorners_0 rfl (lv_at hl 1 rfl) ?_
  refine lv_iconst (v := Int32.ofInt 4) hx hb dX4_setCorners_1 rfl ?_
  refine z_imul hx hb dX4_setCorners_2 ?_
  refine lv_istore (lv' := [(6, vI (x1 * 4)), (0, .ref h_T), (1, vI x1), (2, vI x2), (3, vI x3), (4, vI x4), (5, vI x5)]) hx hb dX4_setCorners_3 hl (by decide) rfl (fun ls hl => ?_)
  refine lv_iload hx hb dX4_setCorners_5 (lv_at hl 0 rfl) ?_
  obtain ⟨g_1, h⟩ := gd_e h
  refine z_if_lt (tgt := 62) hx hb g_1 dX4_setCorners_7 (by decide) (fun b_2 => ?_) (fun b_2 => ?_)
  · have h := it_p b_2 h
    obtain rfl := Option.some.inj h
    exact z_vret hx hb hr hlk (fun _ _ => 0) hP hD hS dX4_setCorners_62
  · have h := it_n b_2 h
    refine lv_iload hx hb dX4_setCorners_10 (lv_at hl 0 rfl) ?_
    refine lv_aload_n hx hb dX4_setCorners_12 rfl (lv_at hl 1 rfl) ?_
    refine va_get (D := D) (ci := 4) (v := .ref (q_T 3)) (C := RX4) (T := TX4) (N := 10) hx hb hts zin4 hown hK hP 0 rfl rfl 3 (by decide) (hts _ wm65) (fun _ h9 => h9) rfl dX4_setCorners_13 ?_
    refine z_alen (n := ((tR T) * 4)) (f := (tCor T)) hx hb hK hP 4 rfl rfl dX4_setCorners_16 ?_
    refine lv_iconst (v := Int32.ofInt 4) hx hb dX4_setCorners_17 rfl ?_
    refine z_isub hx hb dX4_setCorners_18 ?_
    obtain ⟨g_3, h⟩ := gd_e h
    refine z_icmp_gt (tgt := 62) hx hb g_1 g_3 dX4_setCorners_19 (by decide) (fun b_4 => ?_) (fun b_4 => ?_)
    · have h := it_p b_4 h
      obtain rfl := Option.some.inj h
      exact z_vret hx hb hr hlk (fun _ _ => 0) hP hD hS dX4_setCorners_62
    · have h := it_n b_4 h
      refine lv_aload_n hx hb dX4_setCorners_22 rfl (lv_at hl 1 rfl) ?_
      refine va_get (D := D) (ci := 4) (v := .ref (q_T 3)) (C := RX4) (T := TX4) (N := 10) hx hb hts zin4 hown hK hP 0 rfl rfl 3 (by decide) (hts _ wm65) (fun _ h9 => h9) rfl dX4_setCorners_23 ?_
      refine lv_iload hx hb dX4_setCorners_26 (lv_at hl 0 rfl) ?_
      refine lv_iload_n hx hb dX4_setCorners_28 rfl (lv_at hl 3 rfl) ?_
      obtain ⟨g_5, h⟩ := gd_e h
      refine z_iast (n := ((tR T) * 4)) (f := (tCor T)) (i := (x1 * 4)) (x := x2) (ws' := (zTr cI h_T q_T (sCor T (up (tCor T) (((x1 * 4)).toNat) x2)))) hx hb hK hP hD hS 4 rfl rfl g_5 g_1.2 dX4_setCorners_29 rfl (fun H locs hP hD hS => ?_)
      refine lv_aload_n hx hb dX4_setCorners_30 rfl (lv_at hl 1 rfl) ?_
      refine va_get (D := D) (ci := 4) (v := .ref (q_T 3)) (C := RX4) (T := TX4) (N := 10) hx hb hts zin4 hown hK hP 0 rfl rfl 3 (by decide) (hts _ wm65) (fun _ h9 => h9) rfl dX4_setCorners_31 ?_
      refine lv_iload hx hb dX4_setCorners_34 (lv_at hl 0 rfl) ?_
      refine lv_iconst (v := Int32.ofInt 1) hx hb dX4_setCorners_36 rfl ?_
      refine z_iadd hx hb dX4_setCorners_37 ?_
      refine lv_iload_n hx hb dX4_setCorners_38 rfl (lv_at hl 4 rfl) ?_
      obtain ⟨g_6, h⟩ := gd_e h
      obtain ⟨g_7, h⟩ := gd_e h
      refine z_iast (n := ((tR T) * 4)) (f := (up (tCor T) (((x1 * 4)).toNat) x2)) (i := ((x1 * 4) + 1)) (x := x3) (ws' := (zTr cI h_T q_T (sCor T (up (up (tCor T) (((x1 * 4)).toNat) x2) ((((x1 * 4) + 1)).toNat) x3)))) hx hb hK hP hD hS 4 rfl rfl g_6 g_7.2 dX4_setCorners_39 rfl (fun H locs hP hD hS => ?_)
      refine lv_aload_n hx hb dX4_setCorners_40 rfl (lv_at hl 1 rfl) ?_
      refine va_get (D := D) (ci := 4) (v := .ref (q_T 3)) (C := RX4) (T := TX4) (N := 10) hx hb hts zin4 hown hK hP 0 rfl rfl 3 (by decide) (hts _ wm65) (fun _ h9 => h9) rfl dX4_setCorners_41 ?_
      refine lv_iload hx hb dX4_setCorners_44 (lv_at hl 0 rfl) ?_
      refine lv_iconst (v := Int32.ofInt 2) hx hb dX4_setCorners_46 rfl ?_
      refine z_iadd hx hb dX4_setCorners_47 ?_
      refine lv_iload hx hb dX4_setCorners_48 (lv_at hl 5 rfl) ?_
      obtain ⟨g_8, h⟩ := gd_e h
      obtain ⟨g_9, h⟩ := gd_e h
      refine z_iast (n := ((tR T) * 4)) (f := (up (up (tCor T) (((x1 * 4)).toNat) x2) ((((x1 * 4) + 1)).toNat) x3)) (i := ((x1 * 4) + 2)) (x := x4) (ws' := (zTr cI h_T q_T (sCor T (up (up (up (tCor T) (((x1 * 4)).toNat) x2) ((((x1 * 4) + 1)).toNat) x3) ((((x1 * 4) + 2)).toNat) x4)))) hx hb hK hP hD hS 4 rfl rfl g_8 g_9.2 dX4_setCorners_50 rfl (fun H locs hP hD hS => ?_)
      refine lv_aload_n hx hb dX4_setCorners_51 rfl (lv_at hl 1 rfl) ?_
      refine va_get (D := D) (ci := 4) (v := .ref (q_T 3)) (C := RX4) (T := TX4) (N := 10) hx hb hts zin4 hown hK hP 0 rfl rfl 3 (by decide) (hts _ wm65) (fun _ h9 => h9) rfl dX4_setCorners_52 ?_
      refine lv_iload hx hb dX4_setCorners_55 (lv_at hl 0 rfl) ?_
      refine lv_iconst (v := Int32.ofInt 3) hx hb dX4_setCorners_57 rfl ?_
      refine z_iadd hx hb dX4_setCorners_58 ?_
      refine lv_iload hx hb dX4_setCorners_59 (lv_at hl 6 rfl) ?_
      obtain ⟨g_10, h⟩ := gd_e h
      obtain ⟨g_11, h⟩ := gd_e h
      refine z_iast (n := ((tR T) * 4)) (f := (up (up (up (tCor T) (((x1 * 4)).toNat) x2) ((((x1 * 4) + 1)).toNat) x3) ((((x1 * 4) + 2)).toNat) x4)) (i := ((x1 * 4) + 3)) (x := x5) (ws' := (zTr cI h_T q_T (sCor T (up (up (up (up (tCor T) (((x1 * 4)).toNat) x2) ((((x1 * 4) + 1)).toNat) x3) ((((x1 * 4) + 2)).toNat) x4) ((((x1 * 4) + 3)).toNat) x5)))) hx hb hK hP hD hS 4 rfl rfl g_10 g_11.2 dX4_setCorners_61 rfl (fun H locs hP hD hS => ?_)
      obtain rfl := Option.some.inj h
      exact z_vret hx hb hr hlk (fun _ _ => 0) hP hD hS dX4_setCorners_62
def f_Tr_newBox (T : TV) (x1 : Int) (x2 : Int) (x3 : Int) (x4 : Int) : Option (Int × TV) :=
  bd1 (f_Tr_firstFree T 0 24) <| fun r_1 => gd (ck r_1) <| if r_1 = (-1) then (some (r_1, T)) else (bd1 (f_Tr_take T r_1 (-1)) <| fun T_6 => bd1 (f_Tr_setCorners T_6 r_1 x1 x2 x3 x4) <| fun T_9 => some (r_1, T_9))
abbrev rm_Tr_newBox : Room := ({ frames := 2, cells := 0, slots := 0, locals := 44 } : Room)
set_option maxHeartbeats 4000000 in
set_option maxRecDepth 100000 in
theorem c_Tr_newBox (l : Launch) (D : va_G) (cI cZ cT : ClassId) (h_T : Nat) (q_T : Nat → Nat) (T : TV) (x1 : Int) (x2 : Int) (x3 : Int) (x4 : Int) (sz : Nat) (res : Int × TV) (h : f_Tr_newBox T x1 x2 x3 x4 = some res) : zMi l yX4_newBox cX4_newBox 6 rm_Tr_newBox D (zt cI cZ cT) [.ref h_T, vI x1, vI x2, vI x3, vI x4] ((zTr cI h_T q_T T)) sz (res.1) (fun u => (zTr cI h_T q_T (res.2))) 0 0 := by
  refine z_enth (Qc := zQi D (res.1) (fun u => (zTr cI h_T q_T (res.2)))) (by decide) (Nat.le_of_ble_eq_true rfl) (fun p e s m args below meth c A ls H locs hF hP hD hS hl => ?_)
  have hx := hF.1.1
  have hb := hF.1.2.1
  have hml := hF.1.2.2.1
  have hown : s.vm.findClass "RectangleTree$Tree" = some m.cls := hF.1.2.2.2.1
  have hts := hF.1.2.2.2.2
  have hr := hF.2.1
  have hlk := hF.2.2.1
  have hK := hF.2.2.2.2.1
  have hN := hF.2.2.2.2.2.1
  have hA := hF.2.2.2.2.2.2
  unfold f_Tr_newBox at h
  refine lv_aload_n hx hb dX4_newBox_0 rfl (lv_at hl 0 rfl) ?_
  refine lv_iconst (v := Int32.ofInt 0) hx hb dX4_newBox_1 rfl ?_
  refine lv_bipush (v := Int32.ofInt 24) hx hb dX4_newBox_2 (by decide +kernel) ?_
  obtain ⟨r_1, e_2, h⟩ := bd1_e h
  refine z_goi (ws' := []) (ret := r_1) (wc := (zTr cI (h_T) (q_T) (T))) (wn := fun u_3 => (zTr cI h_T q_T T)) (wr := []) (va_runV (As := [vI 0, vI 24]) (rest := []) hF.1 (c_Tr_firstFree l D cI cZ cT h_T q_T T 0 24 H.size (r_1) e_2) (cwV 2 hts (zgV wm484 wm486 wm5 wm33 wm487) rfl rfl rfl (by decide +kernel) ⟨Nat.le_of_ble_eq_true rfl, Nat.le_of_ble_eq_true rfl⟩) ⟨zP.blind, va_recv hK (z_subP (ws' := (zTr cI (h_T) (q_T) (T))) hP [0, 1, 2, 3, 4, 5] rfl) (ci := 4) (q0 := 0) rfl rfl, zP.enter (z_subP (ws' := (zTr cI (h_T) (q_T) (T))) hP [0, 1, 2, 3, 4, 5] rfl) hK (hD.sub [0, 1, 2, 3, 4, 5] (by decide) rfl) hN⟩ rfl rfl hl.1 rfl (lv_room (Nat.le_of_ble_eq_true rfl)) dX4_newBox_4 ⟨Nat.le_refl _, Nat.le_refl _⟩) hP hD hS hA [0, 1, 2, 3, 4, 5] [] [0, 1, 2, 3, 4, 5] rfl rfl (by decide) (fun _ => rfl) (fun u_3 H locs hP hD hS hz => ?_)
  refine lv_istore (lv' := [(5, vI r_1), (0, .ref h_T), (1, vI x1), (2, vI x2), (3, vI x3), (4, vI x4)]) hx hb dX4_newBox_7 hl (by decide) rfl (fun ls hl => ?_)
  refine lv_iload hx hb dX4_newBox_9 (lv_at hl 0 rfl) ?_
  refine lv_iconst (v := Int32.ofInt (-1)) hx hb dX4_newBox_11 rfl ?_
  obtain ⟨g_4, h⟩ := gd_e h
  refine z_icmp_eq (tgt := 33) hx hb g_4 (by decide) dX4_newBox_12 (by decide) (fun b_5 => ?_) (fun b_5 => ?_)
  · have h := it_p b_5 h
    refine lv_iload hx hb dX4_newBox_33 (lv_at hl 0 rfl) ?_
    obtain rfl := Option.some.inj h
    exact z_iret hx hb hr hlk (fun _ _ => 0) hP hD hS dX4_newBox_35
  · have h := it_n b_5 h
    refine lv_aload_n hx hb dX4_newBox_15 rfl (lv_at hl 1 rfl) ?_
    refine lv_iload hx hb dX4_newBox_16 (lv_at hl 0 rfl) ?_
    refine lv_iconst (v := Int32.ofInt (-1)) hx hb dX4_newBox_18 rfl ?_
    obtain ⟨T_6, e_7, h⟩ := bd1_e h
    refine z_gov (wc := (zTr cI (h_T) (q_T) (T))) (wn := fun u_8 => (zTr cI h_T q_T T_6)) (wr := []) (va_runV (As := [vI r_1, vI (-1)]) (rest := []) hF.1 (c_Tr_take l D cI cZ cT h_T q_T T r_1 (-1) H.size (T_6) e_7) (cwV 2 hts (zgV wm488 wm490 wm6 wm33 wm491) rfl rfl rfl (by decide +kernel) ⟨Nat.le_of_ble_eq_true rfl, Nat.le_of_ble_eq_true rfl⟩) ⟨zP.blind, va_recv hK (z_subP (ws' := (zTr cI (h_T) (q_T) (T))) hP [0, 1, 2, 3, 4, 5] rfl) (ci := 4) (q0 := 0) rfl rfl, zP.enter (z_subP (ws' := (zTr cI (h_T) (q_T) (T))) hP [0, 1, 2, 3, 4, 5] rfl) hK (hD.sub [0, 1, 2, 3, 4, 5] (by decide) rfl) hN⟩ rfl rfl hl.1 rfl (lv_room (Nat.le_of_ble_eq_true rfl)) dX4_newBox_19 ⟨Nat.le_refl _, Nat.le_refl _⟩) hP hD hS hA [0, 1, 2, 3, 4, 5] [] [0, 1, 2, 3, 4, 5] rfl rfl (by decide) (fun _ => rfl) (fun u_8 H locs hP hD hS hz => ?_)
    refine lv_aload_n hx hb dX4_newBox_22 rfl (lv_at hl 1 rfl) ?_
    refine lv_iload hx hb dX4_newBox_23 (lv_at hl 0 rfl) ?_
    refine lv_iload_n hx hb dX4_newBox_25 rfl (lv_at hl 2 rfl) ?_
    refine lv_iload_n hx hb dX4_newBox_26 rfl (lv_at hl 3 rfl) ?_
    refine lv_iload_n hx hb dX4_newBox_27 rfl (lv_at hl 4 rfl) ?_
    refine lv_iload hx hb dX4_newBox_28 (lv_at hl 5 rfl) ?_
    obtain ⟨T_9, e_10, h⟩ := bd1_e h
    refine z_gov (wc := (zTr cI (h_T) (q_T) (T_6))) (wn := fun u_11 => (zTr cI h_T q_T T_9)) (wr := []) (va_runV (As := [vI r_1, vI x1, vI x2, vI x3, vI x4]) (rest := []) hF.1 (c_Tr_setCorners l D cI cZ cT h_T q_T T_6 r_1 x1 x2 x3 x4 H.size (T_9) e_10) (cwV 5 hts (zgV wm492 wm494 wm7 wm33 wm495) rfl rfl rfl (by decide +kernel) ⟨Nat.le_of_ble_eq_true rfl, Nat.le_of_ble_eq_true rfl⟩) ⟨zP.blind, va_recv hK (z_subP (ws' := (zTr cI (h_T) (q_T) (T_6))) hP [0, 1, 2, 3, 4, 5] rfl) (ci := 4) (q0 := 0) rfl rfl, zP.enter (z_subP (ws' := (zTr cI (h_T) (q_T) (T_6))) hP [0, 1, 2, 3, 4, 5] rfl) hK (hD.sub [0, 1, 2, 3, 4, 5] (by decide) rfl) hN⟩ rfl rfl hl.1 rfl (lv_room (Nat.le_of_ble_eq_true rfl)) dX4_newBox_30 ⟨Nat.le_refl _, Nat.le_refl _⟩) hP hD hS hA [0, 1, 2, 3, 4, 5] [] [0, 1, 2, 3, 4, 5] rfl rfl (by decide) (fun _ => rfl) (fun u_11 H locs hP hD hS hz => ?_)
    refine lv_iload hx hb dX4_newBox_33 (lv_at hl 0 rfl) ?_
    obtain rfl := Option.some.inj h
    exact z_iret hx hb hr hlk (fun _ _ => 0) hP hD hS dX4_newBox_35
def f_Tr_releaseNodes_L3 (k : Int → TV → Option (TV)) : Nat → Int → TV → Option (TV)
  | 0, _, _ => none
  | n + 1, x1, T =>
  gd (ck x1) <| if x1 < 157 then (bd1 (f_Tr_release T x1) <| fun T_3 => f_Tr_releaseNodes_L3 k n ((x1 + 1)) (T_3)) else (k (x1) (T))
def f_Tr_releaseNodes (T : TV) : Option (TV) :=
  f_Tr_releaseNodes_L3 (fun x1_6 T_7 => some (T_7)) FU (24) (T)
abbrev rm_Tr_releaseNodes : Room := ({ frames := 3, cells := 0, slots := 0, locals := 65 } : Room)
set_option maxHeartbeats 4000000 in
set_option maxRecDepth 100000 in
theorem w_Tr_releaseNodes_L3 {p : Program} {l : Launch} {e : Env} {s : State} {m : MethodId} {args : Array Value} {below : List Frame} {meth : Method} {c : Code} {A : Nat → Prop} (D : va_G) (cI cZ cT : ClassId) (h_T : Nat) (q_T : Nat → Nat) (res : TV) (k : Int → TV → Option (TV)) (hF : zF p m c cX4_releaseNodes 2 s args yX4_releaseNodes.cls meth none yX4_releaseNodes.name A D (zt cI cZ cT))
    (hk : ∀ (x1 : Int) (T : TV) (H : Heap) (locs : List Loc) (ls : Array Slot), k x1 T = some res → va_P D vwCl ((zTr cI h_T q_T T)) H → va_D A ((zTr cI h_T q_T T)) → va_S A s.heap H locs → lv_has ls 2 [] → W p l e rm_Tr_releaseNodes s m args below meth c H locs 0 0 (MQ below (zQv D (fun u => (zTr cI h_T q_T (res))) A) args s 0 0 A) (F0 m 21 ls [])) :
    ∀ (n : Nat) (x1 : Int) (T : TV) (H : Heap) (locs : List Loc) (ls : Array Slot), f_Tr_releaseNodes_L3 k n x1 T = some res → va_P D vwCl ((zTr cI h_T q_T T)) H → va_D A ((zTr cI h_T q_T T)) → va_S A s.heap H locs → lv_has ls 2 [(0, .ref h_T), (1, vI x1)] → W p l e rm_Tr_releaseNodes s m args below meth c H locs 0 0 (MQ below (zQv D (fun u => (zTr cI h_T q_T (res))) A) args s 0 0 A) (F0 m 3 ls []) := by
  have hx := hF.1.1
  have hb := hF.1.2.1
  have hml := hF.1.2.2.1
  have hown : s.vm.findClass "RectangleTree$Tree" = some m.cls := hF.1.2.2.2.1
  have hts := hF.1.2.2.2.2
  have hr := hF.2.1
  have hlk := hF.2.2.1
  have hK := hF.2.2.2.2.1
  have hN := hF.2.2.2.2.2.1
  have hA := hF.2.2.2.2.2.2
  intro n
  induction n with
  | zero => intro x1 T H locs ls h; cases h
  | succ n ih =>
    intro x1 T H locs ls h hP hD hS hl
    rw [f_Tr_releaseNodes_L3] at h
    refine lv_iload_n hx hb dX4_releaseNodes_3 rfl (lv_at hl 1 rfl) ?_
    refine lv_sipush (v := Int32.ofInt 157) hx hb dX4_releaseNodes_4 (by decide +kernel) ?_
    obtain ⟨g_1, h⟩ := gd_e h
    refine z_icmp_ge (tgt := 21) hx hb g_1 (by decide) dX4_releaseNodes_7 (by decide) (fun b_2 => ?_) (fun b_2 => ?_)
    · have h := it_n b_2 h
      exact hk (x1) (T) H locs ls h hP hD hS (lv_sub hl [] rfl)
    · have h := it_p b_2 h
      refine lv_aload_n hx hb dX4_releaseNodes_10 rfl (lv_at hl 0 rfl) ?_
      refine lv_iload_n hx hb dX4_releaseNodes_11 rfl (lv_at hl 1 rfl) ?_
      obtain ⟨T_3, e_4, h⟩ := bd1_e h
      refine z_gov (wc := (zTr cI (h_T) (q_T) (T))) (wn := fun u_5 => (zTr cI h_T q_T T_3)) (wr := []) (va_runV (As := [vI x1]) (rest := []) hF.1 (c_Tr_release l D cI cZ cT h_T q_T T x1 H.size (T_3) e_4) (cwV 1 hts (zgV wm648 wm632 wm633 wm33 wm634) rfl rfl rfl (by decide +kernel) ⟨Nat.le_of_ble_eq_true rfl, Nat.le_of_ble_eq_true rfl⟩) ⟨zP.blind, va_recv hK (z_subP (ws' := (zTr cI (h_T) (q_T) (T))) hP [0, 1, 2, 3, 4, 5] rfl) (ci := 4) (q0 := 0) rfl rfl, zP.enter (z_subP (ws' := (zTr cI (h_T) (q_T) (T))) hP [0, 1, 2, 3, 4, 5] rfl) hK (hD.sub [0, 1, 2, 3, 4, 5] (by decide) rfl) hN⟩ rfl rfl hl.1 rfl (lv_room (Nat.le_of_ble_eq_true rfl)) dX4_releaseNodes_12 ⟨Nat.le_refl _, Nat.le_refl _⟩) hP hD hS hA [0, 1, 2, 3, 4, 5] [] [0, 1, 2, 3, 4, 5] rfl rfl (by decide) (fun _ => rfl) (fun u_5 H locs hP hD hS hz => ?_)
      refine lv_iinc (v := Int32.ofInt (x1 + 1)) (lv' := [(1, vI (x1 + 1)), (0, .ref h_T)]) hx hb dX4_releaseNodes_15 hl (k := 1) rfl (z_inc _ _) (by decide) rfl (fun ls hl => ?_)
      refine lv_goto (tgt := 3) hx hb dX4_releaseNodes_18 (by decide) ?_
      exact ih ((x1 + 1)) (T_3) H locs ls h hP hD hS (lv_sub hl [1, 0] rfl)
set_option maxHeartbeats 4000000 in
set_option maxRecDepth 100000 in
theorem c_Tr_releaseNodes (l : Launch) (D : va_G) (cI cZ cT : ClassId) (h_T : Nat) (q_T : Nat → Nat) (T : TV) (sz : Nat) (res : TV) (h : f_Tr_releaseNodes T = some res) : zMv l yX4_releaseNodes cX4_releaseNodes 2 rm_Tr_releaseNodes D (zt cI cZ cT) [.ref h_T] ((zTr cI h_T q_T T)) sz (fun u => (zTr cI h_T q_T (res))) 0 0 := by
  refine z_enth (Qc := zQv D (fun u => (zTr cI h_T q_T (res)))) (by decide) (Nat.le_of_ble_eq_true rfl) (fun p e s m args below meth c A ls H locs hF hP hD hS hl => ?_)
  have hx := hF.1.1
  have hb := hF.1.2.1
  have hml := hF.1.2.2.1
  have hown : s.vm.findClass "RectangleTree$Tree" = some m.cls := hF.1.2.2.2.1
  have hts := hF.1.2.2.2.2
  have hr := hF.2.1
  have hlk := hF.2.2.1
  have hK := hF.2.2.2.2.1
  have hN := hF.2.2.2.2.2.1
  have hA := hF.2.2.2.2.2.2
  unfold f_Tr_releaseNodes at h
  refine lv_bipush (v := Int32.ofInt 24) hx hb dX4_releaseNodes_0 (by decide +kernel) ?_
  refine lv_istore_n (lv' := [(1, vI 24), (0, .ref h_T)]) hx hb dX4_releaseNodes_2 rfl hl (by decide) rfl (fun ls hl => ?_)
  refine w_Tr_releaseNodes_L3 D cI cZ cT (h_T) (q_T) _ _ hF (fun x1_6 T_7 H locs ls h hP hD hS hl => ?_) _ (24) (T) _ _ _ h hP hD hS (lv_sub hl [1, 0] rfl)
  obtain rfl := Option.some.inj h
  exact z_vret hx hb hr hlk (fun _ _ => 0) hP hD hS dX4_releaseNodes_21
def f_Tr_refreshUp_L42 (T : TV) (x2 : Int) (x8 : Int) (k : Int → Int → Int → Int → Int → Option (TV)) : Nat → Int → Int → Int → Int → Int → Option (TV)
  | 0, _, _, _, _, _ => none
  | n + 1, x4, x5, x6, x7, x9 =>
  gd (ck x9) <| gd (ck x8) <| if x9 < x8 then (bd1 (f_Rt_at ((tR T) * 6) (tLis T) ((x2 * 6) + x9)) <| fun r_14 => bd1 (f_Tr_corner T r_14 0) <| fun r_17 => gd (ck x4) <| gd (ck r_17) <| bd1 (f_Tr_corner T r_14 1) <| fun r_23 => gd (ck x5) <| gd (ck r_23) <| bd1 (f_Tr_corner T r_14 2) <| fun r_29 => gd (ck x6) <| gd (ck r_29) <| bd1 (f_Tr_corner T r_14 3) <| fun r_35 => gd (ck x7) <| gd (ck r_35) <| f_Tr_refreshUp_L42 T x2 x8 k n ((min x4 r_17)) ((min x5 r_23)) ((max x6 r_29)) ((max x7 r_35)) ((x9 + 1))) else (k (x4) (x5) (x6) (x7) (x9))
def f_Tr_refreshUp_L4 (k : Int → Int → TV → Option (TV)) : Nat → Int → Int → TV → Option (TV)
  | 0, _, _, _ => none
  | n + 1, x2, x3, T =>
  bd1 (f_Tr_isNode T x2) <| fun r_1 => gd (ck r_1) <| if r_1 = 0 then (k (x2) (x3) (T)) else (gd (ck x3) <| if x3 < 1000000 then (bd1 (f_Tr_sizeOf T x2) <| fun r_8 => f_Tr_refreshUp_L42 (T) (x2) (r_8) (fun x4_41 x5_42 x6_43 x7_44 x9_45 => bd1 (f_Tr_setCorners T x2 x4_41 x5_42 x6_43 x7_44) <| fun T_46 => bd1 (f_Rt_at (tR T_46) (tHol T_46) x2) <| fun r_49 => f_Tr_refreshUp_L4 k n (r_49) ((x3 + 1)) (T_46)) FU (99) (99) (0) (0) (0)) else (k (x2) (x3) (T)))
def f_Tr_refreshUp (T : TV) (x1 : Int) : Option (TV) :=
  f_Tr_refreshUp_L4 (fun x2_52 x3_53 T_54 => some (T_54)) FU (x1) (0) (T)
abbrev rm_Tr_refreshUp : Room := ({ frames := 1, cells := 0, slots := 0, locals := 26 } : Room)
set_option maxHeartbeats 4000000 in
set_option maxRecDepth 100000 in
theorem w_Tr_refreshUp_L42 {p : Program} {l : Launch} {e : Env} {s : State} {m : MethodId} {args : Array Value} {below : List Frame} {meth : Method} {c : Code} {A : Nat → Prop} (D : va_G) (cI cZ cT : ClassId) (h_T : Nat) (q_T : Nat → Nat) (T : TV) (x2 : Int) (x3 : Int) (x8 : Int) (res : TV) (k : Int → Int → Int → Int → Int → Option (TV)) (hF : zF p m c cX4_refreshUp 11 s args yX4_refreshUp.cls meth none yX4_refreshUp.name A D (zt cI cZ cT))
    (hk : ∀ (x4 : Int) (x5 : Int) (x6 : Int) (x7 : Int) (x9 : Int) (H : Heap) (locs : List Loc) (ls : Array Slot), k x4 x5 x6 x7 x9 = some res → va_P D vwCl ((zTr cI h_T q_T T)) H → va_D A ((zTr cI h_T q_T T)) → va_S A s.heap H locs → lv_has ls 11 [(0, .ref h_T), (2, vI x2), (3, vI x3), (4, vI x4), (5, vI x5), (6, vI x6), (7, vI x7)] → W p l e rm_Tr_refreshUp s m args below meth c H locs 0 0 (MQ below (zQv D (fun u => (zTr cI h_T q_T (res))) A) args s 0 0 A) (F0 m 127 ls [])) :
    ∀ (n : Nat) (x4 : Int) (x5 : Int) (x6 : Int) (x7 : Int) (x9 : Int) (H : Heap) (locs : List Loc) (ls : Array Slot), f_Tr_refreshUp_L42 T x2 x8 k n x4 x5 x6 x7 x9 = some res → va_P D vwCl ((zTr cI h_T q_T T)) H → va_D A ((zTr cI h_T q_T T)) → va_S A s.heap H locs → lv_has ls 11 [(0, .ref h_T), (2, vI x2), (3, vI x3), (4, vI x4), (5, vI x5), (6, vI x6), (7, vI x7), (8, vI x8), (9, vI x9)] → W p l e rm_Tr_refreshUp s m args below meth c H locs 0 0 (MQ below (zQv D (fun u => (zTr cI h_T q_T (res))) A) args s 0 0 A) (F0 m 42 ls []) := by
  have hx := hF.1.1
  have hb := hF.1.2.1
  have hml := hF.1.2.2.1
  have hown : s.vm.findClass "RectangleTree$Tree" = some m.cls := hF.1.2.2.2.1
  have hts := hF.1.2.2.2.2
  have hr := hF.2.1
  have hlk := hF.2.2.1
  have hK := hF.2.2.2.2.1
  have hN := hF.2.2.2.2.2.1
  have hA := hF.2.2.2.2.2.2
  intro n
  induction n with
  | zero => intro x4 x5 x6 x7 x9 H locs ls h; cases h
  | succ n ih =>
    intro x4 x5 x6 x7 x9 H locs ls h hP hD hS hl
    rw [f_Tr_refreshUp_L42] at h
    refine lv_iload hx hb dX4_refreshUp_42 (lv_at hl 8 rfl) ?_
    refine lv_iload hx hb dX4_refreshUp_44 (lv_at hl 7 rfl) ?_
    obtain ⟨g_11, h⟩ := gd_e h
    obtain ⟨g_12, h⟩ := gd_e h
    refine z_icmp_ge (tgt := 127) hx hb g_11 g_12 dX4_refreshUp_46 (by decide) (fun b_13 => ?_) (fun b_13 => ?_)
    · have h := it_n b_13 h
      exact hk (x4) (x5) (x6) (x7) (x9) H locs ls h hP hD hS (lv_sub hl [0, 1, 2, 3, 4, 5, 6] rfl)
    · have h := it_p b_13 h
      refine lv_aload_n hx hb dX4_refreshUp_49 rfl (lv_at hl 0 rfl) ?_
      refine va_get (D := D) (ci := 4) (v := .ref (q_T 4)) (C := RX4) (T := TX4) (N := 10) hx hb hts zin4 hown hK hP 0 rfl rfl 4 (by decide) (hts _ wm66) (fun _ h9 => h9) rfl dX4_refreshUp_50 ?_
      refine lv_iload_n hx hb dX4_refreshUp_53 rfl (lv_at hl 1 rfl) ?_
      refine lv_bipush (v := Int32.ofInt 6) hx hb dX4_refreshUp_54 (by decide +kernel) ?_
      refine z_imul hx hb dX4_refreshUp_56 ?_
      refine lv_iload hx hb dX4_refreshUp_57 (lv_at hl 8 rfl) ?_
      refine z_iadd hx hb dX4_refreshUp_59 ?_
      obtain ⟨r_14, e_15, h⟩ := bd1_e h
      refine z_goi (ws' := []) (ret := r_14) (wc := (zAr cI ((q_T 4)) (((tR T) * 6)) ((tLis T)))) (wn := fun u_16 => (zTr cI h_T q_T T)) (wr := ([0, 1, 2, 3, 4].filterMap (fun i => ((zTr cI h_T q_T T))[i]?))) (va_runSN (As := [.ref (q_T 4), vI ((x2 * 6) + x9)]) (rest := []) hF.1 (c_Rt_at l D cI cZ cT (q_T 4) ((tR T) * 6) (tLis T) ((x2 * 6) + x9) H.size (r_14) e_15) ⟨va_cnB 2 hts (zW_good wm229) rfl rfl rfl (hN.at 6 rfl) (hts _ wm32) (by decide +kernel) ⟨Nat.le_of_ble_eq_true rfl, Nat.le_of_ble_eq_true rfl⟩, hts _ wm228, trivial⟩ ⟨zP.blind, zP.enter (z_subP (ws' := (zAr cI ((q_T 4)) (((tR T) * 6)) ((tLis T)))) hP [5] rfl) hK (hD.sub [5] (by decide) rfl) hN⟩ rfl rfl hl.1 rfl (lv_room (Nat.le_of_ble_eq_true rfl)) dX4_refreshUp_60 ⟨Nat.le_refl _, Nat.le_refl _⟩) hP hD hS hA [5] [0, 1, 2, 3, 4] [0, 1, 2, 3, 4, 5] rfl rfl (by decide) (fun _ => rfl) (fun u_16 H locs hP hD hS hz => ?_)
      refine lv_istore (lv' := [(10, vI r_14), (0, .ref h_T), (2, vI x2), (3, vI x3), (4, vI x4), (5, vI x5), (6, vI x6), (7, vI x7), (8, vI x8), (9, vI x9)]) hx hb dX4_refreshUp_63 hl (by decide) rfl (fun ls hl => ?_)
      refine lv_iload hx hb dX4_refreshUp_65 (lv_at hl 4 rfl) ?_
      refine lv_aload_n hx hb dX4_refreshUp_67 rfl (lv_at hl 1 rfl) ?_
      refine lv_iload hx hb dX4_refreshUp_68 (lv_at hl 0 rfl) ?_
      refine lv_iconst (v := Int32.ofInt 0) hx hb dX4_refreshUp_70 rfl ?_
      obtain ⟨r_17, e_18, h⟩ := bd1_e h
      refine z_goi (ws' := []) (ret := r_17) (wc := (zTr cI (h_T) (q_T) (T))) (wn := fun u_19 => (zTr cI h_T q_T T)) (wr := []) (va_runV (As := [vI r_14, vI 0]) (rest := [vI x4]) hF.1 (c_Tr_corner l D cI cZ cT h_T q_T T r_14 0 H.size (r_17) e_18) (cwV 2 hts (zgV wm387 wm318 wm319 wm33 wm320) rfl rfl rfl (by decide +kernel) ⟨Nat.le_of_ble_eq_true rfl, Nat.le_of_ble_eq_true rfl⟩) ⟨zP.blind, va_recv hK (z_subP (ws' := (zTr cI (h_T) (q_T) (T))) hP [0, 1, 2, 3, 4, 5] rfl) (ci := 4) (q0 := 0) rfl rfl, zP.enter (z_subP (ws' := (zTr cI (h_T) (q_T) (T))) hP [0, 1, 2, 3, 4, 5] rfl) hK (hD.sub [0, 1, 2, 3, 4, 5] (by decide) rfl) hN⟩ rfl rfl hl.1 rfl (lv_room (Nat.le_of_ble_eq_true rfl)) dX4_refreshUp_71 ⟨Nat.le_refl _, Nat.le_refl _⟩) hP hD hS hA [0, 1, 2, 3, 4, 5] [] [0, 1, 2, 3, 4, 5] rfl rfl (by decide) (fun _ => rfl) (fun u_19 H locs hP hD hS hz => ?_)
      obtain ⟨g_20, h⟩ := gd_e h
      obtain ⟨g_21, h⟩ := gd_e h
      refine z_mmin (rest := []) hx hb (by rw [hml]; exact hl.1.symm) hown (hts _ wm400) (hts _ wm401) (hts _ wm40) (hts _ wm402) (Nat.le_of_ble_eq_true rfl) (Nat.le_of_ble_eq_true rfl) (Nat.le_refl _) (Nat.le_refl _) g_20 g_21 dX4_refreshUp_74 ?_
      have g_22 : ck (min x4 r_17) := ⟨by have := And.intro (show ck x4 from g_20) (show ck r_17 from g_21); omega, by have := And.intro (show ck x4 from g_20) (show ck r_17 from g_21); omega⟩
      refine lv_istore (lv' := [(4, vI (min x4 r_17)), (10, vI r_14), (0, .ref h_T), (2, vI x2), (3, vI x3), (5, vI x5), (6, vI x6), (7, vI x7), (8, vI x8), (9, vI x9)]) hx hb dX4_refreshUp_77 hl (by decide) rfl (fun ls hl => ?_)
      refine lv_iload hx hb dX4_refreshUp_79 (lv_at hl 5 rfl) ?_
      refine lv_aload_n hx hb dX4_refreshUp_81 rfl (lv_at hl 2 rfl) ?_
      refine lv_iload hx hb dX4_refreshUp_82 (lv_at hl 1 rfl) ?_
      refine lv_iconst (v := Int32.ofInt 1) hx hb dX4_refreshUp_84 rfl ?_
      obtain ⟨r_23, e_24, h⟩ := bd1_e h
      refine z_goi (ws' := []) (ret := r_23) (wc := (zTr cI (h_T) (q_T) (T))) (wn := fun u_25 => (zTr cI h_T q_T T)) (wr := []) (va_runV (As := [vI r_14, vI 1]) (rest := [vI x5]) hF.1 (c_Tr_corner l D cI cZ cT h_T q_T T r_14 1 H.size (r_23) e_24) (cwV 2 hts (zgV wm387 wm318 wm319 wm33 wm320) rfl rfl rfl (by decide +kernel) ⟨Nat.le_of_ble_eq_true rfl, Nat.le_of_ble_eq_true rfl⟩) ⟨zP.blind, va_recv hK (z_subP (ws' := (zTr cI (h_T) (q_T) (T))) hP [0, 1, 2, 3, 4, 5] rfl) (ci := 4) (q0 := 0) rfl rfl, zP.enter (z_subP (ws' := (zTr cI (h_T) (q_T) (T))) hP [0, 1, 2, 3, 4, 5] rfl) hK (hD.sub [0, 1, 2, 3, 4, 5] (by decide) rfl) hN⟩ rfl rfl hl.1 rfl (lv_room (Nat.le_of_ble_eq_true rfl)) dX4_refreshUp_85 ⟨Nat.le_refl _, Nat.le_refl _⟩) hP hD hS hA [0, 1, 2, 3, 4, 5] [] [0, 1, 2, 3, 4, 5] rfl rfl (by decide) (fun _ => rfl) (fun u_25 H locs hP hD hS hz => ?_)
      obtain ⟨g_26, h⟩ := gd_e h
      obtain ⟨g_27, h⟩ := gd_e h
      refine z_mmin (rest := []) hx hb (by rw [hml]; exact hl.1.symm) hown (hts _ wm400) (hts _ wm401) (hts _ wm40) (hts _ wm402) (Nat.le_of_ble_eq_true rfl) (Nat.le_of_ble_eq_true rfl) (Nat.le_refl _) (Nat.le_refl _) g_26 g_27 dX4_refreshUp_88 ?_
      have g_28 : ck (min x5 r_23) := ⟨by have := And.intro (show ck x5 from g_26) (show ck r_23 from g_27); omega, by have := And.intro (show ck x5 from g_26) (show ck r_23 from g_27); omega⟩
      refine lv_istore (lv' := [(5, vI (min x5 r_23)), (4, vI (min x4 r_17)), (10, vI r_14), (0, .ref h_T), (2, vI x2), (3, vI x3), (6, vI x6), (7, vI x7), (8, vI x8), (9, vI x9)]) hx hb dX4_refreshUp_91 hl (by decide) rfl (fun ls hl => ?_)
      refine lv_iload hx hb dX4_refreshUp_93 (lv_at hl 6 rfl) ?_
      refine lv_aload_n hx hb dX4_refreshUp_95 rfl (lv_at hl 3 rfl) ?_
      refine lv_iload hx hb dX4_refreshUp_96 (lv_at hl 2 rfl) ?_
      refine lv_iconst (v := Int32.ofInt 2) hx hb dX4_refreshUp_98 rfl ?_
      obtain ⟨r_29, e_30, h⟩ := bd1_e h
      refine z_goi (ws' := []) (ret := r_29) (wc := (zTr cI (h_T) (q_T) (T))) (wn := fun u_31 => (zTr cI h_T q_T T)) (wr := []) (va_runV (As := [vI r_14, vI 2]) (rest := [vI x6]) hF.1 (c_Tr_corner l D cI cZ cT h_T q_T T r_14 2 H.size (r_29) e_30) (cwV 2 hts (zgV wm387 wm318 wm319 wm33 wm320) rfl rfl rfl (by decide +kernel) ⟨Nat.le_of_ble_eq_true rfl, Nat.le_of_ble_eq_true rfl⟩) ⟨zP.blind, va_recv hK (z_subP (ws' := (zTr cI (h_T) (q_T) (T))) hP [0, 1, 2, 3, 4, 5] rfl) (ci := 4) (q0 := 0) rfl rfl, zP.enter (z_subP (ws' := (zTr cI (h_T) (q_T) (T))) hP [0, 1, 2, 3, 4, 5] rfl) hK (hD.sub [0, 1, 2, 3, 4, 5] (by decide) rfl) hN⟩ rfl rfl hl.1 rfl (lv_room (Nat.le_of_ble_eq_true rfl)) dX4_refreshUp_99 ⟨Nat.le_refl _, Nat.le_refl _⟩) hP hD hS hA [0, 1, 2, 3, 4, 5] [] [0, 1, 2, 3, 4, 5] rfl rfl (by decide) (fun _ => rfl) (fun u_31 H locs hP hD hS hz => ?_)
      obtain ⟨g_32, h⟩ := gd_e h
      obtain ⟨g_33, h⟩ := gd_e h
      refine z_mmax (rest := []) hx hb (by rw [hml]; exact hl.1.symm) hown (hts _ wm403) (hts _ wm404) (hts _ wm40) (hts _ wm405) (Nat.le_of_ble_eq_true rfl) (Nat.le_of_ble_eq_true rfl) (Nat.le_refl _) (Nat.le_refl _) g_32 g_33 dX4_refreshUp_102 ?_
      have g_34 : ck (max x6 r_29) := ⟨by have := And.intro (show ck x6 from g_32) (show ck r_29 from g_33); omega, by have := And.intro (show ck x6 from g_32) (show ck r_29 from g_33); omega⟩
      refine lv_istore (lv' := [(6, vI (max x6 r_29)), (5, vI (min x5 r_23)), (4, vI (min x4 r_17)), (10, vI r_14), (0, .ref h_T), (2, vI x2), (3, vI x3), (7, vI x7), (8, vI x8), (9, vI x9)]) hx hb dX4_refreshUp_105 hl (by decide) rfl (fun ls hl => ?_)
      refine lv_iload hx hb dX4_refreshUp_107 (lv_at hl 7 rfl) ?_
      refine lv_aload_n hx hb dX4_refreshUp_109 rfl (lv_at hl 4 rfl) ?_
      refine lv_iload hx hb dX4_refreshUp_110 (lv_at hl 3 rfl) ?_
      refine lv_iconst (v := Int32.ofInt 3) hx hb dX4_refreshUp_112 rfl ?_
      obtain ⟨r_35, e_36, h⟩ := bd1_e h
      refine z_goi (ws' := []) (ret := r_35) (wc := (zTr cI (h_T) (q_T) (T))) (wn := fun u_37 => (zTr cI h_T q_T T)) (wr := []) (va_runV (As := [vI r_14, vI 3]) (rest := [vI x7]) hF.1 (c_Tr_corner l D cI cZ cT h_T q_T T r_14 3 H.size (r_35) e_36) (cwV 2 hts (zgV wm387 wm318 wm319 wm33 wm320) rfl rfl rfl (by decide +kernel) ⟨Nat.le_of_ble_eq_true rfl, Nat.le_of_ble_eq_true rfl⟩) ⟨zP.blind, va_recv hK (z_subP (ws' := (zTr cI (h_T) (q_T) (T))) hP [0, 1, 2, 3, 4, 5] rfl) (ci := 4) (q0 := 0) rfl rfl, zP.enter (z_subP (ws' := (zTr cI (h_T) (q_T) (T))) hP [0, 1, 2, 3, 4, 5] rfl) hK (hD.sub [0, 1, 2, 3, 4, 5] (by decide) rfl) hN⟩ rfl rfl hl.1 rfl (lv_room (Nat.le_of_ble_eq_true rfl)) dX4_refreshUp_113 ⟨Nat.le_refl _, Nat.le_refl _⟩) hP hD hS hA [0, 1, 2, 3, 4, 5] [] [0, 1, 2, 3, 4, 5] rfl rfl (by decide) (fun _ => rfl) (fun u_37 H locs hP hD hS hz => ?_)
      obtain ⟨g_38, h⟩ := gd_e h
      obtain ⟨g_39, h⟩ := gd_e h
      refine z_mmax (rest := []) hx hb (by rw [hml]; exact hl.1.symm) hown (hts _ wm403) (hts _ wm404) (hts _ wm40) (hts _ wm405) (Nat.le_of_ble_eq_true rfl) (Nat.le_of_ble_eq_true rfl) (Nat.le_refl _) (Nat.le_refl _) g_38 g_39 dX4_refreshUp_116 ?_
      have g_40 : ck (max x7 r_35) := ⟨by have := And.intro (show ck x7 from g_38) (show ck r_35 from g_39); omega, by have := And.intro (show ck x7 from g_38) (show ck r_35 from g_39); omega⟩
      refine lv_istore (lv' := [(7, vI (max x7 r_35)), (6, vI (max x6 r_29)), (5, vI (min x5 r_23)), (4, vI (min x4 r_17)), (10, vI r_14), (0, .ref h_T), (2, vI x2), (3, vI x3), (8, vI x8), (9, vI x9)]) hx hb dX4_refreshUp_119 hl (by decide) rfl (fun ls hl => ?_)
      refine lv_iinc (v := Int32.ofInt (x9 + 1)) (lv' := [(9, vI (x9 + 1)), (7, vI (max x7 r_35)), (6, vI (max x6 r_29)), (5, vI (min x5 r_23)), (4, vI (min x4 r_17)), (10, vI r_14), (0, .ref h_T), (2, vI x2), (3, vI x3), (8, vI x8)]) hx hb dX4_refreshUp_121 hl (k := 9) rfl (z_inc _ _) (by decide) rfl (fun ls hl => ?_)
      refine lv_goto (tgt := 42) hx hb dX4_refreshUp_124 (by decide) ?_
      exact ih ((min x4 r_17)) ((min x5 r_23)) ((max x6 r_29)) ((max x7 r_35)) ((x9 + 1)) H locs ls h hP hD hS (lv_sub hl [6, 7, 8, 4, 3, 2, 1, 9, 0] rfl)
set_option maxHeartbeats 4000000 in
set_option maxRecDepth 100000 in
theorem w_Tr_refreshUp_L4 {p : Program} {l : Launch} {e : Env} {s : State} {m : MethodId} {args : Array Value} {below : List Frame} {meth : Method} {c : Code} {A : Nat → Prop} (D : va_G) (cI cZ cT : ClassId) (h_T : Nat) (q_T : Nat → Nat) (res : TV) (k : Int → Int → TV → Option (TV)) (hF : zF p m c cX4_refreshUp 11 s args yX4_refreshUp.cls meth none yX4_refreshUp.name A D (zt cI cZ cT))
    (hk : ∀ (x2 : Int) (x3 : Int) (T : TV) (H : Heap) (locs : List Loc) (ls : Array Slot), k x2 x3 T = some res → va_P D vwCl ((zTr cI h_T q_T T)) H → va_D A ((zTr cI h_T q_T T)) → va_S A s.heap H locs → lv_has ls 11 [] → W p l e rm_Tr_refreshUp s m args below meth c H locs 0 0 (MQ below (zQv D (fun u => (zTr cI h_T q_T (res))) A) args s 0 0 A) (F0 m 155 ls [])) :
    ∀ (n : Nat) (x2 : Int) (x3 : Int) (T : TV) (H : Heap) (locs : List Loc) (ls : Array Slot), f_Tr_refreshUp_L4 k n x2 x3 T = some res → va_P D vwCl ((zTr cI h_T q_T T)) H → va_D A ((zTr cI h_T q_T T)) → va_S A s.heap H locs → lv_has ls 11 [(0, .ref h_T), (2, vI x2), (3, vI x3)] → W p l e rm_Tr_refreshUp s m args below meth c H locs 0 0 (MQ below (zQv D (fun u => (zTr cI h_T q_T (res))) A) args s 0 0 A) (F0 m 4 ls []) := by
  have hx := hF.1.1
  have hb := hF.1.2.1
  have hml := hF.1.2.2.1
  have hown : s.vm.findClass "RectangleTree$Tree" = some m.cls := hF.1.2.2.2.1
  have hts := hF.1.2.2.2.2
  have hr := hF.2.1
  have hlk := hF.2.2.1
  have hK := hF.2.2.2.2.1
  have hN := hF.2.2.2.2.2.1
  have hA := hF.2.2.2.2.2.2
  intro n
  induction n with
  | zero => intro x2 x3 T H locs ls h; cases h
  | succ n ih =>
    intro x2 x3 T H locs ls h hP hD hS hl
    rw [f_Tr_refreshUp_L4] at h
    refine lv_aload_n hx hb dX4_refreshUp_4 rfl (lv_at hl 0 rfl) ?_
    refine lv_iload_n hx hb dX4_refreshUp_5 rfl (lv_at hl 1 rfl) ?_
    obtain ⟨r_1, e_2, h⟩ := bd1_e h
    refine z_goi (ws' := []) (ret := r_1) (wc := (zTr cI (h_T) (q_T) (T))) (wn := fun u_3 => (zTr cI h_T q_T T)) (wr := []) (va_runV (As := [vI x2]) (rest := []) hF.1 (c_Tr_isNode l D cI cZ cT h_T q_T T x2 H.size (r_1) e_2) (cwV 1 hts (zgV wm525 wm526 wm527 wm33 wm528) rfl rfl rfl (by decide +kernel) ⟨Nat.le_of_ble_eq_true rfl, Nat.le_of_ble_eq_true rfl⟩) ⟨zP.blind, va_recv hK (z_subP (ws' := (zTr cI (h_T) (q_T) (T))) hP [0, 1, 2, 3, 4, 5] rfl) (ci := 4) (q0 := 0) rfl rfl, zP.enter (z_subP (ws' := (zTr cI (h_T) (q_T) (T))) hP [0, 1, 2, 3, 4, 5] rfl) hK (hD.sub [0, 1, 2, 3, 4, 5] (by decide) rfl) hN⟩ rfl rfl hl.1 rfl (lv_room (Nat.le_of_ble_eq_true rfl)) dX4_refreshUp_6 ⟨Nat.le_refl _, Nat.le_refl _⟩) hP hD hS hA [0, 1, 2, 3, 4, 5] [] [0, 1, 2, 3, 4, 5] rfl rfl (by decide) (fun _ => rfl) (fun u_3 H locs hP hD hS hz => ?_)
    obtain ⟨g_4, h⟩ := gd_e h
    refine z_if_eq (tgt := 155) hx hb g_4 dX4_refreshUp_9 (by decide) (fun b_5 => ?_) (fun b_5 => ?_)
    · have h := it_p b_5 h
      exact hk (x2) (x3) (T) H locs ls h hP hD hS (lv_sub hl [] rfl)
    · have h := it_n b_5 h
      refine lv_iload_n hx hb dX4_refreshUp_12 rfl (lv_at hl 2 rfl) ?_
      refine lv_ldc (v := Int32.ofInt 1000000) hx hb hown (hts _ wm529) dX4_refreshUp_13 ?_
      obtain ⟨g_6, h⟩ := gd_e h
      refine z_icmp_ge (tgt := 155) hx hb g_6 (by decide) dX4_refreshUp_15 (by decide) (fun b_7 => ?_) (fun b_7 => ?_)
      · have h := it_n b_7 h
        exact hk (x2) (x3) (T) H locs ls h hP hD hS (lv_sub hl [] rfl)
      · have h := it_p b_7 h
        refine lv_bipush (v := Int32.ofInt 99) hx hb dX4_refreshUp_18 (by decide +kernel) ?_
        refine lv_istore (lv' := [(4, vI 99), (0, .ref h_T), (2, vI x2), (3, vI x3)]) hx hb dX4_refreshUp_20 hl (by decide) rfl (fun ls hl => ?_)
        refine lv_bipush (v := Int32.ofInt 99) hx hb dX4_refreshUp_22 (by decide +kernel) ?_
        refine lv_istore (lv' := [(5, vI 99), (4, vI 99), (0, .ref h_T), (2, vI x2), (3, vI x3)]) hx hb dX4_refreshUp_24 hl (by decide) rfl (fun ls hl => ?_)
        refine lv_iconst (v := Int32.ofInt 0) hx hb dX4_refreshUp_26 rfl ?_
        refine lv_istore (lv' := [(6, vI 0), (5, vI 99), (4, vI 99), (0, .ref h_T), (2, vI x2), (3, vI x3)]) hx hb dX4_refreshUp_27 hl (by decide) rfl (fun ls hl => ?_)
        refine lv_iconst (v := Int32.ofInt 0) hx hb dX4_refreshUp_29 rfl ?_
        refine lv_istore (lv' := [(7, vI 0), (6, vI 0), (5, vI 99), (4, vI 99), (0, .ref h_T), (2, vI x2), (3, vI x3)]) hx hb dX4_refreshUp_30 hl (by decide) rfl (fun ls hl => ?_)
        refine lv_aload_n hx hb dX4_refreshUp_32 rfl (lv_at hl 4 rfl) ?_
        refine lv_iload_n hx hb dX4_refreshUp_33 rfl (lv_at hl 5 rfl) ?_
        obtain ⟨r_8, e_9, h⟩ := bd1_e h
        refine z_goi (ws' := []) (ret := r_8) (wc := (zTr cI (h_T) (q_T) (T))) (wn := fun u_10 => (zTr cI h_T q_T T)) (wr := []) (va_runV (As := [vI x2]) (rest := []) hF.1 (c_Tr_sizeOf l D cI cZ cT h_T q_T T x2 H.size (r_8) e_9) (cwV 1 hts (zgV wm238 wm231 wm232 wm33 wm233) rfl rfl rfl (by decide +kernel) ⟨Nat.le_of_ble_eq_true rfl, Nat.le_of_ble_eq_true rfl⟩) ⟨zP.blind, va_recv hK (z_subP (ws' := (zTr cI (h_T) (q_T) (T))) hP [0, 1, 2, 3, 4, 5] rfl) (ci := 4) (q0 := 0) rfl rfl, zP.enter (z_subP (ws' := (zTr cI (h_T) (q_T) (T))) hP [0, 1, 2, 3, 4, 5] rfl) hK (hD.sub [0, 1, 2, 3, 4, 5] (by decide) rfl) hN⟩ rfl rfl hl.1 rfl (lv_room (Nat.le_of_ble_eq_true rfl)) dX4_refreshUp_34 ⟨Nat.le_refl _, Nat.le_refl _⟩) hP hD hS hA [0, 1, 2, 3, 4, 5] [] [0, 1, 2, 3, 4, 5] rfl rfl (by decide) (fun _ => rfl) (fun u_10 H locs hP hD hS hz => ?_)
        refine lv_istore (lv' := [(8, vI r_8), (7, vI 0), (6, vI 0), (5, vI 99), (4, vI 99), (0, .ref h_T), (2, vI x2), (3, vI x3)]) hx hb dX4_refreshUp_37 hl (by decide) rfl (fun ls hl => ?_)
        refine lv_iconst (v := Int32.ofInt 0) hx hb dX4_refreshUp_39 rfl ?_
        refine lv_istore (lv' := [(9, vI 0), (8, vI r_8), (7, vI 0), (6, vI 0), (5, vI 99), (4, vI 99), (0, .ref h_T), (2, vI x2), (3, vI x3)]) hx hb dX4_refreshUp_40 hl (by decide) rfl (fun ls hl => ?_)
        refine w_Tr_refreshUp_L42 D cI cZ cT (h_T) (q_T) (T) (x2) (x3) (r_8) _ _ hF (fun x4_41 x5_42 x6_43 x7_44 x9_45 H locs ls h hP hD hS hl => ?_) _ (99) (99) (0) (0) (0) _ _ _ h hP hD hS (lv_sub hl [6, 7, 8, 5, 4, 3, 2, 1, 0] rfl)
        refine lv_aload_n hx hb dX4_refreshUp_127 rfl (lv_at hl 0 rfl) ?_
        refine lv_iload_n hx hb dX4_refreshUp_128 rfl (lv_at hl 1 rfl) ?_
        refine lv_iload hx hb dX4_refreshUp_129 (lv_at hl 3 rfl) ?_
        refine lv_iload hx hb dX4_refreshUp_131 (lv_at hl 4 rfl) ?_
        refine lv_iload hx hb dX4_refreshUp_133 (lv_at hl 5 rfl) ?_
        refine lv_iload hx hb dX4_refreshUp_135 (lv_at hl 6 rfl) ?_
        obtain ⟨T_46, e_47, h⟩ := bd1_e h
        refine z_gov (wc := (zTr cI (h_T) (q_T) (T))) (wn := fun u_48 => (zTr cI h_T q_T T_46)) (wr := []) (va_runV (As := [vI x2, vI x4_41, vI x5_42, vI x6_43, vI x7_44]) (rest := []) hF.1 (c_Tr_setCorners l D cI cZ cT h_T q_T T x2 x4_41 x5_42 x6_43 x7_44 H.size (T_46) e_47) (cwV 5 hts (zgV wm492 wm494 wm7 wm33 wm495) rfl rfl rfl (by decide +kernel) ⟨Nat.le_of_ble_eq_true rfl, Nat.le_of_ble_eq_true rfl⟩) ⟨zP.blind, va_recv hK (z_subP (ws' := (zTr cI (h_T) (q_T) (T))) hP [0, 1, 2, 3, 4, 5] rfl) (ci := 4) (q0 := 0) rfl rfl, zP.enter (z_subP (ws' := (zTr cI (h_T) (q_T) (T))) hP [0, 1, 2, 3, 4, 5] rfl) hK (hD.sub [0, 1, 2, 3, 4, 5] (by decide) rfl) hN⟩ rfl rfl hl.1 rfl (lv_room (Nat.le_of_ble_eq_true rfl)) dX4_refreshUp_137 ⟨Nat.le_refl _, Nat.le_refl _⟩) hP hD hS hA [0, 1, 2, 3, 4, 5] [] [0, 1, 2, 3, 4, 5] rfl rfl (by decide) (fun _ => rfl) (fun u_48 H locs hP hD hS hz => ?_)
        refine lv_aload_n hx hb dX4_refreshUp_140 rfl (lv_at hl 0 rfl) ?_
        refine va_get (D := D) (ci := 4) (v := .ref (q_T 1)) (C := RX4) (T := TX4) (N := 10) hx hb hts zin4 hown hK hP 0 rfl rfl 1 (by decide) (hts _ wm63) (fun _ h9 => h9) rfl dX4_refreshUp_141 ?_
        refine lv_iload_n hx hb dX4_refreshUp_144 rfl (lv_at hl 1 rfl) ?_
        obtain ⟨r_49, e_50, h⟩ := bd1_e h
        refine z_goi (ws' := []) (ret := r_49) (wc := (zAr cI ((q_T 1)) ((tR T_46)) ((tHol T_46)))) (wn := fun u_51 => (zTr cI h_T q_T T_46)) (wr := ([0, 1, 3, 4, 5].filterMap (fun i => ((zTr cI h_T q_T T_46))[i]?))) (va_runSN (As := [.ref (q_T 1), vI x2]) (rest := []) hF.1 (c_Rt_at l D cI cZ cT (q_T 1) (tR T_46) (tHol T_46) x2 H.size (r_49) e_50) ⟨va_cnB 2 hts (zW_good wm229) rfl rfl rfl (hN.at 6 rfl) (hts _ wm32) (by decide +kernel) ⟨Nat.le_of_ble_eq_true rfl, Nat.le_of_ble_eq_true rfl⟩, hts _ wm228, trivial⟩ ⟨zP.blind, zP.enter (z_subP (ws' := (zAr cI ((q_T 1)) ((tR T_46)) ((tHol T_46)))) hP [2] rfl) hK (hD.sub [2] (by decide) rfl) hN⟩ rfl rfl hl.1 rfl (lv_room (Nat.le_of_ble_eq_true rfl)) dX4_refreshUp_145 ⟨Nat.le_refl _, Nat.le_refl _⟩) hP hD hS hA [2] [0, 1, 3, 4, 5] [0, 1, 5, 2, 3, 4] rfl rfl (by decide) (fun _ => rfl) (fun u_51 H locs hP hD hS hz => ?_)
        refine lv_istore_n (lv' := [(2, vI r_49), (0, .ref h_T), (3, vI x3), (4, vI x4_41), (5, vI x5_42), (6, vI x6_43), (7, vI x7_44)]) hx hb dX4_refreshUp_148 rfl hl (by decide) rfl (fun ls hl => ?_)
        refine lv_iinc (v := Int32.ofInt (x3 + 1)) (lv' := [(3, vI (x3 + 1)), (2, vI r_49), (0, .ref h_T), (4, vI x4_41), (5, vI x5_42), (6, vI x6_43), (7, vI x7_44)]) hx hb dX4_refreshUp_149 hl (k := 2) rfl (z_inc _ _) (by decide) rfl (fun ls hl => ?_)
        refine lv_goto (tgt := 4) hx hb dX4_refreshUp_152 (by decide) ?_
        exact ih (r_49) ((x3 + 1)) (T_46) H locs ls h hP hD hS (lv_sub hl [2, 1, 0] rfl)
set_option maxHeartbeats 4000000 in
set_option maxRecDepth 100000 in
theorem c_Tr_refreshUp (l : Launch) (D : va_G) (cI cZ cT : ClassId) (h_T : Nat) (q_T : Nat → Nat) (T : TV) (x1 : Int) (sz : Nat) (res : TV) (h : f_Tr_refreshUp T x1 = some res) : zMv l yX4_refreshUp cX4_refreshUp 11 rm_Tr_refreshUp D (zt cI cZ cT) [.ref h_T, vI x1] ((zTr cI h_T q_T T)) sz (fun u => (zTr cI h_T q_T (res))) 0 0 := by
  refine z_enth (Qc := zQv D (fun u => (zTr cI h_T q_T (res)))) (by decide) (Nat.le_of_ble_eq_true rfl) (fun p e s m args below meth c A ls H locs hF hP hD hS hl => ?_)
  have hx := hF.1.1
  have hb := hF.1.2.1
  have hml := hF.1.2.2.1
  have hown : s.vm.findClass "RectangleTree$Tree" = some m.cls := hF.1.2.2.2.1
  have hts := hF.1.2.2.2.2
  have hr := hF.2.1
  have hlk := hF.2.2.1
  have hK := hF.2.2.2.2.1
  have hN := hF.2.2.2.2.2.1
  have hA := hF.2.2.2.2.2.2
  unfold f_Tr_refreshUp at h
  refine lv_iload_n hx hb dX4_refreshUp_0 rfl (lv_at hl 1 rfl) ?_
  refine lv_istore_n (lv' := [(2, vI x1), (0, .ref h_T), (1, vI x1)]) hx hb dX4_refreshUp_1 rfl hl (by decide) rfl (fun ls hl => ?_)
  refine lv_iconst (v := Int32.ofInt 0) hx hb dX4_refreshUp_2 rfl ?_
  refine lv_istore_n (lv' := [(3, vI 0), (2, vI x1), (0, .ref h_T), (1, vI x1)]) hx hb dX4_refreshUp_3 rfl hl (by decide) rfl (fun ls hl => ?_)
  refine w_Tr_refreshUp_L4 D cI cZ cT (h_T) (q_T) _ _ hF (fun x2_52 x3_53 T_54 H locs ls h hP hD hS hl => ?_) _ (x1) (0) (T) _ _ _ h hP hD hS (lv_sub hl [2, 1, 0] rfl)
  obtain rfl := Option.some.inj h
  exact z_vret hx hb hr hlk (fun _ _ => 0) hP hD hS dX4_refreshUp_155
def f_Tr_addAt_L35 (x2 : Int) (x5 : Int) (k : Int → TV → Option (TV)) : Nat → Int → TV → Option (TV)
  | 0, _, _ => none
  | n + 1, x6, T =>
  gd (ck x6) <| gd (ck x2) <| if x2 < x6 then (bd1 (f_Rt_at ((tR T) * 6) (tLis T) ((x5 + x6) - 1)) <| fun r_12 => bd1 (f_Rt_put ((tR T) * 6) (tLis T) (x5 + x6) r_12) <| fun T_15 => f_Tr_addAt_L35 x2 x5 k n ((x6 + (-1))) ((sLis T T_15))) else (k (x6) (T))
def f_Tr_addAt (T : TV) (x1 : Int) (x2 : Int) (x3 : Int) : Option (TV) :=
  bd1 (f_Tr_sizeOf T x1) <| fun r_1 => gd (ck r_1) <| if r_1 < 6 then (gd (ck x2) <| if x2 < 0 then (some (T)) else (if r_1 < x2 then (some (T)) else (f_Tr_addAt_L35 (x2) ((x1 * 6)) (fun x6_18 T_19 => bd1 (f_Rt_put ((tR T_19) * 6) (tLis T_19) ((x1 * 6) + x2) x3) <| fun T_20 => bd1 (f_Rt_put (tR T_19) (tSiz T_19) x1 (r_1 + 1)) <| fun T_23 => bd1 (f_Rt_put (tR T_19) (tHol T_19) x3 x1) <| fun T_26 => bd1 (f_Tr_refreshUp (sLis (sSiz (sHol T_19 T_26) T_23) T_20) x1) <| fun T_29 => some (T_29)) FU (r_1) (T)))) else (some (T))
abbrev rm_Tr_addAt : Room := ({ frames := 2, cells := 0, slots := 0, locals := 56 } : Room)
set_option maxHeartbeats 4000000 in
set_option maxRecDepth 100000 in
theorem w_Tr_addAt_L35 {p : Program} {l : Launch} {e : Env} {s : State} {m : MethodId} {args : Array Value} {below : List Frame} {meth : Method} {c : Code} {A : Nat → Prop} (D : va_G) (cI cZ cT : ClassId) (h_T : Nat) (q_T : Nat → Nat) (x1 : Int) (x2 : Int) (x3 : Int) (x4 : Int) (x5 : Int) (res : TV) (k : Int → TV → Option (TV)) (hF : zF p m c cX4_addAt 7 s args yX4_addAt.cls meth none yX4_addAt.name A D (zt cI cZ cT))
    (hk : ∀ (x6 : Int) (T : TV) (H : Heap) (locs : List Loc) (ls : Array Slot), k x6 T = some res → va_P D vwCl ((zTr cI h_T q_T T)) H → va_D A ((zTr cI h_T q_T T)) → va_S A s.heap H locs → lv_has ls 7 [(0, .ref h_T), (1, vI x1), (2, vI x2), (3, vI x3), (4, vI x4), (5, vI x5)] → W p l e rm_Tr_addAt s m args below meth c H locs 0 0 (MQ below (zQv D (fun u => (zTr cI h_T q_T (res))) A) args s 0 0 A) (F0 m 73 ls [])) :
    ∀ (n : Nat) (x6 : Int) (T : TV) (H : Heap) (locs : List Loc) (ls : Array Slot), f_Tr_addAt_L35 x2 x5 k n x6 T = some res → va_P D vwCl ((zTr cI h_T q_T T)) H → va_D A ((zTr cI h_T q_T T)) → va_S A s.heap H locs → lv_has ls 7 [(0, .ref h_T), (1, vI x1), (2, vI x2), (3, vI x3), (4, vI x4), (5, vI x5), (6, vI x6)] → W p l e rm_Tr_addAt s m args below meth c H locs 0 0 (MQ below (zQv D (fun u => (zTr cI h_T q_T (res))) A) args s 0 0 A) (F0 m 35 ls []) := by
  have hx := hF.1.1
  have hb := hF.1.2.1
  have hml := hF.1.2.2.1
  have hown : s.vm.findClass "RectangleTree$Tree" = some m.cls := hF.1.2.2.2.1
  have hts := hF.1.2.2.2.2
  have hr := hF.2.1
  have hlk := hF.2.2.1
  have hK := hF.2.2.2.2.1
  have hN := hF.2.2.2.2.2.1
  have hA := hF.2.2.2.2.2.2
  intro n
  induction n with
  | zero => intro x6 T H locs ls h; cases h
  | succ n ih =>
    intro x6 T H locs ls h hP hD hS hl
    rw [f_Tr_addAt_L35] at h
    refine lv_iload hx hb dX4_addAt_35 (lv_at hl 6 rfl) ?_
    refine lv_iload_n hx hb dX4_addAt_37 rfl (lv_at hl 2 rfl) ?_
    obtain ⟨g_9, h⟩ := gd_e h
    obtain ⟨g_10, h⟩ := gd_e h
    refine z_icmp_le (tgt := 73) hx hb g_9 g_10 dX4_addAt_38 (by decide) (fun b_11 => ?_) (fun b_11 => ?_)
    · have h := it_n b_11 h
      exact hk (x6) (T) H locs ls h hP hD hS (lv_sub hl [0, 1, 2, 3, 4, 5] rfl)
    · have h := it_p b_11 h
      refine lv_aload_n hx hb dX4_addAt_41 rfl (lv_at hl 0 rfl) ?_
      refine va_get (D := D) (ci := 4) (v := .ref (q_T 4)) (C := RX4) (T := TX4) (N := 10) hx hb hts zin4 hown hK hP 0 rfl rfl 4 (by decide) (hts _ wm66) (fun _ h9 => h9) rfl dX4_addAt_42 ?_
      refine lv_iload hx hb dX4_addAt_45 (lv_at hl 5 rfl) ?_
      refine lv_iload hx hb dX4_addAt_47 (lv_at hl 6 rfl) ?_
      refine z_iadd hx hb dX4_addAt_49 ?_
      refine lv_aload_n hx hb dX4_addAt_50 rfl (lv_at hl 0 rfl) ?_
      refine va_get (D := D) (ci := 4) (v := .ref (q_T 4)) (C := RX4) (T := TX4) (N := 10) hx hb hts zin4 hown hK hP 0 rfl rfl 4 (by decide) (hts _ wm66) (fun _ h9 => h9) rfl dX4_addAt_51 ?_
      refine lv_iload hx hb dX4_addAt_54 (lv_at hl 5 rfl) ?_
      refine lv_iload hx hb dX4_addAt_56 (lv_at hl 6 rfl) ?_
      refine z_iadd hx hb dX4_addAt_58 ?_
      refine lv_iconst (v := Int32.ofInt 1) hx hb dX4_addAt_59 rfl ?_
      refine z_isub hx hb dX4_addAt_60 ?_
      obtain ⟨r_12, e_13, h⟩ := bd1_e h
      refine z_goi (ws' := []) (ret := r_12) (wc := (zAr cI ((q_T 4)) (((tR T) * 6)) ((tLis T)))) (wn := fun u_14 => (zTr cI h_T q_T T)) (wr := ([0, 1, 2, 3, 4].filterMap (fun i => ((zTr cI h_T q_T T))[i]?))) (va_runSN (As := [.ref (q_T 4), vI ((x5 + x6) - 1)]) (rest := [vI (x5 + x6), .ref (q_T 4)]) hF.1 (c_Rt_at l D cI cZ cT (q_T 4) ((tR T) * 6) (tLis T) ((x5 + x6) - 1) H.size (r_12) e_13) ⟨va_cnB 2 hts (zW_good wm229) rfl rfl rfl (hN.at 6 rfl) (hts _ wm32) (by decide +kernel) ⟨Nat.le_of_ble_eq_true rfl, Nat.le_of_ble_eq_true rfl⟩, hts _ wm228, trivial⟩ ⟨zP.blind, zP.enter (z_subP (ws' := (zAr cI ((q_T 4)) (((tR T) * 6)) ((tLis T)))) hP [5] rfl) hK (hD.sub [5] (by decide) rfl) hN⟩ rfl rfl hl.1 rfl (lv_room (Nat.le_of_ble_eq_true rfl)) dX4_addAt_61 ⟨Nat.le_refl _, Nat.le_refl _⟩) hP hD hS hA [5] [0, 1, 2, 3, 4] [0, 1, 2, 3, 4, 5] rfl rfl (by decide) (fun _ => rfl) (fun u_14 H locs hP hD hS hz => ?_)
      obtain ⟨T_15, e_16, h⟩ := bd1_e h
      refine z_gov (wc := (zAr cI ((q_T 4)) (((tR T) * 6)) ((tLis T)))) (wn := fun u_17 => (zTr cI h_T q_T (sLis T T_15))) (wr := ([0, 1, 2, 3, 4].filterMap (fun i => ((zTr cI h_T q_T T))[i]?))) (va_runSN (As := [.ref (q_T 4), vI (x5 + x6), vI r_12]) (rest := []) hF.1 (c_Rt_put l D cI cZ cT (q_T 4) ((tR T) * 6) (tLis T) (x5 + x6) r_12 H.size (T_15) e_16) ⟨va_cnB 3 hts (zW_good wm61) rfl rfl rfl (hN.at 0 rfl) (hts _ wm32) (by decide +kernel) ⟨Nat.le_of_ble_eq_true rfl, Nat.le_of_ble_eq_true rfl⟩, hts _ wm60, trivial⟩ ⟨zP.blind, zP.enter (z_subP (ws' := (zAr cI ((q_T 4)) (((tR T) * 6)) ((tLis T)))) hP [5] rfl) hK (hD.sub [5] (by decide) rfl) hN⟩ rfl rfl hl.1 rfl (lv_room (Nat.le_of_ble_eq_true rfl)) dX4_addAt_64 ⟨Nat.le_refl _, Nat.le_refl _⟩) hP hD hS hA [5] [0, 1, 2, 3, 4] [0, 1, 2, 3, 4, 5] rfl rfl (by decide) (fun _ => rfl) (fun u_17 H locs hP hD hS hz => ?_)
      refine lv_iinc (v := Int32.ofInt (x6 + (-1))) (lv' := [(6, vI (x6 + (-1))), (0, .ref h_T), (1, vI x1), (2, vI x2), (3, vI x3), (4, vI x4), (5, vI x5)]) hx hb dX4_addAt_67 hl (k := 6) rfl (z_inc _ _) (by decide) rfl (fun ls hl => ?_)
      refine lv_goto (tgt := 35) hx hb dX4_addAt_70 (by decide) ?_
      exact ih ((x6 + (-1))) ((sLis T T_15)) H locs ls h hP hD hS (lv_sub hl [1, 2, 3, 4, 5, 6, 0] rfl)
set_option maxHeartbeats 4000000 in
set_option maxRecDepth 100000 in
theorem c_Tr_addAt (l : Launch) (D : va_G) (cI cZ cT : ClassId) (h_T : Nat) (q_T : Nat → Nat) (T : TV) (x1 : Int) (x2 : Int) (x3 : Int) (sz : Nat) (res : TV) (h : f_Tr_addAt T x1 x2 x3 = some res) : zMv l yX4_addAt cX4_addAt 7 rm_Tr_addAt D (zt cI cZ cT) [.ref h_T, vI x1, vI x2, vI x3] ((zTr cI h_T q_T T)) sz (fun u => (zTr cI h_T q_T (res))) 0 0 := by
  refine z_enth (Qc := zQv D (fun u => (zTr cI h_T q_T (res)))) (by decide) (Nat.le_of_ble_eq_true rfl) (fun p e s m args below meth c A ls H locs hF hP hD hS hl => ?_)
  have hx := hF.1.1
  have hb := hF.1.2.1
  have hml := hF.1.2.2.1
  have hown : s.vm.findClass "RectangleTree$Tree" = some m.cls := hF.1.2.2.2.1
  have hts := hF.1.2.2.2.2
  have hr := hF.2.1
  have hlk := hF.2.2.1
  have hK := hF.2.2.2.2.1
  have hN := hF.2.2.2.2.2.1
  have hA := hF.2.2.2.2.2.2
  unfold f_Tr_addAt at h
  refine lv_aload_n hx hb dX4_addAt_0 rfl (lv_at hl 0 rfl) ?_
  refine lv_iload_n hx hb dX4_addAt_1 rfl (lv_at hl 1 rfl) ?_
  obtain ⟨r_1, e_2, h⟩ := bd1_e h
  refine z_goi (ws' := []) (ret := r_1) (wc := (zTr cI (h_T) (q_T) (T))) (wn := fun u_3 => (zTr cI h_T q_T T)) (wr := []) (va_runV (As := [vI x1]) (rest := []) hF.1 (c_Tr_sizeOf l D cI cZ cT h_T q_T T x1 H.size (r_1) e_2) (cwV 1 hts (zgV wm238 wm231 wm232 wm33 wm233) rfl rfl rfl (by decide +kernel) ⟨Nat.le_of_ble_eq_true rfl, Nat.le_of_ble_eq_true rfl⟩) ⟨zP.blind, va_recv hK (z_subP (ws' := (zTr cI (h_T) (q_T) (T))) hP [0, 1, 2, 3, 4, 5] rfl) (ci := 4) (q0 := 0) rfl rfl, zP.enter (z_subP (ws' := (zTr cI (h_T) (q_T) (T))) hP [0, 1, 2, 3, 4, 5] rfl) hK (hD.sub [0, 1, 2, 3, 4, 5] (by decide) rfl) hN⟩ rfl rfl hl.1 rfl (lv_room (Nat.le_of_ble_eq_true rfl)) dX4_addAt_2 ⟨Nat.le_refl _, Nat.le_refl _⟩) hP hD hS hA [0, 1, 2, 3, 4, 5] [] [0, 1, 2, 3, 4, 5] rfl rfl (by decide) (fun _ => rfl) (fun u_3 H locs hP hD hS hz => ?_)
  refine lv_istore (lv' := [(4, vI r_1), (0, .ref h_T), (1, vI x1), (2, vI x2), (3, vI x3)]) hx hb dX4_addAt_5 hl (by decide) rfl (fun ls hl => ?_)
  refine lv_iload hx hb dX4_addAt_7 (lv_at hl 0 rfl) ?_
  refine lv_bipush (v := Int32.ofInt 6) hx hb dX4_addAt_9 (by decide +kernel) ?_
  obtain ⟨g_4, h⟩ := gd_e h
  refine z_icmp_ge (tgt := 24) hx hb g_4 (by decide) dX4_addAt_11 (by decide) (fun b_5 => ?_) (fun b_5 => ?_)
  · have h := it_n b_5 h
    obtain rfl := Option.some.inj h
    exact z_vret hx hb hr hlk (fun _ _ => 0) hP hD hS dX4_addAt_24
  · have h := it_p b_5 h
    refine lv_iload_n hx hb dX4_addAt_14 rfl (lv_at hl 3 rfl) ?_
    obtain ⟨g_6, h⟩ := gd_e h
    refine z_if_lt (tgt := 24) hx hb g_6 dX4_addAt_15 (by decide) (fun b_7 => ?_) (fun b_7 => ?_)
    · have h := it_p b_7 h
      obtain rfl := Option.some.inj h
      exact z_vret hx hb hr hlk (fun _ _ => 0) hP hD hS dX4_addAt_24
    · have h := it_n b_7 h
      refine lv_iload_n hx hb dX4_addAt_18 rfl (lv_at hl 3 rfl) ?_
      refine lv_iload hx hb dX4_addAt_19 (lv_at hl 0 rfl) ?_
      refine z_icmp_le (tgt := 25) hx hb g_6 g_4 dX4_addAt_21 (by decide) (fun b_8 => ?_) (fun b_8 => ?_)
      · have h := it_n b_8 h
        refine lv_iload_n hx hb dX4_addAt_25 rfl (lv_at hl 2 rfl) ?_
        refine lv_bipush (v := Int32.ofInt 6) hx hb dX4_addAt_26 (by decide +kernel) ?_
        refine z_imul hx hb dX4_addAt_28 ?_
        refine lv_istore (lv' := [(5, vI (x1 * 6)), (4, vI r_1), (0, .ref h_T), (1, vI x1), (2, vI x2), (3, vI x3)]) hx hb dX4_addAt_29 hl (by decide) rfl (fun ls hl => ?_)
        refine lv_iload hx hb dX4_addAt_31 (lv_at hl 1 rfl) ?_
        refine lv_istore (lv' := [(6, vI r_1), (5, vI (x1 * 6)), (4, vI r_1), (0, .ref h_T), (1, vI x1), (2, vI x2), (3, vI x3)]) hx hb dX4_addAt_33 hl (by decide) rfl (fun ls hl => ?_)
        refine w_Tr_addAt_L35 D cI cZ cT (h_T) (q_T) (x1) (x2) (x3) (r_1) ((x1 * 6)) _ _ hF (fun x6_18 T_19 H locs ls h hP hD hS hl => ?_) _ (r_1) (T) _ _ _ h hP hD hS (lv_sub hl [3, 4, 5, 6, 2, 1, 0] rfl)
        refine lv_aload_n hx hb dX4_addAt_73 rfl (lv_at hl 0 rfl) ?_
        refine va_get (D := D) (ci := 4) (v := .ref (q_T 4)) (C := RX4) (T := TX4) (N := 10) hx hb hts zin4 hown hK hP 0 rfl rfl 4 (by decide) (hts _ wm66) (fun _ h9 => h9) rfl dX4_addAt_74 ?_
        refine lv_iload hx hb dX4_addAt_77 (lv_at hl 5 rfl) ?_
        refine lv_iload_n hx hb dX4_addAt_79 rfl (lv_at hl 2 rfl) ?_
        refine z_iadd hx hb dX4_addAt_80 ?_
        refine lv_iload_n hx hb dX4_addAt_81 rfl (lv_at hl 3 rfl) ?_
        obtain ⟨T_20, e_21, h⟩ := bd1_e h
        refine z_gov (wc := (zAr cI ((q_T 4)) (((tR T_19) * 6)) ((tLis T_19)))) (wn := fun u_22 => (zTr cI h_T q_T (sLis T_19 T_20))) (wr := ([0, 1, 2, 3, 4].filterMap (fun i => ((zTr cI h_T q_T T_19))[i]?))) (va_runSN (As := [.ref (q_T 4), vI ((x1 * 6) + x2), vI x3]) (rest := []) hF.1 (c_Rt_put l D cI cZ cT (q_T 4) ((tR T_19) * 6) (tLis T_19) ((x1 * 6) + x2) x3 H.size (T_20) e_21) ⟨va_cnB 3 hts (zW_good wm61) rfl rfl rfl (hN.at 0 rfl) (hts _ wm32) (by decide +kernel) ⟨Nat.le_of_ble_eq_true rfl, Nat.le_of_ble_eq_true rfl⟩, hts _ wm60, trivial⟩ ⟨zP.blind, zP.enter (z_subP (ws' := (zAr cI ((q_T 4)) (((tR T_19) * 6)) ((tLis T_19)))) hP [5] rfl) hK (hD.sub [5] (by decide) rfl) hN⟩ rfl rfl hl.1 rfl (lv_room (Nat.le_of_ble_eq_true rfl)) dX4_addAt_82 ⟨Nat.le_refl _, Nat.le_refl _⟩) hP hD hS hA [5] [0, 1, 2, 3, 4] [0, 1, 2, 3, 4, 5] rfl rfl (by decide) (fun _ => rfl) (fun u_22 H locs hP hD hS hz => ?_)
        refine lv_aload_n hx hb dX4_addAt_85 rfl (lv_at hl 0 rfl) ?_
        refine va_get (D := D) (ci := 4) (v := .ref (q_T 2)) (C := RX4) (T := TX4) (N := 10) hx hb hts zin4 hown hK hP 0 rfl rfl 2 (by decide) (hts _ wm64) (fun _ h9 => h9) rfl dX4_addAt_86 ?_
        refine lv_iload_n hx hb dX4_addAt_89 rfl (lv_at hl 1 rfl) ?_
        refine lv_iload hx hb dX4_addAt_90 (lv_at hl 4 rfl) ?_
        refine lv_iconst (v := Int32.ofInt 1) hx hb dX4_addAt_92 rfl ?_
        refine z_iadd hx hb dX4_addAt_93 ?_
        obtain ⟨T_23, e_24, h⟩ := bd1_e h
        refine z_gov (wc := (zAr cI ((q_T 2)) ((tR T_19)) ((tSiz T_19)))) (wn := fun u_25 => (zTr cI h_T q_T (sLis (sSiz T_19 T_23) T_20))) (wr := ([0, 1, 2, 4, 5].filterMap (fun i => ((zTr cI h_T q_T (sLis T_19 T_20)))[i]?))) (va_runSN (As := [.ref (q_T 2), vI x1, vI (r_1 + 1)]) (rest := []) hF.1 (c_Rt_put l D cI cZ cT (q_T 2) (tR T_19) (tSiz T_19) x1 (r_1 + 1) H.size (T_23) e_24) ⟨va_cnB 3 hts (zW_good wm61) rfl rfl rfl (hN.at 0 rfl) (hts _ wm32) (by decide +kernel) ⟨Nat.le_of_ble_eq_true rfl, Nat.le_of_ble_eq_true rfl⟩, hts _ wm60, trivial⟩ ⟨zP.blind, zP.enter (z_subP (ws' := (zAr cI ((q_T 2)) ((tR T_19)) ((tSiz T_19)))) hP [3] rfl) hK (hD.sub [3] (by decide) rfl) hN⟩ rfl rfl hl.1 rfl (lv_room (Nat.le_of_ble_eq_true rfl)) dX4_addAt_94 ⟨Nat.le_refl _, Nat.le_refl _⟩) hP hD hS hA [3] [0, 1, 2, 4, 5] [0, 1, 2, 5, 3, 4] rfl rfl (by decide) (fun _ => rfl) (fun u_25 H locs hP hD hS hz => ?_)
        refine lv_aload_n hx hb dX4_addAt_97 rfl (lv_at hl 0 rfl) ?_
        refine va_get (D := D) (ci := 4) (v := .ref (q_T 1)) (C := RX4) (T := TX4) (N := 10) hx hb hts zin4 hown hK hP 0 rfl rfl 1 (by decide) (hts _ wm63) (fun _ h9 => h9) rfl dX4_addAt_98 ?_
        refine lv_iload_n hx hb dX4_addAt_101 rfl (lv_at hl 3 rfl) ?_
        refine lv_iload_n hx hb dX4_addAt_102 rfl (lv_at hl 1 rfl) ?_
        obtain ⟨T_26, e_27, h⟩ := bd1_e h
        refine z_gov (wc := (zAr cI ((q_T 1)) ((tR T_19)) ((tHol T_19)))) (wn := fun u_28 => (zTr cI h_T q_T (sLis (sSiz (sHol T_19 T_26) T_23) T_20))) (wr := ([0, 1, 3, 4, 5].filterMap (fun i => ((zTr cI h_T q_T (sLis (sSiz T_19 T_23) T_20)))[i]?))) (va_runSN (As := [.ref (q_T 1), vI x3, vI x1]) (rest := []) hF.1 (c_Rt_put l D cI cZ cT (q_T 1) (tR T_19) (tHol T_19) x3 x1 H.size (T_26) e_27) ⟨va_cnB 3 hts (zW_good wm61) rfl rfl rfl (hN.at 0 rfl) (hts _ wm32) (by decide +kernel) ⟨Nat.le_of_ble_eq_true rfl, Nat.le_of_ble_eq_true rfl⟩, hts _ wm60, trivial⟩ ⟨zP.blind, zP.enter (z_subP (ws' := (zAr cI ((q_T 1)) ((tR T_19)) ((tHol T_19)))) hP [2] rfl) hK (hD.sub [2] (by decide) rfl) hN⟩ rfl rfl hl.1 rfl (lv_room (Nat.le_of_ble_eq_true rfl)) dX4_addAt_103 ⟨Nat.le_refl _, Nat.le_refl _⟩) hP hD hS hA [2] [0, 1, 3, 4, 5] [0, 1, 5, 2, 3, 4] rfl rfl (by decide) (fun _ => rfl) (fun u_28 H locs hP hD hS hz => ?_)
        refine lv_aload_n hx hb dX4_addAt_106 rfl (lv_at hl 0 rfl) ?_
        refine lv_iload_n hx hb dX4_addAt_107 rfl (lv_at hl 1 rfl) ?_
        obtain ⟨T_29, e_30, h⟩ := bd1_e h
        refine z_gov (wc := (zTr cI (h_T) (q_T) ((sLis (sSiz (sHol T_19 T_26) T_23) T_20)))) (wn := fun u_31 => (zTr cI h_T q_T T_29)) (wr := []) (va_runV (As := [vI x1]) (rest := []) hF.1 (c_Tr_refreshUp l D cI cZ cT h_T q_T (sLis (sSiz (sHol T_19 T_26) T_23) T_20) x1 H.size (T_29) e_30) (cwV 1 hts (zgV wm521 wm523 wm10 wm33 wm524) rfl rfl rfl (by decide +kernel) ⟨Nat.le_of_ble_eq_true rfl, Nat.le_of_ble_eq_true rfl⟩) ⟨zP.blind, va_recv hK (z_subP (ws' := (zTr cI (h_T) (q_T) ((sLis (sSiz (sHol T_19 T_26) T_23) T_20)))) hP [0, 1, 2, 3, 4, 5] rfl) (ci := 4) (q0 := 0) rfl rfl, zP.enter (z_subP (ws' := (zTr cI (h_T) (q_T) ((sLis (sSiz (sHol T_19 T_26) T_23) T_20)))) hP [0, 1, 2, 3, 4, 5] rfl) hK (hD.sub [0, 1, 2, 3, 4, 5] (by decide) rfl) hN⟩ rfl rfl hl.1 rfl (lv_room (Nat.le_of_ble_eq_true rfl)) dX4_addAt_108 ⟨Nat.le_refl _, Nat.le_refl _⟩) hP hD hS hA [0, 1, 2, 3, 4, 5] [] [0, 1, 2, 3, 4, 5] rfl rfl (by decide) (fun _ => rfl) (fun u_31 H locs hP hD hS hz => ?_)
        obtain rfl := Option.some.inj h
        exact z_vret hx hb hr hlk (fun _ _ => 0) hP hD hS dX4_addAt_111
      · have h := it_p b_8 h
        obtain rfl := Option.some.inj h
        exact z_vret hx hb hr hlk (fun _ _ => 0) hP hD hS dX4_addAt_24
def f_Tr_addBehind (T : TV) (x1 : Int) (x2 : Int) (x3 : Int) : Option (TV) :=
  bd1 (f_Tr_placeOf T x1 x2) <| fun r_1 => bd1 (f_Tr_addAt T x1 (r_1 + 1) x3) <| fun T_4 => some (T_4)
abbrev rm_Tr_addBehind : Room := ({ frames := 3, cells := 0, slots := 0, locals := 82 } : Room)
set_option maxHeartbeats 4000000 in
set_option maxRecDepth 100000 in
theorem c_Tr_addBehind (l : Launch) (D : va_G) (cI cZ cT : ClassId) (h_T : Nat) (q_T : Nat → Nat) (T : TV) (x1 : Int) (x2 : Int) (x3 : Int) (sz : Nat) (res : TV) (h : f_Tr_addBehind T x1 x2 x3 = some res) : zMv l yX4_addBehind cX4_addBehind 4 rm_Tr_addBehind D (zt cI cZ cT) [.ref h_T, vI x1, vI x2, vI x3] ((zTr cI h_T q_T T)) sz (fun u => (zTr cI h_T q_T (res))) 0 0 := by
  refine z_enth (Qc := zQv D (fun u => (zTr cI h_T q_T (res)))) (by decide) (Nat.le_of_ble_eq_true rfl) (fun p e s m args below meth c A ls H locs hF hP hD hS hl => ?_)
  have hx := hF.1.1
  have hb := hF.1.2.1
  have hml := hF.1.2.2.1
  have hown : s.vm.findClass "RectangleTree$Tree" = some m.cls := hF.1.2.2.2.1
  have hts := hF.1.2.2.2.2
  have hr := hF.2.1
  have hlk := hF.2.2.1
  have hK := hF.2.2.2.2.1
  have hN := hF.2.2.2.2.2.1
  have hA := hF.2.2.2.2.2.2
  unfold f_Tr_addBehind at h
  refine lv_aload_n hx hb dX4_addBehind_0 rfl (lv_at hl 0 rfl) ?_
  refine lv_iload_n hx hb dX4_addBehind_1 rfl (lv_at hl 1 rfl) ?_
  refine lv_aload_n hx hb dX4_addBehind_2 rfl (lv_at hl 0 rfl) ?_
  refine lv_iload_n hx hb dX4_addBehind_3 rfl (lv_at hl 1 rfl) ?_
  refine lv_iload_n hx hb dX4_addBehind_4 rfl (lv_at hl 2 rfl) ?_
  obtain ⟨r_1, e_2, h⟩ := bd1_e h
  refine z_goi (ws' := []) (ret := r_1) (wc := (zTr cI (h_T) (q_T) (T))) (wn := fun u_3 => (zTr cI h_T q_T T)) (wr := []) (va_runV (As := [vI x1, vI x2]) (rest := [vI x1, .ref h_T]) hF.1 (c_Tr_placeOf l D cI cZ cT h_T q_T T x1 x2 H.size (r_1) e_2) (cwV 2 hts (zgV wm555 wm557 wm14 wm33 wm558) rfl rfl rfl (by decide +kernel) ⟨Nat.le_of_ble_eq_true rfl, Nat.le_of_ble_eq_true rfl⟩) ⟨zP.blind, va_recv hK (z_subP (ws' := (zTr cI (h_T) (q_T) (T))) hP [0, 1, 2, 3, 4, 5] rfl) (ci := 4) (q0 := 0) rfl rfl, zP.enter (z_subP (ws' := (zTr cI (h_T) (q_T) (T))) hP [0, 1, 2, 3, 4, 5] rfl) hK (hD.sub [0, 1, 2, 3, 4, 5] (by decide) rfl) hN⟩ rfl rfl hl.1 rfl (lv_room (Nat.le_of_ble_eq_true rfl)) dX4_addBehind_5 ⟨Nat.le_refl _, Nat.le_refl _⟩) hP hD hS hA [0, 1, 2, 3, 4, 5] [] [0, 1, 2, 3, 4, 5] rfl rfl (by decide) (fun _ => rfl) (fun u_3 H locs hP hD hS hz => ?_)
  refine lv_iconst (v := Int32.ofInt 1) hx hb dX4_addBehind_8 rfl ?_
  refine z_iadd hx hb dX4_addBehind_9 ?_
  refine lv_iload_n hx hb dX4_addBehind_10 rfl (lv_at hl 3 rfl) ?_
  obtain ⟨T_4, e_5, h⟩ := bd1_e h
  refine z_gov (wc := (zTr cI (h_T) (q_T) (T))) (wn := fun u_6 => (zTr cI h_T q_T T_4)) (wr := []) (va_runV (As := [vI x1, vI (r_1 + 1), vI x3]) (rest := []) hF.1 (c_Tr_addAt l D cI cZ cT h_T q_T T x1 (r_1 + 1) x3 H.size (T_4) e_5) (cwV 3 hts (zgV wm572 wm518 wm519 wm33 wm520) rfl rfl rfl (by decide +kernel) ⟨Nat.le_of_ble_eq_true rfl, Nat.le_of_ble_eq_true rfl⟩) ⟨zP.blind, va_recv hK (z_subP (ws' := (zTr cI (h_T) (q_T) (T))) hP [0, 1, 2, 3, 4, 5] rfl) (ci := 4) (q0 := 0) rfl rfl, zP.enter (z_subP (ws' := (zTr cI (h_T) (q_T) (T))) hP [0, 1, 2, 3, 4, 5] rfl) hK (hD.sub [0, 1, 2, 3, 4, 5] (by decide) rfl) hN⟩ rfl rfl hl.1 rfl (lv_room (Nat.le_of_ble_eq_true rfl)) dX4_addBehind_11 ⟨Nat.le_refl _, Nat.le_refl _⟩) hP hD hS hA [0, 1, 2, 3, 4, 5] [] [0, 1, 2, 3, 4, 5] rfl rfl (by decide) (fun _ => rfl) (fun u_6 H locs hP hD hS hz => ?_)
  obtain rfl := Option.some.inj h
  exact z_vret hx hb hr hlk (fun _ _ => 0) hP hD hS dX4_addBehind_14
def f_Tr_takeOut_L37 (x4 : Int) (x5 : Int) (k : Int → TV → Option (TV)) : Nat → Int → TV → Option (TV)
  | 0, _, _ => none
  | n + 1, x6, T =>
  gd (ck x6) <| gd (ck x5) <| if x6 < x5 then (bd1 (f_Rt_at ((tR T) * 6) (tLis T) ((x4 + x6) + 1)) <| fun r_15 => bd1 (f_Rt_put ((tR T) * 6) (tLis T) (x4 + x6) r_15) <| fun T_18 => f_Tr_takeOut_L37 x4 x5 k n ((x6 + 1)) ((sLis T T_18))) else (k (x6) (T))
def f_Tr_takeOut (T : TV) (x1 : Int) : Option (TV) :=
  bd1 (f_Tr_holderOf T x1) <| fun r_1 => bd1 (f_Tr_placeOf T r_1 x1) <| fun r_4 => gd (ck r_4) <| if r_4 = (-1) then (some (T)) else (bd1 (f_Tr_sizeOf T r_1) <| fun r_9 => f_Tr_takeOut_L37 ((r_1 * 6)) ((r_9 - 1)) (fun x6_21 T_22 => bd1 (f_Rt_put (tR T_22) (tSiz T_22) r_1 (r_9 - 1)) <| fun T_23 => bd1 (f_Rt_put (tR T_22) (tHol T_22) x1 (-1)) <| fun T_26 => bd1 (f_Tr_refreshUp (sSiz (sHol T_22 T_26) T_23) r_1) <| fun T_29 => some (T_29)) FU (r_4) (T))
abbrev rm_Tr_takeOut : Room := ({ frames := 3, cells := 0, slots := 0, locals := 67 } : Room)
set_option maxHeartbeats 4000000 in
set_option maxRecDepth 100000 in
theorem w_Tr_takeOut_L37 {p : Program} {l : Launch} {e : Env} {s : State} {m : MethodId} {args : Array Value} {below : List Frame} {meth : Method} {c : Code} {A : Nat → Prop} (D : va_G) (cI cZ cT : ClassId) (h_T : Nat) (q_T : Nat → Nat) (x1 : Int) (x2 : Int) (x4 : Int) (x5 : Int) (res : TV) (k : Int → TV → Option (TV)) (hF : zF p m c cX4_takeOut 7 s args yX4_takeOut.cls meth none yX4_takeOut.name A D (zt cI cZ cT))
    (hk : ∀ (x6 : Int) (T : TV) (H : Heap) (locs : List Loc) (ls : Array Slot), k x6 T = some res → va_P D vwCl ((zTr cI h_T q_T T)) H → va_D A ((zTr cI h_T q_T T)) → va_S A s.heap H locs → lv_has ls 7 [(0, .ref h_T), (1, vI x1), (2, vI x2), (5, vI x5)] → W p l e rm_Tr_takeOut s m args below meth c H locs 0 0 (MQ below (zQv D (fun u => (zTr cI h_T q_T (res))) A) args s 0 0 A) (F0 m 76 ls [])) :
    ∀ (n : Nat) (x6 : Int) (T : TV) (H : Heap) (locs : List Loc) (ls : Array Slot), f_Tr_takeOut_L37 x4 x5 k n x6 T = some res → va_P D vwCl ((zTr cI h_T q_T T)) H → va_D A ((zTr cI h_T q_T T)) → va_S A s.heap H locs → lv_has ls 7 [(0, .ref h_T), (1, vI x1), (2, vI x2), (4, vI x4), (5, vI x5), (6, vI x6)] → W p l e rm_Tr_takeOut s m args below meth c H locs 0 0 (MQ below (zQv D (fun u => (zTr cI h_T q_T (res))) A) args s 0 0 A) (F0 m 37 ls []) := by
  have hx := hF.1.1
  have hb := hF.1.2.1
  have hml := hF.1.2.2.1
  have hown : s.vm.findClass "RectangleTree$Tree" = some m.cls := hF.1.2.2.2.1
  have hts := hF.1.2.2.2.2
  have hr := hF.2.1
  have hlk := hF.2.2.1
  have hK := hF.2.2.2.2.1
  have hN := hF.2.2.2.2.2.1
  have hA := hF.2.2.2.2.2.2
  intro n
  induction n with
  | zero => intro x6 T H locs ls h; cases h
  | succ n ih =>
    intro x6 T H locs ls h hP hD hS hl
    rw [f_Tr_takeOut_L37] at h
    refine lv_iload hx hb dX4_takeOut_37 (lv_at hl 5 rfl) ?_
    refine lv_iload hx hb dX4_takeOut_39 (lv_at hl 4 rfl) ?_
    obtain ⟨g_12, h⟩ := gd_e h
    obtain ⟨g_13, h⟩ := gd_e h
    refine z_icmp_ge (tgt := 76) hx hb g_12 g_13 dX4_takeOut_41 (by decide) (fun b_14 => ?_) (fun b_14 => ?_)
    · have h := it_n b_14 h
      exact hk (x6) (T) H locs ls h hP hD hS (lv_sub hl [0, 1, 2, 4] rfl)
    · have h := it_p b_14 h
      refine lv_aload_n hx hb dX4_takeOut_44 rfl (lv_at hl 0 rfl) ?_
      refine va_get (D := D) (ci := 4) (v := .ref (q_T 4)) (C := RX4) (T := TX4) (N := 10) hx hb hts zin4 hown hK hP 0 rfl rfl 4 (by decide) (hts _ wm66) (fun _ h9 => h9) rfl dX4_takeOut_45 ?_
      refine lv_iload hx hb dX4_takeOut_48 (lv_at hl 3 rfl) ?_
      refine lv_iload hx hb dX4_takeOut_50 (lv_at hl 5 rfl) ?_
      refine z_iadd hx hb dX4_takeOut_52 ?_
      refine lv_aload_n hx hb dX4_takeOut_53 rfl (lv_at hl 0 rfl) ?_
      refine va_get (D := D) (ci := 4) (v := .ref (q_T 4)) (C := RX4) (T := TX4) (N := 10) hx hb hts zin4 hown hK hP 0 rfl rfl 4 (by decide) (hts _ wm66) (fun _ h9 => h9) rfl dX4_takeOut_54 ?_
      refine lv_iload hx hb dX4_takeOut_57 (lv_at hl 3 rfl) ?_
      refine lv_iload hx hb dX4_takeOut_59 (lv_at hl 5 rfl) ?_
      refine z_iadd hx hb dX4_takeOut_61 ?_
      refine lv_iconst (v := Int32.ofInt 1) hx hb dX4_takeOut_62 rfl ?_
      refine z_iadd hx hb dX4_takeOut_63 ?_
      obtain ⟨r_15, e_16, h⟩ := bd1_e h
      refine z_goi (ws' := []) (ret := r_15) (wc := (zAr cI ((q_T 4)) (((tR T) * 6)) ((tLis T)))) (wn := fun u_17 => (zTr cI h_T q_T T)) (wr := ([0, 1, 2, 3, 4].filterMap (fun i => ((zTr cI h_T q_T T))[i]?))) (va_runSN (As := [.ref (q_T 4), vI ((x4 + x6) + 1)]) (rest := [vI (x4 + x6), .ref (q_T 4)]) hF.1 (c_Rt_at l D cI cZ cT (q_T 4) ((tR T) * 6) (tLis T) ((x4 + x6) + 1) H.size (r_15) e_16) ⟨va_cnB 2 hts (zW_good wm229) rfl rfl rfl (hN.at 6 rfl) (hts _ wm32) (by decide +kernel) ⟨Nat.le_of_ble_eq_true rfl, Nat.le_of_ble_eq_true rfl⟩, hts _ wm228, trivial⟩ ⟨zP.blind, zP.enter (z_subP (ws' := (zAr cI ((q_T 4)) (((tR T) * 6)) ((tLis T)))) hP [5] rfl) hK (hD.sub [5] (by decide) rfl) hN⟩ rfl rfl hl.1 rfl (lv_room (Nat.le_of_ble_eq_true rfl)) dX4_takeOut_64 ⟨Nat.le_refl _, Nat.le_refl _⟩) hP hD hS hA [5] [0, 1, 2, 3, 4] [0, 1, 2, 3, 4, 5] rfl rfl (by decide) (fun _ => rfl) (fun u_17 H locs hP hD hS hz => ?_)
      obtain ⟨T_18, e_19, h⟩ := bd1_e h
      refine z_gov (wc := (zAr cI ((q_T 4)) (((tR T) * 6)) ((tLis T)))) (wn := fun u_20 => (zTr cI h_T q_T (sLis T T_18))) (wr := ([0, 1, 2, 3, 4].filterMap (fun i => ((zTr cI h_T q_T T))[i]?))) (va_runSN (As := [.ref (q_T 4), vI (x4 + x6), vI r_15]) (rest := []) hF.1 (c_Rt_put l D cI cZ cT (q_T 4) ((tR T) * 6) (tLis T) (x4 + x6) r_15 H.size (T_18) e_19) ⟨va_cnB 3 hts (zW_good wm61) rfl rfl rfl (hN.at 0 rfl) (hts _ wm32) (by decide +kernel) ⟨Nat.le_of_ble_eq_true rfl, Nat.le_of_ble_eq_true rfl⟩, hts _ wm60, trivial⟩ ⟨zP.blind, zP.enter (z_subP (ws' := (zAr cI ((q_T 4)) (((tR T) * 6)) ((tLis T)))) hP [5] rfl) hK (hD.sub [5] (by decide) rfl) hN⟩ rfl rfl hl.1 rfl (lv_room (Nat.le_of_ble_eq_true rfl)) dX4_takeOut_67 ⟨Nat.le_refl _, Nat.le_refl _⟩) hP hD hS hA [5] [0, 1, 2, 3, 4] [0, 1, 2, 3, 4, 5] rfl rfl (by decide) (fun _ => rfl) (fun u_20 H locs hP hD hS hz => ?_)
      refine lv_iinc (v := Int32.ofInt (x6 + 1)) (lv' := [(6, vI (x6 + 1)), (0, .ref h_T), (1, vI x1), (2, vI x2), (4, vI x4), (5, vI x5)]) hx hb dX4_takeOut_70 hl (k := 5) rfl (z_inc _ _) (by decide) rfl (fun ls hl => ?_)
      refine lv_goto (tgt := 37) hx hb dX4_takeOut_73 (by decide) ?_
      exact ih ((x6 + 1)) ((sLis T T_18)) H locs ls h hP hD hS (lv_sub hl [1, 2, 3, 4, 5, 0] rfl)
set_option maxHeartbeats 4000000 in
set_option maxRecDepth 100000 in
theorem c_Tr_takeOut (l : Launch) (D : va_G) (cI cZ cT : ClassId) (h_T : Nat) (q_T : Nat → Nat) (T : TV) (x1 : Int) (sz : Nat) (res : TV) (h : f_Tr_takeOut T x1 = some res) : zMv l yX4_takeOut cX4_takeOut 7 rm_Tr_takeOut D (zt cI cZ cT) [.ref h_T, vI x1] ((zTr cI h_T q_T T)) sz (fun u => (zTr cI h_T q_T (res))) 0 0 := by
  refine z_enth (Qc := zQv D (fun u => (zTr cI h_T q_T (res)))) (by decide) (Nat.le_of_ble_eq_true rfl) (fun p e s m args below meth c A ls H locs hF hP hD hS hl => ?_)
  have hx := hF.1.1
  have hb := hF.1.2.1
  have hml := hF.1.2.2.1
  have hown : s.vm.findClass "RectangleTree$Tree" = some m.cls := hF.1.2.2.2.1
  have hts := hF.1.2.2.2.2
  have hr := hF.2.1
  have hlk := hF.2.2.1
  have hK := hF.2.2.2.2.1
  have hN := hF.2.2.2.2.2.1
  have hA := hF.2.2.2.2.2.2
  unfold f_Tr_takeOut at h
  refine lv_aload_n hx hb dX4_takeOut_0 rfl (lv_at hl 0 rfl) ?_
  refine lv_iload_n hx hb dX4_takeOut_1 rfl (lv_at hl 1 rfl) ?_
  obtain ⟨r_1, e_2, h⟩ := bd1_e h
  refine z_goi (ws' := []) (ret := r_1) (wc := (zTr cI (h_T) (q_T) (T))) (wn := fun u_3 => (zTr cI h_T q_T T)) (wr := []) (va_runV (As := [vI x1]) (rest := []) hF.1 (c_Tr_holderOf l D cI cZ cT h_T q_T T x1 H.size (r_1) e_2) (cwV 1 hts (zgV wm554 wm349 wm350 wm33 wm351) rfl rfl rfl (by decide +kernel) ⟨Nat.le_of_ble_eq_true rfl, Nat.le_of_ble_eq_true rfl⟩) ⟨zP.blind, va_recv hK (z_subP (ws' := (zTr cI (h_T) (q_T) (T))) hP [0, 1, 2, 3, 4, 5] rfl) (ci := 4) (q0 := 0) rfl rfl, zP.enter (z_subP (ws' := (zTr cI (h_T) (q_T) (T))) hP [0, 1, 2, 3, 4, 5] rfl) hK (hD.sub [0, 1, 2, 3, 4, 5] (by decide) rfl) hN⟩ rfl rfl hl.1 rfl (lv_room (Nat.le_of_ble_eq_true rfl)) dX4_takeOut_2 ⟨Nat.le_refl _, Nat.le_refl _⟩) hP hD hS hA [0, 1, 2, 3, 4, 5] [] [0, 1, 2, 3, 4, 5] rfl rfl (by decide) (fun _ => rfl) (fun u_3 H locs hP hD hS hz => ?_)
  refine lv_istore_n (lv' := [(2, vI r_1), (0, .ref h_T), (1, vI x1)]) hx hb dX4_takeOut_5 rfl hl (by decide) rfl (fun ls hl => ?_)
  refine lv_aload_n hx hb dX4_takeOut_6 rfl (lv_at hl 1 rfl) ?_
  refine lv_iload_n hx hb dX4_takeOut_7 rfl (lv_at hl 0 rfl) ?_
  refine lv_iload_n hx hb dX4_takeOut_8 rfl (lv_at hl 2 rfl) ?_
  obtain ⟨r_4, e_5, h⟩ := bd1_e h
  refine z_goi (ws' := []) (ret := r_4) (wc := (zTr cI (h_T) (q_T) (T))) (wn := fun u_6 => (zTr cI h_T q_T T)) (wr := []) (va_runV (As := [vI r_1, vI x1]) (rest := []) hF.1 (c_Tr_placeOf l D cI cZ cT h_T q_T T r_1 x1 H.size (r_4) e_5) (cwV 2 hts (zgV wm555 wm557 wm14 wm33 wm558) rfl rfl rfl (by decide +kernel) ⟨Nat.le_of_ble_eq_true rfl, Nat.le_of_ble_eq_true rfl⟩) ⟨zP.blind, va_recv hK (z_subP (ws' := (zTr cI (h_T) (q_T) (T))) hP [0, 1, 2, 3, 4, 5] rfl) (ci := 4) (q0 := 0) rfl rfl, zP.enter (z_subP (ws' := (zTr cI (h_T) (q_T) (T))) hP [0, 1, 2, 3, 4, 5] rfl) hK (hD.sub [0, 1, 2, 3, 4, 5] (by decide) rfl) hN⟩ rfl rfl hl.1 rfl (lv_room (Nat.le_of_ble_eq_true rfl)) dX4_takeOut_9 ⟨Nat.le_refl _, Nat.le_refl _⟩) hP hD hS hA [0, 1, 2, 3, 4, 5] [] [0, 1, 2, 3, 4, 5] rfl rfl (by decide) (fun _ => rfl) (fun u_6 H locs hP hD hS hz => ?_)
  refine lv_istore_n (lv' := [(3, vI r_4), (2, vI r_1), (0, .ref h_T), (1, vI x1)]) hx hb dX4_takeOut_12 rfl hl (by decide) rfl (fun ls hl => ?_)
  refine lv_iload_n hx hb dX4_takeOut_13 rfl (lv_at hl 0 rfl) ?_
  refine lv_iconst (v := Int32.ofInt (-1)) hx hb dX4_takeOut_14 rfl ?_
  obtain ⟨g_7, h⟩ := gd_e h
  refine z_icmp_ne (tgt := 19) hx hb g_7 (by decide) dX4_takeOut_15 (by decide) (fun b_8 => ?_) (fun b_8 => ?_)
  · have h := it_n b_8 h
    refine lv_iload_n hx hb dX4_takeOut_19 rfl (lv_at hl 1 rfl) ?_
    refine lv_bipush (v := Int32.ofInt 6) hx hb dX4_takeOut_20 (by decide +kernel) ?_
    refine z_imul hx hb dX4_takeOut_22 ?_
    refine lv_istore (lv' := [(4, vI (r_1 * 6)), (3, vI r_4), (2, vI r_1), (0, .ref h_T), (1, vI x1)]) hx hb dX4_takeOut_23 hl (by decide) rfl (fun ls hl => ?_)
    refine lv_aload_n hx hb dX4_takeOut_25 rfl (lv_at hl 3 rfl) ?_
    refine lv_iload_n hx hb dX4_takeOut_26 rfl (lv_at hl 2 rfl) ?_
    obtain ⟨r_9, e_10, h⟩ := bd1_e h
    refine z_goi (ws' := []) (ret := r_9) (wc := (zTr cI (h_T) (q_T) (T))) (wn := fun u_11 => (zTr cI h_T q_T T)) (wr := []) (va_runV (As := [vI r_1]) (rest := []) hF.1 (c_Tr_sizeOf l D cI cZ cT h_T q_T T r_1 H.size (r_9) e_10) (cwV 1 hts (zgV wm238 wm231 wm232 wm33 wm233) rfl rfl rfl (by decide +kernel) ⟨Nat.le_of_ble_eq_true rfl, Nat.le_of_ble_eq_true rfl⟩) ⟨zP.blind, va_recv hK (z_subP (ws' := (zTr cI (h_T) (q_T) (T))) hP [0, 1, 2, 3, 4, 5] rfl) (ci := 4) (q0 := 0) rfl rfl, zP.enter (z_subP (ws' := (zTr cI (h_T) (q_T) (T))) hP [0, 1, 2, 3, 4, 5] rfl) hK (hD.sub [0, 1, 2, 3, 4, 5] (by decide) rfl) hN⟩ rfl rfl hl.1 rfl (lv_room (Nat.le_of_ble_eq_true rfl)) dX4_takeOut_27 ⟨Nat.le_refl _, Nat.le_refl _⟩) hP hD hS hA [0, 1, 2, 3, 4, 5] [] [0, 1, 2, 3, 4, 5] rfl rfl (by decide) (fun _ => rfl) (fun u_11 H locs hP hD hS hz => ?_)
    refine lv_iconst (v := Int32.ofInt 1) hx hb dX4_takeOut_30 rfl ?_
    refine z_isub hx hb dX4_takeOut_31 ?_
    refine lv_istore (lv' := [(5, vI (r_9 - 1)), (4, vI (r_1 * 6)), (3, vI r_4), (2, vI r_1), (0, .ref h_T), (1, vI x1)]) hx hb dX4_takeOut_32 hl (by decide) rfl (fun ls hl => ?_)
    refine lv_iload_n hx hb dX4_takeOut_34 rfl (lv_at hl 2 rfl) ?_
    refine lv_istore (lv' := [(6, vI r_4), (5, vI (r_9 - 1)), (4, vI (r_1 * 6)), (3, vI r_4), (2, vI r_1), (0, .ref h_T), (1, vI x1)]) hx hb dX4_takeOut_35 hl (by decide) rfl (fun ls hl => ?_)
    refine w_Tr_takeOut_L37 D cI cZ cT (h_T) (q_T) (x1) (r_1) ((r_1 * 6)) ((r_9 - 1)) _ _ hF (fun x6_21 T_22 H locs ls h hP hD hS hl => ?_) _ (r_4) (T) _ _ _ h hP hD hS (lv_sub hl [5, 6, 4, 2, 1, 0] rfl)
    refine lv_aload_n hx hb dX4_takeOut_76 rfl (lv_at hl 0 rfl) ?_
    refine va_get (D := D) (ci := 4) (v := .ref (q_T 2)) (C := RX4) (T := TX4) (N := 10) hx hb hts zin4 hown hK hP 0 rfl rfl 2 (by decide) (hts _ wm64) (fun _ h9 => h9) rfl dX4_takeOut_77 ?_
    refine lv_iload_n hx hb dX4_takeOut_80 rfl (lv_at hl 2 rfl) ?_
    refine lv_iload hx hb dX4_takeOut_81 (lv_at hl 3 rfl) ?_
    obtain ⟨T_23, e_24, h⟩ := bd1_e h
    refine z_gov (wc := (zAr cI ((q_T 2)) ((tR T_22)) ((tSiz T_22)))) (wn := fun u_25 => (zTr cI h_T q_T (sSiz T_22 T_23))) (wr := ([0, 1, 2, 4, 5].filterMap (fun i => ((zTr cI h_T q_T T_22))[i]?))) (va_runSN (As := [.ref (q_T 2), vI r_1, vI (r_9 - 1)]) (rest := []) hF.1 (c_Rt_put l D cI cZ cT (q_T 2) (tR T_22) (tSiz T_22) r_1 (r_9 - 1) H.size (T_23) e_24) ⟨va_cnB 3 hts (zW_good wm61) rfl rfl rfl (hN.at 0 rfl) (hts _ wm32) (by decide +kernel) ⟨Nat.le_of_ble_eq_true rfl, Nat.le_of_ble_eq_true rfl⟩, hts _ wm60, trivial⟩ ⟨zP.blind, zP.enter (z_subP (ws' := (zAr cI ((q_T 2)) ((tR T_22)) ((tSiz T_22)))) hP [3] rfl) hK (hD.sub [3] (by decide) rfl) hN⟩ rfl rfl hl.1 rfl (lv_room (Nat.le_of_ble_eq_true rfl)) dX4_takeOut_83 ⟨Nat.le_refl _, Nat.le_refl _⟩) hP hD hS hA [3] [0, 1, 2, 4, 5] [0, 1, 2, 5, 3, 4] rfl rfl (by decide) (fun _ => rfl) (fun u_25 H locs hP hD hS hz => ?_)
    refine lv_aload_n hx hb dX4_takeOut_86 rfl (lv_at hl 0 rfl) ?_
    refine va_get (D := D) (ci := 4) (v := .ref (q_T 1)) (C := RX4) (T := TX4) (N := 10) hx hb hts zin4 hown hK hP 0 rfl rfl 1 (by decide) (hts _ wm63) (fun _ h9 => h9) rfl dX4_takeOut_87 ?_
    refine lv_iload_n hx hb dX4_takeOut_90 rfl (lv_at hl 1 rfl) ?_
    refine lv_iconst (v := Int32.ofInt (-1)) hx hb dX4_takeOut_91 rfl ?_
    obtain ⟨T_26, e_27, h⟩ := bd1_e h
    refine z_gov (wc := (zAr cI ((q_T 1)) ((tR T_22)) ((tHol T_22)))) (wn := fun u_28 => (zTr cI h_T q_T (sSiz (sHol T_22 T_26) T_23))) (wr := ([0, 1, 3, 4, 5].filterMap (fun i => ((zTr cI h_T q_T (sSiz T_22 T_23)))[i]?))) (va_runSN (As := [.ref (q_T 1), vI x1, vI (-1)]) (rest := []) hF.1 (c_Rt_put l D cI cZ cT (q_T 1) (tR T_22) (tHol T_22) x1 (-1) H.size (T_26) e_27) ⟨va_cnB 3 hts (zW_good wm61) rfl rfl rfl (hN.at 0 rfl) (hts _ wm32) (by decide +kernel) ⟨Nat.le_of_ble_eq_true rfl, Nat.le_of_ble_eq_true rfl⟩, hts _ wm60, trivial⟩ ⟨zP.blind, zP.enter (z_subP (ws' := (zAr cI ((q_T 1)) ((tR T_22)) ((tHol T_22)))) hP [2] rfl) hK (hD.sub [2] (by decide) rfl) hN⟩ rfl rfl hl.1 rfl (lv_room (Nat.le_of_ble_eq_true rfl)) dX4_takeOut_92 ⟨Nat.le_refl _, Nat.le_refl _⟩) hP hD hS hA [2] [0, 1, 3, 4, 5] [0, 1, 5, 2, 3, 4] rfl rfl (by decide) (fun _ => rfl) (fun u_28 H locs hP hD hS hz => ?_)
    refine lv_aload_n hx hb dX4_takeOut_95 rfl (lv_at hl 0 rfl) ?_
    refine lv_iload_n hx hb dX4_takeOut_96 rfl (lv_at hl 2 rfl) ?_
    obtain ⟨T_29, e_30, h⟩ := bd1_e h
    refine z_gov (wc := (zTr cI (h_T) (q_T) ((sSiz (sHol T_22 T_26) T_23)))) (wn := fun u_31 => (zTr cI h_T q_T T_29)) (wr := []) (va_runV (As := [vI r_1]) (rest := []) hF.1 (c_Tr_refreshUp l D cI cZ cT h_T q_T (sSiz (sHol T_22 T_26) T_23) r_1 H.size (T_29) e_30) (cwV 1 hts (zgV wm521 wm523 wm10 wm33 wm524) rfl rfl rfl (by decide +kernel) ⟨Nat.le_of_ble_eq_true rfl, Nat.le_of_ble_eq_true rfl⟩) ⟨zP.blind, va_recv hK (z_subP (ws' := (zTr cI (h_T) (q_T) ((sSiz (sHol T_22 T_26) T_23)))) hP [0, 1, 2, 3, 4, 5] rfl) (ci := 4) (q0 := 0) rfl rfl, zP.enter (z_subP (ws' := (zTr cI (h_T) (q_T) ((sSiz (sHol T_22 T_26) T_23)))) hP [0, 1, 2, 3, 4, 5] rfl) hK (hD.sub [0, 1, 2, 3, 4, 5] (by decide) rfl) hN⟩ rfl rfl hl.1 rfl (lv_room (Nat.le_of_ble_eq_true rfl)) dX4_takeOut_97 ⟨Nat.le_refl _, Nat.le_refl _⟩) hP hD hS hA [0, 1, 2, 3, 4, 5] [] [0, 1, 2, 3, 4, 5] rfl rfl (by decide) (fun _ => rfl) (fun u_31 H locs hP hD hS hz => ?_)
    obtain rfl := Option.some.inj h
    exact z_vret hx hb hr hlk (fun _ _ => 0) hP hD hS dX4_takeOut_100
  · have h := it_p b_8 h
    obtain rfl := Option.some.inj h
    exact z_vret hx hb hr hlk (fun _ _ => 0) hP hD hS dX4_takeOut_18
def f_Tr_lowerRoot_L2 (k : Int → TV → Option (TV)) : Nat → Int → TV → Option (TV)
  | 0, _, _ => none
  | n + 1, x1, T =>
  bd1 (f_Tr_levelOf T (tRoot T)) <| fun r_1 => gd (ck r_1) <| if 0 < r_1 then (bd1 (f_Tr_sizeOf T (tRoot T)) <| fun r_6 => gd (ck r_6) <| if r_6 = 1 then (gd (ck x1) <| if x1 < 1000000 then (bd1 (f_Tr_entryAt T (tRoot T) 0) <| fun r_13 => bd1 (f_Tr_release T (tRoot T)) <| fun T_16 => bd1 (f_Tr_setLoose T_16 r_13) <| fun T_19 => f_Tr_lowerRoot_L2 k n ((x1 + 1)) ((sRoot T_19 r_13))) else (k (x1) (T))) else (k (x1) (T))) else (k (x1) (T))
def f_Tr_lowerRoot (T : TV) : Option (TV) :=
  f_Tr_lowerRoot_L2 (fun x1_22 T_23 => bd1 (f_Tr_levelOf T_23 (tRoot T_23)) <| fun r_24 => gd (ck r_24) <| if 0 < r_24 then (bd1 (f_Tr_sizeOf T_23 (tRoot T_23)) <| fun r_29 => gd (ck r_29) <| if r_29 = 0 then (bd1 (f_Rt_put (tR T_23) (tLev T_23) (tRoot T_23) 0) <| fun T_34 => some ((sLev T_23 T_34))) else (some (T_23))) else (some (T_23))) FU (0) (T)
abbrev rm_Tr_lowerRoot : Room := ({ frames := 3, cells := 0, slots := 0, locals := 65 } : Room)
set_option maxHeartbeats 4000000 in
set_option maxRecDepth 100000 in
theorem w_Tr_lowerRoot_L2 {p : Program} {l : Launch} {e : Env} {s : State} {m : MethodId} {args : Array Value} {below : List Frame} {meth : Method} {c : Code} {A : Nat → Prop} (D : va_G) (cI cZ cT : ClassId) (h_T : Nat) (q_T : Nat → Nat) (res : TV) (k : Int → TV → Option (TV)) (hF : zF p m c cX4_lowerRoot 3 s args yX4_lowerRoot.cls meth none yX4_lowerRoot.name A D (zt cI cZ cT))
    (hk : ∀ (x1 : Int) (T : TV) (H : Heap) (locs : List Loc) (ls : Array Slot), k x1 T = some res → va_P D vwCl ((zTr cI h_T q_T T)) H → va_D A ((zTr cI h_T q_T T)) → va_S A s.heap H locs → lv_has ls 3 [(0, .ref h_T)] → W p l e rm_Tr_lowerRoot s m args below meth c H locs 0 0 (MQ below (zQv D (fun u => (zTr cI h_T q_T (res))) A) args s 0 0 A) (F0 m 65 ls [])) :
    ∀ (n : Nat) (x1 : Int) (T : TV) (H : Heap) (locs : List Loc) (ls : Array Slot), f_Tr_lowerRoot_L2 k n x1 T = some res → va_P D vwCl ((zTr cI h_T q_T T)) H → va_D A ((zTr cI h_T q_T T)) → va_S A s.heap H locs → lv_has ls 3 [(0, .ref h_T), (1, vI x1)] → W p l e rm_Tr_lowerRoot s m args below meth c H locs 0 0 (MQ below (zQv D (fun u => (zTr cI h_T q_T (res))) A) args s 0 0 A) (F0 m 2 ls []) := by
  have hx := hF.1.1
  have hb := hF.1.2.1
  have hml := hF.1.2.2.1
  have hown : s.vm.findClass "RectangleTree$Tree" = some m.cls := hF.1.2.2.2.1
  have hts := hF.1.2.2.2.2
  have hr := hF.2.1
  have hlk := hF.2.2.1
  have hK := hF.2.2.2.2.1
  have hN := hF.2.2.2.2.2.1
  have hA := hF.2.2.2.2.2.2
  intro n
  induction n with
  | zero => intro x1 T H locs ls h; cases h
  | succ n ih =>
    intro x1 T H locs ls h hP hD hS hl
    rw [f_Tr_lowerRoot_L2] at h
    refine lv_aload_n hx hb dX4_lowerRoot_2 rfl (lv_at hl 0 rfl) ?_
    refine lv_aload_n hx hb dX4_lowerRoot_3 rfl (lv_at hl 0 rfl) ?_
    refine va_get (D := D) (ci := 4) (v := vI (tRoot T)) (C := RX4) (T := TX4) (N := 10) hx hb hts zin4 hown hK hP 0 rfl rfl 5 (by decide) (hts _ wm67) (fun _ h9 => h9) rfl dX4_lowerRoot_4 ?_
    obtain ⟨r_1, e_2, h⟩ := bd1_e h
    refine z_goi (ws' := []) (ret := r_1) (wc := (zTr cI (h_T) (q_T) (T))) (wn := fun u_3 => (zTr cI h_T q_T T)) (wr := []) (va_runV (As := [vI (tRoot T)]) (rest := []) hF.1 (c_Tr_levelOf l D cI cZ cT h_T q_T T (tRoot T) H.size (r_1) e_2) (cwV 1 hts (zgV wm347 wm301 wm302 wm33 wm303) rfl rfl rfl (by decide +kernel) ⟨Nat.le_of_ble_eq_true rfl, Nat.le_of_ble_eq_true rfl⟩) ⟨zP.blind, va_recv hK (z_subP (ws' := (zTr cI (h_T) (q_T) (T))) hP [0, 1, 2, 3, 4, 5] rfl) (ci := 4) (q0 := 0) rfl rfl, zP.enter (z_subP (ws' := (zTr cI (h_T) (q_T) (T))) hP [0, 1, 2, 3, 4, 5] rfl) hK (hD.sub [0, 1, 2, 3, 4, 5] (by decide) rfl) hN⟩ rfl rfl hl.1 rfl (lv_room (Nat.le_of_ble_eq_true rfl)) dX4_lowerRoot_7 ⟨Nat.le_refl _, Nat.le_refl _⟩) hP hD hS hA [0, 1, 2, 3, 4, 5] [] [0, 1, 2, 3, 4, 5] rfl rfl (by decide) (fun _ => rfl) (fun u_3 H locs hP hD hS hz => ?_)
    obtain ⟨g_4, h⟩ := gd_e h
    refine z_if_le (tgt := 65) hx hb g_4 dX4_lowerRoot_10 (by decide) (fun b_5 => ?_) (fun b_5 => ?_)
    · have h := it_n b_5 h
      exact hk (x1) (T) H locs ls h hP hD hS (lv_sub hl [0] rfl)
    · have h := it_p b_5 h
      refine lv_aload_n hx hb dX4_lowerRoot_13 rfl (lv_at hl 0 rfl) ?_
      refine lv_aload_n hx hb dX4_lowerRoot_14 rfl (lv_at hl 0 rfl) ?_
      refine va_get (D := D) (ci := 4) (v := vI (tRoot T)) (C := RX4) (T := TX4) (N := 10) hx hb hts zin4 hown hK hP 0 rfl rfl 5 (by decide) (hts _ wm67) (fun _ h9 => h9) rfl dX4_lowerRoot_15 ?_
      obtain ⟨r_6, e_7, h⟩ := bd1_e h
      refine z_goi (ws' := []) (ret := r_6) (wc := (zTr cI (h_T) (q_T) (T))) (wn := fun u_8 => (zTr cI h_T q_T T)) (wr := []) (va_runV (As := [vI (tRoot T)]) (rest := []) hF.1 (c_Tr_sizeOf l D cI cZ cT h_T q_T T (tRoot T) H.size (r_6) e_7) (cwV 1 hts (zgV wm238 wm231 wm232 wm33 wm233) rfl rfl rfl (by decide +kernel) ⟨Nat.le_of_ble_eq_true rfl, Nat.le_of_ble_eq_true rfl⟩) ⟨zP.blind, va_recv hK (z_subP (ws' := (zTr cI (h_T) (q_T) (T))) hP [0, 1, 2, 3, 4, 5] rfl) (ci := 4) (q0 := 0) rfl rfl, zP.enter (z_subP (ws' := (zTr cI (h_T) (q_T) (T))) hP [0, 1, 2, 3, 4, 5] rfl) hK (hD.sub [0, 1, 2, 3, 4, 5] (by decide) rfl) hN⟩ rfl rfl hl.1 rfl (lv_room (Nat.le_of_ble_eq_true rfl)) dX4_lowerRoot_18 ⟨Nat.le_refl _, Nat.le_refl _⟩) hP hD hS hA [0, 1, 2, 3, 4, 5] [] [0, 1, 2, 3, 4, 5] rfl rfl (by decide) (fun _ => rfl) (fun u_8 H locs hP hD hS hz => ?_)
      refine lv_iconst (v := Int32.ofInt 1) hx hb dX4_lowerRoot_21 rfl ?_
      obtain ⟨g_9, h⟩ := gd_e h
      refine z_icmp_ne (tgt := 65) hx hb g_9 (by decide) dX4_lowerRoot_22 (by decide) (fun b_10 => ?_) (fun b_10 => ?_)
      · have h := it_n b_10 h
        exact hk (x1) (T) H locs ls h hP hD hS (lv_sub hl [0] rfl)
      · have h := it_p b_10 h
        refine lv_iload_n hx hb dX4_lowerRoot_25 rfl (lv_at hl 1 rfl) ?_
        refine lv_ldc (v := Int32.ofInt 1000000) hx hb hown (hts _ wm529) dX4_lowerRoot_26 ?_
        obtain ⟨g_11, h⟩ := gd_e h
        refine z_icmp_ge (tgt := 65) hx hb g_11 (by decide) dX4_lowerRoot_28 (by decide) (fun b_12 => ?_) (fun b_12 => ?_)
        · have h := it_n b_12 h
          exact hk (x1) (T) H locs ls h hP hD hS (lv_sub hl [0] rfl)
        · have h := it_p b_12 h
          refine lv_aload_n hx hb dX4_lowerRoot_31 rfl (lv_at hl 0 rfl) ?_
          refine lv_aload_n hx hb dX4_lowerRoot_32 rfl (lv_at hl 0 rfl) ?_
          refine va_get (D := D) (ci := 4) (v := vI (tRoot T)) (C := RX4) (T := TX4) (N := 10) hx hb hts zin4 hown hK hP 0 rfl rfl 5 (by decide) (hts _ wm67) (fun _ h9 => h9) rfl dX4_lowerRoot_33 ?_
          refine lv_iconst (v := Int32.ofInt 0) hx hb dX4_lowerRoot_36 rfl ?_
          obtain ⟨r_13, e_14, h⟩ := bd1_e h
          refine z_goi (ws' := []) (ret := r_13) (wc := (zTr cI (h_T) (q_T) (T))) (wn := fun u_15 => (zTr cI h_T q_T T)) (wr := []) (va_runV (As := [vI (tRoot T), vI 0]) (rest := []) hF.1 (c_Tr_entryAt l D cI cZ cT h_T q_T T (tRoot T) 0 H.size (r_13) e_14) (cwV 2 hts (zgV wm559 wm235 wm236 wm33 wm237) rfl rfl rfl (by decide +kernel) ⟨Nat.le_of_ble_eq_true rfl, Nat.le_of_ble_eq_true rfl⟩) ⟨zP.blind, va_recv hK (z_subP (ws' := (zTr cI (h_T) (q_T) (T))) hP [0, 1, 2, 3, 4, 5] rfl) (ci := 4) (q0 := 0) rfl rfl, zP.enter (z_subP (ws' := (zTr cI (h_T) (q_T) (T))) hP [0, 1, 2, 3, 4, 5] rfl) hK (hD.sub [0, 1, 2, 3, 4, 5] (by decide) rfl) hN⟩ rfl rfl hl.1 rfl (lv_room (Nat.le_of_ble_eq_true rfl)) dX4_lowerRoot_37 ⟨Nat.le_refl _, Nat.le_refl _⟩) hP hD hS hA [0, 1, 2, 3, 4, 5] [] [0, 1, 2, 3, 4, 5] rfl rfl (by decide) (fun _ => rfl) (fun u_15 H locs hP hD hS hz => ?_)
          refine lv_istore_n (lv' := [(2, vI r_13), (0, .ref h_T), (1, vI x1)]) hx hb dX4_lowerRoot_40 rfl hl (by decide) rfl (fun ls hl => ?_)
          refine lv_aload_n hx hb dX4_lowerRoot_41 rfl (lv_at hl 1 rfl) ?_
          refine lv_aload_n hx hb dX4_lowerRoot_42 rfl (lv_at hl 1 rfl) ?_
          refine va_get (D := D) (ci := 4) (v := vI (tRoot T)) (C := RX4) (T := TX4) (N := 10) hx hb hts zin4 hown hK hP 0 rfl rfl 5 (by decide) (hts _ wm67) (fun _ h9 => h9) rfl dX4_lowerRoot_43 ?_
          obtain ⟨T_16, e_17, h⟩ := bd1_e h
          refine z_gov (wc := (zTr cI (h_T) (q_T) (T))) (wn := fun u_18 => (zTr cI h_T q_T T_16)) (wr := []) (va_runV (As := [vI (tRoot T)]) (rest := []) hF.1 (c_Tr_release l D cI cZ cT h_T q_T T (tRoot T) H.size (T_16) e_17) (cwV 1 hts (zgV wm648 wm632 wm633 wm33 wm634) rfl rfl rfl (by decide +kernel) ⟨Nat.le_of_ble_eq_true rfl, Nat.le_of_ble_eq_true rfl⟩) ⟨zP.blind, va_recv hK (z_subP (ws' := (zTr cI (h_T) (q_T) (T))) hP [0, 1, 2, 3, 4, 5] rfl) (ci := 4) (q0 := 0) rfl rfl, zP.enter (z_subP (ws' := (zTr cI (h_T) (q_T) (T))) hP [0, 1, 2, 3, 4, 5] rfl) hK (hD.sub [0, 1, 2, 3, 4, 5] (by decide) rfl) hN⟩ rfl rfl hl.1 rfl (lv_room (Nat.le_of_ble_eq_true rfl)) dX4_lowerRoot_46 ⟨Nat.le_refl _, Nat.le_refl _⟩) hP hD hS hA [0, 1, 2, 3, 4, 5] [] [0, 1, 2, 3, 4, 5] rfl rfl (by decide) (fun _ => rfl) (fun u_18 H locs hP hD hS hz => ?_)
          refine lv_aload_n hx hb dX4_lowerRoot_49 rfl (lv_at hl 1 rfl) ?_
          refine lv_iload_n hx hb dX4_lowerRoot_50 rfl (lv_at hl 0 rfl) ?_
          obtain ⟨T_19, e_20, h⟩ := bd1_e h
          refine z_gov (wc := (zTr cI (h_T) (q_T) (T_16))) (wn := fun u_21 => (zTr cI h_T q_T T_19)) (wr := []) (va_runV (As := [vI r_13]) (rest := []) hF.1 (c_Tr_setLoose l D cI cZ cT h_T q_T T_16 r_13 H.size (T_19) e_20) (cwV 1 hts (zgV wm649 wm641 wm642 wm33 wm643) rfl rfl rfl (by decide +kernel) ⟨Nat.le_of_ble_eq_true rfl, Nat.le_of_ble_eq_true rfl⟩) ⟨zP.blind, va_recv hK (z_subP (ws' := (zTr cI (h_T) (q_T) (T_16))) hP [0, 1, 2, 3, 4, 5] rfl) (ci := 4) (q0 := 0) rfl rfl, zP.enter (z_subP (ws' := (zTr cI (h_T) (q_T) (T_16))) hP [0, 1, 2, 3, 4, 5] rfl) hK (hD.sub [0, 1, 2, 3, 4, 5] (by decide) rfl) hN⟩ rfl rfl hl.1 rfl (lv_room (Nat.le_of_ble_eq_true rfl)) dX4_lowerRoot_51 ⟨Nat.le_refl _, Nat.le_refl _⟩) hP hD hS hA [0, 1, 2, 3, 4, 5] [] [0, 1, 2, 3, 4, 5] rfl rfl (by decide) (fun _ => rfl) (fun u_21 H locs hP hD hS hz => ?_)
          refine lv_aload_n hx hb dX4_lowerRoot_54 rfl (lv_at hl 1 rfl) ?_
          refine lv_iload_n hx hb dX4_lowerRoot_55 rfl (lv_at hl 0 rfl) ?_
          refine va_put (D := D) (ci := 4) (v := vI r_13) (ty := .int) (C := RX4) (T := TX4) (N := 10) hx hb hts zin4 tyX4 tyX4_ok nmX4 hown hK hP hD hS 0 rfl rfl 5 (by decide) (hts _ wm67) (fun _ h9 => h9) rfl (by decide +kernel) rfl rfl (Nat.le_of_ble_eq_true rfl) dX4_lowerRoot_56 (fun H locs hP hD hS => ?_)
          replace hP : va_P D vwCl ((zTr cI h_T q_T (sRoot T_19 r_13))) H := hP
          replace hD : va_D A ((zTr cI h_T q_T (sRoot T_19 r_13))) := hD
          refine lv_iinc (v := Int32.ofInt (x1 + 1)) (lv' := [(1, vI (x1 + 1)), (2, vI r_13), (0, .ref h_T)]) hx hb dX4_lowerRoot_59 hl (k := 2) rfl (z_inc _ _) (by decide) rfl (fun ls hl => ?_)
          refine lv_goto (tgt := 2) hx hb dX4_lowerRoot_62 (by decide) ?_
          exact ih ((x1 + 1)) ((sRoot T_19 r_13)) H locs ls h hP hD hS (lv_sub hl [2, 0] rfl)
set_option maxHeartbeats 4000000 in
set_option maxRecDepth 100000 in
theorem c_Tr_lowerRoot (l : Launch) (D : va_G) (cI cZ cT : ClassId) (h_T : Nat) (q_T : Nat → Nat) (T : TV) (sz : Nat) (res : TV) (h : f_Tr_lowerRoot T = some res) : zMv l yX4_lowerRoot cX4_lowerRoot 3 rm_Tr_lowerRoot D (zt cI cZ cT) [.ref h_T] ((zTr cI h_T q_T T)) sz (fun u => (zTr cI h_T q_T (res))) 0 0 := by
  refine z_enth (Qc := zQv D (fun u => (zTr cI h_T q_T (res)))) (by decide) (Nat.le_of_ble_eq_true rfl) (fun p e s m args below meth c A ls H locs hF hP hD hS hl => ?_)
  have hx := hF.1.1
  have hb := hF.1.2.1
  have hml := hF.1.2.2.1
  have hown : s.vm.findClass "RectangleTree$Tree" = some m.cls := hF.1.2.2.2.1
  have hts := hF.1.2.2.2.2
  have hr := hF.2.1
  have hlk := hF.2.2.1
  have hK := hF.2.2.2.2.1
  have hN := hF.2.2.2.2.2.1
  have hA := hF.2.2.2.2.2.2
  unfold f_Tr_lowerRoot at h
  refine lv_iconst (v := Int32.ofInt 0) hx hb dX4_lowerRoot_0 rfl ?_
  refine lv_istore_n (lv' := [(1, vI 0), (0, .ref h_T)]) hx hb dX4_lowerRoot_1 rfl hl (by decide) rfl (fun ls hl => ?_)
  refine w_Tr_lowerRoot_L2 D cI cZ cT (h_T) (q_T) _ _ hF (fun x1_22 T_23 H locs ls h hP hD hS hl => ?_) _ (0) (T) _ _ _ h hP hD hS (lv_sub hl [1, 0] rfl)
  refine lv_aload_n hx hb dX4_lowerRoot_65 rfl (lv_at hl 0 rfl) ?_
  refine lv_aload_n hx hb dX4_lowerRoot_66 rfl (lv_at hl 0 rfl) ?_
  refine va_get (D := D) (ci := 4) (v := vI (tRoot T_23)) (C := RX4) (T := TX4) (N := 10) hx hb hts zin4 hown hK hP 0 rfl rfl 5 (by decide) (hts _ wm67) (fun _ h9 => h9) rfl dX4_lowerRoot_67 ?_
  obtain ⟨r_24, e_25, h⟩ := bd1_e h
  refine z_goi (ws' := []) (ret := r_24) (wc := (zTr cI (h_T) (q_T) (T_23))) (wn := fun u_26 => (zTr cI h_T q_T T_23)) (wr := []) (va_runV (As := [vI (tRoot T_23)]) (rest := []) hF.1 (c_Tr_levelOf l D cI cZ cT h_T q_T T_23 (tRoot T_23) H.size (r_24) e_25) (cwV 1 hts (zgV wm347 wm301 wm302 wm33 wm303) rfl rfl rfl (by decide +kernel) ⟨Nat.le_of_ble_eq_true rfl, Nat.le_of_ble_eq_true rfl⟩) ⟨zP.blind, va_recv hK (z_subP (ws' := (zTr cI (h_T) (q_T) (T_23))) hP [0, 1, 2, 3, 4, 5] rfl) (ci := 4) (q0 := 0) rfl rfl, zP.enter (z_subP (ws' := (zTr cI (h_T) (q_T) (T_23))) hP [0, 1, 2, 3, 4, 5] rfl) hK (hD.sub [0, 1, 2, 3, 4, 5] (by decide) rfl) hN⟩ rfl rfl hl.1 rfl (lv_room (Nat.le_of_ble_eq_true rfl)) dX4_lowerRoot_70 ⟨Nat.le_refl _, Nat.le_refl _⟩) hP hD hS hA [0, 1, 2, 3, 4, 5] [] [0, 1, 2, 3, 4, 5] rfl rfl (by decide) (fun _ => rfl) (fun u_26 H locs hP hD hS hz => ?_)
  obtain ⟨g_27, h⟩ := gd_e h
  refine z_if_le (tgt := 99) hx hb g_27 dX4_lowerRoot_73 (by decide) (fun b_28 => ?_) (fun b_28 => ?_)
  · have h := it_n b_28 h
    obtain rfl := Option.some.inj h
    exact z_vret hx hb hr hlk (fun _ _ => 0) hP hD hS dX4_lowerRoot_99
  · have h := it_p b_28 h
    refine lv_aload_n hx hb dX4_lowerRoot_76 rfl (lv_at hl 0 rfl) ?_
    refine lv_aload_n hx hb dX4_lowerRoot_77 rfl (lv_at hl 0 rfl) ?_
    refine va_get (D := D) (ci := 4) (v := vI (tRoot T_23)) (C := RX4) (T := TX4) (N := 10) hx hb hts zin4 hown hK hP 0 rfl rfl 5 (by decide) (hts _ wm67) (fun _ h9 => h9) rfl dX4_lowerRoot_78 ?_
    obtain ⟨r_29, e_30, h⟩ := bd1_e h
    refine z_goi (ws' := []) (ret := r_29) (wc := (zTr cI (h_T) (q_T) (T_23))) (wn := fun u_31 => (zTr cI h_T q_T T_23)) (wr := []) (va_runV (As := [vI (tRoot T_23)]) (rest := []) hF.1 (c_Tr_sizeOf l D cI cZ cT h_T q_T T_23 (tRoot T_23) H.size (r_29) e_30) (cwV 1 hts (zgV wm238 wm231 wm232 wm33 wm233) rfl rfl rfl (by decide +kernel) ⟨Nat.le_of_ble_eq_true rfl, Nat.le_of_ble_eq_true rfl⟩) ⟨zP.blind, va_recv hK (z_subP (ws' := (zTr cI (h_T) (q_T) (T_23))) hP [0, 1, 2, 3, 4, 5] rfl) (ci := 4) (q0 := 0) rfl rfl, zP.enter (z_subP (ws' := (zTr cI (h_T) (q_T) (T_23))) hP [0, 1, 2, 3, 4, 5] rfl) hK (hD.sub [0, 1, 2, 3, 4, 5] (by decide) rfl) hN⟩ rfl rfl hl.1 rfl (lv_room (Nat.le_of_ble_eq_true rfl)) dX4_lowerRoot_81 ⟨Nat.le_refl _, Nat.le_refl _⟩) hP hD hS hA [0, 1, 2, 3, 4, 5] [] [0, 1, 2, 3, 4, 5] rfl rfl (by decide) (fun _ => rfl) (fun u_31 H locs hP hD hS hz => ?_)
    obtain ⟨g_32, h⟩ := gd_e h
    refine z_if_ne (tgt := 99) hx hb g_32 dX4_lowerRoot_84 (by decide) (fun b_33 => ?_) (fun b_33 => ?_)
    · have h := it_n b_33 h
      obtain rfl := Option.some.inj h
      exact z_vret hx hb hr hlk (fun _ _ => 0) hP hD hS dX4_lowerRoot_99
    · have h := it_p b_33 h
      refine lv_aload_n hx hb dX4_lowerRoot_87 rfl (lv_at hl 0 rfl) ?_
      refine va_get (D := D) (ci := 4) (v := .ref (q_T 0)) (C := RX4) (T := TX4) (N := 10) hx hb hts zin4 hown hK hP 0 rfl rfl 0 (by decide) (hts _ wm62) (fun _ h9 => h9) rfl dX4_lowerRoot_88 ?_
      refine lv_aload_n hx hb dX4_lowerRoot_91 rfl (lv_at hl 0 rfl) ?_
      refine va_get (D := D) (ci := 4) (v := vI (tRoot T_23)) (C := RX4) (T := TX4) (N := 10) hx hb hts zin4 hown hK hP 0 rfl rfl 5 (by decide) (hts _ wm67) (fun _ h9 => h9) rfl dX4_lowerRoot_92 ?_
      refine lv_iconst (v := Int32.ofInt 0) hx hb dX4_lowerRoot_95 rfl ?_
      obtain ⟨T_34, e_35, h⟩ := bd1_e h
      refine z_gov (wc := (zAr cI ((q_T 0)) ((tR T_23)) ((tLev T_23)))) (wn := fun u_36 => (zTr cI h_T q_T (sLev T_23 T_34))) (wr := ([0, 2, 3, 4, 5].filterMap (fun i => ((zTr cI h_T q_T T_23))[i]?))) (va_runSN (As := [.ref (q_T 0), vI (tRoot T_23), vI 0]) (rest := []) hF.1 (c_Rt_put l D cI cZ cT (q_T 0) (tR T_23) (tLev T_23) (tRoot T_23) 0 H.size (T_34) e_35) ⟨va_cnB 3 hts (zW_good wm61) rfl rfl rfl (hN.at 0 rfl) (hts _ wm32) (by decide +kernel) ⟨Nat.le_of_ble_eq_true rfl, Nat.le_of_ble_eq_true rfl⟩, hts _ wm60, trivial⟩ ⟨zP.blind, zP.enter (z_subP (ws' := (zAr cI ((q_T 0)) ((tR T_23)) ((tLev T_23)))) hP [1] rfl) hK (hD.sub [1] (by decide) rfl) hN⟩ rfl rfl hl.1 rfl (lv_room (Nat.le_of_ble_eq_true rfl)) dX4_lowerRoot_96 ⟨Nat.le_refl _, Nat.le_refl _⟩) hP hD hS hA [1] [0, 2, 3, 4, 5] [0, 5, 1, 2, 3, 4] rfl rfl (by decide) (fun _ => rfl) (fun u_36 H locs hP hD hS hz => ?_)
      obtain rfl := Option.some.inj h
      exact z_vret hx hb hr hlk (fun _ _ => 0) hP hD hS dX4_lowerRoot_99
