def f_Tr_areaOf (T : TV) (x1 : Int) : Option (Int) :=
  bd1 (f_Tr_corner T x1 2) <| fun r_1 => bd1 (f_Tr_corner T x1 0) <| fun r_4 => bd1 (f_Tr_corner T x1 3) <| fun r_7 => bd1 (f_Tr_corner T x1 1) <| fun r_10 => some ((((r_1 - r_4) + 1) * ((r_7 - r_10) + 1)))
abbrev rm_Tr_areaOf : Room := ({ frames := 1, cells := 0, slots := 0, locals := 23 } : Room)
set_option maxHeartbeats 4000000 in
set_option maxRecDepth 100000 in
theorem c_Tr_areaOf (l : Launch) (D : va_G) (cI cZ cT : ClassId) (h_T : Nat) (q_T : Nat → Nat) (T : TV) (x1 : Int) (sz : Nat) (res : Int) (h : f_Tr_areaOf T x1 = some res) : zMi l yX4_areaOf cX4_areaOf 2 rm_Tr_areaOf D (zt cI cZ cT) [.ref h_T, vI x1] ((zTr cI h_T q_T T)) sz (res) (fun u => (zTr cI h_T q_T T)) 0 0 := by
  refine z_enth (Qc := zQi D (res) (fun u => (zTr cI h_T q_T T))) (by decide) (Nat.le_of_ble_eq_true rfl) (fun p e s m args below meth c A ls H locs hF hP hD hS hl => ?_)
  have hx := hF.1.1
  have hb := hF.1.2.1
  have hml := hF.1.2.2.1
  have hown : s.vm.findClass "RectangleTree$Tree" = some m.cls := hF.1.2.2.2.1
  have hts := hF.1.2.2.2.2
  have hr := hF.2.1
  have hlk := hF.2.2.1
  have hK := hF.2.2.2.2.1
  have hN := hF.2.2.2.2.2.1
  have hA := hF.2.2.2.2.2.2
  unfold f_Tr_areaOf at h
  refine lv_aload_n hx hb dX4_areaOf_0 rfl (lv_at hl 0 rfl) ?_
  refine lv_iload_n hx hb dX4_areaOf_1 rfl (lv_at hl 1 rfl) ?_
  refine lv_iconst (v := Int32.ofInt 2) hx hb dX4_areaOf_2 rfl ?_
  obtain ⟨r_1, e_2, h⟩ := bd1_e h
  refine z_goi (ws' := []) (ret := r_1) (wc := (zTr cI (h_T) (q_T) (T))) (wn := fun u_3 => (zTr cI h_T q_T T)) (wr := []) (va_runV (As := [vI x1, vI 2]) (rest := []) hF.1 (c_Tr_corner l D cI cZ cT h_T q_T T x1 2 H.size (r_1) e_2) (cwV 2 hts (zgV wm387 wm318 wm319 wm33 wm320) rfl rfl rfl (by decide +kernel) ⟨Nat.le_of_ble_eq_true rfl, Nat.le_of_ble_eq_true rfl⟩) ⟨zP.blind, va_recv hK (z_subP (ws' := (zTr cI (h_T) (q_T) (T))) hP [0, 1, 2, 3, 4, 5] rfl) (ci := 4) (q0 := 0) rfl rfl, zP.enter (z_subP (ws' := (zTr cI (h_T) (q_T) (T))) hP [0, 1, 2, 3, 4, 5] rfl) hK (hD.sub [0, 1, 2, 3, 4, 5] (by decide) rfl) hN⟩ rfl rfl hl.1 rfl (lv_room (Nat.le_of_ble_eq_true rfl)) dX4_areaOf_3 ⟨Nat.le_refl _, Nat.le_refl _⟩) hP hD hS hA [0, 1, 2, 3, 4, 5] [] [0, 1, 2, 3, 4, 5] rfl rfl (by decide) (fun _ => rfl) (fun u_3 H locs hP hD hS hz => ?_)
  refine lv_aload_n hx hb dX4_areaOf_6 rfl (lv_at hl 0 rfl) ?_
  refine lv_iload_n hx hb dX4_areaOf_7 rfl (lv_at hl 1 rfl) ?_
  refine lv_iconst (v := Int32.ofInt 0) hx hb dX4_areaOf_8 rfl ?_
  obtain ⟨r_4, e_5, h⟩ := bd1_e h
  refine z_goi (ws' := []) (ret := r_4) (wc := (zTr cI (h_T) (q_T) (T))) (wn := fun u_6 => (zTr cI h_T q_T T)) (wr := []) (va_runV (As := [vI x1, vI 0]) (rest := [vI r_1]) hF.1 (c_Tr_corner l D cI cZ cT h_T q_T T x1 0 H.size (r_4) e_5) (cwV 2 hts (zgV wm387 wm318 wm319 wm33 wm320) rfl rfl rfl (by decide +kernel) ⟨Nat.le_of_ble_eq_true rfl, Nat.le_of_ble_eq_true rfl⟩) ⟨zP.blind, va_recv hK (z_subP (ws' := (zTr cI (h_T) (q_T) (T))) hP [0, 1, 2, 3, 4, 5] rfl) (ci := 4) (q0 := 0) rfl rfl, zP.enter (z_subP (ws' := (zTr cI (h_T) (q_T) (T))) hP [0, 1, 2, 3, 4, 5] rfl) hK (hD.sub [0, 1, 2, 3, 4, 5] (by decide) rfl) hN⟩ rfl rfl hl.1 rfl (lv_room (Nat.le_of_ble_eq_true rfl)) dX4_areaOf_9 ⟨Nat.le_refl _, Nat.le_refl _⟩) hP hD hS hA [0, 1, 2, 3, 4, 5] [] [0, 1, 2, 3, 4, 5] rfl rfl (by decide) (fun _ => rfl) (fun u_6 H locs hP hD hS hz => ?_)
  refine z_isub hx hb dX4_areaOf_12 ?_
  refine lv_iconst (v := Int32.ofInt 1) hx hb dX4_areaOf_13 rfl ?_
  refine z_iadd hx hb dX4_areaOf_14 ?_
  refine lv_aload_n hx hb dX4_areaOf_15 rfl (lv_at hl 0 rfl) ?_
  refine lv_iload_n hx hb dX4_areaOf_16 rfl (lv_at hl 1 rfl) ?_
  refine lv_iconst (v := Int32.ofInt 3) hx hb dX4_areaOf_17 rfl ?_
  obtain ⟨r_7, e_8, h⟩ := bd1_e h
  refine z_goi (ws' := []) (ret := r_7) (wc := (zTr cI (h_T) (q_T) (T))) (wn := fun u_9 => (zTr cI h_T q_T T)) (wr := []) (va_runV (As := [vI x1, vI 3]) (rest := [vI ((r_1 - r_4) + 1)]) hF.1 (c_Tr_corner l D cI cZ cT h_T q_T T x1 3 H.size (r_7) e_8) (cwV 2 hts (zgV wm387 wm318 wm319 wm33 wm320) rfl rfl rfl (by decide +kernel) ⟨Nat.le_of_ble_eq_true rfl, Nat.le_of_ble_eq_true rfl⟩) ⟨zP.blind, va_recv hK (z_subP (ws' := (zTr cI (h_T) (q_T) (T))) hP [0, 1, 2, 3, 4, 5] rfl) (ci := 4) (q0 := 0) rfl rfl, zP.enter (z_subP (ws' := (zTr cI (h_T) (q_T) (T))) hP [0, 1, 2, 3, 4, 5] rfl) hK (hD.sub [0, 1, 2, 3, 4, 5] (by decide) rfl) hN⟩ rfl rfl hl.1 rfl (lv_room (Nat.le_of_ble_eq_true rfl)) dX4_areaOf_18 ⟨Nat.le_refl _, Nat.le_refl _⟩) hP hD hS hA [0, 1, 2, 3, 4, 5] [] [0, 1, 2, 3, 4, 5] rfl rfl (by decide) (fun _ => rfl) (fun u_9 H locs hP hD hS hz => ?_)
  refine lv_aload_n hx hb dX4_areaOf_21 rfl (lv_at hl 0 rfl) ?_
  refine lv_iload_n hx hb dX4_areaOf_22 rfl (lv_at hl 1 rfl) ?_
  refine lv_iconst (v := Int32.ofInt 1) hx hb dX4_areaOf_23 rfl ?_
  obtain ⟨r_10, e_11, h⟩ := bd1_e h
  refine z_goi (ws' := []) (ret := r_10) (wc := (zTr cI (h_T) (q_T) (T))) (wn := fun u_12 => (zTr cI h_T q_T T)) (wr := []) (va_runV (As := [vI x1, vI 1]) (rest := [vI r_7, vI ((r_1 - r_4) + 1)]) hF.1 (c_Tr_corner l D cI cZ cT h_T q_T T x1 1 H.size (r_10) e_11) (cwV 2 hts (zgV wm387 wm318 wm319 wm33 wm320) rfl rfl rfl (by decide +kernel) ⟨Nat.le_of_ble_eq_true rfl, Nat.le_of_ble_eq_true rfl⟩) ⟨zP.blind, va_recv hK (z_subP (ws' := (zTr cI (h_T) (q_T) (T))) hP [0, 1, 2, 3, 4, 5] rfl) (ci := 4) (q0 := 0) rfl rfl, zP.enter (z_subP (ws' := (zTr cI (h_T) (q_T) (T))) hP [0, 1, 2, 3, 4, 5] rfl) hK (hD.sub [0, 1, 2, 3, 4, 5] (by decide) rfl) hN⟩ rfl rfl hl.1 rfl (lv_room (Nat.le_of_ble_eq_true rfl)) dX4_areaOf_24 ⟨Nat.le_refl _, Nat.le_refl _⟩) hP hD hS hA [0, 1, 2, 3, 4, 5] [] [0, 1, 2, 3, 4, 5] rfl rfl (by decide) (fun _ => rfl) (fun u_12 H locs hP hD hS hz => ?_)
  refine z_isub hx hb dX4_areaOf_27 ?_
  refine lv_iconst (v := Int32.ofInt 1) hx hb dX4_areaOf_28 rfl ?_
  refine z_iadd hx hb dX4_areaOf_29 ?_
  refine z_imul hx hb dX4_areaOf_30 ?_
  obtain rfl := Option.some.inj h
  exact z_iret hx hb hr hlk (fun _ _ => 0) hP hD hS dX4_areaOf_31
def f_Tr_unionArea (T : TV) (x1 : Int) (x2 : Int) : Option (Int) :=
  bd1 (f_Tr_corner T x1 2) <| fun r_1 => bd1 (f_Tr_corner T x2 2) <| fun r_4 => gd (ck r_1) <| gd (ck r_4) <| bd1 (f_Tr_corner T x1 0) <| fun r_10 => bd1 (f_Tr_corner T x2 0) <| fun r_13 => gd (ck r_10) <| gd (ck r_13) <| bd1 (f_Tr_corner T x1 3) <| fun r_19 => bd1 (f_Tr_corner T x2 3) <| fun r_22 => gd (ck r_19) <| gd (ck r_22) <| bd1 (f_Tr_corner T x1 1) <| fun r_28 => bd1 (f_Tr_corner T x2 1) <| fun r_31 => gd (ck r_28) <| gd (ck r_31) <| some (((((max r_1 r_4) - (min r_10 r_13)) + 1) * (((max r_19 r_22) - (min r_28 r_31)) + 1)))
abbrev rm_Tr_unionArea : Room := ({ frames := 1, cells := 0, slots := 0, locals := 23 } : Room)
set_option maxHeartbeats 4000000 in
set_option maxRecDepth 100000 in
theorem c_Tr_unionArea (l : Launch) (D : va_G) (cI cZ cT : ClassId) (h_T : Nat) (q_T : Nat → Nat) (T : TV) (x1 : Int) (x2 : Int) (sz : Nat) (res : Int) (h : f_Tr_unionArea T x1 x2 = some res) : zMi l yX4_unionArea cX4_unionArea 5 rm_Tr_unionArea D (zt cI cZ cT) [.ref h_T, vI x1, vI x2] ((zTr cI h_T q_T T)) sz (res) (fun u => (zTr cI h_T q_T T)) 0 0 := by
  refine z_enth (Qc := zQi D (res) (fun u => (zTr cI h_T q_T T))) (by decide) (Nat.le_of_ble_eq_true rfl) (fun p e s m args below meth c A ls H locs hF hP hD hS hl => ?_)
  have hx := hF.1.1
  have hb := hF.1.2.1
  have hml := hF.1.2.2.1
  have hown : s.vm.findClass "RectangleTree$Tree" = some m.cls := hF.1.2.2.2.1
  have hts := hF.1.2.2.2.2
  have hr := hF.2.1
  have hlk := hF.2.2.1
  have hK := hF.2.2.2.2.1
  have hN := hF.2.2.2.2.2.1
  have hA := hF.2.2.2.2.2.2
  unfold f_Tr_unionArea at h
  refine lv_aload_n hx hb dX4_unionArea_0 rfl (lv_at hl 0 rfl) ?_
  refine lv_iload_n hx hb dX4_unionArea_1 rfl (lv_at hl 1 rfl) ?_
  refine lv_iconst (v := Int32.ofInt 2) hx hb dX4_unionArea_2 rfl ?_
  obtain ⟨r_1, e_2, h⟩ := bd1_e h
  refine z_goi (ws' := []) (ret := r_1) (wc := (zTr cI (h_T) (q_T) (T))) (wn := fun u_3 => (zTr cI h_T q_T T)) (wr := []) (va_runV (As := [vI x1, vI 2]) (rest := []) hF.1 (c_Tr_corner l D cI cZ cT h_T q_T T x1 2 H.size (r_1) e_2) (cwV 2 hts (zgV wm387 wm318 wm319 wm33 wm320) rfl rfl rfl (by decide +kernel) ⟨Nat.le_of_ble_eq_true rfl, Nat.le_of_ble_eq_true rfl⟩) ⟨zP.blind, va_recv hK (z_subP (ws' := (zTr cI (h_T) (q_T) (T))) hP [0, 1, 2, 3, 4, 5] rfl) (ci := 4) (q0 := 0) rfl rfl, zP.enter (z_subP (ws' := (zTr cI (h_T) (q_T) (T))) hP [0, 1, 2, 3, 4, 5] rfl) hK (hD.sub [0, 1, 2, 3, 4, 5] (by decide) rfl) hN⟩ rfl rfl hl.1 rfl (lv_room (Nat.le_of_ble_eq_true rfl)) dX4_unionArea_3 ⟨Nat.le_refl _, Nat.le_refl _⟩) hP hD hS hA [0, 1, 2, 3, 4, 5] [] [0, 1, 2, 3, 4, 5] rfl rfl (by decide) (fun _ => rfl) (fun u_3 H locs hP hD hS hz => ?_)
  refine lv_aload_n hx hb dX4_unionArea_6 rfl (lv_at hl 0 rfl) ?_
  refine lv_iload_n hx hb dX4_unionArea_7 rfl (lv_at hl 2 rfl) ?_
  refine lv_iconst (v := Int32.ofInt 2) hx hb dX4_unionArea_8 rfl ?_
  obtain ⟨r_4, e_5, h⟩ := bd1_e h
  refine z_goi (ws' := []) (ret := r_4) (wc := (zTr cI (h_T) (q_T) (T))) (wn := fun u_6 => (zTr cI h_T q_T T)) (wr := []) (va_runV (As := [vI x2, vI 2]) (rest := [vI r_1]) hF.1 (c_Tr_corner l D cI cZ cT h_T q_T T x2 2 H.size (r_4) e_5) (cwV 2 hts (zgV wm387 wm318 wm319 wm33 wm320) rfl rfl rfl (by decide +kernel) ⟨Nat.le_of_ble_eq_true rfl, Nat.le_of_ble_eq_true rfl⟩) ⟨zP.blind, va_recv hK (z_subP (ws' := (zTr cI (h_T) (q_T) (T))) hP [0, 1, 2, 3, 4, 5] rfl) (ci := 4) (q0 := 0) rfl rfl, zP.enter (z_subP (ws' := (zTr cI (h_T) (q_T) (T))) hP [0, 1, 2, 3, 4, 5] rfl) hK (hD.sub [0, 1, 2, 3, 4, 5] (by decide) rfl) hN⟩ rfl rfl hl.1 rfl (lv_room (Nat.le_of_ble_eq_true rfl)) dX4_unionArea_9 ⟨Nat.le_refl _, Nat.le_refl _⟩) hP hD hS hA [0, 1, 2, 3, 4, 5] [] [0, 1, 2, 3, 4, 5] rfl rfl (by decide) (fun _ => rfl) (fun u_6 H locs hP hD hS hz => ?_)
  obtain ⟨g_7, h⟩ := gd_e h
  obtain ⟨g_8, h⟩ := gd_e h
  refine z_mmax (rest := []) hx hb (by rw [hml]; exact hl.1.symm) hown (hts _ wm403) (hts _ wm404) (hts _ wm40) (hts _ wm405) (Nat.le_of_ble_eq_true rfl) (Nat.le_of_ble_eq_true rfl) (Nat.le_refl _) (Nat.le_refl _) g_7 g_8 dX4_unionArea_12 ?_
  have g_9 : ck (max r_1 r_4) := ⟨by have := And.intro (show ck r_1 from g_7) (show ck r_4 from g_8); omega, by have := And.intro (show ck r_1 from g_7) (show ck r_4 from g_8); omega⟩
  refine lv_aload_n hx hb dX4_unionArea_15 rfl (lv_at hl 0 rfl) ?_
  refine lv_iload_n hx hb dX4_unionArea_16 rfl (lv_at hl 1 rfl) ?_
  refine lv_iconst (v := Int32.ofInt 0) hx hb dX4_unionArea_17 rfl ?_
  obtain ⟨r_10, e_11, h⟩ := bd1_e h
  refine z_goi (ws' := []) (ret := r_10) (wc := (zTr cI (h_T) (q_T) (T))) (wn := fun u_12 => (zTr cI h_T q_T T)) (wr := []) (va_runV (As := [vI x1, vI 0]) (rest := [vI (max r_1 r_4)]) hF.1 (c_Tr_corner l D cI cZ cT h_T q_T T x1 0 H.size (r_10) e_11) (cwV 2 hts (zgV wm387 wm318 wm319 wm33 wm320) rfl rfl rfl (by decide +kernel) ⟨Nat.le_of_ble_eq_true rfl, Nat.le_of_ble_eq_true rfl⟩) ⟨zP.blind, va_recv hK (z_subP (ws' := (zTr cI (h_T) (q_T) (T))) hP [0, 1, 2, 3, 4, 5] rfl) (ci := 4) (q0 := 0) rfl rfl, zP.enter (z_subP (ws' := (zTr cI (h_T) (q_T) (T))) hP [0, 1, 2, 3, 4, 5] rfl) hK (hD.sub [0, 1, 2, 3, 4, 5] (by decide) rfl) hN⟩ rfl rfl hl.1 rfl (lv_room (Nat.le_of_ble_eq_true rfl)) dX4_unionArea_18 ⟨Nat.le_refl _, Nat.le_refl _⟩) hP hD hS hA [0, 1, 2, 3, 4, 5] [] [0, 1, 2, 3, 4, 5] rfl rfl (by decide) (fun _ => rfl) (fun u_12 H locs hP hD hS hz => ?_)
  refine lv_aload_n hx hb dX4_unionArea_21 rfl (lv_at hl 0 rfl) ?_
  refine lv_iload_n hx hb dX4_unionArea_22 rfl (lv_at hl 2 rfl) ?_
  refine lv_iconst (v := Int32.ofInt 0) hx hb dX4_unionArea_23 rfl ?_
  obtain ⟨r_13, e_14, h⟩ := bd1_e h
  refine z_goi (ws' := []) (ret := r_13) (wc := (zTr cI (h_T) (q_T) (T))) (wn := fun u_15 => (zTr cI h_T q_T T)) (wr := []) (va_runV (As := [vI x2, vI 0]) (rest := [vI r_10, vI (max r_1 r_4)]) hF.1 (c_Tr_corner l D cI cZ cT h_T q_T T x2 0 H.size (r_13) e_14) (cwV 2 hts (zgV wm387 wm318 wm319 wm33 wm320) rfl rfl rfl (by decide +kernel) ⟨Nat.le_of_ble_eq_true rfl, Nat.le_of_ble_eq_true rfl⟩) ⟨zP.blind, va_recv hK (z_subP (ws' := (zTr cI (h_T) (q_T) (T))) hP [0, 1, 2, 3, 4, 5] rfl) (ci := 4) (q0 := 0) rfl rfl, zP.enter (z_subP (ws' := (zTr cI (h_T) (q_T) (T))) hP [0, 1, 2, 3, 4, 5] rfl) hK (hD.sub [0, 1, 2, 3, 4, 5] (by decide) rfl) hN⟩ rfl rfl hl.1 rfl (lv_room (Nat.le_of_ble_eq_true rfl)) dX4_unionArea_24 ⟨Nat.le_refl _, Nat.le_refl _⟩) hP hD hS hA [0, 1, 2, 3, 4, 5] [] [0, 1, 2, 3, 4, 5] rfl rfl (by decide) (fun _ => rfl) (fun u_15 H locs hP hD hS hz => ?_)
  obtain ⟨g_16, h⟩ := gd_e h
  obtain ⟨g_17, h⟩ := gd_e h
  refine z_mmin (rest := [vI (max r_1 r_4)]) hx hb (by rw [hml]; exact hl.1.symm) hown (hts _ wm400) (hts _ wm401) (hts _ wm40) (hts _ wm402) (Nat.le_of_ble_eq_true rfl) (Nat.le_of_ble_eq_true rfl) (Nat.le_refl _) (Nat.le_refl _) g_16 g_17 dX4_unionArea_27 ?_
  have g_18 : ck (min r_10 r_13) := ⟨by have := And.intro (show ck r_10 from g_16) (show ck r_13 from g_17); omega, by have := And.intro (show ck r_10 from g_16) (show ck r_13 from g_17); omega⟩
  refine z_isub hx hb dX4_unionArea_30 ?_
  refine lv_iconst (v := Int32.ofInt 1) hx hb dX4_unionArea_31 rfl ?_
  refine z_iadd hx hb dX4_unionArea_32 ?_
  refine lv_istore_n (lv' := [(3, vI (((max r_1 r_4) - (min r_10 r_13)) + 1)), (0, .ref h_T), (1, vI x1), (2, vI x2)]) hx hb dX4_unionArea_33 rfl hl (by decide) rfl (fun ls hl => ?_)
  refine lv_aload_n hx hb dX4_unionArea_34 rfl (lv_at hl 1 rfl) ?_
  refine lv_iload_n hx hb dX4_unionArea_35 rfl (lv_at hl 2 rfl) ?_
  refine lv_iconst (v := Int32.ofInt 3) hx hb dX4_unionArea_36 rfl ?_
  obtain ⟨r_19, e_20, h⟩ := bd1_e h
  refine z_goi (ws' := []) (ret := r_19) (wc := (zTr cI (h_T) (q_T) (T))) (wn := fun u_21 => (zTr cI h_T q_T T)) (wr := []) (va_runV (As := [vI x1, vI 3]) (rest := []) hF.1 (c_Tr_corner l D cI cZ cT h_T q_T T x1 3 H.size (r_19) e_20) (cwV 2 hts (zgV wm387 wm318 wm319 wm33 wm320) rfl rfl rfl (by decide +kernel) ⟨Nat.le_of_ble_eq_true rfl, Nat.le_of_ble_eq_true rfl⟩) ⟨zP.blind, va_recv hK (z_subP (ws' := (zTr cI (h_T) (q_T) (T))) hP [0, 1, 2, 3, 4, 5] rfl) (ci := 4) (q0 := 0) rfl rfl, zP.enter (z_subP (ws' := (zTr cI (h_T) (q_T) (T))) hP [0, 1, 2, 3, 4, 5] rfl) hK (hD.sub [0, 1, 2, 3, 4, 5] (by decide) rfl) hN⟩ rfl rfl hl.1 rfl (lv_room (Nat.le_of_ble_eq_true rfl)) dX4_unionArea_37 ⟨Nat.le_refl _, Nat.le_refl _⟩) hP hD hS hA [0, 1, 2, 3, 4, 5] [] [0, 1, 2, 3, 4, 5] rfl rfl (by decide) (fun _ => rfl) (fun u_21 H locs hP hD hS hz => ?_)
  refine lv_aload_n hx hb dX4_unionArea_40 rfl (lv_at hl 1 rfl) ?_
  refine lv_iload_n hx hb dX4_unionArea_41 rfl (lv_at hl 3 rfl) ?_
  refine lv_iconst (v := Int32.ofInt 3) hx hb dX4_unionArea_42 rfl ?_
  obtain ⟨r_22, e_23, h⟩ := bd1_e h
  refine z_goi (ws' := []) (ret := r_22) (wc := (zTr cI (h_T) (q_T) (T))) (wn := fun u_24 => (zTr cI h_T q_T T)) (wr := []) (va_runV (As := [vI x2, vI 3]) (rest := [vI r_19]) hF.1 (c_Tr_corner l D cI cZ cT h_T q_T T x2 3 H.size (r_22) e_23) (cwV 2 hts (zgV wm387 wm318 wm319 wm33 wm320) rfl rfl rfl (by decide +kernel) ⟨Nat.le_of_ble_eq_true rfl, Nat.le_of_ble_eq_true rfl⟩) ⟨zP.blind, va_recv hK (z_subP (ws' := (zTr cI (h_T) (q_T) (T))) hP [0, 1, 2, 3, 4, 5] rfl) (ci := 4) (q0 := 0) rfl rfl, zP.enter (z_subP (ws' := (zTr cI (h_T) (q_T) (T))) hP [0, 1, 2, 3, 4, 5] rfl) hK (hD.sub [0, 1, 2, 3, 4, 5] (by decide) rfl) hN⟩ rfl rfl hl.1 rfl (lv_room (Nat.le_of_ble_eq_true rfl)) dX4_unionArea_43 ⟨Nat.le_refl _, Nat.le_refl _⟩) hP hD hS hA [0, 1, 2, 3, 4, 5] [] [0, 1, 2, 3, 4, 5] rfl rfl (by decide) (fun _ => rfl) (fun u_24 H locs hP hD hS hz => ?_)
  obtain ⟨g_25, h⟩ := gd_e h
  obtain ⟨g_26, h⟩ := gd_e h
  refine z_mmax (rest := []) hx hb (by rw [hml]; exact hl.1.symm) hown (hts _ wm403) (hts _ wm404) (hts _ wm40) (hts _ wm405) (Nat.le_of_ble_eq_true rfl) (Nat.le_of_ble_eq_true rfl) (Nat.le_refl _) (Nat.le_refl _) g_25 g_26 dX4_unionArea_46 ?_
  have g_27 : ck (max r_19 r_22) := ⟨by have := And.intro (show ck r_19 from g_25) (show ck r_22 from g_26); omega, by have := And.intro (show ck r_19 from g_25) (show ck r_22 from g_26); omega⟩
  refine lv_aload_n hx hb dX4_unionArea_49 rfl (lv_at hl 1 rfl) ?_
  refine lv_iload_n hx hb dX4_unionArea_50 rfl (lv_at hl 2 rfl) ?_
  refine lv_iconst (v := Int32.ofInt 1) hx hb dX4_unionArea_51 rfl ?_
  obtain ⟨r_28, e_29, h⟩ := bd1_e h
  refine z_goi (ws' := []) (ret := r_28) (wc := (zTr cI (h_T) (q_T) (T))) (wn := fun u_30 => (zTr cI h_T q_T T)) (wr := []) (va_runV (As := [vI x1, vI 1]) (rest := [vI (max r_19 r_22)]) hF.1 (c_Tr_corner l D cI cZ cT h_T q_T T x1 1 H.size (r_28) e_29) (cwV 2 hts (zgV wm387 wm318 wm319 wm33 wm320) rfl rfl rfl (by decide +kernel) ⟨Nat.le_of_ble_eq_true rfl, Nat.le_of_ble_eq_true rfl⟩) ⟨zP.blind, va_recv hK (z_subP (ws' := (zTr cI (h_T) (q_T) (T))) hP [0, 1, 2, 3, 4, 5] rfl) (ci := 4) (q0 := 0) rfl rfl, zP.enter (z_subP (ws' := (zTr cI (h_T) (q_T) (T))) hP [0, 1, 2, 3, 4, 5] rfl) hK (hD.sub [0, 1, 2, 3, 4, 5] (by decide) rfl) hN⟩ rfl rfl hl.1 rfl (lv_room (Nat.le_of_ble_eq_true rfl)) dX4_unionArea_52 ⟨Nat.le_refl _, Nat.le_refl _⟩) hP hD hS hA [0, 1, 2, 3, 4, 5] [] [0, 1, 2, 3, 4, 5] rfl rfl (by decide) (fun _ => rfl) (fun u_30 H locs hP hD hS hz => ?_)
  refine lv_aload_n hx hb dX4_unionArea_55 rfl (lv_at hl 1 rfl) ?_
  refine lv_iload_n hx hb dX4_unionArea_56 rfl (lv_at hl 3 rfl) ?_
  refine lv_iconst (v := Int32.ofInt 1) hx hb dX4_unionArea_57 rfl ?_
  obtain ⟨r_31, e_32, h⟩ := bd1_e h
  refine z_goi (ws' := []) (ret := r_31) (wc := (zTr cI (h_T) (q_T) (T))) (wn := fun u_33 => (zTr cI h_T q_T T)) (wr := []) (va_runV (As := [vI x2, vI 1]) (rest := [vI r_28, vI (max r_19 r_22)]) hF.1 (c_Tr_corner l D cI cZ cT h_T q_T T x2 1 H.size (r_31) e_32) (cwV 2 hts (zgV wm387 wm318 wm319 wm33 wm320) rfl rfl rfl (by decide +kernel) ⟨Nat.le_of_ble_eq_true rfl, Nat.le_of_ble_eq_true rfl⟩) ⟨zP.blind, va_recv hK (z_subP (ws' := (zTr cI (h_T) (q_T) (T))) hP [0, 1, 2, 3, 4, 5] rfl) (ci := 4) (q0 := 0) rfl rfl, zP.enter (z_subP (ws' := (zTr cI (h_T) (q_T) (T))) hP [0, 1, 2, 3, 4, 5] rfl) hK (hD.sub [0, 1, 2, 3, 4, 5] (by decide) rfl) hN⟩ rfl rfl hl.1 rfl (lv_room (Nat.le_of_ble_eq_true rfl)) dX4_unionArea_58 ⟨Nat.le_refl _, Nat.le_refl _⟩) hP hD hS hA [0, 1, 2, 3, 4, 5] [] [0, 1, 2, 3, 4, 5] rfl rfl (by decide) (fun _ => rfl) (fun u_33 H locs hP hD hS hz => ?_)
  obtain ⟨g_34, h⟩ := gd_e h
  obtain ⟨g_35, h⟩ := gd_e h
  refine z_mmin (rest := [vI (max r_19 r_22)]) hx hb (by rw [hml]; exact hl.1.symm) hown (hts _ wm400) (hts _ wm401) (hts _ wm40) (hts _ wm402) (Nat.le_of_ble_eq_true rfl) (Nat.le_of_ble_eq_true rfl) (Nat.le_refl _) (Nat.le_refl _) g_34 g_35 dX4_unionArea_61 ?_
  have g_36 : ck (min r_28 r_31) := ⟨by have := And.intro (show ck r_28 from g_34) (show ck r_31 from g_35); omega, by have := And.intro (show ck r_28 from g_34) (show ck r_31 from g_35); omega⟩
  refine z_isub hx hb dX4_unionArea_64 ?_
  refine lv_iconst (v := Int32.ofInt 1) hx hb dX4_unionArea_65 rfl ?_
  refine z_iadd hx hb dX4_unionArea_66 ?_
  refine lv_istore (lv' := [(4, vI (((max r_19 r_22) - (min r_28 r_31)) + 1)), (3, vI (((max r_1 r_4) - (min r_10 r_13)) + 1)), (0, .ref h_T), (1, vI x1), (2, vI x2)]) hx hb dX4_unionArea_67 hl (by decide) rfl (fun ls hl => ?_)
  refine lv_iload_n hx hb dX4_unionArea_69 rfl (lv_at hl 1 rfl) ?_
  refine lv_iload hx hb dX4_unionArea_70 (lv_at hl 0 rfl) ?_
  refine z_imul hx hb dX4_unionArea_72 ?_
  obtain rfl := Option.some.inj h
  exact z_iret hx hb hr hlk (fun _ _ => 0) hP hD hS dX4_unionArea_73
def f_Tr_commonArea (T : TV) (x1 : Int) (x2 : Int) : Option (Int) :=
  bd1 (f_Tr_corner T x1 2) <| fun r_1 => bd1 (f_Tr_corner T x2 2) <| fun r_4 => gd (ck r_1) <| gd (ck r_4) <| bd1 (f_Tr_corner T x1 0) <| fun r_10 => bd1 (f_Tr_corner T x2 0) <| fun r_13 => gd (ck r_10) <| gd (ck r_13) <| bd1 (f_Tr_corner T x1 3) <| fun r_19 => bd1 (f_Tr_corner T x2 3) <| fun r_22 => gd (ck r_19) <| gd (ck r_22) <| bd1 (f_Tr_corner T x1 1) <| fun r_28 => bd1 (f_Tr_corner T x2 1) <| fun r_31 => gd (ck r_28) <| gd (ck r_31) <| gd (ck (((min r_1 r_4) - (max r_10 r_13)) + 1)) <| if 0 < (((min r_1 r_4) - (max r_10 r_13)) + 1) then (gd (ck (((min r_19 r_22) - (max r_28 r_31)) + 1)) <| if 0 < (((min r_19 r_22) - (max r_28 r_31)) + 1) then (some (((((min r_1 r_4) - (max r_10 r_13)) + 1) * (((min r_19 r_22) - (max r_28 r_31)) + 1)))) else (some (0))) else (some (0))
abbrev rm_Tr_commonArea : Room := ({ frames := 1, cells := 0, slots := 0, locals := 23 } : Room)
set_option maxHeartbeats 4000000 in
set_option maxRecDepth 100000 in
theorem c_Tr_commonArea (l : Launch) (D : va_G) (cI cZ cT : ClassId) (h_T : Nat) (q_T : Nat → Nat) (T : TV) (x1 : Int) (x2 : Int) (sz : Nat) (res : Int) (h : f_Tr_commonArea T x1 x2 = some res) : zMi l yX4_commonArea cX4_commonArea 5 rm_Tr_commonArea D (zt cI cZ cT) [.ref h_T, vI x1, vI x2] ((zTr cI h_T q_T T)) sz (res) (fun u => (zTr cI h_T q_T T)) 0 0 := by
  refine z_enth (Qc := zQi D (res) (fun u => (zTr cI h_T q_T T))) (by decide) (Nat.le_of_ble_eq_true rfl) (fun p e s m args below meth c A ls H locs hF hP hD hS hl => ?_)
  have hx := hF.1.1
  have hb := hF.1.2.1
  have hml := hF.1.2.2.1
  have hown : s.vm.findClass "RectangleTree$Tree" = some m.cls := hF.1.2.2.2.1
  have hts := hF.1.2.2.2.2
  have hr := hF.2.1
  have hlk := hF.2.2.1
  have hK := hF.2.2.2.2.1
  have hN := hF.2.2.2.2.2.1
  have hA := hF.2.2.2.2.2.2
  unfold f_Tr_commonArea at h
  refine lv_aload_n hx hb dX4_commonArea_0 rfl (lv_at hl 0 rfl) ?_
  refine lv_iload_n hx hb dX4_commonArea_1 rfl (lv_at hl 1 rfl) ?_
  refine lv_iconst (v := Int32.ofInt 2) hx hb dX4_commonArea_2 rfl ?_
  obtain ⟨r_1, e_2, h⟩ := bd1_e h
  refine z_goi (ws' := []) (ret := r_1) (wc := (zTr cI (h_T) (q_T) (T))) (wn := fun u_3 => (zTr cI h_T q_T T)) (wr := []) (va_runV (As := [vI x1, vI 2]) (rest := []) hF.1 (c_Tr_corner l D cI cZ cT h_T q_T T x1 2 H.size (r_1) e_2) (cwV 2 hts (zgV wm387 wm318 wm319 wm33 wm320) rfl rfl rfl (by decide +kernel) ⟨Nat.le_of_ble_eq_true rfl, Nat.le_of_ble_eq_true rfl⟩) ⟨zP.blind, va_recv hK (z_subP (ws' := (zTr cI (h_T) (q_T) (T))) hP [0, 1, 2, 3, 4, 5] rfl) (ci := 4) (q0 := 0) rfl rfl, zP.enter (z_subP (ws' := (zTr cI (h_T) (q_T) (T))) hP [0, 1, 2, 3, 4, 5] rfl) hK (hD.sub [0, 1, 2, 3, 4, 5] (by decide) rfl) hN⟩ rfl rfl hl.1 rfl (lv_room (Nat.le_of_ble_eq_true rfl)) dX4_commonArea_3 ⟨Nat.le_refl _, Nat.le_refl _⟩) hP hD hS hA [0, 1, 2, 3, 4, 5] [] [0, 1, 2, 3, 4, 5] rfl rfl (by decide) (fun _ => rfl) (fun u_3 H locs hP hD hS hz => ?_)
  refine lv_aload_n hx hb dX4_commonArea_6 rfl (lv_at hl 0 rfl) ?_
  refine lv_iload_n hx hb dX4_commonArea_7 rfl (lv_at hl 2 rfl) ?_
  refine lv_iconst (v := Int32.ofInt 2) hx hb dX4_commonArea_8 rfl ?_
  obtain ⟨r_4, e_5, h⟩ := bd1_e h
  refine z_goi (ws' := []) (ret := r_4) (wc := (zTr cI (h_T) (q_T) (T))) (wn := fun u_6 => (zTr cI h_T q_T T)) (wr := []) (va_runV (As := [vI x2, vI 2]) (rest := [vI r_1]) hF.1 (c_Tr_corner l D cI cZ cT h_T q_T T x2 2 H.size (r_4) e_5) (cwV 2 hts (zgV wm387 wm318 wm319 wm33 wm320) rfl rfl rfl (by decide +kernel) ⟨Nat.le_of_ble_eq_true rfl, Nat.le_of_ble_eq_true rfl⟩) ⟨zP.blind, va_recv hK (z_subP (ws' := (zTr cI (h_T) (q_T) (T))) hP [0, 1, 2, 3, 4, 5] rfl) (ci := 4) (q0 := 0) rfl rfl, zP.enter (z_subP (ws' := (zTr cI (h_T) (q_T) (T))) hP [0, 1, 2, 3, 4, 5] rfl) hK (hD.sub [0, 1, 2, 3, 4, 5] (by decide) rfl) hN⟩ rfl rfl hl.1 rfl (lv_room (Nat.le_of_ble_eq_true rfl)) dX4_commonArea_9 ⟨Nat.le_refl _, Nat.le_refl _⟩) hP hD hS hA [0, 1, 2, 3, 4, 5] [] [0, 1, 2, 3, 4, 5] rfl rfl (by decide) (fun _ => rfl) (fun u_6 H locs hP hD hS hz => ?_)
  obtain ⟨g_7, h⟩ := gd_e h
  obtain ⟨g_8, h⟩ := gd_e h
  refine z_mmin (rest := []) hx hb (by rw [hml]; exact hl.1.symm) hown (hts _ wm400) (hts _ wm401) (hts _ wm40) (hts _ wm402) (Nat.le_of_ble_eq_true rfl) (Nat.le_of_ble_eq_true rfl) (Nat.le_refl _) (Nat.le_refl _) g_7 g_8 dX4_commonArea_12 ?_
  have g_9 : ck (min r_1 r_4) := ⟨by have := And.intro (show ck r_1 from g_7) (show ck r_4 from g_8); omega, by have := And.intro (show ck r_1 from g_7) (show ck r_4 from g_8); omega⟩
  refine lv_aload_n hx hb dX4_commonArea_15 rfl (lv_at hl 0 rfl) ?_
  refine lv_iload_n hx hb dX4_commonArea_16 rfl (lv_at hl 1 rfl) ?_
  refine lv_iconst (v := Int32.ofInt 0) hx hb dX4_commonArea_17 rfl ?_
  obtain ⟨r_10, e_11, h⟩ := bd1_e h
  refine z_goi (ws' := []) (ret := r_10) (wc := (zTr cI (h_T) (q_T) (T))) (wn := fun u_12 => (zTr cI h_T q_T T)) (wr := []) (va_runV (As := [vI x1, vI 0]) (rest := [vI (min r_1 r_4)]) hF.1 (c_Tr_corner l D cI cZ cT h_T q_T T x1 0 H.size (r_10) e_11) (cwV 2 hts (zgV wm387 wm318 wm319 wm33 wm320) rfl rfl rfl (by decide +kernel) ⟨Nat.le_of_ble_eq_true rfl, Nat.le_of_ble_eq_true rfl⟩) ⟨zP.blind, va_recv hK (z_subP (ws' := (zTr cI (h_T) (q_T) (T))) hP [0, 1, 2, 3, 4, 5] rfl) (ci := 4) (q0 := 0) rfl rfl, zP.enter (z_subP (ws' := (zTr cI (h_T) (q_T) (T))) hP [0, 1, 2, 3, 4, 5] rfl) hK (hD.sub [0, 1, 2, 3, 4, 5] (by decide) rfl) hN⟩ rfl rfl hl.1 rfl (lv_room (Nat.le_of_ble_eq_true rfl)) dX4_commonArea_18 ⟨Nat.le_refl _, Nat.le_refl _⟩) hP hD hS hA [0, 1, 2, 3, 4, 5] [] [0, 1, 2, 3, 4, 5] rfl rfl (by decide) (fun _ => rfl) (fun u_12 H locs hP hD hS hz => ?_)
  refine lv_aload_n hx hb dX4_commonArea_21 rfl (lv_at hl 0 rfl) ?_
  refine lv_iload_n hx hb dX4_commonArea_22 rfl (lv_at hl 2 rfl) ?_
  refine lv_iconst (v := Int32.ofInt 0) hx hb dX4_commonArea_23 rfl ?_
  obtain ⟨r_13, e_14, h⟩ := bd1_e h
  refine z_goi (ws' := []) (ret := r_13) (wc := (zTr cI (h_T) (q_T) (T))) (wn := fun u_15 => (zTr cI h_T q_T T)) (wr := []) (va_runV (As := [vI x2, vI 0]) (rest := [vI r_10, vI (min r_1 r_4)]) hF.1 (c_Tr_corner l D cI cZ cT h_T q_T T x2 0 H.size (r_13) e_14) (cwV 2 hts (zgV wm387 wm318 wm319 wm33 wm320) rfl rfl rfl (by decide +kernel) ⟨Nat.le_of_ble_eq_true rfl, Nat.le_of_ble_eq_true rfl⟩) ⟨zP.blind, va_recv hK (z_subP (ws' := (zTr cI (h_T) (q_T) (T))) hP [0, 1, 2, 3, 4, 5] rfl) (ci := 4) (q0 := 0) rfl rfl, zP.enter (z_subP (ws' := (zTr cI (h_T) (q_T) (T))) hP [0, 1, 2, 3, 4, 5] rfl) hK (hD.sub [0, 1, 2, 3, 4, 5] (by decide) rfl) hN⟩ rfl rfl hl.1 rfl (lv_room (Nat.le_of_ble_eq_true rfl)) dX4_commonArea_24 ⟨Nat.le_refl _, Nat.le_refl _⟩) hP hD hS hA [0, 1, 2, 3, 4, 5] [] [0, 1, 2, 3, 4, 5] rfl rfl (by decide) (fun _ => rfl) (fun u_15 H locs hP hD hS hz => ?_)
  obtain ⟨g_16, h⟩ := gd_e h
  obtain ⟨g_17, h⟩ := gd_e h
  refine z_mmax (rest := [vI (min r_1 r_4)]) hx hb (by rw [hml]; exact hl.1.symm) hown (hts _ wm403) (hts _ wm404) (hts _ wm40) (hts _ wm405) (Nat.le_of_ble_eq_true rfl) (Nat.le_of_ble_eq_true rfl) (Nat.le_refl _) (Nat.le_refl _) g_16 g_17 dX4_commonArea_27 ?_
  have g_18 : ck (max r_10 r_13) := ⟨by have := And.intro (show ck r_10 from g_16) (show ck r_13 from g_17); omega, by have := And.intro (show ck r_10 from g_16) (show ck r_13 from g_17); omega⟩
  refine z_isub hx hb dX4_commonArea_30 ?_
  refine lv_iconst (v := Int32.ofInt 1) hx hb dX4_commonArea_31 rfl ?_
  refine z_iadd hx hb dX4_commonArea_32 ?_
  refine lv_istore_n (lv' := [(3, vI (((min r_1 r_4) - (max r_10 r_13)) + 1)), (0, .ref h_T), (1, vI x1), (2, vI x2)]) hx hb dX4_commonArea_33 rfl hl (by decide) rfl (fun ls hl => ?_)
  refine lv_aload_n hx hb dX4_commonArea_34 rfl (lv_at hl 1 rfl) ?_
  refine lv_iload_n hx hb dX4_commonArea_35 rfl (lv_at hl 2 rfl) ?_
  refine lv_iconst (v := Int32.ofInt 3) hx hb dX4_commonArea_36 rfl ?_
  obtain ⟨r_19, e_20, h⟩ := bd1_e h
  refine z_goi (ws' := []) (ret := r_19) (wc := (zTr cI (h_T) (q_T) (T))) (wn := fun u_21 => (zTr cI h_T q_T T)) (wr := []) (va_runV (As := [vI x1, vI 3]) (rest := []) hF.1 (c_Tr_corner l D cI cZ cT h_T q_T T x1 3 H.size (r_19) e_20) (cwV 2 hts (zgV wm387 wm318 wm319 wm33 wm320) rfl rfl rfl (by decide +kernel) ⟨Nat.le_of_ble_eq_true rfl, Nat.le_of_ble_eq_true rfl⟩) ⟨zP.blind, va_recv hK (z_subP (ws' := (zTr cI (h_T) (q_T) (T))) hP [0, 1, 2, 3, 4, 5] rfl) (ci := 4) (q0 := 0) rfl rfl, zP.enter (z_subP (ws' := (zTr cI (h_T) (q_T) (T))) hP [0, 1, 2, 3, 4, 5] rfl) hK (hD.sub [0, 1, 2, 3, 4, 5] (by decide) rfl) hN⟩ rfl rfl hl.1 rfl (lv_room (Nat.le_of_ble_eq_true rfl)) dX4_commonArea_37 ⟨Nat.le_refl _, Nat.le_refl _⟩) hP hD hS hA [0, 1, 2, 3, 4, 5] [] [0, 1, 2, 3, 4, 5] rfl rfl (by decide) (fun _ => rfl) (fun u_21 H locs hP hD hS hz => ?_)
  refine lv_aload_n hx hb dX4_commonArea_40 rfl (lv_at hl 1 rfl) ?_
  refine lv_iload_n hx hb dX4_commonArea_41 rfl (lv_at hl 3 rfl) ?_
  refine lv_iconst (v := Int32.ofInt 3) hx hb dX4_commonArea_42 rfl ?_
  obtain ⟨r_22, e_23, h⟩ := bd1_e h
  refine z_goi (ws' := []) (ret := r_22) (wc := (zTr cI (h_T) (q_T) (T))) (wn := fun u_24 => (zTr cI h_T q_T T)) (wr := []) (va_runV (As := [vI x2, vI 3]) (rest := [vI r_19]) hF.1 (c_Tr_corner l D cI cZ cT h_T q_T T x2 3 H.size (r_22) e_23) (cwV 2 hts (zgV wm387 wm318 wm319 wm33 wm320) rfl rfl rfl (by decide +kernel) ⟨Nat.le_of_ble_eq_true rfl, Nat.le_of_ble_eq_true rfl⟩) ⟨zP.blind, va_recv hK (z_subP (ws' := (zTr cI (h_T) (q_T) (T))) hP [0, 1, 2, 3, 4, 5] rfl) (ci := 4) (q0 := 0) rfl rfl, zP.enter (z_subP (ws' := (zTr cI (h_T) (q_T) (T))) hP [0, 1, 2, 3, 4, 5] rfl) hK (hD.sub [0, 1, 2, 3, 4, 5] (by decide) rfl) hN⟩ rfl rfl hl.1 rfl (lv_room (Nat.le_of_ble_eq_true rfl)) dX4_commonArea_43 ⟨Nat.le_refl _, Nat.le_refl _⟩) hP hD hS hA [0, 1, 2, 3, 4, 5] [] [0, 1, 2, 3, 4, 5] rfl rfl (by decide) (fun _ => rfl) (fun u_24 H locs hP hD hS hz => ?_)
  obtain ⟨g_25, h⟩ := gd_e h
  obtain ⟨g_26, h⟩ := gd_e h
  refine z_mmin (rest := []) hx hb (by rw [hml]; exact hl.1.symm) hown (hts _ wm400) (hts _ wm401) (hts _ wm40) (hts _ wm402) (Nat.le_of_ble_eq_true rfl) (Nat.le_of_ble_eq_true rfl) (Nat.le_refl _) (Nat.le_refl _) g_25 g_26 dX4_commonArea_46 ?_
  have g_27 : ck (min r_19 r_22) := ⟨by have := And.intro (show ck r_19 from g_25) (show ck r_22 from g_26); omega, by have := And.intro (show ck r_19 from g_25) (show ck r_22 from g_26); omega⟩
  refine lv_aload_n hx hb dX4_commonArea_49 rfl (lv_at hl 1 rfl) ?_
  refine lv_iload_n hx hb dX4_commonArea_50 rfl (lv_at hl 2 rfl) ?_
  refine lv_iconst (v := Int32.ofInt 1) hx hb dX4_commonArea_51 rfl ?_
  obtain ⟨r_28, e_29, h⟩ := bd1_e h
  refine z_goi (ws' := []) (ret := r_28) (wc := (zTr cI (h_T) (q_T) (T))) (wn := fun u_30 => (zTr cI h_T q_T T)) (wr := []) (va_runV (As := [vI x1, vI 1]) (rest := [vI (min r_19 r_22)]) hF.1 (c_Tr_corner l D cI cZ cT h_T q_T T x1 1 H.size (r_28) e_29) (cwV 2 hts (zgV wm387 wm318 wm319 wm33 wm320) rfl rfl rfl (by decide +kernel) ⟨Nat.le_of_ble_eq_true rfl, Nat.le_of_ble_eq_true rfl⟩) ⟨zP.blind, va_recv hK (z_subP (ws' := (zTr cI (h_T) (q_T) (T))) hP [0, 1, 2, 3, 4, 5] rfl) (ci := 4) (q0 := 0) rfl rfl, zP.enter (z_subP (ws' := (zTr cI (h_T) (q_T) (T))) hP [0, 1, 2, 3, 4, 5] rfl) hK (hD.sub [0, 1, 2, 3, 4, 5] (by decide) rfl) hN⟩ rfl rfl hl.1 rfl (lv_room (Nat.le_of_ble_eq_true rfl)) dX4_commonArea_52 ⟨Nat.le_refl _, Nat.le_refl _⟩) hP hD hS hA [0, 1, 2, 3, 4, 5] [] [0, 1, 2, 3, 4, 5] rfl rfl (by decide) (fun _ => rfl) (fun u_30 H locs hP hD hS hz => ?_)
  refine lv_aload_n hx hb dX4_commonArea_55 rfl (lv_at hl 1 rfl) ?_
  refine lv_iload_n hx hb dX4_commonArea_56 rfl (lv_at hl 3 rfl) ?_
  refine lv_iconst (v := Int32.ofInt 1) hx hb dX4_commonArea_57 rfl ?_
  obtain ⟨r_31, e_32, h⟩ := bd1_e h
  refine z_goi (ws' := []) (ret := r_31) (wc := (zTr cI (h_T) (q_T) (T))) (wn := fun u_33 => (zTr cI h_T q_T T)) (wr := []) (va_runV (As := [vI x2, vI 1]) (rest := [vI r_28, vI (min r_19 r_22)]) hF.1 (c_Tr_corner l D cI cZ cT h_T q_T T x2 1 H.size (r_31) e_32) (cwV 2 hts (zgV wm387 wm318 wm319 wm33 wm320) rfl rfl rfl (by decide +kernel) ⟨Nat.le_of_ble_eq_true rfl, Nat.le_of_ble_eq_true rfl⟩) ⟨zP.blind, va_recv hK (z_subP (ws' := (zTr cI (h_T) (q_T) (T))) hP [0, 1, 2, 3, 4, 5] rfl) (ci := 4) (q0 := 0) rfl rfl, zP.enter (z_subP (ws' := (zTr cI (h_T) (q_T) (T))) hP [0, 1, 2, 3, 4, 5] rfl) hK (hD.sub [0, 1, 2, 3, 4, 5] (by decide) rfl) hN⟩ rfl rfl hl.1 rfl (lv_room (Nat.le_of_ble_eq_true rfl)) dX4_commonArea_58 ⟨Nat.le_refl _, Nat.le_refl _⟩) hP hD hS hA [0, 1, 2, 3, 4, 5] [] [0, 1, 2, 3, 4, 5] rfl rfl (by decide) (fun _ => rfl) (fun u_33 H locs hP hD hS hz => ?_)
  obtain ⟨g_34, h⟩ := gd_e h
  obtain ⟨g_35, h⟩ := gd_e h
  refine z_mmax (rest := [vI (min r_19 r_22)]) hx hb (by rw [hml]; exact hl.1.symm) hown (hts _ wm403) (hts _ wm404) (hts _ wm40) (hts _ wm405) (Nat.le_of_ble_eq_true rfl) (Nat.le_of_ble_eq_true rfl) (Nat.le_refl _) (Nat.le_refl _) g_34 g_35 dX4_commonArea_61 ?_
  have g_36 : ck (max r_28 r_31) := ⟨by have := And.intro (show ck r_28 from g_34) (show ck r_31 from g_35); omega, by have := And.intro (show ck r_28 from g_34) (show ck r_31 from g_35); omega⟩
  refine z_isub hx hb dX4_commonArea_64 ?_
  refine lv_iconst (v := Int32.ofInt 1) hx hb dX4_commonArea_65 rfl ?_
  refine z_iadd hx hb dX4_commonArea_66 ?_
  refine lv_istore (lv' := [(4, vI (((min r_19 r_22) - (max r_28 r_31)) + 1)), (3, vI (((min r_1 r_4) - (max r_10 r_13)) + 1)), (0, .ref h_T), (1, vI x1), (2, vI x2)]) hx hb dX4_commonArea_67 hl (by decide) rfl (fun ls hl => ?_)
  refine lv_iload_n hx hb dX4_commonArea_69 rfl (lv_at hl 1 rfl) ?_
  obtain ⟨g_37, h⟩ := gd_e h
  refine z_if_le (tgt := 85) hx hb g_37 dX4_commonArea_70 (by decide) (fun b_38 => ?_) (fun b_38 => ?_)
  · have h := it_n b_38 h
    refine lv_iconst (v := Int32.ofInt 0) hx hb dX4_commonArea_85 rfl ?_
    obtain rfl := Option.some.inj h
    exact z_iret hx hb hr hlk (fun _ _ => 0) hP hD hS dX4_commonArea_86
  · have h := it_p b_38 h
    refine lv_iload hx hb dX4_commonArea_73 (lv_at hl 0 rfl) ?_
    obtain ⟨g_39, h⟩ := gd_e h
    refine z_if_le (tgt := 85) hx hb g_39 dX4_commonArea_75 (by decide) (fun b_40 => ?_) (fun b_40 => ?_)
    · have h := it_n b_40 h
      refine lv_iconst (v := Int32.ofInt 0) hx hb dX4_commonArea_85 rfl ?_
      obtain rfl := Option.some.inj h
      exact z_iret hx hb hr hlk (fun _ _ => 0) hP hD hS dX4_commonArea_86
    · have h := it_p b_40 h
      refine lv_iload_n hx hb dX4_commonArea_78 rfl (lv_at hl 1 rfl) ?_
      refine lv_iload hx hb dX4_commonArea_79 (lv_at hl 0 rfl) ?_
      refine z_imul hx hb dX4_commonArea_81 ?_
      refine lv_goto (tgt := 86) hx hb dX4_commonArea_82 (by decide) ?_
      obtain rfl := Option.some.inj h
      exact z_iret hx hb hr hlk (fun _ _ => 0) hP hD hS dX4_commonArea_86
def f_Tr_enlargement (T : TV) (x1 : Int) (x2 : Int) : Option (Int) :=
  bd1 (f_Tr_unionArea T x1 x2) <| fun r_1 => bd1 (f_Tr_areaOf T x1) <| fun r_4 => some ((r_1 - r_4))
abbrev rm_Tr_enlargement : Room := ({ frames := 2, cells := 0, slots := 0, locals := 47 } : Room)
set_option maxHeartbeats 4000000 in
set_option maxRecDepth 100000 in
theorem c_Tr_enlargement (l : Launch) (D : va_G) (cI cZ cT : ClassId) (h_T : Nat) (q_T : Nat → Nat) (T : TV) (x1 : Int) (x2 : Int) (sz : Nat) (res : Int) (h : f_Tr_enlargement T x1 x2 = some res) : zMi l yX4_enlargement cX4_enlargement 3 rm_Tr_enlargement D (zt cI cZ cT) [.ref h_T, vI x1, vI x2] ((zTr cI h_T q_T T)) sz (res) (fun u => (zTr cI h_T q_T T)) 0 0 := by
  refine z_enth (Qc := zQi D (res) (fun u => (zTr cI h_T q_T T))) (by decide) (Nat.le_of_ble_eq_true rfl) (fun p e s m args below meth c A ls H locs hF hP hD hS hl => ?_)
  have hx := hF.1.1
  have hb := hF.1.2.1
  have hml := hF.1.2.2.1
  have hown : s.vm.findClass "RectangleTree$Tree" = some m.cls := hF.1.2.2.2.1
  have hts := hF.1.2.2.2.2
  have hr := hF.2.1
  have hlk := hF.2.2.1
  have hK := hF.2.2.2.2.1
  have hN := hF.2.2.2.2.2.1
  have hA := hF.2.2.2.2.2.2
  unfold f_Tr_enlargement at h
  refine lv_aload_n hx hb dX4_enlargement_0 rfl (lv_at hl 0 rfl) ?_
  refine lv_iload_n hx hb dX4_enlargement_1 rfl (lv_at hl 1 rfl) ?_
  refine lv_iload_n hx hb dX4_enlargement_2 rfl (lv_at hl 2 rfl) ?_
  obtain ⟨r_1, e_2, h⟩ := bd1_e h
  refine z_goi (ws' := []) (ret := r_1) (wc := (zTr cI (h_T) (q_T) (T))) (wn := fun u_3 => (zTr cI h_T q_T T)) (wr := []) (va_runV (As := [vI x1, vI x2]) (rest := []) hF.1 (c_Tr_unionArea l D cI cZ cT h_T q_T T x1 x2 H.size (r_1) e_2) (cwV 2 hts (zgV wm610 wm514 wm515 wm33 wm516) rfl rfl rfl (by decide +kernel) ⟨Nat.le_of_ble_eq_true rfl, Nat.le_of_ble_eq_true rfl⟩) ⟨zP.blind, va_recv hK (z_subP (ws' := (zTr cI (h_T) (q_T) (T))) hP [0, 1, 2, 3, 4, 5] rfl) (ci := 4) (q0 := 0) rfl rfl, zP.enter (z_subP (ws' := (zTr cI (h_T) (q_T) (T))) hP [0, 1, 2, 3, 4, 5] rfl) hK (hD.sub [0, 1, 2, 3, 4, 5] (by decide) rfl) hN⟩ rfl rfl hl.1 rfl (lv_room (Nat.le_of_ble_eq_true rfl)) dX4_enlargement_3 ⟨Nat.le_refl _, Nat.le_refl _⟩) hP hD hS hA [0, 1, 2, 3, 4, 5] [] [0, 1, 2, 3, 4, 5] rfl rfl (by decide) (fun _ => rfl) (fun u_3 H locs hP hD hS hz => ?_)
  refine lv_aload_n hx hb dX4_enlargement_6 rfl (lv_at hl 0 rfl) ?_
  refine lv_iload_n hx hb dX4_enlargement_7 rfl (lv_at hl 1 rfl) ?_
  obtain ⟨r_4, e_5, h⟩ := bd1_e h
  refine z_goi (ws' := []) (ret := r_4) (wc := (zTr cI (h_T) (q_T) (T))) (wn := fun u_6 => (zTr cI h_T q_T T)) (wr := []) (va_runV (As := [vI x1]) (rest := [vI r_1]) hF.1 (c_Tr_areaOf l D cI cZ cT h_T q_T T x1 H.size (r_4) e_5) (cwV 1 hts (zgV wm611 wm384 wm385 wm33 wm386) rfl rfl rfl (by decide +kernel) ⟨Nat.le_of_ble_eq_true rfl, Nat.le_of_ble_eq_true rfl⟩) ⟨zP.blind, va_recv hK (z_subP (ws' := (zTr cI (h_T) (q_T) (T))) hP [0, 1, 2, 3, 4, 5] rfl) (ci := 4) (q0 := 0) rfl rfl, zP.enter (z_subP (ws' := (zTr cI (h_T) (q_T) (T))) hP [0, 1, 2, 3, 4, 5] rfl) hK (hD.sub [0, 1, 2, 3, 4, 5] (by decide) rfl) hN⟩ rfl rfl hl.1 rfl (lv_room (Nat.le_of_ble_eq_true rfl)) dX4_enlargement_8 ⟨Nat.le_refl _, Nat.le_refl _⟩) hP hD hS hA [0, 1, 2, 3, 4, 5] [] [0, 1, 2, 3, 4, 5] rfl rfl (by decide) (fun _ => rfl) (fun u_6 H locs hP hD hS hz => ?_)
  refine z_isub hx hb dX4_enlargement_11 ?_
  obtain rfl := Option.some.inj h
  exact z_iret hx hb hr hlk (fun _ _ => 0) hP hD hS dX4_enlargement_12
def f_Tr_doubleCenter (T : TV) (x1 : Int) (x2 : Int) : Option (Int) :=
  bd1 (f_Tr_corner T x1 x2) <| fun r_1 => bd1 (f_Tr_corner T x1 (x2 + 2)) <| fun r_4 => some ((r_1 + r_4))
abbrev rm_Tr_doubleCenter : Room := ({ frames := 1, cells := 0, slots := 0, locals := 23 } : Room)
set_option maxHeartbeats 4000000 in
set_option maxRecDepth 100000 in
theorem c_Tr_doubleCenter (l : Launch) (D : va_G) (cI cZ cT : ClassId) (h_T : Nat) (q_T : Nat → Nat) (T : TV) (x1 : Int) (x2 : Int) (sz : Nat) (res : Int) (h : f_Tr_doubleCenter T x1 x2 = some res) : zMi l yX4_doubleCenter cX4_doubleCenter 3 rm_Tr_doubleCenter D (zt cI cZ cT) [.ref h_T, vI x1, vI x2] ((zTr cI h_T q_T T)) sz (res) (fun u => (zTr cI h_T q_T T)) 0 0 := by
  refine z_enth (Qc := zQi D (res) (fun u => (zTr cI h_T q_T T))) (by decide) (Nat.le_of_ble_eq_true rfl) (fun p e s m args below meth c A ls H locs hF hP hD hS hl => ?_)
  have hx := hF.1.1
  have hb := hF.1.2.1
  have hml := hF.1.2.2.1
  have hown : s.vm.findClass "RectangleTree$Tree" = some m.cls := hF.1.2.2.2.1
  have hts := hF.1.2.2.2.2
  have hr := hF.2.1
  have hlk := hF.2.2.1
  have hK := hF.2.2.2.2.1
  have hN := hF.2.2.2.2.2.1
  have hA := hF.2.2.2.2.2.2
  unfold f_Tr_doubleCenter at h
  refine lv_aload_n hx hb dX4_doubleCenter_0 rfl (lv_at hl 0 rfl) ?_
  refine lv_iload_n hx hb dX4_doubleCenter_1 rfl (lv_at hl 1 rfl) ?_
  refine lv_iload_n hx hb dX4_doubleCenter_2 rfl (lv_at hl 2 rfl) ?_
  obtain ⟨r_1, e_2, h⟩ := bd1_e h
  refine z_goi (ws' := []) (ret := r_1) (wc := (zTr cI (h_T) (q_T) (T))) (wn := fun u_3 => (zTr cI h_T q_T T)) (wr := []) (va_runV (As := [vI x1, vI x2]) (rest := []) hF.1 (c_Tr_corner l D cI cZ cT h_T q_T T x1 x2 H.size (r_1) e_2) (cwV 2 hts (zgV wm387 wm318 wm319 wm33 wm320) rfl rfl rfl (by decide +kernel) ⟨Nat.le_of_ble_eq_true rfl, Nat.le_of_ble_eq_true rfl⟩) ⟨zP.blind, va_recv hK (z_subP (ws' := (zTr cI (h_T) (q_T) (T))) hP [0, 1, 2, 3, 4, 5] rfl) (ci := 4) (q0 := 0) rfl rfl, zP.enter (z_subP (ws' := (zTr cI (h_T) (q_T) (T))) hP [0, 1, 2, 3, 4, 5] rfl) hK (hD.sub [0, 1, 2, 3, 4, 5] (by decide) rfl) hN⟩ rfl rfl hl.1 rfl (lv_room (Nat.le_of_ble_eq_true rfl)) dX4_doubleCenter_3 ⟨Nat.le_refl _, Nat.le_refl _⟩) hP hD hS hA [0, 1, 2, 3, 4, 5] [] [0, 1, 2, 3, 4, 5] rfl rfl (by decide) (fun _ => rfl) (fun u_3 H locs hP hD hS hz => ?_)
  refine lv_aload_n hx hb dX4_doubleCenter_6 rfl (lv_at hl 0 rfl) ?_
  refine lv_iload_n hx hb dX4_doubleCenter_7 rfl (lv_at hl 1 rfl) ?_
  refine lv_iload_n hx hb dX4_doubleCenter_8 rfl (lv_at hl 2 rfl) ?_
  refine lv_iconst (v := Int32.ofInt 2) hx hb dX4_doubleCenter_9 rfl ?_
  refine z_iadd hx hb dX4_doubleCenter_10 ?_
  obtain ⟨r_4, e_5, h⟩ := bd1_e h
  refine z_goi (ws' := []) (ret := r_4) (wc := (zTr cI (h_T) (q_T) (T))) (wn := fun u_6 => (zTr cI h_T q_T T)) (wr := []) (va_runV (As := [vI x1, vI (x2 + 2)]) (rest := [vI r_1]) hF.1 (c_Tr_corner l D cI cZ cT h_T q_T T x1 (x2 + 2) H.size (r_4) e_5) (cwV 2 hts (zgV wm387 wm318 wm319 wm33 wm320) rfl rfl rfl (by decide +kernel) ⟨Nat.le_of_ble_eq_true rfl, Nat.le_of_ble_eq_true rfl⟩) ⟨zP.blind, va_recv hK (z_subP (ws' := (zTr cI (h_T) (q_T) (T))) hP [0, 1, 2, 3, 4, 5] rfl) (ci := 4) (q0 := 0) rfl rfl, zP.enter (z_subP (ws' := (zTr cI (h_T) (q_T) (T))) hP [0, 1, 2, 3, 4, 5] rfl) hK (hD.sub [0, 1, 2, 3, 4, 5] (by decide) rfl) hN⟩ rfl rfl hl.1 rfl (lv_room (Nat.le_of_ble_eq_true rfl)) dX4_doubleCenter_11 ⟨Nat.le_refl _, Nat.le_refl _⟩) hP hD hS hA [0, 1, 2, 3, 4, 5] [] [0, 1, 2, 3, 4, 5] rfl rfl (by decide) (fun _ => rfl) (fun u_6 H locs hP hD hS hz => ?_)
  refine z_iadd hx hb dX4_doubleCenter_14 ?_
  obtain rfl := Option.some.inj h
  exact z_iret hx hb hr hlk (fun _ _ => 0) hP hD hS dX4_doubleCenter_15
def f_Tr_centerDistance (T : TV) (x1 : Int) (x2 : Int) : Option (Int) :=
  bd1 (f_Tr_doubleCenter T x1 0) <| fun r_1 => bd1 (f_Tr_doubleCenter T x2 0) <| fun r_4 => bd1 (f_Tr_doubleCenter T x1 1) <| fun r_7 => bd1 (f_Tr_doubleCenter T x2 1) <| fun r_10 => some ((((r_1 - r_4) * (r_1 - r_4)) + ((r_7 - r_10) * (r_7 - r_10))))
abbrev rm_Tr_centerDistance : Room := ({ frames := 2, cells := 0, slots := 0, locals := 45 } : Room)
set_option maxHeartbeats 4000000 in
set_option maxRecDepth 100000 in
theorem c_Tr_centerDistance (l : Launch) (D : va_G) (cI cZ cT : ClassId) (h_T : Nat) (q_T : Nat → Nat) (T : TV) (x1 : Int) (x2 : Int) (sz : Nat) (res : Int) (h : f_Tr_centerDistance T x1 x2 = some res) : zMi l yX4_centerDistance cX4_centerDistance 5 rm_Tr_centerDistance D (zt cI cZ cT) [.ref h_T, vI x1, vI x2] ((zTr cI h_T q_T T)) sz (res) (fun u => (zTr cI h_T q_T T)) 0 0 := by
  refine z_enth (Qc := zQi D (res) (fun u => (zTr cI h_T q_T T))) (by decide) (Nat.le_of_ble_eq_true rfl) (fun p e s m args below meth c A ls H locs hF hP hD hS hl => ?_)
  have hx := hF.1.1
  have hb := hF.1.2.1
  have hml := hF.1.2.2.1
  have hown : s.vm.findClass "RectangleTree$Tree" = some m.cls := hF.1.2.2.2.1
  have hts := hF.1.2.2.2.2
  have hr := hF.2.1
  have hlk := hF.2.2.1
  have hK := hF.2.2.2.2.1
  have hN := hF.2.2.2.2.2.1
  have hA := hF.2.2.2.2.2.2
  unfold f_Tr_centerDistance at h
  refine lv_aload_n hx hb dX4_centerDistance_0 rfl (lv_at hl 0 rfl) ?_
  refine lv_iload_n hx hb dX4_centerDistance_1 rfl (lv_at hl 1 rfl) ?_
  refine lv_iconst (v := Int32.ofInt 0) hx hb dX4_centerDistance_2 rfl ?_
  obtain ⟨r_1, e_2, h⟩ := bd1_e h
  refine z_goi (ws' := []) (ret := r_1) (wc := (zTr cI (h_T) (q_T) (T))) (wn := fun u_3 => (zTr cI h_T q_T T)) (wr := []) (va_runV (As := [vI x1, vI 0]) (rest := []) hF.1 (c_Tr_doubleCenter l D cI cZ cT h_T q_T T x1 0 H.size (r_1) e_2) (cwV 2 hts (zgV wm546 wm547 wm548 wm33 wm549) rfl rfl rfl (by decide +kernel) ⟨Nat.le_of_ble_eq_true rfl, Nat.le_of_ble_eq_true rfl⟩) ⟨zP.blind, va_recv hK (z_subP (ws' := (zTr cI (h_T) (q_T) (T))) hP [0, 1, 2, 3, 4, 5] rfl) (ci := 4) (q0 := 0) rfl rfl, zP.enter (z_subP (ws' := (zTr cI (h_T) (q_T) (T))) hP [0, 1, 2, 3, 4, 5] rfl) hK (hD.sub [0, 1, 2, 3, 4, 5] (by decide) rfl) hN⟩ rfl rfl hl.1 rfl (lv_room (Nat.le_of_ble_eq_true rfl)) dX4_centerDistance_3 ⟨Nat.le_refl _, Nat.le_refl _⟩) hP hD hS hA [0, 1, 2, 3, 4, 5] [] [0, 1, 2, 3, 4, 5] rfl rfl (by decide) (fun _ => rfl) (fun u_3 H locs hP hD hS hz => ?_)
  refine lv_aload_n hx hb dX4_centerDistance_6 rfl (lv_at hl 0 rfl) ?_
  refine lv_iload_n hx hb dX4_centerDistance_7 rfl (lv_at hl 2 rfl) ?_
  refine lv_iconst (v := Int32.ofInt 0) hx hb dX4_centerDistance_8 rfl ?_
  obtain ⟨r_4, e_5, h⟩ := bd1_e h
  refine z_goi (ws' := []) (ret := r_4) (wc := (zTr cI (h_T) (q_T) (T))) (wn := fun u_6 => (zTr cI h_T q_T T)) (wr := []) (va_runV (As := [vI x2, vI 0]) (rest := [vI r_1]) hF.1 (c_Tr_doubleCenter l D cI cZ cT h_T q_T T x2 0 H.size (r_4) e_5) (cwV 2 hts (zgV wm546 wm547 wm548 wm33 wm549) rfl rfl rfl (by decide +kernel) ⟨Nat.le_of_ble_eq_true rfl, Nat.le_of_ble_eq_true rfl⟩) ⟨zP.blind, va_recv hK (z_subP (ws' := (zTr cI (h_T) (q_T) (T))) hP [0, 1, 2, 3, 4, 5] rfl) (ci := 4) (q0 := 0) rfl rfl, zP.enter (z_subP (ws' := (zTr cI (h_T) (q_T) (T))) hP [0, 1, 2, 3, 4, 5] rfl) hK (hD.sub [0, 1, 2, 3, 4, 5] (by decide) rfl) hN⟩ rfl rfl hl.1 rfl (lv_room (Nat.le_of_ble_eq_true rfl)) dX4_centerDistance_9 ⟨Nat.le_refl _, Nat.le_refl _⟩) hP hD hS hA [0, 1, 2, 3, 4, 5] [] [0, 1, 2, 3, 4, 5] rfl rfl (by decide) (fun _ => rfl) (fun u_6 H locs hP hD hS hz => ?_)
  refine z_isub hx hb dX4_centerDistance_12 ?_
  refine lv_istore_n (lv' := [(3, vI (r_1 - r_4)), (0, .ref h_T), (1, vI x1), (2, vI x2)]) hx hb dX4_centerDistance_13 rfl hl (by decide) rfl (fun ls hl => ?_)
  refine lv_aload_n hx hb dX4_centerDistance_14 rfl (lv_at hl 1 rfl) ?_
  refine lv_iload_n hx hb dX4_centerDistance_15 rfl (lv_at hl 2 rfl) ?_
  refine lv_iconst (v := Int32.ofInt 1) hx hb dX4_centerDistance_16 rfl ?_
  obtain ⟨r_7, e_8, h⟩ := bd1_e h
  refine z_goi (ws' := []) (ret := r_7) (wc := (zTr cI (h_T) (q_T) (T))) (wn := fun u_9 => (zTr cI h_T q_T T)) (wr := []) (va_runV (As := [vI x1, vI 1]) (rest := []) hF.1 (c_Tr_doubleCenter l D cI cZ cT h_T q_T T x1 1 H.size (r_7) e_8) (cwV 2 hts (zgV wm546 wm547 wm548 wm33 wm549) rfl rfl rfl (by decide +kernel) ⟨Nat.le_of_ble_eq_true rfl, Nat.le_of_ble_eq_true rfl⟩) ⟨zP.blind, va_recv hK (z_subP (ws' := (zTr cI (h_T) (q_T) (T))) hP [0, 1, 2, 3, 4, 5] rfl) (ci := 4) (q0 := 0) rfl rfl, zP.enter (z_subP (ws' := (zTr cI (h_T) (q_T) (T))) hP [0, 1, 2, 3, 4, 5] rfl) hK (hD.sub [0, 1, 2, 3, 4, 5] (by decide) rfl) hN⟩ rfl rfl hl.1 rfl (lv_room (Nat.le_of_ble_eq_true rfl)) dX4_centerDistance_17 ⟨Nat.le_refl _, Nat.le_refl _⟩) hP hD hS hA [0, 1, 2, 3, 4, 5] [] [0, 1, 2, 3, 4, 5] rfl rfl (by decide) (fun _ => rfl) (fun u_9 H locs hP hD hS hz => ?_)
  refine lv_aload_n hx hb dX4_centerDistance_20 rfl (lv_at hl 1 rfl) ?_
  refine lv_iload_n hx hb dX4_centerDistance_21 rfl (lv_at hl 3 rfl) ?_
  refine lv_iconst (v := Int32.ofInt 1) hx hb dX4_centerDistance_22 rfl ?_
  obtain ⟨r_10, e_11, h⟩ := bd1_e h
  refine z_goi (ws' := []) (ret := r_10) (wc := (zTr cI (h_T) (q_T) (T))) (wn := fun u_12 => (zTr cI h_T q_T T)) (wr := []) (va_runV (As := [vI x2, vI 1]) (rest := [vI r_7]) hF.1 (c_Tr_doubleCenter l D cI cZ cT h_T q_T T x2 1 H.size (r_10) e_11) (cwV 2 hts (zgV wm546 wm547 wm548 wm33 wm549) rfl rfl rfl (by decide +kernel) ⟨Nat.le_of_ble_eq_true rfl, Nat.le_of_ble_eq_true rfl⟩) ⟨zP.blind, va_recv hK (z_subP (ws' := (zTr cI (h_T) (q_T) (T))) hP [0, 1, 2, 3, 4, 5] rfl) (ci := 4) (q0 := 0) rfl rfl, zP.enter (z_subP (ws' := (zTr cI (h_T) (q_T) (T))) hP [0, 1, 2, 3, 4, 5] rfl) hK (hD.sub [0, 1, 2, 3, 4, 5] (by decide) rfl) hN⟩ rfl rfl hl.1 rfl (lv_room (Nat.le_of_ble_eq_true rfl)) dX4_centerDistance_23 ⟨Nat.le_refl _, Nat.le_refl _⟩) hP hD hS hA [0, 1, 2, 3, 4, 5] [] [0, 1, 2, 3, 4, 5] rfl rfl (by decide) (fun _ => rfl) (fun u_12 H locs hP hD hS hz => ?_)
  refine z_isub hx hb dX4_centerDistance_26 ?_
  refine lv_istore (lv' := [(4, vI (r_7 - r_10)), (3, vI (r_1 - r_4)), (0, .ref h_T), (1, vI x1), (2, vI x2)]) hx hb dX4_centerDistance_27 hl (by decide) rfl (fun ls hl => ?_)
  refine lv_iload_n hx hb dX4_centerDistance_29 rfl (lv_at hl 1 rfl) ?_
  refine lv_iload_n hx hb dX4_centerDistance_30 rfl (lv_at hl 1 rfl) ?_
  refine z_imul hx hb dX4_centerDistance_31 ?_
  refine lv_iload hx hb dX4_centerDistance_32 (lv_at hl 0 rfl) ?_
  refine lv_iload hx hb dX4_centerDistance_34 (lv_at hl 0 rfl) ?_
  refine z_imul hx hb dX4_centerDistance_36 ?_
  refine z_iadd hx hb dX4_centerDistance_37 ?_
  obtain rfl := Option.some.inj h
  exact z_iret hx hb hr hlk (fun _ _ => 0) hP hD hS dX4_centerDistance_38
def f_Tr_meetsWindow (T : TV) (x1 : Int) (x2 : Int) (x3 : Int) (x4 : Int) (x5 : Int) : Option (Int) :=
  bd1 (f_Tr_corner T x1 0) <| fun r_1 => gd (ck r_1) <| gd (ck x4) <| if x4 < r_1 then (some (0)) else (bd1 (f_Tr_corner T x1 2) <| fun r_7 => gd (ck r_7) <| gd (ck x2) <| if r_7 < x2 then (some (0)) else (bd1 (f_Tr_corner T x1 1) <| fun r_13 => gd (ck r_13) <| gd (ck x5) <| if x5 < r_13 then (some (0)) else (bd1 (f_Tr_corner T x1 3) <| fun r_19 => gd (ck r_19) <| gd (ck x3) <| if r_19 < x3 then (some (0)) else (some (1)))))
abbrev rm_Tr_meetsWindow : Room := ({ frames := 1, cells := 0, slots := 0, locals := 23 } : Room)
set_option maxHeartbeats 4000000 in
set_option maxRecDepth 100000 in
theorem c_Tr_meetsWindow (l : Launch) (D : va_G) (cI cZ cT : ClassId) (h_T : Nat) (q_T : Nat → Nat) (T : TV) (x1 : Int) (x2 : Int) (x3 : Int) (x4 : Int) (x5 : Int) (sz : Nat) (res : Int) (h : f_Tr_meetsWindow T x1 x2 x3 x4 x5 = some res) : zMz l yX4_meetsWindow cX4_meetsWindow 6 rm_Tr_meetsWindow D (zt cI cZ cT) [.ref h_T, vI x1, vI x2, vI x3, vI x4, vI x5] ((zTr cI h_T q_T T)) sz (res) (fun u => (zTr cI h_T q_T T)) 0 0 := by
  refine z_enth (Qc := zQi D (res) (fun u => (zTr cI h_T q_T T))) (by decide) (Nat.le_of_ble_eq_true rfl) (fun p e s m args below meth c A ls H locs hF hP hD hS hl => ?_)
  have hx := hF.1.1
  have hb := hF.1.2.1
  have hml := hF.1.2.2.1
  have hown : s.vm.findClass "RectangleTree$Tree" = some m.cls := hF.1.2.2.2.1
  have hts := hF.1.2.2.2.2
  have hr := hF.2.1
  have hlk := hF.2.2.1
  have hK := hF.2.2.2.2.1
  have hN := hF.2.2.2.2.2.1
  have hA := hF.2.2.2.2.2.2
  unfold f_Tr_meetsWindow at h
  refine lv_aload_n hx hb dX4_meetsWindow_0 rfl (lv_at hl 0 rfl) ?_
  refine lv_iload_n hx hb dX4_meetsWindow_1 rfl (lv_at hl 1 rfl) ?_
  refine lv_iconst (v := Int32.ofInt 0) hx hb dX4_meetsWindow_2 rfl ?_
  obtain ⟨r_1, e_2, h⟩ := bd1_e h
  refine z_goi (ws' := []) (ret := r_1) (wc := (zTr cI (h_T) (q_T) (T))) (wn := fun u_3 => (zTr cI h_T q_T T)) (wr := []) (va_runV (As := [vI x1, vI 0]) (rest := []) hF.1 (c_Tr_corner l D cI cZ cT h_T q_T T x1 0 H.size (r_1) e_2) (cwV 2 hts (zgV wm387 wm318 wm319 wm33 wm320) rfl rfl rfl (by decide +kernel) ⟨Nat.le_of_ble_eq_true rfl, Nat.le_of_ble_eq_true rfl⟩) ⟨zP.blind, va_recv hK (z_subP (ws' := (zTr cI (h_T) (q_T) (T))) hP [0, 1, 2, 3, 4, 5] rfl) (ci := 4) (q0 := 0) rfl rfl, zP.enter (z_subP (ws' := (zTr cI (h_T) (q_T) (T))) hP [0, 1, 2, 3, 4, 5] rfl) hK (hD.sub [0, 1, 2, 3, 4, 5] (by decide) rfl) hN⟩ rfl rfl hl.1 rfl (lv_room (Nat.le_of_ble_eq_true rfl)) dX4_meetsWindow_3 ⟨Nat.le_refl _, Nat.le_refl _⟩) hP hD hS hA [0, 1, 2, 3, 4, 5] [] [0, 1, 2, 3, 4, 5] rfl rfl (by decide) (fun _ => rfl) (fun u_3 H locs hP hD hS hz => ?_)
  refine lv_iload hx hb dX4_meetsWindow_6 (lv_at hl 4 rfl) ?_
  obtain ⟨g_4, h⟩ := gd_e h
  obtain ⟨g_5, h⟩ := gd_e h
  refine z_icmp_gt (tgt := 46) hx hb g_4 g_5 dX4_meetsWindow_8 (by decide) (fun b_6 => ?_) (fun b_6 => ?_)
  · have h := it_p b_6 h
    refine lv_iconst (v := Int32.ofInt 0) hx hb dX4_meetsWindow_46 rfl ?_
    obtain rfl := Option.some.inj h
    exact z_zret hx hb hr hlk (by decide) (fun _ _ => 0) hP hD hS dX4_meetsWindow_47
  · have h := it_n b_6 h
    refine lv_aload_n hx hb dX4_meetsWindow_11 rfl (lv_at hl 0 rfl) ?_
    refine lv_iload_n hx hb dX4_meetsWindow_12 rfl (lv_at hl 1 rfl) ?_
    refine lv_iconst (v := Int32.ofInt 2) hx hb dX4_meetsWindow_13 rfl ?_
    obtain ⟨r_7, e_8, h⟩ := bd1_e h
    refine z_goi (ws' := []) (ret := r_7) (wc := (zTr cI (h_T) (q_T) (T))) (wn := fun u_9 => (zTr cI h_T q_T T)) (wr := []) (va_runV (As := [vI x1, vI 2]) (rest := []) hF.1 (c_Tr_corner l D cI cZ cT h_T q_T T x1 2 H.size (r_7) e_8) (cwV 2 hts (zgV wm387 wm318 wm319 wm33 wm320) rfl rfl rfl (by decide +kernel) ⟨Nat.le_of_ble_eq_true rfl, Nat.le_of_ble_eq_true rfl⟩) ⟨zP.blind, va_recv hK (z_subP (ws' := (zTr cI (h_T) (q_T) (T))) hP [0, 1, 2, 3, 4, 5] rfl) (ci := 4) (q0 := 0) rfl rfl, zP.enter (z_subP (ws' := (zTr cI (h_T) (q_T) (T))) hP [0, 1, 2, 3, 4, 5] rfl) hK (hD.sub [0, 1, 2, 3, 4, 5] (by decide) rfl) hN⟩ rfl rfl hl.1 rfl (lv_room (Nat.le_of_ble_eq_true rfl)) dX4_meetsWindow_14 ⟨Nat.le_refl _, Nat.le_refl _⟩) hP hD hS hA [0, 1, 2, 3, 4, 5] [] [0, 1, 2, 3, 4, 5] rfl rfl (by decide) (fun _ => rfl) (fun u_9 H locs hP hD hS hz => ?_)
    refine lv_iload_n hx hb dX4_meetsWindow_17 rfl (lv_at hl 2 rfl) ?_
    obtain ⟨g_10, h⟩ := gd_e h
    obtain ⟨g_11, h⟩ := gd_e h
    refine z_icmp_lt (tgt := 46) hx hb g_10 g_11 dX4_meetsWindow_18 (by decide) (fun b_12 => ?_) (fun b_12 => ?_)
    · have h := it_p b_12 h
      refine lv_iconst (v := Int32.ofInt 0) hx hb dX4_meetsWindow_46 rfl ?_
      obtain rfl := Option.some.inj h
      exact z_zret hx hb hr hlk (by decide) (fun _ _ => 0) hP hD hS dX4_meetsWindow_47
    · have h := it_n b_12 h
      refine lv_aload_n hx hb dX4_meetsWindow_21 rfl (lv_at hl 0 rfl) ?_
      refine lv_iload_n hx hb dX4_meetsWindow_22 rfl (lv_at hl 1 rfl) ?_
      refine lv_iconst (v := Int32.ofInt 1) hx hb dX4_meetsWindow_23 rfl ?_
      obtain ⟨r_13, e_14, h⟩ := bd1_e h
      refine z_goi (ws' := []) (ret := r_13) (wc := (zTr cI (h_T) (q_T) (T))) (wn := fun u_15 => (zTr cI h_T q_T T)) (wr := []) (va_runV (As := [vI x1, vI 1]) (rest := []) hF.1 (c_Tr_corner l D cI cZ cT h_T q_T T x1 1 H.size (r_13) e_14) (cwV 2 hts (zgV wm387 wm318 wm319 wm33 wm320) rfl rfl rfl (by decide +kernel) ⟨Nat.le_of_ble_eq_true rfl, Nat.le_of_ble_eq_true rfl⟩) ⟨zP.blind, va_recv hK (z_subP (ws' := (zTr cI (h_T) (q_T) (T))) hP [0, 1, 2, 3, 4, 5] rfl) (ci := 4) (q0 := 0) rfl rfl, zP.enter (z_subP (ws' := (zTr cI (h_T) (q_T) (T))) hP [0, 1, 2, 3, 4, 5] rfl) hK (hD.sub [0, 1, 2, 3, 4, 5] (by decide) rfl) hN⟩ rfl rfl hl.1 rfl (lv_room (Nat.le_of_ble_eq_true rfl)) dX4_meetsWindow_24 ⟨Nat.le_refl _, Nat.le_refl _⟩) hP hD hS hA [0, 1, 2, 3, 4, 5] [] [0, 1, 2, 3, 4, 5] rfl rfl (by decide) (fun _ => rfl) (fun u_15 H locs hP hD hS hz => ?_)
      refine lv_iload hx hb dX4_meetsWindow_27 (lv_at hl 5 rfl) ?_
      obtain ⟨g_16, h⟩ := gd_e h
      obtain ⟨g_17, h⟩ := gd_e h
      refine z_icmp_gt (tgt := 46) hx hb g_16 g_17 dX4_meetsWindow_29 (by decide) (fun b_18 => ?_) (fun b_18 => ?_)
      · have h := it_p b_18 h
        refine lv_iconst (v := Int32.ofInt 0) hx hb dX4_meetsWindow_46 rfl ?_
        obtain rfl := Option.some.inj h
        exact z_zret hx hb hr hlk (by decide) (fun _ _ => 0) hP hD hS dX4_meetsWindow_47
      · have h := it_n b_18 h
        refine lv_aload_n hx hb dX4_meetsWindow_32 rfl (lv_at hl 0 rfl) ?_
        refine lv_iload_n hx hb dX4_meetsWindow_33 rfl (lv_at hl 1 rfl) ?_
        refine lv_iconst (v := Int32.ofInt 3) hx hb dX4_meetsWindow_34 rfl ?_
        obtain ⟨r_19, e_20, h⟩ := bd1_e h
        refine z_goi (ws' := []) (ret := r_19) (wc := (zTr cI (h_T) (q_T) (T))) (wn := fun u_21 => (zTr cI h_T q_T T)) (wr := []) (va_runV (As := [vI x1, vI 3]) (rest := []) hF.1 (c_Tr_corner l D cI cZ cT h_T q_T T x1 3 H.size (r_19) e_20) (cwV 2 hts (zgV wm387 wm318 wm319 wm33 wm320) rfl rfl rfl (by decide +kernel) ⟨Nat.le_of_ble_eq_true rfl, Nat.le_of_ble_eq_true rfl⟩) ⟨zP.blind, va_recv hK (z_subP (ws' := (zTr cI (h_T) (q_T) (T))) hP [0, 1, 2, 3, 4, 5] rfl) (ci := 4) (q0 := 0) rfl rfl, zP.enter (z_subP (ws' := (zTr cI (h_T) (q_T) (T))) hP [0, 1, 2, 3, 4, 5] rfl) hK (hD.sub [0, 1, 2, 3, 4, 5] (by decide) rfl) hN⟩ rfl rfl hl.1 rfl (lv_room (Nat.le_of_ble_eq_true rfl)) dX4_meetsWindow_35 ⟨Nat.le_refl _, Nat.le_refl _⟩) hP hD hS hA [0, 1, 2, 3, 4, 5] [] [0, 1, 2, 3, 4, 5] rfl rfl (by decide) (fun _ => rfl) (fun u_21 H locs hP hD hS hz => ?_)
        refine lv_iload_n hx hb dX4_meetsWindow_38 rfl (lv_at hl 3 rfl) ?_
        obtain ⟨g_22, h⟩ := gd_e h
        obtain ⟨g_23, h⟩ := gd_e h
        refine z_icmp_lt (tgt := 46) hx hb g_22 g_23 dX4_meetsWindow_39 (by decide) (fun b_24 => ?_) (fun b_24 => ?_)
        · have h := it_p b_24 h
          refine lv_iconst (v := Int32.ofInt 0) hx hb dX4_meetsWindow_46 rfl ?_
          obtain rfl := Option.some.inj h
          exact z_zret hx hb hr hlk (by decide) (fun _ _ => 0) hP hD hS dX4_meetsWindow_47
        · have h := it_n b_24 h
          refine lv_iconst (v := Int32.ofInt 1) hx hb dX4_meetsWindow_42 rfl ?_
          refine lv_goto (tgt := 47) hx hb dX4_meetsWindow_43 (by decide) ?_
          obtain rfl := Option.some.inj h
          exact z_zret hx hb hr hlk (by decide) (fun _ _ => 0) hP hD hS dX4_meetsWindow_47
def f_Tr_liesInWindow (T : TV) (x1 : Int) (x2 : Int) (x3 : Int) (x4 : Int) (x5 : Int) : Option (Int) :=
  bd1 (f_Tr_corner T x1 0) <| fun r_1 => gd (ck r_1) <| gd (ck x2) <| if r_1 < x2 then (some (0)) else (bd1 (f_Tr_corner T x1 2) <| fun r_7 => gd (ck r_7) <| gd (ck x4) <| if x4 < r_7 then (some (0)) else (bd1 (f_Tr_corner T x1 1) <| fun r_13 => gd (ck r_13) <| gd (ck x3) <| if r_13 < x3 then (some (0)) else (bd1 (f_Tr_corner T x1 3) <| fun r_19 => gd (ck r_19) <| gd (ck x5) <| if x5 < r_19 then (some (0)) else (some (1)))))
abbrev rm_Tr_liesInWindow : Room := ({ frames := 1, cells := 0, slots := 0, locals := 23 } : Room)
set_option maxHeartbeats 4000000 in
set_option maxRecDepth 100000 in
theorem c_Tr_liesInWindow (l : Launch) (D : va_G) (cI cZ cT : ClassId) (h_T : Nat) (q_T : Nat → Nat) (T : TV) (x1 : Int) (x2 : Int) (x3 : Int) (x4 : Int) (x5 : Int) (sz : Nat) (res : Int) (h : f_Tr_liesInWindow T x1 x2 x3 x4 x5 = some res) : zMz l yX4_liesInWindow cX4_liesInWindow 6 rm_Tr_liesInWindow D (zt cI cZ cT) [.ref h_T, vI x1, vI x2, vI x3, vI x4, vI x5] ((zTr cI h_T q_T T)) sz (res) (fun u => (zTr cI h_T q_T T)) 0 0 := by
  refine z_enth (Qc := zQi D (res) (fun u => (zTr cI h_T q_T T))) (by decide) (Nat.le_of_ble_eq_true rfl) (fun p e s m args below meth c A ls H locs hF hP hD hS hl => ?_)
  have hx := hF.1.1
  have hb := hF.1.2.1
  have hml := hF.1.2.2.1
  have hown : s.vm.findClass "RectangleTree$Tree" = some m.cls := hF.1.2.2.2.1
  have hts := hF.1.2.2.2.2
  have hr := hF.2.1
  have hlk := hF.2.2.1
  have hK := hF.2.2.2.2.1
  have hN := hF.2.2.2.2.2.1
  have hA := hF.2.2.2.2.2.2
  unfold f_Tr_liesInWindow at h
  refine lv_aload_n hx hb dX4_liesInWindow_0 rfl (lv_at hl 0 rfl) ?_
  refine lv_iload_n hx hb dX4_liesInWindow_1 rfl (lv_at hl 1 rfl) ?_
  refine lv_iconst (v := Int32.ofInt 0) hx hb dX4_liesInWindow_2 rfl ?_
  obtain ⟨r_1, e_2, h⟩ := bd1_e h
  refine z_goi (ws' := []) (ret := r_1) (wc := (zTr cI (h_T) (q_T) (T))) (wn := fun u_3 => (zTr cI h_T q_T T)) (wr := []) (va_runV (As := [vI x1, vI 0]) (rest := []) hF.1 (c_Tr_corner l D cI cZ cT h_T q_T T x1 0 H.size (r_1) e_2) (cwV 2 hts (zgV wm387 wm318 wm319 wm33 wm320) rfl rfl rfl (by decide +kernel) ⟨Nat.le_of_ble_eq_true rfl, Nat.le_of_ble_eq_true rfl⟩) ⟨zP.blind, va_recv hK (z_subP (ws' := (zTr cI (h_T) (q_T) (T))) hP [0, 1, 2, 3, 4, 5] rfl) (ci := 4) (q0 := 0) rfl rfl, zP.enter (z_subP (ws' := (zTr cI (h_T) (q_T) (T))) hP [0, 1, 2, 3, 4, 5] rfl) hK (hD.sub [0, 1, 2, 3, 4, 5] (by decide) rfl) hN⟩ rfl rfl hl.1 rfl (lv_room (Nat.le_of_ble_eq_true rfl)) dX4_liesInWindow_3 ⟨Nat.le_refl _, Nat.le_refl _⟩) hP hD hS hA [0, 1, 2, 3, 4, 5] [] [0, 1, 2, 3, 4, 5] rfl rfl (by decide) (fun _ => rfl) (fun u_3 H locs hP hD hS hz => ?_)
  refine lv_iload_n hx hb dX4_liesInWindow_6 rfl (lv_at hl 2 rfl) ?_
  obtain ⟨g_4, h⟩ := gd_e h
  obtain ⟨g_5, h⟩ := gd_e h
  refine z_icmp_lt (tgt := 46) hx hb g_4 g_5 dX4_liesInWindow_7 (by decide) (fun b_6 => ?_) (fun b_6 => ?_)
  · have h := it_p b_6 h
    refine lv_iconst (v := Int32.ofInt 0) hx hb dX4_liesInWindow_46 rfl ?_
    obtain rfl := Option.some.inj h
    exact z_zret hx hb hr hlk (by decide) (fun _ _ => 0) hP hD hS dX4_liesInWindow_47
  · have h := it_n b_6 h
    refine lv_aload_n hx hb dX4_liesInWindow_10 rfl (lv_at hl 0 rfl) ?_
    refine lv_iload_n hx hb dX4_liesInWindow_11 rfl (lv_at hl 1 rfl) ?_
    refine lv_iconst (v := Int32.ofInt 2) hx hb dX4_liesInWindow_12 rfl ?_
    obtain ⟨r_7, e_8, h⟩ := bd1_e h
    refine z_goi (ws' := []) (ret := r_7) (wc := (zTr cI (h_T) (q_T) (T))) (wn := fun u_9 => (zTr cI h_T q_T T)) (wr := []) (va_runV (As := [vI x1, vI 2]) (rest := []) hF.1 (c_Tr_corner l D cI cZ cT h_T q_T T x1 2 H.size (r_7) e_8) (cwV 2 hts (zgV wm387 wm318 wm319 wm33 wm320) rfl rfl rfl (by decide +kernel) ⟨Nat.le_of_ble_eq_true rfl, Nat.le_of_ble_eq_true rfl⟩) ⟨zP.blind, va_recv hK (z_subP (ws' := (zTr cI (h_T) (q_T) (T))) hP [0, 1, 2, 3, 4, 5] rfl) (ci := 4) (q0 := 0) rfl rfl, zP.enter (z_subP (ws' := (zTr cI (h_T) (q_T) (T))) hP [0, 1, 2, 3, 4, 5] rfl) hK (hD.sub [0, 1, 2, 3, 4, 5] (by decide) rfl) hN⟩ rfl rfl hl.1 rfl (lv_room (Nat.le_of_ble_eq_true rfl)) dX4_liesInWindow_13 ⟨Nat.le_refl _, Nat.le_refl _⟩) hP hD hS hA [0, 1, 2, 3, 4, 5] [] [0, 1, 2, 3, 4, 5] rfl rfl (by decide) (fun _ => rfl) (fun u_9 H locs hP hD hS hz => ?_)
    refine lv_iload hx hb dX4_liesInWindow_16 (lv_at hl 4 rfl) ?_
    obtain ⟨g_10, h⟩ := gd_e h
    obtain ⟨g_11, h⟩ := gd_e h
    refine z_icmp_gt (tgt := 46) hx hb g_10 g_11 dX4_liesInWindow_18 (by decide) (fun b_12 => ?_) (fun b_12 => ?_)
    · have h := it_p b_12 h
      refine lv_iconst (v := Int32.ofInt 0) hx hb dX4_liesInWindow_46 rfl ?_
      obtain rfl := Option.some.inj h
      exact z_zret hx hb hr hlk (by decide) (fun _ _ => 0) hP hD hS dX4_liesInWindow_47
    · have h := it_n b_12 h
      refine lv_aload_n hx hb dX4_liesInWindow_21 rfl (lv_at hl 0 rfl) ?_
      refine lv_iload_n hx hb dX4_liesInWindow_22 rfl (lv_at hl 1 rfl) ?_
      refine lv_iconst (v := Int32.ofInt 1) hx hb dX4_liesInWindow_23 rfl ?_
      obtain ⟨r_13, e_14, h⟩ := bd1_e h
      refine z_goi (ws' := []) (ret := r_13) (wc := (zTr cI (h_T) (q_T) (T))) (wn := fun u_15 => (zTr cI h_T q_T T)) (wr := []) (va_runV (As := [vI x1, vI 1]) (rest := []) hF.1 (c_Tr_corner l D cI cZ cT h_T q_T T x1 1 H.size (r_13) e_14) (cwV 2 hts (zgV wm387 wm318 wm319 wm33 wm320) rfl rfl rfl (by decide +kernel) ⟨Nat.le_of_ble_eq_true rfl, Nat.le_of_ble_eq_true rfl⟩) ⟨zP.blind, va_recv hK (z_subP (ws' := (zTr cI (h_T) (q_T) (T))) hP [0, 1, 2, 3, 4, 5] rfl) (ci := 4) (q0 := 0) rfl rfl, zP.enter (z_subP (ws' := (zTr cI (h_T) (q_T) (T))) hP [0, 1, 2, 3, 4, 5] rfl) hK (hD.sub [0, 1, 2, 3, 4, 5] (by decide) rfl) hN⟩ rfl rfl hl.1 rfl (lv_room (Nat.le_of_ble_eq_true rfl)) dX4_liesInWindow_24 ⟨Nat.le_refl _, Nat.le_refl _⟩) hP hD hS hA [0, 1, 2, 3, 4, 5] [] [0, 1, 2, 3, 4, 5] rfl rfl (by decide) (fun _ => rfl) (fun u_15 H locs hP hD hS hz => ?_)
      refine lv_iload_n hx hb dX4_liesInWindow_27 rfl (lv_at hl 3 rfl) ?_
      obtain ⟨g_16, h⟩ := gd_e h
      obtain ⟨g_17, h⟩ := gd_e h
      refine z_icmp_lt (tgt := 46) hx hb g_16 g_17 dX4_liesInWindow_28 (by decide) (fun b_18 => ?_) (fun b_18 => ?_)
      · have h := it_p b_18 h
        refine lv_iconst (v := Int32.ofInt 0) hx hb dX4_liesInWindow_46 rfl ?_
        obtain rfl := Option.some.inj h
        exact z_zret hx hb hr hlk (by decide) (fun _ _ => 0) hP hD hS dX4_liesInWindow_47
      · have h := it_n b_18 h
        refine lv_aload_n hx hb dX4_liesInWindow_31 rfl (lv_at hl 0 rfl) ?_
        refine lv_iload_n hx hb dX4_liesInWindow_32 rfl (lv_at hl 1 rfl) ?_
        refine lv_iconst (v := Int32.ofInt 3) hx hb dX4_liesInWindow_33 rfl ?_
        obtain ⟨r_19, e_20, h⟩ := bd1_e h
        refine z_goi (ws' := []) (ret := r_19) (wc := (zTr cI (h_T) (q_T) (T))) (wn := fun u_21 => (zTr cI h_T q_T T)) (wr := []) (va_runV (As := [vI x1, vI 3]) (rest := []) hF.1 (c_Tr_corner l D cI cZ cT h_T q_T T x1 3 H.size (r_19) e_20) (cwV 2 hts (zgV wm387 wm318 wm319 wm33 wm320) rfl rfl rfl (by decide +kernel) ⟨Nat.le_of_ble_eq_true rfl, Nat.le_of_ble_eq_true rfl⟩) ⟨zP.blind, va_recv hK (z_subP (ws' := (zTr cI (h_T) (q_T) (T))) hP [0, 1, 2, 3, 4, 5] rfl) (ci := 4) (q0 := 0) rfl rfl, zP.enter (z_subP (ws' := (zTr cI (h_T) (q_T) (T))) hP [0, 1, 2, 3, 4, 5] rfl) hK (hD.sub [0, 1, 2, 3, 4, 5] (by decide) rfl) hN⟩ rfl rfl hl.1 rfl (lv_room (Nat.le_of_ble_eq_true rfl)) dX4_liesInWindow_34 ⟨Nat.le_refl _, Nat.le_refl _⟩) hP hD hS hA [0, 1, 2, 3, 4, 5] [] [0, 1, 2, 3, 4, 5] rfl rfl (by decide) (fun _ => rfl) (fun u_21 H locs hP hD hS hz => ?_)
        refine lv_iload hx hb dX4_liesInWindow_37 (lv_at hl 5 rfl) ?_
        obtain ⟨g_22, h⟩ := gd_e h
        obtain ⟨g_23, h⟩ := gd_e h
        refine z_icmp_gt (tgt := 46) hx hb g_22 g_23 dX4_liesInWindow_39 (by decide) (fun b_24 => ?_) (fun b_24 => ?_)
        · have h := it_p b_24 h
          refine lv_iconst (v := Int32.ofInt 0) hx hb dX4_liesInWindow_46 rfl ?_
          obtain rfl := Option.some.inj h
          exact z_zret hx hb hr hlk (by decide) (fun _ _ => 0) hP hD hS dX4_liesInWindow_47
        · have h := it_n b_24 h
          refine lv_iconst (v := Int32.ofInt 1) hx hb dX4_liesInWindow_42 rfl ?_
          refine lv_goto (tgt := 47) hx hb dX4_liesInWindow_43 (by decide) ?_
          obtain rfl := Option.some.inj h
          exact z_zret hx hb hr hlk (by decide) (fun _ _ => 0) hP hD hS dX4_liesInWindow_47
def f_Tr_squareDistance (T : TV) (x1 : Int) (x2 : Int) (x3 : Int) : Option (Int) :=
  bd1 (f_Tr_corner T x1 0) <| fun r_1 => bd1 (f_Tr_corner T x1 2) <| fun r_4 => gd (ck (r_1 - x2)) <| gd (ck (x2 - r_4)) <| bd1 (f_Tr_corner T x1 1) <| fun r_11 => bd1 (f_Tr_corner T x1 3) <| fun r_14 => gd (ck (r_11 - x3)) <| gd (ck (x3 - r_14)) <| some ((((max 0 (max (r_1 - x2) (x2 - r_4))) * (max 0 (max (r_1 - x2) (x2 - r_4)))) + ((max 0 (max (r_11 - x3) (x3 - r_14))) * (max 0 (max (r_11 - x3) (x3 - r_14))))))
abbrev rm_Tr_squareDistance : Room := ({ frames := 1, cells := 0, slots := 0, locals := 23 } : Room)
set_option maxHeartbeats 4000000 in
set_option maxRecDepth 100000 in
theorem c_Tr_squareDistance (l : Launch) (D : va_G) (cI cZ cT : ClassId) (h_T : Nat) (q_T : Nat → Nat) (T : TV) (x1 : Int) (x2 : Int) (x3 : Int) (sz : Nat) (res : Int) (h : f_Tr_squareDistance T x1 x2 x3 = some res) : zMi l yX4_squareDistance cX4_squareDistance 6 rm_Tr_squareDistance D (zt cI cZ cT) [.ref h_T, vI x1, vI x2, vI x3] ((zTr cI h_T q_T T)) sz (res) (fun u => (zTr cI h_T q_T T)) 0 0 := by
  refine z_enth (Qc := zQi D (res) (fun u => (zTr cI h_T q_T T))) (by decide) (Nat.le_of_ble_eq_true rfl) (fun p e s m args below meth c A ls H locs hF hP hD hS hl => ?_)
  have hx := hF.1.1
  have hb := hF.1.2.1
  have hml := hF.1.2.2.1
  have hown : s.vm.findClass "RectangleTree$Tree" = some m.cls := hF.1.2.2.2.1
  have hts := hF.1.2.2.2.2
  have hr := hF.2.1
  have hlk := hF.2.2.1
  have hK := hF.2.2.2.2.1
  have hN := hF.2.2.2.2.2.1
  have hA := hF.2.2.2.2.2.2
  unfold f_Tr_squareDistance at h
  refine lv_iconst (v := Int32.ofInt 0) hx hb dX4_squareDistance_0 rfl ?_
  refine lv_aload_n hx hb dX4_squareDistance_1 rfl (lv_at hl 0 rfl) ?_
  refine lv_iload_n hx hb dX4_squareDistance_2 rfl (lv_at hl 1 rfl) ?_
  refine lv_iconst (v := Int32.ofInt 0) hx hb dX4_squareDistance_3 rfl ?_
  obtain ⟨r_1, e_2, h⟩ := bd1_e h
  refine z_goi (ws' := []) (ret := r_1) (wc := (zTr cI (h_T) (q_T) (T))) (wn := fun u_3 => (zTr cI h_T q_T T)) (wr := []) (va_runV (As := [vI x1, vI 0]) (rest := [vI 0]) hF.1 (c_Tr_corner l D cI cZ cT h_T q_T T x1 0 H.size (r_1) e_2) (cwV 2 hts (zgV wm387 wm318 wm319 wm33 wm320) rfl rfl rfl (by decide +kernel) ⟨Nat.le_of_ble_eq_true rfl, Nat.le_of_ble_eq_true rfl⟩) ⟨zP.blind, va_recv hK (z_subP (ws' := (zTr cI (h_T) (q_T) (T))) hP [0, 1, 2, 3, 4, 5] rfl) (ci := 4) (q0 := 0) rfl rfl, zP.enter (z_subP (ws' := (zTr cI (h_T) (q_T) (T))) hP [0, 1, 2, 3, 4, 5] rfl) hK (hD.sub [0, 1, 2, 3, 4, 5] (by decide) rfl) hN⟩ rfl rfl hl.1 rfl (lv_room (Nat.le_of_ble_eq_true rfl)) dX4_squareDistance_4 ⟨Nat.le_refl _, Nat.le_refl _⟩) hP hD hS hA [0, 1, 2, 3, 4, 5] [] [0, 1, 2, 3, 4, 5] rfl rfl (by decide) (fun _ => rfl) (fun u_3 H locs hP hD hS hz => ?_)
  refine lv_iload_n hx hb dX4_squareDistance_7 rfl (lv_at hl 2 rfl) ?_
  refine z_isub hx hb dX4_squareDistance_8 ?_
  refine lv_iload_n hx hb dX4_squareDistance_9 rfl (lv_at hl 2 rfl) ?_
  refine lv_aload_n hx hb dX4_squareDistance_10 rfl (lv_at hl 0 rfl) ?_
  refine lv_iload_n hx hb dX4_squareDistance_11 rfl (lv_at hl 1 rfl) ?_
  refine lv_iconst (v := Int32.ofInt 2) hx hb dX4_squareDistance_12 rfl ?_
  obtain ⟨r_4, e_5, h⟩ := bd1_e h
  refine z_goi (ws' := []) (ret := r_4) (wc := (zTr cI (h_T) (q_T) (T))) (wn := fun u_6 => (zTr cI h_T q_T T)) (wr := []) (va_runV (As := [vI x1, vI 2]) (rest := [vI x2, vI (r_1 - x2), vI 0]) hF.1 (c_Tr_corner l D cI cZ cT h_T q_T T x1 2 H.size (r_4) e_5) (cwV 2 hts (zgV wm387 wm318 wm319 wm33 wm320) rfl rfl rfl (by decide +kernel) ⟨Nat.le_of_ble_eq_true rfl, Nat.le_of_ble_eq_true rfl⟩) ⟨zP.blind, va_recv hK (z_subP (ws' := (zTr cI (h_T) (q_T) (T))) hP [0, 1, 2, 3, 4, 5] rfl) (ci := 4) (q0 := 0) rfl rfl, zP.enter (z_subP (ws' := (zTr cI (h_T) (q_T) (T))) hP [0, 1, 2, 3, 4, 5] rfl) hK (hD.sub [0, 1, 2, 3, 4, 5] (by decide) rfl) hN⟩ rfl rfl hl.1 rfl (lv_room (Nat.le_of_ble_eq_true rfl)) dX4_squareDistance_13 ⟨Nat.le_refl _, Nat.le_refl _⟩) hP hD hS hA [0, 1, 2, 3, 4, 5] [] [0, 1, 2, 3, 4, 5] rfl rfl (by decide) (fun _ => rfl) (fun u_6 H locs hP hD hS hz => ?_)
  refine z_isub hx hb dX4_squareDistance_16 ?_
  obtain ⟨g_7, h⟩ := gd_e h
  obtain ⟨g_8, h⟩ := gd_e h
  refine z_mmax (rest := [vI 0]) hx hb (by rw [hml]; exact hl.1.symm) hown (hts _ wm403) (hts _ wm404) (hts _ wm40) (hts _ wm405) (Nat.le_of_ble_eq_true rfl) (Nat.le_of_ble_eq_true rfl) (Nat.le_refl _) (Nat.le_refl _) g_7 g_8 dX4_squareDistance_17 ?_
  have g_9 : ck (max (r_1 - x2) (x2 - r_4)) := ⟨by have := And.intro (show ck (r_1 - x2) from g_7) (show ck (x2 - r_4) from g_8); omega, by have := And.intro (show ck (r_1 - x2) from g_7) (show ck (x2 - r_4) from g_8); omega⟩
  refine z_mmax (rest := []) hx hb (by rw [hml]; exact hl.1.symm) hown (hts _ wm403) (hts _ wm404) (hts _ wm40) (hts _ wm405) (Nat.le_of_ble_eq_true rfl) (Nat.le_of_ble_eq_true rfl) (Nat.le_refl _) (Nat.le_refl _) (by decide) g_9 dX4_squareDistance_20 ?_
  have g_10 : ck (max 0 (max (r_1 - x2) (x2 - r_4))) := ⟨by have := And.intro (show ck 0 from (by decide)) (show ck (max (r_1 - x2) (x2 - r_4)) from g_9); omega, by have := And.intro (show ck 0 from (by decide)) (show ck (max (r_1 - x2) (x2 - r_4)) from g_9); omega⟩
  refine lv_istore (lv' := [(4, vI (max 0 (max (r_1 - x2) (x2 - r_4)))), (0, .ref h_T), (1, vI x1), (2, vI x2), (3, vI x3)]) hx hb dX4_squareDistance_23 hl (by decide) rfl (fun ls hl => ?_)
  refine lv_iconst (v := Int32.ofInt 0) hx hb dX4_squareDistance_25 rfl ?_
  refine lv_aload_n hx hb dX4_squareDistance_26 rfl (lv_at hl 1 rfl) ?_
  refine lv_iload_n hx hb dX4_squareDistance_27 rfl (lv_at hl 2 rfl) ?_
  refine lv_iconst (v := Int32.ofInt 1) hx hb dX4_squareDistance_28 rfl ?_
  obtain ⟨r_11, e_12, h⟩ := bd1_e h
  refine z_goi (ws' := []) (ret := r_11) (wc := (zTr cI (h_T) (q_T) (T))) (wn := fun u_13 => (zTr cI h_T q_T T)) (wr := []) (va_runV (As := [vI x1, vI 1]) (rest := [vI 0]) hF.1 (c_Tr_corner l D cI cZ cT h_T q_T T x1 1 H.size (r_11) e_12) (cwV 2 hts (zgV wm387 wm318 wm319 wm33 wm320) rfl rfl rfl (by decide +kernel) ⟨Nat.le_of_ble_eq_true rfl, Nat.le_of_ble_eq_true rfl⟩) ⟨zP.blind, va_recv hK (z_subP (ws' := (zTr cI (h_T) (q_T) (T))) hP [0, 1, 2, 3, 4, 5] rfl) (ci := 4) (q0 := 0) rfl rfl, zP.enter (z_subP (ws' := (zTr cI (h_T) (q_T) (T))) hP [0, 1, 2, 3, 4, 5] rfl) hK (hD.sub [0, 1, 2, 3, 4, 5] (by decide) rfl) hN⟩ rfl rfl hl.1 rfl (lv_room (Nat.le_of_ble_eq_true rfl)) dX4_squareDistance_29 ⟨Nat.le_refl _, Nat.le_refl _⟩) hP hD hS hA [0, 1, 2, 3, 4, 5] [] [0, 1, 2, 3, 4, 5] rfl rfl (by decide) (fun _ => rfl) (fun u_13 H locs hP hD hS hz => ?_)
  refine lv_iload_n hx hb dX4_squareDistance_32 rfl (lv_at hl 4 rfl) ?_
  refine z_isub hx hb dX4_squareDistance_33 ?_
  refine lv_iload_n hx hb dX4_squareDistance_34 rfl (lv_at hl 4 rfl) ?_
  refine lv_aload_n hx hb dX4_squareDistance_35 rfl (lv_at hl 1 rfl) ?_
  refine lv_iload_n hx hb dX4_squareDistance_36 rfl (lv_at hl 2 rfl) ?_
  refine lv_iconst (v := Int32.ofInt 3) hx hb dX4_squareDistance_37 rfl ?_
  obtain ⟨r_14, e_15, h⟩ := bd1_e h
  refine z_goi (ws' := []) (ret := r_14) (wc := (zTr cI (h_T) (q_T) (T))) (wn := fun u_16 => (zTr cI h_T q_T T)) (wr := []) (va_runV (As := [vI x1, vI 3]) (rest := [vI x3, vI (r_11 - x3), vI 0]) hF.1 (c_Tr_corner l D cI cZ cT h_T q_T T x1 3 H.size (r_14) e_15) (cwV 2 hts (zgV wm387 wm318 wm319 wm33 wm320) rfl rfl rfl (by decide +kernel) ⟨Nat.le_of_ble_eq_true rfl, Nat.le_of_ble_eq_true rfl⟩) ⟨zP.blind, va_recv hK (z_subP (ws' := (zTr cI (h_T) (q_T) (T))) hP [0, 1, 2, 3, 4, 5] rfl) (ci := 4) (q0 := 0) rfl rfl, zP.enter (z_subP (ws' := (zTr cI (h_T) (q_T) (T))) hP [0, 1, 2, 3, 4, 5] rfl) hK (hD.sub [0, 1, 2, 3, 4, 5] (by decide) rfl) hN⟩ rfl rfl hl.1 rfl (lv_room (Nat.le_of_ble_eq_true rfl)) dX4_squareDistance_38 ⟨Nat.le_refl _, Nat.le_refl _⟩) hP hD hS hA [0, 1, 2, 3, 4, 5] [] [0, 1, 2, 3, 4, 5] rfl rfl (by decide) (fun _ => rfl) (fun u_16 H locs hP hD hS hz => ?_)
  refine z_isub hx hb dX4_squareDistance_41 ?_
  obtain ⟨g_17, h⟩ := gd_e h
  obtain ⟨g_18, h⟩ := gd_e h
  refine z_mmax (rest := [vI 0]) hx hb (by rw [hml]; exact hl.1.symm) hown (hts _ wm403) (hts _ wm404) (hts _ wm40) (hts _ wm405) (Nat.le_of_ble_eq_true rfl) (Nat.le_of_ble_eq_true rfl) (Nat.le_refl _) (Nat.le_refl _) g_17 g_18 dX4_squareDistance_42 ?_
  have g_19 : ck (max (r_11 - x3) (x3 - r_14)) := ⟨by have := And.intro (show ck (r_11 - x3) from g_17) (show ck (x3 - r_14) from g_18); omega, by have := And.intro (show ck (r_11 - x3) from g_17) (show ck (x3 - r_14) from g_18); omega⟩
  refine z_mmax (rest := []) hx hb (by rw [hml]; exact hl.1.symm) hown (hts _ wm403) (hts _ wm404) (hts _ wm40) (hts _ wm405) (Nat.le_of_ble_eq_true rfl) (Nat.le_of_ble_eq_true rfl) (Nat.le_refl _) (Nat.le_refl _) (by decide) g_19 dX4_squareDistance_45 ?_
  have g_20 : ck (max 0 (max (r_11 - x3) (x3 - r_14))) := ⟨by have := And.intro (show ck 0 from (by decide)) (show ck (max (r_11 - x3) (x3 - r_14)) from g_19); omega, by have := And.intro (show ck 0 from (by decide)) (show ck (max (r_11 - x3) (x3 - r_14)) from g_19); omega⟩
  refine lv_istore (lv' := [(5, vI (max 0 (max (r_11 - x3) (x3 - r_14)))), (4, vI (max 0 (max (r_1 - x2) (x2 - r_4)))), (0, .ref h_T), (1, vI x1), (2, vI x2), (3, vI x3)]) hx hb dX4_squareDistance_48 hl (by decide) rfl (fun ls hl => ?_)
  refine lv_iload hx hb dX4_squareDistance_50 (lv_at hl 1 rfl) ?_
  refine lv_iload hx hb dX4_squareDistance_52 (lv_at hl 1 rfl) ?_
  refine z_imul hx hb dX4_squareDistance_54 ?_
  refine lv_iload hx hb dX4_squareDistance_55 (lv_at hl 0 rfl) ?_
  refine lv_iload hx hb dX4_squareDistance_57 (lv_at hl 0 rfl) ?_
  refine z_imul hx hb dX4_squareDistance_59 ?_
  refine z_iadd hx hb dX4_squareDistance_60 ?_
  obtain rfl := Option.some.inj h
  exact z_iret hx hb hr hlk (fun _ _ => 0) hP hD hS dX4_squareDistance_61
def f_Tr_firstFree_L2 (T : TV) (x2 : Int) (k : Int → Option (Int)) : Nat → Int → Option (Int)
  | 0, _ => none
  | n + 1, x3 =>
  gd (ck x3) <| gd (ck x2) <| if x3 < x2 then (bd1 (f_Tr_levelOf T x3) <| fun r_4 => gd (ck r_4) <| if r_4 = (-2) then (some (x3)) else (f_Tr_firstFree_L2 T x2 k n ((x3 + 1)))) else (k (x3))
def f_Tr_firstFree (T : TV) (x1 : Int) (x2 : Int) : Option (Int) :=
  f_Tr_firstFree_L2 (T) (x2) (fun x3_9 => some ((-1))) FU (x1)
abbrev rm_Tr_firstFree : Room := ({ frames := 1, cells := 0, slots := 0, locals := 21 } : Room)
set_option maxHeartbeats 4000000 in
set_option maxRecDepth 100000 in
theorem w_Tr_firstFree_L2 {p : Program} {l : Launch} {e : Env} {s : State} {m : MethodId} {args : Array Value} {below : List Frame} {meth : Method} {c : Code} {A : Nat → Prop} (D : va_G) (cI cZ cT : ClassId) (h_T : Nat) (q_T : Nat → Nat) (T : TV) (x2 : Int) (res : Int) (k : Int → Option (Int)) (hF : zF p m c cX4_firstFree 4 s args yX4_firstFree.cls meth (some .int) yX4_firstFree.name A D (zt cI cZ cT))
    (hk : ∀ (x3 : Int) (H : Heap) (locs : List Loc) (ls : Array Slot), k x3 = some res → va_P D vwCl ((zTr cI h_T q_T T)) H → va_D A ((zTr cI h_T q_T T)) → va_S A s.heap H locs → lv_has ls 4 [] → W p l e rm_Tr_firstFree s m args below meth c H locs 0 0 (MQ below (zQi D (res) (fun u => (zTr cI h_T q_T T)) A) args s 0 0 A) (F0 m 25 ls [])) :
    ∀ (n : Nat) (x3 : Int) (H : Heap) (locs : List Loc) (ls : Array Slot), f_Tr_firstFree_L2 T x2 k n x3 = some res → va_P D vwCl ((zTr cI h_T q_T T)) H → va_D A ((zTr cI h_T q_T T)) → va_S A s.heap H locs → lv_has ls 4 [(0, .ref h_T), (2, vI x2), (3, vI x3)] → W p l e rm_Tr_firstFree s m args below meth c H locs 0 0 (MQ below (zQi D (res) (fun u => (zTr cI h_T q_T T)) A) args s 0 0 A) (F0 m 2 ls []) := by
  have hx := hF.1.1
  have hb := hF.1.2.1
  have hml := hF.1.2.2.1
  have hown : s.vm.findClass "RectangleTree$Tree" = some m.cls := hF.1.2.2.2.1
  have hts := hF.1.2.2.2.2
  have hr := hF.2.1
  have hlk := hF.2.2.1
  have hK := hF.2.2.2.2.1
  have hN := hF.2.2.2.2.2.1
  have hA := hF.2.2.2.2.2.2
  intro n
  induction n with
  | zero => intro x3 H locs ls h; cases h
  | succ n ih =>
    intro x3 H locs ls h hP hD hS hl
    rw [f_Tr_firstFree_L2] at h
    refine lv_iload_n hx hb dX4_firstFree_2 rfl (lv_at hl 2 rfl) ?_
    refine lv_iload_n hx hb dX4_firstFree_3 rfl (lv_at hl 1 rfl) ?_
    obtain ⟨g_1, h⟩ := gd_e h
    obtain ⟨g_2, h⟩ := gd_e h
    refine z_icmp_ge (tgt := 25) hx hb g_1 g_2 dX4_firstFree_4 (by decide) (fun b_3 => ?_) (fun b_3 => ?_)
    · have h := it_n b_3 h
      exact hk (x3) H locs ls h hP hD hS (lv_sub hl [] rfl)
    · have h := it_p b_3 h
      refine lv_aload_n hx hb dX4_firstFree_7 rfl (lv_at hl 0 rfl) ?_
      refine lv_iload_n hx hb dX4_firstFree_8 rfl (lv_at hl 2 rfl) ?_
      obtain ⟨r_4, e_5, h⟩ := bd1_e h
      refine z_goi (ws' := []) (ret := r_4) (wc := (zTr cI (h_T) (q_T) (T))) (wn := fun u_6 => (zTr cI h_T q_T T)) (wr := []) (va_runV (As := [vI x3]) (rest := []) hF.1 (c_Tr_levelOf l D cI cZ cT h_T q_T T x3 H.size (r_4) e_5) (cwV 1 hts (zgV wm347 wm301 wm302 wm33 wm303) rfl rfl rfl (by decide +kernel) ⟨Nat.le_of_ble_eq_true rfl, Nat.le_of_ble_eq_true rfl⟩) ⟨zP.blind, va_recv hK (z_subP (ws' := (zTr cI (h_T) (q_T) (T))) hP [0, 1, 2, 3, 4, 5] rfl) (ci := 4) (q0 := 0) rfl rfl, zP.enter (z_subP (ws' := (zTr cI (h_T) (q_T) (T))) hP [0, 1, 2, 3, 4, 5] rfl) hK (hD.sub [0, 1, 2, 3, 4, 5] (by decide) rfl) hN⟩ rfl rfl hl.1 rfl (lv_room (Nat.le_of_ble_eq_true rfl)) dX4_firstFree_9 ⟨Nat.le_refl _, Nat.le_refl _⟩) hP hD hS hA [0, 1, 2, 3, 4, 5] [] [0, 1, 2, 3, 4, 5] rfl rfl (by decide) (fun _ => rfl) (fun u_6 H locs hP hD hS hz => ?_)
      refine lv_bipush (v := Int32.ofInt (-2)) hx hb dX4_firstFree_12 (by decide +kernel) ?_
      obtain ⟨g_7, h⟩ := gd_e h
      refine z_icmp_ne (tgt := 19) hx hb g_7 (by decide) dX4_firstFree_14 (by decide) (fun b_8 => ?_) (fun b_8 => ?_)
      · have h := it_n b_8 h
        refine lv_iinc (v := Int32.ofInt (x3 + 1)) (lv' := [(3, vI (x3 + 1)), (0, .ref h_T), (2, vI x2)]) hx hb dX4_firstFree_19 hl (k := 2) rfl (z_inc _ _) (by decide) rfl (fun ls hl => ?_)
        refine lv_goto (tgt := 2) hx hb dX4_firstFree_22 (by decide) ?_
        exact ih ((x3 + 1)) H locs ls h hP hD hS (lv_sub hl [1, 2, 0] rfl)
      · have h := it_p b_8 h
        refine lv_iload_n hx hb dX4_firstFree_17 rfl (lv_at hl 2 rfl) ?_
        obtain rfl := Option.some.inj h
        exact z_iret hx hb hr hlk (fun _ _ => 0) hP hD hS dX4_firstFree_18
set_option maxHeartbeats 4000000 in
set_option maxRecDepth 100000 in
theorem c_Tr_firstFree (l : Launch) (D : va_G) (cI cZ cT : ClassId) (h_T : Nat) (q_T : Nat → Nat) (T : TV) (x1 : Int) (x2 : Int) (sz : Nat) (res : Int) (h : f_Tr_firstFree T x1 x2 = some res) : zMi l yX4_firstFree cX4_firstFree 4 rm_Tr_firstFree D (zt cI cZ cT) [.ref h_T, vI x1, vI x2] ((zTr cI h_T q_T T)) sz (res) (fun u => (zTr cI h_T q_T T)) 0 0 := by
  refine z_enth (Qc := zQi D (res) (fun u => (zTr cI h_T q_T T))) (by decide) (Nat.le_of_ble_eq_true rfl) (fun p e s m args below meth c A ls H locs hF hP hD hS hl => ?_)
  have hx := hF.1.1
  have hb := hF.1.2.1
  have hml := hF.1.2.2.1
  have hown : s.vm.findClass "RectangleTree$Tree" = some m.cls := hF.1.2.2.2.1
  have hts := hF.1.2.2.2.2
  have hr := hF.2.1
  have hlk := hF.2.2.1
  have hK := hF.2.2.2.2.1
  have hN := hF.2.2.2.2.2.1
  have hA := hF.2.2.2.2.2.2
  unfold f_Tr_firstFree at h
  refine lv_iload_n hx hb dX4_firstFree_0 rfl (lv_at hl 1 rfl) ?_
  refine lv_istore_n (lv' := [(3, vI x1), (0, .ref h_T), (1, vI x1), (2, vI x2)]) hx hb dX4_firstFree_1 rfl hl (by decide) rfl (fun ls hl => ?_)
  refine w_Tr_firstFree_L2 D cI cZ cT (h_T) (q_T) (T) (x2) _ _ hF (fun x3_9 H locs ls h hP hD hS hl => ?_) _ (x1) _ _ _ h hP hD hS (lv_sub hl [1, 3, 0] rfl)
  refine lv_iconst (v := Int32.ofInt (-1)) hx hb dX4_firstFree_25 rfl ?_
  obtain rfl := Option.some.inj h
  exact z_iret hx hb hr hlk (fun _ _ => 0) hP hD hS dX4_firstFree_26
def f_Tr_placeOf_L9 (T : TV) (x1 : Int) (x2 : Int) (x3 : Int) (k : Int → Option (Int)) : Nat → Int → Option (Int)
  | 0, _ => none
  | n + 1, x4 =>
  gd (ck x4) <| gd (ck x3) <| if x4 < x3 then (bd1 (f_Tr_entryAt T x1 x4) <| fun r_7 => gd (ck r_7) <| gd (ck x2) <| if r_7 = x2 then (some (x4)) else (f_Tr_placeOf_L9 T x1 x2 x3 k n ((x4 + 1)))) else (k (x4))
def f_Tr_placeOf (T : TV) (x1 : Int) (x2 : Int) : Option (Int) :=
  bd1 (f_Tr_sizeOf T x1) <| fun r_1 => f_Tr_placeOf_L9 (T) (x1) (x2) (r_1) (fun x4_13 => some ((-1))) FU (0)
abbrev rm_Tr_placeOf : Room := ({ frames := 2, cells := 0, slots := 0, locals := 43 } : Room)
set_option maxHeartbeats 4000000 in
set_option maxRecDepth 100000 in
theorem w_Tr_placeOf_L9 {p : Program} {l : Launch} {e : Env} {s : State} {m : MethodId} {args : Array Value} {below : List Frame} {meth : Method} {c : Code} {A : Nat → Prop} (D : va_G) (cI cZ cT : ClassId) (h_T : Nat) (q_T : Nat → Nat) (T : TV) (x1 : Int) (x2 : Int) (x3 : Int) (res : Int) (k : Int → Option (Int)) (hF : zF p m c cX4_placeOf 5 s args yX4_placeOf.cls meth (some .int) yX4_placeOf.name A D (zt cI cZ cT))
    (hk : ∀ (x4 : Int) (H : Heap) (locs : List Loc) (ls : Array Slot), k x4 = some res → va_P D vwCl ((zTr cI h_T q_T T)) H → va_D A ((zTr cI h_T q_T T)) → va_S A s.heap H locs → lv_has ls 5 [] → W p l e rm_Tr_placeOf s m args below meth c H locs 0 0 (MQ below (zQi D (res) (fun u => (zTr cI h_T q_T T)) A) args s 0 0 A) (F0 m 35 ls [])) :
    ∀ (n : Nat) (x4 : Int) (H : Heap) (locs : List Loc) (ls : Array Slot), f_Tr_placeOf_L9 T x1 x2 x3 k n x4 = some res → va_P D vwCl ((zTr cI h_T q_T T)) H → va_D A ((zTr cI h_T q_T T)) → va_S A s.heap H locs → lv_has ls 5 [(0, .ref h_T), (1, vI x1), (2, vI x2), (3, vI x3), (4, vI x4)] → W p l e rm_Tr_placeOf s m args below meth c H locs 0 0 (MQ below (zQi D (res) (fun u => (zTr cI h_T q_T T)) A) args s 0 0 A) (F0 m 9 ls []) := by
  have hx := hF.1.1
  have hb := hF.1.2.1
  have hml := hF.1.2.2.1
  have hown : s.vm.findClass "RectangleTree$Tree" = some m.cls := hF.1.2.2.2.1
  have hts := hF.1.2.2.2.2
  have hr := hF.2.1
  have hlk := hF.2.2.1
  have hK := hF.2.2.2.2.1
  have hN := hF.2.2.2.2.2.1
  have hA := hF.2.2.2.2.2.2
  intro n
  induction n with
  | zero => intro x4 H locs ls h; cases h
  | succ n ih =>
    intro x4 H locs ls h hP hD hS hl
    rw [f_Tr_placeOf_L9] at h
    refine lv_iload hx hb dX4_placeOf_9 (lv_at hl 4 rfl) ?_
    refine lv_iload_n hx hb dX4_placeOf_11 rfl (lv_at hl 3 rfl) ?_
    obtain ⟨g_4, h⟩ := gd_e h
    obtain ⟨g_5, h⟩ := gd_e h
    refine z_icmp_ge (tgt := 35) hx hb g_4 g_5 dX4_placeOf_12 (by decide) (fun b_6 => ?_) (fun b_6 => ?_)
    · have h := it_n b_6 h
      exact hk (x4) H locs ls h hP hD hS (lv_sub hl [] rfl)
    · have h := it_p b_6 h
      refine lv_aload_n hx hb dX4_placeOf_15 rfl (lv_at hl 0 rfl) ?_
      refine lv_iload_n hx hb dX4_placeOf_16 rfl (lv_at hl 1 rfl) ?_
      refine lv_iload hx hb dX4_placeOf_17 (lv_at hl 4 rfl) ?_
      obtain ⟨r_7, e_8, h⟩ := bd1_e h
      refine z_goi (ws' := []) (ret := r_7) (wc := (zTr cI (h_T) (q_T) (T))) (wn := fun u_9 => (zTr cI h_T q_T T)) (wr := []) (va_runV (As := [vI x1, vI x4]) (rest := []) hF.1 (c_Tr_entryAt l D cI cZ cT h_T q_T T x1 x4 H.size (r_7) e_8) (cwV 2 hts (zgV wm559 wm235 wm236 wm33 wm237) rfl rfl rfl (by decide +kernel) ⟨Nat.le_of_ble_eq_true rfl, Nat.le_of_ble_eq_true rfl⟩) ⟨zP.blind, va_recv hK (z_subP (ws' := (zTr cI (h_T) (q_T) (T))) hP [0, 1, 2, 3, 4, 5] rfl) (ci := 4) (q0 := 0) rfl rfl, zP.enter (z_subP (ws' := (zTr cI (h_T) (q_T) (T))) hP [0, 1, 2, 3, 4, 5] rfl) hK (hD.sub [0, 1, 2, 3, 4, 5] (by decide) rfl) hN⟩ rfl rfl hl.1 rfl (lv_room (Nat.le_of_ble_eq_true rfl)) dX4_placeOf_19 ⟨Nat.le_refl _, Nat.le_refl _⟩) hP hD hS hA [0, 1, 2, 3, 4, 5] [] [0, 1, 2, 3, 4, 5] rfl rfl (by decide) (fun _ => rfl) (fun u_9 H locs hP hD hS hz => ?_)
      refine lv_iload_n hx hb dX4_placeOf_22 rfl (lv_at hl 2 rfl) ?_
      obtain ⟨g_10, h⟩ := gd_e h
      obtain ⟨g_11, h⟩ := gd_e h
      refine z_icmp_ne (tgt := 29) hx hb g_10 g_11 dX4_placeOf_23 (by decide) (fun b_12 => ?_) (fun b_12 => ?_)
      · have h := it_n b_12 h
        refine lv_iinc (v := Int32.ofInt (x4 + 1)) (lv' := [(4, vI (x4 + 1)), (0, .ref h_T), (1, vI x1), (2, vI x2), (3, vI x3)]) hx hb dX4_placeOf_29 hl (k := 4) rfl (z_inc _ _) (by decide) rfl (fun ls hl => ?_)
        refine lv_goto (tgt := 9) hx hb dX4_placeOf_32 (by decide) ?_
        exact ih ((x4 + 1)) H locs ls h hP hD hS (lv_sub hl [1, 2, 3, 4, 0] rfl)
      · have h := it_p b_12 h
        refine lv_iload hx hb dX4_placeOf_26 (lv_at hl 4 rfl) ?_
        obtain rfl := Option.some.inj h
        exact z_iret hx hb hr hlk (fun _ _ => 0) hP hD hS dX4_placeOf_28
set_option maxHeartbeats 4000000 in
set_option maxRecDepth 100000 in
theorem c_Tr_placeOf (l : Launch) (D : va_G) (cI cZ cT : ClassId) (h_T : Nat) (q_T : Nat → Nat) (T : TV) (x1 : Int) (x2 : Int) (sz : Nat) (res : Int) (h : f_Tr_placeOf T x1 x2 = some res) : zMi l yX4_placeOf cX4_placeOf 5 rm_Tr_placeOf D (zt cI cZ cT) [.ref h_T, vI x1, vI x2] ((zTr cI h_T q_T T)) sz (res) (fun u => (zTr cI h_T q_T T)) 0 0 := by
  refine z_enth (Qc := zQi D (res) (fun u => (zTr cI h_T q_T T))) (by decide) (Nat.le_of_ble_eq_true rfl) (fun p e s m args below meth c A ls H locs hF hP hD hS hl => ?_)
  have hx := hF.1.1
  have hb := hF.1.2.1
  have hml := hF.1.2.2.1
  have hown : s.vm.findClass "RectangleTree$Tree" = some m.cls := hF.1.2.2.2.1
  have hts := hF.1.2.2.2.2
  have hr := hF.2.1
  have hlk := hF.2.2.1
  have hK := hF.2.2.2.2.1
  have hN := hF.2.2.2.2.2.1
  have hA := hF.2.2.2.2.2.2
  unfold f_Tr_placeOf at h
  refine lv_aload_n hx hb dX4_placeOf_0 rfl (lv_at hl 0 rfl) ?_
  refine lv_iload_n hx hb dX4_placeOf_1 rfl (lv_at hl 1 rfl) ?_
  obtain ⟨r_1, e_2, h⟩ := bd1_e h
  refine z_goi (ws' := []) (ret := r_1) (wc := (zTr cI (h_T) (q_T) (T))) (wn := fun u_3 => (zTr cI h_T q_T T)) (wr := []) (va_runV (As := [vI x1]) (rest := []) hF.1 (c_Tr_sizeOf l D cI cZ cT h_T q_T T x1 H.size (r_1) e_2) (cwV 1 hts (zgV wm238 wm231 wm232 wm33 wm233) rfl rfl rfl (by decide +kernel) ⟨Nat.le_of_ble_eq_true rfl, Nat.le_of_ble_eq_true rfl⟩) ⟨zP.blind, va_recv hK (z_subP (ws' := (zTr cI (h_T) (q_T) (T))) hP [0, 1, 2, 3, 4, 5] rfl) (ci := 4) (q0 := 0) rfl rfl, zP.enter (z_subP (ws' := (zTr cI (h_T) (q_T) (T))) hP [0, 1, 2, 3, 4, 5] rfl) hK (hD.sub [0, 1, 2, 3, 4, 5] (by decide) rfl) hN⟩ rfl rfl hl.1 rfl (lv_room (Nat.le_of_ble_eq_true rfl)) dX4_placeOf_2 ⟨Nat.le_refl _, Nat.le_refl _⟩) hP hD hS hA [0, 1, 2, 3, 4, 5] [] [0, 1, 2, 3, 4, 5] rfl rfl (by decide) (fun _ => rfl) (fun u_3 H locs hP hD hS hz => ?_)
  refine lv_istore_n (lv' := [(3, vI r_1), (0, .ref h_T), (1, vI x1), (2, vI x2)]) hx hb dX4_placeOf_5 rfl hl (by decide) rfl (fun ls hl => ?_)
  refine lv_iconst (v := Int32.ofInt 0) hx hb dX4_placeOf_6 rfl ?_
  refine lv_istore (lv' := [(4, vI 0), (3, vI r_1), (0, .ref h_T), (1, vI x1), (2, vI x2)]) hx hb dX4_placeOf_7 hl (by decide) rfl (fun ls hl => ?_)
  refine w_Tr_placeOf_L9 D cI cZ cT (h_T) (q_T) (T) (x1) (x2) (r_1) _ _ hF (fun x4_13 H locs ls h hP hD hS hl => ?_) _ (0) _ _ _ h hP hD hS (lv_sub hl [2, 3, 4, 1, 0] rfl)
  refine lv_iconst (v := Int32.ofInt (-1)) hx hb dX4_placeOf_35 rfl ?_
  obtain rfl := Option.some.inj h
  exact z_iret hx hb hr hlk (fun _ _ => 0) hP hD hS dX4_placeOf_36
