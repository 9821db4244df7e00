def f_Rt_at (n_A0 : Nat) (fA0 : Nat → Int) (x1 : Int) : Option (Int) :=
  gd (ck x1) <| if x1 < 0 then (some ((-1))) else (gd (ck ((n_A0 : Nat) : Int)) <| if x1 < ((n_A0 : Nat) : Int) then (gd (0 ≤ x1 ∧ x1 < ((n_A0 : Nat) : Int)) <| some ((fA0 (x1).toNat))) else (some ((-1))))
abbrev rm_Rt_at : Room := ({ frames := 0, cells := 0, slots := 0, locals := 0 } : Room)
set_option maxHeartbeats 4000000 in
set_option maxRecDepth 100000 in
theorem c_Rt_at (l : Launch) (D : va_G) (cI cZ cT : ClassId) (h_A0 : Nat) (n_A0 : Nat) (fA0 : Nat → Int) (x1 : Int) (sz : Nat) (res : Int) (h : f_Rt_at n_A0 fA0 x1 = some res) : zMi l yX6_at cX6_at 2 rm_Rt_at D (zt cI cZ cT) [.ref h_A0, vI x1] ((zAr cI h_A0 n_A0 fA0)) sz (res) (fun u => (zAr cI h_A0 n_A0 fA0)) 0 0 := by
  refine z_enth (Qc := zQi D (res) (fun u => (zAr cI h_A0 n_A0 fA0))) (by decide) (Nat.le_of_ble_eq_true rfl) (fun p e s m args below meth c A ls H locs hF hP hD hS hl => ?_)
  have hx := hF.1.1
  have hb := hF.1.2.1
  have hml := hF.1.2.2.1
  have hown : s.vm.findClass "RectangleTree" = some m.cls := hF.1.2.2.2.1
  have hts := hF.1.2.2.2.2
  have hr := hF.2.1
  have hlk := hF.2.2.1
  have hK := hF.2.2.2.2.1
  have hN := hF.2.2.2.2.2.1
  have hA := hF.2.2.2.2.2.2
  unfold f_Rt_at at h
  refine lv_iload_n hx hb dX6_at_0 rfl (lv_at hl 1 rfl) ?_
  obtain ⟨g_1, h⟩ := gd_e h
  refine z_if_lt (tgt := 16) hx hb g_1 dX6_at_1 (by decide) (fun b_2 => ?_) (fun b_2 => ?_)
  · have h := it_p b_2 h
    refine lv_iconst (v := Int32.ofInt (-1)) hx hb dX6_at_16 rfl ?_
    obtain rfl := Option.some.inj h
    exact z_iret hx hb hr hlk (fun _ _ => 0) hP hD hS dX6_at_17
  · have h := it_n b_2 h
    refine lv_iload_n hx hb dX6_at_4 rfl (lv_at hl 1 rfl) ?_
    refine lv_aload_n hx hb dX6_at_5 rfl (lv_at hl 0 rfl) ?_
    refine z_alen (n := n_A0) (f := fA0) hx hb hK hP 0 rfl rfl dX6_at_6 ?_
    obtain ⟨g_3, h⟩ := gd_e h
    refine z_icmp_ge (tgt := 16) hx hb g_1 g_3 dX6_at_7 (by decide) (fun b_4 => ?_) (fun b_4 => ?_)
    · have h := it_n b_4 h
      refine lv_iconst (v := Int32.ofInt (-1)) hx hb dX6_at_16 rfl ?_
      obtain rfl := Option.some.inj h
      exact z_iret hx hb hr hlk (fun _ _ => 0) hP hD hS dX6_at_17
    · have h := it_p b_4 h
      refine lv_aload_n hx hb dX6_at_10 rfl (lv_at hl 0 rfl) ?_
      refine lv_iload_n hx hb dX6_at_11 rfl (lv_at hl 1 rfl) ?_
      obtain ⟨g_5, h⟩ := gd_e h
      refine z_iald (n := n_A0) (f := fA0) (i := x1) hx hb hK hP 0 rfl rfl g_5 g_1.2 dX6_at_12 ?_
      refine lv_goto (tgt := 17) hx hb dX6_at_13 (by decide) ?_
      obtain rfl := Option.some.inj h
      exact z_iret hx hb hr hlk (fun _ _ => 0) hP hD hS dX6_at_17
def f_Rt_put (n_A0 : Nat) (fA0 : Nat → Int) (x1 : Int) (x2 : Int) : Option ((Nat → Int)) :=
  gd (ck x1) <| if x1 < 0 then (some (fA0)) else (gd (ck ((n_A0 : Nat) : Int)) <| if x1 < ((n_A0 : Nat) : Int) then (gd (0 ≤ x1 ∧ x1 < ((n_A0 : Nat) : Int)) <| some ((up fA0 ((x1).toNat) x2))) else (some (fA0)))
abbrev rm_Rt_put : Room := ({ frames := 0, cells := 0, slots := 0, locals := 0 } : Room)
set_option maxHeartbeats 4000000 in
set_option maxRecDepth 100000 in
theorem c_Rt_put (l : Launch) (D : va_G) (cI cZ cT : ClassId) (h_A0 : Nat) (n_A0 : Nat) (fA0 : Nat → Int) (x1 : Int) (x2 : Int) (sz : Nat) (res : (Nat → Int)) (h : f_Rt_put n_A0 fA0 x1 x2 = some res) : zMv l yX6_put cX6_put 3 rm_Rt_put D (zt cI cZ cT) [.ref h_A0, vI x1, vI x2] ((zAr cI h_A0 n_A0 fA0)) sz (fun u => (zAr cI h_A0 n_A0 (res))) 0 0 := by
  refine z_enth (Qc := zQv D (fun u => (zAr cI h_A0 n_A0 (res)))) (by decide) (Nat.le_of_ble_eq_true rfl) (fun p e s m args below meth c A ls H locs hF hP hD hS hl => ?_)
  have hx := hF.1.1
  have hb := hF.1.2.1
  have hml := hF.1.2.2.1
  have hown : s.vm.findClass "RectangleTree" = some m.cls := hF.1.2.2.2.1
  have hts := hF.1.2.2.2.2
  have hr := hF.2.1
  have hlk := hF.2.2.1
  have hK := hF.2.2.2.2.1
  have hN := hF.2.2.2.2.2.1
  have hA := hF.2.2.2.2.2.2
  unfold f_Rt_put at h
  refine lv_iload_n hx hb dX6_put_0 rfl (lv_at hl 1 rfl) ?_
  obtain ⟨g_1, h⟩ := gd_e h
  refine z_if_lt (tgt := 14) hx hb g_1 dX6_put_1 (by decide) (fun b_2 => ?_) (fun b_2 => ?_)
  · have h := it_p b_2 h
    obtain rfl := Option.some.inj h
    exact z_vret hx hb hr hlk (fun _ _ => 0) hP hD hS dX6_put_14
  · have h := it_n b_2 h
    refine lv_iload_n hx hb dX6_put_4 rfl (lv_at hl 1 rfl) ?_
    refine lv_aload_n hx hb dX6_put_5 rfl (lv_at hl 0 rfl) ?_
    refine z_alen (n := n_A0) (f := fA0) hx hb hK hP 0 rfl rfl dX6_put_6 ?_
    obtain ⟨g_3, h⟩ := gd_e h
    refine z_icmp_ge (tgt := 14) hx hb g_1 g_3 dX6_put_7 (by decide) (fun b_4 => ?_) (fun b_4 => ?_)
    · have h := it_n b_4 h
      obtain rfl := Option.some.inj h
      exact z_vret hx hb hr hlk (fun _ _ => 0) hP hD hS dX6_put_14
    · have h := it_p b_4 h
      refine lv_aload_n hx hb dX6_put_10 rfl (lv_at hl 0 rfl) ?_
      refine lv_iload_n hx hb dX6_put_11 rfl (lv_at hl 1 rfl) ?_
      refine lv_iload_n hx hb dX6_put_12 rfl (lv_at hl 2 rfl) ?_
      obtain ⟨g_5, h⟩ := gd_e h
      refine z_iast (n := n_A0) (f := fA0) (i := x1) (x := x2) (ws' := (zAr cI h_A0 n_A0 (up fA0 ((x1).toNat) x2))) hx hb hK hP hD hS 0 rfl rfl g_5 g_1.2 dX6_put_13 rfl (fun H locs hP hD hS => ?_)
      obtain rfl := Option.some.inj h
      exact z_vret hx hb hr hlk (fun _ _ => 0) hP hD hS dX6_put_14
def f_Rt_isSpan (x0 : Int) (x1 : Int) : Option (Int) :=
  gd (ck x0) <| if x0 < 0 then (some (0)) else (gd (ck x1) <| if x1 < x0 then (some (0)) else (if 99 < x1 then (some (0)) else (some (1))))
abbrev rm_Rt_isSpan : Room := ({ frames := 0, cells := 0, slots := 0, locals := 0 } : Room)
set_option maxHeartbeats 4000000 in
set_option maxRecDepth 100000 in
theorem c_Rt_isSpan (l : Launch) (D : va_G) (cI cZ cT : ClassId) (x0 : Int) (x1 : Int) (sz : Nat) (res : Int) (h : f_Rt_isSpan x0 x1 = some res) : zMz l yX6_isSpan cX6_isSpan 2 rm_Rt_isSpan D (zt cI cZ cT) [vI x0, vI x1] (([] : va_W)) sz (res) (fun u => ([] : va_W)) 0 0 := by
  refine z_enth (Qc := zQi D (res) (fun u => ([] : va_W))) (by decide) (Nat.le_of_ble_eq_true rfl) (fun p e s m args below meth c A ls H locs hF hP hD hS hl => ?_)
  have hx := hF.1.1
  have hb := hF.1.2.1
  have hml := hF.1.2.2.1
  have hown : s.vm.findClass "RectangleTree" = some m.cls := hF.1.2.2.2.1
  have hts := hF.1.2.2.2.2
  have hr := hF.2.1
  have hlk := hF.2.2.1
  have hK := hF.2.2.2.2.1
  have hN := hF.2.2.2.2.2.1
  have hA := hF.2.2.2.2.2.2
  unfold f_Rt_isSpan at h
  refine lv_iload_n hx hb dX6_isSpan_0 rfl (lv_at hl 0 rfl) ?_
  obtain ⟨g_1, h⟩ := gd_e h
  refine z_if_lt (tgt := 19) hx hb g_1 dX6_isSpan_1 (by decide) (fun b_2 => ?_) (fun b_2 => ?_)
  · have h := it_p b_2 h
    refine lv_iconst (v := Int32.ofInt 0) hx hb dX6_isSpan_19 rfl ?_
    obtain rfl := Option.some.inj h
    exact z_zret hx hb hr hlk (by decide) (fun _ _ => 0) hP hD hS dX6_isSpan_20
  · have h := it_n b_2 h
    refine lv_iload_n hx hb dX6_isSpan_4 rfl (lv_at hl 0 rfl) ?_
    refine lv_iload_n hx hb dX6_isSpan_5 rfl (lv_at hl 1 rfl) ?_
    obtain ⟨g_3, h⟩ := gd_e h
    refine z_icmp_gt (tgt := 19) hx hb g_1 g_3 dX6_isSpan_6 (by decide) (fun b_4 => ?_) (fun b_4 => ?_)
    · have h := it_p b_4 h
      refine lv_iconst (v := Int32.ofInt 0) hx hb dX6_isSpan_19 rfl ?_
      obtain rfl := Option.some.inj h
      exact z_zret hx hb hr hlk (by decide) (fun _ _ => 0) hP hD hS dX6_isSpan_20
    · have h := it_n b_4 h
      refine lv_iload_n hx hb dX6_isSpan_9 rfl (lv_at hl 1 rfl) ?_
      refine lv_bipush (v := Int32.ofInt 99) hx hb dX6_isSpan_10 (by decide +kernel) ?_
      refine z_icmp_gt (tgt := 19) hx hb g_3 (by decide) dX6_isSpan_12 (by decide) (fun b_5 => ?_) (fun b_5 => ?_)
      · have h := it_p b_5 h
        refine lv_iconst (v := Int32.ofInt 0) hx hb dX6_isSpan_19 rfl ?_
        obtain rfl := Option.some.inj h
        exact z_zret hx hb hr hlk (by decide) (fun _ _ => 0) hP hD hS dX6_isSpan_20
      · have h := it_n b_5 h
        refine lv_iconst (v := Int32.ofInt 1) hx hb dX6_isSpan_15 rfl ?_
        refine lv_goto (tgt := 20) hx hb dX6_isSpan_16 (by decide) ?_
        obtain rfl := Option.some.inj h
        exact z_zret hx hb hr hlk (by decide) (fun _ _ => 0) hP hD hS dX6_isSpan_20
def f_Rt_isRectangle (x0 : Int) (x1 : Int) (x2 : Int) (x3 : Int) : Option (Int) :=
  bd1 (f_Rt_isSpan x0 x2) <| fun r_1 => gd (ck r_1) <| if r_1 = 0 then (some (0)) else (bd1 (f_Rt_isSpan x1 x3) <| fun r_6 => gd (ck r_6) <| if r_6 = 0 then (some (0)) else (some (1)))
abbrev rm_Rt_isRectangle : Room := ({ frames := 1, cells := 0, slots := 0, locals := 21 } : Room)
set_option maxHeartbeats 4000000 in
set_option maxRecDepth 100000 in
theorem c_Rt_isRectangle (l : Launch) (D : va_G) (cI cZ cT : ClassId) (x0 : Int) (x1 : Int) (x2 : Int) (x3 : Int) (sz : Nat) (res : Int) (h : f_Rt_isRectangle x0 x1 x2 x3 = some res) : zMz l yX6_isRectangle cX6_isRectangle 4 rm_Rt_isRectangle D (zt cI cZ cT) [vI x0, vI x1, vI x2, vI x3] (([] : va_W)) sz (res) (fun u => ([] : va_W)) 0 0 := by
  refine z_enth (Qc := zQi D (res) (fun u => ([] : va_W))) (by decide) (Nat.le_of_ble_eq_true rfl) (fun p e s m args below meth c A ls H locs hF hP hD hS hl => ?_)
  have hx := hF.1.1
  have hb := hF.1.2.1
  have hml := hF.1.2.2.1
  have hown : s.vm.findClass "RectangleTree" = some m.cls := hF.1.2.2.2.1
  have hts := hF.1.2.2.2.2
  have hr := hF.2.1
  have hlk := hF.2.2.1
  have hK := hF.2.2.2.2.1
  have hN := hF.2.2.2.2.2.1
  have hA := hF.2.2.2.2.2.2
  unfold f_Rt_isRectangle at h
  refine lv_iload_n hx hb dX6_isRectangle_0 rfl (lv_at hl 0 rfl) ?_
  refine lv_iload_n hx hb dX6_isRectangle_1 rfl (lv_at hl 2 rfl) ?_
  obtain ⟨r_1, e_2, h⟩ := bd1_e h
  refine z_goi (ws' := []) (ret := r_1) (wc := ([] : va_W)) (wn := fun u_3 => ([] : va_W)) (wr := []) (va_runS (As := [vI x0, vI x2]) (rest := []) hF.1 (c_Rt_isSpan l D cI cZ cT x0 x2 H.size (r_1) e_2) (va_cwS 2 hts (zgS wm416 wm417 wm32 wm418) rfl rfl rfl (by decide +kernel) ⟨Nat.le_of_ble_eq_true rfl, Nat.le_of_ble_eq_true rfl⟩) ⟨zP.blind, zP.enter (z_subP (ws' := ([] : va_W)) hP [] rfl) hK (hD.sub [] (by decide) rfl) hN⟩ rfl rfl hl.1 rfl (lv_room (Nat.le_of_ble_eq_true rfl)) dX6_isRectangle_2 ⟨Nat.le_refl _, Nat.le_refl _⟩) hP hD hS hA [] [] [] rfl rfl (by decide) (fun _ => rfl) (fun u_3 H locs hP hD hS hz => ?_)
  obtain ⟨g_4, h⟩ := gd_e h
  refine z_if_eq (tgt := 20) hx hb g_4 dX6_isRectangle_5 (by decide) (fun b_5 => ?_) (fun b_5 => ?_)
  · have h := it_p b_5 h
    refine lv_iconst (v := Int32.ofInt 0) hx hb dX6_isRectangle_20 rfl ?_
    obtain rfl := Option.some.inj h
    exact z_zret hx hb hr hlk (by decide) (fun _ _ => 0) hP hD hS dX6_isRectangle_21
  · have h := it_n b_5 h
    refine lv_iload_n hx hb dX6_isRectangle_8 rfl (lv_at hl 1 rfl) ?_
    refine lv_iload_n hx hb dX6_isRectangle_9 rfl (lv_at hl 3 rfl) ?_
    obtain ⟨r_6, e_7, h⟩ := bd1_e h
    refine z_goi (ws' := []) (ret := r_6) (wc := ([] : va_W)) (wn := fun u_8 => ([] : va_W)) (wr := []) (va_runS (As := [vI x1, vI x3]) (rest := []) hF.1 (c_Rt_isSpan l D cI cZ cT x1 x3 H.size (r_6) e_7) (va_cwS 2 hts (zgS wm416 wm417 wm32 wm418) rfl rfl rfl (by decide +kernel) ⟨Nat.le_of_ble_eq_true rfl, Nat.le_of_ble_eq_true rfl⟩) ⟨zP.blind, zP.enter (z_subP (ws' := ([] : va_W)) hP [] rfl) hK (hD.sub [] (by decide) rfl) hN⟩ rfl rfl hl.1 rfl (lv_room (Nat.le_of_ble_eq_true rfl)) dX6_isRectangle_10 ⟨Nat.le_refl _, Nat.le_refl _⟩) hP hD hS hA [] [] [] rfl rfl (by decide) (fun _ => rfl) (fun u_8 H locs hP hD hS hz => ?_)
    obtain ⟨g_9, h⟩ := gd_e h
    refine z_if_eq (tgt := 20) hx hb g_9 dX6_isRectangle_13 (by decide) (fun b_10 => ?_) (fun b_10 => ?_)
    · have h := it_p b_10 h
      refine lv_iconst (v := Int32.ofInt 0) hx hb dX6_isRectangle_20 rfl ?_
      obtain rfl := Option.some.inj h
      exact z_zret hx hb hr hlk (by decide) (fun _ _ => 0) hP hD hS dX6_isRectangle_21
    · have h := it_n b_10 h
      refine lv_iconst (v := Int32.ofInt 1) hx hb dX6_isRectangle_16 rfl ?_
      refine lv_goto (tgt := 21) hx hb dX6_isRectangle_17 (by decide) ?_
      obtain rfl := Option.some.inj h
      exact z_zret hx hb hr hlk (by decide) (fun _ _ => 0) hP hD hS dX6_isRectangle_21
def f_Tr_levelOf (T : TV) (x1 : Int) : Option (Int) :=
  gd (ck x1) <| if x1 < 0 then (some ((-2))) else (gd (ck (((tR T) : Nat) : Int)) <| if x1 < (((tR T) : Nat) : Int) then (gd (0 ≤ x1 ∧ x1 < (((tR T) : Nat) : Int)) <| some (((tLev T) (x1).toNat))) else (some ((-2))))
abbrev rm_Tr_levelOf : Room := ({ frames := 0, cells := 0, slots := 0, locals := 0 } : Room)
set_option maxHeartbeats 4000000 in
set_option maxRecDepth 100000 in
theorem c_Tr_levelOf (l : Launch) (D : va_G) (cI cZ cT : ClassId) (h_T : Nat) (q_T : Nat → Nat) (T : TV) (x1 : Int) (sz : Nat) (res : Int) (h : f_Tr_levelOf T x1 = some res) : zMi l yX4_levelOf cX4_levelOf 2 rm_Tr_levelOf D (zt cI cZ cT) [.ref h_T, vI x1] ((zTr cI h_T q_T T)) sz (res) (fun u => (zTr cI h_T q_T T)) 0 0 := by
  refine z_enth (Qc := zQi D (res) (fun u => (zTr cI h_T q_T T))) (by decide) (Nat.le_of_ble_eq_true rfl) (fun p e s m args below meth c A ls H locs hF hP hD hS hl => ?_)
  have hx := hF.1.1
  have hb := hF.1.2.1
  have hml := hF.1.2.2.1
  have hown : s.vm.findClass "RectangleTree$Tree" = some m.cls := hF.1.2.2.2.1
  have hts := hF.1.2.2.2.2
  have hr := hF.2.1
  have hlk := hF.2.2.1
  have hK := hF.2.2.2.2.1
  have hN := hF.2.2.2.2.2.1
  have hA := hF.2.2.2.2.2.2
  unfold f_Tr_levelOf at h
  refine lv_iload_n hx hb dX4_levelOf_0 rfl (lv_at hl 1 rfl) ?_
  obtain ⟨g_1, h⟩ := gd_e h
  refine z_if_lt (tgt := 22) hx hb g_1 dX4_levelOf_1 (by decide) (fun b_2 => ?_) (fun b_2 => ?_)
  · have h := it_p b_2 h
    refine lv_bipush (v := Int32.ofInt (-2)) hx hb dX4_levelOf_22 (by decide +kernel) ?_
    obtain rfl := Option.some.inj h
    exact z_iret hx hb hr hlk (fun _ _ => 0) hP hD hS dX4_levelOf_24
  · have h := it_n b_2 h
    refine lv_iload_n hx hb dX4_levelOf_4 rfl (lv_at hl 1 rfl) ?_
    refine lv_aload_n hx hb dX4_levelOf_5 rfl (lv_at hl 0 rfl) ?_
    refine va_get (D := D) (ci := 4) (v := .ref (q_T 0)) (C := RX4) (T := TX4) (N := 10) hx hb hts zin4 hown hK hP 0 rfl rfl 0 (by decide) (hts _ wm62) (fun _ h9 => h9) rfl dX4_levelOf_6 ?_
    refine z_alen (n := (tR T)) (f := (tLev T)) hx hb hK hP 1 rfl rfl dX4_levelOf_9 ?_
    obtain ⟨g_3, h⟩ := gd_e h
    refine z_icmp_ge (tgt := 22) hx hb g_1 g_3 dX4_levelOf_10 (by decide) (fun b_4 => ?_) (fun b_4 => ?_)
    · have h := it_n b_4 h
      refine lv_bipush (v := Int32.ofInt (-2)) hx hb dX4_levelOf_22 (by decide +kernel) ?_
      obtain rfl := Option.some.inj h
      exact z_iret hx hb hr hlk (fun _ _ => 0) hP hD hS dX4_levelOf_24
    · have h := it_p b_4 h
      refine lv_aload_n hx hb dX4_levelOf_13 rfl (lv_at hl 0 rfl) ?_
      refine va_get (D := D) (ci := 4) (v := .ref (q_T 0)) (C := RX4) (T := TX4) (N := 10) hx hb hts zin4 hown hK hP 0 rfl rfl 0 (by decide) (hts _ wm62) (fun _ h9 => h9) rfl dX4_levelOf_14 ?_
      refine lv_iload_n hx hb dX4_levelOf_17 rfl (lv_at hl 1 rfl) ?_
      obtain ⟨g_5, h⟩ := gd_e h
      refine z_iald (n := (tR T)) (f := (tLev T)) (i := x1) hx hb hK hP 1 rfl rfl g_5 g_1.2 dX4_levelOf_18 ?_
      refine lv_goto (tgt := 24) hx hb dX4_levelOf_19 (by decide) ?_
      obtain rfl := Option.some.inj h
      exact z_iret hx hb hr hlk (fun _ _ => 0) hP hD hS dX4_levelOf_24
def f_Tr_holderOf (T : TV) (x1 : Int) : Option (Int) :=
  bd1 (f_Rt_at (tR T) (tHol T) x1) <| fun r_1 => some (r_1)
abbrev rm_Tr_holderOf : Room := ({ frames := 1, cells := 0, slots := 0, locals := 21 } : Room)
set_option maxHeartbeats 4000000 in
set_option maxRecDepth 100000 in
theorem c_Tr_holderOf (l : Launch) (D : va_G) (cI cZ cT : ClassId) (h_T : Nat) (q_T : Nat → Nat) (T : TV) (x1 : Int) (sz : Nat) (res : Int) (h : f_Tr_holderOf T x1 = some res) : zMi l yX4_holderOf cX4_holderOf 2 rm_Tr_holderOf D (zt cI cZ cT) [.ref h_T, vI x1] ((zTr cI h_T q_T T)) sz (res) (fun u => (zTr cI h_T q_T T)) 0 0 := by
  refine z_enth (Qc := zQi D (res) (fun u => (zTr cI h_T q_T T))) (by decide) (Nat.le_of_ble_eq_true rfl) (fun p e s m args below meth c A ls H locs hF hP hD hS hl => ?_)
  have hx := hF.1.1
  have hb := hF.1.2.1
  have hml := hF.1.2.2.1
  have hown : s.vm.findClass "RectangleTree$Tree" = some m.cls := hF.1.2.2.2.1
  have hts := hF.1.2.2.2.2
  have hr := hF.2.1
  have hlk := hF.2.2.1
  have hK := hF.2.2.2.2.1
  have hN := hF.2.2.2.2.2.1
  have hA := hF.2.2.2.2.2.2
  unfold f_Tr_holderOf at h
  refine lv_aload_n hx hb dX4_holderOf_0 rfl (lv_at hl 0 rfl) ?_
  refine va_get (D := D) (ci := 4) (v := .ref (q_T 1)) (C := RX4) (T := TX4) (N := 10) hx hb hts zin4 hown hK hP 0 rfl rfl 1 (by decide) (hts _ wm63) (fun _ h9 => h9) rfl dX4_holderOf_1 ?_
  refine lv_iload_n hx hb dX4_holderOf_4 rfl (lv_at hl 1 rfl) ?_
  obtain ⟨r_1, e_2, h⟩ := bd1_e h
  refine z_goi (ws' := []) (ret := r_1) (wc := (zAr cI ((q_T 1)) ((tR T)) ((tHol T)))) (wn := fun u_3 => (zTr cI h_T q_T T)) (wr := ([0, 1, 3, 4, 5].filterMap (fun i => ((zTr cI h_T q_T T))[i]?))) (va_runSN (As := [.ref (q_T 1), vI x1]) (rest := []) hF.1 (c_Rt_at l D cI cZ cT (q_T 1) (tR T) (tHol T) x1 H.size (r_1) e_2) ⟨va_cnB 2 hts (zW_good wm229) rfl rfl rfl (hN.at 6 rfl) (hts _ wm32) (by decide +kernel) ⟨Nat.le_of_ble_eq_true rfl, Nat.le_of_ble_eq_true rfl⟩, hts _ wm228, trivial⟩ ⟨zP.blind, zP.enter (z_subP (ws' := (zAr cI ((q_T 1)) ((tR T)) ((tHol T)))) hP [2] rfl) hK (hD.sub [2] (by decide) rfl) hN⟩ rfl rfl hl.1 rfl (lv_room (Nat.le_of_ble_eq_true rfl)) dX4_holderOf_5 ⟨Nat.le_refl _, Nat.le_refl _⟩) hP hD hS hA [2] [0, 1, 3, 4, 5] [0, 1, 5, 2, 3, 4] rfl rfl (by decide) (fun _ => rfl) (fun u_3 H locs hP hD hS hz => ?_)
  obtain rfl := Option.some.inj h
  exact z_iret hx hb hr hlk (fun _ _ => 0) hP hD hS dX4_holderOf_8
def f_Tr_sizeOf (T : TV) (x1 : Int) : Option (Int) :=
  gd (ck x1) <| if x1 < 0 then (some (0)) else (gd (ck (((tR T) : Nat) : Int)) <| if x1 < (((tR T) : Nat) : Int) then (gd (0 ≤ x1 ∧ x1 < (((tR T) : Nat) : Int)) <| some (((tSiz T) (x1).toNat))) else (some (0)))
abbrev rm_Tr_sizeOf : Room := ({ frames := 0, cells := 0, slots := 0, locals := 0 } : Room)
set_option maxHeartbeats 4000000 in
set_option maxRecDepth 100000 in
theorem c_Tr_sizeOf (l : Launch) (D : va_G) (cI cZ cT : ClassId) (h_T : Nat) (q_T : Nat → Nat) (T : TV) (x1 : Int) (sz : Nat) (res : Int) (h : f_Tr_sizeOf T x1 = some res) : zMi l yX4_sizeOf cX4_sizeOf 2 rm_Tr_sizeOf D (zt cI cZ cT) [.ref h_T, vI x1] ((zTr cI h_T q_T T)) sz (res) (fun u => (zTr cI h_T q_T T)) 0 0 := by
  refine z_enth (Qc := zQi D (res) (fun u => (zTr cI h_T q_T T))) (by decide) (Nat.le_of_ble_eq_true rfl) (fun p e s m args below meth c A ls H locs hF hP hD hS hl => ?_)
  have hx := hF.1.1
  have hb := hF.1.2.1
  have hml := hF.1.2.2.1
  have hown : s.vm.findClass "RectangleTree$Tree" = some m.cls := hF.1.2.2.2.1
  have hts := hF.1.2.2.2.2
  have hr := hF.2.1
  have hlk := hF.2.2.1
  have hK := hF.2.2.2.2.1
  have hN := hF.2.2.2.2.2.1
  have hA := hF.2.2.2.2.2.2
  unfold f_Tr_sizeOf at h
  refine lv_iload_n hx hb dX4_sizeOf_0 rfl (lv_at hl 1 rfl) ?_
  obtain ⟨g_1, h⟩ := gd_e h
  refine z_if_lt (tgt := 22) hx hb g_1 dX4_sizeOf_1 (by decide) (fun b_2 => ?_) (fun b_2 => ?_)
  · have h := it_p b_2 h
    refine lv_iconst (v := Int32.ofInt 0) hx hb dX4_sizeOf_22 rfl ?_
    obtain rfl := Option.some.inj h
    exact z_iret hx hb hr hlk (fun _ _ => 0) hP hD hS dX4_sizeOf_23
  · have h := it_n b_2 h
    refine lv_iload_n hx hb dX4_sizeOf_4 rfl (lv_at hl 1 rfl) ?_
    refine lv_aload_n hx hb dX4_sizeOf_5 rfl (lv_at hl 0 rfl) ?_
    refine va_get (D := D) (ci := 4) (v := .ref (q_T 2)) (C := RX4) (T := TX4) (N := 10) hx hb hts zin4 hown hK hP 0 rfl rfl 2 (by decide) (hts _ wm64) (fun _ h9 => h9) rfl dX4_sizeOf_6 ?_
    refine z_alen (n := (tR T)) (f := (tSiz T)) hx hb hK hP 3 rfl rfl dX4_sizeOf_9 ?_
    obtain ⟨g_3, h⟩ := gd_e h
    refine z_icmp_ge (tgt := 22) hx hb g_1 g_3 dX4_sizeOf_10 (by decide) (fun b_4 => ?_) (fun b_4 => ?_)
    · have h := it_n b_4 h
      refine lv_iconst (v := Int32.ofInt 0) hx hb dX4_sizeOf_22 rfl ?_
      obtain rfl := Option.some.inj h
      exact z_iret hx hb hr hlk (fun _ _ => 0) hP hD hS dX4_sizeOf_23
    · have h := it_p b_4 h
      refine lv_aload_n hx hb dX4_sizeOf_13 rfl (lv_at hl 0 rfl) ?_
      refine va_get (D := D) (ci := 4) (v := .ref (q_T 2)) (C := RX4) (T := TX4) (N := 10) hx hb hts zin4 hown hK hP 0 rfl rfl 2 (by decide) (hts _ wm64) (fun _ h9 => h9) rfl dX4_sizeOf_14 ?_
      refine lv_iload_n hx hb dX4_sizeOf_17 rfl (lv_at hl 1 rfl) ?_
      obtain ⟨g_5, h⟩ := gd_e h
      refine z_iald (n := (tR T)) (f := (tSiz T)) (i := x1) hx hb hK hP 3 rfl rfl g_5 g_1.2 dX4_sizeOf_18 ?_
      refine lv_goto (tgt := 23) hx hb dX4_sizeOf_19 (by decide) ?_
      obtain rfl := Option.some.inj h
      exact z_iret hx hb hr hlk (fun _ _ => 0) hP hD hS dX4_sizeOf_23
def f_Tr_entryAt (T : TV) (x1 : Int) (x2 : Int) : Option (Int) :=
  gd (ck x2) <| if x2 < 0 then (some ((-1))) else (bd1 (f_Tr_sizeOf T x1) <| fun r_3 => gd (ck r_3) <| if x2 < r_3 then (bd1 (f_Rt_at ((tR T) * 6) (tLis T) ((x1 * 6) + x2)) <| fun r_8 => some (r_8)) else (some ((-1))))
abbrev rm_Tr_entryAt : Room := ({ frames := 1, cells := 0, slots := 0, locals := 21 } : Room)
set_option maxHeartbeats 4000000 in
set_option maxRecDepth 100000 in
theorem c_Tr_entryAt (l : Launch) (D : va_G) (cI cZ cT : ClassId) (h_T : Nat) (q_T : Nat → Nat) (T : TV) (x1 : Int) (x2 : Int) (sz : Nat) (res : Int) (h : f_Tr_entryAt T x1 x2 = some res) : zMi l yX4_entryAt cX4_entryAt 3 rm_Tr_entryAt D (zt cI cZ cT) [.ref h_T, vI x1, vI x2] ((zTr cI h_T q_T T)) sz (res) (fun u => (zTr cI h_T q_T T)) 0 0 := by
  refine z_enth (Qc := zQi D (res) (fun u => (zTr cI h_T q_T T))) (by decide) (Nat.le_of_ble_eq_true rfl) (fun p e s m args below meth c A ls H locs hF hP hD hS hl => ?_)
  have hx := hF.1.1
  have hb := hF.1.2.1
  have hml := hF.1.2.2.1
  have hown : s.vm.findClass "RectangleTree$Tree" = some m.cls := hF.1.2.2.2.1
  have hts := hF.1.2.2.2.2
  have hr := hF.2.1
  have hlk := hF.2.2.1
  have hK := hF.2.2.2.2.1
  have hN := hF.2.2.2.2.2.1
  have hA := hF.2.2.2.2.2.2
  unfold f_Tr_entryAt at h
  refine lv_iload_n hx hb dX4_entryAt_0 rfl (lv_at hl 2 rfl) ?_
  obtain ⟨g_1, h⟩ := gd_e h
  refine z_if_lt (tgt := 29) hx hb g_1 dX4_entryAt_1 (by decide) (fun b_2 => ?_) (fun b_2 => ?_)
  · have h := it_p b_2 h
    refine lv_iconst (v := Int32.ofInt (-1)) hx hb dX4_entryAt_29 rfl ?_
    obtain rfl := Option.some.inj h
    exact z_iret hx hb hr hlk (fun _ _ => 0) hP hD hS dX4_entryAt_30
  · have h := it_n b_2 h
    refine lv_iload_n hx hb dX4_entryAt_4 rfl (lv_at hl 2 rfl) ?_
    refine lv_aload_n hx hb dX4_entryAt_5 rfl (lv_at hl 0 rfl) ?_
    refine lv_iload_n hx hb dX4_entryAt_6 rfl (lv_at hl 1 rfl) ?_
    obtain ⟨r_3, e_4, h⟩ := bd1_e h
    refine z_goi (ws' := []) (ret := r_3) (wc := (zTr cI (h_T) (q_T) (T))) (wn := fun u_5 => (zTr cI h_T q_T T)) (wr := []) (va_runV (As := [vI x1]) (rest := [vI x2]) hF.1 (c_Tr_sizeOf l D cI cZ cT h_T q_T T x1 H.size (r_3) e_4) (cwV 1 hts (zgV wm238 wm231 wm232 wm33 wm233) rfl rfl rfl (by decide +kernel) ⟨Nat.le_of_ble_eq_true rfl, Nat.le_of_ble_eq_true rfl⟩) ⟨zP.blind, va_recv hK (z_subP (ws' := (zTr cI (h_T) (q_T) (T))) hP [0, 1, 2, 3, 4, 5] rfl) (ci := 4) (q0 := 0) rfl rfl, zP.enter (z_subP (ws' := (zTr cI (h_T) (q_T) (T))) hP [0, 1, 2, 3, 4, 5] rfl) hK (hD.sub [0, 1, 2, 3, 4, 5] (by decide) rfl) hN⟩ rfl rfl hl.1 rfl (lv_room (Nat.le_of_ble_eq_true rfl)) dX4_entryAt_7 ⟨Nat.le_refl _, Nat.le_refl _⟩) hP hD hS hA [0, 1, 2, 3, 4, 5] [] [0, 1, 2, 3, 4, 5] rfl rfl (by decide) (fun _ => rfl) (fun u_5 H locs hP hD hS hz => ?_)
    obtain ⟨g_6, h⟩ := gd_e h
    refine z_icmp_ge (tgt := 29) hx hb g_1 g_6 dX4_entryAt_10 (by decide) (fun b_7 => ?_) (fun b_7 => ?_)
    · have h := it_n b_7 h
      refine lv_iconst (v := Int32.ofInt (-1)) hx hb dX4_entryAt_29 rfl ?_
      obtain rfl := Option.some.inj h
      exact z_iret hx hb hr hlk (fun _ _ => 0) hP hD hS dX4_entryAt_30
    · have h := it_p b_7 h
      refine lv_aload_n hx hb dX4_entryAt_13 rfl (lv_at hl 0 rfl) ?_
      refine va_get (D := D) (ci := 4) (v := .ref (q_T 4)) (C := RX4) (T := TX4) (N := 10) hx hb hts zin4 hown hK hP 0 rfl rfl 4 (by decide) (hts _ wm66) (fun _ h9 => h9) rfl dX4_entryAt_14 ?_
      refine lv_iload_n hx hb dX4_entryAt_17 rfl (lv_at hl 1 rfl) ?_
      refine lv_bipush (v := Int32.ofInt 6) hx hb dX4_entryAt_18 (by decide +kernel) ?_
      refine z_imul hx hb dX4_entryAt_20 ?_
      refine lv_iload_n hx hb dX4_entryAt_21 rfl (lv_at hl 2 rfl) ?_
      refine z_iadd hx hb dX4_entryAt_22 ?_
      obtain ⟨r_8, e_9, h⟩ := bd1_e h
      refine z_goi (ws' := []) (ret := r_8) (wc := (zAr cI ((q_T 4)) (((tR T) * 6)) ((tLis T)))) (wn := fun u_10 => (zTr cI h_T q_T T)) (wr := ([0, 1, 2, 3, 4].filterMap (fun i => ((zTr cI h_T q_T T))[i]?))) (va_runSN (As := [.ref (q_T 4), vI ((x1 * 6) + x2)]) (rest := []) hF.1 (c_Rt_at l D cI cZ cT (q_T 4) ((tR T) * 6) (tLis T) ((x1 * 6) + x2) H.size (r_8) e_9) ⟨va_cnB 2 hts (zW_good wm229) rfl rfl rfl (hN.at 6 rfl) (hts _ wm32) (by decide +kernel) ⟨Nat.le_of_ble_eq_true rfl, Nat.le_of_ble_eq_true rfl⟩, hts _ wm228, trivial⟩ ⟨zP.blind, zP.enter (z_subP (ws' := (zAr cI ((q_T 4)) (((tR T) * 6)) ((tLis T)))) hP [5] rfl) hK (hD.sub [5] (by decide) rfl) hN⟩ rfl rfl hl.1 rfl (lv_room (Nat.le_of_ble_eq_true rfl)) dX4_entryAt_23 ⟨Nat.le_refl _, Nat.le_refl _⟩) hP hD hS hA [5] [0, 1, 2, 3, 4] [0, 1, 2, 3, 4, 5] rfl rfl (by decide) (fun _ => rfl) (fun u_10 H locs hP hD hS hz => ?_)
      refine lv_goto (tgt := 30) hx hb dX4_entryAt_26 (by decide) ?_
      obtain rfl := Option.some.inj h
      exact z_iret hx hb hr hlk (fun _ _ => 0) hP hD hS dX4_entryAt_30
def f_Tr_corner (T : TV) (x1 : Int) (x2 : Int) : Option (Int) :=
  gd (ck ((x1 * 4) + x2)) <| if ((x1 * 4) + x2) < 0 then (some ((-1))) else (gd (ck ((((tR T) * 4) : Nat) : Int)) <| if ((x1 * 4) + x2) < ((((tR T) * 4) : Nat) : Int) then (gd (0 ≤ ((x1 * 4) + x2) ∧ ((x1 * 4) + x2) < ((((tR T) * 4) : Nat) : Int)) <| some (((tCor T) (((x1 * 4) + x2)).toNat))) else (some ((-1))))
abbrev rm_Tr_corner : Room := ({ frames := 0, cells := 0, slots := 0, locals := 0 } : Room)
set_option maxHeartbeats 4000000 in
set_option maxRecDepth 100000 in
theorem c_Tr_corner (l : Launch) (D : va_G) (cI cZ cT : ClassId) (h_T : Nat) (q_T : Nat → Nat) (T : TV) (x1 : Int) (x2 : Int) (sz : Nat) (res : Int) (h : f_Tr_corner T x1 x2 = some res) : zMi l yX4_corner cX4_corner 4 rm_Tr_corner D (zt cI cZ cT) [.ref h_T, vI x1, vI x2] ((zTr cI h_T q_T T)) sz (res) (fun u => (zTr cI h_T q_T T)) 0 0 := by
  refine z_enth (Qc := zQi D (res) (fun u => (zTr cI h_T q_T T))) (by decide) (Nat.le_of_ble_eq_true rfl) (fun p e s m args below meth c A ls H locs hF hP hD hS hl => ?_)
  have hx := hF.1.1
  have hb := hF.1.2.1
  have hml := hF.1.2.2.1
  have hown : s.vm.findClass "RectangleTree$Tree" = some m.cls := hF.1.2.2.2.1
  have hts := hF.1.2.2.2.2
  have hr := hF.2.1
  have hlk := hF.2.2.1
  have hK := hF.2.2.2.2.1
  have hN := hF.2.2.2.2.2.1
  have hA := hF.2.2.2.2.2.2
  unfold f_Tr_corner at h
  refine lv_iload_n hx hb dX4_corner_0 rfl (lv_at hl 1 rfl) ?_
  refine lv_iconst (v := Int32.ofInt 4) hx hb dX4_corner_1 rfl ?_
  refine z_imul hx hb dX4_corner_2 ?_
  refine lv_iload_n hx hb dX4_corner_3 rfl (lv_at hl 2 rfl) ?_
  refine z_iadd hx hb dX4_corner_4 ?_
  refine lv_istore_n (lv' := [(3, vI ((x1 * 4) + x2)), (0, .ref h_T), (1, vI x1), (2, vI x2)]) hx hb dX4_corner_5 rfl hl (by decide) rfl (fun ls hl => ?_)
  refine lv_iload_n hx hb dX4_corner_6 rfl (lv_at hl 0 rfl) ?_
  obtain ⟨g_1, h⟩ := gd_e h
  refine z_if_lt (tgt := 28) hx hb g_1 dX4_corner_7 (by decide) (fun b_2 => ?_) (fun b_2 => ?_)
  · have h := it_p b_2 h
    refine lv_iconst (v := Int32.ofInt (-1)) hx hb dX4_corner_28 rfl ?_
    obtain rfl := Option.some.inj h
    exact z_iret hx hb hr hlk (fun _ _ => 0) hP hD hS dX4_corner_29
  · have h := it_n b_2 h
    refine lv_iload_n hx hb dX4_corner_10 rfl (lv_at hl 0 rfl) ?_
    refine lv_aload_n hx hb dX4_corner_11 rfl (lv_at hl 1 rfl) ?_
    refine va_get (D := D) (ci := 4) (v := .ref (q_T 3)) (C := RX4) (T := TX4) (N := 10) hx hb hts zin4 hown hK hP 0 rfl rfl 3 (by decide) (hts _ wm65) (fun _ h9 => h9) rfl dX4_corner_12 ?_
    refine z_alen (n := ((tR T) * 4)) (f := (tCor T)) hx hb hK hP 4 rfl rfl dX4_corner_15 ?_
    obtain ⟨g_3, h⟩ := gd_e h
    refine z_icmp_ge (tgt := 28) hx hb g_1 g_3 dX4_corner_16 (by decide) (fun b_4 => ?_) (fun b_4 => ?_)
    · have h := it_n b_4 h
      refine lv_iconst (v := Int32.ofInt (-1)) hx hb dX4_corner_28 rfl ?_
      obtain rfl := Option.some.inj h
      exact z_iret hx hb hr hlk (fun _ _ => 0) hP hD hS dX4_corner_29
    · have h := it_p b_4 h
      refine lv_aload_n hx hb dX4_corner_19 rfl (lv_at hl 1 rfl) ?_
      refine va_get (D := D) (ci := 4) (v := .ref (q_T 3)) (C := RX4) (T := TX4) (N := 10) hx hb hts zin4 hown hK hP 0 rfl rfl 3 (by decide) (hts _ wm65) (fun _ h9 => h9) rfl dX4_corner_20 ?_
      refine lv_iload_n hx hb dX4_corner_23 rfl (lv_at hl 0 rfl) ?_
      obtain ⟨g_5, h⟩ := gd_e h
      refine z_iald (n := ((tR T) * 4)) (f := (tCor T)) (i := ((x1 * 4) + x2)) hx hb hK hP 4 rfl rfl g_5 g_1.2 dX4_corner_24 ?_
      refine lv_goto (tgt := 29) hx hb dX4_corner_25 (by decide) ?_
      obtain rfl := Option.some.inj h
      exact z_iret hx hb hr hlk (fun _ _ => 0) hP hD hS dX4_corner_29
def f_Tr_least (T : TV) : Option (Int) :=
  gd (((0 : Int) ≤ (tCap T) ∧ (tCap T) ≤ 2147483647) ∧ (0 : Int) < 2 ∧ (2 : Int) ≤ 2147483647) <| some (((tCap T) / 2))
abbrev rm_Tr_least : Room := ({ frames := 0, cells := 0, slots := 0, locals := 0 } : Room)
set_option maxHeartbeats 4000000 in
set_option maxRecDepth 100000 in
theorem c_Tr_least (l : Launch) (D : va_G) (cI cZ cT : ClassId) (h_T : Nat) (q_T : Nat → Nat) (T : TV) (sz : Nat) (res : Int) (h : f_Tr_least T = some res) : zMi l yX4_least cX4_least 1 rm_Tr_least D (zt cI cZ cT) [.ref h_T] ((zTr cI h_T q_T T)) sz (res) (fun u => (zTr cI h_T q_T T)) 0 0 := by
  refine z_enth (Qc := zQi D (res) (fun u => (zTr cI h_T q_T T))) (by decide) (Nat.le_of_ble_eq_true rfl) (fun p e s m args below meth c A ls H locs hF hP hD hS hl => ?_)
  have hx := hF.1.1
  have hb := hF.1.2.1
  have hml := hF.1.2.2.1
  have hown : s.vm.findClass "RectangleTree$Tree" = some m.cls := hF.1.2.2.2.1
  have hts := hF.1.2.2.2.2
  have hr := hF.2.1
  have hlk := hF.2.2.1
  have hK := hF.2.2.2.2.1
  have hN := hF.2.2.2.2.2.1
  have hA := hF.2.2.2.2.2.2
  unfold f_Tr_least at h
  refine lv_aload_n hx hb dX4_least_0 rfl (lv_at hl 0 rfl) ?_
  refine va_get (D := D) (ci := 4) (v := vI (tCap T)) (C := RX4) (T := TX4) (N := 10) hx hb hts zin4 hown hK hP 0 rfl rfl 6 (by decide) (hts _ wm71) (fun _ h9 => h9) rfl dX4_least_1 ?_
  refine lv_iconst (v := Int32.ofInt 2) hx hb dX4_least_4 rfl ?_
  obtain ⟨g_1, h⟩ := gd_e h
  refine z_idiv hx hb g_1 dX4_least_5 ?_
  obtain rfl := Option.some.inj h
  exact z_iret hx hb hr hlk (fun _ _ => 0) hP hD hS dX4_least_6
def f_Tr_isNode (T : TV) (x1 : Int) : Option (Int) :=
  gd (ck x1) <| if x1 < 24 then (some (0)) else (gd (ck (((tR T) : Nat) : Int)) <| if x1 < (((tR T) : Nat) : Int) then (gd (0 ≤ x1 ∧ x1 < (((tR T) : Nat) : Int)) <| gd (ck ((tLev T) (x1).toNat)) <| if ((tLev T) (x1).toNat) < 0 then (some (0)) else (some (1))) else (some (0)))
abbrev rm_Tr_isNode : Room := ({ frames := 0, cells := 0, slots := 0, locals := 0 } : Room)
set_option maxHeartbeats 4000000 in
set_option maxRecDepth 100000 in
theorem c_Tr_isNode (l : Launch) (D : va_G) (cI cZ cT : ClassId) (h_T : Nat) (q_T : Nat → Nat) (T : TV) (x1 : Int) (sz : Nat) (res : Int) (h : f_Tr_isNode T x1 = some res) : zMz l yX4_isNode cX4_isNode 2 rm_Tr_isNode D (zt cI cZ cT) [.ref h_T, vI x1] ((zTr cI h_T q_T T)) sz (res) (fun u => (zTr cI h_T q_T T)) 0 0 := by
  refine z_enth (Qc := zQi D (res) (fun u => (zTr cI h_T q_T T))) (by decide) (Nat.le_of_ble_eq_true rfl) (fun p e s m args below meth c A ls H locs hF hP hD hS hl => ?_)
  have hx := hF.1.1
  have hb := hF.1.2.1
  have hml := hF.1.2.2.1
  have hown : s.vm.findClass "RectangleTree$Tree" = some m.cls := hF.1.2.2.2.1
  have hts := hF.1.2.2.2.2
  have hr := hF.2.1
  have hlk := hF.2.2.1
  have hK := hF.2.2.2.2.1
  have hN := hF.2.2.2.2.2.1
  have hA := hF.2.2.2.2.2.2
  unfold f_Tr_isNode at h
  refine lv_iload_n hx hb dX4_isNode_0 rfl (lv_at hl 1 rfl) ?_
  refine lv_bipush (v := Int32.ofInt 24) hx hb dX4_isNode_1 (by decide +kernel) ?_
  obtain ⟨g_1, h⟩ := gd_e h
  refine z_icmp_lt (tgt := 28) hx hb g_1 (by decide) dX4_isNode_3 (by decide) (fun b_2 => ?_) (fun b_2 => ?_)
  · have h := it_p b_2 h
    refine lv_iconst (v := Int32.ofInt 0) hx hb dX4_isNode_28 rfl ?_
    obtain rfl := Option.some.inj h
    exact z_zret hx hb hr hlk (by decide) (fun _ _ => 0) hP hD hS dX4_isNode_29
  · have h := it_n b_2 h
    refine lv_iload_n hx hb dX4_isNode_6 rfl (lv_at hl 1 rfl) ?_
    refine lv_aload_n hx hb dX4_isNode_7 rfl (lv_at hl 0 rfl) ?_
    refine va_get (D := D) (ci := 4) (v := .ref (q_T 0)) (C := RX4) (T := TX4) (N := 10) hx hb hts zin4 hown hK hP 0 rfl rfl 0 (by decide) (hts _ wm62) (fun _ h9 => h9) rfl dX4_isNode_8 ?_
    refine z_alen (n := (tR T)) (f := (tLev T)) hx hb hK hP 1 rfl rfl dX4_isNode_11 ?_
    obtain ⟨g_3, h⟩ := gd_e h
    refine z_icmp_ge (tgt := 28) hx hb g_1 g_3 dX4_isNode_12 (by decide) (fun b_4 => ?_) (fun b_4 => ?_)
    · have h := it_n b_4 h
      refine lv_iconst (v := Int32.ofInt 0) hx hb dX4_isNode_28 rfl ?_
      obtain rfl := Option.some.inj h
      exact z_zret hx hb hr hlk (by decide) (fun _ _ => 0) hP hD hS dX4_isNode_29
    · have h := it_p b_4 h
      refine lv_aload_n hx hb dX4_isNode_15 rfl (lv_at hl 0 rfl) ?_
      refine va_get (D := D) (ci := 4) (v := .ref (q_T 0)) (C := RX4) (T := TX4) (N := 10) hx hb hts zin4 hown hK hP 0 rfl rfl 0 (by decide) (hts _ wm62) (fun _ h9 => h9) rfl dX4_isNode_16 ?_
      refine lv_iload_n hx hb dX4_isNode_19 rfl (lv_at hl 1 rfl) ?_
      obtain ⟨g_5, h⟩ := gd_e h
      refine z_iald (n := (tR T)) (f := (tLev T)) (i := x1) hx hb hK hP 1 rfl rfl g_5 g_1.2 dX4_isNode_20 ?_
      obtain ⟨g_6, h⟩ := gd_e h
      refine z_if_lt (tgt := 28) hx hb g_6 dX4_isNode_21 (by decide) (fun b_7 => ?_) (fun b_7 => ?_)
      · have h := it_p b_7 h
        refine lv_iconst (v := Int32.ofInt 0) hx hb dX4_isNode_28 rfl ?_
        obtain rfl := Option.some.inj h
        exact z_zret hx hb hr hlk (by decide) (fun _ _ => 0) hP hD hS dX4_isNode_29
      · have h := it_n b_7 h
        refine lv_iconst (v := Int32.ofInt 1) hx hb dX4_isNode_24 rfl ?_
        refine lv_goto (tgt := 29) hx hb dX4_isNode_25 (by decide) ?_
        obtain rfl := Option.some.inj h
        exact z_zret hx hb hr hlk (by decide) (fun _ _ => 0) hP hD hS dX4_isNode_29
def f_Tr_hasBox (T : TV) (x1 : Int) : Option (Int) :=
  gd (ck x1) <| if x1 < 0 then (some (0)) else (if x1 < 24 then (bd1 (f_Tr_levelOf T x1) <| fun r_4 => gd (ck r_4) <| if r_4 = (-1) then (some (1)) else (some (0))) else (some (0)))
abbrev rm_Tr_hasBox : Room := ({ frames := 1, cells := 0, slots := 0, locals := 21 } : Room)
set_option maxHeartbeats 4000000 in
set_option maxRecDepth 100000 in
theorem c_Tr_hasBox (l : Launch) (D : va_G) (cI cZ cT : ClassId) (h_T : Nat) (q_T : Nat → Nat) (T : TV) (x1 : Int) (sz : Nat) (res : Int) (h : f_Tr_hasBox T x1 = some res) : zMz l yX4_hasBox cX4_hasBox 2 rm_Tr_hasBox D (zt cI cZ cT) [.ref h_T, vI x1] ((zTr cI h_T q_T T)) sz (res) (fun u => (zTr cI h_T q_T T)) 0 0 := by
  refine z_enth (Qc := zQi D (res) (fun u => (zTr cI h_T q_T T))) (by decide) (Nat.le_of_ble_eq_true rfl) (fun p e s m args below meth c A ls H locs hF hP hD hS hl => ?_)
  have hx := hF.1.1
  have hb := hF.1.2.1
  have hml := hF.1.2.2.1
  have hown : s.vm.findClass "RectangleTree$Tree" = some m.cls := hF.1.2.2.2.1
  have hts := hF.1.2.2.2.2
  have hr := hF.2.1
  have hlk := hF.2.2.1
  have hK := hF.2.2.2.2.1
  have hN := hF.2.2.2.2.2.1
  have hA := hF.2.2.2.2.2.2
  unfold f_Tr_hasBox at h
  refine lv_iload_n hx hb dX4_hasBox_0 rfl (lv_at hl 1 rfl) ?_
  obtain ⟨g_1, h⟩ := gd_e h
  refine z_if_lt (tgt := 23) hx hb g_1 dX4_hasBox_1 (by decide) (fun b_2 => ?_) (fun b_2 => ?_)
  · have h := it_p b_2 h
    refine lv_iconst (v := Int32.ofInt 0) hx hb dX4_hasBox_23 rfl ?_
    obtain rfl := Option.some.inj h
    exact z_zret hx hb hr hlk (by decide) (fun _ _ => 0) hP hD hS dX4_hasBox_24
  · have h := it_n b_2 h
    refine lv_iload_n hx hb dX4_hasBox_4 rfl (lv_at hl 1 rfl) ?_
    refine lv_bipush (v := Int32.ofInt 24) hx hb dX4_hasBox_5 (by decide +kernel) ?_
    refine z_icmp_ge (tgt := 23) hx hb g_1 (by decide) dX4_hasBox_7 (by decide) (fun b_3 => ?_) (fun b_3 => ?_)
    · have h := it_n b_3 h
      refine lv_iconst (v := Int32.ofInt 0) hx hb dX4_hasBox_23 rfl ?_
      obtain rfl := Option.some.inj h
      exact z_zret hx hb hr hlk (by decide) (fun _ _ => 0) hP hD hS dX4_hasBox_24
    · have h := it_p b_3 h
      refine lv_aload_n hx hb dX4_hasBox_10 rfl (lv_at hl 0 rfl) ?_
      refine lv_iload_n hx hb dX4_hasBox_11 rfl (lv_at hl 1 rfl) ?_
      obtain ⟨r_4, e_5, h⟩ := bd1_e h
      refine z_goi (ws' := []) (ret := r_4) (wc := (zTr cI (h_T) (q_T) (T))) (wn := fun u_6 => (zTr cI h_T q_T T)) (wr := []) (va_runV (As := [vI x1]) (rest := []) hF.1 (c_Tr_levelOf l D cI cZ cT h_T q_T T x1 H.size (r_4) e_5) (cwV 1 hts (zgV wm347 wm301 wm302 wm33 wm303) rfl rfl rfl (by decide +kernel) ⟨Nat.le_of_ble_eq_true rfl, Nat.le_of_ble_eq_true rfl⟩) ⟨zP.blind, va_recv hK (z_subP (ws' := (zTr cI (h_T) (q_T) (T))) hP [0, 1, 2, 3, 4, 5] rfl) (ci := 4) (q0 := 0) rfl rfl, zP.enter (z_subP (ws' := (zTr cI (h_T) (q_T) (T))) hP [0, 1, 2, 3, 4, 5] rfl) hK (hD.sub [0, 1, 2, 3, 4, 5] (by decide) rfl) hN⟩ rfl rfl hl.1 rfl (lv_room (Nat.le_of_ble_eq_true rfl)) dX4_hasBox_12 ⟨Nat.le_refl _, Nat.le_refl _⟩) hP hD hS hA [0, 1, 2, 3, 4, 5] [] [0, 1, 2, 3, 4, 5] rfl rfl (by decide) (fun _ => rfl) (fun u_6 H locs hP hD hS hz => ?_)
      refine lv_iconst (v := Int32.ofInt (-1)) hx hb dX4_hasBox_15 rfl ?_
      obtain ⟨g_7, h⟩ := gd_e h
      refine z_icmp_ne (tgt := 23) hx hb g_7 (by decide) dX4_hasBox_16 (by decide) (fun b_8 => ?_) (fun b_8 => ?_)
      · have h := it_n b_8 h
        refine lv_iconst (v := Int32.ofInt 0) hx hb dX4_hasBox_23 rfl ?_
        obtain rfl := Option.some.inj h
        exact z_zret hx hb hr hlk (by decide) (fun _ _ => 0) hP hD hS dX4_hasBox_24
      · have h := it_p b_8 h
        refine lv_iconst (v := Int32.ofInt 1) hx hb dX4_hasBox_19 rfl ?_
        refine lv_goto (tgt := 24) hx hb dX4_hasBox_20 (by decide) ?_
        obtain rfl := Option.some.inj h
        exact z_zret hx hb hr hlk (by decide) (fun _ _ => 0) hP hD hS dX4_hasBox_24
def f_Tr_countBoxes_L4 (T : TV) (k : Int → Int → Option (Int)) : Nat → Int → Int → Option (Int)
  | 0, _, _ => none
  | n + 1, x1, x2 =>
  gd (ck x2) <| if x2 < 24 then (bd1 (f_Tr_hasBox T x2) <| fun r_3 => gd (ck r_3) <| if r_3 = 0 then (f_Tr_countBoxes_L4 T k n (x1) ((x2 + 1))) else (f_Tr_countBoxes_L4 T k n ((x1 + 1)) ((x2 + 1)))) else (k (x1) (x2))
def f_Tr_countBoxes (T : TV) : Option (Int) :=
  f_Tr_countBoxes_L4 (T) (fun x1_8 x2_9 => some (x1_8)) FU (0) (0)
abbrev rm_Tr_countBoxes : Room := ({ frames := 2, cells := 0, slots := 0, locals := 42 } : Room)
set_option maxHeartbeats 4000000 in
set_option maxRecDepth 100000 in
theorem w_Tr_countBoxes_L4 {p : Program} {l : Launch} {e : Env} {s : State} {m : MethodId} {args : Array Value} {below : List Frame} {meth : Method} {c : Code} {A : Nat → Prop} (D : va_G) (cI cZ cT : ClassId) (h_T : Nat) (q_T : Nat → Nat) (T : TV) (res : Int) (k : Int → Int → Option (Int)) (hF : zF p m c cX4_countBoxes 3 s args yX4_countBoxes.cls meth (some .int) yX4_countBoxes.name A D (zt cI cZ cT))
    (hk : ∀ (x1 : Int) (x2 : Int) (H : Heap) (locs : List Loc) (ls : Array Slot), k x1 x2 = some res → va_P D vwCl ((zTr cI h_T q_T T)) H → va_D A ((zTr cI h_T q_T T)) → va_S A s.heap H locs → lv_has ls 3 [(1, vI x1)] → W p l e rm_Tr_countBoxes s m args below meth c H locs 0 0 (MQ below (zQi D (res) (fun u => (zTr cI h_T q_T T)) A) args s 0 0 A) (F0 m 27 ls [])) :
    ∀ (n : Nat) (x1 : Int) (x2 : Int) (H : Heap) (locs : List Loc) (ls : Array Slot), f_Tr_countBoxes_L4 T k n x1 x2 = some res → va_P D vwCl ((zTr cI h_T q_T T)) H → va_D A ((zTr cI h_T q_T T)) → va_S A s.heap H locs → lv_has ls 3 [(0, .ref h_T), (1, vI x1), (2, vI x2)] → W p l e rm_Tr_countBoxes s m args below meth c H locs 0 0 (MQ below (zQi D (res) (fun u => (zTr cI h_T q_T T)) A) args s 0 0 A) (F0 m 4 ls []) := by
  have hx := hF.1.1
  have hb := hF.1.2.1
  have hml := hF.1.2.2.1
  have hown : s.vm.findClass "RectangleTree$Tree" = some m.cls := hF.1.2.2.2.1
  have hts := hF.1.2.2.2.2
  have hr := hF.2.1
  have hlk := hF.2.2.1
  have hK := hF.2.2.2.2.1
  have hN := hF.2.2.2.2.2.1
  have hA := hF.2.2.2.2.2.2
  intro n
  induction n with
  | zero => intro x1 x2 H locs ls h; cases h
  | succ n ih =>
    intro x1 x2 H locs ls h hP hD hS hl
    rw [f_Tr_countBoxes_L4] at h
    refine lv_iload_n hx hb dX4_countBoxes_4 rfl (lv_at hl 2 rfl) ?_
    refine lv_bipush (v := Int32.ofInt 24) hx hb dX4_countBoxes_5 (by decide +kernel) ?_
    obtain ⟨g_1, h⟩ := gd_e h
    refine z_icmp_ge (tgt := 27) hx hb g_1 (by decide) dX4_countBoxes_7 (by decide) (fun b_2 => ?_) (fun b_2 => ?_)
    · have h := it_n b_2 h
      exact hk (x1) (x2) H locs ls h hP hD hS (lv_sub hl [1] rfl)
    · have h := it_p b_2 h
      refine lv_aload_n hx hb dX4_countBoxes_10 rfl (lv_at hl 0 rfl) ?_
      refine lv_iload_n hx hb dX4_countBoxes_11 rfl (lv_at hl 2 rfl) ?_
      obtain ⟨r_3, e_4, h⟩ := bd1_e h
      refine z_goi (ws' := []) (ret := r_3) (wc := (zTr cI (h_T) (q_T) (T))) (wn := fun u_5 => (zTr cI h_T q_T T)) (wr := []) (va_runV (As := [vI x2]) (rest := []) hF.1 (c_Tr_hasBox l D cI cZ cT h_T q_T T x2 H.size (r_3) e_4) (cwV 1 hts (zgV wm461 wm344 wm345 wm33 wm346) rfl rfl rfl (by decide +kernel) ⟨Nat.le_of_ble_eq_true rfl, Nat.le_of_ble_eq_true rfl⟩) ⟨zP.blind, va_recv hK (z_subP (ws' := (zTr cI (h_T) (q_T) (T))) hP [0, 1, 2, 3, 4, 5] rfl) (ci := 4) (q0 := 0) rfl rfl, zP.enter (z_subP (ws' := (zTr cI (h_T) (q_T) (T))) hP [0, 1, 2, 3, 4, 5] rfl) hK (hD.sub [0, 1, 2, 3, 4, 5] (by decide) rfl) hN⟩ rfl rfl hl.1 rfl (lv_room (Nat.le_of_ble_eq_true rfl)) dX4_countBoxes_12 ⟨Nat.le_refl _, Nat.le_refl _⟩) hP hD hS hA [0, 1, 2, 3, 4, 5] [] [0, 1, 2, 3, 4, 5] rfl rfl (by decide) (fun _ => rfl) (fun u_5 H locs hP hD hS hz => ?_)
      obtain ⟨g_6, h⟩ := gd_e h
      refine z_if_eq (tgt := 21) hx hb g_6 dX4_countBoxes_15 (by decide) (fun b_7 => ?_) (fun b_7 => ?_)
      · have h := it_p b_7 h
        refine lv_iinc (v := Int32.ofInt (x2 + 1)) (lv' := [(2, vI (x2 + 1)), (0, .ref h_T), (1, vI x1)]) hx hb dX4_countBoxes_21 hl (k := 2) rfl (z_inc _ _) (by decide) rfl (fun ls hl => ?_)
        refine lv_goto (tgt := 4) hx hb dX4_countBoxes_24 (by decide) ?_
        exact ih (x1) ((x2 + 1)) H locs ls h hP hD hS (lv_sub hl [1, 2, 0] rfl)
      · have h := it_n b_7 h
        refine lv_iinc (v := Int32.ofInt (x1 + 1)) (lv' := [(1, vI (x1 + 1)), (0, .ref h_T), (2, vI x2)]) hx hb dX4_countBoxes_18 hl (k := 1) rfl (z_inc _ _) (by decide) rfl (fun ls hl => ?_)
        refine lv_iinc (v := Int32.ofInt (x2 + 1)) (lv' := [(2, vI (x2 + 1)), (1, vI (x1 + 1)), (0, .ref h_T)]) hx hb dX4_countBoxes_21 hl (k := 2) rfl (z_inc _ _) (by decide) rfl (fun ls hl => ?_)
        refine lv_goto (tgt := 4) hx hb dX4_countBoxes_24 (by decide) ?_
        exact ih ((x1 + 1)) ((x2 + 1)) H locs ls h hP hD hS (lv_sub hl [2, 1, 0] rfl)
set_option maxHeartbeats 4000000 in
set_option maxRecDepth 100000 in
theorem c_Tr_countBoxes (l : Launch) (D : va_G) (cI cZ cT : ClassId) (h_T : Nat) (q_T : Nat → Nat) (T : TV) (sz : Nat) (res : Int) (h : f_Tr_countBoxes T = some res) : zMi l yX4_countBoxes cX4_countBoxes 3 rm_Tr_countBoxes D (zt cI cZ cT) [.ref h_T] ((zTr cI h_T q_T T)) sz (res) (fun u => (zTr cI h_T q_T T)) 0 0 := by
  refine z_enth (Qc := zQi D (res) (fun u => (zTr cI h_T q_T T))) (by decide) (Nat.le_of_ble_eq_true rfl) (fun p e s m args below meth c A ls H locs hF hP hD hS hl => ?_)
  have hx := hF.1.1
  have hb := hF.1.2.1
  have hml := hF.1.2.2.1
  have hown : s.vm.findClass "RectangleTree$Tree" = some m.cls := hF.1.2.2.2.1
  have hts := hF.1.2.2.2.2
  have hr := hF.2.1
  have hlk := hF.2.2.1
  have hK := hF.2.2.2.2.1
  have hN := hF.2.2.2.2.2.1
  have hA := hF.2.2.2.2.2.2
  unfold f_Tr_countBoxes at h
  refine lv_iconst (v := Int32.ofInt 0) hx hb dX4_countBoxes_0 rfl ?_
  refine lv_istore_n (lv' := [(1, vI 0), (0, .ref h_T)]) hx hb dX4_countBoxes_1 rfl hl (by decide) rfl (fun ls hl => ?_)
  refine lv_iconst (v := Int32.ofInt 0) hx hb dX4_countBoxes_2 rfl ?_
  refine lv_istore_n (lv' := [(2, vI 0), (1, vI 0), (0, .ref h_T)]) hx hb dX4_countBoxes_3 rfl hl (by decide) rfl (fun ls hl => ?_)
  refine w_Tr_countBoxes_L4 D cI cZ cT (h_T) (q_T) (T) _ _ hF (fun x1_8 x2_9 H locs ls h hP hD hS hl => ?_) _ (0) (0) _ _ _ h hP hD hS (lv_sub hl [2, 1, 0] rfl)
  refine lv_iload_n hx hb dX4_countBoxes_27 rfl (lv_at hl 0 rfl) ?_
  obtain rfl := Option.some.inj h
  exact z_iret hx hb hr hlk (fun _ _ => 0) hP hD hS dX4_countBoxes_28
