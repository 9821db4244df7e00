def f_Tx_isFull (c_length : Int) : Option (Int) :=
  gd (ck c_length) <| if c_length < 80 then (some (0)) else (some (1))
abbrev rm_Tx_isFull : Room := ({ frames := 0, cells := 0, slots := 0, locals := 0 } : Room)
set_option maxHeartbeats 4000000 in
set_option maxRecDepth 100000 in
theorem c_Tx_isFull (l : Launch) (D : va_G) (cI cZ cT : ClassId) (h_X : Nat) (q_X : Nat → Nat) (c_characters : Nat → Int) (c_length : Int) (c_parts : Nat → Int) (c_rectangles : Int) (c_part : Int) (c_digits : Int) (c_value : Int) (sz : Nat) (res : Int) (h : f_Tx_isFull c_length = some res) : zMz l yX3_isFull cX3_isFull 1 rm_Tx_isFull D (zt cI cZ cT) [.ref h_X] ((zTx cI h_X q_X c_characters c_length c_parts c_rectangles c_part c_digits c_value)) sz (res) (fun u => (zTx cI h_X q_X c_characters c_length c_parts c_rectangles c_part c_digits c_value)) 0 0 := by
  refine z_enth (Qc := zQi D (res) (fun u => (zTx cI h_X q_X c_characters c_length c_parts c_rectangles c_part c_digits c_value))) (by decide) (Nat.le_of_ble_eq_true rfl) (fun p e s m args below meth c A ls H locs hF hP hD hS hl => ?_)
  have hx := hF.1.1
  have hb := hF.1.2.1
  have hml := hF.1.2.2.1
  have hown : s.vm.findClass "RectangleTree$RectangleText" = some m.cls := hF.1.2.2.2.1
  have hts := hF.1.2.2.2.2
  have hr := hF.2.1
  have hlk := hF.2.2.1
  have hK := hF.2.2.2.2.1
  have hN := hF.2.2.2.2.2.1
  have hA := hF.2.2.2.2.2.2
  unfold f_Tx_isFull at h
  refine lv_aload_n hx hb dX3_isFull_0 rfl (lv_at hl 0 rfl) ?_
  refine va_get (D := D) (ci := 3) (v := vI c_length) (C := RX3) (T := TX3) (N := 7) hx hb hts zin3 hown hK hP 0 rfl rfl 1 (by decide) (hts _ wm179) (fun _ h9 => h9) rfl dX3_isFull_1 ?_
  refine lv_bipush (v := Int32.ofInt 80) hx hb dX3_isFull_4 (by decide +kernel) ?_
  obtain ⟨g_1, h⟩ := gd_e h
  refine z_icmp_lt (tgt := 13) hx hb g_1 (by decide) dX3_isFull_6 (by decide) (fun b_2 => ?_) (fun b_2 => ?_)
  · have h := it_p b_2 h
    refine lv_iconst (v := Int32.ofInt 0) hx hb dX3_isFull_13 rfl ?_
    obtain rfl := Option.some.inj h
    exact z_zret hx hb hr hlk (by decide) (fun _ _ => 0) hP hD hS dX3_isFull_14
  · have h := it_n b_2 h
    refine lv_iconst (v := Int32.ofInt 1) hx hb dX3_isFull_9 rfl ?_
    refine lv_goto (tgt := 14) hx hb dX3_isFull_10 (by decide) ?_
    obtain rfl := Option.some.inj h
    exact z_zret hx hb hr hlk (by decide) (fun _ _ => 0) hP hD hS dX3_isFull_14
def f_Tx_addLast (c_characters : Nat → Int) (c_length : Int) (x1 : Int) : Option (Int × (Nat → Int) × Int) :=
  bd1 (f_Rt_put 80 c_characters c_length x1) <| fun c_characters_1 => some ((c_length + 1), c_characters_1, (c_length + 1))
abbrev rm_Tx_addLast : Room := ({ frames := 1, cells := 0, slots := 0, locals := 22 } : Room)
set_option maxHeartbeats 4000000 in
set_option maxRecDepth 100000 in
theorem c_Tx_addLast (l : Launch) (D : va_G) (cI cZ cT : ClassId) (h_X : Nat) (q_X : Nat → Nat) (c_characters : Nat → Int) (c_length : Int) (c_parts : Nat → Int) (c_rectangles : Int) (c_part : Int) (c_digits : Int) (c_value : Int) (x1 : Int) (sz : Nat) (res : Int × (Nat → Int) × Int) (h : f_Tx_addLast c_characters c_length x1 = some res) : zMi l yX3_addLast cX3_addLast 2 rm_Tx_addLast D (zt cI cZ cT) [.ref h_X, vI x1] ((zTx cI h_X q_X c_characters c_length c_parts c_rectangles c_part c_digits c_value)) sz (res.1) (fun u => (zTx cI h_X q_X (res.2.1) (res.2.2) c_parts c_rectangles c_part c_digits c_value)) 0 0 := by
  refine z_enth (Qc := zQi D (res.1) (fun u => (zTx cI h_X q_X (res.2.1) (res.2.2) c_parts c_rectangles c_part c_digits c_value))) (by decide) (Nat.le_of_ble_eq_true rfl) (fun p e s m args below meth c A ls H locs hF hP hD hS hl => ?_)
  have hx := hF.1.1
  have hb := hF.1.2.1
  have hml := hF.1.2.2.1
  have hown : s.vm.findClass "RectangleTree$RectangleText" = some m.cls := hF.1.2.2.2.1
  have hts := hF.1.2.2.2.2
  have hr := hF.2.1
  have hlk := hF.2.2.1
  have hK := hF.2.2.2.2.1
  have hN := hF.2.2.2.2.2.1
  have hA := hF.2.2.2.2.2.2
  unfold f_Tx_addLast at h
  refine lv_aload_n hx hb dX3_addLast_0 rfl (lv_at hl 0 rfl) ?_
  refine va_get (D := D) (ci := 3) (v := .ref (q_X 0)) (C := RX3) (T := TX3) (N := 7) hx hb hts zin3 hown hK hP 0 rfl rfl 0 (by decide) (hts _ wm178) (fun _ h9 => h9) rfl dX3_addLast_1 ?_
  refine lv_aload_n hx hb dX3_addLast_4 rfl (lv_at hl 0 rfl) ?_
  refine va_get (D := D) (ci := 3) (v := vI c_length) (C := RX3) (T := TX3) (N := 7) hx hb hts zin3 hown hK hP 0 rfl rfl 1 (by decide) (hts _ wm179) (fun _ h9 => h9) rfl dX3_addLast_5 ?_
  refine lv_iload_n hx hb dX3_addLast_8 rfl (lv_at hl 1 rfl) ?_
  obtain ⟨c_characters_1, e_2, h⟩ := bd1_e h
  refine z_gov (wc := (zAr cI ((q_X 0)) (80) (c_characters))) (wn := fun u_3 => (zTx cI h_X q_X c_characters_1 c_length c_parts c_rectangles c_part c_digits c_value)) (wr := ([0, 2].filterMap (fun i => ((zTx cI h_X q_X c_characters c_length c_parts c_rectangles c_part c_digits c_value))[i]?))) (va_runSN (As := [.ref (q_X 0), vI c_length, vI x1]) (rest := []) hF.1 (c_Rt_put l D cI cZ cT (q_X 0) 80 c_characters c_length x1 H.size (c_characters_1) e_2) ⟨va_cnB 3 hts (zW_good wm61) rfl rfl rfl (hN.at 11 rfl) (hts _ wm32) (by decide +kernel) ⟨Nat.le_of_ble_eq_true rfl, Nat.le_of_ble_eq_true rfl⟩, hts _ wm60, trivial⟩ ⟨zP.blind, zP.enter (z_subP (ws' := (zAr cI ((q_X 0)) (80) (c_characters))) hP [1] rfl) hK (hD.sub [1] (by decide) rfl) hN⟩ rfl rfl hl.1 rfl (lv_room (Nat.le_of_ble_eq_true rfl)) dX3_addLast_9 ⟨Nat.le_refl _, Nat.le_refl _⟩) hP hD hS hA [1] [0, 2] [0, 2, 1] rfl rfl (by decide) (fun _ => rfl) (fun u_3 H locs hP hD hS hz => ?_)
  refine lv_aload_n hx hb dX3_addLast_12 rfl (lv_at hl 0 rfl) ?_
  refine lv_dup hx hb dX3_addLast_13 rfl ?_
  refine va_get (D := D) (ci := 3) (v := vI c_length) (C := RX3) (T := TX3) (N := 7) hx hb hts zin3 hown hK hP 0 rfl rfl 1 (by decide) (hts _ wm179) (fun _ h9 => h9) rfl dX3_addLast_14 ?_
  refine lv_iconst (v := Int32.ofInt 1) hx hb dX3_addLast_17 rfl ?_
  refine z_iadd hx hb dX3_addLast_18 ?_
  refine va_put (D := D) (ci := 3) (v := vI (c_length + 1)) (ty := .int) (C := RX3) (T := TX3) (N := 7) hx hb hts zin3 tyX3 tyX3_ok nmX3 hown hK hP hD hS 0 rfl rfl 1 (by decide) (hts _ wm179) (fun _ h9 => h9) rfl (by decide +kernel) rfl rfl (Nat.le_of_ble_eq_true rfl) dX3_addLast_19 (fun H locs hP hD hS => ?_)
  replace hP : va_P D vwCl ((zTx cI h_X q_X c_characters_1 (c_length + 1) c_parts c_rectangles c_part c_digits c_value)) H := hP
  replace hD : va_D A ((zTx cI h_X q_X c_characters_1 (c_length + 1) c_parts c_rectangles c_part c_digits c_value)) := hD
  refine lv_aload_n hx hb dX3_addLast_22 rfl (lv_at hl 0 rfl) ?_
  refine va_get (D := D) (ci := 3) (v := vI (c_length + 1)) (C := RX3) (T := TX3) (N := 7) hx hb hts zin3 hown hK hP 0 rfl rfl 1 (by decide) (hts _ wm179) (fun _ h9 => h9) rfl dX3_addLast_23 ?_
  obtain rfl := Option.some.inj h
  exact z_iret hx hb hr hlk (fun _ _ => 0) hP hD hS dX3_addLast_26
def f_Tx_makeEmpty (c_length : Int) : Option (Int × Int) :=
  some (c_length, 0)
abbrev rm_Tx_makeEmpty : Room := ({ frames := 0, cells := 0, slots := 0, locals := 0 } : Room)
set_option maxHeartbeats 4000000 in
set_option maxRecDepth 100000 in
theorem c_Tx_makeEmpty (l : Launch) (D : va_G) (cI cZ cT : ClassId) (h_X : Nat) (q_X : Nat → Nat) (c_characters : Nat → Int) (c_length : Int) (c_parts : Nat → Int) (c_rectangles : Int) (c_part : Int) (c_digits : Int) (c_value : Int) (sz : Nat) (res : Int × Int) (h : f_Tx_makeEmpty c_length = some res) : zMi l yX3_makeEmpty cX3_makeEmpty 2 rm_Tx_makeEmpty D (zt cI cZ cT) [.ref h_X] ((zTx cI h_X q_X c_characters c_length c_parts c_rectangles c_part c_digits c_value)) sz (res.1) (fun u => (zTx cI h_X q_X c_characters (res.2) c_parts c_rectangles c_part c_digits c_value)) 0 0 := by
  refine z_enth (Qc := zQi D (res.1) (fun u => (zTx cI h_X q_X c_characters (res.2) c_parts c_rectangles c_part c_digits c_value))) (by decide) (Nat.le_of_ble_eq_true rfl) (fun p e s m args below meth c A ls H locs hF hP hD hS hl => ?_)
  have hx := hF.1.1
  have hb := hF.1.2.1
  have hml := hF.1.2.2.1
  have hown : s.vm.findClass "RectangleTree$RectangleText" = some m.cls := hF.1.2.2.2.1
  have hts := hF.1.2.2.2.2
  have hr := hF.2.1
  have hlk := hF.2.2.1
  have hK := hF.2.2.2.2.1
  have hN := hF.2.2.2.2.2.1
  have hA := hF.2.2.2.2.2.2
  unfold f_Tx_makeEmpty at h
  refine lv_aload_n hx hb dX3_makeEmpty_0 rfl (lv_at hl 0 rfl) ?_
  refine va_get (D := D) (ci := 3) (v := vI c_length) (C := RX3) (T := TX3) (N := 7) hx hb hts zin3 hown hK hP 0 rfl rfl 1 (by decide) (hts _ wm179) (fun _ h9 => h9) rfl dX3_makeEmpty_1 ?_
  refine lv_istore_n (lv' := [(1, vI c_length), (0, .ref h_X)]) hx hb dX3_makeEmpty_4 rfl hl (by decide) rfl (fun ls hl => ?_)
  refine lv_aload_n hx hb dX3_makeEmpty_5 rfl (lv_at hl 1 rfl) ?_
  refine lv_iconst (v := Int32.ofInt 0) hx hb dX3_makeEmpty_6 rfl ?_
  refine va_put (D := D) (ci := 3) (v := vI 0) (ty := .int) (C := RX3) (T := TX3) (N := 7) hx hb hts zin3 tyX3 tyX3_ok nmX3 hown hK hP hD hS 0 rfl rfl 1 (by decide) (hts _ wm179) (fun _ h9 => h9) rfl (by decide +kernel) rfl rfl (Nat.le_of_ble_eq_true rfl) dX3_makeEmpty_7 (fun H locs hP hD hS => ?_)
  replace hP : va_P D vwCl ((zTx cI h_X q_X c_characters 0 c_parts c_rectangles c_part c_digits c_value)) H := hP
  replace hD : va_D A ((zTx cI h_X q_X c_characters 0 c_parts c_rectangles c_part c_digits c_value)) := hD
  refine lv_iload_n hx hb dX3_makeEmpty_10 rfl (lv_at hl 0 rfl) ?_
  obtain rfl := Option.some.inj h
  exact z_iret hx hb hr hlk (fun _ _ => 0) hP hD hS dX3_makeEmpty_11
def f_Tx_partOf (c_parts : Nat → Int) (x1 : Int) (x2 : Int) : Option (Int) :=
  bd1 (f_Rt_at 80 c_parts ((x1 * 4) + x2)) <| fun r_1 => some (r_1)
abbrev rm_Tx_partOf : Room := ({ frames := 1, cells := 0, slots := 0, locals := 21 } : Room)
set_option maxHeartbeats 4000000 in
set_option maxRecDepth 100000 in
theorem c_Tx_partOf (l : Launch) (D : va_G) (cI cZ cT : ClassId) (h_X : Nat) (q_X : Nat → Nat) (c_characters : Nat → Int) (c_length : Int) (c_parts : Nat → Int) (c_rectangles : Int) (c_part : Int) (c_digits : Int) (c_value : Int) (x1 : Int) (x2 : Int) (sz : Nat) (res : Int) (h : f_Tx_partOf c_parts x1 x2 = some res) : zMi l yX3_partOf cX3_partOf 3 rm_Tx_partOf D (zt cI cZ cT) [.ref h_X, vI x1, vI x2] ((zTx cI h_X q_X c_characters c_length c_parts c_rectangles c_part c_digits c_value)) sz (res) (fun u => (zTx cI h_X q_X c_characters c_length c_parts c_rectangles c_part c_digits c_value)) 0 0 := by
  refine z_enth (Qc := zQi D (res) (fun u => (zTx cI h_X q_X c_characters c_length c_parts c_rectangles c_part c_digits c_value))) (by decide) (Nat.le_of_ble_eq_true rfl) (fun p e s m args below meth c A ls H locs hF hP hD hS hl => ?_)
  have hx := hF.1.1
  have hb := hF.1.2.1
  have hml := hF.1.2.2.1
  have hown : s.vm.findClass "RectangleTree$RectangleText" = some m.cls := hF.1.2.2.2.1
  have hts := hF.1.2.2.2.2
  have hr := hF.2.1
  have hlk := hF.2.2.1
  have hK := hF.2.2.2.2.1
  have hN := hF.2.2.2.2.2.1
  have hA := hF.2.2.2.2.2.2
  unfold f_Tx_partOf at h
  refine lv_aload_n hx hb dX3_partOf_0 rfl (lv_at hl 0 rfl) ?_
  refine va_get (D := D) (ci := 3) (v := .ref (q_X 1)) (C := RX3) (T := TX3) (N := 7) hx hb hts zin3 hown hK hP 0 rfl rfl 2 (by decide) (hts _ wm180) (fun _ h9 => h9) rfl dX3_partOf_1 ?_
  refine lv_iload_n hx hb dX3_partOf_4 rfl (lv_at hl 1 rfl) ?_
  refine lv_iconst (v := Int32.ofInt 4) hx hb dX3_partOf_5 rfl ?_
  refine z_imul hx hb dX3_partOf_6 ?_
  refine lv_iload_n hx hb dX3_partOf_7 rfl (lv_at hl 2 rfl) ?_
  refine z_iadd hx hb dX3_partOf_8 ?_
  obtain ⟨r_1, e_2, h⟩ := bd1_e h
  refine z_goi (ws' := []) (ret := r_1) (wc := (zAr cI ((q_X 1)) (80) (c_parts))) (wn := fun u_3 => (zTx cI h_X q_X c_characters c_length c_parts c_rectangles c_part c_digits c_value)) (wr := ([0, 1].filterMap (fun i => ((zTx cI h_X q_X c_characters c_length c_parts c_rectangles c_part c_digits c_value))[i]?))) (va_runSN (As := [.ref (q_X 1), vI ((x1 * 4) + x2)]) (rest := []) hF.1 (c_Rt_at l D cI cZ cT (q_X 1) 80 c_parts ((x1 * 4) + x2) H.size (r_1) e_2) ⟨va_cnB 2 hts (zW_good wm229) rfl rfl rfl (hN.at 12 rfl) (hts _ wm32) (by decide +kernel) ⟨Nat.le_of_ble_eq_true rfl, Nat.le_of_ble_eq_true rfl⟩, hts _ wm228, trivial⟩ ⟨zP.blind, zP.enter (z_subP (ws' := (zAr cI ((q_X 1)) (80) (c_parts))) hP [2] rfl) hK (hD.sub [2] (by decide) rfl) hN⟩ rfl rfl hl.1 rfl (lv_room (Nat.le_of_ble_eq_true rfl)) dX3_partOf_9 ⟨Nat.le_refl _, Nat.le_refl _⟩) hP hD hS hA [2] [0, 1] [0, 1, 2] rfl rfl (by decide) (fun _ => rfl) (fun u_3 H locs hP hD hS hz => ?_)
  obtain rfl := Option.some.inj h
  exact z_iret hx hb hr hlk (fun _ _ => 0) hP hD hS dX3_partOf_12
def f_Tx_leastNumber (c_parts : Nat → Int) (c_rectangles : Int) (c_part : Int) : Option (Int) :=
  gd (ck c_part) <| if c_part < 2 then (some (0)) else (bd1 (f_Rt_at 80 c_parts (((c_rectangles * 4) + c_part) - 2)) <| fun r_3 => some (r_3))
abbrev rm_Tx_leastNumber : Room := ({ frames := 1, cells := 0, slots := 0, locals := 21 } : Room)
set_option maxHeartbeats 4000000 in
set_option maxRecDepth 100000 in
theorem c_Tx_leastNumber (l : Launch) (D : va_G) (cI cZ cT : ClassId) (h_X : Nat) (q_X : Nat → Nat) (c_characters : Nat → Int) (c_length : Int) (c_parts : Nat → Int) (c_rectangles : Int) (c_part : Int) (c_digits : Int) (c_value : Int) (sz : Nat) (res : Int) (h : f_Tx_leastNumber c_parts c_rectangles c_part = some res) : zMi l yX3_leastNumber cX3_leastNumber 1 rm_Tx_leastNumber D (zt cI cZ cT) [.ref h_X] ((zTx cI h_X q_X c_characters c_length c_parts c_rectangles c_part c_digits c_value)) sz (res) (fun u => (zTx cI h_X q_X c_characters c_length c_parts c_rectangles c_part c_digits c_value)) 0 0 := by
  refine z_enth (Qc := zQi D (res) (fun u => (zTx cI h_X q_X c_characters c_length c_parts c_rectangles c_part c_digits c_value))) (by decide) (Nat.le_of_ble_eq_true rfl) (fun p e s m args below meth c A ls H locs hF hP hD hS hl => ?_)
  have hx := hF.1.1
  have hb := hF.1.2.1
  have hml := hF.1.2.2.1
  have hown : s.vm.findClass "RectangleTree$RectangleText" = some m.cls := hF.1.2.2.2.1
  have hts := hF.1.2.2.2.2
  have hr := hF.2.1
  have hlk := hF.2.2.1
  have hK := hF.2.2.2.2.1
  have hN := hF.2.2.2.2.2.1
  have hA := hF.2.2.2.2.2.2
  unfold f_Tx_leastNumber at h
  refine lv_aload_n hx hb dX3_leastNumber_0 rfl (lv_at hl 0 rfl) ?_
  refine va_get (D := D) (ci := 3) (v := vI c_part) (C := RX3) (T := TX3) (N := 7) hx hb hts zin3 hown hK hP 0 rfl rfl 4 (by decide) (hts _ wm183) (fun _ h9 => h9) rfl dX3_leastNumber_1 ?_
  refine lv_iconst (v := Int32.ofInt 2) hx hb dX3_leastNumber_4 rfl ?_
  obtain ⟨g_1, h⟩ := gd_e h
  refine z_icmp_ge (tgt := 12) hx hb g_1 (by decide) dX3_leastNumber_5 (by decide) (fun b_2 => ?_) (fun b_2 => ?_)
  · have h := it_n b_2 h
    refine lv_aload_n hx hb dX3_leastNumber_12 rfl (lv_at hl 0 rfl) ?_
    refine va_get (D := D) (ci := 3) (v := .ref (q_X 1)) (C := RX3) (T := TX3) (N := 7) hx hb hts zin3 hown hK hP 0 rfl rfl 2 (by decide) (hts _ wm180) (fun _ h9 => h9) rfl dX3_leastNumber_13 ?_
    refine lv_aload_n hx hb dX3_leastNumber_16 rfl (lv_at hl 0 rfl) ?_
    refine va_get (D := D) (ci := 3) (v := vI c_rectangles) (C := RX3) (T := TX3) (N := 7) hx hb hts zin3 hown hK hP 0 rfl rfl 3 (by decide) (hts _ wm181) (fun _ h9 => h9) rfl dX3_leastNumber_17 ?_
    refine lv_iconst (v := Int32.ofInt 4) hx hb dX3_leastNumber_20 rfl ?_
    refine z_imul hx hb dX3_leastNumber_21 ?_
    refine lv_aload_n hx hb dX3_leastNumber_22 rfl (lv_at hl 0 rfl) ?_
    refine va_get (D := D) (ci := 3) (v := vI c_part) (C := RX3) (T := TX3) (N := 7) hx hb hts zin3 hown hK hP 0 rfl rfl 4 (by decide) (hts _ wm183) (fun _ h9 => h9) rfl dX3_leastNumber_23 ?_
    refine z_iadd hx hb dX3_leastNumber_26 ?_
    refine lv_iconst (v := Int32.ofInt 2) hx hb dX3_leastNumber_27 rfl ?_
    refine z_isub hx hb dX3_leastNumber_28 ?_
    obtain ⟨r_3, e_4, h⟩ := bd1_e h
    refine z_goi (ws' := []) (ret := r_3) (wc := (zAr cI ((q_X 1)) (80) (c_parts))) (wn := fun u_5 => (zTx cI h_X q_X c_characters c_length c_parts c_rectangles c_part c_digits c_value)) (wr := ([0, 1].filterMap (fun i => ((zTx cI h_X q_X c_characters c_length c_parts c_rectangles c_part c_digits c_value))[i]?))) (va_runSN (As := [.ref (q_X 1), vI (((c_rectangles * 4) + c_part) - 2)]) (rest := []) hF.1 (c_Rt_at l D cI cZ cT (q_X 1) 80 c_parts (((c_rectangles * 4) + c_part) - 2) H.size (r_3) e_4) ⟨va_cnB 2 hts (zW_good wm229) rfl rfl rfl (hN.at 12 rfl) (hts _ wm32) (by decide +kernel) ⟨Nat.le_of_ble_eq_true rfl, Nat.le_of_ble_eq_true rfl⟩, hts _ wm228, trivial⟩ ⟨zP.blind, zP.enter (z_subP (ws' := (zAr cI ((q_X 1)) (80) (c_parts))) hP [2] rfl) hK (hD.sub [2] (by decide) rfl) hN⟩ rfl rfl hl.1 rfl (lv_room (Nat.le_of_ble_eq_true rfl)) dX3_leastNumber_29 ⟨Nat.le_refl _, Nat.le_refl _⟩) hP hD hS hA [2] [0, 1] [0, 1, 2] rfl rfl (by decide) (fun _ => rfl) (fun u_5 H locs hP hD hS hz => ?_)
    obtain rfl := Option.some.inj h
    exact z_iret hx hb hr hlk (fun _ _ => 0) hP hD hS dX3_leastNumber_32
  · have h := it_p b_2 h
    refine lv_iconst (v := Int32.ofInt 0) hx hb dX3_leastNumber_8 rfl ?_
    refine lv_goto (tgt := 32) hx hb dX3_leastNumber_9 (by decide) ?_
    obtain rfl := Option.some.inj h
    exact z_iret hx hb hr hlk (fun _ _ => 0) hP hD hS dX3_leastNumber_32
def f_Tx_takeDigit (c_parts : Nat → Int) (c_rectangles : Int) (c_part : Int) (c_digits : Int) (c_value : Int) (x1 : Int) : Option (Int × Int × Int) :=
  gd (ck c_digits) <| if c_digits = 2 then (some (0, c_digits, c_value)) else (if c_digits = 1 then (gd (ck c_value) <| if c_value = 0 then (some (0, c_digits, c_value)) else (if c_digits = 0 then (gd (ck x1) <| if 0 < x1 then (bd1 (f_Tx_leastNumber c_parts c_rectangles c_part) <| fun r_42 => gd (ck ((((c_value * 10) + x1) * 10) + 9)) <| gd (ck r_42) <| if ((((c_value * 10) + x1) * 10) + 9) < r_42 then (some (0, c_digits, c_value)) else (some (1, (c_digits + 1), ((c_value * 10) + x1)))) else (bd1 (f_Tx_leastNumber c_parts c_rectangles c_part) <| fun r_36 => gd (ck ((c_value * 10) + x1)) <| gd (ck r_36) <| if ((c_value * 10) + x1) < r_36 then (some (0, c_digits, c_value)) else (some (1, (c_digits + 1), ((c_value * 10) + x1))))) else (bd1 (f_Tx_leastNumber c_parts c_rectangles c_part) <| fun r_28 => gd (ck ((c_value * 10) + x1)) <| gd (ck r_28) <| if ((c_value * 10) + x1) < r_28 then (some (0, c_digits, c_value)) else (some (1, (c_digits + 1), ((c_value * 10) + x1)))))) else (if c_digits = 0 then (gd (ck x1) <| if 0 < x1 then (bd1 (f_Tx_leastNumber c_parts c_rectangles c_part) <| fun r_19 => gd (ck ((((c_value * 10) + x1) * 10) + 9)) <| gd (ck r_19) <| if ((((c_value * 10) + x1) * 10) + 9) < r_19 then (some (0, c_digits, c_value)) else (some (1, (c_digits + 1), ((c_value * 10) + x1)))) else (bd1 (f_Tx_leastNumber c_parts c_rectangles c_part) <| fun r_13 => gd (ck ((c_value * 10) + x1)) <| gd (ck r_13) <| if ((c_value * 10) + x1) < r_13 then (some (0, c_digits, c_value)) else (some (1, (c_digits + 1), ((c_value * 10) + x1))))) else (bd1 (f_Tx_leastNumber c_parts c_rectangles c_part) <| fun r_5 => gd (ck ((c_value * 10) + x1)) <| gd (ck r_5) <| if ((c_value * 10) + x1) < r_5 then (some (0, c_digits, c_value)) else (some (1, (c_digits + 1), ((c_value * 10) + x1))))))
abbrev rm_Tx_takeDigit : Room := ({ frames := 2, cells := 0, slots := 0, locals := 41 } : Room)
set_option maxHeartbeats 4000000 in
set_option maxRecDepth 100000 in
theorem c_Tx_takeDigit (l : Launch) (D : va_G) (cI cZ cT : ClassId) (h_X : Nat) (q_X : Nat → Nat) (c_characters : Nat → Int) (c_length : Int) (c_parts : Nat → Int) (c_rectangles : Int) (c_part : Int) (c_digits : Int) (c_value : Int) (x1 : Int) (sz : Nat) (res : Int × Int × Int) (h : f_Tx_takeDigit c_parts c_rectangles c_part c_digits c_value x1 = some res) : zMz l yX3_takeDigit cX3_takeDigit 4 rm_Tx_takeDigit D (zt cI cZ cT) [.ref h_X, vI x1] ((zTx cI h_X q_X c_characters c_length c_parts c_rectangles c_part c_digits c_value)) sz (res.1) (fun u => (zTx cI h_X q_X c_characters c_length c_parts c_rectangles c_part (res.2.1) (res.2.2))) 0 0 := by
  refine z_enth (Qc := zQi D (res.1) (fun u => (zTx cI h_X q_X c_characters c_length c_parts c_rectangles c_part (res.2.1) (res.2.2)))) (by decide) (Nat.le_of_ble_eq_true rfl) (fun p e s m args below meth c A ls H locs hF hP hD hS hl => ?_)
  have hx := hF.1.1
  have hb := hF.1.2.1
  have hml := hF.1.2.2.1
  have hown : s.vm.findClass "RectangleTree$RectangleText" = some m.cls := hF.1.2.2.2.1
  have hts := hF.1.2.2.2.2
  have hr := hF.2.1
  have hlk := hF.2.2.1
  have hK := hF.2.2.2.2.1
  have hN := hF.2.2.2.2.2.1
  have hA := hF.2.2.2.2.2.2
  unfold f_Tx_takeDigit at h
  refine lv_aload_n hx hb dX3_takeDigit_0 rfl (lv_at hl 0 rfl) ?_
  refine va_get (D := D) (ci := 3) (v := vI c_digits) (C := RX3) (T := TX3) (N := 7) hx hb hts zin3 hown hK hP 0 rfl rfl 5 (by decide) (hts _ wm184) (fun _ h9 => h9) rfl dX3_takeDigit_1 ?_
  refine lv_iconst (v := Int32.ofInt 2) hx hb dX3_takeDigit_4 rfl ?_
  obtain ⟨g_1, h⟩ := gd_e h
  refine z_icmp_eq (tgt := 23) hx hb g_1 (by decide) dX3_takeDigit_5 (by decide) (fun b_2 => ?_) (fun b_2 => ?_)
  · have h := it_p b_2 h
    refine lv_iconst (v := Int32.ofInt 0) hx hb dX3_takeDigit_23 rfl ?_
    obtain rfl := Option.some.inj h
    exact z_zret hx hb hr hlk (show narrow .boolean (.int (Int32.ofInt 0)) = .int (Int32.ofInt 0) from by decide) (fun _ _ => 0) hP hD hS dX3_takeDigit_24
  · have h := it_n b_2 h
    refine lv_aload_n hx hb dX3_takeDigit_8 rfl (lv_at hl 0 rfl) ?_
    refine va_get (D := D) (ci := 3) (v := vI c_digits) (C := RX3) (T := TX3) (N := 7) hx hb hts zin3 hown hK hP 0 rfl rfl 5 (by decide) (hts _ wm184) (fun _ h9 => h9) rfl dX3_takeDigit_9 ?_
    refine lv_iconst (v := Int32.ofInt 1) hx hb dX3_takeDigit_12 rfl ?_
    refine z_icmp_ne (tgt := 25) hx hb g_1 (by decide) dX3_takeDigit_13 (by decide) (fun b_3 => ?_) (fun b_3 => ?_)
    · have h := it_n b_3 h
      refine lv_aload_n hx hb dX3_takeDigit_25 rfl (lv_at hl 0 rfl) ?_
      refine va_get (D := D) (ci := 3) (v := vI c_value) (C := RX3) (T := TX3) (N := 7) hx hb hts zin3 hown hK hP 0 rfl rfl 6 (by decide) (hts _ wm185) (fun _ h9 => h9) rfl dX3_takeDigit_26 ?_
      refine lv_bipush (v := Int32.ofInt 10) hx hb dX3_takeDigit_29 (by decide +kernel) ?_
      refine z_imul hx hb dX3_takeDigit_31 ?_
      refine lv_iload_n hx hb dX3_takeDigit_32 rfl (lv_at hl 1 rfl) ?_
      refine z_iadd hx hb dX3_takeDigit_33 ?_
      refine lv_istore_n (lv' := [(2, vI ((c_value * 10) + x1)), (0, .ref h_X), (1, vI x1)]) hx hb dX3_takeDigit_34 rfl hl (by decide) rfl (fun ls hl => ?_)
      refine lv_aload_n hx hb dX3_takeDigit_35 rfl (lv_at hl 1 rfl) ?_
      refine va_get (D := D) (ci := 3) (v := vI c_digits) (C := RX3) (T := TX3) (N := 7) hx hb hts zin3 hown hK hP 0 rfl rfl 5 (by decide) (hts _ wm184) (fun _ h9 => h9) rfl dX3_takeDigit_36 ?_
      refine z_if_ne (tgt := 56) hx hb g_1 dX3_takeDigit_39 (by decide) (fun b_4 => ?_) (fun b_4 => ?_)
      · have h := it_n b_4 h
        refine lv_iload_n hx hb dX3_takeDigit_56 rfl (lv_at hl 0 rfl) ?_
        refine lv_istore_n (lv' := [(3, vI ((c_value * 10) + x1)), (2, vI ((c_value * 10) + x1)), (0, .ref h_X), (1, vI x1)]) hx hb dX3_takeDigit_57 rfl hl (by decide) rfl (fun ls hl => ?_)
        refine lv_iload_n hx hb dX3_takeDigit_58 rfl (lv_at hl 0 rfl) ?_
        refine lv_aload_n hx hb dX3_takeDigit_59 rfl (lv_at hl 2 rfl) ?_
        obtain ⟨r_5, e_6, h⟩ := bd1_e h
        refine z_goi (ws' := []) (ret := r_5) (wc := (zTx cI (h_X) (q_X) (c_characters) (c_length) (c_parts) (c_rectangles) (c_part) (c_digits) (c_value))) (wn := fun u_7 => (zTx cI h_X q_X c_characters c_length c_parts c_rectangles c_part c_digits c_value)) (wr := []) (va_runV (As := []) (rest := [vI ((c_value * 10) + x1)]) hF.1 (c_Tx_leastNumber l D cI cZ cT h_X q_X c_characters c_length c_parts c_rectangles c_part c_digits c_value H.size (r_5) e_6) (cwV 0 hts (zgV wm740 wm742 wm29 wm38 wm743) rfl rfl rfl (by decide +kernel) ⟨Nat.le_of_ble_eq_true rfl, Nat.le_of_ble_eq_true rfl⟩) ⟨zP.blind, va_recv hK (z_subP (ws' := (zTx cI (h_X) (q_X) (c_characters) (c_length) (c_parts) (c_rectangles) (c_part) (c_digits) (c_value))) hP [0, 1, 2] rfl) (ci := 3) (q0 := 0) rfl rfl, zP.enter (z_subP (ws' := (zTx cI (h_X) (q_X) (c_characters) (c_length) (c_parts) (c_rectangles) (c_part) (c_digits) (c_value))) hP [0, 1, 2] rfl) hK (hD.sub [0, 1, 2] (by decide) rfl) hN⟩ rfl rfl hl.1 rfl (lv_room (Nat.le_of_ble_eq_true rfl)) dX3_takeDigit_60 ⟨Nat.le_refl _, Nat.le_refl _⟩) hP hD hS hA [0, 1, 2] [] [0, 1, 2] rfl rfl (by decide) (fun _ => rfl) (fun u_7 H locs hP hD hS hz => ?_)
        obtain ⟨g_8, h⟩ := gd_e h
        obtain ⟨g_9, h⟩ := gd_e h
        refine z_icmp_ge (tgt := 68) hx hb g_8 g_9 dX3_takeDigit_63 (by decide) (fun b_10 => ?_) (fun b_10 => ?_)
        · have h := it_n b_10 h
          refine lv_aload_n hx hb dX3_takeDigit_68 rfl (lv_at hl 2 rfl) ?_
          refine lv_iload_n hx hb dX3_takeDigit_69 rfl (lv_at hl 1 rfl) ?_
          refine va_put (D := D) (ci := 3) (v := vI ((c_value * 10) + x1)) (ty := .int) (C := RX3) (T := TX3) (N := 7) hx hb hts zin3 tyX3 tyX3_ok nmX3 hown hK hP hD hS 0 rfl rfl 6 (by decide) (hts _ wm185) (fun _ h9 => h9) rfl (by decide +kernel) rfl rfl (Nat.le_of_ble_eq_true rfl) dX3_takeDigit_70 (fun H locs hP hD hS => ?_)
          replace hP : va_P D vwCl ((zTx cI h_X q_X c_characters c_length c_parts c_rectangles c_part c_digits ((c_value * 10) + x1))) H := hP
          replace hD : va_D A ((zTx cI h_X q_X c_characters c_length c_parts c_rectangles c_part c_digits ((c_value * 10) + x1))) := hD
          refine lv_aload_n hx hb dX3_takeDigit_73 rfl (lv_at hl 2 rfl) ?_
          refine lv_dup hx hb dX3_takeDigit_74 rfl ?_
          refine va_get (D := D) (ci := 3) (v := vI c_digits) (C := RX3) (T := TX3) (N := 7) hx hb hts zin3 hown hK hP 0 rfl rfl 5 (by decide) (hts _ wm184) (fun _ h9 => h9) rfl dX3_takeDigit_75 ?_
          refine lv_iconst (v := Int32.ofInt 1) hx hb dX3_takeDigit_78 rfl ?_
          refine z_iadd hx hb dX3_takeDigit_79 ?_
          refine va_put (D := D) (ci := 3) (v := vI (c_digits + 1)) (ty := .int) (C := RX3) (T := TX3) (N := 7) hx hb hts zin3 tyX3 tyX3_ok nmX3 hown hK hP hD hS 0 rfl rfl 5 (by decide) (hts _ wm184) (fun _ h9 => h9) rfl (by decide +kernel) rfl rfl (Nat.le_of_ble_eq_true rfl) dX3_takeDigit_80 (fun H locs hP hD hS => ?_)
          replace hP : va_P D vwCl ((zTx cI h_X q_X c_characters c_length c_parts c_rectangles c_part (c_digits + 1) ((c_value * 10) + x1))) H := hP
          replace hD : va_D A ((zTx cI h_X q_X c_characters c_length c_parts c_rectangles c_part (c_digits + 1) ((c_value * 10) + x1))) := hD
          refine lv_iconst (v := Int32.ofInt 1) hx hb dX3_takeDigit_83 rfl ?_
          obtain rfl := Option.some.inj h
          exact z_zret hx hb hr hlk (show narrow .boolean (.int (Int32.ofInt 1)) = .int (Int32.ofInt 1) from by decide) (fun _ _ => 0) hP hD hS dX3_takeDigit_84
        · have h := it_p b_10 h
          refine lv_iconst (v := Int32.ofInt 0) hx hb dX3_takeDigit_66 rfl ?_
          obtain rfl := Option.some.inj h
          exact z_zret hx hb hr hlk (show narrow .boolean (.int (Int32.ofInt 0)) = .int (Int32.ofInt 0) from by decide) (fun _ _ => 0) hP hD hS dX3_takeDigit_67
      · have h := it_p b_4 h
        refine lv_iload_n hx hb dX3_takeDigit_42 rfl (lv_at hl 2 rfl) ?_
        obtain ⟨g_11, h⟩ := gd_e h
        refine z_if_le (tgt := 56) hx hb g_11 dX3_takeDigit_43 (by decide) (fun b_12 => ?_) (fun b_12 => ?_)
        · have h := it_n b_12 h
          refine lv_iload_n hx hb dX3_takeDigit_56 rfl (lv_at hl 0 rfl) ?_
          refine lv_istore_n (lv' := [(3, vI ((c_value * 10) + x1)), (2, vI ((c_value * 10) + x1)), (0, .ref h_X), (1, vI x1)]) hx hb dX3_takeDigit_57 rfl hl (by decide) rfl (fun ls hl => ?_)
          refine lv_iload_n hx hb dX3_takeDigit_58 rfl (lv_at hl 0 rfl) ?_
          refine lv_aload_n hx hb dX3_takeDigit_59 rfl (lv_at hl 2 rfl) ?_
          obtain ⟨r_13, e_14, h⟩ := bd1_e h
          refine z_goi (ws' := []) (ret := r_13) (wc := (zTx cI (h_X) (q_X) (c_characters) (c_length) (c_parts) (c_rectangles) (c_part) (c_digits) (c_value))) (wn := fun u_15 => (zTx cI h_X q_X c_characters c_length c_parts c_rectangles c_part c_digits c_value)) (wr := []) (va_runV (As := []) (rest := [vI ((c_value * 10) + x1)]) hF.1 (c_Tx_leastNumber l D cI cZ cT h_X q_X c_characters c_length c_parts c_rectangles c_part c_digits c_value H.size (r_13) e_14) (cwV 0 hts (zgV wm740 wm742 wm29 wm38 wm743) rfl rfl rfl (by decide +kernel) ⟨Nat.le_of_ble_eq_true rfl, Nat.le_of_ble_eq_true rfl⟩) ⟨zP.blind, va_recv hK (z_subP (ws' := (zTx cI (h_X) (q_X) (c_characters) (c_length) (c_parts) (c_rectangles) (c_part) (c_digits) (c_value))) hP [0, 1, 2] rfl) (ci := 3) (q0 := 0) rfl rfl, zP.enter (z_subP (ws' := (zTx cI (h_X) (q_X) (c_characters) (c_length) (c_parts) (c_rectangles) (c_part) (c_digits) (c_value))) hP [0, 1, 2] rfl) hK (hD.sub [0, 1, 2] (by decide) rfl) hN⟩ rfl rfl hl.1 rfl (lv_room (Nat.le_of_ble_eq_true rfl)) dX3_takeDigit_60 ⟨Nat.le_refl _, Nat.le_refl _⟩) hP hD hS hA [0, 1, 2] [] [0, 1, 2] rfl rfl (by decide) (fun _ => rfl) (fun u_15 H locs hP hD hS hz => ?_)
          obtain ⟨g_16, h⟩ := gd_e h
          obtain ⟨g_17, h⟩ := gd_e h
          refine z_icmp_ge (tgt := 68) hx hb g_16 g_17 dX3_takeDigit_63 (by decide) (fun b_18 => ?_) (fun b_18 => ?_)
          · have h := it_n b_18 h
            refine lv_aload_n hx hb dX3_takeDigit_68 rfl (lv_at hl 2 rfl) ?_
            refine lv_iload_n hx hb dX3_takeDigit_69 rfl (lv_at hl 1 rfl) ?_
            refine va_put (D := D) (ci := 3) (v := vI ((c_value * 10) + x1)) (ty := .int) (C := RX3) (T := TX3) (N := 7) hx hb hts zin3 tyX3 tyX3_ok nmX3 hown hK hP hD hS 0 rfl rfl 6 (by decide) (hts _ wm185) (fun _ h9 => h9) rfl (by decide +kernel) rfl rfl (Nat.le_of_ble_eq_true rfl) dX3_takeDigit_70 (fun H locs hP hD hS => ?_)
            replace hP : va_P D vwCl ((zTx cI h_X q_X c_characters c_length c_parts c_rectangles c_part c_digits ((c_value * 10) + x1))) H := hP
            replace hD : va_D A ((zTx cI h_X q_X c_characters c_length c_parts c_rectangles c_part c_digits ((c_value * 10) + x1))) := hD
            refine lv_aload_n hx hb dX3_takeDigit_73 rfl (lv_at hl 2 rfl) ?_
            refine lv_dup hx hb dX3_takeDigit_74 rfl ?_
            refine va_get (D := D) (ci := 3) (v := vI c_digits) (C := RX3) (T := TX3) (N := 7) hx hb hts zin3 hown hK hP 0 rfl rfl 5 (by decide) (hts _ wm184) (fun _ h9 => h9) rfl dX3_takeDigit_75 ?_
            refine lv_iconst (v := Int32.ofInt 1) hx hb dX3_takeDigit_78 rfl ?_
            refine z_iadd hx hb dX3_takeDigit_79 ?_
            refine va_put (D := D) (ci := 3) (v := vI (c_digits + 1)) (ty := .int) (C := RX3) (T := TX3) (N := 7) hx hb hts zin3 tyX3 tyX3_ok nmX3 hown hK hP hD hS 0 rfl rfl 5 (by decide) (hts _ wm184) (fun _ h9 => h9) rfl (by decide +kernel) rfl rfl (Nat.le_of_ble_eq_true rfl) dX3_takeDigit_80 (fun H locs hP hD hS => ?_)
            replace hP : va_P D vwCl ((zTx cI h_X q_X c_characters c_length c_parts c_rectangles c_part (c_digits + 1) ((c_value * 10) + x1))) H := hP
            replace hD : va_D A ((zTx cI h_X q_X c_characters c_length c_parts c_rectangles c_part (c_digits + 1) ((c_value * 10) + x1))) := hD
            refine lv_iconst (v := Int32.ofInt 1) hx hb dX3_takeDigit_83 rfl ?_
            obtain rfl := Option.some.inj h
            exact z_zret hx hb hr hlk (show narrow .boolean (.int (Int32.ofInt 1)) = .int (Int32.ofInt 1) from by decide) (fun _ _ => 0) hP hD hS dX3_takeDigit_84
          · have h := it_p b_18 h
            refine lv_iconst (v := Int32.ofInt 0) hx hb dX3_takeDigit_66 rfl ?_
            obtain rfl := Option.some.inj h
            exact z_zret hx hb hr hlk (show narrow .boolean (.int (Int32.ofInt 0)) = .int (Int32.ofInt 0) from by decide) (fun _ _ => 0) hP hD hS dX3_takeDigit_67
        · have h := it_p b_12 h
          refine lv_iload_n hx hb dX3_takeDigit_46 rfl (lv_at hl 0 rfl) ?_
          refine lv_bipush (v := Int32.ofInt 10) hx hb dX3_takeDigit_47 (by decide +kernel) ?_
          refine z_imul hx hb dX3_takeDigit_49 ?_
          refine lv_bipush (v := Int32.ofInt 9) hx hb dX3_takeDigit_50 (by decide +kernel) ?_
          refine z_iadd hx hb dX3_takeDigit_52 ?_
          refine lv_goto (tgt := 57) hx hb dX3_takeDigit_53 (by decide) ?_
          refine lv_istore_n (lv' := [(3, vI ((((c_value * 10) + x1) * 10) + 9)), (2, vI ((c_value * 10) + x1)), (0, .ref h_X), (1, vI x1)]) hx hb dX3_takeDigit_57 rfl hl (by decide) rfl (fun ls hl => ?_)
          refine lv_iload_n hx hb dX3_takeDigit_58 rfl (lv_at hl 0 rfl) ?_
          refine lv_aload_n hx hb dX3_takeDigit_59 rfl (lv_at hl 2 rfl) ?_
          obtain ⟨r_19, e_20, h⟩ := bd1_e h
          refine z_goi (ws' := []) (ret := r_19) (wc := (zTx cI (h_X) (q_X) (c_characters) (c_length) (c_parts) (c_rectangles) (c_part) (c_digits) (c_value))) (wn := fun u_21 => (zTx cI h_X q_X c_characters c_length c_parts c_rectangles c_part c_digits c_value)) (wr := []) (va_runV (As := []) (rest := [vI ((((c_value * 10) + x1) * 10) + 9)]) hF.1 (c_Tx_leastNumber l D cI cZ cT h_X q_X c_characters c_length c_parts c_rectangles c_part c_digits c_value H.size (r_19) e_20) (cwV 0 hts (zgV wm740 wm742 wm29 wm38 wm743) rfl rfl rfl (by decide +kernel) ⟨Nat.le_of_ble_eq_true rfl, Nat.le_of_ble_eq_true rfl⟩) ⟨zP.blind, va_recv hK (z_subP (ws' := (zTx cI (h_X) (q_X) (c_characters) (c_length) (c_parts) (c_rectangles) (c_part) (c_digits) (c_value))) hP [0, 1, 2] rfl) (ci := 3) (q0 := 0) rfl rfl, zP.enter (z_subP (ws' := (zTx cI (h_X) (q_X) (c_characters) (c_length) (c_parts) (c_rectangles) (c_part) (c_digits) (c_value))) hP [0, 1, 2] rfl) hK (hD.sub [0, 1, 2] (by decide) rfl) hN⟩ rfl rfl hl.1 rfl (lv_room (Nat.le_of_ble_eq_true rfl)) dX3_takeDigit_60 ⟨Nat.le_refl _, Nat.le_refl _⟩) hP hD hS hA [0, 1, 2] [] [0, 1, 2] rfl rfl (by decide) (fun _ => rfl) (fun u_21 H locs hP hD hS hz => ?_)
          obtain ⟨g_22, h⟩ := gd_e h
          obtain ⟨g_23, h⟩ := gd_e h
          refine z_icmp_ge (tgt := 68) hx hb g_22 g_23 dX3_takeDigit_63 (by decide) (fun b_24 => ?_) (fun b_24 => ?_)
          · have h := it_n b_24 h
            refine lv_aload_n hx hb dX3_takeDigit_68 rfl (lv_at hl 2 rfl) ?_
            refine lv_iload_n hx hb dX3_takeDigit_69 rfl (lv_at hl 1 rfl) ?_
            refine va_put (D := D) (ci := 3) (v := vI ((c_value * 10) + x1)) (ty := .int) (C := RX3) (T := TX3) (N := 7) hx hb hts zin3 tyX3 tyX3_ok nmX3 hown hK hP hD hS 0 rfl rfl 6 (by decide) (hts _ wm185) (fun _ h9 => h9) rfl (by decide +kernel) rfl rfl (Nat.le_of_ble_eq_true rfl) dX3_takeDigit_70 (fun H locs hP hD hS => ?_)
            replace hP : va_P D vwCl ((zTx cI h_X q_X c_characters c_length c_parts c_rectangles c_part c_digits ((c_value * 10) + x1))) H := hP
            replace hD : va_D A ((zTx cI h_X q_X c_characters c_length c_parts c_rectangles c_part c_digits ((c_value * 10) + x1))) := hD
            refine lv_aload_n hx hb dX3_takeDigit_73 rfl (lv_at hl 2 rfl) ?_
            refine lv_dup hx hb dX3_takeDigit_74 rfl ?_
            refine va_get (D := D) (ci := 3) (v := vI c_digits) (C := RX3) (T := TX3) (N := 7) hx hb hts zin3 hown hK hP 0 rfl rfl 5 (by decide) (hts _ wm184) (fun _ h9 => h9) rfl dX3_takeDigit_75 ?_
            refine lv_iconst (v := Int32.ofInt 1) hx hb dX3_takeDigit_78 rfl ?_
            refine z_iadd hx hb dX3_takeDigit_79 ?_
            refine va_put (D := D) (ci := 3) (v := vI (c_digits + 1)) (ty := .int) (C := RX3) (T := TX3) (N := 7) hx hb hts zin3 tyX3 tyX3_ok nmX3 hown hK hP hD hS 0 rfl rfl 5 (by decide) (hts _ wm184) (fun _ h9 => h9) rfl (by decide +kernel) rfl rfl (Nat.le_of_ble_eq_true rfl) dX3_takeDigit_80 (fun H locs hP hD hS => ?_)
            replace hP : va_P D vwCl ((zTx cI h_X q_X c_characters c_length c_parts c_rectangles c_part (c_digits + 1) ((c_value * 10) + x1))) H := hP
            replace hD : va_D A ((zTx cI h_X q_X c_characters c_length c_parts c_rectangles c_part (c_digits + 1) ((c_value * 10) + x1))) := hD
            refine lv_iconst (v := Int32.ofInt 1) hx hb dX3_takeDigit_83 rfl ?_
            obtain rfl := Option.some.inj h
            exact z_zret hx hb hr hlk (show narrow .boolean (.int (Int32.ofInt 1)) = .int (Int32.ofInt 1) from by decide) (fun _ _ => 0) hP hD hS dX3_takeDigit_84
          · have h := it_p b_24 h
            refine lv_iconst (v := Int32.ofInt 0) hx hb dX3_takeDigit_66 rfl ?_
            obtain rfl := Option.some.inj h
            exact z_zret hx hb hr hlk (show narrow .boolean (.int (Int32.ofInt 0)) = .int (Int32.ofInt 0) from by decide) (fun _ _ => 0) hP hD hS dX3_takeDigit_67
    · have h := it_p b_3 h
      refine lv_aload_n hx hb dX3_takeDigit_16 rfl (lv_at hl 0 rfl) ?_
      refine va_get (D := D) (ci := 3) (v := vI c_value) (C := RX3) (T := TX3) (N := 7) hx hb hts zin3 hown hK hP 0 rfl rfl 6 (by decide) (hts _ wm185) (fun _ h9 => h9) rfl dX3_takeDigit_17 ?_
      obtain ⟨g_25, h⟩ := gd_e h
      refine z_if_ne (tgt := 25) hx hb g_25 dX3_takeDigit_20 (by decide) (fun b_26 => ?_) (fun b_26 => ?_)
      · have h := it_n b_26 h
        refine lv_aload_n hx hb dX3_takeDigit_25 rfl (lv_at hl 0 rfl) ?_
        refine va_get (D := D) (ci := 3) (v := vI c_value) (C := RX3) (T := TX3) (N := 7) hx hb hts zin3 hown hK hP 0 rfl rfl 6 (by decide) (hts _ wm185) (fun _ h9 => h9) rfl dX3_takeDigit_26 ?_
        refine lv_bipush (v := Int32.ofInt 10) hx hb dX3_takeDigit_29 (by decide +kernel) ?_
        refine z_imul hx hb dX3_takeDigit_31 ?_
        refine lv_iload_n hx hb dX3_takeDigit_32 rfl (lv_at hl 1 rfl) ?_
        refine z_iadd hx hb dX3_takeDigit_33 ?_
        refine lv_istore_n (lv' := [(2, vI ((c_value * 10) + x1)), (0, .ref h_X), (1, vI x1)]) hx hb dX3_takeDigit_34 rfl hl (by decide) rfl (fun ls hl => ?_)
        refine lv_aload_n hx hb dX3_takeDigit_35 rfl (lv_at hl 1 rfl) ?_
        refine va_get (D := D) (ci := 3) (v := vI c_digits) (C := RX3) (T := TX3) (N := 7) hx hb hts zin3 hown hK hP 0 rfl rfl 5 (by decide) (hts _ wm184) (fun _ h9 => h9) rfl dX3_takeDigit_36 ?_
        refine z_if_ne (tgt := 56) hx hb g_1 dX3_takeDigit_39 (by decide) (fun b_27 => ?_) (fun b_27 => ?_)
        · have h := it_n b_27 h
          refine lv_iload_n hx hb dX3_takeDigit_56 rfl (lv_at hl 0 rfl) ?_
          refine lv_istore_n (lv' := [(3, vI ((c_value * 10) + x1)), (2, vI ((c_value * 10) + x1)), (0, .ref h_X), (1, vI x1)]) hx hb dX3_takeDigit_57 rfl hl (by decide) rfl (fun ls hl => ?_)
          refine lv_iload_n hx hb dX3_takeDigit_58 rfl (lv_at hl 0 rfl) ?_
          refine lv_aload_n hx hb dX3_takeDigit_59 rfl (lv_at hl 2 rfl) ?_
          obtain ⟨r_28, e_29, h⟩ := bd1_e h
          refine z_goi (ws' := []) (ret := r_28) (wc := (zTx cI (h_X) (q_X) (c_characters) (c_length) (c_parts) (c_rectangles) (c_part) (c_digits) (c_value))) (wn := fun u_30 => (zTx cI h_X q_X c_characters c_length c_parts c_rectangles c_part c_digits c_value)) (wr := []) (va_runV (As := []) (rest := [vI ((c_value * 10) + x1)]) hF.1 (c_Tx_leastNumber l D cI cZ cT h_X q_X c_characters c_length c_parts c_rectangles c_part c_digits c_value H.size (r_28) e_29) (cwV 0 hts (zgV wm740 wm742 wm29 wm38 wm743) rfl rfl rfl (by decide +kernel) ⟨Nat.le_of_ble_eq_true rfl, Nat.le_of_ble_eq_true rfl⟩) ⟨zP.blind, va_recv hK (z_subP (ws' := (zTx cI (h_X) (q_X) (c_characters) (c_length) (c_parts) (c_rectangles) (c_part) (c_digits) (c_value))) hP [0, 1, 2] rfl) (ci := 3) (q0 := 0) rfl rfl, zP.enter (z_subP (ws' := (zTx cI (h_X) (q_X) (c_characters) (c_length) (c_parts) (c_rectangles) (c_part) (c_digits) (c_value))) hP [0, 1, 2] rfl) hK (hD.sub [0, 1, 2] (by decide) rfl) hN⟩ rfl rfl hl.1 rfl (lv_room (Nat.le_of_ble_eq_true rfl)) dX3_takeDigit_60 ⟨Nat.le_refl _, Nat.le_refl _⟩) hP hD hS hA [0, 1, 2] [] [0, 1, 2] rfl rfl (by decide) (fun _ => rfl) (fun u_30 H locs hP hD hS hz => ?_)
          obtain ⟨g_31, h⟩ := gd_e h
          obtain ⟨g_32, h⟩ := gd_e h
          refine z_icmp_ge (tgt := 68) hx hb g_31 g_32 dX3_takeDigit_63 (by decide) (fun b_33 => ?_) (fun b_33 => ?_)
          · have h := it_n b_33 h
            refine lv_aload_n hx hb dX3_takeDigit_68 rfl (lv_at hl 2 rfl) ?_
            refine lv_iload_n hx hb dX3_takeDigit_69 rfl (lv_at hl 1 rfl) ?_
            refine va_put (D := D) (ci := 3) (v := vI ((c_value * 10) + x1)) (ty := .int) (C := RX3) (T := TX3) (N := 7) hx hb hts zin3 tyX3 tyX3_ok nmX3 hown hK hP hD hS 0 rfl rfl 6 (by decide) (hts _ wm185) (fun _ h9 => h9) rfl (by decide +kernel) rfl rfl (Nat.le_of_ble_eq_true rfl) dX3_takeDigit_70 (fun H locs hP hD hS => ?_)
            replace hP : va_P D vwCl ((zTx cI h_X q_X c_characters c_length c_parts c_rectangles c_part c_digits ((c_value * 10) + x1))) H := hP
            replace hD : va_D A ((zTx cI h_X q_X c_characters c_length c_parts c_rectangles c_part c_digits ((c_value * 10) + x1))) := hD
            refine lv_aload_n hx hb dX3_takeDigit_73 rfl (lv_at hl 2 rfl) ?_
            refine lv_dup hx hb dX3_takeDigit_74 rfl ?_
            refine va_get (D := D) (ci := 3) (v := vI c_digits) (C := RX3) (T := TX3) (N := 7) hx hb hts zin3 hown hK hP 0 rfl rfl 5 (by decide) (hts _ wm184) (fun _ h9 => h9) rfl dX3_takeDigit_75 ?_
            refine lv_iconst (v := Int32.ofInt 1) hx hb dX3_takeDigit_78 rfl ?_
            refine z_iadd hx hb dX3_takeDigit_79 ?_
            refine va_put (D := D) (ci := 3) (v := vI (c_digits + 1)) (ty := .int) (C := RX3) (T := TX3) (N := 7) hx hb hts zin3 tyX3 tyX3_ok nmX3 hown hK hP hD hS 0 rfl rfl 5 (by decide) (hts _ wm184) (fun _ h9 => h9) rfl (by decide +kernel) rfl rfl (Nat.le_of_ble_eq_true rfl) dX3_takeDigit_80 (fun H locs hP hD hS => ?_)
            replace hP : va_P D vwCl ((zTx cI h_X q_X c_characters c_length c_parts c_rectangles c_part (c_digits + 1) ((c_value * 10) + x1))) H := hP
            replace hD : va_D A ((zTx cI h_X q_X c_characters c_length c_parts c_rectangles c_part (c_digits + 1) ((c_value * 10) + x1))) := hD
            refine lv_iconst (v := Int32.ofInt 1) hx hb dX3_takeDigit_83 rfl ?_
            obtain rfl := Option.some.inj h
            exact z_zret hx hb hr hlk (show narrow .boolean (.int (Int32.ofInt 1)) = .int (Int32.ofInt 1) from by decide) (fun _ _ => 0) hP hD hS dX3_takeDigit_84
          · have h := it_p b_33 h
            refine lv_iconst (v := Int32.ofInt 0) hx hb dX3_takeDigit_66 rfl ?_
            obtain rfl := Option.some.inj h
            exact z_zret hx hb hr hlk (show narrow .boolean (.int (Int32.ofInt 0)) = .int (Int32.ofInt 0) from by decide) (fun _ _ => 0) hP hD hS dX3_takeDigit_67
        · have h := it_p b_27 h
          refine lv_iload_n hx hb dX3_takeDigit_42 rfl (lv_at hl 2 rfl) ?_
          obtain ⟨g_34, h⟩ := gd_e h
          refine z_if_le (tgt := 56) hx hb g_34 dX3_takeDigit_43 (by decide) (fun b_35 => ?_) (fun b_35 => ?_)
          · have h := it_n b_35 h
            refine lv_iload_n hx hb dX3_takeDigit_56 rfl (lv_at hl 0 rfl) ?_
            refine lv_istore_n (lv' := [(3, vI ((c_value * 10) + x1)), (2, vI ((c_value * 10) + x1)), (0, .ref h_X), (1, vI x1)]) hx hb dX3_takeDigit_57 rfl hl (by decide) rfl (fun ls hl => ?_)
            refine lv_iload_n hx hb dX3_takeDigit_58 rfl (lv_at hl 0 rfl) ?_
            refine lv_aload_n hx hb dX3_takeDigit_59 rfl (lv_at hl 2 rfl) ?_
            obtain ⟨r_36, e_37, h⟩ := bd1_e h
            refine z_goi (ws' := []) (ret := r_36) (wc := (zTx cI (h_X) (q_X) (c_characters) (c_length) (c_parts) (c_rectangles) (c_part) (c_digits) (c_value))) (wn := fun u_38 => (zTx cI h_X q_X c_characters c_length c_parts c_rectangles c_part c_digits c_value)) (wr := []) (va_runV (As := []) (rest := [vI ((c_value * 10) + x1)]) hF.1 (c_Tx_leastNumber l D cI cZ cT h_X q_X c_characters c_length c_parts c_rectangles c_part c_digits c_value H.size (r_36) e_37) (cwV 0 hts (zgV wm740 wm742 wm29 wm38 wm743) rfl rfl rfl (by decide +kernel) ⟨Nat.le_of_ble_eq_true rfl, Nat.le_of_ble_eq_true rfl⟩) ⟨zP.blind, va_recv hK (z_subP (ws' := (zTx cI (h_X) (q_X) (c_characters) (c_length) (c_parts) (c_rectangles) (c_part) (c_digits) (c_value))) hP [0, 1, 2] rfl) (ci := 3) (q0 := 0) rfl rfl, zP.enter (z_subP (ws' := (zTx cI (h_X) (q_X) (c_characters) (c_length) (c_parts) (c_rectangles) (c_part) (c_digits) (c_value))) hP [0, 1, 2] rfl) hK (hD.sub [0, 1, 2] (by decide) rfl) hN⟩ rfl rfl hl.1 rfl (lv_room (Nat.le_of_ble_eq_true rfl)) dX3_takeDigit_60 ⟨Nat.le_refl _, Nat.le_refl _⟩) hP hD hS hA [0, 1, 2] [] [0, 1, 2] rfl rfl (by decide) (fun _ => rfl) (fun u_38 H locs hP hD hS hz => ?_)
            obtain ⟨g_39, h⟩ := gd_e h
            obtain ⟨g_40, h⟩ := gd_e h
            refine z_icmp_ge (tgt := 68) hx hb g_39 g_40 dX3_takeDigit_63 (by decide) (fun b_41 => ?_) (fun b_41 => ?_)
            · have h := it_n b_41 h
              refine lv_aload_n hx hb dX3_takeDigit_68 rfl (lv_at hl 2 rfl) ?_
              refine lv_iload_n hx hb dX3_takeDigit_69 rfl (lv_at hl 1 rfl) ?_
              refine va_put (D := D) (ci := 3) (v := vI ((c_value * 10) + x1)) (ty := .int) (C := RX3) (T := TX3) (N := 7) hx hb hts zin3 tyX3 tyX3_ok nmX3 hown hK hP hD hS 0 rfl rfl 6 (by decide) (hts _ wm185) (fun _ h9 => h9) rfl (by decide +kernel) rfl rfl (Nat.le_of_ble_eq_true rfl) dX3_takeDigit_70 (fun H locs hP hD hS => ?_)
              replace hP : va_P D vwCl ((zTx cI h_X q_X c_characters c_length c_parts c_rectangles c_part c_digits ((c_value * 10) + x1))) H := hP
              replace hD : va_D A ((zTx cI h_X q_X c_characters c_length c_parts c_rectangles c_part c_digits ((c_value * 10) + x1))) := hD
              refine lv_aload_n hx hb dX3_takeDigit_73 rfl (lv_at hl 2 rfl) ?_
              refine lv_dup hx hb dX3_takeDigit_74 rfl ?_
              refine va_get (D := D) (ci := 3) (v := vI c_digits) (C := RX3) (T := TX3) (N := 7) hx hb hts zin3 hown hK hP 0 rfl rfl 5 (by decide) (hts _ wm184) (fun _ h9 => h9) rfl dX3_takeDigit_75 ?_
              refine lv_iconst (v := Int32.ofInt 1) hx hb dX3_takeDigit_78 rfl ?_
              refine z_iadd hx hb dX3_takeDigit_79 ?_
              refine va_put (D := D) (ci := 3) (v := vI (c_digits + 1)) (ty := .int) (C := RX3) (T := TX3) (N := 7) hx hb hts zin3 tyX3 tyX3_ok nmX3 hown hK hP hD hS 0 rfl rfl 5 (by decide) (hts _ wm184) (fun _ h9 => h9) rfl (by decide +kernel) rfl rfl (Nat.le_of_ble_eq_true rfl) dX3_takeDigit_80 (fun H locs hP hD hS => ?_)
              replace hP : va_P D vwCl ((zTx cI h_X q_X c_characters c_length c_parts c_rectangles c_part (c_digits + 1) ((c_value * 10) + x1))) H := hP
              replace hD : va_D A ((zTx cI h_X q_X c_characters c_length c_parts c_rectangles c_part (c_digits + 1) ((c_value * 10) + x1))) := hD
              refine lv_iconst (v := Int32.ofInt 1) hx hb dX3_takeDigit_83 rfl ?_
              obtain rfl := Option.some.inj h
              exact z_zret hx hb hr hlk (show narrow .boolean (.int (Int32.ofInt 1)) = .int (Int32.ofInt 1) from by decide) (fun _ _ => 0) hP hD hS dX3_takeDigit_84
            · have h := it_p b_41 h
              refine lv_iconst (v := Int32.ofInt 0) hx hb dX3_takeDigit_66 rfl ?_
              obtain rfl := Option.some.inj h
              exact z_zret hx hb hr hlk (show narrow .boolean (.int (Int32.ofInt 0)) = .int (Int32.ofInt 0) from by decide) (fun _ _ => 0) hP hD hS dX3_takeDigit_67
          · have h := it_p b_35 h
            refine lv_iload_n hx hb dX3_takeDigit_46 rfl (lv_at hl 0 rfl) ?_
            refine lv_bipush (v := Int32.ofInt 10) hx hb dX3_takeDigit_47 (by decide +kernel) ?_
            refine z_imul hx hb dX3_takeDigit_49 ?_
            refine lv_bipush (v := Int32.ofInt 9) hx hb dX3_takeDigit_50 (by decide +kernel) ?_
            refine z_iadd hx hb dX3_takeDigit_52 ?_
            refine lv_goto (tgt := 57) hx hb dX3_takeDigit_53 (by decide) ?_
            refine lv_istore_n (lv' := [(3, vI ((((c_value * 10) + x1) * 10) + 9)), (2, vI ((c_value * 10) + x1)), (0, .ref h_X), (1, vI x1)]) hx hb dX3_takeDigit_57 rfl hl (by decide) rfl (fun ls hl => ?_)
            refine lv_iload_n hx hb dX3_takeDigit_58 rfl (lv_at hl 0 rfl) ?_
            refine lv_aload_n hx hb dX3_takeDigit_59 rfl (lv_at hl 2 rfl) ?_
            obtain ⟨r_42, e_43, h⟩ := bd1_e h
            refine z_goi (ws' := []) (ret := r_42) (wc := (zTx cI (h_X) (q_X) (c_characters) (c_length) (c_parts) (c_rectangles) (c_part) (c_digits) (c_value))) (wn := fun u_44 => (zTx cI h_X q_X c_characters c_length c_parts c_rectangles c_part c_digits c_value)) (wr := []) (va_runV (As := []) (rest := [vI ((((c_value * 10) + x1) * 10) + 9)]) hF.1 (c_Tx_leastNumber l D cI cZ cT h_X q_X c_characters c_length c_parts c_rectangles c_part c_digits c_value H.size (r_42) e_43) (cwV 0 hts (zgV wm740 wm742 wm29 wm38 wm743) rfl rfl rfl (by decide +kernel) ⟨Nat.le_of_ble_eq_true rfl, Nat.le_of_ble_eq_true rfl⟩) ⟨zP.blind, va_recv hK (z_subP (ws' := (zTx cI (h_X) (q_X) (c_characters) (c_length) (c_parts) (c_rectangles) (c_part) (c_digits) (c_value))) hP [0, 1, 2] rfl) (ci := 3) (q0 := 0) rfl rfl, zP.enter (z_subP (ws' := (zTx cI (h_X) (q_X) (c_characters) (c_length) (c_parts) (c_rectangles) (c_part) (c_digits) (c_value))) hP [0, 1, 2] rfl) hK (hD.sub [0, 1, 2] (by decide) rfl) hN⟩ rfl rfl hl.1 rfl (lv_room (Nat.le_of_ble_eq_true rfl)) dX3_takeDigit_60 ⟨Nat.le_refl _, Nat.le_refl _⟩) hP hD hS hA [0, 1, 2] [] [0, 1, 2] rfl rfl (by decide) (fun _ => rfl) (fun u_44 H locs hP hD hS hz => ?_)
            obtain ⟨g_45, h⟩ := gd_e h
            obtain ⟨g_46, h⟩ := gd_e h
            refine z_icmp_ge (tgt := 68) hx hb g_45 g_46 dX3_takeDigit_63 (by decide) (fun b_47 => ?_) (fun b_47 => ?_)
            · have h := it_n b_47 h
              refine lv_aload_n hx hb dX3_takeDigit_68 rfl (lv_at hl 2 rfl) ?_
              refine lv_iload_n hx hb dX3_takeDigit_69 rfl (lv_at hl 1 rfl) ?_
              refine va_put (D := D) (ci := 3) (v := vI ((c_value * 10) + x1)) (ty := .int) (C := RX3) (T := TX3) (N := 7) hx hb hts zin3 tyX3 tyX3_ok nmX3 hown hK hP hD hS 0 rfl rfl 6 (by decide) (hts _ wm185) (fun _ h9 => h9) rfl (by decide +kernel) rfl rfl (Nat.le_of_ble_eq_true rfl) dX3_takeDigit_70 (fun H locs hP hD hS => ?_)
              replace hP : va_P D vwCl ((zTx cI h_X q_X c_characters c_length c_parts c_rectangles c_part c_digits ((c_value * 10) + x1))) H := hP
              replace hD : va_D A ((zTx cI h_X q_X c_characters c_length c_parts c_rectangles c_part c_digits ((c_value * 10) + x1))) := hD
              refine lv_aload_n hx hb dX3_takeDigit_73 rfl (lv_at hl 2 rfl) ?_
              refine lv_dup hx hb dX3_takeDigit_74 rfl ?_
              refine va_get (D := D) (ci := 3) (v := vI c_digits) (C := RX3) (T := TX3) (N := 7) hx hb hts zin3 hown hK hP 0 rfl rfl 5 (by decide) (hts _ wm184) (fun _ h9 => h9) rfl dX3_takeDigit_75 ?_
              refine lv_iconst (v := Int32.ofInt 1) hx hb dX3_takeDigit_78 rfl ?_
              refine z_iadd hx hb dX3_takeDigit_79 ?_
              refine va_put (D := D) (ci := 3) (v := vI (c_digits + 1)) (ty := .int) (C := RX3) (T := TX3) (N := 7) hx hb hts zin3 tyX3 tyX3_ok nmX3 hown hK hP hD hS 0 rfl rfl 5 (by decide) (hts _ wm184) (fun _ h9 => h9) rfl (by decide +kernel) rfl rfl (Nat.le_of_ble_eq_true rfl) dX3_takeDigit_80 (fun H locs hP hD hS => ?_)
              replace hP : va_P D vwCl ((zTx cI h_X q_X c_characters c_length c_parts c_rectangles c_part (c_digits + 1) ((c_value * 10) + x1))) H := hP
              replace hD : va_D A ((zTx cI h_X q_X c_characters c_length c_parts c_rectangles c_part (c_digits + 1) ((c_value * 10) + x1))) := hD
              refine lv_iconst (v := Int32.ofInt 1) hx hb dX3_takeDigit_83 rfl ?_
              obtain rfl := Option.some.inj h
              exact z_zret hx hb hr hlk (show narrow .boolean (.int (Int32.ofInt 1)) = .int (Int32.ofInt 1) from by decide) (fun _ _ => 0) hP hD hS dX3_takeDigit_84
            · have h := it_p b_47 h
              refine lv_iconst (v := Int32.ofInt 0) hx hb dX3_takeDigit_66 rfl ?_
              obtain rfl := Option.some.inj h
              exact z_zret hx hb hr hlk (show narrow .boolean (.int (Int32.ofInt 0)) = .int (Int32.ofInt 0) from by decide) (fun _ _ => 0) hP hD hS dX3_takeDigit_67
      · have h := it_p b_26 h
        refine lv_iconst (v := Int32.ofInt 0) hx hb dX3_takeDigit_23 rfl ?_
        obtain rfl := Option.some.inj h
        exact z_zret hx hb hr hlk (show narrow .boolean (.int (Int32.ofInt 0)) = .int (Int32.ofInt 0) from by decide) (fun _ _ => 0) hP hD hS dX3_takeDigit_24
def f_Tx_takeSign (c_parts : Nat → Int) (c_rectangles : Int) (c_part : Int) (c_digits : Int) (c_value : Int) (x1 : Int) : Option (Int × (Nat → Int) × Int × Int × Int × Int) :=
  gd (ck c_part) <| if c_part = 3 then (gd (ck x1) <| if x1 = 59 then (gd (ck c_digits) <| if c_digits = 0 then (some (0, c_parts, c_rectangles, c_part, c_digits, c_value)) else (bd1 (f_Tx_leastNumber c_parts c_rectangles c_part) <| fun r_22 => gd (ck c_value) <| gd (ck r_22) <| if c_value < r_22 then (some (0, c_parts, c_rectangles, c_part, c_digits, c_value)) else (bd1 (f_Rt_put 80 c_parts ((c_rectangles * 4) + c_part) c_value) <| fun c_parts_28 => gd (ck (c_part + 1)) <| if (c_part + 1) = 4 then (some (1, c_parts_28, (c_rectangles + 1), 0, 0, 0)) else (some (1, c_parts_28, c_rectangles, (c_part + 1), 0, 0))))) else (some (0, c_parts, c_rectangles, c_part, c_digits, c_value))) else (gd (ck x1) <| if x1 = 44 then (gd (ck c_digits) <| if c_digits = 0 then (some (0, c_parts, c_rectangles, c_part, c_digits, c_value)) else (bd1 (f_Tx_leastNumber c_parts c_rectangles c_part) <| fun r_7 => gd (ck c_value) <| gd (ck r_7) <| if c_value < r_7 then (some (0, c_parts, c_rectangles, c_part, c_digits, c_value)) else (bd1 (f_Rt_put 80 c_parts ((c_rectangles * 4) + c_part) c_value) <| fun c_parts_13 => gd (ck (c_part + 1)) <| if (c_part + 1) = 4 then (some (1, c_parts_13, (c_rectangles + 1), 0, 0, 0)) else (some (1, c_parts_13, c_rectangles, (c_part + 1), 0, 0))))) else (some (0, c_parts, c_rectangles, c_part, c_digits, c_value)))
abbrev rm_Tx_takeSign : Room := ({ frames := 2, cells := 0, slots := 0, locals := 41 } : Room)
set_option maxHeartbeats 4000000 in
set_option maxRecDepth 100000 in
theorem c_Tx_takeSign (l : Launch) (D : va_G) (cI cZ cT : ClassId) (h_X : Nat) (q_X : Nat → Nat) (c_characters : Nat → Int) (c_length : Int) (c_parts : Nat → Int) (c_rectangles : Int) (c_part : Int) (c_digits : Int) (c_value : Int) (x1 : Int) (sz : Nat) (res : Int × (Nat → Int) × Int × Int × Int × Int) (h : f_Tx_takeSign c_parts c_rectangles c_part c_digits c_value x1 = some res) : zMz l yX3_takeSign cX3_takeSign 3 rm_Tx_takeSign D (zt cI cZ cT) [.ref h_X, vI x1] ((zTx cI h_X q_X c_characters c_length c_parts c_rectangles c_part c_digits c_value)) sz (res.1) (fun u => (zTx cI h_X q_X c_characters c_length (res.2.1) (res.2.2.1) (res.2.2.2.1) (res.2.2.2.2.1) (res.2.2.2.2.2))) 0 0 := by
  refine z_enth (Qc := zQi D (res.1) (fun u => (zTx cI h_X q_X c_characters c_length (res.2.1) (res.2.2.1) (res.2.2.2.1) (res.2.2.2.2.1) (res.2.2.2.2.2)))) (by decide) (Nat.le_of_ble_eq_true rfl) (fun p e s m args below meth c A ls H locs hF hP hD hS hl => ?_)
  have hx := hF.1.1
  have hb := hF.1.2.1
  have hml := hF.1.2.2.1
  have hown : s.vm.findClass "RectangleTree$RectangleText" = some m.cls := hF.1.2.2.2.1
  have hts := hF.1.2.2.2.2
  have hr := hF.2.1
  have hlk := hF.2.2.1
  have hK := hF.2.2.2.2.1
  have hN := hF.2.2.2.2.2.1
  have hA := hF.2.2.2.2.2.2
  unfold f_Tx_takeSign at h
  refine lv_aload_n hx hb dX3_takeSign_0 rfl (lv_at hl 0 rfl) ?_
  refine va_get (D := D) (ci := 3) (v := vI c_part) (C := RX3) (T := TX3) (N := 7) hx hb hts zin3 hown hK hP 0 rfl rfl 4 (by decide) (hts _ wm183) (fun _ h9 => h9) rfl dX3_takeSign_1 ?_
  refine lv_iconst (v := Int32.ofInt 3) hx hb dX3_takeSign_4 rfl ?_
  obtain ⟨g_1, h⟩ := gd_e h
  refine z_icmp_ne (tgt := 13) hx hb g_1 (by decide) dX3_takeSign_5 (by decide) (fun b_2 => ?_) (fun b_2 => ?_)
  · have h := it_n b_2 h
    refine lv_bipush (v := Int32.ofInt 44) hx hb dX3_takeSign_13 (by decide +kernel) ?_
    refine lv_istore_n (lv' := [(2, vI 44), (0, .ref h_X), (1, vI x1)]) hx hb dX3_takeSign_15 rfl hl (by decide) rfl (fun ls hl => ?_)
    refine lv_iload_n hx hb dX3_takeSign_16 rfl (lv_at hl 2 rfl) ?_
    refine lv_iload_n hx hb dX3_takeSign_17 rfl (lv_at hl 0 rfl) ?_
    obtain ⟨g_3, h⟩ := gd_e h
    refine z_icmp_ne (tgt := 39) hx hb g_3 (by decide) dX3_takeSign_18 (by decide) (fun b_4 => ?_) (fun b_4 => ?_)
    · have h := it_n b_4 h
      refine lv_iconst (v := Int32.ofInt 0) hx hb dX3_takeSign_39 rfl ?_
      obtain rfl := Option.some.inj h
      exact z_zret hx hb hr hlk (show narrow .boolean (.int (Int32.ofInt 0)) = .int (Int32.ofInt 0) from by decide) (fun _ _ => 0) hP hD hS dX3_takeSign_40
    · have h := it_p b_4 h
      refine lv_aload_n hx hb dX3_takeSign_21 rfl (lv_at hl 1 rfl) ?_
      refine va_get (D := D) (ci := 3) (v := vI c_digits) (C := RX3) (T := TX3) (N := 7) hx hb hts zin3 hown hK hP 0 rfl rfl 5 (by decide) (hts _ wm184) (fun _ h9 => h9) rfl dX3_takeSign_22 ?_
      obtain ⟨g_5, h⟩ := gd_e h
      refine z_if_eq (tgt := 39) hx hb g_5 dX3_takeSign_25 (by decide) (fun b_6 => ?_) (fun b_6 => ?_)
      · have h := it_p b_6 h
        refine lv_iconst (v := Int32.ofInt 0) hx hb dX3_takeSign_39 rfl ?_
        obtain rfl := Option.some.inj h
        exact z_zret hx hb hr hlk (show narrow .boolean (.int (Int32.ofInt 0)) = .int (Int32.ofInt 0) from by decide) (fun _ _ => 0) hP hD hS dX3_takeSign_40
      · have h := it_n b_6 h
        refine lv_aload_n hx hb dX3_takeSign_28 rfl (lv_at hl 1 rfl) ?_
        refine va_get (D := D) (ci := 3) (v := vI c_value) (C := RX3) (T := TX3) (N := 7) hx hb hts zin3 hown hK hP 0 rfl rfl 6 (by decide) (hts _ wm185) (fun _ h9 => h9) rfl dX3_takeSign_29 ?_
        refine lv_aload_n hx hb dX3_takeSign_32 rfl (lv_at hl 1 rfl) ?_
        obtain ⟨r_7, e_8, h⟩ := bd1_e h
        refine z_goi (ws' := []) (ret := r_7) (wc := (zTx cI (h_X) (q_X) (c_characters) (c_length) (c_parts) (c_rectangles) (c_part) (c_digits) (c_value))) (wn := fun u_9 => (zTx cI h_X q_X c_characters c_length c_parts c_rectangles c_part c_digits c_value)) (wr := []) (va_runV (As := []) (rest := [vI c_value]) hF.1 (c_Tx_leastNumber l D cI cZ cT h_X q_X c_characters c_length c_parts c_rectangles c_part c_digits c_value H.size (r_7) e_8) (cwV 0 hts (zgV wm740 wm742 wm29 wm38 wm743) rfl rfl rfl (by decide +kernel) ⟨Nat.le_of_ble_eq_true rfl, Nat.le_of_ble_eq_true rfl⟩) ⟨zP.blind, va_recv hK (z_subP (ws' := (zTx cI (h_X) (q_X) (c_characters) (c_length) (c_parts) (c_rectangles) (c_part) (c_digits) (c_value))) hP [0, 1, 2] rfl) (ci := 3) (q0 := 0) rfl rfl, zP.enter (z_subP (ws' := (zTx cI (h_X) (q_X) (c_characters) (c_length) (c_parts) (c_rectangles) (c_part) (c_digits) (c_value))) hP [0, 1, 2] rfl) hK (hD.sub [0, 1, 2] (by decide) rfl) hN⟩ rfl rfl hl.1 rfl (lv_room (Nat.le_of_ble_eq_true rfl)) dX3_takeSign_33 ⟨Nat.le_refl _, Nat.le_refl _⟩) hP hD hS hA [0, 1, 2] [] [0, 1, 2] rfl rfl (by decide) (fun _ => rfl) (fun u_9 H locs hP hD hS hz => ?_)
        obtain ⟨g_10, h⟩ := gd_e h
        obtain ⟨g_11, h⟩ := gd_e h
        refine z_icmp_ge (tgt := 41) hx hb g_10 g_11 dX3_takeSign_36 (by decide) (fun b_12 => ?_) (fun b_12 => ?_)
        · have h := it_n b_12 h
          refine lv_aload_n hx hb dX3_takeSign_41 rfl (lv_at hl 1 rfl) ?_
          refine va_get (D := D) (ci := 3) (v := .ref (q_X 1)) (C := RX3) (T := TX3) (N := 7) hx hb hts zin3 hown hK hP 0 rfl rfl 2 (by decide) (hts _ wm180) (fun _ h9 => h9) rfl dX3_takeSign_42 ?_
          refine lv_aload_n hx hb dX3_takeSign_45 rfl (lv_at hl 1 rfl) ?_
          refine va_get (D := D) (ci := 3) (v := vI c_rectangles) (C := RX3) (T := TX3) (N := 7) hx hb hts zin3 hown hK hP 0 rfl rfl 3 (by decide) (hts _ wm181) (fun _ h9 => h9) rfl dX3_takeSign_46 ?_
          refine lv_iconst (v := Int32.ofInt 4) hx hb dX3_takeSign_49 rfl ?_
          refine z_imul hx hb dX3_takeSign_50 ?_
          refine lv_aload_n hx hb dX3_takeSign_51 rfl (lv_at hl 1 rfl) ?_
          refine va_get (D := D) (ci := 3) (v := vI c_part) (C := RX3) (T := TX3) (N := 7) hx hb hts zin3 hown hK hP 0 rfl rfl 4 (by decide) (hts _ wm183) (fun _ h9 => h9) rfl dX3_takeSign_52 ?_
          refine z_iadd hx hb dX3_takeSign_55 ?_
          refine lv_aload_n hx hb dX3_takeSign_56 rfl (lv_at hl 1 rfl) ?_
          refine va_get (D := D) (ci := 3) (v := vI c_value) (C := RX3) (T := TX3) (N := 7) hx hb hts zin3 hown hK hP 0 rfl rfl 6 (by decide) (hts _ wm185) (fun _ h9 => h9) rfl dX3_takeSign_57 ?_
          obtain ⟨c_parts_13, e_14, h⟩ := bd1_e h
          refine z_gov (wc := (zAr cI ((q_X 1)) (80) (c_parts))) (wn := fun u_15 => (zTx cI h_X q_X c_characters c_length c_parts_13 c_rectangles c_part c_digits c_value)) (wr := ([0, 1].filterMap (fun i => ((zTx cI h_X q_X c_characters c_length c_parts c_rectangles c_part c_digits c_value))[i]?))) (va_runSN (As := [.ref (q_X 1), vI ((c_rectangles * 4) + c_part), vI c_value]) (rest := []) hF.1 (c_Rt_put l D cI cZ cT (q_X 1) 80 c_parts ((c_rectangles * 4) + c_part) c_value H.size (c_parts_13) e_14) ⟨va_cnB 3 hts (zW_good wm61) rfl rfl rfl (hN.at 11 rfl) (hts _ wm32) (by decide +kernel) ⟨Nat.le_of_ble_eq_true rfl, Nat.le_of_ble_eq_true rfl⟩, hts _ wm60, trivial⟩ ⟨zP.blind, zP.enter (z_subP (ws' := (zAr cI ((q_X 1)) (80) (c_parts))) hP [2] rfl) hK (hD.sub [2] (by decide) rfl) hN⟩ rfl rfl hl.1 rfl (lv_room (Nat.le_of_ble_eq_true rfl)) dX3_takeSign_60 ⟨Nat.le_refl _, Nat.le_refl _⟩) hP hD hS hA [2] [0, 1] [0, 1, 2] rfl rfl (by decide) (fun _ => rfl) (fun u_15 H locs hP hD hS hz => ?_)
          refine lv_aload_n hx hb dX3_takeSign_63 rfl (lv_at hl 1 rfl) ?_
          refine lv_dup hx hb dX3_takeSign_64 rfl ?_
          refine va_get (D := D) (ci := 3) (v := vI c_part) (C := RX3) (T := TX3) (N := 7) hx hb hts zin3 hown hK hP 0 rfl rfl 4 (by decide) (hts _ wm183) (fun _ h9 => h9) rfl dX3_takeSign_65 ?_
          refine lv_iconst (v := Int32.ofInt 1) hx hb dX3_takeSign_68 rfl ?_
          refine z_iadd hx hb dX3_takeSign_69 ?_
          refine va_put (D := D) (ci := 3) (v := vI (c_part + 1)) (ty := .int) (C := RX3) (T := TX3) (N := 7) hx hb hts zin3 tyX3 tyX3_ok nmX3 hown hK hP hD hS 0 rfl rfl 4 (by decide) (hts _ wm183) (fun _ h9 => h9) rfl (by decide +kernel) rfl rfl (Nat.le_of_ble_eq_true rfl) dX3_takeSign_70 (fun H locs hP hD hS => ?_)
          replace hP : va_P D vwCl ((zTx cI h_X q_X c_characters c_length c_parts_13 c_rectangles (c_part + 1) c_digits c_value)) H := hP
          replace hD : va_D A ((zTx cI h_X q_X c_characters c_length c_parts_13 c_rectangles (c_part + 1) c_digits c_value)) := hD
          refine lv_aload_n hx hb dX3_takeSign_73 rfl (lv_at hl 1 rfl) ?_
          refine va_get (D := D) (ci := 3) (v := vI (c_part + 1)) (C := RX3) (T := TX3) (N := 7) hx hb hts zin3 hown hK hP 0 rfl rfl 4 (by decide) (hts _ wm183) (fun _ h9 => h9) rfl dX3_takeSign_74 ?_
          refine lv_iconst (v := Int32.ofInt 4) hx hb dX3_takeSign_77 rfl ?_
          obtain ⟨g_16, h⟩ := gd_e h
          refine z_icmp_ne (tgt := 96) hx hb g_16 (by decide) dX3_takeSign_78 (by decide) (fun b_17 => ?_) (fun b_17 => ?_)
          · have h := it_n b_17 h
            refine lv_aload_n hx hb dX3_takeSign_96 rfl (lv_at hl 1 rfl) ?_
            refine lv_iconst (v := Int32.ofInt 0) hx hb dX3_takeSign_97 rfl ?_
            refine va_put (D := D) (ci := 3) (v := vI 0) (ty := .int) (C := RX3) (T := TX3) (N := 7) hx hb hts zin3 tyX3 tyX3_ok nmX3 hown hK hP hD hS 0 rfl rfl 5 (by decide) (hts _ wm184) (fun _ h9 => h9) rfl (by decide +kernel) rfl rfl (Nat.le_of_ble_eq_true rfl) dX3_takeSign_98 (fun H locs hP hD hS => ?_)
            replace hP : va_P D vwCl ((zTx cI h_X q_X c_characters c_length c_parts_13 c_rectangles (c_part + 1) 0 c_value)) H := hP
            replace hD : va_D A ((zTx cI h_X q_X c_characters c_length c_parts_13 c_rectangles (c_part + 1) 0 c_value)) := hD
            refine lv_aload_n hx hb dX3_takeSign_101 rfl (lv_at hl 1 rfl) ?_
            refine lv_iconst (v := Int32.ofInt 0) hx hb dX3_takeSign_102 rfl ?_
            refine va_put (D := D) (ci := 3) (v := vI 0) (ty := .int) (C := RX3) (T := TX3) (N := 7) hx hb hts zin3 tyX3 tyX3_ok nmX3 hown hK hP hD hS 0 rfl rfl 6 (by decide) (hts _ wm185) (fun _ h9 => h9) rfl (by decide +kernel) rfl rfl (Nat.le_of_ble_eq_true rfl) dX3_takeSign_103 (fun H locs hP hD hS => ?_)
            replace hP : va_P D vwCl ((zTx cI h_X q_X c_characters c_length c_parts_13 c_rectangles (c_part + 1) 0 0)) H := hP
            replace hD : va_D A ((zTx cI h_X q_X c_characters c_length c_parts_13 c_rectangles (c_part + 1) 0 0)) := hD
            refine lv_iconst (v := Int32.ofInt 1) hx hb dX3_takeSign_106 rfl ?_
            obtain rfl := Option.some.inj h
            exact z_zret hx hb hr hlk (show narrow .boolean (.int (Int32.ofInt 1)) = .int (Int32.ofInt 1) from by decide) (fun _ _ => 0) hP hD hS dX3_takeSign_107
          · have h := it_p b_17 h
            refine lv_aload_n hx hb dX3_takeSign_81 rfl (lv_at hl 1 rfl) ?_
            refine lv_iconst (v := Int32.ofInt 0) hx hb dX3_takeSign_82 rfl ?_
            refine va_put (D := D) (ci := 3) (v := vI 0) (ty := .int) (C := RX3) (T := TX3) (N := 7) hx hb hts zin3 tyX3 tyX3_ok nmX3 hown hK hP hD hS 0 rfl rfl 4 (by decide) (hts _ wm183) (fun _ h9 => h9) rfl (by decide +kernel) rfl rfl (Nat.le_of_ble_eq_true rfl) dX3_takeSign_83 (fun H locs hP hD hS => ?_)
            replace hP : va_P D vwCl ((zTx cI h_X q_X c_characters c_length c_parts_13 c_rectangles 0 c_digits c_value)) H := hP
            replace hD : va_D A ((zTx cI h_X q_X c_characters c_length c_parts_13 c_rectangles 0 c_digits c_value)) := hD
            refine lv_aload_n hx hb dX3_takeSign_86 rfl (lv_at hl 1 rfl) ?_
            refine lv_dup hx hb dX3_takeSign_87 rfl ?_
            refine va_get (D := D) (ci := 3) (v := vI c_rectangles) (C := RX3) (T := TX3) (N := 7) hx hb hts zin3 hown hK hP 0 rfl rfl 3 (by decide) (hts _ wm181) (fun _ h9 => h9) rfl dX3_takeSign_88 ?_
            refine lv_iconst (v := Int32.ofInt 1) hx hb dX3_takeSign_91 rfl ?_
            refine z_iadd hx hb dX3_takeSign_92 ?_
            refine va_put (D := D) (ci := 3) (v := vI (c_rectangles + 1)) (ty := .int) (C := RX3) (T := TX3) (N := 7) hx hb hts zin3 tyX3 tyX3_ok nmX3 hown hK hP hD hS 0 rfl rfl 3 (by decide) (hts _ wm181) (fun _ h9 => h9) rfl (by decide +kernel) rfl rfl (Nat.le_of_ble_eq_true rfl) dX3_takeSign_93 (fun H locs hP hD hS => ?_)
            replace hP : va_P D vwCl ((zTx cI h_X q_X c_characters c_length c_parts_13 (c_rectangles + 1) 0 c_digits c_value)) H := hP
            replace hD : va_D A ((zTx cI h_X q_X c_characters c_length c_parts_13 (c_rectangles + 1) 0 c_digits c_value)) := hD
            refine lv_aload_n hx hb dX3_takeSign_96 rfl (lv_at hl 1 rfl) ?_
            refine lv_iconst (v := Int32.ofInt 0) hx hb dX3_takeSign_97 rfl ?_
            refine va_put (D := D) (ci := 3) (v := vI 0) (ty := .int) (C := RX3) (T := TX3) (N := 7) hx hb hts zin3 tyX3 tyX3_ok nmX3 hown hK hP hD hS 0 rfl rfl 5 (by decide) (hts _ wm184) (fun _ h9 => h9) rfl (by decide +kernel) rfl rfl (Nat.le_of_ble_eq_true rfl) dX3_takeSign_98 (fun H locs hP hD hS => ?_)
            replace hP : va_P D vwCl ((zTx cI h_X q_X c_characters c_length c_parts_13 (c_rectangles + 1) 0 0 c_value)) H := hP
            replace hD : va_D A ((zTx cI h_X q_X c_characters c_length c_parts_13 (c_rectangles + 1) 0 0 c_value)) := hD
            refine lv_aload_n hx hb dX3_takeSign_101 rfl (lv_at hl 1 rfl) ?_
            refine lv_iconst (v := Int32.ofInt 0) hx hb dX3_takeSign_102 rfl ?_
            refine va_put (D := D) (ci := 3) (v := vI 0) (ty := .int) (C := RX3) (T := TX3) (N := 7) hx hb hts zin3 tyX3 tyX3_ok nmX3 hown hK hP hD hS 0 rfl rfl 6 (by decide) (hts _ wm185) (fun _ h9 => h9) rfl (by decide +kernel) rfl rfl (Nat.le_of_ble_eq_true rfl) dX3_takeSign_103 (fun H locs hP hD hS => ?_)
            replace hP : va_P D vwCl ((zTx cI h_X q_X c_characters c_length c_parts_13 (c_rectangles + 1) 0 0 0)) H := hP
            replace hD : va_D A ((zTx cI h_X q_X c_characters c_length c_parts_13 (c_rectangles + 1) 0 0 0)) := hD
            refine lv_iconst (v := Int32.ofInt 1) hx hb dX3_takeSign_106 rfl ?_
            obtain rfl := Option.some.inj h
            exact z_zret hx hb hr hlk (show narrow .boolean (.int (Int32.ofInt 1)) = .int (Int32.ofInt 1) from by decide) (fun _ _ => 0) hP hD hS dX3_takeSign_107
        · have h := it_p b_12 h
          refine lv_iconst (v := Int32.ofInt 0) hx hb dX3_takeSign_39 rfl ?_
          obtain rfl := Option.some.inj h
          exact z_zret hx hb hr hlk (show narrow .boolean (.int (Int32.ofInt 0)) = .int (Int32.ofInt 0) from by decide) (fun _ _ => 0) hP hD hS dX3_takeSign_40
  · have h := it_p b_2 h
    refine lv_bipush (v := Int32.ofInt 59) hx hb dX3_takeSign_8 (by decide +kernel) ?_
    refine lv_goto (tgt := 15) hx hb dX3_takeSign_10 (by decide) ?_
    refine lv_istore_n (lv' := [(2, vI 59), (0, .ref h_X), (1, vI x1)]) hx hb dX3_takeSign_15 rfl hl (by decide) rfl (fun ls hl => ?_)
    refine lv_iload_n hx hb dX3_takeSign_16 rfl (lv_at hl 2 rfl) ?_
    refine lv_iload_n hx hb dX3_takeSign_17 rfl (lv_at hl 0 rfl) ?_
    obtain ⟨g_18, h⟩ := gd_e h
    refine z_icmp_ne (tgt := 39) hx hb g_18 (by decide) dX3_takeSign_18 (by decide) (fun b_19 => ?_) (fun b_19 => ?_)
    · have h := it_n b_19 h
      refine lv_iconst (v := Int32.ofInt 0) hx hb dX3_takeSign_39 rfl ?_
      obtain rfl := Option.some.inj h
      exact z_zret hx hb hr hlk (show narrow .boolean (.int (Int32.ofInt 0)) = .int (Int32.ofInt 0) from by decide) (fun _ _ => 0) hP hD hS dX3_takeSign_40
    · have h := it_p b_19 h
      refine lv_aload_n hx hb dX3_takeSign_21 rfl (lv_at hl 1 rfl) ?_
      refine va_get (D := D) (ci := 3) (v := vI c_digits) (C := RX3) (T := TX3) (N := 7) hx hb hts zin3 hown hK hP 0 rfl rfl 5 (by decide) (hts _ wm184) (fun _ h9 => h9) rfl dX3_takeSign_22 ?_
      obtain ⟨g_20, h⟩ := gd_e h
      refine z_if_eq (tgt := 39) hx hb g_20 dX3_takeSign_25 (by decide) (fun b_21 => ?_) (fun b_21 => ?_)
      · have h := it_p b_21 h
        refine lv_iconst (v := Int32.ofInt 0) hx hb dX3_takeSign_39 rfl ?_
        obtain rfl := Option.some.inj h
        exact z_zret hx hb hr hlk (show narrow .boolean (.int (Int32.ofInt 0)) = .int (Int32.ofInt 0) from by decide) (fun _ _ => 0) hP hD hS dX3_takeSign_40
      · have h := it_n b_21 h
        refine lv_aload_n hx hb dX3_takeSign_28 rfl (lv_at hl 1 rfl) ?_
        refine va_get (D := D) (ci := 3) (v := vI c_value) (C := RX3) (T := TX3) (N := 7) hx hb hts zin3 hown hK hP 0 rfl rfl 6 (by decide) (hts _ wm185) (fun _ h9 => h9) rfl dX3_takeSign_29 ?_
        refine lv_aload_n hx hb dX3_takeSign_32 rfl (lv_at hl 1 rfl) ?_
        obtain ⟨r_22, e_23, h⟩ := bd1_e h
        refine z_goi (ws' := []) (ret := r_22) (wc := (zTx cI (h_X) (q_X) (c_characters) (c_length) (c_parts) (c_rectangles) (c_part) (c_digits) (c_value))) (wn := fun u_24 => (zTx cI h_X q_X c_characters c_length c_parts c_rectangles c_part c_digits c_value)) (wr := []) (va_runV (As := []) (rest := [vI c_value]) hF.1 (c_Tx_leastNumber l D cI cZ cT h_X q_X c_characters c_length c_parts c_rectangles c_part c_digits c_value H.size (r_22) e_23) (cwV 0 hts (zgV wm740 wm742 wm29 wm38 wm743) rfl rfl rfl (by decide +kernel) ⟨Nat.le_of_ble_eq_true rfl, Nat.le_of_ble_eq_true rfl⟩) ⟨zP.blind, va_recv hK (z_subP (ws' := (zTx cI (h_X) (q_X) (c_characters) (c_length) (c_parts) (c_rectangles) (c_part) (c_digits) (c_value))) hP [0, 1, 2] rfl) (ci := 3) (q0 := 0) rfl rfl, zP.enter (z_subP (ws' := (zTx cI (h_X) (q_X) (c_characters) (c_length) (c_parts) (c_rectangles) (c_part) (c_digits) (c_value))) hP [0, 1, 2] rfl) hK (hD.sub [0, 1, 2] (by decide) rfl) hN⟩ rfl rfl hl.1 rfl (lv_room (Nat.le_of_ble_eq_true rfl)) dX3_takeSign_33 ⟨Nat.le_refl _, Nat.le_refl _⟩) hP hD hS hA [0, 1, 2] [] [0, 1, 2] rfl rfl (by decide) (fun _ => rfl) (fun u_24 H locs hP hD hS hz => ?_)
        obtain ⟨g_25, h⟩ := gd_e h
        obtain ⟨g_26, h⟩ := gd_e h
        refine z_icmp_ge (tgt := 41) hx hb g_25 g_26 dX3_takeSign_36 (by decide) (fun b_27 => ?_) (fun b_27 => ?_)
        · have h := it_n b_27 h
          refine lv_aload_n hx hb dX3_takeSign_41 rfl (lv_at hl 1 rfl) ?_
          refine va_get (D := D) (ci := 3) (v := .ref (q_X 1)) (C := RX3) (T := TX3) (N := 7) hx hb hts zin3 hown hK hP 0 rfl rfl 2 (by decide) (hts _ wm180) (fun _ h9 => h9) rfl dX3_takeSign_42 ?_
          refine lv_aload_n hx hb dX3_takeSign_45 rfl (lv_at hl 1 rfl) ?_
          refine va_get (D := D) (ci := 3) (v := vI c_rectangles) (C := RX3) (T := TX3) (N := 7) hx hb hts zin3 hown hK hP 0 rfl rfl 3 (by decide) (hts _ wm181) (fun _ h9 => h9) rfl dX3_takeSign_46 ?_
          refine lv_iconst (v := Int32.ofInt 4) hx hb dX3_takeSign_49 rfl ?_
          refine z_imul hx hb dX3_takeSign_50 ?_
          refine lv_aload_n hx hb dX3_takeSign_51 rfl (lv_at hl 1 rfl) ?_
          refine va_get (D := D) (ci := 3) (v := vI c_part) (C := RX3) (T := TX3) (N := 7) hx hb hts zin3 hown hK hP 0 rfl rfl 4 (by decide) (hts _ wm183) (fun _ h9 => h9) rfl dX3_takeSign_52 ?_
          refine z_iadd hx hb dX3_takeSign_55 ?_
          refine lv_aload_n hx hb dX3_takeSign_56 rfl (lv_at hl 1 rfl) ?_
          refine va_get (D := D) (ci := 3) (v := vI c_value) (C := RX3) (T := TX3) (N := 7) hx hb hts zin3 hown hK hP 0 rfl rfl 6 (by decide) (hts _ wm185) (fun _ h9 => h9) rfl dX3_takeSign_57 ?_
          obtain ⟨c_parts_28, e_29, h⟩ := bd1_e h
          refine z_gov (wc := (zAr cI ((q_X 1)) (80) (c_parts))) (wn := fun u_30 => (zTx cI h_X q_X c_characters c_length c_parts_28 c_rectangles c_part c_digits c_value)) (wr := ([0, 1].filterMap (fun i => ((zTx cI h_X q_X c_characters c_length c_parts c_rectangles c_part c_digits c_value))[i]?))) (va_runSN (As := [.ref (q_X 1), vI ((c_rectangles * 4) + c_part), vI c_value]) (rest := []) hF.1 (c_Rt_put l D cI cZ cT (q_X 1) 80 c_parts ((c_rectangles * 4) + c_part) c_value H.size (c_parts_28) e_29) ⟨va_cnB 3 hts (zW_good wm61) rfl rfl rfl (hN.at 11 rfl) (hts _ wm32) (by decide +kernel) ⟨Nat.le_of_ble_eq_true rfl, Nat.le_of_ble_eq_true rfl⟩, hts _ wm60, trivial⟩ ⟨zP.blind, zP.enter (z_subP (ws' := (zAr cI ((q_X 1)) (80) (c_parts))) hP [2] rfl) hK (hD.sub [2] (by decide) rfl) hN⟩ rfl rfl hl.1 rfl (lv_room (Nat.le_of_ble_eq_true rfl)) dX3_takeSign_60 ⟨Nat.le_refl _, Nat.le_refl _⟩) hP hD hS hA [2] [0, 1] [0, 1, 2] rfl rfl (by decide) (fun _ => rfl) (fun u_30 H locs hP hD hS hz => ?_)
          refine lv_aload_n hx hb dX3_takeSign_63 rfl (lv_at hl 1 rfl) ?_
          refine lv_dup hx hb dX3_takeSign_64 rfl ?_
          refine va_get (D := D) (ci := 3) (v := vI c_part) (C := RX3) (T := TX3) (N := 7) hx hb hts zin3 hown hK hP 0 rfl rfl 4 (by decide) (hts _ wm183) (fun _ h9 => h9) rfl dX3_takeSign_65 ?_
          refine lv_iconst (v := Int32.ofInt 1) hx hb dX3_takeSign_68 rfl ?_
          refine z_iadd hx hb dX3_takeSign_69 ?_
          refine va_put (D := D) (ci := 3) (v := vI (c_part + 1)) (ty := .int) (C := RX3) (T := TX3) (N := 7) hx hb hts zin3 tyX3 tyX3_ok nmX3 hown hK hP hD hS 0 rfl rfl 4 (by decide) (hts _ wm183) (fun _ h9 => h9) rfl (by decide +kernel) rfl rfl (Nat.le_of_ble_eq_true rfl) dX3_takeSign_70 (fun H locs hP hD hS => ?_)
          replace hP : va_P D vwCl ((zTx cI h_X q_X c_characters c_length c_parts_28 c_rectangles (c_part + 1) c_digits c_value)) H := hP
          replace hD : va_D A ((zTx cI h_X q_X c_characters c_length c_parts_28 c_rectangles (c_part + 1) c_digits c_value)) := hD
          refine lv_aload_n hx hb dX3_takeSign_73 rfl (lv_at hl 1 rfl) ?_
          refine va_get (D := D) (ci := 3) (v := vI (c_part + 1)) (C := RX3) (T := TX3) (N := 7) hx hb hts zin3 hown hK hP 0 rfl rfl 4 (by decide) (hts _ wm183) (fun _ h9 => h9) rfl dX3_takeSign_74 ?_
          refine lv_iconst (v := Int32.ofInt 4) hx hb dX3_takeSign_77 rfl ?_
          obtain ⟨g_31, h⟩ := gd_e h
          refine z_icmp_ne (tgt := 96) hx hb g_31 (by decide) dX3_takeSign_78 (by decide) (fun b_32 => ?_) (fun b_32 => ?_)
          · have h := it_n b_32 h
            refine lv_aload_n hx hb dX3_takeSign_96 rfl (lv_at hl 1 rfl) ?_
            refine lv_iconst (v := Int32.ofInt 0) hx hb dX3_takeSign_97 rfl ?_
            refine va_put (D := D) (ci := 3) (v := vI 0) (ty := .int) (C := RX3) (T := TX3) (N := 7) hx hb hts zin3 tyX3 tyX3_ok nmX3 hown hK hP hD hS 0 rfl rfl 5 (by decide) (hts _ wm184) (fun _ h9 => h9) rfl (by decide +kernel) rfl rfl (Nat.le_of_ble_eq_true rfl) dX3_takeSign_98 (fun H locs hP hD hS => ?_)
            replace hP : va_P D vwCl ((zTx cI h_X q_X c_characters c_length c_parts_28 c_rectangles (c_part + 1) 0 c_value)) H := hP
            replace hD : va_D A ((zTx cI h_X q_X c_characters c_length c_parts_28 c_rectangles (c_part + 1) 0 c_value)) := hD
            refine lv_aload_n hx hb dX3_takeSign_101 rfl (lv_at hl 1 rfl) ?_
            refine lv_iconst (v := Int32.ofInt 0) hx hb dX3_takeSign_102 rfl ?_
            refine va_put (D := D) (ci := 3) (v := vI 0) (ty := .int) (C := RX3) (T := TX3) (N := 7) hx hb hts zin3 tyX3 tyX3_ok nmX3 hown hK hP hD hS 0 rfl rfl 6 (by decide) (hts _ wm185) (fun _ h9 => h9) rfl (by decide +kernel) rfl rfl (Nat.le_of_ble_eq_true rfl) dX3_takeSign_103 (fun H locs hP hD hS => ?_)
            replace hP : va_P D vwCl ((zTx cI h_X q_X c_characters c_length c_parts_28 c_rectangles (c_part + 1) 0 0)) H := hP
            replace hD : va_D A ((zTx cI h_X q_X c_characters c_length c_parts_28 c_rectangles (c_part + 1) 0 0)) := hD
            refine lv_iconst (v := Int32.ofInt 1) hx hb dX3_takeSign_106 rfl ?_
            obtain rfl := Option.some.inj h
            exact z_zret hx hb hr hlk (show narrow .boolean (.int (Int32.ofInt 1)) = .int (Int32.ofInt 1) from by decide) (fun _ _ => 0) hP hD hS dX3_takeSign_107
          · have h := it_p b_32 h
            refine lv_aload_n hx hb dX3_takeSign_81 rfl (lv_at hl 1 rfl) ?_
            refine lv_iconst (v := Int32.ofInt 0) hx hb dX3_takeSign_82 rfl ?_
            refine va_put (D := D) (ci := 3) (v := vI 0) (ty := .int) (C := RX3) (T := TX3) (N := 7) hx hb hts zin3 tyX3 tyX3_ok nmX3 hown hK hP hD hS 0 rfl rfl 4 (by decide) (hts _ wm183) (fun _ h9 => h9) rfl (by decide +kernel) rfl rfl (Nat.le_of_ble_eq_true rfl) dX3_takeSign_83 (fun H locs hP hD hS => ?_)
            replace hP : va_P D vwCl ((zTx cI h_X q_X c_characters c_length c_parts_28 c_rectangles 0 c_digits c_value)) H := hP
            replace hD : va_D A ((zTx cI h_X q_X c_characters c_length c_parts_28 c_rectangles 0 c_digits c_value)) := hD
            refine lv_aload_n hx hb dX3_takeSign_86 rfl (lv_at hl 1 rfl) ?_
            refine lv_dup hx hb dX3_takeSign_87 rfl ?_
            refine va_get (D := D) (ci := 3) (v := vI c_rectangles) (C := RX3) (T := TX3) (N := 7) hx hb hts zin3 hown hK hP 0 rfl rfl 3 (by decide) (hts _ wm181) (fun _ h9 => h9) rfl dX3_takeSign_88 ?_
            refine lv_iconst (v := Int32.ofInt 1) hx hb dX3_takeSign_91 rfl ?_
            refine z_iadd hx hb dX3_takeSign_92 ?_
            refine va_put (D := D) (ci := 3) (v := vI (c_rectangles + 1)) (ty := .int) (C := RX3) (T := TX3) (N := 7) hx hb hts zin3 tyX3 tyX3_ok nmX3 hown hK hP hD hS 0 rfl rfl 3 (by decide) (hts _ wm181) (fun _ h9 => h9) rfl (by decide +kernel) rfl rfl (Nat.le_of_ble_eq_true rfl) dX3_takeSign_93 (fun H locs hP hD hS => ?_)
            replace hP : va_P D vwCl ((zTx cI h_X q_X c_characters c_length c_parts_28 (c_rectangles + 1) 0 c_digits c_value)) H := hP
            replace hD : va_D A ((zTx cI h_X q_X c_characters c_length c_parts_28 (c_rectangles + 1) 0 c_digits c_value)) := hD
            refine lv_aload_n hx hb dX3_takeSign_96 rfl (lv_at hl 1 rfl) ?_
            refine lv_iconst (v := Int32.ofInt 0) hx hb dX3_takeSign_97 rfl ?_
            refine va_put (D := D) (ci := 3) (v := vI 0) (ty := .int) (C := RX3) (T := TX3) (N := 7) hx hb hts zin3 tyX3 tyX3_ok nmX3 hown hK hP hD hS 0 rfl rfl 5 (by decide) (hts _ wm184) (fun _ h9 => h9) rfl (by decide +kernel) rfl rfl (Nat.le_of_ble_eq_true rfl) dX3_takeSign_98 (fun H locs hP hD hS => ?_)
            replace hP : va_P D vwCl ((zTx cI h_X q_X c_characters c_length c_parts_28 (c_rectangles + 1) 0 0 c_value)) H := hP
            replace hD : va_D A ((zTx cI h_X q_X c_characters c_length c_parts_28 (c_rectangles + 1) 0 0 c_value)) := hD
            refine lv_aload_n hx hb dX3_takeSign_101 rfl (lv_at hl 1 rfl) ?_
            refine lv_iconst (v := Int32.ofInt 0) hx hb dX3_takeSign_102 rfl ?_
            refine va_put (D := D) (ci := 3) (v := vI 0) (ty := .int) (C := RX3) (T := TX3) (N := 7) hx hb hts zin3 tyX3 tyX3_ok nmX3 hown hK hP hD hS 0 rfl rfl 6 (by decide) (hts _ wm185) (fun _ h9 => h9) rfl (by decide +kernel) rfl rfl (Nat.le_of_ble_eq_true rfl) dX3_takeSign_103 (fun H locs hP hD hS => ?_)
            replace hP : va_P D vwCl ((zTx cI h_X q_X c_characters c_length c_parts_28 (c_rectangles + 1) 0 0 0)) H := hP
            replace hD : va_D A ((zTx cI h_X q_X c_characters c_length c_parts_28 (c_rectangles + 1) 0 0 0)) := hD
            refine lv_iconst (v := Int32.ofInt 1) hx hb dX3_takeSign_106 rfl ?_
            obtain rfl := Option.some.inj h
            exact z_zret hx hb hr hlk (show narrow .boolean (.int (Int32.ofInt 1)) = .int (Int32.ofInt 1) from by decide) (fun _ _ => 0) hP hD hS dX3_takeSign_107
        · have h := it_p b_27 h
          refine lv_iconst (v := Int32.ofInt 0) hx hb dX3_takeSign_39 rfl ?_
          obtain rfl := Option.some.inj h
          exact z_zret hx hb hr hlk (show narrow .boolean (.int (Int32.ofInt 0)) = .int (Int32.ofInt 0) from by decide) (fun _ _ => 0) hP hD hS dX3_takeSign_40
def f_Tx_findFault_L22 (c_characters : Nat → Int) (c_length : Int) (k : Int → (Nat → Int) → Int → Int → Int → Int → Option (Int × (Nat → Int) × Int × Int × Int × Int)) : Nat → Int → (Nat → Int) → Int → Int → Int → Int → Option (Int × (Nat → Int) × Int × Int × Int × Int)
  | 0, _, _, _, _, _, _ => none
  | n + 1, x1, c_parts, c_rectangles, c_part, c_digits, c_value =>
  gd (ck x1) <| gd (ck c_length) <| if x1 < c_length then (bd1 (f_Rt_at 80 c_characters x1) <| fun r_4 => gd (ck r_4) <| if r_4 < 48 then (bd6 (f_Tx_takeSign c_parts c_rectangles c_part c_digits c_value r_4) <| fun r_9 c_parts_10 c_rectangles_11 c_part_12 c_digits_13 c_value_14 => gd (ck r_9) <| if r_9 = 0 then (some (x1, c_parts_10, c_rectangles_11, c_part_12, c_digits_13, c_value_14)) else (f_Tx_findFault_L22 c_characters c_length k n ((x1 + 1)) (c_parts_10) (c_rectangles_11) (c_part_12) (c_digits_13) (c_value_14))) else (if 57 < r_4 then (bd6 (f_Tx_takeSign c_parts c_rectangles c_part c_digits c_value r_4) <| fun r_20 c_parts_21 c_rectangles_22 c_part_23 c_digits_24 c_value_25 => gd (ck r_20) <| if r_20 = 0 then (some (x1, c_parts_21, c_rectangles_22, c_part_23, c_digits_24, c_value_25)) else (f_Tx_findFault_L22 c_characters c_length k n ((x1 + 1)) (c_parts_21) (c_rectangles_22) (c_part_23) (c_digits_24) (c_value_25))) else (bd3 (f_Tx_takeDigit c_parts c_rectangles c_part c_digits c_value (r_4 - 48)) <| fun r_30 c_digits_31 c_value_32 => gd (ck r_30) <| if r_30 = 0 then (some (x1, c_parts, c_rectangles, c_part, c_digits_31, c_value_32)) else (f_Tx_findFault_L22 c_characters c_length k n ((x1 + 1)) (c_parts) (c_rectangles) (c_part) (c_digits_31) (c_value_32))))) else (k (x1) (c_parts) (c_rectangles) (c_part) (c_digits) (c_value))
def f_Tx_findFault (c_characters : Nat → Int) (c_length : Int) (c_parts : Nat → Int) : Option (Int × (Nat → Int) × Int × Int × Int × Int) :=
  f_Tx_findFault_L22 (c_characters) (c_length) (fun x1_37 c_parts_38 c_rectangles_39 c_part_40 c_digits_41 c_value_42 => gd (ck c_part_40) <| if c_part_40 = 3 then (bd6 (f_Tx_takeSign c_parts_38 c_rectangles_39 c_part_40 c_digits_41 c_value_42 59) <| fun r_46 c_parts_47 c_rectangles_48 c_part_49 c_digits_50 c_value_51 => gd (ck r_46) <| if r_46 = 0 then (some (c_length, c_parts_47, c_rectangles_48, c_part_49, c_digits_50, c_value_51)) else (some ((-5), c_parts_47, c_rectangles_48, c_part_49, c_digits_50, c_value_51))) else (some (c_length, c_parts_38, c_rectangles_39, c_part_40, c_digits_41, c_value_42))) FU (0) (c_parts) (0) (0) (0) (0)
abbrev rm_Tx_findFault : Room := ({ frames := 3, cells := 0, slots := 0, locals := 64 } : Room)
set_option maxHeartbeats 4000000 in
set_option maxRecDepth 100000 in
theorem w_Tx_findFault_L22 {p : Program} {l : Launch} {e : Env} {s : State} {m : MethodId} {args : Array Value} {below : List Frame} {meth : Method} {c : Code} {A : Nat → Prop} (D : va_G) (cI cZ cT : ClassId) (h_X : Nat) (q_X : Nat → Nat) (c_characters : Nat → Int) (c_length : Int) (res : Int × (Nat → Int) × Int × Int × Int × Int) (k : Int → (Nat → Int) → Int → Int → Int → Int → Option (Int × (Nat → Int) × Int × Int × Int × Int)) (hF : zF p m c cX3_findFault 4 s args yX3_findFault.cls meth (some .int) yX3_findFault.name A D (zt cI cZ cT))
    (hk : ∀ (x1 : Int) (c_parts : Nat → Int) (c_rectangles : Int) (c_part : Int) (c_digits : Int) (c_value : Int) (H : Heap) (locs : List Loc) (ls : Array Slot), k x1 c_parts c_rectangles c_part c_digits c_value = some res → va_P D vwCl ((zTx cI h_X q_X c_characters c_length c_parts c_rectangles c_part c_digits c_value)) H → va_D A ((zTx cI h_X q_X c_characters c_length c_parts c_rectangles c_part c_digits c_value)) → va_S A s.heap H locs → lv_has ls 4 [(0, .ref h_X)] → W p l e rm_Tx_findFault s m args below meth c H locs 0 0 (MQ below (zQi D (res.1) (fun u => (zTx cI h_X q_X c_characters c_length (res.2.1) (res.2.2.1) (res.2.2.2.1) (res.2.2.2.2.1) (res.2.2.2.2.2))) A) args s 0 0 A) (F0 m 80 ls [])) :
    ∀ (n : Nat) (x1 : Int) (c_parts : Nat → Int) (c_rectangles : Int) (c_part : Int) (c_digits : Int) (c_value : Int) (H : Heap) (locs : List Loc) (ls : Array Slot), f_Tx_findFault_L22 c_characters c_length k n x1 c_parts c_rectangles c_part c_digits c_value = some res → va_P D vwCl ((zTx cI h_X q_X c_characters c_length c_parts c_rectangles c_part c_digits c_value)) H → va_D A ((zTx cI h_X q_X c_characters c_length c_parts c_rectangles c_part c_digits c_value)) → va_S A s.heap H locs → lv_has ls 4 [(0, .ref h_X), (1, vI x1)] → W p l e rm_Tx_findFault s m args below meth c H locs 0 0 (MQ below (zQi D (res.1) (fun u => (zTx cI h_X q_X c_characters c_length (res.2.1) (res.2.2.1) (res.2.2.2.1) (res.2.2.2.2.1) (res.2.2.2.2.2))) A) args s 0 0 A) (F0 m 22 ls []) := by
  have hx := hF.1.1
  have hb := hF.1.2.1
  have hml := hF.1.2.2.1
  have hown : s.vm.findClass "RectangleTree$RectangleText" = some m.cls := hF.1.2.2.2.1
  have hts := hF.1.2.2.2.2
  have hr := hF.2.1
  have hlk := hF.2.2.1
  have hK := hF.2.2.2.2.1
  have hN := hF.2.2.2.2.2.1
  have hA := hF.2.2.2.2.2.2
  intro n
  induction n with
  | zero => intro x1 c_parts c_rectangles c_part c_digits c_value H locs ls h; cases h
  | succ n ih =>
    intro x1 c_parts c_rectangles c_part c_digits c_value H locs ls h hP hD hS hl
    rw [f_Tx_findFault_L22] at h
    refine lv_iload_n hx hb dX3_findFault_22 rfl (lv_at hl 1 rfl) ?_
    refine lv_aload_n hx hb dX3_findFault_23 rfl (lv_at hl 0 rfl) ?_
    refine va_get (D := D) (ci := 3) (v := vI c_length) (C := RX3) (T := TX3) (N := 7) hx hb hts zin3 hown hK hP 0 rfl rfl 1 (by decide) (hts _ wm179) (fun _ h9 => h9) rfl dX3_findFault_24 ?_
    obtain ⟨g_1, h⟩ := gd_e h
    obtain ⟨g_2, h⟩ := gd_e h
    refine z_icmp_ge (tgt := 80) hx hb g_1 g_2 dX3_findFault_27 (by decide) (fun b_3 => ?_) (fun b_3 => ?_)
    · have h := it_n b_3 h
      exact hk (x1) (c_parts) (c_rectangles) (c_part) (c_digits) (c_value) H locs ls h hP hD hS (lv_sub hl [0] rfl)
    · have h := it_p b_3 h
      refine lv_aload_n hx hb dX3_findFault_30 rfl (lv_at hl 0 rfl) ?_
      refine va_get (D := D) (ci := 3) (v := .ref (q_X 0)) (C := RX3) (T := TX3) (N := 7) hx hb hts zin3 hown hK hP 0 rfl rfl 0 (by decide) (hts _ wm178) (fun _ h9 => h9) rfl dX3_findFault_31 ?_
      refine lv_iload_n hx hb dX3_findFault_34 rfl (lv_at hl 1 rfl) ?_
      obtain ⟨r_4, e_5, h⟩ := bd1_e h
      refine z_goi (ws' := []) (ret := r_4) (wc := (zAr cI ((q_X 0)) (80) (c_characters))) (wn := fun u_6 => (zTx cI h_X q_X c_characters c_length c_parts c_rectangles c_part c_digits c_value)) (wr := ([0, 2].filterMap (fun i => ((zTx cI h_X q_X c_characters c_length c_parts c_rectangles c_part c_digits c_value))[i]?))) (va_runSN (As := [.ref (q_X 0), vI x1]) (rest := []) hF.1 (c_Rt_at l D cI cZ cT (q_X 0) 80 c_characters x1 H.size (r_4) e_5) ⟨va_cnB 2 hts (zW_good wm229) rfl rfl rfl (hN.at 12 rfl) (hts _ wm32) (by decide +kernel) ⟨Nat.le_of_ble_eq_true rfl, Nat.le_of_ble_eq_true rfl⟩, hts _ wm228, trivial⟩ ⟨zP.blind, zP.enter (z_subP (ws' := (zAr cI ((q_X 0)) (80) (c_characters))) hP [1] rfl) hK (hD.sub [1] (by decide) rfl) hN⟩ rfl rfl hl.1 rfl (lv_room (Nat.le_of_ble_eq_true rfl)) dX3_findFault_35 ⟨Nat.le_refl _, Nat.le_refl _⟩) hP hD hS hA [1] [0, 2] [0, 2, 1] rfl rfl (by decide) (fun _ => rfl) (fun u_6 H locs hP hD hS hz => ?_)
      refine lv_istore_n (lv' := [(2, vI r_4), (0, .ref h_X), (1, vI x1)]) hx hb dX3_findFault_38 rfl hl (by decide) rfl (fun ls hl => ?_)
      refine lv_iload_n hx hb dX3_findFault_39 rfl (lv_at hl 0 rfl) ?_
      refine lv_bipush (v := Int32.ofInt 48) hx hb dX3_findFault_40 (by decide +kernel) ?_
      obtain ⟨g_7, h⟩ := gd_e h
      refine z_icmp_lt (tgt := 62) hx hb g_7 (by decide) dX3_findFault_42 (by decide) (fun b_8 => ?_) (fun b_8 => ?_)
      · have h := it_p b_8 h
        refine lv_aload_n hx hb dX3_findFault_62 rfl (lv_at hl 1 rfl) ?_
        refine lv_iload_n hx hb dX3_findFault_63 rfl (lv_at hl 0 rfl) ?_
        obtain ⟨r_9, c_parts_10, c_rectangles_11, c_part_12, c_digits_13, c_value_14, e_15, h⟩ := bd6_e h
        refine z_goi (ws' := []) (ret := r_9) (wc := (zTx cI (h_X) (q_X) (c_characters) (c_length) (c_parts) (c_rectangles) (c_part) (c_digits) (c_value))) (wn := fun u_16 => (zTx cI h_X q_X c_characters c_length c_parts_10 c_rectangles_11 c_part_12 c_digits_13 c_value_14)) (wr := []) (va_runV (As := [vI r_4]) (rest := []) hF.1 (c_Tx_takeSign l D cI cZ cT h_X q_X c_characters c_length c_parts c_rectangles c_part c_digits c_value r_4 H.size (r_9, c_parts_10, c_rectangles_11, c_part_12, c_digits_13, c_value_14) e_15) (cwV 1 hts (zgV wm744 wm746 wm30 wm38 wm747) rfl rfl rfl (by decide +kernel) ⟨Nat.le_of_ble_eq_true rfl, Nat.le_of_ble_eq_true rfl⟩) ⟨zP.blind, va_recv hK (z_subP (ws' := (zTx cI (h_X) (q_X) (c_characters) (c_length) (c_parts) (c_rectangles) (c_part) (c_digits) (c_value))) hP [0, 1, 2] rfl) (ci := 3) (q0 := 0) rfl rfl, zP.enter (z_subP (ws' := (zTx cI (h_X) (q_X) (c_characters) (c_length) (c_parts) (c_rectangles) (c_part) (c_digits) (c_value))) hP [0, 1, 2] rfl) hK (hD.sub [0, 1, 2] (by decide) rfl) hN⟩ rfl rfl hl.1 rfl (lv_room (Nat.le_of_ble_eq_true rfl)) dX3_findFault_64 ⟨Nat.le_refl _, Nat.le_refl _⟩) hP hD hS hA [0, 1, 2] [] [0, 1, 2] rfl rfl (by decide) (fun _ => rfl) (fun u_16 H locs hP hD hS hz => ?_)
        refine lv_istore_n (lv' := [(3, vI r_9), (2, vI r_4), (0, .ref h_X), (1, vI x1)]) hx hb dX3_findFault_67 rfl hl (by decide) rfl (fun ls hl => ?_)
        refine lv_iload_n hx hb dX3_findFault_68 rfl (lv_at hl 0 rfl) ?_
        obtain ⟨g_17, h⟩ := gd_e h
        refine z_if_ne (tgt := 74) hx hb g_17 dX3_findFault_69 (by decide) (fun b_18 => ?_) (fun b_18 => ?_)
        · have h := it_n b_18 h
          refine lv_iinc (v := Int32.ofInt (x1 + 1)) (lv' := [(1, vI (x1 + 1)), (3, vI r_9), (2, vI r_4), (0, .ref h_X)]) hx hb dX3_findFault_74 hl (k := 3) rfl (z_inc _ _) (by decide) rfl (fun ls hl => ?_)
          refine lv_goto (tgt := 22) hx hb dX3_findFault_77 (by decide) ?_
          exact ih ((x1 + 1)) (c_parts_10) (c_rectangles_11) (c_part_12) (c_digits_13) (c_value_14) H locs ls h hP hD hS (lv_sub hl [3, 0] rfl)
        · have h := it_p b_18 h
          refine lv_iload_n hx hb dX3_findFault_72 rfl (lv_at hl 3 rfl) ?_
          obtain rfl := Option.some.inj h
          exact z_iret hx hb hr hlk (fun _ _ => 0) hP hD hS dX3_findFault_73
      · have h := it_n b_8 h
        refine lv_iload_n hx hb dX3_findFault_45 rfl (lv_at hl 0 rfl) ?_
        refine lv_bipush (v := Int32.ofInt 57) hx hb dX3_findFault_46 (by decide +kernel) ?_
        refine z_icmp_gt (tgt := 62) hx hb g_7 (by decide) dX3_findFault_48 (by decide) (fun b_19 => ?_) (fun b_19 => ?_)
        · have h := it_p b_19 h
          refine lv_aload_n hx hb dX3_findFault_62 rfl (lv_at hl 1 rfl) ?_
          refine lv_iload_n hx hb dX3_findFault_63 rfl (lv_at hl 0 rfl) ?_
          obtain ⟨r_20, c_parts_21, c_rectangles_22, c_part_23, c_digits_24, c_value_25, e_26, h⟩ := bd6_e h
          refine z_goi (ws' := []) (ret := r_20) (wc := (zTx cI (h_X) (q_X) (c_characters) (c_length) (c_parts) (c_rectangles) (c_part) (c_digits) (c_value))) (wn := fun u_27 => (zTx cI h_X q_X c_characters c_length c_parts_21 c_rectangles_22 c_part_23 c_digits_24 c_value_25)) (wr := []) (va_runV (As := [vI r_4]) (rest := []) hF.1 (c_Tx_takeSign l D cI cZ cT h_X q_X c_characters c_length c_parts c_rectangles c_part c_digits c_value r_4 H.size (r_20, c_parts_21, c_rectangles_22, c_part_23, c_digits_24, c_value_25) e_26) (cwV 1 hts (zgV wm744 wm746 wm30 wm38 wm747) rfl rfl rfl (by decide +kernel) ⟨Nat.le_of_ble_eq_true rfl, Nat.le_of_ble_eq_true rfl⟩) ⟨zP.blind, va_recv hK (z_subP (ws' := (zTx cI (h_X) (q_X) (c_characters) (c_length) (c_parts) (c_rectangles) (c_part) (c_digits) (c_value))) hP [0, 1, 2] rfl) (ci := 3) (q0 := 0) rfl rfl, zP.enter (z_subP (ws' := (zTx cI (h_X) (q_X) (c_characters) (c_length) (c_parts) (c_rectangles) (c_part) (c_digits) (c_value))) hP [0, 1, 2] rfl) hK (hD.sub [0, 1, 2] (by decide) rfl) hN⟩ rfl rfl hl.1 rfl (lv_room (Nat.le_of_ble_eq_true rfl)) dX3_findFault_64 ⟨Nat.le_refl _, Nat.le_refl _⟩) hP hD hS hA [0, 1, 2] [] [0, 1, 2] rfl rfl (by decide) (fun _ => rfl) (fun u_27 H locs hP hD hS hz => ?_)
          refine lv_istore_n (lv' := [(3, vI r_20), (2, vI r_4), (0, .ref h_X), (1, vI x1)]) hx hb dX3_findFault_67 rfl hl (by decide) rfl (fun ls hl => ?_)
          refine lv_iload_n hx hb dX3_findFault_68 rfl (lv_at hl 0 rfl) ?_
          obtain ⟨g_28, h⟩ := gd_e h
          refine z_if_ne (tgt := 74) hx hb g_28 dX3_findFault_69 (by decide) (fun b_29 => ?_) (fun b_29 => ?_)
          · have h := it_n b_29 h
            refine lv_iinc (v := Int32.ofInt (x1 + 1)) (lv' := [(1, vI (x1 + 1)), (3, vI r_20), (2, vI r_4), (0, .ref h_X)]) hx hb dX3_findFault_74 hl (k := 3) rfl (z_inc _ _) (by decide) rfl (fun ls hl => ?_)
            refine lv_goto (tgt := 22) hx hb dX3_findFault_77 (by decide) ?_
            exact ih ((x1 + 1)) (c_parts_21) (c_rectangles_22) (c_part_23) (c_digits_24) (c_value_25) H locs ls h hP hD hS (lv_sub hl [3, 0] rfl)
          · have h := it_p b_29 h
            refine lv_iload_n hx hb dX3_findFault_72 rfl (lv_at hl 3 rfl) ?_
            obtain rfl := Option.some.inj h
            exact z_iret hx hb hr hlk (fun _ _ => 0) hP hD hS dX3_findFault_73
        · have h := it_n b_19 h
          refine lv_aload_n hx hb dX3_findFault_51 rfl (lv_at hl 1 rfl) ?_
          refine lv_iload_n hx hb dX3_findFault_52 rfl (lv_at hl 0 rfl) ?_
          refine lv_bipush (v := Int32.ofInt 48) hx hb dX3_findFault_53 (by decide +kernel) ?_
          refine z_isub hx hb dX3_findFault_55 ?_
          obtain ⟨r_30, c_digits_31, c_value_32, e_33, h⟩ := bd3_e h
          refine z_goi (ws' := []) (ret := r_30) (wc := (zTx cI (h_X) (q_X) (c_characters) (c_length) (c_parts) (c_rectangles) (c_part) (c_digits) (c_value))) (wn := fun u_34 => (zTx cI h_X q_X c_characters c_length c_parts c_rectangles c_part c_digits_31 c_value_32)) (wr := []) (va_runV (As := [vI (r_4 - 48)]) (rest := []) hF.1 (c_Tx_takeDigit l D cI cZ cT h_X q_X c_characters c_length c_parts c_rectangles c_part c_digits c_value (r_4 - 48) H.size (r_30, c_digits_31, c_value_32) e_33) (cwV 1 hts (zgV wm736 wm738 wm28 wm38 wm739) rfl rfl rfl (by decide +kernel) ⟨Nat.le_of_ble_eq_true rfl, Nat.le_of_ble_eq_true rfl⟩) ⟨zP.blind, va_recv hK (z_subP (ws' := (zTx cI (h_X) (q_X) (c_characters) (c_length) (c_parts) (c_rectangles) (c_part) (c_digits) (c_value))) hP [0, 1, 2] rfl) (ci := 3) (q0 := 0) rfl rfl, zP.enter (z_subP (ws' := (zTx cI (h_X) (q_X) (c_characters) (c_length) (c_parts) (c_rectangles) (c_part) (c_digits) (c_value))) hP [0, 1, 2] rfl) hK (hD.sub [0, 1, 2] (by decide) rfl) hN⟩ rfl rfl hl.1 rfl (lv_room (Nat.le_of_ble_eq_true rfl)) dX3_findFault_56 ⟨Nat.le_refl _, Nat.le_refl _⟩) hP hD hS hA [0, 1, 2] [] [0, 1, 2] rfl rfl (by decide) (fun _ => rfl) (fun u_34 H locs hP hD hS hz => ?_)
          refine lv_goto (tgt := 67) hx hb dX3_findFault_59 (by decide) ?_
          refine lv_istore_n (lv' := [(3, vI r_30), (2, vI r_4), (0, .ref h_X), (1, vI x1)]) hx hb dX3_findFault_67 rfl hl (by decide) rfl (fun ls hl => ?_)
          refine lv_iload_n hx hb dX3_findFault_68 rfl (lv_at hl 0 rfl) ?_
          obtain ⟨g_35, h⟩ := gd_e h
          refine z_if_ne (tgt := 74) hx hb g_35 dX3_findFault_69 (by decide) (fun b_36 => ?_) (fun b_36 => ?_)
          · have h := it_n b_36 h
            refine lv_iinc (v := Int32.ofInt (x1 + 1)) (lv' := [(1, vI (x1 + 1)), (3, vI r_30), (2, vI r_4), (0, .ref h_X)]) hx hb dX3_findFault_74 hl (k := 3) rfl (z_inc _ _) (by decide) rfl (fun ls hl => ?_)
            refine lv_goto (tgt := 22) hx hb dX3_findFault_77 (by decide) ?_
            exact ih ((x1 + 1)) (c_parts) (c_rectangles) (c_part) (c_digits_31) (c_value_32) H locs ls h hP hD hS (lv_sub hl [3, 0] rfl)
          · have h := it_p b_36 h
            refine lv_iload_n hx hb dX3_findFault_72 rfl (lv_at hl 3 rfl) ?_
            obtain rfl := Option.some.inj h
            exact z_iret hx hb hr hlk (fun _ _ => 0) hP hD hS dX3_findFault_73
set_option maxHeartbeats 4000000 in
set_option maxRecDepth 100000 in
theorem c_Tx_findFault (l : Launch) (D : va_G) (cI cZ cT : ClassId) (h_X : Nat) (q_X : Nat → Nat) (c_characters : Nat → Int) (c_length : Int) (c_parts : Nat → Int) (c_rectangles : Int) (c_part : Int) (c_digits : Int) (c_value : Int) (sz : Nat) (res : Int × (Nat → Int) × Int × Int × Int × Int) (h : f_Tx_findFault c_characters c_length c_parts = some res) : zMi l yX3_findFault cX3_findFault 4 rm_Tx_findFault D (zt cI cZ cT) [.ref h_X] ((zTx cI h_X q_X c_characters c_length c_parts c_rectangles c_part c_digits c_value)) sz (res.1) (fun u => (zTx cI h_X q_X c_characters c_length (res.2.1) (res.2.2.1) (res.2.2.2.1) (res.2.2.2.2.1) (res.2.2.2.2.2))) 0 0 := by
  refine z_enth (Qc := zQi D (res.1) (fun u => (zTx cI h_X q_X c_characters c_length (res.2.1) (res.2.2.1) (res.2.2.2.1) (res.2.2.2.2.1) (res.2.2.2.2.2)))) (by decide) (Nat.le_of_ble_eq_true rfl) (fun p e s m args below meth c A ls H locs hF hP hD hS hl => ?_)
  have hx := hF.1.1
  have hb := hF.1.2.1
  have hml := hF.1.2.2.1
  have hown : s.vm.findClass "RectangleTree$RectangleText" = some m.cls := hF.1.2.2.2.1
  have hts := hF.1.2.2.2.2
  have hr := hF.2.1
  have hlk := hF.2.2.1
  have hK := hF.2.2.2.2.1
  have hN := hF.2.2.2.2.2.1
  have hA := hF.2.2.2.2.2.2
  unfold f_Tx_findFault at h
  refine lv_aload_n hx hb dX3_findFault_0 rfl (lv_at hl 0 rfl) ?_
  refine lv_iconst (v := Int32.ofInt 0) hx hb dX3_findFault_1 rfl ?_
  refine va_put (D := D) (ci := 3) (v := vI 0) (ty := .int) (C := RX3) (T := TX3) (N := 7) hx hb hts zin3 tyX3 tyX3_ok nmX3 hown hK hP hD hS 0 rfl rfl 3 (by decide) (hts _ wm181) (fun _ h9 => h9) rfl (by decide +kernel) rfl rfl (Nat.le_of_ble_eq_true rfl) dX3_findFault_2 (fun H locs hP hD hS => ?_)
  replace hP : va_P D vwCl ((zTx cI h_X q_X c_characters c_length c_parts 0 c_part c_digits c_value)) H := hP
  replace hD : va_D A ((zTx cI h_X q_X c_characters c_length c_parts 0 c_part c_digits c_value)) := hD
  refine lv_aload_n hx hb dX3_findFault_5 rfl (lv_at hl 0 rfl) ?_
  refine lv_iconst (v := Int32.ofInt 0) hx hb dX3_findFault_6 rfl ?_
  refine va_put (D := D) (ci := 3) (v := vI 0) (ty := .int) (C := RX3) (T := TX3) (N := 7) hx hb hts zin3 tyX3 tyX3_ok nmX3 hown hK hP hD hS 0 rfl rfl 4 (by decide) (hts _ wm183) (fun _ h9 => h9) rfl (by decide +kernel) rfl rfl (Nat.le_of_ble_eq_true rfl) dX3_findFault_7 (fun H locs hP hD hS => ?_)
  replace hP : va_P D vwCl ((zTx cI h_X q_X c_characters c_length c_parts 0 0 c_digits c_value)) H := hP
  replace hD : va_D A ((zTx cI h_X q_X c_characters c_length c_parts 0 0 c_digits c_value)) := hD
  refine lv_aload_n hx hb dX3_findFault_10 rfl (lv_at hl 0 rfl) ?_
  refine lv_iconst (v := Int32.ofInt 0) hx hb dX3_findFault_11 rfl ?_
  refine va_put (D := D) (ci := 3) (v := vI 0) (ty := .int) (C := RX3) (T := TX3) (N := 7) hx hb hts zin3 tyX3 tyX3_ok nmX3 hown hK hP hD hS 0 rfl rfl 5 (by decide) (hts _ wm184) (fun _ h9 => h9) rfl (by decide +kernel) rfl rfl (Nat.le_of_ble_eq_true rfl) dX3_findFault_12 (fun H locs hP hD hS => ?_)
  replace hP : va_P D vwCl ((zTx cI h_X q_X c_characters c_length c_parts 0 0 0 c_value)) H := hP
  replace hD : va_D A ((zTx cI h_X q_X c_characters c_length c_parts 0 0 0 c_value)) := hD
  refine lv_aload_n hx hb dX3_findFault_15 rfl (lv_at hl 0 rfl) ?_
  refine lv_iconst (v := Int32.ofInt 0) hx hb dX3_findFault_16 rfl ?_
  refine va_put (D := D) (ci := 3) (v := vI 0) (ty := .int) (C := RX3) (T := TX3) (N := 7) hx hb hts zin3 tyX3 tyX3_ok nmX3 hown hK hP hD hS 0 rfl rfl 6 (by decide) (hts _ wm185) (fun _ h9 => h9) rfl (by decide +kernel) rfl rfl (Nat.le_of_ble_eq_true rfl) dX3_findFault_17 (fun H locs hP hD hS => ?_)
  replace hP : va_P D vwCl ((zTx cI h_X q_X c_characters c_length c_parts 0 0 0 0)) H := hP
  replace hD : va_D A ((zTx cI h_X q_X c_characters c_length c_parts 0 0 0 0)) := hD
  refine lv_iconst (v := Int32.ofInt 0) hx hb dX3_findFault_20 rfl ?_
  refine lv_istore_n (lv' := [(1, vI 0), (0, .ref h_X)]) hx hb dX3_findFault_21 rfl hl (by decide) rfl (fun ls hl => ?_)
  refine w_Tx_findFault_L22 D cI cZ cT (h_X) (q_X) (c_characters) (c_length) _ _ hF (fun x1_37 c_parts_38 c_rectangles_39 c_part_40 c_digits_41 c_value_42 H locs ls h hP hD hS hl => ?_) _ (0) (c_parts) (0) (0) (0) (0) _ _ _ h hP hD hS (lv_sub hl [1, 0] rfl)
  refine lv_aload_n hx hb dX3_findFault_80 rfl (lv_at hl 0 rfl) ?_
  refine va_get (D := D) (ci := 3) (v := vI c_part_40) (C := RX3) (T := TX3) (N := 7) hx hb hts zin3 hown hK hP 0 rfl rfl 4 (by decide) (hts _ wm183) (fun _ h9 => h9) rfl dX3_findFault_81 ?_
  refine lv_iconst (v := Int32.ofInt 3) hx hb dX3_findFault_84 rfl ?_
  obtain ⟨g_43, h⟩ := gd_e h
  refine z_icmp_ne (tgt := 101) hx hb g_43 (by decide) dX3_findFault_85 (by decide) (fun b_44 => ?_) (fun b_44 => ?_)
  · have h := it_n b_44 h
    refine lv_iconst (v := Int32.ofInt 0) hx hb dX3_findFault_101 rfl ?_
    refine lv_istore_n (lv' := [(1, vI 0), (0, .ref h_X)]) hx hb dX3_findFault_102 rfl hl (by decide) rfl (fun ls hl => ?_)
    refine lv_iload_n hx hb dX3_findFault_103 rfl (lv_at hl 0 rfl) ?_
    refine z_if_eq (tgt := 112) hx hb (by decide) dX3_findFault_104 (by decide) (fun b_45 => ?_) (fun b_45 => ?_)
    rotate_left
    · exact absurd b_45 (by decide)
    refine lv_aload_n hx hb dX3_findFault_112 rfl (lv_at hl 1 rfl) ?_
    refine va_get (D := D) (ci := 3) (v := vI c_length) (C := RX3) (T := TX3) (N := 7) hx hb hts zin3 hown hK hP 0 rfl rfl 1 (by decide) (hts _ wm179) (fun _ h9 => h9) rfl dX3_findFault_113 ?_
    obtain rfl := Option.some.inj h
    exact z_iret hx hb hr hlk (fun _ _ => 0) hP hD hS dX3_findFault_116
  · have h := it_p b_44 h
    refine lv_aload_n hx hb dX3_findFault_88 rfl (lv_at hl 0 rfl) ?_
    refine lv_bipush (v := Int32.ofInt 59) hx hb dX3_findFault_89 (by decide +kernel) ?_
    obtain ⟨r_46, c_parts_47, c_rectangles_48, c_part_49, c_digits_50, c_value_51, e_52, h⟩ := bd6_e h
    refine z_goi (ws' := []) (ret := r_46) (wc := (zTx cI (h_X) (q_X) (c_characters) (c_length) (c_parts_38) (c_rectangles_39) (c_part_40) (c_digits_41) (c_value_42))) (wn := fun u_53 => (zTx cI h_X q_X c_characters c_length c_parts_47 c_rectangles_48 c_part_49 c_digits_50 c_value_51)) (wr := []) (va_runV (As := [vI 59]) (rest := []) hF.1 (c_Tx_takeSign l D cI cZ cT h_X q_X c_characters c_length c_parts_38 c_rectangles_39 c_part_40 c_digits_41 c_value_42 59 H.size (r_46, c_parts_47, c_rectangles_48, c_part_49, c_digits_50, c_value_51) e_52) (cwV 1 hts (zgV wm744 wm746 wm30 wm38 wm747) rfl rfl rfl (by decide +kernel) ⟨Nat.le_of_ble_eq_true rfl, Nat.le_of_ble_eq_true rfl⟩) ⟨zP.blind, va_recv hK (z_subP (ws' := (zTx cI (h_X) (q_X) (c_characters) (c_length) (c_parts_38) (c_rectangles_39) (c_part_40) (c_digits_41) (c_value_42))) hP [0, 1, 2] rfl) (ci := 3) (q0 := 0) rfl rfl, zP.enter (z_subP (ws' := (zTx cI (h_X) (q_X) (c_characters) (c_length) (c_parts_38) (c_rectangles_39) (c_part_40) (c_digits_41) (c_value_42))) hP [0, 1, 2] rfl) hK (hD.sub [0, 1, 2] (by decide) rfl) hN⟩ rfl rfl hl.1 rfl (lv_room (Nat.le_of_ble_eq_true rfl)) dX3_findFault_91 ⟨Nat.le_refl _, Nat.le_refl _⟩) hP hD hS hA [0, 1, 2] [] [0, 1, 2] rfl rfl (by decide) (fun _ => rfl) (fun u_53 H locs hP hD hS hz => ?_)
    obtain ⟨g_54, h⟩ := gd_e h
    refine z_if_eq (tgt := 101) hx hb g_54 dX3_findFault_94 (by decide) (fun b_55 => ?_) (fun b_55 => ?_)
    · have h := it_p b_55 h
      refine lv_iconst (v := Int32.ofInt 0) hx hb dX3_findFault_101 rfl ?_
      refine lv_istore_n (lv' := [(1, vI 0), (0, .ref h_X)]) hx hb dX3_findFault_102 rfl hl (by decide) rfl (fun ls hl => ?_)
      refine lv_iload_n hx hb dX3_findFault_103 rfl (lv_at hl 0 rfl) ?_
      refine z_if_eq (tgt := 112) hx hb (by decide) dX3_findFault_104 (by decide) (fun b_56 => ?_) (fun b_56 => ?_)
      rotate_left
      · exact absurd b_56 (by decide)
      refine lv_aload_n hx hb dX3_findFault_112 rfl (lv_at hl 1 rfl) ?_
      refine va_get (D := D) (ci := 3) (v := vI c_length) (C := RX3) (T := TX3) (N := 7) hx hb hts zin3 hown hK hP 0 rfl rfl 1 (by decide) (hts _ wm179) (fun _ h9 => h9) rfl dX3_findFault_113 ?_
      obtain rfl := Option.some.inj h
      exact z_iret hx hb hr hlk (fun _ _ => 0) hP hD hS dX3_findFault_116
    · have h := it_n b_55 h
      refine lv_iconst (v := Int32.ofInt 1) hx hb dX3_findFault_97 rfl ?_
      refine lv_goto (tgt := 102) hx hb dX3_findFault_98 (by decide) ?_
      refine lv_istore_n (lv' := [(1, vI 1), (0, .ref h_X)]) hx hb dX3_findFault_102 rfl hl (by decide) rfl (fun ls hl => ?_)
      refine lv_iload_n hx hb dX3_findFault_103 rfl (lv_at hl 0 rfl) ?_
      refine z_if_eq (tgt := 112) hx hb (by decide) dX3_findFault_104 (by decide) (fun b_57 => ?_) (fun b_57 => ?_)
      · exact absurd b_57 (by decide)
      refine lv_bipush (v := Int32.ofInt (-5)) hx hb dX3_findFault_107 (by decide +kernel) ?_
      refine lv_goto (tgt := 116) hx hb dX3_findFault_109 (by decide) ?_
      obtain rfl := Option.some.inj h
      exact z_iret hx hb hr hlk (fun _ _ => 0) hP hD hS dX3_findFault_116
