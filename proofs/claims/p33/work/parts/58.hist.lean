def f_Hi_dropOldest (S0 : TV) (S1 : TV) (S2 : TV) (S3 : TV) : Option (Int × TV × TV × TV × TV) :=
  some (3, S1, S2, S3, S0)
abbrev rm_Hi_dropOldest : Room := ({ frames := 0, cells := 0, slots := 0, locals := 0 } : Room)
theorem mo_Hi_dropOldest (S0 : TV) (S1 : TV) (S2 : TV) (S3 : TV) (res : Int × TV × TV × TV × TV) (h : f_Hi_dropOldest S0 S1 S2 S3 = some res) : ((tR S0) + (tR S1) + (tR S2) + (tR S3)) ≤ ((tR (res.2.1)) + (tR (res.2.2.1)) + (tR (res.2.2.2.1)) + (tR (res.2.2.2.2))) := by
  unfold f_Hi_dropOldest at h
  obtain rfl := Option.some.inj h
  exact (show ((tR S0) + (tR S1) + (tR S2) + (tR S3)) ≤ ((tR S1) + (tR S2) + (tR S3) + (tR S0)) from by omega)
set_option maxHeartbeats 4000000 in
set_option maxRecDepth 100000 in
theorem c_Hi_dropOldest (l : Launch) (D : va_G) (cI cZ cT : ClassId) (h_H : Nat) (q_H : Nat) (h_S0 : Nat) (h_S1 : Nat) (h_S2 : Nat) (h_S3 : Nat) (q_S0 : Nat → Nat) (q_S1 : Nat → Nat) (q_S2 : Nat → Nat) (q_S3 : Nat → Nat) (c_count : Int) (S0 : TV) (S1 : TV) (S2 : TV) (S3 : TV) (sz : Nat) (res : Int × TV × TV × TV × TV) (h : f_Hi_dropOldest S0 S1 S2 S3 = some res) : zMv l yX1_dropOldest cX1_dropOldest 3 rm_Hi_dropOldest D (zt cI cZ cT) [.ref h_H] ((zHs cT h_H q_H h_S0 h_S1 h_S2 h_S3 c_count) ++ (zTr cI h_S0 q_S0 S0) ++ (zTr cI h_S1 q_S1 S1) ++ (zTr cI h_S2 q_S2 S2) ++ (zTr cI h_S3 q_S3 S3)) sz (fun u => (zHs cT h_H q_H (u 1 9) (u 2 9) (u 3 9) (u 4 9) (res.1)) ++ (zTr cI (u 1 9) (u 1) (res.2.1)) ++ (zTr cI (u 2 9) (u 2) (res.2.2.1)) ++ (zTr cI (u 3 9) (u 3) (res.2.2.2.1)) ++ (zTr cI (u 4 9) (u 4) (res.2.2.2.2))) 0 0 := by
  refine z_enth (Qc := zQv D (fun u => (zHs cT h_H q_H (u 1 9) (u 2 9) (u 3 9) (u 4 9) (res.1)) ++ (zTr cI (u 1 9) (u 1) (res.2.1)) ++ (zTr cI (u 2 9) (u 2) (res.2.2.1)) ++ (zTr cI (u 3 9) (u 3) (res.2.2.2.1)) ++ (zTr cI (u 4 9) (u 4) (res.2.2.2.2)))) (by decide) (Nat.le_of_ble_eq_true rfl) (fun p e s m args below meth c A ls H locs hF hP hD hS hl => ?_)
  have hx := hF.1.1
  have hb := hF.1.2.1
  have hml := hF.1.2.2.1
  have hown : s.vm.findClass "RectangleTree$History" = some m.cls := hF.1.2.2.2.1
  have hts := hF.1.2.2.2.2
  have hr := hF.2.1
  have hlk := hF.2.2.1
  have hK := hF.2.2.2.2.1
  have hN := hF.2.2.2.2.2.1
  have hA := hF.2.2.2.2.2.2
  unfold f_Hi_dropOldest at h
  refine lv_iconst (v := Int32.ofInt 1) hx hb dX1_dropOldest_0 rfl ?_
  refine lv_istore_n (lv' := [(1, vI 1), (0, .ref h_H)]) hx hb dX1_dropOldest_1 rfl hl (by decide) rfl (fun ls hl => ?_)
  refine lv_iload_n hx hb dX1_dropOldest_2 rfl (lv_at hl 0 rfl) ?_
  refine lv_aload_n hx hb dX1_dropOldest_3 rfl (lv_at hl 1 rfl) ?_
  refine va_get (D := D) (ci := 1) (v := .ref q_H) (C := RX1) (T := TX1) (N := 2) hx hb hts zin1 hown hK hP 0 rfl rfl 0 (by decide) (hts _ wm210) (fun _ h9 => h9) rfl dX1_dropOldest_4 ?_
  refine va_alen (v := Int32.ofInt 4) hx hb hK hP 1 2 rfl rfl rfl dX1_dropOldest_7 ?_
  refine z_icmp_ge (tgt := 47) hx hb (by decide) (by decide) dX1_dropOldest_8 (by decide) (fun b_1 => ?_) (fun b_1 => ?_)
  · exact absurd b_1 (by decide)
  refine lv_aload_n hx hb dX1_dropOldest_11 rfl (lv_at hl 1 rfl) ?_
  refine va_get (D := D) (ci := 1) (v := .ref q_H) (C := RX1) (T := TX1) (N := 2) hx hb hts zin1 hown hK hP 0 rfl rfl 0 (by decide) (hts _ wm210) (fun _ h9 => h9) rfl dX1_dropOldest_12 ?_
  refine lv_iload_n hx hb dX1_dropOldest_15 rfl (lv_at hl 0 rfl) ?_
  refine lv_iconst (v := Int32.ofInt 1) hx hb dX1_dropOldest_16 rfl ?_
  refine z_isub hx hb dX1_dropOldest_17 ?_
  refine z_top (x' := 0) (by decide) ?_
  refine z_aald (j := 0) (y := h_S0) hx hb hK hP 1 rfl rfl (by decide) (by decide) rfl dX1_dropOldest_18 ?_
  refine lv_astore_n (lv' := [(2, .ref h_S0), (1, vI 1), (0, .ref h_H)]) hx hb dX1_dropOldest_19 rfl hl (by decide) rfl (fun ls hl => ?_)
  refine lv_aload_n hx hb dX1_dropOldest_20 rfl (lv_at hl 2 rfl) ?_
  refine va_get (D := D) (ci := 1) (v := .ref q_H) (C := RX1) (T := TX1) (N := 2) hx hb hts zin1 hown hK hP 0 rfl rfl 0 (by decide) (hts _ wm210) (fun _ h9 => h9) rfl dX1_dropOldest_21 ?_
  refine lv_iload_n hx hb dX1_dropOldest_24 rfl (lv_at hl 1 rfl) ?_
  refine lv_iconst (v := Int32.ofInt 1) hx hb dX1_dropOldest_25 rfl ?_
  refine z_isub hx hb dX1_dropOldest_26 ?_
  refine z_top (x' := 0) (by decide) ?_
  refine lv_aload_n hx hb dX1_dropOldest_27 rfl (lv_at hl 2 rfl) ?_
  refine va_get (D := D) (ci := 1) (v := .ref q_H) (C := RX1) (T := TX1) (N := 2) hx hb hts zin1 hown hK hP 0 rfl rfl 0 (by decide) (hts _ wm210) (fun _ h9 => h9) rfl dX1_dropOldest_28 ?_
  refine lv_iload_n hx hb dX1_dropOldest_31 rfl (lv_at hl 1 rfl) ?_
  refine z_aald (j := 1) (y := h_S1) hx hb hK hP 1 rfl rfl (by decide) (by decide) rfl dX1_dropOldest_32 ?_
  refine z_aast (j := 0) (v := h_S1) (f := (zR4 h_S0 h_S1 h_S2 h_S3)) (ws' := (zHs cT h_H q_H h_S1 h_S1 h_S2 h_S3 c_count) ++ (zTr cI h_S0 q_S0 S0) ++ (zTr cI h_S1 q_S1 S1) ++ (zTr cI h_S2 q_S2 S2) ++ (zTr cI h_S3 q_S3 S3)) hx hb hK hP hD hS 1 8 rfl rfl rfl (by decide) (by decide) (zR4_up0 _ _ _ _ _) dX1_dropOldest_33 rfl (fun H locs hP hD hS => ?_)
  refine lv_aload_n hx hb dX1_dropOldest_34 rfl (lv_at hl 2 rfl) ?_
  refine va_get (D := D) (ci := 1) (v := .ref q_H) (C := RX1) (T := TX1) (N := 2) hx hb hts zin1 hown hK hP 0 rfl rfl 0 (by decide) (hts _ wm210) (fun _ h9 => h9) rfl dX1_dropOldest_35 ?_
  refine lv_iload_n hx hb dX1_dropOldest_38 rfl (lv_at hl 1 rfl) ?_
  refine lv_aload_n hx hb dX1_dropOldest_39 rfl (lv_at hl 0 rfl) ?_
  refine z_aast (j := 1) (v := h_S0) (f := (zR4 h_S1 h_S1 h_S2 h_S3)) (ws' := (zHs cT h_H q_H h_S1 h_S0 h_S2 h_S3 c_count) ++ (zTr cI h_S0 q_S0 S0) ++ (zTr cI h_S1 q_S1 S1) ++ (zTr cI h_S2 q_S2 S2) ++ (zTr cI h_S3 q_S3 S3)) hx hb hK hP hD hS 1 2 rfl rfl rfl (by decide) (by decide) (zR4_up1 _ _ _ _ _) dX1_dropOldest_40 rfl (fun H locs hP hD hS => ?_)
  refine lv_iinc (v := Int32.ofInt 2) (lv' := [(1, vI 2), (2, .ref h_S0), (0, .ref h_H)]) hx hb dX1_dropOldest_41 hl (k := 1) rfl (by decide +kernel) (by decide) rfl (fun ls hl => ?_)
  refine lv_goto (tgt := 2) hx hb dX1_dropOldest_44 (by decide) ?_
  refine lv_iload_n hx hb dX1_dropOldest_2 rfl (lv_at hl 0 rfl) ?_
  refine lv_aload_n hx hb dX1_dropOldest_3 rfl (lv_at hl 2 rfl) ?_
  refine va_get (D := D) (ci := 1) (v := .ref q_H) (C := RX1) (T := TX1) (N := 2) hx hb hts zin1 hown hK hP 0 rfl rfl 0 (by decide) (hts _ wm210) (fun _ h9 => h9) rfl dX1_dropOldest_4 ?_
  refine va_alen (v := Int32.ofInt 4) hx hb hK hP 1 2 rfl rfl rfl dX1_dropOldest_7 ?_
  refine z_icmp_ge (tgt := 47) hx hb (by decide) (by decide) dX1_dropOldest_8 (by decide) (fun b_2 => ?_) (fun b_2 => ?_)
  · exact absurd b_2 (by decide)
  refine lv_aload_n hx hb dX1_dropOldest_11 rfl (lv_at hl 2 rfl) ?_
  refine va_get (D := D) (ci := 1) (v := .ref q_H) (C := RX1) (T := TX1) (N := 2) hx hb hts zin1 hown hK hP 0 rfl rfl 0 (by decide) (hts _ wm210) (fun _ h9 => h9) rfl dX1_dropOldest_12 ?_
  refine lv_iload_n hx hb dX1_dropOldest_15 rfl (lv_at hl 0 rfl) ?_
  refine lv_iconst (v := Int32.ofInt 1) hx hb dX1_dropOldest_16 rfl ?_
  refine z_isub hx hb dX1_dropOldest_17 ?_
  refine z_top (x' := 1) (by decide) ?_
  refine z_aald (j := 1) (y := h_S0) hx hb hK hP 1 rfl rfl (by decide) (by decide) rfl dX1_dropOldest_18 ?_
  refine lv_astore_n (lv' := [(2, .ref h_S0), (1, vI 2), (0, .ref h_H)]) hx hb dX1_dropOldest_19 rfl hl (by decide) rfl (fun ls hl => ?_)
  refine lv_aload_n hx hb dX1_dropOldest_20 rfl (lv_at hl 2 rfl) ?_
  refine va_get (D := D) (ci := 1) (v := .ref q_H) (C := RX1) (T := TX1) (N := 2) hx hb hts zin1 hown hK hP 0 rfl rfl 0 (by decide) (hts _ wm210) (fun _ h9 => h9) rfl dX1_dropOldest_21 ?_
  refine lv_iload_n hx hb dX1_dropOldest_24 rfl (lv_at hl 1 rfl) ?_
  refine lv_iconst (v := Int32.ofInt 1) hx hb dX1_dropOldest_25 rfl ?_
  refine z_isub hx hb dX1_dropOldest_26 ?_
  refine z_top (x' := 1) (by decide) ?_
  refine lv_aload_n hx hb dX1_dropOldest_27 rfl (lv_at hl 2 rfl) ?_
  refine va_get (D := D) (ci := 1) (v := .ref q_H) (C := RX1) (T := TX1) (N := 2) hx hb hts zin1 hown hK hP 0 rfl rfl 0 (by decide) (hts _ wm210) (fun _ h9 => h9) rfl dX1_dropOldest_28 ?_
  refine lv_iload_n hx hb dX1_dropOldest_31 rfl (lv_at hl 1 rfl) ?_
  refine z_aald (j := 2) (y := h_S2) hx hb hK hP 1 rfl rfl (by decide) (by decide) rfl dX1_dropOldest_32 ?_
  refine z_aast (j := 1) (v := h_S2) (f := (zR4 h_S1 h_S0 h_S2 h_S3)) (ws' := (zHs cT h_H q_H h_S1 h_S2 h_S2 h_S3 c_count) ++ (zTr cI h_S0 q_S0 S0) ++ (zTr cI h_S1 q_S1 S1) ++ (zTr cI h_S2 q_S2 S2) ++ (zTr cI h_S3 q_S3 S3)) hx hb hK hP hD hS 1 14 rfl rfl rfl (by decide) (by decide) (zR4_up1 _ _ _ _ _) dX1_dropOldest_33 rfl (fun H locs hP hD hS => ?_)
  refine lv_aload_n hx hb dX1_dropOldest_34 rfl (lv_at hl 2 rfl) ?_
  refine va_get (D := D) (ci := 1) (v := .ref q_H) (C := RX1) (T := TX1) (N := 2) hx hb hts zin1 hown hK hP 0 rfl rfl 0 (by decide) (hts _ wm210) (fun _ h9 => h9) rfl dX1_dropOldest_35 ?_
  refine lv_iload_n hx hb dX1_dropOldest_38 rfl (lv_at hl 1 rfl) ?_
  refine lv_aload_n hx hb dX1_dropOldest_39 rfl (lv_at hl 0 rfl) ?_
  refine z_aast (j := 2) (v := h_S0) (f := (zR4 h_S1 h_S2 h_S2 h_S3)) (ws' := (zHs cT h_H q_H h_S1 h_S2 h_S0 h_S3 c_count) ++ (zTr cI h_S0 q_S0 S0) ++ (zTr cI h_S1 q_S1 S1) ++ (zTr cI h_S2 q_S2 S2) ++ (zTr cI h_S3 q_S3 S3)) hx hb hK hP hD hS 1 2 rfl rfl rfl (by decide) (by decide) (zR4_up2 _ _ _ _ _) dX1_dropOldest_40 rfl (fun H locs hP hD hS => ?_)
  refine lv_iinc (v := Int32.ofInt 3) (lv' := [(1, vI 3), (2, .ref h_S0), (0, .ref h_H)]) hx hb dX1_dropOldest_41 hl (k := 1) rfl (by decide +kernel) (by decide) rfl (fun ls hl => ?_)
  refine lv_goto (tgt := 2) hx hb dX1_dropOldest_44 (by decide) ?_
  refine lv_iload_n hx hb dX1_dropOldest_2 rfl (lv_at hl 0 rfl) ?_
  refine lv_aload_n hx hb dX1_dropOldest_3 rfl (lv_at hl 2 rfl) ?_
  refine va_get (D := D) (ci := 1) (v := .ref q_H) (C := RX1) (T := TX1) (N := 2) hx hb hts zin1 hown hK hP 0 rfl rfl 0 (by decide) (hts _ wm210) (fun _ h9 => h9) rfl dX1_dropOldest_4 ?_
  refine va_alen (v := Int32.ofInt 4) hx hb hK hP 1 2 rfl rfl rfl dX1_dropOldest_7 ?_
  refine z_icmp_ge (tgt := 47) hx hb (by decide) (by decide) dX1_dropOldest_8 (by decide) (fun b_3 => ?_) (fun b_3 => ?_)
  · exact absurd b_3 (by decide)
  refine lv_aload_n hx hb dX1_dropOldest_11 rfl (lv_at hl 2 rfl) ?_
  refine va_get (D := D) (ci := 1) (v := .ref q_H) (C := RX1) (T := TX1) (N := 2) hx hb hts zin1 hown hK hP 0 rfl rfl 0 (by decide) (hts _ wm210) (fun _ h9 => h9) rfl dX1_dropOldest_12 ?_
  refine lv_iload_n hx hb dX1_dropOldest_15 rfl (lv_at hl 0 rfl) ?_
  refine lv_iconst (v := Int32.ofInt 1) hx hb dX1_dropOldest_16 rfl ?_
  refine z_isub hx hb dX1_dropOldest_17 ?_
  refine z_top (x' := 2) (by decide) ?_
  refine z_aald (j := 2) (y := h_S0) hx hb hK hP 1 rfl rfl (by decide) (by decide) rfl dX1_dropOldest_18 ?_
  refine lv_astore_n (lv' := [(2, .ref h_S0), (1, vI 3), (0, .ref h_H)]) hx hb dX1_dropOldest_19 rfl hl (by decide) rfl (fun ls hl => ?_)
  refine lv_aload_n hx hb dX1_dropOldest_20 rfl (lv_at hl 2 rfl) ?_
  refine va_get (D := D) (ci := 1) (v := .ref q_H) (C := RX1) (T := TX1) (N := 2) hx hb hts zin1 hown hK hP 0 rfl rfl 0 (by decide) (hts _ wm210) (fun _ h9 => h9) rfl dX1_dropOldest_21 ?_
  refine lv_iload_n hx hb dX1_dropOldest_24 rfl (lv_at hl 1 rfl) ?_
  refine lv_iconst (v := Int32.ofInt 1) hx hb dX1_dropOldest_25 rfl ?_
  refine z_isub hx hb dX1_dropOldest_26 ?_
  refine z_top (x' := 2) (by decide) ?_
  refine lv_aload_n hx hb dX1_dropOldest_27 rfl (lv_at hl 2 rfl) ?_
  refine va_get (D := D) (ci := 1) (v := .ref q_H) (C := RX1) (T := TX1) (N := 2) hx hb hts zin1 hown hK hP 0 rfl rfl 0 (by decide) (hts _ wm210) (fun _ h9 => h9) rfl dX1_dropOldest_28 ?_
  refine lv_iload_n hx hb dX1_dropOldest_31 rfl (lv_at hl 1 rfl) ?_
  refine z_aald (j := 3) (y := h_S3) hx hb hK hP 1 rfl rfl (by decide) (by decide) rfl dX1_dropOldest_32 ?_
  refine z_aast (j := 2) (v := h_S3) (f := (zR4 h_S1 h_S2 h_S0 h_S3)) (ws' := (zHs cT h_H q_H h_S1 h_S2 h_S3 h_S3 c_count) ++ (zTr cI h_S0 q_S0 S0) ++ (zTr cI h_S1 q_S1 S1) ++ (zTr cI h_S2 q_S2 S2) ++ (zTr cI h_S3 q_S3 S3)) hx hb hK hP hD hS 1 20 rfl rfl rfl (by decide) (by decide) (zR4_up2 _ _ _ _ _) dX1_dropOldest_33 rfl (fun H locs hP hD hS => ?_)
  refine lv_aload_n hx hb dX1_dropOldest_34 rfl (lv_at hl 2 rfl) ?_
  refine va_get (D := D) (ci := 1) (v := .ref q_H) (C := RX1) (T := TX1) (N := 2) hx hb hts zin1 hown hK hP 0 rfl rfl 0 (by decide) (hts _ wm210) (fun _ h9 => h9) rfl dX1_dropOldest_35 ?_
  refine lv_iload_n hx hb dX1_dropOldest_38 rfl (lv_at hl 1 rfl) ?_
  refine lv_aload_n hx hb dX1_dropOldest_39 rfl (lv_at hl 0 rfl) ?_
  refine z_aast (j := 3) (v := h_S0) (f := (zR4 h_S1 h_S2 h_S3 h_S3)) (ws' := (zHs cT h_H q_H h_S1 h_S2 h_S3 h_S0 c_count) ++ (zTr cI h_S0 q_S0 S0) ++ (zTr cI h_S1 q_S1 S1) ++ (zTr cI h_S2 q_S2 S2) ++ (zTr cI h_S3 q_S3 S3)) hx hb hK hP hD hS 1 2 rfl rfl rfl (by decide) (by decide) (zR4_up3 _ _ _ _ _) dX1_dropOldest_40 rfl (fun H locs hP hD hS => ?_)
  refine lv_iinc (v := Int32.ofInt 4) (lv' := [(1, vI 4), (2, .ref h_S0), (0, .ref h_H)]) hx hb dX1_dropOldest_41 hl (k := 1) rfl (by decide +kernel) (by decide) rfl (fun ls hl => ?_)
  refine lv_goto (tgt := 2) hx hb dX1_dropOldest_44 (by decide) ?_
  refine lv_iload_n hx hb dX1_dropOldest_2 rfl (lv_at hl 0 rfl) ?_
  refine lv_aload_n hx hb dX1_dropOldest_3 rfl (lv_at hl 2 rfl) ?_
  refine va_get (D := D) (ci := 1) (v := .ref q_H) (C := RX1) (T := TX1) (N := 2) hx hb hts zin1 hown hK hP 0 rfl rfl 0 (by decide) (hts _ wm210) (fun _ h9 => h9) rfl dX1_dropOldest_4 ?_
  refine va_alen (v := Int32.ofInt 4) hx hb hK hP 1 2 rfl rfl rfl dX1_dropOldest_7 ?_
  refine z_icmp_ge (tgt := 47) hx hb (by decide) (by decide) dX1_dropOldest_8 (by decide) (fun b_4 => ?_) (fun b_4 => ?_)
  rotate_left
  · exact absurd b_4 (by decide)
  refine lv_aload_n hx hb dX1_dropOldest_47 rfl (lv_at hl 2 rfl) ?_
  refine lv_iconst (v := Int32.ofInt 3) hx hb dX1_dropOldest_48 rfl ?_
  refine va_put (D := D) (ci := 1) (v := vI 3) (ty := .int) (C := RX1) (T := TX1) (N := 2) hx hb hts zin1 tyX1 tyX1_ok nmX1 hown hK hP hD hS 0 rfl rfl 1 (by decide) (hts _ wm211) (fun _ h9 => h9) rfl (by decide +kernel) rfl rfl (Nat.le_of_ble_eq_true rfl) dX1_dropOldest_49 (fun H locs hP hD hS => ?_)
  replace hP : va_P D vwCl ((zHs cT h_H q_H h_S1 h_S2 h_S3 h_S0 3) ++ (zTr cI h_S0 q_S0 S0) ++ (zTr cI h_S1 q_S1 S1) ++ (zTr cI h_S2 q_S2 S2) ++ (zTr cI h_S3 q_S3 S3)) H := hP
  replace hD : va_D A ((zHs cT h_H q_H h_S1 h_S2 h_S3 h_S0 3) ++ (zTr cI h_S0 q_S0 S0) ++ (zTr cI h_S1 q_S1 S1) ++ (zTr cI h_S2 q_S2 S2) ++ (zTr cI h_S3 q_S3 S3)) := hD
  replace hP : va_P D vwCl ((zHs cT h_H q_H h_S1 h_S2 h_S3 h_S0 3) ++ (zTr cI h_S1 q_S1 S1) ++ (zTr cI h_S2 q_S2 S2) ++ (zTr cI h_S3 q_S3 S3) ++ (zTr cI h_S0 q_S0 S0)) H := z_subP hP [0, 1, 8, 9, 10, 11, 12, 13, 14, 15, 16, 17, 18, 19, 20, 21, 22, 23, 24, 25, 2, 3, 4, 5, 6, 7] rfl
  replace hD : va_D A ((zHs cT h_H q_H h_S1 h_S2 h_S3 h_S0 3) ++ (zTr cI h_S1 q_S1 S1) ++ (zTr cI h_S2 q_S2 S2) ++ (zTr cI h_S3 q_S3 S3) ++ (zTr cI h_S0 q_S0 S0)) := hD.sub [0, 1, 8, 9, 10, 11, 12, 13, 14, 15, 16, 17, 18, 19, 20, 21, 22, 23, 24, 25, 2, 3, 4, 5, 6, 7] (by decide) rfl
  obtain rfl := Option.some.inj h
  exact z_vret hx hb hr hlk (fun i k => if i = 1 then (if k = 9 then h_S1 else q_S1 k) else if i = 2 then (if k = 9 then h_S2 else q_S2 k) else if i = 3 then (if k = 9 then h_S3 else q_S3 k) else if i = 4 then (if k = 9 then h_S0 else q_S0 k) else 0) hP hD hS dX1_dropOldest_52
def f_Hi_record (c_count : Int) (S0 : TV) (S1 : TV) (S2 : TV) (S3 : TV) (T : TV) : Option (Int × TV × TV × TV × TV) :=
  gd (ck c_count) <| if c_count < 4 then (if c_count < 0 then (none) else (if c_count < 4 then (if c_count = 0 then (bd1 (f_Tr_copyFrom S0 T) <| fun S0_5 => some ((c_count + 1), S0_5, S1, S2, S3)) else (if c_count = 1 then (bd1 (f_Tr_copyFrom S1 T) <| fun S1_9 => some ((c_count + 1), S0, S1_9, S2, S3)) else (if c_count = 2 then (bd1 (f_Tr_copyFrom S2 T) <| fun S2_13 => some ((c_count + 1), S0, S1, S2_13, S3)) else (gd (c_count = 3) <| bd1 (f_Tr_copyFrom S3 T) <| fun S3_17 => some ((c_count + 1), S0, S1, S2, S3_17))))) else (none))) else (bd5 (f_Hi_dropOldest S0 S1 S2 S3) <| fun c_count_22 S0_23 S1_24 S2_25 S3_26 => gd (ck c_count_22) <| if c_count_22 < 0 then (none) else (if c_count_22 < 4 then (if c_count_22 = 0 then (bd1 (f_Tr_copyFrom S0_23 T) <| fun S0_33 => some ((c_count_22 + 1), S0_33, S1_24, S2_25, S3_26)) else (if c_count_22 = 1 then (bd1 (f_Tr_copyFrom S1_24 T) <| fun S1_37 => some ((c_count_22 + 1), S0_23, S1_37, S2_25, S3_26)) else (if c_count_22 = 2 then (bd1 (f_Tr_copyFrom S2_25 T) <| fun S2_41 => some ((c_count_22 + 1), S0_23, S1_24, S2_41, S3_26)) else (gd (c_count_22 = 3) <| bd1 (f_Tr_copyFrom S3_26 T) <| fun S3_45 => some ((c_count_22 + 1), S0_23, S1_24, S2_25, S3_45))))) else (none)))
abbrev rm_Hi_record : Room := ({ frames := 3, cells := 0, slots := 0, locals := 68 } : Room)
theorem mo_Hi_record (c_count : Int) (S0 : TV) (S1 : TV) (S2 : TV) (S3 : TV) (T : TV) (res : Int × TV × TV × TV × TV) (h : f_Hi_record c_count S0 S1 S2 S3 T = some res) : ((tR S0) + (tR S1) + (tR S2) + (tR S3)) ≤ ((tR (res.2.1)) + (tR (res.2.2.1)) + (tR (res.2.2.2.1)) + (tR (res.2.2.2.2))) := by
  unfold f_Hi_record at h
  obtain ⟨g_1, h⟩ := gd_e h
  rcases it_e h with ⟨_, h⟩ | ⟨_, h⟩
  · rcases it_e h with ⟨_, h⟩ | ⟨_, h⟩
    · cases h
    · rcases it_e h with ⟨_, h⟩ | ⟨_, h⟩
      · rcases it_e h with ⟨_, h⟩ | ⟨_, h⟩
        · obtain ⟨S0_5, e_6, h⟩ := bd1_e h
          have mo_8 : (tR S0) ≤ (tR S0_5) := mo_Tr_copyFrom S0 T (S0_5) e_6
          obtain rfl := Option.some.inj h
          exact (show ((tR S0) + (tR S1) + (tR S2) + (tR S3)) ≤ ((tR S0_5) + (tR S1) + (tR S2) + (tR S3)) from by omega)
        rcases it_e h with ⟨_, h⟩ | ⟨_, h⟩
        · obtain ⟨S1_9, e_10, h⟩ := bd1_e h
          have mo_12 : (tR S1) ≤ (tR S1_9) := mo_Tr_copyFrom S1 T (S1_9) e_10
          obtain rfl := Option.some.inj h
          exact (show ((tR S0) + (tR S1) + (tR S2) + (tR S3)) ≤ ((tR S0) + (tR S1_9) + (tR S2) + (tR S3)) from by omega)
        rcases it_e h with ⟨_, h⟩ | ⟨_, h⟩
        · obtain ⟨S2_13, e_14, h⟩ := bd1_e h
          have mo_16 : (tR S2) ≤ (tR S2_13) := mo_Tr_copyFrom S2 T (S2_13) e_14
          obtain rfl := Option.some.inj h
          exact (show ((tR S0) + (tR S1) + (tR S2) + (tR S3)) ≤ ((tR S0) + (tR S1) + (tR S2_13) + (tR S3)) from by omega)
        obtain ⟨_, h⟩ := gd_e h
        obtain ⟨S3_17, e_18, h⟩ := bd1_e h
        have mo_20 : (tR S3) ≤ (tR S3_17) := mo_Tr_copyFrom S3 T (S3_17) e_18
        obtain rfl := Option.some.inj h
        exact (show ((tR S0) + (tR S1) + (tR S2) + (tR S3)) ≤ ((tR S0) + (tR S1) + (tR S2) + (tR S3_17)) from by omega)
      · cases h
  · obtain ⟨c_count_22, S0_23, S1_24, S2_25, S3_26, e_27, h⟩ := bd5_e h
    have mo_29 : ((tR S0) + (tR S1) + (tR S2) + (tR S3)) ≤ ((tR S0_23) + (tR S1_24) + (tR S2_25) + (tR S3_26)) := mo_Hi_dropOldest S0 S1 S2 S3 (c_count_22, S0_23, S1_24, S2_25, S3_26) e_27
    obtain ⟨g_30, h⟩ := gd_e h
    rcases it_e h with ⟨_, h⟩ | ⟨_, h⟩
    · cases h
    · rcases it_e h with ⟨_, h⟩ | ⟨_, h⟩
      · rcases it_e h with ⟨_, h⟩ | ⟨_, h⟩
        · obtain ⟨S0_33, e_34, h⟩ := bd1_e h
          have mo_36 : (tR S0_23) ≤ (tR S0_33) := mo_Tr_copyFrom S0_23 T (S0_33) e_34
          obtain rfl := Option.some.inj h
          exact (show ((tR S0) + (tR S1) + (tR S2) + (tR S3)) ≤ ((tR S0_33) + (tR S1_24) + (tR S2_25) + (tR S3_26)) from by omega)
        rcases it_e h with ⟨_, h⟩ | ⟨_, h⟩
        · obtain ⟨S1_37, e_38, h⟩ := bd1_e h
          have mo_40 : (tR S1_24) ≤ (tR S1_37) := mo_Tr_copyFrom S1_24 T (S1_37) e_38
          obtain rfl := Option.some.inj h
          exact (show ((tR S0) + (tR S1) + (tR S2) + (tR S3)) ≤ ((tR S0_23) + (tR S1_37) + (tR S2_25) + (tR S3_26)) from by omega)
        rcases it_e h with ⟨_, h⟩ | ⟨_, h⟩
        · obtain ⟨S2_41, e_42, h⟩ := bd1_e h
          have mo_44 : (tR S2_25) ≤ (tR S2_41) := mo_Tr_copyFrom S2_25 T (S2_41) e_42
          obtain rfl := Option.some.inj h
          exact (show ((tR S0) + (tR S1) + (tR S2) + (tR S3)) ≤ ((tR S0_23) + (tR S1_24) + (tR S2_41) + (tR S3_26)) from by omega)
        obtain ⟨_, h⟩ := gd_e h
        obtain ⟨S3_45, e_46, h⟩ := bd1_e h
        have mo_48 : (tR S3_26) ≤ (tR S3_45) := mo_Tr_copyFrom S3_26 T (S3_45) e_46
        obtain rfl := Option.some.inj h
        exact (show ((tR S0) + (tR S1) + (tR S2) + (tR S3)) ≤ ((tR S0_23) + (tR S1_24) + (tR S2_25) + (tR S3_45)) from by omega)
      · cases h
set_option maxHeartbeats 4000000 in
set_option maxRecDepth 100000 in
theorem c_Hi_record (l : Launch) (D : va_G) (cI cZ cT : ClassId) (h_H : Nat) (q_H : Nat) (h_S0 : Nat) (h_S1 : Nat) (h_S2 : Nat) (h_S3 : Nat) (q_S0 : Nat → Nat) (q_S1 : Nat → Nat) (q_S2 : Nat → Nat) (q_S3 : Nat → Nat) (h_T : Nat) (q_T : Nat → Nat) (c_count : Int) (S0 : TV) (S1 : TV) (S2 : TV) (S3 : TV) (T : TV) (sz : Nat) (res : Int × TV × TV × TV × TV) (h : f_Hi_record c_count S0 S1 S2 S3 T = some res) : zMv l yX1_record cX1_record 3 rm_Hi_record D (zt cI cZ cT) [.ref h_H, .ref h_T] ((zHs cT h_H q_H h_S0 h_S1 h_S2 h_S3 c_count) ++ (zTr cI h_S0 q_S0 S0) ++ (zTr cI h_S1 q_S1 S1) ++ (zTr cI h_S2 q_S2 S2) ++ (zTr cI h_S3 q_S3 S3) ++ (zTr cI h_T q_T T)) sz (fun u => (zHs cT h_H q_H (u 1 9) (u 2 9) (u 3 9) (u 4 9) (res.1)) ++ (zTr cI (u 1 9) (u 1) (res.2.1)) ++ (zTr cI (u 2 9) (u 2) (res.2.2.1)) ++ (zTr cI (u 3 9) (u 3) (res.2.2.2.1)) ++ (zTr cI (u 4 9) (u 4) (res.2.2.2.2)) ++ (zTr cI h_T q_T T)) 0 0 := by
  refine z_enth (Qc := zQv D (fun u => (zHs cT h_H q_H (u 1 9) (u 2 9) (u 3 9) (u 4 9) (res.1)) ++ (zTr cI (u 1 9) (u 1) (res.2.1)) ++ (zTr cI (u 2 9) (u 2) (res.2.2.1)) ++ (zTr cI (u 3 9) (u 3) (res.2.2.2.1)) ++ (zTr cI (u 4 9) (u 4) (res.2.2.2.2)) ++ (zTr cI h_T q_T T))) (by decide) (Nat.le_of_ble_eq_true rfl) (fun p e s m args below meth c A ls H locs hF hP hD hS hl => ?_)
  have hx := hF.1.1
  have hb := hF.1.2.1
  have hml := hF.1.2.2.1
  have hown : s.vm.findClass "RectangleTree$History" = some m.cls := hF.1.2.2.2.1
  have hts := hF.1.2.2.2.2
  have hr := hF.2.1
  have hlk := hF.2.2.1
  have hK := hF.2.2.2.2.1
  have hN := hF.2.2.2.2.2.1
  have hA := hF.2.2.2.2.2.2
  unfold f_Hi_record at h
  refine lv_aload_n hx hb dX1_record_0 rfl (lv_at hl 0 rfl) ?_
  refine va_get (D := D) (ci := 1) (v := vI c_count) (C := RX1) (T := TX1) (N := 2) hx hb hts zin1 hown hK hP 0 rfl rfl 1 (by decide) (hts _ wm211) (fun _ h9 => h9) rfl dX1_record_1 ?_
  refine lv_iconst (v := Int32.ofInt 4) hx hb dX1_record_4 rfl ?_
  obtain ⟨g_1, h⟩ := gd_e h
  refine z_icmp_lt (tgt := 12) hx hb g_1 (by decide) dX1_record_5 (by decide) (fun b_2 => ?_) (fun b_2 => ?_)
  · have h := it_p b_2 h
    refine lv_aload_n hx hb dX1_record_12 rfl (lv_at hl 0 rfl) ?_
    refine va_get (D := D) (ci := 1) (v := vI c_count) (C := RX1) (T := TX1) (N := 2) hx hb hts zin1 hown hK hP 0 rfl rfl 1 (by decide) (hts _ wm211) (fun _ h9 => h9) rfl dX1_record_13 ?_
    refine z_if_lt (tgt := 43) hx hb g_1 dX1_record_16 (by decide) (fun b_3 => ?_) (fun b_3 => ?_)
    · have h := it_p b_3 h
      cases h
    · have h := it_n b_3 h
      refine lv_aload_n hx hb dX1_record_19 rfl (lv_at hl 0 rfl) ?_
      refine va_get (D := D) (ci := 1) (v := vI c_count) (C := RX1) (T := TX1) (N := 2) hx hb hts zin1 hown hK hP 0 rfl rfl 1 (by decide) (hts _ wm211) (fun _ h9 => h9) rfl dX1_record_20 ?_
      refine lv_aload_n hx hb dX1_record_23 rfl (lv_at hl 0 rfl) ?_
      refine va_get (D := D) (ci := 1) (v := .ref q_H) (C := RX1) (T := TX1) (N := 2) hx hb hts zin1 hown hK hP 0 rfl rfl 0 (by decide) (hts _ wm210) (fun _ h9 => h9) rfl dX1_record_24 ?_
      refine va_alen (v := Int32.ofInt 4) hx hb hK hP 1 2 rfl rfl rfl dX1_record_27 ?_
      refine z_icmp_ge (tgt := 43) hx hb g_1 (by decide) dX1_record_28 (by decide) (fun b_4 => ?_) (fun b_4 => ?_)
      · have h := it_n b_4 h
        cases h
      · have h := it_p b_4 h
        refine lv_aload_n hx hb dX1_record_31 rfl (lv_at hl 0 rfl) ?_
        refine va_get (D := D) (ci := 1) (v := .ref q_H) (C := RX1) (T := TX1) (N := 2) hx hb hts zin1 hown hK hP 0 rfl rfl 0 (by decide) (hts _ wm210) (fun _ h9 => h9) rfl dX1_record_32 ?_
        refine lv_aload_n hx hb dX1_record_35 rfl (lv_at hl 0 rfl) ?_
        refine va_get (D := D) (ci := 1) (v := vI c_count) (C := RX1) (T := TX1) (N := 2) hx hb hts zin1 hown hK hP 0 rfl rfl 1 (by decide) (hts _ wm211) (fun _ h9 => h9) rfl dX1_record_36 ?_
        rcases it_e h with ⟨ix_21, h⟩ | ⟨_, h⟩
        · refine z_top (x' := 0) ix_21 ?_
          refine z_aald (j := 0) (y := h_S0) hx hb hK hP 1 rfl rfl (by decide) (by decide) rfl dX1_record_39 ?_
          refine lv_goto (tgt := 44) hx hb dX1_record_40 (by decide) ?_
          refine lv_astore_n (lv' := [(2, .ref h_S0), (0, .ref h_H), (1, .ref h_T)]) hx hb dX1_record_44 rfl hl (by decide) rfl (fun ls hl => ?_)
          refine lv_aload_n hx hb dX1_record_45 rfl (lv_at hl 0 rfl) ?_
          refine lv_ifnull hx hb dX1_record_46 ?_
          refine lv_aload_n hx hb dX1_record_49 rfl (lv_at hl 0 rfl) ?_
          refine lv_aload_n hx hb dX1_record_50 rfl (lv_at hl 2 rfl) ?_
          obtain ⟨S0_5, e_6, h⟩ := bd1_e h
          have mo_8 : (tR S0) ≤ (tR S0_5) := mo_Tr_copyFrom S0 T (S0_5) e_6
          refine z_gov (wc := (zTr cI (h_S0) (q_S0) (S0)) ++ (zTr cI (h_T) (q_T) (T))) (wn := fun u_7 => (zHs cT h_H q_H h_S0 h_S1 h_S2 h_S3 c_count) ++ (zTr cI h_S0 q_S0 S0_5) ++ (zTr cI h_S1 q_S1 S1) ++ (zTr cI h_S2 q_S2 S2) ++ (zTr cI h_S3 q_S3 S3) ++ (zTr cI h_T q_T T)) (wr := ([0, 1, 8, 9, 10, 11, 12, 13, 14, 15, 16, 17, 18, 19, 20, 21, 22, 23, 24, 25].filterMap (fun i => ((zHs cT h_H q_H h_S0 h_S1 h_S2 h_S3 c_count) ++ (zTr cI h_S0 q_S0 S0) ++ (zTr cI h_S1 q_S1 S1) ++ (zTr cI h_S2 q_S2 S2) ++ (zTr cI h_S3 q_S3 S3) ++ (zTr cI h_T q_T T))[i]?))) (va_runV (As := [.ref h_T]) (rest := []) hF.1 (c_Tr_copyFrom l D cI cZ cT h_S0 q_S0 h_T q_T S0 T H.size (S0_5) e_6) (cwV 1 hts (zgV wm470 wm471 wm472 wm33 wm473) rfl rfl rfl (by decide +kernel) ⟨Nat.le_of_ble_eq_true rfl, Nat.le_of_ble_eq_true rfl⟩) ⟨zP.blind, va_recv hK (z_subP (ws' := (zTr cI (h_S0) (q_S0) (S0)) ++ (zTr cI (h_T) (q_T) (T))) hP [2, 3, 4, 5, 6, 7, 26, 27, 28, 29, 30, 31] rfl) (ci := 4) (q0 := 0) rfl rfl, zP.enter (z_subP (ws' := (zTr cI (h_S0) (q_S0) (S0)) ++ (zTr cI (h_T) (q_T) (T))) hP [2, 3, 4, 5, 6, 7, 26, 27, 28, 29, 30, 31] rfl) hK (hD.sub [2, 3, 4, 5, 6, 7, 26, 27, 28, 29, 30, 31] (by decide) rfl) hN⟩ rfl rfl hl.1 rfl (lv_room (Nat.le_of_ble_eq_true rfl)) dX1_record_51 ⟨Nat.le_refl _, Nat.le_refl _⟩) hP hD hS hA [2, 3, 4, 5, 6, 7, 26, 27, 28, 29, 30, 31] [0, 1, 8, 9, 10, 11, 12, 13, 14, 15, 16, 17, 18, 19, 20, 21, 22, 23, 24, 25] [0, 1, 20, 21, 22, 23, 24, 25, 2, 3, 4, 5, 6, 7, 8, 9, 10, 11, 12, 13, 14, 15, 16, 17, 18, 19, 26, 27, 28, 29, 30, 31] rfl rfl (by decide) (fun _ => rfl) (fun u_7 H locs hP hD hS hz => ?_)
          refine lv_aload_n hx hb dX1_record_54 rfl (lv_at hl 1 rfl) ?_
          refine lv_dup hx hb dX1_record_55 rfl ?_
          refine va_get (D := D) (ci := 1) (v := vI c_count) (C := RX1) (T := TX1) (N := 2) hx hb hts zin1 hown hK hP 0 rfl rfl 1 (by decide) (hts _ wm211) (fun _ h9 => h9) rfl dX1_record_56 ?_
          refine lv_iconst (v := Int32.ofInt 1) hx hb dX1_record_59 rfl ?_
          refine z_iadd hx hb dX1_record_60 ?_
          refine va_put (D := D) (ci := 1) (v := vI (c_count + 1)) (ty := .int) (C := RX1) (T := TX1) (N := 2) hx hb hts zin1 tyX1 tyX1_ok nmX1 hown hK hP hD hS 0 rfl rfl 1 (by decide) (hts _ wm211) (fun _ h9 => h9) rfl (by decide +kernel) rfl rfl (Nat.le_of_ble_eq_true rfl) dX1_record_61 (fun H locs hP hD hS => ?_)
          replace hP : va_P D vwCl ((zHs cT h_H q_H h_S0 h_S1 h_S2 h_S3 (c_count + 1)) ++ (zTr cI h_S0 q_S0 S0_5) ++ (zTr cI h_S1 q_S1 S1) ++ (zTr cI h_S2 q_S2 S2) ++ (zTr cI h_S3 q_S3 S3) ++ (zTr cI h_T q_T T)) H := hP
          replace hD : va_D A ((zHs cT h_H q_H h_S0 h_S1 h_S2 h_S3 (c_count + 1)) ++ (zTr cI h_S0 q_S0 S0_5) ++ (zTr cI h_S1 q_S1 S1) ++ (zTr cI h_S2 q_S2 S2) ++ (zTr cI h_S3 q_S3 S3) ++ (zTr cI h_T q_T T)) := hD
          obtain rfl := Option.some.inj h
          exact z_vret hx hb hr hlk (fun i k => if i = 1 then (if k = 9 then h_S0 else q_S0 k) else if i = 2 then (if k = 9 then h_S1 else q_S1 k) else if i = 3 then (if k = 9 then h_S2 else q_S2 k) else if i = 4 then (if k = 9 then h_S3 else q_S3 k) else 0) hP hD hS dX1_record_64
        rcases it_e h with ⟨ix_21, h⟩ | ⟨_, h⟩
        · refine z_top (x' := 1) ix_21 ?_
          refine z_aald (j := 1) (y := h_S1) hx hb hK hP 1 rfl rfl (by decide) (by decide) rfl dX1_record_39 ?_
          refine lv_goto (tgt := 44) hx hb dX1_record_40 (by decide) ?_
          refine lv_astore_n (lv' := [(2, .ref h_S1), (0, .ref h_H), (1, .ref h_T)]) hx hb dX1_record_44 rfl hl (by decide) rfl (fun ls hl => ?_)
          refine lv_aload_n hx hb dX1_record_45 rfl (lv_at hl 0 rfl) ?_
          refine lv_ifnull hx hb dX1_record_46 ?_
          refine lv_aload_n hx hb dX1_record_49 rfl (lv_at hl 0 rfl) ?_
          refine lv_aload_n hx hb dX1_record_50 rfl (lv_at hl 2 rfl) ?_
          obtain ⟨S1_9, e_10, h⟩ := bd1_e h
          have mo_12 : (tR S1) ≤ (tR S1_9) := mo_Tr_copyFrom S1 T (S1_9) e_10
          refine z_gov (wc := (zTr cI (h_S1) (q_S1) (S1)) ++ (zTr cI (h_T) (q_T) (T))) (wn := fun u_11 => (zHs cT h_H q_H h_S0 h_S1 h_S2 h_S3 c_count) ++ (zTr cI h_S0 q_S0 S0) ++ (zTr cI h_S1 q_S1 S1_9) ++ (zTr cI h_S2 q_S2 S2) ++ (zTr cI h_S3 q_S3 S3) ++ (zTr cI h_T q_T T)) (wr := ([0, 1, 2, 3, 4, 5, 6, 7, 14, 15, 16, 17, 18, 19, 20, 21, 22, 23, 24, 25].filterMap (fun i => ((zHs cT h_H q_H h_S0 h_S1 h_S2 h_S3 c_count) ++ (zTr cI h_S0 q_S0 S0) ++ (zTr cI h_S1 q_S1 S1) ++ (zTr cI h_S2 q_S2 S2) ++ (zTr cI h_S3 q_S3 S3) ++ (zTr cI h_T q_T T))[i]?))) (va_runV (As := [.ref h_T]) (rest := []) hF.1 (c_Tr_copyFrom l D cI cZ cT h_S1 q_S1 h_T q_T S1 T H.size (S1_9) e_10) (cwV 1 hts (zgV wm470 wm471 wm472 wm33 wm473) rfl rfl rfl (by decide +kernel) ⟨Nat.le_of_ble_eq_true rfl, Nat.le_of_ble_eq_true rfl⟩) ⟨zP.blind, va_recv hK (z_subP (ws' := (zTr cI (h_S1) (q_S1) (S1)) ++ (zTr cI (h_T) (q_T) (T))) hP [8, 9, 10, 11, 12, 13, 26, 27, 28, 29, 30, 31] rfl) (ci := 4) (q0 := 0) rfl rfl, zP.enter (z_subP (ws' := (zTr cI (h_S1) (q_S1) (S1)) ++ (zTr cI (h_T) (q_T) (T))) hP [8, 9, 10, 11, 12, 13, 26, 27, 28, 29, 30, 31] rfl) hK (hD.sub [8, 9, 10, 11, 12, 13, 26, 27, 28, 29, 30, 31] (by decide) rfl) hN⟩ rfl rfl hl.1 rfl (lv_room (Nat.le_of_ble_eq_true rfl)) dX1_record_51 ⟨Nat.le_refl _, Nat.le_refl _⟩) hP hD hS hA [8, 9, 10, 11, 12, 13, 26, 27, 28, 29, 30, 31] [0, 1, 2, 3, 4, 5, 6, 7, 14, 15, 16, 17, 18, 19, 20, 21, 22, 23, 24, 25] [0, 1, 2, 3, 4, 5, 6, 7, 20, 21, 22, 23, 24, 25, 8, 9, 10, 11, 12, 13, 14, 15, 16, 17, 18, 19, 26, 27, 28, 29, 30, 31] rfl rfl (by decide) (fun _ => rfl) (fun u_11 H locs hP hD hS hz => ?_)
          refine lv_aload_n hx hb dX1_record_54 rfl (lv_at hl 1 rfl) ?_
          refine lv_dup hx hb dX1_record_55 rfl ?_
          refine va_get (D := D) (ci := 1) (v := vI c_count) (C := RX1) (T := TX1) (N := 2) hx hb hts zin1 hown hK hP 0 rfl rfl 1 (by decide) (hts _ wm211) (fun _ h9 => h9) rfl dX1_record_56 ?_
          refine lv_iconst (v := Int32.ofInt 1) hx hb dX1_record_59 rfl ?_
          refine z_iadd hx hb dX1_record_60 ?_
          refine va_put (D := D) (ci := 1) (v := vI (c_count + 1)) (ty := .int) (C := RX1) (T := TX1) (N := 2) hx hb hts zin1 tyX1 tyX1_ok nmX1 hown hK hP hD hS 0 rfl rfl 1 (by decide) (hts _ wm211) (fun _ h9 => h9) rfl (by decide +kernel) rfl rfl (Nat.le_of_ble_eq_true rfl) dX1_record_61 (fun H locs hP hD hS => ?_)
          replace hP : va_P D vwCl ((zHs cT h_H q_H h_S0 h_S1 h_S2 h_S3 (c_count + 1)) ++ (zTr cI h_S0 q_S0 S0) ++ (zTr cI h_S1 q_S1 S1_9) ++ (zTr cI h_S2 q_S2 S2) ++ (zTr cI h_S3 q_S3 S3) ++ (zTr cI h_T q_T T)) H := hP
          replace hD : va_D A ((zHs cT h_H q_H h_S0 h_S1 h_S2 h_S3 (c_count + 1)) ++ (zTr cI h_S0 q_S0 S0) ++ (zTr cI h_S1 q_S1 S1_9) ++ (zTr cI h_S2 q_S2 S2) ++ (zTr cI h_S3 q_S3 S3) ++ (zTr cI h_T q_T T)) := hD
          obtain rfl := Option.some.inj h
          exact z_vret hx hb hr hlk (fun i k => if i = 1 then (if k = 9 then h_S0 else q_S0 k) else if i = 2 then (if k = 9 then h_S1 else q_S1 k) else if i = 3 then (if k = 9 then h_S2 else q_S2 k) else if i = 4 then (if k = 9 then h_S3 else q_S3 k) else 0) hP hD hS dX1_record_64
        rcases it_e h with ⟨ix_21, h⟩ | ⟨_, h⟩
        · refine z_top (x' := 2) ix_21 ?_
          refine z_aald (j := 2) (y := h_S2) hx hb hK hP 1 rfl rfl (by decide) (by decide) rfl dX1_record_39 ?_
          refine lv_goto (tgt := 44) hx hb dX1_record_40 (by decide) ?_
          refine lv_astore_n (lv' := [(2, .ref h_S2), (0, .ref h_H), (1, .ref h_T)]) hx hb dX1_record_44 rfl hl (by decide) rfl (fun ls hl => ?_)
          refine lv_aload_n hx hb dX1_record_45 rfl (lv_at hl 0 rfl) ?_
          refine lv_ifnull hx hb dX1_record_46 ?_
          refine lv_aload_n hx hb dX1_record_49 rfl (lv_at hl 0 rfl) ?_
          refine lv_aload_n hx hb dX1_record_50 rfl (lv_at hl 2 rfl) ?_
          obtain ⟨S2_13, e_14, h⟩ := bd1_e h
          have mo_16 : (tR S2) ≤ (tR S2_13) := mo_Tr_copyFrom S2 T (S2_13) e_14
          refine z_gov (wc := (zTr cI (h_S2) (q_S2) (S2)) ++ (zTr cI (h_T) (q_T) (T))) (wn := fun u_15 => (zHs cT h_H q_H h_S0 h_S1 h_S2 h_S3 c_count) ++ (zTr cI h_S0 q_S0 S0) ++ (zTr cI h_S1 q_S1 S1) ++ (zTr cI h_S2 q_S2 S2_13) ++ (zTr cI h_S3 q_S3 S3) ++ (zTr cI h_T q_T T)) (wr := ([0, 1, 2, 3, 4, 5, 6, 7, 8, 9, 10, 11, 12, 13, 20, 21, 22, 23, 24, 25].filterMap (fun i => ((zHs cT h_H q_H h_S0 h_S1 h_S2 h_S3 c_count) ++ (zTr cI h_S0 q_S0 S0) ++ (zTr cI h_S1 q_S1 S1) ++ (zTr cI h_S2 q_S2 S2) ++ (zTr cI h_S3 q_S3 S3) ++ (zTr cI h_T q_T T))[i]?))) (va_runV (As := [.ref h_T]) (rest := []) hF.1 (c_Tr_copyFrom l D cI cZ cT h_S2 q_S2 h_T q_T S2 T H.size (S2_13) e_14) (cwV 1 hts (zgV wm470 wm471 wm472 wm33 wm473) rfl rfl rfl (by decide +kernel) ⟨Nat.le_of_ble_eq_true rfl, Nat.le_of_ble_eq_true rfl⟩) ⟨zP.blind, va_recv hK (z_subP (ws' := (zTr cI (h_S2) (q_S2) (S2)) ++ (zTr cI (h_T) (q_T) (T))) hP [14, 15, 16, 17, 18, 19, 26, 27, 28, 29, 30, 31] rfl) (ci := 4) (q0 := 0) rfl rfl, zP.enter (z_subP (ws' := (zTr cI (h_S2) (q_S2) (S2)) ++ (zTr cI (h_T) (q_T) (T))) hP [14, 15, 16, 17, 18, 19, 26, 27, 28, 29, 30, 31] rfl) hK (hD.sub [14, 15, 16, 17, 18, 19, 26, 27, 28, 29, 30, 31] (by decide) rfl) hN⟩ rfl rfl hl.1 rfl (lv_room (Nat.le_of_ble_eq_true rfl)) dX1_record_51 ⟨Nat.le_refl _, Nat.le_refl _⟩) hP hD hS hA [14, 15, 16, 17, 18, 19, 26, 27, 28, 29, 30, 31] [0, 1, 2, 3, 4, 5, 6, 7, 8, 9, 10, 11, 12, 13, 20, 21, 22, 23, 24, 25] [0, 1, 2, 3, 4, 5, 6, 7, 8, 9, 10, 11, 12, 13, 20, 21, 22, 23, 24, 25, 14, 15, 16, 17, 18, 19, 26, 27, 28, 29, 30, 31] rfl rfl (by decide) (fun _ => rfl) (fun u_15 H locs hP hD hS hz => ?_)
          refine lv_aload_n hx hb dX1_record_54 rfl (lv_at hl 1 rfl) ?_
          refine lv_dup hx hb dX1_record_55 rfl ?_
          refine va_get (D := D) (ci := 1) (v := vI c_count) (C := RX1) (T := TX1) (N := 2) hx hb hts zin1 hown hK hP 0 rfl rfl 1 (by decide) (hts _ wm211) (fun _ h9 => h9) rfl dX1_record_56 ?_
          refine lv_iconst (v := Int32.ofInt 1) hx hb dX1_record_59 rfl ?_
          refine z_iadd hx hb dX1_record_60 ?_
          refine va_put (D := D) (ci := 1) (v := vI (c_count + 1)) (ty := .int) (C := RX1) (T := TX1) (N := 2) hx hb hts zin1 tyX1 tyX1_ok nmX1 hown hK hP hD hS 0 rfl rfl 1 (by decide) (hts _ wm211) (fun _ h9 => h9) rfl (by decide +kernel) rfl rfl (Nat.le_of_ble_eq_true rfl) dX1_record_61 (fun H locs hP hD hS => ?_)
          replace hP : va_P D vwCl ((zHs cT h_H q_H h_S0 h_S1 h_S2 h_S3 (c_count + 1)) ++ (zTr cI h_S0 q_S0 S0) ++ (zTr cI h_S1 q_S1 S1) ++ (zTr cI h_S2 q_S2 S2_13) ++ (zTr cI h_S3 q_S3 S3) ++ (zTr cI h_T q_T T)) H := hP
          replace hD : va_D A ((zHs cT h_H q_H h_S0 h_S1 h_S2 h_S3 (c_count + 1)) ++ (zTr cI h_S0 q_S0 S0) ++ (zTr cI h_S1 q_S1 S1) ++ (zTr cI h_S2 q_S2 S2_13) ++ (zTr cI h_S3 q_S3 S3) ++ (zTr cI h_T q_T T)) := hD
          obtain rfl := Option.some.inj h
          exact z_vret hx hb hr hlk (fun i k => if i = 1 then (if k = 9 then h_S0 else q_S0 k) else if i = 2 then (if k = 9 then h_S1 else q_S1 k) else if i = 3 then (if k = 9 then h_S2 else q_S2 k) else if i = 4 then (if k = 9 then h_S3 else q_S3 k) else 0) hP hD hS dX1_record_64
        obtain ⟨ix_21, h⟩ := gd_e h
        refine z_top (x' := 3) ix_21 ?_
        refine z_aald (j := 3) (y := h_S3) hx hb hK hP 1 rfl rfl (by decide) (by decide) rfl dX1_record_39 ?_
        refine lv_goto (tgt := 44) hx hb dX1_record_40 (by decide) ?_
        refine lv_astore_n (lv' := [(2, .ref h_S3), (0, .ref h_H), (1, .ref h_T)]) hx hb dX1_record_44 rfl hl (by decide) rfl (fun ls hl => ?_)
        refine lv_aload_n hx hb dX1_record_45 rfl (lv_at hl 0 rfl) ?_
        refine lv_ifnull hx hb dX1_record_46 ?_
        refine lv_aload_n hx hb dX1_record_49 rfl (lv_at hl 0 rfl) ?_
        refine lv_aload_n hx hb dX1_record_50 rfl (lv_at hl 2 rfl) ?_
        obtain ⟨S3_17, e_18, h⟩ := bd1_e h
        have mo_20 : (tR S3) ≤ (tR S3_17) := mo_Tr_copyFrom S3 T (S3_17) e_18
        refine z_gov (wc := (zTr cI (h_S3) (q_S3) (S3)) ++ (zTr cI (h_T) (q_T) (T))) (wn := fun u_19 => (zHs cT h_H q_H h_S0 h_S1 h_S2 h_S3 c_count) ++ (zTr cI h_S0 q_S0 S0) ++ (zTr cI h_S1 q_S1 S1) ++ (zTr cI h_S2 q_S2 S2) ++ (zTr cI h_S3 q_S3 S3_17) ++ (zTr cI h_T q_T T)) (wr := ([0, 1, 2, 3, 4, 5, 6, 7, 8, 9, 10, 11, 12, 13, 14, 15, 16, 17, 18, 19].filterMap (fun i => ((zHs cT h_H q_H h_S0 h_S1 h_S2 h_S3 c_count) ++ (zTr cI h_S0 q_S0 S0) ++ (zTr cI h_S1 q_S1 S1) ++ (zTr cI h_S2 q_S2 S2) ++ (zTr cI h_S3 q_S3 S3) ++ (zTr cI h_T q_T T))[i]?))) (va_runV (As := [.ref h_T]) (rest := []) hF.1 (c_Tr_copyFrom l D cI cZ cT h_S3 q_S3 h_T q_T S3 T H.size (S3_17) e_18) (cwV 1 hts (zgV wm470 wm471 wm472 wm33 wm473) rfl rfl rfl (by decide +kernel) ⟨Nat.le_of_ble_eq_true rfl, Nat.le_of_ble_eq_true rfl⟩) ⟨zP.blind, va_recv hK (z_subP (ws' := (zTr cI (h_S3) (q_S3) (S3)) ++ (zTr cI (h_T) (q_T) (T))) hP [20, 21, 22, 23, 24, 25, 26, 27, 28, 29, 30, 31] rfl) (ci := 4) (q0 := 0) rfl rfl, zP.enter (z_subP (ws' := (zTr cI (h_S3) (q_S3) (S3)) ++ (zTr cI (h_T) (q_T) (T))) hP [20, 21, 22, 23, 24, 25, 26, 27, 28, 29, 30, 31] rfl) hK (hD.sub [20, 21, 22, 23, 24, 25, 26, 27, 28, 29, 30, 31] (by decide) rfl) hN⟩ rfl rfl hl.1 rfl (lv_room (Nat.le_of_ble_eq_true rfl)) dX1_record_51 ⟨Nat.le_refl _, Nat.le_refl _⟩) hP hD hS hA [20, 21, 22, 23, 24, 25, 26, 27, 28, 29, 30, 31] [0, 1, 2, 3, 4, 5, 6, 7, 8, 9, 10, 11, 12, 13, 14, 15, 16, 17, 18, 19] [0, 1, 2, 3, 4, 5, 6, 7, 8, 9, 10, 11, 12, 13, 14, 15, 16, 17, 18, 19, 20, 21, 22, 23, 24, 25, 26, 27, 28, 29, 30, 31] rfl rfl (by decide) (fun _ => rfl) (fun u_19 H locs hP hD hS hz => ?_)
        refine lv_aload_n hx hb dX1_record_54 rfl (lv_at hl 1 rfl) ?_
        refine lv_dup hx hb dX1_record_55 rfl ?_
        refine va_get (D := D) (ci := 1) (v := vI c_count) (C := RX1) (T := TX1) (N := 2) hx hb hts zin1 hown hK hP 0 rfl rfl 1 (by decide) (hts _ wm211) (fun _ h9 => h9) rfl dX1_record_56 ?_
        refine lv_iconst (v := Int32.ofInt 1) hx hb dX1_record_59 rfl ?_
        refine z_iadd hx hb dX1_record_60 ?_
        refine va_put (D := D) (ci := 1) (v := vI (c_count + 1)) (ty := .int) (C := RX1) (T := TX1) (N := 2) hx hb hts zin1 tyX1 tyX1_ok nmX1 hown hK hP hD hS 0 rfl rfl 1 (by decide) (hts _ wm211) (fun _ h9 => h9) rfl (by decide +kernel) rfl rfl (Nat.le_of_ble_eq_true rfl) dX1_record_61 (fun H locs hP hD hS => ?_)
        replace hP : va_P D vwCl ((zHs cT h_H q_H h_S0 h_S1 h_S2 h_S3 (c_count + 1)) ++ (zTr cI h_S0 q_S0 S0) ++ (zTr cI h_S1 q_S1 S1) ++ (zTr cI h_S2 q_S2 S2) ++ (zTr cI h_S3 q_S3 S3_17) ++ (zTr cI h_T q_T T)) H := hP
        replace hD : va_D A ((zHs cT h_H q_H h_S0 h_S1 h_S2 h_S3 (c_count + 1)) ++ (zTr cI h_S0 q_S0 S0) ++ (zTr cI h_S1 q_S1 S1) ++ (zTr cI h_S2 q_S2 S2) ++ (zTr cI h_S3 q_S3 S3_17) ++ (zTr cI h_T q_T T)) := hD
        obtain rfl := Option.some.inj h
        exact z_vret hx hb hr hlk (fun i k => if i = 1 then (if k = 9 then h_S0 else q_S0 k) else if i = 2 then (if k = 9 then h_S1 else q_S1 k) else if i = 3 then (if k = 9 then h_S2 else q_S2 k) else if i = 4 then (if k = 9 then h_S3 else q_S3 k) else 0) hP hD hS dX1_record_64
  · have h := it_n b_2 h
    refine lv_aload_n hx hb dX1_record_8 rfl (lv_at hl 0 rfl) ?_
    obtain ⟨c_count_22, S0_23, S1_24, S2_25, S3_26, e_27, h⟩ := bd5_e h
    have mo_29 : ((tR S0) + (tR S1) + (tR S2) + (tR S3)) ≤ ((tR S0_23) + (tR S1_24) + (tR S2_25) + (tR S3_26)) := mo_Hi_dropOldest S0 S1 S2 S3 (c_count_22, S0_23, S1_24, S2_25, S3_26) e_27
    refine z_gov (wc := (zHs cT (h_H) (q_H) (h_S0) (h_S1) (h_S2) (h_S3) (c_count)) ++ (zTr cI (h_S0) (q_S0) (S0)) ++ (zTr cI (h_S1) (q_S1) (S1)) ++ (zTr cI (h_S2) (q_S2) (S2)) ++ (zTr cI (h_S3) (q_S3) (S3))) (wn := fun u_28 => (zHs cT h_H q_H (u_28 1 9) (u_28 2 9) (u_28 3 9) (u_28 4 9) c_count_22) ++ (zTr cI (u_28 1 9) (u_28 1) S0_23) ++ (zTr cI (u_28 2 9) (u_28 2) S1_24) ++ (zTr cI (u_28 3 9) (u_28 3) S2_25) ++ (zTr cI (u_28 4 9) (u_28 4) S3_26) ++ (zTr cI h_T q_T T)) (wr := ([26, 27, 28, 29, 30, 31].filterMap (fun i => ((zHs cT h_H q_H h_S0 h_S1 h_S2 h_S3 c_count) ++ (zTr cI h_S0 q_S0 S0) ++ (zTr cI h_S1 q_S1 S1) ++ (zTr cI h_S2 q_S2 S2) ++ (zTr cI h_S3 q_S3 S3) ++ (zTr cI h_T q_T T))[i]?))) (va_runV (As := []) (rest := []) hF.1 (c_Hi_dropOldest l D cI cZ cT h_H q_H h_S0 h_S1 h_S2 h_S3 q_S0 q_S1 q_S2 q_S3 c_count S0 S1 S2 S3 H.size (c_count_22, S0_23, S1_24, S2_25, S3_26) e_27) (cwV 0 hts (zgV wm466 wm468 wm4 wm39 wm469) rfl rfl rfl (by decide +kernel) ⟨Nat.le_of_ble_eq_true rfl, Nat.le_of_ble_eq_true rfl⟩) ⟨zP.blind, va_recv hK (z_subP (ws' := (zHs cT (h_H) (q_H) (h_S0) (h_S1) (h_S2) (h_S3) (c_count)) ++ (zTr cI (h_S0) (q_S0) (S0)) ++ (zTr cI (h_S1) (q_S1) (S1)) ++ (zTr cI (h_S2) (q_S2) (S2)) ++ (zTr cI (h_S3) (q_S3) (S3))) hP [0, 1, 2, 3, 4, 5, 6, 7, 8, 9, 10, 11, 12, 13, 14, 15, 16, 17, 18, 19, 20, 21, 22, 23, 24, 25] rfl) (ci := 1) (q0 := 0) rfl rfl, zP.enter (z_subP (ws' := (zHs cT (h_H) (q_H) (h_S0) (h_S1) (h_S2) (h_S3) (c_count)) ++ (zTr cI (h_S0) (q_S0) (S0)) ++ (zTr cI (h_S1) (q_S1) (S1)) ++ (zTr cI (h_S2) (q_S2) (S2)) ++ (zTr cI (h_S3) (q_S3) (S3))) hP [0, 1, 2, 3, 4, 5, 6, 7, 8, 9, 10, 11, 12, 13, 14, 15, 16, 17, 18, 19, 20, 21, 22, 23, 24, 25] rfl) hK (hD.sub [0, 1, 2, 3, 4, 5, 6, 7, 8, 9, 10, 11, 12, 13, 14, 15, 16, 17, 18, 19, 20, 21, 22, 23, 24, 25] (by decide) rfl) hN⟩ rfl rfl hl.1 rfl (lv_room (Nat.le_of_ble_eq_true rfl)) dX1_record_9 ⟨Nat.le_refl _, Nat.le_refl _⟩) hP hD hS hA [0, 1, 2, 3, 4, 5, 6, 7, 8, 9, 10, 11, 12, 13, 14, 15, 16, 17, 18, 19, 20, 21, 22, 23, 24, 25] [26, 27, 28, 29, 30, 31] [6, 7, 8, 9, 10, 11, 12, 13, 14, 15, 16, 17, 18, 19, 20, 21, 22, 23, 24, 25, 26, 27, 28, 29, 30, 31, 0, 1, 2, 3, 4, 5] rfl rfl (by decide) (fun _ => rfl) (fun u_28 H locs hP hD hS hz => ?_)
    refine lv_aload_n hx hb dX1_record_12 rfl (lv_at hl 0 rfl) ?_
    refine va_get (D := D) (ci := 1) (v := vI c_count_22) (C := RX1) (T := TX1) (N := 2) hx hb hts zin1 hown hK hP 0 rfl rfl 1 (by decide) (hts _ wm211) (fun _ h9 => h9) rfl dX1_record_13 ?_
    obtain ⟨g_30, h⟩ := gd_e h
    refine z_if_lt (tgt := 43) hx hb g_30 dX1_record_16 (by decide) (fun b_31 => ?_) (fun b_31 => ?_)
    · have h := it_p b_31 h
      cases h
    · have h := it_n b_31 h
      refine lv_aload_n hx hb dX1_record_19 rfl (lv_at hl 0 rfl) ?_
      refine va_get (D := D) (ci := 1) (v := vI c_count_22) (C := RX1) (T := TX1) (N := 2) hx hb hts zin1 hown hK hP 0 rfl rfl 1 (by decide) (hts _ wm211) (fun _ h9 => h9) rfl dX1_record_20 ?_
      refine lv_aload_n hx hb dX1_record_23 rfl (lv_at hl 0 rfl) ?_
      refine va_get (D := D) (ci := 1) (v := .ref q_H) (C := RX1) (T := TX1) (N := 2) hx hb hts zin1 hown hK hP 0 rfl rfl 0 (by decide) (hts _ wm210) (fun _ h9 => h9) rfl dX1_record_24 ?_
      refine va_alen (v := Int32.ofInt 4) hx hb hK hP 1 2 rfl rfl rfl dX1_record_27 ?_
      refine z_icmp_ge (tgt := 43) hx hb g_30 (by decide) dX1_record_28 (by decide) (fun b_32 => ?_) (fun b_32 => ?_)
      · have h := it_n b_32 h
        cases h
      · have h := it_p b_32 h
        refine lv_aload_n hx hb dX1_record_31 rfl (lv_at hl 0 rfl) ?_
        refine va_get (D := D) (ci := 1) (v := .ref q_H) (C := RX1) (T := TX1) (N := 2) hx hb hts zin1 hown hK hP 0 rfl rfl 0 (by decide) (hts _ wm210) (fun _ h9 => h9) rfl dX1_record_32 ?_
        refine lv_aload_n hx hb dX1_record_35 rfl (lv_at hl 0 rfl) ?_
        refine va_get (D := D) (ci := 1) (v := vI c_count_22) (C := RX1) (T := TX1) (N := 2) hx hb hts zin1 hown hK hP 0 rfl rfl 1 (by decide) (hts _ wm211) (fun _ h9 => h9) rfl dX1_record_36 ?_
        rcases it_e h with ⟨ix_49, h⟩ | ⟨_, h⟩
        · refine z_top (x' := 0) ix_49 ?_
          refine z_aald (j := 0) (y := (u_28 1 9)) hx hb hK hP 1 rfl rfl (by decide) (by decide) rfl dX1_record_39 ?_
          refine lv_goto (tgt := 44) hx hb dX1_record_40 (by decide) ?_
          refine lv_astore_n (lv' := [(2, .ref (u_28 1 9)), (0, .ref h_H), (1, .ref h_T)]) hx hb dX1_record_44 rfl hl (by decide) rfl (fun ls hl => ?_)
          refine lv_aload_n hx hb dX1_record_45 rfl (lv_at hl 0 rfl) ?_
          refine lv_ifnull hx hb dX1_record_46 ?_
          refine lv_aload_n hx hb dX1_record_49 rfl (lv_at hl 0 rfl) ?_
          refine lv_aload_n hx hb dX1_record_50 rfl (lv_at hl 2 rfl) ?_
          obtain ⟨S0_33, e_34, h⟩ := bd1_e h
          have mo_36 : (tR S0_23) ≤ (tR S0_33) := mo_Tr_copyFrom S0_23 T (S0_33) e_34
          refine z_gov (wc := (zTr cI ((u_28 1 9)) ((u_28 1)) (S0_23)) ++ (zTr cI (h_T) (q_T) (T))) (wn := fun u_35 => (zHs cT h_H q_H (u_28 1 9) (u_28 2 9) (u_28 3 9) (u_28 4 9) c_count_22) ++ (zTr cI (u_28 1 9) (u_28 1) S0_33) ++ (zTr cI (u_28 2 9) (u_28 2) S1_24) ++ (zTr cI (u_28 3 9) (u_28 3) S2_25) ++ (zTr cI (u_28 4 9) (u_28 4) S3_26) ++ (zTr cI h_T q_T T)) (wr := ([0, 1, 8, 9, 10, 11, 12, 13, 14, 15, 16, 17, 18, 19, 20, 21, 22, 23, 24, 25].filterMap (fun i => ((zHs cT h_H q_H (u_28 1 9) (u_28 2 9) (u_28 3 9) (u_28 4 9) c_count_22) ++ (zTr cI (u_28 1 9) (u_28 1) S0_23) ++ (zTr cI (u_28 2 9) (u_28 2) S1_24) ++ (zTr cI (u_28 3 9) (u_28 3) S2_25) ++ (zTr cI (u_28 4 9) (u_28 4) S3_26) ++ (zTr cI h_T q_T T))[i]?))) (va_runV (As := [.ref h_T]) (rest := []) hF.1 (c_Tr_copyFrom l D cI cZ cT (u_28 1 9) (u_28 1) h_T q_T S0_23 T H.size (S0_33) e_34) (cwV 1 hts (zgV wm470 wm471 wm472 wm33 wm473) rfl rfl rfl (by decide +kernel) ⟨Nat.le_of_ble_eq_true rfl, Nat.le_of_ble_eq_true rfl⟩) ⟨zP.blind, va_recv hK (z_subP (ws' := (zTr cI ((u_28 1 9)) ((u_28 1)) (S0_23)) ++ (zTr cI (h_T) (q_T) (T))) hP [2, 3, 4, 5, 6, 7, 26, 27, 28, 29, 30, 31] rfl) (ci := 4) (q0 := 0) rfl rfl, zP.enter (z_subP (ws' := (zTr cI ((u_28 1 9)) ((u_28 1)) (S0_23)) ++ (zTr cI (h_T) (q_T) (T))) hP [2, 3, 4, 5, 6, 7, 26, 27, 28, 29, 30, 31] rfl) hK (hD.sub [2, 3, 4, 5, 6, 7, 26, 27, 28, 29, 30, 31] (by decide) rfl) hN⟩ rfl rfl hl.1 rfl (lv_room (Nat.le_of_ble_eq_true rfl)) dX1_record_51 ⟨Nat.le_refl _, Nat.le_refl _⟩) hP hD hS hA [2, 3, 4, 5, 6, 7, 26, 27, 28, 29, 30, 31] [0, 1, 8, 9, 10, 11, 12, 13, 14, 15, 16, 17, 18, 19, 20, 21, 22, 23, 24, 25] [0, 1, 20, 21, 22, 23, 24, 25, 2, 3, 4, 5, 6, 7, 8, 9, 10, 11, 12, 13, 14, 15, 16, 17, 18, 19, 26, 27, 28, 29, 30, 31] rfl rfl (by decide) (fun _ => rfl) (fun u_35 H locs hP hD hS hz => ?_)
          refine lv_aload_n hx hb dX1_record_54 rfl (lv_at hl 1 rfl) ?_
          refine lv_dup hx hb dX1_record_55 rfl ?_
          refine va_get (D := D) (ci := 1) (v := vI c_count_22) (C := RX1) (T := TX1) (N := 2) hx hb hts zin1 hown hK hP 0 rfl rfl 1 (by decide) (hts _ wm211) (fun _ h9 => h9) rfl dX1_record_56 ?_
          refine lv_iconst (v := Int32.ofInt 1) hx hb dX1_record_59 rfl ?_
          refine z_iadd hx hb dX1_record_60 ?_
          refine va_put (D := D) (ci := 1) (v := vI (c_count_22 + 1)) (ty := .int) (C := RX1) (T := TX1) (N := 2) hx hb hts zin1 tyX1 tyX1_ok nmX1 hown hK hP hD hS 0 rfl rfl 1 (by decide) (hts _ wm211) (fun _ h9 => h9) rfl (by decide +kernel) rfl rfl (Nat.le_of_ble_eq_true rfl) dX1_record_61 (fun H locs hP hD hS => ?_)
          replace hP : va_P D vwCl ((zHs cT h_H q_H (u_28 1 9) (u_28 2 9) (u_28 3 9) (u_28 4 9) (c_count_22 + 1)) ++ (zTr cI (u_28 1 9) (u_28 1) S0_33) ++ (zTr cI (u_28 2 9) (u_28 2) S1_24) ++ (zTr cI (u_28 3 9) (u_28 3) S2_25) ++ (zTr cI (u_28 4 9) (u_28 4) S3_26) ++ (zTr cI h_T q_T T)) H := hP
          replace hD : va_D A ((zHs cT h_H q_H (u_28 1 9) (u_28 2 9) (u_28 3 9) (u_28 4 9) (c_count_22 + 1)) ++ (zTr cI (u_28 1 9) (u_28 1) S0_33) ++ (zTr cI (u_28 2 9) (u_28 2) S1_24) ++ (zTr cI (u_28 3 9) (u_28 3) S2_25) ++ (zTr cI (u_28 4 9) (u_28 4) S3_26) ++ (zTr cI h_T q_T T)) := hD
          obtain rfl := Option.some.inj h
          exact z_vret hx hb hr hlk (fun i k => if i = 1 then (if k = 9 then (u_28 1 9) else (u_28 1) k) else if i = 2 then (if k = 9 then (u_28 2 9) else (u_28 2) k) else if i = 3 then (if k = 9 then (u_28 3 9) else (u_28 3) k) else if i = 4 then (if k = 9 then (u_28 4 9) else (u_28 4) k) else 0) hP hD hS dX1_record_64
        rcases it_e h with ⟨ix_49, h⟩ | ⟨_, h⟩
        · refine z_top (x' := 1) ix_49 ?_
          refine z_aald (j := 1) (y := (u_28 2 9)) hx hb hK hP 1 rfl rfl (by decide) (by decide) rfl dX1_record_39 ?_
          refine lv_goto (tgt := 44) hx hb dX1_record_40 (by decide) ?_
          refine lv_astore_n (lv' := [(2, .ref (u_28 2 9)), (0, .ref h_H), (1, .ref h_T)]) hx hb dX1_record_44 rfl hl (by decide) rfl (fun ls hl => ?_)
          refine lv_aload_n hx hb dX1_record_45 rfl (lv_at hl 0 rfl) ?_
          refine lv_ifnull hx hb dX1_record_46 ?_
          refine lv_aload_n hx hb dX1_record_49 rfl (lv_at hl 0 rfl) ?_
          refine lv_aload_n hx hb dX1_record_50 rfl (lv_at hl 2 rfl) ?_
          obtain ⟨S1_37, e_38, h⟩ := bd1_e h
          have mo_40 : (tR S1_24) ≤ (tR S1_37) := mo_Tr_copyFrom S1_24 T (S1_37) e_38
          refine z_gov (wc := (zTr cI ((u_28 2 9)) ((u_28 2)) (S1_24)) ++ (zTr cI (h_T) (q_T) (T))) (wn := fun u_39 => (zHs cT h_H q_H (u_28 1 9) (u_28 2 9) (u_28 3 9) (u_28 4 9) c_count_22) ++ (zTr cI (u_28 1 9) (u_28 1) S0_23) ++ (zTr cI (u_28 2 9) (u_28 2) S1_37) ++ (zTr cI (u_28 3 9) (u_28 3) S2_25) ++ (zTr cI (u_28 4 9) (u_28 4) S3_26) ++ (zTr cI h_T q_T T)) (wr := ([0, 1, 2, 3, 4, 5, 6, 7, 14, 15, 16, 17, 18, 19, 20, 21, 22, 23, 24, 25].filterMap (fun i => ((zHs cT h_H q_H (u_28 1 9) (u_28 2 9) (u_28 3 9) (u_28 4 9) c_count_22) ++ (zTr cI (u_28 1 9) (u_28 1) S0_23) ++ (zTr cI (u_28 2 9) (u_28 2) S1_24) ++ (zTr cI (u_28 3 9) (u_28 3) S2_25) ++ (zTr cI (u_28 4 9) (u_28 4) S3_26) ++ (zTr cI h_T q_T T))[i]?))) (va_runV (As := [.ref h_T]) (rest := []) hF.1 (c_Tr_copyFrom l D cI cZ cT (u_28 2 9) (u_28 2) h_T q_T S1_24 T H.size (S1_37) e_38) (cwV 1 hts (zgV wm470 wm471 wm472 wm33 wm473) rfl rfl rfl (by decide +kernel) ⟨Nat.le_of_ble_eq_true rfl, Nat.le_of_ble_eq_true rfl⟩) ⟨zP.blind, va_recv hK (z_subP (ws' := (zTr cI ((u_28 2 9)) ((u_28 2)) (S1_24)) ++ (zTr cI (h_T) (q_T) (T))) hP [8, 9, 10, 11, 12, 13, 26, 27, 28, 29, 30, 31] rfl) (ci := 4) (q0 := 0) rfl rfl, zP.enter (z_subP (ws' := (zTr cI ((u_28 2 9)) ((u_28 2)) (S1_24)) ++ (zTr cI (h_T) (q_T) (T))) hP [8, 9, 10, 11, 12, 13, 26, 27, 28, 29, 30, 31] rfl) hK (hD.sub [8, 9, 10, 11, 12, 13, 26, 27, 28, 29, 30, 31] (by decide) rfl) hN⟩ rfl rfl hl.1 rfl (lv_room (Nat.le_of_ble_eq_true rfl)) dX1_record_51 ⟨Nat.le_refl _, Nat.le_refl _⟩) hP hD hS hA [8, 9, 10, 11, 12, 13, 26, 27, 28, 29, 30, 31] [0, 1, 2, 3, 4, 5, 6, 7, 14, 15, 16, 17, 18, 19, 20, 21, 22, 23, 24, 25] [0, 1, 2, 3, 4, 5, 6, 7, 20, 21, 22, 23, 24, 25, 8, 9, 10, 11, 12, 13, 14, 15, 16, 17, 18, 19, 26, 27, 28, 29, 30, 31] rfl rfl (by decide) (fun _ => rfl) (fun u_39 H locs hP hD hS hz => ?_)
          refine lv_aload_n hx hb dX1_record_54 rfl (lv_at hl 1 rfl) ?_
          refine lv_dup hx hb dX1_record_55 rfl ?_
          refine va_get (D := D) (ci := 1) (v := vI c_count_22) (C := RX1) (T := TX1) (N := 2) hx hb hts zin1 hown hK hP 0 rfl rfl 1 (by decide) (hts _ wm211) (fun _ h9 => h9) rfl dX1_record_56 ?_
          refine lv_iconst (v := Int32.ofInt 1) hx hb dX1_record_59 rfl ?_
          refine z_iadd hx hb dX1_record_60 ?_
          refine va_put (D := D) (ci := 1) (v := vI (c_count_22 + 1)) (ty := .int) (C := RX1) (T := TX1) (N := 2) hx hb hts zin1 tyX1 tyX1_ok nmX1 hown hK hP hD hS 0 rfl rfl 1 (by decide) (hts _ wm211) (fun _ h9 => h9) rfl (by decide +kernel) rfl rfl (Nat.le_of_ble_eq_true rfl) dX1_record_61 (fun H locs hP hD hS => ?_)
          replace hP : va_P D vwCl ((zHs cT h_H q_H (u_28 1 9) (u_28 2 9) (u_28 3 9) (u_28 4 9) (c_count_22 + 1)) ++ (zTr cI (u_28 1 9) (u_28 1) S0_23) ++ (zTr cI (u_28 2 9) (u_28 2) S1_37) ++ (zTr cI (u_28 3 9) (u_28 3) S2_25) ++ (zTr cI (u_28 4 9) (u_28 4) S3_26) ++ (zTr cI h_T q_T T)) H := hP
          replace hD : va_D A ((zHs cT h_H q_H (u_28 1 9) (u_28 2 9) (u_28 3 9) (u_28 4 9) (c_count_22 + 1)) ++ (zTr cI (u_28 1 9) (u_28 1) S0_23) ++ (zTr cI (u_28 2 9) (u_28 2) S1_37) ++ (zTr cI (u_28 3 9) (u_28 3) S2_25) ++ (zTr cI (u_28 4 9) (u_28 4) S3_26) ++ (zTr cI h_T q_T T)) := hD
          obtain rfl := Option.some.inj h
          exact z_vret hx hb hr hlk (fun i k => if i = 1 then (if k = 9 then (u_28 1 9) else (u_28 1) k) else if i = 2 then (if k = 9 then (u_28 2 9) else (u_28 2) k) else if i = 3 then (if k = 9 then (u_28 3 9) else (u_28 3) k) else if i = 4 then (if k = 9 then (u_28 4 9) else (u_28 4) k) else 0) hP hD hS dX1_record_64
        rcases it_e h with ⟨ix_49, h⟩ | ⟨_, h⟩
        · refine z_top (x' := 2) ix_49 ?_
          refine z_aald (j := 2) (y := (u_28 3 9)) hx hb hK hP 1 rfl rfl (by decide) (by decide) rfl dX1_record_39 ?_
          refine lv_goto (tgt := 44) hx hb dX1_record_40 (by decide) ?_
          refine lv_astore_n (lv' := [(2, .ref (u_28 3 9)), (0, .ref h_H), (1, .ref h_T)]) hx hb dX1_record_44 rfl hl (by decide) rfl (fun ls hl => ?_)
          refine lv_aload_n hx hb dX1_record_45 rfl (lv_at hl 0 rfl) ?_
          refine lv_ifnull hx hb dX1_record_46 ?_
          refine lv_aload_n hx hb dX1_record_49 rfl (lv_at hl 0 rfl) ?_
          refine lv_aload_n hx hb dX1_record_50 rfl (lv_at hl 2 rfl) ?_
          obtain ⟨S2_41, e_42, h⟩ := bd1_e h
          have mo_44 : (tR S2_25) ≤ (tR S2_41) := mo_Tr_copyFrom S2_25 T (S2_41) e_42
          refine z_gov (wc := (zTr cI ((u_28 3 9)) ((u_28 3)) (S2_25)) ++ (zTr cI (h_T) (q_T) (T))) (wn := fun u_43 => (zHs cT h_H q_H (u_28 1 9) (u_28 2 9) (u_28 3 9) (u_28 4 9) c_count_22) ++ (zTr cI (u_28 1 9) (u_28 1) S0_23) ++ (zTr cI (u_28 2 9) (u_28 2) S1_24) ++ (zTr cI (u_28 3 9) (u_28 3) S2_41) ++ (zTr cI (u_28 4 9) (u_28 4) S3_26) ++ (zTr cI h_T q_T T)) (wr := ([0, 1, 2, 3, 4, 5, 6, 7, 8, 9, 10, 11, 12, 13, 20, 21, 22, 23, 24, 25].filterMap (fun i => ((zHs cT h_H q_H (u_28 1 9) (u_28 2 9) (u_28 3 9) (u_28 4 9) c_count_22) ++ (zTr cI (u_28 1 9) (u_28 1) S0_23) ++ (zTr cI (u_28 2 9) (u_28 2) S1_24) ++ (zTr cI (u_28 3 9) (u_28 3) S2_25) ++ (zTr cI (u_28 4 9) (u_28 4) S3_26) ++ (zTr cI h_T q_T T))[i]?))) (va_runV (As := [.ref h_T]) (rest := []) hF.1 (c_Tr_copyFrom l D cI cZ cT (u_28 3 9) (u_28 3) h_T q_T S2_25 T H.size (S2_41) e_42) (cwV 1 hts (zgV wm470 wm471 wm472 wm33 wm473) rfl rfl rfl (by decide +kernel) ⟨Nat.le_of_ble_eq_true rfl, Nat.le_of_ble_eq_true rfl⟩) ⟨zP.blind, va_recv hK (z_subP (ws' := (zTr cI ((u_28 3 9)) ((u_28 3)) (S2_25)) ++ (zTr cI (h_T) (q_T) (T))) hP [14, 15, 16, 17, 18, 19, 26, 27, 28, 29, 30, 31] rfl) (ci := 4) (q0 := 0) rfl rfl, zP.enter (z_subP (ws' := (zTr cI ((u_28 3 9)) ((u_28 3)) (S2_25)) ++ (zTr cI (h_T) (q_T) (T))) hP [14, 15, 16, 17, 18, 19, 26, 27, 28, 29, 30, 31] rfl) hK (hD.sub [14, 15, 16, 17, 18, 19, 26, 27, 28, 29, 30, 31] (by decide) rfl) hN⟩ rfl rfl hl.1 rfl (lv_room (Nat.le_of_ble_eq_true rfl)) dX1_record_51 ⟨Nat.le_refl _, Nat.le_refl _⟩) hP hD hS hA [14, 15, 16, 17, 18, 19, 26, 27, 28, 29, 30, 31] [0, 1, 2, 3, 4, 5, 6, 7, 8, 9, 10, 11, 12, 13, 20, 21, 22, 23, 24, 25] [0, 1, 2, 3, 4, 5, 6, 7, 8, 9, 10, 11, 12, 13, 20, 21, 22, 23, 24, 25, 14, 15, 16, 17, 18, 19, 26, 27, 28, 29, 30, 31] rfl rfl (by decide) (fun _ => rfl) (fun u_43 H locs hP hD hS hz => ?_)
          refine lv_aload_n hx hb dX1_record_54 rfl (lv_at hl 1 rfl) ?_
          refine lv_dup hx hb dX1_record_55 rfl ?_
          refine va_get (D := D) (ci := 1) (v := vI c_count_22) (C := RX1) (T := TX1) (N := 2) hx hb hts zin1 hown hK hP 0 rfl rfl 1 (by decide) (hts _ wm211) (fun _ h9 => h9) rfl dX1_record_56 ?_
          refine lv_iconst (v := Int32.ofInt 1) hx hb dX1_record_59 rfl ?_
          refine z_iadd hx hb dX1_record_60 ?_
          refine va_put (D := D) (ci := 1) (v := vI (c_count_22 + 1)) (ty := .int) (C := RX1) (T := TX1) (N := 2) hx hb hts zin1 tyX1 tyX1_ok nmX1 hown hK hP hD hS 0 rfl rfl 1 (by decide) (hts _ wm211) (fun _ h9 => h9) rfl (by decide +kernel) rfl rfl (Nat.le_of_ble_eq_true rfl) dX1_record_61 (fun H locs hP hD hS => ?_)
          replace hP : va_P D vwCl ((zHs cT h_H q_H (u_28 1 9) (u_28 2 9) (u_28 3 9) (u_28 4 9) (c_count_22 + 1)) ++ (zTr cI (u_28 1 9) (u_28 1) S0_23) ++ (zTr cI (u_28 2 9) (u_28 2) S1_24) ++ (zTr cI (u_28 3 9) (u_28 3) S2_41) ++ (zTr cI (u_28 4 9) (u_28 4) S3_26) ++ (zTr cI h_T q_T T)) H := hP
          replace hD : va_D A ((zHs cT h_H q_H (u_28 1 9) (u_28 2 9) (u_28 3 9) (u_28 4 9) (c_count_22 + 1)) ++ (zTr cI (u_28 1 9) (u_28 1) S0_23) ++ (zTr cI (u_28 2 9) (u_28 2) S1_24) ++ (zTr cI (u_28 3 9) (u_28 3) S2_41) ++ (zTr cI (u_28 4 9) (u_28 4) S3_26) ++ (zTr cI h_T q_T T)) := hD
          obtain rfl := Option.some.inj h
          exact z_vret hx hb hr hlk (fun i k => if i = 1 then (if k = 9 then (u_28 1 9) else (u_28 1) k) else if i = 2 then (if k = 9 then (u_28 2 9) else (u_28 2) k) else if i = 3 then (if k = 9 then (u_28 3 9) else (u_28 3) k) else if i = 4 then (if k = 9 then (u_28 4 9) else (u_28 4) k) else 0) hP hD hS dX1_record_64
        obtain ⟨ix_49, h⟩ := gd_e h
        refine z_top (x' := 3) ix_49 ?_
        refine z_aald (j := 3) (y := (u_28 4 9)) hx hb hK hP 1 rfl rfl (by decide) (by decide) rfl dX1_record_39 ?_
        refine lv_goto (tgt := 44) hx hb dX1_record_40 (by decide) ?_
        refine lv_astore_n (lv' := [(2, .ref (u_28 4 9)), (0, .ref h_H), (1, .ref h_T)]) hx hb dX1_record_44 rfl hl (by decide) rfl (fun ls hl => ?_)
        refine lv_aload_n hx hb dX1_record_45 rfl (lv_at hl 0 rfl) ?_
        refine lv_ifnull hx hb dX1_record_46 ?_
        refine lv_aload_n hx hb dX1_record_49 rfl (lv_at hl 0 rfl) ?_
        refine lv_aload_n hx hb dX1_record_50 rfl (lv_at hl 2 rfl) ?_
        obtain ⟨S3_45, e_46, h⟩ := bd1_e h
        have mo_48 : (tR S3_26) ≤ (tR S3_45) := mo_Tr_copyFrom S3_26 T (S3_45) e_46
        refine z_gov (wc := (zTr cI ((u_28 4 9)) ((u_28 4)) (S3_26)) ++ (zTr cI (h_T) (q_T) (T))) (wn := fun u_47 => (zHs cT h_H q_H (u_28 1 9) (u_28 2 9) (u_28 3 9) (u_28 4 9) c_count_22) ++ (zTr cI (u_28 1 9) (u_28 1) S0_23) ++ (zTr cI (u_28 2 9) (u_28 2) S1_24) ++ (zTr cI (u_28 3 9) (u_28 3) S2_25) ++ (zTr cI (u_28 4 9) (u_28 4) S3_45) ++ (zTr cI h_T q_T T)) (wr := ([0, 1, 2, 3, 4, 5, 6, 7, 8, 9, 10, 11, 12, 13, 14, 15, 16, 17, 18, 19].filterMap (fun i => ((zHs cT h_H q_H (u_28 1 9) (u_28 2 9) (u_28 3 9) (u_28 4 9) c_count_22) ++ (zTr cI (u_28 1 9) (u_28 1) S0_23) ++ (zTr cI (u_28 2 9) (u_28 2) S1_24) ++ (zTr cI (u_28 3 9) (u_28 3) S2_25) ++ (zTr cI (u_28 4 9) (u_28 4) S3_26) ++ (zTr cI h_T q_T T))[i]?))) (va_runV (As := [.ref h_T]) (rest := []) hF.1 (c_Tr_copyFrom l D cI cZ cT (u_28 4 9) (u_28 4) h_T q_T S3_26 T H.size (S3_45) e_46) (cwV 1 hts (zgV wm470 wm471 wm472 wm33 wm473) rfl rfl rfl (by decide +kernel) ⟨Nat.le_of_ble_eq_true rfl, Nat.le_of_ble_eq_true rfl⟩) ⟨zP.blind, va_recv hK (z_subP (ws' := (zTr cI ((u_28 4 9)) ((u_28 4)) (S3_26)) ++ (zTr cI (h_T) (q_T) (T))) hP [20, 21, 22, 23, 24, 25, 26, 27, 28, 29, 30, 31] rfl) (ci := 4) (q0 := 0) rfl rfl, zP.enter (z_subP (ws' := (zTr cI ((u_28 4 9)) ((u_28 4)) (S3_26)) ++ (zTr cI (h_T) (q_T) (T))) hP [20, 21, 22, 23, 24, 25, 26, 27, 28, 29, 30, 31] rfl) hK (hD.sub [20, 21, 22, 23, 24, 25, 26, 27, 28, 29, 30, 31] (by decide) rfl) hN⟩ rfl rfl hl.1 rfl (lv_room (Nat.le_of_ble_eq_true rfl)) dX1_record_51 ⟨Nat.le_refl _, Nat.le_refl _⟩) hP hD hS hA [20, 21, 22, 23, 24, 25, 26, 27, 28, 29, 30, 31] [0, 1, 2, 3, 4, 5, 6, 7, 8, 9, 10, 11, 12, 13, 14, 15, 16, 17, 18, 19] [0, 1, 2, 3, 4, 5, 6, 7, 8, 9, 10, 11, 12, 13, 14, 15, 16, 17, 18, 19, 20, 21, 22, 23, 24, 25, 26, 27, 28, 29, 30, 31] rfl rfl (by decide) (fun _ => rfl) (fun u_47 H locs hP hD hS hz => ?_)
        refine lv_aload_n hx hb dX1_record_54 rfl (lv_at hl 1 rfl) ?_
        refine lv_dup hx hb dX1_record_55 rfl ?_
        refine va_get (D := D) (ci := 1) (v := vI c_count_22) (C := RX1) (T := TX1) (N := 2) hx hb hts zin1 hown hK hP 0 rfl rfl 1 (by decide) (hts _ wm211) (fun _ h9 => h9) rfl dX1_record_56 ?_
        refine lv_iconst (v := Int32.ofInt 1) hx hb dX1_record_59 rfl ?_
        refine z_iadd hx hb dX1_record_60 ?_
        refine va_put (D := D) (ci := 1) (v := vI (c_count_22 + 1)) (ty := .int) (C := RX1) (T := TX1) (N := 2) hx hb hts zin1 tyX1 tyX1_ok nmX1 hown hK hP hD hS 0 rfl rfl 1 (by decide) (hts _ wm211) (fun _ h9 => h9) rfl (by decide +kernel) rfl rfl (Nat.le_of_ble_eq_true rfl) dX1_record_61 (fun H locs hP hD hS => ?_)
        replace hP : va_P D vwCl ((zHs cT h_H q_H (u_28 1 9) (u_28 2 9) (u_28 3 9) (u_28 4 9) (c_count_22 + 1)) ++ (zTr cI (u_28 1 9) (u_28 1) S0_23) ++ (zTr cI (u_28 2 9) (u_28 2) S1_24) ++ (zTr cI (u_28 3 9) (u_28 3) S2_25) ++ (zTr cI (u_28 4 9) (u_28 4) S3_45) ++ (zTr cI h_T q_T T)) H := hP
        replace hD : va_D A ((zHs cT h_H q_H (u_28 1 9) (u_28 2 9) (u_28 3 9) (u_28 4 9) (c_count_22 + 1)) ++ (zTr cI (u_28 1 9) (u_28 1) S0_23) ++ (zTr cI (u_28 2 9) (u_28 2) S1_24) ++ (zTr cI (u_28 3 9) (u_28 3) S2_25) ++ (zTr cI (u_28 4 9) (u_28 4) S3_45) ++ (zTr cI h_T q_T T)) := hD
        obtain rfl := Option.some.inj h
        exact z_vret hx hb hr hlk (fun i k => if i = 1 then (if k = 9 then (u_28 1 9) else (u_28 1) k) else if i = 2 then (if k = 9 then (u_28 2 9) else (u_28 2) k) else if i = 3 then (if k = 9 then (u_28 3 9) else (u_28 3) k) else if i = 4 then (if k = 9 then (u_28 4 9) else (u_28 4) k) else 0) hP hD hS dX1_record_64
