def f_Tr_copyRow (n_A0 : Nat) (n_A1 : Nat) (fA0 : Nat → Int) (fA1 : Nat → Int) : Option ((Nat → Int)) :=
  gd (ck ((n_A0 : Nat) : Int)) <| gd (ck ((n_A1 : Nat) : Int)) <| some ((va_cpy fA0 fA1 0 0 ((min ((n_A0 : Nat) : Int) ((n_A1 : Nat) : Int))).toNat))
abbrev rm_Tr_copyRow : Room := ({ frames := 1, cells := 0, slots := 0, locals := 26 } : Room)

set_option maxHeartbeats 4000000 in
set_option maxRecDepth 100000 in
theorem c_Tr_copyRow (l : Launch) (D : va_G) (cI cZ cT : ClassId) (h_A0 : Nat) (n_A0 : Nat) (h_A1 : Nat) (n_A1 : Nat) (fA0 : Nat → Int) (fA1 : Nat → Int) (sz : Nat) (res : (Nat → Int)) (h : f_Tr_copyRow n_A0 n_A1 fA0 fA1 = some res) : zMv l yX4_copyRow cX4_copyRow 2 rm_Tr_copyRow D (zt cI cZ cT) [.ref h_A0, .ref h_A1] ((zAr cI h_A0 n_A0 fA0) ++ (zAr cI h_A1 n_A1 fA1)) sz (fun u => (zAr cI h_A0 n_A0 fA0) ++ (zAr cI h_A1 n_A1 (res))) 0 0 := by
  refine z_enth (Qc := zQv D (fun u => (zAr cI h_A0 n_A0 fA0) ++ (zAr cI h_A1 n_A1 (res)))) (by decide) (Nat.le_of_ble_eq_true rfl) (fun p e s m args below meth c A ls H locs hF hP hD hS hl => ?_)
  have hx := hF.1.1
  have hb := hF.1.2.1
  have hml := hF.1.2.2.1
  have hown : s.vm.findClass "RectangleTree$Tree" = some m.cls := hF.1.2.2.2.1
  have hts := hF.1.2.2.2.2
  have hr := hF.2.1
  have hlk := hF.2.2.1
  have hK := hF.2.2.2.2.1
  have hN := hF.2.2.2.2.2.1
  have hA := hF.2.2.2.2.2.2
  unfold f_Tr_copyRow at h
  refine lv_aload_n hx hb dX4_copyRow_0 rfl (lv_at hl 0 rfl) ?_
  refine lv_iconst (v := Int32.ofInt 0) hx hb dX4_copyRow_1 rfl ?_
  refine lv_aload_n hx hb dX4_copyRow_2 rfl (lv_at hl 1 rfl) ?_
  refine lv_iconst (v := Int32.ofInt 0) hx hb dX4_copyRow_3 rfl ?_
  refine lv_aload_n hx hb dX4_copyRow_4 rfl (lv_at hl 0 rfl) ?_
  refine z_alen (n := n_A0) (f := fA0) hx hb hK hP 0 rfl rfl dX4_copyRow_5 ?_
  refine lv_aload_n hx hb dX4_copyRow_6 rfl (lv_at hl 1 rfl) ?_
  refine z_alen (n := n_A1) (f := fA1) hx hb hK hP 1 rfl rfl dX4_copyRow_7 ?_
  obtain ⟨g_1, h⟩ := gd_e h
  obtain ⟨g_2, h⟩ := gd_e h
  refine z_mmin (rest := [vI 0, .ref h_A1, vI 0, .ref h_A0]) hx hb (by rw [hml]; exact hl.1.symm) hown (hts _ wm400) (hts _ wm401) (hts _ wm40) (hts _ wm402) (Nat.le_of_ble_eq_true rfl) (Nat.le_of_ble_eq_true rfl) (Nat.le_refl _) (Nat.le_refl _) g_1 g_2 dX4_copyRow_8 ?_
  have g_3 : ck (min ((n_A0 : Nat) : Int) ((n_A1 : Nat) : Int)) := ⟨by have := And.intro (show ck ((n_A0 : Nat) : Int) from g_1) (show ck ((n_A1 : Nat) : Int) from g_2); omega, by have := And.intro (show ck ((n_A0 : Nat) : Int) from g_1) (show ck ((n_A1 : Nat) : Int) from g_2); omega⟩
  refine z_copy0 (n0 := n_A0) (n1 := n_A1) (f := fA0) (g := fA1) (ws' := (zAr cI h_A0 n_A0 fA0) ++ (zAr cI h_A1 n_A1 (va_cpy fA0 fA1 0 0 ((min ((n_A0 : Nat) : Int) ((n_A1 : Nat) : Int))).toNat))) hx hb (by rw [hml]; exact hl.1.symm) hown (hts _ wm477) (hts _ wm479) (hts _ wm478) (hts _ wm41) hK hP hD hS 0 1 rfl rfl rfl (by omega) (by omega) (by omega) (by omega) (Nat.le_of_ble_eq_true rfl) (Nat.le_of_ble_eq_true rfl) dX4_copyRow_11 rfl (fun H locs hP hD hS => ?_)
  obtain rfl := Option.some.inj h
  exact z_vret hx hb hr hlk (fun _ _ => 0) hP hD hS dX4_copyRow_14
def f_Tr_copyFrom (T : TV) (O : TV) : Option (TV) :=
  bd1 (f_Tr_copyRow (tR O) (tR T) (tLev O) (tLev T)) <| fun T_1 => bd1 (f_Tr_copyRow (tR O) (tR T) (tHol O) (tHol T)) <| fun T_4 => bd1 (f_Tr_copyRow (tR O) (tR T) (tSiz O) (tSiz T)) <| fun T_7 => bd1 (f_Tr_copyRow ((tR O) * 4) ((tR T) * 4) (tCor O) (tCor T)) <| fun T_10 => bd1 (f_Tr_copyRow ((tR O) * 6) ((tR T) * 6) (tLis O) (tLis T)) <| fun T_13 => some ((sRec (sSpl (sRei (sCap (sRoot (sLis (sCor (sSiz (sHol (sLev T T_1) T_4) T_7) T_10) T_13) (tRoot O)) (tCap O)) (tRei O)) (tSpl O)) (tRec O)))
abbrev rm_Tr_copyFrom : Room := ({ frames := 2, cells := 0, slots := 0, locals := 47 } : Room)
theorem mo_Tr_copyFrom (T : TV) (O : TV) (res : TV) (h : f_Tr_copyFrom T O = some res) : (tR T) ≤ (tR (res)) := by
  unfold f_Tr_copyFrom at h
  obtain ⟨T_1, e_2, h⟩ := bd1_e h
  obtain ⟨T_4, e_5, h⟩ := bd1_e h
  obtain ⟨T_7, e_8, h⟩ := bd1_e h
  obtain ⟨T_10, e_11, h⟩ := bd1_e h
  obtain ⟨T_13, e_14, h⟩ := bd1_e h
  obtain rfl := Option.some.inj h
  exact (show (tR T) ≤ (tR T) from by omega)
set_option maxHeartbeats 4000000 in
set_option maxRecDepth 100000 in
theorem c_Tr_copyFrom (l : Launch) (D : va_G) (cI cZ cT : ClassId) (h_T : Nat) (q_T : Nat → Nat) (h_O : Nat) (q_O : Nat → Nat) (T : TV) (O : TV) (sz : Nat) (res : TV) (h : f_Tr_copyFrom T O = some res) : zMv l yX4_copyFrom cX4_copyFrom 2 rm_Tr_copyFrom D (zt cI cZ cT) [.ref h_T, .ref h_O] ((zTr cI h_T q_T T) ++ (zTr cI h_O q_O O)) sz (fun u => (zTr cI h_T q_T (res)) ++ (zTr cI h_O q_O O)) 0 0 := by
  refine z_enth (Qc := zQv D (fun u => (zTr cI h_T q_T (res)) ++ (zTr cI h_O q_O O))) (by decide) (Nat.le_of_ble_eq_true rfl) (fun p e s m args below meth c A ls H locs hF hP hD hS hl => ?_)
  have hx := hF.1.1
  have hb := hF.1.2.1
  have hml := hF.1.2.2.1
  have hown : s.vm.findClass "RectangleTree$Tree" = some m.cls := hF.1.2.2.2.1
  have hts := hF.1.2.2.2.2
  have hr := hF.2.1
  have hlk := hF.2.2.1
  have hK := hF.2.2.2.2.1
  have hN := hF.2.2.2.2.2.1
  have hA := hF.2.2.2.2.2.2
  unfold f_Tr_copyFrom at h
  refine lv_aload_n hx hb dX4_copyFrom_0 rfl (lv_at hl 1 rfl) ?_
  refine va_get (D := D) (ci := 4) (v := .ref (q_O 0)) (C := RX4) (T := TX4) (N := 10) hx hb hts zin4 hown hK hP 6 rfl rfl 0 (by decide) (hts _ wm62) (fun _ h9 => h9) rfl dX4_copyFrom_1 ?_
  refine lv_aload_n hx hb dX4_copyFrom_4 rfl (lv_at hl 0 rfl) ?_
  refine va_get (D := D) (ci := 4) (v := .ref (q_T 0)) (C := RX4) (T := TX4) (N := 10) hx hb hts zin4 hown hK hP 0 rfl rfl 0 (by decide) (hts _ wm62) (fun _ h9 => h9) rfl dX4_copyFrom_5 ?_
  obtain ⟨T_1, e_2, h⟩ := bd1_e h
  refine z_gov (wc := (zAr cI ((q_O 0)) ((tR O)) ((tLev O))) ++ (zAr cI ((q_T 0)) ((tR T)) ((tLev T)))) (wn := fun u_3 => (zTr cI h_T q_T (sLev T T_1)) ++ (zTr cI h_O q_O O)) (wr := ([0, 2, 3, 4, 5, 6, 8, 9, 10, 11].filterMap (fun i => ((zTr cI h_T q_T T) ++ (zTr cI h_O q_O O))[i]?))) (va_runS (As := [.ref (q_O 0), .ref (q_T 0)]) (rest := []) hF.1 (c_Tr_copyRow l D cI cZ cT (q_O 0) (tR O) (q_T 0) (tR T) (tLev O) (tLev T) H.size (T_1) e_2) (va_cwS 2 hts (zgS wm474 wm475 wm33 wm476) rfl rfl rfl (by decide +kernel) ⟨Nat.le_of_ble_eq_true rfl, Nat.le_of_ble_eq_true rfl⟩) ⟨zP.blind, zP.enter (z_subP (ws' := (zAr cI ((q_O 0)) ((tR O)) ((tLev O))) ++ (zAr cI ((q_T 0)) ((tR T)) ((tLev T)))) hP [7, 1] rfl) hK (hD.sub [7, 1] (by decide) rfl) hN⟩ rfl rfl hl.1 rfl (lv_room (Nat.le_of_ble_eq_true rfl)) dX4_copyFrom_8 ⟨Nat.le_refl _, Nat.le_refl _⟩) hP hD hS hA [7, 1] [0, 2, 3, 4, 5, 6, 8, 9, 10, 11] [0, 11, 1, 2, 3, 4, 5, 10, 6, 7, 8, 9] rfl rfl (by decide) (fun _ => rfl) (fun u_3 H locs hP hD hS hz => ?_)
  refine lv_aload_n hx hb dX4_copyFrom_11 rfl (lv_at hl 1 rfl) ?_
  refine va_get (D := D) (ci := 4) (v := .ref (q_O 1)) (C := RX4) (T := TX4) (N := 10) hx hb hts zin4 hown hK hP 6 rfl rfl 1 (by decide) (hts _ wm63) (fun _ h9 => h9) rfl dX4_copyFrom_12 ?_
  refine lv_aload_n hx hb dX4_copyFrom_15 rfl (lv_at hl 0 rfl) ?_
  refine va_get (D := D) (ci := 4) (v := .ref (q_T 1)) (C := RX4) (T := TX4) (N := 10) hx hb hts zin4 hown hK hP 0 rfl rfl 1 (by decide) (hts _ wm63) (fun _ h9 => h9) rfl dX4_copyFrom_16 ?_
  obtain ⟨T_4, e_5, h⟩ := bd1_e h
  refine z_gov (wc := (zAr cI ((q_O 1)) ((tR O)) ((tHol O))) ++ (zAr cI ((q_T 1)) ((tR T)) ((tHol T)))) (wn := fun u_6 => (zTr cI h_T q_T (sHol (sLev T T_1) T_4)) ++ (zTr cI h_O q_O O)) (wr := ([0, 1, 3, 4, 5, 6, 7, 9, 10, 11].filterMap (fun i => ((zTr cI h_T q_T (sLev T T_1)) ++ (zTr cI h_O q_O O))[i]?))) (va_runS (As := [.ref (q_O 1), .ref (q_T 1)]) (rest := []) hF.1 (c_Tr_copyRow l D cI cZ cT (q_O 1) (tR O) (q_T 1) (tR T) (tHol O) (tHol T) H.size (T_4) e_5) (va_cwS 2 hts (zgS wm474 wm475 wm33 wm476) rfl rfl rfl (by decide +kernel) ⟨Nat.le_of_ble_eq_true rfl, Nat.le_of_ble_eq_true rfl⟩) ⟨zP.blind, zP.enter (z_subP (ws' := (zAr cI ((q_O 1)) ((tR O)) ((tHol O))) ++ (zAr cI ((q_T 1)) ((tR T)) ((tHol T)))) hP [8, 2] rfl) hK (hD.sub [8, 2] (by decide) rfl) hN⟩ rfl rfl hl.1 rfl (lv_room (Nat.le_of_ble_eq_true rfl)) dX4_copyFrom_19 ⟨Nat.le_refl _, Nat.le_refl _⟩) hP hD hS hA [8, 2] [0, 1, 3, 4, 5, 6, 7, 9, 10, 11] [0, 1, 11, 2, 3, 4, 5, 6, 10, 7, 8, 9] rfl rfl (by decide) (fun _ => rfl) (fun u_6 H locs hP hD hS hz => ?_)
  refine lv_aload_n hx hb dX4_copyFrom_22 rfl (lv_at hl 1 rfl) ?_
  refine va_get (D := D) (ci := 4) (v := .ref (q_O 2)) (C := RX4) (T := TX4) (N := 10) hx hb hts zin4 hown hK hP 6 rfl rfl 2 (by decide) (hts _ wm64) (fun _ h9 => h9) rfl dX4_copyFrom_23 ?_
  refine lv_aload_n hx hb dX4_copyFrom_26 rfl (lv_at hl 0 rfl) ?_
  refine va_get (D := D) (ci := 4) (v := .ref (q_T 2)) (C := RX4) (T := TX4) (N := 10) hx hb hts zin4 hown hK hP 0 rfl rfl 2 (by decide) (hts _ wm64) (fun _ h9 => h9) rfl dX4_copyFrom_27 ?_
  obtain ⟨T_7, e_8, h⟩ := bd1_e h
  refine z_gov (wc := (zAr cI ((q_O 2)) ((tR O)) ((tSiz O))) ++ (zAr cI ((q_T 2)) ((tR T)) ((tSiz T)))) (wn := fun u_9 => (zTr cI h_T q_T (sSiz (sHol (sLev T T_1) T_4) T_7)) ++ (zTr cI h_O q_O O)) (wr := ([0, 1, 2, 4, 5, 6, 7, 8, 10, 11].filterMap (fun i => ((zTr cI h_T q_T (sHol (sLev T T_1) T_4)) ++ (zTr cI h_O q_O O))[i]?))) (va_runS (As := [.ref (q_O 2), .ref (q_T 2)]) (rest := []) hF.1 (c_Tr_copyRow l D cI cZ cT (q_O 2) (tR O) (q_T 2) (tR T) (tSiz O) (tSiz T) H.size (T_7) e_8) (va_cwS 2 hts (zgS wm474 wm475 wm33 wm476) rfl rfl rfl (by decide +kernel) ⟨Nat.le_of_ble_eq_true rfl, Nat.le_of_ble_eq_true rfl⟩) ⟨zP.blind, zP.enter (z_subP (ws' := (zAr cI ((q_O 2)) ((tR O)) ((tSiz O))) ++ (zAr cI ((q_T 2)) ((tR T)) ((tSiz T)))) hP [9, 3] rfl) hK (hD.sub [9, 3] (by decide) rfl) hN⟩ rfl rfl hl.1 rfl (lv_room (Nat.le_of_ble_eq_true rfl)) dX4_copyFrom_30 ⟨Nat.le_refl _, Nat.le_refl _⟩) hP hD hS hA [9, 3] [0, 1, 2, 4, 5, 6, 7, 8, 10, 11] [0, 1, 2, 11, 3, 4, 5, 6, 7, 10, 8, 9] rfl rfl (by decide) (fun _ => rfl) (fun u_9 H locs hP hD hS hz => ?_)
  refine lv_aload_n hx hb dX4_copyFrom_33 rfl (lv_at hl 1 rfl) ?_
  refine va_get (D := D) (ci := 4) (v := .ref (q_O 3)) (C := RX4) (T := TX4) (N := 10) hx hb hts zin4 hown hK hP 6 rfl rfl 3 (by decide) (hts _ wm65) (fun _ h9 => h9) rfl dX4_copyFrom_34 ?_
  refine lv_aload_n hx hb dX4_copyFrom_37 rfl (lv_at hl 0 rfl) ?_
  refine va_get (D := D) (ci := 4) (v := .ref (q_T 3)) (C := RX4) (T := TX4) (N := 10) hx hb hts zin4 hown hK hP 0 rfl rfl 3 (by decide) (hts _ wm65) (fun _ h9 => h9) rfl dX4_copyFrom_38 ?_
  obtain ⟨T_10, e_11, h⟩ := bd1_e h
  refine z_gov (wc := (zAr cI ((q_O 3)) (((tR O) * 4)) ((tCor O))) ++ (zAr cI ((q_T 3)) (((tR T) * 4)) ((tCor T)))) (wn := fun u_12 => (zTr cI h_T q_T (sCor (sSiz (sHol (sLev T T_1) T_4) T_7) T_10)) ++ (zTr cI h_O q_O O)) (wr := ([0, 1, 2, 3, 5, 6, 7, 8, 9, 11].filterMap (fun i => ((zTr cI h_T q_T (sSiz (sHol (sLev T T_1) T_4) T_7)) ++ (zTr cI h_O q_O O))[i]?))) (va_runS (As := [.ref (q_O 3), .ref (q_T 3)]) (rest := []) hF.1 (c_Tr_copyRow l D cI cZ cT (q_O 3) ((tR O) * 4) (q_T 3) ((tR T) * 4) (tCor O) (tCor T) H.size (T_10) e_11) (va_cwS 2 hts (zgS wm474 wm475 wm33 wm476) rfl rfl rfl (by decide +kernel) ⟨Nat.le_of_ble_eq_true rfl, Nat.le_of_ble_eq_true rfl⟩) ⟨zP.blind, zP.enter (z_subP (ws' := (zAr cI ((q_O 3)) (((tR O) * 4)) ((tCor O))) ++ (zAr cI ((q_T 3)) (((tR T) * 4)) ((tCor T)))) hP [10, 4] rfl) hK (hD.sub [10, 4] (by decide) rfl) hN⟩ rfl rfl hl.1 rfl (lv_room (Nat.le_of_ble_eq_true rfl)) dX4_copyFrom_41 ⟨Nat.le_refl _, Nat.le_refl _⟩) hP hD hS hA [10, 4] [0, 1, 2, 3, 5, 6, 7, 8, 9, 11] [0, 1, 2, 3, 11, 4, 5, 6, 7, 8, 10, 9] rfl rfl (by decide) (fun _ => rfl) (fun u_12 H locs hP hD hS hz => ?_)
  refine lv_aload_n hx hb dX4_copyFrom_44 rfl (lv_at hl 1 rfl) ?_
  refine va_get (D := D) (ci := 4) (v := .ref (q_O 4)) (C := RX4) (T := TX4) (N := 10) hx hb hts zin4 hown hK hP 6 rfl rfl 4 (by decide) (hts _ wm66) (fun _ h9 => h9) rfl dX4_copyFrom_45 ?_
  refine lv_aload_n hx hb dX4_copyFrom_48 rfl (lv_at hl 0 rfl) ?_
  refine va_get (D := D) (ci := 4) (v := .ref (q_T 4)) (C := RX4) (T := TX4) (N := 10) hx hb hts zin4 hown hK hP 0 rfl rfl 4 (by decide) (hts _ wm66) (fun _ h9 => h9) rfl dX4_copyFrom_49 ?_
  obtain ⟨T_13, e_14, h⟩ := bd1_e h
  refine z_gov (wc := (zAr cI ((q_O 4)) (((tR O) * 6)) ((tLis O))) ++ (zAr cI ((q_T 4)) (((tR T) * 6)) ((tLis T)))) (wn := fun u_15 => (zTr cI h_T q_T (sLis (sCor (sSiz (sHol (sLev T T_1) T_4) T_7) T_10) T_13)) ++ (zTr cI h_O q_O O)) (wr := ([0, 1, 2, 3, 4, 6, 7, 8, 9, 10].filterMap (fun i => ((zTr cI h_T q_T (sCor (sSiz (sHol (sLev T T_1) T_4) T_7) T_10)) ++ (zTr cI h_O q_O O))[i]?))) (va_runS (As := [.ref (q_O 4), .ref (q_T 4)]) (rest := []) hF.1 (c_Tr_copyRow l D cI cZ cT (q_O 4) ((tR O) * 6) (q_T 4) ((tR T) * 6) (tLis O) (tLis T) H.size (T_13) e_14) (va_cwS 2 hts (zgS wm474 wm475 wm33 wm476) rfl rfl rfl (by decide +kernel) ⟨Nat.le_of_ble_eq_true rfl, Nat.le_of_ble_eq_true rfl⟩) ⟨zP.blind, zP.enter (z_subP (ws' := (zAr cI ((q_O 4)) (((tR O) * 6)) ((tLis O))) ++ (zAr cI ((q_T 4)) (((tR T) * 6)) ((tLis T)))) hP [11, 5] rfl) hK (hD.sub [11, 5] (by decide) rfl) hN⟩ rfl rfl hl.1 rfl (lv_room (Nat.le_of_ble_eq_true rfl)) dX4_copyFrom_52 ⟨Nat.le_refl _, Nat.le_refl _⟩) hP hD hS hA [11, 5] [0, 1, 2, 3, 4, 6, 7, 8, 9, 10] [0, 1, 2, 3, 4, 11, 5, 6, 7, 8, 9, 10] rfl rfl (by decide) (fun _ => rfl) (fun u_15 H locs hP hD hS hz => ?_)
  refine lv_aload_n hx hb dX4_copyFrom_55 rfl (lv_at hl 0 rfl) ?_
  refine lv_aload_n hx hb dX4_copyFrom_56 rfl (lv_at hl 1 rfl) ?_
  refine va_get (D := D) (ci := 4) (v := vI (tRoot O)) (C := RX4) (T := TX4) (N := 10) hx hb hts zin4 hown hK hP 6 rfl rfl 5 (by decide) (hts _ wm67) (fun _ h9 => h9) rfl dX4_copyFrom_57 ?_
  refine va_put (D := D) (ci := 4) (v := vI (tRoot O)) (ty := .int) (C := RX4) (T := TX4) (N := 10) hx hb hts zin4 tyX4 tyX4_ok nmX4 hown hK hP hD hS 0 rfl rfl 5 (by decide) (hts _ wm67) (fun _ h9 => h9) rfl (by decide +kernel) rfl rfl (Nat.le_of_ble_eq_true rfl) dX4_copyFrom_60 (fun H locs hP hD hS => ?_)
  replace hP : va_P D vwCl ((zTr cI h_T q_T (sRoot (sLis (sCor (sSiz (sHol (sLev T T_1) T_4) T_7) T_10) T_13) (tRoot O))) ++ (zTr cI h_O q_O O)) H := hP
  replace hD : va_D A ((zTr cI h_T q_T (sRoot (sLis (sCor (sSiz (sHol (sLev T T_1) T_4) T_7) T_10) T_13) (tRoot O))) ++ (zTr cI h_O q_O O)) := hD
  refine lv_aload_n hx hb dX4_copyFrom_63 rfl (lv_at hl 0 rfl) ?_
  refine lv_aload_n hx hb dX4_copyFrom_64 rfl (lv_at hl 1 rfl) ?_
  refine va_get (D := D) (ci := 4) (v := vI (tCap O)) (C := RX4) (T := TX4) (N := 10) hx hb hts zin4 hown hK hP 6 rfl rfl 6 (by decide) (hts _ wm71) (fun _ h9 => h9) rfl dX4_copyFrom_65 ?_
  refine va_put (D := D) (ci := 4) (v := vI (tCap O)) (ty := .int) (C := RX4) (T := TX4) (N := 10) hx hb hts zin4 tyX4 tyX4_ok nmX4 hown hK hP hD hS 0 rfl rfl 6 (by decide) (hts _ wm71) (fun _ h9 => h9) rfl (by decide +kernel) rfl rfl (Nat.le_of_ble_eq_true rfl) dX4_copyFrom_68 (fun H locs hP hD hS => ?_)
  replace hP : va_P D vwCl ((zTr cI h_T q_T (sCap (sRoot (sLis (sCor (sSiz (sHol (sLev T T_1) T_4) T_7) T_10) T_13) (tRoot O)) (tCap O))) ++ (zTr cI h_O q_O O)) H := hP
  replace hD : va_D A ((zTr cI h_T q_T (sCap (sRoot (sLis (sCor (sSiz (sHol (sLev T T_1) T_4) T_7) T_10) T_13) (tRoot O)) (tCap O))) ++ (zTr cI h_O q_O O)) := hD
  refine lv_aload_n hx hb dX4_copyFrom_71 rfl (lv_at hl 0 rfl) ?_
  refine lv_aload_n hx hb dX4_copyFrom_72 rfl (lv_at hl 1 rfl) ?_
  refine va_get (D := D) (ci := 4) (v := vI (tRei O)) (C := RX4) (T := TX4) (N := 10) hx hb hts zin4 hown hK hP 6 rfl rfl 7 (by decide) (hts _ wm75) (fun _ h9 => h9) rfl dX4_copyFrom_73 ?_
  refine va_put (D := D) (ci := 4) (v := vI (tRei O)) (ty := .int) (C := RX4) (T := TX4) (N := 10) hx hb hts zin4 tyX4 tyX4_ok nmX4 hown hK hP hD hS 0 rfl rfl 7 (by decide) (hts _ wm75) (fun _ h9 => h9) rfl (by decide +kernel) rfl rfl (Nat.le_of_ble_eq_true rfl) dX4_copyFrom_76 (fun H locs hP hD hS => ?_)
  replace hP : va_P D vwCl ((zTr cI h_T q_T (sRei (sCap (sRoot (sLis (sCor (sSiz (sHol (sLev T T_1) T_4) T_7) T_10) T_13) (tRoot O)) (tCap O)) (tRei O))) ++ (zTr cI h_O q_O O)) H := hP
  replace hD : va_D A ((zTr cI h_T q_T (sRei (sCap (sRoot (sLis (sCor (sSiz (sHol (sLev T T_1) T_4) T_7) T_10) T_13) (tRoot O)) (tCap O)) (tRei O))) ++ (zTr cI h_O q_O O)) := hD
  refine lv_aload_n hx hb dX4_copyFrom_79 rfl (lv_at hl 0 rfl) ?_
  refine lv_aload_n hx hb dX4_copyFrom_80 rfl (lv_at hl 1 rfl) ?_
  refine va_get (D := D) (ci := 4) (v := vI (tSpl O)) (C := RX4) (T := TX4) (N := 10) hx hb hts zin4 hown hK hP 6 rfl rfl 8 (by decide) (hts _ wm78) (fun _ h9 => h9) rfl dX4_copyFrom_81 ?_
  refine va_put (D := D) (ci := 4) (v := vI (tSpl O)) (ty := .int) (C := RX4) (T := TX4) (N := 10) hx hb hts zin4 tyX4 tyX4_ok nmX4 hown hK hP hD hS 0 rfl rfl 8 (by decide) (hts _ wm78) (fun _ h9 => h9) rfl (by decide +kernel) rfl rfl (Nat.le_of_ble_eq_true rfl) dX4_copyFrom_84 (fun H locs hP hD hS => ?_)
  replace hP : va_P D vwCl ((zTr cI h_T q_T (sSpl (sRei (sCap (sRoot (sLis (sCor (sSiz (sHol (sLev T T_1) T_4) T_7) T_10) T_13) (tRoot O)) (tCap O)) (tRei O)) (tSpl O))) ++ (zTr cI h_O q_O O)) H := hP
  replace hD : va_D A ((zTr cI h_T q_T (sSpl (sRei (sCap (sRoot (sLis (sCor (sSiz (sHol (sLev T T_1) T_4) T_7) T_10) T_13) (tRoot O)) (tCap O)) (tRei O)) (tSpl O))) ++ (zTr cI h_O q_O O)) := hD
  refine lv_aload_n hx hb dX4_copyFrom_87 rfl (lv_at hl 0 rfl) ?_
  refine lv_aload_n hx hb dX4_copyFrom_88 rfl (lv_at hl 1 rfl) ?_
  refine va_get (D := D) (ci := 4) (v := vI (tRec O)) (C := RX4) (T := TX4) (N := 10) hx hb hts zin4 hown hK hP 6 rfl rfl 9 (by decide) (hts _ wm81) (fun _ h9 => h9) rfl dX4_copyFrom_89 ?_
  refine va_put (D := D) (ci := 4) (v := vI (tRec O)) (ty := .int) (C := RX4) (T := TX4) (N := 10) hx hb hts zin4 tyX4 tyX4_ok nmX4 hown hK hP hD hS 0 rfl rfl 9 (by decide) (hts _ wm81) (fun _ h9 => h9) rfl (by decide +kernel) rfl rfl (Nat.le_of_ble_eq_true rfl) dX4_copyFrom_92 (fun H locs hP hD hS => ?_)
  replace hP : va_P D vwCl ((zTr cI h_T q_T (sRec (sSpl (sRei (sCap (sRoot (sLis (sCor (sSiz (sHol (sLev T T_1) T_4) T_7) T_10) T_13) (tRoot O)) (tCap O)) (tRei O)) (tSpl O)) (tRec O))) ++ (zTr cI h_O q_O O)) H := hP
  replace hD : va_D A ((zTr cI h_T q_T (sRec (sSpl (sRei (sCap (sRoot (sLis (sCor (sSiz (sHol (sLev T T_1) T_4) T_7) T_10) T_13) (tRoot O)) (tCap O)) (tRei O)) (tSpl O)) (tRec O))) ++ (zTr cI h_O q_O O)) := hD
  obtain rfl := Option.some.inj h
  exact z_vret hx hb hr hlk (fun _ _ => 0) hP hD hS dX4_copyFrom_95
def f_Tr_newNode (T : TV) (x1 : Int) : Option (Int × TV) :=
  bd1 (f_Tr_firstFree T 24 157) <| fun r_1 => gd (ck r_1) <| if r_1 = (-1) then (some (r_1, T)) else (bd1 (f_Tr_take T r_1 x1) <| fun T_6 => some (r_1, T_6))
abbrev rm_Tr_newNode : Room := ({ frames := 2, cells := 0, slots := 0, locals := 44 } : Room)
theorem mo_Tr_newNode (T : TV) (x1 : Int) (res : Int × TV) (h : f_Tr_newNode T x1 = some res) : (tR T) ≤ (tR (res.2)) := by
  unfold f_Tr_newNode at h
  obtain ⟨r_1, e_2, h⟩ := bd1_e h
  obtain ⟨g_4, h⟩ := gd_e h
  rcases it_e h with ⟨_, h⟩ | ⟨_, h⟩
  · obtain rfl := Option.some.inj h
    exact (show (tR T) ≤ (tR T) from by omega)
  · obtain ⟨T_6, e_7, h⟩ := bd1_e h
    have mo_9 : (tR T) ≤ (tR T_6) := mo_Tr_take T r_1 x1 (T_6) e_7
    obtain rfl := Option.some.inj h
    exact (show (tR T) ≤ (tR T_6) from by omega)
set_option maxHeartbeats 4000000 in
set_option maxRecDepth 100000 in
theorem c_Tr_newNode (l : Launch) (D : va_G) (cI cZ cT : ClassId) (h_T : Nat) (q_T : Nat → Nat) (T : TV) (x1 : Int) (sz : Nat) (res : Int × TV) (h : f_Tr_newNode T x1 = some res) : zMi l yX4_newNode cX4_newNode 3 rm_Tr_newNode D (zt cI cZ cT) [.ref h_T, vI x1] ((zTr cI h_T q_T T)) sz (res.1) (fun u => (zTr cI h_T q_T (res.2))) 0 0 := by
  refine z_enth (Qc := zQi D (res.1) (fun u => (zTr cI h_T q_T (res.2)))) (by decide) (Nat.le_of_ble_eq_true rfl) (fun p e s m args below meth c A ls H locs hF hP hD hS hl => ?_)
  have hx := hF.1.1
  have hb := hF.1.2.1
  have hml := hF.1.2.2.1
  have hown : s.vm.findClass "RectangleTree$Tree" = some m.cls := hF.1.2.2.2.1
  have hts := hF.1.2.2.2.2
  have hr := hF.2.1
  have hlk := hF.2.2.1
  have hK := hF.2.2.2.2.1
  have hN := hF.2.2.2.2.2.1
  have hA := hF.2.2.2.2.2.2
  unfold f_Tr_newNode at h
  refine lv_aload_n hx hb dX4_newNode_0 rfl (lv_at hl 0 rfl) ?_
  refine lv_bipush (v := Int32.ofInt 24) hx hb dX4_newNode_1 (by decide +kernel) ?_
  refine lv_sipush (v := Int32.ofInt 157) hx hb dX4_newNode_3 (by decide +kernel) ?_
  obtain ⟨r_1, e_2, h⟩ := bd1_e h
  refine z_goi (ws' := []) (ret := r_1) (wc := (zTr cI (h_T) (q_T) (T))) (wn := fun u_3 => (zTr cI h_T q_T T)) (wr := []) (va_runV (As := [vI 24, vI 157]) (rest := []) hF.1 (c_Tr_firstFree l D cI cZ cT h_T q_T T 24 157 H.size (r_1) e_2) (cwV 2 hts (zgV wm484 wm486 wm5 wm33 wm487) rfl rfl rfl (by decide +kernel) ⟨Nat.le_of_ble_eq_true rfl, Nat.le_of_ble_eq_true rfl⟩) ⟨zP.blind, va_recv hK (z_subP (ws' := (zTr cI (h_T) (q_T) (T))) hP [0, 1, 2, 3, 4, 5] rfl) (ci := 4) (q0 := 0) rfl rfl, zP.enter (z_subP (ws' := (zTr cI (h_T) (q_T) (T))) hP [0, 1, 2, 3, 4, 5] rfl) hK (hD.sub [0, 1, 2, 3, 4, 5] (by decide) rfl) hN⟩ rfl rfl hl.1 rfl (lv_room (Nat.le_of_ble_eq_true rfl)) dX4_newNode_6 ⟨Nat.le_refl _, Nat.le_refl _⟩) hP hD hS hA [0, 1, 2, 3, 4, 5] [] [0, 1, 2, 3, 4, 5] rfl rfl (by decide) (fun _ => rfl) (fun u_3 H locs hP hD hS hz => ?_)
  refine lv_istore_n (lv' := [(2, vI r_1), (0, .ref h_T), (1, vI x1)]) hx hb dX4_newNode_9 rfl hl (by decide) rfl (fun ls hl => ?_)
  refine lv_iload_n hx hb dX4_newNode_10 rfl (lv_at hl 0 rfl) ?_
  refine lv_iconst (v := Int32.ofInt (-1)) hx hb dX4_newNode_11 rfl ?_
  obtain ⟨g_4, h⟩ := gd_e h
  refine z_icmp_eq (tgt := 21) hx hb g_4 (by decide) dX4_newNode_12 (by decide) (fun b_5 => ?_) (fun b_5 => ?_)
  · have h := it_p b_5 h
    refine lv_iload_n hx hb dX4_newNode_21 rfl (lv_at hl 0 rfl) ?_
    obtain rfl := Option.some.inj h
    exact z_iret hx hb hr hlk (fun _ _ => 0) hP hD hS dX4_newNode_22
  · have h := it_n b_5 h
    refine lv_aload_n hx hb dX4_newNode_15 rfl (lv_at hl 1 rfl) ?_
    refine lv_iload_n hx hb dX4_newNode_16 rfl (lv_at hl 0 rfl) ?_
    refine lv_iload_n hx hb dX4_newNode_17 rfl (lv_at hl 2 rfl) ?_
    obtain ⟨T_6, e_7, h⟩ := bd1_e h
    have mo_9 : (tR T) ≤ (tR T_6) := mo_Tr_take T r_1 x1 (T_6) e_7
    refine z_gov (wc := (zTr cI (h_T) (q_T) (T))) (wn := fun u_8 => (zTr cI h_T q_T T_6)) (wr := []) (va_runV (As := [vI r_1, vI x1]) (rest := []) hF.1 (c_Tr_take l D cI cZ cT h_T q_T T r_1 x1 H.size (T_6) e_7) (cwV 2 hts (zgV wm488 wm490 wm6 wm33 wm491) rfl rfl rfl (by decide +kernel) ⟨Nat.le_of_ble_eq_true rfl, Nat.le_of_ble_eq_true rfl⟩) ⟨zP.blind, va_recv hK (z_subP (ws' := (zTr cI (h_T) (q_T) (T))) hP [0, 1, 2, 3, 4, 5] rfl) (ci := 4) (q0 := 0) rfl rfl, zP.enter (z_subP (ws' := (zTr cI (h_T) (q_T) (T))) hP [0, 1, 2, 3, 4, 5] rfl) hK (hD.sub [0, 1, 2, 3, 4, 5] (by decide) rfl) hN⟩ rfl rfl hl.1 rfl (lv_room (Nat.le_of_ble_eq_true rfl)) dX4_newNode_18 ⟨Nat.le_refl _, Nat.le_refl _⟩) hP hD hS hA [0, 1, 2, 3, 4, 5] [] [0, 1, 2, 3, 4, 5] rfl rfl (by decide) (fun _ => rfl) (fun u_8 H locs hP hD hS hz => ?_)
    refine lv_iload_n hx hb dX4_newNode_21 rfl (lv_at hl 0 rfl) ?_
    obtain rfl := Option.some.inj h
    exact z_iret hx hb hr hlk (fun _ _ => 0) hP hD hS dX4_newNode_22
def f_Tr_raiseRoot (T : TV) : Option (Int × TV) :=
  bd1 (f_Tr_levelOf T (tRoot T)) <| fun r_1 => bd2 (f_Tr_newNode T (r_1 + 1)) <| fun r_4 T_5 => gd (ck r_4) <| if r_4 = (-1) then (some (r_4, T_5)) else (bd1 (f_Tr_addAt (sRoot T_5 r_4) r_4 0 (tRoot T)) <| fun T_11 => some (r_4, T_11))
abbrev rm_Tr_raiseRoot : Room := ({ frames := 3, cells := 0, slots := 0, locals := 82 } : Room)
theorem mo_Tr_raiseRoot (T : TV) (res : Int × TV) (h : f_Tr_raiseRoot T = some res) : (tR T) ≤ (tR (res.2)) := by
  unfold f_Tr_raiseRoot at h
  obtain ⟨r_1, e_2, h⟩ := bd1_e h
  obtain ⟨r_4, T_5, e_6, h⟩ := bd2_e h
  have mo_8 : (tR T) ≤ (tR T_5) := mo_Tr_newNode T (r_1 + 1) (r_4, T_5) e_6
  obtain ⟨g_9, h⟩ := gd_e h
  rcases it_e h with ⟨_, h⟩ | ⟨_, h⟩
  · obtain rfl := Option.some.inj h
    exact (show (tR T) ≤ (tR T_5) from by omega)
  · obtain ⟨T_11, e_12, h⟩ := bd1_e h
    have mo_14 : (tR T_5) ≤ (tR T_11) := mo_Tr_addAt (sRoot T_5 r_4) r_4 0 (tRoot T) (T_11) e_12
    obtain rfl := Option.some.inj h
    exact (show (tR T) ≤ (tR T_11) from by omega)
set_option maxHeartbeats 4000000 in
set_option maxRecDepth 100000 in
theorem c_Tr_raiseRoot (l : Launch) (D : va_G) (cI cZ cT : ClassId) (h_T : Nat) (q_T : Nat → Nat) (T : TV) (sz : Nat) (res : Int × TV) (h : f_Tr_raiseRoot T = some res) : zMi l yX4_raiseRoot cX4_raiseRoot 3 rm_Tr_raiseRoot D (zt cI cZ cT) [.ref h_T] ((zTr cI h_T q_T T)) sz (res.1) (fun u => (zTr cI h_T q_T (res.2))) 0 0 := by
  refine z_enth (Qc := zQi D (res.1) (fun u => (zTr cI h_T q_T (res.2)))) (by decide) (Nat.le_of_ble_eq_true rfl) (fun p e s m args below meth c A ls H locs hF hP hD hS hl => ?_)
  have hx := hF.1.1
  have hb := hF.1.2.1
  have hml := hF.1.2.2.1
  have hown : s.vm.findClass "RectangleTree$Tree" = some m.cls := hF.1.2.2.2.1
  have hts := hF.1.2.2.2.2
  have hr := hF.2.1
  have hlk := hF.2.2.1
  have hK := hF.2.2.2.2.1
  have hN := hF.2.2.2.2.2.1
  have hA := hF.2.2.2.2.2.2
  unfold f_Tr_raiseRoot at h
  refine lv_aload_n hx hb dX4_raiseRoot_0 rfl (lv_at hl 0 rfl) ?_
  refine va_get (D := D) (ci := 4) (v := vI (tRoot T)) (C := RX4) (T := TX4) (N := 10) hx hb hts zin4 hown hK hP 0 rfl rfl 5 (by decide) (hts _ wm67) (fun _ h9 => h9) rfl dX4_raiseRoot_1 ?_
  refine lv_istore_n (lv' := [(1, vI (tRoot T)), (0, .ref h_T)]) hx hb dX4_raiseRoot_4 rfl hl (by decide) rfl (fun ls hl => ?_)
  refine lv_aload_n hx hb dX4_raiseRoot_5 rfl (lv_at hl 1 rfl) ?_
  refine lv_aload_n hx hb dX4_raiseRoot_6 rfl (lv_at hl 1 rfl) ?_
  refine lv_iload_n hx hb dX4_raiseRoot_7 rfl (lv_at hl 0 rfl) ?_
  obtain ⟨r_1, e_2, h⟩ := bd1_e h
  refine z_goi (ws' := []) (ret := r_1) (wc := (zTr cI (h_T) (q_T) (T))) (wn := fun u_3 => (zTr cI h_T q_T T)) (wr := []) (va_runV (As := [vI (tRoot T)]) (rest := [.ref h_T]) hF.1 (c_Tr_levelOf l D cI cZ cT h_T q_T T (tRoot T) H.size (r_1) e_2) (cwV 1 hts (zgV wm347 wm301 wm302 wm33 wm303) rfl rfl rfl (by decide +kernel) ⟨Nat.le_of_ble_eq_true rfl, Nat.le_of_ble_eq_true rfl⟩) ⟨zP.blind, va_recv hK (z_subP (ws' := (zTr cI (h_T) (q_T) (T))) hP [0, 1, 2, 3, 4, 5] rfl) (ci := 4) (q0 := 0) rfl rfl, zP.enter (z_subP (ws' := (zTr cI (h_T) (q_T) (T))) hP [0, 1, 2, 3, 4, 5] rfl) hK (hD.sub [0, 1, 2, 3, 4, 5] (by decide) rfl) hN⟩ rfl rfl hl.1 rfl (lv_room (Nat.le_of_ble_eq_true rfl)) dX4_raiseRoot_8 ⟨Nat.le_refl _, Nat.le_refl _⟩) hP hD hS hA [0, 1, 2, 3, 4, 5] [] [0, 1, 2, 3, 4, 5] rfl rfl (by decide) (fun _ => rfl) (fun u_3 H locs hP hD hS hz => ?_)
  refine lv_iconst (v := Int32.ofInt 1) hx hb dX4_raiseRoot_11 rfl ?_
  refine z_iadd hx hb dX4_raiseRoot_12 ?_
  obtain ⟨r_4, T_5, e_6, h⟩ := bd2_e h
  have mo_8 : (tR T) ≤ (tR T_5) := mo_Tr_newNode T (r_1 + 1) (r_4, T_5) e_6
  refine z_goi (ws' := []) (ret := r_4) (wc := (zTr cI (h_T) (q_T) (T))) (wn := fun u_7 => (zTr cI h_T q_T T_5)) (wr := []) (va_runV (As := [vI (r_1 + 1)]) (rest := []) hF.1 (c_Tr_newNode l D cI cZ cT h_T q_T T (r_1 + 1) H.size (r_4, T_5) e_6) (cwV 1 hts (zgV wm568 wm569 wm570 wm33 wm571) rfl rfl rfl (by decide +kernel) ⟨Nat.le_of_ble_eq_true rfl, Nat.le_of_ble_eq_true rfl⟩) ⟨zP.blind, va_recv hK (z_subP (ws' := (zTr cI (h_T) (q_T) (T))) hP [0, 1, 2, 3, 4, 5] rfl) (ci := 4) (q0 := 0) rfl rfl, zP.enter (z_subP (ws' := (zTr cI (h_T) (q_T) (T))) hP [0, 1, 2, 3, 4, 5] rfl) hK (hD.sub [0, 1, 2, 3, 4, 5] (by decide) rfl) hN⟩ rfl rfl hl.1 rfl (lv_room (Nat.le_of_ble_eq_true rfl)) dX4_raiseRoot_13 ⟨Nat.le_refl _, Nat.le_refl _⟩) hP hD hS hA [0, 1, 2, 3, 4, 5] [] [0, 1, 2, 3, 4, 5] rfl rfl (by decide) (fun _ => rfl) (fun u_7 H locs hP hD hS hz => ?_)
  refine lv_istore_n (lv' := [(2, vI r_4), (1, vI (tRoot T)), (0, .ref h_T)]) hx hb dX4_raiseRoot_16 rfl hl (by decide) rfl (fun ls hl => ?_)
  refine lv_iload_n hx hb dX4_raiseRoot_17 rfl (lv_at hl 0 rfl) ?_
  refine lv_iconst (v := Int32.ofInt (-1)) hx hb dX4_raiseRoot_18 rfl ?_
  obtain ⟨g_9, h⟩ := gd_e h
  refine z_icmp_eq (tgt := 34) hx hb g_9 (by decide) dX4_raiseRoot_19 (by decide) (fun b_10 => ?_) (fun b_10 => ?_)
  · have h := it_p b_10 h
    refine lv_iload_n hx hb dX4_raiseRoot_34 rfl (lv_at hl 0 rfl) ?_
    obtain rfl := Option.some.inj h
    exact z_iret hx hb hr hlk (fun _ _ => 0) hP hD hS dX4_raiseRoot_35
  · have h := it_n b_10 h
    refine lv_aload_n hx hb dX4_raiseRoot_22 rfl (lv_at hl 2 rfl) ?_
    refine lv_iload_n hx hb dX4_raiseRoot_23 rfl (lv_at hl 0 rfl) ?_
    refine va_put (D := D) (ci := 4) (v := vI r_4) (ty := .int) (C := RX4) (T := TX4) (N := 10) hx hb hts zin4 tyX4 tyX4_ok nmX4 hown hK hP hD hS 0 rfl rfl 5 (by decide) (hts _ wm67) (fun _ h9 => h9) rfl (by decide +kernel) rfl rfl (Nat.le_of_ble_eq_true rfl) dX4_raiseRoot_24 (fun H locs hP hD hS => ?_)
    replace hP : va_P D vwCl ((zTr cI h_T q_T (sRoot T_5 r_4))) H := hP
    replace hD : va_D A ((zTr cI h_T q_T (sRoot T_5 r_4))) := hD
    refine lv_aload_n hx hb dX4_raiseRoot_27 rfl (lv_at hl 2 rfl) ?_
    refine lv_iload_n hx hb dX4_raiseRoot_28 rfl (lv_at hl 0 rfl) ?_
    refine lv_iconst (v := Int32.ofInt 0) hx hb dX4_raiseRoot_29 rfl ?_
    refine lv_iload_n hx hb dX4_raiseRoot_30 rfl (lv_at hl 1 rfl) ?_
    obtain ⟨T_11, e_12, h⟩ := bd1_e h
    have mo_14 : (tR T_5) ≤ (tR T_11) := mo_Tr_addAt (sRoot T_5 r_4) r_4 0 (tRoot T) (T_11) e_12
    refine z_gov (wc := (zTr cI (h_T) (q_T) ((sRoot T_5 r_4)))) (wn := fun u_13 => (zTr cI h_T q_T T_11)) (wr := []) (va_runV (As := [vI r_4, vI 0, vI (tRoot T)]) (rest := []) hF.1 (c_Tr_addAt l D cI cZ cT h_T q_T (sRoot T_5 r_4) r_4 0 (tRoot T) H.size (T_11) e_12) (cwV 3 hts (zgV wm572 wm518 wm519 wm33 wm520) rfl rfl rfl (by decide +kernel) ⟨Nat.le_of_ble_eq_true rfl, Nat.le_of_ble_eq_true rfl⟩) ⟨zP.blind, va_recv hK (z_subP (ws' := (zTr cI (h_T) (q_T) ((sRoot T_5 r_4)))) hP [0, 1, 2, 3, 4, 5] rfl) (ci := 4) (q0 := 0) rfl rfl, zP.enter (z_subP (ws' := (zTr cI (h_T) (q_T) ((sRoot T_5 r_4)))) hP [0, 1, 2, 3, 4, 5] rfl) hK (hD.sub [0, 1, 2, 3, 4, 5] (by decide) rfl) hN⟩ rfl rfl hl.1 rfl (lv_room (Nat.le_of_ble_eq_true rfl)) dX4_raiseRoot_31 ⟨Nat.le_refl _, Nat.le_refl _⟩) hP hD hS hA [0, 1, 2, 3, 4, 5] [] [0, 1, 2, 3, 4, 5] rfl rfl (by decide) (fun _ => rfl) (fun u_13 H locs hP hD hS hz => ?_)
    refine lv_iload_n hx hb dX4_raiseRoot_34 rfl (lv_at hl 0 rfl) ?_
    obtain rfl := Option.some.inj h
    exact z_iret hx hb hr hlk (fun _ _ => 0) hP hD hS dX4_raiseRoot_35
def f_Wk_gather_L95 (O : TV) (x6 : Int) (k : Int → Int → KV → Option (KV)) : Nat → Int → Int → KV → Option (KV)
  | 0, _, _, _ => none
  | n + 1, x4, x7, K =>
  gd (ck x7) <| if x7 < 0 then (k (x4) (x7) (K)) else (bd1 (f_Tr_entryAt O x6 x7) <| fun r_20 => bd1 (f_Rt_put (kLen K) (kPen K) x4 r_20) <| fun K_23 => f_Wk_gather_L95 O x6 k n ((x4 + 1)) ((x7 + (-1))) ((skPen K K_23)))
def f_Wk_gather_L20 (O : TV) (x3 : Int) (k : Int → Int → KV → Option (KV)) : Nat → Int → Int → KV → Option (KV)
  | 0, _, _, _ => none
  | n + 1, x4, x5, K =>
  gd (ck x4) <| if 0 < x4 then (gd (ck x5) <| if x5 < 1000000 then (bd1 (f_Rt_at (kLen K) (kPen K) (x4 + (-1))) <| fun r_8 => gd (ck r_8) <| if r_8 < 24 then (gd (ck x3) <| if 0 = x3 then (bd1 (f_Rt_put (kLen K) (kItm K) (kCnt K) r_8) <| fun K_29 => bd1 (f_Tr_sizeOf O r_8) <| fun r_32 => f_Wk_gather_L95 (O) (r_8) (fun x4_35 x7_36 K_37 => f_Wk_gather_L20 O x3 k n (x4_35) ((x5 + 1)) (K_37)) FU ((x4 + (-1))) ((r_32 - 1)) ((skCnt (skItm K K_29) ((kCnt K) + 1)))) else (bd1 (f_Tr_sizeOf O r_8) <| fun r_15 => f_Wk_gather_L95 (O) (r_8) (fun x4_26 x7_27 K_28 => f_Wk_gather_L20 O x3 k n (x4_26) ((x5 + 1)) (K_28)) FU ((x4 + (-1))) ((r_15 - 1)) (K))) else (gd (ck x3) <| if 1 = x3 then (bd1 (f_Rt_put (kLen K) (kItm K) (kCnt K) r_8) <| fun K_46 => bd1 (f_Tr_sizeOf O r_8) <| fun r_49 => f_Wk_gather_L95 (O) (r_8) (fun x4_52 x7_53 K_54 => f_Wk_gather_L20 O x3 k n (x4_52) ((x5 + 1)) (K_54)) FU ((x4 + (-1))) ((r_49 - 1)) ((skCnt (skItm K K_46) ((kCnt K) + 1)))) else (bd1 (f_Tr_sizeOf O r_8) <| fun r_40 => f_Wk_gather_L95 (O) (r_8) (fun x4_43 x7_44 K_45 => f_Wk_gather_L20 O x3 k n (x4_43) ((x5 + 1)) (K_45)) FU ((x4 + (-1))) ((r_40 - 1)) (K)))) else (k (x4) (x5) (K))) else (k (x4) (x5) (K))
def f_Wk_gather (K : KV) (O : TV) (x2 : Int) (x3 : Int) : Option (KV) :=
  bd1 (f_Rt_put (kLen K) (kPen K) 0 x2) <| fun K_1 => f_Wk_gather_L20 (O) (x3) (fun x4_55 x5_56 K_57 => some (K_57)) FU (1) (0) ((skCnt (skPen K K_1) 0))
abbrev rm_Wk_gather : Room := ({ frames := 2, cells := 0, slots := 0, locals := 43 } : Room)
theorem mo_Wk_gather_L95 (O : TV) (x6 : Int) (res : KV) (k : Int → Int → KV → Option (KV)) (hkm : ∀ (x4 : Int) (x7 : Int) (K : KV) , k x4 x7 K = some res → (kLen K) ≤ (kLen (res))) : ∀ (n : Nat) (x4 : Int) (x7 : Int) (K : KV) , f_Wk_gather_L95 O x6 k n x4 x7 K = some res → (kLen K) ≤ (kLen (res)) := by
  intro n
  induction n with
  | zero => intro x4 x7 K h; cases h
  | succ n ihm =>
    intro x4 x7 K h
    rw [f_Wk_gather_L95] at h
    obtain ⟨g_18, h⟩ := gd_e h
    rcases it_e h with ⟨_, h⟩ | ⟨_, h⟩
    · have mo9 : (kLen K) ≤ (kLen (res)) := hkm (x4) (x7) (K) h
      exact (show (kLen K) ≤ (kLen (res)) from by omega)
    · obtain ⟨r_20, e_21, h⟩ := bd1_e h
      obtain ⟨K_23, e_24, h⟩ := bd1_e h
      have mo9 : (kLen K) ≤ (kLen (res)) := ihm ((x4 + 1)) ((x7 + (-1))) ((skPen K K_23)) h
      exact (show (kLen K) ≤ (kLen (res)) from by omega)
theorem mo_Wk_gather_L20 (O : TV) (x3 : Int) (res : KV) (k : Int → Int → KV → Option (KV)) (hkm : ∀ (x4 : Int) (x5 : Int) (K : KV) , k x4 x5 K = some res → (kLen K) ≤ (kLen (res))) : ∀ (n : Nat) (x4 : Int) (x5 : Int) (K : KV) , f_Wk_gather_L20 O x3 k n x4 x5 K = some res → (kLen K) ≤ (kLen (res)) := by
  intro n
  induction n with
  | zero => intro x4 x5 K h; cases h
  | succ n ihm =>
    intro x4 x5 K h
    rw [f_Wk_gather_L20] at h
    obtain ⟨g_4, h⟩ := gd_e h
    rcases it_e h with ⟨_, h⟩ | ⟨_, h⟩
    · obtain ⟨g_6, h⟩ := gd_e h
      rcases it_e h with ⟨_, h⟩ | ⟨_, h⟩
      · obtain ⟨r_8, e_9, h⟩ := bd1_e h
        obtain ⟨g_11, h⟩ := gd_e h
        rcases it_e h with ⟨_, h⟩ | ⟨_, h⟩
        · obtain ⟨g_13, h⟩ := gd_e h
          rcases it_e h with ⟨_, h⟩ | ⟨_, h⟩
          · obtain ⟨K_29, e_30, h⟩ := bd1_e h
            obtain ⟨r_32, e_33, h⟩ := bd1_e h
            have mo9 : (kLen K) ≤ (kLen (res)) := mo_Wk_gather_L95 (O) (r_8) _ _ (fun x4_35 x7_36 K_37 h => by
                have mo9 : (kLen K_37) ≤ (kLen (res)) := ihm (x4_35) ((x5 + 1)) (K_37) h
                exact (show (kLen K_37) ≤ (kLen (res)) from by omega)) _ ((x4 + (-1))) ((r_32 - 1)) ((skCnt (skItm K K_29) ((kCnt K) + 1))) h
            exact (show (kLen K) ≤ (kLen (res)) from by omega)
          · obtain ⟨r_15, e_16, h⟩ := bd1_e h
            have mo9 : (kLen K) ≤ (kLen (res)) := mo_Wk_gather_L95 (O) (r_8) _ _ (fun x4_26 x7_27 K_28 h => by
                have mo9 : (kLen K_28) ≤ (kLen (res)) := ihm (x4_26) ((x5 + 1)) (K_28) h
                exact (show (kLen K_28) ≤ (kLen (res)) from by omega)) _ ((x4 + (-1))) ((r_15 - 1)) (K) h
            exact (show (kLen K) ≤ (kLen (res)) from by omega)
        · obtain ⟨g_38, h⟩ := gd_e h
          rcases it_e h with ⟨_, h⟩ | ⟨_, h⟩
          · obtain ⟨K_46, e_47, h⟩ := bd1_e h
            obtain ⟨r_49, e_50, h⟩ := bd1_e h
            have mo9 : (kLen K) ≤ (kLen (res)) := mo_Wk_gather_L95 (O) (r_8) _ _ (fun x4_52 x7_53 K_54 h => by
                have mo9 : (kLen K_54) ≤ (kLen (res)) := ihm (x4_52) ((x5 + 1)) (K_54) h
                exact (show (kLen K_54) ≤ (kLen (res)) from by omega)) _ ((x4 + (-1))) ((r_49 - 1)) ((skCnt (skItm K K_46) ((kCnt K) + 1))) h
            exact (show (kLen K) ≤ (kLen (res)) from by omega)
          · obtain ⟨r_40, e_41, h⟩ := bd1_e h
            have mo9 : (kLen K) ≤ (kLen (res)) := mo_Wk_gather_L95 (O) (r_8) _ _ (fun x4_43 x7_44 K_45 h => by
                have mo9 : (kLen K_45) ≤ (kLen (res)) := ihm (x4_43) ((x5 + 1)) (K_45) h
                exact (show (kLen K_45) ≤ (kLen (res)) from by omega)) _ ((x4 + (-1))) ((r_40 - 1)) (K) h
            exact (show (kLen K) ≤ (kLen (res)) from by omega)
      · have mo9 : (kLen K) ≤ (kLen (res)) := hkm (x4) (x5) (K) h
        exact (show (kLen K) ≤ (kLen (res)) from by omega)
    · have mo9 : (kLen K) ≤ (kLen (res)) := hkm (x4) (x5) (K) h
      exact (show (kLen K) ≤ (kLen (res)) from by omega)
theorem mo_Wk_gather (K : KV) (O : TV) (x2 : Int) (x3 : Int) (res : KV) (h : f_Wk_gather K O x2 x3 = some res) : (kLen K) ≤ (kLen (res)) := by
  unfold f_Wk_gather at h
  obtain ⟨K_1, e_2, h⟩ := bd1_e h
  have mo9 : (kLen K) ≤ (kLen (res)) := mo_Wk_gather_L20 (O) (x3) _ _ (fun x4_55 x5_56 K_57 h => by
      obtain rfl := Option.some.inj h
      exact (show (kLen K_57) ≤ (kLen K_57) from by omega)) _ (1) (0) ((skCnt (skPen K K_1) 0)) h
  exact (show (kLen K) ≤ (kLen (res)) from by omega)
set_option maxHeartbeats 4000000 in
set_option maxRecDepth 100000 in
theorem w_Wk_gather_L95 {p : Program} {l : Launch} {e : Env} {s : State} {m : MethodId} {args : Array Value} {below : List Frame} {meth : Method} {c : Code} {A : Nat → Prop} (D : va_G) (cI cZ cT : ClassId) (h_K : Nat) (q_K : Nat → Nat) (h_O : Nat) (q_O : Nat → Nat) (O : TV) (x3 : Int) (x5 : Int) (x6 : Int) (res : KV) (k : Int → Int → KV → Option (KV)) (hF : zF p m c cX5_gather 8 s args yX5_gather.cls meth none yX5_gather.name A D (zt cI cZ cT))
    (hk : ∀ (x4 : Int) (x7 : Int) (K : KV) (H : Heap) (locs : List Loc) (ls : Array Slot), k x4 x7 K = some res → va_P D vwCl ((zWk cI h_K q_K K) ++ (zTr cI h_O q_O O)) H → va_D A ((zWk cI h_K q_K K) ++ (zTr cI h_O q_O O)) → va_S A s.heap H locs → lv_has ls 8 [(0, .ref h_K), (1, .ref h_O), (3, vI x3), (4, vI x4), (5, vI x5)] → W p l e rm_Wk_gather s m args below meth c H locs 0 0 (MQ below (zQv D (fun u => (zWk cI h_K q_K (res)) ++ (zTr cI h_O q_O O)) A) args s 0 0 A) (F0 m 126 ls [])) :
    ∀ (n : Nat) (x4 : Int) (x7 : Int) (K : KV) (H : Heap) (locs : List Loc) (ls : Array Slot), f_Wk_gather_L95 O x6 k n x4 x7 K = some res → va_P D vwCl ((zWk cI h_K q_K K) ++ (zTr cI h_O q_O O)) H → va_D A ((zWk cI h_K q_K K) ++ (zTr cI h_O q_O O)) → va_S A s.heap H locs → lv_has ls 8 [(0, .ref h_K), (1, .ref h_O), (3, vI x3), (4, vI x4), (5, vI x5), (6, vI x6), (7, vI x7)] → W p l e rm_Wk_gather s m args below meth c H locs 0 0 (MQ below (zQv D (fun u => (zWk cI h_K q_K (res)) ++ (zTr cI h_O q_O O)) A) args s 0 0 A) (F0 m 95 ls []) := by
  have hx := hF.1.1
  have hb := hF.1.2.1
  have hml := hF.1.2.2.1
  have hown : s.vm.findClass "RectangleTree$Walk" = some m.cls := hF.1.2.2.2.1
  have hts := hF.1.2.2.2.2
  have hr := hF.2.1
  have hlk := hF.2.2.1
  have hK := hF.2.2.2.2.1
  have hN := hF.2.2.2.2.2.1
  have hA := hF.2.2.2.2.2.2
  intro n
  induction n with
  | zero => intro x4 x7 K  H locs ls h; cases h
  | succ n ih =>
    intro x4 x7 K  H locs ls h  hP hD hS hl
    rw [f_Wk_gather_L95] at h
    refine lv_iload hx hb dX5_gather_95 (lv_at hl 6 rfl) ?_
    obtain ⟨g_18, h⟩ := gd_e h
    refine z_if_lt (tgt := 126) hx hb g_18 dX5_gather_97 (by decide) (fun b_19 => ?_) (fun b_19 => ?_)
    · have h := it_p b_19 h
      exact hk (x4) (x7) (K) H locs ls h hP hD hS (lv_sub hl [0, 1, 2, 3, 4] rfl)
    · have h := it_n b_19 h
      refine lv_aload_n hx hb dX5_gather_100 rfl (lv_at hl 0 rfl) ?_
      refine va_get (D := D) (ci := 5) (v := .ref (q_K 1)) (C := RX5) (T := TX5) (N := 3) hx hb hts zin5 hown hK hP 0 rfl rfl 2 (by decide) (hts _ wm124) (fun _ h9 => h9) rfl dX5_gather_101 ?_
      refine lv_iload hx hb dX5_gather_104 (lv_at hl 3 rfl) ?_
      refine lv_aload_n hx hb dX5_gather_106 rfl (lv_at hl 1 rfl) ?_
      refine lv_iload hx hb dX5_gather_107 (lv_at hl 5 rfl) ?_
      refine lv_iload hx hb dX5_gather_109 (lv_at hl 6 rfl) ?_
      obtain ⟨r_20, e_21, h⟩ := bd1_e h
      refine z_goi (ws' := []) (ret := r_20) (wc := (zTr cI (h_O) (q_O) (O))) (wn := fun u_22 => (zWk cI h_K q_K K) ++ (zTr cI h_O q_O O)) (wr := ([0, 1, 2].filterMap (fun i => ((zWk cI h_K q_K K) ++ (zTr cI h_O q_O O))[i]?))) (va_runV (As := [vI x6, vI x7]) (rest := [vI x4, .ref (q_K 1)]) hF.1 (c_Tr_entryAt l D cI cZ cT h_O q_O O x6 x7 H.size (r_20) e_21) (cwV 2 hts (zgV wm234 wm235 wm236 wm33 wm237) rfl rfl rfl (by decide +kernel) ⟨Nat.le_of_ble_eq_true rfl, Nat.le_of_ble_eq_true rfl⟩) ⟨zP.blind, va_recv hK (z_subP (ws' := (zTr cI (h_O) (q_O) (O))) hP [3, 4, 5, 6, 7, 8] rfl) (ci := 4) (q0 := 0) rfl rfl, zP.enter (z_subP (ws' := (zTr cI (h_O) (q_O) (O))) hP [3, 4, 5, 6, 7, 8] rfl) hK (hD.sub [3, 4, 5, 6, 7, 8] (by decide) rfl) hN⟩ rfl rfl hl.1 rfl (lv_room (Nat.le_of_ble_eq_true rfl)) dX5_gather_111 ⟨Nat.le_refl _, Nat.le_refl _⟩) hP hD hS hA [3, 4, 5, 6, 7, 8] [0, 1, 2] [0, 1, 2, 3, 4, 5, 6, 7, 8] rfl rfl (by decide) (fun _ => rfl) (fun u_22 H locs hP hD hS hz => ?_)
      obtain ⟨K_23, e_24, h⟩ := bd1_e h
      refine z_gov (wc := (zAr cI ((q_K 1)) ((kLen K)) ((kPen K)))) (wn := fun u_25 => (zWk cI h_K q_K (skPen K K_23)) ++ (zTr cI h_O q_O O)) (wr := ([0, 1, 3, 4, 5, 6, 7, 8].filterMap (fun i => ((zWk cI h_K q_K K) ++ (zTr cI h_O q_O O))[i]?))) (va_runSN (As := [.ref (q_K 1), vI x4, vI r_20]) (rest := []) hF.1 (c_Rt_put l D cI cZ cT (q_K 1) (kLen K) (kPen K) x4 r_20 H.size (K_23) e_24) ⟨va_cnB 3 hts (zW_good wm61) rfl rfl rfl (hN.at 4 rfl) (hts _ wm32) (by decide +kernel) ⟨Nat.le_of_ble_eq_true rfl, Nat.le_of_ble_eq_true rfl⟩, hts _ wm60, trivial⟩ ⟨zP.blind, zP.enter (z_subP (ws' := (zAr cI ((q_K 1)) ((kLen K)) ((kPen K)))) hP [2] rfl) hK (hD.sub [2] (by decide) rfl) hN⟩ rfl rfl hl.1 rfl (lv_room (Nat.le_of_ble_eq_true rfl)) dX5_gather_114 ⟨Nat.le_refl _, Nat.le_refl _⟩) hP hD hS hA [2] [0, 1, 3, 4, 5, 6, 7, 8] [0, 1, 8, 2, 3, 4, 5, 6, 7] rfl rfl (by decide) (fun _ => rfl) (fun u_25 H locs hP hD hS hz => ?_)
      refine lv_iinc (v := Int32.ofInt (x4 + 1)) (lv' := [(4, vI (x4 + 1)), (0, .ref h_K), (1, .ref h_O), (3, vI x3), (5, vI x5), (6, vI x6), (7, vI x7)]) hx hb dX5_gather_117 hl (k := 3) rfl (z_inc _ _) (by decide) rfl (fun ls hl => ?_)
      refine lv_iinc (v := Int32.ofInt (x7 + (-1))) (lv' := [(7, vI (x7 + (-1))), (4, vI (x4 + 1)), (0, .ref h_K), (1, .ref h_O), (3, vI x3), (5, vI x5), (6, vI x6)]) hx hb dX5_gather_120 hl (k := 6) rfl (z_inc _ _) (by decide) rfl (fun ls hl => ?_)
      refine lv_goto (tgt := 95) hx hb dX5_gather_123 (by decide) ?_
      exact ih ((x4 + 1)) ((x7 + (-1))) ((skPen K K_23)) H locs ls h hP hD hS (lv_sub hl [2, 3, 4, 1, 5, 6, 0] rfl)
set_option maxHeartbeats 4000000 in
set_option maxRecDepth 100000 in
theorem w_Wk_gather_L20 {p : Program} {l : Launch} {e : Env} {s : State} {m : MethodId} {args : Array Value} {below : List Frame} {meth : Method} {c : Code} {A : Nat → Prop} (D : va_G) (cI cZ cT : ClassId) (h_K : Nat) (q_K : Nat → Nat) (h_O : Nat) (q_O : Nat → Nat) (O : TV) (x3 : Int) (res : KV) (k : Int → Int → KV → Option (KV)) (hF : zF p m c cX5_gather 8 s args yX5_gather.cls meth none yX5_gather.name A D (zt cI cZ cT))
    (hk : ∀ (x4 : Int) (x5 : Int) (K : KV) (H : Heap) (locs : List Loc) (ls : Array Slot), k x4 x5 K = some res → va_P D vwCl ((zWk cI h_K q_K K) ++ (zTr cI h_O q_O O)) H → va_D A ((zWk cI h_K q_K K) ++ (zTr cI h_O q_O O)) → va_S A s.heap H locs → lv_has ls 8 [] → W p l e rm_Wk_gather s m args below meth c H locs 0 0 (MQ below (zQv D (fun u => (zWk cI h_K q_K (res)) ++ (zTr cI h_O q_O O)) A) args s 0 0 A) (F0 m 132 ls [])) :
    ∀ (n : Nat) (x4 : Int) (x5 : Int) (K : KV) (H : Heap) (locs : List Loc) (ls : Array Slot), f_Wk_gather_L20 O x3 k n x4 x5 K = some res → va_P D vwCl ((zWk cI h_K q_K K) ++ (zTr cI h_O q_O O)) H → va_D A ((zWk cI h_K q_K K) ++ (zTr cI h_O q_O O)) → va_S A s.heap H locs → lv_has ls 8 [(0, .ref h_K), (1, .ref h_O), (3, vI x3), (4, vI x4), (5, vI x5)] → W p l e rm_Wk_gather s m args below meth c H locs 0 0 (MQ below (zQv D (fun u => (zWk cI h_K q_K (res)) ++ (zTr cI h_O q_O O)) A) args s 0 0 A) (F0 m 20 ls []) := by
  have hx := hF.1.1
  have hb := hF.1.2.1
  have hml := hF.1.2.2.1
  have hown : s.vm.findClass "RectangleTree$Walk" = some m.cls := hF.1.2.2.2.1
  have hts := hF.1.2.2.2.2
  have hr := hF.2.1
  have hlk := hF.2.2.1
  have hK := hF.2.2.2.2.1
  have hN := hF.2.2.2.2.2.1
  have hA := hF.2.2.2.2.2.2
  intro n
  induction n with
  | zero => intro x4 x5 K  H locs ls h; cases h
  | succ n ih =>
    intro x4 x5 K  H locs ls h  hP hD hS hl
    rw [f_Wk_gather_L20] at h
    refine lv_iload hx hb dX5_gather_20 (lv_at hl 3 rfl) ?_
    obtain ⟨g_4, h⟩ := gd_e h
    refine z_if_le (tgt := 132) hx hb g_4 dX5_gather_22 (by decide) (fun b_5 => ?_) (fun b_5 => ?_)
    · have h := it_n b_5 h
      exact hk (x4) (x5) (K) H locs ls h hP hD hS (lv_sub hl [] rfl)
    · have h := it_p b_5 h
      refine lv_iload hx hb dX5_gather_25 (lv_at hl 4 rfl) ?_
      refine lv_ldc (v := Int32.ofInt 1000000) hx hb hown (hts _ wm226) dX5_gather_27 ?_
      obtain ⟨g_6, h⟩ := gd_e h
      refine z_icmp_ge (tgt := 132) hx hb g_6 (by decide) dX5_gather_29 (by decide) (fun b_7 => ?_) (fun b_7 => ?_)
      · have h := it_n b_7 h
        exact hk (x4) (x5) (K) H locs ls h hP hD hS (lv_sub hl [] rfl)
      · have h := it_p b_7 h
        refine lv_iinc (v := Int32.ofInt (x4 + (-1))) (lv' := [(4, vI (x4 + (-1))), (0, .ref h_K), (1, .ref h_O), (3, vI x3), (5, vI x5)]) hx hb dX5_gather_32 hl (k := 3) rfl (z_inc _ _) (by decide) rfl (fun ls hl => ?_)
        refine lv_aload_n hx hb dX5_gather_35 rfl (lv_at hl 1 rfl) ?_
        refine va_get (D := D) (ci := 5) (v := .ref (q_K 1)) (C := RX5) (T := TX5) (N := 3) hx hb hts zin5 hown hK hP 0 rfl rfl 2 (by decide) (hts _ wm124) (fun _ h9 => h9) rfl dX5_gather_36 ?_
        refine lv_iload hx hb dX5_gather_39 (lv_at hl 0 rfl) ?_
        obtain ⟨r_8, e_9, h⟩ := bd1_e h
        refine z_goi (ws' := []) (ret := r_8) (wc := (zAr cI ((q_K 1)) ((kLen K)) ((kPen K)))) (wn := fun u_10 => (zWk cI h_K q_K K) ++ (zTr cI h_O q_O O)) (wr := ([0, 1, 3, 4, 5, 6, 7, 8].filterMap (fun i => ((zWk cI h_K q_K K) ++ (zTr cI h_O q_O O))[i]?))) (va_runSN (As := [.ref (q_K 1), vI (x4 + (-1))]) (rest := []) hF.1 (c_Rt_at l D cI cZ cT (q_K 1) (kLen K) (kPen K) (x4 + (-1)) H.size (r_8) e_9) ⟨va_cnB 2 hts (zW_good wm229) rfl rfl rfl (hN.at 5 rfl) (hts _ wm32) (by decide +kernel) ⟨Nat.le_of_ble_eq_true rfl, Nat.le_of_ble_eq_true rfl⟩, hts _ wm228, trivial⟩ ⟨zP.blind, zP.enter (z_subP (ws' := (zAr cI ((q_K 1)) ((kLen K)) ((kPen K)))) hP [2] rfl) hK (hD.sub [2] (by decide) rfl) hN⟩ rfl rfl hl.1 rfl (lv_room (Nat.le_of_ble_eq_true rfl)) dX5_gather_41 ⟨Nat.le_refl _, Nat.le_refl _⟩) hP hD hS hA [2] [0, 1, 3, 4, 5, 6, 7, 8] [0, 1, 8, 2, 3, 4, 5, 6, 7] rfl rfl (by decide) (fun _ => rfl) (fun u_10 H locs hP hD hS hz => ?_)
        refine lv_istore (lv' := [(6, vI r_8), (4, vI (x4 + (-1))), (0, .ref h_K), (1, .ref h_O), (3, vI x3), (5, vI x5)]) hx hb dX5_gather_44 hl (by decide) rfl (fun ls hl => ?_)
        refine lv_iload hx hb dX5_gather_46 (lv_at hl 0 rfl) ?_
        refine lv_bipush (v := Int32.ofInt 24) hx hb dX5_gather_48 (by decide +kernel) ?_
        obtain ⟨g_11, h⟩ := gd_e h
        refine z_icmp_lt (tgt := 57) hx hb g_11 (by decide) dX5_gather_50 (by decide) (fun b_12 => ?_) (fun b_12 => ?_)
        · have h := it_p b_12 h
          refine lv_iconst (v := Int32.ofInt 0) hx hb dX5_gather_57 rfl ?_
          refine lv_iload_n hx hb dX5_gather_58 rfl (lv_at hl 4 rfl) ?_
          obtain ⟨g_13, h⟩ := gd_e h
          refine z_icmp_ne (tgt := 85) hx hb (by decide) g_13 dX5_gather_59 (by decide) (fun b_14 => ?_) (fun b_14 => ?_)
          · have h := it_n b_14 h
            refine lv_aload_n hx hb dX5_gather_85 rfl (lv_at hl 3 rfl) ?_
            refine lv_iload hx hb dX5_gather_86 (lv_at hl 0 rfl) ?_
            obtain ⟨r_15, e_16, h⟩ := bd1_e h
            refine z_goi (ws' := []) (ret := r_15) (wc := (zTr cI (h_O) (q_O) (O))) (wn := fun u_17 => (zWk cI h_K q_K K) ++ (zTr cI h_O q_O O)) (wr := ([0, 1, 2].filterMap (fun i => ((zWk cI h_K q_K K) ++ (zTr cI h_O q_O O))[i]?))) (va_runV (As := [vI r_8]) (rest := []) hF.1 (c_Tr_sizeOf l D cI cZ cT h_O q_O O r_8 H.size (r_15) e_16) (cwV 1 hts (zgV wm230 wm231 wm232 wm33 wm233) rfl rfl rfl (by decide +kernel) ⟨Nat.le_of_ble_eq_true rfl, Nat.le_of_ble_eq_true rfl⟩) ⟨zP.blind, va_recv hK (z_subP (ws' := (zTr cI (h_O) (q_O) (O))) hP [3, 4, 5, 6, 7, 8] rfl) (ci := 4) (q0 := 0) rfl rfl, zP.enter (z_subP (ws' := (zTr cI (h_O) (q_O) (O))) hP [3, 4, 5, 6, 7, 8] rfl) hK (hD.sub [3, 4, 5, 6, 7, 8] (by decide) rfl) hN⟩ rfl rfl hl.1 rfl (lv_room (Nat.le_of_ble_eq_true rfl)) dX5_gather_88 ⟨Nat.le_refl _, Nat.le_refl _⟩) hP hD hS hA [3, 4, 5, 6, 7, 8] [0, 1, 2] [0, 1, 2, 3, 4, 5, 6, 7, 8] rfl rfl (by decide) (fun _ => rfl) (fun u_17 H locs hP hD hS hz => ?_)
            refine lv_iconst (v := Int32.ofInt 1) hx hb dX5_gather_91 rfl ?_
            refine z_isub hx hb dX5_gather_92 ?_
            refine lv_istore (lv' := [(7, vI (r_15 - 1)), (6, vI r_8), (4, vI (x4 + (-1))), (0, .ref h_K), (1, .ref h_O), (3, vI x3), (5, vI x5)]) hx hb dX5_gather_93 hl (by decide) rfl (fun ls hl => ?_)
            refine w_Wk_gather_L95 D cI cZ cT (h_K) (q_K) (h_O) (q_O) (O) (x3) (x5) (r_8) _ _ hF (fun x4_26 x7_27 K_28 H locs ls h hP hD hS hl => ?_) _ ((x4 + (-1))) ((r_15 - 1)) (K) _ _ _ h hP hD hS (lv_sub hl [3, 4, 5, 2, 6, 1, 0] rfl)
            refine lv_iinc (v := Int32.ofInt (x5 + 1)) (lv' := [(5, vI (x5 + 1)), (0, .ref h_K), (1, .ref h_O), (3, vI x3), (4, vI x4_26)]) hx hb dX5_gather_126 hl (k := 4) rfl (z_inc _ _) (by decide) rfl (fun ls hl => ?_)
            refine lv_goto (tgt := 20) hx hb dX5_gather_129 (by decide) ?_
            exact ih (x4_26) ((x5 + 1)) (K_28) H locs ls h hP hD hS (lv_sub hl [1, 2, 3, 4, 0] rfl)
          · have h := it_p b_14 h
            refine lv_aload_n hx hb dX5_gather_62 rfl (lv_at hl 2 rfl) ?_
            refine va_get (D := D) (ci := 5) (v := .ref (q_K 0)) (C := RX5) (T := TX5) (N := 3) hx hb hts zin5 hown hK hP 0 rfl rfl 0 (by decide) (hts _ wm118) (fun _ h9 => h9) rfl dX5_gather_63 ?_
            refine lv_aload_n hx hb dX5_gather_66 rfl (lv_at hl 2 rfl) ?_
            refine va_get (D := D) (ci := 5) (v := vI (kCnt K)) (C := RX5) (T := TX5) (N := 3) hx hb hts zin5 hown hK hP 0 rfl rfl 1 (by decide) (hts _ wm121) (fun _ h9 => h9) rfl dX5_gather_67 ?_
            refine lv_iload hx hb dX5_gather_70 (lv_at hl 0 rfl) ?_
            obtain ⟨K_29, e_30, h⟩ := bd1_e h
            refine z_gov (wc := (zAr cI ((q_K 0)) ((kLen K)) ((kItm K)))) (wn := fun u_31 => (zWk cI h_K q_K (skItm K K_29)) ++ (zTr cI h_O q_O O)) (wr := ([0, 2, 3, 4, 5, 6, 7, 8].filterMap (fun i => ((zWk cI h_K q_K K) ++ (zTr cI h_O q_O O))[i]?))) (va_runSN (As := [.ref (q_K 0), vI (kCnt K), vI r_8]) (rest := []) hF.1 (c_Rt_put l D cI cZ cT (q_K 0) (kLen K) (kItm K) (kCnt K) r_8 H.size (K_29) e_30) ⟨va_cnB 3 hts (zW_good wm61) rfl rfl rfl (hN.at 4 rfl) (hts _ wm32) (by decide +kernel) ⟨Nat.le_of_ble_eq_true rfl, Nat.le_of_ble_eq_true rfl⟩, hts _ wm60, trivial⟩ ⟨zP.blind, zP.enter (z_subP (ws' := (zAr cI ((q_K 0)) ((kLen K)) ((kItm K)))) hP [1] rfl) hK (hD.sub [1] (by decide) rfl) hN⟩ rfl rfl hl.1 rfl (lv_room (Nat.le_of_ble_eq_true rfl)) dX5_gather_72 ⟨Nat.le_refl _, Nat.le_refl _⟩) hP hD hS hA [1] [0, 2, 3, 4, 5, 6, 7, 8] [0, 8, 1, 2, 3, 4, 5, 6, 7] rfl rfl (by decide) (fun _ => rfl) (fun u_31 H locs hP hD hS hz => ?_)
            refine lv_aload_n hx hb dX5_gather_75 rfl (lv_at hl 2 rfl) ?_
            refine lv_dup hx hb dX5_gather_76 rfl ?_
            refine va_get (D := D) (ci := 5) (v := vI (kCnt K)) (C := RX5) (T := TX5) (N := 3) hx hb hts zin5 hown hK hP 0 rfl rfl 1 (by decide) (hts _ wm121) (fun _ h9 => h9) rfl dX5_gather_77 ?_
            refine lv_iconst (v := Int32.ofInt 1) hx hb dX5_gather_80 rfl ?_
            refine z_iadd hx hb dX5_gather_81 ?_
            refine va_put (D := D) (ci := 5) (v := vI ((kCnt K) + 1)) (ty := .int) (C := RX5) (T := TX5) (N := 3) hx hb hts zin5 tyX5 tyX5_ok nmX5 hown hK hP hD hS 0 rfl rfl 1 (by decide) (hts _ wm121) (fun _ h9 => h9) rfl (by decide +kernel) rfl rfl (Nat.le_of_ble_eq_true rfl) dX5_gather_82 (fun H locs hP hD hS => ?_)
            replace hP : va_P D vwCl ((zWk cI h_K q_K (skCnt (skItm K K_29) ((kCnt K) + 1))) ++ (zTr cI h_O q_O O)) H := hP
            replace hD : va_D A ((zWk cI h_K q_K (skCnt (skItm K K_29) ((kCnt K) + 1))) ++ (zTr cI h_O q_O O)) := hD
            refine lv_aload_n hx hb dX5_gather_85 rfl (lv_at hl 3 rfl) ?_
            refine lv_iload hx hb dX5_gather_86 (lv_at hl 0 rfl) ?_
            obtain ⟨r_32, e_33, h⟩ := bd1_e h
            refine z_goi (ws' := []) (ret := r_32) (wc := (zTr cI (h_O) (q_O) (O))) (wn := fun u_34 => (zWk cI h_K q_K (skCnt (skItm K K_29) ((kCnt K) + 1))) ++ (zTr cI h_O q_O O)) (wr := ([0, 1, 2].filterMap (fun i => ((zWk cI h_K q_K (skCnt (skItm K K_29) ((kCnt K) + 1))) ++ (zTr cI h_O q_O O))[i]?))) (va_runV (As := [vI r_8]) (rest := []) hF.1 (c_Tr_sizeOf l D cI cZ cT h_O q_O O r_8 H.size (r_32) e_33) (cwV 1 hts (zgV wm230 wm231 wm232 wm33 wm233) rfl rfl rfl (by decide +kernel) ⟨Nat.le_of_ble_eq_true rfl, Nat.le_of_ble_eq_true rfl⟩) ⟨zP.blind, va_recv hK (z_subP (ws' := (zTr cI (h_O) (q_O) (O))) hP [3, 4, 5, 6, 7, 8] rfl) (ci := 4) (q0 := 0) rfl rfl, zP.enter (z_subP (ws' := (zTr cI (h_O) (q_O) (O))) hP [3, 4, 5, 6, 7, 8] rfl) hK (hD.sub [3, 4, 5, 6, 7, 8] (by decide) rfl) hN⟩ rfl rfl hl.1 rfl (lv_room (Nat.le_of_ble_eq_true rfl)) dX5_gather_88 ⟨Nat.le_refl _, Nat.le_refl _⟩) hP hD hS hA [3, 4, 5, 6, 7, 8] [0, 1, 2] [0, 1, 2, 3, 4, 5, 6, 7, 8] rfl rfl (by decide) (fun _ => rfl) (fun u_34 H locs hP hD hS hz => ?_)
            refine lv_iconst (v := Int32.ofInt 1) hx hb dX5_gather_91 rfl ?_
            refine z_isub hx hb dX5_gather_92 ?_
            refine lv_istore (lv' := [(7, vI (r_32 - 1)), (6, vI r_8), (4, vI (x4 + (-1))), (0, .ref h_K), (1, .ref h_O), (3, vI x3), (5, vI x5)]) hx hb dX5_gather_93 hl (by decide) rfl (fun ls hl => ?_)
            refine w_Wk_gather_L95 D cI cZ cT (h_K) (q_K) (h_O) (q_O) (O) (x3) (x5) (r_8) _ _ hF (fun x4_35 x7_36 K_37 H locs ls h hP hD hS hl => ?_) _ ((x4 + (-1))) ((r_32 - 1)) ((skCnt (skItm K K_29) ((kCnt K) + 1))) _ _ _ h hP hD hS (lv_sub hl [3, 4, 5, 2, 6, 1, 0] rfl)
            refine lv_iinc (v := Int32.ofInt (x5 + 1)) (lv' := [(5, vI (x5 + 1)), (0, .ref h_K), (1, .ref h_O), (3, vI x3), (4, vI x4_35)]) hx hb dX5_gather_126 hl (k := 4) rfl (z_inc _ _) (by decide) rfl (fun ls hl => ?_)
            refine lv_goto (tgt := 20) hx hb dX5_gather_129 (by decide) ?_
            exact ih (x4_35) ((x5 + 1)) (K_37) H locs ls h hP hD hS (lv_sub hl [1, 2, 3, 4, 0] rfl)
        · have h := it_n b_12 h
          refine lv_iconst (v := Int32.ofInt 1) hx hb dX5_gather_53 rfl ?_
          refine lv_goto (tgt := 58) hx hb dX5_gather_54 (by decide) ?_
          refine lv_iload_n hx hb dX5_gather_58 rfl (lv_at hl 4 rfl) ?_
          obtain ⟨g_38, h⟩ := gd_e h
          refine z_icmp_ne (tgt := 85) hx hb (by decide) g_38 dX5_gather_59 (by decide) (fun b_39 => ?_) (fun b_39 => ?_)
          · have h := it_n b_39 h
            refine lv_aload_n hx hb dX5_gather_85 rfl (lv_at hl 3 rfl) ?_
            refine lv_iload hx hb dX5_gather_86 (lv_at hl 0 rfl) ?_
            obtain ⟨r_40, e_41, h⟩ := bd1_e h
            refine z_goi (ws' := []) (ret := r_40) (wc := (zTr cI (h_O) (q_O) (O))) (wn := fun u_42 => (zWk cI h_K q_K K) ++ (zTr cI h_O q_O O)) (wr := ([0, 1, 2].filterMap (fun i => ((zWk cI h_K q_K K) ++ (zTr cI h_O q_O O))[i]?))) (va_runV (As := [vI r_8]) (rest := []) hF.1 (c_Tr_sizeOf l D cI cZ cT h_O q_O O r_8 H.size (r_40) e_41) (cwV 1 hts (zgV wm230 wm231 wm232 wm33 wm233) rfl rfl rfl (by decide +kernel) ⟨Nat.le_of_ble_eq_true rfl, Nat.le_of_ble_eq_true rfl⟩) ⟨zP.blind, va_recv hK (z_subP (ws' := (zTr cI (h_O) (q_O) (O))) hP [3, 4, 5, 6, 7, 8] rfl) (ci := 4) (q0 := 0) rfl rfl, zP.enter (z_subP (ws' := (zTr cI (h_O) (q_O) (O))) hP [3, 4, 5, 6, 7, 8] rfl) hK (hD.sub [3, 4, 5, 6, 7, 8] (by decide) rfl) hN⟩ rfl rfl hl.1 rfl (lv_room (Nat.le_of_ble_eq_true rfl)) dX5_gather_88 ⟨Nat.le_refl _, Nat.le_refl _⟩) hP hD hS hA [3, 4, 5, 6, 7, 8] [0, 1, 2] [0, 1, 2, 3, 4, 5, 6, 7, 8] rfl rfl (by decide) (fun _ => rfl) (fun u_42 H locs hP hD hS hz => ?_)
            refine lv_iconst (v := Int32.ofInt 1) hx hb dX5_gather_91 rfl ?_
            refine z_isub hx hb dX5_gather_92 ?_
            refine lv_istore (lv' := [(7, vI (r_40 - 1)), (6, vI r_8), (4, vI (x4 + (-1))), (0, .ref h_K), (1, .ref h_O), (3, vI x3), (5, vI x5)]) hx hb dX5_gather_93 hl (by decide) rfl (fun ls hl => ?_)
            refine w_Wk_gather_L95 D cI cZ cT (h_K) (q_K) (h_O) (q_O) (O) (x3) (x5) (r_8) _ _ hF (fun x4_43 x7_44 K_45 H locs ls h hP hD hS hl => ?_) _ ((x4 + (-1))) ((r_40 - 1)) (K) _ _ _ h hP hD hS (lv_sub hl [3, 4, 5, 2, 6, 1, 0] rfl)
            refine lv_iinc (v := Int32.ofInt (x5 + 1)) (lv' := [(5, vI (x5 + 1)), (0, .ref h_K), (1, .ref h_O), (3, vI x3), (4, vI x4_43)]) hx hb dX5_gather_126 hl (k := 4) rfl (z_inc _ _) (by decide) rfl (fun ls hl => ?_)
            refine lv_goto (tgt := 20) hx hb dX5_gather_129 (by decide) ?_
            exact ih (x4_43) ((x5 + 1)) (K_45) H locs ls h hP hD hS (lv_sub hl [1, 2, 3, 4, 0] rfl)
          · have h := it_p b_39 h
            refine lv_aload_n hx hb dX5_gather_62 rfl (lv_at hl 2 rfl) ?_
            refine va_get (D := D) (ci := 5) (v := .ref (q_K 0)) (C := RX5) (T := TX5) (N := 3) hx hb hts zin5 hown hK hP 0 rfl rfl 0 (by decide) (hts _ wm118) (fun _ h9 => h9) rfl dX5_gather_63 ?_
            refine lv_aload_n hx hb dX5_gather_66 rfl (lv_at hl 2 rfl) ?_
            refine va_get (D := D) (ci := 5) (v := vI (kCnt K)) (C := RX5) (T := TX5) (N := 3) hx hb hts zin5 hown hK hP 0 rfl rfl 1 (by decide) (hts _ wm121) (fun _ h9 => h9) rfl dX5_gather_67 ?_
            refine lv_iload hx hb dX5_gather_70 (lv_at hl 0 rfl) ?_
            obtain ⟨K_46, e_47, h⟩ := bd1_e h
            refine z_gov (wc := (zAr cI ((q_K 0)) ((kLen K)) ((kItm K)))) (wn := fun u_48 => (zWk cI h_K q_K (skItm K K_46)) ++ (zTr cI h_O q_O O)) (wr := ([0, 2, 3, 4, 5, 6, 7, 8].filterMap (fun i => ((zWk cI h_K q_K K) ++ (zTr cI h_O q_O O))[i]?))) (va_runSN (As := [.ref (q_K 0), vI (kCnt K), vI r_8]) (rest := []) hF.1 (c_Rt_put l D cI cZ cT (q_K 0) (kLen K) (kItm K) (kCnt K) r_8 H.size (K_46) e_47) ⟨va_cnB 3 hts (zW_good wm61) rfl rfl rfl (hN.at 4 rfl) (hts _ wm32) (by decide +kernel) ⟨Nat.le_of_ble_eq_true rfl, Nat.le_of_ble_eq_true rfl⟩, hts _ wm60, trivial⟩ ⟨zP.blind, zP.enter (z_subP (ws' := (zAr cI ((q_K 0)) ((kLen K)) ((kItm K)))) hP [1] rfl) hK (hD.sub [1] (by decide) rfl) hN⟩ rfl rfl hl.1 rfl (lv_room (Nat.le_of_ble_eq_true rfl)) dX5_gather_72 ⟨Nat.le_refl _, Nat.le_refl _⟩) hP hD hS hA [1] [0, 2, 3, 4, 5, 6, 7, 8] [0, 8, 1, 2, 3, 4, 5, 6, 7] rfl rfl (by decide) (fun _ => rfl) (fun u_48 H locs hP hD hS hz => ?_)
            refine lv_aload_n hx hb dX5_gather_75 rfl (lv_at hl 2 rfl) ?_
            refine lv_dup hx hb dX5_gather_76 rfl ?_
            refine va_get (D := D) (ci := 5) (v := vI (kCnt K)) (C := RX5) (T := TX5) (N := 3) hx hb hts zin5 hown hK hP 0 rfl rfl 1 (by decide) (hts _ wm121) (fun _ h9 => h9) rfl dX5_gather_77 ?_
            refine lv_iconst (v := Int32.ofInt 1) hx hb dX5_gather_80 rfl ?_
            refine z_iadd hx hb dX5_gather_81 ?_
            refine va_put (D := D) (ci := 5) (v := vI ((kCnt K) + 1)) (ty := .int) (C := RX5) (T := TX5) (N := 3) hx hb hts zin5 tyX5 tyX5_ok nmX5 hown hK hP hD hS 0 rfl rfl 1 (by decide) (hts _ wm121) (fun _ h9 => h9) rfl (by decide +kernel) rfl rfl (Nat.le_of_ble_eq_true rfl) dX5_gather_82 (fun H locs hP hD hS => ?_)
            replace hP : va_P D vwCl ((zWk cI h_K q_K (skCnt (skItm K K_46) ((kCnt K) + 1))) ++ (zTr cI h_O q_O O)) H := hP
            replace hD : va_D A ((zWk cI h_K q_K (skCnt (skItm K K_46) ((kCnt K) + 1))) ++ (zTr cI h_O q_O O)) := hD
            refine lv_aload_n hx hb dX5_gather_85 rfl (lv_at hl 3 rfl) ?_
            refine lv_iload hx hb dX5_gather_86 (lv_at hl 0 rfl) ?_
            obtain ⟨r_49, e_50, h⟩ := bd1_e h
            refine z_goi (ws' := []) (ret := r_49) (wc := (zTr cI (h_O) (q_O) (O))) (wn := fun u_51 => (zWk cI h_K q_K (skCnt (skItm K K_46) ((kCnt K) + 1))) ++ (zTr cI h_O q_O O)) (wr := ([0, 1, 2].filterMap (fun i => ((zWk cI h_K q_K (skCnt (skItm K K_46) ((kCnt K) + 1))) ++ (zTr cI h_O q_O O))[i]?))) (va_runV (As := [vI r_8]) (rest := []) hF.1 (c_Tr_sizeOf l D cI cZ cT h_O q_O O r_8 H.size (r_49) e_50) (cwV 1 hts (zgV wm230 wm231 wm232 wm33 wm233) rfl rfl rfl (by decide +kernel) ⟨Nat.le_of_ble_eq_true rfl, Nat.le_of_ble_eq_true rfl⟩) ⟨zP.blind, va_recv hK (z_subP (ws' := (zTr cI (h_O) (q_O) (O))) hP [3, 4, 5, 6, 7, 8] rfl) (ci := 4) (q0 := 0) rfl rfl, zP.enter (z_subP (ws' := (zTr cI (h_O) (q_O) (O))) hP [3, 4, 5, 6, 7, 8] rfl) hK (hD.sub [3, 4, 5, 6, 7, 8] (by decide) rfl) hN⟩ rfl rfl hl.1 rfl (lv_room (Nat.le_of_ble_eq_true rfl)) dX5_gather_88 ⟨Nat.le_refl _, Nat.le_refl _⟩) hP hD hS hA [3, 4, 5, 6, 7, 8] [0, 1, 2] [0, 1, 2, 3, 4, 5, 6, 7, 8] rfl rfl (by decide) (fun _ => rfl) (fun u_51 H locs hP hD hS hz => ?_)
            refine lv_iconst (v := Int32.ofInt 1) hx hb dX5_gather_91 rfl ?_
            refine z_isub hx hb dX5_gather_92 ?_
            refine lv_istore (lv' := [(7, vI (r_49 - 1)), (6, vI r_8), (4, vI (x4 + (-1))), (0, .ref h_K), (1, .ref h_O), (3, vI x3), (5, vI x5)]) hx hb dX5_gather_93 hl (by decide) rfl (fun ls hl => ?_)
            refine w_Wk_gather_L95 D cI cZ cT (h_K) (q_K) (h_O) (q_O) (O) (x3) (x5) (r_8) _ _ hF (fun x4_52 x7_53 K_54 H locs ls h hP hD hS hl => ?_) _ ((x4 + (-1))) ((r_49 - 1)) ((skCnt (skItm K K_46) ((kCnt K) + 1))) _ _ _ h hP hD hS (lv_sub hl [3, 4, 5, 2, 6, 1, 0] rfl)
            refine lv_iinc (v := Int32.ofInt (x5 + 1)) (lv' := [(5, vI (x5 + 1)), (0, .ref h_K), (1, .ref h_O), (3, vI x3), (4, vI x4_52)]) hx hb dX5_gather_126 hl (k := 4) rfl (z_inc _ _) (by decide) rfl (fun ls hl => ?_)
            refine lv_goto (tgt := 20) hx hb dX5_gather_129 (by decide) ?_
            exact ih (x4_52) ((x5 + 1)) (K_54) H locs ls h hP hD hS (lv_sub hl [1, 2, 3, 4, 0] rfl)
set_option maxHeartbeats 4000000 in
set_option maxRecDepth 100000 in
theorem c_Wk_gather (l : Launch) (D : va_G) (cI cZ cT : ClassId) (h_K : Nat) (q_K : Nat → Nat) (h_O : Nat) (q_O : Nat → Nat) (K : KV) (O : TV) (x2 : Int) (x3 : Int) (sz : Nat) (res : KV) (h : f_Wk_gather K O x2 x3 = some res) : zMv l yX5_gather cX5_gather 8 rm_Wk_gather D (zt cI cZ cT) [.ref h_K, .ref h_O, vI x2, vI x3] ((zWk cI h_K q_K K) ++ (zTr cI h_O q_O O)) sz (fun u => (zWk cI h_K q_K (res)) ++ (zTr cI h_O q_O O)) 0 0 := by
  refine z_enth (Qc := zQv D (fun u => (zWk cI h_K q_K (res)) ++ (zTr cI h_O q_O O))) (by decide) (Nat.le_of_ble_eq_true rfl) (fun p e s m args below meth c A ls H locs hF hP hD hS hl => ?_)
  have hx := hF.1.1
  have hb := hF.1.2.1
  have hml := hF.1.2.2.1
  have hown : s.vm.findClass "RectangleTree$Walk" = some m.cls := hF.1.2.2.2.1
  have hts := hF.1.2.2.2.2
  have hr := hF.2.1
  have hlk := hF.2.2.1
  have hK := hF.2.2.2.2.1
  have hN := hF.2.2.2.2.2.1
  have hA := hF.2.2.2.2.2.2
  unfold f_Wk_gather at h
  refine lv_aload_n hx hb dX5_gather_0 rfl (lv_at hl 0 rfl) ?_
  refine lv_iconst (v := Int32.ofInt 0) hx hb dX5_gather_1 rfl ?_
  refine va_put (D := D) (ci := 5) (v := vI 0) (ty := .int) (C := RX5) (T := TX5) (N := 3) hx hb hts zin5 tyX5 tyX5_ok nmX5 hown hK hP hD hS 0 rfl rfl 1 (by decide) (hts _ wm121) (fun _ h9 => h9) rfl (by decide +kernel) rfl rfl (Nat.le_of_ble_eq_true rfl) dX5_gather_2 (fun H locs hP hD hS => ?_)
  replace hP : va_P D vwCl ((zWk cI h_K q_K (skCnt K 0)) ++ (zTr cI h_O q_O O)) H := hP
  replace hD : va_D A ((zWk cI h_K q_K (skCnt K 0)) ++ (zTr cI h_O q_O O)) := hD
  refine lv_aload_n hx hb dX5_gather_5 rfl (lv_at hl 0 rfl) ?_
  refine va_get (D := D) (ci := 5) (v := .ref (q_K 1)) (C := RX5) (T := TX5) (N := 3) hx hb hts zin5 hown hK hP 0 rfl rfl 2 (by decide) (hts _ wm124) (fun _ h9 => h9) rfl dX5_gather_6 ?_
  refine lv_iconst (v := Int32.ofInt 0) hx hb dX5_gather_9 rfl ?_
  refine lv_iload_n hx hb dX5_gather_10 rfl (lv_at hl 2 rfl) ?_
  obtain ⟨K_1, e_2, h⟩ := bd1_e h
  refine z_gov (wc := (zAr cI ((q_K 1)) ((kLen K)) ((kPen K)))) (wn := fun u_3 => (zWk cI h_K q_K (skCnt (skPen K K_1) 0)) ++ (zTr cI h_O q_O O)) (wr := ([0, 1, 3, 4, 5, 6, 7, 8].filterMap (fun i => ((zWk cI h_K q_K (skCnt K 0)) ++ (zTr cI h_O q_O O))[i]?))) (va_runSN (As := [.ref (q_K 1), vI 0, vI x2]) (rest := []) hF.1 (c_Rt_put l D cI cZ cT (q_K 1) (kLen K) (kPen K) 0 x2 H.size (K_1) e_2) ⟨va_cnB 3 hts (zW_good wm61) rfl rfl rfl (hN.at 4 rfl) (hts _ wm32) (by decide +kernel) ⟨Nat.le_of_ble_eq_true rfl, Nat.le_of_ble_eq_true rfl⟩, hts _ wm60, trivial⟩ ⟨zP.blind, zP.enter (z_subP (ws' := (zAr cI ((q_K 1)) ((kLen K)) ((kPen K)))) hP [2] rfl) hK (hD.sub [2] (by decide) rfl) hN⟩ rfl rfl hl.1 rfl (lv_room (Nat.le_of_ble_eq_true rfl)) dX5_gather_11 ⟨Nat.le_refl _, Nat.le_refl _⟩) hP hD hS hA [2] [0, 1, 3, 4, 5, 6, 7, 8] [0, 1, 8, 2, 3, 4, 5, 6, 7] rfl rfl (by decide) (fun _ => rfl) (fun u_3 H locs hP hD hS hz => ?_)
  refine lv_iconst (v := Int32.ofInt 1) hx hb dX5_gather_14 rfl ?_
  refine lv_istore (lv' := [(4, vI 1), (0, .ref h_K), (1, .ref h_O), (2, vI x2), (3, vI x3)]) hx hb dX5_gather_15 hl (by decide) rfl (fun ls hl => ?_)
  refine lv_iconst (v := Int32.ofInt 0) hx hb dX5_gather_17 rfl ?_
  refine lv_istore (lv' := [(5, vI 0), (4, vI 1), (0, .ref h_K), (1, .ref h_O), (2, vI x2), (3, vI x3)]) hx hb dX5_gather_18 hl (by decide) rfl (fun ls hl => ?_)
  refine w_Wk_gather_L20 D cI cZ cT (h_K) (q_K) (h_O) (q_O) (O) (x3) _ _ hF (fun x4_55 x5_56 K_57 H locs ls h hP hD hS hl => ?_) _ (1) (0) ((skCnt (skPen K K_1) 0)) _ _ _ h hP hD hS (lv_sub hl [2, 3, 5, 1, 0] rfl)
  obtain rfl := Option.some.inj h
  exact z_vret hx hb hr hlk (fun _ _ => 0) hP hD hS dX5_gather_132
