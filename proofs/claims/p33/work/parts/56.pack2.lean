def f_Pk_groupRow_L8 (x1 : Int) (x2 : Int) (k : Int → Int → Int → (Nat → Int) → TV → Option (Int × (Nat → Int) × TV)) : Nat → Int → Int → Int → (Nat → Int) → TV → Option (Int × (Nat → Int) × TV)
  | 0, _, _, _, _, _ => none
  | n + 1, x3, x4, x5, c_row, T =>
  gd (ck x5) <| gd (ck x1) <| if x5 < x1 then (bd1 (f_Rt_at 24 c_row x5) <| fun r_4 => gd (ck x4) <| if x4 = (-1) then (bd2 (f_Tr_newNode T x2) <| fun r_9 T_10 => bd1 (f_Rt_put 24 c_row x3 r_9) <| fun c_row_14 => bd1 (f_Tr_sizeOf T_10 r_9) <| fun r_17 => bd1 (f_Tr_addAt T_10 r_9 r_17 r_4) <| fun T_20 => f_Pk_groupRow_L8 x1 x2 k n ((x3 + 1)) (r_9) ((x5 + 1)) (c_row_14) (T_20)) else (bd1 (f_Tr_sizeOf T x4) <| fun r_24 => gd (ck r_24) <| gd (ck (tCap T)) <| if r_24 < (tCap T) then (bd1 (f_Tr_sizeOf T x4) <| fun r_30 => bd1 (f_Tr_addAt T x4 r_30 r_4) <| fun T_33 => f_Pk_groupRow_L8 x1 x2 k n (x3) (x4) ((x5 + 1)) (c_row) (T_33)) else (bd2 (f_Tr_newNode T x2) <| fun r_37 T_38 => bd1 (f_Rt_put 24 c_row x3 r_37) <| fun c_row_42 => bd1 (f_Tr_sizeOf T_38 r_37) <| fun r_45 => bd1 (f_Tr_addAt T_38 r_37 r_45 r_4) <| fun T_48 => f_Pk_groupRow_L8 x1 x2 k n ((x3 + 1)) (r_37) ((x5 + 1)) (c_row_42) (T_48)))) else (k (x3) (x4) (x5) (c_row) (T))
def f_Pk_groupRow (c_row : Nat → Int) (T : TV) (x1 : Int) (x2 : Int) : Option (Int × (Nat → Int) × TV) :=
  f_Pk_groupRow_L8 (x1) (x2) (fun x3_52 x4_53 x5_54 c_row_55 T_56 => some (x3_52, c_row_55, T_56)) FU (0) ((-1)) (0) (c_row) (T)
abbrev rm_Pk_groupRow : Room := ({ frames := 3, cells := 0, slots := 0, locals := 82 } : Room)
theorem mo_Pk_groupRow_L8 (x1 : Int) (x2 : Int) (res : Int × (Nat → Int) × TV) (k : Int → Int → Int → (Nat → Int) → TV → Option (Int × (Nat → Int) × TV)) (hkm : ∀ (x3 : Int) (x4 : Int) (x5 : Int) (c_row : Nat → Int) (T : TV) , k x3 x4 x5 c_row T = some res → (tR T) ≤ (tR (res.2.2))) : ∀ (n : Nat) (x3 : Int) (x4 : Int) (x5 : Int) (c_row : Nat → Int) (T : TV) , f_Pk_groupRow_L8 x1 x2 k n x3 x4 x5 c_row T = some res → (tR T) ≤ (tR (res.2.2)) := by
  intro n
  induction n with
  | zero => intro x3 x4 x5 c_row T h; cases h
  | succ n ihm =>
    intro x3 x4 x5 c_row T h
    rw [f_Pk_groupRow_L8] at h
    obtain ⟨g_1, h⟩ := gd_e h
    obtain ⟨g_2, h⟩ := gd_e h
    rcases it_e h with ⟨_, h⟩ | ⟨_, h⟩
    · obtain ⟨r_4, e_5, h⟩ := bd1_e h
      obtain ⟨g_7, h⟩ := gd_e h
      rcases it_e h with ⟨_, h⟩ | ⟨_, h⟩
      · obtain ⟨r_9, T_10, e_11, h⟩ := bd2_e h
        have mo_13 : (tR T) ≤ (tR T_10) := mo_Tr_newNode T x2 (r_9, T_10) e_11
        obtain ⟨c_row_14, e_15, h⟩ := bd1_e h
        obtain ⟨r_17, e_18, h⟩ := bd1_e h
        obtain ⟨T_20, e_21, h⟩ := bd1_e h
        have mo_23 : (tR T_10) ≤ (tR T_20) := mo_Tr_addAt T_10 r_9 r_17 r_4 (T_20) e_21
        have mo9 : (tR T_20) ≤ (tR (res.2.2)) := ihm ((x3 + 1)) (r_9) ((x5 + 1)) (c_row_14) (T_20) h
        exact (show (tR T) ≤ (tR (res.2.2)) from by omega)
      · obtain ⟨r_24, e_25, h⟩ := bd1_e h
        obtain ⟨g_27, h⟩ := gd_e h
        obtain ⟨g_28, h⟩ := gd_e h
        rcases it_e h with ⟨_, h⟩ | ⟨_, h⟩
        · obtain ⟨r_30, e_31, h⟩ := bd1_e h
          obtain ⟨T_33, e_34, h⟩ := bd1_e h
          have mo_36 : (tR T) ≤ (tR T_33) := mo_Tr_addAt T x4 r_30 r_4 (T_33) e_34
          have mo9 : (tR T_33) ≤ (tR (res.2.2)) := ihm (x3) (x4) ((x5 + 1)) (c_row) (T_33) h
          exact (show (tR T) ≤ (tR (res.2.2)) from by omega)
        · obtain ⟨r_37, T_38, e_39, h⟩ := bd2_e h
          have mo_41 : (tR T) ≤ (tR T_38) := mo_Tr_newNode T x2 (r_37, T_38) e_39
          obtain ⟨c_row_42, e_43, h⟩ := bd1_e h
          obtain ⟨r_45, e_46, h⟩ := bd1_e h
          obtain ⟨T_48, e_49, h⟩ := bd1_e h
          have mo_51 : (tR T_38) ≤ (tR T_48) := mo_Tr_addAt T_38 r_37 r_45 r_4 (T_48) e_49
          have mo9 : (tR T_48) ≤ (tR (res.2.2)) := ihm ((x3 + 1)) (r_37) ((x5 + 1)) (c_row_42) (T_48) h
          exact (show (tR T) ≤ (tR (res.2.2)) from by omega)
    · have mo9 : (tR T) ≤ (tR (res.2.2)) := hkm (x3) (x4) (x5) (c_row) (T) h
      exact (show (tR T) ≤ (tR (res.2.2)) from by omega)
theorem mo_Pk_groupRow (c_row : Nat → Int) (T : TV) (x1 : Int) (x2 : Int) (res : Int × (Nat → Int) × TV) (h : f_Pk_groupRow c_row T x1 x2 = some res) : (tR T) ≤ (tR (res.2.2)) := by
  unfold f_Pk_groupRow at h
  have mo9 : (tR T) ≤ (tR (res.2.2)) := mo_Pk_groupRow_L8 (x1) (x2) _ _ (fun x3_52 x4_53 x5_54 c_row_55 T_56 h => by
      obtain rfl := Option.some.inj h
      exact (show (tR T_56) ≤ (tR T_56) from by omega)) _ (0) ((-1)) (0) (c_row) (T) h
  exact (show (tR T) ≤ (tR (res.2.2)) from by omega)
set_option maxHeartbeats 4000000 in
set_option maxRecDepth 100000 in
theorem w_Pk_groupRow_L8 {p : Program} {l : Launch} {e : Env} {s : State} {m : MethodId} {args : Array Value} {below : List Frame} {meth : Method} {c : Code} {A : Nat → Prop} (D : va_G) (cI cZ cT : ClassId) (h_P : Nat) (q_P : Nat → Nat) (h_T : Nat) (q_T : Nat → Nat) (x1 : Int) (x2 : Int) (res : Int × (Nat → Int) × TV) (k : Int → Int → Int → (Nat → Int) → TV → Option (Int × (Nat → Int) × TV)) (hF : zF p m c cX2_groupRow 7 s args yX2_groupRow.cls meth (some .int) yX2_groupRow.name A D (zt cI cZ cT))
    (hk : ∀ (x3 : Int) (x4 : Int) (x5 : Int) (c_row : Nat → Int) (T : TV) (H : Heap) (locs : List Loc) (ls : Array Slot), k x3 x4 x5 c_row T = some res → va_P D vwCl ((zPk cI h_P q_P h_T c_row) ++ (zTr cI h_T q_T T)) H → va_D A ((zPk cI h_P q_P h_T c_row) ++ (zTr cI h_T q_T T)) → va_S A s.heap H locs → lv_has ls 7 [(3, vI x3)] → W p l e rm_Pk_groupRow s m args below meth c H locs 0 0 (MQ below (zQi D (res.1) (fun u => (zPk cI h_P q_P h_T (res.2.1)) ++ (zTr cI h_T q_T (res.2.2))) A) args s 0 0 A) (F0 m 99 ls [])) :
    ∀ (n : Nat) (x3 : Int) (x4 : Int) (x5 : Int) (c_row : Nat → Int) (T : TV) (H : Heap) (locs : List Loc) (ls : Array Slot), f_Pk_groupRow_L8 x1 x2 k n x3 x4 x5 c_row T = some res → va_P D vwCl ((zPk cI h_P q_P h_T c_row) ++ (zTr cI h_T q_T T)) H → va_D A ((zPk cI h_P q_P h_T c_row) ++ (zTr cI h_T q_T T)) → va_S A s.heap H locs → lv_has ls 7 [(0, .ref h_P), (1, vI x1), (2, vI x2), (3, vI x3), (4, vI x4), (5, vI x5)] → W p l e rm_Pk_groupRow s m args below meth c H locs 0 0 (MQ below (zQi D (res.1) (fun u => (zPk cI h_P q_P h_T (res.2.1)) ++ (zTr cI h_T q_T (res.2.2))) A) args s 0 0 A) (F0 m 8 ls []) := by
  have hx := hF.1.1
  have hb := hF.1.2.1
  have hml := hF.1.2.2.1
  have hown : s.vm.findClass "RectangleTree$Packing" = some m.cls := hF.1.2.2.2.1
  have hts := hF.1.2.2.2.2
  have hr := hF.2.1
  have hlk := hF.2.2.1
  have hK := hF.2.2.2.2.1
  have hN := hF.2.2.2.2.2.1
  have hA := hF.2.2.2.2.2.2
  intro n
  induction n with
  | zero => intro x3 x4 x5 c_row T  H locs ls h; cases h
  | succ n ih =>
    intro x3 x4 x5 c_row T  H locs ls h  hP hD hS hl
    rw [f_Pk_groupRow_L8] at h
    refine lv_iload hx hb dX2_groupRow_8 (lv_at hl 5 rfl) ?_
    refine lv_iload_n hx hb dX2_groupRow_10 rfl (lv_at hl 1 rfl) ?_
    obtain ⟨g_1, h⟩ := gd_e h
    obtain ⟨g_2, h⟩ := gd_e h
    refine z_icmp_ge (tgt := 99) hx hb g_1 g_2 dX2_groupRow_11 (by decide) (fun b_3 => ?_) (fun b_3 => ?_)
    · have h := it_n b_3 h
      exact hk (x3) (x4) (x5) (c_row) (T) H locs ls h hP hD hS (lv_sub hl [3] rfl)
    · have h := it_p b_3 h
      refine lv_aload_n hx hb dX2_groupRow_14 rfl (lv_at hl 0 rfl) ?_
      refine va_get (D := D) (ci := 2) (v := .ref (q_P 0)) (C := RX2) (T := TX2) (N := 2) hx hb hts zin2 hown hK hP 0 rfl rfl 1 (by decide) (hts _ wm164) (fun _ h9 => h9) rfl dX2_groupRow_15 ?_
      refine lv_iload hx hb dX2_groupRow_18 (lv_at hl 5 rfl) ?_
      obtain ⟨r_4, e_5, h⟩ := bd1_e h
      refine z_goi (ws' := []) (ret := r_4) (wc := (zAr cI ((q_P 0)) (24) (c_row))) (wn := fun u_6 => (zPk cI h_P q_P h_T c_row) ++ (zTr cI h_T q_T T)) (wr := ([0, 2, 3, 4, 5, 6, 7].filterMap (fun i => ((zPk cI h_P q_P h_T c_row) ++ (zTr cI h_T q_T T))[i]?))) (va_runSN (As := [.ref (q_P 0), vI x5]) (rest := []) hF.1 (c_Rt_at l D cI cZ cT (q_P 0) 24 c_row x5 H.size (r_4) e_5) ⟨va_cnB 2 hts (zW_good wm229) rfl rfl rfl (hN.at 10 rfl) (hts _ wm32) (by decide +kernel) ⟨Nat.le_of_ble_eq_true rfl, Nat.le_of_ble_eq_true rfl⟩, hts _ wm228, trivial⟩ ⟨zP.blind, zP.enter (z_subP (ws' := (zAr cI ((q_P 0)) (24) (c_row))) hP [1] rfl) hK (hD.sub [1] (by decide) rfl) hN⟩ rfl rfl hl.1 rfl (lv_room (Nat.le_of_ble_eq_true rfl)) dX2_groupRow_20 ⟨Nat.le_refl _, Nat.le_refl _⟩) hP hD hS hA [1] [0, 2, 3, 4, 5, 6, 7] [0, 7, 1, 2, 3, 4, 5, 6] rfl rfl (by decide) (fun _ => rfl) (fun u_6 H locs hP hD hS hz => ?_)
      refine lv_istore (lv' := [(6, vI r_4), (0, .ref h_P), (1, vI x1), (2, vI x2), (3, vI x3), (4, vI x4), (5, vI x5)]) hx hb dX2_groupRow_23 hl (by decide) rfl (fun ls hl => ?_)
      refine lv_iload hx hb dX2_groupRow_25 (lv_at hl 5 rfl) ?_
      refine lv_iconst (v := Int32.ofInt (-1)) hx hb dX2_groupRow_27 rfl ?_
      obtain ⟨g_7, h⟩ := gd_e h
      refine z_icmp_eq (tgt := 50) hx hb g_7 (by decide) dX2_groupRow_28 (by decide) (fun b_8 => ?_) (fun b_8 => ?_)
      · have h := it_p b_8 h
        refine lv_aload_n hx hb dX2_groupRow_50 rfl (lv_at hl 1 rfl) ?_
        refine va_get (D := D) (ci := 2) (v := .ref h_T) (C := RX2) (T := TX2) (N := 2) hx hb hts zin2 hown hK hP 0 rfl rfl 0 (by decide) (hts _ wm163) (fun _ h9 => h9) rfl dX2_groupRow_51 ?_
        refine lv_iload_n hx hb dX2_groupRow_54 rfl (lv_at hl 3 rfl) ?_
        obtain ⟨r_9, T_10, e_11, h⟩ := bd2_e h
        have mo_13 : (tR T) ≤ (tR T_10) := mo_Tr_newNode T x2 (r_9, T_10) e_11
        refine z_goi (ws' := []) (ret := r_9) (wc := (zTr cI (h_T) (q_T) (T))) (wn := fun u_12 => (zPk cI h_P q_P h_T c_row) ++ (zTr cI h_T q_T T_10)) (wr := ([0, 1].filterMap (fun i => ((zPk cI h_P q_P h_T c_row) ++ (zTr cI h_T q_T T))[i]?))) (va_runV (As := [vI x2]) (rest := []) hF.1 (c_Tr_newNode l D cI cZ cT h_T q_T T x2 H.size (r_9, T_10) e_11) (cwV 1 hts (zgV wm678 wm569 wm570 wm33 wm571) rfl rfl rfl (by decide +kernel) ⟨Nat.le_of_ble_eq_true rfl, Nat.le_of_ble_eq_true rfl⟩) ⟨zP.blind, va_recv hK (z_subP (ws' := (zTr cI (h_T) (q_T) (T))) hP [2, 3, 4, 5, 6, 7] rfl) (ci := 4) (q0 := 0) rfl rfl, zP.enter (z_subP (ws' := (zTr cI (h_T) (q_T) (T))) hP [2, 3, 4, 5, 6, 7] rfl) hK (hD.sub [2, 3, 4, 5, 6, 7] (by decide) rfl) hN⟩ rfl rfl hl.1 rfl (lv_room (Nat.le_of_ble_eq_true rfl)) dX2_groupRow_55 ⟨Nat.le_refl _, Nat.le_refl _⟩) hP hD hS hA [2, 3, 4, 5, 6, 7] [0, 1] [0, 1, 2, 3, 4, 5, 6, 7] rfl rfl (by decide) (fun _ => rfl) (fun u_12 H locs hP hD hS hz => ?_)
        refine lv_istore (lv' := [(4, vI r_9), (6, vI r_4), (0, .ref h_P), (1, vI x1), (2, vI x2), (3, vI x3), (5, vI x5)]) hx hb dX2_groupRow_58 hl (by decide) rfl (fun ls hl => ?_)
        refine lv_aload_n hx hb dX2_groupRow_60 rfl (lv_at hl 2 rfl) ?_
        refine va_get (D := D) (ci := 2) (v := .ref (q_P 0)) (C := RX2) (T := TX2) (N := 2) hx hb hts zin2 hown hK hP 0 rfl rfl 1 (by decide) (hts _ wm164) (fun _ h9 => h9) rfl dX2_groupRow_61 ?_
        refine lv_iload_n hx hb dX2_groupRow_64 rfl (lv_at hl 5 rfl) ?_
        refine lv_iload hx hb dX2_groupRow_65 (lv_at hl 0 rfl) ?_
        obtain ⟨c_row_14, e_15, h⟩ := bd1_e h
        refine z_gov (wc := (zAr cI ((q_P 0)) (24) (c_row))) (wn := fun u_16 => (zPk cI h_P q_P h_T c_row_14) ++ (zTr cI h_T q_T T_10)) (wr := ([0, 2, 3, 4, 5, 6, 7].filterMap (fun i => ((zPk cI h_P q_P h_T c_row) ++ (zTr cI h_T q_T T_10))[i]?))) (va_runSN (As := [.ref (q_P 0), vI x3, vI r_9]) (rest := []) hF.1 (c_Rt_put l D cI cZ cT (q_P 0) 24 c_row x3 r_9 H.size (c_row_14) e_15) ⟨va_cnB 3 hts (zW_good wm61) rfl rfl rfl (hN.at 9 rfl) (hts _ wm32) (by decide +kernel) ⟨Nat.le_of_ble_eq_true rfl, Nat.le_of_ble_eq_true rfl⟩, hts _ wm60, trivial⟩ ⟨zP.blind, zP.enter (z_subP (ws' := (zAr cI ((q_P 0)) (24) (c_row))) hP [1] rfl) hK (hD.sub [1] (by decide) rfl) hN⟩ rfl rfl hl.1 rfl (lv_room (Nat.le_of_ble_eq_true rfl)) dX2_groupRow_67 ⟨Nat.le_refl _, Nat.le_refl _⟩) hP hD hS hA [1] [0, 2, 3, 4, 5, 6, 7] [0, 7, 1, 2, 3, 4, 5, 6] rfl rfl (by decide) (fun _ => rfl) (fun u_16 H locs hP hD hS hz => ?_)
        refine lv_iinc (v := Int32.ofInt (x3 + 1)) (lv' := [(3, vI (x3 + 1)), (4, vI r_9), (6, vI r_4), (0, .ref h_P), (1, vI x1), (2, vI x2), (5, vI x5)]) hx hb dX2_groupRow_70 hl (k := 5) rfl (z_inc _ _) (by decide) rfl (fun ls hl => ?_)
        refine lv_aload_n hx hb dX2_groupRow_73 rfl (lv_at hl 3 rfl) ?_
        refine va_get (D := D) (ci := 2) (v := .ref h_T) (C := RX2) (T := TX2) (N := 2) hx hb hts zin2 hown hK hP 0 rfl rfl 0 (by decide) (hts _ wm163) (fun _ h9 => h9) rfl dX2_groupRow_74 ?_
        refine lv_iload hx hb dX2_groupRow_77 (lv_at hl 1 rfl) ?_
        refine lv_aload_n hx hb dX2_groupRow_79 rfl (lv_at hl 3 rfl) ?_
        refine va_get (D := D) (ci := 2) (v := .ref h_T) (C := RX2) (T := TX2) (N := 2) hx hb hts zin2 hown hK hP 0 rfl rfl 0 (by decide) (hts _ wm163) (fun _ h9 => h9) rfl dX2_groupRow_80 ?_
        refine lv_iload hx hb dX2_groupRow_83 (lv_at hl 1 rfl) ?_
        obtain ⟨r_17, e_18, h⟩ := bd1_e h
        refine z_goi (ws' := []) (ret := r_17) (wc := (zTr cI (h_T) (q_T) (T_10))) (wn := fun u_19 => (zPk cI h_P q_P h_T c_row_14) ++ (zTr cI h_T q_T T_10)) (wr := ([0, 1].filterMap (fun i => ((zPk cI h_P q_P h_T c_row_14) ++ (zTr cI h_T q_T T_10))[i]?))) (va_runV (As := [vI r_9]) (rest := [vI r_9, .ref h_T]) hF.1 (c_Tr_sizeOf l D cI cZ cT h_T q_T T_10 r_9 H.size (r_17) e_18) (cwV 1 hts (zgV wm698 wm231 wm232 wm33 wm233) rfl rfl rfl (by decide +kernel) ⟨Nat.le_of_ble_eq_true rfl, Nat.le_of_ble_eq_true rfl⟩) ⟨zP.blind, va_recv hK (z_subP (ws' := (zTr cI (h_T) (q_T) (T_10))) hP [2, 3, 4, 5, 6, 7] rfl) (ci := 4) (q0 := 0) rfl rfl, zP.enter (z_subP (ws' := (zTr cI (h_T) (q_T) (T_10))) hP [2, 3, 4, 5, 6, 7] rfl) hK (hD.sub [2, 3, 4, 5, 6, 7] (by decide) rfl) hN⟩ rfl rfl hl.1 rfl (lv_room (Nat.le_of_ble_eq_true rfl)) dX2_groupRow_85 ⟨Nat.le_refl _, Nat.le_refl _⟩) hP hD hS hA [2, 3, 4, 5, 6, 7] [0, 1] [0, 1, 2, 3, 4, 5, 6, 7] rfl rfl (by decide) (fun _ => rfl) (fun u_19 H locs hP hD hS hz => ?_)
        refine lv_iload hx hb dX2_groupRow_88 (lv_at hl 2 rfl) ?_
        obtain ⟨T_20, e_21, h⟩ := bd1_e h
        have mo_23 : (tR T_10) ≤ (tR T_20) := mo_Tr_addAt T_10 r_9 r_17 r_4 (T_20) e_21
        refine z_gov (wc := (zTr cI (h_T) (q_T) (T_10))) (wn := fun u_22 => (zPk cI h_P q_P h_T c_row_14) ++ (zTr cI h_T q_T T_20)) (wr := ([0, 1].filterMap (fun i => ((zPk cI h_P q_P h_T c_row_14) ++ (zTr cI h_T q_T T_10))[i]?))) (va_runV (As := [vI r_9, vI r_17, vI r_4]) (rest := []) hF.1 (c_Tr_addAt l D cI cZ cT h_T q_T T_10 r_9 r_17 r_4 H.size (T_20) e_21) (cwV 3 hts (zgV wm699 wm518 wm519 wm33 wm520) rfl rfl rfl (by decide +kernel) ⟨Nat.le_of_ble_eq_true rfl, Nat.le_of_ble_eq_true rfl⟩) ⟨zP.blind, va_recv hK (z_subP (ws' := (zTr cI (h_T) (q_T) (T_10))) hP [2, 3, 4, 5, 6, 7] rfl) (ci := 4) (q0 := 0) rfl rfl, zP.enter (z_subP (ws' := (zTr cI (h_T) (q_T) (T_10))) hP [2, 3, 4, 5, 6, 7] rfl) hK (hD.sub [2, 3, 4, 5, 6, 7] (by decide) rfl) hN⟩ rfl rfl hl.1 rfl (lv_room (Nat.le_of_ble_eq_true rfl)) dX2_groupRow_90 ⟨Nat.le_refl _, Nat.le_refl _⟩) hP hD hS hA [2, 3, 4, 5, 6, 7] [0, 1] [0, 1, 2, 3, 4, 5, 6, 7] rfl rfl (by decide) (fun _ => rfl) (fun u_22 H locs hP hD hS hz => ?_)
        refine lv_iinc (v := Int32.ofInt (x5 + 1)) (lv' := [(5, vI (x5 + 1)), (3, vI (x3 + 1)), (4, vI r_9), (6, vI r_4), (0, .ref h_P), (1, vI x1), (2, vI x2)]) hx hb dX2_groupRow_93 hl (k := 6) rfl (z_inc _ _) (by decide) rfl (fun ls hl => ?_)
        refine lv_goto (tgt := 8) hx hb dX2_groupRow_96 (by decide) ?_
        exact ih ((x3 + 1)) (r_9) ((x5 + 1)) (c_row_14) (T_20) H locs ls h hP hD hS (lv_sub hl [4, 5, 6, 1, 2, 0] rfl)
      · have h := it_n b_8 h
        refine lv_aload_n hx hb dX2_groupRow_31 rfl (lv_at hl 1 rfl) ?_
        refine va_get (D := D) (ci := 2) (v := .ref h_T) (C := RX2) (T := TX2) (N := 2) hx hb hts zin2 hown hK hP 0 rfl rfl 0 (by decide) (hts _ wm163) (fun _ h9 => h9) rfl dX2_groupRow_32 ?_
        refine lv_iload hx hb dX2_groupRow_35 (lv_at hl 5 rfl) ?_
        obtain ⟨r_24, e_25, h⟩ := bd1_e h
        refine z_goi (ws' := []) (ret := r_24) (wc := (zTr cI (h_T) (q_T) (T))) (wn := fun u_26 => (zPk cI h_P q_P h_T c_row) ++ (zTr cI h_T q_T T)) (wr := ([0, 1].filterMap (fun i => ((zPk cI h_P q_P h_T c_row) ++ (zTr cI h_T q_T T))[i]?))) (va_runV (As := [vI x4]) (rest := []) hF.1 (c_Tr_sizeOf l D cI cZ cT h_T q_T T x4 H.size (r_24) e_25) (cwV 1 hts (zgV wm698 wm231 wm232 wm33 wm233) rfl rfl rfl (by decide +kernel) ⟨Nat.le_of_ble_eq_true rfl, Nat.le_of_ble_eq_true rfl⟩) ⟨zP.blind, va_recv hK (z_subP (ws' := (zTr cI (h_T) (q_T) (T))) hP [2, 3, 4, 5, 6, 7] rfl) (ci := 4) (q0 := 0) rfl rfl, zP.enter (z_subP (ws' := (zTr cI (h_T) (q_T) (T))) hP [2, 3, 4, 5, 6, 7] rfl) hK (hD.sub [2, 3, 4, 5, 6, 7] (by decide) rfl) hN⟩ rfl rfl hl.1 rfl (lv_room (Nat.le_of_ble_eq_true rfl)) dX2_groupRow_37 ⟨Nat.le_refl _, Nat.le_refl _⟩) hP hD hS hA [2, 3, 4, 5, 6, 7] [0, 1] [0, 1, 2, 3, 4, 5, 6, 7] rfl rfl (by decide) (fun _ => rfl) (fun u_26 H locs hP hD hS hz => ?_)
        refine lv_aload_n hx hb dX2_groupRow_40 rfl (lv_at hl 1 rfl) ?_
        refine va_get (D := D) (ci := 2) (v := .ref h_T) (C := RX2) (T := TX2) (N := 2) hx hb hts zin2 hown hK hP 0 rfl rfl 0 (by decide) (hts _ wm163) (fun _ h9 => h9) rfl dX2_groupRow_41 ?_
        refine va_get (D := D) (ci := 4) (v := vI (tCap T)) (C := RX4) (T := TX4) (N := 10) hx hb hts zin4 hown hK hP 2 rfl rfl 6 (by decide) (hts _ wm72) (fun _ h9 => h9) rfl dX2_groupRow_44 ?_
        obtain ⟨g_27, h⟩ := gd_e h
        obtain ⟨g_28, h⟩ := gd_e h
        refine z_icmp_lt (tgt := 73) hx hb g_27 g_28 dX2_groupRow_47 (by decide) (fun b_29 => ?_) (fun b_29 => ?_)
        · have h := it_p b_29 h
          refine lv_aload_n hx hb dX2_groupRow_73 rfl (lv_at hl 1 rfl) ?_
          refine va_get (D := D) (ci := 2) (v := .ref h_T) (C := RX2) (T := TX2) (N := 2) hx hb hts zin2 hown hK hP 0 rfl rfl 0 (by decide) (hts _ wm163) (fun _ h9 => h9) rfl dX2_groupRow_74 ?_
          refine lv_iload hx hb dX2_groupRow_77 (lv_at hl 5 rfl) ?_
          refine lv_aload_n hx hb dX2_groupRow_79 rfl (lv_at hl 1 rfl) ?_
          refine va_get (D := D) (ci := 2) (v := .ref h_T) (C := RX2) (T := TX2) (N := 2) hx hb hts zin2 hown hK hP 0 rfl rfl 0 (by decide) (hts _ wm163) (fun _ h9 => h9) rfl dX2_groupRow_80 ?_
          refine lv_iload hx hb dX2_groupRow_83 (lv_at hl 5 rfl) ?_
          obtain ⟨r_30, e_31, h⟩ := bd1_e h
          refine z_goi (ws' := []) (ret := r_30) (wc := (zTr cI (h_T) (q_T) (T))) (wn := fun u_32 => (zPk cI h_P q_P h_T c_row) ++ (zTr cI h_T q_T T)) (wr := ([0, 1].filterMap (fun i => ((zPk cI h_P q_P h_T c_row) ++ (zTr cI h_T q_T T))[i]?))) (va_runV (As := [vI x4]) (rest := [vI x4, .ref h_T]) hF.1 (c_Tr_sizeOf l D cI cZ cT h_T q_T T x4 H.size (r_30) e_31) (cwV 1 hts (zgV wm698 wm231 wm232 wm33 wm233) rfl rfl rfl (by decide +kernel) ⟨Nat.le_of_ble_eq_true rfl, Nat.le_of_ble_eq_true rfl⟩) ⟨zP.blind, va_recv hK (z_subP (ws' := (zTr cI (h_T) (q_T) (T))) hP [2, 3, 4, 5, 6, 7] rfl) (ci := 4) (q0 := 0) rfl rfl, zP.enter (z_subP (ws' := (zTr cI (h_T) (q_T) (T))) hP [2, 3, 4, 5, 6, 7] rfl) hK (hD.sub [2, 3, 4, 5, 6, 7] (by decide) rfl) hN⟩ rfl rfl hl.1 rfl (lv_room (Nat.le_of_ble_eq_true rfl)) dX2_groupRow_85 ⟨Nat.le_refl _, Nat.le_refl _⟩) hP hD hS hA [2, 3, 4, 5, 6, 7] [0, 1] [0, 1, 2, 3, 4, 5, 6, 7] rfl rfl (by decide) (fun _ => rfl) (fun u_32 H locs hP hD hS hz => ?_)
          refine lv_iload hx hb dX2_groupRow_88 (lv_at hl 0 rfl) ?_
          obtain ⟨T_33, e_34, h⟩ := bd1_e h
          have mo_36 : (tR T) ≤ (tR T_33) := mo_Tr_addAt T x4 r_30 r_4 (T_33) e_34
          refine z_gov (wc := (zTr cI (h_T) (q_T) (T))) (wn := fun u_35 => (zPk cI h_P q_P h_T c_row) ++ (zTr cI h_T q_T T_33)) (wr := ([0, 1].filterMap (fun i => ((zPk cI h_P q_P h_T c_row) ++ (zTr cI h_T q_T T))[i]?))) (va_runV (As := [vI x4, vI r_30, vI r_4]) (rest := []) hF.1 (c_Tr_addAt l D cI cZ cT h_T q_T T x4 r_30 r_4 H.size (T_33) e_34) (cwV 3 hts (zgV wm699 wm518 wm519 wm33 wm520) rfl rfl rfl (by decide +kernel) ⟨Nat.le_of_ble_eq_true rfl, Nat.le_of_ble_eq_true rfl⟩) ⟨zP.blind, va_recv hK (z_subP (ws' := (zTr cI (h_T) (q_T) (T))) hP [2, 3, 4, 5, 6, 7] rfl) (ci := 4) (q0 := 0) rfl rfl, zP.enter (z_subP (ws' := (zTr cI (h_T) (q_T) (T))) hP [2, 3, 4, 5, 6, 7] rfl) hK (hD.sub [2, 3, 4, 5, 6, 7] (by decide) rfl) hN⟩ rfl rfl hl.1 rfl (lv_room (Nat.le_of_ble_eq_true rfl)) dX2_groupRow_90 ⟨Nat.le_refl _, Nat.le_refl _⟩) hP hD hS hA [2, 3, 4, 5, 6, 7] [0, 1] [0, 1, 2, 3, 4, 5, 6, 7] rfl rfl (by decide) (fun _ => rfl) (fun u_35 H locs hP hD hS hz => ?_)
          refine lv_iinc (v := Int32.ofInt (x5 + 1)) (lv' := [(5, vI (x5 + 1)), (6, vI r_4), (0, .ref h_P), (1, vI x1), (2, vI x2), (3, vI x3), (4, vI x4)]) hx hb dX2_groupRow_93 hl (k := 6) rfl (z_inc _ _) (by decide) rfl (fun ls hl => ?_)
          refine lv_goto (tgt := 8) hx hb dX2_groupRow_96 (by decide) ?_
          exact ih (x3) (x4) ((x5 + 1)) (c_row) (T_33) H locs ls h hP hD hS (lv_sub hl [2, 3, 4, 5, 6, 0] rfl)
        · have h := it_n b_29 h
          refine lv_aload_n hx hb dX2_groupRow_50 rfl (lv_at hl 1 rfl) ?_
          refine va_get (D := D) (ci := 2) (v := .ref h_T) (C := RX2) (T := TX2) (N := 2) hx hb hts zin2 hown hK hP 0 rfl rfl 0 (by decide) (hts _ wm163) (fun _ h9 => h9) rfl dX2_groupRow_51 ?_
          refine lv_iload_n hx hb dX2_groupRow_54 rfl (lv_at hl 3 rfl) ?_
          obtain ⟨r_37, T_38, e_39, h⟩ := bd2_e h
          have mo_41 : (tR T) ≤ (tR T_38) := mo_Tr_newNode T x2 (r_37, T_38) e_39
          refine z_goi (ws' := []) (ret := r_37) (wc := (zTr cI (h_T) (q_T) (T))) (wn := fun u_40 => (zPk cI h_P q_P h_T c_row) ++ (zTr cI h_T q_T T_38)) (wr := ([0, 1].filterMap (fun i => ((zPk cI h_P q_P h_T c_row) ++ (zTr cI h_T q_T T))[i]?))) (va_runV (As := [vI x2]) (rest := []) hF.1 (c_Tr_newNode l D cI cZ cT h_T q_T T x2 H.size (r_37, T_38) e_39) (cwV 1 hts (zgV wm678 wm569 wm570 wm33 wm571) rfl rfl rfl (by decide +kernel) ⟨Nat.le_of_ble_eq_true rfl, Nat.le_of_ble_eq_true rfl⟩) ⟨zP.blind, va_recv hK (z_subP (ws' := (zTr cI (h_T) (q_T) (T))) hP [2, 3, 4, 5, 6, 7] rfl) (ci := 4) (q0 := 0) rfl rfl, zP.enter (z_subP (ws' := (zTr cI (h_T) (q_T) (T))) hP [2, 3, 4, 5, 6, 7] rfl) hK (hD.sub [2, 3, 4, 5, 6, 7] (by decide) rfl) hN⟩ rfl rfl hl.1 rfl (lv_room (Nat.le_of_ble_eq_true rfl)) dX2_groupRow_55 ⟨Nat.le_refl _, Nat.le_refl _⟩) hP hD hS hA [2, 3, 4, 5, 6, 7] [0, 1] [0, 1, 2, 3, 4, 5, 6, 7] rfl rfl (by decide) (fun _ => rfl) (fun u_40 H locs hP hD hS hz => ?_)
          refine lv_istore (lv' := [(4, vI r_37), (6, vI r_4), (0, .ref h_P), (1, vI x1), (2, vI x2), (3, vI x3), (5, vI x5)]) hx hb dX2_groupRow_58 hl (by decide) rfl (fun ls hl => ?_)
          refine lv_aload_n hx hb dX2_groupRow_60 rfl (lv_at hl 2 rfl) ?_
          refine va_get (D := D) (ci := 2) (v := .ref (q_P 0)) (C := RX2) (T := TX2) (N := 2) hx hb hts zin2 hown hK hP 0 rfl rfl 1 (by decide) (hts _ wm164) (fun _ h9 => h9) rfl dX2_groupRow_61 ?_
          refine lv_iload_n hx hb dX2_groupRow_64 rfl (lv_at hl 5 rfl) ?_
          refine lv_iload hx hb dX2_groupRow_65 (lv_at hl 0 rfl) ?_
          obtain ⟨c_row_42, e_43, h⟩ := bd1_e h
          refine z_gov (wc := (zAr cI ((q_P 0)) (24) (c_row))) (wn := fun u_44 => (zPk cI h_P q_P h_T c_row_42) ++ (zTr cI h_T q_T T_38)) (wr := ([0, 2, 3, 4, 5, 6, 7].filterMap (fun i => ((zPk cI h_P q_P h_T c_row) ++ (zTr cI h_T q_T T_38))[i]?))) (va_runSN (As := [.ref (q_P 0), vI x3, vI r_37]) (rest := []) hF.1 (c_Rt_put l D cI cZ cT (q_P 0) 24 c_row x3 r_37 H.size (c_row_42) e_43) ⟨va_cnB 3 hts (zW_good wm61) rfl rfl rfl (hN.at 9 rfl) (hts _ wm32) (by decide +kernel) ⟨Nat.le_of_ble_eq_true rfl, Nat.le_of_ble_eq_true rfl⟩, hts _ wm60, trivial⟩ ⟨zP.blind, zP.enter (z_subP (ws' := (zAr cI ((q_P 0)) (24) (c_row))) hP [1] rfl) hK (hD.sub [1] (by decide) rfl) hN⟩ rfl rfl hl.1 rfl (lv_room (Nat.le_of_ble_eq_true rfl)) dX2_groupRow_67 ⟨Nat.le_refl _, Nat.le_refl _⟩) hP hD hS hA [1] [0, 2, 3, 4, 5, 6, 7] [0, 7, 1, 2, 3, 4, 5, 6] rfl rfl (by decide) (fun _ => rfl) (fun u_44 H locs hP hD hS hz => ?_)
          refine lv_iinc (v := Int32.ofInt (x3 + 1)) (lv' := [(3, vI (x3 + 1)), (4, vI r_37), (6, vI r_4), (0, .ref h_P), (1, vI x1), (2, vI x2), (5, vI x5)]) hx hb dX2_groupRow_70 hl (k := 5) rfl (z_inc _ _) (by decide) rfl (fun ls hl => ?_)
          refine lv_aload_n hx hb dX2_groupRow_73 rfl (lv_at hl 3 rfl) ?_
          refine va_get (D := D) (ci := 2) (v := .ref h_T) (C := RX2) (T := TX2) (N := 2) hx hb hts zin2 hown hK hP 0 rfl rfl 0 (by decide) (hts _ wm163) (fun _ h9 => h9) rfl dX2_groupRow_74 ?_
          refine lv_iload hx hb dX2_groupRow_77 (lv_at hl 1 rfl) ?_
          refine lv_aload_n hx hb dX2_groupRow_79 rfl (lv_at hl 3 rfl) ?_
          refine va_get (D := D) (ci := 2) (v := .ref h_T) (C := RX2) (T := TX2) (N := 2) hx hb hts zin2 hown hK hP 0 rfl rfl 0 (by decide) (hts _ wm163) (fun _ h9 => h9) rfl dX2_groupRow_80 ?_
          refine lv_iload hx hb dX2_groupRow_83 (lv_at hl 1 rfl) ?_
          obtain ⟨r_45, e_46, h⟩ := bd1_e h
          refine z_goi (ws' := []) (ret := r_45) (wc := (zTr cI (h_T) (q_T) (T_38))) (wn := fun u_47 => (zPk cI h_P q_P h_T c_row_42) ++ (zTr cI h_T q_T T_38)) (wr := ([0, 1].filterMap (fun i => ((zPk cI h_P q_P h_T c_row_42) ++ (zTr cI h_T q_T T_38))[i]?))) (va_runV (As := [vI r_37]) (rest := [vI r_37, .ref h_T]) hF.1 (c_Tr_sizeOf l D cI cZ cT h_T q_T T_38 r_37 H.size (r_45) e_46) (cwV 1 hts (zgV wm698 wm231 wm232 wm33 wm233) rfl rfl rfl (by decide +kernel) ⟨Nat.le_of_ble_eq_true rfl, Nat.le_of_ble_eq_true rfl⟩) ⟨zP.blind, va_recv hK (z_subP (ws' := (zTr cI (h_T) (q_T) (T_38))) hP [2, 3, 4, 5, 6, 7] rfl) (ci := 4) (q0 := 0) rfl rfl, zP.enter (z_subP (ws' := (zTr cI (h_T) (q_T) (T_38))) hP [2, 3, 4, 5, 6, 7] rfl) hK (hD.sub [2, 3, 4, 5, 6, 7] (by decide) rfl) hN⟩ rfl rfl hl.1 rfl (lv_room (Nat.le_of_ble_eq_true rfl)) dX2_groupRow_85 ⟨Nat.le_refl _, Nat.le_refl _⟩) hP hD hS hA [2, 3, 4, 5, 6, 7] [0, 1] [0, 1, 2, 3, 4, 5, 6, 7] rfl rfl (by decide) (fun _ => rfl) (fun u_47 H locs hP hD hS hz => ?_)
          refine lv_iload hx hb dX2_groupRow_88 (lv_at hl 2 rfl) ?_
          obtain ⟨T_48, e_49, h⟩ := bd1_e h
          have mo_51 : (tR T_38) ≤ (tR T_48) := mo_Tr_addAt T_38 r_37 r_45 r_4 (T_48) e_49
          refine z_gov (wc := (zTr cI (h_T) (q_T) (T_38))) (wn := fun u_50 => (zPk cI h_P q_P h_T c_row_42) ++ (zTr cI h_T q_T T_48)) (wr := ([0, 1].filterMap (fun i => ((zPk cI h_P q_P h_T c_row_42) ++ (zTr cI h_T q_T T_38))[i]?))) (va_runV (As := [vI r_37, vI r_45, vI r_4]) (rest := []) hF.1 (c_Tr_addAt l D cI cZ cT h_T q_T T_38 r_37 r_45 r_4 H.size (T_48) e_49) (cwV 3 hts (zgV wm699 wm518 wm519 wm33 wm520) rfl rfl rfl (by decide +kernel) ⟨Nat.le_of_ble_eq_true rfl, Nat.le_of_ble_eq_true rfl⟩) ⟨zP.blind, va_recv hK (z_subP (ws' := (zTr cI (h_T) (q_T) (T_38))) hP [2, 3, 4, 5, 6, 7] rfl) (ci := 4) (q0 := 0) rfl rfl, zP.enter (z_subP (ws' := (zTr cI (h_T) (q_T) (T_38))) hP [2, 3, 4, 5, 6, 7] rfl) hK (hD.sub [2, 3, 4, 5, 6, 7] (by decide) rfl) hN⟩ rfl rfl hl.1 rfl (lv_room (Nat.le_of_ble_eq_true rfl)) dX2_groupRow_90 ⟨Nat.le_refl _, Nat.le_refl _⟩) hP hD hS hA [2, 3, 4, 5, 6, 7] [0, 1] [0, 1, 2, 3, 4, 5, 6, 7] rfl rfl (by decide) (fun _ => rfl) (fun u_50 H locs hP hD hS hz => ?_)
          refine lv_iinc (v := Int32.ofInt (x5 + 1)) (lv' := [(5, vI (x5 + 1)), (3, vI (x3 + 1)), (4, vI r_37), (6, vI r_4), (0, .ref h_P), (1, vI x1), (2, vI x2)]) hx hb dX2_groupRow_93 hl (k := 6) rfl (z_inc _ _) (by decide) rfl (fun ls hl => ?_)
          refine lv_goto (tgt := 8) hx hb dX2_groupRow_96 (by decide) ?_
          exact ih ((x3 + 1)) (r_37) ((x5 + 1)) (c_row_42) (T_48) H locs ls h hP hD hS (lv_sub hl [4, 5, 6, 1, 2, 0] rfl)
set_option maxHeartbeats 4000000 in
set_option maxRecDepth 100000 in
theorem c_Pk_groupRow (l : Launch) (D : va_G) (cI cZ cT : ClassId) (h_P : Nat) (q_P : Nat → Nat) (h_T : Nat) (q_T : Nat → Nat) (c_row : Nat → Int) (T : TV) (x1 : Int) (x2 : Int) (sz : Nat) (res : Int × (Nat → Int) × TV) (h : f_Pk_groupRow c_row T x1 x2 = some res) : zMi l yX2_groupRow cX2_groupRow 7 rm_Pk_groupRow D (zt cI cZ cT) [.ref h_P, vI x1, vI x2] ((zPk cI h_P q_P h_T c_row) ++ (zTr cI h_T q_T T)) sz (res.1) (fun u => (zPk cI h_P q_P h_T (res.2.1)) ++ (zTr cI h_T q_T (res.2.2))) 0 0 := by
  refine z_enth (Qc := zQi D (res.1) (fun u => (zPk cI h_P q_P h_T (res.2.1)) ++ (zTr cI h_T q_T (res.2.2)))) (by decide) (Nat.le_of_ble_eq_true rfl) (fun p e s m args below meth c A ls H locs hF hP hD hS hl => ?_)
  have hx := hF.1.1
  have hb := hF.1.2.1
  have hml := hF.1.2.2.1
  have hown : s.vm.findClass "RectangleTree$Packing" = some m.cls := hF.1.2.2.2.1
  have hts := hF.1.2.2.2.2
  have hr := hF.2.1
  have hlk := hF.2.2.1
  have hK := hF.2.2.2.2.1
  have hN := hF.2.2.2.2.2.1
  have hA := hF.2.2.2.2.2.2
  unfold f_Pk_groupRow at h
  refine lv_iconst (v := Int32.ofInt 0) hx hb dX2_groupRow_0 rfl ?_
  refine lv_istore_n (lv' := [(3, vI 0), (0, .ref h_P), (1, vI x1), (2, vI x2)]) hx hb dX2_groupRow_1 rfl hl (by decide) rfl (fun ls hl => ?_)
  refine lv_iconst (v := Int32.ofInt (-1)) hx hb dX2_groupRow_2 rfl ?_
  refine lv_istore (lv' := [(4, vI (-1)), (3, vI 0), (0, .ref h_P), (1, vI x1), (2, vI x2)]) hx hb dX2_groupRow_3 hl (by decide) rfl (fun ls hl => ?_)
  refine lv_iconst (v := Int32.ofInt 0) hx hb dX2_groupRow_5 rfl ?_
  refine lv_istore (lv' := [(5, vI 0), (4, vI (-1)), (3, vI 0), (0, .ref h_P), (1, vI x1), (2, vI x2)]) hx hb dX2_groupRow_6 hl (by decide) rfl (fun ls hl => ?_)
  refine w_Pk_groupRow_L8 D cI cZ cT (h_P) (q_P) (h_T) (q_T) (x1) (x2) _ _ hF (fun x3_52 x4_53 x5_54 c_row_55 T_56 H locs ls h hP hD hS hl => ?_) _ (0) ((-1)) (0) (c_row) (T) _ _ _ h hP hD hS (lv_sub hl [3, 4, 5, 2, 1, 0] rfl)
  refine lv_iload_n hx hb dX2_groupRow_99 rfl (lv_at hl 0 rfl) ?_
  obtain rfl := Option.some.inj h
  exact z_iret hx hb hr hlk (fun _ _ => 0) hP hD hS dX2_groupRow_100
def f_Pk_rebuild_L76 (T : TV) (x1 : Int) (x2 : Int) (k : Int → (Nat → Int) → Option ((Nat → Int) × TV)) : Nat → Int → (Nat → Int) → Option ((Nat → Int) × TV)
  | 0, _, _ => none
  | n + 1, x3, c_row =>
  gd (ck x3) <| gd (ck x1) <| if x3 < x1 then (gd (ck x2) <| if 0 < x2 then (gd (ck (x3 + x2)) <| bd1 (f_Pk_sortPart c_row T x3 (min (x3 + x2) x1) 1) <| fun c_row_27 => f_Pk_rebuild_L76 T x1 x2 k n ((x3 + x2)) (c_row_27)) else (k (x3) (c_row))) else (k (x3) (c_row))
def f_Pk_rebuild_L107 (k : Int → Int → (Nat → Int) → TV → Option ((Nat → Int) × TV)) : Nat → Int → Int → (Nat → Int) → TV → Option ((Nat → Int) × TV)
  | 0, _, _, _, _ => none
  | n + 1, x1, x3, c_row, T =>
  gd (ck x3) <| if x3 < 24 then (if x3 = 0 then (bd3 (f_Pk_groupRow c_row T x1 x3) <| fun r_35 c_row_36 T_37 => f_Pk_rebuild_L107 k n (r_35) ((x3 + 1)) (c_row_36) (T_37)) else (gd (ck x1) <| if 1 < x1 then (bd3 (f_Pk_groupRow c_row T x1 x3) <| fun r_43 c_row_44 T_45 => f_Pk_rebuild_L107 k n (r_43) ((x3 + 1)) (c_row_44) (T_45)) else (k (x1) (x3) (c_row) (T)))) else (k (x1) (x3) (c_row) (T))
def f_Pk_rebuild (c_row : Nat → Int) (T : TV) : Option ((Nat → Int) × TV) :=
  bd2 (f_Pk_listBoxes c_row T) <| fun r_1 c_row_2 => bd1 (f_Tr_releaseNodes T) <| fun T_5 => gd (ck r_1) <| if r_1 = 0 then (bd2 (f_Tr_newNode T_5 0) <| fun r_56 T_57 => some (c_row_2, (sRoot T_57 r_56))) else (gd (ck (tCap T_5)) <| gd (((0 : Int) ≤ ((r_1 + (tCap T_5)) - 1) ∧ ((r_1 + (tCap T_5)) - 1) ≤ 2147483647) ∧ (0 : Int) < (max (tCap T_5) 1) ∧ ((max (tCap T_5) 1) : Int) ≤ 2147483647) <| bd1 (f_Pk_leastRoot (((r_1 + (tCap T_5)) - 1) / (max (tCap T_5) 1))) <| fun r_14 => bd1 (f_Pk_sortPart c_row_2 T_5 0 r_1 0) <| fun c_row_17 => f_Pk_rebuild_L76 (T_5) (r_1) ((r_14 * (tCap T_5))) (fun x3_30 c_row_31 => f_Pk_rebuild_L107 (fun x1_49 x3_50 c_row_51 T_52 => bd1 (f_Rt_at 24 c_row_51 0) <| fun r_53 => some (c_row_51, (sRoot T_52 r_53))) FU (r_1) (0) (c_row_31) (T_5)) FU (0) (c_row_17))
abbrev rm_Pk_rebuild : Room := ({ frames := 4, cells := 0, slots := 0, locals := 108 } : Room)
theorem mo_Pk_rebuild_L76 (T : TV) (x1 : Int) (x2 : Int) (res : (Nat → Int) × TV) (k : Int → (Nat → Int) → Option ((Nat → Int) × TV)) (hkm : ∀ (x3 : Int) (c_row : Nat → Int) , k x3 c_row = some res → (tR T) ≤ (tR (res.2))) : ∀ (n : Nat) (x3 : Int) (c_row : Nat → Int) , f_Pk_rebuild_L76 T x1 x2 k n x3 c_row = some res → (tR T) ≤ (tR (res.2)) := by
  intro n
  induction n with
  | zero => intro x3 c_row h; cases h
  | succ n ihm =>
    intro x3 c_row h
    rw [f_Pk_rebuild_L76] at h
    obtain ⟨g_20, h⟩ := gd_e h
    obtain ⟨g_21, h⟩ := gd_e h
    rcases it_e h with ⟨_, h⟩ | ⟨_, h⟩
    · obtain ⟨g_23, h⟩ := gd_e h
      rcases it_e h with ⟨_, h⟩ | ⟨_, h⟩
      · obtain ⟨g_25, h⟩ := gd_e h
        obtain ⟨c_row_27, e_28, h⟩ := bd1_e h
        have mo9 : (tR T) ≤ (tR (res.2)) := ihm ((x3 + x2)) (c_row_27) h
        exact (show (tR T) ≤ (tR (res.2)) from by omega)
      · have mo9 : (tR T) ≤ (tR (res.2)) := hkm (x3) (c_row) h
        exact (show (tR T) ≤ (tR (res.2)) from by omega)
    · have mo9 : (tR T) ≤ (tR (res.2)) := hkm (x3) (c_row) h
      exact (show (tR T) ≤ (tR (res.2)) from by omega)
theorem mo_Pk_rebuild_L107 (res : (Nat → Int) × TV) (k : Int → Int → (Nat → Int) → TV → Option ((Nat → Int) × TV)) (hkm : ∀ (x1 : Int) (x3 : Int) (c_row : Nat → Int) (T : TV) , k x1 x3 c_row T = some res → (tR T) ≤ (tR (res.2))) : ∀ (n : Nat) (x1 : Int) (x3 : Int) (c_row : Nat → Int) (T : TV) , f_Pk_rebuild_L107 k n x1 x3 c_row T = some res → (tR T) ≤ (tR (res.2)) := by
  intro n
  induction n with
  | zero => intro x1 x3 c_row T h; cases h
  | succ n ihm =>
    intro x1 x3 c_row T h
    rw [f_Pk_rebuild_L107] at h
    obtain ⟨g_32, h⟩ := gd_e h
    rcases it_e h with ⟨_, h⟩ | ⟨_, h⟩
    · rcases it_e h with ⟨_, h⟩ | ⟨_, h⟩
      · obtain ⟨r_35, c_row_36, T_37, e_38, h⟩ := bd3_e h
        have mo_40 : (tR T) ≤ (tR T_37) := mo_Pk_groupRow c_row T x1 x3 (r_35, c_row_36, T_37) e_38
        have mo9 : (tR T_37) ≤ (tR (res.2)) := ihm (r_35) ((x3 + 1)) (c_row_36) (T_37) h
        exact (show (tR T) ≤ (tR (res.2)) from by omega)
      · obtain ⟨g_41, h⟩ := gd_e h
        rcases it_e h with ⟨_, h⟩ | ⟨_, h⟩
        · obtain ⟨r_43, c_row_44, T_45, e_46, h⟩ := bd3_e h
          have mo_48 : (tR T) ≤ (tR T_45) := mo_Pk_groupRow c_row T x1 x3 (r_43, c_row_44, T_45) e_46
          have mo9 : (tR T_45) ≤ (tR (res.2)) := ihm (r_43) ((x3 + 1)) (c_row_44) (T_45) h
          exact (show (tR T) ≤ (tR (res.2)) from by omega)
        · have mo9 : (tR T) ≤ (tR (res.2)) := hkm (x1) (x3) (c_row) (T) h
          exact (show (tR T) ≤ (tR (res.2)) from by omega)
    · have mo9 : (tR T) ≤ (tR (res.2)) := hkm (x1) (x3) (c_row) (T) h
      exact (show (tR T) ≤ (tR (res.2)) from by omega)
theorem mo_Pk_rebuild (c_row : Nat → Int) (T : TV) (res : (Nat → Int) × TV) (h : f_Pk_rebuild c_row T = some res) : (tR T) ≤ (tR (res.2)) := by
  unfold f_Pk_rebuild at h
  obtain ⟨r_1, c_row_2, e_3, h⟩ := bd2_e h
  obtain ⟨T_5, e_6, h⟩ := bd1_e h
  have mo_8 : (tR T) ≤ (tR T_5) := mo_Tr_releaseNodes T (T_5) e_6
  obtain ⟨g_9, h⟩ := gd_e h
  rcases it_e h with ⟨_, h⟩ | ⟨_, h⟩
  · obtain ⟨r_56, T_57, e_58, h⟩ := bd2_e h
    have mo_60 : (tR T_5) ≤ (tR T_57) := mo_Tr_newNode T_5 0 (r_56, T_57) e_58
    obtain rfl := Option.some.inj h
    exact (show (tR T) ≤ (tR T_57) from by omega)
  · obtain ⟨g_11, h⟩ := gd_e h
    obtain ⟨g_13, h⟩ := gd_e h
    obtain ⟨r_14, e_15, h⟩ := bd1_e h
    obtain ⟨c_row_17, e_18, h⟩ := bd1_e h
    have mo9 : (tR T_5) ≤ (tR (res.2)) := mo_Pk_rebuild_L76 (T_5) (r_1) ((r_14 * (tCap T_5))) _ _ (fun x3_30 c_row_31 h => by
        have mo9 : (tR T_5) ≤ (tR (res.2)) := mo_Pk_rebuild_L107  _ _ (fun x1_49 x3_50 c_row_51 T_52 h => by
            obtain ⟨r_53, e_54, h⟩ := bd1_e h
            obtain rfl := Option.some.inj h
            exact (show (tR T_52) ≤ (tR T_52) from by omega)) _ (r_1) (0) (c_row_31) (T_5) h
        exact (show (tR T_5) ≤ (tR (res.2)) from by omega)) _ (0) (c_row_17) h
    exact (show (tR T) ≤ (tR (res.2)) from by omega)
set_option maxHeartbeats 4000000 in
set_option maxRecDepth 100000 in
theorem w_Pk_rebuild_L76 {p : Program} {l : Launch} {e : Env} {s : State} {m : MethodId} {args : Array Value} {below : List Frame} {meth : Method} {c : Code} {A : Nat → Prop} (D : va_G) (cI cZ cT : ClassId) (h_P : Nat) (q_P : Nat → Nat) (h_T : Nat) (q_T : Nat → Nat) (T : TV) (x1 : Int) (x2 : Int) (res : (Nat → Int) × TV) (k : Int → (Nat → Int) → Option ((Nat → Int) × TV)) (hF : zF p m c cX2_rebuild 4 s args yX2_rebuild.cls meth none yX2_rebuild.name A D (zt cI cZ cT))
    (hk : ∀ (x3 : Int) (c_row : Nat → Int) (H : Heap) (locs : List Loc) (ls : Array Slot), k x3 c_row = some res → va_P D vwCl ((zPk cI h_P q_P h_T c_row) ++ (zTr cI h_T q_T T)) H → va_D A ((zPk cI h_P q_P h_T c_row) ++ (zTr cI h_T q_T T)) → va_S A s.heap H locs → lv_has ls 4 [(0, .ref h_P), (1, vI x1)] → W p l e rm_Pk_rebuild s m args below meth c H locs 0 0 (MQ below (zQv D (fun u => (zPk cI h_P q_P h_T (res.1)) ++ (zTr cI h_T q_T (res.2))) A) args s 0 0 A) (F0 m 105 ls [])) :
    ∀ (n : Nat) (x3 : Int) (c_row : Nat → Int) (H : Heap) (locs : List Loc) (ls : Array Slot), f_Pk_rebuild_L76 T x1 x2 k n x3 c_row = some res → va_P D vwCl ((zPk cI h_P q_P h_T c_row) ++ (zTr cI h_T q_T T)) H → va_D A ((zPk cI h_P q_P h_T c_row) ++ (zTr cI h_T q_T T)) → va_S A s.heap H locs → lv_has ls 4 [(0, .ref h_P), (1, vI x1), (2, vI x2), (3, vI x3)] → W p l e rm_Pk_rebuild s m args below meth c H locs 0 0 (MQ below (zQv D (fun u => (zPk cI h_P q_P h_T (res.1)) ++ (zTr cI h_T q_T (res.2))) A) args s 0 0 A) (F0 m 76 ls []) := by
  have hx := hF.1.1
  have hb := hF.1.2.1
  have hml := hF.1.2.2.1
  have hown : s.vm.findClass "RectangleTree$Packing" = some m.cls := hF.1.2.2.2.1
  have hts := hF.1.2.2.2.2
  have hr := hF.2.1
  have hlk := hF.2.2.1
  have hK := hF.2.2.2.2.1
  have hN := hF.2.2.2.2.2.1
  have hA := hF.2.2.2.2.2.2
  intro n
  induction n with
  | zero => intro x3 c_row  H locs ls h; cases h
  | succ n ih =>
    intro x3 c_row  H locs ls h  hP hD hS hl
    rw [f_Pk_rebuild_L76] at h
    refine lv_iload_n hx hb dX2_rebuild_76 rfl (lv_at hl 3 rfl) ?_
    refine lv_iload_n hx hb dX2_rebuild_77 rfl (lv_at hl 1 rfl) ?_
    obtain ⟨g_20, h⟩ := gd_e h
    obtain ⟨g_21, h⟩ := gd_e h
    refine z_icmp_ge (tgt := 105) hx hb g_20 g_21 dX2_rebuild_78 (by decide) (fun b_22 => ?_) (fun b_22 => ?_)
    · have h := it_n b_22 h
      exact hk (x3) (c_row) H locs ls h hP hD hS (lv_sub hl [0, 1] rfl)
    · have h := it_p b_22 h
      refine lv_iload_n hx hb dX2_rebuild_81 rfl (lv_at hl 2 rfl) ?_
      obtain ⟨g_23, h⟩ := gd_e h
      refine z_if_le (tgt := 105) hx hb g_23 dX2_rebuild_82 (by decide) (fun b_24 => ?_) (fun b_24 => ?_)
      · have h := it_n b_24 h
        exact hk (x3) (c_row) H locs ls h hP hD hS (lv_sub hl [0, 1] rfl)
      · have h := it_p b_24 h
        refine lv_aload_n hx hb dX2_rebuild_85 rfl (lv_at hl 0 rfl) ?_
        refine lv_iload_n hx hb dX2_rebuild_86 rfl (lv_at hl 3 rfl) ?_
        refine lv_iload_n hx hb dX2_rebuild_87 rfl (lv_at hl 3 rfl) ?_
        refine lv_iload_n hx hb dX2_rebuild_88 rfl (lv_at hl 2 rfl) ?_
        refine z_iadd hx hb dX2_rebuild_89 ?_
        refine lv_iload_n hx hb dX2_rebuild_90 rfl (lv_at hl 1 rfl) ?_
        obtain ⟨g_25, h⟩ := gd_e h
        refine z_mmin (rest := [vI x3, .ref h_P]) hx hb (by rw [hml]; exact hl.1.symm) hown (hts _ wm693) (hts _ wm401) (hts _ wm40) (hts _ wm402) (Nat.le_of_ble_eq_true rfl) (Nat.le_of_ble_eq_true rfl) (Nat.le_refl _) (Nat.le_refl _) g_25 g_21 dX2_rebuild_91 ?_
        have g_26 : ck (min (x3 + x2) x1) := ⟨by have := And.intro (show ck (x3 + x2) from g_25) (show ck x1 from g_21); omega, by have := And.intro (show ck (x3 + x2) from g_25) (show ck x1 from g_21); omega⟩
        refine lv_iconst (v := Int32.ofInt 1) hx hb dX2_rebuild_94 rfl ?_
        obtain ⟨c_row_27, e_28, h⟩ := bd1_e h
        refine z_gov (wc := (zPk cI (h_P) (q_P) (h_T) (c_row)) ++ (zTr cI (h_T) (q_T) (T))) (wn := fun u_29 => (zPk cI h_P q_P h_T c_row_27) ++ (zTr cI h_T q_T T)) (wr := []) (va_runV (As := [vI x3, vI (min (x3 + x2) x1), vI 1]) (rest := []) hF.1 (c_Pk_sortPart l D cI cZ cT h_P q_P h_T q_T c_row T x3 (min (x3 + x2) x1) 1 H.size (c_row_27) e_28) (cwV 3 hts (zgV wm683 wm685 wm25 wm37 wm686) rfl rfl rfl (by decide +kernel) ⟨Nat.le_of_ble_eq_true rfl, Nat.le_of_ble_eq_true rfl⟩) ⟨zP.blind, va_recv hK (z_subP (ws' := (zPk cI (h_P) (q_P) (h_T) (c_row)) ++ (zTr cI (h_T) (q_T) (T))) hP [0, 1, 2, 3, 4, 5, 6, 7] rfl) (ci := 2) (q0 := 0) rfl rfl, zP.enter (z_subP (ws' := (zPk cI (h_P) (q_P) (h_T) (c_row)) ++ (zTr cI (h_T) (q_T) (T))) hP [0, 1, 2, 3, 4, 5, 6, 7] rfl) hK (hD.sub [0, 1, 2, 3, 4, 5, 6, 7] (by decide) rfl) hN⟩ rfl rfl hl.1 rfl (lv_room (Nat.le_of_ble_eq_true rfl)) dX2_rebuild_95 ⟨Nat.le_refl _, Nat.le_refl _⟩) hP hD hS hA [0, 1, 2, 3, 4, 5, 6, 7] [] [0, 1, 2, 3, 4, 5, 6, 7] rfl rfl (by decide) (fun _ => rfl) (fun u_29 H locs hP hD hS hz => ?_)
        refine lv_iload_n hx hb dX2_rebuild_98 rfl (lv_at hl 3 rfl) ?_
        refine lv_iload_n hx hb dX2_rebuild_99 rfl (lv_at hl 2 rfl) ?_
        refine z_iadd hx hb dX2_rebuild_100 ?_
        refine lv_istore_n (lv' := [(3, vI (x3 + x2)), (0, .ref h_P), (1, vI x1), (2, vI x2)]) hx hb dX2_rebuild_101 rfl hl (by decide) rfl (fun ls hl => ?_)
        refine lv_goto (tgt := 76) hx hb dX2_rebuild_102 (by decide) ?_
        exact ih ((x3 + x2)) (c_row_27) H locs ls h hP hD hS (lv_sub hl [1, 2, 3, 0] rfl)
set_option maxHeartbeats 4000000 in
set_option maxRecDepth 100000 in
theorem w_Pk_rebuild_L107 {p : Program} {l : Launch} {e : Env} {s : State} {m : MethodId} {args : Array Value} {below : List Frame} {meth : Method} {c : Code} {A : Nat → Prop} (D : va_G) (cI cZ cT : ClassId) (h_P : Nat) (q_P : Nat → Nat) (h_T : Nat) (q_T : Nat → Nat) (res : (Nat → Int) × TV) (k : Int → Int → (Nat → Int) → TV → Option ((Nat → Int) × TV)) (hF : zF p m c cX2_rebuild 4 s args yX2_rebuild.cls meth none yX2_rebuild.name A D (zt cI cZ cT))
    (hk : ∀ (x1 : Int) (x3 : Int) (c_row : Nat → Int) (T : TV) (H : Heap) (locs : List Loc) (ls : Array Slot), k x1 x3 c_row T = some res → va_P D vwCl ((zPk cI h_P q_P h_T c_row) ++ (zTr cI h_T q_T T)) H → va_D A ((zPk cI h_P q_P h_T c_row) ++ (zTr cI h_T q_T T)) → va_S A s.heap H locs → lv_has ls 4 [(0, .ref h_P)] → W p l e rm_Pk_rebuild s m args below meth c H locs 0 0 (MQ below (zQv D (fun u => (zPk cI h_P q_P h_T (res.1)) ++ (zTr cI h_T q_T (res.2))) A) args s 0 0 A) (F0 m 135 ls [])) :
    ∀ (n : Nat) (x1 : Int) (x3 : Int) (c_row : Nat → Int) (T : TV) (H : Heap) (locs : List Loc) (ls : Array Slot), f_Pk_rebuild_L107 k n x1 x3 c_row T = some res → va_P D vwCl ((zPk cI h_P q_P h_T c_row) ++ (zTr cI h_T q_T T)) H → va_D A ((zPk cI h_P q_P h_T c_row) ++ (zTr cI h_T q_T T)) → va_S A s.heap H locs → lv_has ls 4 [(0, .ref h_P), (1, vI x1), (3, vI x3)] → W p l e rm_Pk_rebuild s m args below meth c H locs 0 0 (MQ below (zQv D (fun u => (zPk cI h_P q_P h_T (res.1)) ++ (zTr cI h_T q_T (res.2))) A) args s 0 0 A) (F0 m 107 ls []) := by
  have hx := hF.1.1
  have hb := hF.1.2.1
  have hml := hF.1.2.2.1
  have hown : s.vm.findClass "RectangleTree$Packing" = some m.cls := hF.1.2.2.2.1
  have hts := hF.1.2.2.2.2
  have hr := hF.2.1
  have hlk := hF.2.2.1
  have hK := hF.2.2.2.2.1
  have hN := hF.2.2.2.2.2.1
  have hA := hF.2.2.2.2.2.2
  intro n
  induction n with
  | zero => intro x1 x3 c_row T  H locs ls h; cases h
  | succ n ih =>
    intro x1 x3 c_row T  H locs ls h  hP hD hS hl
    rw [f_Pk_rebuild_L107] at h
    refine lv_iload_n hx hb dX2_rebuild_107 rfl (lv_at hl 2 rfl) ?_
    refine lv_bipush (v := Int32.ofInt 24) hx hb dX2_rebuild_108 (by decide +kernel) ?_
    obtain ⟨g_32, h⟩ := gd_e h
    refine z_icmp_ge (tgt := 135) hx hb g_32 (by decide) dX2_rebuild_110 (by decide) (fun b_33 => ?_) (fun b_33 => ?_)
    · have h := it_n b_33 h
      exact hk (x1) (x3) (c_row) (T) H locs ls h hP hD hS (lv_sub hl [0] rfl)
    · have h := it_p b_33 h
      refine lv_iload_n hx hb dX2_rebuild_113 rfl (lv_at hl 2 rfl) ?_
      refine z_if_eq (tgt := 122) hx hb g_32 dX2_rebuild_114 (by decide) (fun b_34 => ?_) (fun b_34 => ?_)
      · have h := it_p b_34 h
        refine lv_aload_n hx hb dX2_rebuild_122 rfl (lv_at hl 0 rfl) ?_
        refine lv_iload_n hx hb dX2_rebuild_123 rfl (lv_at hl 1 rfl) ?_
        refine lv_iload_n hx hb dX2_rebuild_124 rfl (lv_at hl 2 rfl) ?_
        obtain ⟨r_35, c_row_36, T_37, e_38, h⟩ := bd3_e h
        have mo_40 : (tR T) ≤ (tR T_37) := mo_Pk_groupRow c_row T x1 x3 (r_35, c_row_36, T_37) e_38
        refine z_goi (ws' := []) (ret := r_35) (wc := (zPk cI (h_P) (q_P) (h_T) (c_row)) ++ (zTr cI (h_T) (q_T) (T))) (wn := fun u_39 => (zPk cI h_P q_P h_T c_row_36) ++ (zTr cI h_T q_T T_37)) (wr := []) (va_runV (As := [vI x1, vI x3]) (rest := []) hF.1 (c_Pk_groupRow l D cI cZ cT h_P q_P h_T q_T c_row T x1 x3 H.size (r_35, c_row_36, T_37) e_38) (cwV 2 hts (zgV wm694 wm696 wm27 wm37 wm697) rfl rfl rfl (by decide +kernel) ⟨Nat.le_of_ble_eq_true rfl, Nat.le_of_ble_eq_true rfl⟩) ⟨zP.blind, va_recv hK (z_subP (ws' := (zPk cI (h_P) (q_P) (h_T) (c_row)) ++ (zTr cI (h_T) (q_T) (T))) hP [0, 1, 2, 3, 4, 5, 6, 7] rfl) (ci := 2) (q0 := 0) rfl rfl, zP.enter (z_subP (ws' := (zPk cI (h_P) (q_P) (h_T) (c_row)) ++ (zTr cI (h_T) (q_T) (T))) hP [0, 1, 2, 3, 4, 5, 6, 7] rfl) hK (hD.sub [0, 1, 2, 3, 4, 5, 6, 7] (by decide) rfl) hN⟩ rfl rfl hl.1 rfl (lv_room (Nat.le_of_ble_eq_true rfl)) dX2_rebuild_125 ⟨Nat.le_refl _, Nat.le_refl _⟩) hP hD hS hA [0, 1, 2, 3, 4, 5, 6, 7] [] [0, 1, 2, 3, 4, 5, 6, 7] rfl rfl (by decide) (fun _ => rfl) (fun u_39 H locs hP hD hS hz => ?_)
        refine lv_istore_n (lv' := [(1, vI r_35), (0, .ref h_P), (3, vI x3)]) hx hb dX2_rebuild_128 rfl hl (by decide) rfl (fun ls hl => ?_)
        refine lv_iinc (v := Int32.ofInt (x3 + 1)) (lv' := [(3, vI (x3 + 1)), (1, vI r_35), (0, .ref h_P)]) hx hb dX2_rebuild_129 hl (k := 2) rfl (z_inc _ _) (by decide) rfl (fun ls hl => ?_)
        refine lv_goto (tgt := 107) hx hb dX2_rebuild_132 (by decide) ?_
        exact ih (r_35) ((x3 + 1)) (c_row_36) (T_37) H locs ls h hP hD hS (lv_sub hl [2, 1, 0] rfl)
      · have h := it_n b_34 h
        refine lv_iload_n hx hb dX2_rebuild_117 rfl (lv_at hl 1 rfl) ?_
        refine lv_iconst (v := Int32.ofInt 1) hx hb dX2_rebuild_118 rfl ?_
        obtain ⟨g_41, h⟩ := gd_e h
        refine z_icmp_le (tgt := 135) hx hb g_41 (by decide) dX2_rebuild_119 (by decide) (fun b_42 => ?_) (fun b_42 => ?_)
        · have h := it_n b_42 h
          exact hk (x1) (x3) (c_row) (T) H locs ls h hP hD hS (lv_sub hl [0] rfl)
        · have h := it_p b_42 h
          refine lv_aload_n hx hb dX2_rebuild_122 rfl (lv_at hl 0 rfl) ?_
          refine lv_iload_n hx hb dX2_rebuild_123 rfl (lv_at hl 1 rfl) ?_
          refine lv_iload_n hx hb dX2_rebuild_124 rfl (lv_at hl 2 rfl) ?_
          obtain ⟨r_43, c_row_44, T_45, e_46, h⟩ := bd3_e h
          have mo_48 : (tR T) ≤ (tR T_45) := mo_Pk_groupRow c_row T x1 x3 (r_43, c_row_44, T_45) e_46
          refine z_goi (ws' := []) (ret := r_43) (wc := (zPk cI (h_P) (q_P) (h_T) (c_row)) ++ (zTr cI (h_T) (q_T) (T))) (wn := fun u_47 => (zPk cI h_P q_P h_T c_row_44) ++ (zTr cI h_T q_T T_45)) (wr := []) (va_runV (As := [vI x1, vI x3]) (rest := []) hF.1 (c_Pk_groupRow l D cI cZ cT h_P q_P h_T q_T c_row T x1 x3 H.size (r_43, c_row_44, T_45) e_46) (cwV 2 hts (zgV wm694 wm696 wm27 wm37 wm697) rfl rfl rfl (by decide +kernel) ⟨Nat.le_of_ble_eq_true rfl, Nat.le_of_ble_eq_true rfl⟩) ⟨zP.blind, va_recv hK (z_subP (ws' := (zPk cI (h_P) (q_P) (h_T) (c_row)) ++ (zTr cI (h_T) (q_T) (T))) hP [0, 1, 2, 3, 4, 5, 6, 7] rfl) (ci := 2) (q0 := 0) rfl rfl, zP.enter (z_subP (ws' := (zPk cI (h_P) (q_P) (h_T) (c_row)) ++ (zTr cI (h_T) (q_T) (T))) hP [0, 1, 2, 3, 4, 5, 6, 7] rfl) hK (hD.sub [0, 1, 2, 3, 4, 5, 6, 7] (by decide) rfl) hN⟩ rfl rfl hl.1 rfl (lv_room (Nat.le_of_ble_eq_true rfl)) dX2_rebuild_125 ⟨Nat.le_refl _, Nat.le_refl _⟩) hP hD hS hA [0, 1, 2, 3, 4, 5, 6, 7] [] [0, 1, 2, 3, 4, 5, 6, 7] rfl rfl (by decide) (fun _ => rfl) (fun u_47 H locs hP hD hS hz => ?_)
          refine lv_istore_n (lv' := [(1, vI r_43), (0, .ref h_P), (3, vI x3)]) hx hb dX2_rebuild_128 rfl hl (by decide) rfl (fun ls hl => ?_)
          refine lv_iinc (v := Int32.ofInt (x3 + 1)) (lv' := [(3, vI (x3 + 1)), (1, vI r_43), (0, .ref h_P)]) hx hb dX2_rebuild_129 hl (k := 2) rfl (z_inc _ _) (by decide) rfl (fun ls hl => ?_)
          refine lv_goto (tgt := 107) hx hb dX2_rebuild_132 (by decide) ?_
          exact ih (r_43) ((x3 + 1)) (c_row_44) (T_45) H locs ls h hP hD hS (lv_sub hl [2, 1, 0] rfl)
set_option maxHeartbeats 4000000 in
set_option maxRecDepth 100000 in
theorem c_Pk_rebuild (l : Launch) (D : va_G) (cI cZ cT : ClassId) (h_P : Nat) (q_P : Nat → Nat) (h_T : Nat) (q_T : Nat → Nat) (c_row : Nat → Int) (T : TV) (sz : Nat) (res : (Nat → Int) × TV) (h : f_Pk_rebuild c_row T = some res) : zMv l yX2_rebuild cX2_rebuild 4 rm_Pk_rebuild D (zt cI cZ cT) [.ref h_P] ((zPk cI h_P q_P h_T c_row) ++ (zTr cI h_T q_T T)) sz (fun u => (zPk cI h_P q_P h_T (res.1)) ++ (zTr cI h_T q_T (res.2))) 0 0 := by
  refine z_enth (Qc := zQv D (fun u => (zPk cI h_P q_P h_T (res.1)) ++ (zTr cI h_T q_T (res.2)))) (by decide) (Nat.le_of_ble_eq_true rfl) (fun p e s m args below meth c A ls H locs hF hP hD hS hl => ?_)
  have hx := hF.1.1
  have hb := hF.1.2.1
  have hml := hF.1.2.2.1
  have hown : s.vm.findClass "RectangleTree$Packing" = some m.cls := hF.1.2.2.2.1
  have hts := hF.1.2.2.2.2
  have hr := hF.2.1
  have hlk := hF.2.2.1
  have hK := hF.2.2.2.2.1
  have hN := hF.2.2.2.2.2.1
  have hA := hF.2.2.2.2.2.2
  unfold f_Pk_rebuild at h
  refine lv_aload_n hx hb dX2_rebuild_0 rfl (lv_at hl 0 rfl) ?_
  obtain ⟨r_1, c_row_2, e_3, h⟩ := bd2_e h
  refine z_goi (ws' := []) (ret := r_1) (wc := (zPk cI (h_P) (q_P) (h_T) (c_row)) ++ (zTr cI (h_T) (q_T) (T))) (wn := fun u_4 => (zPk cI h_P q_P h_T c_row_2) ++ (zTr cI h_T q_T T)) (wr := []) (va_runV (As := []) (rest := []) hF.1 (c_Pk_listBoxes l D cI cZ cT h_P q_P h_T q_T c_row T H.size (r_1, c_row_2) e_3) (cwV 0 hts (zgV wm668 wm670 wm24 wm37 wm671) rfl rfl rfl (by decide +kernel) ⟨Nat.le_of_ble_eq_true rfl, Nat.le_of_ble_eq_true rfl⟩) ⟨zP.blind, va_recv hK (z_subP (ws' := (zPk cI (h_P) (q_P) (h_T) (c_row)) ++ (zTr cI (h_T) (q_T) (T))) hP [0, 1, 2, 3, 4, 5, 6, 7] rfl) (ci := 2) (q0 := 0) rfl rfl, zP.enter (z_subP (ws' := (zPk cI (h_P) (q_P) (h_T) (c_row)) ++ (zTr cI (h_T) (q_T) (T))) hP [0, 1, 2, 3, 4, 5, 6, 7] rfl) hK (hD.sub [0, 1, 2, 3, 4, 5, 6, 7] (by decide) rfl) hN⟩ rfl rfl hl.1 rfl (lv_room (Nat.le_of_ble_eq_true rfl)) dX2_rebuild_1 ⟨Nat.le_refl _, Nat.le_refl _⟩) hP hD hS hA [0, 1, 2, 3, 4, 5, 6, 7] [] [0, 1, 2, 3, 4, 5, 6, 7] rfl rfl (by decide) (fun _ => rfl) (fun u_4 H locs hP hD hS hz => ?_)
  refine lv_istore_n (lv' := [(1, vI r_1), (0, .ref h_P)]) hx hb dX2_rebuild_4 rfl hl (by decide) rfl (fun ls hl => ?_)
  refine lv_aload_n hx hb dX2_rebuild_5 rfl (lv_at hl 1 rfl) ?_
  refine va_get (D := D) (ci := 2) (v := .ref h_T) (C := RX2) (T := TX2) (N := 2) hx hb hts zin2 hown hK hP 0 rfl rfl 0 (by decide) (hts _ wm163) (fun _ h9 => h9) rfl dX2_rebuild_6 ?_
  obtain ⟨T_5, e_6, h⟩ := bd1_e h
  have mo_8 : (tR T) ≤ (tR T_5) := mo_Tr_releaseNodes T (T_5) e_6
  refine z_gov (wc := (zTr cI (h_T) (q_T) (T))) (wn := fun u_7 => (zPk cI h_P q_P h_T c_row_2) ++ (zTr cI h_T q_T T_5)) (wr := ([0, 1].filterMap (fun i => ((zPk cI h_P q_P h_T c_row_2) ++ (zTr cI h_T q_T T))[i]?))) (va_runV (As := []) (rest := []) hF.1 (c_Tr_releaseNodes l D cI cZ cT h_T q_T T H.size (T_5) e_6) (cwV 0 hts (zgV wm674 wm675 wm676 wm33 wm677) rfl rfl rfl (by decide +kernel) ⟨Nat.le_of_ble_eq_true rfl, Nat.le_of_ble_eq_true rfl⟩) ⟨zP.blind, va_recv hK (z_subP (ws' := (zTr cI (h_T) (q_T) (T))) hP [2, 3, 4, 5, 6, 7] rfl) (ci := 4) (q0 := 0) rfl rfl, zP.enter (z_subP (ws' := (zTr cI (h_T) (q_T) (T))) hP [2, 3, 4, 5, 6, 7] rfl) hK (hD.sub [2, 3, 4, 5, 6, 7] (by decide) rfl) hN⟩ rfl rfl hl.1 rfl (lv_room (Nat.le_of_ble_eq_true rfl)) dX2_rebuild_9 ⟨Nat.le_refl _, Nat.le_refl _⟩) hP hD hS hA [2, 3, 4, 5, 6, 7] [0, 1] [0, 1, 2, 3, 4, 5, 6, 7] rfl rfl (by decide) (fun _ => rfl) (fun u_7 H locs hP hD hS hz => ?_)
  refine lv_iload_n hx hb dX2_rebuild_12 rfl (lv_at hl 0 rfl) ?_
  obtain ⟨g_9, h⟩ := gd_e h
  refine z_if_ne (tgt := 32) hx hb g_9 dX2_rebuild_13 (by decide) (fun b_10 => ?_) (fun b_10 => ?_)
  · have h := it_n b_10 h
    refine lv_iload_n hx hb dX2_rebuild_32 rfl (lv_at hl 0 rfl) ?_
    refine lv_aload_n hx hb dX2_rebuild_33 rfl (lv_at hl 1 rfl) ?_
    refine va_get (D := D) (ci := 2) (v := .ref h_T) (C := RX2) (T := TX2) (N := 2) hx hb hts zin2 hown hK hP 0 rfl rfl 0 (by decide) (hts _ wm163) (fun _ h9 => h9) rfl dX2_rebuild_34 ?_
    refine va_get (D := D) (ci := 4) (v := vI (tCap T_5)) (C := RX4) (T := TX4) (N := 10) hx hb hts zin4 hown hK hP 2 rfl rfl 6 (by decide) (hts _ wm72) (fun _ h9 => h9) rfl dX2_rebuild_37 ?_
    refine z_iadd hx hb dX2_rebuild_40 ?_
    refine lv_iconst (v := Int32.ofInt 1) hx hb dX2_rebuild_41 rfl ?_
    refine z_isub hx hb dX2_rebuild_42 ?_
    refine lv_aload_n hx hb dX2_rebuild_43 rfl (lv_at hl 1 rfl) ?_
    refine va_get (D := D) (ci := 2) (v := .ref h_T) (C := RX2) (T := TX2) (N := 2) hx hb hts zin2 hown hK hP 0 rfl rfl 0 (by decide) (hts _ wm163) (fun _ h9 => h9) rfl dX2_rebuild_44 ?_
    refine va_get (D := D) (ci := 4) (v := vI (tCap T_5)) (C := RX4) (T := TX4) (N := 10) hx hb hts zin4 hown hK hP 2 rfl rfl 6 (by decide) (hts _ wm72) (fun _ h9 => h9) rfl dX2_rebuild_47 ?_
    refine lv_iconst (v := Int32.ofInt 1) hx hb dX2_rebuild_50 rfl ?_
    obtain ⟨g_11, h⟩ := gd_e h
    refine z_mmax (rest := [vI ((r_1 + (tCap T_5)) - 1)]) hx hb (by rw [hml]; exact hl.1.symm) hown (hts _ wm679) (hts _ wm404) (hts _ wm40) (hts _ wm405) (Nat.le_of_ble_eq_true rfl) (Nat.le_of_ble_eq_true rfl) (Nat.le_refl _) (Nat.le_refl _) g_11 (by decide) dX2_rebuild_51 ?_
    have g_12 : ck (max (tCap T_5) 1) := ⟨by have := And.intro (show ck (tCap T_5) from g_11) (show ck 1 from (by decide)); omega, by have := And.intro (show ck (tCap T_5) from g_11) (show ck 1 from (by decide)); omega⟩
    obtain ⟨g_13, h⟩ := gd_e h
    refine z_idiv hx hb g_13 dX2_rebuild_54 ?_
    obtain ⟨r_14, e_15, h⟩ := bd1_e h
    refine z_goi (ws' := []) (ret := r_14) (wc := ([] : va_W)) (wn := fun u_16 => (zPk cI h_P q_P h_T c_row_2) ++ (zTr cI h_T q_T T_5)) (wr := ([0, 1, 2, 3, 4, 5, 6, 7].filterMap (fun i => ((zPk cI h_P q_P h_T c_row_2) ++ (zTr cI h_T q_T T_5))[i]?))) (va_runS (As := [vI (((r_1 + (tCap T_5)) - 1) / (max (tCap T_5) 1))]) (rest := []) hF.1 (c_Pk_leastRoot l D cI cZ cT (((r_1 + (tCap T_5)) - 1) / (max (tCap T_5) 1)) H.size (r_14) e_15) (va_cwS 1 hts (zgS wm680 wm681 wm37 wm682) rfl rfl rfl (by decide +kernel) ⟨Nat.le_of_ble_eq_true rfl, Nat.le_of_ble_eq_true rfl⟩) ⟨zP.blind, zP.enter (z_subP (ws' := ([] : va_W)) hP [] rfl) hK (hD.sub [] (by decide) rfl) hN⟩ rfl rfl hl.1 rfl (lv_room (Nat.le_of_ble_eq_true rfl)) dX2_rebuild_55 ⟨Nat.le_refl _, Nat.le_refl _⟩) hP hD hS hA [] [0, 1, 2, 3, 4, 5, 6, 7] [0, 1, 2, 3, 4, 5, 6, 7] rfl rfl (by decide) (fun _ => rfl) (fun u_16 H locs hP hD hS hz => ?_)
    refine lv_aload_n hx hb dX2_rebuild_58 rfl (lv_at hl 1 rfl) ?_
    refine va_get (D := D) (ci := 2) (v := .ref h_T) (C := RX2) (T := TX2) (N := 2) hx hb hts zin2 hown hK hP 0 rfl rfl 0 (by decide) (hts _ wm163) (fun _ h9 => h9) rfl dX2_rebuild_59 ?_
    refine va_get (D := D) (ci := 4) (v := vI (tCap T_5)) (C := RX4) (T := TX4) (N := 10) hx hb hts zin4 hown hK hP 2 rfl rfl 6 (by decide) (hts _ wm72) (fun _ h9 => h9) rfl dX2_rebuild_62 ?_
    refine z_imul hx hb dX2_rebuild_65 ?_
    refine lv_istore_n (lv' := [(2, vI (r_14 * (tCap T_5))), (1, vI r_1), (0, .ref h_P)]) hx hb dX2_rebuild_66 rfl hl (by decide) rfl (fun ls hl => ?_)
    refine lv_aload_n hx hb dX2_rebuild_67 rfl (lv_at hl 2 rfl) ?_
    refine lv_iconst (v := Int32.ofInt 0) hx hb dX2_rebuild_68 rfl ?_
    refine lv_iload_n hx hb dX2_rebuild_69 rfl (lv_at hl 1 rfl) ?_
    refine lv_iconst (v := Int32.ofInt 0) hx hb dX2_rebuild_70 rfl ?_
    obtain ⟨c_row_17, e_18, h⟩ := bd1_e h
    refine z_gov (wc := (zPk cI (h_P) (q_P) (h_T) (c_row_2)) ++ (zTr cI (h_T) (q_T) (T_5))) (wn := fun u_19 => (zPk cI h_P q_P h_T c_row_17) ++ (zTr cI h_T q_T T_5)) (wr := []) (va_runV (As := [vI 0, vI r_1, vI 0]) (rest := []) hF.1 (c_Pk_sortPart l D cI cZ cT h_P q_P h_T q_T c_row_2 T_5 0 r_1 0 H.size (c_row_17) e_18) (cwV 3 hts (zgV wm683 wm685 wm25 wm37 wm686) rfl rfl rfl (by decide +kernel) ⟨Nat.le_of_ble_eq_true rfl, Nat.le_of_ble_eq_true rfl⟩) ⟨zP.blind, va_recv hK (z_subP (ws' := (zPk cI (h_P) (q_P) (h_T) (c_row_2)) ++ (zTr cI (h_T) (q_T) (T_5))) hP [0, 1, 2, 3, 4, 5, 6, 7] rfl) (ci := 2) (q0 := 0) rfl rfl, zP.enter (z_subP (ws' := (zPk cI (h_P) (q_P) (h_T) (c_row_2)) ++ (zTr cI (h_T) (q_T) (T_5))) hP [0, 1, 2, 3, 4, 5, 6, 7] rfl) hK (hD.sub [0, 1, 2, 3, 4, 5, 6, 7] (by decide) rfl) hN⟩ rfl rfl hl.1 rfl (lv_room (Nat.le_of_ble_eq_true rfl)) dX2_rebuild_71 ⟨Nat.le_refl _, Nat.le_refl _⟩) hP hD hS hA [0, 1, 2, 3, 4, 5, 6, 7] [] [0, 1, 2, 3, 4, 5, 6, 7] rfl rfl (by decide) (fun _ => rfl) (fun u_19 H locs hP hD hS hz => ?_)
    refine lv_iconst (v := Int32.ofInt 0) hx hb dX2_rebuild_74 rfl ?_
    refine lv_istore_n (lv' := [(3, vI 0), (2, vI (r_14 * (tCap T_5))), (1, vI r_1), (0, .ref h_P)]) hx hb dX2_rebuild_75 rfl hl (by decide) rfl (fun ls hl => ?_)
    refine w_Pk_rebuild_L76 D cI cZ cT (h_P) (q_P) (h_T) (q_T) (T_5) (r_1) ((r_14 * (tCap T_5))) _ _ hF (fun x3_30 c_row_31 H locs ls h hP hD hS hl => ?_) _ (0) (c_row_17) _ _ _ h hP hD hS (lv_sub hl [3, 2, 1, 0] rfl)
    refine lv_iconst (v := Int32.ofInt 0) hx hb dX2_rebuild_105 rfl ?_
    refine lv_istore_n (lv' := [(3, vI 0), (0, .ref h_P), (1, vI r_1)]) hx hb dX2_rebuild_106 rfl hl (by decide) rfl (fun ls hl => ?_)
    refine w_Pk_rebuild_L107 D cI cZ cT (h_P) (q_P) (h_T) (q_T) _ _ hF (fun x1_49 x3_50 c_row_51 T_52 H locs ls h hP hD hS hl => ?_) _ (r_1) (0) (c_row_31) (T_5) _ _ _ h hP hD hS (lv_sub hl [1, 2, 0] rfl)
    refine lv_aload_n hx hb dX2_rebuild_135 rfl (lv_at hl 0 rfl) ?_
    refine va_get (D := D) (ci := 2) (v := .ref h_T) (C := RX2) (T := TX2) (N := 2) hx hb hts zin2 hown hK hP 0 rfl rfl 0 (by decide) (hts _ wm163) (fun _ h9 => h9) rfl dX2_rebuild_136 ?_
    refine lv_aload_n hx hb dX2_rebuild_139 rfl (lv_at hl 0 rfl) ?_
    refine va_get (D := D) (ci := 2) (v := .ref (q_P 0)) (C := RX2) (T := TX2) (N := 2) hx hb hts zin2 hown hK hP 0 rfl rfl 1 (by decide) (hts _ wm164) (fun _ h9 => h9) rfl dX2_rebuild_140 ?_
    refine lv_iconst (v := Int32.ofInt 0) hx hb dX2_rebuild_143 rfl ?_
    obtain ⟨r_53, e_54, h⟩ := bd1_e h
    refine z_goi (ws' := []) (ret := r_53) (wc := (zAr cI ((q_P 0)) (24) (c_row_51))) (wn := fun u_55 => (zPk cI h_P q_P h_T c_row_51) ++ (zTr cI h_T q_T T_52)) (wr := ([0, 2, 3, 4, 5, 6, 7].filterMap (fun i => ((zPk cI h_P q_P h_T c_row_51) ++ (zTr cI h_T q_T T_52))[i]?))) (va_runSN (As := [.ref (q_P 0), vI 0]) (rest := [.ref h_T]) hF.1 (c_Rt_at l D cI cZ cT (q_P 0) 24 c_row_51 0 H.size (r_53) e_54) ⟨va_cnB 2 hts (zW_good wm229) rfl rfl rfl (hN.at 10 rfl) (hts _ wm32) (by decide +kernel) ⟨Nat.le_of_ble_eq_true rfl, Nat.le_of_ble_eq_true rfl⟩, hts _ wm228, trivial⟩ ⟨zP.blind, zP.enter (z_subP (ws' := (zAr cI ((q_P 0)) (24) (c_row_51))) hP [1] rfl) hK (hD.sub [1] (by decide) rfl) hN⟩ rfl rfl hl.1 rfl (lv_room (Nat.le_of_ble_eq_true rfl)) dX2_rebuild_144 ⟨Nat.le_refl _, Nat.le_refl _⟩) hP hD hS hA [1] [0, 2, 3, 4, 5, 6, 7] [0, 7, 1, 2, 3, 4, 5, 6] rfl rfl (by decide) (fun _ => rfl) (fun u_55 H locs hP hD hS hz => ?_)
    refine va_put (D := D) (ci := 4) (v := vI r_53) (ty := .int) (C := RX4) (T := TX4) (N := 10) hx hb hts zin4 tyX4 tyX4_ok nmX4 hown hK hP hD hS 2 rfl rfl 5 (by decide) (hts _ wm68) (fun _ h9 => h9) rfl (by decide +kernel) rfl rfl (Nat.le_of_ble_eq_true rfl) dX2_rebuild_147 (fun H locs hP hD hS => ?_)
    replace hP : va_P D vwCl ((zPk cI h_P q_P h_T c_row_51) ++ (zTr cI h_T q_T (sRoot T_52 r_53))) H := hP
    replace hD : va_D A ((zPk cI h_P q_P h_T c_row_51) ++ (zTr cI h_T q_T (sRoot T_52 r_53))) := hD
    obtain rfl := Option.some.inj h
    exact z_vret hx hb hr hlk (fun _ _ => 0) hP hD hS dX2_rebuild_150
  · have h := it_p b_10 h
    refine lv_aload_n hx hb dX2_rebuild_16 rfl (lv_at hl 1 rfl) ?_
    refine va_get (D := D) (ci := 2) (v := .ref h_T) (C := RX2) (T := TX2) (N := 2) hx hb hts zin2 hown hK hP 0 rfl rfl 0 (by decide) (hts _ wm163) (fun _ h9 => h9) rfl dX2_rebuild_17 ?_
    refine lv_aload_n hx hb dX2_rebuild_20 rfl (lv_at hl 1 rfl) ?_
    refine va_get (D := D) (ci := 2) (v := .ref h_T) (C := RX2) (T := TX2) (N := 2) hx hb hts zin2 hown hK hP 0 rfl rfl 0 (by decide) (hts _ wm163) (fun _ h9 => h9) rfl dX2_rebuild_21 ?_
    refine lv_iconst (v := Int32.ofInt 0) hx hb dX2_rebuild_24 rfl ?_
    obtain ⟨r_56, T_57, e_58, h⟩ := bd2_e h
    have mo_60 : (tR T_5) ≤ (tR T_57) := mo_Tr_newNode T_5 0 (r_56, T_57) e_58
    refine z_goi (ws' := []) (ret := r_56) (wc := (zTr cI (h_T) (q_T) (T_5))) (wn := fun u_59 => (zPk cI h_P q_P h_T c_row_2) ++ (zTr cI h_T q_T T_57)) (wr := ([0, 1].filterMap (fun i => ((zPk cI h_P q_P h_T c_row_2) ++ (zTr cI h_T q_T T_5))[i]?))) (va_runV (As := [vI 0]) (rest := [.ref h_T]) hF.1 (c_Tr_newNode l D cI cZ cT h_T q_T T_5 0 H.size (r_56, T_57) e_58) (cwV 1 hts (zgV wm678 wm569 wm570 wm33 wm571) rfl rfl rfl (by decide +kernel) ⟨Nat.le_of_ble_eq_true rfl, Nat.le_of_ble_eq_true rfl⟩) ⟨zP.blind, va_recv hK (z_subP (ws' := (zTr cI (h_T) (q_T) (T_5))) hP [2, 3, 4, 5, 6, 7] rfl) (ci := 4) (q0 := 0) rfl rfl, zP.enter (z_subP (ws' := (zTr cI (h_T) (q_T) (T_5))) hP [2, 3, 4, 5, 6, 7] rfl) hK (hD.sub [2, 3, 4, 5, 6, 7] (by decide) rfl) hN⟩ rfl rfl hl.1 rfl (lv_room (Nat.le_of_ble_eq_true rfl)) dX2_rebuild_25 ⟨Nat.le_refl _, Nat.le_refl _⟩) hP hD hS hA [2, 3, 4, 5, 6, 7] [0, 1] [0, 1, 2, 3, 4, 5, 6, 7] rfl rfl (by decide) (fun _ => rfl) (fun u_59 H locs hP hD hS hz => ?_)
    refine va_put (D := D) (ci := 4) (v := vI r_56) (ty := .int) (C := RX4) (T := TX4) (N := 10) hx hb hts zin4 tyX4 tyX4_ok nmX4 hown hK hP hD hS 2 rfl rfl 5 (by decide) (hts _ wm68) (fun _ h9 => h9) rfl (by decide +kernel) rfl rfl (Nat.le_of_ble_eq_true rfl) dX2_rebuild_28 (fun H locs hP hD hS => ?_)
    replace hP : va_P D vwCl ((zPk cI h_P q_P h_T c_row_2) ++ (zTr cI h_T q_T (sRoot T_57 r_56))) H := hP
    replace hD : va_D A ((zPk cI h_P q_P h_T c_row_2) ++ (zTr cI h_T q_T (sRoot T_57 r_56))) := hD
    obtain rfl := Option.some.inj h
    exact z_vret hx hb hr hlk (fun _ _ => 0) hP hD hS dX2_rebuild_31
