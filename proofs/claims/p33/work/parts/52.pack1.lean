def f_Pk_listBoxes_L4 (T : TV) (k : Int → Int → (Nat → Int) → Option (Int × (Nat → Int))) : Nat → Int → Int → (Nat → Int) → Option (Int × (Nat → Int))
  | 0, _, _, _ => none
  | n + 1, x1, x2, c_row =>
  gd (ck x2) <| if x2 < 24 then (bd1 (f_Tr_hasBox T x2) <| fun r_3 => gd (ck r_3) <| if r_3 = 0 then (f_Pk_listBoxes_L4 T k n (x1) ((x2 + 1)) (c_row)) else (bd1 (f_Rt_put 24 c_row x1 x2) <| fun c_row_8 => f_Pk_listBoxes_L4 T k n ((x1 + 1)) ((x2 + 1)) (c_row_8))) else (k (x1) (x2) (c_row))
def f_Pk_listBoxes (c_row : Nat → Int) (T : TV) : Option (Int × (Nat → Int)) :=
  f_Pk_listBoxes_L4 (T) (fun x1_11 x2_12 c_row_13 => some (x1_11, c_row_13)) FU (0) (0) (c_row)
abbrev rm_Pk_listBoxes : Room := ({ frames := 2, cells := 0, slots := 0, locals := 42 } : Room)
set_option maxHeartbeats 4000000 in
set_option maxRecDepth 100000 in
theorem w_Pk_listBoxes_L4 {p : Program} {l : Launch} {e : Env} {s : State} {m : MethodId} {args : Array Value} {below : List Frame} {meth : Method} {c : Code} {A : Nat → Prop} (D : va_G) (cI cZ cT : ClassId) (h_P : Nat) (q_P : Nat → Nat) (h_T : Nat) (q_T : Nat → Nat) (T : TV) (res : Int × (Nat → Int)) (k : Int → Int → (Nat → Int) → Option (Int × (Nat → Int))) (hF : zF p m c cX2_listBoxes 3 s args yX2_listBoxes.cls meth (some .int) yX2_listBoxes.name A D (zt cI cZ cT))
    (hk : ∀ (x1 : Int) (x2 : Int) (c_row : Nat → Int) (H : Heap) (locs : List Loc) (ls : Array Slot), k x1 x2 c_row = some res → va_P D vwCl ((zPk cI h_P q_P h_T c_row) ++ (zTr cI h_T q_T T)) H → va_D A ((zPk cI h_P q_P h_T c_row) ++ (zTr cI h_T q_T T)) → va_S A s.heap H locs → lv_has ls 3 [(1, vI x1)] → W p l e rm_Pk_listBoxes s m args below meth c H locs 0 0 (MQ below (zQi D (res.1) (fun u => (zPk cI h_P q_P h_T (res.2)) ++ (zTr cI h_T q_T T)) A) args s 0 0 A) (F0 m 39 ls [])) :
    ∀ (n : Nat) (x1 : Int) (x2 : Int) (c_row : Nat → Int) (H : Heap) (locs : List Loc) (ls : Array Slot), f_Pk_listBoxes_L4 T k n x1 x2 c_row = some res → va_P D vwCl ((zPk cI h_P q_P h_T c_row) ++ (zTr cI h_T q_T T)) H → va_D A ((zPk cI h_P q_P h_T c_row) ++ (zTr cI h_T q_T T)) → va_S A s.heap H locs → lv_has ls 3 [(0, .ref h_P), (1, vI x1), (2, vI x2)] → W p l e rm_Pk_listBoxes s m args below meth c H locs 0 0 (MQ below (zQi D (res.1) (fun u => (zPk cI h_P q_P h_T (res.2)) ++ (zTr cI h_T q_T T)) A) args s 0 0 A) (F0 m 4 ls []) := by
  have hx := hF.1.1
  have hb := hF.1.2.1
  have hml := hF.1.2.2.1
  have hown : s.vm.findClass "RectangleTree$Packing" = some m.cls := hF.1.2.2.2.1
  have hts := hF.1.2.2.2.2
  have hr := hF.2.1
  have hlk := hF.2.2.1
  have hK := hF.2.2.2.2.1
  have hN := hF.2.2.2.2.2.1
  have hA := hF.2.2.2.2.2.2
  intro n
  induction n with
  | zero => intro x1 x2 c_row H locs ls h; cases h
  | succ n ih =>
    intro x1 x2 c_row H locs ls h hP hD hS hl
    rw [f_Pk_listBoxes_L4] at h
    refine lv_iload_n hx hb dX2_listBoxes_4 rfl (lv_at hl 2 rfl) ?_
    refine lv_bipush (v := Int32.ofInt 24) hx hb dX2_listBoxes_5 (by decide +kernel) ?_
    obtain ⟨g_1, h⟩ := gd_e h
    refine z_icmp_ge (tgt := 39) hx hb g_1 (by decide) dX2_listBoxes_7 (by decide) (fun b_2 => ?_) (fun b_2 => ?_)
    · have h := it_n b_2 h
      exact hk (x1) (x2) (c_row) H locs ls h hP hD hS (lv_sub hl [1] rfl)
    · have h := it_p b_2 h
      refine lv_aload_n hx hb dX2_listBoxes_10 rfl (lv_at hl 0 rfl) ?_
      refine va_get (D := D) (ci := 2) (v := .ref h_T) (C := RX2) (T := TX2) (N := 2) hx hb hts zin2 hown hK hP 0 rfl rfl 0 (by decide) (hts _ wm163) (fun _ h9 => h9) rfl dX2_listBoxes_11 ?_
      refine lv_iload_n hx hb dX2_listBoxes_14 rfl (lv_at hl 2 rfl) ?_
      obtain ⟨r_3, e_4, h⟩ := bd1_e h
      refine z_goi (ws' := []) (ret := r_3) (wc := (zTr cI (h_T) (q_T) (T))) (wn := fun u_5 => (zPk cI h_P q_P h_T c_row) ++ (zTr cI h_T q_T T)) (wr := ([0, 1].filterMap (fun i => ((zPk cI h_P q_P h_T c_row) ++ (zTr cI h_T q_T T))[i]?))) (va_runV (As := [vI x2]) (rest := []) hF.1 (c_Tr_hasBox l D cI cZ cT h_T q_T T x2 H.size (r_3) e_4) (cwV 1 hts (zgV wm672 wm344 wm345 wm33 wm346) rfl rfl rfl (by decide +kernel) ⟨Nat.le_of_ble_eq_true rfl, Nat.le_of_ble_eq_true rfl⟩) ⟨zP.blind, va_recv hK (z_subP (ws' := (zTr cI (h_T) (q_T) (T))) hP [2, 3, 4, 5, 6, 7] rfl) (ci := 4) (q0 := 0) rfl rfl, zP.enter (z_subP (ws' := (zTr cI (h_T) (q_T) (T))) hP [2, 3, 4, 5, 6, 7] rfl) hK (hD.sub [2, 3, 4, 5, 6, 7] (by decide) rfl) hN⟩ rfl rfl hl.1 rfl (lv_room (Nat.le_of_ble_eq_true rfl)) dX2_listBoxes_15 ⟨Nat.le_refl _, Nat.le_refl _⟩) hP hD hS hA [2, 3, 4, 5, 6, 7] [0, 1] [0, 1, 2, 3, 4, 5, 6, 7] rfl rfl (by decide) (fun _ => rfl) (fun u_5 H locs hP hD hS hz => ?_)
      obtain ⟨g_6, h⟩ := gd_e h
      refine z_if_eq (tgt := 33) hx hb g_6 dX2_listBoxes_18 (by decide) (fun b_7 => ?_) (fun b_7 => ?_)
      · have h := it_p b_7 h
        refine lv_iinc (v := Int32.ofInt (x2 + 1)) (lv' := [(2, vI (x2 + 1)), (0, .ref h_P), (1, vI x1)]) hx hb dX2_listBoxes_33 hl (k := 2) rfl (z_inc _ _) (by decide) rfl (fun ls hl => ?_)
        refine lv_goto (tgt := 4) hx hb dX2_listBoxes_36 (by decide) ?_
        exact ih (x1) ((x2 + 1)) (c_row) H locs ls h hP hD hS (lv_sub hl [1, 2, 0] rfl)
      · have h := it_n b_7 h
        refine lv_aload_n hx hb dX2_listBoxes_21 rfl (lv_at hl 0 rfl) ?_
        refine va_get (D := D) (ci := 2) (v := .ref (q_P 0)) (C := RX2) (T := TX2) (N := 2) hx hb hts zin2 hown hK hP 0 rfl rfl 1 (by decide) (hts _ wm164) (fun _ h9 => h9) rfl dX2_listBoxes_22 ?_
        refine lv_iload_n hx hb dX2_listBoxes_25 rfl (lv_at hl 1 rfl) ?_
        refine lv_iload_n hx hb dX2_listBoxes_26 rfl (lv_at hl 2 rfl) ?_
        obtain ⟨c_row_8, e_9, h⟩ := bd1_e h
        refine z_gov (wc := (zAr cI ((q_P 0)) (24) (c_row))) (wn := fun u_10 => (zPk cI h_P q_P h_T c_row_8) ++ (zTr cI h_T q_T T)) (wr := ([0, 2, 3, 4, 5, 6, 7].filterMap (fun i => ((zPk cI h_P q_P h_T c_row) ++ (zTr cI h_T q_T T))[i]?))) (va_runSN (As := [.ref (q_P 0), vI x1, vI x2]) (rest := []) hF.1 (c_Rt_put l D cI cZ cT (q_P 0) 24 c_row x1 x2 H.size (c_row_8) e_9) ⟨va_cnB 3 hts (zW_good wm61) rfl rfl rfl (hN.at 9 rfl) (hts _ wm32) (by decide +kernel) ⟨Nat.le_of_ble_eq_true rfl, Nat.le_of_ble_eq_true rfl⟩, hts _ wm60, trivial⟩ ⟨zP.blind, zP.enter (z_subP (ws' := (zAr cI ((q_P 0)) (24) (c_row))) hP [1] rfl) hK (hD.sub [1] (by decide) rfl) hN⟩ rfl rfl hl.1 rfl (lv_room (Nat.le_of_ble_eq_true rfl)) dX2_listBoxes_27 ⟨Nat.le_refl _, Nat.le_refl _⟩) hP hD hS hA [1] [0, 2, 3, 4, 5, 6, 7] [0, 7, 1, 2, 3, 4, 5, 6] rfl rfl (by decide) (fun _ => rfl) (fun u_10 H locs hP hD hS hz => ?_)
        refine lv_iinc (v := Int32.ofInt (x1 + 1)) (lv' := [(1, vI (x1 + 1)), (0, .ref h_P), (2, vI x2)]) hx hb dX2_listBoxes_30 hl (k := 1) rfl (z_inc _ _) (by decide) rfl (fun ls hl => ?_)
        refine lv_iinc (v := Int32.ofInt (x2 + 1)) (lv' := [(2, vI (x2 + 1)), (1, vI (x1 + 1)), (0, .ref h_P)]) hx hb dX2_listBoxes_33 hl (k := 2) rfl (z_inc _ _) (by decide) rfl (fun ls hl => ?_)
        refine lv_goto (tgt := 4) hx hb dX2_listBoxes_36 (by decide) ?_
        exact ih ((x1 + 1)) ((x2 + 1)) (c_row_8) H locs ls h hP hD hS (lv_sub hl [2, 1, 0] rfl)
set_option maxHeartbeats 4000000 in
set_option maxRecDepth 100000 in
theorem c_Pk_listBoxes (l : Launch) (D : va_G) (cI cZ cT : ClassId) (h_P : Nat) (q_P : Nat → Nat) (h_T : Nat) (q_T : Nat → Nat) (c_row : Nat → Int) (T : TV) (sz : Nat) (res : Int × (Nat → Int)) (h : f_Pk_listBoxes c_row T = some res) : zMi l yX2_listBoxes cX2_listBoxes 3 rm_Pk_listBoxes D (zt cI cZ cT) [.ref h_P] ((zPk cI h_P q_P h_T c_row) ++ (zTr cI h_T q_T T)) sz (res.1) (fun u => (zPk cI h_P q_P h_T (res.2)) ++ (zTr cI h_T q_T T)) 0 0 := by
  refine z_enth (Qc := zQi D (res.1) (fun u => (zPk cI h_P q_P h_T (res.2)) ++ (zTr cI h_T q_T T))) (by decide) (Nat.le_of_ble_eq_true rfl) (fun p e s m args below meth c A ls H locs hF hP hD hS hl => ?_)
  have hx := hF.1.1
  have hb := hF.1.2.1
  have hml := hF.1.2.2.1
  have hown : s.vm.findClass "RectangleTree$Packing" = some m.cls := hF.1.2.2.2.1
  have hts := hF.1.2.2.2.2
  have hr := hF.2.1
  have hlk := hF.2.2.1
  have hK := hF.2.2.2.2.1
  have hN := hF.2.2.2.2.2.1
  have hA := hF.2.2.2.2.2.2
  unfold f_Pk_listBoxes at h
  refine lv_iconst (v := Int32.ofInt 0) hx hb dX2_listBoxes_0 rfl ?_
  refine lv_istore_n (lv' := [(1, vI 0), (0, .ref h_P)]) hx hb dX2_listBoxes_1 rfl hl (by decide) rfl (fun ls hl => ?_)
  refine lv_iconst (v := Int32.ofInt 0) hx hb dX2_listBoxes_2 rfl ?_
  refine lv_istore_n (lv' := [(2, vI 0), (1, vI 0), (0, .ref h_P)]) hx hb dX2_listBoxes_3 rfl hl (by decide) rfl (fun ls hl => ?_)
  refine w_Pk_listBoxes_L4 D cI cZ cT (h_P) (q_P) (h_T) (q_T) (T) _ _ hF (fun x1_11 x2_12 c_row_13 H locs ls h hP hD hS hl => ?_) _ (0) (0) (c_row) _ _ _ h hP hD hS (lv_sub hl [2, 1, 0] rfl)
  refine lv_iload_n hx hb dX2_listBoxes_39 rfl (lv_at hl 0 rfl) ?_
  obtain rfl := Option.some.inj h
  exact z_iret hx hb hr hlk (fun _ _ => 0) hP hD hS dX2_listBoxes_40
def f_Pk_leastRoot_L2 (x0 : Int) (k : Int → Option (Int)) : Nat → Int → Option (Int)
  | 0, _ => none
  | n + 1, x1 =>
  gd (ck (x1 * x1)) <| gd (ck x0) <| if (x1 * x1) < x0 then (gd (ck x1) <| if x1 < 24 then (f_Pk_leastRoot_L2 x0 k n ((x1 + 1))) else (k (x1))) else (k (x1))
def f_Pk_leastRoot (x0 : Int) : Option (Int) :=
  f_Pk_leastRoot_L2 (x0) (fun x1_6 => some (x1_6)) FU (1)
abbrev rm_Pk_leastRoot : Room := ({ frames := 0, cells := 0, slots := 0, locals := 0 } : Room)
set_option maxHeartbeats 4000000 in
set_option maxRecDepth 100000 in
theorem w_Pk_leastRoot_L2 {p : Program} {l : Launch} {e : Env} {s : State} {m : MethodId} {args : Array Value} {below : List Frame} {meth : Method} {c : Code} {A : Nat → Prop} (D : va_G) (cI cZ cT : ClassId) (x0 : Int) (res : Int) (k : Int → Option (Int)) (hF : zF p m c cX2_leastRoot 2 s args yX2_leastRoot.cls meth (some .int) yX2_leastRoot.name A D (zt cI cZ cT))
    (hk : ∀ (x1 : Int) (H : Heap) (locs : List Loc) (ls : Array Slot), k x1 = some res → va_P D vwCl (([] : va_W)) H → va_D A (([] : va_W)) → va_S A s.heap H locs → lv_has ls 2 [(1, vI x1)] → W p l e rm_Pk_leastRoot s m args below meth c H locs 0 0 (MQ below (zQi D (res) (fun u => ([] : va_W)) A) args s 0 0 A) (F0 m 21 ls [])) :
    ∀ (n : Nat) (x1 : Int) (H : Heap) (locs : List Loc) (ls : Array Slot), f_Pk_leastRoot_L2 x0 k n x1 = some res → va_P D vwCl (([] : va_W)) H → va_D A (([] : va_W)) → va_S A s.heap H locs → lv_has ls 2 [(0, vI x0), (1, vI x1)] → W p l e rm_Pk_leastRoot s m args below meth c H locs 0 0 (MQ below (zQi D (res) (fun u => ([] : va_W)) A) args s 0 0 A) (F0 m 2 ls []) := by
  have hx := hF.1.1
  have hb := hF.1.2.1
  have hml := hF.1.2.2.1
  have hown : s.vm.findClass "RectangleTree$Packing" = some m.cls := hF.1.2.2.2.1
  have hts := hF.1.2.2.2.2
  have hr := hF.2.1
  have hlk := hF.2.2.1
  have hK := hF.2.2.2.2.1
  have hN := hF.2.2.2.2.2.1
  have hA := hF.2.2.2.2.2.2
  intro n
  induction n with
  | zero => intro x1 H locs ls h; cases h
  | succ n ih =>
    intro x1 H locs ls h hP hD hS hl
    rw [f_Pk_leastRoot_L2] at h
    refine lv_iload_n hx hb dX2_leastRoot_2 rfl (lv_at hl 1 rfl) ?_
    refine lv_iload_n hx hb dX2_leastRoot_3 rfl (lv_at hl 1 rfl) ?_
    refine z_imul hx hb dX2_leastRoot_4 ?_
    refine lv_iload_n hx hb dX2_leastRoot_5 rfl (lv_at hl 0 rfl) ?_
    obtain ⟨g_1, h⟩ := gd_e h
    obtain ⟨g_2, h⟩ := gd_e h
    refine z_icmp_ge (tgt := 21) hx hb g_1 g_2 dX2_leastRoot_6 (by decide) (fun b_3 => ?_) (fun b_3 => ?_)
    · have h := it_n b_3 h
      exact hk (x1) H locs ls h hP hD hS (lv_sub hl [1] rfl)
    · have h := it_p b_3 h
      refine lv_iload_n hx hb dX2_leastRoot_9 rfl (lv_at hl 1 rfl) ?_
      refine lv_bipush (v := Int32.ofInt 24) hx hb dX2_leastRoot_10 (by decide +kernel) ?_
      obtain ⟨g_4, h⟩ := gd_e h
      refine z_icmp_ge (tgt := 21) hx hb g_4 (by decide) dX2_leastRoot_12 (by decide) (fun b_5 => ?_) (fun b_5 => ?_)
      · have h := it_n b_5 h
        exact hk (x1) H locs ls h hP hD hS (lv_sub hl [1] rfl)
      · have h := it_p b_5 h
        refine lv_iinc (v := Int32.ofInt (x1 + 1)) (lv' := [(1, vI (x1 + 1)), (0, vI x0)]) hx hb dX2_leastRoot_15 hl (k := 1) rfl (z_inc _ _) (by decide) rfl (fun ls hl => ?_)
        refine lv_goto (tgt := 2) hx hb dX2_leastRoot_18 (by decide) ?_
        exact ih ((x1 + 1)) H locs ls h hP hD hS (lv_sub hl [1, 0] rfl)
set_option maxHeartbeats 4000000 in
set_option maxRecDepth 100000 in
theorem c_Pk_leastRoot (l : Launch) (D : va_G) (cI cZ cT : ClassId) (x0 : Int) (sz : Nat) (res : Int) (h : f_Pk_leastRoot x0 = some res) : zMi l yX2_leastRoot cX2_leastRoot 2 rm_Pk_leastRoot D (zt cI cZ cT) [vI x0] (([] : va_W)) sz (res) (fun u => ([] : va_W)) 0 0 := by
  refine z_enth (Qc := zQi D (res) (fun u => ([] : va_W))) (by decide) (Nat.le_of_ble_eq_true rfl) (fun p e s m args below meth c A ls H locs hF hP hD hS hl => ?_)
  have hx := hF.1.1
  have hb := hF.1.2.1
  have hml := hF.1.2.2.1
  have hown : s.vm.findClass "RectangleTree$Packing" = some m.cls := hF.1.2.2.2.1
  have hts := hF.1.2.2.2.2
  have hr := hF.2.1
  have hlk := hF.2.2.1
  have hK := hF.2.2.2.2.1
  have hN := hF.2.2.2.2.2.1
  have hA := hF.2.2.2.2.2.2
  unfold f_Pk_leastRoot at h
  refine lv_iconst (v := Int32.ofInt 1) hx hb dX2_leastRoot_0 rfl ?_
  refine lv_istore_n (lv' := [(1, vI 1), (0, vI x0)]) hx hb dX2_leastRoot_1 rfl hl (by decide) rfl (fun ls hl => ?_)
  refine w_Pk_leastRoot_L2 D cI cZ cT (x0) _ _ hF (fun x1_6 H locs ls h hP hD hS hl => ?_) _ (1) _ _ _ h hP hD hS (lv_sub hl [1, 0] rfl)
  refine lv_iload_n hx hb dX2_leastRoot_21 rfl (lv_at hl 0 rfl) ?_
  obtain rfl := Option.some.inj h
  exact z_iret hx hb hr hlk (fun _ _ => 0) hP hD hS dX2_leastRoot_22
def f_Pk_comesAhead (T : TV) (x1 : Int) (x2 : Int) (x3 : Int) : Option (Int) :=
  bd1 (f_Tr_doubleCenter T x1 x3) <| fun r_1 => bd1 (f_Tr_doubleCenter T x2 x3) <| fun r_4 => gd (ck (r_1 - r_4)) <| if (r_1 - r_4) < 0 then (some (1)) else (if (r_1 - r_4) = 0 then (gd (ck x1) <| gd (ck x2) <| if x1 < x2 then (some (1)) else (some (0))) else (some (0)))
abbrev rm_Pk_comesAhead : Room := ({ frames := 2, cells := 0, slots := 0, locals := 45 } : Room)
set_option maxHeartbeats 4000000 in
set_option maxRecDepth 100000 in
theorem c_Pk_comesAhead (l : Launch) (D : va_G) (cI cZ cT : ClassId) (h_P : Nat) (q_P : Nat → Nat) (h_T : Nat) (q_T : Nat → Nat) (c_row : Nat → Int) (T : TV) (x1 : Int) (x2 : Int) (x3 : Int) (sz : Nat) (res : Int) (h : f_Pk_comesAhead T x1 x2 x3 = some res) : zMz l yX2_comesAhead cX2_comesAhead 5 rm_Pk_comesAhead D (zt cI cZ cT) [.ref h_P, vI x1, vI x2, vI x3] ((zPk cI h_P q_P h_T c_row) ++ (zTr cI h_T q_T T)) sz (res) (fun u => (zPk cI h_P q_P h_T c_row) ++ (zTr cI h_T q_T T)) 0 0 := by
  refine z_enth (Qc := zQi D (res) (fun u => (zPk cI h_P q_P h_T c_row) ++ (zTr cI h_T q_T T))) (by decide) (Nat.le_of_ble_eq_true rfl) (fun p e s m args below meth c A ls H locs hF hP hD hS hl => ?_)
  have hx := hF.1.1
  have hb := hF.1.2.1
  have hml := hF.1.2.2.1
  have hown : s.vm.findClass "RectangleTree$Packing" = some m.cls := hF.1.2.2.2.1
  have hts := hF.1.2.2.2.2
  have hr := hF.2.1
  have hlk := hF.2.2.1
  have hK := hF.2.2.2.2.1
  have hN := hF.2.2.2.2.2.1
  have hA := hF.2.2.2.2.2.2
  unfold f_Pk_comesAhead at h
  refine lv_aload_n hx hb dX2_comesAhead_0 rfl (lv_at hl 0 rfl) ?_
  refine va_get (D := D) (ci := 2) (v := .ref h_T) (C := RX2) (T := TX2) (N := 2) hx hb hts zin2 hown hK hP 0 rfl rfl 0 (by decide) (hts _ wm163) (fun _ h9 => h9) rfl dX2_comesAhead_1 ?_
  refine lv_iload_n hx hb dX2_comesAhead_4 rfl (lv_at hl 1 rfl) ?_
  refine lv_iload_n hx hb dX2_comesAhead_5 rfl (lv_at hl 3 rfl) ?_
  obtain ⟨r_1, e_2, h⟩ := bd1_e h
  refine z_goi (ws' := []) (ret := r_1) (wc := (zTr cI (h_T) (q_T) (T))) (wn := fun u_3 => (zPk cI h_P q_P h_T c_row) ++ (zTr cI h_T q_T T)) (wr := ([0, 1].filterMap (fun i => ((zPk cI h_P q_P h_T c_row) ++ (zTr cI h_T q_T T))[i]?))) (va_runV (As := [vI x1, vI x3]) (rest := []) hF.1 (c_Tr_doubleCenter l D cI cZ cT h_T q_T T x1 x3 H.size (r_1) e_2) (cwV 2 hts (zgV wm692 wm547 wm548 wm33 wm549) rfl rfl rfl (by decide +kernel) ⟨Nat.le_of_ble_eq_true rfl, Nat.le_of_ble_eq_true rfl⟩) ⟨zP.blind, va_recv hK (z_subP (ws' := (zTr cI (h_T) (q_T) (T))) hP [2, 3, 4, 5, 6, 7] rfl) (ci := 4) (q0 := 0) rfl rfl, zP.enter (z_subP (ws' := (zTr cI (h_T) (q_T) (T))) hP [2, 3, 4, 5, 6, 7] rfl) hK (hD.sub [2, 3, 4, 5, 6, 7] (by decide) rfl) hN⟩ rfl rfl hl.1 rfl (lv_room (Nat.le_of_ble_eq_true rfl)) dX2_comesAhead_6 ⟨Nat.le_refl _, Nat.le_refl _⟩) hP hD hS hA [2, 3, 4, 5, 6, 7] [0, 1] [0, 1, 2, 3, 4, 5, 6, 7] rfl rfl (by decide) (fun _ => rfl) (fun u_3 H locs hP hD hS hz => ?_)
  refine lv_aload_n hx hb dX2_comesAhead_9 rfl (lv_at hl 0 rfl) ?_
  refine va_get (D := D) (ci := 2) (v := .ref h_T) (C := RX2) (T := TX2) (N := 2) hx hb hts zin2 hown hK hP 0 rfl rfl 0 (by decide) (hts _ wm163) (fun _ h9 => h9) rfl dX2_comesAhead_10 ?_
  refine lv_iload_n hx hb dX2_comesAhead_13 rfl (lv_at hl 2 rfl) ?_
  refine lv_iload_n hx hb dX2_comesAhead_14 rfl (lv_at hl 3 rfl) ?_
  obtain ⟨r_4, e_5, h⟩ := bd1_e h
  refine z_goi (ws' := []) (ret := r_4) (wc := (zTr cI (h_T) (q_T) (T))) (wn := fun u_6 => (zPk cI h_P q_P h_T c_row) ++ (zTr cI h_T q_T T)) (wr := ([0, 1].filterMap (fun i => ((zPk cI h_P q_P h_T c_row) ++ (zTr cI h_T q_T T))[i]?))) (va_runV (As := [vI x2, vI x3]) (rest := [vI r_1]) hF.1 (c_Tr_doubleCenter l D cI cZ cT h_T q_T T x2 x3 H.size (r_4) e_5) (cwV 2 hts (zgV wm692 wm547 wm548 wm33 wm549) rfl rfl rfl (by decide +kernel) ⟨Nat.le_of_ble_eq_true rfl, Nat.le_of_ble_eq_true rfl⟩) ⟨zP.blind, va_recv hK (z_subP (ws' := (zTr cI (h_T) (q_T) (T))) hP [2, 3, 4, 5, 6, 7] rfl) (ci := 4) (q0 := 0) rfl rfl, zP.enter (z_subP (ws' := (zTr cI (h_T) (q_T) (T))) hP [2, 3, 4, 5, 6, 7] rfl) hK (hD.sub [2, 3, 4, 5, 6, 7] (by decide) rfl) hN⟩ rfl rfl hl.1 rfl (lv_room (Nat.le_of_ble_eq_true rfl)) dX2_comesAhead_15 ⟨Nat.le_refl _, Nat.le_refl _⟩) hP hD hS hA [2, 3, 4, 5, 6, 7] [0, 1] [0, 1, 2, 3, 4, 5, 6, 7] rfl rfl (by decide) (fun _ => rfl) (fun u_6 H locs hP hD hS hz => ?_)
  refine z_isub hx hb dX2_comesAhead_18 ?_
  refine lv_istore (lv' := [(4, vI (r_1 - r_4)), (0, .ref h_P), (1, vI x1), (2, vI x2), (3, vI x3)]) hx hb dX2_comesAhead_19 hl (by decide) rfl (fun ls hl => ?_)
  refine lv_iload hx hb dX2_comesAhead_21 (lv_at hl 0 rfl) ?_
  obtain ⟨g_7, h⟩ := gd_e h
  refine z_if_lt (tgt := 36) hx hb g_7 dX2_comesAhead_23 (by decide) (fun b_8 => ?_) (fun b_8 => ?_)
  · have h := it_p b_8 h
    refine lv_iconst (v := Int32.ofInt 1) hx hb dX2_comesAhead_36 rfl ?_
    refine lv_goto (tgt := 41) hx hb dX2_comesAhead_37 (by decide) ?_
    obtain rfl := Option.some.inj h
    exact z_zret hx hb hr hlk (by decide) (fun _ _ => 0) hP hD hS dX2_comesAhead_41
  · have h := it_n b_8 h
    refine lv_iload hx hb dX2_comesAhead_26 (lv_at hl 0 rfl) ?_
    refine z_if_ne (tgt := 40) hx hb g_7 dX2_comesAhead_28 (by decide) (fun b_9 => ?_) (fun b_9 => ?_)
    · have h := it_n b_9 h
      refine lv_iconst (v := Int32.ofInt 0) hx hb dX2_comesAhead_40 rfl ?_
      obtain rfl := Option.some.inj h
      exact z_zret hx hb hr hlk (by decide) (fun _ _ => 0) hP hD hS dX2_comesAhead_41
    · have h := it_p b_9 h
      refine lv_iload_n hx hb dX2_comesAhead_31 rfl (lv_at hl 2 rfl) ?_
      refine lv_iload_n hx hb dX2_comesAhead_32 rfl (lv_at hl 3 rfl) ?_
      obtain ⟨g_10, h⟩ := gd_e h
      obtain ⟨g_11, h⟩ := gd_e h
      refine z_icmp_ge (tgt := 40) hx hb g_10 g_11 dX2_comesAhead_33 (by decide) (fun b_12 => ?_) (fun b_12 => ?_)
      · have h := it_n b_12 h
        refine lv_iconst (v := Int32.ofInt 0) hx hb dX2_comesAhead_40 rfl ?_
        obtain rfl := Option.some.inj h
        exact z_zret hx hb hr hlk (by decide) (fun _ _ => 0) hP hD hS dX2_comesAhead_41
      · have h := it_p b_12 h
        refine lv_iconst (v := Int32.ofInt 1) hx hb dX2_comesAhead_36 rfl ?_
        refine lv_goto (tgt := 41) hx hb dX2_comesAhead_37 (by decide) ?_
        obtain rfl := Option.some.inj h
        exact z_zret hx hb hr hlk (by decide) (fun _ _ => 0) hP hD hS dX2_comesAhead_41
def f_Pk_sortPart_L26 (T : TV) (x1 : Int) (x3 : Int) (x5 : Int) (k : Int → (Nat → Int) → Option ((Nat → Int))) : Nat → Int → (Nat → Int) → Option ((Nat → Int))
  | 0, _, _ => none
  | n + 1, x6, c_row =>
  gd (ck x6) <| gd (ck x1) <| if x1 < x6 then (bd1 (f_Rt_at 24 c_row (x6 - 1)) <| fun r_10 => bd1 (f_Pk_comesAhead T x5 r_10 x3) <| fun r_13 => gd (ck r_13) <| if r_13 = 0 then (k (x6) (c_row)) else (bd1 (f_Rt_at 24 c_row (x6 - 1)) <| fun r_18 => bd1 (f_Rt_put 24 c_row x6 r_18) <| fun c_row_21 => f_Pk_sortPart_L26 T x1 x3 x5 k n ((x6 + (-1))) (c_row_21))) else (k (x6) (c_row))
def f_Pk_sortPart_L5 (T : TV) (x1 : Int) (x2 : Int) (x3 : Int) (k : Int → (Nat → Int) → Option ((Nat → Int))) : Nat → Int → (Nat → Int) → Option ((Nat → Int))
  | 0, _, _ => none
  | n + 1, x4, c_row =>
  gd (ck x4) <| gd (ck x2) <| if x4 < x2 then (bd1 (f_Rt_at 24 c_row x4) <| fun r_4 => f_Pk_sortPart_L26 (T) (x1) (x3) (r_4) (fun x6_24 c_row_25 => bd1 (f_Rt_put 24 c_row_25 x6_24 r_4) <| fun c_row_26 => f_Pk_sortPart_L5 T x1 x2 x3 k n ((x4 + 1)) (c_row_26)) FU (x4) (c_row)) else (k (x4) (c_row))
def f_Pk_sortPart (c_row : Nat → Int) (T : TV) (x1 : Int) (x2 : Int) (x3 : Int) : Option ((Nat → Int)) :=
  f_Pk_sortPart_L5 (T) (x1) (x2) (x3) (fun x4_29 c_row_30 => some (c_row_30)) FU ((x1 + 1)) (c_row)
abbrev rm_Pk_sortPart : Room := ({ frames := 3, cells := 0, slots := 0, locals := 69 } : Room)
set_option maxHeartbeats 4000000 in
set_option maxRecDepth 100000 in
theorem w_Pk_sortPart_L26 {p : Program} {l : Launch} {e : Env} {s : State} {m : MethodId} {args : Array Value} {below : List Frame} {meth : Method} {c : Code} {A : Nat → Prop} (D : va_G) (cI cZ cT : ClassId) (h_P : Nat) (q_P : Nat → Nat) (h_T : Nat) (q_T : Nat → Nat) (T : TV) (x1 : Int) (x2 : Int) (x3 : Int) (x4 : Int) (x5 : Int) (res : (Nat → Int)) (k : Int → (Nat → Int) → Option ((Nat → Int))) (hF : zF p m c cX2_sortPart 7 s args yX2_sortPart.cls meth none yX2_sortPart.name A D (zt cI cZ cT))
    (hk : ∀ (x6 : Int) (c_row : Nat → Int) (H : Heap) (locs : List Loc) (ls : Array Slot), k x6 c_row = some res → va_P D vwCl ((zPk cI h_P q_P h_T c_row) ++ (zTr cI h_T q_T T)) H → va_D A ((zPk cI h_P q_P h_T c_row) ++ (zTr cI h_T q_T T)) → va_S A s.heap H locs → lv_has ls 7 [(0, .ref h_P), (1, vI x1), (2, vI x2), (3, vI x3), (4, vI x4), (5, vI x5), (6, vI x6)] → W p l e rm_Pk_sortPart s m args below meth c H locs 0 0 (MQ below (zQv D (fun u => (zPk cI h_P q_P h_T (res)) ++ (zTr cI h_T q_T T)) A) args s 0 0 A) (F0 m 79 ls [])) :
    ∀ (n : Nat) (x6 : Int) (c_row : Nat → Int) (H : Heap) (locs : List Loc) (ls : Array Slot), f_Pk_sortPart_L26 T x1 x3 x5 k n x6 c_row = some res → va_P D vwCl ((zPk cI h_P q_P h_T c_row) ++ (zTr cI h_T q_T T)) H → va_D A ((zPk cI h_P q_P h_T c_row) ++ (zTr cI h_T q_T T)) → va_S A s.heap H locs → lv_has ls 7 [(0, .ref h_P), (1, vI x1), (2, vI x2), (3, vI x3), (4, vI x4), (5, vI x5), (6, vI x6)] → W p l e rm_Pk_sortPart s m args below meth c H locs 0 0 (MQ below (zQv D (fun u => (zPk cI h_P q_P h_T (res)) ++ (zTr cI h_T q_T T)) A) args s 0 0 A) (F0 m 26 ls []) := by
  have hx := hF.1.1
  have hb := hF.1.2.1
  have hml := hF.1.2.2.1
  have hown : s.vm.findClass "RectangleTree$Packing" = some m.cls := hF.1.2.2.2.1
  have hts := hF.1.2.2.2.2
  have hr := hF.2.1
  have hlk := hF.2.2.1
  have hK := hF.2.2.2.2.1
  have hN := hF.2.2.2.2.2.1
  have hA := hF.2.2.2.2.2.2
  intro n
  induction n with
  | zero => intro x6 c_row H locs ls h; cases h
  | succ n ih =>
    intro x6 c_row H locs ls h hP hD hS hl
    rw [f_Pk_sortPart_L26] at h
    refine lv_iload hx hb dX2_sortPart_26 (lv_at hl 6 rfl) ?_
    refine lv_iload_n hx hb dX2_sortPart_28 rfl (lv_at hl 1 rfl) ?_
    obtain ⟨g_7, h⟩ := gd_e h
    obtain ⟨g_8, h⟩ := gd_e h
    refine z_icmp_le (tgt := 79) hx hb g_7 g_8 dX2_sortPart_29 (by decide) (fun b_9 => ?_) (fun b_9 => ?_)
    · have h := it_n b_9 h
      exact hk (x6) (c_row) H locs ls h hP hD hS (lv_sub hl [0, 1, 2, 3, 4, 5, 6] rfl)
    · have h := it_p b_9 h
      refine lv_aload_n hx hb dX2_sortPart_32 rfl (lv_at hl 0 rfl) ?_
      refine lv_iload hx hb dX2_sortPart_33 (lv_at hl 5 rfl) ?_
      refine lv_aload_n hx hb dX2_sortPart_35 rfl (lv_at hl 0 rfl) ?_
      refine va_get (D := D) (ci := 2) (v := .ref (q_P 0)) (C := RX2) (T := TX2) (N := 2) hx hb hts zin2 hown hK hP 0 rfl rfl 1 (by decide) (hts _ wm164) (fun _ h9 => h9) rfl dX2_sortPart_36 ?_
      refine lv_iload hx hb dX2_sortPart_39 (lv_at hl 6 rfl) ?_
      refine lv_iconst (v := Int32.ofInt 1) hx hb dX2_sortPart_41 rfl ?_
      refine z_isub hx hb dX2_sortPart_42 ?_
      obtain ⟨r_10, e_11, h⟩ := bd1_e h
      refine z_goi (ws' := []) (ret := r_10) (wc := (zAr cI ((q_P 0)) (24) (c_row))) (wn := fun u_12 => (zPk cI h_P q_P h_T c_row) ++ (zTr cI h_T q_T T)) (wr := ([0, 2, 3, 4, 5, 6, 7].filterMap (fun i => ((zPk cI h_P q_P h_T c_row) ++ (zTr cI h_T q_T T))[i]?))) (va_runSN (As := [.ref (q_P 0), vI (x6 - 1)]) (rest := [vI x5, .ref h_P]) hF.1 (c_Rt_at l D cI cZ cT (q_P 0) 24 c_row (x6 - 1) H.size (r_10) e_11) ⟨va_cnB 2 hts (zW_good wm229) rfl rfl rfl (hN.at 10 rfl) (hts _ wm32) (by decide +kernel) ⟨Nat.le_of_ble_eq_true rfl, Nat.le_of_ble_eq_true rfl⟩, hts _ wm228, trivial⟩ ⟨zP.blind, zP.enter (z_subP (ws' := (zAr cI ((q_P 0)) (24) (c_row))) hP [1] rfl) hK (hD.sub [1] (by decide) rfl) hN⟩ rfl rfl hl.1 rfl (lv_room (Nat.le_of_ble_eq_true rfl)) dX2_sortPart_43 ⟨Nat.le_refl _, Nat.le_refl _⟩) hP hD hS hA [1] [0, 2, 3, 4, 5, 6, 7] [0, 7, 1, 2, 3, 4, 5, 6] rfl rfl (by decide) (fun _ => rfl) (fun u_12 H locs hP hD hS hz => ?_)
      refine lv_iload_n hx hb dX2_sortPart_46 rfl (lv_at hl 3 rfl) ?_
      obtain ⟨r_13, e_14, h⟩ := bd1_e h
      refine z_goi (ws' := []) (ret := r_13) (wc := (zPk cI (h_P) (q_P) (h_T) (c_row)) ++ (zTr cI (h_T) (q_T) (T))) (wn := fun u_15 => (zPk cI h_P q_P h_T c_row) ++ (zTr cI h_T q_T T)) (wr := []) (va_runV (As := [vI x5, vI r_10, vI x3]) (rest := []) hF.1 (c_Pk_comesAhead l D cI cZ cT h_P q_P h_T q_T c_row T x5 r_10 x3 H.size (r_13) e_14) (cwV 3 hts (zgV wm688 wm690 wm26 wm37 wm691) rfl rfl rfl (by decide +kernel) ⟨Nat.le_of_ble_eq_true rfl, Nat.le_of_ble_eq_true rfl⟩) ⟨zP.blind, va_recv hK (z_subP (ws' := (zPk cI (h_P) (q_P) (h_T) (c_row)) ++ (zTr cI (h_T) (q_T) (T))) hP [0, 1, 2, 3, 4, 5, 6, 7] rfl) (ci := 2) (q0 := 0) rfl rfl, zP.enter (z_subP (ws' := (zPk cI (h_P) (q_P) (h_T) (c_row)) ++ (zTr cI (h_T) (q_T) (T))) hP [0, 1, 2, 3, 4, 5, 6, 7] rfl) hK (hD.sub [0, 1, 2, 3, 4, 5, 6, 7] (by decide) rfl) hN⟩ rfl rfl hl.1 rfl (lv_room (Nat.le_of_ble_eq_true rfl)) dX2_sortPart_47 ⟨Nat.le_refl _, Nat.le_refl _⟩) hP hD hS hA [0, 1, 2, 3, 4, 5, 6, 7] [] [0, 1, 2, 3, 4, 5, 6, 7] rfl rfl (by decide) (fun _ => rfl) (fun u_15 H locs hP hD hS hz => ?_)
      obtain ⟨g_16, h⟩ := gd_e h
      refine z_if_eq (tgt := 79) hx hb g_16 dX2_sortPart_50 (by decide) (fun b_17 => ?_) (fun b_17 => ?_)
      · have h := it_p b_17 h
        exact hk (x6) (c_row) H locs ls h hP hD hS (lv_sub hl [0, 1, 2, 3, 4, 5, 6] rfl)
      · have h := it_n b_17 h
        refine lv_aload_n hx hb dX2_sortPart_53 rfl (lv_at hl 0 rfl) ?_
        refine va_get (D := D) (ci := 2) (v := .ref (q_P 0)) (C := RX2) (T := TX2) (N := 2) hx hb hts zin2 hown hK hP 0 rfl rfl 1 (by decide) (hts _ wm164) (fun _ h9 => h9) rfl dX2_sortPart_54 ?_
        refine lv_iload hx hb dX2_sortPart_57 (lv_at hl 6 rfl) ?_
        refine lv_aload_n hx hb dX2_sortPart_59 rfl (lv_at hl 0 rfl) ?_
        refine va_get (D := D) (ci := 2) (v := .ref (q_P 0)) (C := RX2) (T := TX2) (N := 2) hx hb hts zin2 hown hK hP 0 rfl rfl 1 (by decide) (hts _ wm164) (fun _ h9 => h9) rfl dX2_sortPart_60 ?_
        refine lv_iload hx hb dX2_sortPart_63 (lv_at hl 6 rfl) ?_
        refine lv_iconst (v := Int32.ofInt 1) hx hb dX2_sortPart_65 rfl ?_
        refine z_isub hx hb dX2_sortPart_66 ?_
        obtain ⟨r_18, e_19, h⟩ := bd1_e h
        refine z_goi (ws' := []) (ret := r_18) (wc := (zAr cI ((q_P 0)) (24) (c_row))) (wn := fun u_20 => (zPk cI h_P q_P h_T c_row) ++ (zTr cI h_T q_T T)) (wr := ([0, 2, 3, 4, 5, 6, 7].filterMap (fun i => ((zPk cI h_P q_P h_T c_row) ++ (zTr cI h_T q_T T))[i]?))) (va_runSN (As := [.ref (q_P 0), vI (x6 - 1)]) (rest := [vI x6, .ref (q_P 0)]) hF.1 (c_Rt_at l D cI cZ cT (q_P 0) 24 c_row (x6 - 1) H.size (r_18) e_19) ⟨va_cnB 2 hts (zW_good wm229) rfl rfl rfl (hN.at 10 rfl) (hts _ wm32) (by decide +kernel) ⟨Nat.le_of_ble_eq_true rfl, Nat.le_of_ble_eq_true rfl⟩, hts _ wm228, trivial⟩ ⟨zP.blind, zP.enter (z_subP (ws' := (zAr cI ((q_P 0)) (24) (c_row))) hP [1] rfl) hK (hD.sub [1] (by decide) rfl) hN⟩ rfl rfl hl.1 rfl (lv_room (Nat.le_of_ble_eq_true rfl)) dX2_sortPart_67 ⟨Nat.le_refl _, Nat.le_refl _⟩) hP hD hS hA [1] [0, 2, 3, 4, 5, 6, 7] [0, 7, 1, 2, 3, 4, 5, 6] rfl rfl (by decide) (fun _ => rfl) (fun u_20 H locs hP hD hS hz => ?_)
        obtain ⟨c_row_21, e_22, h⟩ := bd1_e h
        refine z_gov (wc := (zAr cI ((q_P 0)) (24) (c_row))) (wn := fun u_23 => (zPk cI h_P q_P h_T c_row_21) ++ (zTr cI h_T q_T T)) (wr := ([0, 2, 3, 4, 5, 6, 7].filterMap (fun i => ((zPk cI h_P q_P h_T c_row) ++ (zTr cI h_T q_T T))[i]?))) (va_runSN (As := [.ref (q_P 0), vI x6, vI r_18]) (rest := []) hF.1 (c_Rt_put l D cI cZ cT (q_P 0) 24 c_row x6 r_18 H.size (c_row_21) e_22) ⟨va_cnB 3 hts (zW_good wm61) rfl rfl rfl (hN.at 9 rfl) (hts _ wm32) (by decide +kernel) ⟨Nat.le_of_ble_eq_true rfl, Nat.le_of_ble_eq_true rfl⟩, hts _ wm60, trivial⟩ ⟨zP.blind, zP.enter (z_subP (ws' := (zAr cI ((q_P 0)) (24) (c_row))) hP [1] rfl) hK (hD.sub [1] (by decide) rfl) hN⟩ rfl rfl hl.1 rfl (lv_room (Nat.le_of_ble_eq_true rfl)) dX2_sortPart_70 ⟨Nat.le_refl _, Nat.le_refl _⟩) hP hD hS hA [1] [0, 2, 3, 4, 5, 6, 7] [0, 7, 1, 2, 3, 4, 5, 6] rfl rfl (by decide) (fun _ => rfl) (fun u_23 H locs hP hD hS hz => ?_)
        refine lv_iinc (v := Int32.ofInt (x6 + (-1))) (lv' := [(6, vI (x6 + (-1))), (0, .ref h_P), (1, vI x1), (2, vI x2), (3, vI x3), (4, vI x4), (5, vI x5)]) hx hb dX2_sortPart_73 hl (k := 6) rfl (z_inc _ _) (by decide) rfl (fun ls hl => ?_)
        refine lv_goto (tgt := 26) hx hb dX2_sortPart_76 (by decide) ?_
        exact ih ((x6 + (-1))) (c_row_21) H locs ls h hP hD hS (lv_sub hl [1, 2, 3, 4, 5, 6, 0] rfl)
set_option maxHeartbeats 4000000 in
set_option maxRecDepth 100000 in
theorem w_Pk_sortPart_L5 {p : Program} {l : Launch} {e : Env} {s : State} {m : MethodId} {args : Array Value} {below : List Frame} {meth : Method} {c : Code} {A : Nat → Prop} (D : va_G) (cI cZ cT : ClassId) (h_P : Nat) (q_P : Nat → Nat) (h_T : Nat) (q_T : Nat → Nat) (T : TV) (x1 : Int) (x2 : Int) (x3 : Int) (res : (Nat → Int)) (k : Int → (Nat → Int) → Option ((Nat → Int))) (hF : zF p m c cX2_sortPart 7 s args yX2_sortPart.cls meth none yX2_sortPart.name A D (zt cI cZ cT))
    (hk : ∀ (x4 : Int) (c_row : Nat → Int) (H : Heap) (locs : List Loc) (ls : Array Slot), k x4 c_row = some res → va_P D vwCl ((zPk cI h_P q_P h_T c_row) ++ (zTr cI h_T q_T T)) H → va_D A ((zPk cI h_P q_P h_T c_row) ++ (zTr cI h_T q_T T)) → va_S A s.heap H locs → lv_has ls 7 [] → W p l e rm_Pk_sortPart s m args below meth c H locs 0 0 (MQ below (zQv D (fun u => (zPk cI h_P q_P h_T (res)) ++ (zTr cI h_T q_T T)) A) args s 0 0 A) (F0 m 96 ls [])) :
    ∀ (n : Nat) (x4 : Int) (c_row : Nat → Int) (H : Heap) (locs : List Loc) (ls : Array Slot), f_Pk_sortPart_L5 T x1 x2 x3 k n x4 c_row = some res → va_P D vwCl ((zPk cI h_P q_P h_T c_row) ++ (zTr cI h_T q_T T)) H → va_D A ((zPk cI h_P q_P h_T c_row) ++ (zTr cI h_T q_T T)) → va_S A s.heap H locs → lv_has ls 7 [(0, .ref h_P), (1, vI x1), (2, vI x2), (3, vI x3), (4, vI x4)] → W p l e rm_Pk_sortPart s m args below meth c H locs 0 0 (MQ below (zQv D (fun u => (zPk cI h_P q_P h_T (res)) ++ (zTr cI h_T q_T T)) A) args s 0 0 A) (F0 m 5 ls []) := by
  have hx := hF.1.1
  have hb := hF.1.2.1
  have hml := hF.1.2.2.1
  have hown : s.vm.findClass "RectangleTree$Packing" = some m.cls := hF.1.2.2.2.1
  have hts := hF.1.2.2.2.2
  have hr := hF.2.1
  have hlk := hF.2.2.1
  have hK := hF.2.2.2.2.1
  have hN := hF.2.2.2.2.2.1
  have hA := hF.2.2.2.2.2.2
  intro n
  induction n with
  | zero => intro x4 c_row H locs ls h; cases h
  | succ n ih =>
    intro x4 c_row H locs ls h hP hD hS hl
    rw [f_Pk_sortPart_L5] at h
    refine lv_iload hx hb dX2_sortPart_5 (lv_at hl 4 rfl) ?_
    refine lv_iload_n hx hb dX2_sortPart_7 rfl (lv_at hl 2 rfl) ?_
    obtain ⟨g_1, h⟩ := gd_e h
    obtain ⟨g_2, h⟩ := gd_e h
    refine z_icmp_ge (tgt := 96) hx hb g_1 g_2 dX2_sortPart_8 (by decide) (fun b_3 => ?_) (fun b_3 => ?_)
    · have h := it_n b_3 h
      exact hk (x4) (c_row) H locs ls h hP hD hS (lv_sub hl [] rfl)
    · have h := it_p b_3 h
      refine lv_aload_n hx hb dX2_sortPart_11 rfl (lv_at hl 0 rfl) ?_
      refine va_get (D := D) (ci := 2) (v := .ref (q_P 0)) (C := RX2) (T := TX2) (N := 2) hx hb hts zin2 hown hK hP 0 rfl rfl 1 (by decide) (hts _ wm164) (fun _ h9 => h9) rfl dX2_sortPart_12 ?_
      refine lv_iload hx hb dX2_sortPart_15 (lv_at hl 4 rfl) ?_
      obtain ⟨r_4, e_5, h⟩ := bd1_e h
      refine z_goi (ws' := []) (ret := r_4) (wc := (zAr cI ((q_P 0)) (24) (c_row))) (wn := fun u_6 => (zPk cI h_P q_P h_T c_row) ++ (zTr cI h_T q_T T)) (wr := ([0, 2, 3, 4, 5, 6, 7].filterMap (fun i => ((zPk cI h_P q_P h_T c_row) ++ (zTr cI h_T q_T T))[i]?))) (va_runSN (As := [.ref (q_P 0), vI x4]) (rest := []) hF.1 (c_Rt_at l D cI cZ cT (q_P 0) 24 c_row x4 H.size (r_4) e_5) ⟨va_cnB 2 hts (zW_good wm229) rfl rfl rfl (hN.at 10 rfl) (hts _ wm32) (by decide +kernel) ⟨Nat.le_of_ble_eq_true rfl, Nat.le_of_ble_eq_true rfl⟩, hts _ wm228, trivial⟩ ⟨zP.blind, zP.enter (z_subP (ws' := (zAr cI ((q_P 0)) (24) (c_row))) hP [1] rfl) hK (hD.sub [1] (by decide) rfl) hN⟩ rfl rfl hl.1 rfl (lv_room (Nat.le_of_ble_eq_true rfl)) dX2_sortPart_17 ⟨Nat.le_refl _, Nat.le_refl _⟩) hP hD hS hA [1] [0, 2, 3, 4, 5, 6, 7] [0, 7, 1, 2, 3, 4, 5, 6] rfl rfl (by decide) (fun _ => rfl) (fun u_6 H locs hP hD hS hz => ?_)
      refine lv_istore (lv' := [(5, vI r_4), (0, .ref h_P), (1, vI x1), (2, vI x2), (3, vI x3), (4, vI x4)]) hx hb dX2_sortPart_20 hl (by decide) rfl (fun ls hl => ?_)
      refine lv_iload hx hb dX2_sortPart_22 (lv_at hl 5 rfl) ?_
      refine lv_istore (lv' := [(6, vI x4), (5, vI r_4), (0, .ref h_P), (1, vI x1), (2, vI x2), (3, vI x3), (4, vI x4)]) hx hb dX2_sortPart_24 hl (by decide) rfl (fun ls hl => ?_)
      refine w_Pk_sortPart_L26 D cI cZ cT (h_P) (q_P) (h_T) (q_T) (T) (x1) (x2) (x3) (x4) (r_4) _ _ hF (fun x6_24 c_row_25 H locs ls h hP hD hS hl => ?_) _ (x4) (c_row) _ _ _ h hP hD hS (lv_sub hl [2, 3, 4, 5, 6, 1, 0] rfl)
      refine lv_aload_n hx hb dX2_sortPart_79 rfl (lv_at hl 0 rfl) ?_
      refine va_get (D := D) (ci := 2) (v := .ref (q_P 0)) (C := RX2) (T := TX2) (N := 2) hx hb hts zin2 hown hK hP 0 rfl rfl 1 (by decide) (hts _ wm164) (fun _ h9 => h9) rfl dX2_sortPart_80 ?_
      refine lv_iload hx hb dX2_sortPart_83 (lv_at hl 6 rfl) ?_
      refine lv_iload hx hb dX2_sortPart_85 (lv_at hl 5 rfl) ?_
      obtain ⟨c_row_26, e_27, h⟩ := bd1_e h
      refine z_gov (wc := (zAr cI ((q_P 0)) (24) (c_row_25))) (wn := fun u_28 => (zPk cI h_P q_P h_T c_row_26) ++ (zTr cI h_T q_T T)) (wr := ([0, 2, 3, 4, 5, 6, 7].filterMap (fun i => ((zPk cI h_P q_P h_T c_row_25) ++ (zTr cI h_T q_T T))[i]?))) (va_runSN (As := [.ref (q_P 0), vI x6_24, vI r_4]) (rest := []) hF.1 (c_Rt_put l D cI cZ cT (q_P 0) 24 c_row_25 x6_24 r_4 H.size (c_row_26) e_27) ⟨va_cnB 3 hts (zW_good wm61) rfl rfl rfl (hN.at 9 rfl) (hts _ wm32) (by decide +kernel) ⟨Nat.le_of_ble_eq_true rfl, Nat.le_of_ble_eq_true rfl⟩, hts _ wm60, trivial⟩ ⟨zP.blind, zP.enter (z_subP (ws' := (zAr cI ((q_P 0)) (24) (c_row_25))) hP [1] rfl) hK (hD.sub [1] (by decide) rfl) hN⟩ rfl rfl hl.1 rfl (lv_room (Nat.le_of_ble_eq_true rfl)) dX2_sortPart_87 ⟨Nat.le_refl _, Nat.le_refl _⟩) hP hD hS hA [1] [0, 2, 3, 4, 5, 6, 7] [0, 7, 1, 2, 3, 4, 5, 6] rfl rfl (by decide) (fun _ => rfl) (fun u_28 H locs hP hD hS hz => ?_)
      refine lv_iinc (v := Int32.ofInt (x4 + 1)) (lv' := [(4, vI (x4 + 1)), (0, .ref h_P), (1, vI x1), (2, vI x2), (3, vI x3), (5, vI r_4), (6, vI x6_24)]) hx hb dX2_sortPart_90 hl (k := 4) rfl (z_inc _ _) (by decide) rfl (fun ls hl => ?_)
      refine lv_goto (tgt := 5) hx hb dX2_sortPart_93 (by decide) ?_
      exact ih ((x4 + 1)) (c_row_26) H locs ls h hP hD hS (lv_sub hl [1, 2, 3, 4, 0] rfl)
set_option maxHeartbeats 4000000 in
set_option maxRecDepth 100000 in
theorem c_Pk_sortPart (l : Launch) (D : va_G) (cI cZ cT : ClassId) (h_P : Nat) (q_P : Nat → Nat) (h_T : Nat) (q_T : Nat → Nat) (c_row : Nat → Int) (T : TV) (x1 : Int) (x2 : Int) (x3 : Int) (sz : Nat) (res : (Nat → Int)) (h : f_Pk_sortPart c_row T x1 x2 x3 = some res) : zMv l yX2_sortPart cX2_sortPart 7 rm_Pk_sortPart D (zt cI cZ cT) [.ref h_P, vI x1, vI x2, vI x3] ((zPk cI h_P q_P h_T c_row) ++ (zTr cI h_T q_T T)) sz (fun u => (zPk cI h_P q_P h_T (res)) ++ (zTr cI h_T q_T T)) 0 0 := by
  refine z_enth (Qc := zQv D (fun u => (zPk cI h_P q_P h_T (res)) ++ (zTr cI h_T q_T T))) (by decide) (Nat.le_of_ble_eq_true rfl) (fun p e s m args below meth c A ls H locs hF hP hD hS hl => ?_)
  have hx := hF.1.1
  have hb := hF.1.2.1
  have hml := hF.1.2.2.1
  have hown : s.vm.findClass "RectangleTree$Packing" = some m.cls := hF.1.2.2.2.1
  have hts := hF.1.2.2.2.2
  have hr := hF.2.1
  have hlk := hF.2.2.1
  have hK := hF.2.2.2.2.1
  have hN := hF.2.2.2.2.2.1
  have hA := hF.2.2.2.2.2.2
  unfold f_Pk_sortPart at h
  refine lv_iload_n hx hb dX2_sortPart_0 rfl (lv_at hl 1 rfl) ?_
  refine lv_iconst (v := Int32.ofInt 1) hx hb dX2_sortPart_1 rfl ?_
  refine z_iadd hx hb dX2_sortPart_2 ?_
  refine lv_istore (lv' := [(4, vI (x1 + 1)), (0, .ref h_P), (1, vI x1), (2, vI x2), (3, vI x3)]) hx hb dX2_sortPart_3 hl (by decide) rfl (fun ls hl => ?_)
  refine w_Pk_sortPart_L5 D cI cZ cT (h_P) (q_P) (h_T) (q_T) (T) (x1) (x2) (x3) _ _ hF (fun x4_29 c_row_30 H locs ls h hP hD hS hl => ?_) _ ((x1 + 1)) (c_row) _ _ _ h hP hD hS (lv_sub hl [1, 2, 3, 4, 0] rfl)
  obtain rfl := Option.some.inj h
  exact z_vret hx hb hr hlk (fun _ _ => 0) hP hD hS dX2_sortPart_96
