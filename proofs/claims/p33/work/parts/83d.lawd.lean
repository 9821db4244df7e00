/-! the law's methods: contracts -/

set_option maxHeartbeats 4000000 in
set_option maxRecDepth 100000 in
theorem w_Lw_common_L0 {p : Program} {l : Launch} {e : Env} {s : State} {m : MethodId} {args : Array Value} {below : List Frame} {meth : Method} {c : Code} {A : Nat → Prop} (D : va_G) (cI cZ cT : ClassId) (h_R : Nat) (h_T : Nat) (hc_R : Nat) (hp_R : Nat) (h_K : Nat) (hx_R : Nat) (hh_R : Nat) (hs_R : Nat) (q_T : Nat → Nat) (q_K : Nat → Nat) (c_hasSnapshot : Int) (T : TV) (K : KV) (x1 : Int) (x2 : Int) (res : Int) (k : Int → Option (Int)) (hF : zF p m c cL_common 7 s args yL_common.cls meth (some .int) yL_common.name A D (zt cI cZ cT))
    (hk : ∀ (x3 : Int) (H : Heap) (locs : List Loc) (ls : Array Slot), k x3 = some res → va_P D vwCl ((zRt h_R h_T hc_R hp_R h_K hx_R hh_R hs_R c_hasSnapshot) ++ (zTr cI h_T q_T T) ++ (zWk cI h_K q_K K)) H → va_D A ((zRt h_R h_T hc_R hp_R h_K hx_R hh_R hs_R c_hasSnapshot) ++ (zTr cI h_T q_T T) ++ (zWk cI h_K q_K K)) → va_S A s.heap H locs → lv_has ls 7 [(0, .ref h_R), (1, vI x1), (2, vI x2), (3, vI x3)] → W p l e rm_Lw_common s m args below meth c H locs 0 0 (MQ below (zQi D (res) (fun u => (zRt h_R h_T hc_R hp_R h_K hx_R hh_R hs_R c_hasSnapshot) ++ (zTr cI h_T q_T T) ++ (zWk cI h_K q_K K)) A) args s 0 0 A) (F0 m 31 ls [])) :
    ∀ (n : Nat) (x3 : Int) (H : Heap) (locs : List Loc) (ls : Array Slot), f_Lw_common_L0 T K x1 x2 k n x3 = some res → va_P D vwCl ((zRt h_R h_T hc_R hp_R h_K hx_R hh_R hs_R c_hasSnapshot) ++ (zTr cI h_T q_T T) ++ (zWk cI h_K q_K K)) H → va_D A ((zRt h_R h_T hc_R hp_R h_K hx_R hh_R hs_R c_hasSnapshot) ++ (zTr cI h_T q_T T) ++ (zWk cI h_K q_K K)) → va_S A s.heap H locs → lv_has ls 7 [(0, .ref h_R), (1, vI x1), (2, vI x2)] → W p l e rm_Lw_common s m args below meth c H locs 0 0 (MQ below (zQi D (res) (fun u => (zRt h_R h_T hc_R hp_R h_K hx_R hh_R hs_R c_hasSnapshot) ++ (zTr cI h_T q_T T) ++ (zWk cI h_K q_K K)) A) args s 0 0 A) (F0 m 0 ls []) := by
  have hx := hF.1.1
  have hb := hF.1.2.1
  have hml := hF.1.2.2.1
  have hown : s.vm.findClass "RectangleTreeLaw" = some m.cls := hF.1.2.2.2.1
  have hts := hF.1.2.2.2.2
  have hr := hF.2.1
  have hlk := hF.2.2.1
  have hK := hF.2.2.2.2.1
  have hN := hF.2.2.2.2.2.1
  have hA := hF.2.2.2.2.2.2
  intro n
  induction n with
  | zero => intro x3  H locs ls h; cases h
  | succ n ih =>
    intro x3  H locs ls h  hP hD hS hl
    rw [f_Lw_common_L0] at h
    refine lv_aload_n hx hb dL_common_0 rfl (lv_at hl 0 rfl) ?_
    refine lv_iload_n hx hb dL_common_1 rfl (lv_at hl 1 rfl) ?_
    refine lv_iconst (v := Int32.ofInt 0) hx hb dL_common_2 rfl ?_
    obtain ⟨r_1, e_2, h⟩ := bd1_e h
    refine z_goi (ws' := []) (ret := r_1) (wc := (zRt (h_R) (h_T) (hc_R) (hp_R) (h_K) (hx_R) (hh_R) (hs_R) (c_hasSnapshot)) ++ (zTr cI (h_T) (q_T) (T)) ++ (zWk cI (h_K) (q_K) (K))) (wn := fun u_3 => (zRt h_R h_T hc_R hp_R h_K hx_R hh_R hs_R c_hasSnapshot) ++ (zTr cI h_T q_T T) ++ (zWk cI h_K q_K K)) (wr := []) (va_runV (As := [vI x1, vI 0]) (rest := []) hF.1 (c_Rt_bound l D cI cZ cT h_R h_T hc_R hp_R h_K hx_R hh_R hs_R q_T q_K c_hasSnapshot T K x1 0 H.size (r_1) e_2) (cwV 2 hts (zgV wm313 wm314 wm315 wm32 wm316) rfl rfl rfl (by decide +kernel) ⟨Nat.le_of_ble_eq_true rfl, Nat.le_of_ble_eq_true rfl⟩) ⟨zP.blind, va_recv hK (z_subP (ws' := (zRt (h_R) (h_T) (hc_R) (hp_R) (h_K) (hx_R) (hh_R) (hs_R) (c_hasSnapshot)) ++ (zTr cI (h_T) (q_T) (T)) ++ (zWk cI (h_K) (q_K) (K))) hP [0, 1, 2, 3, 4, 5, 6, 7, 8, 9] rfl) (ci := 6) (q0 := 0) rfl rfl, zP.enter (z_subP (ws' := (zRt (h_R) (h_T) (hc_R) (hp_R) (h_K) (hx_R) (hh_R) (hs_R) (c_hasSnapshot)) ++ (zTr cI (h_T) (q_T) (T)) ++ (zWk cI (h_K) (q_K) (K))) hP [0, 1, 2, 3, 4, 5, 6, 7, 8, 9] rfl) hK (hD.sub [0, 1, 2, 3, 4, 5, 6, 7, 8, 9] (by decide) rfl) hN⟩ rfl rfl hl.1 rfl (lv_room (Nat.le_of_ble_eq_true rfl)) dL_common_3 ⟨Nat.le_refl _, Nat.le_refl _⟩) hP hD hS hA [0, 1, 2, 3, 4, 5, 6, 7, 8, 9] [] [0, 1, 2, 3, 4, 5, 6, 7, 8, 9] rfl rfl (by decide) (fun _ => rfl) (fun u_3 H locs hP hD hS hz => ?_)
    refine lv_aload_n hx hb dL_common_6 rfl (lv_at hl 0 rfl) ?_
    refine lv_iload_n hx hb dL_common_7 rfl (lv_at hl 2 rfl) ?_
    refine lv_iconst (v := Int32.ofInt 0) hx hb dL_common_8 rfl ?_
    obtain ⟨r_4, e_5, h⟩ := bd1_e h
    refine z_goi (ws' := []) (ret := r_4) (wc := (zRt (h_R) (h_T) (hc_R) (hp_R) (h_K) (hx_R) (hh_R) (hs_R) (c_hasSnapshot)) ++ (zTr cI (h_T) (q_T) (T)) ++ (zWk cI (h_K) (q_K) (K))) (wn := fun u_6 => (zRt h_R h_T hc_R hp_R h_K hx_R hh_R hs_R c_hasSnapshot) ++ (zTr cI h_T q_T T) ++ (zWk cI h_K q_K K)) (wr := []) (va_runV (As := [vI x2, vI 0]) (rest := [vI r_1]) hF.1 (c_Rt_bound l D cI cZ cT h_R h_T hc_R hp_R h_K hx_R hh_R hs_R q_T q_K c_hasSnapshot T K x2 0 H.size (r_4) e_5) (cwV 2 hts (zgV wm313 wm314 wm315 wm32 wm316) rfl rfl rfl (by decide +kernel) ⟨Nat.le_of_ble_eq_true rfl, Nat.le_of_ble_eq_true rfl⟩) ⟨zP.blind, va_recv hK (z_subP (ws' := (zRt (h_R) (h_T) (hc_R) (hp_R) (h_K) (hx_R) (hh_R) (hs_R) (c_hasSnapshot)) ++ (zTr cI (h_T) (q_T) (T)) ++ (zWk cI (h_K) (q_K) (K))) hP [0, 1, 2, 3, 4, 5, 6, 7, 8, 9] rfl) (ci := 6) (q0 := 0) rfl rfl, zP.enter (z_subP (ws' := (zRt (h_R) (h_T) (hc_R) (hp_R) (h_K) (hx_R) (hh_R) (hs_R) (c_hasSnapshot)) ++ (zTr cI (h_T) (q_T) (T)) ++ (zWk cI (h_K) (q_K) (K))) hP [0, 1, 2, 3, 4, 5, 6, 7, 8, 9] rfl) hK (hD.sub [0, 1, 2, 3, 4, 5, 6, 7, 8, 9] (by decide) rfl) hN⟩ rfl rfl hl.1 rfl (lv_room (Nat.le_of_ble_eq_true rfl)) dL_common_9 ⟨Nat.le_refl _, Nat.le_refl _⟩) hP hD hS hA [0, 1, 2, 3, 4, 5, 6, 7, 8, 9] [] [0, 1, 2, 3, 4, 5, 6, 7, 8, 9] rfl rfl (by decide) (fun _ => rfl) (fun u_6 H locs hP hD hS hz => ?_)
    obtain ⟨g_7, h⟩ := gd_e h
    obtain ⟨g_8, h⟩ := gd_e h
    refine z_icmp_le (tgt := 24) hx hb g_7 g_8 dL_common_12 (by decide) (fun b_9 => ?_) (fun b_9 => ?_)
    · have h := it_n b_9 h
      refine lv_aload_n hx hb dL_common_24 rfl (lv_at hl 0 rfl) ?_
      refine lv_iload_n hx hb dL_common_25 rfl (lv_at hl 2 rfl) ?_
      refine lv_iconst (v := Int32.ofInt 0) hx hb dL_common_26 rfl ?_
      obtain ⟨r_10, e_11, h⟩ := bd1_e h
      refine z_goi (ws' := []) (ret := r_10) (wc := (zRt (h_R) (h_T) (hc_R) (hp_R) (h_K) (hx_R) (hh_R) (hs_R) (c_hasSnapshot)) ++ (zTr cI (h_T) (q_T) (T)) ++ (zWk cI (h_K) (q_K) (K))) (wn := fun u_12 => (zRt h_R h_T hc_R hp_R h_K hx_R hh_R hs_R c_hasSnapshot) ++ (zTr cI h_T q_T T) ++ (zWk cI h_K q_K K)) (wr := []) (va_runV (As := [vI x2, vI 0]) (rest := []) hF.1 (c_Rt_bound l D cI cZ cT h_R h_T hc_R hp_R h_K hx_R hh_R hs_R q_T q_K c_hasSnapshot T K x2 0 H.size (r_10) e_11) (cwV 2 hts (zgV wm313 wm314 wm315 wm32 wm316) rfl rfl rfl (by decide +kernel) ⟨Nat.le_of_ble_eq_true rfl, Nat.le_of_ble_eq_true rfl⟩) ⟨zP.blind, va_recv hK (z_subP (ws' := (zRt (h_R) (h_T) (hc_R) (hp_R) (h_K) (hx_R) (hh_R) (hs_R) (c_hasSnapshot)) ++ (zTr cI (h_T) (q_T) (T)) ++ (zWk cI (h_K) (q_K) (K))) hP [0, 1, 2, 3, 4, 5, 6, 7, 8, 9] rfl) (ci := 6) (q0 := 0) rfl rfl, zP.enter (z_subP (ws' := (zRt (h_R) (h_T) (hc_R) (hp_R) (h_K) (hx_R) (hh_R) (hs_R) (c_hasSnapshot)) ++ (zTr cI (h_T) (q_T) (T)) ++ (zWk cI (h_K) (q_K) (K))) hP [0, 1, 2, 3, 4, 5, 6, 7, 8, 9] rfl) hK (hD.sub [0, 1, 2, 3, 4, 5, 6, 7, 8, 9] (by decide) rfl) hN⟩ rfl rfl hl.1 rfl (lv_room (Nat.le_of_ble_eq_true rfl)) dL_common_27 ⟨Nat.le_refl _, Nat.le_refl _⟩) hP hD hS hA [0, 1, 2, 3, 4, 5, 6, 7, 8, 9] [] [0, 1, 2, 3, 4, 5, 6, 7, 8, 9] rfl rfl (by decide) (fun _ => rfl) (fun u_12 H locs hP hD hS hz => ?_)
      refine lv_istore_n (lv' := [(3, vI r_10), (0, .ref h_R), (1, vI x1), (2, vI x2)]) hx hb dL_common_30 rfl hl (by decide) rfl (fun ls hl => ?_)
      exact hk (r_10) H locs ls h hP hD hS (lv_sub hl [1, 2, 3, 0] rfl)
    · have h := it_p b_9 h
      refine lv_aload_n hx hb dL_common_15 rfl (lv_at hl 0 rfl) ?_
      refine lv_iload_n hx hb dL_common_16 rfl (lv_at hl 1 rfl) ?_
      refine lv_iconst (v := Int32.ofInt 0) hx hb dL_common_17 rfl ?_
      obtain ⟨r_13, e_14, h⟩ := bd1_e h
      refine z_goi (ws' := []) (ret := r_13) (wc := (zRt (h_R) (h_T) (hc_R) (hp_R) (h_K) (hx_R) (hh_R) (hs_R) (c_hasSnapshot)) ++ (zTr cI (h_T) (q_T) (T)) ++ (zWk cI (h_K) (q_K) (K))) (wn := fun u_15 => (zRt h_R h_T hc_R hp_R h_K hx_R hh_R hs_R c_hasSnapshot) ++ (zTr cI h_T q_T T) ++ (zWk cI h_K q_K K)) (wr := []) (va_runV (As := [vI x1, vI 0]) (rest := []) hF.1 (c_Rt_bound l D cI cZ cT h_R h_T hc_R hp_R h_K hx_R hh_R hs_R q_T q_K c_hasSnapshot T K x1 0 H.size (r_13) e_14) (cwV 2 hts (zgV wm313 wm314 wm315 wm32 wm316) rfl rfl rfl (by decide +kernel) ⟨Nat.le_of_ble_eq_true rfl, Nat.le_of_ble_eq_true rfl⟩) ⟨zP.blind, va_recv hK (z_subP (ws' := (zRt (h_R) (h_T) (hc_R) (hp_R) (h_K) (hx_R) (hh_R) (hs_R) (c_hasSnapshot)) ++ (zTr cI (h_T) (q_T) (T)) ++ (zWk cI (h_K) (q_K) (K))) hP [0, 1, 2, 3, 4, 5, 6, 7, 8, 9] rfl) (ci := 6) (q0 := 0) rfl rfl, zP.enter (z_subP (ws' := (zRt (h_R) (h_T) (hc_R) (hp_R) (h_K) (hx_R) (hh_R) (hs_R) (c_hasSnapshot)) ++ (zTr cI (h_T) (q_T) (T)) ++ (zWk cI (h_K) (q_K) (K))) hP [0, 1, 2, 3, 4, 5, 6, 7, 8, 9] rfl) hK (hD.sub [0, 1, 2, 3, 4, 5, 6, 7, 8, 9] (by decide) rfl) hN⟩ rfl rfl hl.1 rfl (lv_room (Nat.le_of_ble_eq_true rfl)) dL_common_18 ⟨Nat.le_refl _, Nat.le_refl _⟩) hP hD hS hA [0, 1, 2, 3, 4, 5, 6, 7, 8, 9] [] [0, 1, 2, 3, 4, 5, 6, 7, 8, 9] rfl rfl (by decide) (fun _ => rfl) (fun u_15 H locs hP hD hS hz => ?_)
      refine lv_goto (tgt := 30) hx hb dL_common_21 (by decide) ?_
      refine lv_istore_n (lv' := [(3, vI r_13), (0, .ref h_R), (1, vI x1), (2, vI x2)]) hx hb dL_common_30 rfl hl (by decide) rfl (fun ls hl => ?_)
      exact hk (r_13) H locs ls h hP hD hS (lv_sub hl [1, 2, 3, 0] rfl)

set_option maxHeartbeats 4000000 in
set_option maxRecDepth 100000 in
theorem w_Lw_common_L31 {p : Program} {l : Launch} {e : Env} {s : State} {m : MethodId} {args : Array Value} {below : List Frame} {meth : Method} {c : Code} {A : Nat → Prop} (D : va_G) (cI cZ cT : ClassId) (h_R : Nat) (h_T : Nat) (hc_R : Nat) (hp_R : Nat) (h_K : Nat) (hx_R : Nat) (hh_R : Nat) (hs_R : Nat) (q_T : Nat → Nat) (q_K : Nat → Nat) (c_hasSnapshot : Int) (T : TV) (K : KV) (x1 : Int) (x2 : Int) (x3 : Int) (res : Int) (k : Int → Option (Int)) (hF : zF p m c cL_common 7 s args yL_common.cls meth (some .int) yL_common.name A D (zt cI cZ cT))
    (hk : ∀ (x4 : Int) (H : Heap) (locs : List Loc) (ls : Array Slot), k x4 = some res → va_P D vwCl ((zRt h_R h_T hc_R hp_R h_K hx_R hh_R hs_R c_hasSnapshot) ++ (zTr cI h_T q_T T) ++ (zWk cI h_K q_K K)) H → va_D A ((zRt h_R h_T hc_R hp_R h_K hx_R hh_R hs_R c_hasSnapshot) ++ (zTr cI h_T q_T T) ++ (zWk cI h_K q_K K)) → va_S A s.heap H locs → lv_has ls 7 [(0, .ref h_R), (1, vI x1), (2, vI x2), (3, vI x3), (4, vI x4)] → W p l e rm_Lw_common s m args below meth c H locs 0 0 (MQ below (zQi D (res) (fun u => (zRt h_R h_T hc_R hp_R h_K hx_R hh_R hs_R c_hasSnapshot) ++ (zTr cI h_T q_T T) ++ (zWk cI h_K q_K K)) A) args s 0 0 A) (F0 m 63 ls [])) :
    ∀ (n : Nat) (x4 : Int) (H : Heap) (locs : List Loc) (ls : Array Slot), f_Lw_common_L31 T K x1 x2 k n x4 = some res → va_P D vwCl ((zRt h_R h_T hc_R hp_R h_K hx_R hh_R hs_R c_hasSnapshot) ++ (zTr cI h_T q_T T) ++ (zWk cI h_K q_K K)) H → va_D A ((zRt h_R h_T hc_R hp_R h_K hx_R hh_R hs_R c_hasSnapshot) ++ (zTr cI h_T q_T T) ++ (zWk cI h_K q_K K)) → va_S A s.heap H locs → lv_has ls 7 [(0, .ref h_R), (1, vI x1), (2, vI x2), (3, vI x3)] → W p l e rm_Lw_common s m args below meth c H locs 0 0 (MQ below (zQi D (res) (fun u => (zRt h_R h_T hc_R hp_R h_K hx_R hh_R hs_R c_hasSnapshot) ++ (zTr cI h_T q_T T) ++ (zWk cI h_K q_K K)) A) args s 0 0 A) (F0 m 31 ls []) := by
  have hx := hF.1.1
  have hb := hF.1.2.1
  have hml := hF.1.2.2.1
  have hown : s.vm.findClass "RectangleTreeLaw" = some m.cls := hF.1.2.2.2.1
  have hts := hF.1.2.2.2.2
  have hr := hF.2.1
  have hlk := hF.2.2.1
  have hK := hF.2.2.2.2.1
  have hN := hF.2.2.2.2.2.1
  have hA := hF.2.2.2.2.2.2
  intro n
  induction n with
  | zero => intro x4  H locs ls h; cases h
  | succ n ih =>
    intro x4  H locs ls h  hP hD hS hl
    rw [f_Lw_common_L31] at h
    refine lv_aload_n hx hb dL_common_31 rfl (lv_at hl 0 rfl) ?_
    refine lv_iload_n hx hb dL_common_32 rfl (lv_at hl 1 rfl) ?_
    refine lv_iconst (v := Int32.ofInt 1) hx hb dL_common_33 rfl ?_
    obtain ⟨r_17, e_18, h⟩ := bd1_e h
    refine z_goi (ws' := []) (ret := r_17) (wc := (zRt (h_R) (h_T) (hc_R) (hp_R) (h_K) (hx_R) (hh_R) (hs_R) (c_hasSnapshot)) ++ (zTr cI (h_T) (q_T) (T)) ++ (zWk cI (h_K) (q_K) (K))) (wn := fun u_19 => (zRt h_R h_T hc_R hp_R h_K hx_R hh_R hs_R c_hasSnapshot) ++ (zTr cI h_T q_T T) ++ (zWk cI h_K q_K K)) (wr := []) (va_runV (As := [vI x1, vI 1]) (rest := []) hF.1 (c_Rt_bound l D cI cZ cT h_R h_T hc_R hp_R h_K hx_R hh_R hs_R q_T q_K c_hasSnapshot T K x1 1 H.size (r_17) e_18) (cwV 2 hts (zgV wm313 wm314 wm315 wm32 wm316) rfl rfl rfl (by decide +kernel) ⟨Nat.le_of_ble_eq_true rfl, Nat.le_of_ble_eq_true rfl⟩) ⟨zP.blind, va_recv hK (z_subP (ws' := (zRt (h_R) (h_T) (hc_R) (hp_R) (h_K) (hx_R) (hh_R) (hs_R) (c_hasSnapshot)) ++ (zTr cI (h_T) (q_T) (T)) ++ (zWk cI (h_K) (q_K) (K))) hP [0, 1, 2, 3, 4, 5, 6, 7, 8, 9] rfl) (ci := 6) (q0 := 0) rfl rfl, zP.enter (z_subP (ws' := (zRt (h_R) (h_T) (hc_R) (hp_R) (h_K) (hx_R) (hh_R) (hs_R) (c_hasSnapshot)) ++ (zTr cI (h_T) (q_T) (T)) ++ (zWk cI (h_K) (q_K) (K))) hP [0, 1, 2, 3, 4, 5, 6, 7, 8, 9] rfl) hK (hD.sub [0, 1, 2, 3, 4, 5, 6, 7, 8, 9] (by decide) rfl) hN⟩ rfl rfl hl.1 rfl (lv_room (Nat.le_of_ble_eq_true rfl)) dL_common_34 ⟨Nat.le_refl _, Nat.le_refl _⟩) hP hD hS hA [0, 1, 2, 3, 4, 5, 6, 7, 8, 9] [] [0, 1, 2, 3, 4, 5, 6, 7, 8, 9] rfl rfl (by decide) (fun _ => rfl) (fun u_19 H locs hP hD hS hz => ?_)
    refine lv_aload_n hx hb dL_common_37 rfl (lv_at hl 0 rfl) ?_
    refine lv_iload_n hx hb dL_common_38 rfl (lv_at hl 2 rfl) ?_
    refine lv_iconst (v := Int32.ofInt 1) hx hb dL_common_39 rfl ?_
    obtain ⟨r_20, e_21, h⟩ := bd1_e h
    refine z_goi (ws' := []) (ret := r_20) (wc := (zRt (h_R) (h_T) (hc_R) (hp_R) (h_K) (hx_R) (hh_R) (hs_R) (c_hasSnapshot)) ++ (zTr cI (h_T) (q_T) (T)) ++ (zWk cI (h_K) (q_K) (K))) (wn := fun u_22 => (zRt h_R h_T hc_R hp_R h_K hx_R hh_R hs_R c_hasSnapshot) ++ (zTr cI h_T q_T T) ++ (zWk cI h_K q_K K)) (wr := []) (va_runV (As := [vI x2, vI 1]) (rest := [vI r_17]) hF.1 (c_Rt_bound l D cI cZ cT h_R h_T hc_R hp_R h_K hx_R hh_R hs_R q_T q_K c_hasSnapshot T K x2 1 H.size (r_20) e_21) (cwV 2 hts (zgV wm313 wm314 wm315 wm32 wm316) rfl rfl rfl (by decide +kernel) ⟨Nat.le_of_ble_eq_true rfl, Nat.le_of_ble_eq_true rfl⟩) ⟨zP.blind, va_recv hK (z_subP (ws' := (zRt (h_R) (h_T) (hc_R) (hp_R) (h_K) (hx_R) (hh_R) (hs_R) (c_hasSnapshot)) ++ (zTr cI (h_T) (q_T) (T)) ++ (zWk cI (h_K) (q_K) (K))) hP [0, 1, 2, 3, 4, 5, 6, 7, 8, 9] rfl) (ci := 6) (q0 := 0) rfl rfl, zP.enter (z_subP (ws' := (zRt (h_R) (h_T) (hc_R) (hp_R) (h_K) (hx_R) (hh_R) (hs_R) (c_hasSnapshot)) ++ (zTr cI (h_T) (q_T) (T)) ++ (zWk cI (h_K) (q_K) (K))) hP [0, 1, 2, 3, 4, 5, 6, 7, 8, 9] rfl) hK (hD.sub [0, 1, 2, 3, 4, 5, 6, 7, 8, 9] (by decide) rfl) hN⟩ rfl rfl hl.1 rfl (lv_room (Nat.le_of_ble_eq_true rfl)) dL_common_40 ⟨Nat.le_refl _, Nat.le_refl _⟩) hP hD hS hA [0, 1, 2, 3, 4, 5, 6, 7, 8, 9] [] [0, 1, 2, 3, 4, 5, 6, 7, 8, 9] rfl rfl (by decide) (fun _ => rfl) (fun u_22 H locs hP hD hS hz => ?_)
    obtain ⟨g_23, h⟩ := gd_e h
    obtain ⟨g_24, h⟩ := gd_e h
    refine z_icmp_le (tgt := 55) hx hb g_23 g_24 dL_common_43 (by decide) (fun b_25 => ?_) (fun b_25 => ?_)
    · have h := it_n b_25 h
      refine lv_aload_n hx hb dL_common_55 rfl (lv_at hl 0 rfl) ?_
      refine lv_iload_n hx hb dL_common_56 rfl (lv_at hl 2 rfl) ?_
      refine lv_iconst (v := Int32.ofInt 1) hx hb dL_common_57 rfl ?_
      obtain ⟨r_26, e_27, h⟩ := bd1_e h
      refine z_goi (ws' := []) (ret := r_26) (wc := (zRt (h_R) (h_T) (hc_R) (hp_R) (h_K) (hx_R) (hh_R) (hs_R) (c_hasSnapshot)) ++ (zTr cI (h_T) (q_T) (T)) ++ (zWk cI (h_K) (q_K) (K))) (wn := fun u_28 => (zRt h_R h_T hc_R hp_R h_K hx_R hh_R hs_R c_hasSnapshot) ++ (zTr cI h_T q_T T) ++ (zWk cI h_K q_K K)) (wr := []) (va_runV (As := [vI x2, vI 1]) (rest := []) hF.1 (c_Rt_bound l D cI cZ cT h_R h_T hc_R hp_R h_K hx_R hh_R hs_R q_T q_K c_hasSnapshot T K x2 1 H.size (r_26) e_27) (cwV 2 hts (zgV wm313 wm314 wm315 wm32 wm316) rfl rfl rfl (by decide +kernel) ⟨Nat.le_of_ble_eq_true rfl, Nat.le_of_ble_eq_true rfl⟩) ⟨zP.blind, va_recv hK (z_subP (ws' := (zRt (h_R) (h_T) (hc_R) (hp_R) (h_K) (hx_R) (hh_R) (hs_R) (c_hasSnapshot)) ++ (zTr cI (h_T) (q_T) (T)) ++ (zWk cI (h_K) (q_K) (K))) hP [0, 1, 2, 3, 4, 5, 6, 7, 8, 9] rfl) (ci := 6) (q0 := 0) rfl rfl, zP.enter (z_subP (ws' := (zRt (h_R) (h_T) (hc_R) (hp_R) (h_K) (hx_R) (hh_R) (hs_R) (c_hasSnapshot)) ++ (zTr cI (h_T) (q_T) (T)) ++ (zWk cI (h_K) (q_K) (K))) hP [0, 1, 2, 3, 4, 5, 6, 7, 8, 9] rfl) hK (hD.sub [0, 1, 2, 3, 4, 5, 6, 7, 8, 9] (by decide) rfl) hN⟩ rfl rfl hl.1 rfl (lv_room (Nat.le_of_ble_eq_true rfl)) dL_common_58 ⟨Nat.le_refl _, Nat.le_refl _⟩) hP hD hS hA [0, 1, 2, 3, 4, 5, 6, 7, 8, 9] [] [0, 1, 2, 3, 4, 5, 6, 7, 8, 9] rfl rfl (by decide) (fun _ => rfl) (fun u_28 H locs hP hD hS hz => ?_)
      refine lv_istore (lv' := [(4, vI r_26), (0, .ref h_R), (1, vI x1), (2, vI x2), (3, vI x3)]) hx hb dL_common_61 hl (by decide) rfl (fun ls hl => ?_)
      exact hk (r_26) H locs ls h hP hD hS (lv_sub hl [1, 2, 3, 4, 0] rfl)
    · have h := it_p b_25 h
      refine lv_aload_n hx hb dL_common_46 rfl (lv_at hl 0 rfl) ?_
      refine lv_iload_n hx hb dL_common_47 rfl (lv_at hl 1 rfl) ?_
      refine lv_iconst (v := Int32.ofInt 1) hx hb dL_common_48 rfl ?_
      obtain ⟨r_29, e_30, h⟩ := bd1_e h
      refine z_goi (ws' := []) (ret := r_29) (wc := (zRt (h_R) (h_T) (hc_R) (hp_R) (h_K) (hx_R) (hh_R) (hs_R) (c_hasSnapshot)) ++ (zTr cI (h_T) (q_T) (T)) ++ (zWk cI (h_K) (q_K) (K))) (wn := fun u_31 => (zRt h_R h_T hc_R hp_R h_K hx_R hh_R hs_R c_hasSnapshot) ++ (zTr cI h_T q_T T) ++ (zWk cI h_K q_K K)) (wr := []) (va_runV (As := [vI x1, vI 1]) (rest := []) hF.1 (c_Rt_bound l D cI cZ cT h_R h_T hc_R hp_R h_K hx_R hh_R hs_R q_T q_K c_hasSnapshot T K x1 1 H.size (r_29) e_30) (cwV 2 hts (zgV wm313 wm314 wm315 wm32 wm316) rfl rfl rfl (by decide +kernel) ⟨Nat.le_of_ble_eq_true rfl, Nat.le_of_ble_eq_true rfl⟩) ⟨zP.blind, va_recv hK (z_subP (ws' := (zRt (h_R) (h_T) (hc_R) (hp_R) (h_K) (hx_R) (hh_R) (hs_R) (c_hasSnapshot)) ++ (zTr cI (h_T) (q_T) (T)) ++ (zWk cI (h_K) (q_K) (K))) hP [0, 1, 2, 3, 4, 5, 6, 7, 8, 9] rfl) (ci := 6) (q0 := 0) rfl rfl, zP.enter (z_subP (ws' := (zRt (h_R) (h_T) (hc_R) (hp_R) (h_K) (hx_R) (hh_R) (hs_R) (c_hasSnapshot)) ++ (zTr cI (h_T) (q_T) (T)) ++ (zWk cI (h_K) (q_K) (K))) hP [0, 1, 2, 3, 4, 5, 6, 7, 8, 9] rfl) hK (hD.sub [0, 1, 2, 3, 4, 5, 6, 7, 8, 9] (by decide) rfl) hN⟩ rfl rfl hl.1 rfl (lv_room (Nat.le_of_ble_eq_true rfl)) dL_common_49 ⟨Nat.le_refl _, Nat.le_refl _⟩) hP hD hS hA [0, 1, 2, 3, 4, 5, 6, 7, 8, 9] [] [0, 1, 2, 3, 4, 5, 6, 7, 8, 9] rfl rfl (by decide) (fun _ => rfl) (fun u_31 H locs hP hD hS hz => ?_)
      refine lv_goto (tgt := 61) hx hb dL_common_52 (by decide) ?_
      refine lv_istore (lv' := [(4, vI r_29), (0, .ref h_R), (1, vI x1), (2, vI x2), (3, vI x3)]) hx hb dL_common_61 hl (by decide) rfl (fun ls hl => ?_)
      exact hk (r_29) H locs ls h hP hD hS (lv_sub hl [1, 2, 3, 4, 0] rfl)

set_option maxHeartbeats 4000000 in
set_option maxRecDepth 100000 in
theorem w_Lw_common_L63 {p : Program} {l : Launch} {e : Env} {s : State} {m : MethodId} {args : Array Value} {below : List Frame} {meth : Method} {c : Code} {A : Nat → Prop} (D : va_G) (cI cZ cT : ClassId) (h_R : Nat) (h_T : Nat) (hc_R : Nat) (hp_R : Nat) (h_K : Nat) (hx_R : Nat) (hh_R : Nat) (hs_R : Nat) (q_T : Nat → Nat) (q_K : Nat → Nat) (c_hasSnapshot : Int) (T : TV) (K : KV) (x1 : Int) (x2 : Int) (x3 : Int) (x4 : Int) (res : Int) (k : Int → Option (Int)) (hF : zF p m c cL_common 7 s args yL_common.cls meth (some .int) yL_common.name A D (zt cI cZ cT))
    (hk : ∀ (x5 : Int) (H : Heap) (locs : List Loc) (ls : Array Slot), k x5 = some res → va_P D vwCl ((zRt h_R h_T hc_R hp_R h_K hx_R hh_R hs_R c_hasSnapshot) ++ (zTr cI h_T q_T T) ++ (zWk cI h_K q_K K)) H → va_D A ((zRt h_R h_T hc_R hp_R h_K hx_R hh_R hs_R c_hasSnapshot) ++ (zTr cI h_T q_T T) ++ (zWk cI h_K q_K K)) → va_S A s.heap H locs → lv_has ls 7 [(0, .ref h_R), (1, vI x1), (2, vI x2), (3, vI x3), (4, vI x4), (5, vI x5)] → W p l e rm_Lw_common s m args below meth c H locs 0 0 (MQ below (zQi D (res) (fun u => (zRt h_R h_T hc_R hp_R h_K hx_R hh_R hs_R c_hasSnapshot) ++ (zTr cI h_T q_T T) ++ (zWk cI h_K q_K K)) A) args s 0 0 A) (F0 m 95 ls [])) :
    ∀ (n : Nat) (x5 : Int) (H : Heap) (locs : List Loc) (ls : Array Slot), f_Lw_common_L63 T K x1 x2 k n x5 = some res → va_P D vwCl ((zRt h_R h_T hc_R hp_R h_K hx_R hh_R hs_R c_hasSnapshot) ++ (zTr cI h_T q_T T) ++ (zWk cI h_K q_K K)) H → va_D A ((zRt h_R h_T hc_R hp_R h_K hx_R hh_R hs_R c_hasSnapshot) ++ (zTr cI h_T q_T T) ++ (zWk cI h_K q_K K)) → va_S A s.heap H locs → lv_has ls 7 [(0, .ref h_R), (1, vI x1), (2, vI x2), (3, vI x3), (4, vI x4)] → W p l e rm_Lw_common s m args below meth c H locs 0 0 (MQ below (zQi D (res) (fun u => (zRt h_R h_T hc_R hp_R h_K hx_R hh_R hs_R c_hasSnapshot) ++ (zTr cI h_T q_T T) ++ (zWk cI h_K q_K K)) A) args s 0 0 A) (F0 m 63 ls []) := by
  have hx := hF.1.1
  have hb := hF.1.2.1
  have hml := hF.1.2.2.1
  have hown : s.vm.findClass "RectangleTreeLaw" = some m.cls := hF.1.2.2.2.1
  have hts := hF.1.2.2.2.2
  have hr := hF.2.1
  have hlk := hF.2.2.1
  have hK := hF.2.2.2.2.1
  have hN := hF.2.2.2.2.2.1
  have hA := hF.2.2.2.2.2.2
  intro n
  induction n with
  | zero => intro x5  H locs ls h; cases h
  | succ n ih =>
    intro x5  H locs ls h  hP hD hS hl
    rw [f_Lw_common_L63] at h
    refine lv_aload_n hx hb dL_common_63 rfl (lv_at hl 0 rfl) ?_
    refine lv_iload_n hx hb dL_common_64 rfl (lv_at hl 1 rfl) ?_
    refine lv_iconst (v := Int32.ofInt 2) hx hb dL_common_65 rfl ?_
    obtain ⟨r_33, e_34, h⟩ := bd1_e h
    refine z_goi (ws' := []) (ret := r_33) (wc := (zRt (h_R) (h_T) (hc_R) (hp_R) (h_K) (hx_R) (hh_R) (hs_R) (c_hasSnapshot)) ++ (zTr cI (h_T) (q_T) (T)) ++ (zWk cI (h_K) (q_K) (K))) (wn := fun u_35 => (zRt h_R h_T hc_R hp_R h_K hx_R hh_R hs_R c_hasSnapshot) ++ (zTr cI h_T q_T T) ++ (zWk cI h_K q_K K)) (wr := []) (va_runV (As := [vI x1, vI 2]) (rest := []) hF.1 (c_Rt_bound l D cI cZ cT h_R h_T hc_R hp_R h_K hx_R hh_R hs_R q_T q_K c_hasSnapshot T K x1 2 H.size (r_33) e_34) (cwV 2 hts (zgV wm313 wm314 wm315 wm32 wm316) rfl rfl rfl (by decide +kernel) ⟨Nat.le_of_ble_eq_true rfl, Nat.le_of_ble_eq_true rfl⟩) ⟨zP.blind, va_recv hK (z_subP (ws' := (zRt (h_R) (h_T) (hc_R) (hp_R) (h_K) (hx_R) (hh_R) (hs_R) (c_hasSnapshot)) ++ (zTr cI (h_T) (q_T) (T)) ++ (zWk cI (h_K) (q_K) (K))) hP [0, 1, 2, 3, 4, 5, 6, 7, 8, 9] rfl) (ci := 6) (q0 := 0) rfl rfl, zP.enter (z_subP (ws' := (zRt (h_R) (h_T) (hc_R) (hp_R) (h_K) (hx_R) (hh_R) (hs_R) (c_hasSnapshot)) ++ (zTr cI (h_T) (q_T) (T)) ++ (zWk cI (h_K) (q_K) (K))) hP [0, 1, 2, 3, 4, 5, 6, 7, 8, 9] rfl) hK (hD.sub [0, 1, 2, 3, 4, 5, 6, 7, 8, 9] (by decide) rfl) hN⟩ rfl rfl hl.1 rfl (lv_room (Nat.le_of_ble_eq_true rfl)) dL_common_66 ⟨Nat.le_refl _, Nat.le_refl _⟩) hP hD hS hA [0, 1, 2, 3, 4, 5, 6, 7, 8, 9] [] [0, 1, 2, 3, 4, 5, 6, 7, 8, 9] rfl rfl (by decide) (fun _ => rfl) (fun u_35 H locs hP hD hS hz => ?_)
    refine lv_aload_n hx hb dL_common_69 rfl (lv_at hl 0 rfl) ?_
    refine lv_iload_n hx hb dL_common_70 rfl (lv_at hl 2 rfl) ?_
    refine lv_iconst (v := Int32.ofInt 2) hx hb dL_common_71 rfl ?_
    obtain ⟨r_36, e_37, h⟩ := bd1_e h
    refine z_goi (ws' := []) (ret := r_36) (wc := (zRt (h_R) (h_T) (hc_R) (hp_R) (h_K) (hx_R) (hh_R) (hs_R) (c_hasSnapshot)) ++ (zTr cI (h_T) (q_T) (T)) ++ (zWk cI (h_K) (q_K) (K))) (wn := fun u_38 => (zRt h_R h_T hc_R hp_R h_K hx_R hh_R hs_R c_hasSnapshot) ++ (zTr cI h_T q_T T) ++ (zWk cI h_K q_K K)) (wr := []) (va_runV (As := [vI x2, vI 2]) (rest := [vI r_33]) hF.1 (c_Rt_bound l D cI cZ cT h_R h_T hc_R hp_R h_K hx_R hh_R hs_R q_T q_K c_hasSnapshot T K x2 2 H.size (r_36) e_37) (cwV 2 hts (zgV wm313 wm314 wm315 wm32 wm316) rfl rfl rfl (by decide +kernel) ⟨Nat.le_of_ble_eq_true rfl, Nat.le_of_ble_eq_true rfl⟩) ⟨zP.blind, va_recv hK (z_subP (ws' := (zRt (h_R) (h_T) (hc_R) (hp_R) (h_K) (hx_R) (hh_R) (hs_R) (c_hasSnapshot)) ++ (zTr cI (h_T) (q_T) (T)) ++ (zWk cI (h_K) (q_K) (K))) hP [0, 1, 2, 3, 4, 5, 6, 7, 8, 9] rfl) (ci := 6) (q0 := 0) rfl rfl, zP.enter (z_subP (ws' := (zRt (h_R) (h_T) (hc_R) (hp_R) (h_K) (hx_R) (hh_R) (hs_R) (c_hasSnapshot)) ++ (zTr cI (h_T) (q_T) (T)) ++ (zWk cI (h_K) (q_K) (K))) hP [0, 1, 2, 3, 4, 5, 6, 7, 8, 9] rfl) hK (hD.sub [0, 1, 2, 3, 4, 5, 6, 7, 8, 9] (by decide) rfl) hN⟩ rfl rfl hl.1 rfl (lv_room (Nat.le_of_ble_eq_true rfl)) dL_common_72 ⟨Nat.le_refl _, Nat.le_refl _⟩) hP hD hS hA [0, 1, 2, 3, 4, 5, 6, 7, 8, 9] [] [0, 1, 2, 3, 4, 5, 6, 7, 8, 9] rfl rfl (by decide) (fun _ => rfl) (fun u_38 H locs hP hD hS hz => ?_)
    obtain ⟨g_39, h⟩ := gd_e h
    obtain ⟨g_40, h⟩ := gd_e h
    refine z_icmp_ge (tgt := 87) hx hb g_39 g_40 dL_common_75 (by decide) (fun b_41 => ?_) (fun b_41 => ?_)
    · have h := it_n b_41 h
      refine lv_aload_n hx hb dL_common_87 rfl (lv_at hl 0 rfl) ?_
      refine lv_iload_n hx hb dL_common_88 rfl (lv_at hl 2 rfl) ?_
      refine lv_iconst (v := Int32.ofInt 2) hx hb dL_common_89 rfl ?_
      obtain ⟨r_42, e_43, h⟩ := bd1_e h
      refine z_goi (ws' := []) (ret := r_42) (wc := (zRt (h_R) (h_T) (hc_R) (hp_R) (h_K) (hx_R) (hh_R) (hs_R) (c_hasSnapshot)) ++ (zTr cI (h_T) (q_T) (T)) ++ (zWk cI (h_K) (q_K) (K))) (wn := fun u_44 => (zRt h_R h_T hc_R hp_R h_K hx_R hh_R hs_R c_hasSnapshot) ++ (zTr cI h_T q_T T) ++ (zWk cI h_K q_K K)) (wr := []) (va_runV (As := [vI x2, vI 2]) (rest := []) hF.1 (c_Rt_bound l D cI cZ cT h_R h_T hc_R hp_R h_K hx_R hh_R hs_R q_T q_K c_hasSnapshot T K x2 2 H.size (r_42) e_43) (cwV 2 hts (zgV wm313 wm314 wm315 wm32 wm316) rfl rfl rfl (by decide +kernel) ⟨Nat.le_of_ble_eq_true rfl, Nat.le_of_ble_eq_true rfl⟩) ⟨zP.blind, va_recv hK (z_subP (ws' := (zRt (h_R) (h_T) (hc_R) (hp_R) (h_K) (hx_R) (hh_R) (hs_R) (c_hasSnapshot)) ++ (zTr cI (h_T) (q_T) (T)) ++ (zWk cI (h_K) (q_K) (K))) hP [0, 1, 2, 3, 4, 5, 6, 7, 8, 9] rfl) (ci := 6) (q0 := 0) rfl rfl, zP.enter (z_subP (ws' := (zRt (h_R) (h_T) (hc_R) (hp_R) (h_K) (hx_R) (hh_R) (hs_R) (c_hasSnapshot)) ++ (zTr cI (h_T) (q_T) (T)) ++ (zWk cI (h_K) (q_K) (K))) hP [0, 1, 2, 3, 4, 5, 6, 7, 8, 9] rfl) hK (hD.sub [0, 1, 2, 3, 4, 5, 6, 7, 8, 9] (by decide) rfl) hN⟩ rfl rfl hl.1 rfl (lv_room (Nat.le_of_ble_eq_true rfl)) dL_common_90 ⟨Nat.le_refl _, Nat.le_refl _⟩) hP hD hS hA [0, 1, 2, 3, 4, 5, 6, 7, 8, 9] [] [0, 1, 2, 3, 4, 5, 6, 7, 8, 9] rfl rfl (by decide) (fun _ => rfl) (fun u_44 H locs hP hD hS hz => ?_)
      refine lv_istore (lv' := [(5, vI r_42), (0, .ref h_R), (1, vI x1), (2, vI x2), (3, vI x3), (4, vI x4)]) hx hb dL_common_93 hl (by decide) rfl (fun ls hl => ?_)
      exact hk (r_42) H locs ls h hP hD hS (lv_sub hl [1, 2, 3, 4, 5, 0] rfl)
    · have h := it_p b_41 h
      refine lv_aload_n hx hb dL_common_78 rfl (lv_at hl 0 rfl) ?_
      refine lv_iload_n hx hb dL_common_79 rfl (lv_at hl 1 rfl) ?_
      refine lv_iconst (v := Int32.ofInt 2) hx hb dL_common_80 rfl ?_
      obtain ⟨r_45, e_46, h⟩ := bd1_e h
      refine z_goi (ws' := []) (ret := r_45) (wc := (zRt (h_R) (h_T) (hc_R) (hp_R) (h_K) (hx_R) (hh_R) (hs_R) (c_hasSnapshot)) ++ (zTr cI (h_T) (q_T) (T)) ++ (zWk cI (h_K) (q_K) (K))) (wn := fun u_47 => (zRt h_R h_T hc_R hp_R h_K hx_R hh_R hs_R c_hasSnapshot) ++ (zTr cI h_T q_T T) ++ (zWk cI h_K q_K K)) (wr := []) (va_runV (As := [vI x1, vI 2]) (rest := []) hF.1 (c_Rt_bound l D cI cZ cT h_R h_T hc_R hp_R h_K hx_R hh_R hs_R q_T q_K c_hasSnapshot T K x1 2 H.size (r_45) e_46) (cwV 2 hts (zgV wm313 wm314 wm315 wm32 wm316) rfl rfl rfl (by decide +kernel) ⟨Nat.le_of_ble_eq_true rfl, Nat.le_of_ble_eq_true rfl⟩) ⟨zP.blind, va_recv hK (z_subP (ws' := (zRt (h_R) (h_T) (hc_R) (hp_R) (h_K) (hx_R) (hh_R) (hs_R) (c_hasSnapshot)) ++ (zTr cI (h_T) (q_T) (T)) ++ (zWk cI (h_K) (q_K) (K))) hP [0, 1, 2, 3, 4, 5, 6, 7, 8, 9] rfl) (ci := 6) (q0 := 0) rfl rfl, zP.enter (z_subP (ws' := (zRt (h_R) (h_T) (hc_R) (hp_R) (h_K) (hx_R) (hh_R) (hs_R) (c_hasSnapshot)) ++ (zTr cI (h_T) (q_T) (T)) ++ (zWk cI (h_K) (q_K) (K))) hP [0, 1, 2, 3, 4, 5, 6, 7, 8, 9] rfl) hK (hD.sub [0, 1, 2, 3, 4, 5, 6, 7, 8, 9] (by decide) rfl) hN⟩ rfl rfl hl.1 rfl (lv_room (Nat.le_of_ble_eq_true rfl)) dL_common_81 ⟨Nat.le_refl _, Nat.le_refl _⟩) hP hD hS hA [0, 1, 2, 3, 4, 5, 6, 7, 8, 9] [] [0, 1, 2, 3, 4, 5, 6, 7, 8, 9] rfl rfl (by decide) (fun _ => rfl) (fun u_47 H locs hP hD hS hz => ?_)
      refine lv_goto (tgt := 93) hx hb dL_common_84 (by decide) ?_
      refine lv_istore (lv' := [(5, vI r_45), (0, .ref h_R), (1, vI x1), (2, vI x2), (3, vI x3), (4, vI x4)]) hx hb dL_common_93 hl (by decide) rfl (fun ls hl => ?_)
      exact hk (r_45) H locs ls h hP hD hS (lv_sub hl [1, 2, 3, 4, 5, 0] rfl)

set_option maxHeartbeats 4000000 in
set_option maxRecDepth 100000 in
theorem w_Lw_common_L95 {p : Program} {l : Launch} {e : Env} {s : State} {m : MethodId} {args : Array Value} {below : List Frame} {meth : Method} {c : Code} {A : Nat → Prop} (D : va_G) (cI cZ cT : ClassId) (h_R : Nat) (h_T : Nat) (hc_R : Nat) (hp_R : Nat) (h_K : Nat) (hx_R : Nat) (hh_R : Nat) (hs_R : Nat) (q_T : Nat → Nat) (q_K : Nat → Nat) (c_hasSnapshot : Int) (T : TV) (K : KV) (x1 : Int) (x2 : Int) (x3 : Int) (x4 : Int) (x5 : Int) (res : Int) (k : Int → Option (Int)) (hF : zF p m c cL_common 7 s args yL_common.cls meth (some .int) yL_common.name A D (zt cI cZ cT))
    (hk : ∀ (x6 : Int) (H : Heap) (locs : List Loc) (ls : Array Slot), k x6 = some res → va_P D vwCl ((zRt h_R h_T hc_R hp_R h_K hx_R hh_R hs_R c_hasSnapshot) ++ (zTr cI h_T q_T T) ++ (zWk cI h_K q_K K)) H → va_D A ((zRt h_R h_T hc_R hp_R h_K hx_R hh_R hs_R c_hasSnapshot) ++ (zTr cI h_T q_T T) ++ (zWk cI h_K q_K K)) → va_S A s.heap H locs → lv_has ls 7 [(3, vI x3), (4, vI x4), (5, vI x5), (6, vI x6)] → W p l e rm_Lw_common s m args below meth c H locs 0 0 (MQ below (zQi D (res) (fun u => (zRt h_R h_T hc_R hp_R h_K hx_R hh_R hs_R c_hasSnapshot) ++ (zTr cI h_T q_T T) ++ (zWk cI h_K q_K K)) A) args s 0 0 A) (F0 m 127 ls [])) :
    ∀ (n : Nat) (x6 : Int) (H : Heap) (locs : List Loc) (ls : Array Slot), f_Lw_common_L95 T K x1 x2 k n x6 = some res → va_P D vwCl ((zRt h_R h_T hc_R hp_R h_K hx_R hh_R hs_R c_hasSnapshot) ++ (zTr cI h_T q_T T) ++ (zWk cI h_K q_K K)) H → va_D A ((zRt h_R h_T hc_R hp_R h_K hx_R hh_R hs_R c_hasSnapshot) ++ (zTr cI h_T q_T T) ++ (zWk cI h_K q_K K)) → va_S A s.heap H locs → lv_has ls 7 [(0, .ref h_R), (1, vI x1), (2, vI x2), (3, vI x3), (4, vI x4), (5, vI x5)] → W p l e rm_Lw_common s m args below meth c H locs 0 0 (MQ below (zQi D (res) (fun u => (zRt h_R h_T hc_R hp_R h_K hx_R hh_R hs_R c_hasSnapshot) ++ (zTr cI h_T q_T T) ++ (zWk cI h_K q_K K)) A) args s 0 0 A) (F0 m 95 ls []) := by
  have hx := hF.1.1
  have hb := hF.1.2.1
  have hml := hF.1.2.2.1
  have hown : s.vm.findClass "RectangleTreeLaw" = some m.cls := hF.1.2.2.2.1
  have hts := hF.1.2.2.2.2
  have hr := hF.2.1
  have hlk := hF.2.2.1
  have hK := hF.2.2.2.2.1
  have hN := hF.2.2.2.2.2.1
  have hA := hF.2.2.2.2.2.2
  intro n
  induction n with
  | zero => intro x6  H locs ls h; cases h
  | succ n ih =>
    intro x6  H locs ls h  hP hD hS hl
    rw [f_Lw_common_L95] at h
    refine lv_aload_n hx hb dL_common_95 rfl (lv_at hl 0 rfl) ?_
    refine lv_iload_n hx hb dL_common_96 rfl (lv_at hl 1 rfl) ?_
    refine lv_iconst (v := Int32.ofInt 3) hx hb dL_common_97 rfl ?_
    obtain ⟨r_49, e_50, h⟩ := bd1_e h
    refine z_goi (ws' := []) (ret := r_49) (wc := (zRt (h_R) (h_T) (hc_R) (hp_R) (h_K) (hx_R) (hh_R) (hs_R) (c_hasSnapshot)) ++ (zTr cI (h_T) (q_T) (T)) ++ (zWk cI (h_K) (q_K) (K))) (wn := fun u_51 => (zRt h_R h_T hc_R hp_R h_K hx_R hh_R hs_R c_hasSnapshot) ++ (zTr cI h_T q_T T) ++ (zWk cI h_K q_K K)) (wr := []) (va_runV (As := [vI x1, vI 3]) (rest := []) hF.1 (c_Rt_bound l D cI cZ cT h_R h_T hc_R hp_R h_K hx_R hh_R hs_R q_T q_K c_hasSnapshot T K x1 3 H.size (r_49) e_50) (cwV 2 hts (zgV wm313 wm314 wm315 wm32 wm316) rfl rfl rfl (by decide +kernel) ⟨Nat.le_of_ble_eq_true rfl, Nat.le_of_ble_eq_true rfl⟩) ⟨zP.blind, va_recv hK (z_subP (ws' := (zRt (h_R) (h_T) (hc_R) (hp_R) (h_K) (hx_R) (hh_R) (hs_R) (c_hasSnapshot)) ++ (zTr cI (h_T) (q_T) (T)) ++ (zWk cI (h_K) (q_K) (K))) hP [0, 1, 2, 3, 4, 5, 6, 7, 8, 9] rfl) (ci := 6) (q0 := 0) rfl rfl, zP.enter (z_subP (ws' := (zRt (h_R) (h_T) (hc_R) (hp_R) (h_K) (hx_R) (hh_R) (hs_R) (c_hasSnapshot)) ++ (zTr cI (h_T) (q_T) (T)) ++ (zWk cI (h_K) (q_K) (K))) hP [0, 1, 2, 3, 4, 5, 6, 7, 8, 9] rfl) hK (hD.sub [0, 1, 2, 3, 4, 5, 6, 7, 8, 9] (by decide) rfl) hN⟩ rfl rfl hl.1 rfl (lv_room (Nat.le_of_ble_eq_true rfl)) dL_common_98 ⟨Nat.le_refl _, Nat.le_refl _⟩) hP hD hS hA [0, 1, 2, 3, 4, 5, 6, 7, 8, 9] [] [0, 1, 2, 3, 4, 5, 6, 7, 8, 9] rfl rfl (by decide) (fun _ => rfl) (fun u_51 H locs hP hD hS hz => ?_)
    refine lv_aload_n hx hb dL_common_101 rfl (lv_at hl 0 rfl) ?_
    refine lv_iload_n hx hb dL_common_102 rfl (lv_at hl 2 rfl) ?_
    refine lv_iconst (v := Int32.ofInt 3) hx hb dL_common_103 rfl ?_
    obtain ⟨r_52, e_53, h⟩ := bd1_e h
    refine z_goi (ws' := []) (ret := r_52) (wc := (zRt (h_R) (h_T) (hc_R) (hp_R) (h_K) (hx_R) (hh_R) (hs_R) (c_hasSnapshot)) ++ (zTr cI (h_T) (q_T) (T)) ++ (zWk cI (h_K) (q_K) (K))) (wn := fun u_54 => (zRt h_R h_T hc_R hp_R h_K hx_R hh_R hs_R c_hasSnapshot) ++ (zTr cI h_T q_T T) ++ (zWk cI h_K q_K K)) (wr := []) (va_runV (As := [vI x2, vI 3]) (rest := [vI r_49]) hF.1 (c_Rt_bound l D cI cZ cT h_R h_T hc_R hp_R h_K hx_R hh_R hs_R q_T q_K c_hasSnapshot T K x2 3 H.size (r_52) e_53) (cwV 2 hts (zgV wm313 wm314 wm315 wm32 wm316) rfl rfl rfl (by decide +kernel) ⟨Nat.le_of_ble_eq_true rfl, Nat.le_of_ble_eq_true rfl⟩) ⟨zP.blind, va_recv hK (z_subP (ws' := (zRt (h_R) (h_T) (hc_R) (hp_R) (h_K) (hx_R) (hh_R) (hs_R) (c_hasSnapshot)) ++ (zTr cI (h_T) (q_T) (T)) ++ (zWk cI (h_K) (q_K) (K))) hP [0, 1, 2, 3, 4, 5, 6, 7, 8, 9] rfl) (ci := 6) (q0 := 0) rfl rfl, zP.enter (z_subP (ws' := (zRt (h_R) (h_T) (hc_R) (hp_R) (h_K) (hx_R) (hh_R) (hs_R) (c_hasSnapshot)) ++ (zTr cI (h_T) (q_T) (T)) ++ (zWk cI (h_K) (q_K) (K))) hP [0, 1, 2, 3, 4, 5, 6, 7, 8, 9] rfl) hK (hD.sub [0, 1, 2, 3, 4, 5, 6, 7, 8, 9] (by decide) rfl) hN⟩ rfl rfl hl.1 rfl (lv_room (Nat.le_of_ble_eq_true rfl)) dL_common_104 ⟨Nat.le_refl _, Nat.le_refl _⟩) hP hD hS hA [0, 1, 2, 3, 4, 5, 6, 7, 8, 9] [] [0, 1, 2, 3, 4, 5, 6, 7, 8, 9] rfl rfl (by decide) (fun _ => rfl) (fun u_54 H locs hP hD hS hz => ?_)
    obtain ⟨g_55, h⟩ := gd_e h
    obtain ⟨g_56, h⟩ := gd_e h
    refine z_icmp_ge (tgt := 119) hx hb g_55 g_56 dL_common_107 (by decide) (fun b_57 => ?_) (fun b_57 => ?_)
    · have h := it_n b_57 h
      refine lv_aload_n hx hb dL_common_119 rfl (lv_at hl 0 rfl) ?_
      refine lv_iload_n hx hb dL_common_120 rfl (lv_at hl 2 rfl) ?_
      refine lv_iconst (v := Int32.ofInt 3) hx hb dL_common_121 rfl ?_
      obtain ⟨r_58, e_59, h⟩ := bd1_e h
      refine z_goi (ws' := []) (ret := r_58) (wc := (zRt (h_R) (h_T) (hc_R) (hp_R) (h_K) (hx_R) (hh_R) (hs_R) (c_hasSnapshot)) ++ (zTr cI (h_T) (q_T) (T)) ++ (zWk cI (h_K) (q_K) (K))) (wn := fun u_60 => (zRt h_R h_T hc_R hp_R h_K hx_R hh_R hs_R c_hasSnapshot) ++ (zTr cI h_T q_T T) ++ (zWk cI h_K q_K K)) (wr := []) (va_runV (As := [vI x2, vI 3]) (rest := []) hF.1 (c_Rt_bound l D cI cZ cT h_R h_T hc_R hp_R h_K hx_R hh_R hs_R q_T q_K c_hasSnapshot T K x2 3 H.size (r_58) e_59) (cwV 2 hts (zgV wm313 wm314 wm315 wm32 wm316) rfl rfl rfl (by decide +kernel) ⟨Nat.le_of_ble_eq_true rfl, Nat.le_of_ble_eq_true rfl⟩) ⟨zP.blind, va_recv hK (z_subP (ws' := (zRt (h_R) (h_T) (hc_R) (hp_R) (h_K) (hx_R) (hh_R) (hs_R) (c_hasSnapshot)) ++ (zTr cI (h_T) (q_T) (T)) ++ (zWk cI (h_K) (q_K) (K))) hP [0, 1, 2, 3, 4, 5, 6, 7, 8, 9] rfl) (ci := 6) (q0 := 0) rfl rfl, zP.enter (z_subP (ws' := (zRt (h_R) (h_T) (hc_R) (hp_R) (h_K) (hx_R) (hh_R) (hs_R) (c_hasSnapshot)) ++ (zTr cI (h_T) (q_T) (T)) ++ (zWk cI (h_K) (q_K) (K))) hP [0, 1, 2, 3, 4, 5, 6, 7, 8, 9] rfl) hK (hD.sub [0, 1, 2, 3, 4, 5, 6, 7, 8, 9] (by decide) rfl) hN⟩ rfl rfl hl.1 rfl (lv_room (Nat.le_of_ble_eq_true rfl)) dL_common_122 ⟨Nat.le_refl _, Nat.le_refl _⟩) hP hD hS hA [0, 1, 2, 3, 4, 5, 6, 7, 8, 9] [] [0, 1, 2, 3, 4, 5, 6, 7, 8, 9] rfl rfl (by decide) (fun _ => rfl) (fun u_60 H locs hP hD hS hz => ?_)
      refine lv_istore (lv' := [(6, vI r_58), (0, .ref h_R), (1, vI x1), (2, vI x2), (3, vI x3), (4, vI x4), (5, vI x5)]) hx hb dL_common_125 hl (by decide) rfl (fun ls hl => ?_)
      exact hk (r_58) H locs ls h hP hD hS (lv_sub hl [4, 5, 6, 0] rfl)
    · have h := it_p b_57 h
      refine lv_aload_n hx hb dL_common_110 rfl (lv_at hl 0 rfl) ?_
      refine lv_iload_n hx hb dL_common_111 rfl (lv_at hl 1 rfl) ?_
      refine lv_iconst (v := Int32.ofInt 3) hx hb dL_common_112 rfl ?_
      obtain ⟨r_61, e_62, h⟩ := bd1_e h
      refine z_goi (ws' := []) (ret := r_61) (wc := (zRt (h_R) (h_T) (hc_R) (hp_R) (h_K) (hx_R) (hh_R) (hs_R) (c_hasSnapshot)) ++ (zTr cI (h_T) (q_T) (T)) ++ (zWk cI (h_K) (q_K) (K))) (wn := fun u_63 => (zRt h_R h_T hc_R hp_R h_K hx_R hh_R hs_R c_hasSnapshot) ++ (zTr cI h_T q_T T) ++ (zWk cI h_K q_K K)) (wr := []) (va_runV (As := [vI x1, vI 3]) (rest := []) hF.1 (c_Rt_bound l D cI cZ cT h_R h_T hc_R hp_R h_K hx_R hh_R hs_R q_T q_K c_hasSnapshot T K x1 3 H.size (r_61) e_62) (cwV 2 hts (zgV wm313 wm314 wm315 wm32 wm316) rfl rfl rfl (by decide +kernel) ⟨Nat.le_of_ble_eq_true rfl, Nat.le_of_ble_eq_true rfl⟩) ⟨zP.blind, va_recv hK (z_subP (ws' := (zRt (h_R) (h_T) (hc_R) (hp_R) (h_K) (hx_R) (hh_R) (hs_R) (c_hasSnapshot)) ++ (zTr cI (h_T) (q_T) (T)) ++ (zWk cI (h_K) (q_K) (K))) hP [0, 1, 2, 3, 4, 5, 6, 7, 8, 9] rfl) (ci := 6) (q0 := 0) rfl rfl, zP.enter (z_subP (ws' := (zRt (h_R) (h_T) (hc_R) (hp_R) (h_K) (hx_R) (hh_R) (hs_R) (c_hasSnapshot)) ++ (zTr cI (h_T) (q_T) (T)) ++ (zWk cI (h_K) (q_K) (K))) hP [0, 1, 2, 3, 4, 5, 6, 7, 8, 9] rfl) hK (hD.sub [0, 1, 2, 3, 4, 5, 6, 7, 8, 9] (by decide) rfl) hN⟩ rfl rfl hl.1 rfl (lv_room (Nat.le_of_ble_eq_true rfl)) dL_common_113 ⟨Nat.le_refl _, Nat.le_refl _⟩) hP hD hS hA [0, 1, 2, 3, 4, 5, 6, 7, 8, 9] [] [0, 1, 2, 3, 4, 5, 6, 7, 8, 9] rfl rfl (by decide) (fun _ => rfl) (fun u_63 H locs hP hD hS hz => ?_)
      refine lv_goto (tgt := 125) hx hb dL_common_116 (by decide) ?_
      refine lv_istore (lv' := [(6, vI r_61), (0, .ref h_R), (1, vI x1), (2, vI x2), (3, vI x3), (4, vI x4), (5, vI x5)]) hx hb dL_common_125 hl (by decide) rfl (fun ls hl => ?_)
      exact hk (r_61) H locs ls h hP hD hS (lv_sub hl [4, 5, 6, 0] rfl)

set_option maxHeartbeats 4000000 in
set_option maxRecDepth 100000 in
theorem c_Lw_common (l : Launch) (D : va_G) (cI cZ cT : ClassId) (h_R : Nat) (h_T : Nat) (hc_R : Nat) (hp_R : Nat) (h_K : Nat) (hx_R : Nat) (hh_R : Nat) (hs_R : Nat) (q_T : Nat → Nat) (q_K : Nat → Nat) (c_hasSnapshot : Int) (T : TV) (K : KV) (x1 : Int) (x2 : Int) (sz : Nat) (res : Int) (h : f_Lw_common T K x1 x2 = some res) : zMi l yL_common cL_common 7 rm_Lw_common D (zt cI cZ cT) [.ref h_R, vI x1, vI x2] ((zRt h_R h_T hc_R hp_R h_K hx_R hh_R hs_R c_hasSnapshot) ++ (zTr cI h_T q_T T) ++ (zWk cI h_K q_K K)) sz (res) (fun u => (zRt h_R h_T hc_R hp_R h_K hx_R hh_R hs_R c_hasSnapshot) ++ (zTr cI h_T q_T T) ++ (zWk cI h_K q_K K)) 0 0 := by
  refine z_enth (Qc := zQi D (res) (fun u => (zRt h_R h_T hc_R hp_R h_K hx_R hh_R hs_R c_hasSnapshot) ++ (zTr cI h_T q_T T) ++ (zWk cI h_K q_K K))) (by decide) (Nat.le_of_ble_eq_true rfl) (fun p e s m args below meth c A ls H locs hF hP hD hS hl => ?_)
  have hx := hF.1.1
  have hb := hF.1.2.1
  have hml := hF.1.2.2.1
  have hown : s.vm.findClass "RectangleTreeLaw" = some m.cls := hF.1.2.2.2.1
  have hts := hF.1.2.2.2.2
  have hr := hF.2.1
  have hlk := hF.2.2.1
  have hK := hF.2.2.2.2.1
  have hN := hF.2.2.2.2.2.1
  have hA := hF.2.2.2.2.2.2
  unfold f_Lw_common at h
  refine w_Lw_common_L0 D cI cZ cT (h_R) (h_T) (hc_R) (hp_R) (h_K) (hx_R) (hh_R) (hs_R) (q_T) (q_K) (c_hasSnapshot) (T) (K) (x1) (x2) _ _ hF (fun x3_16 H locs ls h hP hD hS hl => ?_) _ (0) _ _ _ h hP hD hS (lv_sub hl [0, 1, 2] rfl)
  refine w_Lw_common_L31 D cI cZ cT (h_R) (h_T) (hc_R) (hp_R) (h_K) (hx_R) (hh_R) (hs_R) (q_T) (q_K) (c_hasSnapshot) (T) (K) (x1) (x2) (x3_16) _ _ hF (fun x4_32 H locs ls h hP hD hS hl => ?_) _ (0) _ _ _ h hP hD hS (lv_sub hl [0, 1, 2, 3] rfl)
  refine w_Lw_common_L63 D cI cZ cT (h_R) (h_T) (hc_R) (hp_R) (h_K) (hx_R) (hh_R) (hs_R) (q_T) (q_K) (c_hasSnapshot) (T) (K) (x1) (x2) (x3_16) (x4_32) _ _ hF (fun x5_48 H locs ls h hP hD hS hl => ?_) _ (0) _ _ _ h hP hD hS (lv_sub hl [0, 1, 2, 3, 4] rfl)
  refine w_Lw_common_L95 D cI cZ cT (h_R) (h_T) (hc_R) (hp_R) (h_K) (hx_R) (hh_R) (hs_R) (q_T) (q_K) (c_hasSnapshot) (T) (K) (x1) (x2) (x3_16) (x4_32) (x5_48) _ _ hF (fun x6_64 H locs ls h hP hD hS hl => ?_) _ (0) _ _ _ h hP hD hS (lv_sub hl [0, 1, 2, 3, 4, 5] rfl)
  refine lv_iload_n hx hb dL_common_127 rfl (lv_at hl 0 rfl) ?_
  refine lv_iload hx hb dL_common_128 (lv_at hl 2 rfl) ?_
  obtain ⟨g_65, h⟩ := gd_e h
  obtain ⟨g_66, h⟩ := gd_e h
  refine z_icmp_gt (tgt := 157) hx hb g_65 g_66 dL_common_130 (by decide) (fun b_67 => ?_) (fun b_67 => ?_)
  · have h := it_p b_67 h
    refine lv_iconst (v := Int32.ofInt 0) hx hb dL_common_157 rfl ?_
    obtain rfl := Option.some.inj h
    exact z_iret hx hb hr hlk (fun _ _ => 0) hP hD hS dL_common_158
  · have h := it_n b_67 h
    refine lv_iload hx hb dL_common_133 (lv_at hl 1 rfl) ?_
    refine lv_iload hx hb dL_common_135 (lv_at hl 3 rfl) ?_
    obtain ⟨g_68, h⟩ := gd_e h
    obtain ⟨g_69, h⟩ := gd_e h
    refine z_icmp_gt (tgt := 157) hx hb g_68 g_69 dL_common_137 (by decide) (fun b_70 => ?_) (fun b_70 => ?_)
    · have h := it_p b_70 h
      refine lv_iconst (v := Int32.ofInt 0) hx hb dL_common_157 rfl ?_
      obtain rfl := Option.some.inj h
      exact z_iret hx hb hr hlk (fun _ _ => 0) hP hD hS dL_common_158
    · have h := it_n b_70 h
      refine lv_iload hx hb dL_common_140 (lv_at hl 2 rfl) ?_
      refine lv_iload_n hx hb dL_common_142 rfl (lv_at hl 0 rfl) ?_
      refine z_isub hx hb dL_common_143 ?_
      refine lv_iconst (v := Int32.ofInt 1) hx hb dL_common_144 rfl ?_
      refine z_iadd hx hb dL_common_145 ?_
      refine lv_iload hx hb dL_common_146 (lv_at hl 3 rfl) ?_
      refine lv_iload hx hb dL_common_148 (lv_at hl 1 rfl) ?_
      refine z_isub hx hb dL_common_150 ?_
      refine lv_iconst (v := Int32.ofInt 1) hx hb dL_common_151 rfl ?_
      refine z_iadd hx hb dL_common_152 ?_
      refine z_imul hx hb dL_common_153 ?_
      refine lv_goto (tgt := 158) hx hb dL_common_154 (by decide) ?_
      obtain rfl := Option.some.inj h
      exact z_iret hx hb hr hlk (fun _ _ => 0) hP hD hS dL_common_158

set_option maxHeartbeats 4000000 in
set_option maxRecDepth 100000 in
theorem w_Lw_areMeasures_L0 {p : Program} {l : Launch} {e : Env} {s : State} {m : MethodId} {args : Array Value} {below : List Frame} {meth : Method} {c : Code} {A : Nat → Prop} (D : va_G) (cI cZ cT : ClassId) (h_R : Nat) (h_T : Nat) (hc_R : Nat) (hp_R : Nat) (h_K : Nat) (hx_R : Nat) (hh_R : Nat) (hs_R : Nat) (q_T : Nat → Nat) (q_K : Nat → Nat) (c_hasSnapshot : Int) (T : TV) (K : KV) (res : Int) (k : Int → Option (Int)) (hF : zF p m c cL_areMeasures 7 s args yL_areMeasures.cls meth (some .boolean) yL_areMeasures.name A D (zt cI cZ cT))
    (hk : ∀ (x1 : Int) (H : Heap) (locs : List Loc) (ls : Array Slot), k x1 = some res → va_P D vwCl ((zRt h_R h_T hc_R hp_R h_K hx_R hh_R hs_R c_hasSnapshot) ++ (zTr cI h_T q_T T) ++ (zWk cI h_K q_K K)) H → va_D A ((zRt h_R h_T hc_R hp_R h_K hx_R hh_R hs_R c_hasSnapshot) ++ (zTr cI h_T q_T T) ++ (zWk cI h_K q_K K)) → va_S A s.heap H locs → lv_has ls 7 [(0, .ref h_R), (1, vI x1)] → W p l e rm_Lw_areMeasures s m args below meth c H locs 0 0 (MQ below (zQi D (res) (fun u => (zRt h_R h_T hc_R hp_R h_K hx_R hh_R hs_R c_hasSnapshot) ++ (zTr cI h_T q_T T) ++ (zWk cI h_K q_K K)) A) args s 0 0 A) (F0 m 17 ls [])) :
    ∀ (n : Nat) (x1 : Int) (H : Heap) (locs : List Loc) (ls : Array Slot), f_Lw_areMeasures_L0 T K k n x1 = some res → va_P D vwCl ((zRt h_R h_T hc_R hp_R h_K hx_R hh_R hs_R c_hasSnapshot) ++ (zTr cI h_T q_T T) ++ (zWk cI h_K q_K K)) H → va_D A ((zRt h_R h_T hc_R hp_R h_K hx_R hh_R hs_R c_hasSnapshot) ++ (zTr cI h_T q_T T) ++ (zWk cI h_K q_K K)) → va_S A s.heap H locs → lv_has ls 7 [(0, .ref h_R)] → W p l e rm_Lw_areMeasures s m args below meth c H locs 0 0 (MQ below (zQi D (res) (fun u => (zRt h_R h_T hc_R hp_R h_K hx_R hh_R hs_R c_hasSnapshot) ++ (zTr cI h_T q_T T) ++ (zWk cI h_K q_K K)) A) args s 0 0 A) (F0 m 0 ls []) := by
  have hx := hF.1.1
  have hb := hF.1.2.1
  have hml := hF.1.2.2.1
  have hown : s.vm.findClass "RectangleTreeLaw" = some m.cls := hF.1.2.2.2.1
  have hts := hF.1.2.2.2.2
  have hr := hF.2.1
  have hlk := hF.2.2.1
  have hK := hF.2.2.2.2.1
  have hN := hF.2.2.2.2.2.1
  have hA := hF.2.2.2.2.2.2
  intro n
  induction n with
  | zero => intro x1  H locs ls h; cases h
  | succ n ih =>
    intro x1  H locs ls h  hP hD hS hl
    rw [f_Lw_areMeasures_L0] at h
    refine lv_aload_n hx hb dL_areMeasures_0 rfl (lv_at hl 0 rfl) ?_
    refine lv_iconst (v := Int32.ofInt 0) hx hb dL_areMeasures_1 rfl ?_
    obtain ⟨r_1, e_2, h⟩ := bd1_e h
    refine z_goi (ws' := []) (ret := r_1) (wc := (zRt (h_R) (h_T) (hc_R) (hp_R) (h_K) (hx_R) (hh_R) (hs_R) (c_hasSnapshot)) ++ (zTr cI (h_T) (q_T) (T)) ++ (zWk cI (h_K) (q_K) (K))) (wn := fun u_3 => (zRt h_R h_T hc_R hp_R h_K hx_R hh_R hs_R c_hasSnapshot) ++ (zTr cI h_T q_T T) ++ (zWk cI h_K q_K K)) (wr := []) (va_runV (As := [vI 0]) (rest := []) hF.1 (c_Rt_entries l D cI cZ cT h_R h_T hc_R hp_R h_K hx_R hh_R hs_R q_T q_K c_hasSnapshot T K 0 H.size (r_1) e_2) (cwV 1 hts (zgV wm308 wm309 wm310 wm32 wm311) rfl rfl rfl (by decide +kernel) ⟨Nat.le_of_ble_eq_true rfl, Nat.le_of_ble_eq_true rfl⟩) ⟨zP.blind, va_recv hK (z_subP (ws' := (zRt (h_R) (h_T) (hc_R) (hp_R) (h_K) (hx_R) (hh_R) (hs_R) (c_hasSnapshot)) ++ (zTr cI (h_T) (q_T) (T)) ++ (zWk cI (h_K) (q_K) (K))) hP [0, 1, 2, 3, 4, 5, 6, 7, 8, 9] rfl) (ci := 6) (q0 := 0) rfl rfl, zP.enter (z_subP (ws' := (zRt (h_R) (h_T) (hc_R) (hp_R) (h_K) (hx_R) (hh_R) (hs_R) (c_hasSnapshot)) ++ (zTr cI (h_T) (q_T) (T)) ++ (zWk cI (h_K) (q_K) (K))) hP [0, 1, 2, 3, 4, 5, 6, 7, 8, 9] rfl) hK (hD.sub [0, 1, 2, 3, 4, 5, 6, 7, 8, 9] (by decide) rfl) hN⟩ rfl rfl hl.1 rfl (lv_room (Nat.le_of_ble_eq_true rfl)) dL_areMeasures_2 ⟨Nat.le_refl _, Nat.le_refl _⟩) hP hD hS hA [0, 1, 2, 3, 4, 5, 6, 7, 8, 9] [] [0, 1, 2, 3, 4, 5, 6, 7, 8, 9] rfl rfl (by decide) (fun _ => rfl) (fun u_3 H locs hP hD hS hz => ?_)
    obtain ⟨g_4, h⟩ := gd_e h
    refine z_if_le (tgt := 15) hx hb g_4 dL_areMeasures_5 (by decide) (fun b_5 => ?_) (fun b_5 => ?_)
    · have h := it_n b_5 h
      refine lv_iconst (v := Int32.ofInt 0) hx hb dL_areMeasures_15 rfl ?_
      refine lv_istore_n (lv' := [(1, vI 0), (0, .ref h_R)]) hx hb dL_areMeasures_16 rfl hl (by decide) rfl (fun ls hl => ?_)
      exact hk (0) H locs ls h hP hD hS (lv_sub hl [1, 0] rfl)
    · have h := it_p b_5 h
      refine lv_aload_n hx hb dL_areMeasures_8 rfl (lv_at hl 0 rfl) ?_
      obtain ⟨r_6, e_7, h⟩ := bd1_e h
      refine z_goi (ws' := []) (ret := r_6) (wc := (zRt (h_R) (h_T) (hc_R) (hp_R) (h_K) (hx_R) (hh_R) (hs_R) (c_hasSnapshot)) ++ (zWk cI (h_K) (q_K) (K))) (wn := fun u_8 => (zRt h_R h_T hc_R hp_R h_K hx_R hh_R hs_R c_hasSnapshot) ++ (zTr cI h_T q_T T) ++ (zWk cI h_K q_K K)) (wr := ([1, 2, 3, 4, 5, 6].filterMap (fun i => ((zRt h_R h_T hc_R hp_R h_K hx_R hh_R hs_R c_hasSnapshot) ++ (zTr cI h_T q_T T) ++ (zWk cI h_K q_K K))[i]?))) (va_runV (As := []) (rest := []) hF.1 (c_Rt_nodes l D cI cZ cT h_R h_T hc_R hp_R h_K hx_R hh_R hs_R q_K c_hasSnapshot K H.size (r_6) e_7) (cwV 0 hts (zgV wm280 wm281 wm282 wm32 wm283) rfl rfl rfl (by decide +kernel) ⟨Nat.le_of_ble_eq_true rfl, Nat.le_of_ble_eq_true rfl⟩) ⟨zP.blind, va_recv hK (z_subP (ws' := (zRt (h_R) (h_T) (hc_R) (hp_R) (h_K) (hx_R) (hh_R) (hs_R) (c_hasSnapshot)) ++ (zWk cI (h_K) (q_K) (K))) hP [0, 7, 8, 9] rfl) (ci := 6) (q0 := 0) rfl rfl, zP.enter (z_subP (ws' := (zRt (h_R) (h_T) (hc_R) (hp_R) (h_K) (hx_R) (hh_R) (hs_R) (c_hasSnapshot)) ++ (zWk cI (h_K) (q_K) (K))) hP [0, 7, 8, 9] rfl) hK (hD.sub [0, 7, 8, 9] (by decide) rfl) hN⟩ rfl rfl hl.1 rfl (lv_room (Nat.le_of_ble_eq_true rfl)) dL_areMeasures_9 ⟨Nat.le_refl _, Nat.le_refl _⟩) hP hD hS hA [0, 7, 8, 9] [1, 2, 3, 4, 5, 6] [6, 0, 1, 2, 3, 4, 5, 7, 8, 9] rfl rfl (by decide) (fun _ => rfl) (fun u_8 H locs hP hD hS hz => ?_)
      refine lv_goto (tgt := 16) hx hb dL_areMeasures_12 (by decide) ?_
      refine lv_istore_n (lv' := [(1, vI r_6), (0, .ref h_R)]) hx hb dL_areMeasures_16 rfl hl (by decide) rfl (fun ls hl => ?_)
      exact hk (r_6) H locs ls h hP hD hS (lv_sub hl [1, 0] rfl)

set_option maxHeartbeats 4000000 in
set_option maxRecDepth 100000 in
theorem w_Lw_areMeasures_L41 {p : Program} {l : Launch} {e : Env} {s : State} {m : MethodId} {args : Array Value} {below : List Frame} {meth : Method} {c : Code} {A : Nat → Prop} (D : va_G) (cI cZ cT : ClassId) (h_R : Nat) (h_T : Nat) (hc_R : Nat) (hp_R : Nat) (h_K : Nat) (hx_R : Nat) (hh_R : Nat) (hs_R : Nat) (q_T : Nat → Nat) (q_K : Nat → Nat) (c_hasSnapshot : Int) (T : TV) (K : KV) (x1 : Int) (x2 : Int) (x4 : Int) (x5 : Int) (res : Int) (k : Int → Option (Int)) (hF : zF p m c cL_areMeasures 7 s args yL_areMeasures.cls meth (some .boolean) yL_areMeasures.name A D (zt cI cZ cT))
    (hk : ∀ (x3 : Int) (H : Heap) (locs : List Loc) (ls : Array Slot), k x3 = some res → va_P D vwCl ((zRt h_R h_T hc_R hp_R h_K hx_R hh_R hs_R c_hasSnapshot) ++ (zTr cI h_T q_T T) ++ (zWk cI h_K q_K K)) H → va_D A ((zRt h_R h_T hc_R hp_R h_K hx_R hh_R hs_R c_hasSnapshot) ++ (zTr cI h_T q_T T) ++ (zWk cI h_K q_K K)) → va_S A s.heap H locs → lv_has ls 7 [(0, .ref h_R), (1, vI x1), (2, vI x2), (3, vI x3), (4, vI x4), (5, vI x5)] → W p l e rm_Lw_areMeasures s m args below meth c H locs 0 0 (MQ below (zQi D (res) (fun u => (zRt h_R h_T hc_R hp_R h_K hx_R hh_R hs_R c_hasSnapshot) ++ (zTr cI h_T q_T T) ++ (zWk cI h_K q_K K)) A) args s 0 0 A) (F0 m 66 ls [])) :
    ∀ (n : Nat) (x3 : Int) (H : Heap) (locs : List Loc) (ls : Array Slot), f_Lw_areMeasures_L41 T K x2 x5 k n x3 = some res → va_P D vwCl ((zRt h_R h_T hc_R hp_R h_K hx_R hh_R hs_R c_hasSnapshot) ++ (zTr cI h_T q_T T) ++ (zWk cI h_K q_K K)) H → va_D A ((zRt h_R h_T hc_R hp_R h_K hx_R hh_R hs_R c_hasSnapshot) ++ (zTr cI h_T q_T T) ++ (zWk cI h_K q_K K)) → va_S A s.heap H locs → lv_has ls 7 [(0, .ref h_R), (1, vI x1), (2, vI x2), (3, vI x3), (4, vI x4), (5, vI x5)] → W p l e rm_Lw_areMeasures s m args below meth c H locs 0 0 (MQ below (zQi D (res) (fun u => (zRt h_R h_T hc_R hp_R h_K hx_R hh_R hs_R c_hasSnapshot) ++ (zTr cI h_T q_T T) ++ (zWk cI h_K q_K K)) A) args s 0 0 A) (F0 m 41 ls []) := by
  have hx := hF.1.1
  have hb := hF.1.2.1
  have hml := hF.1.2.2.1
  have hown : s.vm.findClass "RectangleTreeLaw" = some m.cls := hF.1.2.2.2.1
  have hts := hF.1.2.2.2.2
  have hr := hF.2.1
  have hlk := hF.2.2.1
  have hK := hF.2.2.2.2.1
  have hN := hF.2.2.2.2.2.1
  have hA := hF.2.2.2.2.2.2
  intro n
  induction n with
  | zero => intro x3  H locs ls h; cases h
  | succ n ih =>
    intro x3  H locs ls h  hP hD hS hl
    rw [f_Lw_areMeasures_L41] at h
    refine lv_iload_n hx hb dL_areMeasures_41 rfl (lv_at hl 3 rfl) ?_
    refine lv_aload_n hx hb dL_areMeasures_42 rfl (lv_at hl 0 rfl) ?_
    refine lv_iload hx hb dL_areMeasures_43 (lv_at hl 5 rfl) ?_
    obtain ⟨r_19, e_20, h⟩ := bd1_e h
    refine z_goi (ws' := []) (ret := r_19) (wc := (zRt (h_R) (h_T) (hc_R) (hp_R) (h_K) (hx_R) (hh_R) (hs_R) (c_hasSnapshot)) ++ (zTr cI (h_T) (q_T) (T)) ++ (zWk cI (h_K) (q_K) (K))) (wn := fun u_21 => (zRt h_R h_T hc_R hp_R h_K hx_R hh_R hs_R c_hasSnapshot) ++ (zTr cI h_T q_T T) ++ (zWk cI h_K q_K K)) (wr := []) (va_runV (As := [vI x5]) (rest := [vI x3]) hF.1 (c_Rt_level l D cI cZ cT h_R h_T hc_R hp_R h_K hx_R hh_R hs_R q_T q_K c_hasSnapshot T K x5 H.size (r_19) e_20) (cwV 1 hts (zgV wm287 wm288 wm289 wm32 wm290) rfl rfl rfl (by decide +kernel) ⟨Nat.le_of_ble_eq_true rfl, Nat.le_of_ble_eq_true rfl⟩) ⟨zP.blind, va_recv hK (z_subP (ws' := (zRt (h_R) (h_T) (hc_R) (hp_R) (h_K) (hx_R) (hh_R) (hs_R) (c_hasSnapshot)) ++ (zTr cI (h_T) (q_T) (T)) ++ (zWk cI (h_K) (q_K) (K))) hP [0, 1, 2, 3, 4, 5, 6, 7, 8, 9] rfl) (ci := 6) (q0 := 0) rfl rfl, zP.enter (z_subP (ws' := (zRt (h_R) (h_T) (hc_R) (hp_R) (h_K) (hx_R) (hh_R) (hs_R) (c_hasSnapshot)) ++ (zTr cI (h_T) (q_T) (T)) ++ (zWk cI (h_K) (q_K) (K))) hP [0, 1, 2, 3, 4, 5, 6, 7, 8, 9] rfl) hK (hD.sub [0, 1, 2, 3, 4, 5, 6, 7, 8, 9] (by decide) rfl) hN⟩ rfl rfl hl.1 rfl (lv_room (Nat.le_of_ble_eq_true rfl)) dL_areMeasures_45 ⟨Nat.le_refl _, Nat.le_refl _⟩) hP hD hS hA [0, 1, 2, 3, 4, 5, 6, 7, 8, 9] [] [0, 1, 2, 3, 4, 5, 6, 7, 8, 9] rfl rfl (by decide) (fun _ => rfl) (fun u_21 H locs hP hD hS hz => ?_)
    refine lv_iload_n hx hb dL_areMeasures_48 rfl (lv_at hl 2 rfl) ?_
    obtain ⟨g_22, h⟩ := gd_e h
    obtain ⟨g_23, h⟩ := gd_e h
    refine z_icmp_ne (tgt := 63) hx hb g_22 g_23 dL_areMeasures_49 (by decide) (fun b_24 => ?_) (fun b_24 => ?_)
    · have h := it_n b_24 h
      refine lv_iconst (v := Int32.ofInt 0) hx hb dL_areMeasures_63 rfl ?_
      refine z_iadd hx hb dL_areMeasures_64 ?_
      refine lv_istore_n (lv' := [(3, vI (x3 + 0)), (0, .ref h_R), (1, vI x1), (2, vI x2), (4, vI x4), (5, vI x5)]) hx hb dL_areMeasures_65 rfl hl (by decide) rfl (fun ls hl => ?_)
      exact hk ((x3 + 0)) H locs ls h hP hD hS (lv_sub hl [1, 2, 3, 0, 4, 5] rfl)
    · have h := it_p b_24 h
      refine lv_aload_n hx hb dL_areMeasures_52 rfl (lv_at hl 0 rfl) ?_
      refine lv_iload hx hb dL_areMeasures_53 (lv_at hl 5 rfl) ?_
      refine lv_iload hx hb dL_areMeasures_55 (lv_at hl 5 rfl) ?_
      obtain ⟨r_25, e_26, h⟩ := bd1_e h
      refine z_goi (ws' := []) (ret := r_25) (wc := (zRt (h_R) (h_T) (hc_R) (hp_R) (h_K) (hx_R) (hh_R) (hs_R) (c_hasSnapshot)) ++ (zTr cI (h_T) (q_T) (T)) ++ (zWk cI (h_K) (q_K) (K))) (wn := fun u_27 => (zRt h_R h_T hc_R hp_R h_K hx_R hh_R hs_R c_hasSnapshot) ++ (zTr cI h_T q_T T) ++ (zWk cI h_K q_K K)) (wr := []) (va_runS (As := [.ref h_R, vI x5, vI x5]) (rest := [vI x3]) hF.1 (c_Lw_common l D cI cZ cT h_R h_T hc_R hp_R h_K hx_R hh_R hs_R q_T q_K c_hasSnapshot T K x5 x5 H.size (r_25) e_26) (va_cwS 3 hts (zgS wm375 wm376 wm31 wm377) rfl rfl rfl (by decide +kernel) ⟨Nat.le_of_ble_eq_true rfl, Nat.le_of_ble_eq_true rfl⟩) ⟨zP.blind, zP.enter (z_subP (ws' := (zRt (h_R) (h_T) (hc_R) (hp_R) (h_K) (hx_R) (hh_R) (hs_R) (c_hasSnapshot)) ++ (zTr cI (h_T) (q_T) (T)) ++ (zWk cI (h_K) (q_K) (K))) hP [0, 1, 2, 3, 4, 5, 6, 7, 8, 9] rfl) hK (hD.sub [0, 1, 2, 3, 4, 5, 6, 7, 8, 9] (by decide) rfl) hN⟩ rfl rfl hl.1 rfl (lv_room (Nat.le_of_ble_eq_true rfl)) dL_areMeasures_57 ⟨Nat.le_refl _, Nat.le_refl _⟩) hP hD hS hA [0, 1, 2, 3, 4, 5, 6, 7, 8, 9] [] [0, 1, 2, 3, 4, 5, 6, 7, 8, 9] rfl rfl (by decide) (fun _ => rfl) (fun u_27 H locs hP hD hS hz => ?_)
      refine lv_goto (tgt := 64) hx hb dL_areMeasures_60 (by decide) ?_
      refine z_iadd hx hb dL_areMeasures_64 ?_
      refine lv_istore_n (lv' := [(3, vI (x3 + r_25)), (0, .ref h_R), (1, vI x1), (2, vI x2), (4, vI x4), (5, vI x5)]) hx hb dL_areMeasures_65 rfl hl (by decide) rfl (fun ls hl => ?_)
      exact hk ((x3 + r_25)) H locs ls h hP hD hS (lv_sub hl [1, 2, 3, 0, 4, 5] rfl)

set_option maxHeartbeats 4000000 in
set_option maxRecDepth 100000 in
theorem w_Lw_areMeasures_L88 {p : Program} {l : Launch} {e : Env} {s : State} {m : MethodId} {args : Array Value} {below : List Frame} {meth : Method} {c : Code} {A : Nat → Prop} (D : va_G) (cI cZ cT : ClassId) (h_R : Nat) (h_T : Nat) (hc_R : Nat) (hp_R : Nat) (h_K : Nat) (hx_R : Nat) (hh_R : Nat) (hs_R : Nat) (q_T : Nat → Nat) (q_K : Nat → Nat) (c_hasSnapshot : Int) (T : TV) (K : KV) (x1 : Int) (x2 : Int) (x3 : Int) (x5 : Int) (x6 : Int) (res : Int) (k : Int → Option (Int)) (hF : zF p m c cL_areMeasures 7 s args yL_areMeasures.cls meth (some .boolean) yL_areMeasures.name A D (zt cI cZ cT))
    (hk : ∀ (x4 : Int) (H : Heap) (locs : List Loc) (ls : Array Slot), k x4 = some res → va_P D vwCl ((zRt h_R h_T hc_R hp_R h_K hx_R hh_R hs_R c_hasSnapshot) ++ (zTr cI h_T q_T T) ++ (zWk cI h_K q_K K)) H → va_D A ((zRt h_R h_T hc_R hp_R h_K hx_R hh_R hs_R c_hasSnapshot) ++ (zTr cI h_T q_T T) ++ (zWk cI h_K q_K K)) → va_S A s.heap H locs → lv_has ls 7 [(0, .ref h_R), (1, vI x1), (2, vI x2), (3, vI x3), (4, vI x4), (5, vI x5), (6, vI x6)] → W p l e rm_Lw_areMeasures s m args below meth c H locs 0 0 (MQ below (zQi D (res) (fun u => (zRt h_R h_T hc_R hp_R h_K hx_R hh_R hs_R c_hasSnapshot) ++ (zTr cI h_T q_T T) ++ (zWk cI h_K q_K K)) A) args s 0 0 A) (F0 m 115 ls [])) :
    ∀ (n : Nat) (x4 : Int) (H : Heap) (locs : List Loc) (ls : Array Slot), f_Lw_areMeasures_L88 T K x2 x5 x6 k n x4 = some res → va_P D vwCl ((zRt h_R h_T hc_R hp_R h_K hx_R hh_R hs_R c_hasSnapshot) ++ (zTr cI h_T q_T T) ++ (zWk cI h_K q_K K)) H → va_D A ((zRt h_R h_T hc_R hp_R h_K hx_R hh_R hs_R c_hasSnapshot) ++ (zTr cI h_T q_T T) ++ (zWk cI h_K q_K K)) → va_S A s.heap H locs → lv_has ls 7 [(0, .ref h_R), (1, vI x1), (2, vI x2), (3, vI x3), (4, vI x4), (5, vI x5), (6, vI x6)] → W p l e rm_Lw_areMeasures s m args below meth c H locs 0 0 (MQ below (zQi D (res) (fun u => (zRt h_R h_T hc_R hp_R h_K hx_R hh_R hs_R c_hasSnapshot) ++ (zTr cI h_T q_T T) ++ (zWk cI h_K q_K K)) A) args s 0 0 A) (F0 m 88 ls []) := by
  have hx := hF.1.1
  have hb := hF.1.2.1
  have hml := hF.1.2.2.1
  have hown : s.vm.findClass "RectangleTreeLaw" = some m.cls := hF.1.2.2.2.1
  have hts := hF.1.2.2.2.2
  have hr := hF.2.1
  have hlk := hF.2.2.1
  have hK := hF.2.2.2.2.1
  have hN := hF.2.2.2.2.2.1
  have hA := hF.2.2.2.2.2.2
  intro n
  induction n with
  | zero => intro x4  H locs ls h; cases h
  | succ n ih =>
    intro x4  H locs ls h  hP hD hS hl
    rw [f_Lw_areMeasures_L88] at h
    refine lv_iload hx hb dL_areMeasures_88 (lv_at hl 4 rfl) ?_
    refine lv_aload_n hx hb dL_areMeasures_90 rfl (lv_at hl 0 rfl) ?_
    refine lv_iload hx hb dL_areMeasures_91 (lv_at hl 6 rfl) ?_
    obtain ⟨r_38, e_39, h⟩ := bd1_e h
    refine z_goi (ws' := []) (ret := r_38) (wc := (zRt (h_R) (h_T) (hc_R) (hp_R) (h_K) (hx_R) (hh_R) (hs_R) (c_hasSnapshot)) ++ (zTr cI (h_T) (q_T) (T)) ++ (zWk cI (h_K) (q_K) (K))) (wn := fun u_40 => (zRt h_R h_T hc_R hp_R h_K hx_R hh_R hs_R c_hasSnapshot) ++ (zTr cI h_T q_T T) ++ (zWk cI h_K q_K K)) (wr := []) (va_runV (As := [vI x6]) (rest := [vI x4]) hF.1 (c_Rt_level l D cI cZ cT h_R h_T hc_R hp_R h_K hx_R hh_R hs_R q_T q_K c_hasSnapshot T K x6 H.size (r_38) e_39) (cwV 1 hts (zgV wm287 wm288 wm289 wm32 wm290) rfl rfl rfl (by decide +kernel) ⟨Nat.le_of_ble_eq_true rfl, Nat.le_of_ble_eq_true rfl⟩) ⟨zP.blind, va_recv hK (z_subP (ws' := (zRt (h_R) (h_T) (hc_R) (hp_R) (h_K) (hx_R) (hh_R) (hs_R) (c_hasSnapshot)) ++ (zTr cI (h_T) (q_T) (T)) ++ (zWk cI (h_K) (q_K) (K))) hP [0, 1, 2, 3, 4, 5, 6, 7, 8, 9] rfl) (ci := 6) (q0 := 0) rfl rfl, zP.enter (z_subP (ws' := (zRt (h_R) (h_T) (hc_R) (hp_R) (h_K) (hx_R) (hh_R) (hs_R) (c_hasSnapshot)) ++ (zTr cI (h_T) (q_T) (T)) ++ (zWk cI (h_K) (q_K) (K))) hP [0, 1, 2, 3, 4, 5, 6, 7, 8, 9] rfl) hK (hD.sub [0, 1, 2, 3, 4, 5, 6, 7, 8, 9] (by decide) rfl) hN⟩ rfl rfl hl.1 rfl (lv_room (Nat.le_of_ble_eq_true rfl)) dL_areMeasures_93 ⟨Nat.le_refl _, Nat.le_refl _⟩) hP hD hS hA [0, 1, 2, 3, 4, 5, 6, 7, 8, 9] [] [0, 1, 2, 3, 4, 5, 6, 7, 8, 9] rfl rfl (by decide) (fun _ => rfl) (fun u_40 H locs hP hD hS hz => ?_)
    refine lv_iload_n hx hb dL_areMeasures_96 rfl (lv_at hl 2 rfl) ?_
    obtain ⟨g_41, h⟩ := gd_e h
    obtain ⟨g_42, h⟩ := gd_e h
    refine z_icmp_ne (tgt := 111) hx hb g_41 g_42 dL_areMeasures_97 (by decide) (fun b_43 => ?_) (fun b_43 => ?_)
    · have h := it_n b_43 h
      refine lv_iconst (v := Int32.ofInt 0) hx hb dL_areMeasures_111 rfl ?_
      refine z_iadd hx hb dL_areMeasures_112 ?_
      refine lv_istore (lv' := [(4, vI (x4 + 0)), (0, .ref h_R), (1, vI x1), (2, vI x2), (3, vI x3), (5, vI x5), (6, vI x6)]) hx hb dL_areMeasures_113 hl (by decide) rfl (fun ls hl => ?_)
      exact hk ((x4 + 0)) H locs ls h hP hD hS (lv_sub hl [1, 2, 3, 4, 0, 5, 6] rfl)
    · have h := it_p b_43 h
      refine lv_aload_n hx hb dL_areMeasures_100 rfl (lv_at hl 0 rfl) ?_
      refine lv_iload hx hb dL_areMeasures_101 (lv_at hl 5 rfl) ?_
      refine lv_iload hx hb dL_areMeasures_103 (lv_at hl 6 rfl) ?_
      obtain ⟨r_44, e_45, h⟩ := bd1_e h
      refine z_goi (ws' := []) (ret := r_44) (wc := (zRt (h_R) (h_T) (hc_R) (hp_R) (h_K) (hx_R) (hh_R) (hs_R) (c_hasSnapshot)) ++ (zTr cI (h_T) (q_T) (T)) ++ (zWk cI (h_K) (q_K) (K))) (wn := fun u_46 => (zRt h_R h_T hc_R hp_R h_K hx_R hh_R hs_R c_hasSnapshot) ++ (zTr cI h_T q_T T) ++ (zWk cI h_K q_K K)) (wr := []) (va_runS (As := [.ref h_R, vI x5, vI x6]) (rest := [vI x4]) hF.1 (c_Lw_common l D cI cZ cT h_R h_T hc_R hp_R h_K hx_R hh_R hs_R q_T q_K c_hasSnapshot T K x5 x6 H.size (r_44) e_45) (va_cwS 3 hts (zgS wm375 wm376 wm31 wm377) rfl rfl rfl (by decide +kernel) ⟨Nat.le_of_ble_eq_true rfl, Nat.le_of_ble_eq_true rfl⟩) ⟨zP.blind, zP.enter (z_subP (ws' := (zRt (h_R) (h_T) (hc_R) (hp_R) (h_K) (hx_R) (hh_R) (hs_R) (c_hasSnapshot)) ++ (zTr cI (h_T) (q_T) (T)) ++ (zWk cI (h_K) (q_K) (K))) hP [0, 1, 2, 3, 4, 5, 6, 7, 8, 9] rfl) hK (hD.sub [0, 1, 2, 3, 4, 5, 6, 7, 8, 9] (by decide) rfl) hN⟩ rfl rfl hl.1 rfl (lv_room (Nat.le_of_ble_eq_true rfl)) dL_areMeasures_105 ⟨Nat.le_refl _, Nat.le_refl _⟩) hP hD hS hA [0, 1, 2, 3, 4, 5, 6, 7, 8, 9] [] [0, 1, 2, 3, 4, 5, 6, 7, 8, 9] rfl rfl (by decide) (fun _ => rfl) (fun u_46 H locs hP hD hS hz => ?_)
      refine lv_goto (tgt := 112) hx hb dL_areMeasures_108 (by decide) ?_
      refine z_iadd hx hb dL_areMeasures_112 ?_
      refine lv_istore (lv' := [(4, vI (x4 + r_44)), (0, .ref h_R), (1, vI x1), (2, vI x2), (3, vI x3), (5, vI x5), (6, vI x6)]) hx hb dL_areMeasures_113 hl (by decide) rfl (fun ls hl => ?_)
      exact hk ((x4 + r_44)) H locs ls h hP hD hS (lv_sub hl [1, 2, 3, 4, 0, 5, 6] rfl)

set_option maxHeartbeats 4000000 in
set_option maxRecDepth 100000 in
theorem w_Lw_areMeasures_L72 {p : Program} {l : Launch} {e : Env} {s : State} {m : MethodId} {args : Array Value} {below : List Frame} {meth : Method} {c : Code} {A : Nat → Prop} (D : va_G) (cI cZ cT : ClassId) (h_R : Nat) (h_T : Nat) (hc_R : Nat) (hp_R : Nat) (h_K : Nat) (hx_R : Nat) (hh_R : Nat) (hs_R : Nat) (q_T : Nat → Nat) (q_K : Nat → Nat) (c_hasSnapshot : Int) (T : TV) (K : KV) (x1 : Int) (x2 : Int) (x3 : Int) (x5 : Int) (res : Int) (k : Int → Int → Option (Int)) (hF : zF p m c cL_areMeasures 7 s args yL_areMeasures.cls meth (some .boolean) yL_areMeasures.name A D (zt cI cZ cT))
    (hk : ∀ (x4 : Int) (x6 : Int) (H : Heap) (locs : List Loc) (ls : Array Slot), k x4 x6 = some res → va_P D vwCl ((zRt h_R h_T hc_R hp_R h_K hx_R hh_R hs_R c_hasSnapshot) ++ (zTr cI h_T q_T T) ++ (zWk cI h_K q_K K)) H → va_D A ((zRt h_R h_T hc_R hp_R h_K hx_R hh_R hs_R c_hasSnapshot) ++ (zTr cI h_T q_T T) ++ (zWk cI h_K q_K K)) → va_S A s.heap H locs → lv_has ls 7 [(0, .ref h_R), (1, vI x1), (2, vI x2), (3, vI x3), (4, vI x4), (5, vI x5)] → W p l e rm_Lw_areMeasures s m args below meth c H locs 0 0 (MQ below (zQi D (res) (fun u => (zRt h_R h_T hc_R hp_R h_K hx_R hh_R hs_R c_hasSnapshot) ++ (zTr cI h_T q_T T) ++ (zWk cI h_K q_K K)) A) args s 0 0 A) (F0 m 121 ls [])) :
    ∀ (n : Nat) (x4 : Int) (x6 : Int) (H : Heap) (locs : List Loc) (ls : Array Slot), f_Lw_areMeasures_L72 T K x1 x2 x5 k n x4 x6 = some res → va_P D vwCl ((zRt h_R h_T hc_R hp_R h_K hx_R hh_R hs_R c_hasSnapshot) ++ (zTr cI h_T q_T T) ++ (zWk cI h_K q_K K)) H → va_D A ((zRt h_R h_T hc_R hp_R h_K hx_R hh_R hs_R c_hasSnapshot) ++ (zTr cI h_T q_T T) ++ (zWk cI h_K q_K K)) → va_S A s.heap H locs → lv_has ls 7 [(0, .ref h_R), (1, vI x1), (2, vI x2), (3, vI x3), (4, vI x4), (5, vI x5), (6, vI x6)] → W p l e rm_Lw_areMeasures s m args below meth c H locs 0 0 (MQ below (zQi D (res) (fun u => (zRt h_R h_T hc_R hp_R h_K hx_R hh_R hs_R c_hasSnapshot) ++ (zTr cI h_T q_T T) ++ (zWk cI h_K q_K K)) A) args s 0 0 A) (F0 m 72 ls []) := by
  have hx := hF.1.1
  have hb := hF.1.2.1
  have hml := hF.1.2.2.1
  have hown : s.vm.findClass "RectangleTreeLaw" = some m.cls := hF.1.2.2.2.1
  have hts := hF.1.2.2.2.2
  have hr := hF.2.1
  have hlk := hF.2.2.1
  have hK := hF.2.2.2.2.1
  have hN := hF.2.2.2.2.2.1
  have hA := hF.2.2.2.2.2.2
  intro n
  induction n with
  | zero => intro x4 x6  H locs ls h; cases h
  | succ n ih =>
    intro x4 x6  H locs ls h  hP hD hS hl
    rw [f_Lw_areMeasures_L72] at h
    refine lv_iload hx hb dL_areMeasures_72 (lv_at hl 6 rfl) ?_
    refine lv_iload_n hx hb dL_areMeasures_74 rfl (lv_at hl 1 rfl) ?_
    obtain ⟨g_29, h⟩ := gd_e h
    obtain ⟨g_30, h⟩ := gd_e h
    refine z_icmp_ge (tgt := 121) hx hb g_29 g_30 dL_areMeasures_75 (by decide) (fun b_31 => ?_) (fun b_31 => ?_)
    · have h := it_n b_31 h
      exact hk (x4) (x6) H locs ls h hP hD hS (lv_sub hl [0, 1, 2, 3, 4, 5] rfl)
    · have h := it_p b_31 h
      refine lv_aload_n hx hb dL_areMeasures_78 rfl (lv_at hl 0 rfl) ?_
      refine lv_iload hx hb dL_areMeasures_79 (lv_at hl 5 rfl) ?_
      obtain ⟨r_32, e_33, h⟩ := bd1_e h
      refine z_goi (ws' := []) (ret := r_32) (wc := (zRt (h_R) (h_T) (hc_R) (hp_R) (h_K) (hx_R) (hh_R) (hs_R) (c_hasSnapshot)) ++ (zTr cI (h_T) (q_T) (T)) ++ (zWk cI (h_K) (q_K) (K))) (wn := fun u_34 => (zRt h_R h_T hc_R hp_R h_K hx_R hh_R hs_R c_hasSnapshot) ++ (zTr cI h_T q_T T) ++ (zWk cI h_K q_K K)) (wr := []) (va_runV (As := [vI x5]) (rest := []) hF.1 (c_Rt_level l D cI cZ cT h_R h_T hc_R hp_R h_K hx_R hh_R hs_R q_T q_K c_hasSnapshot T K x5 H.size (r_32) e_33) (cwV 1 hts (zgV wm287 wm288 wm289 wm32 wm290) rfl rfl rfl (by decide +kernel) ⟨Nat.le_of_ble_eq_true rfl, Nat.le_of_ble_eq_true rfl⟩) ⟨zP.blind, va_recv hK (z_subP (ws' := (zRt (h_R) (h_T) (hc_R) (hp_R) (h_K) (hx_R) (hh_R) (hs_R) (c_hasSnapshot)) ++ (zTr cI (h_T) (q_T) (T)) ++ (zWk cI (h_K) (q_K) (K))) hP [0, 1, 2, 3, 4, 5, 6, 7, 8, 9] rfl) (ci := 6) (q0 := 0) rfl rfl, zP.enter (z_subP (ws' := (zRt (h_R) (h_T) (hc_R) (hp_R) (h_K) (hx_R) (hh_R) (hs_R) (c_hasSnapshot)) ++ (zTr cI (h_T) (q_T) (T)) ++ (zWk cI (h_K) (q_K) (K))) hP [0, 1, 2, 3, 4, 5, 6, 7, 8, 9] rfl) hK (hD.sub [0, 1, 2, 3, 4, 5, 6, 7, 8, 9] (by decide) rfl) hN⟩ rfl rfl hl.1 rfl (lv_room (Nat.le_of_ble_eq_true rfl)) dL_areMeasures_81 ⟨Nat.le_refl _, Nat.le_refl _⟩) hP hD hS hA [0, 1, 2, 3, 4, 5, 6, 7, 8, 9] [] [0, 1, 2, 3, 4, 5, 6, 7, 8, 9] rfl rfl (by decide) (fun _ => rfl) (fun u_34 H locs hP hD hS hz => ?_)
      refine lv_iload_n hx hb dL_areMeasures_84 rfl (lv_at hl 2 rfl) ?_
      obtain ⟨g_35, h⟩ := gd_e h
      obtain ⟨g_36, h⟩ := gd_e h
      refine z_icmp_ne (tgt := 121) hx hb g_35 g_36 dL_areMeasures_85 (by decide) (fun b_37 => ?_) (fun b_37 => ?_)
      · have h := it_n b_37 h
        exact hk (x4) (x6) H locs ls h hP hD hS (lv_sub hl [0, 1, 2, 3, 4, 5] rfl)
      · have h := it_p b_37 h
        refine w_Lw_areMeasures_L88 D cI cZ cT (h_R) (h_T) (hc_R) (hp_R) (h_K) (hx_R) (hh_R) (hs_R) (q_T) (q_K) (c_hasSnapshot) (T) (K) (x1) (x2) (x3) (x5) (x6) _ _ hF (fun x4_47 H locs ls h hP hD hS hl => ?_) _ (x4) _ _ _ h hP hD hS (lv_sub hl [0, 1, 2, 3, 4, 5, 6] rfl)
        refine lv_iinc (v := Int32.ofInt (x6 + 1)) (lv' := [(6, vI (x6 + 1)), (0, .ref h_R), (1, vI x1), (2, vI x2), (3, vI x3), (4, vI x4_47), (5, vI x5)]) hx hb dL_areMeasures_115 hl (k := 6) rfl (z_inc _ _) (by decide) rfl (fun ls hl => ?_)
        refine lv_goto (tgt := 72) hx hb dL_areMeasures_118 (by decide) ?_
        exact ih (x4_47) ((x6 + 1)) H locs ls h hP hD hS (lv_sub hl [1, 2, 3, 4, 5, 6, 0] rfl)

set_option maxHeartbeats 4000000 in
set_option maxRecDepth 100000 in
theorem w_Lw_areMeasures_L35 {p : Program} {l : Launch} {e : Env} {s : State} {m : MethodId} {args : Array Value} {below : List Frame} {meth : Method} {c : Code} {A : Nat → Prop} (D : va_G) (cI cZ cT : ClassId) (h_R : Nat) (h_T : Nat) (hc_R : Nat) (hp_R : Nat) (h_K : Nat) (hx_R : Nat) (hh_R : Nat) (hs_R : Nat) (q_T : Nat → Nat) (q_K : Nat → Nat) (c_hasSnapshot : Int) (T : TV) (K : KV) (x1 : Int) (x2 : Int) (res : Int) (k : Int → Int → Int → Option (Int)) (hF : zF p m c cL_areMeasures 7 s args yL_areMeasures.cls meth (some .boolean) yL_areMeasures.name A D (zt cI cZ cT))
    (hk : ∀ (x3 : Int) (x4 : Int) (x5 : Int) (H : Heap) (locs : List Loc) (ls : Array Slot), k x3 x4 x5 = some res → va_P D vwCl ((zRt h_R h_T hc_R hp_R h_K hx_R hh_R hs_R c_hasSnapshot) ++ (zTr cI h_T q_T T) ++ (zWk cI h_K q_K K)) H → va_D A ((zRt h_R h_T hc_R hp_R h_K hx_R hh_R hs_R c_hasSnapshot) ++ (zTr cI h_T q_T T) ++ (zWk cI h_K q_K K)) → va_S A s.heap H locs → lv_has ls 7 [(0, .ref h_R), (1, vI x1), (2, vI x2), (3, vI x3), (4, vI x4)] → W p l e rm_Lw_areMeasures s m args below meth c H locs 0 0 (MQ below (zQi D (res) (fun u => (zRt h_R h_T hc_R hp_R h_K hx_R hh_R hs_R c_hasSnapshot) ++ (zTr cI h_T q_T T) ++ (zWk cI h_K q_K K)) A) args s 0 0 A) (F0 m 127 ls [])) :
    ∀ (n : Nat) (x3 : Int) (x4 : Int) (x5 : Int) (H : Heap) (locs : List Loc) (ls : Array Slot), f_Lw_areMeasures_L35 T K x1 x2 k n x3 x4 x5 = some res → va_P D vwCl ((zRt h_R h_T hc_R hp_R h_K hx_R hh_R hs_R c_hasSnapshot) ++ (zTr cI h_T q_T T) ++ (zWk cI h_K q_K K)) H → va_D A ((zRt h_R h_T hc_R hp_R h_K hx_R hh_R hs_R c_hasSnapshot) ++ (zTr cI h_T q_T T) ++ (zWk cI h_K q_K K)) → va_S A s.heap H locs → lv_has ls 7 [(0, .ref h_R), (1, vI x1), (2, vI x2), (3, vI x3), (4, vI x4), (5, vI x5)] → W p l e rm_Lw_areMeasures s m args below meth c H locs 0 0 (MQ below (zQi D (res) (fun u => (zRt h_R h_T hc_R hp_R h_K hx_R hh_R hs_R c_hasSnapshot) ++ (zTr cI h_T q_T T) ++ (zWk cI h_K q_K K)) A) args s 0 0 A) (F0 m 35 ls []) := by
  have hx := hF.1.1
  have hb := hF.1.2.1
  have hml := hF.1.2.2.1
  have hown : s.vm.findClass "RectangleTreeLaw" = some m.cls := hF.1.2.2.2.1
  have hts := hF.1.2.2.2.2
  have hr := hF.2.1
  have hlk := hF.2.2.1
  have hK := hF.2.2.2.2.1
  have hN := hF.2.2.2.2.2.1
  have hA := hF.2.2.2.2.2.2
  intro n
  induction n with
  | zero => intro x3 x4 x5  H locs ls h; cases h
  | succ n ih =>
    intro x3 x4 x5  H locs ls h  hP hD hS hl
    rw [f_Lw_areMeasures_L35] at h
    refine lv_iload hx hb dL_areMeasures_35 (lv_at hl 5 rfl) ?_
    refine lv_iload_n hx hb dL_areMeasures_37 rfl (lv_at hl 1 rfl) ?_
    obtain ⟨g_16, h⟩ := gd_e h
    obtain ⟨g_17, h⟩ := gd_e h
    refine z_icmp_ge (tgt := 127) hx hb g_16 g_17 dL_areMeasures_38 (by decide) (fun b_18 => ?_) (fun b_18 => ?_)
    · have h := it_n b_18 h
      exact hk (x3) (x4) (x5) H locs ls h hP hD hS (lv_sub hl [0, 1, 2, 3, 4] rfl)
    · have h := it_p b_18 h
      refine w_Lw_areMeasures_L41 D cI cZ cT (h_R) (h_T) (hc_R) (hp_R) (h_K) (hx_R) (hh_R) (hs_R) (q_T) (q_K) (c_hasSnapshot) (T) (K) (x1) (x2) (x4) (x5) _ _ hF (fun x3_28 H locs ls h hP hD hS hl => ?_) _ (x3) _ _ _ h hP hD hS (lv_sub hl [0, 1, 2, 3, 4, 5] rfl)
      refine lv_iload hx hb dL_areMeasures_66 (lv_at hl 5 rfl) ?_
      refine lv_iconst (v := Int32.ofInt 1) hx hb dL_areMeasures_68 rfl ?_
      refine z_iadd hx hb dL_areMeasures_69 ?_
      refine lv_istore (lv' := [(6, vI (x5 + 1)), (0, .ref h_R), (1, vI x1), (2, vI x2), (3, vI x3_28), (4, vI x4), (5, vI x5)]) hx hb dL_areMeasures_70 hl (by decide) rfl (fun ls hl => ?_)
      refine w_Lw_areMeasures_L72 D cI cZ cT (h_R) (h_T) (hc_R) (hp_R) (h_K) (hx_R) (hh_R) (hs_R) (q_T) (q_K) (c_hasSnapshot) (T) (K) (x1) (x2) (x3_28) (x5) _ _ hF (fun x4_48 x6_49 H locs ls h hP hD hS hl => ?_) _ (x4) ((x5 + 1)) _ _ _ h hP hD hS (lv_sub hl [1, 2, 3, 4, 5, 6, 0] rfl)
      refine lv_iinc (v := Int32.ofInt (x5 + 1)) (lv' := [(5, vI (x5 + 1)), (0, .ref h_R), (1, vI x1), (2, vI x2), (3, vI x3_28), (4, vI x4_48)]) hx hb dL_areMeasures_121 hl (k := 5) rfl (z_inc _ _) (by decide) rfl (fun ls hl => ?_)
      refine lv_goto (tgt := 35) hx hb dL_areMeasures_124 (by decide) ?_
      exact ih (x3_28) (x4_48) ((x5 + 1)) H locs ls h hP hD hS (lv_sub hl [1, 2, 3, 4, 5, 0] rfl)

set_option maxHeartbeats 4000000 in
set_option maxRecDepth 100000 in
theorem w_Lw_areMeasures_L19 {p : Program} {l : Launch} {e : Env} {s : State} {m : MethodId} {args : Array Value} {below : List Frame} {meth : Method} {c : Code} {A : Nat → Prop} (D : va_G) (cI cZ cT : ClassId) (h_R : Nat) (h_T : Nat) (hc_R : Nat) (hp_R : Nat) (h_K : Nat) (hx_R : Nat) (hh_R : Nat) (hs_R : Nat) (q_T : Nat → Nat) (q_K : Nat → Nat) (c_hasSnapshot : Int) (T : TV) (K : KV) (x1 : Int) (res : Int) (k : Int → Option (Int)) (hF : zF p m c cL_areMeasures 7 s args yL_areMeasures.cls meth (some .boolean) yL_areMeasures.name A D (zt cI cZ cT))
    (hk : ∀ (x2 : Int) (H : Heap) (locs : List Loc) (ls : Array Slot), k x2 = some res → va_P D vwCl ((zRt h_R h_T hc_R hp_R h_K hx_R hh_R hs_R c_hasSnapshot) ++ (zTr cI h_T q_T T) ++ (zWk cI h_K q_K K)) H → va_D A ((zRt h_R h_T hc_R hp_R h_K hx_R hh_R hs_R c_hasSnapshot) ++ (zTr cI h_T q_T T) ++ (zWk cI h_K q_K K)) → va_S A s.heap H locs → lv_has ls 7 [(0, .ref h_R)] → W p l e rm_Lw_areMeasures s m args below meth c H locs 0 0 (MQ below (zQi D (res) (fun u => (zRt h_R h_T hc_R hp_R h_K hx_R hh_R hs_R c_hasSnapshot) ++ (zTr cI h_T q_T T) ++ (zWk cI h_K q_K K)) A) args s 0 0 A) (F0 m 154 ls [])) :
    ∀ (n : Nat) (x2 : Int) (H : Heap) (locs : List Loc) (ls : Array Slot), f_Lw_areMeasures_L19 T K x1 k n x2 = some res → va_P D vwCl ((zRt h_R h_T hc_R hp_R h_K hx_R hh_R hs_R c_hasSnapshot) ++ (zTr cI h_T q_T T) ++ (zWk cI h_K q_K K)) H → va_D A ((zRt h_R h_T hc_R hp_R h_K hx_R hh_R hs_R c_hasSnapshot) ++ (zTr cI h_T q_T T) ++ (zWk cI h_K q_K K)) → va_S A s.heap H locs → lv_has ls 7 [(0, .ref h_R), (1, vI x1), (2, vI x2)] → W p l e rm_Lw_areMeasures s m args below meth c H locs 0 0 (MQ below (zQi D (res) (fun u => (zRt h_R h_T hc_R hp_R h_K hx_R hh_R hs_R c_hasSnapshot) ++ (zTr cI h_T q_T T) ++ (zWk cI h_K q_K K)) A) args s 0 0 A) (F0 m 19 ls []) := by
  have hx := hF.1.1
  have hb := hF.1.2.1
  have hml := hF.1.2.2.1
  have hown : s.vm.findClass "RectangleTreeLaw" = some m.cls := hF.1.2.2.2.1
  have hts := hF.1.2.2.2.2
  have hr := hF.2.1
  have hlk := hF.2.2.1
  have hK := hF.2.2.2.2.1
  have hN := hF.2.2.2.2.2.1
  have hA := hF.2.2.2.2.2.2
  intro n
  induction n with
  | zero => intro x2  H locs ls h; cases h
  | succ n ih =>
    intro x2  H locs ls h  hP hD hS hl
    rw [f_Lw_areMeasures_L19] at h
    refine lv_iload_n hx hb dL_areMeasures_19 rfl (lv_at hl 2 rfl) ?_
    refine lv_aload_n hx hb dL_areMeasures_20 rfl (lv_at hl 0 rfl) ?_
    obtain ⟨r_10, e_11, h⟩ := bd1_e h
    refine z_goi (ws' := []) (ret := r_10) (wc := (zRt (h_R) (h_T) (hc_R) (hp_R) (h_K) (hx_R) (hh_R) (hs_R) (c_hasSnapshot)) ++ (zTr cI (h_T) (q_T) (T))) (wn := fun u_12 => (zRt h_R h_T hc_R hp_R h_K hx_R hh_R hs_R c_hasSnapshot) ++ (zTr cI h_T q_T T) ++ (zWk cI h_K q_K K)) (wr := ([7, 8, 9].filterMap (fun i => ((zRt h_R h_T hc_R hp_R h_K hx_R hh_R hs_R c_hasSnapshot) ++ (zTr cI h_T q_T T) ++ (zWk cI h_K q_K K))[i]?))) (va_runV (As := []) (rest := [vI x2]) hF.1 (c_Rt_height l D cI cZ cT h_R h_T hc_R hp_R h_K hx_R hh_R hs_R q_T c_hasSnapshot T H.size (r_10) e_11) (cwV 0 hts (zgV wm304 wm305 wm306 wm32 wm307) rfl rfl rfl (by decide +kernel) ⟨Nat.le_of_ble_eq_true rfl, Nat.le_of_ble_eq_true rfl⟩) ⟨zP.blind, va_recv hK (z_subP (ws' := (zRt (h_R) (h_T) (hc_R) (hp_R) (h_K) (hx_R) (hh_R) (hs_R) (c_hasSnapshot)) ++ (zTr cI (h_T) (q_T) (T))) hP [0, 1, 2, 3, 4, 5, 6] rfl) (ci := 6) (q0 := 0) rfl rfl, zP.enter (z_subP (ws' := (zRt (h_R) (h_T) (hc_R) (hp_R) (h_K) (hx_R) (hh_R) (hs_R) (c_hasSnapshot)) ++ (zTr cI (h_T) (q_T) (T))) hP [0, 1, 2, 3, 4, 5, 6] rfl) hK (hD.sub [0, 1, 2, 3, 4, 5, 6] (by decide) rfl) hN⟩ rfl rfl hl.1 rfl (lv_room (Nat.le_of_ble_eq_true rfl)) dL_areMeasures_21 ⟨Nat.le_refl _, Nat.le_refl _⟩) hP hD hS hA [0, 1, 2, 3, 4, 5, 6] [7, 8, 9] [3, 4, 5, 6, 7, 8, 9, 0, 1, 2] rfl rfl (by decide) (fun _ => rfl) (fun u_12 H locs hP hD hS hz => ?_)
    obtain ⟨g_13, h⟩ := gd_e h
    obtain ⟨g_14, h⟩ := gd_e h
    refine z_icmp_gt (tgt := 154) hx hb g_13 g_14 dL_areMeasures_24 (by decide) (fun b_15 => ?_) (fun b_15 => ?_)
    · have h := it_p b_15 h
      exact hk (x2) H locs ls h hP hD hS (lv_sub hl [0] rfl)
    · have h := it_n b_15 h
      refine lv_iconst (v := Int32.ofInt 0) hx hb dL_areMeasures_27 rfl ?_
      refine lv_istore_n (lv' := [(3, vI 0), (0, .ref h_R), (1, vI x1), (2, vI x2)]) hx hb dL_areMeasures_28 rfl hl (by decide) rfl (fun ls hl => ?_)
      refine lv_iconst (v := Int32.ofInt 0) hx hb dL_areMeasures_29 rfl ?_
      refine lv_istore (lv' := [(4, vI 0), (3, vI 0), (0, .ref h_R), (1, vI x1), (2, vI x2)]) hx hb dL_areMeasures_30 hl (by decide) rfl (fun ls hl => ?_)
      refine lv_iconst (v := Int32.ofInt 0) hx hb dL_areMeasures_32 rfl ?_
      refine lv_istore (lv' := [(5, vI 0), (4, vI 0), (3, vI 0), (0, .ref h_R), (1, vI x1), (2, vI x2)]) hx hb dL_areMeasures_33 hl (by decide) rfl (fun ls hl => ?_)
      refine w_Lw_areMeasures_L35 D cI cZ cT (h_R) (h_T) (hc_R) (hp_R) (h_K) (hx_R) (hh_R) (hs_R) (q_T) (q_K) (c_hasSnapshot) (T) (K) (x1) (x2) _ _ hF (fun x3_50 x4_51 x5_52 H locs ls h hP hD hS hl => ?_) _ (0) (0) (0) _ _ _ h hP hD hS (lv_sub hl [3, 4, 5, 2, 1, 0] rfl)
      refine lv_aload_n hx hb dL_areMeasures_127 rfl (lv_at hl 0 rfl) ?_
      refine lv_iload_n hx hb dL_areMeasures_128 rfl (lv_at hl 2 rfl) ?_
      obtain ⟨r_53, e_54, h⟩ := bd1_e h
      refine z_goi (ws' := []) (ret := r_53) (wc := (zRt (h_R) (h_T) (hc_R) (hp_R) (h_K) (hx_R) (hh_R) (hs_R) (c_hasSnapshot)) ++ (zTr cI (h_T) (q_T) (T)) ++ (zWk cI (h_K) (q_K) (K))) (wn := fun u_55 => (zRt h_R h_T hc_R hp_R h_K hx_R hh_R hs_R c_hasSnapshot) ++ (zTr cI h_T q_T T) ++ (zWk cI h_K q_K K)) (wr := []) (va_runV (As := [vI x2]) (rest := []) hF.1 (c_Rt_area l D cI cZ cT h_R h_T hc_R hp_R h_K hx_R hh_R hs_R q_T q_K c_hasSnapshot T K x2 H.size (r_53) e_54) (cwV 1 hts (zgV wm378 wm379 wm380 wm32 wm381) rfl rfl rfl (by decide +kernel) ⟨Nat.le_of_ble_eq_true rfl, Nat.le_of_ble_eq_true rfl⟩) ⟨zP.blind, va_recv hK (z_subP (ws' := (zRt (h_R) (h_T) (hc_R) (hp_R) (h_K) (hx_R) (hh_R) (hs_R) (c_hasSnapshot)) ++ (zTr cI (h_T) (q_T) (T)) ++ (zWk cI (h_K) (q_K) (K))) hP [0, 1, 2, 3, 4, 5, 6, 7, 8, 9] rfl) (ci := 6) (q0 := 0) rfl rfl, zP.enter (z_subP (ws' := (zRt (h_R) (h_T) (hc_R) (hp_R) (h_K) (hx_R) (hh_R) (hs_R) (c_hasSnapshot)) ++ (zTr cI (h_T) (q_T) (T)) ++ (zWk cI (h_K) (q_K) (K))) hP [0, 1, 2, 3, 4, 5, 6, 7, 8, 9] rfl) hK (hD.sub [0, 1, 2, 3, 4, 5, 6, 7, 8, 9] (by decide) rfl) hN⟩ rfl rfl hl.1 rfl (lv_room (Nat.le_of_ble_eq_true rfl)) dL_areMeasures_129 ⟨Nat.le_refl _, Nat.le_refl _⟩) hP hD hS hA [0, 1, 2, 3, 4, 5, 6, 7, 8, 9] [] [0, 1, 2, 3, 4, 5, 6, 7, 8, 9] rfl rfl (by decide) (fun _ => rfl) (fun u_55 H locs hP hD hS hz => ?_)
      refine lv_iload_n hx hb dL_areMeasures_132 rfl (lv_at hl 3 rfl) ?_
      obtain ⟨g_56, h⟩ := gd_e h
      obtain ⟨g_57, h⟩ := gd_e h
      refine z_icmp_ne (tgt := 146) hx hb g_56 g_57 dL_areMeasures_133 (by decide) (fun b_58 => ?_) (fun b_58 => ?_)
      · have h := it_n b_58 h
        refine lv_iconst (v := Int32.ofInt 0) hx hb dL_areMeasures_146 rfl ?_
        obtain rfl := Option.some.inj h
        exact z_zret hx hb hr hlk (by decide) (fun _ _ => 0) hP hD hS dL_areMeasures_147
      · have h := it_p b_58 h
        refine lv_aload_n hx hb dL_areMeasures_136 rfl (lv_at hl 0 rfl) ?_
        refine lv_iload_n hx hb dL_areMeasures_137 rfl (lv_at hl 2 rfl) ?_
        obtain ⟨r_59, e_60, h⟩ := bd1_e h
        refine z_goi (ws' := []) (ret := r_59) (wc := (zRt (h_R) (h_T) (hc_R) (hp_R) (h_K) (hx_R) (hh_R) (hs_R) (c_hasSnapshot)) ++ (zTr cI (h_T) (q_T) (T)) ++ (zWk cI (h_K) (q_K) (K))) (wn := fun u_61 => (zRt h_R h_T hc_R hp_R h_K hx_R hh_R hs_R c_hasSnapshot) ++ (zTr cI h_T q_T T) ++ (zWk cI h_K q_K K)) (wr := []) (va_runV (As := [vI x2]) (rest := []) hF.1 (c_Rt_overlap l D cI cZ cT h_R h_T hc_R hp_R h_K hx_R hh_R hs_R q_T q_K c_hasSnapshot T K x2 H.size (r_59) e_60) (cwV 1 hts (zgV wm388 wm389 wm390 wm32 wm391) rfl rfl rfl (by decide +kernel) ⟨Nat.le_of_ble_eq_true rfl, Nat.le_of_ble_eq_true rfl⟩) ⟨zP.blind, va_recv hK (z_subP (ws' := (zRt (h_R) (h_T) (hc_R) (hp_R) (h_K) (hx_R) (hh_R) (hs_R) (c_hasSnapshot)) ++ (zTr cI (h_T) (q_T) (T)) ++ (zWk cI (h_K) (q_K) (K))) hP [0, 1, 2, 3, 4, 5, 6, 7, 8, 9] rfl) (ci := 6) (q0 := 0) rfl rfl, zP.enter (z_subP (ws' := (zRt (h_R) (h_T) (hc_R) (hp_R) (h_K) (hx_R) (hh_R) (hs_R) (c_hasSnapshot)) ++ (zTr cI (h_T) (q_T) (T)) ++ (zWk cI (h_K) (q_K) (K))) hP [0, 1, 2, 3, 4, 5, 6, 7, 8, 9] rfl) hK (hD.sub [0, 1, 2, 3, 4, 5, 6, 7, 8, 9] (by decide) rfl) hN⟩ rfl rfl hl.1 rfl (lv_room (Nat.le_of_ble_eq_true rfl)) dL_areMeasures_138 ⟨Nat.le_refl _, Nat.le_refl _⟩) hP hD hS hA [0, 1, 2, 3, 4, 5, 6, 7, 8, 9] [] [0, 1, 2, 3, 4, 5, 6, 7, 8, 9] rfl rfl (by decide) (fun _ => rfl) (fun u_61 H locs hP hD hS hz => ?_)
        refine lv_iload hx hb dL_areMeasures_141 (lv_at hl 4 rfl) ?_
        obtain ⟨g_62, h⟩ := gd_e h
        obtain ⟨g_63, h⟩ := gd_e h
        refine z_icmp_eq (tgt := 148) hx hb g_62 g_63 dL_areMeasures_143 (by decide) (fun b_64 => ?_) (fun b_64 => ?_)
        · have h := it_p b_64 h
          refine lv_iinc (v := Int32.ofInt (x2 + 1)) (lv' := [(2, vI (x2 + 1)), (0, .ref h_R), (1, vI x1), (3, vI x3_50), (4, vI x4_51)]) hx hb dL_areMeasures_148 hl (k := 2) rfl (z_inc _ _) (by decide) rfl (fun ls hl => ?_)
          refine lv_goto (tgt := 19) hx hb dL_areMeasures_151 (by decide) ?_
          exact ih ((x2 + 1)) H locs ls h hP hD hS (lv_sub hl [1, 2, 0] rfl)
        · have h := it_n b_64 h
          refine lv_iconst (v := Int32.ofInt 0) hx hb dL_areMeasures_146 rfl ?_
          obtain rfl := Option.some.inj h
          exact z_zret hx hb hr hlk (by decide) (fun _ _ => 0) hP hD hS dL_areMeasures_147

set_option maxHeartbeats 4000000 in
set_option maxRecDepth 100000 in
theorem c_Lw_areMeasures (l : Launch) (D : va_G) (cI cZ cT : ClassId) (h_R : Nat) (h_T : Nat) (hc_R : Nat) (hp_R : Nat) (h_K : Nat) (hx_R : Nat) (hh_R : Nat) (hs_R : Nat) (q_T : Nat → Nat) (q_K : Nat → Nat) (c_hasSnapshot : Int) (T : TV) (K : KV) (sz : Nat) (res : Int) (h : f_Lw_areMeasures T K = some res) : zMz l yL_areMeasures cL_areMeasures 7 rm_Lw_areMeasures D (zt cI cZ cT) [.ref h_R] ((zRt h_R h_T hc_R hp_R h_K hx_R hh_R hs_R c_hasSnapshot) ++ (zTr cI h_T q_T T) ++ (zWk cI h_K q_K K)) sz (res) (fun u => (zRt h_R h_T hc_R hp_R h_K hx_R hh_R hs_R c_hasSnapshot) ++ (zTr cI h_T q_T T) ++ (zWk cI h_K q_K K)) 0 0 := by
  refine z_enth (Qc := zQi D (res) (fun u => (zRt h_R h_T hc_R hp_R h_K hx_R hh_R hs_R c_hasSnapshot) ++ (zTr cI h_T q_T T) ++ (zWk cI h_K q_K K))) (by decide) (Nat.le_of_ble_eq_true rfl) (fun p e s m args below meth c A ls H locs hF hP hD hS hl => ?_)
  have hx := hF.1.1
  have hb := hF.1.2.1
  have hml := hF.1.2.2.1
  have hown : s.vm.findClass "RectangleTreeLaw" = some m.cls := hF.1.2.2.2.1
  have hts := hF.1.2.2.2.2
  have hr := hF.2.1
  have hlk := hF.2.2.1
  have hK := hF.2.2.2.2.1
  have hN := hF.2.2.2.2.2.1
  have hA := hF.2.2.2.2.2.2
  unfold f_Lw_areMeasures at h
  refine w_Lw_areMeasures_L0 D cI cZ cT (h_R) (h_T) (hc_R) (hp_R) (h_K) (hx_R) (hh_R) (hs_R) (q_T) (q_K) (c_hasSnapshot) (T) (K) _ _ hF (fun x1_9 H locs ls h hP hD hS hl => ?_) _ (0) _ _ _ h hP hD hS (lv_sub hl [0] rfl)
  refine lv_iconst (v := Int32.ofInt 0) hx hb dL_areMeasures_17 rfl ?_
  refine lv_istore_n (lv' := [(2, vI 0), (0, .ref h_R), (1, vI x1_9)]) hx hb dL_areMeasures_18 rfl hl (by decide) rfl (fun ls hl => ?_)
  refine w_Lw_areMeasures_L19 D cI cZ cT (h_R) (h_T) (hc_R) (hp_R) (h_K) (hx_R) (hh_R) (hs_R) (q_T) (q_K) (c_hasSnapshot) (T) (K) (x1_9) _ _ hF (fun x2_65 H locs ls h hP hD hS hl => ?_) _ (0) _ _ _ h hP hD hS (lv_sub hl [1, 2, 0] rfl)
  refine lv_aload_n hx hb dL_areMeasures_154 rfl (lv_at hl 0 rfl) ?_
  refine lv_iconst (v := Int32.ofInt (-1)) hx hb dL_areMeasures_155 rfl ?_
  obtain ⟨r_66, e_67, h⟩ := bd1_e h
  refine z_goi (ws' := []) (ret := r_66) (wc := (zRt (h_R) (h_T) (hc_R) (hp_R) (h_K) (hx_R) (hh_R) (hs_R) (c_hasSnapshot)) ++ (zTr cI (h_T) (q_T) (T)) ++ (zWk cI (h_K) (q_K) (K))) (wn := fun u_68 => (zRt h_R h_T hc_R hp_R h_K hx_R hh_R hs_R c_hasSnapshot) ++ (zTr cI h_T q_T T) ++ (zWk cI h_K q_K K)) (wr := []) (va_runV (As := [vI (-1)]) (rest := []) hF.1 (c_Rt_area l D cI cZ cT h_R h_T hc_R hp_R h_K hx_R hh_R hs_R q_T q_K c_hasSnapshot T K (-1) H.size (r_66) e_67) (cwV 1 hts (zgV wm378 wm379 wm380 wm32 wm381) rfl rfl rfl (by decide +kernel) ⟨Nat.le_of_ble_eq_true rfl, Nat.le_of_ble_eq_true rfl⟩) ⟨zP.blind, va_recv hK (z_subP (ws' := (zRt (h_R) (h_T) (hc_R) (hp_R) (h_K) (hx_R) (hh_R) (hs_R) (c_hasSnapshot)) ++ (zTr cI (h_T) (q_T) (T)) ++ (zWk cI (h_K) (q_K) (K))) hP [0, 1, 2, 3, 4, 5, 6, 7, 8, 9] rfl) (ci := 6) (q0 := 0) rfl rfl, zP.enter (z_subP (ws' := (zRt (h_R) (h_T) (hc_R) (hp_R) (h_K) (hx_R) (hh_R) (hs_R) (c_hasSnapshot)) ++ (zTr cI (h_T) (q_T) (T)) ++ (zWk cI (h_K) (q_K) (K))) hP [0, 1, 2, 3, 4, 5, 6, 7, 8, 9] rfl) hK (hD.sub [0, 1, 2, 3, 4, 5, 6, 7, 8, 9] (by decide) rfl) hN⟩ rfl rfl hl.1 rfl (lv_room (Nat.le_of_ble_eq_true rfl)) dL_areMeasures_156 ⟨Nat.le_refl _, Nat.le_refl _⟩) hP hD hS hA [0, 1, 2, 3, 4, 5, 6, 7, 8, 9] [] [0, 1, 2, 3, 4, 5, 6, 7, 8, 9] rfl rfl (by decide) (fun _ => rfl) (fun u_68 H locs hP hD hS hz => ?_)
  refine lv_iconst (v := Int32.ofInt (-1)) hx hb dL_areMeasures_159 rfl ?_
  obtain ⟨g_69, h⟩ := gd_e h
  refine z_icmp_ne (tgt := 195) hx hb g_69 (by decide) dL_areMeasures_160 (by decide) (fun b_70 => ?_) (fun b_70 => ?_)
  · have h := it_n b_70 h
    refine lv_iconst (v := Int32.ofInt 0) hx hb dL_areMeasures_195 rfl ?_
    obtain rfl := Option.some.inj h
    exact z_zret hx hb hr hlk (by decide) (fun _ _ => 0) hP hD hS dL_areMeasures_196
  · have h := it_p b_70 h
    refine lv_aload_n hx hb dL_areMeasures_163 rfl (lv_at hl 0 rfl) ?_
    refine lv_aload_n hx hb dL_areMeasures_164 rfl (lv_at hl 0 rfl) ?_
    obtain ⟨r_71, e_72, h⟩ := bd1_e h
    refine z_goi (ws' := []) (ret := r_71) (wc := (zRt (h_R) (h_T) (hc_R) (hp_R) (h_K) (hx_R) (hh_R) (hs_R) (c_hasSnapshot)) ++ (zTr cI (h_T) (q_T) (T))) (wn := fun u_73 => (zRt h_R h_T hc_R hp_R h_K hx_R hh_R hs_R c_hasSnapshot) ++ (zTr cI h_T q_T T) ++ (zWk cI h_K q_K K)) (wr := ([7, 8, 9].filterMap (fun i => ((zRt h_R h_T hc_R hp_R h_K hx_R hh_R hs_R c_hasSnapshot) ++ (zTr cI h_T q_T T) ++ (zWk cI h_K q_K K))[i]?))) (va_runV (As := []) (rest := [.ref h_R]) hF.1 (c_Rt_height l D cI cZ cT h_R h_T hc_R hp_R h_K hx_R hh_R hs_R q_T c_hasSnapshot T H.size (r_71) e_72) (cwV 0 hts (zgV wm304 wm305 wm306 wm32 wm307) rfl rfl rfl (by decide +kernel) ⟨Nat.le_of_ble_eq_true rfl, Nat.le_of_ble_eq_true rfl⟩) ⟨zP.blind, va_recv hK (z_subP (ws' := (zRt (h_R) (h_T) (hc_R) (hp_R) (h_K) (hx_R) (hh_R) (hs_R) (c_hasSnapshot)) ++ (zTr cI (h_T) (q_T) (T))) hP [0, 1, 2, 3, 4, 5, 6] rfl) (ci := 6) (q0 := 0) rfl rfl, zP.enter (z_subP (ws' := (zRt (h_R) (h_T) (hc_R) (hp_R) (h_K) (hx_R) (hh_R) (hs_R) (c_hasSnapshot)) ++ (zTr cI (h_T) (q_T) (T))) hP [0, 1, 2, 3, 4, 5, 6] rfl) hK (hD.sub [0, 1, 2, 3, 4, 5, 6] (by decide) rfl) hN⟩ rfl rfl hl.1 rfl (lv_room (Nat.le_of_ble_eq_true rfl)) dL_areMeasures_165 ⟨Nat.le_refl _, Nat.le_refl _⟩) hP hD hS hA [0, 1, 2, 3, 4, 5, 6] [7, 8, 9] [3, 4, 5, 6, 7, 8, 9, 0, 1, 2] rfl rfl (by decide) (fun _ => rfl) (fun u_73 H locs hP hD hS hz => ?_)
    refine lv_iconst (v := Int32.ofInt 1) hx hb dL_areMeasures_168 rfl ?_
    refine z_iadd hx hb dL_areMeasures_169 ?_
    obtain ⟨r_74, e_75, h⟩ := bd1_e h
    refine z_goi (ws' := []) (ret := r_74) (wc := (zRt (h_R) (h_T) (hc_R) (hp_R) (h_K) (hx_R) (hh_R) (hs_R) (c_hasSnapshot)) ++ (zTr cI (h_T) (q_T) (T)) ++ (zWk cI (h_K) (q_K) (K))) (wn := fun u_76 => (zRt h_R h_T hc_R hp_R h_K hx_R hh_R hs_R c_hasSnapshot) ++ (zTr cI h_T q_T T) ++ (zWk cI h_K q_K K)) (wr := []) (va_runV (As := [vI (r_71 + 1)]) (rest := []) hF.1 (c_Rt_overlap l D cI cZ cT h_R h_T hc_R hp_R h_K hx_R hh_R hs_R q_T q_K c_hasSnapshot T K (r_71 + 1) H.size (r_74) e_75) (cwV 1 hts (zgV wm388 wm389 wm390 wm32 wm391) rfl rfl rfl (by decide +kernel) ⟨Nat.le_of_ble_eq_true rfl, Nat.le_of_ble_eq_true rfl⟩) ⟨zP.blind, va_recv hK (z_subP (ws' := (zRt (h_R) (h_T) (hc_R) (hp_R) (h_K) (hx_R) (hh_R) (hs_R) (c_hasSnapshot)) ++ (zTr cI (h_T) (q_T) (T)) ++ (zWk cI (h_K) (q_K) (K))) hP [0, 1, 2, 3, 4, 5, 6, 7, 8, 9] rfl) (ci := 6) (q0 := 0) rfl rfl, zP.enter (z_subP (ws' := (zRt (h_R) (h_T) (hc_R) (hp_R) (h_K) (hx_R) (hh_R) (hs_R) (c_hasSnapshot)) ++ (zTr cI (h_T) (q_T) (T)) ++ (zWk cI (h_K) (q_K) (K))) hP [0, 1, 2, 3, 4, 5, 6, 7, 8, 9] rfl) hK (hD.sub [0, 1, 2, 3, 4, 5, 6, 7, 8, 9] (by decide) rfl) hN⟩ rfl rfl hl.1 rfl (lv_room (Nat.le_of_ble_eq_true rfl)) dL_areMeasures_170 ⟨Nat.le_refl _, Nat.le_refl _⟩) hP hD hS hA [0, 1, 2, 3, 4, 5, 6, 7, 8, 9] [] [0, 1, 2, 3, 4, 5, 6, 7, 8, 9] rfl rfl (by decide) (fun _ => rfl) (fun u_76 H locs hP hD hS hz => ?_)
    refine lv_iconst (v := Int32.ofInt (-1)) hx hb dL_areMeasures_173 rfl ?_
    obtain ⟨g_77, h⟩ := gd_e h
    refine z_icmp_ne (tgt := 195) hx hb g_77 (by decide) dL_areMeasures_174 (by decide) (fun b_78 => ?_) (fun b_78 => ?_)
    · have h := it_n b_78 h
      refine lv_iconst (v := Int32.ofInt 0) hx hb dL_areMeasures_195 rfl ?_
      obtain rfl := Option.some.inj h
      exact z_zret hx hb hr hlk (by decide) (fun _ _ => 0) hP hD hS dL_areMeasures_196
    · have h := it_p b_78 h
      refine lv_aload_n hx hb dL_areMeasures_177 rfl (lv_at hl 0 rfl) ?_
      refine lv_aload_n hx hb dL_areMeasures_178 rfl (lv_at hl 0 rfl) ?_
      obtain ⟨r_79, e_80, h⟩ := bd1_e h
      refine z_goi (ws' := []) (ret := r_79) (wc := (zRt (h_R) (h_T) (hc_R) (hp_R) (h_K) (hx_R) (hh_R) (hs_R) (c_hasSnapshot)) ++ (zTr cI (h_T) (q_T) (T))) (wn := fun u_81 => (zRt h_R h_T hc_R hp_R h_K hx_R hh_R hs_R c_hasSnapshot) ++ (zTr cI h_T q_T T) ++ (zWk cI h_K q_K K)) (wr := ([7, 8, 9].filterMap (fun i => ((zRt h_R h_T hc_R hp_R h_K hx_R hh_R hs_R c_hasSnapshot) ++ (zTr cI h_T q_T T) ++ (zWk cI h_K q_K K))[i]?))) (va_runV (As := []) (rest := [.ref h_R]) hF.1 (c_Rt_height l D cI cZ cT h_R h_T hc_R hp_R h_K hx_R hh_R hs_R q_T c_hasSnapshot T H.size (r_79) e_80) (cwV 0 hts (zgV wm304 wm305 wm306 wm32 wm307) rfl rfl rfl (by decide +kernel) ⟨Nat.le_of_ble_eq_true rfl, Nat.le_of_ble_eq_true rfl⟩) ⟨zP.blind, va_recv hK (z_subP (ws' := (zRt (h_R) (h_T) (hc_R) (hp_R) (h_K) (hx_R) (hh_R) (hs_R) (c_hasSnapshot)) ++ (zTr cI (h_T) (q_T) (T))) hP [0, 1, 2, 3, 4, 5, 6] rfl) (ci := 6) (q0 := 0) rfl rfl, zP.enter (z_subP (ws' := (zRt (h_R) (h_T) (hc_R) (hp_R) (h_K) (hx_R) (hh_R) (hs_R) (c_hasSnapshot)) ++ (zTr cI (h_T) (q_T) (T))) hP [0, 1, 2, 3, 4, 5, 6] rfl) hK (hD.sub [0, 1, 2, 3, 4, 5, 6] (by decide) rfl) hN⟩ rfl rfl hl.1 rfl (lv_room (Nat.le_of_ble_eq_true rfl)) dL_areMeasures_179 ⟨Nat.le_refl _, Nat.le_refl _⟩) hP hD hS hA [0, 1, 2, 3, 4, 5, 6] [7, 8, 9] [3, 4, 5, 6, 7, 8, 9, 0, 1, 2] rfl rfl (by decide) (fun _ => rfl) (fun u_81 H locs hP hD hS hz => ?_)
      refine lv_iconst (v := Int32.ofInt 1) hx hb dL_areMeasures_182 rfl ?_
      refine z_iadd hx hb dL_areMeasures_183 ?_
      obtain ⟨r_82, e_83, h⟩ := bd1_e h
      refine z_goi (ws' := []) (ret := r_82) (wc := (zRt (h_R) (h_T) (hc_R) (hp_R) (h_K) (hx_R) (hh_R) (hs_R) (c_hasSnapshot)) ++ (zTr cI (h_T) (q_T) (T)) ++ (zWk cI (h_K) (q_K) (K))) (wn := fun u_84 => (zRt h_R h_T hc_R hp_R h_K hx_R hh_R hs_R c_hasSnapshot) ++ (zTr cI h_T q_T T) ++ (zWk cI h_K q_K K)) (wr := []) (va_runV (As := [vI (r_79 + 1)]) (rest := []) hF.1 (c_Rt_area l D cI cZ cT h_R h_T hc_R hp_R h_K hx_R hh_R hs_R q_T q_K c_hasSnapshot T K (r_79 + 1) H.size (r_82) e_83) (cwV 1 hts (zgV wm378 wm379 wm380 wm32 wm381) rfl rfl rfl (by decide +kernel) ⟨Nat.le_of_ble_eq_true rfl, Nat.le_of_ble_eq_true rfl⟩) ⟨zP.blind, va_recv hK (z_subP (ws' := (zRt (h_R) (h_T) (hc_R) (hp_R) (h_K) (hx_R) (hh_R) (hs_R) (c_hasSnapshot)) ++ (zTr cI (h_T) (q_T) (T)) ++ (zWk cI (h_K) (q_K) (K))) hP [0, 1, 2, 3, 4, 5, 6, 7, 8, 9] rfl) (ci := 6) (q0 := 0) rfl rfl, zP.enter (z_subP (ws' := (zRt (h_R) (h_T) (hc_R) (hp_R) (h_K) (hx_R) (hh_R) (hs_R) (c_hasSnapshot)) ++ (zTr cI (h_T) (q_T) (T)) ++ (zWk cI (h_K) (q_K) (K))) hP [0, 1, 2, 3, 4, 5, 6, 7, 8, 9] rfl) hK (hD.sub [0, 1, 2, 3, 4, 5, 6, 7, 8, 9] (by decide) rfl) hN⟩ rfl rfl hl.1 rfl (lv_room (Nat.le_of_ble_eq_true rfl)) dL_areMeasures_184 ⟨Nat.le_refl _, Nat.le_refl _⟩) hP hD hS hA [0, 1, 2, 3, 4, 5, 6, 7, 8, 9] [] [0, 1, 2, 3, 4, 5, 6, 7, 8, 9] rfl rfl (by decide) (fun _ => rfl) (fun u_84 H locs hP hD hS hz => ?_)
      refine lv_iconst (v := Int32.ofInt (-1)) hx hb dL_areMeasures_187 rfl ?_
      obtain ⟨g_85, h⟩ := gd_e h
      refine z_icmp_ne (tgt := 195) hx hb g_85 (by decide) dL_areMeasures_188 (by decide) (fun b_86 => ?_) (fun b_86 => ?_)
      · have h := it_n b_86 h
        refine lv_iconst (v := Int32.ofInt 0) hx hb dL_areMeasures_195 rfl ?_
        obtain rfl := Option.some.inj h
        exact z_zret hx hb hr hlk (by decide) (fun _ _ => 0) hP hD hS dL_areMeasures_196
      · have h := it_p b_86 h
        refine lv_iconst (v := Int32.ofInt 1) hx hb dL_areMeasures_191 rfl ?_
        refine lv_goto (tgt := 196) hx hb dL_areMeasures_192 (by decide) ?_
        obtain rfl := Option.some.inj h
        exact z_zret hx hb hr hlk (by decide) (fun _ _ => 0) hP hD hS dL_areMeasures_196
