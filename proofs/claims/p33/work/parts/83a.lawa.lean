/-! the law's methods: contracts -/

set_option maxHeartbeats 4000000 in
set_option maxRecDepth 100000 in
theorem c_Lw_corner (l : Launch) (D : va_G) (cI cZ cT : ClassId) (x0 : Int) (x1 : Int) (sz : Nat) (res : Int) (h : f_Lw_corner x0 x1 = some res) : zMi l yL_corner cL_corner 2 rm_Lw_corner D (zt cI cZ cT) [vI x0, vI x1] (([] : va_W)) sz (res) (fun u => ([] : va_W)) 0 0 := by
  refine z_enth (Qc := zQi D (res) (fun u => ([] : va_W))) (by decide) (Nat.le_of_ble_eq_true rfl) (fun p e s m args below meth c A ls H locs hF hP hD hS hl => ?_)
  have hx := hF.1.1
  have hb := hF.1.2.1
  have hml := hF.1.2.2.1
  have hown : s.vm.findClass "RectangleTreeLaw" = some m.cls := hF.1.2.2.2.1
  have hts := hF.1.2.2.2.2
  have hr := hF.2.1
  have hlk := hF.2.2.1
  have hK := hF.2.2.2.2.1
  have hN := hF.2.2.2.2.2.1
  have hA := hF.2.2.2.2.2.2
  unfold f_Lw_corner at h
  refine lv_iload_n hx hb dL_corner_0 rfl (lv_at hl 1 rfl) ?_
  obtain ⟨g_1, h⟩ := gd_e h
  refine z_if_ne (tgt := 11) hx hb g_1 dL_corner_1 (by decide) (fun b_2 => ?_) (fun b_2 => ?_)
  · have h := it_n b_2 h
    refine lv_iload_n hx hb dL_corner_11 rfl (lv_at hl 1 rfl) ?_
    refine lv_iconst (v := Int32.ofInt 1) hx hb dL_corner_12 rfl ?_
    refine z_icmp_ne (tgt := 26) hx hb g_1 (by decide) dL_corner_13 (by decide) (fun b_3 => ?_) (fun b_3 => ?_)
    · have h := it_n b_3 h
      refine lv_iload_n hx hb dL_corner_26 rfl (lv_at hl 1 rfl) ?_
      refine lv_iconst (v := Int32.ofInt 2) hx hb dL_corner_27 rfl ?_
      refine z_icmp_ne (tgt := 42) hx hb g_1 (by decide) dL_corner_28 (by decide) (fun b_4 => ?_) (fun b_4 => ?_)
      · have h := it_n b_4 h
        refine lv_iload_n hx hb dL_corner_42 rfl (lv_at hl 0 rfl) ?_
        refine lv_ldc (v := Int32.ofInt 1000000) hx hb hown (hts _ wm355) dL_corner_43 ?_
        obtain ⟨g_5, h⟩ := gd_e h
        refine z_idivt hx hb g_5 dL_corner_45 ?_
        obtain rfl := Option.some.inj h
        exact z_iret hx hb hr hlk (fun _ _ => 0) hP hD hS dL_corner_46
      · have h := it_p b_4 h
        refine lv_iload_n hx hb dL_corner_31 rfl (lv_at hl 0 rfl) ?_
        refine lv_sipush (v := Int32.ofInt 10000) hx hb dL_corner_32 (by decide +kernel) ?_
        obtain ⟨g_6, h⟩ := gd_e h
        refine z_idivt hx hb g_6 dL_corner_35 ?_
        refine lv_bipush (v := Int32.ofInt 100) hx hb dL_corner_36 (by decide +kernel) ?_
        obtain ⟨g_7, h⟩ := gd_e h
        refine z_iremt hx hb g_7 dL_corner_38 ?_
        refine lv_goto (tgt := 46) hx hb dL_corner_39 (by decide) ?_
        obtain rfl := Option.some.inj h
        exact z_iret hx hb hr hlk (fun _ _ => 0) hP hD hS dL_corner_46
    · have h := it_p b_3 h
      refine lv_iload_n hx hb dL_corner_16 rfl (lv_at hl 0 rfl) ?_
      refine lv_bipush (v := Int32.ofInt 100) hx hb dL_corner_17 (by decide +kernel) ?_
      obtain ⟨g_8, h⟩ := gd_e h
      refine z_idivt hx hb g_8 dL_corner_19 ?_
      refine lv_bipush (v := Int32.ofInt 100) hx hb dL_corner_20 (by decide +kernel) ?_
      obtain ⟨g_9, h⟩ := gd_e h
      refine z_iremt hx hb g_9 dL_corner_22 ?_
      refine lv_goto (tgt := 46) hx hb dL_corner_23 (by decide) ?_
      obtain rfl := Option.some.inj h
      exact z_iret hx hb hr hlk (fun _ _ => 0) hP hD hS dL_corner_46
  · have h := it_p b_2 h
    refine lv_iload_n hx hb dL_corner_4 rfl (lv_at hl 0 rfl) ?_
    refine lv_bipush (v := Int32.ofInt 100) hx hb dL_corner_5 (by decide +kernel) ?_
    obtain ⟨g_10, h⟩ := gd_e h
    refine z_iremt hx hb g_10 dL_corner_7 ?_
    refine lv_goto (tgt := 46) hx hb dL_corner_8 (by decide) ?_
    obtain rfl := Option.some.inj h
    exact z_iret hx hb hr hlk (fun _ _ => 0) hP hD hS dL_corner_46

set_option maxHeartbeats 4000000 in
set_option maxRecDepth 100000 in
theorem w_Lw_many_L4 {p : Program} {l : Launch} {e : Env} {s : State} {m : MethodId} {args : Array Value} {below : List Frame} {meth : Method} {c : Code} {A : Nat → Prop} (D : va_G) (cI cZ cT : ClassId) (h_A0 : Nat) (n_A0 : Nat) (fA0 : Nat → Int) (res : Int) (k : Int → Int → Option (Int)) (hF : zF p m c cL_many 3 s args yL_many.cls meth (some .int) yL_many.name A D (zt cI cZ cT))
    (hk : ∀ (x1 : Int) (x2 : Int) (H : Heap) (locs : List Loc) (ls : Array Slot), k x1 x2 = some res → va_P D vwCl ((zAr cI h_A0 n_A0 fA0)) H → va_D A ((zAr cI h_A0 n_A0 fA0)) → va_S A s.heap H locs → lv_has ls 3 [(1, vI x1)] → W p l e rm_Lw_many s m args below meth c H locs 0 0 (MQ below (zQi D (res) (fun u => (zAr cI h_A0 n_A0 fA0)) A) args s 0 0 A) (F0 m 30 ls [])) :
    ∀ (n : Nat) (x1 : Int) (x2 : Int) (H : Heap) (locs : List Loc) (ls : Array Slot), f_Lw_many_L4 n_A0 fA0 k n x1 x2 = some res → va_P D vwCl ((zAr cI h_A0 n_A0 fA0)) H → va_D A ((zAr cI h_A0 n_A0 fA0)) → va_S A s.heap H locs → lv_has ls 3 [(0, .ref h_A0), (1, vI x1), (2, vI x2)] → W p l e rm_Lw_many s m args below meth c H locs 0 0 (MQ below (zQi D (res) (fun u => (zAr cI h_A0 n_A0 fA0)) A) args s 0 0 A) (F0 m 4 ls []) := by
  have hx := hF.1.1
  have hb := hF.1.2.1
  have hml := hF.1.2.2.1
  have hown : s.vm.findClass "RectangleTreeLaw" = some m.cls := hF.1.2.2.2.1
  have hts := hF.1.2.2.2.2
  have hr := hF.2.1
  have hlk := hF.2.2.1
  have hK := hF.2.2.2.2.1
  have hN := hF.2.2.2.2.2.1
  have hA := hF.2.2.2.2.2.2
  intro n
  induction n with
  | zero => intro x1 x2  H locs ls h; cases h
  | succ n ih =>
    intro x1 x2  H locs ls h  hP hD hS hl
    rw [f_Lw_many_L4] at h
    refine lv_iload_n hx hb dL_many_4 rfl (lv_at hl 2 rfl) ?_
    refine lv_bipush (v := Int32.ofInt 24) hx hb dL_many_5 (by decide +kernel) ?_
    obtain ⟨g_1, h⟩ := gd_e h
    refine z_icmp_ge (tgt := 30) hx hb g_1 (by decide) dL_many_7 (by decide) (fun b_2 => ?_) (fun b_2 => ?_)
    · have h := it_n b_2 h
      exact hk (x1) (x2) H locs ls h hP hD hS (lv_sub hl [1] rfl)
    · have h := it_p b_2 h
      refine lv_iload_n hx hb dL_many_10 rfl (lv_at hl 1 rfl) ?_
      refine lv_aload_n hx hb dL_many_11 rfl (lv_at hl 0 rfl) ?_
      refine lv_iload_n hx hb dL_many_12 rfl (lv_at hl 2 rfl) ?_
      obtain ⟨g_3, h⟩ := gd_e h
      refine z_iald (n := n_A0) (f := fA0) (i := x2) hx hb hK hP 0 rfl rfl g_3 g_1.2 dL_many_13 ?_
      obtain ⟨g_4, h⟩ := gd_e h
      refine z_if_ge (tgt := 21) hx hb g_4 dL_many_14 (by decide) (fun b_5 => ?_) (fun b_5 => ?_)
      · have h := it_n b_5 h
        refine lv_iconst (v := Int32.ofInt 1) hx hb dL_many_21 rfl ?_
        refine z_iadd hx hb dL_many_22 ?_
        refine lv_istore_n (lv' := [(1, vI (x1 + 1)), (0, .ref h_A0), (2, vI x2)]) hx hb dL_many_23 rfl hl (by decide) rfl (fun ls hl => ?_)
        refine lv_iinc (v := Int32.ofInt (x2 + 1)) (lv' := [(2, vI (x2 + 1)), (1, vI (x1 + 1)), (0, .ref h_A0)]) hx hb dL_many_24 hl (k := 2) rfl (z_inc _ _) (by decide) rfl (fun ls hl => ?_)
        refine lv_goto (tgt := 4) hx hb dL_many_27 (by decide) ?_
        exact ih ((x1 + 1)) ((x2 + 1)) H locs ls h hP hD hS (lv_sub hl [2, 1, 0] rfl)
      · have h := it_p b_5 h
        refine lv_iconst (v := Int32.ofInt 0) hx hb dL_many_17 rfl ?_
        refine lv_goto (tgt := 22) hx hb dL_many_18 (by decide) ?_
        refine z_iadd hx hb dL_many_22 ?_
        refine lv_istore_n (lv' := [(1, vI (x1 + 0)), (0, .ref h_A0), (2, vI x2)]) hx hb dL_many_23 rfl hl (by decide) rfl (fun ls hl => ?_)
        refine lv_iinc (v := Int32.ofInt (x2 + 1)) (lv' := [(2, vI (x2 + 1)), (1, vI (x1 + 0)), (0, .ref h_A0)]) hx hb dL_many_24 hl (k := 2) rfl (z_inc _ _) (by decide) rfl (fun ls hl => ?_)
        refine lv_goto (tgt := 4) hx hb dL_many_27 (by decide) ?_
        exact ih ((x1 + 0)) ((x2 + 1)) H locs ls h hP hD hS (lv_sub hl [2, 1, 0] rfl)

set_option maxHeartbeats 4000000 in
set_option maxRecDepth 100000 in
theorem c_Lw_many (l : Launch) (D : va_G) (cI cZ cT : ClassId) (h_A0 : Nat) (n_A0 : Nat) (fA0 : Nat → Int) (sz : Nat) (res : Int) (h : f_Lw_many n_A0 fA0 = some res) : zMi l yL_many cL_many 3 rm_Lw_many D (zt cI cZ cT) [.ref h_A0] ((zAr cI h_A0 n_A0 fA0)) sz (res) (fun u => (zAr cI h_A0 n_A0 fA0)) 0 0 := by
  refine z_enth (Qc := zQi D (res) (fun u => (zAr cI h_A0 n_A0 fA0))) (by decide) (Nat.le_of_ble_eq_true rfl) (fun p e s m args below meth c A ls H locs hF hP hD hS hl => ?_)
  have hx := hF.1.1
  have hb := hF.1.2.1
  have hml := hF.1.2.2.1
  have hown : s.vm.findClass "RectangleTreeLaw" = some m.cls := hF.1.2.2.2.1
  have hts := hF.1.2.2.2.2
  have hr := hF.2.1
  have hlk := hF.2.2.1
  have hK := hF.2.2.2.2.1
  have hN := hF.2.2.2.2.2.1
  have hA := hF.2.2.2.2.2.2
  unfold f_Lw_many at h
  refine lv_iconst (v := Int32.ofInt 0) hx hb dL_many_0 rfl ?_
  refine lv_istore_n (lv' := [(1, vI 0), (0, .ref h_A0)]) hx hb dL_many_1 rfl hl (by decide) rfl (fun ls hl => ?_)
  refine lv_iconst (v := Int32.ofInt 0) hx hb dL_many_2 rfl ?_
  refine lv_istore_n (lv' := [(2, vI 0), (1, vI 0), (0, .ref h_A0)]) hx hb dL_many_3 rfl hl (by decide) rfl (fun ls hl => ?_)
  refine w_Lw_many_L4 D cI cZ cT (h_A0) (n_A0) (fA0) _ _ hF (fun x1_6 x2_7 H locs ls h hP hD hS hl => ?_) _ (0) (0) _ _ _ h hP hD hS (lv_sub hl [2, 1, 0] rfl)
  refine lv_iload_n hx hb dL_many_30 rfl (lv_at hl 0 rfl) ?_
  obtain rfl := Option.some.inj h
  exact z_iret hx hb hr hlk (fun _ _ => 0) hP hD hS dL_many_31

set_option maxHeartbeats 4000000 in
set_option maxRecDepth 100000 in
theorem w_Lw_behind_L5 {p : Program} {l : Launch} {e : Env} {s : State} {m : MethodId} {args : Array Value} {below : List Frame} {meth : Method} {c : Code} {A : Nat → Prop} (D : va_G) (cI cZ cT : ClassId) (h_R : Nat) (h_T : Nat) (hc_R : Nat) (hp_R : Nat) (h_K : Nat) (hx_R : Nat) (hh_R : Nat) (hs_R : Nat) (q_T : Nat → Nat) (q_K : Nat → Nat) (c_hasSnapshot : Int) (T : TV) (K : KV) (x2 : Int) (x3 : Int) (res : Int) (k : Int → Option (Int)) (hF : zF p m c cL_behind 5 s args yL_behind.cls meth (some .int) yL_behind.name A D (zt cI cZ cT))
    (hk : ∀ (x4 : Int) (H : Heap) (locs : List Loc) (ls : Array Slot), k x4 = some res → va_P D vwCl ((zRt h_R h_T hc_R hp_R h_K hx_R hh_R hs_R c_hasSnapshot) ++ (zTr cI h_T q_T T) ++ (zWk cI h_K q_K K)) H → va_D A ((zRt h_R h_T hc_R hp_R h_K hx_R hh_R hs_R c_hasSnapshot) ++ (zTr cI h_T q_T T) ++ (zWk cI h_K q_K K)) → va_S A s.heap H locs → lv_has ls 5 [(4, vI x4)] → W p l e rm_Lw_behind s m args below meth c H locs 0 0 (MQ below (zQi D (res) (fun u => (zRt h_R h_T hc_R hp_R h_K hx_R hh_R hs_R c_hasSnapshot) ++ (zTr cI h_T q_T T) ++ (zWk cI h_K q_K K)) A) args s 0 0 A) (F0 m 27 ls [])) :
    ∀ (n : Nat) (x4 : Int) (H : Heap) (locs : List Loc) (ls : Array Slot), f_Lw_behind_L5 T K x2 x3 k n x4 = some res → va_P D vwCl ((zRt h_R h_T hc_R hp_R h_K hx_R hh_R hs_R c_hasSnapshot) ++ (zTr cI h_T q_T T) ++ (zWk cI h_K q_K K)) H → va_D A ((zRt h_R h_T hc_R hp_R h_K hx_R hh_R hs_R c_hasSnapshot) ++ (zTr cI h_T q_T T) ++ (zWk cI h_K q_K K)) → va_S A s.heap H locs → lv_has ls 5 [(0, .ref h_R), (2, vI x2), (3, vI x3), (4, vI x4)] → W p l e rm_Lw_behind s m args below meth c H locs 0 0 (MQ below (zQi D (res) (fun u => (zRt h_R h_T hc_R hp_R h_K hx_R hh_R hs_R c_hasSnapshot) ++ (zTr cI h_T q_T T) ++ (zWk cI h_K q_K K)) A) args s 0 0 A) (F0 m 5 ls []) := by
  have hx := hF.1.1
  have hb := hF.1.2.1
  have hml := hF.1.2.2.1
  have hown : s.vm.findClass "RectangleTreeLaw" = some m.cls := hF.1.2.2.2.1
  have hts := hF.1.2.2.2.2
  have hr := hF.2.1
  have hlk := hF.2.2.1
  have hK := hF.2.2.2.2.1
  have hN := hF.2.2.2.2.2.1
  have hA := hF.2.2.2.2.2.2
  intro n
  induction n with
  | zero => intro x4  H locs ls h; cases h
  | succ n ih =>
    intro x4  H locs ls h  hP hD hS hl
    rw [f_Lw_behind_L5] at h
    refine lv_iload hx hb dL_behind_5 (lv_at hl 3 rfl) ?_
    refine lv_iload_n hx hb dL_behind_7 rfl (lv_at hl 2 rfl) ?_
    obtain ⟨g_1, h⟩ := gd_e h
    obtain ⟨g_2, h⟩ := gd_e h
    refine z_icmp_ge (tgt := 27) hx hb g_1 g_2 dL_behind_8 (by decide) (fun b_3 => ?_) (fun b_3 => ?_)
    · have h := it_n b_3 h
      exact hk (x4) H locs ls h hP hD hS (lv_sub hl [3] rfl)
    · have h := it_p b_3 h
      refine lv_aload_n hx hb dL_behind_11 rfl (lv_at hl 0 rfl) ?_
      refine lv_iload hx hb dL_behind_12 (lv_at hl 3 rfl) ?_
      obtain ⟨r_4, e_5, h⟩ := bd1_e h
      refine z_goi (ws' := []) (ret := r_4) (wc := (zRt (h_R) (h_T) (hc_R) (hp_R) (h_K) (hx_R) (hh_R) (hs_R) (c_hasSnapshot)) ++ (zTr cI (h_T) (q_T) (T)) ++ (zWk cI (h_K) (q_K) (K))) (wn := fun u_6 => (zRt h_R h_T hc_R hp_R h_K hx_R hh_R hs_R c_hasSnapshot) ++ (zTr cI h_T q_T T) ++ (zWk cI h_K q_K K)) (wr := []) (va_runV (As := [vI x4]) (rest := []) hF.1 (c_Rt_level l D cI cZ cT h_R h_T hc_R hp_R h_K hx_R hh_R hs_R q_T q_K c_hasSnapshot T K x4 H.size (r_4) e_5) (cwV 1 hts (zgV wm287 wm288 wm289 wm32 wm290) rfl rfl rfl (by decide +kernel) ⟨Nat.le_of_ble_eq_true rfl, Nat.le_of_ble_eq_true rfl⟩) ⟨zP.blind, va_recv hK (z_subP (ws' := (zRt (h_R) (h_T) (hc_R) (hp_R) (h_K) (hx_R) (hh_R) (hs_R) (c_hasSnapshot)) ++ (zTr cI (h_T) (q_T) (T)) ++ (zWk cI (h_K) (q_K) (K))) hP [0, 1, 2, 3, 4, 5, 6, 7, 8, 9] rfl) (ci := 6) (q0 := 0) rfl rfl, zP.enter (z_subP (ws' := (zRt (h_R) (h_T) (hc_R) (hp_R) (h_K) (hx_R) (hh_R) (hs_R) (c_hasSnapshot)) ++ (zTr cI (h_T) (q_T) (T)) ++ (zWk cI (h_K) (q_K) (K))) hP [0, 1, 2, 3, 4, 5, 6, 7, 8, 9] rfl) hK (hD.sub [0, 1, 2, 3, 4, 5, 6, 7, 8, 9] (by decide) rfl) hN⟩ rfl rfl hl.1 rfl (lv_room (Nat.le_of_ble_eq_true rfl)) dL_behind_14 ⟨Nat.le_refl _, Nat.le_refl _⟩) hP hD hS hA [0, 1, 2, 3, 4, 5, 6, 7, 8, 9] [] [0, 1, 2, 3, 4, 5, 6, 7, 8, 9] rfl rfl (by decide) (fun _ => rfl) (fun u_6 H locs hP hD hS hz => ?_)
      refine lv_iload_n hx hb dL_behind_17 rfl (lv_at hl 1 rfl) ?_
      obtain ⟨g_7, h⟩ := gd_e h
      obtain ⟨g_8, h⟩ := gd_e h
      refine z_icmp_ge (tgt := 27) hx hb g_7 g_8 dL_behind_18 (by decide) (fun b_9 => ?_) (fun b_9 => ?_)
      · have h := it_n b_9 h
        exact hk (x4) H locs ls h hP hD hS (lv_sub hl [3] rfl)
      · have h := it_p b_9 h
        refine lv_iinc (v := Int32.ofInt (x4 + 1)) (lv' := [(4, vI (x4 + 1)), (0, .ref h_R), (2, vI x2), (3, vI x3)]) hx hb dL_behind_21 hl (k := 3) rfl (z_inc _ _) (by decide) rfl (fun ls hl => ?_)
        refine lv_goto (tgt := 5) hx hb dL_behind_24 (by decide) ?_
        exact ih ((x4 + 1)) H locs ls h hP hD hS (lv_sub hl [1, 2, 3, 0] rfl)

set_option maxHeartbeats 4000000 in
set_option maxRecDepth 100000 in
theorem c_Lw_behind (l : Launch) (D : va_G) (cI cZ cT : ClassId) (h_R : Nat) (h_T : Nat) (hc_R : Nat) (hp_R : Nat) (h_K : Nat) (hx_R : Nat) (hh_R : Nat) (hs_R : Nat) (q_T : Nat → Nat) (q_K : Nat → Nat) (c_hasSnapshot : Int) (T : TV) (K : KV) (x1 : Int) (x2 : Int) (x3 : Int) (sz : Nat) (res : Int) (h : f_Lw_behind T K x1 x2 x3 = some res) : zMi l yL_behind cL_behind 5 rm_Lw_behind D (zt cI cZ cT) [.ref h_R, vI x1, vI x2, vI x3] ((zRt h_R h_T hc_R hp_R h_K hx_R hh_R hs_R c_hasSnapshot) ++ (zTr cI h_T q_T T) ++ (zWk cI h_K q_K K)) sz (res) (fun u => (zRt h_R h_T hc_R hp_R h_K hx_R hh_R hs_R c_hasSnapshot) ++ (zTr cI h_T q_T T) ++ (zWk cI h_K q_K K)) 0 0 := by
  refine z_enth (Qc := zQi D (res) (fun u => (zRt h_R h_T hc_R hp_R h_K hx_R hh_R hs_R c_hasSnapshot) ++ (zTr cI h_T q_T T) ++ (zWk cI h_K q_K K))) (by decide) (Nat.le_of_ble_eq_true rfl) (fun p e s m args below meth c A ls H locs hF hP hD hS hl => ?_)
  have hx := hF.1.1
  have hb := hF.1.2.1
  have hml := hF.1.2.2.1
  have hown : s.vm.findClass "RectangleTreeLaw" = some m.cls := hF.1.2.2.2.1
  have hts := hF.1.2.2.2.2
  have hr := hF.2.1
  have hlk := hF.2.2.1
  have hK := hF.2.2.2.2.1
  have hN := hF.2.2.2.2.2.1
  have hA := hF.2.2.2.2.2.2
  unfold f_Lw_behind at h
  refine lv_iload_n hx hb dL_behind_0 rfl (lv_at hl 1 rfl) ?_
  refine lv_iconst (v := Int32.ofInt 1) hx hb dL_behind_1 rfl ?_
  refine z_iadd hx hb dL_behind_2 ?_
  refine lv_istore (lv' := [(4, vI (x1 + 1)), (0, .ref h_R), (1, vI x1), (2, vI x2), (3, vI x3)]) hx hb dL_behind_3 hl (by decide) rfl (fun ls hl => ?_)
  refine w_Lw_behind_L5 D cI cZ cT (h_R) (h_T) (hc_R) (hp_R) (h_K) (hx_R) (hh_R) (hs_R) (q_T) (q_K) (c_hasSnapshot) (T) (K) (x2) (x3) _ _ hF (fun x4_10 H locs ls h hP hD hS hl => ?_) _ ((x1 + 1)) _ _ _ h hP hD hS (lv_sub hl [1, 3, 4, 0] rfl)
  refine lv_iload hx hb dL_behind_27 (lv_at hl 0 rfl) ?_
  obtain rfl := Option.some.inj h
  exact z_iret hx hb hr hlk (fun _ _ => 0) hP hD hS dL_behind_29

set_option maxHeartbeats 4000000 in
set_option maxRecDepth 100000 in
theorem c_Lw_corners (l : Launch) (D : va_G) (cI cZ cT : ClassId) (x0 : Int) (sz : Nat) (res : Int) (h : f_Lw_corners x0 = some res) : zMi l yL_corners cL_corners 3 rm_Lw_corners D (zt cI cZ cT) [vI x0] (([] : va_W)) sz (res) (fun u => ([] : va_W)) 0 0 := by
  refine z_enth (Qc := zQi D (res) (fun u => ([] : va_W))) (by decide) (Nat.le_of_ble_eq_true rfl) (fun p e s m args below meth c A ls H locs hF hP hD hS hl => ?_)
  have hx := hF.1.1
  have hb := hF.1.2.1
  have hml := hF.1.2.2.1
  have hown : s.vm.findClass "RectangleTreeLaw" = some m.cls := hF.1.2.2.2.1
  have hts := hF.1.2.2.2.2
  have hr := hF.2.1
  have hlk := hF.2.2.1
  have hK := hF.2.2.2.2.1
  have hN := hF.2.2.2.2.2.1
  have hA := hF.2.2.2.2.2.2
  unfold f_Lw_corners at h
  refine lv_iload_n hx hb dL_corners_0 rfl (lv_at hl 0 rfl) ?_
  refine lv_bipush (v := Int32.ofInt 88) hx hb dL_corners_1 (by decide +kernel) ?_
  obtain ⟨g_1, h⟩ := gd_e h
  refine z_iremt hx hb g_1 dL_corners_3 ?_
  refine lv_istore_n (lv' := [(1, vI (Int.tmod x0 88)), (0, vI x0)]) hx hb dL_corners_4 rfl hl (by decide) rfl (fun ls hl => ?_)
  refine lv_iload_n hx hb dL_corners_5 rfl (lv_at hl 1 rfl) ?_
  refine lv_bipush (v := Int32.ofInt 88) hx hb dL_corners_6 (by decide +kernel) ?_
  obtain ⟨g_2, h⟩ := gd_e h
  refine z_idivt hx hb g_2 dL_corners_8 ?_
  refine lv_bipush (v := Int32.ofInt 88) hx hb dL_corners_9 (by decide +kernel) ?_
  obtain ⟨g_3, h⟩ := gd_e h
  refine z_iremt hx hb g_3 dL_corners_11 ?_
  refine lv_istore_n (lv' := [(2, vI (Int.tmod (Int.tdiv x0 88) 88)), (1, vI (Int.tmod x0 88)), (0, vI x0)]) hx hb dL_corners_12 rfl hl (by decide) rfl (fun ls hl => ?_)
  refine lv_iload_n hx hb dL_corners_13 rfl (lv_at hl 1 rfl) ?_
  refine lv_bipush (v := Int32.ofInt 100) hx hb dL_corners_14 (by decide +kernel) ?_
  refine lv_iload_n hx hb dL_corners_16 rfl (lv_at hl 0 rfl) ?_
  refine z_imul hx hb dL_corners_17 ?_
  refine z_iadd hx hb dL_corners_18 ?_
  refine lv_sipush (v := Int32.ofInt 10000) hx hb dL_corners_19 (by decide +kernel) ?_
  refine lv_iload_n hx hb dL_corners_22 rfl (lv_at hl 1 rfl) ?_
  refine lv_iload_n hx hb dL_corners_23 rfl (lv_at hl 2 rfl) ?_
  refine lv_sipush (v := Int32.ofInt 7744) hx hb dL_corners_24 (by decide +kernel) ?_
  obtain ⟨g_4, h⟩ := gd_e h
  refine z_idivt hx hb g_4 dL_corners_27 ?_
  refine lv_bipush (v := Int32.ofInt 12) hx hb dL_corners_28 (by decide +kernel) ?_
  obtain ⟨g_5, h⟩ := gd_e h
  refine z_iremt hx hb g_5 dL_corners_30 ?_
  refine z_iadd hx hb dL_corners_31 ?_
  refine z_imul hx hb dL_corners_32 ?_
  refine z_iadd hx hb dL_corners_33 ?_
  refine lv_ldc (v := Int32.ofInt 1000000) hx hb hown (hts _ wm355) dL_corners_34 ?_
  refine lv_iload_n hx hb dL_corners_36 rfl (lv_at hl 0 rfl) ?_
  refine lv_iload_n hx hb dL_corners_37 rfl (lv_at hl 2 rfl) ?_
  refine lv_ldc (v := Int32.ofInt 92928) hx hb hown (hts _ wm446) dL_corners_38 ?_
  obtain ⟨g_6, h⟩ := gd_e h
  refine z_idivt hx hb g_6 dL_corners_40 ?_
  refine lv_bipush (v := Int32.ofInt 12) hx hb dL_corners_41 (by decide +kernel) ?_
  obtain ⟨g_7, h⟩ := gd_e h
  refine z_iremt hx hb g_7 dL_corners_43 ?_
  refine z_iadd hx hb dL_corners_44 ?_
  refine z_imul hx hb dL_corners_45 ?_
  refine z_iadd hx hb dL_corners_46 ?_
  obtain rfl := Option.some.inj h
  exact z_iret hx hb hr hlk (fun _ _ => 0) hP hD hS dL_corners_47

set_option maxHeartbeats 4000000 in
set_option maxRecDepth 100000 in
theorem c_Lw_isTyped (l : Launch) (D : va_G) (cI cZ cT : ClassId) (h_R : Nat) (ht_R : Nat) (hc_R : Nat) (hp_R : Nat) (hn_R : Nat) (h_X : Nat) (hh_R : Nat) (hs_R : Nat) (q_X : Nat → Nat) (c_hasSnapshot : Int) (c_characters : Nat → Int) (c_length : Int) (c_parts : Nat → Int) (c_rectangles : Int) (c_part : Int) (c_digits : Int) (c_value : Int) (x1 : Int) (sz : Nat) (res : Int × (Nat → Int) × Int) (h : f_Lw_isTyped c_characters c_length x1 = some res) : zMz l yL_isTyped cL_isTyped 2 rm_Lw_isTyped D (zt cI cZ cT) [.ref h_R, vI x1] ((zRt h_R ht_R hc_R hp_R hn_R h_X hh_R hs_R c_hasSnapshot) ++ (zTx cI h_X q_X c_characters c_length c_parts c_rectangles c_part c_digits c_value)) sz (res.1) (fun u => (zRt h_R ht_R hc_R hp_R hn_R h_X hh_R hs_R c_hasSnapshot) ++ (zTx cI h_X q_X (res.2.1) (res.2.2) c_parts c_rectangles c_part c_digits c_value)) 0 0 := by
  refine z_enth (Qc := zQi D (res.1) (fun u => (zRt h_R ht_R hc_R hp_R hn_R h_X hh_R hs_R c_hasSnapshot) ++ (zTx cI h_X q_X (res.2.1) (res.2.2) c_parts c_rectangles c_part c_digits c_value))) (by decide) (Nat.le_of_ble_eq_true rfl) (fun p e s m args below meth c A ls H locs hF hP hD hS hl => ?_)
  have hx := hF.1.1
  have hb := hF.1.2.1
  have hml := hF.1.2.2.1
  have hown : s.vm.findClass "RectangleTreeLaw" = some m.cls := hF.1.2.2.2.1
  have hts := hF.1.2.2.2.2
  have hr := hF.2.1
  have hlk := hF.2.2.1
  have hK := hF.2.2.2.2.1
  have hN := hF.2.2.2.2.2.1
  have hA := hF.2.2.2.2.2.2
  unfold f_Lw_isTyped at h
  refine lv_iload_n hx hb dL_isTyped_0 rfl (lv_at hl 1 rfl) ?_
  refine lv_bipush (v := Int32.ofInt 10) hx hb dL_isTyped_1 (by decide +kernel) ?_
  obtain ⟨g_1, h⟩ := gd_e h
  refine z_icmp_lt (tgt := 20) hx hb g_1 (by decide) dL_isTyped_3 (by decide) (fun b_2 => ?_) (fun b_2 => ?_)
  · have h := it_p b_2 h
    refine lv_aload_n hx hb dL_isTyped_20 rfl (lv_at hl 0 rfl) ?_
    refine lv_bipush (v := Int32.ofInt 48) hx hb dL_isTyped_21 (by decide +kernel) ?_
    refine lv_iload_n hx hb dL_isTyped_23 rfl (lv_at hl 1 rfl) ?_
    refine lv_bipush (v := Int32.ofInt 10) hx hb dL_isTyped_24 (by decide +kernel) ?_
    obtain ⟨g_3, h⟩ := gd_e h
    refine z_iremt hx hb g_3 dL_isTyped_26 ?_
    refine z_iadd hx hb dL_isTyped_27 ?_
    obtain ⟨r_4, c_characters_5, c_length_6, e_7, h⟩ := bd3_e h
    refine z_goi (ws' := []) (ret := r_4) (wc := (zRt (h_R) (ht_R) (hc_R) (hp_R) (hn_R) (h_X) (hh_R) (hs_R) (c_hasSnapshot)) ++ (zTx cI (h_X) (q_X) (c_characters) (c_length) (c_parts) (c_rectangles) (c_part) (c_digits) (c_value))) (wn := fun u_8 => (zRt h_R ht_R hc_R hp_R hn_R h_X hh_R hs_R c_hasSnapshot) ++ (zTx cI h_X q_X c_characters_5 c_length_6 c_parts c_rectangles c_part c_digits c_value)) (wr := []) (va_runV (As := [vI (48 + (Int.tmod x1 10))]) (rest := []) hF.1 (c_Rt_append l D cI cZ cT h_R ht_R hc_R hp_R hn_R h_X hh_R hs_R q_X c_hasSnapshot c_characters c_length c_parts c_rectangles c_part c_digits c_value (48 + (Int.tmod x1 10)) H.size (r_4, c_characters_5, c_length_6) e_7) (cwV 1 hts (zgV wm714 wm715 wm716 wm32 wm717) rfl rfl rfl (by decide +kernel) ⟨Nat.le_of_ble_eq_true rfl, Nat.le_of_ble_eq_true rfl⟩) ⟨zP.blind, va_recv hK (z_subP (ws' := (zRt (h_R) (ht_R) (hc_R) (hp_R) (hn_R) (h_X) (hh_R) (hs_R) (c_hasSnapshot)) ++ (zTx cI (h_X) (q_X) (c_characters) (c_length) (c_parts) (c_rectangles) (c_part) (c_digits) (c_value))) hP [0, 1, 2, 3] rfl) (ci := 6) (q0 := 0) rfl rfl, zP.enter (z_subP (ws' := (zRt (h_R) (ht_R) (hc_R) (hp_R) (hn_R) (h_X) (hh_R) (hs_R) (c_hasSnapshot)) ++ (zTx cI (h_X) (q_X) (c_characters) (c_length) (c_parts) (c_rectangles) (c_part) (c_digits) (c_value))) hP [0, 1, 2, 3] rfl) hK (hD.sub [0, 1, 2, 3] (by decide) rfl) hN⟩ rfl rfl hl.1 rfl (lv_room (Nat.le_of_ble_eq_true rfl)) dL_isTyped_28 ⟨Nat.le_refl _, Nat.le_refl _⟩) hP hD hS hA [0, 1, 2, 3] [] [0, 1, 2, 3] rfl rfl (by decide) (fun _ => rfl) (fun u_8 H locs hP hD hS hz => ?_)
    obtain ⟨g_9, h⟩ := gd_e h
    refine z_if_le (tgt := 38) hx hb g_9 dL_isTyped_31 (by decide) (fun b_10 => ?_) (fun b_10 => ?_)
    · have h := it_n b_10 h
      refine lv_iconst (v := Int32.ofInt 0) hx hb dL_isTyped_38 rfl ?_
      obtain rfl := Option.some.inj h
      exact z_zret hx hb hr hlk (show narrow .boolean (.int (Int32.ofInt 0)) = .int (Int32.ofInt 0) from by decide) (fun _ _ => 0) hP hD hS dL_isTyped_39
    · have h := it_p b_10 h
      refine lv_iconst (v := Int32.ofInt 1) hx hb dL_isTyped_34 rfl ?_
      refine lv_goto (tgt := 39) hx hb dL_isTyped_35 (by decide) ?_
      obtain rfl := Option.some.inj h
      exact z_zret hx hb hr hlk (show narrow .boolean (.int (Int32.ofInt 1)) = .int (Int32.ofInt 1) from by decide) (fun _ _ => 0) hP hD hS dL_isTyped_39
  · have h := it_n b_2 h
    refine lv_aload_n hx hb dL_isTyped_6 rfl (lv_at hl 0 rfl) ?_
    refine lv_bipush (v := Int32.ofInt 48) hx hb dL_isTyped_7 (by decide +kernel) ?_
    refine lv_iload_n hx hb dL_isTyped_9 rfl (lv_at hl 1 rfl) ?_
    refine lv_bipush (v := Int32.ofInt 10) hx hb dL_isTyped_10 (by decide +kernel) ?_
    obtain ⟨g_11, h⟩ := gd_e h
    refine z_idivt hx hb g_11 dL_isTyped_12 ?_
    refine z_iadd hx hb dL_isTyped_13 ?_
    obtain ⟨r_12, c_characters_13, c_length_14, e_15, h⟩ := bd3_e h
    refine z_goi (ws' := []) (ret := r_12) (wc := (zRt (h_R) (ht_R) (hc_R) (hp_R) (hn_R) (h_X) (hh_R) (hs_R) (c_hasSnapshot)) ++ (zTx cI (h_X) (q_X) (c_characters) (c_length) (c_parts) (c_rectangles) (c_part) (c_digits) (c_value))) (wn := fun u_16 => (zRt h_R ht_R hc_R hp_R hn_R h_X hh_R hs_R c_hasSnapshot) ++ (zTx cI h_X q_X c_characters_13 c_length_14 c_parts c_rectangles c_part c_digits c_value)) (wr := []) (va_runV (As := [vI (48 + (Int.tdiv x1 10))]) (rest := []) hF.1 (c_Rt_append l D cI cZ cT h_R ht_R hc_R hp_R hn_R h_X hh_R hs_R q_X c_hasSnapshot c_characters c_length c_parts c_rectangles c_part c_digits c_value (48 + (Int.tdiv x1 10)) H.size (r_12, c_characters_13, c_length_14) e_15) (cwV 1 hts (zgV wm714 wm715 wm716 wm32 wm717) rfl rfl rfl (by decide +kernel) ⟨Nat.le_of_ble_eq_true rfl, Nat.le_of_ble_eq_true rfl⟩) ⟨zP.blind, va_recv hK (z_subP (ws' := (zRt (h_R) (ht_R) (hc_R) (hp_R) (hn_R) (h_X) (hh_R) (hs_R) (c_hasSnapshot)) ++ (zTx cI (h_X) (q_X) (c_characters) (c_length) (c_parts) (c_rectangles) (c_part) (c_digits) (c_value))) hP [0, 1, 2, 3] rfl) (ci := 6) (q0 := 0) rfl rfl, zP.enter (z_subP (ws' := (zRt (h_R) (ht_R) (hc_R) (hp_R) (hn_R) (h_X) (hh_R) (hs_R) (c_hasSnapshot)) ++ (zTx cI (h_X) (q_X) (c_characters) (c_length) (c_parts) (c_rectangles) (c_part) (c_digits) (c_value))) hP [0, 1, 2, 3] rfl) hK (hD.sub [0, 1, 2, 3] (by decide) rfl) hN⟩ rfl rfl hl.1 rfl (lv_room (Nat.le_of_ble_eq_true rfl)) dL_isTyped_14 ⟨Nat.le_refl _, Nat.le_refl _⟩) hP hD hS hA [0, 1, 2, 3] [] [0, 1, 2, 3] rfl rfl (by decide) (fun _ => rfl) (fun u_16 H locs hP hD hS hz => ?_)
    obtain ⟨g_17, h⟩ := gd_e h
    refine z_if_le (tgt := 38) hx hb g_17 dL_isTyped_17 (by decide) (fun b_18 => ?_) (fun b_18 => ?_)
    · have h := it_n b_18 h
      refine lv_iconst (v := Int32.ofInt 0) hx hb dL_isTyped_38 rfl ?_
      obtain rfl := Option.some.inj h
      exact z_zret hx hb hr hlk (show narrow .boolean (.int (Int32.ofInt 0)) = .int (Int32.ofInt 0) from by decide) (fun _ _ => 0) hP hD hS dL_isTyped_39
    · have h := it_p b_18 h
      refine lv_aload_n hx hb dL_isTyped_20 rfl (lv_at hl 0 rfl) ?_
      refine lv_bipush (v := Int32.ofInt 48) hx hb dL_isTyped_21 (by decide +kernel) ?_
      refine lv_iload_n hx hb dL_isTyped_23 rfl (lv_at hl 1 rfl) ?_
      refine lv_bipush (v := Int32.ofInt 10) hx hb dL_isTyped_24 (by decide +kernel) ?_
      obtain ⟨g_19, h⟩ := gd_e h
      refine z_iremt hx hb g_19 dL_isTyped_26 ?_
      refine z_iadd hx hb dL_isTyped_27 ?_
      obtain ⟨r_20, c_characters_21, c_length_22, e_23, h⟩ := bd3_e h
      refine z_goi (ws' := []) (ret := r_20) (wc := (zRt (h_R) (ht_R) (hc_R) (hp_R) (hn_R) (h_X) (hh_R) (hs_R) (c_hasSnapshot)) ++ (zTx cI (h_X) (q_X) (c_characters_13) (c_length_14) (c_parts) (c_rectangles) (c_part) (c_digits) (c_value))) (wn := fun u_24 => (zRt h_R ht_R hc_R hp_R hn_R h_X hh_R hs_R c_hasSnapshot) ++ (zTx cI h_X q_X c_characters_21 c_length_22 c_parts c_rectangles c_part c_digits c_value)) (wr := []) (va_runV (As := [vI (48 + (Int.tmod x1 10))]) (rest := []) hF.1 (c_Rt_append l D cI cZ cT h_R ht_R hc_R hp_R hn_R h_X hh_R hs_R q_X c_hasSnapshot c_characters_13 c_length_14 c_parts c_rectangles c_part c_digits c_value (48 + (Int.tmod x1 10)) H.size (r_20, c_characters_21, c_length_22) e_23) (cwV 1 hts (zgV wm714 wm715 wm716 wm32 wm717) rfl rfl rfl (by decide +kernel) ⟨Nat.le_of_ble_eq_true rfl, Nat.le_of_ble_eq_true rfl⟩) ⟨zP.blind, va_recv hK (z_subP (ws' := (zRt (h_R) (ht_R) (hc_R) (hp_R) (hn_R) (h_X) (hh_R) (hs_R) (c_hasSnapshot)) ++ (zTx cI (h_X) (q_X) (c_characters_13) (c_length_14) (c_parts) (c_rectangles) (c_part) (c_digits) (c_value))) hP [0, 1, 2, 3] rfl) (ci := 6) (q0 := 0) rfl rfl, zP.enter (z_subP (ws' := (zRt (h_R) (ht_R) (hc_R) (hp_R) (hn_R) (h_X) (hh_R) (hs_R) (c_hasSnapshot)) ++ (zTx cI (h_X) (q_X) (c_characters_13) (c_length_14) (c_parts) (c_rectangles) (c_part) (c_digits) (c_value))) hP [0, 1, 2, 3] rfl) hK (hD.sub [0, 1, 2, 3] (by decide) rfl) hN⟩ rfl rfl hl.1 rfl (lv_room (Nat.le_of_ble_eq_true rfl)) dL_isTyped_28 ⟨Nat.le_refl _, Nat.le_refl _⟩) hP hD hS hA [0, 1, 2, 3] [] [0, 1, 2, 3] rfl rfl (by decide) (fun _ => rfl) (fun u_24 H locs hP hD hS hz => ?_)
      obtain ⟨g_25, h⟩ := gd_e h
      refine z_if_le (tgt := 38) hx hb g_25 dL_isTyped_31 (by decide) (fun b_26 => ?_) (fun b_26 => ?_)
      · have h := it_n b_26 h
        refine lv_iconst (v := Int32.ofInt 0) hx hb dL_isTyped_38 rfl ?_
        obtain rfl := Option.some.inj h
        exact z_zret hx hb hr hlk (show narrow .boolean (.int (Int32.ofInt 0)) = .int (Int32.ofInt 0) from by decide) (fun _ _ => 0) hP hD hS dL_isTyped_39
      · have h := it_p b_26 h
        refine lv_iconst (v := Int32.ofInt 1) hx hb dL_isTyped_34 rfl ?_
        refine lv_goto (tgt := 39) hx hb dL_isTyped_35 (by decide) ?_
        obtain rfl := Option.some.inj h
        exact z_zret hx hb hr hlk (show narrow .boolean (.int (Int32.ofInt 1)) = .int (Int32.ofInt 1) from by decide) (fun _ _ => 0) hP hD hS dL_isTyped_39
theorem mo_Lw_isInserted_L2 (n_A1 : Nat) (T : TV) (K : KV) (S0 : TV) (S1 : TV) (S2 : TV) (S3 : TV) (fA1 : Nat → Int) (res : Int × TV × (Nat → Int) × Int × Int64 × KV × Int × TV × TV × TV × TV × (Nat → Int)) (k : Int → Option (Int × TV × (Nat → Int) × Int × Int64 × KV × Int × TV × TV × TV × TV × (Nat → Int))) (hkm : ∀ (x3 : Int) , k x3 = some res → (tR T) ≤ (tR (res.2.1)) ∧ (kLen K) ≤ (kLen (res.2.2.2.2.2.1)) ∧ ((tR S0) + (tR S1) + (tR S2) + (tR S3)) ≤ ((tR (res.2.2.2.2.2.2.2.1)) + (tR (res.2.2.2.2.2.2.2.2.1)) + (tR (res.2.2.2.2.2.2.2.2.2.1)) + (tR (res.2.2.2.2.2.2.2.2.2.2.1)))) : ∀ (n : Nat) (x3 : Int) , f_Lw_isInserted_L2 n_A1 fA1 k n x3 = some res → (tR T) ≤ (tR (res.2.1)) ∧ (kLen K) ≤ (kLen (res.2.2.2.2.2.1)) ∧ ((tR S0) + (tR S1) + (tR S2) + (tR S3)) ≤ ((tR (res.2.2.2.2.2.2.2.1)) + (tR (res.2.2.2.2.2.2.2.2.1)) + (tR (res.2.2.2.2.2.2.2.2.2.1)) + (tR (res.2.2.2.2.2.2.2.2.2.2.1))) := by
  intro n
  induction n with
  | zero => intro x3 h; cases h
  | succ n ihm =>
    intro x3 h
    rw [f_Lw_isInserted_L2] at h
    obtain ⟨g_1, h⟩ := gd_e h
    rcases it_e h with ⟨_, h⟩ | ⟨_, h⟩
    · obtain ⟨g_3, h⟩ := gd_e h
      obtain ⟨g_4, h⟩ := gd_e h
      rcases it_e h with ⟨_, h⟩ | ⟨_, h⟩
      · have mo9 : (tR T) ≤ (tR (res.2.1)) ∧ (kLen K) ≤ (kLen (res.2.2.2.2.2.1)) ∧ ((tR S0) + (tR S1) + (tR S2) + (tR S3)) ≤ ((tR (res.2.2.2.2.2.2.2.1)) + (tR (res.2.2.2.2.2.2.2.2.1)) + (tR (res.2.2.2.2.2.2.2.2.2.1)) + (tR (res.2.2.2.2.2.2.2.2.2.2.1))) := hkm (x3) h
        exact ⟨(show (tR T) ≤ (tR (res.2.1)) from by omega), (show (kLen K) ≤ (kLen (res.2.2.2.2.2.1)) from by omega), (show ((tR S0) + (tR S1) + (tR S2) + (tR S3)) ≤ ((tR (res.2.2.2.2.2.2.2.1)) + (tR (res.2.2.2.2.2.2.2.2.1)) + (tR (res.2.2.2.2.2.2.2.2.2.1)) + (tR (res.2.2.2.2.2.2.2.2.2.2.1))) from by omega)⟩
      · have mo9 : (tR T) ≤ (tR (res.2.1)) ∧ (kLen K) ≤ (kLen (res.2.2.2.2.2.1)) ∧ ((tR S0) + (tR S1) + (tR S2) + (tR S3)) ≤ ((tR (res.2.2.2.2.2.2.2.1)) + (tR (res.2.2.2.2.2.2.2.2.1)) + (tR (res.2.2.2.2.2.2.2.2.2.1)) + (tR (res.2.2.2.2.2.2.2.2.2.2.1))) := ihm ((x3 + 1)) h
        exact ⟨(show (tR T) ≤ (tR (res.2.1)) from by omega), (show (kLen K) ≤ (kLen (res.2.2.2.2.2.1)) from by omega), (show ((tR S0) + (tR S1) + (tR S2) + (tR S3)) ≤ ((tR (res.2.2.2.2.2.2.2.1)) + (tR (res.2.2.2.2.2.2.2.2.1)) + (tR (res.2.2.2.2.2.2.2.2.2.1)) + (tR (res.2.2.2.2.2.2.2.2.2.2.1))) from by omega)⟩
    · have mo9 : (tR T) ≤ (tR (res.2.1)) ∧ (kLen K) ≤ (kLen (res.2.2.2.2.2.1)) ∧ ((tR S0) + (tR S1) + (tR S2) + (tR S3)) ≤ ((tR (res.2.2.2.2.2.2.2.1)) + (tR (res.2.2.2.2.2.2.2.2.1)) + (tR (res.2.2.2.2.2.2.2.2.2.1)) + (tR (res.2.2.2.2.2.2.2.2.2.2.1))) := hkm (x3) h
      exact ⟨(show (tR T) ≤ (tR (res.2.1)) from by omega), (show (kLen K) ≤ (kLen (res.2.2.2.2.2.1)) from by omega), (show ((tR S0) + (tR S1) + (tR S2) + (tR S3)) ≤ ((tR (res.2.2.2.2.2.2.2.1)) + (tR (res.2.2.2.2.2.2.2.2.1)) + (tR (res.2.2.2.2.2.2.2.2.2.1)) + (tR (res.2.2.2.2.2.2.2.2.2.2.1))) from by omega)⟩
theorem mo_Lw_isInserted_L20 (n_A1 : Nat) (T : TV) (K : KV) (S0 : TV) (S1 : TV) (S2 : TV) (S3 : TV) (x2 : Int) (x3 : Int) (res : Int × TV × (Nat → Int) × Int × Int64 × KV × Int × TV × TV × TV × TV × (Nat → Int)) (k : (Nat → Int) → Option (Int × TV × (Nat → Int) × Int × Int64 × KV × Int × TV × TV × TV × TV × (Nat → Int))) (hkm : ∀ (fA1 : Nat → Int) , k fA1 = some res → (tR T) ≤ (tR (res.2.1)) ∧ (kLen K) ≤ (kLen (res.2.2.2.2.2.1)) ∧ ((tR S0) + (tR S1) + (tR S2) + (tR S3)) ≤ ((tR (res.2.2.2.2.2.2.2.1)) + (tR (res.2.2.2.2.2.2.2.2.1)) + (tR (res.2.2.2.2.2.2.2.2.2.1)) + (tR (res.2.2.2.2.2.2.2.2.2.2.1)))) : ∀ (n : Nat) (fA1 : Nat → Int) , f_Lw_isInserted_L20 n_A1 x2 x3 k n fA1 = some res → (tR T) ≤ (tR (res.2.1)) ∧ (kLen K) ≤ (kLen (res.2.2.2.2.2.1)) ∧ ((tR S0) + (tR S1) + (tR S2) + (tR S3)) ≤ ((tR (res.2.2.2.2.2.2.2.1)) + (tR (res.2.2.2.2.2.2.2.2.1)) + (tR (res.2.2.2.2.2.2.2.2.2.1)) + (tR (res.2.2.2.2.2.2.2.2.2.2.1))) := by
  intro n
  induction n with
  | zero => intro fA1 h; cases h
  | succ n ihm =>
    intro fA1 h
    rw [f_Lw_isInserted_L20] at h
    obtain ⟨g_7, h⟩ := gd_e h
    rcases it_e h with ⟨_, h⟩ | ⟨_, h⟩
    · obtain ⟨g_9, h⟩ := gd_e h
      have mo9 : (tR T) ≤ (tR (res.2.1)) ∧ (kLen K) ≤ (kLen (res.2.2.2.2.2.1)) ∧ ((tR S0) + (tR S1) + (tR S2) + (tR S3)) ≤ ((tR (res.2.2.2.2.2.2.2.1)) + (tR (res.2.2.2.2.2.2.2.2.1)) + (tR (res.2.2.2.2.2.2.2.2.2.1)) + (tR (res.2.2.2.2.2.2.2.2.2.2.1))) := hkm ((up fA1 ((x3).toNat) x2)) h
      exact ⟨(show (tR T) ≤ (tR (res.2.1)) from by omega), (show (kLen K) ≤ (kLen (res.2.2.2.2.2.1)) from by omega), (show ((tR S0) + (tR S1) + (tR S2) + (tR S3)) ≤ ((tR (res.2.2.2.2.2.2.2.1)) + (tR (res.2.2.2.2.2.2.2.2.1)) + (tR (res.2.2.2.2.2.2.2.2.2.1)) + (tR (res.2.2.2.2.2.2.2.2.2.2.1))) from by omega)⟩
    · have mo9 : (tR T) ≤ (tR (res.2.1)) ∧ (kLen K) ≤ (kLen (res.2.2.2.2.2.1)) ∧ ((tR S0) + (tR S1) + (tR S2) + (tR S3)) ≤ ((tR (res.2.2.2.2.2.2.2.1)) + (tR (res.2.2.2.2.2.2.2.2.1)) + (tR (res.2.2.2.2.2.2.2.2.2.1)) + (tR (res.2.2.2.2.2.2.2.2.2.2.1))) := hkm (fA1) h
      exact ⟨(show (tR T) ≤ (tR (res.2.1)) from by omega), (show (kLen K) ≤ (kLen (res.2.2.2.2.2.1)) from by omega), (show ((tR S0) + (tR S1) + (tR S2) + (tR S3)) ≤ ((tR (res.2.2.2.2.2.2.2.1)) + (tR (res.2.2.2.2.2.2.2.2.1)) + (tR (res.2.2.2.2.2.2.2.2.2.1)) + (tR (res.2.2.2.2.2.2.2.2.2.2.1))) from by omega)⟩
theorem mo_Lw_isInserted (n_A1 : Nat) (T : TV) (c_pool : Nat → Int) (c_left : Int) (c_treated : Int64) (K : KV) (c_count : Int) (S0 : TV) (S1 : TV) (S2 : TV) (S3 : TV) (fA1 : Nat → Int) (x2 : Int) (res : Int × TV × (Nat → Int) × Int × Int64 × KV × Int × TV × TV × TV × TV × (Nat → Int)) (h : f_Lw_isInserted n_A1 T c_pool c_left c_treated K c_count S0 S1 S2 S3 fA1 x2 = some res) : (tR T) ≤ (tR (res.2.1)) ∧ (kLen K) ≤ (kLen (res.2.2.2.2.2.1)) ∧ ((tR S0) + (tR S1) + (tR S2) + (tR S3)) ≤ ((tR (res.2.2.2.2.2.2.2.1)) + (tR (res.2.2.2.2.2.2.2.2.1)) + (tR (res.2.2.2.2.2.2.2.2.2.1)) + (tR (res.2.2.2.2.2.2.2.2.2.2.1))) := by
  unfold f_Lw_isInserted at h
  have mo9 : (tR T) ≤ (tR (res.2.1)) ∧ (kLen K) ≤ (kLen (res.2.2.2.2.2.1)) ∧ ((tR S0) + (tR S1) + (tR S2) + (tR S3)) ≤ ((tR (res.2.2.2.2.2.2.2.1)) + (tR (res.2.2.2.2.2.2.2.2.1)) + (tR (res.2.2.2.2.2.2.2.2.2.1)) + (tR (res.2.2.2.2.2.2.2.2.2.2.1))) := mo_Lw_isInserted_L2 (n_A1) (T) (K) (S0) (S1) (S2) (S3) (fA1) _ _ (fun x3_6 h => by
      have mo9 : (tR T) ≤ (tR (res.2.1)) ∧ (kLen K) ≤ (kLen (res.2.2.2.2.2.1)) ∧ ((tR S0) + (tR S1) + (tR S2) + (tR S3)) ≤ ((tR (res.2.2.2.2.2.2.2.1)) + (tR (res.2.2.2.2.2.2.2.2.1)) + (tR (res.2.2.2.2.2.2.2.2.2.1)) + (tR (res.2.2.2.2.2.2.2.2.2.2.1))) := mo_Lw_isInserted_L20 (n_A1) (T) (K) (S0) (S1) (S2) (S3) (x2) (x3_6) _ _ (fun fA1_10 h => by
          obtain ⟨r_11, e_12, h⟩ := bd1_e h
          obtain ⟨r_14, e_15, h⟩ := bd1_e h
          obtain ⟨r_17, e_18, h⟩ := bd1_e h
          obtain ⟨r_20, e_21, h⟩ := bd1_e h
          obtain ⟨r_23, T_24, c_pool_25, c_left_26, c_treated_27, K_28, c_count_29, S0_30, S1_31, S2_32, S3_33, e_34, h⟩ := bd11_e h
          have mo_36 : (tR T) ≤ (tR T_24) ∧ (kLen K) ≤ (kLen K_28) ∧ ((tR S0) + (tR S1) + (tR S2) + (tR S3)) ≤ ((tR S0_30) + (tR S1_31) + (tR S2_32) + (tR S3_33)) := mo_Rt_insert T c_pool c_left c_treated K c_count S0 S1 S2 S3 r_11 r_14 r_17 r_20 (r_23, T_24, c_pool_25, c_left_26, c_treated_27, K_28, c_count_29, S0_30, S1_31, S2_32, S3_33) e_34
          obtain ⟨g_37, h⟩ := gd_e h
          rcases it_e h with ⟨_, h⟩ | ⟨_, h⟩
          · obtain ⟨g_41, h⟩ := gd_e h
            rcases it_e h with ⟨_, h⟩ | ⟨_, h⟩
            · obtain rfl := Option.some.inj h
              exact ⟨(show (tR T) ≤ (tR T_24) from by omega), (show (kLen K) ≤ (kLen K_28) from by omega), (show ((tR S0) + (tR S1) + (tR S2) + (tR S3)) ≤ ((tR S0_30) + (tR S1_31) + (tR S2_32) + (tR S3_33)) from by omega)⟩
            · obtain rfl := Option.some.inj h
              exact ⟨(show (tR T) ≤ (tR T_24) from by omega), (show (kLen K) ≤ (kLen K_28) from by omega), (show ((tR S0) + (tR S1) + (tR S2) + (tR S3)) ≤ ((tR S0_30) + (tR S1_31) + (tR S2_32) + (tR S3_33)) from by omega)⟩
          · obtain ⟨g_39, h⟩ := gd_e h
            rcases it_e h with ⟨_, h⟩ | ⟨_, h⟩
            · obtain rfl := Option.some.inj h
              exact ⟨(show (tR T) ≤ (tR T_24) from by omega), (show (kLen K) ≤ (kLen K_28) from by omega), (show ((tR S0) + (tR S1) + (tR S2) + (tR S3)) ≤ ((tR S0_30) + (tR S1_31) + (tR S2_32) + (tR S3_33)) from by omega)⟩
            · obtain rfl := Option.some.inj h
              exact ⟨(show (tR T) ≤ (tR T_24) from by omega), (show (kLen K) ≤ (kLen K_28) from by omega), (show ((tR S0) + (tR S1) + (tR S2) + (tR S3)) ≤ ((tR S0_30) + (tR S1_31) + (tR S2_32) + (tR S3_33)) from by omega)⟩) _ (fA1) h
      exact ⟨(show (tR T) ≤ (tR (res.2.1)) from by omega), (show (kLen K) ≤ (kLen (res.2.2.2.2.2.1)) from by omega), (show ((tR S0) + (tR S1) + (tR S2) + (tR S3)) ≤ ((tR (res.2.2.2.2.2.2.2.1)) + (tR (res.2.2.2.2.2.2.2.2.1)) + (tR (res.2.2.2.2.2.2.2.2.2.1)) + (tR (res.2.2.2.2.2.2.2.2.2.2.1))) from by omega)⟩) _ (0) h
  exact ⟨(show (tR T) ≤ (tR (res.2.1)) from by omega), (show (kLen K) ≤ (kLen (res.2.2.2.2.2.1)) from by omega), (show ((tR S0) + (tR S1) + (tR S2) + (tR S3)) ≤ ((tR (res.2.2.2.2.2.2.2.1)) + (tR (res.2.2.2.2.2.2.2.2.1)) + (tR (res.2.2.2.2.2.2.2.2.2.1)) + (tR (res.2.2.2.2.2.2.2.2.2.2.1))) from by omega)⟩
set_option maxHeartbeats 4000000 in
set_option maxRecDepth 100000 in
theorem w_Lw_isInserted_L2 {p : Program} {l : Launch} {e : Env} {s : State} {m : MethodId} {args : Array Value} {below : List Frame} {meth : Method} {c : Code} {A : Nat → Prop} (D : va_G) (cI cZ cT : ClassId) (h_R : Nat) (h_T : Nat) (h_C : Nat) (hp_R : Nat) (h_K : Nat) (hx_R : Nat) (h_H : Nat) (hs_R : Nat) (q_T : Nat → Nat) (q_C : Nat → Nat) (h_LB : Nat) (h_LN : Nat) (q_LB : Nat → Nat) (q_LN : Nat → Nat) (q_K : Nat → Nat) (q_H : Nat) (h_S0 : Nat) (h_S1 : Nat) (h_S2 : Nat) (h_S3 : Nat) (q_S0 : Nat → Nat) (q_S1 : Nat → Nat) (q_S2 : Nat → Nat) (q_S3 : Nat → Nat) (h_A1 : Nat) (n_A1 : Nat) (c_hasSnapshot : Int) (T : TV) (c_kept : Nat → Int) (c_keptCount : Int) (c_pool : Nat → Int) (c_left : Int) (c_treated : Int64) (LB : KV) (LN : KV) (K : KV) (c_count : Int) (S0 : TV) (S1 : TV) (S2 : TV) (S3 : TV) (fA1 : Nat → Int) (x2 : Int) (res : Int × TV × (Nat → Int) × Int × Int64 × KV × Int × TV × TV × TV × TV × (Nat → Int)) (k : Int → Option (Int × TV × (Nat → Int) × Int × Int64 × KV × Int × TV × TV × TV × TV × (Nat → Int))) (hF : zF p m c cL_isInserted 4 s args yL_isInserted.cls meth (some .boolean) yL_isInserted.name A D (zt cI cZ cT))
    (hk : ∀ (x3 : Int) (H : Heap) (locs : List Loc) (ls : Array Slot), k x3 = some res → va_P D vwCl ((zRt h_R h_T h_C hp_R h_K hx_R h_H hs_R c_hasSnapshot) ++ ((zTr cI h_T q_T T) ++ ((zCh cI h_C q_C h_T h_LB h_LN c_kept c_keptCount c_pool c_left c_treated) ++ ((zWk cI h_LB q_LB LB) ++ ((zWk cI h_LN q_LN LN) ++ ((zWk cI h_K q_K K) ++ ((zHs cT h_H q_H h_S0 h_S1 h_S2 h_S3 c_count) ++ ((zTr cI h_S0 q_S0 S0) ++ ((zTr cI h_S1 q_S1 S1) ++ ((zTr cI h_S2 q_S2 S2) ++ ((zTr cI h_S3 q_S3 S3) ++ ((zAr cI h_A1 n_A1 fA1))))))))))))) H → va_D A ((zRt h_R h_T h_C hp_R h_K hx_R h_H hs_R c_hasSnapshot) ++ ((zTr cI h_T q_T T) ++ ((zCh cI h_C q_C h_T h_LB h_LN c_kept c_keptCount c_pool c_left c_treated) ++ ((zWk cI h_LB q_LB LB) ++ ((zWk cI h_LN q_LN LN) ++ ((zWk cI h_K q_K K) ++ ((zHs cT h_H q_H h_S0 h_S1 h_S2 h_S3 c_count) ++ ((zTr cI h_S0 q_S0 S0) ++ ((zTr cI h_S1 q_S1 S1) ++ ((zTr cI h_S2 q_S2 S2) ++ ((zTr cI h_S3 q_S3 S3) ++ ((zAr cI h_A1 n_A1 fA1))))))))))))) → va_S A s.heap H locs → lv_has ls 4 [(0, .ref h_R), (1, .ref h_A1), (2, vI x2), (3, vI x3)] → W p l e rm_Lw_isInserted s m args below meth c H locs 0 0 (MQ below (zQi D (res.1) (fun u => (zRt h_R h_T h_C hp_R h_K hx_R h_H hs_R c_hasSnapshot) ++ ((zTr cI h_T q_T (res.2.1)) ++ ((zCh cI h_C q_C h_T h_LB h_LN c_kept c_keptCount (res.2.2.1) (res.2.2.2.1) (res.2.2.2.2.1)) ++ ((zWk cI h_LB q_LB LB) ++ ((zWk cI h_LN q_LN LN) ++ ((zWk cI h_K q_K (res.2.2.2.2.2.1)) ++ ((zHs cT h_H q_H (u 7 9) (u 8 9) (u 9 9) (u 10 9) (res.2.2.2.2.2.2.1)) ++ ((zTr cI (u 7 9) (u 7) (res.2.2.2.2.2.2.2.1)) ++ ((zTr cI (u 8 9) (u 8) (res.2.2.2.2.2.2.2.2.1)) ++ ((zTr cI (u 9 9) (u 9) (res.2.2.2.2.2.2.2.2.2.1)) ++ ((zTr cI (u 10 9) (u 10) (res.2.2.2.2.2.2.2.2.2.2.1)) ++ ((zAr cI h_A1 n_A1 (res.2.2.2.2.2.2.2.2.2.2.2)))))))))))))) A) args s 0 0 A) (F0 m 20 ls [])) :
    ∀ (n : Nat) (x3 : Int) (H : Heap) (locs : List Loc) (ls : Array Slot), f_Lw_isInserted_L2 n_A1 fA1 k n x3 = some res → va_P D vwCl ((zRt h_R h_T h_C hp_R h_K hx_R h_H hs_R c_hasSnapshot) ++ ((zTr cI h_T q_T T) ++ ((zCh cI h_C q_C h_T h_LB h_LN c_kept c_keptCount c_pool c_left c_treated) ++ ((zWk cI h_LB q_LB LB) ++ ((zWk cI h_LN q_LN LN) ++ ((zWk cI h_K q_K K) ++ ((zHs cT h_H q_H h_S0 h_S1 h_S2 h_S3 c_count) ++ ((zTr cI h_S0 q_S0 S0) ++ ((zTr cI h_S1 q_S1 S1) ++ ((zTr cI h_S2 q_S2 S2) ++ ((zTr cI h_S3 q_S3 S3) ++ ((zAr cI h_A1 n_A1 fA1))))))))))))) H → va_D A ((zRt h_R h_T h_C hp_R h_K hx_R h_H hs_R c_hasSnapshot) ++ ((zTr cI h_T q_T T) ++ ((zCh cI h_C q_C h_T h_LB h_LN c_kept c_keptCount c_pool c_left c_treated) ++ ((zWk cI h_LB q_LB LB) ++ ((zWk cI h_LN q_LN LN) ++ ((zWk cI h_K q_K K) ++ ((zHs cT h_H q_H h_S0 h_S1 h_S2 h_S3 c_count) ++ ((zTr cI h_S0 q_S0 S0) ++ ((zTr cI h_S1 q_S1 S1) ++ ((zTr cI h_S2 q_S2 S2) ++ ((zTr cI h_S3 q_S3 S3) ++ ((zAr cI h_A1 n_A1 fA1))))))))))))) → va_S A s.heap H locs → lv_has ls 4 [(0, .ref h_R), (1, .ref h_A1), (2, vI x2), (3, vI x3)] → W p l e rm_Lw_isInserted s m args below meth c H locs 0 0 (MQ below (zQi D (res.1) (fun u => (zRt h_R h_T h_C hp_R h_K hx_R h_H hs_R c_hasSnapshot) ++ ((zTr cI h_T q_T (res.2.1)) ++ ((zCh cI h_C q_C h_T h_LB h_LN c_kept c_keptCount (res.2.2.1) (res.2.2.2.1) (res.2.2.2.2.1)) ++ ((zWk cI h_LB q_LB LB) ++ ((zWk cI h_LN q_LN LN) ++ ((zWk cI h_K q_K (res.2.2.2.2.2.1)) ++ ((zHs cT h_H q_H (u 7 9) (u 8 9) (u 9 9) (u 10 9) (res.2.2.2.2.2.2.1)) ++ ((zTr cI (u 7 9) (u 7) (res.2.2.2.2.2.2.2.1)) ++ ((zTr cI (u 8 9) (u 8) (res.2.2.2.2.2.2.2.2.1)) ++ ((zTr cI (u 9 9) (u 9) (res.2.2.2.2.2.2.2.2.2.1)) ++ ((zTr cI (u 10 9) (u 10) (res.2.2.2.2.2.2.2.2.2.2.1)) ++ ((zAr cI h_A1 n_A1 (res.2.2.2.2.2.2.2.2.2.2.2)))))))))))))) A) args s 0 0 A) (F0 m 2 ls []) := by
  have hx := hF.1.1
  have hb := hF.1.2.1
  have hml := hF.1.2.2.1
  have hown : s.vm.findClass "RectangleTreeLaw" = some m.cls := hF.1.2.2.2.1
  have hts := hF.1.2.2.2.2
  have hr := hF.2.1
  have hlk := hF.2.2.1
  have hK := hF.2.2.2.2.1
  have hN := hF.2.2.2.2.2.1
  have hA := hF.2.2.2.2.2.2
  intro n
  induction n with
  | zero => intro x3  H locs ls h; cases h
  | succ n ih =>
    intro x3  H locs ls h  hP hD hS hl
    rw [f_Lw_isInserted_L2] at h
    refine lv_iload_n hx hb dL_isInserted_2 rfl (lv_at hl 3 rfl) ?_
    refine lv_bipush (v := Int32.ofInt 24) hx hb dL_isInserted_3 (by decide +kernel) ?_
    obtain ⟨g_1, h⟩ := gd_e h
    refine z_icmp_ge (tgt := 20) hx hb g_1 (by decide) dL_isInserted_5 (by decide) (fun b_2 => ?_) (fun b_2 => ?_)
    · have h := it_n b_2 h
      exact hk (x3) H locs ls h hP hD hS (lv_sub hl [0, 1, 2, 3] rfl)
    · have h := it_p b_2 h
      refine lv_aload_n hx hb dL_isInserted_8 rfl (lv_at hl 1 rfl) ?_
      refine lv_iload_n hx hb dL_isInserted_9 rfl (lv_at hl 3 rfl) ?_
      obtain ⟨g_3, h⟩ := gd_e h
      refine z_iald (n := n_A1) (f := fA1) (i := x3) hx hb hK hP 45 rfl rfl g_3 g_1.2 dL_isInserted_10 ?_
      obtain ⟨g_4, h⟩ := gd_e h
      refine z_if_lt (tgt := 20) hx hb g_4 dL_isInserted_11 (by decide) (fun b_5 => ?_) (fun b_5 => ?_)
      · have h := it_p b_5 h
        exact hk (x3) H locs ls h hP hD hS (lv_sub hl [0, 1, 2, 3] rfl)
      · have h := it_n b_5 h
        refine lv_iinc (v := Int32.ofInt (x3 + 1)) (lv' := [(3, vI (x3 + 1)), (0, .ref h_R), (1, .ref h_A1), (2, vI x2)]) hx hb dL_isInserted_14 hl (k := 3) rfl (z_inc _ _) (by decide) rfl (fun ls hl => ?_)
        refine lv_goto (tgt := 2) hx hb dL_isInserted_17 (by decide) ?_
        exact ih ((x3 + 1)) H locs ls h hP hD hS (lv_sub hl [1, 2, 3, 0] rfl)

set_option maxHeartbeats 4000000 in
set_option maxRecDepth 100000 in
theorem w_Lw_isInserted_L20 {p : Program} {l : Launch} {e : Env} {s : State} {m : MethodId} {args : Array Value} {below : List Frame} {meth : Method} {c : Code} {A : Nat → Prop} (D : va_G) (cI cZ cT : ClassId) (h_R : Nat) (h_T : Nat) (h_C : Nat) (hp_R : Nat) (h_K : Nat) (hx_R : Nat) (h_H : Nat) (hs_R : Nat) (q_T : Nat → Nat) (q_C : Nat → Nat) (h_LB : Nat) (h_LN : Nat) (q_LB : Nat → Nat) (q_LN : Nat → Nat) (q_K : Nat → Nat) (q_H : Nat) (h_S0 : Nat) (h_S1 : Nat) (h_S2 : Nat) (h_S3 : Nat) (q_S0 : Nat → Nat) (q_S1 : Nat → Nat) (q_S2 : Nat → Nat) (q_S3 : Nat → Nat) (h_A1 : Nat) (n_A1 : Nat) (c_hasSnapshot : Int) (T : TV) (c_kept : Nat → Int) (c_keptCount : Int) (c_pool : Nat → Int) (c_left : Int) (c_treated : Int64) (LB : KV) (LN : KV) (K : KV) (c_count : Int) (S0 : TV) (S1 : TV) (S2 : TV) (S3 : TV) (x2 : Int) (x3 : Int) (res : Int × TV × (Nat → Int) × Int × Int64 × KV × Int × TV × TV × TV × TV × (Nat → Int)) (k : (Nat → Int) → Option (Int × TV × (Nat → Int) × Int × Int64 × KV × Int × TV × TV × TV × TV × (Nat → Int))) (hF : zF p m c cL_isInserted 4 s args yL_isInserted.cls meth (some .boolean) yL_isInserted.name A D (zt cI cZ cT))
    (hk : ∀ (fA1 : Nat → Int) (H : Heap) (locs : List Loc) (ls : Array Slot), k fA1 = some res → va_P D vwCl ((zRt h_R h_T h_C hp_R h_K hx_R h_H hs_R c_hasSnapshot) ++ ((zTr cI h_T q_T T) ++ ((zCh cI h_C q_C h_T h_LB h_LN c_kept c_keptCount c_pool c_left c_treated) ++ ((zWk cI h_LB q_LB LB) ++ ((zWk cI h_LN q_LN LN) ++ ((zWk cI h_K q_K K) ++ ((zHs cT h_H q_H h_S0 h_S1 h_S2 h_S3 c_count) ++ ((zTr cI h_S0 q_S0 S0) ++ ((zTr cI h_S1 q_S1 S1) ++ ((zTr cI h_S2 q_S2 S2) ++ ((zTr cI h_S3 q_S3 S3) ++ ((zAr cI h_A1 n_A1 fA1))))))))))))) H → va_D A ((zRt h_R h_T h_C hp_R h_K hx_R h_H hs_R c_hasSnapshot) ++ ((zTr cI h_T q_T T) ++ ((zCh cI h_C q_C h_T h_LB h_LN c_kept c_keptCount c_pool c_left c_treated) ++ ((zWk cI h_LB q_LB LB) ++ ((zWk cI h_LN q_LN LN) ++ ((zWk cI h_K q_K K) ++ ((zHs cT h_H q_H h_S0 h_S1 h_S2 h_S3 c_count) ++ ((zTr cI h_S0 q_S0 S0) ++ ((zTr cI h_S1 q_S1 S1) ++ ((zTr cI h_S2 q_S2 S2) ++ ((zTr cI h_S3 q_S3 S3) ++ ((zAr cI h_A1 n_A1 fA1))))))))))))) → va_S A s.heap H locs → lv_has ls 4 [(0, .ref h_R), (2, vI x2), (3, vI x3)] → W p l e rm_Lw_isInserted s m args below meth c H locs 0 0 (MQ below (zQi D (res.1) (fun u => (zRt h_R h_T h_C hp_R h_K hx_R h_H hs_R c_hasSnapshot) ++ ((zTr cI h_T q_T (res.2.1)) ++ ((zCh cI h_C q_C h_T h_LB h_LN c_kept c_keptCount (res.2.2.1) (res.2.2.2.1) (res.2.2.2.2.1)) ++ ((zWk cI h_LB q_LB LB) ++ ((zWk cI h_LN q_LN LN) ++ ((zWk cI h_K q_K (res.2.2.2.2.2.1)) ++ ((zHs cT h_H q_H (u 7 9) (u 8 9) (u 9 9) (u 10 9) (res.2.2.2.2.2.2.1)) ++ ((zTr cI (u 7 9) (u 7) (res.2.2.2.2.2.2.2.1)) ++ ((zTr cI (u 8 9) (u 8) (res.2.2.2.2.2.2.2.2.1)) ++ ((zTr cI (u 9 9) (u 9) (res.2.2.2.2.2.2.2.2.2.1)) ++ ((zTr cI (u 10 9) (u 10) (res.2.2.2.2.2.2.2.2.2.2.1)) ++ ((zAr cI h_A1 n_A1 (res.2.2.2.2.2.2.2.2.2.2.2)))))))))))))) A) args s 0 0 A) (F0 m 30 ls [])) :
    ∀ (n : Nat) (fA1 : Nat → Int) (H : Heap) (locs : List Loc) (ls : Array Slot), f_Lw_isInserted_L20 n_A1 x2 x3 k n fA1 = some res → va_P D vwCl ((zRt h_R h_T h_C hp_R h_K hx_R h_H hs_R c_hasSnapshot) ++ ((zTr cI h_T q_T T) ++ ((zCh cI h_C q_C h_T h_LB h_LN c_kept c_keptCount c_pool c_left c_treated) ++ ((zWk cI h_LB q_LB LB) ++ ((zWk cI h_LN q_LN LN) ++ ((zWk cI h_K q_K K) ++ ((zHs cT h_H q_H h_S0 h_S1 h_S2 h_S3 c_count) ++ ((zTr cI h_S0 q_S0 S0) ++ ((zTr cI h_S1 q_S1 S1) ++ ((zTr cI h_S2 q_S2 S2) ++ ((zTr cI h_S3 q_S3 S3) ++ ((zAr cI h_A1 n_A1 fA1))))))))))))) H → va_D A ((zRt h_R h_T h_C hp_R h_K hx_R h_H hs_R c_hasSnapshot) ++ ((zTr cI h_T q_T T) ++ ((zCh cI h_C q_C h_T h_LB h_LN c_kept c_keptCount c_pool c_left c_treated) ++ ((zWk cI h_LB q_LB LB) ++ ((zWk cI h_LN q_LN LN) ++ ((zWk cI h_K q_K K) ++ ((zHs cT h_H q_H h_S0 h_S1 h_S2 h_S3 c_count) ++ ((zTr cI h_S0 q_S0 S0) ++ ((zTr cI h_S1 q_S1 S1) ++ ((zTr cI h_S2 q_S2 S2) ++ ((zTr cI h_S3 q_S3 S3) ++ ((zAr cI h_A1 n_A1 fA1))))))))))))) → va_S A s.heap H locs → lv_has ls 4 [(0, .ref h_R), (1, .ref h_A1), (2, vI x2), (3, vI x3)] → W p l e rm_Lw_isInserted s m args below meth c H locs 0 0 (MQ below (zQi D (res.1) (fun u => (zRt h_R h_T h_C hp_R h_K hx_R h_H hs_R c_hasSnapshot) ++ ((zTr cI h_T q_T (res.2.1)) ++ ((zCh cI h_C q_C h_T h_LB h_LN c_kept c_keptCount (res.2.2.1) (res.2.2.2.1) (res.2.2.2.2.1)) ++ ((zWk cI h_LB q_LB LB) ++ ((zWk cI h_LN q_LN LN) ++ ((zWk cI h_K q_K (res.2.2.2.2.2.1)) ++ ((zHs cT h_H q_H (u 7 9) (u 8 9) (u 9 9) (u 10 9) (res.2.2.2.2.2.2.1)) ++ ((zTr cI (u 7 9) (u 7) (res.2.2.2.2.2.2.2.1)) ++ ((zTr cI (u 8 9) (u 8) (res.2.2.2.2.2.2.2.2.1)) ++ ((zTr cI (u 9 9) (u 9) (res.2.2.2.2.2.2.2.2.2.1)) ++ ((zTr cI (u 10 9) (u 10) (res.2.2.2.2.2.2.2.2.2.2.1)) ++ ((zAr cI h_A1 n_A1 (res.2.2.2.2.2.2.2.2.2.2.2)))))))))))))) A) args s 0 0 A) (F0 m 20 ls []) := by
  have hx := hF.1.1
  have hb := hF.1.2.1
  have hml := hF.1.2.2.1
  have hown : s.vm.findClass "RectangleTreeLaw" = some m.cls := hF.1.2.2.2.1
  have hts := hF.1.2.2.2.2
  have hr := hF.2.1
  have hlk := hF.2.2.1
  have hK := hF.2.2.2.2.1
  have hN := hF.2.2.2.2.2.1
  have hA := hF.2.2.2.2.2.2
  intro n
  induction n with
  | zero => intro fA1  H locs ls h; cases h
  | succ n ih =>
    intro fA1  H locs ls h  hP hD hS hl
    rw [f_Lw_isInserted_L20] at h
    refine lv_iload_n hx hb dL_isInserted_20 rfl (lv_at hl 3 rfl) ?_
    refine lv_bipush (v := Int32.ofInt 24) hx hb dL_isInserted_21 (by decide +kernel) ?_
    obtain ⟨g_7, h⟩ := gd_e h
    refine z_icmp_ge (tgt := 30) hx hb g_7 (by decide) dL_isInserted_23 (by decide) (fun b_8 => ?_) (fun b_8 => ?_)
    · have h := it_n b_8 h
      exact hk (fA1) H locs ls h hP hD hS (lv_sub hl [0, 2, 3] rfl)
    · have h := it_p b_8 h
      refine lv_aload_n hx hb dL_isInserted_26 rfl (lv_at hl 1 rfl) ?_
      refine lv_iload_n hx hb dL_isInserted_27 rfl (lv_at hl 3 rfl) ?_
      refine lv_iload_n hx hb dL_isInserted_28 rfl (lv_at hl 2 rfl) ?_
      obtain ⟨g_9, h⟩ := gd_e h
      refine z_iast (n := n_A1) (f := fA1) (i := x3) (x := x2) (ws' := (zRt h_R h_T h_C hp_R h_K hx_R h_H hs_R c_hasSnapshot) ++ ((zTr cI h_T q_T T) ++ ((zCh cI h_C q_C h_T h_LB h_LN c_kept c_keptCount c_pool c_left c_treated) ++ ((zWk cI h_LB q_LB LB) ++ ((zWk cI h_LN q_LN LN) ++ ((zWk cI h_K q_K K) ++ ((zHs cT h_H q_H h_S0 h_S1 h_S2 h_S3 c_count) ++ ((zTr cI h_S0 q_S0 S0) ++ ((zTr cI h_S1 q_S1 S1) ++ ((zTr cI h_S2 q_S2 S2) ++ ((zTr cI h_S3 q_S3 S3) ++ ((zAr cI h_A1 n_A1 (up fA1 ((x3).toNat) x2)))))))))))))) hx hb hK hP hD hS 45 rfl rfl g_9 g_7.2 dL_isInserted_29 rfl (fun H locs hP hD hS => ?_)
      exact hk ((up fA1 ((x3).toNat) x2)) H locs ls h hP hD hS (lv_sub hl [0, 2, 3] rfl)

set_option maxHeartbeats 4000000 in
set_option maxRecDepth 100000 in
theorem c_Lw_isInserted (l : Launch) (D : va_G) (cI cZ cT : ClassId) (h_R : Nat) (h_T : Nat) (h_C : Nat) (hp_R : Nat) (h_K : Nat) (hx_R : Nat) (h_H : Nat) (hs_R : Nat) (q_T : Nat → Nat) (q_C : Nat → Nat) (h_LB : Nat) (h_LN : Nat) (q_LB : Nat → Nat) (q_LN : Nat → Nat) (q_K : Nat → Nat) (q_H : Nat) (h_S0 : Nat) (h_S1 : Nat) (h_S2 : Nat) (h_S3 : Nat) (q_S0 : Nat → Nat) (q_S1 : Nat → Nat) (q_S2 : Nat → Nat) (q_S3 : Nat → Nat) (h_A1 : Nat) (n_A1 : Nat) (c_hasSnapshot : Int) (T : TV) (c_kept : Nat → Int) (c_keptCount : Int) (c_pool : Nat → Int) (c_left : Int) (c_treated : Int64) (LB : KV) (LN : KV) (K : KV) (c_count : Int) (S0 : TV) (S1 : TV) (S2 : TV) (S3 : TV) (fA1 : Nat → Int) (x2 : Int) (sz : Nat) (res : Int × TV × (Nat → Int) × Int × Int64 × KV × Int × TV × TV × TV × TV × (Nat → Int)) (h : f_Lw_isInserted n_A1 T c_pool c_left c_treated K c_count S0 S1 S2 S3 fA1 x2 = some res) : zMz l yL_isInserted cL_isInserted 4 rm_Lw_isInserted D (zt cI cZ cT) [.ref h_R, .ref h_A1, vI x2] ((zRt h_R h_T h_C hp_R h_K hx_R h_H hs_R c_hasSnapshot) ++ ((zTr cI h_T q_T T) ++ ((zCh cI h_C q_C h_T h_LB h_LN c_kept c_keptCount c_pool c_left c_treated) ++ ((zWk cI h_LB q_LB LB) ++ ((zWk cI h_LN q_LN LN) ++ ((zWk cI h_K q_K K) ++ ((zHs cT h_H q_H h_S0 h_S1 h_S2 h_S3 c_count) ++ ((zTr cI h_S0 q_S0 S0) ++ ((zTr cI h_S1 q_S1 S1) ++ ((zTr cI h_S2 q_S2 S2) ++ ((zTr cI h_S3 q_S3 S3) ++ ((zAr cI h_A1 n_A1 fA1))))))))))))) sz (res.1) (fun u => (zRt h_R h_T h_C hp_R h_K hx_R h_H hs_R c_hasSnapshot) ++ ((zTr cI h_T q_T (res.2.1)) ++ ((zCh cI h_C q_C h_T h_LB h_LN c_kept c_keptCount (res.2.2.1) (res.2.2.2.1) (res.2.2.2.2.1)) ++ ((zWk cI h_LB q_LB LB) ++ ((zWk cI h_LN q_LN LN) ++ ((zWk cI h_K q_K (res.2.2.2.2.2.1)) ++ ((zHs cT h_H q_H (u 7 9) (u 8 9) (u 9 9) (u 10 9) (res.2.2.2.2.2.2.1)) ++ ((zTr cI (u 7 9) (u 7) (res.2.2.2.2.2.2.2.1)) ++ ((zTr cI (u 8 9) (u 8) (res.2.2.2.2.2.2.2.2.1)) ++ ((zTr cI (u 9 9) (u 9) (res.2.2.2.2.2.2.2.2.2.1)) ++ ((zTr cI (u 10 9) (u 10) (res.2.2.2.2.2.2.2.2.2.2.1)) ++ ((zAr cI h_A1 n_A1 (res.2.2.2.2.2.2.2.2.2.2.2)))))))))))))) 0 0 := by
  refine z_enth (Qc := zQi D (res.1) (fun u => (zRt h_R h_T h_C hp_R h_K hx_R h_H hs_R c_hasSnapshot) ++ ((zTr cI h_T q_T (res.2.1)) ++ ((zCh cI h_C q_C h_T h_LB h_LN c_kept c_keptCount (res.2.2.1) (res.2.2.2.1) (res.2.2.2.2.1)) ++ ((zWk cI h_LB q_LB LB) ++ ((zWk cI h_LN q_LN LN) ++ ((zWk cI h_K q_K (res.2.2.2.2.2.1)) ++ ((zHs cT h_H q_H (u 7 9) (u 8 9) (u 9 9) (u 10 9) (res.2.2.2.2.2.2.1)) ++ ((zTr cI (u 7 9) (u 7) (res.2.2.2.2.2.2.2.1)) ++ ((zTr cI (u 8 9) (u 8) (res.2.2.2.2.2.2.2.2.1)) ++ ((zTr cI (u 9 9) (u 9) (res.2.2.2.2.2.2.2.2.2.1)) ++ ((zTr cI (u 10 9) (u 10) (res.2.2.2.2.2.2.2.2.2.2.1)) ++ ((zAr cI h_A1 n_A1 (res.2.2.2.2.2.2.2.2.2.2.2))))))))))))))) (by decide) (Nat.le_of_ble_eq_true rfl) (fun p e s m args below meth c A ls H locs hF hP hD hS hl => ?_)
  have hx := hF.1.1
  have hb := hF.1.2.1
  have hml := hF.1.2.2.1
  have hown : s.vm.findClass "RectangleTreeLaw" = some m.cls := hF.1.2.2.2.1
  have hts := hF.1.2.2.2.2
  have hr := hF.2.1
  have hlk := hF.2.2.1
  have hK := hF.2.2.2.2.1
  have hN := hF.2.2.2.2.2.1
  have hA := hF.2.2.2.2.2.2
  unfold f_Lw_isInserted at h
  refine lv_iconst (v := Int32.ofInt 0) hx hb dL_isInserted_0 rfl ?_
  refine lv_istore_n (lv' := [(3, vI 0), (0, .ref h_R), (1, .ref h_A1), (2, vI x2)]) hx hb dL_isInserted_1 rfl hl (by decide) rfl (fun ls hl => ?_)
  refine w_Lw_isInserted_L2 D cI cZ cT (h_R) (h_T) (h_C) (hp_R) (h_K) (hx_R) (h_H) (hs_R) (q_T) (q_C) (h_LB) (h_LN) (q_LB) (q_LN) (q_K) (q_H) (h_S0) (h_S1) (h_S2) (h_S3) (q_S0) (q_S1) (q_S2) (q_S3) (h_A1) (n_A1) (c_hasSnapshot) (T) (c_kept) (c_keptCount) (c_pool) (c_left) (c_treated) (LB) (LN) (K) (c_count) (S0) (S1) (S2) (S3) (fA1) (x2) _ _ hF (fun x3_6 H locs ls h hP hD hS hl => ?_) _ (0) _ _ _ h hP hD hS (lv_sub hl [1, 2, 3, 0] rfl)
  refine w_Lw_isInserted_L20 D cI cZ cT (h_R) (h_T) (h_C) (hp_R) (h_K) (hx_R) (h_H) (hs_R) (q_T) (q_C) (h_LB) (h_LN) (q_LB) (q_LN) (q_K) (q_H) (h_S0) (h_S1) (h_S2) (h_S3) (q_S0) (q_S1) (q_S2) (q_S3) (h_A1) (n_A1) (c_hasSnapshot) (T) (c_kept) (c_keptCount) (c_pool) (c_left) (c_treated) (LB) (LN) (K) (c_count) (S0) (S1) (S2) (S3) (x2) (x3_6) _ _ hF (fun fA1_10 H locs ls h hP hD hS hl => ?_) _ (fA1) _ _ _ h hP hD hS (lv_sub hl [0, 1, 2, 3] rfl)
  refine lv_aload_n hx hb dL_isInserted_30 rfl (lv_at hl 0 rfl) ?_
  refine lv_iload_n hx hb dL_isInserted_31 rfl (lv_at hl 1 rfl) ?_
  refine lv_iconst (v := Int32.ofInt 0) hx hb dL_isInserted_32 rfl ?_
  obtain ⟨r_11, e_12, h⟩ := bd1_e h
  refine z_goi (ws' := []) (ret := r_11) (wc := ([] : va_W)) (wn := fun u_13 => (zRt h_R h_T h_C hp_R h_K hx_R h_H hs_R c_hasSnapshot) ++ ((zTr cI h_T q_T T) ++ ((zCh cI h_C q_C h_T h_LB h_LN c_kept c_keptCount c_pool c_left c_treated) ++ ((zWk cI h_LB q_LB LB) ++ ((zWk cI h_LN q_LN LN) ++ ((zWk cI h_K q_K K) ++ ((zHs cT h_H q_H h_S0 h_S1 h_S2 h_S3 c_count) ++ ((zTr cI h_S0 q_S0 S0) ++ ((zTr cI h_S1 q_S1 S1) ++ ((zTr cI h_S2 q_S2 S2) ++ ((zTr cI h_S3 q_S3 S3) ++ ((zAr cI h_A1 n_A1 fA1_10))))))))))))) (wr := ((zRt h_R h_T h_C hp_R h_K hx_R h_H hs_R c_hasSnapshot) ++ ((zTr cI h_T q_T T) ++ ((zCh cI h_C q_C h_T h_LB h_LN c_kept c_keptCount c_pool c_left c_treated) ++ ((zWk cI h_LB q_LB LB) ++ ((zWk cI h_LN q_LN LN) ++ ((zWk cI h_K q_K K) ++ ((zHs cT h_H q_H h_S0 h_S1 h_S2 h_S3 c_count) ++ ((zTr cI h_S0 q_S0 S0) ++ ((zTr cI h_S1 q_S1 S1) ++ ((zTr cI h_S2 q_S2 S2) ++ ((zTr cI h_S3 q_S3 S3) ++ ((zAr cI h_A1 n_A1 fA1_10)))))))))))))) (va_runS (As := [vI x2, vI 0]) (rest := [.ref h_R]) hF.1 (c_Lw_corner l D cI cZ cT x2 0 H.size (r_11) e_12) (va_cwS 2 hts (zgS wm352 wm353 wm31 wm354) rfl rfl rfl (by decide +kernel) ⟨Nat.le_of_ble_eq_true rfl, Nat.le_of_ble_eq_true rfl⟩) ⟨zP.blind, zP.enter (z_subP (ws' := ([] : va_W)) hP [] rfl) hK (hD.sub [] (by decide) rfl) hN⟩ rfl rfl hl.1 rfl (lv_room (Nat.le_of_ble_eq_true rfl)) dL_isInserted_33 ⟨Nat.le_refl _, Nat.le_refl _⟩) hP hD hS hA [] [0, 1, 2, 3, 4, 5, 6, 7, 8, 9, 10, 11, 12, 13, 14, 15, 16, 17, 18, 19, 20, 21, 22, 23, 24, 25, 26, 27, 28, 29, 30, 31, 32, 33, 34, 35, 36, 37, 38, 39, 40, 41, 42, 43, 44, 45] [0, 1, 2, 3, 4, 5, 6, 7, 8, 9, 10, 11, 12, 13, 14, 15, 16, 17, 18, 19, 20, 21, 22, 23, 24, 25, 26, 27, 28, 29, 30, 31, 32, 33, 34, 35, 36, 37, 38, 39, 40, 41, 42, 43, 44, 45] rfl rfl (by decide) (fun _ => rfl) (fun u_13 H locs hP hD hS hz => ?_)
  refine lv_iload_n hx hb dL_isInserted_36 rfl (lv_at hl 1 rfl) ?_
  refine lv_iconst (v := Int32.ofInt 1) hx hb dL_isInserted_37 rfl ?_
  obtain ⟨r_14, e_15, h⟩ := bd1_e h
  refine z_goi (ws' := []) (ret := r_14) (wc := ([] : va_W)) (wn := fun u_16 => (zRt h_R h_T h_C hp_R h_K hx_R h_H hs_R c_hasSnapshot) ++ ((zTr cI h_T q_T T) ++ ((zCh cI h_C q_C h_T h_LB h_LN c_kept c_keptCount c_pool c_left c_treated) ++ ((zWk cI h_LB q_LB LB) ++ ((zWk cI h_LN q_LN LN) ++ ((zWk cI h_K q_K K) ++ ((zHs cT h_H q_H h_S0 h_S1 h_S2 h_S3 c_count) ++ ((zTr cI h_S0 q_S0 S0) ++ ((zTr cI h_S1 q_S1 S1) ++ ((zTr cI h_S2 q_S2 S2) ++ ((zTr cI h_S3 q_S3 S3) ++ ((zAr cI h_A1 n_A1 fA1_10))))))))))))) (wr := ((zRt h_R h_T h_C hp_R h_K hx_R h_H hs_R c_hasSnapshot) ++ ((zTr cI h_T q_T T) ++ ((zCh cI h_C q_C h_T h_LB h_LN c_kept c_keptCount c_pool c_left c_treated) ++ ((zWk cI h_LB q_LB LB) ++ ((zWk cI h_LN q_LN LN) ++ ((zWk cI h_K q_K K) ++ ((zHs cT h_H q_H h_S0 h_S1 h_S2 h_S3 c_count) ++ ((zTr cI h_S0 q_S0 S0) ++ ((zTr cI h_S1 q_S1 S1) ++ ((zTr cI h_S2 q_S2 S2) ++ ((zTr cI h_S3 q_S3 S3) ++ ((zAr cI h_A1 n_A1 fA1_10)))))))))))))) (va_runS (As := [vI x2, vI 1]) (rest := [vI r_11, .ref h_R]) hF.1 (c_Lw_corner l D cI cZ cT x2 1 H.size (r_14) e_15) (va_cwS 2 hts (zgS wm352 wm353 wm31 wm354) rfl rfl rfl (by decide +kernel) ⟨Nat.le_of_ble_eq_true rfl, Nat.le_of_ble_eq_true rfl⟩) ⟨zP.blind, zP.enter (z_subP (ws' := ([] : va_W)) hP [] rfl) hK (hD.sub [] (by decide) rfl) hN⟩ rfl rfl hl.1 rfl (lv_room (Nat.le_of_ble_eq_true rfl)) dL_isInserted_38 ⟨Nat.le_refl _, Nat.le_refl _⟩) hP hD hS hA [] [0, 1, 2, 3, 4, 5, 6, 7, 8, 9, 10, 11, 12, 13, 14, 15, 16, 17, 18, 19, 20, 21, 22, 23, 24, 25, 26, 27, 28, 29, 30, 31, 32, 33, 34, 35, 36, 37, 38, 39, 40, 41, 42, 43, 44, 45] [0, 1, 2, 3, 4, 5, 6, 7, 8, 9, 10, 11, 12, 13, 14, 15, 16, 17, 18, 19, 20, 21, 22, 23, 24, 25, 26, 27, 28, 29, 30, 31, 32, 33, 34, 35, 36, 37, 38, 39, 40, 41, 42, 43, 44, 45] rfl rfl (by decide) (fun _ => rfl) (fun u_16 H locs hP hD hS hz => ?_)
  refine lv_iload_n hx hb dL_isInserted_41 rfl (lv_at hl 1 rfl) ?_
  refine lv_iconst (v := Int32.ofInt 2) hx hb dL_isInserted_42 rfl ?_
  obtain ⟨r_17, e_18, h⟩ := bd1_e h
  refine z_goi (ws' := []) (ret := r_17) (wc := ([] : va_W)) (wn := fun u_19 => (zRt h_R h_T h_C hp_R h_K hx_R h_H hs_R c_hasSnapshot) ++ ((zTr cI h_T q_T T) ++ ((zCh cI h_C q_C h_T h_LB h_LN c_kept c_keptCount c_pool c_left c_treated) ++ ((zWk cI h_LB q_LB LB) ++ ((zWk cI h_LN q_LN LN) ++ ((zWk cI h_K q_K K) ++ ((zHs cT h_H q_H h_S0 h_S1 h_S2 h_S3 c_count) ++ ((zTr cI h_S0 q_S0 S0) ++ ((zTr cI h_S1 q_S1 S1) ++ ((zTr cI h_S2 q_S2 S2) ++ ((zTr cI h_S3 q_S3 S3) ++ ((zAr cI h_A1 n_A1 fA1_10))))))))))))) (wr := ((zRt h_R h_T h_C hp_R h_K hx_R h_H hs_R c_hasSnapshot) ++ ((zTr cI h_T q_T T) ++ ((zCh cI h_C q_C h_T h_LB h_LN c_kept c_keptCount c_pool c_left c_treated) ++ ((zWk cI h_LB q_LB LB) ++ ((zWk cI h_LN q_LN LN) ++ ((zWk cI h_K q_K K) ++ ((zHs cT h_H q_H h_S0 h_S1 h_S2 h_S3 c_count) ++ ((zTr cI h_S0 q_S0 S0) ++ ((zTr cI h_S1 q_S1 S1) ++ ((zTr cI h_S2 q_S2 S2) ++ ((zTr cI h_S3 q_S3 S3) ++ ((zAr cI h_A1 n_A1 fA1_10)))))))))))))) (va_runS (As := [vI x2, vI 2]) (rest := [vI r_14, vI r_11, .ref h_R]) hF.1 (c_Lw_corner l D cI cZ cT x2 2 H.size (r_17) e_18) (va_cwS 2 hts (zgS wm352 wm353 wm31 wm354) rfl rfl rfl (by decide +kernel) ⟨Nat.le_of_ble_eq_true rfl, Nat.le_of_ble_eq_true rfl⟩) ⟨zP.blind, zP.enter (z_subP (ws' := ([] : va_W)) hP [] rfl) hK (hD.sub [] (by decide) rfl) hN⟩ rfl rfl hl.1 rfl (lv_room (Nat.le_of_ble_eq_true rfl)) dL_isInserted_43 ⟨Nat.le_refl _, Nat.le_refl _⟩) hP hD hS hA [] [0, 1, 2, 3, 4, 5, 6, 7, 8, 9, 10, 11, 12, 13, 14, 15, 16, 17, 18, 19, 20, 21, 22, 23, 24, 25, 26, 27, 28, 29, 30, 31, 32, 33, 34, 35, 36, 37, 38, 39, 40, 41, 42, 43, 44, 45] [0, 1, 2, 3, 4, 5, 6, 7, 8, 9, 10, 11, 12, 13, 14, 15, 16, 17, 18, 19, 20, 21, 22, 23, 24, 25, 26, 27, 28, 29, 30, 31, 32, 33, 34, 35, 36, 37, 38, 39, 40, 41, 42, 43, 44, 45] rfl rfl (by decide) (fun _ => rfl) (fun u_19 H locs hP hD hS hz => ?_)
  refine lv_iload_n hx hb dL_isInserted_46 rfl (lv_at hl 1 rfl) ?_
  refine lv_iconst (v := Int32.ofInt 3) hx hb dL_isInserted_47 rfl ?_
  obtain ⟨r_20, e_21, h⟩ := bd1_e h
  refine z_goi (ws' := []) (ret := r_20) (wc := ([] : va_W)) (wn := fun u_22 => (zRt h_R h_T h_C hp_R h_K hx_R h_H hs_R c_hasSnapshot) ++ ((zTr cI h_T q_T T) ++ ((zCh cI h_C q_C h_T h_LB h_LN c_kept c_keptCount c_pool c_left c_treated) ++ ((zWk cI h_LB q_LB LB) ++ ((zWk cI h_LN q_LN LN) ++ ((zWk cI h_K q_K K) ++ ((zHs cT h_H q_H h_S0 h_S1 h_S2 h_S3 c_count) ++ ((zTr cI h_S0 q_S0 S0) ++ ((zTr cI h_S1 q_S1 S1) ++ ((zTr cI h_S2 q_S2 S2) ++ ((zTr cI h_S3 q_S3 S3) ++ ((zAr cI h_A1 n_A1 fA1_10))))))))))))) (wr := ((zRt h_R h_T h_C hp_R h_K hx_R h_H hs_R c_hasSnapshot) ++ ((zTr cI h_T q_T T) ++ ((zCh cI h_C q_C h_T h_LB h_LN c_kept c_keptCount c_pool c_left c_treated) ++ ((zWk cI h_LB q_LB LB) ++ ((zWk cI h_LN q_LN LN) ++ ((zWk cI h_K q_K K) ++ ((zHs cT h_H q_H h_S0 h_S1 h_S2 h_S3 c_count) ++ ((zTr cI h_S0 q_S0 S0) ++ ((zTr cI h_S1 q_S1 S1) ++ ((zTr cI h_S2 q_S2 S2) ++ ((zTr cI h_S3 q_S3 S3) ++ ((zAr cI h_A1 n_A1 fA1_10)))))))))))))) (va_runS (As := [vI x2, vI 3]) (rest := [vI r_17, vI r_14, vI r_11, .ref h_R]) hF.1 (c_Lw_corner l D cI cZ cT x2 3 H.size (r_20) e_21) (va_cwS 2 hts (zgS wm352 wm353 wm31 wm354) rfl rfl rfl (by decide +kernel) ⟨Nat.le_of_ble_eq_true rfl, Nat.le_of_ble_eq_true rfl⟩) ⟨zP.blind, zP.enter (z_subP (ws' := ([] : va_W)) hP [] rfl) hK (hD.sub [] (by decide) rfl) hN⟩ rfl rfl hl.1 rfl (lv_room (Nat.le_of_ble_eq_true rfl)) dL_isInserted_48 ⟨Nat.le_refl _, Nat.le_refl _⟩) hP hD hS hA [] [0, 1, 2, 3, 4, 5, 6, 7, 8, 9, 10, 11, 12, 13, 14, 15, 16, 17, 18, 19, 20, 21, 22, 23, 24, 25, 26, 27, 28, 29, 30, 31, 32, 33, 34, 35, 36, 37, 38, 39, 40, 41, 42, 43, 44, 45] [0, 1, 2, 3, 4, 5, 6, 7, 8, 9, 10, 11, 12, 13, 14, 15, 16, 17, 18, 19, 20, 21, 22, 23, 24, 25, 26, 27, 28, 29, 30, 31, 32, 33, 34, 35, 36, 37, 38, 39, 40, 41, 42, 43, 44, 45] rfl rfl (by decide) (fun _ => rfl) (fun u_22 H locs hP hD hS hz => ?_)
  obtain ⟨r_23, T_24, c_pool_25, c_left_26, c_treated_27, K_28, c_count_29, S0_30, S1_31, S2_32, S3_33, e_34, h⟩ := bd11_e h
  have mo_36 : (tR T) ≤ (tR T_24) ∧ (kLen K) ≤ (kLen K_28) ∧ ((tR S0) + (tR S1) + (tR S2) + (tR S3)) ≤ ((tR S0_30) + (tR S1_31) + (tR S2_32) + (tR S3_33)) := mo_Rt_insert T c_pool c_left c_treated K c_count S0 S1 S2 S3 r_11 r_14 r_17 r_20 (r_23, T_24, c_pool_25, c_left_26, c_treated_27, K_28, c_count_29, S0_30, S1_31, S2_32, S3_33) e_34
  refine z_goi (ws' := []) (ret := r_23) (wc := (zRt (h_R) (h_T) (h_C) (hp_R) (h_K) (hx_R) (h_H) (hs_R) (c_hasSnapshot)) ++ ((zTr cI (h_T) (q_T) (T)) ++ ((zCh cI (h_C) (q_C) (h_T) (h_LB) (h_LN) (c_kept) (c_keptCount) (c_pool) (c_left) (c_treated)) ++ ((zWk cI (h_LB) (q_LB) (LB)) ++ ((zWk cI (h_LN) (q_LN) (LN)) ++ ((zWk cI (h_K) (q_K) (K)) ++ ((zHs cT (h_H) (q_H) (h_S0) (h_S1) (h_S2) (h_S3) (c_count)) ++ ((zTr cI (h_S0) (q_S0) (S0)) ++ ((zTr cI (h_S1) (q_S1) (S1)) ++ ((zTr cI (h_S2) (q_S2) (S2)) ++ ((zTr cI (h_S3) (q_S3) (S3))))))))))))) (wn := fun u_35 => (zRt h_R h_T h_C hp_R h_K hx_R h_H hs_R c_hasSnapshot) ++ ((zTr cI h_T q_T T_24) ++ ((zCh cI h_C q_C h_T h_LB h_LN c_kept c_keptCount c_pool_25 c_left_26 c_treated_27) ++ ((zWk cI h_LB q_LB LB) ++ ((zWk cI h_LN q_LN LN) ++ ((zWk cI h_K q_K K_28) ++ ((zHs cT h_H q_H (u_35 7 9) (u_35 8 9) (u_35 9 9) (u_35 10 9) c_count_29) ++ ((zTr cI (u_35 7 9) (u_35 7) S0_30) ++ ((zTr cI (u_35 8 9) (u_35 8) S1_31) ++ ((zTr cI (u_35 9 9) (u_35 9) S2_32) ++ ((zTr cI (u_35 10 9) (u_35 10) S3_33) ++ ((zAr cI h_A1 n_A1 fA1_10))))))))))))) (wr := ((zAr cI h_A1 n_A1 fA1_10))) (va_runV (As := [vI r_11, vI r_14, vI r_17, vI r_20]) (rest := []) hF.1 (c_Rt_insert l D cI cZ cT h_R h_T h_C hp_R h_K hx_R h_H hs_R q_T q_C h_LB h_LN q_LB q_LN q_K q_H h_S0 h_S1 h_S2 h_S3 q_S0 q_S1 q_S2 q_S3 c_hasSnapshot T c_kept c_keptCount c_pool c_left c_treated LB LN K c_count S0 S1 S2 S3 r_11 r_14 r_17 r_20 H.size (r_23, T_24, c_pool_25, c_left_26, c_treated_27, K_28, c_count_29, S0_30, S1_31, S2_32, S3_33) e_34) (cwV 4 hts (zgV wm453 wm454 wm455 wm32 wm456) rfl rfl rfl (by decide +kernel) ⟨Nat.le_of_ble_eq_true rfl, Nat.le_of_ble_eq_true rfl⟩) ⟨zP.blind, va_recv hK (z_subP (ws' := (zRt (h_R) (h_T) (h_C) (hp_R) (h_K) (hx_R) (h_H) (hs_R) (c_hasSnapshot)) ++ ((zTr cI (h_T) (q_T) (T)) ++ ((zCh cI (h_C) (q_C) (h_T) (h_LB) (h_LN) (c_kept) (c_keptCount) (c_pool) (c_left) (c_treated)) ++ ((zWk cI (h_LB) (q_LB) (LB)) ++ ((zWk cI (h_LN) (q_LN) (LN)) ++ ((zWk cI (h_K) (q_K) (K)) ++ ((zHs cT (h_H) (q_H) (h_S0) (h_S1) (h_S2) (h_S3) (c_count)) ++ ((zTr cI (h_S0) (q_S0) (S0)) ++ ((zTr cI (h_S1) (q_S1) (S1)) ++ ((zTr cI (h_S2) (q_S2) (S2)) ++ ((zTr cI (h_S3) (q_S3) (S3))))))))))))) hP [0, 1, 2, 3, 4, 5, 6, 7, 8, 9, 10, 11, 12, 13, 14, 15, 16, 17, 18, 19, 20, 21, 22, 23, 24, 25, 26, 27, 28, 29, 30, 31, 32, 33, 34, 35, 36, 37, 38, 39, 40, 41, 42, 43, 44] rfl) (ci := 6) (q0 := 0) rfl rfl, zP.enter (z_subP (ws' := (zRt (h_R) (h_T) (h_C) (hp_R) (h_K) (hx_R) (h_H) (hs_R) (c_hasSnapshot)) ++ ((zTr cI (h_T) (q_T) (T)) ++ ((zCh cI (h_C) (q_C) (h_T) (h_LB) (h_LN) (c_kept) (c_keptCount) (c_pool) (c_left) (c_treated)) ++ ((zWk cI (h_LB) (q_LB) (LB)) ++ ((zWk cI (h_LN) (q_LN) (LN)) ++ ((zWk cI (h_K) (q_K) (K)) ++ ((zHs cT (h_H) (q_H) (h_S0) (h_S1) (h_S2) (h_S3) (c_count)) ++ ((zTr cI (h_S0) (q_S0) (S0)) ++ ((zTr cI (h_S1) (q_S1) (S1)) ++ ((zTr cI (h_S2) (q_S2) (S2)) ++ ((zTr cI (h_S3) (q_S3) (S3))))))))))))) hP [0, 1, 2, 3, 4, 5, 6, 7, 8, 9, 10, 11, 12, 13, 14, 15, 16, 17, 18, 19, 20, 21, 22, 23, 24, 25, 26, 27, 28, 29, 30, 31, 32, 33, 34, 35, 36, 37, 38, 39, 40, 41, 42, 43, 44] rfl) hK (hD.sub [0, 1, 2, 3, 4, 5, 6, 7, 8, 9, 10, 11, 12, 13, 14, 15, 16, 17, 18, 19, 20, 21, 22, 23, 24, 25, 26, 27, 28, 29, 30, 31, 32, 33, 34, 35, 36, 37, 38, 39, 40, 41, 42, 43, 44] (by decide) rfl) hN⟩ rfl rfl hl.1 rfl (lv_room (Nat.le_of_ble_eq_true rfl)) dL_isInserted_51 ⟨Nat.le_refl _, Nat.le_refl _⟩) hP hD hS hA [0, 1, 2, 3, 4, 5, 6, 7, 8, 9, 10, 11, 12, 13, 14, 15, 16, 17, 18, 19, 20, 21, 22, 23, 24, 25, 26, 27, 28, 29, 30, 31, 32, 33, 34, 35, 36, 37, 38, 39, 40, 41, 42, 43, 44] [45] [1, 2, 3, 4, 5, 6, 7, 8, 9, 10, 11, 12, 13, 14, 15, 16, 17, 18, 19, 20, 21, 22, 23, 24, 25, 26, 27, 28, 29, 30, 31, 32, 33, 34, 35, 36, 37, 38, 39, 40, 41, 42, 43, 44, 45, 0] rfl rfl (by decide) (fun _ => rfl) (fun u_35 H locs hP hD hS hz => ?_)
  refine lv_iload_n hx hb dL_isInserted_54 rfl (lv_at hl 2 rfl) ?_
  refine lv_bipush (v := Int32.ofInt 24) hx hb dL_isInserted_55 (by decide +kernel) ?_
  obtain ⟨g_37, h⟩ := gd_e h
  refine z_icmp_ge (tgt := 64) hx hb g_37 (by decide) dL_isInserted_57 (by decide) (fun b_38 => ?_) (fun b_38 => ?_)
  · have h := it_n b_38 h
    refine lv_bipush (v := Int32.ofInt (-3)) hx hb dL_isInserted_64 (by decide +kernel) ?_
    obtain ⟨g_39, h⟩ := gd_e h
    refine z_icmp_ne (tgt := 73) hx hb g_39 (by decide) dL_isInserted_66 (by decide) (fun b_40 => ?_) (fun b_40 => ?_)
    · have h := it_n b_40 h
      refine lv_iconst (v := Int32.ofInt 0) hx hb dL_isInserted_73 rfl ?_
      obtain rfl := Option.some.inj h
      exact z_zret hx hb hr hlk (show narrow .boolean (.int (Int32.ofInt 0)) = .int (Int32.ofInt 0) from by decide) (fun i k => if i = 7 then (if k = 9 then (u_35 7 9) else (u_35 7) k) else if i = 8 then (if k = 9 then (u_35 8 9) else (u_35 8) k) else if i = 9 then (if k = 9 then (u_35 9 9) else (u_35 9) k) else if i = 10 then (if k = 9 then (u_35 10 9) else (u_35 10) k) else 0) hP hD hS dL_isInserted_74
    · have h := it_p b_40 h
      refine lv_iconst (v := Int32.ofInt 1) hx hb dL_isInserted_69 rfl ?_
      refine lv_goto (tgt := 74) hx hb dL_isInserted_70 (by decide) ?_
      obtain rfl := Option.some.inj h
      exact z_zret hx hb hr hlk (show narrow .boolean (.int (Int32.ofInt 1)) = .int (Int32.ofInt 1) from by decide) (fun i k => if i = 7 then (if k = 9 then (u_35 7 9) else (u_35 7) k) else if i = 8 then (if k = 9 then (u_35 8 9) else (u_35 8) k) else if i = 9 then (if k = 9 then (u_35 9 9) else (u_35 9) k) else if i = 10 then (if k = 9 then (u_35 10 9) else (u_35 10) k) else 0) hP hD hS dL_isInserted_74
  · have h := it_p b_38 h
    refine lv_iload_n hx hb dL_isInserted_60 rfl (lv_at hl 2 rfl) ?_
    refine lv_goto (tgt := 66) hx hb dL_isInserted_61 (by decide) ?_
    obtain ⟨g_41, h⟩ := gd_e h
    refine z_icmp_ne (tgt := 73) hx hb g_41 g_37 dL_isInserted_66 (by decide) (fun b_42 => ?_) (fun b_42 => ?_)
    · have h := it_n b_42 h
      refine lv_iconst (v := Int32.ofInt 0) hx hb dL_isInserted_73 rfl ?_
      obtain rfl := Option.some.inj h
      exact z_zret hx hb hr hlk (show narrow .boolean (.int (Int32.ofInt 0)) = .int (Int32.ofInt 0) from by decide) (fun i k => if i = 7 then (if k = 9 then (u_35 7 9) else (u_35 7) k) else if i = 8 then (if k = 9 then (u_35 8 9) else (u_35 8) k) else if i = 9 then (if k = 9 then (u_35 9 9) else (u_35 9) k) else if i = 10 then (if k = 9 then (u_35 10 9) else (u_35 10) k) else 0) hP hD hS dL_isInserted_74
    · have h := it_p b_42 h
      refine lv_iconst (v := Int32.ofInt 1) hx hb dL_isInserted_69 rfl ?_
      refine lv_goto (tgt := 74) hx hb dL_isInserted_70 (by decide) ?_
      obtain rfl := Option.some.inj h
      exact z_zret hx hb hr hlk (show narrow .boolean (.int (Int32.ofInt 1)) = .int (Int32.ofInt 1) from by decide) (fun i k => if i = 7 then (if k = 9 then (u_35 7 9) else (u_35 7) k) else if i = 8 then (if k = 9 then (u_35 8 9) else (u_35 8) k) else if i = 9 then (if k = 9 then (u_35 9 9) else (u_35 9) k) else if i = 10 then (if k = 9 then (u_35 10 9) else (u_35 10) k) else 0) hP hD hS dL_isInserted_74
