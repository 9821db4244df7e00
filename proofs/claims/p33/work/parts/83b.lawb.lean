/-! the law's methods: contracts -/

set_option maxHeartbeats 4000000 in
set_option maxRecDepth 100000 in
theorem w_Lw_leaf_L13 {p : Program} {l : Launch} {e : Env} {s : State} {m : MethodId} {args : Array Value} {below : List Frame} {meth : Method} {c : Code} {A : Nat → Prop} (D : va_G) (cI cZ cT : ClassId) (h_R : Nat) (h_T : Nat) (hc_R : Nat) (hp_R : Nat) (h_K : Nat) (hx_R : Nat) (hh_R : Nat) (hs_R : Nat) (q_T : Nat → Nat) (q_K : Nat → Nat) (h_A1 : Nat) (n_A1 : Nat) (c_hasSnapshot : Int) (T : TV) (K : KV) (fA1 : Nat → Int) (x2 : Int) (x5 : Int) (res : Int) (k : Int → Int → Option (Int)) (hF : zF p m c cL_leaf 10 s args yL_leaf.cls meth (some .int) yL_leaf.name A D (zt cI cZ cT))
    (hk : ∀ (x4 : Int) (x6 : Int) (H : Heap) (locs : List Loc) (ls : Array Slot), k x4 x6 = some res → va_P D vwCl ((zRt h_R h_T hc_R hp_R h_K hx_R hh_R hs_R c_hasSnapshot) ++ (zTr cI h_T q_T T) ++ (zWk cI h_K q_K K) ++ (zAr cI h_A1 n_A1 fA1)) H → va_D A ((zRt h_R h_T hc_R hp_R h_K hx_R hh_R hs_R c_hasSnapshot) ++ (zTr cI h_T q_T T) ++ (zWk cI h_K q_K K) ++ (zAr cI h_A1 n_A1 fA1)) → va_S A s.heap H locs → lv_has ls 10 [(0, .ref h_R), (1, .ref h_A1), (2, vI x2), (4, vI x4), (5, vI x5)] → W p l e rm_Lw_leaf s m args below meth c H locs 0 0 (MQ below (zQi D (res) (fun u => (zRt h_R h_T hc_R hp_R h_K hx_R hh_R hs_R c_hasSnapshot) ++ (zTr cI h_T q_T T) ++ (zWk cI h_K q_K K) ++ (zAr cI h_A1 n_A1 fA1)) A) args s 0 0 A) (F0 m 86 ls [])) :
    ∀ (n : Nat) (x4 : Int) (x6 : Int) (H : Heap) (locs : List Loc) (ls : Array Slot), f_Lw_leaf_L13 n_A1 T K fA1 x2 x5 k n x4 x6 = some res → va_P D vwCl ((zRt h_R h_T hc_R hp_R h_K hx_R hh_R hs_R c_hasSnapshot) ++ (zTr cI h_T q_T T) ++ (zWk cI h_K q_K K) ++ (zAr cI h_A1 n_A1 fA1)) H → va_D A ((zRt h_R h_T hc_R hp_R h_K hx_R hh_R hs_R c_hasSnapshot) ++ (zTr cI h_T q_T T) ++ (zWk cI h_K q_K K) ++ (zAr cI h_A1 n_A1 fA1)) → va_S A s.heap H locs → lv_has ls 10 [(0, .ref h_R), (1, .ref h_A1), (2, vI x2), (4, vI x4), (5, vI x5), (6, vI x6)] → W p l e rm_Lw_leaf s m args below meth c H locs 0 0 (MQ below (zQi D (res) (fun u => (zRt h_R h_T hc_R hp_R h_K hx_R hh_R hs_R c_hasSnapshot) ++ (zTr cI h_T q_T T) ++ (zWk cI h_K q_K K) ++ (zAr cI h_A1 n_A1 fA1)) A) args s 0 0 A) (F0 m 13 ls []) := by
  have hx := hF.1.1
  have hb := hF.1.2.1
  have hml := hF.1.2.2.1
  have hown : s.vm.findClass "RectangleTreeLaw" = some m.cls := hF.1.2.2.2.1
  have hts := hF.1.2.2.2.2
  have hr := hF.2.1
  have hlk := hF.2.2.1
  have hK := hF.2.2.2.2.1
  have hN := hF.2.2.2.2.2.1
  have hA := hF.2.2.2.2.2.2
  intro n
  induction n with
  | zero => intro x4 x6  H locs ls h; cases h
  | succ n ih =>
    intro x4 x6  H locs ls h  hP hD hS hl
    rw [f_Lw_leaf_L13] at h
    refine lv_iload hx hb dL_leaf_13 (lv_at hl 5 rfl) ?_
    refine lv_iload hx hb dL_leaf_15 (lv_at hl 4 rfl) ?_
    obtain ⟨g_4, h⟩ := gd_e h
    obtain ⟨g_5, h⟩ := gd_e h
    refine z_icmp_ge (tgt := 86) hx hb g_4 g_5 dL_leaf_17 (by decide) (fun b_6 => ?_) (fun b_6 => ?_)
    · have h := it_n b_6 h
      exact hk (x4) (x6) H locs ls h hP hD hS (lv_sub hl [0, 1, 2, 3, 4] rfl)
    · have h := it_p b_6 h
      refine lv_aload_n hx hb dL_leaf_20 rfl (lv_at hl 0 rfl) ?_
      refine lv_iload_n hx hb dL_leaf_21 rfl (lv_at hl 2 rfl) ?_
      refine lv_iload hx hb dL_leaf_22 (lv_at hl 5 rfl) ?_
      obtain ⟨r_7, e_8, h⟩ := bd1_e h
      refine z_goi (ws' := []) (ret := r_7) (wc := (zRt (h_R) (h_T) (hc_R) (hp_R) (h_K) (hx_R) (hh_R) (hs_R) (c_hasSnapshot)) ++ (zTr cI (h_T) (q_T) (T)) ++ (zWk cI (h_K) (q_K) (K))) (wn := fun u_9 => (zRt h_R h_T hc_R hp_R h_K hx_R hh_R hs_R c_hasSnapshot) ++ (zTr cI h_T q_T T) ++ (zWk cI h_K q_K K) ++ (zAr cI h_A1 n_A1 fA1)) (wr := ([10].filterMap (fun i => ((zRt h_R h_T hc_R hp_R h_K hx_R hh_R hs_R c_hasSnapshot) ++ (zTr cI h_T q_T T) ++ (zWk cI h_K q_K K) ++ (zAr cI h_A1 n_A1 fA1))[i]?))) (va_runV (As := [vI x2, vI x6]) (rest := []) hF.1 (c_Rt_entry l D cI cZ cT h_R h_T hc_R hp_R h_K hx_R hh_R hs_R q_T q_K c_hasSnapshot T K x2 x6 H.size (r_7) e_8) (cwV 2 hts (zgV wm321 wm322 wm323 wm32 wm324) rfl rfl rfl (by decide +kernel) ⟨Nat.le_of_ble_eq_true rfl, Nat.le_of_ble_eq_true rfl⟩) ⟨zP.blind, va_recv hK (z_subP (ws' := (zRt (h_R) (h_T) (hc_R) (hp_R) (h_K) (hx_R) (hh_R) (hs_R) (c_hasSnapshot)) ++ (zTr cI (h_T) (q_T) (T)) ++ (zWk cI (h_K) (q_K) (K))) hP [0, 1, 2, 3, 4, 5, 6, 7, 8, 9] rfl) (ci := 6) (q0 := 0) rfl rfl, zP.enter (z_subP (ws' := (zRt (h_R) (h_T) (hc_R) (hp_R) (h_K) (hx_R) (hh_R) (hs_R) (c_hasSnapshot)) ++ (zTr cI (h_T) (q_T) (T)) ++ (zWk cI (h_K) (q_K) (K))) hP [0, 1, 2, 3, 4, 5, 6, 7, 8, 9] rfl) hK (hD.sub [0, 1, 2, 3, 4, 5, 6, 7, 8, 9] (by decide) rfl) hN⟩ rfl rfl hl.1 rfl (lv_room (Nat.le_of_ble_eq_true rfl)) dL_leaf_24 ⟨Nat.le_refl _, Nat.le_refl _⟩) hP hD hS hA [0, 1, 2, 3, 4, 5, 6, 7, 8, 9] [10] [1, 2, 3, 4, 5, 6, 7, 8, 9, 10, 0] rfl rfl (by decide) (fun _ => rfl) (fun u_9 H locs hP hD hS hz => ?_)
      refine lv_istore (lv' := [(7, vI r_7), (0, .ref h_R), (1, .ref h_A1), (2, vI x2), (4, vI x4), (5, vI x5), (6, vI x6)]) hx hb dL_leaf_27 hl (by decide) rfl (fun ls hl => ?_)
      refine lv_iload hx hb dL_leaf_29 (lv_at hl 0 rfl) ?_
      obtain ⟨g_10, h⟩ := gd_e h
      refine z_if_lt (tgt := 69) hx hb g_10 dL_leaf_31 (by decide) (fun b_11 => ?_) (fun b_11 => ?_)
      · have h := it_p b_11 h
        refine lv_iconst (v := Int32.ofInt (-1)) hx hb dL_leaf_69 rfl ?_
        obtain rfl := Option.some.inj h
        exact z_iret hx hb hr hlk (fun _ _ => 0) hP hD hS dL_leaf_70
      · have h := it_n b_11 h
        refine lv_iload hx hb dL_leaf_34 (lv_at hl 0 rfl) ?_
        refine lv_bipush (v := Int32.ofInt 23) hx hb dL_leaf_36 (by decide +kernel) ?_
        refine z_icmp_gt (tgt := 69) hx hb g_10 (by decide) dL_leaf_38 (by decide) (fun b_12 => ?_) (fun b_12 => ?_)
        · have h := it_p b_12 h
          refine lv_iconst (v := Int32.ofInt (-1)) hx hb dL_leaf_69 rfl ?_
          obtain rfl := Option.some.inj h
          exact z_iret hx hb hr hlk (fun _ _ => 0) hP hD hS dL_leaf_70
        · have h := it_n b_12 h
          refine lv_aload_n hx hb dL_leaf_41 rfl (lv_at hl 2 rfl) ?_
          refine lv_iload hx hb dL_leaf_42 (lv_at hl 0 rfl) ?_
          obtain ⟨g_13, h⟩ := gd_e h
          refine z_iald (n := n_A1) (f := fA1) (i := r_7) hx hb hK hP 10 rfl rfl g_13 g_10.2 dL_leaf_44 ?_
          obtain ⟨g_14, h⟩ := gd_e h
          refine z_if_lt (tgt := 69) hx hb g_14 dL_leaf_45 (by decide) (fun b_15 => ?_) (fun b_15 => ?_)
          · have h := it_p b_15 h
            refine lv_iconst (v := Int32.ofInt (-1)) hx hb dL_leaf_69 rfl ?_
            obtain rfl := Option.some.inj h
            exact z_iret hx hb hr hlk (fun _ _ => 0) hP hD hS dL_leaf_70
          · have h := it_n b_15 h
            refine lv_iload hx hb dL_leaf_48 (lv_at hl 4 rfl) ?_
            refine lv_iload hx hb dL_leaf_50 (lv_at hl 0 rfl) ?_
            refine z_ishr hx hb dL_leaf_52 ?_
            refine lv_iconst (v := Int32.ofInt 1) hx hb dL_leaf_53 rfl ?_
            refine z_iand hx hb dL_leaf_54 ?_
            refine lv_iconst (v := Int32.ofInt 1) hx hb dL_leaf_55 rfl ?_
            refine z_icmp_eq (tgt := 69) hx hb (ck_of32 _) (by decide) dL_leaf_56 (by decide) (fun b_16 => ?_) (fun b_16 => ?_)
            · have h := it_p b_16 h
              refine lv_iconst (v := Int32.ofInt (-1)) hx hb dL_leaf_69 rfl ?_
              obtain rfl := Option.some.inj h
              exact z_iret hx hb hr hlk (fun _ _ => 0) hP hD hS dL_leaf_70
            · have h := it_n b_16 h
              refine lv_aload_n hx hb dL_leaf_59 rfl (lv_at hl 1 rfl) ?_
              refine lv_iload hx hb dL_leaf_60 (lv_at hl 0 rfl) ?_
              obtain ⟨r_17, e_18, h⟩ := bd1_e h
              refine z_goi (ws' := []) (ret := r_17) (wc := (zRt (h_R) (h_T) (hc_R) (hp_R) (h_K) (hx_R) (hh_R) (hs_R) (c_hasSnapshot)) ++ (zTr cI (h_T) (q_T) (T)) ++ (zWk cI (h_K) (q_K) (K))) (wn := fun u_19 => (zRt h_R h_T hc_R hp_R h_K hx_R hh_R hs_R c_hasSnapshot) ++ (zTr cI h_T q_T T) ++ (zWk cI h_K q_K K) ++ (zAr cI h_A1 n_A1 fA1)) (wr := ([10].filterMap (fun i => ((zRt h_R h_T hc_R hp_R h_K hx_R hh_R hs_R c_hasSnapshot) ++ (zTr cI h_T q_T T) ++ (zWk cI h_K q_K K) ++ (zAr cI h_A1 n_A1 fA1))[i]?))) (va_runV (As := [vI r_7]) (rest := []) hF.1 (c_Rt_leafOf l D cI cZ cT h_R h_T hc_R hp_R h_K hx_R hh_R hs_R q_T q_K c_hasSnapshot T K r_7 H.size (r_17) e_18) (cwV 1 hts (zgV wm339 wm340 wm341 wm32 wm342) rfl rfl rfl (by decide +kernel) ⟨Nat.le_of_ble_eq_true rfl, Nat.le_of_ble_eq_true rfl⟩) ⟨zP.blind, va_recv hK (z_subP (ws' := (zRt (h_R) (h_T) (hc_R) (hp_R) (h_K) (hx_R) (hh_R) (hs_R) (c_hasSnapshot)) ++ (zTr cI (h_T) (q_T) (T)) ++ (zWk cI (h_K) (q_K) (K))) hP [0, 1, 2, 3, 4, 5, 6, 7, 8, 9] rfl) (ci := 6) (q0 := 0) rfl rfl, zP.enter (z_subP (ws' := (zRt (h_R) (h_T) (hc_R) (hp_R) (h_K) (hx_R) (hh_R) (hs_R) (c_hasSnapshot)) ++ (zTr cI (h_T) (q_T) (T)) ++ (zWk cI (h_K) (q_K) (K))) hP [0, 1, 2, 3, 4, 5, 6, 7, 8, 9] rfl) hK (hD.sub [0, 1, 2, 3, 4, 5, 6, 7, 8, 9] (by decide) rfl) hN⟩ rfl rfl hl.1 rfl (lv_room (Nat.le_of_ble_eq_true rfl)) dL_leaf_62 ⟨Nat.le_refl _, Nat.le_refl _⟩) hP hD hS hA [0, 1, 2, 3, 4, 5, 6, 7, 8, 9] [10] [1, 2, 3, 4, 5, 6, 7, 8, 9, 10, 0] rfl rfl (by decide) (fun _ => rfl) (fun u_19 H locs hP hD hS hz => ?_)
              refine lv_iload_n hx hb dL_leaf_65 rfl (lv_at hl 3 rfl) ?_
              obtain ⟨g_20, h⟩ := gd_e h
              obtain ⟨g_21, h⟩ := gd_e h
              refine z_icmp_eq (tgt := 71) hx hb g_20 g_21 dL_leaf_66 (by decide) (fun b_22 => ?_) (fun b_22 => ?_)
              · have h := it_p b_22 h
                refine lv_iload hx hb dL_leaf_71 (lv_at hl 4 rfl) ?_
                refine lv_iconst (v := Int32.ofInt 1) hx hb dL_leaf_73 rfl ?_
                refine lv_iload hx hb dL_leaf_74 (lv_at hl 0 rfl) ?_
                refine z_ishl hx hb dL_leaf_76 ?_
                refine z_ior hx hb dL_leaf_77 ?_
                refine lv_istore (lv' := [(4, vI (iOr x4 (iShl 1 r_7))), (7, vI r_7), (0, .ref h_R), (1, .ref h_A1), (2, vI x2), (5, vI x5), (6, vI x6)]) hx hb dL_leaf_78 hl (by decide) rfl (fun ls hl => ?_)
                refine lv_iinc (v := Int32.ofInt (x6 + 1)) (lv' := [(6, vI (x6 + 1)), (4, vI (iOr x4 (iShl 1 r_7))), (7, vI r_7), (0, .ref h_R), (1, .ref h_A1), (2, vI x2), (5, vI x5)]) hx hb dL_leaf_80 hl (k := 6) rfl (z_inc _ _) (by decide) rfl (fun ls hl => ?_)
                refine lv_goto (tgt := 13) hx hb dL_leaf_83 (by decide) ?_
                exact ih ((iOr x4 (iShl 1 r_7))) ((x6 + 1)) H locs ls h hP hD hS (lv_sub hl [3, 4, 5, 1, 6, 0] rfl)
              · have h := it_n b_22 h
                refine lv_iconst (v := Int32.ofInt (-1)) hx hb dL_leaf_69 rfl ?_
                obtain rfl := Option.some.inj h
                exact z_iret hx hb hr hlk (fun _ _ => 0) hP hD hS dL_leaf_70

set_option maxHeartbeats 4000000 in
set_option maxRecDepth 100000 in
theorem w_Lw_leaf_L117 {p : Program} {l : Launch} {e : Env} {s : State} {m : MethodId} {args : Array Value} {below : List Frame} {meth : Method} {c : Code} {A : Nat → Prop} (D : va_G) (cI cZ cT : ClassId) (h_R : Nat) (h_T : Nat) (hc_R : Nat) (hp_R : Nat) (h_K : Nat) (hx_R : Nat) (hh_R : Nat) (hs_R : Nat) (q_T : Nat → Nat) (q_K : Nat → Nat) (h_A1 : Nat) (n_A1 : Nat) (c_hasSnapshot : Int) (T : TV) (K : KV) (fA1 : Nat → Int) (x2 : Int) (x4 : Int) (x5 : Int) (x6 : Int) (res : Int) (k : Int → Int → Option (Int)) (hF : zF p m c cL_leaf 10 s args yL_leaf.cls meth (some .int) yL_leaf.name A D (zt cI cZ cT))
    (hk : ∀ (x7 : Int) (x8 : Int) (H : Heap) (locs : List Loc) (ls : Array Slot), k x7 x8 = some res → va_P D vwCl ((zRt h_R h_T hc_R hp_R h_K hx_R hh_R hs_R c_hasSnapshot) ++ (zTr cI h_T q_T T) ++ (zWk cI h_K q_K K) ++ (zAr cI h_A1 n_A1 fA1)) H → va_D A ((zRt h_R h_T hc_R hp_R h_K hx_R hh_R hs_R c_hasSnapshot) ++ (zTr cI h_T q_T T) ++ (zWk cI h_K q_K K) ++ (zAr cI h_A1 n_A1 fA1)) → va_S A s.heap H locs → lv_has ls 10 [(0, .ref h_R), (1, .ref h_A1), (2, vI x2), (4, vI x4), (5, vI x5), (6, vI x6), (7, vI x7)] → W p l e rm_Lw_leaf s m args below meth c H locs 0 0 (MQ below (zQi D (res) (fun u => (zRt h_R h_T hc_R hp_R h_K hx_R hh_R hs_R c_hasSnapshot) ++ (zTr cI h_T q_T T) ++ (zWk cI h_K q_K K) ++ (zAr cI h_A1 n_A1 fA1)) A) args s 0 0 A) (F0 m 185 ls [])) :
    ∀ (n : Nat) (x7 : Int) (x8 : Int) (H : Heap) (locs : List Loc) (ls : Array Slot), f_Lw_leaf_L117 n_A1 T K fA1 x2 x5 x6 k n x7 x8 = some res → va_P D vwCl ((zRt h_R h_T hc_R hp_R h_K hx_R hh_R hs_R c_hasSnapshot) ++ (zTr cI h_T q_T T) ++ (zWk cI h_K q_K K) ++ (zAr cI h_A1 n_A1 fA1)) H → va_D A ((zRt h_R h_T hc_R hp_R h_K hx_R hh_R hs_R c_hasSnapshot) ++ (zTr cI h_T q_T T) ++ (zWk cI h_K q_K K) ++ (zAr cI h_A1 n_A1 fA1)) → va_S A s.heap H locs → lv_has ls 10 [(0, .ref h_R), (1, .ref h_A1), (2, vI x2), (4, vI x4), (5, vI x5), (6, vI x6), (7, vI x7), (8, vI x8)] → W p l e rm_Lw_leaf s m args below meth c H locs 0 0 (MQ below (zQi D (res) (fun u => (zRt h_R h_T hc_R hp_R h_K hx_R hh_R hs_R c_hasSnapshot) ++ (zTr cI h_T q_T T) ++ (zWk cI h_K q_K K) ++ (zAr cI h_A1 n_A1 fA1)) A) args s 0 0 A) (F0 m 117 ls []) := by
  have hx := hF.1.1
  have hb := hF.1.2.1
  have hml := hF.1.2.2.1
  have hown : s.vm.findClass "RectangleTreeLaw" = some m.cls := hF.1.2.2.2.1
  have hts := hF.1.2.2.2.2
  have hr := hF.2.1
  have hlk := hF.2.2.1
  have hK := hF.2.2.2.2.1
  have hN := hF.2.2.2.2.2.1
  have hA := hF.2.2.2.2.2.2
  intro n
  induction n with
  | zero => intro x7 x8  H locs ls h; cases h
  | succ n ih =>
    intro x7 x8  H locs ls h  hP hD hS hl
    rw [f_Lw_leaf_L117] at h
    refine lv_iload hx hb dL_leaf_117 (lv_at hl 7 rfl) ?_
    refine lv_iload hx hb dL_leaf_119 (lv_at hl 4 rfl) ?_
    obtain ⟨g_30, h⟩ := gd_e h
    obtain ⟨g_31, h⟩ := gd_e h
    refine z_icmp_ge (tgt := 185) hx hb g_30 g_31 dL_leaf_121 (by decide) (fun b_32 => ?_) (fun b_32 => ?_)
    · have h := it_n b_32 h
      exact hk (x7) (x8) H locs ls h hP hD hS (lv_sub hl [0, 1, 2, 3, 4, 5, 6] rfl)
    · have h := it_p b_32 h
      refine lv_aload_n hx hb dL_leaf_124 rfl (lv_at hl 1 rfl) ?_
      refine lv_aload_n hx hb dL_leaf_125 rfl (lv_at hl 0 rfl) ?_
      refine lv_iload_n hx hb dL_leaf_126 rfl (lv_at hl 2 rfl) ?_
      refine lv_iload hx hb dL_leaf_127 (lv_at hl 7 rfl) ?_
      obtain ⟨r_33, e_34, h⟩ := bd1_e h
      refine z_goi (ws' := []) (ret := r_33) (wc := (zRt (h_R) (h_T) (hc_R) (hp_R) (h_K) (hx_R) (hh_R) (hs_R) (c_hasSnapshot)) ++ (zTr cI (h_T) (q_T) (T)) ++ (zWk cI (h_K) (q_K) (K))) (wn := fun u_35 => (zRt h_R h_T hc_R hp_R h_K hx_R hh_R hs_R c_hasSnapshot) ++ (zTr cI h_T q_T T) ++ (zWk cI h_K q_K K) ++ (zAr cI h_A1 n_A1 fA1)) (wr := ([10].filterMap (fun i => ((zRt h_R h_T hc_R hp_R h_K hx_R hh_R hs_R c_hasSnapshot) ++ (zTr cI h_T q_T T) ++ (zWk cI h_K q_K K) ++ (zAr cI h_A1 n_A1 fA1))[i]?))) (va_runV (As := [vI x2, vI x8]) (rest := [.ref h_A1]) hF.1 (c_Rt_entry l D cI cZ cT h_R h_T hc_R hp_R h_K hx_R hh_R hs_R q_T q_K c_hasSnapshot T K x2 x8 H.size (r_33) e_34) (cwV 2 hts (zgV wm321 wm322 wm323 wm32 wm324) rfl rfl rfl (by decide +kernel) ⟨Nat.le_of_ble_eq_true rfl, Nat.le_of_ble_eq_true rfl⟩) ⟨zP.blind, va_recv hK (z_subP (ws' := (zRt (h_R) (h_T) (hc_R) (hp_R) (h_K) (hx_R) (hh_R) (hs_R) (c_hasSnapshot)) ++ (zTr cI (h_T) (q_T) (T)) ++ (zWk cI (h_K) (q_K) (K))) hP [0, 1, 2, 3, 4, 5, 6, 7, 8, 9] rfl) (ci := 6) (q0 := 0) rfl rfl, zP.enter (z_subP (ws' := (zRt (h_R) (h_T) (hc_R) (hp_R) (h_K) (hx_R) (hh_R) (hs_R) (c_hasSnapshot)) ++ (zTr cI (h_T) (q_T) (T)) ++ (zWk cI (h_K) (q_K) (K))) hP [0, 1, 2, 3, 4, 5, 6, 7, 8, 9] rfl) hK (hD.sub [0, 1, 2, 3, 4, 5, 6, 7, 8, 9] (by decide) rfl) hN⟩ rfl rfl hl.1 rfl (lv_room (Nat.le_of_ble_eq_true rfl)) dL_leaf_129 ⟨Nat.le_refl _, Nat.le_refl _⟩) hP hD hS hA [0, 1, 2, 3, 4, 5, 6, 7, 8, 9] [10] [1, 2, 3, 4, 5, 6, 7, 8, 9, 10, 0] rfl rfl (by decide) (fun _ => rfl) (fun u_35 H locs hP hD hS hz => ?_)
      obtain ⟨g_36, h⟩ := gd_e h
      obtain ⟨g_37, h⟩ := gd_e h
      refine z_iald (n := n_A1) (f := fA1) (i := r_33) hx hb hK hP 10 rfl rfl g_36 g_37.2 dL_leaf_132 ?_
      refine lv_iload hx hb dL_leaf_133 (lv_at hl 5 rfl) ?_
      obtain ⟨r_38, e_39, h⟩ := bd1_e h
      refine z_goi (ws' := []) (ret := r_38) (wc := ([] : va_W)) (wn := fun u_40 => (zRt h_R h_T hc_R hp_R h_K hx_R hh_R hs_R c_hasSnapshot) ++ (zTr cI h_T q_T T) ++ (zWk cI h_K q_K K) ++ (zAr cI h_A1 n_A1 fA1)) (wr := ([0, 1, 2, 3, 4, 5, 6, 7, 8, 9, 10].filterMap (fun i => ((zRt h_R h_T hc_R hp_R h_K hx_R hh_R hs_R c_hasSnapshot) ++ (zTr cI h_T q_T T) ++ (zWk cI h_K q_K K) ++ (zAr cI h_A1 n_A1 fA1))[i]?))) (va_runS (As := [vI (fA1 (r_33).toNat), vI x6]) (rest := []) hF.1 (c_Lw_corner l D cI cZ cT (fA1 (r_33).toNat) x6 H.size (r_38) e_39) (va_cwS 2 hts (zgS wm352 wm353 wm31 wm354) rfl rfl rfl (by decide +kernel) ⟨Nat.le_of_ble_eq_true rfl, Nat.le_of_ble_eq_true rfl⟩) ⟨zP.blind, zP.enter (z_subP (ws' := ([] : va_W)) hP [] rfl) hK (hD.sub [] (by decide) rfl) hN⟩ rfl rfl hl.1 rfl (lv_room (Nat.le_of_ble_eq_true rfl)) dL_leaf_135 ⟨Nat.le_refl _, Nat.le_refl _⟩) hP hD hS hA [] [0, 1, 2, 3, 4, 5, 6, 7, 8, 9, 10] [0, 1, 2, 3, 4, 5, 6, 7, 8, 9, 10] rfl rfl (by decide) (fun _ => rfl) (fun u_40 H locs hP hD hS hz => ?_)
      refine lv_istore (lv' := [(9, vI r_38), (0, .ref h_R), (1, .ref h_A1), (2, vI x2), (4, vI x4), (5, vI x5), (6, vI x6), (7, vI x7), (8, vI x8)]) hx hb dL_leaf_138 hl (by decide) rfl (fun ls hl => ?_)
      refine lv_iload hx hb dL_leaf_140 (lv_at hl 6 rfl) ?_
      refine lv_iconst (v := Int32.ofInt 2) hx hb dL_leaf_142 rfl ?_
      obtain ⟨g_41, h⟩ := gd_e h
      refine z_icmp_ge (tgt := 163) hx hb g_41 (by decide) dL_leaf_143 (by decide) (fun b_42 => ?_) (fun b_42 => ?_)
      · have h := it_n b_42 h
        refine lv_iload hx hb dL_leaf_163 (lv_at hl 0 rfl) ?_
        refine lv_iload hx hb dL_leaf_165 (lv_at hl 7 rfl) ?_
        obtain ⟨g_43, h⟩ := gd_e h
        obtain ⟨g_44, h⟩ := gd_e h
        refine z_icmp_le (tgt := 175) hx hb g_43 g_44 dL_leaf_167 (by decide) (fun b_45 => ?_) (fun b_45 => ?_)
        · have h := it_n b_45 h
          refine lv_iload hx hb dL_leaf_175 (lv_at hl 7 rfl) ?_
          refine lv_istore (lv' := [(7, vI x7), (9, vI r_38), (0, .ref h_R), (1, .ref h_A1), (2, vI x2), (4, vI x4), (5, vI x5), (6, vI x6), (8, vI x8)]) hx hb dL_leaf_177 hl (by decide) rfl (fun ls hl => ?_)
          refine lv_iinc (v := Int32.ofInt (x8 + 1)) (lv' := [(8, vI (x8 + 1)), (7, vI x7), (9, vI r_38), (0, .ref h_R), (1, .ref h_A1), (2, vI x2), (4, vI x4), (5, vI x5), (6, vI x6)]) hx hb dL_leaf_179 hl (k := 8) rfl (z_inc _ _) (by decide) rfl (fun ls hl => ?_)
          refine lv_goto (tgt := 117) hx hb dL_leaf_182 (by decide) ?_
          exact ih (x7) ((x8 + 1)) H locs ls h hP hD hS (lv_sub hl [3, 4, 5, 6, 7, 8, 1, 0] rfl)
        · have h := it_p b_45 h
          refine lv_iload hx hb dL_leaf_170 (lv_at hl 0 rfl) ?_
          refine lv_goto (tgt := 177) hx hb dL_leaf_172 (by decide) ?_
          refine lv_istore (lv' := [(7, vI r_38), (9, vI r_38), (0, .ref h_R), (1, .ref h_A1), (2, vI x2), (4, vI x4), (5, vI x5), (6, vI x6), (8, vI x8)]) hx hb dL_leaf_177 hl (by decide) rfl (fun ls hl => ?_)
          refine lv_iinc (v := Int32.ofInt (x8 + 1)) (lv' := [(8, vI (x8 + 1)), (7, vI r_38), (9, vI r_38), (0, .ref h_R), (1, .ref h_A1), (2, vI x2), (4, vI x4), (5, vI x5), (6, vI x6)]) hx hb dL_leaf_179 hl (k := 8) rfl (z_inc _ _) (by decide) rfl (fun ls hl => ?_)
          refine lv_goto (tgt := 117) hx hb dL_leaf_182 (by decide) ?_
          exact ih (r_38) ((x8 + 1)) H locs ls h hP hD hS (lv_sub hl [3, 4, 5, 6, 7, 8, 1, 0] rfl)
      · have h := it_p b_42 h
        refine lv_iload hx hb dL_leaf_146 (lv_at hl 0 rfl) ?_
        refine lv_iload hx hb dL_leaf_148 (lv_at hl 7 rfl) ?_
        obtain ⟨g_46, h⟩ := gd_e h
        obtain ⟨g_47, h⟩ := gd_e h
        refine z_icmp_ge (tgt := 158) hx hb g_46 g_47 dL_leaf_150 (by decide) (fun b_48 => ?_) (fun b_48 => ?_)
        · have h := it_n b_48 h
          refine lv_iload hx hb dL_leaf_158 (lv_at hl 7 rfl) ?_
          refine lv_goto (tgt := 177) hx hb dL_leaf_160 (by decide) ?_
          refine lv_istore (lv' := [(7, vI x7), (9, vI r_38), (0, .ref h_R), (1, .ref h_A1), (2, vI x2), (4, vI x4), (5, vI x5), (6, vI x6), (8, vI x8)]) hx hb dL_leaf_177 hl (by decide) rfl (fun ls hl => ?_)
          refine lv_iinc (v := Int32.ofInt (x8 + 1)) (lv' := [(8, vI (x8 + 1)), (7, vI x7), (9, vI r_38), (0, .ref h_R), (1, .ref h_A1), (2, vI x2), (4, vI x4), (5, vI x5), (6, vI x6)]) hx hb dL_leaf_179 hl (k := 8) rfl (z_inc _ _) (by decide) rfl (fun ls hl => ?_)
          refine lv_goto (tgt := 117) hx hb dL_leaf_182 (by decide) ?_
          exact ih (x7) ((x8 + 1)) H locs ls h hP hD hS (lv_sub hl [3, 4, 5, 6, 7, 8, 1, 0] rfl)
        · have h := it_p b_48 h
          refine lv_iload hx hb dL_leaf_153 (lv_at hl 0 rfl) ?_
          refine lv_goto (tgt := 177) hx hb dL_leaf_155 (by decide) ?_
          refine lv_istore (lv' := [(7, vI r_38), (9, vI r_38), (0, .ref h_R), (1, .ref h_A1), (2, vI x2), (4, vI x4), (5, vI x5), (6, vI x6), (8, vI x8)]) hx hb dL_leaf_177 hl (by decide) rfl (fun ls hl => ?_)
          refine lv_iinc (v := Int32.ofInt (x8 + 1)) (lv' := [(8, vI (x8 + 1)), (7, vI r_38), (9, vI r_38), (0, .ref h_R), (1, .ref h_A1), (2, vI x2), (4, vI x4), (5, vI x5), (6, vI x6)]) hx hb dL_leaf_179 hl (k := 8) rfl (z_inc _ _) (by decide) rfl (fun ls hl => ?_)
          refine lv_goto (tgt := 117) hx hb dL_leaf_182 (by decide) ?_
          exact ih (r_38) ((x8 + 1)) H locs ls h hP hD hS (lv_sub hl [3, 4, 5, 6, 7, 8, 1, 0] rfl)

set_option maxHeartbeats 4000000 in
set_option maxRecDepth 100000 in
theorem w_Lw_leaf_L89 {p : Program} {l : Launch} {e : Env} {s : State} {m : MethodId} {args : Array Value} {below : List Frame} {meth : Method} {c : Code} {A : Nat → Prop} (D : va_G) (cI cZ cT : ClassId) (h_R : Nat) (h_T : Nat) (hc_R : Nat) (hp_R : Nat) (h_K : Nat) (hx_R : Nat) (hh_R : Nat) (hs_R : Nat) (q_T : Nat → Nat) (q_K : Nat → Nat) (h_A1 : Nat) (n_A1 : Nat) (c_hasSnapshot : Int) (T : TV) (K : KV) (fA1 : Nat → Int) (x2 : Int) (x4 : Int) (x5 : Int) (res : Int) (k : Int → Option (Int)) (hF : zF p m c cL_leaf 10 s args yL_leaf.cls meth (some .int) yL_leaf.name A D (zt cI cZ cT))
    (hk : ∀ (x6 : Int) (H : Heap) (locs : List Loc) (ls : Array Slot), k x6 = some res → va_P D vwCl ((zRt h_R h_T hc_R hp_R h_K hx_R hh_R hs_R c_hasSnapshot) ++ (zTr cI h_T q_T T) ++ (zWk cI h_K q_K K) ++ (zAr cI h_A1 n_A1 fA1)) H → va_D A ((zRt h_R h_T hc_R hp_R h_K hx_R hh_R hs_R c_hasSnapshot) ++ (zTr cI h_T q_T T) ++ (zWk cI h_K q_K K) ++ (zAr cI h_A1 n_A1 fA1)) → va_S A s.heap H locs → lv_has ls 10 [(4, vI x4)] → W p l e rm_Lw_leaf s m args below meth c H locs 0 0 (MQ below (zQi D (res) (fun u => (zRt h_R h_T hc_R hp_R h_K hx_R hh_R hs_R c_hasSnapshot) ++ (zTr cI h_T q_T T) ++ (zWk cI h_K q_K K) ++ (zAr cI h_A1 n_A1 fA1)) A) args s 0 0 A) (F0 m 205 ls [])) :
    ∀ (n : Nat) (x6 : Int) (H : Heap) (locs : List Loc) (ls : Array Slot), f_Lw_leaf_L89 n_A1 T K fA1 x2 x5 k n x6 = some res → va_P D vwCl ((zRt h_R h_T hc_R hp_R h_K hx_R hh_R hs_R c_hasSnapshot) ++ (zTr cI h_T q_T T) ++ (zWk cI h_K q_K K) ++ (zAr cI h_A1 n_A1 fA1)) H → va_D A ((zRt h_R h_T hc_R hp_R h_K hx_R hh_R hs_R c_hasSnapshot) ++ (zTr cI h_T q_T T) ++ (zWk cI h_K q_K K) ++ (zAr cI h_A1 n_A1 fA1)) → va_S A s.heap H locs → lv_has ls 10 [(0, .ref h_R), (1, .ref h_A1), (2, vI x2), (4, vI x4), (5, vI x5), (6, vI x6)] → W p l e rm_Lw_leaf s m args below meth c H locs 0 0 (MQ below (zQi D (res) (fun u => (zRt h_R h_T hc_R hp_R h_K hx_R hh_R hs_R c_hasSnapshot) ++ (zTr cI h_T q_T T) ++ (zWk cI h_K q_K K) ++ (zAr cI h_A1 n_A1 fA1)) A) args s 0 0 A) (F0 m 89 ls []) := by
  have hx := hF.1.1
  have hb := hF.1.2.1
  have hml := hF.1.2.2.1
  have hown : s.vm.findClass "RectangleTreeLaw" = some m.cls := hF.1.2.2.2.1
  have hts := hF.1.2.2.2.2
  have hr := hF.2.1
  have hlk := hF.2.2.1
  have hK := hF.2.2.2.2.1
  have hN := hF.2.2.2.2.2.1
  have hA := hF.2.2.2.2.2.2
  intro n
  induction n with
  | zero => intro x6  H locs ls h; cases h
  | succ n ih =>
    intro x6  H locs ls h  hP hD hS hl
    rw [f_Lw_leaf_L89] at h
    refine lv_iload hx hb dL_leaf_89 (lv_at hl 5 rfl) ?_
    refine lv_iconst (v := Int32.ofInt 4) hx hb dL_leaf_91 rfl ?_
    obtain ⟨g_25, h⟩ := gd_e h
    refine z_icmp_ge (tgt := 205) hx hb g_25 (by decide) dL_leaf_92 (by decide) (fun b_26 => ?_) (fun b_26 => ?_)
    · have h := it_n b_26 h
      exact hk (x6) H locs ls h hP hD hS (lv_sub hl [3] rfl)
    · have h := it_p b_26 h
      refine lv_iload hx hb dL_leaf_95 (lv_at hl 4 rfl) ?_
      obtain ⟨g_27, h⟩ := gd_e h
      refine z_if_le (tgt := 205) hx hb g_27 dL_leaf_97 (by decide) (fun b_28 => ?_) (fun b_28 => ?_)
      · have h := it_n b_28 h
        exact hk (x6) H locs ls h hP hD hS (lv_sub hl [3] rfl)
      · have h := it_p b_28 h
        refine lv_iload hx hb dL_leaf_100 (lv_at hl 5 rfl) ?_
        refine lv_iconst (v := Int32.ofInt 2) hx hb dL_leaf_102 rfl ?_
        refine z_icmp_ge (tgt := 111) hx hb g_25 (by decide) dL_leaf_103 (by decide) (fun b_29 => ?_) (fun b_29 => ?_)
        · have h := it_n b_29 h
          refine lv_iconst (v := Int32.ofInt (-1)) hx hb dL_leaf_111 rfl ?_
          refine lv_istore (lv' := [(7, vI (-1)), (0, .ref h_R), (1, .ref h_A1), (2, vI x2), (4, vI x4), (5, vI x5), (6, vI x6)]) hx hb dL_leaf_112 hl (by decide) rfl (fun ls hl => ?_)
          refine lv_iconst (v := Int32.ofInt 0) hx hb dL_leaf_114 rfl ?_
          refine lv_istore (lv' := [(8, vI 0), (7, vI (-1)), (0, .ref h_R), (1, .ref h_A1), (2, vI x2), (4, vI x4), (5, vI x5), (6, vI x6)]) hx hb dL_leaf_115 hl (by decide) rfl (fun ls hl => ?_)
          refine w_Lw_leaf_L117 D cI cZ cT (h_R) (h_T) (hc_R) (hp_R) (h_K) (hx_R) (hh_R) (hs_R) (q_T) (q_K) (h_A1) (n_A1) (c_hasSnapshot) (T) (K) (fA1) (x2) (x4) (x5) (x6) _ _ hF (fun x7_49 x8_50 H locs ls h hP hD hS hl => ?_) _ ((-1)) (0) _ _ _ h hP hD hS (lv_sub hl [2, 3, 4, 5, 6, 7, 1, 0] rfl)
          refine lv_aload_n hx hb dL_leaf_185 rfl (lv_at hl 0 rfl) ?_
          refine lv_iload_n hx hb dL_leaf_186 rfl (lv_at hl 2 rfl) ?_
          refine lv_iload hx hb dL_leaf_187 (lv_at hl 5 rfl) ?_
          obtain ⟨r_51, e_52, h⟩ := bd1_e h
          refine z_goi (ws' := []) (ret := r_51) (wc := (zRt (h_R) (h_T) (hc_R) (hp_R) (h_K) (hx_R) (hh_R) (hs_R) (c_hasSnapshot)) ++ (zTr cI (h_T) (q_T) (T)) ++ (zWk cI (h_K) (q_K) (K))) (wn := fun u_53 => (zRt h_R h_T hc_R hp_R h_K hx_R hh_R hs_R c_hasSnapshot) ++ (zTr cI h_T q_T T) ++ (zWk cI h_K q_K K) ++ (zAr cI h_A1 n_A1 fA1)) (wr := ([10].filterMap (fun i => ((zRt h_R h_T hc_R hp_R h_K hx_R hh_R hs_R c_hasSnapshot) ++ (zTr cI h_T q_T T) ++ (zWk cI h_K q_K K) ++ (zAr cI h_A1 n_A1 fA1))[i]?))) (va_runV (As := [vI x2, vI x6]) (rest := []) hF.1 (c_Rt_bound l D cI cZ cT h_R h_T hc_R hp_R h_K hx_R hh_R hs_R q_T q_K c_hasSnapshot T K x2 x6 H.size (r_51) e_52) (cwV 2 hts (zgV wm313 wm314 wm315 wm32 wm316) rfl rfl rfl (by decide +kernel) ⟨Nat.le_of_ble_eq_true rfl, Nat.le_of_ble_eq_true rfl⟩) ⟨zP.blind, va_recv hK (z_subP (ws' := (zRt (h_R) (h_T) (hc_R) (hp_R) (h_K) (hx_R) (hh_R) (hs_R) (c_hasSnapshot)) ++ (zTr cI (h_T) (q_T) (T)) ++ (zWk cI (h_K) (q_K) (K))) hP [0, 1, 2, 3, 4, 5, 6, 7, 8, 9] rfl) (ci := 6) (q0 := 0) rfl rfl, zP.enter (z_subP (ws' := (zRt (h_R) (h_T) (hc_R) (hp_R) (h_K) (hx_R) (hh_R) (hs_R) (c_hasSnapshot)) ++ (zTr cI (h_T) (q_T) (T)) ++ (zWk cI (h_K) (q_K) (K))) hP [0, 1, 2, 3, 4, 5, 6, 7, 8, 9] rfl) hK (hD.sub [0, 1, 2, 3, 4, 5, 6, 7, 8, 9] (by decide) rfl) hN⟩ rfl rfl hl.1 rfl (lv_room (Nat.le_of_ble_eq_true rfl)) dL_leaf_189 ⟨Nat.le_refl _, Nat.le_refl _⟩) hP hD hS hA [0, 1, 2, 3, 4, 5, 6, 7, 8, 9] [10] [1, 2, 3, 4, 5, 6, 7, 8, 9, 10, 0] rfl rfl (by decide) (fun _ => rfl) (fun u_53 H locs hP hD hS hz => ?_)
          refine lv_iload hx hb dL_leaf_192 (lv_at hl 6 rfl) ?_
          obtain ⟨g_54, h⟩ := gd_e h
          obtain ⟨g_55, h⟩ := gd_e h
          refine z_icmp_eq (tgt := 199) hx hb g_54 g_55 dL_leaf_194 (by decide) (fun b_56 => ?_) (fun b_56 => ?_)
          · have h := it_p b_56 h
            refine lv_iinc (v := Int32.ofInt (x6 + 1)) (lv' := [(6, vI (x6 + 1)), (0, .ref h_R), (1, .ref h_A1), (2, vI x2), (4, vI x4), (5, vI x5), (7, vI x7_49)]) hx hb dL_leaf_199 hl (k := 5) rfl (z_inc _ _) (by decide) rfl (fun ls hl => ?_)
            refine lv_goto (tgt := 89) hx hb dL_leaf_202 (by decide) ?_
            exact ih ((x6 + 1)) H locs ls h hP hD hS (lv_sub hl [1, 2, 3, 4, 5, 0] rfl)
          · have h := it_n b_56 h
            refine lv_iconst (v := Int32.ofInt (-1)) hx hb dL_leaf_197 rfl ?_
            obtain rfl := Option.some.inj h
            exact z_iret hx hb hr hlk (fun _ _ => 0) hP hD hS dL_leaf_198
        · have h := it_p b_29 h
          refine lv_bipush (v := Int32.ofInt 100) hx hb dL_leaf_106 (by decide +kernel) ?_
          refine lv_goto (tgt := 112) hx hb dL_leaf_108 (by decide) ?_
          refine lv_istore (lv' := [(7, vI 100), (0, .ref h_R), (1, .ref h_A1), (2, vI x2), (4, vI x4), (5, vI x5), (6, vI x6)]) hx hb dL_leaf_112 hl (by decide) rfl (fun ls hl => ?_)
          refine lv_iconst (v := Int32.ofInt 0) hx hb dL_leaf_114 rfl ?_
          refine lv_istore (lv' := [(8, vI 0), (7, vI 100), (0, .ref h_R), (1, .ref h_A1), (2, vI x2), (4, vI x4), (5, vI x5), (6, vI x6)]) hx hb dL_leaf_115 hl (by decide) rfl (fun ls hl => ?_)
          refine w_Lw_leaf_L117 D cI cZ cT (h_R) (h_T) (hc_R) (hp_R) (h_K) (hx_R) (hh_R) (hs_R) (q_T) (q_K) (h_A1) (n_A1) (c_hasSnapshot) (T) (K) (fA1) (x2) (x4) (x5) (x6) _ _ hF (fun x7_57 x8_58 H locs ls h hP hD hS hl => ?_) _ (100) (0) _ _ _ h hP hD hS (lv_sub hl [2, 3, 4, 5, 6, 7, 1, 0] rfl)
          refine lv_aload_n hx hb dL_leaf_185 rfl (lv_at hl 0 rfl) ?_
          refine lv_iload_n hx hb dL_leaf_186 rfl (lv_at hl 2 rfl) ?_
          refine lv_iload hx hb dL_leaf_187 (lv_at hl 5 rfl) ?_
          obtain ⟨r_59, e_60, h⟩ := bd1_e h
          refine z_goi (ws' := []) (ret := r_59) (wc := (zRt (h_R) (h_T) (hc_R) (hp_R) (h_K) (hx_R) (hh_R) (hs_R) (c_hasSnapshot)) ++ (zTr cI (h_T) (q_T) (T)) ++ (zWk cI (h_K) (q_K) (K))) (wn := fun u_61 => (zRt h_R h_T hc_R hp_R h_K hx_R hh_R hs_R c_hasSnapshot) ++ (zTr cI h_T q_T T) ++ (zWk cI h_K q_K K) ++ (zAr cI h_A1 n_A1 fA1)) (wr := ([10].filterMap (fun i => ((zRt h_R h_T hc_R hp_R h_K hx_R hh_R hs_R c_hasSnapshot) ++ (zTr cI h_T q_T T) ++ (zWk cI h_K q_K K) ++ (zAr cI h_A1 n_A1 fA1))[i]?))) (va_runV (As := [vI x2, vI x6]) (rest := []) hF.1 (c_Rt_bound l D cI cZ cT h_R h_T hc_R hp_R h_K hx_R hh_R hs_R q_T q_K c_hasSnapshot T K x2 x6 H.size (r_59) e_60) (cwV 2 hts (zgV wm313 wm314 wm315 wm32 wm316) rfl rfl rfl (by decide +kernel) ⟨Nat.le_of_ble_eq_true rfl, Nat.le_of_ble_eq_true rfl⟩) ⟨zP.blind, va_recv hK (z_subP (ws' := (zRt (h_R) (h_T) (hc_R) (hp_R) (h_K) (hx_R) (hh_R) (hs_R) (c_hasSnapshot)) ++ (zTr cI (h_T) (q_T) (T)) ++ (zWk cI (h_K) (q_K) (K))) hP [0, 1, 2, 3, 4, 5, 6, 7, 8, 9] rfl) (ci := 6) (q0 := 0) rfl rfl, zP.enter (z_subP (ws' := (zRt (h_R) (h_T) (hc_R) (hp_R) (h_K) (hx_R) (hh_R) (hs_R) (c_hasSnapshot)) ++ (zTr cI (h_T) (q_T) (T)) ++ (zWk cI (h_K) (q_K) (K))) hP [0, 1, 2, 3, 4, 5, 6, 7, 8, 9] rfl) hK (hD.sub [0, 1, 2, 3, 4, 5, 6, 7, 8, 9] (by decide) rfl) hN⟩ rfl rfl hl.1 rfl (lv_room (Nat.le_of_ble_eq_true rfl)) dL_leaf_189 ⟨Nat.le_refl _, Nat.le_refl _⟩) hP hD hS hA [0, 1, 2, 3, 4, 5, 6, 7, 8, 9] [10] [1, 2, 3, 4, 5, 6, 7, 8, 9, 10, 0] rfl rfl (by decide) (fun _ => rfl) (fun u_61 H locs hP hD hS hz => ?_)
          refine lv_iload hx hb dL_leaf_192 (lv_at hl 6 rfl) ?_
          obtain ⟨g_62, h⟩ := gd_e h
          obtain ⟨g_63, h⟩ := gd_e h
          refine z_icmp_eq (tgt := 199) hx hb g_62 g_63 dL_leaf_194 (by decide) (fun b_64 => ?_) (fun b_64 => ?_)
          · have h := it_p b_64 h
            refine lv_iinc (v := Int32.ofInt (x6 + 1)) (lv' := [(6, vI (x6 + 1)), (0, .ref h_R), (1, .ref h_A1), (2, vI x2), (4, vI x4), (5, vI x5), (7, vI x7_57)]) hx hb dL_leaf_199 hl (k := 5) rfl (z_inc _ _) (by decide) rfl (fun ls hl => ?_)
            refine lv_goto (tgt := 89) hx hb dL_leaf_202 (by decide) ?_
            exact ih ((x6 + 1)) H locs ls h hP hD hS (lv_sub hl [1, 2, 3, 4, 5, 0] rfl)
          · have h := it_n b_64 h
            refine lv_iconst (v := Int32.ofInt (-1)) hx hb dL_leaf_197 rfl ?_
            obtain rfl := Option.some.inj h
            exact z_iret hx hb hr hlk (fun _ _ => 0) hP hD hS dL_leaf_198

set_option maxHeartbeats 4000000 in
set_option maxRecDepth 100000 in
theorem c_Lw_leaf (l : Launch) (D : va_G) (cI cZ cT : ClassId) (h_R : Nat) (h_T : Nat) (hc_R : Nat) (hp_R : Nat) (h_K : Nat) (hx_R : Nat) (hh_R : Nat) (hs_R : Nat) (q_T : Nat → Nat) (q_K : Nat → Nat) (h_A1 : Nat) (n_A1 : Nat) (c_hasSnapshot : Int) (T : TV) (K : KV) (fA1 : Nat → Int) (x2 : Int) (x3 : Int) (sz : Nat) (res : Int) (h : f_Lw_leaf n_A1 T K fA1 x2 x3 = some res) : zMi l yL_leaf cL_leaf 10 rm_Lw_leaf D (zt cI cZ cT) [.ref h_R, .ref h_A1, vI x2, vI x3] ((zRt h_R h_T hc_R hp_R h_K hx_R hh_R hs_R c_hasSnapshot) ++ (zTr cI h_T q_T T) ++ (zWk cI h_K q_K K) ++ (zAr cI h_A1 n_A1 fA1)) sz (res) (fun u => (zRt h_R h_T hc_R hp_R h_K hx_R hh_R hs_R c_hasSnapshot) ++ (zTr cI h_T q_T T) ++ (zWk cI h_K q_K K) ++ (zAr cI h_A1 n_A1 fA1)) 0 0 := by
  refine z_enth (Qc := zQi D (res) (fun u => (zRt h_R h_T hc_R hp_R h_K hx_R hh_R hs_R c_hasSnapshot) ++ (zTr cI h_T q_T T) ++ (zWk cI h_K q_K K) ++ (zAr cI h_A1 n_A1 fA1))) (by decide) (Nat.le_of_ble_eq_true rfl) (fun p e s m args below meth c A ls H locs hF hP hD hS hl => ?_)
  have hx := hF.1.1
  have hb := hF.1.2.1
  have hml := hF.1.2.2.1
  have hown : s.vm.findClass "RectangleTreeLaw" = some m.cls := hF.1.2.2.2.1
  have hts := hF.1.2.2.2.2
  have hr := hF.2.1
  have hlk := hF.2.2.1
  have hK := hF.2.2.2.2.1
  have hN := hF.2.2.2.2.2.1
  have hA := hF.2.2.2.2.2.2
  unfold f_Lw_leaf at h
  refine lv_iload_n hx hb dL_leaf_0 rfl (lv_at hl 3 rfl) ?_
  refine lv_istore (lv' := [(4, vI x3), (0, .ref h_R), (1, .ref h_A1), (2, vI x2), (3, vI x3)]) hx hb dL_leaf_1 hl (by decide) rfl (fun ls hl => ?_)
  refine lv_aload_n hx hb dL_leaf_3 rfl (lv_at hl 1 rfl) ?_
  refine lv_iload_n hx hb dL_leaf_4 rfl (lv_at hl 3 rfl) ?_
  obtain ⟨r_1, e_2, h⟩ := bd1_e h
  refine z_goi (ws' := []) (ret := r_1) (wc := (zRt (h_R) (h_T) (hc_R) (hp_R) (h_K) (hx_R) (hh_R) (hs_R) (c_hasSnapshot)) ++ (zTr cI (h_T) (q_T) (T)) ++ (zWk cI (h_K) (q_K) (K))) (wn := fun u_3 => (zRt h_R h_T hc_R hp_R h_K hx_R hh_R hs_R c_hasSnapshot) ++ (zTr cI h_T q_T T) ++ (zWk cI h_K q_K K) ++ (zAr cI h_A1 n_A1 fA1)) (wr := ([10].filterMap (fun i => ((zRt h_R h_T hc_R hp_R h_K hx_R hh_R hs_R c_hasSnapshot) ++ (zTr cI h_T q_T T) ++ (zWk cI h_K q_K K) ++ (zAr cI h_A1 n_A1 fA1))[i]?))) (va_runV (As := [vI x2]) (rest := []) hF.1 (c_Rt_entries l D cI cZ cT h_R h_T hc_R hp_R h_K hx_R hh_R hs_R q_T q_K c_hasSnapshot T K x2 H.size (r_1) e_2) (cwV 1 hts (zgV wm308 wm309 wm310 wm32 wm311) rfl rfl rfl (by decide +kernel) ⟨Nat.le_of_ble_eq_true rfl, Nat.le_of_ble_eq_true rfl⟩) ⟨zP.blind, va_recv hK (z_subP (ws' := (zRt (h_R) (h_T) (hc_R) (hp_R) (h_K) (hx_R) (hh_R) (hs_R) (c_hasSnapshot)) ++ (zTr cI (h_T) (q_T) (T)) ++ (zWk cI (h_K) (q_K) (K))) hP [0, 1, 2, 3, 4, 5, 6, 7, 8, 9] rfl) (ci := 6) (q0 := 0) rfl rfl, zP.enter (z_subP (ws' := (zRt (h_R) (h_T) (hc_R) (hp_R) (h_K) (hx_R) (hh_R) (hs_R) (c_hasSnapshot)) ++ (zTr cI (h_T) (q_T) (T)) ++ (zWk cI (h_K) (q_K) (K))) hP [0, 1, 2, 3, 4, 5, 6, 7, 8, 9] rfl) hK (hD.sub [0, 1, 2, 3, 4, 5, 6, 7, 8, 9] (by decide) rfl) hN⟩ rfl rfl hl.1 rfl (lv_room (Nat.le_of_ble_eq_true rfl)) dL_leaf_5 ⟨Nat.le_refl _, Nat.le_refl _⟩) hP hD hS hA [0, 1, 2, 3, 4, 5, 6, 7, 8, 9] [10] [1, 2, 3, 4, 5, 6, 7, 8, 9, 10, 0] rfl rfl (by decide) (fun _ => rfl) (fun u_3 H locs hP hD hS hz => ?_)
  refine lv_istore (lv' := [(5, vI r_1), (4, vI x3), (0, .ref h_R), (1, .ref h_A1), (2, vI x2), (3, vI x3)]) hx hb dL_leaf_8 hl (by decide) rfl (fun ls hl => ?_)
  refine lv_iconst (v := Int32.ofInt 0) hx hb dL_leaf_10 rfl ?_
  refine lv_istore (lv' := [(6, vI 0), (5, vI r_1), (4, vI x3), (0, .ref h_R), (1, .ref h_A1), (2, vI x2), (3, vI x3)]) hx hb dL_leaf_11 hl (by decide) rfl (fun ls hl => ?_)
  refine w_Lw_leaf_L13 D cI cZ cT (h_R) (h_T) (hc_R) (hp_R) (h_K) (hx_R) (hh_R) (hs_R) (q_T) (q_K) (h_A1) (n_A1) (c_hasSnapshot) (T) (K) (fA1) (x2) (r_1) _ _ hF (fun x4_23 x6_24 H locs ls h hP hD hS hl => ?_) _ (x3) (0) _ _ _ h hP hD hS (lv_sub hl [3, 4, 5, 2, 1, 0] rfl)
  refine lv_iconst (v := Int32.ofInt 0) hx hb dL_leaf_86 rfl ?_
  refine lv_istore (lv' := [(6, vI 0), (0, .ref h_R), (1, .ref h_A1), (2, vI x2), (4, vI x4_23), (5, vI r_1)]) hx hb dL_leaf_87 hl (by decide) rfl (fun ls hl => ?_)
  refine w_Lw_leaf_L89 D cI cZ cT (h_R) (h_T) (hc_R) (hp_R) (h_K) (hx_R) (hh_R) (hs_R) (q_T) (q_K) (h_A1) (n_A1) (c_hasSnapshot) (T) (K) (fA1) (x2) (x4_23) (r_1) _ _ hF (fun x6_65 H locs ls h hP hD hS hl => ?_) _ (0) _ _ _ h hP hD hS (lv_sub hl [1, 2, 3, 4, 5, 0] rfl)
  refine lv_iload hx hb dL_leaf_205 (lv_at hl 0 rfl) ?_
  obtain rfl := Option.some.inj h
  exact z_iret hx hb hr hlk (fun _ _ => 0) hP hD hS dL_leaf_207

set_option maxHeartbeats 4000000 in
set_option maxRecDepth 100000 in
theorem w_Lw_isNode_L15 {p : Program} {l : Launch} {e : Env} {s : State} {m : MethodId} {args : Array Value} {below : List Frame} {meth : Method} {c : Code} {A : Nat → Prop} (D : va_G) (cI cZ cT : ClassId) (h_R : Nat) (h_T : Nat) (hc_R : Nat) (hp_R : Nat) (h_K : Nat) (hx_R : Nat) (hh_R : Nat) (hs_R : Nat) (q_T : Nat → Nat) (q_K : Nat → Nat) (c_hasSnapshot : Int) (T : TV) (K : KV) (x1 : Int) (x2 : Int) (x3 : Int) (x5 : Int) (res : Int) (k : Int → Int → Option (Int)) (hF : zF p m c cL_isNode 10 s args yL_isNode.cls meth (some .boolean) yL_isNode.name A D (zt cI cZ cT))
    (hk : ∀ (x4 : Int) (x6 : Int) (H : Heap) (locs : List Loc) (ls : Array Slot), k x4 x6 = some res → va_P D vwCl ((zRt h_R h_T hc_R hp_R h_K hx_R hh_R hs_R c_hasSnapshot) ++ (zTr cI h_T q_T T) ++ (zWk cI h_K q_K K)) H → va_D A ((zRt h_R h_T hc_R hp_R h_K hx_R hh_R hs_R c_hasSnapshot) ++ (zTr cI h_T q_T T) ++ (zWk cI h_K q_K K)) → va_S A s.heap H locs → lv_has ls 10 [(0, .ref h_R), (1, vI x1), (2, vI x2), (3, vI x3), (4, vI x4), (5, vI x5)] → W p l e rm_Lw_isNode s m args below meth c H locs 0 0 (MQ below (zQi D (res) (fun u => (zRt h_R h_T hc_R hp_R h_K hx_R hh_R hs_R c_hasSnapshot) ++ (zTr cI h_T q_T T) ++ (zWk cI h_K q_K K)) A) args s 0 0 A) (F0 m 72 ls [])) :
    ∀ (n : Nat) (x4 : Int) (x6 : Int) (H : Heap) (locs : List Loc) (ls : Array Slot), f_Lw_isNode_L15 T K x1 x2 x3 x5 k n x4 x6 = some res → va_P D vwCl ((zRt h_R h_T hc_R hp_R h_K hx_R hh_R hs_R c_hasSnapshot) ++ (zTr cI h_T q_T T) ++ (zWk cI h_K q_K K)) H → va_D A ((zRt h_R h_T hc_R hp_R h_K hx_R hh_R hs_R c_hasSnapshot) ++ (zTr cI h_T q_T T) ++ (zWk cI h_K q_K K)) → va_S A s.heap H locs → lv_has ls 10 [(0, .ref h_R), (1, vI x1), (2, vI x2), (3, vI x3), (4, vI x4), (5, vI x5), (6, vI x6)] → W p l e rm_Lw_isNode s m args below meth c H locs 0 0 (MQ below (zQi D (res) (fun u => (zRt h_R h_T hc_R hp_R h_K hx_R hh_R hs_R c_hasSnapshot) ++ (zTr cI h_T q_T T) ++ (zWk cI h_K q_K K)) A) args s 0 0 A) (F0 m 15 ls []) := by
  have hx := hF.1.1
  have hb := hF.1.2.1
  have hml := hF.1.2.2.1
  have hown : s.vm.findClass "RectangleTreeLaw" = some m.cls := hF.1.2.2.2.1
  have hts := hF.1.2.2.2.2
  have hr := hF.2.1
  have hlk := hF.2.2.1
  have hK := hF.2.2.2.2.1
  have hN := hF.2.2.2.2.2.1
  have hA := hF.2.2.2.2.2.2
  intro n
  induction n with
  | zero => intro x4 x6  H locs ls h; cases h
  | succ n ih =>
    intro x4 x6  H locs ls h  hP hD hS hl
    rw [f_Lw_isNode_L15] at h
    refine lv_iload hx hb dL_isNode_15 (lv_at hl 6 rfl) ?_
    refine lv_iload hx hb dL_isNode_17 (lv_at hl 5 rfl) ?_
    obtain ⟨g_4, h⟩ := gd_e h
    obtain ⟨g_5, h⟩ := gd_e h
    refine z_icmp_ge (tgt := 72) hx hb g_4 g_5 dL_isNode_19 (by decide) (fun b_6 => ?_) (fun b_6 => ?_)
    · have h := it_n b_6 h
      exact hk (x4) (x6) H locs ls h hP hD hS (lv_sub hl [0, 1, 2, 3, 4, 5] rfl)
    · have h := it_p b_6 h
      refine lv_iload hx hb dL_isNode_22 (lv_at hl 4 rfl) ?_
      refine lv_iload_n hx hb dL_isNode_24 rfl (lv_at hl 3 rfl) ?_
      obtain ⟨g_7, h⟩ := gd_e h
      obtain ⟨g_8, h⟩ := gd_e h
      refine z_icmp_ge (tgt := 52) hx hb g_7 g_8 dL_isNode_25 (by decide) (fun b_9 => ?_) (fun b_9 => ?_)
      · have h := it_n b_9 h
        refine lv_iconst (v := Int32.ofInt 0) hx hb dL_isNode_52 rfl ?_
        obtain rfl := Option.some.inj h
        exact z_zret hx hb hr hlk (by decide) (fun _ _ => 0) hP hD hS dL_isNode_53
      · have h := it_p b_9 h
        refine lv_aload_n hx hb dL_isNode_28 rfl (lv_at hl 0 rfl) ?_
        refine lv_iload_n hx hb dL_isNode_29 rfl (lv_at hl 1 rfl) ?_
        refine lv_iload hx hb dL_isNode_30 (lv_at hl 6 rfl) ?_
        obtain ⟨r_10, e_11, h⟩ := bd1_e h
        refine z_goi (ws' := []) (ret := r_10) (wc := (zRt (h_R) (h_T) (hc_R) (hp_R) (h_K) (hx_R) (hh_R) (hs_R) (c_hasSnapshot)) ++ (zTr cI (h_T) (q_T) (T)) ++ (zWk cI (h_K) (q_K) (K))) (wn := fun u_12 => (zRt h_R h_T hc_R hp_R h_K hx_R hh_R hs_R c_hasSnapshot) ++ (zTr cI h_T q_T T) ++ (zWk cI h_K q_K K)) (wr := []) (va_runV (As := [vI x1, vI x6]) (rest := []) hF.1 (c_Rt_entry l D cI cZ cT h_R h_T hc_R hp_R h_K hx_R hh_R hs_R q_T q_K c_hasSnapshot T K x1 x6 H.size (r_10) e_11) (cwV 2 hts (zgV wm321 wm322 wm323 wm32 wm324) rfl rfl rfl (by decide +kernel) ⟨Nat.le_of_ble_eq_true rfl, Nat.le_of_ble_eq_true rfl⟩) ⟨zP.blind, va_recv hK (z_subP (ws' := (zRt (h_R) (h_T) (hc_R) (hp_R) (h_K) (hx_R) (hh_R) (hs_R) (c_hasSnapshot)) ++ (zTr cI (h_T) (q_T) (T)) ++ (zWk cI (h_K) (q_K) (K))) hP [0, 1, 2, 3, 4, 5, 6, 7, 8, 9] rfl) (ci := 6) (q0 := 0) rfl rfl, zP.enter (z_subP (ws' := (zRt (h_R) (h_T) (hc_R) (hp_R) (h_K) (hx_R) (hh_R) (hs_R) (c_hasSnapshot)) ++ (zTr cI (h_T) (q_T) (T)) ++ (zWk cI (h_K) (q_K) (K))) hP [0, 1, 2, 3, 4, 5, 6, 7, 8, 9] rfl) hK (hD.sub [0, 1, 2, 3, 4, 5, 6, 7, 8, 9] (by decide) rfl) hN⟩ rfl rfl hl.1 rfl (lv_room (Nat.le_of_ble_eq_true rfl)) dL_isNode_32 ⟨Nat.le_refl _, Nat.le_refl _⟩) hP hD hS hA [0, 1, 2, 3, 4, 5, 6, 7, 8, 9] [] [0, 1, 2, 3, 4, 5, 6, 7, 8, 9] rfl rfl (by decide) (fun _ => rfl) (fun u_12 H locs hP hD hS hz => ?_)
        refine lv_iload hx hb dL_isNode_35 (lv_at hl 4 rfl) ?_
        obtain ⟨g_13, h⟩ := gd_e h
        refine z_icmp_ne (tgt := 52) hx hb g_13 g_7 dL_isNode_37 (by decide) (fun b_14 => ?_) (fun b_14 => ?_)
        · have h := it_n b_14 h
          refine lv_iconst (v := Int32.ofInt 0) hx hb dL_isNode_52 rfl ?_
          obtain rfl := Option.some.inj h
          exact z_zret hx hb hr hlk (by decide) (fun _ _ => 0) hP hD hS dL_isNode_53
        · have h := it_p b_14 h
          refine lv_aload_n hx hb dL_isNode_40 rfl (lv_at hl 0 rfl) ?_
          refine lv_iload hx hb dL_isNode_41 (lv_at hl 4 rfl) ?_
          obtain ⟨r_15, e_16, h⟩ := bd1_e h
          refine z_goi (ws' := []) (ret := r_15) (wc := (zRt (h_R) (h_T) (hc_R) (hp_R) (h_K) (hx_R) (hh_R) (hs_R) (c_hasSnapshot)) ++ (zTr cI (h_T) (q_T) (T)) ++ (zWk cI (h_K) (q_K) (K))) (wn := fun u_17 => (zRt h_R h_T hc_R hp_R h_K hx_R hh_R hs_R c_hasSnapshot) ++ (zTr cI h_T q_T T) ++ (zWk cI h_K q_K K)) (wr := []) (va_runV (As := [vI x4]) (rest := []) hF.1 (c_Rt_level l D cI cZ cT h_R h_T hc_R hp_R h_K hx_R hh_R hs_R q_T q_K c_hasSnapshot T K x4 H.size (r_15) e_16) (cwV 1 hts (zgV wm287 wm288 wm289 wm32 wm290) rfl rfl rfl (by decide +kernel) ⟨Nat.le_of_ble_eq_true rfl, Nat.le_of_ble_eq_true rfl⟩) ⟨zP.blind, va_recv hK (z_subP (ws' := (zRt (h_R) (h_T) (hc_R) (hp_R) (h_K) (hx_R) (hh_R) (hs_R) (c_hasSnapshot)) ++ (zTr cI (h_T) (q_T) (T)) ++ (zWk cI (h_K) (q_K) (K))) hP [0, 1, 2, 3, 4, 5, 6, 7, 8, 9] rfl) (ci := 6) (q0 := 0) rfl rfl, zP.enter (z_subP (ws' := (zRt (h_R) (h_T) (hc_R) (hp_R) (h_K) (hx_R) (hh_R) (hs_R) (c_hasSnapshot)) ++ (zTr cI (h_T) (q_T) (T)) ++ (zWk cI (h_K) (q_K) (K))) hP [0, 1, 2, 3, 4, 5, 6, 7, 8, 9] rfl) hK (hD.sub [0, 1, 2, 3, 4, 5, 6, 7, 8, 9] (by decide) rfl) hN⟩ rfl rfl hl.1 rfl (lv_room (Nat.le_of_ble_eq_true rfl)) dL_isNode_43 ⟨Nat.le_refl _, Nat.le_refl _⟩) hP hD hS hA [0, 1, 2, 3, 4, 5, 6, 7, 8, 9] [] [0, 1, 2, 3, 4, 5, 6, 7, 8, 9] rfl rfl (by decide) (fun _ => rfl) (fun u_17 H locs hP hD hS hz => ?_)
          refine lv_iload_n hx hb dL_isNode_46 rfl (lv_at hl 2 rfl) ?_
          refine lv_iconst (v := Int32.ofInt 1) hx hb dL_isNode_47 rfl ?_
          refine z_isub hx hb dL_isNode_48 ?_
          obtain ⟨g_18, h⟩ := gd_e h
          obtain ⟨g_19, h⟩ := gd_e h
          refine z_icmp_eq (tgt := 54) hx hb g_18 g_19 dL_isNode_49 (by decide) (fun b_20 => ?_) (fun b_20 => ?_)
          · have h := it_p b_20 h
            refine lv_aload_n hx hb dL_isNode_54 rfl (lv_at hl 0 rfl) ?_
            refine lv_iload hx hb dL_isNode_55 (lv_at hl 4 rfl) ?_
            refine lv_iload_n hx hb dL_isNode_57 rfl (lv_at hl 2 rfl) ?_
            refine lv_iconst (v := Int32.ofInt 1) hx hb dL_isNode_58 rfl ?_
            refine z_isub hx hb dL_isNode_59 ?_
            refine lv_iload_n hx hb dL_isNode_60 rfl (lv_at hl 3 rfl) ?_
            obtain ⟨r_21, e_22, h⟩ := bd1_e h
            refine z_goi (ws' := []) (ret := r_21) (wc := (zRt (h_R) (h_T) (hc_R) (hp_R) (h_K) (hx_R) (hh_R) (hs_R) (c_hasSnapshot)) ++ (zTr cI (h_T) (q_T) (T)) ++ (zWk cI (h_K) (q_K) (K))) (wn := fun u_23 => (zRt h_R h_T hc_R hp_R h_K hx_R hh_R hs_R c_hasSnapshot) ++ (zTr cI h_T q_T T) ++ (zWk cI h_K q_K K)) (wr := []) (va_runS (As := [.ref h_R, vI x4, vI (x2 - 1), vI x3]) (rest := []) hF.1 (c_Lw_behind l D cI cZ cT h_R h_T hc_R hp_R h_K hx_R hh_R hs_R q_T q_K c_hasSnapshot T K x4 (x2 - 1) x3 H.size (r_21) e_22) (va_cwS 4 hts (zgS wm333 wm334 wm31 wm335) rfl rfl rfl (by decide +kernel) ⟨Nat.le_of_ble_eq_true rfl, Nat.le_of_ble_eq_true rfl⟩) ⟨zP.blind, zP.enter (z_subP (ws' := (zRt (h_R) (h_T) (hc_R) (hp_R) (h_K) (hx_R) (hh_R) (hs_R) (c_hasSnapshot)) ++ (zTr cI (h_T) (q_T) (T)) ++ (zWk cI (h_K) (q_K) (K))) hP [0, 1, 2, 3, 4, 5, 6, 7, 8, 9] rfl) hK (hD.sub [0, 1, 2, 3, 4, 5, 6, 7, 8, 9] (by decide) rfl) hN⟩ rfl rfl hl.1 rfl (lv_room (Nat.le_of_ble_eq_true rfl)) dL_isNode_61 ⟨Nat.le_refl _, Nat.le_refl _⟩) hP hD hS hA [0, 1, 2, 3, 4, 5, 6, 7, 8, 9] [] [0, 1, 2, 3, 4, 5, 6, 7, 8, 9] rfl rfl (by decide) (fun _ => rfl) (fun u_23 H locs hP hD hS hz => ?_)
            refine lv_istore (lv' := [(4, vI r_21), (0, .ref h_R), (1, vI x1), (2, vI x2), (3, vI x3), (5, vI x5), (6, vI x6)]) hx hb dL_isNode_64 hl (by decide) rfl (fun ls hl => ?_)
            refine lv_iinc (v := Int32.ofInt (x6 + 1)) (lv' := [(6, vI (x6 + 1)), (4, vI r_21), (0, .ref h_R), (1, vI x1), (2, vI x2), (3, vI x3), (5, vI x5)]) hx hb dL_isNode_66 hl (k := 6) rfl (z_inc _ _) (by decide) rfl (fun ls hl => ?_)
            refine lv_goto (tgt := 15) hx hb dL_isNode_69 (by decide) ?_
            exact ih (r_21) ((x6 + 1)) H locs ls h hP hD hS (lv_sub hl [2, 3, 4, 5, 1, 6, 0] rfl)
          · have h := it_n b_20 h
            refine lv_iconst (v := Int32.ofInt 0) hx hb dL_isNode_52 rfl ?_
            obtain rfl := Option.some.inj h
            exact z_zret hx hb hr hlk (by decide) (fun _ _ => 0) hP hD hS dL_isNode_53

set_option maxHeartbeats 4000000 in
set_option maxRecDepth 100000 in
theorem w_Lw_isNode_L98 {p : Program} {l : Launch} {e : Env} {s : State} {m : MethodId} {args : Array Value} {below : List Frame} {meth : Method} {c : Code} {A : Nat → Prop} (D : va_G) (cI cZ cT : ClassId) (h_R : Nat) (h_T : Nat) (hc_R : Nat) (hp_R : Nat) (h_K : Nat) (hx_R : Nat) (hh_R : Nat) (hs_R : Nat) (q_T : Nat → Nat) (q_K : Nat → Nat) (c_hasSnapshot : Int) (T : TV) (K : KV) (x1 : Int) (x2 : Int) (x3 : Int) (x4 : Int) (x5 : Int) (x6 : Int) (res : Int) (k : Int → Int → Option (Int)) (hF : zF p m c cL_isNode 10 s args yL_isNode.cls meth (some .boolean) yL_isNode.name A D (zt cI cZ cT))
    (hk : ∀ (x7 : Int) (x8 : Int) (H : Heap) (locs : List Loc) (ls : Array Slot), k x7 x8 = some res → va_P D vwCl ((zRt h_R h_T hc_R hp_R h_K hx_R hh_R hs_R c_hasSnapshot) ++ (zTr cI h_T q_T T) ++ (zWk cI h_K q_K K)) H → va_D A ((zRt h_R h_T hc_R hp_R h_K hx_R hh_R hs_R c_hasSnapshot) ++ (zTr cI h_T q_T T) ++ (zWk cI h_K q_K K)) → va_S A s.heap H locs → lv_has ls 10 [(0, .ref h_R), (1, vI x1), (2, vI x2), (3, vI x3), (4, vI x4), (5, vI x5), (6, vI x6), (7, vI x7)] → W p l e rm_Lw_isNode s m args below meth c H locs 0 0 (MQ below (zQi D (res) (fun u => (zRt h_R h_T hc_R hp_R h_K hx_R hh_R hs_R c_hasSnapshot) ++ (zTr cI h_T q_T T) ++ (zWk cI h_K q_K K)) A) args s 0 0 A) (F0 m 165 ls [])) :
    ∀ (n : Nat) (x7 : Int) (x8 : Int) (H : Heap) (locs : List Loc) (ls : Array Slot), f_Lw_isNode_L98 T K x1 x5 x6 k n x7 x8 = some res → va_P D vwCl ((zRt h_R h_T hc_R hp_R h_K hx_R hh_R hs_R c_hasSnapshot) ++ (zTr cI h_T q_T T) ++ (zWk cI h_K q_K K)) H → va_D A ((zRt h_R h_T hc_R hp_R h_K hx_R hh_R hs_R c_hasSnapshot) ++ (zTr cI h_T q_T T) ++ (zWk cI h_K q_K K)) → va_S A s.heap H locs → lv_has ls 10 [(0, .ref h_R), (1, vI x1), (2, vI x2), (3, vI x3), (4, vI x4), (5, vI x5), (6, vI x6), (7, vI x7), (8, vI x8)] → W p l e rm_Lw_isNode s m args below meth c H locs 0 0 (MQ below (zQi D (res) (fun u => (zRt h_R h_T hc_R hp_R h_K hx_R hh_R hs_R c_hasSnapshot) ++ (zTr cI h_T q_T T) ++ (zWk cI h_K q_K K)) A) args s 0 0 A) (F0 m 98 ls []) := by
  have hx := hF.1.1
  have hb := hF.1.2.1
  have hml := hF.1.2.2.1
  have hown : s.vm.findClass "RectangleTreeLaw" = some m.cls := hF.1.2.2.2.1
  have hts := hF.1.2.2.2.2
  have hr := hF.2.1
  have hlk := hF.2.2.1
  have hK := hF.2.2.2.2.1
  have hN := hF.2.2.2.2.2.1
  have hA := hF.2.2.2.2.2.2
  intro n
  induction n with
  | zero => intro x7 x8  H locs ls h; cases h
  | succ n ih =>
    intro x7 x8  H locs ls h  hP hD hS hl
    rw [f_Lw_isNode_L98] at h
    refine lv_iload hx hb dL_isNode_98 (lv_at hl 8 rfl) ?_
    refine lv_iload hx hb dL_isNode_100 (lv_at hl 5 rfl) ?_
    obtain ⟨g_29, h⟩ := gd_e h
    obtain ⟨g_30, h⟩ := gd_e h
    refine z_icmp_ge (tgt := 165) hx hb g_29 g_30 dL_isNode_102 (by decide) (fun b_31 => ?_) (fun b_31 => ?_)
    · have h := it_n b_31 h
      exact hk (x7) (x8) H locs ls h hP hD hS (lv_sub hl [0, 1, 2, 3, 4, 5, 6, 7] rfl)
    · have h := it_p b_31 h
      refine lv_aload_n hx hb dL_isNode_105 rfl (lv_at hl 0 rfl) ?_
      refine lv_aload_n hx hb dL_isNode_106 rfl (lv_at hl 0 rfl) ?_
      refine lv_iload_n hx hb dL_isNode_107 rfl (lv_at hl 1 rfl) ?_
      refine lv_iload hx hb dL_isNode_108 (lv_at hl 8 rfl) ?_
      obtain ⟨r_32, e_33, h⟩ := bd1_e h
      refine z_goi (ws' := []) (ret := r_32) (wc := (zRt (h_R) (h_T) (hc_R) (hp_R) (h_K) (hx_R) (hh_R) (hs_R) (c_hasSnapshot)) ++ (zTr cI (h_T) (q_T) (T)) ++ (zWk cI (h_K) (q_K) (K))) (wn := fun u_34 => (zRt h_R h_T hc_R hp_R h_K hx_R hh_R hs_R c_hasSnapshot) ++ (zTr cI h_T q_T T) ++ (zWk cI h_K q_K K)) (wr := []) (va_runV (As := [vI x1, vI x8]) (rest := [.ref h_R]) hF.1 (c_Rt_entry l D cI cZ cT h_R h_T hc_R hp_R h_K hx_R hh_R hs_R q_T q_K c_hasSnapshot T K x1 x8 H.size (r_32) e_33) (cwV 2 hts (zgV wm321 wm322 wm323 wm32 wm324) rfl rfl rfl (by decide +kernel) ⟨Nat.le_of_ble_eq_true rfl, Nat.le_of_ble_eq_true rfl⟩) ⟨zP.blind, va_recv hK (z_subP (ws' := (zRt (h_R) (h_T) (hc_R) (hp_R) (h_K) (hx_R) (hh_R) (hs_R) (c_hasSnapshot)) ++ (zTr cI (h_T) (q_T) (T)) ++ (zWk cI (h_K) (q_K) (K))) hP [0, 1, 2, 3, 4, 5, 6, 7, 8, 9] rfl) (ci := 6) (q0 := 0) rfl rfl, zP.enter (z_subP (ws' := (zRt (h_R) (h_T) (hc_R) (hp_R) (h_K) (hx_R) (hh_R) (hs_R) (c_hasSnapshot)) ++ (zTr cI (h_T) (q_T) (T)) ++ (zWk cI (h_K) (q_K) (K))) hP [0, 1, 2, 3, 4, 5, 6, 7, 8, 9] rfl) hK (hD.sub [0, 1, 2, 3, 4, 5, 6, 7, 8, 9] (by decide) rfl) hN⟩ rfl rfl hl.1 rfl (lv_room (Nat.le_of_ble_eq_true rfl)) dL_isNode_110 ⟨Nat.le_refl _, Nat.le_refl _⟩) hP hD hS hA [0, 1, 2, 3, 4, 5, 6, 7, 8, 9] [] [0, 1, 2, 3, 4, 5, 6, 7, 8, 9] rfl rfl (by decide) (fun _ => rfl) (fun u_34 H locs hP hD hS hz => ?_)
      refine lv_iload hx hb dL_isNode_113 (lv_at hl 6 rfl) ?_
      obtain ⟨r_35, e_36, h⟩ := bd1_e h
      refine z_goi (ws' := []) (ret := r_35) (wc := (zRt (h_R) (h_T) (hc_R) (hp_R) (h_K) (hx_R) (hh_R) (hs_R) (c_hasSnapshot)) ++ (zTr cI (h_T) (q_T) (T)) ++ (zWk cI (h_K) (q_K) (K))) (wn := fun u_37 => (zRt h_R h_T hc_R hp_R h_K hx_R hh_R hs_R c_hasSnapshot) ++ (zTr cI h_T q_T T) ++ (zWk cI h_K q_K K)) (wr := []) (va_runV (As := [vI r_32, vI x6]) (rest := []) hF.1 (c_Rt_bound l D cI cZ cT h_R h_T hc_R hp_R h_K hx_R hh_R hs_R q_T q_K c_hasSnapshot T K r_32 x6 H.size (r_35) e_36) (cwV 2 hts (zgV wm313 wm314 wm315 wm32 wm316) rfl rfl rfl (by decide +kernel) ⟨Nat.le_of_ble_eq_true rfl, Nat.le_of_ble_eq_true rfl⟩) ⟨zP.blind, va_recv hK (z_subP (ws' := (zRt (h_R) (h_T) (hc_R) (hp_R) (h_K) (hx_R) (hh_R) (hs_R) (c_hasSnapshot)) ++ (zTr cI (h_T) (q_T) (T)) ++ (zWk cI (h_K) (q_K) (K))) hP [0, 1, 2, 3, 4, 5, 6, 7, 8, 9] rfl) (ci := 6) (q0 := 0) rfl rfl, zP.enter (z_subP (ws' := (zRt (h_R) (h_T) (hc_R) (hp_R) (h_K) (hx_R) (hh_R) (hs_R) (c_hasSnapshot)) ++ (zTr cI (h_T) (q_T) (T)) ++ (zWk cI (h_K) (q_K) (K))) hP [0, 1, 2, 3, 4, 5, 6, 7, 8, 9] rfl) hK (hD.sub [0, 1, 2, 3, 4, 5, 6, 7, 8, 9] (by decide) rfl) hN⟩ rfl rfl hl.1 rfl (lv_room (Nat.le_of_ble_eq_true rfl)) dL_isNode_115 ⟨Nat.le_refl _, Nat.le_refl _⟩) hP hD hS hA [0, 1, 2, 3, 4, 5, 6, 7, 8, 9] [] [0, 1, 2, 3, 4, 5, 6, 7, 8, 9] rfl rfl (by decide) (fun _ => rfl) (fun u_37 H locs hP hD hS hz => ?_)
      refine lv_istore (lv' := [(9, vI r_35), (0, .ref h_R), (1, vI x1), (2, vI x2), (3, vI x3), (4, vI x4), (5, vI x5), (6, vI x6), (7, vI x7), (8, vI x8)]) hx hb dL_isNode_118 hl (by decide) rfl (fun ls hl => ?_)
      refine lv_iload hx hb dL_isNode_120 (lv_at hl 7 rfl) ?_
      refine lv_iconst (v := Int32.ofInt 2) hx hb dL_isNode_122 rfl ?_
      obtain ⟨g_38, h⟩ := gd_e h
      refine z_icmp_ge (tgt := 143) hx hb g_38 (by decide) dL_isNode_123 (by decide) (fun b_39 => ?_) (fun b_39 => ?_)
      · have h := it_n b_39 h
        refine lv_iload hx hb dL_isNode_143 (lv_at hl 0 rfl) ?_
        refine lv_iload hx hb dL_isNode_145 (lv_at hl 8 rfl) ?_
        obtain ⟨g_40, h⟩ := gd_e h
        obtain ⟨g_41, h⟩ := gd_e h
        refine z_icmp_le (tgt := 155) hx hb g_40 g_41 dL_isNode_147 (by decide) (fun b_42 => ?_) (fun b_42 => ?_)
        · have h := it_n b_42 h
          refine lv_iload hx hb dL_isNode_155 (lv_at hl 8 rfl) ?_
          refine lv_istore (lv' := [(7, vI x7), (9, vI r_35), (0, .ref h_R), (1, vI x1), (2, vI x2), (3, vI x3), (4, vI x4), (5, vI x5), (6, vI x6), (8, vI x8)]) hx hb dL_isNode_157 hl (by decide) rfl (fun ls hl => ?_)
          refine lv_iinc (v := Int32.ofInt (x8 + 1)) (lv' := [(8, vI (x8 + 1)), (7, vI x7), (9, vI r_35), (0, .ref h_R), (1, vI x1), (2, vI x2), (3, vI x3), (4, vI x4), (5, vI x5), (6, vI x6)]) hx hb dL_isNode_159 hl (k := 9) rfl (z_inc _ _) (by decide) rfl (fun ls hl => ?_)
          refine lv_goto (tgt := 98) hx hb dL_isNode_162 (by decide) ?_
          exact ih (x7) ((x8 + 1)) H locs ls h hP hD hS (lv_sub hl [3, 4, 5, 6, 7, 8, 9, 1, 0] rfl)
        · have h := it_p b_42 h
          refine lv_iload hx hb dL_isNode_150 (lv_at hl 0 rfl) ?_
          refine lv_goto (tgt := 157) hx hb dL_isNode_152 (by decide) ?_
          refine lv_istore (lv' := [(7, vI r_35), (9, vI r_35), (0, .ref h_R), (1, vI x1), (2, vI x2), (3, vI x3), (4, vI x4), (5, vI x5), (6, vI x6), (8, vI x8)]) hx hb dL_isNode_157 hl (by decide) rfl (fun ls hl => ?_)
          refine lv_iinc (v := Int32.ofInt (x8 + 1)) (lv' := [(8, vI (x8 + 1)), (7, vI r_35), (9, vI r_35), (0, .ref h_R), (1, vI x1), (2, vI x2), (3, vI x3), (4, vI x4), (5, vI x5), (6, vI x6)]) hx hb dL_isNode_159 hl (k := 9) rfl (z_inc _ _) (by decide) rfl (fun ls hl => ?_)
          refine lv_goto (tgt := 98) hx hb dL_isNode_162 (by decide) ?_
          exact ih (r_35) ((x8 + 1)) H locs ls h hP hD hS (lv_sub hl [3, 4, 5, 6, 7, 8, 9, 1, 0] rfl)
      · have h := it_p b_39 h
        refine lv_iload hx hb dL_isNode_126 (lv_at hl 0 rfl) ?_
        refine lv_iload hx hb dL_isNode_128 (lv_at hl 8 rfl) ?_
        obtain ⟨g_43, h⟩ := gd_e h
        obtain ⟨g_44, h⟩ := gd_e h
        refine z_icmp_ge (tgt := 138) hx hb g_43 g_44 dL_isNode_130 (by decide) (fun b_45 => ?_) (fun b_45 => ?_)
        · have h := it_n b_45 h
          refine lv_iload hx hb dL_isNode_138 (lv_at hl 8 rfl) ?_
          refine lv_goto (tgt := 157) hx hb dL_isNode_140 (by decide) ?_
          refine lv_istore (lv' := [(7, vI x7), (9, vI r_35), (0, .ref h_R), (1, vI x1), (2, vI x2), (3, vI x3), (4, vI x4), (5, vI x5), (6, vI x6), (8, vI x8)]) hx hb dL_isNode_157 hl (by decide) rfl (fun ls hl => ?_)
          refine lv_iinc (v := Int32.ofInt (x8 + 1)) (lv' := [(8, vI (x8 + 1)), (7, vI x7), (9, vI r_35), (0, .ref h_R), (1, vI x1), (2, vI x2), (3, vI x3), (4, vI x4), (5, vI x5), (6, vI x6)]) hx hb dL_isNode_159 hl (k := 9) rfl (z_inc _ _) (by decide) rfl (fun ls hl => ?_)
          refine lv_goto (tgt := 98) hx hb dL_isNode_162 (by decide) ?_
          exact ih (x7) ((x8 + 1)) H locs ls h hP hD hS (lv_sub hl [3, 4, 5, 6, 7, 8, 9, 1, 0] rfl)
        · have h := it_p b_45 h
          refine lv_iload hx hb dL_isNode_133 (lv_at hl 0 rfl) ?_
          refine lv_goto (tgt := 157) hx hb dL_isNode_135 (by decide) ?_
          refine lv_istore (lv' := [(7, vI r_35), (9, vI r_35), (0, .ref h_R), (1, vI x1), (2, vI x2), (3, vI x3), (4, vI x4), (5, vI x5), (6, vI x6), (8, vI x8)]) hx hb dL_isNode_157 hl (by decide) rfl (fun ls hl => ?_)
          refine lv_iinc (v := Int32.ofInt (x8 + 1)) (lv' := [(8, vI (x8 + 1)), (7, vI r_35), (9, vI r_35), (0, .ref h_R), (1, vI x1), (2, vI x2), (3, vI x3), (4, vI x4), (5, vI x5), (6, vI x6)]) hx hb dL_isNode_159 hl (k := 9) rfl (z_inc _ _) (by decide) rfl (fun ls hl => ?_)
          refine lv_goto (tgt := 98) hx hb dL_isNode_162 (by decide) ?_
          exact ih (r_35) ((x8 + 1)) H locs ls h hP hD hS (lv_sub hl [3, 4, 5, 6, 7, 8, 9, 1, 0] rfl)

set_option maxHeartbeats 4000000 in
set_option maxRecDepth 100000 in
theorem w_Lw_isNode_L75 {p : Program} {l : Launch} {e : Env} {s : State} {m : MethodId} {args : Array Value} {below : List Frame} {meth : Method} {c : Code} {A : Nat → Prop} (D : va_G) (cI cZ cT : ClassId) (h_R : Nat) (h_T : Nat) (hc_R : Nat) (hp_R : Nat) (h_K : Nat) (hx_R : Nat) (hh_R : Nat) (hs_R : Nat) (q_T : Nat → Nat) (q_K : Nat → Nat) (c_hasSnapshot : Int) (T : TV) (K : KV) (x1 : Int) (x2 : Int) (x3 : Int) (x4 : Int) (x5 : Int) (res : Int) (k : Int → Option (Int)) (hF : zF p m c cL_isNode 10 s args yL_isNode.cls meth (some .boolean) yL_isNode.name A D (zt cI cZ cT))
    (hk : ∀ (x6 : Int) (H : Heap) (locs : List Loc) (ls : Array Slot), k x6 = some res → va_P D vwCl ((zRt h_R h_T hc_R hp_R h_K hx_R hh_R hs_R c_hasSnapshot) ++ (zTr cI h_T q_T T) ++ (zWk cI h_K q_K K)) H → va_D A ((zRt h_R h_T hc_R hp_R h_K hx_R hh_R hs_R c_hasSnapshot) ++ (zTr cI h_T q_T T) ++ (zWk cI h_K q_K K)) → va_S A s.heap H locs → lv_has ls 10 [(0, .ref h_R), (1, vI x1), (2, vI x2), (3, vI x3), (4, vI x4), (5, vI x5)] → W p l e rm_Lw_isNode s m args below meth c H locs 0 0 (MQ below (zQi D (res) (fun u => (zRt h_R h_T hc_R hp_R h_K hx_R hh_R hs_R c_hasSnapshot) ++ (zTr cI h_T q_T T) ++ (zWk cI h_K q_K K)) A) args s 0 0 A) (F0 m 185 ls [])) :
    ∀ (n : Nat) (x6 : Int) (H : Heap) (locs : List Loc) (ls : Array Slot), f_Lw_isNode_L75 T K x1 x5 k n x6 = some res → va_P D vwCl ((zRt h_R h_T hc_R hp_R h_K hx_R hh_R hs_R c_hasSnapshot) ++ (zTr cI h_T q_T T) ++ (zWk cI h_K q_K K)) H → va_D A ((zRt h_R h_T hc_R hp_R h_K hx_R hh_R hs_R c_hasSnapshot) ++ (zTr cI h_T q_T T) ++ (zWk cI h_K q_K K)) → va_S A s.heap H locs → lv_has ls 10 [(0, .ref h_R), (1, vI x1), (2, vI x2), (3, vI x3), (4, vI x4), (5, vI x5), (6, vI x6)] → W p l e rm_Lw_isNode s m args below meth c H locs 0 0 (MQ below (zQi D (res) (fun u => (zRt h_R h_T hc_R hp_R h_K hx_R hh_R hs_R c_hasSnapshot) ++ (zTr cI h_T q_T T) ++ (zWk cI h_K q_K K)) A) args s 0 0 A) (F0 m 75 ls []) := by
  have hx := hF.1.1
  have hb := hF.1.2.1
  have hml := hF.1.2.2.1
  have hown : s.vm.findClass "RectangleTreeLaw" = some m.cls := hF.1.2.2.2.1
  have hts := hF.1.2.2.2.2
  have hr := hF.2.1
  have hlk := hF.2.2.1
  have hK := hF.2.2.2.2.1
  have hN := hF.2.2.2.2.2.1
  have hA := hF.2.2.2.2.2.2
  intro n
  induction n with
  | zero => intro x6  H locs ls h; cases h
  | succ n ih =>
    intro x6  H locs ls h  hP hD hS hl
    rw [f_Lw_isNode_L75] at h
    refine lv_iload hx hb dL_isNode_75 (lv_at hl 6 rfl) ?_
    refine lv_iconst (v := Int32.ofInt 4) hx hb dL_isNode_77 rfl ?_
    obtain ⟨g_26, h⟩ := gd_e h
    refine z_icmp_ge (tgt := 185) hx hb g_26 (by decide) dL_isNode_78 (by decide) (fun b_27 => ?_) (fun b_27 => ?_)
    · have h := it_n b_27 h
      exact hk (x6) H locs ls h hP hD hS (lv_sub hl [0, 1, 2, 3, 4, 5] rfl)
    · have h := it_p b_27 h
      refine lv_iload hx hb dL_isNode_81 (lv_at hl 6 rfl) ?_
      refine lv_iconst (v := Int32.ofInt 2) hx hb dL_isNode_83 rfl ?_
      refine z_icmp_ge (tgt := 92) hx hb g_26 (by decide) dL_isNode_84 (by decide) (fun b_28 => ?_) (fun b_28 => ?_)
      · have h := it_n b_28 h
        refine lv_iconst (v := Int32.ofInt (-1)) hx hb dL_isNode_92 rfl ?_
        refine lv_istore (lv' := [(7, vI (-1)), (0, .ref h_R), (1, vI x1), (2, vI x2), (3, vI x3), (4, vI x4), (5, vI x5), (6, vI x6)]) hx hb dL_isNode_93 hl (by decide) rfl (fun ls hl => ?_)
        refine lv_iconst (v := Int32.ofInt 0) hx hb dL_isNode_95 rfl ?_
        refine lv_istore (lv' := [(8, vI 0), (7, vI (-1)), (0, .ref h_R), (1, vI x1), (2, vI x2), (3, vI x3), (4, vI x4), (5, vI x5), (6, vI x6)]) hx hb dL_isNode_96 hl (by decide) rfl (fun ls hl => ?_)
        refine w_Lw_isNode_L98 D cI cZ cT (h_R) (h_T) (hc_R) (hp_R) (h_K) (hx_R) (hh_R) (hs_R) (q_T) (q_K) (c_hasSnapshot) (T) (K) (x1) (x2) (x3) (x4) (x5) (x6) _ _ hF (fun x7_46 x8_47 H locs ls h hP hD hS hl => ?_) _ ((-1)) (0) _ _ _ h hP hD hS (lv_sub hl [2, 3, 4, 5, 6, 7, 8, 1, 0] rfl)
        refine lv_aload_n hx hb dL_isNode_165 rfl (lv_at hl 0 rfl) ?_
        refine lv_iload_n hx hb dL_isNode_166 rfl (lv_at hl 1 rfl) ?_
        refine lv_iload hx hb dL_isNode_167 (lv_at hl 6 rfl) ?_
        obtain ⟨r_48, e_49, h⟩ := bd1_e h
        refine z_goi (ws' := []) (ret := r_48) (wc := (zRt (h_R) (h_T) (hc_R) (hp_R) (h_K) (hx_R) (hh_R) (hs_R) (c_hasSnapshot)) ++ (zTr cI (h_T) (q_T) (T)) ++ (zWk cI (h_K) (q_K) (K))) (wn := fun u_50 => (zRt h_R h_T hc_R hp_R h_K hx_R hh_R hs_R c_hasSnapshot) ++ (zTr cI h_T q_T T) ++ (zWk cI h_K q_K K)) (wr := []) (va_runV (As := [vI x1, vI x6]) (rest := []) hF.1 (c_Rt_bound l D cI cZ cT h_R h_T hc_R hp_R h_K hx_R hh_R hs_R q_T q_K c_hasSnapshot T K x1 x6 H.size (r_48) e_49) (cwV 2 hts (zgV wm313 wm314 wm315 wm32 wm316) rfl rfl rfl (by decide +kernel) ⟨Nat.le_of_ble_eq_true rfl, Nat.le_of_ble_eq_true rfl⟩) ⟨zP.blind, va_recv hK (z_subP (ws' := (zRt (h_R) (h_T) (hc_R) (hp_R) (h_K) (hx_R) (hh_R) (hs_R) (c_hasSnapshot)) ++ (zTr cI (h_T) (q_T) (T)) ++ (zWk cI (h_K) (q_K) (K))) hP [0, 1, 2, 3, 4, 5, 6, 7, 8, 9] rfl) (ci := 6) (q0 := 0) rfl rfl, zP.enter (z_subP (ws' := (zRt (h_R) (h_T) (hc_R) (hp_R) (h_K) (hx_R) (hh_R) (hs_R) (c_hasSnapshot)) ++ (zTr cI (h_T) (q_T) (T)) ++ (zWk cI (h_K) (q_K) (K))) hP [0, 1, 2, 3, 4, 5, 6, 7, 8, 9] rfl) hK (hD.sub [0, 1, 2, 3, 4, 5, 6, 7, 8, 9] (by decide) rfl) hN⟩ rfl rfl hl.1 rfl (lv_room (Nat.le_of_ble_eq_true rfl)) dL_isNode_169 ⟨Nat.le_refl _, Nat.le_refl _⟩) hP hD hS hA [0, 1, 2, 3, 4, 5, 6, 7, 8, 9] [] [0, 1, 2, 3, 4, 5, 6, 7, 8, 9] rfl rfl (by decide) (fun _ => rfl) (fun u_50 H locs hP hD hS hz => ?_)
        refine lv_iload hx hb dL_isNode_172 (lv_at hl 7 rfl) ?_
        obtain ⟨g_51, h⟩ := gd_e h
        obtain ⟨g_52, h⟩ := gd_e h
        refine z_icmp_eq (tgt := 179) hx hb g_51 g_52 dL_isNode_174 (by decide) (fun b_53 => ?_) (fun b_53 => ?_)
        · have h := it_p b_53 h
          refine lv_iinc (v := Int32.ofInt (x6 + 1)) (lv' := [(6, vI (x6 + 1)), (0, .ref h_R), (1, vI x1), (2, vI x2), (3, vI x3), (4, vI x4), (5, vI x5), (7, vI x7_46)]) hx hb dL_isNode_179 hl (k := 6) rfl (z_inc _ _) (by decide) rfl (fun ls hl => ?_)
          refine lv_goto (tgt := 75) hx hb dL_isNode_182 (by decide) ?_
          exact ih ((x6 + 1)) H locs ls h hP hD hS (lv_sub hl [1, 2, 3, 4, 5, 6, 0] rfl)
        · have h := it_n b_53 h
          refine lv_iconst (v := Int32.ofInt 0) hx hb dL_isNode_177 rfl ?_
          obtain rfl := Option.some.inj h
          exact z_zret hx hb hr hlk (by decide) (fun _ _ => 0) hP hD hS dL_isNode_178
      · have h := it_p b_28 h
        refine lv_bipush (v := Int32.ofInt 100) hx hb dL_isNode_87 (by decide +kernel) ?_
        refine lv_goto (tgt := 93) hx hb dL_isNode_89 (by decide) ?_
        refine lv_istore (lv' := [(7, vI 100), (0, .ref h_R), (1, vI x1), (2, vI x2), (3, vI x3), (4, vI x4), (5, vI x5), (6, vI x6)]) hx hb dL_isNode_93 hl (by decide) rfl (fun ls hl => ?_)
        refine lv_iconst (v := Int32.ofInt 0) hx hb dL_isNode_95 rfl ?_
        refine lv_istore (lv' := [(8, vI 0), (7, vI 100), (0, .ref h_R), (1, vI x1), (2, vI x2), (3, vI x3), (4, vI x4), (5, vI x5), (6, vI x6)]) hx hb dL_isNode_96 hl (by decide) rfl (fun ls hl => ?_)
        refine w_Lw_isNode_L98 D cI cZ cT (h_R) (h_T) (hc_R) (hp_R) (h_K) (hx_R) (hh_R) (hs_R) (q_T) (q_K) (c_hasSnapshot) (T) (K) (x1) (x2) (x3) (x4) (x5) (x6) _ _ hF (fun x7_54 x8_55 H locs ls h hP hD hS hl => ?_) _ (100) (0) _ _ _ h hP hD hS (lv_sub hl [2, 3, 4, 5, 6, 7, 8, 1, 0] rfl)
        refine lv_aload_n hx hb dL_isNode_165 rfl (lv_at hl 0 rfl) ?_
        refine lv_iload_n hx hb dL_isNode_166 rfl (lv_at hl 1 rfl) ?_
        refine lv_iload hx hb dL_isNode_167 (lv_at hl 6 rfl) ?_
        obtain ⟨r_56, e_57, h⟩ := bd1_e h
        refine z_goi (ws' := []) (ret := r_56) (wc := (zRt (h_R) (h_T) (hc_R) (hp_R) (h_K) (hx_R) (hh_R) (hs_R) (c_hasSnapshot)) ++ (zTr cI (h_T) (q_T) (T)) ++ (zWk cI (h_K) (q_K) (K))) (wn := fun u_58 => (zRt h_R h_T hc_R hp_R h_K hx_R hh_R hs_R c_hasSnapshot) ++ (zTr cI h_T q_T T) ++ (zWk cI h_K q_K K)) (wr := []) (va_runV (As := [vI x1, vI x6]) (rest := []) hF.1 (c_Rt_bound l D cI cZ cT h_R h_T hc_R hp_R h_K hx_R hh_R hs_R q_T q_K c_hasSnapshot T K x1 x6 H.size (r_56) e_57) (cwV 2 hts (zgV wm313 wm314 wm315 wm32 wm316) rfl rfl rfl (by decide +kernel) ⟨Nat.le_of_ble_eq_true rfl, Nat.le_of_ble_eq_true rfl⟩) ⟨zP.blind, va_recv hK (z_subP (ws' := (zRt (h_R) (h_T) (hc_R) (hp_R) (h_K) (hx_R) (hh_R) (hs_R) (c_hasSnapshot)) ++ (zTr cI (h_T) (q_T) (T)) ++ (zWk cI (h_K) (q_K) (K))) hP [0, 1, 2, 3, 4, 5, 6, 7, 8, 9] rfl) (ci := 6) (q0 := 0) rfl rfl, zP.enter (z_subP (ws' := (zRt (h_R) (h_T) (hc_R) (hp_R) (h_K) (hx_R) (hh_R) (hs_R) (c_hasSnapshot)) ++ (zTr cI (h_T) (q_T) (T)) ++ (zWk cI (h_K) (q_K) (K))) hP [0, 1, 2, 3, 4, 5, 6, 7, 8, 9] rfl) hK (hD.sub [0, 1, 2, 3, 4, 5, 6, 7, 8, 9] (by decide) rfl) hN⟩ rfl rfl hl.1 rfl (lv_room (Nat.le_of_ble_eq_true rfl)) dL_isNode_169 ⟨Nat.le_refl _, Nat.le_refl _⟩) hP hD hS hA [0, 1, 2, 3, 4, 5, 6, 7, 8, 9] [] [0, 1, 2, 3, 4, 5, 6, 7, 8, 9] rfl rfl (by decide) (fun _ => rfl) (fun u_58 H locs hP hD hS hz => ?_)
        refine lv_iload hx hb dL_isNode_172 (lv_at hl 7 rfl) ?_
        obtain ⟨g_59, h⟩ := gd_e h
        obtain ⟨g_60, h⟩ := gd_e h
        refine z_icmp_eq (tgt := 179) hx hb g_59 g_60 dL_isNode_174 (by decide) (fun b_61 => ?_) (fun b_61 => ?_)
        · have h := it_p b_61 h
          refine lv_iinc (v := Int32.ofInt (x6 + 1)) (lv' := [(6, vI (x6 + 1)), (0, .ref h_R), (1, vI x1), (2, vI x2), (3, vI x3), (4, vI x4), (5, vI x5), (7, vI x7_54)]) hx hb dL_isNode_179 hl (k := 6) rfl (z_inc _ _) (by decide) rfl (fun ls hl => ?_)
          refine lv_goto (tgt := 75) hx hb dL_isNode_182 (by decide) ?_
          exact ih ((x6 + 1)) H locs ls h hP hD hS (lv_sub hl [1, 2, 3, 4, 5, 6, 0] rfl)
        · have h := it_n b_61 h
          refine lv_iconst (v := Int32.ofInt 0) hx hb dL_isNode_177 rfl ?_
          obtain rfl := Option.some.inj h
          exact z_zret hx hb hr hlk (by decide) (fun _ _ => 0) hP hD hS dL_isNode_178

set_option maxHeartbeats 4000000 in
set_option maxRecDepth 100000 in
theorem c_Lw_isNode (l : Launch) (D : va_G) (cI cZ cT : ClassId) (h_R : Nat) (h_T : Nat) (hc_R : Nat) (hp_R : Nat) (h_K : Nat) (hx_R : Nat) (hh_R : Nat) (hs_R : Nat) (q_T : Nat → Nat) (q_K : Nat → Nat) (c_hasSnapshot : Int) (T : TV) (K : KV) (x1 : Int) (x2 : Int) (x3 : Int) (sz : Nat) (res : Int) (h : f_Lw_isNode T K x1 x2 x3 = some res) : zMz l yL_isNode cL_isNode 10 rm_Lw_isNode D (zt cI cZ cT) [.ref h_R, vI x1, vI x2, vI x3] ((zRt h_R h_T hc_R hp_R h_K hx_R hh_R hs_R c_hasSnapshot) ++ (zTr cI h_T q_T T) ++ (zWk cI h_K q_K K)) sz (res) (fun u => (zRt h_R h_T hc_R hp_R h_K hx_R hh_R hs_R c_hasSnapshot) ++ (zTr cI h_T q_T T) ++ (zWk cI h_K q_K K)) 0 0 := by
  refine z_enth (Qc := zQi D (res) (fun u => (zRt h_R h_T hc_R hp_R h_K hx_R hh_R hs_R c_hasSnapshot) ++ (zTr cI h_T q_T T) ++ (zWk cI h_K q_K K))) (by decide) (Nat.le_of_ble_eq_true rfl) (fun p e s m args below meth c A ls H locs hF hP hD hS hl => ?_)
  have hx := hF.1.1
  have hb := hF.1.2.1
  have hml := hF.1.2.2.1
  have hown : s.vm.findClass "RectangleTreeLaw" = some m.cls := hF.1.2.2.2.1
  have hts := hF.1.2.2.2.2
  have hr := hF.2.1
  have hlk := hF.2.2.1
  have hK := hF.2.2.2.2.1
  have hN := hF.2.2.2.2.2.1
  have hA := hF.2.2.2.2.2.2
  unfold f_Lw_isNode at h
  refine lv_iload_n hx hb dL_isNode_0 rfl (lv_at hl 1 rfl) ?_
  refine lv_iconst (v := Int32.ofInt 1) hx hb dL_isNode_1 rfl ?_
  refine z_iadd hx hb dL_isNode_2 ?_
  refine lv_istore (lv' := [(4, vI (x1 + 1)), (0, .ref h_R), (1, vI x1), (2, vI x2), (3, vI x3)]) hx hb dL_isNode_3 hl (by decide) rfl (fun ls hl => ?_)
  refine lv_aload_n hx hb dL_isNode_5 rfl (lv_at hl 1 rfl) ?_
  refine lv_iload_n hx hb dL_isNode_6 rfl (lv_at hl 2 rfl) ?_
  obtain ⟨r_1, e_2, h⟩ := bd1_e h
  refine z_goi (ws' := []) (ret := r_1) (wc := (zRt (h_R) (h_T) (hc_R) (hp_R) (h_K) (hx_R) (hh_R) (hs_R) (c_hasSnapshot)) ++ (zTr cI (h_T) (q_T) (T)) ++ (zWk cI (h_K) (q_K) (K))) (wn := fun u_3 => (zRt h_R h_T hc_R hp_R h_K hx_R hh_R hs_R c_hasSnapshot) ++ (zTr cI h_T q_T T) ++ (zWk cI h_K q_K K)) (wr := []) (va_runV (As := [vI x1]) (rest := []) hF.1 (c_Rt_entries l D cI cZ cT h_R h_T hc_R hp_R h_K hx_R hh_R hs_R q_T q_K c_hasSnapshot T K x1 H.size (r_1) e_2) (cwV 1 hts (zgV wm308 wm309 wm310 wm32 wm311) rfl rfl rfl (by decide +kernel) ⟨Nat.le_of_ble_eq_true rfl, Nat.le_of_ble_eq_true rfl⟩) ⟨zP.blind, va_recv hK (z_subP (ws' := (zRt (h_R) (h_T) (hc_R) (hp_R) (h_K) (hx_R) (hh_R) (hs_R) (c_hasSnapshot)) ++ (zTr cI (h_T) (q_T) (T)) ++ (zWk cI (h_K) (q_K) (K))) hP [0, 1, 2, 3, 4, 5, 6, 7, 8, 9] rfl) (ci := 6) (q0 := 0) rfl rfl, zP.enter (z_subP (ws' := (zRt (h_R) (h_T) (hc_R) (hp_R) (h_K) (hx_R) (hh_R) (hs_R) (c_hasSnapshot)) ++ (zTr cI (h_T) (q_T) (T)) ++ (zWk cI (h_K) (q_K) (K))) hP [0, 1, 2, 3, 4, 5, 6, 7, 8, 9] rfl) hK (hD.sub [0, 1, 2, 3, 4, 5, 6, 7, 8, 9] (by decide) rfl) hN⟩ rfl rfl hl.1 rfl (lv_room (Nat.le_of_ble_eq_true rfl)) dL_isNode_7 ⟨Nat.le_refl _, Nat.le_refl _⟩) hP hD hS hA [0, 1, 2, 3, 4, 5, 6, 7, 8, 9] [] [0, 1, 2, 3, 4, 5, 6, 7, 8, 9] rfl rfl (by decide) (fun _ => rfl) (fun u_3 H locs hP hD hS hz => ?_)
  refine lv_istore (lv' := [(5, vI r_1), (4, vI (x1 + 1)), (0, .ref h_R), (1, vI x1), (2, vI x2), (3, vI x3)]) hx hb dL_isNode_10 hl (by decide) rfl (fun ls hl => ?_)
  refine lv_iconst (v := Int32.ofInt 0) hx hb dL_isNode_12 rfl ?_
  refine lv_istore (lv' := [(6, vI 0), (5, vI r_1), (4, vI (x1 + 1)), (0, .ref h_R), (1, vI x1), (2, vI x2), (3, vI x3)]) hx hb dL_isNode_13 hl (by decide) rfl (fun ls hl => ?_)
  refine w_Lw_isNode_L15 D cI cZ cT (h_R) (h_T) (hc_R) (hp_R) (h_K) (hx_R) (hh_R) (hs_R) (q_T) (q_K) (c_hasSnapshot) (T) (K) (x1) (x2) (x3) (r_1) _ _ hF (fun x4_24 x6_25 H locs ls h hP hD hS hl => ?_) _ ((x1 + 1)) (0) _ _ _ h hP hD hS (lv_sub hl [3, 4, 5, 6, 2, 1, 0] rfl)
  refine lv_iconst (v := Int32.ofInt 0) hx hb dL_isNode_72 rfl ?_
  refine lv_istore (lv' := [(6, vI 0), (0, .ref h_R), (1, vI x1), (2, vI x2), (3, vI x3), (4, vI x4_24), (5, vI r_1)]) hx hb dL_isNode_73 hl (by decide) rfl (fun ls hl => ?_)
  refine w_Lw_isNode_L75 D cI cZ cT (h_R) (h_T) (hc_R) (hp_R) (h_K) (hx_R) (hh_R) (hs_R) (q_T) (q_K) (c_hasSnapshot) (T) (K) (x1) (x2) (x3) (x4_24) (r_1) _ _ hF (fun x6_62 H locs ls h hP hD hS hl => ?_) _ (0) _ _ _ h hP hD hS (lv_sub hl [1, 2, 3, 4, 5, 6, 0] rfl)
  refine lv_iload hx hb dL_isNode_185 (lv_at hl 5 rfl) ?_
  obtain ⟨g_63, h⟩ := gd_e h
  refine z_if_le (tgt := 206) hx hb g_63 dL_isNode_187 (by decide) (fun b_64 => ?_) (fun b_64 => ?_)
  · have h := it_n b_64 h
    refine lv_iconst (v := Int32.ofInt 0) hx hb dL_isNode_206 rfl ?_
    obtain rfl := Option.some.inj h
    exact z_zret hx hb hr hlk (by decide) (fun _ _ => 0) hP hD hS dL_isNode_207
  · have h := it_p b_64 h
    refine lv_iload hx hb dL_isNode_190 (lv_at hl 4 rfl) ?_
    refine lv_aload_n hx hb dL_isNode_192 rfl (lv_at hl 0 rfl) ?_
    refine lv_iload_n hx hb dL_isNode_193 rfl (lv_at hl 1 rfl) ?_
    refine lv_iload_n hx hb dL_isNode_194 rfl (lv_at hl 2 rfl) ?_
    refine lv_iload_n hx hb dL_isNode_195 rfl (lv_at hl 3 rfl) ?_
    obtain ⟨r_65, e_66, h⟩ := bd1_e h
    refine z_goi (ws' := []) (ret := r_65) (wc := (zRt (h_R) (h_T) (hc_R) (hp_R) (h_K) (hx_R) (hh_R) (hs_R) (c_hasSnapshot)) ++ (zTr cI (h_T) (q_T) (T)) ++ (zWk cI (h_K) (q_K) (K))) (wn := fun u_67 => (zRt h_R h_T hc_R hp_R h_K hx_R hh_R hs_R c_hasSnapshot) ++ (zTr cI h_T q_T T) ++ (zWk cI h_K q_K K)) (wr := []) (va_runS (As := [.ref h_R, vI x1, vI x2, vI x3]) (rest := [vI x4_24]) hF.1 (c_Lw_behind l D cI cZ cT h_R h_T hc_R hp_R h_K hx_R hh_R hs_R q_T q_K c_hasSnapshot T K x1 x2 x3 H.size (r_65) e_66) (va_cwS 4 hts (zgS wm333 wm334 wm31 wm335) rfl rfl rfl (by decide +kernel) ⟨Nat.le_of_ble_eq_true rfl, Nat.le_of_ble_eq_true rfl⟩) ⟨zP.blind, zP.enter (z_subP (ws' := (zRt (h_R) (h_T) (hc_R) (hp_R) (h_K) (hx_R) (hh_R) (hs_R) (c_hasSnapshot)) ++ (zTr cI (h_T) (q_T) (T)) ++ (zWk cI (h_K) (q_K) (K))) hP [0, 1, 2, 3, 4, 5, 6, 7, 8, 9] rfl) hK (hD.sub [0, 1, 2, 3, 4, 5, 6, 7, 8, 9] (by decide) rfl) hN⟩ rfl rfl hl.1 rfl (lv_room (Nat.le_of_ble_eq_true rfl)) dL_isNode_196 ⟨Nat.le_refl _, Nat.le_refl _⟩) hP hD hS hA [0, 1, 2, 3, 4, 5, 6, 7, 8, 9] [] [0, 1, 2, 3, 4, 5, 6, 7, 8, 9] rfl rfl (by decide) (fun _ => rfl) (fun u_67 H locs hP hD hS hz => ?_)
    obtain ⟨g_68, h⟩ := gd_e h
    obtain ⟨g_69, h⟩ := gd_e h
    refine z_icmp_ne (tgt := 206) hx hb g_68 g_69 dL_isNode_199 (by decide) (fun b_70 => ?_) (fun b_70 => ?_)
    · have h := it_n b_70 h
      refine lv_iconst (v := Int32.ofInt 0) hx hb dL_isNode_206 rfl ?_
      obtain rfl := Option.some.inj h
      exact z_zret hx hb hr hlk (by decide) (fun _ _ => 0) hP hD hS dL_isNode_207
    · have h := it_p b_70 h
      refine lv_iconst (v := Int32.ofInt 1) hx hb dL_isNode_202 rfl ?_
      refine lv_goto (tgt := 207) hx hb dL_isNode_203 (by decide) ?_
      obtain rfl := Option.some.inj h
      exact z_zret hx hb hr hlk (by decide) (fun _ _ => 0) hP hD hS dL_isNode_207
