/-! the law's methods: contracts -/

set_option maxHeartbeats 4000000 in
set_option maxRecDepth 100000 in
theorem w_Lw_areFound_L90 {p : Program} {l : Launch} {e : Env} {s : State} {m : MethodId} {args : Array Value} {below : List Frame} {meth : Method} {c : Code} {A : Nat → Prop} (D : va_G) (cI cZ cT : ClassId) (h_R : Nat) (h_T : Nat) (hc_R : Nat) (hp_R : Nat) (h_K : Nat) (hx_R : Nat) (hh_R : Nat) (hs_R : Nat) (q_T : Nat → Nat) (q_K : Nat → Nat) (h_A1 : Nat) (n_A1 : Nat) (c_hasSnapshot : Int) (T : TV) (K : KV) (fA1 : Nat → Int) (x3 : Int) (x4 : Int) (x5 : Int) (x6 : Int) (x7 : Int) (x8 : Int) (x9 : Int) (x10 : Int) (x11 : Int) (x12 : Int) (x13 : Int) (x14 : Int) (x15 : Int) (res : Int) (k : Int → Option (Int)) (hF : zF p m c cL_areFound 18 s args yL_areFound.cls meth (some .boolean) yL_areFound.name A D (zt cI cZ cT))
    (hk : ∀ (x16 : Int) (H : Heap) (locs : List Loc) (ls : Array Slot), k x16 = some res → va_P D vwCl ((zRt h_R h_T hc_R hp_R h_K hx_R hh_R hs_R c_hasSnapshot) ++ (zTr cI h_T q_T T) ++ (zWk cI h_K q_K K) ++ (zAr cI h_A1 n_A1 fA1)) H → va_D A ((zRt h_R h_T hc_R hp_R h_K hx_R hh_R hs_R c_hasSnapshot) ++ (zTr cI h_T q_T T) ++ (zWk cI h_K q_K K) ++ (zAr cI h_A1 n_A1 fA1)) → va_S A s.heap H locs → lv_has ls 18 [(0, .ref h_R), (1, .ref h_A1), (3, vI x3), (4, vI x4), (5, vI x5), (6, vI x6), (7, vI x7), (8, vI x8), (9, vI x9), (10, vI x10), (11, vI x11), (12, vI x12), (13, vI x13), (14, vI x14), (15, vI x15), (16, vI x16)] → W p l e rm_Lw_areFound s m args below meth c H locs 0 0 (MQ below (zQi D (res) (fun u => (zRt h_R h_T hc_R hp_R h_K hx_R hh_R hs_R c_hasSnapshot) ++ (zTr cI h_T q_T T) ++ (zWk cI h_K q_K K) ++ (zAr cI h_A1 n_A1 fA1)) A) args s 0 0 A) (F0 m 119 ls [])) :
    ∀ (n : Nat) (x16 : Int) (H : Heap) (locs : List Loc) (ls : Array Slot), f_Lw_areFound_L90 x3 x12 x14 k n x16 = some res → va_P D vwCl ((zRt h_R h_T hc_R hp_R h_K hx_R hh_R hs_R c_hasSnapshot) ++ (zTr cI h_T q_T T) ++ (zWk cI h_K q_K K) ++ (zAr cI h_A1 n_A1 fA1)) H → va_D A ((zRt h_R h_T hc_R hp_R h_K hx_R hh_R hs_R c_hasSnapshot) ++ (zTr cI h_T q_T T) ++ (zWk cI h_K q_K K) ++ (zAr cI h_A1 n_A1 fA1)) → va_S A s.heap H locs → lv_has ls 18 [(0, .ref h_R), (1, .ref h_A1), (3, vI x3), (4, vI x4), (5, vI x5), (6, vI x6), (7, vI x7), (8, vI x8), (9, vI x9), (10, vI x10), (11, vI x11), (12, vI x12), (13, vI x13), (14, vI x14), (15, vI x15)] → W p l e rm_Lw_areFound s m args below meth c H locs 0 0 (MQ below (zQi D (res) (fun u => (zRt h_R h_T hc_R hp_R h_K hx_R hh_R hs_R c_hasSnapshot) ++ (zTr cI h_T q_T T) ++ (zWk cI h_K q_K K) ++ (zAr cI h_A1 n_A1 fA1)) A) args s 0 0 A) (F0 m 90 ls []) := by
  have hx := hF.1.1
  have hb := hF.1.2.1
  have hml := hF.1.2.2.1
  have hown : s.vm.findClass "RectangleTreeLaw" = some m.cls := hF.1.2.2.2.1
  have hts := hF.1.2.2.2.2
  have hr := hF.2.1
  have hlk := hF.2.2.1
  have hK := hF.2.2.2.2.1
  have hN := hF.2.2.2.2.2.1
  have hA := hF.2.2.2.2.2.2
  intro n
  induction n with
  | zero => intro x16  H locs ls h; cases h
  | succ n ih =>
    intro x16  H locs ls h  hP hD hS hl
    rw [f_Lw_areFound_L90] at h
    refine lv_iload_n hx hb dL_areFound_90 rfl (lv_at hl 2 rfl) ?_
    refine lv_iload hx hb dL_areFound_91 (lv_at hl 11 rfl) ?_
    obtain ⟨g_28, h⟩ := gd_e h
    obtain ⟨g_29, h⟩ := gd_e h
    refine z_icmp_ge (tgt := 103) hx hb g_28 g_29 dL_areFound_93 (by decide) (fun b_30 => ?_) (fun b_30 => ?_)
    · have h := it_n b_30 h
      refine lv_iload_n hx hb dL_areFound_103 rfl (lv_at hl 2 rfl) ?_
      refine lv_iload hx hb dL_areFound_104 (lv_at hl 13 rfl) ?_
      obtain ⟨g_31, h⟩ := gd_e h
      refine z_icmp_le (tgt := 116) hx hb g_28 g_31 dL_areFound_106 (by decide) (fun b_32 => ?_) (fun b_32 => ?_)
      · have h := it_n b_32 h
        refine lv_iconst (v := Int32.ofInt 0) hx hb dL_areFound_116 rfl ?_
        refine lv_istore (lv' := [(16, vI 0), (0, .ref h_R), (1, .ref h_A1), (3, vI x3), (4, vI x4), (5, vI x5), (6, vI x6), (7, vI x7), (8, vI x8), (9, vI x9), (10, vI x10), (11, vI x11), (12, vI x12), (13, vI x13), (14, vI x14), (15, vI x15)]) hx hb dL_areFound_117 hl (by decide) rfl (fun ls hl => ?_)
        exact hk (0) H locs ls h hP hD hS (lv_sub hl [1, 2, 3, 4, 5, 6, 7, 8, 9, 10, 11, 12, 13, 14, 15, 0] rfl)
      · have h := it_p b_32 h
        refine lv_iload_n hx hb dL_areFound_109 rfl (lv_at hl 2 rfl) ?_
        refine lv_iload hx hb dL_areFound_110 (lv_at hl 13 rfl) ?_
        refine z_isub hx hb dL_areFound_112 ?_
        refine lv_goto (tgt := 117) hx hb dL_areFound_113 (by decide) ?_
        refine lv_istore (lv' := [(16, vI (x3 - x14)), (0, .ref h_R), (1, .ref h_A1), (3, vI x3), (4, vI x4), (5, vI x5), (6, vI x6), (7, vI x7), (8, vI x8), (9, vI x9), (10, vI x10), (11, vI x11), (12, vI x12), (13, vI x13), (14, vI x14), (15, vI x15)]) hx hb dL_areFound_117 hl (by decide) rfl (fun ls hl => ?_)
        exact hk ((x3 - x14)) H locs ls h hP hD hS (lv_sub hl [1, 2, 3, 4, 5, 6, 7, 8, 9, 10, 11, 12, 13, 14, 15, 0] rfl)
    · have h := it_p b_30 h
      refine lv_iload hx hb dL_areFound_96 (lv_at hl 11 rfl) ?_
      refine lv_iload_n hx hb dL_areFound_98 rfl (lv_at hl 2 rfl) ?_
      refine z_isub hx hb dL_areFound_99 ?_
      refine lv_goto (tgt := 117) hx hb dL_areFound_100 (by decide) ?_
      refine lv_istore (lv' := [(16, vI (x12 - x3)), (0, .ref h_R), (1, .ref h_A1), (3, vI x3), (4, vI x4), (5, vI x5), (6, vI x6), (7, vI x7), (8, vI x8), (9, vI x9), (10, vI x10), (11, vI x11), (12, vI x12), (13, vI x13), (14, vI x14), (15, vI x15)]) hx hb dL_areFound_117 hl (by decide) rfl (fun ls hl => ?_)
      exact hk ((x12 - x3)) H locs ls h hP hD hS (lv_sub hl [1, 2, 3, 4, 5, 6, 7, 8, 9, 10, 11, 12, 13, 14, 15, 0] rfl)

set_option maxHeartbeats 4000000 in
set_option maxRecDepth 100000 in
theorem w_Lw_areFound_L119 {p : Program} {l : Launch} {e : Env} {s : State} {m : MethodId} {args : Array Value} {below : List Frame} {meth : Method} {c : Code} {A : Nat → Prop} (D : va_G) (cI cZ cT : ClassId) (h_R : Nat) (h_T : Nat) (hc_R : Nat) (hp_R : Nat) (h_K : Nat) (hx_R : Nat) (hh_R : Nat) (hs_R : Nat) (q_T : Nat → Nat) (q_K : Nat → Nat) (h_A1 : Nat) (n_A1 : Nat) (c_hasSnapshot : Int) (T : TV) (K : KV) (fA1 : Nat → Int) (x3 : Int) (x4 : Int) (x5 : Int) (x6 : Int) (x7 : Int) (x8 : Int) (x9 : Int) (x10 : Int) (x11 : Int) (x12 : Int) (x13 : Int) (x14 : Int) (x15 : Int) (x16 : Int) (res : Int) (k : Int → Option (Int)) (hF : zF p m c cL_areFound 18 s args yL_areFound.cls meth (some .boolean) yL_areFound.name A D (zt cI cZ cT))
    (hk : ∀ (x17 : Int) (H : Heap) (locs : List Loc) (ls : Array Slot), k x17 = some res → va_P D vwCl ((zRt h_R h_T hc_R hp_R h_K hx_R hh_R hs_R c_hasSnapshot) ++ (zTr cI h_T q_T T) ++ (zWk cI h_K q_K K) ++ (zAr cI h_A1 n_A1 fA1)) H → va_D A ((zRt h_R h_T hc_R hp_R h_K hx_R hh_R hs_R c_hasSnapshot) ++ (zTr cI h_T q_T T) ++ (zWk cI h_K q_K K) ++ (zAr cI h_A1 n_A1 fA1)) → va_S A s.heap H locs → lv_has ls 18 [(0, .ref h_R), (1, .ref h_A1), (3, vI x3), (4, vI x4), (5, vI x5), (6, vI x6), (7, vI x7), (8, vI x8), (9, vI x9), (10, vI x10), (11, vI x11), (12, vI x12), (13, vI x13), (14, vI x14), (15, vI x15), (16, vI x16), (17, vI x17)] → W p l e rm_Lw_areFound s m args below meth c H locs 0 0 (MQ below (zQi D (res) (fun u => (zRt h_R h_T hc_R hp_R h_K hx_R hh_R hs_R c_hasSnapshot) ++ (zTr cI h_T q_T T) ++ (zWk cI h_K q_K K) ++ (zAr cI h_A1 n_A1 fA1)) A) args s 0 0 A) (F0 m 152 ls [])) :
    ∀ (n : Nat) (x17 : Int) (H : Heap) (locs : List Loc) (ls : Array Slot), f_Lw_areFound_L119 x4 x13 x15 k n x17 = some res → va_P D vwCl ((zRt h_R h_T hc_R hp_R h_K hx_R hh_R hs_R c_hasSnapshot) ++ (zTr cI h_T q_T T) ++ (zWk cI h_K q_K K) ++ (zAr cI h_A1 n_A1 fA1)) H → va_D A ((zRt h_R h_T hc_R hp_R h_K hx_R hh_R hs_R c_hasSnapshot) ++ (zTr cI h_T q_T T) ++ (zWk cI h_K q_K K) ++ (zAr cI h_A1 n_A1 fA1)) → va_S A s.heap H locs → lv_has ls 18 [(0, .ref h_R), (1, .ref h_A1), (3, vI x3), (4, vI x4), (5, vI x5), (6, vI x6), (7, vI x7), (8, vI x8), (9, vI x9), (10, vI x10), (11, vI x11), (12, vI x12), (13, vI x13), (14, vI x14), (15, vI x15), (16, vI x16)] → W p l e rm_Lw_areFound s m args below meth c H locs 0 0 (MQ below (zQi D (res) (fun u => (zRt h_R h_T hc_R hp_R h_K hx_R hh_R hs_R c_hasSnapshot) ++ (zTr cI h_T q_T T) ++ (zWk cI h_K q_K K) ++ (zAr cI h_A1 n_A1 fA1)) A) args s 0 0 A) (F0 m 119 ls []) := by
  have hx := hF.1.1
  have hb := hF.1.2.1
  have hml := hF.1.2.2.1
  have hown : s.vm.findClass "RectangleTreeLaw" = some m.cls := hF.1.2.2.2.1
  have hts := hF.1.2.2.2.2
  have hr := hF.2.1
  have hlk := hF.2.2.1
  have hK := hF.2.2.2.2.1
  have hN := hF.2.2.2.2.2.1
  have hA := hF.2.2.2.2.2.2
  intro n
  induction n with
  | zero => intro x17  H locs ls h; cases h
  | succ n ih =>
    intro x17  H locs ls h  hP hD hS hl
    rw [f_Lw_areFound_L119] at h
    refine lv_iload hx hb dL_areFound_119 (lv_at hl 3 rfl) ?_
    refine lv_iload hx hb dL_areFound_121 (lv_at hl 12 rfl) ?_
    obtain ⟨g_34, h⟩ := gd_e h
    obtain ⟨g_35, h⟩ := gd_e h
    refine z_icmp_ge (tgt := 134) hx hb g_34 g_35 dL_areFound_123 (by decide) (fun b_36 => ?_) (fun b_36 => ?_)
    · have h := it_n b_36 h
      refine lv_iload hx hb dL_areFound_134 (lv_at hl 3 rfl) ?_
      refine lv_iload hx hb dL_areFound_136 (lv_at hl 14 rfl) ?_
      obtain ⟨g_37, h⟩ := gd_e h
      refine z_icmp_le (tgt := 149) hx hb g_34 g_37 dL_areFound_138 (by decide) (fun b_38 => ?_) (fun b_38 => ?_)
      · have h := it_n b_38 h
        refine lv_iconst (v := Int32.ofInt 0) hx hb dL_areFound_149 rfl ?_
        refine lv_istore (lv' := [(17, vI 0), (0, .ref h_R), (1, .ref h_A1), (3, vI x3), (4, vI x4), (5, vI x5), (6, vI x6), (7, vI x7), (8, vI x8), (9, vI x9), (10, vI x10), (11, vI x11), (12, vI x12), (13, vI x13), (14, vI x14), (15, vI x15), (16, vI x16)]) hx hb dL_areFound_150 hl (by decide) rfl (fun ls hl => ?_)
        exact hk (0) H locs ls h hP hD hS (lv_sub hl [1, 2, 3, 4, 5, 6, 7, 8, 9, 10, 11, 12, 13, 14, 15, 16, 0] rfl)
      · have h := it_p b_38 h
        refine lv_iload hx hb dL_areFound_141 (lv_at hl 3 rfl) ?_
        refine lv_iload hx hb dL_areFound_143 (lv_at hl 14 rfl) ?_
        refine z_isub hx hb dL_areFound_145 ?_
        refine lv_goto (tgt := 150) hx hb dL_areFound_146 (by decide) ?_
        refine lv_istore (lv' := [(17, vI (x4 - x15)), (0, .ref h_R), (1, .ref h_A1), (3, vI x3), (4, vI x4), (5, vI x5), (6, vI x6), (7, vI x7), (8, vI x8), (9, vI x9), (10, vI x10), (11, vI x11), (12, vI x12), (13, vI x13), (14, vI x14), (15, vI x15), (16, vI x16)]) hx hb dL_areFound_150 hl (by decide) rfl (fun ls hl => ?_)
        exact hk ((x4 - x15)) H locs ls h hP hD hS (lv_sub hl [1, 2, 3, 4, 5, 6, 7, 8, 9, 10, 11, 12, 13, 14, 15, 16, 0] rfl)
    · have h := it_p b_36 h
      refine lv_iload hx hb dL_areFound_126 (lv_at hl 12 rfl) ?_
      refine lv_iload hx hb dL_areFound_128 (lv_at hl 3 rfl) ?_
      refine z_isub hx hb dL_areFound_130 ?_
      refine lv_goto (tgt := 150) hx hb dL_areFound_131 (by decide) ?_
      refine lv_istore (lv' := [(17, vI (x13 - x4)), (0, .ref h_R), (1, .ref h_A1), (3, vI x3), (4, vI x4), (5, vI x5), (6, vI x6), (7, vI x7), (8, vI x8), (9, vI x9), (10, vI x10), (11, vI x11), (12, vI x12), (13, vI x13), (14, vI x14), (15, vI x15), (16, vI x16)]) hx hb dL_areFound_150 hl (by decide) rfl (fun ls hl => ?_)
      exact hk ((x13 - x4)) H locs ls h hP hD hS (lv_sub hl [1, 2, 3, 4, 5, 6, 7, 8, 9, 10, 11, 12, 13, 14, 15, 16, 0] rfl)

set_option maxHeartbeats 4000000 in
set_option maxRecDepth 100000 in
theorem w_Lw_areFound_L159 {p : Program} {l : Launch} {e : Env} {s : State} {m : MethodId} {args : Array Value} {below : List Frame} {meth : Method} {c : Code} {A : Nat → Prop} (D : va_G) (cI cZ cT : ClassId) (h_R : Nat) (h_T : Nat) (hc_R : Nat) (hp_R : Nat) (h_K : Nat) (hx_R : Nat) (hh_R : Nat) (hs_R : Nat) (q_T : Nat → Nat) (q_K : Nat → Nat) (h_A1 : Nat) (n_A1 : Nat) (c_hasSnapshot : Int) (T : TV) (K : KV) (fA1 : Nat → Int) (x3 : Int) (x4 : Int) (x5 : Int) (x6 : Int) (x8 : Int) (x9 : Int) (x10 : Int) (x11 : Int) (x12 : Int) (x13 : Int) (x14 : Int) (x15 : Int) (x16 : Int) (x17 : Int) (res : Int) (k : Int → Option (Int)) (hF : zF p m c cL_areFound 18 s args yL_areFound.cls meth (some .boolean) yL_areFound.name A D (zt cI cZ cT))
    (hk : ∀ (x7 : Int) (H : Heap) (locs : List Loc) (ls : Array Slot), k x7 = some res → va_P D vwCl ((zRt h_R h_T hc_R hp_R h_K hx_R hh_R hs_R c_hasSnapshot) ++ (zTr cI h_T q_T T) ++ (zWk cI h_K q_K K) ++ (zAr cI h_A1 n_A1 fA1)) H → va_D A ((zRt h_R h_T hc_R hp_R h_K hx_R hh_R hs_R c_hasSnapshot) ++ (zTr cI h_T q_T T) ++ (zWk cI h_K q_K K) ++ (zAr cI h_A1 n_A1 fA1)) → va_S A s.heap H locs → lv_has ls 18 [(0, .ref h_R), (1, .ref h_A1), (3, vI x3), (4, vI x4), (5, vI x5), (6, vI x6), (7, vI x7), (8, vI x8), (9, vI x9), (10, vI x10), (11, vI x11), (12, vI x12), (13, vI x13), (14, vI x14), (15, vI x15), (16, vI x16), (17, vI x17)] → W p l e rm_Lw_areFound s m args below meth c H locs 0 0 (MQ below (zQi D (res) (fun u => (zRt h_R h_T hc_R hp_R h_K hx_R hh_R hs_R c_hasSnapshot) ++ (zTr cI h_T q_T T) ++ (zWk cI h_K q_K K) ++ (zAr cI h_A1 n_A1 fA1)) A) args s 0 0 A) (F0 m 196 ls [])) :
    ∀ (n : Nat) (x7 : Int) (H : Heap) (locs : List Loc) (ls : Array Slot), f_Lw_areFound_L159 x3 x4 x5 x6 x12 x13 x14 x15 k n x7 = some res → va_P D vwCl ((zRt h_R h_T hc_R hp_R h_K hx_R hh_R hs_R c_hasSnapshot) ++ (zTr cI h_T q_T T) ++ (zWk cI h_K q_K K) ++ (zAr cI h_A1 n_A1 fA1)) H → va_D A ((zRt h_R h_T hc_R hp_R h_K hx_R hh_R hs_R c_hasSnapshot) ++ (zTr cI h_T q_T T) ++ (zWk cI h_K q_K K) ++ (zAr cI h_A1 n_A1 fA1)) → va_S A s.heap H locs → lv_has ls 18 [(0, .ref h_R), (1, .ref h_A1), (3, vI x3), (4, vI x4), (5, vI x5), (6, vI x6), (7, vI x7), (8, vI x8), (9, vI x9), (10, vI x10), (11, vI x11), (12, vI x12), (13, vI x13), (14, vI x14), (15, vI x15), (16, vI x16), (17, vI x17)] → W p l e rm_Lw_areFound s m args below meth c H locs 0 0 (MQ below (zQi D (res) (fun u => (zRt h_R h_T hc_R hp_R h_K hx_R hh_R hs_R c_hasSnapshot) ++ (zTr cI h_T q_T T) ++ (zWk cI h_K q_K K) ++ (zAr cI h_A1 n_A1 fA1)) A) args s 0 0 A) (F0 m 159 ls []) := by
  have hx := hF.1.1
  have hb := hF.1.2.1
  have hml := hF.1.2.2.1
  have hown : s.vm.findClass "RectangleTreeLaw" = some m.cls := hF.1.2.2.2.1
  have hts := hF.1.2.2.2.2
  have hr := hF.2.1
  have hlk := hF.2.2.1
  have hK := hF.2.2.2.2.1
  have hN := hF.2.2.2.2.2.1
  have hA := hF.2.2.2.2.2.2
  intro n
  induction n with
  | zero => intro x7  H locs ls h; cases h
  | succ n ih =>
    intro x7  H locs ls h  hP hD hS hl
    rw [f_Lw_areFound_L159] at h
    refine lv_iload hx hb dL_areFound_159 (lv_at hl 6 rfl) ?_
    refine lv_iload hx hb dL_areFound_161 (lv_at hl 11 rfl) ?_
    refine lv_iload hx hb dL_areFound_163 (lv_at hl 4 rfl) ?_
    obtain ⟨g_44, h⟩ := gd_e h
    obtain ⟨g_45, h⟩ := gd_e h
    refine z_icmp_gt (tgt := 192) hx hb g_44 g_45 dL_areFound_165 (by decide) (fun b_46 => ?_) (fun b_46 => ?_)
    · have h := it_p b_46 h
      refine lv_iconst (v := Int32.ofInt 0) hx hb dL_areFound_192 rfl ?_
      refine z_iadd hx hb dL_areFound_193 ?_
      refine lv_istore (lv' := [(7, vI (x7 + 0)), (0, .ref h_R), (1, .ref h_A1), (3, vI x3), (4, vI x4), (5, vI x5), (6, vI x6), (8, vI x8), (9, vI x9), (10, vI x10), (11, vI x11), (12, vI x12), (13, vI x13), (14, vI x14), (15, vI x15), (16, vI x16), (17, vI x17)]) hx hb dL_areFound_194 hl (by decide) rfl (fun ls hl => ?_)
      exact hk ((x7 + 0)) H locs ls h hP hD hS (lv_sub hl [1, 2, 3, 4, 5, 6, 0, 7, 8, 9, 10, 11, 12, 13, 14, 15, 16] rfl)
    · have h := it_n b_46 h
      refine lv_iload hx hb dL_areFound_168 (lv_at hl 13 rfl) ?_
      refine lv_iload_n hx hb dL_areFound_170 rfl (lv_at hl 2 rfl) ?_
      obtain ⟨g_47, h⟩ := gd_e h
      obtain ⟨g_48, h⟩ := gd_e h
      refine z_icmp_lt (tgt := 192) hx hb g_47 g_48 dL_areFound_171 (by decide) (fun b_49 => ?_) (fun b_49 => ?_)
      · have h := it_p b_49 h
        refine lv_iconst (v := Int32.ofInt 0) hx hb dL_areFound_192 rfl ?_
        refine z_iadd hx hb dL_areFound_193 ?_
        refine lv_istore (lv' := [(7, vI (x7 + 0)), (0, .ref h_R), (1, .ref h_A1), (3, vI x3), (4, vI x4), (5, vI x5), (6, vI x6), (8, vI x8), (9, vI x9), (10, vI x10), (11, vI x11), (12, vI x12), (13, vI x13), (14, vI x14), (15, vI x15), (16, vI x16), (17, vI x17)]) hx hb dL_areFound_194 hl (by decide) rfl (fun ls hl => ?_)
        exact hk ((x7 + 0)) H locs ls h hP hD hS (lv_sub hl [1, 2, 3, 4, 5, 6, 0, 7, 8, 9, 10, 11, 12, 13, 14, 15, 16] rfl)
      · have h := it_n b_49 h
        refine lv_iload hx hb dL_areFound_174 (lv_at hl 12 rfl) ?_
        refine lv_iload hx hb dL_areFound_176 (lv_at hl 5 rfl) ?_
        obtain ⟨g_50, h⟩ := gd_e h
        obtain ⟨g_51, h⟩ := gd_e h
        refine z_icmp_gt (tgt := 192) hx hb g_50 g_51 dL_areFound_178 (by decide) (fun b_52 => ?_) (fun b_52 => ?_)
        · have h := it_p b_52 h
          refine lv_iconst (v := Int32.ofInt 0) hx hb dL_areFound_192 rfl ?_
          refine z_iadd hx hb dL_areFound_193 ?_
          refine lv_istore (lv' := [(7, vI (x7 + 0)), (0, .ref h_R), (1, .ref h_A1), (3, vI x3), (4, vI x4), (5, vI x5), (6, vI x6), (8, vI x8), (9, vI x9), (10, vI x10), (11, vI x11), (12, vI x12), (13, vI x13), (14, vI x14), (15, vI x15), (16, vI x16), (17, vI x17)]) hx hb dL_areFound_194 hl (by decide) rfl (fun ls hl => ?_)
          exact hk ((x7 + 0)) H locs ls h hP hD hS (lv_sub hl [1, 2, 3, 4, 5, 6, 0, 7, 8, 9, 10, 11, 12, 13, 14, 15, 16] rfl)
        · have h := it_n b_52 h
          refine lv_iload hx hb dL_areFound_181 (lv_at hl 14 rfl) ?_
          refine lv_iload hx hb dL_areFound_183 (lv_at hl 3 rfl) ?_
          obtain ⟨g_53, h⟩ := gd_e h
          obtain ⟨g_54, h⟩ := gd_e h
          refine z_icmp_lt (tgt := 192) hx hb g_53 g_54 dL_areFound_185 (by decide) (fun b_55 => ?_) (fun b_55 => ?_)
          · have h := it_p b_55 h
            refine lv_iconst (v := Int32.ofInt 0) hx hb dL_areFound_192 rfl ?_
            refine z_iadd hx hb dL_areFound_193 ?_
            refine lv_istore (lv' := [(7, vI (x7 + 0)), (0, .ref h_R), (1, .ref h_A1), (3, vI x3), (4, vI x4), (5, vI x5), (6, vI x6), (8, vI x8), (9, vI x9), (10, vI x10), (11, vI x11), (12, vI x12), (13, vI x13), (14, vI x14), (15, vI x15), (16, vI x16), (17, vI x17)]) hx hb dL_areFound_194 hl (by decide) rfl (fun ls hl => ?_)
            exact hk ((x7 + 0)) H locs ls h hP hD hS (lv_sub hl [1, 2, 3, 4, 5, 6, 0, 7, 8, 9, 10, 11, 12, 13, 14, 15, 16] rfl)
          · have h := it_n b_55 h
            refine lv_iconst (v := Int32.ofInt 1) hx hb dL_areFound_188 rfl ?_
            refine lv_goto (tgt := 193) hx hb dL_areFound_189 (by decide) ?_
            refine z_iadd hx hb dL_areFound_193 ?_
            refine lv_istore (lv' := [(7, vI (x7 + 1)), (0, .ref h_R), (1, .ref h_A1), (3, vI x3), (4, vI x4), (5, vI x5), (6, vI x6), (8, vI x8), (9, vI x9), (10, vI x10), (11, vI x11), (12, vI x12), (13, vI x13), (14, vI x14), (15, vI x15), (16, vI x16), (17, vI x17)]) hx hb dL_areFound_194 hl (by decide) rfl (fun ls hl => ?_)
            exact hk ((x7 + 1)) H locs ls h hP hD hS (lv_sub hl [1, 2, 3, 4, 5, 6, 0, 7, 8, 9, 10, 11, 12, 13, 14, 15, 16] rfl)

set_option maxHeartbeats 4000000 in
set_option maxRecDepth 100000 in
theorem w_Lw_areFound_L196 {p : Program} {l : Launch} {e : Env} {s : State} {m : MethodId} {args : Array Value} {below : List Frame} {meth : Method} {c : Code} {A : Nat → Prop} (D : va_G) (cI cZ cT : ClassId) (h_R : Nat) (h_T : Nat) (hc_R : Nat) (hp_R : Nat) (h_K : Nat) (hx_R : Nat) (hh_R : Nat) (hs_R : Nat) (q_T : Nat → Nat) (q_K : Nat → Nat) (h_A1 : Nat) (n_A1 : Nat) (c_hasSnapshot : Int) (T : TV) (K : KV) (fA1 : Nat → Int) (x3 : Int) (x4 : Int) (x5 : Int) (x6 : Int) (x7 : Int) (x9 : Int) (x10 : Int) (x11 : Int) (x12 : Int) (x13 : Int) (x14 : Int) (x15 : Int) (x16 : Int) (x17 : Int) (res : Int) (k : Int → Option (Int)) (hF : zF p m c cL_areFound 18 s args yL_areFound.cls meth (some .boolean) yL_areFound.name A D (zt cI cZ cT))
    (hk : ∀ (x8 : Int) (H : Heap) (locs : List Loc) (ls : Array Slot), k x8 = some res → va_P D vwCl ((zRt h_R h_T hc_R hp_R h_K hx_R hh_R hs_R c_hasSnapshot) ++ (zTr cI h_T q_T T) ++ (zWk cI h_K q_K K) ++ (zAr cI h_A1 n_A1 fA1)) H → va_D A ((zRt h_R h_T hc_R hp_R h_K hx_R hh_R hs_R c_hasSnapshot) ++ (zTr cI h_T q_T T) ++ (zWk cI h_K q_K K) ++ (zAr cI h_A1 n_A1 fA1)) → va_S A s.heap H locs → lv_has ls 18 [(0, .ref h_R), (1, .ref h_A1), (3, vI x3), (4, vI x4), (5, vI x5), (6, vI x6), (7, vI x7), (8, vI x8), (9, vI x9), (10, vI x10), (11, vI x11), (16, vI x16), (17, vI x17)] → W p l e rm_Lw_areFound s m args below meth c H locs 0 0 (MQ below (zQi D (res) (fun u => (zRt h_R h_T hc_R hp_R h_K hx_R hh_R hs_R c_hasSnapshot) ++ (zTr cI h_T q_T T) ++ (zWk cI h_K q_K K) ++ (zAr cI h_A1 n_A1 fA1)) A) args s 0 0 A) (F0 m 236 ls [])) :
    ∀ (n : Nat) (x8 : Int) (H : Heap) (locs : List Loc) (ls : Array Slot), f_Lw_areFound_L196 x3 x4 x5 x6 x11 x12 x13 x14 x15 k n x8 = some res → va_P D vwCl ((zRt h_R h_T hc_R hp_R h_K hx_R hh_R hs_R c_hasSnapshot) ++ (zTr cI h_T q_T T) ++ (zWk cI h_K q_K K) ++ (zAr cI h_A1 n_A1 fA1)) H → va_D A ((zRt h_R h_T hc_R hp_R h_K hx_R hh_R hs_R c_hasSnapshot) ++ (zTr cI h_T q_T T) ++ (zWk cI h_K q_K K) ++ (zAr cI h_A1 n_A1 fA1)) → va_S A s.heap H locs → lv_has ls 18 [(0, .ref h_R), (1, .ref h_A1), (3, vI x3), (4, vI x4), (5, vI x5), (6, vI x6), (7, vI x7), (8, vI x8), (9, vI x9), (10, vI x10), (11, vI x11), (12, vI x12), (13, vI x13), (14, vI x14), (15, vI x15), (16, vI x16), (17, vI x17)] → W p l e rm_Lw_areFound s m args below meth c H locs 0 0 (MQ below (zQi D (res) (fun u => (zRt h_R h_T hc_R hp_R h_K hx_R hh_R hs_R c_hasSnapshot) ++ (zTr cI h_T q_T T) ++ (zWk cI h_K q_K K) ++ (zAr cI h_A1 n_A1 fA1)) A) args s 0 0 A) (F0 m 196 ls []) := by
  have hx := hF.1.1
  have hb := hF.1.2.1
  have hml := hF.1.2.2.1
  have hown : s.vm.findClass "RectangleTreeLaw" = some m.cls := hF.1.2.2.2.1
  have hts := hF.1.2.2.2.2
  have hr := hF.2.1
  have hlk := hF.2.2.1
  have hK := hF.2.2.2.2.1
  have hN := hF.2.2.2.2.2.1
  have hA := hF.2.2.2.2.2.2
  intro n
  induction n with
  | zero => intro x8  H locs ls h; cases h
  | succ n ih =>
    intro x8  H locs ls h  hP hD hS hl
    rw [f_Lw_areFound_L196] at h
    refine lv_iload hx hb dL_areFound_196 (lv_at hl 7 rfl) ?_
    refine lv_iload hx hb dL_areFound_198 (lv_at hl 11 rfl) ?_
    refine lv_iload_n hx hb dL_areFound_200 rfl (lv_at hl 2 rfl) ?_
    obtain ⟨g_57, h⟩ := gd_e h
    obtain ⟨g_58, h⟩ := gd_e h
    refine z_icmp_lt (tgt := 232) hx hb g_57 g_58 dL_areFound_201 (by decide) (fun b_59 => ?_) (fun b_59 => ?_)
    · have h := it_p b_59 h
      refine lv_iconst (v := Int32.ofInt 0) hx hb dL_areFound_232 rfl ?_
      refine z_ior hx hb dL_areFound_233 ?_
      refine lv_istore (lv' := [(8, vI (iOr x8 0)), (0, .ref h_R), (1, .ref h_A1), (3, vI x3), (4, vI x4), (5, vI x5), (6, vI x6), (7, vI x7), (9, vI x9), (10, vI x10), (11, vI x11), (12, vI x12), (13, vI x13), (14, vI x14), (15, vI x15), (16, vI x16), (17, vI x17)]) hx hb dL_areFound_234 hl (by decide) rfl (fun ls hl => ?_)
      exact hk ((iOr x8 0)) H locs ls h hP hD hS (lv_sub hl [1, 2, 3, 4, 5, 6, 7, 0, 8, 9, 10, 15, 16] rfl)
    · have h := it_n b_59 h
      refine lv_iload hx hb dL_areFound_204 (lv_at hl 13 rfl) ?_
      refine lv_iload hx hb dL_areFound_206 (lv_at hl 4 rfl) ?_
      obtain ⟨g_60, h⟩ := gd_e h
      obtain ⟨g_61, h⟩ := gd_e h
      refine z_icmp_gt (tgt := 232) hx hb g_60 g_61 dL_areFound_208 (by decide) (fun b_62 => ?_) (fun b_62 => ?_)
      · have h := it_p b_62 h
        refine lv_iconst (v := Int32.ofInt 0) hx hb dL_areFound_232 rfl ?_
        refine z_ior hx hb dL_areFound_233 ?_
        refine lv_istore (lv' := [(8, vI (iOr x8 0)), (0, .ref h_R), (1, .ref h_A1), (3, vI x3), (4, vI x4), (5, vI x5), (6, vI x6), (7, vI x7), (9, vI x9), (10, vI x10), (11, vI x11), (12, vI x12), (13, vI x13), (14, vI x14), (15, vI x15), (16, vI x16), (17, vI x17)]) hx hb dL_areFound_234 hl (by decide) rfl (fun ls hl => ?_)
        exact hk ((iOr x8 0)) H locs ls h hP hD hS (lv_sub hl [1, 2, 3, 4, 5, 6, 7, 0, 8, 9, 10, 15, 16] rfl)
      · have h := it_n b_62 h
        refine lv_iload hx hb dL_areFound_211 (lv_at hl 12 rfl) ?_
        refine lv_iload hx hb dL_areFound_213 (lv_at hl 3 rfl) ?_
        obtain ⟨g_63, h⟩ := gd_e h
        obtain ⟨g_64, h⟩ := gd_e h
        refine z_icmp_lt (tgt := 232) hx hb g_63 g_64 dL_areFound_215 (by decide) (fun b_65 => ?_) (fun b_65 => ?_)
        · have h := it_p b_65 h
          refine lv_iconst (v := Int32.ofInt 0) hx hb dL_areFound_232 rfl ?_
          refine z_ior hx hb dL_areFound_233 ?_
          refine lv_istore (lv' := [(8, vI (iOr x8 0)), (0, .ref h_R), (1, .ref h_A1), (3, vI x3), (4, vI x4), (5, vI x5), (6, vI x6), (7, vI x7), (9, vI x9), (10, vI x10), (11, vI x11), (12, vI x12), (13, vI x13), (14, vI x14), (15, vI x15), (16, vI x16), (17, vI x17)]) hx hb dL_areFound_234 hl (by decide) rfl (fun ls hl => ?_)
          exact hk ((iOr x8 0)) H locs ls h hP hD hS (lv_sub hl [1, 2, 3, 4, 5, 6, 7, 0, 8, 9, 10, 15, 16] rfl)
        · have h := it_n b_65 h
          refine lv_iload hx hb dL_areFound_218 (lv_at hl 14 rfl) ?_
          refine lv_iload hx hb dL_areFound_220 (lv_at hl 5 rfl) ?_
          obtain ⟨g_66, h⟩ := gd_e h
          obtain ⟨g_67, h⟩ := gd_e h
          refine z_icmp_gt (tgt := 232) hx hb g_66 g_67 dL_areFound_222 (by decide) (fun b_68 => ?_) (fun b_68 => ?_)
          · have h := it_p b_68 h
            refine lv_iconst (v := Int32.ofInt 0) hx hb dL_areFound_232 rfl ?_
            refine z_ior hx hb dL_areFound_233 ?_
            refine lv_istore (lv' := [(8, vI (iOr x8 0)), (0, .ref h_R), (1, .ref h_A1), (3, vI x3), (4, vI x4), (5, vI x5), (6, vI x6), (7, vI x7), (9, vI x9), (10, vI x10), (11, vI x11), (12, vI x12), (13, vI x13), (14, vI x14), (15, vI x15), (16, vI x16), (17, vI x17)]) hx hb dL_areFound_234 hl (by decide) rfl (fun ls hl => ?_)
            exact hk ((iOr x8 0)) H locs ls h hP hD hS (lv_sub hl [1, 2, 3, 4, 5, 6, 7, 0, 8, 9, 10, 15, 16] rfl)
          · have h := it_n b_68 h
            refine lv_iconst (v := Int32.ofInt 1) hx hb dL_areFound_225 rfl ?_
            refine lv_iload hx hb dL_areFound_226 (lv_at hl 10 rfl) ?_
            refine z_ishl hx hb dL_areFound_228 ?_
            refine lv_goto (tgt := 233) hx hb dL_areFound_229 (by decide) ?_
            refine z_ior hx hb dL_areFound_233 ?_
            refine lv_istore (lv' := [(8, vI (iOr x8 (iShl 1 x11))), (0, .ref h_R), (1, .ref h_A1), (3, vI x3), (4, vI x4), (5, vI x5), (6, vI x6), (7, vI x7), (9, vI x9), (10, vI x10), (11, vI x11), (12, vI x12), (13, vI x13), (14, vI x14), (15, vI x15), (16, vI x16), (17, vI x17)]) hx hb dL_areFound_234 hl (by decide) rfl (fun ls hl => ?_)
            exact hk ((iOr x8 (iShl 1 x11))) H locs ls h hP hD hS (lv_sub hl [1, 2, 3, 4, 5, 6, 7, 0, 8, 9, 10, 15, 16] rfl)

set_option maxHeartbeats 4000000 in
set_option maxRecDepth 100000 in
theorem w_Lw_areFound_L236 {p : Program} {l : Launch} {e : Env} {s : State} {m : MethodId} {args : Array Value} {below : List Frame} {meth : Method} {c : Code} {A : Nat → Prop} (D : va_G) (cI cZ cT : ClassId) (h_R : Nat) (h_T : Nat) (hc_R : Nat) (hp_R : Nat) (h_K : Nat) (hx_R : Nat) (hh_R : Nat) (hs_R : Nat) (q_T : Nat → Nat) (q_K : Nat → Nat) (h_A1 : Nat) (n_A1 : Nat) (c_hasSnapshot : Int) (T : TV) (K : KV) (fA1 : Nat → Int) (x3 : Int) (x4 : Int) (x5 : Int) (x6 : Int) (x7 : Int) (x8 : Int) (x10 : Int) (x11 : Int) (x16 : Int) (x17 : Int) (res : Int) (k : Int → Option (Int)) (hF : zF p m c cL_areFound 18 s args yL_areFound.cls meth (some .boolean) yL_areFound.name A D (zt cI cZ cT))
    (hk : ∀ (x9 : Int) (H : Heap) (locs : List Loc) (ls : Array Slot), k x9 = some res → va_P D vwCl ((zRt h_R h_T hc_R hp_R h_K hx_R hh_R hs_R c_hasSnapshot) ++ (zTr cI h_T q_T T) ++ (zWk cI h_K q_K K) ++ (zAr cI h_A1 n_A1 fA1)) H → va_D A ((zRt h_R h_T hc_R hp_R h_K hx_R hh_R hs_R c_hasSnapshot) ++ (zTr cI h_T q_T T) ++ (zWk cI h_K q_K K) ++ (zAr cI h_A1 n_A1 fA1)) → va_S A s.heap H locs → lv_has ls 18 [(0, .ref h_R), (1, .ref h_A1), (3, vI x3), (4, vI x4), (5, vI x5), (6, vI x6), (7, vI x7), (8, vI x8), (9, vI x9), (10, vI x10), (11, vI x11), (16, vI x16), (17, vI x17)] → W p l e rm_Lw_areFound s m args below meth c H locs 0 0 (MQ below (zQi D (res) (fun u => (zRt h_R h_T hc_R hp_R h_K hx_R hh_R hs_R c_hasSnapshot) ++ (zTr cI h_T q_T T) ++ (zWk cI h_K q_K K) ++ (zAr cI h_A1 n_A1 fA1)) A) args s 0 0 A) (F0 m 266 ls [])) :
    ∀ (n : Nat) (x9 : Int) (H : Heap) (locs : List Loc) (ls : Array Slot), f_Lw_areFound_L236 x10 x11 x16 x17 k n x9 = some res → va_P D vwCl ((zRt h_R h_T hc_R hp_R h_K hx_R hh_R hs_R c_hasSnapshot) ++ (zTr cI h_T q_T T) ++ (zWk cI h_K q_K K) ++ (zAr cI h_A1 n_A1 fA1)) H → va_D A ((zRt h_R h_T hc_R hp_R h_K hx_R hh_R hs_R c_hasSnapshot) ++ (zTr cI h_T q_T T) ++ (zWk cI h_K q_K K) ++ (zAr cI h_A1 n_A1 fA1)) → va_S A s.heap H locs → lv_has ls 18 [(0, .ref h_R), (1, .ref h_A1), (3, vI x3), (4, vI x4), (5, vI x5), (6, vI x6), (7, vI x7), (8, vI x8), (9, vI x9), (10, vI x10), (11, vI x11), (16, vI x16), (17, vI x17)] → W p l e rm_Lw_areFound s m args below meth c H locs 0 0 (MQ below (zQi D (res) (fun u => (zRt h_R h_T hc_R hp_R h_K hx_R hh_R hs_R c_hasSnapshot) ++ (zTr cI h_T q_T T) ++ (zWk cI h_K q_K K) ++ (zAr cI h_A1 n_A1 fA1)) A) args s 0 0 A) (F0 m 236 ls []) := by
  have hx := hF.1.1
  have hb := hF.1.2.1
  have hml := hF.1.2.2.1
  have hown : s.vm.findClass "RectangleTreeLaw" = some m.cls := hF.1.2.2.2.1
  have hts := hF.1.2.2.2.2
  have hr := hF.2.1
  have hlk := hF.2.2.1
  have hK := hF.2.2.2.2.1
  have hN := hF.2.2.2.2.2.1
  have hA := hF.2.2.2.2.2.2
  intro n
  induction n with
  | zero => intro x9  H locs ls h; cases h
  | succ n ih =>
    intro x9  H locs ls h  hP hD hS hl
    rw [f_Lw_areFound_L236] at h
    refine lv_iload hx hb dL_areFound_236 (lv_at hl 8 rfl) ?_
    obtain ⟨g_70, h⟩ := gd_e h
    refine z_if_lt (tgt := 257) hx hb g_70 dL_areFound_238 (by decide) (fun b_71 => ?_) (fun b_71 => ?_)
    · have h := it_p b_71 h
      refine lv_iload hx hb dL_areFound_257 (lv_at hl 10 rfl) ?_
      refine lv_goto (tgt := 264) hx hb dL_areFound_259 (by decide) ?_
      refine lv_istore (lv' := [(9, vI x11), (0, .ref h_R), (1, .ref h_A1), (3, vI x3), (4, vI x4), (5, vI x5), (6, vI x6), (7, vI x7), (8, vI x8), (10, vI x10), (11, vI x11), (16, vI x16), (17, vI x17)]) hx hb dL_areFound_264 hl (by decide) rfl (fun ls hl => ?_)
      exact hk (x11) H locs ls h hP hD hS (lv_sub hl [1, 2, 3, 4, 5, 6, 7, 8, 0, 9, 10, 11, 12] rfl)
    · have h := it_n b_71 h
      refine lv_iload hx hb dL_areFound_241 (lv_at hl 11 rfl) ?_
      refine lv_iload hx hb dL_areFound_243 (lv_at hl 11 rfl) ?_
      refine z_imul hx hb dL_areFound_245 ?_
      refine lv_iload hx hb dL_areFound_246 (lv_at hl 12 rfl) ?_
      refine lv_iload hx hb dL_areFound_248 (lv_at hl 12 rfl) ?_
      refine z_imul hx hb dL_areFound_250 ?_
      refine z_iadd hx hb dL_areFound_251 ?_
      refine lv_iload hx hb dL_areFound_252 (lv_at hl 9 rfl) ?_
      obtain ⟨g_72, h⟩ := gd_e h
      obtain ⟨g_73, h⟩ := gd_e h
      refine z_icmp_ge (tgt := 262) hx hb g_72 g_73 dL_areFound_254 (by decide) (fun b_74 => ?_) (fun b_74 => ?_)
      · have h := it_n b_74 h
        refine lv_iload hx hb dL_areFound_262 (lv_at hl 8 rfl) ?_
        refine lv_istore (lv' := [(9, vI x9), (0, .ref h_R), (1, .ref h_A1), (3, vI x3), (4, vI x4), (5, vI x5), (6, vI x6), (7, vI x7), (8, vI x8), (10, vI x10), (11, vI x11), (16, vI x16), (17, vI x17)]) hx hb dL_areFound_264 hl (by decide) rfl (fun ls hl => ?_)
        exact hk (x9) H locs ls h hP hD hS (lv_sub hl [1, 2, 3, 4, 5, 6, 7, 8, 0, 9, 10, 11, 12] rfl)
      · have h := it_p b_74 h
        refine lv_iload hx hb dL_areFound_257 (lv_at hl 10 rfl) ?_
        refine lv_goto (tgt := 264) hx hb dL_areFound_259 (by decide) ?_
        refine lv_istore (lv' := [(9, vI x11), (0, .ref h_R), (1, .ref h_A1), (3, vI x3), (4, vI x4), (5, vI x5), (6, vI x6), (7, vI x7), (8, vI x8), (10, vI x10), (11, vI x11), (16, vI x16), (17, vI x17)]) hx hb dL_areFound_264 hl (by decide) rfl (fun ls hl => ?_)
        exact hk (x11) H locs ls h hP hD hS (lv_sub hl [1, 2, 3, 4, 5, 6, 7, 8, 0, 9, 10, 11, 12] rfl)

set_option maxHeartbeats 4000000 in
set_option maxRecDepth 100000 in
theorem w_Lw_areFound_L266 {p : Program} {l : Launch} {e : Env} {s : State} {m : MethodId} {args : Array Value} {below : List Frame} {meth : Method} {c : Code} {A : Nat → Prop} (D : va_G) (cI cZ cT : ClassId) (h_R : Nat) (h_T : Nat) (hc_R : Nat) (hp_R : Nat) (h_K : Nat) (hx_R : Nat) (hh_R : Nat) (hs_R : Nat) (q_T : Nat → Nat) (q_K : Nat → Nat) (h_A1 : Nat) (n_A1 : Nat) (c_hasSnapshot : Int) (T : TV) (K : KV) (fA1 : Nat → Int) (x3 : Int) (x4 : Int) (x5 : Int) (x6 : Int) (x7 : Int) (x8 : Int) (x9 : Int) (x11 : Int) (x16 : Int) (x17 : Int) (res : Int) (k : Int → Option (Int)) (hF : zF p m c cL_areFound 18 s args yL_areFound.cls meth (some .boolean) yL_areFound.name A D (zt cI cZ cT))
    (hk : ∀ (x10 : Int) (H : Heap) (locs : List Loc) (ls : Array Slot), k x10 = some res → va_P D vwCl ((zRt h_R h_T hc_R hp_R h_K hx_R hh_R hs_R c_hasSnapshot) ++ (zTr cI h_T q_T T) ++ (zWk cI h_K q_K K) ++ (zAr cI h_A1 n_A1 fA1)) H → va_D A ((zRt h_R h_T hc_R hp_R h_K hx_R hh_R hs_R c_hasSnapshot) ++ (zTr cI h_T q_T T) ++ (zWk cI h_K q_K K) ++ (zAr cI h_A1 n_A1 fA1)) → va_S A s.heap H locs → lv_has ls 18 [(0, .ref h_R), (1, .ref h_A1), (3, vI x3), (4, vI x4), (5, vI x5), (6, vI x6), (7, vI x7), (8, vI x8), (9, vI x9), (10, vI x10), (11, vI x11)] → W p l e rm_Lw_areFound s m args below meth c H locs 0 0 (MQ below (zQi D (res) (fun u => (zRt h_R h_T hc_R hp_R h_K hx_R hh_R hs_R c_hasSnapshot) ++ (zTr cI h_T q_T T) ++ (zWk cI h_K q_K K) ++ (zAr cI h_A1 n_A1 fA1)) A) args s 0 0 A) (F0 m 291 ls [])) :
    ∀ (n : Nat) (x10 : Int) (H : Heap) (locs : List Loc) (ls : Array Slot), f_Lw_areFound_L266 x9 x11 x16 x17 k n x10 = some res → va_P D vwCl ((zRt h_R h_T hc_R hp_R h_K hx_R hh_R hs_R c_hasSnapshot) ++ (zTr cI h_T q_T T) ++ (zWk cI h_K q_K K) ++ (zAr cI h_A1 n_A1 fA1)) H → va_D A ((zRt h_R h_T hc_R hp_R h_K hx_R hh_R hs_R c_hasSnapshot) ++ (zTr cI h_T q_T T) ++ (zWk cI h_K q_K K) ++ (zAr cI h_A1 n_A1 fA1)) → va_S A s.heap H locs → lv_has ls 18 [(0, .ref h_R), (1, .ref h_A1), (3, vI x3), (4, vI x4), (5, vI x5), (6, vI x6), (7, vI x7), (8, vI x8), (9, vI x9), (10, vI x10), (11, vI x11), (16, vI x16), (17, vI x17)] → W p l e rm_Lw_areFound s m args below meth c H locs 0 0 (MQ below (zQi D (res) (fun u => (zRt h_R h_T hc_R hp_R h_K hx_R hh_R hs_R c_hasSnapshot) ++ (zTr cI h_T q_T T) ++ (zWk cI h_K q_K K) ++ (zAr cI h_A1 n_A1 fA1)) A) args s 0 0 A) (F0 m 266 ls []) := by
  have hx := hF.1.1
  have hb := hF.1.2.1
  have hml := hF.1.2.2.1
  have hown : s.vm.findClass "RectangleTreeLaw" = some m.cls := hF.1.2.2.2.1
  have hts := hF.1.2.2.2.2
  have hr := hF.2.1
  have hlk := hF.2.2.1
  have hK := hF.2.2.2.2.1
  have hN := hF.2.2.2.2.2.1
  have hA := hF.2.2.2.2.2.2
  intro n
  induction n with
  | zero => intro x10  H locs ls h; cases h
  | succ n ih =>
    intro x10  H locs ls h  hP hD hS hl
    rw [f_Lw_areFound_L266] at h
    refine lv_iload hx hb dL_areFound_266 (lv_at hl 8 rfl) ?_
    refine lv_iload hx hb dL_areFound_268 (lv_at hl 10 rfl) ?_
    obtain ⟨g_76, h⟩ := gd_e h
    obtain ⟨g_77, h⟩ := gd_e h
    refine z_icmp_ne (tgt := 287) hx hb g_76 g_77 dL_areFound_270 (by decide) (fun b_78 => ?_) (fun b_78 => ?_)
    · have h := it_n b_78 h
      refine lv_iload hx hb dL_areFound_287 (lv_at hl 9 rfl) ?_
      refine lv_istore (lv' := [(10, vI x10), (0, .ref h_R), (1, .ref h_A1), (3, vI x3), (4, vI x4), (5, vI x5), (6, vI x6), (7, vI x7), (8, vI x8), (9, vI x9), (11, vI x11), (16, vI x16), (17, vI x17)]) hx hb dL_areFound_289 hl (by decide) rfl (fun ls hl => ?_)
      exact hk (x10) H locs ls h hP hD hS (lv_sub hl [1, 2, 3, 4, 5, 6, 7, 8, 9, 0, 10] rfl)
    · have h := it_p b_78 h
      refine lv_iload hx hb dL_areFound_273 (lv_at hl 11 rfl) ?_
      refine lv_iload hx hb dL_areFound_275 (lv_at hl 11 rfl) ?_
      refine z_imul hx hb dL_areFound_277 ?_
      refine lv_iload hx hb dL_areFound_278 (lv_at hl 12 rfl) ?_
      refine lv_iload hx hb dL_areFound_280 (lv_at hl 12 rfl) ?_
      refine z_imul hx hb dL_areFound_282 ?_
      refine z_iadd hx hb dL_areFound_283 ?_
      refine lv_goto (tgt := 289) hx hb dL_areFound_284 (by decide) ?_
      refine lv_istore (lv' := [(10, vI ((x16 * x16) + (x17 * x17))), (0, .ref h_R), (1, .ref h_A1), (3, vI x3), (4, vI x4), (5, vI x5), (6, vI x6), (7, vI x7), (8, vI x8), (9, vI x9), (11, vI x11), (16, vI x16), (17, vI x17)]) hx hb dL_areFound_289 hl (by decide) rfl (fun ls hl => ?_)
      exact hk (((x16 * x16) + (x17 * x17))) H locs ls h hP hD hS (lv_sub hl [1, 2, 3, 4, 5, 6, 7, 8, 9, 0, 10] rfl)

set_option maxHeartbeats 4000000 in
set_option maxRecDepth 100000 in
theorem w_Lw_areFound_L152 {p : Program} {l : Launch} {e : Env} {s : State} {m : MethodId} {args : Array Value} {below : List Frame} {meth : Method} {c : Code} {A : Nat → Prop} (D : va_G) (cI cZ cT : ClassId) (h_R : Nat) (h_T : Nat) (hc_R : Nat) (hp_R : Nat) (h_K : Nat) (hx_R : Nat) (hh_R : Nat) (hs_R : Nat) (q_T : Nat → Nat) (q_K : Nat → Nat) (h_A1 : Nat) (n_A1 : Nat) (c_hasSnapshot : Int) (T : TV) (K : KV) (fA1 : Nat → Int) (x3 : Int) (x4 : Int) (x5 : Int) (x6 : Int) (x11 : Int) (x12 : Int) (x13 : Int) (x14 : Int) (x15 : Int) (x16 : Int) (x17 : Int) (res : Int) (k : Int → Int → Int → Int → Option (Int)) (hF : zF p m c cL_areFound 18 s args yL_areFound.cls meth (some .boolean) yL_areFound.name A D (zt cI cZ cT))
    (hk : ∀ (x7 : Int) (x8 : Int) (x9 : Int) (x10 : Int) (H : Heap) (locs : List Loc) (ls : Array Slot), k x7 x8 x9 x10 = some res → va_P D vwCl ((zRt h_R h_T hc_R hp_R h_K hx_R hh_R hs_R c_hasSnapshot) ++ (zTr cI h_T q_T T) ++ (zWk cI h_K q_K K) ++ (zAr cI h_A1 n_A1 fA1)) H → va_D A ((zRt h_R h_T hc_R hp_R h_K hx_R hh_R hs_R c_hasSnapshot) ++ (zTr cI h_T q_T T) ++ (zWk cI h_K q_K K) ++ (zAr cI h_A1 n_A1 fA1)) → va_S A s.heap H locs → lv_has ls 18 [(0, .ref h_R), (1, .ref h_A1), (3, vI x3), (4, vI x4), (5, vI x5), (6, vI x6), (7, vI x7), (8, vI x8), (9, vI x9), (10, vI x10), (11, vI x11)] → W p l e rm_Lw_areFound s m args below meth c H locs 0 0 (MQ below (zQi D (res) (fun u => (zRt h_R h_T hc_R hp_R h_K hx_R hh_R hs_R c_hasSnapshot) ++ (zTr cI h_T q_T T) ++ (zWk cI h_K q_K K) ++ (zAr cI h_A1 n_A1 fA1)) A) args s 0 0 A) (F0 m 291 ls [])) :
    ∀ (n : Nat) (x7 : Int) (x8 : Int) (x9 : Int) (x10 : Int) (H : Heap) (locs : List Loc) (ls : Array Slot), f_Lw_areFound_L152 n_A1 fA1 x3 x4 x5 x6 x11 x12 x13 x14 x15 x16 x17 k n x7 x8 x9 x10 = some res → va_P D vwCl ((zRt h_R h_T hc_R hp_R h_K hx_R hh_R hs_R c_hasSnapshot) ++ (zTr cI h_T q_T T) ++ (zWk cI h_K q_K K) ++ (zAr cI h_A1 n_A1 fA1)) H → va_D A ((zRt h_R h_T hc_R hp_R h_K hx_R hh_R hs_R c_hasSnapshot) ++ (zTr cI h_T q_T T) ++ (zWk cI h_K q_K K) ++ (zAr cI h_A1 n_A1 fA1)) → va_S A s.heap H locs → lv_has ls 18 [(0, .ref h_R), (1, .ref h_A1), (3, vI x3), (4, vI x4), (5, vI x5), (6, vI x6), (7, vI x7), (8, vI x8), (9, vI x9), (10, vI x10), (11, vI x11), (12, vI x12), (13, vI x13), (14, vI x14), (15, vI x15), (16, vI x16), (17, vI x17)] → W p l e rm_Lw_areFound s m args below meth c H locs 0 0 (MQ below (zQi D (res) (fun u => (zRt h_R h_T hc_R hp_R h_K hx_R hh_R hs_R c_hasSnapshot) ++ (zTr cI h_T q_T T) ++ (zWk cI h_K q_K K) ++ (zAr cI h_A1 n_A1 fA1)) A) args s 0 0 A) (F0 m 152 ls []) := by
  have hx := hF.1.1
  have hb := hF.1.2.1
  have hml := hF.1.2.2.1
  have hown : s.vm.findClass "RectangleTreeLaw" = some m.cls := hF.1.2.2.2.1
  have hts := hF.1.2.2.2.2
  have hr := hF.2.1
  have hlk := hF.2.2.1
  have hK := hF.2.2.2.2.1
  have hN := hF.2.2.2.2.2.1
  have hA := hF.2.2.2.2.2.2
  intro n
  induction n with
  | zero => intro x7 x8 x9 x10  H locs ls h; cases h
  | succ n ih =>
    intro x7 x8 x9 x10  H locs ls h  hP hD hS hl
    rw [f_Lw_areFound_L152] at h
    refine lv_aload_n hx hb dL_areFound_152 rfl (lv_at hl 1 rfl) ?_
    refine lv_iload hx hb dL_areFound_153 (lv_at hl 10 rfl) ?_
    obtain ⟨g_40, h⟩ := gd_e h
    obtain ⟨g_41, h⟩ := gd_e h
    refine z_iald (n := n_A1) (f := fA1) (i := x11) hx hb hK hP 10 rfl rfl g_40 g_41.2 dL_areFound_155 ?_
    obtain ⟨g_42, h⟩ := gd_e h
    refine z_if_lt (tgt := 291) hx hb g_42 dL_areFound_156 (by decide) (fun b_43 => ?_) (fun b_43 => ?_)
    · have h := it_p b_43 h
      exact hk (x7) (x8) (x9) (x10) H locs ls h hP hD hS (lv_sub hl [0, 1, 2, 3, 4, 5, 6, 7, 8, 9, 10] rfl)
    · have h := it_n b_43 h
      refine w_Lw_areFound_L159 D cI cZ cT (h_R) (h_T) (hc_R) (hp_R) (h_K) (hx_R) (hh_R) (hs_R) (q_T) (q_K) (h_A1) (n_A1) (c_hasSnapshot) (T) (K) (fA1) (x3) (x4) (x5) (x6) (x8) (x9) (x10) (x11) (x12) (x13) (x14) (x15) (x16) (x17) _ _ hF (fun x7_56 H locs ls h hP hD hS hl => ?_) _ (x7) _ _ _ h hP hD hS (lv_sub hl [0, 1, 2, 3, 4, 5, 6, 7, 8, 9, 10, 11, 12, 13, 14, 15, 16] rfl)
      refine w_Lw_areFound_L196 D cI cZ cT (h_R) (h_T) (hc_R) (hp_R) (h_K) (hx_R) (hh_R) (hs_R) (q_T) (q_K) (h_A1) (n_A1) (c_hasSnapshot) (T) (K) (fA1) (x3) (x4) (x5) (x6) (x7_56) (x9) (x10) (x11) (x12) (x13) (x14) (x15) (x16) (x17) _ _ hF (fun x8_69 H locs ls h hP hD hS hl => ?_) _ (x8) _ _ _ h hP hD hS (lv_sub hl [0, 1, 2, 3, 4, 5, 6, 7, 8, 9, 10, 11, 12, 13, 14, 15, 16] rfl)
      refine w_Lw_areFound_L236 D cI cZ cT (h_R) (h_T) (hc_R) (hp_R) (h_K) (hx_R) (hh_R) (hs_R) (q_T) (q_K) (h_A1) (n_A1) (c_hasSnapshot) (T) (K) (fA1) (x3) (x4) (x5) (x6) (x7_56) (x8_69) (x10) (x11) (x16) (x17) _ _ hF (fun x9_75 H locs ls h hP hD hS hl => ?_) _ (x9) _ _ _ h hP hD hS (lv_sub hl [0, 1, 2, 3, 4, 5, 6, 7, 8, 9, 10, 11, 12] rfl)
      refine w_Lw_areFound_L266 D cI cZ cT (h_R) (h_T) (hc_R) (hp_R) (h_K) (hx_R) (hh_R) (hs_R) (q_T) (q_K) (h_A1) (n_A1) (c_hasSnapshot) (T) (K) (fA1) (x3) (x4) (x5) (x6) (x7_56) (x8_69) (x9_75) (x11) (x16) (x17) _ _ hF (fun x10_79 H locs ls h hP hD hS hl => ?_) _ (x10) _ _ _ h hP hD hS (lv_sub hl [0, 1, 2, 3, 4, 5, 6, 7, 8, 9, 10, 11, 12] rfl)
      exact hk (x7_56) (x8_69) (x9_75) (x10_79) H locs ls h hP hD hS (lv_sub hl [0, 1, 2, 3, 4, 5, 6, 7, 8, 9, 10] rfl)

set_option maxHeartbeats 4000000 in
set_option maxRecDepth 100000 in
theorem w_Lw_areFound_L43 {p : Program} {l : Launch} {e : Env} {s : State} {m : MethodId} {args : Array Value} {below : List Frame} {meth : Method} {c : Code} {A : Nat → Prop} (D : va_G) (cI cZ cT : ClassId) (h_R : Nat) (h_T : Nat) (hc_R : Nat) (hp_R : Nat) (h_K : Nat) (hx_R : Nat) (hh_R : Nat) (hs_R : Nat) (q_T : Nat → Nat) (q_K : Nat → Nat) (h_A1 : Nat) (n_A1 : Nat) (c_hasSnapshot : Int) (T : TV) (K : KV) (fA1 : Nat → Int) (x3 : Int) (x4 : Int) (x5 : Int) (x6 : Int) (res : Int) (k : Int → Int → Int → Int → Int → Option (Int)) (hF : zF p m c cL_areFound 18 s args yL_areFound.cls meth (some .boolean) yL_areFound.name A D (zt cI cZ cT))
    (hk : ∀ (x7 : Int) (x8 : Int) (x9 : Int) (x10 : Int) (x11 : Int) (H : Heap) (locs : List Loc) (ls : Array Slot), k x7 x8 x9 x10 x11 = some res → va_P D vwCl ((zRt h_R h_T hc_R hp_R h_K hx_R hh_R hs_R c_hasSnapshot) ++ (zTr cI h_T q_T T) ++ (zWk cI h_K q_K K) ++ (zAr cI h_A1 n_A1 fA1)) H → va_D A ((zRt h_R h_T hc_R hp_R h_K hx_R hh_R hs_R c_hasSnapshot) ++ (zTr cI h_T q_T T) ++ (zWk cI h_K q_K K) ++ (zAr cI h_A1 n_A1 fA1)) → va_S A s.heap H locs → lv_has ls 18 [(0, .ref h_R), (3, vI x3), (4, vI x4), (5, vI x5), (6, vI x6), (7, vI x7), (8, vI x8), (9, vI x9)] → W p l e rm_Lw_areFound s m args below meth c H locs 0 0 (MQ below (zQi D (res) (fun u => (zRt h_R h_T hc_R hp_R h_K hx_R hh_R hs_R c_hasSnapshot) ++ (zTr cI h_T q_T T) ++ (zWk cI h_K q_K K) ++ (zAr cI h_A1 n_A1 fA1)) A) args s 0 0 A) (F0 m 297 ls [])) :
    ∀ (n : Nat) (x7 : Int) (x8 : Int) (x9 : Int) (x10 : Int) (x11 : Int) (H : Heap) (locs : List Loc) (ls : Array Slot), f_Lw_areFound_L43 n_A1 fA1 x3 x4 x5 x6 k n x7 x8 x9 x10 x11 = some res → va_P D vwCl ((zRt h_R h_T hc_R hp_R h_K hx_R hh_R hs_R c_hasSnapshot) ++ (zTr cI h_T q_T T) ++ (zWk cI h_K q_K K) ++ (zAr cI h_A1 n_A1 fA1)) H → va_D A ((zRt h_R h_T hc_R hp_R h_K hx_R hh_R hs_R c_hasSnapshot) ++ (zTr cI h_T q_T T) ++ (zWk cI h_K q_K K) ++ (zAr cI h_A1 n_A1 fA1)) → va_S A s.heap H locs → lv_has ls 18 [(0, .ref h_R), (1, .ref h_A1), (3, vI x3), (4, vI x4), (5, vI x5), (6, vI x6), (7, vI x7), (8, vI x8), (9, vI x9), (10, vI x10), (11, vI x11)] → W p l e rm_Lw_areFound s m args below meth c H locs 0 0 (MQ below (zQi D (res) (fun u => (zRt h_R h_T hc_R hp_R h_K hx_R hh_R hs_R c_hasSnapshot) ++ (zTr cI h_T q_T T) ++ (zWk cI h_K q_K K) ++ (zAr cI h_A1 n_A1 fA1)) A) args s 0 0 A) (F0 m 43 ls []) := by
  have hx := hF.1.1
  have hb := hF.1.2.1
  have hml := hF.1.2.2.1
  have hown : s.vm.findClass "RectangleTreeLaw" = some m.cls := hF.1.2.2.2.1
  have hts := hF.1.2.2.2.2
  have hr := hF.2.1
  have hlk := hF.2.2.1
  have hK := hF.2.2.2.2.1
  have hN := hF.2.2.2.2.2.1
  have hA := hF.2.2.2.2.2.2
  intro n
  induction n with
  | zero => intro x7 x8 x9 x10 x11  H locs ls h; cases h
  | succ n ih =>
    intro x7 x8 x9 x10 x11  H locs ls h  hP hD hS hl
    rw [f_Lw_areFound_L43] at h
    refine lv_iload hx hb dL_areFound_43 (lv_at hl 10 rfl) ?_
    refine lv_bipush (v := Int32.ofInt 24) hx hb dL_areFound_45 (by decide +kernel) ?_
    obtain ⟨g_13, h⟩ := gd_e h
    refine z_icmp_ge (tgt := 297) hx hb g_13 (by decide) dL_areFound_47 (by decide) (fun b_14 => ?_) (fun b_14 => ?_)
    · have h := it_n b_14 h
      exact hk (x7) (x8) (x9) (x10) (x11) H locs ls h hP hD hS (lv_sub hl [0, 2, 3, 4, 5, 6, 7, 8] rfl)
    · have h := it_p b_14 h
      refine lv_aload_n hx hb dL_areFound_50 rfl (lv_at hl 1 rfl) ?_
      refine lv_iload hx hb dL_areFound_51 (lv_at hl 10 rfl) ?_
      obtain ⟨g_15, h⟩ := gd_e h
      refine z_iald (n := n_A1) (f := fA1) (i := x11) hx hb hK hP 10 rfl rfl g_15 g_13.2 dL_areFound_53 ?_
      refine lv_iconst (v := Int32.ofInt 0) hx hb dL_areFound_54 rfl ?_
      obtain ⟨r_16, e_17, h⟩ := bd1_e h
      refine z_goi (ws' := []) (ret := r_16) (wc := ([] : va_W)) (wn := fun u_18 => (zRt h_R h_T hc_R hp_R h_K hx_R hh_R hs_R c_hasSnapshot) ++ (zTr cI h_T q_T T) ++ (zWk cI h_K q_K K) ++ (zAr cI h_A1 n_A1 fA1)) (wr := ([0, 1, 2, 3, 4, 5, 6, 7, 8, 9, 10].filterMap (fun i => ((zRt h_R h_T hc_R hp_R h_K hx_R hh_R hs_R c_hasSnapshot) ++ (zTr cI h_T q_T T) ++ (zWk cI h_K q_K K) ++ (zAr cI h_A1 n_A1 fA1))[i]?))) (va_runS (As := [vI (fA1 (x11).toNat), vI 0]) (rest := []) hF.1 (c_Lw_corner l D cI cZ cT (fA1 (x11).toNat) 0 H.size (r_16) e_17) (va_cwS 2 hts (zgS wm352 wm353 wm31 wm354) rfl rfl rfl (by decide +kernel) ⟨Nat.le_of_ble_eq_true rfl, Nat.le_of_ble_eq_true rfl⟩) ⟨zP.blind, zP.enter (z_subP (ws' := ([] : va_W)) hP [] rfl) hK (hD.sub [] (by decide) rfl) hN⟩ rfl rfl hl.1 rfl (lv_room (Nat.le_of_ble_eq_true rfl)) dL_areFound_55 ⟨Nat.le_refl _, Nat.le_refl _⟩) hP hD hS hA [] [0, 1, 2, 3, 4, 5, 6, 7, 8, 9, 10] [0, 1, 2, 3, 4, 5, 6, 7, 8, 9, 10] rfl rfl (by decide) (fun _ => rfl) (fun u_18 H locs hP hD hS hz => ?_)
      refine lv_istore (lv' := [(12, vI r_16), (0, .ref h_R), (1, .ref h_A1), (3, vI x3), (4, vI x4), (5, vI x5), (6, vI x6), (7, vI x7), (8, vI x8), (9, vI x9), (10, vI x10), (11, vI x11)]) hx hb dL_areFound_58 hl (by decide) rfl (fun ls hl => ?_)
      refine lv_aload_n hx hb dL_areFound_60 rfl (lv_at hl 2 rfl) ?_
      refine lv_iload hx hb dL_areFound_61 (lv_at hl 11 rfl) ?_
      refine z_iald (n := n_A1) (f := fA1) (i := x11) hx hb hK hP 10 rfl rfl g_15 g_13.2 dL_areFound_63 ?_
      refine lv_iconst (v := Int32.ofInt 1) hx hb dL_areFound_64 rfl ?_
      obtain ⟨r_19, e_20, h⟩ := bd1_e h
      refine z_goi (ws' := []) (ret := r_19) (wc := ([] : va_W)) (wn := fun u_21 => (zRt h_R h_T hc_R hp_R h_K hx_R hh_R hs_R c_hasSnapshot) ++ (zTr cI h_T q_T T) ++ (zWk cI h_K q_K K) ++ (zAr cI h_A1 n_A1 fA1)) (wr := ([0, 1, 2, 3, 4, 5, 6, 7, 8, 9, 10].filterMap (fun i => ((zRt h_R h_T hc_R hp_R h_K hx_R hh_R hs_R c_hasSnapshot) ++ (zTr cI h_T q_T T) ++ (zWk cI h_K q_K K) ++ (zAr cI h_A1 n_A1 fA1))[i]?))) (va_runS (As := [vI (fA1 (x11).toNat), vI 1]) (rest := []) hF.1 (c_Lw_corner l D cI cZ cT (fA1 (x11).toNat) 1 H.size (r_19) e_20) (va_cwS 2 hts (zgS wm352 wm353 wm31 wm354) rfl rfl rfl (by decide +kernel) ⟨Nat.le_of_ble_eq_true rfl, Nat.le_of_ble_eq_true rfl⟩) ⟨zP.blind, zP.enter (z_subP (ws' := ([] : va_W)) hP [] rfl) hK (hD.sub [] (by decide) rfl) hN⟩ rfl rfl hl.1 rfl (lv_room (Nat.le_of_ble_eq_true rfl)) dL_areFound_65 ⟨Nat.le_refl _, Nat.le_refl _⟩) hP hD hS hA [] [0, 1, 2, 3, 4, 5, 6, 7, 8, 9, 10] [0, 1, 2, 3, 4, 5, 6, 7, 8, 9, 10] rfl rfl (by decide) (fun _ => rfl) (fun u_21 H locs hP hD hS hz => ?_)
      refine lv_istore (lv' := [(13, vI r_19), (12, vI r_16), (0, .ref h_R), (1, .ref h_A1), (3, vI x3), (4, vI x4), (5, vI x5), (6, vI x6), (7, vI x7), (8, vI x8), (9, vI x9), (10, vI x10), (11, vI x11)]) hx hb dL_areFound_68 hl (by decide) rfl (fun ls hl => ?_)
      refine lv_aload_n hx hb dL_areFound_70 rfl (lv_at hl 3 rfl) ?_
      refine lv_iload hx hb dL_areFound_71 (lv_at hl 12 rfl) ?_
      refine z_iald (n := n_A1) (f := fA1) (i := x11) hx hb hK hP 10 rfl rfl g_15 g_13.2 dL_areFound_73 ?_
      refine lv_iconst (v := Int32.ofInt 2) hx hb dL_areFound_74 rfl ?_
      obtain ⟨r_22, e_23, h⟩ := bd1_e h
      refine z_goi (ws' := []) (ret := r_22) (wc := ([] : va_W)) (wn := fun u_24 => (zRt h_R h_T hc_R hp_R h_K hx_R hh_R hs_R c_hasSnapshot) ++ (zTr cI h_T q_T T) ++ (zWk cI h_K q_K K) ++ (zAr cI h_A1 n_A1 fA1)) (wr := ([0, 1, 2, 3, 4, 5, 6, 7, 8, 9, 10].filterMap (fun i => ((zRt h_R h_T hc_R hp_R h_K hx_R hh_R hs_R c_hasSnapshot) ++ (zTr cI h_T q_T T) ++ (zWk cI h_K q_K K) ++ (zAr cI h_A1 n_A1 fA1))[i]?))) (va_runS (As := [vI (fA1 (x11).toNat), vI 2]) (rest := []) hF.1 (c_Lw_corner l D cI cZ cT (fA1 (x11).toNat) 2 H.size (r_22) e_23) (va_cwS 2 hts (zgS wm352 wm353 wm31 wm354) rfl rfl rfl (by decide +kernel) ⟨Nat.le_of_ble_eq_true rfl, Nat.le_of_ble_eq_true rfl⟩) ⟨zP.blind, zP.enter (z_subP (ws' := ([] : va_W)) hP [] rfl) hK (hD.sub [] (by decide) rfl) hN⟩ rfl rfl hl.1 rfl (lv_room (Nat.le_of_ble_eq_true rfl)) dL_areFound_75 ⟨Nat.le_refl _, Nat.le_refl _⟩) hP hD hS hA [] [0, 1, 2, 3, 4, 5, 6, 7, 8, 9, 10] [0, 1, 2, 3, 4, 5, 6, 7, 8, 9, 10] rfl rfl (by decide) (fun _ => rfl) (fun u_24 H locs hP hD hS hz => ?_)
      refine lv_istore (lv' := [(14, vI r_22), (13, vI r_19), (12, vI r_16), (0, .ref h_R), (1, .ref h_A1), (3, vI x3), (4, vI x4), (5, vI x5), (6, vI x6), (7, vI x7), (8, vI x8), (9, vI x9), (10, vI x10), (11, vI x11)]) hx hb dL_areFound_78 hl (by decide) rfl (fun ls hl => ?_)
      refine lv_aload_n hx hb dL_areFound_80 rfl (lv_at hl 4 rfl) ?_
      refine lv_iload hx hb dL_areFound_81 (lv_at hl 13 rfl) ?_
      refine z_iald (n := n_A1) (f := fA1) (i := x11) hx hb hK hP 10 rfl rfl g_15 g_13.2 dL_areFound_83 ?_
      refine lv_iconst (v := Int32.ofInt 3) hx hb dL_areFound_84 rfl ?_
      obtain ⟨r_25, e_26, h⟩ := bd1_e h
      refine z_goi (ws' := []) (ret := r_25) (wc := ([] : va_W)) (wn := fun u_27 => (zRt h_R h_T hc_R hp_R h_K hx_R hh_R hs_R c_hasSnapshot) ++ (zTr cI h_T q_T T) ++ (zWk cI h_K q_K K) ++ (zAr cI h_A1 n_A1 fA1)) (wr := ([0, 1, 2, 3, 4, 5, 6, 7, 8, 9, 10].filterMap (fun i => ((zRt h_R h_T hc_R hp_R h_K hx_R hh_R hs_R c_hasSnapshot) ++ (zTr cI h_T q_T T) ++ (zWk cI h_K q_K K) ++ (zAr cI h_A1 n_A1 fA1))[i]?))) (va_runS (As := [vI (fA1 (x11).toNat), vI 3]) (rest := []) hF.1 (c_Lw_corner l D cI cZ cT (fA1 (x11).toNat) 3 H.size (r_25) e_26) (va_cwS 2 hts (zgS wm352 wm353 wm31 wm354) rfl rfl rfl (by decide +kernel) ⟨Nat.le_of_ble_eq_true rfl, Nat.le_of_ble_eq_true rfl⟩) ⟨zP.blind, zP.enter (z_subP (ws' := ([] : va_W)) hP [] rfl) hK (hD.sub [] (by decide) rfl) hN⟩ rfl rfl hl.1 rfl (lv_room (Nat.le_of_ble_eq_true rfl)) dL_areFound_85 ⟨Nat.le_refl _, Nat.le_refl _⟩) hP hD hS hA [] [0, 1, 2, 3, 4, 5, 6, 7, 8, 9, 10] [0, 1, 2, 3, 4, 5, 6, 7, 8, 9, 10] rfl rfl (by decide) (fun _ => rfl) (fun u_27 H locs hP hD hS hz => ?_)
      refine lv_istore (lv' := [(15, vI r_25), (14, vI r_22), (13, vI r_19), (12, vI r_16), (0, .ref h_R), (1, .ref h_A1), (3, vI x3), (4, vI x4), (5, vI x5), (6, vI x6), (7, vI x7), (8, vI x8), (9, vI x9), (10, vI x10), (11, vI x11)]) hx hb dL_areFound_88 hl (by decide) rfl (fun ls hl => ?_)
      refine w_Lw_areFound_L90 D cI cZ cT (h_R) (h_T) (hc_R) (hp_R) (h_K) (hx_R) (hh_R) (hs_R) (q_T) (q_K) (h_A1) (n_A1) (c_hasSnapshot) (T) (K) (fA1) (x3) (x4) (x5) (x6) (x7) (x8) (x9) (x10) (x11) (r_16) (r_19) (r_22) (r_25) _ _ hF (fun x16_33 H locs ls h hP hD hS hl => ?_) _ (0) _ _ _ h hP hD hS (lv_sub hl [4, 5, 6, 7, 8, 9, 10, 11, 12, 13, 14, 3, 2, 1, 0] rfl)
      refine w_Lw_areFound_L119 D cI cZ cT (h_R) (h_T) (hc_R) (hp_R) (h_K) (hx_R) (hh_R) (hs_R) (q_T) (q_K) (h_A1) (n_A1) (c_hasSnapshot) (T) (K) (fA1) (x3) (x4) (x5) (x6) (x7) (x8) (x9) (x10) (x11) (r_16) (r_19) (r_22) (r_25) (x16_33) _ _ hF (fun x17_39 H locs ls h hP hD hS hl => ?_) _ (0) _ _ _ h hP hD hS (lv_sub hl [0, 1, 2, 3, 4, 5, 6, 7, 8, 9, 10, 11, 12, 13, 14, 15] rfl)
      refine w_Lw_areFound_L152 D cI cZ cT (h_R) (h_T) (hc_R) (hp_R) (h_K) (hx_R) (hh_R) (hs_R) (q_T) (q_K) (h_A1) (n_A1) (c_hasSnapshot) (T) (K) (fA1) (x3) (x4) (x5) (x6) (x11) (r_16) (r_19) (r_22) (r_25) (x16_33) (x17_39) _ _ hF (fun x7_80 x8_81 x9_82 x10_83 H locs ls h hP hD hS hl => ?_) _ (x7) (x8) (x9) (x10) _ _ _ h hP hD hS (lv_sub hl [0, 1, 2, 3, 4, 5, 6, 7, 8, 9, 10, 11, 12, 13, 14, 15, 16] rfl)
      refine lv_iinc (v := Int32.ofInt (x11 + 1)) (lv' := [(11, vI (x11 + 1)), (0, .ref h_R), (1, .ref h_A1), (3, vI x3), (4, vI x4), (5, vI x5), (6, vI x6), (7, vI x7_80), (8, vI x8_81), (9, vI x9_82), (10, vI x10_83)]) hx hb dL_areFound_291 hl (k := 10) rfl (z_inc _ _) (by decide) rfl (fun ls hl => ?_)
      refine lv_goto (tgt := 43) hx hb dL_areFound_294 (by decide) ?_
      exact ih (x7_80) (x8_81) (x9_82) (x10_83) ((x11 + 1)) H locs ls h hP hD hS (lv_sub hl [1, 2, 3, 4, 5, 6, 7, 8, 9, 10, 0] rfl)

set_option maxHeartbeats 4000000 in
set_option maxRecDepth 100000 in
theorem w_Lw_areFound_L312 {p : Program} {l : Launch} {e : Env} {s : State} {m : MethodId} {args : Array Value} {below : List Frame} {meth : Method} {c : Code} {A : Nat → Prop} (D : va_G) (cI cZ cT : ClassId) (h_R : Nat) (h_T : Nat) (hc_R : Nat) (hp_R : Nat) (h_K : Nat) (hx_R : Nat) (hh_R : Nat) (hs_R : Nat) (q_T : Nat → Nat) (q_K : Nat → Nat) (h_A1 : Nat) (n_A1 : Nat) (c_hasSnapshot : Int) (T : TV) (K : KV) (fA1 : Nat → Int) (x3 : Int) (x4 : Int) (x5 : Int) (x6 : Int) (x7 : Int) (x8 : Int) (x9 : Int) (x12 : Int) (res : Int) (k : Int → Option (Int)) (hF : zF p m c cL_areFound 18 s args yL_areFound.cls meth (some .boolean) yL_areFound.name A D (zt cI cZ cT))
    (hk : ∀ (x11 : Int) (H : Heap) (locs : List Loc) (ls : Array Slot), k x11 = some res → va_P D vwCl ((zRt h_R h_T hc_R hp_R h_K hx_R hh_R hs_R c_hasSnapshot) ++ (zTr cI h_T q_T T) ++ (zWk cI h_K q_K K) ++ (zAr cI h_A1 n_A1 fA1)) H → va_D A ((zRt h_R h_T hc_R hp_R h_K hx_R hh_R hs_R c_hasSnapshot) ++ (zTr cI h_T q_T T) ++ (zWk cI h_K q_K K) ++ (zAr cI h_A1 n_A1 fA1)) → va_S A s.heap H locs → lv_has ls 18 [(0, .ref h_R), (3, vI x3), (4, vI x4), (5, vI x5), (6, vI x6), (7, vI x7), (8, vI x8), (9, vI x9), (11, vI x11), (12, vI x12)] → W p l e rm_Lw_areFound s m args below meth c H locs 0 0 (MQ below (zQi D (res) (fun u => (zRt h_R h_T hc_R hp_R h_K hx_R hh_R hs_R c_hasSnapshot) ++ (zTr cI h_T q_T T) ++ (zWk cI h_K q_K K) ++ (zAr cI h_A1 n_A1 fA1)) A) args s 0 0 A) (F0 m 369 ls [])) :
    ∀ (n : Nat) (x11 : Int) (H : Heap) (locs : List Loc) (ls : Array Slot), f_Lw_areFound_L312 T K x3 x4 x5 x6 x12 k n x11 = some res → va_P D vwCl ((zRt h_R h_T hc_R hp_R h_K hx_R hh_R hs_R c_hasSnapshot) ++ (zTr cI h_T q_T T) ++ (zWk cI h_K q_K K) ++ (zAr cI h_A1 n_A1 fA1)) H → va_D A ((zRt h_R h_T hc_R hp_R h_K hx_R hh_R hs_R c_hasSnapshot) ++ (zTr cI h_T q_T T) ++ (zWk cI h_K q_K K) ++ (zAr cI h_A1 n_A1 fA1)) → va_S A s.heap H locs → lv_has ls 18 [(0, .ref h_R), (3, vI x3), (4, vI x4), (5, vI x5), (6, vI x6), (7, vI x7), (8, vI x8), (9, vI x9), (11, vI x11), (12, vI x12)] → W p l e rm_Lw_areFound s m args below meth c H locs 0 0 (MQ below (zQi D (res) (fun u => (zRt h_R h_T hc_R hp_R h_K hx_R hh_R hs_R c_hasSnapshot) ++ (zTr cI h_T q_T T) ++ (zWk cI h_K q_K K) ++ (zAr cI h_A1 n_A1 fA1)) A) args s 0 0 A) (F0 m 312 ls []) := by
  have hx := hF.1.1
  have hb := hF.1.2.1
  have hml := hF.1.2.2.1
  have hown : s.vm.findClass "RectangleTreeLaw" = some m.cls := hF.1.2.2.2.1
  have hts := hF.1.2.2.2.2
  have hr := hF.2.1
  have hlk := hF.2.2.1
  have hK := hF.2.2.2.2.1
  have hN := hF.2.2.2.2.2.1
  have hA := hF.2.2.2.2.2.2
  intro n
  induction n with
  | zero => intro x11  H locs ls h; cases h
  | succ n ih =>
    intro x11  H locs ls h  hP hD hS hl
    rw [f_Lw_areFound_L312] at h
    refine lv_iload hx hb dL_areFound_312 (lv_at hl 8 rfl) ?_
    refine lv_aload_n hx hb dL_areFound_314 rfl (lv_at hl 0 rfl) ?_
    refine lv_iload hx hb dL_areFound_315 (lv_at hl 9 rfl) ?_
    refine lv_iconst (v := Int32.ofInt 0) hx hb dL_areFound_317 rfl ?_
    obtain ⟨r_95, e_96, h⟩ := bd1_e h
    refine z_goi (ws' := []) (ret := r_95) (wc := (zRt (h_R) (h_T) (hc_R) (hp_R) (h_K) (hx_R) (hh_R) (hs_R) (c_hasSnapshot)) ++ (zTr cI (h_T) (q_T) (T)) ++ (zWk cI (h_K) (q_K) (K))) (wn := fun u_97 => (zRt h_R h_T hc_R hp_R h_K hx_R hh_R hs_R c_hasSnapshot) ++ (zTr cI h_T q_T T) ++ (zWk cI h_K q_K K) ++ (zAr cI h_A1 n_A1 fA1)) (wr := ([10].filterMap (fun i => ((zRt h_R h_T hc_R hp_R h_K hx_R hh_R hs_R c_hasSnapshot) ++ (zTr cI h_T q_T T) ++ (zWk cI h_K q_K K) ++ (zAr cI h_A1 n_A1 fA1))[i]?))) (va_runV (As := [vI x12, vI 0]) (rest := [vI x11]) hF.1 (c_Rt_bound l D cI cZ cT h_R h_T hc_R hp_R h_K hx_R hh_R hs_R q_T q_K c_hasSnapshot T K x12 0 H.size (r_95) e_96) (cwV 2 hts (zgV wm313 wm314 wm315 wm32 wm316) rfl rfl rfl (by decide +kernel) ⟨Nat.le_of_ble_eq_true rfl, Nat.le_of_ble_eq_true rfl⟩) ⟨zP.blind, va_recv hK (z_subP (ws' := (zRt (h_R) (h_T) (hc_R) (hp_R) (h_K) (hx_R) (hh_R) (hs_R) (c_hasSnapshot)) ++ (zTr cI (h_T) (q_T) (T)) ++ (zWk cI (h_K) (q_K) (K))) hP [0, 1, 2, 3, 4, 5, 6, 7, 8, 9] rfl) (ci := 6) (q0 := 0) rfl rfl, zP.enter (z_subP (ws' := (zRt (h_R) (h_T) (hc_R) (hp_R) (h_K) (hx_R) (hh_R) (hs_R) (c_hasSnapshot)) ++ (zTr cI (h_T) (q_T) (T)) ++ (zWk cI (h_K) (q_K) (K))) hP [0, 1, 2, 3, 4, 5, 6, 7, 8, 9] rfl) hK (hD.sub [0, 1, 2, 3, 4, 5, 6, 7, 8, 9] (by decide) rfl) hN⟩ rfl rfl hl.1 rfl (lv_room (Nat.le_of_ble_eq_true rfl)) dL_areFound_318 ⟨Nat.le_refl _, Nat.le_refl _⟩) hP hD hS hA [0, 1, 2, 3, 4, 5, 6, 7, 8, 9] [10] [1, 2, 3, 4, 5, 6, 7, 8, 9, 10, 0] rfl rfl (by decide) (fun _ => rfl) (fun u_97 H locs hP hD hS hz => ?_)
    refine lv_iload hx hb dL_areFound_321 (lv_at hl 3 rfl) ?_
    obtain ⟨g_98, h⟩ := gd_e h
    obtain ⟨g_99, h⟩ := gd_e h
    refine z_icmp_gt (tgt := 365) hx hb g_98 g_99 dL_areFound_323 (by decide) (fun b_100 => ?_) (fun b_100 => ?_)
    · have h := it_p b_100 h
      refine lv_iconst (v := Int32.ofInt 0) hx hb dL_areFound_365 rfl ?_
      refine z_iadd hx hb dL_areFound_366 ?_
      refine lv_istore (lv' := [(11, vI (x11 + 0)), (0, .ref h_R), (3, vI x3), (4, vI x4), (5, vI x5), (6, vI x6), (7, vI x7), (8, vI x8), (9, vI x9), (12, vI x12)]) hx hb dL_areFound_367 hl (by decide) rfl (fun ls hl => ?_)
      exact hk ((x11 + 0)) H locs ls h hP hD hS (lv_sub hl [1, 2, 3, 4, 5, 6, 7, 8, 0, 9] rfl)
    · have h := it_n b_100 h
      refine lv_aload_n hx hb dL_areFound_326 rfl (lv_at hl 0 rfl) ?_
      refine lv_iload hx hb dL_areFound_327 (lv_at hl 9 rfl) ?_
      refine lv_iconst (v := Int32.ofInt 2) hx hb dL_areFound_329 rfl ?_
      obtain ⟨r_101, e_102, h⟩ := bd1_e h
      refine z_goi (ws' := []) (ret := r_101) (wc := (zRt (h_R) (h_T) (hc_R) (hp_R) (h_K) (hx_R) (hh_R) (hs_R) (c_hasSnapshot)) ++ (zTr cI (h_T) (q_T) (T)) ++ (zWk cI (h_K) (q_K) (K))) (wn := fun u_103 => (zRt h_R h_T hc_R hp_R h_K hx_R hh_R hs_R c_hasSnapshot) ++ (zTr cI h_T q_T T) ++ (zWk cI h_K q_K K) ++ (zAr cI h_A1 n_A1 fA1)) (wr := ([10].filterMap (fun i => ((zRt h_R h_T hc_R hp_R h_K hx_R hh_R hs_R c_hasSnapshot) ++ (zTr cI h_T q_T T) ++ (zWk cI h_K q_K K) ++ (zAr cI h_A1 n_A1 fA1))[i]?))) (va_runV (As := [vI x12, vI 2]) (rest := [vI x11]) hF.1 (c_Rt_bound l D cI cZ cT h_R h_T hc_R hp_R h_K hx_R hh_R hs_R q_T q_K c_hasSnapshot T K x12 2 H.size (r_101) e_102) (cwV 2 hts (zgV wm313 wm314 wm315 wm32 wm316) rfl rfl rfl (by decide +kernel) ⟨Nat.le_of_ble_eq_true rfl, Nat.le_of_ble_eq_true rfl⟩) ⟨zP.blind, va_recv hK (z_subP (ws' := (zRt (h_R) (h_T) (hc_R) (hp_R) (h_K) (hx_R) (hh_R) (hs_R) (c_hasSnapshot)) ++ (zTr cI (h_T) (q_T) (T)) ++ (zWk cI (h_K) (q_K) (K))) hP [0, 1, 2, 3, 4, 5, 6, 7, 8, 9] rfl) (ci := 6) (q0 := 0) rfl rfl, zP.enter (z_subP (ws' := (zRt (h_R) (h_T) (hc_R) (hp_R) (h_K) (hx_R) (hh_R) (hs_R) (c_hasSnapshot)) ++ (zTr cI (h_T) (q_T) (T)) ++ (zWk cI (h_K) (q_K) (K))) hP [0, 1, 2, 3, 4, 5, 6, 7, 8, 9] rfl) hK (hD.sub [0, 1, 2, 3, 4, 5, 6, 7, 8, 9] (by decide) rfl) hN⟩ rfl rfl hl.1 rfl (lv_room (Nat.le_of_ble_eq_true rfl)) dL_areFound_330 ⟨Nat.le_refl _, Nat.le_refl _⟩) hP hD hS hA [0, 1, 2, 3, 4, 5, 6, 7, 8, 9] [10] [1, 2, 3, 4, 5, 6, 7, 8, 9, 10, 0] rfl rfl (by decide) (fun _ => rfl) (fun u_103 H locs hP hD hS hz => ?_)
      refine lv_iload_n hx hb dL_areFound_333 rfl (lv_at hl 1 rfl) ?_
      obtain ⟨g_104, h⟩ := gd_e h
      obtain ⟨g_105, h⟩ := gd_e h
      refine z_icmp_lt (tgt := 365) hx hb g_104 g_105 dL_areFound_334 (by decide) (fun b_106 => ?_) (fun b_106 => ?_)
      · have h := it_p b_106 h
        refine lv_iconst (v := Int32.ofInt 0) hx hb dL_areFound_365 rfl ?_
        refine z_iadd hx hb dL_areFound_366 ?_
        refine lv_istore (lv' := [(11, vI (x11 + 0)), (0, .ref h_R), (3, vI x3), (4, vI x4), (5, vI x5), (6, vI x6), (7, vI x7), (8, vI x8), (9, vI x9), (12, vI x12)]) hx hb dL_areFound_367 hl (by decide) rfl (fun ls hl => ?_)
        exact hk ((x11 + 0)) H locs ls h hP hD hS (lv_sub hl [1, 2, 3, 4, 5, 6, 7, 8, 0, 9] rfl)
      · have h := it_n b_106 h
        refine lv_aload_n hx hb dL_areFound_337 rfl (lv_at hl 0 rfl) ?_
        refine lv_iload hx hb dL_areFound_338 (lv_at hl 9 rfl) ?_
        refine lv_iconst (v := Int32.ofInt 1) hx hb dL_areFound_340 rfl ?_
        obtain ⟨r_107, e_108, h⟩ := bd1_e h
        refine z_goi (ws' := []) (ret := r_107) (wc := (zRt (h_R) (h_T) (hc_R) (hp_R) (h_K) (hx_R) (hh_R) (hs_R) (c_hasSnapshot)) ++ (zTr cI (h_T) (q_T) (T)) ++ (zWk cI (h_K) (q_K) (K))) (wn := fun u_109 => (zRt h_R h_T hc_R hp_R h_K hx_R hh_R hs_R c_hasSnapshot) ++ (zTr cI h_T q_T T) ++ (zWk cI h_K q_K K) ++ (zAr cI h_A1 n_A1 fA1)) (wr := ([10].filterMap (fun i => ((zRt h_R h_T hc_R hp_R h_K hx_R hh_R hs_R c_hasSnapshot) ++ (zTr cI h_T q_T T) ++ (zWk cI h_K q_K K) ++ (zAr cI h_A1 n_A1 fA1))[i]?))) (va_runV (As := [vI x12, vI 1]) (rest := [vI x11]) hF.1 (c_Rt_bound l D cI cZ cT h_R h_T hc_R hp_R h_K hx_R hh_R hs_R q_T q_K c_hasSnapshot T K x12 1 H.size (r_107) e_108) (cwV 2 hts (zgV wm313 wm314 wm315 wm32 wm316) rfl rfl rfl (by decide +kernel) ⟨Nat.le_of_ble_eq_true rfl, Nat.le_of_ble_eq_true rfl⟩) ⟨zP.blind, va_recv hK (z_subP (ws' := (zRt (h_R) (h_T) (hc_R) (hp_R) (h_K) (hx_R) (hh_R) (hs_R) (c_hasSnapshot)) ++ (zTr cI (h_T) (q_T) (T)) ++ (zWk cI (h_K) (q_K) (K))) hP [0, 1, 2, 3, 4, 5, 6, 7, 8, 9] rfl) (ci := 6) (q0 := 0) rfl rfl, zP.enter (z_subP (ws' := (zRt (h_R) (h_T) (hc_R) (hp_R) (h_K) (hx_R) (hh_R) (hs_R) (c_hasSnapshot)) ++ (zTr cI (h_T) (q_T) (T)) ++ (zWk cI (h_K) (q_K) (K))) hP [0, 1, 2, 3, 4, 5, 6, 7, 8, 9] rfl) hK (hD.sub [0, 1, 2, 3, 4, 5, 6, 7, 8, 9] (by decide) rfl) hN⟩ rfl rfl hl.1 rfl (lv_room (Nat.le_of_ble_eq_true rfl)) dL_areFound_341 ⟨Nat.le_refl _, Nat.le_refl _⟩) hP hD hS hA [0, 1, 2, 3, 4, 5, 6, 7, 8, 9] [10] [1, 2, 3, 4, 5, 6, 7, 8, 9, 10, 0] rfl rfl (by decide) (fun _ => rfl) (fun u_109 H locs hP hD hS hz => ?_)
        refine lv_iload hx hb dL_areFound_344 (lv_at hl 4 rfl) ?_
        obtain ⟨g_110, h⟩ := gd_e h
        obtain ⟨g_111, h⟩ := gd_e h
        refine z_icmp_gt (tgt := 365) hx hb g_110 g_111 dL_areFound_346 (by decide) (fun b_112 => ?_) (fun b_112 => ?_)
        · have h := it_p b_112 h
          refine lv_iconst (v := Int32.ofInt 0) hx hb dL_areFound_365 rfl ?_
          refine z_iadd hx hb dL_areFound_366 ?_
          refine lv_istore (lv' := [(11, vI (x11 + 0)), (0, .ref h_R), (3, vI x3), (4, vI x4), (5, vI x5), (6, vI x6), (7, vI x7), (8, vI x8), (9, vI x9), (12, vI x12)]) hx hb dL_areFound_367 hl (by decide) rfl (fun ls hl => ?_)
          exact hk ((x11 + 0)) H locs ls h hP hD hS (lv_sub hl [1, 2, 3, 4, 5, 6, 7, 8, 0, 9] rfl)
        · have h := it_n b_112 h
          refine lv_aload_n hx hb dL_areFound_349 rfl (lv_at hl 0 rfl) ?_
          refine lv_iload hx hb dL_areFound_350 (lv_at hl 9 rfl) ?_
          refine lv_iconst (v := Int32.ofInt 3) hx hb dL_areFound_352 rfl ?_
          obtain ⟨r_113, e_114, h⟩ := bd1_e h
          refine z_goi (ws' := []) (ret := r_113) (wc := (zRt (h_R) (h_T) (hc_R) (hp_R) (h_K) (hx_R) (hh_R) (hs_R) (c_hasSnapshot)) ++ (zTr cI (h_T) (q_T) (T)) ++ (zWk cI (h_K) (q_K) (K))) (wn := fun u_115 => (zRt h_R h_T hc_R hp_R h_K hx_R hh_R hs_R c_hasSnapshot) ++ (zTr cI h_T q_T T) ++ (zWk cI h_K q_K K) ++ (zAr cI h_A1 n_A1 fA1)) (wr := ([10].filterMap (fun i => ((zRt h_R h_T hc_R hp_R h_K hx_R hh_R hs_R c_hasSnapshot) ++ (zTr cI h_T q_T T) ++ (zWk cI h_K q_K K) ++ (zAr cI h_A1 n_A1 fA1))[i]?))) (va_runV (As := [vI x12, vI 3]) (rest := [vI x11]) hF.1 (c_Rt_bound l D cI cZ cT h_R h_T hc_R hp_R h_K hx_R hh_R hs_R q_T q_K c_hasSnapshot T K x12 3 H.size (r_113) e_114) (cwV 2 hts (zgV wm313 wm314 wm315 wm32 wm316) rfl rfl rfl (by decide +kernel) ⟨Nat.le_of_ble_eq_true rfl, Nat.le_of_ble_eq_true rfl⟩) ⟨zP.blind, va_recv hK (z_subP (ws' := (zRt (h_R) (h_T) (hc_R) (hp_R) (h_K) (hx_R) (hh_R) (hs_R) (c_hasSnapshot)) ++ (zTr cI (h_T) (q_T) (T)) ++ (zWk cI (h_K) (q_K) (K))) hP [0, 1, 2, 3, 4, 5, 6, 7, 8, 9] rfl) (ci := 6) (q0 := 0) rfl rfl, zP.enter (z_subP (ws' := (zRt (h_R) (h_T) (hc_R) (hp_R) (h_K) (hx_R) (hh_R) (hs_R) (c_hasSnapshot)) ++ (zTr cI (h_T) (q_T) (T)) ++ (zWk cI (h_K) (q_K) (K))) hP [0, 1, 2, 3, 4, 5, 6, 7, 8, 9] rfl) hK (hD.sub [0, 1, 2, 3, 4, 5, 6, 7, 8, 9] (by decide) rfl) hN⟩ rfl rfl hl.1 rfl (lv_room (Nat.le_of_ble_eq_true rfl)) dL_areFound_353 ⟨Nat.le_refl _, Nat.le_refl _⟩) hP hD hS hA [0, 1, 2, 3, 4, 5, 6, 7, 8, 9] [10] [1, 2, 3, 4, 5, 6, 7, 8, 9, 10, 0] rfl rfl (by decide) (fun _ => rfl) (fun u_115 H locs hP hD hS hz => ?_)
          refine lv_iload hx hb dL_areFound_356 (lv_at hl 2 rfl) ?_
          obtain ⟨g_116, h⟩ := gd_e h
          obtain ⟨g_117, h⟩ := gd_e h
          refine z_icmp_lt (tgt := 365) hx hb g_116 g_117 dL_areFound_358 (by decide) (fun b_118 => ?_) (fun b_118 => ?_)
          · have h := it_p b_118 h
            refine lv_iconst (v := Int32.ofInt 0) hx hb dL_areFound_365 rfl ?_
            refine z_iadd hx hb dL_areFound_366 ?_
            refine lv_istore (lv' := [(11, vI (x11 + 0)), (0, .ref h_R), (3, vI x3), (4, vI x4), (5, vI x5), (6, vI x6), (7, vI x7), (8, vI x8), (9, vI x9), (12, vI x12)]) hx hb dL_areFound_367 hl (by decide) rfl (fun ls hl => ?_)
            exact hk ((x11 + 0)) H locs ls h hP hD hS (lv_sub hl [1, 2, 3, 4, 5, 6, 7, 8, 0, 9] rfl)
          · have h := it_n b_118 h
            refine lv_iconst (v := Int32.ofInt 1) hx hb dL_areFound_361 rfl ?_
            refine lv_goto (tgt := 366) hx hb dL_areFound_362 (by decide) ?_
            refine z_iadd hx hb dL_areFound_366 ?_
            refine lv_istore (lv' := [(11, vI (x11 + 1)), (0, .ref h_R), (3, vI x3), (4, vI x4), (5, vI x5), (6, vI x6), (7, vI x7), (8, vI x8), (9, vI x9), (12, vI x12)]) hx hb dL_areFound_367 hl (by decide) rfl (fun ls hl => ?_)
            exact hk ((x11 + 1)) H locs ls h hP hD hS (lv_sub hl [1, 2, 3, 4, 5, 6, 7, 8, 0, 9] rfl)

set_option maxHeartbeats 4000000 in
set_option maxRecDepth 100000 in
theorem w_Lw_areFound_L303 {p : Program} {l : Launch} {e : Env} {s : State} {m : MethodId} {args : Array Value} {below : List Frame} {meth : Method} {c : Code} {A : Nat → Prop} (D : va_G) (cI cZ cT : ClassId) (h_R : Nat) (h_T : Nat) (hc_R : Nat) (hp_R : Nat) (h_K : Nat) (hx_R : Nat) (hh_R : Nat) (hs_R : Nat) (q_T : Nat → Nat) (q_K : Nat → Nat) (h_A1 : Nat) (n_A1 : Nat) (c_hasSnapshot : Int) (T : TV) (K : KV) (fA1 : Nat → Int) (x3 : Int) (x4 : Int) (x5 : Int) (x6 : Int) (x7 : Int) (x8 : Int) (x9 : Int) (res : Int) (k : Int → Int → Option (Int)) (hF : zF p m c cL_areFound 18 s args yL_areFound.cls meth (some .boolean) yL_areFound.name A D (zt cI cZ cT))
    (hk : ∀ (x11 : Int) (x12 : Int) (H : Heap) (locs : List Loc) (ls : Array Slot), k x11 x12 = some res → va_P D vwCl ((zRt h_R h_T hc_R hp_R h_K hx_R hh_R hs_R c_hasSnapshot) ++ (zTr cI h_T q_T T) ++ (zWk cI h_K q_K K) ++ (zAr cI h_A1 n_A1 fA1)) H → va_D A ((zRt h_R h_T hc_R hp_R h_K hx_R hh_R hs_R c_hasSnapshot) ++ (zTr cI h_T q_T T) ++ (zWk cI h_K q_K K) ++ (zAr cI h_A1 n_A1 fA1)) → va_S A s.heap H locs → lv_has ls 18 [(0, .ref h_R), (3, vI x3), (4, vI x4), (5, vI x5), (6, vI x6), (7, vI x7), (8, vI x8), (9, vI x9), (11, vI x11)] → W p l e rm_Lw_areFound s m args below meth c H locs 0 0 (MQ below (zQi D (res) (fun u => (zRt h_R h_T hc_R hp_R h_K hx_R hh_R hs_R c_hasSnapshot) ++ (zTr cI h_T q_T T) ++ (zWk cI h_K q_K K) ++ (zAr cI h_A1 n_A1 fA1)) A) args s 0 0 A) (F0 m 375 ls [])) :
    ∀ (n : Nat) (x11 : Int) (x12 : Int) (H : Heap) (locs : List Loc) (ls : Array Slot), f_Lw_areFound_L303 T K x3 x4 x5 x6 k n x11 x12 = some res → va_P D vwCl ((zRt h_R h_T hc_R hp_R h_K hx_R hh_R hs_R c_hasSnapshot) ++ (zTr cI h_T q_T T) ++ (zWk cI h_K q_K K) ++ (zAr cI h_A1 n_A1 fA1)) H → va_D A ((zRt h_R h_T hc_R hp_R h_K hx_R hh_R hs_R c_hasSnapshot) ++ (zTr cI h_T q_T T) ++ (zWk cI h_K q_K K) ++ (zAr cI h_A1 n_A1 fA1)) → va_S A s.heap H locs → lv_has ls 18 [(0, .ref h_R), (3, vI x3), (4, vI x4), (5, vI x5), (6, vI x6), (7, vI x7), (8, vI x8), (9, vI x9), (11, vI x11), (12, vI x12)] → W p l e rm_Lw_areFound s m args below meth c H locs 0 0 (MQ below (zQi D (res) (fun u => (zRt h_R h_T hc_R hp_R h_K hx_R hh_R hs_R c_hasSnapshot) ++ (zTr cI h_T q_T T) ++ (zWk cI h_K q_K K) ++ (zAr cI h_A1 n_A1 fA1)) A) args s 0 0 A) (F0 m 303 ls []) := by
  have hx := hF.1.1
  have hb := hF.1.2.1
  have hml := hF.1.2.2.1
  have hown : s.vm.findClass "RectangleTreeLaw" = some m.cls := hF.1.2.2.2.1
  have hts := hF.1.2.2.2.2
  have hr := hF.2.1
  have hlk := hF.2.2.1
  have hK := hF.2.2.2.2.1
  have hN := hF.2.2.2.2.2.1
  have hA := hF.2.2.2.2.2.2
  intro n
  induction n with
  | zero => intro x11 x12  H locs ls h; cases h
  | succ n ih =>
    intro x11 x12  H locs ls h  hP hD hS hl
    rw [f_Lw_areFound_L303] at h
    refine lv_iload hx hb dL_areFound_303 (lv_at hl 9 rfl) ?_
    refine lv_aload_n hx hb dL_areFound_305 rfl (lv_at hl 0 rfl) ?_
    obtain ⟨r_89, e_90, h⟩ := bd1_e h
    refine z_goi (ws' := []) (ret := r_89) (wc := (zRt (h_R) (h_T) (hc_R) (hp_R) (h_K) (hx_R) (hh_R) (hs_R) (c_hasSnapshot)) ++ (zWk cI (h_K) (q_K) (K))) (wn := fun u_91 => (zRt h_R h_T hc_R hp_R h_K hx_R hh_R hs_R c_hasSnapshot) ++ (zTr cI h_T q_T T) ++ (zWk cI h_K q_K K) ++ (zAr cI h_A1 n_A1 fA1)) (wr := ([1, 2, 3, 4, 5, 6, 10].filterMap (fun i => ((zRt h_R h_T hc_R hp_R h_K hx_R hh_R hs_R c_hasSnapshot) ++ (zTr cI h_T q_T T) ++ (zWk cI h_K q_K K) ++ (zAr cI h_A1 n_A1 fA1))[i]?))) (va_runV (As := []) (rest := [vI x12]) hF.1 (c_Rt_nodes l D cI cZ cT h_R h_T hc_R hp_R h_K hx_R hh_R hs_R q_K c_hasSnapshot K H.size (r_89) e_90) (cwV 0 hts (zgV wm280 wm281 wm282 wm32 wm283) rfl rfl rfl (by decide +kernel) ⟨Nat.le_of_ble_eq_true rfl, Nat.le_of_ble_eq_true rfl⟩) ⟨zP.blind, va_recv hK (z_subP (ws' := (zRt (h_R) (h_T) (hc_R) (hp_R) (h_K) (hx_R) (hh_R) (hs_R) (c_hasSnapshot)) ++ (zWk cI (h_K) (q_K) (K))) hP [0, 7, 8, 9] rfl) (ci := 6) (q0 := 0) rfl rfl, zP.enter (z_subP (ws' := (zRt (h_R) (h_T) (hc_R) (hp_R) (h_K) (hx_R) (hh_R) (hs_R) (c_hasSnapshot)) ++ (zWk cI (h_K) (q_K) (K))) hP [0, 7, 8, 9] rfl) hK (hD.sub [0, 7, 8, 9] (by decide) rfl) hN⟩ rfl rfl hl.1 rfl (lv_room (Nat.le_of_ble_eq_true rfl)) dL_areFound_306 ⟨Nat.le_refl _, Nat.le_refl _⟩) hP hD hS hA [0, 7, 8, 9] [1, 2, 3, 4, 5, 6, 10] [7, 0, 1, 2, 3, 4, 5, 8, 9, 10, 6] rfl rfl (by decide) (fun _ => rfl) (fun u_91 H locs hP hD hS hz => ?_)
    obtain ⟨g_92, h⟩ := gd_e h
    obtain ⟨g_93, h⟩ := gd_e h
    refine z_icmp_ge (tgt := 375) hx hb g_92 g_93 dL_areFound_309 (by decide) (fun b_94 => ?_) (fun b_94 => ?_)
    · have h := it_n b_94 h
      exact hk (x11) (x12) H locs ls h hP hD hS (lv_sub hl [0, 1, 2, 3, 4, 5, 6, 7, 8] rfl)
    · have h := it_p b_94 h
      refine w_Lw_areFound_L312 D cI cZ cT (h_R) (h_T) (hc_R) (hp_R) (h_K) (hx_R) (hh_R) (hs_R) (q_T) (q_K) (h_A1) (n_A1) (c_hasSnapshot) (T) (K) (fA1) (x3) (x4) (x5) (x6) (x7) (x8) (x9) (x12) _ _ hF (fun x11_119 H locs ls h hP hD hS hl => ?_) _ (x11) _ _ _ h hP hD hS (lv_sub hl [0, 1, 2, 3, 4, 5, 6, 7, 8, 9] rfl)
      refine lv_iinc (v := Int32.ofInt (x12 + 1)) (lv' := [(12, vI (x12 + 1)), (0, .ref h_R), (3, vI x3), (4, vI x4), (5, vI x5), (6, vI x6), (7, vI x7), (8, vI x8), (9, vI x9), (11, vI x11_119)]) hx hb dL_areFound_369 hl (k := 9) rfl (z_inc _ _) (by decide) rfl (fun ls hl => ?_)
      refine lv_goto (tgt := 303) hx hb dL_areFound_372 (by decide) ?_
      exact ih (x11_119) ((x12 + 1)) H locs ls h hP hD hS (lv_sub hl [1, 2, 3, 4, 5, 6, 7, 8, 9, 0] rfl)

set_option maxHeartbeats 4000000 in
set_option maxRecDepth 100000 in
theorem c_Lw_areFound (l : Launch) (D : va_G) (cI cZ cT : ClassId) (h_R : Nat) (h_T : Nat) (hc_R : Nat) (hp_R : Nat) (h_K : Nat) (hx_R : Nat) (hh_R : Nat) (hs_R : Nat) (q_T : Nat → Nat) (q_K : Nat → Nat) (h_A1 : Nat) (n_A1 : Nat) (c_hasSnapshot : Int) (T : TV) (K : KV) (fA1 : Nat → Int) (x2 : Int) (sz : Nat) (res : Int) (h : f_Lw_areFound n_A1 T K fA1 x2 = some res) : zMz l yL_areFound cL_areFound 18 rm_Lw_areFound D (zt cI cZ cT) [.ref h_R, .ref h_A1, vI x2] ((zRt h_R h_T hc_R hp_R h_K hx_R hh_R hs_R c_hasSnapshot) ++ (zTr cI h_T q_T T) ++ (zWk cI h_K q_K K) ++ (zAr cI h_A1 n_A1 fA1)) sz (res) (fun u => (zRt h_R h_T hc_R hp_R h_K hx_R hh_R hs_R c_hasSnapshot) ++ (zTr cI h_T q_T T) ++ (zWk cI h_K q_K K) ++ (zAr cI h_A1 n_A1 fA1)) 0 0 := by
  refine z_enth (Qc := zQi D (res) (fun u => (zRt h_R h_T hc_R hp_R h_K hx_R hh_R hs_R c_hasSnapshot) ++ (zTr cI h_T q_T T) ++ (zWk cI h_K q_K K) ++ (zAr cI h_A1 n_A1 fA1))) (by decide) (Nat.le_of_ble_eq_true rfl) (fun p e s m args below meth c A ls H locs hF hP hD hS hl => ?_)
  have hx := hF.1.1
  have hb := hF.1.2.1
  have hml := hF.1.2.2.1
  have hown : s.vm.findClass "RectangleTreeLaw" = some m.cls := hF.1.2.2.2.1
  have hts := hF.1.2.2.2.2
  have hr := hF.2.1
  have hlk := hF.2.2.1
  have hK := hF.2.2.2.2.1
  have hN := hF.2.2.2.2.2.1
  have hA := hF.2.2.2.2.2.2
  unfold f_Lw_areFound at h
  refine lv_iload_n hx hb dL_areFound_0 rfl (lv_at hl 2 rfl) ?_
  refine lv_iconst (v := Int32.ofInt 0) hx hb dL_areFound_1 rfl ?_
  obtain ⟨r_1, e_2, h⟩ := bd1_e h
  refine z_goi (ws' := []) (ret := r_1) (wc := ([] : va_W)) (wn := fun u_3 => (zRt h_R h_T hc_R hp_R h_K hx_R hh_R hs_R c_hasSnapshot) ++ (zTr cI h_T q_T T) ++ (zWk cI h_K q_K K) ++ (zAr cI h_A1 n_A1 fA1)) (wr := ([0, 1, 2, 3, 4, 5, 6, 7, 8, 9, 10].filterMap (fun i => ((zRt h_R h_T hc_R hp_R h_K hx_R hh_R hs_R c_hasSnapshot) ++ (zTr cI h_T q_T T) ++ (zWk cI h_K q_K K) ++ (zAr cI h_A1 n_A1 fA1))[i]?))) (va_runS (As := [vI x2, vI 0]) (rest := []) hF.1 (c_Lw_corner l D cI cZ cT x2 0 H.size (r_1) e_2) (va_cwS 2 hts (zgS wm352 wm353 wm31 wm354) rfl rfl rfl (by decide +kernel) ⟨Nat.le_of_ble_eq_true rfl, Nat.le_of_ble_eq_true rfl⟩) ⟨zP.blind, zP.enter (z_subP (ws' := ([] : va_W)) hP [] rfl) hK (hD.sub [] (by decide) rfl) hN⟩ rfl rfl hl.1 rfl (lv_room (Nat.le_of_ble_eq_true rfl)) dL_areFound_2 ⟨Nat.le_refl _, Nat.le_refl _⟩) hP hD hS hA [] [0, 1, 2, 3, 4, 5, 6, 7, 8, 9, 10] [0, 1, 2, 3, 4, 5, 6, 7, 8, 9, 10] rfl rfl (by decide) (fun _ => rfl) (fun u_3 H locs hP hD hS hz => ?_)
  refine lv_istore_n (lv' := [(3, vI r_1), (0, .ref h_R), (1, .ref h_A1), (2, vI x2)]) hx hb dL_areFound_5 rfl hl (by decide) rfl (fun ls hl => ?_)
  refine lv_iload_n hx hb dL_areFound_6 rfl (lv_at hl 3 rfl) ?_
  refine lv_iconst (v := Int32.ofInt 1) hx hb dL_areFound_7 rfl ?_
  obtain ⟨r_4, e_5, h⟩ := bd1_e h
  refine z_goi (ws' := []) (ret := r_4) (wc := ([] : va_W)) (wn := fun u_6 => (zRt h_R h_T hc_R hp_R h_K hx_R hh_R hs_R c_hasSnapshot) ++ (zTr cI h_T q_T T) ++ (zWk cI h_K q_K K) ++ (zAr cI h_A1 n_A1 fA1)) (wr := ([0, 1, 2, 3, 4, 5, 6, 7, 8, 9, 10].filterMap (fun i => ((zRt h_R h_T hc_R hp_R h_K hx_R hh_R hs_R c_hasSnapshot) ++ (zTr cI h_T q_T T) ++ (zWk cI h_K q_K K) ++ (zAr cI h_A1 n_A1 fA1))[i]?))) (va_runS (As := [vI x2, vI 1]) (rest := []) hF.1 (c_Lw_corner l D cI cZ cT x2 1 H.size (r_4) e_5) (va_cwS 2 hts (zgS wm352 wm353 wm31 wm354) rfl rfl rfl (by decide +kernel) ⟨Nat.le_of_ble_eq_true rfl, Nat.le_of_ble_eq_true rfl⟩) ⟨zP.blind, zP.enter (z_subP (ws' := ([] : va_W)) hP [] rfl) hK (hD.sub [] (by decide) rfl) hN⟩ rfl rfl hl.1 rfl (lv_room (Nat.le_of_ble_eq_true rfl)) dL_areFound_8 ⟨Nat.le_refl _, Nat.le_refl _⟩) hP hD hS hA [] [0, 1, 2, 3, 4, 5, 6, 7, 8, 9, 10] [0, 1, 2, 3, 4, 5, 6, 7, 8, 9, 10] rfl rfl (by decide) (fun _ => rfl) (fun u_6 H locs hP hD hS hz => ?_)
  refine lv_istore (lv' := [(4, vI r_4), (3, vI r_1), (0, .ref h_R), (1, .ref h_A1), (2, vI x2)]) hx hb dL_areFound_11 hl (by decide) rfl (fun ls hl => ?_)
  refine lv_iload_n hx hb dL_areFound_13 rfl (lv_at hl 4 rfl) ?_
  refine lv_iconst (v := Int32.ofInt 2) hx hb dL_areFound_14 rfl ?_
  obtain ⟨r_7, e_8, h⟩ := bd1_e h
  refine z_goi (ws' := []) (ret := r_7) (wc := ([] : va_W)) (wn := fun u_9 => (zRt h_R h_T hc_R hp_R h_K hx_R hh_R hs_R c_hasSnapshot) ++ (zTr cI h_T q_T T) ++ (zWk cI h_K q_K K) ++ (zAr cI h_A1 n_A1 fA1)) (wr := ([0, 1, 2, 3, 4, 5, 6, 7, 8, 9, 10].filterMap (fun i => ((zRt h_R h_T hc_R hp_R h_K hx_R hh_R hs_R c_hasSnapshot) ++ (zTr cI h_T q_T T) ++ (zWk cI h_K q_K K) ++ (zAr cI h_A1 n_A1 fA1))[i]?))) (va_runS (As := [vI x2, vI 2]) (rest := []) hF.1 (c_Lw_corner l D cI cZ cT x2 2 H.size (r_7) e_8) (va_cwS 2 hts (zgS wm352 wm353 wm31 wm354) rfl rfl rfl (by decide +kernel) ⟨Nat.le_of_ble_eq_true rfl, Nat.le_of_ble_eq_true rfl⟩) ⟨zP.blind, zP.enter (z_subP (ws' := ([] : va_W)) hP [] rfl) hK (hD.sub [] (by decide) rfl) hN⟩ rfl rfl hl.1 rfl (lv_room (Nat.le_of_ble_eq_true rfl)) dL_areFound_15 ⟨Nat.le_refl _, Nat.le_refl _⟩) hP hD hS hA [] [0, 1, 2, 3, 4, 5, 6, 7, 8, 9, 10] [0, 1, 2, 3, 4, 5, 6, 7, 8, 9, 10] rfl rfl (by decide) (fun _ => rfl) (fun u_9 H locs hP hD hS hz => ?_)
  refine lv_istore (lv' := [(5, vI r_7), (4, vI r_4), (3, vI r_1), (0, .ref h_R), (1, .ref h_A1), (2, vI x2)]) hx hb dL_areFound_18 hl (by decide) rfl (fun ls hl => ?_)
  refine lv_iload_n hx hb dL_areFound_20 rfl (lv_at hl 5 rfl) ?_
  refine lv_iconst (v := Int32.ofInt 3) hx hb dL_areFound_21 rfl ?_
  obtain ⟨r_10, e_11, h⟩ := bd1_e h
  refine z_goi (ws' := []) (ret := r_10) (wc := ([] : va_W)) (wn := fun u_12 => (zRt h_R h_T hc_R hp_R h_K hx_R hh_R hs_R c_hasSnapshot) ++ (zTr cI h_T q_T T) ++ (zWk cI h_K q_K K) ++ (zAr cI h_A1 n_A1 fA1)) (wr := ([0, 1, 2, 3, 4, 5, 6, 7, 8, 9, 10].filterMap (fun i => ((zRt h_R h_T hc_R hp_R h_K hx_R hh_R hs_R c_hasSnapshot) ++ (zTr cI h_T q_T T) ++ (zWk cI h_K q_K K) ++ (zAr cI h_A1 n_A1 fA1))[i]?))) (va_runS (As := [vI x2, vI 3]) (rest := []) hF.1 (c_Lw_corner l D cI cZ cT x2 3 H.size (r_10) e_11) (va_cwS 2 hts (zgS wm352 wm353 wm31 wm354) rfl rfl rfl (by decide +kernel) ⟨Nat.le_of_ble_eq_true rfl, Nat.le_of_ble_eq_true rfl⟩) ⟨zP.blind, zP.enter (z_subP (ws' := ([] : va_W)) hP [] rfl) hK (hD.sub [] (by decide) rfl) hN⟩ rfl rfl hl.1 rfl (lv_room (Nat.le_of_ble_eq_true rfl)) dL_areFound_22 ⟨Nat.le_refl _, Nat.le_refl _⟩) hP hD hS hA [] [0, 1, 2, 3, 4, 5, 6, 7, 8, 9, 10] [0, 1, 2, 3, 4, 5, 6, 7, 8, 9, 10] rfl rfl (by decide) (fun _ => rfl) (fun u_12 H locs hP hD hS hz => ?_)
  refine lv_istore (lv' := [(6, vI r_10), (5, vI r_7), (4, vI r_4), (3, vI r_1), (0, .ref h_R), (1, .ref h_A1), (2, vI x2)]) hx hb dL_areFound_25 hl (by decide) rfl (fun ls hl => ?_)
  refine lv_iconst (v := Int32.ofInt 0) hx hb dL_areFound_27 rfl ?_
  refine lv_istore (lv' := [(7, vI 0), (6, vI r_10), (5, vI r_7), (4, vI r_4), (3, vI r_1), (0, .ref h_R), (1, .ref h_A1), (2, vI x2)]) hx hb dL_areFound_28 hl (by decide) rfl (fun ls hl => ?_)
  refine lv_iconst (v := Int32.ofInt 0) hx hb dL_areFound_30 rfl ?_
  refine lv_istore (lv' := [(8, vI 0), (7, vI 0), (6, vI r_10), (5, vI r_7), (4, vI r_4), (3, vI r_1), (0, .ref h_R), (1, .ref h_A1), (2, vI x2)]) hx hb dL_areFound_31 hl (by decide) rfl (fun ls hl => ?_)
  refine lv_bipush (v := Int32.ofInt (-5)) hx hb dL_areFound_33 (by decide +kernel) ?_
  refine lv_istore (lv' := [(9, vI (-5)), (8, vI 0), (7, vI 0), (6, vI r_10), (5, vI r_7), (4, vI r_4), (3, vI r_1), (0, .ref h_R), (1, .ref h_A1), (2, vI x2)]) hx hb dL_areFound_35 hl (by decide) rfl (fun ls hl => ?_)
  refine lv_iconst (v := Int32.ofInt 0) hx hb dL_areFound_37 rfl ?_
  refine lv_istore (lv' := [(10, vI 0), (9, vI (-5)), (8, vI 0), (7, vI 0), (6, vI r_10), (5, vI r_7), (4, vI r_4), (3, vI r_1), (0, .ref h_R), (1, .ref h_A1), (2, vI x2)]) hx hb dL_areFound_38 hl (by decide) rfl (fun ls hl => ?_)
  refine lv_iconst (v := Int32.ofInt 0) hx hb dL_areFound_40 rfl ?_
  refine lv_istore (lv' := [(11, vI 0), (10, vI 0), (9, vI (-5)), (8, vI 0), (7, vI 0), (6, vI r_10), (5, vI r_7), (4, vI r_4), (3, vI r_1), (0, .ref h_R), (1, .ref h_A1), (2, vI x2)]) hx hb dL_areFound_41 hl (by decide) rfl (fun ls hl => ?_)
  refine w_Lw_areFound_L43 D cI cZ cT (h_R) (h_T) (hc_R) (hp_R) (h_K) (hx_R) (hh_R) (hs_R) (q_T) (q_K) (h_A1) (n_A1) (c_hasSnapshot) (T) (K) (fA1) (r_1) (r_4) (r_7) (r_10) _ _ hF (fun x7_84 x8_85 x9_86 x10_87 x11_88 H locs ls h hP hD hS hl => ?_) _ (0) (0) ((-5)) (0) (0) _ _ _ h hP hD hS (lv_sub hl [9, 10, 8, 7, 6, 5, 4, 3, 2, 1, 0] rfl)
  refine lv_iconst (v := Int32.ofInt 1) hx hb dL_areFound_297 rfl ?_
  refine lv_istore (lv' := [(11, vI 1), (0, .ref h_R), (3, vI r_1), (4, vI r_4), (5, vI r_7), (6, vI r_10), (7, vI x7_84), (8, vI x8_85), (9, vI x9_86)]) hx hb dL_areFound_298 hl (by decide) rfl (fun ls hl => ?_)
  refine lv_iconst (v := Int32.ofInt 1) hx hb dL_areFound_300 rfl ?_
  refine lv_istore (lv' := [(12, vI 1), (11, vI 1), (0, .ref h_R), (3, vI r_1), (4, vI r_4), (5, vI r_7), (6, vI r_10), (7, vI x7_84), (8, vI x8_85), (9, vI x9_86)]) hx hb dL_areFound_301 hl (by decide) rfl (fun ls hl => ?_)
  refine w_Lw_areFound_L303 D cI cZ cT (h_R) (h_T) (hc_R) (hp_R) (h_K) (hx_R) (hh_R) (hs_R) (q_T) (q_K) (h_A1) (n_A1) (c_hasSnapshot) (T) (K) (fA1) (r_1) (r_4) (r_7) (r_10) (x7_84) (x8_85) (x9_86) _ _ hF (fun x11_120 x12_121 H locs ls h hP hD hS hl => ?_) _ (1) (1) _ _ _ h hP hD hS (lv_sub hl [2, 3, 4, 5, 6, 7, 8, 9, 1, 0] rfl)
  refine lv_aload_n hx hb dL_areFound_375 rfl (lv_at hl 0 rfl) ?_
  refine lv_iload_n hx hb dL_areFound_376 rfl (lv_at hl 1 rfl) ?_
  refine lv_iload hx hb dL_areFound_377 (lv_at hl 2 rfl) ?_
  refine lv_iload hx hb dL_areFound_379 (lv_at hl 3 rfl) ?_
  refine lv_iload hx hb dL_areFound_381 (lv_at hl 4 rfl) ?_
  obtain ⟨r_122, e_123, h⟩ := bd1_e h
  refine z_goi (ws' := []) (ret := r_122) (wc := (zRt (h_R) (h_T) (hc_R) (hp_R) (h_K) (hx_R) (hh_R) (hs_R) (c_hasSnapshot)) ++ (zTr cI (h_T) (q_T) (T))) (wn := fun u_124 => (zRt h_R h_T hc_R hp_R h_K hx_R hh_R hs_R c_hasSnapshot) ++ (zTr cI h_T q_T T) ++ (zWk cI h_K q_K K) ++ (zAr cI h_A1 n_A1 fA1)) (wr := ([7, 8, 9, 10].filterMap (fun i => ((zRt h_R h_T hc_R hp_R h_K hx_R hh_R hs_R c_hasSnapshot) ++ (zTr cI h_T q_T T) ++ (zWk cI h_K q_K K) ++ (zAr cI h_A1 n_A1 fA1))[i]?))) (va_runV (As := [vI r_1, vI r_4, vI r_7, vI r_10]) (rest := []) hF.1 (c_Rt_meeting l D cI cZ cT h_R h_T hc_R hp_R h_K hx_R hh_R hs_R q_T c_hasSnapshot T r_1 r_4 r_7 r_10 H.size (r_122) e_123) (cwV 4 hts (zgV wm409 wm410 wm411 wm32 wm412) rfl rfl rfl (by decide +kernel) ⟨Nat.le_of_ble_eq_true rfl, Nat.le_of_ble_eq_true rfl⟩) ⟨zP.blind, va_recv hK (z_subP (ws' := (zRt (h_R) (h_T) (hc_R) (hp_R) (h_K) (hx_R) (hh_R) (hs_R) (c_hasSnapshot)) ++ (zTr cI (h_T) (q_T) (T))) hP [0, 1, 2, 3, 4, 5, 6] rfl) (ci := 6) (q0 := 0) rfl rfl, zP.enter (z_subP (ws' := (zRt (h_R) (h_T) (hc_R) (hp_R) (h_K) (hx_R) (hh_R) (hs_R) (c_hasSnapshot)) ++ (zTr cI (h_T) (q_T) (T))) hP [0, 1, 2, 3, 4, 5, 6] rfl) hK (hD.sub [0, 1, 2, 3, 4, 5, 6] (by decide) rfl) hN⟩ rfl rfl hl.1 rfl (lv_room (Nat.le_of_ble_eq_true rfl)) dL_areFound_383 ⟨Nat.le_refl _, Nat.le_refl _⟩) hP hD hS hA [0, 1, 2, 3, 4, 5, 6] [7, 8, 9, 10] [4, 5, 6, 7, 8, 9, 10, 0, 1, 2, 3] rfl rfl (by decide) (fun _ => rfl) (fun u_124 H locs hP hD hS hz => ?_)
  refine lv_iload hx hb dL_areFound_386 (lv_at hl 5 rfl) ?_
  obtain ⟨g_125, h⟩ := gd_e h
  obtain ⟨g_126, h⟩ := gd_e h
  refine z_icmp_ne (tgt := 439) hx hb g_125 g_126 dL_areFound_388 (by decide) (fun b_127 => ?_) (fun b_127 => ?_)
  · have h := it_n b_127 h
    refine lv_iconst (v := Int32.ofInt 0) hx hb dL_areFound_439 rfl ?_
    obtain rfl := Option.some.inj h
    exact z_zret hx hb hr hlk (by decide) (fun _ _ => 0) hP hD hS dL_areFound_440
  · have h := it_p b_127 h
    refine lv_aload_n hx hb dL_areFound_391 rfl (lv_at hl 0 rfl) ?_
    refine lv_iload_n hx hb dL_areFound_392 rfl (lv_at hl 1 rfl) ?_
    refine lv_iload hx hb dL_areFound_393 (lv_at hl 2 rfl) ?_
    refine lv_iload hx hb dL_areFound_395 (lv_at hl 3 rfl) ?_
    refine lv_iload hx hb dL_areFound_397 (lv_at hl 4 rfl) ?_
    obtain ⟨r_128, e_129, h⟩ := bd1_e h
    refine z_goi (ws' := []) (ret := r_128) (wc := (zRt (h_R) (h_T) (hc_R) (hp_R) (h_K) (hx_R) (hh_R) (hs_R) (c_hasSnapshot)) ++ (zTr cI (h_T) (q_T) (T))) (wn := fun u_130 => (zRt h_R h_T hc_R hp_R h_K hx_R hh_R hs_R c_hasSnapshot) ++ (zTr cI h_T q_T T) ++ (zWk cI h_K q_K K) ++ (zAr cI h_A1 n_A1 fA1)) (wr := ([7, 8, 9, 10].filterMap (fun i => ((zRt h_R h_T hc_R hp_R h_K hx_R hh_R hs_R c_hasSnapshot) ++ (zTr cI h_T q_T T) ++ (zWk cI h_K q_K K) ++ (zAr cI h_A1 n_A1 fA1))[i]?))) (va_runV (As := [vI r_1, vI r_4, vI r_7, vI r_10]) (rest := []) hF.1 (c_Rt_inside l D cI cZ cT h_R h_T hc_R hp_R h_K hx_R hh_R hs_R q_T c_hasSnapshot T r_1 r_4 r_7 r_10 H.size (r_128) e_129) (cwV 4 hts (zgV wm423 wm424 wm425 wm32 wm426) rfl rfl rfl (by decide +kernel) ⟨Nat.le_of_ble_eq_true rfl, Nat.le_of_ble_eq_true rfl⟩) ⟨zP.blind, va_recv hK (z_subP (ws' := (zRt (h_R) (h_T) (hc_R) (hp_R) (h_K) (hx_R) (hh_R) (hs_R) (c_hasSnapshot)) ++ (zTr cI (h_T) (q_T) (T))) hP [0, 1, 2, 3, 4, 5, 6] rfl) (ci := 6) (q0 := 0) rfl rfl, zP.enter (z_subP (ws' := (zRt (h_R) (h_T) (hc_R) (hp_R) (h_K) (hx_R) (hh_R) (hs_R) (c_hasSnapshot)) ++ (zTr cI (h_T) (q_T) (T))) hP [0, 1, 2, 3, 4, 5, 6] rfl) hK (hD.sub [0, 1, 2, 3, 4, 5, 6] (by decide) rfl) hN⟩ rfl rfl hl.1 rfl (lv_room (Nat.le_of_ble_eq_true rfl)) dL_areFound_399 ⟨Nat.le_refl _, Nat.le_refl _⟩) hP hD hS hA [0, 1, 2, 3, 4, 5, 6] [7, 8, 9, 10] [4, 5, 6, 7, 8, 9, 10, 0, 1, 2, 3] rfl rfl (by decide) (fun _ => rfl) (fun u_130 H locs hP hD hS hz => ?_)
    refine lv_iload hx hb dL_areFound_402 (lv_at hl 6 rfl) ?_
    obtain ⟨g_131, h⟩ := gd_e h
    obtain ⟨g_132, h⟩ := gd_e h
    refine z_icmp_ne (tgt := 439) hx hb g_131 g_132 dL_areFound_404 (by decide) (fun b_133 => ?_) (fun b_133 => ?_)
    · have h := it_n b_133 h
      refine lv_iconst (v := Int32.ofInt 0) hx hb dL_areFound_439 rfl ?_
      obtain rfl := Option.some.inj h
      exact z_zret hx hb hr hlk (by decide) (fun _ _ => 0) hP hD hS dL_areFound_440
    · have h := it_p b_133 h
      refine lv_aload_n hx hb dL_areFound_407 rfl (lv_at hl 0 rfl) ?_
      refine lv_iload_n hx hb dL_areFound_408 rfl (lv_at hl 1 rfl) ?_
      refine lv_iload hx hb dL_areFound_409 (lv_at hl 2 rfl) ?_
      refine lv_iload hx hb dL_areFound_411 (lv_at hl 3 rfl) ?_
      refine lv_iload hx hb dL_areFound_413 (lv_at hl 4 rfl) ?_
      obtain ⟨r_134, e_135, h⟩ := bd1_e h
      refine z_goi (ws' := []) (ret := r_134) (wc := (zRt (h_R) (h_T) (hc_R) (hp_R) (h_K) (hx_R) (hh_R) (hs_R) (c_hasSnapshot)) ++ (zTr cI (h_T) (q_T) (T)) ++ (zWk cI (h_K) (q_K) (K))) (wn := fun u_136 => (zRt h_R h_T hc_R hp_R h_K hx_R hh_R hs_R c_hasSnapshot) ++ (zTr cI h_T q_T T) ++ (zWk cI h_K q_K K) ++ (zAr cI h_A1 n_A1 fA1)) (wr := ([10].filterMap (fun i => ((zRt h_R h_T hc_R hp_R h_K hx_R hh_R hs_R c_hasSnapshot) ++ (zTr cI h_T q_T T) ++ (zWk cI h_K q_K K) ++ (zAr cI h_A1 n_A1 fA1))[i]?))) (va_runV (As := [vI r_1, vI r_4, vI r_7, vI r_10]) (rest := []) hF.1 (c_Rt_visits l D cI cZ cT h_R h_T hc_R hp_R h_K hx_R hh_R hs_R q_T q_K c_hasSnapshot T K r_1 r_4 r_7 r_10 H.size (r_134) e_135) (cwV 4 hts (zgV wm431 wm432 wm433 wm32 wm434) rfl rfl rfl (by decide +kernel) ⟨Nat.le_of_ble_eq_true rfl, Nat.le_of_ble_eq_true rfl⟩) ⟨zP.blind, va_recv hK (z_subP (ws' := (zRt (h_R) (h_T) (hc_R) (hp_R) (h_K) (hx_R) (hh_R) (hs_R) (c_hasSnapshot)) ++ (zTr cI (h_T) (q_T) (T)) ++ (zWk cI (h_K) (q_K) (K))) hP [0, 1, 2, 3, 4, 5, 6, 7, 8, 9] rfl) (ci := 6) (q0 := 0) rfl rfl, zP.enter (z_subP (ws' := (zRt (h_R) (h_T) (hc_R) (hp_R) (h_K) (hx_R) (hh_R) (hs_R) (c_hasSnapshot)) ++ (zTr cI (h_T) (q_T) (T)) ++ (zWk cI (h_K) (q_K) (K))) hP [0, 1, 2, 3, 4, 5, 6, 7, 8, 9] rfl) hK (hD.sub [0, 1, 2, 3, 4, 5, 6, 7, 8, 9] (by decide) rfl) hN⟩ rfl rfl hl.1 rfl (lv_room (Nat.le_of_ble_eq_true rfl)) dL_areFound_415 ⟨Nat.le_refl _, Nat.le_refl _⟩) hP hD hS hA [0, 1, 2, 3, 4, 5, 6, 7, 8, 9] [10] [1, 2, 3, 4, 5, 6, 7, 8, 9, 10, 0] rfl rfl (by decide) (fun _ => rfl) (fun u_136 H locs hP hD hS hz => ?_)
      refine lv_iload hx hb dL_areFound_418 (lv_at hl 8 rfl) ?_
      obtain ⟨g_137, h⟩ := gd_e h
      obtain ⟨g_138, h⟩ := gd_e h
      refine z_icmp_ne (tgt := 439) hx hb g_137 g_138 dL_areFound_420 (by decide) (fun b_139 => ?_) (fun b_139 => ?_)
      · have h := it_n b_139 h
        refine lv_iconst (v := Int32.ofInt 0) hx hb dL_areFound_439 rfl ?_
        obtain rfl := Option.some.inj h
        exact z_zret hx hb hr hlk (by decide) (fun _ _ => 0) hP hD hS dL_areFound_440
      · have h := it_p b_139 h
        refine lv_aload_n hx hb dL_areFound_423 rfl (lv_at hl 0 rfl) ?_
        refine lv_iload_n hx hb dL_areFound_424 rfl (lv_at hl 1 rfl) ?_
        refine lv_iload hx hb dL_areFound_425 (lv_at hl 2 rfl) ?_
        obtain ⟨r_140, e_141, h⟩ := bd1_e h
        refine z_goi (ws' := []) (ret := r_140) (wc := (zRt (h_R) (h_T) (hc_R) (hp_R) (h_K) (hx_R) (hh_R) (hs_R) (c_hasSnapshot)) ++ (zTr cI (h_T) (q_T) (T))) (wn := fun u_142 => (zRt h_R h_T hc_R hp_R h_K hx_R hh_R hs_R c_hasSnapshot) ++ (zTr cI h_T q_T T) ++ (zWk cI h_K q_K K) ++ (zAr cI h_A1 n_A1 fA1)) (wr := ([7, 8, 9, 10].filterMap (fun i => ((zRt h_R h_T hc_R hp_R h_K hx_R hh_R hs_R c_hasSnapshot) ++ (zTr cI h_T q_T T) ++ (zWk cI h_K q_K K) ++ (zAr cI h_A1 n_A1 fA1))[i]?))) (va_runV (As := [vI r_1, vI r_4]) (rest := []) hF.1 (c_Rt_nearest l D cI cZ cT h_R h_T hc_R hp_R h_K hx_R hh_R hs_R q_T c_hasSnapshot T r_1 r_4 H.size (r_140) e_141) (cwV 2 hts (zgV wm435 wm436 wm437 wm32 wm438) rfl rfl rfl (by decide +kernel) ⟨Nat.le_of_ble_eq_true rfl, Nat.le_of_ble_eq_true rfl⟩) ⟨zP.blind, va_recv hK (z_subP (ws' := (zRt (h_R) (h_T) (hc_R) (hp_R) (h_K) (hx_R) (hh_R) (hs_R) (c_hasSnapshot)) ++ (zTr cI (h_T) (q_T) (T))) hP [0, 1, 2, 3, 4, 5, 6] rfl) (ci := 6) (q0 := 0) rfl rfl, zP.enter (z_subP (ws' := (zRt (h_R) (h_T) (hc_R) (hp_R) (h_K) (hx_R) (hh_R) (hs_R) (c_hasSnapshot)) ++ (zTr cI (h_T) (q_T) (T))) hP [0, 1, 2, 3, 4, 5, 6] rfl) hK (hD.sub [0, 1, 2, 3, 4, 5, 6] (by decide) rfl) hN⟩ rfl rfl hl.1 rfl (lv_room (Nat.le_of_ble_eq_true rfl)) dL_areFound_427 ⟨Nat.le_refl _, Nat.le_refl _⟩) hP hD hS hA [0, 1, 2, 3, 4, 5, 6] [7, 8, 9, 10] [4, 5, 6, 7, 8, 9, 10, 0, 1, 2, 3] rfl rfl (by decide) (fun _ => rfl) (fun u_142 H locs hP hD hS hz => ?_)
        refine lv_iload hx hb dL_areFound_430 (lv_at hl 7 rfl) ?_
        obtain ⟨g_143, h⟩ := gd_e h
        obtain ⟨g_144, h⟩ := gd_e h
        refine z_icmp_ne (tgt := 439) hx hb g_143 g_144 dL_areFound_432 (by decide) (fun b_145 => ?_) (fun b_145 => ?_)
        · have h := it_n b_145 h
          refine lv_iconst (v := Int32.ofInt 0) hx hb dL_areFound_439 rfl ?_
          obtain rfl := Option.some.inj h
          exact z_zret hx hb hr hlk (by decide) (fun _ _ => 0) hP hD hS dL_areFound_440
        · have h := it_p b_145 h
          refine lv_iconst (v := Int32.ofInt 1) hx hb dL_areFound_435 rfl ?_
          refine lv_goto (tgt := 440) hx hb dL_areFound_436 (by decide) ?_
          obtain rfl := Option.some.inj h
          exact z_zret hx hb hr hlk (by decide) (fun _ _ => 0) hP hD hS dL_areFound_440
