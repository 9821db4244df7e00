/-! the law's methods: contracts -/

set_option maxHeartbeats 4000000 in
set_option maxRecDepth 100000 in
theorem w_Lw_isTree_L112 {p : Program} {l : Launch} {e : Env} {s : State} {m : MethodId} {args : Array Value} {below : List Frame} {meth : Method} {c : Code} {A : Nat → Prop} (D : va_G) (cI cZ cT : ClassId) (h_R : Nat) (h_T : Nat) (hc_R : Nat) (hp_R : Nat) (h_K : Nat) (hx_R : Nat) (hh_R : Nat) (hs_R : Nat) (q_T : Nat → Nat) (q_K : Nat → Nat) (h_A1 : Nat) (n_A1 : Nat) (c_hasSnapshot : Int) (T : TV) (K : KV) (fA1 : Nat → Int) (x2 : Int) (x3 : Int) (x4 : Int) (x5 : Int) (x6 : Int) (x7 : Int) (res : Int) (k : Int → Option (Int)) (hF : zF p m c cL_isTree 9 s args yL_isTree.cls meth (some .boolean) yL_isTree.name A D (zt cI cZ cT))
    (hk : ∀ (x8 : Int) (H : Heap) (locs : List Loc) (ls : Array Slot), k x8 = some res → va_P D vwCl ((zRt h_R h_T hc_R hp_R h_K hx_R hh_R hs_R c_hasSnapshot) ++ (zTr cI h_T q_T T) ++ (zWk cI h_K q_K K) ++ (zAr cI h_A1 n_A1 fA1)) H → va_D A ((zRt h_R h_T hc_R hp_R h_K hx_R hh_R hs_R c_hasSnapshot) ++ (zTr cI h_T q_T T) ++ (zWk cI h_K q_K K) ++ (zAr cI h_A1 n_A1 fA1)) → va_S A s.heap H locs → lv_has ls 9 [(0, .ref h_R), (1, .ref h_A1), (2, vI x2), (3, vI x3), (4, vI x4), (5, vI x5), (6, vI x6), (7, vI x7), (8, vI x8)] → W p l e rm_Lw_isTree s m args below meth c H locs 0 0 (MQ below (zQi D (res) (fun u => (zRt h_R h_T hc_R hp_R h_K hx_R hh_R hs_R c_hasSnapshot) ++ (zTr cI h_T q_T T) ++ (zWk cI h_K q_K K) ++ (zAr cI h_A1 n_A1 fA1)) A) args s 0 0 A) (F0 m 167 ls [])) :
    ∀ (n : Nat) (x8 : Int) (H : Heap) (locs : List Loc) (ls : Array Slot), f_Lw_isTree_L112 T x5 x6 x7 k n x8 = some res → va_P D vwCl ((zRt h_R h_T hc_R hp_R h_K hx_R hh_R hs_R c_hasSnapshot) ++ (zTr cI h_T q_T T) ++ (zWk cI h_K q_K K) ++ (zAr cI h_A1 n_A1 fA1)) H → va_D A ((zRt h_R h_T hc_R hp_R h_K hx_R hh_R hs_R c_hasSnapshot) ++ (zTr cI h_T q_T T) ++ (zWk cI h_K q_K K) ++ (zAr cI h_A1 n_A1 fA1)) → va_S A s.heap H locs → lv_has ls 9 [(0, .ref h_R), (1, .ref h_A1), (2, vI x2), (3, vI x3), (4, vI x4), (5, vI x5), (6, vI x6), (7, vI x7)] → W p l e rm_Lw_isTree s m args below meth c H locs 0 0 (MQ below (zQi D (res) (fun u => (zRt h_R h_T hc_R hp_R h_K hx_R hh_R hs_R c_hasSnapshot) ++ (zTr cI h_T q_T T) ++ (zWk cI h_K q_K K) ++ (zAr cI h_A1 n_A1 fA1)) A) args s 0 0 A) (F0 m 112 ls []) := by
  have hx := hF.1.1
  have hb := hF.1.2.1
  have hml := hF.1.2.2.1
  have hown : s.vm.findClass "RectangleTreeLaw" = some m.cls := hF.1.2.2.2.1
  have hts := hF.1.2.2.2.2
  have hr := hF.2.1
  have hlk := hF.2.2.1
  have hK := hF.2.2.2.2.1
  have hN := hF.2.2.2.2.2.1
  have hA := hF.2.2.2.2.2.2
  intro n
  induction n with
  | zero => intro x8  H locs ls h; cases h
  | succ n ih =>
    intro x8  H locs ls h  hP hD hS hl
    rw [f_Lw_isTree_L112] at h
    refine lv_iload hx hb dL_isTree_112 (lv_at hl 5 rfl) ?_
    obtain ⟨g_53, h⟩ := gd_e h
    refine z_if_ne (tgt := 141) hx hb g_53 dL_isTree_114 (by decide) (fun b_54 => ?_) (fun b_54 => ?_)
    · have h := it_n b_54 h
      refine lv_iload hx hb dL_isTree_141 (lv_at hl 6 rfl) ?_
      obtain ⟨g_55, h⟩ := gd_e h
      refine z_if_lt (tgt := 164) hx hb g_55 dL_isTree_143 (by decide) (fun b_56 => ?_) (fun b_56 => ?_)
      · have h := it_p b_56 h
        refine lv_iconst (v := Int32.ofInt 0) hx hb dL_isTree_164 rfl ?_
        refine lv_istore (lv' := [(8, vI 0), (0, .ref h_R), (1, .ref h_A1), (2, vI x2), (3, vI x3), (4, vI x4), (5, vI x5), (6, vI x6), (7, vI x7)]) hx hb dL_isTree_165 hl (by decide) rfl (fun ls hl => ?_)
        exact hk (0) H locs ls h hP hD hS (lv_sub hl [1, 2, 3, 4, 5, 6, 7, 8, 0] rfl)
      · have h := it_n b_56 h
        refine lv_iload hx hb dL_isTree_146 (lv_at hl 6 rfl) ?_
        refine lv_aload_n hx hb dL_isTree_148 rfl (lv_at hl 0 rfl) ?_
        obtain ⟨r_57, e_58, h⟩ := bd1_e h
        refine z_goi (ws' := []) (ret := r_57) (wc := (zRt (h_R) (h_T) (hc_R) (hp_R) (h_K) (hx_R) (hh_R) (hs_R) (c_hasSnapshot)) ++ (zTr cI (h_T) (q_T) (T))) (wn := fun u_59 => (zRt h_R h_T hc_R hp_R h_K hx_R hh_R hs_R c_hasSnapshot) ++ (zTr cI h_T q_T T) ++ (zWk cI h_K q_K K) ++ (zAr cI h_A1 n_A1 fA1)) (wr := ([7, 8, 9, 10].filterMap (fun i => ((zRt h_R h_T hc_R hp_R h_K hx_R hh_R hs_R c_hasSnapshot) ++ (zTr cI h_T q_T T) ++ (zWk cI h_K q_K K) ++ (zAr cI h_A1 n_A1 fA1))[i]?))) (va_runV (As := []) (rest := [vI x6]) hF.1 (c_Rt_height l D cI cZ cT h_R h_T hc_R hp_R h_K hx_R hh_R hs_R q_T c_hasSnapshot T H.size (r_57) e_58) (cwV 0 hts (zgV wm304 wm305 wm306 wm32 wm307) rfl rfl rfl (by decide +kernel) ⟨Nat.le_of_ble_eq_true rfl, Nat.le_of_ble_eq_true rfl⟩) ⟨zP.blind, va_recv hK (z_subP (ws' := (zRt (h_R) (h_T) (hc_R) (hp_R) (h_K) (hx_R) (hh_R) (hs_R) (c_hasSnapshot)) ++ (zTr cI (h_T) (q_T) (T))) hP [0, 1, 2, 3, 4, 5, 6] rfl) (ci := 6) (q0 := 0) rfl rfl, zP.enter (z_subP (ws' := (zRt (h_R) (h_T) (hc_R) (hp_R) (h_K) (hx_R) (hh_R) (hs_R) (c_hasSnapshot)) ++ (zTr cI (h_T) (q_T) (T))) hP [0, 1, 2, 3, 4, 5, 6] rfl) hK (hD.sub [0, 1, 2, 3, 4, 5, 6] (by decide) rfl) hN⟩ rfl rfl hl.1 rfl (lv_room (Nat.le_of_ble_eq_true rfl)) dL_isTree_149 ⟨Nat.le_refl _, Nat.le_refl _⟩) hP hD hS hA [0, 1, 2, 3, 4, 5, 6] [7, 8, 9, 10] [4, 5, 6, 7, 8, 9, 10, 0, 1, 2, 3] rfl rfl (by decide) (fun _ => rfl) (fun u_59 H locs hP hD hS hz => ?_)
        obtain ⟨g_60, h⟩ := gd_e h
        refine z_icmp_ge (tgt := 164) hx hb g_55 g_60 dL_isTree_152 (by decide) (fun b_61 => ?_) (fun b_61 => ?_)
        · have h := it_n b_61 h
          refine lv_iconst (v := Int32.ofInt 0) hx hb dL_isTree_164 rfl ?_
          refine lv_istore (lv' := [(8, vI 0), (0, .ref h_R), (1, .ref h_A1), (2, vI x2), (3, vI x3), (4, vI x4), (5, vI x5), (6, vI x6), (7, vI x7)]) hx hb dL_isTree_165 hl (by decide) rfl (fun ls hl => ?_)
          exact hk (0) H locs ls h hP hD hS (lv_sub hl [1, 2, 3, 4, 5, 6, 7, 8, 0] rfl)
        · have h := it_p b_61 h
          refine lv_iload hx hb dL_isTree_155 (lv_at hl 7 rfl) ?_
          obtain ⟨g_62, h⟩ := gd_e h
          refine z_if_le (tgt := 164) hx hb g_62 dL_isTree_157 (by decide) (fun b_63 => ?_) (fun b_63 => ?_)
          · have h := it_n b_63 h
            refine lv_iconst (v := Int32.ofInt 0) hx hb dL_isTree_164 rfl ?_
            refine lv_istore (lv' := [(8, vI 0), (0, .ref h_R), (1, .ref h_A1), (2, vI x2), (3, vI x3), (4, vI x4), (5, vI x5), (6, vI x6), (7, vI x7)]) hx hb dL_isTree_165 hl (by decide) rfl (fun ls hl => ?_)
            exact hk (0) H locs ls h hP hD hS (lv_sub hl [1, 2, 3, 4, 5, 6, 7, 8, 0] rfl)
          · have h := it_p b_63 h
            refine lv_iconst (v := Int32.ofInt 1) hx hb dL_isTree_160 rfl ?_
            refine lv_goto (tgt := 165) hx hb dL_isTree_161 (by decide) ?_
            refine lv_istore (lv' := [(8, vI 1), (0, .ref h_R), (1, .ref h_A1), (2, vI x2), (3, vI x3), (4, vI x4), (5, vI x5), (6, vI x6), (7, vI x7)]) hx hb dL_isTree_165 hl (by decide) rfl (fun ls hl => ?_)
            exact hk (1) H locs ls h hP hD hS (lv_sub hl [1, 2, 3, 4, 5, 6, 7, 8, 0] rfl)
    · have h := it_p b_54 h
      refine lv_iload hx hb dL_isTree_117 (lv_at hl 6 rfl) ?_
      obtain ⟨g_64, h⟩ := gd_e h
      refine z_if_lt (tgt := 137) hx hb g_64 dL_isTree_119 (by decide) (fun b_65 => ?_) (fun b_65 => ?_)
      · have h := it_p b_65 h
        refine lv_iconst (v := Int32.ofInt 0) hx hb dL_isTree_137 rfl ?_
        refine lv_goto (tgt := 165) hx hb dL_isTree_138 (by decide) ?_
        refine lv_istore (lv' := [(8, vI 0), (0, .ref h_R), (1, .ref h_A1), (2, vI x2), (3, vI x3), (4, vI x4), (5, vI x5), (6, vI x6), (7, vI x7)]) hx hb dL_isTree_165 hl (by decide) rfl (fun ls hl => ?_)
        exact hk (0) H locs ls h hP hD hS (lv_sub hl [1, 2, 3, 4, 5, 6, 7, 8, 0] rfl)
      · have h := it_n b_65 h
        refine lv_iload hx hb dL_isTree_122 (lv_at hl 6 rfl) ?_
        refine z_if_eq (tgt := 133) hx hb g_64 dL_isTree_124 (by decide) (fun b_66 => ?_) (fun b_66 => ?_)
        · have h := it_p b_66 h
          refine lv_iconst (v := Int32.ofInt 1) hx hb dL_isTree_133 rfl ?_
          refine lv_goto (tgt := 165) hx hb dL_isTree_134 (by decide) ?_
          refine lv_istore (lv' := [(8, vI 1), (0, .ref h_R), (1, .ref h_A1), (2, vI x2), (3, vI x3), (4, vI x4), (5, vI x5), (6, vI x6), (7, vI x7)]) hx hb dL_isTree_165 hl (by decide) rfl (fun ls hl => ?_)
          exact hk (1) H locs ls h hP hD hS (lv_sub hl [1, 2, 3, 4, 5, 6, 7, 8, 0] rfl)
        · have h := it_n b_66 h
          refine lv_iload hx hb dL_isTree_127 (lv_at hl 7 rfl) ?_
          refine lv_iconst (v := Int32.ofInt 1) hx hb dL_isTree_129 rfl ?_
          obtain ⟨g_67, h⟩ := gd_e h
          refine z_icmp_le (tgt := 137) hx hb g_67 (by decide) dL_isTree_130 (by decide) (fun b_68 => ?_) (fun b_68 => ?_)
          · have h := it_n b_68 h
            refine lv_iconst (v := Int32.ofInt 0) hx hb dL_isTree_137 rfl ?_
            refine lv_goto (tgt := 165) hx hb dL_isTree_138 (by decide) ?_
            refine lv_istore (lv' := [(8, vI 0), (0, .ref h_R), (1, .ref h_A1), (2, vI x2), (3, vI x3), (4, vI x4), (5, vI x5), (6, vI x6), (7, vI x7)]) hx hb dL_isTree_165 hl (by decide) rfl (fun ls hl => ?_)
            exact hk (0) H locs ls h hP hD hS (lv_sub hl [1, 2, 3, 4, 5, 6, 7, 8, 0] rfl)
          · have h := it_p b_68 h
            refine lv_iconst (v := Int32.ofInt 1) hx hb dL_isTree_133 rfl ?_
            refine lv_goto (tgt := 165) hx hb dL_isTree_134 (by decide) ?_
            refine lv_istore (lv' := [(8, vI 1), (0, .ref h_R), (1, .ref h_A1), (2, vI x2), (3, vI x3), (4, vI x4), (5, vI x5), (6, vI x6), (7, vI x7)]) hx hb dL_isTree_165 hl (by decide) rfl (fun ls hl => ?_)
            exact hk (1) H locs ls h hP hD hS (lv_sub hl [1, 2, 3, 4, 5, 6, 7, 8, 0] rfl)

set_option maxHeartbeats 4000000 in
set_option maxRecDepth 100000 in
theorem w_Lw_isTree_L221 {p : Program} {l : Launch} {e : Env} {s : State} {m : MethodId} {args : Array Value} {below : List Frame} {meth : Method} {c : Code} {A : Nat → Prop} (D : va_G) (cI cZ cT : ClassId) (h_R : Nat) (h_T : Nat) (hc_R : Nat) (hp_R : Nat) (h_K : Nat) (hx_R : Nat) (hh_R : Nat) (hs_R : Nat) (q_T : Nat → Nat) (q_K : Nat → Nat) (h_A1 : Nat) (n_A1 : Nat) (c_hasSnapshot : Int) (T : TV) (K : KV) (fA1 : Nat → Int) (x2 : Int) (x3 : Int) (x5 : Int) (x6 : Int) (res : Int) (k : Int → Option (Int)) (hF : zF p m c cL_isTree 9 s args yL_isTree.cls meth (some .boolean) yL_isTree.name A D (zt cI cZ cT))
    (hk : ∀ (x4 : Int) (H : Heap) (locs : List Loc) (ls : Array Slot), k x4 = some res → va_P D vwCl ((zRt h_R h_T hc_R hp_R h_K hx_R hh_R hs_R c_hasSnapshot) ++ (zTr cI h_T q_T T) ++ (zWk cI h_K q_K K) ++ (zAr cI h_A1 n_A1 fA1)) H → va_D A ((zRt h_R h_T hc_R hp_R h_K hx_R hh_R hs_R c_hasSnapshot) ++ (zTr cI h_T q_T T) ++ (zWk cI h_K q_K K) ++ (zAr cI h_A1 n_A1 fA1)) → va_S A s.heap H locs → lv_has ls 9 [(0, .ref h_R), (1, .ref h_A1), (2, vI x2), (3, vI x3), (4, vI x4), (5, vI x5)] → W p l e rm_Lw_isTree s m args below meth c H locs 0 0 (MQ below (zQi D (res) (fun u => (zRt h_R h_T hc_R hp_R h_K hx_R hh_R hs_R c_hasSnapshot) ++ (zTr cI h_T q_T T) ++ (zWk cI h_K q_K K) ++ (zAr cI h_A1 n_A1 fA1)) A) args s 0 0 A) (F0 m 242 ls [])) :
    ∀ (n : Nat) (x4 : Int) (H : Heap) (locs : List Loc) (ls : Array Slot), f_Lw_isTree_L221 n_A1 T K fA1 x5 x6 k n x4 = some res → va_P D vwCl ((zRt h_R h_T hc_R hp_R h_K hx_R hh_R hs_R c_hasSnapshot) ++ (zTr cI h_T q_T T) ++ (zWk cI h_K q_K K) ++ (zAr cI h_A1 n_A1 fA1)) H → va_D A ((zRt h_R h_T hc_R hp_R h_K hx_R hh_R hs_R c_hasSnapshot) ++ (zTr cI h_T q_T T) ++ (zWk cI h_K q_K K) ++ (zAr cI h_A1 n_A1 fA1)) → va_S A s.heap H locs → lv_has ls 9 [(0, .ref h_R), (1, .ref h_A1), (2, vI x2), (3, vI x3), (4, vI x4), (5, vI x5), (6, vI x6)] → W p l e rm_Lw_isTree s m args below meth c H locs 0 0 (MQ below (zQi D (res) (fun u => (zRt h_R h_T hc_R hp_R h_K hx_R hh_R hs_R c_hasSnapshot) ++ (zTr cI h_T q_T T) ++ (zWk cI h_K q_K K) ++ (zAr cI h_A1 n_A1 fA1)) A) args s 0 0 A) (F0 m 221 ls []) := by
  have hx := hF.1.1
  have hb := hF.1.2.1
  have hml := hF.1.2.2.1
  have hown : s.vm.findClass "RectangleTreeLaw" = some m.cls := hF.1.2.2.2.1
  have hts := hF.1.2.2.2.2
  have hr := hF.2.1
  have hlk := hF.2.2.1
  have hK := hF.2.2.2.2.1
  have hN := hF.2.2.2.2.2.1
  have hA := hF.2.2.2.2.2.2
  intro n
  induction n with
  | zero => intro x4  H locs ls h; cases h
  | succ n ih =>
    intro x4  H locs ls h  hP hD hS hl
    rw [f_Lw_isTree_L221] at h
    refine lv_iload hx hb dL_isTree_221 (lv_at hl 6 rfl) ?_
    obtain ⟨g_86, h⟩ := gd_e h
    refine z_if_le (tgt := 231) hx hb g_86 dL_isTree_223 (by decide) (fun b_87 => ?_) (fun b_87 => ?_)
    · have h := it_n b_87 h
      refine lv_aload_n hx hb dL_isTree_231 rfl (lv_at hl 0 rfl) ?_
      refine lv_aload_n hx hb dL_isTree_232 rfl (lv_at hl 1 rfl) ?_
      refine lv_iload hx hb dL_isTree_233 (lv_at hl 5 rfl) ?_
      refine lv_iload hx hb dL_isTree_235 (lv_at hl 4 rfl) ?_
      obtain ⟨r_88, e_89, h⟩ := bd1_e h
      refine z_goi (ws' := []) (ret := r_88) (wc := (zRt (h_R) (h_T) (hc_R) (hp_R) (h_K) (hx_R) (hh_R) (hs_R) (c_hasSnapshot)) ++ (zTr cI (h_T) (q_T) (T)) ++ (zWk cI (h_K) (q_K) (K)) ++ (zAr cI (h_A1) (n_A1) (fA1))) (wn := fun u_90 => (zRt h_R h_T hc_R hp_R h_K hx_R hh_R hs_R c_hasSnapshot) ++ (zTr cI h_T q_T T) ++ (zWk cI h_K q_K K) ++ (zAr cI h_A1 n_A1 fA1)) (wr := []) (va_runS (As := [.ref h_R, .ref h_A1, vI x5, vI x4]) (rest := []) hF.1 (c_Lw_leaf l D cI cZ cT h_R h_T hc_R hp_R h_K hx_R hh_R hs_R q_T q_K h_A1 n_A1 c_hasSnapshot T K fA1 x5 x4 H.size (r_88) e_89) (va_cwS 4 hts (zgS wm336 wm337 wm31 wm338) rfl rfl rfl (by decide +kernel) ⟨Nat.le_of_ble_eq_true rfl, Nat.le_of_ble_eq_true rfl⟩) ⟨zP.blind, zP.enter (z_subP (ws' := (zRt (h_R) (h_T) (hc_R) (hp_R) (h_K) (hx_R) (hh_R) (hs_R) (c_hasSnapshot)) ++ (zTr cI (h_T) (q_T) (T)) ++ (zWk cI (h_K) (q_K) (K)) ++ (zAr cI (h_A1) (n_A1) (fA1))) hP [0, 1, 2, 3, 4, 5, 6, 7, 8, 9, 10] rfl) hK (hD.sub [0, 1, 2, 3, 4, 5, 6, 7, 8, 9, 10] (by decide) rfl) hN⟩ rfl rfl hl.1 rfl (lv_room (Nat.le_of_ble_eq_true rfl)) dL_isTree_237 ⟨Nat.le_refl _, Nat.le_refl _⟩) hP hD hS hA [0, 1, 2, 3, 4, 5, 6, 7, 8, 9, 10] [] [0, 1, 2, 3, 4, 5, 6, 7, 8, 9, 10] rfl rfl (by decide) (fun _ => rfl) (fun u_90 H locs hP hD hS hz => ?_)
      refine lv_istore (lv' := [(4, vI r_88), (0, .ref h_R), (1, .ref h_A1), (2, vI x2), (3, vI x3), (5, vI x5), (6, vI x6)]) hx hb dL_isTree_240 hl (by decide) rfl (fun ls hl => ?_)
      exact hk (r_88) H locs ls h hP hD hS (lv_sub hl [1, 2, 3, 4, 0, 5] rfl)
    · have h := it_p b_87 h
      refine lv_iload hx hb dL_isTree_226 (lv_at hl 4 rfl) ?_
      refine lv_goto (tgt := 240) hx hb dL_isTree_228 (by decide) ?_
      refine lv_istore (lv' := [(4, vI x4), (0, .ref h_R), (1, .ref h_A1), (2, vI x2), (3, vI x3), (5, vI x5), (6, vI x6)]) hx hb dL_isTree_240 hl (by decide) rfl (fun ls hl => ?_)
      exact hk (x4) H locs ls h hP hD hS (lv_sub hl [1, 2, 3, 4, 0, 5] rfl)

set_option maxHeartbeats 4000000 in
set_option maxRecDepth 100000 in
theorem w_Lw_isTree_L90 {p : Program} {l : Launch} {e : Env} {s : State} {m : MethodId} {args : Array Value} {below : List Frame} {meth : Method} {c : Code} {A : Nat → Prop} (D : va_G) (cI cZ cT : ClassId) (h_R : Nat) (h_T : Nat) (hc_R : Nat) (hp_R : Nat) (h_K : Nat) (hx_R : Nat) (hh_R : Nat) (hs_R : Nat) (q_T : Nat → Nat) (q_K : Nat → Nat) (h_A1 : Nat) (n_A1 : Nat) (c_hasSnapshot : Int) (T : TV) (K : KV) (fA1 : Nat → Int) (x2 : Int) (x3 : Int) (res : Int) (k : Int → Int → Option (Int)) (hF : zF p m c cL_isTree 9 s args yL_isTree.cls meth (some .boolean) yL_isTree.name A D (zt cI cZ cT))
    (hk : ∀ (x4 : Int) (x5 : Int) (H : Heap) (locs : List Loc) (ls : Array Slot), k x4 x5 = some res → va_P D vwCl ((zRt h_R h_T hc_R hp_R h_K hx_R hh_R hs_R c_hasSnapshot) ++ (zTr cI h_T q_T T) ++ (zWk cI h_K q_K K) ++ (zAr cI h_A1 n_A1 fA1)) H → va_D A ((zRt h_R h_T hc_R hp_R h_K hx_R hh_R hs_R c_hasSnapshot) ++ (zTr cI h_T q_T T) ++ (zWk cI h_K q_K K) ++ (zAr cI h_A1 n_A1 fA1)) → va_S A s.heap H locs → lv_has ls 9 [(0, .ref h_R), (1, .ref h_A1), (2, vI x2), (3, vI x3), (4, vI x4)] → W p l e rm_Lw_isTree s m args below meth c H locs 0 0 (MQ below (zQi D (res) (fun u => (zRt h_R h_T hc_R hp_R h_K hx_R hh_R hs_R c_hasSnapshot) ++ (zTr cI h_T q_T T) ++ (zWk cI h_K q_K K) ++ (zAr cI h_A1 n_A1 fA1)) A) args s 0 0 A) (F0 m 255 ls [])) :
    ∀ (n : Nat) (x4 : Int) (x5 : Int) (H : Heap) (locs : List Loc) (ls : Array Slot), f_Lw_isTree_L90 n_A1 T K fA1 x2 k n x4 x5 = some res → va_P D vwCl ((zRt h_R h_T hc_R hp_R h_K hx_R hh_R hs_R c_hasSnapshot) ++ (zTr cI h_T q_T T) ++ (zWk cI h_K q_K K) ++ (zAr cI h_A1 n_A1 fA1)) H → va_D A ((zRt h_R h_T hc_R hp_R h_K hx_R hh_R hs_R c_hasSnapshot) ++ (zTr cI h_T q_T T) ++ (zWk cI h_K q_K K) ++ (zAr cI h_A1 n_A1 fA1)) → va_S A s.heap H locs → lv_has ls 9 [(0, .ref h_R), (1, .ref h_A1), (2, vI x2), (3, vI x3), (4, vI x4), (5, vI x5)] → W p l e rm_Lw_isTree s m args below meth c H locs 0 0 (MQ below (zQi D (res) (fun u => (zRt h_R h_T hc_R hp_R h_K hx_R hh_R hs_R c_hasSnapshot) ++ (zTr cI h_T q_T T) ++ (zWk cI h_K q_K K) ++ (zAr cI h_A1 n_A1 fA1)) A) args s 0 0 A) (F0 m 90 ls []) := by
  have hx := hF.1.1
  have hb := hF.1.2.1
  have hml := hF.1.2.2.1
  have hown : s.vm.findClass "RectangleTreeLaw" = some m.cls := hF.1.2.2.2.1
  have hts := hF.1.2.2.2.2
  have hr := hF.2.1
  have hlk := hF.2.2.1
  have hK := hF.2.2.2.2.1
  have hN := hF.2.2.2.2.2.1
  have hA := hF.2.2.2.2.2.2
  intro n
  induction n with
  | zero => intro x4 x5  H locs ls h; cases h
  | succ n ih =>
    intro x4 x5  H locs ls h  hP hD hS hl
    rw [f_Lw_isTree_L90] at h
    refine lv_iload hx hb dL_isTree_90 (lv_at hl 5 rfl) ?_
    refine lv_iload_n hx hb dL_isTree_92 rfl (lv_at hl 2 rfl) ?_
    obtain ⟨g_44, h⟩ := gd_e h
    obtain ⟨g_45, h⟩ := gd_e h
    refine z_icmp_ge (tgt := 255) hx hb g_44 g_45 dL_isTree_93 (by decide) (fun b_46 => ?_) (fun b_46 => ?_)
    · have h := it_n b_46 h
      exact hk (x4) (x5) H locs ls h hP hD hS (lv_sub hl [0, 1, 2, 3, 4] rfl)
    · have h := it_p b_46 h
      refine lv_aload_n hx hb dL_isTree_96 rfl (lv_at hl 0 rfl) ?_
      refine lv_iload hx hb dL_isTree_97 (lv_at hl 5 rfl) ?_
      obtain ⟨r_47, e_48, h⟩ := bd1_e h
      refine z_goi (ws' := []) (ret := r_47) (wc := (zRt (h_R) (h_T) (hc_R) (hp_R) (h_K) (hx_R) (hh_R) (hs_R) (c_hasSnapshot)) ++ (zTr cI (h_T) (q_T) (T)) ++ (zWk cI (h_K) (q_K) (K))) (wn := fun u_49 => (zRt h_R h_T hc_R hp_R h_K hx_R hh_R hs_R c_hasSnapshot) ++ (zTr cI h_T q_T T) ++ (zWk cI h_K q_K K) ++ (zAr cI h_A1 n_A1 fA1)) (wr := ([10].filterMap (fun i => ((zRt h_R h_T hc_R hp_R h_K hx_R hh_R hs_R c_hasSnapshot) ++ (zTr cI h_T q_T T) ++ (zWk cI h_K q_K K) ++ (zAr cI h_A1 n_A1 fA1))[i]?))) (va_runV (As := [vI x5]) (rest := []) hF.1 (c_Rt_level l D cI cZ cT h_R h_T hc_R hp_R h_K hx_R hh_R hs_R q_T q_K c_hasSnapshot T K x5 H.size (r_47) e_48) (cwV 1 hts (zgV wm287 wm288 wm289 wm32 wm290) rfl rfl rfl (by decide +kernel) ⟨Nat.le_of_ble_eq_true rfl, Nat.le_of_ble_eq_true rfl⟩) ⟨zP.blind, va_recv hK (z_subP (ws' := (zRt (h_R) (h_T) (hc_R) (hp_R) (h_K) (hx_R) (hh_R) (hs_R) (c_hasSnapshot)) ++ (zTr cI (h_T) (q_T) (T)) ++ (zWk cI (h_K) (q_K) (K))) hP [0, 1, 2, 3, 4, 5, 6, 7, 8, 9] rfl) (ci := 6) (q0 := 0) rfl rfl, zP.enter (z_subP (ws' := (zRt (h_R) (h_T) (hc_R) (hp_R) (h_K) (hx_R) (hh_R) (hs_R) (c_hasSnapshot)) ++ (zTr cI (h_T) (q_T) (T)) ++ (zWk cI (h_K) (q_K) (K))) hP [0, 1, 2, 3, 4, 5, 6, 7, 8, 9] rfl) hK (hD.sub [0, 1, 2, 3, 4, 5, 6, 7, 8, 9] (by decide) rfl) hN⟩ rfl rfl hl.1 rfl (lv_room (Nat.le_of_ble_eq_true rfl)) dL_isTree_99 ⟨Nat.le_refl _, Nat.le_refl _⟩) hP hD hS hA [0, 1, 2, 3, 4, 5, 6, 7, 8, 9] [10] [1, 2, 3, 4, 5, 6, 7, 8, 9, 10, 0] rfl rfl (by decide) (fun _ => rfl) (fun u_49 H locs hP hD hS hz => ?_)
      refine lv_istore (lv' := [(6, vI r_47), (0, .ref h_R), (1, .ref h_A1), (2, vI x2), (3, vI x3), (4, vI x4), (5, vI x5)]) hx hb dL_isTree_102 hl (by decide) rfl (fun ls hl => ?_)
      refine lv_aload_n hx hb dL_isTree_104 rfl (lv_at hl 1 rfl) ?_
      refine lv_iload hx hb dL_isTree_105 (lv_at hl 6 rfl) ?_
      obtain ⟨r_50, e_51, h⟩ := bd1_e h
      refine z_goi (ws' := []) (ret := r_50) (wc := (zRt (h_R) (h_T) (hc_R) (hp_R) (h_K) (hx_R) (hh_R) (hs_R) (c_hasSnapshot)) ++ (zTr cI (h_T) (q_T) (T)) ++ (zWk cI (h_K) (q_K) (K))) (wn := fun u_52 => (zRt h_R h_T hc_R hp_R h_K hx_R hh_R hs_R c_hasSnapshot) ++ (zTr cI h_T q_T T) ++ (zWk cI h_K q_K K) ++ (zAr cI h_A1 n_A1 fA1)) (wr := ([10].filterMap (fun i => ((zRt h_R h_T hc_R hp_R h_K hx_R hh_R hs_R c_hasSnapshot) ++ (zTr cI h_T q_T T) ++ (zWk cI h_K q_K K) ++ (zAr cI h_A1 n_A1 fA1))[i]?))) (va_runV (As := [vI x5]) (rest := []) hF.1 (c_Rt_entries l D cI cZ cT h_R h_T hc_R hp_R h_K hx_R hh_R hs_R q_T q_K c_hasSnapshot T K x5 H.size (r_50) e_51) (cwV 1 hts (zgV wm308 wm309 wm310 wm32 wm311) rfl rfl rfl (by decide +kernel) ⟨Nat.le_of_ble_eq_true rfl, Nat.le_of_ble_eq_true rfl⟩) ⟨zP.blind, va_recv hK (z_subP (ws' := (zRt (h_R) (h_T) (hc_R) (hp_R) (h_K) (hx_R) (hh_R) (hs_R) (c_hasSnapshot)) ++ (zTr cI (h_T) (q_T) (T)) ++ (zWk cI (h_K) (q_K) (K))) hP [0, 1, 2, 3, 4, 5, 6, 7, 8, 9] rfl) (ci := 6) (q0 := 0) rfl rfl, zP.enter (z_subP (ws' := (zRt (h_R) (h_T) (hc_R) (hp_R) (h_K) (hx_R) (hh_R) (hs_R) (c_hasSnapshot)) ++ (zTr cI (h_T) (q_T) (T)) ++ (zWk cI (h_K) (q_K) (K))) hP [0, 1, 2, 3, 4, 5, 6, 7, 8, 9] rfl) hK (hD.sub [0, 1, 2, 3, 4, 5, 6, 7, 8, 9] (by decide) rfl) hN⟩ rfl rfl hl.1 rfl (lv_room (Nat.le_of_ble_eq_true rfl)) dL_isTree_107 ⟨Nat.le_refl _, Nat.le_refl _⟩) hP hD hS hA [0, 1, 2, 3, 4, 5, 6, 7, 8, 9] [10] [1, 2, 3, 4, 5, 6, 7, 8, 9, 10, 0] rfl rfl (by decide) (fun _ => rfl) (fun u_52 H locs hP hD hS hz => ?_)
      refine lv_istore (lv' := [(7, vI r_50), (6, vI r_47), (0, .ref h_R), (1, .ref h_A1), (2, vI x2), (3, vI x3), (4, vI x4), (5, vI x5)]) hx hb dL_isTree_110 hl (by decide) rfl (fun ls hl => ?_)
      refine w_Lw_isTree_L112 D cI cZ cT (h_R) (h_T) (hc_R) (hp_R) (h_K) (hx_R) (hh_R) (hs_R) (q_T) (q_K) (h_A1) (n_A1) (c_hasSnapshot) (T) (K) (fA1) (x2) (x3) (x4) (x5) (r_47) (r_50) _ _ hF (fun x8_69 H locs ls h hP hD hS hl => ?_) _ (0) _ _ _ h hP hD hS (lv_sub hl [2, 3, 4, 5, 6, 7, 1, 0] rfl)
      refine lv_iload hx hb dL_isTree_167 (lv_at hl 8 rfl) ?_
      obtain ⟨g_70, h⟩ := gd_e h
      refine z_if_eq (tgt := 219) hx hb g_70 dL_isTree_169 (by decide) (fun b_71 => ?_) (fun b_71 => ?_)
      · have h := it_p b_71 h
        refine lv_iconst (v := Int32.ofInt 0) hx hb dL_isTree_219 rfl ?_
        obtain rfl := Option.some.inj h
        exact z_zret hx hb hr hlk (by decide) (fun _ _ => 0) hP hD hS dL_isTree_220
      · have h := it_n b_71 h
        refine lv_iload hx hb dL_isTree_172 (lv_at hl 7 rfl) ?_
        refine lv_bipush (v := Int32.ofInt 6) hx hb dL_isTree_174 (by decide +kernel) ?_
        obtain ⟨g_72, h⟩ := gd_e h
        refine z_icmp_gt (tgt := 219) hx hb g_72 (by decide) dL_isTree_176 (by decide) (fun b_73 => ?_) (fun b_73 => ?_)
        · have h := it_p b_73 h
          refine lv_iconst (v := Int32.ofInt 0) hx hb dL_isTree_219 rfl ?_
          obtain rfl := Option.some.inj h
          exact z_zret hx hb hr hlk (by decide) (fun _ _ => 0) hP hD hS dL_isTree_220
        · have h := it_n b_73 h
          refine lv_aload_n hx hb dL_isTree_179 rfl (lv_at hl 0 rfl) ?_
          refine lv_iload hx hb dL_isTree_180 (lv_at hl 5 rfl) ?_
          refine lv_iload hx hb dL_isTree_182 (lv_at hl 7 rfl) ?_
          obtain ⟨r_74, e_75, h⟩ := bd1_e h
          refine z_goi (ws' := []) (ret := r_74) (wc := (zRt (h_R) (h_T) (hc_R) (hp_R) (h_K) (hx_R) (hh_R) (hs_R) (c_hasSnapshot)) ++ (zTr cI (h_T) (q_T) (T)) ++ (zWk cI (h_K) (q_K) (K))) (wn := fun u_76 => (zRt h_R h_T hc_R hp_R h_K hx_R hh_R hs_R c_hasSnapshot) ++ (zTr cI h_T q_T T) ++ (zWk cI h_K q_K K) ++ (zAr cI h_A1 n_A1 fA1)) (wr := ([10].filterMap (fun i => ((zRt h_R h_T hc_R hp_R h_K hx_R hh_R hs_R c_hasSnapshot) ++ (zTr cI h_T q_T T) ++ (zWk cI h_K q_K K) ++ (zAr cI h_A1 n_A1 fA1))[i]?))) (va_runV (As := [vI x5, vI r_50]) (rest := []) hF.1 (c_Rt_entry l D cI cZ cT h_R h_T hc_R hp_R h_K hx_R hh_R hs_R q_T q_K c_hasSnapshot T K x5 r_50 H.size (r_74) e_75) (cwV 2 hts (zgV wm321 wm322 wm323 wm32 wm324) rfl rfl rfl (by decide +kernel) ⟨Nat.le_of_ble_eq_true rfl, Nat.le_of_ble_eq_true rfl⟩) ⟨zP.blind, va_recv hK (z_subP (ws' := (zRt (h_R) (h_T) (hc_R) (hp_R) (h_K) (hx_R) (hh_R) (hs_R) (c_hasSnapshot)) ++ (zTr cI (h_T) (q_T) (T)) ++ (zWk cI (h_K) (q_K) (K))) hP [0, 1, 2, 3, 4, 5, 6, 7, 8, 9] rfl) (ci := 6) (q0 := 0) rfl rfl, zP.enter (z_subP (ws' := (zRt (h_R) (h_T) (hc_R) (hp_R) (h_K) (hx_R) (hh_R) (hs_R) (c_hasSnapshot)) ++ (zTr cI (h_T) (q_T) (T)) ++ (zWk cI (h_K) (q_K) (K))) hP [0, 1, 2, 3, 4, 5, 6, 7, 8, 9] rfl) hK (hD.sub [0, 1, 2, 3, 4, 5, 6, 7, 8, 9] (by decide) rfl) hN⟩ rfl rfl hl.1 rfl (lv_room (Nat.le_of_ble_eq_true rfl)) dL_isTree_184 ⟨Nat.le_refl _, Nat.le_refl _⟩) hP hD hS hA [0, 1, 2, 3, 4, 5, 6, 7, 8, 9] [10] [1, 2, 3, 4, 5, 6, 7, 8, 9, 10, 0] rfl rfl (by decide) (fun _ => rfl) (fun u_76 H locs hP hD hS hz => ?_)
          refine lv_iconst (v := Int32.ofInt (-1)) hx hb dL_isTree_187 rfl ?_
          obtain ⟨g_77, h⟩ := gd_e h
          refine z_icmp_ne (tgt := 219) hx hb g_77 (by decide) dL_isTree_188 (by decide) (fun b_78 => ?_) (fun b_78 => ?_)
          · have h := it_n b_78 h
            refine lv_iconst (v := Int32.ofInt 0) hx hb dL_isTree_219 rfl ?_
            obtain rfl := Option.some.inj h
            exact z_zret hx hb hr hlk (by decide) (fun _ _ => 0) hP hD hS dL_isTree_220
          · have h := it_p b_78 h
            refine lv_aload_n hx hb dL_isTree_191 rfl (lv_at hl 0 rfl) ?_
            refine lv_iload hx hb dL_isTree_192 (lv_at hl 5 rfl) ?_
            refine lv_iconst (v := Int32.ofInt (-1)) hx hb dL_isTree_194 rfl ?_
            obtain ⟨r_79, e_80, h⟩ := bd1_e h
            refine z_goi (ws' := []) (ret := r_79) (wc := (zRt (h_R) (h_T) (hc_R) (hp_R) (h_K) (hx_R) (hh_R) (hs_R) (c_hasSnapshot)) ++ (zTr cI (h_T) (q_T) (T)) ++ (zWk cI (h_K) (q_K) (K))) (wn := fun u_81 => (zRt h_R h_T hc_R hp_R h_K hx_R hh_R hs_R c_hasSnapshot) ++ (zTr cI h_T q_T T) ++ (zWk cI h_K q_K K) ++ (zAr cI h_A1 n_A1 fA1)) (wr := ([10].filterMap (fun i => ((zRt h_R h_T hc_R hp_R h_K hx_R hh_R hs_R c_hasSnapshot) ++ (zTr cI h_T q_T T) ++ (zWk cI h_K q_K K) ++ (zAr cI h_A1 n_A1 fA1))[i]?))) (va_runV (As := [vI x5, vI (-1)]) (rest := []) hF.1 (c_Rt_entry l D cI cZ cT h_R h_T hc_R hp_R h_K hx_R hh_R hs_R q_T q_K c_hasSnapshot T K x5 (-1) H.size (r_79) e_80) (cwV 2 hts (zgV wm321 wm322 wm323 wm32 wm324) rfl rfl rfl (by decide +kernel) ⟨Nat.le_of_ble_eq_true rfl, Nat.le_of_ble_eq_true rfl⟩) ⟨zP.blind, va_recv hK (z_subP (ws' := (zRt (h_R) (h_T) (hc_R) (hp_R) (h_K) (hx_R) (hh_R) (hs_R) (c_hasSnapshot)) ++ (zTr cI (h_T) (q_T) (T)) ++ (zWk cI (h_K) (q_K) (K))) hP [0, 1, 2, 3, 4, 5, 6, 7, 8, 9] rfl) (ci := 6) (q0 := 0) rfl rfl, zP.enter (z_subP (ws' := (zRt (h_R) (h_T) (hc_R) (hp_R) (h_K) (hx_R) (hh_R) (hs_R) (c_hasSnapshot)) ++ (zTr cI (h_T) (q_T) (T)) ++ (zWk cI (h_K) (q_K) (K))) hP [0, 1, 2, 3, 4, 5, 6, 7, 8, 9] rfl) hK (hD.sub [0, 1, 2, 3, 4, 5, 6, 7, 8, 9] (by decide) rfl) hN⟩ rfl rfl hl.1 rfl (lv_room (Nat.le_of_ble_eq_true rfl)) dL_isTree_195 ⟨Nat.le_refl _, Nat.le_refl _⟩) hP hD hS hA [0, 1, 2, 3, 4, 5, 6, 7, 8, 9] [10] [1, 2, 3, 4, 5, 6, 7, 8, 9, 10, 0] rfl rfl (by decide) (fun _ => rfl) (fun u_81 H locs hP hD hS hz => ?_)
            refine lv_iconst (v := Int32.ofInt (-1)) hx hb dL_isTree_198 rfl ?_
            obtain ⟨g_82, h⟩ := gd_e h
            refine z_icmp_ne (tgt := 219) hx hb g_82 (by decide) dL_isTree_199 (by decide) (fun b_83 => ?_) (fun b_83 => ?_)
            · have h := it_n b_83 h
              refine lv_iconst (v := Int32.ofInt 0) hx hb dL_isTree_219 rfl ?_
              obtain rfl := Option.some.inj h
              exact z_zret hx hb hr hlk (by decide) (fun _ _ => 0) hP hD hS dL_isTree_220
            · have h := it_p b_83 h
              refine lv_iload hx hb dL_isTree_202 (lv_at hl 6 rfl) ?_
              obtain ⟨g_84, h⟩ := gd_e h
              refine z_if_le (tgt := 221) hx hb g_84 dL_isTree_204 (by decide) (fun b_85 => ?_) (fun b_85 => ?_)
              · have h := it_n b_85 h
                refine w_Lw_isTree_L221 D cI cZ cT (h_R) (h_T) (hc_R) (hp_R) (h_K) (hx_R) (hh_R) (hs_R) (q_T) (q_K) (h_A1) (n_A1) (c_hasSnapshot) (T) (K) (fA1) (x2) (x3) (x5) (r_47) _ _ hF (fun x4_91 H locs ls h hP hD hS hl => ?_) _ (x4) _ _ _ h hP hD hS (lv_sub hl [0, 1, 2, 3, 4, 5, 6] rfl)
                refine lv_iload hx hb dL_isTree_242 (lv_at hl 4 rfl) ?_
                obtain ⟨g_92, h⟩ := gd_e h
                refine z_if_ge (tgt := 249) hx hb g_92 dL_isTree_244 (by decide) (fun b_93 => ?_) (fun b_93 => ?_)
                · have h := it_n b_93 h
                  refine lv_iinc (v := Int32.ofInt (x5 + 1)) (lv' := [(5, vI (x5 + 1)), (0, .ref h_R), (1, .ref h_A1), (2, vI x2), (3, vI x3), (4, vI x4_91)]) hx hb dL_isTree_249 hl (k := 5) rfl (z_inc _ _) (by decide) rfl (fun ls hl => ?_)
                  refine lv_goto (tgt := 90) hx hb dL_isTree_252 (by decide) ?_
                  exact ih (x4_91) ((x5 + 1)) H locs ls h hP hD hS (lv_sub hl [1, 2, 3, 4, 5, 0] rfl)
                · have h := it_p b_93 h
                  refine lv_iconst (v := Int32.ofInt 0) hx hb dL_isTree_247 rfl ?_
                  obtain rfl := Option.some.inj h
                  exact z_zret hx hb hr hlk (by decide) (fun _ _ => 0) hP hD hS dL_isTree_248
              · have h := it_p b_85 h
                refine lv_aload_n hx hb dL_isTree_207 rfl (lv_at hl 0 rfl) ?_
                refine lv_iload hx hb dL_isTree_208 (lv_at hl 5 rfl) ?_
                refine lv_iload hx hb dL_isTree_210 (lv_at hl 6 rfl) ?_
                refine lv_iload_n hx hb dL_isTree_212 rfl (lv_at hl 2 rfl) ?_
                obtain ⟨r_94, e_95, h⟩ := bd1_e h
                refine z_goi (ws' := []) (ret := r_94) (wc := (zRt (h_R) (h_T) (hc_R) (hp_R) (h_K) (hx_R) (hh_R) (hs_R) (c_hasSnapshot)) ++ (zTr cI (h_T) (q_T) (T)) ++ (zWk cI (h_K) (q_K) (K))) (wn := fun u_96 => (zRt h_R h_T hc_R hp_R h_K hx_R hh_R hs_R c_hasSnapshot) ++ (zTr cI h_T q_T T) ++ (zWk cI h_K q_K K) ++ (zAr cI h_A1 n_A1 fA1)) (wr := ([10].filterMap (fun i => ((zRt h_R h_T hc_R hp_R h_K hx_R hh_R hs_R c_hasSnapshot) ++ (zTr cI h_T q_T T) ++ (zWk cI h_K q_K K) ++ (zAr cI h_A1 n_A1 fA1))[i]?))) (va_runS (As := [.ref h_R, vI x5, vI r_47, vI x2]) (rest := []) hF.1 (c_Lw_isNode l D cI cZ cT h_R h_T hc_R hp_R h_K hx_R hh_R hs_R q_T q_K c_hasSnapshot T K x5 r_47 x2 H.size (r_94) e_95) (va_cwS 4 hts (zgS wm330 wm331 wm31 wm332) rfl rfl rfl (by decide +kernel) ⟨Nat.le_of_ble_eq_true rfl, Nat.le_of_ble_eq_true rfl⟩) ⟨zP.blind, zP.enter (z_subP (ws' := (zRt (h_R) (h_T) (hc_R) (hp_R) (h_K) (hx_R) (hh_R) (hs_R) (c_hasSnapshot)) ++ (zTr cI (h_T) (q_T) (T)) ++ (zWk cI (h_K) (q_K) (K))) hP [0, 1, 2, 3, 4, 5, 6, 7, 8, 9] rfl) hK (hD.sub [0, 1, 2, 3, 4, 5, 6, 7, 8, 9] (by decide) rfl) hN⟩ rfl rfl hl.1 rfl (lv_room (Nat.le_of_ble_eq_true rfl)) dL_isTree_213 ⟨Nat.le_refl _, Nat.le_refl _⟩) hP hD hS hA [0, 1, 2, 3, 4, 5, 6, 7, 8, 9] [10] [1, 2, 3, 4, 5, 6, 7, 8, 9, 10, 0] rfl rfl (by decide) (fun _ => rfl) (fun u_96 H locs hP hD hS hz => ?_)
                obtain ⟨g_97, h⟩ := gd_e h
                refine z_if_ne (tgt := 221) hx hb g_97 dL_isTree_216 (by decide) (fun b_98 => ?_) (fun b_98 => ?_)
                · have h := it_n b_98 h
                  refine w_Lw_isTree_L221 D cI cZ cT (h_R) (h_T) (hc_R) (hp_R) (h_K) (hx_R) (hh_R) (hs_R) (q_T) (q_K) (h_A1) (n_A1) (c_hasSnapshot) (T) (K) (fA1) (x2) (x3) (x5) (r_47) _ _ hF (fun x4_99 H locs ls h hP hD hS hl => ?_) _ (x4) _ _ _ h hP hD hS (lv_sub hl [0, 1, 2, 3, 4, 5, 6] rfl)
                  refine lv_iload hx hb dL_isTree_242 (lv_at hl 4 rfl) ?_
                  obtain ⟨g_100, h⟩ := gd_e h
                  refine z_if_ge (tgt := 249) hx hb g_100 dL_isTree_244 (by decide) (fun b_101 => ?_) (fun b_101 => ?_)
                  · have h := it_n b_101 h
                    refine lv_iinc (v := Int32.ofInt (x5 + 1)) (lv' := [(5, vI (x5 + 1)), (0, .ref h_R), (1, .ref h_A1), (2, vI x2), (3, vI x3), (4, vI x4_99)]) hx hb dL_isTree_249 hl (k := 5) rfl (z_inc _ _) (by decide) rfl (fun ls hl => ?_)
                    refine lv_goto (tgt := 90) hx hb dL_isTree_252 (by decide) ?_
                    exact ih (x4_99) ((x5 + 1)) H locs ls h hP hD hS (lv_sub hl [1, 2, 3, 4, 5, 0] rfl)
                  · have h := it_p b_101 h
                    refine lv_iconst (v := Int32.ofInt 0) hx hb dL_isTree_247 rfl ?_
                    obtain rfl := Option.some.inj h
                    exact z_zret hx hb hr hlk (by decide) (fun _ _ => 0) hP hD hS dL_isTree_248
                · have h := it_p b_98 h
                  refine lv_iconst (v := Int32.ofInt 0) hx hb dL_isTree_219 rfl ?_
                  obtain rfl := Option.some.inj h
                  exact z_zret hx hb hr hlk (by decide) (fun _ _ => 0) hP hD hS dL_isTree_220

set_option maxHeartbeats 4000000 in
set_option maxRecDepth 100000 in
theorem w_Lw_isTree_L255 {p : Program} {l : Launch} {e : Env} {s : State} {m : MethodId} {args : Array Value} {below : List Frame} {meth : Method} {c : Code} {A : Nat → Prop} (D : va_G) (cI cZ cT : ClassId) (h_R : Nat) (h_T : Nat) (hc_R : Nat) (hp_R : Nat) (h_K : Nat) (hx_R : Nat) (hh_R : Nat) (hs_R : Nat) (q_T : Nat → Nat) (q_K : Nat → Nat) (h_A1 : Nat) (n_A1 : Nat) (c_hasSnapshot : Int) (T : TV) (K : KV) (fA1 : Nat → Int) (x2 : Int) (x3 : Int) (x4 : Int) (res : Int) (k : Int → Option (Int)) (hF : zF p m c cL_isTree 9 s args yL_isTree.cls meth (some .boolean) yL_isTree.name A D (zt cI cZ cT))
    (hk : ∀ (x5 : Int) (H : Heap) (locs : List Loc) (ls : Array Slot), k x5 = some res → va_P D vwCl ((zRt h_R h_T hc_R hp_R h_K hx_R hh_R hs_R c_hasSnapshot) ++ (zTr cI h_T q_T T) ++ (zWk cI h_K q_K K) ++ (zAr cI h_A1 n_A1 fA1)) H → va_D A ((zRt h_R h_T hc_R hp_R h_K hx_R hh_R hs_R c_hasSnapshot) ++ (zTr cI h_T q_T T) ++ (zWk cI h_K q_K K) ++ (zAr cI h_A1 n_A1 fA1)) → va_S A s.heap H locs → lv_has ls 9 [(0, .ref h_R), (1, .ref h_A1), (2, vI x2), (3, vI x3), (4, vI x4), (5, vI x5)] → W p l e rm_Lw_isTree s m args below meth c H locs 0 0 (MQ below (zQi D (res) (fun u => (zRt h_R h_T hc_R hp_R h_K hx_R hh_R hs_R c_hasSnapshot) ++ (zTr cI h_T q_T T) ++ (zWk cI h_K q_K K) ++ (zAr cI h_A1 n_A1 fA1)) A) args s 0 0 A) (F0 m 299 ls [])) :
    ∀ (n : Nat) (x5 : Int) (H : Heap) (locs : List Loc) (ls : Array Slot), f_Lw_isTree_L255 T K x2 x3 x4 k n x5 = some res → va_P D vwCl ((zRt h_R h_T hc_R hp_R h_K hx_R hh_R hs_R c_hasSnapshot) ++ (zTr cI h_T q_T T) ++ (zWk cI h_K q_K K) ++ (zAr cI h_A1 n_A1 fA1)) H → va_D A ((zRt h_R h_T hc_R hp_R h_K hx_R hh_R hs_R c_hasSnapshot) ++ (zTr cI h_T q_T T) ++ (zWk cI h_K q_K K) ++ (zAr cI h_A1 n_A1 fA1)) → va_S A s.heap H locs → lv_has ls 9 [(0, .ref h_R), (1, .ref h_A1), (2, vI x2), (3, vI x3), (4, vI x4)] → W p l e rm_Lw_isTree s m args below meth c H locs 0 0 (MQ below (zQi D (res) (fun u => (zRt h_R h_T hc_R hp_R h_K hx_R hh_R hs_R c_hasSnapshot) ++ (zTr cI h_T q_T T) ++ (zWk cI h_K q_K K) ++ (zAr cI h_A1 n_A1 fA1)) A) args s 0 0 A) (F0 m 255 ls []) := by
  have hx := hF.1.1
  have hb := hF.1.2.1
  have hml := hF.1.2.2.1
  have hown : s.vm.findClass "RectangleTreeLaw" = some m.cls := hF.1.2.2.2.1
  have hts := hF.1.2.2.2.2
  have hr := hF.2.1
  have hlk := hF.2.2.1
  have hK := hF.2.2.2.2.1
  have hN := hF.2.2.2.2.2.1
  have hA := hF.2.2.2.2.2.2
  intro n
  induction n with
  | zero => intro x5  H locs ls h; cases h
  | succ n ih =>
    intro x5  H locs ls h  hP hD hS hl
    rw [f_Lw_isTree_L255] at h
    refine lv_iload hx hb dL_isTree_255 (lv_at hl 4 rfl) ?_
    refine lv_aload_n hx hb dL_isTree_257 rfl (lv_at hl 0 rfl) ?_
    obtain ⟨r_104, e_105, h⟩ := bd1_e h
    refine z_goi (ws' := []) (ret := r_104) (wc := (zRt (h_R) (h_T) (hc_R) (hp_R) (h_K) (hx_R) (hh_R) (hs_R) (c_hasSnapshot)) ++ (zTr cI (h_T) (q_T) (T))) (wn := fun u_106 => (zRt h_R h_T hc_R hp_R h_K hx_R hh_R hs_R c_hasSnapshot) ++ (zTr cI h_T q_T T) ++ (zWk cI h_K q_K K) ++ (zAr cI h_A1 n_A1 fA1)) (wr := ([7, 8, 9, 10].filterMap (fun i => ((zRt h_R h_T hc_R hp_R h_K hx_R hh_R hs_R c_hasSnapshot) ++ (zTr cI h_T q_T T) ++ (zWk cI h_K q_K K) ++ (zAr cI h_A1 n_A1 fA1))[i]?))) (va_runV (As := []) (rest := [vI x4]) hF.1 (c_Rt_boxes l D cI cZ cT h_R h_T hc_R hp_R h_K hx_R hh_R hs_R q_T c_hasSnapshot T H.size (r_104) e_105) (cwV 0 hts (zgV wm356 wm357 wm358 wm32 wm359) rfl rfl rfl (by decide +kernel) ⟨Nat.le_of_ble_eq_true rfl, Nat.le_of_ble_eq_true rfl⟩) ⟨zP.blind, va_recv hK (z_subP (ws' := (zRt (h_R) (h_T) (hc_R) (hp_R) (h_K) (hx_R) (hh_R) (hs_R) (c_hasSnapshot)) ++ (zTr cI (h_T) (q_T) (T))) hP [0, 1, 2, 3, 4, 5, 6] rfl) (ci := 6) (q0 := 0) rfl rfl, zP.enter (z_subP (ws' := (zRt (h_R) (h_T) (hc_R) (hp_R) (h_K) (hx_R) (hh_R) (hs_R) (c_hasSnapshot)) ++ (zTr cI (h_T) (q_T) (T))) hP [0, 1, 2, 3, 4, 5, 6] rfl) hK (hD.sub [0, 1, 2, 3, 4, 5, 6] (by decide) rfl) hN⟩ rfl rfl hl.1 rfl (lv_room (Nat.le_of_ble_eq_true rfl)) dL_isTree_258 ⟨Nat.le_refl _, Nat.le_refl _⟩) hP hD hS hA [0, 1, 2, 3, 4, 5, 6] [7, 8, 9, 10] [4, 5, 6, 7, 8, 9, 10, 0, 1, 2, 3] rfl rfl (by decide) (fun _ => rfl) (fun u_106 H locs hP hD hS hz => ?_)
    obtain ⟨g_107, h⟩ := gd_e h
    obtain ⟨g_108, h⟩ := gd_e h
    refine z_icmp_ne (tgt := 296) hx hb g_107 g_108 dL_isTree_261 (by decide) (fun b_109 => ?_) (fun b_109 => ?_)
    · have h := it_n b_109 h
      refine lv_iconst (v := Int32.ofInt 0) hx hb dL_isTree_296 rfl ?_
      refine lv_istore (lv' := [(5, vI 0), (0, .ref h_R), (1, .ref h_A1), (2, vI x2), (3, vI x3), (4, vI x4)]) hx hb dL_isTree_297 hl (by decide) rfl (fun ls hl => ?_)
      exact hk (0) H locs ls h hP hD hS (lv_sub hl [1, 2, 3, 4, 5, 0] rfl)
    · have h := it_p b_109 h
      refine lv_iload_n hx hb dL_isTree_264 rfl (lv_at hl 3 rfl) ?_
      obtain ⟨g_110, h⟩ := gd_e h
      refine z_if_gt (tgt := 292) hx hb g_110 dL_isTree_265 (by decide) (fun b_111 => ?_) (fun b_111 => ?_)
      · have h := it_p b_111 h
        refine lv_iconst (v := Int32.ofInt 1) hx hb dL_isTree_292 rfl ?_
        refine lv_goto (tgt := 297) hx hb dL_isTree_293 (by decide) ?_
        refine lv_istore (lv' := [(5, vI 1), (0, .ref h_R), (1, .ref h_A1), (2, vI x2), (3, vI x3), (4, vI x4)]) hx hb dL_isTree_297 hl (by decide) rfl (fun ls hl => ?_)
        exact hk (1) H locs ls h hP hD hS (lv_sub hl [1, 2, 3, 4, 5, 0] rfl)
      · have h := it_n b_111 h
        refine lv_iload_n hx hb dL_isTree_268 rfl (lv_at hl 2 rfl) ?_
        refine lv_iconst (v := Int32.ofInt 1) hx hb dL_isTree_269 rfl ?_
        obtain ⟨g_112, h⟩ := gd_e h
        refine z_icmp_ne (tgt := 296) hx hb g_112 (by decide) dL_isTree_270 (by decide) (fun b_113 => ?_) (fun b_113 => ?_)
        · have h := it_n b_113 h
          refine lv_iconst (v := Int32.ofInt 0) hx hb dL_isTree_296 rfl ?_
          refine lv_istore (lv' := [(5, vI 0), (0, .ref h_R), (1, .ref h_A1), (2, vI x2), (3, vI x3), (4, vI x4)]) hx hb dL_isTree_297 hl (by decide) rfl (fun ls hl => ?_)
          exact hk (0) H locs ls h hP hD hS (lv_sub hl [1, 2, 3, 4, 5, 0] rfl)
        · have h := it_p b_113 h
          refine lv_aload_n hx hb dL_isTree_273 rfl (lv_at hl 0 rfl) ?_
          refine lv_iconst (v := Int32.ofInt 0) hx hb dL_isTree_274 rfl ?_
          obtain ⟨r_114, e_115, h⟩ := bd1_e h
          refine z_goi (ws' := []) (ret := r_114) (wc := (zRt (h_R) (h_T) (hc_R) (hp_R) (h_K) (hx_R) (hh_R) (hs_R) (c_hasSnapshot)) ++ (zTr cI (h_T) (q_T) (T)) ++ (zWk cI (h_K) (q_K) (K))) (wn := fun u_116 => (zRt h_R h_T hc_R hp_R h_K hx_R hh_R hs_R c_hasSnapshot) ++ (zTr cI h_T q_T T) ++ (zWk cI h_K q_K K) ++ (zAr cI h_A1 n_A1 fA1)) (wr := ([10].filterMap (fun i => ((zRt h_R h_T hc_R hp_R h_K hx_R hh_R hs_R c_hasSnapshot) ++ (zTr cI h_T q_T T) ++ (zWk cI h_K q_K K) ++ (zAr cI h_A1 n_A1 fA1))[i]?))) (va_runV (As := [vI 0]) (rest := []) hF.1 (c_Rt_entries l D cI cZ cT h_R h_T hc_R hp_R h_K hx_R hh_R hs_R q_T q_K c_hasSnapshot T K 0 H.size (r_114) e_115) (cwV 1 hts (zgV wm308 wm309 wm310 wm32 wm311) rfl rfl rfl (by decide +kernel) ⟨Nat.le_of_ble_eq_true rfl, Nat.le_of_ble_eq_true rfl⟩) ⟨zP.blind, va_recv hK (z_subP (ws' := (zRt (h_R) (h_T) (hc_R) (hp_R) (h_K) (hx_R) (hh_R) (hs_R) (c_hasSnapshot)) ++ (zTr cI (h_T) (q_T) (T)) ++ (zWk cI (h_K) (q_K) (K))) hP [0, 1, 2, 3, 4, 5, 6, 7, 8, 9] rfl) (ci := 6) (q0 := 0) rfl rfl, zP.enter (z_subP (ws' := (zRt (h_R) (h_T) (hc_R) (hp_R) (h_K) (hx_R) (hh_R) (hs_R) (c_hasSnapshot)) ++ (zTr cI (h_T) (q_T) (T)) ++ (zWk cI (h_K) (q_K) (K))) hP [0, 1, 2, 3, 4, 5, 6, 7, 8, 9] rfl) hK (hD.sub [0, 1, 2, 3, 4, 5, 6, 7, 8, 9] (by decide) rfl) hN⟩ rfl rfl hl.1 rfl (lv_room (Nat.le_of_ble_eq_true rfl)) dL_isTree_275 ⟨Nat.le_refl _, Nat.le_refl _⟩) hP hD hS hA [0, 1, 2, 3, 4, 5, 6, 7, 8, 9] [10] [1, 2, 3, 4, 5, 6, 7, 8, 9, 10, 0] rfl rfl (by decide) (fun _ => rfl) (fun u_116 H locs hP hD hS hz => ?_)
          obtain ⟨g_117, h⟩ := gd_e h
          refine z_if_ne (tgt := 296) hx hb g_117 dL_isTree_278 (by decide) (fun b_118 => ?_) (fun b_118 => ?_)
          · have h := it_n b_118 h
            refine lv_iconst (v := Int32.ofInt 0) hx hb dL_isTree_296 rfl ?_
            refine lv_istore (lv' := [(5, vI 0), (0, .ref h_R), (1, .ref h_A1), (2, vI x2), (3, vI x3), (4, vI x4)]) hx hb dL_isTree_297 hl (by decide) rfl (fun ls hl => ?_)
            exact hk (0) H locs ls h hP hD hS (lv_sub hl [1, 2, 3, 4, 5, 0] rfl)
          · have h := it_p b_118 h
            refine lv_aload_n hx hb dL_isTree_281 rfl (lv_at hl 0 rfl) ?_
            refine lv_iconst (v := Int32.ofInt 0) hx hb dL_isTree_282 rfl ?_
            refine lv_iconst (v := Int32.ofInt 0) hx hb dL_isTree_283 rfl ?_
            obtain ⟨r_119, e_120, h⟩ := bd1_e h
            refine z_goi (ws' := []) (ret := r_119) (wc := (zRt (h_R) (h_T) (hc_R) (hp_R) (h_K) (hx_R) (hh_R) (hs_R) (c_hasSnapshot)) ++ (zTr cI (h_T) (q_T) (T)) ++ (zWk cI (h_K) (q_K) (K))) (wn := fun u_121 => (zRt h_R h_T hc_R hp_R h_K hx_R hh_R hs_R c_hasSnapshot) ++ (zTr cI h_T q_T T) ++ (zWk cI h_K q_K K) ++ (zAr cI h_A1 n_A1 fA1)) (wr := ([10].filterMap (fun i => ((zRt h_R h_T hc_R hp_R h_K hx_R hh_R hs_R c_hasSnapshot) ++ (zTr cI h_T q_T T) ++ (zWk cI h_K q_K K) ++ (zAr cI h_A1 n_A1 fA1))[i]?))) (va_runV (As := [vI 0, vI 0]) (rest := []) hF.1 (c_Rt_bound l D cI cZ cT h_R h_T hc_R hp_R h_K hx_R hh_R hs_R q_T q_K c_hasSnapshot T K 0 0 H.size (r_119) e_120) (cwV 2 hts (zgV wm313 wm314 wm315 wm32 wm316) rfl rfl rfl (by decide +kernel) ⟨Nat.le_of_ble_eq_true rfl, Nat.le_of_ble_eq_true rfl⟩) ⟨zP.blind, va_recv hK (z_subP (ws' := (zRt (h_R) (h_T) (hc_R) (hp_R) (h_K) (hx_R) (hh_R) (hs_R) (c_hasSnapshot)) ++ (zTr cI (h_T) (q_T) (T)) ++ (zWk cI (h_K) (q_K) (K))) hP [0, 1, 2, 3, 4, 5, 6, 7, 8, 9] rfl) (ci := 6) (q0 := 0) rfl rfl, zP.enter (z_subP (ws' := (zRt (h_R) (h_T) (hc_R) (hp_R) (h_K) (hx_R) (hh_R) (hs_R) (c_hasSnapshot)) ++ (zTr cI (h_T) (q_T) (T)) ++ (zWk cI (h_K) (q_K) (K))) hP [0, 1, 2, 3, 4, 5, 6, 7, 8, 9] rfl) hK (hD.sub [0, 1, 2, 3, 4, 5, 6, 7, 8, 9] (by decide) rfl) hN⟩ rfl rfl hl.1 rfl (lv_room (Nat.le_of_ble_eq_true rfl)) dL_isTree_284 ⟨Nat.le_refl _, Nat.le_refl _⟩) hP hD hS hA [0, 1, 2, 3, 4, 5, 6, 7, 8, 9] [10] [1, 2, 3, 4, 5, 6, 7, 8, 9, 10, 0] rfl rfl (by decide) (fun _ => rfl) (fun u_121 H locs hP hD hS hz => ?_)
            refine lv_bipush (v := Int32.ofInt (-5)) hx hb dL_isTree_287 (by decide +kernel) ?_
            obtain ⟨g_122, h⟩ := gd_e h
            refine z_icmp_ne (tgt := 296) hx hb g_122 (by decide) dL_isTree_289 (by decide) (fun b_123 => ?_) (fun b_123 => ?_)
            · have h := it_n b_123 h
              refine lv_iconst (v := Int32.ofInt 0) hx hb dL_isTree_296 rfl ?_
              refine lv_istore (lv' := [(5, vI 0), (0, .ref h_R), (1, .ref h_A1), (2, vI x2), (3, vI x3), (4, vI x4)]) hx hb dL_isTree_297 hl (by decide) rfl (fun ls hl => ?_)
              exact hk (0) H locs ls h hP hD hS (lv_sub hl [1, 2, 3, 4, 5, 0] rfl)
            · have h := it_p b_123 h
              refine lv_iconst (v := Int32.ofInt 1) hx hb dL_isTree_292 rfl ?_
              refine lv_goto (tgt := 297) hx hb dL_isTree_293 (by decide) ?_
              refine lv_istore (lv' := [(5, vI 1), (0, .ref h_R), (1, .ref h_A1), (2, vI x2), (3, vI x3), (4, vI x4)]) hx hb dL_isTree_297 hl (by decide) rfl (fun ls hl => ?_)
              exact hk (1) H locs ls h hP hD hS (lv_sub hl [1, 2, 3, 4, 5, 0] rfl)

set_option maxHeartbeats 4000000 in
set_option maxRecDepth 100000 in
theorem w_Lw_isTree_L314 {p : Program} {l : Launch} {e : Env} {s : State} {m : MethodId} {args : Array Value} {below : List Frame} {meth : Method} {c : Code} {A : Nat → Prop} (D : va_G) (cI cZ cT : ClassId) (h_R : Nat) (h_T : Nat) (hc_R : Nat) (hp_R : Nat) (h_K : Nat) (hx_R : Nat) (hh_R : Nat) (hs_R : Nat) (q_T : Nat → Nat) (q_K : Nat → Nat) (h_A1 : Nat) (n_A1 : Nat) (c_hasSnapshot : Int) (T : TV) (K : KV) (fA1 : Nat → Int) (x2 : Int) (x3 : Int) (x4 : Int) (x6 : Int) (res : Int) (k : Int → Option (Int)) (hF : zF p m c cL_isTree 9 s args yL_isTree.cls meth (some .boolean) yL_isTree.name A D (zt cI cZ cT))
    (hk : ∀ (x5 : Int) (H : Heap) (locs : List Loc) (ls : Array Slot), k x5 = some res → va_P D vwCl ((zRt h_R h_T hc_R hp_R h_K hx_R hh_R hs_R c_hasSnapshot) ++ (zTr cI h_T q_T T) ++ (zWk cI h_K q_K K) ++ (zAr cI h_A1 n_A1 fA1)) H → va_D A ((zRt h_R h_T hc_R hp_R h_K hx_R hh_R hs_R c_hasSnapshot) ++ (zTr cI h_T q_T T) ++ (zWk cI h_K q_K K) ++ (zAr cI h_A1 n_A1 fA1)) → va_S A s.heap H locs → lv_has ls 9 [(0, .ref h_R), (1, .ref h_A1), (2, vI x2), (3, vI x3), (4, vI x4), (5, vI x5), (6, vI x6)] → W p l e rm_Lw_isTree s m args below meth c H locs 0 0 (MQ below (zQi D (res) (fun u => (zRt h_R h_T hc_R hp_R h_K hx_R hh_R hs_R c_hasSnapshot) ++ (zTr cI h_T q_T T) ++ (zWk cI h_K q_K K) ++ (zAr cI h_A1 n_A1 fA1)) A) args s 0 0 A) (F0 m 351 ls [])) :
    ∀ (n : Nat) (x5 : Int) (H : Heap) (locs : List Loc) (ls : Array Slot), f_Lw_isTree_L314 n_A1 fA1 x4 x6 k n x5 = some res → va_P D vwCl ((zRt h_R h_T hc_R hp_R h_K hx_R hh_R hs_R c_hasSnapshot) ++ (zTr cI h_T q_T T) ++ (zWk cI h_K q_K K) ++ (zAr cI h_A1 n_A1 fA1)) H → va_D A ((zRt h_R h_T hc_R hp_R h_K hx_R hh_R hs_R c_hasSnapshot) ++ (zTr cI h_T q_T T) ++ (zWk cI h_K q_K K) ++ (zAr cI h_A1 n_A1 fA1)) → va_S A s.heap H locs → lv_has ls 9 [(0, .ref h_R), (1, .ref h_A1), (2, vI x2), (3, vI x3), (4, vI x4), (6, vI x6)] → W p l e rm_Lw_isTree s m args below meth c H locs 0 0 (MQ below (zQi D (res) (fun u => (zRt h_R h_T hc_R hp_R h_K hx_R hh_R hs_R c_hasSnapshot) ++ (zTr cI h_T q_T T) ++ (zWk cI h_K q_K K) ++ (zAr cI h_A1 n_A1 fA1)) A) args s 0 0 A) (F0 m 314 ls []) := by
  have hx := hF.1.1
  have hb := hF.1.2.1
  have hml := hF.1.2.2.1
  have hown : s.vm.findClass "RectangleTreeLaw" = some m.cls := hF.1.2.2.2.1
  have hts := hF.1.2.2.2.2
  have hr := hF.2.1
  have hlk := hF.2.2.1
  have hK := hF.2.2.2.2.1
  have hN := hF.2.2.2.2.2.1
  have hA := hF.2.2.2.2.2.2
  intro n
  induction n with
  | zero => intro x5  H locs ls h; cases h
  | succ n ih =>
    intro x5  H locs ls h  hP hD hS hl
    rw [f_Lw_isTree_L314] at h
    refine lv_aload_n hx hb dL_isTree_314 rfl (lv_at hl 1 rfl) ?_
    refine lv_iload hx hb dL_isTree_315 (lv_at hl 5 rfl) ?_
    obtain ⟨g_129, h⟩ := gd_e h
    obtain ⟨g_130, h⟩ := gd_e h
    refine z_iald (n := n_A1) (f := fA1) (i := x6) hx hb hK hP 10 rfl rfl g_129 g_130.2 dL_isTree_317 ?_
    obtain ⟨g_131, h⟩ := gd_e h
    refine z_if_ge (tgt := 325) hx hb g_131 dL_isTree_318 (by decide) (fun b_132 => ?_) (fun b_132 => ?_)
    · have h := it_n b_132 h
      refine lv_iconst (v := Int32.ofInt 0) hx hb dL_isTree_325 rfl ?_
      refine lv_iload hx hb dL_isTree_326 (lv_at hl 4 rfl) ?_
      refine lv_iload hx hb dL_isTree_328 (lv_at hl 5 rfl) ?_
      refine z_ishr hx hb dL_isTree_330 ?_
      refine lv_iconst (v := Int32.ofInt 1) hx hb dL_isTree_331 rfl ?_
      refine z_iand hx hb dL_isTree_332 ?_
      refine z_if_ne (tgt := 340) hx hb (ck_of32 _) dL_isTree_333 (by decide) (fun b_133 => ?_) (fun b_133 => ?_)
      · have h := it_n b_133 h
        refine lv_iconst (v := Int32.ofInt 0) hx hb dL_isTree_340 rfl ?_
        refine z_icmp_ne (tgt := 348) hx hb (by decide) (by decide) dL_isTree_341 (by decide) (fun b_134 => ?_) (fun b_134 => ?_)
        · exact absurd b_134 (by decide)
        refine lv_iconst (v := Int32.ofInt 1) hx hb dL_isTree_344 rfl ?_
        refine lv_goto (tgt := 349) hx hb dL_isTree_345 (by decide) ?_
        refine lv_istore (lv' := [(5, vI 1), (0, .ref h_R), (1, .ref h_A1), (2, vI x2), (3, vI x3), (4, vI x4), (6, vI x6)]) hx hb dL_isTree_349 hl (by decide) rfl (fun ls hl => ?_)
        exact hk (1) H locs ls h hP hD hS (lv_sub hl [1, 2, 3, 4, 5, 0, 6] rfl)
      · have h := it_p b_133 h
        refine lv_iconst (v := Int32.ofInt 1) hx hb dL_isTree_336 rfl ?_
        refine lv_goto (tgt := 341) hx hb dL_isTree_337 (by decide) ?_
        refine z_icmp_ne (tgt := 348) hx hb (by decide) (by decide) dL_isTree_341 (by decide) (fun b_135 => ?_) (fun b_135 => ?_)
        rotate_left
        · exact absurd b_135 (by decide)
        refine lv_iconst (v := Int32.ofInt 0) hx hb dL_isTree_348 rfl ?_
        refine lv_istore (lv' := [(5, vI 0), (0, .ref h_R), (1, .ref h_A1), (2, vI x2), (3, vI x3), (4, vI x4), (6, vI x6)]) hx hb dL_isTree_349 hl (by decide) rfl (fun ls hl => ?_)
        exact hk (0) H locs ls h hP hD hS (lv_sub hl [1, 2, 3, 4, 5, 0, 6] rfl)
    · have h := it_p b_132 h
      refine lv_iconst (v := Int32.ofInt 1) hx hb dL_isTree_321 rfl ?_
      refine lv_goto (tgt := 326) hx hb dL_isTree_322 (by decide) ?_
      refine lv_iload hx hb dL_isTree_326 (lv_at hl 4 rfl) ?_
      refine lv_iload hx hb dL_isTree_328 (lv_at hl 5 rfl) ?_
      refine z_ishr hx hb dL_isTree_330 ?_
      refine lv_iconst (v := Int32.ofInt 1) hx hb dL_isTree_331 rfl ?_
      refine z_iand hx hb dL_isTree_332 ?_
      refine z_if_ne (tgt := 340) hx hb (ck_of32 _) dL_isTree_333 (by decide) (fun b_136 => ?_) (fun b_136 => ?_)
      · have h := it_n b_136 h
        refine lv_iconst (v := Int32.ofInt 0) hx hb dL_isTree_340 rfl ?_
        refine z_icmp_ne (tgt := 348) hx hb (by decide) (by decide) dL_isTree_341 (by decide) (fun b_137 => ?_) (fun b_137 => ?_)
        rotate_left
        · exact absurd b_137 (by decide)
        refine lv_iconst (v := Int32.ofInt 0) hx hb dL_isTree_348 rfl ?_
        refine lv_istore (lv' := [(5, vI 0), (0, .ref h_R), (1, .ref h_A1), (2, vI x2), (3, vI x3), (4, vI x4), (6, vI x6)]) hx hb dL_isTree_349 hl (by decide) rfl (fun ls hl => ?_)
        exact hk (0) H locs ls h hP hD hS (lv_sub hl [1, 2, 3, 4, 5, 0, 6] rfl)
      · have h := it_p b_136 h
        refine lv_iconst (v := Int32.ofInt 1) hx hb dL_isTree_336 rfl ?_
        refine lv_goto (tgt := 341) hx hb dL_isTree_337 (by decide) ?_
        refine z_icmp_ne (tgt := 348) hx hb (by decide) (by decide) dL_isTree_341 (by decide) (fun b_138 => ?_) (fun b_138 => ?_)
        · exact absurd b_138 (by decide)
        refine lv_iconst (v := Int32.ofInt 1) hx hb dL_isTree_344 rfl ?_
        refine lv_goto (tgt := 349) hx hb dL_isTree_345 (by decide) ?_
        refine lv_istore (lv' := [(5, vI 1), (0, .ref h_R), (1, .ref h_A1), (2, vI x2), (3, vI x3), (4, vI x4), (6, vI x6)]) hx hb dL_isTree_349 hl (by decide) rfl (fun ls hl => ?_)
        exact hk (1) H locs ls h hP hD hS (lv_sub hl [1, 2, 3, 4, 5, 0, 6] rfl)

set_option maxHeartbeats 4000000 in
set_option maxRecDepth 100000 in
theorem w_Lw_isTree_L365 {p : Program} {l : Launch} {e : Env} {s : State} {m : MethodId} {args : Array Value} {below : List Frame} {meth : Method} {c : Code} {A : Nat → Prop} (D : va_G) (cI cZ cT : ClassId) (h_R : Nat) (h_T : Nat) (hc_R : Nat) (hp_R : Nat) (h_K : Nat) (hx_R : Nat) (hh_R : Nat) (hs_R : Nat) (q_T : Nat → Nat) (q_K : Nat → Nat) (h_A1 : Nat) (n_A1 : Nat) (c_hasSnapshot : Int) (T : TV) (K : KV) (fA1 : Nat → Int) (x2 : Int) (x3 : Int) (x4 : Int) (x6 : Int) (x7 : Int) (res : Int) (k : Int → Option (Int)) (hF : zF p m c cL_isTree 9 s args yL_isTree.cls meth (some .boolean) yL_isTree.name A D (zt cI cZ cT))
    (hk : ∀ (x5 : Int) (H : Heap) (locs : List Loc) (ls : Array Slot), k x5 = some res → va_P D vwCl ((zRt h_R h_T hc_R hp_R h_K hx_R hh_R hs_R c_hasSnapshot) ++ (zTr cI h_T q_T T) ++ (zWk cI h_K q_K K) ++ (zAr cI h_A1 n_A1 fA1)) H → va_D A ((zRt h_R h_T hc_R hp_R h_K hx_R hh_R hs_R c_hasSnapshot) ++ (zTr cI h_T q_T T) ++ (zWk cI h_K q_K K) ++ (zAr cI h_A1 n_A1 fA1)) → va_S A s.heap H locs → lv_has ls 9 [(0, .ref h_R), (1, .ref h_A1), (2, vI x2), (3, vI x3), (4, vI x4), (5, vI x5), (6, vI x6), (7, vI x7)] → W p l e rm_Lw_isTree s m args below meth c H locs 0 0 (MQ below (zQi D (res) (fun u => (zRt h_R h_T hc_R hp_R h_K hx_R hh_R hs_R c_hasSnapshot) ++ (zTr cI h_T q_T T) ++ (zWk cI h_K q_K K) ++ (zAr cI h_A1 n_A1 fA1)) A) args s 0 0 A) (F0 m 403 ls [])) :
    ∀ (n : Nat) (x5 : Int) (H : Heap) (locs : List Loc) (ls : Array Slot), f_Lw_isTree_L365 n_A1 T fA1 x6 x7 k n x5 = some res → va_P D vwCl ((zRt h_R h_T hc_R hp_R h_K hx_R hh_R hs_R c_hasSnapshot) ++ (zTr cI h_T q_T T) ++ (zWk cI h_K q_K K) ++ (zAr cI h_A1 n_A1 fA1)) H → va_D A ((zRt h_R h_T hc_R hp_R h_K hx_R hh_R hs_R c_hasSnapshot) ++ (zTr cI h_T q_T T) ++ (zWk cI h_K q_K K) ++ (zAr cI h_A1 n_A1 fA1)) → va_S A s.heap H locs → lv_has ls 9 [(0, .ref h_R), (1, .ref h_A1), (2, vI x2), (3, vI x3), (4, vI x4), (6, vI x6), (7, vI x7)] → W p l e rm_Lw_isTree s m args below meth c H locs 0 0 (MQ below (zQi D (res) (fun u => (zRt h_R h_T hc_R hp_R h_K hx_R hh_R hs_R c_hasSnapshot) ++ (zTr cI h_T q_T T) ++ (zWk cI h_K q_K K) ++ (zAr cI h_A1 n_A1 fA1)) A) args s 0 0 A) (F0 m 365 ls []) := by
  have hx := hF.1.1
  have hb := hF.1.2.1
  have hml := hF.1.2.2.1
  have hown : s.vm.findClass "RectangleTreeLaw" = some m.cls := hF.1.2.2.2.1
  have hts := hF.1.2.2.2.2
  have hr := hF.2.1
  have hlk := hF.2.2.1
  have hK := hF.2.2.2.2.1
  have hN := hF.2.2.2.2.2.1
  have hA := hF.2.2.2.2.2.2
  intro n
  induction n with
  | zero => intro x5  H locs ls h; cases h
  | succ n ih =>
    intro x5  H locs ls h  hP hD hS hl
    rw [f_Lw_isTree_L365] at h
    refine lv_aload_n hx hb dL_isTree_365 rfl (lv_at hl 0 rfl) ?_
    refine lv_iload hx hb dL_isTree_366 (lv_at hl 5 rfl) ?_
    refine lv_iload hx hb dL_isTree_368 (lv_at hl 6 rfl) ?_
    obtain ⟨r_144, e_145, h⟩ := bd1_e h
    refine z_goi (ws' := []) (ret := r_144) (wc := (zRt (h_R) (h_T) (hc_R) (hp_R) (h_K) (hx_R) (hh_R) (hs_R) (c_hasSnapshot)) ++ (zTr cI (h_T) (q_T) (T))) (wn := fun u_146 => (zRt h_R h_T hc_R hp_R h_K hx_R hh_R hs_R c_hasSnapshot) ++ (zTr cI h_T q_T T) ++ (zWk cI h_K q_K K) ++ (zAr cI h_A1 n_A1 fA1)) (wr := ([7, 8, 9, 10].filterMap (fun i => ((zRt h_R h_T hc_R hp_R h_K hx_R hh_R hs_R c_hasSnapshot) ++ (zTr cI h_T q_T T) ++ (zWk cI h_K q_K K) ++ (zAr cI h_A1 n_A1 fA1))[i]?))) (va_runV (As := [vI x6, vI x7]) (rest := []) hF.1 (c_Rt_side l D cI cZ cT h_R h_T hc_R hp_R h_K hx_R hh_R hs_R q_T c_hasSnapshot T x6 x7 H.size (r_144) e_145) (cwV 2 hts (zgV wm360 wm361 wm362 wm32 wm363) rfl rfl rfl (by decide +kernel) ⟨Nat.le_of_ble_eq_true rfl, Nat.le_of_ble_eq_true rfl⟩) ⟨zP.blind, va_recv hK (z_subP (ws' := (zRt (h_R) (h_T) (hc_R) (hp_R) (h_K) (hx_R) (hh_R) (hs_R) (c_hasSnapshot)) ++ (zTr cI (h_T) (q_T) (T))) hP [0, 1, 2, 3, 4, 5, 6] rfl) (ci := 6) (q0 := 0) rfl rfl, zP.enter (z_subP (ws' := (zRt (h_R) (h_T) (hc_R) (hp_R) (h_K) (hx_R) (hh_R) (hs_R) (c_hasSnapshot)) ++ (zTr cI (h_T) (q_T) (T))) hP [0, 1, 2, 3, 4, 5, 6] rfl) hK (hD.sub [0, 1, 2, 3, 4, 5, 6] (by decide) rfl) hN⟩ rfl rfl hl.1 rfl (lv_room (Nat.le_of_ble_eq_true rfl)) dL_isTree_370 ⟨Nat.le_refl _, Nat.le_refl _⟩) hP hD hS hA [0, 1, 2, 3, 4, 5, 6] [7, 8, 9, 10] [4, 5, 6, 7, 8, 9, 10, 0, 1, 2, 3] rfl rfl (by decide) (fun _ => rfl) (fun u_146 H locs hP hD hS hz => ?_)
    refine lv_aload_n hx hb dL_isTree_373 rfl (lv_at hl 1 rfl) ?_
    refine lv_iload hx hb dL_isTree_374 (lv_at hl 5 rfl) ?_
    obtain ⟨g_147, h⟩ := gd_e h
    obtain ⟨g_148, h⟩ := gd_e h
    refine z_iald (n := n_A1) (f := fA1) (i := x6) hx hb hK hP 10 rfl rfl g_147 g_148.2 dL_isTree_376 ?_
    obtain ⟨g_149, h⟩ := gd_e h
    refine z_if_ge (tgt := 384) hx hb g_149 dL_isTree_377 (by decide) (fun b_150 => ?_) (fun b_150 => ?_)
    · have h := it_n b_150 h
      refine lv_aload_n hx hb dL_isTree_384 rfl (lv_at hl 1 rfl) ?_
      refine lv_iload hx hb dL_isTree_385 (lv_at hl 5 rfl) ?_
      refine z_iald (n := n_A1) (f := fA1) (i := x6) hx hb hK hP 10 rfl rfl g_147 g_148.2 dL_isTree_387 ?_
      refine lv_iload hx hb dL_isTree_388 (lv_at hl 6 rfl) ?_
      obtain ⟨r_151, e_152, h⟩ := bd1_e h
      refine z_goi (ws' := []) (ret := r_151) (wc := ([] : va_W)) (wn := fun u_153 => (zRt h_R h_T hc_R hp_R h_K hx_R hh_R hs_R c_hasSnapshot) ++ (zTr cI h_T q_T T) ++ (zWk cI h_K q_K K) ++ (zAr cI h_A1 n_A1 fA1)) (wr := ([0, 1, 2, 3, 4, 5, 6, 7, 8, 9, 10].filterMap (fun i => ((zRt h_R h_T hc_R hp_R h_K hx_R hh_R hs_R c_hasSnapshot) ++ (zTr cI h_T q_T T) ++ (zWk cI h_K q_K K) ++ (zAr cI h_A1 n_A1 fA1))[i]?))) (va_runS (As := [vI (fA1 (x6).toNat), vI x7]) (rest := [vI r_144]) hF.1 (c_Lw_corner l D cI cZ cT (fA1 (x6).toNat) x7 H.size (r_151) e_152) (va_cwS 2 hts (zgS wm352 wm353 wm31 wm354) rfl rfl rfl (by decide +kernel) ⟨Nat.le_of_ble_eq_true rfl, Nat.le_of_ble_eq_true rfl⟩) ⟨zP.blind, zP.enter (z_subP (ws' := ([] : va_W)) hP [] rfl) hK (hD.sub [] (by decide) rfl) hN⟩ rfl rfl hl.1 rfl (lv_room (Nat.le_of_ble_eq_true rfl)) dL_isTree_390 ⟨Nat.le_refl _, Nat.le_refl _⟩) hP hD hS hA [] [0, 1, 2, 3, 4, 5, 6, 7, 8, 9, 10] [0, 1, 2, 3, 4, 5, 6, 7, 8, 9, 10] rfl rfl (by decide) (fun _ => rfl) (fun u_153 H locs hP hD hS hz => ?_)
      obtain ⟨g_154, h⟩ := gd_e h
      obtain ⟨g_155, h⟩ := gd_e h
      refine z_icmp_ne (tgt := 400) hx hb g_154 g_155 dL_isTree_393 (by decide) (fun b_156 => ?_) (fun b_156 => ?_)
      · have h := it_n b_156 h
        refine lv_iconst (v := Int32.ofInt 0) hx hb dL_isTree_400 rfl ?_
        refine lv_istore (lv' := [(5, vI 0), (0, .ref h_R), (1, .ref h_A1), (2, vI x2), (3, vI x3), (4, vI x4), (6, vI x6), (7, vI x7)]) hx hb dL_isTree_401 hl (by decide) rfl (fun ls hl => ?_)
        exact hk (0) H locs ls h hP hD hS (lv_sub hl [1, 2, 3, 4, 5, 0, 6, 7] rfl)
      · have h := it_p b_156 h
        refine lv_iconst (v := Int32.ofInt 1) hx hb dL_isTree_396 rfl ?_
        refine lv_goto (tgt := 401) hx hb dL_isTree_397 (by decide) ?_
        refine lv_istore (lv' := [(5, vI 1), (0, .ref h_R), (1, .ref h_A1), (2, vI x2), (3, vI x3), (4, vI x4), (6, vI x6), (7, vI x7)]) hx hb dL_isTree_401 hl (by decide) rfl (fun ls hl => ?_)
        exact hk (1) H locs ls h hP hD hS (lv_sub hl [1, 2, 3, 4, 5, 0, 6, 7] rfl)
    · have h := it_p b_150 h
      refine lv_iconst (v := Int32.ofInt (-1)) hx hb dL_isTree_380 rfl ?_
      refine lv_goto (tgt := 393) hx hb dL_isTree_381 (by decide) ?_
      obtain ⟨g_157, h⟩ := gd_e h
      refine z_icmp_ne (tgt := 400) hx hb g_157 (by decide) dL_isTree_393 (by decide) (fun b_158 => ?_) (fun b_158 => ?_)
      · have h := it_n b_158 h
        refine lv_iconst (v := Int32.ofInt 0) hx hb dL_isTree_400 rfl ?_
        refine lv_istore (lv' := [(5, vI 0), (0, .ref h_R), (1, .ref h_A1), (2, vI x2), (3, vI x3), (4, vI x4), (6, vI x6), (7, vI x7)]) hx hb dL_isTree_401 hl (by decide) rfl (fun ls hl => ?_)
        exact hk (0) H locs ls h hP hD hS (lv_sub hl [1, 2, 3, 4, 5, 0, 6, 7] rfl)
      · have h := it_p b_158 h
        refine lv_iconst (v := Int32.ofInt 1) hx hb dL_isTree_396 rfl ?_
        refine lv_goto (tgt := 401) hx hb dL_isTree_397 (by decide) ?_
        refine lv_istore (lv' := [(5, vI 1), (0, .ref h_R), (1, .ref h_A1), (2, vI x2), (3, vI x3), (4, vI x4), (6, vI x6), (7, vI x7)]) hx hb dL_isTree_401 hl (by decide) rfl (fun ls hl => ?_)
        exact hk (1) H locs ls h hP hD hS (lv_sub hl [1, 2, 3, 4, 5, 0, 6, 7] rfl)

set_option maxHeartbeats 4000000 in
set_option maxRecDepth 100000 in
theorem w_Lw_isTree_L354 {p : Program} {l : Launch} {e : Env} {s : State} {m : MethodId} {args : Array Value} {below : List Frame} {meth : Method} {c : Code} {A : Nat → Prop} (D : va_G) (cI cZ cT : ClassId) (h_R : Nat) (h_T : Nat) (hc_R : Nat) (hp_R : Nat) (h_K : Nat) (hx_R : Nat) (hh_R : Nat) (hs_R : Nat) (q_T : Nat → Nat) (q_K : Nat → Nat) (h_A1 : Nat) (n_A1 : Nat) (c_hasSnapshot : Int) (T : TV) (K : KV) (fA1 : Nat → Int) (x2 : Int) (x3 : Int) (x4 : Int) (x6 : Int) (res : Int) (k : Int → Int → Option (Int)) (hF : zF p m c cL_isTree 9 s args yL_isTree.cls meth (some .boolean) yL_isTree.name A D (zt cI cZ cT))
    (hk : ∀ (x5 : Int) (x7 : Int) (H : Heap) (locs : List Loc) (ls : Array Slot), k x5 x7 = some res → va_P D vwCl ((zRt h_R h_T hc_R hp_R h_K hx_R hh_R hs_R c_hasSnapshot) ++ (zTr cI h_T q_T T) ++ (zWk cI h_K q_K K) ++ (zAr cI h_A1 n_A1 fA1)) H → va_D A ((zRt h_R h_T hc_R hp_R h_K hx_R hh_R hs_R c_hasSnapshot) ++ (zTr cI h_T q_T T) ++ (zWk cI h_K q_K K) ++ (zAr cI h_A1 n_A1 fA1)) → va_S A s.heap H locs → lv_has ls 9 [(0, .ref h_R), (1, .ref h_A1), (2, vI x2), (3, vI x3), (4, vI x4), (5, vI x5), (6, vI x6)] → W p l e rm_Lw_isTree s m args below meth c H locs 0 0 (MQ below (zQi D (res) (fun u => (zRt h_R h_T hc_R hp_R h_K hx_R hh_R hs_R c_hasSnapshot) ++ (zTr cI h_T q_T T) ++ (zWk cI h_K q_K K) ++ (zAr cI h_A1 n_A1 fA1)) A) args s 0 0 A) (F0 m 409 ls [])) :
    ∀ (n : Nat) (x5 : Int) (x7 : Int) (H : Heap) (locs : List Loc) (ls : Array Slot), f_Lw_isTree_L354 n_A1 T fA1 x6 k n x5 x7 = some res → va_P D vwCl ((zRt h_R h_T hc_R hp_R h_K hx_R hh_R hs_R c_hasSnapshot) ++ (zTr cI h_T q_T T) ++ (zWk cI h_K q_K K) ++ (zAr cI h_A1 n_A1 fA1)) H → va_D A ((zRt h_R h_T hc_R hp_R h_K hx_R hh_R hs_R c_hasSnapshot) ++ (zTr cI h_T q_T T) ++ (zWk cI h_K q_K K) ++ (zAr cI h_A1 n_A1 fA1)) → va_S A s.heap H locs → lv_has ls 9 [(0, .ref h_R), (1, .ref h_A1), (2, vI x2), (3, vI x3), (4, vI x4), (5, vI x5), (6, vI x6), (7, vI x7)] → W p l e rm_Lw_isTree s m args below meth c H locs 0 0 (MQ below (zQi D (res) (fun u => (zRt h_R h_T hc_R hp_R h_K hx_R hh_R hs_R c_hasSnapshot) ++ (zTr cI h_T q_T T) ++ (zWk cI h_K q_K K) ++ (zAr cI h_A1 n_A1 fA1)) A) args s 0 0 A) (F0 m 354 ls []) := by
  have hx := hF.1.1
  have hb := hF.1.2.1
  have hml := hF.1.2.2.1
  have hown : s.vm.findClass "RectangleTreeLaw" = some m.cls := hF.1.2.2.2.1
  have hts := hF.1.2.2.2.2
  have hr := hF.2.1
  have hlk := hF.2.2.1
  have hK := hF.2.2.2.2.1
  have hN := hF.2.2.2.2.2.1
  have hA := hF.2.2.2.2.2.2
  intro n
  induction n with
  | zero => intro x5 x7  H locs ls h; cases h
  | succ n ih =>
    intro x5 x7  H locs ls h  hP hD hS hl
    rw [f_Lw_isTree_L354] at h
    refine lv_iload hx hb dL_isTree_354 (lv_at hl 7 rfl) ?_
    refine lv_iconst (v := Int32.ofInt 4) hx hb dL_isTree_356 rfl ?_
    obtain ⟨g_140, h⟩ := gd_e h
    refine z_icmp_ge (tgt := 409) hx hb g_140 (by decide) dL_isTree_357 (by decide) (fun b_141 => ?_) (fun b_141 => ?_)
    · have h := it_n b_141 h
      exact hk (x5) (x7) H locs ls h hP hD hS (lv_sub hl [0, 1, 2, 3, 4, 5, 6] rfl)
    · have h := it_p b_141 h
      refine lv_iload hx hb dL_isTree_360 (lv_at hl 5 rfl) ?_
      obtain ⟨g_142, h⟩ := gd_e h
      refine z_if_eq (tgt := 409) hx hb g_142 dL_isTree_362 (by decide) (fun b_143 => ?_) (fun b_143 => ?_)
      · have h := it_p b_143 h
        exact hk (x5) (x7) H locs ls h hP hD hS (lv_sub hl [0, 1, 2, 3, 4, 5, 6] rfl)
      · have h := it_n b_143 h
        refine w_Lw_isTree_L365 D cI cZ cT (h_R) (h_T) (hc_R) (hp_R) (h_K) (hx_R) (hh_R) (hs_R) (q_T) (q_K) (h_A1) (n_A1) (c_hasSnapshot) (T) (K) (fA1) (x2) (x3) (x4) (x6) (x7) _ _ hF (fun x5_159 H locs ls h hP hD hS hl => ?_) _ (0) _ _ _ h hP hD hS (lv_sub hl [0, 1, 2, 3, 4, 6, 7] rfl)
        refine lv_iinc (v := Int32.ofInt (x7 + 1)) (lv' := [(7, vI (x7 + 1)), (0, .ref h_R), (1, .ref h_A1), (2, vI x2), (3, vI x3), (4, vI x4), (5, vI x5_159), (6, vI x6)]) hx hb dL_isTree_403 hl (k := 7) rfl (z_inc _ _) (by decide) rfl (fun ls hl => ?_)
        refine lv_goto (tgt := 354) hx hb dL_isTree_406 (by decide) ?_
        exact ih (x5_159) ((x7 + 1)) H locs ls h hP hD hS (lv_sub hl [1, 2, 3, 4, 5, 6, 7, 0] rfl)

set_option maxHeartbeats 4000000 in
set_option maxRecDepth 100000 in
theorem w_Lw_isTree_L302 {p : Program} {l : Launch} {e : Env} {s : State} {m : MethodId} {args : Array Value} {below : List Frame} {meth : Method} {c : Code} {A : Nat → Prop} (D : va_G) (cI cZ cT : ClassId) (h_R : Nat) (h_T : Nat) (hc_R : Nat) (hp_R : Nat) (h_K : Nat) (hx_R : Nat) (hh_R : Nat) (hs_R : Nat) (q_T : Nat → Nat) (q_K : Nat → Nat) (h_A1 : Nat) (n_A1 : Nat) (c_hasSnapshot : Int) (T : TV) (K : KV) (fA1 : Nat → Int) (x2 : Int) (x3 : Int) (x4 : Int) (res : Int) (k : Int → Int → Option (Int)) (hF : zF p m c cL_isTree 9 s args yL_isTree.cls meth (some .boolean) yL_isTree.name A D (zt cI cZ cT))
    (hk : ∀ (x5 : Int) (x6 : Int) (H : Heap) (locs : List Loc) (ls : Array Slot), k x5 x6 = some res → va_P D vwCl ((zRt h_R h_T hc_R hp_R h_K hx_R hh_R hs_R c_hasSnapshot) ++ (zTr cI h_T q_T T) ++ (zWk cI h_K q_K K) ++ (zAr cI h_A1 n_A1 fA1)) H → va_D A ((zRt h_R h_T hc_R hp_R h_K hx_R hh_R hs_R c_hasSnapshot) ++ (zTr cI h_T q_T T) ++ (zWk cI h_K q_K K) ++ (zAr cI h_A1 n_A1 fA1)) → va_S A s.heap H locs → lv_has ls 9 [(0, .ref h_R), (2, vI x2), (3, vI x3), (5, vI x5)] → W p l e rm_Lw_isTree s m args below meth c H locs 0 0 (MQ below (zQi D (res) (fun u => (zRt h_R h_T hc_R hp_R h_K hx_R hh_R hs_R c_hasSnapshot) ++ (zTr cI h_T q_T T) ++ (zWk cI h_K q_K K) ++ (zAr cI h_A1 n_A1 fA1)) A) args s 0 0 A) (F0 m 415 ls [])) :
    ∀ (n : Nat) (x5 : Int) (x6 : Int) (H : Heap) (locs : List Loc) (ls : Array Slot), f_Lw_isTree_L302 n_A1 T fA1 x4 k n x5 x6 = some res → va_P D vwCl ((zRt h_R h_T hc_R hp_R h_K hx_R hh_R hs_R c_hasSnapshot) ++ (zTr cI h_T q_T T) ++ (zWk cI h_K q_K K) ++ (zAr cI h_A1 n_A1 fA1)) H → va_D A ((zRt h_R h_T hc_R hp_R h_K hx_R hh_R hs_R c_hasSnapshot) ++ (zTr cI h_T q_T T) ++ (zWk cI h_K q_K K) ++ (zAr cI h_A1 n_A1 fA1)) → va_S A s.heap H locs → lv_has ls 9 [(0, .ref h_R), (1, .ref h_A1), (2, vI x2), (3, vI x3), (4, vI x4), (5, vI x5), (6, vI x6)] → W p l e rm_Lw_isTree s m args below meth c H locs 0 0 (MQ below (zQi D (res) (fun u => (zRt h_R h_T hc_R hp_R h_K hx_R hh_R hs_R c_hasSnapshot) ++ (zTr cI h_T q_T T) ++ (zWk cI h_K q_K K) ++ (zAr cI h_A1 n_A1 fA1)) A) args s 0 0 A) (F0 m 302 ls []) := by
  have hx := hF.1.1
  have hb := hF.1.2.1
  have hml := hF.1.2.2.1
  have hown : s.vm.findClass "RectangleTreeLaw" = some m.cls := hF.1.2.2.2.1
  have hts := hF.1.2.2.2.2
  have hr := hF.2.1
  have hlk := hF.2.2.1
  have hK := hF.2.2.2.2.1
  have hN := hF.2.2.2.2.2.1
  have hA := hF.2.2.2.2.2.2
  intro n
  induction n with
  | zero => intro x5 x6  H locs ls h; cases h
  | succ n ih =>
    intro x5 x6  H locs ls h  hP hD hS hl
    rw [f_Lw_isTree_L302] at h
    refine lv_iload hx hb dL_isTree_302 (lv_at hl 6 rfl) ?_
    refine lv_bipush (v := Int32.ofInt 24) hx hb dL_isTree_304 (by decide +kernel) ?_
    obtain ⟨g_125, h⟩ := gd_e h
    refine z_icmp_ge (tgt := 415) hx hb g_125 (by decide) dL_isTree_306 (by decide) (fun b_126 => ?_) (fun b_126 => ?_)
    · have h := it_n b_126 h
      exact hk (x5) (x6) H locs ls h hP hD hS (lv_sub hl [0, 2, 3, 5] rfl)
    · have h := it_p b_126 h
      refine lv_iload hx hb dL_isTree_309 (lv_at hl 5 rfl) ?_
      obtain ⟨g_127, h⟩ := gd_e h
      refine z_if_eq (tgt := 415) hx hb g_127 dL_isTree_311 (by decide) (fun b_128 => ?_) (fun b_128 => ?_)
      · have h := it_p b_128 h
        exact hk (x5) (x6) H locs ls h hP hD hS (lv_sub hl [0, 2, 3, 5] rfl)
      · have h := it_n b_128 h
        refine w_Lw_isTree_L314 D cI cZ cT (h_R) (h_T) (hc_R) (hp_R) (h_K) (hx_R) (hh_R) (hs_R) (q_T) (q_K) (h_A1) (n_A1) (c_hasSnapshot) (T) (K) (fA1) (x2) (x3) (x4) (x6) _ _ hF (fun x5_139 H locs ls h hP hD hS hl => ?_) _ (0) _ _ _ h hP hD hS (lv_sub hl [0, 1, 2, 3, 4, 6] rfl)
        refine lv_iconst (v := Int32.ofInt 0) hx hb dL_isTree_351 rfl ?_
        refine lv_istore (lv' := [(7, vI 0), (0, .ref h_R), (1, .ref h_A1), (2, vI x2), (3, vI x3), (4, vI x4), (5, vI x5_139), (6, vI x6)]) hx hb dL_isTree_352 hl (by decide) rfl (fun ls hl => ?_)
        refine w_Lw_isTree_L354 D cI cZ cT (h_R) (h_T) (hc_R) (hp_R) (h_K) (hx_R) (hh_R) (hs_R) (q_T) (q_K) (h_A1) (n_A1) (c_hasSnapshot) (T) (K) (fA1) (x2) (x3) (x4) (x6) _ _ hF (fun x5_160 x7_161 H locs ls h hP hD hS hl => ?_) _ (x5_139) (0) _ _ _ h hP hD hS (lv_sub hl [1, 2, 3, 4, 5, 6, 7, 0] rfl)
        refine lv_iinc (v := Int32.ofInt (x6 + 1)) (lv' := [(6, vI (x6 + 1)), (0, .ref h_R), (1, .ref h_A1), (2, vI x2), (3, vI x3), (4, vI x4), (5, vI x5_160)]) hx hb dL_isTree_409 hl (k := 6) rfl (z_inc _ _) (by decide) rfl (fun ls hl => ?_)
        refine lv_goto (tgt := 302) hx hb dL_isTree_412 (by decide) ?_
        exact ih (x5_160) ((x6 + 1)) H locs ls h hP hD hS (lv_sub hl [1, 2, 3, 4, 5, 6, 0] rfl)

set_option maxHeartbeats 4000000 in
set_option maxRecDepth 100000 in
theorem c_Lw_isTree (l : Launch) (D : va_G) (cI cZ cT : ClassId) (h_R : Nat) (h_T : Nat) (hc_R : Nat) (hp_R : Nat) (h_K : Nat) (hx_R : Nat) (hh_R : Nat) (hs_R : Nat) (q_T : Nat → Nat) (q_K : Nat → Nat) (h_A1 : Nat) (n_A1 : Nat) (c_hasSnapshot : Int) (T : TV) (K : KV) (fA1 : Nat → Int) (sz : Nat) (res : Int) (h : f_Lw_isTree n_A1 T K fA1 = some res) : zMz l yL_isTree cL_isTree 9 rm_Lw_isTree D (zt cI cZ cT) [.ref h_R, .ref h_A1] ((zRt h_R h_T hc_R hp_R h_K hx_R hh_R hs_R c_hasSnapshot) ++ (zTr cI h_T q_T T) ++ (zWk cI h_K q_K K) ++ (zAr cI h_A1 n_A1 fA1)) sz (res) (fun u => (zRt h_R h_T hc_R hp_R h_K hx_R hh_R hs_R c_hasSnapshot) ++ (zTr cI h_T q_T T) ++ (zWk cI h_K q_K K) ++ (zAr cI h_A1 n_A1 fA1)) 0 0 := by
  refine z_enth (Qc := zQi D (res) (fun u => (zRt h_R h_T hc_R hp_R h_K hx_R hh_R hs_R c_hasSnapshot) ++ (zTr cI h_T q_T T) ++ (zWk cI h_K q_K K) ++ (zAr cI h_A1 n_A1 fA1))) (by decide) (Nat.le_of_ble_eq_true rfl) (fun p e s m args below meth c A ls H locs hF hP hD hS hl => ?_)
  have hx := hF.1.1
  have hb := hF.1.2.1
  have hml := hF.1.2.2.1
  have hown : s.vm.findClass "RectangleTreeLaw" = some m.cls := hF.1.2.2.2.1
  have hts := hF.1.2.2.2.2
  have hr := hF.2.1
  have hlk := hF.2.2.1
  have hK := hF.2.2.2.2.1
  have hN := hF.2.2.2.2.2.1
  have hA := hF.2.2.2.2.2.2
  unfold f_Lw_isTree at h
  refine lv_aload_n hx hb dL_isTree_0 rfl (lv_at hl 0 rfl) ?_
  obtain ⟨r_1, e_2, h⟩ := bd1_e h
  refine z_goi (ws' := []) (ret := r_1) (wc := (zRt (h_R) (h_T) (hc_R) (hp_R) (h_K) (hx_R) (hh_R) (hs_R) (c_hasSnapshot)) ++ (zWk cI (h_K) (q_K) (K))) (wn := fun u_3 => (zRt h_R h_T hc_R hp_R h_K hx_R hh_R hs_R c_hasSnapshot) ++ (zTr cI h_T q_T T) ++ (zWk cI h_K q_K K) ++ (zAr cI h_A1 n_A1 fA1)) (wr := ([1, 2, 3, 4, 5, 6, 10].filterMap (fun i => ((zRt h_R h_T hc_R hp_R h_K hx_R hh_R hs_R c_hasSnapshot) ++ (zTr cI h_T q_T T) ++ (zWk cI h_K q_K K) ++ (zAr cI h_A1 n_A1 fA1))[i]?))) (va_runV (As := []) (rest := []) hF.1 (c_Rt_nodes l D cI cZ cT h_R h_T hc_R hp_R h_K hx_R hh_R hs_R q_K c_hasSnapshot K H.size (r_1) e_2) (cwV 0 hts (zgV wm280 wm281 wm282 wm32 wm283) rfl rfl rfl (by decide +kernel) ⟨Nat.le_of_ble_eq_true rfl, Nat.le_of_ble_eq_true rfl⟩) ⟨zP.blind, va_recv hK (z_subP (ws' := (zRt (h_R) (h_T) (hc_R) (hp_R) (h_K) (hx_R) (hh_R) (hs_R) (c_hasSnapshot)) ++ (zWk cI (h_K) (q_K) (K))) hP [0, 7, 8, 9] rfl) (ci := 6) (q0 := 0) rfl rfl, zP.enter (z_subP (ws' := (zRt (h_R) (h_T) (hc_R) (hp_R) (h_K) (hx_R) (hh_R) (hs_R) (c_hasSnapshot)) ++ (zWk cI (h_K) (q_K) (K))) hP [0, 7, 8, 9] rfl) hK (hD.sub [0, 7, 8, 9] (by decide) rfl) hN⟩ rfl rfl hl.1 rfl (lv_room (Nat.le_of_ble_eq_true rfl)) dL_isTree_1 ⟨Nat.le_refl _, Nat.le_refl _⟩) hP hD hS hA [0, 7, 8, 9] [1, 2, 3, 4, 5, 6, 10] [7, 0, 1, 2, 3, 4, 5, 8, 9, 10, 6] rfl rfl (by decide) (fun _ => rfl) (fun u_3 H locs hP hD hS hz => ?_)
  refine lv_istore_n (lv' := [(2, vI r_1), (0, .ref h_R), (1, .ref h_A1)]) hx hb dL_isTree_4 rfl hl (by decide) rfl (fun ls hl => ?_)
  refine lv_aload_n hx hb dL_isTree_5 rfl (lv_at hl 2 rfl) ?_
  obtain ⟨r_4, e_5, h⟩ := bd1_e h
  refine z_goi (ws' := []) (ret := r_4) (wc := (zAr cI (h_A1) (n_A1) (fA1))) (wn := fun u_6 => (zRt h_R h_T hc_R hp_R h_K hx_R hh_R hs_R c_hasSnapshot) ++ (zTr cI h_T q_T T) ++ (zWk cI h_K q_K K) ++ (zAr cI h_A1 n_A1 fA1)) (wr := ([0, 1, 2, 3, 4, 5, 6, 7, 8, 9].filterMap (fun i => ((zRt h_R h_T hc_R hp_R h_K hx_R hh_R hs_R c_hasSnapshot) ++ (zTr cI h_T q_T T) ++ (zWk cI h_K q_K K) ++ (zAr cI h_A1 n_A1 fA1))[i]?))) (va_runS (As := [.ref h_A1]) (rest := []) hF.1 (c_Lw_many l D cI cZ cT h_A1 n_A1 fA1 H.size (r_4) e_5) (va_cwS 1 hts (zgS wm284 wm285 wm31 wm286) rfl rfl rfl (by decide +kernel) ⟨Nat.le_of_ble_eq_true rfl, Nat.le_of_ble_eq_true rfl⟩) ⟨zP.blind, zP.enter (z_subP (ws' := (zAr cI (h_A1) (n_A1) (fA1))) hP [10] rfl) hK (hD.sub [10] (by decide) rfl) hN⟩ rfl rfl hl.1 rfl (lv_room (Nat.le_of_ble_eq_true rfl)) dL_isTree_6 ⟨Nat.le_refl _, Nat.le_refl _⟩) hP hD hS hA [10] [0, 1, 2, 3, 4, 5, 6, 7, 8, 9] [0, 1, 2, 3, 4, 5, 6, 7, 8, 9, 10] rfl rfl (by decide) (fun _ => rfl) (fun u_6 H locs hP hD hS hz => ?_)
  refine lv_istore_n (lv' := [(3, vI r_4), (2, vI r_1), (0, .ref h_R), (1, .ref h_A1)]) hx hb dL_isTree_9 rfl hl (by decide) rfl (fun ls hl => ?_)
  refine lv_iconst (v := Int32.ofInt 0) hx hb dL_isTree_10 rfl ?_
  refine lv_istore (lv' := [(4, vI 0), (3, vI r_4), (2, vI r_1), (0, .ref h_R), (1, .ref h_A1)]) hx hb dL_isTree_11 hl (by decide) rfl (fun ls hl => ?_)
  refine lv_iload_n hx hb dL_isTree_13 rfl (lv_at hl 2 rfl) ?_
  refine lv_iconst (v := Int32.ofInt 1) hx hb dL_isTree_14 rfl ?_
  obtain ⟨g_7, h⟩ := gd_e h
  refine z_icmp_lt (tgt := 85) hx hb g_7 (by decide) dL_isTree_15 (by decide) (fun b_8 => ?_) (fun b_8 => ?_)
  · have h := it_p b_8 h
    refine lv_iconst (v := Int32.ofInt 0) hx hb dL_isTree_85 rfl ?_
    obtain rfl := Option.some.inj h
    exact z_zret hx hb hr hlk (by decide) (fun _ _ => 0) hP hD hS dL_isTree_86
  · have h := it_n b_8 h
    refine lv_iload_n hx hb dL_isTree_18 rfl (lv_at hl 2 rfl) ?_
    refine lv_sipush (v := Int32.ofInt 400) hx hb dL_isTree_19 (by decide +kernel) ?_
    refine z_icmp_gt (tgt := 85) hx hb g_7 (by decide) dL_isTree_22 (by decide) (fun b_9 => ?_) (fun b_9 => ?_)
    · have h := it_p b_9 h
      refine lv_iconst (v := Int32.ofInt 0) hx hb dL_isTree_85 rfl ?_
      obtain rfl := Option.some.inj h
      exact z_zret hx hb hr hlk (by decide) (fun _ _ => 0) hP hD hS dL_isTree_86
    · have h := it_n b_9 h
      refine lv_aload_n hx hb dL_isTree_25 rfl (lv_at hl 3 rfl) ?_
      refine lv_iconst (v := Int32.ofInt 0) hx hb dL_isTree_26 rfl ?_
      obtain ⟨r_10, e_11, h⟩ := bd1_e h
      refine z_goi (ws' := []) (ret := r_10) (wc := (zRt (h_R) (h_T) (hc_R) (hp_R) (h_K) (hx_R) (hh_R) (hs_R) (c_hasSnapshot)) ++ (zTr cI (h_T) (q_T) (T)) ++ (zWk cI (h_K) (q_K) (K))) (wn := fun u_12 => (zRt h_R h_T hc_R hp_R h_K hx_R hh_R hs_R c_hasSnapshot) ++ (zTr cI h_T q_T T) ++ (zWk cI h_K q_K K) ++ (zAr cI h_A1 n_A1 fA1)) (wr := ([10].filterMap (fun i => ((zRt h_R h_T hc_R hp_R h_K hx_R hh_R hs_R c_hasSnapshot) ++ (zTr cI h_T q_T T) ++ (zWk cI h_K q_K K) ++ (zAr cI h_A1 n_A1 fA1))[i]?))) (va_runV (As := [vI 0]) (rest := []) hF.1 (c_Rt_level l D cI cZ cT h_R h_T hc_R hp_R h_K hx_R hh_R hs_R q_T q_K c_hasSnapshot T K 0 H.size (r_10) e_11) (cwV 1 hts (zgV wm287 wm288 wm289 wm32 wm290) rfl rfl rfl (by decide +kernel) ⟨Nat.le_of_ble_eq_true rfl, Nat.le_of_ble_eq_true rfl⟩) ⟨zP.blind, va_recv hK (z_subP (ws' := (zRt (h_R) (h_T) (hc_R) (hp_R) (h_K) (hx_R) (hh_R) (hs_R) (c_hasSnapshot)) ++ (zTr cI (h_T) (q_T) (T)) ++ (zWk cI (h_K) (q_K) (K))) hP [0, 1, 2, 3, 4, 5, 6, 7, 8, 9] rfl) (ci := 6) (q0 := 0) rfl rfl, zP.enter (z_subP (ws' := (zRt (h_R) (h_T) (hc_R) (hp_R) (h_K) (hx_R) (hh_R) (hs_R) (c_hasSnapshot)) ++ (zTr cI (h_T) (q_T) (T)) ++ (zWk cI (h_K) (q_K) (K))) hP [0, 1, 2, 3, 4, 5, 6, 7, 8, 9] rfl) hK (hD.sub [0, 1, 2, 3, 4, 5, 6, 7, 8, 9] (by decide) rfl) hN⟩ rfl rfl hl.1 rfl (lv_room (Nat.le_of_ble_eq_true rfl)) dL_isTree_27 ⟨Nat.le_refl _, Nat.le_refl _⟩) hP hD hS hA [0, 1, 2, 3, 4, 5, 6, 7, 8, 9] [10] [1, 2, 3, 4, 5, 6, 7, 8, 9, 10, 0] rfl rfl (by decide) (fun _ => rfl) (fun u_12 H locs hP hD hS hz => ?_)
      refine lv_aload_n hx hb dL_isTree_30 rfl (lv_at hl 3 rfl) ?_
      obtain ⟨r_13, e_14, h⟩ := bd1_e h
      refine z_goi (ws' := []) (ret := r_13) (wc := (zRt (h_R) (h_T) (hc_R) (hp_R) (h_K) (hx_R) (hh_R) (hs_R) (c_hasSnapshot)) ++ (zTr cI (h_T) (q_T) (T))) (wn := fun u_15 => (zRt h_R h_T hc_R hp_R h_K hx_R hh_R hs_R c_hasSnapshot) ++ (zTr cI h_T q_T T) ++ (zWk cI h_K q_K K) ++ (zAr cI h_A1 n_A1 fA1)) (wr := ([7, 8, 9, 10].filterMap (fun i => ((zRt h_R h_T hc_R hp_R h_K hx_R hh_R hs_R c_hasSnapshot) ++ (zTr cI h_T q_T T) ++ (zWk cI h_K q_K K) ++ (zAr cI h_A1 n_A1 fA1))[i]?))) (va_runV (As := []) (rest := [vI r_10]) hF.1 (c_Rt_height l D cI cZ cT h_R h_T hc_R hp_R h_K hx_R hh_R hs_R q_T c_hasSnapshot T H.size (r_13) e_14) (cwV 0 hts (zgV wm304 wm305 wm306 wm32 wm307) rfl rfl rfl (by decide +kernel) ⟨Nat.le_of_ble_eq_true rfl, Nat.le_of_ble_eq_true rfl⟩) ⟨zP.blind, va_recv hK (z_subP (ws' := (zRt (h_R) (h_T) (hc_R) (hp_R) (h_K) (hx_R) (hh_R) (hs_R) (c_hasSnapshot)) ++ (zTr cI (h_T) (q_T) (T))) hP [0, 1, 2, 3, 4, 5, 6] rfl) (ci := 6) (q0 := 0) rfl rfl, zP.enter (z_subP (ws' := (zRt (h_R) (h_T) (hc_R) (hp_R) (h_K) (hx_R) (hh_R) (hs_R) (c_hasSnapshot)) ++ (zTr cI (h_T) (q_T) (T))) hP [0, 1, 2, 3, 4, 5, 6] rfl) hK (hD.sub [0, 1, 2, 3, 4, 5, 6] (by decide) rfl) hN⟩ rfl rfl hl.1 rfl (lv_room (Nat.le_of_ble_eq_true rfl)) dL_isTree_31 ⟨Nat.le_refl _, Nat.le_refl _⟩) hP hD hS hA [0, 1, 2, 3, 4, 5, 6] [7, 8, 9, 10] [4, 5, 6, 7, 8, 9, 10, 0, 1, 2, 3] rfl rfl (by decide) (fun _ => rfl) (fun u_15 H locs hP hD hS hz => ?_)
      obtain ⟨g_16, h⟩ := gd_e h
      obtain ⟨g_17, h⟩ := gd_e h
      refine z_icmp_ne (tgt := 85) hx hb g_16 g_17 dL_isTree_34 (by decide) (fun b_18 => ?_) (fun b_18 => ?_)
      · have h := it_n b_18 h
        refine lv_iconst (v := Int32.ofInt 0) hx hb dL_isTree_85 rfl ?_
        obtain rfl := Option.some.inj h
        exact z_zret hx hb hr hlk (by decide) (fun _ _ => 0) hP hD hS dL_isTree_86
      · have h := it_p b_18 h
        refine lv_aload_n hx hb dL_isTree_37 rfl (lv_at hl 3 rfl) ?_
        refine lv_iload_n hx hb dL_isTree_38 rfl (lv_at hl 2 rfl) ?_
        obtain ⟨r_19, e_20, h⟩ := bd1_e h
        refine z_goi (ws' := []) (ret := r_19) (wc := (zRt (h_R) (h_T) (hc_R) (hp_R) (h_K) (hx_R) (hh_R) (hs_R) (c_hasSnapshot)) ++ (zTr cI (h_T) (q_T) (T)) ++ (zWk cI (h_K) (q_K) (K))) (wn := fun u_21 => (zRt h_R h_T hc_R hp_R h_K hx_R hh_R hs_R c_hasSnapshot) ++ (zTr cI h_T q_T T) ++ (zWk cI h_K q_K K) ++ (zAr cI h_A1 n_A1 fA1)) (wr := ([10].filterMap (fun i => ((zRt h_R h_T hc_R hp_R h_K hx_R hh_R hs_R c_hasSnapshot) ++ (zTr cI h_T q_T T) ++ (zWk cI h_K q_K K) ++ (zAr cI h_A1 n_A1 fA1))[i]?))) (va_runV (As := [vI r_1]) (rest := []) hF.1 (c_Rt_level l D cI cZ cT h_R h_T hc_R hp_R h_K hx_R hh_R hs_R q_T q_K c_hasSnapshot T K r_1 H.size (r_19) e_20) (cwV 1 hts (zgV wm287 wm288 wm289 wm32 wm290) rfl rfl rfl (by decide +kernel) ⟨Nat.le_of_ble_eq_true rfl, Nat.le_of_ble_eq_true rfl⟩) ⟨zP.blind, va_recv hK (z_subP (ws' := (zRt (h_R) (h_T) (hc_R) (hp_R) (h_K) (hx_R) (hh_R) (hs_R) (c_hasSnapshot)) ++ (zTr cI (h_T) (q_T) (T)) ++ (zWk cI (h_K) (q_K) (K))) hP [0, 1, 2, 3, 4, 5, 6, 7, 8, 9] rfl) (ci := 6) (q0 := 0) rfl rfl, zP.enter (z_subP (ws' := (zRt (h_R) (h_T) (hc_R) (hp_R) (h_K) (hx_R) (hh_R) (hs_R) (c_hasSnapshot)) ++ (zTr cI (h_T) (q_T) (T)) ++ (zWk cI (h_K) (q_K) (K))) hP [0, 1, 2, 3, 4, 5, 6, 7, 8, 9] rfl) hK (hD.sub [0, 1, 2, 3, 4, 5, 6, 7, 8, 9] (by decide) rfl) hN⟩ rfl rfl hl.1 rfl (lv_room (Nat.le_of_ble_eq_true rfl)) dL_isTree_39 ⟨Nat.le_refl _, Nat.le_refl _⟩) hP hD hS hA [0, 1, 2, 3, 4, 5, 6, 7, 8, 9] [10] [1, 2, 3, 4, 5, 6, 7, 8, 9, 10, 0] rfl rfl (by decide) (fun _ => rfl) (fun u_21 H locs hP hD hS hz => ?_)
        refine lv_iconst (v := Int32.ofInt (-1)) hx hb dL_isTree_42 rfl ?_
        obtain ⟨g_22, h⟩ := gd_e h
        refine z_icmp_ne (tgt := 85) hx hb g_22 (by decide) dL_isTree_43 (by decide) (fun b_23 => ?_) (fun b_23 => ?_)
        · have h := it_n b_23 h
          refine lv_iconst (v := Int32.ofInt 0) hx hb dL_isTree_85 rfl ?_
          obtain rfl := Option.some.inj h
          exact z_zret hx hb hr hlk (by decide) (fun _ _ => 0) hP hD hS dL_isTree_86
        · have h := it_p b_23 h
          refine lv_aload_n hx hb dL_isTree_46 rfl (lv_at hl 3 rfl) ?_
          refine lv_iconst (v := Int32.ofInt (-1)) hx hb dL_isTree_47 rfl ?_
          obtain ⟨r_24, e_25, h⟩ := bd1_e h
          refine z_goi (ws' := []) (ret := r_24) (wc := (zRt (h_R) (h_T) (hc_R) (hp_R) (h_K) (hx_R) (hh_R) (hs_R) (c_hasSnapshot)) ++ (zTr cI (h_T) (q_T) (T)) ++ (zWk cI (h_K) (q_K) (K))) (wn := fun u_26 => (zRt h_R h_T hc_R hp_R h_K hx_R hh_R hs_R c_hasSnapshot) ++ (zTr cI h_T q_T T) ++ (zWk cI h_K q_K K) ++ (zAr cI h_A1 n_A1 fA1)) (wr := ([10].filterMap (fun i => ((zRt h_R h_T hc_R hp_R h_K hx_R hh_R hs_R c_hasSnapshot) ++ (zTr cI h_T q_T T) ++ (zWk cI h_K q_K K) ++ (zAr cI h_A1 n_A1 fA1))[i]?))) (va_runV (As := [vI (-1)]) (rest := []) hF.1 (c_Rt_level l D cI cZ cT h_R h_T hc_R hp_R h_K hx_R hh_R hs_R q_T q_K c_hasSnapshot T K (-1) H.size (r_24) e_25) (cwV 1 hts (zgV wm287 wm288 wm289 wm32 wm290) rfl rfl rfl (by decide +kernel) ⟨Nat.le_of_ble_eq_true rfl, Nat.le_of_ble_eq_true rfl⟩) ⟨zP.blind, va_recv hK (z_subP (ws' := (zRt (h_R) (h_T) (hc_R) (hp_R) (h_K) (hx_R) (hh_R) (hs_R) (c_hasSnapshot)) ++ (zTr cI (h_T) (q_T) (T)) ++ (zWk cI (h_K) (q_K) (K))) hP [0, 1, 2, 3, 4, 5, 6, 7, 8, 9] rfl) (ci := 6) (q0 := 0) rfl rfl, zP.enter (z_subP (ws' := (zRt (h_R) (h_T) (hc_R) (hp_R) (h_K) (hx_R) (hh_R) (hs_R) (c_hasSnapshot)) ++ (zTr cI (h_T) (q_T) (T)) ++ (zWk cI (h_K) (q_K) (K))) hP [0, 1, 2, 3, 4, 5, 6, 7, 8, 9] rfl) hK (hD.sub [0, 1, 2, 3, 4, 5, 6, 7, 8, 9] (by decide) rfl) hN⟩ rfl rfl hl.1 rfl (lv_room (Nat.le_of_ble_eq_true rfl)) dL_isTree_48 ⟨Nat.le_refl _, Nat.le_refl _⟩) hP hD hS hA [0, 1, 2, 3, 4, 5, 6, 7, 8, 9] [10] [1, 2, 3, 4, 5, 6, 7, 8, 9, 10, 0] rfl rfl (by decide) (fun _ => rfl) (fun u_26 H locs hP hD hS hz => ?_)
          refine lv_iconst (v := Int32.ofInt (-1)) hx hb dL_isTree_51 rfl ?_
          obtain ⟨g_27, h⟩ := gd_e h
          refine z_icmp_ne (tgt := 85) hx hb g_27 (by decide) dL_isTree_52 (by decide) (fun b_28 => ?_) (fun b_28 => ?_)
          · have h := it_n b_28 h
            refine lv_iconst (v := Int32.ofInt 0) hx hb dL_isTree_85 rfl ?_
            obtain rfl := Option.some.inj h
            exact z_zret hx hb hr hlk (by decide) (fun _ _ => 0) hP hD hS dL_isTree_86
          · have h := it_p b_28 h
            refine lv_aload_n hx hb dL_isTree_55 rfl (lv_at hl 3 rfl) ?_
            refine lv_iload_n hx hb dL_isTree_56 rfl (lv_at hl 2 rfl) ?_
            obtain ⟨r_29, e_30, h⟩ := bd1_e h
            refine z_goi (ws' := []) (ret := r_29) (wc := (zRt (h_R) (h_T) (hc_R) (hp_R) (h_K) (hx_R) (hh_R) (hs_R) (c_hasSnapshot)) ++ (zTr cI (h_T) (q_T) (T)) ++ (zWk cI (h_K) (q_K) (K))) (wn := fun u_31 => (zRt h_R h_T hc_R hp_R h_K hx_R hh_R hs_R c_hasSnapshot) ++ (zTr cI h_T q_T T) ++ (zWk cI h_K q_K K) ++ (zAr cI h_A1 n_A1 fA1)) (wr := ([10].filterMap (fun i => ((zRt h_R h_T hc_R hp_R h_K hx_R hh_R hs_R c_hasSnapshot) ++ (zTr cI h_T q_T T) ++ (zWk cI h_K q_K K) ++ (zAr cI h_A1 n_A1 fA1))[i]?))) (va_runV (As := [vI r_1]) (rest := []) hF.1 (c_Rt_entries l D cI cZ cT h_R h_T hc_R hp_R h_K hx_R hh_R hs_R q_T q_K c_hasSnapshot T K r_1 H.size (r_29) e_30) (cwV 1 hts (zgV wm308 wm309 wm310 wm32 wm311) rfl rfl rfl (by decide +kernel) ⟨Nat.le_of_ble_eq_true rfl, Nat.le_of_ble_eq_true rfl⟩) ⟨zP.blind, va_recv hK (z_subP (ws' := (zRt (h_R) (h_T) (hc_R) (hp_R) (h_K) (hx_R) (hh_R) (hs_R) (c_hasSnapshot)) ++ (zTr cI (h_T) (q_T) (T)) ++ (zWk cI (h_K) (q_K) (K))) hP [0, 1, 2, 3, 4, 5, 6, 7, 8, 9] rfl) (ci := 6) (q0 := 0) rfl rfl, zP.enter (z_subP (ws' := (zRt (h_R) (h_T) (hc_R) (hp_R) (h_K) (hx_R) (hh_R) (hs_R) (c_hasSnapshot)) ++ (zTr cI (h_T) (q_T) (T)) ++ (zWk cI (h_K) (q_K) (K))) hP [0, 1, 2, 3, 4, 5, 6, 7, 8, 9] rfl) hK (hD.sub [0, 1, 2, 3, 4, 5, 6, 7, 8, 9] (by decide) rfl) hN⟩ rfl rfl hl.1 rfl (lv_room (Nat.le_of_ble_eq_true rfl)) dL_isTree_57 ⟨Nat.le_refl _, Nat.le_refl _⟩) hP hD hS hA [0, 1, 2, 3, 4, 5, 6, 7, 8, 9] [10] [1, 2, 3, 4, 5, 6, 7, 8, 9, 10, 0] rfl rfl (by decide) (fun _ => rfl) (fun u_31 H locs hP hD hS hz => ?_)
            refine lv_iconst (v := Int32.ofInt (-1)) hx hb dL_isTree_60 rfl ?_
            obtain ⟨g_32, h⟩ := gd_e h
            refine z_icmp_ne (tgt := 85) hx hb g_32 (by decide) dL_isTree_61 (by decide) (fun b_33 => ?_) (fun b_33 => ?_)
            · have h := it_n b_33 h
              refine lv_iconst (v := Int32.ofInt 0) hx hb dL_isTree_85 rfl ?_
              obtain rfl := Option.some.inj h
              exact z_zret hx hb hr hlk (by decide) (fun _ _ => 0) hP hD hS dL_isTree_86
            · have h := it_p b_33 h
              refine lv_aload_n hx hb dL_isTree_64 rfl (lv_at hl 3 rfl) ?_
              refine lv_iload_n hx hb dL_isTree_65 rfl (lv_at hl 2 rfl) ?_
              refine lv_iconst (v := Int32.ofInt 4) hx hb dL_isTree_66 rfl ?_
              obtain ⟨r_34, e_35, h⟩ := bd1_e h
              refine z_goi (ws' := []) (ret := r_34) (wc := (zRt (h_R) (h_T) (hc_R) (hp_R) (h_K) (hx_R) (hh_R) (hs_R) (c_hasSnapshot)) ++ (zTr cI (h_T) (q_T) (T)) ++ (zWk cI (h_K) (q_K) (K))) (wn := fun u_36 => (zRt h_R h_T hc_R hp_R h_K hx_R hh_R hs_R c_hasSnapshot) ++ (zTr cI h_T q_T T) ++ (zWk cI h_K q_K K) ++ (zAr cI h_A1 n_A1 fA1)) (wr := ([10].filterMap (fun i => ((zRt h_R h_T hc_R hp_R h_K hx_R hh_R hs_R c_hasSnapshot) ++ (zTr cI h_T q_T T) ++ (zWk cI h_K q_K K) ++ (zAr cI h_A1 n_A1 fA1))[i]?))) (va_runV (As := [vI r_1, vI 4]) (rest := []) hF.1 (c_Rt_bound l D cI cZ cT h_R h_T hc_R hp_R h_K hx_R hh_R hs_R q_T q_K c_hasSnapshot T K r_1 4 H.size (r_34) e_35) (cwV 2 hts (zgV wm313 wm314 wm315 wm32 wm316) rfl rfl rfl (by decide +kernel) ⟨Nat.le_of_ble_eq_true rfl, Nat.le_of_ble_eq_true rfl⟩) ⟨zP.blind, va_recv hK (z_subP (ws' := (zRt (h_R) (h_T) (hc_R) (hp_R) (h_K) (hx_R) (hh_R) (hs_R) (c_hasSnapshot)) ++ (zTr cI (h_T) (q_T) (T)) ++ (zWk cI (h_K) (q_K) (K))) hP [0, 1, 2, 3, 4, 5, 6, 7, 8, 9] rfl) (ci := 6) (q0 := 0) rfl rfl, zP.enter (z_subP (ws' := (zRt (h_R) (h_T) (hc_R) (hp_R) (h_K) (hx_R) (hh_R) (hs_R) (c_hasSnapshot)) ++ (zTr cI (h_T) (q_T) (T)) ++ (zWk cI (h_K) (q_K) (K))) hP [0, 1, 2, 3, 4, 5, 6, 7, 8, 9] rfl) hK (hD.sub [0, 1, 2, 3, 4, 5, 6, 7, 8, 9] (by decide) rfl) hN⟩ rfl rfl hl.1 rfl (lv_room (Nat.le_of_ble_eq_true rfl)) dL_isTree_67 ⟨Nat.le_refl _, Nat.le_refl _⟩) hP hD hS hA [0, 1, 2, 3, 4, 5, 6, 7, 8, 9] [10] [1, 2, 3, 4, 5, 6, 7, 8, 9, 10, 0] rfl rfl (by decide) (fun _ => rfl) (fun u_36 H locs hP hD hS hz => ?_)
              refine lv_iconst (v := Int32.ofInt (-1)) hx hb dL_isTree_70 rfl ?_
              obtain ⟨g_37, h⟩ := gd_e h
              refine z_icmp_ne (tgt := 85) hx hb g_37 (by decide) dL_isTree_71 (by decide) (fun b_38 => ?_) (fun b_38 => ?_)
              · have h := it_n b_38 h
                refine lv_iconst (v := Int32.ofInt 0) hx hb dL_isTree_85 rfl ?_
                obtain rfl := Option.some.inj h
                exact z_zret hx hb hr hlk (by decide) (fun _ _ => 0) hP hD hS dL_isTree_86
              · have h := it_p b_38 h
                refine lv_aload_n hx hb dL_isTree_74 rfl (lv_at hl 3 rfl) ?_
                refine lv_iconst (v := Int32.ofInt 0) hx hb dL_isTree_75 rfl ?_
                refine lv_iconst (v := Int32.ofInt 4) hx hb dL_isTree_76 rfl ?_
                obtain ⟨r_39, e_40, h⟩ := bd1_e h
                refine z_goi (ws' := []) (ret := r_39) (wc := (zRt (h_R) (h_T) (hc_R) (hp_R) (h_K) (hx_R) (hh_R) (hs_R) (c_hasSnapshot)) ++ (zTr cI (h_T) (q_T) (T)) ++ (zWk cI (h_K) (q_K) (K))) (wn := fun u_41 => (zRt h_R h_T hc_R hp_R h_K hx_R hh_R hs_R c_hasSnapshot) ++ (zTr cI h_T q_T T) ++ (zWk cI h_K q_K K) ++ (zAr cI h_A1 n_A1 fA1)) (wr := ([10].filterMap (fun i => ((zRt h_R h_T hc_R hp_R h_K hx_R hh_R hs_R c_hasSnapshot) ++ (zTr cI h_T q_T T) ++ (zWk cI h_K q_K K) ++ (zAr cI h_A1 n_A1 fA1))[i]?))) (va_runV (As := [vI 0, vI 4]) (rest := []) hF.1 (c_Rt_bound l D cI cZ cT h_R h_T hc_R hp_R h_K hx_R hh_R hs_R q_T q_K c_hasSnapshot T K 0 4 H.size (r_39) e_40) (cwV 2 hts (zgV wm313 wm314 wm315 wm32 wm316) rfl rfl rfl (by decide +kernel) ⟨Nat.le_of_ble_eq_true rfl, Nat.le_of_ble_eq_true rfl⟩) ⟨zP.blind, va_recv hK (z_subP (ws' := (zRt (h_R) (h_T) (hc_R) (hp_R) (h_K) (hx_R) (hh_R) (hs_R) (c_hasSnapshot)) ++ (zTr cI (h_T) (q_T) (T)) ++ (zWk cI (h_K) (q_K) (K))) hP [0, 1, 2, 3, 4, 5, 6, 7, 8, 9] rfl) (ci := 6) (q0 := 0) rfl rfl, zP.enter (z_subP (ws' := (zRt (h_R) (h_T) (hc_R) (hp_R) (h_K) (hx_R) (hh_R) (hs_R) (c_hasSnapshot)) ++ (zTr cI (h_T) (q_T) (T)) ++ (zWk cI (h_K) (q_K) (K))) hP [0, 1, 2, 3, 4, 5, 6, 7, 8, 9] rfl) hK (hD.sub [0, 1, 2, 3, 4, 5, 6, 7, 8, 9] (by decide) rfl) hN⟩ rfl rfl hl.1 rfl (lv_room (Nat.le_of_ble_eq_true rfl)) dL_isTree_77 ⟨Nat.le_refl _, Nat.le_refl _⟩) hP hD hS hA [0, 1, 2, 3, 4, 5, 6, 7, 8, 9] [10] [1, 2, 3, 4, 5, 6, 7, 8, 9, 10, 0] rfl rfl (by decide) (fun _ => rfl) (fun u_41 H locs hP hD hS hz => ?_)
                refine lv_bipush (v := Int32.ofInt (-2)) hx hb dL_isTree_80 (by decide +kernel) ?_
                obtain ⟨g_42, h⟩ := gd_e h
                refine z_icmp_eq (tgt := 87) hx hb g_42 (by decide) dL_isTree_82 (by decide) (fun b_43 => ?_) (fun b_43 => ?_)
                · have h := it_p b_43 h
                  refine lv_iconst (v := Int32.ofInt 0) hx hb dL_isTree_87 rfl ?_
                  refine lv_istore (lv' := [(5, vI 0), (4, vI 0), (3, vI r_4), (2, vI r_1), (0, .ref h_R), (1, .ref h_A1)]) hx hb dL_isTree_88 hl (by decide) rfl (fun ls hl => ?_)
                  refine w_Lw_isTree_L90 D cI cZ cT (h_R) (h_T) (hc_R) (hp_R) (h_K) (hx_R) (hh_R) (hs_R) (q_T) (q_K) (h_A1) (n_A1) (c_hasSnapshot) (T) (K) (fA1) (r_1) (r_4) _ _ hF (fun x4_102 x5_103 H locs ls h hP hD hS hl => ?_) _ (0) (0) _ _ _ h hP hD hS (lv_sub hl [4, 5, 3, 2, 1, 0] rfl)
                  refine w_Lw_isTree_L255 D cI cZ cT (h_R) (h_T) (hc_R) (hp_R) (h_K) (hx_R) (hh_R) (hs_R) (q_T) (q_K) (h_A1) (n_A1) (c_hasSnapshot) (T) (K) (fA1) (r_1) (r_4) (x4_102) _ _ hF (fun x5_124 H locs ls h hP hD hS hl => ?_) _ (0) _ _ _ h hP hD hS (lv_sub hl [0, 1, 2, 3, 4] rfl)
                  refine lv_iconst (v := Int32.ofInt 0) hx hb dL_isTree_299 rfl ?_
                  refine lv_istore (lv' := [(6, vI 0), (0, .ref h_R), (1, .ref h_A1), (2, vI r_1), (3, vI r_4), (4, vI x4_102), (5, vI x5_124)]) hx hb dL_isTree_300 hl (by decide) rfl (fun ls hl => ?_)
                  refine w_Lw_isTree_L302 D cI cZ cT (h_R) (h_T) (hc_R) (hp_R) (h_K) (hx_R) (hh_R) (hs_R) (q_T) (q_K) (h_A1) (n_A1) (c_hasSnapshot) (T) (K) (fA1) (r_1) (r_4) (x4_102) _ _ hF (fun x5_162 x6_163 H locs ls h hP hD hS hl => ?_) _ (x5_124) (0) _ _ _ h hP hD hS (lv_sub hl [1, 2, 3, 4, 5, 6, 0] rfl)
                  refine lv_iload hx hb dL_isTree_415 (lv_at hl 3 rfl) ?_
                  obtain ⟨g_164, h⟩ := gd_e h
                  refine z_if_eq (tgt := 447) hx hb g_164 dL_isTree_417 (by decide) (fun b_165 => ?_) (fun b_165 => ?_)
                  · have h := it_p b_165 h
                    refine lv_iconst (v := Int32.ofInt 0) hx hb dL_isTree_447 rfl ?_
                    obtain rfl := Option.some.inj h
                    exact z_zret hx hb hr hlk (by decide) (fun _ _ => 0) hP hD hS dL_isTree_448
                  · have h := it_n b_165 h
                    refine lv_aload_n hx hb dL_isTree_420 rfl (lv_at hl 0 rfl) ?_
                    obtain ⟨r_166, e_167, h⟩ := bd1_e h
                    refine z_gof (ret := r_166) (wc := (zRt (h_R) (h_T) (hc_R) (hp_R) (h_K) (hx_R) (hh_R) (hs_R) (c_hasSnapshot)) ++ (zTr cI (h_T) (q_T) (T)) ++ (zWk cI (h_K) (q_K) (K))) (wn := fun u_168 => (zRt h_R h_T hc_R hp_R h_K hx_R hh_R hs_R c_hasSnapshot) ++ (zTr cI h_T q_T T) ++ (zWk cI h_K q_K K) ++ (zAr cI h_A1 n_A1 fA1)) (wr := ([10].filterMap (fun i => ((zRt h_R h_T hc_R hp_R h_K hx_R hh_R hs_R c_hasSnapshot) ++ (zTr cI h_T q_T T) ++ (zWk cI h_K q_K K) ++ (zAr cI h_A1 n_A1 fA1))[i]?))) (va_runV (As := []) (rest := []) hF.1 (c_Rt_fill l D cI cZ cT h_R h_T hc_R hp_R h_K hx_R hh_R hs_R q_T q_K c_hasSnapshot T K H.size (r_166) e_167) (cwV 0 hts (zgV wm364 wm365 wm366 wm32 wm367) rfl rfl rfl (by decide +kernel) ⟨Nat.le_of_ble_eq_true rfl, Nat.le_of_ble_eq_true rfl⟩) ⟨zP.blind, va_recv hK (z_subP (ws' := (zRt (h_R) (h_T) (hc_R) (hp_R) (h_K) (hx_R) (hh_R) (hs_R) (c_hasSnapshot)) ++ (zTr cI (h_T) (q_T) (T)) ++ (zWk cI (h_K) (q_K) (K))) hP [0, 1, 2, 3, 4, 5, 6, 7, 8, 9] rfl) (ci := 6) (q0 := 0) rfl rfl, zP.enter (z_subP (ws' := (zRt (h_R) (h_T) (hc_R) (hp_R) (h_K) (hx_R) (hh_R) (hs_R) (c_hasSnapshot)) ++ (zTr cI (h_T) (q_T) (T)) ++ (zWk cI (h_K) (q_K) (K))) hP [0, 1, 2, 3, 4, 5, 6, 7, 8, 9] rfl) hK (hD.sub [0, 1, 2, 3, 4, 5, 6, 7, 8, 9] (by decide) rfl) hN⟩ rfl rfl hl.1 rfl (lv_room (Nat.le_of_ble_eq_true rfl)) dL_isTree_421 ⟨Nat.le_refl _, Nat.le_refl _⟩) hP hD hS hA [0, 1, 2, 3, 4, 5, 6, 7, 8, 9] [10] [1, 2, 3, 4, 5, 6, 7, 8, 9, 10, 0] rfl rfl (by decide) (fun _ => rfl) (fun u_168 H locs hP hD hS hz => ?_)
                    refine lv_iload_n hx hb dL_isTree_424 rfl (lv_at hl 1 rfl) ?_
                    refine lv_iconst (v := Int32.ofInt 1) hx hb dL_isTree_425 rfl ?_
                    refine z_isub hx hb dL_isTree_426 ?_
                    refine lv_iload_n hx hb dL_isTree_427 rfl (lv_at hl 2 rfl) ?_
                    refine z_iadd hx hb dL_isTree_428 ?_
                    refine lv_i2f hx hb dL_isTree_429 ?_
                    refine lv_iload_n hx hb dL_isTree_430 rfl (lv_at hl 1 rfl) ?_
                    refine lv_aload_n hx hb dL_isTree_431 rfl (lv_at hl 0 rfl) ?_
                    refine lv_iconst (v := Int32.ofInt 0) hx hb dL_isTree_432 rfl ?_
                    obtain ⟨r_169, e_170, h⟩ := bd1_e h
                    refine z_goi (ws' := []) (ret := r_169) (wc := (zRt (h_R) (h_T) (hc_R) (hp_R) (h_K) (hx_R) (hh_R) (hs_R) (c_hasSnapshot)) ++ (zTr cI (h_T) (q_T) (T))) (wn := fun u_171 => (zRt h_R h_T hc_R hp_R h_K hx_R hh_R hs_R c_hasSnapshot) ++ (zTr cI h_T q_T T) ++ (zWk cI h_K q_K K) ++ (zAr cI h_A1 n_A1 fA1)) (wr := ([7, 8, 9, 10].filterMap (fun i => ((zRt h_R h_T hc_R hp_R h_K hx_R hh_R hs_R c_hasSnapshot) ++ (zTr cI h_T q_T T) ++ (zWk cI h_K q_K K) ++ (zAr cI h_A1 n_A1 fA1))[i]?))) (va_runV (As := [vI 0]) (rest := [vI r_1, .float (FP.i2f (Int32.ofInt ((r_1 - 1) + r_4))), .float r_166]) hF.1 (c_Rt_setting l D cI cZ cT h_R h_T hc_R hp_R h_K hx_R hh_R hs_R q_T c_hasSnapshot T 0 H.size (r_169) e_170) (cwV 1 hts (zgV wm368 wm369 wm370 wm32 wm371) rfl rfl rfl (by decide +kernel) ⟨Nat.le_of_ble_eq_true rfl, Nat.le_of_ble_eq_true rfl⟩) ⟨zP.blind, va_recv hK (z_subP (ws' := (zRt (h_R) (h_T) (hc_R) (hp_R) (h_K) (hx_R) (hh_R) (hs_R) (c_hasSnapshot)) ++ (zTr cI (h_T) (q_T) (T))) hP [0, 1, 2, 3, 4, 5, 6] rfl) (ci := 6) (q0 := 0) rfl rfl, zP.enter (z_subP (ws' := (zRt (h_R) (h_T) (hc_R) (hp_R) (h_K) (hx_R) (hh_R) (hs_R) (c_hasSnapshot)) ++ (zTr cI (h_T) (q_T) (T))) hP [0, 1, 2, 3, 4, 5, 6] rfl) hK (hD.sub [0, 1, 2, 3, 4, 5, 6] (by decide) rfl) hN⟩ rfl rfl hl.1 rfl (lv_room (Nat.le_of_ble_eq_true rfl)) dL_isTree_433 ⟨Nat.le_refl _, Nat.le_refl _⟩) hP hD hS hA [0, 1, 2, 3, 4, 5, 6] [7, 8, 9, 10] [4, 5, 6, 7, 8, 9, 10, 0, 1, 2, 3] rfl rfl (by decide) (fun _ => rfl) (fun u_171 H locs hP hD hS hz => ?_)
                    refine z_imul hx hb dL_isTree_436 ?_
                    refine lv_i2f hx hb dL_isTree_437 ?_
                    obtain ⟨g_172, h⟩ := gd_e h
                    refine lv_fdiv hx hb dL_isTree_438 g_172 ?_
                    refine z_fcmpl hx hb dL_isTree_439 ?_
                    refine z_if_ne (tgt := 447) hx hb (ck_of32 _) dL_isTree_440 (by decide) (fun b_173 => ?_) (fun b_173 => ?_)
                    · have h := it_n b_173 h
                      refine lv_iconst (v := Int32.ofInt 0) hx hb dL_isTree_447 rfl ?_
                      obtain rfl := Option.some.inj h
                      exact z_zret hx hb hr hlk (by decide) (fun _ _ => 0) hP hD hS dL_isTree_448
                    · have h := it_p b_173 h
                      refine lv_iconst (v := Int32.ofInt 1) hx hb dL_isTree_443 rfl ?_
                      refine lv_goto (tgt := 448) hx hb dL_isTree_444 (by decide) ?_
                      obtain rfl := Option.some.inj h
                      exact z_zret hx hb hr hlk (by decide) (fun _ _ => 0) hP hD hS dL_isTree_448
                · have h := it_n b_43 h
                  refine lv_iconst (v := Int32.ofInt 0) hx hb dL_isTree_85 rfl ?_
                  obtain rfl := Option.some.inj h
                  exact z_zret hx hb hr hlk (by decide) (fun _ _ => 0) hP hD hS dL_isTree_86
