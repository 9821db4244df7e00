def f_Ch_splitNode_L113 (x1 : Int) (x3 : Int) (k : Int → (Nat → Int) → Int → TV → Option (Int × (Nat → Int) × Int × TV)) : Nat → Int → (Nat → Int) → Int → TV → Option (Int × (Nat → Int) × Int × TV)
  | 0, _, _, _, _ => none
  | n + 1, x5, c_pool, c_left, T =>
  gd (ck c_left) <| if 0 < c_left then (gd (ck x5) <| if x5 < 6 then (bd1 (f_Tr_sizeOf T x1) <| fun r_48 => bd1 (f_Tr_least T) <| fun r_51 => gd (ck (r_48 + c_left)) <| gd (ck r_51) <| if r_51 < (r_48 + c_left) then (bd1 (f_Tr_sizeOf T x3) <| fun r_57 => bd1 (f_Tr_least T) <| fun r_60 => gd (ck (r_57 + c_left)) <| gd (ck r_60) <| if r_60 < (r_57 + c_left) then (bd1 (f_Ch_mostDecided c_pool c_left T x1 x3) <| fun r_66 => bd1 (f_Rt_at 6 c_pool r_66) <| fun r_69 => bd1 (f_Ch_betterGroup T x1 x3 r_69) <| fun r_72 => bd3 (f_Ch_giveTo c_pool c_left T r_72 r_66) <| fun c_pool_75 c_left_76 T_77 => f_Ch_splitNode_L113 x1 x3 k n ((x5 + 1)) (c_pool_75) (c_left_76) (T_77)) else (bd2 (f_Ch_giveAllTo c_pool c_left T x3) <| fun c_left_81 T_82 => f_Ch_splitNode_L113 x1 x3 k n ((x5 + 1)) (c_pool) (c_left_81) (T_82))) else (bd2 (f_Ch_giveAllTo c_pool c_left T x1) <| fun c_left_86 T_87 => f_Ch_splitNode_L113 x1 x3 k n ((x5 + 1)) (c_pool) (c_left_86) (T_87))) else (k (x5) (c_pool) (c_left) (T))) else (k (x5) (c_pool) (c_left) (T))
def f_Ch_splitNode (c_pool : Nat → Int) (c_left : Int) (T : TV) (x1 : Int) : Option (Int × (Nat → Int) × Int × TV) :=
  gd (ck x1) <| gd (ck (tRoot T)) <| if x1 = (tRoot T) then (bd2 (f_Tr_raiseRoot T) <| fun r_99 T_100 => bd1 (f_Tr_levelOf T_100 x1) <| fun r_104 => bd2 (f_Tr_newNode T_100 r_104) <| fun r_107 T_108 => gd (ck r_99) <| if r_99 = (-1) then (some ((-1), c_pool, c_left, T_108)) else (gd (ck r_107) <| if r_107 = (-1) then (some ((-1), c_pool, c_left, T_108)) else (bd2 (f_Ch_fillPool c_pool (sSpl T_108 ((tSpl T_108) + 1)) x1) <| fun c_pool_116 c_left_117 => bd1 (f_Ch_findSeeds c_pool_116 c_left_117 (sSpl T_108 ((tSpl T_108) + 1))) <| fun r_120 => bd1 (f_Tr_makeListEmpty (sSpl T_108 ((tSpl T_108) + 1)) x1) <| fun T_123 => gd (((0 : Int) ≤ r_120 ∧ r_120 ≤ 2147483647) ∧ (0 : Int) < 6 ∧ (6 : Int) ≤ 2147483647) <| bd3 (f_Ch_giveTo c_pool_116 c_left_117 T_123 r_107 (r_120 % 6)) <| fun c_pool_128 c_left_129 T_130 => gd (((0 : Int) ≤ r_120 ∧ r_120 ≤ 2147483647) ∧ (0 : Int) < 6 ∧ (6 : Int) ≤ 2147483647) <| bd3 (f_Ch_giveTo c_pool_128 c_left_129 T_130 x1 (r_120 / 6)) <| fun c_pool_135 c_left_136 T_137 => f_Ch_splitNode_L113 (x1) (r_107) (fun x5_141 c_pool_142 c_left_143 T_144 => bd1 (f_Tr_addBehind T_144 r_99 x1 r_107) <| fun T_145 => some (r_99, c_pool_142, c_left_143, T_145)) FU (0) (c_pool_135) (c_left_136) (T_137)))) else (bd1 (f_Tr_holderOf T x1) <| fun r_4 => bd1 (f_Tr_levelOf T x1) <| fun r_7 => bd2 (f_Tr_newNode T r_7) <| fun r_10 T_11 => gd (ck r_4) <| if r_4 = (-1) then (some ((-1), c_pool, c_left, T_11)) else (gd (ck r_10) <| if r_10 = (-1) then (some ((-1), c_pool, c_left, T_11)) else (bd2 (f_Ch_fillPool c_pool (sSpl T_11 ((tSpl T_11) + 1)) x1) <| fun c_pool_19 c_left_20 => bd1 (f_Ch_findSeeds c_pool_19 c_left_20 (sSpl T_11 ((tSpl T_11) + 1))) <| fun r_23 => bd1 (f_Tr_makeListEmpty (sSpl T_11 ((tSpl T_11) + 1)) x1) <| fun T_26 => gd (((0 : Int) ≤ r_23 ∧ r_23 ≤ 2147483647) ∧ (0 : Int) < 6 ∧ (6 : Int) ≤ 2147483647) <| bd3 (f_Ch_giveTo c_pool_19 c_left_20 T_26 r_10 (r_23 % 6)) <| fun c_pool_31 c_left_32 T_33 => gd (((0 : Int) ≤ r_23 ∧ r_23 ≤ 2147483647) ∧ (0 : Int) < 6 ∧ (6 : Int) ≤ 2147483647) <| bd3 (f_Ch_giveTo c_pool_31 c_left_32 T_33 x1 (r_23 / 6)) <| fun c_pool_38 c_left_39 T_40 => f_Ch_splitNode_L113 (x1) (r_10) (fun x5_91 c_pool_92 c_left_93 T_94 => bd1 (f_Tr_addBehind T_94 r_4 x1 r_10) <| fun T_95 => some (r_4, c_pool_92, c_left_93, T_95)) FU (0) (c_pool_38) (c_left_39) (T_40))))
abbrev rm_Ch_splitNode : Room := ({ frames := 4, cells := 0, slots := 0, locals := 105 } : Room)
theorem mo_Ch_splitNode_L113 (x1 : Int) (x3 : Int) (res : Int × (Nat → Int) × Int × TV) (k : Int → (Nat → Int) → Int → TV → Option (Int × (Nat → Int) × Int × TV)) (hkm : ∀ (x5 : Int) (c_pool : Nat → Int) (c_left : Int) (T : TV) , k x5 c_pool c_left T = some res → (tR T) ≤ (tR (res.2.2.2))) : ∀ (n : Nat) (x5 : Int) (c_pool : Nat → Int) (c_left : Int) (T : TV) , f_Ch_splitNode_L113 x1 x3 k n x5 c_pool c_left T = some res → (tR T) ≤ (tR (res.2.2.2)) := by
  intro n
  induction n with
  | zero => intro x5 c_pool c_left T h; cases h
  | succ n ihm =>
    intro x5 c_pool c_left T h
    rw [f_Ch_splitNode_L113] at h
    obtain ⟨g_44, h⟩ := gd_e h
    rcases it_e h with ⟨_, h⟩ | ⟨_, h⟩
    · obtain ⟨g_46, h⟩ := gd_e h
      rcases it_e h with ⟨_, h⟩ | ⟨_, h⟩
      · obtain ⟨r_48, e_49, h⟩ := bd1_e h
        obtain ⟨r_51, e_52, h⟩ := bd1_e h
        obtain ⟨g_54, h⟩ := gd_e h
        obtain ⟨g_55, h⟩ := gd_e h
        rcases it_e h with ⟨_, h⟩ | ⟨_, h⟩
        · obtain ⟨r_57, e_58, h⟩ := bd1_e h
          obtain ⟨r_60, e_61, h⟩ := bd1_e h
          obtain ⟨g_63, h⟩ := gd_e h
          obtain ⟨g_64, h⟩ := gd_e h
          rcases it_e h with ⟨_, h⟩ | ⟨_, h⟩
          · obtain ⟨r_66, e_67, h⟩ := bd1_e h
            obtain ⟨r_69, e_70, h⟩ := bd1_e h
            obtain ⟨r_72, e_73, h⟩ := bd1_e h
            obtain ⟨c_pool_75, c_left_76, T_77, e_78, h⟩ := bd3_e h
            have mo_80 : (tR T) ≤ (tR T_77) := mo_Ch_giveTo c_pool c_left T r_72 r_66 (c_pool_75, c_left_76, T_77) e_78
            have mo9 : (tR T_77) ≤ (tR (res.2.2.2)) := ihm ((x5 + 1)) (c_pool_75) (c_left_76) (T_77) h
            exact (show (tR T) ≤ (tR (res.2.2.2)) from by omega)
          · obtain ⟨c_left_81, T_82, e_83, h⟩ := bd2_e h
            have mo_85 : (tR T) ≤ (tR T_82) := mo_Ch_giveAllTo c_pool c_left T x3 (c_left_81, T_82) e_83
            have mo9 : (tR T_82) ≤ (tR (res.2.2.2)) := ihm ((x5 + 1)) (c_pool) (c_left_81) (T_82) h
            exact (show (tR T) ≤ (tR (res.2.2.2)) from by omega)
        · obtain ⟨c_left_86, T_87, e_88, h⟩ := bd2_e h
          have mo_90 : (tR T) ≤ (tR T_87) := mo_Ch_giveAllTo c_pool c_left T x1 (c_left_86, T_87) e_88
          have mo9 : (tR T_87) ≤ (tR (res.2.2.2)) := ihm ((x5 + 1)) (c_pool) (c_left_86) (T_87) h
          exact (show (tR T) ≤ (tR (res.2.2.2)) from by omega)
      · have mo9 : (tR T) ≤ (tR (res.2.2.2)) := hkm (x5) (c_pool) (c_left) (T) h
        exact (show (tR T) ≤ (tR (res.2.2.2)) from by omega)
    · have mo9 : (tR T) ≤ (tR (res.2.2.2)) := hkm (x5) (c_pool) (c_left) (T) h
      exact (show (tR T) ≤ (tR (res.2.2.2)) from by omega)
theorem mo_Ch_splitNode (c_pool : Nat → Int) (c_left : Int) (T : TV) (x1 : Int) (res : Int × (Nat → Int) × Int × TV) (h : f_Ch_splitNode c_pool c_left T x1 = some res) : (tR T) ≤ (tR (res.2.2.2)) := by
  unfold f_Ch_splitNode at h
  obtain ⟨g_1, h⟩ := gd_e h
  obtain ⟨g_2, h⟩ := gd_e h
  rcases it_e h with ⟨_, h⟩ | ⟨_, h⟩
  · obtain ⟨r_99, T_100, e_101, h⟩ := bd2_e h
    have mo_103 : (tR T) ≤ (tR T_100) := mo_Tr_raiseRoot T (r_99, T_100) e_101
    obtain ⟨r_104, e_105, h⟩ := bd1_e h
    obtain ⟨r_107, T_108, e_109, h⟩ := bd2_e h
    have mo_111 : (tR T_100) ≤ (tR T_108) := mo_Tr_newNode T_100 r_104 (r_107, T_108) e_109
    obtain ⟨g_112, h⟩ := gd_e h
    rcases it_e h with ⟨_, h⟩ | ⟨_, h⟩
    · obtain rfl := Option.some.inj h
      exact (show (tR T) ≤ (tR T_108) from by omega)
    · obtain ⟨g_114, h⟩ := gd_e h
      rcases it_e h with ⟨_, h⟩ | ⟨_, h⟩
      · obtain rfl := Option.some.inj h
        exact (show (tR T) ≤ (tR T_108) from by omega)
      · obtain ⟨c_pool_116, c_left_117, e_118, h⟩ := bd2_e h
        obtain ⟨r_120, e_121, h⟩ := bd1_e h
        obtain ⟨T_123, e_124, h⟩ := bd1_e h
        have mo_126 : (tR T_108) ≤ (tR T_123) := mo_Tr_makeListEmpty (sSpl T_108 ((tSpl T_108) + 1)) x1 (T_123) e_124
        obtain ⟨g_127, h⟩ := gd_e h
        obtain ⟨c_pool_128, c_left_129, T_130, e_131, h⟩ := bd3_e h
        have mo_133 : (tR T_123) ≤ (tR T_130) := mo_Ch_giveTo c_pool_116 c_left_117 T_123 r_107 (r_120 % 6) (c_pool_128, c_left_129, T_130) e_131
        obtain ⟨g_134, h⟩ := gd_e h
        obtain ⟨c_pool_135, c_left_136, T_137, e_138, h⟩ := bd3_e h
        have mo_140 : (tR T_130) ≤ (tR T_137) := mo_Ch_giveTo c_pool_128 c_left_129 T_130 x1 (r_120 / 6) (c_pool_135, c_left_136, T_137) e_138
        have mo9 : (tR T_137) ≤ (tR (res.2.2.2)) := mo_Ch_splitNode_L113 (x1) (r_107) _ _ (fun x5_141 c_pool_142 c_left_143 T_144 h => by
            obtain ⟨T_145, e_146, h⟩ := bd1_e h
            have mo_148 : (tR T_144) ≤ (tR T_145) := mo_Tr_addBehind T_144 r_99 x1 r_107 (T_145) e_146
            obtain rfl := Option.some.inj h
            exact (show (tR T_144) ≤ (tR T_145) from by omega)) _ (0) (c_pool_135) (c_left_136) (T_137) h
        exact (show (tR T) ≤ (tR (res.2.2.2)) from by omega)
  · obtain ⟨r_4, e_5, h⟩ := bd1_e h
    obtain ⟨r_7, e_8, h⟩ := bd1_e h
    obtain ⟨r_10, T_11, e_12, h⟩ := bd2_e h
    have mo_14 : (tR T) ≤ (tR T_11) := mo_Tr_newNode T r_7 (r_10, T_11) e_12
    obtain ⟨g_15, h⟩ := gd_e h
    rcases it_e h with ⟨_, h⟩ | ⟨_, h⟩
    · obtain rfl := Option.some.inj h
      exact (show (tR T) ≤ (tR T_11) from by omega)
    · obtain ⟨g_17, h⟩ := gd_e h
      rcases it_e h with ⟨_, h⟩ | ⟨_, h⟩
      · obtain rfl := Option.some.inj h
        exact (show (tR T) ≤ (tR T_11) from by omega)
      · obtain ⟨c_pool_19, c_left_20, e_21, h⟩ := bd2_e h
        obtain ⟨r_23, e_24, h⟩ := bd1_e h
        obtain ⟨T_26, e_27, h⟩ := bd1_e h
        have mo_29 : (tR T_11) ≤ (tR T_26) := mo_Tr_makeListEmpty (sSpl T_11 ((tSpl T_11) + 1)) x1 (T_26) e_27
        obtain ⟨g_30, h⟩ := gd_e h
        obtain ⟨c_pool_31, c_left_32, T_33, e_34, h⟩ := bd3_e h
        have mo_36 : (tR T_26) ≤ (tR T_33) := mo_Ch_giveTo c_pool_19 c_left_20 T_26 r_10 (r_23 % 6) (c_pool_31, c_left_32, T_33) e_34
        obtain ⟨g_37, h⟩ := gd_e h
        obtain ⟨c_pool_38, c_left_39, T_40, e_41, h⟩ := bd3_e h
        have mo_43 : (tR T_33) ≤ (tR T_40) := mo_Ch_giveTo c_pool_31 c_left_32 T_33 x1 (r_23 / 6) (c_pool_38, c_left_39, T_40) e_41
        have mo9 : (tR T_40) ≤ (tR (res.2.2.2)) := mo_Ch_splitNode_L113 (x1) (r_10) _ _ (fun x5_91 c_pool_92 c_left_93 T_94 h => by
            obtain ⟨T_95, e_96, h⟩ := bd1_e h
            have mo_98 : (tR T_94) ≤ (tR T_95) := mo_Tr_addBehind T_94 r_4 x1 r_10 (T_95) e_96
            obtain rfl := Option.some.inj h
            exact (show (tR T_94) ≤ (tR T_95) from by omega)) _ (0) (c_pool_38) (c_left_39) (T_40) h
        exact (show (tR T) ≤ (tR (res.2.2.2)) from by omega)
set_option maxHeartbeats 4000000 in
set_option maxRecDepth 100000 in
theorem w_Ch_splitNode_L113 {p : Program} {l : Launch} {e : Env} {s : State} {m : MethodId} {args : Array Value} {below : List Frame} {meth : Method} {c : Code} {A : Nat → Prop} (D : va_G) (cI cZ cT : ClassId) (h_C : Nat) (q_C : Nat → Nat) (h_T : Nat) (h_LB : Nat) (h_LN : Nat) (q_T : Nat → Nat) (q_LB : Nat → Nat) (q_LN : Nat → Nat) (c_kept : Nat → Int) (c_keptCount : Int) (c_treated : Int64) (LB : KV) (LN : KV) (x1 : Int) (x2 : Int) (x3 : Int) (res : Int × (Nat → Int) × Int × TV) (k : Int → (Nat → Int) → Int → TV → Option (Int × (Nat → Int) × Int × TV)) (hF : zF p m c cX0_splitNode 7 s args yX0_splitNode.cls meth (some .int) yX0_splitNode.name A D (zt cI cZ cT))
    (hk : ∀ (x5 : Int) (c_pool : Nat → Int) (c_left : Int) (T : TV) (H : Heap) (locs : List Loc) (ls : Array Slot), k x5 c_pool c_left T = some res → va_P D vwCl ((zCh cI h_C q_C h_T h_LB h_LN c_kept c_keptCount c_pool c_left c_treated) ++ (zTr cI h_T q_T T) ++ (zWk cI h_LB q_LB LB) ++ (zWk cI h_LN q_LN LN)) H → va_D A ((zCh cI h_C q_C h_T h_LB h_LN c_kept c_keptCount c_pool c_left c_treated) ++ (zTr cI h_T q_T T) ++ (zWk cI h_LB q_LB LB) ++ (zWk cI h_LN q_LN LN)) → va_S A s.heap H locs → lv_has ls 7 [(0, .ref h_C), (1, vI x1), (2, vI x2), (3, vI x3)] → W p l e rm_Ch_splitNode s m args below meth c H locs 0 0 (MQ below (zQi D (res.1) (fun u => (zCh cI h_C q_C h_T h_LB h_LN c_kept c_keptCount (res.2.1) (res.2.2.1) c_treated) ++ (zTr cI h_T q_T (res.2.2.2)) ++ (zWk cI h_LB q_LB LB) ++ (zWk cI h_LN q_LN LN)) A) args s 0 0 A) (F0 m 224 ls [])) :
    ∀ (n : Nat) (x5 : Int) (c_pool : Nat → Int) (c_left : Int) (T : TV) (H : Heap) (locs : List Loc) (ls : Array Slot), f_Ch_splitNode_L113 x1 x3 k n x5 c_pool c_left T = some res → va_P D vwCl ((zCh cI h_C q_C h_T h_LB h_LN c_kept c_keptCount c_pool c_left c_treated) ++ (zTr cI h_T q_T T) ++ (zWk cI h_LB q_LB LB) ++ (zWk cI h_LN q_LN LN)) H → va_D A ((zCh cI h_C q_C h_T h_LB h_LN c_kept c_keptCount c_pool c_left c_treated) ++ (zTr cI h_T q_T T) ++ (zWk cI h_LB q_LB LB) ++ (zWk cI h_LN q_LN LN)) → va_S A s.heap H locs → lv_has ls 7 [(0, .ref h_C), (1, vI x1), (2, vI x2), (3, vI x3), (5, vI x5)] → W p l e rm_Ch_splitNode s m args below meth c H locs 0 0 (MQ below (zQi D (res.1) (fun u => (zCh cI h_C q_C h_T h_LB h_LN c_kept c_keptCount (res.2.1) (res.2.2.1) c_treated) ++ (zTr cI h_T q_T (res.2.2.2)) ++ (zWk cI h_LB q_LB LB) ++ (zWk cI h_LN q_LN LN)) A) args s 0 0 A) (F0 m 113 ls []) := by
  have hx := hF.1.1
  have hb := hF.1.2.1
  have hml := hF.1.2.2.1
  have hown : s.vm.findClass "RectangleTree$Changes" = some m.cls := hF.1.2.2.2.1
  have hts := hF.1.2.2.2.2
  have hr := hF.2.1
  have hlk := hF.2.2.1
  have hK := hF.2.2.2.2.1
  have hN := hF.2.2.2.2.2.1
  have hA := hF.2.2.2.2.2.2
  intro n
  induction n with
  | zero => intro x5 c_pool c_left T  H locs ls h; cases h
  | succ n ih =>
    intro x5 c_pool c_left T  H locs ls h  hP hD hS hl
    rw [f_Ch_splitNode_L113] at h
    refine lv_aload_n hx hb dX0_splitNode_113 rfl (lv_at hl 0 rfl) ?_
    refine va_get (D := D) (ci := 0) (v := vI c_left) (C := RX0) (T := TX0) (N := 8) hx hb hts zin0 hown hK hP 0 rfl rfl 4 (by decide) (hts _ wm136) (fun _ h9 => h9) rfl dX0_splitNode_114 ?_
    obtain ⟨g_44, h⟩ := gd_e h
    refine z_if_le (tgt := 224) hx hb g_44 dX0_splitNode_117 (by decide) (fun b_45 => ?_) (fun b_45 => ?_)
    · have h := it_n b_45 h
      exact hk (x5) (c_pool) (c_left) (T) H locs ls h hP hD hS (lv_sub hl [0, 1, 2, 3] rfl)
    · have h := it_p b_45 h
      refine lv_iload hx hb dX0_splitNode_120 (lv_at hl 4 rfl) ?_
      refine lv_bipush (v := Int32.ofInt 6) hx hb dX0_splitNode_122 (by decide +kernel) ?_
      obtain ⟨g_46, h⟩ := gd_e h
      refine z_icmp_ge (tgt := 224) hx hb g_46 (by decide) dX0_splitNode_124 (by decide) (fun b_47 => ?_) (fun b_47 => ?_)
      · have h := it_n b_47 h
        exact hk (x5) (c_pool) (c_left) (T) H locs ls h hP hD hS (lv_sub hl [0, 1, 2, 3] rfl)
      · have h := it_p b_47 h
        refine lv_aload_n hx hb dX0_splitNode_127 rfl (lv_at hl 0 rfl) ?_
        refine va_get (D := D) (ci := 0) (v := .ref h_T) (C := RX0) (T := TX0) (N := 8) hx hb hts zin0 hown hK hP 0 rfl rfl 0 (by decide) (hts _ wm132) (fun _ h9 => h9) rfl dX0_splitNode_128 ?_
        refine lv_iload_n hx hb dX0_splitNode_131 rfl (lv_at hl 1 rfl) ?_
        obtain ⟨r_48, e_49, h⟩ := bd1_e h
        refine z_goi (ws' := []) (ret := r_48) (wc := (zTr cI (h_T) (q_T) (T))) (wn := fun u_50 => (zCh cI h_C q_C h_T h_LB h_LN c_kept c_keptCount c_pool c_left c_treated) ++ (zTr cI h_T q_T T) ++ (zWk cI h_LB q_LB LB) ++ (zWk cI h_LN q_LN LN)) (wr := ([0, 1, 2, 9, 10, 11, 12, 13, 14].filterMap (fun i => ((zCh cI h_C q_C h_T h_LB h_LN c_kept c_keptCount c_pool c_left c_treated) ++ (zTr cI h_T q_T T) ++ (zWk cI h_LB q_LB LB) ++ (zWk cI h_LN q_LN LN))[i]?))) (va_runV (As := [vI x1]) (rest := []) hF.1 (c_Tr_sizeOf l D cI cZ cT h_T q_T T x1 H.size (r_48) e_49) (cwV 1 hts (zgV wm510 wm231 wm232 wm33 wm233) rfl rfl rfl (by decide +kernel) ⟨Nat.le_of_ble_eq_true rfl, Nat.le_of_ble_eq_true rfl⟩) ⟨zP.blind, va_recv hK (z_subP (ws' := (zTr cI (h_T) (q_T) (T))) hP [3, 4, 5, 6, 7, 8] rfl) (ci := 4) (q0 := 0) rfl rfl, zP.enter (z_subP (ws' := (zTr cI (h_T) (q_T) (T))) hP [3, 4, 5, 6, 7, 8] rfl) hK (hD.sub [3, 4, 5, 6, 7, 8] (by decide) rfl) hN⟩ rfl rfl hl.1 rfl (lv_room (Nat.le_of_ble_eq_true rfl)) dX0_splitNode_132 ⟨Nat.le_refl _, Nat.le_refl _⟩) hP hD hS hA [3, 4, 5, 6, 7, 8] [0, 1, 2, 9, 10, 11, 12, 13, 14] [0, 1, 2, 9, 10, 11, 12, 13, 14, 3, 4, 5, 6, 7, 8] rfl rfl (by decide) (fun _ => rfl) (fun u_50 H locs hP hD hS hz => ?_)
        refine lv_aload_n hx hb dX0_splitNode_135 rfl (lv_at hl 0 rfl) ?_
        refine va_get (D := D) (ci := 0) (v := vI c_left) (C := RX0) (T := TX0) (N := 8) hx hb hts zin0 hown hK hP 0 rfl rfl 4 (by decide) (hts _ wm136) (fun _ h9 => h9) rfl dX0_splitNode_136 ?_
        refine z_iadd hx hb dX0_splitNode_139 ?_
        refine lv_aload_n hx hb dX0_splitNode_140 rfl (lv_at hl 0 rfl) ?_
        refine va_get (D := D) (ci := 0) (v := .ref h_T) (C := RX0) (T := TX0) (N := 8) hx hb hts zin0 hown hK hP 0 rfl rfl 0 (by decide) (hts _ wm132) (fun _ h9 => h9) rfl dX0_splitNode_141 ?_
        obtain ⟨r_51, e_52, h⟩ := bd1_e h
        refine z_goi (ws' := []) (ret := r_51) (wc := (zTr cI (h_T) (q_T) (T))) (wn := fun u_53 => (zCh cI h_C q_C h_T h_LB h_LN c_kept c_keptCount c_pool c_left c_treated) ++ (zTr cI h_T q_T T) ++ (zWk cI h_LB q_LB LB) ++ (zWk cI h_LN q_LN LN)) (wr := ([0, 1, 2, 9, 10, 11, 12, 13, 14].filterMap (fun i => ((zCh cI h_C q_C h_T h_LB h_LN c_kept c_keptCount c_pool c_left c_treated) ++ (zTr cI h_T q_T T) ++ (zWk cI h_LB q_LB LB) ++ (zWk cI h_LN q_LN LN))[i]?))) (va_runV (As := []) (rest := [vI (r_48 + c_left)]) hF.1 (c_Tr_least l D cI cZ cT h_T q_T T H.size (r_51) e_52) (cwV 0 hts (zgV wm594 wm595 wm596 wm33 wm597) rfl rfl rfl (by decide +kernel) ⟨Nat.le_of_ble_eq_true rfl, Nat.le_of_ble_eq_true rfl⟩) ⟨zP.blind, va_recv hK (z_subP (ws' := (zTr cI (h_T) (q_T) (T))) hP [3, 4, 5, 6, 7, 8] rfl) (ci := 4) (q0 := 0) rfl rfl, zP.enter (z_subP (ws' := (zTr cI (h_T) (q_T) (T))) hP [3, 4, 5, 6, 7, 8] rfl) hK (hD.sub [3, 4, 5, 6, 7, 8] (by decide) rfl) hN⟩ rfl rfl hl.1 rfl (lv_room (Nat.le_of_ble_eq_true rfl)) dX0_splitNode_144 ⟨Nat.le_refl _, Nat.le_refl _⟩) hP hD hS hA [3, 4, 5, 6, 7, 8] [0, 1, 2, 9, 10, 11, 12, 13, 14] [0, 1, 2, 9, 10, 11, 12, 13, 14, 3, 4, 5, 6, 7, 8] rfl rfl (by decide) (fun _ => rfl) (fun u_53 H locs hP hD hS hz => ?_)
        obtain ⟨g_54, h⟩ := gd_e h
        obtain ⟨g_55, h⟩ := gd_e h
        refine z_icmp_gt (tgt := 158) hx hb g_54 g_55 dX0_splitNode_147 (by decide) (fun b_56 => ?_) (fun b_56 => ?_)
        · have h := it_p b_56 h
          refine lv_aload_n hx hb dX0_splitNode_158 rfl (lv_at hl 0 rfl) ?_
          refine va_get (D := D) (ci := 0) (v := .ref h_T) (C := RX0) (T := TX0) (N := 8) hx hb hts zin0 hown hK hP 0 rfl rfl 0 (by decide) (hts _ wm132) (fun _ h9 => h9) rfl dX0_splitNode_159 ?_
          refine lv_iload_n hx hb dX0_splitNode_162 rfl (lv_at hl 3 rfl) ?_
          obtain ⟨r_57, e_58, h⟩ := bd1_e h
          refine z_goi (ws' := []) (ret := r_57) (wc := (zTr cI (h_T) (q_T) (T))) (wn := fun u_59 => (zCh cI h_C q_C h_T h_LB h_LN c_kept c_keptCount c_pool c_left c_treated) ++ (zTr cI h_T q_T T) ++ (zWk cI h_LB q_LB LB) ++ (zWk cI h_LN q_LN LN)) (wr := ([0, 1, 2, 9, 10, 11, 12, 13, 14].filterMap (fun i => ((zCh cI h_C q_C h_T h_LB h_LN c_kept c_keptCount c_pool c_left c_treated) ++ (zTr cI h_T q_T T) ++ (zWk cI h_LB q_LB LB) ++ (zWk cI h_LN q_LN LN))[i]?))) (va_runV (As := [vI x3]) (rest := []) hF.1 (c_Tr_sizeOf l D cI cZ cT h_T q_T T x3 H.size (r_57) e_58) (cwV 1 hts (zgV wm510 wm231 wm232 wm33 wm233) rfl rfl rfl (by decide +kernel) ⟨Nat.le_of_ble_eq_true rfl, Nat.le_of_ble_eq_true rfl⟩) ⟨zP.blind, va_recv hK (z_subP (ws' := (zTr cI (h_T) (q_T) (T))) hP [3, 4, 5, 6, 7, 8] rfl) (ci := 4) (q0 := 0) rfl rfl, zP.enter (z_subP (ws' := (zTr cI (h_T) (q_T) (T))) hP [3, 4, 5, 6, 7, 8] rfl) hK (hD.sub [3, 4, 5, 6, 7, 8] (by decide) rfl) hN⟩ rfl rfl hl.1 rfl (lv_room (Nat.le_of_ble_eq_true rfl)) dX0_splitNode_163 ⟨Nat.le_refl _, Nat.le_refl _⟩) hP hD hS hA [3, 4, 5, 6, 7, 8] [0, 1, 2, 9, 10, 11, 12, 13, 14] [0, 1, 2, 9, 10, 11, 12, 13, 14, 3, 4, 5, 6, 7, 8] rfl rfl (by decide) (fun _ => rfl) (fun u_59 H locs hP hD hS hz => ?_)
          refine lv_aload_n hx hb dX0_splitNode_166 rfl (lv_at hl 0 rfl) ?_
          refine va_get (D := D) (ci := 0) (v := vI c_left) (C := RX0) (T := TX0) (N := 8) hx hb hts zin0 hown hK hP 0 rfl rfl 4 (by decide) (hts _ wm136) (fun _ h9 => h9) rfl dX0_splitNode_167 ?_
          refine z_iadd hx hb dX0_splitNode_170 ?_
          refine lv_aload_n hx hb dX0_splitNode_171 rfl (lv_at hl 0 rfl) ?_
          refine va_get (D := D) (ci := 0) (v := .ref h_T) (C := RX0) (T := TX0) (N := 8) hx hb hts zin0 hown hK hP 0 rfl rfl 0 (by decide) (hts _ wm132) (fun _ h9 => h9) rfl dX0_splitNode_172 ?_
          obtain ⟨r_60, e_61, h⟩ := bd1_e h
          refine z_goi (ws' := []) (ret := r_60) (wc := (zTr cI (h_T) (q_T) (T))) (wn := fun u_62 => (zCh cI h_C q_C h_T h_LB h_LN c_kept c_keptCount c_pool c_left c_treated) ++ (zTr cI h_T q_T T) ++ (zWk cI h_LB q_LB LB) ++ (zWk cI h_LN q_LN LN)) (wr := ([0, 1, 2, 9, 10, 11, 12, 13, 14].filterMap (fun i => ((zCh cI h_C q_C h_T h_LB h_LN c_kept c_keptCount c_pool c_left c_treated) ++ (zTr cI h_T q_T T) ++ (zWk cI h_LB q_LB LB) ++ (zWk cI h_LN q_LN LN))[i]?))) (va_runV (As := []) (rest := [vI (r_57 + c_left)]) hF.1 (c_Tr_least l D cI cZ cT h_T q_T T H.size (r_60) e_61) (cwV 0 hts (zgV wm594 wm595 wm596 wm33 wm597) rfl rfl rfl (by decide +kernel) ⟨Nat.le_of_ble_eq_true rfl, Nat.le_of_ble_eq_true rfl⟩) ⟨zP.blind, va_recv hK (z_subP (ws' := (zTr cI (h_T) (q_T) (T))) hP [3, 4, 5, 6, 7, 8] rfl) (ci := 4) (q0 := 0) rfl rfl, zP.enter (z_subP (ws' := (zTr cI (h_T) (q_T) (T))) hP [3, 4, 5, 6, 7, 8] rfl) hK (hD.sub [3, 4, 5, 6, 7, 8] (by decide) rfl) hN⟩ rfl rfl hl.1 rfl (lv_room (Nat.le_of_ble_eq_true rfl)) dX0_splitNode_175 ⟨Nat.le_refl _, Nat.le_refl _⟩) hP hD hS hA [3, 4, 5, 6, 7, 8] [0, 1, 2, 9, 10, 11, 12, 13, 14] [0, 1, 2, 9, 10, 11, 12, 13, 14, 3, 4, 5, 6, 7, 8] rfl rfl (by decide) (fun _ => rfl) (fun u_62 H locs hP hD hS hz => ?_)
          obtain ⟨g_63, h⟩ := gd_e h
          obtain ⟨g_64, h⟩ := gd_e h
          refine z_icmp_gt (tgt := 189) hx hb g_63 g_64 dX0_splitNode_178 (by decide) (fun b_65 => ?_) (fun b_65 => ?_)
          · have h := it_p b_65 h
            refine lv_aload_n hx hb dX0_splitNode_189 rfl (lv_at hl 0 rfl) ?_
            refine lv_iload_n hx hb dX0_splitNode_190 rfl (lv_at hl 1 rfl) ?_
            refine lv_iload_n hx hb dX0_splitNode_191 rfl (lv_at hl 3 rfl) ?_
            obtain ⟨r_66, e_67, h⟩ := bd1_e h
            refine z_goi (ws' := []) (ret := r_66) (wc := (zCh cI (h_C) (q_C) (h_T) (h_LB) (h_LN) (c_kept) (c_keptCount) (c_pool) (c_left) (c_treated)) ++ (zTr cI (h_T) (q_T) (T)) ++ (zWk cI (h_LB) (q_LB) (LB)) ++ (zWk cI (h_LN) (q_LN) (LN))) (wn := fun u_68 => (zCh cI h_C q_C h_T h_LB h_LN c_kept c_keptCount c_pool c_left c_treated) ++ (zTr cI h_T q_T T) ++ (zWk cI h_LB q_LB LB) ++ (zWk cI h_LN q_LN LN)) (wr := []) (va_runV (As := [vI x1, vI x3]) (rest := []) hF.1 (c_Ch_mostDecided l D cI cZ cT h_C q_C h_T h_LB h_LN q_T q_LB q_LN c_kept c_keptCount c_pool c_left c_treated T LB LN x1 x3 H.size (r_66) e_67) (cwV 2 hts (zgV wm602 wm604 wm20 wm35 wm605) rfl rfl rfl (by decide +kernel) ⟨Nat.le_of_ble_eq_true rfl, Nat.le_of_ble_eq_true rfl⟩) ⟨zP.blind, va_recv hK (z_subP (ws' := (zCh cI (h_C) (q_C) (h_T) (h_LB) (h_LN) (c_kept) (c_keptCount) (c_pool) (c_left) (c_treated)) ++ (zTr cI (h_T) (q_T) (T)) ++ (zWk cI (h_LB) (q_LB) (LB)) ++ (zWk cI (h_LN) (q_LN) (LN))) hP [0, 1, 2, 3, 4, 5, 6, 7, 8, 9, 10, 11, 12, 13, 14] rfl) (ci := 0) (q0 := 0) rfl rfl, zP.enter (z_subP (ws' := (zCh cI (h_C) (q_C) (h_T) (h_LB) (h_LN) (c_kept) (c_keptCount) (c_pool) (c_left) (c_treated)) ++ (zTr cI (h_T) (q_T) (T)) ++ (zWk cI (h_LB) (q_LB) (LB)) ++ (zWk cI (h_LN) (q_LN) (LN))) hP [0, 1, 2, 3, 4, 5, 6, 7, 8, 9, 10, 11, 12, 13, 14] rfl) hK (hD.sub [0, 1, 2, 3, 4, 5, 6, 7, 8, 9, 10, 11, 12, 13, 14] (by decide) rfl) hN⟩ rfl rfl hl.1 rfl (lv_room (Nat.le_of_ble_eq_true rfl)) dX0_splitNode_192 ⟨Nat.le_refl _, Nat.le_refl _⟩) hP hD hS hA [0, 1, 2, 3, 4, 5, 6, 7, 8, 9, 10, 11, 12, 13, 14] [] [0, 1, 2, 3, 4, 5, 6, 7, 8, 9, 10, 11, 12, 13, 14] rfl rfl (by decide) (fun _ => rfl) (fun u_68 H locs hP hD hS hz => ?_)
            refine lv_istore (lv' := [(6, vI r_66), (0, .ref h_C), (1, vI x1), (2, vI x2), (3, vI x3), (5, vI x5)]) hx hb dX0_splitNode_195 hl (by decide) rfl (fun ls hl => ?_)
            refine lv_aload_n hx hb dX0_splitNode_197 rfl (lv_at hl 1 rfl) ?_
            refine lv_aload_n hx hb dX0_splitNode_198 rfl (lv_at hl 1 rfl) ?_
            refine lv_iload_n hx hb dX0_splitNode_199 rfl (lv_at hl 2 rfl) ?_
            refine lv_iload_n hx hb dX0_splitNode_200 rfl (lv_at hl 4 rfl) ?_
            refine lv_aload_n hx hb dX0_splitNode_201 rfl (lv_at hl 1 rfl) ?_
            refine va_get (D := D) (ci := 0) (v := .ref (q_C 1)) (C := RX0) (T := TX0) (N := 8) hx hb hts zin0 hown hK hP 0 rfl rfl 3 (by decide) (hts _ wm135) (fun _ h9 => h9) rfl dX0_splitNode_202 ?_
            refine lv_iload hx hb dX0_splitNode_205 (lv_at hl 0 rfl) ?_
            obtain ⟨r_69, e_70, h⟩ := bd1_e h
            refine z_goi (ws' := []) (ret := r_69) (wc := (zAr cI ((q_C 1)) (6) (c_pool))) (wn := fun u_71 => (zCh cI h_C q_C h_T h_LB h_LN c_kept c_keptCount c_pool c_left c_treated) ++ (zTr cI h_T q_T T) ++ (zWk cI h_LB q_LB LB) ++ (zWk cI h_LN q_LN LN)) (wr := ([0, 1, 3, 4, 5, 6, 7, 8, 9, 10, 11, 12, 13, 14].filterMap (fun i => ((zCh cI h_C q_C h_T h_LB h_LN c_kept c_keptCount c_pool c_left c_treated) ++ (zTr cI h_T q_T T) ++ (zWk cI h_LB q_LB LB) ++ (zWk cI h_LN q_LN LN))[i]?))) (va_runSN (As := [.ref (q_C 1), vI r_66]) (rest := [vI x3, vI x1, .ref h_C, .ref h_C]) hF.1 (c_Rt_at l D cI cZ cT (q_C 1) 6 c_pool r_66 H.size (r_69) e_70) ⟨va_cnB 2 hts (zW_good wm229) rfl rfl rfl (hN.at 8 rfl) (hts _ wm32) (by decide +kernel) ⟨Nat.le_of_ble_eq_true rfl, Nat.le_of_ble_eq_true rfl⟩, hts _ wm228, trivial⟩ ⟨zP.blind, zP.enter (z_subP (ws' := (zAr cI ((q_C 1)) (6) (c_pool))) hP [2] rfl) hK (hD.sub [2] (by decide) rfl) hN⟩ rfl rfl hl.1 rfl (lv_room (Nat.le_of_ble_eq_true rfl)) dX0_splitNode_207 ⟨Nat.le_refl _, Nat.le_refl _⟩) hP hD hS hA [2] [0, 1, 3, 4, 5, 6, 7, 8, 9, 10, 11, 12, 13, 14] [0, 1, 14, 2, 3, 4, 5, 6, 7, 8, 9, 10, 11, 12, 13] rfl rfl (by decide) (fun _ => rfl) (fun u_71 H locs hP hD hS hz => ?_)
            obtain ⟨r_72, e_73, h⟩ := bd1_e h
            refine z_goi (ws' := []) (ret := r_72) (wc := (zCh cI (h_C) (q_C) (h_T) (h_LB) (h_LN) (c_kept) (c_keptCount) (c_pool) (c_left) (c_treated)) ++ (zTr cI (h_T) (q_T) (T)) ++ (zWk cI (h_LB) (q_LB) (LB)) ++ (zWk cI (h_LN) (q_LN) (LN))) (wn := fun u_74 => (zCh cI h_C q_C h_T h_LB h_LN c_kept c_keptCount c_pool c_left c_treated) ++ (zTr cI h_T q_T T) ++ (zWk cI h_LB q_LB LB) ++ (zWk cI h_LN q_LN LN)) (wr := []) (va_runV (As := [vI x1, vI x3, vI r_69]) (rest := [.ref h_C]) hF.1 (c_Ch_betterGroup l D cI cZ cT h_C q_C h_T h_LB h_LN q_T q_LB q_LN c_kept c_keptCount c_pool c_left c_treated T LB LN x1 x3 r_69 H.size (r_72) e_73) (cwV 3 hts (zgV wm615 wm617 wm21 wm35 wm618) rfl rfl rfl (by decide +kernel) ⟨Nat.le_of_ble_eq_true rfl, Nat.le_of_ble_eq_true rfl⟩) ⟨zP.blind, va_recv hK (z_subP (ws' := (zCh cI (h_C) (q_C) (h_T) (h_LB) (h_LN) (c_kept) (c_keptCount) (c_pool) (c_left) (c_treated)) ++ (zTr cI (h_T) (q_T) (T)) ++ (zWk cI (h_LB) (q_LB) (LB)) ++ (zWk cI (h_LN) (q_LN) (LN))) hP [0, 1, 2, 3, 4, 5, 6, 7, 8, 9, 10, 11, 12, 13, 14] rfl) (ci := 0) (q0 := 0) rfl rfl, zP.enter (z_subP (ws' := (zCh cI (h_C) (q_C) (h_T) (h_LB) (h_LN) (c_kept) (c_keptCount) (c_pool) (c_left) (c_treated)) ++ (zTr cI (h_T) (q_T) (T)) ++ (zWk cI (h_LB) (q_LB) (LB)) ++ (zWk cI (h_LN) (q_LN) (LN))) hP [0, 1, 2, 3, 4, 5, 6, 7, 8, 9, 10, 11, 12, 13, 14] rfl) hK (hD.sub [0, 1, 2, 3, 4, 5, 6, 7, 8, 9, 10, 11, 12, 13, 14] (by decide) rfl) hN⟩ rfl rfl hl.1 rfl (lv_room (Nat.le_of_ble_eq_true rfl)) dX0_splitNode_210 ⟨Nat.le_refl _, Nat.le_refl _⟩) hP hD hS hA [0, 1, 2, 3, 4, 5, 6, 7, 8, 9, 10, 11, 12, 13, 14] [] [0, 1, 2, 3, 4, 5, 6, 7, 8, 9, 10, 11, 12, 13, 14] rfl rfl (by decide) (fun _ => rfl) (fun u_74 H locs hP hD hS hz => ?_)
            refine lv_iload hx hb dX0_splitNode_213 (lv_at hl 0 rfl) ?_
            obtain ⟨c_pool_75, c_left_76, T_77, e_78, h⟩ := bd3_e h
            have mo_80 : (tR T) ≤ (tR T_77) := mo_Ch_giveTo c_pool c_left T r_72 r_66 (c_pool_75, c_left_76, T_77) e_78
            refine z_gov (wc := (zCh cI (h_C) (q_C) (h_T) (h_LB) (h_LN) (c_kept) (c_keptCount) (c_pool) (c_left) (c_treated)) ++ (zTr cI (h_T) (q_T) (T)) ++ (zWk cI (h_LB) (q_LB) (LB)) ++ (zWk cI (h_LN) (q_LN) (LN))) (wn := fun u_79 => (zCh cI h_C q_C h_T h_LB h_LN c_kept c_keptCount c_pool_75 c_left_76 c_treated) ++ (zTr cI h_T q_T T_77) ++ (zWk cI h_LB q_LB LB) ++ (zWk cI h_LN q_LN LN)) (wr := []) (va_runV (As := [vI r_72, vI r_66]) (rest := []) hF.1 (c_Ch_giveTo l D cI cZ cT h_C q_C h_T h_LB h_LN q_T q_LB q_LN c_kept c_keptCount c_pool c_left c_treated T LB LN r_72 r_66 H.size (c_pool_75, c_left_76, T_77) e_78) (cwV 2 hts (zgV wm589 wm591 wm18 wm35 wm592) rfl rfl rfl (by decide +kernel) ⟨Nat.le_of_ble_eq_true rfl, Nat.le_of_ble_eq_true rfl⟩) ⟨zP.blind, va_recv hK (z_subP (ws' := (zCh cI (h_C) (q_C) (h_T) (h_LB) (h_LN) (c_kept) (c_keptCount) (c_pool) (c_left) (c_treated)) ++ (zTr cI (h_T) (q_T) (T)) ++ (zWk cI (h_LB) (q_LB) (LB)) ++ (zWk cI (h_LN) (q_LN) (LN))) hP [0, 1, 2, 3, 4, 5, 6, 7, 8, 9, 10, 11, 12, 13, 14] rfl) (ci := 0) (q0 := 0) rfl rfl, zP.enter (z_subP (ws' := (zCh cI (h_C) (q_C) (h_T) (h_LB) (h_LN) (c_kept) (c_keptCount) (c_pool) (c_left) (c_treated)) ++ (zTr cI (h_T) (q_T) (T)) ++ (zWk cI (h_LB) (q_LB) (LB)) ++ (zWk cI (h_LN) (q_LN) (LN))) hP [0, 1, 2, 3, 4, 5, 6, 7, 8, 9, 10, 11, 12, 13, 14] rfl) hK (hD.sub [0, 1, 2, 3, 4, 5, 6, 7, 8, 9, 10, 11, 12, 13, 14] (by decide) rfl) hN⟩ rfl rfl hl.1 rfl (lv_room (Nat.le_of_ble_eq_true rfl)) dX0_splitNode_215 ⟨Nat.le_refl _, Nat.le_refl _⟩) hP hD hS hA [0, 1, 2, 3, 4, 5, 6, 7, 8, 9, 10, 11, 12, 13, 14] [] [0, 1, 2, 3, 4, 5, 6, 7, 8, 9, 10, 11, 12, 13, 14] rfl rfl (by decide) (fun _ => rfl) (fun u_79 H locs hP hD hS hz => ?_)
            refine lv_iinc (v := Int32.ofInt (x5 + 1)) (lv' := [(5, vI (x5 + 1)), (6, vI r_66), (0, .ref h_C), (1, vI x1), (2, vI x2), (3, vI x3)]) hx hb dX0_splitNode_218 hl (k := 5) rfl (z_inc _ _) (by decide) rfl (fun ls hl => ?_)
            refine lv_goto (tgt := 113) hx hb dX0_splitNode_221 (by decide) ?_
            exact ih ((x5 + 1)) (c_pool_75) (c_left_76) (T_77) H locs ls h hP hD hS (lv_sub hl [2, 3, 4, 5, 0] rfl)
          · have h := it_n b_65 h
            refine lv_aload_n hx hb dX0_splitNode_181 rfl (lv_at hl 0 rfl) ?_
            refine lv_iload_n hx hb dX0_splitNode_182 rfl (lv_at hl 3 rfl) ?_
            obtain ⟨c_left_81, T_82, e_83, h⟩ := bd2_e h
            have mo_85 : (tR T) ≤ (tR T_82) := mo_Ch_giveAllTo c_pool c_left T x3 (c_left_81, T_82) e_83
            refine z_gov (wc := (zCh cI (h_C) (q_C) (h_T) (h_LB) (h_LN) (c_kept) (c_keptCount) (c_pool) (c_left) (c_treated)) ++ (zTr cI (h_T) (q_T) (T)) ++ (zWk cI (h_LB) (q_LB) (LB)) ++ (zWk cI (h_LN) (q_LN) (LN))) (wn := fun u_84 => (zCh cI h_C q_C h_T h_LB h_LN c_kept c_keptCount c_pool c_left_81 c_treated) ++ (zTr cI h_T q_T T_82) ++ (zWk cI h_LB q_LB LB) ++ (zWk cI h_LN q_LN LN)) (wr := []) (va_runV (As := [vI x3]) (rest := []) hF.1 (c_Ch_giveAllTo l D cI cZ cT h_C q_C h_T h_LB h_LN q_T q_LB q_LN c_kept c_keptCount c_pool c_left c_treated T LB LN x3 H.size (c_left_81, T_82) e_83) (cwV 1 hts (zgV wm598 wm600 wm19 wm35 wm601) rfl rfl rfl (by decide +kernel) ⟨Nat.le_of_ble_eq_true rfl, Nat.le_of_ble_eq_true rfl⟩) ⟨zP.blind, va_recv hK (z_subP (ws' := (zCh cI (h_C) (q_C) (h_T) (h_LB) (h_LN) (c_kept) (c_keptCount) (c_pool) (c_left) (c_treated)) ++ (zTr cI (h_T) (q_T) (T)) ++ (zWk cI (h_LB) (q_LB) (LB)) ++ (zWk cI (h_LN) (q_LN) (LN))) hP [0, 1, 2, 3, 4, 5, 6, 7, 8, 9, 10, 11, 12, 13, 14] rfl) (ci := 0) (q0 := 0) rfl rfl, zP.enter (z_subP (ws' := (zCh cI (h_C) (q_C) (h_T) (h_LB) (h_LN) (c_kept) (c_keptCount) (c_pool) (c_left) (c_treated)) ++ (zTr cI (h_T) (q_T) (T)) ++ (zWk cI (h_LB) (q_LB) (LB)) ++ (zWk cI (h_LN) (q_LN) (LN))) hP [0, 1, 2, 3, 4, 5, 6, 7, 8, 9, 10, 11, 12, 13, 14] rfl) hK (hD.sub [0, 1, 2, 3, 4, 5, 6, 7, 8, 9, 10, 11, 12, 13, 14] (by decide) rfl) hN⟩ rfl rfl hl.1 rfl (lv_room (Nat.le_of_ble_eq_true rfl)) dX0_splitNode_183 ⟨Nat.le_refl _, Nat.le_refl _⟩) hP hD hS hA [0, 1, 2, 3, 4, 5, 6, 7, 8, 9, 10, 11, 12, 13, 14] [] [0, 1, 2, 3, 4, 5, 6, 7, 8, 9, 10, 11, 12, 13, 14] rfl rfl (by decide) (fun _ => rfl) (fun u_84 H locs hP hD hS hz => ?_)
            refine lv_goto (tgt := 218) hx hb dX0_splitNode_186 (by decide) ?_
            refine lv_iinc (v := Int32.ofInt (x5 + 1)) (lv' := [(5, vI (x5 + 1)), (0, .ref h_C), (1, vI x1), (2, vI x2), (3, vI x3)]) hx hb dX0_splitNode_218 hl (k := 4) rfl (z_inc _ _) (by decide) rfl (fun ls hl => ?_)
            refine lv_goto (tgt := 113) hx hb dX0_splitNode_221 (by decide) ?_
            exact ih ((x5 + 1)) (c_pool) (c_left_81) (T_82) H locs ls h hP hD hS (lv_sub hl [1, 2, 3, 4, 0] rfl)
        · have h := it_n b_56 h
          refine lv_aload_n hx hb dX0_splitNode_150 rfl (lv_at hl 0 rfl) ?_
          refine lv_iload_n hx hb dX0_splitNode_151 rfl (lv_at hl 1 rfl) ?_
          obtain ⟨c_left_86, T_87, e_88, h⟩ := bd2_e h
          have mo_90 : (tR T) ≤ (tR T_87) := mo_Ch_giveAllTo c_pool c_left T x1 (c_left_86, T_87) e_88
          refine z_gov (wc := (zCh cI (h_C) (q_C) (h_T) (h_LB) (h_LN) (c_kept) (c_keptCount) (c_pool) (c_left) (c_treated)) ++ (zTr cI (h_T) (q_T) (T)) ++ (zWk cI (h_LB) (q_LB) (LB)) ++ (zWk cI (h_LN) (q_LN) (LN))) (wn := fun u_89 => (zCh cI h_C q_C h_T h_LB h_LN c_kept c_keptCount c_pool c_left_86 c_treated) ++ (zTr cI h_T q_T T_87) ++ (zWk cI h_LB q_LB LB) ++ (zWk cI h_LN q_LN LN)) (wr := []) (va_runV (As := [vI x1]) (rest := []) hF.1 (c_Ch_giveAllTo l D cI cZ cT h_C q_C h_T h_LB h_LN q_T q_LB q_LN c_kept c_keptCount c_pool c_left c_treated T LB LN x1 H.size (c_left_86, T_87) e_88) (cwV 1 hts (zgV wm598 wm600 wm19 wm35 wm601) rfl rfl rfl (by decide +kernel) ⟨Nat.le_of_ble_eq_true rfl, Nat.le_of_ble_eq_true rfl⟩) ⟨zP.blind, va_recv hK (z_subP (ws' := (zCh cI (h_C) (q_C) (h_T) (h_LB) (h_LN) (c_kept) (c_keptCount) (c_pool) (c_left) (c_treated)) ++ (zTr cI (h_T) (q_T) (T)) ++ (zWk cI (h_LB) (q_LB) (LB)) ++ (zWk cI (h_LN) (q_LN) (LN))) hP [0, 1, 2, 3, 4, 5, 6, 7, 8, 9, 10, 11, 12, 13, 14] rfl) (ci := 0) (q0 := 0) rfl rfl, zP.enter (z_subP (ws' := (zCh cI (h_C) (q_C) (h_T) (h_LB) (h_LN) (c_kept) (c_keptCount) (c_pool) (c_left) (c_treated)) ++ (zTr cI (h_T) (q_T) (T)) ++ (zWk cI (h_LB) (q_LB) (LB)) ++ (zWk cI (h_LN) (q_LN) (LN))) hP [0, 1, 2, 3, 4, 5, 6, 7, 8, 9, 10, 11, 12, 13, 14] rfl) hK (hD.sub [0, 1, 2, 3, 4, 5, 6, 7, 8, 9, 10, 11, 12, 13, 14] (by decide) rfl) hN⟩ rfl rfl hl.1 rfl (lv_room (Nat.le_of_ble_eq_true rfl)) dX0_splitNode_152 ⟨Nat.le_refl _, Nat.le_refl _⟩) hP hD hS hA [0, 1, 2, 3, 4, 5, 6, 7, 8, 9, 10, 11, 12, 13, 14] [] [0, 1, 2, 3, 4, 5, 6, 7, 8, 9, 10, 11, 12, 13, 14] rfl rfl (by decide) (fun _ => rfl) (fun u_89 H locs hP hD hS hz => ?_)
          refine lv_goto (tgt := 218) hx hb dX0_splitNode_155 (by decide) ?_
          refine lv_iinc (v := Int32.ofInt (x5 + 1)) (lv' := [(5, vI (x5 + 1)), (0, .ref h_C), (1, vI x1), (2, vI x2), (3, vI x3)]) hx hb dX0_splitNode_218 hl (k := 4) rfl (z_inc _ _) (by decide) rfl (fun ls hl => ?_)
          refine lv_goto (tgt := 113) hx hb dX0_splitNode_221 (by decide) ?_
          exact ih ((x5 + 1)) (c_pool) (c_left_86) (T_87) H locs ls h hP hD hS (lv_sub hl [1, 2, 3, 4, 0] rfl)
set_option maxHeartbeats 4000000 in
set_option maxRecDepth 100000 in
theorem c_Ch_splitNode (l : Launch) (D : va_G) (cI cZ cT : ClassId) (h_C : Nat) (q_C : Nat → Nat) (h_T : Nat) (h_LB : Nat) (h_LN : Nat) (q_T : Nat → Nat) (q_LB : Nat → Nat) (q_LN : Nat → Nat) (c_kept : Nat → Int) (c_keptCount : Int) (c_pool : Nat → Int) (c_left : Int) (c_treated : Int64) (T : TV) (LB : KV) (LN : KV) (x1 : Int) (sz : Nat) (res : Int × (Nat → Int) × Int × TV) (h : f_Ch_splitNode c_pool c_left T x1 = some res) : zMi l yX0_splitNode cX0_splitNode 7 rm_Ch_splitNode D (zt cI cZ cT) [.ref h_C, vI x1] ((zCh cI h_C q_C h_T h_LB h_LN c_kept c_keptCount c_pool c_left c_treated) ++ (zTr cI h_T q_T T) ++ (zWk cI h_LB q_LB LB) ++ (zWk cI h_LN q_LN LN)) sz (res.1) (fun u => (zCh cI h_C q_C h_T h_LB h_LN c_kept c_keptCount (res.2.1) (res.2.2.1) c_treated) ++ (zTr cI h_T q_T (res.2.2.2)) ++ (zWk cI h_LB q_LB LB) ++ (zWk cI h_LN q_LN LN)) 0 0 := by
  refine z_enth (Qc := zQi D (res.1) (fun u => (zCh cI h_C q_C h_T h_LB h_LN c_kept c_keptCount (res.2.1) (res.2.2.1) c_treated) ++ (zTr cI h_T q_T (res.2.2.2)) ++ (zWk cI h_LB q_LB LB) ++ (zWk cI h_LN q_LN LN))) (by decide) (Nat.le_of_ble_eq_true rfl) (fun p e s m args below meth c A ls H locs hF hP hD hS hl => ?_)
  have hx := hF.1.1
  have hb := hF.1.2.1
  have hml := hF.1.2.2.1
  have hown : s.vm.findClass "RectangleTree$Changes" = some m.cls := hF.1.2.2.2.1
  have hts := hF.1.2.2.2.2
  have hr := hF.2.1
  have hlk := hF.2.2.1
  have hK := hF.2.2.2.2.1
  have hN := hF.2.2.2.2.2.1
  have hA := hF.2.2.2.2.2.2
  unfold f_Ch_splitNode at h
  refine lv_iload_n hx hb dX0_splitNode_0 rfl (lv_at hl 1 rfl) ?_
  refine lv_aload_n hx hb dX0_splitNode_1 rfl (lv_at hl 0 rfl) ?_
  refine va_get (D := D) (ci := 0) (v := .ref h_T) (C := RX0) (T := TX0) (N := 8) hx hb hts zin0 hown hK hP 0 rfl rfl 0 (by decide) (hts _ wm132) (fun _ h9 => h9) rfl dX0_splitNode_2 ?_
  refine va_get (D := D) (ci := 4) (v := vI (tRoot T)) (C := RX4) (T := TX4) (N := 10) hx hb hts zin4 hown hK hP 3 rfl rfl 5 (by decide) (hts _ wm69) (fun _ h9 => h9) rfl dX0_splitNode_5 ?_
  obtain ⟨g_1, h⟩ := gd_e h
  obtain ⟨g_2, h⟩ := gd_e h
  refine z_icmp_ne (tgt := 21) hx hb g_1 g_2 dX0_splitNode_8 (by decide) (fun b_3 => ?_) (fun b_3 => ?_)
  · have h := it_n b_3 h
    refine lv_aload_n hx hb dX0_splitNode_21 rfl (lv_at hl 0 rfl) ?_
    refine va_get (D := D) (ci := 0) (v := .ref h_T) (C := RX0) (T := TX0) (N := 8) hx hb hts zin0 hown hK hP 0 rfl rfl 0 (by decide) (hts _ wm132) (fun _ h9 => h9) rfl dX0_splitNode_22 ?_
    refine lv_iload_n hx hb dX0_splitNode_25 rfl (lv_at hl 1 rfl) ?_
    obtain ⟨r_4, e_5, h⟩ := bd1_e h
    refine z_goi (ws' := []) (ret := r_4) (wc := (zTr cI (h_T) (q_T) (T))) (wn := fun u_6 => (zCh cI h_C q_C h_T h_LB h_LN c_kept c_keptCount c_pool c_left c_treated) ++ (zTr cI h_T q_T T) ++ (zWk cI h_LB q_LB LB) ++ (zWk cI h_LN q_LN LN)) (wr := ([0, 1, 2, 9, 10, 11, 12, 13, 14].filterMap (fun i => ((zCh cI h_C q_C h_T h_LB h_LN c_kept c_keptCount c_pool c_left c_treated) ++ (zTr cI h_T q_T T) ++ (zWk cI h_LB q_LB LB) ++ (zWk cI h_LN q_LN LN))[i]?))) (va_runV (As := [vI x1]) (rest := []) hF.1 (c_Tr_holderOf l D cI cZ cT h_T q_T T x1 H.size (r_4) e_5) (cwV 1 hts (zgV wm573 wm349 wm350 wm33 wm351) rfl rfl rfl (by decide +kernel) ⟨Nat.le_of_ble_eq_true rfl, Nat.le_of_ble_eq_true rfl⟩) ⟨zP.blind, va_recv hK (z_subP (ws' := (zTr cI (h_T) (q_T) (T))) hP [3, 4, 5, 6, 7, 8] rfl) (ci := 4) (q0 := 0) rfl rfl, zP.enter (z_subP (ws' := (zTr cI (h_T) (q_T) (T))) hP [3, 4, 5, 6, 7, 8] rfl) hK (hD.sub [3, 4, 5, 6, 7, 8] (by decide) rfl) hN⟩ rfl rfl hl.1 rfl (lv_room (Nat.le_of_ble_eq_true rfl)) dX0_splitNode_26 ⟨Nat.le_refl _, Nat.le_refl _⟩) hP hD hS hA [3, 4, 5, 6, 7, 8] [0, 1, 2, 9, 10, 11, 12, 13, 14] [0, 1, 2, 9, 10, 11, 12, 13, 14, 3, 4, 5, 6, 7, 8] rfl rfl (by decide) (fun _ => rfl) (fun u_6 H locs hP hD hS hz => ?_)
    refine lv_istore_n (lv' := [(2, vI r_4), (0, .ref h_C), (1, vI x1)]) hx hb dX0_splitNode_29 rfl hl (by decide) rfl (fun ls hl => ?_)
    refine lv_aload_n hx hb dX0_splitNode_30 rfl (lv_at hl 1 rfl) ?_
    refine va_get (D := D) (ci := 0) (v := .ref h_T) (C := RX0) (T := TX0) (N := 8) hx hb hts zin0 hown hK hP 0 rfl rfl 0 (by decide) (hts _ wm132) (fun _ h9 => h9) rfl dX0_splitNode_31 ?_
    refine lv_aload_n hx hb dX0_splitNode_34 rfl (lv_at hl 1 rfl) ?_
    refine va_get (D := D) (ci := 0) (v := .ref h_T) (C := RX0) (T := TX0) (N := 8) hx hb hts zin0 hown hK hP 0 rfl rfl 0 (by decide) (hts _ wm132) (fun _ h9 => h9) rfl dX0_splitNode_35 ?_
    refine lv_iload_n hx hb dX0_splitNode_38 rfl (lv_at hl 2 rfl) ?_
    obtain ⟨r_7, e_8, h⟩ := bd1_e h
    refine z_goi (ws' := []) (ret := r_7) (wc := (zTr cI (h_T) (q_T) (T))) (wn := fun u_9 => (zCh cI h_C q_C h_T h_LB h_LN c_kept c_keptCount c_pool c_left c_treated) ++ (zTr cI h_T q_T T) ++ (zWk cI h_LB q_LB LB) ++ (zWk cI h_LN q_LN LN)) (wr := ([0, 1, 2, 9, 10, 11, 12, 13, 14].filterMap (fun i => ((zCh cI h_C q_C h_T h_LB h_LN c_kept c_keptCount c_pool c_left c_treated) ++ (zTr cI h_T q_T T) ++ (zWk cI h_LB q_LB LB) ++ (zWk cI h_LN q_LN LN))[i]?))) (va_runV (As := [vI x1]) (rest := [.ref h_T]) hF.1 (c_Tr_levelOf l D cI cZ cT h_T q_T T x1 H.size (r_7) e_8) (cwV 1 hts (zgV wm504 wm301 wm302 wm33 wm303) rfl rfl rfl (by decide +kernel) ⟨Nat.le_of_ble_eq_true rfl, Nat.le_of_ble_eq_true rfl⟩) ⟨zP.blind, va_recv hK (z_subP (ws' := (zTr cI (h_T) (q_T) (T))) hP [3, 4, 5, 6, 7, 8] rfl) (ci := 4) (q0 := 0) rfl rfl, zP.enter (z_subP (ws' := (zTr cI (h_T) (q_T) (T))) hP [3, 4, 5, 6, 7, 8] rfl) hK (hD.sub [3, 4, 5, 6, 7, 8] (by decide) rfl) hN⟩ rfl rfl hl.1 rfl (lv_room (Nat.le_of_ble_eq_true rfl)) dX0_splitNode_39 ⟨Nat.le_refl _, Nat.le_refl _⟩) hP hD hS hA [3, 4, 5, 6, 7, 8] [0, 1, 2, 9, 10, 11, 12, 13, 14] [0, 1, 2, 9, 10, 11, 12, 13, 14, 3, 4, 5, 6, 7, 8] rfl rfl (by decide) (fun _ => rfl) (fun u_9 H locs hP hD hS hz => ?_)
    obtain ⟨r_10, T_11, e_12, h⟩ := bd2_e h
    have mo_14 : (tR T) ≤ (tR T_11) := mo_Tr_newNode T r_7 (r_10, T_11) e_12
    refine z_goi (ws' := []) (ret := r_10) (wc := (zTr cI (h_T) (q_T) (T))) (wn := fun u_13 => (zCh cI h_C q_C h_T h_LB h_LN c_kept c_keptCount c_pool c_left c_treated) ++ (zTr cI h_T q_T T_11) ++ (zWk cI h_LB q_LB LB) ++ (zWk cI h_LN q_LN LN)) (wr := ([0, 1, 2, 9, 10, 11, 12, 13, 14].filterMap (fun i => ((zCh cI h_C q_C h_T h_LB h_LN c_kept c_keptCount c_pool c_left c_treated) ++ (zTr cI h_T q_T T) ++ (zWk cI h_LB q_LB LB) ++ (zWk cI h_LN q_LN LN))[i]?))) (va_runV (As := [vI r_7]) (rest := []) hF.1 (c_Tr_newNode l D cI cZ cT h_T q_T T r_7 H.size (r_10, T_11) e_12) (cwV 1 hts (zgV wm574 wm569 wm570 wm33 wm571) rfl rfl rfl (by decide +kernel) ⟨Nat.le_of_ble_eq_true rfl, Nat.le_of_ble_eq_true rfl⟩) ⟨zP.blind, va_recv hK (z_subP (ws' := (zTr cI (h_T) (q_T) (T))) hP [3, 4, 5, 6, 7, 8] rfl) (ci := 4) (q0 := 0) rfl rfl, zP.enter (z_subP (ws' := (zTr cI (h_T) (q_T) (T))) hP [3, 4, 5, 6, 7, 8] rfl) hK (hD.sub [3, 4, 5, 6, 7, 8] (by decide) rfl) hN⟩ rfl rfl hl.1 rfl (lv_room (Nat.le_of_ble_eq_true rfl)) dX0_splitNode_42 ⟨Nat.le_refl _, Nat.le_refl _⟩) hP hD hS hA [3, 4, 5, 6, 7, 8] [0, 1, 2, 9, 10, 11, 12, 13, 14] [0, 1, 2, 9, 10, 11, 12, 13, 14, 3, 4, 5, 6, 7, 8] rfl rfl (by decide) (fun _ => rfl) (fun u_13 H locs hP hD hS hz => ?_)
    refine lv_istore_n (lv' := [(3, vI r_10), (2, vI r_4), (0, .ref h_C), (1, vI x1)]) hx hb dX0_splitNode_45 rfl hl (by decide) rfl (fun ls hl => ?_)
    refine lv_iload_n hx hb dX0_splitNode_46 rfl (lv_at hl 1 rfl) ?_
    refine lv_iconst (v := Int32.ofInt (-1)) hx hb dX0_splitNode_47 rfl ?_
    obtain ⟨g_15, h⟩ := gd_e h
    refine z_icmp_eq (tgt := 56) hx hb g_15 (by decide) dX0_splitNode_48 (by decide) (fun b_16 => ?_) (fun b_16 => ?_)
    · have h := it_p b_16 h
      refine lv_iconst (v := Int32.ofInt (-1)) hx hb dX0_splitNode_56 rfl ?_
      obtain rfl := Option.some.inj h
      exact z_iret hx hb hr hlk (fun _ _ => 0) hP hD hS dX0_splitNode_57
    · have h := it_n b_16 h
      refine lv_iload_n hx hb dX0_splitNode_51 rfl (lv_at hl 0 rfl) ?_
      refine lv_iconst (v := Int32.ofInt (-1)) hx hb dX0_splitNode_52 rfl ?_
      obtain ⟨g_17, h⟩ := gd_e h
      refine z_icmp_ne (tgt := 58) hx hb g_17 (by decide) dX0_splitNode_53 (by decide) (fun b_18 => ?_) (fun b_18 => ?_)
      · have h := it_n b_18 h
        refine lv_aload_n hx hb dX0_splitNode_58 rfl (lv_at hl 2 rfl) ?_
        refine va_get (D := D) (ci := 0) (v := .ref h_T) (C := RX0) (T := TX0) (N := 8) hx hb hts zin0 hown hK hP 0 rfl rfl 0 (by decide) (hts _ wm132) (fun _ h9 => h9) rfl dX0_splitNode_59 ?_
        refine lv_dup hx hb dX0_splitNode_62 rfl ?_
        refine va_get (D := D) (ci := 4) (v := vI (tSpl T_11)) (C := RX4) (T := TX4) (N := 10) hx hb hts zin4 hown hK hP 3 rfl rfl 8 (by decide) (hts _ wm79) (fun _ h9 => h9) rfl dX0_splitNode_63 ?_
        refine lv_iconst (v := Int32.ofInt 1) hx hb dX0_splitNode_66 rfl ?_
        refine z_iadd hx hb dX0_splitNode_67 ?_
        refine va_put (D := D) (ci := 4) (v := vI ((tSpl T_11) + 1)) (ty := .int) (C := RX4) (T := TX4) (N := 10) hx hb hts zin4 tyX4 tyX4_ok nmX4 hown hK hP hD hS 3 rfl rfl 8 (by decide) (hts _ wm79) (fun _ h9 => h9) rfl (by decide +kernel) rfl rfl (Nat.le_of_ble_eq_true rfl) dX0_splitNode_68 (fun H locs hP hD hS => ?_)
        replace hP : va_P D vwCl ((zCh cI h_C q_C h_T h_LB h_LN c_kept c_keptCount c_pool c_left c_treated) ++ (zTr cI h_T q_T (sSpl T_11 ((tSpl T_11) + 1))) ++ (zWk cI h_LB q_LB LB) ++ (zWk cI h_LN q_LN LN)) H := hP
        replace hD : va_D A ((zCh cI h_C q_C h_T h_LB h_LN c_kept c_keptCount c_pool c_left c_treated) ++ (zTr cI h_T q_T (sSpl T_11 ((tSpl T_11) + 1))) ++ (zWk cI h_LB q_LB LB) ++ (zWk cI h_LN q_LN LN)) := hD
        refine lv_aload_n hx hb dX0_splitNode_71 rfl (lv_at hl 2 rfl) ?_
        refine lv_iload_n hx hb dX0_splitNode_72 rfl (lv_at hl 3 rfl) ?_
        obtain ⟨c_pool_19, c_left_20, e_21, h⟩ := bd2_e h
        refine z_gov (wc := (zCh cI (h_C) (q_C) (h_T) (h_LB) (h_LN) (c_kept) (c_keptCount) (c_pool) (c_left) (c_treated)) ++ (zTr cI (h_T) (q_T) ((sSpl T_11 ((tSpl T_11) + 1)))) ++ (zWk cI (h_LB) (q_LB) (LB)) ++ (zWk cI (h_LN) (q_LN) (LN))) (wn := fun u_22 => (zCh cI h_C q_C h_T h_LB h_LN c_kept c_keptCount c_pool_19 c_left_20 c_treated) ++ (zTr cI h_T q_T (sSpl T_11 ((tSpl T_11) + 1))) ++ (zWk cI h_LB q_LB LB) ++ (zWk cI h_LN q_LN LN)) (wr := []) (va_runV (As := [vI x1]) (rest := []) hF.1 (c_Ch_fillPool l D cI cZ cT h_C q_C h_T h_LB h_LN q_T q_LB q_LN c_kept c_keptCount c_pool c_left c_treated (sSpl T_11 ((tSpl T_11) + 1)) LB LN x1 H.size (c_pool_19, c_left_20) e_21) (cwV 1 hts (zgV wm575 wm577 wm16 wm35 wm578) rfl rfl rfl (by decide +kernel) ⟨Nat.le_of_ble_eq_true rfl, Nat.le_of_ble_eq_true rfl⟩) ⟨zP.blind, va_recv hK (z_subP (ws' := (zCh cI (h_C) (q_C) (h_T) (h_LB) (h_LN) (c_kept) (c_keptCount) (c_pool) (c_left) (c_treated)) ++ (zTr cI (h_T) (q_T) ((sSpl T_11 ((tSpl T_11) + 1)))) ++ (zWk cI (h_LB) (q_LB) (LB)) ++ (zWk cI (h_LN) (q_LN) (LN))) hP [0, 1, 2, 3, 4, 5, 6, 7, 8, 9, 10, 11, 12, 13, 14] rfl) (ci := 0) (q0 := 0) rfl rfl, zP.enter (z_subP (ws' := (zCh cI (h_C) (q_C) (h_T) (h_LB) (h_LN) (c_kept) (c_keptCount) (c_pool) (c_left) (c_treated)) ++ (zTr cI (h_T) (q_T) ((sSpl T_11 ((tSpl T_11) + 1)))) ++ (zWk cI (h_LB) (q_LB) (LB)) ++ (zWk cI (h_LN) (q_LN) (LN))) hP [0, 1, 2, 3, 4, 5, 6, 7, 8, 9, 10, 11, 12, 13, 14] rfl) hK (hD.sub [0, 1, 2, 3, 4, 5, 6, 7, 8, 9, 10, 11, 12, 13, 14] (by decide) rfl) hN⟩ rfl rfl hl.1 rfl (lv_room (Nat.le_of_ble_eq_true rfl)) dX0_splitNode_73 ⟨Nat.le_refl _, Nat.le_refl _⟩) hP hD hS hA [0, 1, 2, 3, 4, 5, 6, 7, 8, 9, 10, 11, 12, 13, 14] [] [0, 1, 2, 3, 4, 5, 6, 7, 8, 9, 10, 11, 12, 13, 14] rfl rfl (by decide) (fun _ => rfl) (fun u_22 H locs hP hD hS hz => ?_)
        refine lv_aload_n hx hb dX0_splitNode_76 rfl (lv_at hl 2 rfl) ?_
        obtain ⟨r_23, e_24, h⟩ := bd1_e h
        refine z_goi (ws' := []) (ret := r_23) (wc := (zCh cI (h_C) (q_C) (h_T) (h_LB) (h_LN) (c_kept) (c_keptCount) (c_pool_19) (c_left_20) (c_treated)) ++ (zTr cI (h_T) (q_T) ((sSpl T_11 ((tSpl T_11) + 1)))) ++ (zWk cI (h_LB) (q_LB) (LB)) ++ (zWk cI (h_LN) (q_LN) (LN))) (wn := fun u_25 => (zCh cI h_C q_C h_T h_LB h_LN c_kept c_keptCount c_pool_19 c_left_20 c_treated) ++ (zTr cI h_T q_T (sSpl T_11 ((tSpl T_11) + 1))) ++ (zWk cI h_LB q_LB LB) ++ (zWk cI h_LN q_LN LN)) (wr := []) (va_runV (As := []) (rest := []) hF.1 (c_Ch_findSeeds l D cI cZ cT h_C q_C h_T h_LB h_LN q_T q_LB q_LN c_kept c_keptCount c_pool_19 c_left_20 c_treated (sSpl T_11 ((tSpl T_11) + 1)) LB LN H.size (r_23) e_24) (cwV 0 hts (zgV wm580 wm582 wm17 wm35 wm583) rfl rfl rfl (by decide +kernel) ⟨Nat.le_of_ble_eq_true rfl, Nat.le_of_ble_eq_true rfl⟩) ⟨zP.blind, va_recv hK (z_subP (ws' := (zCh cI (h_C) (q_C) (h_T) (h_LB) (h_LN) (c_kept) (c_keptCount) (c_pool_19) (c_left_20) (c_treated)) ++ (zTr cI (h_T) (q_T) ((sSpl T_11 ((tSpl T_11) + 1)))) ++ (zWk cI (h_LB) (q_LB) (LB)) ++ (zWk cI (h_LN) (q_LN) (LN))) hP [0, 1, 2, 3, 4, 5, 6, 7, 8, 9, 10, 11, 12, 13, 14] rfl) (ci := 0) (q0 := 0) rfl rfl, zP.enter (z_subP (ws' := (zCh cI (h_C) (q_C) (h_T) (h_LB) (h_LN) (c_kept) (c_keptCount) (c_pool_19) (c_left_20) (c_treated)) ++ (zTr cI (h_T) (q_T) ((sSpl T_11 ((tSpl T_11) + 1)))) ++ (zWk cI (h_LB) (q_LB) (LB)) ++ (zWk cI (h_LN) (q_LN) (LN))) hP [0, 1, 2, 3, 4, 5, 6, 7, 8, 9, 10, 11, 12, 13, 14] rfl) hK (hD.sub [0, 1, 2, 3, 4, 5, 6, 7, 8, 9, 10, 11, 12, 13, 14] (by decide) rfl) hN⟩ rfl rfl hl.1 rfl (lv_room (Nat.le_of_ble_eq_true rfl)) dX0_splitNode_77 ⟨Nat.le_refl _, Nat.le_refl _⟩) hP hD hS hA [0, 1, 2, 3, 4, 5, 6, 7, 8, 9, 10, 11, 12, 13, 14] [] [0, 1, 2, 3, 4, 5, 6, 7, 8, 9, 10, 11, 12, 13, 14] rfl rfl (by decide) (fun _ => rfl) (fun u_25 H locs hP hD hS hz => ?_)
        refine lv_istore (lv' := [(4, vI r_23), (3, vI r_10), (2, vI r_4), (0, .ref h_C), (1, vI x1)]) hx hb dX0_splitNode_80 hl (by decide) rfl (fun ls hl => ?_)
        refine lv_aload_n hx hb dX0_splitNode_82 rfl (lv_at hl 3 rfl) ?_
        refine va_get (D := D) (ci := 0) (v := .ref h_T) (C := RX0) (T := TX0) (N := 8) hx hb hts zin0 hown hK hP 0 rfl rfl 0 (by decide) (hts _ wm132) (fun _ h9 => h9) rfl dX0_splitNode_83 ?_
        refine lv_iload_n hx hb dX0_splitNode_86 rfl (lv_at hl 4 rfl) ?_
        obtain ⟨T_26, e_27, h⟩ := bd1_e h
        have mo_29 : (tR T_11) ≤ (tR T_26) := mo_Tr_makeListEmpty (sSpl T_11 ((tSpl T_11) + 1)) x1 (T_26) e_27
        refine z_gov (wc := (zTr cI (h_T) (q_T) ((sSpl T_11 ((tSpl T_11) + 1))))) (wn := fun u_28 => (zCh cI h_C q_C h_T h_LB h_LN c_kept c_keptCount c_pool_19 c_left_20 c_treated) ++ (zTr cI h_T q_T T_26) ++ (zWk cI h_LB q_LB LB) ++ (zWk cI h_LN q_LN LN)) (wr := ([0, 1, 2, 9, 10, 11, 12, 13, 14].filterMap (fun i => ((zCh cI h_C q_C h_T h_LB h_LN c_kept c_keptCount c_pool_19 c_left_20 c_treated) ++ (zTr cI h_T q_T (sSpl T_11 ((tSpl T_11) + 1))) ++ (zWk cI h_LB q_LB LB) ++ (zWk cI h_LN q_LN LN))[i]?))) (va_runV (As := [vI x1]) (rest := []) hF.1 (c_Tr_makeListEmpty l D cI cZ cT h_T q_T (sSpl T_11 ((tSpl T_11) + 1)) x1 H.size (T_26) e_27) (cwV 1 hts (zgV wm585 wm586 wm587 wm33 wm588) rfl rfl rfl (by decide +kernel) ⟨Nat.le_of_ble_eq_true rfl, Nat.le_of_ble_eq_true rfl⟩) ⟨zP.blind, va_recv hK (z_subP (ws' := (zTr cI (h_T) (q_T) ((sSpl T_11 ((tSpl T_11) + 1))))) hP [3, 4, 5, 6, 7, 8] rfl) (ci := 4) (q0 := 0) rfl rfl, zP.enter (z_subP (ws' := (zTr cI (h_T) (q_T) ((sSpl T_11 ((tSpl T_11) + 1))))) hP [3, 4, 5, 6, 7, 8] rfl) hK (hD.sub [3, 4, 5, 6, 7, 8] (by decide) rfl) hN⟩ rfl rfl hl.1 rfl (lv_room (Nat.le_of_ble_eq_true rfl)) dX0_splitNode_87 ⟨Nat.le_refl _, Nat.le_refl _⟩) hP hD hS hA [3, 4, 5, 6, 7, 8] [0, 1, 2, 9, 10, 11, 12, 13, 14] [0, 1, 2, 9, 10, 11, 12, 13, 14, 3, 4, 5, 6, 7, 8] rfl rfl (by decide) (fun _ => rfl) (fun u_28 H locs hP hD hS hz => ?_)
        refine lv_aload_n hx hb dX0_splitNode_90 rfl (lv_at hl 3 rfl) ?_
        refine lv_iload_n hx hb dX0_splitNode_91 rfl (lv_at hl 1 rfl) ?_
        refine lv_iload hx hb dX0_splitNode_92 (lv_at hl 0 rfl) ?_
        refine lv_bipush (v := Int32.ofInt 6) hx hb dX0_splitNode_94 (by decide +kernel) ?_
        obtain ⟨g_30, h⟩ := gd_e h
        refine z_irem hx hb g_30 dX0_splitNode_96 ?_
        obtain ⟨c_pool_31, c_left_32, T_33, e_34, h⟩ := bd3_e h
        have mo_36 : (tR T_26) ≤ (tR T_33) := mo_Ch_giveTo c_pool_19 c_left_20 T_26 r_10 (r_23 % 6) (c_pool_31, c_left_32, T_33) e_34
        refine z_gov (wc := (zCh cI (h_C) (q_C) (h_T) (h_LB) (h_LN) (c_kept) (c_keptCount) (c_pool_19) (c_left_20) (c_treated)) ++ (zTr cI (h_T) (q_T) (T_26)) ++ (zWk cI (h_LB) (q_LB) (LB)) ++ (zWk cI (h_LN) (q_LN) (LN))) (wn := fun u_35 => (zCh cI h_C q_C h_T h_LB h_LN c_kept c_keptCount c_pool_31 c_left_32 c_treated) ++ (zTr cI h_T q_T T_33) ++ (zWk cI h_LB q_LB LB) ++ (zWk cI h_LN q_LN LN)) (wr := []) (va_runV (As := [vI r_10, vI (r_23 % 6)]) (rest := []) hF.1 (c_Ch_giveTo l D cI cZ cT h_C q_C h_T h_LB h_LN q_T q_LB q_LN c_kept c_keptCount c_pool_19 c_left_20 c_treated T_26 LB LN r_10 (r_23 % 6) H.size (c_pool_31, c_left_32, T_33) e_34) (cwV 2 hts (zgV wm589 wm591 wm18 wm35 wm592) rfl rfl rfl (by decide +kernel) ⟨Nat.le_of_ble_eq_true rfl, Nat.le_of_ble_eq_true rfl⟩) ⟨zP.blind, va_recv hK (z_subP (ws' := (zCh cI (h_C) (q_C) (h_T) (h_LB) (h_LN) (c_kept) (c_keptCount) (c_pool_19) (c_left_20) (c_treated)) ++ (zTr cI (h_T) (q_T) (T_26)) ++ (zWk cI (h_LB) (q_LB) (LB)) ++ (zWk cI (h_LN) (q_LN) (LN))) hP [0, 1, 2, 3, 4, 5, 6, 7, 8, 9, 10, 11, 12, 13, 14] rfl) (ci := 0) (q0 := 0) rfl rfl, zP.enter (z_subP (ws' := (zCh cI (h_C) (q_C) (h_T) (h_LB) (h_LN) (c_kept) (c_keptCount) (c_pool_19) (c_left_20) (c_treated)) ++ (zTr cI (h_T) (q_T) (T_26)) ++ (zWk cI (h_LB) (q_LB) (LB)) ++ (zWk cI (h_LN) (q_LN) (LN))) hP [0, 1, 2, 3, 4, 5, 6, 7, 8, 9, 10, 11, 12, 13, 14] rfl) hK (hD.sub [0, 1, 2, 3, 4, 5, 6, 7, 8, 9, 10, 11, 12, 13, 14] (by decide) rfl) hN⟩ rfl rfl hl.1 rfl (lv_room (Nat.le_of_ble_eq_true rfl)) dX0_splitNode_97 ⟨Nat.le_refl _, Nat.le_refl _⟩) hP hD hS hA [0, 1, 2, 3, 4, 5, 6, 7, 8, 9, 10, 11, 12, 13, 14] [] [0, 1, 2, 3, 4, 5, 6, 7, 8, 9, 10, 11, 12, 13, 14] rfl rfl (by decide) (fun _ => rfl) (fun u_35 H locs hP hD hS hz => ?_)
        refine lv_aload_n hx hb dX0_splitNode_100 rfl (lv_at hl 3 rfl) ?_
        refine lv_iload_n hx hb dX0_splitNode_101 rfl (lv_at hl 4 rfl) ?_
        refine lv_iload hx hb dX0_splitNode_102 (lv_at hl 0 rfl) ?_
        refine lv_bipush (v := Int32.ofInt 6) hx hb dX0_splitNode_104 (by decide +kernel) ?_
        obtain ⟨g_37, h⟩ := gd_e h
        refine z_idiv hx hb g_37 dX0_splitNode_106 ?_
        obtain ⟨c_pool_38, c_left_39, T_40, e_41, h⟩ := bd3_e h
        have mo_43 : (tR T_33) ≤ (tR T_40) := mo_Ch_giveTo c_pool_31 c_left_32 T_33 x1 (r_23 / 6) (c_pool_38, c_left_39, T_40) e_41
        refine z_gov (wc := (zCh cI (h_C) (q_C) (h_T) (h_LB) (h_LN) (c_kept) (c_keptCount) (c_pool_31) (c_left_32) (c_treated)) ++ (zTr cI (h_T) (q_T) (T_33)) ++ (zWk cI (h_LB) (q_LB) (LB)) ++ (zWk cI (h_LN) (q_LN) (LN))) (wn := fun u_42 => (zCh cI h_C q_C h_T h_LB h_LN c_kept c_keptCount c_pool_38 c_left_39 c_treated) ++ (zTr cI h_T q_T T_40) ++ (zWk cI h_LB q_LB LB) ++ (zWk cI h_LN q_LN LN)) (wr := []) (va_runV (As := [vI x1, vI (r_23 / 6)]) (rest := []) hF.1 (c_Ch_giveTo l D cI cZ cT h_C q_C h_T h_LB h_LN q_T q_LB q_LN c_kept c_keptCount c_pool_31 c_left_32 c_treated T_33 LB LN x1 (r_23 / 6) H.size (c_pool_38, c_left_39, T_40) e_41) (cwV 2 hts (zgV wm589 wm591 wm18 wm35 wm592) rfl rfl rfl (by decide +kernel) ⟨Nat.le_of_ble_eq_true rfl, Nat.le_of_ble_eq_true rfl⟩) ⟨zP.blind, va_recv hK (z_subP (ws' := (zCh cI (h_C) (q_C) (h_T) (h_LB) (h_LN) (c_kept) (c_keptCount) (c_pool_31) (c_left_32) (c_treated)) ++ (zTr cI (h_T) (q_T) (T_33)) ++ (zWk cI (h_LB) (q_LB) (LB)) ++ (zWk cI (h_LN) (q_LN) (LN))) hP [0, 1, 2, 3, 4, 5, 6, 7, 8, 9, 10, 11, 12, 13, 14] rfl) (ci := 0) (q0 := 0) rfl rfl, zP.enter (z_subP (ws' := (zCh cI (h_C) (q_C) (h_T) (h_LB) (h_LN) (c_kept) (c_keptCount) (c_pool_31) (c_left_32) (c_treated)) ++ (zTr cI (h_T) (q_T) (T_33)) ++ (zWk cI (h_LB) (q_LB) (LB)) ++ (zWk cI (h_LN) (q_LN) (LN))) hP [0, 1, 2, 3, 4, 5, 6, 7, 8, 9, 10, 11, 12, 13, 14] rfl) hK (hD.sub [0, 1, 2, 3, 4, 5, 6, 7, 8, 9, 10, 11, 12, 13, 14] (by decide) rfl) hN⟩ rfl rfl hl.1 rfl (lv_room (Nat.le_of_ble_eq_true rfl)) dX0_splitNode_107 ⟨Nat.le_refl _, Nat.le_refl _⟩) hP hD hS hA [0, 1, 2, 3, 4, 5, 6, 7, 8, 9, 10, 11, 12, 13, 14] [] [0, 1, 2, 3, 4, 5, 6, 7, 8, 9, 10, 11, 12, 13, 14] rfl rfl (by decide) (fun _ => rfl) (fun u_42 H locs hP hD hS hz => ?_)
        refine lv_iconst (v := Int32.ofInt 0) hx hb dX0_splitNode_110 rfl ?_
        refine lv_istore (lv' := [(5, vI 0), (4, vI r_23), (3, vI r_10), (2, vI r_4), (0, .ref h_C), (1, vI x1)]) hx hb dX0_splitNode_111 hl (by decide) rfl (fun ls hl => ?_)
        refine w_Ch_splitNode_L113 D cI cZ cT (h_C) (q_C) (h_T) (h_LB) (h_LN) (q_T) (q_LB) (q_LN) (c_kept) (c_keptCount) (c_treated) (LB) (LN) (x1) (r_4) (r_10) _ _ hF (fun x5_91 c_pool_92 c_left_93 T_94 H locs ls h hP hD hS hl => ?_) _ (0) (c_pool_38) (c_left_39) (T_40) _ _ _ h hP hD hS (lv_sub hl [4, 5, 3, 2, 0] rfl)
        refine lv_aload_n hx hb dX0_splitNode_224 rfl (lv_at hl 0 rfl) ?_
        refine va_get (D := D) (ci := 0) (v := .ref h_T) (C := RX0) (T := TX0) (N := 8) hx hb hts zin0 hown hK hP 0 rfl rfl 0 (by decide) (hts _ wm132) (fun _ h9 => h9) rfl dX0_splitNode_225 ?_
        refine lv_iload_n hx hb dX0_splitNode_228 rfl (lv_at hl 2 rfl) ?_
        refine lv_iload_n hx hb dX0_splitNode_229 rfl (lv_at hl 1 rfl) ?_
        refine lv_iload_n hx hb dX0_splitNode_230 rfl (lv_at hl 3 rfl) ?_
        obtain ⟨T_95, e_96, h⟩ := bd1_e h
        have mo_98 : (tR T_94) ≤ (tR T_95) := mo_Tr_addBehind T_94 r_4 x1 r_10 (T_95) e_96
        refine z_gov (wc := (zTr cI (h_T) (q_T) (T_94))) (wn := fun u_97 => (zCh cI h_C q_C h_T h_LB h_LN c_kept c_keptCount c_pool_92 c_left_93 c_treated) ++ (zTr cI h_T q_T T_95) ++ (zWk cI h_LB q_LB LB) ++ (zWk cI h_LN q_LN LN)) (wr := ([0, 1, 2, 9, 10, 11, 12, 13, 14].filterMap (fun i => ((zCh cI h_C q_C h_T h_LB h_LN c_kept c_keptCount c_pool_92 c_left_93 c_treated) ++ (zTr cI h_T q_T T_94) ++ (zWk cI h_LB q_LB LB) ++ (zWk cI h_LN q_LN LN))[i]?))) (va_runV (As := [vI r_4, vI x1, vI r_10]) (rest := []) hF.1 (c_Tr_addBehind l D cI cZ cT h_T q_T T_94 r_4 x1 r_10 H.size (T_95) e_96) (cwV 3 hts (zgV wm619 wm620 wm621 wm33 wm622) rfl rfl rfl (by decide +kernel) ⟨Nat.le_of_ble_eq_true rfl, Nat.le_of_ble_eq_true rfl⟩) ⟨zP.blind, va_recv hK (z_subP (ws' := (zTr cI (h_T) (q_T) (T_94))) hP [3, 4, 5, 6, 7, 8] rfl) (ci := 4) (q0 := 0) rfl rfl, zP.enter (z_subP (ws' := (zTr cI (h_T) (q_T) (T_94))) hP [3, 4, 5, 6, 7, 8] rfl) hK (hD.sub [3, 4, 5, 6, 7, 8] (by decide) rfl) hN⟩ rfl rfl hl.1 rfl (lv_room (Nat.le_of_ble_eq_true rfl)) dX0_splitNode_231 ⟨Nat.le_refl _, Nat.le_refl _⟩) hP hD hS hA [3, 4, 5, 6, 7, 8] [0, 1, 2, 9, 10, 11, 12, 13, 14] [0, 1, 2, 9, 10, 11, 12, 13, 14, 3, 4, 5, 6, 7, 8] rfl rfl (by decide) (fun _ => rfl) (fun u_97 H locs hP hD hS hz => ?_)
        refine lv_iload_n hx hb dX0_splitNode_234 rfl (lv_at hl 2 rfl) ?_
        obtain rfl := Option.some.inj h
        exact z_iret hx hb hr hlk (fun _ _ => 0) hP hD hS dX0_splitNode_235
      · have h := it_p b_18 h
        refine lv_iconst (v := Int32.ofInt (-1)) hx hb dX0_splitNode_56 rfl ?_
        obtain rfl := Option.some.inj h
        exact z_iret hx hb hr hlk (fun _ _ => 0) hP hD hS dX0_splitNode_57
  · have h := it_p b_3 h
    refine lv_aload_n hx hb dX0_splitNode_11 rfl (lv_at hl 0 rfl) ?_
    refine va_get (D := D) (ci := 0) (v := .ref h_T) (C := RX0) (T := TX0) (N := 8) hx hb hts zin0 hown hK hP 0 rfl rfl 0 (by decide) (hts _ wm132) (fun _ h9 => h9) rfl dX0_splitNode_12 ?_
    obtain ⟨r_99, T_100, e_101, h⟩ := bd2_e h
    have mo_103 : (tR T) ≤ (tR T_100) := mo_Tr_raiseRoot T (r_99, T_100) e_101
    refine z_goi (ws' := []) (ret := r_99) (wc := (zTr cI (h_T) (q_T) (T))) (wn := fun u_102 => (zCh cI h_C q_C h_T h_LB h_LN c_kept c_keptCount c_pool c_left c_treated) ++ (zTr cI h_T q_T T_100) ++ (zWk cI h_LB q_LB LB) ++ (zWk cI h_LN q_LN LN)) (wr := ([0, 1, 2, 9, 10, 11, 12, 13, 14].filterMap (fun i => ((zCh cI h_C q_C h_T h_LB h_LN c_kept c_keptCount c_pool c_left c_treated) ++ (zTr cI h_T q_T T) ++ (zWk cI h_LB q_LB LB) ++ (zWk cI h_LN q_LN LN))[i]?))) (va_runV (As := []) (rest := []) hF.1 (c_Tr_raiseRoot l D cI cZ cT h_T q_T T H.size (r_99, T_100) e_101) (cwV 0 hts (zgV wm564 wm565 wm566 wm33 wm567) rfl rfl rfl (by decide +kernel) ⟨Nat.le_of_ble_eq_true rfl, Nat.le_of_ble_eq_true rfl⟩) ⟨zP.blind, va_recv hK (z_subP (ws' := (zTr cI (h_T) (q_T) (T))) hP [3, 4, 5, 6, 7, 8] rfl) (ci := 4) (q0 := 0) rfl rfl, zP.enter (z_subP (ws' := (zTr cI (h_T) (q_T) (T))) hP [3, 4, 5, 6, 7, 8] rfl) hK (hD.sub [3, 4, 5, 6, 7, 8] (by decide) rfl) hN⟩ rfl rfl hl.1 rfl (lv_room (Nat.le_of_ble_eq_true rfl)) dX0_splitNode_15 ⟨Nat.le_refl _, Nat.le_refl _⟩) hP hD hS hA [3, 4, 5, 6, 7, 8] [0, 1, 2, 9, 10, 11, 12, 13, 14] [0, 1, 2, 9, 10, 11, 12, 13, 14, 3, 4, 5, 6, 7, 8] rfl rfl (by decide) (fun _ => rfl) (fun u_102 H locs hP hD hS hz => ?_)
    refine lv_goto (tgt := 29) hx hb dX0_splitNode_18 (by decide) ?_
    refine lv_istore_n (lv' := [(2, vI r_99), (0, .ref h_C), (1, vI x1)]) hx hb dX0_splitNode_29 rfl hl (by decide) rfl (fun ls hl => ?_)
    refine lv_aload_n hx hb dX0_splitNode_30 rfl (lv_at hl 1 rfl) ?_
    refine va_get (D := D) (ci := 0) (v := .ref h_T) (C := RX0) (T := TX0) (N := 8) hx hb hts zin0 hown hK hP 0 rfl rfl 0 (by decide) (hts _ wm132) (fun _ h9 => h9) rfl dX0_splitNode_31 ?_
    refine lv_aload_n hx hb dX0_splitNode_34 rfl (lv_at hl 1 rfl) ?_
    refine va_get (D := D) (ci := 0) (v := .ref h_T) (C := RX0) (T := TX0) (N := 8) hx hb hts zin0 hown hK hP 0 rfl rfl 0 (by decide) (hts _ wm132) (fun _ h9 => h9) rfl dX0_splitNode_35 ?_
    refine lv_iload_n hx hb dX0_splitNode_38 rfl (lv_at hl 2 rfl) ?_
    obtain ⟨r_104, e_105, h⟩ := bd1_e h
    refine z_goi (ws' := []) (ret := r_104) (wc := (zTr cI (h_T) (q_T) (T_100))) (wn := fun u_106 => (zCh cI h_C q_C h_T h_LB h_LN c_kept c_keptCount c_pool c_left c_treated) ++ (zTr cI h_T q_T T_100) ++ (zWk cI h_LB q_LB LB) ++ (zWk cI h_LN q_LN LN)) (wr := ([0, 1, 2, 9, 10, 11, 12, 13, 14].filterMap (fun i => ((zCh cI h_C q_C h_T h_LB h_LN c_kept c_keptCount c_pool c_left c_treated) ++ (zTr cI h_T q_T T_100) ++ (zWk cI h_LB q_LB LB) ++ (zWk cI h_LN q_LN LN))[i]?))) (va_runV (As := [vI x1]) (rest := [.ref h_T]) hF.1 (c_Tr_levelOf l D cI cZ cT h_T q_T T_100 x1 H.size (r_104) e_105) (cwV 1 hts (zgV wm504 wm301 wm302 wm33 wm303) rfl rfl rfl (by decide +kernel) ⟨Nat.le_of_ble_eq_true rfl, Nat.le_of_ble_eq_true rfl⟩) ⟨zP.blind, va_recv hK (z_subP (ws' := (zTr cI (h_T) (q_T) (T_100))) hP [3, 4, 5, 6, 7, 8] rfl) (ci := 4) (q0 := 0) rfl rfl, zP.enter (z_subP (ws' := (zTr cI (h_T) (q_T) (T_100))) hP [3, 4, 5, 6, 7, 8] rfl) hK (hD.sub [3, 4, 5, 6, 7, 8] (by decide) rfl) hN⟩ rfl rfl hl.1 rfl (lv_room (Nat.le_of_ble_eq_true rfl)) dX0_splitNode_39 ⟨Nat.le_refl _, Nat.le_refl _⟩) hP hD hS hA [3, 4, 5, 6, 7, 8] [0, 1, 2, 9, 10, 11, 12, 13, 14] [0, 1, 2, 9, 10, 11, 12, 13, 14, 3, 4, 5, 6, 7, 8] rfl rfl (by decide) (fun _ => rfl) (fun u_106 H locs hP hD hS hz => ?_)
    obtain ⟨r_107, T_108, e_109, h⟩ := bd2_e h
    have mo_111 : (tR T_100) ≤ (tR T_108) := mo_Tr_newNode T_100 r_104 (r_107, T_108) e_109
    refine z_goi (ws' := []) (ret := r_107) (wc := (zTr cI (h_T) (q_T) (T_100))) (wn := fun u_110 => (zCh cI h_C q_C h_T h_LB h_LN c_kept c_keptCount c_pool c_left c_treated) ++ (zTr cI h_T q_T T_108) ++ (zWk cI h_LB q_LB LB) ++ (zWk cI h_LN q_LN LN)) (wr := ([0, 1, 2, 9, 10, 11, 12, 13, 14].filterMap (fun i => ((zCh cI h_C q_C h_T h_LB h_LN c_kept c_keptCount c_pool c_left c_treated) ++ (zTr cI h_T q_T T_100) ++ (zWk cI h_LB q_LB LB) ++ (zWk cI h_LN q_LN LN))[i]?))) (va_runV (As := [vI r_104]) (rest := []) hF.1 (c_Tr_newNode l D cI cZ cT h_T q_T T_100 r_104 H.size (r_107, T_108) e_109) (cwV 1 hts (zgV wm574 wm569 wm570 wm33 wm571) rfl rfl rfl (by decide +kernel) ⟨Nat.le_of_ble_eq_true rfl, Nat.le_of_ble_eq_true rfl⟩) ⟨zP.blind, va_recv hK (z_subP (ws' := (zTr cI (h_T) (q_T) (T_100))) hP [3, 4, 5, 6, 7, 8] rfl) (ci := 4) (q0 := 0) rfl rfl, zP.enter (z_subP (ws' := (zTr cI (h_T) (q_T) (T_100))) hP [3, 4, 5, 6, 7, 8] rfl) hK (hD.sub [3, 4, 5, 6, 7, 8] (by decide) rfl) hN⟩ rfl rfl hl.1 rfl (lv_room (Nat.le_of_ble_eq_true rfl)) dX0_splitNode_42 ⟨Nat.le_refl _, Nat.le_refl _⟩) hP hD hS hA [3, 4, 5, 6, 7, 8] [0, 1, 2, 9, 10, 11, 12, 13, 14] [0, 1, 2, 9, 10, 11, 12, 13, 14, 3, 4, 5, 6, 7, 8] rfl rfl (by decide) (fun _ => rfl) (fun u_110 H locs hP hD hS hz => ?_)
    refine lv_istore_n (lv' := [(3, vI r_107), (2, vI r_99), (0, .ref h_C), (1, vI x1)]) hx hb dX0_splitNode_45 rfl hl (by decide) rfl (fun ls hl => ?_)
    refine lv_iload_n hx hb dX0_splitNode_46 rfl (lv_at hl 1 rfl) ?_
    refine lv_iconst (v := Int32.ofInt (-1)) hx hb dX0_splitNode_47 rfl ?_
    obtain ⟨g_112, h⟩ := gd_e h
    refine z_icmp_eq (tgt := 56) hx hb g_112 (by decide) dX0_splitNode_48 (by decide) (fun b_113 => ?_) (fun b_113 => ?_)
    · have h := it_p b_113 h
      refine lv_iconst (v := Int32.ofInt (-1)) hx hb dX0_splitNode_56 rfl ?_
      obtain rfl := Option.some.inj h
      exact z_iret hx hb hr hlk (fun _ _ => 0) hP hD hS dX0_splitNode_57
    · have h := it_n b_113 h
      refine lv_iload_n hx hb dX0_splitNode_51 rfl (lv_at hl 0 rfl) ?_
      refine lv_iconst (v := Int32.ofInt (-1)) hx hb dX0_splitNode_52 rfl ?_
      obtain ⟨g_114, h⟩ := gd_e h
      refine z_icmp_ne (tgt := 58) hx hb g_114 (by decide) dX0_splitNode_53 (by decide) (fun b_115 => ?_) (fun b_115 => ?_)
      · have h := it_n b_115 h
        refine lv_aload_n hx hb dX0_splitNode_58 rfl (lv_at hl 2 rfl) ?_
        refine va_get (D := D) (ci := 0) (v := .ref h_T) (C := RX0) (T := TX0) (N := 8) hx hb hts zin0 hown hK hP 0 rfl rfl 0 (by decide) (hts _ wm132) (fun _ h9 => h9) rfl dX0_splitNode_59 ?_
        refine lv_dup hx hb dX0_splitNode_62 rfl ?_
        refine va_get (D := D) (ci := 4) (v := vI (tSpl T_108)) (C := RX4) (T := TX4) (N := 10) hx hb hts zin4 hown hK hP 3 rfl rfl 8 (by decide) (hts _ wm79) (fun _ h9 => h9) rfl dX0_splitNode_63 ?_
        refine lv_iconst (v := Int32.ofInt 1) hx hb dX0_splitNode_66 rfl ?_
        refine z_iadd hx hb dX0_splitNode_67 ?_
        refine va_put (D := D) (ci := 4) (v := vI ((tSpl T_108) + 1)) (ty := .int) (C := RX4) (T := TX4) (N := 10) hx hb hts zin4 tyX4 tyX4_ok nmX4 hown hK hP hD hS 3 rfl rfl 8 (by decide) (hts _ wm79) (fun _ h9 => h9) rfl (by decide +kernel) rfl rfl (Nat.le_of_ble_eq_true rfl) dX0_splitNode_68 (fun H locs hP hD hS => ?_)
        replace hP : va_P D vwCl ((zCh cI h_C q_C h_T h_LB h_LN c_kept c_keptCount c_pool c_left c_treated) ++ (zTr cI h_T q_T (sSpl T_108 ((tSpl T_108) + 1))) ++ (zWk cI h_LB q_LB LB) ++ (zWk cI h_LN q_LN LN)) H := hP
        replace hD : va_D A ((zCh cI h_C q_C h_T h_LB h_LN c_kept c_keptCount c_pool c_left c_treated) ++ (zTr cI h_T q_T (sSpl T_108 ((tSpl T_108) + 1))) ++ (zWk cI h_LB q_LB LB) ++ (zWk cI h_LN q_LN LN)) := hD
        refine lv_aload_n hx hb dX0_splitNode_71 rfl (lv_at hl 2 rfl) ?_
        refine lv_iload_n hx hb dX0_splitNode_72 rfl (lv_at hl 3 rfl) ?_
        obtain ⟨c_pool_116, c_left_117, e_118, h⟩ := bd2_e h
        refine z_gov (wc := (zCh cI (h_C) (q_C) (h_T) (h_LB) (h_LN) (c_kept) (c_keptCount) (c_pool) (c_left) (c_treated)) ++ (zTr cI (h_T) (q_T) ((sSpl T_108 ((tSpl T_108) + 1)))) ++ (zWk cI (h_LB) (q_LB) (LB)) ++ (zWk cI (h_LN) (q_LN) (LN))) (wn := fun u_119 => (zCh cI h_C q_C h_T h_LB h_LN c_kept c_keptCount c_pool_116 c_left_117 c_treated) ++ (zTr cI h_T q_T (sSpl T_108 ((tSpl T_108) + 1))) ++ (zWk cI h_LB q_LB LB) ++ (zWk cI h_LN q_LN LN)) (wr := []) (va_runV (As := [vI x1]) (rest := []) hF.1 (c_Ch_fillPool l D cI cZ cT h_C q_C h_T h_LB h_LN q_T q_LB q_LN c_kept c_keptCount c_pool c_left c_treated (sSpl T_108 ((tSpl T_108) + 1)) LB LN x1 H.size (c_pool_116, c_left_117) e_118) (cwV 1 hts (zgV wm575 wm577 wm16 wm35 wm578) rfl rfl rfl (by decide +kernel) ⟨Nat.le_of_ble_eq_true rfl, Nat.le_of_ble_eq_true rfl⟩) ⟨zP.blind, va_recv hK (z_subP (ws' := (zCh cI (h_C) (q_C) (h_T) (h_LB) (h_LN) (c_kept) (c_keptCount) (c_pool) (c_left) (c_treated)) ++ (zTr cI (h_T) (q_T) ((sSpl T_108 ((tSpl T_108) + 1)))) ++ (zWk cI (h_LB) (q_LB) (LB)) ++ (zWk cI (h_LN) (q_LN) (LN))) hP [0, 1, 2, 3, 4, 5, 6, 7, 8, 9, 10, 11, 12, 13, 14] rfl) (ci := 0) (q0 := 0) rfl rfl, zP.enter (z_subP (ws' := (zCh cI (h_C) (q_C) (h_T) (h_LB) (h_LN) (c_kept) (c_keptCount) (c_pool) (c_left) (c_treated)) ++ (zTr cI (h_T) (q_T) ((sSpl T_108 ((tSpl T_108) + 1)))) ++ (zWk cI (h_LB) (q_LB) (LB)) ++ (zWk cI (h_LN) (q_LN) (LN))) hP [0, 1, 2, 3, 4, 5, 6, 7, 8, 9, 10, 11, 12, 13, 14] rfl) hK (hD.sub [0, 1, 2, 3, 4, 5, 6, 7, 8, 9, 10, 11, 12, 13, 14] (by decide) rfl) hN⟩ rfl rfl hl.1 rfl (lv_room (Nat.le_of_ble_eq_true rfl)) dX0_splitNode_73 ⟨Nat.le_refl _, Nat.le_refl _⟩) hP hD hS hA [0, 1, 2, 3, 4, 5, 6, 7, 8, 9, 10, 11, 12, 13, 14] [] [0, 1, 2, 3, 4, 5, 6, 7, 8, 9, 10, 11, 12, 13, 14] rfl rfl (by decide) (fun _ => rfl) (fun u_119 H locs hP hD hS hz => ?_)
        refine lv_aload_n hx hb dX0_splitNode_76 rfl (lv_at hl 2 rfl) ?_
        obtain ⟨r_120, e_121, h⟩ := bd1_e h
        refine z_goi (ws' := []) (ret := r_120) (wc := (zCh cI (h_C) (q_C) (h_T) (h_LB) (h_LN) (c_kept) (c_keptCount) (c_pool_116) (c_left_117) (c_treated)) ++ (zTr cI (h_T) (q_T) ((sSpl T_108 ((tSpl T_108) + 1)))) ++ (zWk cI (h_LB) (q_LB) (LB)) ++ (zWk cI (h_LN) (q_LN) (LN))) (wn := fun u_122 => (zCh cI h_C q_C h_T h_LB h_LN c_kept c_keptCount c_pool_116 c_left_117 c_treated) ++ (zTr cI h_T q_T (sSpl T_108 ((tSpl T_108) + 1))) ++ (zWk cI h_LB q_LB LB) ++ (zWk cI h_LN q_LN LN)) (wr := []) (va_runV (As := []) (rest := []) hF.1 (c_Ch_findSeeds l D cI cZ cT h_C q_C h_T h_LB h_LN q_T q_LB q_LN c_kept c_keptCount c_pool_116 c_left_117 c_treated (sSpl T_108 ((tSpl T_108) + 1)) LB LN H.size (r_120) e_121) (cwV 0 hts (zgV wm580 wm582 wm17 wm35 wm583) rfl rfl rfl (by decide +kernel) ⟨Nat.le_of_ble_eq_true rfl, Nat.le_of_ble_eq_true rfl⟩) ⟨zP.blind, va_recv hK (z_subP (ws' := (zCh cI (h_C) (q_C) (h_T) (h_LB) (h_LN) (c_kept) (c_keptCount) (c_pool_116) (c_left_117) (c_treated)) ++ (zTr cI (h_T) (q_T) ((sSpl T_108 ((tSpl T_108) + 1)))) ++ (zWk cI (h_LB) (q_LB) (LB)) ++ (zWk cI (h_LN) (q_LN) (LN))) hP [0, 1, 2, 3, 4, 5, 6, 7, 8, 9, 10, 11, 12, 13, 14] rfl) (ci := 0) (q0 := 0) rfl rfl, zP.enter (z_subP (ws' := (zCh cI (h_C) (q_C) (h_T) (h_LB) (h_LN) (c_kept) (c_keptCount) (c_pool_116) (c_left_117) (c_treated)) ++ (zTr cI (h_T) (q_T) ((sSpl T_108 ((tSpl T_108) + 1)))) ++ (zWk cI (h_LB) (q_LB) (LB)) ++ (zWk cI (h_LN) (q_LN) (LN))) hP [0, 1, 2, 3, 4, 5, 6, 7, 8, 9, 10, 11, 12, 13, 14] rfl) hK (hD.sub [0, 1, 2, 3, 4, 5, 6, 7, 8, 9, 10, 11, 12, 13, 14] (by decide) rfl) hN⟩ rfl rfl hl.1 rfl (lv_room (Nat.le_of_ble_eq_true rfl)) dX0_splitNode_77 ⟨Nat.le_refl _, Nat.le_refl _⟩) hP hD hS hA [0, 1, 2, 3, 4, 5, 6, 7, 8, 9, 10, 11, 12, 13, 14] [] [0, 1, 2, 3, 4, 5, 6, 7, 8, 9, 10, 11, 12, 13, 14] rfl rfl (by decide) (fun _ => rfl) (fun u_122 H locs hP hD hS hz => ?_)
        refine lv_istore (lv' := [(4, vI r_120), (3, vI r_107), (2, vI r_99), (0, .ref h_C), (1, vI x1)]) hx hb dX0_splitNode_80 hl (by decide) rfl (fun ls hl => ?_)
        refine lv_aload_n hx hb dX0_splitNode_82 rfl (lv_at hl 3 rfl) ?_
        refine va_get (D := D) (ci := 0) (v := .ref h_T) (C := RX0) (T := TX0) (N := 8) hx hb hts zin0 hown hK hP 0 rfl rfl 0 (by decide) (hts _ wm132) (fun _ h9 => h9) rfl dX0_splitNode_83 ?_
        refine lv_iload_n hx hb dX0_splitNode_86 rfl (lv_at hl 4 rfl) ?_
        obtain ⟨T_123, e_124, h⟩ := bd1_e h
        have mo_126 : (tR T_108) ≤ (tR T_123) := mo_Tr_makeListEmpty (sSpl T_108 ((tSpl T_108) + 1)) x1 (T_123) e_124
        refine z_gov (wc := (zTr cI (h_T) (q_T) ((sSpl T_108 ((tSpl T_108) + 1))))) (wn := fun u_125 => (zCh cI h_C q_C h_T h_LB h_LN c_kept c_keptCount c_pool_116 c_left_117 c_treated) ++ (zTr cI h_T q_T T_123) ++ (zWk cI h_LB q_LB LB) ++ (zWk cI h_LN q_LN LN)) (wr := ([0, 1, 2, 9, 10, 11, 12, 13, 14].filterMap (fun i => ((zCh cI h_C q_C h_T h_LB h_LN c_kept c_keptCount c_pool_116 c_left_117 c_treated) ++ (zTr cI h_T q_T (sSpl T_108 ((tSpl T_108) + 1))) ++ (zWk cI h_LB q_LB LB) ++ (zWk cI h_LN q_LN LN))[i]?))) (va_runV (As := [vI x1]) (rest := []) hF.1 (c_Tr_makeListEmpty l D cI cZ cT h_T q_T (sSpl T_108 ((tSpl T_108) + 1)) x1 H.size (T_123) e_124) (cwV 1 hts (zgV wm585 wm586 wm587 wm33 wm588) rfl rfl rfl (by decide +kernel) ⟨Nat.le_of_ble_eq_true rfl, Nat.le_of_ble_eq_true rfl⟩) ⟨zP.blind, va_recv hK (z_subP (ws' := (zTr cI (h_T) (q_T) ((sSpl T_108 ((tSpl T_108) + 1))))) hP [3, 4, 5, 6, 7, 8] rfl) (ci := 4) (q0 := 0) rfl rfl, zP.enter (z_subP (ws' := (zTr cI (h_T) (q_T) ((sSpl T_108 ((tSpl T_108) + 1))))) hP [3, 4, 5, 6, 7, 8] rfl) hK (hD.sub [3, 4, 5, 6, 7, 8] (by decide) rfl) hN⟩ rfl rfl hl.1 rfl (lv_room (Nat.le_of_ble_eq_true rfl)) dX0_splitNode_87 ⟨Nat.le_refl _, Nat.le_refl _⟩) hP hD hS hA [3, 4, 5, 6, 7, 8] [0, 1, 2, 9, 10, 11, 12, 13, 14] [0, 1, 2, 9, 10, 11, 12, 13, 14, 3, 4, 5, 6, 7, 8] rfl rfl (by decide) (fun _ => rfl) (fun u_125 H locs hP hD hS hz => ?_)
        refine lv_aload_n hx hb dX0_splitNode_90 rfl (lv_at hl 3 rfl) ?_
        refine lv_iload_n hx hb dX0_splitNode_91 rfl (lv_at hl 1 rfl) ?_
        refine lv_iload hx hb dX0_splitNode_92 (lv_at hl 0 rfl) ?_
        refine lv_bipush (v := Int32.ofInt 6) hx hb dX0_splitNode_94 (by decide +kernel) ?_
        obtain ⟨g_127, h⟩ := gd_e h
        refine z_irem hx hb g_127 dX0_splitNode_96 ?_
        obtain ⟨c_pool_128, c_left_129, T_130, e_131, h⟩ := bd3_e h
        have mo_133 : (tR T_123) ≤ (tR T_130) := mo_Ch_giveTo c_pool_116 c_left_117 T_123 r_107 (r_120 % 6) (c_pool_128, c_left_129, T_130) e_131
        refine z_gov (wc := (zCh cI (h_C) (q_C) (h_T) (h_LB) (h_LN) (c_kept) (c_keptCount) (c_pool_116) (c_left_117) (c_treated)) ++ (zTr cI (h_T) (q_T) (T_123)) ++ (zWk cI (h_LB) (q_LB) (LB)) ++ (zWk cI (h_LN) (q_LN) (LN))) (wn := fun u_132 => (zCh cI h_C q_C h_T h_LB h_LN c_kept c_keptCount c_pool_128 c_left_129 c_treated) ++ (zTr cI h_T q_T T_130) ++ (zWk cI h_LB q_LB LB) ++ (zWk cI h_LN q_LN LN)) (wr := []) (va_runV (As := [vI r_107, vI (r_120 % 6)]) (rest := []) hF.1 (c_Ch_giveTo l D cI cZ cT h_C q_C h_T h_LB h_LN q_T q_LB q_LN c_kept c_keptCount c_pool_116 c_left_117 c_treated T_123 LB LN r_107 (r_120 % 6) H.size (c_pool_128, c_left_129, T_130) e_131) (cwV 2 hts (zgV wm589 wm591 wm18 wm35 wm592) rfl rfl rfl (by decide +kernel) ⟨Nat.le_of_ble_eq_true rfl, Nat.le_of_ble_eq_true rfl⟩) ⟨zP.blind, va_recv hK (z_subP (ws' := (zCh cI (h_C) (q_C) (h_T) (h_LB) (h_LN) (c_kept) (c_keptCount) (c_pool_116) (c_left_117) (c_treated)) ++ (zTr cI (h_T) (q_T) (T_123)) ++ (zWk cI (h_LB) (q_LB) (LB)) ++ (zWk cI (h_LN) (q_LN) (LN))) hP [0, 1, 2, 3, 4, 5, 6, 7, 8, 9, 10, 11, 12, 13, 14] rfl) (ci := 0) (q0 := 0) rfl rfl, zP.enter (z_subP (ws' := (zCh cI (h_C) (q_C) (h_T) (h_LB) (h_LN) (c_kept) (c_keptCount) (c_pool_116) (c_left_117) (c_treated)) ++ (zTr cI (h_T) (q_T) (T_123)) ++ (zWk cI (h_LB) (q_LB) (LB)) ++ (zWk cI (h_LN) (q_LN) (LN))) hP [0, 1, 2, 3, 4, 5, 6, 7, 8, 9, 10, 11, 12, 13, 14] rfl) hK (hD.sub [0, 1, 2, 3, 4, 5, 6, 7, 8, 9, 10, 11, 12, 13, 14] (by decide) rfl) hN⟩ rfl rfl hl.1 rfl (lv_room (Nat.le_of_ble_eq_true rfl)) dX0_splitNode_97 ⟨Nat.le_refl _, Nat.le_refl _⟩) hP hD hS hA [0, 1, 2, 3, 4, 5, 6, 7, 8, 9, 10, 11, 12, 13, 14] [] [0, 1, 2, 3, 4, 5, 6, 7, 8, 9, 10, 11, 12, 13, 14] rfl rfl (by decide) (fun _ => rfl) (fun u_132 H locs hP hD hS hz => ?_)
        refine lv_aload_n hx hb dX0_splitNode_100 rfl (lv_at hl 3 rfl) ?_
        refine lv_iload_n hx hb dX0_splitNode_101 rfl (lv_at hl 4 rfl) ?_
        refine lv_iload hx hb dX0_splitNode_102 (lv_at hl 0 rfl) ?_
        refine lv_bipush (v := Int32.ofInt 6) hx hb dX0_splitNode_104 (by decide +kernel) ?_
        obtain ⟨g_134, h⟩ := gd_e h
        refine z_idiv hx hb g_134 dX0_splitNode_106 ?_
        obtain ⟨c_pool_135, c_left_136, T_137, e_138, h⟩ := bd3_e h
        have mo_140 : (tR T_130) ≤ (tR T_137) := mo_Ch_giveTo c_pool_128 c_left_129 T_130 x1 (r_120 / 6) (c_pool_135, c_left_136, T_137) e_138
        refine z_gov (wc := (zCh cI (h_C) (q_C) (h_T) (h_LB) (h_LN) (c_kept) (c_keptCount) (c_pool_128) (c_left_129) (c_treated)) ++ (zTr cI (h_T) (q_T) (T_130)) ++ (zWk cI (h_LB) (q_LB) (LB)) ++ (zWk cI (h_LN) (q_LN) (LN))) (wn := fun u_139 => (zCh cI h_C q_C h_T h_LB h_LN c_kept c_keptCount c_pool_135 c_left_136 c_treated) ++ (zTr cI h_T q_T T_137) ++ (zWk cI h_LB q_LB LB) ++ (zWk cI h_LN q_LN LN)) (wr := []) (va_runV (As := [vI x1, vI (r_120 / 6)]) (rest := []) hF.1 (c_Ch_giveTo l D cI cZ cT h_C q_C h_T h_LB h_LN q_T q_LB q_LN c_kept c_keptCount c_pool_128 c_left_129 c_treated T_130 LB LN x1 (r_120 / 6) H.size (c_pool_135, c_left_136, T_137) e_138) (cwV 2 hts (zgV wm589 wm591 wm18 wm35 wm592) rfl rfl rfl (by decide +kernel) ⟨Nat.le_of_ble_eq_true rfl, Nat.le_of_ble_eq_true rfl⟩) ⟨zP.blind, va_recv hK (z_subP (ws' := (zCh cI (h_C) (q_C) (h_T) (h_LB) (h_LN) (c_kept) (c_keptCount) (c_pool_128) (c_left_129) (c_treated)) ++ (zTr cI (h_T) (q_T) (T_130)) ++ (zWk cI (h_LB) (q_LB) (LB)) ++ (zWk cI (h_LN) (q_LN) (LN))) hP [0, 1, 2, 3, 4, 5, 6, 7, 8, 9, 10, 11, 12, 13, 14] rfl) (ci := 0) (q0 := 0) rfl rfl, zP.enter (z_subP (ws' := (zCh cI (h_C) (q_C) (h_T) (h_LB) (h_LN) (c_kept) (c_keptCount) (c_pool_128) (c_left_129) (c_treated)) ++ (zTr cI (h_T) (q_T) (T_130)) ++ (zWk cI (h_LB) (q_LB) (LB)) ++ (zWk cI (h_LN) (q_LN) (LN))) hP [0, 1, 2, 3, 4, 5, 6, 7, 8, 9, 10, 11, 12, 13, 14] rfl) hK (hD.sub [0, 1, 2, 3, 4, 5, 6, 7, 8, 9, 10, 11, 12, 13, 14] (by decide) rfl) hN⟩ rfl rfl hl.1 rfl (lv_room (Nat.le_of_ble_eq_true rfl)) dX0_splitNode_107 ⟨Nat.le_refl _, Nat.le_refl _⟩) hP hD hS hA [0, 1, 2, 3, 4, 5, 6, 7, 8, 9, 10, 11, 12, 13, 14] [] [0, 1, 2, 3, 4, 5, 6, 7, 8, 9, 10, 11, 12, 13, 14] rfl rfl (by decide) (fun _ => rfl) (fun u_139 H locs hP hD hS hz => ?_)
        refine lv_iconst (v := Int32.ofInt 0) hx hb dX0_splitNode_110 rfl ?_
        refine lv_istore (lv' := [(5, vI 0), (4, vI r_120), (3, vI r_107), (2, vI r_99), (0, .ref h_C), (1, vI x1)]) hx hb dX0_splitNode_111 hl (by decide) rfl (fun ls hl => ?_)
        refine w_Ch_splitNode_L113 D cI cZ cT (h_C) (q_C) (h_T) (h_LB) (h_LN) (q_T) (q_LB) (q_LN) (c_kept) (c_keptCount) (c_treated) (LB) (LN) (x1) (r_99) (r_107) _ _ hF (fun x5_141 c_pool_142 c_left_143 T_144 H locs ls h hP hD hS hl => ?_) _ (0) (c_pool_135) (c_left_136) (T_137) _ _ _ h hP hD hS (lv_sub hl [4, 5, 3, 2, 0] rfl)
        refine lv_aload_n hx hb dX0_splitNode_224 rfl (lv_at hl 0 rfl) ?_
        refine va_get (D := D) (ci := 0) (v := .ref h_T) (C := RX0) (T := TX0) (N := 8) hx hb hts zin0 hown hK hP 0 rfl rfl 0 (by decide) (hts _ wm132) (fun _ h9 => h9) rfl dX0_splitNode_225 ?_
        refine lv_iload_n hx hb dX0_splitNode_228 rfl (lv_at hl 2 rfl) ?_
        refine lv_iload_n hx hb dX0_splitNode_229 rfl (lv_at hl 1 rfl) ?_
        refine lv_iload_n hx hb dX0_splitNode_230 rfl (lv_at hl 3 rfl) ?_
        obtain ⟨T_145, e_146, h⟩ := bd1_e h
        have mo_148 : (tR T_144) ≤ (tR T_145) := mo_Tr_addBehind T_144 r_99 x1 r_107 (T_145) e_146
        refine z_gov (wc := (zTr cI (h_T) (q_T) (T_144))) (wn := fun u_147 => (zCh cI h_C q_C h_T h_LB h_LN c_kept c_keptCount c_pool_142 c_left_143 c_treated) ++ (zTr cI h_T q_T T_145) ++ (zWk cI h_LB q_LB LB) ++ (zWk cI h_LN q_LN LN)) (wr := ([0, 1, 2, 9, 10, 11, 12, 13, 14].filterMap (fun i => ((zCh cI h_C q_C h_T h_LB h_LN c_kept c_keptCount c_pool_142 c_left_143 c_treated) ++ (zTr cI h_T q_T T_144) ++ (zWk cI h_LB q_LB LB) ++ (zWk cI h_LN q_LN LN))[i]?))) (va_runV (As := [vI r_99, vI x1, vI r_107]) (rest := []) hF.1 (c_Tr_addBehind l D cI cZ cT h_T q_T T_144 r_99 x1 r_107 H.size (T_145) e_146) (cwV 3 hts (zgV wm619 wm620 wm621 wm33 wm622) rfl rfl rfl (by decide +kernel) ⟨Nat.le_of_ble_eq_true rfl, Nat.le_of_ble_eq_true rfl⟩) ⟨zP.blind, va_recv hK (z_subP (ws' := (zTr cI (h_T) (q_T) (T_144))) hP [3, 4, 5, 6, 7, 8] rfl) (ci := 4) (q0 := 0) rfl rfl, zP.enter (z_subP (ws' := (zTr cI (h_T) (q_T) (T_144))) hP [3, 4, 5, 6, 7, 8] rfl) hK (hD.sub [3, 4, 5, 6, 7, 8] (by decide) rfl) hN⟩ rfl rfl hl.1 rfl (lv_room (Nat.le_of_ble_eq_true rfl)) dX0_splitNode_231 ⟨Nat.le_refl _, Nat.le_refl _⟩) hP hD hS hA [3, 4, 5, 6, 7, 8] [0, 1, 2, 9, 10, 11, 12, 13, 14] [0, 1, 2, 9, 10, 11, 12, 13, 14, 3, 4, 5, 6, 7, 8] rfl rfl (by decide) (fun _ => rfl) (fun u_147 H locs hP hD hS hz => ?_)
        refine lv_iload_n hx hb dX0_splitNode_234 rfl (lv_at hl 2 rfl) ?_
        obtain rfl := Option.some.inj h
        exact z_iret hx hb hr hlk (fun _ _ => 0) hP hD hS dX0_splitNode_235
      · have h := it_p b_115 h
        refine lv_iconst (v := Int32.ofInt (-1)) hx hb dX0_splitNode_56 rfl ?_
        obtain rfl := Option.some.inj h
        exact z_iret hx hb hr hlk (fun _ _ => 0) hP hD hS dX0_splitNode_57
def f_Ch_insertOwn_L30 (k : Int → Int → (Nat → Int) → Int → Int64 → TV → Option ((Nat → Int) × Int × Int64 × TV)) : Nat → Int → Int → (Nat → Int) → Int → Int64 → TV → Option ((Nat → Int) × Int × Int64 × TV)
  | 0, _, _, _, _, _, _ => none
  | n + 1, x2, x3, c_pool, c_left, c_treated, T =>
  bd1 (f_Tr_sizeOf T x2) <| fun r_11 => gd (ck r_11) <| gd (ck (tCap T)) <| if (tCap T) < r_11 then (gd (ck x3) <| if x3 < 1000000 then (bd1 (f_Ch_mayReinsert c_treated T x2) <| fun r_19 => gd (ck r_19) <| if r_19 = 0 then (bd4 (f_Ch_splitNode c_pool c_left T x2) <| fun r_24 c_pool_25 c_left_26 T_27 => f_Ch_insertOwn_L30 k n (r_24) ((x3 + 1)) (c_pool_25) (c_left_26) (c_treated) (T_27)) else (bd3 (f_Ch_reinsertFarthest c_treated T x2) <| fun r_31 c_treated_32 T_33 => f_Ch_insertOwn_L30 k n (r_31) ((x3 + 1)) (c_pool) (c_left) (c_treated_32) (T_33))) else (k (x2) (x3) (c_pool) (c_left) (c_treated) (T))) else (k (x2) (x3) (c_pool) (c_left) (c_treated) (T))
def f_Ch_insertOwn (c_pool : Nat → Int) (c_left : Int) (T : TV) (x1 : Int) : Option ((Nat → Int) × Int × Int64 × TV) :=
  bd1 (f_Ch_targetFor T x1) <| fun r_1 => bd1 (f_Tr_sizeOf T r_1) <| fun r_4 => bd1 (f_Tr_addAt T r_1 r_4 x1) <| fun T_7 => f_Ch_insertOwn_L30 (fun x2_37 x3_38 c_pool_39 c_left_40 c_treated_41 T_42 => some (c_pool_39, c_left_40, c_treated_41, T_42)) FU (r_1) (0) (c_pool) (c_left) ((0 : Int64)) (T_7)
abbrev rm_Ch_insertOwn : Room := ({ frames := 5, cells := 0, slots := 0, locals := 131 } : Room)
theorem mo_Ch_insertOwn_L30 (res : (Nat → Int) × Int × Int64 × TV) (k : Int → Int → (Nat → Int) → Int → Int64 → TV → Option ((Nat → Int) × Int × Int64 × TV)) (hkm : ∀ (x2 : Int) (x3 : Int) (c_pool : Nat → Int) (c_left : Int) (c_treated : Int64) (T : TV) , k x2 x3 c_pool c_left c_treated T = some res → (tR T) ≤ (tR (res.2.2.2))) : ∀ (n : Nat) (x2 : Int) (x3 : Int) (c_pool : Nat → Int) (c_left : Int) (c_treated : Int64) (T : TV) , f_Ch_insertOwn_L30 k n x2 x3 c_pool c_left c_treated T = some res → (tR T) ≤ (tR (res.2.2.2)) := by
  intro n
  induction n with
  | zero => intro x2 x3 c_pool c_left c_treated T h; cases h
  | succ n ihm =>
    intro x2 x3 c_pool c_left c_treated T h
    rw [f_Ch_insertOwn_L30] at h
    obtain ⟨r_11, e_12, h⟩ := bd1_e h
    obtain ⟨g_14, h⟩ := gd_e h
    obtain ⟨g_15, h⟩ := gd_e h
    rcases it_e h with ⟨_, h⟩ | ⟨_, h⟩
    · obtain ⟨g_17, h⟩ := gd_e h
      rcases it_e h with ⟨_, h⟩ | ⟨_, h⟩
      · obtain ⟨r_19, e_20, h⟩ := bd1_e h
        obtain ⟨g_22, h⟩ := gd_e h
        rcases it_e h with ⟨_, h⟩ | ⟨_, h⟩
        · obtain ⟨r_24, c_pool_25, c_left_26, T_27, e_28, h⟩ := bd4_e h
          have mo_30 : (tR T) ≤ (tR T_27) := mo_Ch_splitNode c_pool c_left T x2 (r_24, c_pool_25, c_left_26, T_27) e_28
          have mo9 : (tR T_27) ≤ (tR (res.2.2.2)) := ihm (r_24) ((x3 + 1)) (c_pool_25) (c_left_26) (c_treated) (T_27) h
          exact (show (tR T) ≤ (tR (res.2.2.2)) from by omega)
        · obtain ⟨r_31, c_treated_32, T_33, e_34, h⟩ := bd3_e h
          have mo_36 : (tR T) ≤ (tR T_33) := mo_Ch_reinsertFarthest c_treated T x2 (r_31, c_treated_32, T_33) e_34
          have mo9 : (tR T_33) ≤ (tR (res.2.2.2)) := ihm (r_31) ((x3 + 1)) (c_pool) (c_left) (c_treated_32) (T_33) h
          exact (show (tR T) ≤ (tR (res.2.2.2)) from by omega)
      · have mo9 : (tR T) ≤ (tR (res.2.2.2)) := hkm (x2) (x3) (c_pool) (c_left) (c_treated) (T) h
        exact (show (tR T) ≤ (tR (res.2.2.2)) from by omega)
    · have mo9 : (tR T) ≤ (tR (res.2.2.2)) := hkm (x2) (x3) (c_pool) (c_left) (c_treated) (T) h
      exact (show (tR T) ≤ (tR (res.2.2.2)) from by omega)
theorem mo_Ch_insertOwn (c_pool : Nat → Int) (c_left : Int) (T : TV) (x1 : Int) (res : (Nat → Int) × Int × Int64 × TV) (h : f_Ch_insertOwn c_pool c_left T x1 = some res) : (tR T) ≤ (tR (res.2.2.2)) := by
  unfold f_Ch_insertOwn at h
  obtain ⟨r_1, e_2, h⟩ := bd1_e h
  obtain ⟨r_4, e_5, h⟩ := bd1_e h
  obtain ⟨T_7, e_8, h⟩ := bd1_e h
  have mo_10 : (tR T) ≤ (tR T_7) := mo_Tr_addAt T r_1 r_4 x1 (T_7) e_8
  have mo9 : (tR T_7) ≤ (tR (res.2.2.2)) := mo_Ch_insertOwn_L30  _ _ (fun x2_37 x3_38 c_pool_39 c_left_40 c_treated_41 T_42 h => by
      obtain rfl := Option.some.inj h
      exact (show (tR T_42) ≤ (tR T_42) from by omega)) _ (r_1) (0) (c_pool) (c_left) ((0 : Int64)) (T_7) h
  exact (show (tR T) ≤ (tR (res.2.2.2)) from by omega)
set_option maxHeartbeats 4000000 in
set_option maxRecDepth 100000 in
theorem w_Ch_insertOwn_L30 {p : Program} {l : Launch} {e : Env} {s : State} {m : MethodId} {args : Array Value} {below : List Frame} {meth : Method} {c : Code} {A : Nat → Prop} (D : va_G) (cI cZ cT : ClassId) (h_C : Nat) (q_C : Nat → Nat) (h_T : Nat) (h_LB : Nat) (h_LN : Nat) (q_T : Nat → Nat) (q_LB : Nat → Nat) (q_LN : Nat → Nat) (c_kept : Nat → Int) (c_keptCount : Int) (LB : KV) (LN : KV) (res : (Nat → Int) × Int × Int64 × TV) (k : Int → Int → (Nat → Int) → Int → Int64 → TV → Option ((Nat → Int) × Int × Int64 × TV)) (hF : zF p m c cX0_insertOwn 4 s args yX0_insertOwn.cls meth none yX0_insertOwn.name A D (zt cI cZ cT))
    (hk : ∀ (x2 : Int) (x3 : Int) (c_pool : Nat → Int) (c_left : Int) (c_treated : Int64) (T : TV) (H : Heap) (locs : List Loc) (ls : Array Slot), k x2 x3 c_pool c_left c_treated T = some res → va_P D vwCl ((zCh cI h_C q_C h_T h_LB h_LN c_kept c_keptCount c_pool c_left c_treated) ++ (zTr cI h_T q_T T) ++ (zWk cI h_LB q_LB LB) ++ (zWk cI h_LN q_LN LN)) H → va_D A ((zCh cI h_C q_C h_T h_LB h_LN c_kept c_keptCount c_pool c_left c_treated) ++ (zTr cI h_T q_T T) ++ (zWk cI h_LB q_LB LB) ++ (zWk cI h_LN q_LN LN)) → va_S A s.heap H locs → lv_has ls 4 [] → W p l e rm_Ch_insertOwn s m args below meth c H locs 0 0 (MQ below (zQv D (fun u => (zCh cI h_C q_C h_T h_LB h_LN c_kept c_keptCount (res.1) (res.2.1) (res.2.2.1)) ++ (zTr cI h_T q_T (res.2.2.2)) ++ (zWk cI h_LB q_LB LB) ++ (zWk cI h_LN q_LN LN)) A) args s 0 0 A) (F0 m 82 ls [])) :
    ∀ (n : Nat) (x2 : Int) (x3 : Int) (c_pool : Nat → Int) (c_left : Int) (c_treated : Int64) (T : TV) (H : Heap) (locs : List Loc) (ls : Array Slot), f_Ch_insertOwn_L30 k n x2 x3 c_pool c_left c_treated T = some res → va_P D vwCl ((zCh cI h_C q_C h_T h_LB h_LN c_kept c_keptCount c_pool c_left c_treated) ++ (zTr cI h_T q_T T) ++ (zWk cI h_LB q_LB LB) ++ (zWk cI h_LN q_LN LN)) H → va_D A ((zCh cI h_C q_C h_T h_LB h_LN c_kept c_keptCount c_pool c_left c_treated) ++ (zTr cI h_T q_T T) ++ (zWk cI h_LB q_LB LB) ++ (zWk cI h_LN q_LN LN)) → va_S A s.heap H locs → lv_has ls 4 [(0, .ref h_C), (2, vI x2), (3, vI x3)] → W p l e rm_Ch_insertOwn s m args below meth c H locs 0 0 (MQ below (zQv D (fun u => (zCh cI h_C q_C h_T h_LB h_LN c_kept c_keptCount (res.1) (res.2.1) (res.2.2.1)) ++ (zTr cI h_T q_T (res.2.2.2)) ++ (zWk cI h_LB q_LB LB) ++ (zWk cI h_LN q_LN LN)) A) args s 0 0 A) (F0 m 30 ls []) := by
  have hx := hF.1.1
  have hb := hF.1.2.1
  have hml := hF.1.2.2.1
  have hown : s.vm.findClass "RectangleTree$Changes" = some m.cls := hF.1.2.2.2.1
  have hts := hF.1.2.2.2.2
  have hr := hF.2.1
  have hlk := hF.2.2.1
  have hK := hF.2.2.2.2.1
  have hN := hF.2.2.2.2.2.1
  have hA := hF.2.2.2.2.2.2
  intro n
  induction n with
  | zero => intro x2 x3 c_pool c_left c_treated T  H locs ls h; cases h
  | succ n ih =>
    intro x2 x3 c_pool c_left c_treated T  H locs ls h  hP hD hS hl
    rw [f_Ch_insertOwn_L30] at h
    refine lv_aload_n hx hb dX0_insertOwn_30 rfl (lv_at hl 0 rfl) ?_
    refine va_get (D := D) (ci := 0) (v := .ref h_T) (C := RX0) (T := TX0) (N := 8) hx hb hts zin0 hown hK hP 0 rfl rfl 0 (by decide) (hts _ wm132) (fun _ h9 => h9) rfl dX0_insertOwn_31 ?_
    refine lv_iload_n hx hb dX0_insertOwn_34 rfl (lv_at hl 1 rfl) ?_
    obtain ⟨r_11, e_12, h⟩ := bd1_e h
    refine z_goi (ws' := []) (ret := r_11) (wc := (zTr cI (h_T) (q_T) (T))) (wn := fun u_13 => (zCh cI h_C q_C h_T h_LB h_LN c_kept c_keptCount c_pool c_left c_treated) ++ (zTr cI h_T q_T T) ++ (zWk cI h_LB q_LB LB) ++ (zWk cI h_LN q_LN LN)) (wr := ([0, 1, 2, 9, 10, 11, 12, 13, 14].filterMap (fun i => ((zCh cI h_C q_C h_T h_LB h_LN c_kept c_keptCount c_pool c_left c_treated) ++ (zTr cI h_T q_T T) ++ (zWk cI h_LB q_LB LB) ++ (zWk cI h_LN q_LN LN))[i]?))) (va_runV (As := [vI x2]) (rest := []) hF.1 (c_Tr_sizeOf l D cI cZ cT h_T q_T T x2 H.size (r_11) e_12) (cwV 1 hts (zgV wm510 wm231 wm232 wm33 wm233) rfl rfl rfl (by decide +kernel) ⟨Nat.le_of_ble_eq_true rfl, Nat.le_of_ble_eq_true rfl⟩) ⟨zP.blind, va_recv hK (z_subP (ws' := (zTr cI (h_T) (q_T) (T))) hP [3, 4, 5, 6, 7, 8] rfl) (ci := 4) (q0 := 0) rfl rfl, zP.enter (z_subP (ws' := (zTr cI (h_T) (q_T) (T))) hP [3, 4, 5, 6, 7, 8] rfl) hK (hD.sub [3, 4, 5, 6, 7, 8] (by decide) rfl) hN⟩ rfl rfl hl.1 rfl (lv_room (Nat.le_of_ble_eq_true rfl)) dX0_insertOwn_35 ⟨Nat.le_refl _, Nat.le_refl _⟩) hP hD hS hA [3, 4, 5, 6, 7, 8] [0, 1, 2, 9, 10, 11, 12, 13, 14] [0, 1, 2, 9, 10, 11, 12, 13, 14, 3, 4, 5, 6, 7, 8] rfl rfl (by decide) (fun _ => rfl) (fun u_13 H locs hP hD hS hz => ?_)
    refine lv_aload_n hx hb dX0_insertOwn_38 rfl (lv_at hl 0 rfl) ?_
    refine va_get (D := D) (ci := 0) (v := .ref h_T) (C := RX0) (T := TX0) (N := 8) hx hb hts zin0 hown hK hP 0 rfl rfl 0 (by decide) (hts _ wm132) (fun _ h9 => h9) rfl dX0_insertOwn_39 ?_
    refine va_get (D := D) (ci := 4) (v := vI (tCap T)) (C := RX4) (T := TX4) (N := 10) hx hb hts zin4 hown hK hP 3 rfl rfl 6 (by decide) (hts _ wm73) (fun _ h9 => h9) rfl dX0_insertOwn_42 ?_
    obtain ⟨g_14, h⟩ := gd_e h
    obtain ⟨g_15, h⟩ := gd_e h
    refine z_icmp_le (tgt := 82) hx hb g_14 g_15 dX0_insertOwn_45 (by decide) (fun b_16 => ?_) (fun b_16 => ?_)
    · have h := it_n b_16 h
      exact hk (x2) (x3) (c_pool) (c_left) (c_treated) (T) H locs ls h hP hD hS (lv_sub hl [] rfl)
    · have h := it_p b_16 h
      refine lv_iload_n hx hb dX0_insertOwn_48 rfl (lv_at hl 2 rfl) ?_
      refine lv_ldc (v := Int32.ofInt 1000000) hx hb hown (hts _ wm505) dX0_insertOwn_49 ?_
      obtain ⟨g_17, h⟩ := gd_e h
      refine z_icmp_ge (tgt := 82) hx hb g_17 (by decide) dX0_insertOwn_51 (by decide) (fun b_18 => ?_) (fun b_18 => ?_)
      · have h := it_n b_18 h
        exact hk (x2) (x3) (c_pool) (c_left) (c_treated) (T) H locs ls h hP hD hS (lv_sub hl [] rfl)
      · have h := it_p b_18 h
        refine lv_aload_n hx hb dX0_insertOwn_54 rfl (lv_at hl 0 rfl) ?_
        refine lv_iload_n hx hb dX0_insertOwn_55 rfl (lv_at hl 1 rfl) ?_
        obtain ⟨r_19, e_20, h⟩ := bd1_e h
        refine z_goi (ws' := []) (ret := r_19) (wc := (zCh cI (h_C) (q_C) (h_T) (h_LB) (h_LN) (c_kept) (c_keptCount) (c_pool) (c_left) (c_treated)) ++ (zTr cI (h_T) (q_T) (T)) ++ (zWk cI (h_LB) (q_LB) (LB)) ++ (zWk cI (h_LN) (q_LN) (LN))) (wn := fun u_21 => (zCh cI h_C q_C h_T h_LB h_LN c_kept c_keptCount c_pool c_left c_treated) ++ (zTr cI h_T q_T T) ++ (zWk cI h_LB q_LB LB) ++ (zWk cI h_LN q_LN LN)) (wr := []) (va_runV (As := [vI x2]) (rest := []) hF.1 (c_Ch_mayReinsert l D cI cZ cT h_C q_C h_T h_LB h_LN q_T q_LB q_LN c_kept c_keptCount c_pool c_left c_treated T LB LN x2 H.size (r_19) e_20) (cwV 1 hts (zgV wm530 wm532 wm11 wm35 wm533) rfl rfl rfl (by decide +kernel) ⟨Nat.le_of_ble_eq_true rfl, Nat.le_of_ble_eq_true rfl⟩) ⟨zP.blind, va_recv hK (z_subP (ws' := (zCh cI (h_C) (q_C) (h_T) (h_LB) (h_LN) (c_kept) (c_keptCount) (c_pool) (c_left) (c_treated)) ++ (zTr cI (h_T) (q_T) (T)) ++ (zWk cI (h_LB) (q_LB) (LB)) ++ (zWk cI (h_LN) (q_LN) (LN))) hP [0, 1, 2, 3, 4, 5, 6, 7, 8, 9, 10, 11, 12, 13, 14] rfl) (ci := 0) (q0 := 0) rfl rfl, zP.enter (z_subP (ws' := (zCh cI (h_C) (q_C) (h_T) (h_LB) (h_LN) (c_kept) (c_keptCount) (c_pool) (c_left) (c_treated)) ++ (zTr cI (h_T) (q_T) (T)) ++ (zWk cI (h_LB) (q_LB) (LB)) ++ (zWk cI (h_LN) (q_LN) (LN))) hP [0, 1, 2, 3, 4, 5, 6, 7, 8, 9, 10, 11, 12, 13, 14] rfl) hK (hD.sub [0, 1, 2, 3, 4, 5, 6, 7, 8, 9, 10, 11, 12, 13, 14] (by decide) rfl) hN⟩ rfl rfl hl.1 rfl (lv_room (Nat.le_of_ble_eq_true rfl)) dX0_insertOwn_56 ⟨Nat.le_refl _, Nat.le_refl _⟩) hP hD hS hA [0, 1, 2, 3, 4, 5, 6, 7, 8, 9, 10, 11, 12, 13, 14] [] [0, 1, 2, 3, 4, 5, 6, 7, 8, 9, 10, 11, 12, 13, 14] rfl rfl (by decide) (fun _ => rfl) (fun u_21 H locs hP hD hS hz => ?_)
        obtain ⟨g_22, h⟩ := gd_e h
        refine z_if_eq (tgt := 70) hx hb g_22 dX0_insertOwn_59 (by decide) (fun b_23 => ?_) (fun b_23 => ?_)
        · have h := it_p b_23 h
          refine lv_aload_n hx hb dX0_insertOwn_70 rfl (lv_at hl 0 rfl) ?_
          refine lv_iload_n hx hb dX0_insertOwn_71 rfl (lv_at hl 1 rfl) ?_
          obtain ⟨r_24, c_pool_25, c_left_26, T_27, e_28, h⟩ := bd4_e h
          have mo_30 : (tR T) ≤ (tR T_27) := mo_Ch_splitNode c_pool c_left T x2 (r_24, c_pool_25, c_left_26, T_27) e_28
          refine z_goi (ws' := []) (ret := r_24) (wc := (zCh cI (h_C) (q_C) (h_T) (h_LB) (h_LN) (c_kept) (c_keptCount) (c_pool) (c_left) (c_treated)) ++ (zTr cI (h_T) (q_T) (T)) ++ (zWk cI (h_LB) (q_LB) (LB)) ++ (zWk cI (h_LN) (q_LN) (LN))) (wn := fun u_29 => (zCh cI h_C q_C h_T h_LB h_LN c_kept c_keptCount c_pool_25 c_left_26 c_treated) ++ (zTr cI h_T q_T T_27) ++ (zWk cI h_LB q_LB LB) ++ (zWk cI h_LN q_LN LN)) (wr := []) (va_runV (As := [vI x2]) (rest := []) hF.1 (c_Ch_splitNode l D cI cZ cT h_C q_C h_T h_LB h_LN q_T q_LB q_LN c_kept c_keptCount c_pool c_left c_treated T LB LN x2 H.size (r_24, c_pool_25, c_left_26, T_27) e_28) (cwV 1 hts (zgV wm560 wm562 wm15 wm35 wm563) rfl rfl rfl (by decide +kernel) ⟨Nat.le_of_ble_eq_true rfl, Nat.le_of_ble_eq_true rfl⟩) ⟨zP.blind, va_recv hK (z_subP (ws' := (zCh cI (h_C) (q_C) (h_T) (h_LB) (h_LN) (c_kept) (c_keptCount) (c_pool) (c_left) (c_treated)) ++ (zTr cI (h_T) (q_T) (T)) ++ (zWk cI (h_LB) (q_LB) (LB)) ++ (zWk cI (h_LN) (q_LN) (LN))) hP [0, 1, 2, 3, 4, 5, 6, 7, 8, 9, 10, 11, 12, 13, 14] rfl) (ci := 0) (q0 := 0) rfl rfl, zP.enter (z_subP (ws' := (zCh cI (h_C) (q_C) (h_T) (h_LB) (h_LN) (c_kept) (c_keptCount) (c_pool) (c_left) (c_treated)) ++ (zTr cI (h_T) (q_T) (T)) ++ (zWk cI (h_LB) (q_LB) (LB)) ++ (zWk cI (h_LN) (q_LN) (LN))) hP [0, 1, 2, 3, 4, 5, 6, 7, 8, 9, 10, 11, 12, 13, 14] rfl) hK (hD.sub [0, 1, 2, 3, 4, 5, 6, 7, 8, 9, 10, 11, 12, 13, 14] (by decide) rfl) hN⟩ rfl rfl hl.1 rfl (lv_room (Nat.le_of_ble_eq_true rfl)) dX0_insertOwn_72 ⟨Nat.le_refl _, Nat.le_refl _⟩) hP hD hS hA [0, 1, 2, 3, 4, 5, 6, 7, 8, 9, 10, 11, 12, 13, 14] [] [0, 1, 2, 3, 4, 5, 6, 7, 8, 9, 10, 11, 12, 13, 14] rfl rfl (by decide) (fun _ => rfl) (fun u_29 H locs hP hD hS hz => ?_)
          refine lv_istore_n (lv' := [(2, vI r_24), (0, .ref h_C), (3, vI x3)]) hx hb dX0_insertOwn_75 rfl hl (by decide) rfl (fun ls hl => ?_)
          refine lv_iinc (v := Int32.ofInt (x3 + 1)) (lv' := [(3, vI (x3 + 1)), (2, vI r_24), (0, .ref h_C)]) hx hb dX0_insertOwn_76 hl (k := 2) rfl (z_inc _ _) (by decide) rfl (fun ls hl => ?_)
          refine lv_goto (tgt := 30) hx hb dX0_insertOwn_79 (by decide) ?_
          exact ih (r_24) ((x3 + 1)) (c_pool_25) (c_left_26) (c_treated) (T_27) H locs ls h hP hD hS (lv_sub hl [2, 1, 0] rfl)
        · have h := it_n b_23 h
          refine lv_aload_n hx hb dX0_insertOwn_62 rfl (lv_at hl 0 rfl) ?_
          refine lv_iload_n hx hb dX0_insertOwn_63 rfl (lv_at hl 1 rfl) ?_
          obtain ⟨r_31, c_treated_32, T_33, e_34, h⟩ := bd3_e h
          have mo_36 : (tR T) ≤ (tR T_33) := mo_Ch_reinsertFarthest c_treated T x2 (r_31, c_treated_32, T_33) e_34
          refine z_goi (ws' := []) (ret := r_31) (wc := (zCh cI (h_C) (q_C) (h_T) (h_LB) (h_LN) (c_kept) (c_keptCount) (c_pool) (c_left) (c_treated)) ++ (zTr cI (h_T) (q_T) (T)) ++ (zWk cI (h_LB) (q_LB) (LB)) ++ (zWk cI (h_LN) (q_LN) (LN))) (wn := fun u_35 => (zCh cI h_C q_C h_T h_LB h_LN c_kept c_keptCount c_pool c_left c_treated_32) ++ (zTr cI h_T q_T T_33) ++ (zWk cI h_LB q_LB LB) ++ (zWk cI h_LN q_LN LN)) (wr := []) (va_runV (As := [vI x2]) (rest := []) hF.1 (c_Ch_reinsertFarthest l D cI cZ cT h_C q_C h_T h_LB h_LN q_T q_LB q_LN c_kept c_keptCount c_pool c_left c_treated T LB LN x2 H.size (r_31, c_treated_32, T_33) e_34) (cwV 1 hts (zgV wm534 wm536 wm12 wm35 wm537) rfl rfl rfl (by decide +kernel) ⟨Nat.le_of_ble_eq_true rfl, Nat.le_of_ble_eq_true rfl⟩) ⟨zP.blind, va_recv hK (z_subP (ws' := (zCh cI (h_C) (q_C) (h_T) (h_LB) (h_LN) (c_kept) (c_keptCount) (c_pool) (c_left) (c_treated)) ++ (zTr cI (h_T) (q_T) (T)) ++ (zWk cI (h_LB) (q_LB) (LB)) ++ (zWk cI (h_LN) (q_LN) (LN))) hP [0, 1, 2, 3, 4, 5, 6, 7, 8, 9, 10, 11, 12, 13, 14] rfl) (ci := 0) (q0 := 0) rfl rfl, zP.enter (z_subP (ws' := (zCh cI (h_C) (q_C) (h_T) (h_LB) (h_LN) (c_kept) (c_keptCount) (c_pool) (c_left) (c_treated)) ++ (zTr cI (h_T) (q_T) (T)) ++ (zWk cI (h_LB) (q_LB) (LB)) ++ (zWk cI (h_LN) (q_LN) (LN))) hP [0, 1, 2, 3, 4, 5, 6, 7, 8, 9, 10, 11, 12, 13, 14] rfl) hK (hD.sub [0, 1, 2, 3, 4, 5, 6, 7, 8, 9, 10, 11, 12, 13, 14] (by decide) rfl) hN⟩ rfl rfl hl.1 rfl (lv_room (Nat.le_of_ble_eq_true rfl)) dX0_insertOwn_64 ⟨Nat.le_refl _, Nat.le_refl _⟩) hP hD hS hA [0, 1, 2, 3, 4, 5, 6, 7, 8, 9, 10, 11, 12, 13, 14] [] [0, 1, 2, 3, 4, 5, 6, 7, 8, 9, 10, 11, 12, 13, 14] rfl rfl (by decide) (fun _ => rfl) (fun u_35 H locs hP hD hS hz => ?_)
          refine lv_goto (tgt := 75) hx hb dX0_insertOwn_67 (by decide) ?_
          refine lv_istore_n (lv' := [(2, vI r_31), (0, .ref h_C), (3, vI x3)]) hx hb dX0_insertOwn_75 rfl hl (by decide) rfl (fun ls hl => ?_)
          refine lv_iinc (v := Int32.ofInt (x3 + 1)) (lv' := [(3, vI (x3 + 1)), (2, vI r_31), (0, .ref h_C)]) hx hb dX0_insertOwn_76 hl (k := 2) rfl (z_inc _ _) (by decide) rfl (fun ls hl => ?_)
          refine lv_goto (tgt := 30) hx hb dX0_insertOwn_79 (by decide) ?_
          exact ih (r_31) ((x3 + 1)) (c_pool) (c_left) (c_treated_32) (T_33) H locs ls h hP hD hS (lv_sub hl [2, 1, 0] rfl)
set_option maxHeartbeats 4000000 in
set_option maxRecDepth 100000 in
theorem c_Ch_insertOwn (l : Launch) (D : va_G) (cI cZ cT : ClassId) (h_C : Nat) (q_C : Nat → Nat) (h_T : Nat) (h_LB : Nat) (h_LN : Nat) (q_T : Nat → Nat) (q_LB : Nat → Nat) (q_LN : Nat → Nat) (c_kept : Nat → Int) (c_keptCount : Int) (c_pool : Nat → Int) (c_left : Int) (c_treated : Int64) (T : TV) (LB : KV) (LN : KV) (x1 : Int) (sz : Nat) (res : (Nat → Int) × Int × Int64 × TV) (h : f_Ch_insertOwn c_pool c_left T x1 = some res) : zMv l yX0_insertOwn cX0_insertOwn 4 rm_Ch_insertOwn D (zt cI cZ cT) [.ref h_C, vI x1] ((zCh cI h_C q_C h_T h_LB h_LN c_kept c_keptCount c_pool c_left c_treated) ++ (zTr cI h_T q_T T) ++ (zWk cI h_LB q_LB LB) ++ (zWk cI h_LN q_LN LN)) sz (fun u => (zCh cI h_C q_C h_T h_LB h_LN c_kept c_keptCount (res.1) (res.2.1) (res.2.2.1)) ++ (zTr cI h_T q_T (res.2.2.2)) ++ (zWk cI h_LB q_LB LB) ++ (zWk cI h_LN q_LN LN)) 0 0 := by
  refine z_enth (Qc := zQv D (fun u => (zCh cI h_C q_C h_T h_LB h_LN c_kept c_keptCount (res.1) (res.2.1) (res.2.2.1)) ++ (zTr cI h_T q_T (res.2.2.2)) ++ (zWk cI h_LB q_LB LB) ++ (zWk cI h_LN q_LN LN))) (by decide) (Nat.le_of_ble_eq_true rfl) (fun p e s m args below meth c A ls H locs hF hP hD hS hl => ?_)
  have hx := hF.1.1
  have hb := hF.1.2.1
  have hml := hF.1.2.2.1
  have hown : s.vm.findClass "RectangleTree$Changes" = some m.cls := hF.1.2.2.2.1
  have hts := hF.1.2.2.2.2
  have hr := hF.2.1
  have hlk := hF.2.2.1
  have hK := hF.2.2.2.2.1
  have hN := hF.2.2.2.2.2.1
  have hA := hF.2.2.2.2.2.2
  unfold f_Ch_insertOwn at h
  refine lv_aload_n hx hb dX0_insertOwn_0 rfl (lv_at hl 0 rfl) ?_
  refine lv_lconst (v := 0) hx hb dX0_insertOwn_1 rfl ?_
  refine va_put (D := D) (ci := 0) (v := .long (0 : Int64)) (ty := .long) (C := RX0) (T := TX0) (N := 8) hx hb hts zin0 tyX0 tyX0_ok nmX0 hown hK hP hD hS 0 rfl rfl 5 (by decide) (hts _ wm137) (fun _ h9 => h9) rfl (by decide +kernel) rfl rfl (Nat.le_of_ble_eq_true rfl) dX0_insertOwn_2 (fun H locs hP hD hS => ?_)
  replace hP : va_P D vwCl ((zCh cI h_C q_C h_T h_LB h_LN c_kept c_keptCount c_pool c_left (0 : Int64)) ++ (zTr cI h_T q_T T) ++ (zWk cI h_LB q_LB LB) ++ (zWk cI h_LN q_LN LN)) H := hP
  replace hD : va_D A ((zCh cI h_C q_C h_T h_LB h_LN c_kept c_keptCount c_pool c_left (0 : Int64)) ++ (zTr cI h_T q_T T) ++ (zWk cI h_LB q_LB LB) ++ (zWk cI h_LN q_LN LN)) := hD
  refine lv_aload_n hx hb dX0_insertOwn_5 rfl (lv_at hl 0 rfl) ?_
  refine lv_iload_n hx hb dX0_insertOwn_6 rfl (lv_at hl 1 rfl) ?_
  obtain ⟨r_1, e_2, h⟩ := bd1_e h
  refine z_goi (ws' := []) (ret := r_1) (wc := (zCh cI (h_C) (q_C) (h_T) (h_LB) (h_LN) (c_kept) (c_keptCount) (c_pool) (c_left) ((0 : Int64))) ++ (zTr cI (h_T) (q_T) (T)) ++ (zWk cI (h_LB) (q_LB) (LB)) ++ (zWk cI (h_LN) (q_LN) (LN))) (wn := fun u_3 => (zCh cI h_C q_C h_T h_LB h_LN c_kept c_keptCount c_pool c_left (0 : Int64)) ++ (zTr cI h_T q_T T) ++ (zWk cI h_LB q_LB LB) ++ (zWk cI h_LN q_LN LN)) (wr := []) (va_runV (As := [vI x1]) (rest := []) hF.1 (c_Ch_targetFor l D cI cZ cT h_C q_C h_T h_LB h_LN q_T q_LB q_LN c_kept c_keptCount c_pool c_left (0 : Int64) T LB LN x1 H.size (r_1) e_2) (cwV 1 hts (zgV wm500 wm502 wm8 wm35 wm503) rfl rfl rfl (by decide +kernel) ⟨Nat.le_of_ble_eq_true rfl, Nat.le_of_ble_eq_true rfl⟩) ⟨zP.blind, va_recv hK (z_subP (ws' := (zCh cI (h_C) (q_C) (h_T) (h_LB) (h_LN) (c_kept) (c_keptCount) (c_pool) (c_left) ((0 : Int64))) ++ (zTr cI (h_T) (q_T) (T)) ++ (zWk cI (h_LB) (q_LB) (LB)) ++ (zWk cI (h_LN) (q_LN) (LN))) hP [0, 1, 2, 3, 4, 5, 6, 7, 8, 9, 10, 11, 12, 13, 14] rfl) (ci := 0) (q0 := 0) rfl rfl, zP.enter (z_subP (ws' := (zCh cI (h_C) (q_C) (h_T) (h_LB) (h_LN) (c_kept) (c_keptCount) (c_pool) (c_left) ((0 : Int64))) ++ (zTr cI (h_T) (q_T) (T)) ++ (zWk cI (h_LB) (q_LB) (LB)) ++ (zWk cI (h_LN) (q_LN) (LN))) hP [0, 1, 2, 3, 4, 5, 6, 7, 8, 9, 10, 11, 12, 13, 14] rfl) hK (hD.sub [0, 1, 2, 3, 4, 5, 6, 7, 8, 9, 10, 11, 12, 13, 14] (by decide) rfl) hN⟩ rfl rfl hl.1 rfl (lv_room (Nat.le_of_ble_eq_true rfl)) dX0_insertOwn_7 ⟨Nat.le_refl _, Nat.le_refl _⟩) hP hD hS hA [0, 1, 2, 3, 4, 5, 6, 7, 8, 9, 10, 11, 12, 13, 14] [] [0, 1, 2, 3, 4, 5, 6, 7, 8, 9, 10, 11, 12, 13, 14] rfl rfl (by decide) (fun _ => rfl) (fun u_3 H locs hP hD hS hz => ?_)
  refine lv_istore_n (lv' := [(2, vI r_1), (0, .ref h_C), (1, vI x1)]) hx hb dX0_insertOwn_10 rfl hl (by decide) rfl (fun ls hl => ?_)
  refine lv_aload_n hx hb dX0_insertOwn_11 rfl (lv_at hl 1 rfl) ?_
  refine va_get (D := D) (ci := 0) (v := .ref h_T) (C := RX0) (T := TX0) (N := 8) hx hb hts zin0 hown hK hP 0 rfl rfl 0 (by decide) (hts _ wm132) (fun _ h9 => h9) rfl dX0_insertOwn_12 ?_
  refine lv_iload_n hx hb dX0_insertOwn_15 rfl (lv_at hl 0 rfl) ?_
  refine lv_aload_n hx hb dX0_insertOwn_16 rfl (lv_at hl 1 rfl) ?_
  refine va_get (D := D) (ci := 0) (v := .ref h_T) (C := RX0) (T := TX0) (N := 8) hx hb hts zin0 hown hK hP 0 rfl rfl 0 (by decide) (hts _ wm132) (fun _ h9 => h9) rfl dX0_insertOwn_17 ?_
  refine lv_iload_n hx hb dX0_insertOwn_20 rfl (lv_at hl 0 rfl) ?_
  obtain ⟨r_4, e_5, h⟩ := bd1_e h
  refine z_goi (ws' := []) (ret := r_4) (wc := (zTr cI (h_T) (q_T) (T))) (wn := fun u_6 => (zCh cI h_C q_C h_T h_LB h_LN c_kept c_keptCount c_pool c_left (0 : Int64)) ++ (zTr cI h_T q_T T) ++ (zWk cI h_LB q_LB LB) ++ (zWk cI h_LN q_LN LN)) (wr := ([0, 1, 2, 9, 10, 11, 12, 13, 14].filterMap (fun i => ((zCh cI h_C q_C h_T h_LB h_LN c_kept c_keptCount c_pool c_left (0 : Int64)) ++ (zTr cI h_T q_T T) ++ (zWk cI h_LB q_LB LB) ++ (zWk cI h_LN q_LN LN))[i]?))) (va_runV (As := [vI r_1]) (rest := [vI r_1, .ref h_T]) hF.1 (c_Tr_sizeOf l D cI cZ cT h_T q_T T r_1 H.size (r_4) e_5) (cwV 1 hts (zgV wm510 wm231 wm232 wm33 wm233) rfl rfl rfl (by decide +kernel) ⟨Nat.le_of_ble_eq_true rfl, Nat.le_of_ble_eq_true rfl⟩) ⟨zP.blind, va_recv hK (z_subP (ws' := (zTr cI (h_T) (q_T) (T))) hP [3, 4, 5, 6, 7, 8] rfl) (ci := 4) (q0 := 0) rfl rfl, zP.enter (z_subP (ws' := (zTr cI (h_T) (q_T) (T))) hP [3, 4, 5, 6, 7, 8] rfl) hK (hD.sub [3, 4, 5, 6, 7, 8] (by decide) rfl) hN⟩ rfl rfl hl.1 rfl (lv_room (Nat.le_of_ble_eq_true rfl)) dX0_insertOwn_21 ⟨Nat.le_refl _, Nat.le_refl _⟩) hP hD hS hA [3, 4, 5, 6, 7, 8] [0, 1, 2, 9, 10, 11, 12, 13, 14] [0, 1, 2, 9, 10, 11, 12, 13, 14, 3, 4, 5, 6, 7, 8] rfl rfl (by decide) (fun _ => rfl) (fun u_6 H locs hP hD hS hz => ?_)
  refine lv_iload_n hx hb dX0_insertOwn_24 rfl (lv_at hl 2 rfl) ?_
  obtain ⟨T_7, e_8, h⟩ := bd1_e h
  have mo_10 : (tR T) ≤ (tR T_7) := mo_Tr_addAt T r_1 r_4 x1 (T_7) e_8
  refine z_gov (wc := (zTr cI (h_T) (q_T) (T))) (wn := fun u_9 => (zCh cI h_C q_C h_T h_LB h_LN c_kept c_keptCount c_pool c_left (0 : Int64)) ++ (zTr cI h_T q_T T_7) ++ (zWk cI h_LB q_LB LB) ++ (zWk cI h_LN q_LN LN)) (wr := ([0, 1, 2, 9, 10, 11, 12, 13, 14].filterMap (fun i => ((zCh cI h_C q_C h_T h_LB h_LN c_kept c_keptCount c_pool c_left (0 : Int64)) ++ (zTr cI h_T q_T T) ++ (zWk cI h_LB q_LB LB) ++ (zWk cI h_LN q_LN LN))[i]?))) (va_runV (As := [vI r_1, vI r_4, vI x1]) (rest := []) hF.1 (c_Tr_addAt l D cI cZ cT h_T q_T T r_1 r_4 x1 H.size (T_7) e_8) (cwV 3 hts (zgV wm517 wm518 wm519 wm33 wm520) rfl rfl rfl (by decide +kernel) ⟨Nat.le_of_ble_eq_true rfl, Nat.le_of_ble_eq_true rfl⟩) ⟨zP.blind, va_recv hK (z_subP (ws' := (zTr cI (h_T) (q_T) (T))) hP [3, 4, 5, 6, 7, 8] rfl) (ci := 4) (q0 := 0) rfl rfl, zP.enter (z_subP (ws' := (zTr cI (h_T) (q_T) (T))) hP [3, 4, 5, 6, 7, 8] rfl) hK (hD.sub [3, 4, 5, 6, 7, 8] (by decide) rfl) hN⟩ rfl rfl hl.1 rfl (lv_room (Nat.le_of_ble_eq_true rfl)) dX0_insertOwn_25 ⟨Nat.le_refl _, Nat.le_refl _⟩) hP hD hS hA [3, 4, 5, 6, 7, 8] [0, 1, 2, 9, 10, 11, 12, 13, 14] [0, 1, 2, 9, 10, 11, 12, 13, 14, 3, 4, 5, 6, 7, 8] rfl rfl (by decide) (fun _ => rfl) (fun u_9 H locs hP hD hS hz => ?_)
  refine lv_iconst (v := Int32.ofInt 0) hx hb dX0_insertOwn_28 rfl ?_
  refine lv_istore_n (lv' := [(3, vI 0), (2, vI r_1), (0, .ref h_C), (1, vI x1)]) hx hb dX0_insertOwn_29 rfl hl (by decide) rfl (fun ls hl => ?_)
  refine w_Ch_insertOwn_L30 D cI cZ cT (h_C) (q_C) (h_T) (h_LB) (h_LN) (q_T) (q_LB) (q_LN) (c_kept) (c_keptCount) (LB) (LN) _ _ hF (fun x2_37 x3_38 c_pool_39 c_left_40 c_treated_41 T_42 H locs ls h hP hD hS hl => ?_) _ (r_1) (0) (c_pool) (c_left) ((0 : Int64)) (T_7) _ _ _ h hP hD hS (lv_sub hl [2, 1, 0] rfl)
  obtain rfl := Option.some.inj h
  exact z_vret hx hb hr hlk (fun _ _ => 0) hP hD hS dX0_insertOwn_82
def f_Ch_dissolve_L28 (LB : KV) (k : Int → TV → Option (TV × KV × KV)) : Nat → Int → TV → Option (TV × KV × KV)
  | 0, _, _ => none
  | n + 1, x2, T =>
  gd (ck x2) <| gd (ck (kCnt LB)) <| if x2 < (kCnt LB) then (bd1 (f_Rt_at (kLen LB) (kItm LB) x2) <| fun r_12 => bd1 (f_Tr_setLoose T r_12) <| fun T_15 => f_Ch_dissolve_L28 LB k n ((x2 + 1)) (T_15)) else (k (x2) (T))
def f_Ch_dissolve_L65 (LN : KV) (k : Int → TV → Option (TV × KV × KV)) : Nat → Int → TV → Option (TV × KV × KV)
  | 0, _, _ => none
  | n + 1, x2, T =>
  gd (ck x2) <| gd (ck (kCnt LN)) <| if x2 < (kCnt LN) then (bd1 (f_Rt_at (kLen LN) (kItm LN) x2) <| fun r_24 => bd1 (f_Tr_release T r_24) <| fun T_27 => f_Ch_dissolve_L65 LN k n ((x2 + 1)) (T_27)) else (k (x2) (T))
def f_Ch_dissolve (T : TV) (LB : KV) (LN : KV) (x1 : Int) : Option (TV × KV × KV) :=
  bd1 (f_Wk_gather LB T x1 0) <| fun LB_1 => bd1 (f_Wk_gather LN T x1 1) <| fun LN_5 => f_Ch_dissolve_L28 (LB_1) (fun x2_19 T_20 => f_Ch_dissolve_L65 (LN_5) (fun x2_31 T_32 => some (T_32, LB_1, LN_5)) FU (0) (T_20)) FU (0) (T)
abbrev rm_Ch_dissolve : Room := ({ frames := 3, cells := 0, slots := 0, locals := 70 } : Room)
theorem mo_Ch_dissolve_L28 (LB : KV) (LN : KV) (res : TV × KV × KV) (k : Int → TV → Option (TV × KV × KV)) (hkm : ∀ (x2 : Int) (T : TV) , k x2 T = some res → (tR T) ≤ (tR (res.1)) ∧ (kLen LB) ≤ (kLen (res.2.1)) ∧ (kLen LN) ≤ (kLen (res.2.2))) : ∀ (n : Nat) (x2 : Int) (T : TV) , f_Ch_dissolve_L28 LB k n x2 T = some res → (tR T) ≤ (tR (res.1)) ∧ (kLen LB) ≤ (kLen (res.2.1)) ∧ (kLen LN) ≤ (kLen (res.2.2)) := by
  intro n
  induction n with
  | zero => intro x2 T h; cases h
  | succ n ihm =>
    intro x2 T h
    rw [f_Ch_dissolve_L28] at h
    obtain ⟨g_9, h⟩ := gd_e h
    obtain ⟨g_10, h⟩ := gd_e h
    rcases it_e h with ⟨_, h⟩ | ⟨_, h⟩
    · obtain ⟨r_12, e_13, h⟩ := bd1_e h
      obtain ⟨T_15, e_16, h⟩ := bd1_e h
      have mo_18 : (tR T) ≤ (tR T_15) := mo_Tr_setLoose T r_12 (T_15) e_16
      have mo9 : (tR T_15) ≤ (tR (res.1)) ∧ (kLen LB) ≤ (kLen (res.2.1)) ∧ (kLen LN) ≤ (kLen (res.2.2)) := ihm ((x2 + 1)) (T_15) h
      exact ⟨(show (tR T) ≤ (tR (res.1)) from by omega), (show (kLen LB) ≤ (kLen (res.2.1)) from by omega), (show (kLen LN) ≤ (kLen (res.2.2)) from by omega)⟩
    · have mo9 : (tR T) ≤ (tR (res.1)) ∧ (kLen LB) ≤ (kLen (res.2.1)) ∧ (kLen LN) ≤ (kLen (res.2.2)) := hkm (x2) (T) h
      exact ⟨(show (tR T) ≤ (tR (res.1)) from by omega), (show (kLen LB) ≤ (kLen (res.2.1)) from by omega), (show (kLen LN) ≤ (kLen (res.2.2)) from by omega)⟩
theorem mo_Ch_dissolve_L65 (LB : KV) (LN : KV) (res : TV × KV × KV) (k : Int → TV → Option (TV × KV × KV)) (hkm : ∀ (x2 : Int) (T : TV) , k x2 T = some res → (tR T) ≤ (tR (res.1)) ∧ (kLen LB) ≤ (kLen (res.2.1)) ∧ (kLen LN) ≤ (kLen (res.2.2))) : ∀ (n : Nat) (x2 : Int) (T : TV) , f_Ch_dissolve_L65 LN k n x2 T = some res → (tR T) ≤ (tR (res.1)) ∧ (kLen LB) ≤ (kLen (res.2.1)) ∧ (kLen LN) ≤ (kLen (res.2.2)) := by
  intro n
  induction n with
  | zero => intro x2 T h; cases h
  | succ n ihm =>
    intro x2 T h
    rw [f_Ch_dissolve_L65] at h
    obtain ⟨g_21, h⟩ := gd_e h
    obtain ⟨g_22, h⟩ := gd_e h
    rcases it_e h with ⟨_, h⟩ | ⟨_, h⟩
    · obtain ⟨r_24, e_25, h⟩ := bd1_e h
      obtain ⟨T_27, e_28, h⟩ := bd1_e h
      have mo_30 : (tR T) ≤ (tR T_27) := mo_Tr_release T r_24 (T_27) e_28
      have mo9 : (tR T_27) ≤ (tR (res.1)) ∧ (kLen LB) ≤ (kLen (res.2.1)) ∧ (kLen LN) ≤ (kLen (res.2.2)) := ihm ((x2 + 1)) (T_27) h
      exact ⟨(show (tR T) ≤ (tR (res.1)) from by omega), (show (kLen LB) ≤ (kLen (res.2.1)) from by omega), (show (kLen LN) ≤ (kLen (res.2.2)) from by omega)⟩
    · have mo9 : (tR T) ≤ (tR (res.1)) ∧ (kLen LB) ≤ (kLen (res.2.1)) ∧ (kLen LN) ≤ (kLen (res.2.2)) := hkm (x2) (T) h
      exact ⟨(show (tR T) ≤ (tR (res.1)) from by omega), (show (kLen LB) ≤ (kLen (res.2.1)) from by omega), (show (kLen LN) ≤ (kLen (res.2.2)) from by omega)⟩
theorem mo_Ch_dissolve (T : TV) (LB : KV) (LN : KV) (x1 : Int) (res : TV × KV × KV) (h : f_Ch_dissolve T LB LN x1 = some res) : (tR T) ≤ (tR (res.1)) ∧ (kLen LB) ≤ (kLen (res.2.1)) ∧ (kLen LN) ≤ (kLen (res.2.2)) := by
  unfold f_Ch_dissolve at h
  obtain ⟨LB_1, e_2, h⟩ := bd1_e h
  have mo_4 : (kLen LB) ≤ (kLen LB_1) := mo_Wk_gather LB T x1 0 (LB_1) e_2
  obtain ⟨LN_5, e_6, h⟩ := bd1_e h
  have mo_8 : (kLen LN) ≤ (kLen LN_5) := mo_Wk_gather LN T x1 1 (LN_5) e_6
  have mo9 : (tR T) ≤ (tR (res.1)) ∧ (kLen LB_1) ≤ (kLen (res.2.1)) ∧ (kLen LN_5) ≤ (kLen (res.2.2)) := mo_Ch_dissolve_L28 (LB_1) (LN_5) _ _ (fun x2_19 T_20 h => by
      have mo9 : (tR T_20) ≤ (tR (res.1)) ∧ (kLen LB_1) ≤ (kLen (res.2.1)) ∧ (kLen LN_5) ≤ (kLen (res.2.2)) := mo_Ch_dissolve_L65 (LB_1) (LN_5) _ _ (fun x2_31 T_32 h => by
          obtain rfl := Option.some.inj h
          exact ⟨(show (tR T_32) ≤ (tR T_32) from by omega), (show (kLen LB_1) ≤ (kLen LB_1) from by omega), (show (kLen LN_5) ≤ (kLen LN_5) from by omega)⟩) _ (0) (T_20) h
      exact ⟨(show (tR T_20) ≤ (tR (res.1)) from by omega), (show (kLen LB_1) ≤ (kLen (res.2.1)) from by omega), (show (kLen LN_5) ≤ (kLen (res.2.2)) from by omega)⟩) _ (0) (T) h
  exact ⟨(show (tR T) ≤ (tR (res.1)) from by omega), (show (kLen LB) ≤ (kLen (res.2.1)) from by omega), (show (kLen LN) ≤ (kLen (res.2.2)) from by omega)⟩
set_option maxHeartbeats 4000000 in
set_option maxRecDepth 100000 in
theorem w_Ch_dissolve_L28 {p : Program} {l : Launch} {e : Env} {s : State} {m : MethodId} {args : Array Value} {below : List Frame} {meth : Method} {c : Code} {A : Nat → Prop} (D : va_G) (cI cZ cT : ClassId) (h_C : Nat) (q_C : Nat → Nat) (h_T : Nat) (h_LB : Nat) (h_LN : Nat) (q_T : Nat → Nat) (q_LB : Nat → Nat) (q_LN : Nat → Nat) (c_kept : Nat → Int) (c_keptCount : Int) (c_pool : Nat → Int) (c_left : Int) (c_treated : Int64) (LB : KV) (LN : KV) (res : TV × KV × KV) (k : Int → TV → Option (TV × KV × KV)) (hF : zF p m c cX0_dissolve 3 s args yX0_dissolve.cls meth none yX0_dissolve.name A D (zt cI cZ cT))
    (hk : ∀ (x2 : Int) (T : TV) (H : Heap) (locs : List Loc) (ls : Array Slot), k x2 T = some res → va_P D vwCl ((zCh cI h_C q_C h_T h_LB h_LN c_kept c_keptCount c_pool c_left c_treated) ++ (zTr cI h_T q_T T) ++ (zWk cI h_LB q_LB LB) ++ (zWk cI h_LN q_LN LN)) H → va_D A ((zCh cI h_C q_C h_T h_LB h_LN c_kept c_keptCount c_pool c_left c_treated) ++ (zTr cI h_T q_T T) ++ (zWk cI h_LB q_LB LB) ++ (zWk cI h_LN q_LN LN)) → va_S A s.heap H locs → lv_has ls 3 [(0, .ref h_C)] → W p l e rm_Ch_dissolve s m args below meth c H locs 0 0 (MQ below (zQv D (fun u => (zCh cI h_C q_C h_T h_LB h_LN c_kept c_keptCount c_pool c_left c_treated) ++ (zTr cI h_T q_T (res.1)) ++ (zWk cI h_LB q_LB (res.2.1)) ++ (zWk cI h_LN q_LN (res.2.2))) A) args s 0 0 A) (F0 m 63 ls [])) :
    ∀ (n : Nat) (x2 : Int) (T : TV) (H : Heap) (locs : List Loc) (ls : Array Slot), f_Ch_dissolve_L28 LB k n x2 T = some res → va_P D vwCl ((zCh cI h_C q_C h_T h_LB h_LN c_kept c_keptCount c_pool c_left c_treated) ++ (zTr cI h_T q_T T) ++ (zWk cI h_LB q_LB LB) ++ (zWk cI h_LN q_LN LN)) H → va_D A ((zCh cI h_C q_C h_T h_LB h_LN c_kept c_keptCount c_pool c_left c_treated) ++ (zTr cI h_T q_T T) ++ (zWk cI h_LB q_LB LB) ++ (zWk cI h_LN q_LN LN)) → va_S A s.heap H locs → lv_has ls 3 [(0, .ref h_C), (2, vI x2)] → W p l e rm_Ch_dissolve s m args below meth c H locs 0 0 (MQ below (zQv D (fun u => (zCh cI h_C q_C h_T h_LB h_LN c_kept c_keptCount c_pool c_left c_treated) ++ (zTr cI h_T q_T (res.1)) ++ (zWk cI h_LB q_LB (res.2.1)) ++ (zWk cI h_LN q_LN (res.2.2))) A) args s 0 0 A) (F0 m 28 ls []) := by
  have hx := hF.1.1
  have hb := hF.1.2.1
  have hml := hF.1.2.2.1
  have hown : s.vm.findClass "RectangleTree$Changes" = some m.cls := hF.1.2.2.2.1
  have hts := hF.1.2.2.2.2
  have hr := hF.2.1
  have hlk := hF.2.2.1
  have hK := hF.2.2.2.2.1
  have hN := hF.2.2.2.2.2.1
  have hA := hF.2.2.2.2.2.2
  intro n
  induction n with
  | zero => intro x2 T  H locs ls h; cases h
  | succ n ih =>
    intro x2 T  H locs ls h  hP hD hS hl
    rw [f_Ch_dissolve_L28] at h
    refine lv_iload_n hx hb dX0_dissolve_28 rfl (lv_at hl 1 rfl) ?_
    refine lv_aload_n hx hb dX0_dissolve_29 rfl (lv_at hl 0 rfl) ?_
    refine va_get (D := D) (ci := 0) (v := .ref h_LB) (C := RX0) (T := TX0) (N := 8) hx hb hts zin0 hown hK hP 0 rfl rfl 6 (by decide) (hts _ wm138) (fun _ h9 => h9) rfl dX0_dissolve_30 ?_
    refine va_get (D := D) (ci := 5) (v := vI (kCnt LB)) (C := RX5) (T := TX5) (N := 3) hx hb hts zin5 hown hK hP 9 rfl rfl 1 (by decide) (hts _ wm123) (fun _ h9 => h9) rfl dX0_dissolve_33 ?_
    obtain ⟨g_9, h⟩ := gd_e h
    obtain ⟨g_10, h⟩ := gd_e h
    refine z_icmp_ge (tgt := 63) hx hb g_9 g_10 dX0_dissolve_36 (by decide) (fun b_11 => ?_) (fun b_11 => ?_)
    · have h := it_n b_11 h
      exact hk (x2) (T) H locs ls h hP hD hS (lv_sub hl [0] rfl)
    · have h := it_p b_11 h
      refine lv_aload_n hx hb dX0_dissolve_39 rfl (lv_at hl 0 rfl) ?_
      refine va_get (D := D) (ci := 0) (v := .ref h_T) (C := RX0) (T := TX0) (N := 8) hx hb hts zin0 hown hK hP 0 rfl rfl 0 (by decide) (hts _ wm132) (fun _ h9 => h9) rfl dX0_dissolve_40 ?_
      refine lv_aload_n hx hb dX0_dissolve_43 rfl (lv_at hl 0 rfl) ?_
      refine va_get (D := D) (ci := 0) (v := .ref h_LB) (C := RX0) (T := TX0) (N := 8) hx hb hts zin0 hown hK hP 0 rfl rfl 6 (by decide) (hts _ wm138) (fun _ h9 => h9) rfl dX0_dissolve_44 ?_
      refine va_get (D := D) (ci := 5) (v := .ref (q_LB 0)) (C := RX5) (T := TX5) (N := 3) hx hb hts zin5 hown hK hP 9 rfl rfl 0 (by decide) (hts _ wm119) (fun _ h9 => h9) rfl dX0_dissolve_47 ?_
      refine lv_iload_n hx hb dX0_dissolve_50 rfl (lv_at hl 1 rfl) ?_
      obtain ⟨r_12, e_13, h⟩ := bd1_e h
      refine z_goi (ws' := []) (ret := r_12) (wc := (zAr cI ((q_LB 0)) ((kLen LB)) ((kItm LB)))) (wn := fun u_14 => (zCh cI h_C q_C h_T h_LB h_LN c_kept c_keptCount c_pool c_left c_treated) ++ (zTr cI h_T q_T T) ++ (zWk cI h_LB q_LB LB) ++ (zWk cI h_LN q_LN LN)) (wr := ([0, 1, 2, 3, 4, 5, 6, 7, 8, 9, 11, 12, 13, 14].filterMap (fun i => ((zCh cI h_C q_C h_T h_LB h_LN c_kept c_keptCount c_pool c_left c_treated) ++ (zTr cI h_T q_T T) ++ (zWk cI h_LB q_LB LB) ++ (zWk cI h_LN q_LN LN))[i]?))) (va_runSN (As := [.ref (q_LB 0), vI x2]) (rest := [.ref h_T]) hF.1 (c_Rt_at l D cI cZ cT (q_LB 0) (kLen LB) (kItm LB) x2 H.size (r_12) e_13) ⟨va_cnB 2 hts (zW_good wm229) rfl rfl rfl (hN.at 8 rfl) (hts _ wm32) (by decide +kernel) ⟨Nat.le_of_ble_eq_true rfl, Nat.le_of_ble_eq_true rfl⟩, hts _ wm228, trivial⟩ ⟨zP.blind, zP.enter (z_subP (ws' := (zAr cI ((q_LB 0)) ((kLen LB)) ((kItm LB)))) hP [10] rfl) hK (hD.sub [10] (by decide) rfl) hN⟩ rfl rfl hl.1 rfl (lv_room (Nat.le_of_ble_eq_true rfl)) dX0_dissolve_51 ⟨Nat.le_refl _, Nat.le_refl _⟩) hP hD hS hA [10] [0, 1, 2, 3, 4, 5, 6, 7, 8, 9, 11, 12, 13, 14] [0, 1, 2, 3, 4, 5, 6, 7, 8, 9, 14, 10, 11, 12, 13] rfl rfl (by decide) (fun _ => rfl) (fun u_14 H locs hP hD hS hz => ?_)
      obtain ⟨T_15, e_16, h⟩ := bd1_e h
      have mo_18 : (tR T) ≤ (tR T_15) := mo_Tr_setLoose T r_12 (T_15) e_16
      refine z_gov (wc := (zTr cI (h_T) (q_T) (T))) (wn := fun u_17 => (zCh cI h_C q_C h_T h_LB h_LN c_kept c_keptCount c_pool c_left c_treated) ++ (zTr cI h_T q_T T_15) ++ (zWk cI h_LB q_LB LB) ++ (zWk cI h_LN q_LN LN)) (wr := ([0, 1, 2, 9, 10, 11, 12, 13, 14].filterMap (fun i => ((zCh cI h_C q_C h_T h_LB h_LN c_kept c_keptCount c_pool c_left c_treated) ++ (zTr cI h_T q_T T) ++ (zWk cI h_LB q_LB LB) ++ (zWk cI h_LN q_LN LN))[i]?))) (va_runV (As := [vI r_12]) (rest := []) hF.1 (c_Tr_setLoose l D cI cZ cT h_T q_T T r_12 H.size (T_15) e_16) (cwV 1 hts (zgV wm640 wm641 wm642 wm33 wm643) rfl rfl rfl (by decide +kernel) ⟨Nat.le_of_ble_eq_true rfl, Nat.le_of_ble_eq_true rfl⟩) ⟨zP.blind, va_recv hK (z_subP (ws' := (zTr cI (h_T) (q_T) (T))) hP [3, 4, 5, 6, 7, 8] rfl) (ci := 4) (q0 := 0) rfl rfl, zP.enter (z_subP (ws' := (zTr cI (h_T) (q_T) (T))) hP [3, 4, 5, 6, 7, 8] rfl) hK (hD.sub [3, 4, 5, 6, 7, 8] (by decide) rfl) hN⟩ rfl rfl hl.1 rfl (lv_room (Nat.le_of_ble_eq_true rfl)) dX0_dissolve_54 ⟨Nat.le_refl _, Nat.le_refl _⟩) hP hD hS hA [3, 4, 5, 6, 7, 8] [0, 1, 2, 9, 10, 11, 12, 13, 14] [0, 1, 2, 9, 10, 11, 12, 13, 14, 3, 4, 5, 6, 7, 8] rfl rfl (by decide) (fun _ => rfl) (fun u_17 H locs hP hD hS hz => ?_)
      refine lv_iinc (v := Int32.ofInt (x2 + 1)) (lv' := [(2, vI (x2 + 1)), (0, .ref h_C)]) hx hb dX0_dissolve_57 hl (k := 1) rfl (z_inc _ _) (by decide) rfl (fun ls hl => ?_)
      refine lv_goto (tgt := 28) hx hb dX0_dissolve_60 (by decide) ?_
      exact ih ((x2 + 1)) (T_15) H locs ls h hP hD hS (lv_sub hl [1, 0] rfl)
set_option maxHeartbeats 4000000 in
set_option maxRecDepth 100000 in
theorem w_Ch_dissolve_L65 {p : Program} {l : Launch} {e : Env} {s : State} {m : MethodId} {args : Array Value} {below : List Frame} {meth : Method} {c : Code} {A : Nat → Prop} (D : va_G) (cI cZ cT : ClassId) (h_C : Nat) (q_C : Nat → Nat) (h_T : Nat) (h_LB : Nat) (h_LN : Nat) (q_T : Nat → Nat) (q_LB : Nat → Nat) (q_LN : Nat → Nat) (c_kept : Nat → Int) (c_keptCount : Int) (c_pool : Nat → Int) (c_left : Int) (c_treated : Int64) (LB : KV) (LN : KV) (res : TV × KV × KV) (k : Int → TV → Option (TV × KV × KV)) (hF : zF p m c cX0_dissolve 3 s args yX0_dissolve.cls meth none yX0_dissolve.name A D (zt cI cZ cT))
    (hk : ∀ (x2 : Int) (T : TV) (H : Heap) (locs : List Loc) (ls : Array Slot), k x2 T = some res → va_P D vwCl ((zCh cI h_C q_C h_T h_LB h_LN c_kept c_keptCount c_pool c_left c_treated) ++ (zTr cI h_T q_T T) ++ (zWk cI h_LB q_LB LB) ++ (zWk cI h_LN q_LN LN)) H → va_D A ((zCh cI h_C q_C h_T h_LB h_LN c_kept c_keptCount c_pool c_left c_treated) ++ (zTr cI h_T q_T T) ++ (zWk cI h_LB q_LB LB) ++ (zWk cI h_LN q_LN LN)) → va_S A s.heap H locs → lv_has ls 3 [] → W p l e rm_Ch_dissolve s m args below meth c H locs 0 0 (MQ below (zQv D (fun u => (zCh cI h_C q_C h_T h_LB h_LN c_kept c_keptCount c_pool c_left c_treated) ++ (zTr cI h_T q_T (res.1)) ++ (zWk cI h_LB q_LB (res.2.1)) ++ (zWk cI h_LN q_LN (res.2.2))) A) args s 0 0 A) (F0 m 100 ls [])) :
    ∀ (n : Nat) (x2 : Int) (T : TV) (H : Heap) (locs : List Loc) (ls : Array Slot), f_Ch_dissolve_L65 LN k n x2 T = some res → va_P D vwCl ((zCh cI h_C q_C h_T h_LB h_LN c_kept c_keptCount c_pool c_left c_treated) ++ (zTr cI h_T q_T T) ++ (zWk cI h_LB q_LB LB) ++ (zWk cI h_LN q_LN LN)) H → va_D A ((zCh cI h_C q_C h_T h_LB h_LN c_kept c_keptCount c_pool c_left c_treated) ++ (zTr cI h_T q_T T) ++ (zWk cI h_LB q_LB LB) ++ (zWk cI h_LN q_LN LN)) → va_S A s.heap H locs → lv_has ls 3 [(0, .ref h_C), (2, vI x2)] → W p l e rm_Ch_dissolve s m args below meth c H locs 0 0 (MQ below (zQv D (fun u => (zCh cI h_C q_C h_T h_LB h_LN c_kept c_keptCount c_pool c_left c_treated) ++ (zTr cI h_T q_T (res.1)) ++ (zWk cI h_LB q_LB (res.2.1)) ++ (zWk cI h_LN q_LN (res.2.2))) A) args s 0 0 A) (F0 m 65 ls []) := by
  have hx := hF.1.1
  have hb := hF.1.2.1
  have hml := hF.1.2.2.1
  have hown : s.vm.findClass "RectangleTree$Changes" = some m.cls := hF.1.2.2.2.1
  have hts := hF.1.2.2.2.2
  have hr := hF.2.1
  have hlk := hF.2.2.1
  have hK := hF.2.2.2.2.1
  have hN := hF.2.2.2.2.2.1
  have hA := hF.2.2.2.2.2.2
  intro n
  induction n with
  | zero => intro x2 T  H locs ls h; cases h
  | succ n ih =>
    intro x2 T  H locs ls h  hP hD hS hl
    rw [f_Ch_dissolve_L65] at h
    refine lv_iload_n hx hb dX0_dissolve_65 rfl (lv_at hl 1 rfl) ?_
    refine lv_aload_n hx hb dX0_dissolve_66 rfl (lv_at hl 0 rfl) ?_
    refine va_get (D := D) (ci := 0) (v := .ref h_LN) (C := RX0) (T := TX0) (N := 8) hx hb hts zin0 hown hK hP 0 rfl rfl 7 (by decide) (hts _ wm139) (fun _ h9 => h9) rfl dX0_dissolve_67 ?_
    refine va_get (D := D) (ci := 5) (v := vI (kCnt LN)) (C := RX5) (T := TX5) (N := 3) hx hb hts zin5 hown hK hP 12 rfl rfl 1 (by decide) (hts _ wm123) (fun _ h9 => h9) rfl dX0_dissolve_70 ?_
    obtain ⟨g_21, h⟩ := gd_e h
    obtain ⟨g_22, h⟩ := gd_e h
    refine z_icmp_ge (tgt := 100) hx hb g_21 g_22 dX0_dissolve_73 (by decide) (fun b_23 => ?_) (fun b_23 => ?_)
    · have h := it_n b_23 h
      exact hk (x2) (T) H locs ls h hP hD hS (lv_sub hl [] rfl)
    · have h := it_p b_23 h
      refine lv_aload_n hx hb dX0_dissolve_76 rfl (lv_at hl 0 rfl) ?_
      refine va_get (D := D) (ci := 0) (v := .ref h_T) (C := RX0) (T := TX0) (N := 8) hx hb hts zin0 hown hK hP 0 rfl rfl 0 (by decide) (hts _ wm132) (fun _ h9 => h9) rfl dX0_dissolve_77 ?_
      refine lv_aload_n hx hb dX0_dissolve_80 rfl (lv_at hl 0 rfl) ?_
      refine va_get (D := D) (ci := 0) (v := .ref h_LN) (C := RX0) (T := TX0) (N := 8) hx hb hts zin0 hown hK hP 0 rfl rfl 7 (by decide) (hts _ wm139) (fun _ h9 => h9) rfl dX0_dissolve_81 ?_
      refine va_get (D := D) (ci := 5) (v := .ref (q_LN 0)) (C := RX5) (T := TX5) (N := 3) hx hb hts zin5 hown hK hP 12 rfl rfl 0 (by decide) (hts _ wm119) (fun _ h9 => h9) rfl dX0_dissolve_84 ?_
      refine lv_iload_n hx hb dX0_dissolve_87 rfl (lv_at hl 1 rfl) ?_
      obtain ⟨r_24, e_25, h⟩ := bd1_e h
      refine z_goi (ws' := []) (ret := r_24) (wc := (zAr cI ((q_LN 0)) ((kLen LN)) ((kItm LN)))) (wn := fun u_26 => (zCh cI h_C q_C h_T h_LB h_LN c_kept c_keptCount c_pool c_left c_treated) ++ (zTr cI h_T q_T T) ++ (zWk cI h_LB q_LB LB) ++ (zWk cI h_LN q_LN LN)) (wr := ([0, 1, 2, 3, 4, 5, 6, 7, 8, 9, 10, 11, 12, 14].filterMap (fun i => ((zCh cI h_C q_C h_T h_LB h_LN c_kept c_keptCount c_pool c_left c_treated) ++ (zTr cI h_T q_T T) ++ (zWk cI h_LB q_LB LB) ++ (zWk cI h_LN q_LN LN))[i]?))) (va_runSN (As := [.ref (q_LN 0), vI x2]) (rest := [.ref h_T]) hF.1 (c_Rt_at l D cI cZ cT (q_LN 0) (kLen LN) (kItm LN) x2 H.size (r_24) e_25) ⟨va_cnB 2 hts (zW_good wm229) rfl rfl rfl (hN.at 8 rfl) (hts _ wm32) (by decide +kernel) ⟨Nat.le_of_ble_eq_true rfl, Nat.le_of_ble_eq_true rfl⟩, hts _ wm228, trivial⟩ ⟨zP.blind, zP.enter (z_subP (ws' := (zAr cI ((q_LN 0)) ((kLen LN)) ((kItm LN)))) hP [13] rfl) hK (hD.sub [13] (by decide) rfl) hN⟩ rfl rfl hl.1 rfl (lv_room (Nat.le_of_ble_eq_true rfl)) dX0_dissolve_88 ⟨Nat.le_refl _, Nat.le_refl _⟩) hP hD hS hA [13] [0, 1, 2, 3, 4, 5, 6, 7, 8, 9, 10, 11, 12, 14] [0, 1, 2, 3, 4, 5, 6, 7, 8, 9, 10, 11, 12, 14, 13] rfl rfl (by decide) (fun _ => rfl) (fun u_26 H locs hP hD hS hz => ?_)
      obtain ⟨T_27, e_28, h⟩ := bd1_e h
      have mo_30 : (tR T) ≤ (tR T_27) := mo_Tr_release T r_24 (T_27) e_28
      refine z_gov (wc := (zTr cI (h_T) (q_T) (T))) (wn := fun u_29 => (zCh cI h_C q_C h_T h_LB h_LN c_kept c_keptCount c_pool c_left c_treated) ++ (zTr cI h_T q_T T_27) ++ (zWk cI h_LB q_LB LB) ++ (zWk cI h_LN q_LN LN)) (wr := ([0, 1, 2, 9, 10, 11, 12, 13, 14].filterMap (fun i => ((zCh cI h_C q_C h_T h_LB h_LN c_kept c_keptCount c_pool c_left c_treated) ++ (zTr cI h_T q_T T) ++ (zWk cI h_LB q_LB LB) ++ (zWk cI h_LN q_LN LN))[i]?))) (va_runV (As := [vI r_24]) (rest := []) hF.1 (c_Tr_release l D cI cZ cT h_T q_T T r_24 H.size (T_27) e_28) (cwV 1 hts (zgV wm631 wm632 wm633 wm33 wm634) rfl rfl rfl (by decide +kernel) ⟨Nat.le_of_ble_eq_true rfl, Nat.le_of_ble_eq_true rfl⟩) ⟨zP.blind, va_recv hK (z_subP (ws' := (zTr cI (h_T) (q_T) (T))) hP [3, 4, 5, 6, 7, 8] rfl) (ci := 4) (q0 := 0) rfl rfl, zP.enter (z_subP (ws' := (zTr cI (h_T) (q_T) (T))) hP [3, 4, 5, 6, 7, 8] rfl) hK (hD.sub [3, 4, 5, 6, 7, 8] (by decide) rfl) hN⟩ rfl rfl hl.1 rfl (lv_room (Nat.le_of_ble_eq_true rfl)) dX0_dissolve_91 ⟨Nat.le_refl _, Nat.le_refl _⟩) hP hD hS hA [3, 4, 5, 6, 7, 8] [0, 1, 2, 9, 10, 11, 12, 13, 14] [0, 1, 2, 9, 10, 11, 12, 13, 14, 3, 4, 5, 6, 7, 8] rfl rfl (by decide) (fun _ => rfl) (fun u_29 H locs hP hD hS hz => ?_)
      refine lv_iinc (v := Int32.ofInt (x2 + 1)) (lv' := [(2, vI (x2 + 1)), (0, .ref h_C)]) hx hb dX0_dissolve_94 hl (k := 1) rfl (z_inc _ _) (by decide) rfl (fun ls hl => ?_)
      refine lv_goto (tgt := 65) hx hb dX0_dissolve_97 (by decide) ?_
      exact ih ((x2 + 1)) (T_27) H locs ls h hP hD hS (lv_sub hl [1, 0] rfl)
set_option maxHeartbeats 4000000 in
set_option maxRecDepth 100000 in
theorem c_Ch_dissolve (l : Launch) (D : va_G) (cI cZ cT : ClassId) (h_C : Nat) (q_C : Nat → Nat) (h_T : Nat) (h_LB : Nat) (h_LN : Nat) (q_T : Nat → Nat) (q_LB : Nat → Nat) (q_LN : Nat → Nat) (c_kept : Nat → Int) (c_keptCount : Int) (c_pool : Nat → Int) (c_left : Int) (c_treated : Int64) (T : TV) (LB : KV) (LN : KV) (x1 : Int) (sz : Nat) (res : TV × KV × KV) (h : f_Ch_dissolve T LB LN x1 = some res) : zMv l yX0_dissolve cX0_dissolve 3 rm_Ch_dissolve D (zt cI cZ cT) [.ref h_C, vI x1] ((zCh cI h_C q_C h_T h_LB h_LN c_kept c_keptCount c_pool c_left c_treated) ++ (zTr cI h_T q_T T) ++ (zWk cI h_LB q_LB LB) ++ (zWk cI h_LN q_LN LN)) sz (fun u => (zCh cI h_C q_C h_T h_LB h_LN c_kept c_keptCount c_pool c_left c_treated) ++ (zTr cI h_T q_T (res.1)) ++ (zWk cI h_LB q_LB (res.2.1)) ++ (zWk cI h_LN q_LN (res.2.2))) 0 0 := by
  refine z_enth (Qc := zQv D (fun u => (zCh cI h_C q_C h_T h_LB h_LN c_kept c_keptCount c_pool c_left c_treated) ++ (zTr cI h_T q_T (res.1)) ++ (zWk cI h_LB q_LB (res.2.1)) ++ (zWk cI h_LN q_LN (res.2.2)))) (by decide) (Nat.le_of_ble_eq_true rfl) (fun p e s m args below meth c A ls H locs hF hP hD hS hl => ?_)
  have hx := hF.1.1
  have hb := hF.1.2.1
  have hml := hF.1.2.2.1
  have hown : s.vm.findClass "RectangleTree$Changes" = some m.cls := hF.1.2.2.2.1
  have hts := hF.1.2.2.2.2
  have hr := hF.2.1
  have hlk := hF.2.2.1
  have hK := hF.2.2.2.2.1
  have hN := hF.2.2.2.2.2.1
  have hA := hF.2.2.2.2.2.2
  unfold f_Ch_dissolve at h
  refine lv_aload_n hx hb dX0_dissolve_0 rfl (lv_at hl 0 rfl) ?_
  refine va_get (D := D) (ci := 0) (v := .ref h_LB) (C := RX0) (T := TX0) (N := 8) hx hb hts zin0 hown hK hP 0 rfl rfl 6 (by decide) (hts _ wm138) (fun _ h9 => h9) rfl dX0_dissolve_1 ?_
  refine lv_aload_n hx hb dX0_dissolve_4 rfl (lv_at hl 0 rfl) ?_
  refine va_get (D := D) (ci := 0) (v := .ref h_T) (C := RX0) (T := TX0) (N := 8) hx hb hts zin0 hown hK hP 0 rfl rfl 0 (by decide) (hts _ wm132) (fun _ h9 => h9) rfl dX0_dissolve_5 ?_
  refine lv_iload_n hx hb dX0_dissolve_8 rfl (lv_at hl 1 rfl) ?_
  refine lv_iconst (v := Int32.ofInt 0) hx hb dX0_dissolve_9 rfl ?_
  obtain ⟨LB_1, e_2, h⟩ := bd1_e h
  have mo_4 : (kLen LB) ≤ (kLen LB_1) := mo_Wk_gather LB T x1 0 (LB_1) e_2
  refine z_gov (wc := (zWk cI (h_LB) (q_LB) (LB)) ++ (zTr cI (h_T) (q_T) (T))) (wn := fun u_3 => (zCh cI h_C q_C h_T h_LB h_LN c_kept c_keptCount c_pool c_left c_treated) ++ (zTr cI h_T q_T T) ++ (zWk cI h_LB q_LB LB_1) ++ (zWk cI h_LN q_LN LN)) (wr := ([0, 1, 2, 12, 13, 14].filterMap (fun i => ((zCh cI h_C q_C h_T h_LB h_LN c_kept c_keptCount c_pool c_left c_treated) ++ (zTr cI h_T q_T T) ++ (zWk cI h_LB q_LB LB) ++ (zWk cI h_LN q_LN LN))[i]?))) (va_runV (As := [.ref h_T, vI x1, vI 0]) (rest := []) hF.1 (c_Wk_gather l D cI cZ cT h_LB q_LB h_T q_T LB T x1 0 H.size (LB_1) e_2) (cwV 3 hts (zgV wm659 wm222 wm223 wm36 wm224) rfl rfl rfl (by decide +kernel) ⟨Nat.le_of_ble_eq_true rfl, Nat.le_of_ble_eq_true rfl⟩) ⟨zP.blind, va_recv hK (z_subP (ws' := (zWk cI (h_LB) (q_LB) (LB)) ++ (zTr cI (h_T) (q_T) (T))) hP [9, 10, 11, 3, 4, 5, 6, 7, 8] rfl) (ci := 5) (q0 := 0) rfl rfl, zP.enter (z_subP (ws' := (zWk cI (h_LB) (q_LB) (LB)) ++ (zTr cI (h_T) (q_T) (T))) hP [9, 10, 11, 3, 4, 5, 6, 7, 8] rfl) hK (hD.sub [9, 10, 11, 3, 4, 5, 6, 7, 8] (by decide) rfl) hN⟩ rfl rfl hl.1 rfl (lv_room (Nat.le_of_ble_eq_true rfl)) dX0_dissolve_10 ⟨Nat.le_refl _, Nat.le_refl _⟩) hP hD hS hA [9, 10, 11, 3, 4, 5, 6, 7, 8] [0, 1, 2, 12, 13, 14] [0, 1, 2, 9, 10, 11, 12, 13, 14, 6, 7, 8, 3, 4, 5] rfl rfl (by decide) (fun _ => rfl) (fun u_3 H locs hP hD hS hz => ?_)
  refine lv_aload_n hx hb dX0_dissolve_13 rfl (lv_at hl 0 rfl) ?_
  refine va_get (D := D) (ci := 0) (v := .ref h_LN) (C := RX0) (T := TX0) (N := 8) hx hb hts zin0 hown hK hP 0 rfl rfl 7 (by decide) (hts _ wm139) (fun _ h9 => h9) rfl dX0_dissolve_14 ?_
  refine lv_aload_n hx hb dX0_dissolve_17 rfl (lv_at hl 0 rfl) ?_
  refine va_get (D := D) (ci := 0) (v := .ref h_T) (C := RX0) (T := TX0) (N := 8) hx hb hts zin0 hown hK hP 0 rfl rfl 0 (by decide) (hts _ wm132) (fun _ h9 => h9) rfl dX0_dissolve_18 ?_
  refine lv_iload_n hx hb dX0_dissolve_21 rfl (lv_at hl 1 rfl) ?_
  refine lv_iconst (v := Int32.ofInt 1) hx hb dX0_dissolve_22 rfl ?_
  obtain ⟨LN_5, e_6, h⟩ := bd1_e h
  have mo_8 : (kLen LN) ≤ (kLen LN_5) := mo_Wk_gather LN T x1 1 (LN_5) e_6
  refine z_gov (wc := (zWk cI (h_LN) (q_LN) (LN)) ++ (zTr cI (h_T) (q_T) (T))) (wn := fun u_7 => (zCh cI h_C q_C h_T h_LB h_LN c_kept c_keptCount c_pool c_left c_treated) ++ (zTr cI h_T q_T T) ++ (zWk cI h_LB q_LB LB_1) ++ (zWk cI h_LN q_LN LN_5)) (wr := ([0, 1, 2, 9, 10, 11].filterMap (fun i => ((zCh cI h_C q_C h_T h_LB h_LN c_kept c_keptCount c_pool c_left c_treated) ++ (zTr cI h_T q_T T) ++ (zWk cI h_LB q_LB LB_1) ++ (zWk cI h_LN q_LN LN))[i]?))) (va_runV (As := [.ref h_T, vI x1, vI 1]) (rest := []) hF.1 (c_Wk_gather l D cI cZ cT h_LN q_LN h_T q_T LN T x1 1 H.size (LN_5) e_6) (cwV 3 hts (zgV wm659 wm222 wm223 wm36 wm224) rfl rfl rfl (by decide +kernel) ⟨Nat.le_of_ble_eq_true rfl, Nat.le_of_ble_eq_true rfl⟩) ⟨zP.blind, va_recv hK (z_subP (ws' := (zWk cI (h_LN) (q_LN) (LN)) ++ (zTr cI (h_T) (q_T) (T))) hP [12, 13, 14, 3, 4, 5, 6, 7, 8] rfl) (ci := 5) (q0 := 0) rfl rfl, zP.enter (z_subP (ws' := (zWk cI (h_LN) (q_LN) (LN)) ++ (zTr cI (h_T) (q_T) (T))) hP [12, 13, 14, 3, 4, 5, 6, 7, 8] rfl) hK (hD.sub [12, 13, 14, 3, 4, 5, 6, 7, 8] (by decide) rfl) hN⟩ rfl rfl hl.1 rfl (lv_room (Nat.le_of_ble_eq_true rfl)) dX0_dissolve_23 ⟨Nat.le_refl _, Nat.le_refl _⟩) hP hD hS hA [12, 13, 14, 3, 4, 5, 6, 7, 8] [0, 1, 2, 9, 10, 11] [0, 1, 2, 9, 10, 11, 12, 13, 14, 3, 4, 5, 6, 7, 8] rfl rfl (by decide) (fun _ => rfl) (fun u_7 H locs hP hD hS hz => ?_)
  refine lv_iconst (v := Int32.ofInt 0) hx hb dX0_dissolve_26 rfl ?_
  refine lv_istore_n (lv' := [(2, vI 0), (0, .ref h_C), (1, vI x1)]) hx hb dX0_dissolve_27 rfl hl (by decide) rfl (fun ls hl => ?_)
  refine w_Ch_dissolve_L28 D cI cZ cT (h_C) (q_C) (h_T) (h_LB) (h_LN) (q_T) (q_LB) (q_LN) (c_kept) (c_keptCount) (c_pool) (c_left) (c_treated) (LB_1) (LN_5) _ _ hF (fun x2_19 T_20 H locs ls h hP hD hS hl => ?_) _ (0) (T) _ _ _ h hP hD hS (lv_sub hl [1, 0] rfl)
  refine lv_iconst (v := Int32.ofInt 0) hx hb dX0_dissolve_63 rfl ?_
  refine lv_istore_n (lv' := [(2, vI 0), (0, .ref h_C)]) hx hb dX0_dissolve_64 rfl hl (by decide) rfl (fun ls hl => ?_)
  refine w_Ch_dissolve_L65 D cI cZ cT (h_C) (q_C) (h_T) (h_LB) (h_LN) (q_T) (q_LB) (q_LN) (c_kept) (c_keptCount) (c_pool) (c_left) (c_treated) (LB_1) (LN_5) _ _ hF (fun x2_31 T_32 H locs ls h hP hD hS hl => ?_) _ (0) (T_20) _ _ _ h hP hD hS (lv_sub hl [1, 0] rfl)
  obtain rfl := Option.some.inj h
  exact z_vret hx hb hr hlk (fun _ _ => 0) hP hD hS dX0_dissolve_100
def f_Ch_putBackKept_L61 (LB : KV) (k : Int → (Nat → Int) → Int → Int64 → TV → Option ((Nat → Int) × Int × Int64 × TV × KV × KV)) : Nat → Int → (Nat → Int) → Int → Int64 → TV → Option ((Nat → Int) × Int × Int64 × TV × KV × KV)
  | 0, _, _, _, _, _ => none
  | n + 1, x3, c_pool, c_left, c_treated, T =>
  gd (ck x3) <| gd (ck (kCnt LB)) <| if x3 < (kCnt LB) then (bd1 (f_Rt_at (kLen LB) (kItm LB) x3) <| fun r_25 => bd4 (f_Ch_insertOwn c_pool c_left T r_25) <| fun c_pool_28 c_left_29 c_treated_30 T_31 => f_Ch_putBackKept_L61 LB k n ((x3 + 1)) (c_pool_28) (c_left_29) (c_treated_30) (T_31)) else (k (x3) (c_pool) (c_left) (c_treated) (T))
def f_Ch_putBackKept_L2 (c_kept : Nat → Int) (c_keptCount : Int) (k : Int → (Nat → Int) → Int → Int64 → TV → KV → KV → Option ((Nat → Int) × Int × Int64 × TV × KV × KV)) : Nat → Int → (Nat → Int) → Int → Int64 → TV → KV → KV → Option ((Nat → Int) × Int × Int64 × TV × KV × KV)
  | 0, _, _, _, _, _, _, _ => none
  | n + 1, x1, c_pool, c_left, c_treated, T, LB, LN =>
  gd (ck x1) <| gd (ck c_keptCount) <| if x1 < c_keptCount then (bd1 (f_Rt_at 24 c_kept x1) <| fun r_4 => bd1 (f_Tr_levelOf T r_4) <| fun r_7 => bd1 (f_Tr_levelOf T (tRoot T)) <| fun r_10 => gd (ck (r_7 + 1)) <| gd (ck r_10) <| if r_10 < (r_7 + 1) then (bd3 (f_Ch_dissolve T LB LN r_4) <| fun T_16 LB_17 LN_18 => f_Ch_putBackKept_L61 (LB_17) (fun x3_35 c_pool_36 c_left_37 c_treated_38 T_39 => f_Ch_putBackKept_L2 c_kept c_keptCount k n ((x1 + 1)) (c_pool_36) (c_left_37) (c_treated_38) (T_39) (LB_17) (LN_18)) FU (0) (c_pool) (c_left) (c_treated) (T_16)) else (bd4 (f_Ch_insertOwn c_pool c_left T r_4) <| fun c_pool_40 c_left_41 c_treated_42 T_43 => f_Ch_putBackKept_L2 c_kept c_keptCount k n ((x1 + 1)) (c_pool_40) (c_left_41) (c_treated_42) (T_43) (LB) (LN))) else (k (x1) (c_pool) (c_left) (c_treated) (T) (LB) (LN))
def f_Ch_putBackKept (c_kept : Nat → Int) (c_keptCount : Int) (c_pool : Nat → Int) (c_left : Int) (c_treated : Int64) (T : TV) (LB : KV) (LN : KV) : Option ((Nat → Int) × Int × Int64 × TV × KV × KV) :=
  f_Ch_putBackKept_L2 (c_kept) (c_keptCount) (fun x1_47 c_pool_48 c_left_49 c_treated_50 T_51 LB_52 LN_53 => some (c_pool_48, c_left_49, c_treated_50, T_51, LB_52, LN_53)) FU (0) (c_pool) (c_left) (c_treated) (T) (LB) (LN)
abbrev rm_Ch_putBackKept : Room := ({ frames := 6, cells := 0, slots := 0, locals := 154 } : Room)
theorem mo_Ch_putBackKept_L61 (LB : KV) (LN : KV) (res : (Nat → Int) × Int × Int64 × TV × KV × KV) (k : Int → (Nat → Int) → Int → Int64 → TV → Option ((Nat → Int) × Int × Int64 × TV × KV × KV)) (hkm : ∀ (x3 : Int) (c_pool : Nat → Int) (c_left : Int) (c_treated : Int64) (T : TV) , k x3 c_pool c_left c_treated T = some res → (tR T) ≤ (tR (res.2.2.2.1)) ∧ (kLen LB) ≤ (kLen (res.2.2.2.2.1)) ∧ (kLen LN) ≤ (kLen (res.2.2.2.2.2))) : ∀ (n : Nat) (x3 : Int) (c_pool : Nat → Int) (c_left : Int) (c_treated : Int64) (T : TV) , f_Ch_putBackKept_L61 LB k n x3 c_pool c_left c_treated T = some res → (tR T) ≤ (tR (res.2.2.2.1)) ∧ (kLen LB) ≤ (kLen (res.2.2.2.2.1)) ∧ (kLen LN) ≤ (kLen (res.2.2.2.2.2)) := by
  intro n
  induction n with
  | zero => intro x3 c_pool c_left c_treated T h; cases h
  | succ n ihm =>
    intro x3 c_pool c_left c_treated T h
    rw [f_Ch_putBackKept_L61] at h
    obtain ⟨g_22, h⟩ := gd_e h
    obtain ⟨g_23, h⟩ := gd_e h
    rcases it_e h with ⟨_, h⟩ | ⟨_, h⟩
    · obtain ⟨r_25, e_26, h⟩ := bd1_e h
      obtain ⟨c_pool_28, c_left_29, c_treated_30, T_31, e_32, h⟩ := bd4_e h
      have mo_34 : (tR T) ≤ (tR T_31) := mo_Ch_insertOwn c_pool c_left T r_25 (c_pool_28, c_left_29, c_treated_30, T_31) e_32
      have mo9 : (tR T_31) ≤ (tR (res.2.2.2.1)) ∧ (kLen LB) ≤ (kLen (res.2.2.2.2.1)) ∧ (kLen LN) ≤ (kLen (res.2.2.2.2.2)) := ihm ((x3 + 1)) (c_pool_28) (c_left_29) (c_treated_30) (T_31) h
      exact ⟨(show (tR T) ≤ (tR (res.2.2.2.1)) from by omega), (show (kLen LB) ≤ (kLen (res.2.2.2.2.1)) from by omega), (show (kLen LN) ≤ (kLen (res.2.2.2.2.2)) from by omega)⟩
    · have mo9 : (tR T) ≤ (tR (res.2.2.2.1)) ∧ (kLen LB) ≤ (kLen (res.2.2.2.2.1)) ∧ (kLen LN) ≤ (kLen (res.2.2.2.2.2)) := hkm (x3) (c_pool) (c_left) (c_treated) (T) h
      exact ⟨(show (tR T) ≤ (tR (res.2.2.2.1)) from by omega), (show (kLen LB) ≤ (kLen (res.2.2.2.2.1)) from by omega), (show (kLen LN) ≤ (kLen (res.2.2.2.2.2)) from by omega)⟩
theorem mo_Ch_putBackKept_L2 (c_kept : Nat → Int) (c_keptCount : Int) (res : (Nat → Int) × Int × Int64 × TV × KV × KV) (k : Int → (Nat → Int) → Int → Int64 → TV → KV → KV → Option ((Nat → Int) × Int × Int64 × TV × KV × KV)) (hkm : ∀ (x1 : Int) (c_pool : Nat → Int) (c_left : Int) (c_treated : Int64) (T : TV) (LB : KV) (LN : KV) , k x1 c_pool c_left c_treated T LB LN = some res → (tR T) ≤ (tR (res.2.2.2.1)) ∧ (kLen LB) ≤ (kLen (res.2.2.2.2.1)) ∧ (kLen LN) ≤ (kLen (res.2.2.2.2.2))) : ∀ (n : Nat) (x1 : Int) (c_pool : Nat → Int) (c_left : Int) (c_treated : Int64) (T : TV) (LB : KV) (LN : KV) , f_Ch_putBackKept_L2 c_kept c_keptCount k n x1 c_pool c_left c_treated T LB LN = some res → (tR T) ≤ (tR (res.2.2.2.1)) ∧ (kLen LB) ≤ (kLen (res.2.2.2.2.1)) ∧ (kLen LN) ≤ (kLen (res.2.2.2.2.2)) := by
  intro n
  induction n with
  | zero => intro x1 c_pool c_left c_treated T LB LN h; cases h
  | succ n ihm =>
    intro x1 c_pool c_left c_treated T LB LN h
    rw [f_Ch_putBackKept_L2] at h
    obtain ⟨g_1, h⟩ := gd_e h
    obtain ⟨g_2, h⟩ := gd_e h
    rcases it_e h with ⟨_, h⟩ | ⟨_, h⟩
    · obtain ⟨r_4, e_5, h⟩ := bd1_e h
      obtain ⟨r_7, e_8, h⟩ := bd1_e h
      obtain ⟨r_10, e_11, h⟩ := bd1_e h
      obtain ⟨g_13, h⟩ := gd_e h
      obtain ⟨g_14, h⟩ := gd_e h
      rcases it_e h with ⟨_, h⟩ | ⟨_, h⟩
      · obtain ⟨T_16, LB_17, LN_18, e_19, h⟩ := bd3_e h
        have mo_21 : (tR T) ≤ (tR T_16) ∧ (kLen LB) ≤ (kLen LB_17) ∧ (kLen LN) ≤ (kLen LN_18) := mo_Ch_dissolve T LB LN r_4 (T_16, LB_17, LN_18) e_19
        have mo9 : (tR T_16) ≤ (tR (res.2.2.2.1)) ∧ (kLen LB_17) ≤ (kLen (res.2.2.2.2.1)) ∧ (kLen LN_18) ≤ (kLen (res.2.2.2.2.2)) := mo_Ch_putBackKept_L61 (LB_17) (LN_18) _ _ (fun x3_35 c_pool_36 c_left_37 c_treated_38 T_39 h => by
            have mo9 : (tR T_39) ≤ (tR (res.2.2.2.1)) ∧ (kLen LB_17) ≤ (kLen (res.2.2.2.2.1)) ∧ (kLen LN_18) ≤ (kLen (res.2.2.2.2.2)) := ihm ((x1 + 1)) (c_pool_36) (c_left_37) (c_treated_38) (T_39) (LB_17) (LN_18) h
            exact ⟨(show (tR T_39) ≤ (tR (res.2.2.2.1)) from by omega), (show (kLen LB_17) ≤ (kLen (res.2.2.2.2.1)) from by omega), (show (kLen LN_18) ≤ (kLen (res.2.2.2.2.2)) from by omega)⟩) _ (0) (c_pool) (c_left) (c_treated) (T_16) h
        exact ⟨(show (tR T) ≤ (tR (res.2.2.2.1)) from by omega), (show (kLen LB) ≤ (kLen (res.2.2.2.2.1)) from by omega), (show (kLen LN) ≤ (kLen (res.2.2.2.2.2)) from by omega)⟩
      · obtain ⟨c_pool_40, c_left_41, c_treated_42, T_43, e_44, h⟩ := bd4_e h
        have mo_46 : (tR T) ≤ (tR T_43) := mo_Ch_insertOwn c_pool c_left T r_4 (c_pool_40, c_left_41, c_treated_42, T_43) e_44
        have mo9 : (tR T_43) ≤ (tR (res.2.2.2.1)) ∧ (kLen LB) ≤ (kLen (res.2.2.2.2.1)) ∧ (kLen LN) ≤ (kLen (res.2.2.2.2.2)) := ihm ((x1 + 1)) (c_pool_40) (c_left_41) (c_treated_42) (T_43) (LB) (LN) h
        exact ⟨(show (tR T) ≤ (tR (res.2.2.2.1)) from by omega), (show (kLen LB) ≤ (kLen (res.2.2.2.2.1)) from by omega), (show (kLen LN) ≤ (kLen (res.2.2.2.2.2)) from by omega)⟩
    · have mo9 : (tR T) ≤ (tR (res.2.2.2.1)) ∧ (kLen LB) ≤ (kLen (res.2.2.2.2.1)) ∧ (kLen LN) ≤ (kLen (res.2.2.2.2.2)) := hkm (x1) (c_pool) (c_left) (c_treated) (T) (LB) (LN) h
      exact ⟨(show (tR T) ≤ (tR (res.2.2.2.1)) from by omega), (show (kLen LB) ≤ (kLen (res.2.2.2.2.1)) from by omega), (show (kLen LN) ≤ (kLen (res.2.2.2.2.2)) from by omega)⟩
theorem mo_Ch_putBackKept (c_kept : Nat → Int) (c_keptCount : Int) (c_pool : Nat → Int) (c_left : Int) (c_treated : Int64) (T : TV) (LB : KV) (LN : KV) (res : (Nat → Int) × Int × Int64 × TV × KV × KV) (h : f_Ch_putBackKept c_kept c_keptCount c_pool c_left c_treated T LB LN = some res) : (tR T) ≤ (tR (res.2.2.2.1)) ∧ (kLen LB) ≤ (kLen (res.2.2.2.2.1)) ∧ (kLen LN) ≤ (kLen (res.2.2.2.2.2)) := by
  unfold f_Ch_putBackKept at h
  have mo9 : (tR T) ≤ (tR (res.2.2.2.1)) ∧ (kLen LB) ≤ (kLen (res.2.2.2.2.1)) ∧ (kLen LN) ≤ (kLen (res.2.2.2.2.2)) := mo_Ch_putBackKept_L2 (c_kept) (c_keptCount) _ _ (fun x1_47 c_pool_48 c_left_49 c_treated_50 T_51 LB_52 LN_53 h => by
      obtain rfl := Option.some.inj h
      exact ⟨(show (tR T_51) ≤ (tR T_51) from by omega), (show (kLen LB_52) ≤ (kLen LB_52) from by omega), (show (kLen LN_53) ≤ (kLen LN_53) from by omega)⟩) _ (0) (c_pool) (c_left) (c_treated) (T) (LB) (LN) h
  exact ⟨(show (tR T) ≤ (tR (res.2.2.2.1)) from by omega), (show (kLen LB) ≤ (kLen (res.2.2.2.2.1)) from by omega), (show (kLen LN) ≤ (kLen (res.2.2.2.2.2)) from by omega)⟩
set_option maxHeartbeats 4000000 in
set_option maxRecDepth 100000 in
theorem w_Ch_putBackKept_L61 {p : Program} {l : Launch} {e : Env} {s : State} {m : MethodId} {args : Array Value} {below : List Frame} {meth : Method} {c : Code} {A : Nat → Prop} (D : va_G) (cI cZ cT : ClassId) (h_C : Nat) (q_C : Nat → Nat) (h_T : Nat) (h_LB : Nat) (h_LN : Nat) (q_T : Nat → Nat) (q_LB : Nat → Nat) (q_LN : Nat → Nat) (c_kept : Nat → Int) (c_keptCount : Int) (LB : KV) (LN : KV) (x1 : Int) (res : (Nat → Int) × Int × Int64 × TV × KV × KV) (k : Int → (Nat → Int) → Int → Int64 → TV → Option ((Nat → Int) × Int × Int64 × TV × KV × KV)) (hF : zF p m c cX0_putBackKept 4 s args yX0_putBackKept.cls meth none yX0_putBackKept.name A D (zt cI cZ cT))
    (hk : ∀ (x3 : Int) (c_pool : Nat → Int) (c_left : Int) (c_treated : Int64) (T : TV) (H : Heap) (locs : List Loc) (ls : Array Slot), k x3 c_pool c_left c_treated T = some res → va_P D vwCl ((zCh cI h_C q_C h_T h_LB h_LN c_kept c_keptCount c_pool c_left c_treated) ++ (zTr cI h_T q_T T) ++ (zWk cI h_LB q_LB LB) ++ (zWk cI h_LN q_LN LN)) H → va_D A ((zCh cI h_C q_C h_T h_LB h_LN c_kept c_keptCount c_pool c_left c_treated) ++ (zTr cI h_T q_T T) ++ (zWk cI h_LB q_LB LB) ++ (zWk cI h_LN q_LN LN)) → va_S A s.heap H locs → lv_has ls 4 [(0, .ref h_C), (1, vI x1)] → W p l e rm_Ch_putBackKept s m args below meth c H locs 0 0 (MQ below (zQv D (fun u => (zCh cI h_C q_C h_T h_LB h_LN c_kept c_keptCount (res.1) (res.2.1) (res.2.2.1)) ++ (zTr cI h_T q_T (res.2.2.2.1)) ++ (zWk cI h_LB q_LB (res.2.2.2.2.1)) ++ (zWk cI h_LN q_LN (res.2.2.2.2.2))) A) args s 0 0 A) (F0 m 93 ls [])) :
    ∀ (n : Nat) (x3 : Int) (c_pool : Nat → Int) (c_left : Int) (c_treated : Int64) (T : TV) (H : Heap) (locs : List Loc) (ls : Array Slot), f_Ch_putBackKept_L61 LB k n x3 c_pool c_left c_treated T = some res → va_P D vwCl ((zCh cI h_C q_C h_T h_LB h_LN c_kept c_keptCount c_pool c_left c_treated) ++ (zTr cI h_T q_T T) ++ (zWk cI h_LB q_LB LB) ++ (zWk cI h_LN q_LN LN)) H → va_D A ((zCh cI h_C q_C h_T h_LB h_LN c_kept c_keptCount c_pool c_left c_treated) ++ (zTr cI h_T q_T T) ++ (zWk cI h_LB q_LB LB) ++ (zWk cI h_LN q_LN LN)) → va_S A s.heap H locs → lv_has ls 4 [(0, .ref h_C), (1, vI x1), (3, vI x3)] → W p l e rm_Ch_putBackKept s m args below meth c H locs 0 0 (MQ below (zQv D (fun u => (zCh cI h_C q_C h_T h_LB h_LN c_kept c_keptCount (res.1) (res.2.1) (res.2.2.1)) ++ (zTr cI h_T q_T (res.2.2.2.1)) ++ (zWk cI h_LB q_LB (res.2.2.2.2.1)) ++ (zWk cI h_LN q_LN (res.2.2.2.2.2))) A) args s 0 0 A) (F0 m 61 ls []) := by
  have hx := hF.1.1
  have hb := hF.1.2.1
  have hml := hF.1.2.2.1
  have hown : s.vm.findClass "RectangleTree$Changes" = some m.cls := hF.1.2.2.2.1
  have hts := hF.1.2.2.2.2
  have hr := hF.2.1
  have hlk := hF.2.2.1
  have hK := hF.2.2.2.2.1
  have hN := hF.2.2.2.2.2.1
  have hA := hF.2.2.2.2.2.2
  intro n
  induction n with
  | zero => intro x3 c_pool c_left c_treated T  H locs ls h; cases h
  | succ n ih =>
    intro x3 c_pool c_left c_treated T  H locs ls h  hP hD hS hl
    rw [f_Ch_putBackKept_L61] at h
    refine lv_iload_n hx hb dX0_putBackKept_61 rfl (lv_at hl 2 rfl) ?_
    refine lv_aload_n hx hb dX0_putBackKept_62 rfl (lv_at hl 0 rfl) ?_
    refine va_get (D := D) (ci := 0) (v := .ref h_LB) (C := RX0) (T := TX0) (N := 8) hx hb hts zin0 hown hK hP 0 rfl rfl 6 (by decide) (hts _ wm138) (fun _ h9 => h9) rfl dX0_putBackKept_63 ?_
    refine va_get (D := D) (ci := 5) (v := vI (kCnt LB)) (C := RX5) (T := TX5) (N := 3) hx hb hts zin5 hown hK hP 9 rfl rfl 1 (by decide) (hts _ wm123) (fun _ h9 => h9) rfl dX0_putBackKept_66 ?_
    obtain ⟨g_22, h⟩ := gd_e h
    obtain ⟨g_23, h⟩ := gd_e h
    refine z_icmp_ge (tgt := 93) hx hb g_22 g_23 dX0_putBackKept_69 (by decide) (fun b_24 => ?_) (fun b_24 => ?_)
    · have h := it_n b_24 h
      exact hk (x3) (c_pool) (c_left) (c_treated) (T) H locs ls h hP hD hS (lv_sub hl [0, 1] rfl)
    · have h := it_p b_24 h
      refine lv_aload_n hx hb dX0_putBackKept_72 rfl (lv_at hl 0 rfl) ?_
      refine lv_aload_n hx hb dX0_putBackKept_73 rfl (lv_at hl 0 rfl) ?_
      refine va_get (D := D) (ci := 0) (v := .ref h_LB) (C := RX0) (T := TX0) (N := 8) hx hb hts zin0 hown hK hP 0 rfl rfl 6 (by decide) (hts _ wm138) (fun _ h9 => h9) rfl dX0_putBackKept_74 ?_
      refine va_get (D := D) (ci := 5) (v := .ref (q_LB 0)) (C := RX5) (T := TX5) (N := 3) hx hb hts zin5 hown hK hP 9 rfl rfl 0 (by decide) (hts _ wm119) (fun _ h9 => h9) rfl dX0_putBackKept_77 ?_
      refine lv_iload_n hx hb dX0_putBackKept_80 rfl (lv_at hl 2 rfl) ?_
      obtain ⟨r_25, e_26, h⟩ := bd1_e h
      refine z_goi (ws' := []) (ret := r_25) (wc := (zAr cI ((q_LB 0)) ((kLen LB)) ((kItm LB)))) (wn := fun u_27 => (zCh cI h_C q_C h_T h_LB h_LN c_kept c_keptCount c_pool c_left c_treated) ++ (zTr cI h_T q_T T) ++ (zWk cI h_LB q_LB LB) ++ (zWk cI h_LN q_LN LN)) (wr := ([0, 1, 2, 3, 4, 5, 6, 7, 8, 9, 11, 12, 13, 14].filterMap (fun i => ((zCh cI h_C q_C h_T h_LB h_LN c_kept c_keptCount c_pool c_left c_treated) ++ (zTr cI h_T q_T T) ++ (zWk cI h_LB q_LB LB) ++ (zWk cI h_LN q_LN LN))[i]?))) (va_runSN (As := [.ref (q_LB 0), vI x3]) (rest := [.ref h_C]) hF.1 (c_Rt_at l D cI cZ cT (q_LB 0) (kLen LB) (kItm LB) x3 H.size (r_25) e_26) ⟨va_cnB 2 hts (zW_good wm229) rfl rfl rfl (hN.at 8 rfl) (hts _ wm32) (by decide +kernel) ⟨Nat.le_of_ble_eq_true rfl, Nat.le_of_ble_eq_true rfl⟩, hts _ wm228, trivial⟩ ⟨zP.blind, zP.enter (z_subP (ws' := (zAr cI ((q_LB 0)) ((kLen LB)) ((kItm LB)))) hP [10] rfl) hK (hD.sub [10] (by decide) rfl) hN⟩ rfl rfl hl.1 rfl (lv_room (Nat.le_of_ble_eq_true rfl)) dX0_putBackKept_81 ⟨Nat.le_refl _, Nat.le_refl _⟩) hP hD hS hA [10] [0, 1, 2, 3, 4, 5, 6, 7, 8, 9, 11, 12, 13, 14] [0, 1, 2, 3, 4, 5, 6, 7, 8, 9, 14, 10, 11, 12, 13] rfl rfl (by decide) (fun _ => rfl) (fun u_27 H locs hP hD hS hz => ?_)
      obtain ⟨c_pool_28, c_left_29, c_treated_30, T_31, e_32, h⟩ := bd4_e h
      have mo_34 : (tR T) ≤ (tR T_31) := mo_Ch_insertOwn c_pool c_left T r_25 (c_pool_28, c_left_29, c_treated_30, T_31) e_32
      refine z_gov (wc := (zCh cI (h_C) (q_C) (h_T) (h_LB) (h_LN) (c_kept) (c_keptCount) (c_pool) (c_left) (c_treated)) ++ (zTr cI (h_T) (q_T) (T)) ++ (zWk cI (h_LB) (q_LB) (LB)) ++ (zWk cI (h_LN) (q_LN) (LN))) (wn := fun u_33 => (zCh cI h_C q_C h_T h_LB h_LN c_kept c_keptCount c_pool_28 c_left_29 c_treated_30) ++ (zTr cI h_T q_T T_31) ++ (zWk cI h_LB q_LB LB) ++ (zWk cI h_LN q_LN LN)) (wr := []) (va_runV (As := [vI r_25]) (rest := []) hF.1 (c_Ch_insertOwn l D cI cZ cT h_C q_C h_T h_LB h_LN q_T q_LB q_LN c_kept c_keptCount c_pool c_left c_treated T LB LN r_25 H.size (c_pool_28, c_left_29, c_treated_30, T_31) e_32) (cwV 1 hts (zgV wm654 wm497 wm498 wm35 wm499) rfl rfl rfl (by decide +kernel) ⟨Nat.le_of_ble_eq_true rfl, Nat.le_of_ble_eq_true rfl⟩) ⟨zP.blind, va_recv hK (z_subP (ws' := (zCh cI (h_C) (q_C) (h_T) (h_LB) (h_LN) (c_kept) (c_keptCount) (c_pool) (c_left) (c_treated)) ++ (zTr cI (h_T) (q_T) (T)) ++ (zWk cI (h_LB) (q_LB) (LB)) ++ (zWk cI (h_LN) (q_LN) (LN))) hP [0, 1, 2, 3, 4, 5, 6, 7, 8, 9, 10, 11, 12, 13, 14] rfl) (ci := 0) (q0 := 0) rfl rfl, zP.enter (z_subP (ws' := (zCh cI (h_C) (q_C) (h_T) (h_LB) (h_LN) (c_kept) (c_keptCount) (c_pool) (c_left) (c_treated)) ++ (zTr cI (h_T) (q_T) (T)) ++ (zWk cI (h_LB) (q_LB) (LB)) ++ (zWk cI (h_LN) (q_LN) (LN))) hP [0, 1, 2, 3, 4, 5, 6, 7, 8, 9, 10, 11, 12, 13, 14] rfl) hK (hD.sub [0, 1, 2, 3, 4, 5, 6, 7, 8, 9, 10, 11, 12, 13, 14] (by decide) rfl) hN⟩ rfl rfl hl.1 rfl (lv_room (Nat.le_of_ble_eq_true rfl)) dX0_putBackKept_84 ⟨Nat.le_refl _, Nat.le_refl _⟩) hP hD hS hA [0, 1, 2, 3, 4, 5, 6, 7, 8, 9, 10, 11, 12, 13, 14] [] [0, 1, 2, 3, 4, 5, 6, 7, 8, 9, 10, 11, 12, 13, 14] rfl rfl (by decide) (fun _ => rfl) (fun u_33 H locs hP hD hS hz => ?_)
      refine lv_iinc (v := Int32.ofInt (x3 + 1)) (lv' := [(3, vI (x3 + 1)), (0, .ref h_C), (1, vI x1)]) hx hb dX0_putBackKept_87 hl (k := 2) rfl (z_inc _ _) (by decide) rfl (fun ls hl => ?_)
      refine lv_goto (tgt := 61) hx hb dX0_putBackKept_90 (by decide) ?_
      exact ih ((x3 + 1)) (c_pool_28) (c_left_29) (c_treated_30) (T_31) H locs ls h hP hD hS (lv_sub hl [1, 2, 0] rfl)
set_option maxHeartbeats 4000000 in
set_option maxRecDepth 100000 in
theorem w_Ch_putBackKept_L2 {p : Program} {l : Launch} {e : Env} {s : State} {m : MethodId} {args : Array Value} {below : List Frame} {meth : Method} {c : Code} {A : Nat → Prop} (D : va_G) (cI cZ cT : ClassId) (h_C : Nat) (q_C : Nat → Nat) (h_T : Nat) (h_LB : Nat) (h_LN : Nat) (q_T : Nat → Nat) (q_LB : Nat → Nat) (q_LN : Nat → Nat) (c_kept : Nat → Int) (c_keptCount : Int) (res : (Nat → Int) × Int × Int64 × TV × KV × KV) (k : Int → (Nat → Int) → Int → Int64 → TV → KV → KV → Option ((Nat → Int) × Int × Int64 × TV × KV × KV)) (hF : zF p m c cX0_putBackKept 4 s args yX0_putBackKept.cls meth none yX0_putBackKept.name A D (zt cI cZ cT))
    (hk : ∀ (x1 : Int) (c_pool : Nat → Int) (c_left : Int) (c_treated : Int64) (T : TV) (LB : KV) (LN : KV) (H : Heap) (locs : List Loc) (ls : Array Slot), k x1 c_pool c_left c_treated T LB LN = some res → va_P D vwCl ((zCh cI h_C q_C h_T h_LB h_LN c_kept c_keptCount c_pool c_left c_treated) ++ (zTr cI h_T q_T T) ++ (zWk cI h_LB q_LB LB) ++ (zWk cI h_LN q_LN LN)) H → va_D A ((zCh cI h_C q_C h_T h_LB h_LN c_kept c_keptCount c_pool c_left c_treated) ++ (zTr cI h_T q_T T) ++ (zWk cI h_LB q_LB LB) ++ (zWk cI h_LN q_LN LN)) → va_S A s.heap H locs → lv_has ls 4 [] → W p l e rm_Ch_putBackKept s m args below meth c H locs 0 0 (MQ below (zQv D (fun u => (zCh cI h_C q_C h_T h_LB h_LN c_kept c_keptCount (res.1) (res.2.1) (res.2.2.1)) ++ (zTr cI h_T q_T (res.2.2.2.1)) ++ (zWk cI h_LB q_LB (res.2.2.2.2.1)) ++ (zWk cI h_LN q_LN (res.2.2.2.2.2))) A) args s 0 0 A) (F0 m 99 ls [])) :
    ∀ (n : Nat) (x1 : Int) (c_pool : Nat → Int) (c_left : Int) (c_treated : Int64) (T : TV) (LB : KV) (LN : KV) (H : Heap) (locs : List Loc) (ls : Array Slot), f_Ch_putBackKept_L2 c_kept c_keptCount k n x1 c_pool c_left c_treated T LB LN = some res → va_P D vwCl ((zCh cI h_C q_C h_T h_LB h_LN c_kept c_keptCount c_pool c_left c_treated) ++ (zTr cI h_T q_T T) ++ (zWk cI h_LB q_LB LB) ++ (zWk cI h_LN q_LN LN)) H → va_D A ((zCh cI h_C q_C h_T h_LB h_LN c_kept c_keptCount c_pool c_left c_treated) ++ (zTr cI h_T q_T T) ++ (zWk cI h_LB q_LB LB) ++ (zWk cI h_LN q_LN LN)) → va_S A s.heap H locs → lv_has ls 4 [(0, .ref h_C), (1, vI x1)] → W p l e rm_Ch_putBackKept s m args below meth c H locs 0 0 (MQ below (zQv D (fun u => (zCh cI h_C q_C h_T h_LB h_LN c_kept c_keptCount (res.1) (res.2.1) (res.2.2.1)) ++ (zTr cI h_T q_T (res.2.2.2.1)) ++ (zWk cI h_LB q_LB (res.2.2.2.2.1)) ++ (zWk cI h_LN q_LN (res.2.2.2.2.2))) A) args s 0 0 A) (F0 m 2 ls []) := by
  have hx := hF.1.1
  have hb := hF.1.2.1
  have hml := hF.1.2.2.1
  have hown : s.vm.findClass "RectangleTree$Changes" = some m.cls := hF.1.2.2.2.1
  have hts := hF.1.2.2.2.2
  have hr := hF.2.1
  have hlk := hF.2.2.1
  have hK := hF.2.2.2.2.1
  have hN := hF.2.2.2.2.2.1
  have hA := hF.2.2.2.2.2.2
  intro n
  induction n with
  | zero => intro x1 c_pool c_left c_treated T LB LN  H locs ls h; cases h
  | succ n ih =>
    intro x1 c_pool c_left c_treated T LB LN  H locs ls h  hP hD hS hl
    rw [f_Ch_putBackKept_L2] at h
    refine lv_iload_n hx hb dX0_putBackKept_2 rfl (lv_at hl 1 rfl) ?_
    refine lv_aload_n hx hb dX0_putBackKept_3 rfl (lv_at hl 0 rfl) ?_
    refine va_get (D := D) (ci := 0) (v := vI c_keptCount) (C := RX0) (T := TX0) (N := 8) hx hb hts zin0 hown hK hP 0 rfl rfl 2 (by decide) (hts _ wm134) (fun _ h9 => h9) rfl dX0_putBackKept_4 ?_
    obtain ⟨g_1, h⟩ := gd_e h
    obtain ⟨g_2, h⟩ := gd_e h
    refine z_icmp_ge (tgt := 99) hx hb g_1 g_2 dX0_putBackKept_7 (by decide) (fun b_3 => ?_) (fun b_3 => ?_)
    · have h := it_n b_3 h
      exact hk (x1) (c_pool) (c_left) (c_treated) (T) (LB) (LN) H locs ls h hP hD hS (lv_sub hl [] rfl)
    · have h := it_p b_3 h
      refine lv_aload_n hx hb dX0_putBackKept_10 rfl (lv_at hl 0 rfl) ?_
      refine va_get (D := D) (ci := 0) (v := .ref (q_C 0)) (C := RX0) (T := TX0) (N := 8) hx hb hts zin0 hown hK hP 0 rfl rfl 1 (by decide) (hts _ wm133) (fun _ h9 => h9) rfl dX0_putBackKept_11 ?_
      refine lv_iload_n hx hb dX0_putBackKept_14 rfl (lv_at hl 1 rfl) ?_
      obtain ⟨r_4, e_5, h⟩ := bd1_e h
      refine z_goi (ws' := []) (ret := r_4) (wc := (zAr cI ((q_C 0)) (24) (c_kept))) (wn := fun u_6 => (zCh cI h_C q_C h_T h_LB h_LN c_kept c_keptCount c_pool c_left c_treated) ++ (zTr cI h_T q_T T) ++ (zWk cI h_LB q_LB LB) ++ (zWk cI h_LN q_LN LN)) (wr := ([0, 2, 3, 4, 5, 6, 7, 8, 9, 10, 11, 12, 13, 14].filterMap (fun i => ((zCh cI h_C q_C h_T h_LB h_LN c_kept c_keptCount c_pool c_left c_treated) ++ (zTr cI h_T q_T T) ++ (zWk cI h_LB q_LB LB) ++ (zWk cI h_LN q_LN LN))[i]?))) (va_runSN (As := [.ref (q_C 0), vI x1]) (rest := []) hF.1 (c_Rt_at l D cI cZ cT (q_C 0) 24 c_kept x1 H.size (r_4) e_5) ⟨va_cnB 2 hts (zW_good wm229) rfl rfl rfl (hN.at 8 rfl) (hts _ wm32) (by decide +kernel) ⟨Nat.le_of_ble_eq_true rfl, Nat.le_of_ble_eq_true rfl⟩, hts _ wm228, trivial⟩ ⟨zP.blind, zP.enter (z_subP (ws' := (zAr cI ((q_C 0)) (24) (c_kept))) hP [1] rfl) hK (hD.sub [1] (by decide) rfl) hN⟩ rfl rfl hl.1 rfl (lv_room (Nat.le_of_ble_eq_true rfl)) dX0_putBackKept_15 ⟨Nat.le_refl _, Nat.le_refl _⟩) hP hD hS hA [1] [0, 2, 3, 4, 5, 6, 7, 8, 9, 10, 11, 12, 13, 14] [0, 14, 1, 2, 3, 4, 5, 6, 7, 8, 9, 10, 11, 12, 13] rfl rfl (by decide) (fun _ => rfl) (fun u_6 H locs hP hD hS hz => ?_)
      refine lv_istore_n (lv' := [(2, vI r_4), (0, .ref h_C), (1, vI x1)]) hx hb dX0_putBackKept_18 rfl hl (by decide) rfl (fun ls hl => ?_)
      refine lv_aload_n hx hb dX0_putBackKept_19 rfl (lv_at hl 1 rfl) ?_
      refine va_get (D := D) (ci := 0) (v := .ref h_T) (C := RX0) (T := TX0) (N := 8) hx hb hts zin0 hown hK hP 0 rfl rfl 0 (by decide) (hts _ wm132) (fun _ h9 => h9) rfl dX0_putBackKept_20 ?_
      refine lv_iload_n hx hb dX0_putBackKept_23 rfl (lv_at hl 0 rfl) ?_
      obtain ⟨r_7, e_8, h⟩ := bd1_e h
      refine z_goi (ws' := []) (ret := r_7) (wc := (zTr cI (h_T) (q_T) (T))) (wn := fun u_9 => (zCh cI h_C q_C h_T h_LB h_LN c_kept c_keptCount c_pool c_left c_treated) ++ (zTr cI h_T q_T T) ++ (zWk cI h_LB q_LB LB) ++ (zWk cI h_LN q_LN LN)) (wr := ([0, 1, 2, 9, 10, 11, 12, 13, 14].filterMap (fun i => ((zCh cI h_C q_C h_T h_LB h_LN c_kept c_keptCount c_pool c_left c_treated) ++ (zTr cI h_T q_T T) ++ (zWk cI h_LB q_LB LB) ++ (zWk cI h_LN q_LN LN))[i]?))) (va_runV (As := [vI r_4]) (rest := []) hF.1 (c_Tr_levelOf l D cI cZ cT h_T q_T T r_4 H.size (r_7) e_8) (cwV 1 hts (zgV wm504 wm301 wm302 wm33 wm303) rfl rfl rfl (by decide +kernel) ⟨Nat.le_of_ble_eq_true rfl, Nat.le_of_ble_eq_true rfl⟩) ⟨zP.blind, va_recv hK (z_subP (ws' := (zTr cI (h_T) (q_T) (T))) hP [3, 4, 5, 6, 7, 8] rfl) (ci := 4) (q0 := 0) rfl rfl, zP.enter (z_subP (ws' := (zTr cI (h_T) (q_T) (T))) hP [3, 4, 5, 6, 7, 8] rfl) hK (hD.sub [3, 4, 5, 6, 7, 8] (by decide) rfl) hN⟩ rfl rfl hl.1 rfl (lv_room (Nat.le_of_ble_eq_true rfl)) dX0_putBackKept_24 ⟨Nat.le_refl _, Nat.le_refl _⟩) hP hD hS hA [3, 4, 5, 6, 7, 8] [0, 1, 2, 9, 10, 11, 12, 13, 14] [0, 1, 2, 9, 10, 11, 12, 13, 14, 3, 4, 5, 6, 7, 8] rfl rfl (by decide) (fun _ => rfl) (fun u_9 H locs hP hD hS hz => ?_)
      refine lv_iconst (v := Int32.ofInt 1) hx hb dX0_putBackKept_27 rfl ?_
      refine z_iadd hx hb dX0_putBackKept_28 ?_
      refine lv_aload_n hx hb dX0_putBackKept_29 rfl (lv_at hl 1 rfl) ?_
      refine va_get (D := D) (ci := 0) (v := .ref h_T) (C := RX0) (T := TX0) (N := 8) hx hb hts zin0 hown hK hP 0 rfl rfl 0 (by decide) (hts _ wm132) (fun _ h9 => h9) rfl dX0_putBackKept_30 ?_
      refine lv_aload_n hx hb dX0_putBackKept_33 rfl (lv_at hl 1 rfl) ?_
      refine va_get (D := D) (ci := 0) (v := .ref h_T) (C := RX0) (T := TX0) (N := 8) hx hb hts zin0 hown hK hP 0 rfl rfl 0 (by decide) (hts _ wm132) (fun _ h9 => h9) rfl dX0_putBackKept_34 ?_
      refine va_get (D := D) (ci := 4) (v := vI (tRoot T)) (C := RX4) (T := TX4) (N := 10) hx hb hts zin4 hown hK hP 3 rfl rfl 5 (by decide) (hts _ wm69) (fun _ h9 => h9) rfl dX0_putBackKept_37 ?_
      obtain ⟨r_10, e_11, h⟩ := bd1_e h
      refine z_goi (ws' := []) (ret := r_10) (wc := (zTr cI (h_T) (q_T) (T))) (wn := fun u_12 => (zCh cI h_C q_C h_T h_LB h_LN c_kept c_keptCount c_pool c_left c_treated) ++ (zTr cI h_T q_T T) ++ (zWk cI h_LB q_LB LB) ++ (zWk cI h_LN q_LN LN)) (wr := ([0, 1, 2, 9, 10, 11, 12, 13, 14].filterMap (fun i => ((zCh cI h_C q_C h_T h_LB h_LN c_kept c_keptCount c_pool c_left c_treated) ++ (zTr cI h_T q_T T) ++ (zWk cI h_LB q_LB LB) ++ (zWk cI h_LN q_LN LN))[i]?))) (va_runV (As := [vI (tRoot T)]) (rest := [vI (r_7 + 1)]) hF.1 (c_Tr_levelOf l D cI cZ cT h_T q_T T (tRoot T) H.size (r_10) e_11) (cwV 1 hts (zgV wm504 wm301 wm302 wm33 wm303) rfl rfl rfl (by decide +kernel) ⟨Nat.le_of_ble_eq_true rfl, Nat.le_of_ble_eq_true rfl⟩) ⟨zP.blind, va_recv hK (z_subP (ws' := (zTr cI (h_T) (q_T) (T))) hP [3, 4, 5, 6, 7, 8] rfl) (ci := 4) (q0 := 0) rfl rfl, zP.enter (z_subP (ws' := (zTr cI (h_T) (q_T) (T))) hP [3, 4, 5, 6, 7, 8] rfl) hK (hD.sub [3, 4, 5, 6, 7, 8] (by decide) rfl) hN⟩ rfl rfl hl.1 rfl (lv_room (Nat.le_of_ble_eq_true rfl)) dX0_putBackKept_40 ⟨Nat.le_refl _, Nat.le_refl _⟩) hP hD hS hA [3, 4, 5, 6, 7, 8] [0, 1, 2, 9, 10, 11, 12, 13, 14] [0, 1, 2, 9, 10, 11, 12, 13, 14, 3, 4, 5, 6, 7, 8] rfl rfl (by decide) (fun _ => rfl) (fun u_12 H locs hP hD hS hz => ?_)
      obtain ⟨g_13, h⟩ := gd_e h
      obtain ⟨g_14, h⟩ := gd_e h
      refine z_icmp_gt (tgt := 54) hx hb g_13 g_14 dX0_putBackKept_43 (by decide) (fun b_15 => ?_) (fun b_15 => ?_)
      · have h := it_p b_15 h
        refine lv_aload_n hx hb dX0_putBackKept_54 rfl (lv_at hl 1 rfl) ?_
        refine lv_iload_n hx hb dX0_putBackKept_55 rfl (lv_at hl 0 rfl) ?_
        obtain ⟨T_16, LB_17, LN_18, e_19, h⟩ := bd3_e h
        have mo_21 : (tR T) ≤ (tR T_16) ∧ (kLen LB) ≤ (kLen LB_17) ∧ (kLen LN) ≤ (kLen LN_18) := mo_Ch_dissolve T LB LN r_4 (T_16, LB_17, LN_18) e_19
        refine z_gov (wc := (zCh cI (h_C) (q_C) (h_T) (h_LB) (h_LN) (c_kept) (c_keptCount) (c_pool) (c_left) (c_treated)) ++ (zTr cI (h_T) (q_T) (T)) ++ (zWk cI (h_LB) (q_LB) (LB)) ++ (zWk cI (h_LN) (q_LN) (LN))) (wn := fun u_20 => (zCh cI h_C q_C h_T h_LB h_LN c_kept c_keptCount c_pool c_left c_treated) ++ (zTr cI h_T q_T T_16) ++ (zWk cI h_LB q_LB LB_17) ++ (zWk cI h_LN q_LN LN_18)) (wr := []) (va_runV (As := [vI r_4]) (rest := []) hF.1 (c_Ch_dissolve l D cI cZ cT h_C q_C h_T h_LB h_LN q_T q_LB q_LN c_kept c_keptCount c_pool c_left c_treated T LB LN r_4 H.size (T_16, LB_17, LN_18) e_19) (cwV 1 hts (zgV wm655 wm657 wm23 wm35 wm658) rfl rfl rfl (by decide +kernel) ⟨Nat.le_of_ble_eq_true rfl, Nat.le_of_ble_eq_true rfl⟩) ⟨zP.blind, va_recv hK (z_subP (ws' := (zCh cI (h_C) (q_C) (h_T) (h_LB) (h_LN) (c_kept) (c_keptCount) (c_pool) (c_left) (c_treated)) ++ (zTr cI (h_T) (q_T) (T)) ++ (zWk cI (h_LB) (q_LB) (LB)) ++ (zWk cI (h_LN) (q_LN) (LN))) hP [0, 1, 2, 3, 4, 5, 6, 7, 8, 9, 10, 11, 12, 13, 14] rfl) (ci := 0) (q0 := 0) rfl rfl, zP.enter (z_subP (ws' := (zCh cI (h_C) (q_C) (h_T) (h_LB) (h_LN) (c_kept) (c_keptCount) (c_pool) (c_left) (c_treated)) ++ (zTr cI (h_T) (q_T) (T)) ++ (zWk cI (h_LB) (q_LB) (LB)) ++ (zWk cI (h_LN) (q_LN) (LN))) hP [0, 1, 2, 3, 4, 5, 6, 7, 8, 9, 10, 11, 12, 13, 14] rfl) hK (hD.sub [0, 1, 2, 3, 4, 5, 6, 7, 8, 9, 10, 11, 12, 13, 14] (by decide) rfl) hN⟩ rfl rfl hl.1 rfl (lv_room (Nat.le_of_ble_eq_true rfl)) dX0_putBackKept_56 ⟨Nat.le_refl _, Nat.le_refl _⟩) hP hD hS hA [0, 1, 2, 3, 4, 5, 6, 7, 8, 9, 10, 11, 12, 13, 14] [] [0, 1, 2, 3, 4, 5, 6, 7, 8, 9, 10, 11, 12, 13, 14] rfl rfl (by decide) (fun _ => rfl) (fun u_20 H locs hP hD hS hz => ?_)
        refine lv_iconst (v := Int32.ofInt 0) hx hb dX0_putBackKept_59 rfl ?_
        refine lv_istore_n (lv' := [(3, vI 0), (2, vI r_4), (0, .ref h_C), (1, vI x1)]) hx hb dX0_putBackKept_60 rfl hl (by decide) rfl (fun ls hl => ?_)
        refine w_Ch_putBackKept_L61 D cI cZ cT (h_C) (q_C) (h_T) (h_LB) (h_LN) (q_T) (q_LB) (q_LN) (c_kept) (c_keptCount) (LB_17) (LN_18) (x1) _ _ hF (fun x3_35 c_pool_36 c_left_37 c_treated_38 T_39 H locs ls h hP hD hS hl => ?_) _ (0) (c_pool) (c_left) (c_treated) (T_16) _ _ _ h hP hD hS (lv_sub hl [2, 3, 0] rfl)
        refine lv_iinc (v := Int32.ofInt (x1 + 1)) (lv' := [(1, vI (x1 + 1)), (0, .ref h_C)]) hx hb dX0_putBackKept_93 hl (k := 1) rfl (z_inc _ _) (by decide) rfl (fun ls hl => ?_)
        refine lv_goto (tgt := 2) hx hb dX0_putBackKept_96 (by decide) ?_
        exact ih ((x1 + 1)) (c_pool_36) (c_left_37) (c_treated_38) (T_39) (LB_17) (LN_18) H locs ls h hP hD hS (lv_sub hl [1, 0] rfl)
      · have h := it_n b_15 h
        refine lv_aload_n hx hb dX0_putBackKept_46 rfl (lv_at hl 1 rfl) ?_
        refine lv_iload_n hx hb dX0_putBackKept_47 rfl (lv_at hl 0 rfl) ?_
        obtain ⟨c_pool_40, c_left_41, c_treated_42, T_43, e_44, h⟩ := bd4_e h
        have mo_46 : (tR T) ≤ (tR T_43) := mo_Ch_insertOwn c_pool c_left T r_4 (c_pool_40, c_left_41, c_treated_42, T_43) e_44
        refine z_gov (wc := (zCh cI (h_C) (q_C) (h_T) (h_LB) (h_LN) (c_kept) (c_keptCount) (c_pool) (c_left) (c_treated)) ++ (zTr cI (h_T) (q_T) (T)) ++ (zWk cI (h_LB) (q_LB) (LB)) ++ (zWk cI (h_LN) (q_LN) (LN))) (wn := fun u_45 => (zCh cI h_C q_C h_T h_LB h_LN c_kept c_keptCount c_pool_40 c_left_41 c_treated_42) ++ (zTr cI h_T q_T T_43) ++ (zWk cI h_LB q_LB LB) ++ (zWk cI h_LN q_LN LN)) (wr := []) (va_runV (As := [vI r_4]) (rest := []) hF.1 (c_Ch_insertOwn l D cI cZ cT h_C q_C h_T h_LB h_LN q_T q_LB q_LN c_kept c_keptCount c_pool c_left c_treated T LB LN r_4 H.size (c_pool_40, c_left_41, c_treated_42, T_43) e_44) (cwV 1 hts (zgV wm654 wm497 wm498 wm35 wm499) rfl rfl rfl (by decide +kernel) ⟨Nat.le_of_ble_eq_true rfl, Nat.le_of_ble_eq_true rfl⟩) ⟨zP.blind, va_recv hK (z_subP (ws' := (zCh cI (h_C) (q_C) (h_T) (h_LB) (h_LN) (c_kept) (c_keptCount) (c_pool) (c_left) (c_treated)) ++ (zTr cI (h_T) (q_T) (T)) ++ (zWk cI (h_LB) (q_LB) (LB)) ++ (zWk cI (h_LN) (q_LN) (LN))) hP [0, 1, 2, 3, 4, 5, 6, 7, 8, 9, 10, 11, 12, 13, 14] rfl) (ci := 0) (q0 := 0) rfl rfl, zP.enter (z_subP (ws' := (zCh cI (h_C) (q_C) (h_T) (h_LB) (h_LN) (c_kept) (c_keptCount) (c_pool) (c_left) (c_treated)) ++ (zTr cI (h_T) (q_T) (T)) ++ (zWk cI (h_LB) (q_LB) (LB)) ++ (zWk cI (h_LN) (q_LN) (LN))) hP [0, 1, 2, 3, 4, 5, 6, 7, 8, 9, 10, 11, 12, 13, 14] rfl) hK (hD.sub [0, 1, 2, 3, 4, 5, 6, 7, 8, 9, 10, 11, 12, 13, 14] (by decide) rfl) hN⟩ rfl rfl hl.1 rfl (lv_room (Nat.le_of_ble_eq_true rfl)) dX0_putBackKept_48 ⟨Nat.le_refl _, Nat.le_refl _⟩) hP hD hS hA [0, 1, 2, 3, 4, 5, 6, 7, 8, 9, 10, 11, 12, 13, 14] [] [0, 1, 2, 3, 4, 5, 6, 7, 8, 9, 10, 11, 12, 13, 14] rfl rfl (by decide) (fun _ => rfl) (fun u_45 H locs hP hD hS hz => ?_)
        refine lv_goto (tgt := 93) hx hb dX0_putBackKept_51 (by decide) ?_
        refine lv_iinc (v := Int32.ofInt (x1 + 1)) (lv' := [(1, vI (x1 + 1)), (2, vI r_4), (0, .ref h_C)]) hx hb dX0_putBackKept_93 hl (k := 2) rfl (z_inc _ _) (by decide) rfl (fun ls hl => ?_)
        refine lv_goto (tgt := 2) hx hb dX0_putBackKept_96 (by decide) ?_
        exact ih ((x1 + 1)) (c_pool_40) (c_left_41) (c_treated_42) (T_43) (LB) (LN) H locs ls h hP hD hS (lv_sub hl [2, 0] rfl)
set_option maxHeartbeats 4000000 in
set_option maxRecDepth 100000 in
theorem c_Ch_putBackKept (l : Launch) (D : va_G) (cI cZ cT : ClassId) (h_C : Nat) (q_C : Nat → Nat) (h_T : Nat) (h_LB : Nat) (h_LN : Nat) (q_T : Nat → Nat) (q_LB : Nat → Nat) (q_LN : Nat → Nat) (c_kept : Nat → Int) (c_keptCount : Int) (c_pool : Nat → Int) (c_left : Int) (c_treated : Int64) (T : TV) (LB : KV) (LN : KV) (sz : Nat) (res : (Nat → Int) × Int × Int64 × TV × KV × KV) (h : f_Ch_putBackKept c_kept c_keptCount c_pool c_left c_treated T LB LN = some res) : zMv l yX0_putBackKept cX0_putBackKept 4 rm_Ch_putBackKept D (zt cI cZ cT) [.ref h_C] ((zCh cI h_C q_C h_T h_LB h_LN c_kept c_keptCount c_pool c_left c_treated) ++ (zTr cI h_T q_T T) ++ (zWk cI h_LB q_LB LB) ++ (zWk cI h_LN q_LN LN)) sz (fun u => (zCh cI h_C q_C h_T h_LB h_LN c_kept c_keptCount (res.1) (res.2.1) (res.2.2.1)) ++ (zTr cI h_T q_T (res.2.2.2.1)) ++ (zWk cI h_LB q_LB (res.2.2.2.2.1)) ++ (zWk cI h_LN q_LN (res.2.2.2.2.2))) 0 0 := by
  refine z_enth (Qc := zQv D (fun u => (zCh cI h_C q_C h_T h_LB h_LN c_kept c_keptCount (res.1) (res.2.1) (res.2.2.1)) ++ (zTr cI h_T q_T (res.2.2.2.1)) ++ (zWk cI h_LB q_LB (res.2.2.2.2.1)) ++ (zWk cI h_LN q_LN (res.2.2.2.2.2)))) (by decide) (Nat.le_of_ble_eq_true rfl) (fun p e s m args below meth c A ls H locs hF hP hD hS hl => ?_)
  have hx := hF.1.1
  have hb := hF.1.2.1
  have hml := hF.1.2.2.1
  have hown : s.vm.findClass "RectangleTree$Changes" = some m.cls := hF.1.2.2.2.1
  have hts := hF.1.2.2.2.2
  have hr := hF.2.1
  have hlk := hF.2.2.1
  have hK := hF.2.2.2.2.1
  have hN := hF.2.2.2.2.2.1
  have hA := hF.2.2.2.2.2.2
  unfold f_Ch_putBackKept at h
  refine lv_iconst (v := Int32.ofInt 0) hx hb dX0_putBackKept_0 rfl ?_
  refine lv_istore_n (lv' := [(1, vI 0), (0, .ref h_C)]) hx hb dX0_putBackKept_1 rfl hl (by decide) rfl (fun ls hl => ?_)
  refine w_Ch_putBackKept_L2 D cI cZ cT (h_C) (q_C) (h_T) (h_LB) (h_LN) (q_T) (q_LB) (q_LN) (c_kept) (c_keptCount) _ _ hF (fun x1_47 c_pool_48 c_left_49 c_treated_50 T_51 LB_52 LN_53 H locs ls h hP hD hS hl => ?_) _ (0) (c_pool) (c_left) (c_treated) (T) (LB) (LN) _ _ _ h hP hD hS (lv_sub hl [1, 0] rfl)
  obtain rfl := Option.some.inj h
  exact z_vret hx hb hr hlk (fun _ _ => 0) hP hD hS dX0_putBackKept_99
