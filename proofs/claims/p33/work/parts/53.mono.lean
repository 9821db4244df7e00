theorem mo_Tr_take (T : TV) (x1 : Int) (x2 : Int) (res : TV) (h : f_Tr_take T x1 x2 = some res) : (tR T) ≤ (tR (res)) := by
  unfold f_Tr_take at h
  obtain ⟨T_1, e_2, h⟩ := bd1_e h
  obtain ⟨T_4, e_5, h⟩ := bd1_e h
  obtain ⟨T_7, e_8, h⟩ := bd1_e h
  obtain rfl := Option.some.inj h
  exact (show (tR T) ≤ (tR T) from by omega)
theorem mo_Tr_release (T : TV) (x1 : Int) (res : TV) (h : f_Tr_release T x1 = some res) : (tR T) ≤ (tR (res)) := by
  unfold f_Tr_release at h
  obtain ⟨T_1, e_2, h⟩ := bd1_e h
  have mo_4 : (tR T) ≤ (tR T_1) := mo_Tr_take T x1 (-2) (T_1) e_2
  obtain rfl := Option.some.inj h
  exact (show (tR T) ≤ (tR T_1) from by omega)
theorem mo_Tr_setLoose (T : TV) (x1 : Int) (res : TV) (h : f_Tr_setLoose T x1 = some res) : (tR T) ≤ (tR (res)) := by
  unfold f_Tr_setLoose at h
  obtain ⟨T_1, e_2, h⟩ := bd1_e h
  obtain rfl := Option.some.inj h
  exact (show (tR T) ≤ (tR T) from by omega)
theorem mo_Tr_makeListEmpty (T : TV) (x1 : Int) (res : TV) (h : f_Tr_makeListEmpty T x1 = some res) : (tR T) ≤ (tR (res)) := by
  unfold f_Tr_makeListEmpty at h
  obtain ⟨T_1, e_2, h⟩ := bd1_e h
  obtain rfl := Option.some.inj h
  exact (show (tR T) ≤ (tR T) from by omega)
theorem mo_Tr_setCorners (T : TV) (x1 : Int) (x2 : Int) (x3 : Int) (x4 : Int) (x5 : Int) (res : TV) (h : f_Tr_setCorners T x1 x2 x3 x4 x5 = some res) : (tR T) ≤ (tR (res)) := by
  unfold f_Tr_setCorners at h
  obtain ⟨g_1, h⟩ := gd_e h
  rcases it_e h with ⟨_, h⟩ | ⟨_, h⟩
  · obtain rfl := Option.some.inj h
    exact (show (tR T) ≤ (tR T) from by omega)
  · obtain ⟨g_3, h⟩ := gd_e h
    rcases it_e h with ⟨_, h⟩ | ⟨_, h⟩
    · obtain rfl := Option.some.inj h
      exact (show (tR T) ≤ (tR T) from by omega)
    · obtain ⟨g_5, h⟩ := gd_e h
      obtain ⟨g_6, h⟩ := gd_e h
      obtain ⟨g_7, h⟩ := gd_e h
      obtain ⟨g_8, h⟩ := gd_e h
      obtain ⟨g_9, h⟩ := gd_e h
      obtain ⟨g_10, h⟩ := gd_e h
      obtain ⟨g_11, h⟩ := gd_e h
      obtain rfl := Option.some.inj h
      exact (show (tR T) ≤ (tR T) from by omega)
theorem mo_Tr_newBox (T : TV) (x1 : Int) (x2 : Int) (x3 : Int) (x4 : Int) (res : Int × TV) (h : f_Tr_newBox T x1 x2 x3 x4 = some res) : (tR T) ≤ (tR (res.2)) := by
  unfold f_Tr_newBox at h
  obtain ⟨r_1, e_2, h⟩ := bd1_e h
  obtain ⟨g_4, h⟩ := gd_e h
  rcases it_e h with ⟨_, h⟩ | ⟨_, h⟩
  · obtain rfl := Option.some.inj h
    exact (show (tR T) ≤ (tR T) from by omega)
  · obtain ⟨T_6, e_7, h⟩ := bd1_e h
    have mo_9 : (tR T) ≤ (tR T_6) := mo_Tr_take T r_1 (-1) (T_6) e_7
    obtain ⟨T_10, e_11, h⟩ := bd1_e h
    have mo_13 : (tR T_6) ≤ (tR T_10) := mo_Tr_setCorners T_6 r_1 x1 x2 x3 x4 (T_10) e_11
    obtain rfl := Option.some.inj h
    exact (show (tR T) ≤ (tR T_10) from by omega)
theorem mo_Tr_releaseNodes_L3 (res : TV) (k : Int → TV → Option (TV)) (hkm : ∀ (x1 : Int) (T : TV) , k x1 T = some res → (tR T) ≤ (tR (res))) : ∀ (n : Nat) (x1 : Int) (T : TV) , f_Tr_releaseNodes_L3 k n x1 T = some res → (tR T) ≤ (tR (res)) := by
  intro n
  induction n with
  | zero => intro x1 T h; cases h
  | succ n ihm =>
    intro x1 T h
    rw [f_Tr_releaseNodes_L3] at h
    obtain ⟨g_1, h⟩ := gd_e h
    rcases it_e h with ⟨_, h⟩ | ⟨_, h⟩
    · obtain ⟨T_3, e_4, h⟩ := bd1_e h
      have mo_6 : (tR T) ≤ (tR T_3) := mo_Tr_release T x1 (T_3) e_4
      have mo9 : (tR T_3) ≤ (tR (res)) := ihm ((x1 + 1)) (T_3) h
      exact (show (tR T) ≤ (tR (res)) from by omega)
    · have mo9 : (tR T) ≤ (tR (res)) := hkm (x1) (T) h
      exact (show (tR T) ≤ (tR (res)) from by omega)
theorem mo_Tr_releaseNodes (T : TV) (res : TV) (h : f_Tr_releaseNodes T = some res) : (tR T) ≤ (tR (res)) := by
  unfold f_Tr_releaseNodes at h
  have mo9 : (tR T) ≤ (tR (res)) := mo_Tr_releaseNodes_L3  _ _ (fun x1_7 T_8 h => by
      obtain rfl := Option.some.inj h
      exact (show (tR T_8) ≤ (tR T_8) from by omega)) _ (24) (T) h
  exact (show (tR T) ≤ (tR (res)) from by omega)
theorem mo_Tr_refreshUp_L42 (T : TV) (x2 : Int) (x8 : Int) (res : TV) (k : Int → Int → Int → Int → Int → Option (TV)) (hkm : ∀ (x4 : Int) (x5 : Int) (x6 : Int) (x7 : Int) (x9 : Int) , k x4 x5 x6 x7 x9 = some res → (tR T) ≤ (tR (res))) : ∀ (n : Nat) (x4 : Int) (x5 : Int) (x6 : Int) (x7 : Int) (x9 : Int) , f_Tr_refreshUp_L42 T x2 x8 k n x4 x5 x6 x7 x9 = some res → (tR T) ≤ (tR (res)) := by
  intro n
  induction n with
  | zero => intro x4 x5 x6 x7 x9 h; cases h
  | succ n ihm =>
    intro x4 x5 x6 x7 x9 h
    rw [f_Tr_refreshUp_L42] at h
    obtain ⟨g_11, h⟩ := gd_e h
    obtain ⟨g_12, h⟩ := gd_e h
    rcases it_e h with ⟨_, h⟩ | ⟨_, h⟩
    · obtain ⟨r_14, e_15, h⟩ := bd1_e h
      obtain ⟨r_17, e_18, h⟩ := bd1_e h
      obtain ⟨g_20, h⟩ := gd_e h
      obtain ⟨g_21, h⟩ := gd_e h
      obtain ⟨r_23, e_24, h⟩ := bd1_e h
      obtain ⟨g_26, h⟩ := gd_e h
      obtain ⟨g_27, h⟩ := gd_e h
      obtain ⟨r_29, e_30, h⟩ := bd1_e h
      obtain ⟨g_32, h⟩ := gd_e h
      obtain ⟨g_33, h⟩ := gd_e h
      obtain ⟨r_35, e_36, h⟩ := bd1_e h
      obtain ⟨g_38, h⟩ := gd_e h
      obtain ⟨g_39, h⟩ := gd_e h
      have mo9 : (tR T) ≤ (tR (res)) := ihm ((min x4 r_17)) ((min x5 r_23)) ((max x6 r_29)) ((max x7 r_35)) ((x9 + 1)) h
      exact (show (tR T) ≤ (tR (res)) from by omega)
    · have mo9 : (tR T) ≤ (tR (res)) := hkm (x4) (x5) (x6) (x7) (x9) h
      exact (show (tR T) ≤ (tR (res)) from by omega)
theorem mo_Tr_refreshUp_L4 (res : TV) (k : Int → Int → TV → Option (TV)) (hkm : ∀ (x2 : Int) (x3 : Int) (T : TV) , k x2 x3 T = some res → (tR T) ≤ (tR (res))) : ∀ (n : Nat) (x2 : Int) (x3 : Int) (T : TV) , f_Tr_refreshUp_L4 k n x2 x3 T = some res → (tR T) ≤ (tR (res)) := by
  intro n
  induction n with
  | zero => intro x2 x3 T h; cases h
  | succ n ihm =>
    intro x2 x3 T h
    rw [f_Tr_refreshUp_L4] at h
    obtain ⟨r_1, e_2, h⟩ := bd1_e h
    obtain ⟨g_4, h⟩ := gd_e h
    rcases it_e h with ⟨_, h⟩ | ⟨_, h⟩
    · have mo9 : (tR T) ≤ (tR (res)) := hkm (x2) (x3) (T) h
      exact (show (tR T) ≤ (tR (res)) from by omega)
    · obtain ⟨g_6, h⟩ := gd_e h
      rcases it_e h with ⟨_, h⟩ | ⟨_, h⟩
      · obtain ⟨r_8, e_9, h⟩ := bd1_e h
        have mo9 : (tR T) ≤ (tR (res)) := mo_Tr_refreshUp_L42 (T) (x2) (r_8) _ _ (fun x4_41 x5_42 x6_43 x7_44 x9_45 h => by
            obtain ⟨T_46, e_47, h⟩ := bd1_e h
            have mo_49 : (tR T) ≤ (tR T_46) := mo_Tr_setCorners T x2 x4_41 x5_42 x6_43 x7_44 (T_46) e_47
            obtain ⟨r_50, e_51, h⟩ := bd1_e h
            have mo9 : (tR T_46) ≤ (tR (res)) := ihm (r_50) ((x3 + 1)) (T_46) h
            exact (show (tR T) ≤ (tR (res)) from by omega)) _ (99) (99) (0) (0) (0) h
        exact (show (tR T) ≤ (tR (res)) from by omega)
      · have mo9 : (tR T) ≤ (tR (res)) := hkm (x2) (x3) (T) h
        exact (show (tR T) ≤ (tR (res)) from by omega)
theorem mo_Tr_refreshUp (T : TV) (x1 : Int) (res : TV) (h : f_Tr_refreshUp T x1 = some res) : (tR T) ≤ (tR (res)) := by
  unfold f_Tr_refreshUp at h
  have mo9 : (tR T) ≤ (tR (res)) := mo_Tr_refreshUp_L4  _ _ (fun x2_53 x3_54 T_55 h => by
      obtain rfl := Option.some.inj h
      exact (show (tR T_55) ≤ (tR T_55) from by omega)) _ (x1) (0) (T) h
  exact (show (tR T) ≤ (tR (res)) from by omega)
theorem mo_Tr_addAt_L35 (x2 : Int) (x5 : Int) (res : TV) (k : Int → TV → Option (TV)) (hkm : ∀ (x6 : Int) (T : TV) , k x6 T = some res → (tR T) ≤ (tR (res))) : ∀ (n : Nat) (x6 : Int) (T : TV) , f_Tr_addAt_L35 x2 x5 k n x6 T = some res → (tR T) ≤ (tR (res)) := by
  intro n
  induction n with
  | zero => intro x6 T h; cases h
  | succ n ihm =>
    intro x6 T h
    rw [f_Tr_addAt_L35] at h
    obtain ⟨g_9, h⟩ := gd_e h
    obtain ⟨g_10, h⟩ := gd_e h
    rcases it_e h with ⟨_, h⟩ | ⟨_, h⟩
    · obtain ⟨r_12, e_13, h⟩ := bd1_e h
      obtain ⟨T_15, e_16, h⟩ := bd1_e h
      have mo9 : (tR T) ≤ (tR (res)) := ihm ((x6 + (-1))) ((sLis T T_15)) h
      exact (show (tR T) ≤ (tR (res)) from by omega)
    · have mo9 : (tR T) ≤ (tR (res)) := hkm (x6) (T) h
      exact (show (tR T) ≤ (tR (res)) from by omega)
theorem mo_Tr_addAt (T : TV) (x1 : Int) (x2 : Int) (x3 : Int) (res : TV) (h : f_Tr_addAt T x1 x2 x3 = some res) : (tR T) ≤ (tR (res)) := by
  unfold f_Tr_addAt at h
  obtain ⟨r_1, e_2, h⟩ := bd1_e h
  obtain ⟨g_4, h⟩ := gd_e h
  rcases it_e h with ⟨_, h⟩ | ⟨_, h⟩
  · obtain ⟨g_6, h⟩ := gd_e h
    rcases it_e h with ⟨_, h⟩ | ⟨_, h⟩
    · obtain rfl := Option.some.inj h
      exact (show (tR T) ≤ (tR T) from by omega)
    · rcases it_e h with ⟨_, h⟩ | ⟨_, h⟩
      · obtain rfl := Option.some.inj h
        exact (show (tR T) ≤ (tR T) from by omega)
      · have mo9 : (tR T) ≤ (tR (res)) := mo_Tr_addAt_L35 (x2) ((x1 * 6)) _ _ (fun x6_18 T_19 h => by
            obtain ⟨T_20, e_21, h⟩ := bd1_e h
            obtain ⟨T_23, e_24, h⟩ := bd1_e h
            obtain ⟨T_26, e_27, h⟩ := bd1_e h
            obtain ⟨T_29, e_30, h⟩ := bd1_e h
            have mo_32 : (tR T_19) ≤ (tR T_29) := mo_Tr_refreshUp (sLis (sSiz (sHol T_19 T_26) T_23) T_20) x1 (T_29) e_30
            obtain rfl := Option.some.inj h
            exact (show (tR T_19) ≤ (tR T_29) from by omega)) _ (r_1) (T) h
        exact (show (tR T) ≤ (tR (res)) from by omega)
  · obtain rfl := Option.some.inj h
    exact (show (tR T) ≤ (tR T) from by omega)
theorem mo_Tr_addBehind (T : TV) (x1 : Int) (x2 : Int) (x3 : Int) (res : TV) (h : f_Tr_addBehind T x1 x2 x3 = some res) : (tR T) ≤ (tR (res)) := by
  unfold f_Tr_addBehind at h
  obtain ⟨r_1, e_2, h⟩ := bd1_e h
  obtain ⟨T_4, e_5, h⟩ := bd1_e h
  have mo_7 : (tR T) ≤ (tR T_4) := mo_Tr_addAt T x1 (r_1 + 1) x3 (T_4) e_5
  obtain rfl := Option.some.inj h
  exact (show (tR T) ≤ (tR T_4) from by omega)
theorem mo_Tr_takeOut_L37 (x4 : Int) (x5 : Int) (res : TV) (k : Int → TV → Option (TV)) (hkm : ∀ (x6 : Int) (T : TV) , k x6 T = some res → (tR T) ≤ (tR (res))) : ∀ (n : Nat) (x6 : Int) (T : TV) , f_Tr_takeOut_L37 x4 x5 k n x6 T = some res → (tR T) ≤ (tR (res)) := by
  intro n
  induction n with
  | zero => intro x6 T h; cases h
  | succ n ihm =>
    intro x6 T h
    rw [f_Tr_takeOut_L37] at h
    obtain ⟨g_12, h⟩ := gd_e h
    obtain ⟨g_13, h⟩ := gd_e h
    rcases it_e h with ⟨_, h⟩ | ⟨_, h⟩
    · obtain ⟨r_15, e_16, h⟩ := bd1_e h
      obtain ⟨T_18, e_19, h⟩ := bd1_e h
      have mo9 : (tR T) ≤ (tR (res)) := ihm ((x6 + 1)) ((sLis T T_18)) h
      exact (show (tR T) ≤ (tR (res)) from by omega)
    · have mo9 : (tR T) ≤ (tR (res)) := hkm (x6) (T) h
      exact (show (tR T) ≤ (tR (res)) from by omega)
theorem mo_Tr_takeOut (T : TV) (x1 : Int) (res : TV) (h : f_Tr_takeOut T x1 = some res) : (tR T) ≤ (tR (res)) := by
  unfold f_Tr_takeOut at h
  obtain ⟨r_1, e_2, h⟩ := bd1_e h
  obtain ⟨r_4, e_5, h⟩ := bd1_e h
  obtain ⟨g_7, h⟩ := gd_e h
  rcases it_e h with ⟨_, h⟩ | ⟨_, h⟩
  · obtain rfl := Option.some.inj h
    exact (show (tR T) ≤ (tR T) from by omega)
  · obtain ⟨r_9, e_10, h⟩ := bd1_e h
    have mo9 : (tR T) ≤ (tR (res)) := mo_Tr_takeOut_L37 ((r_1 * 6)) ((r_9 - 1)) _ _ (fun x6_21 T_22 h => by
        obtain ⟨T_23, e_24, h⟩ := bd1_e h
        obtain ⟨T_26, e_27, h⟩ := bd1_e h
        obtain ⟨T_29, e_30, h⟩ := bd1_e h
        have mo_32 : (tR T_22) ≤ (tR T_29) := mo_Tr_refreshUp (sSiz (sHol T_22 T_26) T_23) r_1 (T_29) e_30
        obtain rfl := Option.some.inj h
        exact (show (tR T_22) ≤ (tR T_29) from by omega)) _ (r_4) (T) h
    exact (show (tR T) ≤ (tR (res)) from by omega)
theorem mo_Tr_lowerRoot_L2 (res : TV) (k : Int → TV → Option (TV)) (hkm : ∀ (x1 : Int) (T : TV) , k x1 T = some res → (tR T) ≤ (tR (res))) : ∀ (n : Nat) (x1 : Int) (T : TV) , f_Tr_lowerRoot_L2 k n x1 T = some res → (tR T) ≤ (tR (res)) := by
  intro n
  induction n with
  | zero => intro x1 T h; cases h
  | succ n ihm =>
    intro x1 T h
    rw [f_Tr_lowerRoot_L2] at h
    obtain ⟨r_1, e_2, h⟩ := bd1_e h
    obtain ⟨g_4, h⟩ := gd_e h
    rcases it_e h with ⟨_, h⟩ | ⟨_, h⟩
    · obtain ⟨r_6, e_7, h⟩ := bd1_e h
      obtain ⟨g_9, h⟩ := gd_e h
      rcases it_e h with ⟨_, h⟩ | ⟨_, h⟩
      · obtain ⟨g_11, h⟩ := gd_e h
        rcases it_e h with ⟨_, h⟩ | ⟨_, h⟩
        · obtain ⟨r_13, e_14, h⟩ := bd1_e h
          obtain ⟨T_16, e_17, h⟩ := bd1_e h
          have mo_19 : (tR T) ≤ (tR T_16) := mo_Tr_release T (tRoot T) (T_16) e_17
          obtain ⟨T_20, e_21, h⟩ := bd1_e h
          have mo_23 : (tR T_16) ≤ (tR T_20) := mo_Tr_setLoose T_16 r_13 (T_20) e_21
          have mo9 : (tR T_20) ≤ (tR (res)) := ihm ((x1 + 1)) ((sRoot T_20 r_13)) h
          exact (show (tR T) ≤ (tR (res)) from by omega)
        · have mo9 : (tR T) ≤ (tR (res)) := hkm (x1) (T) h
          exact (show (tR T) ≤ (tR (res)) from by omega)
      · have mo9 : (tR T) ≤ (tR (res)) := hkm (x1) (T) h
        exact (show (tR T) ≤ (tR (res)) from by omega)
    · have mo9 : (tR T) ≤ (tR (res)) := hkm (x1) (T) h
      exact (show (tR T) ≤ (tR (res)) from by omega)
theorem mo_Tr_lowerRoot (T : TV) (res : TV) (h : f_Tr_lowerRoot T = some res) : (tR T) ≤ (tR (res)) := by
  unfold f_Tr_lowerRoot at h
  have mo9 : (tR T) ≤ (tR (res)) := mo_Tr_lowerRoot_L2  _ _ (fun x1_24 T_25 h => by
      obtain ⟨r_26, e_27, h⟩ := bd1_e h
      obtain ⟨g_29, h⟩ := gd_e h
      rcases it_e h with ⟨_, h⟩ | ⟨_, h⟩
      · obtain ⟨r_31, e_32, h⟩ := bd1_e h
        obtain ⟨g_34, h⟩ := gd_e h
        rcases it_e h with ⟨_, h⟩ | ⟨_, h⟩
        · obtain ⟨T_36, e_37, h⟩ := bd1_e h
          obtain rfl := Option.some.inj h
          exact (show (tR T_25) ≤ (tR T_25) from by omega)
        · obtain rfl := Option.some.inj h
          exact (show (tR T_25) ≤ (tR T_25) from by omega)
      · obtain rfl := Option.some.inj h
        exact (show (tR T_25) ≤ (tR T_25) from by omega)) _ (0) (T) h
  exact (show (tR T) ≤ (tR (res)) from by omega)
theorem mo_Ch_reinsertFarthest (c_treated : Int64) (T : TV) (x1 : Int) (res : Int × Int64 × TV) (h : f_Ch_reinsertFarthest c_treated T x1 = some res) : (tR T) ≤ (tR (res.2.2)) := by
  unfold f_Ch_reinsertFarthest at h
  obtain ⟨r_1, e_2, h⟩ := bd1_e h
  obtain ⟨r_4, e_5, h⟩ := bd1_e h
  obtain ⟨T_7, e_8, h⟩ := bd1_e h
  have mo_10 : (tR T) ≤ (tR T_7) := mo_Tr_takeOut (sRec T ((tRec T) + 1)) r_4 (T_7) e_8
  obtain ⟨r_11, e_12, h⟩ := bd1_e h
  obtain ⟨r_14, e_15, h⟩ := bd1_e h
  obtain ⟨T_17, e_18, h⟩ := bd1_e h
  have mo_20 : (tR T_7) ≤ (tR T_17) := mo_Tr_addAt T_7 r_11 r_14 r_4 (T_17) e_18
  obtain rfl := Option.some.inj h
  exact (show (tR T) ≤ (tR T_17) from by omega)
theorem mo_Ch_giveTo_L40 (c_left : Int) (T : TV) (res : (Nat → Int) × Int × TV) (k : Int → (Nat → Int) → Option ((Nat → Int) × Int × TV)) (hkm : ∀ (x3 : Int) (c_pool : Nat → Int) , k x3 c_pool = some res → (tR T) ≤ (tR (res.2.2))) : ∀ (n : Nat) (x3 : Int) (c_pool : Nat → Int) , f_Ch_giveTo_L40 c_left k n x3 c_pool = some res → (tR T) ≤ (tR (res.2.2)) := by
  intro n
  induction n with
  | zero => intro x3 c_pool h; cases h
  | succ n ihm =>
    intro x3 c_pool h
    rw [f_Ch_giveTo_L40] at h
    obtain ⟨g_13, h⟩ := gd_e h
    obtain ⟨g_14, h⟩ := gd_e h
    rcases it_e h with ⟨_, h⟩ | ⟨_, h⟩
    · obtain ⟨r_16, e_17, h⟩ := bd1_e h
      obtain ⟨c_pool_19, e_20, h⟩ := bd1_e h
      have mo9 : (tR T) ≤ (tR (res.2.2)) := ihm ((x3 + 1)) (c_pool_19) h
      exact (show (tR T) ≤ (tR (res.2.2)) from by omega)
    · have mo9 : (tR T) ≤ (tR (res.2.2)) := hkm (x3) (c_pool) h
      exact (show (tR T) ≤ (tR (res.2.2)) from by omega)
theorem mo_Ch_giveTo (c_pool : Nat → Int) (c_left : Int) (T : TV) (x1 : Int) (x2 : Int) (res : (Nat → Int) × Int × TV) (h : f_Ch_giveTo c_pool c_left T x1 x2 = some res) : (tR T) ≤ (tR (res.2.2)) := by
  unfold f_Ch_giveTo at h
  obtain ⟨r_1, e_2, h⟩ := bd1_e h
  obtain ⟨r_4, e_5, h⟩ := bd1_e h
  obtain ⟨T_7, e_8, h⟩ := bd1_e h
  have mo_10 : (tR T) ≤ (tR T_7) := mo_Tr_addAt T x1 r_1 r_4 (T_7) e_8
  obtain ⟨g_11, h⟩ := gd_e h
  have mo9 : (tR T_7) ≤ (tR (res.2.2)) := mo_Ch_giveTo_L40 ((c_left - 1)) (T_7) _ _ (fun x3_22 c_pool_23 h => by
      obtain rfl := Option.some.inj h
      exact (show (tR T_7) ≤ (tR T_7) from by omega)) _ ((max x2 0)) (c_pool) h
  exact (show (tR T) ≤ (tR (res.2.2)) from by omega)
theorem mo_Ch_giveAllTo_L2 (c_pool : Nat → Int) (c_left : Int) (x1 : Int) (res : Int × TV) (k : Int → TV → Option (Int × TV)) (hkm : ∀ (x2 : Int) (T : TV) , k x2 T = some res → (tR T) ≤ (tR (res.2))) : ∀ (n : Nat) (x2 : Int) (T : TV) , f_Ch_giveAllTo_L2 c_pool c_left x1 k n x2 T = some res → (tR T) ≤ (tR (res.2)) := by
  intro n
  induction n with
  | zero => intro x2 T h; cases h
  | succ n ihm =>
    intro x2 T h
    rw [f_Ch_giveAllTo_L2] at h
    obtain ⟨g_1, h⟩ := gd_e h
    obtain ⟨g_2, h⟩ := gd_e h
    rcases it_e h with ⟨_, h⟩ | ⟨_, h⟩
    · obtain ⟨r_4, e_5, h⟩ := bd1_e h
      obtain ⟨r_7, e_8, h⟩ := bd1_e h
      obtain ⟨T_10, e_11, h⟩ := bd1_e h
      have mo_13 : (tR T) ≤ (tR T_10) := mo_Tr_addAt T x1 r_4 r_7 (T_10) e_11
      have mo9 : (tR T_10) ≤ (tR (res.2)) := ihm ((x2 + 1)) (T_10) h
      exact (show (tR T) ≤ (tR (res.2)) from by omega)
    · have mo9 : (tR T) ≤ (tR (res.2)) := hkm (x2) (T) h
      exact (show (tR T) ≤ (tR (res.2)) from by omega)
theorem mo_Ch_giveAllTo (c_pool : Nat → Int) (c_left : Int) (T : TV) (x1 : Int) (res : Int × TV) (h : f_Ch_giveAllTo c_pool c_left T x1 = some res) : (tR T) ≤ (tR (res.2)) := by
  unfold f_Ch_giveAllTo at h
  have mo9 : (tR T) ≤ (tR (res.2)) := mo_Ch_giveAllTo_L2 (c_pool) (c_left) (x1) _ _ (fun x2_14 T_15 h => by
      obtain rfl := Option.some.inj h
      exact (show (tR T_15) ≤ (tR T_15) from by omega)) _ (0) (T) h
  exact (show (tR T) ≤ (tR (res.2)) from by omega)
theorem mo_Ch_keepEntriesOf_L19 (x1 : Int) (x2 : Int) (res : (Nat → Int) × Int × TV) (k : Int → (Nat → Int) → Int → TV → Option ((Nat → Int) × Int × TV)) (hkm : ∀ (x3 : Int) (c_kept : Nat → Int) (c_keptCount : Int) (T : TV) , k x3 c_kept c_keptCount T = some res → (tR T) ≤ (tR (res.2.2))) : ∀ (n : Nat) (x3 : Int) (c_kept : Nat → Int) (c_keptCount : Int) (T : TV) , f_Ch_keepEntriesOf_L19 x1 x2 k n x3 c_kept c_keptCount T = some res → (tR T) ≤ (tR (res.2.2)) := by
  intro n
  induction n with
  | zero => intro x3 c_kept c_keptCount T h; cases h
  | succ n ihm =>
    intro x3 c_kept c_keptCount T h
    rw [f_Ch_keepEntriesOf_L19] at h
    obtain ⟨g_8, h⟩ := gd_e h
    obtain ⟨g_9, h⟩ := gd_e h
    rcases it_e h with ⟨_, h⟩ | ⟨_, h⟩
    · obtain ⟨r_11, e_12, h⟩ := bd1_e h
      obtain ⟨T_14, e_15, h⟩ := bd1_e h
      have mo_17 : (tR T) ≤ (tR T_14) := mo_Tr_setLoose T r_11 (T_14) e_15
      obtain ⟨c_kept_18, e_19, h⟩ := bd1_e h
      have mo9 : (tR T_14) ≤ (tR (res.2.2)) := ihm ((x3 + 1)) (c_kept_18) ((c_keptCount + 1)) (T_14) h
      exact (show (tR T) ≤ (tR (res.2.2)) from by omega)
    · have mo9 : (tR T) ≤ (tR (res.2.2)) := hkm (x3) (c_kept) (c_keptCount) (T) h
      exact (show (tR T) ≤ (tR (res.2.2)) from by omega)
theorem mo_Ch_keepEntriesOf (c_kept : Nat → Int) (c_keptCount : Int) (T : TV) (x1 : Int) (res : (Nat → Int) × Int × TV) (h : f_Ch_keepEntriesOf c_kept c_keptCount T x1 = some res) : (tR T) ≤ (tR (res.2.2)) := by
  unfold f_Ch_keepEntriesOf at h
  obtain ⟨T_1, e_2, h⟩ := bd1_e h
  have mo_4 : (tR T) ≤ (tR T_1) := mo_Tr_takeOut T x1 (T_1) e_2
  obtain ⟨r_5, e_6, h⟩ := bd1_e h
  have mo9 : (tR T_1) ≤ (tR (res.2.2)) := mo_Ch_keepEntriesOf_L19 (x1) (r_5) _ _ (fun x3_21 c_kept_22 c_keptCount_23 T_24 h => by
      obtain ⟨T_25, e_26, h⟩ := bd1_e h
      have mo_28 : (tR T_24) ≤ (tR T_25) := mo_Tr_release T_24 x1 (T_25) e_26
      obtain rfl := Option.some.inj h
      exact (show (tR T_24) ≤ (tR T_25) from by omega)) _ (0) (c_kept) (c_keptCount) (T_1) h
  exact (show (tR T) ≤ (tR (res.2.2)) from by omega)
theorem mo_Ch_takeOutBox_L32 (res : (Nat → Int) × Int × TV) (k : Int → Int → (Nat → Int) → Int → TV → Option ((Nat → Int) × Int × TV)) (hkm : ∀ (x2 : Int) (x3 : Int) (c_kept : Nat → Int) (c_keptCount : Int) (T : TV) , k x2 x3 c_kept c_keptCount T = some res → (tR T) ≤ (tR (res.2.2))) : ∀ (n : Nat) (x2 : Int) (x3 : Int) (c_kept : Nat → Int) (c_keptCount : Int) (T : TV) , f_Ch_takeOutBox_L32 k n x2 x3 c_kept c_keptCount T = some res → (tR T) ≤ (tR (res.2.2)) := by
  intro n
  induction n with
  | zero => intro x2 x3 c_kept c_keptCount T h; cases h
  | succ n ihm =>
    intro x2 x3 c_kept c_keptCount T h
    rw [f_Ch_takeOutBox_L32] at h
    obtain ⟨r_12, e_13, h⟩ := bd1_e h
    obtain ⟨g_15, h⟩ := gd_e h
    rcases it_e h with ⟨_, h⟩ | ⟨_, h⟩
    · have mo9 : (tR T) ≤ (tR (res.2.2)) := hkm (x2) (x3) (c_kept) (c_keptCount) (T) h
      exact (show (tR T) ≤ (tR (res.2.2)) from by omega)
    · obtain ⟨g_17, h⟩ := gd_e h
      obtain ⟨g_18, h⟩ := gd_e h
      rcases it_e h with ⟨_, h⟩ | ⟨_, h⟩
      · have mo9 : (tR T) ≤ (tR (res.2.2)) := hkm (x2) (x3) (c_kept) (c_keptCount) (T) h
        exact (show (tR T) ≤ (tR (res.2.2)) from by omega)
      · obtain ⟨g_20, h⟩ := gd_e h
        rcases it_e h with ⟨_, h⟩ | ⟨_, h⟩
        · obtain ⟨r_22, e_23, h⟩ := bd1_e h
          obtain ⟨r_25, e_26, h⟩ := bd1_e h
          obtain ⟨r_28, e_29, h⟩ := bd1_e h
          obtain ⟨g_31, h⟩ := gd_e h
          obtain ⟨g_32, h⟩ := gd_e h
          rcases it_e h with ⟨_, h⟩ | ⟨_, h⟩
          · obtain ⟨c_kept_34, c_keptCount_35, T_36, e_37, h⟩ := bd3_e h
            have mo_39 : (tR T) ≤ (tR T_36) := mo_Ch_keepEntriesOf c_kept c_keptCount T x2 (c_kept_34, c_keptCount_35, T_36) e_37
            have mo9 : (tR T_36) ≤ (tR (res.2.2)) := ihm (r_22) ((x3 + 1)) (c_kept_34) (c_keptCount_35) (T_36) h
            exact (show (tR T) ≤ (tR (res.2.2)) from by omega)
          · have mo9 : (tR T) ≤ (tR (res.2.2)) := ihm (r_22) ((x3 + 1)) (c_kept) (c_keptCount) (T) h
            exact (show (tR T) ≤ (tR (res.2.2)) from by omega)
        · have mo9 : (tR T) ≤ (tR (res.2.2)) := hkm (x2) (x3) (c_kept) (c_keptCount) (T) h
          exact (show (tR T) ≤ (tR (res.2.2)) from by omega)
theorem mo_Ch_takeOutBox (c_kept : Nat → Int) (T : TV) (x1 : Int) (res : (Nat → Int) × Int × TV) (h : f_Ch_takeOutBox c_kept T x1 = some res) : (tR T) ≤ (tR (res.2.2)) := by
  unfold f_Ch_takeOutBox at h
  obtain ⟨r_1, e_2, h⟩ := bd1_e h
  obtain ⟨T_4, e_5, h⟩ := bd1_e h
  have mo_7 : (tR T) ≤ (tR T_4) := mo_Tr_takeOut T x1 (T_4) e_5
  obtain ⟨T_8, e_9, h⟩ := bd1_e h
  have mo_11 : (tR T_4) ≤ (tR T_8) := mo_Tr_release T_4 x1 (T_8) e_9
  have mo9 : (tR T_8) ≤ (tR (res.2.2)) := mo_Ch_takeOutBox_L32  _ _ (fun x2_40 x3_41 c_kept_42 c_keptCount_43 T_44 h => by
      obtain ⟨T_45, e_46, h⟩ := bd1_e h
      have mo_48 : (tR T_44) ≤ (tR T_45) := mo_Tr_lowerRoot T_44 (T_45) e_46
      obtain rfl := Option.some.inj h
      exact (show (tR T_44) ≤ (tR T_45) from by omega)) _ (r_1) (0) (c_kept) (0) (T_8) h
  exact (show (tR T) ≤ (tR (res.2.2)) from by omega)
