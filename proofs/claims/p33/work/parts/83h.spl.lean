/-! the counts of splits and of reinsertions -/
theorem sr_Tr_take (T : TV) (x1 : Int) (x2 : Int) (res : TV) (h : f_Tr_take T x1 x2 = some res) : (tSpl T) = (tSpl (res)) ∧ (tRec T) = (tRec (res)) := by
  unfold f_Tr_take at h
  obtain ⟨T_1, e_2, h⟩ := bd1_e h
  obtain ⟨T_4, e_5, h⟩ := bd1_e h
  obtain ⟨T_7, e_8, h⟩ := bd1_e h
  obtain rfl := Option.some.inj h
  exact ⟨(show (tSpl T) = (tSpl T) from by omega), (show (tRec T) = (tRec T) from by omega)⟩
theorem sr_Tr_release (T : TV) (x1 : Int) (res : TV) (h : f_Tr_release T x1 = some res) : (tSpl T) = (tSpl (res)) ∧ (tRec T) = (tRec (res)) := by
  unfold f_Tr_release at h
  obtain ⟨T_1, e_2, h⟩ := bd1_e h
  have mo_4 : (tSpl T) = (tSpl T_1) ∧ (tRec T) = (tRec T_1) := sr_Tr_take T x1 (-2) (T_1) e_2
  obtain rfl := Option.some.inj h
  exact ⟨(show (tSpl T) = (tSpl T_1) from by omega), (show (tRec T) = (tRec T_1) from by omega)⟩
theorem sr_Tr_setLoose (T : TV) (x1 : Int) (res : TV) (h : f_Tr_setLoose T x1 = some res) : (tSpl T) = (tSpl (res)) ∧ (tRec T) = (tRec (res)) := by
  unfold f_Tr_setLoose at h
  obtain ⟨T_1, e_2, h⟩ := bd1_e h
  obtain rfl := Option.some.inj h
  exact ⟨(show (tSpl T) = (tSpl T) from by omega), (show (tRec T) = (tRec T) from by omega)⟩
theorem sr_Tr_makeListEmpty (T : TV) (x1 : Int) (res : TV) (h : f_Tr_makeListEmpty T x1 = some res) : (tSpl T) = (tSpl (res)) ∧ (tRec T) = (tRec (res)) := by
  unfold f_Tr_makeListEmpty at h
  obtain ⟨T_1, e_2, h⟩ := bd1_e h
  obtain rfl := Option.some.inj h
  exact ⟨(show (tSpl T) = (tSpl T) from by omega), (show (tRec T) = (tRec T) from by omega)⟩
theorem sr_Tr_setCorners (T : TV) (x1 : Int) (x2 : Int) (x3 : Int) (x4 : Int) (x5 : Int) (res : TV) (h : f_Tr_setCorners T x1 x2 x3 x4 x5 = some res) : (tSpl T) = (tSpl (res)) ∧ (tRec T) = (tRec (res)) := by
  unfold f_Tr_setCorners at h
  obtain ⟨g_1, h⟩ := gd_e h
  rcases it_e h with ⟨_, h⟩ | ⟨_, h⟩
  · obtain rfl := Option.some.inj h
    exact ⟨(show (tSpl T) = (tSpl T) from by omega), (show (tRec T) = (tRec T) from by omega)⟩
  · obtain ⟨g_3, h⟩ := gd_e h
    rcases it_e h with ⟨_, h⟩ | ⟨_, h⟩
    · obtain rfl := Option.some.inj h
      exact ⟨(show (tSpl T) = (tSpl T) from by omega), (show (tRec T) = (tRec T) from by omega)⟩
    · obtain ⟨g_5, h⟩ := gd_e h
      obtain ⟨g_6, h⟩ := gd_e h
      obtain ⟨g_7, h⟩ := gd_e h
      obtain ⟨g_8, h⟩ := gd_e h
      obtain ⟨g_9, h⟩ := gd_e h
      obtain ⟨g_10, h⟩ := gd_e h
      obtain ⟨g_11, h⟩ := gd_e h
      obtain rfl := Option.some.inj h
      exact ⟨(show (tSpl T) = (tSpl T) from by omega), (show (tRec T) = (tRec T) from by omega)⟩
theorem sr_Tr_newBox (T : TV) (x1 : Int) (x2 : Int) (x3 : Int) (x4 : Int) (res : Int × TV) (h : f_Tr_newBox T x1 x2 x3 x4 = some res) : (tSpl T) = (tSpl (res.2)) ∧ (tRec T) = (tRec (res.2)) := by
  unfold f_Tr_newBox at h
  obtain ⟨r_1, e_2, h⟩ := bd1_e h
  obtain ⟨g_4, h⟩ := gd_e h
  rcases it_e h with ⟨_, h⟩ | ⟨_, h⟩
  · obtain rfl := Option.some.inj h
    exact ⟨(show (tSpl T) = (tSpl T) from by omega), (show (tRec T) = (tRec T) from by omega)⟩
  · obtain ⟨T_6, e_7, h⟩ := bd1_e h
    have mo_9 : (tSpl T) = (tSpl T_6) ∧ (tRec T) = (tRec T_6) := sr_Tr_take T r_1 (-1) (T_6) e_7
    obtain ⟨T_10, e_11, h⟩ := bd1_e h
    have mo_13 : (tSpl T_6) = (tSpl T_10) ∧ (tRec T_6) = (tRec T_10) := sr_Tr_setCorners T_6 r_1 x1 x2 x3 x4 (T_10) e_11
    obtain rfl := Option.some.inj h
    exact ⟨(show (tSpl T) = (tSpl T_10) from by omega), (show (tRec T) = (tRec T_10) from by omega)⟩
theorem sr_Tr_releaseNodes_L3 (res : TV) (k : Int → TV → Option (TV)) (hkm : ∀ (x1 : Int) (T : TV) , k x1 T = some res → (tSpl T) = (tSpl (res)) ∧ (tRec T) = (tRec (res))) : ∀ (n : Nat) (x1 : Int) (T : TV) , f_Tr_releaseNodes_L3 k n x1 T = some res → (tSpl T) = (tSpl (res)) ∧ (tRec T) = (tRec (res)) := by
  intro n
  induction n with
  | zero => intro x1 T h; cases h
  | succ n ihm =>
    intro x1 T h
    rw [f_Tr_releaseNodes_L3] at h
    obtain ⟨g_1, h⟩ := gd_e h
    rcases it_e h with ⟨_, h⟩ | ⟨_, h⟩
    · obtain ⟨T_3, e_4, h⟩ := bd1_e h
      have mo_6 : (tSpl T) = (tSpl T_3) ∧ (tRec T) = (tRec T_3) := sr_Tr_release T x1 (T_3) e_4
      have mo9 : (tSpl T_3) = (tSpl (res)) ∧ (tRec T_3) = (tRec (res)) := ihm ((x1 + 1)) (T_3) h
      exact ⟨(show (tSpl T) = (tSpl (res)) from by omega), (show (tRec T) = (tRec (res)) from by omega)⟩
    · have mo9 : (tSpl T) = (tSpl (res)) ∧ (tRec T) = (tRec (res)) := hkm (x1) (T) h
      exact ⟨(show (tSpl T) = (tSpl (res)) from by omega), (show (tRec T) = (tRec (res)) from by omega)⟩
theorem sr_Tr_releaseNodes (T : TV) (res : TV) (h : f_Tr_releaseNodes T = some res) : (tSpl T) = (tSpl (res)) ∧ (tRec T) = (tRec (res)) := by
  unfold f_Tr_releaseNodes at h
  have mo9 : (tSpl T) = (tSpl (res)) ∧ (tRec T) = (tRec (res)) := sr_Tr_releaseNodes_L3  _ _ (fun x1_7 T_8 h => by
      obtain rfl := Option.some.inj h
      exact ⟨(show (tSpl T_8) = (tSpl T_8) from by omega), (show (tRec T_8) = (tRec T_8) from by omega)⟩) _ (24) (T) h
  exact ⟨(show (tSpl T) = (tSpl (res)) from by omega), (show (tRec T) = (tRec (res)) from by omega)⟩
theorem sr_Tr_refreshUp_L42 (T : TV) (x2 : Int) (x8 : Int) (res : TV) (k : Int → Int → Int → Int → Int → Option (TV)) (hkm : ∀ (x4 : Int) (x5 : Int) (x6 : Int) (x7 : Int) (x9 : Int) , k x4 x5 x6 x7 x9 = some res → (tSpl T) = (tSpl (res)) ∧ (tRec T) = (tRec (res))) : ∀ (n : Nat) (x4 : Int) (x5 : Int) (x6 : Int) (x7 : Int) (x9 : Int) , f_Tr_refreshUp_L42 T x2 x8 k n x4 x5 x6 x7 x9 = some res → (tSpl T) = (tSpl (res)) ∧ (tRec T) = (tRec (res)) := by
  intro n
  induction n with
  | zero => intro x4 x5 x6 x7 x9 h; cases h
  | succ n ihm =>
    intro x4 x5 x6 x7 x9 h
    rw [f_Tr_refreshUp_L42] at h
    obtain ⟨g_11, h⟩ := gd_e h
    obtain ⟨g_12, h⟩ := gd_e h
    rcases it_e h with ⟨_, h⟩ | ⟨_, h⟩
    · obtain ⟨r_14, e_15, h⟩ := bd1_e h
      obtain ⟨r_17, e_18, h⟩ := bd1_e h
      obtain ⟨g_20, h⟩ := gd_e h
      obtain ⟨g_21, h⟩ := gd_e h
      obtain ⟨r_23, e_24, h⟩ := bd1_e h
      obtain ⟨g_26, h⟩ := gd_e h
      obtain ⟨g_27, h⟩ := gd_e h
      obtain ⟨r_29, e_30, h⟩ := bd1_e h
      obtain ⟨g_32, h⟩ := gd_e h
      obtain ⟨g_33, h⟩ := gd_e h
      obtain ⟨r_35, e_36, h⟩ := bd1_e h
      obtain ⟨g_38, h⟩ := gd_e h
      obtain ⟨g_39, h⟩ := gd_e h
      have mo9 : (tSpl T) = (tSpl (res)) ∧ (tRec T) = (tRec (res)) := ihm ((min x4 r_17)) ((min x5 r_23)) ((max x6 r_29)) ((max x7 r_35)) ((x9 + 1)) h
      exact ⟨(show (tSpl T) = (tSpl (res)) from by omega), (show (tRec T) = (tRec (res)) from by omega)⟩
    · have mo9 : (tSpl T) = (tSpl (res)) ∧ (tRec T) = (tRec (res)) := hkm (x4) (x5) (x6) (x7) (x9) h
      exact ⟨(show (tSpl T) = (tSpl (res)) from by omega), (show (tRec T) = (tRec (res)) from by omega)⟩
theorem sr_Tr_refreshUp_L4 (res : TV) (k : Int → Int → TV → Option (TV)) (hkm : ∀ (x2 : Int) (x3 : Int) (T : TV) , k x2 x3 T = some res → (tSpl T) = (tSpl (res)) ∧ (tRec T) = (tRec (res))) : ∀ (n : Nat) (x2 : Int) (x3 : Int) (T : TV) , f_Tr_refreshUp_L4 k n x2 x3 T = some res → (tSpl T) = (tSpl (res)) ∧ (tRec T) = (tRec (res)) := by
  intro n
  induction n with
  | zero => intro x2 x3 T h; cases h
  | succ n ihm =>
    intro x2 x3 T h
    rw [f_Tr_refreshUp_L4] at h
    obtain ⟨r_1, e_2, h⟩ := bd1_e h
    obtain ⟨g_4, h⟩ := gd_e h
    rcases it_e h with ⟨_, h⟩ | ⟨_, h⟩
    · have mo9 : (tSpl T) = (tSpl (res)) ∧ (tRec T) = (tRec (res)) := hkm (x2) (x3) (T) h
      exact ⟨(show (tSpl T) = (tSpl (res)) from by omega), (show (tRec T) = (tRec (res)) from by omega)⟩
    · obtain ⟨g_6, h⟩ := gd_e h
      rcases it_e h with ⟨_, h⟩ | ⟨_, h⟩
      · obtain ⟨r_8, e_9, h⟩ := bd1_e h
        have mo9 : (tSpl T) = (tSpl (res)) ∧ (tRec T) = (tRec (res)) := sr_Tr_refreshUp_L42 (T) (x2) (r_8) _ _ (fun x4_41 x5_42 x6_43 x7_44 x9_45 h => by
            obtain ⟨T_46, e_47, h⟩ := bd1_e h
            have mo_49 : (tSpl T) = (tSpl T_46) ∧ (tRec T) = (tRec T_46) := sr_Tr_setCorners T x2 x4_41 x5_42 x6_43 x7_44 (T_46) e_47
            obtain ⟨r_50, e_51, h⟩ := bd1_e h
            have mo9 : (tSpl T_46) = (tSpl (res)) ∧ (tRec T_46) = (tRec (res)) := ihm (r_50) ((x3 + 1)) (T_46) h
            exact ⟨(show (tSpl T) = (tSpl (res)) from by omega), (show (tRec T) = (tRec (res)) from by omega)⟩) _ (99) (99) (0) (0) (0) h
        exact ⟨(show (tSpl T) = (tSpl (res)) from by omega), (show (tRec T) = (tRec (res)) from by omega)⟩
      · have mo9 : (tSpl T) = (tSpl (res)) ∧ (tRec T) = (tRec (res)) := hkm (x2) (x3) (T) h
        exact ⟨(show (tSpl T) = (tSpl (res)) from by omega), (show (tRec T) = (tRec (res)) from by omega)⟩
theorem sr_Tr_refreshUp (T : TV) (x1 : Int) (res : TV) (h : f_Tr_refreshUp T x1 = some res) : (tSpl T) = (tSpl (res)) ∧ (tRec T) = (tRec (res)) := by
  unfold f_Tr_refreshUp at h
  have mo9 : (tSpl T) = (tSpl (res)) ∧ (tRec T) = (tRec (res)) := sr_Tr_refreshUp_L4  _ _ (fun x2_53 x3_54 T_55 h => by
      obtain rfl := Option.some.inj h
      exact ⟨(show (tSpl T_55) = (tSpl T_55) from by omega), (show (tRec T_55) = (tRec T_55) from by omega)⟩) _ (x1) (0) (T) h
  exact ⟨(show (tSpl T) = (tSpl (res)) from by omega), (show (tRec T) = (tRec (res)) from by omega)⟩
theorem sr_Tr_addAt_L35 (x2 : Int) (x5 : Int) (res : TV) (k : Int → TV → Option (TV)) (hkm : ∀ (x6 : Int) (T : TV) , k x6 T = some res → (tSpl T) = (tSpl (res)) ∧ (tRec T) = (tRec (res))) : ∀ (n : Nat) (x6 : Int) (T : TV) , f_Tr_addAt_L35 x2 x5 k n x6 T = some res → (tSpl T) = (tSpl (res)) ∧ (tRec T) = (tRec (res)) := by
  intro n
  induction n with
  | zero => intro x6 T h; cases h
  | succ n ihm =>
    intro x6 T h
    rw [f_Tr_addAt_L35] at h
    obtain ⟨g_9, h⟩ := gd_e h
    obtain ⟨g_10, h⟩ := gd_e h
    rcases it_e h with ⟨_, h⟩ | ⟨_, h⟩
    · obtain ⟨r_12, e_13, h⟩ := bd1_e h
      obtain ⟨T_15, e_16, h⟩ := bd1_e h
      have mo9 : (tSpl T) = (tSpl (res)) ∧ (tRec T) = (tRec (res)) := ihm ((x6 + (-1))) ((sLis T T_15)) h
      exact ⟨(show (tSpl T) = (tSpl (res)) from by omega), (show (tRec T) = (tRec (res)) from by omega)⟩
    · have mo9 : (tSpl T) = (tSpl (res)) ∧ (tRec T) = (tRec (res)) := hkm (x6) (T) h
      exact ⟨(show (tSpl T) = (tSpl (res)) from by omega), (show (tRec T) = (tRec (res)) from by omega)⟩
theorem sr_Tr_addAt (T : TV) (x1 : Int) (x2 : Int) (x3 : Int) (res : TV) (h : f_Tr_addAt T x1 x2 x3 = some res) : (tSpl T) = (tSpl (res)) ∧ (tRec T) = (tRec (res)) := by
  unfold f_Tr_addAt at h
  obtain ⟨r_1, e_2, h⟩ := bd1_e h
  obtain ⟨g_4, h⟩ := gd_e h
  rcases it_e h with ⟨_, h⟩ | ⟨_, h⟩
  · obtain ⟨g_6, h⟩ := gd_e h
    rcases it_e h with ⟨_, h⟩ | ⟨_, h⟩
    · obtain rfl := Option.some.inj h
      exact ⟨(show (tSpl T) = (tSpl T) from by omega), (show (tRec T) = (tRec T) from by omega)⟩
    · rcases it_e h with ⟨_, h⟩ | ⟨_, h⟩
      · obtain rfl := Option.some.inj h
        exact ⟨(show (tSpl T) = (tSpl T) from by omega), (show (tRec T) = (tRec T) from by omega)⟩
      · have mo9 : (tSpl T) = (tSpl (res)) ∧ (tRec T) = (tRec (res)) := sr_Tr_addAt_L35 (x2) ((x1 * 6)) _ _ (fun x6_18 T_19 h => by
            obtain ⟨T_20, e_21, h⟩ := bd1_e h
            obtain ⟨T_23, e_24, h⟩ := bd1_e h
            obtain ⟨T_26, e_27, h⟩ := bd1_e h
            obtain ⟨T_29, e_30, h⟩ := bd1_e h
            have mo_32 : (tSpl T_19) = (tSpl T_29) ∧ (tRec T_19) = (tRec T_29) := sr_Tr_refreshUp (sLis (sSiz (sHol T_19 T_26) T_23) T_20) x1 (T_29) e_30
            obtain rfl := Option.some.inj h
            exact ⟨(show (tSpl T_19) = (tSpl T_29) from by omega), (show (tRec T_19) = (tRec T_29) from by omega)⟩) _ (r_1) (T) h
        exact ⟨(show (tSpl T) = (tSpl (res)) from by omega), (show (tRec T) = (tRec (res)) from by omega)⟩
  · obtain rfl := Option.some.inj h
    exact ⟨(show (tSpl T) = (tSpl T) from by omega), (show (tRec T) = (tRec T) from by omega)⟩
theorem sr_Tr_addBehind (T : TV) (x1 : Int) (x2 : Int) (x3 : Int) (res : TV) (h : f_Tr_addBehind T x1 x2 x3 = some res) : (tSpl T) = (tSpl (res)) ∧ (tRec T) = (tRec (res)) := by
  unfold f_Tr_addBehind at h
  obtain ⟨r_1, e_2, h⟩ := bd1_e h
  obtain ⟨T_4, e_5, h⟩ := bd1_e h
  have mo_7 : (tSpl T) = (tSpl T_4) ∧ (tRec T) = (tRec T_4) := sr_Tr_addAt T x1 (r_1 + 1) x3 (T_4) e_5
  obtain rfl := Option.some.inj h
  exact ⟨(show (tSpl T) = (tSpl T_4) from by omega), (show (tRec T) = (tRec T_4) from by omega)⟩
theorem sr_Tr_takeOut_L37 (x4 : Int) (x5 : Int) (res : TV) (k : Int → TV → Option (TV)) (hkm : ∀ (x6 : Int) (T : TV) , k x6 T = some res → (tSpl T) = (tSpl (res)) ∧ (tRec T) = (tRec (res))) : ∀ (n : Nat) (x6 : Int) (T : TV) , f_Tr_takeOut_L37 x4 x5 k n x6 T = some res → (tSpl T) = (tSpl (res)) ∧ (tRec T) = (tRec (res)) := by
  intro n
  induction n with
  | zero => intro x6 T h; cases h
  | succ n ihm =>
    intro x6 T h
    rw [f_Tr_takeOut_L37] at h
    obtain ⟨g_12, h⟩ := gd_e h
    obtain ⟨g_13, h⟩ := gd_e h
    rcases it_e h with ⟨_, h⟩ | ⟨_, h⟩
    · obtain ⟨r_15, e_16, h⟩ := bd1_e h
      obtain ⟨T_18, e_19, h⟩ := bd1_e h
      have mo9 : (tSpl T) = (tSpl (res)) ∧ (tRec T) = (tRec (res)) := ihm ((x6 + 1)) ((sLis T T_18)) h
      exact ⟨(show (tSpl T) = (tSpl (res)) from by omega), (show (tRec T) = (tRec (res)) from by omega)⟩
    · have mo9 : (tSpl T) = (tSpl (res)) ∧ (tRec T) = (tRec (res)) := hkm (x6) (T) h
      exact ⟨(show (tSpl T) = (tSpl (res)) from by omega), (show (tRec T) = (tRec (res)) from by omega)⟩
theorem sr_Tr_takeOut (T : TV) (x1 : Int) (res : TV) (h : f_Tr_takeOut T x1 = some res) : (tSpl T) = (tSpl (res)) ∧ (tRec T) = (tRec (res)) := by
  unfold f_Tr_takeOut at h
  obtain ⟨r_1, e_2, h⟩ := bd1_e h
  obtain ⟨r_4, e_5, h⟩ := bd1_e h
  obtain ⟨g_7, h⟩ := gd_e h
  rcases it_e h with ⟨_, h⟩ | ⟨_, h⟩
  · obtain rfl := Option.some.inj h
    exact ⟨(show (tSpl T) = (tSpl T) from by omega), (show (tRec T) = (tRec T) from by omega)⟩
  · obtain ⟨r_9, e_10, h⟩ := bd1_e h
    have mo9 : (tSpl T) = (tSpl (res)) ∧ (tRec T) = (tRec (res)) := sr_Tr_takeOut_L37 ((r_1 * 6)) ((r_9 - 1)) _ _ (fun x6_21 T_22 h => by
        obtain ⟨T_23, e_24, h⟩ := bd1_e h
        obtain ⟨T_26, e_27, h⟩ := bd1_e h
        obtain ⟨T_29, e_30, h⟩ := bd1_e h
        have mo_32 : (tSpl T_22) = (tSpl T_29) ∧ (tRec T_22) = (tRec T_29) := sr_Tr_refreshUp (sSiz (sHol T_22 T_26) T_23) r_1 (T_29) e_30
        obtain rfl := Option.some.inj h
        exact ⟨(show (tSpl T_22) = (tSpl T_29) from by omega), (show (tRec T_22) = (tRec T_29) from by omega)⟩) _ (r_4) (T) h
    exact ⟨(show (tSpl T) = (tSpl (res)) from by omega), (show (tRec T) = (tRec (res)) from by omega)⟩
theorem sr_Tr_lowerRoot_L2 (res : TV) (k : Int → TV → Option (TV)) (hkm : ∀ (x1 : Int) (T : TV) , k x1 T = some res → (tSpl T) = (tSpl (res)) ∧ (tRec T) = (tRec (res))) : ∀ (n : Nat) (x1 : Int) (T : TV) , f_Tr_lowerRoot_L2 k n x1 T = some res → (tSpl T) = (tSpl (res)) ∧ (tRec T) = (tRec (res)) := by
  intro n
  induction n with
  | zero => intro x1 T h; cases h
  | succ n ihm =>
    intro x1 T h
    rw [f_Tr_lowerRoot_L2] at h
    obtain ⟨r_1, e_2, h⟩ := bd1_e h
    obtain ⟨g_4, h⟩ := gd_e h
    rcases it_e h with ⟨_, h⟩ | ⟨_, h⟩
    · obtain ⟨r_6, e_7, h⟩ := bd1_e h
      obtain ⟨g_9, h⟩ := gd_e h
      rcases it_e h with ⟨_, h⟩ | ⟨_, h⟩
      · obtain ⟨g_11, h⟩ := gd_e h
        rcases it_e h with ⟨_, h⟩ | ⟨_, h⟩
        · obtain ⟨r_13, e_14, h⟩ := bd1_e h
          obtain ⟨T_16, e_17, h⟩ := bd1_e h
          have mo_19 : (tSpl T) = (tSpl T_16) ∧ (tRec T) = (tRec T_16) := sr_Tr_release T (tRoot T) (T_16) e_17
          obtain ⟨T_20, e_21, h⟩ := bd1_e h
          have mo_23 : (tSpl T_16) = (tSpl T_20) ∧ (tRec T_16) = (tRec T_20) := sr_Tr_setLoose T_16 r_13 (T_20) e_21
          have mo9 : (tSpl T_20) = (tSpl (res)) ∧ (tRec T_20) = (tRec (res)) := ihm ((x1 + 1)) ((sRoot T_20 r_13)) h
          exact ⟨(show (tSpl T) = (tSpl (res)) from by omega), (show (tRec T) = (tRec (res)) from by omega)⟩
        · have mo9 : (tSpl T) = (tSpl (res)) ∧ (tRec T) = (tRec (res)) := hkm (x1) (T) h
          exact ⟨(show (tSpl T) = (tSpl (res)) from by omega), (show (tRec T) = (tRec (res)) from by omega)⟩
      · have mo9 : (tSpl T) = (tSpl (res)) ∧ (tRec T) = (tRec (res)) := hkm (x1) (T) h
        exact ⟨(show (tSpl T) = (tSpl (res)) from by omega), (show (tRec T) = (tRec (res)) from by omega)⟩
    · have mo9 : (tSpl T) = (tSpl (res)) ∧ (tRec T) = (tRec (res)) := hkm (x1) (T) h
      exact ⟨(show (tSpl T) = (tSpl (res)) from by omega), (show (tRec T) = (tRec (res)) from by omega)⟩
theorem sr_Tr_lowerRoot (T : TV) (res : TV) (h : f_Tr_lowerRoot T = some res) : (tSpl T) = (tSpl (res)) ∧ (tRec T) = (tRec (res)) := by
  unfold f_Tr_lowerRoot at h
  have mo9 : (tSpl T) = (tSpl (res)) ∧ (tRec T) = (tRec (res)) := sr_Tr_lowerRoot_L2  _ _ (fun x1_24 T_25 h => by
      obtain ⟨r_26, e_27, h⟩ := bd1_e h
      obtain ⟨g_29, h⟩ := gd_e h
      rcases it_e h with ⟨_, h⟩ | ⟨_, h⟩
      · obtain ⟨r_31, e_32, h⟩ := bd1_e h
        obtain ⟨g_34, h⟩ := gd_e h
        rcases it_e h with ⟨_, h⟩ | ⟨_, h⟩
        · obtain ⟨T_36, e_37, h⟩ := bd1_e h
          obtain rfl := Option.some.inj h
          exact ⟨(show (tSpl T_25) = (tSpl T_25) from by omega), (show (tRec T_25) = (tRec T_25) from by omega)⟩
        · obtain rfl := Option.some.inj h
          exact ⟨(show (tSpl T_25) = (tSpl T_25) from by omega), (show (tRec T_25) = (tRec T_25) from by omega)⟩
      · obtain rfl := Option.some.inj h
        exact ⟨(show (tSpl T_25) = (tSpl T_25) from by omega), (show (tRec T_25) = (tRec T_25) from by omega)⟩) _ (0) (T) h
  exact ⟨(show (tSpl T) = (tSpl (res)) from by omega), (show (tRec T) = (tRec (res)) from by omega)⟩
theorem sr_Ch_reinsertFarthest (c_treated : Int64) (T : TV) (x1 : Int) (res : Int × Int64 × TV) (h : f_Ch_reinsertFarthest c_treated T x1 = some res) : (tSpl T) ≤ (tSpl (res.2.2)) ∧ (tSpl (res.2.2)) ≤ (tSpl T) + 0 ∧ (tRec T) ≤ (tRec (res.2.2)) ∧ (tRec (res.2.2)) ≤ (tRec T) + 1 := by
  unfold f_Ch_reinsertFarthest at h
  obtain ⟨r_1, e_2, h⟩ := bd1_e h
  obtain ⟨r_4, e_5, h⟩ := bd1_e h
  obtain ⟨T_7, e_8, h⟩ := bd1_e h
  have mo_10 : (tSpl T) = (tSpl T_7) ∧ ((tRec T) + 1) = (tRec T_7) := sr_Tr_takeOut (sRec T ((tRec T) + 1)) r_4 (T_7) e_8
  obtain ⟨r_11, e_12, h⟩ := bd1_e h
  obtain ⟨r_14, e_15, h⟩ := bd1_e h
  obtain ⟨T_17, e_18, h⟩ := bd1_e h
  have mo_20 : (tSpl T_7) = (tSpl T_17) ∧ (tRec T_7) = (tRec T_17) := sr_Tr_addAt T_7 r_11 r_14 r_4 (T_17) e_18
  obtain rfl := Option.some.inj h
  exact ⟨(show (tSpl T) ≤ (tSpl T_17) from by omega), (show (tSpl T_17) ≤ (tSpl T) + 0 from by omega), (show (tRec T) ≤ (tRec T_17) from by omega), (show (tRec T_17) ≤ (tRec T) + 1 from by omega)⟩
theorem sr_Ch_giveTo_L40 (c_left : Int) (T : TV) (res : (Nat → Int) × Int × TV) (k : Int → (Nat → Int) → Option ((Nat → Int) × Int × TV)) (hkm : ∀ (x3 : Int) (c_pool : Nat → Int) , k x3 c_pool = some res → (tSpl T) = (tSpl (res.2.2)) ∧ (tRec T) = (tRec (res.2.2))) : ∀ (n : Nat) (x3 : Int) (c_pool : Nat → Int) , f_Ch_giveTo_L40 c_left k n x3 c_pool = some res → (tSpl T) = (tSpl (res.2.2)) ∧ (tRec T) = (tRec (res.2.2)) := by
  intro n
  induction n with
  | zero => intro x3 c_pool h; cases h
  | succ n ihm =>
    intro x3 c_pool h
    rw [f_Ch_giveTo_L40] at h
    obtain ⟨g_13, h⟩ := gd_e h
    obtain ⟨g_14, h⟩ := gd_e h
    rcases it_e h with ⟨_, h⟩ | ⟨_, h⟩
    · obtain ⟨r_16, e_17, h⟩ := bd1_e h
      obtain ⟨c_pool_19, e_20, h⟩ := bd1_e h
      have mo9 : (tSpl T) = (tSpl (res.2.2)) ∧ (tRec T) = (tRec (res.2.2)) := ihm ((x3 + 1)) (c_pool_19) h
      exact ⟨(show (tSpl T) = (tSpl (res.2.2)) from by omega), (show (tRec T) = (tRec (res.2.2)) from by omega)⟩
    · have mo9 : (tSpl T) = (tSpl (res.2.2)) ∧ (tRec T) = (tRec (res.2.2)) := hkm (x3) (c_pool) h
      exact ⟨(show (tSpl T) = (tSpl (res.2.2)) from by omega), (show (tRec T) = (tRec (res.2.2)) from by omega)⟩
theorem sr_Ch_giveTo (c_pool : Nat → Int) (c_left : Int) (T : TV) (x1 : Int) (x2 : Int) (res : (Nat → Int) × Int × TV) (h : f_Ch_giveTo c_pool c_left T x1 x2 = some res) : (tSpl T) = (tSpl (res.2.2)) ∧ (tRec T) = (tRec (res.2.2)) := by
  unfold f_Ch_giveTo at h
  obtain ⟨r_1, e_2, h⟩ := bd1_e h
  obtain ⟨r_4, e_5, h⟩ := bd1_e h
  obtain ⟨T_7, e_8, h⟩ := bd1_e h
  have mo_10 : (tSpl T) = (tSpl T_7) ∧ (tRec T) = (tRec T_7) := sr_Tr_addAt T x1 r_1 r_4 (T_7) e_8
  obtain ⟨g_11, h⟩ := gd_e h
  have mo9 : (tSpl T_7) = (tSpl (res.2.2)) ∧ (tRec T_7) = (tRec (res.2.2)) := sr_Ch_giveTo_L40 ((c_left - 1)) (T_7) _ _ (fun x3_22 c_pool_23 h => by
      obtain rfl := Option.some.inj h
      exact ⟨(show (tSpl T_7) = (tSpl T_7) from by omega), (show (tRec T_7) = (tRec T_7) from by omega)⟩) _ ((max x2 0)) (c_pool) h
  exact ⟨(show (tSpl T) = (tSpl (res.2.2)) from by omega), (show (tRec T) = (tRec (res.2.2)) from by omega)⟩
theorem sr_Ch_giveAllTo_L2 (c_pool : Nat → Int) (c_left : Int) (x1 : Int) (res : Int × TV) (k : Int → TV → Option (Int × TV)) (hkm : ∀ (x2 : Int) (T : TV) , k x2 T = some res → (tSpl T) = (tSpl (res.2)) ∧ (tRec T) = (tRec (res.2))) : ∀ (n : Nat) (x2 : Int) (T : TV) , f_Ch_giveAllTo_L2 c_pool c_left x1 k n x2 T = some res → (tSpl T) = (tSpl (res.2)) ∧ (tRec T) = (tRec (res.2)) := by
  intro n
  induction n with
  | zero => intro x2 T h; cases h
  | succ n ihm =>
    intro x2 T h
    rw [f_Ch_giveAllTo_L2] at h
    obtain ⟨g_1, h⟩ := gd_e h
    obtain ⟨g_2, h⟩ := gd_e h
    rcases it_e h with ⟨_, h⟩ | ⟨_, h⟩
    · obtain ⟨r_4, e_5, h⟩ := bd1_e h
      obtain ⟨r_7, e_8, h⟩ := bd1_e h
      obtain ⟨T_10, e_11, h⟩ := bd1_e h
      have mo_13 : (tSpl T) = (tSpl T_10) ∧ (tRec T) = (tRec T_10) := sr_Tr_addAt T x1 r_4 r_7 (T_10) e_11
      have mo9 : (tSpl T_10) = (tSpl (res.2)) ∧ (tRec T_10) = (tRec (res.2)) := ihm ((x2 + 1)) (T_10) h
      exact ⟨(show (tSpl T) = (tSpl (res.2)) from by omega), (show (tRec T) = (tRec (res.2)) from by omega)⟩
    · have mo9 : (tSpl T) = (tSpl (res.2)) ∧ (tRec T) = (tRec (res.2)) := hkm (x2) (T) h
      exact ⟨(show (tSpl T) = (tSpl (res.2)) from by omega), (show (tRec T) = (tRec (res.2)) from by omega)⟩
theorem sr_Ch_giveAllTo (c_pool : Nat → Int) (c_left : Int) (T : TV) (x1 : Int) (res : Int × TV) (h : f_Ch_giveAllTo c_pool c_left T x1 = some res) : (tSpl T) = (tSpl (res.2)) ∧ (tRec T) = (tRec (res.2)) := by
  unfold f_Ch_giveAllTo at h
  have mo9 : (tSpl T) = (tSpl (res.2)) ∧ (tRec T) = (tRec (res.2)) := sr_Ch_giveAllTo_L2 (c_pool) (c_left) (x1) _ _ (fun x2_14 T_15 h => by
      obtain rfl := Option.some.inj h
      exact ⟨(show (tSpl T_15) = (tSpl T_15) from by omega), (show (tRec T_15) = (tRec T_15) from by omega)⟩) _ (0) (T) h
  exact ⟨(show (tSpl T) = (tSpl (res.2)) from by omega), (show (tRec T) = (tRec (res.2)) from by omega)⟩
theorem sr_Ch_keepEntriesOf_L19 (x1 : Int) (x2 : Int) (res : (Nat → Int) × Int × TV) (k : Int → (Nat → Int) → Int → TV → Option ((Nat → Int) × Int × TV)) (hkm : ∀ (x3 : Int) (c_kept : Nat → Int) (c_keptCount : Int) (T : TV) , k x3 c_kept c_keptCount T = some res → (tSpl T) = (tSpl (res.2.2)) ∧ (tRec T) = (tRec (res.2.2))) : ∀ (n : Nat) (x3 : Int) (c_kept : Nat → Int) (c_keptCount : Int) (T : TV) , f_Ch_keepEntriesOf_L19 x1 x2 k n x3 c_kept c_keptCount T = some res → (tSpl T) = (tSpl (res.2.2)) ∧ (tRec T) = (tRec (res.2.2)) := by
  intro n
  induction n with
  | zero => intro x3 c_kept c_keptCount T h; cases h
  | succ n ihm =>
    intro x3 c_kept c_keptCount T h
    rw [f_Ch_keepEntriesOf_L19] at h
    obtain ⟨g_8, h⟩ := gd_e h
    obtain ⟨g_9, h⟩ := gd_e h
    rcases it_e h with ⟨_, h⟩ | ⟨_, h⟩
    · obtain ⟨r_11, e_12, h⟩ := bd1_e h
      obtain ⟨T_14, e_15, h⟩ := bd1_e h
      have mo_17 : (tSpl T) = (tSpl T_14) ∧ (tRec T) = (tRec T_14) := sr_Tr_setLoose T r_11 (T_14) e_15
      obtain ⟨c_kept_18, e_19, h⟩ := bd1_e h
      have mo9 : (tSpl T_14) = (tSpl (res.2.2)) ∧ (tRec T_14) = (tRec (res.2.2)) := ihm ((x3 + 1)) (c_kept_18) ((c_keptCount + 1)) (T_14) h
      exact ⟨(show (tSpl T) = (tSpl (res.2.2)) from by omega), (show (tRec T) = (tRec (res.2.2)) from by omega)⟩
    · have mo9 : (tSpl T) = (tSpl (res.2.2)) ∧ (tRec T) = (tRec (res.2.2)) := hkm (x3) (c_kept) (c_keptCount) (T) h
      exact ⟨(show (tSpl T) = (tSpl (res.2.2)) from by omega), (show (tRec T) = (tRec (res.2.2)) from by omega)⟩
theorem sr_Ch_keepEntriesOf (c_kept : Nat → Int) (c_keptCount : Int) (T : TV) (x1 : Int) (res : (Nat → Int) × Int × TV) (h : f_Ch_keepEntriesOf c_kept c_keptCount T x1 = some res) : (tSpl T) = (tSpl (res.2.2)) ∧ (tRec T) = (tRec (res.2.2)) := by
  unfold f_Ch_keepEntriesOf at h
  obtain ⟨T_1, e_2, h⟩ := bd1_e h
  have mo_4 : (tSpl T) = (tSpl T_1) ∧ (tRec T) = (tRec T_1) := sr_Tr_takeOut T x1 (T_1) e_2
  obtain ⟨r_5, e_6, h⟩ := bd1_e h
  have mo9 : (tSpl T_1) = (tSpl (res.2.2)) ∧ (tRec T_1) = (tRec (res.2.2)) := sr_Ch_keepEntriesOf_L19 (x1) (r_5) _ _ (fun x3_21 c_kept_22 c_keptCount_23 T_24 h => by
      obtain ⟨T_25, e_26, h⟩ := bd1_e h
      have mo_28 : (tSpl T_24) = (tSpl T_25) ∧ (tRec T_24) = (tRec T_25) := sr_Tr_release T_24 x1 (T_25) e_26
      obtain rfl := Option.some.inj h
      exact ⟨(show (tSpl T_24) = (tSpl T_25) from by omega), (show (tRec T_24) = (tRec T_25) from by omega)⟩) _ (0) (c_kept) (c_keptCount) (T_1) h
  exact ⟨(show (tSpl T) = (tSpl (res.2.2)) from by omega), (show (tRec T) = (tRec (res.2.2)) from by omega)⟩
theorem sr_Ch_takeOutBox_L32 (res : (Nat → Int) × Int × TV) (k : Int → Int → (Nat → Int) → Int → TV → Option ((Nat → Int) × Int × TV)) (hkm : ∀ (x2 : Int) (x3 : Int) (c_kept : Nat → Int) (c_keptCount : Int) (T : TV) , k x2 x3 c_kept c_keptCount T = some res → (tSpl T) = (tSpl (res.2.2)) ∧ (tRec T) = (tRec (res.2.2))) : ∀ (n : Nat) (x2 : Int) (x3 : Int) (c_kept : Nat → Int) (c_keptCount : Int) (T : TV) , f_Ch_takeOutBox_L32 k n x2 x3 c_kept c_keptCount T = some res → (tSpl T) = (tSpl (res.2.2)) ∧ (tRec T) = (tRec (res.2.2)) := by
  intro n
  induction n with
  | zero => intro x2 x3 c_kept c_keptCount T h; cases h
  | succ n ihm =>
    intro x2 x3 c_kept c_keptCount T h
    rw [f_Ch_takeOutBox_L32] at h
    obtain ⟨r_12, e_13, h⟩ := bd1_e h
    obtain ⟨g_15, h⟩ := gd_e h
    rcases it_e h with ⟨_, h⟩ | ⟨_, h⟩
    · have mo9 : (tSpl T) = (tSpl (res.2.2)) ∧ (tRec T) = (tRec (res.2.2)) := hkm (x2) (x3) (c_kept) (c_keptCount) (T) h
      exact ⟨(show (tSpl T) = (tSpl (res.2.2)) from by omega), (show (tRec T) = (tRec (res.2.2)) from by omega)⟩
    · obtain ⟨g_17, h⟩ := gd_e h
      obtain ⟨g_18, h⟩ := gd_e h
      rcases it_e h with ⟨_, h⟩ | ⟨_, h⟩
      · have mo9 : (tSpl T) = (tSpl (res.2.2)) ∧ (tRec T) = (tRec (res.2.2)) := hkm (x2) (x3) (c_kept) (c_keptCount) (T) h
        exact ⟨(show (tSpl T) = (tSpl (res.2.2)) from by omega), (show (tRec T) = (tRec (res.2.2)) from by omega)⟩
      · obtain ⟨g_20, h⟩ := gd_e h
        rcases it_e h with ⟨_, h⟩ | ⟨_, h⟩
        · obtain ⟨r_22, e_23, h⟩ := bd1_e h
          obtain ⟨r_25, e_26, h⟩ := bd1_e h
          obtain ⟨r_28, e_29, h⟩ := bd1_e h
          obtain ⟨g_31, h⟩ := gd_e h
          obtain ⟨g_32, h⟩ := gd_e h
          rcases it_e h with ⟨_, h⟩ | ⟨_, h⟩
          · obtain ⟨c_kept_34, c_keptCount_35, T_36, e_37, h⟩ := bd3_e h
            have mo_39 : (tSpl T) = (tSpl T_36) ∧ (tRec T) = (tRec T_36) := sr_Ch_keepEntriesOf c_kept c_keptCount T x2 (c_kept_34, c_keptCount_35, T_36) e_37
            have mo9 : (tSpl T_36) = (tSpl (res.2.2)) ∧ (tRec T_36) = (tRec (res.2.2)) := ihm (r_22) ((x3 + 1)) (c_kept_34) (c_keptCount_35) (T_36) h
            exact ⟨(show (tSpl T) = (tSpl (res.2.2)) from by omega), (show (tRec T) = (tRec (res.2.2)) from by omega)⟩
          · have mo9 : (tSpl T) = (tSpl (res.2.2)) ∧ (tRec T) = (tRec (res.2.2)) := ihm (r_22) ((x3 + 1)) (c_kept) (c_keptCount) (T) h
            exact ⟨(show (tSpl T) = (tSpl (res.2.2)) from by omega), (show (tRec T) = (tRec (res.2.2)) from by omega)⟩
        · have mo9 : (tSpl T) = (tSpl (res.2.2)) ∧ (tRec T) = (tRec (res.2.2)) := hkm (x2) (x3) (c_kept) (c_keptCount) (T) h
          exact ⟨(show (tSpl T) = (tSpl (res.2.2)) from by omega), (show (tRec T) = (tRec (res.2.2)) from by omega)⟩
theorem sr_Ch_takeOutBox (c_kept : Nat → Int) (T : TV) (x1 : Int) (res : (Nat → Int) × Int × TV) (h : f_Ch_takeOutBox c_kept T x1 = some res) : (tSpl T) = (tSpl (res.2.2)) ∧ (tRec T) = (tRec (res.2.2)) := by
  unfold f_Ch_takeOutBox at h
  obtain ⟨r_1, e_2, h⟩ := bd1_e h
  obtain ⟨T_4, e_5, h⟩ := bd1_e h
  have mo_7 : (tSpl T) = (tSpl T_4) ∧ (tRec T) = (tRec T_4) := sr_Tr_takeOut T x1 (T_4) e_5
  obtain ⟨T_8, e_9, h⟩ := bd1_e h
  have mo_11 : (tSpl T_4) = (tSpl T_8) ∧ (tRec T_4) = (tRec T_8) := sr_Tr_release T_4 x1 (T_8) e_9
  have mo9 : (tSpl T_8) = (tSpl (res.2.2)) ∧ (tRec T_8) = (tRec (res.2.2)) := sr_Ch_takeOutBox_L32  _ _ (fun x2_40 x3_41 c_kept_42 c_keptCount_43 T_44 h => by
      obtain ⟨T_45, e_46, h⟩ := bd1_e h
      have mo_48 : (tSpl T_44) = (tSpl T_45) ∧ (tRec T_44) = (tRec T_45) := sr_Tr_lowerRoot T_44 (T_45) e_46
      obtain rfl := Option.some.inj h
      exact ⟨(show (tSpl T_44) = (tSpl T_45) from by omega), (show (tRec T_44) = (tRec T_45) from by omega)⟩) _ (r_1) (0) (c_kept) (0) (T_8) h
  exact ⟨(show (tSpl T) = (tSpl (res.2.2)) from by omega), (show (tRec T) = (tRec (res.2.2)) from by omega)⟩
theorem sr_Tr_newNode (T : TV) (x1 : Int) (res : Int × TV) (h : f_Tr_newNode T x1 = some res) : (tSpl T) = (tSpl (res.2)) ∧ (tRec T) = (tRec (res.2)) := by
  unfold f_Tr_newNode at h
  obtain ⟨r_1, e_2, h⟩ := bd1_e h
  obtain ⟨g_4, h⟩ := gd_e h
  rcases it_e h with ⟨_, h⟩ | ⟨_, h⟩
  · obtain rfl := Option.some.inj h
    exact ⟨(show (tSpl T) = (tSpl T) from by omega), (show (tRec T) = (tRec T) from by omega)⟩
  · obtain ⟨T_6, e_7, h⟩ := bd1_e h
    have mo_9 : (tSpl T) = (tSpl T_6) ∧ (tRec T) = (tRec T_6) := sr_Tr_take T r_1 x1 (T_6) e_7
    obtain rfl := Option.some.inj h
    exact ⟨(show (tSpl T) = (tSpl T_6) from by omega), (show (tRec T) = (tRec T_6) from by omega)⟩
theorem sr_Tr_raiseRoot (T : TV) (res : Int × TV) (h : f_Tr_raiseRoot T = some res) : (tSpl T) = (tSpl (res.2)) ∧ (tRec T) = (tRec (res.2)) := by
  unfold f_Tr_raiseRoot at h
  obtain ⟨r_1, e_2, h⟩ := bd1_e h
  obtain ⟨r_4, T_5, e_6, h⟩ := bd2_e h
  have mo_8 : (tSpl T) = (tSpl T_5) ∧ (tRec T) = (tRec T_5) := sr_Tr_newNode T (r_1 + 1) (r_4, T_5) e_6
  obtain ⟨g_9, h⟩ := gd_e h
  rcases it_e h with ⟨_, h⟩ | ⟨_, h⟩
  · obtain rfl := Option.some.inj h
    exact ⟨(show (tSpl T) = (tSpl T_5) from by omega), (show (tRec T) = (tRec T_5) from by omega)⟩
  · obtain ⟨T_11, e_12, h⟩ := bd1_e h
    have mo_14 : (tSpl T_5) = (tSpl T_11) ∧ (tRec T_5) = (tRec T_11) := sr_Tr_addAt (sRoot T_5 r_4) r_4 0 (tRoot T) (T_11) e_12
    obtain rfl := Option.some.inj h
    exact ⟨(show (tSpl T) = (tSpl T_11) from by omega), (show (tRec T) = (tRec T_11) from by omega)⟩
theorem sr_Ch_splitNode_L113 (x1 : Int) (x3 : Int) (res : Int × (Nat → Int) × Int × TV) (k : Int → (Nat → Int) → Int → TV → Option (Int × (Nat → Int) × Int × TV)) (hkm : ∀ (x5 : Int) (c_pool : Nat → Int) (c_left : Int) (T : TV) , k x5 c_pool c_left T = some res → (tSpl T) = (tSpl (res.2.2.2)) ∧ (tRec T) = (tRec (res.2.2.2))) : ∀ (n : Nat) (x5 : Int) (c_pool : Nat → Int) (c_left : Int) (T : TV) , f_Ch_splitNode_L113 x1 x3 k n x5 c_pool c_left T = some res → (tSpl T) = (tSpl (res.2.2.2)) ∧ (tRec T) = (tRec (res.2.2.2)) := by
  intro n
  induction n with
  | zero => intro x5 c_pool c_left T h; cases h
  | succ n ihm =>
    intro x5 c_pool c_left T h
    rw [f_Ch_splitNode_L113] at h
    obtain ⟨g_44, h⟩ := gd_e h
    rcases it_e h with ⟨_, h⟩ | ⟨_, h⟩
    · obtain ⟨g_46, h⟩ := gd_e h
      rcases it_e h with ⟨_, h⟩ | ⟨_, h⟩
      · obtain ⟨r_48, e_49, h⟩ := bd1_e h
        obtain ⟨r_51, e_52, h⟩ := bd1_e h
        obtain ⟨g_54, h⟩ := gd_e h
        obtain ⟨g_55, h⟩ := gd_e h
        rcases it_e h with ⟨_, h⟩ | ⟨_, h⟩
        · obtain ⟨r_57, e_58, h⟩ := bd1_e h
          obtain ⟨r_60, e_61, h⟩ := bd1_e h
          obtain ⟨g_63, h⟩ := gd_e h
          obtain ⟨g_64, h⟩ := gd_e h
          rcases it_e h with ⟨_, h⟩ | ⟨_, h⟩
          · obtain ⟨r_66, e_67, h⟩ := bd1_e h
            obtain ⟨r_69, e_70, h⟩ := bd1_e h
            obtain ⟨r_72, e_73, h⟩ := bd1_e h
            obtain ⟨c_pool_75, c_left_76, T_77, e_78, h⟩ := bd3_e h
            have mo_80 : (tSpl T) = (tSpl T_77) ∧ (tRec T) = (tRec T_77) := sr_Ch_giveTo c_pool c_left T r_72 r_66 (c_pool_75, c_left_76, T_77) e_78
            have mo9 : (tSpl T_77) = (tSpl (res.2.2.2)) ∧ (tRec T_77) = (tRec (res.2.2.2)) := ihm ((x5 + 1)) (c_pool_75) (c_left_76) (T_77) h
            exact ⟨(show (tSpl T) = (tSpl (res.2.2.2)) from by omega), (show (tRec T) = (tRec (res.2.2.2)) from by omega)⟩
          · obtain ⟨c_left_81, T_82, e_83, h⟩ := bd2_e h
            have mo_85 : (tSpl T) = (tSpl T_82) ∧ (tRec T) = (tRec T_82) := sr_Ch_giveAllTo c_pool c_left T x3 (c_left_81, T_82) e_83
            have mo9 : (tSpl T_82) = (tSpl (res.2.2.2)) ∧ (tRec T_82) = (tRec (res.2.2.2)) := ihm ((x5 + 1)) (c_pool) (c_left_81) (T_82) h
            exact ⟨(show (tSpl T) = (tSpl (res.2.2.2)) from by omega), (show (tRec T) = (tRec (res.2.2.2)) from by omega)⟩
        · obtain ⟨c_left_86, T_87, e_88, h⟩ := bd2_e h
          have mo_90 : (tSpl T) = (tSpl T_87) ∧ (tRec T) = (tRec T_87) := sr_Ch_giveAllTo c_pool c_left T x1 (c_left_86, T_87) e_88
          have mo9 : (tSpl T_87) = (tSpl (res.2.2.2)) ∧ (tRec T_87) = (tRec (res.2.2.2)) := ihm ((x5 + 1)) (c_pool) (c_left_86) (T_87) h
          exact ⟨(show (tSpl T) = (tSpl (res.2.2.2)) from by omega), (show (tRec T) = (tRec (res.2.2.2)) from by omega)⟩
      · have mo9 : (tSpl T) = (tSpl (res.2.2.2)) ∧ (tRec T) = (tRec (res.2.2.2)) := hkm (x5) (c_pool) (c_left) (T) h
        exact ⟨(show (tSpl T) = (tSpl (res.2.2.2)) from by omega), (show (tRec T) = (tRec (res.2.2.2)) from by omega)⟩
    · have mo9 : (tSpl T) = (tSpl (res.2.2.2)) ∧ (tRec T) = (tRec (res.2.2.2)) := hkm (x5) (c_pool) (c_left) (T) h
      exact ⟨(show (tSpl T) = (tSpl (res.2.2.2)) from by omega), (show (tRec T) = (tRec (res.2.2.2)) from by omega)⟩
theorem sr_Ch_splitNode (c_pool : Nat → Int) (c_left : Int) (T : TV) (x1 : Int) (res : Int × (Nat → Int) × Int × TV) (h : f_Ch_splitNode c_pool c_left T x1 = some res) : (tSpl T) ≤ (tSpl (res.2.2.2)) ∧ (tSpl (res.2.2.2)) ≤ (tSpl T) + 1 ∧ (tRec T) ≤ (tRec (res.2.2.2)) ∧ (tRec (res.2.2.2)) ≤ (tRec T) + 0 := by
  unfold f_Ch_splitNode at h
  obtain ⟨g_1, h⟩ := gd_e h
  obtain ⟨g_2, h⟩ := gd_e h
  rcases it_e h with ⟨_, h⟩ | ⟨_, h⟩
  · obtain ⟨r_99, T_100, e_101, h⟩ := bd2_e h
    have mo_103 : (tSpl T) = (tSpl T_100) ∧ (tRec T) = (tRec T_100) := sr_Tr_raiseRoot T (r_99, T_100) e_101
    obtain ⟨r_104, e_105, h⟩ := bd1_e h
    obtain ⟨r_107, T_108, e_109, h⟩ := bd2_e h
    have mo_111 : (tSpl T_100) = (tSpl T_108) ∧ (tRec T_100) = (tRec T_108) := sr_Tr_newNode T_100 r_104 (r_107, T_108) e_109
    obtain ⟨g_112, h⟩ := gd_e h
    rcases it_e h with ⟨_, h⟩ | ⟨_, h⟩
    · obtain rfl := Option.some.inj h
      exact ⟨(show (tSpl T) ≤ (tSpl T_108) from by omega), (show (tSpl T_108) ≤ (tSpl T) + 1 from by omega), (show (tRec T) ≤ (tRec T_108) from by omega), (show (tRec T_108) ≤ (tRec T) + 0 from by omega)⟩
    · obtain ⟨g_114, h⟩ := gd_e h
      rcases it_e h with ⟨_, h⟩ | ⟨_, h⟩
      · obtain rfl := Option.some.inj h
        exact ⟨(show (tSpl T) ≤ (tSpl T_108) from by omega), (show (tSpl T_108) ≤ (tSpl T) + 1 from by omega), (show (tRec T) ≤ (tRec T_108) from by omega), (show (tRec T_108) ≤ (tRec T) + 0 from by omega)⟩
      · obtain ⟨c_pool_116, c_left_117, e_118, h⟩ := bd2_e h
        obtain ⟨r_120, e_121, h⟩ := bd1_e h
        obtain ⟨T_123, e_124, h⟩ := bd1_e h
        have mo_126 : ((tSpl T_108) + 1) = (tSpl T_123) ∧ (tRec T_108) = (tRec T_123) := sr_Tr_makeListEmpty (sSpl T_108 ((tSpl T_108) + 1)) x1 (T_123) e_124
        obtain ⟨g_127, h⟩ := gd_e h
        obtain ⟨c_pool_128, c_left_129, T_130, e_131, h⟩ := bd3_e h
        have mo_133 : (tSpl T_123) = (tSpl T_130) ∧ (tRec T_123) = (tRec T_130) := sr_Ch_giveTo c_pool_116 c_left_117 T_123 r_107 (r_120 % 6) (c_pool_128, c_left_129, T_130) e_131
        obtain ⟨g_134, h⟩ := gd_e h
        obtain ⟨c_pool_135, c_left_136, T_137, e_138, h⟩ := bd3_e h
        have mo_140 : (tSpl T_130) = (tSpl T_137) ∧ (tRec T_130) = (tRec T_137) := sr_Ch_giveTo c_pool_128 c_left_129 T_130 x1 (r_120 / 6) (c_pool_135, c_left_136, T_137) e_138
        have mo9 : (tSpl T_137) = (tSpl (res.2.2.2)) ∧ (tRec T_137) = (tRec (res.2.2.2)) := sr_Ch_splitNode_L113 (x1) (r_107) _ _ (fun x5_141 c_pool_142 c_left_143 T_144 h => by
            obtain ⟨T_145, e_146, h⟩ := bd1_e h
            have mo_148 : (tSpl T_144) = (tSpl T_145) ∧ (tRec T_144) = (tRec T_145) := sr_Tr_addBehind T_144 r_99 x1 r_107 (T_145) e_146
            obtain rfl := Option.some.inj h
            exact ⟨(show (tSpl T_144) = (tSpl T_145) from by omega), (show (tRec T_144) = (tRec T_145) from by omega)⟩) _ (0) (c_pool_135) (c_left_136) (T_137) h
        exact ⟨(show (tSpl T) ≤ (tSpl (res.2.2.2)) from by omega), (show (tSpl (res.2.2.2)) ≤ (tSpl T) + 1 from by omega), (show (tRec T) ≤ (tRec (res.2.2.2)) from by omega), (show (tRec (res.2.2.2)) ≤ (tRec T) + 0 from by omega)⟩
  · obtain ⟨r_4, e_5, h⟩ := bd1_e h
    obtain ⟨r_7, e_8, h⟩ := bd1_e h
    obtain ⟨r_10, T_11, e_12, h⟩ := bd2_e h
    have mo_14 : (tSpl T) = (tSpl T_11) ∧ (tRec T) = (tRec T_11) := sr_Tr_newNode T r_7 (r_10, T_11) e_12
    obtain ⟨g_15, h⟩ := gd_e h
    rcases it_e h with ⟨_, h⟩ | ⟨_, h⟩
    · obtain rfl := Option.some.inj h
      exact ⟨(show (tSpl T) ≤ (tSpl T_11) from by omega), (show (tSpl T_11) ≤ (tSpl T) + 1 from by omega), (show (tRec T) ≤ (tRec T_11) from by omega), (show (tRec T_11) ≤ (tRec T) + 0 from by omega)⟩
    · obtain ⟨g_17, h⟩ := gd_e h
      rcases it_e h with ⟨_, h⟩ | ⟨_, h⟩
      · obtain rfl := Option.some.inj h
        exact ⟨(show (tSpl T) ≤ (tSpl T_11) from by omega), (show (tSpl T_11) ≤ (tSpl T) + 1 from by omega), (show (tRec T) ≤ (tRec T_11) from by omega), (show (tRec T_11) ≤ (tRec T) + 0 from by omega)⟩
      · obtain ⟨c_pool_19, c_left_20, e_21, h⟩ := bd2_e h
        obtain ⟨r_23, e_24, h⟩ := bd1_e h
        obtain ⟨T_26, e_27, h⟩ := bd1_e h
        have mo_29 : ((tSpl T_11) + 1) = (tSpl T_26) ∧ (tRec T_11) = (tRec T_26) := sr_Tr_makeListEmpty (sSpl T_11 ((tSpl T_11) + 1)) x1 (T_26) e_27
        obtain ⟨g_30, h⟩ := gd_e h
        obtain ⟨c_pool_31, c_left_32, T_33, e_34, h⟩ := bd3_e h
        have mo_36 : (tSpl T_26) = (tSpl T_33) ∧ (tRec T_26) = (tRec T_33) := sr_Ch_giveTo c_pool_19 c_left_20 T_26 r_10 (r_23 % 6) (c_pool_31, c_left_32, T_33) e_34
        obtain ⟨g_37, h⟩ := gd_e h
        obtain ⟨c_pool_38, c_left_39, T_40, e_41, h⟩ := bd3_e h
        have mo_43 : (tSpl T_33) = (tSpl T_40) ∧ (tRec T_33) = (tRec T_40) := sr_Ch_giveTo c_pool_31 c_left_32 T_33 x1 (r_23 / 6) (c_pool_38, c_left_39, T_40) e_41
        have mo9 : (tSpl T_40) = (tSpl (res.2.2.2)) ∧ (tRec T_40) = (tRec (res.2.2.2)) := sr_Ch_splitNode_L113 (x1) (r_10) _ _ (fun x5_91 c_pool_92 c_left_93 T_94 h => by
            obtain ⟨T_95, e_96, h⟩ := bd1_e h
            have mo_98 : (tSpl T_94) = (tSpl T_95) ∧ (tRec T_94) = (tRec T_95) := sr_Tr_addBehind T_94 r_4 x1 r_10 (T_95) e_96
            obtain rfl := Option.some.inj h
            exact ⟨(show (tSpl T_94) = (tSpl T_95) from by omega), (show (tRec T_94) = (tRec T_95) from by omega)⟩) _ (0) (c_pool_38) (c_left_39) (T_40) h
        exact ⟨(show (tSpl T) ≤ (tSpl (res.2.2.2)) from by omega), (show (tSpl (res.2.2.2)) ≤ (tSpl T) + 1 from by omega), (show (tRec T) ≤ (tRec (res.2.2.2)) from by omega), (show (tRec (res.2.2.2)) ≤ (tRec T) + 0 from by omega)⟩
theorem sr_Ch_dissolve_L28 (LB : KV) (res : TV × KV × KV) (k : Int → TV → Option (TV × KV × KV)) (hkm : ∀ (x2 : Int) (T : TV) , k x2 T = some res → (tSpl T) = (tSpl (res.1)) ∧ (tRec T) = (tRec (res.1))) : ∀ (n : Nat) (x2 : Int) (T : TV) , f_Ch_dissolve_L28 LB k n x2 T = some res → (tSpl T) = (tSpl (res.1)) ∧ (tRec T) = (tRec (res.1)) := by
  intro n
  induction n with
  | zero => intro x2 T h; cases h
  | succ n ihm =>
    intro x2 T h
    rw [f_Ch_dissolve_L28] at h
    obtain ⟨g_7, h⟩ := gd_e h
    obtain ⟨g_8, h⟩ := gd_e h
    rcases it_e h with ⟨_, h⟩ | ⟨_, h⟩
    · obtain ⟨r_10, e_11, h⟩ := bd1_e h
      obtain ⟨T_13, e_14, h⟩ := bd1_e h
      have mo_16 : (tSpl T) = (tSpl T_13) ∧ (tRec T) = (tRec T_13) := sr_Tr_setLoose T r_10 (T_13) e_14
      have mo9 : (tSpl T_13) = (tSpl (res.1)) ∧ (tRec T_13) = (tRec (res.1)) := ihm ((x2 + 1)) (T_13) h
      exact ⟨(show (tSpl T) = (tSpl (res.1)) from by omega), (show (tRec T) = (tRec (res.1)) from by omega)⟩
    · have mo9 : (tSpl T) = (tSpl (res.1)) ∧ (tRec T) = (tRec (res.1)) := hkm (x2) (T) h
      exact ⟨(show (tSpl T) = (tSpl (res.1)) from by omega), (show (tRec T) = (tRec (res.1)) from by omega)⟩
theorem sr_Ch_dissolve_L65 (LN : KV) (res : TV × KV × KV) (k : Int → TV → Option (TV × KV × KV)) (hkm : ∀ (x2 : Int) (T : TV) , k x2 T = some res → (tSpl T) = (tSpl (res.1)) ∧ (tRec T) = (tRec (res.1))) : ∀ (n : Nat) (x2 : Int) (T : TV) , f_Ch_dissolve_L65 LN k n x2 T = some res → (tSpl T) = (tSpl (res.1)) ∧ (tRec T) = (tRec (res.1)) := by
  intro n
  induction n with
  | zero => intro x2 T h; cases h
  | succ n ihm =>
    intro x2 T h
    rw [f_Ch_dissolve_L65] at h
    obtain ⟨g_19, h⟩ := gd_e h
    obtain ⟨g_20, h⟩ := gd_e h
    rcases it_e h with ⟨_, h⟩ | ⟨_, h⟩
    · obtain ⟨r_22, e_23, h⟩ := bd1_e h
      obtain ⟨T_25, e_26, h⟩ := bd1_e h
      have mo_28 : (tSpl T) = (tSpl T_25) ∧ (tRec T) = (tRec T_25) := sr_Tr_release T r_22 (T_25) e_26
      have mo9 : (tSpl T_25) = (tSpl (res.1)) ∧ (tRec T_25) = (tRec (res.1)) := ihm ((x2 + 1)) (T_25) h
      exact ⟨(show (tSpl T) = (tSpl (res.1)) from by omega), (show (tRec T) = (tRec (res.1)) from by omega)⟩
    · have mo9 : (tSpl T) = (tSpl (res.1)) ∧ (tRec T) = (tRec (res.1)) := hkm (x2) (T) h
      exact ⟨(show (tSpl T) = (tSpl (res.1)) from by omega), (show (tRec T) = (tRec (res.1)) from by omega)⟩
theorem sr_Ch_dissolve (T : TV) (LB : KV) (LN : KV) (x1 : Int) (res : TV × KV × KV) (h : f_Ch_dissolve T LB LN x1 = some res) : (tSpl T) = (tSpl (res.1)) ∧ (tRec T) = (tRec (res.1)) := by
  unfold f_Ch_dissolve at h
  obtain ⟨LB_1, e_2, h⟩ := bd1_e h
  obtain ⟨LN_4, e_5, h⟩ := bd1_e h
  have mo9 : (tSpl T) = (tSpl (res.1)) ∧ (tRec T) = (tRec (res.1)) := sr_Ch_dissolve_L28 (LB_1) _ _ (fun x2_17 T_18 h => by
      have mo9 : (tSpl T_18) = (tSpl (res.1)) ∧ (tRec T_18) = (tRec (res.1)) := sr_Ch_dissolve_L65 (LN_4) _ _ (fun x2_29 T_30 h => by
          obtain rfl := Option.some.inj h
          exact ⟨(show (tSpl T_30) = (tSpl T_30) from by omega), (show (tRec T_30) = (tRec T_30) from by omega)⟩) _ (0) (T_18) h
      exact ⟨(show (tSpl T_18) = (tSpl (res.1)) from by omega), (show (tRec T_18) = (tRec (res.1)) from by omega)⟩) _ (0) (T) h
  exact ⟨(show (tSpl T) = (tSpl (res.1)) from by omega), (show (tRec T) = (tRec (res.1)) from by omega)⟩
theorem sr_Pk_groupRow_L8 (x1 : Int) (x2 : Int) (res : Int × (Nat → Int) × TV) (k : Int → Int → Int → (Nat → Int) → TV → Option (Int × (Nat → Int) × TV)) (hkm : ∀ (x3 : Int) (x4 : Int) (x5 : Int) (c_row : Nat → Int) (T : TV) , k x3 x4 x5 c_row T = some res → (tSpl T) = (tSpl (res.2.2)) ∧ (tRec T) = (tRec (res.2.2))) : ∀ (n : Nat) (x3 : Int) (x4 : Int) (x5 : Int) (c_row : Nat → Int) (T : TV) , f_Pk_groupRow_L8 x1 x2 k n x3 x4 x5 c_row T = some res → (tSpl T) = (tSpl (res.2.2)) ∧ (tRec T) = (tRec (res.2.2)) := by
  intro n
  induction n with
  | zero => intro x3 x4 x5 c_row T h; cases h
  | succ n ihm =>
    intro x3 x4 x5 c_row T h
    rw [f_Pk_groupRow_L8] at h
    obtain ⟨g_1, h⟩ := gd_e h
    obtain ⟨g_2, h⟩ := gd_e h
    rcases it_e h with ⟨_, h⟩ | ⟨_, h⟩
    · obtain ⟨r_4, e_5, h⟩ := bd1_e h
      obtain ⟨g_7, h⟩ := gd_e h
      rcases it_e h with ⟨_, h⟩ | ⟨_, h⟩
      · obtain ⟨r_9, T_10, e_11, h⟩ := bd2_e h
        have mo_13 : (tSpl T) = (tSpl T_10) ∧ (tRec T) = (tRec T_10) := sr_Tr_newNode T x2 (r_9, T_10) e_11
        obtain ⟨c_row_14, e_15, h⟩ := bd1_e h
        obtain ⟨r_17, e_18, h⟩ := bd1_e h
        obtain ⟨T_20, e_21, h⟩ := bd1_e h
        have mo_23 : (tSpl T_10) = (tSpl T_20) ∧ (tRec T_10) = (tRec T_20) := sr_Tr_addAt T_10 r_9 r_17 r_4 (T_20) e_21
        have mo9 : (tSpl T_20) = (tSpl (res.2.2)) ∧ (tRec T_20) = (tRec (res.2.2)) := ihm ((x3 + 1)) (r_9) ((x5 + 1)) (c_row_14) (T_20) h
        exact ⟨(show (tSpl T) = (tSpl (res.2.2)) from by omega), (show (tRec T) = (tRec (res.2.2)) from by omega)⟩
      · obtain ⟨r_24, e_25, h⟩ := bd1_e h
        obtain ⟨g_27, h⟩ := gd_e h
        obtain ⟨g_28, h⟩ := gd_e h
        rcases it_e h with ⟨_, h⟩ | ⟨_, h⟩
        · obtain ⟨r_30, e_31, h⟩ := bd1_e h
          obtain ⟨T_33, e_34, h⟩ := bd1_e h
          have mo_36 : (tSpl T) = (tSpl T_33) ∧ (tRec T) = (tRec T_33) := sr_Tr_addAt T x4 r_30 r_4 (T_33) e_34
          have mo9 : (tSpl T_33) = (tSpl (res.2.2)) ∧ (tRec T_33) = (tRec (res.2.2)) := ihm (x3) (x4) ((x5 + 1)) (c_row) (T_33) h
          exact ⟨(show (tSpl T) = (tSpl (res.2.2)) from by omega), (show (tRec T) = (tRec (res.2.2)) from by omega)⟩
        · obtain ⟨r_37, T_38, e_39, h⟩ := bd2_e h
          have mo_41 : (tSpl T) = (tSpl T_38) ∧ (tRec T) = (tRec T_38) := sr_Tr_newNode T x2 (r_37, T_38) e_39
          obtain ⟨c_row_42, e_43, h⟩ := bd1_e h
          obtain ⟨r_45, e_46, h⟩ := bd1_e h
          obtain ⟨T_48, e_49, h⟩ := bd1_e h
          have mo_51 : (tSpl T_38) = (tSpl T_48) ∧ (tRec T_38) = (tRec T_48) := sr_Tr_addAt T_38 r_37 r_45 r_4 (T_48) e_49
          have mo9 : (tSpl T_48) = (tSpl (res.2.2)) ∧ (tRec T_48) = (tRec (res.2.2)) := ihm ((x3 + 1)) (r_37) ((x5 + 1)) (c_row_42) (T_48) h
          exact ⟨(show (tSpl T) = (tSpl (res.2.2)) from by omega), (show (tRec T) = (tRec (res.2.2)) from by omega)⟩
    · have mo9 : (tSpl T) = (tSpl (res.2.2)) ∧ (tRec T) = (tRec (res.2.2)) := hkm (x3) (x4) (x5) (c_row) (T) h
      exact ⟨(show (tSpl T) = (tSpl (res.2.2)) from by omega), (show (tRec T) = (tRec (res.2.2)) from by omega)⟩
theorem sr_Pk_groupRow (c_row : Nat → Int) (T : TV) (x1 : Int) (x2 : Int) (res : Int × (Nat → Int) × TV) (h : f_Pk_groupRow c_row T x1 x2 = some res) : (tSpl T) = (tSpl (res.2.2)) ∧ (tRec T) = (tRec (res.2.2)) := by
  unfold f_Pk_groupRow at h
  have mo9 : (tSpl T) = (tSpl (res.2.2)) ∧ (tRec T) = (tRec (res.2.2)) := sr_Pk_groupRow_L8 (x1) (x2) _ _ (fun x3_52 x4_53 x5_54 c_row_55 T_56 h => by
      obtain rfl := Option.some.inj h
      exact ⟨(show (tSpl T_56) = (tSpl T_56) from by omega), (show (tRec T_56) = (tRec T_56) from by omega)⟩) _ (0) ((-1)) (0) (c_row) (T) h
  exact ⟨(show (tSpl T) = (tSpl (res.2.2)) from by omega), (show (tRec T) = (tRec (res.2.2)) from by omega)⟩
theorem sr_Pk_rebuild_L76 (T : TV) (x1 : Int) (x2 : Int) (res : (Nat → Int) × TV) (k : Int → (Nat → Int) → Option ((Nat → Int) × TV)) (hkm : ∀ (x3 : Int) (c_row : Nat → Int) , k x3 c_row = some res → (tSpl T) = (tSpl (res.2)) ∧ (tRec T) = (tRec (res.2))) : ∀ (n : Nat) (x3 : Int) (c_row : Nat → Int) , f_Pk_rebuild_L76 T x1 x2 k n x3 c_row = some res → (tSpl T) = (tSpl (res.2)) ∧ (tRec T) = (tRec (res.2)) := by
  intro n
  induction n with
  | zero => intro x3 c_row h; cases h
  | succ n ihm =>
    intro x3 c_row h
    rw [f_Pk_rebuild_L76] at h
    obtain ⟨g_20, h⟩ := gd_e h
    obtain ⟨g_21, h⟩ := gd_e h
    rcases it_e h with ⟨_, h⟩ | ⟨_, h⟩
    · obtain ⟨g_23, h⟩ := gd_e h
      rcases it_e h with ⟨_, h⟩ | ⟨_, h⟩
      · obtain ⟨g_25, h⟩ := gd_e h
        obtain ⟨c_row_27, e_28, h⟩ := bd1_e h
        have mo9 : (tSpl T) = (tSpl (res.2)) ∧ (tRec T) = (tRec (res.2)) := ihm ((x3 + x2)) (c_row_27) h
        exact ⟨(show (tSpl T) = (tSpl (res.2)) from by omega), (show (tRec T) = (tRec (res.2)) from by omega)⟩
      · have mo9 : (tSpl T) = (tSpl (res.2)) ∧ (tRec T) = (tRec (res.2)) := hkm (x3) (c_row) h
        exact ⟨(show (tSpl T) = (tSpl (res.2)) from by omega), (show (tRec T) = (tRec (res.2)) from by omega)⟩
    · have mo9 : (tSpl T) = (tSpl (res.2)) ∧ (tRec T) = (tRec (res.2)) := hkm (x3) (c_row) h
      exact ⟨(show (tSpl T) = (tSpl (res.2)) from by omega), (show (tRec T) = (tRec (res.2)) from by omega)⟩
theorem sr_Pk_rebuild_L107 (res : (Nat → Int) × TV) (k : Int → Int → (Nat → Int) → TV → Option ((Nat → Int) × TV)) (hkm : ∀ (x1 : Int) (x3 : Int) (c_row : Nat → Int) (T : TV) , k x1 x3 c_row T = some res → (tSpl T) = (tSpl (res.2)) ∧ (tRec T) = (tRec (res.2))) : ∀ (n : Nat) (x1 : Int) (x3 : Int) (c_row : Nat → Int) (T : TV) , f_Pk_rebuild_L107 k n x1 x3 c_row T = some res → (tSpl T) = (tSpl (res.2)) ∧ (tRec T) = (tRec (res.2)) := by
  intro n
  induction n with
  | zero => intro x1 x3 c_row T h; cases h
  | succ n ihm =>
    intro x1 x3 c_row T h
    rw [f_Pk_rebuild_L107] at h
    obtain ⟨g_32, h⟩ := gd_e h
    rcases it_e h with ⟨_, h⟩ | ⟨_, h⟩
    · rcases it_e h with ⟨_, h⟩ | ⟨_, h⟩
      · obtain ⟨r_35, c_row_36, T_37, e_38, h⟩ := bd3_e h
        have mo_40 : (tSpl T) = (tSpl T_37) ∧ (tRec T) = (tRec T_37) := sr_Pk_groupRow c_row T x1 x3 (r_35, c_row_36, T_37) e_38
        have mo9 : (tSpl T_37) = (tSpl (res.2)) ∧ (tRec T_37) = (tRec (res.2)) := ihm (r_35) ((x3 + 1)) (c_row_36) (T_37) h
        exact ⟨(show (tSpl T) = (tSpl (res.2)) from by omega), (show (tRec T) = (tRec (res.2)) from by omega)⟩
      · obtain ⟨g_41, h⟩ := gd_e h
        rcases it_e h with ⟨_, h⟩ | ⟨_, h⟩
        · obtain ⟨r_43, c_row_44, T_45, e_46, h⟩ := bd3_e h
          have mo_48 : (tSpl T) = (tSpl T_45) ∧ (tRec T) = (tRec T_45) := sr_Pk_groupRow c_row T x1 x3 (r_43, c_row_44, T_45) e_46
          have mo9 : (tSpl T_45) = (tSpl (res.2)) ∧ (tRec T_45) = (tRec (res.2)) := ihm (r_43) ((x3 + 1)) (c_row_44) (T_45) h
          exact ⟨(show (tSpl T) = (tSpl (res.2)) from by omega), (show (tRec T) = (tRec (res.2)) from by omega)⟩
        · have mo9 : (tSpl T) = (tSpl (res.2)) ∧ (tRec T) = (tRec (res.2)) := hkm (x1) (x3) (c_row) (T) h
          exact ⟨(show (tSpl T) = (tSpl (res.2)) from by omega), (show (tRec T) = (tRec (res.2)) from by omega)⟩
    · have mo9 : (tSpl T) = (tSpl (res.2)) ∧ (tRec T) = (tRec (res.2)) := hkm (x1) (x3) (c_row) (T) h
      exact ⟨(show (tSpl T) = (tSpl (res.2)) from by omega), (show (tRec T) = (tRec (res.2)) from by omega)⟩
theorem sr_Pk_rebuild (c_row : Nat → Int) (T : TV) (res : (Nat → Int) × TV) (h : f_Pk_rebuild c_row T = some res) : (tSpl T) = (tSpl (res.2)) ∧ (tRec T) = (tRec (res.2)) := by
  unfold f_Pk_rebuild at h
  obtain ⟨r_1, c_row_2, e_3, h⟩ := bd2_e h
  obtain ⟨T_5, e_6, h⟩ := bd1_e h
  have mo_8 : (tSpl T) = (tSpl T_5) ∧ (tRec T) = (tRec T_5) := sr_Tr_releaseNodes T (T_5) e_6
  obtain ⟨g_9, h⟩ := gd_e h
  rcases it_e h with ⟨_, h⟩ | ⟨_, h⟩
  · obtain ⟨r_56, T_57, e_58, h⟩ := bd2_e h
    have mo_60 : (tSpl T_5) = (tSpl T_57) ∧ (tRec T_5) = (tRec T_57) := sr_Tr_newNode T_5 0 (r_56, T_57) e_58
    obtain rfl := Option.some.inj h
    exact ⟨(show (tSpl T) = (tSpl T_57) from by omega), (show (tRec T) = (tRec T_57) from by omega)⟩
  · obtain ⟨g_11, h⟩ := gd_e h
    obtain ⟨g_13, h⟩ := gd_e h
    obtain ⟨r_14, e_15, h⟩ := bd1_e h
    obtain ⟨c_row_17, e_18, h⟩ := bd1_e h
    have mo9 : (tSpl T_5) = (tSpl (res.2)) ∧ (tRec T_5) = (tRec (res.2)) := sr_Pk_rebuild_L76 (T_5) (r_1) ((r_14 * (tCap T_5))) _ _ (fun x3_30 c_row_31 h => by
        have mo9 : (tSpl T_5) = (tSpl (res.2)) ∧ (tRec T_5) = (tRec (res.2)) := sr_Pk_rebuild_L107  _ _ (fun x1_49 x3_50 c_row_51 T_52 h => by
            obtain ⟨r_53, e_54, h⟩ := bd1_e h
            obtain rfl := Option.some.inj h
            exact ⟨(show (tSpl T_52) = (tSpl T_52) from by omega), (show (tRec T_52) = (tRec T_52) from by omega)⟩) _ (r_1) (0) (c_row_31) (T_5) h
        exact ⟨(show (tSpl T_5) = (tSpl (res.2)) from by omega), (show (tRec T_5) = (tRec (res.2)) from by omega)⟩) _ (0) (c_row_17) h
    exact ⟨(show (tSpl T) = (tSpl (res.2)) from by omega), (show (tRec T) = (tRec (res.2)) from by omega)⟩
