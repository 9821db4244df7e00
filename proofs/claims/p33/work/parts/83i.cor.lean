/-! the boxes' corners stay -/
theorem isn_24 {T : TV} {x r : Int} (h : f_Tr_isNode T x = some r) (hr : ¬ r = 0) : 24 ≤ x := by
  unfold f_Tr_isNode at h
  obtain ⟨g1, h⟩ := gd_e h
  rcases it_e h with ⟨q, h⟩ | ⟨q, h⟩
  · exact absurd (Option.some.inj h).symm hr
  · omega
theorem sc_setc (iq : Nat) (hiq : iq < 96) {x : Int} (hx : 24 ≤ x) (T : TV) (a b c d : Int) (T' : TV) (h : f_Tr_setCorners T x a b c d = some T') : tCor T iq = tCor T' iq := by
  unfold f_Tr_setCorners at h
  obtain ⟨g1, h⟩ := gd_e h
  rcases it_e h with ⟨q, h⟩ | ⟨q, h⟩
  · rw [Option.some.inj h]
  · obtain ⟨g2, h⟩ := gd_e h
    rcases it_e h with ⟨q, h⟩ | ⟨q, h⟩
    · rw [Option.some.inj h]
    · obtain ⟨_, h⟩ := gd_e h
      obtain ⟨_, h⟩ := gd_e h
      obtain ⟨_, h⟩ := gd_e h
      obtain ⟨_, h⟩ := gd_e h
      obtain ⟨_, h⟩ := gd_e h
      obtain ⟨_, h⟩ := gd_e h
      obtain ⟨_, h⟩ := gd_e h
      obtain rfl := Option.some.inj h
      show tCor T iq = up (up (up (up (tCor T) _ a) _ b) _ c) _ d iq
      rw [up_o (by omega), up_o (by omega), up_o (by omega), up_o (by omega)]
theorem sc_Tr_take (iq : Nat) (hiq : iq < 96) (T : TV) (x1 : Int) (x2 : Int) (res : TV) (h : f_Tr_take T x1 x2 = some res) : ((tCor T) iq) = ((tCor (res)) iq) := by
  unfold f_Tr_take at h
  obtain ⟨T_1, e_2, h⟩ := bd1_e h
  obtain ⟨T_4, e_5, h⟩ := bd1_e h
  obtain ⟨T_7, e_8, h⟩ := bd1_e h
  obtain rfl := Option.some.inj h
  exact (show ((tCor T) iq) = ((tCor T) iq) from by omega)
theorem sc_Tr_release (iq : Nat) (hiq : iq < 96) (T : TV) (x1 : Int) (res : TV) (h : f_Tr_release T x1 = some res) : ((tCor T) iq) = ((tCor (res)) iq) := by
  unfold f_Tr_release at h
  obtain ⟨T_1, e_2, h⟩ := bd1_e h
  have mo_4 : ((tCor T) iq) = ((tCor T_1) iq) := sc_Tr_take iq hiq T x1 (-2) (T_1) e_2
  obtain rfl := Option.some.inj h
  exact (show ((tCor T) iq) = ((tCor T_1) iq) from by omega)
theorem sc_Tr_setLoose (iq : Nat) (hiq : iq < 96) (T : TV) (x1 : Int) (res : TV) (h : f_Tr_setLoose T x1 = some res) : ((tCor T) iq) = ((tCor (res)) iq) := by
  unfold f_Tr_setLoose at h
  obtain ⟨T_1, e_2, h⟩ := bd1_e h
  obtain rfl := Option.some.inj h
  exact (show ((tCor T) iq) = ((tCor T) iq) from by omega)
theorem sc_Tr_makeListEmpty (iq : Nat) (hiq : iq < 96) (T : TV) (x1 : Int) (res : TV) (h : f_Tr_makeListEmpty T x1 = some res) : ((tCor T) iq) = ((tCor (res)) iq) := by
  unfold f_Tr_makeListEmpty at h
  obtain ⟨T_1, e_2, h⟩ := bd1_e h
  obtain rfl := Option.some.inj h
  exact (show ((tCor T) iq) = ((tCor T) iq) from by omega)
theorem sc_Tr_releaseNodes_L3 (iq : Nat) (hiq : iq < 96) (res : TV) (k : Int → TV → Option (TV)) (hkm : ∀ (x1 : Int) (T : TV) , k x1 T = some res → ((tCor T) iq) = ((tCor (res)) iq)) : ∀ (n : Nat) (x1 : Int) (T : TV) , f_Tr_releaseNodes_L3 k n x1 T = some res → ((tCor T) iq) = ((tCor (res)) iq) := by
  intro n
  induction n with
  | zero => intro x1 T h; cases h
  | succ n ihm =>
    intro x1 T h
    rw [f_Tr_releaseNodes_L3] at h
    obtain ⟨g_1, h⟩ := gd_e h
    rcases it_e h with ⟨_, h⟩ | ⟨_, h⟩
    · obtain ⟨T_3, e_4, h⟩ := bd1_e h
      have mo_6 : ((tCor T) iq) = ((tCor T_3) iq) := sc_Tr_release iq hiq T x1 (T_3) e_4
      have mo9 : ((tCor T_3) iq) = ((tCor (res)) iq) := ihm ((x1 + 1)) (T_3) h
      exact (show ((tCor T) iq) = ((tCor (res)) iq) from by omega)
    · have mo9 : ((tCor T) iq) = ((tCor (res)) iq) := hkm (x1) (T) h
      exact (show ((tCor T) iq) = ((tCor (res)) iq) from by omega)
theorem sc_Tr_releaseNodes (iq : Nat) (hiq : iq < 96) (T : TV) (res : TV) (h : f_Tr_releaseNodes T = some res) : ((tCor T) iq) = ((tCor (res)) iq) := by
  unfold f_Tr_releaseNodes at h
  have mo9 : ((tCor T) iq) = ((tCor (res)) iq) := sc_Tr_releaseNodes_L3 iq hiq  _ _ (fun x1_7 T_8 h => by
      obtain rfl := Option.some.inj h
      exact (show ((tCor T_8) iq) = ((tCor T_8) iq) from by omega)) _ (24) (T) h
  exact (show ((tCor T) iq) = ((tCor (res)) iq) from by omega)
theorem sc_Tr_refreshUp_L42 (iq : Nat) (hiq : iq < 96) (T : TV) (x2 : Int) (x8 : Int) (res : TV) (k : Int → Int → Int → Int → Int → Option (TV)) (hkm : ∀ (x4 : Int) (x5 : Int) (x6 : Int) (x7 : Int) (x9 : Int) , k x4 x5 x6 x7 x9 = some res → ((tCor T) iq) = ((tCor (res)) iq)) : ∀ (n : Nat) (x4 : Int) (x5 : Int) (x6 : Int) (x7 : Int) (x9 : Int) , f_Tr_refreshUp_L42 T x2 x8 k n x4 x5 x6 x7 x9 = some res → ((tCor T) iq) = ((tCor (res)) iq) := by
  intro n
  induction n with
  | zero => intro x4 x5 x6 x7 x9 h; cases h
  | succ n ihm =>
    intro x4 x5 x6 x7 x9 h
    rw [f_Tr_refreshUp_L42] at h
    obtain ⟨g_11, h⟩ := gd_e h
    obtain ⟨g_12, h⟩ := gd_e h
    rcases it_e h with ⟨_, h⟩ | ⟨_, h⟩
    · obtain ⟨r_14, e_15, h⟩ := bd1_e h
      obtain ⟨r_17, e_18, h⟩ := bd1_e h
      obtain ⟨g_20, h⟩ := gd_e h
      obtain ⟨g_21, h⟩ := gd_e h
      obtain ⟨r_23, e_24, h⟩ := bd1_e h
      obtain ⟨g_26, h⟩ := gd_e h
      obtain ⟨g_27, h⟩ := gd_e h
      obtain ⟨r_29, e_30, h⟩ := bd1_e h
      obtain ⟨g_32, h⟩ := gd_e h
      obtain ⟨g_33, h⟩ := gd_e h
      obtain ⟨r_35, e_36, h⟩ := bd1_e h
      obtain ⟨g_38, h⟩ := gd_e h
      obtain ⟨g_39, h⟩ := gd_e h
      have mo9 : ((tCor T) iq) = ((tCor (res)) iq) := ihm ((min x4 r_17)) ((min x5 r_23)) ((max x6 r_29)) ((max x7 r_35)) ((x9 + 1)) h
      exact (show ((tCor T) iq) = ((tCor (res)) iq) from by omega)
    · have mo9 : ((tCor T) iq) = ((tCor (res)) iq) := hkm (x4) (x5) (x6) (x7) (x9) h
      exact (show ((tCor T) iq) = ((tCor (res)) iq) from by omega)
theorem sc_Tr_refreshUp_L4 (iq : Nat) (hiq : iq < 96) (res : TV) (k : Int → Int → TV → Option (TV)) (hkm : ∀ (x2 : Int) (x3 : Int) (T : TV) , k x2 x3 T = some res → ((tCor T) iq) = ((tCor (res)) iq)) : ∀ (n : Nat) (x2 : Int) (x3 : Int) (T : TV) , f_Tr_refreshUp_L4 k n x2 x3 T = some res → ((tCor T) iq) = ((tCor (res)) iq) := by
  intro n
  induction n with
  | zero => intro x2 x3 T h; cases h
  | succ n ihm =>
    intro x2 x3 T h
    rw [f_Tr_refreshUp_L4] at h
    obtain ⟨r_1, e_2, h⟩ := bd1_e h
    obtain ⟨g_4, h⟩ := gd_e h
    rcases it_e h with ⟨hz0, h⟩ | ⟨hz0, h⟩
    · have mo9 : ((tCor T) iq) = ((tCor (res)) iq) := hkm (x2) (x3) (T) h
      exact (show ((tCor T) iq) = ((tCor (res)) iq) from by omega)
    · obtain ⟨g_6, h⟩ := gd_e h
      rcases it_e h with ⟨_, h⟩ | ⟨_, h⟩
      · obtain ⟨r_8, e_9, h⟩ := bd1_e h
        have mo9 : ((tCor T) iq) = ((tCor (res)) iq) := sc_Tr_refreshUp_L42 iq hiq (T) (x2) (r_8) _ _ (fun x4_41 x5_42 x6_43 x7_44 x9_45 h => by
            obtain ⟨T_46, e_47, h⟩ := bd1_e h
            have mo_49 : ((tCor T) iq) = ((tCor T_46) iq) := sc_setc iq hiq (isn_24 e_2 hz0) T x4_41 x5_42 x6_43 x7_44 (T_46) e_47
            obtain ⟨r_50, e_51, h⟩ := bd1_e h
            have mo9 : ((tCor T_46) iq) = ((tCor (res)) iq) := ihm (r_50) ((x3 + 1)) (T_46) h
            exact (show ((tCor T) iq) = ((tCor (res)) iq) from by omega)) _ (99) (99) (0) (0) (0) h
        exact (show ((tCor T) iq) = ((tCor (res)) iq) from by omega)
      · have mo9 : ((tCor T) iq) = ((tCor (res)) iq) := hkm (x2) (x3) (T) h
        exact (show ((tCor T) iq) = ((tCor (res)) iq) from by omega)
theorem sc_Tr_refreshUp (iq : Nat) (hiq : iq < 96) (T : TV) (x1 : Int) (res : TV) (h : f_Tr_refreshUp T x1 = some res) : ((tCor T) iq) = ((tCor (res)) iq) := by
  unfold f_Tr_refreshUp at h
  have mo9 : ((tCor T) iq) = ((tCor (res)) iq) := sc_Tr_refreshUp_L4 iq hiq  _ _ (fun x2_53 x3_54 T_55 h => by
      obtain rfl := Option.some.inj h
      exact (show ((tCor T_55) iq) = ((tCor T_55) iq) from by omega)) _ (x1) (0) (T) h
  exact (show ((tCor T) iq) = ((tCor (res)) iq) from by omega)
theorem sc_Tr_addAt_L35 (iq : Nat) (hiq : iq < 96) (x2 : Int) (x5 : Int) (res : TV) (k : Int → TV → Option (TV)) (hkm : ∀ (x6 : Int) (T : TV) , k x6 T = some res → ((tCor T) iq) = ((tCor (res)) iq)) : ∀ (n : Nat) (x6 : Int) (T : TV) , f_Tr_addAt_L35 x2 x5 k n x6 T = some res → ((tCor T) iq) = ((tCor (res)) iq) := by
  intro n
  induction n with
  | zero => intro x6 T h; cases h
  | succ n ihm =>
    intro x6 T h
    rw [f_Tr_addAt_L35] at h
    obtain ⟨g_9, h⟩ := gd_e h
    obtain ⟨g_10, h⟩ := gd_e h
    rcases it_e h with ⟨_, h⟩ | ⟨_, h⟩
    · obtain ⟨r_12, e_13, h⟩ := bd1_e h
      obtain ⟨T_15, e_16, h⟩ := bd1_e h
      have mo9 : ((tCor T) iq) = ((tCor (res)) iq) := ihm ((x6 + (-1))) ((sLis T T_15)) h
      exact (show ((tCor T) iq) = ((tCor (res)) iq) from by omega)
    · have mo9 : ((tCor T) iq) = ((tCor (res)) iq) := hkm (x6) (T) h
      exact (show ((tCor T) iq) = ((tCor (res)) iq) from by omega)
theorem sc_Tr_addAt (iq : Nat) (hiq : iq < 96) (T : TV) (x1 : Int) (x2 : Int) (x3 : Int) (res : TV) (h : f_Tr_addAt T x1 x2 x3 = some res) : ((tCor T) iq) = ((tCor (res)) iq) := by
  unfold f_Tr_addAt at h
  obtain ⟨r_1, e_2, h⟩ := bd1_e h
  obtain ⟨g_4, h⟩ := gd_e h
  rcases it_e h with ⟨_, h⟩ | ⟨_, h⟩
  · obtain ⟨g_6, h⟩ := gd_e h
    rcases it_e h with ⟨_, h⟩ | ⟨_, h⟩
    · obtain rfl := Option.some.inj h
      exact (show ((tCor T) iq) = ((tCor T) iq) from by omega)
    · rcases it_e h with ⟨_, h⟩ | ⟨_, h⟩
      · obtain rfl := Option.some.inj h
        exact (show ((tCor T) iq) = ((tCor T) iq) from by omega)
      · have mo9 : ((tCor T) iq) = ((tCor (res)) iq) := sc_Tr_addAt_L35 iq hiq (x2) ((x1 * 6)) _ _ (fun x6_18 T_19 h => by
            obtain ⟨T_20, e_21, h⟩ := bd1_e h
            obtain ⟨T_23, e_24, h⟩ := bd1_e h
            obtain ⟨T_26, e_27, h⟩ := bd1_e h
            obtain ⟨T_29, e_30, h⟩ := bd1_e h
            have mo_32 : ((tCor T_19) iq) = ((tCor T_29) iq) := sc_Tr_refreshUp iq hiq (sLis (sSiz (sHol T_19 T_26) T_23) T_20) x1 (T_29) e_30
            obtain rfl := Option.some.inj h
            exact (show ((tCor T_19) iq) = ((tCor T_29) iq) from by omega)) _ (r_1) (T) h
        exact (show ((tCor T) iq) = ((tCor (res)) iq) from by omega)
  · obtain rfl := Option.some.inj h
    exact (show ((tCor T) iq) = ((tCor T) iq) from by omega)
theorem sc_Tr_addBehind (iq : Nat) (hiq : iq < 96) (T : TV) (x1 : Int) (x2 : Int) (x3 : Int) (res : TV) (h : f_Tr_addBehind T x1 x2 x3 = some res) : ((tCor T) iq) = ((tCor (res)) iq) := by
  unfold f_Tr_addBehind at h
  obtain ⟨r_1, e_2, h⟩ := bd1_e h
  obtain ⟨T_4, e_5, h⟩ := bd1_e h
  have mo_7 : ((tCor T) iq) = ((tCor T_4) iq) := sc_Tr_addAt iq hiq T x1 (r_1 + 1) x3 (T_4) e_5
  obtain rfl := Option.some.inj h
  exact (show ((tCor T) iq) = ((tCor T_4) iq) from by omega)
theorem sc_Tr_takeOut_L37 (iq : Nat) (hiq : iq < 96) (x4 : Int) (x5 : Int) (res : TV) (k : Int → TV → Option (TV)) (hkm : ∀ (x6 : Int) (T : TV) , k x6 T = some res → ((tCor T) iq) = ((tCor (res)) iq)) : ∀ (n : Nat) (x6 : Int) (T : TV) , f_Tr_takeOut_L37 x4 x5 k n x6 T = some res → ((tCor T) iq) = ((tCor (res)) iq) := by
  intro n
  induction n with
  | zero => intro x6 T h; cases h
  | succ n ihm =>
    intro x6 T h
    rw [f_Tr_takeOut_L37] at h
    obtain ⟨g_12, h⟩ := gd_e h
    obtain ⟨g_13, h⟩ := gd_e h
    rcases it_e h with ⟨_, h⟩ | ⟨_, h⟩
    · obtain ⟨r_15, e_16, h⟩ := bd1_e h
      obtain ⟨T_18, e_19, h⟩ := bd1_e h
      have mo9 : ((tCor T) iq) = ((tCor (res)) iq) := ihm ((x6 + 1)) ((sLis T T_18)) h
      exact (show ((tCor T) iq) = ((tCor (res)) iq) from by omega)
    · have mo9 : ((tCor T) iq) = ((tCor (res)) iq) := hkm (x6) (T) h
      exact (show ((tCor T) iq) = ((tCor (res)) iq) from by omega)
theorem sc_Tr_takeOut (iq : Nat) (hiq : iq < 96) (T : TV) (x1 : Int) (res : TV) (h : f_Tr_takeOut T x1 = some res) : ((tCor T) iq) = ((tCor (res)) iq) := by
  unfold f_Tr_takeOut at h
  obtain ⟨r_1, e_2, h⟩ := bd1_e h
  obtain ⟨r_4, e_5, h⟩ := bd1_e h
  obtain ⟨g_7, h⟩ := gd_e h
  rcases it_e h with ⟨_, h⟩ | ⟨_, h⟩
  · obtain rfl := Option.some.inj h
    exact (show ((tCor T) iq) = ((tCor T) iq) from by omega)
  · obtain ⟨r_9, e_10, h⟩ := bd1_e h
    have mo9 : ((tCor T) iq) = ((tCor (res)) iq) := sc_Tr_takeOut_L37 iq hiq ((r_1 * 6)) ((r_9 - 1)) _ _ (fun x6_21 T_22 h => by
        obtain ⟨T_23, e_24, h⟩ := bd1_e h
        obtain ⟨T_26, e_27, h⟩ := bd1_e h
        obtain ⟨T_29, e_30, h⟩ := bd1_e h
        have mo_32 : ((tCor T_22) iq) = ((tCor T_29) iq) := sc_Tr_refreshUp iq hiq (sSiz (sHol T_22 T_26) T_23) r_1 (T_29) e_30
        obtain rfl := Option.some.inj h
        exact (show ((tCor T_22) iq) = ((tCor T_29) iq) from by omega)) _ (r_4) (T) h
    exact (show ((tCor T) iq) = ((tCor (res)) iq) from by omega)
theorem sc_Tr_lowerRoot_L2 (iq : Nat) (hiq : iq < 96) (res : TV) (k : Int → TV → Option (TV)) (hkm : ∀ (x1 : Int) (T : TV) , k x1 T = some res → ((tCor T) iq) = ((tCor (res)) iq)) : ∀ (n : Nat) (x1 : Int) (T : TV) , f_Tr_lowerRoot_L2 k n x1 T = some res → ((tCor T) iq) = ((tCor (res)) iq) := by
  intro n
  induction n with
  | zero => intro x1 T h; cases h
  | succ n ihm =>
    intro x1 T h
    rw [f_Tr_lowerRoot_L2] at h
    obtain ⟨r_1, e_2, h⟩ := bd1_e h
    obtain ⟨g_4, h⟩ := gd_e h
    rcases it_e h with ⟨_, h⟩ | ⟨_, h⟩
    · obtain ⟨r_6, e_7, h⟩ := bd1_e h
      obtain ⟨g_9, h⟩ := gd_e h
      rcases it_e h with ⟨_, h⟩ | ⟨_, h⟩
      · obtain ⟨g_11, h⟩ := gd_e h
        rcases it_e h with ⟨_, h⟩ | ⟨_, h⟩
        · obtain ⟨r_13, e_14, h⟩ := bd1_e h
          obtain ⟨T_16, e_17, h⟩ := bd1_e h
          have mo_19 : ((tCor T) iq) = ((tCor T_16) iq) := sc_Tr_release iq hiq T (tRoot T) (T_16) e_17
          obtain ⟨T_20, e_21, h⟩ := bd1_e h
          have mo_23 : ((tCor T_16) iq) = ((tCor T_20) iq) := sc_Tr_setLoose iq hiq T_16 r_13 (T_20) e_21
          have mo9 : ((tCor T_20) iq) = ((tCor (res)) iq) := ihm ((x1 + 1)) ((sRoot T_20 r_13)) h
          exact (show ((tCor T) iq) = ((tCor (res)) iq) from by omega)
        · have mo9 : ((tCor T) iq) = ((tCor (res)) iq) := hkm (x1) (T) h
          exact (show ((tCor T) iq) = ((tCor (res)) iq) from by omega)
      · have mo9 : ((tCor T) iq) = ((tCor (res)) iq) := hkm (x1) (T) h
        exact (show ((tCor T) iq) = ((tCor (res)) iq) from by omega)
    · have mo9 : ((tCor T) iq) = ((tCor (res)) iq) := hkm (x1) (T) h
      exact (show ((tCor T) iq) = ((tCor (res)) iq) from by omega)
theorem sc_Tr_lowerRoot (iq : Nat) (hiq : iq < 96) (T : TV) (res : TV) (h : f_Tr_lowerRoot T = some res) : ((tCor T) iq) = ((tCor (res)) iq) := by
  unfold f_Tr_lowerRoot at h
  have mo9 : ((tCor T) iq) = ((tCor (res)) iq) := sc_Tr_lowerRoot_L2 iq hiq  _ _ (fun x1_24 T_25 h => by
      obtain ⟨r_26, e_27, h⟩ := bd1_e h
      obtain ⟨g_29, h⟩ := gd_e h
      rcases it_e h with ⟨_, h⟩ | ⟨_, h⟩
      · obtain ⟨r_31, e_32, h⟩ := bd1_e h
        obtain ⟨g_34, h⟩ := gd_e h
        rcases it_e h with ⟨_, h⟩ | ⟨_, h⟩
        · obtain ⟨T_36, e_37, h⟩ := bd1_e h
          obtain rfl := Option.some.inj h
          exact (show ((tCor T_25) iq) = ((tCor T_25) iq) from by omega)
        · obtain rfl := Option.some.inj h
          exact (show ((tCor T_25) iq) = ((tCor T_25) iq) from by omega)
      · obtain rfl := Option.some.inj h
        exact (show ((tCor T_25) iq) = ((tCor T_25) iq) from by omega)) _ (0) (T) h
  exact (show ((tCor T) iq) = ((tCor (res)) iq) from by omega)
theorem sc_Ch_reinsertFarthest (iq : Nat) (hiq : iq < 96) (c_treated : Int64) (T : TV) (x1 : Int) (res : Int × Int64 × TV) (h : f_Ch_reinsertFarthest c_treated T x1 = some res) : ((tCor T) iq) = ((tCor (res.2.2)) iq) := by
  unfold f_Ch_reinsertFarthest at h
  obtain ⟨r_1, e_2, h⟩ := bd1_e h
  obtain ⟨r_4, e_5, h⟩ := bd1_e h
  obtain ⟨T_7, e_8, h⟩ := bd1_e h
  have mo_10 : ((tCor T) iq) = ((tCor T_7) iq) := sc_Tr_takeOut iq hiq (sRec T ((tRec T) + 1)) r_4 (T_7) e_8
  obtain ⟨r_11, e_12, h⟩ := bd1_e h
  obtain ⟨r_14, e_15, h⟩ := bd1_e h
  obtain ⟨T_17, e_18, h⟩ := bd1_e h
  have mo_20 : ((tCor T_7) iq) = ((tCor T_17) iq) := sc_Tr_addAt iq hiq T_7 r_11 r_14 r_4 (T_17) e_18
  obtain rfl := Option.some.inj h
  exact (show ((tCor T) iq) = ((tCor T_17) iq) from by omega)
theorem sc_Ch_giveTo_L40 (iq : Nat) (hiq : iq < 96) (c_left : Int) (T : TV) (res : (Nat → Int) × Int × TV) (k : Int → (Nat → Int) → Option ((Nat → Int) × Int × TV)) (hkm : ∀ (x3 : Int) (c_pool : Nat → Int) , k x3 c_pool = some res → ((tCor T) iq) = ((tCor (res.2.2)) iq)) : ∀ (n : Nat) (x3 : Int) (c_pool : Nat → Int) , f_Ch_giveTo_L40 c_left k n x3 c_pool = some res → ((tCor T) iq) = ((tCor (res.2.2)) iq) := by
  intro n
  induction n with
  | zero => intro x3 c_pool h; cases h
  | succ n ihm =>
    intro x3 c_pool h
    rw [f_Ch_giveTo_L40] at h
    obtain ⟨g_13, h⟩ := gd_e h
    obtain ⟨g_14, h⟩ := gd_e h
    rcases it_e h with ⟨_, h⟩ | ⟨_, h⟩
    · obtain ⟨r_16, e_17, h⟩ := bd1_e h
      obtain ⟨c_pool_19, e_20, h⟩ := bd1_e h
      have mo9 : ((tCor T) iq) = ((tCor (res.2.2)) iq) := ihm ((x3 + 1)) (c_pool_19) h
      exact (show ((tCor T) iq) = ((tCor (res.2.2)) iq) from by omega)
    · have mo9 : ((tCor T) iq) = ((tCor (res.2.2)) iq) := hkm (x3) (c_pool) h
      exact (show ((tCor T) iq) = ((tCor (res.2.2)) iq) from by omega)
theorem sc_Ch_giveTo (iq : Nat) (hiq : iq < 96) (c_pool : Nat → Int) (c_left : Int) (T : TV) (x1 : Int) (x2 : Int) (res : (Nat → Int) × Int × TV) (h : f_Ch_giveTo c_pool c_left T x1 x2 = some res) : ((tCor T) iq) = ((tCor (res.2.2)) iq) := by
  unfold f_Ch_giveTo at h
  obtain ⟨r_1, e_2, h⟩ := bd1_e h
  obtain ⟨r_4, e_5, h⟩ := bd1_e h
  obtain ⟨T_7, e_8, h⟩ := bd1_e h
  have mo_10 : ((tCor T) iq) = ((tCor T_7) iq) := sc_Tr_addAt iq hiq T x1 r_1 r_4 (T_7) e_8
  obtain ⟨g_11, h⟩ := gd_e h
  have mo9 : ((tCor T_7) iq) = ((tCor (res.2.2)) iq) := sc_Ch_giveTo_L40 iq hiq ((c_left - 1)) (T_7) _ _ (fun x3_22 c_pool_23 h => by
      obtain rfl := Option.some.inj h
      exact (show ((tCor T_7) iq) = ((tCor T_7) iq) from by omega)) _ ((max x2 0)) (c_pool) h
  exact (show ((tCor T) iq) = ((tCor (res.2.2)) iq) from by omega)
theorem sc_Ch_giveAllTo_L2 (iq : Nat) (hiq : iq < 96) (c_pool : Nat → Int) (c_left : Int) (x1 : Int) (res : Int × TV) (k : Int → TV → Option (Int × TV)) (hkm : ∀ (x2 : Int) (T : TV) , k x2 T = some res → ((tCor T) iq) = ((tCor (res.2)) iq)) : ∀ (n : Nat) (x2 : Int) (T : TV) , f_Ch_giveAllTo_L2 c_pool c_left x1 k n x2 T = some res → ((tCor T) iq) = ((tCor (res.2)) iq) := by
  intro n
  induction n with
  | zero => intro x2 T h; cases h
  | succ n ihm =>
    intro x2 T h
    rw [f_Ch_giveAllTo_L2] at h
    obtain ⟨g_1, h⟩ := gd_e h
    obtain ⟨g_2, h⟩ := gd_e h
    rcases it_e h with ⟨_, h⟩ | ⟨_, h⟩
    · obtain ⟨r_4, e_5, h⟩ := bd1_e h
      obtain ⟨r_7, e_8, h⟩ := bd1_e h
      obtain ⟨T_10, e_11, h⟩ := bd1_e h
      have mo_13 : ((tCor T) iq) = ((tCor T_10) iq) := sc_Tr_addAt iq hiq T x1 r_4 r_7 (T_10) e_11
      have mo9 : ((tCor T_10) iq) = ((tCor (res.2)) iq) := ihm ((x2 + 1)) (T_10) h
      exact (show ((tCor T) iq) = ((tCor (res.2)) iq) from by omega)
    · have mo9 : ((tCor T) iq) = ((tCor (res.2)) iq) := hkm (x2) (T) h
      exact (show ((tCor T) iq) = ((tCor (res.2)) iq) from by omega)
theorem sc_Ch_giveAllTo (iq : Nat) (hiq : iq < 96) (c_pool : Nat → Int) (c_left : Int) (T : TV) (x1 : Int) (res : Int × TV) (h : f_Ch_giveAllTo c_pool c_left T x1 = some res) : ((tCor T) iq) = ((tCor (res.2)) iq) := by
  unfold f_Ch_giveAllTo at h
  have mo9 : ((tCor T) iq) = ((tCor (res.2)) iq) := sc_Ch_giveAllTo_L2 iq hiq (c_pool) (c_left) (x1) _ _ (fun x2_14 T_15 h => by
      obtain rfl := Option.some.inj h
      exact (show ((tCor T_15) iq) = ((tCor T_15) iq) from by omega)) _ (0) (T) h
  exact (show ((tCor T) iq) = ((tCor (res.2)) iq) from by omega)
theorem sc_Ch_keepEntriesOf_L19 (iq : Nat) (hiq : iq < 96) (x1 : Int) (x2 : Int) (res : (Nat → Int) × Int × TV) (k : Int → (Nat → Int) → Int → TV → Option ((Nat → Int) × Int × TV)) (hkm : ∀ (x3 : Int) (c_kept : Nat → Int) (c_keptCount : Int) (T : TV) , k x3 c_kept c_keptCount T = some res → ((tCor T) iq) = ((tCor (res.2.2)) iq)) : ∀ (n : Nat) (x3 : Int) (c_kept : Nat → Int) (c_keptCount : Int) (T : TV) , f_Ch_keepEntriesOf_L19 x1 x2 k n x3 c_kept c_keptCount T = some res → ((tCor T) iq) = ((tCor (res.2.2)) iq) := by
  intro n
  induction n with
  | zero => intro x3 c_kept c_keptCount T h; cases h
  | succ n ihm =>
    intro x3 c_kept c_keptCount T h
    rw [f_Ch_keepEntriesOf_L19] at h
    obtain ⟨g_8, h⟩ := gd_e h
    obtain ⟨g_9, h⟩ := gd_e h
    rcases it_e h with ⟨_, h⟩ | ⟨_, h⟩
    · obtain ⟨r_11, e_12, h⟩ := bd1_e h
      obtain ⟨T_14, e_15, h⟩ := bd1_e h
      have mo_17 : ((tCor T) iq) = ((tCor T_14) iq) := sc_Tr_setLoose iq hiq T r_11 (T_14) e_15
      obtain ⟨c_kept_18, e_19, h⟩ := bd1_e h
      have mo9 : ((tCor T_14) iq) = ((tCor (res.2.2)) iq) := ihm ((x3 + 1)) (c_kept_18) ((c_keptCount + 1)) (T_14) h
      exact (show ((tCor T) iq) = ((tCor (res.2.2)) iq) from by omega)
    · have mo9 : ((tCor T) iq) = ((tCor (res.2.2)) iq) := hkm (x3) (c_kept) (c_keptCount) (T) h
      exact (show ((tCor T) iq) = ((tCor (res.2.2)) iq) from by omega)
theorem sc_Ch_keepEntriesOf (iq : Nat) (hiq : iq < 96) (c_kept : Nat → Int) (c_keptCount : Int) (T : TV) (x1 : Int) (res : (Nat → Int) × Int × TV) (h : f_Ch_keepEntriesOf c_kept c_keptCount T x1 = some res) : ((tCor T) iq) = ((tCor (res.2.2)) iq) := by
  unfold f_Ch_keepEntriesOf at h
  obtain ⟨T_1, e_2, h⟩ := bd1_e h
  have mo_4 : ((tCor T) iq) = ((tCor T_1) iq) := sc_Tr_takeOut iq hiq T x1 (T_1) e_2
  obtain ⟨r_5, e_6, h⟩ := bd1_e h
  have mo9 : ((tCor T_1) iq) = ((tCor (res.2.2)) iq) := sc_Ch_keepEntriesOf_L19 iq hiq (x1) (r_5) _ _ (fun x3_21 c_kept_22 c_keptCount_23 T_24 h => by
      obtain ⟨T_25, e_26, h⟩ := bd1_e h
      have mo_28 : ((tCor T_24) iq) = ((tCor T_25) iq) := sc_Tr_release iq hiq T_24 x1 (T_25) e_26
      obtain rfl := Option.some.inj h
      exact (show ((tCor T_24) iq) = ((tCor T_25) iq) from by omega)) _ (0) (c_kept) (c_keptCount) (T_1) h
  exact (show ((tCor T) iq) = ((tCor (res.2.2)) iq) from by omega)
theorem sc_Ch_takeOutBox_L32 (iq : Nat) (hiq : iq < 96) (res : (Nat → Int) × Int × TV) (k : Int → Int → (Nat → Int) → Int → TV → Option ((Nat → Int) × Int × TV)) (hkm : ∀ (x2 : Int) (x3 : Int) (c_kept : Nat → Int) (c_keptCount : Int) (T : TV) , k x2 x3 c_kept c_keptCount T = some res → ((tCor T) iq) = ((tCor (res.2.2)) iq)) : ∀ (n : Nat) (x2 : Int) (x3 : Int) (c_kept : Nat → Int) (c_keptCount : Int) (T : TV) , f_Ch_takeOutBox_L32 k n x2 x3 c_kept c_keptCount T = some res → ((tCor T) iq) = ((tCor (res.2.2)) iq) := by
  intro n
  induction n with
  | zero => intro x2 x3 c_kept c_keptCount T h; cases h
  | succ n ihm =>
    intro x2 x3 c_kept c_keptCount T h
    rw [f_Ch_takeOutBox_L32] at h
    obtain ⟨r_12, e_13, h⟩ := bd1_e h
    obtain ⟨g_15, h⟩ := gd_e h
    rcases it_e h with ⟨_, h⟩ | ⟨_, h⟩
    · have mo9 : ((tCor T) iq) = ((tCor (res.2.2)) iq) := hkm (x2) (x3) (c_kept) (c_keptCount) (T) h
      exact (show ((tCor T) iq) = ((tCor (res.2.2)) iq) from by omega)
    · obtain ⟨g_17, h⟩ := gd_e h
      obtain ⟨g_18, h⟩ := gd_e h
      rcases it_e h with ⟨_, h⟩ | ⟨_, h⟩
      · have mo9 : ((tCor T) iq) = ((tCor (res.2.2)) iq) := hkm (x2) (x3) (c_kept) (c_keptCount) (T) h
        exact (show ((tCor T) iq) = ((tCor (res.2.2)) iq) from by omega)
      · obtain ⟨g_20, h⟩ := gd_e h
        rcases it_e h with ⟨_, h⟩ | ⟨_, h⟩
        · obtain ⟨r_22, e_23, h⟩ := bd1_e h
          obtain ⟨r_25, e_26, h⟩ := bd1_e h
          obtain ⟨r_28, e_29, h⟩ := bd1_e h
          obtain ⟨g_31, h⟩ := gd_e h
          obtain ⟨g_32, h⟩ := gd_e h
          rcases it_e h with ⟨_, h⟩ | ⟨_, h⟩
          · obtain ⟨c_kept_34, c_keptCount_35, T_36, e_37, h⟩ := bd3_e h
            have mo_39 : ((tCor T) iq) = ((tCor T_36) iq) := sc_Ch_keepEntriesOf iq hiq c_kept c_keptCount T x2 (c_kept_34, c_keptCount_35, T_36) e_37
            have mo9 : ((tCor T_36) iq) = ((tCor (res.2.2)) iq) := ihm (r_22) ((x3 + 1)) (c_kept_34) (c_keptCount_35) (T_36) h
            exact (show ((tCor T) iq) = ((tCor (res.2.2)) iq) from by omega)
          · have mo9 : ((tCor T) iq) = ((tCor (res.2.2)) iq) := ihm (r_22) ((x3 + 1)) (c_kept) (c_keptCount) (T) h
            exact (show ((tCor T) iq) = ((tCor (res.2.2)) iq) from by omega)
        · have mo9 : ((tCor T) iq) = ((tCor (res.2.2)) iq) := hkm (x2) (x3) (c_kept) (c_keptCount) (T) h
          exact (show ((tCor T) iq) = ((tCor (res.2.2)) iq) from by omega)
theorem sc_Ch_takeOutBox (iq : Nat) (hiq : iq < 96) (c_kept : Nat → Int) (T : TV) (x1 : Int) (res : (Nat → Int) × Int × TV) (h : f_Ch_takeOutBox c_kept T x1 = some res) : ((tCor T) iq) = ((tCor (res.2.2)) iq) := by
  unfold f_Ch_takeOutBox at h
  obtain ⟨r_1, e_2, h⟩ := bd1_e h
  obtain ⟨T_4, e_5, h⟩ := bd1_e h
  have mo_7 : ((tCor T) iq) = ((tCor T_4) iq) := sc_Tr_takeOut iq hiq T x1 (T_4) e_5
  obtain ⟨T_8, e_9, h⟩ := bd1_e h
  have mo_11 : ((tCor T_4) iq) = ((tCor T_8) iq) := sc_Tr_release iq hiq T_4 x1 (T_8) e_9
  have mo9 : ((tCor T_8) iq) = ((tCor (res.2.2)) iq) := sc_Ch_takeOutBox_L32 iq hiq  _ _ (fun x2_40 x3_41 c_kept_42 c_keptCount_43 T_44 h => by
      obtain ⟨T_45, e_46, h⟩ := bd1_e h
      have mo_48 : ((tCor T_44) iq) = ((tCor T_45) iq) := sc_Tr_lowerRoot iq hiq T_44 (T_45) e_46
      obtain rfl := Option.some.inj h
      exact (show ((tCor T_44) iq) = ((tCor T_45) iq) from by omega)) _ (r_1) (0) (c_kept) (0) (T_8) h
  exact (show ((tCor T) iq) = ((tCor (res.2.2)) iq) from by omega)
theorem sc_Tr_newNode (iq : Nat) (hiq : iq < 96) (T : TV) (x1 : Int) (res : Int × TV) (h : f_Tr_newNode T x1 = some res) : ((tCor T) iq) = ((tCor (res.2)) iq) := by
  unfold f_Tr_newNode at h
  obtain ⟨r_1, e_2, h⟩ := bd1_e h
  obtain ⟨g_4, h⟩ := gd_e h
  rcases it_e h with ⟨_, h⟩ | ⟨_, h⟩
  · obtain rfl := Option.some.inj h
    exact (show ((tCor T) iq) = ((tCor T) iq) from by omega)
  · obtain ⟨T_6, e_7, h⟩ := bd1_e h
    have mo_9 : ((tCor T) iq) = ((tCor T_6) iq) := sc_Tr_take iq hiq T r_1 x1 (T_6) e_7
    obtain rfl := Option.some.inj h
    exact (show ((tCor T) iq) = ((tCor T_6) iq) from by omega)
theorem sc_Tr_raiseRoot (iq : Nat) (hiq : iq < 96) (T : TV) (res : Int × TV) (h : f_Tr_raiseRoot T = some res) : ((tCor T) iq) = ((tCor (res.2)) iq) := by
  unfold f_Tr_raiseRoot at h
  obtain ⟨r_1, e_2, h⟩ := bd1_e h
  obtain ⟨r_4, T_5, e_6, h⟩ := bd2_e h
  have mo_8 : ((tCor T) iq) = ((tCor T_5) iq) := sc_Tr_newNode iq hiq T (r_1 + 1) (r_4, T_5) e_6
  obtain ⟨g_9, h⟩ := gd_e h
  rcases it_e h with ⟨_, h⟩ | ⟨_, h⟩
  · obtain rfl := Option.some.inj h
    exact (show ((tCor T) iq) = ((tCor T_5) iq) from by omega)
  · obtain ⟨T_11, e_12, h⟩ := bd1_e h
    have mo_14 : ((tCor T_5) iq) = ((tCor T_11) iq) := sc_Tr_addAt iq hiq (sRoot T_5 r_4) r_4 0 (tRoot T) (T_11) e_12
    obtain rfl := Option.some.inj h
    exact (show ((tCor T) iq) = ((tCor T_11) iq) from by omega)
theorem sc_Ch_splitNode_L113 (iq : Nat) (hiq : iq < 96) (x1 : Int) (x3 : Int) (res : Int × (Nat → Int) × Int × TV) (k : Int → (Nat → Int) → Int → TV → Option (Int × (Nat → Int) × Int × TV)) (hkm : ∀ (x5 : Int) (c_pool : Nat → Int) (c_left : Int) (T : TV) , k x5 c_pool c_left T = some res → ((tCor T) iq) = ((tCor (res.2.2.2)) iq)) : ∀ (n : Nat) (x5 : Int) (c_pool : Nat → Int) (c_left : Int) (T : TV) , f_Ch_splitNode_L113 x1 x3 k n x5 c_pool c_left T = some res → ((tCor T) iq) = ((tCor (res.2.2.2)) iq) := by
  intro n
  induction n with
  | zero => intro x5 c_pool c_left T h; cases h
  | succ n ihm =>
    intro x5 c_pool c_left T h
    rw [f_Ch_splitNode_L113] at h
    obtain ⟨g_44, h⟩ := gd_e h
    rcases it_e h with ⟨_, h⟩ | ⟨_, h⟩
    · obtain ⟨g_46, h⟩ := gd_e h
      rcases it_e h with ⟨_, h⟩ | ⟨_, h⟩
      · obtain ⟨r_48, e_49, h⟩ := bd1_e h
        obtain ⟨r_51, e_52, h⟩ := bd1_e h
        obtain ⟨g_54, h⟩ := gd_e h
        obtain ⟨g_55, h⟩ := gd_e h
        rcases it_e h with ⟨_, h⟩ | ⟨_, h⟩
        · obtain ⟨r_57, e_58, h⟩ := bd1_e h
          obtain ⟨r_60, e_61, h⟩ := bd1_e h
          obtain ⟨g_63, h⟩ := gd_e h
          obtain ⟨g_64, h⟩ := gd_e h
          rcases it_e h with ⟨_, h⟩ | ⟨_, h⟩
          · obtain ⟨r_66, e_67, h⟩ := bd1_e h
            obtain ⟨r_69, e_70, h⟩ := bd1_e h
            obtain ⟨r_72, e_73, h⟩ := bd1_e h
            obtain ⟨c_pool_75, c_left_76, T_77, e_78, h⟩ := bd3_e h
            have mo_80 : ((tCor T) iq) = ((tCor T_77) iq) := sc_Ch_giveTo iq hiq c_pool c_left T r_72 r_66 (c_pool_75, c_left_76, T_77) e_78
            have mo9 : ((tCor T_77) iq) = ((tCor (res.2.2.2)) iq) := ihm ((x5 + 1)) (c_pool_75) (c_left_76) (T_77) h
            exact (show ((tCor T) iq) = ((tCor (res.2.2.2)) iq) from by omega)
          · obtain ⟨c_left_81, T_82, e_83, h⟩ := bd2_e h
            have mo_85 : ((tCor T) iq) = ((tCor T_82) iq) := sc_Ch_giveAllTo iq hiq c_pool c_left T x3 (c_left_81, T_82) e_83
            have mo9 : ((tCor T_82) iq) = ((tCor (res.2.2.2)) iq) := ihm ((x5 + 1)) (c_pool) (c_left_81) (T_82) h
            exact (show ((tCor T) iq) = ((tCor (res.2.2.2)) iq) from by omega)
        · obtain ⟨c_left_86, T_87, e_88, h⟩ := bd2_e h
          have mo_90 : ((tCor T) iq) = ((tCor T_87) iq) := sc_Ch_giveAllTo iq hiq c_pool c_left T x1 (c_left_86, T_87) e_88
          have mo9 : ((tCor T_87) iq) = ((tCor (res.2.2.2)) iq) := ihm ((x5 + 1)) (c_pool) (c_left_86) (T_87) h
          exact (show ((tCor T) iq) = ((tCor (res.2.2.2)) iq) from by omega)
      · have mo9 : ((tCor T) iq) = ((tCor (res.2.2.2)) iq) := hkm (x5) (c_pool) (c_left) (T) h
        exact (show ((tCor T) iq) = ((tCor (res.2.2.2)) iq) from by omega)
    · have mo9 : ((tCor T) iq) = ((tCor (res.2.2.2)) iq) := hkm (x5) (c_pool) (c_left) (T) h
      exact (show ((tCor T) iq) = ((tCor (res.2.2.2)) iq) from by omega)
theorem sc_Ch_splitNode (iq : Nat) (hiq : iq < 96) (c_pool : Nat → Int) (c_left : Int) (T : TV) (x1 : Int) (res : Int × (Nat → Int) × Int × TV) (h : f_Ch_splitNode c_pool c_left T x1 = some res) : ((tCor T) iq) = ((tCor (res.2.2.2)) iq) := by
  unfold f_Ch_splitNode at h
  obtain ⟨g_1, h⟩ := gd_e h
  obtain ⟨g_2, h⟩ := gd_e h
  rcases it_e h with ⟨_, h⟩ | ⟨_, h⟩
  · obtain ⟨r_99, T_100, e_101, h⟩ := bd2_e h
    have mo_103 : ((tCor T) iq) = ((tCor T_100) iq) := sc_Tr_raiseRoot iq hiq T (r_99, T_100) e_101
    obtain ⟨r_104, e_105, h⟩ := bd1_e h
    obtain ⟨r_107, T_108, e_109, h⟩ := bd2_e h
    have mo_111 : ((tCor T_100) iq) = ((tCor T_108) iq) := sc_Tr_newNode iq hiq T_100 r_104 (r_107, T_108) e_109
    obtain ⟨g_112, h⟩ := gd_e h
    rcases it_e h with ⟨_, h⟩ | ⟨_, h⟩
    · obtain rfl := Option.some.inj h
      exact (show ((tCor T) iq) = ((tCor T_108) iq) from by omega)
    · obtain ⟨g_114, h⟩ := gd_e h
      rcases it_e h with ⟨_, h⟩ | ⟨_, h⟩
      · obtain rfl := Option.some.inj h
        exact (show ((tCor T) iq) = ((tCor T_108) iq) from by omega)
      · obtain ⟨c_pool_116, c_left_117, e_118, h⟩ := bd2_e h
        obtain ⟨r_120, e_121, h⟩ := bd1_e h
        obtain ⟨T_123, e_124, h⟩ := bd1_e h
        have mo_126 : ((tCor T_108) iq) = ((tCor T_123) iq) := sc_Tr_makeListEmpty iq hiq (sSpl T_108 ((tSpl T_108) + 1)) x1 (T_123) e_124
        obtain ⟨g_127, h⟩ := gd_e h
        obtain ⟨c_pool_128, c_left_129, T_130, e_131, h⟩ := bd3_e h
        have mo_133 : ((tCor T_123) iq) = ((tCor T_130) iq) := sc_Ch_giveTo iq hiq c_pool_116 c_left_117 T_123 r_107 (r_120 % 6) (c_pool_128, c_left_129, T_130) e_131
        obtain ⟨g_134, h⟩ := gd_e h
        obtain ⟨c_pool_135, c_left_136, T_137, e_138, h⟩ := bd3_e h
        have mo_140 : ((tCor T_130) iq) = ((tCor T_137) iq) := sc_Ch_giveTo iq hiq c_pool_128 c_left_129 T_130 x1 (r_120 / 6) (c_pool_135, c_left_136, T_137) e_138
        have mo9 : ((tCor T_137) iq) = ((tCor (res.2.2.2)) iq) := sc_Ch_splitNode_L113 iq hiq (x1) (r_107) _ _ (fun x5_141 c_pool_142 c_left_143 T_144 h => by
            obtain ⟨T_145, e_146, h⟩ := bd1_e h
            have mo_148 : ((tCor T_144) iq) = ((tCor T_145) iq) := sc_Tr_addBehind iq hiq T_144 r_99 x1 r_107 (T_145) e_146
            obtain rfl := Option.some.inj h
            exact (show ((tCor T_144) iq) = ((tCor T_145) iq) from by omega)) _ (0) (c_pool_135) (c_left_136) (T_137) h
        exact (show ((tCor T) iq) = ((tCor (res.2.2.2)) iq) from by omega)
  · obtain ⟨r_4, e_5, h⟩ := bd1_e h
    obtain ⟨r_7, e_8, h⟩ := bd1_e h
    obtain ⟨r_10, T_11, e_12, h⟩ := bd2_e h
    have mo_14 : ((tCor T) iq) = ((tCor T_11) iq) := sc_Tr_newNode iq hiq T r_7 (r_10, T_11) e_12
    obtain ⟨g_15, h⟩ := gd_e h
    rcases it_e h with ⟨_, h⟩ | ⟨_, h⟩
    · obtain rfl := Option.some.inj h
      exact (show ((tCor T) iq) = ((tCor T_11) iq) from by omega)
    · obtain ⟨g_17, h⟩ := gd_e h
      rcases it_e h with ⟨_, h⟩ | ⟨_, h⟩
      · obtain rfl := Option.some.inj h
        exact (show ((tCor T) iq) = ((tCor T_11) iq) from by omega)
      · obtain ⟨c_pool_19, c_left_20, e_21, h⟩ := bd2_e h
        obtain ⟨r_23, e_24, h⟩ := bd1_e h
        obtain ⟨T_26, e_27, h⟩ := bd1_e h
        have mo_29 : ((tCor T_11) iq) = ((tCor T_26) iq) := sc_Tr_makeListEmpty iq hiq (sSpl T_11 ((tSpl T_11) + 1)) x1 (T_26) e_27
        obtain ⟨g_30, h⟩ := gd_e h
        obtain ⟨c_pool_31, c_left_32, T_33, e_34, h⟩ := bd3_e h
        have mo_36 : ((tCor T_26) iq) = ((tCor T_33) iq) := sc_Ch_giveTo iq hiq c_pool_19 c_left_20 T_26 r_10 (r_23 % 6) (c_pool_31, c_left_32, T_33) e_34
        obtain ⟨g_37, h⟩ := gd_e h
        obtain ⟨c_pool_38, c_left_39, T_40, e_41, h⟩ := bd3_e h
        have mo_43 : ((tCor T_33) iq) = ((tCor T_40) iq) := sc_Ch_giveTo iq hiq c_pool_31 c_left_32 T_33 x1 (r_23 / 6) (c_pool_38, c_left_39, T_40) e_41
        have mo9 : ((tCor T_40) iq) = ((tCor (res.2.2.2)) iq) := sc_Ch_splitNode_L113 iq hiq (x1) (r_10) _ _ (fun x5_91 c_pool_92 c_left_93 T_94 h => by
            obtain ⟨T_95, e_96, h⟩ := bd1_e h
            have mo_98 : ((tCor T_94) iq) = ((tCor T_95) iq) := sc_Tr_addBehind iq hiq T_94 r_4 x1 r_10 (T_95) e_96
            obtain rfl := Option.some.inj h
            exact (show ((tCor T_94) iq) = ((tCor T_95) iq) from by omega)) _ (0) (c_pool_38) (c_left_39) (T_40) h
        exact (show ((tCor T) iq) = ((tCor (res.2.2.2)) iq) from by omega)
theorem sc_Ch_insertOwn_L30 (iq : Nat) (hiq : iq < 96) (res : (Nat → Int) × Int × Int64 × TV) (k : Int → Int → (Nat → Int) → Int → Int64 → TV → Option ((Nat → Int) × Int × Int64 × TV)) (hkm : ∀ (x2 : Int) (x3 : Int) (c_pool : Nat → Int) (c_left : Int) (c_treated : Int64) (T : TV) , k x2 x3 c_pool c_left c_treated T = some res → ((tCor T) iq) = ((tCor (res.2.2.2)) iq)) : ∀ (n : Nat) (x2 : Int) (x3 : Int) (c_pool : Nat → Int) (c_left : Int) (c_treated : Int64) (T : TV) , f_Ch_insertOwn_L30 k n x2 x3 c_pool c_left c_treated T = some res → ((tCor T) iq) = ((tCor (res.2.2.2)) iq) := by
  intro n
  induction n with
  | zero => intro x2 x3 c_pool c_left c_treated T h; cases h
  | succ n ihm =>
    intro x2 x3 c_pool c_left c_treated T h
    rw [f_Ch_insertOwn_L30] at h
    obtain ⟨r_11, e_12, h⟩ := bd1_e h
    obtain ⟨g_14, h⟩ := gd_e h
    obtain ⟨g_15, h⟩ := gd_e h
    rcases it_e h with ⟨_, h⟩ | ⟨_, h⟩
    · obtain ⟨g_17, h⟩ := gd_e h
      rcases it_e h with ⟨_, h⟩ | ⟨_, h⟩
      · obtain ⟨r_19, e_20, h⟩ := bd1_e h
        obtain ⟨g_22, h⟩ := gd_e h
        rcases it_e h with ⟨_, h⟩ | ⟨_, h⟩
        · obtain ⟨r_24, c_pool_25, c_left_26, T_27, e_28, h⟩ := bd4_e h
          have mo_30 : ((tCor T) iq) = ((tCor T_27) iq) := sc_Ch_splitNode iq hiq c_pool c_left T x2 (r_24, c_pool_25, c_left_26, T_27) e_28
          have mo9 : ((tCor T_27) iq) = ((tCor (res.2.2.2)) iq) := ihm (r_24) ((x3 + 1)) (c_pool_25) (c_left_26) (c_treated) (T_27) h
          exact (show ((tCor T) iq) = ((tCor (res.2.2.2)) iq) from by omega)
        · obtain ⟨r_31, c_treated_32, T_33, e_34, h⟩ := bd3_e h
          have mo_36 : ((tCor T) iq) = ((tCor T_33) iq) := sc_Ch_reinsertFarthest iq hiq c_treated T x2 (r_31, c_treated_32, T_33) e_34
          have mo9 : ((tCor T_33) iq) = ((tCor (res.2.2.2)) iq) := ihm (r_31) ((x3 + 1)) (c_pool) (c_left) (c_treated_32) (T_33) h
          exact (show ((tCor T) iq) = ((tCor (res.2.2.2)) iq) from by omega)
      · have mo9 : ((tCor T) iq) = ((tCor (res.2.2.2)) iq) := hkm (x2) (x3) (c_pool) (c_left) (c_treated) (T) h
        exact (show ((tCor T) iq) = ((tCor (res.2.2.2)) iq) from by omega)
    · have mo9 : ((tCor T) iq) = ((tCor (res.2.2.2)) iq) := hkm (x2) (x3) (c_pool) (c_left) (c_treated) (T) h
      exact (show ((tCor T) iq) = ((tCor (res.2.2.2)) iq) from by omega)
theorem sc_Ch_insertOwn (iq : Nat) (hiq : iq < 96) (c_pool : Nat → Int) (c_left : Int) (T : TV) (x1 : Int) (res : (Nat → Int) × Int × Int64 × TV) (h : f_Ch_insertOwn c_pool c_left T x1 = some res) : ((tCor T) iq) = ((tCor (res.2.2.2)) iq) := by
  unfold f_Ch_insertOwn at h
  obtain ⟨r_1, e_2, h⟩ := bd1_e h
  obtain ⟨r_4, e_5, h⟩ := bd1_e h
  obtain ⟨T_7, e_8, h⟩ := bd1_e h
  have mo_10 : ((tCor T) iq) = ((tCor T_7) iq) := sc_Tr_addAt iq hiq T r_1 r_4 x1 (T_7) e_8
  have mo9 : ((tCor T_7) iq) = ((tCor (res.2.2.2)) iq) := sc_Ch_insertOwn_L30 iq hiq  _ _ (fun x2_37 x3_38 c_pool_39 c_left_40 c_treated_41 T_42 h => by
      obtain rfl := Option.some.inj h
      exact (show ((tCor T_42) iq) = ((tCor T_42) iq) from by omega)) _ (r_1) (0) (c_pool) (c_left) ((0 : Int64)) (T_7) h
  exact (show ((tCor T) iq) = ((tCor (res.2.2.2)) iq) from by omega)
theorem sc_Ch_dissolve_L28 (iq : Nat) (hiq : iq < 96) (LB : KV) (res : TV × KV × KV) (k : Int → TV → Option (TV × KV × KV)) (hkm : ∀ (x2 : Int) (T : TV) , k x2 T = some res → ((tCor T) iq) = ((tCor (res.1)) iq)) : ∀ (n : Nat) (x2 : Int) (T : TV) , f_Ch_dissolve_L28 LB k n x2 T = some res → ((tCor T) iq) = ((tCor (res.1)) iq) := by
  intro n
  induction n with
  | zero => intro x2 T h; cases h
  | succ n ihm =>
    intro x2 T h
    rw [f_Ch_dissolve_L28] at h
    obtain ⟨g_7, h⟩ := gd_e h
    obtain ⟨g_8, h⟩ := gd_e h
    rcases it_e h with ⟨_, h⟩ | ⟨_, h⟩
    · obtain ⟨r_10, e_11, h⟩ := bd1_e h
      obtain ⟨T_13, e_14, h⟩ := bd1_e h
      have mo_16 : ((tCor T) iq) = ((tCor T_13) iq) := sc_Tr_setLoose iq hiq T r_10 (T_13) e_14
      have mo9 : ((tCor T_13) iq) = ((tCor (res.1)) iq) := ihm ((x2 + 1)) (T_13) h
      exact (show ((tCor T) iq) = ((tCor (res.1)) iq) from by omega)
    · have mo9 : ((tCor T) iq) = ((tCor (res.1)) iq) := hkm (x2) (T) h
      exact (show ((tCor T) iq) = ((tCor (res.1)) iq) from by omega)
theorem sc_Ch_dissolve_L65 (iq : Nat) (hiq : iq < 96) (LN : KV) (res : TV × KV × KV) (k : Int → TV → Option (TV × KV × KV)) (hkm : ∀ (x2 : Int) (T : TV) , k x2 T = some res → ((tCor T) iq) = ((tCor (res.1)) iq)) : ∀ (n : Nat) (x2 : Int) (T : TV) , f_Ch_dissolve_L65 LN k n x2 T = some res → ((tCor T) iq) = ((tCor (res.1)) iq) := by
  intro n
  induction n with
  | zero => intro x2 T h; cases h
  | succ n ihm =>
    intro x2 T h
    rw [f_Ch_dissolve_L65] at h
    obtain ⟨g_19, h⟩ := gd_e h
    obtain ⟨g_20, h⟩ := gd_e h
    rcases it_e h with ⟨_, h⟩ | ⟨_, h⟩
    · obtain ⟨r_22, e_23, h⟩ := bd1_e h
      obtain ⟨T_25, e_26, h⟩ := bd1_e h
      have mo_28 : ((tCor T) iq) = ((tCor T_25) iq) := sc_Tr_release iq hiq T r_22 (T_25) e_26
      have mo9 : ((tCor T_25) iq) = ((tCor (res.1)) iq) := ihm ((x2 + 1)) (T_25) h
      exact (show ((tCor T) iq) = ((tCor (res.1)) iq) from by omega)
    · have mo9 : ((tCor T) iq) = ((tCor (res.1)) iq) := hkm (x2) (T) h
      exact (show ((tCor T) iq) = ((tCor (res.1)) iq) from by omega)
theorem sc_Ch_dissolve (iq : Nat) (hiq : iq < 96) (T : TV) (LB : KV) (LN : KV) (x1 : Int) (res : TV × KV × KV) (h : f_Ch_dissolve T LB LN x1 = some res) : ((tCor T) iq) = ((tCor (res.1)) iq) := by
  unfold f_Ch_dissolve at h
  obtain ⟨LB_1, e_2, h⟩ := bd1_e h
  obtain ⟨LN_4, e_5, h⟩ := bd1_e h
  have mo9 : ((tCor T) iq) = ((tCor (res.1)) iq) := sc_Ch_dissolve_L28 iq hiq (LB_1) _ _ (fun x2_17 T_18 h => by
      have mo9 : ((tCor T_18) iq) = ((tCor (res.1)) iq) := sc_Ch_dissolve_L65 iq hiq (LN_4) _ _ (fun x2_29 T_30 h => by
          obtain rfl := Option.some.inj h
          exact (show ((tCor T_30) iq) = ((tCor T_30) iq) from by omega)) _ (0) (T_18) h
      exact (show ((tCor T_18) iq) = ((tCor (res.1)) iq) from by omega)) _ (0) (T) h
  exact (show ((tCor T) iq) = ((tCor (res.1)) iq) from by omega)
theorem sc_Ch_putBackKept_L61 (iq : Nat) (hiq : iq < 96) (LB : KV) (res : (Nat → Int) × Int × Int64 × TV × KV × KV) (k : Int → (Nat → Int) → Int → Int64 → TV → Option ((Nat → Int) × Int × Int64 × TV × KV × KV)) (hkm : ∀ (x3 : Int) (c_pool : Nat → Int) (c_left : Int) (c_treated : Int64) (T : TV) , k x3 c_pool c_left c_treated T = some res → ((tCor T) iq) = ((tCor (res.2.2.2.1)) iq)) : ∀ (n : Nat) (x3 : Int) (c_pool : Nat → Int) (c_left : Int) (c_treated : Int64) (T : TV) , f_Ch_putBackKept_L61 LB k n x3 c_pool c_left c_treated T = some res → ((tCor T) iq) = ((tCor (res.2.2.2.1)) iq) := by
  intro n
  induction n with
  | zero => intro x3 c_pool c_left c_treated T h; cases h
  | succ n ihm =>
    intro x3 c_pool c_left c_treated T h
    rw [f_Ch_putBackKept_L61] at h
    obtain ⟨g_22, h⟩ := gd_e h
    obtain ⟨g_23, h⟩ := gd_e h
    rcases it_e h with ⟨_, h⟩ | ⟨_, h⟩
    · obtain ⟨r_25, e_26, h⟩ := bd1_e h
      obtain ⟨c_pool_28, c_left_29, c_treated_30, T_31, e_32, h⟩ := bd4_e h
      have mo_34 : ((tCor T) iq) = ((tCor T_31) iq) := sc_Ch_insertOwn iq hiq c_pool c_left T r_25 (c_pool_28, c_left_29, c_treated_30, T_31) e_32
      have mo9 : ((tCor T_31) iq) = ((tCor (res.2.2.2.1)) iq) := ihm ((x3 + 1)) (c_pool_28) (c_left_29) (c_treated_30) (T_31) h
      exact (show ((tCor T) iq) = ((tCor (res.2.2.2.1)) iq) from by omega)
    · have mo9 : ((tCor T) iq) = ((tCor (res.2.2.2.1)) iq) := hkm (x3) (c_pool) (c_left) (c_treated) (T) h
      exact (show ((tCor T) iq) = ((tCor (res.2.2.2.1)) iq) from by omega)
theorem sc_Ch_putBackKept_L2 (iq : Nat) (hiq : iq < 96) (c_kept : Nat → Int) (c_keptCount : Int) (res : (Nat → Int) × Int × Int64 × TV × KV × KV) (k : Int → (Nat → Int) → Int → Int64 → TV → KV → KV → Option ((Nat → Int) × Int × Int64 × TV × KV × KV)) (hkm : ∀ (x1 : Int) (c_pool : Nat → Int) (c_left : Int) (c_treated : Int64) (T : TV) (LB : KV) (LN : KV) , k x1 c_pool c_left c_treated T LB LN = some res → ((tCor T) iq) = ((tCor (res.2.2.2.1)) iq)) : ∀ (n : Nat) (x1 : Int) (c_pool : Nat → Int) (c_left : Int) (c_treated : Int64) (T : TV) (LB : KV) (LN : KV) , f_Ch_putBackKept_L2 c_kept c_keptCount k n x1 c_pool c_left c_treated T LB LN = some res → ((tCor T) iq) = ((tCor (res.2.2.2.1)) iq) := by
  intro n
  induction n with
  | zero => intro x1 c_pool c_left c_treated T LB LN h; cases h
  | succ n ihm =>
    intro x1 c_pool c_left c_treated T LB LN h
    rw [f_Ch_putBackKept_L2] at h
    obtain ⟨g_1, h⟩ := gd_e h
    obtain ⟨g_2, h⟩ := gd_e h
    rcases it_e h with ⟨_, h⟩ | ⟨_, h⟩
    · obtain ⟨r_4, e_5, h⟩ := bd1_e h
      obtain ⟨r_7, e_8, h⟩ := bd1_e h
      obtain ⟨r_10, e_11, h⟩ := bd1_e h
      obtain ⟨g_13, h⟩ := gd_e h
      obtain ⟨g_14, h⟩ := gd_e h
      rcases it_e h with ⟨_, h⟩ | ⟨_, h⟩
      · obtain ⟨T_16, LB_17, LN_18, e_19, h⟩ := bd3_e h
        have mo_21 : ((tCor T) iq) = ((tCor T_16) iq) := sc_Ch_dissolve iq hiq T LB LN r_4 (T_16, LB_17, LN_18) e_19
        have mo9 : ((tCor T_16) iq) = ((tCor (res.2.2.2.1)) iq) := sc_Ch_putBackKept_L61 iq hiq (LB_17) _ _ (fun x3_35 c_pool_36 c_left_37 c_treated_38 T_39 h => by
            have mo9 : ((tCor T_39) iq) = ((tCor (res.2.2.2.1)) iq) := ihm ((x1 + 1)) (c_pool_36) (c_left_37) (c_treated_38) (T_39) (LB_17) (LN_18) h
            exact (show ((tCor T_39) iq) = ((tCor (res.2.2.2.1)) iq) from by omega)) _ (0) (c_pool) (c_left) (c_treated) (T_16) h
        exact (show ((tCor T) iq) = ((tCor (res.2.2.2.1)) iq) from by omega)
      · obtain ⟨c_pool_40, c_left_41, c_treated_42, T_43, e_44, h⟩ := bd4_e h
        have mo_46 : ((tCor T) iq) = ((tCor T_43) iq) := sc_Ch_insertOwn iq hiq c_pool c_left T r_4 (c_pool_40, c_left_41, c_treated_42, T_43) e_44
        have mo9 : ((tCor T_43) iq) = ((tCor (res.2.2.2.1)) iq) := ihm ((x1 + 1)) (c_pool_40) (c_left_41) (c_treated_42) (T_43) (LB) (LN) h
        exact (show ((tCor T) iq) = ((tCor (res.2.2.2.1)) iq) from by omega)
    · have mo9 : ((tCor T) iq) = ((tCor (res.2.2.2.1)) iq) := hkm (x1) (c_pool) (c_left) (c_treated) (T) (LB) (LN) h
      exact (show ((tCor T) iq) = ((tCor (res.2.2.2.1)) iq) from by omega)
theorem sc_Ch_putBackKept (iq : Nat) (hiq : iq < 96) (c_kept : Nat → Int) (c_keptCount : Int) (c_pool : Nat → Int) (c_left : Int) (c_treated : Int64) (T : TV) (LB : KV) (LN : KV) (res : (Nat → Int) × Int × Int64 × TV × KV × KV) (h : f_Ch_putBackKept c_kept c_keptCount c_pool c_left c_treated T LB LN = some res) : ((tCor T) iq) = ((tCor (res.2.2.2.1)) iq) := by
  unfold f_Ch_putBackKept at h
  have mo9 : ((tCor T) iq) = ((tCor (res.2.2.2.1)) iq) := sc_Ch_putBackKept_L2 iq hiq (c_kept) (c_keptCount) _ _ (fun x1_47 c_pool_48 c_left_49 c_treated_50 T_51 LB_52 LN_53 h => by
      obtain rfl := Option.some.inj h
      exact (show ((tCor T_51) iq) = ((tCor T_51) iq) from by omega)) _ (0) (c_pool) (c_left) (c_treated) (T) (LB) (LN) h
  exact (show ((tCor T) iq) = ((tCor (res.2.2.2.1)) iq) from by omega)
theorem sc_Pk_groupRow_L8 (iq : Nat) (hiq : iq < 96) (x1 : Int) (x2 : Int) (res : Int × (Nat → Int) × TV) (k : Int → Int → Int → (Nat → Int) → TV → Option (Int × (Nat → Int) × TV)) (hkm : ∀ (x3 : Int) (x4 : Int) (x5 : Int) (c_row : Nat → Int) (T : TV) , k x3 x4 x5 c_row T = some res → ((tCor T) iq) = ((tCor (res.2.2)) iq)) : ∀ (n : Nat) (x3 : Int) (x4 : Int) (x5 : Int) (c_row : Nat → Int) (T : TV) , f_Pk_groupRow_L8 x1 x2 k n x3 x4 x5 c_row T = some res → ((tCor T) iq) = ((tCor (res.2.2)) iq) := by
  intro n
  induction n with
  | zero => intro x3 x4 x5 c_row T h; cases h
  | succ n ihm =>
    intro x3 x4 x5 c_row T h
    rw [f_Pk_groupRow_L8] at h
    obtain ⟨g_1, h⟩ := gd_e h
    obtain ⟨g_2, h⟩ := gd_e h
    rcases it_e h with ⟨_, h⟩ | ⟨_, h⟩
    · obtain ⟨r_4, e_5, h⟩ := bd1_e h
      obtain ⟨g_7, h⟩ := gd_e h
      rcases it_e h with ⟨_, h⟩ | ⟨_, h⟩
      · obtain ⟨r_9, T_10, e_11, h⟩ := bd2_e h
        have mo_13 : ((tCor T) iq) = ((tCor T_10) iq) := sc_Tr_newNode iq hiq T x2 (r_9, T_10) e_11
        obtain ⟨c_row_14, e_15, h⟩ := bd1_e h
        obtain ⟨r_17, e_18, h⟩ := bd1_e h
        obtain ⟨T_20, e_21, h⟩ := bd1_e h
        have mo_23 : ((tCor T_10) iq) = ((tCor T_20) iq) := sc_Tr_addAt iq hiq T_10 r_9 r_17 r_4 (T_20) e_21
        have mo9 : ((tCor T_20) iq) = ((tCor (res.2.2)) iq) := ihm ((x3 + 1)) (r_9) ((x5 + 1)) (c_row_14) (T_20) h
        exact (show ((tCor T) iq) = ((tCor (res.2.2)) iq) from by omega)
      · obtain ⟨r_24, e_25, h⟩ := bd1_e h
        obtain ⟨g_27, h⟩ := gd_e h
        obtain ⟨g_28, h⟩ := gd_e h
        rcases it_e h with ⟨_, h⟩ | ⟨_, h⟩
        · obtain ⟨r_30, e_31, h⟩ := bd1_e h
          obtain ⟨T_33, e_34, h⟩ := bd1_e h
          have mo_36 : ((tCor T) iq) = ((tCor T_33) iq) := sc_Tr_addAt iq hiq T x4 r_30 r_4 (T_33) e_34
          have mo9 : ((tCor T_33) iq) = ((tCor (res.2.2)) iq) := ihm (x3) (x4) ((x5 + 1)) (c_row) (T_33) h
          exact (show ((tCor T) iq) = ((tCor (res.2.2)) iq) from by omega)
        · obtain ⟨r_37, T_38, e_39, h⟩ := bd2_e h
          have mo_41 : ((tCor T) iq) = ((tCor T_38) iq) := sc_Tr_newNode iq hiq T x2 (r_37, T_38) e_39
          obtain ⟨c_row_42, e_43, h⟩ := bd1_e h
          obtain ⟨r_45, e_46, h⟩ := bd1_e h
          obtain ⟨T_48, e_49, h⟩ := bd1_e h
          have mo_51 : ((tCor T_38) iq) = ((tCor T_48) iq) := sc_Tr_addAt iq hiq T_38 r_37 r_45 r_4 (T_48) e_49
          have mo9 : ((tCor T_48) iq) = ((tCor (res.2.2)) iq) := ihm ((x3 + 1)) (r_37) ((x5 + 1)) (c_row_42) (T_48) h
          exact (show ((tCor T) iq) = ((tCor (res.2.2)) iq) from by omega)
    · have mo9 : ((tCor T) iq) = ((tCor (res.2.2)) iq) := hkm (x3) (x4) (x5) (c_row) (T) h
      exact (show ((tCor T) iq) = ((tCor (res.2.2)) iq) from by omega)
theorem sc_Pk_groupRow (iq : Nat) (hiq : iq < 96) (c_row : Nat → Int) (T : TV) (x1 : Int) (x2 : Int) (res : Int × (Nat → Int) × TV) (h : f_Pk_groupRow c_row T x1 x2 = some res) : ((tCor T) iq) = ((tCor (res.2.2)) iq) := by
  unfold f_Pk_groupRow at h
  have mo9 : ((tCor T) iq) = ((tCor (res.2.2)) iq) := sc_Pk_groupRow_L8 iq hiq (x1) (x2) _ _ (fun x3_52 x4_53 x5_54 c_row_55 T_56 h => by
      obtain rfl := Option.some.inj h
      exact (show ((tCor T_56) iq) = ((tCor T_56) iq) from by omega)) _ (0) ((-1)) (0) (c_row) (T) h
  exact (show ((tCor T) iq) = ((tCor (res.2.2)) iq) from by omega)
theorem sc_Pk_rebuild_L76 (iq : Nat) (hiq : iq < 96) (T : TV) (x1 : Int) (x2 : Int) (res : (Nat → Int) × TV) (k : Int → (Nat → Int) → Option ((Nat → Int) × TV)) (hkm : ∀ (x3 : Int) (c_row : Nat → Int) , k x3 c_row = some res → ((tCor T) iq) = ((tCor (res.2)) iq)) : ∀ (n : Nat) (x3 : Int) (c_row : Nat → Int) , f_Pk_rebuild_L76 T x1 x2 k n x3 c_row = some res → ((tCor T) iq) = ((tCor (res.2)) iq) := by
  intro n
  induction n with
  | zero => intro x3 c_row h; cases h
  | succ n ihm =>
    intro x3 c_row h
    rw [f_Pk_rebuild_L76] at h
    obtain ⟨g_20, h⟩ := gd_e h
    obtain ⟨g_21, h⟩ := gd_e h
    rcases it_e h with ⟨_, h⟩ | ⟨_, h⟩
    · obtain ⟨g_23, h⟩ := gd_e h
      rcases it_e h with ⟨_, h⟩ | ⟨_, h⟩
      · obtain ⟨g_25, h⟩ := gd_e h
        obtain ⟨c_row_27, e_28, h⟩ := bd1_e h
        have mo9 : ((tCor T) iq) = ((tCor (res.2)) iq) := ihm ((x3 + x2)) (c_row_27) h
        exact (show ((tCor T) iq) = ((tCor (res.2)) iq) from by omega)
      · have mo9 : ((tCor T) iq) = ((tCor (res.2)) iq) := hkm (x3) (c_row) h
        exact (show ((tCor T) iq) = ((tCor (res.2)) iq) from by omega)
    · have mo9 : ((tCor T) iq) = ((tCor (res.2)) iq) := hkm (x3) (c_row) h
      exact (show ((tCor T) iq) = ((tCor (res.2)) iq) from by omega)
theorem sc_Pk_rebuild_L107 (iq : Nat) (hiq : iq < 96) (res : (Nat → Int) × TV) (k : Int → Int → (Nat → Int) → TV → Option ((Nat → Int) × TV)) (hkm : ∀ (x1 : Int) (x3 : Int) (c_row : Nat → Int) (T : TV) , k x1 x3 c_row T = some res → ((tCor T) iq) = ((tCor (res.2)) iq)) : ∀ (n : Nat) (x1 : Int) (x3 : Int) (c_row : Nat → Int) (T : TV) , f_Pk_rebuild_L107 k n x1 x3 c_row T = some res → ((tCor T) iq) = ((tCor (res.2)) iq) := by
  intro n
  induction n with
  | zero => intro x1 x3 c_row T h; cases h
  | succ n ihm =>
    intro x1 x3 c_row T h
    rw [f_Pk_rebuild_L107] at h
    obtain ⟨g_32, h⟩ := gd_e h
    rcases it_e h with ⟨_, h⟩ | ⟨_, h⟩
    · rcases it_e h with ⟨_, h⟩ | ⟨_, h⟩
      · obtain ⟨r_35, c_row_36, T_37, e_38, h⟩ := bd3_e h
        have mo_40 : ((tCor T) iq) = ((tCor T_37) iq) := sc_Pk_groupRow iq hiq c_row T x1 x3 (r_35, c_row_36, T_37) e_38
        have mo9 : ((tCor T_37) iq) = ((tCor (res.2)) iq) := ihm (r_35) ((x3 + 1)) (c_row_36) (T_37) h
        exact (show ((tCor T) iq) = ((tCor (res.2)) iq) from by omega)
      · obtain ⟨g_41, h⟩ := gd_e h
        rcases it_e h with ⟨_, h⟩ | ⟨_, h⟩
        · obtain ⟨r_43, c_row_44, T_45, e_46, h⟩ := bd3_e h
          have mo_48 : ((tCor T) iq) = ((tCor T_45) iq) := sc_Pk_groupRow iq hiq c_row T x1 x3 (r_43, c_row_44, T_45) e_46
          have mo9 : ((tCor T_45) iq) = ((tCor (res.2)) iq) := ihm (r_43) ((x3 + 1)) (c_row_44) (T_45) h
          exact (show ((tCor T) iq) = ((tCor (res.2)) iq) from by omega)
        · have mo9 : ((tCor T) iq) = ((tCor (res.2)) iq) := hkm (x1) (x3) (c_row) (T) h
          exact (show ((tCor T) iq) = ((tCor (res.2)) iq) from by omega)
    · have mo9 : ((tCor T) iq) = ((tCor (res.2)) iq) := hkm (x1) (x3) (c_row) (T) h
      exact (show ((tCor T) iq) = ((tCor (res.2)) iq) from by omega)
theorem sc_Pk_rebuild (iq : Nat) (hiq : iq < 96) (c_row : Nat → Int) (T : TV) (res : (Nat → Int) × TV) (h : f_Pk_rebuild c_row T = some res) : ((tCor T) iq) = ((tCor (res.2)) iq) := by
  unfold f_Pk_rebuild at h
  obtain ⟨r_1, c_row_2, e_3, h⟩ := bd2_e h
  obtain ⟨T_5, e_6, h⟩ := bd1_e h
  have mo_8 : ((tCor T) iq) = ((tCor T_5) iq) := sc_Tr_releaseNodes iq hiq T (T_5) e_6
  obtain ⟨g_9, h⟩ := gd_e h
  rcases it_e h with ⟨_, h⟩ | ⟨_, h⟩
  · obtain ⟨r_56, T_57, e_58, h⟩ := bd2_e h
    have mo_60 : ((tCor T_5) iq) = ((tCor T_57) iq) := sc_Tr_newNode iq hiq T_5 0 (r_56, T_57) e_58
    obtain rfl := Option.some.inj h
    exact (show ((tCor T) iq) = ((tCor T_57) iq) from by omega)
  · obtain ⟨g_11, h⟩ := gd_e h
    obtain ⟨g_13, h⟩ := gd_e h
    obtain ⟨r_14, e_15, h⟩ := bd1_e h
    obtain ⟨c_row_17, e_18, h⟩ := bd1_e h
    have mo9 : ((tCor T_5) iq) = ((tCor (res.2)) iq) := sc_Pk_rebuild_L76 iq hiq (T_5) (r_1) ((r_14 * (tCap T_5))) _ _ (fun x3_30 c_row_31 h => by
        have mo9 : ((tCor T_5) iq) = ((tCor (res.2)) iq) := sc_Pk_rebuild_L107 iq hiq  _ _ (fun x1_49 x3_50 c_row_51 T_52 h => by
            obtain ⟨r_53, e_54, h⟩ := bd1_e h
            obtain rfl := Option.some.inj h
            exact (show ((tCor T_52) iq) = ((tCor T_52) iq) from by omega)) _ (r_1) (0) (c_row_31) (T_5) h
        exact (show ((tCor T_5) iq) = ((tCor (res.2)) iq) from by omega)) _ (0) (c_row_17) h
    exact (show ((tCor T) iq) = ((tCor (res.2)) iq) from by omega)
