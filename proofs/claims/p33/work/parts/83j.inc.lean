/-! by how much a call may raise the counts of splits and of reinsertions -/
def Inc (T T' : TV) (b : Int) : Prop := (tSpl T ≤ tSpl T' ∧ tSpl T' ≤ tSpl T + b) ∧ tRec T ≤ tRec T' ∧ tRec T' ≤ tRec T + b
theorem Inc.rf {T : TV} {b : Int} (h : 0 ≤ b) : Inc T T b := ⟨⟨by omega, by omega⟩, by omega, by omega⟩
theorem Inc.tr {T T' T'' : TV} {b c d : Int} (h : Inc T T' b) (g : Inc T' T'' c) (e : b + c ≤ d) : Inc T T'' d := by
  unfold Inc at *
  omega
theorem Inc.le {T T' : TV} {b d : Int} (h : Inc T T' b) (e : b ≤ d) : Inc T T' d := by
  unfold Inc at *
  omega
theorem Inc.eq {T T' : TV} {b : Int} (h : tSpl T = tSpl T' ∧ tRec T = tRec T') (hb : 0 ≤ b) : Inc T T' b := by
  unfold Inc
  omega
theorem Inc.of {T T' : TV} {b c : Int} (h : tSpl T ≤ tSpl T' ∧ tSpl T' ≤ tSpl T + b ∧ tRec T ≤ tRec T' ∧ tRec T' ≤ tRec T + c) (hb : b ≤ 1) (hc : c ≤ 1) : Inc T T' 1 := by
  unfold Inc
  omega
theorem si_own_go (res : (Nat → Int) × Int × Int64 × TV) (k : Int → Int → (Nat → Int) → Int → Int64 → TV → Option ((Nat → Int) × Int × Int64 × TV)) (hk : ∀ (x2 : Int) (x3 : Int) (c_pool : Nat → Int) (c_left : Int) (c_treated : Int64) (T : TV), k x2 x3 c_pool c_left c_treated T = some res → Inc T res.2.2.2 0) : ∀ (n : Nat) (x2 : Int) (x3 : Int) (c_pool : Nat → Int) (c_left : Int) (c_treated : Int64) (T : TV), f_Ch_insertOwn_L30 k n x2 x3 c_pool c_left c_treated T = some res → Inc T res.2.2.2 (n : Int) := by
  intro n
  induction n with
  | zero => intro x2 x3 c_pool c_left c_treated T h; cases h
  | succ n ihm =>
    intro x2 x3 c_pool c_left c_treated T h
    rw [f_Ch_insertOwn_L30] at h
    obtain ⟨r_11, e_12, h⟩ := bd1_e h
    obtain ⟨g_14, h⟩ := gd_e h
    obtain ⟨g_15, h⟩ := gd_e h
    rcases it_e h with ⟨_, h⟩ | ⟨_, h⟩
    · obtain ⟨g_17, h⟩ := gd_e h
      rcases it_e h with ⟨_, h⟩ | ⟨_, h⟩
      · obtain ⟨r_19, e_20, h⟩ := bd1_e h
        obtain ⟨g_22, h⟩ := gd_e h
        rcases it_e h with ⟨_, h⟩ | ⟨_, h⟩
        · obtain ⟨r_24, c_pool_25, c_left_26, T_27, e_28, h⟩ := bd4_e h
          have m1 : Inc T T_27 1 := Inc.of (sr_Ch_splitNode c_pool c_left T x2 (r_24, c_pool_25, c_left_26, T_27) e_28) (by omega) (by omega)
          exact m1.tr (ihm _ _ _ _ _ _ h) (by omega)
        · obtain ⟨r_31, c_treated_32, T_33, e_34, h⟩ := bd3_e h
          have m1 : Inc T T_33 1 := Inc.of (sr_Ch_reinsertFarthest c_treated T x2 (r_31, c_treated_32, T_33) e_34) (by omega) (by omega)
          exact m1.tr (ihm _ _ _ _ _ _ h) (by omega)
      · exact (hk _ _ _ _ _ _ h).le (by omega)
    · exact (hk _ _ _ _ _ _ h).le (by omega)
theorem si_own {c_pool : Nat → Int} {c_left : Int} {T : TV} {x1 : Int} {pool' : Nat → Int} {left' : Int} {cc' : Int64} {T' : TV} (h : f_Ch_insertOwn c_pool c_left T x1 = some (pool', left', cc', T')) : Inc T T' 4096 := by
  unfold f_Ch_insertOwn at h
  obtain ⟨r_1, e_2, h⟩ := bd1_e h
  obtain ⟨r_4, e_5, h⟩ := bd1_e h
  obtain ⟨T_7, e_8, h⟩ := bd1_e h
  have m1 : Inc T T_7 0 := Inc.eq (sr_Tr_addAt T r_1 r_4 x1 (T_7) e_8) (by omega)
  have m2 := si_own_go (pool', left', cc', T') _ (fun x2 x3 p l t T2 h => by
    have e : T2 = T' := congrArg (fun z : (Nat → Int) × Int × Int64 × TV => z.2.2.2) (Option.some.inj h)
    show Inc T2 T' 0
    rw [e]
    exact Inc.rf (by omega)) FU _ _ _ _ _ _ h
  exact m1.tr m2 (by unfold FU; omega)
