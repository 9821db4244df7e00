/-! packing: the reference's sort by exchange -/
theorem ex_in {s c : Nat → Int} {ax : Nat} {P : Nat → Prop} (hk : ∀ z, P z → f_Mo_key s (z : Int) (ax : Int) = some (kyT c ax z) ∧ ck (kyT c ax z) ∧ z < 24) {A B : List Nat} (k : Int → (Nat → Int) → Option (Nat → Int)) : ∀ (P2 P1 : List Nat) (h n : Nat) (row : Nat → Int), P2.length < n → A.length + 1 + P1.length + P2.length + B.length ≤ 24 → (∀ z ∈ h :: (P1 ++ P2), P z) → (h :: (P1 ++ P2)).Nodup → (∀ z ∈ P1, kyT c ax h < kyT c ax z) → Hs row 0 (A ++ (h :: (P1 ++ (P2 ++ B)))) → ∃ (h' : Nat) (P' : List Nat) (row' : Nat → Int), f_Mo_sorts_L15 s ((A.length + 1 + P1.length + P2.length : Nat) : Int) (ax : Int) (A.length : Int) k n ((A.length + 1 + P1.length : Nat) : Int) row = k ((A.length + 1 + P1.length + P2.length : Nat) : Int) row' ∧ (h :: (P1 ++ P2)).Perm (h' :: P') ∧ (∀ z ∈ P', kyT c ax h' < kyT c ax z) ∧ Hs row' 0 (A ++ (h' :: (P' ++ B))) := by
  intro P2
  induction P2 with
  | nil =>
    intro P1 h n row hn hl hP hnd hlt hrow
    obtain ⟨n, rfl⟩ : ∃ z, n = z + 1 := ⟨n - 1, by omega⟩
    rw [List.length_nil] at hl
    refine ⟨h, P1, row, ?_, by rw [List.append_nil], hlt, hrow⟩
    rw [f_Mo_sorts_L15, List.length_nil, Nat.add_zero, gd_p ⟨by omega, by omega⟩, gd_p ⟨by omega, by omega⟩, if_neg (by omega)]
    rfl
  | cons u P2 ih =>
    intro P1 h n row hn hl hP hnd hlt hrow
    obtain ⟨n, rfl⟩ : ∃ z, n = z + 1 := ⟨n - 1, by omega⟩
    rw [List.length_cons] at hn hl
    have r1 := Hs.app.mp hrow
    rw [Nat.zero_add, Hs.cons, Hs.app, List.cons_append, Hs.cons] at r1
    obtain ⟨rA, rh, rP1, ru, rR⟩ := r1
    have hu := hk u (hP u (by simp))
    have hh := hk h (hP h (by simp))
    have huh : u ≠ h := fun q => (List.nodup_cons.mp hnd).1 (by rw [← q]; simp)
    have hne : kyT c ax u ≠ kyT c ax h := fun q => huh (ky_inj hu.2.2 hh.2.2 q)
    have hrl := Hs.app.mp rR
    rw [f_Mo_sorts_L15, List.length_cons, gd_p ⟨by omega, by omega⟩, gd_p ⟨by omega, by omega⟩, if_pos (by omega), gd_p ⟨by omega, by omega⟩, show (((A.length + 1 + P1.length : Nat) : Int)).toNat = A.length + 1 + P1.length by omega, ru, bd1_p hu.1, gd_p ⟨by omega, by omega⟩, show ((A.length : Int)).toNat = A.length by omega, rh, bd1_p hh.1, gd_p hu.2.1, gd_p hh.2.1, show ((A.length + 1 + P1.length : Nat) : Int) + 1 = ((A.length + 1 + (P1.length + 1) : Nat) : Int) by omega, show A.length + 1 + P1.length + (P2.length + 1) = A.length + 1 + (P1.length + 1) + P2.length by omega]
    by_cases hc : kyT c ax u < kyT c ax h
    · rw [if_pos hc]
      have hrow' : Hs (up (up row A.length (u : Int)) (A.length + 1 + P1.length) (h : Int)) 0 (A ++ (u :: ((P1 ++ [h]) ++ (P2 ++ B)))) := by
        rw [Hs.app, Nat.zero_add, Hs.cons, Hs.app, Hs.app, Hs.cons, List.length_append, List.length_singleton]
        refine ⟨(rA.off (Or.inr (by omega))).off (Or.inr (by omega)), by rw [up_o (by omega), up_s], ⟨(rP1.off (Or.inl (by omega))).off (Or.inr (by omega)), up_s, Hs.nil⟩, ?_⟩
        rw [show A.length + 1 + (P1.length + 1) = A.length + 1 + P1.length + 1 by omega]
        exact (rR.off (Or.inl (by omega))).off (Or.inl (by omega))
      have hperm : (h :: (P1 ++ u :: P2)).Perm (u :: ((P1 ++ [h]) ++ P2)) := by
        have e1 : (h :: (P1 ++ u :: P2)).Perm (h :: u :: (P1 ++ P2)) := List.perm_middle.cons h
        have e2 : ((P1 ++ [h]) ++ P2).Perm (h :: (P1 ++ P2)) := by
          rw [List.append_assoc]
          exact List.perm_middle
        exact (e1.trans (List.Perm.swap u h (P1 ++ P2))).trans (e2.symm.cons u)
      obtain ⟨h', P', row', f1, f2, f3, f4⟩ := ih (P1 ++ [h]) u n _ (by omega) (by rw [List.length_append, List.length_singleton]; omega) (fun z hz => hP z (hperm.mem_iff.mpr hz)) (hperm.nodup_iff.mp hnd) (fun z hz => by
        rcases List.mem_append.mp hz with q | q
        · have := hlt z q
          omega
        · rw [List.mem_singleton.mp q]
          exact hc) hrow'
      rw [List.length_append, List.length_singleton] at f1
      exact ⟨h', P', row', f1, hperm.trans f2, f3, f4⟩
    · rw [if_neg hc]
      have hrow' : Hs row 0 (A ++ (h :: ((P1 ++ [u]) ++ (P2 ++ B)))) := by
        have : (P1 ++ [u]) ++ (P2 ++ B) = P1 ++ (u :: P2 ++ B) := by simp
        rw [this]
        exact hrow
      have hpe : P1 ++ u :: P2 = (P1 ++ [u]) ++ P2 := by simp
      rw [hpe] at hP hnd
      obtain ⟨h', P', row', f1, f2, f3, f4⟩ := ih (P1 ++ [u]) h n row (by omega) (by rw [List.length_append, List.length_singleton]; omega) hP hnd (fun z hz => by
        rcases List.mem_append.mp hz with q | q
        · exact hlt z q
        · rw [List.mem_singleton.mp q]
          omega) hrow'
      rw [List.length_append, List.length_singleton] at f1
      exact ⟨h', P', row', f1, by rw [hpe]; exact f2, f3, f4⟩
theorem ex_out {s c : Nat → Int} {ax : Nat} {P : Nat → Prop} (hk : ∀ z, P z → f_Mo_key s (z : Int) (ax : Int) = some (kyT c ax z) ∧ ck (kyT c ax z) ∧ z < 24) {A B : List Nat} (k : Int → (Nat → Int) → Option (Nat → Int)) : ∀ (d : Nat) (R S : List Nat) (n : Nat) (row : Nat → Int), R.length = d → d < n → A.length + S.length + R.length + B.length ≤ 24 → (∀ z ∈ S ++ R, P z) → (S ++ R).Nodup → S.Pairwise (fun v u => kyT c ax v < kyT c ax u) → (∀ a ∈ S, ∀ b ∈ R, kyT c ax a < kyT c ax b) → Hs row 0 (A ++ (S ++ (R ++ B))) → ∃ (S' : List Nat) (row' : Nat → Int), f_Mo_sorts_L3 s ((A.length + S.length + R.length : Nat) : Int) (ax : Int) k n ((A.length + S.length : Nat) : Int) row = k ((A.length + S.length + R.length : Nat) : Int) row' ∧ Srt c ax (S ++ R) S' ∧ Hs row' 0 (A ++ (S' ++ B)) := by
  intro d
  induction d with
  | zero =>
    intro R S n row hR hn hl hP hnd hp hlt hrow
    obtain ⟨n, rfl⟩ : ∃ z, n = z + 1 := ⟨n - 1, by omega⟩
    have hR0 : R = [] := List.length_eq_zero_iff.mp hR
    subst hR0
    rw [List.length_nil] at hl
    refine ⟨S, row, ?_, ⟨by rw [List.append_nil], hp⟩, hrow⟩
    rw [f_Mo_sorts_L3, List.length_nil, Nat.add_zero, gd_p ⟨by omega, by omega⟩, gd_p ⟨by omega, by omega⟩, if_neg (by omega)]
  | succ d ih =>
    intro R S n row hR hn hl hP hnd hp hlt hrow
    obtain ⟨n, rfl⟩ : ∃ z, n = z + 1 := ⟨n - 1, by omega⟩
    rcases R with _ | ⟨h, t⟩
    · cases hR
    rw [List.length_cons] at hR hl
    have hAS : (A ++ S).length = A.length + S.length := List.length_append
    obtain ⟨h', P', row', f1, f2, f3, f4⟩ := ex_in hk (A := A ++ S) (B := B) (fun x5_18 c_sorted_19 => f_Mo_sorts_L3 s ((A.length + S.length + (t.length + 1) : Nat) : Int) (ax : Int) k n (((A.length + S.length : Nat) : Int) + 1) c_sorted_19) t [] h FU row (by unfold FU; omega) (by rw [hAS, List.length_nil]; omega) (fun z hz => hP z (List.mem_append_right _ hz)) (List.nodup_append.mp hnd).2.1 (fun z hz => by cases hz) (by rw [List.append_assoc]; exact hrow)
    have f2 : (h :: t).Perm (h' :: P') := f2
    have hPl := f2.length_eq
    rw [List.length_cons, List.length_cons] at hPl
    have hperm : (S ++ h :: t).Perm ((S ++ [h']) ++ P') := by
      have e1 : (S ++ h :: t).Perm (S ++ h' :: P') := f2.append_left S
      have e2 : (S ++ [h']) ++ P' = S ++ h' :: P' := by simp
      rw [e2]
      exact e1
    have hsl : (S ++ [h']).length = S.length + 1 := by rw [List.length_append, List.length_singleton]
    obtain ⟨S', row2, g1, g2, g3⟩ := ih P' (S ++ [h']) n row' (by omega) (by omega) (by rw [hsl]; omega) (fun z hz => hP z (hperm.mem_iff.mpr hz)) (hperm.nodup_iff.mp hnd) (List.pairwise_append.mpr ⟨hp, List.pairwise_singleton _ _, fun a ha b hb => by
      rw [List.mem_singleton.mp hb]
      exact hlt a ha h' (f2.mem_iff.mpr List.mem_cons_self)⟩) (fun a ha b hb => by
      rcases List.mem_append.mp ha with q | q
      · exact hlt a q b (f2.mem_iff.mpr (List.mem_cons_of_mem _ hb))
      · rw [List.mem_singleton.mp q]
        exact f3 b hb) (by
      have e2 : A ++ ((S ++ [h']) ++ (P' ++ B)) = (A ++ S) ++ (h' :: (P' ++ B)) := by simp
      rw [e2]
      exact f4)
    rw [hsl, show A.length + (S.length + 1) + P'.length = A.length + S.length + (t.length + 1) by omega] at g1
    refine ⟨S', row2, ?_, ⟨hperm.trans g2.1, g2.2⟩, g3⟩
    rw [f_Mo_sorts_L3, List.length_cons, gd_p ⟨by omega, by omega⟩, gd_p ⟨by omega, by omega⟩, if_pos (by omega), show ((A.length + S.length : Nat) : Int) + 1 = ((A.length + S.length + 1 : Nat) : Int) by omega]
    rw [hAS, List.length_nil, Nat.add_zero, show A.length + S.length + 1 + t.length = A.length + S.length + (t.length + 1) by omega] at f1
    rw [show ((A.length + S.length : Nat) : Int) + 1 = ((A.length + S.length + 1 : Nat) : Int) by omega] at f1
    refine f1.trans ?_
    rw [show A.length + S.length + 1 = A.length + (S.length + 1) by omega]
    exact g1
/-- the reference sorts a part -/
theorem ex_sp {s c : Nat → Int} {ax : Nat} {P : Nat → Prop} (hk : ∀ z, P z → f_Mo_key s (z : Int) (ax : Int) = some (kyT c ax z) ∧ ck (kyT c ax z) ∧ z < 24) {A M B : List Nat} {row : Nat → Int} (hl : A.length + M.length + B.length ≤ 24) (hM : ∀ z ∈ M, P z) (hnd : M.Nodup) (h : Hs row 0 (A ++ (M ++ B))) : ∃ (S : List Nat) (row' : Nat → Int), f_Mo_sorts s row (A.length : Int) ((A.length + M.length : Nat) : Int) (ax : Int) = some row' ∧ Srt c ax M S ∧ Hs row' 0 (A ++ (S ++ B)) := by
  unfold f_Mo_sorts
  obtain ⟨S', row', g1, g2, g3⟩ := ex_out hk (A := A) (B := B) (fun x4_20 c_sorted_21 => some (c_sorted_21)) M.length M [] FU row rfl (by unfold FU; omega) (by rw [List.length_nil]; omega) hM hnd List.Pairwise.nil (fun a ha => by cases ha) h
  exact ⟨S', row', g1, g2, g3⟩
