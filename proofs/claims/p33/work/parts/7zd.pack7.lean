/-! packing: the reference opens a node ahead of each cap-th of a level -/
def lvO (v lx : Int) : Prop := ∃ q, f_Mo_levelOf v = some q ∧ ck q ∧ q ≠ lx
theorem rw_lev {s : Nat → Int} {D E : List Int} {v q : Int} (h : Rw s (D ++ v :: E)) (hv : f_Mo_levelOf v = some q) : f_Mo_levelAt s (D.length : Int) = some q ∧ (D.length : Int) < s 4 ∧ ck (s 4) ∧ D.length < 360 := by
  have hl := h.2.1
  have h4 := h.1
  rw [List.length_append, List.length_cons] at hl h4
  have hx : (D ++ v :: E)[D.length]? = some v := by rw [List.getElem?_append_right (Nat.le_refl _), Nat.sub_self]; rfl
  refine ⟨?_, by omega, ⟨by omega, by omega⟩, by omega⟩
  unfold f_Mo_levelAt
  rw [bd1_p (rw_at (by omega) (h.2.2 _ _ hx)), bd1_p hv]
theorem pa_skip {lx x2 x3 : Int} (hlx : ck lx) (k : Int → Int → Int → (Nat → Int) → Option (Int × (Nat → Int))) : ∀ (t D E : List Int) (n : Nat) (s : Nat → Int), Rw s (D ++ (t ++ E)) → (∀ v ∈ t, lvO v lx) → f_Mo_packsAbove_L7 lx k (t.length + n) x2 x3 (D.length : Int) s = f_Mo_packsAbove_L7 lx k n x2 x3 ((D ++ t).length : Int) s
  | [], D, E, n, s, h, hv => by
    rw [List.length_nil, Nat.zero_add, List.append_nil]
  | v :: t, D, E, n, s, h, hv => by
    obtain ⟨q, q1, q2, q3⟩ := hv v List.mem_cons_self
    obtain ⟨a1, a2, a3, a4⟩ := rw_lev (E := t ++ E) h q1
    have h2 : Rw s ((D ++ [v]) ++ (t ++ E)) := by
      have : (D ++ [v]) ++ (t ++ E) = D ++ (v :: t ++ E) := by simp
      rw [this]
      exact h
    have ih := pa_skip (x2 := x2) (x3 := x3) hlx k t (D ++ [v]) E n s h2 (fun z hz => hv z (List.mem_cons_of_mem _ hz))
    have hl : ((D ++ [v]).length : Int) = (D.length : Int) + 1 := by rw [List.length_append]; rfl
    have hl2 : (D ++ [v]) ++ t = D ++ v :: t := by simp
    rw [hl, hl2] at ih
    rw [List.length_cons, show t.length + 1 + n = (t.length + n) + 1 by omega, f_Mo_packsAbove_L7]
    unfold f_Mo_length
    rw [bd1_p rfl, gd_p ⟨by omega, by omega⟩, gd_p a3, if_pos a2, bd1_p a1, gd_p q2, gd_p hlx, if_neg q3]
    exact ih
theorem pa_go {lx : Int} {cap : Nat} {cd : Nat → List Int} (hlx : 0 ≤ lx ∧ lx ≤ 20) (hc : 3 ≤ cap ∧ cap ≤ 5) (k : Int → Int → Int → (Nat → Int) → Option (Int × (Nat → Int))) : ∀ (L : List Nat) (i : Nat) (D : List Int) (n : Nat) (s : Nat → Int), i + L.length ≤ 24 → (∀ y ∈ L, ∃ t, cd y = (-1 - lx) :: t ∧ ∀ v ∈ t, lvO v lx) → (L.flatMap cd).length < n → D.length + (flt cap (-2 - lx) cd i L).length ≤ 360 → s 0 = (cap : Int) → Rw s (D ++ L.flatMap cd) → ∃ (x2 x4 : Int) (s' : Nat → Int), f_Mo_packsAbove_L7 lx k n (i : Int) (((i + cap - 1) / cap : Nat) : Int) (D.length : Int) s = k x2 (((i + L.length + cap - 1) / cap : Nat) : Int) x4 s' ∧ Rw s' (D ++ flt cap (-2 - lx) cd i L) ∧ Fr s s' := by
  intro L
  induction L with
  | nil =>
    intro i D n s hi hL hn hl h0 h
    obtain ⟨n, rfl⟩ : ∃ z, n = z + 1 := ⟨n - 1, by omega⟩
    have h : Rw s (D ++ []) := h
    refine ⟨(i : Int), (D.length : Int), s, ?_, h, Fr.rf⟩
    have h4 := h.1
    have hl2 := h.2.1
    rw [List.append_nil] at h4 hl2
    rw [f_Mo_packsAbove_L7]
    unfold f_Mo_length
    rw [bd1_p rfl, h4, gd_p ⟨by omega, by omega⟩, gd_p ⟨by omega, by omega⟩, if_neg (by omega)]
    rfl
  | cons y L ih =>
    intro i D n s hi hL hn hl h0 h
    obtain ⟨t, ht, htv⟩ := hL y List.mem_cons_self
    rw [List.length_cons] at hi
    rw [List.flatMap_cons, ht, List.length_append, List.length_cons] at hn
    rw [List.flatMap_cons, ht, List.cons_append] at h
    have hflt : flt cap (-2 - lx) cd i (y :: L) = (if i % cap = 0 then [-2 - lx] else []) ++ (cd y ++ flt cap (-2 - lx) cd (i + 1) L) := rfl
    rw [hflt, ht, List.length_append, List.length_append, List.length_cons] at hl
    obtain ⟨n, rfl⟩ : ∃ z, n = t.length + z + 1 := ⟨n - 1 - t.length, by omega⟩
    have hlev : f_Mo_levelOf (-1 - lx) = some lx := by
      unfold f_Mo_levelOf
      rw [gd_p ⟨by omega, by omega⟩, if_pos (by omega)]
      exact congrArg some (by omega)
    obtain ⟨a1, a2, a3, a4⟩ := rw_lev h hlev
    have hmm : ((i : Int)) % (cap : Int) = ((i % cap : Nat) : Int) ∧ i % cap ≤ 5 ∧ (i % cap = 0 → (i + cap - 1) / cap + 1 = (i + 1 + cap - 1) / cap) ∧ (i % cap ≠ 0 → (i + 1 + cap - 1) / cap = (i + cap - 1) / cap) := by
      rcases (show cap = 3 ∨ cap = 4 ∨ cap = 5 by omega) with q | q | q <;> subst q <;> omega
    obtain ⟨m1, m2, m3, m4⟩ := hmm
    have hL2 : ∀ z ∈ L, ∃ t, cd z = (-1 - lx) :: t ∧ ∀ v ∈ t, lvO v lx := fun z hz => hL z (List.mem_cons_of_mem _ hz)
    rw [f_Mo_packsAbove_L7]
    unfold f_Mo_length
    rw [bd1_p rfl, gd_p ⟨by omega, by omega⟩, gd_p a3, if_pos a2, bd1_p a1, gd_p ⟨by omega, by omega⟩, gd_p ⟨by omega, by omega⟩, if_pos rfl, h0, gd_p ⟨⟨by omega, by omega⟩, by omega, by omega⟩, m1, gd_p ⟨by omega, by omega⟩]
    by_cases hic : i % cap = 0
    · rw [if_pos hic, List.length_singleton] at hl
      have hEl := h.2.1
      rw [List.length_append, List.length_cons, List.length_append] at hEl
      have hflen : (L.flatMap cd).length ≤ (flt cap (-2 - lx) cd (i + 1) L).length := by
        clear ih hL hn hl h a1 a2 a3 hL2 hEl hflt
        have gen : ∀ (L : List Nat) (i : Nat), (L.flatMap cd).length ≤ (flt cap (-2 - lx) cd i L).length := fun L => by
          induction L with
          | nil => intro i; exact Nat.le_refl _
          | cons z L ih =>
            intro i
            have h1 := ih (i + 1)
            show ((z :: L).flatMap cd).length ≤ ((if i % cap = 0 then [-2 - lx] else []) ++ (cd z ++ flt cap (-2 - lx) cd (i + 1) L)).length
            rw [List.flatMap_cons, List.length_append, List.length_append, List.length_append]
            omega
        exact gen L (i + 1)
      obtain ⟨s1, b1, b2, b3, b4, b5⟩ := opens_sp h 1 (by rw [List.length_cons, List.length_append]; omega)
      have b1 : f_Mo_opens s (D.length : Int) 1 = some s1 := b1
      have hD2 : (D ++ [-2 - lx, -1 - lx]).length = D.length + 2 := by rw [List.length_append]; rfl
      have hrw : Rw (up s1 (101 + D.length) (-2 - lx)) ((D ++ [-2 - lx, -1 - lx]) ++ (t ++ L.flatMap cd)) := by
        refine ⟨?_, ?_, fun j v hj => ?_⟩
        · rw [up_o (by omega), b2, List.length_append, hD2, List.length_cons]
          omega
        · rw [List.length_append, hD2, List.length_append]
          omega
        · have e : (D ++ [-2 - lx, -1 - lx]) ++ (t ++ L.flatMap cd) = D ++ (-2 - lx) :: ((-1 - lx) :: (t ++ L.flatMap cd)) := by simp
          rw [e] at hj
          rcases app_get hj with q | ⟨j2, q1, q2⟩
          · have := (List.getElem?_eq_some_iff.mp q).1
            rw [up_o (by omega)]
            exact b3 j v q
          · subst q1
            match j2, q2 with
            | 0, q2 =>
              rw [Nat.add_zero, up_s]
              exact Option.some.inj q2
            | j2 + 1, q2 =>
              rw [up_o (by omega)]
              have := b4 j2 v q2
              rw [show 101 + (D.length + (j2 + 1)) = 101 + (D.length + 1) + j2 by omega]
              exact this
      have hsk := pa_skip (x2 := ((i + 1 : Nat) : Int)) (x3 := (((i + 1 + cap - 1) / cap : Nat) : Int)) (lx := lx) ⟨by omega, by omega⟩ k t (D ++ [-2 - lx, -1 - lx]) (L.flatMap cd) n _ hrw htv
      have hrw2 : Rw (up s1 (101 + D.length) (-2 - lx)) ((D ++ [-2 - lx, -1 - lx] ++ t) ++ L.flatMap cd) := by
        rw [List.append_assoc]
        exact hrw
      obtain ⟨x2, x4, s', c1, c2, c3⟩ := ih (i + 1) (D ++ [-2 - lx, -1 - lx] ++ t) n _ (by omega) hL2 (by omega) (by rw [List.length_append, hD2]; omega) (by rw [up_o (by omega), b5 0 (by omega) (by omega)]; exact h0) hrw2
      refine ⟨x2, x4, s', ?_, ?_, fun j h1 h2 => (c3 j h1 h2).trans ((up_o (by omega)).trans (b5 j h1 h2))⟩
      · rw [if_pos (by omega), bd1_p b1, gd_p ⟨by omega, by omega⟩, show ((101 : Int) + (D.length : Int)).toNat = 101 + D.length by omega, show (i : Int) + 1 = ((i + 1 : Nat) : Int) by omega, show (((i + cap - 1) / cap : Nat) : Int) + 1 = (((i + 1 + cap - 1) / cap : Nat) : Int) by have := m3 hic; omega, show (D.length : Int) + 1 + 1 = ((D ++ [-2 - lx, -1 - lx]).length : Int) by rw [hD2]; omega, hsk, c1, List.length_cons, show i + 1 + L.length + cap - 1 = i + (L.length + 1) + cap - 1 by omega]
      · have e : D ++ flt cap (-2 - lx) cd i (y :: L) = D ++ [-2 - lx, -1 - lx] ++ t ++ flt cap (-2 - lx) cd (i + 1) L := by
          rw [hflt, if_pos hic, ht]
          simp
        rw [e]
        exact c2
    · rw [if_neg hic, List.length_nil] at hl
      have hrw2 : Rw s ((D ++ [-1 - lx]) ++ (t ++ L.flatMap cd)) := by
        have e : (D ++ [-1 - lx]) ++ (t ++ L.flatMap cd) = D ++ (-1 - lx) :: (t ++ L.flatMap cd) := by simp
        rw [e]
        exact h
      have hD1 : (D ++ [-1 - lx]).length = D.length + 1 := by rw [List.length_append]; rfl
      have hsk := pa_skip (x2 := ((i + 1 : Nat) : Int)) (x3 := (((i + cap - 1) / cap : Nat) : Int)) (lx := lx) ⟨by omega, by omega⟩ k t (D ++ [-1 - lx]) (L.flatMap cd) n s hrw2 htv
      rw [← List.append_assoc] at hrw2
      obtain ⟨x2, x4, s', c1, c2, c3⟩ := ih (i + 1) (D ++ [-1 - lx] ++ t) n s (by omega) hL2 (by omega) (by rw [List.length_append, hD1]; omega) h0 hrw2
      rw [m4 hic] at c1
      refine ⟨x2, x4, s', ?_, ?_, c3⟩
      · rw [if_neg (by omega), show (i : Int) + 1 = ((i + 1 : Nat) : Int) by omega, show (D.length : Int) + 1 = ((D ++ [-1 - lx]).length : Int) by rw [hD1]; omega, hsk, c1, List.length_cons, show i + 1 + L.length + cap - 1 = i + (L.length + 1) + cap - 1 by omega]
      · have e : D ++ flt cap (-2 - lx) cd i (y :: L) = D ++ [-1 - lx] ++ t ++ flt cap (-2 - lx) cd (i + 1) L := by
          rw [hflt, if_neg hic, ht]
          simp
        rw [e]
        exact c2
