/-! the reference's union of all boxes of a stretch of a row -/
def bxs (L : List Nat) : List Nat := L.filter (fun y => decide (y < 24))
theorem bxs_app (L M : List Nat) : bxs (L ++ M) = bxs L ++ bxs M := List.filter_append ..
theorem bxs_mem {L : List Nat} {y : Nat} : y ∈ bxs L ↔ y ∈ L ∧ y < 24 := by simp [bxs]
def c5 (s : Nat → Int) : Nat → Int := fun j => s (5 + j)
theorem m_side_step (s : Nat → Int) (b j : Nat) : s (5 + 4 * b + j) = c5 s (4 * b + j) := by
  unfold c5
  congr 1
  omega
theorem side_gos {s : Nat → Int} {i b : Nat} (hi : i < 12) (hb : b < 24) (hs : rg (c5 s) b) (z : Int) (hz : ck z) (k : Int → (Nat → Int) → Option (Nat → Int)) : ∀ (d j n : Nat) (c : Nat → Int), j + d = 4 → d < n → (z = 0 → rg c i) → ∃ c', f_Mo_bounds_s_L32 s (i : Int) z (5 + 4 * (b : Int)) k n (j : Int) c = k 4 c' ∧ (∀ t, t < 4 → j ≤ t → c' (4 * i + t) = if z = 0 then mm t (c (4 * i + t)) (c5 s (4 * b + t)) else c5 s (4 * b + t)) ∧ (∀ q, (q < 4 * i + j ∨ 4 * i + 4 ≤ q) → c' q = c q)
  | 0, j, n + 1, c, hj, hn, hc => by
    have hj : j = 4 := by omega
    subst hj
    refine ⟨c, ?_, fun t h1 h2 => absurd h1 (by omega), fun _ _ => rfl⟩
    rw [f_Mo_bounds_s_L32, gd_p ⟨by omega, by omega⟩, if_neg (by omega)]
    rfl
  | d + 1, j, n + 1, c, hj, hn, hc => by
    have hck := rg_ck hs (t := j) (by omega)
    have hrs := hs j (by omega)
    have step : ∀ v : Int, (0 ≤ v ∧ v ≤ 99) → v = (if z = 0 then mm j (c (4 * i + j)) (c5 s (4 * b + j)) else c5 s (4 * b + j)) → ∃ c', f_Mo_bounds_s_L32 s (i : Int) z (5 + 4 * (b : Int)) k n ((j : Int) + 1) (up c (4 * i + j) v) = k 4 c' ∧ (∀ t, t < 4 → j ≤ t → c' (4 * i + t) = if z = 0 then mm t (c (4 * i + t)) (c5 s (4 * b + t)) else c5 s (4 * b + t)) ∧ (∀ q, (q < 4 * i + j ∨ 4 * i + 4 ≤ q) → c' q = c q) := by
      intro v hv0 hv
      obtain ⟨c', e1, e2, e3⟩ := side_gos hi hb hs z hz k d (j + 1) n (up c (4 * i + j) v) (by omega) (by omega) (fun hz t ht => by
        by_cases htj : t = j
        · subst htj
          rw [up_s]
          exact hv0
        · rw [up_o (by omega)]
          exact hc hz t ht)
      refine ⟨c', ?_, fun t h1 h2 => ?_, fun q hq => by rw [e3 q (by omega), up_o (by omega)]⟩
      · rw [show (j : Int) + 1 = ((j + 1 : Nat) : Int) by omega]
        exact e1
      · by_cases htj : t = j
        · subst htj
          rw [e3 _ (by omega), up_s]
          exact hv
        · rw [e2 t h1 (by omega), up_o (by omega)]
    rw [f_Mo_bounds_s_L32, gd_p ⟨by omega, by omega⟩, if_pos (by omega), gd_p ⟨by omega, by omega⟩, gd_p ⟨by omega, by omega⟩, gd_p hz, show ((4 : Int) * (i : Int) + (j : Int)).toNat = 4 * i + j by omega, show ((5 : Int) + 4 * (b : Int) + (j : Int)).toNat = 5 + 4 * b + j by omega, m_side_step s b j]
    by_cases hz0 : z = 0
    · have hcj := hc hz0 j (by omega)
      rw [if_pos hz0]
      by_cases hj2 : j < 2
      · rw [if_pos (by omega), bd1_p (m_less ⟨by omega, by omega⟩ hck)]
        exact step _ (by omega) (by rw [if_pos hz0]; unfold mm; rw [if_pos hj2])
      · rw [if_neg (by omega), bd1_p (m_greater ⟨by omega, by omega⟩ hck)]
        exact step _ (by omega) (by rw [if_pos hz0]; unfold mm; rw [if_neg hj2])
    · rw [if_neg hz0]
      exact step _ hrs (by rw [if_neg hz0])
theorem bnd_gos {s lv : Nat → Int} {i : Nat} (hi : i < 12) (e : Nat) (he : e ≤ 461) (k : Int → Int → (Nat → Int) → Option (Nat → Int)) : ∀ (U : List Nat) (x n : Nat) (E : List Nat) (c : Nat → Int), x + U.length = e → U.length < n → (∀ j y, U[j]? = some y → s (x + j) = sg lv y ∧ okI lv y ∧ (y < 24 → rg (c5 s) y)) → (∀ y ∈ E, rg (c5 s) y) → (E ≠ [] → ∀ t, t < 4 → c (4 * i + t) = cu (c5 s) t E) → ∃ z c', f_Mo_bounds_s_L6 s (e : Int) (i : Int) k n (if E = [] then 1 else 0) (x : Int) c = k z (e : Int) c' ∧ (E ++ bxs U ≠ [] → ∀ t, t < 4 → c' (4 * i + t) = cu (c5 s) t (E ++ bxs U)) ∧ oth i c c'
  | [], x, n + 1, E, c, hx, hn, hU, hE, hc => by
    have hx : x = e := by simpa using hx
    subst hx
    refine ⟨if E = [] then 1 else 0, c, ?_, fun h => by simp only [bxs, List.filter_nil, List.append_nil] at h ⊢; exact hc h, oth.rf⟩
    rw [f_Mo_bounds_s_L6, gd_p ⟨by omega, by omega⟩, gd_p ⟨by omega, by omega⟩, if_neg (by omega)]
  | y :: U, x, n + 1, E, c, hx, hn, hU, hE, hc => by
    simp only [List.length_cons] at hx hn
    have hy := hU 0 y rfl
    have hok := okI_ck hy.2.1
    have hU2 : ∀ j w, U[j]? = some w → s (x + 1 + j) = sg lv w ∧ okI lv w ∧ (w < 24 → rg (c5 s) w) := fun j w hw => by
      have := hU (j + 1) w (by simpa using hw)
      rw [show x + 1 + j = x + (j + 1) by omega]
      exact this
    rw [f_Mo_bounds_s_L6, gd_p ⟨by omega, by omega⟩, gd_p ⟨by omega, by omega⟩, if_pos (by omega), gd_p ⟨by omega, by omega⟩, show ((x : Int)).toNat = x + 0 by omega, hy.1, gd_p hok.1]
    by_cases hb : y < 24
    · have hrg := hy.2.2 hb
      obtain ⟨c1, e1, e2, e3⟩ := side_gos (s := s) (b := y) hi hb hrg (if E = [] then 1 else 0) (by split <;> exact ⟨by omega, by omega⟩) (fun x8_20 c_rect_21 => f_Mo_bounds_s_L6 s (e : Int) (i : Int) k n (0) (((x : Int) + 1)) (c_rect_21)) 4 0 FU c (by omega) (by unfold FU; omega) (fun hz => by
        have hE0 : E ≠ [] := fun q => by rw [if_pos q] at hz; omega
        intro t ht
        rw [hc hE0 t ht]
        exact cu_rg ht hE)
      have hE2 : ∀ w ∈ E ++ [y], rg (c5 s) w := fun w hw => by
        rcases List.mem_append.mp hw with h | h
        · exact hE w h
        · rw [List.mem_singleton.mp h]; exact hrg
      obtain ⟨z, c', g1, g2, g3⟩ := bnd_gos hi e he k U (x + 1) n (E ++ [y]) c1 (by omega) (by omega) hU2 hE2 (fun _ t ht => by
        rw [e2 t ht (Nat.zero_le _), cu_snoc ht hrg]
        by_cases hE0 : E = []
        · subst hE0
          rw [if_neg (by rw [if_pos rfl]; omega)]
          exact ((mm_e0 (hrg t ht)).1).symm
        · rw [if_pos (by rw [if_neg hE0]), hc hE0 t ht])
      refine ⟨z, c', ?_, ?_, fun q hq => by rw [g3 q hq, e3 q (by omega)]⟩
      · rw [if_neg (by rw [hok.2.2]; omega), show sg lv y = (y : Int) from if_pos hb]
        rw [show (0 : Int) = ((0 : Nat) : Int) from rfl] at e1 ⊢
        rw [e1]
        rw [if_neg (by simp)] at g1
        exact g1
      · rw [show E ++ bxs (y :: U) = E ++ [y] ++ bxs U by simp [bxs, hb]]
        exact g2
    · obtain ⟨z, c', g1, g2, g3⟩ := bnd_gos hi e he k U (x + 1) n E c (by omega) (by omega) hU2 hE hc
      refine ⟨z, c', ?_, ?_, g3⟩
      · rw [if_pos (by rw [hok.2.2]; omega), show ((x : Int) + 1) = ((x + 1 : Nat) : Int) by omega]
        exact g1
      · rw [show E ++ bxs (y :: U) = E ++ bxs U by simp [bxs, hb]]
        exact g2
theorem side_goitem {s : Nat → Int} {i b : Nat} (hi : i < 12) (hb : b < 24) (hs : rg (c5 s) b) (z : Int) (hz : ck z) (k : Int → (Nat → Int) → Option (Nat → Int)) : ∀ (d j n : Nat) (c : Nat → Int), j + d = 4 → d < n → (z = 0 → rg c i) → ∃ c', f_Mo_bounds_item_L32 s (i : Int) z (5 + 4 * (b : Int)) k n (j : Int) c = k 4 c' ∧ (∀ t, t < 4 → j ≤ t → c' (4 * i + t) = if z = 0 then mm t (c (4 * i + t)) (c5 s (4 * b + t)) else c5 s (4 * b + t)) ∧ (∀ q, (q < 4 * i + j ∨ 4 * i + 4 ≤ q) → c' q = c q)
  | 0, j, n + 1, c, hj, hn, hc => by
    have hj : j = 4 := by omega
    subst hj
    refine ⟨c, ?_, fun t h1 h2 => absurd h1 (by omega), fun _ _ => rfl⟩
    rw [f_Mo_bounds_item_L32, gd_p ⟨by omega, by omega⟩, if_neg (by omega)]
    rfl
  | d + 1, j, n + 1, c, hj, hn, hc => by
    have hck := rg_ck hs (t := j) (by omega)
    have hrs := hs j (by omega)
    have step : ∀ v : Int, (0 ≤ v ∧ v ≤ 99) → v = (if z = 0 then mm j (c (4 * i + j)) (c5 s (4 * b + j)) else c5 s (4 * b + j)) → ∃ c', f_Mo_bounds_item_L32 s (i : Int) z (5 + 4 * (b : Int)) k n ((j : Int) + 1) (up c (4 * i + j) v) = k 4 c' ∧ (∀ t, t < 4 → j ≤ t → c' (4 * i + t) = if z = 0 then mm t (c (4 * i + t)) (c5 s (4 * b + t)) else c5 s (4 * b + t)) ∧ (∀ q, (q < 4 * i + j ∨ 4 * i + 4 ≤ q) → c' q = c q) := by
      intro v hv0 hv
      obtain ⟨c', e1, e2, e3⟩ := side_goitem hi hb hs z hz k d (j + 1) n (up c (4 * i + j) v) (by omega) (by omega) (fun hz t ht => by
        by_cases htj : t = j
        · subst htj
          rw [up_s]
          exact hv0
        · rw [up_o (by omega)]
          exact hc hz t ht)
      refine ⟨c', ?_, fun t h1 h2 => ?_, fun q hq => by rw [e3 q (by omega), up_o (by omega)]⟩
      · rw [show (j : Int) + 1 = ((j + 1 : Nat) : Int) by omega]
        exact e1
      · by_cases htj : t = j
        · subst htj
          rw [e3 _ (by omega), up_s]
          exact hv
        · rw [e2 t h1 (by omega), up_o (by omega)]
    rw [f_Mo_bounds_item_L32, gd_p ⟨by omega, by omega⟩, if_pos (by omega), gd_p ⟨by omega, by omega⟩, gd_p ⟨by omega, by omega⟩, gd_p hz, show ((4 : Int) * (i : Int) + (j : Int)).toNat = 4 * i + j by omega, show ((5 : Int) + 4 * (b : Int) + (j : Int)).toNat = 5 + 4 * b + j by omega, m_side_step s b j]
    by_cases hz0 : z = 0
    · have hcj := hc hz0 j (by omega)
      rw [if_pos hz0]
      by_cases hj2 : j < 2
      · rw [if_pos (by omega), bd1_p (m_less ⟨by omega, by omega⟩ hck)]
        exact step _ (by omega) (by rw [if_pos hz0]; unfold mm; rw [if_pos hj2])
      · rw [if_neg (by omega), bd1_p (m_greater ⟨by omega, by omega⟩ hck)]
        exact step _ (by omega) (by rw [if_pos hz0]; unfold mm; rw [if_neg hj2])
    · rw [if_neg hz0]
      exact step _ hrs (by rw [if_neg hz0])
theorem bnd_goitem {s it lv : Nat → Int} {i : Nat} (hi : i < 12) (e : Nat) (he : e ≤ 360) (k : Int → Int → (Nat → Int) → Option (Nat → Int)) : ∀ (U : List Nat) (x n : Nat) (E : List Nat) (c : Nat → Int), x + U.length = e → U.length < n → (∀ j y, U[j]? = some y → it (x + j) = sg lv y ∧ okI lv y ∧ (y < 24 → rg (c5 s) y)) → (∀ y ∈ E, rg (c5 s) y) → (E ≠ [] → ∀ t, t < 4 → c (4 * i + t) = cu (c5 s) t E) → ∃ z c', f_Mo_bounds_item_L6 s it (e : Int) (i : Int) k n (if E = [] then 1 else 0) (x : Int) c = k z (e : Int) c' ∧ (E ++ bxs U ≠ [] → ∀ t, t < 4 → c' (4 * i + t) = cu (c5 s) t (E ++ bxs U)) ∧ oth i c c'
  | [], x, n + 1, E, c, hx, hn, hU, hE, hc => by
    have hx : x = e := by simpa using hx
    subst hx
    refine ⟨if E = [] then 1 else 0, c, ?_, fun h => by simp only [bxs, List.filter_nil, List.append_nil] at h ⊢; exact hc h, oth.rf⟩
    rw [f_Mo_bounds_item_L6, gd_p ⟨by omega, by omega⟩, gd_p ⟨by omega, by omega⟩, if_neg (by omega)]
  | y :: U, x, n + 1, E, c, hx, hn, hU, hE, hc => by
    simp only [List.length_cons] at hx hn
    have hy := hU 0 y rfl
    have hok := okI_ck hy.2.1
    have hU2 : ∀ j w, U[j]? = some w → it (x + 1 + j) = sg lv w ∧ okI lv w ∧ (w < 24 → rg (c5 s) w) := fun j w hw => by
      have := hU (j + 1) w (by simpa using hw)
      rw [show x + 1 + j = x + (j + 1) by omega]
      exact this
    rw [f_Mo_bounds_item_L6, gd_p ⟨by omega, by omega⟩, gd_p ⟨by omega, by omega⟩, if_pos (by omega), gd_p ⟨by omega, by omega⟩, show ((x : Int)).toNat = x + 0 by omega, hy.1, gd_p hok.1]
    by_cases hb : y < 24
    · have hrg := hy.2.2 hb
      obtain ⟨c1, e1, e2, e3⟩ := side_goitem (s := s) (b := y) hi hb hrg (if E = [] then 1 else 0) (by split <;> exact ⟨by omega, by omega⟩) (fun x8_20 c_rect_21 => f_Mo_bounds_item_L6 s it (e : Int) (i : Int) k n (0) (((x : Int) + 1)) (c_rect_21)) 4 0 FU c (by omega) (by unfold FU; omega) (fun hz => by
        have hE0 : E ≠ [] := fun q => by rw [if_pos q] at hz; omega
        intro t ht
        rw [hc hE0 t ht]
        exact cu_rg ht hE)
      have hE2 : ∀ w ∈ E ++ [y], rg (c5 s) w := fun w hw => by
        rcases List.mem_append.mp hw with h | h
        · exact hE w h
        · rw [List.mem_singleton.mp h]; exact hrg
      obtain ⟨z, c', g1, g2, g3⟩ := bnd_goitem hi e he k U (x + 1) n (E ++ [y]) c1 (by omega) (by omega) hU2 hE2 (fun _ t ht => by
        rw [e2 t ht (Nat.zero_le _), cu_snoc ht hrg]
        by_cases hE0 : E = []
        · subst hE0
          rw [if_neg (by rw [if_pos rfl]; omega)]
          exact ((mm_e0 (hrg t ht)).1).symm
        · rw [if_pos (by rw [if_neg hE0]), hc hE0 t ht])
      refine ⟨z, c', ?_, ?_, fun q hq => by rw [g3 q hq, e3 q (by omega)]⟩
      · rw [if_neg (by rw [hok.2.2]; omega), show sg lv y = (y : Int) from if_pos hb]
        rw [show (0 : Int) = ((0 : Nat) : Int) from rfl] at e1 ⊢
        rw [e1]
        rw [if_neg (by simp)] at g1
        exact g1
      · rw [show E ++ bxs (y :: U) = E ++ [y] ++ bxs U by simp [bxs, hb]]
        exact g2
    · obtain ⟨z, c', g1, g2, g3⟩ := bnd_goitem hi e he k U (x + 1) n E c (by omega) (by omega) hU2 hE hc
      refine ⟨z, c', ?_, ?_, g3⟩
      · rw [if_pos (by rw [hok.2.2]; omega), show ((x : Int) + 1) = ((x + 1 : Nat) : Int) by omega]
        exact g1
      · rw [show E ++ bxs (y :: U) = E ++ bxs U by simp [bxs, hb]]
        exact g2
/-- the union of the boxes at and below an item of the row -/
theorem boundsAt_sp {s lv : Nat → Int} {kl : Nat → List Nat} {Q P B : List Nat} {i k x : Nat} {c : Nat → Int} (hi : i < 12) (h : Row s lv P) (hk : Lk lv kl Q) (hx : x ∈ Q) (e : P.drop k = pr lv kl x ++ B) (hB : stops lv (lv x) B) (hb : ∀ y ∈ P, y < 24 → rg (c5 s) y) (hn : bxs (pr lv kl x) ≠ []) : ∃ c', f_Mo_boundsAt s c (k : Int) (i : Int) = some c' ∧ (∀ t, t < 4 → c' (4 * i + t) = cu (c5 s) t (bxs (pr lv kl x))) ∧ oth i c c' := by
  have hl := h.2.1
  have hkl : k < P.length := (drop_pr hk hx e).2.2
  have hlen : k + (pr lv kl x).length ≤ P.length := by
    have := congrArg List.length e
    rw [List.length_drop, List.length_append] at this
    omega
  obtain ⟨z, c', g1, g2, g3⟩ := bnd_gos (s := s) (lv := lv) hi (101 + (k + (pr lv kl x).length)) (by omega) (fun x5_22 x6_23 c_rect_24 => some (c_rect_24)) (pr lv kl x) (101 + k) FU [] c (by omega) (by unfold FU; omega) (fun j y hy => by
    have h1 : P[k + j]? = some y := by
      rw [← List.getElem?_drop, e, List.getElem?_append_left (List.getElem?_eq_some_iff.mp hy).1]
      exact hy
    refine ⟨by rw [show 101 + k + j = 101 + (k + j) by omega]; exact h.2.2.1 _ _ h1, h.2.2.2 y (List.mem_of_getElem? h1), fun hy24 => hb y (List.mem_of_getElem? h1) hy24⟩) (fun _ hy => by cases hy) (fun q => absurd rfl q)
  refine ⟨c', ?_, ?_, g3⟩
  · unfold f_Mo_boundsAt f_Mo_bounds_s
    rw [bd1_p (end_pr h hk hx e hB), show (101 : Int) + ((k + (pr lv kl x).length : Nat) : Int) = ((101 + (k + (pr lv kl x).length) : Nat) : Int) by omega, show (101 : Int) + (k : Int) = ((101 + k : Nat) : Int) by omega]
    rw [if_pos rfl] at g1
    rw [g1]
    rfl
  · exact g2 (by simpa using hn)
/-- the union of the boxes of what is laid out -/
theorem boundsItem_sp {s it lv : Nat → Int} {I : List Nat} {i : Nat} {c : Nat → Int} (hi : i < 12) (hI : ∀ j y, I[j]? = some y → it j = sg lv y ∧ okI lv y ∧ (y < 24 → rg (c5 s) y)) (hl : I.length ≤ 360) (hn : bxs I ≠ []) : ∃ c', f_Mo_bounds_item s c it 0 (I.length : Int) (i : Int) = some c' ∧ (∀ t, t < 4 → c' (4 * i + t) = cu (c5 s) t (bxs I)) ∧ oth i c c' := by
  obtain ⟨z, c', g1, g2, g3⟩ := bnd_goitem (s := s) (it := it) (lv := lv) hi I.length hl (fun x5_22 x6_23 c_rect_24 => some (c_rect_24)) I 0 FU [] c (by omega) (by unfold FU; omega) (fun j y hy => by rw [Nat.zero_add]; exact hI j y hy) (fun _ hy => by cases hy) (fun q => absurd rfl q)
  refine ⟨c', ?_, g2 (by simpa using hn), g3⟩
  unfold f_Mo_bounds_item
  rw [if_pos rfl] at g1
  exact g1
/-- corners that are right at each node are the unions of the boxes below -/
theorem cor_boxes {lv c : Nat → Int} {kl : Nat → List Nat} {Q : List Nat} (hk : Lk lv kl Q) (hlv : ∀ x ∈ Q, (x < 24 ↔ lv x = -1)) (hr : ∀ x ∈ Q, x < 24 → rg c x) (hc : ∀ x ∈ Q, 24 ≤ x → kl x ≠ [] → ∀ t, t < 4 → c (4 * x + t) = cu c t (kl x)) (hne : ∀ x ∈ Q, 24 ≤ x → (∃ w ∈ Q, x ∈ kl w) → kl x ≠ []) : ∀ x ∈ Q, (24 ≤ x → kl x ≠ []) → rg c x ∧ bxs (pr lv kl x) ≠ [] ∧ ∀ t, t < 4 → c (4 * x + t) = cu c t (bxs (pr lv kl x)) := by
  refine lv_ind hk _ (fun x hx ih hxn => ?_)
  have h1 := Lk_at hk hx
  rw [pr_eq h1]
  by_cases hb : x < 24
  · have h2 := (hlv x hx).mp hb
    have : bxs (x :: prs lv kl (kl x)) = [x] := by rw [h1.2.1 h2]; simp [bxs, prs_nil, hb]
    rw [this]
    exact ⟨hr x hx hb, by simp, fun t ht => (cu_one ht (hr x hx hb)).symm⟩
  · have h3 := hxn (by omega)
    have hall : ∀ L : List Nat, (∀ y ∈ L, y ∈ kl x) → (∀ y ∈ L, rg c y) ∧ (∀ y ∈ bxs (prs lv kl L), rg c y) ∧ (L ≠ [] → bxs (prs lv kl L) ≠ []) ∧ ∀ t, t < 4 → cu c t L = cu c t (bxs (prs lv kl L)) := by
      intro L
      induction L with
      | nil => intro _; exact ⟨fun _ h => (by cases h), fun _ h => (by cases h), fun h => absurd rfl h, fun _ _ => rfl⟩
      | cons a L ihL =>
        intro hL
        obtain ⟨i1, i2, i3, i4⟩ := ihL (fun y hy => hL y (List.mem_cons_of_mem _ hy))
        have ha := hL a List.mem_cons_self
        obtain ⟨j1, j2, j3⟩ := ih a ha (fun h => hne a (Lk_kid hk hx ha).1 h ⟨x, hx, ha⟩)
        have hbx : ∀ y ∈ bxs (pr lv kl a), rg c y := fun y hy => by
          obtain ⟨q1, q2⟩ := bxs_mem.mp hy
          exact hr y (pr_in hk a (Lk_kid hk hx ha).1 y q1).1 q2
        rw [prs_cons, bxs_app]
        refine ⟨fun y hy => ?_, fun y hy => ?_, fun _ q => j2 (List.append_eq_nil_iff.mp q).1, fun t ht => ?_⟩
        · rcases List.mem_cons.mp hy with rfl | hy
          · exact j1
          · exact i1 y hy
        · rcases List.mem_append.mp hy with hy | hy
          · exact hbx y hy
          · exact i2 y hy
        · rw [cu_app ht i2, ← i4 t ht, ← j3 t ht]
          rfl
    obtain ⟨i1, i2, i3, i4⟩ := hall (kl x) (fun _ h => h)
    have hbx : bxs (x :: prs lv kl (kl x)) = bxs (prs lv kl (kl x)) := by simp [bxs, hb]
    rw [hbx]
    have hcc := hc x hx (by omega) h3
    exact ⟨fun t ht => by rw [hcc t ht]; exact cu_rg ht i1, i3 h3, fun t ht => by rw [hcc t ht, i4 t ht]⟩
