/-! the reference's row: its signs, and what its walks along it answer -/
def sg (lv : Nat → Int) (x : Nat) : Int := if x < 24 then (x : Int) else -1 - lv x
def okI (lv : Nat → Int) (x : Nat) : Prop := (x < 24 → lv x = -1) ∧ (24 ≤ x → 0 ≤ lv x ∧ lv x ≤ 40) ∧ x < 1000
def Row (s lv : Nat → Int) (P : List Nat) : Prop := s 4 = (P.length : Int) ∧ P.length ≤ 360 ∧ (∀ k x, P[k]? = some x → s (101 + k) = sg lv x) ∧ ∀ x ∈ P, okI lv x
theorem drop_cons {α : Type} {P t : List α} {i : Nat} {y : α} (h : P.drop i = y :: t) : P[i]? = some y ∧ P.drop (i + 1) = t := by
  constructor
  · have := congrArg (fun l => l[0]?) h
    simpa [List.getElem?_drop] using this
  · have := congrArg List.tail h
    simpa [List.tail_drop] using this
theorem drop_app {α : Type} {P u t : List α} {i : Nat} (h : P.drop i = u ++ t) : P.drop (i + u.length) = t := by
  rw [← List.drop_drop, h, List.drop_append_of_le_length (Nat.le_refl _), List.drop_length, List.nil_append]
theorem drop_nil {α : Type} {P : List α} {i : Nat} (h : P.drop i = []) : P.length ≤ i := List.drop_eq_nil_iff.mp h
theorem drop_lt {α : Type} {P t : List α} {i : Nat} {y : α} (h : P.drop i = y :: t) : i < P.length := (List.getElem?_eq_some_iff.mp (drop_cons h).1).1
theorem drop_here {α : Type} (A : List α) (t : List α) : (A ++ t).drop A.length = t := by rw [List.drop_append_of_le_length (Nat.le_refl _), List.drop_length, List.nil_append]
theorem okI_ck {lv : Nat → Int} {x : Nat} (h : okI lv x) : ck (sg lv x) ∧ ck (lv x) ∧ (sg lv x < 0 ↔ 24 ≤ x) := by
  obtain ⟨h1, h2, h3⟩ := h
  unfold sg ck
  by_cases hx : x < 24
  · have := h1 hx
    rw [if_pos hx]
    omega
  · have := h2 (by omega)
    rw [if_neg hx]
    omega
theorem row_at {s lv : Nat → Int} {P : List Nat} (h : Row s lv P) {k x : Nat} (hx : P[k]? = some x) : f_Mo_at s (k : Int) = some (sg lv x) := by
  have hk : k < P.length := (List.getElem?_eq_some_iff.mp hx).1
  have := h.2.1
  unfold f_Mo_at
  rw [gd_p (by omega), show ((101 : Int) + (k : Int)).toNat = 101 + k by omega, h.2.2.1 k x hx]
theorem row_ok {s lv : Nat → Int} {P : List Nat} (h : Row s lv P) {k x : Nat} (hx : P[k]? = some x) : okI lv x := h.2.2.2 x (List.mem_of_getElem? hx)
theorem levelOf_sg {lv : Nat → Int} {x : Nat} (h : okI lv x) : f_Mo_levelOf (sg lv x) = some (lv x) := by
  have hc := okI_ck h
  unfold f_Mo_levelOf
  rw [gd_p hc.1]
  obtain ⟨h1, h2, h3⟩ := h
  by_cases hx : x < 24
  · rw [if_neg (by rw [hc.2.2]; omega), h1 hx]
  · rw [if_pos (by rw [hc.2.2]; omega)]
    unfold sg
    rw [if_neg hx]
    congr 1
    omega
theorem row_lev {s lv : Nat → Int} {P : List Nat} (h : Row s lv P) {k x : Nat} (hx : P[k]? = some x) : f_Mo_levelAt s (k : Int) = some (lv x) := by
  unfold f_Mo_levelAt
  rw [bd1_p (row_at h hx), bd1_p (levelOf_sg (row_ok h hx))]
theorem endOf_go {s lv : Nat → Int} {P : List Nat} (h : Row s lv P) {a x : Nat} (hx : P[a]? = some x) (k : Int → Option Int) : ∀ (S B : List Nat) (i n : Nat), P.drop i = S ++ B → i ≤ P.length → (∀ y ∈ S, lv y < lv x) → stops lv (lv x) B → S.length < n → f_Mo_endOf_L4 s (a : Int) k n (i : Int) = k ((i + S.length : Nat) : Int)
  | [], B, i, n + 1, hd, hi, _, hB, _ => by
    have hl := h.2.1
    rw [f_Mo_endOf_L4]
    unfold f_Mo_length
    rw [bd1_p rfl, h.1]
    cases B with
    | nil =>
      have := drop_nil hd
      rw [gd_p ⟨by omega, by omega⟩, gd_p ⟨by omega, by omega⟩, if_neg (by omega)]
      simp
    | cons y t =>
      have hy := drop_cons hd
      have hlt := drop_lt hd
      have := hB y t rfl
      rw [gd_p ⟨by omega, by omega⟩, gd_p ⟨by omega, by omega⟩, if_pos (by omega), bd1_p (row_lev h hy.1), bd1_p (row_lev h hx), gd_p (okI_ck (row_ok h hy.1)).2.1, gd_p (okI_ck (row_ok h hx)).2.1, if_neg (by omega)]
      simp
  | y :: S, B, i, n + 1, hd, hi, hS, hB, hn => by
    have hl := h.2.1
    have hy := drop_cons hd
    have hlt := drop_lt hd
    have h1 := hS y List.mem_cons_self
    rw [f_Mo_endOf_L4]
    unfold f_Mo_length
    rw [bd1_p rfl, h.1, gd_p ⟨by omega, by omega⟩, gd_p ⟨by omega, by omega⟩, if_pos (by omega), bd1_p (row_lev h hy.1), bd1_p (row_lev h hx), gd_p (okI_ck (row_ok h hy.1)).2.1, gd_p (okI_ck (row_ok h hx)).2.1, if_pos (by omega)]
    have := endOf_go h hx k S B (i + 1) n hy.2 (by omega) (fun z hz => hS z (List.mem_cons_of_mem _ hz)) hB (by simp at hn; omega)
    rw [show ((i : Int) + 1) = ((i + 1 : Nat) : Int) by omega, this]
    congr 2
    simp
    omega
theorem endOf_at {s lv : Nat → Int} {P S B : List Nat} {i x : Nat} (h : Row s lv P) (e : P.drop i = x :: (S ++ B)) (hS : ∀ y ∈ S, lv y < lv x) (hB : stops lv (lv x) B) : f_Mo_endOf s (i : Int) = some ((i + 1 + S.length : Nat) : Int) := by
  have hx := drop_cons e
  have hlt := drop_lt e
  have hl := h.2.1
  have hlen : S.length ≤ 360 := by
    have := congrArg List.length hx.2
    rw [List.length_drop, List.length_append] at this
    omega
  unfold f_Mo_endOf
  rw [show ((i : Int) + 1) = ((i + 1 : Nat) : Int) by omega, endOf_go h hx.1 _ S B (i + 1) FU hx.2 (by omega) hS hB (by unfold FU; omega)]
theorem above_go {s lv : Nat → Int} {P : List Nat} (h : Row s lv P) {a x b z : Nat} (hx : P[a]? = some x) (hz : P[b]? = some z) (hzl : lv x < lv z) (k : Int → Option Int) : ∀ (d n : Nat), (∀ j, b < j → j ≤ b + d → ∃ y, P[j]? = some y ∧ lv y ≤ lv x) → d < n → f_Mo_above_L4 s (a : Int) k n ((b + d : Nat) : Int) = k (b : Int)
  | 0, n + 1, _, _ => by
    have hl := h.2.1
    have hb : b < P.length := (List.getElem?_eq_some_iff.mp hz).1
    rw [f_Mo_above_L4, gd_p ⟨by omega, by omega⟩, if_neg (by omega), Nat.add_zero, bd1_p (row_lev h hz), bd1_p (row_lev h hx), gd_p (okI_ck (row_ok h hz)).2.1, gd_p (okI_ck (row_ok h hx)).2.1, if_pos hzl]
  | d + 1, n + 1, hj, hn => by
    have hl := h.2.1
    obtain ⟨y, hy, hyl⟩ := hj (b + (d + 1)) (by omega) (Nat.le_refl _)
    have hb : b + (d + 1) < P.length := (List.getElem?_eq_some_iff.mp hy).1
    rw [f_Mo_above_L4, gd_p ⟨by omega, by omega⟩, if_neg (by omega), bd1_p (row_lev h hy), bd1_p (row_lev h hx), gd_p (okI_ck (row_ok h hy)).2.1, gd_p (okI_ck (row_ok h hx)).2.1, if_neg (by omega), show (((b + (d + 1) : Nat) : Int) + -1) = ((b + d : Nat) : Int) by omega]
    exact above_go h hx hz hzl k d n (fun j h1 h2 => hj j h1 (by omega)) (by omega)
theorem above_at {s lv : Nat → Int} {P : List Nat} (h : Row s lv P) {a x b z : Nat} (hx : P[a]? = some x) (hz : P[b]? = some z) (hzl : lv x < lv z) (hba : b < a) (hj : ∀ j y, b < j → j < a → P[j]? = some y → lv y ≤ lv x) : f_Mo_above s (a : Int) = some (b : Int) := by
  have hl := h.2.1
  have ha : a < P.length := (List.getElem?_eq_some_iff.mp hx).1
  unfold f_Mo_above
  rw [show ((a : Int) - 1) = ((b + (a - 1 - b) : Nat) : Int) by omega]
  exact above_go h hx hz hzl _ (a - 1 - b) FU (fun j h1 h2 => ⟨P[j]'(by omega), by simp, hj j _ h1 (by omega) (by simp)⟩) (by unfold FU; omega)
/-- a part of the row: an item with all below it, then something that stops it -/
theorem end_pr {s lv : Nat → Int} {kl : Nat → List Nat} {Q P B : List Nat} {i x : Nat} (h : Row s lv P) (hk : Lk lv kl Q) (hx : x ∈ Q) (e : P.drop i = pr lv kl x ++ B) (hB : stops lv (lv x) B) : f_Mo_endOf s (i : Int) = some ((i + (pr lv kl x).length : Nat) : Int) := by
  have h1 := pr_eq (Lk_at hk hx)
  have h2 : f_Mo_endOf s (i : Int) = some ((i + 1 + (prs lv kl (kl x)).length : Nat) : Int) := by
    refine endOf_at (x := x) (B := B) h (by rw [e, h1]; rfl) (fun y hy => ?_) hB
    obtain ⟨z, hz, hy⟩ := mem_prs.mp hy
    have h3 := Lk_kid hk hx hz
    have := (pr_in hk z h3.1 y hy).2.1
    omega
  rw [h2, h1, List.length_cons]
  exact congrArg some (by omega)
theorem drop_pr {lv : Nat → Int} {kl : Nat → List Nat} {Q P B : List Nat} {i x : Nat} (hk : Lk lv kl Q) (hx : x ∈ Q) (e : P.drop i = pr lv kl x ++ B) : P[i]? = some x ∧ P.drop (i + 1) = prs lv kl (kl x) ++ B ∧ i < P.length := by
  rw [pr_eq (Lk_at hk hx)] at e
  have := drop_cons e
  exact ⟨this.1, this.2, drop_lt e⟩
theorem stops_kids {lv : Nat → Int} {kl : Nat → List Nat} {Q B : List Nat} {l : Int} (hk : Lk lv kl Q) {L : List Nat} (hL : ∀ y ∈ L, y ∈ Q ∧ lv y = l) (hB : stops lv (l + 1) B) : stops lv l (prs lv kl L ++ B) := stops_prs hk (fun y hy => ⟨(hL y hy).1, by rw [(hL y hy).2]; exact Int.le_refl _⟩) (stops_le hB (by omega))
theorem prs_len {lv : Nat → Int} {kl : Nat → List Nat} {Q : List Nat} (hk : Lk lv kl Q) : ∀ L : List Nat, (∀ y ∈ L, y ∈ Q) → L.length ≤ (prs lv kl L).length
  | [], _ => Nat.le_refl _
  | a :: L, h => by
    have := prs_len hk L (fun y hy => h y (List.mem_cons_of_mem _ hy))
    rw [prs_cons, List.length_append, pr_eq (Lk_at hk (h a List.mem_cons_self))]
    simp
    omega
theorem entries_go {s lv : Nat → Int} {kl : Nat → List Nat} {Q P B : List Nat} {l : Int} (h : Row s lv P) (hk : Lk lv kl Q) (hB : stops lv (l + 1) B) (e : Nat) (k : Int → Int → Option Int) : ∀ (L : List Nat) (c i n : Nat), P.drop i = prs lv kl L ++ B → (∀ q ∈ L, q ∈ Q ∧ lv q = l) → i + (prs lv kl L).length = e → e ≤ 360 → L.length < n → f_Mo_entriesOf_L13 s (e : Int) k n (c : Int) (i : Int) = k ((c + L.length : Nat) : Int) (e : Int)
  | [], c, i, n + 1, _, _, he, h3, _ => by
    rw [prs_nil] at he
    simp at he
    subst he
    rw [f_Mo_entriesOf_L13, gd_p ⟨by omega, by omega⟩, gd_p ⟨by omega, by omega⟩, if_neg (by omega)]
    simp
  | y :: L, c, i, n + 1, hd, hs, he, h3, hn => by
    have hy := hs y List.mem_cons_self
    have hL : ∀ z ∈ L, z ∈ Q ∧ lv z = l := fun z hz => hs z (List.mem_cons_of_mem _ hz)
    rw [prs_cons, List.append_assoc] at hd
    rw [prs_cons, List.length_append] at he
    have hp : 0 < (pr lv kl y).length := by rw [pr_eq (Lk_at hk hy.1)]; simp
    rw [f_Mo_entriesOf_L13, gd_p ⟨by omega, by omega⟩, gd_p ⟨by omega, by omega⟩, if_pos (by omega), bd1_p (end_pr h hk hy.1 hd (by rw [hy.2]; exact stops_kids hk hL hB)), show ((c : Int) + 1) = ((c + 1 : Nat) : Int) by omega, entries_go h hk hB e k L (c + 1) (i + (pr lv kl y).length) n (drop_app hd) hL (by omega) h3 (by simp at hn; omega)]
    congr 2
    simp
    omega
theorem entries_at {s lv : Nat → Int} {kl : Nat → List Nat} {Q P B : List Nat} {i x : Nat} (h : Row s lv P) (hk : Lk lv kl Q) (hx : x ∈ Q) (e : P.drop i = pr lv kl x ++ B) (hB : stops lv (lv x) B) : f_Mo_entriesOf s (i : Int) = some ((kl x).length : Int) := by
  have h1 := drop_pr hk hx e
  have hl := h.2.1
  have hpr : (pr lv kl x).length = 1 + (prs lv kl (kl x)).length := by rw [pr_eq (Lk_at hk hx)]; simp; omega
  have hlen : i + 1 + (prs lv kl (kl x)).length ≤ 360 := by
    have := congrArg List.length h1.2.1
    rw [List.length_drop, List.length_append] at this
    omega
  have hkd : ∀ y ∈ kl x, y ∈ Q ∧ lv y = lv x - 1 := fun y hy => Lk_kid hk hx hy
  have hfl := prs_len hk (kl x) (fun y hy => (hkd y hy).1)
  unfold f_Mo_entriesOf
  rw [bd1_p (end_pr h hk hx e hB), hpr, show i + (1 + (prs lv kl (kl x)).length) = i + 1 + (prs lv kl (kl x)).length by omega, show ((i : Int) + 1) = ((i + 1 : Nat) : Int) by omega, show (0 : Int) = ((0 : Nat) : Int) from rfl, entries_go h hk (B := B) (by rw [show lv x - 1 + 1 = lv x by omega]; exact hB) (i + 1 + (prs lv kl (kl x)).length) _ (kl x) 0 (i + 1) FU h1.2.1 hkd rfl (by omega) (by unfold FU; omega)]
  simp
