/-! trees as lists of items in preorder: `kl` gives each item its entries -/
def pre (kl : Nat → List Nat) : Nat → Nat → List Nat
  | 0, x => [x]
  | n + 1, x => x :: (kl x).flatMap (pre kl n)
/-- kl hangs together with the levels: an entry is one level lower; what is on the level -1 has none -/
def lvk (lv : Nat → Int) (kl : Nat → List Nat) (x : Nat) : Prop := -1 ≤ lv x ∧ (lv x = -1 → kl x = []) ∧ ∀ y ∈ kl x, lv y = lv x - 1
/-- the fuel of an item -/
def fu (lv : Nat → Int) (x : Nat) : Nat := (lv x + 1).toNat
def pr (lv : Nat → Int) (kl : Nat → List Nat) (x : Nat) : List Nat := pre kl (fu lv x) x
def prs (lv : Nat → Int) (kl : Nat → List Nat) (L : List Nat) : List Nat := L.flatMap (pr lv kl)
theorem prs_nil {lv : Nat → Int} {kl : Nat → List Nat} : prs lv kl [] = [] := rfl
theorem prs_cons {lv : Nat → Int} {kl : Nat → List Nat} (x : Nat) (L : List Nat) : prs lv kl (x :: L) = pr lv kl x ++ prs lv kl L := rfl
theorem prs_app {lv : Nat → Int} {kl : Nat → List Nat} (L M : List Nat) : prs lv kl (L ++ M) = prs lv kl L ++ prs lv kl M := List.flatMap_append
theorem pr_eq {lv : Nat → Int} {kl : Nat → List Nat} {x : Nat} (h : lvk lv kl x) : pr lv kl x = x :: prs lv kl (kl x) := by
  obtain ⟨h1, h2, h3⟩ := h
  unfold pr prs fu
  by_cases hx : lv x = -1
  · rw [hx, h2 hx]
    rfl
  · obtain ⟨n, hn⟩ : ∃ n : Nat, lv x = (n : Int) := ⟨(lv x).toNat, by omega⟩
    rw [show (lv x + 1).toNat = n + 1 by omega]
    show x :: (kl x).flatMap (pre kl n) = _
    congr 1
    have : ∀ L : List Nat, (∀ y ∈ L, lv y = lv x - 1) → L.flatMap (pre kl n) = L.flatMap (pr lv kl) := by
      intro L
      induction L with
      | nil => intro _; rfl
      | cons a L ih =>
        intro hL
        rw [List.flatMap_cons, List.flatMap_cons, ih (fun y hy => hL y (List.mem_cons_of_mem _ hy))]
        congr 1
        unfold pr fu
        rw [hL a List.mem_cons_self, show (lv x - 1 + 1).toNat = n by omega]
    exact this _ h3
/-- everything of a list hangs together -/
def Lk (lv : Nat → Int) (kl : Nat → List Nat) (Q : List Nat) : Prop := ∀ x ∈ Q, lvk lv kl x ∧ ∀ y ∈ kl x, y ∈ Q
theorem Lk_at {lv : Nat → Int} {kl : Nat → List Nat} {Q : List Nat} {x : Nat} (h : Lk lv kl Q) (hx : x ∈ Q) : lvk lv kl x := (h x hx).1
theorem Lk_kid {lv : Nat → Int} {kl : Nat → List Nat} {Q : List Nat} {x y : Nat} (h : Lk lv kl Q) (hx : x ∈ Q) (hy : y ∈ kl x) : y ∈ Q ∧ lv y = lv x - 1 := ⟨(h x hx).2 y hy, (h x hx).1.2.2 y hy⟩
/-- induction along the levels -/
theorem lv_ind {lv : Nat → Int} {kl : Nat → List Nat} {Q : List Nat} (h : Lk lv kl Q) (C : Nat → Prop) (step : ∀ x ∈ Q, (∀ y ∈ kl x, C y) → C x) : ∀ x ∈ Q, C x := by
  have : ∀ (n : Nat) (x : Nat), x ∈ Q → fu lv x ≤ n → C x := by
    intro n
    induction n with
    | zero =>
      intro x hx hn
      have h1 := Lk_at h hx
      refine step x hx (fun y hy => ?_)
      have : lv x = -1 := by have := h1.1; unfold fu at hn; omega
      rw [h1.2.1 this] at hy
      cases hy
    | succ n ih =>
      intro x hx hn
      refine step x hx (fun y hy => ?_)
      have h2 := Lk_kid h hx hy
      refine ih y h2.1 ?_
      unfold fu at hn ⊢
      have := (Lk_at h h2.1).1
      omega
  exact fun x hx => this _ x hx (Nat.le_refl _)
theorem pr_self {lv : Nat → Int} {kl : Nat → List Nat} {x : Nat} (h : lvk lv kl x) : x ∈ pr lv kl x := by rw [pr_eq h]; exact List.mem_cons_self
theorem mem_prs {lv : Nat → Int} {kl : Nat → List Nat} {L : List Nat} {z : Nat} : z ∈ prs lv kl L ↔ ∃ y ∈ L, z ∈ pr lv kl y := List.mem_flatMap
/-- what lies in a tree -/
theorem pr_in {lv : Nat → Int} {kl : Nat → List Nat} {Q : List Nat} (h : Lk lv kl Q) : ∀ x ∈ Q, ∀ z ∈ pr lv kl x, z ∈ Q ∧ lv z ≤ lv x ∧ (lv z = lv x → z = x) := by
  refine lv_ind h _ (fun x hx ih z hz => ?_)
  rw [pr_eq (Lk_at h hx)] at hz
  rcases List.mem_cons.mp hz with rfl | hz
  · exact ⟨hx, Int.le_refl _, fun _ => rfl⟩
  · obtain ⟨y, hy, hz⟩ := mem_prs.mp hz
    have h1 := ih y hy z hz
    have h2 := Lk_kid h hx hy
    exact ⟨h1.1, by omega, fun q => by omega⟩
/-- a tree closed below: the entries of what lies in it lie in it -/
theorem pr_kid {lv : Nat → Int} {kl : Nat → List Nat} {Q : List Nat} (h : Lk lv kl Q) : ∀ x ∈ Q, ∀ z ∈ pr lv kl x, ∀ y ∈ kl z, y ∈ pr lv kl x := by
  refine lv_ind h _ (fun x hx ih z hz y hy => ?_)
  rw [pr_eq (Lk_at h hx)] at hz ⊢
  rcases List.mem_cons.mp hz with rfl | hz
  · exact List.mem_cons_of_mem _ (mem_prs.mpr ⟨y, hy, pr_self (Lk_at h (Lk_kid h hx hy).1)⟩)
  · obtain ⟨w, hw, hz⟩ := mem_prs.mp hz
    exact List.mem_cons_of_mem _ (mem_prs.mpr ⟨w, hw, ih w hw z hz y hy⟩)
/-- each item of a tree but the top is an entry of one of its items -/
theorem pr_up {lv : Nat → Int} {kl : Nat → List Nat} {Q : List Nat} (h : Lk lv kl Q) : ∀ x ∈ Q, ∀ z ∈ pr lv kl x, z ≠ x → ∃ w ∈ pr lv kl x, z ∈ kl w := by
  refine lv_ind h _ (fun x hx ih z hz hn => ?_)
  rw [pr_eq (Lk_at h hx)] at hz ⊢
  rcases List.mem_cons.mp hz with rfl | hz
  · exact absurd rfl hn
  · obtain ⟨y, hy, hz⟩ := mem_prs.mp hz
    by_cases hzy : z = y
    · subst hzy
      exact ⟨x, List.mem_cons_self, hy⟩
    · obtain ⟨w, h1, h2⟩ := ih y hy z hz hzy
      exact ⟨w, List.mem_cons_of_mem _ (mem_prs.mpr ⟨y, hy, h1⟩), h2⟩
/-- trees don't see what isn't in them -/
theorem pr_same {lv lv' : Nat → Int} {kl kl' : Nat → List Nat} {Q : List Nat} (h : Lk lv kl Q) : ∀ x ∈ Q, (∀ z ∈ pr lv kl x, kl' z = kl z ∧ lv' z = lv z) → pr lv' kl' x = pr lv kl x := by
  refine lv_ind h _ (fun x hx ih hs => ?_)
  have hx1 := Lk_at h hx
  have h0 := hs x (pr_self hx1)
  have hx2 : lvk lv' kl' x := by
    refine ⟨by rw [h0.2]; exact hx1.1, fun q => by rw [h0.1]; exact hx1.2.1 (by rw [← h0.2]; exact q), fun y hy => ?_⟩
    rw [h0.1] at hy
    have hy2 := Lk_kid h hx hy
    have := hs y (pr_kid h x hx x (pr_self hx1) y hy)
    rw [this.2, h0.2]
    exact hy2.2
  rw [pr_eq hx1, pr_eq hx2, h0.1]
  congr 1
  rw [pr_eq hx1] at hs
  have : ∀ L : List Nat, (∀ y ∈ L, y ∈ kl x) → prs lv' kl' L = prs lv kl L := by
    intro L
    induction L with
    | nil => intro _; rfl
    | cons a L ihL =>
      intro hL
      rw [prs_cons, prs_cons, ihL (fun y hy => hL y (List.mem_cons_of_mem _ hy)), ih a (hL a List.mem_cons_self) (fun z hz => hs z (List.mem_cons_of_mem _ (mem_prs.mpr ⟨a, hL a List.mem_cons_self, hz⟩)))]
  exact this _ (fun _ hy => hy)
theorem prs_same {lv lv' : Nat → Int} {kl kl' : Nat → List Nat} {Q : List Nat} (h : Lk lv kl Q) : ∀ L : List Nat, (∀ x ∈ L, x ∈ Q) → (∀ z ∈ prs lv kl L, kl' z = kl z ∧ lv' z = lv z) → prs lv' kl' L = prs lv kl L := by
  intro L
  induction L with
  | nil => intro _ _; rfl
  | cons a L ih =>
    intro hL hs
    rw [prs_cons] at hs ⊢
    rw [prs_cons, pr_same h a (hL a List.mem_cons_self) (fun z hz => hs z (List.mem_append_left _ hz)), ih (fun x hx => hL x (List.mem_cons_of_mem _ hx)) (fun z hz => hs z (List.mem_append_right _ hz))]
/-- what comes next stops a segment of level l -/
def stops (lv : Nat → Int) (l : Int) (w : List Nat) : Prop := ∀ y t, w = y :: t → l ≤ lv y
theorem stops_nil {lv : Nat → Int} {l : Int} : stops lv l [] := fun _ _ h => by cases h
theorem stops_cons {lv : Nat → Int} {l : Int} {y : Nat} {t : List Nat} (h : l ≤ lv y) : stops lv l (y :: t) := fun _ _ e => by cases e; exact h
theorem stops_le {lv : Nat → Int} {l l' : Int} {w : List Nat} (h : stops lv l w) (hl : l' ≤ l) : stops lv l' w := fun y t e => Int.le_trans hl (h y t e)
theorem stops_prs {lv : Nat → Int} {kl : Nat → List Nat} {Q : List Nat} {l : Int} (h : Lk lv kl Q) {L w : List Nat} (hL : ∀ y ∈ L, y ∈ Q ∧ l ≤ lv y) (hw : stops lv l w) : stops lv l (prs lv kl L ++ w) := by
  cases L with
  | nil => exact hw
  | cons a L =>
    have ha := hL a List.mem_cons_self
    rw [prs_cons, pr_eq (Lk_at h ha.1)]
    exact stops_cons ha.2
/-- the place of an item in a tree, and what becomes of the tree when only the part below the item changes -/
theorem ctx {lv : Nat → Int} {kl : Nat → List Nat} {Q : List Nat} (h : Lk lv kl Q) (x : Nat) : ∀ r ∈ Q, x ∈ pr lv kl r → ∃ A B, pr lv kl r = A ++ (pr lv kl x ++ B) ∧ (∀ B', stops lv (lv r) B' → stops lv (lv x) (B ++ B')) ∧ (r = x → A = [] ∧ B = []) ∧ ∀ (lv' : Nat → Int) (kl' : Nat → List Nat), (∀ z ∈ A ++ B, kl' z = kl z ∧ lv' z = lv z) → lv' x = lv x → pr lv' kl' r = A ++ (pr lv' kl' x ++ B) := by
  refine lv_ind h _ (fun r hr ih hx => ?_)
  by_cases hrx : r = x
  · subst hrx
    refine ⟨[], [], by simp, fun B' hB => hB, fun _ => ⟨rfl, rfl⟩, fun lv' kl' _ _ => by simp⟩
  · have hr1 := Lk_at h hr
    rw [pr_eq hr1] at hx
    have hx2 := (List.mem_cons.mp hx).resolve_left (fun e => hrx e.symm)
    obtain ⟨y, hy, hxy⟩ := mem_prs.mp hx2
    have hyq := Lk_kid h hr hy
    obtain ⟨A, B, e1, e2, e4, e3⟩ := ih y hy hxy
    obtain ⟨k1, k2, ek⟩ := List.append_of_mem hy
    have hxl := (pr_in h y hyq.1 x hxy).2.1
    refine ⟨r :: (prs lv kl k1 ++ A), B ++ prs lv kl k2, ?_, ?_, fun q => absurd q hrx, ?_⟩
    · rw [pr_eq hr1, ek, prs_app, prs_cons, e1]
      simp
    · intro B' hB
      rw [List.append_assoc]
      refine e2 _ (stops_prs h (fun z hz => ?_) (stops_le hB (by omega)))
      have := Lk_kid h hr (y := z) (by rw [ek]; simp [hz])
      exact ⟨this.1, by omega⟩
    · intro lv' kl' hs hlx
      have hr0 := hs r (by simp)
      have hk1 : prs lv' kl' k1 = prs lv kl k1 := prs_same h k1 (fun z hz => (Lk_kid h hr (y := z) (by rw [ek]; simp [hz])).1) (fun z hz => hs z (by simp [hz]))
      have hk2 : prs lv' kl' k2 = prs lv kl k2 := prs_same h k2 (fun z hz => (Lk_kid h hr (y := z) (by rw [ek]; simp [hz])).1) (fun z hz => hs z (by simp [hz]))
      have hyy : lv' y = lv y := by
        by_cases hyx : y = x
        · rw [hyx]; exact hlx
        · have : y ∈ A := by
            have hm : y ∈ pr lv kl y := pr_self (Lk_at h hyq.1)
            have h5 := pr_eq (Lk_at h hyq.1)
            rw [e1] at h5
            cases A with
            | nil =>
              have hxq := (pr_in h y hyq.1 x hxy).1
              rw [pr_eq (Lk_at h hxq)] at h5
              simp at h5
              exact absurd h5.1.symm hyx
            | cons a A => simp at h5; simp [h5.1]
          exact (hs y (by simp [this])).2
      have hr2 : lvk lv' kl' r := by
        refine ⟨by rw [hr0.2]; exact hr1.1, fun q => by rw [hr0.1]; exact hr1.2.1 (by rw [← hr0.2]; exact q), fun z hz => ?_⟩
        rw [hr0.1] at hz
        have hzl := (Lk_kid h hr hz)
        rw [ek] at hz
        rcases List.mem_append.mp hz with h6 | h6
        · rw [(hs z (by simp [mem_prs.mpr ⟨z, h6, pr_self (Lk_at h hzl.1)⟩])).2, hr0.2]; exact hzl.2
        · rcases List.mem_cons.mp h6 with rfl | h6
          · rw [hyy, hr0.2]; exact hzl.2
          · rw [(hs z (by simp [mem_prs.mpr ⟨z, h6, pr_self (Lk_at h hzl.1)⟩])).2, hr0.2]; exact hzl.2
      rw [pr_eq hr2, hr0.1, ek, prs_app, prs_cons, hk1, hk2, e3 lv' kl' (fun z hz => hs z (by rcases List.mem_append.mp hz with q | q <;> simp [q])) hlx]
      simp
/-- ahead of an item: the node that holds it, then what is not higher -/
theorem ctx_up {lv : Nat → Int} {kl : Nat → List Nat} {Q : List Nat} (h : Lk lv kl Q) {z x : Nat} (hz : z ∈ Q) (hx : x ∈ kl z) : ∃ k1 k2, kl z = k1 ++ x :: k2 ∧ pr lv kl z = z :: (prs lv kl k1 ++ (pr lv kl x ++ prs lv kl k2)) ∧ ∀ y ∈ prs lv kl k1, lv y ≤ lv x := by
  obtain ⟨k1, k2, ek⟩ := List.append_of_mem hx
  refine ⟨k1, k2, ek, by rw [pr_eq (Lk_at h hz), ek, prs_app, prs_cons], fun y hy => ?_⟩
  obtain ⟨w, h1, h2⟩ := mem_prs.mp hy
  have h3 := Lk_kid h hz (y := w) (by rw [ek]; simp [h1])
  have h4 := Lk_kid h hz hx
  have := (pr_in h w h3.1 y h2).2.1
  omega
