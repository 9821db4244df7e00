/-! items released; loose trees -/
theorem Ar.cull {T T' : TV} {kl : Nat → List Nat} {Q Q' N : List Nat} (h : Ar T kl Q) (hQ : Q'.Nodup) (hm : ∀ v, v ∈ Q' ↔ v ∈ Q ∧ v ∉ N) (hR : tR T' = tR T) (hc : ∀ x, x < tR T → rg (tCor T') x) (hli : tLis T' = tLis T) (hlev : ∀ v, v ∉ N → tLev T' v = tLev T v) (hlevN : ∀ v ∈ N, tLev T' v = -2) (hsiz : ∀ v, v ∉ N → tSiz T' v = tSiz T v) (hhol : ∀ v ∈ Q', (tHol T' v = tHol T v ∧ ∀ z ∈ N, tHol T v ≠ (z : Int)) ∨ (tHol T' v = -1 ∧ ∀ z ∈ Q', v ∉ kl z)) (hk : ∀ z ∈ Q', ∀ y ∈ kl z, y ∉ N) : Ar T' kl Q' := by
  refine ⟨by rw [hR]; exact h.1, hQ, fun x hx hxq => ?_, fun x hx => hc x (by rw [hR] at hx; exact hx), fun x hx => ?_⟩
  · by_cases hxN : x ∈ N
    · exact hlevN x hxN
    · rw [hlev x hxN]
      exact h.2.2.1 x (by rw [hR] at hx; exact hx) (fun q => hxq ((hm x).mpr ⟨q, hxN⟩))
  · obtain ⟨hxQ, hxN⟩ := (hm x).mp hx
    have hi := h.2.2.2.2 x hxQ
    refine ⟨⟨by rw [hR]; exact hi.1.1, by rw [hlev x hxN]; exact hi.1.2⟩, hi.2.1, ⟨by rw [hsiz x hxN]; exact hi.2.2.1.1, hi.2.2.1.2⟩, fun j y hj => by rw [hli]; exact hi.2.2.2.1 j y hj, fun y hy => ?_, ?_⟩
    · have hyk := h.kid hxQ hy
      have hyN := hk x hx y hy
      have hyQ := (hm y).mpr ⟨hyk.1, hyN⟩
      refine ⟨hyQ, ?_, by rw [hlev y hyN, hlev x hxN]; exact hyk.2.2⟩
      rcases hhol y hyQ with ⟨q, -⟩ | ⟨-, q⟩
      · rw [q]; exact hyk.2.1
      · exact absurd hy (q x hx)
    · rcases hhol x hx with ⟨q1, q2⟩ | ⟨q1, -⟩
      · rw [q1]
        rcases hi.2.2.2.2.2 with q | ⟨v, v1, v2, v3, v4⟩
        · exact Or.inl q
        · have hvN : v ∉ N := fun q => q2 v q v3
          exact Or.inr ⟨v, (hm v).mpr ⟨v1, hvN⟩, v2, v3, by rw [hlev v hvN, hlev x hxN]; exact v4⟩
      · exact Or.inl q1
theorem cnt_sub {lv : Nat → Int} {Q Q' : List Nat} {l : Int} (hn : Q'.Nodup) (hs : ∀ v ∈ Q', v ∈ Q) : cnt lv Q' l ≤ cnt lv Q l := by
  have := sub_len (L := Q'.filter (fun v => decide (lv v = l))) (M := Q.filter (fun v => decide (lv v = l))) (hn.filter _) (fun v hv => by
    simp at hv ⊢
    exact ⟨hs v hv.1, hv.2⟩)
  rw [← List.countP_eq_length_filter, ← List.countP_eq_length_filter] at this
  exact this
theorem Bd.sub {lv lv' : Nat → Int} {Q Q' : List Nat} {rl : Int} (b : Bd lv Q rl) (hn : Q'.Nodup) (hs : ∀ v ∈ Q', v ∈ Q) (hl : ∀ v ∈ Q', lv' v = lv v) : Bd lv' Q' rl := by
  refine Bd.same (lv := lv) ?_ hl
  obtain ⟨H, h1, h2, h3, h4, h5⟩ := b
  refine ⟨H, h1, h2, fun l hl => ?_, ?_, fun v hv => h5 v (hs v hv)⟩
  · have := cnt_sub (lv := lv) (l := (l : Int)) hn hs
    have := h3 l hl
    omega
  · have := cnt_sub (lv := lv) (l := (H : Int)) hn hs
    omega
theorem Bd.lower {lv lv' : Nat → Int} {Q Q' : List Nat} {r : Nat} (b : Bd lv Q (lv r)) (hr : r ∈ Q) (hn : Q'.Nodup) (hm : ∀ v, v ∈ Q' ↔ v ∈ Q ∧ v ≠ r) (hl : ∀ v ∈ Q', lv' v = lv v) (h1 : 1 ≤ lv r) : Bd lv' Q' (lv r - 1) := by
  refine Bd.same (lv := lv) ?_ hl
  have hsub : ∀ v ∈ Q', v ∈ Q := fun v hv => ((hm v).mp hv).1
  have hone : cnt lv Q' (lv r) + 1 ≤ cnt lv Q (lv r) := by
    have := sub_len (L := r :: Q'.filter (fun v => decide (lv v = lv r))) (M := Q.filter (fun v => decide (lv v = lv r))) (List.nodup_cons.mpr ⟨fun q => by
      have := (List.mem_filter.mp q).1
      exact ((hm r).mp this).2 rfl, hn.filter _⟩) (fun v hv => by
      rcases List.mem_cons.mp hv with rfl | hv
      · simp [hr]
      · simp at hv ⊢
        exact ⟨hsub v hv.1, hv.2⟩)
    rw [List.length_cons, ← List.countP_eq_length_filter, ← List.countP_eq_length_filter] at this
    exact this
  obtain ⟨H, b1, b2, b3, b4, b5⟩ := b
  refine ⟨H, b1, by omega, fun l hl => ?_, ?_, fun v hv => b5 v (hsub v hv)⟩
  · have q1 := cnt_sub (lv := lv) (l := (l : Int)) hn hsub
    have q2 := b3 l hl
    by_cases hlr : lv r = (l : Int)
    · rw [← hlr] at q1 q2 ⊢
      rw [if_neg (by omega)] at q2
      rw [if_pos (by omega)]
      omega
    · split at q2 <;> split <;> omega
  · have q1 := cnt_sub (lv := lv) (l := (H : Int)) hn hsub
    by_cases hlr : lv r = (H : Int)
    · rw [← hlr] at q1 b4 ⊢
      rw [if_neg (by omega)] at b4
      rw [if_pos (by omega)]
      omega
    · split at b4 <;> split <;> omega
def Jw (T : TV) (kl : Nat → List Nat) (Q : List Nat) (r : Nat) (s : Nat → Int) : Prop := Ar T kl Q ∧ (r ∈ Q ∧ 24 ≤ r ∧ tRoot T = (r : Int) ∧ tHol T r = -1) ∧ Row s (tLev T) (pr (tLev T) kl r) ∧ (∀ x ∈ Q, Cr (tCor T) kl x) ∧ ∀ b ∈ Q, b < 24 → eqb (c5 s) b (tCor T) b
theorem Jn.jw {T : TV} {kl : Nat → List Nat} {Q : List Nat} {r : Nat} {s : Nat → Int} (J : Jn T kl Q r s) : Jw T kl Q r s := ⟨J.1, J.2.1, J.2.2.1, J.2.2.2.1, J.2.2.2.2.1⟩
theorem Jw.jn {T : TV} {kl : Nat → List Nat} {Q : List Nat} {r : Nat} {s : Nat → Int} (J : Jw T kl Q r s) (h : ∀ x ∈ Q, 24 ≤ x → kl x = [] → x = r ∧ tLev T r = 0) : Jn T kl Q r s := ⟨J.1, J.2.1, J.2.2.1, J.2.2.2.1, J.2.2.2.2, h⟩
theorem Row.lev {s lv lv' : Nat → Int} {P : List Nat} (h : Row s lv P) (hl : ∀ v ∈ P, lv' v = lv v) : Row s lv' P := ⟨h.1, h.2.1, fun k x hx => by
  rw [h.2.2.1 k x hx]
  unfold sg
  rw [hl x (List.mem_of_getElem? hx)], fun x hx => by
  unfold okI
  rw [hl x hx]
  exact h.2.2.2 x hx⟩
/-- the way up, in both -/
theorem above_sp {T : TV} {kl : Nat → List Nat} {Q : List Nat} {r x p : Nat} {s : Nat → Int} (h : Ar T kl Q) (hr : r ∈ Q) (hrow : Row s (tLev T) (pr (tLev T) kl r)) (hx : x ∈ Q) (hxr : x ≠ r) (hxp : x ∈ pr (tLev T) kl r) (hat : At T kl r x p) : ∃ pn p' : Nat, pn ∈ Q ∧ pn ∈ pr (tLev T) kl r ∧ x ∈ kl pn ∧ f_Mo_above s (p : Int) = some (p' : Int) ∧ At T kl r pn p' ∧ p ≠ 0 := by
  have hlk := h.lk
  obtain ⟨pn, hpn, hpr, hxk⟩ := pr_above h hr hxp hxr
  have hxk2 := h.kid hpn hxk
  obtain ⟨A, B, c1, c2, -, -⟩ := ctx hlk pn r hr hpr
  obtain ⟨D, E, hk, hprp, hDl⟩ := ctx_up hlk hpn hxk
  have hPe : pr (tLev T) kl r = (A ++ pn :: prs (tLev T) kl D) ++ (pr (tLev T) kl x ++ (prs (tLev T) kl E ++ B)) := by rw [c1, hprp]; simp
  have hpl := at_place h hr hx hat hPe
  have hplen : p = A.length + 1 + (prs (tLev T) kl D).length := by rw [hpl.1]; simp; omega
  have hst := c2 [] stops_nil
  rw [List.append_nil] at hst
  refine ⟨pn, A.length, hpn, hpr, hxk, above_at hrow (x := x) (z := pn) ?_ ?_ (by omega) (by omega) (fun j y j1 j2 hj => ?_), ⟨B, by rw [c1]; exact drop_here A _, hst⟩, by omega⟩
  · rw [hPe, hpl.1, pr_eq (Lk_at hlk hx)]
    exact mid_get
  · rw [c1, pr_eq (Lk_at hlk hpn)]
    exact mid_get
  · obtain ⟨i, rfl⟩ : ∃ i, j = A.length + (i + 1) := ⟨j - A.length - 1, by omega⟩
    rw [c1, hprp, List.getElem?_append_right (by omega), Nat.add_sub_cancel_left, List.cons_append, List.getElem?_cons_succ, List.append_assoc, List.getElem?_append_left (by omega)] at hj
    exact hDl y (List.mem_of_getElem? hj)
/-- a node keeps its place when its own list alone changes -/
theorem at_keep {T T' : TV} {kl kl' : Nat → List Nat} {Q : List Nat} {r x p : Nat} (h : Ar T kl Q) (hr : r ∈ Q) (hx : x ∈ Q) (hxp : x ∈ pr (tLev T) kl r) (hat : At T kl r x p) (hs : ∀ v, v ≠ x → kl' v = kl v) (hl : tLev T' = tLev T) : At T' kl' r x p := by
  obtain ⟨A, B, c1, c2, -, c4⟩ := ctx h.lk x r hr hxp
  have hN := pr_nodup h r hr
  have hpl := at_place h hr hx hat c1
  have hAB : ∀ v ∈ A ++ B, v ≠ x := fun v hv q => by
    subst q
    rw [c1] at hN
    have hN1 := List.nodup_append.mp hN
    have hN2 := List.nodup_append.mp hN1.2.1
    rcases List.mem_append.mp hv with q | q
    · exact hN1.2.2 v q v (List.mem_append_left _ (pr_self (Lk_at h.lk hx))) rfl
    · exact hN2.2.2 v (pr_self (Lk_at h.lk hx)) v q rfl
  have hst := c2 [] stops_nil
  rw [List.append_nil] at hst
  refine ⟨B, ?_, by rw [hl]; exact hst⟩
  rw [c4 (tLev T') kl' (fun v hv => ⟨hs v (hAB v hv), by rw [hl]⟩) (by rw [hl]), hpl.1]
  exact drop_here A _
/-- the loose trees: their tops M; all that is in use is in the tree or in one of them -/
def Lo (T : TV) (kl : Nat → List Nat) (Q : List Nat) (r : Nat) (M : List Nat) : Prop := M.Nodup ∧ (∀ y ∈ M, y ∈ Q ∧ y ≠ r ∧ tHol T y = -1) ∧ ∀ v ∈ Q, v ∈ pr (tLev T) kl r ∨ ∃ y ∈ M, v ∈ pr (tLev T) kl y
/-- who is held by x is in its list -/
theorem Lo.exact {T : TV} {kl : Nat → List Nat} {Q M : List Nat} {r v x : Nat} (h : Ar T kl Q) (hr : r ∈ Q) (hhr : tHol T r = -1) (L : Lo T kl Q r M) (hv : v ∈ Q) (hh : tHol T v = (x : Int)) : v ∈ kl x := by
  have key : ∀ t, t ∈ Q → tHol T t = -1 → v ∈ pr (tLev T) kl t → v ∈ kl x := fun t ht hht hm => by
    have hvt : v ≠ t := fun q => by subst q; omega
    obtain ⟨w, w1, w2⟩ := pr_up h.lk t ht v hm hvt
    have hwQ := (pr_in h.lk t ht w w1).1
    have := (h.kid hwQ w2).2.1
    have hwx : w = x := by omega
    exact hwx ▸ w2
  rcases L.2.2 v hv with q | ⟨y, hy, q⟩
  · exact key r hr hhr q
  · exact key y (L.2.1 y hy).1 (L.2.1 y hy).2.2 q
theorem Lo.out {T : TV} {kl : Nat → List Nat} {Q M : List Nat} {r y v : Nat} (h : Ar T kl Q) (hr : r ∈ Q) (hhr : tHol T r = -1) (L : Lo T kl Q r M) (hy : y ∈ M) (hv : v ∈ pr (tLev T) kl y) : v ∉ pr (tLev T) kl r := fun q => (L.2.1 y hy).2.1 (tops h (L.2.1 y hy).1 hr (L.2.1 y hy).2.2 hhr hv q)
theorem Lo.step {T T' : TV} {kl kl' : Nat → List Nat} {Q Q' M : List Nat} {r r' y : Nat} {s s' : Nat → Int} (h : Ar T kl Q) (hr : r ∈ Q) (hhr : tHol T r = -1) (L : Lo T kl Q r (y :: M)) (h' : Ar T' kl' Q') (hr' : r' ∈ Q') (g : Mw (pr (tLev T) kl y) T kl Q r s T' kl' Q' r' s') : Lo T' kl' Q' r' M ∧ ∀ y2 ∈ M, pr (tLev T') kl' y2 = pr (tLev T) kl y2 ∧ ∀ v ∈ pr (tLev T) kl y2, tLev T' v = tLev T v := by
  have hn := List.nodup_cons.mp L.1
  have hyM := L.2.1 y List.mem_cons_self
  have key : ∀ y2 ∈ M, ∀ v ∈ pr (tLev T) kl y2, v ∈ Q ∧ kl' v = kl v ∧ v ∉ pr (tLev T') kl' r' ∧ tHol T' v = tHol T v ∧ tLev T' v = tLev T v := fun y2 hy2 v hv => by
    have hy2M := L.2.1 y2 (List.mem_cons_of_mem _ hy2)
    have hvQ := (pr_in h.lk y2 hy2M.1 v hv).1
    have h1 := L.out h hr hhr (List.mem_cons_of_mem _ hy2) hv
    have h2 : v ∉ pr (tLev T) kl y := fun q => hn.1 (by
      have := tops h hy2M.1 hyM.1 hy2M.2.2 hyM.2.2 hv q
      exact this ▸ hy2)
    have h3 := g.2.1 v hvQ h1 h2
    exact ⟨hvQ, h3.1, h3.2.1, h3.2.2, (g.1 v hvQ).2⟩
  have hpr : ∀ y2 ∈ M, pr (tLev T') kl' y2 = pr (tLev T) kl y2 := fun y2 hy2 => pr_same h.lk y2 (L.2.1 y2 (List.mem_cons_of_mem _ hy2)).1 (fun z hz => ⟨(key y2 hy2 z hz).2.1, (key y2 hy2 z hz).2.2.2.2⟩)
  refine ⟨⟨hn.2, fun y2 hy2 => ?_, fun v hv => ?_⟩, fun y2 hy2 => ⟨hpr y2 hy2, fun v hv => (key y2 hy2 v hv).2.2.2.2⟩⟩
  · have hy2M := L.2.1 y2 (List.mem_cons_of_mem _ hy2)
    have hk := key y2 hy2 y2 (pr_self (Lk_at h.lk hy2M.1))
    exact ⟨(g.1 y2 hy2M.1).1, fun q => hk.2.2.1 (by rw [q]; exact pr_self (Lk_at h'.lk hr')), hk.2.2.2.1.trans hy2M.2.2⟩
  · rcases g.2.2.2.1 v hv with q | q
    · rcases L.2.2 v q with q2 | ⟨y2, hy2, q2⟩
      · exact Or.inl (g.2.2.1 v (Or.inl q2))
      · rcases List.mem_cons.mp hy2 with rfl | hy2
        · exact Or.inl (g.2.2.1 v (Or.inr q2))
        · exact Or.inr ⟨y2, hy2, by rw [hpr y2 hy2]; exact q2⟩
    · exact Or.inl q.2
