/-! the reference lays a group into its row -/
/-- the segments of the old row -/
def Sgs (fr old : Nat → Int) (n : Nat) (o : Nat → Nat) (sgm : Nat → List Int) : Prop := n ≤ 8 ∧ (∀ e, e ≤ n → fr e = (o e : Int) ∧ o e ≤ 360) ∧ (∀ e, e < n → o (e + 1) = o e + (sgm e).length) ∧ ∀ e, e < n → ∀ j v, (sgm e)[j]? = some v → old (o e + j) = v
theorem lay_seg {fr group turn old : Nat → Int} {n a t e q : Nat} {o : Nat → Nat} {sgm : Nat → List Int} (S : Sgs fr old n o sgm) (he : e < n) (hg : group e = (a : Int)) (ht : turn e = (t : Int)) (ha : a < 2) (ht8 : t < 8) (hq : q + (sgm e).length ≤ 360) (k : Int → Int → (Nat → Int) → Option (Int × (Nat → Int))) : ∀ (d j m : Nat) (s : Nat → Int), j + d = (sgm e).length → d < m → ∃ s', f_Mo_lays_L50 fr group turn old (a : Int) (t : Int) (e : Int) k m ((q + j : Nat) : Int) ((o e + j : Nat) : Int) s = k ((q + (sgm e).length : Nat) : Int) ((o (e + 1) : Nat) : Int) s' ∧ (∀ i v, j ≤ i → (sgm e)[i]? = some v → s' (101 + q + i) = v) ∧ ∀ i, (i < 101 + q + j ∨ 101 + q + (sgm e).length ≤ i) → s' i = s i
  | 0, j, m + 1, s, hj, hm => by
    have h1 := S.2.1 (e + 1) (by omega)
    have h2 := S.2.2.1 e he
    have hj : j = (sgm e).length := by omega
    subst hj
    have hn := S.1
    refine ⟨s, ?_, fun i v h3 h4 => ?_, fun _ _ => rfl⟩
    · rw [f_Mo_lays_L50, gd_p ⟨by omega, by omega⟩, gd_p ⟨by omega, by omega⟩, show ((e : Int) + 1).toNat = e + 1 by omega, h1.1, gd_p ⟨by omega, by omega⟩, if_neg (by omega), h2]
    · have := (List.getElem?_eq_some_iff.mp h4).1
      omega
  | d + 1, j, m + 1, s, hj, hm => by
    have h1 := S.2.1 (e + 1) (by omega)
    have h2 := S.2.2.1 e he
    have hn := S.1
    have hjl : j < (sgm e).length := by omega
    have hv := S.2.2.2 e he j _ (List.getElem?_eq_getElem hjl)
    obtain ⟨s', e1, e2, e3⟩ := lay_seg S he hg ht ha ht8 hq k d (j + 1) m (up s (101 + q + j) (old (o e + j))) (by omega) (by omega)
    refine ⟨s', ?_, fun i v h3 h4 => ?_, fun i hi => by rw [e3 i (by omega), up_o (by omega)]⟩
    · rw [f_Mo_lays_L50, gd_p ⟨by omega, by omega⟩, gd_p ⟨by omega, by omega⟩, show ((e : Int) + 1).toNat = e + 1 by omega, h1.1, gd_p ⟨by omega, by omega⟩, if_pos (by omega), gd_p ⟨by omega, by omega⟩, show ((e : Int)).toNat = e by omega, hg, gd_p ⟨by omega, by omega⟩, gd_p ⟨by omega, by omega⟩, if_pos rfl, ht, gd_p ⟨by omega, by omega⟩, gd_p ⟨by omega, by omega⟩, if_pos rfl, gd_p ⟨by omega, by omega⟩, gd_p ⟨by omega, by omega⟩, show ((101 : Int) + ((q + j : Nat) : Int)).toNat = 101 + q + j by omega, show (((o e + j : Nat) : Int)).toNat = o e + j by omega, show (((q + j : Nat) : Int)) + 1 = ((q + (j + 1) : Nat) : Int) by omega, show (((o e + j : Nat) : Int)) + 1 = ((o e + (j + 1) : Nat) : Int) by omega]
      exact e1
    · by_cases hij : i = j
      · subst hij
        rw [e3 _ (by omega), up_s, hv]
        rw [List.getElem?_eq_getElem hjl] at h4
        exact Option.some.inj h4
      · exact e2 i v (by omega) h4
/-- a segment of another entry is passed by -/
theorem lay_no {fr group turn old : Nat → Int} {n a t e : Nat} {q : Int} {o : Nat → Nat} {sgm : Nat → List Int} {s : Nat → Int} (S : Sgs fr old n o sgm) (he : e < n) (hgk : ck (group e)) (htk : group e = (a : Int) → ck (turn e)) (h : ¬ (group e = (a : Int) ∧ turn e = (t : Int))) (ha : a < 2) (ht8 : t < 8) (k : Int → Int → (Nat → Int) → Option (Int × (Nat → Int))) (m : Nat) : f_Mo_lays_L50 fr group turn old (a : Int) (t : Int) (e : Int) k (m + 1) q ((o e : Nat) : Int) s = k q ((o e : Nat) : Int) s := by
  have h0 := S.2.1 e (by omega)
  have h1 := S.2.1 (e + 1) (by omega)
  have hn := S.1
  rw [f_Mo_lays_L50, gd_p ⟨by omega, by omega⟩, gd_p ⟨by omega, by omega⟩, show ((e : Int) + 1).toNat = e + 1 by omega, h1.1, gd_p ⟨by omega, by omega⟩]
  by_cases c0 : ((o e : Nat) : Int) < ((o (e + 1) : Nat) : Int)
  · rw [if_pos c0, gd_p ⟨by omega, by omega⟩, show ((e : Int)).toNat = e by omega, gd_p hgk, gd_p ⟨by omega, by omega⟩]
    by_cases c1 : group e = (a : Int)
    · rw [if_pos c1, gd_p (htk c1), gd_p ⟨by omega, by omega⟩, if_neg (fun q2 => h ⟨c1, q2⟩)]
    · rw [if_neg c1]
  · rw [if_neg c0]
theorem lay_skip {fr group turn old : Nat → Int} {n a t e0 : Nat} {q : Int} {o : Nat → Nat} {sgm : Nat → List Int} {s : Nat → Int} (S : Sgs fr old n o sgm) (hgk : ∀ e, e < n → ck (group e)) (htk : ∀ e, e < n → group e = (a : Int) → ck (turn e)) (h : ∀ e, e < n → e ≠ e0 → ¬ (group e = (a : Int) ∧ turn e = (t : Int))) (ha : a < 2) (ht8 : t < 8) (k : Int → Int → (Nat → Int) → Option (Int × (Nat → Int))) : ∀ (d e m : Nat), e + d = n → e0 < e → d < m → f_Mo_lays_L35 fr group turn old (a : Int) (n : Int) (t : Int) k m q (e : Int) s = k q (n : Int) s
  | 0, e, m + 1, he, h0, hm => by
    have hn := S.1
    rw [f_Mo_lays_L35, gd_p ⟨by omega, by omega⟩, gd_p ⟨by omega, by omega⟩, if_neg (by omega), show (e : Int) = (n : Int) by omega]
  | d + 1, e, m + 1, he, h0, hm => by
    have hn := S.1
    rw [f_Mo_lays_L35, gd_p ⟨by omega, by omega⟩, gd_p ⟨by omega, by omega⟩, if_pos (by omega), gd_p ⟨by omega, by omega⟩, show ((e : Int)).toNat = e by omega, (S.2.1 e (by omega)).1, show FU = 4095 + 1 from rfl, lay_no S (by omega) (hgk e (by omega)) (htk e (by omega)) (h e (by omega) (by omega)) ha ht8, show (e : Int) + 1 = ((e + 1 : Nat) : Int) by omega]
    exact lay_skip S hgk htk h ha ht8 k d (e + 1) m (by omega) (by omega) (by omega)
theorem lay_turn {fr group turn old : Nat → Int} {n a t e0 q : Nat} {o : Nat → Nat} {sgm : Nat → List Int} (S : Sgs fr old n o sgm) (hgk : ∀ e, e < n → ck (group e)) (htk : ∀ e, e < n → group e = (a : Int) → ck (turn e)) (h : ∀ e, e < n → e ≠ e0 → ¬ (group e = (a : Int) ∧ turn e = (t : Int))) (he0 : e0 < n) (hg : group e0 = (a : Int)) (ht : turn e0 = (t : Int)) (ha : a < 2) (ht8 : t < 8) (hq : q + (sgm e0).length ≤ 360) (k : Int → Int → (Nat → Int) → Option (Int × (Nat → Int))) : ∀ (d e m : Nat) (s : Nat → Int), e + d = e0 → d + n < m → ∃ s', f_Mo_lays_L35 fr group turn old (a : Int) (n : Int) (t : Int) k m (q : Int) (e : Int) s = k ((q + (sgm e0).length : Nat) : Int) (n : Int) s' ∧ (∀ i v, (sgm e0)[i]? = some v → s' (101 + q + i) = v) ∧ ∀ i, (i < 101 + q ∨ 101 + q + (sgm e0).length ≤ i) → s' i = s i
  | 0, e, m + 1, s, he, hm => by
    have hn := S.1
    have he : e = e0 := by omega
    subst he
    have h1 := S.2.1 (e + 1) (by omega)
    have hlen := S.2.2.1 e he0
    obtain ⟨s', e1, e2, e3⟩ := lay_seg S he0 hg ht ha ht8 hq (fun x5_23 x8_24 c_s_25 => f_Mo_lays_L35 fr group turn old (a : Int) (n : Int) (t : Int) k m x5_23 ((e : Int) + 1) c_s_25) (sgm e).length 0 FU s (by omega) (by unfold FU; omega)
    refine ⟨s', ?_, fun i v hv => e2 i v (Nat.zero_le _) hv, fun i hi => e3 i (by omega)⟩
    rw [f_Mo_lays_L35, gd_p ⟨by omega, by omega⟩, gd_p ⟨by omega, by omega⟩, if_pos (by omega), gd_p ⟨by omega, by omega⟩, show ((e : Int)).toNat = e by omega, (S.2.1 e (by omega)).1]
    refine Eq.trans e1 ?_
    rw [show (e : Int) + 1 = ((e + 1 : Nat) : Int) by omega]
    exact lay_skip S hgk htk h ha ht8 k (n - (e + 1)) (e + 1) m (by omega) (by omega) (by omega)
  | d + 1, e, m + 1, s, he, hm => by
    have hn := S.1
    obtain ⟨s', e1, e2⟩ := lay_turn S hgk htk h he0 hg ht ha ht8 hq k d (e + 1) m s (by omega) (by omega)
    refine ⟨s', ?_, e2⟩
    rw [f_Mo_lays_L35, gd_p ⟨by omega, by omega⟩, gd_p ⟨by omega, by omega⟩, if_pos (by omega), gd_p ⟨by omega, by omega⟩, show ((e : Int)).toNat = e by omega, (S.2.1 e (by omega)).1, show FU = 4095 + 1 from rfl, lay_no S (by omega) (hgk e (by omega)) (htk e (by omega)) (h e (by omega) (by omega)) ha ht8, show (e : Int) + 1 = ((e + 1 : Nat) : Int) by omega]
    exact e1
theorem lay_go {fr group turn size old : Nat → Int} {n a : Nat} {o : Nat → Nat} {sgm : Nat → List Int} {g : List Nat} (S : Sgs fr old n o sgm) (hgk : ∀ e, e < n → ck (group e)) (htk : ∀ e, e < n → group e = (a : Int) → e ∈ g) (ha : a < 2) (hsz : size a = (g.length : Int)) (hg8 : g.length ≤ 8) (hg : ∀ (t e : Nat), g[t]? = some e → e < n ∧ group e = (a : Int) ∧ turn e = (t : Int)) (k : Int → Int → (Nat → Int) → Option (Int × (Nat → Int))) : ∀ (E D : List Nat) (q m : Nat) (s : Nat → Int), g = D ++ E → q + (E.flatMap sgm).length ≤ 360 → E.length < m → ∃ s', f_Mo_lays_L21 fr group turn size old (a : Int) (n : Int) k m (q : Int) (D.length : Int) s = k ((q + (E.flatMap sgm).length : Nat) : Int) (g.length : Int) s' ∧ (∀ i v, (E.flatMap sgm)[i]? = some v → s' (101 + q + i) = v) ∧ ∀ i, (i < 101 + q ∨ 101 + q + (E.flatMap sgm).length ≤ i) → s' i = s i
  | [], D, q, m + 1, s, he, hq, hm => by
    rw [List.append_nil] at he
    refine ⟨s, ?_, fun i v hv => by simp at hv, fun _ _ => rfl⟩
    rw [f_Mo_lays_L21, gd_p ⟨by omega, by omega⟩, show ((a : Int)).toNat = a by omega, hsz, ← he, gd_p ⟨by omega, by omega⟩, gd_p ⟨by omega, by omega⟩, if_neg (by omega)]
    rfl
  | e :: E, D, q, m + 1, s, he, hq, hm => by
    have hlen := congrArg List.length he
    rw [List.length_append, List.length_cons] at hlen
    have hge := hg D.length e (by rw [he]; exact mid_get)
    rw [List.flatMap_cons, List.length_append] at hq
    have hturn : ∀ f, f < n → group f = (a : Int) → ∃ t : Nat, t < g.length ∧ g[t]? = some f ∧ turn f = (t : Int) := fun f hf hfa => by
      obtain ⟨t, h1, h2⟩ := List.getElem_of_mem (htk f hf hfa)
      have h3 : g[t]? = some f := by rw [List.getElem?_eq_getElem h1, h2]
      exact ⟨t, h1, h3, (hg t f h3).2.2⟩
    obtain ⟨s1, e1, e2, e3⟩ := lay_turn (t := D.length) S hgk (fun f hf hfa => by
      obtain ⟨t, h1, -, h3⟩ := hturn f hf hfa
      rw [h3]
      exact ⟨by omega, by omega⟩) (fun f hf hfe ⟨q1, q2⟩ => by
      obtain ⟨t, h1, h2, h3⟩ := hturn f hf q1
      have : t = D.length := by omega
      rw [this, he, mid_get] at h2
      exact hfe (Option.some.inj h2).symm) hge.1 hge.2.1 hge.2.2 ha (by omega) (q := q) (by omega) (fun x5_26 x7_27 c_s_28 => f_Mo_lays_L21 fr group turn size old (a : Int) (n : Int) k m x5_26 ((D.length : Int) + 1) c_s_28) e 0 FU s (by omega) (by have := S.1; unfold FU; omega)
    obtain ⟨s2, f1, f2, f3⟩ := lay_go S hgk htk ha hsz hg8 hg k E (D ++ [e]) (q + (sgm e).length) m s1 (by rw [he]; simp) (by omega) (by simp at hm; omega)
    refine ⟨s2, ?_, fun i v hv => ?_, fun i hi => ?_⟩
    · rw [f_Mo_lays_L21, gd_p ⟨by omega, by omega⟩, show ((a : Int)).toNat = a by omega, hsz, gd_p ⟨by omega, by omega⟩, gd_p ⟨by omega, by omega⟩, if_pos (by omega)]
      refine Eq.trans e1 ?_
      rw [List.length_append, show ((D.length + [e].length : Nat) : Int) = (D.length : Int) + 1 by simp] at f1
      rw [List.flatMap_cons, List.length_append, ← Nat.add_assoc]
      exact f1
    · rw [List.flatMap_cons] at hv
      rcases app_get hv with h1 | ⟨j, rfl, h1⟩
      · have := (List.getElem?_eq_some_iff.mp h1).1
        rw [f3 _ (by omega)]
        exact e2 i v h1
      · rw [← f2 j v h1]
        congr 1
        omega
    · rw [List.flatMap_cons, List.length_append] at hi
      rw [f3 i (by omega), e3 i (by omega)]
theorem lays_sp {fr group turn size old s : Nat → Int} {n a : Nat} {o : Nat → Nat} {sgm : Nat → List Int} {g : List Nat} {sign : Int} {p : Nat} (S : Sgs fr old n o sgm) (hgk : ∀ e, e < n → ck (group e)) (htk : ∀ e, e < n → group e = (a : Int) → e ∈ g) (ha : a < 2) (hsz : size a = (g.length : Int)) (hg8 : g.length ≤ 8) (hg : ∀ (t e : Nat), g[t]? = some e → e < n ∧ group e = (a : Int) ∧ turn e = (t : Int)) (hq : p + 1 + (g.flatMap sgm).length ≤ 360) : ∃ s', f_Mo_lays s fr group turn size old (a : Int) (n : Int) sign (p : Int) = some (((p + 1 + (g.flatMap sgm).length : Nat) : Int), s') ∧ (∀ i v, (sign :: g.flatMap sgm)[i]? = some v → s' (101 + p + i) = v) ∧ ∀ i, (i < 101 + p ∨ 101 + p + 1 + (g.flatMap sgm).length ≤ i) → s' i = s i := by
  obtain ⟨s', e1, e2, e3⟩ := lay_go S hgk htk ha hsz hg8 hg (fun x5_29 x6_30 c_s_31 => some (x5_29, c_s_31)) g [] (p + 1) FU (up s (101 + p) sign) rfl (by omega) (by unfold FU; omega)
  refine ⟨s', ?_, fun i v hv => ?_, fun i hi => by rw [e3 i (by omega), up_o (by omega)]⟩
  · unfold f_Mo_lays
    rw [gd_p ⟨by omega, by omega⟩, show ((101 : Int) + (p : Int)).toNat = 101 + p by omega, show (p : Int) + 1 = ((p + 1 : Nat) : Int) by omega]
    exact e1
  · cases i with
    | zero =>
      simp at hv
      rw [e3 _ (by omega), Nat.add_zero, up_s, hv]
    | succ i =>
      rw [List.getElem?_cons_succ] at hv
      rw [← e2 i v hv]
      congr 1
      omega
