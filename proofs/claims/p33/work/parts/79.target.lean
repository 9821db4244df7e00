/-! where an item goes: the class's targetFor beside the reference's chosen -/
def Jn (T : TV) (kl : Nat → List Nat) (Q : List Nat) (r : Nat) (s : Nat → Int) : Prop :=
  Ar T kl Q ∧ (r ∈ Q ∧ 24 ≤ r ∧ tRoot T = (r : Int) ∧ tHol T r = -1) ∧ Row s (tLev T) (pr (tLev T) kl r) ∧ (∀ x ∈ Q, Cr (tCor T) kl x) ∧ (∀ b ∈ Q, b < 24 → eqb (c5 s) b (tCor T) b) ∧ ∀ x ∈ Q, 24 ≤ x → kl x = [] → x = r ∧ tLev T r = 0
theorem rg_eqb {c d : Nat → Int} {x y : Nat} (h : eqb c x d y) (g : rg d y) : rg c x := fun t ht => by rw [h t ht]; exact g t ht
theorem Jn.ne {T : TV} {kl : Nat → List Nat} {Q : List Nat} {r : Nat} {s : Nat → Int} (J : Jn T kl Q r s) {x y : Nat} (hx : x ∈ Q) (hy : y ∈ kl x) : 24 ≤ y → kl y ≠ [] := fun h24 he => by
  have h1 := J.1.kid hx hy
  have h2 := J.2.2.2.2.2 y h1.1 h24 he
  have h3 := J.2.1.2.2.2
  rw [h2.1, h3] at h1
  have := h1.2.1
  omega
theorem Jn.box {T : TV} {kl : Nat → List Nat} {Q : List Nat} {r : Nat} {s : Nat → Int} (J : Jn T kl Q r s) : ∀ x ∈ Q, (24 ≤ x → kl x ≠ []) → bxs (pr (tLev T) kl x) ≠ [] ∧ ∀ t, t < 4 → tCor T (4 * x + t) = cu (c5 s) t (bxs (pr (tLev T) kl x)) := by
  intro x hx hn
  have := cor_boxes (c := tCor T) J.1.lk (fun z hz => J.1.lev24 hz) (fun z hz _ => J.1.rgx hz) J.2.2.2.1 (fun z hz h24 ⟨w, hw, hzw⟩ => J.ne hw hzw h24) x hx hn
  refine ⟨this.2.1, fun t ht => ?_⟩
  rw [this.2.2 t ht]
  refine cu_same (fun y hy => ?_)
  obtain ⟨y1, y2⟩ := bxs_mem.mp hy
  exact (J.2.2.2.2.1 y (pr_in J.1.lk x hx y y1).1 y2 t ht).symm
/-- the reference's union at a place of the row is the class's rectangle of the item there -/
theorem Jn.bnd {T : TV} {kl : Nat → List Nat} {Q B : List Nat} {r k x i : Nat} {s c : Nat → Int} (J : Jn T kl Q r s) (hi : i < 12) (hx : x ∈ Q) (hn : 24 ≤ x → kl x ≠ []) (e : (pr (tLev T) kl r).drop k = pr (tLev T) kl x ++ B) (hB : stops (tLev T) (tLev T x) B) : ∃ c', f_Mo_boundsAt s c (k : Int) (i : Int) = some c' ∧ eqb c' i (tCor T) x ∧ oth i c c' := by
  have hb := J.box x hx hn
  obtain ⟨c', e1, e2, e3⟩ := boundsAt_sp (c := c) hi J.2.2.1 J.1.lk hx e hB (fun y hy h24 => by
    have hyq := (pr_in J.1.lk r J.2.1.1 y hy).1
    exact rg_eqb (J.2.2.2.2.1 y hyq h24) (J.1.rgx hyq)) hb.1
  exact ⟨c', e1, fun t ht => by rw [e2 t ht, hb.2 t ht], e3⟩
/-- an entry and its place in the row -/
def At (T : TV) (kl : Nat → List Nat) (r : Nat) (v p : Nat) : Prop := ∃ B, (pr (tLev T) kl r).drop p = pr (tLev T) kl v ++ B ∧ stops (tLev T) (tLev T v) B
def BR (T : TV) (kl : Nat → List Nat) (r x : Nat) (b cb : Int) : Prop := (b = -1 ∧ cb = -5) ∨ ∃ v p : Nat, b = (v : Int) ∧ cb = (p : Int) ∧ v ∈ kl x ∧ At T kl r v p
theorem best_go {T : TV} {kl : Nat → List Nat} {Q Bx : List Nat} {r x y e : Nat} {s : Nat → Int} (J : Jn T kl Q r s) (hx : x ∈ Q) (hy : y ∈ Q) (hB : stops (tLev T) (tLev T x) Bx) (kC : Int → Int → Int → Int → Option Int) (kR : Int → Int → Int → Int → (Nat → Int) → Option (Int × (Nat → Int))) : ∀ (L D : List Nat) (n m c : Nat) (b cb g a : Int) (w : Nat → Int), kl x = D ++ L → L.length < n → L.length < m → (pr (tLev T) kl r).drop c = prs (tLev T) kl L ++ Bx → c + (prs (tLev T) kl L).length = e → e ≤ 360 → eqb w 0 (tCor T) y → BR T kl r x b cb → ck g → ck a → ∃ b' cb' g' a' w', f_Ch_bestEntry_L21 T (x : Int) (y : Int) ((kl x).length : Int) kC n b g a (D.length : Int) = kC b' g' a' ((kl x).length : Int) ∧ f_Mo_chosen_L48 s (e : Int) kR m cb g a (c : Int) w = kR cb' g' a' (e : Int) w' ∧ eqb w' 0 (tCor T) y ∧ BR T kl r x b' cb' ∧ (b' = -1 → b = -1 ∧ L = [])
  | [], D, n + 1, m + 1, c, b, cb, g, a, w, hk, hn, hm, hd, hc, he, hw, hBR, hg, ha => by
    have h6 := (J.1.siz hx).2
    rw [List.append_nil] at hk
    rw [prs_nil] at hc
    simp at hc
    subst hc
    refine ⟨b, cb, g, a, w, ?_, ?_, hw, hBR, fun q => ⟨q, rfl⟩⟩
    · rw [f_Ch_bestEntry_L21, ← hk, gd_p ⟨by omega, by omega⟩, gd_p ⟨by omega, by omega⟩, if_neg (by omega)]
    · rw [f_Mo_chosen_L48, gd_p ⟨by omega, by omega⟩, gd_p ⟨by omega, by omega⟩, if_neg (by omega)]
  | v :: L, D, n + 1, m + 1, c, b, cb, g, a, w, hk, hn, hm, hd, hc, he, hw, hBR, hg, ha => by
    have h6 := (J.1.siz hx).2
    have hR := J.1.1
    have hle := J.1.le
    have hlk := J.1.lk
    have hlen := congrArg List.length hk
    rw [List.length_append, List.length_cons] at hlen
    simp only [List.length_cons] at hn hm
    have hj : (kl x)[D.length]? = some v := by rw [hk, List.getElem?_append_right (Nat.le_refl _), Nat.sub_self]; rfl
    have hv : v ∈ kl x := List.mem_of_getElem? hj
    have hvq := (J.1.kid hx hv)
    have hvl := J.1.lt hvq.1
    have hyl := J.1.lt hy
    have hL : ∀ z ∈ L, z ∈ Q ∧ tLev T z = tLev T x - 1 := fun z hz => by
      have := J.1.kid hx (y := z) (by rw [hk]; simp [hz])
      exact ⟨this.1, this.2.2⟩
    rw [prs_cons, List.append_assoc] at hd
    rw [prs_cons, List.length_append] at hc
    have hst : stops (tLev T) (tLev T v) (prs (tLev T) kl L ++ Bx) := by
      rw [hvq.2.2]
      exact stops_kids hlk hL (by rw [show tLev T x - 1 + 1 = tLev T x by omega]; exact hB)
    have hpos : 0 < (pr (tLev T) kl v).length := by rw [pr_eq (Lk_at hlk hvq.1)]; simp
    have hend := end_pr J.2.2.1 hlk hvq.1 hd hst
    obtain ⟨w1, e1, e2, e3⟩ := J.bnd (c := w) (i := 1) (by omega) hvq.1 (J.ne hx hv) hd hst
    have hw1 : eqb w1 0 (tCor T) y := fun t ht => by rw [e3.eq (by omega) ht]; exact hw t ht
    obtain ⟨w2, f1, f2⟩ := m_enl (c := w1) (a := 1) (b := 0) (by omega) (by omega) (rg_eqb e2 (J.1.rgx hvq.1)) (rg_eqb hw1 (J.1.rgx hy))
    have hw2 : eqb w2 0 (tCor T) y := fun t ht => by rw [f2.eq (by omega) ht]; exact hw1 t ht
    have hA : ar w2 1 = ar (tCor T) v := (ar_eqb (f2.eqb (by omega))).trans (ar_eqb e2)
    have hG : ua w1 1 w1 0 - ar w1 1 = ua (tCor T) v (tCor T) y - ar (tCor T) v := by rw [ua_eqb e2 hw1, ar_eqb e2]
    have rA := ar_rg (J.1.rgx hvq.1)
    have rU := ua_rg (J.1.rgx hvq.1) (J.1.rgx hy)
    rw [hG] at f1
    have e1 : f_Mo_boundsAt s w (c : Int) 1 = some w1 := e1
    have f1 : f_Mo_enlargement w1 1 0 = some (ua (tCor T) v (tCor T) y - ar (tCor T) v, w2) := f1
    have a1 : f_Mo_areaOf w2 1 = some (ar (tCor T) v) := by rw [← hA]; exact m_area (i := 1) (by omega)
    have hat : At T kl r v c := ⟨_, hd, hst⟩
    have cA : ck (ar (tCor T) v) := ⟨by omega, by omega⟩
    have cG : ck (ua (tCor T) v (tCor T) y - ar (tCor T) v) := ⟨by omega, by omega⟩
    have hd2 := drop_app hd
    have it := fun (b2 cb2 g2 a2 : Int) (hB2 : BR T kl r x b2 cb2) (hg2 : ck g2) (ha2 : ck a2) => best_go J hx hy hB kC kR L (D ++ [v]) n m (c + (pr (tLev T) kl v).length) b2 cb2 g2 a2 w2 (by rw [hk]; simp) (by omega) (by omega) hd2 (by omega) he hw2 hB2 hg2 ha2
    rw [List.length_append, show ((D.length + [v].length : Nat) : Int) = (D.length : Int) + 1 by simp] at it
    have hbk : ck b := by
      rcases hBR with ⟨q1, -⟩ | ⟨v0, p0, q1, -, q3, -⟩
      · rw [q1]; exact ⟨by omega, by omega⟩
      · have := J.1.lt (J.1.kid hx q3).1
        exact ⟨by omega, by omega⟩
    have hcbk : ck cb ∧ (cb < 0 ↔ b = -1) := by
      rcases hBR with ⟨q1, q2⟩ | ⟨v0, p0, q1, q2, q3, ⟨B0, d0, -⟩⟩
      · rw [q1, q2]; exact ⟨⟨by omega, by omega⟩, by omega⟩
      · have hp0 := (drop_pr hlk (J.1.kid hx q3).1 d0).2.2
        have hpl := J.2.2.1.2.1
        exact ⟨⟨by omega, by omega⟩, by omega⟩
    have hCt : (b = -1 ∨ ua (tCor T) v (tCor T) y - ar (tCor T) v < g ∨ (ua (tCor T) v (tCor T) y - ar (tCor T) v = g ∧ ar (tCor T) v < a)) → f_Ch_bestEntry_L21 T (x : Int) (y : Int) ((kl x).length : Int) kC (n + 1) b g a (D.length : Int) = f_Ch_bestEntry_L21 T (x : Int) (y : Int) ((kl x).length : Int) kC n (v : Int) (ua (tCor T) v (tCor T) y - ar (tCor T) v) (ar (tCor T) v) ((D.length : Int) + 1) := by
      intro q
      rw [f_Ch_bestEntry_L21, gd_p ⟨by omega, by omega⟩, gd_p ⟨by omega, by omega⟩, if_pos (by omega), bd1_p (J.1.ent hx hj), bd1_p (t_area hle hvl), bd1_p (t_union hle hvl hyl (J.1.rgx hvq.1) (J.1.rgx hy)), gd_p hbk]
      by_cases c0 : b = -1
      · rw [if_pos c0]
      · rw [if_neg c0, gd_p cG, gd_p hg]
        by_cases c1 : ua (tCor T) v (tCor T) y - ar (tCor T) v < g
        · rw [if_pos c1]
        · rw [if_neg c1, if_pos (by omega), gd_p cA, gd_p ha, if_pos (by omega)]
    have hCk : ¬ (b = -1 ∨ ua (tCor T) v (tCor T) y - ar (tCor T) v < g ∨ (ua (tCor T) v (tCor T) y - ar (tCor T) v = g ∧ ar (tCor T) v < a)) → f_Ch_bestEntry_L21 T (x : Int) (y : Int) ((kl x).length : Int) kC (n + 1) b g a (D.length : Int) = f_Ch_bestEntry_L21 T (x : Int) (y : Int) ((kl x).length : Int) kC n b g a ((D.length : Int) + 1) := by
      intro q
      rw [f_Ch_bestEntry_L21, gd_p ⟨by omega, by omega⟩, gd_p ⟨by omega, by omega⟩, if_pos (by omega), bd1_p (J.1.ent hx hj), bd1_p (t_area hle hvl), bd1_p (t_union hle hvl hyl (J.1.rgx hvq.1) (J.1.rgx hy)), gd_p hbk, if_neg (by omega), gd_p cG, gd_p hg, if_neg (by omega)]
      by_cases c2 : ua (tCor T) v (tCor T) y - ar (tCor T) v = g
      · rw [if_pos c2, gd_p cA, gd_p ha, if_neg (by omega)]
      · rw [if_neg c2]
    have hRt : (b = -1 ∨ ua (tCor T) v (tCor T) y - ar (tCor T) v < g ∨ (ua (tCor T) v (tCor T) y - ar (tCor T) v = g ∧ ar (tCor T) v < a)) → f_Mo_chosen_L48 s (e : Int) kR (m + 1) cb g a (c : Int) w = f_Mo_chosen_L48 s (e : Int) kR m (c : Int) (ua (tCor T) v (tCor T) y - ar (tCor T) v) (ar (tCor T) v) ((c + (pr (tLev T) kl v).length : Nat) : Int) w2 := by
      intro q
      rw [f_Mo_chosen_L48, gd_p ⟨by omega, by omega⟩, gd_p ⟨by omega, by omega⟩, if_pos (by omega), bd1_p e1, bd2_p f1, bd1_p a1, gd_p hcbk.1]
      by_cases c0 : b = -1
      · rw [if_pos (hcbk.2.mpr c0), bd1_p hend]
      · rw [if_neg (fun q => c0 (hcbk.2.mp q)), gd_p cG, gd_p hg]
        by_cases c1 : ua (tCor T) v (tCor T) y - ar (tCor T) v < g
        · rw [if_pos c1, bd1_p hend]
        · rw [if_neg c1, if_pos (by omega), gd_p cA, gd_p ha, if_pos (by omega), bd1_p hend]
    have hRk : ¬ (b = -1 ∨ ua (tCor T) v (tCor T) y - ar (tCor T) v < g ∨ (ua (tCor T) v (tCor T) y - ar (tCor T) v = g ∧ ar (tCor T) v < a)) → f_Mo_chosen_L48 s (e : Int) kR (m + 1) cb g a (c : Int) w = f_Mo_chosen_L48 s (e : Int) kR m cb g a ((c + (pr (tLev T) kl v).length : Nat) : Int) w2 := by
      intro q
      rw [f_Mo_chosen_L48, gd_p ⟨by omega, by omega⟩, gd_p ⟨by omega, by omega⟩, if_pos (by omega), bd1_p e1, bd2_p f1, bd1_p a1, gd_p hcbk.1, if_neg (fun q2 => q (Or.inl (hcbk.2.mp q2))), gd_p cG, gd_p hg, if_neg (by omega)]
      by_cases c2 : ua (tCor T) v (tCor T) y - ar (tCor T) v = g
      · rw [if_pos c2, gd_p cA, gd_p ha, if_neg (by omega), bd1_p hend]
      · rw [if_neg c2, bd1_p hend]
    by_cases q : (b = -1 ∨ ua (tCor T) v (tCor T) y - ar (tCor T) v < g ∨ (ua (tCor T) v (tCor T) y - ar (tCor T) v = g ∧ ar (tCor T) v < a))
    · obtain ⟨b', cb', g', a', w', t1, t2, t3, t4, t5⟩ := it (v : Int) (c : Int) _ _ (Or.inr ⟨v, c, rfl, rfl, hv, hat⟩) cG cA
      exact ⟨b', cb', g', a', w', (hCt q).trans t1, (hRt q).trans t2, t3, t4, fun q2 => absurd (t5 q2).1 (by omega)⟩
    · obtain ⟨b', cb', g', a', w', t1, t2, t3, t4, t5⟩ := it b cb g a hBR hg ha
      exact ⟨b', cb', g', a', w', (hCk q).trans t1, (hRk q).trans t2, t3, t4, fun q2 => absurd (Or.inl (t5 q2).1) q⟩
