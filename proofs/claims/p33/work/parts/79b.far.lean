/-! the far entry: the class's farthestEntry beside the reference's takesFar -/
theorem cd_sym (c : Nat → Int) (x : Nat) (d : Nat → Int) (y : Nat) : cd c x d y = cd d y c x := by
  unfold cd
  rw [show d (4 * y + 0) + d (4 * y + 2) - (c (4 * x + 0) + c (4 * x + 2)) = -(c (4 * x + 0) + c (4 * x + 2) - (d (4 * y + 0) + d (4 * y + 2))) by omega, show d (4 * y + 1) + d (4 * y + 3) - (c (4 * x + 1) + c (4 * x + 3)) = -(c (4 * x + 1) + c (4 * x + 3) - (d (4 * y + 1) + d (4 * y + 3))) by omega, Int.neg_mul_neg, Int.neg_mul_neg]
theorem sq_nn (a : Int) : 0 ≤ a * a := by
  rcases Int.le_total 0 a with h | h
  · exact Int.mul_nonneg h h
  · exact Int.mul_nonneg_of_nonpos_of_nonpos h h
theorem cd_nn (c : Nat → Int) (x : Nat) (d : Nat → Int) (y : Nat) : 0 ≤ cd c x d y := by
  unfold cd
  exact Int.add_nonneg (sq_nn _) (sq_nn _)
theorem far_go {T : TV} {kl : Nat → List Nat} {Q Bx : List Nat} {r x e : Nat} {s : Nat → Int} (J : Jn T kl Q r s) (hx : x ∈ Q) (hB : stops (tLev T) (tLev T x) Bx) (kC : Int → Int → Int → Option Int) (kR : Int → Int → Int → (Nat → Int) → Option ((Nat → Int) × (Nat → Int) × (Nat → Int) × Int × Int × (Nat → Int))) : ∀ (L D : List Nat) (n m c : Nat) (b cb g : Int) (w : Nat → Int), kl x = D ++ L → L.length < n → L.length < m → (pr (tLev T) kl r).drop c = prs (tLev T) kl L ++ Bx → c + (prs (tLev T) kl L).length = e → e ≤ 360 → eqb w 1 (tCor T) x → BR T kl r x b cb → (b = -1 → g = 0) → ck g → ∃ b' cb' g' w', f_Ch_farthestEntry_L17 T (x : Int) ((kl x).length : Int) kC n b g (D.length : Int) = kC b' g' ((kl x).length : Int) ∧ f_Mo_takesFar_L44 s (e : Int) kR m cb g (c : Int) w = kR cb' g' (e : Int) w' ∧ BR T kl r x b' cb' ∧ (b' = -1 → b = -1 ∧ L = [])
  | [], D, n + 1, m + 1, c, b, cb, g, w, hk, hn, hm, hd, hc, he, hw, hBR, hg0, hg => by
    have h6 := (J.1.siz hx).2
    rw [List.append_nil] at hk
    rw [prs_nil] at hc
    simp at hc
    subst hc
    refine ⟨b, cb, g, w, ?_, ?_, hBR, fun q => ⟨q, rfl⟩⟩
    · rw [f_Ch_farthestEntry_L17, ← hk, gd_p ⟨by omega, by omega⟩, gd_p ⟨by omega, by omega⟩, if_neg (by omega)]
    · rw [f_Mo_takesFar_L44, gd_p ⟨by omega, by omega⟩, gd_p ⟨by omega, by omega⟩, if_neg (by omega)]
  | v :: L, D, n + 1, m + 1, c, b, cb, g, w, hk, hn, hm, hd, hc, he, hw, hBR, hg0, hg => by
    have h6 := (J.1.siz hx).2
    have hR := J.1.1
    have hle := J.1.le
    have hlk := J.1.lk
    have hlen := congrArg List.length hk
    rw [List.length_append, List.length_cons] at hlen
    simp only [List.length_cons] at hn hm
    have hj : (kl x)[D.length]? = some v := by rw [hk, List.getElem?_append_right (Nat.le_refl _), Nat.sub_self]; rfl
    have hv : v ∈ kl x := List.mem_of_getElem? hj
    have hvq := (J.1.kid hx hv)
    have hvl := J.1.lt hvq.1
    have hxl := J.1.lt hx
    have hL : ∀ z ∈ L, z ∈ Q ∧ tLev T z = tLev T x - 1 := fun z hz => by
      have := J.1.kid hx (y := z) (by rw [hk]; simp [hz])
      exact ⟨this.1, this.2.2⟩
    rw [prs_cons, List.append_assoc] at hd
    rw [prs_cons, List.length_append] at hc
    have hst : stops (tLev T) (tLev T v) (prs (tLev T) kl L ++ Bx) := by
      rw [hvq.2.2]
      exact stops_kids hlk hL (by rw [show tLev T x - 1 + 1 = tLev T x by omega]; exact hB)
    have hpos : 0 < (pr (tLev T) kl v).length := by rw [pr_eq (Lk_at hlk hvq.1)]; simp
    have hend := end_pr J.2.2.1 hlk hvq.1 hd hst
    obtain ⟨w1, e1, e2, e3⟩ := J.bnd (c := w) (i := 2) (by omega) hvq.1 (J.ne hx hv) hd hst
    have hw1 : eqb w1 1 (tCor T) x := fun t ht => by rw [e3.eq (by omega) ht]; exact hw t ht
    have e1 : f_Mo_boundsAt s w (c : Int) 2 = some w1 := e1
    have f1 : f_Mo_centerDistance w1 1 2 = some (cd (tCor T) v (tCor T) x) := by
      rw [← cd_sym (tCor T) x (tCor T) v, ← cd_eqb hw1 e2]
      exact m_dist (a := 1) (b := 2) (by omega) (by omega)
    have rD := cd_rg (J.1.rgx hvq.1) (J.1.rgx hx)
    have nD := cd_nn (tCor T) v (tCor T) x
    have hat : At T kl r v c := ⟨_, hd, hst⟩
    have cD : ck (cd (tCor T) v (tCor T) x) := ⟨by omega, by omega⟩
    have hd2 := drop_app hd
    have it := fun (b2 cb2 g2 : Int) (hB2 : BR T kl r x b2 cb2) (hg02 : b2 = -1 → g2 = 0) (hg2 : ck g2) => far_go J hx hB kC kR L (D ++ [v]) n m (c + (pr (tLev T) kl v).length) b2 cb2 g2 w1 (by rw [hk]; simp) (by omega) (by omega) hd2 (by omega) he hw1 hB2 hg02 hg2
    rw [List.length_append, show ((D.length + [v].length : Nat) : Int) = (D.length : Int) + 1 by simp] at it
    have hcbk : ck cb ∧ (cb < 0 ↔ b = -1) := by
      rcases hBR with ⟨q1, q2⟩ | ⟨v0, p0, q1, q2, q3, ⟨B0, d0, -⟩⟩
      · rw [q1, q2]; exact ⟨⟨by omega, by omega⟩, by omega⟩
      · have hp0 := (drop_pr hlk (J.1.kid hx q3).1 d0).2.2
        have hpl := J.2.2.1.2.1
        exact ⟨⟨by omega, by omega⟩, by omega⟩
    have hC : f_Ch_farthestEntry_L17 T (x : Int) ((kl x).length : Int) kC (n + 1) b g (D.length : Int) = if cd (tCor T) v (tCor T) x < g then f_Ch_farthestEntry_L17 T (x : Int) ((kl x).length : Int) kC n b g ((D.length : Int) + 1) else f_Ch_farthestEntry_L17 T (x : Int) ((kl x).length : Int) kC n (v : Int) (cd (tCor T) v (tCor T) x) ((D.length : Int) + 1) := by
      rw [f_Ch_farthestEntry_L17, gd_p ⟨by omega, by omega⟩, gd_p ⟨by omega, by omega⟩, if_pos (by omega), bd1_p (J.1.ent hx hj), bd1_p (t_dist hle hvl hxl), gd_p cD, gd_p hg]
    have hRt : ¬ cd (tCor T) v (tCor T) x < g → f_Mo_takesFar_L44 s (e : Int) kR (m + 1) cb g (c : Int) w = f_Mo_takesFar_L44 s (e : Int) kR m (c : Int) (cd (tCor T) v (tCor T) x) ((c + (pr (tLev T) kl v).length : Nat) : Int) w1 := by
      intro q
      rw [f_Mo_takesFar_L44, gd_p ⟨by omega, by omega⟩, gd_p ⟨by omega, by omega⟩, if_pos (by omega), bd1_p e1, bd1_p f1, gd_p hcbk.1]
      by_cases c0 : b = -1
      · have hg1 := hg0 c0
        rw [if_pos (hcbk.2.mpr c0), gd_p cD, gd_p hg]
        by_cases c1 : g < cd (tCor T) v (tCor T) x
        · rw [if_pos c1, bd1_p hend]
        · rw [if_neg c1, bd1_p hend, show g = cd (tCor T) v (tCor T) x by omega]
      · rw [if_neg (fun q2 => c0 (hcbk.2.mp q2)), gd_p cD, gd_p hg, if_neg q]
        by_cases c1 : g < cd (tCor T) v (tCor T) x
        · rw [if_pos c1, bd1_p hend]
        · rw [if_neg c1, bd1_p hend, show g = cd (tCor T) v (tCor T) x by omega]
    have hRk : cd (tCor T) v (tCor T) x < g → f_Mo_takesFar_L44 s (e : Int) kR (m + 1) cb g (c : Int) w = f_Mo_takesFar_L44 s (e : Int) kR m cb g ((c + (pr (tLev T) kl v).length : Nat) : Int) w1 := by
      intro q
      have c0 : ¬ b = -1 := fun q2 => by have := hg0 q2; omega
      rw [f_Mo_takesFar_L44, gd_p ⟨by omega, by omega⟩, gd_p ⟨by omega, by omega⟩, if_pos (by omega), bd1_p e1, bd1_p f1, gd_p hcbk.1, if_neg (fun q2 => c0 (hcbk.2.mp q2)), gd_p cD, gd_p hg, if_pos q, if_neg (by omega), bd1_p hend]
    by_cases q : cd (tCor T) v (tCor T) x < g
    · have c0 : ¬ b = -1 := fun q2 => by have := hg0 q2; omega
      obtain ⟨b', cb', g', w', t1, t2, t4, t5⟩ := it b cb g hBR hg0 hg
      exact ⟨b', cb', g', w', by rw [hC, if_pos q]; exact t1, (hRk q).trans t2, t4, fun q2 => absurd (t5 q2).1 c0⟩
    · obtain ⟨b', cb', g', w', t1, t2, t4, t5⟩ := it (v : Int) (c : Int) _ (Or.inr ⟨v, c, rfl, rfl, hv, hat⟩) (fun q2 => absurd q2 (by omega)) cD
      exact ⟨b', cb', g', w', by rw [hC, if_neg q]; exact t1, (hRt q).trans t2, t4, fun q2 => absurd (t5 q2).1 (by omega)⟩
