/-! the way down to the node of a level -/
theorem Jn.ckp {T : TV} {kl : Nat → List Nat} {Q : List Nat} {r x p : Nat} {s : Nat → Int} (J : Jn T kl Q r s) (hx : x ∈ Q) (h : At T kl r x p) : p + (pr (tLev T) kl x).length ≤ 360 ∧ (pr (tLev T) kl r)[p]? = some x := by
  obtain ⟨B, e, hB⟩ := h
  have h1 := drop_pr J.1.lk hx e
  have h2 := J.2.2.1.2.1
  have h3 := congrArg List.length e
  rw [List.length_drop, List.length_append] at h3
  exact ⟨by omega, h1.1⟩
theorem tgt_go {T : TV} {kl : Nat → List Nat} {Q : List Nat} {r y : Nat} {s : Nat → Int} (J : Jn T kl Q r s) (hy : y ∈ Q) (kC : Int → Int → Option Int) (kR : Int → (Nat → Int) → Option (Int × (Nat → Int))) : ∀ (d n m st x p : Nat) (w : Nat → Int), x ∈ Q → At T kl r x p → tLev T x = tLev T y + 1 + (d : Int) → d < n → d < m → st + d < 1000000 → eqb w 0 (tCor T) y → ∃ (x' p' : Nat) (w' : Nat → Int) (st' : Int), f_Ch_targetFor_L22 T (y : Int) (tLev T y + 1) kC n (x : Int) (st : Int) = kC (x' : Int) st' ∧ f_Mo_chosen_L16 s (tLev T y + 1) kR m (p : Int) w = kR (p' : Int) w' ∧ x' ∈ Q ∧ At T kl r x' p' ∧ tLev T x' = tLev T y + 1
  | 0, n + 1, m + 1, st, x, p, w, hx, hat, hl, _, _, hst, hw => by
    have hyc := J.1.ckl hy
    have hi := (J.1.2.2.2.2 y hy).1
    refine ⟨x, p, w, (st : Int), ?_, ?_, hx, hat, by omega⟩
    · rw [f_Ch_targetFor_L22, bd1_p (t_lev J.1.le (J.1.lt hx)), gd_p (J.1.ckl hx), gd_p ⟨by omega, by omega⟩, if_neg (by omega)]
    · rw [f_Mo_chosen_L16, bd1_p (row_lev J.2.2.1 (J.ckp hx hat).2), gd_p (J.1.ckl hx), gd_p ⟨by omega, by omega⟩, if_neg (by omega)]
  | d + 1, n + 1, m + 1, st, x, p, w, hx, hat, hl, hn, hm, hst, hw => by
    have hi := (J.1.2.2.2.2 y hy).1
    have hc := J.ckp hx hat
    obtain ⟨B, e, hB⟩ := hat
    have hdp := drop_pr J.1.lk hx e
    have hpr : (pr (tLev T) kl x).length = 1 + (prs (tLev T) kl (kl x)).length := by rw [pr_eq (Lk_at J.1.lk hx)]; simp; omega
    have h6 := (J.1.siz hx)
    have h24 : 24 ≤ x := by
      rcases Nat.lt_or_ge x 24 with q | q
      · have := (J.1.lev24 hx).mp q
        omega
      · exact q
    have hne : kl x ≠ [] := fun q => by
      have := J.2.2.2.2.2 x hx h24 q
      have q2 := this.2
      rw [← this.1] at q2
      omega
    obtain ⟨b', cb', g', a', w', t1, t2, t3, t4, t5⟩ := best_go J hx hy hB (fun x3_25 x4_26 x5_27 x7_28 => some (x3_25)) (fun x2_50 x3_51 x4_52 x6_53 c_rect_54 => f_Mo_chosen_L16 s (tLev T y + 1) kR m (x2_50) (c_rect_54)) (e := p + (pr (tLev T) kl x).length) (kl x) [] FU FU (p + 1) (-1) (-5) 0 0 w rfl (by have := h6.2; unfold FU; omega) (by have := h6.2; unfold FU; omega) hdp.2.1 (by omega) hc.1 hw (Or.inl ⟨rfl, rfl⟩) ⟨by omega, by omega⟩ ⟨by omega, by omega⟩
    rcases t4 with ⟨q1, -⟩ | ⟨v, p2, q1, q2, q3, q4⟩
    · exact absurd (t5 q1).2 hne
    · have hv := J.1.kid hx q3
      obtain ⟨x', p', w2, st', u1, u2, u3⟩ := tgt_go J hy kC kR d n m (st + 1) v p2 w' hv.1 q4 (by rw [hv.2.2]; omega) (by omega) (by omega) (by omega) t3
      refine ⟨x', p', w2, st', ?_, ?_, u3⟩
      · rw [f_Ch_targetFor_L22, bd1_p (t_lev J.1.le (J.1.lt hx)), gd_p (J.1.ckl hx), gd_p ⟨by omega, by omega⟩, if_pos (by omega), gd_p ⟨by omega, by omega⟩, if_pos (by omega)]
        have hb : f_Ch_bestEntry T (x : Int) (y : Int) = some (v : Int) := by
          unfold f_Ch_bestEntry
          rw [bd1_p (t_siz J.1.le (J.1.lt hx)), h6.1, ← q1]
          exact t1
        rw [bd1_p hb, show (st : Int) + 1 = ((st + 1 : Nat) : Int) by omega]
        exact u1
      · rw [f_Mo_chosen_L16, bd1_p (row_lev J.2.2.1 hc.2), gd_p (J.1.ckl hx), gd_p ⟨by omega, by omega⟩, if_pos (by omega), bd1_p (end_pr J.2.2.1 J.1.lk hx e hB), show (p : Int) + 1 = ((p + 1 : Nat) : Int) by omega]
        rw [t2, q2]
        exact u2
/-- both choose the same node -/
theorem tgt_sp {T : TV} {kl : Nat → List Nat} {Q : List Nat} {r y : Nat} {s it w : Nat → Int} (J : Jn T kl Q r s) (hy : y ∈ Q) (hyn : 24 ≤ y → kl y ≠ []) (hl : tLev T y + 1 ≤ tLev T r) (hit : ∀ (j z : Nat), (pr (tLev T) kl y)[j]? = some z → it j = sg (tLev T) z) (hlen : (pr (tLev T) kl y).length ≤ 360) : ∃ (x p : Nat) (w' : Nat → Int), f_Ch_targetFor T (y : Int) = some (x : Int) ∧ f_Mo_chosen s w it ((pr (tLev T) kl y).length : Int) (tLev T y + 1) = some ((p : Int), w') ∧ x ∈ Q ∧ At T kl r x p ∧ tLev T x = tLev T y + 1 := by
  have hb := J.box y hy hyn
  obtain ⟨w1, e1, e2, -⟩ := boundsItem_sp (s := s) (lv := tLev T) (c := w) (i := 0) (by omega) (fun j z hz => by
    have hzq := (pr_in J.1.lk y hy z (List.mem_of_getElem? hz)).1
    exact ⟨hit j z hz, J.1.oki hzq, fun h24 => rg_eqb (J.2.2.2.2.1 z hzq h24) (J.1.rgx hzq)⟩) hlen hb.1
  have hw1 : eqb w1 0 (tCor T) y := fun t ht => by rw [e2 t ht, hb.2 t ht]
  have hr := (J.1.2.2.2.2 r J.2.1.1).1
  have hyl := (J.1.2.2.2.2 y hy).1
  obtain ⟨x, p, w', st, u1, u2, u3⟩ := tgt_go J hy (fun x3_15 x4_16 => some (x3_15)) (fun x1_55 c_rect_56 => some (x1_55, c_rect_56)) (tLev T r - (tLev T y + 1)).toNat FU FU 0 r 0 w1 J.2.1.1 ⟨[], by simp, stops_nil⟩ (by omega) (by unfold FU; omega) (by unfold FU; omega) (by omega) hw1
  refine ⟨x, p, w', ?_, ?_, u3⟩
  · unfold f_Ch_targetFor
    rw [bd1_p (t_lev J.1.le (J.1.lt hy)), J.2.1.2.2.1]
    exact u1
  · have e1 : f_Mo_bounds_item s w it 0 ((pr (tLev T) kl y).length : Int) 0 = some w1 := e1
    unfold f_Mo_chosen
    rw [bd1_p e1]
    exact u2
