/-! an own insertion: the class's insertOwn beside the reference's inserts -/
/-- as Mv, for a step that brings the items of Y into the tree -/
def Mw (Y : List Nat) (T : TV) (kl : Nat → List Nat) (Q : List Nat) (r : Nat) (s : Nat → Int) (T' : TV) (kl' : Nat → List Nat) (Q' : List Nat) (r' : Nat) (s' : Nat → Int) : Prop :=
  (∀ v ∈ Q, v ∈ Q' ∧ tLev T' v = tLev T v) ∧
  (∀ v ∈ Q, v ∉ pr (tLev T) kl r → v ∉ Y → kl' v = kl v ∧ v ∉ pr (tLev T') kl' r' ∧ tHol T' v = tHol T v) ∧
  (∀ v, (v ∈ pr (tLev T) kl r ∨ v ∈ Y) → v ∈ pr (tLev T') kl' r') ∧
  (∀ v ∈ Q', v ∈ Q ∨ (24 ≤ v ∧ v ∈ pr (tLev T') kl' r')) ∧
  (tCap T' = tCap T ∧ tRei T' = tRei T) ∧
  (∀ j, j < 101 → j ≠ 2 → j ≠ 3 → j ≠ 4 → s' j = s j) ∧
  (tSpl T' - s' 2 = tSpl T - s 2 ∧ tRec T' - s' 3 = tRec T - s 3) ∧
  tLev T r ≤ tLev T' r' ∧
  (Rt2 (tLev T) kl r → Rt2 (tLev T') kl' r')
theorem Mw.tr {Y : List Nat} {T T' T'' : TV} {kl kl' kl'' : Nat → List Nat} {Q Q' Q'' : List Nat} {r r' r'' : Nat} {s s' s'' : Nat → Int} (h : Mw Y T kl Q r s T' kl' Q' r' s') (g : Mv T' kl' Q' r' s' T'' kl'' Q'' r'' s'') : Mw Y T kl Q r s T'' kl'' Q'' r'' s'' := by
  refine ⟨fun v hv => ?_, fun v hv hn hy => ?_, fun v hv => g.2.2.1 v (h.2.2.1 v hv), fun v hv => (g.2.2.2.1 v hv).elim (fun q => (h.2.2.2.1 v q).imp id (fun q => ⟨q.1, g.2.2.1 v q.2⟩)) Or.inr, ⟨g.2.2.2.2.1.1.trans h.2.2.2.2.1.1, g.2.2.2.2.1.2.trans h.2.2.2.2.1.2⟩, fun j h1 h2 h3 h4 => (g.2.2.2.2.2.1 j h1 h2 h3 h4).trans (h.2.2.2.2.2.1 j h1 h2 h3 h4), ⟨g.2.2.2.2.2.2.1.1.trans h.2.2.2.2.2.2.1.1, g.2.2.2.2.2.2.1.2.trans h.2.2.2.2.2.2.1.2⟩, Int.le_trans h.2.2.2.2.2.2.2.1 g.2.2.2.2.2.2.2.1, fun q => g.2.2.2.2.2.2.2.2 (h.2.2.2.2.2.2.2.2 q)⟩
  · have h1 := h.1 v hv
    have h2 := g.1 v h1.1
    exact ⟨h2.1, h2.2.trans h1.2⟩
  · have h1 := h.2.1 v hv hn hy
    have h2 := g.2.1 v (h.1 v hv).1 h1.2.1
    exact ⟨h2.1.trans h1.1, h2.2.1, h2.2.2.trans h1.2.2⟩
theorem tz_go (k : Int → (Nat → Int) → Option RI) : ∀ (d i n : Nat) (tr : Nat → Int), i + d = 24 → d < n → (∀ l, l < i → tr l = 0) → ∃ tr', f_Mo_inserts_L2 k n (i : Int) tr = k 24 tr' ∧ ∀ l, l < 24 → tr' l = 0
  | 0, i, n + 1, tr, hi, hn, h => by
    refine ⟨tr, ?_, fun l hl => h l (by omega)⟩
    rw [f_Mo_inserts_L2, gd_p ⟨by omega, by omega⟩, if_neg (by omega), show (i : Int) = 24 by omega]
  | d + 1, i, n + 1, tr, hi, hn, h => by
    obtain ⟨tr', e1, e2⟩ := tz_go k d (i + 1) n (up tr i 0) (by omega) (by omega) (fun l hl => by
      by_cases hli : l = i
      · rw [hli]; exact up_s
      · rw [up_o hli]; exact h l (by omega))
    refine ⟨tr', ?_, e2⟩
    rw [f_Mo_inserts_L2, gd_p ⟨by omega, by omega⟩, if_pos (by omega), gd_p ⟨by omega, by omega⟩, show ((i : Int)).toNat = i by omega, show (i : Int) + 1 = ((i + 1 : Nat) : Int) by omega]
    exact e1
theorem own_sp {T : TV} {kl : Nat → List Nat} {Q : List Nat} {r y : Nat} {s pool w it tr fr gr tu si old : Nat → Int} {left : Int} (O : Ok T kl Q r s) (hsz : ∀ v ∈ Q, (kl v).length ≤ 5) (hy : y ∈ Q) (hyr : y ≠ r) (hh : tHol T y = -1) (hl : tLev T y + 1 ≤ tLev T r) (hit : ∀ (j z : Nat), (pr (tLev T) kl y)[j]? = some z → it j = sg (tLev T) z) : ∃ (T' : TV) (kl' : Nat → List Nat) (Q' : List Nat) (r' : Nat) (left' items' il' : Int) (cc' : Int64) (s' pool' w' it' tr' fr' gr' tu' si' old' : Nat → Int), f_Ch_insertOwn pool left T (y : Int) = some (pool', left', cc', T') ∧ f_Mo_inserts s w it ((pr (tLev T) kl y).length : Int) (tLev T y + 1) tr fr gr tu si old = some (s', w', it', items', il', tr', fr', gr', tu', si', old') ∧ Ok T' kl' Q' r' s' ∧ (∀ v ∈ Q', (kl' v).length ≤ 5) ∧ Mw (pr (tLev T) kl y) T kl Q r s T' kl' Q' r' s' := by
  have J := O.1
  have h := J.1
  have hQl := O.2.2.1.len h
  have hcap := O.2.2.2.1
  obtain ⟨x, p, w1, T1, s1, v1, v2, v3, v4, v5, v6, v7, v8, v9, v10, v11, v12, v13⟩ := into_sp (w := w) (it := it) J hy hyr hh hl hit hsz (by omega)
  have hL1 : tLev T1 = tLev T := v10.1
  have hlx := O.2.2.1.lvl x v6
  have hly := O.2.2.1.lvl y hy
  have O1 : Ok T1 (upL kl x (kl x ++ [y])) Q r s1 := by
    refine ⟨v5, ?_, by rw [hL1]; exact O.2.2.1, by rw [v10.2.2.2.1]; exact hcap, ?_, ?_, by rw [v10.2.2.2.2.1]; exact O.2.2.2.2.2.2⟩
    · show tR T1 = 157
      rw [v10.2.1]
      exact O.2.1
    · rw [v13 0 (by omega) (by omega), v10.2.2.2.1]
      exact O.2.2.2.2.1
    · rw [v13 1 (by omega) (by omega), v10.2.2.2.2.1]
      exact O.2.2.2.2.2.1
  obtain ⟨tr1, t1, t2⟩ := tz_go (fun x1_4 c_treated_5 => f_Mo_inserts_L23 (fun x1_89 c_s_90 c_rect_91 c_item_92 c_items_93 c_itemLevel_94 c_treated_95 c_from_96 c_group_97 c_turn_98 c_size_99 c_old_100 => some (c_s_90, c_rect_91, c_item_92, c_items_93, c_itemLevel_94, c_treated_95, c_from_96, c_group_97, c_turn_98, c_size_99, c_old_100)) FU 1 s w it ((pr (tLev T) kl y).length : Int) (tLev T y + 1) c_treated_5 fr gr tu si old) 24 0 FU tr rfl (by unfold FU; omega) (fun l hl => absurd hl (by omega))
  have hun : un tr1 (List.range 24) ≤ 24 := by
    have := un_le (tr := tr1) (L := List.range 24)
    rw [List.length_range] at this
    exact this
  obtain ⟨T2, kl2, Q2, r2, x2, st2, left2, items2, il2, cc2, s2, pool2, w2, it2, tr2, fr2, gr2, tu2, si2, old2, b1, b2, b3, b4, b5⟩ := ins_go (fun x2_37 x3_38 c_pool_39 c_left_40 c_treated_41 T_42 => some (c_pool_39, c_left_40, c_treated_41, T_42)) (fun x1_89 c_s_90 c_rect_91 c_item_92 c_items_93 c_itemLevel_94 c_treated_95 c_from_96 c_group_97 c_turn_98 c_size_99 c_old_100 => some (c_s_90, c_rect_91, c_item_92, c_items_93, c_itemLevel_94, c_treated_95, c_from_96, c_group_97, c_turn_98, c_size_99, c_old_100)) 745 T1 _ Q r x p FU FU 4095 0 0 s1 pool w1 it tr1 fr gr tu si old left ((pr (tLev T) kl y).length : Int) (tLev T y + 1) O1 v6 v7 (fun v hv hvx => by rw [upL_o hvx]; exact hsz v hv) (tb_zero t2) (by rw [hL1]; omega) (by omega) (by unfold FU; omega) (by unfold FU; omega) (by omega) (by omega)
  refine ⟨T2, kl2, Q2, r2, left2, items2, il2, cc2, s2, pool2, w2, it2, tr2, fr2, gr2, tu2, si2, old2, ?_, ?_, b3, b4, Mw.tr ⟨fun v hv => ⟨hv, by rw [hL1]⟩, fun v hv hn hy2 => ?_, fun v hv => (v12 v).mpr hv, fun v hv => Or.inl hv, ⟨v10.2.2.2.1, v10.2.2.2.2.1⟩, fun j j1 _ _ j4 => v13 j j1 j4, ⟨?_, ?_⟩, by rw [hL1]; exact Int.le_refl _, fun hq => ?_⟩ b5⟩
  · unfold f_Ch_insertOwn
    rw [bd1_p v1, bd1_p (t_siz h.le (h.lt v6)), bd1_p v2]
    exact b1
  · unfold f_Mo_inserts
    refine Eq.trans t1 ?_
    show f_Mo_inserts_L23 _ (4095 + 1) _ _ _ _ _ _ _ _ _ _ _ _ = _
    rw [f_Mo_inserts_L23, gd_p ⟨by omega, by omega⟩, if_neg (by omega), bd2_p v3, bd1_p v4]
    exact b2
  · have hvx : v ≠ x := fun q => hn (q ▸ v9)
    have hvy : v ≠ y := fun q => hy2 (by rw [q]; exact pr_self (Lk_at h.lk hy))
    exact ⟨upL_o hvx, fun q => ((v12 v).mp q).elim hn hy2, by rw [v11, up_o hvy]⟩
  · rw [v10.2.2.2.2.2.1, v13 2 (by omega) (by omega)]
  · rw [v10.2.2.2.2.2.2, v13 3 (by omega) (by omega)]
  · unfold Rt2 at hq ⊢
    rw [hL1]
    by_cases hrx : r = x
    · rw [← hrx, upL_s, List.length_append]
      simp
      omega
    · rw [upL_o hrx]
      exact hq
/-- what isn't held is the top of its own tree alone -/
theorem top_one {T : TV} {kl : Nat → List Nat} {Q : List Nat} (h : Ar T kl Q) : ∀ (d z y1 y2 : Nat), y1 ∈ Q → y2 ∈ Q → tHol T y1 = -1 → tHol T y2 = -1 → z ∈ pr (tLev T) kl y1 → z ∈ pr (tLev T) kl y2 → (tLev T y1 - tLev T z).toNat ≤ d → y1 = y2 := by
  have key : ∀ z y1 y2, y1 ∈ Q → y2 ∈ Q → tHol T y1 = -1 → z = y1 → z ∈ pr (tLev T) kl y2 → y1 = y2 := fun z y1 y2 h1 h2 g1 e m2 => by
    subst e
    by_cases c2 : z = y2
    · exact c2
    · obtain ⟨w2, u1, u2⟩ := pr_up h.lk y2 h2 z m2 c2
      exact absurd u2 (h.loose g1 w2 (pr_in h.lk y2 h2 w2 u1).1)
  intro d
  induction d with
  | zero =>
    intro z y1 y2 h1 h2 g1 g2 m1 m2 hd
    have a1 := pr_in h.lk y1 h1 z m1
    exact key z y1 y2 h1 h2 g1 (a1.2.2 (by omega)) m2
  | succ d ih =>
    intro z y1 y2 h1 h2 g1 g2 m1 m2 hd
    by_cases c1 : z = y1
    · exact key z y1 y2 h1 h2 g1 c1 m2
    · by_cases c2 : z = y2
      · exact (key z y2 y1 h2 h1 g2 c2 m1).symm
      · obtain ⟨w1, v1, v2⟩ := pr_up h.lk y1 h1 z m1 c1
        obtain ⟨w2, u1, u2⟩ := pr_up h.lk y2 h2 z m2 c2
        have b1 := pr_in h.lk y1 h1 w1 v1
        have b2 := pr_in h.lk y2 h2 w2 u1
        have hw := h.one b1.1 b2.1 v2 u2
        subst hw
        have := (h.kid b1.1 v2).2.2
        exact ih w1 y1 y2 h1 h2 g1 g2 v1 u1 (by omega)
theorem tops {T : TV} {kl : Nat → List Nat} {Q : List Nat} (h : Ar T kl Q) {z y1 y2 : Nat} (h1 : y1 ∈ Q) (h2 : y2 ∈ Q) (g1 : tHol T y1 = -1) (g2 : tHol T y2 = -1) (m1 : z ∈ pr (tLev T) kl y1) (m2 : z ∈ pr (tLev T) kl y2) : y1 = y2 := top_one h _ z y1 y2 h1 h2 g1 g2 m1 m2 (Nat.le_refl _)
