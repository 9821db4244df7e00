/-! a split as a whole: the class's splitNode beside the reference's divides -/
/-- the way up is within the tree -/
theorem pr_above {T : TV} {kl : Nat → List Nat} {Q : List Nat} {r x : Nat} (h : Ar T kl Q) (hr : r ∈ Q) (hx : x ∈ pr (tLev T) kl r) (hxr : x ≠ r) : ∃ pn, pn ∈ Q ∧ pn ∈ pr (tLev T) kl r ∧ x ∈ kl pn := by
  obtain ⟨pn, h1, h2⟩ := pr_up h.lk r hr x hx hxr
  exact ⟨pn, (pr_in h.lk r hr pn h1).1, h1, h2⟩
theorem split_in {T : TV} {kl : Nat → List Nat} {Q : List Nat} {r x p : Nat} {pool s w fr group turn size old : Nat → Int} {left : Int} (J : Jn T kl Q r s) (hx : x ∈ Q) (hxr : x ≠ r) (hat : At T kl r x p) (hR3 : R3 T) (hQ : Q.length ≤ 250) (hNN : nn (tLev T) Q ≤ 132) (h2 : 2 ≤ (kl x).length) (hsz : ∀ v ∈ Q, v ≠ x → (kl v).length ≤ 5) (hcap : 3 ≤ tCap T ∧ tCap T ≤ 5) (hs : s 0 = tCap T) : ∃ (pn p' z : Nat) (pool' : Nat → Int) (T' : TV) (kl' : Nat → List Nat) (s' w' fr' gr tu si old' : Nat → Int), f_Ch_splitNode pool left T (x : Int) = some ((pn : Int), pool', 0, T') ∧ f_Mo_divides s w fr group turn size old (p : Int) = some ((p' : Int), s', w', fr', gr, tu, si, old') ∧ Jn T' kl' (z :: Q) r s' ∧ Mv T kl Q r s T' kl' (z :: Q) r s' ∧ z ∉ Q ∧ R3 T' ∧ pn ∈ Q ∧ At T' kl' r pn p' ∧ tLev T' pn = tLev T x + 1 ∧ (∀ v ∈ z :: Q, v ≠ pn → (kl' v).length ≤ 5) ∧ tLev T' z = tLev T x := by
  have h := J.1
  have hlk := h.lk
  have hr := J.2.1.1
  have hck := J.ckp hx hat
  have hxr2 : x ∈ pr (tLev T) kl r := List.mem_of_getElem? hck.2
  obtain ⟨pn, hpn, hpr, hxk⟩ := pr_above h hr hxr2 hxr
  obtain ⟨D, E, hk⟩ := List.append_of_mem hxk
  have hxp := h.kid hpn hxk
  have hpx : pn ≠ x := fun q => by subst q; omega
  have h24 : 24 ≤ x := by
    cases hkx : kl x with
    | nil => rw [hkx] at h2; simp at h2
    | cons y t => exact h.node hx (y := y) (by rw [hkx]; simp)
  have hx6 := (h.siz hx).2
  obtain ⟨A, B, c1, c2, -, c4⟩ := ctx hlk pn r hr hpr
  have hprp : pr (tLev T) kl pn = pn :: (prs (tLev T) kl D ++ (pr (tLev T) kl x ++ prs (tLev T) kl E)) := by rw [pr_eq (Lk_at hlk hpn), hk, prs_app, prs_cons]
  have hPe : pr (tLev T) kl r = (A ++ pn :: prs (tLev T) kl D) ++ (pr (tLev T) kl x ++ (prs (tLev T) kl E ++ B)) := by rw [c1, hprp]; simp
  have hpl := at_place h hr hx hat hPe
  obtain ⟨B', d1, d2⟩ := hat
  have hBB : B' = prs (tLev T) kl E ++ B := List.append_cancel_left (d1.symm.trans hpl.2)
  rw [hBB] at d2
  have hN := pr_nodup h r hr
  have hPlen := Nat.le_trans (pr_length h hr) hQ
  have J2 : Jn T kl Q r (up s 2 (s 2 + 1)) := J.up (by omega)
  obtain ⟨w1, e1, e2⟩ := dv_sp (w := w) (fr := fr) (group := group) (turn := turn) (size := size) (old := old) J2 hx h24 hPe hpl.1.symm d2 (by omega)
  obtain ⟨z, T1, n1, n2, n3, pool', T4, kl4, g, w2, gr, tu, si, f1, f2, f3, f4, f5, f6, f7, f8, f9, f10, f11, f12, f13, f14, f15, f16, f17, f18⟩ := cls_split (pool := pool) (s := up s 2 (s 2 + 1)) (group := group) (turn := turn) (size := size) h J.2.2.2.1 hR3 hNN hx hpn hk (hsz pn hpn hpx) h2 hcap (by rw [up_o (by omega)]; exact hs) e1
  have hgl := Perm.prs_len (lv := tLev T) (kl := kl) f18
  rw [prs_app, List.length_append] at hgl
  obtain ⟨s', fr', old', u1, u2, u3⟩ := e2 w2 gr tu si g f2 f3 hgl
  have hA4 := f6
  have hlk4 := hA4.lk
  have hpQ : pn ∈ z :: Q := List.mem_cons_of_mem _ hpn
  have hxQ : x ∈ z :: Q := List.mem_cons_of_mem _ hx
  have hzx : z ≠ x := fun q => n2 (q ▸ hx)
  have hzp : z ≠ pn := fun q => n2 (q ▸ hpn)
  -- subtrees that stay
  have hin : ∀ a, a < 2 → ∀ y ∈ (g a).map (nth (kl x)), y ∈ kl x := fun a ha y hy => f18.mem_iff.mp (by
    rcases (show a = 0 ∨ a = 1 by omega) with rfl | rfl
    · exact List.mem_append_left _ hy
    · exact List.mem_append_right _ hy)
  have hsame : ∀ v ∈ Q, v ≠ x → v ≠ pn → kl4 v = kl v ∧ tLev T4 v = tLev T v := fun v hv v0 v1 => ⟨f12 v hv v0 v1, f13 v hv⟩
  have hK : ∀ a, a < 2 → prs (tLev T4) kl4 ((g a).map (nth (kl x))) = prs (tLev T) kl ((g a).map (nth (kl x))) := fun a ha => prs_same hlk _ (fun y hy => (h.kid hx (hin a ha y hy)).1) (fun v hv => by
    obtain ⟨y, hy, hvy⟩ := mem_prs.mp hv
    have hyx := h.kid hx (hin a ha y hy)
    have hv2 := pr_in hlk y hyx.1 v hvy
    exact hsame v hv2.1 (fun q => by subst q; omega) (fun q => by subst q; omega))
  have hside : ∀ L : List Nat, (∀ y ∈ L, y ∈ kl pn ∧ y ≠ x) → prs (tLev T4) kl4 L = prs (tLev T) kl L := fun L hL => prs_same hlk _ (fun y hy => (h.kid hpn (hL y hy).1).1) (fun v hv => by
    obtain ⟨y, hy, hvy⟩ := mem_prs.mp hv
    have hyp := h.kid hpn (hL y hy).1
    have hv2 := pr_in hlk y hyp.1 v hvy
    refine hsame v hv2.1 (fun q => ?_) (fun q => by subst q; omega)
    subst q
    exact (hL y hy).2 (hv2.2.2 (by omega)).symm)
  have hnk := (h.2.2.2.2 pn hpn).2.2.1.2.2
  rw [hk] at hnk
  have hnk2 := List.nodup_append.mp hnk
  have hD : prs (tLev T4) kl4 D = prs (tLev T) kl D := hside D (fun y hy => ⟨by rw [hk]; simp [hy], fun q => hnk2.2.2 y hy x (by simp) q⟩)
  have hE : prs (tLev T4) kl4 E = prs (tLev T) kl E := hside E (fun y hy => ⟨by rw [hk]; simp [hy], fun q => (List.nodup_cons.mp hnk2.2.1).1 (q ▸ hy)⟩)
  have hp4x : pr (tLev T4) kl4 x = x :: prs (tLev T) kl ((g 0).map (nth (kl x))) := by rw [pr_eq (Lk_at hlk4 hxQ), f9, hK 0 (by omega)]
  have hp4z : pr (tLev T4) kl4 z = z :: prs (tLev T) kl ((g 1).map (nth (kl x))) := by rw [pr_eq (Lk_at hlk4 List.mem_cons_self), f10, hK 1 (by omega)]
  have hp4p : pr (tLev T4) kl4 pn = pn :: (prs (tLev T) kl D ++ (pr (tLev T4) kl4 x ++ (pr (tLev T4) kl4 z ++ prs (tLev T) kl E))) := by rw [pr_eq (Lk_at hlk4 hpQ), f11, prs_app, prs_cons, prs_cons, hD, hE]
  have hAB : ∀ v ∈ A ++ B, v ∈ Q ∧ v ≠ x ∧ v ≠ pn := fun v hv => by
    have hvr : v ∈ pr (tLev T) kl r := by
      rw [c1]
      rcases List.mem_append.mp hv with q | q <;> simp [q]
    have hnd : ∀ u ∈ pr (tLev T) kl pn, v ≠ u := fun u hu q => by
      subst q
      rw [c1] at hN
      have hN1 := List.nodup_append.mp hN
      have hN2 := List.nodup_append.mp hN1.2.1
      rcases List.mem_append.mp hv with q | q
      · exact hN1.2.2 v q v (List.mem_append_left _ hu) rfl
      · exact hN2.2.2 v hu v q rfl
    exact ⟨(pr_in hlk r hr v hvr).1, hnd x (by rw [hprp]; simp [pr_self (Lk_at hlk hx)]), hnd pn (pr_self (Lk_at hlk hpn))⟩
  have hp4r : pr (tLev T4) kl4 r = A ++ (pr (tLev T4) kl4 pn ++ B) := c4 _ _ (fun v hv => hsame v (hAB v hv).1 (hAB v hv).2.1 (hAB v hv).2.2) (f13 pn hpn)
  have hmem : ∀ v, v ∈ pr (tLev T4) kl4 r ↔ v ∈ pr (tLev T) kl r ∨ v = z := fun v => by
    have hsp : v ∈ prs (tLev T) kl (kl x) ↔ v ∈ prs (tLev T) kl ((g 0).map (nth (kl x))) ∨ v ∈ prs (tLev T) kl ((g 1).map (nth (kl x))) := by
      have q1 : v ∈ prs (tLev T) kl ((g 0).map (nth (kl x)) ++ (g 1).map (nth (kl x))) ↔ v ∈ prs (tLev T) kl (kl x) := (f18.flatMap_right (pr (tLev T) kl)).mem_iff
      rw [prs_app, List.mem_append] at q1
      exact q1.symm
    rw [hp4r, hp4p, hp4x, hp4z, hPe, pr_eq (Lk_at hlk hx)]
    simp only [List.mem_append, List.mem_cons, hsp, or_assoc, or_comm, or_left_comm]
  have hlenr : (pr (tLev T4) kl4 r).length ≤ 360 := by
    have := pr_length hA4 (x := r) (List.mem_cons_of_mem _ hr)
    simp at this
    omega
  have hsg : ∀ L : List Nat, (∀ v ∈ L, v ∈ Q) → L.map (sg (tLev T4)) = L.map (sg (tLev T)) := fun L hL => sg_same (fun v hv => f13 v (hL v hv))
  have hprQ : ∀ L : List Nat, (∀ y ∈ L, y ∈ Q) → ∀ v ∈ prs (tLev T) kl L, v ∈ Q := fun L hL v hv => by
    obtain ⟨y, hy, hvy⟩ := mem_prs.mp hv
    exact (pr_in hlk y (hL y hy) v hvy).1
  have hsx : sg (tLev T4) x = sg (tLev T) x := by unfold sg; rw [f13 x hx]
  have hsz' : sg (tLev T4) z = sg (tLev T) x := by
    unfold sg
    rw [if_neg (by omega), if_neg (by omega), f14]
  have hsp' : sg (tLev T4) pn = sg (tLev T) pn := by unfold sg; rw [f13 pn hpn]
  have hrow : Row s' (tLev T4) (pr (tLev T4) kl4 r) := by
    refine rw_row ?_ (fun v hv => hA4.oki (pr_in hlk4 r (List.mem_cons_of_mem _ hr) v hv).1)
    have hA0 := hsg A (fun v hv => (hAB v (List.mem_append_left _ hv)).1)
    have hB0 := hsg B (fun v hv => (hAB v (List.mem_append_right _ hv)).1)
    have hD0 := hsg (prs (tLev T) kl D) (hprQ D (fun y hy => (h.kid hpn (y := y) (by rw [hk]; simp [hy])).1))
    have hE0 := hsg (prs (tLev T) kl E) (hprQ E (fun y hy => (h.kid hpn (y := y) (by rw [hk]; simp [hy])).1))
    have hK0 := hsg (prs (tLev T) kl ((g 0).map (nth (kl x)))) (hprQ _ (fun y hy => (h.kid hx (hin 0 (by omega) y hy)).1))
    have hK1 := hsg (prs (tLev T) kl ((g 1).map (nth (kl x)))) (hprQ _ (fun y hy => (h.kid hx (hin 1 (by omega) y hy)).1))
    rw [hp4r, hp4p, hp4x, hp4z]
    simp only [List.map_append, List.map_cons, hA0, hB0, hD0, hE0, hK0, hK1, hsx, hsz', hsp']
    simp only [List.map_append, List.map_cons] at u2
    have : List.map (sg (tLev T)) A ++ (sg (tLev T) pn :: (List.map (sg (tLev T)) (prs (tLev T) kl D) ++ (sg (tLev T) x :: List.map (sg (tLev T)) (prs (tLev T) kl ((g 0).map (nth (kl x)))) ++ (sg (tLev T) x :: List.map (sg (tLev T)) (prs (tLev T) kl ((g 1).map (nth (kl x)))) ++ List.map (sg (tLev T)) (prs (tLev T) kl E)))) ++ List.map (sg (tLev T)) B) = List.map (sg (tLev T)) A ++ sg (tLev T) pn :: List.map (sg (tLev T)) (prs (tLev T) kl D) ++ (sg (tLev T) x :: List.map (sg (tLev T)) (prs (tLev T) kl ((g 0).map (nth (kl x)))) ++ (sg (tLev T) x :: List.map (sg (tLev T)) (prs (tLev T) kl ((g 1).map (nth (kl x)))) ++ (List.map (sg (tLev T)) (prs (tLev T) kl E) ++ List.map (sg (tLev T)) B))) := by simp
    rw [this]
    exact u2
  have hplen : p = A.length + 1 + (prs (tLev T) kl D).length := by rw [hpl.1]; simp; omega
  have hP4 : pr (tLev T4) kl4 r = A ++ (pn :: (prs (tLev T) kl D ++ (x :: (prs (tLev T) kl ((g 0).map (nth (kl x))) ++ (pr (tLev T4) kl4 z ++ (prs (tLev T) kl E ++ B)))))) := by rw [hp4r, hp4p, hp4x]; simp
  have habove : f_Mo_above s' (p : Int) = some ((A.length : Nat) : Int) := by
    refine above_at hrow (x := x) (z := pn) ?_ (by rw [hP4]; exact mid_get) (by rw [f13 x hx, f13 pn hpn]; omega) (by omega) (fun j y j1 j2 hj => ?_)
    · have : pr (tLev T4) kl4 r = (A ++ pn :: prs (tLev T) kl D) ++ (x :: (prs (tLev T) kl ((g 0).map (nth (kl x))) ++ (pr (tLev T4) kl4 z ++ (prs (tLev T) kl E ++ B)))) := by rw [hP4]; simp
      rw [this, hpl.1]
      exact mid_get
    · obtain ⟨i, rfl⟩ : ∃ i, j = A.length + (i + 1) := ⟨j - A.length - 1, by omega⟩
      rw [hP4, List.getElem?_append_right (by omega), Nat.add_sub_cancel_left, List.getElem?_cons_succ, List.getElem?_append_left (by omega)] at hj
      obtain ⟨y0, hy0, hy1⟩ := mem_prs.mp (List.mem_of_getElem? hj)
      have hy2 := h.kid hpn (y := y0) (by rw [hk]; simp [hy0])
      have hy3 := pr_in hlk y0 hy2.1 y hy1
      rw [f13 y hy3.1, f13 x hx]
      omega
  have hbox : ∀ b ∈ Q, b < 24 → eqb (c5 s') b (tCor T4) b := fun b hb hb24 t ht => by
    rw [f16 b hb hb24 t ht]
    show s' (5 + (4 * b + t)) = _
    rw [u3 _ (by omega) (by omega), up_o (by omega)]
    exact J.2.2.2.2.1 b hb hb24 t ht
  have hxkn : kl x ≠ [] := fun q => by rw [q] at h2; simp at h2
  have hrk : r ∉ kl x := fun q => by
    have := (h.kid hx q).2.1
    have := J.2.1.2.2.2
    omega
  have hlv1 : tLev T4 r = tLev T r := f13 r hr
  have J4 : Jn T4 kl4 (z :: Q) r s' := by
    refine ⟨hA4, ⟨List.mem_cons_of_mem _ hr, J.2.1.2.1, f17.1.trans J.2.1.2.2.1, (f15 r hr hrk).trans J.2.1.2.2.2⟩, hrow, f7, fun b hb hb24 => hbox b ((List.mem_cons.mp hb).resolve_left (fun q => by omega)) hb24, fun v hv hv24 hve => ?_⟩
    by_cases v0 : v = x
    · subst v0
      rw [f9] at hve
      exact absurd (List.map_eq_nil_iff.mp hve) f4
    · by_cases v1 : v = z
      · subst v1
        rw [f10] at hve
        exact absurd (List.map_eq_nil_iff.mp hve) f5
      · have hvQ := (List.mem_cons.mp hv).resolve_left v1
        by_cases v2 : v = pn
        · subst v2
          rw [f11] at hve
          simp at hve
        · rw [f12 v hvQ v0 v2] at hve
          rw [hlv1]
          exact J.2.2.2.2.2 v hvQ hv24 hve
  have hgl2 : (g 0).length + (g 1).length = (kl x).length := f3.2.2
  have p0 := List.length_pos_iff.mpr f4
  have p1 := List.length_pos_iff.mpr f5
  refine ⟨pn, A.length, z, pool', T4, kl4, s', w2, fr', gr, tu, si, old', ?_, ?_, J4, ⟨fun v hv => ⟨List.mem_cons_of_mem _ hv, f13 v hv⟩, fun v hv hn => ?_, fun v hv => (hmem v).mpr (Or.inl hv), fun v hv => (List.mem_cons.mp hv).elim (fun q => Or.inr ⟨by omega, (hmem v).mpr (Or.inr q)⟩) Or.inl, ⟨f17.2.1, f17.2.2.1⟩, fun j j1 j2 j3 j4 => by rw [u3 j j1 j4, up_o j2], ⟨?_, ?_⟩, ?_, fun hq => ?_⟩, n2, f8, hpn, ⟨B, ?_, ?_⟩, by rw [f13 pn hpn]; omega, fun v hv hvp => ?_, f14⟩
  · have hxl := h.lt hx
    have hR := h.1.2
    have hrl := h.lt hr
    have hpl2 := h.lt hpn
    have hz1 : f_Tr_levelOf T (x : Int) = some (tLev T x) := t_lev h.le hxl
    have hz2 : f_Tr_holderOf T (x : Int) = some (pn : Int) := by rw [t_hol h.le hxl, hxp.2.1]
    have hzl := hA4.lt (x := z) List.mem_cons_self
    have hR4 := hA4.1.2
    unfold f_Ch_splitNode
    rw [gd_p ⟨by omega, by omega⟩, J.2.1.2.2.1, gd_p ⟨by omega, by omega⟩, if_neg (by omega), bd1_p hz2, bd1_p hz1, bd2_p n1, gd_p ⟨by omega, by omega⟩, if_neg (by omega), gd_p ⟨by omega, by omega⟩, if_neg (by omega)]
    exact f1
  · rw [u1, if_pos (by omega), bd1_p habove]
  · have hvx : v ∉ kl x := fun q => hn (pr_kid hlk r hr x hxr2 v q)
    refine ⟨f12 v hv (fun q => hn (q ▸ hxr2)) (fun q => hn (q ▸ hpr)), fun q => ?_, f15 v hv hvx⟩
    rcases (hmem v).mp q with q | q
    · exact hn q
    · exact n2 (q ▸ hv)
  · rw [f17.2.2.2.1, u3 2 (by omega) (by omega), up_s]
    omega
  · rw [f17.2.2.2.2, u3 3 (by omega) (by omega), up_o (by omega)]
  · rw [hlv1]
    exact Int.le_refl _
  · by_cases hrp : r = pn
    · refine Or.inr ?_
      rw [hrp, f11]
      simp
      omega
    · unfold Rt2
      rw [hlv1, f12 r hr (fun q => hxr q.symm) hrp]
      exact hq
  · rw [hp4r]
    exact drop_here A _
  · intro y t hyt
    have hyB : y ∈ B := by rw [hyt]; simp
    have := c2 [] stops_nil
    rw [List.append_nil] at this
    rw [f13 pn hpn, f13 y (hAB y (List.mem_append_right _ hyB)).1]
    exact this y t hyt
  · by_cases v0 : v = x
    · subst v0
      rw [f9, List.length_map]
      omega
    · by_cases v1 : v = z
      · subst v1
        rw [f10, List.length_map]
        omega
      · have hvQ := (List.mem_cons.mp hv).resolve_left v1
        rw [f12 v hvQ v0 hvp]
        exact hsz v hvQ v0
