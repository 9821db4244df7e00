/-! the class's side of a split, from the new node on -/
theorem Ar.cr_new {T T1 : TV} {kl : Nat → List Nat} {Q : List Nat} {z : Nat} (h : Ar T kl Q) (hC : ∀ v ∈ Q, Cr (tCor T) kl v) (hz : z ∉ Q) (hS : Sq Q T T1) : ∀ v ∈ z :: Q, Cr (tCor T1) (upL kl z []) v := fun v hv q1 q2 t ht => by
  by_cases hvz : v = z
  · subst hvz
    rw [upL_s] at q2
    exact absurd rfl q2
  · have hv := (List.mem_cons.mp hv).resolve_left hvz
    rw [upL_o hvz] at q2 ⊢
    rw [(hS.2 v hv).2.2 t ht, hC v hv q1 q2 t ht]
    exact (cu_same (fun y hy => (hS.2 y (h.kid hv hy).1).2.2 t ht)).symm
theorem cls_split {T : TV} {kl : Nat → List Nat} {Q D E : List Nat} {x pn : Nat} {pool s w group turn size : Nat → Int} (h : Ar T kl Q) (hC : ∀ v ∈ Q, Cr (tCor T) kl v) (hR3 : R3 T) (hN : nn (tLev T) Q ≤ 132) (hx : x ∈ Q) (hpn : pn ∈ Q) (hk : kl pn = D ++ x :: E) (hpl : (kl pn).length ≤ 5) (h2 : 2 ≤ (kl x).length) (hcap : 3 ≤ tCap T ∧ tCap T ≤ 5) (hs : s 0 = tCap T) (hw : Sl T w (kl x)) : ∃ (z : Nat) (T1 : TV), f_Tr_newNode T (tLev T x) = some ((z : Int), T1) ∧ z ∉ Q ∧ 24 ≤ z ∧ ∃ (pool' : Nat → Int) (T4 : TV) (kl4 g : Nat → List Nat) (w' gr tu si : Nat → Int), (bd2 (f_Ch_fillPool pool (sSpl T1 ((tSpl T1) + 1)) (x : Int)) <| fun c_pool_19 c_left_20 => bd1 (f_Ch_findSeeds c_pool_19 c_left_20 (sSpl T1 ((tSpl T1) + 1))) <| fun r_23 => bd1 (f_Tr_makeListEmpty (sSpl T1 ((tSpl T1) + 1)) (x : Int)) <| fun T_26 => gd (((0 : Int) ≤ r_23 ∧ r_23 ≤ 2147483647) ∧ (0 : Int) < 6 ∧ (6 : Int) ≤ 2147483647) <| bd3 (f_Ch_giveTo c_pool_19 c_left_20 T_26 (z : Int) (r_23 % 6)) <| fun c_pool_31 c_left_32 T_33 => gd (((0 : Int) ≤ r_23 ∧ r_23 ≤ 2147483647) ∧ (0 : Int) < 6 ∧ (6 : Int) ≤ 2147483647) <| bd3 (f_Ch_giveTo c_pool_31 c_left_32 T_33 (x : Int) (r_23 / 6)) <| fun c_pool_38 c_left_39 T_40 => f_Ch_splitNode_L113 (x : Int) (z : Int) (fun x5_91 c_pool_92 c_left_93 T_94 => bd1 (f_Tr_addBehind T_94 (pn : Int) (x : Int) (z : Int)) <| fun T_95 => some ((pn : Int), c_pool_92, c_left_93, T_95)) FU 0 c_pool_38 c_left_39 T_40) = some ((pn : Int), pool', 0, T4) ∧ f_Mo_groups s w group turn size ((kl x).length : Int) = some (w', gr, tu, si) ∧ Gm (kl x).length g gr tu si ∧ g 0 ≠ [] ∧ g 1 ≠ [] ∧ Ar T4 kl4 (z :: Q) ∧ (∀ v ∈ z :: Q, Cr (tCor T4) kl4 v) ∧ R3 T4 ∧ kl4 x = (g 0).map (nth (kl x)) ∧ kl4 z = (g 1).map (nth (kl x)) ∧ kl4 pn = D ++ x :: z :: E ∧ (∀ v ∈ Q, v ≠ x → v ≠ pn → kl4 v = kl v) ∧ (∀ v ∈ Q, tLev T4 v = tLev T v) ∧ tLev T4 z = tLev T x ∧ (∀ v ∈ Q, v ∉ kl x → tHol T4 v = tHol T v) ∧ (∀ v ∈ Q, v < 24 → ∀ t, t < 4 → tCor T4 (4 * v + t) = tCor T (4 * v + t)) ∧ (tRoot T4 = tRoot T ∧ tCap T4 = tCap T ∧ tRei T4 = tRei T ∧ tSpl T4 = tSpl T + 1 ∧ tRec T4 = tRec T) ∧ ((g 0).map (nth (kl x)) ++ (g 1).map (nth (kl x))).Perm (kl x) := by
  have h24 : 24 ≤ x := by
    cases hkx : kl x with
    | nil => rw [hkx] at h2; simp at h2
    | cons y t => exact h.node hx (y := y) (by rw [hkx]; simp)
  have hxi := (h.2.2.2.2 x hx).1
  have hl0 : 0 ≤ tLev T x := by
    have h5 : x < 24 ↔ tLev T x = -1 := hxi.2.1
    have h6 : ¬ tLev T x = -1 := fun q => by have := h5.mpr q; omega
    have := hxi.2.2.1
    omega
  obtain ⟨z, T1, n1, n2, n3, n4, n5, n6, n7, n8, n9⟩ := newNode_sp h hR3 hN (l := tLev T x) ⟨hl0, hxi.2.2.2⟩
  have hxz : x ≠ z := fun q => n2 (q ▸ hx)
  have hpz : pn ≠ z := fun q => n2 (q ▸ hpn)
  have hxpl := h.kid hpn (y := x) (by rw [hk]; simp)
  have hxp : x ≠ pn := fun q => by subst q; omega
  have hxQ : x ∈ z :: Q := List.mem_cons_of_mem _ hx
  have hkx : upL kl z [] x = kl x := upL_o hxz
  have hlx : tLev T1 x = tLev T x := (n7.2 x hx).1
  have hA2 : Ar (sSpl T1 (tSpl T1 + 1)) (upL kl z []) (z :: Q) := n4
  obtain ⟨st', pool', T3, kl3, g, w', gr, tu, si, e1, e2, e3, e4, e5, e6, e7, e8, e9⟩ := core_sp (pool := pool) (s := s) (w := w) (group := group) (turn := turn) (size := size) (T := sSpl T1 (tSpl T1 + 1)) hA2 (h.cr_new (T1 := T1) hC n2 n7) hxQ List.mem_cons_self h24 n3 hxz upL_s (by show tLev T1 z = tLev T1 x; rw [n8, hlx]) (by rw [hkx]; exact h2) (by show 3 ≤ tCap T1 ∧ tCap T1 ≤ 5; rw [n7.1.2.1]; exact hcap) (by show s 0 = tCap T1; rw [n7.1.2.1]; exact hs) (by
    rw [hkx]
    intro j y hj t ht
    show w (4 * j + t) = tCor T1 (4 * y + t)
    rw [(n7.2 y (h.kid hx (List.mem_of_getElem? hj)).1).2.2 t ht]
    exact hw j y hj t ht) (fun x5_91 c_pool_92 c_left_93 T_94 => bd1 (f_Tr_addBehind T_94 (pn : Int) (x : Int) (z : Int)) <| fun T_95 => some ((pn : Int), c_pool_92, c_left_93, T_95))
  rw [hkx] at e2 e3 e7
  have hS3 : tLev T3 = tLev T1 := e6.1
  have hR3' : tR T3 = tR T1 := e6.2.1
  have hk3p : kl3 pn = D ++ x :: E := by rw [e9 pn (fun q => hxp q.symm) hpz, upL_o hpz, hk]
  have hk3x : kl3 x = (g 0).map (nth (kl x)) := (e3.2.1.2 0 (by omega)).2.2.1
  have hk3z : kl3 z = (g 1).map (nth (kl x)) := (e3.2.1.2 1 (by omega)).2.2.1
  have hg_in : ∀ a, a < 2 → ∀ y ∈ (g a).map (nth (kl x)), y ∈ kl x := fun a ha y hy => by
    obtain ⟨f, hf, rfl⟩ := List.mem_map.mp hy
    exact nth_mem (e3.in_g ha hf).1
  have hzk : ∀ v ∈ z :: Q, z ∉ kl3 v := fun v hv hm => by
    have hzL : z ∉ kl x := fun q => n2 (h.kid hx q).1
    by_cases v0 : v = x
    · subst v0
      rw [hk3x] at hm
      exact hzL (hg_in 0 (by omega) z hm)
    · by_cases v1 : v = z
      · subst v1
        rw [hk3z] at hm
        exact hzL (hg_in 1 (by omega) v hm)
      · rw [e9 v v0 v1, upL_o v1] at hm
        exact n2 (h.kid ((List.mem_cons.mp hv).resolve_left v1) hm).1
  have hlp : tLev T1 pn = tLev T pn := (n7.2 pn hpn).1
  obtain ⟨T4, b1, b2, b3, b4, b5, b6⟩ := addBehind_sp (x := pn) (v := x) (y := z) e3.1.1 (fun v hv _ => e3.1.2 v hv) (List.mem_cons_of_mem _ hpn) hk3p List.mem_cons_self (by rw [hS3, n8, hlp]; omega) hzk (by rw [hk3p, ← hk]; omega)
  have hL4 : ∀ v ∈ Q, tLev T4 v = tLev T v := fun v hv => by rw [b4.1, hS3, (n7.2 v hv).1]
  have hk4x : upL kl3 pn (D ++ x :: z :: E) x = (g 0).map (nth (kl x)) := by rw [upL_o hxp, hk3x]
  have hk4z : upL kl3 pn (D ++ x :: z :: E) z = (g 1).map (nth (kl x)) := by rw [upL_o (fun q => hpz q.symm), hk3z]
  refine ⟨z, T1, n1, n2, n3, pool', T4, upL kl3 pn (D ++ x :: z :: E), g, w', gr, tu, si, ?_, e2, Gm.of e3, e4, e5, b2, b3, ?_, hk4x, hk4z, upL_s, fun v hv v0 v1 => ?_, hL4, ?_, fun v hv hvx => ?_, fun v hv hvb t ht => ?_, ⟨?_, ?_, ?_, ?_, ?_⟩, ?_⟩
  · refine Eq.trans e1 ?_
    rw [bd1_p b1]
  · show tR T4 = 157
    rw [b4.2.1, hR3']
    exact n5
  · have hvz : v ≠ z := fun q => n2 (q ▸ hv)
    rw [upL_o v1, e9 v v0 hvz, upL_o hvz]
  · rw [b4.1, hS3, n8]
  · have hvz : v ≠ z := fun q => n2 (q ▸ hv)
    rw [b5, up_o hvz, e7 v hvx]
    exact (n7.2 v hv).2.1
  · rw [b6 v t ht (Or.inl hvb), e8 v t ht (Or.inl hvb)]
    exact (n7.2 v hv).2.2 t ht
  · rw [b4.2.2.1, e6.2.2.1]; exact n7.1.1
  · rw [b4.2.2.2.1, e6.2.2.2.1]; exact n7.1.2.1
  · rw [b4.2.2.2.2.1, e6.2.2.2.2.1]; exact n7.1.2.2.1
  · rw [b4.2.2.2.2.2.1, e6.2.2.2.2.2.1]
    show tSpl T1 + 1 = _
    rw [n7.1.2.2.2.1]
  · rw [b4.2.2.2.2.2.2, e6.2.2.2.2.2.2]; exact n7.1.2.2.2.2
  · have a0 := (b2.2.2.2.2 x (List.mem_cons_of_mem _ hx)).2.2.1.2.2
    have a1 := (b2.2.2.2.2 z List.mem_cons_self).2.2.1.2.2
    rw [hk4x] at a0
    rw [hk4z] at a1
    refine (List.perm_ext_iff_of_nodup (List.nodup_append.mpr ⟨a0, a1, fun y hy y2 hy2 q => ?_⟩) (h.2.2.2.2 x hx).2.2.1.2.2).mpr (fun y => ⟨fun hy => ?_, fun hy => ?_⟩)
    · subst q
      exact hxz (b2.one (List.mem_cons_of_mem _ hx) List.mem_cons_self (by rw [hk4x]; exact hy) (by rw [hk4z]; exact hy2))
    · rcases List.mem_append.mp hy with q | q
      · exact hg_in 0 (by omega) y q
      · exact hg_in 1 (by omega) y q
    · obtain ⟨f, hf, rfl⟩ := List.getElem_of_mem hy
      obtain ⟨a, ha, hfa⟩ := (Gm.of e3).2.1 f hf
      have hnf : nth (kl x) f = (kl x)[f] := by
        have := nth_get hf
        rw [List.getElem?_eq_getElem hf] at this
        exact (Option.some.inj this).symm
      have hm : (kl x)[f] ∈ (g a).map (nth (kl x)) := by
        rw [← hnf]
        exact List.mem_map_of_mem hfa
      rcases (show a = 0 ∨ a = 1 by omega) with rfl | rfl
      · exact List.mem_append_left _ hm
      · exact List.mem_append_right _ hm
/-- a root that is no leaf has two entries or more -/
def Rt2 (lv : Nat → Int) (kl : Nat → List Nat) (r : Nat) : Prop := lv r ≤ 0 ∨ 2 ≤ (kl r).length
/-- what a step of an insertion leaves of all the rest -/
def Mv (T : TV) (kl : Nat → List Nat) (Q : List Nat) (r : Nat) (s : Nat → Int) (T' : TV) (kl' : Nat → List Nat) (Q' : List Nat) (r' : Nat) (s' : Nat → Int) : Prop :=
  (∀ v ∈ Q, v ∈ Q' ∧ tLev T' v = tLev T v) ∧
  (∀ v ∈ Q, v ∉ pr (tLev T) kl r → kl' v = kl v ∧ v ∉ pr (tLev T') kl' r' ∧ tHol T' v = tHol T v) ∧
  (∀ v ∈ pr (tLev T) kl r, v ∈ pr (tLev T') kl' r') ∧
  (∀ v ∈ Q', v ∈ Q ∨ (24 ≤ v ∧ v ∈ pr (tLev T') kl' r')) ∧
  (tCap T' = tCap T ∧ tRei T' = tRei T) ∧
  (∀ j, j < 101 → j ≠ 2 → j ≠ 3 → j ≠ 4 → s' j = s j) ∧
  (tSpl T' - s' 2 = tSpl T - s 2 ∧ tRec T' - s' 3 = tRec T - s 3) ∧
  tLev T r ≤ tLev T' r' ∧
  (Rt2 (tLev T) kl r → Rt2 (tLev T') kl' r')
theorem Mv.tr {T T' T'' : TV} {kl kl' kl'' : Nat → List Nat} {Q Q' Q'' : List Nat} {r r' r'' : Nat} {s s' s'' : Nat → Int} (h : Mv T kl Q r s T' kl' Q' r' s') (g : Mv T' kl' Q' r' s' T'' kl'' Q'' r'' s'') : Mv T kl Q r s T'' kl'' Q'' r'' s'' := by
  refine ⟨fun v hv => ?_, fun v hv hn => ?_, fun v hv => g.2.2.1 v (h.2.2.1 v hv), fun v hv => (g.2.2.2.1 v hv).elim (fun q => (h.2.2.2.1 v q).imp id (fun q => ⟨q.1, g.2.2.1 v q.2⟩)) Or.inr, ⟨g.2.2.2.2.1.1.trans h.2.2.2.2.1.1, g.2.2.2.2.1.2.trans h.2.2.2.2.1.2⟩, fun j h1 h2 h3 h4 => (g.2.2.2.2.2.1 j h1 h2 h3 h4).trans (h.2.2.2.2.2.1 j h1 h2 h3 h4), ⟨g.2.2.2.2.2.2.1.1.trans h.2.2.2.2.2.2.1.1, g.2.2.2.2.2.2.1.2.trans h.2.2.2.2.2.2.1.2⟩, Int.le_trans h.2.2.2.2.2.2.2.1 g.2.2.2.2.2.2.2.1, fun q => g.2.2.2.2.2.2.2.2 (h.2.2.2.2.2.2.2.2 q)⟩
  · have h1 := h.1 v hv
    have h2 := g.1 v h1.1
    exact ⟨h2.1, h2.2.trans h1.2⟩
  · have h1 := h.2.1 v hv hn
    have h2 := g.2.1 v (h.1 v hv).1 h1.2.1
    exact ⟨h2.1.trans h1.1, h2.2.1, h2.2.2.trans h1.2.2⟩
theorem Row.up {s lv : Nat → Int} {P : List Nat} (h : Row s lv P) {j : Nat} {v : Int} (hj : j < 101) (h4 : j ≠ 4) : Row (up s j v) lv P := ⟨by rw [up_o (fun q => h4 q.symm)]; exact h.1, h.2.1, fun k x hx => by rw [up_o (by omega)]; exact h.2.2.1 k x hx, h.2.2.2⟩
theorem Jn.up {T : TV} {kl : Nat → List Nat} {Q : List Nat} {r j : Nat} {s : Nat → Int} {v : Int} (J : Jn T kl Q r s) (hj : j < 4) : Jn T kl Q r (up s j v) := ⟨J.1, J.2.1, J.2.2.1.up (by omega) (by omega), J.2.2.2.1, fun b hb h24 t ht => by
  have := J.2.2.2.2.1 b hb h24 t ht
  rw [← this]
  exact up_o (by omega), J.2.2.2.2.2⟩
theorem Perm.prs_len {lv : Nat → Int} {kl : Nat → List Nat} {L M : List Nat} (h : L.Perm M) : (prs lv kl L).length = (prs lv kl M).length := (h.flatMap_right (pr lv kl)).length_eq
theorem sg_same {lv lv' : Nat → Int} {L : List Nat} (h : ∀ v ∈ L, lv' v = lv v) : L.map (sg lv') = L.map (sg lv) := List.map_congr_left (fun v hv => by unfold sg; rw [h v hv])
