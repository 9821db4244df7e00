/-! a split of the root -/
theorem split_root {T : TV} {kl : Nat → List Nat} {Q : List Nat} {r : Nat} {pool s w fr group turn size old : Nat → Int} {left : Int} (J : Jn T kl Q r s) (hR3 : R3 T) (hQ : Q.length ≤ 249) (hNN : nn (tLev T) Q ≤ 131) (h2 : 2 ≤ (kl r).length) (hsz : ∀ v ∈ Q, v ≠ r → (kl v).length ≤ 5) (hcap : 3 ≤ tCap T ∧ tCap T ≤ 5) (hs : s 0 = tCap T) (hlev : tLev T r ≤ 19) : ∃ (a z : Nat) (pool' : Nat → Int) (T' : TV) (kl' : Nat → List Nat) (s' w' fr' gr tu si old' : Nat → Int), f_Ch_splitNode pool left T (r : Int) = some ((a : Int), pool', 0, T') ∧ f_Mo_divides s w fr group turn size old 0 = some (-5, s', w', fr', gr, tu, si, old') ∧ Jn T' kl' (z :: a :: Q) a s' ∧ Mv T kl Q r s T' kl' (z :: a :: Q) a s' ∧ z ∉ a :: Q ∧ a ∉ Q ∧ R3 T' ∧ kl' a = [r, z] ∧ (∀ v ∈ z :: a :: Q, (kl' v).length ≤ 5) ∧ tLev T' z = tLev T r ∧ tLev T' a = tLev T r + 1 := by
  have h := J.1
  have hlk := h.lk
  have hr := J.2.1.1
  have h24 := J.2.1.2.1
  have hx6 := (h.siz hr).2
  have hri := (h.2.2.2.2 r hr).1
  have hl0 : 0 ≤ tLev T r := by
    have h5 : r < 24 ↔ tLev T r = -1 := hri.2.1
    have h6 : ¬ tLev T r = -1 := fun q => by have := h5.mpr q; omega
    have := hri.2.2.1
    omega
  -- the new root
  obtain ⟨a, T1, n1, n2, n3, n4, n5, n6, n7, n8, n9⟩ := newNode_sp h hR3 (by omega) (l := tLev T r + 1) ⟨by omega, by omega⟩
  have har : a ≠ r := fun q => n2 (q ▸ hr)
  have hAr1 : Ar (sRoot T1 (a : Int)) (upL kl a []) (a :: Q) := n4
  have hrQ : r ∈ a :: Q := List.mem_cons_of_mem _ hr
  have hlr1 : tLev T1 r = tLev T r := (n7.2 r hr).1
  have hrl : ∀ v ∈ a :: Q, r ∉ upL kl a [] v := fun v hv hm => by
    have h3 := (n4.kid hv hm).2.1
    have h4 : tHol T1 r = tHol T r := (n7.2 r hr).2.1
    have h5 := J.2.1.2.2.2
    have h6 : tHol T1 r = (v : Int) := h3
    omega
  obtain ⟨T2, b1, b2, b3, b4, b5, b6⟩ := addAt_sp (x := a) (y := r) (p := 0) hAr1 (fun v hv _ => h.cr_new J.2.2.2.1 n2 n7 v hv) List.mem_cons_self n3 hrQ (by show tLev T1 r = tLev T1 a - 1; omega) hrl (by rw [upL_s]; simp) (Nat.zero_le _)
  have hka : upL (upL kl a []) a (ins 0 r (upL kl a [] a)) a = [r] := by rw [upL_s, upL_s]; rfl
  have hkv : ∀ v, v ≠ a → upL (upL kl a []) a (ins 0 r (upL kl a [] a)) v = kl v := fun v hv => by rw [upL_o hv, upL_o hv]
  generalize hkl2 : upL (upL kl a []) a (ins 0 r (upL kl a [] a)) = kl2 at b2 b3 hka hkv
  have hL2 : ∀ v ∈ Q, tLev T2 v = tLev T v := fun v hv => by rw [b4.1]; exact (n7.2 v hv).1
  have hl2a : tLev T2 a = tLev T r + 1 := by rw [b4.1]; exact n8
  have hrise : f_Tr_raiseRoot T = some ((a : Int), T2) := by
    have hal := n4.lt (x := a) List.mem_cons_self
    have hR1 := n4.1.2
    unfold f_Tr_raiseRoot
    rw [J.2.1.2.2.1, bd1_p (t_lev h.le (h.lt hr)), bd2_p n1, gd_p ⟨by omega, by omega⟩, if_neg (by omega)]
    have b1 : f_Tr_addAt (sRoot T1 (a : Int)) (a : Int) 0 (r : Int) = some T2 := b1
    rw [bd1_p b1]
  have hR32 : R3 T2 := by
    show tR T2 = 157
    rw [b4.2.1]
    exact n5
  have hcor2 : ∀ v ∈ Q, ∀ t, t < 4 → (v < 24 ∨ tLev T v < tLev T r + 1) → tCor T2 (4 * v + t) = tCor T (4 * v + t) := fun v hv t ht hq => by
    rw [b6 v t ht (hq.imp id (fun q => by
      show tLev T1 v < tLev T1 a
      rw [(n7.2 v hv).1, n8]
      exact q))]
    exact (n7.2 v hv).2.2 t ht
  -- the reference's row
  have hd0 : (pr (tLev T) kl r).drop 0 = pr (tLev T) kl r ++ [] := by simp
  have J2 : Jn T kl Q r (up s 2 (s 2 + 1)) := J.up (by omega)
  have hPlen := Nat.le_trans (pr_length h hr) hQ
  obtain ⟨w1, e1, e2⟩ := dv_sp (A := []) (B := []) (p := 0) (w := w) (fr := fr) (group := group) (turn := turn) (size := size) (old := old) J2 hr h24 (by simp) rfl stops_nil (by omega)
  have hkr : kl2 r = kl r := hkv r (fun q => har q.symm)
  have hcap2 : tCap T2 = tCap T := by rw [b4.2.2.2.1]; exact n7.1.2.1
  obtain ⟨z, T3, c1, c2, c3, pool', T4, kl4, g, w2, gr, tu, si, f1, f2, f3, f4, f5, f6, f7, f8, f9, f10, f11, f12, f13, f14, f15, f16, f17, f18⟩ := cls_split (pool := pool) (s := up s 2 (s 2 + 1)) (w := w1) (group := group) (turn := turn) (size := size) (D := []) (E := []) (x := r) (pn := a) b2 b3 hR32 (by
    have q := nn_cons (lv := tLev T2) (Q := Q) (z := a)
    rw [nn_same hL2] at q
    omega) hrQ List.mem_cons_self hka (by rw [hka]; simp) (by rw [hkr]; exact h2) (by rw [hcap2]; exact hcap) (by rw [up_o (by omega), hcap2]; exact hs) (by
    rw [hkr]
    intro j y hj t ht
    have hy := h.kid hr (List.mem_of_getElem? hj)
    rw [hcor2 y hy.1 t ht (Or.inr (by omega))]
    exact e1 j y hj t ht)
  rw [hkr] at f2 f3 f9 f10 f15 f18
  have hgl := Perm.prs_len (lv := tLev T) (kl := kl) f18
  rw [prs_app, List.length_append] at hgl
  obtain ⟨s', fr', old', u1, u2, u3⟩ := e2 w2 gr tu si g f2 f3 hgl
  have hlk4 := f6.lk
  have haQ : a ∈ z :: a :: Q := by simp
  have hrQ4 : r ∈ z :: a :: Q := List.mem_cons_of_mem _ hrQ
  have hza : z ≠ a := fun q => c2 (by rw [q]; simp)
  have hzr : z ≠ r := fun q => c2 (q ▸ hrQ)
  have hzQ : z ∉ Q := fun q => c2 (List.mem_cons_of_mem _ q)
  have hL4 : ∀ v ∈ Q, tLev T4 v = tLev T v := fun v hv => by rw [f13 v (List.mem_cons_of_mem _ hv), hL2 v hv]
  have hl4a : tLev T4 a = tLev T r + 1 := by rw [f13 a List.mem_cons_self, hl2a]
  have hl4z : tLev T4 z = tLev T r := by rw [f14, hL2 r hr]
  have hin : ∀ b, b < 2 → ∀ y ∈ (g b).map (nth (kl r)), y ∈ kl r := fun b hb y hy => f18.mem_iff.mp (by
    rcases (show b = 0 ∨ b = 1 by omega) with rfl | rfl
    · exact List.mem_append_left _ hy
    · exact List.mem_append_right _ hy)
  have hsame : ∀ v ∈ Q, v ≠ r → kl4 v = kl v ∧ tLev T4 v = tLev T v := fun v hv v0 => by
    have hva : v ≠ a := fun q => n2 (q ▸ hv)
    exact ⟨by rw [f12 v (List.mem_cons_of_mem _ hv) v0 hva, hkv v hva], hL4 v hv⟩
  have hK : ∀ b, b < 2 → prs (tLev T4) kl4 ((g b).map (nth (kl r))) = prs (tLev T) kl ((g b).map (nth (kl r))) := fun b hb => prs_same hlk _ (fun y hy => (h.kid hr (hin b hb y hy)).1) (fun v hv => by
    obtain ⟨y, hy, hvy⟩ := mem_prs.mp hv
    have hyx := h.kid hr (hin b hb y hy)
    have hv2 := pr_in hlk y hyx.1 v hvy
    exact hsame v hv2.1 (fun q => by subst q; omega))
  have hp4x : pr (tLev T4) kl4 r = r :: prs (tLev T) kl ((g 0).map (nth (kl r))) := by rw [pr_eq (Lk_at hlk4 hrQ4), f9, hK 0 (by omega)]
  have hp4z : pr (tLev T4) kl4 z = z :: prs (tLev T) kl ((g 1).map (nth (kl r))) := by rw [pr_eq (Lk_at hlk4 List.mem_cons_self), f10, hK 1 (by omega)]
  have f11' : kl4 a = [r, z] := f11
  have hp4a : pr (tLev T4) kl4 a = a :: (pr (tLev T4) kl4 r ++ pr (tLev T4) kl4 z) := by rw [pr_eq (Lk_at hlk4 haQ), f11', prs_cons, prs_cons, prs_nil, List.append_nil]
  have hmem : ∀ v, v ∈ pr (tLev T4) kl4 a ↔ v ∈ pr (tLev T) kl r ∨ v = z ∨ v = a := fun v => by
    have hsp : v ∈ prs (tLev T) kl (kl r) ↔ v ∈ prs (tLev T) kl ((g 0).map (nth (kl r))) ∨ v ∈ prs (tLev T) kl ((g 1).map (nth (kl r))) := by
      have q1 : v ∈ prs (tLev T) kl ((g 0).map (nth (kl r)) ++ (g 1).map (nth (kl r))) ↔ v ∈ prs (tLev T) kl (kl r) := (f18.flatMap_right (pr (tLev T) kl)).mem_iff
      rw [prs_app, List.mem_append] at q1
      exact q1.symm
    rw [hp4a, hp4x, hp4z, pr_eq (Lk_at hlk hr)]
    simp only [List.mem_append, List.mem_cons, hsp, or_assoc, or_comm, or_left_comm]
  have hlen4 : (pr (tLev T4) kl4 a).length ≤ 360 := by
    have := pr_length f6 haQ
    simp at this
    omega
  have hsg : ∀ L : List Nat, (∀ v ∈ L, v ∈ Q) → L.map (sg (tLev T4)) = L.map (sg (tLev T)) := fun L hL => sg_same (fun v hv => hL4 v (hL v hv))
  have hprQ : ∀ L : List Nat, (∀ y ∈ L, y ∈ Q) → ∀ v ∈ prs (tLev T) kl L, v ∈ Q := fun L hL v hv => by
    obtain ⟨y, hy, hvy⟩ := mem_prs.mp hv
    exact (pr_in hlk y (hL y hy) v hvy).1
  have hK0 := hsg (prs (tLev T) kl ((g 0).map (nth (kl r)))) (hprQ _ (fun y hy => (h.kid hr (hin 0 (by omega) y hy)).1))
  have hK1 := hsg (prs (tLev T) kl ((g 1).map (nth (kl r)))) (hprQ _ (fun y hy => (h.kid hr (hin 1 (by omega) y hy)).1))
  have hsr : sg (tLev T) r = -1 - tLev T r := by unfold sg; rw [if_neg (by omega)]
  have hs4r : sg (tLev T4) r = sg (tLev T) r := by unfold sg; rw [hL4 r hr]
  have hs4z : sg (tLev T4) z = sg (tLev T) r := by rw [hsr]; unfold sg; rw [if_neg (by omega), hl4z]
  have hs4a : sg (tLev T4) a = sg (tLev T) r - 1 := by rw [hsr]; unfold sg; rw [if_neg (by omega), hl4a]; omega
  have hW : (pr (tLev T4) kl4 a).map (sg (tLev T4)) = (sg (tLev T) r - 1) :: ((sg (tLev T) r :: (prs (tLev T) kl ((g 0).map (nth (kl r)))).map (sg (tLev T))) ++ (sg (tLev T) r :: (prs (tLev T) kl ((g 1).map (nth (kl r)))).map (sg (tLev T)))) := by
    rw [hp4a, hp4x, hp4z]
    simp only [List.map_append, List.map_cons, hK0, hK1, hs4r, hs4z, hs4a]
  have hWl := congrArg List.length hW
  rw [List.length_map, List.length_cons] at hWl
  have u2' : Rw s' ([] ++ ((sg (tLev T) r :: (prs (tLev T) kl ((g 0).map (nth (kl r)))).map (sg (tLev T))) ++ (sg (tLev T) r :: (prs (tLev T) kl ((g 1).map (nth (kl r)))).map (sg (tLev T))))) := by
    have := u2
    simp only [List.map_nil, List.nil_append, List.append_nil] at this
    exact this
  obtain ⟨s5, o1, o2, -, o4, o5⟩ := opens_sp u2' 1 (by simp only [List.length_nil]; omega)
  have o1 : f_Mo_opens s' 0 1 = some s5 := o1
  simp only [List.length_nil, Nat.zero_add] at o2 o4
  have hrow : Row (up s5 101 (sg (tLev T) r - 1)) (tLev T4) (pr (tLev T4) kl4 a) := by
    refine rw_row ⟨?_, ?_, fun k v hv => ?_⟩ (fun v hv => f6.oki (pr_in hlk4 a haQ v hv).1)
    · rw [up_o (by omega), o2, List.length_map, hWl]
      omega
    · rw [List.length_map]
      exact hlen4
    · rw [hW] at hv
      cases k with
      | zero =>
        simp at hv
        rw [← hv]
        exact up_s
      | succ k =>
        rw [List.getElem?_cons_succ] at hv
        rw [up_o (by omega)]
        have := o4 k v hv
        rw [← this]
        congr 1
        omega
  have hfr : ∀ j, j < 101 → j ≠ 4 → up s5 101 (sg (tLev T) r - 1) j = up s 2 (s 2 + 1) j := fun j j1 j4 => by rw [up_o (by omega), o5 j j1 j4, u3 j j1 j4]
  have hrk : r ∉ kl r := fun q => by have := (h.kid hr q).2.2; omega
  have hak : a ∉ kl r := fun q => n2 (h.kid hr q).1
  have hh2 : ∀ v ∈ Q, v ≠ r → tHol T2 v = tHol T v := fun v hv v0 => by
    rw [b5, up_o v0]
    exact (n7.2 v hv).2.1
  have J4 : Jn T4 kl4 (z :: a :: Q) a (up s5 101 (sg (tLev T) r - 1)) := by
    refine ⟨f6, ⟨haQ, n3, ?_, ?_⟩, hrow, f7, fun b hb hb24 t ht => ?_, fun v hv hv24 hve => ?_⟩
    · rw [f17.1, b4.2.2.1]
    · rw [f15 a List.mem_cons_self hak, b5, up_o har]
      exact n9
    · have hbQ : b ∈ Q := (List.mem_cons.mp ((List.mem_cons.mp hb).resolve_left (fun q => by omega))).resolve_left (fun q => by omega)
      rw [f16 b (List.mem_cons_of_mem _ hbQ) hb24 t ht, hcor2 b hbQ t ht (Or.inl hb24)]
      show up s5 101 (sg (tLev T) r - 1) (5 + (4 * b + t)) = _
      rw [hfr _ (by omega) (by omega), up_o (by omega)]
      exact J.2.2.2.2.1 b hbQ hb24 t ht
    · by_cases v0 : v = r
      · subst v0
        rw [f9] at hve
        exact absurd (List.map_eq_nil_iff.mp hve) f4
      · by_cases v1 : v = z
        · subst v1
          rw [f10] at hve
          exact absurd (List.map_eq_nil_iff.mp hve) f5
        · by_cases v2 : v = a
          · subst v2
            rw [f11'] at hve
            simp at hve
          · have hvQ := (List.mem_cons.mp ((List.mem_cons.mp hv).resolve_left v1)).resolve_left v2
            rw [(hsame v hvQ v0).1] at hve
            exact absurd (J.2.2.2.2.2 v hvQ hv24 hve).1 v0
  have hgl2 : (g 0).length + (g 1).length = (kl r).length := f3.2.2
  have p0 := List.length_pos_iff.mpr f4
  have p1 := List.length_pos_iff.mpr f5
  refine ⟨a, z, pool', T4, kl4, _, w2, fr', gr, tu, si, old', ?_, ?_, J4, ⟨fun v hv => ⟨by simp [hv], hL4 v hv⟩, fun v hv hn => ?_, fun v hv => (hmem v).mpr (Or.inl hv), fun v hv => (List.mem_cons.mp hv).elim (fun q => Or.inr ⟨by omega, (hmem v).mpr (Or.inr (Or.inl q))⟩) (fun q => (List.mem_cons.mp q).elim (fun q => Or.inr ⟨by omega, (hmem v).mpr (Or.inr (Or.inr q))⟩) Or.inl), ⟨?_, ?_⟩, fun j j1 j2 j3 j4 => by rw [hfr j j1 j4, up_o j2], ⟨?_, ?_⟩, by omega, fun _ => Or.inr (by rw [f11']; simp)⟩, c2, n2, f8, f11', fun v hv => ?_, hl4z, hl4a⟩
  · have hrl2 := h.lt hr
    have hR := h.1.2
    have hal := b2.lt (x := a) List.mem_cons_self
    have hR2 := b2.1.2
    have hzl := f6.lt (x := z) List.mem_cons_self
    have hR4 := f6.1.2
    have hz1 : f_Tr_levelOf T2 (r : Int) = some (tLev T2 r) := t_lev b2.le (b2.lt hrQ)
    unfold f_Ch_splitNode
    rw [gd_p ⟨by omega, by omega⟩, J.2.1.2.2.1, gd_p ⟨by omega, by omega⟩, if_pos rfl, bd2_p hrise, bd1_p hz1, bd2_p c1, gd_p ⟨by omega, by omega⟩, if_neg (by omega), gd_p ⟨by omega, by omega⟩, if_neg (by omega)]
    exact f1
  · have u1 : f_Mo_divides s w fr group turn size old 0 = _ := u1
    rw [u1, if_neg (by omega), bd1_p o1]
  · have hvr : v ≠ r := fun q => hn (by rw [q]; exact pr_self (Lk_at hlk hr))
    have hva : v ≠ a := fun q => n2 (q ▸ hv)
    have hvk : v ∉ kl r := fun q => hn (pr_kid hlk r hr r (pr_self (Lk_at hlk hr)) v q)
    refine ⟨(hsame v hv hvr).1, fun q => ?_, by rw [f15 v (List.mem_cons_of_mem _ hv) hvk, hh2 v hv hvr]⟩
    rcases (hmem v).mp q with q | q | q
    · exact hn q
    · exact hzQ (q ▸ hv)
    · exact hva q
  · rw [f17.2.1, hcap2]
  · rw [f17.2.2.1, b4.2.2.2.2.1]
    exact n7.1.2.2.1
  · rw [f17.2.2.2.1, hfr 2 (by omega) (by omega), up_s, b4.2.2.2.2.2.1]
    show tSpl T1 + 1 - _ = _
    rw [n7.1.2.2.2.1]
    omega
  · rw [f17.2.2.2.2, hfr 3 (by omega) (by omega), up_o (by omega), b4.2.2.2.2.2.2]
    show tRec T1 - _ = _
    rw [n7.1.2.2.2.2]
  · by_cases v0 : v = r
    · subst v0
      rw [f9, List.length_map]
      omega
    · by_cases v1 : v = z
      · subst v1
        rw [f10, List.length_map]
        omega
      · by_cases v2 : v = a
        · subst v2
          rw [f11']
          simp
        · have hvQ := (List.mem_cons.mp ((List.mem_cons.mp hv).resolve_left v1)).resolve_left v2
          rw [(hsame v hvQ v0).1]
          exact hsz v hvQ v0
