/-! an entry out of the tree, an item into it: class and reference -/
theorem Ar.loose {T : TV} {kl : Nat → List Nat} {Q : List Nat} (h : Ar T kl Q) {y : Nat} (hh : tHol T y = -1) : ∀ v ∈ Q, y ∉ kl v := fun v hv hy => by
  have := (h.kid hv hy).2.1
  omega
theorem out_sp {T : TV} {kl : Nat → List Nat} {Q : List Nat} {r x y c : Nat} {s : Nat → Int} {D E : List Nat} (h : Ar T kl Q) (hr : r ∈ Q) (hrow : Row s (tLev T) (pr (tLev T) kl r)) (hC : ∀ v ∈ Q, v ≠ x → Cr (tCor T) kl v) (hx : x ∈ Q) (hxr : x ∈ pr (tLev T) kl r) (hk : kl x = D ++ y :: E) (hat : At T kl r y c) : ∃ (T' : TV) (s' : Nat → Int), f_Tr_takeOut T (y : Int) = some T' ∧ f_Mo_cuts s (c : Int) ((c + (pr (tLev T) kl y).length : Nat) : Int) = some s' ∧ Ar T' (upL kl x (D ++ E)) Q ∧ (∀ v ∈ Q, Cr (tCor T') (upL kl x (D ++ E)) v) ∧ Sm T T' ∧ tHol T' = up (tHol T) y (-1) ∧ (∀ v t, t < 4 → (v < 24 ∨ tLev T v < tLev T x) → tCor T' (4 * v + t) = tCor T (4 * v + t)) ∧ Row s' (tLev T') (pr (tLev T') (upL kl x (D ++ E)) r) ∧ Fr s s' ∧ (∀ v, v ∈ pr (tLev T) kl r ↔ v ∈ pr (tLev T') (upL kl x (D ++ E)) r ∨ v ∈ pr (tLev T) kl y) ∧ (∀ v ∈ pr (tLev T') (upL kl x (D ++ E)) r, v ∉ pr (tLev T) kl y) ∧ pr (tLev T') (upL kl x (D ++ E)) y = pr (tLev T) kl y := by
  have hlk := h.lk
  have hyk : y ∈ kl x := by rw [hk]; simp
  have hyx := h.kid hx hyk
  obtain ⟨T', a1, a2, a3, a4, a5, a6⟩ := takeOut_sp h hC hx hk
  obtain ⟨A, B, c1, -, -, c4⟩ := ctx hlk x r hr hxr
  have hN := pr_nodup h r hr
  have hprx : pr (tLev T) kl x = x :: (prs (tLev T) kl D ++ (pr (tLev T) kl y ++ prs (tLev T) kl E)) := by rw [pr_eq (Lk_at hlk hx), hk, prs_app, prs_cons]
  have hPe : pr (tLev T) kl r = (A ++ x :: prs (tLev T) kl D) ++ (pr (tLev T) kl y ++ (prs (tLev T) kl E ++ B)) := by rw [c1, hprx]; simp
  have hpl := at_place h hr hyx.1 hat hPe
  have hL : tLev T' = tLev T := a4.1
  have hsame : ∀ v, v ≠ x → upL kl x (D ++ E) v = kl v ∧ tLev T' v = tLev T v := fun v hv => ⟨upL_o hv, by rw [hL]⟩
  have hside : ∀ L : List Nat, (∀ z ∈ L, z ∈ kl x) → prs (tLev T') (upL kl x (D ++ E)) L = prs (tLev T) kl L := fun L hLk => prs_same hlk _ (fun z hz => (h.kid hx (hLk z hz)).1) (fun v hv => by
    obtain ⟨z, hz, hvz⟩ := mem_prs.mp hv
    have hzx := h.kid hx (hLk z hz)
    have hv2 := pr_in hlk z hzx.1 v hvz
    exact hsame v (fun q => by subst q; omega))
  have hlk' := a2.lk
  have hp' : pr (tLev T') (upL kl x (D ++ E)) x = x :: (prs (tLev T) kl D ++ prs (tLev T) kl E) := by
    rw [pr_eq (Lk_at hlk' hx), upL_s, prs_app, hside D (fun z hz => by rw [hk]; simp [hz]), hside E (fun z hz => by rw [hk]; simp [hz])]
  have hAB : ∀ v ∈ A ++ B, v ≠ x := fun v hv q => by
    subst q
    rw [c1] at hN
    have hN1 := List.nodup_append.mp hN
    have hN2 := List.nodup_append.mp hN1.2.1
    rcases List.mem_append.mp hv with q | q
    · exact hN1.2.2 v q v (List.mem_append_left _ (pr_self (Lk_at hlk hx))) rfl
    · exact hN2.2.2 v (pr_self (Lk_at hlk hx)) v q rfl
  have hpr' : pr (tLev T') (upL kl x (D ++ E)) r = (A ++ x :: prs (tLev T) kl D) ++ (prs (tLev T) kl E ++ B) := by
    rw [c4 _ _ (fun v hv => hsame v (hAB v hv)) (by rw [hL]), hp']
    simp
  have hrw := row_rw hrow
  rw [hPe, List.map_append (l₁ := A ++ x :: prs (tLev T) kl D), List.map_append (l₁ := pr (tLev T) kl y)] at hrw
  obtain ⟨s', b1, b2, b3⟩ := cuts_sp hrw
  rw [List.length_map, List.length_map, ← hpl.1] at b1
  refine ⟨T', s', a1, b1, a2, a3, a4, a5, a6, ?_, b3, fun v => ?_, fun v hv hm => ?_, ?_⟩
  · refine rw_row ?_ (fun v hv => a2.oki (pr_in hlk' r hr v hv).1)
    rw [hL]
    rw [hL] at hpr'
    rw [hpr', List.map_append]
    exact b2
  · rw [hPe, hpr']
    simp only [List.mem_append, List.mem_cons, or_assoc, or_comm, or_left_comm]
  · rw [hPe] at hN
    rw [hpr'] at hv
    have hN1 := List.nodup_append.mp hN
    have hN2 := List.nodup_append.mp hN1.2.1
    rcases List.mem_append.mp hv with q | q
    · exact hN1.2.2 v q v (List.mem_append_left _ hm) rfl
    · exact hN2.2.2 v hm v q rfl
  · refine pr_same hlk y hyx.1 (fun v hv => hsame v (fun q => ?_))
    have := (pr_in hlk y hyx.1 v hv).2.1
    subst q
    omega
theorem into_sp {T : TV} {kl : Nat → List Nat} {Q : List Nat} {r y : Nat} {s it w : Nat → Int} (J : Jn T kl Q r s) (hy : y ∈ Q) (hyr : y ≠ r) (hh : tHol T y = -1) (hl : tLev T y + 1 ≤ tLev T r) (hit : ∀ (j z : Nat), (pr (tLev T) kl y)[j]? = some z → it j = sg (tLev T) z) (hsz : ∀ v ∈ Q, (kl v).length ≤ 5) (hQ : Q.length ≤ 300) : ∃ (x p : Nat) (w' : Nat → Int) (T' : TV) (s' : Nat → Int), f_Ch_targetFor T (y : Int) = some (x : Int) ∧ f_Tr_addAt T (x : Int) (tSiz T x) (y : Int) = some T' ∧ f_Mo_chosen s w it ((pr (tLev T) kl y).length : Int) (tLev T y + 1) = some ((p : Int), w') ∧ f_Mo_puts s it ((pr (tLev T) kl y).length : Int) (p : Int) = some s' ∧ Jn T' (upL kl x (kl x ++ [y])) Q r s' ∧ x ∈ Q ∧ At T' (upL kl x (kl x ++ [y])) r x p ∧ tLev T x = tLev T y + 1 ∧ x ∈ pr (tLev T) kl r ∧ Sm T T' ∧ tHol T' = up (tHol T) y (x : Int) ∧ (∀ v, v ∈ pr (tLev T') (upL kl x (kl x ++ [y])) r ↔ v ∈ pr (tLev T) kl r ∨ v ∈ pr (tLev T) kl y) ∧ Fr s s' := by
  have h := J.1
  have hlk := h.lk
  have hr := J.2.1.1
  have hPl := Nat.le_trans (pr_length h hy) hQ
  obtain ⟨x, p, w', t1, t2, t3, t4, t5⟩ := tgt_sp (w := w) J hy (fun h24 q => hyr (J.2.2.2.2.2 y hy h24 q).1) hl hit (by omega)
  have hck := J.ckp t3 t4
  have hxr : x ∈ pr (tLev T) kl r := List.mem_of_getElem? hck.2
  have hlo := h.loose hh
  have hxi := (h.2.2.2.2 y hy).1
  have h24 : 24 ≤ x := by
    rcases Nat.lt_or_ge x 24 with q | q
    · have := (h.lev24 t3).mp q
      have := hxi.2.2.1
      omega
    · exact q
  have hx5 := hsz x t3
  have hxs := (h.siz t3).1
  obtain ⟨T', a1, a2, a3, a4, a5, a6⟩ := addAt_sp (p := (kl x).length) h (fun v hv _ => J.2.2.2.1 v hv) t3 h24 hy (by omega) hlo (by omega) (Nat.le_refl _)
  rw [ins_end] at a2 a3
  rw [← hxs] at a1
  have hL : tLev T' = tLev T := a4.1
  have hlk' := a2.lk
  obtain ⟨A, B, c1, c2, -, c4⟩ := ctx hlk x r hr hxr
  have hN := pr_nodup h r hr
  have hsame : ∀ v, v ≠ x → upL kl x (kl x ++ [y]) v = kl v ∧ tLev T' v = tLev T v := fun v hv => ⟨upL_o hv, by rw [hL]⟩
  have hkid : ∀ L : List Nat, (∀ z ∈ L, z ∈ Q ∧ tLev T z = tLev T y) → prs (tLev T') (upL kl x (kl x ++ [y])) L = prs (tLev T) kl L := fun L hLk => prs_same hlk _ (fun z hz => (hLk z hz).1) (fun v hv => by
    obtain ⟨z, hz, hvz⟩ := mem_prs.mp hv
    have hv2 := pr_in hlk z (hLk z hz).1 v hvz
    have := (hLk z hz).2
    exact hsame v (fun q => by subst q; omega))
  have hp' : pr (tLev T') (upL kl x (kl x ++ [y])) x = pr (tLev T) kl x ++ pr (tLev T) kl y := by
    rw [pr_eq (Lk_at hlk' t3), upL_s, hkid _ (fun z hz => by
      rcases List.mem_append.mp hz with q | q
      · have := h.kid t3 q
        exact ⟨this.1, by omega⟩
      · rw [List.mem_singleton.mp q]
        exact ⟨hy, rfl⟩), prs_app, prs_cons, prs_nil, List.append_nil, pr_eq (Lk_at hlk t3)]
    rfl
  have hAB : ∀ v ∈ A ++ B, v ≠ x := fun v hv q => by
    subst q
    rw [c1] at hN
    have hN1 := List.nodup_append.mp hN
    have hN2 := List.nodup_append.mp hN1.2.1
    rcases List.mem_append.mp hv with q | q
    · exact hN1.2.2 v q v (List.mem_append_left _ (pr_self (Lk_at hlk t3))) rfl
    · exact hN2.2.2 v (pr_self (Lk_at hlk t3)) v q rfl
  have hpr2 : pr (tLev T') (upL kl x (kl x ++ [y])) r = A ++ (pr (tLev T') (upL kl x (kl x ++ [y])) x ++ B) := c4 _ _ (fun v hv => hsame v (hAB v hv)) (by rw [hL])
  have hpr' : pr (tLev T') (upL kl x (kl x ++ [y])) r = (A ++ pr (tLev T) kl x) ++ (pr (tLev T) kl y ++ B) := by
    rw [hpr2, hp']
    simp
  have hpl := at_place h hr t3 t4 c1
  have hst : stops (tLev T) (tLev T x) B := by
    have := c2 [] stops_nil
    rw [List.append_nil] at this
    exact this
  have hend := end_pr J.2.2.1 hlk t3 hpl.2 hst
  have hlenN := pr_length a2 hr
  have hrw := row_rw J.2.2.1
  rw [c1, ← List.append_assoc, List.map_append] at hrw
  rw [hpr', List.length_append, List.length_append, List.length_append] at hlenN
  obtain ⟨s', b1, b2, b3⟩ := puts_sp (item := it) (I := (pr (tLev T) kl y).map (sg (tLev T))) (k := (p : Int)) hrw (fun j v hv => by
    rw [List.getElem?_map] at hv
    obtain ⟨z, hz, rfl⟩ := Option.map_eq_some_iff.mp hv
    exact hit j z hz) (by simp; omega) (by rw [hend, hpl.1]; simp)
  rw [List.length_map] at b1
  have hry : r ≠ y := fun q => hyr q.symm
  refine ⟨x, p, w', T', s', t1, a1, t2, b1, ⟨a2, ⟨hr, J.2.1.2.1, a4.2.2.1.trans J.2.1.2.2.1, by rw [a5, up_o hry]; exact J.2.1.2.2.2⟩, ?_, a3, fun b hb hb24 t ht => ?_, fun v hv hv24 hve => ?_⟩, t3, ⟨B, ?_, ?_⟩, t5, hxr, a4, a5, fun v => ?_, b3⟩
  · refine rw_row ?_ (fun v hv => a2.oki (pr_in hlk' r hr v hv).1)
    rw [hL]
    rw [hL] at hpr'
    rw [hpr', List.map_append, List.map_append (l₁ := pr (tLev T) kl y)]
    exact b2
  · rw [a6 b t ht (Or.inl hb24)]
    show s' (5 + (4 * b + t)) = _
    rw [b3 _ (by omega) (by omega)]
    exact J.2.2.2.2.1 b hb hb24 t ht
  · by_cases hvx : v = x
    · subst hvx
      rw [upL_s] at hve
      simp at hve
    · rw [upL_o hvx] at hve
      rw [hL]
      exact J.2.2.2.2.2 v hv hv24 hve
  · rw [hpr2, hpl.1]
    exact drop_here A _
  · rw [hL]
    exact hst
  · rw [hpr', c1]
    simp only [List.mem_append, or_assoc, or_comm, or_left_comm]
/-! reinsertion -/
theorem re_sp {T : TV} {kl : Nat → List Nat} {Q : List Nat} {r x p : Nat} {s w it tr : Nat → Int} {cc : Int64} (J : Jn T kl Q r s) (hx : x ∈ Q) (hxr : x ≠ r) (hat : At T kl r x p) (h2 : 2 ≤ (kl x).length) (hsz : ∀ v ∈ Q, v ≠ x → (kl v).length ≤ 5) (hQ : Q.length ≤ 300) (hR3 : R3 T) : ∃ (x' p' : Nat) (T' : TV) (kl' : Nat → List Nat) (s1 w1 it' s' w' : Nat → Int) (n' : Int), f_Ch_reinsertFarthest cc T (x : Int) = some ((x' : Int), cc ||| lShl 1 (tLev T x), T') ∧ f_Mo_takesFar s w it tr (p : Int) = some (s1, w1, it', n', tLev T x, up tr (tLev T x).toNat 1) ∧ f_Mo_chosen s1 w1 it' n' (tLev T x) = some ((p' : Int), w') ∧ f_Mo_puts s1 it' n' (p' : Int) = some s' ∧ Jn T' kl' Q r s' ∧ Mv T kl Q r s T' kl' Q r s' ∧ R3 T' ∧ x' ∈ Q ∧ At T' kl' r x' p' ∧ tLev T' x' = tLev T x ∧ (∀ v ∈ Q, v ≠ x' → (kl' v).length ≤ 5) := by
  have h := J.1
  have hlk := h.lk
  have hr := J.2.1.1
  have hck := J.ckp hx hat
  have hxpr : x ∈ pr (tLev T) kl r := List.mem_of_getElem? hck.2
  have hx6 := (h.siz hx)
  have hxl := h.lt hx
  have hxi := (h.2.2.2.2 x hx).1
  have hne : kl x ≠ [] := fun q => by rw [q] at h2; simp at h2
  have h24 : 24 ≤ x := by
    cases hkx : kl x with
    | nil => exact absurd hkx hne
    | cons y t => exact h.node hx (y := y) (by rw [hkx]; simp)
  have hl0 : 0 ≤ tLev T x := by
    have h5 : x < 24 ↔ tLev T x = -1 := hxi.2.1
    have h6 : ¬ tLev T x = -1 := fun q => by have := h5.mpr q; omega
    have := hxi.2.2.1
    omega
  have J0 : Jn (sRec T (tRec T + 1)) kl Q r (up s 3 (s 3 + 1)) := J.up (by omega)
  obtain ⟨B1, d1, d2⟩ := hat
  obtain ⟨w1, e1, e2, -⟩ := J0.bnd (c := w) (i := 1) (by omega) hx (fun _ => hne) d1 d2
  have e1 : f_Mo_boundsAt (up s 3 (s 3 + 1)) w (p : Int) 1 = some w1 := e1
  have hend := end_pr J0.2.2.1 hlk hx d1 d2
  have hdp := drop_pr hlk hx d1
  have hpx : (pr (tLev T) kl x).length = 1 + (prs (tLev T) kl (kl x)).length := by rw [pr_eq (Lk_at hlk hx)]; simp; omega
  obtain ⟨b', cb', g', w2, u1, u2, u3, u4⟩ := far_go J0 hx d2 (fun x2_16 x3_17 x5_18 => some (x2_16)) (fun x2_48 x3_49 x5_50 c_rect_51 => bd1 (f_Mo_levelAt (up s 3 (s 3 + 1)) (p : Int)) <| fun r_52 => bd1 (f_Mo_endOf (up s 3 (s 3 + 1)) x2_48) <| fun r_55 => bd2 (f_Mo_takes_s (up s 3 (s 3 + 1)) it (101 + x2_48) (101 + r_55)) <| fun c_item_58 c_items_59 => bd1 (f_Mo_cuts (up s 3 (s 3 + 1)) x2_48 r_55) <| fun c_s_62 => some (c_s_62, c_rect_51, c_item_58, c_items_59, r_52, (up tr ((tLev T x).toNat) 1))) (e := p + (pr (tLev T) kl x).length) (kl x) [] FU FU (p + 1) (-1) (-5) 0 w1 rfl (by unfold FU; omega) (by unfold FU; omega) hdp.2.1 (by show p + 1 + (prs (tLev T) kl (kl x)).length = _; omega) hck.1 e2 (Or.inl ⟨rfl, rfl⟩) (fun _ => rfl) ⟨by omega, by omega⟩
  rcases u3 with ⟨q1, -⟩ | ⟨y, c, q1, q2, hyk, haty⟩
  · exact absurd (u4 q1).2 hne
  obtain ⟨D, E, hk⟩ := List.append_of_mem hyk
  have hyx := h.kid hx hyk
  have hlen := congrArg List.length hk
  rw [List.length_append, List.length_cons] at hlen
  -- out
  have haty : At (sRec T (tRec T + 1)) kl r y c := haty
  obtain ⟨T1, s1, a1, a2, a3, a4, a5, a6, a7, a8, a9, a10, a11, a12⟩ := out_sp (T := sRec T (tRec T + 1)) (s := up s 3 (s 3 + 1)) h hr J0.2.2.1 (fun v hv _ => J.2.2.2.1 v hv) hx hxpr hk haty
  have hL1 : tLev T1 = tLev T := a5.1
  rw [hL1] at a8 a10 a11 a12
  have a10 : ∀ v, v ∈ pr (tLev T) kl r ↔ v ∈ pr (tLev T) (upL kl x (D ++ E)) r ∨ v ∈ pr (tLev T) kl y := a10
  have a11 : ∀ v ∈ pr (tLev T) (upL kl x (D ++ E)) r, v ∉ pr (tLev T) kl y := a11
  have a12 : pr (tLev T) (upL kl x (D ++ E)) y = pr (tLev T) kl y := a12
  have hck2 := J.ckp hyx.1 haty
  obtain ⟨B2, d3, d4⟩ := haty
  have hendy := end_pr J0.2.2.1 hlk hyx.1 d3 d4
  have hprr : pr (tLev T) kl r = (pr (tLev T) kl r).take c ++ (pr (tLev T) kl y ++ B2) := by
    have := (List.take_append_drop c (pr (tLev T) kl r)).symm
    rw [show (pr (tLev T) kl r).drop c = pr (tLev T) kl y ++ B2 from d3] at this
    exact this
  have hcl : ((pr (tLev T) kl r).take c).length = c := by rw [List.length_take]; have := (List.getElem?_eq_some_iff.mp hck2.2).1; omega
  have hrw := row_rw J0.2.2.1
  rw [show pr (tLev (sRec T (tRec T + 1))) kl r = pr (tLev T) kl r from rfl, hprr, List.map_append (l₁ := (pr (tLev T) kl r).take c), List.map_append (l₁ := pr (tLev T) kl y)] at hrw
  obtain ⟨it', t1, t2⟩ := takes_sp (it := it) hrw
  rw [List.length_map, List.length_map, hcl] at t1
  -- in again
  have hyr : y ≠ r := fun q => by
    have h1 := hyx.2.1
    have h2 := J.2.1.2.2.2
    rw [q] at h1
    omega
  have J1 : Jn T1 (upL kl x (D ++ E)) Q r s1 := by
    refine ⟨a3, ⟨hr, J.2.1.2.1, a5.2.2.1.trans J.2.1.2.2.1, by rw [a6, up_o (fun q => hyr q.symm)]; exact J.2.1.2.2.2⟩, by rw [hL1]; exact a8, a4, fun b hb hb24 t ht => ?_, fun v hv hv24 hve => ?_⟩
    · rw [a7 b t ht (Or.inl hb24)]
      show s1 (5 + (4 * b + t)) = _
      rw [a9 _ (by omega) (by omega)]
      exact J0.2.2.2.2.1 b hb hb24 t ht
    · by_cases hvx : v = x
      · subst hvx
        rw [upL_s] at hve
        have := congrArg List.length hve
        rw [List.length_append, List.length_nil] at this
        omega
      · rw [upL_o hvx] at hve
        rw [hL1]
        exact J.2.2.2.2.2 v hv hv24 hve
  have hxle : tLev T x ≤ tLev T r := (pr_in hlk r hr x hxpr).2.1
  have hs1 : ∀ v ∈ Q, (upL kl x (D ++ E) v).length ≤ 5 := fun v hv => by
    by_cases hvx : v = x
    · subst hvx
      rw [upL_s, List.length_append]
      omega
    · rw [upL_o hvx]
      exact hsz v hv hvx
  obtain ⟨x', p', w', T', s', v1, v2, v3, v4, v5, v6, v7, v8, v9, v10, v11, v12, v13⟩ := into_sp (w := w2) (it := it') J1 hyx.1 hyr (by rw [a6]; exact up_s) (by rw [hL1]; omega) (fun j z hz => by
    rw [hL1, a12] at hz
    rw [hL1]
    refine t2 j _ ?_
    rw [List.getElem?_map, hz]
    rfl) hs1 hQ
  rw [hL1, a12] at v3 v4 v12
  rw [hL1] at v8 v9
  have hyl1 : tLev T y + 1 = tLev T x := by omega
  rw [hyl1] at v3 v8
  have hL2 : tLev T' = tLev T := v10.1.trans hL1
  have hx'r : x' ∈ pr (tLev T) kl r := (a10 x').mpr (Or.inl v9)
  refine ⟨x', p', T', _, s1, w2, it', s', w', _, ?_, ?_, v3, v4, v5, ⟨fun v hv => ⟨hv, by rw [hL2]⟩, fun v hv hn => ?_, fun v hv => (v12 v).mpr ((a10 v).mp hv), fun v hv => Or.inl hv, ⟨v10.2.2.2.1.trans a5.2.2.2.1, v10.2.2.2.2.1.trans a5.2.2.2.2.1⟩, fun j j1 j2 j3 j4 => by rw [v13 j j1 j4, a9 j j1 j4, up_o j3], ⟨?_, ?_⟩, by rw [hL2]; exact Int.le_refl _, fun hq => ?_⟩, ?_, v6, v7, by rw [hL2]; exact v8, fun v hv hvx => ?_⟩
  · have z1 : f_Ch_farthestEntry (sRec T (tRec T + 1)) (x : Int) = some (y : Int) := by
      unfold f_Ch_farthestEntry
      rw [bd1_p (t_siz (T := sRec T (tRec T + 1)) h.le hxl), show tSiz (sRec T (tRec T + 1)) x = ((kl x).length : Int) from hx6.1, ← q1]
      exact u1
    unfold f_Ch_reinsertFarthest
    rw [bd1_p (t_lev h.le hxl), bd1_p z1, bd1_p a1, bd1_p v1, bd1_p (t_siz a3.le (a3.lt v6)), bd1_p v2]
  · unfold f_Mo_takesFar
    rw [bd1_p (row_lev J.2.2.1 hck.2), gd_p ⟨by omega, by omega⟩, bd1_p e1, bd1_p hend, show (p : Int) + 1 = ((p + 1 : Nat) : Int) by omega]
    refine Eq.trans u2 ?_
    rw [bd1_p (row_lev J0.2.2.1 hck.2), q2, bd1_p hendy, bd2_p t1, bd1_p a2]
  · have hvx : v ≠ x := fun q => hn (q ▸ hxpr)
    have hvx' : v ≠ x' := fun q => hn (q ▸ hx'r)
    have hvy : v ≠ y := fun q => hn ((a10 v).mpr (Or.inr (by rw [q]; exact pr_self (Lk_at hlk hyx.1))))
    refine ⟨by rw [upL_o hvx', upL_o hvx], fun q => ?_, by rw [v11, up_o hvy, a6, up_o hvy]⟩
    exact hn ((a10 v).mpr ((v12 v).mp q))
  · rw [v10.2.2.2.2.2.1, a5.2.2.2.2.2.1, v13 2 (by omega) (by omega), a9 2 (by omega) (by omega), up_o (by omega)]
  · rw [v10.2.2.2.2.2.2, a5.2.2.2.2.2.2, v13 3 (by omega) (by omega), a9 3 (by omega) (by omega), up_s]
    show tRec T + 1 - _ = _
    omega
  · have hrx : r ≠ x := fun q => hxr q.symm
    unfold Rt2 at hq ⊢
    rw [hL2]
    by_cases hrx' : r = x'
    · rw [← hrx', upL_s, upL_o hrx, List.length_append]
      simp
      omega
    · rw [upL_o hrx', upL_o hrx]
      exact hq
  · show tR T' = 157
    rw [v10.2.1, a5.2.1]
    exact hR3
  · rw [upL_o hvx]
    exact hs1 v hv
