/-! the areas and the overlaps of a level -/
def sar (T : TV) (l : Int) : List Nat → Int
  | [] => 0
  | y :: L => (if tLev T y = l then ar (tCor T) y else 0) + sar T l L
theorem w_node {T : TV} {K : KV} {kl : Nat → List Nat} {Q : List Nat} {r : Nat} {s : Nat → Int} (O : Nm T K kl Q r s) {U V : List Nat} {y : Nat} (e : fl 1 (pr (tLev T) kl r) = U ++ y :: V) : y ∈ Q ∧ 24 ≤ y ∧ f_Rt_nodeAt K (U.length : Int) = some (y : Int) ∧ U.length < (fl 1 (pr (tLev T) kl r)).length ∧ (fl 1 (pr (tLev T) kl r)).length ≤ 360 := by
  obtain ⟨J, h, hr, hrow, hR⟩ := O.parts
  have hl := hrow.2.1
  have hfl := fl_len (pr (tLev T) kl r)
  have hle := congrArg List.length e
  rw [List.length_append, List.length_cons] at hle
  have hx : (fl 1 (pr (tLev T) kl r))[U.length]? = some y := by rw [e, List.getElem?_append_right (Nat.le_refl _), Nat.sub_self]; rfl
  have hm := fl_mem.mp (List.mem_of_getElem? hx)
  have hK8 := O.2.2.2.le
  have hKl := O.2.2.1
  refine ⟨(pr_in h.lk r hr y hm.1).1, ?_, ?_, by omega, by omega⟩
  · rcases Nat.lt_or_ge y 24 with q | q
    · exact absurd (hm.2.mp q) (by omega)
    · exact q
  · unfold f_Rt_nodeAt
    rw [bd1_p (at_sp (by omega) (by omega)), O.2.1.2 _ _ hx]
theorem arc_go {T : TV} {K : KV} {kl : Nat → List Nat} {Q : List Nat} {r : Nat} {s : Nat → Int} {l : Int} (O : Nm T K kl Q r s) (h1 : 1 < (pr (tLev T) kl r).length) (hlc : ck l) (k : Int → Int → Option Int) : ∀ (V U : List Nat) (n : Nat) (x : Int), fl 1 (pr (tLev T) kl r) = U ++ V → V.length < n → f_Rt_area_L18 T K l k n x (U.length : Int) = k (x + sar T l V) ((fl 1 (pr (tLev T) kl r)).length : Int)
  | [], U, n + 1, x, e, hn => by
    obtain ⟨J, h, hr, hrow, hR⟩ := O.parts
    have hl := hrow.2.1
    have hfl := fl_len (pr (tLev T) kl r)
    have hc := O.2.1.1
    have hle := congrArg List.length e
    rw [List.append_nil] at hle
    rw [f_Rt_area_L18, hc, gd_p ⟨by omega, by omega⟩, gd_p ⟨by omega, by omega⟩, if_neg (by omega), hle]
    exact congrArg (fun z => k z (U.length : Int)) (show x = x + (0 : Int) by omega)
  | y :: V, U, n + 1, x, e, hn => by
    obtain ⟨J, h, hr, hrow, hR⟩ := O.parts
    have hc := O.2.1.1
    rw [List.length_cons] at hn
    obtain ⟨hyQ, h24, hnode, hU, hW⟩ := w_node O e
    have e2 : fl 1 (pr (tLev T) kl r) = (U ++ [y]) ++ V := by rw [e]; simp
    have hl1 : (U.length : Int) + 1 = ((U ++ [y]).length : Int) := by rw [List.length_append]; rfl
    have hky : 0 < (kl y).length := List.length_pos_iff.mpr (full_ne O h1 hyQ h24)
    have hsz := h.siz hyQ
    rw [f_Rt_area_L18, hc, gd_p ⟨by omega, by omega⟩, gd_p ⟨by omega, by omega⟩, if_pos (by omega), bd1_p hnode, bd1_p (t_lev hR (h.lt hyQ)), gd_p (h.ckl hyQ), gd_p hlc, hl1]
    have hs : sar T l (y :: V) = (if tLev T y = l then ar (tCor T) y else 0) + sar T l V := rfl
    rw [hs]
    by_cases hy : tLev T y = l
    · rw [if_pos hy, if_pos hy, bd1_p (t_siz hR (h.lt hyQ)), hsz.1, gd_p ⟨by omega, by omega⟩, if_pos (by omega), bd1_p (t_area hR (h.lt hyQ)), arc_go O h1 hlc k V (U ++ [y]) n _ e2 (by omega)]
      exact congrArg (fun z => k z ((fl 1 (pr (tLev T) kl r)).length : Int)) (by omega)
    · rw [if_neg hy, if_neg hy, arc_go O h1 hlc k V (U ++ [y]) n _ e2 (by omega)]
      exact congrArg (fun z => k z ((fl 1 (pr (tLev T) kl r)).length : Int)) (by omega)
theorem arm_go {T : TV} {K : KV} {kl : Nat → List Nat} {Q : List Nat} {r : Nat} {s : Nat → Int} {l : Int} (O : Nm T K kl Q r s) (h1 : 1 < (pr (tLev T) kl r).length) (hlc : ck l) (hl0 : 0 ≤ l) : ∀ (S A : List Nat) (n : Nat) (x : Int) (c : Nat → Int), pr (tLev T) kl r = A ++ S → S.length < n → ∃ c', f_Mo_area_L19 s l (fun x2_32 x3_33 c_rect_34 => some (x2_32, c_rect_34)) n x (A.length : Int) c = some (x + sar T l (fl 1 S), c')
  | [], A, n + 1, x, c, e, hn => by
    obtain ⟨J, h, hr, hrow, hR⟩ := O.parts
    have hl := hrow.2.1
    have h0 := hrow.1
    have hle := congrArg List.length e
    rw [List.append_nil] at hle
    refine ⟨c, ?_⟩
    rw [f_Mo_area_L19]
    unfold f_Mo_length
    rw [bd1_p rfl, h0, gd_p ⟨by omega, by omega⟩, gd_p ⟨by omega, by omega⟩, if_neg (by omega)]
    exact congrArg (fun z => some (z, c)) (show x = x + (0 : Int) by omega)
  | y :: S, A, n + 1, x, c, e, hn => by
    obtain ⟨J, h, hr, hrow, hR⟩ := O.parts
    have hl := hrow.2.1
    have h0 := hrow.1
    have hlen := congrArg List.length e
    rw [List.length_append, List.length_cons] at hlen
    rw [List.length_cons] at hn
    obtain ⟨hyQ, hyp, B, e3, hst⟩ := here_at O e
    have hx : (pr (tLev T) kl r)[A.length]? = some y := by rw [e, List.getElem?_append_right (Nat.le_refl _), Nat.sub_self]; rfl
    have e2 : pr (tLev T) kl r = (A ++ [y]) ++ S := by rw [e]; simp
    have hl1 : (A.length : Int) + 1 = ((A ++ [y]).length : Int) := by rw [List.length_append]; rfl
    rw [f_Mo_area_L19]
    unfold f_Mo_length
    rw [bd1_p (show some (s 4) = some (s 4) from rfl), h0, gd_p ⟨by omega, by omega⟩, gd_p ⟨by omega, by omega⟩, if_pos (by omega), bd1_p (show some ((pr (tLev T) kl r).length : Int) = some ((pr (tLev T) kl r).length : Int) from rfl), gd_p ⟨by omega, by omega⟩, if_pos (by omega), bd1_p (row_lev hrow hx), gd_p (h.ckl hyQ), gd_p hlc, hl1]
    by_cases hy : tLev T y = l
    · have h24 : 24 ≤ y := by
        rcases Nat.lt_or_ge y 24 with q | q
        · have := (h.lev24 hyQ).mp q
          omega
        · exact q
      obtain ⟨c2, b1, b2, -⟩ := bat_sp (c := c) O e3 hst hyQ (fun _ => full_ne O h1 hyQ h24) (i := 0) (by omega)
      have b1 : f_Mo_boundsAt s c (A.length : Int) 0 = some c2 := b1
      have ha : f_Mo_areaOf c2 0 = some (ar (tCor T) y) := by rw [← ar_eqb b2]; exact m_area (i := 0) (by omega)
      obtain ⟨c3, t1⟩ := arm_go O h1 hlc hl0 S (A ++ [y]) n (x + ar (tCor T) y) c2 e2 (by omega)
      refine ⟨c3, ?_⟩
      rw [if_pos hy, bd1_p b1, bd1_p ha, t1, fl_cons, if_pos h24]
      have hs : sar T l (y :: fl 1 S) = (if tLev T y = l then ar (tCor T) y else 0) + sar T l (fl 1 S) := rfl
      rw [hs, if_pos hy]
      exact congrArg (fun z => some (z, c3)) (by omega)
    · obtain ⟨c3, t1⟩ := arm_go O h1 hlc hl0 S (A ++ [y]) n x c e2 (by omega)
      refine ⟨c3, ?_⟩
      rw [if_neg hy, t1, fl_cons]
      by_cases h24 : 24 ≤ y
      · have hs : sar T l (y :: fl 1 S) = (if tLev T y = l then ar (tCor T) y else 0) + sar T l (fl 1 S) := rfl
        rw [if_pos h24, hs, if_neg hy]
        exact congrArg (fun z => some (z, c3)) (by omega)
      · rw [if_neg h24]
theorem lone {T : TV} {K : KV} {kl : Nat → List Nat} {Q : List Nat} {r : Nat} {s : Nat → Int} (O : Nm T K kl Q r s) (h1 : ¬ 1 < (pr (tLev T) kl r).length) : pr (tLev T) kl r = [r] ∧ kl r = [] ∧ fl 1 (pr (tLev T) kl r) = [r] := by
  obtain ⟨J, h, hr, hrow, hR⟩ := O.parts
  have e := pr_eq (Lk_at h.lk hr)
  have hk : kl r = [] := by
    rcases hkr : kl r with _ | ⟨y, L⟩
    · rfl
    · exfalso
      have h2 := prs_len h.lk (kl r) (fun y hy => (h.kid hr hy).1)
      have h3 := congrArg List.length e
      rw [List.length_cons] at h3
      rw [hkr, List.length_cons] at h2
      rw [hkr] at h3
      omega
  rw [hk, prs_nil] at e
  refine ⟨e, hk, ?_⟩
  rw [e, fl_cons, if_pos J.2.1.2.1]
  rfl
theorem q_area {T : TV} {K : KV} {kl : Nat → List Nat} {Q : List Nat} {r : Nat} {s c : Nat → Int} {l : Int} (O : Nm T K kl Q r s) (g1 : ck l) : ∃ (r_1 : Int) (c' : Nat → Int), f_Rt_area T K l = some r_1 ∧ f_Mo_area s c l = some (r_1, c') := by
  obtain ⟨J, h, hr, hrow, hR⟩ := O.parts
  have hl := hrow.2.1
  have h0 := hrow.1
  have hfl := fl_len (pr (tLev T) kl r)
  have hq := q_head O
  have hlr := h.ckl hr
  unfold f_Rt_area f_Mo_area
  rw [gd_p g1, bd1_p hq.1, in_sp g1 ck_0 hlr]
  by_cases hin : 0 ≤ l ∧ l ≤ tLev T r
  · by_cases h1 : 1 < (pr (tLev T) kl r).length
    · obtain ⟨c', m1⟩ := arm_go O h1 g1 hin.1 (pr (tLev T) kl r) [] FU 0 c rfl (by unfold FU; omega)
      have c1 := arc_go O h1 g1 (fun x2_28 x3_29 => some (x2_28)) (fl 1 (pr (tLev T) kl r)) [] FU 0 rfl (by unfold FU; omega)
      refine ⟨0 + sar T l (fl 1 (pr (tLev T) kl r)), c', ?_, ?_⟩
      · rw [if_neg (by omega), bd1_p hq.2, gd_p hlr, if_neg (by omega)]
        exact c1
      · rw [if_pos hin, bd1_p rfl, gd_p ck_1, if_neg (by omega)]
        exact m1
    · obtain ⟨e1, e2, e3⟩ := lone O h1
      have hw := w_node O (U := []) (V := []) (y := r) e3
      have hc := O.2.1.1
      rw [e3] at hc
      have hc : kCnt K = 1 := hc
      have hsz := h.siz hr
      rw [e2] at hsz
      refine ⟨0, c, ?_, ?_⟩
      · have hnode : f_Rt_nodeAt K 0 = some (r : Int) := hw.2.2.1
        rw [if_neg (by omega), bd1_p hq.2, gd_p hlr, if_neg (by omega), show FU = 4094 + 1 + 1 from rfl, f_Rt_area_L18, hc, gd_p ck_0, gd_p ck_1, if_pos (by omega), bd1_p hnode, bd1_p (t_lev hR (h.lt hr)), gd_p hlr, gd_p g1]
        have hend : ∀ z, f_Rt_area_L18 T K l (fun x2_28 x3_29 => some (x2_28)) (4094 + 1) z (0 + 1) = some z := fun z => by
          rw [f_Rt_area_L18, hc, gd_p ⟨by omega, by omega⟩, gd_p ck_1, if_neg (by omega)]
        by_cases hy : tLev T r = l
        · rw [if_pos hy, bd1_p (t_siz hR (h.lt hr)), hsz.1, gd_p ⟨by decide, by decide⟩, if_neg (by decide)]
          exact hend 0
        · rw [if_neg hy]
          exact hend 0
      · rw [e1] at h0
        have h0 : s 4 = 1 := h0
        rw [if_pos hin, bd1_p rfl, gd_p ck_1, if_neg (by omega), show FU = 4095 + 1 from rfl, f_Mo_area_L19]
        unfold f_Mo_length
        rw [h0, bd1_p (show some (1 : Int) = some 1 from rfl), gd_p ck_0, gd_p ck_1, if_pos (by omega), bd1_p (show some (1 : Int) = some 1 from rfl), gd_p ck_1, if_neg (by omega)]
  · refine ⟨-1, c, ?_, ?_⟩
    · by_cases hn : l < 0
      · rw [if_pos hn]
      · rw [if_neg hn, bd1_p hq.2, gd_p hlr, if_pos (by omega)]
    · rw [if_neg hin, bd1_p rfl, gd_p ck_0, if_pos rfl]
