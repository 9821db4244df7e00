/-! the overlaps of a level: the pairs in two orders -/
def sov (c : Nat → Int) (v : Nat) : List Nat → Int
  | [] => 0
  | u :: L => ca c v c u + sov c v L
def rov (c : Nat → Int) : List Nat → Int
  | [] => 0
  | v :: L => sov c v L + rov c L
def lov (c : Nat → Int) (v : Nat) : List Nat → Int
  | [] => 0
  | u :: L => ca c u c v + lov c v L
theorem sov_snoc {c : Nat → Int} {v u : Nat} : ∀ {L : List Nat}, sov c v (L ++ [u]) = sov c v L + ca c v c u
  | [] => by
    show ca c v c u + 0 = 0 + ca c v c u
    omega
  | x :: L => by
    show ca c v c x + sov c v (L ++ [u]) = ca c v c x + sov c v L + ca c v c u
    rw [sov_snoc]
    omega
theorem lov_snoc {c : Nat → Int} {v u : Nat} : ∀ {L : List Nat}, lov c v (L ++ [u]) = lov c v L + ca c u c v
  | [] => by
    show ca c u c v + 0 = 0 + ca c u c v
    omega
  | x :: L => by
    show ca c x c v + lov c v (L ++ [u]) = ca c x c v + lov c v L + ca c u c v
    rw [lov_snoc]
    omega
theorem rov_snoc {c : Nat → Int} {v : Nat} : ∀ {L : List Nat}, rov c (L ++ [v]) = rov c L + lov c v L
  | [] => rfl
  | x :: L => by
    show sov c x (L ++ [v]) + rov c (L ++ [v]) = sov c x L + rov c L + (ca c x c v + lov c v L)
    rw [sov_snoc, rov_snoc]
    omega
def vl (T : TV) (l : Int) (L : List Nat) : List Nat := L.filter (fun y => decide (tLev T y = l))
theorem vl_cons {T : TV} {l : Int} {y : Nat} {L : List Nat} : vl T l (y :: L) = if tLev T y = l then y :: vl T l L else vl T l L := by
  unfold vl
  by_cases h : tLev T y = l
  · rw [if_pos h, List.filter_cons_of_pos (by simp [h])]
  · rw [if_neg h, List.filter_cons_of_neg (by simp [h])]
theorem vl_snoc {T : TV} {l : Int} {y : Nat} {L : List Nat} : vl T l (L ++ [y]) = if tLev T y = l then vl T l L ++ [y] else vl T l L := by
  unfold vl
  rw [List.filter_append]
  by_cases h : tLev T y = l
  · rw [if_pos h, List.filter_cons_of_pos (by simp [h])]
    rfl
  · rw [if_neg h, List.filter_cons_of_neg (by simp [h])]
    simp
theorem vl_fl {T : TV} {kl : Nat → List Nat} {Q : List Nat} (h : Ar T kl Q) {l : Int} (hl : 0 ≤ l) : ∀ {L : List Nat}, (∀ y ∈ L, y ∈ Q) → vl T l (fl 1 L) = vl T l L
  | [], _ => rfl
  | y :: L, hL => by
    have ih := vl_fl h hl (L := L) (fun z hz => hL z (List.mem_cons_of_mem _ hz))
    have hy := hL y List.mem_cons_self
    rw [fl_cons]
    by_cases h24 : 24 ≤ y
    · rw [if_pos h24, vl_cons, vl_cons, ih]
    · have h1 := (h.lev24 hy).mp (by omega)
      rw [if_neg h24, vl_cons, if_neg (by omega), ih]
theorem ovi_go {T : TV} {K : KV} {kl : Nat → List Nat} {Q : List Nat} {r : Nat} {s : Nat → Int} {l : Int} {U V : List Nat} {v : Nat} (O : Nm T K kl Q r s) (hlc : ck l) (e : fl 1 (pr (tLev T) kl r) = U ++ v :: V) (k : Int → Int → Option Int) : ∀ (U2 U1 : List Nat) (n : Nat), U = U1 ++ U2 → U2.length < n → f_Rt_overlapWithEarlier_L5 T K (U.length : Int) l k n (lov (tCor T) v (vl T l U1)) (U1.length : Int) = k (lov (tCor T) v (vl T l U)) (U.length : Int)
  | [], U1, n + 1, e1, hn => by
    obtain ⟨hvQ, hv24, hvn, hU, hW⟩ := w_node O e
    rw [List.append_nil] at e1
    subst e1
    rw [f_Rt_overlapWithEarlier_L5, gd_p ⟨by omega, by omega⟩, gd_p ⟨by omega, by omega⟩, if_neg (by omega)]
  | u :: U2, U1, n + 1, e1, hn => by
    obtain ⟨J, h, hr, hrow, hR⟩ := O.parts
    obtain ⟨hvQ, hv24, hvn, hU, hW⟩ := w_node O e
    rw [List.length_cons] at hn
    have hle := congrArg List.length e1
    rw [List.length_append, List.length_cons] at hle
    obtain ⟨huQ, hu24, hun, hU1, -⟩ := w_node O (U := U1) (V := U2 ++ v :: V) (y := u) (by rw [e, e1]; simp)
    have e2 : U = (U1 ++ [u]) ++ U2 := by rw [e1]; simp
    have hl1 : (U1.length : Int) + 1 = ((U1 ++ [u]).length : Int) := by rw [List.length_append]; rfl
    have ih := ovi_go O hlc e k U2 (U1 ++ [u]) n e2 (by omega)
    rw [vl_snoc] at ih
    rw [f_Rt_overlapWithEarlier_L5, gd_p ⟨by omega, by omega⟩, gd_p ⟨by omega, by omega⟩, if_pos (by omega), bd1_p hun, bd1_p (t_lev hR (h.lt huQ)), gd_p (h.ckl huQ), gd_p hlc, hl1]
    by_cases hy : tLev T u = l
    · rw [if_pos hy, lov_snoc] at ih
      rw [if_pos hy, bd1_p hun, bd1_p hvn, bd1_p (t_common hR (h.lt huQ) (h.lt hvQ) (h.rgx huQ) (h.rgx hvQ))]
      exact ih
    · rw [if_neg hy] at ih
      rw [if_neg hy]
      exact ih
theorem ovc_go {T : TV} {K : KV} {kl : Nat → List Nat} {Q : List Nat} {r : Nat} {s : Nat → Int} {l : Int} (O : Nm T K kl Q r s) (hlc : ck l) (k : Int → Int → Option Int) : ∀ (V U : List Nat) (n : Nat), fl 1 (pr (tLev T) kl r) = U ++ V → V.length < n → f_Rt_overlap_L18 T K l k n (rov (tCor T) (vl T l U)) (U.length : Int) = k (rov (tCor T) (vl T l (fl 1 (pr (tLev T) kl r)))) ((fl 1 (pr (tLev T) kl r)).length : Int)
  | [], U, n + 1, e, hn => by
    obtain ⟨J, h, hr, hrow, hR⟩ := O.parts
    have hl := hrow.2.1
    have hfl := fl_len (pr (tLev T) kl r)
    have hc := O.2.1.1
    have hle := congrArg List.length e
    rw [List.append_nil] at hle e
    rw [f_Rt_overlap_L18, hc, gd_p ⟨by omega, by omega⟩, gd_p ⟨by omega, by omega⟩, if_neg (by omega), e]
  | y :: V, U, n + 1, e, hn => by
    obtain ⟨J, h, hr, hrow, hR⟩ := O.parts
    have hc := O.2.1.1
    rw [List.length_cons] at hn
    obtain ⟨hyQ, h24, hnode, hU, hW⟩ := w_node O e
    have e2 : fl 1 (pr (tLev T) kl r) = (U ++ [y]) ++ V := by rw [e]; simp
    have hl1 : (U.length : Int) + 1 = ((U ++ [y]).length : Int) := by rw [List.length_append]; rfl
    have ih := ovc_go O hlc k V (U ++ [y]) n e2 (by omega)
    rw [vl_snoc] at ih
    rw [f_Rt_overlap_L18, hc, gd_p ⟨by omega, by omega⟩, gd_p ⟨by omega, by omega⟩, if_pos (by omega), bd1_p hnode, bd1_p (t_lev hR (h.lt hyQ)), gd_p (h.ckl hyQ), gd_p hlc, hl1]
    by_cases hy : tLev T y = l
    · have hin : f_Rt_overlapWithEarlier T K (U.length : Int) l = some (lov (tCor T) y (vl T l U)) := by
        unfold f_Rt_overlapWithEarlier
        exact ovi_go O hlc e (fun x3_22 x4_23 => some (x3_22)) U [] FU rfl (by unfold FU; omega)
      rw [if_pos hy, rov_snoc] at ih
      rw [if_pos hy, bd1_p hin]
      exact ih
    · rw [if_neg hy] at ih
      rw [if_neg hy]
      exact ih
theorem ovj_go {T : TV} {K : KV} {kl : Nat → List Nat} {Q : List Nat} {r : Nat} {s : Nat → Int} {l : Int} {A S : List Nat} {v : Nat} (O : Nm T K kl Q r s) (hlc : ck l) (hl0 : 0 ≤ l) (e : pr (tLev T) kl r = A ++ v :: S) (k : Int → Int → (Nat → Int) → Option (Int × (Nat → Int))) : ∀ (S2 S1 : List Nat) (n : Nat) (x : Int) (c : Nat → Int), S = S1 ++ S2 → S2.length < n → ∃ (z : Int) (c' : Nat → Int), f_Mo_overlap_L32 s l (A.length : Int) k n x ((A.length + 1 + S1.length : Nat) : Int) c = k (x + if tLev T v = l then sov (tCor T) v (vl T l S2) else 0) z c'
  | [], S1, n + 1, x, c, e1, hn => by
    obtain ⟨J, h, hr, hrow, hR⟩ := O.parts
    have hl := hrow.2.1
    have h0 := hrow.1
    have hlen := congrArg List.length e
    rw [List.length_append, List.length_cons] at hlen
    have hle := congrArg List.length e1
    rw [List.append_nil] at hle
    refine ⟨((A.length + 1 + S1.length : Nat) : Int), c, ?_⟩
    rw [f_Mo_overlap_L32]
    unfold f_Mo_length
    rw [bd1_p rfl, h0, gd_p ⟨by omega, by omega⟩, gd_p ⟨by omega, by omega⟩, if_neg (by omega)]
    have hz : (if tLev T v = l then sov (tCor T) v (vl T l []) else 0) = 0 := by
      split <;> rfl
    rw [hz, Int.add_zero]
  | u :: S2, S1, n + 1, x, c, e1, hn => by
    obtain ⟨J, h, hr, hrow, hR⟩ := O.parts
    have hl := hrow.2.1
    have h0 := hrow.1
    have hlen := congrArg List.length e
    rw [List.length_append, List.length_cons] at hlen
    have hle := congrArg List.length e1
    rw [List.length_append, List.length_cons] at hle
    rw [List.length_cons] at hn
    obtain ⟨hvQ, hvp, B, e3, hst⟩ := here_at O e
    have hxv : (pr (tLev T) kl r)[A.length]? = some v := by rw [e, List.getElem?_append_right (Nat.le_refl _), Nat.sub_self]; rfl
    have e4 : pr (tLev T) kl r = (A ++ v :: S1) ++ u :: S2 := by rw [e, e1]; simp
    have hAl : (A ++ v :: S1).length = A.length + 1 + S1.length := by
      rw [List.length_append, List.length_cons]
      omega
    obtain ⟨huQ, hup, B2, e5, hst2⟩ := here_at O e4
    have hxu : (pr (tLev T) kl r)[A.length + 1 + S1.length]? = some u := by rw [e4, ← hAl, List.getElem?_append_right (Nat.le_refl _), Nat.sub_self]; rfl
    have hl1 : ((A.length + 1 + S1.length : Nat) : Int) + 1 = ((A.length + 1 + (S1 ++ [u]).length : Nat) : Int) := by
      rw [List.length_append]
      rfl
    have h1 : 1 < (pr (tLev T) kl r).length := by omega
    have n24 : ∀ {w : Nat}, w ∈ Q → tLev T w = l → 24 ≤ w := fun {w} hw hwl => by
      rcases Nat.lt_or_ge w 24 with q | q
      · have := (h.lev24 hw).mp q
        omega
      · exact q
    have e2 : S = (S1 ++ [u]) ++ S2 := by rw [e1]; simp
    have hstep : ∀ (X : Int) (c2 : Nat → Int), f_Mo_overlap_L32 s l (A.length : Int) k (n + 1) x ((A.length + 1 + S1.length : Nat) : Int) c = f_Mo_overlap_L32 s l (A.length : Int) k n X ((A.length + 1 + (S1 ++ [u]).length : Nat) : Int) c2 → (X + if tLev T v = l then sov (tCor T) v (vl T l S2) else 0) = (x + if tLev T v = l then sov (tCor T) v (vl T l (u :: S2)) else 0) → ∃ (z : Int) (c' : Nat → Int), f_Mo_overlap_L32 s l (A.length : Int) k (n + 1) x ((A.length + 1 + S1.length : Nat) : Int) c = k (x + if tLev T v = l then sov (tCor T) v (vl T l (u :: S2)) else 0) z c' := fun X c2 g1 g2 => by
      obtain ⟨z, c3, t1⟩ := ovj_go O hlc hl0 e k S2 (S1 ++ [u]) n X c2 e2 (by omega)
      exact ⟨z, c3, by rw [g1, t1, g2]⟩
    have hhead : f_Mo_overlap_L32 s l (A.length : Int) k (n + 1) x ((A.length + 1 + S1.length : Nat) : Int) c = (if tLev T v = l then (if tLev T u = l then (bd1 (f_Mo_boundsAt s c (A.length : Int) 0) <| fun c_rect_32 => bd1 (f_Mo_boundsAt s c_rect_32 ((A.length + 1 + S1.length : Nat) : Int) 1) <| fun c_rect_35 => bd1 (f_Mo_commonArea c_rect_35 0 1) <| fun r_38 => f_Mo_overlap_L32 s l (A.length : Int) k n ((x + r_38)) ((A.length + 1 + (S1 ++ [u]).length : Nat) : Int) (c_rect_35)) else (f_Mo_overlap_L32 s l (A.length : Int) k n x ((A.length + 1 + (S1 ++ [u]).length : Nat) : Int) c)) else k x ((A.length + 1 + S1.length : Nat) : Int) c) := by
      rw [f_Mo_overlap_L32]
      unfold f_Mo_length
      rw [bd1_p rfl, h0, gd_p ⟨by omega, by omega⟩, gd_p ⟨by omega, by omega⟩, if_pos (by omega), bd1_p (row_lev hrow hxv), gd_p (h.ckl hvQ), gd_p hlc, bd1_p (row_lev hrow hxu), gd_p (h.ckl huQ), hl1]
    by_cases hv : tLev T v = l
    · by_cases hu : tLev T u = l
      · obtain ⟨c2, b1, b2, -⟩ := bat_sp (c := c) O e3 hst hvQ (fun _ => full_ne O h1 hvQ (n24 hvQ hv)) (i := 0) (by omega)
        obtain ⟨c3, d1, d2, d3⟩ := bat_sp (c := c2) O e5 hst2 huQ (fun _ => full_ne O h1 huQ (n24 huQ hu)) (i := 1) (by omega)
        rw [hAl] at d1
        have b1 : f_Mo_boundsAt s c (A.length : Int) 0 = some c2 := b1
        have d1 : f_Mo_boundsAt s c2 ((A.length + 1 + S1.length : Nat) : Int) 1 = some c3 := d1
        have b3 : eqb c3 0 (tCor T) v := fun t ht => (d3.eq (j := 0) (by omega) ht).trans (b2 t ht)
        have hcom : f_Mo_commonArea c3 0 1 = some (ca (tCor T) v (tCor T) u) := by
          rw [← ca_eqb b3 d2]
          exact m_common (x := 0) (y := 1) (by omega) (by omega) (rg_eqb b3 (h.rgx hvQ)) (rg_eqb d2 (h.rgx huQ))
        refine hstep (x + ca (tCor T) v (tCor T) u) c3 ?_ ?_
        · rw [hhead, if_pos hv, if_pos hu, bd1_p b1, bd1_p d1, bd1_p hcom]
        · have hs : sov (tCor T) v (u :: vl T l S2) = ca (tCor T) v (tCor T) u + sov (tCor T) v (vl T l S2) := rfl
          rw [if_pos hv, if_pos hv, vl_cons, if_pos hu, hs]
          omega
      · refine hstep x c ?_ ?_
        · rw [hhead, if_pos hv, if_neg hu]
        · rw [vl_cons, if_neg hu]
    · refine ⟨((A.length + 1 + S1.length : Nat) : Int), c, ?_⟩
      rw [hhead, if_neg hv, if_neg hv, Int.add_zero]
theorem ovm_go {T : TV} {K : KV} {kl : Nat → List Nat} {Q : List Nat} {r : Nat} {s : Nat → Int} {l : Int} (O : Nm T K kl Q r s) (hlc : ck l) (hl0 : 0 ≤ l) : ∀ (S A : List Nat) (n : Nat) (x : Int) (c : Nat → Int), pr (tLev T) kl r = A ++ S → S.length < n → ∃ c', f_Mo_overlap_L19 s l (fun x2_44 x3_45 c_rect_46 => some (x2_44, c_rect_46)) n x (A.length : Int) c = some (x + rov (tCor T) (vl T l S), c')
  | [], A, n + 1, x, c, e, hn => by
    obtain ⟨J, h, hr, hrow, hR⟩ := O.parts
    have hl := hrow.2.1
    have h0 := hrow.1
    have hle := congrArg List.length e
    rw [List.append_nil] at hle
    refine ⟨c, ?_⟩
    rw [f_Mo_overlap_L19]
    unfold f_Mo_length
    rw [bd1_p rfl, h0, gd_p ⟨by omega, by omega⟩, gd_p ⟨by omega, by omega⟩, if_neg (by omega)]
    exact congrArg (fun z => some (z, c)) (show x = x + (0 : Int) by omega)
  | y :: S, A, n + 1, x, c, e, hn => by
    obtain ⟨J, h, hr, hrow, hR⟩ := O.parts
    have hl := hrow.2.1
    have h0 := hrow.1
    have hlen := congrArg List.length e
    rw [List.length_append, List.length_cons] at hlen
    rw [List.length_cons] at hn
    have e2 : pr (tLev T) kl r = (A ++ [y]) ++ S := by rw [e]; simp
    have hl1 : (A.length : Int) + 1 = ((A ++ [y]).length : Int) := by rw [List.length_append]; rfl
    obtain ⟨z, c2, t1⟩ := ovj_go O hlc hl0 e (fun x2_41 x4_42 c_rect_43 => f_Mo_overlap_L19 s l (fun x2_44 x3_45 c_rect_46 => some (x2_44, c_rect_46)) n (x2_41) ((A.length : Int) + 1) (c_rect_43)) S [] FU x c rfl (by unfold FU; omega)
    obtain ⟨c3, t2⟩ := ovm_go O hlc hl0 S (A ++ [y]) n (x + if tLev T y = l then sov (tCor T) y (vl T l S) else 0) c2 e2 (by omega)
    refine ⟨c3, ?_⟩
    rw [f_Mo_overlap_L19]
    unfold f_Mo_length
    rw [bd1_p rfl, h0, gd_p ⟨by omega, by omega⟩, gd_p ⟨by omega, by omega⟩, if_pos (by omega)]
    have t1 : f_Mo_overlap_L32 s l (A.length : Int) (fun x2_41 x4_42 c_rect_43 => f_Mo_overlap_L19 s l (fun x2_44 x3_45 c_rect_46 => some (x2_44, c_rect_46)) n (x2_41) ((A.length : Int) + 1) (c_rect_43)) FU x ((A.length : Int) + 1) c = _ := t1
    refine t1.trans ?_
    rw [hl1]
    refine t2.trans ?_
    refine congrArg (fun z => some (z, c3)) ?_
    rw [vl_cons]
    by_cases hy : tLev T y = l
    · have hs : rov (tCor T) (y :: vl T l S) = sov (tCor T) y (vl T l S) + rov (tCor T) (vl T l S) := rfl
      rw [if_pos hy, if_pos hy, hs]
      omega
    · rw [if_neg hy, if_neg hy]
      omega
theorem q_overlap {T : TV} {K : KV} {kl : Nat → List Nat} {Q : List Nat} {r : Nat} {s c : Nat → Int} {l : Int} (O : Nm T K kl Q r s) (g1 : ck l) : ∃ (r_1 : Int) (c' : Nat → Int), f_Rt_overlap T K l = some r_1 ∧ f_Mo_overlap s c l = some (r_1, c') := by
  obtain ⟨J, h, hr, hrow, hR⟩ := O.parts
  have hl := hrow.2.1
  have hfl := fl_len (pr (tLev T) kl r)
  have hq := q_head O
  have hlr := h.ckl hr
  unfold f_Rt_overlap f_Mo_overlap
  rw [gd_p g1, bd1_p hq.1, in_sp g1 ck_0 hlr]
  by_cases hin : 0 ≤ l ∧ l ≤ tLev T r
  · obtain ⟨c', m1⟩ := ovm_go O g1 hin.1 (pr (tLev T) kl r) [] FU 0 c rfl (by unfold FU; omega)
    have e : pr (tLev T) kl r = r :: prs (tLev T) kl (kl r) := pr_eq (Lk_at h.lk hr)
    have hr24 := J.2.1.2.1
    have hfl1 : fl 1 (pr (tLev T) kl r) = [r] ++ fl 1 (prs (tLev T) kl (kl r)) := by
      rw [e, fl_cons, if_pos hr24]
      rfl
    have hle := congrArg List.length hfl1
    rw [List.length_append] at hle
    have c1 := ovc_go O g1 (fun x2_23 x3_24 => some (x2_23)) (fl 1 (prs (tLev T) kl (kl r))) [r] FU hfl1 (by unfold FU; omega)
    have hz : rov (tCor T) (vl T l [r]) = 0 := by
      rw [vl_cons]
      by_cases hy : tLev T r = l
      · rw [if_pos hy]
        rfl
      · rw [if_neg hy]
        rfl
    rw [hz] at c1
    rw [vl_fl h hin.1 (fun y hy => (pr_in h.lk r hr y hy).1)] at c1
    refine ⟨0 + rov (tCor T) (vl T l (pr (tLev T) kl r)), c', ?_, ?_⟩
    · rw [if_neg (by omega), bd1_p hq.2, gd_p hlr, if_neg (by omega), Int.zero_add]
      exact c1
    · rw [if_pos hin, bd1_p rfl, gd_p ck_1, if_neg (by omega)]
      exact m1
  · refine ⟨-1, c, ?_, ?_⟩
    · by_cases hn : l < 0
      · rw [if_pos hn]
      · rw [if_neg hn, bd1_p hq.2, gd_p hlr, if_pos (by omega)]
    · rw [if_neg hin, bd1_p rfl, gd_p ck_0, if_pos rfl]
