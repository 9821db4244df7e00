/-! the law's check of the measures -/
theorem ca_rg {c d : Nat → Int} {x y : Nat} (h : rg c x) (g : rg d y) : 0 ≤ ca c x d y ∧ ca c x d y ≤ 10000 := by
  have r0 := h 0 (by omega)
  have r1 := h 1 (by omega)
  have r2 := h 2 (by omega)
  have r3 := h 3 (by omega)
  have s0 := g 0 (by omega)
  have s1 := g 1 (by omega)
  have s2 := g 2 (by omega)
  have s3 := g 3 (by omega)
  unfold ca
  split
  · split
    · rename_i h1 h2
      have h3 := Int.mul_pos h1 h2
      have := mul_rg (n := 100) (m := 100) (a := min (c (4 * x + 2)) (d (4 * y + 2)) - max (c (4 * x + 0)) (d (4 * y + 0)) + 1) (b := min (c (4 * x + 3)) (d (4 * y + 3)) - max (c (4 * x + 1)) (d (4 * y + 1)) + 1) (by omega) (by omega)
      omega
    · omega
  · omega
theorem ca_self {c : Nat → Int} {x : Nat} (h : od c x) : ca c x c x = ar c x := by
  unfold od at h
  unfold ca ar
  rw [show 4 * x + 0 = 4 * x from rfl, Int.min_self, Int.max_self, Int.min_self, Int.max_self, if_pos (by omega), if_pos (by omega)]
theorem cm_sp {T : TV} {K : KV} {kl : Nat → List Nat} {Q : List Nat} {r v x v' y : Nat} {s : Nat → Int} {A B A' B' : List Nat} (O : Nm T K kl Q r s) (P : Pa T kl r v x A B) (P' : Pa T kl r v' y A' B') (hx : kl x ≠ []) (hy : kl y ≠ []) : f_Lw_common T K (v : Int) (v' : Int) = some (ca (tCor T) x (tCor T) y) := by
  obtain ⟨J, h, hr, hrow, hR⟩ := O.parts
  have hxQ := (pl_in O P).1
  have hyQ := (pl_in O P').1
  have b0 : f_Rt_bound T K (v : Int) 0 = some (tCor T (4 * x + 0)) := (a_bound (t := 0) O P (by omega)).1 hx
  have b1 : f_Rt_bound T K (v : Int) 1 = some (tCor T (4 * x + 1)) := (a_bound (t := 1) O P (by omega)).1 hx
  have b2 : f_Rt_bound T K (v : Int) 2 = some (tCor T (4 * x + 2)) := (a_bound (t := 2) O P (by omega)).1 hx
  have b3 : f_Rt_bound T K (v : Int) 3 = some (tCor T (4 * x + 3)) := (a_bound (t := 3) O P (by omega)).1 hx
  have d0 : f_Rt_bound T K (v' : Int) 0 = some (tCor T (4 * y + 0)) := (a_bound (t := 0) O P' (by omega)).1 hy
  have d1 : f_Rt_bound T K (v' : Int) 1 = some (tCor T (4 * y + 1)) := (a_bound (t := 1) O P' (by omega)).1 hy
  have d2 : f_Rt_bound T K (v' : Int) 2 = some (tCor T (4 * y + 2)) := (a_bound (t := 2) O P' (by omega)).1 hy
  have d3 : f_Rt_bound T K (v' : Int) 3 = some (tCor T (4 * y + 3)) := (a_bound (t := 3) O P' (by omega)).1 hy
  have rx := h.rgx hxQ
  have ry := h.rgx hyQ
  have k0 := rg_ck (t := 0) rx (by omega)
  have k1 := rg_ck (t := 1) rx (by omega)
  have k2 := rg_ck (t := 2) rx (by omega)
  have k3 := rg_ck (t := 3) rx (by omega)
  have l0 := rg_ck (t := 0) ry (by omega)
  have l1 := rg_ck (t := 1) ry (by omega)
  have l2 := rg_ck (t := 2) ry (by omega)
  have l3 := rg_ck (t := 3) ry (by omega)
  have e0 : ∀ K9 : Int → Option Int, f_Lw_common_L0 T K (v : Int) (v' : Int) K9 FU 0 = K9 (max (tCor T (4 * x + 0)) (tCor T (4 * y + 0))) := fun K9 => by
    rw [show FU = 4095 + 1 from rfl, f_Lw_common_L0, bd1_p b0, bd1_p d0, gd_p k0, gd_p l0]
    by_cases q : tCor T (4 * y + 0) < tCor T (4 * x + 0)
    · rw [if_pos q, bd1_p b0]
      exact congrArg K9 (by omega)
    · rw [if_neg q, bd1_p d0]
      exact congrArg K9 (by omega)
  have e1 : ∀ K9 : Int → Option Int, f_Lw_common_L31 T K (v : Int) (v' : Int) K9 FU 0 = K9 (max (tCor T (4 * x + 1)) (tCor T (4 * y + 1))) := fun K9 => by
    rw [show FU = 4095 + 1 from rfl, f_Lw_common_L31, bd1_p b1, bd1_p d1, gd_p k1, gd_p l1]
    by_cases q : tCor T (4 * y + 1) < tCor T (4 * x + 1)
    · rw [if_pos q, bd1_p b1]
      exact congrArg K9 (by omega)
    · rw [if_neg q, bd1_p d1]
      exact congrArg K9 (by omega)
  have e2 : ∀ K9 : Int → Option Int, f_Lw_common_L63 T K (v : Int) (v' : Int) K9 FU 0 = K9 (min (tCor T (4 * x + 2)) (tCor T (4 * y + 2))) := fun K9 => by
    rw [show FU = 4095 + 1 from rfl, f_Lw_common_L63, bd1_p b2, bd1_p d2, gd_p k2, gd_p l2]
    by_cases q : tCor T (4 * x + 2) < tCor T (4 * y + 2)
    · rw [if_pos q, bd1_p b2]
      exact congrArg K9 (by omega)
    · rw [if_neg q, bd1_p d2]
      exact congrArg K9 (by omega)
  have e3 : ∀ K9 : Int → Option Int, f_Lw_common_L95 T K (v : Int) (v' : Int) K9 FU 0 = K9 (min (tCor T (4 * x + 3)) (tCor T (4 * y + 3))) := fun K9 => by
    rw [show FU = 4095 + 1 from rfl, f_Lw_common_L95, bd1_p b3, bd1_p d3, gd_p k3, gd_p l3]
    by_cases q : tCor T (4 * x + 3) < tCor T (4 * y + 3)
    · rw [if_pos q, bd1_p b3]
      exact congrArg K9 (by omega)
    · rw [if_neg q, bd1_p d3]
      exact congrArg K9 (by omega)
  have u0 : ck (max (tCor T (4 * x + 0)) (tCor T (4 * y + 0))) := ⟨by omega, by omega⟩
  have u1 : ck (max (tCor T (4 * x + 1)) (tCor T (4 * y + 1))) := ⟨by omega, by omega⟩
  have u2 : ck (min (tCor T (4 * x + 2)) (tCor T (4 * y + 2))) := ⟨by omega, by omega⟩
  have u3 : ck (min (tCor T (4 * x + 3)) (tCor T (4 * y + 3))) := ⟨by omega, by omega⟩
  unfold f_Lw_common ca
  rw [e0, e1, e2, e3]
  generalize max (tCor T (4 * x + 0)) (tCor T (4 * y + 0)) = w0 at u0 ⊢
  generalize max (tCor T (4 * x + 1)) (tCor T (4 * y + 1)) = w1 at u1 ⊢
  generalize min (tCor T (4 * x + 2)) (tCor T (4 * y + 2)) = w2 at u2 ⊢
  generalize min (tCor T (4 * x + 3)) (tCor T (4 * y + 3)) = w3 at u3 ⊢
  rw [gd_p u0, gd_p u2]
  by_cases q1 : w2 < w0
  · rw [if_pos q1, if_neg (show ¬ 0 < w2 - w0 + 1 by omega)]
  · rw [if_neg q1, if_pos (show 0 < w2 - w0 + 1 by omega), gd_p u1, gd_p u3]
    by_cases q2 : w3 < w1
    · rw [if_pos q2, if_neg (show ¬ 0 < w3 - w1 + 1 by omega)]
    · rw [if_neg q2, if_pos (show 0 < w3 - w1 + 1 by omega)]
theorem m2_go {T : TV} {K : KV} {kl : Nat → List Nat} {Q : List Nat} {r v x : Nat} {s : Nat → Int} {l : Int} {A B : List Nat} (O : Nm T K kl Q r s) (hlc : ck l) (hfull : 1 < (pr (tLev T) kl r).length) (P : Pa T kl r v x A B) (g : Int → Option Int) : ∀ (V U : List Nat) (n : Nat) (z : Int), nds T kl r = U ++ V → V.length < n → f_Lw_areMeasures_L72 T K ((nds T kl r).length : Int) l (v : Int) (fun a _ => g a) n z (U.length : Int) = g (z + if tLev T x = l then sov (tCor T) x (vl T l V) else 0)
  | [], U, n + 1, z, e, hn => by
    have hn2 := nds_len O
    rw [List.append_nil] at e
    rw [f_Lw_areMeasures_L72, ← e, gd_p ⟨by omega, by omega⟩, gd_p ⟨by omega, by omega⟩, if_neg (by omega)]
    refine congrArg g ?_
    split
    · show z = z + (0 : Int)
      omega
    · omega
  | y :: V, U, n + 1, z, e, hn => by
    obtain ⟨J, h, hr, hrow, hR⟩ := O.parts
    have hn2 := nds_len O
    have hle := congrArg List.length e
    rw [List.length_append, List.length_cons] at hle
    rw [List.length_cons] at hn
    obtain ⟨A', B', P'⟩ := pl_mid O e
    have hxQ := (pl_in O P).1
    have hyQ := (pl_in O P').1
    have e3 : nds T kl r = (U ++ [y]) ++ V := by rw [e]; simp
    have hl1 : (U ++ [y]).length = U.length + 1 := by rw [List.length_append, List.length_singleton]
    rw [f_Lw_areMeasures_L72, gd_p ⟨by omega, by omega⟩, gd_p ⟨by omega, by omega⟩, if_pos (by omega), bd1_p (a_level O P), gd_p (h.ckl hxQ), gd_p hlc]
    by_cases hx : tLev T x = l
    · have hcm := cm_sp O P P' (full_ne O hfull hxQ P.2.2.1) (full_ne O hfull hyQ P'.2.2.1)
      rw [if_pos hx, if_pos hx, show FU = 4095 + 1 from rfl, f_Lw_areMeasures_L88, bd1_p (a_level O P'), gd_p (h.ckl hyQ), gd_p hlc, vl_cons, show (U.length : Int) + 1 = ((U.length + 1 : Nat) : Int) by omega, ← hl1]
      by_cases hy : tLev T y = l
      · rw [if_pos hy, if_pos hy, bd1_p hcm, m2_go O hlc hfull P g V (U ++ [y]) n _ e3 (by omega), if_pos hx]
        refine congrArg g ?_
        show _ = z + (ca (tCor T) x (tCor T) y + sov (tCor T) x (vl T l V))
        omega
      · rw [if_neg hy, if_neg hy, m2_go O hlc hfull P g V (U ++ [y]) n _ e3 (by omega), if_pos hx, Int.add_zero]
    · rw [if_neg hx, if_neg hx, Int.add_zero]
theorem m1_go {T : TV} {K : KV} {kl : Nat → List Nat} {Q : List Nat} {r : Nat} {s : Nat → Int} {l : Int} (O : Nm T K kl Q r s) (hlc : ck l) (hfull : 1 < (pr (tLev T) kl r).length) (k : Int → Int → Int → Option Int) : ∀ (V U : List Nat) (n : Nat) (z1 z2 : Int), nds T kl r = U ++ V → V.length < n → f_Lw_areMeasures_L35 T K ((nds T kl r).length : Int) l k n z1 z2 (U.length : Int) = k (z1 + sar T l V) (z2 + rov (tCor T) (vl T l V)) ((nds T kl r).length : Int)
  | [], U, n + 1, z1, z2, e, hn => by
    have hn2 := nds_len O
    rw [List.append_nil] at e
    rw [f_Lw_areMeasures_L35, ← e, gd_p ⟨by omega, by omega⟩, gd_p ⟨by omega, by omega⟩, if_neg (by omega)]
    have h1 : z1 = z1 + sar T l [] := by show z1 = z1 + (0 : Int); omega
    have h2 : z2 = z2 + rov (tCor T) (vl T l []) := by show z2 = z2 + (0 : Int); omega
    rw [← h1, ← h2]
  | x :: V, U, n + 1, z1, z2, e, hn => by
    obtain ⟨J, h, hr, hrow, hR⟩ := O.parts
    have hn2 := nds_len O
    have hle := congrArg List.length e
    rw [List.length_append, List.length_cons] at hle
    rw [List.length_cons] at hn
    obtain ⟨A, B, P⟩ := pl_mid O e
    have hxQ := (pl_in O P).1
    have hne := full_ne O hfull hxQ P.2.2.1
    have e3 : nds T kl r = (U ++ [x]) ++ V := by rw [e]; simp
    have hl1 : (U ++ [x]).length = U.length + 1 := by rw [List.length_append, List.length_singleton]
    have hs : sar T l (x :: V) = (if tLev T x = l then ar (tCor T) x else 0) + sar T l V := rfl
    have hr0 : rov (tCor T) (vl T l (x :: V)) = (if tLev T x = l then sov (tCor T) x (vl T l V) else 0) + rov (tCor T) (vl T l V) := by
      rw [vl_cons]
      by_cases hx : tLev T x = l
      · rw [if_pos hx, if_pos hx]
        rfl
      · rw [if_neg hx, if_neg hx, Int.zero_add]
    have hself : f_Lw_common T K (U.length : Int) (U.length : Int) = some (ar (tCor T) x) := by
      rw [cm_sp O P P hne hne, ca_self (od_sp O hxQ (fun _ => hne))]
    have h41 : ∀ K9 : Int → Option Int, f_Lw_areMeasures_L41 T K l (U.length : Int) K9 FU z1 = K9 (z1 + if tLev T x = l then ar (tCor T) x else 0) := fun K9 => by
      rw [show FU = 4095 + 1 from rfl, f_Lw_areMeasures_L41, bd1_p (a_level O P), gd_p (h.ckl hxQ), gd_p hlc]
      by_cases hx : tLev T x = l
      · rw [if_pos hx, if_pos hx, bd1_p hself]
      · rw [if_neg hx, if_neg hx]
    rw [f_Lw_areMeasures_L35, gd_p ⟨by omega, by omega⟩, gd_p ⟨by omega, by omega⟩, if_pos (by omega), h41, show (U.length : Int) + 1 = ((U.length + 1 : Nat) : Int) by omega, ← hl1, m2_go O hlc hfull P _ V (U ++ [x]) FU z2 e3 (by unfold FU; omega), m1_go O hlc hfull k V (U ++ [x]) n _ _ e3 (by omega), hs, hr0, Int.add_assoc, Int.add_assoc]
theorem sar_bd {T : TV} {l : Int} : ∀ {L : List Nat}, (∀ y ∈ L, rg (tCor T) y) → -(10000 * (L.length : Int)) ≤ sar T l L ∧ sar T l L ≤ 10000 * (L.length : Int)
  | [], _ => by
    show -(10000 * (0 : Int)) ≤ 0 ∧ (0 : Int) ≤ 10000 * (0 : Int)
    omega
  | y :: L, h => by
    have ih := sar_bd (T := T) (l := l) (L := L) (fun z hz => h z (List.mem_cons_of_mem _ hz))
    have ha := ar_rg (h y List.mem_cons_self)
    have hs : sar T l (y :: L) = (if tLev T y = l then ar (tCor T) y else 0) + sar T l L := rfl
    rw [hs, List.length_cons]
    split <;> omega
theorem sov_bd {c : Nat → Int} {v : Nat} (hv : rg c v) : ∀ {L : List Nat}, (∀ y ∈ L, rg c y) → 0 ≤ sov c v L ∧ sov c v L ≤ 10000 * (L.length : Int)
  | [], _ => by
    show 0 ≤ (0 : Int) ∧ (0 : Int) ≤ 10000 * (0 : Int)
    omega
  | y :: L, h => by
    have ih := sov_bd hv (L := L) (fun z hz => h z (List.mem_cons_of_mem _ hz))
    have ha := ca_rg hv (h y List.mem_cons_self)
    have hs : sov c v (y :: L) = ca c v c y + sov c v L := rfl
    rw [hs, List.length_cons]
    omega
theorem rov_bd {c : Nat → Int} : ∀ {L : List Nat}, L.length ≤ 360 → (∀ y ∈ L, rg c y) → 0 ≤ rov c L ∧ rov c L ≤ 3600000 * (L.length : Int)
  | [], _, _ => by
    show 0 ≤ (0 : Int) ∧ (0 : Int) ≤ 3600000 * (0 : Int)
    omega
  | y :: L, hl, h => by
    rw [List.length_cons] at hl
    have ih := rov_bd (L := L) (by omega) (fun z hz => h z (List.mem_cons_of_mem _ hz))
    have ha := sov_bd (h y List.mem_cons_self) (L := L) (fun z hz => h z (List.mem_cons_of_mem _ hz))
    have hs : rov c (y :: L) = sov c y L + rov c L := rfl
    rw [hs, List.length_cons]
    omega
theorem a_area_full {T : TV} {K : KV} {kl : Nat → List Nat} {Q : List Nat} {r : Nat} {s : Nat → Int} {l : Int} (O : Nm T K kl Q r s) (hl : 0 ≤ l ∧ l ≤ tLev T r) (hlc : ck l) (hfull : 1 < (pr (tLev T) kl r).length) : f_Rt_area T K l = some (0 + sar T l (nds T kl r)) := by
  obtain ⟨J, h, hr, hrow, hR⟩ := O.parts
  have hn := nds_len O
  unfold f_Rt_area
  rw [gd_p hlc, if_neg (by omega), bd1_p (a_height O), gd_p (h.ckl hr), if_neg (by omega)]
  exact arc_go O hfull hlc (fun x2_28 x3_29 => some (x2_28)) (nds T kl r) [] FU 0 rfl (by unfold FU; omega)
theorem a_area_lone {T : TV} {K : KV} {kl : Nat → List Nat} {Q : List Nat} {r : Nat} {s : Nat → Int} {l : Int} (O : Nm T K kl Q r s) (hl : 0 ≤ l ∧ l ≤ tLev T r) (hlc : ck l) (h1 : ¬ 1 < (pr (tLev T) kl r).length) : f_Rt_area T K l = some 0 := by
  obtain ⟨J, h, hr, hrow, hR⟩ := O.parts
  obtain ⟨e1, e2, e3⟩ := lone O h1
  have hw := w_node O (U := []) (V := []) (y := r) e3
  have hc := O.2.1.1
  rw [e3] at hc
  have hc : kCnt K = 1 := hc
  have hsz := h.siz hr
  rw [e2] at hsz
  have hlr := h.ckl hr
  have hnode : f_Rt_nodeAt K 0 = some (r : Int) := hw.2.2.1
  unfold f_Rt_area
  rw [gd_p hlc, if_neg (by omega), bd1_p (a_height O), gd_p hlr, if_neg (by omega), show FU = 4094 + 1 + 1 from rfl, f_Rt_area_L18, hc, gd_p ck_0, gd_p ck_1, if_pos (by omega), bd1_p hnode, bd1_p (t_lev hR (h.lt hr)), gd_p hlr, gd_p hlc]
  have hend : ∀ z, f_Rt_area_L18 T K l (fun x2_28 x3_29 => some (x2_28)) (4094 + 1) z (0 + 1) = some z := fun z => by
    rw [f_Rt_area_L18, hc, gd_p ⟨by omega, by omega⟩, gd_p ck_1, if_neg (by omega)]
  by_cases hy : tLev T r = l
  · rw [if_pos hy, bd1_p (t_siz hR (h.lt hr)), hsz.1, gd_p ⟨by decide, by decide⟩, if_neg (by decide)]
    exact hend 0
  · rw [if_neg hy]
    exact hend 0
theorem a_area_no {T : TV} {K : KV} {kl : Nat → List Nat} {Q : List Nat} {r : Nat} {s : Nat → Int} {l : Int} (O : Nm T K kl Q r s) (hl : l < 0 ∨ tLev T r < l) (hlc : ck l) : f_Rt_area T K l = some (-1) := by
  have h := O.parts.2.1
  have hr := O.parts.2.2.1
  unfold f_Rt_area
  rw [gd_p hlc]
  by_cases h0 : l < 0
  · rw [if_pos h0]
  · rw [if_neg h0, bd1_p (a_height O), gd_p (h.ckl hr), if_pos (by omega)]
theorem a_over {T : TV} {K : KV} {kl : Nat → List Nat} {Q : List Nat} {r : Nat} {s : Nat → Int} {l : Int} (O : Nm T K kl Q r s) (hl : 0 ≤ l ∧ l ≤ tLev T r) (hlc : ck l) : f_Rt_overlap T K l = some (rov (tCor T) (vl T l (nds T kl r))) := by
  obtain ⟨J, h, hr, hrow, hR⟩ := O.parts
  have hn := nds_len O
  have hfl1 : nds T kl r = [r] ++ fl 1 (prs (tLev T) kl (kl r)) := by
    show fl 1 (pr (tLev T) kl r) = _
    rw [pr_eq (Lk_at h.lk hr), fl_cons, if_pos J.2.1.2.1]
    rfl
  have hle := congrArg List.length hfl1
  rw [List.length_append] at hle
  have c1 := ovc_go O hlc (fun x2_23 x3_24 => some (x2_23)) (fl 1 (prs (tLev T) kl (kl r))) [r] FU hfl1 (by unfold FU; omega)
  have hz : rov (tCor T) (vl T l [r]) = 0 := by
    rw [vl_cons]
    by_cases hy : tLev T r = l
    · rw [if_pos hy]
      rfl
    · rw [if_neg hy]
      rfl
  rw [hz] at c1
  unfold f_Rt_overlap
  rw [gd_p hlc, if_neg (by omega), bd1_p (a_height O), gd_p (h.ckl hr), if_neg (by omega)]
  exact c1
theorem a_over_no {T : TV} {K : KV} {kl : Nat → List Nat} {Q : List Nat} {r : Nat} {s : Nat → Int} {l : Int} (O : Nm T K kl Q r s) (hl : l < 0 ∨ tLev T r < l) (hlc : ck l) : f_Rt_overlap T K l = some (-1) := by
  have h := O.parts.2.1
  have hr := O.parts.2.2.1
  unfold f_Rt_overlap
  rw [gd_p hlc]
  by_cases h0 : l < 0
  · rw [if_pos h0]
  · rw [if_neg h0, bd1_p (a_height O), gd_p (h.ckl hr), if_pos (by omega)]
theorem m0_go {T : TV} {K : KV} {kl : Nat → List Nat} {Q : List Nat} {r : Nat} {s : Nat → Int} {N : Int} (O : Nm T K kl Q r s) (hA : ∀ l : Int, 0 ≤ l → l ≤ tLev T r → ∃ S R : Int, ck S ∧ ck R ∧ f_Rt_area T K l = some S ∧ f_Rt_overlap T K l = some R ∧ ∀ KK : Int → Int → Int → Option Int, ∃ z : Int, f_Lw_areMeasures_L35 T K N l KK FU 0 0 0 = KK S R z) (k : Int → Option Int) : ∀ (d n : Nat) (l : Int), 0 ≤ l → l + (d : Int) = tLev T r + 1 → d < n → f_Lw_areMeasures_L19 T K N k n l = k (tLev T r + 1)
  | 0, n + 1, l, h0, hl, hn => by
    have h := O.parts.2.1
    have hr := O.parts.2.2.1
    have hb := O.1.1.1.2.2.1.rl
    rw [f_Lw_areMeasures_L19, bd1_p (a_height O), gd_p ⟨by omega, by omega⟩, gd_p (h.ckl hr), if_pos (by omega)]
    exact congrArg k (by omega)
  | d + 1, n + 1, l, h0, hl, hn => by
    have h := O.parts.2.1
    have hr := O.parts.2.2.1
    have hb := O.1.1.1.2.2.1.rl
    obtain ⟨S, R, s1, s2, s3, s4, s5⟩ := hA l h0 (by omega)
    obtain ⟨z, s6⟩ := s5 (fun x3_50 x4_51 x5_52 => bd1 (f_Rt_area T K l) <| fun r_53 => gd (ck r_53) <| gd (ck x3_50) <| if r_53 = x3_50 then (bd1 (f_Rt_overlap T K l) <| fun r_59 => gd (ck r_59) <| gd (ck x4_51) <| if r_59 = x4_51 then (f_Lw_areMeasures_L19 T K N k n ((l + 1))) else (some (0))) else (some (0)))
    rw [f_Lw_areMeasures_L19, bd1_p (a_height O), gd_p ⟨by omega, by omega⟩, gd_p (h.ckl hr), if_neg (by omega), s6, bd1_p s3, gd_p s1, gd_p s1, if_pos rfl, bd1_p s4, gd_p s2, gd_p s2, if_pos rfl]
    exact m0_go O hA k d n (l + 1) (by omega) (by omega) (by omega)
theorem a_meas {T : TV} {K : KV} {kl : Nat → List Nat} {Q : List Nat} {r : Nat} {s : Nat → Int} (O : Nm T K kl Q r s) : f_Lw_areMeasures T K = some 1 := by
  obtain ⟨J, h, hr, hrow, hR⟩ := O.parts
  have hn := nds_len O
  have hb := O.1.1.1.2.2.1.rl
  have P0 := pl_root O
  have hsz := h.siz hr
  have hent : f_Rt_entries T K 0 = some ((kl r).length : Int) := a_entries O P0
  have hlc : ∀ l : Int, 0 ≤ l → l ≤ tLev T r → ck l := fun l h1 h2 => ⟨by omega, by omega⟩
  have hall : ∀ y ∈ nds T kl r, rg (tCor T) y := fun y hy => h.rgx (pr_in h.lk r hr y (fl_mem.mp hy).1).1
  have hvl : ∀ l : Int, (vl T l (nds T kl r)).length ≤ (nds T kl r).length := fun l => List.length_filter_le _ _
  have hrov : ∀ l : Int, ck (rov (tCor T) (vl T l (nds T kl r))) := fun l => by
    have h1 := rov_bd (c := tCor T) (L := vl T l (nds T kl r)) (by have := hvl l; omega) (fun y hy => hall y (List.mem_filter.mp hy).1)
    have h2 := hvl l
    exact ⟨by omega, by omega⟩
  have hfin : ∀ N : Int, (∀ l : Int, 0 ≤ l → l ≤ tLev T r → ∃ S R : Int, ck S ∧ ck R ∧ f_Rt_area T K l = some S ∧ f_Rt_overlap T K l = some R ∧ ∀ KK : Int → Int → Int → Option Int, ∃ z : Int, f_Lw_areMeasures_L35 T K N l KK FU 0 0 0 = KK S R z) → f_Lw_areMeasures_L19 T K N (fun x2_65 => bd1 (f_Rt_area T K (-1)) <| fun r_66 => gd (ck r_66) <| if r_66 = (-1) then (bd1 (f_Rt_height T) <| fun r_71 => bd1 (f_Rt_overlap T K (r_71 + 1)) <| fun r_74 => gd (ck r_74) <| if r_74 = (-1) then (bd1 (f_Rt_height T) <| fun r_79 => bd1 (f_Rt_area T K (r_79 + 1)) <| fun r_82 => gd (ck r_82) <| if r_82 = (-1) then (some (1)) else (some (0))) else (some (0))) else (some (0))) FU 0 = some 1 := fun N hA => by
    have km : ck (-1 : Int) := ⟨by omega, by omega⟩
    have kh : ck (tLev T r + 1) := ⟨by omega, by omega⟩
    refine Eq.trans (m0_go O hA _ (tLev T r + 1).toNat FU 0 (by omega) (by omega) (by unfold FU; omega)) ?_
    rw [bd1_p (a_area_no O (Or.inl (by omega)) km), gd_p km, if_pos rfl, bd1_p (a_height O), bd1_p (a_over_no O (Or.inr (by omega)) kh), gd_p km, if_pos rfl, bd1_p (a_height O), bd1_p (a_area_no O (Or.inr (by omega)) kh), gd_p km, if_pos rfl]
  unfold f_Lw_areMeasures
  rw [show FU = 4095 + 1 from rfl, f_Lw_areMeasures_L0, bd1_p hent, gd_p ⟨by omega, by omega⟩]
  by_cases hk : kl r = []
  · have h1 : ¬ 1 < (pr (tLev T) kl r).length := by
      rw [pr_eq (Lk_at h.lk hr), hk, prs_nil]
      simp
    rw [hk, if_neg (by decide)]
    refine hfin 0 (fun l h2 h3 => ⟨0, rov (tCor T) (vl T l (nds T kl r)), ck_0, hrov l, a_area_lone O ⟨h2, h3⟩ (hlc l h2 h3) h1, a_over O ⟨h2, h3⟩ (hlc l h2 h3), fun KK => ⟨0, ?_⟩⟩)
    have hz : rov (tCor T) (vl T l (nds T kl r)) = 0 := by
      have e : nds T kl r = [r] := (lone O h1).2.2
      rw [e, vl_cons]
      by_cases hy : tLev T r = l
      · rw [if_pos hy]
        rfl
      · rw [if_neg hy]
        rfl
    rw [hz, show FU = 4095 + 1 from rfl, f_Lw_areMeasures_L35, gd_p ck_0, gd_p ck_0, if_neg (by omega)]
  · have hpos : 0 < (kl r).length := List.length_pos_iff.mpr hk
    have hfull : 1 < (pr (tLev T) kl r).length := by
      rcases Nat.lt_or_ge 1 (pr (tLev T) kl r).length with q | q
      · exact q
      · exact absurd (lone O (by omega)).2.1 hk
    rw [if_pos (by omega), bd1_p (a_nodes O)]
    refine hfin ((nds T kl r).length : Int) (fun l h2 h3 => ⟨0 + sar T l (nds T kl r), rov (tCor T) (vl T l (nds T kl r)), ?_, hrov l, a_area_full O ⟨h2, h3⟩ (hlc l h2 h3) hfull, a_over O ⟨h2, h3⟩ (hlc l h2 h3), fun KK => ⟨((nds T kl r).length : Int), ?_⟩⟩)
    · have := sar_bd (T := T) (l := l) hall
      exact ⟨by omega, by omega⟩
    · have hg := m1_go O (hlc l h2 h3) hfull KK (nds T kl r) [] FU 0 0 rfl (by unfold FU; omega)
      rw [Int.zero_add (rov _ _)] at hg
      exact hg
