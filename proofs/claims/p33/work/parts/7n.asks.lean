/-! the asking methods, a node or a box at a time -/
theorem ck_1 : ck (1 : Int) := ⟨by omega, by omega⟩
theorem num_drop {P A M : List Nat} (e : P = A ++ M) : P.drop A.length = M := by rw [e]; exact drop_here A M
theorem Nm.parts {T : TV} {K : KV} {kl : Nat → List Nat} {Q : List Nat} {r : Nat} {s : Nat → Int} (O : Nm T K kl Q r s) : Jn T kl Q r s ∧ Ar T kl Q ∧ r ∈ Q ∧ Row s (tLev T) (pr (tLev T) kl r) ∧ tR T ≤ 8192 := ⟨O.1.1.1.1, O.1.1.1.1.1, O.1.1.1.1.2.1.1, O.1.1.1.1.2.2.1, by have := O.1.1.1.1.1.1.2; omega⟩
theorem q_nodes {T : TV} {K : KV} {kl : Nat → List Nat} {Q : List Nat} {r : Nat} {s : Nat → Int} (O : Nm T K kl Q r s) : ∃ r_1, f_Rt_nodes K = some r_1 ∧ f_Mo_nodes s = some r_1 := by
  obtain ⟨J, h, hr, hrow, hR⟩ := O.parts
  refine ⟨_, rfl, ?_⟩
  unfold f_Mo_nodes f_Mo_length
  rw [bd1_p rfl, hrow.1, bd1_p (nah_sp hrow (Nat.le_refl _)), List.take_length, O.2.1.1]
theorem q_head {T : TV} {K : KV} {kl : Nat → List Nat} {Q : List Nat} {r : Nat} {s : Nat → Int} (O : Nm T K kl Q r s) : f_Mo_levelAt s 0 = some (tLev T r) ∧ f_Rt_height T = some (tLev T r) := by
  obtain ⟨J, h, hr, hrow, hR⟩ := O.parts
  have hx : (pr (tLev T) kl r)[0]? = some r := by rw [pr_eq (Lk_at h.lk hr)]; rfl
  refine ⟨row_lev (k := 0) hrow hx, ?_⟩
  unfold f_Rt_height
  rw [J.2.1.2.2.1, bd1_p (t_lev hR (h.lt hr))]
theorem q_height {T : TV} {K : KV} {kl : Nat → List Nat} {Q : List Nat} {r : Nat} {s : Nat → Int} (O : Nm T K kl Q r s) : ∃ r_1, f_Rt_height T = some r_1 ∧ f_Mo_height s = some r_1 := by
  refine ⟨_, (q_head O).2, ?_⟩
  unfold f_Mo_height
  rw [bd1_p (q_head O).1]
theorem q_level {T : TV} {K : KV} {kl : Nat → List Nat} {Q : List Nat} {r : Nat} {s : Nat → Int} {x1 : Int} (O : Nm T K kl Q r s) (g1 : ck x1) : ∃ r_1, f_Rt_level T K x1 = some r_1 ∧ f_Mo_level s x1 = some r_1 := by
  obtain ⟨J, h, hr, hrow, hR⟩ := O.parts
  unfold f_Rt_level f_Mo_level
  rcases num_cases O g1 with ⟨e1, e2⟩ | ⟨A, w, B, e, hst, h24, hw, hx, e1, e2, e3⟩
  · exact ⟨-1, by rw [bd1_p e1, gd_p ck_0, if_pos rfl], by rw [bd1_p e2, gd_p ⟨by omega, by omega⟩, if_pos (by omega)]⟩
  · have hl := hrow.2.1
    have hle := congrArg List.length e
    rw [List.length_append] at hle
    have hpw := (drop_pr h.lk hw (num_drop e)).1
    refine ⟨tLev T w, ?_, ?_⟩
    · rw [bd1_p e1, gd_p ⟨by omega, by omega⟩, if_neg (by omega), bd1_p e2, bd1_p (t_lev hR (h.lt hw))]
    · rw [bd1_p e3, gd_p ⟨by omega, by omega⟩, if_neg (by omega), bd1_p (row_lev hrow hpw)]
theorem q_entries {T : TV} {K : KV} {kl : Nat → List Nat} {Q : List Nat} {r : Nat} {s : Nat → Int} {x1 : Int} (O : Nm T K kl Q r s) (g1 : ck x1) : ∃ r_1, f_Rt_entries T K x1 = some r_1 ∧ f_Mo_entries s x1 = some r_1 := by
  obtain ⟨J, h, hr, hrow, hR⟩ := O.parts
  unfold f_Rt_entries f_Mo_entries
  rcases num_cases O g1 with ⟨e1, e2⟩ | ⟨A, w, B, e, hst, h24, hw, hx, e1, e2, e3⟩
  · exact ⟨-1, by rw [bd1_p e1, gd_p ck_0, if_pos rfl], by rw [bd1_p e2, gd_p ⟨by omega, by omega⟩, if_pos (by omega)]⟩
  · have hl := hrow.2.1
    have hle := congrArg List.length e
    rw [List.length_append] at hle
    refine ⟨((kl w).length : Int), ?_, ?_⟩
    · rw [bd1_p e1, gd_p ⟨by omega, by omega⟩, if_neg (by omega), bd1_p e2, bd1_p (t_siz hR (h.lt hw)), (h.siz hw).1]
    · rw [bd1_p e3, gd_p ⟨by omega, by omega⟩, if_neg (by omega), bd1_p (entries_at hrow h.lk hw (num_drop e) hst)]
theorem en_go {s lv : Nat → Int} {kl : Nat → List Nat} {Q P A B : List Nat} {w j : Nat} (h : Row s lv P) (hk : Lk lv kl Q) (hw : w ∈ Q) (e : P = A ++ (pr lv kl w ++ B)) (hB : stops lv (lv w) B) (hj : j ≤ (kl w).length) (hj2 : j ≤ 1000) (k : Int → Int → Option Int) : ∀ (d i n : Nat), i + d = j → d < n → f_Mo_entry_L35 s (j : Int) k n ((A.length + 1 + (prs lv kl ((kl w).take i)).length : Nat) : Int) (i : Int) = k ((A.length + 1 + (prs lv kl ((kl w).take j)).length : Nat) : Int) (j : Int)
  | 0, i, n + 1, hi, hn => by
    have hij : i = j := by omega
    subst hij
    rw [f_Mo_entry_L35, gd_p ⟨by omega, by omega⟩, gd_p ⟨by omega, by omega⟩, if_neg (by omega)]
  | d + 1, i, n + 1, hi, hn => by
    obtain ⟨y, hy⟩ : ∃ y, (kl w)[i]? = some y := ⟨(kl w)[i], List.getElem?_eq_getElem (by omega)⟩
    have hyk := List.mem_of_getElem? hy
    have hyQ := Lk_kid hk hw hyk
    have hsp : kl w = (kl w).take i ++ y :: (kl w).drop (i + 1) := by
      have h1 := (List.take_append_drop i (kl w)).symm
      rw [List.drop_eq_getElem_cons (by omega), (List.getElem?_eq_some_iff.mp hy).2] at h1
      exact h1
    have ht : (kl w).take (i + 1) = (kl w).take i ++ [y] := by rw [List.take_add_one, hy]; rfl
    have hd : P.drop (A.length + 1 + (prs lv kl ((kl w).take i)).length) = pr lv kl y ++ (prs lv kl ((kl w).drop (i + 1)) ++ B) := by
      have h1 : P = (A ++ w :: prs lv kl ((kl w).take i)) ++ (pr lv kl y ++ (prs lv kl ((kl w).drop (i + 1)) ++ B)) := by
        rw [e, pr_eq (Lk_at hk hw)]
        conv => lhs; rw [hsp, prs_app, prs_cons]
        simp
      have h2 : (A ++ w :: prs lv kl ((kl w).take i)).length = A.length + 1 + (prs lv kl ((kl w).take i)).length := by
        rw [List.length_append, List.length_cons]
        omega
      rw [h1, ← h2]
      exact drop_here _ _
    have hstop : stops lv (lv y) (prs lv kl ((kl w).drop (i + 1)) ++ B) := stops_kids hk (fun z hz => by
      have hz2 := Lk_kid hk hw (List.mem_of_mem_drop hz)
      exact ⟨hz2.1, by omega⟩) (by rw [show lv y + 1 = lv w by omega]; exact hB)
    rw [f_Mo_entry_L35, gd_p ⟨by omega, by omega⟩, gd_p ⟨by omega, by omega⟩, if_pos (by omega), bd1_p (end_pr h hk hyQ.1 hd hstop), show (i : Int) + 1 = ((i + 1 : Nat) : Int) by omega]
    have hpos : A.length + 1 + (prs lv kl ((kl w).take i)).length + (pr lv kl y).length = A.length + 1 + (prs lv kl ((kl w).take (i + 1))).length := by
      rw [ht, prs_app, List.length_append, prs_cons, prs_nil, List.append_nil]
      omega
    rw [hpos]
    exact en_go h hk hw e hB hj hj2 k d (i + 1) n (by omega) (by omega)
theorem q_entry {T : TV} {K : KV} {kl : Nat → List Nat} {Q : List Nat} {r : Nat} {s : Nat → Int} {x1 x2 : Int} (O : Nm T K kl Q r s) (g1 : ck x1) (g2 : ck x2) : ∃ r_1, f_Rt_entry T K x1 x2 = some r_1 ∧ f_Mo_entry s x1 x2 = some r_1 := by
  obtain ⟨J, h, hr, hrow, hR⟩ := O.parts
  have hlk := h.lk
  unfold f_Rt_entry f_Mo_entry
  rcases num_cases O g1 with ⟨e1, e2⟩ | ⟨A, w, B, e, hst, h24, hw, hx, e1, e2, e3⟩
  · exact ⟨-1, by rw [bd1_p e1, gd_p ck_0, if_pos rfl], by rw [bd1_p e2, gd_p ⟨by omega, by omega⟩, if_pos (by omega)]⟩
  · have hl := hrow.2.1
    have hle := congrArg List.length e
    rw [List.length_append] at hle
    have hsz := h.siz hw
    have hent := entries_at hrow hlk hw (num_drop e) hst
    rw [bd1_p e1, gd_p ⟨by omega, by omega⟩, if_neg (by omega), bd1_p e2, gd_p g2, bd1_p e3, gd_p ⟨by omega, by omega⟩, if_neg (show ¬ (A.length : Int) < 0 by omega), bd1_p hent, bd1_p (in_sp g2 ck_0 ⟨by omega, by omega⟩)]
    by_cases hin : 0 ≤ x2 ∧ x2 ≤ ((kl w).length : Int) - 1
    · obtain ⟨j, rfl⟩ : ∃ j : Nat, x2 = (j : Int) := ⟨x2.toNat, by omega⟩
      rw [if_pos hin, if_neg (show ¬ (j : Int) < 0 by omega), bd1_p (t_siz hR (h.lt hw)), hsz.1, gd_p ⟨by omega, by omega⟩, if_pos (show (j : Int) < ((kl w).length : Int) by omega), gd_p ck_1, if_neg (show ¬ (1 : Int) = 0 by omega)]
      obtain ⟨y, hy⟩ : ∃ y, (kl w)[j]? = some y := ⟨(kl w)[j], List.getElem?_eq_getElem (by omega)⟩
      have hyk := List.mem_of_getElem? hy
      have hyQ := (h.kid hw hyk).1
      have hylt := h.lt hyQ
      have hyok := h.oki hyQ
      have hgo := en_go hrow hlk hw e hst (show j ≤ (kl w).length by omega) (by omega) (fun x4_20 x5_21 => bd1 (f_Mo_at s x4_20) <| fun r_22 => gd (ck r_22) <| if r_22 < 0 then (bd1 (f_Mo_nodesAhead s x4_20) <| fun r_27 => some (r_27)) else (bd1 (f_Mo_at s x4_20) <| fun r_30 => some (r_30))) j 0 FU (Nat.zero_add j) (by unfold FU; omega)
      have hsp : kl w = (kl w).take j ++ y :: (kl w).drop (j + 1) := by
        have h1 := (List.take_append_drop j (kl w)).symm
        rw [List.drop_eq_getElem_cons (by omega), (List.getElem?_eq_some_iff.mp hy).2] at h1
        exact h1
      have h1 : pr (tLev T) kl r = (A ++ w :: prs (tLev T) kl ((kl w).take j)) ++ y :: (prs (tLev T) kl (kl y) ++ (prs (tLev T) kl ((kl w).drop (j + 1)) ++ B)) := by
        rw [e, pr_eq (Lk_at hlk hw)]
        conv => lhs; rw [hsp, prs_app, prs_cons, pr_eq (Lk_at hlk hyQ)]
        simp
      have h2 : (A ++ w :: prs (tLev T) kl ((kl w).take j)).length = A.length + 1 + (prs (tLev T) kl ((kl w).take j)).length := by
        rw [List.length_append, List.length_cons]
        omega
      have hlh := congrArg List.length h1
      rw [List.length_append] at hlh
      rw [← h2] at hgo
      have hat : (pr (tLev T) kl r)[(A ++ w :: prs (tLev T) kl ((kl w).take j)).length]? = some y := by
        rw [h1, List.getElem?_append_right (Nat.le_refl _), Nat.sub_self]
        rfl
      have hz : ((A.length + 1 + (prs (tLev T) kl ((kl w).take 0)).length : Nat) : Int) = (A.length : Int) + 1 := by
        rw [List.take_zero, prs_nil]
        rfl
      rw [hz] at hgo
      have hgo : f_Mo_entry_L35 s (j : Int) (fun x4_20 x5_21 => bd1 (f_Mo_at s x4_20) <| fun r_22 => gd (ck r_22) <| if r_22 < 0 then (bd1 (f_Mo_nodesAhead s x4_20) <| fun r_27 => some (r_27)) else (bd1 (f_Mo_at s x4_20) <| fun r_30 => some (r_30))) FU ((A.length : Int) + 1) 0 = _ := hgo
      rw [hgo, bd1_p (h.ent hw hy), gd_p ⟨by omega, by omega⟩, bd1_p (row_at hrow hat), gd_p (okI_ck hyok).1]
      by_cases hy24 : y < 24
      · refine ⟨(y : Int), by rw [if_pos (by omega)], ?_⟩
        rw [if_neg (fun q => by have := (okI_ck hyok).2.2.mp q; omega), bd1_p (row_at hrow hat)]
        unfold sg
        rw [if_pos hy24]
      · refine ⟨_, by rw [if_neg (by omega), bd1_p (wpl_sp O h1 (by omega))], ?_⟩
        rw [if_pos ((okI_ck hyok).2.2.mpr (by omega)), bd1_p (nah_sp hrow (by omega)), h1, List.take_append_of_le_length (Nat.le_refl _), List.take_length]
    · rw [if_neg hin, gd_p ck_0, if_pos (show (0 : Int) = 0 from rfl)]
      refine ⟨-1, ?_, rfl⟩
      by_cases hn : x2 < 0
      · rw [if_pos hn]
      · rw [if_neg hn, bd1_p (t_siz hR (h.lt hw)), hsz.1, gd_p ⟨by omega, by omega⟩, if_neg (by omega)]
/-- the bound of the node at a place -/
theorem bat_sp {T : TV} {K : KV} {kl : Nat → List Nat} {Q : List Nat} {r : Nat} {s c : Nat → Int} (O : Nm T K kl Q r s) {A B : List Nat} {w i : Nat} (e : pr (tLev T) kl r = A ++ (pr (tLev T) kl w ++ B)) (hst : stops (tLev T) (tLev T w) B) (hw : w ∈ Q) (hne : 24 ≤ w → kl w ≠ []) (hi : i < 12) : ∃ c', f_Mo_boundsAt s c (A.length : Int) (i : Int) = some c' ∧ eqb c' i (tCor T) w ∧ oth i c c' := by
  obtain ⟨J, h, hr, hrow, hR⟩ := O.parts
  have hb := J.box w hw hne
  obtain ⟨c', e1, e2, e3⟩ := boundsAt_sp (c := c) hi hrow h.lk hw (num_drop e) hst (fun y hy hy24 => by
    have hyQ := (pr_in h.lk r hr y hy).1
    exact rg_eqb (J.2.2.2.2.1 y hyQ hy24) (h.rgx hyQ)) hb.1
  exact ⟨c', e1, fun t ht => by rw [e2 t ht, hb.2 t ht], e3⟩
theorem q_bound {T : TV} {K : KV} {kl : Nat → List Nat} {Q : List Nat} {r : Nat} {s c : Nat → Int} {x1 x2 : Int} (O : Nm T K kl Q r s) (g1 : ck x1) (g2 : ck x2) : ∃ (r_1 : Int) (c' : Nat → Int), f_Rt_bound T K x1 x2 = some r_1 ∧ f_Mo_bound s c x1 x2 = some (r_1, c') := by
  obtain ⟨J, h, hr, hrow, hR⟩ := O.parts
  have hlk := h.lk
  unfold f_Rt_bound f_Mo_bound
  rcases num_cases O g1 with ⟨e1, e2⟩ | ⟨A, w, B, e, hst, h24, hw, hx, e1, e2, e3⟩
  · exact ⟨-1, c, by rw [bd1_p e1, gd_p ck_0, if_pos rfl], by rw [bd1_p e2, gd_p ⟨by omega, by omega⟩, if_pos (by omega)]⟩
  · have hl := hrow.2.1
    have hle := congrArg List.length e
    rw [List.length_append, List.length_append] at hle
    have hsz := h.siz hw
    have h0 := hrow.1
    rw [bd1_p e1, gd_p ⟨by omega, by omega⟩, if_neg (by omega), gd_p g2, bd1_p e3, gd_p ⟨by omega, by omega⟩, if_neg (show ¬ (A.length : Int) < 0 by omega), bd1_p (in_sp g2 ck_0 ⟨by omega, by omega⟩)]
    by_cases hin : 0 ≤ x2 ∧ x2 ≤ 3
    · obtain ⟨t, rfl⟩ : ∃ t : Nat, x2 = (t : Int) := ⟨x2.toNat, by omega⟩
      unfold f_Mo_length
      rw [if_neg (show ¬ (t : Int) < 0 by omega), if_pos (show (t : Int) < 4 by omega), bd1_p e2, bd1_p (t_siz hR (h.lt hw)), hsz.1, gd_p ⟨by omega, by omega⟩, if_pos hin, gd_p ck_1, if_neg (show ¬ (1 : Int) = 0 by omega), bd1_p (show some (s 4) = some (s 4) from rfl), h0, gd_p ⟨by omega, by omega⟩]
      by_cases hk : kl w = []
      · have hwr := (J.2.2.2.2.2 w hw h24 hk).1
        subst hwr
        have h1 : (pr (tLev T) kl w).length = 1 := by rw [pr_eq (Lk_at hlk hw), hk]; rfl
        refine ⟨-5, c, ?_, ?_⟩
        · rw [hk, if_pos (show (([] : List Nat).length : Int) = 0 from rfl)]
        · rw [if_pos (by omega)]
      · have hk1 : 0 < (kl w).length := List.length_pos_iff.mpr hk
        have h1 : (pr (tLev T) kl w).length = (prs (tLev T) kl (kl w)).length + 1 := by rw [pr_eq (Lk_at hlk hw)]; rfl
        have h2 := prs_len hlk (kl w) (fun y hy => (h.kid hw hy).1)
        obtain ⟨c', b1, b2, -⟩ := bat_sp (c := c) O e hst hw (fun _ => hk) (i := 0) (by omega)
        refine ⟨tCor T (4 * w + t), c', ?_, ?_⟩
        · rw [if_neg (by omega), bd1_p (t_corner hR (h.lt hw) (by omega))]
        · rw [if_neg (by omega)]
          have b1 : f_Mo_boundsAt s c (A.length : Int) 0 = some c' := b1
          have b3 := b2 t (by omega)
          rw [show 4 * 0 + t = t by omega] at b3
          rw [bd1_p b1, gd_p ⟨by omega, by omega⟩, show ((t : Int)).toNat = t by omega, b3]
    · rw [if_neg hin, gd_p ck_0, if_pos (show (0 : Int) = 0 from rfl)]
      refine ⟨-2, c, ?_, rfl⟩
      by_cases hn : x2 < 0
      · rw [if_pos hn]
      · rw [if_neg hn, if_neg (by omega)]
