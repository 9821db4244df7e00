/-! the class's answers, one by one -/
abbrev nds (T : TV) (kl : Nat → List Nat) (r : Nat) : List Nat := fl 1 (pr (tLev T) kl r)
/-- the node w has the number v -/
def Pa (T : TV) (kl : Nat → List Nat) (r v w : Nat) (A B : List Nat) : Prop := pr (tLev T) kl r = A ++ (pr (tLev T) kl w ++ B) ∧ stops (tLev T) (tLev T w) B ∧ 24 ≤ w ∧ v = (fl 1 A).length
theorem nds_len {T : TV} {K : KV} {kl : Nat → List Nat} {Q : List Nat} {r : Nat} {s : Nat → Int} (O : Nm T K kl Q r s) : 1 ≤ (nds T kl r).length ∧ (nds T kl r).length ≤ 360 ∧ kCnt K = ((nds T kl r).length : Int) ∧ (nds T kl r).length ≤ kLen K ∧ kLen K ≤ 8192 := by
  obtain ⟨J, h, hr, hrow, hR⟩ := O.parts
  have hl := hrow.2.1
  have hfl := fl_len (pr (tLev T) kl r)
  have h1 : nds T kl r = r :: fl 1 (prs (tLev T) kl (kl r)) := by
    show fl 1 (pr (tLev T) kl r) = _
    rw [pr_eq (Lk_at h.lk hr), fl_cons, if_pos J.2.1.2.1]
  have h2 := congrArg List.length h1
  rw [List.length_cons] at h2
  have hK := O.2.2.1
  exact ⟨by omega, by show (fl 1 _).length ≤ 360; omega, O.2.1.1, by show (fl 1 _).length ≤ _; omega, O.2.2.2.le⟩
theorem has_no {T : TV} {K : KV} {kl : Nat → List Nat} {Q : List Nat} {r : Nat} {s : Nat → Int} (O : Nm T K kl Q r s) {x : Int} (hx : ck x) (h : x < 0 ∨ ((nds T kl r).length : Int) ≤ x) : f_Rt_hasNode K x = some 0 := by
  have hn := nds_len O
  unfold f_Rt_hasNode
  rw [gd_p hx]
  by_cases h1 : x < 0
  · rw [if_pos h1]
  · rw [if_neg h1, hn.2.2.1, gd_p ⟨by omega, by omega⟩, if_neg (by omega)]
theorem pl_of {T : TV} {K : KV} {kl : Nat → List Nat} {Q : List Nat} {r : Nat} {s : Nat → Int} (O : Nm T K kl Q r s) {v : Nat} (hv : v < (nds T kl r).length) : ∃ (w : Nat) (A B : List Nat), Pa T kl r v w A B := by
  have hn := nds_len O
  rcases num_cases O (x1 := (v : Int)) ⟨by omega, by omega⟩ with ⟨e1, -⟩ | ⟨A, w, B, e, hst, h24, hw, hx, -⟩
  · exfalso
    have h1 : f_Rt_hasNode K (v : Int) = some 1 := by
      unfold f_Rt_hasNode
      rw [gd_p ⟨by omega, by omega⟩, if_neg (by omega), hn.2.2.1, gd_p ⟨by omega, by omega⟩, if_pos (by omega)]
    rw [e1] at h1
    have := Option.some.inj h1
    omega
  · exact ⟨w, A, B, e, hst, h24, by omega⟩
theorem pl_in {T : TV} {K : KV} {kl : Nat → List Nat} {Q : List Nat} {r v w : Nat} {s : Nat → Int} {A B : List Nat} (O : Nm T K kl Q r s) (P : Pa T kl r v w A B) : w ∈ Q ∧ w ∈ pr (tLev T) kl r ∧ nds T kl r = fl 1 A ++ (w :: fl 1 (prs (tLev T) kl (kl w)) ++ fl 1 B) ∧ fl 1 (pr (tLev T) kl w) = w :: fl 1 (prs (tLev T) kl (kl w)) := by
  obtain ⟨J, h, hr, hrow, hR⟩ := O.parts
  obtain ⟨e, hst, h24, hv⟩ := P
  have hself : w ∈ pr (tLev T) kl r := by
    rw [e]
    by_cases hx : w ∈ pr (tLev T) kl w
    · simp [hx]
    · exfalso
      have : w ∈ pr (tLev T) kl w := by
        unfold pr
        cases fu (tLev T) w with
        | zero => exact List.mem_singleton.mpr rfl
        | succ n => exact List.mem_cons_self
      exact hx this
  have hw := (pr_in h.lk r hr w hself).1
  have hf : fl 1 (pr (tLev T) kl w) = w :: fl 1 (prs (tLev T) kl (kl w)) := by rw [pr_eq (Lk_at h.lk hw), fl_cons, if_pos h24]
  refine ⟨hw, hself, ?_, hf⟩
  show fl 1 (pr (tLev T) kl r) = _
  rw [e, fl_app, fl_app, hf]
theorem pl_node {T : TV} {K : KV} {kl : Nat → List Nat} {Q : List Nat} {r v w : Nat} {s : Nat → Int} {A B : List Nat} (O : Nm T K kl Q r s) (P : Pa T kl r v w A B) : f_Rt_hasNode K (v : Int) = some 1 ∧ f_Rt_nodeAt K (v : Int) = some (w : Int) ∧ (nds T kl r)[v]? = some w ∧ v + (fl 1 (pr (tLev T) kl w)).length + (fl 1 B).length = (nds T kl r).length ∧ v < (nds T kl r).length := by
  have hn := nds_len O
  obtain ⟨hw, hp, e1, e2⟩ := pl_in O P
  have hv := P.2.2.2
  have hlen := congrArg List.length e1
  rw [List.length_append, List.length_append, List.length_cons] at hlen
  have hlen2 := congrArg List.length e2
  rw [List.length_cons] at hlen2
  have hat : (nds T kl r)[v]? = some w := by
    rw [e1, hv, List.getElem?_append_right (Nat.le_refl _), Nat.sub_self]
    rfl
  refine ⟨?_, ?_, hat, by omega, by omega⟩
  · unfold f_Rt_hasNode
    rw [gd_p ⟨by omega, by omega⟩, if_neg (by omega), hn.2.2.1, gd_p ⟨by omega, by omega⟩, if_pos (by omega)]
  · unfold f_Rt_nodeAt
    rw [bd1_p (at_sp (by omega) (by omega)), O.2.1.2 v w hat]
theorem a_nodes {T : TV} {K : KV} {kl : Nat → List Nat} {Q : List Nat} {r : Nat} {s : Nat → Int} (O : Nm T K kl Q r s) : f_Rt_nodes K = some ((nds T kl r).length : Int) := by
  have h : f_Rt_nodes K = some (kCnt K) := rfl
  rw [h, (nds_len O).2.2.1]
theorem a_level {T : TV} {K : KV} {kl : Nat → List Nat} {Q : List Nat} {r v w : Nat} {s : Nat → Int} {A B : List Nat} (O : Nm T K kl Q r s) (P : Pa T kl r v w A B) : f_Rt_level T K (v : Int) = some (tLev T w) := by
  obtain ⟨J, h, hr, hrow, hR⟩ := O.parts
  have hn := pl_node O P
  have hw := (pl_in O P).1
  unfold f_Rt_level
  rw [bd1_p hn.1, gd_p ⟨by omega, by omega⟩, if_neg (by omega), bd1_p hn.2.1, bd1_p (t_lev hR (h.lt hw))]
theorem a_level_no {T : TV} {K : KV} {kl : Nat → List Nat} {Q : List Nat} {r : Nat} {s : Nat → Int} (O : Nm T K kl Q r s) {x : Int} (hx : ck x) (h : x < 0 ∨ ((nds T kl r).length : Int) ≤ x) : f_Rt_level T K x = some (-1) := by
  unfold f_Rt_level
  rw [bd1_p (has_no O hx h), gd_p ck_0, if_pos rfl]
theorem a_entries {T : TV} {K : KV} {kl : Nat → List Nat} {Q : List Nat} {r v w : Nat} {s : Nat → Int} {A B : List Nat} (O : Nm T K kl Q r s) (P : Pa T kl r v w A B) : f_Rt_entries T K (v : Int) = some ((kl w).length : Int) := by
  obtain ⟨J, h, hr, hrow, hR⟩ := O.parts
  have hn := pl_node O P
  have hw := (pl_in O P).1
  unfold f_Rt_entries
  rw [bd1_p hn.1, gd_p ⟨by omega, by omega⟩, if_neg (by omega), bd1_p hn.2.1, bd1_p (t_siz hR (h.lt hw)), (h.siz hw).1]
theorem a_entries_no {T : TV} {K : KV} {kl : Nat → List Nat} {Q : List Nat} {r : Nat} {s : Nat → Int} (O : Nm T K kl Q r s) {x : Int} (hx : ck x) (h : x < 0 ∨ ((nds T kl r).length : Int) ≤ x) : f_Rt_entries T K x = some (-1) := by
  unfold f_Rt_entries
  rw [bd1_p (has_no O hx h), gd_p ck_0, if_pos rfl]
theorem a_bound {T : TV} {K : KV} {kl : Nat → List Nat} {Q : List Nat} {r v w t : Nat} {s : Nat → Int} {A B : List Nat} (O : Nm T K kl Q r s) (P : Pa T kl r v w A B) (ht : t < 4) : (kl w ≠ [] → f_Rt_bound T K (v : Int) (t : Int) = some (tCor T (4 * w + t))) ∧ (kl w = [] → f_Rt_bound T K (v : Int) (t : Int) = some (-5)) := by
  obtain ⟨J, h, hr, hrow, hR⟩ := O.parts
  have hn := pl_node O P
  have hw := (pl_in O P).1
  have hsz := h.siz hw
  unfold f_Rt_bound
  rw [bd1_p hn.1, gd_p ⟨by omega, by omega⟩, if_neg (by omega), gd_p ⟨by omega, by omega⟩, if_neg (show ¬ (t : Int) < 0 by omega), if_pos (show (t : Int) < 4 by omega), bd1_p hn.2.1, bd1_p (t_siz hR (h.lt hw)), hsz.1, gd_p ⟨by omega, by omega⟩]
  constructor
  · intro hk
    have hk1 : 0 < (kl w).length := List.length_pos_iff.mpr hk
    rw [if_neg (by omega), bd1_p (t_corner hR (h.lt hw) ht)]
  · intro hk
    rw [hk, if_pos (show (([] : List Nat).length : Int) = 0 from rfl)]
theorem a_bound_4 {T : TV} {K : KV} {kl : Nat → List Nat} {Q : List Nat} {r v w : Nat} {s : Nat → Int} {A B : List Nat} (O : Nm T K kl Q r s) (P : Pa T kl r v w A B) : f_Rt_bound T K (v : Int) 4 = some (-2) := by
  have hn := pl_node O P
  unfold f_Rt_bound
  rw [bd1_p hn.1, gd_p ⟨by omega, by omega⟩, if_neg (by omega), gd_p ⟨by omega, by omega⟩, if_neg (by omega), if_neg (by omega)]
theorem a_bound_no {T : TV} {K : KV} {kl : Nat → List Nat} {Q : List Nat} {r : Nat} {s : Nat → Int} (O : Nm T K kl Q r s) {x t : Int} (hx : ck x) (h : x < 0 ∨ ((nds T kl r).length : Int) ≤ x) : f_Rt_bound T K x t = some (-1) := by
  unfold f_Rt_bound
  rw [bd1_p (has_no O hx h), gd_p ck_0, if_pos rfl]
theorem a_entry_no {T : TV} {K : KV} {kl : Nat → List Nat} {Q : List Nat} {r v w : Nat} {s : Nat → Int} {A B : List Nat} (O : Nm T K kl Q r s) (P : Pa T kl r v w A B) {x : Int} (hx : ck x) (hj : x < 0 ∨ ((kl w).length : Int) ≤ x) : f_Rt_entry T K (v : Int) x = some (-1) := by
  obtain ⟨J, h, hr, hrow, hR⟩ := O.parts
  have hn := pl_node O P
  have hw := (pl_in O P).1
  have hsz := h.siz hw
  unfold f_Rt_entry
  rw [bd1_p hn.1, gd_p ⟨by omega, by omega⟩, if_neg (by omega), bd1_p hn.2.1, gd_p hx]
  by_cases h0 : x < 0
  · rw [if_pos h0]
  · rw [if_neg h0, bd1_p (t_siz hR (h.lt hw)), hsz.1, gd_p ⟨by omega, by omega⟩, if_neg (by omega)]
/-- an entry that is a box -/
theorem a_entry_b {T : TV} {K : KV} {kl : Nat → List Nat} {Q : List Nat} {r v w y j : Nat} {s : Nat → Int} {A B : List Nat} (O : Nm T K kl Q r s) (P : Pa T kl r v w A B) (hj : (kl w)[j]? = some y) (hy : y < 24) : f_Rt_entry T K (v : Int) (j : Int) = some (y : Int) := by
  obtain ⟨J, h, hr, hrow, hR⟩ := O.parts
  have hn := pl_node O P
  have hw := (pl_in O P).1
  have hsz := h.siz hw
  have hjl := (List.getElem?_eq_some_iff.mp hj).1
  unfold f_Rt_entry
  rw [bd1_p hn.1, gd_p ⟨by omega, by omega⟩, if_neg (by omega), bd1_p hn.2.1, gd_p ⟨by omega, by omega⟩, if_neg (by omega), bd1_p (t_siz hR (h.lt hw)), hsz.1, gd_p ⟨by omega, by omega⟩, if_pos (by omega), bd1_p (h.ent hw hj), gd_p ⟨by omega, by omega⟩, if_pos (by omega)]
/-- an entry's own number -/
theorem pl_kid {T : TV} {K : KV} {kl : Nat → List Nat} {Q : List Nat} {r v w y : Nat} {s : Nat → Int} {A B D E : List Nat} (O : Nm T K kl Q r s) (P : Pa T kl r v w A B) (hk : kl w = D ++ y :: E) (hy : 24 ≤ y) : Pa T kl r (v + 1 + (fl 1 (prs (tLev T) kl D)).length) y (A ++ w :: prs (tLev T) kl D) (prs (tLev T) kl E ++ B) := by
  obtain ⟨J, h, hr, hrow, hR⟩ := O.parts
  have hw := (pl_in O P).1
  obtain ⟨e, hst, h24, hv⟩ := P
  have hyk := h.kid hw (y := y) (by rw [hk]; simp)
  refine ⟨?_, ?_, hy, ?_⟩
  · rw [e, pr_eq (Lk_at h.lk hw), hk, prs_app, prs_cons]
    simp
  · exact stops_prs h.lk (fun z hz => by
      have hz2 := h.kid hw (y := z) (by rw [hk]; simp [hz])
      exact ⟨hz2.1, by omega⟩) (stops_le hst (by omega))
  · rw [fl_app, fl_cons, if_pos h24, List.length_append, List.length_cons]
    omega
theorem a_entry_n {T : TV} {K : KV} {kl : Nat → List Nat} {Q : List Nat} {r v w y : Nat} {s : Nat → Int} {A B D E : List Nat} (O : Nm T K kl Q r s) (P : Pa T kl r v w A B) (hk : kl w = D ++ y :: E) (hy : 24 ≤ y) : f_Rt_entry T K (v : Int) (D.length : Int) = some ((v + 1 + (fl 1 (prs (tLev T) kl D)).length : Nat) : Int) := by
  obtain ⟨J, h, hr, hrow, hR⟩ := O.parts
  have hn := pl_node O P
  have hw := (pl_in O P).1
  have hsz := h.siz hw
  have hj : (kl w)[D.length]? = some y := by rw [hk, List.getElem?_append_right (Nat.le_refl _), Nat.sub_self]; rfl
  have hjl := (List.getElem?_eq_some_iff.mp hj).1
  have hyQ := (h.kid hw (y := y) (by rw [hk]; simp)).1
  have hylt := h.lt hyQ
  have P2 := pl_kid O P hk hy
  have e2 : pr (tLev T) kl r = (A ++ w :: prs (tLev T) kl D) ++ y :: (prs (tLev T) kl (kl y) ++ (prs (tLev T) kl E ++ B)) := by
    rw [P2.1, pr_eq (Lk_at h.lk hyQ)]
    simp
  unfold f_Rt_entry
  rw [bd1_p hn.1, gd_p ⟨by omega, by omega⟩, if_neg (by omega), bd1_p hn.2.1, gd_p ⟨by omega, by omega⟩, if_neg (by omega), bd1_p (t_siz hR (h.lt hw)), hsz.1, gd_p ⟨by omega, by omega⟩, if_pos (by omega), bd1_p (h.ent hw hj), gd_p ⟨by omega, by omega⟩, if_neg (by omega), bd1_p (wpl_sp O e2 hy), ← P2.2.2.2]
theorem a_leafOf {T : TV} {K : KV} {kl : Nat → List Nat} {Q : List Nat} {r v w b : Nat} {s : Nat → Int} {A B : List Nat} (O : Nm T K kl Q r s) (P : Pa T kl r v w A B) (hb : b ∈ kl w) (hb24 : b < 24) : f_Rt_leafOf T K (b : Int) = some (v : Int) := by
  obtain ⟨J, h, hr, hrow, hR⟩ := O.parts
  have hw := (pl_in O P).1
  have hbk := h.kid hw hb
  have e2 : pr (tLev T) kl r = A ++ w :: (prs (tLev T) kl (kl w) ++ B) := by
    rw [P.1, pr_eq (Lk_at h.lk hw)]
    rfl
  unfold f_Rt_leafOf
  rw [bd1_p (hasb_sp h hb24), if_pos hbk.1, gd_p ck_1, if_neg (show ¬ (1 : Int) = 0 by omega), bd1_p (t_hol hR (h.lt hbk.1)), hbk.2.1, bd1_p (wpl_sp O e2 P.2.2.1), ← P.2.2.2]
theorem a_side {T : TV} {K : KV} {kl : Nat → List Nat} {Q : List Nat} {r b t : Nat} {s : Nat → Int} (O : Nm T K kl Q r s) (hb : b < 24) (ht : t < 4) : f_Rt_side T (b : Int) (t : Int) = some (if b ∈ Q then tCor T (4 * b + t) else -1) := by
  obtain ⟨J, h, hr, hrow, hR⟩ := O.parts
  unfold f_Rt_side
  rw [bd1_p (hasb_sp h hb)]
  by_cases hq : b ∈ Q
  · rw [if_pos hq, if_pos hq, gd_p ck_1, if_neg (show ¬ (1 : Int) = 0 by omega), gd_p ⟨by omega, by omega⟩, if_neg (by omega), if_pos (by omega), bd1_p (t_corner hR (h.lt hq) ht)]
  · rw [if_neg hq, if_neg hq, gd_p ck_0, if_pos rfl]
theorem bxs_go2 {T : TV} {kl : Nat → List Nat} {Q : List Nat} (h : Ar T kl Q) (k : Int → Int → Option Int) : ∀ (d i n : Nat) (x : Int), i + d = 24 → d < n → Mk x (fun c => c < i ∧ c ∈ Q) → ∃ x' : Int, f_Rt_boxes_L4 T k n x (i : Int) = k x' 24 ∧ Mk x' (fun c => c ∈ Q)
  | 0, i, n + 1, x, hi, hn, hx => by
    refine ⟨x, ?_, hx.iff (fun c hc => ⟨fun q => q.2, fun q => ⟨by omega, q⟩⟩)⟩
    rw [f_Rt_boxes_L4, gd_p ⟨by omega, by omega⟩, if_neg (by omega), show (i : Int) = 24 by omega]
  | d + 1, i, n + 1, x, hi, hn, hx => by
    by_cases hq : i ∈ Q
    · obtain ⟨x', e1, e2⟩ := bxs_go2 h k d (i + 1) n (iOr x (iShl 1 (i : Int))) (by omega) (by omega) ((hx.or (by omega)).iff (fun c hc => ⟨fun q => q.elim (fun z => ⟨by omega, z.2⟩) (fun z => ⟨by omega, z ▸ hq⟩), fun q => by
        by_cases hc2 : c = i
        · exact Or.inr hc2
        · exact Or.inl ⟨by omega, q.2⟩⟩))
      refine ⟨x', ?_, e2⟩
      rw [f_Rt_boxes_L4, gd_p ⟨by omega, by omega⟩, if_pos (by omega), bd1_p (hasb_sp h (by omega)), if_pos hq, gd_p ck_1, if_neg (by omega), show (i : Int) + 1 = ((i + 1 : Nat) : Int) by omega]
      exact e1
    · obtain ⟨x', e1, e2⟩ := bxs_go2 h k d (i + 1) n x (by omega) (by omega) (hx.iff (fun c hc => ⟨fun q => ⟨by omega, q.2⟩, fun q => ⟨by
        by_cases hc2 : c = i
        · exact absurd (hc2 ▸ q.2) hq
        · omega, q.2⟩⟩))
      refine ⟨x', ?_, e2⟩
      rw [f_Rt_boxes_L4, gd_p ⟨by omega, by omega⟩, if_pos (by omega), bd1_p (hasb_sp h (by omega)), if_neg hq, gd_p ck_0, if_pos rfl, show (i : Int) + 1 = ((i + 1 : Nat) : Int) by omega]
      exact e1
theorem a_boxes {T : TV} {K : KV} {kl : Nat → List Nat} {Q : List Nat} {r : Nat} {s : Nat → Int} (O : Nm T K kl Q r s) : ∃ x, f_Rt_boxes T = some x ∧ Mk x (fun c => c ∈ Q) := by
  obtain ⟨x, e1, e2⟩ := bxs_go2 O.parts.2.1 (fun x1_8 x2_9 => some (x1_8)) 24 0 FU 0 rfl (by unfold FU; omega) (Mk.zero.iff (fun c _ => ⟨fun q => q.elim, fun q => absurd q.1 (by omega)⟩))
  exact ⟨x, e1, e2⟩
theorem a_height {T : TV} {K : KV} {kl : Nat → List Nat} {Q : List Nat} {r : Nat} {s : Nat → Int} (O : Nm T K kl Q r s) : f_Rt_height T = some (tLev T r) := (q_head O).2
/-- the root has the number 0 -/
theorem pl_root {T : TV} {K : KV} {kl : Nat → List Nat} {Q : List Nat} {r : Nat} {s : Nat → Int} (O : Nm T K kl Q r s) : Pa T kl r 0 r [] [] := by
  obtain ⟨J, h, hr, hrow, hR⟩ := O.parts
  exact ⟨by simp, stops_nil, J.2.1.2.1, rfl⟩
theorem pl_zero {T : TV} {K : KV} {kl : Nat → List Nat} {Q : List Nat} {r v w : Nat} {s : Nat → Int} {A B : List Nat} (O : Nm T K kl Q r s) (P : Pa T kl r v w A B) : v = 0 ↔ w = r := by
  have h1 := (pl_node O P).2.2.1
  have h0 := (pl_node O (pl_root O)).2.2.1
  obtain ⟨J, h, hr, hrow, hR⟩ := O.parts
  have hnd : (nds T kl r).Nodup := (pr_nodup h r hr).filter _
  constructor
  · intro e
    subst e
    rw [h0] at h1
    exact (Option.some.inj h1).symm
  · intro e
    subst e
    have a := (List.getElem?_eq_some_iff.mp h1)
    have b := (List.getElem?_eq_some_iff.mp h0)
    exact (List.getElem_inj hnd).mp (a.2.trans b.2.symm)
