/-! the asking methods over the boxes -/
theorem iOr_zero {x : Int} (h : ck x) : iOr x 0 = x := by
  unfold iOr
  rw [show Int32.ofInt 0 = 0 from rfl, Int32.or_zero]
  exact ck_toInt h
theorem iOr_ck {x y : Int} : ck (iOr x y) := ck_of32 _
theorem q_leafOf {T : TV} {K : KV} {kl : Nat → List Nat} {Q : List Nat} {r : Nat} {s : Nat → Int} {x1 : Int} (O : Nm T K kl Q r s) (g1 : ck x1) : ∃ r_1, f_Rt_leafOf T K x1 = some r_1 ∧ f_Mo_leafOf s x1 = some r_1 := by
  obtain ⟨J, h, hr, hrow, hR⟩ := O.parts
  have hlk := h.lk
  have hl := hrow.2.1
  have hnd := pr_nodup h r hr
  unfold f_Rt_leafOf f_Mo_leafOf
  by_cases hin : 0 ≤ x1 ∧ x1 < 24
  · obtain ⟨b, rfl⟩ : ∃ b : Nat, x1 = (b : Int) := ⟨x1.toNat, by omega⟩
    have hb24 : b < 24 := by omega
    rw [bd1_p (hasb_sp h hb24), bd1_p (isb_sp O.1.1.2.2 hb24)]
    by_cases hb : b ∈ Q
    · rw [if_pos hb, gd_p ck_1, if_neg (show ¬ (1 : Int) = 0 by omega), bd1_p (t_hol hR (h.lt hb))]
      have hbp := O.1.2.1 b hb
      have hbr : b ≠ r := fun q => by have := J.2.1.2.1; omega
      obtain ⟨z, hzp, hzk⟩ := pr_up hlk r hr b hbp hbr
      have hzQ := (pr_in hlk r hr z hzp).1
      have hz24 := h.node hzQ hzk
      have hkid := h.kid hzQ hzk
      obtain ⟨A, B, c1, -, -, -⟩ := ctx hlk z r hr hzp
      obtain ⟨k1, k2, d1, d2, d3⟩ := ctx_up hlk hzQ hzk
      have hbl := (h.lev24 hb).mp hb24
      have hprb : pr (tLev T) kl b = [b] := by
        rw [pr_eq (Lk_at hlk hb), (h.2.2.2.2 b hb).2.1 hb24]
        rfl
      rw [hprb] at d2
      have e1 : pr (tLev T) kl r = A ++ z :: ((prs (tLev T) kl k1 ++ (b :: prs (tLev T) kl k2)) ++ B) := by
        rw [c1, d2]
        simp
      have e2 : pr (tLev T) kl r = (A ++ z :: prs (tLev T) kl k1) ++ b :: (prs (tLev T) kl k2 ++ B) := by
        rw [e1]
        simp
      have hnb : b ∉ A ++ z :: prs (tLev T) kl k1 := fun q => by
        rw [e2] at hnd
        exact (List.nodup_append.mp hnd).2.2 b q b List.mem_cons_self rfl
      have hle := congrArg List.length e2
      rw [List.length_append] at hle
      have hf1 : fl 1 (prs (tLev T) kl k1) = [] := by
        apply List.eq_nil_iff_forall_not_mem.mpr
        intro y hy
        have hy1 := fl_mem.mp hy
        have hy2 := d3 y hy1.1
        have hyQ : y ∈ Q := by
          obtain ⟨y2, hy2, hy3⟩ := mem_prs.mp hy1.1
          have hy4 : y2 ∈ kl z := by rw [d1]; exact List.mem_append_left _ hy2
          exact (pr_in hlk y2 (h.kid hzQ hy4).1 y hy3).1
        have hy5 := (h.2.2.2.2 y hyQ).1
        have hy24 : y < 24 := hy5.2.1.mpr (by omega)
        exact absurd (hy1.2.mp hy24) (by omega)
      have hfl : (fl 1 (A ++ z :: prs (tLev T) kl k1)).length = (fl 1 A).length + 1 := by
        rw [fl_app, fl_cons, if_pos hz24, hf1, List.length_append]
        rfl
      refine ⟨((fl 1 A).length : Int), ?_, ?_⟩
      · rw [hkid.2.1, bd1_p (wpl_sp O e1 hz24)]
      · rw [gd_p ck_1, if_neg (by omega), bd1_p (plc_sp hrow hb24 e2 hnb), bd1_p (nah_sp hrow (by omega)), e2, List.take_append_of_le_length (Nat.le_refl _), List.take_length, hfl, show (((fl 1 A).length + 1 : Nat) : Int) - 1 = ((fl 1 A).length : Int) by omega]
    · rw [if_neg hb, gd_p ck_0, if_pos (show (0 : Int) = 0 from rfl)]
      exact ⟨-1, rfl, rfl⟩
  · rw [bd1_p (hasb_no g1 hin), bd1_p (isb_no g1 hin), gd_p ck_0, if_pos (show (0 : Int) = 0 from rfl)]
    exact ⟨-1, rfl, rfl⟩
theorem bxs_go {T : TV} {kl : Nat → List Nat} {Q : List Nat} {s : Nat → Int} (h : Ar T kl Q) (hb : Bx s Q) (k k' : Int → Int → Option Int) : ∀ (d i n : Nat) (x : Int), i + d = 24 → d < n → ck x → ∃ x' : Int, f_Rt_boxes_L4 T k n x (i : Int) = k x' 24 ∧ f_Mo_boxes_L4 s k' n x (i : Int) = k' x' 24
  | 0, i, n + 1, x, hi, hn, hx => by
    refine ⟨x, ?_, ?_⟩
    · rw [f_Rt_boxes_L4, gd_p ⟨by omega, by omega⟩, if_neg (by omega), show (i : Int) = 24 by omega]
    · rw [f_Mo_boxes_L4, gd_p ⟨by omega, by omega⟩, if_neg (by omega), show (i : Int) = 24 by omega]
  | d + 1, i, n + 1, x, hi, hn, hx => by
    by_cases hq : i ∈ Q
    · obtain ⟨x', e1, e2⟩ := bxs_go h hb k k' d (i + 1) n (iOr x (iShl 1 (i : Int))) (by omega) (by omega) iOr_ck
      refine ⟨x', ?_, ?_⟩
      · rw [f_Rt_boxes_L4, gd_p ⟨by omega, by omega⟩, if_pos (by omega), bd1_p (hasb_sp h (by omega)), if_pos hq, gd_p ck_1, if_neg (by omega), show (i : Int) + 1 = ((i + 1 : Nat) : Int) by omega]
        exact e1
      · rw [f_Mo_boxes_L4, gd_p ⟨by omega, by omega⟩, if_pos (by omega), bd1_p (isb_sp hb (by omega)), if_pos hq, gd_p ck_1, if_neg (by omega), show (i : Int) + 1 = ((i + 1 : Nat) : Int) by omega]
        exact e2
    · obtain ⟨x', e1, e2⟩ := bxs_go h hb k k' d (i + 1) n x (by omega) (by omega) hx
      refine ⟨x', ?_, ?_⟩
      · rw [f_Rt_boxes_L4, gd_p ⟨by omega, by omega⟩, if_pos (by omega), bd1_p (hasb_sp h (by omega)), if_neg hq, gd_p ck_0, if_pos rfl, show (i : Int) + 1 = ((i + 1 : Nat) : Int) by omega]
        exact e1
      · rw [f_Mo_boxes_L4, gd_p ⟨by omega, by omega⟩, if_pos (by omega), bd1_p (isb_sp hb (by omega)), if_neg hq, gd_p ck_0, if_pos rfl, iOr_zero hx, show (i : Int) + 1 = ((i + 1 : Nat) : Int) by omega]
        exact e2
theorem q_boxes {T : TV} {K : KV} {kl : Nat → List Nat} {Q : List Nat} {r : Nat} {s : Nat → Int} (O : Nm T K kl Q r s) : ∃ r_1, f_Rt_boxes T = some r_1 ∧ f_Mo_boxes s = some r_1 := by
  obtain ⟨x', e1, e2⟩ := bxs_go O.parts.2.1 O.1.1.2.2 (fun x1_8 x2_9 => some (x1_8)) (fun x1_8 x2_9 => some (x1_8)) 24 0 FU 0 rfl (by unfold FU; omega) ck_0
  exact ⟨x', e1, e2⟩
theorem bx_cor {T : TV} {K : KV} {kl : Nat → List Nat} {Q : List Nat} {r : Nat} {s : Nat → Int} (O : Nm T K kl Q r s) {b t : Nat} (hb : b ∈ Q) (hb24 : b < 24) (ht : t < 4) : s (5 + 4 * b + t) = tCor T (4 * b + t) := by
  rw [m_side_step s b t]
  exact O.1.1.1.1.2.2.2.2.1 b hb hb24 t ht
theorem q_side {T : TV} {K : KV} {kl : Nat → List Nat} {Q : List Nat} {r : Nat} {s : Nat → Int} {x1 x2 : Int} (O : Nm T K kl Q r s) (g1 : ck x1) (g2 : ck x2) : ∃ r_1, f_Rt_side T x1 x2 = some r_1 ∧ f_Mo_side s x1 x2 = some r_1 := by
  obtain ⟨J, h, hr, hrow, hR⟩ := O.parts
  unfold f_Rt_side f_Mo_side
  by_cases hin : 0 ≤ x1 ∧ x1 < 24
  · obtain ⟨b, rfl⟩ : ∃ b : Nat, x1 = (b : Int) := ⟨x1.toNat, by omega⟩
    have hb24 : b < 24 := by omega
    rw [bd1_p (hasb_sp h hb24), bd1_p (isb_sp O.1.1.2.2 hb24)]
    by_cases hb : b ∈ Q
    · rw [if_pos hb, gd_p ck_1, if_neg (show ¬ (1 : Int) = 0 by omega), gd_p g2, in_sp g2 ck_0 ⟨by omega, by omega⟩]
      by_cases hin2 : 0 ≤ x2 ∧ x2 ≤ 3
      · obtain ⟨t, rfl⟩ : ∃ t : Nat, x2 = (t : Int) := ⟨x2.toNat, by omega⟩
        refine ⟨tCor T (4 * b + t), ?_, ?_⟩
        · rw [if_neg (by omega), if_pos (by omega), bd1_p (t_corner hR (h.lt hb) (by omega))]
        · rw [gd_p ck_1, if_neg (show ¬ (1 : Int) = 0 by omega), bd1_p (show some (if (0 : Int) ≤ (t : Int) ∧ (t : Int) ≤ 3 then (1 : Int) else 0) = some 1 by rw [if_pos hin2]), gd_p ck_1, if_neg (by omega), gd_p ⟨by omega, by omega⟩, show ((5 : Int) + 4 * (b : Int) + (t : Int)).toNat = 5 + 4 * b + t by omega, bx_cor O hb hb24 (by omega)]
      · rw [if_neg hin2]
        refine ⟨-2, ?_, rfl⟩
        by_cases hn : x2 < 0
        · rw [if_pos hn]
        · rw [if_neg hn, if_neg (by omega)]
    · rw [if_neg hb, gd_p ck_0, if_pos (show (0 : Int) = 0 from rfl)]
      exact ⟨-1, rfl, rfl⟩
  · rw [bd1_p (hasb_no g1 hin), bd1_p (isb_no g1 hin), gd_p ck_0, if_pos (show (0 : Int) = 0 from rfl)]
    exact ⟨-1, rfl, rfl⟩
theorem set_sp {T : TV} {K : KV} {kl : Nat → List Nat} {Q : List Nat} {r : Nat} {s : Nat → Int} (O : Nm T K kl Q r s) : s 0 = tCap T ∧ s 1 = tRei T ∧ (3 ≤ tCap T ∧ tCap T ≤ 5) ∧ (tRei T = 0 ∨ tRei T = 1) := ⟨O.1.1.1.2.2.2.2.1, O.1.1.1.2.2.2.2.2.1, O.1.1.1.2.2.2.1, O.1.1.1.2.2.2.2.2.2⟩
theorem q_setting {T : TV} {K : KV} {kl : Nat → List Nat} {Q : List Nat} {r : Nat} {s : Nat → Int} {x1 : Int} (O : Nm T K kl Q r s) (g1 : ck x1) : ∃ r_1, f_Rt_setting T x1 = some r_1 ∧ f_Mo_setting s x1 = some r_1 := by
  have hs := set_sp O
  unfold f_Rt_setting f_Mo_setting
  rw [gd_p g1, bd1_p (in_sp g1 ck_0 ck_1)]
  by_cases h0 : x1 = 0
  · subst h0
    refine ⟨tCap T, by rw [if_pos rfl], ?_⟩
    rw [if_pos (show (0 : Int) ≤ 0 ∧ (0 : Int) ≤ 1 by omega), gd_p ck_1, if_neg (by omega), gd_p ⟨by omega, by omega⟩]
    exact congrArg some hs.1
  · by_cases h1 : x1 = 1
    · subst h1
      refine ⟨tRei T, by rw [if_neg h0, if_pos rfl], ?_⟩
      rw [if_pos (show (0 : Int) ≤ 1 ∧ (1 : Int) ≤ 1 by omega), gd_p ck_1, if_neg (by omega), gd_p ⟨by omega, by omega⟩]
      exact congrArg some hs.2.1
    · refine ⟨-1, by rw [if_neg h0, if_neg h1], ?_⟩
      rw [if_neg (show ¬ ((0 : Int) ≤ x1 ∧ x1 ≤ 1) by omega), gd_p ck_0, if_pos rfl]
/-- a window -/
theorem isspan_sp {a b : Int} (ha : ck a) (hb : ck b) : f_Rt_isSpan a b = some (if 0 ≤ a ∧ a ≤ b ∧ b ≤ 99 then 1 else 0) := by
  unfold f_Rt_isSpan
  rw [gd_p ha]
  by_cases h1 : a < 0
  · rw [if_pos h1, if_neg (by omega)]
  · rw [if_neg h1, gd_p hb]
    by_cases h2 : b < a
    · rw [if_pos h2, if_neg (by omega)]
    · rw [if_neg h2]
      by_cases h3 : 99 < b
      · rw [if_pos h3, if_neg (by omega)]
      · rw [if_neg h3, if_pos (by omega)]
theorem isrect_c {a b c d : Int} (ha : ck a) (hb : ck b) (hc : ck c) (hd : ck d) : f_Rt_isRectangle a b c d = some (if (0 ≤ a ∧ a ≤ c ∧ c ≤ 99) ∧ (0 ≤ b ∧ b ≤ d ∧ d ≤ 99) then 1 else 0) := by
  unfold f_Rt_isRectangle
  rw [bd1_p (isspan_sp ha hc)]
  by_cases h1 : 0 ≤ a ∧ a ≤ c ∧ c ≤ 99
  · rw [if_pos h1, gd_p ck_1, if_neg (by omega), bd1_p (isspan_sp hb hd)]
    by_cases h2 : 0 ≤ b ∧ b ≤ d ∧ d ≤ 99
    · rw [if_pos h2, gd_p ck_1, if_neg (by omega), if_pos ⟨h1, h2⟩]
    · rw [if_neg h2, gd_p ck_0, if_pos rfl, if_neg (fun q => h2 q.2)]
  · rw [if_neg h1, gd_p ck_0, if_pos rfl, if_neg (fun q => h1 q.1)]
theorem isrect_m {a b c d : Int} (ha : ck a) (hb : ck b) (hc : ck c) (hd : ck d) : f_Mo_isRectangle a b c d = some (if (0 ≤ a ∧ a ≤ c ∧ c ≤ 99) ∧ (0 ≤ b ∧ b ≤ d ∧ d ≤ 99) then 1 else 0) := by
  have k99 : ck (99 : Int) := ⟨by omega, by omega⟩
  unfold f_Mo_isRectangle
  rw [bd1_p (in_sp ha ck_0 k99)]
  by_cases h1 : 0 ≤ a ∧ a ≤ 99
  · rw [if_pos h1, gd_p ck_1, if_neg (by omega), bd1_p (in_sp hb ck_0 k99)]
    by_cases h2 : 0 ≤ b ∧ b ≤ 99
    · rw [if_pos h2, gd_p ck_1, if_neg (by omega), bd1_p (in_sp hc ha k99)]
      by_cases h3 : a ≤ c ∧ c ≤ 99
      · rw [if_pos h3, gd_p ck_1, if_neg (by omega), bd1_p (in_sp hd hb k99)]
        by_cases h4 : b ≤ d ∧ d ≤ 99
        · rw [if_pos h4, gd_p ck_1, if_neg (by omega), if_pos (by omega)]
        · rw [if_neg h4, gd_p ck_0, if_pos rfl, if_neg (by omega)]
      · rw [if_neg h3, gd_p ck_0, if_pos rfl, if_neg (by omega)]
    · rw [if_neg h2, gd_p ck_0, if_pos rfl, if_neg (by omega)]
  · rw [if_neg h1, gd_p ck_0, if_pos rfl, if_neg (by omega)]
