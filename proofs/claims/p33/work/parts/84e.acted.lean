/-! each of the law's calls -/
theorem cnt_ck {T : TV} {K : KV} {kl : Nat → List Nat} {Q : List Nat} {r : Nat} {s : Nat → Int} (O : Nm T K kl Q r s) : kCnt K = ((fl 1 (pr (tLev T) kl r)).length : Int) ∧ (fl 1 (pr (tLev T) kl r)).length ≤ 360 := by
  have hl := O.parts.2.2.2.1.2.1
  have hfl := fl_len (pr (tLev T) kl r)
  exact ⟨O.2.1.1, by omega⟩
theorem act_ok {T : TV} {LB LN K : KV} {c_length c_count c_left c_keptCount c_rectangles c_part c_digits c_value : Int} {c_pool c_kept c_row bx c_characters c_parts : Nat → Int} {c_treated : Int64} {S0 S1 S2 S3 : TV} {w y : Int} (hI : LC T LB LN K c_length c_count S0 S1 S2 S3 bx) (hw : 0 ≤ w ∧ w ≤ 15) (hy : 0 ≤ y ∧ y ≤ 2147483647) : ∃ (T2 : TV) (kept2 : Nat → Int) (kc2 : Int) (pool2 : Nat → Int) (left2 : Int) (treated2 : Int64) (LB2 LN2 : KV) (row2 : Nat → Int) (K2 : KV) (ch2 : Nat → Int) (len2 : Int) (parts2 : Nat → Int) (rect2 part2 digits2 value2 count2 : Int) (S0' S1' S2' S3' : TV) (bx2 : Nat → Int), f_Lw_isActed 24 T c_kept c_keptCount c_pool c_left c_treated LB LN c_row K c_characters c_length c_parts c_rectangles c_part c_digits c_value c_count S0 S1 S2 S3 bx w y = some (1, T2, kept2, kc2, pool2, left2, treated2, LB2, LN2, row2, K2, ch2, len2, parts2, rect2, part2, digits2, value2, count2, S0', S1', S2', S3', bx2) ∧ LC T2 LB2 LN2 K2 len2 count2 S0' S1' S2' S3' bx2 ∧ Inc T T2 29491200 := by
  have kw : ck w := ⟨by omega, by omega⟩
  have ky : ck y := ⟨by omega, by omega⟩
  by_cases h9 : w < 9
  · obtain ⟨a, b, p, q, c1, c2⟩ := cs_sp hy.1 hy.2
    obtain ⟨T2, pool2, left2, treated2, K2, count2, S0', S1', S2', S3', bx2, i1, i2, i3⟩ := ins_ok (c_pool := c_pool) (c_left := c_left) (c_treated := c_treated) hI c1
    refine ⟨T2, c_kept, c_keptCount, pool2, left2, treated2, LB, LN, c_row, K2, c_characters, c_length, c_parts, c_rectangles, c_part, c_digits, c_value, count2, S0', S1', S2', S3', bx2, ?_, i2, i3⟩
    unfold f_Lw_isActed
    rw [gd_p kw, if_pos h9, bd1_p c2, bd12_p i1, gd_p (Or.inr rfl)]
  · by_cases h12 : w < 12
    · have hm := (td_nn (x := y) (n := 25) hy.1).2
      obtain ⟨b, hb⟩ : ∃ b : Nat, y % 25 = (b : Int) := ⟨(y % 25).toNat, by omega⟩
      have hb25 : b < 25 := by omega
      obtain ⟨⟨kl, Q, r, s, O, B⟩, ⟨hLB, hLN⟩, ⟨past, pasts, hH⟩, hT⟩ := hI
      have h := O.parts.2.1
      have kb : ck (b : Int) := ⟨by omega, by omega⟩
      by_cases hin : b < 24 ∧ b ∈ Q
      · have hbn := B.neg h hin.1
        obtain ⟨T', kl', Q', r', s', kept', pool', kc', left', count', cc', LB', LN', K', S0', S1', S2', S3', past', pasts', f1, f2, f3, f4, f5, f6, f7⟩ := rem_fx (kept := c_kept) (pool := c_pool) (left := c_left) (keptCount := c_keptCount) (cc := c_treated) O B hin.2 hin.1 hLB hLN hH
        have h' := f2.parts.2.1
        have hn24 := nbx_le (Q := Q') (i := 24)
        refine ⟨T', kept', kc', pool', left', cc', LB', LN', c_row, K', c_characters, c_length, c_parts, c_rectangles, c_part, c_digits, c_value, count', S0', S1', S2', S3', up bx b (-1), ?_, ⟨⟨kl', Q', r', s', f2, f5⟩, ⟨f3, f4⟩, ⟨past', pasts', f7⟩, hT⟩, f6⟩
        unfold f_Lw_isActed
        rw [gd_p kw, if_neg h9, if_pos h12, gd_p ⟨ky, by omega, by omega⟩, hm, hb, show FU = 4095 + 1 from rfl, f_Lw_isActed_L28, gd_p kb, if_pos (by omega), if_pos (by omega), gd_p ⟨by omega, by omega⟩, show ((b : Int)).toNat = b by omega, gd_p hbn.2, if_neg (fun z => (hbn.1.mp z) hin.2), f_Lw_isActed_L60, gd_p ck_1, if_neg (by omega), gd_p ⟨by omega, by omega⟩, gd_p kb, show ((b : Int)).toNat = b by omega, bd15_p f1, gd_p ck_1, if_neg (by omega), bd1_p (many_sp f5 h'), gd_p ⟨by omega, by omega⟩, gd_p ⟨by omega, by omega⟩, if_pos rfl]
      · have hrem : f_Rt_remove T c_kept c_keptCount c_pool c_left c_treated LB LN K c_count S0 S1 S2 S3 (b : Int) = some (-1, T, c_kept, c_keptCount, c_pool, c_left, c_treated, LB, LN, K, c_count, S0, S1, S2, S3) := by
          unfold f_Rt_remove
          by_cases hb24 : b < 24
          · rw [bd1_p (hasb_sp h hb24), if_neg (fun z => hin ⟨hb24, z⟩), gd_p ck_0, if_pos rfl]
          · rw [bd1_p (hasb_no kb (by omega)), gd_p ck_0, if_pos rfl]
        refine ⟨T, c_kept, c_keptCount, c_pool, c_left, c_treated, LB, LN, c_row, K, c_characters, c_length, c_parts, c_rectangles, c_part, c_digits, c_value, c_count, S0, S1, S2, S3, bx, ?_, ⟨⟨kl, Q, r, s, O, B⟩, ⟨hLB, hLN⟩, ⟨past, pasts, hH⟩, hT⟩, Inc.rf (by omega)⟩
        unfold f_Lw_isActed
        rw [gd_p kw, if_neg h9, if_pos h12, gd_p ⟨ky, by omega, by omega⟩, hm, hb, show FU = 4095 + 1 from rfl, f_Lw_isActed_L28, gd_p kb]
        by_cases hb24 : b < 24
        · have hbn := B.neg h hb24
          rw [if_pos (by omega), if_pos (by omega), gd_p ⟨by omega, by omega⟩, show ((b : Int)).toNat = b by omega, gd_p hbn.2, if_pos (hbn.1.mpr (fun z => hin ⟨hb24, z⟩)), f_Lw_isActed_L60, gd_p ck_0, if_pos rfl, bd15_p hrem, gd_p ck_0, if_pos rfl, gd_p ⟨by omega, by omega⟩, if_pos rfl]
        · rw [if_neg (by omega), f_Lw_isActed_L60, gd_p ck_0, if_pos rfl, bd15_p hrem, gd_p ck_0, if_pos rfl, gd_p ⟨by omega, by omega⟩, if_pos rfl]
    · by_cases h12' : w = 12
      · obtain ⟨⟨kl, Q, r, s, O, B⟩, ⟨hLB, hLN⟩, ⟨past, pasts, hH⟩, hT⟩ := hI
        obtain ⟨T', kl', Q', r', s', row', count', K', S0', S1', S2', S3', past', pasts', f1, f2, f3, f4, f5⟩ := pack_fx (row := c_row) O B hH
        have hc := cnt_ck f2
        have kc : ck (kCnt K') := ⟨by omega, by omega⟩
        have hnod : f_Rt_nodes K' = some (kCnt K') := rfl
        refine ⟨T', c_kept, c_keptCount, c_pool, c_left, c_treated, LB, LN, row', K', c_characters, c_length, c_parts, c_rectangles, c_part, c_digits, c_value, count', S0', S1', S2', S3', bx, ?_, ⟨⟨kl', Q', r', s', f2, f3⟩, ⟨hLB, hLN⟩, ⟨past', pasts', f5⟩, hT⟩, f4⟩
        unfold f_Lw_isActed
        rw [gd_p kw, if_neg h9, if_neg h12, if_pos h12', bd9_p f1, bd1_p hnod, gd_p kc, gd_p kc, if_pos rfl]
      · by_cases h13 : w = 13
        · obtain ⟨a, b, p, q, c1, c2⟩ := cs_sp hy.1 hy.2
          have hd := (td_nn (x := y) (n := 3) hy.1).1
          obtain ⟨a', b', p', q', c1', c2'⟩ := cs_sp (y := y / 3) (by omega) (by omega)
          obtain ⟨T2, pool2, left2, treated2, K2, ch2, len2, parts2, rect2, part2, digits2, value2, count2, S0', S1', S2', S3', bx2, i1, i2, i3⟩ := read_ok (c_pool := c_pool) (c_left := c_left) (c_treated := c_treated) (c_characters := c_characters) (c_parts := c_parts) (c_rectangles := c_rectangles) (c_part := c_part) (c_digits := c_digits) (c_value := c_value) hI c1 c1'
          refine ⟨T2, c_kept, c_keptCount, pool2, left2, treated2, LB, LN, c_row, K2, ch2, len2, parts2, rect2, part2, digits2, value2, count2, S0', S1', S2', S3', bx2, ?_, i2, i3⟩
          unfold f_Lw_isActed
          rw [gd_p kw, if_neg h9, if_neg h12, if_neg h12', if_pos h13, bd1_p c2, gd_p ⟨ky, by omega, by omega⟩, hd, bd1_p c2', bd19_p i1, gd_p (Or.inr rfl)]
        · obtain ⟨⟨kl, Q, r, s, O, B⟩, ⟨hLB, hLN⟩, ⟨past, pasts, hH⟩, hT⟩ := hI
          have hs := set_sp O
          by_cases h14 : w = 14
          · have hm := (td_nn (x := y) (n := 3) hy.1).2
            obtain ⟨count', S0', S1', S2', S3', past', pasts', f1, f2, f3⟩ := set0_fx (v := 3 + y % 3) O hH (by omega)
            have hg : f_Rt_setting (sCap T (3 + y % 3)) 0 = some (3 + y % 3) := get0
            refine ⟨sCap T (3 + y % 3), c_kept, c_keptCount, c_pool, c_left, c_treated, LB, LN, c_row, K, c_characters, c_length, c_parts, c_rectangles, c_part, c_digits, c_value, count', S0', S1', S2', S3', bx, ?_, ⟨⟨kl, Q, r, _, f2, B.same rfl⟩, ⟨hLB, hLN⟩, ⟨past', pasts', f3⟩, hT⟩, Inc.eq ⟨rfl, rfl⟩ (by omega)⟩
            unfold f_Lw_isActed
            rw [gd_p kw, if_neg h9, if_neg h12, if_neg h12', if_neg h13, h14, show (14 : Int) - 14 = 0 from rfl, bd1_p get0, show FU = 4095 + 1 from rfl, f_Lw_isActed_L153, gd_p ⟨by omega, by omega⟩, if_pos rfl, gd_p ⟨ky, by omega, by omega⟩, hm, bd7_p f1, gd_p ⟨by omega, by omega⟩, gd_p ⟨by omega, by omega⟩, if_pos rfl, bd1_p hg, gd_p ⟨by omega, by omega⟩, gd_p ⟨by omega, by omega⟩, if_pos rfl]
          · have h15 : w = 15 := by omega
            have hm := (td_nn (x := y) (n := 2) hy.1).2
            obtain ⟨count', S0', S1', S2', S3', past', pasts', f1, f2, f3⟩ := set1_fx (v := y % 2) O hH (by omega)
            have hg : f_Rt_setting (sRei T (y % 2)) 1 = some (y % 2) := get1
            refine ⟨sRei T (y % 2), c_kept, c_keptCount, c_pool, c_left, c_treated, LB, LN, c_row, K, c_characters, c_length, c_parts, c_rectangles, c_part, c_digits, c_value, count', S0', S1', S2', S3', bx, ?_, ⟨⟨kl, Q, r, _, f2, B.same rfl⟩, ⟨hLB, hLN⟩, ⟨past', pasts', f3⟩, hT⟩, Inc.eq ⟨rfl, rfl⟩ (by omega)⟩
            unfold f_Lw_isActed
            rw [gd_p kw, if_neg h9, if_neg h12, if_neg h12', if_neg h13, h15, show (15 : Int) - 14 = 1 from rfl, bd1_p get1, show FU = 4095 + 1 from rfl, f_Lw_isActed_L153, gd_p ⟨by omega, by omega⟩, if_neg (by omega), gd_p ⟨ky, by omega, by omega⟩, hm, bd7_p f1, gd_p ⟨by omega, by omega⟩, gd_p ⟨by omega, by omega⟩, if_pos rfl, bd1_p hg, gd_p ⟨by omega, by omega⟩, gd_p ⟨by omega, by omega⟩, if_pos rfl]
