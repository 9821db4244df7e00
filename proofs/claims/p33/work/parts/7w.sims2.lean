/-! the changing methods, class beside reference -/
theorem sim_insert {c_hasSnapshot : Int} {T : TV} {c_pool : Nat → Int} {c_left : Int} {c_treated : Int64} {LB : KV} {LN : KV} {K : KV} {c_characters : Nat → Int} {c_length : Int} {c_count : Int} {S0 : TV} {S1 : TV} {S2 : TV} {S3 : TV} {N : TV} {m_s : Nat → Int} {m_past : Nat → Int} {m_kept : Nat → Int} {m_isKept : Int} {m_pasts : Int} {m_text : Nat → Int} {m_typed : Int} {m_rect : Nat → Int} {m_item : Nat → Int} {m_items : Int} {m_itemLevel : Int} {m_treated : Nat → Int} {m_from : Nat → Int} {m_group : Nat → Int} {m_turn : Nat → Int} {m_size : Nat → Int} {m_old : Nat → Int} (hR : Rel c_hasSnapshot T LB LN K c_characters c_length c_count S0 S1 S2 S3 N m_s m_past m_kept m_isKept m_pasts m_text m_typed) (x1 : Int) (x2 : Int) (x3 : Int) (x4 : Int) (g1 : ck x1) (g2 : ck x2) (g3 : ck x3) (g4 : ck x4) : ∃ (r_1 : Int) (T_2 : TV) (c_pool_3 : Nat → Int) (c_left_4 : Int) (c_treated_5 : Int64) (K_6 : KV) (c_count_7 : Int) (S0_8 : TV) (S1_9 : TV) (S2_10 : TV) (S3_11 : TV) (c_s_15 : Nat → Int) (c_past_16 : Nat → Int) (c_pasts_17 : Int) (c_rect_18 : Nat → Int) (c_item_19 : Nat → Int) (c_items_20 : Int) (c_itemLevel_21 : Int) (c_treated_22 : Nat → Int) (c_from_23 : Nat → Int) (c_group_24 : Nat → Int) (c_turn_25 : Nat → Int) (c_size_26 : Nat → Int) (c_old_27 : Nat → Int), f_Rt_insert T c_pool c_left c_treated K c_count S0 S1 S2 S3 x1 x2 x3 x4 = some (r_1, T_2, c_pool_3, c_left_4, c_treated_5, K_6, c_count_7, S0_8, S1_9, S2_10, S3_11) ∧ f_Mo_insert m_s m_past m_pasts m_rect m_item m_items m_itemLevel m_treated m_from m_group m_turn m_size m_old x1 x2 x3 x4 = some (r_1, c_s_15, c_past_16, c_pasts_17, c_rect_18, c_item_19, c_items_20, c_itemLevel_21, c_treated_22, c_from_23, c_group_24, c_turn_25, c_size_26, c_old_27) ∧ Rel c_hasSnapshot T_2 LB LN K_6 c_characters c_length c_count_7 S0_8 S1_9 S2_10 S3_11 N c_s_15 c_past_16 m_kept m_isKept c_pasts_17 m_text m_typed := by
  obtain ⟨⟨kl, Q, r, O⟩, ⟨hLB, hLN⟩, hH, hN, hT⟩ := hR
  have h := O.parts.2.1
  have hn24 := nbx_le (Q := Q) (i := 24)
  unfold f_Rt_insert f_Mo_insert
  rw [isrect_c g1 g2 g3 g4, isrect_m g1 g2 g3 g4]
  by_cases hw : (0 ≤ x1 ∧ x1 ≤ x3 ∧ x3 ≤ 99) ∧ (0 ≤ x2 ∧ x2 ≤ x4 ∧ x4 ≤ 99)
  · by_cases hb : nbx Q 24 < 24
    · obtain ⟨c', S0', S1', S2', S3', past', pasts', e1, e2, e3⟩ := rec_sp hH O.1
      obtain ⟨b, T1, T', kl', Q', r', left', items', il', cc', s', pool', w', it', tr', fr', gr', tu', si', old', a1, a2, a3, a4, a5⟩ := adds_st (pool := c_pool) (left := c_left) (w := m_rect) (it := m_item) (tr := m_treated) (fr := m_from) (gr := m_group) (tu := m_turn) (si := m_size) (old := m_old) O.1 hb hw.1 hw.2
      obtain ⟨K', k1, k2⟩ := number_sp a4 O.2.2.2
      refine ⟨(b : Int), T', pool', left', cc', K', c', S0', S1', S2', S3', s', past', pasts', w', it', items', il', tr', fr', gr', tu', si', old', ?_, ?_, ⟨kl', Q', r', k2⟩, ⟨hLB, hLN⟩, e3, hN, hT⟩
      · rw [if_pos hw, bd1_p rfl, gd_p ck_1, if_neg (by omega), bd1_p (cntb_sp h), gd_p ⟨by omega, by omega⟩, if_pos (by omega), bd5_p e1, bd2_p a1, bd4_p a2, bd1_p k1]
      · rw [if_pos hw, bd1_p rfl, gd_p ck_1, if_neg (by omega), bd1_p (bxc_sp O.1.1.2.2), gd_p ⟨by omega, by omega⟩, if_neg (by omega), bd2_p e2, bd12_p a3]
    · refine ⟨-3, T, c_pool, c_left, c_treated, K, c_count, S0, S1, S2, S3, m_s, m_past, m_pasts, m_rect, m_item, m_items, m_itemLevel, m_treated, m_from, m_group, m_turn, m_size, m_old, ?_, ?_, ⟨kl, Q, r, O⟩, ⟨hLB, hLN⟩, hH, hN, hT⟩
      · rw [if_pos hw, bd1_p rfl, gd_p ck_1, if_neg (by omega), bd1_p (cntb_sp h), gd_p ⟨by omega, by omega⟩, if_neg (by omega)]
      · rw [if_pos hw, bd1_p rfl, gd_p ck_1, if_neg (by omega), bd1_p (bxc_sp O.1.1.2.2), gd_p ⟨by omega, by omega⟩, if_pos (by omega)]
  · refine ⟨-2, T, c_pool, c_left, c_treated, K, c_count, S0, S1, S2, S3, m_s, m_past, m_pasts, m_rect, m_item, m_items, m_itemLevel, m_treated, m_from, m_group, m_turn, m_size, m_old, ?_, ?_, ⟨kl, Q, r, O⟩, ⟨hLB, hLN⟩, hH, hN, hT⟩
    · rw [if_neg hw, bd1_p rfl, gd_p ck_0, if_pos rfl]
    · rw [if_neg hw, bd1_p rfl, gd_p ck_0, if_pos rfl]
theorem sim_remove {c_hasSnapshot : Int} {T : TV} {c_kept : Nat → Int} {c_keptCount : Int} {c_pool : Nat → Int} {c_left : Int} {c_treated : Int64} {LB : KV} {LN : KV} {K : KV} {c_characters : Nat → Int} {c_length : Int} {c_count : Int} {S0 : TV} {S1 : TV} {S2 : TV} {S3 : TV} {N : TV} {m_s : Nat → Int} {m_past : Nat → Int} {m_kept : Nat → Int} {m_isKept : Int} {m_pasts : Int} {m_text : Nat → Int} {m_typed : Int} {m_rect : Nat → Int} {m_item : Nat → Int} {m_items : Int} {m_itemLevel : Int} {m_treated : Nat → Int} {m_from : Nat → Int} {m_group : Nat → Int} {m_turn : Nat → Int} {m_size : Nat → Int} {m_old : Nat → Int} {m_aside : Nat → Int} {m_begin : Nat → Int} {m_level : Nat → Int} {m_asides : Int} (hR : Rel c_hasSnapshot T LB LN K c_characters c_length c_count S0 S1 S2 S3 N m_s m_past m_kept m_isKept m_pasts m_text m_typed) (x1 : Int) (g1 : ck x1) : ∃ (r_1 : Int) (T_2 : TV) (c_kept_3 : Nat → Int) (c_keptCount_4 : Int) (c_pool_5 : Nat → Int) (c_left_6 : Int) (c_treated_7 : Int64) (LB_8 : KV) (LN_9 : KV) (K_10 : KV) (c_count_11 : Int) (S0_12 : TV) (S1_13 : TV) (S2_14 : TV) (S3_15 : TV) (c_s_19 : Nat → Int) (c_past_20 : Nat → Int) (c_pasts_21 : Int) (c_rect_22 : Nat → Int) (c_item_23 : Nat → Int) (c_items_24 : Int) (c_itemLevel_25 : Int) (c_treated_26 : Nat → Int) (c_from_27 : Nat → Int) (c_group_28 : Nat → Int) (c_turn_29 : Nat → Int) (c_size_30 : Nat → Int) (c_old_31 : Nat → Int) (c_aside_32 : Nat → Int) (c_begin_33 : Nat → Int) (c_level_34 : Nat → Int) (c_asides_35 : Int), f_Rt_remove T c_kept c_keptCount c_pool c_left c_treated LB LN K c_count S0 S1 S2 S3 x1 = some (r_1, T_2, c_kept_3, c_keptCount_4, c_pool_5, c_left_6, c_treated_7, LB_8, LN_9, K_10, c_count_11, S0_12, S1_13, S2_14, S3_15) ∧ f_Mo_remove m_s m_past m_pasts m_rect m_item m_items m_itemLevel m_treated m_from m_group m_turn m_size m_old m_aside m_begin m_level m_asides x1 = some (r_1, c_s_19, c_past_20, c_pasts_21, c_rect_22, c_item_23, c_items_24, c_itemLevel_25, c_treated_26, c_from_27, c_group_28, c_turn_29, c_size_30, c_old_31, c_aside_32, c_begin_33, c_level_34, c_asides_35) ∧ Rel c_hasSnapshot T_2 LB_8 LN_9 K_10 c_characters c_length c_count_11 S0_12 S1_13 S2_14 S3_15 N c_s_19 c_past_20 m_kept m_isKept c_pasts_21 m_text m_typed := by
  obtain ⟨⟨kl, Q, r, O⟩, ⟨hLB, hLN⟩, hH, hN, hT⟩ := hR
  have h := O.parts.2.1
  by_cases hin : 0 ≤ x1 ∧ x1 < 24
  · obtain ⟨b, rfl⟩ : ∃ b : Nat, x1 = (b : Int) := ⟨x1.toNat, by omega⟩
    have hb24 : b < 24 := by omega
    by_cases hb : b ∈ Q
    · obtain ⟨c', S0', S1', S2', S3', past', pasts', e1, e2, e3⟩ := rec_sp hH O.1
      obtain ⟨T1, T', kl', Q', r', kc', left', items', il', asides', cc', LB', LN', s', kept', pool', w', it', tr', fr', gr', tu', si', old', aside', begin', level', a1, a2, a3, a4, a5, a6⟩ := rem_st (kept := c_kept) (pool := c_pool) (left := c_left) (cc := c_treated) (w := m_rect) (it := m_item) (items := m_items) (il := m_itemLevel) (tr := m_treated) (fr := m_from) (gr := m_group) (tu := m_turn) (si := m_size) (old := m_old) (aside := m_aside) (begin := m_begin) (level := m_level) (asides := m_asides) O.1 hb hb24 hLB hLN e2
      obtain ⟨K', k1, k2⟩ := number_sp a4 O.2.2.2
      refine ⟨(nbx Q' 24 : Int), T', kept', kc', pool', left', cc', LB', LN', K', c', S0', S1', S2', S3', s', past', pasts', w', it', items', il', tr', fr', gr', tu', si', old', aside', begin', level', asides', ?_, a3, ⟨kl', Q', r', k2⟩, ⟨a5, a6⟩, e3, hN, hT⟩
      unfold f_Rt_remove
      rw [bd1_p (hasb_sp h hb24), if_pos hb, gd_p ck_1, if_neg (by omega), bd5_p e1, bd3_p a1, bd6_p a2, bd1_p k1, bd1_p (cntb_sp a4.1.1.1.1)]
    · refine ⟨-1, T, c_kept, c_keptCount, c_pool, c_left, c_treated, LB, LN, K, c_count, S0, S1, S2, S3, m_s, m_past, m_pasts, m_rect, m_item, m_items, m_itemLevel, m_treated, m_from, m_group, m_turn, m_size, m_old, m_aside, m_begin, m_level, m_asides, ?_, ?_, ⟨kl, Q, r, O⟩, ⟨hLB, hLN⟩, hH, hN, hT⟩
      · unfold f_Rt_remove
        rw [bd1_p (hasb_sp h hb24), if_neg hb, gd_p ck_0, if_pos rfl]
      · unfold f_Mo_remove
        rw [bd1_p (isb_sp O.1.1.2.2 hb24), if_neg hb, gd_p ck_0, if_pos rfl]
  · refine ⟨-1, T, c_kept, c_keptCount, c_pool, c_left, c_treated, LB, LN, K, c_count, S0, S1, S2, S3, m_s, m_past, m_pasts, m_rect, m_item, m_items, m_itemLevel, m_treated, m_from, m_group, m_turn, m_size, m_old, m_aside, m_begin, m_level, m_asides, ?_, ?_, ⟨kl, Q, r, O⟩, ⟨hLB, hLN⟩, hH, hN, hT⟩
    · unfold f_Rt_remove
      rw [bd1_p (hasb_no g1 hin), gd_p ck_0, if_pos rfl]
    · unfold f_Mo_remove
      rw [bd1_p (isb_no g1 hin), gd_p ck_0, if_pos rfl]
theorem sim_setSetting {c_hasSnapshot : Int} {T : TV} {LB : KV} {LN : KV} {K : KV} {c_characters : Nat → Int} {c_length : Int} {c_count : Int} {S0 : TV} {S1 : TV} {S2 : TV} {S3 : TV} {N : TV} {m_s : Nat → Int} {m_past : Nat → Int} {m_kept : Nat → Int} {m_isKept : Int} {m_pasts : Int} {m_text : Nat → Int} {m_typed : Int} (hR : Rel c_hasSnapshot T LB LN K c_characters c_length c_count S0 S1 S2 S3 N m_s m_past m_kept m_isKept m_pasts m_text m_typed) (x1 : Int) (x2 : Int) (g1 : ck x1) (g2 : ck x2) : ∃ (r_1 : Int) (T_2 : TV) (c_count_3 : Int) (S0_4 : TV) (S1_5 : TV) (S2_6 : TV) (S3_7 : TV) (c_s_11 : Nat → Int) (c_past_12 : Nat → Int) (c_pasts_13 : Int), f_Rt_setSetting T c_count S0 S1 S2 S3 x1 x2 = some (r_1, T_2, c_count_3, S0_4, S1_5, S2_6, S3_7) ∧ f_Mo_setSetting m_s m_past m_pasts x1 x2 = some (r_1, c_s_11, c_past_12, c_pasts_13) ∧ Rel c_hasSnapshot T_2 LB LN K c_characters c_length c_count_3 S0_4 S1_5 S2_6 S3_7 N c_s_11 c_past_12 m_kept m_isKept c_pasts_13 m_text m_typed := by
  obtain ⟨⟨kl, Q, r, O⟩, ⟨hLB, hLN⟩, hH, hN, hT⟩ := hR
  have hs := set_sp O
  obtain ⟨c', S0', S1', S2', S3', past', pasts', e1, e2, e3⟩ := rec_sp hH O.1
  by_cases h0 : x1 = 0
  · subst h0
    have hset : f_Rt_setting T 0 = some (tCap T) := by
      unfold f_Rt_setting
      rw [gd_p ck_0, if_pos rfl]
    have hin : f_Mo_in 0 0 1 = some 1 := by
      rw [in_sp ck_0 ck_0 ck_1, if_pos (by omega)]
    by_cases hv : 3 ≤ x2 ∧ x2 ≤ 5
    · have hO := O.1.cap hv
      refine ⟨tCap T, sCap T x2, c', S0', S1', S2', S3', up m_s 0 x2, past', pasts', ?_, ?_, ⟨kl, Q, r, hO, O.2⟩, ⟨hLB, hLN⟩, e3, hN, hT⟩
      · unfold f_Rt_setSetting
        rw [bd1_p hset, gd_p ⟨by omega, by omega⟩, if_neg (by omega), gd_p ck_0, if_pos rfl, if_pos rfl, gd_p g2, if_neg (by omega), if_neg (by omega), bd5_p e1, if_pos rfl]
      · unfold f_Mo_setSetting
        rw [bd1_p hin, gd_p ck_1, if_neg (by omega), gd_p ck_0, if_pos rfl, if_pos rfl, bd1_p (in_sp g2 ⟨by omega, by omega⟩ ⟨by omega, by omega⟩), if_pos hv, gd_p ck_1, if_neg (by omega), bd2_p e2, gd_p ⟨by omega, by omega⟩, show (0 : Int).toNat = 0 from rfl, hs.1]
    · refine ⟨-2, T, c_count, S0, S1, S2, S3, m_s, m_past, m_pasts, ?_, ?_, ⟨kl, Q, r, O⟩, ⟨hLB, hLN⟩, hH, hN, hT⟩
      · unfold f_Rt_setSetting
        rw [bd1_p hset, gd_p ⟨by omega, by omega⟩, if_neg (by omega), gd_p ck_0, if_pos rfl, if_pos rfl, gd_p g2]
        by_cases h3 : x2 < 3
        · rw [if_pos h3]
        · rw [if_neg h3, if_pos (by omega)]
      · unfold f_Mo_setSetting
        rw [bd1_p hin, gd_p ck_1, if_neg (by omega), gd_p ck_0, if_pos rfl, if_pos rfl, bd1_p (in_sp g2 ⟨by omega, by omega⟩ ⟨by omega, by omega⟩), if_neg hv, gd_p ck_0, if_pos rfl]
  · by_cases h1 : x1 = 1
    · subst h1
      have hset : f_Rt_setting T 1 = some (tRei T) := by
        unfold f_Rt_setting
        rw [gd_p ck_1, if_neg (by omega), if_pos rfl]
      have hin : f_Mo_in 1 0 1 = some 1 := by
        rw [in_sp ck_1 ck_0 ck_1, if_pos (by omega)]
      by_cases hv : 0 ≤ x2 ∧ x2 ≤ 1
      · have hO := O.1.rei (v := x2) (by omega)
        refine ⟨tRei T, sRei T x2, c', S0', S1', S2', S3', up m_s 1 x2, past', pasts', ?_, ?_, ⟨kl, Q, r, hO, O.2⟩, ⟨hLB, hLN⟩, e3, hN, hT⟩
        · unfold f_Rt_setSetting
          rw [bd1_p hset, gd_p ⟨by omega, by omega⟩, if_neg (by omega), gd_p ck_1, if_neg (by omega), if_neg (by omega), gd_p g2, if_neg (by omega), if_neg (by omega), bd5_p e1, if_neg (by omega)]
        · unfold f_Mo_setSetting
          rw [bd1_p hin, gd_p ck_1, if_neg (by omega), gd_p ck_1, if_neg (by omega), if_neg (by omega), bd1_p (in_sp g2 ck_0 ck_1), if_pos hv, gd_p ck_1, if_neg (by omega), bd2_p e2, gd_p ⟨by omega, by omega⟩, show (1 : Int).toNat = 1 from rfl, hs.2.1]
      · refine ⟨-2, T, c_count, S0, S1, S2, S3, m_s, m_past, m_pasts, ?_, ?_, ⟨kl, Q, r, O⟩, ⟨hLB, hLN⟩, hH, hN, hT⟩
        · unfold f_Rt_setSetting
          rw [bd1_p hset, gd_p ⟨by omega, by omega⟩, if_neg (by omega), gd_p ck_1, if_neg (by omega), if_neg (by omega), gd_p g2]
          by_cases h3 : x2 < 0
          · rw [if_pos h3]
          · rw [if_neg h3, if_pos (by omega)]
        · unfold f_Mo_setSetting
          rw [bd1_p hin, gd_p ck_1, if_neg (by omega), gd_p ck_1, if_neg (by omega), if_neg (by omega), bd1_p (in_sp g2 ck_0 ck_1), if_neg hv, gd_p ck_0, if_pos rfl]
    · refine ⟨-1, T, c_count, S0, S1, S2, S3, m_s, m_past, m_pasts, ?_, ?_, ⟨kl, Q, r, O⟩, ⟨hLB, hLN⟩, hH, hN, hT⟩
      · unfold f_Rt_setSetting f_Rt_setting
        rw [gd_p g1, if_neg h0, if_neg h1, bd1_p rfl, gd_p ⟨by omega, by omega⟩, if_pos rfl]
      · unfold f_Mo_setSetting
        rw [bd1_p (in_sp g1 ck_0 ck_1), if_neg (by omega), gd_p ck_0, if_pos rfl]
theorem sim_append {c_hasSnapshot : Int} {T : TV} {LB : KV} {LN : KV} {K : KV} {c_characters : Nat → Int} {c_length : Int} {c_count : Int} {S0 : TV} {S1 : TV} {S2 : TV} {S3 : TV} {N : TV} {m_s : Nat → Int} {m_past : Nat → Int} {m_kept : Nat → Int} {m_isKept : Int} {m_pasts : Int} {m_text : Nat → Int} {m_typed : Int} (hR : Rel c_hasSnapshot T LB LN K c_characters c_length c_count S0 S1 S2 S3 N m_s m_past m_kept m_isKept m_pasts m_text m_typed) (x1 : Int) (g1 : ck x1) : ∃ (r_1 : Int) (c_characters_2 : Nat → Int) (c_length_3 : Int) (c_text_7 : Nat → Int) (c_typed_8 : Int), f_Rt_append c_characters c_length x1 = some (r_1, c_characters_2, c_length_3) ∧ f_Mo_append m_text m_typed x1 = some (r_1, c_text_7, c_typed_8) ∧ Rel c_hasSnapshot T LB LN K c_characters_2 c_length_3 c_count S0 S1 S2 S3 N m_s m_past m_kept m_isKept m_pasts c_text_7 c_typed_8 := by
  obtain ⟨⟨kl, Q, r, O⟩, ⟨hLB, hLN⟩, hH, hN, hT⟩ := hR
  obtain ⟨len, hl1, hl2, hlen, hch⟩ := hT
  subst hl1
  subst hl2
  by_cases hv : 32 ≤ x1 ∧ x1 ≤ 126
  · by_cases h80 : len < 80
    · refine ⟨(len : Int) + 1, up c_characters len x1, (len : Int) + 1, up m_text len x1, (len : Int) + 1, ?_, ?_, ⟨kl, Q, r, O⟩, ⟨hLB, hLN⟩, hH, hN, len + 1, by omega, by omega, by omega, fun i hi => ?_⟩
      · unfold f_Rt_append f_Tx_isFull f_Tx_addLast
        rw [gd_p g1, if_neg (by omega), if_neg (by omega), gd_p ⟨by omega, by omega⟩, if_pos (by omega), bd1_p rfl, gd_p ck_0, if_pos rfl, bd1_p (put_sp (by omega) h80), bd3_p rfl]
      · unfold f_Mo_append
        rw [bd1_p (in_sp g1 ⟨by omega, by omega⟩ ⟨by omega, by omega⟩), if_pos hv, gd_p ck_1, if_neg (by omega), gd_p ⟨by omega, by omega⟩, if_neg (by omega), gd_p ⟨by omega, by omega⟩, show ((len : Int)).toNat = len by omega]
      · by_cases hil : i = len
        · rw [hil, up_s, up_s]
          exact ⟨rfl, hv⟩
        · rw [up_o hil, up_o hil]
          exact hch i (by omega)
    · refine ⟨-3, c_characters, (len : Int), m_text, (len : Int), ?_, ?_, ⟨kl, Q, r, O⟩, ⟨hLB, hLN⟩, hH, hN, len, rfl, rfl, hlen, hch⟩
      · unfold f_Rt_append f_Tx_isFull
        rw [gd_p g1, if_neg (by omega), if_neg (by omega), gd_p ⟨by omega, by omega⟩, if_neg (by omega), bd1_p rfl, gd_p ck_1, if_neg (by omega)]
      · unfold f_Mo_append
        rw [bd1_p (in_sp g1 ⟨by omega, by omega⟩ ⟨by omega, by omega⟩), if_pos hv, gd_p ck_1, if_neg (by omega), gd_p ⟨by omega, by omega⟩, if_pos (by omega)]
  · refine ⟨-2, c_characters, (len : Int), m_text, (len : Int), ?_, ?_, ⟨kl, Q, r, O⟩, ⟨hLB, hLN⟩, hH, hN, len, rfl, rfl, hlen, hch⟩
    · unfold f_Rt_append
      rw [gd_p g1]
      by_cases h32 : x1 < 32
      · rw [if_pos h32]
      · rw [if_neg h32, if_pos (by omega)]
    · unfold f_Mo_append
      rw [bd1_p (in_sp g1 ⟨by omega, by omega⟩ ⟨by omega, by omega⟩), if_neg hv, gd_p ck_0, if_pos rfl]
theorem sim_clearText {c_hasSnapshot : Int} {T : TV} {LB : KV} {LN : KV} {K : KV} {c_characters : Nat → Int} {c_length : Int} {c_count : Int} {S0 : TV} {S1 : TV} {S2 : TV} {S3 : TV} {N : TV} {m_s : Nat → Int} {m_past : Nat → Int} {m_kept : Nat → Int} {m_isKept : Int} {m_pasts : Int} {m_text : Nat → Int} {m_typed : Int} (hR : Rel c_hasSnapshot T LB LN K c_characters c_length c_count S0 S1 S2 S3 N m_s m_past m_kept m_isKept m_pasts m_text m_typed)   : ∃ (r_1 : Int) (c_length_2 : Int) (c_typed_6 : Int), f_Rt_clearText c_length = some (r_1, c_length_2) ∧ f_Mo_clearText m_typed = some (r_1, c_typed_6) ∧ Rel c_hasSnapshot T LB LN K c_characters c_length_2 c_count S0 S1 S2 S3 N m_s m_past m_kept m_isKept m_pasts m_text c_typed_6 := by
  obtain ⟨⟨kl, Q, r, O⟩, ⟨hLB, hLN⟩, hH, hN, hT⟩ := hR
  obtain ⟨len, hl1, hl2, hlen, hch⟩ := hT
  subst hl1
  subst hl2
  exact ⟨(len : Int), 0, 0, rfl, rfl, ⟨kl, Q, r, O⟩, ⟨hLB, hLN⟩, hH, hN, 0, rfl, rfl, Nat.zero_le _, fun i hi => absurd hi (by omega)⟩
theorem sim_fault {c_hasSnapshot : Int} {T : TV} {LB : KV} {LN : KV} {K : KV} {c_characters : Nat → Int} {c_length : Int} {c_parts : Nat → Int} {c_count : Int} {S0 : TV} {S1 : TV} {S2 : TV} {S3 : TV} {N : TV} {m_s : Nat → Int} {m_past : Nat → Int} {m_kept : Nat → Int} {m_isKept : Int} {m_pasts : Int} {m_text : Nat → Int} {m_typed : Int} {m_parts : Nat → Int} (hR : Rel c_hasSnapshot T LB LN K c_characters c_length c_count S0 S1 S2 S3 N m_s m_past m_kept m_isKept m_pasts m_text m_typed)   : ∃ (r_1 : Int) (c_parts_2 : Nat → Int) (c_rectangles_3 : Int) (c_part_4 : Int) (c_digits_5 : Int) (c_value_6 : Int) (c_spot_10 : Int) (c_rectangles_11 : Int) (c_parts_12 : Nat → Int), f_Rt_fault c_characters c_length c_parts = some (r_1, c_parts_2, c_rectangles_3, c_part_4, c_digits_5, c_value_6) ∧ f_Mo_fault m_text m_typed m_parts = some (r_1, c_spot_10, c_rectangles_11, c_parts_12) := by
  obtain ⟨⟨kl, Q, r, O⟩, ⟨hLB, hLN⟩, hH, hN, hT⟩ := hR
  obtain ⟨len, hl1, hl2, hE⟩ := hT
  subst hl1
  subst hl2
  rcases txt_sp hE c_parts m_parts with ⟨f, ⟨y1, y2⟩, ⟨z1, z2, z3, z4, z5⟩, e1, e2, e3⟩ | ⟨n', spot, mP', P', e1, e2, e3⟩
  · refine ⟨(f : Int), z1, z2, z3, z4, z5, (f : Int), y1, y2, ?_, ?_⟩
    · unfold f_Rt_fault
      rw [bd6_p e2]
    · unfold f_Mo_fault
      rw [bd4_p e1, gd_p ck_0, if_pos rfl]
  · refine ⟨-5, P', (n' : Int), 0, 0, 0, spot, (n' : Int), mP', ?_, ?_⟩
    · unfold f_Rt_fault
      rw [bd6_p e2]
    · unfold f_Mo_fault
      rw [bd4_p e1, gd_p ck_1, if_neg (by omega)]
theorem sim_read {c_hasSnapshot : Int} {T : TV} {c_pool : Nat → Int} {c_left : Int} {c_treated : Int64} {LB : KV} {LN : KV} {K : KV} {c_characters : Nat → Int} {c_length : Int} {c_parts : Nat → Int} {c_count : Int} {S0 : TV} {S1 : TV} {S2 : TV} {S3 : TV} {N : TV} {m_s : Nat → Int} {m_past : Nat → Int} {m_kept : Nat → Int} {m_isKept : Int} {m_pasts : Int} {m_text : Nat → Int} {m_typed : Int} {m_rect : Nat → Int} {m_item : Nat → Int} {m_items : Int} {m_itemLevel : Int} {m_treated : Nat → Int} {m_from : Nat → Int} {m_group : Nat → Int} {m_turn : Nat → Int} {m_size : Nat → Int} {m_old : Nat → Int} {m_parts : Nat → Int} (hR : Rel c_hasSnapshot T LB LN K c_characters c_length c_count S0 S1 S2 S3 N m_s m_past m_kept m_isKept m_pasts m_text m_typed)   : ∃ (r_1 : Int) (T_2 : TV) (c_pool_3 : Nat → Int) (c_left_4 : Int) (c_treated_5 : Int64) (K_6 : KV) (c_parts_7 : Nat → Int) (c_rectangles_8 : Int) (c_part_9 : Int) (c_digits_10 : Int) (c_value_11 : Int) (c_count_12 : Int) (S0_13 : TV) (S1_14 : TV) (S2_15 : TV) (S3_16 : TV) (c_s_20 : Nat → Int) (c_past_21 : Nat → Int) (c_pasts_22 : Int) (c_rect_23 : Nat → Int) (c_item_24 : Nat → Int) (c_items_25 : Int) (c_itemLevel_26 : Int) (c_treated_27 : Nat → Int) (c_from_28 : Nat → Int) (c_group_29 : Nat → Int) (c_turn_30 : Nat → Int) (c_size_31 : Nat → Int) (c_old_32 : Nat → Int) (c_spot_33 : Int) (c_rectangles_34 : Int) (c_parts_35 : Nat → Int), f_Rt_read T c_pool c_left c_treated K c_characters c_length c_parts c_count S0 S1 S2 S3 = some (r_1, T_2, c_pool_3, c_left_4, c_treated_5, K_6, c_parts_7, c_rectangles_8, c_part_9, c_digits_10, c_value_11, c_count_12, S0_13, S1_14, S2_15, S3_16) ∧ f_Mo_read m_s m_past m_pasts m_text m_typed m_rect m_item m_items m_itemLevel m_treated m_from m_group m_turn m_size m_old m_parts = some (r_1, c_s_20, c_past_21, c_pasts_22, c_rect_23, c_item_24, c_items_25, c_itemLevel_26, c_treated_27, c_from_28, c_group_29, c_turn_30, c_size_31, c_old_32, c_spot_33, c_rectangles_34, c_parts_35) ∧ Rel c_hasSnapshot T_2 LB LN K_6 c_characters c_length c_count_12 S0_13 S1_14 S2_15 S3_16 N c_s_20 c_past_21 m_kept m_isKept c_pasts_22 m_text m_typed := by
  obtain ⟨⟨kl, Q, r, O⟩, ⟨hLB, hLN⟩, hH, hN, hT⟩ := hR
  have h := O.parts.2.1
  obtain ⟨len, hl1, hl2, hE⟩ := hT
  have hT2 := hE
  subst hl1
  subst hl2
  have hn24 := nbx_le (Q := Q) (i := 24)
  rcases txt_sp hE c_parts m_parts with ⟨f, ⟨y1, y2⟩, ⟨z1, z2, z3, z4, z5⟩, e1, e2, e3⟩ | ⟨n', spot, mP', P', e1, e2, e3, e4, e5⟩
  · refine ⟨-100 - (f : Int), T, c_pool, c_left, c_treated, K, z1, z2, z3, z4, z5, c_count, S0, S1, S2, S3, m_s, m_past, m_pasts, m_rect, m_item, m_items, m_itemLevel, m_treated, m_from, m_group, m_turn, m_size, m_old, (f : Int), y1, y2, ?_, ?_, ⟨kl, Q, r, O⟩, ⟨hLB, hLN⟩, hH, hN, len, rfl, rfl, hT2⟩
    · unfold f_Rt_read
      rw [bd6_p e2, gd_p ⟨by omega, by omega⟩, if_neg (by omega)]
    · unfold f_Mo_read
      rw [bd4_p e1, gd_p ck_0, if_pos rfl]
  · by_cases hb : nbx Q 24 + n' ≤ 24
    · obtain ⟨c', S0', S1', S2', S3', past', pasts', r1, r2, r3⟩ := rec_sp hH O.1
      obtain ⟨T', kl', Q', r', s', pool', w', it', tr', fr', gr', tu', si', old', left', items', il', cc', a1, a2, a3⟩ := rd_go e4 e5 e3 (fun x3_51 T_52 c_pool_53 c_left_54 c_treated_55 => bd1 (f_Rt_numberNodes T_52 K) <| fun K_57 => some ((n' : Int), T_52, c_pool_53, c_left_54, c_treated_55, K_57, P', (n' : Int), 0, 0, 0, c', S0', S1', S2', S3')) (fun x1_39 c_s_40 c_rect_41 c_item_42 c_items_43 c_itemLevel_44 c_treated_45 c_from_46 c_group_47 c_turn_48 c_size_49 c_old_50 => some ((n' : Int), c_s_40, past', pasts', c_rect_41, c_item_42, c_items_43, c_itemLevel_44, c_treated_45, c_from_46, c_group_47, c_turn_48, c_size_49, c_old_50, spot, (n' : Int), mP')) n' 0 FU FU T kl Q r m_s c_pool m_rect m_item m_treated m_from m_group m_turn m_size m_old c_left m_items m_itemLevel c_treated (by omega) (by unfold FU; omega) (by unfold FU; omega) O.1 hb
      obtain ⟨K', k1, k2⟩ := number_sp a3 O.2.2.2
      refine ⟨(n' : Int), T', pool', left', cc', K', P', (n' : Int), 0, 0, 0, c', S0', S1', S2', S3', s', past', pasts', w', it', items', il', tr', fr', gr', tu', si', old', spot, (n' : Int), mP', ?_, ?_, ⟨kl', Q', r', k2⟩, ⟨hLB, hLN⟩, r3, hN, len, rfl, rfl, hT2⟩
      · unfold f_Rt_read
        rw [bd6_p e2, gd_p ⟨by omega, by omega⟩, if_pos rfl, bd1_p (cntb_sp h), gd_p ⟨by omega, by omega⟩, if_neg (by omega), bd5_p r1]
        refine Eq.trans a1 ?_
        rw [bd1_p k1]
      · unfold f_Mo_read
        rw [bd4_p e1, gd_p ck_1, if_neg (by omega), bd1_p (bxc_sp O.1.1.2.2), gd_p ⟨by omega, by omega⟩, if_neg (by omega), bd2_p r2]
        exact a2
    · refine ⟨-3, T, c_pool, c_left, c_treated, K, P', (n' : Int), 0, 0, 0, c_count, S0, S1, S2, S3, m_s, m_past, m_pasts, m_rect, m_item, m_items, m_itemLevel, m_treated, m_from, m_group, m_turn, m_size, m_old, spot, (n' : Int), mP', ?_, ?_, ⟨kl, Q, r, O⟩, ⟨hLB, hLN⟩, hH, hN, len, rfl, rfl, hT2⟩
      · unfold f_Rt_read
        rw [bd6_p e2, gd_p ⟨by omega, by omega⟩, if_pos rfl, bd1_p (cntb_sp h), gd_p ⟨by omega, by omega⟩, if_pos (by omega)]
      · unfold f_Mo_read
        rw [bd4_p e1, gd_p ck_1, if_neg (by omega), bd1_p (bxc_sp O.1.1.2.2), gd_p ⟨by omega, by omega⟩, if_pos (by omega)]
theorem sim_undo {c_hasSnapshot : Int} {T : TV} {LB : KV} {LN : KV} {K : KV} {c_characters : Nat → Int} {c_length : Int} {c_count : Int} {S0 : TV} {S1 : TV} {S2 : TV} {S3 : TV} {N : TV} {m_s : Nat → Int} {m_past : Nat → Int} {m_kept : Nat → Int} {m_isKept : Int} {m_pasts : Int} {m_text : Nat → Int} {m_typed : Int} (hR : Rel c_hasSnapshot T LB LN K c_characters c_length c_count S0 S1 S2 S3 N m_s m_past m_kept m_isKept m_pasts m_text m_typed)   : ∃ (r_1 : Int) (T_2 : TV) (K_3 : KV) (c_count_4 : Int) (S0_5 : TV) (S1_6 : TV) (S2_7 : TV) (S3_8 : TV) (c_s_12 : Nat → Int) (c_pasts_13 : Int), f_Rt_undo T K c_count S0 S1 S2 S3 = some (r_1, T_2, K_3, c_count_4, S0_5, S1_6, S2_7, S3_8) ∧ f_Mo_undo m_s m_past m_pasts = some (r_1, c_s_12, c_pasts_13) ∧ Rel c_hasSnapshot T_2 LB LN K_3 c_characters c_length c_count_4 S0_5 S1_6 S2_7 S3_8 N c_s_12 m_past m_kept m_isKept c_pasts_13 m_text m_typed := by
  obtain ⟨⟨kl, Q, r, O⟩, ⟨hLB, hLN⟩, hH, hN, hT⟩ := hR
  obtain ⟨hc1, n, hn, hc, hp, hcs⟩ := id hH
  by_cases h0 : c_count = 0
  · refine ⟨-5, T, K, c_count, S0, S1, S2, S3, m_s, m_pasts, ?_, ?_, ⟨kl, Q, r, O⟩, ⟨hLB, hLN⟩, hH, hN, hT⟩
    · unfold f_Rt_undo
      rw [gd_p ⟨by omega, by omega⟩, if_pos h0]
    · unfold f_Mo_undo
      rw [gd_p ⟨by omega, by omega⟩, if_pos (by omega)]
  · obtain ⟨T', kl', Q', r', s', e1, e2, e3, e4⟩ := undo_sp (s := m_s) hH O.1.wr h0
    obtain ⟨K', k1, k2⟩ := number_sp e3 O.2.2.2
    refine ⟨c_count - 1, T', K', c_count - 1, S0, S1, S2, S3, s', c_count - 1, ?_, e2, ⟨kl', Q', r', k2⟩, ⟨hLB, hLN⟩, e4, hN, hT⟩
    unfold f_Rt_undo
    rw [gd_p ⟨by omega, by omega⟩, if_neg h0, bd6_p e1, bd1_p k1]
theorem sim_save {c_hasSnapshot : Int} {T : TV} {LB : KV} {LN : KV} {K : KV} {c_characters : Nat → Int} {c_length : Int} {c_count : Int} {S0 : TV} {S1 : TV} {S2 : TV} {S3 : TV} {N : TV} {m_s : Nat → Int} {m_past : Nat → Int} {m_kept : Nat → Int} {m_isKept : Int} {m_pasts : Int} {m_text : Nat → Int} {m_typed : Int} (hR : Rel c_hasSnapshot T LB LN K c_characters c_length c_count S0 S1 S2 S3 N m_s m_past m_kept m_isKept m_pasts m_text m_typed)   : ∃ (r_1 : Int) (c_hasSnapshot_2 : Int) (N_3 : TV) (c_kept_7 : Nat → Int) (c_isKept_8 : Int), f_Rt_save T N = some (r_1, c_hasSnapshot_2, N_3) ∧ f_Mo_save m_s m_kept = some (r_1, c_kept_7, c_isKept_8) ∧ Rel c_hasSnapshot_2 T LB LN K c_characters c_length c_count S0 S1 S2 S3 N_3 m_s m_past c_kept_7 c_isKept_8 m_pasts m_text m_typed := by
  obtain ⟨⟨kl, Q, r, O⟩, ⟨hLB, hLN⟩, hH, hN, hT⟩ := hR
  have h := O.parts.2.1
  obtain ⟨N', e1, e2⟩ := copy_st hN.1 O.1
  obtain ⟨a', f1, f2⟩ := sv_go (s := m_s) (fun x1_4 c_kept_5 => bd1 (f_Mo_boxCount m_s) <| fun r_6 => some (r_6, c_kept_5, 1)) 461 0 FU m_kept rfl (by unfold FU; omega) (fun j hj => absurd hj (by omega))
  refine ⟨(nbx Q 24 : Int), 1, N', a', 1, ?_, ?_, ⟨kl, Q, r, O⟩, ⟨hLB, hLN⟩, hH, ⟨e2.wr, rfl, Or.inr rfl, fun _ => ⟨kl, Q, r, e2.ext f2⟩⟩, hT⟩
  · unfold f_Rt_save
    rw [bd1_p e1, bd1_p (cntb_sp h)]
  · unfold f_Mo_save
    refine Eq.trans f1 ?_
    rw [bd1_p (bxc_sp O.1.1.2.2)]
theorem sim_restore {c_hasSnapshot : Int} {T : TV} {LB : KV} {LN : KV} {K : KV} {c_characters : Nat → Int} {c_length : Int} {c_count : Int} {S0 : TV} {S1 : TV} {S2 : TV} {S3 : TV} {N : TV} {m_s : Nat → Int} {m_past : Nat → Int} {m_kept : Nat → Int} {m_isKept : Int} {m_pasts : Int} {m_text : Nat → Int} {m_typed : Int} (hR : Rel c_hasSnapshot T LB LN K c_characters c_length c_count S0 S1 S2 S3 N m_s m_past m_kept m_isKept m_pasts m_text m_typed)   : ∃ (r_1 : Int) (T_2 : TV) (K_3 : KV) (c_count_4 : Int) (S0_5 : TV) (S1_6 : TV) (S2_7 : TV) (S3_8 : TV) (c_s_12 : Nat → Int) (c_past_13 : Nat → Int) (c_pasts_14 : Int), f_Rt_restore c_hasSnapshot T K c_count S0 S1 S2 S3 N = some (r_1, T_2, K_3, c_count_4, S0_5, S1_6, S2_7, S3_8) ∧ f_Mo_restore m_s m_past m_kept m_isKept m_pasts = some (r_1, c_s_12, c_past_13, c_pasts_14) ∧ Rel c_hasSnapshot T_2 LB LN K_3 c_characters c_length c_count_4 S0_5 S1_6 S2_7 S3_8 N c_s_12 c_past_13 m_kept m_isKept c_pasts_14 m_text m_typed := by
  obtain ⟨⟨kl, Q, r, O⟩, ⟨hLB, hLN⟩, hH, hN, hT⟩ := hR
  obtain ⟨hN1, hN2, hN3, hN4⟩ := id hN
  by_cases h0 : m_isKept = 0
  · refine ⟨-4, T, K, c_count, S0, S1, S2, S3, m_s, m_past, m_pasts, ?_, ?_, ⟨kl, Q, r, O⟩, ⟨hLB, hLN⟩, hH, hN, hT⟩
    · unfold f_Rt_restore
      rw [gd_p ⟨by omega, by omega⟩, if_pos (by omega)]
    · unfold f_Mo_restore
      rw [gd_p ⟨by omega, by omega⟩, if_pos h0]
  · obtain ⟨kl2, Q2, r2, O2⟩ := hN4 (by omega)
    obtain ⟨c', S0', S1', S2', S3', past', pasts', r1, r2', r3⟩ := rec_sp hH O.1
    obtain ⟨T', e1, e2⟩ := copy_st O.1.wr O2
    obtain ⟨K', k1, k2⟩ := number_sp e2 O.2.2.2
    obtain ⟨s', f1, f2⟩ := rt_go (s := m_kept) (fun x1_10 c_s_11 => bd1 (f_Mo_boxCount c_s_11) <| fun r_12 => some (r_12, c_s_11, past', pasts')) 461 0 FU m_s rfl (by unfold FU; omega) (fun j hj => absurd hj (by omega))
    have e3 := e2.ext f2
    obtain ⟨K'', k1'', k2''⟩ := number_sp e3 O.2.2.2
    have hKK : K' = K'' := Option.some.inj (k1.symm.trans k1'')
    subst hKK
    refine ⟨(nbx Q2 24 : Int), T', K', c', S0', S1', S2', S3', s', past', pasts', ?_, ?_, ⟨kl2, Q2, r2, k2''⟩, ⟨hLB, hLN⟩, r3, hN, hT⟩
    · unfold f_Rt_restore
      rw [gd_p ⟨by omega, by omega⟩, if_neg (by omega), bd5_p r1, bd1_p e1, bd1_p k1, bd1_p (cntb_sp e2.1.1.1.1)]
    · unfold f_Mo_restore
      rw [gd_p ⟨by omega, by omega⟩, if_neg h0, bd2_p r2']
      refine Eq.trans f1 ?_
      rw [bd1_p (bxc_sp e3.1.2.2)]
