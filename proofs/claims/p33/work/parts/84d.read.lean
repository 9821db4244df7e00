/-! two rectangles as a text, read -/
theorem scan2_go {T : TV} {kl : Nat → List Nat} {Q : List Nat} {bx : Nat → Int} (B : Bk T Q bx) (h : Ar T kl Q) {b : Nat} (hb : b < 24) (hlow : ∀ c, c < b → c ∈ Q) (hst : b ∉ Q) (k : Int → Option RDT) : ∀ (d i n : Nat), i + d = b → d < n → f_Lw_isRead_L119 24 bx k n (i : Int) = k (b : Int)
  | 0, i, n + 1, hi, hn => by
    have hi : i = b := by omega
    subst hi
    have hbn := B.neg h (b := i) (by omega)
    rw [f_Lw_isRead_L119, gd_p ⟨by omega, by omega⟩, gd_p ⟨by omega, by omega⟩, show ((i : Int)).toNat = i by omega, gd_p hbn.2, if_pos (hbn.1.mpr hst)]
  | d + 1, i, n + 1, hi, hn => by
    have hbn := B.neg h (b := i) (by omega)
    rw [f_Lw_isRead_L119, gd_p ⟨by omega, by omega⟩, gd_p ⟨by omega, by omega⟩, show ((i : Int)).toNat = i by omega, gd_p hbn.2, if_neg (fun q => (hbn.1.mp q) (hlow i (by omega))), show (i : Int) + 1 = ((i + 1 : Nat) : Int) by omega]
    exact scan2_go B h hb hlow hst k d (i + 1) n (by omega) (by omega)
/-- the row takes one more number -/
theorem row_step {T : TV} {kl : Nat → List Nat} {Q : List Nat} {bx : Nat → Int} {x2 x3 : Int} (B : Bk T Q bx) (h : Ar T kl Q) {b j n m : Nat} (hb : b < 24 ∧ b ∉ Q ∧ ∀ c, c < b → c ∈ Q) (hj : j < 2) (hm : m < 23) (k : Int → (Nat → Int) → Option RDT) : f_Lw_isRead_L103 24 x2 x3 (m : Int) k (n + 1) (j : Int) bx = f_Lw_isRead_L103 24 x2 x3 (m : Int) k n ((j + 1 : Nat) : Int) (up bx b (if j = 0 then x2 else x3)) := by
  rw [f_Lw_isRead_L103, gd_p ⟨by omega, by omega⟩, if_pos (by omega), gd_p ⟨by omega, by omega⟩, if_pos (by omega)]
  refine Eq.trans (scan2_go B h hb.1 hb.2.2 hb.2.1 _ b 0 FU (by omega) (by unfold FU; omega)) ?_
  rw [show FU = 4095 + 1 from rfl, f_Lw_isRead_L132, gd_p ⟨by omega, by omega⟩]
  by_cases h0 : j = 0
  · rw [if_pos (by omega), gd_p ⟨by omega, by omega⟩, gd_p ⟨by omega, by omega⟩, show ((b : Int)).toNat = b by omega, if_pos h0, show (j : Int) + 1 = ((j + 1 : Nat) : Int) by omega]
  · rw [if_neg (by omega), gd_p ⟨by omega, by omega⟩, gd_p ⟨by omega, by omega⟩, show ((b : Int)).toNat = b by omega, if_neg h0, show (j : Int) + 1 = ((j + 1 : Nat) : Int) by omega]
theorem part_sp {P : Nat → Int} {i t : Nat} (hi : i < 2) (ht : t < 4) : f_Tx_partOf P (i : Int) (t : Int) = some (P (4 * i + t)) := by
  unfold f_Tx_partOf
  rw [show ((i : Int) * 4 + (t : Int)) = ((4 * i + t : Nat) : Int) by omega, bd1_p (at_sp (by omega) (by omega))]
theorem read_step {P : Nat → Int} {T T1 T' : TV} {pool pool' : Nat → Int} {left left' : Int} {cc cc' : Int64} {b i n : Nat} (hi : i < 2) (e1 : f_Tr_newBox T (P (4 * i)) (P (4 * i + 1)) (P (4 * i + 2)) (P (4 * i + 3)) = some ((b : Int), T1)) (e2 : f_Ch_insertOwn pool left T1 (b : Int) = some (pool', left', cc', T')) (k : Int → TV → (Nat → Int) → Int → Int64 → Option (Int × TV × (Nat → Int) × Int × Int64 × KV × (Nat → Int) × Int × Int × Int × Int × Int × TV × TV × TV × TV)) : f_Rt_read_L57 P 2 k (n + 1) (i : Int) T pool left cc = f_Rt_read_L57 P 2 k n ((i + 1 : Nat) : Int) T' pool' left' cc' := by
  have p0 : f_Tx_partOf P (i : Int) 0 = some (P (4 * i)) := part_sp (t := 0) hi (by omega)
  have p1 : f_Tx_partOf P (i : Int) 1 = some (P (4 * i + 1)) := part_sp (t := 1) hi (by omega)
  have p2 : f_Tx_partOf P (i : Int) 2 = some (P (4 * i + 2)) := part_sp (t := 2) hi (by omega)
  have p3 : f_Tx_partOf P (i : Int) 3 = some (P (4 * i + 3)) := part_sp (t := 3) hi (by omega)
  rw [f_Rt_read_L57, gd_p ⟨by omega, by omega⟩, gd_p ⟨by omega, by omega⟩, if_pos (by omega), bd1_p p0, bd1_p p1, bd1_p p2, bd1_p p3, bd2_p e1, bd4_p e2, show (i : Int) + 1 = ((i + 1 : Nat) : Int) by omega]
/-- eight numbers -/
def c8 (a b p q a' b' p' q' : Int) : Nat → Int := fun k => if k = 0 then a else if k = 1 then b else if k = 2 then p else if k = 3 then q else if k = 4 then a' else if k = 5 then b' else if k = 6 then p' else q'
theorem c8_ok {a b p q a' b' p' q' : Int} (h : wi a b p q) (h' : wi a' b' p' q') : (∀ k : Nat, k < 8 → 0 ≤ c8 a b p q a' b' p' q' k ∧ c8 a b p q a' b' p' q' k ≤ 99) ∧ ∀ k : Nat, k < 8 → 2 ≤ k % 4 → c8 a b p q a' b' p' q' (k - 2) ≤ c8 a b p q a' b' p' q' k := by
  obtain ⟨⟨a1, a2, a3⟩, a4, a5, a6⟩ := h
  obtain ⟨⟨b1, b2, b3⟩, b4, b5, b6⟩ := h'
  constructor
  · intro k hk
    rcases (show k = 0 ∨ k = 1 ∨ k = 2 ∨ k = 3 ∨ k = 4 ∨ k = 5 ∨ k = 6 ∨ k = 7 by omega) with rfl | rfl | rfl | rfl | rfl | rfl | rfl | rfl
    · show 0 ≤ a ∧ a ≤ 99; omega
    · show 0 ≤ b ∧ b ≤ 99; omega
    · show 0 ≤ p ∧ p ≤ 99; omega
    · show 0 ≤ q ∧ q ≤ 99; omega
    · show 0 ≤ a' ∧ a' ≤ 99; omega
    · show 0 ≤ b' ∧ b' ≤ 99; omega
    · show 0 ≤ p' ∧ p' ≤ 99; omega
    · show 0 ≤ q' ∧ q' ≤ 99; omega
  · intro k hk h2
    rcases (show k = 2 ∨ k = 3 ∨ k = 6 ∨ k = 7 by omega) with rfl | rfl | rfl | rfl
    · show a ≤ p; omega
    · show b ≤ q; omega
    · show a' ≤ p'; omega
    · show b' ≤ q'; omega
theorem read_ok {T : TV} {LB LN K : KV} {c_length c_count c_left c_rectangles c_part c_digits c_value : Int} {c_pool bx c_characters c_parts : Nat → Int} {c_treated : Int64} {S0 S1 S2 S3 : TV} {a b p q a' b' p' q' : Int} (hI : LC T LB LN K c_length c_count S0 S1 S2 S3 bx) (hw : wi a b p q) (hw' : wi a' b' p' q') : ∃ (T2 : TV) (pool2 : Nat → Int) (left2 : Int) (treated2 : Int64) (K2 : KV) (ch2 : Nat → Int) (len2 : Int) (parts2 : Nat → Int) (rect2 part2 digits2 value2 count2 : Int) (S0' S1' S2' S3' : TV) (bx2 : Nat → Int), f_Lw_isRead 24 T c_pool c_left c_treated K c_characters c_length c_parts c_rectangles c_part c_digits c_value c_count S0 S1 S2 S3 bx (e4 a b p q) (e4 a' b' p' q') = some (1, T2, pool2, left2, treated2, K2, ch2, len2, parts2, rect2, part2, digits2, value2, count2, S0', S1', S2', S3', bx2) ∧ LC T2 LB LN K2 len2 count2 S0' S1' S2' S3' bx2 ∧ Inc T T2 29491200 := by
  obtain ⟨⟨kl, Q, r, s, O, B⟩, hL, ⟨past, pasts, hH⟩, len0, hT0, hT1⟩ := hI
  subst hT0
  have h := O.parts.2.1
  have hn24 := nbx_le (Q := Q) (i := 24)
  obtain ⟨hC, hle⟩ := c8_ok hw hw'
  have cn := cn_sp (a := a) (b := b) (p := p) (q := q) ⟨by have := hw.1; omega, by have := hw.1; omega⟩ ⟨by have := hw.2; omega, by have := hw.2; omega⟩ ⟨by have := hw.1; omega, by have := hw.1; omega⟩ ⟨by have := hw.2; omega, by have := hw.2; omega⟩
  have cn' := cn_sp (a := a') (b := b') (p := p') (q := q') ⟨by have := hw'.1; omega, by have := hw'.1; omega⟩ ⟨by have := hw'.2; omega, by have := hw'.2; omega⟩ ⟨by have := hw'.1; omega, by have := hw'.1; omega⟩ ⟨by have := hw'.2; omega, by have := hw'.2; omega⟩
  have h2 : ∀ k : Nat, k < 4 → f_Lw_corner (e4 a b p q) (Int.tmod (k : Int) 4) = some (c8 a b p q a' b' p' q' k) := fun k hk => by
    rcases (show k = 0 ∨ k = 1 ∨ k = 2 ∨ k = 3 by omega) with rfl | rfl | rfl | rfl
    · exact cn.1
    · exact cn.2.1
    · exact cn.2.2.1
    · exact cn.2.2.2
  have h3 : ∀ k : Nat, 4 ≤ k → k < 8 → f_Lw_corner (e4 a' b' p' q') (Int.tmod (k : Int) 4) = some (c8 a b p q a' b' p' q' k) := fun k hk hk8 => by
    rcases (show k = 4 ∨ k = 5 ∨ k = 6 ∨ k = 7 by omega) with rfl | rfl | rfl | rfl
    · exact cn'.1
    · exact cn'.2.1
    · exact cn'.2.2.1
    · exact cn'.2.2.2
  generalize hCC : c8 a b p q a' b' p' q' = C at hC hle h2 h3
  have v0 : C 0 = a ∧ C 1 = b ∧ C 2 = p ∧ C 3 = q ∧ C 4 = a' ∧ C 5 = b' ∧ C 6 = p' ∧ C 7 = q' := by
    rw [← hCC]
    exact ⟨rfl, rfl, rfl, rfl, rfl, rfl, rfl, rfl⟩
  have h8 := tl_len (C := C) (k := 8)
  have hcl : f_Rt_clearText (len0 : Int) = some ((len0 : Int), 0) := rfl
  by_cases hb : nbx Q 24 < 23
  · obtain ⟨c', S0', S1', S2', S3', past', pasts', e1, e2, e3⟩ := rec_sp hH O.1
    obtain ⟨x, T1, Ta, kla, Qa, ra, lefta, cca, sa, poola, a1, a2, a3, a4, a5, a6, a7⟩ := add_fx (pool := c_pool) (left := c_left) O.1 B (by omega) hw.1 hw.2
    have ha := a3.1.1.1.1
    obtain ⟨y, T2, Tb, klb, Qb, rb, leftb, ccb, sb, poolb, b1, b2, b3, b4, b5, b6, b7⟩ := add_fx (pool := poola) (left := lefta) a3 a6 (by omega) hw'.1 hw'.2
    obtain ⟨K', k1, k2⟩ := number_sp b3 O.2.2.2
    have hfin : ∀ ch : Nat → Int, Tt ch (tl C 8) → f_Rt_read T c_pool c_left c_treated K ch ((tl C 8).length : Int) (pp c_parts C 8) c_count S0 S1 S2 S3 = some (2, Tb, poolb, leftb, ccb, K', pp (pp c_parts C 8) C 8, 2, 0, 0, 0, c', S0', S1', S2', S3') := fun ch hch => by
      have w : ∀ j, j < 8 → pp (pp c_parts C 8) C 8 j = C j := fun j hj => pp_at hj
      unfold f_Rt_read
      rw [bd6_p (fault_ok hC hle hch), gd_p ⟨by omega, by omega⟩, if_pos rfl, bd1_p (cntb_sp h), gd_p ⟨by omega, by omega⟩, if_neg (by omega), bd5_p e1]
      have r1 : f_Tr_newBox T (pp (pp c_parts C 8) C 8 (4 * 0)) (pp (pp c_parts C 8) C 8 (4 * 0 + 1)) (pp (pp c_parts C 8) C 8 (4 * 0 + 2)) (pp (pp c_parts C 8) C 8 (4 * 0 + 3)) = some ((x : Int), T1) := by
        rw [w _ (by omega), w _ (by omega), w _ (by omega), w _ (by omega), v0.1, v0.2.1, v0.2.2.1, v0.2.2.2.1]
        exact a1
      have r2 : f_Tr_newBox Ta (pp (pp c_parts C 8) C 8 (4 * 1)) (pp (pp c_parts C 8) C 8 (4 * 1 + 1)) (pp (pp c_parts C 8) C 8 (4 * 1 + 2)) (pp (pp c_parts C 8) C 8 (4 * 1 + 3)) = some ((y : Int), T2) := by
        rw [w _ (by omega), w _ (by omega), w _ (by omega), w _ (by omega), v0.2.2.2.2.1, v0.2.2.2.2.2.1, v0.2.2.2.2.2.2.1, v0.2.2.2.2.2.2.2]
        exact b1
      refine Eq.trans (read_step (n := 4095) (i := 0) (cc := c_treated) (by omega) r1 a2 _) ?_
      refine Eq.trans (read_step (n := 4094) (i := 1) (cc := cca) (by omega) r2 b2 _) ?_
      rw [show (4094 : Nat) = 4093 + 1 from rfl, f_Rt_read_L57, gd_p ⟨by omega, by omega⟩, gd_p ⟨by omega, by omega⟩, if_neg (by omega), bd1_p k1]
    have hgo := type_go (x2 := e4 a b p q) (x3 := e4 a' b' p' q') hC h2 h3 (fun x4_72 x5_73 c_characters_74 c_length_75 => bd1 (f_Lw_many 24 bx) <| fun r_76 => f_Lw_isRead_L103 (24) (e4 a b p q) (e4 a' b' p' q') (r_76) (fun x6_95 fA1_96 => gd (ck x4_72) <| if x4_72 = 0 then (some (0, T, c_pool, c_left, c_treated, K, c_characters_74, c_length_75, c_parts, c_rectangles, c_part, c_digits, c_value, c_count, S0, S1, S2, S3, fA1_96)) else (bd6 (f_Rt_fault c_characters_74 c_length_75 c_parts) <| fun r_99 c_parts_100 c_rectangles_101 c_part_102 c_digits_103 c_value_104 => gd (ck r_99) <| if r_99 = (-5) then (bd16 (f_Rt_read T c_pool c_left c_treated K c_characters_74 c_length_75 c_parts_100 c_count S0 S1 S2 S3) <| fun r_109 T_110 c_pool_111 c_left_112 c_treated_113 K_114 c_parts_115 c_rectangles_116 c_part_117 c_digits_118 c_value_119 c_count_120 S0_121 S1_122 S2_123 S3_124 => gd (ck r_76) <| if r_76 < 23 then (gd (ck r_109) <| if r_109 = 2 then (some (1, T_110, c_pool_111, c_left_112, c_treated_113, K_114, c_characters_74, c_length_75, c_parts_115, c_rectangles_116, c_part_117, c_digits_118, c_value_119, c_count_120, S0_121, S1_122, S2_123, S3_124, fA1_96)) else (some (0, T_110, c_pool_111, c_left_112, c_treated_113, K_114, c_characters_74, c_length_75, c_parts_115, c_rectangles_116, c_part_117, c_digits_118, c_value_119, c_count_120, S0_121, S1_122, S2_123, S3_124, fA1_96))) else (gd (ck r_109) <| if r_109 = (-3) then (some (1, T_110, c_pool_111, c_left_112, c_treated_113, K_114, c_characters_74, c_length_75, c_parts_115, c_rectangles_116, c_part_117, c_digits_118, c_value_119, c_count_120, S0_121, S1_122, S2_123, S3_124, fA1_96)) else (some (0, T_110, c_pool_111, c_left_112, c_treated_113, K_114, c_characters_74, c_length_75, c_parts_115, c_rectangles_116, c_part_117, c_digits_118, c_value_119, c_count_120, S0_121, S1_122, S2_123, S3_124, fA1_96)))) else (some (0, T, c_pool, c_left, c_treated, K, c_characters_74, c_length_75, c_parts_100, c_rectangles_101, c_part_102, c_digits_103, c_value_104, c_count, S0, S1, S2, S3, fA1_96)))) FU (0) (bx)) 8 0 FU c_characters rfl (by unfold FU; omega) Tt.nil
    obtain ⟨ch, g1, g2⟩ := hgo
    refine ⟨Tb, poolb, leftb, ccb, K', ch, ((tl C 8).length : Int), pp (pp c_parts C 8) C 8, 2, 0, 0, 0, c', S0', S1', S2', S3', up (up bx x (e4 a b p q)) y (e4 a' b' p' q'), ?_, ⟨⟨klb, Qb, rb, sb, k2, b6⟩, hL, ⟨past', pasts', e3⟩, (tl C 8).length, rfl, by omega⟩, (a7.tr b7 (by omega))⟩
    unfold f_Lw_isRead
    have hL0 : ∀ K9 : Int → Int → Option RDT, f_Lw_isRead_L0 K9 FU 0 (len0 : Int) = K9 1 0 := fun K9 => by
      rw [show FU = 4095 + 1 from rfl, f_Lw_isRead_L0, bd2_p hcl, gd_p ⟨by omega, by omega⟩, if_neg (by omega)]
    refine Eq.trans (hL0 _) ?_
    refine Eq.trans g1 ?_
    have hmid : ∀ K9 : Int → (Nat → Int) → Option RDT, f_Lw_isRead_L103 24 (e4 a b p q) (e4 a' b' p' q') (nbx Q 24 : Int) K9 FU 0 bx = K9 2 (up (up bx x (e4 a b p q)) y (e4 a' b' p' q')) := fun K9 => by
      refine Eq.trans (row_step (n := 4095) (j := 0) B h a5 (by omega) hb K9) ?_
      refine Eq.trans (row_step (n := 4094) (j := 1) a6 ha b5 (by omega) hb K9) ?_
      rw [show (4094 : Nat) = 4093 + 1 from rfl, f_Lw_isRead_L103, gd_p ⟨by omega, by omega⟩, if_neg (by omega)]
      rfl
    have hfa : f_Rt_fault ch ((tl C 8).length : Int) c_parts = some (-5, pp c_parts C 8, 2, 0, 0, 0) := by
      unfold f_Rt_fault
      rw [bd6_p (fault_ok hC hle g2)]
    rw [bd1_p (many_sp B h)]
    refine Eq.trans (hmid _) ?_
    rw [gd_p ck_1, if_neg (by omega), bd6_p hfa, gd_p ⟨by omega, by omega⟩, if_pos rfl, bd16_p (hfin ch g2), gd_p ⟨by omega, by omega⟩, if_pos (by omega), gd_p ⟨by omega, by omega⟩, if_pos rfl]
  · have hfin : ∀ ch : Nat → Int, Tt ch (tl C 8) → f_Rt_read T c_pool c_left c_treated K ch ((tl C 8).length : Int) (pp c_parts C 8) c_count S0 S1 S2 S3 = some (-3, T, c_pool, c_left, c_treated, K, pp (pp c_parts C 8) C 8, 2, 0, 0, 0, c_count, S0, S1, S2, S3) := fun ch hch => by
      unfold f_Rt_read
      rw [bd6_p (fault_ok hC hle hch), gd_p ⟨by omega, by omega⟩, if_pos rfl, bd1_p (cntb_sp h), gd_p ⟨by omega, by omega⟩, if_pos (by omega)]
    have hgo := type_go (x2 := e4 a b p q) (x3 := e4 a' b' p' q') hC h2 h3 (fun x4_72 x5_73 c_characters_74 c_length_75 => bd1 (f_Lw_many 24 bx) <| fun r_76 => f_Lw_isRead_L103 (24) (e4 a b p q) (e4 a' b' p' q') (r_76) (fun x6_95 fA1_96 => gd (ck x4_72) <| if x4_72 = 0 then (some (0, T, c_pool, c_left, c_treated, K, c_characters_74, c_length_75, c_parts, c_rectangles, c_part, c_digits, c_value, c_count, S0, S1, S2, S3, fA1_96)) else (bd6 (f_Rt_fault c_characters_74 c_length_75 c_parts) <| fun r_99 c_parts_100 c_rectangles_101 c_part_102 c_digits_103 c_value_104 => gd (ck r_99) <| if r_99 = (-5) then (bd16 (f_Rt_read T c_pool c_left c_treated K c_characters_74 c_length_75 c_parts_100 c_count S0 S1 S2 S3) <| fun r_109 T_110 c_pool_111 c_left_112 c_treated_113 K_114 c_parts_115 c_rectangles_116 c_part_117 c_digits_118 c_value_119 c_count_120 S0_121 S1_122 S2_123 S3_124 => gd (ck r_76) <| if r_76 < 23 then (gd (ck r_109) <| if r_109 = 2 then (some (1, T_110, c_pool_111, c_left_112, c_treated_113, K_114, c_characters_74, c_length_75, c_parts_115, c_rectangles_116, c_part_117, c_digits_118, c_value_119, c_count_120, S0_121, S1_122, S2_123, S3_124, fA1_96)) else (some (0, T_110, c_pool_111, c_left_112, c_treated_113, K_114, c_characters_74, c_length_75, c_parts_115, c_rectangles_116, c_part_117, c_digits_118, c_value_119, c_count_120, S0_121, S1_122, S2_123, S3_124, fA1_96))) else (gd (ck r_109) <| if r_109 = (-3) then (some (1, T_110, c_pool_111, c_left_112, c_treated_113, K_114, c_characters_74, c_length_75, c_parts_115, c_rectangles_116, c_part_117, c_digits_118, c_value_119, c_count_120, S0_121, S1_122, S2_123, S3_124, fA1_96)) else (some (0, T_110, c_pool_111, c_left_112, c_treated_113, K_114, c_characters_74, c_length_75, c_parts_115, c_rectangles_116, c_part_117, c_digits_118, c_value_119, c_count_120, S0_121, S1_122, S2_123, S3_124, fA1_96)))) else (some (0, T, c_pool, c_left, c_treated, K, c_characters_74, c_length_75, c_parts_100, c_rectangles_101, c_part_102, c_digits_103, c_value_104, c_count, S0, S1, S2, S3, fA1_96)))) FU (0) (bx)) 8 0 FU c_characters rfl (by unfold FU; omega) Tt.nil
    obtain ⟨ch, g1, g2⟩ := hgo
    refine ⟨T, c_pool, c_left, c_treated, K, ch, ((tl C 8).length : Int), pp (pp c_parts C 8) C 8, 2, 0, 0, 0, c_count, S0, S1, S2, S3, bx, ?_, ⟨⟨kl, Q, r, s, O, B⟩, hL, ⟨past, pasts, hH⟩, (tl C 8).length, rfl, by omega⟩, Inc.rf (by omega)⟩
    unfold f_Lw_isRead
    have hL0 : ∀ K9 : Int → Int → Option RDT, f_Lw_isRead_L0 K9 FU 0 (len0 : Int) = K9 1 0 := fun K9 => by
      rw [show FU = 4095 + 1 from rfl, f_Lw_isRead_L0, bd2_p hcl, gd_p ⟨by omega, by omega⟩, if_neg (by omega)]
    refine Eq.trans (hL0 _) ?_
    refine Eq.trans g1 ?_
    have hmid : ∀ K9 : Int → (Nat → Int) → Option RDT, f_Lw_isRead_L103 24 (e4 a b p q) (e4 a' b' p' q') (nbx Q 24 : Int) K9 FU 0 bx = K9 0 bx := fun K9 => by
      rw [show FU = 4095 + 1 from rfl, f_Lw_isRead_L103, gd_p ck_0, if_pos (by omega), gd_p ⟨by omega, by omega⟩, if_neg (by omega)]
    have hfa : f_Rt_fault ch ((tl C 8).length : Int) c_parts = some (-5, pp c_parts C 8, 2, 0, 0, 0) := by
      unfold f_Rt_fault
      rw [bd6_p (fault_ok hC hle g2)]
    rw [bd1_p (many_sp B h)]
    refine Eq.trans (hmid _) ?_
    rw [gd_p ck_1, if_neg (by omega), bd6_p hfa, gd_p ⟨by omega, by omega⟩, if_pos rfl, bd16_p (hfin ch g2), gd_p ⟨by omega, by omega⟩, if_neg (by omega), gd_p ⟨by omega, by omega⟩, if_pos rfl]
