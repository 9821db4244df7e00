/-! what the law does to the object, one call after another -/
def LC (T : TV) (LB LN K : KV) (c_length c_count : Int) (S0 S1 S2 S3 : TV) (bx : Nat → Int) : Prop :=
  (∃ (kl : Nat → List Nat) (Q : List Nat) (r : Nat) (s : Nat → Int), Nm T K kl Q r s ∧ Bk T Q bx) ∧ (KR LB ∧ KR LN) ∧ (∃ (past : Nat → Int) (pasts : Int), HR c_count S0 S1 S2 S3 past pasts) ∧ ∃ len : Nat, c_length = (len : Int) ∧ len ≤ 80
theorem nbx_full {Q : List Nat} : ∀ {i : Nat}, nbx Q i = i → ∀ b, b < i → b ∈ Q
  | 0, _, b, hb => absurd hb (by omega)
  | i + 1, h, b, hb => by
    rw [nbx_succ] at h
    have h1 := nbx_le (Q := Q) (i := i)
    by_cases hi : i ∈ Q
    · rw [if_pos hi] at h
      by_cases hbi : b = i
      · rw [hbi]; exact hi
      · exact nbx_full (Q := Q) (i := i) (by omega) b (by omega)
    · rw [if_neg hi] at h
      omega
theorem scan_go {T : TV} {kl : Nat → List Nat} {Q : List Nat} {bx : Nat → Int} (B : Bk T Q bx) (h : Ar T kl Q) {b : Nat} (hb : b ≤ 24) (hlow : ∀ c, c < b → c ∈ Q) (hst : b = 24 ∨ b ∉ Q) (k : Int → Option (Int × TV × (Nat → Int) × Int × Int64 × KV × Int × TV × TV × TV × TV × (Nat → Int))) : ∀ (d i n : Nat), i + d = b → d < n → f_Lw_isInserted_L2 24 bx k n (i : Int) = k (b : Int)
  | 0, i, n + 1, hi, hn => by
    have hi : i = b := by omega
    subst hi
    rw [f_Lw_isInserted_L2, gd_p ⟨by omega, by omega⟩]
    by_cases h24 : i = 24
    · rw [if_neg (by omega)]
    · have hbn := B.neg h (b := i) (by omega)
      rw [if_pos (by omega), gd_p ⟨by omega, by omega⟩, show ((i : Int)).toNat = i by omega, gd_p hbn.2, if_pos (hbn.1.mpr (hst.resolve_left h24))]
  | d + 1, i, n + 1, hi, hn => by
    have hbn := B.neg h (b := i) (by omega)
    rw [f_Lw_isInserted_L2, gd_p ⟨by omega, by omega⟩, if_pos (by omega), gd_p ⟨by omega, by omega⟩, show ((i : Int)).toNat = i by omega, gd_p hbn.2, if_neg (fun q => (hbn.1.mp q) (hlow i (by omega))), show (i : Int) + 1 = ((i + 1 : Nat) : Int) by omega]
    exact scan_go B h hb hlow hst k d (i + 1) n (by omega) (by omega)
theorem ins_ok {T : TV} {LB LN K : KV} {c_length c_count c_left : Int} {c_pool bx : Nat → Int} {c_treated : Int64} {S0 S1 S2 S3 : TV} {a b p q : Int} (hI : LC T LB LN K c_length c_count S0 S1 S2 S3 bx) (hw : wi a b p q) : ∃ (T2 : TV) (pool2 : Nat → Int) (left2 : Int) (treated2 : Int64) (K2 : KV) (count2 : Int) (S0' S1' S2' S3' : TV) (bx2 : Nat → Int), f_Lw_isInserted 24 T c_pool c_left c_treated K c_count S0 S1 S2 S3 bx (e4 a b p q) = some (1, T2, pool2, left2, treated2, K2, count2, S0', S1', S2', S3', bx2) ∧ LC T2 LB LN K2 c_length count2 S0' S1' S2' S3' bx2 ∧ Inc T T2 29491200 := by
  obtain ⟨⟨kl, Q, r, s, O, B⟩, hL, ⟨past, pasts, hH⟩, hT⟩ := hI
  have h := O.parts.2.1
  have hn24 := nbx_le (Q := Q) (i := 24)
  have cn := cn_sp (a := a) (b := b) (p := p) (q := q) ⟨by have := hw.1; omega, by have := hw.1; omega⟩ ⟨by have := hw.2; omega, by have := hw.2; omega⟩ ⟨by have := hw.1; omega, by have := hw.1; omega⟩ ⟨by have := hw.2; omega, by have := hw.2; omega⟩
  have g1 : ck a := ⟨by have := hw.1; omega, by have := hw.1; omega⟩
  have g2 : ck b := ⟨by have := hw.2; omega, by have := hw.2; omega⟩
  have g3 : ck p := ⟨by have := hw.1; omega, by have := hw.1; omega⟩
  have g4 : ck q := ⟨by have := hw.2; omega, by have := hw.2; omega⟩
  by_cases hb : nbx Q 24 < 24
  · obtain ⟨c', S0', S1', S2', S3', past', pasts', e1, e2, e3⟩ := rec_sp hH O.1
    obtain ⟨x, T1, T', kl', Q', r', left', cc', s', pool', a1, a2, a3, a4, a5, a6, a7⟩ := add_fx (pool := c_pool) (left := c_left) O.1 B hb hw.1 hw.2
    obtain ⟨K', k1, k2⟩ := number_sp a3 O.2.2.2
    have hins : f_Rt_insert T c_pool c_left c_treated K c_count S0 S1 S2 S3 a b p q = some ((x : Int), T', pool', left', cc', K', c', S0', S1', S2', S3') := by
      unfold f_Rt_insert
      rw [isrect_c g1 g2 g3 g4, if_pos (show (0 ≤ a ∧ a ≤ p ∧ p ≤ 99) ∧ 0 ≤ b ∧ b ≤ q ∧ q ≤ 99 from hw), bd1_p rfl, gd_p ck_1, if_neg (by omega), bd1_p (cntb_sp h), gd_p ⟨by omega, by omega⟩, if_pos (by omega), bd5_p e1, bd2_p a1, bd4_p a2, bd1_p k1]
    refine ⟨T', pool', left', cc', K', c', S0', S1', S2', S3', up bx x (e4 a b p q), ?_, ⟨⟨kl', Q', r', s', k2, a6⟩, hL, ⟨past', pasts', e3⟩, hT⟩, a7.le (by omega)⟩
    unfold f_Lw_isInserted
    refine Eq.trans (scan_go B h (b := x) (by omega) a5.2.2 (Or.inr a5.2.1) _ x 0 FU (by omega) (by unfold FU; omega)) ?_
    rw [show FU = 4095 + 1 from rfl, f_Lw_isInserted_L20, gd_p ⟨by omega, by omega⟩, if_pos (by omega), gd_p ⟨by omega, by omega⟩, show ((x : Int)).toNat = x by omega, bd1_p cn.1, bd1_p cn.2.1, bd1_p cn.2.2.1, bd1_p cn.2.2.2, bd11_p hins, gd_p ⟨by omega, by omega⟩, if_pos (by omega), gd_p ⟨by omega, by omega⟩, if_pos rfl]
  · have hfull := nbx_full (Q := Q) (i := 24) (by omega)
    have hins : f_Rt_insert T c_pool c_left c_treated K c_count S0 S1 S2 S3 a b p q = some (-3, T, c_pool, c_left, c_treated, K, c_count, S0, S1, S2, S3) := by
      unfold f_Rt_insert
      rw [isrect_c g1 g2 g3 g4, if_pos (show (0 ≤ a ∧ a ≤ p ∧ p ≤ 99) ∧ 0 ≤ b ∧ b ≤ q ∧ q ≤ 99 from hw), bd1_p rfl, gd_p ck_1, if_neg (by omega), bd1_p (cntb_sp h), gd_p ⟨by omega, by omega⟩, if_neg (by omega)]
    refine ⟨T, c_pool, c_left, c_treated, K, c_count, S0, S1, S2, S3, bx, ?_, ⟨⟨kl, Q, r, s, O, B⟩, hL, ⟨past, pasts, hH⟩, hT⟩, Inc.rf (by omega)⟩
    unfold f_Lw_isInserted
    refine Eq.trans (scan_go B h (b := 24) (by omega) hfull (Or.inl rfl) _ 24 0 FU (by omega) (by unfold FU; omega)) ?_
    rw [show FU = 4095 + 1 from rfl, f_Lw_isInserted_L20, gd_p ⟨by omega, by omega⟩, if_neg (by omega), bd1_p cn.1, bd1_p cn.2.1, bd1_p cn.2.2.1, bd1_p cn.2.2.2, bd11_p hins, gd_p ⟨by omega, by omega⟩, if_neg (by omega), gd_p ⟨by omega, by omega⟩, if_pos rfl]
/-- a box goes: the class's step, and the row's -/
theorem rem_fx {T : TV} {K LB LN : KV} {kl : Nat → List Nat} {Q : List Nat} {r b : Nat} {s bx kept pool : Nat → Int} {left keptCount c_count : Int} {cc : Int64} {S0 S1 S2 S3 : TV} {past : Nat → Int} {pasts : Int} (O : Nm T K kl Q r s) (B : Bk T Q bx) (hb : b ∈ Q) (hb24 : b < 24) (hLB : KR LB) (hLN : KR LN) (hH : HR c_count S0 S1 S2 S3 past pasts) : ∃ (T' : TV) (kl' : Nat → List Nat) (Q' : List Nat) (r' : Nat) (s' kept' pool' : Nat → Int) (kc' left' count' : Int) (cc' : Int64) (LB' LN' K' : KV) (S0' S1' S2' S3' : TV) (past' : Nat → Int) (pasts' : Int), f_Rt_remove T kept keptCount pool left cc LB LN K c_count S0 S1 S2 S3 (b : Int) = some ((nbx Q' 24 : Int), T', kept', kc', pool', left', cc', LB', LN', K', count', S0', S1', S2', S3') ∧ Nm T' K' kl' Q' r' s' ∧ KR LB' ∧ KR LN' ∧ Bk T' Q' (up bx b (-1)) ∧ Inc T T' 29491200 ∧ HR count' S0' S1' S2' S3' past' pasts' := by
  have h := O.parts.2.1
  obtain ⟨c', S0', S1', S2', S3', past', pasts', e1, e2, e3⟩ := rec_sp hH O.1
  obtain ⟨T1, T', kl', Q', r', kc', left', items', il', asides', cc', LB', LN', s', kept', pool', w', it', tr', fr', gr', tu', si', old', aside', begin', level', a1, a2, a3, a4, a5, a6, a7, a8⟩ := rem_st2 (kept := kept) (pool := pool) (left := left) (cc := cc) (w := fun _ => 0) (it := fun _ => 0) (items := 0) (il := 0) (tr := fun _ => 0) (fr := fun _ => 0) (gr := fun _ => 0) (tu := fun _ => 0) (si := fun _ => 0) (old := fun _ => 0) (aside := fun _ => 0) (begin := fun _ => 0) (level := fun _ => 0) (asides := 0) O.1 hb hb24 hLB hLN e2
  obtain ⟨K', k1, k2⟩ := number_sp a4 O.2.2.2
  have A' := a4.1.1.1.1
  have hct : ∀ j, j < 96 → tCor T j = tCor T' j := fun j hj => (sc_Ch_takeOutBox j hj kept T (b : Int) (kept', kc', T1) a1).trans (sc_Ch_putBackKept j hj kept' kc' pool left cc T1 LB LN (pool', left', cc', T', LB', LN') a2)
  refine ⟨T', kl', Q', r', s', kept', pool', kc', left', c', cc', LB', LN', K', S0', S1', S2', S3', past', pasts', ?_, k2, a5, a6, fun c hc => ⟨fun hq => ?_, fun hq => ?_⟩, (Inc.eq (b := 0) (sr_Ch_takeOutBox kept T (b : Int) (kept', kc', T1) a1) (by omega)).tr a8 (by omega), e3⟩
  · unfold f_Rt_remove
    rw [bd1_p (hasb_sp h hb24), if_pos hb, gd_p ck_1, if_neg (by omega), bd5_p e1, bd3_p a1, bd6_p a2, bd1_p k1, bd1_p (cntb_sp A')]
  · have h1 := (a7 c hc).mp hq
    rw [up_o h1.2, (B c hc).1 h1.1]
    unfold en
    rw [hct _ (by omega), hct _ (by omega), hct _ (by omega), hct _ (by omega)]
  · by_cases hcb : c = b
    · rw [hcb]
      exact up_s
    · rw [up_o hcb]
      exact (B c hc).2 (fun q => hq ((a7 c hc).mpr ⟨q, hcb⟩))
theorem pack_fx {T : TV} {K : KV} {kl : Nat → List Nat} {Q : List Nat} {r : Nat} {s bx row : Nat → Int} {c_count : Int} {S0 S1 S2 S3 : TV} {past : Nat → Int} {pasts : Int} (O : Nm T K kl Q r s) (B : Bk T Q bx) (hH : HR c_count S0 S1 S2 S3 past pasts) : ∃ (T' : TV) (kl' : Nat → List Nat) (Q' : List Nat) (r' : Nat) (s' row' : Nat → Int) (count' : Int) (K' : KV) (S0' S1' S2' S3' : TV) (past' : Nat → Int) (pasts' : Int), f_Rt_pack T row K c_count S0 S1 S2 S3 = some (kCnt K', T', row', K', count', S0', S1', S2', S3') ∧ Nm T' K' kl' Q' r' s' ∧ Bk T' Q' bx ∧ Inc T T' 29491200 ∧ HR count' S0' S1' S2' S3' past' pasts' := by
  obtain ⟨c', S0', S1', S2', S3', past', pasts', e1, e2, e3⟩ := rec_sp hH O.1
  obtain ⟨T', kl', Q', r', row', s', sr', c, a1, a2, a3, a4, a5⟩ := pk_all2 (row0 := row) (sr0 := fun _ => 0) O.1 e2
  obtain ⟨K', k1, k2⟩ := number_sp a4 O.2.2.2
  have hct : ∀ j, j < 96 → tCor T j = tCor T' j := fun j hj => sc_Pk_rebuild j hj row T (row', T') a1
  refine ⟨T', kl', Q', r', s', row', c', K', S0', S1', S2', S3', past', pasts', ?_, k2, fun b hb => ⟨fun hq => ?_, fun hq => ?_⟩, Inc.eq (sr_Pk_rebuild row T (row', T') a1) (by omega), e3⟩
  · unfold f_Rt_pack
    rw [bd5_p e1, bd2_p a1, bd1_p k1]
  · rw [(B b hb).1 ((a5 b hb).mp hq)]
    unfold en
    rw [hct _ (by omega), hct _ (by omega), hct _ (by omega), hct _ (by omega)]
  · exact (B b hb).2 (fun q => hq ((a5 b hb).mpr q))
theorem Bk.same {T T' : TV} {Q : List Nat} {bx : Nat → Int} (B : Bk T Q bx) (h : tCor T' = tCor T) : Bk T' Q bx := fun b hb => by
  rw [h]
  exact B b hb
theorem get0 {T : TV} : f_Rt_setting T 0 = some (tCap T) := by
  unfold f_Rt_setting
  rw [gd_p ck_0, if_pos rfl]
theorem get1 {T : TV} : f_Rt_setting T 1 = some (tRei T) := by
  unfold f_Rt_setting
  rw [gd_p ck_1, if_neg (by omega), if_pos rfl]
theorem set0_fx {T : TV} {K : KV} {kl : Nat → List Nat} {Q : List Nat} {r : Nat} {s : Nat → Int} {c_count v : Int} {S0 S1 S2 S3 : TV} {past : Nat → Int} {pasts : Int} (O : Nm T K kl Q r s) (hH : HR c_count S0 S1 S2 S3 past pasts) (hv : 3 ≤ v ∧ v ≤ 5) : ∃ (count' : Int) (S0' S1' S2' S3' : TV) (past' : Nat → Int) (pasts' : Int), f_Rt_setSetting T c_count S0 S1 S2 S3 0 v = some (tCap T, sCap T v, count', S0', S1', S2', S3') ∧ Nm (sCap T v) K kl Q r (up s 0 v) ∧ HR count' S0' S1' S2' S3' past' pasts' := by
  have hs := set_sp O
  obtain ⟨c', S0', S1', S2', S3', past', pasts', e1, e2, e3⟩ := rec_sp hH O.1
  refine ⟨c', S0', S1', S2', S3', past', pasts', ?_, ⟨O.1.cap hv, O.2⟩, e3⟩
  unfold f_Rt_setSetting
  rw [bd1_p get0, gd_p ⟨by omega, by omega⟩, if_neg (by omega), gd_p ck_0, if_pos rfl, if_pos rfl, gd_p ⟨by omega, by omega⟩, if_neg (by omega), if_neg (by omega), bd5_p e1, if_pos rfl]
theorem set1_fx {T : TV} {K : KV} {kl : Nat → List Nat} {Q : List Nat} {r : Nat} {s : Nat → Int} {c_count v : Int} {S0 S1 S2 S3 : TV} {past : Nat → Int} {pasts : Int} (O : Nm T K kl Q r s) (hH : HR c_count S0 S1 S2 S3 past pasts) (hv : 0 ≤ v ∧ v ≤ 1) : ∃ (count' : Int) (S0' S1' S2' S3' : TV) (past' : Nat → Int) (pasts' : Int), f_Rt_setSetting T c_count S0 S1 S2 S3 1 v = some (tRei T, sRei T v, count', S0', S1', S2', S3') ∧ Nm (sRei T v) K kl Q r (up s 1 v) ∧ HR count' S0' S1' S2' S3' past' pasts' := by
  have hs := set_sp O
  obtain ⟨c', S0', S1', S2', S3', past', pasts', e1, e2, e3⟩ := rec_sp hH O.1
  refine ⟨c', S0', S1', S2', S3', past', pasts', ?_, ⟨O.1.rei (v := v) (by omega), O.2⟩, e3⟩
  unfold f_Rt_setSetting
  rw [bd1_p get1, gd_p ⟨by omega, by omega⟩, if_neg (by omega), gd_p ck_1, if_neg (by omega), if_neg (by omega), gd_p ⟨by omega, by omega⟩, if_neg (by omega), if_neg (by omega), bd5_p e1, if_neg (by omega)]
