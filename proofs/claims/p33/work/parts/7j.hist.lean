/-! states copied: the class's copyFrom and history beside the reference's records -/
def Wr (T : TV) : Prop := R3 T ∧ ∀ x, x < tR T → rg (tCor T) x
theorem St.wr {T : TV} {kl : Nat → List Nat} {Q : List Nat} {r : Nat} {s : Nat → Int} (h : St T kl Q r s) : Wr T := ⟨h.1.1.2.1, h.1.1.1.1.2.2.2.1⟩
theorem St.ext {T : TV} {kl : Nat → List Nat} {Q : List Nat} {r : Nat} {s s' : Nat → Int} (h : St T kl Q r s) (e : ∀ j, j < 461 → s' j = s j) : St T kl Q r s' := by
  obtain ⟨⟨⟨J, hR3, hB, hc, h0, h1, hre⟩, hsz, hbx⟩, hall, hrt, hsp, hrc⟩ := h
  have hrow := J.2.2.1
  refine ⟨⟨⟨⟨J.1, J.2.1, ⟨by rw [e 4 (by omega)]; exact hrow.1, hrow.2.1, fun k x hx => ?_, hrow.2.2.2⟩, J.2.2.2.1, fun b hb hb24 t ht => ?_, J.2.2.2.2.2⟩, hR3, hB, hc, by rw [e 0 (by omega)]; exact h0, by rw [e 1 (by omega)]; exact h1, hre⟩, hsz, fun b hb => ?_⟩, hall, hrt, by rw [e 2 (by omega)]; exact hsp, by rw [e 3 (by omega)]; exact hrc⟩
  · have := (List.getElem?_eq_some_iff.mp hx).1
    have := hrow.2.1
    rw [e _ (by omega)]
    exact hrow.2.2.1 k x hx
  · show s' (5 + (4 * b + t)) = _
    rw [e _ (by omega)]
    exact J.2.2.2.2.1 b hb hb24 t ht
  · have := hbx b hb
    refine ⟨this.1.same (fun t ht => e _ (by omega)), ?_⟩
    rw [e _ (by omega)]
    exact this.2
theorem St.gr {T T' : TV} {kl : Nat → List Nat} {Q : List Nat} {r : Nat} {s : Nat → Int} (h : St T kl Q r s) (g : Gr T T') (hR : R3 T') : St T' kl Q r s := by
  obtain ⟨⟨⟨J, hR3, hB, hc, h0, h1, hre⟩, hsz, hbx⟩, hall, hrt, hsp, hrc⟩ := h
  have hA := J.1
  have hlk := hA.lk
  have hr := J.2.1.1
  obtain ⟨g1, g2, g3, g4, g5, g6, g7, g8, g9, g10⟩ := id g
  have hlv : ∀ v ∈ Q, tLev T' v = tLev T v := fun v hv => (g2 v (hA.lt hv)).1
  have hpr : ∀ v ∈ Q, pr (tLev T') kl v = pr (tLev T) kl v := fun v hv => pr_same hlk v hv (fun z hz => ⟨rfl, hlv z (pr_in hlk v hv z hz).1⟩)
  have hcor : ∀ v ∈ Q, ∀ t, t < 4 → tCor T' (4 * v + t) = tCor T (4 * v + t) := fun v hv t ht => g3 _ (by have := hA.lt hv; omega)
  refine ⟨⟨⟨⟨hA.grow g (by have q := hR; simp only [R3, KR] at q; omega), ⟨hr, J.2.1.2.1, g6.trans J.2.1.2.2.1, (g2 r (hA.lt hr)).2.1.trans J.2.1.2.2.2⟩, ?_, fun v hv q1 q2 t ht => ?_, fun b hb hb24 t ht => by rw [hcor b hb t ht]; exact J.2.2.2.2.1 b hb hb24 t ht, fun v hv q1 q2 => ?_⟩, hR, ?_, by rw [g7]; exact hc, by rw [g7]; exact h0, by rw [g8]; exact h1, by rw [g8]; exact hre⟩, hsz, hbx⟩, fun v hv => ?_, ?_, by rw [g9]; exact hsp, by rw [g10]; exact hrc⟩
  · rw [hpr r hr]
    exact J.2.2.1.lev (fun v hv => hlv v (pr_in hlk r hr v hv).1)
  · rw [hcor v hv t ht, J.2.2.2.1 v hv q1 q2 t ht]
    exact (cu_same (fun y hy => hcor y (hA.kid hv hy).1 t ht)).symm
  · rw [hlv r hr]
    exact J.2.2.2.2.2 v hv q1 q2
  · rw [hlv r hr]
    exact hB.same hlv
  · rw [hpr r hr]
    exact hall v hv
  · unfold Rt2
    rw [hlv r hr]
    exact hrt
theorem cr_sp {n0 n1 : Nat} {f g : Nat → Int} (h : n0 ≤ n1) (h1 : n1 ≤ 100000) : f_Tr_copyRow n0 n1 f g = some (va_cpy f g 0 0 n0) := by
  unfold f_Tr_copyRow
  rw [gd_p ⟨by omega, by omega⟩, gd_p ⟨by omega, by omega⟩, show (min ((n0 : Nat) : Int) ((n1 : Nat) : Int)).toNat = n0 by omega]
theorem copy_sp {T O : TV} (W : Wr T) (WO : R3 O) : ∃ T', f_Tr_copyFrom T O = some T' ∧ Gr O T' ∧ R3 T' := by
  have hT : tR T = 157 := W.1
  have hO : tR O = 157 := WO
  have m3 : tR O ≤ tR T := by omega
  refine ⟨sRec (sSpl (sRei (sCap (sRoot (sLis (sCor (sSiz (sHol (sLev T (va_cpy (tLev O) (tLev T) 0 0 (tR O))) (va_cpy (tHol O) (tHol T) 0 0 (tR O))) (va_cpy (tSiz O) (tSiz T) 0 0 (tR O))) (va_cpy (tCor O) (tCor T) 0 0 (tR O * 4))) (va_cpy (tLis O) (tLis T) 0 0 (tR O * 6))) (tRoot O)) (tCap O)) (tRei O)) (tSpl O)) (tRec O), ?_, ⟨m3, fun x hx => ⟨show va_cpy (tLev O) (tLev T) 0 0 (tR O) x = tLev O x from cpy_in hx, show va_cpy (tHol O) (tHol T) 0 0 (tR O) x = tHol O x from cpy_in hx, show va_cpy (tSiz O) (tSiz T) 0 0 (tR O) x = tSiz O x from cpy_in hx⟩, fun j hj => show va_cpy (tCor O) (tCor T) 0 0 (tR O * 4) j = tCor O j from cpy_in (by omega), fun j hj => show va_cpy (tLis O) (tLis T) 0 0 (tR O * 6) j = tLis O j from cpy_in (by omega), fun x h1 h2 => ⟨?_, fun t ht => ?_⟩, rfl, rfl, rfl, rfl, rfl⟩, W.1⟩
  · unfold f_Tr_copyFrom
    rw [bd1_p (cr_sp (n0 := tR O) (n1 := tR T) m3 (by show tR T ≤ _; omega)), bd1_p (cr_sp (n0 := tR O) (n1 := tR T) m3 (by show tR T ≤ _; omega)), bd1_p (cr_sp (n0 := tR O) (n1 := tR T) m3 (by show tR T ≤ _; omega)), bd1_p (cr_sp (n0 := tR O * 4) (n1 := tR T * 4) (by show _ ≤ tR T * 4; omega) (by show tR T * 4 ≤ _; omega)), bd1_p (cr_sp (n0 := tR O * 6) (n1 := tR T * 6) (by show _ ≤ tR T * 6; omega) (by show tR T * 6 ≤ _; omega))]
  · show va_cpy (tLev O) (tLev T) 0 0 (tR O) x = -2
    have h2 : x < tR T := h2
    exact absurd h2 (by omega)
  · show 0 ≤ va_cpy (tCor O) (tCor T) 0 0 (tR O * 4) (4 * x + t) ∧ va_cpy (tCor O) (tCor T) 0 0 (tR O * 4) (4 * x + t) ≤ 99
    rw [cpy_out (by omega)]
    exact W.2 x h2 t ht
theorem copy_st {T O : TV} {kl : Nat → List Nat} {Q : List Nat} {r : Nat} {s : Nat → Int} (W : Wr T) (h : St O kl Q r s) : ∃ T', f_Tr_copyFrom T O = some T' ∧ St T' kl Q r s := by
  obtain ⟨T', e1, e2, e3⟩ := copy_sp W h.wr.1
  exact ⟨T', e1, h.gr e2 e3⟩
/-- the reference's copies of its row -/
theorem rc_go {s : Nat → Int} {p : Nat} (hp : p < 4) (k : Int → (Nat → Int) → Option ((Nat → Int) × Int)) : ∀ (d i n : Nat) (past : Nat → Int), i + d = 461 → d < n → (∀ j, j < i → past (461 * p + j) = s j) → ∃ past', f_Mo_records_L51 s (p : Int) k n (i : Int) past = k 461 past' ∧ (∀ j, j < 461 → past' (461 * p + j) = s j) ∧ ∀ q, (q < 461 * p ∨ 461 * p + 461 ≤ q) → past' q = past q
  | 0, i, n + 1, past, hi, hn, h => by
    refine ⟨past, ?_, fun j hj => h j (by omega), fun _ _ => rfl⟩
    rw [f_Mo_records_L51, gd_p ⟨by omega, by omega⟩, if_neg (by omega), show (i : Int) = 461 by omega]
  | d + 1, i, n + 1, past, hi, hn, h => by
    obtain ⟨past', e1, e2, e3⟩ := rc_go (s := s) hp k d (i + 1) n (up past (461 * p + i) (s i)) (by omega) (by omega) (fun j hj => by
      by_cases hji : j = i
      · rw [hji]; exact up_s
      · rw [up_o (by omega)]; exact h j (by omega))
    refine ⟨past', ?_, e2, fun q hq => by rw [e3 q hq, up_o (by omega)]⟩
    rw [f_Mo_records_L51, gd_p ⟨by omega, by omega⟩, if_pos (by omega), gd_p ⟨by omega, by omega⟩, gd_p ⟨by omega, by omega⟩, show ((461 : Int) * (p : Int) + (i : Int)).toNat = 461 * p + i by omega, show ((i : Int)).toNat = i by omega, show (i : Int) + 1 = ((i + 1 : Nat) : Int) by omega]
    exact e1
theorem rs_go (k : Int → (Nat → Int) → Option ((Nat → Int) × Int)) : ∀ (d i n : Nat) (past : Nat → Int), i + d = 1383 → d < n → ∃ past', f_Mo_records_L10 k n (i : Int) past = k 1383 past' ∧ ∀ q, past' q = if i ≤ q ∧ q < 1383 then past (q + 461) else past q
  | 0, i, n + 1, past, hi, hn => by
    refine ⟨past, ?_, fun q => by rw [if_neg (by omega)]⟩
    rw [f_Mo_records_L10, gd_p ⟨by omega, by omega⟩, if_neg (by omega), show (i : Int) = 1383 by omega]
  | d + 1, i, n + 1, past, hi, hn => by
    obtain ⟨past', e1, e2⟩ := rs_go k d (i + 1) n (up past i (past (i + 461))) (by omega) (by omega)
    refine ⟨past', ?_, fun q => ?_⟩
    · rw [f_Mo_records_L10, gd_p ⟨by omega, by omega⟩, if_pos (by omega), gd_p ⟨by omega, by omega⟩, gd_p ⟨by omega, by omega⟩, show ((i : Int)).toNat = i by omega, show ((i : Int) + 461).toNat = i + 461 by omega, show (i : Int) + 1 = ((i + 1 : Nat) : Int) by omega]
      exact e1
    · rw [e2 q]
      by_cases h1 : q = i
      · subst h1
        rw [if_neg (by omega), if_pos (by omega), up_s]
      · by_cases h2 : i + 1 ≤ q ∧ q < 1383
        · rw [if_pos h2, if_pos (by omega), up_o (by omega)]
        · rw [if_neg h2, if_neg (by omega), up_o h1]
def Ss (S : TV) (past : Nat → Int) (i : Nat) : Prop := ∃ kl Q r, St S kl Q r (fun j => past (461 * i + j))
theorem Ss.mv {S : TV} {past past' : Nat → Int} {i i' : Nat} (h : Ss S past i) (e : ∀ j, j < 461 → past' (461 * i' + j) = past (461 * i + j)) : Ss S past' i' := by
  obtain ⟨kl, Q, r, h⟩ := h
  exact ⟨kl, Q, r, h.ext e⟩
def HR (c : Int) (S0 S1 S2 S3 : TV) (past : Nat → Int) (pasts : Int) : Prop := (Wr S0 ∧ Wr S1 ∧ Wr S2 ∧ Wr S3) ∧ ∃ n : Nat, n ≤ 4 ∧ c = (n : Int) ∧ pasts = (n : Int) ∧ (0 < n → Ss S0 past 0) ∧ (1 < n → Ss S1 past 1) ∧ (2 < n → Ss S2 past 2) ∧ (3 < n → Ss S3 past 3)
theorem rec_sp {T S0 S1 S2 S3 : TV} {kl : Nat → List Nat} {Q : List Nat} {r : Nat} {s past : Nat → Int} {c pasts : Int} (H : HR c S0 S1 S2 S3 past pasts) (O : St T kl Q r s) : ∃ (c' : Int) (S0' S1' S2' S3' : TV) (past' : Nat → Int) (pasts' : Int), f_Hi_record c S0 S1 S2 S3 T = some (c', S0', S1', S2', S3') ∧ f_Mo_records s past pasts = some (past', pasts') ∧ HR c' S0' S1' S2' S3' past' pasts' := by
  obtain ⟨⟨w0, w1, w2, w3⟩, n, hn, hc, hp, k0, k1, k2, k3⟩ := H
  subst hc
  subst hp
  by_cases h4 : n = 4
  · subst h4
    obtain ⟨S', e1, e2⟩ := copy_st w0 O
    obtain ⟨p1, f1, f2⟩ := rs_go (fun x1_13 c_past_14 => f_Mo_records_L51 s (((4 : Nat) : Int) - 1) (fun x1_15 c_past_16 => some (c_past_16, ((((4 : Nat) : Int) - 1) + 1))) FU (0) (c_past_14)) 1383 0 FU past rfl (by unfold FU; omega)
    obtain ⟨p2, g1, g2, g3⟩ := rc_go (s := s) (p := 3) (by omega) (fun x1_15 c_past_16 => some (c_past_16, ((((4 : Nat) : Int) - 1) + 1))) 461 0 FU p1 rfl (by unfold FU; omega) (fun j hj => absurd hj (by omega))
    refine ⟨4, S1, S2, S3, S', p2, 4, ?_, ?_, ⟨w1, w2, w3, e2.wr⟩, 4, by omega, rfl, rfl, fun _ => (k1 (by omega)).mv (fun j hj => ?_), fun _ => (k2 (by omega)).mv (fun j hj => ?_), fun _ => (k3 (by omega)).mv (fun j hj => ?_), fun _ => ⟨kl, Q, r, e2.ext (fun j hj => ?_)⟩⟩
    · unfold f_Hi_record f_Hi_dropOldest
      rw [gd_p ⟨by omega, by omega⟩, if_neg (by omega), bd5_p rfl, gd_p ⟨by omega, by omega⟩, if_neg (by omega), if_pos (by omega), if_neg (by omega), if_neg (by omega), if_neg (by omega), gd_p (by omega), bd1_p e1]
      rfl
    · unfold f_Mo_records
      rw [gd_p ⟨by omega, by omega⟩, if_pos (by omega)]
      refine Eq.trans f1 ?_
      exact g1
    · rw [g3 _ (by omega), f2, if_pos (by omega)]
      exact congrArg past (by omega)
    · rw [g3 _ (by omega), f2, if_pos (by omega)]
      exact congrArg past (by omega)
    · rw [g3 _ (by omega), f2, if_pos (by omega)]
      exact congrArg past (by omega)
    · exact g2 j hj
  · have hn4 : n < 4 := by omega
    obtain ⟨p2, g1, g2, g3⟩ := rc_go (s := s) (p := n) hn4 (fun x1_7 c_past_8 => some (c_past_8, ((n : Int) + 1))) 461 0 FU past rfl (by unfold FU; omega) (fun j hj => absurd hj (by omega))
    have hM : f_Mo_records s past (n : Int) = some (p2, (n : Int) + 1) := by
      unfold f_Mo_records
      rw [gd_p ⟨by omega, by omega⟩, if_neg (by omega)]
      exact g1
    have hk : ∀ {S : TV} {i : Nat}, i < n → Ss S past i → Ss S p2 i := fun hi h => h.mv (fun j hj => g3 _ (by omega))
    rcases (show n = 0 ∨ n = 1 ∨ n = 2 ∨ n = 3 by omega) with rfl | rfl | rfl | rfl
    · obtain ⟨S', e1, e2⟩ := copy_st w0 O
      refine ⟨1, S', S1, S2, S3, p2, 1, ?_, hM, ⟨e2.wr, w1, w2, w3⟩, 1, by omega, rfl, rfl, fun _ => ⟨kl, Q, r, e2.ext (fun j hj => g2 j hj)⟩, fun q => absurd q (by omega), fun q => absurd q (by omega), fun q => absurd q (by omega)⟩
      unfold f_Hi_record
      rw [gd_p ⟨by omega, by omega⟩, if_pos (by omega), if_neg (by omega), if_pos (by omega), if_pos (by omega), bd1_p e1]
      rfl
    · obtain ⟨S', e1, e2⟩ := copy_st w1 O
      refine ⟨2, S0, S', S2, S3, p2, 2, ?_, hM, ⟨w0, e2.wr, w2, w3⟩, 2, by omega, rfl, rfl, fun _ => hk (by omega) (k0 (by omega)), fun _ => ⟨kl, Q, r, e2.ext (fun j hj => g2 j hj)⟩, fun q => absurd q (by omega), fun q => absurd q (by omega)⟩
      unfold f_Hi_record
      rw [gd_p ⟨by omega, by omega⟩, if_pos (by omega), if_neg (by omega), if_pos (by omega), if_neg (by omega), if_pos (by omega), bd1_p e1]
      rfl
    · obtain ⟨S', e1, e2⟩ := copy_st w2 O
      refine ⟨3, S0, S1, S', S3, p2, 3, ?_, hM, ⟨w0, w1, e2.wr, w3⟩, 3, by omega, rfl, rfl, fun _ => hk (by omega) (k0 (by omega)), fun _ => hk (by omega) (k1 (by omega)), fun _ => ⟨kl, Q, r, e2.ext (fun j hj => g2 j hj)⟩, fun q => absurd q (by omega)⟩
      unfold f_Hi_record
      rw [gd_p ⟨by omega, by omega⟩, if_pos (by omega), if_neg (by omega), if_pos (by omega), if_neg (by omega), if_neg (by omega), if_pos (by omega), bd1_p e1]
      rfl
    · obtain ⟨S', e1, e2⟩ := copy_st w3 O
      refine ⟨4, S0, S1, S2, S', p2, 4, ?_, hM, ⟨w0, w1, w2, e2.wr⟩, 4, by omega, rfl, rfl, fun _ => hk (by omega) (k0 (by omega)), fun _ => hk (by omega) (k1 (by omega)), fun _ => hk (by omega) (k2 (by omega)), fun _ => ⟨kl, Q, r, e2.ext (fun j hj => g2 j hj)⟩⟩
      unfold f_Hi_record
      rw [gd_p ⟨by omega, by omega⟩, if_pos (by omega), if_neg (by omega), if_pos (by omega), if_neg (by omega), if_neg (by omega), if_neg (by omega), gd_p (by omega), bd1_p e1]
      rfl
theorem ud_go {past : Nat → Int} {p : Nat} (hp : p < 4) (k : Int → (Nat → Int) → Option (Int × (Nat → Int) × Int)) : ∀ (d i n : Nat) (s : Nat → Int), i + d = 461 → d < n → (∀ j, j < i → s j = past (461 * p + j)) → ∃ s', f_Mo_undo_L22 past (p : Int) k n (i : Int) s = k 461 s' ∧ ∀ j, j < 461 → s' j = past (461 * p + j)
  | 0, i, n + 1, s, hi, hn, h => by
    refine ⟨s, ?_, fun j hj => h j (by omega)⟩
    rw [f_Mo_undo_L22, gd_p ⟨by omega, by omega⟩, if_neg (by omega), show (i : Int) = 461 by omega]
  | d + 1, i, n + 1, s, hi, hn, h => by
    obtain ⟨s', e1, e2⟩ := ud_go hp k d (i + 1) n (up s i (past (461 * p + i))) (by omega) (by omega) (fun j hj => by
      by_cases hji : j = i
      · rw [hji]; exact up_s
      · rw [up_o hji]; exact h j (by omega))
    refine ⟨s', ?_, e2⟩
    rw [f_Mo_undo_L22, gd_p ⟨by omega, by omega⟩, if_pos (by omega), gd_p ⟨by omega, by omega⟩, gd_p ⟨by omega, by omega⟩, show ((461 : Int) * (p : Int) + (i : Int)).toNat = 461 * p + i by omega, show ((i : Int)).toNat = i by omega, show (i : Int) + 1 = ((i + 1 : Nat) : Int) by omega]
    exact e1
theorem sv_go {s : Nat → Int} (k : Int → (Nat → Int) → Option (Int × (Nat → Int) × Int)) : ∀ (d i n : Nat) (a : Nat → Int), i + d = 461 → d < n → (∀ j, j < i → a j = s j) → ∃ a', f_Mo_save_L7 s k n (i : Int) a = k 461 a' ∧ ∀ j, j < 461 → a' j = s j
  | 0, i, n + 1, a, hi, hn, h => by
    refine ⟨a, ?_, fun j hj => h j (by omega)⟩
    rw [f_Mo_save_L7, gd_p ⟨by omega, by omega⟩, if_neg (by omega), show (i : Int) = 461 by omega]
  | d + 1, i, n + 1, a, hi, hn, h => by
    obtain ⟨a', e1, e2⟩ := sv_go (s := s) k d (i + 1) n (up a i (s i)) (by omega) (by omega) (fun j hj => by
      by_cases hji : j = i
      · rw [hji]; exact up_s
      · rw [up_o hji]; exact h j (by omega))
    refine ⟨a', ?_, e2⟩
    rw [f_Mo_save_L7, gd_p ⟨by omega, by omega⟩, if_pos (by omega), gd_p ⟨by omega, by omega⟩, show ((i : Int)).toNat = i by omega, show (i : Int) + 1 = ((i + 1 : Nat) : Int) by omega]
    exact e1
theorem rt_go {s : Nat → Int} (k : Int → (Nat → Int) → Option (Int × (Nat → Int) × (Nat → Int) × Int)) : ∀ (d i n : Nat) (a : Nat → Int), i + d = 461 → d < n → (∀ j, j < i → a j = s j) → ∃ a', f_Mo_restore_L16 s k n (i : Int) a = k 461 a' ∧ ∀ j, j < 461 → a' j = s j
  | 0, i, n + 1, a, hi, hn, h => by
    refine ⟨a, ?_, fun j hj => h j (by omega)⟩
    rw [f_Mo_restore_L16, gd_p ⟨by omega, by omega⟩, if_neg (by omega), show (i : Int) = 461 by omega]
  | d + 1, i, n + 1, a, hi, hn, h => by
    obtain ⟨a', e1, e2⟩ := rt_go (s := s) k d (i + 1) n (up a i (s i)) (by omega) (by omega) (fun j hj => by
      by_cases hji : j = i
      · rw [hji]; exact up_s
      · rw [up_o hji]; exact h j (by omega))
    refine ⟨a', ?_, e2⟩
    rw [f_Mo_restore_L16, gd_p ⟨by omega, by omega⟩, if_pos (by omega), gd_p ⟨by omega, by omega⟩, show ((i : Int)).toNat = i by omega, show (i : Int) + 1 = ((i + 1 : Nat) : Int) by omega]
    exact e1
