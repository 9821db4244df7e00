/-! boxes that meet a window, that lie inside it, and the nearest -/
def nmt (T : TV) (Q : List Nat) (a b p q : Int) (i : Nat) : Nat := (List.range i).countP (fun y => decide (y ∈ Q ∧ mt (tCor T) y a b p q))
theorem nmt_succ {T : TV} {Q : List Nat} {a b p q : Int} {i : Nat} : nmt T Q a b p q (i + 1) = nmt T Q a b p q i + (if i ∈ Q ∧ mt (tCor T) i a b p q then 1 else 0) := by
  unfold nmt
  rw [List.range_succ, List.countP_append, List.countP_cons, List.countP_nil]
  simp
theorem mtc_go {T : TV} {kl : Nat → List Nat} {Q : List Nat} {a b p q : Int} (h : Ar T kl Q) (hw : wi a b p q) (k : Int → Int → Option Int) : ∀ (d i n : Nat), i + d = 24 → d < n → f_Rt_meeting_L20 T a b p q k n (nmt T Q a b p q i : Int) (i : Int) = k (nmt T Q a b p q 24 : Int) 24
  | 0, i, n + 1, hi, hn => by
    have : i = 24 := by omega
    subst this
    rw [f_Rt_meeting_L20, gd_p ⟨by omega, by omega⟩, if_neg (by omega)]
    rfl
  | d + 1, i, n + 1, hi, hn => by
    have hR : tR T ≤ 8192 := by have := h.1.2; omega
    have hs := nmt_succ (T := T) (Q := Q) (a := a) (b := b) (p := p) (q := q) (i := i)
    have ih := mtc_go h hw k d (i + 1) n (by omega) (by omega)
    rw [f_Rt_meeting_L20, gd_p ⟨by omega, by omega⟩, if_pos (by omega), bd1_p (hasb_sp h (by omega)), show (i : Int) + 1 = ((i + 1 : Nat) : Int) by omega]
    by_cases hq : i ∈ Q
    · rw [if_pos hq, gd_p ck_1, if_neg (by omega), bd1_p (t_meets hR (h.lt hq) (h.rgx hq) hw)]
      by_cases hm : mt (tCor T) i a b p q
      · rw [if_pos ⟨hq, hm⟩] at hs
        rw [if_pos hm, gd_p ck_1, if_neg (by omega), show (nmt T Q a b p q i : Int) + 1 = (nmt T Q a b p q (i + 1) : Int) by omega]
        exact ih
      · rw [if_neg (fun z => hm z.2)] at hs
        rw [if_neg hm, gd_p ck_0, if_pos rfl, show (nmt T Q a b p q i : Int) = (nmt T Q a b p q (i + 1) : Int) by omega]
        exact ih
    · rw [if_neg (fun z => hq z.1)] at hs
      rw [if_neg hq, gd_p ck_0, if_pos rfl, show (nmt T Q a b p q i : Int) = (nmt T Q a b p q (i + 1) : Int) by omega]
      exact ih
theorem pr_box {T : TV} {kl : Nat → List Nat} {Q : List Nat} (h : Ar T kl Q) {b : Nat} (hb : b ∈ Q) (hb24 : b < 24) : pr (tLev T) kl b = [b] := by
  rw [pr_eq (Lk_at h.lk hb), (h.2.2.2.2 b hb).2.1 hb24]
  rfl
theorem stops_low {T : TV} {kl : Nat → List Nat} {Q : List Nat} (h : Ar T kl Q) {b : Nat} (hb : b ∈ Q) (hb24 : b < 24) {S : List Nat} (hS : ∀ y ∈ S, y ∈ Q) : stops (tLev T) (tLev T b) S := fun y t e => by
  have h1 := (h.lev24 hb).mp hb24
  have h2 := (h.2.2.2.2 y (hS y (by rw [e]; simp))).1.2.2.1
  omega
theorem mtm_go {T : TV} {K : KV} {kl : Nat → List Nat} {Q : List Nat} {r : Nat} {s : Nat → Int} {a b p q : Int} (O : Nm T K kl Q r s) (hw : wi a b p q) : ∀ (S A : List Nat) (n : Nat) (c : Nat → Int), pr (tLev T) kl r = A ++ S → S.length < n → wn c a b p q → ∃ c', f_Mo_meeting_L29 s (fun x5_26 x6_27 c_rect_28 => some (x5_26, c_rect_28)) n ((A.countP (fun y => decide (y < 24 ∧ mt (tCor T) y a b p q)) : Nat) : Int) (A.length : Int) c = some ((((pr (tLev T) kl r).countP (fun y => decide (y < 24 ∧ mt (tCor T) y a b p q)) : Nat) : Int), c')
  | [], A, n + 1, c, e, hn, hc => by
    obtain ⟨J, h, hr, hrow, hR⟩ := O.parts
    have hl := hrow.2.1
    have h0 := hrow.1
    rw [List.append_nil] at e
    refine ⟨c, ?_⟩
    rw [f_Mo_meeting_L29]
    unfold f_Mo_length
    rw [bd1_p rfl, h0, e, gd_p ⟨by rw [← e]; omega, by rw [← e]; omega⟩, gd_p ⟨by rw [← e]; omega, by rw [← e]; omega⟩, if_neg (by omega)]
  | y :: S, A, n + 1, c, e, hn, hc => by
    obtain ⟨J, h, hr, hrow, hR⟩ := O.parts
    have hl := hrow.2.1
    have h0 := hrow.1
    have hlen := congrArg List.length e
    rw [List.length_append, List.length_cons] at hlen
    rw [List.length_cons] at hn
    have hx : (pr (tLev T) kl r)[A.length]? = some y := by rw [e, List.getElem?_append_right (Nat.le_refl _), Nat.sub_self]; rfl
    have hyQ : y ∈ Q := (pr_in h.lk r hr y (List.mem_of_getElem? hx)).1
    have hok := h.oki hyQ
    have e2 : pr (tLev T) kl r = (A ++ [y]) ++ S := by rw [e]; simp
    have hl1 : (A.length : Int) + 1 = ((A ++ [y]).length : Int) := by rw [List.length_append]; rfl
    have hcnt : (A ++ [y]).countP (fun y => decide (y < 24 ∧ mt (tCor T) y a b p q)) = A.countP (fun y => decide (y < 24 ∧ mt (tCor T) y a b p q)) + (if y < 24 ∧ mt (tCor T) y a b p q then 1 else 0) := by
      rw [List.countP_append, List.countP_cons, List.countP_nil]
      simp
    have hst : ∃ c2, f_Mo_meeting_L29 s (fun x5_26 x6_27 c_rect_28 => some (x5_26, c_rect_28)) (n + 1) ((A.countP (fun y => decide (y < 24 ∧ mt (tCor T) y a b p q)) : Nat) : Int) (A.length : Int) c = f_Mo_meeting_L29 s (fun x5_26 x6_27 c_rect_28 => some (x5_26, c_rect_28)) n (((A ++ [y]).countP (fun y => decide (y < 24 ∧ mt (tCor T) y a b p q)) : Nat) : Int) ((A ++ [y]).length : Int) c2 ∧ wn c2 a b p q := by
      rw [f_Mo_meeting_L29]
      unfold f_Mo_length
      rw [bd1_p rfl, h0, gd_p ⟨by omega, by omega⟩, gd_p ⟨by omega, by omega⟩, if_pos (by omega), bd1_p (row_at hrow hx), gd_p (okI_ck hok).1]
      by_cases h24 : 24 ≤ y
      · rw [if_neg (fun z => by omega)] at hcnt
        refine ⟨c, ?_, hc⟩
        rw [if_pos ((okI_ck hok).2.2.mpr h24), hcnt, hl1]
        rfl
      · have hyb := pr_box h hyQ (by omega)
        obtain ⟨c2, m1, m2⟩ := m_meets (c := c) (a := a) (b := b) (p := p) (q := q) O (A := A) (B := S) (w := y) (by rw [hyb, e]; rfl) (stops_low h hyQ (by omega) (fun z hz => (pr_in h.lk r hr z (by rw [e]; simp [hz])).1)) hyQ (fun z => absurd z h24) hc hw
        refine ⟨c2, ?_, m2⟩
        rw [if_neg (fun z => h24 ((okI_ck hok).2.2.mp z)), bd2_p m1, hl1]
        by_cases hm : mt (tCor T) y a b p q
        · rw [if_pos ⟨by omega, hm⟩] at hcnt
          rw [if_pos hm, gd_p ck_1, if_neg (by omega), hcnt]
          rfl
        · rw [if_neg (fun z => hm z.2)] at hcnt
          rw [if_neg hm, gd_p ck_0, if_pos rfl, hcnt]
          rfl
    obtain ⟨c2, s1, s2⟩ := hst
    obtain ⟨c3, t1⟩ := mtm_go O hw S (A ++ [y]) n c2 e2 (by omega) s2
    exact ⟨c3, s1.trans t1⟩
theorem mt_same {T : TV} {K : KV} {kl : Nat → List Nat} {Q : List Nat} {r : Nat} {s : Nat → Int} {a b p q : Int} (O : Nm T K kl Q r s) : nmt T Q a b p q 24 = (pr (tLev T) kl r).countP (fun y => decide (y < 24 ∧ mt (tCor T) y a b p q)) := by
  obtain ⟨J, h, hr, hrow, hR⟩ := O.parts
  have hnd := pr_nodup h r hr
  unfold nmt
  rw [List.countP_eq_length_filter, List.countP_eq_length_filter]
  apply Nat.le_antisymm
  · refine sub_len (List.nodup_range.filter _) (fun y hy => ?_)
    have h1 := List.mem_filter.mp hy
    have h2 := List.mem_range.mp h1.1
    have h3 := of_decide_eq_true h1.2
    exact List.mem_filter.mpr ⟨O.1.2.1 y h3.1, decide_eq_true ⟨h2, h3.2⟩⟩
  · refine sub_len (hnd.filter _) (fun y hy => ?_)
    have h1 := List.mem_filter.mp hy
    have h3 := of_decide_eq_true h1.2
    exact List.mem_filter.mpr ⟨List.mem_range.mpr h3.1, decide_eq_true ⟨(pr_in h.lk r hr y h1.1).1, h3.2⟩⟩
theorem q_meeting {T : TV} {K : KV} {kl : Nat → List Nat} {Q : List Nat} {r : Nat} {s c : Nat → Int} {a b p q : Int} (O : Nm T K kl Q r s) (g1 : ck a) (g2 : ck b) (g3 : ck p) (g4 : ck q) : ∃ (r_1 : Int) (c' : Nat → Int), f_Rt_meeting T a b p q = some r_1 ∧ f_Mo_meeting s c a b p q = some (r_1, c') := by
  obtain ⟨J, h, hr, hrow, hR⟩ := O.parts
  unfold f_Rt_meeting f_Mo_meeting
  rw [isrect_c g1 g2 g3 g4, isrect_m g1 g2 g3 g4]
  by_cases hw : (0 ≤ a ∧ a ≤ p ∧ p ≤ 99) ∧ (0 ≤ b ∧ b ≤ q ∧ q ≤ 99)
  · obtain ⟨c1, f1, f2⟩ := frames_sp (c := c) (a := a) (b := b) (p := p) (q := q)
    obtain ⟨c2, m1⟩ := mtm_go O hw (pr (tLev T) kl r) [] FU c1 rfl (by have := hrow.2.1; unfold FU; omega) f2
    have c1 := mtc_go h hw (fun x5_18 x6_19 => some (x5_18)) 24 0 FU rfl (by unfold FU; omega)
    refine ⟨(nmt T Q a b p q 24 : Int), c2, ?_, ?_⟩
    · rw [if_pos hw, bd1_p rfl, gd_p ck_1, if_neg (by omega)]
      exact c1
    · rw [if_pos hw, bd1_p rfl, gd_p ck_1, if_neg (by omega), bd1_p f1, mt_same O]
      exact m1
  · refine ⟨-2, c, ?_, ?_⟩
    · rw [if_neg hw, bd1_p rfl, gd_p ck_0, if_pos rfl]
    · rw [if_neg hw, bd1_p rfl, gd_p ck_0, if_pos rfl]
abbrev li (c : Nat → Int) (w : Nat) (a b p q : Int) : Prop := a ≤ c (4 * w) ∧ c (4 * w + 2) ≤ p ∧ b ≤ c (4 * w + 1) ∧ c (4 * w + 3) ≤ q
theorem t_lies {T : TV} {w : Nat} {a b p q : Int} (hR : tR T ≤ 8192) (hx : w < tR T) (h : rg (tCor T) w) (hw : wi a b p q) : f_Tr_liesInWindow T (w : Int) a b p q = some (if li (tCor T) w a b p q then 1 else 0) := by
  have k0 := rg_ck (t := 0) h (by omega)
  have k1 := rg_ck (t := 1) h (by omega)
  have k2 := rg_ck (t := 2) h (by omega)
  have k3 := rg_ck (t := 3) h (by omega)
  obtain ⟨⟨w1, w2, w3⟩, w4, w5, w6⟩ := hw
  unfold f_Tr_liesInWindow li
  rw [bd1_p (t_c0 hR hx), gd_p k0, gd_p ⟨by omega, by omega⟩, show 4 * w + 0 = 4 * w from rfl]
  by_cases h1 : tCor T (4 * w) < a
  · rw [if_pos h1, if_neg (by omega)]
  · rw [if_neg h1, bd1_p (t_c2 hR hx), gd_p k2, gd_p ⟨by omega, by omega⟩]
    by_cases h2 : p < tCor T (4 * w + 2)
    · rw [if_pos h2, if_neg (by omega)]
    · rw [if_neg h2, bd1_p (t_c1 hR hx), gd_p k1, gd_p ⟨by omega, by omega⟩]
      by_cases h3 : tCor T (4 * w + 1) < b
      · rw [if_pos h3, if_neg (by omega)]
      · rw [if_neg h3, bd1_p (t_c3 hR hx), gd_p k3, gd_p ⟨by omega, by omega⟩]
        by_cases h4 : q < tCor T (4 * w + 3)
        · rw [if_pos h4, if_neg (by omega)]
        · rw [if_neg h4, if_pos (by omega)]
theorem ins_step {T : TV} {K : KV} {kl : Nat → List Nat} {Q : List Nat} {r : Nat} {s : Nat → Int} {a b p q : Int} (O : Nm T K kl Q r s) (hw : wi a b p q) (k : Int → Int → Option Int) {i n : Nat} {x : Int} (hi : i < 24) (hx : ck x) : f_Mo_inside_L20 s a b p q k (n + 1) x (i : Int) = (if i ∈ Q ∧ li (tCor T) i a b p q then f_Mo_inside_L20 s a b p q k n (iOr x (iShl 1 (i : Int))) ((i + 1 : Nat) : Int) else f_Mo_inside_L20 s a b p q k n x ((i + 1 : Nat) : Int)) := by
  obtain ⟨J, h, hr, hrow, hR⟩ := O.parts
  obtain ⟨⟨w1, w2, w3⟩, w4, w5, w6⟩ := hw
  rw [f_Mo_inside_L20, gd_p ⟨by omega, by omega⟩, if_pos (by omega), bd1_p (isb_sp O.1.1.2.2 hi), iOr_zero hx, show (i : Int) + 1 = ((i + 1 : Nat) : Int) by omega]
  by_cases hq : i ∈ Q
  · have r0 := bx_cor (t := 0) O hq hi (by omega)
    have r1 := bx_cor (t := 1) O hq hi (by omega)
    have r2 := bx_cor (t := 2) O hq hi (by omega)
    have r3 := bx_cor (t := 3) O hq hi (by omega)
    rw [show 5 + 4 * i + 0 = 5 + 4 * i from rfl, show 4 * i + 0 = 4 * i from rfl] at r0
    have k0 : ck (tCor T (4 * i)) := rg_ck (t := 0) (h.rgx hq) (by omega)
    have k1 := rg_ck (t := 1) (h.rgx hq) (by omega)
    have k2 := rg_ck (t := 2) (h.rgx hq) (by omega)
    have k3 := rg_ck (t := 3) (h.rgx hq) (by omega)
    rw [if_pos hq, gd_p ck_1, if_neg (by omega), gd_p ⟨by omega, by omega⟩, show ((5 : Int) + 4 * (i : Int)).toNat = 5 + 4 * i by omega, r0, gd_p k0, gd_p ⟨by omega, by omega⟩]
    by_cases h1 : tCor T (4 * i) < a
    · rw [if_pos h1, if_neg (fun z => by have := z.2.1; omega)]
    · rw [if_neg h1, gd_p ⟨by omega, by omega⟩, show ((5 : Int) + 4 * (i : Int) + 1).toNat = 5 + 4 * i + 1 by omega, r1, gd_p k1, gd_p ⟨by omega, by omega⟩]
      by_cases h2 : tCor T (4 * i + 1) < b
      · rw [if_pos h2, if_neg (fun z => by have := z.2.2.2.1; omega)]
      · rw [if_neg h2, gd_p ⟨by omega, by omega⟩, show ((5 : Int) + 4 * (i : Int) + 2).toNat = 5 + 4 * i + 2 by omega, r2, gd_p k2, gd_p ⟨by omega, by omega⟩]
        by_cases h3 : p < tCor T (4 * i + 2)
        · rw [if_pos h3, if_neg (fun z => by have := z.2.2.1; omega)]
        · rw [if_neg h3, gd_p ⟨by omega, by omega⟩, show ((5 : Int) + 4 * (i : Int) + 3).toNat = 5 + 4 * i + 3 by omega, r3, gd_p k3, gd_p ⟨by omega, by omega⟩]
          by_cases h4 : q < tCor T (4 * i + 3)
          · rw [if_pos h4, if_neg (fun z => by have := z.2.2.2.2; omega)]
          · rw [if_neg h4, if_pos ⟨hq, by omega, by omega, by omega, by omega⟩]
  · rw [if_neg hq, gd_p ck_0, if_pos (show (0 : Int) = 0 from rfl), if_neg (fun z => hq z.1)]
theorem ins_go2 {T : TV} {K : KV} {kl : Nat → List Nat} {Q : List Nat} {r : Nat} {s : Nat → Int} {a b p q : Int} (O : Nm T K kl Q r s) (hw : wi a b p q) (k k' : Int → Int → Option Int) : ∀ (d i n : Nat) (x : Int), i + d = 24 → d < n → ck x → ∃ x' : Int, f_Rt_inside_L20 T a b p q k n x (i : Int) = k x' 24 ∧ f_Mo_inside_L20 s a b p q k' n x (i : Int) = k' x' 24
  | 0, i, n + 1, x, hi, hn, hx => by
    refine ⟨x, ?_, ?_⟩
    · rw [f_Rt_inside_L20, gd_p ⟨by omega, by omega⟩, if_neg (by omega), show (i : Int) = 24 by omega]
    · rw [f_Mo_inside_L20, gd_p ⟨by omega, by omega⟩, if_neg (by omega), show (i : Int) = 24 by omega]
  | d + 1, i, n + 1, x, hi, hn, hx => by
    obtain ⟨J, h, hr, hrow, hR⟩ := O.parts
    rw [ins_step O hw k' (by omega) hx, f_Rt_inside_L20, gd_p ⟨by omega, by omega⟩, if_pos (show (i : Int) < 24 by omega), bd1_p (hasb_sp h (by omega)), show (i : Int) + 1 = ((i + 1 : Nat) : Int) by omega]
    by_cases hq : i ∈ Q
    · rw [if_pos hq, gd_p ck_1, if_neg (show ¬ (1 : Int) = 0 by omega), bd1_p (t_lies hR (h.lt hq) (h.rgx hq) hw)]
      by_cases hm : li (tCor T) i a b p q
      · rw [if_pos hm, gd_p ck_1, if_neg (show ¬ (1 : Int) = 0 by omega), if_pos (show i ∈ Q ∧ li (tCor T) i a b p q from ⟨hq, hm⟩)]
        exact ins_go2 O hw k k' d (i + 1) n (iOr x (iShl 1 (i : Int))) (by omega) (by omega) iOr_ck
      · rw [if_neg hm, gd_p ck_0, if_pos (show (0 : Int) = 0 from rfl), if_neg (show ¬ (i ∈ Q ∧ li (tCor T) i a b p q) from fun z => hm z.2)]
        exact ins_go2 O hw k k' d (i + 1) n x (by omega) (by omega) hx
    · rw [if_neg hq, gd_p ck_0, if_pos (show (0 : Int) = 0 from rfl), if_neg (show ¬ (i ∈ Q ∧ li (tCor T) i a b p q) from fun z => hq z.1)]
      exact ins_go2 O hw k k' d (i + 1) n x (by omega) (by omega) hx
theorem q_inside {T : TV} {K : KV} {kl : Nat → List Nat} {Q : List Nat} {r : Nat} {s : Nat → Int} {a b p q : Int} (O : Nm T K kl Q r s) (g1 : ck a) (g2 : ck b) (g3 : ck p) (g4 : ck q) : ∃ r_1, f_Rt_inside T a b p q = some r_1 ∧ f_Mo_inside s a b p q = some r_1 := by
  unfold f_Rt_inside f_Mo_inside
  rw [isrect_c g1 g2 g3 g4, isrect_m g1 g2 g3 g4]
  by_cases hw : (0 ≤ a ∧ a ≤ p ∧ p ≤ 99) ∧ (0 ≤ b ∧ b ≤ q ∧ q ≤ 99)
  · obtain ⟨x', c1, c2⟩ := ins_go2 O hw (fun x5_18 x6_19 => some (x5_18)) (fun x5_18 x6_19 => some (x5_18)) 24 0 FU 0 rfl (by unfold FU; omega) ck_0
    refine ⟨x', ?_, ?_⟩
    · rw [if_pos hw, bd1_p rfl, gd_p ck_1, if_neg (by omega)]
      exact c1
    · rw [if_pos hw, bd1_p rfl, gd_p ck_1, if_neg (by omega)]
      exact c2
  · refine ⟨-2, ?_, ?_⟩
    · rw [if_neg hw, bd1_p rfl, gd_p ck_0, if_pos rfl]
    · rw [if_neg hw, bd1_p rfl, gd_p ck_0, if_pos rfl]
def of1 (x lo hi : Int) : Int := max 0 (max (lo - x) (x - hi))
theorem m_off {x lo hi : Int} (hx : ck x) (h1 : ck lo) (h2 : ck hi) : ∃ v, f_Mo_off x lo hi = some v ∧ (lo ≤ hi → v = of1 x lo hi) := by
  unfold f_Mo_off of1
  rw [gd_p hx, gd_p h1]
  by_cases h3 : x < lo
  · exact ⟨lo - x, by rw [if_pos h3], fun _ => by omega⟩
  · rw [if_neg h3, gd_p h2]
    by_cases h4 : hi < x
    · exact ⟨x - hi, by rw [if_pos h4], fun _ => by omega⟩
    · exact ⟨0, by rw [if_neg h4], fun _ => by omega⟩
def dst (c : Nat → Int) (w : Nat) (a b : Int) : Int := of1 a (c (4 * w)) (c (4 * w + 2)) * of1 a (c (4 * w)) (c (4 * w + 2)) + of1 b (c (4 * w + 1)) (c (4 * w + 3)) * of1 b (c (4 * w + 1)) (c (4 * w + 3))
theorem dst_ck {c : Nat → Int} {w : Nat} {a b : Int} (h : rg c w) (ha : 0 ≤ a ∧ a ≤ 99) (hb : 0 ≤ b ∧ b ≤ 99) : ck (dst c w a b) := by
  have h0 := h 0 (by omega)
  have h1 := h 1 (by omega)
  have h2 := h 2 (by omega)
  have h3 := h 3 (by omega)
  rw [show 4 * w + 0 = 4 * w from rfl] at h0
  have e1 : 0 ≤ of1 a (c (4 * w)) (c (4 * w + 2)) ∧ of1 a (c (4 * w)) (c (4 * w + 2)) ≤ 99 := by unfold of1; omega
  have e2 : 0 ≤ of1 b (c (4 * w + 1)) (c (4 * w + 3)) ∧ of1 b (c (4 * w + 1)) (c (4 * w + 3)) ≤ 99 := by unfold of1; omega
  have m1 := mul_rg (n := 99) (m := 99) (a := of1 a (c (4 * w)) (c (4 * w + 2))) (b := of1 a (c (4 * w)) (c (4 * w + 2))) (by omega) (by omega)
  have m2 := mul_rg (n := 99) (m := 99) (a := of1 b (c (4 * w + 1)) (c (4 * w + 3))) (b := of1 b (c (4 * w + 1)) (c (4 * w + 3))) (by omega) (by omega)
  unfold dst
  exact ⟨by omega, by omega⟩
theorem t_square {T : TV} {w : Nat} {a b : Int} (hR : tR T ≤ 8192) (hx : w < tR T) (h : rg (tCor T) w) (ha : 0 ≤ a ∧ a ≤ 99) (hb : 0 ≤ b ∧ b ≤ 99) : f_Tr_squareDistance T (w : Int) a b = some (dst (tCor T) w a b) := by
  have h0 := h 0 (by omega)
  have h1 := h 1 (by omega)
  have h2 := h 2 (by omega)
  have h3 := h 3 (by omega)
  unfold f_Tr_squareDistance dst of1
  rw [bd1_p (t_c0 hR hx), bd1_p (t_c2 hR hx), gd_p ⟨by omega, by omega⟩, gd_p ⟨by omega, by omega⟩, bd1_p (t_c1 hR hx), bd1_p (t_c3 hR hx), gd_p ⟨by omega, by omega⟩, gd_p ⟨by omega, by omega⟩]
  rfl
theorem nst_go {T : TV} {K : KV} {kl : Nat → List Nat} {Q : List Nat} {r : Nat} {s : Nat → Int} {a b : Int} (O : Nm T K kl Q r s) (ha : 0 ≤ a ∧ a ≤ 99) (hb : 0 ≤ b ∧ b ≤ 99) (k k' : Int → Int → Int → Option Int) : ∀ (d i n : Nat) (x y : Int), i + d = 24 → d < n → (x = -5 ∨ (0 ≤ x ∧ x < 24)) → ck y → ∃ x' y' : Int, f_Rt_nearest_L22 T a b k n x y (i : Int) = k x' y' 24 ∧ f_Mo_nearest_L32 s a b k' n x y (i : Int) = k' x' y' 24
  | 0, i, n + 1, x, y, hi, hn, hx, hy => by
    refine ⟨x, y, ?_, ?_⟩
    · rw [f_Rt_nearest_L22, gd_p ⟨by omega, by omega⟩, if_neg (by omega), show (i : Int) = 24 by omega]
    · rw [f_Mo_nearest_L32, gd_p ⟨by omega, by omega⟩, if_neg (by omega), show (i : Int) = 24 by omega]
  | d + 1, i, n + 1, x, y, hi, hn, hx, hy => by
    obtain ⟨J, h, hr, hrow, hR⟩ := O.parts
    have hbx := O.1.1.2.2 i (by omega)
    have hck := hbx.1.1
    obtain ⟨v1, f1, f2⟩ := m_off (x := a) (lo := s (5 + 4 * i)) (hi := s (5 + 4 * i + 2)) ⟨by omega, by omega⟩ (hck 0 (by omega)) (hck 2 (by omega))
    obtain ⟨v2, f3, f4⟩ := m_off (x := b) (lo := s (5 + 4 * i + 1)) (hi := s (5 + 4 * i + 3)) ⟨by omega, by omega⟩ (hck 1 (by omega)) (hck 3 (by omega))
    have hM : f_Mo_nearest_L32 s a b k' (n + 1) x y (i : Int) = (if i ∈ Q then (gd (ck x) <| if x < 0 then (f_Mo_nearest_L32 s a b k' n (i : Int) (v1 * v1 + v2 * v2) ((i + 1 : Nat) : Int)) else (gd (ck (v1 * v1 + v2 * v2)) <| gd (ck y) <| if v1 * v1 + v2 * v2 < y then (f_Mo_nearest_L32 s a b k' n (i : Int) (v1 * v1 + v2 * v2) ((i + 1 : Nat) : Int)) else (f_Mo_nearest_L32 s a b k' n x y ((i + 1 : Nat) : Int)))) else f_Mo_nearest_L32 s a b k' n x y ((i + 1 : Nat) : Int)) := by
      rw [f_Mo_nearest_L32, gd_p ⟨by omega, by omega⟩, if_pos (show (i : Int) < 24 by omega), gd_p ⟨by omega, by omega⟩, gd_p ⟨by omega, by omega⟩, show ((5 : Int) + 4 * (i : Int)).toNat = 5 + 4 * i by omega, show ((5 : Int) + 4 * (i : Int) + 2).toNat = 5 + 4 * i + 2 by omega, bd1_p f1, gd_p ⟨by omega, by omega⟩, gd_p ⟨by omega, by omega⟩, show ((5 : Int) + 4 * (i : Int) + 1).toNat = 5 + 4 * i + 1 by omega, show ((5 : Int) + 4 * (i : Int) + 3).toNat = 5 + 4 * i + 3 by omega, bd1_p f3, bd1_p (isb_sp O.1.1.2.2 (by omega)), show (i : Int) + 1 = ((i + 1 : Nat) : Int) by omega]
      by_cases hq : i ∈ Q
      · rw [if_pos hq, if_pos hq, gd_p ck_1, if_neg (show ¬ (1 : Int) = 0 by omega)]
      · rw [if_neg hq, if_neg hq, gd_p ck_0, if_pos (show (0 : Int) = 0 from rfl)]
    rw [hM, f_Rt_nearest_L22, gd_p ⟨by omega, by omega⟩, if_pos (show (i : Int) < 24 by omega), bd1_p (hasb_sp h (by omega)), show (i : Int) + 1 = ((i + 1 : Nat) : Int) by omega]
    by_cases hq : i ∈ Q
    · have hv := hbx.1.2 (hbx.2.mpr hq)
      have r0 := bx_cor (t := 0) O hq (by omega) (by omega)
      have r1 := bx_cor (t := 1) O hq (by omega) (by omega)
      have r2 := bx_cor (t := 2) O hq (by omega) (by omega)
      have r3 := bx_cor (t := 3) O hq (by omega) (by omega)
      rw [show 5 + 4 * i + 0 = 5 + 4 * i from rfl, show 4 * i + 0 = 4 * i from rfl] at r0
      have hd : v1 * v1 + v2 * v2 = dst (tCor T) i a b := by
        unfold dst
        rw [f2 hv.1, f4 hv.2, r0, r1, r2, r3]
      have hdc := dst_ck (h.rgx hq) ha hb
      have hcx : ck x := ⟨by omega, by omega⟩
      rw [hd, if_pos hq, if_pos hq, gd_p ck_1, if_neg (show ¬ (1 : Int) = 0 by omega), bd1_p (t_square hR (h.lt hq) (h.rgx hq) ha hb), gd_p hcx, gd_p hcx]
      by_cases hx5 : x = -5
      · rw [if_pos hx5, if_pos (show x < 0 by omega)]
        exact nst_go O ha hb k k' d (i + 1) n (i : Int) _ (by omega) (by omega) (Or.inr ⟨by omega, by omega⟩) hdc
      · rw [if_neg hx5, if_neg (show ¬ x < 0 by omega), gd_p hdc, gd_p hy, gd_p hdc, gd_p hy]
        by_cases hlt : dst (tCor T) i a b < y
        · rw [if_pos hlt, if_pos hlt]
          exact nst_go O ha hb k k' d (i + 1) n (i : Int) _ (by omega) (by omega) (Or.inr ⟨by omega, by omega⟩) hdc
        · rw [if_neg hlt, if_neg hlt]
          exact nst_go O ha hb k k' d (i + 1) n x y (by omega) (by omega) hx hy
    · rw [if_neg hq, if_neg hq, gd_p ck_0, if_pos (show (0 : Int) = 0 from rfl)]
      exact nst_go O ha hb k k' d (i + 1) n x y (by omega) (by omega) hx hy
theorem q_nearest {T : TV} {K : KV} {kl : Nat → List Nat} {Q : List Nat} {r : Nat} {s : Nat → Int} {a b : Int} (O : Nm T K kl Q r s) (g1 : ck a) (g2 : ck b) : ∃ r_1, f_Rt_nearest T a b = some r_1 ∧ f_Mo_nearest s a b = some r_1 := by
  unfold f_Rt_nearest f_Mo_nearest
  rw [isrect_c g1 g2 g1 g2, in_sp g1 ck_0 ⟨by omega, by omega⟩, in_sp g2 ck_0 ⟨by omega, by omega⟩]
  by_cases h1 : 0 ≤ a ∧ a ≤ 99
  · by_cases h2 : 0 ≤ b ∧ b ≤ 99
    · obtain ⟨x', y', c1, c2⟩ := nst_go O h1 h2 (fun x3_21 x4_22 x5_23 => some (x3_21)) (fun x3_21 x4_22 x5_23 => some (x3_21)) 24 0 FU (-5) 0 rfl (by unfold FU; omega) (Or.inl rfl) ck_0
      refine ⟨x', ?_, ?_⟩
      · rw [if_pos (show (0 ≤ a ∧ a ≤ a ∧ a ≤ 99) ∧ (0 ≤ b ∧ b ≤ b ∧ b ≤ 99) by omega), bd1_p rfl, gd_p ck_1, if_neg (by omega)]
        exact c1
      · rw [if_pos h1, if_pos h2, bd1_p rfl, gd_p ck_1, if_neg (by omega), bd1_p rfl, gd_p ck_1, if_neg (by omega)]
        exact c2
    · refine ⟨-2, ?_, ?_⟩
      · rw [if_neg (show ¬ ((0 ≤ a ∧ a ≤ a ∧ a ≤ 99) ∧ (0 ≤ b ∧ b ≤ b ∧ b ≤ 99)) by omega), bd1_p rfl, gd_p ck_0, if_pos rfl]
      · rw [if_pos h1, if_neg h2, bd1_p rfl, gd_p ck_1, if_neg (by omega), bd1_p rfl, gd_p ck_0, if_pos rfl]
  · refine ⟨-2, ?_, ?_⟩
    · rw [if_neg (show ¬ ((0 ≤ a ∧ a ≤ a ∧ a ≤ 99) ∧ (0 ≤ b ∧ b ≤ b ∧ b ≤ 99)) by omega), bd1_p rfl, gd_p ck_0, if_pos rfl]
    · rw [if_neg h1, bd1_p rfl, gd_p ck_0, if_pos rfl]
