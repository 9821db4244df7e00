/-! a removal and a packing once more: which boxes stay, and the counts -/
theorem bx_go2 {S : List Nat} {LB : KV} {aside begin : Nat → Int} {i o : Nat} (hI : Itm LB (bxs S)) (hlen : (bxs S).length ≤ kLen LB) (hK : kLen LB ≤ 8192) (hA : ∀ (j z : Nat), S[j]? = some z → ck (aside (o + j)) ∧ (z < 24 → aside (o + j) = (z : Int)) ∧ (24 ≤ z → aside (o + j) < 0)) (hbe : begin (i + 1) = ((o + S.length : Nat) : Int)) (ho : o + S.length ≤ 360) (hi : i < 60) (kC : Int → (Nat → Int) → Int → Int64 → TV → Option ((Nat → Int) × Int × Int64 × TV × KV × KV)) (kR : Int → (Nat → Int) → (Nat → Int) → (Nat → Int) → Int → Int → (Nat → Int) → (Nat → Int) → (Nat → Int) → (Nat → Int) → (Nat → Int) → (Nat → Int) → Option RI) : ∀ (S2 S1 : List Nat) (T : TV) (kl : Nat → List Nat) (Q M : List Nat) (r n m : Nat) (cc : Int64) (s pool w it tr fr gr tu si old : Nat → Int) (left items il : Int), S = S1 ++ S2 → LW T kl Q r s (bxs S2 ++ M) → (∀ b ∈ bxs S2, pr (tLev T) kl b = [b]) → S2.length < n → S2.length < m → ∃ (T' : TV) (kl' : Nat → List Nat) (Q' : List Nat) (r' : Nat) (left' items' il' : Int) (cc' : Int64) (s' pool' w' it' tr' fr' gr' tu' si' old' : Nat → Int), f_Ch_putBackKept_L61 LB kC n ((bxs S1).length : Int) pool left cc T = kC ((bxs S).length : Int) pool' left' cc' T' ∧ f_Mo_insertsAside_L58 aside begin (i : Int) kR m ((o + S1.length : Nat) : Int) s w it items il tr fr gr tu si old = kR ((o + S.length : Nat) : Int) s' w' it' items' il' tr' fr' gr' tu' si' old' ∧ LW T' kl' Q' r' s' M ∧ (Rt2 (tLev T) kl r → Rt2 (tLev T') kl' r') ∧ (∀ y2 ∈ M, pr (tLev T') kl' y2 = pr (tLev T) kl y2 ∧ ∀ v ∈ pr (tLev T) kl y2, tLev T' v = tLev T v) ∧ (∀ b, b < 24 → (b ∈ Q' ↔ b ∈ Q)) ∧ Inc T T' (4096 * (S2.length : Int)) := by
  intro S2
  induction S2 with
  | nil =>
    intro S1 T kl Q M r n m cc s pool w it tr fr gr tu si old left items il hS W hp hn hm
    obtain ⟨n, rfl⟩ : ∃ q, n = q + 1 := ⟨n - 1, by simp at hn; omega⟩
    obtain ⟨m, rfl⟩ : ∃ q, m = q + 1 := ⟨m - 1, by simp at hm; omega⟩
    rw [List.append_nil] at hS
    subst hS
    refine ⟨T, kl, Q, r, left, items, il, cc, s, pool, w, it, tr, fr, gr, tu, si, old, ?_, ?_, W, fun q => q, fun y2 _ => ⟨rfl, fun _ _ => rfl⟩, fun _ _ => Iff.rfl, Inc.rf (by omega)⟩
    · rw [f_Ch_putBackKept_L61, gd_p ⟨by omega, by omega⟩, hI.1, gd_p ⟨by omega, by omega⟩, if_neg (by omega)]
    · rw [f_Mo_insertsAside_L58, gd_p ⟨by omega, by omega⟩, gd_p ⟨by omega, by omega⟩, show ((i : Int) + 1).toNat = i + 1 by omega, hbe, gd_p ⟨by omega, by omega⟩, if_neg (by omega)]
  | cons z S2 ih =>
    intro S1 T kl Q M r n m cc s pool w it tr fr gr tu si old left items il hS W hp hn hm
    obtain ⟨n, rfl⟩ : ∃ q, n = q + 1 := ⟨n - 1, by simp at hn; omega⟩
    obtain ⟨m, rfl⟩ : ∃ q, m = q + 1 := ⟨m - 1, by simp at hm; omega⟩
    have hlS := congrArg List.length hS
    rw [List.length_append, List.length_cons] at hlS
    have hz := hA S1.length z (by rw [hS]; exact mid_get)
    simp only [List.length_cons] at hn hm
    have hS' : S = (S1 ++ [z]) ++ S2 := by rw [hS]; simp
    have hl1 : ((o + (S1 ++ [z]).length : Nat) : Int) = ((o + S1.length : Nat) : Int) + 1 := by rw [List.length_append]; simp; omega
    by_cases hz24 : z < 24
    · have hb : bxs (z :: S2) = z :: bxs S2 := by simp [bxs, hz24]
      have hb1 : bxs (S1 ++ [z]) = bxs S1 ++ [z] := by rw [bxs_app]; simp [bxs, hz24]
      have hbl : bxs S = bxs S1 ++ z :: bxs S2 := by rw [hS, bxs_app, hb]
      rw [hb] at W hp
      have hW : LW T kl Q r s (z :: (bxs S2 ++ M)) := W
      have hpz := hp z List.mem_cons_self
      have h := W.1.1.1.1
      have hzM := hW.2.1.2.1 z List.mem_cons_self
      have hlz := (h.lev24 hzM.1).mp hz24
      have hrl := W.1.1.2.2.1.rl
      obtain ⟨T1, kl1, Q1, r1, left1, items1, il1, cc1, s1, pool1, w1, it1, tr1, fr1, gr1, tu1, si1, old1, a1, a2, a3, a4, a5, a6⟩ := own_lo (pool := pool) (w := w) (it := up it 0 (z : Int)) (tr := tr) (fr := fr) (gr := gr) (tu := tu) (si := si) (old := old) (left := left) hW (by rw [hlz]; omega) (fun j z2 hz2 => by
        rw [hpz] at hz2
        have := (List.getElem?_eq_some_iff.mp hz2).1
        simp at this
        subst this
        simp at hz2
        subst hz2
        rw [up_s]
        unfold sg
        rw [if_pos hz24])
      rw [hpz, hlz] at a2
      obtain ⟨T2, kl2, Q2, r2, left2, items2, il2, cc2, s2, pool2, w2, it2, tr2, fr2, gr2, tu2, si2, old2, b1, b2, b3, b4, b5, b6, b7⟩ := ih (S1 ++ [z]) T1 kl1 Q1 M r1 n m cc1 s1 pool1 w1 it1 tr1 fr1 gr1 tu1 si1 old1 left1 items1 il1 hS' a3 (fun b hb2 => by
        rw [(a5 b (List.mem_append_left _ hb2)).1]
        exact hp b (List.mem_cons_of_mem _ hb2)) (by omega) (by omega)
      refine ⟨T2, kl2, Q2, r2, left2, items2, il2, cc2, s2, pool2, w2, it2, tr2, fr2, gr2, tu2, si2, old2, ?_, ?_, b3, fun q => b4 (a4 q), fun y2 hy2 => ?_, fun b hb2 => (b6 b hb2).trans (a6 b hb2), (si_own a1).tr b7 (by rw [List.length_cons]; omega)⟩
      · have hg : (bxs S)[(bxs S1).length]? = some z := by rw [hbl]; exact mid_get
        have hll := congrArg List.length hbl
        rw [List.length_append, List.length_cons] at hll
        rw [hb1, List.length_append, show (((bxs S1).length + [z].length : Nat) : Int) = ((bxs S1).length : Int) + 1 by simp] at b1
        rw [f_Ch_putBackKept_L61, gd_p ⟨by omega, by omega⟩, hI.1, gd_p ⟨by omega, by omega⟩, if_pos (by omega), bd1_p (at_itm hI hlen hK hg), bd4_p a1]
        exact b1
      · have a2 : f_Mo_inserts s w (up it 0 (z : Int)) 1 0 tr fr gr tu si old = _ := a2
        rw [hl1] at b2
        rw [f_Mo_insertsAside_L58, gd_p ⟨by omega, by omega⟩, gd_p ⟨by omega, by omega⟩, show ((i : Int) + 1).toNat = i + 1 by omega, hbe, gd_p ⟨by omega, by omega⟩, if_pos (by omega), gd_p ⟨by omega, by omega⟩, show (((o + S1.length : Nat) : Int)).toNat = o + S1.length by omega, gd_p hz.1, hz.2.1 hz24, if_neg (by omega), bd11_p a2]
        exact b2
      · have c1 := a5 y2 (List.mem_append_right _ hy2)
        have c2 := b5 y2 hy2
        rw [c1.1] at c2
        exact ⟨c2.1, fun v hv => (c2.2 v hv).trans (c1.2 v hv)⟩
    · have hb : bxs (z :: S2) = bxs S2 := by simp [bxs, hz24]
      have hb1 : bxs (S1 ++ [z]) = bxs S1 := by rw [bxs_app]; simp [bxs, hz24]
      rw [hb] at W hp
      have hneg := hz.2.2 (by omega)
      obtain ⟨T2, kl2, Q2, r2, left2, items2, il2, cc2, s2, pool2, w2, it2, tr2, fr2, gr2, tu2, si2, old2, b1, b2, b3, b4, b5, b6, b7⟩ := ih (S1 ++ [z]) T kl Q M r (n + 1) m cc s pool w it tr fr gr tu si old left items il hS' W hp (by omega) (by omega)
      refine ⟨T2, kl2, Q2, r2, left2, items2, il2, cc2, s2, pool2, w2, it2, tr2, fr2, gr2, tu2, si2, old2, ?_, ?_, b3, b4, b5, b6, b7.le (by rw [List.length_cons]; omega)⟩
      · rw [hb1] at b1
        exact b1
      · rw [hl1] at b2
        rw [f_Mo_insertsAside_L58, gd_p ⟨by omega, by omega⟩, gd_p ⟨by omega, by omega⟩, show ((i : Int) + 1).toNat = i + 1 by omega, hbe, gd_p ⟨by omega, by omega⟩, if_pos (by omega), gd_p ⟨by omega, by omega⟩, show (((o + S1.length : Nat) : Int)).toNat = o + S1.length by omega, gd_p hz.1, if_pos hneg]
        exact b2
theorem pb_go2 {lv0 : Nat → Int} {kl0 : Nat → List Nat} {MM : List Nat} {kept aside begin level : Nat → Int} (K : Kp lv0 kl0 MM kept aside begin level) (hM20 : MM.length ≤ 20) (hMl : (prs lv0 kl0 MM).length ≤ 360) (kC : Int → (Nat → Int) → Int → Int64 → TV → KV → KV → Option ((Nat → Int) × Int × Int64 × TV × KV × KV)) (kR : Int → (Nat → Int) → (Nat → Int) → (Nat → Int) → Int → Int → (Nat → Int) → (Nat → Int) → (Nat → Int) → (Nat → Int) → (Nat → Int) → (Nat → Int) → Option RM) : ∀ (M2 M1 : List Nat) (T : TV) (kl : Nat → List Nat) (Q : List Nat) (r n m : Nat) (cc : Int64) (LB LN : KV) (s pool w it tr fr gr tu si old : Nat → Int) (left items il : Int), MM = M1 ++ M2 → LW T kl Q r s M2 → (∀ y ∈ M2, pr (tLev T) kl y = pr lv0 kl0 y ∧ ∀ v ∈ pr lv0 kl0 y, tLev T v = lv0 v) → KR LB → KR LN → M2.length < n → M2.length < m → ∃ (T' : TV) (kl' : Nat → List Nat) (Q' : List Nat) (r' : Nat) (left' items' il' : Int) (cc' : Int64) (LB' LN' : KV) (s' pool' w' it' tr' fr' gr' tu' si' old' : Nat → Int), f_Ch_putBackKept_L2 kept (MM.length : Int) kC n (M1.length : Int) pool left cc T LB LN = kC (MM.length : Int) pool' left' cc' T' LB' LN' ∧ f_Mo_remove_L102 aside begin level (MM.length : Int) kR m (M1.length : Int) s w it items il tr fr gr tu si old = kR (MM.length : Int) s' w' it' items' il' tr' fr' gr' tu' si' old' ∧ LW T' kl' Q' r' s' [] ∧ (Rt2 (tLev T) kl r → Rt2 (tLev T') kl' r') ∧ (∀ b, b < 24 → (b ∈ Q' ↔ b ∈ Q)) ∧ KR LB' ∧ KR LN' ∧ Inc T T' (1474560 * (M2.length : Int)) := by
  intro M2
  induction M2 with
  | nil =>
    intro M1 T kl Q r n m cc LB LN s pool w it tr fr gr tu si old left items il hMM W hp hLB hLN hn hm
    obtain ⟨n, rfl⟩ : ∃ q, n = q + 1 := ⟨n - 1, by simp at hn; omega⟩
    obtain ⟨m, rfl⟩ : ∃ q, m = q + 1 := ⟨m - 1, by simp at hm; omega⟩
    rw [List.append_nil] at hMM
    subst hMM
    refine ⟨T, kl, Q, r, left, items, il, cc, LB, LN, s, pool, w, it, tr, fr, gr, tu, si, old, ?_, ?_, W, fun q => q, fun _ _ => Iff.rfl, hLB, hLN, Inc.rf (by omega)⟩
    · rw [f_Ch_putBackKept_L2, gd_p ⟨by omega, by omega⟩, gd_p ⟨by omega, by omega⟩, if_neg (by omega)]
    · rw [f_Mo_remove_L102, gd_p ⟨by omega, by omega⟩, gd_p ⟨by omega, by omega⟩, if_neg (by omega)]
  | cons y M2 ih =>
    intro M1 T kl Q r n m cc LB LN s pool w it tr fr gr tu si old left items il hMM W hp hLB hLN hn hm
    obtain ⟨n, rfl⟩ : ∃ q, n = q + 1 := ⟨n - 1, by simp at hn; omega⟩
    obtain ⟨m, rfl⟩ : ∃ q, m = q + 1 := ⟨m - 1, by simp at hm; omega⟩
    have hlM := congrArg List.length hMM
    rw [List.length_append, List.length_cons] at hlM
    simp only [List.length_cons] at hn hm
    have J := W.1.1.1
    have h := J.1
    have hr := J.2.1.1
    have hrl := h.lt hr
    have hlr := W.1.1.2.2.1.rl
    have hyM := W.2.1.2.1 y List.mem_cons_self
    have hyl := h.lt hyM.1
    have hly := W.1.1.2.2.1.lvl y hyM.1
    have hMy : MM[M1.length]? = some y := by rw [hMM]; exact mid_get
    have hpy := hp y List.mem_cons_self
    have hyp : y ∈ pr lv0 kl0 y := by rw [← hpy.1]; exact pr_self (Lk_at h.lk hyM.1)
    have hlvy := hpy.2 y hyp
    have k1 := K.1 _ _ hMy
    have k2 := K.2.1 M1.length (by omega)
    have k3 := K.2.1 (M1.length + 1) (by omega)
    have k4 := K.2.2 _ _ hMy
    have htk1 : MM.take M1.length = M1 := by rw [hMM]; exact List.take_left
    have htk2 : MM.take (M1.length + 1) = M1 ++ [y] := by
      rw [hMM, show M1 ++ y :: M2 = (M1 ++ [y]) ++ M2 by simp, show M1.length + 1 = (M1 ++ [y]).length by simp]
      exact List.take_left
    rw [htk1] at k2 k4
    rw [htk2, prs_app, prs_cons, prs_nil, List.append_nil, List.length_append] at k3
    have hMl2 := hMl
    rw [hMM, prs_app, prs_cons, List.length_append, List.length_append] at hMl2
    have hMM' : MM = (M1 ++ [y]) ++ M2 := by rw [hMM]; simp
    have hl1 : (((M1 ++ [y]).length : Nat) : Int) = (M1.length : Int) + 1 := by rw [List.length_append]; simp
    have hlev0 : f_Mo_levelAt s 0 = some (tLev T r) := row_lev (k := 0) J.2.2.1 (by rw [pr_eq (Lk_at h.lk hr)]; rfl)
    have hkat : f_Rt_at 24 kept (M1.length : Int) = some (y : Int) := by rw [at_sp (by omega) (by omega), k1]
    have hm1 : ((M1.length : Nat) : Int).toNat = M1.length := by omega
    have hm2 : ((M1.length : Nat) : Int) + 1 = ((M1.length + 1 : Nat) : Int) := by omega
    have hm3 : ((((M1.length : Nat) : Int) + 1)).toNat = M1.length + 1 := by omega
    by_cases hlow : tLev T y + 1 ≤ tLev T r
    · obtain ⟨it1, t1, t2⟩ := tka_go (aside := aside) (o := (prs lv0 kl0 M1).length) (len := (pr lv0 kl0 y).length) (by omega) (fun x4_6 c_item_7 => some (c_item_7, ((pr lv0 kl0 y).length : Int))) (pr lv0 kl0 y).length 0 FU it (by omega) (by unfold FU; omega) (fun j hj => absurd hj (by omega))
      obtain ⟨T1, kl1, Q1, r1, left1, items1, il1, cc1, s1, pool1, w1, it2, tr1, fr1, gr1, tu1, si1, old1, a1, a2, a3, a4, a5, a6⟩ := own_lo (pool := pool) (w := w) (it := it1) (tr := tr) (fr := fr) (gr := gr) (tu := tu) (si := si) (old := old) (left := left) W hlow (fun j z hz => by
        rw [hpy.1] at hz
        have hjl := (List.getElem?_eq_some_iff.mp hz).1
        rw [t2 j hjl, k4.2 j z hz]
        unfold sg
        rw [hpy.2 z (List.mem_of_getElem? hz)])
      rw [hpy.1, hlvy] at a2
      obtain ⟨T2, kl2, Q2, r2, left2, items2, il2, cc2, LB2, LN2, s2, pool2, w2, it3, tr2, fr2, gr2, tu2, si2, old2, b1, b2, b3, b4, b5, b6⟩ := ih (M1 ++ [y]) T1 kl1 Q1 r1 n m cc1 LB LN s1 pool1 w1 it2 tr1 fr1 gr1 tu1 si1 old1 left1 items1 il1 hMM' a3 (fun y2 hy2 => by
        have c1 := a5 y2 hy2
        have c2 := hp y2 (List.mem_cons_of_mem _ hy2)
        exact ⟨c1.1.trans c2.1, fun v hv => (c1.2 v (by rw [c2.1]; exact hv)).trans (c2.2 v hv)⟩) hLB hLN (by omega) (by omega)
      refine ⟨T2, kl2, Q2, r2, left2, items2, il2, cc2, LB2, LN2, s2, pool2, w2, it3, tr2, fr2, gr2, tu2, si2, old2, ?_, ?_, b3, fun q => b4 (a4 q), fun b hb => (b5 b hb).trans (a6 b hb), b6.1, b6.2.1, (si_own a1).tr b6.2.2 (by rw [List.length_cons]; omega)⟩
      · rw [hl1] at b1
        rw [f_Ch_putBackKept_L2, gd_p ⟨by omega, by omega⟩, gd_p ⟨by omega, by omega⟩, if_pos (by omega), bd1_p hkat, bd1_p (t_lev h.le hyl), J.2.1.2.2.1, bd1_p (t_lev h.le hrl), gd_p ⟨by omega, by omega⟩, gd_p ⟨by omega, by omega⟩, if_neg (by omega), bd4_p a1]
        exact b1
      · rw [hl1] at b2
        have hins : f_Mo_insertsAside s w it items il tr fr gr tu si old aside begin level (M1.length : Int) = some (s1, w1, it2, items1, il1, tr1, fr1, gr1, tu1, si1, old1) := by
          have hta : f_Mo_takes_aside it aside (begin M1.length) (begin (M1.length + 1)) = some (it1, ((pr lv0 kl0 y).length : Int)) := by
            unfold f_Mo_takes_aside
            rw [k2, k3, show (((prs lv0 kl0 M1).length + (pr lv0 kl0 y).length : Nat) : Int) - ((prs lv0 kl0 M1).length : Int) = ((pr lv0 kl0 y).length : Int) by omega]
            exact t1
          unfold f_Mo_insertsAside
          rw [gd_p ⟨by omega, by omega⟩, bd1_p hlev0, hm1, k4.1, gd_p ⟨by omega, by omega⟩, gd_p ⟨by omega, by omega⟩, if_neg (by omega), gd_p ⟨by omega, by omega⟩, gd_p ⟨by omega, by omega⟩, hm3, bd2_p hta, bd11_p a2]
        rw [f_Mo_remove_L102, gd_p ⟨by omega, by omega⟩, gd_p ⟨by omega, by omega⟩, if_pos (by omega), bd11_p hins]
        exact b2
    · have hy24 : 24 ≤ y := by
        rcases Nat.lt_or_ge y 24 with q | q
        · have := (h.lev24 hyM.1).mp q
          omega
        · exact q
      obtain ⟨T1, LB1, LN1, Q1, a1, a2, a3, a4, a5, a6, a7, a8, a9⟩ := dissolve_sp W hy24 hLB hLN
      rw [hpy.1] at a2 a5 a6
      have hK1 : kLen LB1 ≤ 8192 := by have q := a3; simp only [R3, KR] at q; omega
      obtain ⟨T2, kl2, Q2, r2, left2, items2, il2, cc2, s2, pool2, w2, it2, tr2, fr2, gr2, tu2, si2, old2, b1, b2, b3, b4, b5, b6, b7⟩ := bx_go2 (S := pr lv0 kl0 y) (aside := aside) (begin := begin) (i := M1.length) (o := (prs lv0 kl0 M1).length) a2 a5 hK1 (fun j z hz => by
        have hzm := List.mem_of_getElem? hz
        have hzQ := (pr_in h.lk y hyM.1 z (by rw [hpy.1]; exact hzm)).1
        have := k4.2 j z hz
        have hlz := hpy.2 z hzm
        have hlz2 := W.1.1.2.2.1.lvl z hzQ
        have hz24 := h.lev24 hzQ
        rw [this]
        unfold sg
        by_cases q : z < 24
        · rw [if_pos q]
          exact ⟨⟨by omega, by omega⟩, fun _ => rfl, fun q2 => by omega⟩
        · have h5 : ¬ tLev T z = -1 := fun e => q (hz24.mpr e)
          rw [if_neg q]
          exact ⟨⟨by omega, by omega⟩, fun q2 => absurd q2 q, fun _ => by omega⟩) k3 (by omega) (by omega) (fun x3_35 c_pool_36 c_left_37 c_treated_38 T_39 => f_Ch_putBackKept_L2 kept (MM.length : Int) kC n ((M1.length : Int) + 1) (c_pool_36) (c_left_37) (c_treated_38) (T_39) (LB1) (LN1)) (fun x2_29 c_s_30 c_rect_31 c_item_32 c_items_33 c_itemLevel_34 c_treated_35 c_from_36 c_group_37 c_turn_38 c_size_39 c_old_40 => some (c_s_30, c_rect_31, c_item_32, c_items_33, c_itemLevel_34, c_treated_35, c_from_36, c_group_37, c_turn_38, c_size_39, c_old_40)) (pr lv0 kl0 y) [] T1 kl Q1 M2 r FU FU cc s pool w it tr fr gr tu si old left items il rfl a6 (fun b hb => by
        have hbQ := (a6.2.1.2.1 b (List.mem_append_left _ hb)).1
        have hb24 := (bxs_mem.mp hb).2
        have A1 := a6.1.1.1.1
        rw [pr_eq (Lk_at A1.lk hbQ), (A1.2.2.2.2 b hbQ).2.1 hb24]
        rfl) (by unfold FU; omega) (by unfold FU; omega)
      obtain ⟨T3, kl3, Q3, r3, left3, items3, il3, cc3, LB3, LN3, s3, pool3, w3, it3, tr3, fr3, gr3, tu3, si3, old3, c1, c2, c3, c4, c5, c6⟩ := ih (M1 ++ [y]) T2 kl2 Q2 r2 n m cc2 LB1 LN1 s2 pool2 w2 it2 tr2 fr2 gr2 tu2 si2 old2 left2 items2 il2 hMM' b3 (fun y2 hy2 => by
        have d1 := a7 y2 hy2
        have d2 := b5 y2 hy2
        have d3 := hp y2 (List.mem_cons_of_mem _ hy2)
        rw [d1.1, d3.1] at d2
        rw [d3.1] at d1
        exact ⟨d2.1, fun v hv => (d2.2 v hv).trans ((d1.2 v hv).trans (d3.2 v hv))⟩) a3 a4 (by omega) (by omega)
      have hRt : Rt2 (tLev T) kl r → Rt2 (tLev T1) kl r := fun q => by
        unfold Rt2 at q ⊢
        rw [a9]
        exact q
      refine ⟨T3, kl3, Q3, r3, left3, items3, il3, cc3, LB3, LN3, s3, pool3, w3, it3, tr3, fr3, gr3, tu3, si3, old3, ?_, ?_, c3, fun q => c4 (b4 (hRt q)), fun b hb => ((c5 b hb).trans (b6 b hb)).trans (a8 b hb), c6.1, c6.2.1, (Inc.eq (b := 0) (sr_Ch_dissolve _ _ _ _ _ a1) (by omega)).tr (b7.tr c6.2.2 (Int.le_refl _)) (by rw [List.length_cons]; omega)⟩
      · rw [hl1] at c1
        rw [f_Ch_putBackKept_L2, gd_p ⟨by omega, by omega⟩, gd_p ⟨by omega, by omega⟩, if_pos (by omega), bd1_p hkat, bd1_p (t_lev h.le hyl), J.2.1.2.2.1, bd1_p (t_lev h.le hrl), gd_p ⟨by omega, by omega⟩, gd_p ⟨by omega, by omega⟩, if_pos (by omega), bd3_p a1]
        refine Eq.trans b1 ?_
        exact c1
      · rw [hl1] at c2
        have hins : f_Mo_insertsAside s w it items il tr fr gr tu si old aside begin level (M1.length : Int) = some (s2, w2, it2, items2, il2, tr2, fr2, gr2, tu2, si2, old2) := by
          unfold f_Mo_insertsAside
          rw [gd_p ⟨by omega, by omega⟩, bd1_p hlev0, hm1, k4.1, gd_p ⟨by omega, by omega⟩, gd_p ⟨by omega, by omega⟩, if_pos (by omega), gd_p ⟨by omega, by omega⟩, k2]
          exact b2
        rw [f_Mo_remove_L102, gd_p ⟨by omega, by omega⟩, gd_p ⟨by omega, by omega⟩, if_pos (by omega), bd11_p hins]
        exact c2
theorem rem_st2 {T : TV} {kl : Nat → List Nat} {Q : List Nat} {r b : Nat} {s kept pool w it tr fr gr tu si old aside begin level past past' : Nat → Int} {left items il asides pasts pasts' : Int} {cc : Int64} {LB LN : KV} (O : St T kl Q r s) (hb : b ∈ Q) (hb24 : b < 24) (hLB : KR LB) (hLN : KR LN) (hrec : f_Mo_records s past pasts = some (past', pasts')) : ∃ (T1 T' : TV) (kl' : Nat → List Nat) (Q' : List Nat) (r' : Nat) (kc' left' items' il' asides' : Int) (cc' : Int64) (LB' LN' : KV) (s' kept' pool' w' it' tr' fr' gr' tu' si' old' aside' begin' level' : Nat → Int), f_Ch_takeOutBox kept T (b : Int) = some (kept', kc', T1) ∧ f_Ch_putBackKept kept' kc' pool left cc T1 LB LN = some (pool', left', cc', T', LB', LN') ∧ f_Mo_remove s past pasts w it items il tr fr gr tu si old aside begin level asides (b : Int) = some ((nbx Q' 24 : Int), s', past', pasts', w', it', items', il', tr', fr', gr', tu', si', old', aside', begin', level', asides') ∧ St T' kl' Q' r' s' ∧ KR LB' ∧ KR LN' ∧ (∀ c, c < 24 → (c ∈ Q' ↔ c ∈ Q ∧ c ≠ b)) ∧ Inc T1 T' 29491200 := by
  have J := O.1.1.1
  have h := J.1
  have hlk := h.lk
  have hr := J.2.1.1
  have hhr := J.2.1.2.2.2
  have hr24 := J.2.1.2.1
  have hrl := h.lt hr
  have hR := h.1
  have hle := h.le
  have hbr : b ≠ r := fun q => by omega
  have hbp := O.2.1 b hb
  have hlb := (h.lev24 hb).mp hb24
  have hprb : pr (tLev T) kl b = [b] := by
    rw [pr_eq (Lk_at hlk hb), (h.2.2.2.2 b hb).2.1 hb24]
    rfl
  obtain ⟨A, B, c1, c2, -, -⟩ := ctx hlk b r hr hbp
  have hst := c2 [] stops_nil
  rw [List.append_nil] at hst
  have hN := pr_nodup h r hr
  have hatb : At T kl r b A.length := ⟨B, by rw [c1]; exact drop_here A _, hst⟩
  have c1' : pr (tLev T) kl r = A ++ b :: B := by rw [c1, hprb]; rfl
  have hbA : b ∉ A := fun q => by
    rw [c1'] at hN
    exact (List.nodup_append.mp hN).2.2 b q b (by simp) rfl
  have hplc := plc_sp J.2.2.1 hb24 c1' hbA
  obtain ⟨x, p', q1, q2, q3, q4, q5, -⟩ := above_sp h hr J.2.2.1 hb hbr hbp hatb
  have hxk := h.kid q1 q3
  have hx24 := h.node q1 q3
  have hlx : tLev T x = 0 := by omega
  obtain ⟨D, E, hk⟩ := List.append_of_mem q3
  obtain ⟨T1, s1, a1, a2, a3, a4, a5, a6, a7, a8, a9, a10, a11, a12⟩ := out_sp h hr J.2.2.1 (fun v hv _ => J.2.2.2.1 v hv) q1 q2 hk hatb
  have hL1 : tLev T1 = tLev T := a5.1
  rw [hprb] at a2 a10 a11
  rw [hL1] at a8 a10 a11
  have hat1 : At T1 (upL kl x (D ++ E)) r x p' := at_keep h hr q1 q2 q5 (fun v hv => upL_o hv) hL1
  have hxb : x ≠ b := fun q => by omega
  have hfree := a3.free hb (fun y hy q => by
    rcases (a3.2.2.2.2 y hy).2.2.2.2.2 with e | ⟨z, z1, z2, z3, z4⟩
    · omega
    · omega) (fun z hz => a3.loose (by rw [a6]; exact up_s) z hz)
  have hm : ∀ v, v ∈ Q.erase b ↔ v ∈ Q ∧ v ≠ b := fun v => by rw [h.2.1.mem_erase_iff]; exact And.comm
  generalize hkl1 : upL kl x (D ++ E) = kl1 at a3 a4 a8 a10 a11 hat1 hfree
  have hkl1x : kl1 x = D ++ E := by rw [← hkl1]; exact upL_s
  have hkl1o : ∀ v, v ≠ x → kl1 v = kl v := fun v hv => by rw [← hkl1]; exact upL_o hv
  have hlenk := congrArg List.length hk
  rw [List.length_append, List.length_cons] at hlenk
  have hbp1 : b ∉ pr (tLev T) kl1 r := fun q => a11 b q (by simp)
  have hl2 : ∀ v, v ≠ b → tLev (tk T1 b (-2)) v = tLev T v := fun v hv => (up_o hv).trans (by rw [hL1])
  have hlk1 := a3.lk
  rw [hL1] at hlk1
  have hpr2 : ∀ t ∈ Q, b ∉ pr (tLev T) kl1 t → pr (tLev (tk T1 b (-2))) kl1 t = pr (tLev T) kl1 t := fun t ht hn => pr_same hlk1 t ht (fun z hz => ⟨rfl, hl2 z (fun q => hn (q ▸ hz))⟩)
  have hprr := hpr2 r hr hbp1
  have hx1 : x ∈ pr (tLev T) kl1 r := by
    rcases (a10 x).mp q2 with q | q
    · exact q
    · exact absurd (List.mem_singleton.mp q) hxb
  have hxQ := (hm x).mpr ⟨q1, hxb⟩
  have hrQ := (hm r).mpr ⟨hr, fun q => hbr q.symm⟩
  have hlr2 := hl2 r (fun q => hbr q.symm)
  have hB := O.1.1.2.2.1
  have hlrb := hB.rl
  have W : TW (tk T1 b (-2)) kl1 (Q.erase b) r (up s1 (5 + 4 * b) (-1)) x [] := by
    refine ⟨⟨hfree.2, ⟨hrQ, hr24, a5.2.2.1.trans J.2.1.2.2.1, ?_⟩, ?_, fun v hv => a4 v ((hm v).mp hv).1, fun c hc hc24 t ht => ?_⟩, ⟨hxQ, hx24, by rw [hprr]; exact hx1⟩, fun v hv hv24 hve => ?_, fun v hv => ?_, ?_, ?_, ⟨?_, ?_, ?_, ?_⟩, fun c hc => ?_, ?_, ⟨List.nodup_nil, (fun y hy => by cases hy), fun v hv => ?_⟩, ?_, ?_⟩
    · show up (tHol T1) b (-1) r = -1
      rw [up_o (fun q => hbr q.symm), a6, up_o (fun q => hbr q.symm)]
      exact hhr
    · rw [hprr]
      exact (a8.lev (fun v hv => hl2 v (fun q => hbp1 (q ▸ hv)))).up (by omega) (by omega)
    · have hc2 := (hm c).mp hc
      show up s1 (5 + 4 * b) (-1) (5 + (4 * c + t)) = tCor T1 (4 * c + t)
      rw [up_o (by omega), a7 c t ht (Or.inl hc24), a9 _ (by omega) (by omega)]
      exact J.2.2.2.2.1 c hc2.1 hc24 t ht
    · have hv2 := (hm v).mp hv
      by_cases hvx : v = x
      · exact Or.inl hvx
      · rw [hkl1o v hvx] at hve
        have := J.2.2.2.2.2 v hv2.1 hv24 hve
        exact Or.inr ⟨this.1, by rw [hlr2]; omega⟩
    · by_cases hvx : v = x
      · subst hvx
        have := O.1.2.1 v q1
        rw [hkl1x, List.length_append]
        omega
      · rw [hkl1o v hvx]
        exact O.1.2.1 v ((hm v).mp hv).1
    · show tR T1 = 157
      rw [a5.2.1]
      exact O.1.1.2.1
    · rw [hlr2]
      exact hB.sub (h.2.1.erase b) (fun v hv => ((hm v).mp hv).1) (fun v hv => hl2 v ((hm v).mp hv).2)
    · show 3 ≤ tCap T1 ∧ tCap T1 ≤ 5
      rw [a5.2.2.2.1]
      exact O.1.1.2.2.2.1
    · show _ = tCap T1
      rw [up_o (by omega), a9 0 (by omega) (by omega), a5.2.2.2.1]
      exact O.1.1.2.2.2.2.1
    · show _ = tRei T1
      rw [up_o (by omega), a9 1 (by omega) (by omega), a5.2.2.2.2.1]
      exact O.1.1.2.2.2.2.2.1
    · show tRei T1 = 0 ∨ tRei T1 = 1
      rw [a5.2.2.2.2.1]
      exact O.1.1.2.2.2.2.2.2
    · by_cases hcb : c = b
      · subst hcb
        have := O.1.2.2 c hc
        refine ⟨⟨fun t ht => ?_, fun q => absurd q (by rw [up_s]; omega)⟩, ?_⟩
        · by_cases ht0 : t = 0
          · subst ht0
            show ck (up s1 (5 + 4 * c) (-1) (5 + 4 * c))
            rw [up_s]
            exact ⟨by omega, by omega⟩
          · rw [up_o (by omega), a9 _ (by omega) (by omega)]
            exact this.1.1 t ht
        · rw [up_s]
          exact ⟨fun q => absurd q (by omega), fun q => absurd rfl ((hm c).mp q).2⟩
      · have := O.1.2.2 c hc
        refine ⟨this.1.same (fun t ht => by rw [up_o (by omega), a9 _ (by omega) (by omega)]), ?_⟩
        rw [up_o (by omega), a9 _ (by omega) (by omega)]
        exact ⟨fun q => (hm c).mpr ⟨this.2.mp q, hcb⟩, fun q => this.2.mpr ((hm c).mp q).1⟩
    · rw [hlr2]
      rcases O.2.2.1 with q | q
      · exact Or.inl q
      · by_cases hxr : x = r
        · exact Or.inl (by rw [← hxr]; omega)
        · rw [hkl1o r (fun e => hxr e.symm)]
          exact Or.inr ⟨by omega, fun _ => q⟩
    · have hv2 := (hm v).mp hv
      rw [hprr]
      rcases (a10 v).mp (O.2.1 v hv2.1) with q | q
      · exact Or.inl q
      · exact absurd (List.mem_singleton.mp q) hv2.2
    · show tSpl T1 = _
      rw [up_o (by omega), a9 2 (by omega) (by omega), a5.2.2.2.2.2.1]
      exact O.2.2.2.1
    · show tRec T1 = _
      rw [up_o (by omega), a9 3 (by omega) (by omega), a5.2.2.2.2.2.2]
      exact O.2.2.2.2
  have hat2 : At (tk T1 b (-2)) kl1 r x p' := by
    obtain ⟨B', e1, e2⟩ := hat1
    rw [hL1] at e1 e2
    have hbx1 : b ∉ pr (tLev T) kl1 x := fun q => hbp1 (by
      have : b ∈ (pr (tLev T) kl1 r).drop p' := by rw [e1]; simp [q]
      exact List.mem_of_mem_drop this)
    refine ⟨B', by rw [hprr, hpr2 x q1 hbx1]; exact e1, fun y t hyt => ?_⟩
    have hyB : y ∈ (pr (tLev T) kl1 r).drop p' := by rw [e1, hyt]; simp
    rw [hl2 x hxb, hl2 y (fun q => hbp1 (q ▸ List.mem_of_mem_drop hyB))]
    exact e2 y t hyt
  have hlx2 : tLev (tk T1 b (-2)) x = 0 := by rw [hl2 x hxb]; exact hlx
  obtain ⟨T3, kl3, Q3, s3, M3, st3, kept3, aside3, begin3, level3, b1, b2, b3, b4, b5, b6⟩ := up_go (fun x2_37 x3_38 c_kept_39 c_keptCount_40 T_41 => bd1 (f_Tr_lowerRoot T_41) <| fun T_42 => some (c_kept_39, c_keptCount_40, T_42)) (fun x3_39 c_s_40 c_aside_41 c_begin_42 c_level_43 c_asides_44 => bd1 (f_Mo_shrinks c_s_40) <| fun c_s_45 => f_Mo_remove_L102 (c_aside_41) (c_begin_42) (c_level_43) (c_asides_44) (fun x4_64 c_s_65 c_rect_66 c_item_67 c_items_68 c_itemLevel_69 c_treated_70 c_from_71 c_group_72 c_turn_73 c_size_74 c_old_75 => bd1 (f_Mo_boxCount c_s_65) <| fun r_76 => some (r_76, c_s_65, past', pasts', c_rect_66, c_item_67, c_items_68, c_itemLevel_69, c_treated_70, c_from_71, c_group_72, c_turn_73, c_size_74, c_old_75, c_aside_41, c_begin_42, c_level_43, c_asides_44)) FU (0) (c_s_45) w it items il tr fr gr tu si old) (tLev T r).toNat (tk T1 b (-2)) kl1 (Q.erase b) r x p' (up s1 (5 + 4 * b) (-1)) [] FU FU 0 kept aside (up begin 0 0) level W hat2 (Kp.nil up_s) (by rw [hlx2]; simp) (by rw [hlx2, hlr2]; omega) (by unfold FU; omega) (by unfold FU; omega) (by omega)
  obtain ⟨LW3, hroot3⟩ := b3.lw
  obtain ⟨T4, Q4, r4, s4, d1, d2, d3, d4, d5, d6⟩ := low_sp LW3 hroot3
  have h3 := b3.1.1
  have hr3 := b3.1.2.1.1
  have hL3 := LW3.2.1
  have hlen3 := hL3.len h3 hr3 b3.1.2.1.2.2.2
  have hQ3 := LW3.1.1.2.2.1.len h3
  have hlr3 := LW3.1.1.2.2.1.rl
  obtain ⟨T5, kl5, Q5, r5, left5, items5, il5, cc5, LB5, LN5, s5, pool5, w5, it5, tr5, fr5, gr5, tu5, si5, old5, e1, e2, e3, e4, e5, e6, e7, e8⟩ := pb_go2 b4 (by omega) (by omega) (fun x1_51 c_pool_52 c_left_53 c_treated_54 T_55 LB_56 LN_57 => some (c_pool_52, c_left_53, c_treated_54, T_55, LB_56, LN_57)) (fun x4_64 c_s_65 c_rect_66 c_item_67 c_items_68 c_itemLevel_69 c_treated_70 c_from_71 c_group_72 c_turn_73 c_size_74 c_old_75 => bd1 (f_Mo_boxCount c_s_65) <| fun r_76 => some (r_76, c_s_65, past', pasts', c_rect_66, c_item_67, c_items_68, c_itemLevel_69, c_treated_70, c_from_71, c_group_72, c_turn_73, c_size_74, c_old_75, aside3, begin3, level3, (M3.length : Int))) M3 [] T4 kl3 Q4 r4 FU FU cc LB LN s4 pool w it tr fr gr tu si old left items il rfl d3 d5 hLB hLN (by unfold FU; omega) (by unfold FU; omega)
  refine ⟨T4, T5, kl5, Q5, r5, (M3.length : Int), left5, items5, il5, (M3.length : Int), cc5, LB5, LN5, s5, kept3, pool5, w5, it5, tr5, fr5, gr5, tu5, si5, old5, aside3, begin3, level3, ?_, ?_, ?_, ⟨e3.1, fun v hv => (e3.2.1.2.2 v hv).elim id (fun ⟨y, hy, _⟩ => by cases hy), e4 d4, e3.2.2⟩, e6, e7, fun c hc => ((e5 c hc).trans ((d6 c hc).trans (b6 c hc))).trans (hm c), e8.le (by omega)⟩
  · have hho : f_Tr_holderOf T (b : Int) = some (x : Int) := by rw [t_hol hle (h.lt hb), hxk.2.1]
    unfold f_Ch_takeOutBox
    rw [bd1_p hho, bd1_p a1, bd1_p hfree.1]
    refine Eq.trans b1 ?_
    rw [bd1_p d1]
  · unfold f_Ch_putBackKept
    exact e1
  · have hcut : f_Mo_cuts s (A.length : Int) ((A.length : Int) + 1) = some s1 := a2
    unfold f_Mo_remove
    rw [bd1_p (isb_sp O.1.2.2 hb24), if_pos hb, gd_p ⟨by omega, by omega⟩, if_neg (by omega), bd2_p hrec, bd1_p hplc, bd1_p q4, bd1_p hcut, gd_p ⟨by omega, by omega⟩, show ((5 : Int) + 4 * (b : Int)).toNat = 5 + 4 * b by omega]
    refine Eq.trans b2 ?_
    rw [bd1_p d2]
    refine Eq.trans e2 ?_
    rw [bd1_p (bxc_sp e3.1.2.2)]
theorem pk_all2 {T : TV} {kl : Nat → List Nat} {Q : List Nat} {r : Nat} {s row0 sr0 past pasts' : Nat → Int} {pasts pastc : Int} (O : St T kl Q r s) (hrec : f_Mo_records s past pasts = some (pasts', pastc)) : ∃ (T' : TV) (kl' : Nat → List Nat) (Q' : List Nat) (r' : Nat) (row' s' sr' : Nat → Int) (c : Int), f_Pk_rebuild row0 T = some (row', T') ∧ f_Mo_pack s past pasts sr0 = some (c, s', pasts', pastc, sr') ∧ f_Mo_nodes s' = some c ∧ St T' kl' Q' r' s' ∧ ∀ b, b < 24 → (b ∈ Q' ↔ b ∈ Q) := by
  have hA := O.1.1.1.1
  have hR := hA.1
  have hcapT := O.1.1.2.2.2.1
  obtain ⟨cap, hcap⟩ : ∃ cap : Nat, tCap T = (cap : Int) := ⟨(tCap T).toNat, by omega⟩
  have hc35 : 3 ≤ cap ∧ cap ≤ 5 := by omega
  have hs0 : s 0 = (cap : Int) := O.1.1.2.2.2.2.1.trans hcap
  obtain ⟨l, h, z, f1, f2, f3⟩ := rz_go (R := tR T) O.1.1.2.1 (fun x1_10 T_11 => some (T_11)) (tR T - 24) 24 FU T rfl (by omega) (by unfold FU; omega)
  have hrel : f_Tr_releaseNodes T = some (sSiz (sHol (sLev T l) h) z) := f1
  obtain ⟨row1, g1, g2⟩ := lb_go hA (fun x1_11 x2_12 c_row_13 => some (x1_11, c_row_13)) 24 0 FU row0 rfl (by unfold FU; omega) Hs.nil
  have hlist : f_Pk_listBoxes row0 T = some (((bl Q 24).length : Int), row1) := g1
  obtain ⟨sr1, m1, m2⟩ := lm_go O.1.2.2 (fun x1_13 x2_14 c_sorted_15 => gd (ck x1_13) <| if x1_13 = 0 then (some (1, (up (up s (4) 1) (101) (-1)), pasts', pastc, c_sorted_15)) else (bd2 (f_Mo_packsLeaves s c_sorted_15 x1_13) <| fun c_s_18 c_sorted_19 => bd1 (f_Mo_nodes c_s_18) <| fun r_22 => f_Mo_pack_L71 (fun x2_31 x3_32 c_s_33 => bd1 (f_Mo_nodes c_s_33) <| fun r_34 => some (r_34, c_s_33, pasts', pastc, c_sorted_19)) FU (r_22) (0) (c_s_18))) 24 0 FU sr0 rfl (by unfold FU; omega) Hs.nil
  have hMP := Eq.trans (show f_Mo_pack s past pasts sr0 = f_Mo_pack_L8 s (fun x1_13 x2_14 c_sorted_15 => gd (ck x1_13) <| if x1_13 = 0 then (some (1, (up (up s (4) 1) (101) (-1)), pasts', pastc, c_sorted_15)) else (bd2 (f_Mo_packsLeaves s c_sorted_15 x1_13) <| fun c_s_18 c_sorted_19 => bd1 (f_Mo_nodes c_s_18) <| fun r_22 => f_Mo_pack_L71 (fun x2_31 x3_32 c_s_33 => bd1 (f_Mo_nodes c_s_33) <| fun r_34 => some (r_34, c_s_33, pasts', pastc, c_sorted_19)) FU (r_22) (0) (c_s_18))) FU ((bl Q 0).length : Int) ((0 : Nat) : Int) sr0 from by
    unfold f_Mo_pack
    rw [bd2_p hrec]
    rfl) m1
  have hbl := bl_len (Q := Q) (i := 24)
  have hbn : (bl Q 24).Nodup := List.nodup_range.filter _
  by_cases hm0 : (bl Q 24).length = 0
  · have hb0 : bl Q 24 = [] := List.length_eq_zero_iff.mp hm0
    obtain ⟨x, T', e1, e2, e3⟩ := em_st O f2 f3 hb0
    refine ⟨sRoot T' (x : Int), _, _, x, row1, up (up s 4 1) 101 (-1), sr1, 1, ?_, ?_, e3, e2, fun b hb9 => ⟨fun q => absurd (List.mem_singleton.mp q) (by have := e2.1.1.1.2.1.2.1; omega), fun q => by have h9 := bl_mem.mpr ⟨hb9, q⟩; rw [hb0] at h9; cases h9⟩⟩
    · unfold f_Pk_rebuild
      rw [bd2_p hlist, bd1_p hrel, gd_p ⟨by omega, by omega⟩, if_pos (by omega), bd2_p e1]
    · rw [hMP, gd_p ⟨by omega, by omega⟩, if_pos (by omega)]
  · have hdv : ((((bl Q 24).length : Int) + (cap : Int)) - 1) / (cap : Int) = ((((bl Q 24).length + cap - 1) / cap : Nat) : Int) ∧ 1 ≤ ((bl Q 24).length + cap - 1) / cap ∧ ((bl Q 24).length + cap - 1) / cap ≤ 8 := by
      rcases (show cap = 3 ∨ cap = 4 ∨ cap = 5 by omega) with q | q | q <;> subst q <;> omega
    obtain ⟨d1, d2, d3⟩ := hdv
    obtain ⟨rt, hrt, r1, r2⟩ := lr_sp (v := ((((bl Q 24).length + cap - 1) / cap : Nat) : Int)) ⟨by omega, by omega⟩ (fun x3_5 => some ((x3_5 * (s 0))))
    have hw15 : 0 < rt * cap ∧ rt * cap ≤ 15 := by
      rcases (show cap = 3 ∨ cap = 4 ∨ cap = 5 by omega) with q | q | q <;> subst q <;> omega
    have hwc : (rt : Int) * (cap : Int) = ((rt * cap : Nat) : Int) := (Int.natCast_mul rt cap).symm
    have hsl : f_Mo_slice s ((bl Q 24).length : Int) = some ((rt * cap : Nat) : Int) := by
      unfold f_Mo_slice
      rw [hs0, gd_p ⟨⟨by omega, by omega⟩, by omega, by omega⟩, d1]
      rw [hs0] at r2
      rw [r2, hwc]
    have hR5 : tR (sSiz (sHol (sLev T l) h) z) ≤ 8192 := by show tR T ≤ 8192; omega
    have hR24 : 24 ≤ tR (sSiz (sHol (sLev T l) h) z) := by show 24 ≤ tR T; omega
    have hrg : ∀ v, v < 24 → rg (tCor (sSiz (sHol (sLev T l) h) z)) v := fun v hv => hA.2.2.2.1 v (by omega)
    have hk0 := key_sp (ax := 0) O (by omega)
    have hk1 := key_sp (ax := 1) O (by omega)
    have hB2 : [] ++ (bl Q 24 ++ []) = bl Q 24 := by simp
    obtain ⟨S, row2, a1, a2, a3⟩ := si_sp (T := sSiz (sHol (sLev T l) h) z) (ax := 0) (A := []) (M := bl Q 24) (B := []) (row := row1) hR5 hR24 (by omega) hrg (by rw [List.length_nil]; omega) (fun v hv => (bl_mem.mp hv).1) hbn (by rw [hB2]; exact g2)
    obtain ⟨S', sr2, b1, b2, b3⟩ := ex_sp hk0 (A := []) (M := bl Q 24) (B := []) (row := sr1) (by rw [List.length_nil]; omega) (fun v hv => hv) hbn (by rw [hB2]; exact m2)
    have hSS : S = S' := a2.uniq b2
    subst hSS
    have hS2 : [] ++ (S ++ []) = [] ++ S := by simp
    rw [hS2] at a3 b3
    rw [List.length_nil, Nat.zero_add] at a1 b1
    have hSl := a2.1.length_eq
    have hSn : S.Nodup := a2.1.nodup_iff.mp hbn
    have hSm : ∀ v ∈ S, v ∈ bl Q 24 := fun v hv => a2.1.mem_iff.mpr hv
    obtain ⟨L, y1, y2, row3, sr3, c1, c2, c3, c4, c5⟩ := sl_go (T := sSiz (sHol (sLev T l) h) z) (s := s) (P := fun v => v ∈ bl Q 24) (w := rt * cap) (m := (bl Q 24).length) hR5 hR24 hrg hk1 ⟨by omega, by omega⟩ hbl (fun x3_30 c_row_31 => f_Pk_rebuild_L107 (fun x1_49 x3_50 c_row_51 T_52 => bd1 (f_Rt_at 24 c_row_51 0) <| fun r_54 => some (c_row_51, (sRoot T_52 r_54))) FU ((bl Q 24).length : Int) (0) (c_row_31) (sSiz (sHol (sLev T l) h) z)) (fun x3_16 c_sorted_17 => f_Mo_packsLeaves_L49 (c_sorted_17) ((bl Q 24).length : Int) ((rt * cap : Nat) : Int) (fun x3_36 c_s_37 => some (c_s_37, c_sorted_17)) FU (0) ((up s (4) 0))) 24 S [] 0 FU FU row2 sr2 (by omega) (by unfold FU; omega) (by unfold FU; omega) (by rw [List.length_nil]; omega) (fun _ => rfl) (fun q => by rw [q, List.length_nil] at hSl; omega) (by omega) hSm hSn a3 b3
    have hperm : (bl Q 24).Perm L := a2.1.trans c3
    have hLl := hperm.length_eq
    obtain ⟨T1, kl1, Q1, G1, row4, p1, p2, p3, p4, p5, p6⟩ := lf_pk (row := row3) O f2 f3 hcap hperm (by omega) c4
    obtain ⟨s2, q1, q2, q3⟩ := lf_go (sr := sr3) (L := L) (cap := cap) (r := rt) hc35 hrt c5 (by omega) (fun x3_36 c_s_37 => some (c_s_37, sr3)) L.length 0 FU (up s 4 0) (Nat.zero_add _) (by unfold FU; omega) (by rw [up_o (by omega)]; exact hs0) ⟨up_s, by show (0 : Nat) ≤ 360; omega, fun j v hj => by cases hj⟩
    have hs20 : s2 0 = (cap : Int) := (q3 0 (by omega) (by omega)).trans (by rw [up_o (by omega)]; exact hs0)
    have K := p6 s2 q2 hs20
    have hleaves : f_Mo_packsLeaves s sr1 ((bl Q 24).length : Int) = some (s2, sr3) := by
      unfold f_Mo_packsLeaves
      have b1 : f_Mo_sorts s sr1 0 ((bl Q 24).length : Int) 0 = some sr2 := b1
      rw [bd1_p hsl, bd1_p b1]
      refine Eq.trans c2 ?_
      rw [hLl]
      exact q1
    have hrw2 := K.2.2.2.2.2.2.2.1.2.1
    have hpin : ∀ v ∈ prs (tLev T1) kl1 G1, v ∈ Q1 := fun v hv => by
      obtain ⟨g, hg, hvg⟩ := mem_prs.mp hv
      exact (pr_in K.1.1.lk g (K.2.2.1 g hg).1 v hvg).1
    have hnd2 : f_Mo_nodes s2 = some (G1.length : Int) := by
      rw [nodes_row (rw_row hrw2 (fun v hv => K.1.1.oki (hpin v hv))), p5]
    obtain ⟨lx', T', kl', Q', N', x, row', s', t1, t2, t3, t4, t5, t6, t7, t8, t9⟩ := lvl_go (fun x1_49 x3_50 c_row_51 T_52 => bd1 (f_Rt_at 24 c_row_51 0) <| fun r_54 => some (c_row_51, (sRoot T_52 r_54))) (fun x2_31 x3_32 c_s_33 => bd1 (f_Mo_nodes c_s_33) <| fun r_34 => some (r_34, c_s_33, pasts', pastc, sr3)) G1.length 0 T1 kl1 Q1 G1 G1 row4 s2 4095 FU (Nat.le_refl _) (by omega) (by unfold FU; omega) K (Or.inl ⟨p2, p2⟩)
    have hFr : Fr s s' := fun j j1 j2 => ((t5 j j1 j2).trans (q3 j j1 j2)).trans (up_o j2)
    have hKp : Kp2 T T' := ⟨fun v t hv ht => (t8.1 v t hv ht).trans (p4.1 v t hv ht), t8.2.1.trans p4.2.1, t8.2.2.1.trans p4.2.2.1, t8.2.2.2.1.trans p4.2.2.2.1, t8.2.2.2.2.1.trans p4.2.2.2.2.1, t8.2.2.2.2.2.trans p4.2.2.2.2.2⟩
    have hBm : ∀ b, b < 24 → (b ∈ Q' ↔ b ∈ Q) := fun b hb => ⟨fun q => (p3 b hb).mp (t7 b q hb), fun q => (t6 b ((p3 b hb).mpr q)).1⟩
    have hSt := pk_fin O t3 t4 hFr hBm hKp (by have := t9.2.2.2; omega)
    have hrowx : row' 0 = (x : Int) := by
      have := t3.2.2.2.2.2.2.2.1.1 0 x rfl
      exact this
    have hat0 : f_Rt_at 24 row' 0 = some (x : Int) := by
      rw [← hrowx]
      exact at_sp (x := 0) (by omega) (by omega)
    refine ⟨sRoot T' (x : Int), kl', Q', x, row', s', sr3, _, ?_, ?_, nodes_row hSt.1.1.1.2.2.1, hSt, hBm⟩
    · unfold f_Pk_rebuild
      have hcp5 : tCap (sSiz (sHol (sLev T l) h) z) = (cap : Int) := hcap
      have a1 : f_Pk_sortPart row1 (sSiz (sHol (sLev T l) h) z) 0 ((bl Q 24).length : Int) 0 = some row2 := a1
      have hmax : max (cap : Int) 1 = (cap : Int) := by omega
      rw [bd2_p hlist, bd1_p hrel, gd_p ⟨by omega, by omega⟩, if_neg (by omega), hcp5, hmax, gd_p ⟨by omega, by omega⟩, gd_p ⟨⟨by omega, by omega⟩, by omega, by omega⟩, d1, bd1_p r1, bd1_p a1, hwc]
      refine Eq.trans c1 ?_
      rw [show FU = 4095 + 1 from rfl, f_Pk_rebuild_L107, gd_p ck_0, if_pos (by omega), if_pos rfl, hLl, bd3_p p1]
      refine Eq.trans t1 ?_
      rw [bd1_p hat0]
    · rw [hMP, gd_p ⟨by omega, by omega⟩, if_neg (by omega), bd2_p hleaves, bd1_p hnd2]
      refine Eq.trans t2 ?_
      rw [bd1_p (nodes_row hSt.1.1.1.2.2.1)]
