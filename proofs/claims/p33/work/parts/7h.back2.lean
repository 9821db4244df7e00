theorem own_lo {T : TV} {kl : Nat → List Nat} {Q M : List Nat} {r y : Nat} {s pool w it tr fr gr tu si old : Nat → Int} {left : Int} (W : LW T kl Q r s (y :: M)) (hl : tLev T y + 1 ≤ tLev T r) (hit : ∀ (j z : Nat), (pr (tLev T) kl y)[j]? = some z → it j = sg (tLev T) z) : ∃ (T' : TV) (kl' : Nat → List Nat) (Q' : List Nat) (r' : Nat) (left' items' il' : Int) (cc' : Int64) (s' pool' w' it' tr' fr' gr' tu' si' old' : Nat → Int), f_Ch_insertOwn pool left T (y : Int) = some (pool', left', cc', T') ∧ f_Mo_inserts s w it ((pr (tLev T) kl y).length : Int) (tLev T y + 1) tr fr gr tu si old = some (s', w', it', items', il', tr', fr', gr', tu', si', old') ∧ LW T' kl' Q' r' s' M ∧ (Rt2 (tLev T) kl r → Rt2 (tLev T') kl' r') ∧ (∀ y2 ∈ M, pr (tLev T') kl' y2 = pr (tLev T) kl y2 ∧ ∀ v ∈ pr (tLev T) kl y2, tLev T' v = tLev T v) ∧ (∀ b, b < 24 → (b ∈ Q' ↔ b ∈ Q)) := by
  have J := W.1.1.1
  have h := J.1
  have hr := J.2.1.1
  have hyM := W.2.1.2.1 y List.mem_cons_self
  obtain ⟨T', kl', Q', r', left', items', il', cc', s', pool', w', it', tr', fr', gr', tu', si', old', f1, f2, f3, f4, f5⟩ := own_sp (pool := pool) (w := w) (it := it) (tr := tr) (fr := fr) (gr := gr) (tu := tu) (si := si) (old := old) (left := left) W.1.1 W.1.2.1 hyM.1 hyM.2.1 hyM.2.2 hl hit
  have hst := W.2.1.step h hr J.2.1.2.2.2 f3.1.1 f3.1.2.1.1 f5
  refine ⟨T', kl', Q', r', left', items', il', cc', s', pool', w', it', tr', fr', gr', tu', si', old', f1, f2, ⟨⟨f3, f4, W.1.2.2.mw f5⟩, hst.1, ?_, ?_⟩, f5.2.2.2.2.2.2.2.2, hst.2, fun b hb => ⟨fun q => ?_, fun q => (f5.1 b q).1⟩⟩
  · have := f5.2.2.2.2.2.2.1.1
    have := W.2.2.1
    omega
  · have := f5.2.2.2.2.2.2.1.2
    have := W.2.2.2
    omega
  · rcases f5.2.2.2.1 b q with q | q
    · exact q
    · omega
/-- the boxes of a dissolved tree, one after the other -/
theorem bx_go {S : List Nat} {LB : KV} {aside begin : Nat → Int} {i o : Nat} (hI : Itm LB (bxs S)) (hlen : (bxs S).length ≤ kLen LB) (hK : kLen LB ≤ 8192) (hA : ∀ (j z : Nat), S[j]? = some z → ck (aside (o + j)) ∧ (z < 24 → aside (o + j) = (z : Int)) ∧ (24 ≤ z → aside (o + j) < 0)) (hbe : begin (i + 1) = ((o + S.length : Nat) : Int)) (ho : o + S.length ≤ 360) (hi : i < 60) (kC : Int → (Nat → Int) → Int → Int64 → TV → Option ((Nat → Int) × Int × Int64 × TV × KV × KV)) (kR : Int → (Nat → Int) → (Nat → Int) → (Nat → Int) → Int → Int → (Nat → Int) → (Nat → Int) → (Nat → Int) → (Nat → Int) → (Nat → Int) → (Nat → Int) → Option RI) : ∀ (S2 S1 : List Nat) (T : TV) (kl : Nat → List Nat) (Q M : List Nat) (r n m : Nat) (cc : Int64) (s pool w it tr fr gr tu si old : Nat → Int) (left items il : Int), S = S1 ++ S2 → LW T kl Q r s (bxs S2 ++ M) → (∀ b ∈ bxs S2, pr (tLev T) kl b = [b]) → S2.length < n → S2.length < m → ∃ (T' : TV) (kl' : Nat → List Nat) (Q' : List Nat) (r' : Nat) (left' items' il' : Int) (cc' : Int64) (s' pool' w' it' tr' fr' gr' tu' si' old' : Nat → Int), f_Ch_putBackKept_L61 LB kC n ((bxs S1).length : Int) pool left cc T = kC ((bxs S).length : Int) pool' left' cc' T' ∧ f_Mo_insertsAside_L58 aside begin (i : Int) kR m ((o + S1.length : Nat) : Int) s w it items il tr fr gr tu si old = kR ((o + S.length : Nat) : Int) s' w' it' items' il' tr' fr' gr' tu' si' old' ∧ LW T' kl' Q' r' s' M ∧ (Rt2 (tLev T) kl r → Rt2 (tLev T') kl' r') ∧ (∀ y2 ∈ M, pr (tLev T') kl' y2 = pr (tLev T) kl y2 ∧ ∀ v ∈ pr (tLev T) kl y2, tLev T' v = tLev T v) ∧ (∀ b, b < 24 → (b ∈ Q' ↔ b ∈ Q)) := by
  intro S2
  induction S2 with
  | nil =>
    intro S1 T kl Q M r n m cc s pool w it tr fr gr tu si old left items il hS W hp hn hm
    obtain ⟨n, rfl⟩ : ∃ q, n = q + 1 := ⟨n - 1, by simp at hn; omega⟩
    obtain ⟨m, rfl⟩ : ∃ q, m = q + 1 := ⟨m - 1, by simp at hm; omega⟩
    rw [List.append_nil] at hS
    subst hS
    refine ⟨T, kl, Q, r, left, items, il, cc, s, pool, w, it, tr, fr, gr, tu, si, old, ?_, ?_, W, fun q => q, fun y2 _ => ⟨rfl, fun _ _ => rfl⟩, fun _ _ => Iff.rfl⟩
    · rw [f_Ch_putBackKept_L61, gd_p ⟨by omega, by omega⟩, hI.1, gd_p ⟨by omega, by omega⟩, if_neg (by omega)]
    · rw [f_Mo_insertsAside_L58, gd_p ⟨by omega, by omega⟩, gd_p ⟨by omega, by omega⟩, show ((i : Int) + 1).toNat = i + 1 by omega, hbe, gd_p ⟨by omega, by omega⟩, if_neg (by omega)]
  | cons z S2 ih =>
    intro S1 T kl Q M r n m cc s pool w it tr fr gr tu si old left items il hS W hp hn hm
    obtain ⟨n, rfl⟩ : ∃ q, n = q + 1 := ⟨n - 1, by simp at hn; omega⟩
    obtain ⟨m, rfl⟩ : ∃ q, m = q + 1 := ⟨m - 1, by simp at hm; omega⟩
    have hlS := congrArg List.length hS
    rw [List.length_append, List.length_cons] at hlS
    have hz := hA S1.length z (by rw [hS]; exact mid_get)
    simp only [List.length_cons] at hn hm
    have hS' : S = (S1 ++ [z]) ++ S2 := by rw [hS]; simp
    have hl1 : ((o + (S1 ++ [z]).length : Nat) : Int) = ((o + S1.length : Nat) : Int) + 1 := by rw [List.length_append]; simp; omega
    by_cases hz24 : z < 24
    · have hb : bxs (z :: S2) = z :: bxs S2 := by simp [bxs, hz24]
      have hb1 : bxs (S1 ++ [z]) = bxs S1 ++ [z] := by rw [bxs_app]; simp [bxs, hz24]
      have hbl : bxs S = bxs S1 ++ z :: bxs S2 := by rw [hS, bxs_app, hb]
      rw [hb] at W hp
      have hW : LW T kl Q r s (z :: (bxs S2 ++ M)) := W
      have hpz := hp z List.mem_cons_self
      have h := W.1.1.1.1
      have hzM := hW.2.1.2.1 z List.mem_cons_self
      have hlz := (h.lev24 hzM.1).mp hz24
      have hrl := W.1.1.2.2.1.rl
      obtain ⟨T1, kl1, Q1, r1, left1, items1, il1, cc1, s1, pool1, w1, it1, tr1, fr1, gr1, tu1, si1, old1, a1, a2, a3, a4, a5, a6⟩ := own_lo (pool := pool) (w := w) (it := up it 0 (z : Int)) (tr := tr) (fr := fr) (gr := gr) (tu := tu) (si := si) (old := old) (left := left) hW (by rw [hlz]; omega) (fun j z2 hz2 => by
        rw [hpz] at hz2
        have := (List.getElem?_eq_some_iff.mp hz2).1
        simp at this
        subst this
        simp at hz2
        subst hz2
        rw [up_s]
        unfold sg
        rw [if_pos hz24])
      rw [hpz, hlz] at a2
      obtain ⟨T2, kl2, Q2, r2, left2, items2, il2, cc2, s2, pool2, w2, it2, tr2, fr2, gr2, tu2, si2, old2, b1, b2, b3, b4, b5, b6⟩ := ih (S1 ++ [z]) T1 kl1 Q1 M r1 n m cc1 s1 pool1 w1 it1 tr1 fr1 gr1 tu1 si1 old1 left1 items1 il1 hS' a3 (fun b hb2 => by
        rw [(a5 b (List.mem_append_left _ hb2)).1]
        exact hp b (List.mem_cons_of_mem _ hb2)) (by omega) (by omega)
      refine ⟨T2, kl2, Q2, r2, left2, items2, il2, cc2, s2, pool2, w2, it2, tr2, fr2, gr2, tu2, si2, old2, ?_, ?_, b3, fun q => b4 (a4 q), fun y2 hy2 => ?_, fun b hb2 => (b6 b hb2).trans (a6 b hb2)⟩
      · have hg : (bxs S)[(bxs S1).length]? = some z := by rw [hbl]; exact mid_get
        have hll := congrArg List.length hbl
        rw [List.length_append, List.length_cons] at hll
        rw [hb1, List.length_append, show (((bxs S1).length + [z].length : Nat) : Int) = ((bxs S1).length : Int) + 1 by simp] at b1
        rw [f_Ch_putBackKept_L61, gd_p ⟨by omega, by omega⟩, hI.1, gd_p ⟨by omega, by omega⟩, if_pos (by omega), bd1_p (at_itm hI hlen hK hg), bd4_p a1]
        exact b1
      · have a2 : f_Mo_inserts s w (up it 0 (z : Int)) 1 0 tr fr gr tu si old = _ := a2
        rw [hl1] at b2
        rw [f_Mo_insertsAside_L58, gd_p ⟨by omega, by omega⟩, gd_p ⟨by omega, by omega⟩, show ((i : Int) + 1).toNat = i + 1 by omega, hbe, gd_p ⟨by omega, by omega⟩, if_pos (by omega), gd_p ⟨by omega, by omega⟩, show (((o + S1.length : Nat) : Int)).toNat = o + S1.length by omega, gd_p hz.1, hz.2.1 hz24, if_neg (by omega), bd11_p a2]
        exact b2
      · have c1 := a5 y2 (List.mem_append_right _ hy2)
        have c2 := b5 y2 hy2
        rw [c1.1] at c2
        exact ⟨c2.1, fun v hv => (c2.2 v hv).trans (c1.2 v hv)⟩
    · have hb : bxs (z :: S2) = bxs S2 := by simp [bxs, hz24]
      have hb1 : bxs (S1 ++ [z]) = bxs S1 := by rw [bxs_app]; simp [bxs, hz24]
      rw [hb] at W hp
      have hneg := hz.2.2 (by omega)
      obtain ⟨T2, kl2, Q2, r2, left2, items2, il2, cc2, s2, pool2, w2, it2, tr2, fr2, gr2, tu2, si2, old2, b1, b2, b3⟩ := ih (S1 ++ [z]) T kl Q M r (n + 1) m cc s pool w it tr fr gr tu si old left items il hS' W hp (by omega) (by omega)
      refine ⟨T2, kl2, Q2, r2, left2, items2, il2, cc2, s2, pool2, w2, it2, tr2, fr2, gr2, tu2, si2, old2, ?_, ?_, b3⟩
      · rw [hb1] at b1
        exact b1
      · rw [hl1] at b2
        rw [f_Mo_insertsAside_L58, gd_p ⟨by omega, by omega⟩, gd_p ⟨by omega, by omega⟩, show ((i : Int) + 1).toNat = i + 1 by omega, hbe, gd_p ⟨by omega, by omega⟩, if_pos (by omega), gd_p ⟨by omega, by omega⟩, show (((o + S1.length : Nat) : Int)).toNat = o + S1.length by omega, gd_p hz.1, if_pos hneg]
        exact b2
theorem tka_go {aside : Nat → Int} {o len : Nat} (ho : o + len ≤ 360) (k : Int → (Nat → Int) → Option ((Nat → Int) × Int)) : ∀ (d i n : Nat) (it : Nat → Int), i + d = len → d < n → (∀ j, j < i → it j = aside (o + j)) → ∃ it', f_Mo_takes_aside_L10 (len : Int) aside (o : Int) k n (i : Int) it = k (len : Int) it' ∧ ∀ j, j < len → it' j = aside (o + j)
  | 0, i, n + 1, it, hi, hn, h => by
    refine ⟨it, ?_, fun j hj => h j (by omega)⟩
    rw [f_Mo_takes_aside_L10, gd_p ⟨by omega, by omega⟩, gd_p ⟨by omega, by omega⟩, if_neg (by omega), show (i : Int) = (len : Int) by omega]
  | d + 1, i, n + 1, it, hi, hn, h => by
    obtain ⟨it', e1, e2⟩ := tka_go ho k d (i + 1) n (up it i (aside (o + i))) (by omega) (by omega) (fun j hj => by
      by_cases hji : j = i
      · rw [hji]; exact up_s
      · rw [up_o hji]; exact h j (by omega))
    refine ⟨it', ?_, e2⟩
    rw [f_Mo_takes_aside_L10, gd_p ⟨by omega, by omega⟩, gd_p ⟨by omega, by omega⟩, if_pos (by omega), gd_p ⟨by omega, by omega⟩, gd_p ⟨by omega, by omega⟩, show ((o : Int) + (i : Int)).toNat = o + i by omega, show ((i : Int)).toNat = i by omega, show (i : Int) + 1 = ((i + 1 : Nat) : Int) by omega]
    exact e1
abbrev RM : Type := Int × (Nat → Int) × (Nat → Int) × Int × (Nat → Int) × (Nat → Int) × Int × Int × (Nat → Int) × (Nat → Int) × (Nat → Int) × (Nat → Int) × (Nat → Int) × (Nat → Int) × (Nat → Int) × (Nat → Int) × (Nat → Int) × Int
theorem pb_go {lv0 : Nat → Int} {kl0 : Nat → List Nat} {MM : List Nat} {kept aside begin level : Nat → Int} (K : Kp lv0 kl0 MM kept aside begin level) (hM20 : MM.length ≤ 20) (hMl : (prs lv0 kl0 MM).length ≤ 360) (kC : Int → (Nat → Int) → Int → Int64 → TV → KV → KV → Option ((Nat → Int) × Int × Int64 × TV × KV × KV)) (kR : Int → (Nat → Int) → (Nat → Int) → (Nat → Int) → Int → Int → (Nat → Int) → (Nat → Int) → (Nat → Int) → (Nat → Int) → (Nat → Int) → (Nat → Int) → Option RM) : ∀ (M2 M1 : List Nat) (T : TV) (kl : Nat → List Nat) (Q : List Nat) (r n m : Nat) (cc : Int64) (LB LN : KV) (s pool w it tr fr gr tu si old : Nat → Int) (left items il : Int), MM = M1 ++ M2 → LW T kl Q r s M2 → (∀ y ∈ M2, pr (tLev T) kl y = pr lv0 kl0 y ∧ ∀ v ∈ pr lv0 kl0 y, tLev T v = lv0 v) → KR LB → KR LN → M2.length < n → M2.length < m → ∃ (T' : TV) (kl' : Nat → List Nat) (Q' : List Nat) (r' : Nat) (left' items' il' : Int) (cc' : Int64) (LB' LN' : KV) (s' pool' w' it' tr' fr' gr' tu' si' old' : Nat → Int), f_Ch_putBackKept_L2 kept (MM.length : Int) kC n (M1.length : Int) pool left cc T LB LN = kC (MM.length : Int) pool' left' cc' T' LB' LN' ∧ f_Mo_remove_L102 aside begin level (MM.length : Int) kR m (M1.length : Int) s w it items il tr fr gr tu si old = kR (MM.length : Int) s' w' it' items' il' tr' fr' gr' tu' si' old' ∧ LW T' kl' Q' r' s' [] ∧ (Rt2 (tLev T) kl r → Rt2 (tLev T') kl' r') ∧ (∀ b, b < 24 → (b ∈ Q' ↔ b ∈ Q)) ∧ KR LB' ∧ KR LN' := by
  intro M2
  induction M2 with
  | nil =>
    intro M1 T kl Q r n m cc LB LN s pool w it tr fr gr tu si old left items il hMM W hp hLB hLN hn hm
    obtain ⟨n, rfl⟩ : ∃ q, n = q + 1 := ⟨n - 1, by simp at hn; omega⟩
    obtain ⟨m, rfl⟩ : ∃ q, m = q + 1 := ⟨m - 1, by simp at hm; omega⟩
    rw [List.append_nil] at hMM
    subst hMM
    refine ⟨T, kl, Q, r, left, items, il, cc, LB, LN, s, pool, w, it, tr, fr, gr, tu, si, old, ?_, ?_, W, fun q => q, fun _ _ => Iff.rfl, hLB, hLN⟩
    · rw [f_Ch_putBackKept_L2, gd_p ⟨by omega, by omega⟩, gd_p ⟨by omega, by omega⟩, if_neg (by omega)]
    · rw [f_Mo_remove_L102, gd_p ⟨by omega, by omega⟩, gd_p ⟨by omega, by omega⟩, if_neg (by omega)]
  | cons y M2 ih =>
    intro M1 T kl Q r n m cc LB LN s pool w it tr fr gr tu si old left items il hMM W hp hLB hLN hn hm
    obtain ⟨n, rfl⟩ : ∃ q, n = q + 1 := ⟨n - 1, by simp at hn; omega⟩
    obtain ⟨m, rfl⟩ : ∃ q, m = q + 1 := ⟨m - 1, by simp at hm; omega⟩
    have hlM := congrArg List.length hMM
    rw [List.length_append, List.length_cons] at hlM
    simp only [List.length_cons] at hn hm
    have J := W.1.1.1
    have h := J.1
    have hr := J.2.1.1
    have hrl := h.lt hr
    have hlr := W.1.1.2.2.1.rl
    have hyM := W.2.1.2.1 y List.mem_cons_self
    have hyl := h.lt hyM.1
    have hly := W.1.1.2.2.1.lvl y hyM.1
    have hMy : MM[M1.length]? = some y := by rw [hMM]; exact mid_get
    have hpy := hp y List.mem_cons_self
    have hyp : y ∈ pr lv0 kl0 y := by rw [← hpy.1]; exact pr_self (Lk_at h.lk hyM.1)
    have hlvy := hpy.2 y hyp
    have k1 := K.1 _ _ hMy
    have k2 := K.2.1 M1.length (by omega)
    have k3 := K.2.1 (M1.length + 1) (by omega)
    have k4 := K.2.2 _ _ hMy
    have htk1 : MM.take M1.length = M1 := by rw [hMM]; exact List.take_left
    have htk2 : MM.take (M1.length + 1) = M1 ++ [y] := by
      rw [hMM, show M1 ++ y :: M2 = (M1 ++ [y]) ++ M2 by simp, show M1.length + 1 = (M1 ++ [y]).length by simp]
      exact List.take_left
    rw [htk1] at k2 k4
    rw [htk2, prs_app, prs_cons, prs_nil, List.append_nil, List.length_append] at k3
    have hMl2 := hMl
    rw [hMM, prs_app, prs_cons, List.length_append, List.length_append] at hMl2
    have hMM' : MM = (M1 ++ [y]) ++ M2 := by rw [hMM]; simp
    have hl1 : (((M1 ++ [y]).length : Nat) : Int) = (M1.length : Int) + 1 := by rw [List.length_append]; simp
    have hlev0 : f_Mo_levelAt s 0 = some (tLev T r) := row_lev (k := 0) J.2.2.1 (by rw [pr_eq (Lk_at h.lk hr)]; rfl)
    have hkat : f_Rt_at 24 kept (M1.length : Int) = some (y : Int) := by rw [at_sp (by omega) (by omega), k1]
    have hm1 : ((M1.length : Nat) : Int).toNat = M1.length := by omega
    have hm2 : ((M1.length : Nat) : Int) + 1 = ((M1.length + 1 : Nat) : Int) := by omega
    have hm3 : ((((M1.length : Nat) : Int) + 1)).toNat = M1.length + 1 := by omega
    by_cases hlow : tLev T y + 1 ≤ tLev T r
    · obtain ⟨it1, t1, t2⟩ := tka_go (aside := aside) (o := (prs lv0 kl0 M1).length) (len := (pr lv0 kl0 y).length) (by omega) (fun x4_6 c_item_7 => some (c_item_7, ((pr lv0 kl0 y).length : Int))) (pr lv0 kl0 y).length 0 FU it (by omega) (by unfold FU; omega) (fun j hj => absurd hj (by omega))
      obtain ⟨T1, kl1, Q1, r1, left1, items1, il1, cc1, s1, pool1, w1, it2, tr1, fr1, gr1, tu1, si1, old1, a1, a2, a3, a4, a5, a6⟩ := own_lo (pool := pool) (w := w) (it := it1) (tr := tr) (fr := fr) (gr := gr) (tu := tu) (si := si) (old := old) (left := left) W hlow (fun j z hz => by
        rw [hpy.1] at hz
        have hjl := (List.getElem?_eq_some_iff.mp hz).1
        rw [t2 j hjl, k4.2 j z hz]
        unfold sg
        rw [hpy.2 z (List.mem_of_getElem? hz)])
      rw [hpy.1, hlvy] at a2
      obtain ⟨T2, kl2, Q2, r2, left2, items2, il2, cc2, LB2, LN2, s2, pool2, w2, it3, tr2, fr2, gr2, tu2, si2, old2, b1, b2, b3, b4, b5, b6⟩ := ih (M1 ++ [y]) T1 kl1 Q1 r1 n m cc1 LB LN s1 pool1 w1 it2 tr1 fr1 gr1 tu1 si1 old1 left1 items1 il1 hMM' a3 (fun y2 hy2 => by
        have c1 := a5 y2 hy2
        have c2 := hp y2 (List.mem_cons_of_mem _ hy2)
        exact ⟨c1.1.trans c2.1, fun v hv => (c1.2 v (by rw [c2.1]; exact hv)).trans (c2.2 v hv)⟩) hLB hLN (by omega) (by omega)
      refine ⟨T2, kl2, Q2, r2, left2, items2, il2, cc2, LB2, LN2, s2, pool2, w2, it3, tr2, fr2, gr2, tu2, si2, old2, ?_, ?_, b3, fun q => b4 (a4 q), fun b hb => (b5 b hb).trans (a6 b hb), b6⟩
      · rw [hl1] at b1
        rw [f_Ch_putBackKept_L2, gd_p ⟨by omega, by omega⟩, gd_p ⟨by omega, by omega⟩, if_pos (by omega), bd1_p hkat, bd1_p (t_lev h.le hyl), J.2.1.2.2.1, bd1_p (t_lev h.le hrl), gd_p ⟨by omega, by omega⟩, gd_p ⟨by omega, by omega⟩, if_neg (by omega), bd4_p a1]
        exact b1
      · rw [hl1] at b2
        have hins : f_Mo_insertsAside s w it items il tr fr gr tu si old aside begin level (M1.length : Int) = some (s1, w1, it2, items1, il1, tr1, fr1, gr1, tu1, si1, old1) := by
          have hta : f_Mo_takes_aside it aside (begin M1.length) (begin (M1.length + 1)) = some (it1, ((pr lv0 kl0 y).length : Int)) := by
            unfold f_Mo_takes_aside
            rw [k2, k3, show (((prs lv0 kl0 M1).length + (pr lv0 kl0 y).length : Nat) : Int) - ((prs lv0 kl0 M1).length : Int) = ((pr lv0 kl0 y).length : Int) by omega]
            exact t1
          unfold f_Mo_insertsAside
          rw [gd_p ⟨by omega, by omega⟩, bd1_p hlev0, hm1, k4.1, gd_p ⟨by omega, by omega⟩, gd_p ⟨by omega, by omega⟩, if_neg (by omega), gd_p ⟨by omega, by omega⟩, gd_p ⟨by omega, by omega⟩, hm3, bd2_p hta, bd11_p a2]
        rw [f_Mo_remove_L102, gd_p ⟨by omega, by omega⟩, gd_p ⟨by omega, by omega⟩, if_pos (by omega), bd11_p hins]
        exact b2
    · have hy24 : 24 ≤ y := by
        rcases Nat.lt_or_ge y 24 with q | q
        · have := (h.lev24 hyM.1).mp q
          omega
        · exact q
      obtain ⟨T1, LB1, LN1, Q1, a1, a2, a3, a4, a5, a6, a7, a8, a9⟩ := dissolve_sp W hy24 hLB hLN
      rw [hpy.1] at a2 a5 a6
      have hK1 : kLen LB1 ≤ 8192 := by have q := a3; simp only [R3, KR] at q; omega
      obtain ⟨T2, kl2, Q2, r2, left2, items2, il2, cc2, s2, pool2, w2, it2, tr2, fr2, gr2, tu2, si2, old2, b1, b2, b3, b4, b5, b6⟩ := bx_go (S := pr lv0 kl0 y) (aside := aside) (begin := begin) (i := M1.length) (o := (prs lv0 kl0 M1).length) a2 a5 hK1 (fun j z hz => by
        have hzm := List.mem_of_getElem? hz
        have hzQ := (pr_in h.lk y hyM.1 z (by rw [hpy.1]; exact hzm)).1
        have := k4.2 j z hz
        have hlz := hpy.2 z hzm
        have hlz2 := W.1.1.2.2.1.lvl z hzQ
        have hz24 := h.lev24 hzQ
        rw [this]
        unfold sg
        by_cases q : z < 24
        · rw [if_pos q]
          exact ⟨⟨by omega, by omega⟩, fun _ => rfl, fun q2 => by omega⟩
        · have h5 : ¬ tLev T z = -1 := fun e => q (hz24.mpr e)
          rw [if_neg q]
          exact ⟨⟨by omega, by omega⟩, fun q2 => absurd q2 q, fun _ => by omega⟩) k3 (by omega) (by omega) (fun x3_35 c_pool_36 c_left_37 c_treated_38 T_39 => f_Ch_putBackKept_L2 kept (MM.length : Int) kC n ((M1.length : Int) + 1) (c_pool_36) (c_left_37) (c_treated_38) (T_39) (LB1) (LN1)) (fun x2_29 c_s_30 c_rect_31 c_item_32 c_items_33 c_itemLevel_34 c_treated_35 c_from_36 c_group_37 c_turn_38 c_size_39 c_old_40 => some (c_s_30, c_rect_31, c_item_32, c_items_33, c_itemLevel_34, c_treated_35, c_from_36, c_group_37, c_turn_38, c_size_39, c_old_40)) (pr lv0 kl0 y) [] T1 kl Q1 M2 r FU FU cc s pool w it tr fr gr tu si old left items il rfl a6 (fun b hb => by
        have hbQ := (a6.2.1.2.1 b (List.mem_append_left _ hb)).1
        have hb24 := (bxs_mem.mp hb).2
        have A1 := a6.1.1.1.1
        rw [pr_eq (Lk_at A1.lk hbQ), (A1.2.2.2.2 b hbQ).2.1 hb24]
        rfl) (by unfold FU; omega) (by unfold FU; omega)
      obtain ⟨T3, kl3, Q3, r3, left3, items3, il3, cc3, LB3, LN3, s3, pool3, w3, it3, tr3, fr3, gr3, tu3, si3, old3, c1, c2, c3, c4, c5, c6⟩ := ih (M1 ++ [y]) T2 kl2 Q2 r2 n m cc2 LB1 LN1 s2 pool2 w2 it2 tr2 fr2 gr2 tu2 si2 old2 left2 items2 il2 hMM' b3 (fun y2 hy2 => by
        have d1 := a7 y2 hy2
        have d2 := b5 y2 hy2
        have d3 := hp y2 (List.mem_cons_of_mem _ hy2)
        rw [d1.1, d3.1] at d2
        rw [d3.1] at d1
        exact ⟨d2.1, fun v hv => (d2.2 v hv).trans ((d1.2 v hv).trans (d3.2 v hv))⟩) a3 a4 (by omega) (by omega)
      have hRt : Rt2 (tLev T) kl r → Rt2 (tLev T1) kl r := fun q => by
        unfold Rt2 at q ⊢
        rw [a9]
        exact q
      refine ⟨T3, kl3, Q3, r3, left3, items3, il3, cc3, LB3, LN3, s3, pool3, w3, it3, tr3, fr3, gr3, tu3, si3, old3, ?_, ?_, c3, fun q => c4 (b4 (hRt q)), fun b hb => ((c5 b hb).trans (b6 b hb)).trans (a8 b hb), c6⟩
      · rw [hl1] at c1
        rw [f_Ch_putBackKept_L2, gd_p ⟨by omega, by omega⟩, gd_p ⟨by omega, by omega⟩, if_pos (by omega), bd1_p hkat, bd1_p (t_lev h.le hyl), J.2.1.2.2.1, bd1_p (t_lev h.le hrl), gd_p ⟨by omega, by omega⟩, gd_p ⟨by omega, by omega⟩, if_pos (by omega), bd3_p a1]
        refine Eq.trans b1 ?_
        exact c1
      · rw [hl1] at c2
        have hins : f_Mo_insertsAside s w it items il tr fr gr tu si old aside begin level (M1.length : Int) = some (s2, w2, it2, items2, il2, tr2, fr2, gr2, tu2, si2, old2) := by
          unfold f_Mo_insertsAside
          rw [gd_p ⟨by omega, by omega⟩, bd1_p hlev0, hm1, k4.1, gd_p ⟨by omega, by omega⟩, gd_p ⟨by omega, by omega⟩, if_pos (by omega), gd_p ⟨by omega, by omega⟩, k2]
          exact b2
        rw [f_Mo_remove_L102, gd_p ⟨by omega, by omega⟩, gd_p ⟨by omega, by omega⟩, if_pos (by omega), bd11_p hins]
        exact c2
