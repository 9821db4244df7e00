/-! the loose trees come back: the class's putBackKept beside the reference's insertsAside -/
theorem at_itm {K : KV} {W : List Nat} {i y : Nat} (h : Itm K W) (hl : W.length ≤ kLen K) (hK : kLen K ≤ 8192) (hi : W[i]? = some y) : f_Rt_at (kLen K) (kItm K) (i : Int) = some (y : Int) := by
  have := (List.getElem?_eq_some_iff.mp hi).1
  rw [at_sp (by omega) (by omega), h.2 i y hi]
theorem drop_here2 {W : List Nat} {i : Nat} (hi : i < W.length) : W.drop i = W[i] :: W.drop (i + 1) := List.drop_eq_getElem_cons hi
theorem if_up {f : Nat → Int} {L : List Nat} {y v : Nat} {c : Int} : (if v ∈ L then c else up f y c v) = if v ∈ y :: L then c else f v := by
  unfold up
  by_cases h1 : v = y
  · by_cases h2 : v ∈ L <;> simp [h1]
  · by_cases h2 : v ∈ L <;> simp [h1, h2]
theorem ls_go {K : KV} {W : List Nat} (h : Itm K W) (hl : W.length ≤ kLen K) (hK : kLen K ≤ 8192) (k : Int → TV → Option (TV × KV × KV)) : ∀ (d i n : Nat) (T : TV), i + d = W.length → d < n → tR T ≤ 8192 → (∀ y ∈ W, y < tR T) → ∃ f : Nat → Int, f_Ch_dissolve_L28 K k n (i : Int) T = k (W.length : Int) (sHol T f) ∧ ∀ v, f v = if v ∈ W.drop i then -1 else tHol T v
  | 0, i, n + 1, T, hi, hn, hR, hW => by
    refine ⟨tHol T, ?_, fun v => ?_⟩
    · rw [f_Ch_dissolve_L28, gd_p ⟨by omega, by omega⟩, h.1, gd_p ⟨by omega, by omega⟩, if_neg (by omega), show (i : Int) = (W.length : Int) by omega]
    · rw [List.drop_eq_nil_of_le (by omega), if_neg (by simp)]
  | d + 1, i, n + 1, T, hi, hn, hR, hW => by
    have hil : i < W.length := by omega
    have hg := List.getElem?_eq_getElem hil
    have hyl := hW _ (List.mem_of_getElem? hg)
    obtain ⟨f, e1, e2⟩ := ls_go h hl hK k d (i + 1) n (sHol T (up (tHol T) W[i] (-1))) (by omega) (by omega) hR hW
    refine ⟨f, ?_, fun v => ?_⟩
    · rw [f_Ch_dissolve_L28, gd_p ⟨by omega, by omega⟩, h.1, gd_p ⟨by omega, by omega⟩, if_pos (by omega), bd1_p (at_itm h hl hK hg)]
      unfold f_Tr_setLoose
      rw [bd1_p (by rw [bd1_p (put_sp (n := tR T) (f := tHol T) (by omega) hyl)]), show (i : Int) + 1 = ((i + 1 : Nat) : Int) by omega]
      exact e1
    · rw [e2 v, drop_here2 hil]
      show (if v ∈ W.drop (i + 1) then -1 else up (tHol T) W[i] (-1) v) = _
      exact if_up
theorem rl_go {K : KV} {W : List Nat} (h : Itm K W) (hl : W.length ≤ kLen K) (hK : kLen K ≤ 8192) (k : Int → TV → Option (TV × KV × KV)) : ∀ (d i n : Nat) (T : TV), i + d = W.length → d < n → tR T ≤ 8192 → (∀ y ∈ W, y < tR T) → ∃ f g z : Nat → Int, f_Ch_dissolve_L65 K k n (i : Int) T = k (W.length : Int) (sSiz (sHol (sLev T f) g) z) ∧ (∀ v, f v = if v ∈ W.drop i then -2 else tLev T v) ∧ (∀ v, g v = if v ∈ W.drop i then -1 else tHol T v) ∧ ∀ v, z v = if v ∈ W.drop i then 0 else tSiz T v
  | 0, i, n + 1, T, hi, hn, hR, hW => by
    refine ⟨tLev T, tHol T, tSiz T, ?_, fun v => ?_, fun v => ?_, fun v => ?_⟩
    · rw [f_Ch_dissolve_L65, gd_p ⟨by omega, by omega⟩, h.1, gd_p ⟨by omega, by omega⟩, if_neg (by omega), show (i : Int) = (W.length : Int) by omega]
    · rw [List.drop_eq_nil_of_le (by omega), if_neg (by simp)]
    · rw [List.drop_eq_nil_of_le (by omega), if_neg (by simp)]
    · rw [List.drop_eq_nil_of_le (by omega), if_neg (by simp)]
  | d + 1, i, n + 1, T, hi, hn, hR, hW => by
    have hil : i < W.length := by omega
    have hg := List.getElem?_eq_getElem hil
    have hyl := hW _ (List.mem_of_getElem? hg)
    obtain ⟨f, g, z, e1, e2, e3, e4⟩ := rl_go h hl hK k d (i + 1) n (tk T W[i] (-2)) (by omega) (by omega) hR hW
    refine ⟨f, g, z, ?_, fun v => ?_, fun v => ?_, fun v => ?_⟩
    · rw [f_Ch_dissolve_L65, gd_p ⟨by omega, by omega⟩, h.1, gd_p ⟨by omega, by omega⟩, if_pos (by omega), bd1_p (at_itm h hl hK hg)]
      unfold f_Tr_release
      rw [bd1_p (by rw [bd1_p (take_sp hR hyl)]), show (i : Int) + 1 = ((i + 1 : Nat) : Int) by omega]
      exact e1
    · rw [e2 v, drop_here2 hil]
      show (if v ∈ W.drop (i + 1) then -2 else up (tLev T) W[i] (-2) v) = _
      exact if_up
    · rw [e3 v, drop_here2 hil]
      show (if v ∈ W.drop (i + 1) then -1 else up (tHol T) W[i] (-1) v) = _
      exact if_up
    · rw [e4 v, drop_here2 hil]
      show (if v ∈ W.drop (i + 1) then 0 else up (tSiz T) W[i] 0 v) = _
      exact if_up
theorem dissolve_sp {T : TV} {kl : Nat → List Nat} {Q M : List Nat} {r y : Nat} {s : Nat → Int} {LB LN : KV} (W : LW T kl Q r s (y :: M)) (hy24 : 24 ≤ y) (hB : KR LB) (hN : KR LN) : ∃ (T1 : TV) (LB1 LN1 : KV) (Q1 : List Nat), f_Ch_dissolve T LB LN (y : Int) = some (T1, LB1, LN1) ∧ Itm LB1 (bxs (pr (tLev T) kl y)) ∧ KR LB1 ∧ KR LN1 ∧ (bxs (pr (tLev T) kl y)).length ≤ kLen LB1 ∧ LW T1 kl Q1 r s (bxs (pr (tLev T) kl y) ++ M) ∧ (∀ y2 ∈ M, pr (tLev T1) kl y2 = pr (tLev T) kl y2 ∧ ∀ v ∈ pr (tLev T) kl y2, tLev T1 v = tLev T v) ∧ (∀ b, b < 24 → (b ∈ Q1 ↔ b ∈ Q)) ∧ tLev T1 r = tLev T r := by
  have O := W.1.1
  have J := O.1
  have h := J.1
  have hlk := h.lk
  have hr := J.2.1.1
  have hhr := J.2.1.2.2.2
  have hL := W.2.1
  have hLn := List.nodup_cons.mp hL.1
  have hyM := hL.2.1 y List.mem_cons_self
  have hR := h.1.2
  obtain ⟨LB1, g1, g2, g3, g4⟩ := gather_sp h (Or.inl rfl) hyM.1 O.2.1 hB
  obtain ⟨LN1, n1, n2, n3, n4⟩ := gather_sp h (Or.inr rfl) hyM.1 O.2.1 hN
  rw [fl_bxs] at g2
  have hfl : ∀ b : Int, (fl b (pr (tLev T) kl y)).length ≤ (pr (tLev T) kl y).length := fun b => List.length_filter_le _ _
  have hbl : (bxs (pr (tLev T) kl y)).length ≤ (pr (tLev T) kl y).length := List.length_filter_le _ _
  have hLB : kLen LB1 ≤ 8192 := by have q := g3; simp only [R3, KR] at q; omega
  have hLN : kLen LN1 ≤ 8192 := by have q := n3; simp only [R3, KR] at q; omega
  have hin : ∀ v ∈ pr (tLev T) kl y, v ∈ Q := fun v hv => (pr_in hlk y hyM.1 v hv).1
  have hNm : ∀ v, v ∈ fl 1 (pr (tLev T) kl y) ↔ v ∈ pr (tLev T) kl y ∧ 24 ≤ v := fun v => by
    rw [fl_mem]
    constructor
    · rintro ⟨a, b⟩
      exact ⟨a, by rcases Nat.lt_or_ge v 24 with q | q; exact absurd (b.mp q) (by omega); exact q⟩
    · rintro ⟨a, b⟩
      exact ⟨a, ⟨fun q => by omega, fun q => absurd q (by omega)⟩⟩
  obtain ⟨f, l1, l2⟩ := ls_go g2 (by omega) hLB (fun x2_19 T_20 => f_Ch_dissolve_L65 (LN1) (fun x2_31 T_32 => some (T_32, LB1, LN1)) FU (0) (T_20)) (bxs (pr (tLev T) kl y)).length 0 FU T (by omega) (by have := pr_length h hyM.1; have := O.2.2.1.len h; unfold FU; omega) h.le (fun v hv => h.lt (hin v (bxs_mem.mp hv).1))
  obtain ⟨f2, f3, f4, m1, m2, m3, m4⟩ := rl_go n2 (by have := hfl 1; omega) hLN (fun x2_31 T_32 => some (T_32, LB1, LN1)) (fl 1 (pr (tLev T) kl y)).length 0 FU (sHol T f) (by omega) (by have := hfl 1; have := pr_length h hyM.1; have := O.2.2.1.len h; unfold FU; omega) h.le (fun v hv => h.lt (hin v ((hNm v).mp hv).1))
  rw [List.drop_zero] at l2 m2 m3 m4
  have m3' : ∀ v, f3 v = if v ∈ fl 1 (pr (tLev T) kl y) then -1 else f v := m3
  generalize hT1 : sSiz (sHol (sLev (sHol T f) f2) f3) f4 = T1 at m1
  have q1 : tLev T1 = f2 := by rw [← hT1]
  have q2 : tHol T1 = f3 := by rw [← hT1]
  have q3 : tSiz T1 = f4 := by rw [← hT1]
  have q4 : tCor T1 = tCor T := by rw [← hT1]
  have q5 : tLis T1 = tLis T := by rw [← hT1]
  have q6 : tR T1 = tR T := by rw [← hT1]
  have q7 : tRoot T1 = tRoot T := by rw [← hT1]
  have q8 : tCap T1 = tCap T := by rw [← hT1]
  have q9 : tRei T1 = tRei T := by rw [← hT1]
  have q10 : tSpl T1 = tSpl T := by rw [← hT1]
  have q11 : tRec T1 = tRec T := by rw [← hT1]
  have hm : ∀ v, v ∈ Q.filter (fun v => decide (v ∉ fl 1 (pr (tLev T) kl y))) ↔ v ∈ Q ∧ v ∉ fl 1 (pr (tLev T) kl y) := fun v => by simp
  have hnd : (Q.filter (fun v => decide (v ∉ fl 1 (pr (tLev T) kl y)))).Nodup := h.2.1.filter _
  generalize hQ1 : Q.filter (fun v => decide (v ∉ fl 1 (pr (tLev T) kl y))) = Q1 at hm hnd
  have hlv : ∀ v, v ∉ fl 1 (pr (tLev T) kl y) → tLev T1 v = tLev T v := fun v hv => by rw [q1, m2 v, if_neg hv]
  have hhol : ∀ v ∈ Q1, tHol T1 v = if v ∈ pr (tLev T) kl y then -1 else tHol T v := fun v hv => by
    have hv2 := (hm v).mp hv
    rw [q2, m3' v, if_neg hv2.2, l2 v]
    by_cases h1 : v ∈ pr (tLev T) kl y
    · have : v < 24 := by
        rcases Nat.lt_or_ge v 24 with q | q
        · exact q
        · exact absurd ((hNm v).mpr ⟨h1, q⟩) hv2.2
      rw [if_pos (bxs_mem.mpr ⟨h1, this⟩), if_pos h1]
    · rw [if_neg (fun q => h1 (bxs_mem.mp q).1), if_neg h1]
  have hyup : ∀ v ∈ pr (tLev T) kl y, v ≠ y → ∃ w, w ∈ fl 1 (pr (tLev T) kl y) ∧ w ∈ Q ∧ v ∈ kl w := fun v hv hvy => by
    obtain ⟨w, w1, w2⟩ := pr_up hlk y hyM.1 v hv hvy
    have hwQ := hin w w1
    exact ⟨w, (hNm w).mpr ⟨w1, h.node hwQ w2⟩, hwQ, w2⟩
  have A1 : Ar T1 kl Q1 := by
    refine h.cull (N := fl 1 (pr (tLev T) kl y)) hnd hm q6 (fun z hz => by rw [q4]; exact h.2.2.2.1 z hz) q5 hlv (fun v hv => by rw [q1, m2 v, if_pos hv]) (fun v hv => by rw [q3, m4 v, if_neg hv]) (fun v hv => ?_) (fun z hz w hw q => ?_)
    · rw [hhol v hv]
      have hv2 := (hm v).mp hv
      by_cases h1 : v ∈ pr (tLev T) kl y
      · rw [if_pos h1]
        refine Or.inr ⟨rfl, fun z hz q => ?_⟩
        have hz2 := (hm z).mp hz
        have hvy : v ≠ y := fun e => hv2.2 ((hNm v).mpr ⟨h1, by omega⟩)
        obtain ⟨w, w1, w2, w3⟩ := hyup v h1 hvy
        exact hz2.2 (h.one hz2.1 w2 q w3 ▸ w1)
      · rw [if_neg h1]
        refine Or.inl ⟨rfl, fun z hz q => ?_⟩
        have := hL.exact h hr hhr hv2.1 q
        exact h1 (pr_kid hlk y hyM.1 z ((hNm z).mp hz).1 v this)
    · have hz2 := (hm z).mp hz
      have hw2 := (hNm w).mp q
      by_cases hwy : w = y
      · rw [hwy] at hw
        exact h.loose hyM.2.2 z hz2.1 hw
      · obtain ⟨u, u1, u2, u3⟩ := hyup w hw2.1 hwy
        exact hz2.2 (h.one hz2.1 u2 hw u3 ▸ u1)
  have hprs : ∀ t ∈ Q, (∀ v ∈ pr (tLev T) kl t, v ∉ pr (tLev T) kl y) → pr (tLev T1) kl t = pr (tLev T) kl t := fun t ht hn => pr_same hlk t ht (fun z hz => ⟨rfl, hlv z (fun q => hn z hz ((hNm z).mp q).1)⟩)
  have hrd : ∀ v ∈ pr (tLev T) kl r, v ∉ pr (tLev T) kl y := fun v hv q => hL.out h hr hhr List.mem_cons_self q hv
  have hMd : ∀ y2 ∈ M, ∀ v ∈ pr (tLev T) kl y2, v ∉ pr (tLev T) kl y := fun y2 hy2 v hv q => by
    have h2 := hL.2.1 y2 (List.mem_cons_of_mem _ hy2)
    have := tops h h2.1 hyM.1 h2.2.2 hyM.2.2 hv q
    exact hLn.1 (this ▸ hy2)
  have hprr := hprs r hr hrd
  have hrN : r ∉ fl 1 (pr (tLev T) kl y) := fun q => hrd r (pr_self (Lk_at hlk hr)) ((hNm r).mp q).1
  have hrQ1 : r ∈ Q1 := (hm r).mpr ⟨hr, hrN⟩
  have hb1 : ∀ b, b < 24 → (b ∈ Q1 ↔ b ∈ Q) := fun b hb => ⟨fun q => ((hm b).mp q).1, fun q => (hm b).mpr ⟨q, fun e => by have := ((hNm b).mp e).2; omega⟩⟩
  have hbx : ∀ b ∈ bxs (pr (tLev T) kl y), b ∈ Q1 ∧ pr (tLev T1) kl b = [b] := fun b hb => by
    have hb2 := bxs_mem.mp hb
    have hbQ := (hb1 b hb2.2).mpr (hin b hb2.1)
    refine ⟨hbQ, ?_⟩
    rw [pr_eq (Lk_at A1.lk hbQ), (A1.2.2.2.2 b hbQ).2.1 hb2.2]
    rfl
  refine ⟨T1, LB1, LN1, Q1, ?_, g2, g3, n3, by omega, ⟨⟨⟨⟨A1, ⟨hrQ1, J.2.1.2.1, by rw [q7]; exact J.2.1.2.2.1, by rw [hhol r hrQ1, if_neg (hrd r (pr_self (Lk_at hlk hr)))]; exact hhr⟩, ?_, fun v hv => ?_, fun b hb hb24 => ?_, fun v hv hv24 hve => ?_⟩, ?_, ?_, ?_, ?_, ?_, ?_⟩, fun v hv => W.1.2.1 v ((hm v).mp hv).1, fun b hb => ?_⟩, ⟨?_, fun y2 hy2 => ?_, fun v hv => ?_⟩, by rw [q10]; exact W.2.2.1, by rw [q11]; exact W.2.2.2⟩, fun y2 hy2 => ⟨hprs y2 (hL.2.1 y2 (List.mem_cons_of_mem _ hy2)).1 (hMd y2 hy2), fun v hv => hlv v (fun q => hMd y2 hy2 v hv ((hNm v).mp q).1)⟩, hb1, hlv r hrN⟩
  · unfold f_Ch_dissolve
    rw [bd1_p g1, bd1_p n1]
    refine Eq.trans l1 ?_
    exact m1
  · rw [hprr]
    exact J.2.2.1.lev (fun v hv => hlv v (fun q => hrd v hv ((hNm v).mp q).1))
  · rw [q4]
    exact J.2.2.2.1 v ((hm v).mp hv).1
  · rw [q4]
    exact J.2.2.2.2.1 b ((hm b).mp hb).1 hb24
  · rw [hlv r hrN]
    exact J.2.2.2.2.2 v ((hm v).mp hv).1 hv24 hve
  · show tR T1 = 157
    rw [q6]
    exact O.2.1
  · rw [hlv r hrN]
    exact O.2.2.1.sub hnd (fun v hv => ((hm v).mp hv).1) (fun v hv => hlv v ((hm v).mp hv).2)
  · rw [q8]
    exact O.2.2.2.1
  · rw [q8]
    exact O.2.2.2.2.1
  · rw [q9]
    exact O.2.2.2.2.2.1
  · rw [q9]
    exact O.2.2.2.2.2.2
  · have := W.1.2.2 b hb
    exact ⟨this.1, this.2.trans (hb1 b hb).symm⟩
  · refine List.nodup_append.mpr ⟨(pr_nodup h y hyM.1).filter _, hLn.2, fun b hb y2 hy2 e => ?_⟩
    subst e
    have hb2 := bxs_mem.mp hb
    exact hMd b hy2 b (pr_self (Lk_at hlk (hin b hb2.1))) hb2.1
  · rcases List.mem_append.mp hy2 with q | q
    · have hb2 := bxs_mem.mp q
      have h3 := hbx y2 q
      refine ⟨h3.1, fun e => ?_, by rw [hhol y2 h3.1, if_pos hb2.1]⟩
      have := J.2.1.2.1
      omega
    · have h2 := hL.2.1 y2 (List.mem_cons_of_mem _ q)
      have h3 : y2 ∉ pr (tLev T) kl y := hMd y2 q y2 (pr_self (Lk_at hlk h2.1))
      have hQ2 := (hm y2).mpr ⟨h2.1, fun e => h3 ((hNm y2).mp e).1⟩
      exact ⟨hQ2, h2.2.1, by rw [hhol y2 hQ2, if_neg h3]; exact h2.2.2⟩
  · have hv2 := (hm v).mp hv
    rcases hL.2.2 v hv2.1 with q | ⟨y2, hy2, q⟩
    · exact Or.inl (by rw [hprr]; exact q)
    · rcases List.mem_cons.mp hy2 with e | hy2
      · rw [e] at q
        have hv24 : v < 24 := by
          rcases Nat.lt_or_ge v 24 with e | e
          · exact e
          · exact absurd ((hNm v).mpr ⟨q, e⟩) hv2.2
        have hvb := bxs_mem.mpr ⟨q, hv24⟩
        exact Or.inr ⟨v, List.mem_append_left _ hvb, by rw [(hbx v hvb).2]; simp⟩
      · exact Or.inr ⟨y2, List.mem_append_right _ hy2, by rw [hprs y2 (hL.2.1 y2 (List.mem_cons_of_mem _ hy2)).1 (hMd y2 hy2)]; exact q⟩
