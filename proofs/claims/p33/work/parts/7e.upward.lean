/-! from the leaf upwards: the class's takeOutBox beside the reference's remove -/
def Se (T : TV) (s : Nat → Int) : Prop := (3 ≤ tCap T ∧ tCap T ≤ 5) ∧ s 0 = tCap T ∧ s 1 = tRei T ∧ (tRei T = 0 ∨ tRei T = 1)
def TW (T : TV) (kl : Nat → List Nat) (Q : List Nat) (r : Nat) (s : Nat → Int) (x : Nat) (M : List Nat) : Prop :=
  Jw T kl Q r s ∧ (x ∈ Q ∧ 24 ≤ x ∧ x ∈ pr (tLev T) kl r) ∧ (∀ v ∈ Q, 24 ≤ v → kl v = [] → v = x ∨ (v = r ∧ tLev T r ≤ 0)) ∧ (∀ v ∈ Q, (kl v).length ≤ 5) ∧ R3 T ∧ Bd (tLev T) Q (tLev T r) ∧ Se T s ∧ Bx s Q ∧ (tLev T r ≤ 0 ∨ (1 ≤ (kl r).length ∧ (x ≠ r → 2 ≤ (kl r).length))) ∧ Lo T kl Q r M ∧ (tSpl T = s 2 ∧ tRec T = s 3)
theorem tw_next {T : TV} {kl : Nat → List Nat} {Q M : List Nat} {r x p : Nat} {s : Nat → Int} (W : TW T kl Q r s x M) (hxr : x ≠ r) (hat : At T kl r x p) (h1 : kl x ≠ []) : ∃ pn p' : Nat, tHol T x = (pn : Int) ∧ f_Mo_above s (p : Int) = some (p' : Int) ∧ TW T kl Q r s pn M ∧ At T kl r pn p' ∧ tLev T pn = tLev T x + 1 ∧ p ≠ 0 := by
  obtain ⟨J, hx, h6, hsz, hR3, hB, hS, hbx, hroot, hL, hsp⟩ := W
  have h := J.1
  obtain ⟨pn, p', q1, q2, q3, q4, q5, q6⟩ := above_sp h J.2.1.1 J.2.2.1 hx.1 hxr hx.2.2 hat
  have hk := h.kid q1 q3
  refine ⟨pn, p', hk.2.1, q4, ⟨J, ⟨q1, h.node q1 q3, q2⟩, fun v hv hv24 hve => ?_, hsz, hR3, hB, hS, hbx, ?_, hL, hsp⟩, q5, by omega, q6⟩
  · rcases h6 v hv hv24 hve with q | q
    · exact absurd (q ▸ hve) h1
    · exact Or.inr q
  · rcases hroot with q | q
    · exact Or.inl q
    · have := q.2 hxr
      exact Or.inr ⟨q.1, fun _ => this⟩
theorem tw_keep {T : TV} {kl : Nat → List Nat} {Q M : List Nat} {r x p : Nat} {s kept aside begin level : Nat → Int} (W : TW T kl Q r s x M) (hxr : x ≠ r) (hat : At T kl r x p) (h1 : (kl x).length ≤ 1) (K : Kp (tLev T) kl M kept aside begin level) (hM : M.length < 20) : ∃ (pn p' : Nat) (T3 : TV) (kl3 : Nat → List Nat) (Q3 : List Nat) (s3 kept' aside' begin' level' : Nat → Int), tHol T x = (pn : Int) ∧ f_Mo_above s (p : Int) = some (p' : Int) ∧ f_Ch_keepEntriesOf kept (M.length : Int) T (x : Int) = some (kept', ((M ++ kl x).length : Int), T3) ∧ f_Mo_keepsAside s aside begin level (M.length : Int) (p : Int) = some (s3, aside', begin', level', ((M ++ kl x).length : Int)) ∧ TW T3 kl3 Q3 r s3 pn (M ++ kl x) ∧ At T3 kl3 r pn p' ∧ Kp (tLev T3) kl3 (M ++ kl x) kept' aside' begin' level' ∧ tLev T3 pn = tLev T x + 1 ∧ tLev T3 r = tLev T r ∧ p ≠ 0 ∧ (∀ v ∈ Q3, v ∈ Q) ∧ (∀ b, b < 24 → b ∈ Q → b ∈ Q3) ∧ tCap T3 = tCap T := by
  obtain ⟨J, hx, h6, hsz, hR3, hB, hS, hbx, hroot, hL, hsp⟩ := W
  have h := J.1
  have hlk := h.lk
  have hr := J.2.1.1
  have hhr := J.2.1.2.2.2
  obtain ⟨pn, p', q1, q2, q3, q4, q5, q6⟩ := above_sp h hr J.2.2.1 hx.1 hxr hx.2.2 hat
  have hk := h.kid q1 q3
  have hpx : pn ≠ x := fun q => by subst q; omega
  obtain ⟨D, E, hkp⟩ := List.append_of_mem q3
  have hlenp := congrArg List.length hkp
  rw [List.length_append, List.length_cons] at hlenp
  obtain ⟨T1, s1, a1, a2, a3, a4, a5, a6, a7, a8, a9, a10, a11, a12⟩ := out_sp h hr J.2.2.1 (fun v hv _ => J.2.2.2.1 v hv) q1 q2 hkp hat
  have hL1 : tLev T1 = tLev T := a5.1
  rw [hL1] at a8 a10 a11 a12
  have hkx1 : upL kl pn (D ++ E) x = kl x := upL_o (fun q => hpx q.symm)
  have hat1 : At T1 (upL kl pn (D ++ E)) r pn p' := at_keep h hr q1 q2 q5 (fun v hv => upL_o hv) hL1
  generalize hkl1 : upL kl pn (D ++ E) = kl1 at a3 a4 a8 a10 a11 a12 hkx1 hat1
  have hkl1p : kl1 pn = D ++ E := by rw [← hkl1]; exact upL_s
  have hkl1o : ∀ v, v ≠ pn → kl1 v = kl v := fun v hv => by rw [← hkl1]; exact upL_o hv
  have hkl1s : ∀ v ∈ Q, ∀ y ∈ kl1 v, y ∈ kl v ∧ y ≠ x := fun v hv y hy => by
    by_cases hvp : v = pn
    · subst hvp
      rw [hkl1p] at hy
      have hnd := (h.2.2.2.2 v q1).2.2.1.2.2
      rw [hkp] at hnd
      have hnd2 := List.nodup_append.mp hnd
      refine ⟨by rw [hkp]; rcases List.mem_append.mp hy with q | q <;> simp [q], fun q => ?_⟩
      subst q
      rcases List.mem_append.mp hy with q | q
      · exact hnd2.2.2 y q y (by simp) rfl
      · exact (List.nodup_cons.mp hnd2.2.1).1 q
    · rw [hkl1o v hvp] at hy
      exact ⟨hy, fun q => hvp (h.one hv q1 (q ▸ hy) q3)⟩
  have hlenM := hL.len h hr hhr
  have hprx : (pr (tLev T) kl x).length ≤ (pr (tLev T) kl r).length := by
    obtain ⟨B, e1, -⟩ := hat
    have := congrArg List.length e1
    rw [List.length_drop, List.length_append] at this
    omega
  have hQl := hB.len h
  have hMb : begin M.length = ((prs (tLev T) kl M).length : Int) := by
    have := K.2.1 M.length (Nat.le_refl _)
    rw [List.take_length] at this
    exact this
  obtain ⟨kept', T3, b1, b2, b3, b4, b5, b6, b7⟩ := keep_cls (kept := kept) (k := M.length) a3 hx.1 a1 (by rw [hkx1]; exact h1) (by omega)
  rw [hkx1] at b1 b3 b6
  obtain ⟨aside', begin', level', c1, c2, c3, c4, c5⟩ := keep_ref (aside := aside) (level := level) (m := M.length) (o := (prs (tLev T) kl M).length) h J.2.2.1 hx.1 hat h1 hMb (by omega) (by omega) a2
  rw [← List.length_append] at b1 c1
  have hm : ∀ v, v ∈ Q.erase x ↔ v ∈ Q ∧ v ≠ x := fun v => by rw [h.2.1.mem_erase_iff]; exact And.comm
  have hl3 : ∀ v, v ≠ x → tLev T3 v = tLev T v := fun v hv => by rw [b4, up_o hv, hL1]
  have hxlo : ∀ z ∈ Q, x ∉ kl1 z := fun z hz hq => (hkl1s z hz x hq).2 rfl
  have hh3 : ∀ v ∈ Q.erase x, tHol T3 v = if v ∈ kl x then -1 else tHol T v := fun v hv => by
    have hvx := ((hm v).mp hv).2
    rw [b6 v, a6, up_o hvx]
    by_cases hvk : v ∈ kl x <;> simp [hvx, hvk]
  have hrx : r ≠ x := fun q => hxr q.symm
  have hrkx : r ∉ kl x := fun q => by have := (h.kid hx.1 q).2.1; omega
  have A3 : Ar T3 kl1 (Q.erase x) := by
    refine a3.cull (N := [x]) (h.2.1.erase x) (fun v => by rw [hm]; simp) b7.2.2.1 (fun z hz => by rw [b7.1]; exact a3.2.2.2.1 z hz) b7.2.1 (fun v hv => by rw [b4]; exact up_o (fun q => hv (by simp [q]))) (fun v hv => by rw [b4, List.mem_singleton.mp hv]; exact up_s) (fun v hv => by rw [b5]; exact up_o (fun q => hv (by simp [q]))) (fun v hv => ?_) (fun z hz y hy q => ?_)
    · have hv2 := (hm v).mp hv
      rw [hh3 v hv]
      by_cases hvk : v ∈ kl x
      · rw [if_pos hvk]
        refine Or.inr ⟨rfl, fun z hz hq => ?_⟩
        have hz2 := (hm z).mp hz
        exact hz2.2 (h.one hz2.1 hx.1 (hkl1s z hz2.1 v hq).1 hvk)
      · rw [if_neg hvk]
        refine Or.inl ⟨by rw [a6, up_o hv2.2], fun z hz q => ?_⟩
        rw [List.mem_singleton.mp hz, a6, up_o hv2.2] at q
        exact hvk (hL.exact h hr hhr hv2.1 q)
    · exact hxlo z ((hm z).mp hz).1 (List.mem_singleton.mp q ▸ hy)
  have hpr3 : ∀ t ∈ Q, x ∉ pr (tLev T) kl1 t → pr (tLev T3) kl1 t = pr (tLev T) kl1 t := fun t ht hn => by
    have hlk1 := a3.lk
    rw [hL1] at hlk1
    exact pr_same hlk1 t ht (fun z hz => ⟨rfl, hl3 z (fun q => hn (q ▸ hz))⟩)
  have hxr1 : x ∉ pr (tLev T) kl1 r := fun q => a11 x q (pr_self (Lk_at hlk hx.1))
  have hprr : pr (tLev T3) kl1 r = pr (tLev T) kl1 r := hpr3 r hr hxr1
  have hprM : ∀ y ∈ M, pr (tLev T3) kl1 y = pr (tLev T) kl y := fun y hy => by
    have hyM := hL.2.1 y hy
    have e1 : pr (tLev T) kl1 y = pr (tLev T) kl y := pr_same hlk y hyM.1 (fun z hz => ⟨hkl1o z (fun q => hL.out h hr hhr hy hz (q ▸ q2)), rfl⟩)
    rw [hpr3 y hyM.1 (fun q => ?_), e1]
    rw [e1] at q
    exact hL.out h hr hhr hy q hx.2.2
  have hprK : ∀ y ∈ kl x, pr (tLev T3) kl1 y = pr (tLev T) kl y ∧ x ∉ pr (tLev T) kl y := fun y hy => by
    have hyk := h.kid hx.1 hy
    have e1 : pr (tLev T) kl1 y = pr (tLev T) kl y := pr_same hlk y hyk.1 (fun z hz => ⟨hkl1o z (fun q => by
      have := (pr_in hlk y hyk.1 z hz).2.1
      subst q
      omega), rfl⟩)
    have e2 : x ∉ pr (tLev T) kl y := fun q => by
      have := (pr_in hlk y hyk.1 x q).2.1
      omega
    exact ⟨by rw [hpr3 y hyk.1 (by rw [e1]; exact e2), e1], e2⟩
  have hxM : ∀ y ∈ M, x ∉ pr (tLev T) kl y := fun y hy q => hL.out h hr hhr hy q hx.2.2
  have hlr3 : tLev T3 r = tLev T r := hl3 r hrx
  have hrQ3 : r ∈ Q.erase x := (hm r).mpr ⟨hr, hrx⟩
  have hpQ3 : pn ∈ Q.erase x := (hm pn).mpr ⟨q1, hpx⟩
  have hB24 : ∀ b, b < 24 → b ≠ x := fun b hb q => by have := hx.2.1; omega
  have hp1 : pn ∈ pr (tLev T) kl1 r := by
    rcases (a10 pn).mp q2 with q | q
    · exact q
    · have := (pr_in hlk x hx.1 pn q).2.1
      omega
  refine ⟨pn, p', T3, kl1, Q.erase x, s1, kept', aside', begin', level', hk.2.1, q4, b1, c1, ⟨⟨A3, ⟨hrQ3, J.2.1.2.1, ?_, ?_⟩, ?_, fun v hv => ?_, fun b hb hb24 t ht => ?_⟩, ⟨hpQ3, h.node q1 q3, by rw [hprr]; exact hp1⟩, fun v hv hv24 hve => ?_, fun v hv => ?_, ?_, ?_, ?_, fun b hb => ?_, ?_, ⟨?_, fun y hy => ?_, fun v hv => ?_⟩, ?_⟩, ?_, ⟨fun i y hi => ?_, fun i hi => ?_, fun i y hi => ?_⟩, by rw [hl3 pn hpx]; omega, hlr3, q6, fun v hv => ((hm v).mp hv).1, fun b hb hq => (hm b).mpr ⟨hq, hB24 b hb⟩, by rw [b7.2.2.2.2.1, a5.2.2.2.1]⟩
  · rw [b7.2.2.2.1, a5.2.2.1]
    exact J.2.1.2.2.1
  · rw [hh3 r hrQ3, if_neg hrkx]
    exact hhr
  · rw [hprr]
    exact a8.lev (fun v hv => hl3 v (fun q => hxr1 (q ▸ hv)))
  · rw [b7.1]
    exact a4 v ((hm v).mp hv).1
  · rw [b7.1, a7 b t ht (Or.inl hb24)]
    show s1 (5 + (4 * b + t)) = _
    rw [a9 _ (by omega) (by omega)]
    exact J.2.2.2.2 b ((hm b).mp hb).1 hb24 t ht
  · have hv2 := (hm v).mp hv
    by_cases hvp : v = pn
    · exact Or.inl hvp
    · rw [hkl1o v hvp] at hve
      rw [hlr3]
      exact Or.inr ((h6 v hv2.1 hv24 hve).resolve_left hv2.2)
  · by_cases hvp : v = pn
    · subst hvp
      have := hsz v q1
      rw [hkl1p, List.length_append]
      omega
    · rw [hkl1o v hvp]
      exact hsz v ((hm v).mp hv).1
  · show tR T3 = 157
    rw [b7.2.2.1, a5.2.1]
    exact hR3
  · rw [hlr3]
    exact hB.sub (h.2.1.erase x) (fun v hv => ((hm v).mp hv).1) (fun v hv => hl3 v ((hm v).mp hv).2)
  · refine ⟨by rw [b7.2.2.2.2.1, a5.2.2.2.1]; exact hS.1, ?_, ?_, by rw [b7.2.2.2.2.2.1, a5.2.2.2.2.1]; exact hS.2.2.2⟩
    · rw [a9 0 (by omega) (by omega), b7.2.2.2.2.1, a5.2.2.2.1]
      exact hS.2.1
    · rw [a9 1 (by omega) (by omega), b7.2.2.2.2.2.1, a5.2.2.2.2.1]
      exact hS.2.2.1
  · have := hbx b hb
    refine ⟨this.1.same (fun t ht => a9 _ (by omega) (by omega)), ?_⟩
    rw [a9 _ (by omega) (by omega)]
    refine ⟨fun q => (hm b).mpr ⟨this.2.mp q, hB24 b hb⟩, fun q => this.2.mpr ((hm b).mp q).1⟩
  · rw [hlr3]
    rcases hroot with q | q
    · exact Or.inl q
    · refine Or.inr ?_
      have h2 := q.2 hxr
      by_cases hrp : r = pn
      · subst hrp
        rw [hkl1p, List.length_append]
        exact ⟨by omega, fun q => absurd rfl q⟩
      · rw [hkl1o r hrp]
        exact ⟨q.1, fun _ => h2⟩
  · refine List.nodup_append.mpr ⟨hL.1, (h.2.2.2.2 x hx.1).2.2.1.2.2, fun y hy z hz q => ?_⟩
    subst q
    have q1 := (hL.2.1 y hy).2.2
    have q2 := (h.kid hx.1 hz).2.1
    omega
  · rcases List.mem_append.mp hy with q | q
    · have hyM := hL.2.1 y q
      have hyx : y ≠ x := fun e => by
        rw [e] at hyM
        have := hyM.2.2
        omega
      have hyQ := (hm y).mpr ⟨hyM.1, hyx⟩
      refine ⟨hyQ, hyM.2.1, ?_⟩
      rw [hh3 y hyQ]
      split
      · rfl
      · exact hyM.2.2
    · have hyk := h.kid hx.1 q
      have hyx : y ≠ x := fun e => by rw [e] at hyk; omega
      have hyQ := (hm y).mpr ⟨hyk.1, hyx⟩
      exact ⟨hyQ, fun e => hrkx (e ▸ q), by rw [hh3 y hyQ, if_pos q]⟩
  · have hv2 := (hm v).mp hv
    rw [hprr]
    rcases hL.2.2 v hv2.1 with q | ⟨y, hy, q⟩
    · rcases (a10 v).mp q with q | q
      · exact Or.inl q
      · rw [pr_eq (Lk_at hlk hx.1)] at q
        obtain ⟨y, hy, hvy⟩ := mem_prs.mp ((List.mem_cons.mp q).resolve_left hv2.2)
        exact Or.inr ⟨y, List.mem_append_right _ hy, by rw [(hprK y hy).1]; exact hvy⟩
    · exact Or.inr ⟨y, List.mem_append_left _ hy, by rw [hprM y hy]; exact q⟩
  · rw [b7.2.2.2.2.2.2.1, b7.2.2.2.2.2.2.2, a5.2.2.2.2.2.1, a5.2.2.2.2.2.2, a9 2 (by omega) (by omega), a9 3 (by omega) (by omega)]
    exact hsp
  · obtain ⟨B, e1, e2⟩ := hat1
    rw [hL1] at e1 e2
    have hxp3 : x ∉ pr (tLev T) kl1 pn := fun q => by
      have hlk1 := a3.lk
      rw [hL1] at hlk1
      exact hxr1 (by
        have : x ∈ (pr (tLev T) kl1 r).drop p' := by rw [e1]; simp [q]
        exact List.mem_of_mem_drop this)
    refine ⟨B, by rw [hprr, hpr3 pn q1 hxp3]; exact e1, fun y t hyt => ?_⟩
    have hyB : y ∈ (pr (tLev T) kl1 r).drop p' := by rw [e1, hyt]; simp
    rw [hl3 pn hpx, hl3 y (fun q => hxr1 (q ▸ List.mem_of_mem_drop hyB))]
    exact e2 y t hyt
  · by_cases hil : i < M.length
    · rw [List.getElem?_append_left hil] at hi
      rw [b2 i hil]
      exact K.1 i y hi
    · have hil2 := (List.getElem?_eq_some_iff.mp hi).1
      rw [List.length_append] at hil2
      have hiM : i = M.length := by omega
      subst hiM
      rw [List.getElem?_append_right (Nat.le_refl _), Nat.sub_self] at hi
      refine b3 y ?_
      cases hkx : kl x with
      | nil => rw [hkx] at hi; cases hi
      | cons a t =>
        rw [hkx] at hi h1
        simp at hi h1
        rw [hi, h1]
  · by_cases hil : i ≤ M.length
    · rw [c3 i hil, K.2.1 i hil, List.take_append_of_le_length hil, prs_eq _ (fun y hy => hprM y (List.mem_of_mem_take hy))]
    · rw [List.length_append] at hi
      have hiM : i = M.length + 1 := by omega
      have hkl : (kl x).length = 1 := by omega
      obtain ⟨y, hky⟩ := List.length_eq_one_iff.mp hkl
      have := (c5 y hky).2.1
      rw [hiM, this, List.take_of_length_le (by rw [List.length_append]; omega), prs_app, List.length_append, hky, prs_cons, prs_nil, List.append_nil, prs_eq M hprM, (hprK y (by rw [hky]; simp)).1]
  · by_cases hil : i < M.length
    · rw [List.getElem?_append_left hil] at hi
      have hyM := List.mem_of_getElem? hi
      have k3 := K.2.2 i y hi
      have hyx : y ≠ x := fun e => hxM y hyM (by rw [← e]; exact pr_self (Lk_at hlk (hL.2.1 y hyM).1))
      refine ⟨by rw [c4 i hil, k3.1, hl3 y hyx], fun j z hz => ?_⟩
      rw [hprM y hyM] at hz
      rw [List.take_append_of_le_length (by omega), prs_eq _ (fun y hy => hprM y (List.mem_of_mem_take hy))]
      have hjl := (List.getElem?_eq_some_iff.mp hz).1
      have hsplit := congrArg (fun L => (prs (tLev T) kl L).length) (List.take_append_drop i M)
      have hcons : M.drop i = y :: M.drop (i + 1) := by
        rw [List.drop_eq_getElem_cons hil]
        have := List.getElem?_eq_getElem hil
        rw [this] at hi
        rw [Option.some.inj hi]
      simp only [prs_app, List.length_append, hcons, prs_cons] at hsplit
      rw [c2 _ (by omega), k3.2 j z hz]
      unfold sg
      rw [hl3 z (fun e => hxM y hyM (e ▸ List.mem_of_getElem? hz))]
    · have hil2 := (List.getElem?_eq_some_iff.mp hi).1
      rw [List.length_append] at hil2
      have hiM : i = M.length := by omega
      subst hiM
      rw [List.getElem?_append_right (Nat.le_refl _), Nat.sub_self] at hi
      have hyk := List.mem_of_getElem? hi
      have hky : kl x = [y] := by
        cases hkx : kl x with
        | nil => rw [hkx] at hi; cases hi
        | cons a t =>
          rw [hkx] at hi h1
          simp at hi h1
          rw [hi, h1]
      have c6 := c5 y hky
      have hyx : y ≠ x := fun e => (hprK y hyk).2 (by rw [← e]; exact pr_self (Lk_at hlk (h.kid hx.1 hyk).1))
      refine ⟨by rw [c6.2.2, hl3 y hyx]; have := (h.kid hx.1 hyk).2.2; omega, fun j z hz => ?_⟩
      rw [(hprK y hyk).1] at hz
      rw [List.take_left, prs_eq M hprM, c6.1 j z hz]
      unfold sg
      rw [hl3 z (fun e => (hprK y hyk).2 (e ▸ List.mem_of_getElem? hz))]
