/-! from the leaf upwards, all steps; roots given up -/
theorem At.zero {T : TV} {kl : Nat → List Nat} {Q : List Nat} {r p : Nat} (h : Ar T kl Q) (hr : r ∈ Q) (hat : At T kl r r p) : p = 0 := (at_place (A := []) (B := []) h hr hr hat (by simp)).1
theorem lev0 {T : TV} {kl : Nat → List Nat} {Q : List Nat} (h : Ar T kl Q) {x : Nat} (hx : x ∈ Q) (h24 : 24 ≤ x) : 0 ≤ tLev T x := by
  have hi := (h.2.2.2.2 x hx).1
  have h5 : x < 24 ↔ tLev T x = -1 := hi.2.1
  have h6 : ¬ tLev T x = -1 := fun q => by have := h5.mpr q; omega
  have := hi.2.2.1
  omega
theorem up_go (kC : Int → Int → (Nat → Int) → Int → TV → Option ((Nat → Int) × Int × TV)) (kR : Int → (Nat → Int) → (Nat → Int) → (Nat → Int) → (Nat → Int) → Int → Option (Int × (Nat → Int) × (Nat → Int) × Int × (Nat → Int) × (Nat → Int) × Int × Int × (Nat → Int) × (Nat → Int) × (Nat → Int) × (Nat → Int) × (Nat → Int) × (Nat → Int) × (Nat → Int) × (Nat → Int) × (Nat → Int) × Int)) : ∀ (d : Nat) (T : TV) (kl : Nat → List Nat) (Q : List Nat) (r x p : Nat) (s : Nat → Int) (M : List Nat) (n m st : Nat) (kept aside begin level : Nat → Int), TW T kl Q r s x M → At T kl r x p → Kp (tLev T) kl M kept aside begin level → (M.length : Int) ≤ tLev T x → tLev T x + (d : Int) = tLev T r → d < n → d < m → st + d < 1000000 → ∃ (T' : TV) (kl' : Nat → List Nat) (Q' : List Nat) (s' : Nat → Int) (M' : List Nat) (st' : Int) (kept' aside' begin' level' : Nat → Int), f_Ch_takeOutBox_L32 kC n (x : Int) (st : Int) kept (M.length : Int) T = kC (r : Int) st' kept' (M'.length : Int) T' ∧ f_Mo_remove_L57 kR m (p : Int) s aside begin level (M.length : Int) = kR 0 s' aside' begin' level' (M'.length : Int) ∧ TW T' kl' Q' r s' r M' ∧ Kp (tLev T') kl' M' kept' aside' begin' level' ∧ (M'.length : Int) ≤ tLev T' r ∧ (∀ b, b < 24 → (b ∈ Q' ↔ b ∈ Q)) := by
  intro d
  induction d with
  | zero =>
    intro T kl Q r x p s M n m st kept aside begin level W hat K hM hd hn hm hst
    obtain ⟨n, rfl⟩ : ∃ q, n = q + 1 := ⟨n - 1, by omega⟩
    obtain ⟨m, rfl⟩ : ∃ q, m = q + 1 := ⟨m - 1, by omega⟩
    have J := W.1
    have h := J.1
    have hxr : x = r := (pr_in h.lk r J.2.1.1 x W.2.1.2.2).2.2 (by omega)
    subst hxr
    have hp := hat.zero h J.2.1.1
    subst hp
    have hxl := h.lt J.2.1.1
    have hx24 := J.2.1.2.1
    have hR := h.1.2
    refine ⟨T, kl, Q, s, M, (st : Int), kept, aside, begin, level, ?_, ?_, W, K, hM, fun b _ => Iff.rfl⟩
    · rw [f_Ch_takeOutBox_L32, bd1_p (h.isn J.2.1.1), if_neg (by omega), gd_p ⟨by omega, by omega⟩, if_neg (by omega), gd_p ⟨by omega, by omega⟩, J.2.1.2.2.1, gd_p ⟨by omega, by omega⟩, if_pos rfl]
    · rw [f_Mo_remove_L57, gd_p ⟨by omega, by omega⟩, if_neg (by omega)]
      rfl
  | succ d ih =>
    intro T kl Q r x p s M n m st kept aside begin level W hat K hM hd hn hm hst
    obtain ⟨n, rfl⟩ : ∃ q, n = q + 1 := ⟨n - 1, by omega⟩
    obtain ⟨m, rfl⟩ : ∃ q, m = q + 1 := ⟨m - 1, by omega⟩
    have J := W.1
    have h := J.1
    have hx := W.2.1
    have hxr : x ≠ r := fun q => by subst q; omega
    have hxl := h.lt hx.1
    have hrl := h.lt J.2.1.1
    have hR := h.1.2
    have hS := W.2.2.2.2.2.2.1
    have hs0 := hS.2.1
    have hcap : 3 ≤ tCap T ∧ tCap T ≤ 5 := hS.1
    have hB := W.2.2.2.2.2.1
    have hlr := hB.rl
    have h6 := h.siz hx.1
    have z1 : f_Tr_sizeOf T (x : Int) = some ((kl x).length : Int) := by rw [t_siz h.le hxl, h6.1]
    have hlt : p < (pr (tLev T) kl r).length := by
      obtain ⟨B, e1, -⟩ := hat
      exact (drop_pr h.lk hx.1 e1).2.2
    have hP := J.2.2.1.2.1
    have hent : f_Mo_entriesOf s (p : Int) = some ((kl x).length : Int) := by
      obtain ⟨B, e1, e2⟩ := hat
      exact entries_at J.2.2.1 h.lk hx.1 e1 e2
    have hleast : f_Tr_least T = some (tCap T / 2) := by
      unfold f_Tr_least
      rw [gd_p ⟨⟨by omega, by omega⟩, by omega, by omega⟩]
    have hisn : f_Tr_isNode T (x : Int) = some 1 := by rw [h.isn hx.1, if_neg (by omega)]
    by_cases hsm : ((kl x).length : Int) < tCap T / 2
    · obtain ⟨pn, p', T3, kl3, Q3, s3, kept', aside', begin', level', a1, a2, a3, a4, a5, a6, a7, a8, a9, a10, a11, a12, a13⟩ := tw_keep W hxr hat (by omega) K (by omega)
      obtain ⟨T4, kl4, Q4, s4, M4, st4, kept4, aside4, begin4, level4, b1, b2, b3, b4, b5, b6⟩ := ih T3 kl3 Q3 r pn p' s3 (M ++ kl x) n m (st + 1) kept' aside' begin' level' a5 a6 a7 (by rw [List.length_append]; omega) (by omega) (by omega) (by omega) (by omega)
      have a1' : f_Tr_holderOf T (x : Int) = some (pn : Int) := by rw [t_hol h.le hxl, a1]
      refine ⟨T4, kl4, Q4, s4, M4, st4, kept4, aside4, begin4, level4, ?_, ?_, b3, b4, b5, fun b hb => (b6 b hb).trans ⟨a11 b, a12 b hb⟩⟩
      · rw [f_Ch_takeOutBox_L32, bd1_p hisn, gd_p ⟨by omega, by omega⟩, if_neg (by omega), gd_p ⟨by omega, by omega⟩, J.2.1.2.2.1, gd_p ⟨by omega, by omega⟩, if_neg (by omega), gd_p ⟨by omega, by omega⟩, if_pos (by omega), bd1_p a1', bd1_p z1, bd1_p hleast, gd_p ⟨by omega, by omega⟩, gd_p ⟨by omega, by omega⟩, if_pos hsm, bd3_p a3, show (st : Int) + 1 = ((st + 1 : Nat) : Int) by omega]
        exact b1
      · rw [f_Mo_remove_L57, gd_p ⟨by omega, by omega⟩, if_pos (by omega), bd1_p a2, bd1_p hent, hs0, gd_p ⟨⟨by omega, by omega⟩, by omega, by omega⟩, gd_p ⟨by omega, by omega⟩, gd_p ⟨by omega, by omega⟩, if_pos hsm, bd5_p a4]
        exact b2
    · have hne : kl x ≠ [] := fun q => by rw [q] at hsm; simp at hsm; omega
      obtain ⟨pn, p', a1, a2, a3, a4, a5, a6⟩ := tw_next W hxr hat hne
      obtain ⟨T4, kl4, Q4, s4, M4, st4, kept4, aside4, begin4, level4, b1, b2, b3, b4, b5, b6⟩ := ih T kl Q r pn p' s M n m (st + 1) kept aside begin level a3 a4 K (by omega) (by omega) (by omega) (by omega) (by omega)
      have a1' : f_Tr_holderOf T (x : Int) = some (pn : Int) := by rw [t_hol h.le hxl, a1]
      refine ⟨T4, kl4, Q4, s4, M4, st4, kept4, aside4, begin4, level4, ?_, ?_, b3, b4, b5, b6⟩
      · rw [f_Ch_takeOutBox_L32, bd1_p hisn, gd_p ⟨by omega, by omega⟩, if_neg (by omega), gd_p ⟨by omega, by omega⟩, J.2.1.2.2.1, gd_p ⟨by omega, by omega⟩, if_neg (by omega), gd_p ⟨by omega, by omega⟩, if_pos (by omega), bd1_p a1', bd1_p z1, bd1_p hleast, gd_p ⟨by omega, by omega⟩, gd_p ⟨by omega, by omega⟩, if_neg hsm, show (st : Int) + 1 = ((st + 1 : Nat) : Int) by omega]
        exact b1
      · rw [f_Mo_remove_L57, gd_p ⟨by omega, by omega⟩, if_pos (by omega), bd1_p a2, bd1_p hent, hs0, gd_p ⟨⟨by omega, by omega⟩, by omega, by omega⟩, gd_p ⟨by omega, by omega⟩, gd_p ⟨by omega, by omega⟩, if_neg hsm]
        exact b2
/-- between two insertions, with loose trees -/
def LW (T : TV) (kl : Nat → List Nat) (Q : List Nat) (r : Nat) (s : Nat → Int) (M : List Nat) : Prop := Ok5 T kl Q r s ∧ Lo T kl Q r M ∧ tSpl T = s 2 ∧ tRec T = s 3
theorem TW.lw {T : TV} {kl : Nat → List Nat} {Q M : List Nat} {r : Nat} {s : Nat → Int} (W : TW T kl Q r s r M) : LW T kl Q r s M ∧ (tLev T r ≤ 0 ∨ 1 ≤ (kl r).length) := by
  obtain ⟨J, hx, h6, hsz, hR3, hB, hS, hbx, hroot, hL, hsp⟩ := W
  have hl := lev0 J.1 hx.1 hx.2.1
  refine ⟨⟨⟨⟨J.jn (fun v hv hv24 hve => ?_), hR3, hB, hS⟩, hsz, hbx⟩, hL, hsp⟩, hroot.imp id (fun q => q.1)⟩
  have hvr : v = r := (h6 v hv hv24 hve).elim id (fun q => q.1)
  refine ⟨hvr, ?_⟩
  rcases hroot with q | q
  · omega
  · rw [hvr] at hve
    rw [hve] at q
    have := q.1
    simp at this
theorem low_go (kC : Int → TV → Option TV) (kR : (Nat → Int) → Option (Nat → Int)) : ∀ (d : Nat) (T : TV) (kl : Nat → List Nat) (Q : List Nat) (r : Nat) (s : Nat → Int) (M : List Nat) (n m st : Nat), LW T kl Q r s M → (tLev T r ≤ 0 ∨ 1 ≤ (kl r).length) → tLev T r = (d : Int) → d < n → d < m → st + d < 1000000 → ∃ (T' : TV) (Q' : List Nat) (r' : Nat) (s' : Nat → Int) (st' : Int), f_Tr_lowerRoot_L2 kC n (st : Int) T = kC st' T' ∧ f_Mo_shrinks_L0 kR m s = kR s' ∧ LW T' kl Q' r' s' M ∧ Rt2 (tLev T') kl r' ∧ (∀ y ∈ M, pr (tLev T') kl y = pr (tLev T) kl y ∧ ∀ v ∈ pr (tLev T) kl y, tLev T' v = tLev T v) ∧ (∀ b, b < 24 → (b ∈ Q' ↔ b ∈ Q)) := by
  intro d
  induction d with
  | zero =>
    intro T kl Q r s M n m st W hroot hd hn hm hst
    obtain ⟨n, rfl⟩ : ∃ q, n = q + 1 := ⟨n - 1, by omega⟩
    obtain ⟨m, rfl⟩ : ∃ q, m = q + 1 := ⟨m - 1, by omega⟩
    have J := W.1.1.1
    have h := J.1
    have hr := J.2.1.1
    have hrl := h.lt hr
    refine ⟨T, Q, r, s, (st : Int), ?_, ?_, W, Or.inl (by omega), fun y _ => ⟨rfl, fun _ _ => rfl⟩, fun _ _ => Iff.rfl⟩
    · rw [f_Tr_lowerRoot_L2, J.2.1.2.2.1, bd1_p (t_lev h.le hrl), hd, gd_p ⟨by omega, by omega⟩, if_neg (by omega)]
    · have hP := J.2.2.1.2.1
      have hrow0 : (pr (tLev T) kl r)[0]? = some r := by rw [pr_eq (Lk_at h.lk hr)]; rfl
      have hat0 := row_at J.2.2.1 hrow0
      have hsr : sg (tLev T) r = -1 := by unfold sg; rw [if_neg (by have := J.2.1.2.1; omega)]; omega
      rw [hsr] at hat0
      have hat0 : f_Mo_at s 0 = some (-1) := hat0
      rw [f_Mo_shrinks_L0]
      unfold f_Mo_length
      rw [bd1_p rfl, J.2.2.1.1, gd_p ⟨by omega, by omega⟩]
      by_cases h1 : 1 < (((pr (tLev T) kl r).length : Nat) : Int)
      · rw [if_pos h1, bd1_p hat0, gd_p ⟨by omega, by omega⟩, if_neg (by omega)]
      · rw [if_neg h1]
  | succ d ih =>
    intro T kl Q r s M n m st W hroot hd hn hm hst
    obtain ⟨n, rfl⟩ : ∃ q, n = q + 1 := ⟨n - 1, by omega⟩
    obtain ⟨m, rfl⟩ : ∃ q, m = q + 1 := ⟨m - 1, by omega⟩
    have O := W.1.1
    have J := O.1
    have h := J.1
    have hlk := h.lk
    have hr := J.2.1.1
    have hhr := J.2.1.2.2.2
    have hrl := h.lt hr
    have hR := h.1.2
    have h6 := h.siz hr
    have hL := W.2.1
    have hB := O.2.2.1
    have hlr := hB.rl
    have hP := J.2.2.1.2.1
    have hrow0 : (pr (tLev T) kl r)[0]? = some r := by rw [pr_eq (Lk_at hlk hr)]; rfl
    have hsr : sg (tLev T) r = -1 - tLev T r := by unfold sg; rw [if_neg (by have := J.2.1.2.1; omega)]
    have hat0 : f_Mo_at s 0 = some (sg (tLev T) r) := row_at J.2.2.1 hrow0
    have hent : f_Mo_entriesOf s 0 = some ((kl r).length : Int) := entries_at (i := 0) (B := []) J.2.2.1 hlk hr (by simp) stops_nil
    have hlen1 : 1 < (pr (tLev T) kl r).length := by
      have h1 := hroot.resolve_left (by omega)
      have h2 := prs_len hlk (kl r) (fun y hy => (h.kid hr hy).1)
      rw [pr_eq (Lk_at hlk hr)]
      simp
      omega
    have hz : f_Tr_sizeOf T (r : Int) = some ((kl r).length : Int) := by rw [t_siz h.le hrl, h6.1]
    by_cases hone : (kl r).length = 1
    · obtain ⟨y, hky⟩ := List.length_eq_one_iff.mp hone
      have hyk := h.kid hr (y := y) (by rw [hky]; simp)
      have hyl := h.lt hyk.1
      have hyr : y ≠ r := fun q => by subst q; omega
      have hy24 : 24 ≤ y := by
        rcases Nat.lt_or_ge y 24 with q | q
        · have := (h.lev24 hyk.1).mp q
          omega
        · exact q
      have hm' : ∀ v, v ∈ Q.erase r ↔ v ∈ Q ∧ v ≠ r := fun v => by rw [h.2.1.mem_erase_iff]; exact And.comm
      have hprr : pr (tLev T) kl r = r :: pr (tLev T) kl y := by rw [pr_eq (Lk_at hlk hr), hky, prs_cons, prs_nil, List.append_nil]
      generalize hT' : sRoot (sHol (tk T r (-2)) (up (tHol (tk T r (-2))) y (-1))) (y : Int) = T'
      have hlv : ∀ v, v ≠ r → tLev T' v = tLev T v := fun v hv => by rw [← hT']; exact up_o hv
      have hhol : ∀ v ∈ Q.erase r, tHol T' v = if v = y then -1 else tHol T v := fun v hv => by
        rw [← hT']
        show up (up (tHol T) r (-1)) y (-1) v = _
        by_cases hvy : v = y
        · subst hvy
          rw [up_s, if_pos rfl]
        · rw [up_o hvy, up_o ((hm' v).mp hv).2, if_neg hvy]
      have hry : r ∉ pr (tLev T) kl y := fun q => by
        have := (pr_in hlk y hyk.1 r q).2.1
        omega
      have hpr' : ∀ t ∈ Q, r ∉ pr (tLev T) kl t → pr (tLev T') kl t = pr (tLev T) kl t := fun t ht hn => pr_same hlk t ht (fun z hz => ⟨rfl, hlv z (fun q => hn (q ▸ hz))⟩)
      have hpry := hpr' y hyk.1 hry
      have hMr : ∀ y2 ∈ M, r ∉ pr (tLev T) kl y2 := fun y2 hy2 q => hL.out h hr hhr hy2 q (pr_self (Lk_at hlk hr))
      have A' : Ar T' kl (Q.erase r) := by
        refine h.cull (N := [r]) (h.2.1.erase r) (fun v => by rw [hm']; simp) (by rw [← hT']; rfl) (fun z hz => by rw [← hT']; exact h.2.2.2.1 z hz) (by rw [← hT']; rfl) (fun v hv => hlv v (fun q => hv (by simp [q]))) (fun v hv => by rw [List.mem_singleton.mp hv, ← hT']; exact up_s) (fun v hv => by rw [← hT']; exact up_o (fun q => hv (by simp [q]))) (fun v hv => ?_) (fun z hz w hw q => ?_)
        · rw [hhol v hv]
          have hv2 := (hm' v).mp hv
          by_cases hvy : v = y
          · rw [if_pos hvy]
            refine Or.inr ⟨rfl, fun z hz q => ?_⟩
            have hz2 := (hm' z).mp hz
            rw [hvy] at q
            exact hz2.2 (h.one hz2.1 hr q (by rw [hky]; simp))
          · rw [if_neg hvy]
            refine Or.inl ⟨rfl, fun z hz q => ?_⟩
            rw [List.mem_singleton.mp hz] at q
            have := hL.exact h hr hhr hv2.1 q
            rw [hky] at this
            exact hvy (List.mem_singleton.mp this)
        · rw [List.mem_singleton.mp q] at hw
          exact h.loose hhr z ((hm' z).mp hz).1 hw
      have hyQ := (hm' y).mpr ⟨hyk.1, hyr⟩
      have hrw := row_rw J.2.2.1
      rw [hprr, List.map_cons] at hrw
      obtain ⟨s', c1, c2, c3⟩ := cuts_sp (A := []) (M := [sg (tLev T) r]) (B := (pr (tLev T) kl y).map (sg (tLev T))) hrw
      have c1 : f_Mo_cuts s 0 1 = some s' := c1
      have hly : tLev T' y = tLev T r - 1 := by rw [hlv y hyr]; omega
      have J' : Jn T' kl (Q.erase r) y s' := by
        refine ⟨A', ⟨hyQ, hy24, by rw [← hT'], by rw [hhol y hyQ, if_pos rfl]⟩, ?_, fun v hv => ?_, fun b hb hb24 t ht => ?_, fun v hv hv24 hve => ?_⟩
        · rw [hpry]
          refine Row.lev (lv := tLev T) (rw_row c2 (fun v hv => h.oki (pr_in hlk y hyk.1 v hv).1)) (fun v hv => hlv v (fun q => hry (q ▸ hv)))
        · have := J.2.2.2.1 v ((hm' v).mp hv).1
          rw [← hT']
          exact this
        · rw [← hT']
          show s' (5 + (4 * b + t)) = tCor T (4 * b + t)
          rw [c3 _ (by omega) (by omega)]
          exact J.2.2.2.2.1 b ((hm' b).mp hb).1 hb24 t ht
        · have hv2 := (hm' v).mp hv
          exact absurd (J.2.2.2.2.2 v hv2.1 hv24 hve).1 hv2.2
      have W' : LW T' kl (Q.erase r) y s' M := by
        refine ⟨⟨⟨J', ?_, ?_, ?_, ?_, ?_, ?_⟩, fun v hv => W.1.2.1 v ((hm' v).mp hv).1, fun b hb => ?_⟩, ⟨hL.1, fun y2 hy2 => ?_, fun v hv => ?_⟩, ?_, ?_⟩
        · rw [← hT']
          exact O.2.1
        · rw [hly]
          exact hB.lower hr (h.2.1.erase r) hm' (fun v hv => hlv v ((hm' v).mp hv).2) (by omega)
        · rw [← hT']
          exact O.2.2.2.1
        · rw [c3 0 (by omega) (by omega), ← hT']
          exact O.2.2.2.2.1
        · rw [c3 1 (by omega) (by omega), ← hT']
          exact O.2.2.2.2.2.1
        · rw [← hT']
          exact O.2.2.2.2.2.2
        · have := W.1.2.2 b hb
          have hbr : b ≠ r := fun q => by have := J.2.1.2.1; omega
          refine ⟨this.1.same (fun t ht => c3 _ (by omega) (by omega)), ?_⟩
          rw [c3 _ (by omega) (by omega)]
          exact ⟨fun q => (hm' b).mpr ⟨this.2.mp q, hbr⟩, fun q => this.2.mpr ((hm' b).mp q).1⟩
        · have hyM := hL.2.1 y2 hy2
          have hy2r : y2 ≠ r := hyM.2.1
          have hy2Q := (hm' y2).mpr ⟨hyM.1, hy2r⟩
          have hy2y : y2 ≠ y := fun q => by rw [q] at hyM; omega
          exact ⟨hy2Q, hy2y, by rw [hhol y2 hy2Q, if_neg hy2y]; exact hyM.2.2⟩
        · have hv2 := (hm' v).mp hv
          rcases hL.2.2 v hv2.1 with q | ⟨y2, hy2, q⟩
          · rw [hprr] at q
            exact Or.inl (by rw [hpry]; exact (List.mem_cons.mp q).resolve_left hv2.2)
          · exact Or.inr ⟨y2, hy2, by rw [hpr' y2 (hL.2.1 y2 hy2).1 (hMr y2 hy2)]; exact q⟩
        · rw [c3 2 (by omega) (by omega), ← hT']
          exact W.2.2.1
        · rw [c3 3 (by omega) (by omega), ← hT']
          exact W.2.2.2
      obtain ⟨T2, Q2, r2, s2, st2, b1, b2, b3, b4, b5, b6⟩ := ih T' kl (Q.erase r) y s' M n m (st + 1) W' (Or.inr (List.length_pos_iff.mpr (fun q => hyr (J.2.2.2.2.2 y hyk.1 hy24 q).1))) (by omega) (by omega) (by omega) (by omega)
      refine ⟨T2, Q2, r2, s2, st2, ?_, ?_, b3, b4, fun y2 hy2 => ?_, fun b hb => (b6 b hb).trans ⟨fun q => ((hm' b).mp q).1, fun q => (hm' b).mpr ⟨q, fun q2 => by have := J.2.1.2.1; omega⟩⟩⟩
      · have hg : f_Tr_entryAt T (r : Int) 0 = some (y : Int) := h.ent (j := 0) hr (by rw [hky]; rfl)
        rw [f_Tr_lowerRoot_L2, J.2.1.2.2.1, bd1_p (t_lev h.le hrl), gd_p ⟨by omega, by omega⟩, if_pos (by omega), bd1_p hz, gd_p ⟨by omega, by omega⟩, if_pos (by omega), gd_p ⟨by omega, by omega⟩, if_pos (by omega), bd1_p hg]
        unfold f_Tr_release f_Tr_setLoose
        rw [bd1_p (by rw [bd1_p (take_sp h.le hrl)]), bd1_p (by rw [bd1_p (put_sp (n := tR (tk T r (-2))) (f := tHol (tk T r (-2))) (by show tR T ≤ _; omega) hyl)]), hT', show (st : Int) + 1 = ((st + 1 : Nat) : Int) by omega]
        exact b1
      · rw [f_Mo_shrinks_L0]
        unfold f_Mo_length
        rw [bd1_p rfl, J.2.2.1.1, gd_p ⟨by omega, by omega⟩, if_pos (by omega), bd1_p hat0, gd_p ⟨by omega, by omega⟩, if_pos (by omega), bd1_p hent, gd_p ⟨by omega, by omega⟩, if_pos (by omega), bd1_p c1]
        exact b2
      · have e1 := hpr' y2 (hL.2.1 y2 hy2).1 (hMr y2 hy2)
        have := b5 y2 hy2
        rw [e1] at this
        exact ⟨this.1, fun v hv => by rw [this.2 v hv, hlv v (fun q => hMr y2 hy2 (q ▸ hv))]⟩
    · have h2 : 2 ≤ (kl r).length := by
        have := hroot.resolve_left (by omega)
        omega
      refine ⟨T, Q, r, s, (st : Int), ?_, ?_, W, Or.inr h2, fun y _ => ⟨rfl, fun _ _ => rfl⟩, fun _ _ => Iff.rfl⟩
      · rw [f_Tr_lowerRoot_L2, J.2.1.2.2.1, bd1_p (t_lev h.le hrl), gd_p ⟨by omega, by omega⟩, if_pos (by omega), bd1_p hz, gd_p ⟨by omega, by omega⟩, if_neg (by omega)]
      · rw [f_Mo_shrinks_L0]
        unfold f_Mo_length
        rw [bd1_p rfl, J.2.2.1.1, gd_p ⟨by omega, by omega⟩, if_pos (by omega), bd1_p hat0, gd_p ⟨by omega, by omega⟩, if_pos (by omega), bd1_p hent, gd_p ⟨by omega, by omega⟩, if_neg (by omega)]
theorem low_sp {T : TV} {kl : Nat → List Nat} {Q M : List Nat} {r : Nat} {s : Nat → Int} (W : LW T kl Q r s M) (hroot : tLev T r ≤ 0 ∨ 1 ≤ (kl r).length) : ∃ (T' : TV) (Q' : List Nat) (r' : Nat) (s' : Nat → Int), f_Tr_lowerRoot T = some T' ∧ f_Mo_shrinks s = some s' ∧ LW T' kl Q' r' s' M ∧ Rt2 (tLev T') kl r' ∧ (∀ y ∈ M, pr (tLev T') kl y = pr (tLev T) kl y ∧ ∀ v ∈ pr (tLev T) kl y, tLev T' v = tLev T v) ∧ (∀ b, b < 24 → (b ∈ Q' ↔ b ∈ Q)) := by
  have hlr := W.1.1.2.2.1.rl
  obtain ⟨T', Q', r', s', st', b1, b2, b3, b4, b5, b6⟩ := low_go (fun x1_22 T_23 => bd1 (f_Tr_levelOf T_23 (tRoot T_23)) <| fun r_24 => gd (ck r_24) <| if 0 < r_24 then (bd1 (f_Tr_sizeOf T_23 (tRoot T_23)) <| fun r_29 => gd (ck r_29) <| if r_29 = 0 then (bd1 (f_Rt_put (tR T_23) (tLev T_23) (tRoot T_23) 0) <| fun T_34 => some ((sLev T_23 T_34))) else (some (T_23))) else (some (T_23))) (fun c_s_19 => bd1 (f_Mo_length c_s_19) <| fun r_20 => gd (ck r_20) <| if r_20 = 1 then (some ((up c_s_19 (101) (-1)))) else (some (c_s_19))) (tLev T r).toNat T kl Q r s M FU FU 0 W hroot (by omega) (by unfold FU; omega) (by unfold FU; omega) (by omega)
  have J := b3.1.1.1
  have h := J.1
  have hr := J.2.1.1
  have hrl := h.lt hr
  have hB := b3.1.1.2.2.1
  have hlr' := hB.rl
  refine ⟨T', Q', r', s', ?_, ?_, b3, b4, b5, b6⟩
  · unfold f_Tr_lowerRoot
    refine Eq.trans b1 ?_
    rw [J.2.1.2.2.1, bd1_p (t_lev h.le hrl), gd_p ⟨by omega, by omega⟩]
    by_cases h1 : 0 < tLev T' r'
    · have h2 := b4.resolve_left (by omega)
      have h6 := h.siz hr
      rw [if_pos h1, bd1_p (t_siz h.le hrl), h6.1, gd_p ⟨by omega, by omega⟩, if_neg (by omega)]
    · rw [if_neg h1]
  · unfold f_Mo_shrinks
    refine Eq.trans b2 ?_
    have hP := J.2.2.1.2.1
    unfold f_Mo_length
    rw [bd1_p rfl, J.2.2.1.1, gd_p ⟨by omega, by omega⟩]
    by_cases h1 : (((pr (tLev T') kl r').length : Nat) : Int) = 1
    · rw [if_pos h1]
      have hkr : kl r' = [] := by
        have h2 := prs_len h.lk (kl r') (fun y hy => (h.kid hr hy).1)
        rw [pr_eq (Lk_at h.lk hr)] at h1
        simp only [List.length_cons] at h1
        exact List.length_eq_zero_iff.mp (by omega)
      have hl0 := (J.2.2.2.2.2 r' hr J.2.1.2.1 hkr).2
      have hs : s' 101 = -1 := by
        have := J.2.2.1.2.2.1 0 r' (by rw [pr_eq (Lk_at h.lk hr)]; rfl)
        have hsr : sg (tLev T') r' = -1 := by unfold sg; rw [if_neg (by have := J.2.1.2.1; omega)]; omega
        rw [hsr] at this
        exact this
      congr 1
      funext q
      by_cases hq : q = 101
      · rw [hq, up_s, hs]
      · rw [up_o hq]
    · rw [if_neg h1]
