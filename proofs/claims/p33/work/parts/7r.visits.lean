/-! the nodes that a search visits, the areas and the overlaps of a level -/
theorem mt_up {T : TV} {K : KV} {kl : Nat → List Nat} {Q : List Nat} {r : Nat} {s : Nat → Int} {a b p q : Int} (O : Nm T K kl Q r s) {z w : Nat} (hz : z ∈ Q) (hw : w ∈ kl z) (h : mt (tCor T) w a b p q) : mt (tCor T) z a b p q := by
  obtain ⟨J, hA, hr, hrow, hR⟩ := O.parts
  have hne : kl z ≠ [] := List.ne_nil_of_mem hw
  have hc := J.2.2.2.1 z hz (hA.node hz hw) hne
  have c0 := hc 0 (by omega)
  have d0 := (cu_at (c := tCor T) (t := 0) hw).1 (by omega)
  have d1 := (cu_at (c := tCor T) (t := 1) hw).1 (by omega)
  have d2 := (cu_at (c := tCor T) (t := 2) hw).2 (by omega)
  have d3 := (cu_at (c := tCor T) (t := 3) hw).2 (by omega)
  rw [← c0, show 4 * z + 0 = 4 * z from rfl, show 4 * w + 0 = 4 * w from rfl] at d0
  rw [← hc 1 (by omega)] at d1
  rw [← hc 2 (by omega)] at d2
  rw [← hc 3 (by omega)] at d3
  obtain ⟨h1, h2, h3, h4⟩ := h
  exact ⟨by omega, by omega, by omega, by omega⟩
/-- the place of a node, told from what lies before it -/
theorem here_at {T : TV} {K : KV} {kl : Nat → List Nat} {Q : List Nat} {r : Nat} {s : Nat → Int} (O : Nm T K kl Q r s) {A S : List Nat} {w : Nat} (e : pr (tLev T) kl r = A ++ w :: S) : w ∈ Q ∧ w ∈ pr (tLev T) kl r ∧ ∃ B, pr (tLev T) kl r = A ++ (pr (tLev T) kl w ++ B) ∧ stops (tLev T) (tLev T w) B := by
  obtain ⟨J, h, hr, hrow, hR⟩ := O.parts
  have hnd := pr_nodup h r hr
  have hwp : w ∈ pr (tLev T) kl r := by rw [e]; simp
  have hwQ := (pr_in h.lk r hr w hwp).1
  obtain ⟨A2, B2, c1, c2, -, -⟩ := ctx h.lk w r hr hwp
  have c1' := c1
  rw [pr_eq (Lk_at h.lk hwQ), List.cons_append] at c1'
  have hAA : A = A2 := split_uniq (e.symm.trans c1') (e ▸ hnd)
  subst hAA
  have hst := c2 [] stops_nil
  rw [List.append_nil] at hst
  exact ⟨hwQ, hwp, B2, c1, hst⟩
theorem full_ne {T : TV} {K : KV} {kl : Nat → List Nat} {Q : List Nat} {r : Nat} {s : Nat → Int} (O : Nm T K kl Q r s) (h1 : 1 < (pr (tLev T) kl r).length) {w : Nat} (hw : w ∈ Q) (h24 : 24 ≤ w) : kl w ≠ [] := fun hk => by
  obtain ⟨J, h, hr, hrow, hR⟩ := O.parts
  have := (J.2.2.2.2.2 w hw h24 hk).1
  subst this
  rw [pr_eq (Lk_at h.lk hw), hk] at h1
  exact absurd h1 (by rw [prs_nil]; simp)
def mtb (T : TV) (a b p q : Int) (y : Nat) : Bool := decide (mt (tCor T) y a b p q)
theorem vsc_go {T : TV} {K : KV} {kl : Nat → List Nat} {Q : List Nat} {r : Nat} {s : Nat → Int} {a b p q : Int} (O : Nm T K kl Q r s) (hw : wi a b p q) (k : Int → Int → Option Int) : ∀ (V U : List Nat) (n : Nat) (x : Int), fl 1 (pr (tLev T) kl r) = U ++ V → V.length < n → f_Rt_visits_L20 T K a b p q k n x (U.length : Int) = k (x + (V.countP (mtb T a b p q) : Nat)) ((fl 1 (pr (tLev T) kl r)).length : Int)
  | [], U, n + 1, x, e, hn => by
    obtain ⟨J, h, hr, hrow, hR⟩ := O.parts
    have hl := hrow.2.1
    have hfl := fl_len (pr (tLev T) kl r)
    have hc := O.2.1.1
    have hle := congrArg List.length e
    rw [List.append_nil] at hle
    rw [f_Rt_visits_L20, hc, gd_p ⟨by omega, by omega⟩, gd_p ⟨by omega, by omega⟩, if_neg (by omega), List.countP_nil, hle]
    exact congrArg (fun z => k z (U.length : Int)) (show x = x + ((0 : Nat) : Int) by omega)
  | y :: V, U, n + 1, x, e, hn => by
    obtain ⟨J, h, hr, hrow, hR⟩ := O.parts
    have hl := hrow.2.1
    have hfl := fl_len (pr (tLev T) kl r)
    have hc := O.2.1.1
    have hle := congrArg List.length e
    rw [List.length_append, List.length_cons] at hle
    rw [List.length_cons] at hn
    have hx : (fl 1 (pr (tLev T) kl r))[U.length]? = some y := by rw [e, List.getElem?_append_right (Nat.le_refl _), Nat.sub_self]; rfl
    have hyQ := (pr_in h.lk r hr y (fl_mem.mp (List.mem_of_getElem? hx)).1).1
    have hK8 := O.2.2.2.le
    have hKl := O.2.2.1
    have hnode : f_Rt_nodeAt K (U.length : Int) = some (y : Int) := by
      unfold f_Rt_nodeAt
      rw [bd1_p (at_sp (by omega) (by omega)), O.2.1.2 _ _ hx]
    have e2 : fl 1 (pr (tLev T) kl r) = (U ++ [y]) ++ V := by rw [e]; simp
    have hl1 : (U.length : Int) + 1 = ((U ++ [y]).length : Int) := by rw [List.length_append]; rfl
    rw [f_Rt_visits_L20, hc, gd_p ⟨by omega, by omega⟩, gd_p ⟨by omega, by omega⟩, if_pos (by omega), bd1_p hnode, bd1_p (t_meets hR (h.lt hyQ) (h.rgx hyQ) hw), hl1, List.countP_cons]
    by_cases hm : mt (tCor T) y a b p q
    · have hb : mtb T a b p q y = true := decide_eq_true hm
      rw [if_pos hm, gd_p ck_1, if_neg (by omega), if_pos hb, vsc_go O hw k V (U ++ [y]) n (x + 1) e2 (by omega)]
      exact congrArg (fun z => k z ((fl 1 (pr (tLev T) kl r)).length : Int)) (by omega)
    · have hb : ¬ mtb T a b p q y = true := fun z => hm (of_decide_eq_true z)
      rw [if_neg hm, gd_p ck_0, if_pos rfl, if_neg hb, vsc_go O hw k V (U ++ [y]) n x e2 (by omega)]
      exact congrArg (fun z => k z ((fl 1 (pr (tLev T) kl r)).length : Int)) (by omega)
def Vis (T : TV) (r : Nat) (a b p q : Int) (A : List Nat) (vis : Nat → Int) : Prop := ∀ (j y : Nat), A[j]? = some y → vis j = if y = r ∨ (24 ≤ y ∧ mt (tCor T) y a b p q) then 1 else 0
theorem Vis.snoc {T : TV} {r : Nat} {a b p q : Int} {A : List Nat} {vis : Nat → Int} (h : Vis T r a b p q A vis) {y : Nat} {v : Int} (hv : v = if y = r ∨ (24 ≤ y ∧ mt (tCor T) y a b p q) then 1 else 0) : Vis T r a b p q (A ++ [y]) (up vis A.length v) := fun j z hz => by
  by_cases hj : j < A.length
  · rw [List.getElem?_append_left hj] at hz
    rw [up_o (by omega)]
    exact h j z hz
  · rw [List.getElem?_append_right (by omega)] at hz
    have h1 := (List.getElem?_eq_some_iff.mp hz).1
    rw [List.length_singleton] at h1
    have hj2 : j = A.length := by omega
    subst hj2
    rw [Nat.sub_self] at hz
    have hyz : y = z := Option.some.inj hz
    rw [up_s, ← hyz]
    exact hv
theorem vsm_step {T : TV} {K : KV} {kl : Nat → List Nat} {Q : List Nat} {r : Nat} {s c vis : Nat → Int} {a b p q x : Int} {A S : List Nat} {y n : Nat} (O : Nm T K kl Q r s) (hw : wi a b p q) (k : Int → Int → (Nat → Int) → (Nat → Int) → Option (Int × (Nat → Int) × (Nat → Int))) (e : pr (tLev T) kl r = A ++ y :: S) (hA : A ≠ []) (hc : wn c a b p q) (hv : Vis T r a b p q A vis) : ∃ c' vis', f_Mo_visits_L29 s k (n + 1) x (A.length : Int) c vis = f_Mo_visits_L29 s k n (x + (if 24 ≤ y ∧ mt (tCor T) y a b p q then 1 else 0)) ((A ++ [y]).length : Int) c' vis' ∧ wn c' a b p q ∧ Vis T r a b p q (A ++ [y]) vis' := by
  obtain ⟨J, h, hr, hrow, hR⟩ := O.parts
  have hl := hrow.2.1
  have h0 := hrow.1
  have hnd := pr_nodup h r hr
  have hAl : 0 < A.length := List.length_pos_iff.mpr hA
  have hlen := congrArg List.length e
  rw [List.length_append, List.length_cons] at hlen
  have hx : (pr (tLev T) kl r)[A.length]? = some y := by rw [e, List.getElem?_append_right (Nat.le_refl _), Nat.sub_self]; rfl
  obtain ⟨hyQ, hyp, B, e3, hst⟩ := here_at O e
  have hok := h.oki hyQ
  have hr0 : (pr (tLev T) kl r)[0]? = some r := by rw [pr_eq (Lk_at h.lk hr)]; rfl
  have hyr : y ≠ r := fun z => by
    subst z
    have h2 : A[0]? = some y := by
      rw [e, List.getElem?_append_left hAl] at hr0
      exact hr0
    rw [e] at hnd
    exact (List.nodup_append.mp hnd).2.2 y (List.mem_of_getElem? h2) y List.mem_cons_self rfl
  have hl1 : (A.length : Int) + 1 = ((A ++ [y]).length : Int) := by rw [List.length_append]; rfl
  have hnat : ((A.length : Int)).toNat = A.length := by omega
  have key0 : ∀ (c' : Nat → Int) (X : Option (Int × (Nat → Int) × (Nat → Int))), (gd (0 ≤ (A.length : Int) ∧ (A.length : Int) < ((360 : Nat) : Int)) <| gd (ck ((up vis ((A.length : Int)).toNat 0) ((A.length : Int)).toNat)) <| if ((up vis ((A.length : Int)).toNat 0) ((A.length : Int)).toNat) = 0 then (f_Mo_visits_L29 s k n (x + 0) ((A.length : Int) + 1) c' ((up vis ((A.length : Int)).toNat 0))) else X) = f_Mo_visits_L29 s k n (x + 0) ((A ++ [y]).length : Int) c' (up vis A.length 0) := fun c' X => by
    rw [gd_p ⟨by omega, by omega⟩, hnat, up_s, gd_p ck_0, if_pos rfl, hl1]
  have key1 : ∀ (c' : Nat → Int) (X : Option (Int × (Nat → Int) × (Nat → Int))), (gd (0 ≤ (A.length : Int) ∧ (A.length : Int) < ((360 : Nat) : Int)) <| gd (ck ((up vis ((A.length : Int)).toNat 1) ((A.length : Int)).toNat)) <| if ((up vis ((A.length : Int)).toNat 1) ((A.length : Int)).toNat) = 0 then X else (f_Mo_visits_L29 s k n (x + 1) ((A.length : Int) + 1) c' ((up vis ((A.length : Int)).toNat 1)))) = f_Mo_visits_L29 s k n (x + 1) ((A ++ [y]).length : Int) c' (up vis A.length 1) := fun c' X => by
    rw [gd_p ⟨by omega, by omega⟩, hnat, up_s, gd_p ck_1, if_neg (by omega), hl1]
  rw [f_Mo_visits_L29]
  unfold f_Mo_length
  rw [bd1_p rfl, h0, gd_p ⟨by omega, by omega⟩, gd_p ⟨by omega, by omega⟩, if_pos (by omega), bd1_p (row_at hrow hx), gd_p (okI_ck hok).1]
  by_cases h24 : 24 ≤ y
  · rw [if_pos ((okI_ck hok).2.2.mpr h24), if_neg (by omega)]
    have hat : At T kl r y A.length := ⟨B, num_drop e3, hst⟩
    obtain ⟨pn, p', q1, q2, q3, q4, q5, q6⟩ := above_sp h hr hrow hyQ hyr hyp hat
    obtain ⟨A3, B3, c3, -, -, -⟩ := ctx h.lk pn r hr q2
    have hp3 := (at_place h hr q1 q5 c3).1
    have c4 := c3
    rw [pr_eq (Lk_at h.lk q1), List.cons_append] at c4
    have hyrest : y ∈ prs (tLev T) kl (kl pn) ++ B3 := List.mem_append_left _ (mem_prs.mpr ⟨y, q3, pr_self (Lk_at h.lk hyQ)⟩)
    have hpn : pn ≠ y := fun z => by
      rw [c4] at hnd
      exact (List.nodup_cons.mp (List.nodup_append.mp hnd).2.1).1 (z ▸ hyrest)
    have hlt : p' < A.length := by
      rcases Nat.lt_or_ge p' A.length with z | z
      · exact z
      · exfalso
        rw [c4] at hx
        by_cases hz : p' = A.length
        · rw [← hz, hp3, List.getElem?_append_right (Nat.le_refl _), Nat.sub_self] at hx
          exact hpn (Option.some.inj hx)
        · rw [List.getElem?_append_left (by omega)] at hx
          rw [c4] at hnd
          exact (List.nodup_append.mp hnd).2.2 y (List.mem_of_getElem? hx) y (List.mem_cons_of_mem _ hyrest) rfl
    have hpA : A[p']? = some pn := by
      have h2 : (pr (tLev T) kl r)[p']? = some pn := by
        rw [c4, hp3, List.getElem?_append_right (Nat.le_refl _), Nat.sub_self]
        rfl
      rw [e, List.getElem?_append_left hlt] at h2
      exact h2
    have hvp := hv p' pn hpA
    have hpn24 := h.node q1 q3
    have hcv : ck (vis p') := by rw [hvp]; split <;> exact ⟨by omega, by omega⟩
    rw [bd1_p q4, gd_p ⟨by omega, by omega⟩, show ((p' : Int)).toNat = p' by omega, gd_p hcv]
    by_cases hvz : vis p' = 0
    · have hnm : ¬ mt (tCor T) y a b p q := fun z => by
        have h3 := mt_up O q1 q3 z
        rw [if_pos (Or.inr ⟨hpn24, h3⟩)] at hvp
        omega
      refine ⟨c, up vis A.length 0, ?_, hc, hv.snoc (by rw [if_neg (fun z => z.elim hyr (fun z => hnm z.2))])⟩
      rw [if_pos hvz, if_neg (show ¬ (24 ≤ y ∧ mt (tCor T) y a b p q) from fun z => hnm z.2)]
      exact key0 c _
    · rw [if_neg hvz]
      have h1p : 1 < (pr (tLev T) kl r).length := by omega
      obtain ⟨c2, m1, m2⟩ := m_meets (c := c) O e3 hst hyQ (fun _ => full_ne O h1p hyQ h24) hc hw
      rw [bd2_p m1]
      by_cases hm : mt (tCor T) y a b p q
      · refine ⟨c2, up vis A.length 1, ?_, m2, hv.snoc (by rw [if_pos (Or.inr ⟨h24, hm⟩)])⟩
        rw [if_pos hm, gd_p ck_1, if_neg (show ¬ (1 : Int) = 0 by omega), if_pos (show 24 ≤ y ∧ mt (tCor T) y a b p q from ⟨h24, hm⟩)]
        exact key1 c2 _
      · refine ⟨c2, up vis A.length 0, ?_, m2, hv.snoc (by rw [if_neg (fun z => z.elim hyr (fun z => hm z.2))])⟩
        rw [if_neg hm, gd_p ck_0, if_pos (show (0 : Int) = 0 from rfl), if_neg (show ¬ (24 ≤ y ∧ mt (tCor T) y a b p q) from fun z => hm z.2)]
        exact key0 c2 _
  · refine ⟨c, up vis A.length 0, ?_, hc, hv.snoc (by rw [if_neg (fun z => z.elim hyr (fun z => h24 z.1))])⟩
    rw [if_neg (fun z => h24 ((okI_ck hok).2.2.mp z)), if_neg (show ¬ (24 ≤ y ∧ mt (tCor T) y a b p q) from fun z => h24 z.1)]
    exact key0 c _
theorem vsm_go {T : TV} {K : KV} {kl : Nat → List Nat} {Q : List Nat} {r : Nat} {s : Nat → Int} {a b p q : Int} (O : Nm T K kl Q r s) (hw : wi a b p q) : ∀ (S A : List Nat) (n : Nat) (x : Int) (c vis : Nat → Int), pr (tLev T) kl r = A ++ S → S.length < n → A ≠ [] → wn c a b p q → Vis T r a b p q A vis → ∃ c' vis', f_Mo_visits_L29 s (fun x5_48 x6_49 c_rect_50 c_visited_51 => some (x5_48, c_rect_50, c_visited_51)) n x (A.length : Int) c vis = some (x + ((fl 1 S).countP (mtb T a b p q) : Nat), c', vis')
  | [], A, n + 1, x, c, vis, e, hn, hA, hc, hv => by
    obtain ⟨J, h, hr, hrow, hR⟩ := O.parts
    have hl := hrow.2.1
    have h0 := hrow.1
    have hle := congrArg List.length e
    rw [List.append_nil] at hle
    refine ⟨c, vis, ?_⟩
    rw [f_Mo_visits_L29]
    unfold f_Mo_length
    rw [bd1_p rfl, h0, gd_p ⟨by omega, by omega⟩, gd_p ⟨by omega, by omega⟩, if_neg (by omega)]
    exact congrArg (fun z => some (z, c, vis)) (show x = x + ((0 : Nat) : Int) by omega)
  | y :: S, A, n + 1, x, c, vis, e, hn, hA, hc, hv => by
    rw [List.length_cons] at hn
    obtain ⟨c2, vis2, s1, s2, s3⟩ := vsm_step (x := x) (n := n) O hw (fun x5_48 x6_49 c_rect_50 c_visited_51 => some (x5_48, c_rect_50, c_visited_51)) e hA hc hv
    obtain ⟨c3, vis3, t1⟩ := vsm_go O hw S (A ++ [y]) n (x + (if 24 ≤ y ∧ mt (tCor T) y a b p q then 1 else 0)) c2 vis2 (by rw [e]; simp) (by omega) (by simp) s2 s3
    refine ⟨c3, vis3, s1.trans (t1.trans ?_)⟩
    refine congrArg (fun z => some (z, c3, vis3)) ?_
    rw [fl_cons]
    by_cases h24 : 24 ≤ y
    · rw [if_pos h24, List.countP_cons]
      by_cases hm : mt (tCor T) y a b p q
      · rw [if_pos ⟨h24, hm⟩, if_pos (show mtb T a b p q y = true from decide_eq_true hm)]
        omega
      · rw [if_neg (show ¬ (24 ≤ y ∧ mt (tCor T) y a b p q) from fun z => hm z.2), if_neg (show ¬ mtb T a b p q y = true from fun z => hm (of_decide_eq_true z))]
        omega
    · rw [if_neg h24, if_neg (fun z => h24 z.1)]
      omega
theorem q_visits {T : TV} {K : KV} {kl : Nat → List Nat} {Q : List Nat} {r : Nat} {s c vis : Nat → Int} {a b p q : Int} (O : Nm T K kl Q r s) (g1 : ck a) (g2 : ck b) (g3 : ck p) (g4 : ck q) : ∃ (r_1 : Int) (c' vis' : Nat → Int), f_Rt_visits T K a b p q = some r_1 ∧ f_Mo_visits s c vis a b p q = some (r_1, c', vis') := by
  obtain ⟨J, h, hr, hrow, hR⟩ := O.parts
  have hl := hrow.2.1
  have h0 := hrow.1
  unfold f_Rt_visits f_Mo_visits
  rw [isrect_c g1 g2 g3 g4, isrect_m g1 g2 g3 g4]
  by_cases hw : (0 ≤ a ∧ a ≤ p ∧ p ≤ 99) ∧ (0 ≤ b ∧ b ≤ q ∧ q ≤ 99)
  · obtain ⟨c1, f1, f2⟩ := frames_sp (c := c) (a := a) (b := b) (p := p) (q := q)
    have e : pr (tLev T) kl r = [] ++ r :: prs (tLev T) kl (kl r) := pr_eq (Lk_at h.lk hr)
    have hr24 := J.2.1.2.1
    have hfl : fl 1 (pr (tLev T) kl r) = [r] ++ fl 1 (prs (tLev T) kl (kl r)) := by
      rw [e, List.nil_append, fl_cons, if_pos hr24]
      rfl
    have hlen := congrArg List.length e
    rw [List.nil_append, List.length_cons] at hlen
    have hfl2 := fl_len (prs (tLev T) kl (kl r))
    have hx : (pr (tLev T) kl r)[0]? = some r := by rw [e]; rfl
    have hok := h.oki hr
    obtain ⟨c3, vis3, m1⟩ := vsm_go O hw (prs (tLev T) kl (kl r)) [r] 4095 1 c1 (up vis 0 1) e (by omega) (by simp) f2 (fun j y hj => by
      have h2 := (List.getElem?_eq_some_iff.mp hj).1
      rw [List.length_singleton] at h2
      have h3 : j = 0 := by omega
      subst h3
      have h4 : r = y := Option.some.inj hj
      rw [up_s, if_pos (Or.inl h4.symm)])
    have c1' := vsc_go O hw (fun x5_17 x6_18 => some (x5_17)) (fl 1 (prs (tLev T) kl (kl r))) [r] FU 1 hfl (by unfold FU; omega)
    refine ⟨1 + ((fl 1 (prs (tLev T) kl (kl r))).countP (mtb T a b p q) : Nat), c3, vis3, ?_, ?_⟩
    · rw [if_pos hw, bd1_p rfl, gd_p ck_1, if_neg (by omega)]
      exact c1'
    · rw [if_pos hw, bd1_p rfl, gd_p ck_1, if_neg (by omega), bd1_p f1, show FU = 4095 + 1 from rfl, f_Mo_visits_L29]
      unfold f_Mo_length
      rw [bd1_p rfl, h0, gd_p ck_0, gd_p ⟨by omega, by omega⟩, if_pos (by omega), bd1_p (show f_Mo_at s 0 = _ from row_at (k := 0) hrow hx), gd_p (okI_ck hok).1, if_pos ((okI_ck hok).2.2.mpr hr24), if_pos rfl, gd_p ⟨by omega, by omega⟩]
      refine Eq.trans ?_ m1
      rw [show (0 : Int).toNat = 0 from rfl, up_s, gd_p ck_1, if_neg (by omega)]
      rfl
  · refine ⟨-2, c, vis, ?_, ?_⟩
    · rw [if_neg hw, bd1_p rfl, gd_p ck_0, if_pos rfl]
    · rw [if_neg hw, bd1_p rfl, gd_p ck_0, if_pos rfl]
