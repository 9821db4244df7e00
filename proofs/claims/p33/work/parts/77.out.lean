/-! entries out of lists; items taken and released -/
theorem place_sp {T : TV} {kl : Nat → List Nat} {Q : List Nat} (h : Ar T kl Q) {x y : Nat} (hx : x ∈ Q) {D L : List Nat} (e : kl x = D ++ y :: L) (hD : y ∉ D) : f_Tr_placeOf T (x : Int) (y : Int) = some (D.length : Int) := by
  have h6 := (h.siz hx)
  have hR := h.1.2
  have hlen := congrArg List.length e
  rw [List.length_append, List.length_cons] at hlen
  have hy : y ∈ Q := (h.kid hx (y := y) (by rw [e]; simp)).1
  have hyl := h.lt hy
  have go : ∀ (d j n : Nat), j + d = D.length → d < n → f_Tr_placeOf_L9 T (x : Int) (y : Int) ((kl x).length : Int) (fun _ => some ((-1))) n (j : Int) = some (D.length : Int) := by
    intro d
    induction d with
    | zero =>
      intro j n hj hn
      obtain ⟨m, rfl⟩ : ∃ m, n = m + 1 := ⟨n - 1, by omega⟩
      have hj : j = D.length := by omega
      subst hj
      have hg : (kl x)[D.length]? = some y := by rw [e, List.getElem?_append_right (Nat.le_refl _), Nat.sub_self]; rfl
      rw [f_Tr_placeOf_L9, gd_p ⟨by omega, by omega⟩, gd_p ⟨by omega, by omega⟩, if_pos (by omega), bd1_p (h.ent hx hg), gd_p ⟨by omega, by omega⟩, gd_p ⟨by omega, by omega⟩, if_pos rfl]
    | succ d ih =>
      intro j n hj hn
      obtain ⟨m, rfl⟩ : ∃ m, n = m + 1 := ⟨n - 1, by omega⟩
      have hjl : j < (kl x).length := by omega
      have hg : (kl x)[j]? = some ((kl x)[j]) := by simp
      have hw := h.lt (h.kid hx (List.mem_of_getElem? hg)).1
      have hne : (kl x)[j] ≠ y := fun q => hD (by
        rw [q, e, List.getElem?_append_left (by omega)] at hg
        exact List.mem_of_getElem? hg)
      rw [f_Tr_placeOf_L9, gd_p ⟨by omega, by omega⟩, gd_p ⟨by omega, by omega⟩, if_pos (by omega), bd1_p (h.ent hx hg), gd_p ⟨by omega, by omega⟩, gd_p ⟨by omega, by omega⟩, if_neg (by omega), show (j : Int) + 1 = ((j + 1 : Nat) : Int) by omega]
      exact ih (j + 1) m (by omega) (by omega)
  unfold f_Tr_placeOf
  rw [bd1_p (t_siz h.le (h.lt hx)), h6.1]
  exact go D.length 0 FU (by omega) (by unfold FU; omega)
theorem shift_dn {T : TV} {x m : Nat} (hR : tR T ≤ 8192) (hx : x < tR T) (hm : m < 6) (k : Int → TV → Option TV) : ∀ (d p n : Nat) (f : Nat → Int), p + d = m → d < n → ∃ g, f_Tr_takeOut_L37 ((x : Int) * 6) (m : Int) k n (p : Int) (sLis T f) = k (m : Int) (sLis T g) ∧ (∀ j, p ≤ j → j < m → g (6 * x + j) = f (6 * x + (j + 1))) ∧ ∀ q, (q < 6 * x + p ∨ 6 * x + m ≤ q) → g q = f q
  | 0, p, n + 1, f, hp, hn => by
    have hp : p = m := by omega
    subst hp
    refine ⟨f, ?_, fun j h1 h2 => absurd h1 (by omega), fun _ _ => rfl⟩
    rw [f_Tr_takeOut_L37, gd_p ⟨by omega, by omega⟩, gd_p ⟨by omega, by omega⟩, if_neg (by omega)]
  | d + 1, p, n + 1, f, hp, hn => by
    obtain ⟨g, e1, e2, e3⟩ := shift_dn hR hx hm k d (p + 1) n (up f (6 * x + p) (f (6 * x + (p + 1)))) (by omega) (by omega)
    refine ⟨g, ?_, fun j h1 h2 => ?_, fun q hq => by rw [e3 q (by omega), up_o (by omega)]⟩
    · rw [f_Tr_takeOut_L37, gd_p ⟨by omega, by omega⟩, gd_p ⟨by omega, by omega⟩, if_pos (by omega), show (x : Int) * 6 + (p : Int) + 1 = ((6 * x + (p + 1) : Nat) : Int) by omega, bd1_p (at_sp (n := tR T * 6) (f := f) (by omega) (by omega)), show (x : Int) * 6 + (p : Int) = ((6 * x + p : Nat) : Int) by omega, bd1_p (put_sp (n := tR T * 6) (f := f) (by omega) (by omega)), show (p : Int) + 1 = ((p + 1 : Nat) : Int) by omega]
      exact e1
    · by_cases hj : j = p
      · subst hj
        rw [e3 _ (by omega), up_s]
      · rw [e2 j (by omega) h2, up_o (by omega)]
theorem del_get {j y w : Nat} {D L : List Nat} (h : (D ++ L)[j]? = some w) : (j < D.length ∧ (D ++ y :: L)[j]? = some w) ∨ (D.length ≤ j ∧ (D ++ y :: L)[j + 1]? = some w) := by
  by_cases h1 : j < D.length
  · rw [List.getElem?_append_left h1] at h
    exact Or.inl ⟨h1, by rw [List.getElem?_append_left h1]; exact h⟩
  · rw [List.getElem?_append_right (by omega)] at h
    refine Or.inr ⟨by omega, ?_⟩
    rw [List.getElem?_append_right (by omega), show j + 1 - D.length = (j - D.length) + 1 by omega, List.getElem?_cons_succ]
    exact h
theorem takeOut_sp {T : TV} {kl : Nat → List Nat} {Q : List Nat} {x y : Nat} {D L : List Nat} (h : Ar T kl Q) (hc : ∀ z ∈ Q, z ≠ x → Cr (tCor T) kl z) (hx : x ∈ Q) (e : kl x = D ++ y :: L) : ∃ T', f_Tr_takeOut T (y : Int) = some T' ∧ Ar T' (upL kl x (D ++ L)) Q ∧ (∀ z ∈ Q, Cr (tCor T') (upL kl x (D ++ L)) z) ∧ Sm T T' ∧ tHol T' = up (tHol T) y (-1) ∧ ∀ z t, t < 4 → (z < 24 ∨ tLev T z < tLev T x) → tCor T' (4 * z + t) = tCor T (4 * z + t) := by
  have hR := h.1.2
  have hxl := h.lt hx
  have hyk : y ∈ kl x := by rw [e]; simp
  have h24 := h.node hx hyk
  have hyq := h.kid hx hyk
  have hyl := h.lt hyq.1
  have hs := h.siz hx
  have hnd := (h.2.2.2.2 x hx).2.2.1.2.2
  have hlen := congrArg List.length e
  rw [List.length_append, List.length_cons] at hlen
  rw [e] at hnd
  have hnd2 := List.nodup_append.mp hnd
  have hD : y ∉ D := fun q => (hnd2.2.2 y q y (by simp)) rfl
  have hL : y ∉ L := (List.nodup_cons.mp hnd2.2.1).1
  have hDL : y ∉ D ++ L := fun q => (List.mem_append.mp q).elim hD hL
  obtain ⟨g, e1, e2, e3⟩ := shift_dn (x := x) (m := (kl x).length - 1) h.le hxl (by omega) (fun x6_21 T_22 => bd1 (f_Rt_put (tR T_22) (tSiz T_22) (x : Int) (((kl x).length : Int) - 1)) <| fun T_23 => bd1 (f_Rt_put (tR T_22) (tHol T_22) (y : Int) (-1)) <| fun T_26 => bd1 (f_Tr_refreshUp (sSiz (sHol T_22 T_26) T_23) (x : Int)) <| fun T_29 => some (T_29)) ((kl x).length - 1 - D.length) D.length FU (tLis T) (by omega) (by unfold FU; omega)
  have hA : Ar (sLis (sSiz (sHol T (up (tHol T) y (-1))) (up (tSiz T) x (((kl x).length : Int) - 1))) g) (upL kl x (D ++ L)) Q := by
    refine ⟨h.1, h.2.1, h.2.2.1, h.2.2.2.1, fun z hz => ?_⟩
    have hi := h.2.2.2.2 z hz
    refine ⟨hi.1, fun q => ?_, ?_, fun j w hj => ?_, fun w hw => ?_, ?_⟩
    · rw [upL_o (by omega)]; exact hi.2.1 q
    · by_cases hzx : z = x
      · subst hzx
        rw [upL_s, List.length_append]
        refine ⟨?_, by omega, ?_⟩
        · show up _ _ _ _ = _
          rw [up_s]
          omega
        · exact List.nodup_append.mpr ⟨hnd2.1, (List.nodup_cons.mp hnd2.2.1).2, fun a ha b hb => hnd2.2.2 a ha b (List.mem_cons_of_mem _ hb)⟩
      · rw [upL_o hzx]
        exact ⟨by show up _ _ _ _ = _; rw [up_o hzx]; exact hi.2.2.1.1, hi.2.2.1.2⟩
    · show g (6 * z + j) = _
      by_cases hzx : z = x
      · subst hzx
        rw [upL_s] at hj
        have hlt := (List.getElem?_eq_some_iff.mp hj).1
        rw [List.length_append] at hlt
        rcases del_get (y := y) hj with ⟨h1, h2⟩ | ⟨h1, h2⟩
        · rw [e3 _ (by omega)]
          exact hi.2.2.2.1 j w (by rw [e]; exact h2)
        · rw [e2 j h1 (by omega)]
          exact hi.2.2.2.1 _ w (by rw [e]; exact h2)
      · rw [upL_o hzx] at hj
        have hlt := (List.getElem?_eq_some_iff.mp hj).1
        have := (h.siz hz).2
        rw [e3 _ (by omega)]
        exact hi.2.2.2.1 j w hj
    · show w ∈ Q ∧ up (tHol T) y (-1) w = _ ∧ _
      by_cases hzx : z = x
      · subst hzx
        rw [upL_s] at hw
        have hwk : w ∈ kl z := by
          rw [e]
          rcases List.mem_append.mp hw with q | q <;> simp [q]
        have := h.kid hz hwk
        exact ⟨this.1, by rw [up_o (fun e => hDL (by rw [← e]; exact hw))]; exact this.2.1, this.2.2⟩
      · rw [upL_o hzx] at hw
        have := h.kid hz hw
        exact ⟨this.1, by rw [up_o (fun e => hzx (h.one hz hx (by rw [← e]; exact hw) hyk))]; exact this.2.1, this.2.2⟩
    · show up (tHol T) y (-1) z = -1 ∨ _
      by_cases hzy : z = y
      · subst hzy
        exact Or.inl up_s
      · rcases hi.2.2.2.2.2 with q | ⟨v, q1, q2, q3, q4⟩
        · exact Or.inl (by rw [up_o hzy]; exact q)
        · exact Or.inr ⟨v, q1, q2, by show up _ _ _ _ = _; rw [up_o hzy]; exact q3, q4⟩
  obtain ⟨c, r1, r2, r3, r4⟩ := refresh_sp hA hx h24 (fun z hz hzx h1 h2 t ht => by
    rw [upL_o hzx] at h2 ⊢
    exact hc z hz hzx h1 h2 t ht)
  refine ⟨_, ?_, r2, r3, Sm.rf, rfl, r4⟩
  unfold f_Tr_takeOut
  rw [bd1_p (t_hol h.le hyl), hyq.2.1, bd1_p (place_sp h hx e hD), gd_p ⟨by omega, by omega⟩, if_neg (by omega), bd1_p (t_siz h.le hxl), hs.1, show ((kl x).length : Int) - 1 = (((kl x).length - 1 : Nat) : Int) by omega]
  rw [show ((kl x).length : Int) - 1 = (((kl x).length - 1 : Nat) : Int) by omega] at e1 r1
  rw [show f_Tr_takeOut_L37 ((x : Int) * 6) (((kl x).length - 1 : Nat) : Int) (fun x6_21 T_22 => bd1 (f_Rt_put (tR T_22) (tSiz T_22) (x : Int) (((kl x).length - 1 : Nat) : Int)) <| fun T_23 => bd1 (f_Rt_put (tR T_22) (tHol T_22) (y : Int) (-1)) <| fun T_26 => bd1 (f_Tr_refreshUp (sSiz (sHol T_22 T_26) T_23) (x : Int)) <| fun T_29 => some (T_29)) FU (D.length : Int) T = _ from e1, bd1_p (put_sp (n := tR T) (f := tSiz T) (by omega) hxl), bd1_p (put_sp (n := tR T) (f := tHol T) (by omega) hyl)]
  exact bd1_p r1
theorem addBehind_sp {T : TV} {kl : Nat → List Nat} {Q : List Nat} {x y v : Nat} {D L : List Nat} (h : Ar T kl Q) (hc : ∀ z ∈ Q, z ≠ x → Cr (tCor T) kl z) (hx : x ∈ Q) (e : kl x = D ++ v :: L) (hy : y ∈ Q) (hl : tLev T y = tLev T x - 1) (hloose : ∀ z ∈ Q, y ∉ kl z) (h6 : (kl x).length < 6) : ∃ T', f_Tr_addBehind T (x : Int) (v : Int) (y : Int) = some T' ∧ Ar T' (upL kl x (D ++ v :: y :: L)) Q ∧ (∀ z ∈ Q, Cr (tCor T') (upL kl x (D ++ v :: y :: L)) z) ∧ Sm T T' ∧ tHol T' = up (tHol T) y (x : Int) ∧ ∀ z t, t < 4 → (z < 24 ∨ tLev T z < tLev T x) → tCor T' (4 * z + t) = tCor T (4 * z + t) := by
  have hnd := (h.2.2.2.2 x hx).2.2.1.2.2
  rw [e] at hnd
  have hD : v ∉ D := fun q => ((List.nodup_append.mp hnd).2.2 v q v (by simp)) rfl
  have h24 := h.node hx (y := v) (by rw [e]; simp)
  have hlen := congrArg List.length e
  rw [List.length_append, List.length_cons] at hlen
  obtain ⟨T', e1, e2⟩ := addAt_sp (p := D.length + 1) h hc hx h24 hy hl hloose h6 (by omega)
  refine ⟨T', ?_, ?_⟩
  · unfold f_Tr_addBehind
    rw [bd1_p (place_sp h hx e hD), show (D.length : Int) + 1 = ((D.length + 1 : Nat) : Int) by omega, bd1_p e1]
  · rw [show ins (D.length + 1) y (kl x) = D ++ v :: y :: L by
      unfold ins
      rw [e, List.take_append, List.drop_append]
      simp
      rw [List.take_of_length_le (Nat.le_succ _), List.drop_eq_nil_of_le (Nat.le_succ _)]
      rfl] at e2
    exact e2
