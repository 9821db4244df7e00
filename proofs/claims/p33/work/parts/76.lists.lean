/-! entries into lists and out of them -/
def upL (kl : Nat → List Nat) (x : Nat) (L : List Nat) : Nat → List Nat := fun z => if z = x then L else kl z
theorem upL_s {kl : Nat → List Nat} {x : Nat} {L : List Nat} : upL kl x L x = L := if_pos rfl
theorem upL_o {kl : Nat → List Nat} {x z : Nat} {L : List Nat} (h : z ≠ x) : upL kl x L z = kl z := if_neg h
def ins (p y : Nat) (L : List Nat) : List Nat := L.take p ++ y :: L.drop p
theorem ins_get {p j y w : Nat} {L : List Nat} (hp : p ≤ L.length) (h : (ins p y L)[j]? = some w) : (j < p ∧ L[j]? = some w) ∨ (j = p ∧ w = y) ∨ (p < j ∧ L[j - 1]? = some w) := by
  have hl : (L.take p).length = p := by rw [List.length_take]; omega
  unfold ins at h
  by_cases h1 : j < p
  · rw [List.getElem?_append_left (by omega), List.getElem?_take_of_lt h1] at h
    exact Or.inl ⟨h1, h⟩
  · rw [List.getElem?_append_right (by omega), hl] at h
    by_cases h2 : j = p
    · subst h2
      rw [Nat.sub_self] at h
      exact Or.inr (Or.inl ⟨rfl, by simpa using h.symm⟩)
    · obtain ⟨i, rfl⟩ : ∃ i, j = p + (i + 1) := ⟨j - p - 1, by omega⟩
      rw [Nat.add_sub_cancel_left, List.getElem?_cons_succ, List.getElem?_drop] at h
      exact Or.inr (Or.inr ⟨by omega, by rw [show p + (i + 1) - 1 = p + i by omega]; exact h⟩)
theorem ins_len {p y : Nat} {L : List Nat} (hp : p ≤ L.length) : (ins p y L).length = L.length + 1 := by
  unfold ins
  rw [List.length_append, List.length_cons, List.length_take, List.length_drop]
  omega
theorem ins_mem {p y w : Nat} {L : List Nat} : w ∈ ins p y L ↔ w = y ∨ w ∈ L := by
  unfold ins
  rw [List.mem_append, List.mem_cons]
  constructor
  · rintro (h | h | h)
    · exact Or.inr (List.mem_of_mem_take h)
    · exact Or.inl h
    · exact Or.inr (List.mem_of_mem_drop h)
  · rintro (h | h)
    · exact Or.inr (Or.inl h)
    · rw [← List.take_append_drop p L] at h
      rcases List.mem_append.mp h with h | h
      · exact Or.inl h
      · exact Or.inr (Or.inr h)
theorem ins_nodup {p y : Nat} {L : List Nat} (h : L.Nodup) (hy : y ∉ L) : (ins p y L).Nodup := by
  have : (ins p y L).Perm (y :: L) := by
    unfold ins
    refine List.perm_middle.trans ?_
    rw [List.take_append_drop]
  exact this.nodup_iff.mpr (List.nodup_cons.mpr ⟨hy, h⟩)
theorem shift_up {T : TV} {x p : Nat} (hR : tR T ≤ 8192) (hx : x < tR T) (k : Int → TV → Option TV) : ∀ (d n : Nat) (f : Nat → Int), p + d < 6 → d < n → ∃ g, f_Tr_addAt_L35 (p : Int) ((x : Int) * 6) k n ((p + d : Nat) : Int) (sLis T f) = k (p : Int) (sLis T g) ∧ (∀ j, p < j → j ≤ p + d → g (6 * x + j) = f (6 * x + (j - 1))) ∧ ∀ q, (q ≤ 6 * x + p ∨ 6 * x + (p + d) < q) → g q = f q
  | 0, n + 1, f, hp, hn => by
    refine ⟨f, ?_, fun j h1 h2 => absurd h1 (by omega), fun _ _ => rfl⟩
    rw [f_Tr_addAt_L35, gd_p ⟨by omega, by omega⟩, gd_p ⟨by omega, by omega⟩, if_neg (by omega)]
    rfl
  | d + 1, n + 1, f, hp, hn => by
    obtain ⟨g, e1, e2, e3⟩ := shift_up (p := p) hR hx k d n (up f (6 * x + (p + d + 1)) (f (6 * x + (p + d)))) (by omega) (by omega)
    refine ⟨g, ?_, fun j h1 h2 => ?_, fun q hq => by rw [e3 q (by omega), up_o (by omega)]⟩
    · rw [f_Tr_addAt_L35, gd_p ⟨by omega, by omega⟩, gd_p ⟨by omega, by omega⟩, if_pos (by omega), show (x : Int) * 6 + ((p + (d + 1) : Nat) : Int) - 1 = ((6 * x + (p + d) : Nat) : Int) by omega, bd1_p (at_sp (n := tR T * 6) (f := f) (by omega) (by omega)), show (x : Int) * 6 + ((p + (d + 1) : Nat) : Int) = ((6 * x + (p + d + 1) : Nat) : Int) by omega, bd1_p (put_sp (n := tR T * 6) (f := f) (by omega) (by omega)), show ((p + (d + 1) : Nat) : Int) + -1 = ((p + d : Nat) : Int) by omega]
      exact e1
    · by_cases hj : j = p + d + 1
      · subst hj
        rw [e3 _ (by omega), up_s]
        congr 1
      · rw [e2 j h1 (by omega), up_o (by omega)]
/-- what a step leaves of the rest of the tree's cells -/
def Sm (T T' : TV) : Prop := tLev T' = tLev T ∧ tR T' = tR T ∧ tRoot T' = tRoot T ∧ tCap T' = tCap T ∧ tRei T' = tRei T ∧ tSpl T' = tSpl T ∧ tRec T' = tRec T
theorem Sm.rf {T : TV} : Sm T T := ⟨rfl, rfl, rfl, rfl, rfl, rfl, rfl⟩
theorem Sm.tr {T U V : TV} (h : Sm T U) (g : Sm U V) : Sm T V := ⟨g.1.trans h.1, g.2.1.trans h.2.1, g.2.2.1.trans h.2.2.1, g.2.2.2.1.trans h.2.2.2.1, g.2.2.2.2.1.trans h.2.2.2.2.1, g.2.2.2.2.2.1.trans h.2.2.2.2.2.1, g.2.2.2.2.2.2.trans h.2.2.2.2.2.2⟩
theorem Ar.lev24 {T : TV} {kl : Nat → List Nat} {Q : List Nat} (h : Ar T kl Q) {x : Nat} (hx : x ∈ Q) : x < 24 ↔ tLev T x = -1 := (h.2.2.2.2 x hx).1.2.1
theorem addAt_sp {T : TV} {kl : Nat → List Nat} {Q : List Nat} {x y p : Nat} (h : Ar T kl Q) (hc : ∀ z ∈ Q, z ≠ x → Cr (tCor T) kl z) (hx : x ∈ Q) (h24 : 24 ≤ x) (hy : y ∈ Q) (hl : tLev T y = tLev T x - 1) (hloose : ∀ z ∈ Q, y ∉ kl z) (h6 : (kl x).length < 6) (hp : p ≤ (kl x).length) : ∃ T', f_Tr_addAt T (x : Int) (p : Int) (y : Int) = some T' ∧ Ar T' (upL kl x (ins p y (kl x))) Q ∧ (∀ z ∈ Q, Cr (tCor T') (upL kl x (ins p y (kl x))) z) ∧ Sm T T' ∧ tHol T' = up (tHol T) y (x : Int) ∧ ∀ z t, t < 4 → (z < 24 ∨ tLev T z < tLev T x) → tCor T' (4 * z + t) = tCor T (4 * z + t) := by
  have hR := h.1.2
  have hxl := h.lt hx
  have hyl := h.lt hy
  have hs := (h.siz hx).1
  have hyx : y ≠ x := fun e => by subst e; omega
  obtain ⟨g, e1, e2, e3⟩ := shift_up (p := p) h.le hxl (fun x6_18 T_19 => bd1 (f_Rt_put ((tR T_19) * 6) (tLis T_19) (((x : Int) * 6) + (p : Int)) (y : Int)) <| fun T_20 => bd1 (f_Rt_put (tR T_19) (tSiz T_19) (x : Int) (((kl x).length : Int) + 1)) <| fun T_23 => bd1 (f_Rt_put (tR T_19) (tHol T_19) (y : Int) (x : Int)) <| fun T_26 => bd1 (f_Tr_refreshUp (sLis (sSiz (sHol T_19 T_26) T_23) T_20) (x : Int)) <| fun T_29 => some (T_29)) ((kl x).length - p) FU (tLis T) (by omega) (by unfold FU; omega)
  have hA : Ar (sLis (sSiz (sHol T (up (tHol T) y (x : Int))) (up (tSiz T) x (((kl x).length : Int) + 1))) (up g (6 * x + p) (y : Int))) (upL kl x (ins p y (kl x))) Q := by
    refine ⟨h.1, h.2.1, h.2.2.1, h.2.2.2.1, fun z hz => ?_⟩
    have hi := h.2.2.2.2 z hz
    refine ⟨hi.1, fun q => ?_, ?_, fun j w hj => ?_, fun w hw => ?_, ?_⟩
    · rw [upL_o (by omega)]; exact hi.2.1 q
    · by_cases hzx : z = x
      · subst hzx
        rw [upL_s, ins_len hp]
        exact ⟨by show up _ _ _ _ = _; rw [up_s]; rfl, by omega, ins_nodup hi.2.2.1.2.2 (hloose z hz)⟩
      · rw [upL_o hzx]
        exact ⟨by show up _ _ _ _ = _; rw [up_o hzx]; exact hi.2.2.1.1, hi.2.2.1.2⟩
    · show up g (6 * x + p) (y : Int) (6 * z + j) = _
      by_cases hzx : z = x
      · subst hzx
        rw [upL_s] at hj
        have hlt := (List.getElem?_eq_some_iff.mp hj).1
        rw [ins_len hp] at hlt
        rcases ins_get hp hj with ⟨h1, h2⟩ | ⟨rfl, rfl⟩ | ⟨h1, h2⟩
        · rw [up_o (by omega), e3 _ (by omega)]
          exact hi.2.2.2.1 j w h2
        · exact up_s
        · rw [up_o (by omega), e2 j h1 (by omega)]
          exact hi.2.2.2.1 _ w h2
      · rw [upL_o hzx] at hj
        have hlt := (List.getElem?_eq_some_iff.mp hj).1
        have := (h.siz hz).2
        rw [up_o (by omega), e3 _ (by omega)]
        exact hi.2.2.2.1 j w hj
    · show w ∈ Q ∧ up (tHol T) y (x : Int) w = _ ∧ _
      by_cases hzx : z = x
      · subst hzx
        rw [upL_s] at hw
        rcases ins_mem.mp hw with rfl | hw
        · exact ⟨hy, up_s, hl⟩
        · have := h.kid hz hw
          exact ⟨this.1, by rw [up_o (fun e => hloose z hz (by rw [← e]; exact hw))]; exact this.2.1, this.2.2⟩
      · rw [upL_o hzx] at hw
        have := h.kid hz hw
        exact ⟨this.1, by rw [up_o (fun e => hloose z hz (by rw [← e]; exact hw))]; exact this.2.1, this.2.2⟩
    · show up (tHol T) y (x : Int) z = -1 ∨ _
      by_cases hzy : z = y
      · subst hzy
        exact Or.inr ⟨x, hx, h24, up_s, by show tLev T x = tLev T z + 1; omega⟩
      · rcases hi.2.2.2.2.2 with q | ⟨v, q1, q2, q3, q4⟩
        · exact Or.inl (by rw [up_o hzy]; exact q)
        · exact Or.inr ⟨v, q1, q2, by show up _ _ _ _ = _; rw [up_o hzy]; exact q3, q4⟩
  obtain ⟨c, r1, r2, r3, r4⟩ := refresh_sp hA hx h24 (fun z hz hzx h1 h2 t ht => by
    rw [upL_o hzx] at h2 ⊢
    exact hc z hz hzx h1 h2 t ht)
  refine ⟨_, ?_, r2, r3, Sm.rf, rfl, r4⟩
  unfold f_Tr_addAt
  rw [bd1_p (t_siz h.le hxl), hs, gd_p ⟨by omega, by omega⟩, if_pos (by omega), gd_p ⟨by omega, by omega⟩, if_neg (by omega), if_neg (by omega)]
  rw [show p + ((kl x).length - p) = (kl x).length by omega] at e1
  rw [show f_Tr_addAt_L35 (p : Int) ((x : Int) * 6) (fun x6_18 T_19 => bd1 (f_Rt_put ((tR T_19) * 6) (tLis T_19) (((x : Int) * 6) + (p : Int)) (y : Int)) <| fun T_20 => bd1 (f_Rt_put (tR T_19) (tSiz T_19) (x : Int) (((kl x).length : Int) + 1)) <| fun T_23 => bd1 (f_Rt_put (tR T_19) (tHol T_19) (y : Int) (x : Int)) <| fun T_26 => bd1 (f_Tr_refreshUp (sLis (sSiz (sHol T_19 T_26) T_23) T_20) (x : Int)) <| fun T_29 => some (T_29)) FU ((kl x).length : Int) T = _ from e1, show (x : Int) * 6 + (p : Int) = ((6 * x + p : Nat) : Int) by omega, bd1_p (put_sp (n := tR T * 6) (f := g) (by omega) (by omega)), bd1_p (put_sp (n := tR T) (f := tSiz T) (by omega) hxl), bd1_p (put_sp (n := tR T) (f := tHol T) (by omega) hyl)]
  exact bd1_p r1
