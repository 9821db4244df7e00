/-! the nodes' numbers: the class's list beside the reference's counting -/
theorem fl_cons {y : Nat} {L : List Nat} : fl 1 (y :: L) = if 24 ≤ y then y :: fl 1 L else fl 1 L := by
  unfold fl
  by_cases h : 24 ≤ y
  · rw [if_pos h, List.filter_cons_of_pos (by simp; omega)]
  · rw [if_neg h, List.filter_cons_of_neg (by simp; omega)]
theorem nah_go {s lv : Nat → Int} {P : List Nat} (h : Row s lv P) (a : Nat) (ha : a ≤ P.length) (k : Int → Int → Option Int) : ∀ (d i n : Nat), i + d = a → d < n → f_Mo_nodesAhead_L4 s (a : Int) k n ((fl 1 (P.take i)).length : Int) (i : Int) = k ((fl 1 (P.take a)).length : Int) (a : Int)
  | 0, i, n + 1, hi, hn => by
    have hl := h.2.1
    have hia : i = a := by omega
    subst hia
    rw [f_Mo_nodesAhead_L4, gd_p ⟨by omega, by omega⟩, gd_p ⟨by omega, by omega⟩, if_neg (by omega)]
  | d + 1, i, n + 1, hi, hn => by
    have hl := h.2.1
    obtain ⟨x, hx⟩ : ∃ x, P[i]? = some x := ⟨P[i], List.getElem?_eq_getElem (by omega)⟩
    have hok := row_ok h hx
    have ht : fl 1 (P.take (i + 1)) = fl 1 (P.take i) ++ fl 1 [x] := by
      rw [List.take_add_one, hx, fl_app]
      rfl
    have hlen := congrArg List.length ht
    rw [List.length_append, fl_cons] at hlen
    rw [f_Mo_nodesAhead_L4, gd_p ⟨by omega, by omega⟩, gd_p ⟨by omega, by omega⟩, if_pos (by omega), bd1_p (row_at h hx), gd_p (okI_ck hok).1]
    by_cases h24 : 24 ≤ x
    · rw [if_pos h24] at hlen
      have hlen : (fl 1 (P.take (i + 1))).length = (fl 1 (P.take i)).length + 1 := hlen
      rw [if_pos ((okI_ck hok).2.2.mpr h24), show (i : Int) + 1 = ((i + 1 : Nat) : Int) by omega, show ((fl 1 (P.take i)).length : Int) + 1 = ((fl 1 (P.take (i + 1))).length : Int) by omega]
      exact nah_go h a ha k d (i + 1) n (by omega) (by omega)
    · rw [if_neg h24] at hlen
      have hlen : (fl 1 (P.take (i + 1))).length = (fl 1 (P.take i)).length + 0 := hlen
      rw [if_neg (fun q => h24 ((okI_ck hok).2.2.mp q)), show (i : Int) + 1 = ((i + 1 : Nat) : Int) by omega, show ((fl 1 (P.take i)).length : Int) + 0 = ((fl 1 (P.take (i + 1))).length : Int) by omega]
      exact nah_go h a ha k d (i + 1) n (by omega) (by omega)
theorem nah_sp {s lv : Nat → Int} {P : List Nat} (h : Row s lv P) {a : Nat} (ha : a ≤ P.length) : f_Mo_nodesAhead s (a : Int) = some ((fl 1 (P.take a)).length : Int) := by
  have hl := h.2.1
  unfold f_Mo_nodesAhead
  exact nah_go h a ha _ a 0 FU (by omega) (by unfold FU; omega)
theorem na_go {s lv : Nat → Int} {P : List Nat} (h : Row s lv P) {x1 : Nat} (hx1 : x1 ≤ 2147483647) : ∀ (S A : List Nat) (c n : Nat), P = A ++ S → (fl 1 A).length + c = x1 → S.length < n →
    (f_Mo_nodeAt_L4 s (x1 : Int) (fun _ _ => some (-5)) n (c : Int) (A.length : Int) = some (-5) ∧ (fl 1 P).length ≤ x1) ∨
    ∃ (A' : List Nat) (w : Nat) (B : List Nat), P = A' ++ w :: B ∧ 24 ≤ w ∧ (fl 1 A').length = x1 ∧ f_Mo_nodeAt_L4 s (x1 : Int) (fun _ _ => some (-5)) n (c : Int) (A.length : Int) = some (A'.length : Int)
  | [], A, c, n + 1, e, hc, hn => by
    have hl := h.2.1
    have h0 := h.1
    rw [List.append_nil] at e
    subst e
    refine Or.inl ⟨?_, by omega⟩
    rw [f_Mo_nodeAt_L4]
    unfold f_Mo_length
    rw [bd1_p rfl, h0, gd_p ⟨by omega, by omega⟩, gd_p ⟨by omega, by omega⟩, if_neg (by omega)]
  | y :: S, A, c, n + 1, e, hc, hn => by
    have hl := h.2.1
    have h0 := h.1
    have hlen := congrArg List.length e
    rw [List.length_append, List.length_cons] at hlen
    rw [List.length_cons] at hn
    have hx : P[A.length]? = some y := by rw [e, List.getElem?_append_right (Nat.le_refl _), Nat.sub_self]; rfl
    have hok := row_ok h hx
    have e2 : P = (A ++ [y]) ++ S := by rw [e]; simp
    have hl1 : (A.length : Int) + 1 = ((A ++ [y]).length : Int) := by rw [List.length_append]; rfl
    have hfl : fl 1 (A ++ [y]) = fl 1 A ++ fl 1 [y] := fl_app A [y]
    have hlen2 := congrArg List.length hfl
    rw [List.length_append, fl_cons] at hlen2
    rw [f_Mo_nodeAt_L4]
    unfold f_Mo_length
    rw [bd1_p rfl, h0, gd_p ⟨by omega, by omega⟩, gd_p ⟨by omega, by omega⟩, if_pos (by omega), gd_p ⟨by omega, by omega⟩, if_neg (by omega), bd1_p (row_at h hx), gd_p (okI_ck hok).1]
    by_cases h24 : 24 ≤ y
    · rw [if_pos h24] at hlen2
      have hlen2 : (fl 1 (A ++ [y])).length = (fl 1 A).length + 1 := hlen2
      have hneg := (okI_ck hok).2.2.mpr h24
      rw [if_pos hneg, gd_p ⟨by omega, by omega⟩]
      by_cases hc0 : c = 0
      · rw [if_pos (by omega)]
        exact Or.inr ⟨A, y, S, e, h24, by omega, rfl⟩
      · rw [if_neg (by omega), bd1_p (row_at h hx), gd_p (okI_ck hok).1, if_pos hneg, show (c : Int) - 1 = ((c - 1 : Nat) : Int) by omega, hl1]
        exact na_go h hx1 S (A ++ [y]) (c - 1) n e2 (by omega) (by omega)
    · rw [if_neg h24] at hlen2
      have hlen2 : (fl 1 (A ++ [y])).length = (fl 1 A).length + 0 := hlen2
      have hneg : ¬ sg lv y < 0 := fun q => h24 ((okI_ck hok).2.2.mp q)
      rw [if_neg hneg, bd1_p (row_at h hx), gd_p (okI_ck hok).1, if_neg hneg, show (c : Int) - 0 = (c : Int) by omega, hl1]
      exact na_go h hx1 S (A ++ [y]) c n e2 (by omega) (by omega)
theorem split_uniq : ∀ {A A' B B' : List Nat} {x : Nat}, A ++ x :: B = A' ++ x :: B' → (A ++ x :: B).Nodup → A = A'
  | [], [], _, _, _, _, _ => rfl
  | [], a :: A', B, B', x, h, hn => by
    rw [List.nil_append, List.cons_append] at h
    obtain ⟨h1, h2⟩ := List.cons.inj h
    rw [List.nil_append] at hn
    exact absurd (show x ∈ B by rw [h2]; simp) (List.nodup_cons.mp hn).1
  | a :: A, [], B, B', x, h, hn => by
    rw [List.nil_append, List.cons_append] at h
    obtain ⟨h1, h2⟩ := List.cons.inj h
    rw [List.cons_append] at hn
    exact absurd (show a ∈ A ++ x :: B by rw [h1]; simp) (List.nodup_cons.mp hn).1
  | a :: A, a' :: A', B, B', x, h, hn => by
    rw [List.cons_append, List.cons_append] at h
    obtain ⟨h1, h2⟩ := List.cons.inj h
    rw [List.cons_append] at hn
    rw [h1, split_uniq h2 (List.nodup_cons.mp hn).2]
/-- a state at rest and its nodes' list -/
def Nm (T : TV) (K : KV) (kl : Nat → List Nat) (Q : List Nat) (r : Nat) (s : Nat → Int) : Prop := St T kl Q r s ∧ Itm K (fl 1 (pr (tLev T) kl r)) ∧ (pr (tLev T) kl r).length ≤ kLen K ∧ KR K
theorem KR.le {K : KV} (h : KR K) : kLen K ≤ 8192 := by have q := h; simp only [R3, KR] at q; omega
theorem fl_len (L : List Nat) : (fl 1 L).length ≤ L.length := List.length_filter_le _ _
theorem num_cases {T : TV} {K : KV} {kl : Nat → List Nat} {Q : List Nat} {r : Nat} {s : Nat → Int} (O : Nm T K kl Q r s) {x1 : Int} (g1 : ck x1) :
    (f_Rt_hasNode K x1 = some 0 ∧ f_Mo_nodeAt s x1 = some (-5)) ∨
    ∃ (A : List Nat) (w : Nat) (B : List Nat), pr (tLev T) kl r = A ++ (pr (tLev T) kl w ++ B) ∧ stops (tLev T) (tLev T w) B ∧ 24 ≤ w ∧ w ∈ Q ∧ x1 = ((fl 1 A).length : Int) ∧ f_Rt_hasNode K x1 = some 1 ∧ f_Rt_nodeAt K x1 = some (w : Int) ∧ f_Mo_nodeAt s x1 = some (A.length : Int) := by
  obtain ⟨S, hI, hlen, hK⟩ := O
  have J := S.1.1.1
  have h := J.1
  have hlk := h.lk
  have hr := J.2.1.1
  have hrow := J.2.2.1
  have hnd := pr_nodup h r hr
  have hK8 := hK.le
  have hl := hrow.2.1
  have h0 := hrow.1
  have hfl := fl_len (pr (tLev T) kl r)
  by_cases hneg : x1 < 0
  · refine Or.inl ⟨?_, ?_⟩
    · unfold f_Rt_hasNode
      rw [gd_p g1, if_pos hneg]
    · unfold f_Mo_nodeAt
      rw [show FU = 4095 + 1 from rfl, f_Mo_nodeAt_L4]
      unfold f_Mo_length
      rw [bd1_p rfl, h0, gd_p ck_0, gd_p ⟨by omega, by omega⟩]
      by_cases hp : (0 : Int) < ((pr (tLev T) kl r).length : Int)
      · rw [if_pos hp, gd_p g1, if_pos hneg]
      · rw [if_neg hp]
  · obtain ⟨m, rfl⟩ : ∃ m : Nat, x1 = (m : Int) := ⟨x1.toNat, by omega⟩
    have hm := g1.2
    have hcase := na_go hrow (x1 := m) (by omega) (pr (tLev T) kl r) [] m FU rfl (Nat.zero_add m) (by unfold FU; omega)
    rcases hcase with ⟨e1, e2⟩ | ⟨A, w, B, e1, e2, e3, e4⟩
    · refine Or.inl ⟨?_, e1⟩
      unfold f_Rt_hasNode
      rw [gd_p g1, if_neg hneg, hI.1, gd_p ⟨by omega, by omega⟩, if_neg (by omega)]
    · have hwp : w ∈ pr (tLev T) kl r := by rw [e1]; simp
      have hwQ := (pr_in hlk r hr w hwp).1
      have hflP : fl 1 (pr (tLev T) kl r) = fl 1 A ++ w :: fl 1 B := by rw [e1, fl_app, fl_cons, if_pos e2]
      have hlP := congrArg List.length hflP
      rw [List.length_append, List.length_cons] at hlP
      obtain ⟨A2, B2, c1, c2, -, -⟩ := ctx hlk w r hr hwp
      have c1' := c1
      rw [pr_eq (Lk_at hlk hwQ), List.cons_append] at c1'
      have hAA : A = A2 := split_uniq (e1.symm.trans c1') (e1 ▸ hnd)
      subst hAA
      have hst := c2 [] stops_nil
      rw [List.append_nil] at hst
      refine Or.inr ⟨A, w, B2, c1, hst, e2, hwQ, by rw [e3], ?_, ?_, e4⟩
      · unfold f_Rt_hasNode
        rw [gd_p g1, if_neg hneg, hI.1, gd_p ⟨by omega, by omega⟩, if_pos (by omega)]
      · unfold f_Rt_nodeAt
        rw [bd1_p (at_sp (by omega) (by omega)), hI.2 m w (by rw [hflP, List.getElem?_append_right (by omega), e3, Nat.sub_self]; rfl)]
theorem wpl_go {K : KV} {W C D : List Nat} {w : Nat} (hI : Itm K W) (hlen : W.length ≤ kLen K) (hL : kLen K ≤ 8192) (hs : ∀ y ∈ W, y < 1000) (e : W = C ++ w :: D) (hn : w ∉ C) (k : Int → Option Int) : ∀ (d i n : Nat), i + d = C.length → d < n → f_Wk_placeOf_L2 K (w : Int) k n (i : Int) = some (C.length : Int)
  | d, i, n + 1, hi, hd => by
    have hlW := congrArg List.length e
    rw [List.length_append, List.length_cons] at hlW
    have hw := hs w (by rw [e]; simp)
    have hc := hI.1
    obtain ⟨y, hy⟩ : ∃ y, W[i]? = some y := ⟨W[i], List.getElem?_eq_getElem (by omega)⟩
    have hy1 := hs y (List.mem_of_getElem? hy)
    rw [f_Wk_placeOf_L2, gd_p ⟨by omega, by omega⟩, hc, gd_p ⟨by omega, by omega⟩, if_pos (by omega), bd1_p (at_sp (by omega) (by omega)), hI.2 i y hy, gd_p ⟨by omega, by omega⟩, gd_p ⟨by omega, by omega⟩]
    rw [e] at hy
    by_cases hd0 : d = 0
    · have hiC : i = C.length := by omega
      rw [hiC, List.getElem?_append_right (Nat.le_refl _), Nat.sub_self] at hy
      have hyw : w = y := Option.some.inj hy
      rw [if_pos (by omega), hiC]
    · rw [List.getElem?_append_left (by omega)] at hy
      have hyC := List.mem_of_getElem? hy
      have hyw : y ≠ w := fun q => hn (q ▸ hyC)
      rw [if_neg (by omega), show (i : Int) + 1 = ((i + 1 : Nat) : Int) by omega]
      exact wpl_go hI hlen hL hs e hn k (d - 1) (i + 1) n (by omega) (by omega)
/-- the number of the node that stands behind C -/
theorem wpl_sp {T : TV} {K : KV} {kl : Nat → List Nat} {Q : List Nat} {r : Nat} {s : Nat → Int} (O : Nm T K kl Q r s) {C D : List Nat} {w : Nat} (e : pr (tLev T) kl r = C ++ w :: D) (h24 : 24 ≤ w) : f_Wk_placeOf K (w : Int) = some ((fl 1 C).length : Int) := by
  obtain ⟨S, hI, hlen, hK⟩ := O
  have J := S.1.1.1
  have h := J.1
  have hr := J.2.1.1
  have hnd := pr_nodup h r hr
  have hfl := fl_len (pr (tLev T) kl r)
  have hl := J.2.2.1.2.1
  have hflP : fl 1 (pr (tLev T) kl r) = fl 1 C ++ w :: fl 1 D := by rw [e, fl_app, fl_cons, if_pos h24]
  have hlC := congrArg List.length hflP
  rw [List.length_append, List.length_cons] at hlC
  have hnC : w ∉ C := fun q => by
    rw [e] at hnd
    exact (List.nodup_append.mp hnd).2.2 w q w List.mem_cons_self rfl
  unfold f_Wk_placeOf
  exact wpl_go hI (by omega) hK.le (fun y hy => by
    have := h.lt (pr_in h.lk r hr y (fl_mem.mp hy).1).1
    have := h.1.2
    omega) hflP (fun q => hnC (fl_mem.mp q).1) _ (fl 1 C).length 0 FU (by omega) (by unfold FU; omega)
