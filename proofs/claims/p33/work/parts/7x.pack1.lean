/-! packing: steps of a tree whose loose boxes hold old holders -/
theorem l42_k {T : TV} {x2 x8 : Int} : ∀ (n : Nat) (a b c d e : Int) (k : Int → Int → Int → Int → Int → Option TV) (R : TV), f_Tr_refreshUp_L42 T x2 x8 k n a b c d e = some R → ∃ a' b' c' d' e' : Int, ∀ (h : Nat → Int) (k' : Int → Int → Int → Int → Int → Option TV), f_Tr_refreshUp_L42 (sHol T h) x2 x8 k' n a b c d e = k' a' b' c' d' e' := by
  intro n
  induction n with
  | zero =>
    intro a b c d e k R H
    cases H
  | succ n ih =>
    intro a b c d e k R H
    rw [f_Tr_refreshUp_L42] at H
    obtain ⟨h1, H⟩ := gd_e H
    obtain ⟨h2, H⟩ := gd_e H
    by_cases hx : e < x8
    · rw [if_pos hx] at H
      obtain ⟨r14, e14, H⟩ := bd1_e H
      obtain ⟨r17, e17, H⟩ := bd1_e H
      obtain ⟨h3, H⟩ := gd_e H
      obtain ⟨h4, H⟩ := gd_e H
      obtain ⟨r23, e23, H⟩ := bd1_e H
      obtain ⟨h5, H⟩ := gd_e H
      obtain ⟨h6, H⟩ := gd_e H
      obtain ⟨r29, e29, H⟩ := bd1_e H
      obtain ⟨h7, H⟩ := gd_e H
      obtain ⟨h8, H⟩ := gd_e H
      obtain ⟨r35, e35, H⟩ := bd1_e H
      obtain ⟨h9, H⟩ := gd_e H
      obtain ⟨h10, H⟩ := gd_e H
      obtain ⟨a', b', c', d', e', IH⟩ := ih _ _ _ _ _ _ _ H
      refine ⟨a', b', c', d', e', fun h k' => ?_⟩
      have f17 : f_Tr_corner (sHol T h) r14 0 = some r17 := e17
      have f23 : f_Tr_corner (sHol T h) r14 1 = some r23 := e23
      have f29 : f_Tr_corner (sHol T h) r14 2 = some r29 := e29
      have f35 : f_Tr_corner (sHol T h) r14 3 = some r35 := e35
      rw [f_Tr_refreshUp_L42, gd_p h1, gd_p h2, if_pos hx]
      rw [bd1_p e14, bd1_p f17, gd_p h3, gd_p h4, bd1_p f23, gd_p h5, gd_p h6, bd1_p f29, gd_p h7, gd_p h8, bd1_p f35, gd_p h9, gd_p h10]
      exact IH h k'
    · refine ⟨a, b, c, d, e, fun h k' => ?_⟩
      rw [f_Tr_refreshUp_L42, gd_p h1, gd_p h2, if_neg hx]
theorem rfu_hol {T R : TV} {x : Nat} {h : Nat → Int} (hR : tR T ≤ 8192) (hx : x < tR T) (H : f_Tr_refreshUp T (x : Int) = some R) (h1 : tHol T x = -1) (h2 : h x = -1) : f_Tr_refreshUp (sHol T h) (x : Int) = some (sHol R h) := by
  unfold f_Tr_refreshUp at H ⊢
  rw [show FU = 4094 + 1 + 1 from rfl] at H ⊢
  rw [f_Tr_refreshUp_L4] at H ⊢
  obtain ⟨r1, e1, H⟩ := bd1_e H
  have f1 : f_Tr_isNode (sHol T h) (x : Int) = some r1 := e1
  rw [bd1_p f1]
  obtain ⟨g1, H⟩ := gd_e H
  rw [gd_p g1]
  by_cases hr : r1 = 0
  · rw [if_pos hr] at H ⊢
    rw [← Option.some.inj H]
  · rw [if_neg hr] at H ⊢
    obtain ⟨g2, H⟩ := gd_e H
    rw [gd_p g2]
    rw [if_pos (by omega)] at H ⊢
    obtain ⟨r8, e8, H⟩ := bd1_e H
    have f8 : f_Tr_sizeOf (sHol T h) (x : Int) = some r8 := e8
    rw [bd1_p f8]
    obtain ⟨a, b, c, d, e, K⟩ := l42_k _ _ _ _ _ _ _ _ H
    have K1 := K (tHol T) (fun x4_41 x5_42 x6_43 x7_44 x9_45 => bd1 (f_Tr_setCorners T (x : Int) x4_41 x5_42 x6_43 x7_44) <| fun T_46 => bd1 (f_Rt_at (tR T_46) (tHol T_46) (x : Int)) <| fun r_49 => f_Tr_refreshUp_L4 (fun x2_52 x3_53 T_54 => some (T_54)) (4094 + 1) (r_49) ((0 + 1)) (T_46))
    have H2 := K1.symm.trans H
    rw [bd1_p (setc_sp hR hx), bd1_p (at_sp (by show tR T ≤ _; omega) (by show x < tR T; exact hx))] at H2
    have H3 : f_Tr_refreshUp_L4 (fun x2_52 x3_53 T_54 => some (T_54)) (4094 + 1) (tHol T x) ((0 + 1)) (sCor T (set4 (tCor T) x a b c d)) = some R := H2
    rw [h1, f_Tr_refreshUp_L4, bd1_p isn_none, gd_p ck_0, if_pos rfl] at H3
    refine (K h _).trans ?_
    rw [bd1_p (setc_sp (T := sHol T h) hR hx), bd1_p (at_sp (by show tR T ≤ _; omega) (by show x < tR T; exact hx))]
    show f_Tr_refreshUp_L4 (fun x2_52 x3_53 T_54 => some (T_54)) (4094 + 1) (h x) ((0 + 1)) (sCor (sHol T h) (set4 (tCor T) x a b c d)) = _
    rw [h2, f_Tr_refreshUp_L4, bd1_p isn_none, gd_p ck_0, if_pos rfl, ← Option.some.inj H3]
theorem addEnd_sp {T : TV} {kl : Nat → List Nat} {Q : List Nat} {x y : Nat} {g : Nat → Int} (h : Ar T kl Q) (hc : ∀ z ∈ Q, z ≠ x → Cr (tCor T) kl z) (hx : x ∈ Q) (h24 : 24 ≤ x) (hy : y ∈ Q) (hl : tLev T y = tLev T x - 1) (hloose : ∀ z ∈ Q, y ∉ kl z) (h6 : (kl x).length < 6) (h1 : tHol T x = -1) (h2 : g x = -1) : ∃ T', f_Tr_addAt (sHol T g) (x : Int) ((kl x).length : Int) (y : Int) = some (sHol T' (up g y (x : Int))) ∧ Ar T' (upL kl x (kl x ++ [y])) Q ∧ (∀ z ∈ Q, Cr (tCor T') (upL kl x (kl x ++ [y])) z) ∧ Sm T T' ∧ tHol T' = up (tHol T) y (x : Int) ∧ ∀ z t, t < 4 → (z < 24 ∨ tLev T z < tLev T x) → tCor T' (4 * z + t) = tCor T (4 * z + t) := by
  obtain ⟨T', e1, e2, e3, e4, e5, e6⟩ := addAt_sp h hc hx h24 hy hl hloose h6 (Nat.le_refl _)
  have hins : ins (kl x).length y (kl x) = kl x ++ [y] := by
    unfold ins
    rw [List.take_length, List.drop_length]
  rw [hins] at e2 e3
  refine ⟨T', ?_, e2, e3, e4, e5, e6⟩
  have hR := h.1.2
  have hxl := h.lt hx
  have hyl := h.lt hy
  have hs := h.siz hx
  have hyx : x ≠ y := fun q => by subst q; omega
  have hsz : f_Tr_sizeOf T (x : Int) = some ((kl x).length : Int) := by rw [← hs.1]; exact t_siz h.le hxl
  have hsz' : f_Tr_sizeOf (sHol T g) (x : Int) = some ((kl x).length : Int) := hsz
  unfold f_Tr_addAt at e1 ⊢
  rw [bd1_p hsz, gd_p ⟨by omega, by omega⟩, if_pos (by omega), gd_p ⟨by omega, by omega⟩, if_neg (by omega), if_neg (by omega), show FU = 4095 + 1 from rfl, f_Tr_addAt_L35, gd_p ⟨by omega, by omega⟩, gd_p ⟨by omega, by omega⟩, if_neg (by omega), show ((x : Int) * 6 + ((kl x).length : Int)) = ((6 * x + (kl x).length : Nat) : Int) by omega, bd1_p (put_sp (by omega) (by omega)), show ((kl x).length : Int) + 1 = (((kl x).length + 1 : Nat) : Int) by omega, bd1_p (put_sp (by omega) hxl), bd1_p (put_sp (by omega) hyl)] at e1
  rw [bd1_p hsz', gd_p ⟨by omega, by omega⟩, if_pos (by omega), gd_p ⟨by omega, by omega⟩, if_neg (by omega), if_neg (by omega), show FU = 4095 + 1 from rfl, f_Tr_addAt_L35, gd_p ⟨by omega, by omega⟩, gd_p ⟨by omega, by omega⟩, if_neg (by omega), show ((x : Int) * 6 + ((kl x).length : Int)) = ((6 * x + (kl x).length : Nat) : Int) by omega, bd1_p (put_sp (by show tR T * 6 ≤ _; omega) (by show _ < tR T * 6; omega)), show ((kl x).length : Int) + 1 = (((kl x).length + 1 : Nat) : Int) by omega, bd1_p (put_sp (by show tR T ≤ _; omega) (show x < tR T from hxl)), bd1_p (put_sp (by show tR T ≤ _; omega) (show y < tR T from hyl))]
  obtain ⟨R, f1, f2⟩ := bd1_e e1
  have hRT : R = T' := Option.some.inj f2
  subst hRT
  have f3 := rfu_hol (T := sLis (sSiz (sHol T (up (tHol T) y (x : Int))) (up (tSiz T) x (((kl x).length + 1 : Nat) : Int))) (up (tLis T) (6 * x + (kl x).length) (y : Int))) (h := up g y (x : Int)) h.le hxl f1 (show up (tHol T) y (x : Int) x = -1 by rw [up_o hyx]; exact h1) (by rw [up_o hyx]; exact h2)
  exact bd1_p f3
/-- a new node where one is free: the first free place -/
theorem nn_sp {T : TV} {kl : Nat → List Nat} {Q : List Nat} {g : Nat → Int} (h : Ar T kl Q) (hQ : Q.length < 48) {l : Int} (hl : 0 ≤ l ∧ l ≤ 20) : ∃ x : Nat, f_Tr_newNode (sHol T g) l = some ((x : Int), sHol (tk T x l) (up g x (-1))) ∧ x ∉ Q ∧ 24 ≤ x ∧ x < tR T ∧ Ar (tk T x l) (upL kl x []) (x :: Q) := by
  have hR := h.1
  rcases free_sp (T := sHol T g) (b := 157) (by show tR T ≤ _; omega) (by show 157 ≤ tR T; omega) (fun x hx => h.ckall hx) 24 (by omega) with ⟨h1, h2⟩ | ⟨x, h1, h2, h3, h4, -⟩
  · exfalso
    have hall : ∀ x ∈ List.range' 24 133, x ∈ Q := fun x hx => by
      have hm := List.mem_range'_1.mp hx
      by_cases q : x ∈ Q
      · exact q
      · exact absurd (h.2.2.1 x (by omega) q) (h2 x (by omega) (by omega))
    have hcount := sub_len (List.nodup_range' (step := 1)) hall
    rw [List.length_range'] at hcount
    omega
  · have h4 : tLev T x = -2 := h4
    have h3 : f_Tr_firstFree (sHol T g) 24 157 = some (x : Int) := h3
    have h2 : x < tR T := by omega
    have hxQ : x ∉ Q := fun q => by
      have := (h.2.2.2.2 x q).1
      omega
    refine ⟨x, ?_, hxQ, h1, h2, h.take h2 hxQ ⟨by omega, hl.2⟩ ⟨fun q => by omega, fun q => by omega⟩⟩
    have htk := take_sp (T := sHol T g) (x := x) (l := l) (show tR T ≤ 8192 by omega) h2
    unfold f_Tr_newNode
    rw [bd1_p h3, gd_p ⟨by omega, by omega⟩, if_neg (by omega), bd1_p htk]
    rfl
