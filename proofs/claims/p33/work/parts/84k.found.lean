/-! the law's check of windows and points -/
theorem dx_sp {x l r z : Int} {n : Nat} (hx : ck x) (hl : ck l) (hr : ck r) (h : l ≤ r) (K : Int → Option Int) : f_Lw_areFound_L90 x l r K (n + 1) z = K (of1 x l r) := by
  unfold of1
  rw [f_Lw_areFound_L90, gd_p hx, gd_p hl]
  by_cases h1 : x < l
  · rw [if_pos h1]
    exact congrArg K (by omega)
  · rw [if_neg h1, gd_p hr]
    by_cases h2 : r < x
    · rw [if_pos h2]
      exact congrArg K (by omega)
    · rw [if_neg h2]
      exact congrArg K (by omega)
theorem dy_sp {x l r z : Int} {n : Nat} (hx : ck x) (hl : ck l) (hr : ck r) (h : l ≤ r) (K : Int → Option Int) : f_Lw_areFound_L119 x l r K (n + 1) z = K (of1 x l r) := by
  unfold of1
  rw [f_Lw_areFound_L119, gd_p hx, gd_p hl]
  by_cases h1 : x < l
  · rw [if_pos h1]
    exact congrArg K (by omega)
  · rw [if_neg h1, gd_p hr]
    by_cases h2 : r < x
    · rw [if_pos h2]
      exact congrArg K (by omega)
    · rw [if_neg h2]
      exact congrArg K (by omega)
theorem me_sp {a b p q l d r u x : Int} {n : Nat} (g1 : ck a) (g2 : ck b) (g3 : ck p) (g4 : ck q) (k1 : ck l) (k2 : ck d) (k3 : ck r) (k4 : ck u) (K : Int → Option Int) : f_Lw_areFound_L159 a b p q l d r u K (n + 1) x = K (x + if l ≤ p ∧ a ≤ r ∧ d ≤ q ∧ b ≤ u then 1 else 0) := by
  rw [f_Lw_areFound_L159, gd_p k1, gd_p g3]
  by_cases h1 : p < l
  · rw [if_pos h1, if_neg (by omega)]
  · rw [if_neg h1, gd_p k3, gd_p g1]
    by_cases h2 : r < a
    · rw [if_pos h2, if_neg (by omega)]
    · rw [if_neg h2, gd_p k2, gd_p g4]
      by_cases h3 : q < d
      · rw [if_pos h3, if_neg (by omega)]
      · rw [if_neg h3, gd_p k4, gd_p g2]
        by_cases h4 : u < b
        · rw [if_pos h4, if_neg (by omega)]
        · rw [if_neg h4, if_pos (by omega)]
theorem ii_sp {a b p q l d r u x i : Int} {n : Nat} (g1 : ck a) (g2 : ck b) (g3 : ck p) (g4 : ck q) (k1 : ck l) (k2 : ck d) (k3 : ck r) (k4 : ck u) (K : Int → Option Int) : f_Lw_areFound_L196 a b p q i l d r u K (n + 1) x = K (if a ≤ l ∧ r ≤ p ∧ b ≤ d ∧ u ≤ q then iOr x (iShl 1 i) else iOr x 0) := by
  rw [f_Lw_areFound_L196, gd_p k1, gd_p g1]
  by_cases h1 : l < a
  · rw [if_pos h1, if_neg (by omega)]
  · rw [if_neg h1, gd_p k3, gd_p g3]
    by_cases h2 : p < r
    · rw [if_pos h2, if_neg (by omega)]
    · rw [if_neg h2, gd_p k2, gd_p g2]
      by_cases h3 : d < b
      · rw [if_pos h3, if_neg (by omega)]
      · rw [if_neg h3, gd_p k4, gd_p g4]
        by_cases h4 : q < u
        · rw [if_pos h4, if_neg (by omega)]
        · rw [if_neg h4, if_pos (by omega)]
theorem fd_go {T : TV} {K : KV} {kl : Nat → List Nat} {Q : List Nat} {r : Nat} {s bx : Nat → Int} {a b p q : Int} (O : Nm T K kl Q r s) (X : Bk T Q bx) (hw : wi a b p q) (k : Int → Int → Int → Int → Int → Option Int) (kN : Int → Int → Int → Option Int) : ∀ (d i n n' : Nat) (x8 x y : Int), i + d = 24 → d < n → d < n' → Mk x8 (fun c => c < i ∧ c ∈ Q ∧ li (tCor T) c a b p q) → (x = -5 ∨ (0 ≤ x ∧ x < (i : Int))) → ck y → ∃ x8' x' y' : Int, f_Lw_areFound_L43 24 bx a b p q k n (nmt T Q a b p q i : Int) x8 x y (i : Int) = k (nmt T Q a b p q 24 : Int) x8' x' y' 24 ∧ f_Rt_nearest_L22 T a b kN n' x y (i : Int) = kN x' y' 24 ∧ Mk x8' (fun c => c ∈ Q ∧ li (tCor T) c a b p q) ∧ ck x'
  | 0, i, n + 1, n' + 1, x8, x, y, hi, hn, hn', hM, hx, hy => by
    have hi : i = 24 := by omega
    subst hi
    refine ⟨x8, x, y, ?_, ?_, hM.iff (fun c hc => ⟨fun z => z.2, fun z => ⟨hc, z⟩⟩), ⟨by omega, by omega⟩⟩
    · rw [f_Lw_areFound_L43, gd_p ⟨by omega, by omega⟩, if_neg (by omega)]
      rfl
    · rw [f_Rt_nearest_L22, gd_p ⟨by omega, by omega⟩, if_neg (by omega)]
      rfl
  | d + 1, i, n + 1, n' + 1, x8, x, y, hi, hn, hn', hM, hx, hy => by
    obtain ⟨J, h, hr, hrow, hR⟩ := O.parts
    have hi24 : i < 24 := by omega
    have hbn := X.neg h hi24
    have g1 : ck a := ⟨by have := hw.1; omega, by have := hw.1; omega⟩
    have g2 : ck b := ⟨by have := hw.2; omega, by have := hw.2; omega⟩
    have g3 : ck p := ⟨by have := hw.1; omega, by have := hw.1; omega⟩
    have g4 : ck q := ⟨by have := hw.2; omega, by have := hw.2; omega⟩
    have hcx : ck x := ⟨by omega, by omega⟩
    have hnm := nmt_succ (T := T) (Q := Q) (a := a) (b := b) (p := p) (q := q) (i := i)
    rw [f_Lw_areFound_L43, gd_p ⟨by omega, by omega⟩, if_pos (by omega), gd_p ⟨by omega, by omega⟩, show ((i : Int)).toNat = i by omega, f_Rt_nearest_L22, gd_p ⟨by omega, by omega⟩, if_pos (show (i : Int) < 24 by omega), bd1_p (hasb_sp h hi24), show (i : Int) + 1 = ((i + 1 : Nat) : Int) by omega]
    by_cases hq : i ∈ Q
    · have c0 : f_Lw_corner (bx i) 0 = some (tCor T (4 * i)) := X.cn (t := 0) h hi24 hq (by omega)
      have c1 : f_Lw_corner (bx i) 1 = some (tCor T (4 * i + 1)) := X.cn (t := 1) h hi24 hq (by omega)
      have c2 : f_Lw_corner (bx i) 2 = some (tCor T (4 * i + 2)) := X.cn (t := 2) h hi24 hq (by omega)
      have c3 : f_Lw_corner (bx i) 3 = some (tCor T (4 * i + 3)) := X.cn (t := 3) h hi24 hq (by omega)
      have hrg := h.rgx hq
      have k0 : ck (tCor T (4 * i)) := rg_ck (t := 0) hrg (by omega)
      have k1 := rg_ck (t := 1) hrg (by omega)
      have k2 := rg_ck (t := 2) hrg (by omega)
      have k3 := rg_ck (t := 3) hrg (by omega)
      have hod := od_sp O hq (fun z => absurd hi24 (by omega))
      have hdc := dst_ck hrg (a := a) (b := b) ⟨by have := hw.1; omega, by have := hw.1; omega⟩ ⟨by have := hw.2; omega, by have := hw.2; omega⟩
      have hsq := t_square hR (h.lt hq) hrg (a := a) (b := b) ⟨by have := hw.1; omega, by have := hw.1; omega⟩ ⟨by have := hw.2; omega, by have := hw.2; omega⟩
      -- what the law keeps behind this box
      have step : ∀ (x8n xn yn : Int), Mk x8n (fun c => c < i + 1 ∧ c ∈ Q ∧ li (tCor T) c a b p q) → (xn = -5 ∨ (0 ≤ xn ∧ xn < ((i + 1 : Nat) : Int))) → ck yn → ∃ x8' x' y' : Int, f_Lw_areFound_L43 24 bx a b p q k n (nmt T Q a b p q (i + 1) : Int) x8n xn yn ((i + 1 : Nat) : Int) = k (nmt T Q a b p q 24 : Int) x8' x' y' 24 ∧ f_Rt_nearest_L22 T a b kN n' xn yn ((i + 1 : Nat) : Int) = kN x' y' 24 ∧ Mk x8' (fun c => c ∈ Q ∧ li (tCor T) c a b p q) ∧ ck x' := fun x8n xn yn e1 e2 e3 => fd_go O X hw k kN d (i + 1) n n' x8n xn yn (by omega) (by omega) (by omega) e1 e2 e3
      have hM2 : Mk (if a ≤ tCor T (4 * i) ∧ tCor T (4 * i + 2) ≤ p ∧ b ≤ tCor T (4 * i + 1) ∧ tCor T (4 * i + 3) ≤ q then iOr x8 (iShl 1 (i : Int)) else iOr x8 0) (fun c => c < i + 1 ∧ c ∈ Q ∧ li (tCor T) c a b p q) := by
        by_cases hli : a ≤ tCor T (4 * i) ∧ tCor T (4 * i + 2) ≤ p ∧ b ≤ tCor T (4 * i + 1) ∧ tCor T (4 * i + 3) ≤ q
        · rw [if_pos hli]
          exact (hM.or hi24).iff (fun c hc => ⟨fun z => z.elim (fun z => ⟨by omega, z.2⟩) (fun z => by subst z; exact ⟨by omega, hq, hli⟩), fun z => by
            by_cases hci : c = i
            · exact Or.inr hci
            · exact Or.inl ⟨by omega, z.2⟩⟩)
        · rw [if_neg hli, iOr_zero hM.ck.1]
          exact hM.iff (fun c hc => ⟨fun z => ⟨by omega, z.2⟩, fun z => ⟨by
            by_cases hci : c = i
            · subst hci
              exact absurd z.2.2 hli
            · omega, z.2⟩⟩)
      have hmt : (nmt T Q a b p q i : Int) + (if tCor T (4 * i) ≤ p ∧ a ≤ tCor T (4 * i + 2) ∧ tCor T (4 * i + 1) ≤ q ∧ b ≤ tCor T (4 * i + 3) then 1 else 0) = (nmt T Q a b p q (i + 1) : Int) := by
        rw [hnm]
        by_cases hme : tCor T (4 * i) ≤ p ∧ a ≤ tCor T (4 * i + 2) ∧ tCor T (4 * i + 1) ≤ q ∧ b ≤ tCor T (4 * i + 3)
        · rw [if_pos hme, if_pos ⟨hq, hme⟩]
          omega
        · rw [if_neg hme, if_neg (fun z => hme z.2)]
          omega
      have hD : of1 a (tCor T (4 * i)) (tCor T (4 * i + 2)) * of1 a (tCor T (4 * i)) (tCor T (4 * i + 2)) + of1 b (tCor T (4 * i + 1)) (tCor T (4 * i + 3)) * of1 b (tCor T (4 * i + 1)) (tCor T (4 * i + 3)) = dst (tCor T) i a b := rfl
      rw [bd1_p c0, bd1_p c1, bd1_p c2, bd1_p c3, show FU = 4095 + 1 from rfl, dx_sp g1 k0 k2 hod.1, dy_sp g2 k1 k3 hod.2, f_Lw_areFound_L152, show FU = 4095 + 1 from rfl, gd_p ⟨by omega, by omega⟩, gd_p ⟨by omega, by omega⟩, show ((i : Int)).toNat = i by omega, gd_p hbn.2, if_neg (fun z => (hbn.1.mp z) hq), me_sp g1 g2 g3 g4 k0 k1 k2 k3, ii_sp g1 g2 g3 g4 k0 k1 k2 k3, hmt, f_Lw_areFound_L236, gd_p hcx, hD, if_pos hq, gd_p ck_1, if_neg (show ¬ (1 : Int) = 0 by omega), bd1_p hsq, gd_p hcx]
      by_cases hx5 : x = -5
      · rw [if_pos (show x < 0 by omega), if_pos hx5, f_Lw_areFound_L266, gd_p ⟨by omega, by omega⟩, gd_p ⟨by omega, by omega⟩, if_pos rfl, hD]
        exact step _ _ _ hM2 (Or.inr ⟨by omega, by omega⟩) hdc
      · rw [if_neg (show ¬ x < 0 by omega), if_neg hx5, gd_p hdc, gd_p hy, gd_p hdc, gd_p hy]
        by_cases hlt : dst (tCor T) i a b < y
        · rw [if_pos hlt, if_pos hlt, f_Lw_areFound_L266, gd_p ⟨by omega, by omega⟩, gd_p ⟨by omega, by omega⟩, if_pos rfl, hD]
          exact step _ _ _ hM2 (Or.inr ⟨by omega, by omega⟩) hdc
        · rw [if_neg hlt, if_neg hlt, f_Lw_areFound_L266, gd_p hcx, gd_p ⟨by omega, by omega⟩, if_neg (by omega)]
          exact step _ _ _ hM2 (Or.inr ⟨by omega, by omega⟩) hy
    · have hno := (X i hi24).2 hq
      have kz : ck (-1 : Int) := ⟨by omega, by omega⟩
      have hnm2 : nmt T Q a b p q (i + 1) = nmt T Q a b p q i := by rw [hnm, if_neg (fun z => hq z.1)]; rfl
      obtain ⟨x8', x', y', s1, s2, s3, s4⟩ := fd_go O X hw k kN d (i + 1) n n' x8 x y (by omega) (by omega) (by omega) (hM.iff (fun c hc => ⟨fun z => ⟨by omega, z.2⟩, fun z => ⟨by
        by_cases hci : c = i
        · subst hci
          exact absurd z.2.1 hq
        · omega, z.2⟩⟩)) (by omega) hy
      rw [hnm2] at s1
      refine ⟨x8', x', y', ?_, ?_, s3, s4⟩
      · have cn := cn_no
        rw [← hno] at cn
        rw [bd1_p cn.1, bd1_p cn.2.1, bd1_p cn.2.2.1, bd1_p cn.2.2.2, show FU = 4095 + 1 from rfl]
        rw [hno, dx_sp g1 kz ck_0 (by omega), dy_sp g2 ck_0 ck_0 (by omega), f_Lw_areFound_L152, gd_p ⟨by omega, by omega⟩, gd_p ⟨by omega, by omega⟩, show ((i : Int)).toNat = i by omega, gd_p hbn.2, if_pos (hbn.1.mpr hq)]
        exact s1
      · rw [if_neg hq, gd_p ck_0, if_pos (show (0 : Int) = 0 from rfl)]
        exact s2
theorem ins_go3 {T : TV} {K : KV} {kl : Nat → List Nat} {Q : List Nat} {r : Nat} {s : Nat → Int} {a b p q : Int} (O : Nm T K kl Q r s) (hw : wi a b p q) (k : Int → Int → Option Int) : ∀ (d i n : Nat) (x : Int), i + d = 24 → d < n → Mk x (fun c => c < i ∧ c ∈ Q ∧ li (tCor T) c a b p q) → ∃ x' : Int, f_Rt_inside_L20 T a b p q k n x (i : Int) = k x' 24 ∧ Mk x' (fun c => c ∈ Q ∧ li (tCor T) c a b p q)
  | 0, i, n + 1, x, hi, hn, hM => by
    refine ⟨x, ?_, hM.iff (fun c hc => ⟨fun z => z.2, fun z => ⟨by omega, z⟩⟩)⟩
    rw [f_Rt_inside_L20, gd_p ⟨by omega, by omega⟩, if_neg (by omega), show (i : Int) = 24 by omega]
  | d + 1, i, n + 1, x, hi, hn, hM => by
    obtain ⟨J, h, hr, hrow, hR⟩ := O.parts
    have hi24 : i < 24 := by omega
    rw [f_Rt_inside_L20, gd_p ⟨by omega, by omega⟩, if_pos (by omega), bd1_p (hasb_sp h hi24), show (i : Int) + 1 = ((i + 1 : Nat) : Int) by omega]
    by_cases hq : i ∈ Q
    · rw [if_pos hq, gd_p ck_1, if_neg (by omega), bd1_p (t_lies hR (h.lt hq) (h.rgx hq) hw)]
      by_cases hli : li (tCor T) i a b p q
      · rw [if_pos hli, gd_p ck_1, if_neg (by omega)]
        exact ins_go3 O hw k d (i + 1) n _ (by omega) (by omega) ((hM.or hi24).iff (fun c hc => ⟨fun z => z.elim (fun z => ⟨by omega, z.2⟩) (fun z => by subst z; exact ⟨by omega, hq, hli⟩), fun z => by
            by_cases hci : c = i
            · exact Or.inr hci
            · exact Or.inl ⟨by omega, z.2⟩⟩))
      · rw [if_neg hli, gd_p ck_0, if_pos rfl]
        exact ins_go3 O hw k d (i + 1) n x (by omega) (by omega) (hM.iff (fun c hc => ⟨fun z => ⟨by omega, z.2⟩, fun z => ⟨by
            by_cases hci : c = i
            · subst hci
              exact absurd z.2.2 hli
            · omega, z.2⟩⟩))
    · rw [if_neg hq, gd_p ck_0, if_pos rfl]
      exact ins_go3 O hw k d (i + 1) n x (by omega) (by omega) (hM.iff (fun c hc => ⟨fun z => ⟨by omega, z.2⟩, fun z => ⟨by
            by_cases hci : c = i
            · subst hci
              exact absurd z.2.1 hq
            · omega, z.2⟩⟩))
theorem vs_go {T : TV} {K : KV} {kl : Nat → List Nat} {Q : List Nat} {r : Nat} {s : Nat → Int} {a b p q : Int} (O : Nm T K kl Q r s) (hw : wi a b p q) (k : Int → Int → Option Int) : ∀ (V U : List Nat) (n : Nat) (x : Int), nds T kl r = U ++ V → U ≠ [] → V.length < n → f_Lw_areFound_L303 T K a b p q k n x (U.length : Int) = k (x + (V.countP (mtb T a b p q) : Nat)) ((nds T kl r).length : Int)
  | [], U, n + 1, x, e, hU, hn => by
    have hn2 := nds_len O
    rw [List.append_nil] at e
    rw [f_Lw_areFound_L303, bd1_p (a_nodes O), ← e, gd_p ⟨by omega, by omega⟩, gd_p ⟨by omega, by omega⟩, if_neg (by omega), List.countP_nil]
    exact congrArg (fun z => k z ((nds T kl r).length : Int)) (show x = x + ((0 : Nat) : Int) by omega)
  | w :: V, U, n + 1, x, e, hU, hn => by
    obtain ⟨J, h, hr, hrow, hR⟩ := O.parts
    have hn2 := nds_len O
    have hle := congrArg List.length e
    rw [List.length_append, List.length_cons] at hle
    rw [List.length_cons] at hn
    obtain ⟨A, B, P⟩ := pl_mid O e
    obtain ⟨hwQ, hp, e1, e2⟩ := pl_in O P
    have hpos : 0 < U.length := List.length_pos_iff.mpr hU
    have hwr : w ≠ r := fun z => by have := (pl_zero O P).mpr z; omega
    have hne : kl w ≠ [] := fun z => hwr (J.2.2.2.2.2 w hwQ P.2.2.1 z).1
    have b0 : f_Rt_bound T K (U.length : Int) 0 = some (tCor T (4 * w)) := (a_bound (t := 0) O P (by omega)).1 hne
    have b1 : f_Rt_bound T K (U.length : Int) 1 = some (tCor T (4 * w + 1)) := (a_bound (t := 1) O P (by omega)).1 hne
    have b2 : f_Rt_bound T K (U.length : Int) 2 = some (tCor T (4 * w + 2)) := (a_bound (t := 2) O P (by omega)).1 hne
    have b3 : f_Rt_bound T K (U.length : Int) 3 = some (tCor T (4 * w + 3)) := (a_bound (t := 3) O P (by omega)).1 hne
    have hrg := h.rgx hwQ
    have k0 : ck (tCor T (4 * w)) := rg_ck (t := 0) hrg (by omega)
    have k1 := rg_ck (t := 1) hrg (by omega)
    have k2 := rg_ck (t := 2) hrg (by omega)
    have k3 := rg_ck (t := 3) hrg (by omega)
    have g1 : ck a := ⟨by have := hw.1; omega, by have := hw.1; omega⟩
    have g2 : ck b := ⟨by have := hw.2; omega, by have := hw.2; omega⟩
    have g3 : ck p := ⟨by have := hw.1; omega, by have := hw.1; omega⟩
    have g4 : ck q := ⟨by have := hw.2; omega, by have := hw.2; omega⟩
    have e3 : nds T kl r = (U ++ [w]) ++ V := by rw [e]; simp
    have hl1 : (U ++ [w]).length = U.length + 1 := by rw [List.length_append, List.length_singleton]
    have h312 : ∀ K9 : Int → Option Int, f_Lw_areFound_L312 T K a b p q (U.length : Int) K9 FU x = K9 (x + if mt (tCor T) w a b p q then 1 else 0) := fun K9 => by
      rw [show FU = 4095 + 1 from rfl, f_Lw_areFound_L312, bd1_p b0, gd_p k0, gd_p g3]
      by_cases h1 : p < tCor T (4 * w)
      · rw [if_pos h1, if_neg (fun z => by unfold mt at z; omega)]
      · rw [if_neg h1, bd1_p b2, gd_p k2, gd_p g1]
        by_cases h2 : tCor T (4 * w + 2) < a
        · rw [if_pos h2, if_neg (fun z => by unfold mt at z; omega)]
        · rw [if_neg h2, bd1_p b1, gd_p k1, gd_p g4]
          by_cases h3 : q < tCor T (4 * w + 1)
          · rw [if_pos h3, if_neg (fun z => by unfold mt at z; omega)]
          · rw [if_neg h3, bd1_p b3, gd_p k3, gd_p g2]
            by_cases h4 : tCor T (4 * w + 3) < b
            · rw [if_pos h4, if_neg (fun z => by unfold mt at z; omega)]
            · rw [if_neg h4, if_pos (by unfold mt; omega)]
    rw [f_Lw_areFound_L303, bd1_p (a_nodes O), gd_p ⟨by omega, by omega⟩, gd_p ⟨by omega, by omega⟩, if_pos (by omega), h312, show (U.length : Int) + 1 = ((U.length + 1 : Nat) : Int) by omega, ← hl1, vs_go O hw k V (U ++ [w]) n _ e3 (by simp) (by omega), List.countP_cons]
    by_cases hm : mt (tCor T) w a b p q
    · rw [if_pos hm, if_pos (show mtb T a b p q w = true from decide_eq_true hm)]
      exact congrArg (fun z => k z ((nds T kl r).length : Int)) (by omega)
    · rw [if_neg hm, if_neg (show ¬ mtb T a b p q w = true from fun z => hm (of_decide_eq_true z))]
      exact congrArg (fun z => k z ((nds T kl r).length : Int)) (by omega)
theorem a_found {T : TV} {K : KV} {kl : Nat → List Nat} {Q : List Nat} {r : Nat} {s bx : Nat → Int} {a b p q : Int} (O : Nm T K kl Q r s) (X : Bk T Q bx) (hw : wi a b p q) : f_Lw_areFound 24 T K bx (e4 a b p q) = some 1 := by
  obtain ⟨J, h, hr, hrow, hR⟩ := O.parts
  have hn := nds_len O
  have cn := cn_sp (a := a) (b := b) (p := p) (q := q) ⟨by have := hw.1; omega, by have := hw.1; omega⟩ ⟨by have := hw.2; omega, by have := hw.2; omega⟩ ⟨by have := hw.1; omega, by have := hw.1; omega⟩ ⟨by have := hw.2; omega, by have := hw.2; omega⟩
  have g1 : ck a := ⟨by have := hw.1; omega, by have := hw.1; omega⟩
  have g2 : ck b := ⟨by have := hw.2; omega, by have := hw.2; omega⟩
  have g3 : ck p := ⟨by have := hw.1; omega, by have := hw.1; omega⟩
  have g4 : ck q := ⟨by have := hw.2; omega, by have := hw.2; omega⟩
  have hfl : nds T kl r = [r] ++ fl 1 (prs (tLev T) kl (kl r)) := by
    show fl 1 (pr (tLev T) kl r) = _
    rw [pr_eq (Lk_at h.lk hr), fl_cons, if_pos J.2.1.2.1]
    rfl
  have hle := congrArg List.length hfl
  rw [List.length_append, List.length_singleton] at hle
  have hcp := List.countP_le_length (p := mtb T a b p q) (l := fl 1 (prs (tLev T) kl (kl r)))
  obtain ⟨x8', x', y', s1, s2, s3, s4⟩ := fd_go O X hw (fun x7_84 x8_85 x9_86 x10_87 x11_88 => f_Lw_areFound_L303 (T) (K) (a) (b) (p) (q) (fun x11_120 x12_121 => bd1 (f_Rt_meeting T a b p q) <| fun r_122 => gd (ck r_122) <| gd (ck x7_84) <| if r_122 = x7_84 then (bd1 (f_Rt_inside T a b p q) <| fun r_128 => gd (ck r_128) <| gd (ck x8_85) <| if r_128 = x8_85 then (bd1 (f_Rt_visits T K a b p q) <| fun r_134 => gd (ck r_134) <| gd (ck x11_120) <| if r_134 = x11_120 then (bd1 (f_Rt_nearest T a b) <| fun r_140 => gd (ck r_140) <| gd (ck x9_86) <| if r_140 = x9_86 then (some (1)) else (some (0))) else (some (0))) else (some (0))) else (some (0))) FU (1) (1)) (fun x3_21 x4_22 x5_23 => some (x3_21)) 24 0 FU FU 0 (-5) 0 rfl (by unfold FU; omega) (by unfold FU; omega) (Mk.zero.iff (fun c hc => ⟨fun z => z.elim, fun z => absurd z.1 (by omega)⟩)) (Or.inl rfl) ck_0
  have hmeet : f_Rt_meeting T a b p q = some (nmt T Q a b p q 24 : Int) := by
    unfold f_Rt_meeting
    rw [isrect_c g1 g2 g3 g4, if_pos (show (0 ≤ a ∧ a ≤ p ∧ p ≤ 99) ∧ 0 ≤ b ∧ b ≤ q ∧ q ≤ 99 from hw), bd1_p rfl, gd_p ck_1, if_neg (by omega)]
    exact mtc_go h hw (fun x5_18 x6_19 => some (x5_18)) 24 0 FU rfl (by unfold FU; omega)
  have hmle : nmt T Q a b p q 24 ≤ 24 := by
    have h9 := List.countP_le_length (p := fun y => decide (y ∈ Q ∧ mt (tCor T) y a b p q)) (l := List.range 24)
    rw [List.length_range] at h9
    exact h9
  obtain ⟨z, i1, i2⟩ := ins_go3 O hw (fun x5_18 x6_19 => some (x5_18)) 24 0 FU 0 rfl (by unfold FU; omega) (Mk.zero.iff (fun c hc => ⟨fun z => z.elim, fun z => absurd z.1 (by omega)⟩))
  have hins : f_Rt_inside T a b p q = some z := by
    unfold f_Rt_inside
    rw [isrect_c g1 g2 g3 g4, if_pos (show (0 ≤ a ∧ a ≤ p ∧ p ≤ 99) ∧ 0 ≤ b ∧ b ≤ q ∧ q ≤ 99 from hw), bd1_p rfl, gd_p ck_1, if_neg (by omega)]
    exact i1
  have hz : z = x8' := i2.uniq s3 (fun _ _ => Iff.rfl)
  have hvis : f_Rt_visits T K a b p q = some ((1 : Int) + (((fl 1 (prs (tLev T) kl (kl r))).countP (mtb T a b p q) : Nat) : Int)) := by
    unfold f_Rt_visits
    rw [isrect_c g1 g2 g3 g4, if_pos (show (0 ≤ a ∧ a ≤ p ∧ p ≤ 99) ∧ 0 ≤ b ∧ b ≤ q ∧ q ≤ 99 from hw), bd1_p rfl, gd_p ck_1, if_neg (by omega)]
    exact vsc_go O hw (fun x5_17 x6_18 => some (x5_17)) (fl 1 (prs (tLev T) kl (kl r))) [r] FU 1 hfl (by unfold FU; omega)
  have hnear : f_Rt_nearest T a b = some x' := by
    unfold f_Rt_nearest
    rw [isrect_c g1 g2 g1 g2, if_pos (show (0 ≤ a ∧ a ≤ a ∧ a ≤ 99) ∧ (0 ≤ b ∧ b ≤ b ∧ b ≤ 99) by have := hw.1; have := hw.2; omega), bd1_p rfl, gd_p ck_1, if_neg (by omega)]
    exact s2
  have k1 : ck (nmt T Q a b p q 24 : Int) := ⟨by omega, by omega⟩
  have k2 := s3.ck.1
  have k3 : ck (1 + ((fl 1 (prs (tLev T) kl (kl r))).countP (mtb T a b p q) : Nat) : Int) := ⟨by omega, by omega⟩
  unfold f_Lw_areFound
  rw [bd1_p cn.1, bd1_p cn.2.1, bd1_p cn.2.2.1, bd1_p cn.2.2.2]
  refine Eq.trans s1 ?_
  refine Eq.trans (vs_go O hw _ (fl 1 (prs (tLev T) kl (kl r))) [r] FU 1 hfl (by simp) (by unfold FU; omega)) ?_
  rw [bd1_p hmeet, gd_p k1, gd_p k1, if_pos rfl, bd1_p hins, hz, gd_p k2, gd_p k2, if_pos rfl, bd1_p hvis, gd_p k3, gd_p k3, if_pos rfl, bd1_p hnear, gd_p s4, gd_p s4, if_pos rfl]
