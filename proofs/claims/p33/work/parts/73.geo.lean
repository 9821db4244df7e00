/-! unions and areas -/
def mm (t : Nat) (a b : Int) : Int := if t < 2 then min a b else max a b
def e0 (t : Nat) : Int := if t < 2 then 99 else 0
/-- the union of what a list names, side by side -/
def cu (c : Nat → Int) (t : Nat) : List Nat → Int
  | [] => e0 t
  | y :: L => mm t (c (4 * y + t)) (cu c t L)
/-- the sides are coordinates -/
def rg (c : Nat → Int) (y : Nat) : Prop := ∀ t, t < 4 → 0 ≤ c (4 * y + t) ∧ c (4 * y + t) ≤ 99
theorem mm_rg {t : Nat} {a b : Int} (ha : 0 ≤ a ∧ a ≤ 99) (hb : 0 ≤ b ∧ b ≤ 99) : 0 ≤ mm t a b ∧ mm t a b ≤ 99 := by
  unfold mm
  split <;> omega
theorem e0_rg {t : Nat} : 0 ≤ e0 t ∧ e0 t ≤ 99 := by
  unfold e0
  split <;> omega
theorem mm_e0 {t : Nat} {a : Int} (ha : 0 ≤ a ∧ a ≤ 99) : mm t (e0 t) a = a ∧ mm t a (e0 t) = a := by
  unfold mm e0
  split <;> omega
theorem mm_as {t : Nat} {a b c : Int} : mm t (mm t a b) c = mm t a (mm t b c) := by
  unfold mm
  split <;> omega
theorem mm_self {t : Nat} {a : Int} : mm t a a = a := by
  unfold mm
  split <;> omega
theorem mm_co {t : Nat} {a b : Int} : mm t a b = mm t b a := by
  unfold mm
  split <;> omega
theorem cu_rg {c : Nat → Int} {t : Nat} (ht : t < 4) : ∀ {L : List Nat}, (∀ y ∈ L, rg c y) → 0 ≤ cu c t L ∧ cu c t L ≤ 99
  | [], _ => e0_rg
  | y :: L, h => mm_rg (h y List.mem_cons_self t ht) (cu_rg ht (fun z hz => h z (List.mem_cons_of_mem _ hz)))
theorem cu_app {c : Nat → Int} {t : Nat} (ht : t < 4) : ∀ {L M : List Nat}, (∀ y ∈ M, rg c y) → cu c t (L ++ M) = mm t (cu c t L) (cu c t M)
  | [], M, h => (mm_e0 (cu_rg ht h)).1.symm
  | y :: L, M, h => by
    show mm t _ (cu c t (L ++ M)) = mm t (mm t _ _) _
    rw [cu_app ht h, mm_as]
theorem cu_one {c : Nat → Int} {t : Nat} (ht : t < 4) {y : Nat} (h : rg c y) : cu c t [y] = c (4 * y + t) := (mm_e0 (h t ht)).2
theorem cu_snoc {c : Nat → Int} {t : Nat} (ht : t < 4) {L : List Nat} {y : Nat} (h : rg c y) : cu c t (L ++ [y]) = mm t (cu c t L) (c (4 * y + t)) := by
  rw [cu_app ht (fun z hz => by rw [List.mem_singleton.mp hz]; exact h), cu_one ht h]
theorem cu_same {c d : Nat → Int} {t : Nat} : ∀ {L : List Nat}, (∀ y ∈ L, d (4 * y + t) = c (4 * y + t)) → cu d t L = cu c t L
  | [], _ => rfl
  | y :: L, h => by
    show mm t _ _ = mm t _ _
    rw [h y List.mem_cons_self, cu_same (fun z hz => h z (List.mem_cons_of_mem _ hz))]
/-- the area of a rectangle; of the union of two, that lie in two rows -/
def ar (c : Nat → Int) (x : Nat) : Int := (c (4 * x + 2) - c (4 * x + 0) + 1) * (c (4 * x + 3) - c (4 * x + 1) + 1)
def ua (c : Nat → Int) (x : Nat) (d : Nat → Int) (y : Nat) : Int := (max (c (4 * x + 2)) (d (4 * y + 2)) - min (c (4 * x + 0)) (d (4 * y + 0)) + 1) * (max (c (4 * x + 3)) (d (4 * y + 3)) - min (c (4 * x + 1)) (d (4 * y + 1)) + 1)
def cd (c : Nat → Int) (x : Nat) (d : Nat → Int) (y : Nat) : Int := (c (4 * x + 0) + c (4 * x + 2) - (d (4 * y + 0) + d (4 * y + 2))) * (c (4 * x + 0) + c (4 * x + 2) - (d (4 * y + 0) + d (4 * y + 2))) + (c (4 * x + 1) + c (4 * x + 3) - (d (4 * y + 1) + d (4 * y + 3))) * (c (4 * x + 1) + c (4 * x + 3) - (d (4 * y + 1) + d (4 * y + 3)))
/-- the same rectangle in two rows -/
def eqb (c : Nat → Int) (x : Nat) (d : Nat → Int) (y : Nat) : Prop := ∀ t, t < 4 → c (4 * x + t) = d (4 * y + t)
theorem ar_eqb {c d : Nat → Int} {x y : Nat} (h : eqb c x d y) : ar c x = ar d y := by
  unfold ar
  rw [h 0 (by omega), h 1 (by omega), h 2 (by omega), h 3 (by omega)]
theorem ua_eqb {c c' d d' : Nat → Int} {x x' y y' : Nat} (h : eqb c x c' x') (g : eqb d y d' y') : ua c x d y = ua c' x' d' y' := by
  unfold ua
  rw [h 0 (by omega), h 1 (by omega), h 2 (by omega), h 3 (by omega), g 0 (by omega), g 1 (by omega), g 2 (by omega), g 3 (by omega)]
theorem cd_eqb {c c' d d' : Nat → Int} {x x' y y' : Nat} (h : eqb c x c' x') (g : eqb d y d' y') : cd c x d y = cd c' x' d' y' := by
  unfold cd
  rw [h 0 (by omega), h 1 (by omega), h 2 (by omega), h 3 (by omega), g 0 (by omega), g 1 (by omega), g 2 (by omega), g 3 (by omega)]
theorem mul_rg {a b : Int} {n m : Nat} (ha : -(n : Int) ≤ a ∧ a ≤ n) (hb : -(m : Int) ≤ b ∧ b ≤ m) : -((n * m : Nat) : Int) ≤ a * b ∧ a * b ≤ ((n * m : Nat) : Int) := by
  have h1 : (a * b).natAbs ≤ n * m := by
    rw [Int.natAbs_mul]
    exact Nat.mul_le_mul (by omega) (by omega)
  omega
theorem ar_rg {c : Nat → Int} {x : Nat} (h : rg c x) : -10000 ≤ ar c x ∧ ar c x ≤ 10000 := by
  have h0 := h 0 (by omega)
  have h1 := h 1 (by omega)
  have h2 := h 2 (by omega)
  have h3 := h 3 (by omega)
  exact mul_rg (n := 100) (m := 100) (by omega) (by omega)
theorem ua_rg {c d : Nat → Int} {x y : Nat} (h : rg c x) (g : rg d y) : -10000 ≤ ua c x d y ∧ ua c x d y ≤ 10000 := by
  have h0 := h 0 (by omega)
  have h1 := h 1 (by omega)
  have h2 := h 2 (by omega)
  have h3 := h 3 (by omega)
  have g0 := g 0 (by omega)
  have g1 := g 1 (by omega)
  have g2 := g 2 (by omega)
  have g3 := g 3 (by omega)
  exact mul_rg (n := 100) (m := 100) (by omega) (by omega)
theorem cd_rg {c d : Nat → Int} {x y : Nat} (h : rg c x) (g : rg d y) : -80000 ≤ cd c x d y ∧ cd c x d y ≤ 80000 := by
  have h0 := h 0 (by omega)
  have h1 := h 1 (by omega)
  have h2 := h 2 (by omega)
  have h3 := h 3 (by omega)
  have g0 := g 0 (by omega)
  have g1 := g 1 (by omega)
  have g2 := g 2 (by omega)
  have g3 := g 3 (by omega)
  have a1 := mul_rg (n := 198) (m := 198) (a := c (4 * x + 0) + c (4 * x + 2) - (d (4 * y + 0) + d (4 * y + 2))) (b := c (4 * x + 0) + c (4 * x + 2) - (d (4 * y + 0) + d (4 * y + 2))) (by omega) (by omega)
  have a2 := mul_rg (n := 198) (m := 198) (a := c (4 * x + 1) + c (4 * x + 3) - (d (4 * y + 1) + d (4 * y + 3))) (b := c (4 * x + 1) + c (4 * x + 3) - (d (4 * y + 1) + d (4 * y + 3))) (by omega) (by omega)
  unfold cd
  omega
/-- the class's rectangles -/
theorem t_corner {T : TV} {x t : Nat} (hR : tR T ≤ 8192) (hx : x < tR T) (ht : t < 4) : f_Tr_corner T (x : Int) (t : Int) = some (tCor T (4 * x + t)) := by
  unfold f_Tr_corner
  rw [gd_p ⟨by omega, by omega⟩, if_neg (by omega), gd_p ⟨by omega, by omega⟩, if_pos (by omega), gd_p ⟨by omega, by omega⟩, show (((x : Int) * 4) + (t : Int)).toNat = 4 * x + t by omega]
theorem t_c0 {T : TV} {x : Nat} (hR : tR T ≤ 8192) (hx : x < tR T) : f_Tr_corner T (x : Int) 0 = some (tCor T (4 * x + 0)) := t_corner (t := 0) hR hx (by omega)
theorem t_c1 {T : TV} {x : Nat} (hR : tR T ≤ 8192) (hx : x < tR T) : f_Tr_corner T (x : Int) 1 = some (tCor T (4 * x + 1)) := t_corner (t := 1) hR hx (by omega)
theorem t_c2 {T : TV} {x : Nat} (hR : tR T ≤ 8192) (hx : x < tR T) : f_Tr_corner T (x : Int) 2 = some (tCor T (4 * x + 2)) := t_corner (t := 2) hR hx (by omega)
theorem t_c3 {T : TV} {x : Nat} (hR : tR T ≤ 8192) (hx : x < tR T) : f_Tr_corner T (x : Int) 3 = some (tCor T (4 * x + 3)) := t_corner (t := 3) hR hx (by omega)
theorem rg_ck {c : Nat → Int} {x t : Nat} (h : rg c x) (ht : t < 4) : ck (c (4 * x + t)) := by
  have := h t ht
  exact ⟨by omega, by omega⟩
theorem t_area {T : TV} {x : Nat} (hR : tR T ≤ 8192) (hx : x < tR T) : f_Tr_areaOf T (x : Int) = some (ar (tCor T) x) := by
  unfold f_Tr_areaOf
  rw [bd1_p (t_c2 hR hx), bd1_p (t_c0 hR hx), bd1_p (t_c3 hR hx), bd1_p (t_c1 hR hx)]
  rfl
theorem t_union {T : TV} {x y : Nat} (hR : tR T ≤ 8192) (hx : x < tR T) (hy : y < tR T) (h : rg (tCor T) x) (g : rg (tCor T) y) : f_Tr_unionArea T (x : Int) (y : Int) = some (ua (tCor T) x (tCor T) y) := by
  unfold f_Tr_unionArea
  rw [bd1_p (t_c2 hR hx), bd1_p (t_c2 hR hy), gd_p (rg_ck h (by omega)), gd_p (rg_ck g (by omega)), bd1_p (t_c0 hR hx), bd1_p (t_c0 hR hy), gd_p (rg_ck h (by omega)), gd_p (rg_ck g (by omega)), bd1_p (t_c3 hR hx), bd1_p (t_c3 hR hy), gd_p (rg_ck h (by omega)), gd_p (rg_ck g (by omega)), bd1_p (t_c1 hR hx), bd1_p (t_c1 hR hy), gd_p (rg_ck h (by omega)), gd_p (rg_ck g (by omega))]
  rfl
theorem t_enl {T : TV} {x y : Nat} (hR : tR T ≤ 8192) (hx : x < tR T) (hy : y < tR T) (h : rg (tCor T) x) (g : rg (tCor T) y) : f_Tr_enlargement T (x : Int) (y : Int) = some (ua (tCor T) x (tCor T) y - ar (tCor T) x) := by
  unfold f_Tr_enlargement
  rw [bd1_p (t_union hR hx hy h g), bd1_p (t_area hR hx)]
theorem t_dist {T : TV} {x y : Nat} (hR : tR T ≤ 8192) (hx : x < tR T) (hy : y < tR T) : f_Tr_centerDistance T (x : Int) (y : Int) = some (cd (tCor T) x (tCor T) y) := by
  unfold f_Tr_centerDistance f_Tr_doubleCenter
  rw [show (0 : Int) + 2 = 2 from rfl, show (1 : Int) + 2 = 3 from rfl, bd1_p (t_c0 hR hx), bd1_p (t_c2 hR hx), bd1_p rfl, bd1_p (t_c0 hR hy), bd1_p (t_c2 hR hy), bd1_p rfl, bd1_p (t_c1 hR hx), bd1_p (t_c3 hR hx), bd1_p rfl, bd1_p (t_c1 hR hy), bd1_p (t_c3 hR hy), bd1_p rfl]
  rfl
/-- the reference's rectangles -/
theorem m_area {c : Nat → Int} {i : Nat} (hi : i < 12) : f_Mo_areaOf c (i : Int) = some (ar c i) := by
  unfold f_Mo_areaOf
  rw [gd_p ⟨by omega, by omega⟩, gd_p ⟨by omega, by omega⟩, gd_p ⟨by omega, by omega⟩, gd_p ⟨by omega, by omega⟩, show ((4 : Int) * (i : Int) + 2).toNat = 4 * i + 2 by omega, show ((4 : Int) * (i : Int)).toNat = 4 * i + 0 by omega, show ((4 : Int) * (i : Int) + 3).toNat = 4 * i + 3 by omega, show ((4 : Int) * (i : Int) + 1).toNat = 4 * i + 1 by omega]
  rfl
theorem m_less {a b : Int} (ha : ck a) (hb : ck b) : f_Mo_less a b = some (min a b) := by
  unfold f_Mo_less
  rw [gd_p ha, gd_p hb]
  split <;> congr 1 <;> omega
theorem m_greater {a b : Int} (ha : ck a) (hb : ck b) : f_Mo_greater a b = some (max a b) := by
  unfold f_Mo_greater
  rw [gd_p ha, gd_p hb]
  split <;> congr 1 <;> omega
/-- all slots but one stay -/
def oth (i : Nat) (c c' : Nat → Int) : Prop := ∀ q, (q < 4 * i ∨ 4 * i + 4 ≤ q) → c' q = c q
theorem oth.rf {i : Nat} {c : Nat → Int} : oth i c c := fun _ _ => rfl
theorem oth.tr {i : Nat} {c d e : Nat → Int} (h : oth i c d) (g : oth i d e) : oth i c e := fun q hq => (g q hq).trans (h q hq)
theorem oth.eq {i j t : Nat} {c c' : Nat → Int} (h : oth i c c') (hj : j ≠ i) (ht : t < 4) : c' (4 * j + t) = c (4 * j + t) := h _ (by omega)
theorem oth.eqb {i j : Nat} {c c' : Nat → Int} (h : oth i c c') (hj : j ≠ i) : eqb c' j c j := fun _ ht => h.eq hj ht
theorem m_unites {c : Nat → Int} {a b i : Nat} (ha : a < 12) (hb : b < 12) (hi : i < 12) (ra : rg c a) (rb : rg c b) : ∃ c', f_Mo_unites c (a : Int) (b : Int) (i : Int) = some c' ∧ (∀ t, t < 4 → c' (4 * i + t) = mm t (c (4 * a + t)) (c (4 * b + t))) ∧ oth i c c' := by
  refine ⟨up (up (up (up c (4 * i) (min (c (4 * a + 0)) (c (4 * b + 0)))) (4 * i + 1) (min (c (4 * a + 1)) (c (4 * b + 1)))) (4 * i + 2) (max (c (4 * a + 2)) (c (4 * b + 2)))) (4 * i + 3) (max (c (4 * a + 3)) (c (4 * b + 3))), ?_, fun t ht => ?_, fun q hq => ?_⟩
  · unfold f_Mo_unites
    rw [gd_p ⟨by omega, by omega⟩, gd_p ⟨by omega, by omega⟩, show ((4 : Int) * (a : Int)).toNat = 4 * a + 0 by omega, show ((4 : Int) * (b : Int)).toNat = 4 * b + 0 by omega, bd1_p (m_less (rg_ck ra (by omega)) (rg_ck rb (by omega))), gd_p ⟨by omega, by omega⟩, gd_p ⟨by omega, by omega⟩, show ((4 : Int) * (a : Int) + 1).toNat = 4 * a + 1 by omega, show ((4 : Int) * (b : Int) + 1).toNat = 4 * b + 1 by omega, bd1_p (m_less (rg_ck ra (by omega)) (rg_ck rb (by omega))), gd_p ⟨by omega, by omega⟩, gd_p ⟨by omega, by omega⟩, show ((4 : Int) * (a : Int) + 2).toNat = 4 * a + 2 by omega, show ((4 : Int) * (b : Int) + 2).toNat = 4 * b + 2 by omega, bd1_p (m_greater (rg_ck ra (by omega)) (rg_ck rb (by omega))), gd_p ⟨by omega, by omega⟩, gd_p ⟨by omega, by omega⟩, show ((4 : Int) * (a : Int) + 3).toNat = 4 * a + 3 by omega, show ((4 : Int) * (b : Int) + 3).toNat = 4 * b + 3 by omega, bd1_p (m_greater (rg_ck ra (by omega)) (rg_ck rb (by omega))), gd_p ⟨by omega, by omega⟩, gd_p ⟨by omega, by omega⟩, gd_p ⟨by omega, by omega⟩, gd_p ⟨by omega, by omega⟩, show ((4 : Int) * (i : Int)).toNat = 4 * i by omega, show ((4 : Int) * (i : Int) + 1).toNat = 4 * i + 1 by omega, show ((4 : Int) * (i : Int) + 2).toNat = 4 * i + 2 by omega, show ((4 : Int) * (i : Int) + 3).toNat = 4 * i + 3 by omega]
  · rcases (show t = 0 ∨ t = 1 ∨ t = 2 ∨ t = 3 by omega) with rfl | rfl | rfl | rfl
    · rw [up_o (by omega), up_o (by omega), up_o (by omega)]; exact up_s
    · rw [up_o (by omega), up_o (by omega)]; exact up_s
    · rw [up_o (by omega)]; exact up_s
    · exact up_s
  · rw [up_o (by omega), up_o (by omega), up_o (by omega), up_o (by omega)]
theorem m_enl {c : Nat → Int} {a b : Nat} (ha : a < 11) (hb : b < 11) (ra : rg c a) (rb : rg c b) : ∃ c', f_Mo_enlargement c (a : Int) (b : Int) = some (ua c a c b - ar c a, c') ∧ oth 11 c c' := by
  obtain ⟨c', e1, e2, e3⟩ := m_unites (i := 11) (show a < 12 by omega) (show b < 12 by omega) (by omega) ra rb
  refine ⟨c', ?_, e3⟩
  have h1 : ar c' 11 = ua c a c b := by
    unfold ar ua
    rw [e2 0 (by omega), e2 1 (by omega), e2 2 (by omega), e2 3 (by omega)]
    rfl
  have h2 : ar c' a = ar c a := ar_eqb (e3.eqb (by omega))
  unfold f_Mo_enlargement
  rw [show (11 : Int) = ((11 : Nat) : Int) from rfl, bd1_p e1, bd1_p (m_area (by omega)), bd1_p (m_area (by omega)), h1, h2]
theorem m_dist {c : Nat → Int} {a b : Nat} (ha : a < 12) (hb : b < 12) : f_Mo_centerDistance c (a : Int) (b : Int) = some (cd c a c b) := by
  unfold f_Mo_centerDistance
  rw [gd_p ⟨by omega, by omega⟩, gd_p ⟨by omega, by omega⟩, gd_p ⟨by omega, by omega⟩, gd_p ⟨by omega, by omega⟩, gd_p ⟨by omega, by omega⟩, gd_p ⟨by omega, by omega⟩, gd_p ⟨by omega, by omega⟩, gd_p ⟨by omega, by omega⟩, show ((4 : Int) * (a : Int)).toNat = 4 * a + 0 by omega, show ((4 : Int) * (b : Int)).toNat = 4 * b + 0 by omega, show ((4 : Int) * (a : Int) + 1).toNat = 4 * a + 1 by omega, show ((4 : Int) * (b : Int) + 1).toNat = 4 * b + 1 by omega, show ((4 : Int) * (a : Int) + 2).toNat = 4 * a + 2 by omega, show ((4 : Int) * (b : Int) + 2).toNat = 4 * b + 2 by omega, show ((4 : Int) * (a : Int) + 3).toNat = 4 * a + 3 by omega, show ((4 : Int) * (b : Int) + 3).toNat = 4 * b + 3 by omega]
  unfold cd
  rw [show c (4 * a + 0) + c (4 * a + 2) - c (4 * b + 0) - c (4 * b + 2) = c (4 * a + 0) + c (4 * a + 2) - (c (4 * b + 0) + c (4 * b + 2)) by omega, show c (4 * a + 1) + c (4 * a + 3) - c (4 * b + 1) - c (4 * b + 3) = c (4 * a + 1) + c (4 * a + 3) - (c (4 * b + 1) + c (4 * b + 3)) by omega]
