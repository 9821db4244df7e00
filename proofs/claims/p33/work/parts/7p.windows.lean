/-! windows: what meets, what lies inside, what is nearest -/
theorem cu_at {c : Nat → Int} {t : Nat} : ∀ {L : List Nat} {y : Nat}, y ∈ L → (t < 2 → cu c t L ≤ c (4 * y + t)) ∧ (2 ≤ t → c (4 * y + t) ≤ cu c t L)
  | [], y, h => by cases h
  | x :: L, y, h => by
    have h1 : cu c t (x :: L) = mm t (c (4 * x + t)) (cu c t L) := rfl
    rw [h1]
    unfold mm
    rcases List.mem_cons.mp h with rfl | h
    · constructor
      · intro q
        rw [if_pos q]
        omega
      · intro q
        rw [if_neg (by omega)]
        omega
    · have h2 := cu_at (c := c) (t := t) h
      constructor
      · intro q
        have := h2.1 q
        rw [if_pos q]
        omega
      · intro q
        have := h2.2 q
        rw [if_neg (by omega)]
        omega
/-- a bound's sides are in order -/
def od (c : Nat → Int) (w : Nat) : Prop := c (4 * w) ≤ c (4 * w + 2) ∧ c (4 * w + 1) ≤ c (4 * w + 3)
theorem cu_od {c : Nat → Int} {L : List Nat} (hn : L ≠ []) (h : ∀ y ∈ L, od c y) : cu c 0 L ≤ cu c 2 L ∧ cu c 1 L ≤ cu c 3 L := by
  obtain ⟨y, hy⟩ := List.exists_mem_of_ne_nil L hn
  have h0 := (cu_at (c := c) (t := 0) hy).1 (by omega)
  have h1 := (cu_at (c := c) (t := 1) hy).1 (by omega)
  have h2 := (cu_at (c := c) (t := 2) hy).2 (by omega)
  have h3 := (cu_at (c := c) (t := 3) hy).2 (by omega)
  have h4 := h y hy
  unfold od at h4
  rw [Nat.add_zero] at h0
  omega
theorem bx_od {T : TV} {K : KV} {kl : Nat → List Nat} {Q : List Nat} {r : Nat} {s : Nat → Int} (O : Nm T K kl Q r s) {b : Nat} (hb : b ∈ Q) (hb24 : b < 24) : od (c5 s) b := by
  have h1 := (O.1.1.2.2 b hb24)
  have h2 := h1.1.2 (h1.2.mpr hb)
  have h3 := m_side_step s b 0
  have h4 := m_side_step s b 1
  have h5 := m_side_step s b 2
  have h6 := m_side_step s b 3
  rw [Nat.add_zero, Nat.add_zero] at h3
  unfold od
  rw [← h3, ← h4, ← h5, ← h6]
  exact h2
theorem od_sp {T : TV} {K : KV} {kl : Nat → List Nat} {Q : List Nat} {r : Nat} {s : Nat → Int} (O : Nm T K kl Q r s) {w : Nat} (hw : w ∈ Q) (hne : 24 ≤ w → kl w ≠ []) : od (tCor T) w := by
  obtain ⟨J, h, hr, hrow, hR⟩ := O.parts
  have hb := J.box w hw hne
  have h1 := cu_od hb.1 (fun y hy => by
    have hy2 := bxs_mem.mp hy
    exact bx_od O (pr_in h.lk w hw y hy2.1).1 hy2.2)
  have e0 := hb.2 0 (by omega)
  rw [Nat.add_zero] at e0
  unfold od
  rw [e0, hb.2 1 (by omega), hb.2 2 (by omega), hb.2 3 (by omega)]
  exact h1
/-- the window lies at place 10 -/
def wn (c : Nat → Int) (a b p q : Int) : Prop := c 40 = a ∧ c 41 = b ∧ c 42 = p ∧ c 43 = q
theorem wn.oth {c c' : Nat → Int} {a b p q : Int} {i : Nat} (h : wn c a b p q) (g : oth i c c') (hi : i < 10) : wn c' a b p q := by
  unfold wn
  rw [g 40 (by omega), g 41 (by omega), g 42 (by omega), g 43 (by omega)]
  exact h
theorem frames_sp {c : Nat → Int} {a b p q : Int} : ∃ c', f_Mo_frames c a b p q = some c' ∧ wn c' a b p q := by
  refine ⟨_, rfl, ?_, ?_, ?_, up_s⟩
  · rw [up_o (by omega), up_o (by omega), up_o (by omega), up_s]
  · rw [up_o (by omega), up_o (by omega), up_s]
  · rw [up_o (by omega), up_s]
def ca (c : Nat → Int) (x : Nat) (d : Nat → Int) (y : Nat) : Int := if 0 < min (c (4 * x + 2)) (d (4 * y + 2)) - max (c (4 * x + 0)) (d (4 * y + 0)) + 1 then (if 0 < min (c (4 * x + 3)) (d (4 * y + 3)) - max (c (4 * x + 1)) (d (4 * y + 1)) + 1 then (min (c (4 * x + 2)) (d (4 * y + 2)) - max (c (4 * x + 0)) (d (4 * y + 0)) + 1) * (min (c (4 * x + 3)) (d (4 * y + 3)) - max (c (4 * x + 1)) (d (4 * y + 1)) + 1) else 0) else 0
theorem ca_eqb {c c' d d' : Nat → Int} {x x' y y' : Nat} (h : eqb c x c' x') (g : eqb d y d' y') : ca c x d y = ca c' x' d' y' := by
  unfold ca
  rw [h 0 (by omega), h 1 (by omega), h 2 (by omega), h 3 (by omega), g 0 (by omega), g 1 (by omega), g 2 (by omega), g 3 (by omega)]
theorem ca_co {c d : Nat → Int} {x y : Nat} : ca c x d y = ca d y c x := by
  unfold ca
  rw [Int.min_comm, Int.max_comm, Int.min_comm (c (4 * x + 3)), Int.max_comm (c (4 * x + 1))]
theorem m_common {c : Nat → Int} {x y : Nat} (hx : x < 12) (hy : y < 12) (h : rg c x) (g : rg c y) : f_Mo_commonArea c (x : Int) (y : Int) = some (ca c x c y) := by
  have k0 := rg_ck (t := 0) h (by omega)
  have k1 := rg_ck (t := 1) h (by omega)
  have k2 := rg_ck (t := 2) h (by omega)
  have k3 := rg_ck (t := 3) h (by omega)
  have l0 := rg_ck (t := 0) g (by omega)
  have l1 := rg_ck (t := 1) g (by omega)
  have l2 := rg_ck (t := 2) g (by omega)
  have l3 := rg_ck (t := 3) g (by omega)
  have r0 := h 0 (by omega)
  have r1 := h 1 (by omega)
  have r2 := h 2 (by omega)
  have r3 := h 3 (by omega)
  have s0 := g 0 (by omega)
  have s1 := g 1 (by omega)
  have s2 := g 2 (by omega)
  have s3 := g 3 (by omega)
  unfold f_Mo_commonArea ca
  rw [gd_p ⟨by omega, by omega⟩, gd_p ⟨by omega, by omega⟩, show ((4 : Int) * (x : Int) + 2).toNat = 4 * x + 2 by omega, show ((4 : Int) * (y : Int) + 2).toNat = 4 * y + 2 by omega, bd1_p (m_less k2 l2), gd_p ⟨by omega, by omega⟩, gd_p ⟨by omega, by omega⟩, show ((4 : Int) * (x : Int)).toNat = 4 * x + 0 by omega, show ((4 : Int) * (y : Int)).toNat = 4 * y + 0 by omega, bd1_p (m_greater k0 l0), gd_p ⟨by omega, by omega⟩, gd_p ⟨by omega, by omega⟩, show ((4 : Int) * (x : Int) + 3).toNat = 4 * x + 3 by omega, show ((4 : Int) * (y : Int) + 3).toNat = 4 * y + 3 by omega, bd1_p (m_less k3 l3), gd_p ⟨by omega, by omega⟩, gd_p ⟨by omega, by omega⟩, show ((4 : Int) * (x : Int) + 1).toNat = 4 * x + 1 by omega, show ((4 : Int) * (y : Int) + 1).toNat = 4 * y + 1 by omega, bd1_p (m_greater k1 l1), gd_p ⟨by omega, by omega⟩]
  split
  · rw [gd_p ⟨by omega, by omega⟩]
    split <;> rfl
  · rfl
theorem t_common {T : TV} {x y : Nat} (hR : tR T ≤ 8192) (hx : x < tR T) (hy : y < tR T) (h : rg (tCor T) x) (g : rg (tCor T) y) : f_Tr_commonArea T (x : Int) (y : Int) = some (ca (tCor T) x (tCor T) y) := by
  have k0 := rg_ck (t := 0) h (by omega)
  have k1 := rg_ck (t := 1) h (by omega)
  have k2 := rg_ck (t := 2) h (by omega)
  have k3 := rg_ck (t := 3) h (by omega)
  have l0 := rg_ck (t := 0) g (by omega)
  have l1 := rg_ck (t := 1) g (by omega)
  have l2 := rg_ck (t := 2) g (by omega)
  have l3 := rg_ck (t := 3) g (by omega)
  have r0 := h 0 (by omega)
  have r1 := h 1 (by omega)
  have r2 := h 2 (by omega)
  have r3 := h 3 (by omega)
  have s0 := g 0 (by omega)
  have s1 := g 1 (by omega)
  have s2 := g 2 (by omega)
  have s3 := g 3 (by omega)
  unfold f_Tr_commonArea ca
  rw [bd1_p (t_c2 hR hx), bd1_p (t_c2 hR hy), gd_p k2, gd_p l2, bd1_p (t_c0 hR hx), bd1_p (t_c0 hR hy), gd_p k0, gd_p l0, bd1_p (t_c3 hR hx), bd1_p (t_c3 hR hy), gd_p k3, gd_p l3, bd1_p (t_c1 hR hx), bd1_p (t_c1 hR hy), gd_p k1, gd_p l1, gd_p ⟨by omega, by omega⟩]
  split
  · rw [gd_p ⟨by omega, by omega⟩]
    split <;> rfl
  · rfl
abbrev mt (c : Nat → Int) (w : Nat) (a b p q : Int) : Prop := c (4 * w) ≤ p ∧ a ≤ c (4 * w + 2) ∧ c (4 * w + 1) ≤ q ∧ b ≤ c (4 * w + 3)
/-- a window, small -/
def wi (a b p q : Int) : Prop := (0 ≤ a ∧ a ≤ p ∧ p ≤ 99) ∧ (0 ≤ b ∧ b ≤ q ∧ q ≤ 99)
theorem t_meets {T : TV} {w : Nat} {a b p q : Int} (hR : tR T ≤ 8192) (hx : w < tR T) (h : rg (tCor T) w) (hw : wi a b p q) : f_Tr_meetsWindow T (w : Int) a b p q = some (if mt (tCor T) w a b p q then 1 else 0) := by
  have k0 := rg_ck (t := 0) h (by omega)
  have k1 := rg_ck (t := 1) h (by omega)
  have k2 := rg_ck (t := 2) h (by omega)
  have k3 := rg_ck (t := 3) h (by omega)
  obtain ⟨⟨w1, w2, w3⟩, w4, w5, w6⟩ := hw
  unfold f_Tr_meetsWindow mt
  rw [bd1_p (t_c0 hR hx), gd_p k0, gd_p ⟨by omega, by omega⟩, show 4 * w + 0 = 4 * w from rfl]
  by_cases h1 : p < tCor T (4 * w)
  · rw [if_pos h1, if_neg (by omega)]
  · rw [if_neg h1, bd1_p (t_c2 hR hx), gd_p k2, gd_p ⟨by omega, by omega⟩]
    by_cases h2 : tCor T (4 * w + 2) < a
    · rw [if_pos h2, if_neg (by omega)]
    · rw [if_neg h2, bd1_p (t_c1 hR hx), gd_p k1, gd_p ⟨by omega, by omega⟩]
      by_cases h3 : q < tCor T (4 * w + 1)
      · rw [if_pos h3, if_neg (by omega)]
      · rw [if_neg h3, bd1_p (t_c3 hR hx), gd_p k3, gd_p ⟨by omega, by omega⟩]
        by_cases h4 : tCor T (4 * w + 3) < b
        · rw [if_pos h4, if_neg (by omega)]
        · rw [if_neg h4, if_pos (by omega)]
theorem ca_pos {c d : Nat → Int} {x y : Nat} (hx : od c x) (hy : od d y) : 0 < ca c x d y ↔ mt c x (d (4 * y)) (d (4 * y + 1)) (d (4 * y + 2)) (d (4 * y + 3)) := by
  unfold od at hx hy
  unfold ca mt
  rw [show 4 * x + 0 = 4 * x from rfl, show 4 * y + 0 = 4 * y from rfl]
  split
  · split
    · rename_i h1 h2
      have := Int.mul_pos h1 h2
      exact ⟨fun _ => by omega, fun _ => this⟩
    · exact ⟨fun q => absurd q (by omega), fun q => by omega⟩
  · exact ⟨fun q => absurd q (by omega), fun q => by omega⟩
theorem m_meets {T : TV} {K : KV} {kl : Nat → List Nat} {Q : List Nat} {r : Nat} {s c : Nat → Int} {a b p q : Int} (O : Nm T K kl Q r s) {A B : List Nat} {w : Nat} (e : pr (tLev T) kl r = A ++ (pr (tLev T) kl w ++ B)) (hst : stops (tLev T) (tLev T w) B) (hw : w ∈ Q) (hne : 24 ≤ w → kl w ≠ []) (hc : wn c a b p q) (hwi : wi a b p q) : ∃ c', f_Mo_meets s c (A.length : Int) = some ((if mt (tCor T) w a b p q then 1 else 0), c') ∧ wn c' a b p q := by
  obtain ⟨J, h, hr, hrow, hR⟩ := O.parts
  obtain ⟨c', e1, e2, e3⟩ := bat_sp (c := c) O e hst hw hne (i := 0) (by omega)
  have hwn := hc.oth e3 (by omega)
  obtain ⟨⟨w1, w2, w3⟩, w4, w5, w6⟩ := hwi
  obtain ⟨v0, v1, v2, v3⟩ := id hwn
  have hrg0 : rg c' 0 := rg_eqb e2 (h.rgx hw)
  have hrg10 : rg c' 10 := fun t ht => by
    rcases (show t = 0 ∨ t = 1 ∨ t = 2 ∨ t = 3 by omega) with rfl | rfl | rfl | rfl
    · show 0 ≤ c' 40 ∧ c' 40 ≤ 99
      omega
    · show 0 ≤ c' 41 ∧ c' 41 ≤ 99
      omega
    · show 0 ≤ c' 42 ∧ c' 42 ≤ 99
      omega
    · show 0 ≤ c' 43 ∧ c' 43 ≤ 99
      omega
  refine ⟨c', ?_, hwn⟩
  have e1 : f_Mo_boundsAt s c (A.length : Int) 0 = some c' := e1
  have hcom : f_Mo_commonArea c' 0 10 = some (ca c' 0 c' 10) := m_common (x := 0) (y := 10) (by omega) (by omega) hrg0 hrg10
  have hca : ca c' 0 c' 10 = ca (tCor T) w c' 10 := ca_eqb e2 (fun t _ => rfl)
  have hod := od_sp O hw hne
  have h10 : od c' 10 := ⟨by show c' 40 ≤ c' 42; omega, by show c' 41 ≤ c' 43; omega⟩
  have hpos := ca_pos hod h10
  rw [show c' (4 * 10) = a from v0, show c' (4 * 10 + 1) = b from v1, show c' (4 * 10 + 2) = p from v2, show c' (4 * 10 + 3) = q from v3] at hpos
  have hcr : ck (ca (tCor T) w c' 10) := by
    have hg := h.rgx hw
    have r0 := hg 0 (by omega)
    have r1 := hg 1 (by omega)
    have r2 := hg 2 (by omega)
    have r3 := hg 3 (by omega)
    have s0 := hrg10 0 (by omega)
    have s1 := hrg10 1 (by omega)
    have s2 := hrg10 2 (by omega)
    have s3 := hrg10 3 (by omega)
    unfold ca
    split
    · split
      · have := mul_rg (n := 100) (m := 100) (a := min (tCor T (4 * w + 2)) (c' (4 * 10 + 2)) - max (tCor T (4 * w + 0)) (c' (4 * 10 + 0)) + 1) (b := min (tCor T (4 * w + 3)) (c' (4 * 10 + 3)) - max (tCor T (4 * w + 1)) (c' (4 * 10 + 1)) + 1) (by omega) (by omega)
        exact ⟨by omega, by omega⟩
      · exact ck_0
    · exact ck_0
  unfold f_Mo_meets
  rw [bd1_p e1, bd1_p hcom, hca, gd_p hcr]
  by_cases hm : mt (tCor T) w a b p q
  · rw [if_pos (hpos.mpr hm), if_pos hm]
  · rw [if_neg (fun z => hm (hpos.mp z)), if_neg hm]
