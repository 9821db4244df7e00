/-! which group an entry comes to -/
def pf (a b c : Int) : Int := if a = 0 then (if b = 0 then c else b) else a
theorem better_sp {T : TV} {x z y : Nat} {s1 s2 : Int} (hR : tR T ≤ 8192) (hx : x < tR T) (hz : z < tR T) (hy : y < tR T) (rx : rg (tCor T) x) (rz : rg (tCor T) z) (ry : rg (tCor T) y) (h1 : tSiz T x = s1) (h2 : tSiz T z = s2) (hs : 0 ≤ s1 ∧ s1 ≤ 10 ∧ 0 ≤ s2 ∧ s2 ≤ 10) : f_Ch_betterGroup T (x : Int) (z : Int) (y : Int) = some (if 0 < pf (ua (tCor T) x (tCor T) y - ar (tCor T) x - (ua (tCor T) z (tCor T) y - ar (tCor T) z)) (ar (tCor T) x - ar (tCor T) z) (s1 - s2) then (z : Int) else (x : Int)) := by
  have u1 := ua_rg rx ry
  have u2 := ua_rg rz ry
  have a1 := ar_rg rx
  have a2 := ar_rg rz
  have e1 := t_siz hR hx
  have e2 := t_siz hR hz
  rw [h1] at e1
  rw [h2] at e2
  unfold f_Ch_betterGroup pf
  rw [bd1_p (t_enl hR hx hy rx ry), bd1_p (t_enl hR hz hy rz ry), gd_p ⟨by omega, by omega⟩]
  by_cases c0 : ua (tCor T) x (tCor T) y - ar (tCor T) x - (ua (tCor T) z (tCor T) y - ar (tCor T) z) = 0
  · rw [if_pos c0, if_pos c0, bd1_p (t_area hR hx), bd1_p (t_area hR hz), gd_p ⟨by omega, by omega⟩]
    by_cases c1 : ar (tCor T) x - ar (tCor T) z = 0
    · rw [if_pos c1, if_pos c1, bd1_p e1, bd1_p e2, gd_p ⟨by omega, by omega⟩]
      split <;> rfl
    · rw [if_neg c1, if_neg c1]
      split <;> rfl
  · rw [if_neg c0, if_neg c0, if_neg c0]
    split <;> rfl
theorem pref_sp {w size : Nat → Int} {e : Nat} (he : e < 8) (r8 : rg w 8) (r9 : rg w 9) (re : rg w e) (hs : 0 ≤ size 0 ∧ size 0 ≤ 10 ∧ 0 ≤ size 1 ∧ size 1 ≤ 10) : ∃ w', f_Mo_preferred w size (e : Int) = some ((if 0 < pf (ua w 8 w e - ar w 8 - (ua w 9 w e - ar w 9)) (ar w 8 - ar w 9) (size 0 - size 1) then 1 else 0), w') ∧ oth 11 w w' := by
  obtain ⟨w1, e1, e2⟩ := m_enl (c := w) (a := 8) (b := e) (by omega) (by omega) r8 re
  have r9' : rg w1 9 := rg_eqb (e2.eqb (by omega)) r9
  have re' : rg w1 e := rg_eqb (e2.eqb (by omega)) re
  obtain ⟨w2, f1, f2⟩ := m_enl (c := w1) (a := 9) (b := e) (by omega) (by omega) r9' re'
  have e1 : f_Mo_enlargement w 8 (e : Int) = some (ua w 8 w e - ar w 8, w1) := e1
  have f1 : f_Mo_enlargement w1 9 (e : Int) = some (ua w 9 w e - ar w 9, w2) := by
    rw [← ua_eqb (e2.eqb (j := 9) (by omega)) (e2.eqb (j := e) (by omega)), ← ar_eqb (e2.eqb (j := 9) (by omega))]
    exact f1
  have g8 : f_Mo_areaOf w2 8 = some (ar w 8) := by
    rw [← ar_eqb ((e2.tr f2).eqb (j := 8) (by omega))]
    exact m_area (i := 8) (by omega)
  have g9 : f_Mo_areaOf w2 9 = some (ar w 9) := by
    rw [← ar_eqb ((e2.tr f2).eqb (j := 9) (by omega))]
    exact m_area (i := 9) (by omega)
  have u1 := ua_rg r8 re
  have u2 := ua_rg r9 re
  have a1 := ar_rg r8
  have a2 := ar_rg r9
  refine ⟨w2, ?_, e2.tr f2⟩
  unfold f_Mo_preferred pf
  rw [bd2_p e1, bd2_p f1, gd_p ⟨by omega, by omega⟩]
  by_cases c0 : ua w 8 w e - ar w 8 - (ua w 9 w e - ar w 9) = 0
  · rw [if_pos c0, if_pos c0, bd1_p g8, bd1_p g9, gd_p ⟨by omega, by omega⟩]
    by_cases c1 : ar w 8 - ar w 9 = 0
    · rw [if_pos c1, if_pos c1, gd_p ⟨by omega, by omega⟩]
      split <;> rfl
    · rw [if_neg c1, if_neg c1]
      split <;> rfl
  · rw [if_neg c0, if_neg c0, if_neg c0]
    split <;> rfl
