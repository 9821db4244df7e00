/-! the seeds: the class's findSeeds beside the reference's farthest -/
/-- the pool names the entries of L; the slots hold their rectangles -/
def Pl (T : TV) (pool : Nat → Int) (L : List Nat) : Prop := L.length ≤ 6 ∧ ∀ (j y : Nat), L[j]? = some y → pool j = (y : Int) ∧ y < tR T ∧ rg (tCor T) y
def Sl (T : TV) (w : Nat → Int) (L : List Nat) : Prop := ∀ (j y : Nat), L[j]? = some y → eqb w j (tCor T) y
theorem Sl.oth {T : TV} {w w' : Nat → Int} {L : List Nat} {i : Nat} (h : Sl T w L) (ho : oth i w w') (hi : L.length ≤ i) : Sl T w' L := fun j y hj t ht => by
  have := (List.getElem?_eq_some_iff.mp hj).1
  rw [ho.eq (by omega) ht]
  exact h j y hj t ht
/-- the answer of the class: -1, or six times the first place and the second; the reference's: both places and a sign for none -/
def SR (b one other zz : Int) (m : Nat) : Prop := (b = -1 ∧ zz = 1 ∧ one = 0 ∧ other = 1) ∨ ∃ i j : Nat, i < j ∧ j < m ∧ b = ((i * 6 + j : Nat) : Int) ∧ zz = 0 ∧ one = (i : Int) ∧ other = (j : Int)
theorem seeds_in {T : TV} {pool : Nat → Int} {L : List Nat} (hR : tR T ≤ 8192) (hp : Pl T pool L) {i u : Nat} (hi : L[i]? = some u) (kC : Int → Int → Int → Option Int) (kR : Int → Int → Int → Int → Int → (Nat → Int) → Option ((Nat → Int) × (Nat → Int) × (Nat → Int) × (Nat → Int))) : ∀ (d j n m : Nat) (b g one other zz : Int) (w : Nat → Int), j + d = L.length → i < j → d < n → d < m → SR b one other zz L.length → (b = -1 → g = 0) → ck g → Sl T w L → ∃ b' g' one' other' zx w', f_Ch_findSeeds_L19 pool (L.length : Int) T (i : Int) kC n b g (j : Int) = kC b' g' (L.length : Int) ∧ f_Mo_farthest_L25 (L.length : Int) (i : Int) kR m one other zz g (j : Int) w = kR one' other' zx g' (L.length : Int) w' ∧ SR b' one' other' zx L.length ∧ (b' = -1 → g' = 0) ∧ ck g' ∧ Sl T w' L ∧ (b' = -1 → b = -1 ∧ d = 0)
  | 0, j, n + 1, m + 1, b, g, one, other, zz, w, hj, hij, _, _, hS, hg0, hg, hw => by
    have h6 := hp.1
    have hj : j = L.length := by omega
    subst hj
    refine ⟨b, g, one, other, zz, w, ?_, ?_, hS, hg0, hg, hw, fun q => ⟨q, rfl⟩⟩
    · rw [f_Ch_findSeeds_L19, gd_p ⟨by omega, by omega⟩, gd_p ⟨by omega, by omega⟩, if_neg (by omega)]
    · rw [f_Mo_farthest_L25, gd_p ⟨by omega, by omega⟩, gd_p ⟨by omega, by omega⟩, if_neg (by omega)]
  | d + 1, j, n + 1, m + 1, b, g, one, other, zz, w, hj, hij, hn, hm, hS, hg0, hg, hw => by
    have h6 := hp.1
    have hjl : j < L.length := by omega
    have hv : L[j]? = some (L[j]) := by simp
    have pu := hp.2 i u hi
    have pv := hp.2 j _ hv
    have eu := hw i u hi
    have ev := hw j _ hv
    obtain ⟨w1, f1, f2, f3⟩ := m_unites (c := w) (a := i) (b := j) (i := 11) (by omega) (by omega) (by omega) (rg_eqb eu pu.2.2) (rg_eqb ev pv.2.2)
    have hw1 := hw.oth f3 (by omega)
    have f1 : f_Mo_unites w (i : Int) (j : Int) 11 = some w1 := f1
    have hU : f_Mo_areaOf w1 11 = some (ua (tCor T) u (tCor T) L[j]) := by
      rw [← ua_eqb eu ev]
      have : ar w1 11 = ua w i w j := by
        unfold ar ua
        rw [f2 0 (by omega), f2 1 (by omega), f2 2 (by omega), f2 3 (by omega)]
        rfl
      rw [← this]
      exact m_area (i := 11) (by omega)
    have a1 : f_Mo_areaOf w1 (i : Int) = some (ar (tCor T) u) := by rw [m_area (by omega), ar_eqb (hw1 i u hi)]
    have a2 : f_Mo_areaOf w1 (j : Int) = some (ar (tCor T) L[j]) := by rw [m_area (by omega), ar_eqb (hw1 j _ hv)]
    have r1 := ar_rg pu.2.2
    have r2 := ar_rg pv.2.2
    have r3 := ua_rg pu.2.2 pv.2.2
    have p1 : f_Rt_at 6 pool (i : Int) = some (u : Int) := by rw [at_sp (by omega) (by omega), pu.1]
    have p2 : f_Rt_at 6 pool (j : Int) = some ((L[j] : Nat) : Int) := by rw [at_sp (by omega) (by omega), pv.1]
    generalize hG : ua (tCor T) u (tCor T) L[j] - ar (tCor T) u - ar (tCor T) L[j] = G at *
    have cG : ck G := ⟨by omega, by omega⟩
    have hbk : ck b ∧ ck zz ∧ (zz = 0 ↔ b ≠ -1) := by
      rcases hS with ⟨q1, q2, -⟩ | ⟨i0, j0, q0, q1, q2, q3, -⟩
      · rw [q1, q2]; exact ⟨⟨by omega, by omega⟩, ⟨by omega, by omega⟩, by omega⟩
      · rw [q2, q3]; exact ⟨⟨by omega, by omega⟩, ⟨by omega, by omega⟩, by omega⟩
    have it := fun (b2 g2 o2 t2 n2 : Int) (h1 : SR b2 o2 t2 n2 L.length) (h2 : b2 = -1 → g2 = 0) (h3 : ck g2) => seeds_in hR hp hi kC kR d (j + 1) n m b2 g2 o2 t2 n2 w1 (by omega) (by omega) (by omega) (by omega) h1 h2 h3 hw1
    have hC : f_Ch_findSeeds_L19 pool (L.length : Int) T (i : Int) kC (n + 1) b g (j : Int) = if b = -1 ∨ g < G then f_Ch_findSeeds_L19 pool (L.length : Int) T (i : Int) kC n ((i * 6 + j : Nat) : Int) G ((j + 1 : Nat) : Int) else f_Ch_findSeeds_L19 pool (L.length : Int) T (i : Int) kC n b g ((j + 1 : Nat) : Int) := by
      rw [f_Ch_findSeeds_L19, gd_p ⟨by omega, by omega⟩, gd_p ⟨by omega, by omega⟩, if_pos (by omega), bd1_p p1, bd1_p p2, bd1_p (t_union hR pu.2.1 pv.2.1 pu.2.2 pv.2.2), bd1_p (t_area hR pu.2.1), bd1_p (t_area hR pv.2.1), hG, gd_p hbk.1, show (i : Int) * 6 + (j : Int) = ((i * 6 + j : Nat) : Int) by omega, show (j : Int) + 1 = ((j + 1 : Nat) : Int) by omega]
      by_cases c0 : b = -1
      · rw [if_pos c0, if_pos (Or.inl c0)]
      · rw [if_neg c0, gd_p cG, gd_p hg]
        by_cases c1 : g < G
        · rw [if_pos c1, if_pos (Or.inr c1)]
        · rw [if_neg c1, if_neg (fun q => q.elim c0 c1)]
    have hM : f_Mo_farthest_L25 (L.length : Int) (i : Int) kR (m + 1) one other zz g (j : Int) w = if b = -1 ∨ g < G then f_Mo_farthest_L25 (L.length : Int) (i : Int) kR m (i : Int) (j : Int) 0 G ((j + 1 : Nat) : Int) w1 else f_Mo_farthest_L25 (L.length : Int) (i : Int) kR m one other zz g ((j + 1 : Nat) : Int) w1 := by
      rw [f_Mo_farthest_L25, gd_p ⟨by omega, by omega⟩, gd_p ⟨by omega, by omega⟩, if_pos (by omega), bd1_p f1, bd1_p hU, bd1_p a1, bd1_p a2, hG, gd_p hbk.2.1, show (j : Int) + 1 = ((j + 1 : Nat) : Int) by omega]
      by_cases c0 : b = -1
      · rw [if_neg (fun q => hbk.2.2.mp q c0), if_pos (Or.inl c0)]
      · rw [if_pos (hbk.2.2.mpr c0), gd_p cG, gd_p hg]
        by_cases c1 : g < G
        · rw [if_pos c1, if_pos (Or.inr c1)]
        · rw [if_neg c1, if_neg (fun q => q.elim c0 c1)]
    by_cases q : b = -1 ∨ g < G
    · obtain ⟨b', g', o', t', n', w', t1, t2, t3, t4, t5, t6, t7⟩ := it ((i * 6 + j : Nat) : Int) G (i : Int) (j : Int) 0 (Or.inr ⟨i, j, hij, hjl, rfl, rfl, rfl, rfl⟩) (fun q2 => absurd q2 (by omega)) cG
      exact ⟨b', g', o', t', n', w', by rw [hC, if_pos q]; exact t1, by rw [hM, if_pos q]; exact t2, t3, t4, t5, t6, fun q2 => absurd (t7 q2).1 (by omega)⟩
    · obtain ⟨b', g', o', t', n', w', t1, t2, t3, t4, t5, t6, t7⟩ := it b g one other zz hS hg0 hg
      exact ⟨b', g', o', t', n', w', by rw [hC, if_neg q]; exact t1, by rw [hM, if_neg q]; exact t2, t3, t4, t5, t6, fun q2 => absurd (Or.inl (t7 q2).1) q⟩
