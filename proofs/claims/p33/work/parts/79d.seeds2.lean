theorem seeds_out {T : TV} {pool : Nat → Int} {L : List Nat} (hR : tR T ≤ 8192) (hp : Pl T pool L) (kC : Int → Int → Int → Option Int) (kR : Int → Int → Int → Int → Int → (Nat → Int) → Option ((Nat → Int) × (Nat → Int) × (Nat → Int) × (Nat → Int))) : ∀ (d i n m : Nat) (b g one other zz : Int) (w : Nat → Int), i + d = L.length → d < n → d < m → SR b one other zz L.length → (b = -1 → g = 0) → ck g → Sl T w L → ∃ b' g' one' other' zz' w', f_Ch_findSeeds_L6 pool (L.length : Int) T kC n b g (i : Int) = kC b' g' (L.length : Int) ∧ f_Mo_farthest_L13 (L.length : Int) kR m one other zz g (i : Int) w = kR one' other' zz' g' (L.length : Int) w' ∧ SR b' one' other' zz' L.length ∧ Sl T w' L ∧ (b' = -1 → b = -1 ∧ d ≤ 1)
  | 0, i, n + 1, m + 1, b, g, one, other, zz, w, hi, _, _, hS, hg0, hg, hw => by
    have h6 := hp.1
    have hi : i = L.length := by omega
    subst hi
    refine ⟨b, g, one, other, zz, w, ?_, ?_, hS, hw, fun q => ⟨q, by omega⟩⟩
    · rw [f_Ch_findSeeds_L6, gd_p ⟨by omega, by omega⟩, gd_p ⟨by omega, by omega⟩, if_neg (by omega)]
    · rw [f_Mo_farthest_L13, gd_p ⟨by omega, by omega⟩, gd_p ⟨by omega, by omega⟩, if_neg (by omega)]
  | d + 1, i, n + 1, m + 1, b, g, one, other, zz, w, hi, hn, hm, hS, hg0, hg, hw => by
    have h6 := hp.1
    have hv : L[i]? = some (L[i]'(by omega)) := by simp
    obtain ⟨b1, g1, o1, t1, z1, w1, e1, e2, e3, e4, e5, e6, e7⟩ := seeds_in hR hp hv (fun x1_27 x2_28 x4_29 => f_Ch_findSeeds_L6 pool (L.length : Int) T kC n (x1_27) (x2_28) ((i : Int) + 1)) (fun x2_24 x3_25 x4_26 x5_27 x7_28 c_rect_29 => f_Mo_farthest_L13 (L.length : Int) kR m (x2_24) (x3_25) (x4_26) (x5_27) ((i : Int) + 1) (c_rect_29)) d (i + 1) FU FU b g one other zz w (by omega) (by omega) (by unfold FU; omega) (by unfold FU; omega) hS hg0 hg hw
    obtain ⟨b2, g2, o2, t2, z2, w2, f1, f2, f3, f4, f5⟩ := seeds_out hR hp kC kR d (i + 1) n m b1 g1 o1 t1 z1 w1 (by omega) (by omega) (by omega) e3 e4 e5 e6
    refine ⟨b2, g2, o2, t2, z2, w2, ?_, ?_, f3, f4, fun q => ?_⟩
    · rw [f_Ch_findSeeds_L6, gd_p ⟨by omega, by omega⟩, gd_p ⟨by omega, by omega⟩, if_pos (by omega), show (i : Int) + 1 = ((i + 1 : Nat) : Int) by omega]
      rw [show (i : Int) + 1 = ((i + 1 : Nat) : Int) by omega] at e1
      rw [e1]
      exact f1
    · rw [f_Mo_farthest_L13, gd_p ⟨by omega, by omega⟩, gd_p ⟨by omega, by omega⟩, if_pos (by omega), show (i : Int) + 1 = ((i + 1 : Nat) : Int) by omega]
      rw [show (i : Int) + 1 = ((i + 1 : Nat) : Int) by omega] at e2
      rw [e2]
      exact f2
    · have q1 := f5 q
      have q2 := e7 q1.1
      exact ⟨q2.1, by omega⟩
