/-! packing: the end of it -/
theorem lr_sp {v : Int} (hv : 1 ≤ v ∧ v ≤ 8) (k' : Int → Option Int) : ∃ r : Nat, (1 ≤ r ∧ r ≤ 3) ∧ f_Pk_leastRoot v = some (r : Int) ∧ f_Mo_slice_L20 v k' FU 1 = k' (r : Int) := by
  unfold f_Pk_leastRoot
  rw [show FU = 4093 + 1 + 1 + 1 from rfl]
  by_cases h1 : 1 < v
  · by_cases h4 : 4 < v
    · refine ⟨3, ⟨by omega, by omega⟩, ?_, ?_⟩
      · rw [f_Pk_leastRoot_L2, gd_p ⟨by omega, by omega⟩, gd_p ⟨by omega, by omega⟩, if_pos (by omega), gd_p ⟨by omega, by omega⟩, if_pos (by omega), f_Pk_leastRoot_L2, gd_p ⟨by omega, by omega⟩, gd_p ⟨by omega, by omega⟩, if_pos (by omega), gd_p ⟨by omega, by omega⟩, if_pos (by omega), f_Pk_leastRoot_L2, gd_p ⟨by omega, by omega⟩, gd_p ⟨by omega, by omega⟩, if_neg (by omega)]
        rfl
      · rw [f_Mo_slice_L20, gd_p ⟨by omega, by omega⟩, gd_p ⟨by omega, by omega⟩, if_pos (by omega), f_Mo_slice_L20, gd_p ⟨by omega, by omega⟩, gd_p ⟨by omega, by omega⟩, if_pos (by omega), f_Mo_slice_L20, gd_p ⟨by omega, by omega⟩, gd_p ⟨by omega, by omega⟩, if_neg (by omega)]
        rfl
    · refine ⟨2, ⟨by omega, by omega⟩, ?_, ?_⟩
      · rw [f_Pk_leastRoot_L2, gd_p ⟨by omega, by omega⟩, gd_p ⟨by omega, by omega⟩, if_pos (by omega), gd_p ⟨by omega, by omega⟩, if_pos (by omega), f_Pk_leastRoot_L2, gd_p ⟨by omega, by omega⟩, gd_p ⟨by omega, by omega⟩, if_neg (by omega)]
        rfl
      · rw [f_Mo_slice_L20, gd_p ⟨by omega, by omega⟩, gd_p ⟨by omega, by omega⟩, if_pos (by omega), f_Mo_slice_L20, gd_p ⟨by omega, by omega⟩, gd_p ⟨by omega, by omega⟩, if_neg (by omega)]
        rfl
  · refine ⟨1, ⟨by omega, by omega⟩, ?_, ?_⟩
    · rw [f_Pk_leastRoot_L2, gd_p ⟨by omega, by omega⟩, gd_p ⟨by omega, by omega⟩, if_neg (by omega)]
      rfl
    · rw [f_Mo_slice_L20, gd_p ⟨by omega, by omega⟩, gd_p ⟨by omega, by omega⟩, if_neg (by omega)]
      rfl
/-- the tree packed is a state at rest -/
theorem pk_fin {T T' : TV} {kl kl' : Nat → List Nat} {Q Q' N' : List Nat} {r x cap : Nat} {lx' : Int} {s s' row' : Nat → Int} (O : St T kl Q r s) (K : PK cap lx' T' kl' Q' [x] N' row' s') (hN : N'.length ≤ 12) (hF : Fr s s') (hB : ∀ b, b < 24 → (b ∈ Q' ↔ b ∈ Q)) (hT : Kp2 T T') (hl2 : lx' ≤ 2) : St (sRoot T' (x : Int)) kl' Q' x s' := by
  obtain ⟨⟨hA, hC, hcap, hc35⟩, hlx, hGm, ⟨hGn, hG1, hG8⟩, hall, hsz, hQN, ⟨hrow, hrw, hs0⟩, hrt⟩ := K
  have hx := hGm x (by simp)
  have J := O.1.1.1
  have hpx : prs (tLev T') kl' [x] = pr (tLev T') kl' x := by
    rw [prs_cons, prs_nil, List.append_nil]
  rw [hpx] at hrw
  have hpin : ∀ z ∈ pr (tLev T') kl' x, z ∈ Q' := fun z hz => (pr_in hA.lk x hx.1 z hz).1
  have hrow2 : Row s' (tLev T') (pr (tLev T') kl' x) := rw_row hrw (fun z hz => hA.oki (hpin z hz))
  have hlv : ∀ v ∈ Q', -1 ≤ tLev T' v ∧ tLev T' v ≤ lx' ∧ (tLev T' v = lx' → v = x) := fun v hv => by
    have h1 := hall v hv
    rw [hpx] at h1
    have h2 := pr_in hA.lk x hx.1 v h1
    have h3 := (hA.2.2.2.2 v hv).1.2.2.1
    rw [hx.2.1] at h2
    exact ⟨h3, h2.2.1, h2.2.2⟩
  have hcnt : ∀ l : Int, 0 ≤ l → cnt (tLev T') Q' l ≤ 12 := fun l hl => by
    unfold cnt
    rw [List.countP_eq_length_filter]
    have := sub_len (M := N') (hA.2.1.filter (fun v => decide (tLev T' v = l))) (fun v hv => by
      have h1 := List.mem_filter.mp hv
      have h2 := of_decide_eq_true h1.2
      have h24 : 24 ≤ v := by
        rcases Nat.lt_or_ge v 24 with q | q
        · have := (hA.lev24 h1.1).mp q
          omega
        · exact q
      exact ((hsz v h1.1).2 h24).2)
    omega
  have hcH : cnt (tLev T') Q' lx' ≤ 1 := by
    unfold cnt
    rw [List.countP_eq_length_filter]
    have := sub_len (M := [x]) (hA.2.1.filter (fun v => decide (tLev T' v = lx'))) (fun v hv => by
      have h1 := List.mem_filter.mp hv
      have h2 := of_decide_eq_true h1.2
      rw [(hlv v h1.1).2.2 h2]
      exact List.mem_cons_self)
    exact this
  obtain ⟨H, rfl⟩ : ∃ H : Nat, lx' = (H : Int) := ⟨lx'.toNat, by omega⟩
  have hH5 : H ≤ 2 := by omega
  refine ⟨⟨⟨⟨hA, ⟨hx.1, hx.2.2.2.1, rfl, hx.2.2.1⟩, hrow2, hC, fun b hb hb24 t ht => ?_, fun v hv h24 he => absurd he ((hsz v hv).2 h24).1⟩, ?_, ⟨H, by omega, by rw [show tLev (sRoot T' (x : Int)) x = (H : Int) from hx.2.1]; omega, fun l hl => ?_, ?_, fun v hv => ⟨(hlv v hv).1, (hlv v hv).2.1⟩⟩, ?_, ?_, ?_, ?_⟩, fun v hv => (hsz v hv).1, fun b hb => ⟨(O.1.2.2 b hb).1.same (fun t ht => hF _ (by omega) (by omega)), ?_⟩⟩, fun v hv => ?_, ?_, ?_, ?_⟩
  · show s' (5 + (4 * b + t)) = tCor T' (4 * b + t)
    rw [hF _ (by omega) (by omega), hT.1 b t hb24 ht]
    exact J.2.2.2.2.1 b ((hB b hb24).mp hb) hb24 t ht
  · show tR T' = 157
    rw [hT.2.1]
    exact O.1.1.2.1
  · have h1 := hcnt (l : Int) (by omega)
    rw [show tLev (sRoot T' (x : Int)) x = (H : Int) from hx.2.1, if_neg (by omega)]
    show (cnt (tLev T') Q' (l : Int) : Int) + 0 ≤ _
    omega
  · rw [show tLev (sRoot T' (x : Int)) x = (H : Int) from hx.2.1, if_neg (by omega)]
    show (cnt (tLev T') Q' (H : Int) : Int) + 0 ≤ 1
    omega
  · show 3 ≤ tCap T' ∧ tCap T' ≤ 5
    rw [hT.2.2.1]
    exact O.1.1.2.2.2.1
  · show s' 0 = tCap T'
    rw [hF 0 (by omega) (by omega), hT.2.2.1]
    exact O.1.1.2.2.2.2.1
  · show s' 1 = tRei T'
    rw [hF 1 (by omega) (by omega), hT.2.2.2.1]
    exact O.1.1.2.2.2.2.2.1
  · show tRei T' = 0 ∨ tRei T' = 1
    rw [hT.2.2.2.1]
    exact O.1.1.2.2.2.2.2.2
  · rw [hF _ (by omega) (by omega), hB b hb]
    exact (O.1.2.2 b hb).2
  · have h1 := hall v hv
    rw [hpx] at h1
    exact h1
  · show tLev T' x ≤ 0 ∨ 2 ≤ (kl' x).length
    rcases hrt with q | q
    · exact Or.inl (by rw [hx.2.1]; omega)
    · exact Or.inr (q x rfl)
  · show tSpl T' = s' 2
    rw [hT.2.2.2.2.1, hF 2 (by omega) (by omega)]
    exact O.2.2.2.1
  · show tRec T' = s' 3
    rw [hT.2.2.2.2.2, hF 3 (by omega) (by omega)]
    exact O.2.2.2.2
