/-! packing: class beside reference -/
theorem nodes_row {s lv : Nat → Int} {P : List Nat} (h : Row s lv P) : f_Mo_nodes s = some ((fl 1 P).length : Int) := by
  unfold f_Mo_nodes f_Mo_length
  rw [bd1_p rfl, h.1, bd1_p (nah_sp h (Nat.le_refl _)), List.take_length]
theorem em_st {T : TV} {kl : Nat → List Nat} {Q : List Nat} {r : Nat} {s l h z : Nat → Int} (O : St T kl Q r s) (h1 : ∀ j, 24 ≤ j → j < tR T → l j = -2 ∧ h j = -1 ∧ z j = 0) (h2 : ∀ j, j < 24 → l j = tLev T j ∧ h j = tHol T j ∧ z j = tSiz T j) (hb : bl Q 24 = []) : ∃ (x : Nat) (T' : TV), f_Tr_newNode (sSiz (sHol (sLev T l) h) z) 0 = some ((x : Int), T') ∧ St (sRoot T' (x : Int)) (upL (fun _ => []) x []) [x] x (up (up s 4 1) 101 (-1)) ∧ f_Mo_nodes (up (up s 4 1) 101 (-1)) = some 1 := by
  have hA := O.1.1.1.1
  have hA0 := base_ar hA h1 h2
  rw [hb] at hA0
  obtain ⟨x, e1, e2, e3, e4, e5⟩ := nn_sp (g := h) (l := 0) hA0 (by rw [List.length_nil]; omega) ⟨by omega, by omega⟩
  have hlx : tLev (tk (sSiz (sHol (sLev T l) (gz0 h)) z) x 0) x = 0 := up_s
  have hpx : pr (tLev (tk (sSiz (sHol (sLev T l) (gz0 h)) z) x 0)) (upL (fun _ => []) x []) x = [x] := by
    rw [pr_eq (Lk_at e5.lk List.mem_cons_self), upL_s]
    rfl
  have hsg : sg (tLev (tk (sSiz (sHol (sLev T l) (gz0 h)) z) x 0)) x = -1 := by
    unfold sg
    rw [if_neg (by omega), hlx]
    rfl
  have hrow : Row (up (up s 4 1) 101 (-1)) (tLev (tk (sSiz (sHol (sLev T l) (gz0 h)) z) x 0)) [x] := by
    refine ⟨by rw [up_o (by omega), up_s]; rfl, by rw [List.length_singleton]; omega, fun k v hk => ?_, fun v hv => ?_⟩
    · have h3 := (List.getElem?_eq_some_iff.mp hk).1
      rw [List.length_singleton] at h3
      have h4 : k = 0 := by omega
      subst h4
      have h5 : x = v := Option.some.inj hk
      rw [← h5, hsg, Nat.add_zero, up_s]
    · rw [List.mem_singleton.mp hv]
      exact e5.oki List.mem_cons_self
  have hAn : Ar (sHol (tk (sSiz (sHol (sLev T l) (gz0 h)) z) x 0) (up h x (-1))) (upL (fun _ => []) x []) [x] := e5.hol (fun v hv => by
    rw [List.mem_singleton.mp hv, up_s]
    exact up_s.symm)
  have hx1 : ∀ v ∈ [x], v = x := fun v hv => List.mem_singleton.mp hv
  refine ⟨x, sHol (tk (sSiz (sHol (sLev T l) (gz0 h)) z) x 0) (up h x (-1)), e1, ⟨⟨⟨⟨hAn, ⟨by simp, e3, rfl, up_s⟩, ?_, fun v hv q1 q2 => ?_, fun b hb2 hb24 => ?_, fun v hv _ _ => ⟨hx1 v hv, hlx⟩⟩, O.1.1.2.1, ⟨0, by omega, ?_, fun l hl => absurd hl (by omega), ?_, fun v hv => ?_⟩, O.1.1.2.2.2.1, ?_, ?_, O.1.1.2.2.2.2.2.2⟩, fun v hv => ?_, fun b hb2 => ⟨(O.1.2.2 b hb2).1.same (fun t ht => by rw [up_o (by omega), up_o (by omega)]), ?_⟩⟩, fun v hv => ?_, Or.inl ?_, ?_, ?_⟩, ?_⟩
  · show Row _ (tLev (tk (sSiz (sHol (sLev T l) (gz0 h)) z) x 0)) (pr (tLev (tk (sSiz (sHol (sLev T l) (gz0 h)) z) x 0)) (upL (fun _ => []) x []) x)
    rw [hpx]
    exact hrow
  · rw [hx1 v hv, upL_s] at q2
    exact absurd rfl q2
  · have := hx1 b hb2
    omega
  · show 0 ≤ tLev (tk (sSiz (sHol (sLev T l) (gz0 h)) z) x 0) x ∧ tLev (tk (sSiz (sHol (sLev T l) (gz0 h)) z) x 0) x ≤ _
    rw [hlx]
    exact ⟨by omega, by omega⟩
  · show (cnt (tLev (tk (sSiz (sHol (sLev T l) (gz0 h)) z) x 0)) [x] ((0 : Nat) : Int) : Int) + (if tLev (tk (sSiz (sHol (sLev T l) (gz0 h)) z) x 0) x < ((0 : Nat) : Int) then 1 else 0) ≤ 1
    have h3 : cnt (tLev (tk (sSiz (sHol (sLev T l) (gz0 h)) z) x 0)) [x] ((0 : Nat) : Int) ≤ 1 := by
      unfold cnt
      exact List.countP_le_length
    rw [hlx, if_neg (by omega)]
    omega
  · show -1 ≤ tLev (tk (sSiz (sHol (sLev T l) (gz0 h)) z) x 0) v ∧ tLev (tk (sSiz (sHol (sLev T l) (gz0 h)) z) x 0) v ≤ _
    rw [hx1 v hv, hlx]
    exact ⟨by omega, by omega⟩
  · rw [up_o (by omega), up_o (by omega)]
    exact O.1.1.2.2.2.2.1
  · rw [up_o (by omega), up_o (by omega)]
    exact O.1.1.2.2.2.2.2.1
  · rw [hx1 v hv, upL_s]
    exact Nat.zero_le _
  · rw [up_o (by omega), up_o (by omega)]
    have h3 := (O.1.2.2 b hb2).2
    rw [h3]
    constructor
    · intro q
      have : b ∈ bl Q 24 := bl_mem.mpr ⟨hb2, q⟩
      rw [hb] at this
      cases this
    · intro q
      have := hx1 b q
      omega
  · show v ∈ pr (tLev (tk (sSiz (sHol (sLev T l) (gz0 h)) z) x 0)) (upL (fun _ => []) x []) x
    rw [hpx]
    exact hv
  · show tLev (tk (sSiz (sHol (sLev T l) (gz0 h)) z) x 0) x ≤ 0
    rw [hlx]
    exact Int.le_refl _
  · rw [up_o (by omega), up_o (by omega)]
    exact O.2.2.2.1
  · rw [up_o (by omega), up_o (by omega)]
    exact O.2.2.2.2
  · rw [nodes_row hrow, fl_cons, if_pos e3]
    rfl
theorem key_sp {T : TV} {kl : Nat → List Nat} {Q : List Nat} {r ax : Nat} {s : Nat → Int} (O : St T kl Q r s) (hax : ax < 2) : ∀ z, z ∈ bl Q 24 → f_Mo_key s (z : Int) (ax : Int) = some (kyT (tCor T) ax z) ∧ ck (kyT (tCor T) ax z) ∧ z < 24 := fun z hz => by
  have hm := bl_mem.mp hz
  have h1 : s (5 + 4 * z + ax) = tCor T (4 * z + ax) := by
    rw [m_side_step s z ax]
    exact O.1.1.1.2.2.2.2.1 z hm.2 hm.1 ax (by omega)
  have h2 : s (5 + 4 * z + (ax + 2)) = tCor T (4 * z + (ax + 2)) := by
    rw [m_side_step s z (ax + 2)]
    exact O.1.1.1.2.2.2.2.1 z hm.2 hm.1 (ax + 2) (by omega)
  have hg := O.1.1.1.1.rgx hm.2
  have r1 := hg ax (by omega)
  have r2 := hg (ax + 2) (by omega)
  refine ⟨?_, ?_, hm.1⟩
  · unfold f_Mo_key kyT
    rw [gd_p ⟨by omega, by omega⟩, gd_p ⟨by omega, by omega⟩, show ((5 : Int) + 4 * (z : Int) + (ax : Int)).toNat = 5 + 4 * z + ax by omega, show ((5 : Int) + 4 * (z : Int) + (ax : Int) + 2).toNat = 5 + 4 * z + (ax + 2) by omega, h1, h2]
  · unfold kyT
    exact ⟨by omega, by omega⟩
