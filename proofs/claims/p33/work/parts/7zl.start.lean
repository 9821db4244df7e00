/-! the start: both sides empty -/
theorem gather_len {T : TV} {kl : Nat → List Nat} {Q : List Nat} {b : Int} {x : Nat} {K K' : KV} (h : Ar T kl Q) (hb : b = 0 ∨ b = 1) (hx : x ∈ Q) (hR3 : R3 T) (hK : KR K) (he : f_Wk_gather K T (x : Int) b = some K') : kLen K' = 157 := by
  obtain ⟨K2, e1, -, e3, -⟩ := gather_sp h hb hx hR3 hK
  have e4 := Option.some.inj (e1.symm.trans he)
  rw [← e4]
  exact e3
theorem jfl_go {v : Int} (k : Int → (Nat → Int) → Option (Nat → Int)) : ∀ (d i n : Nat) (f : Nat → Int), i + d = 157 → d < n → (∀ j, j < i → f j = v) → ∃ g, f_J_fill_53178_L5 157 v ((157 : Nat) : Int) k n (i : Int) f = k 157 g ∧ ∀ j, j < 157 → g j = v
  | 0, i, n + 1, f, hi, hn, h => by
    refine ⟨f, ?_, fun j hj => h j (by omega)⟩
    rw [f_J_fill_53178_L5, gd_p ⟨by omega, by omega⟩, gd_p ⟨by omega, by omega⟩, if_neg (by omega), show (i : Int) = 157 by omega]
  | d + 1, i, n + 1, f, hi, hn, h => by
    obtain ⟨g, e1, e2⟩ := jfl_go (v := v) k d (i + 1) n (up f i v) (by omega) (by omega) (fun j hj => by
      by_cases hji : j = i
      · subst hji
        exact up_s
      · rw [up_o hji]
        exact h j (by omega))
    refine ⟨g, ?_, e2⟩
    rw [f_J_fill_53178_L5, gd_p ⟨by omega, by omega⟩, gd_p ⟨by omega, by omega⟩, if_pos (by omega), gd_p ⟨by omega, by omega⟩, show ((i : Int)).toNat = i by omega, show (i : Int) + 1 = ((i + 1 : Nat) : Int) by omega]
    exact e1
/-- the tree of one empty leaf, beside a row of one code -/
theorem st0_sp {l h s : Nat → Int} (hl : ∀ j, j < 157 → l j = if j = 24 then 0 else -2) (hh : h 24 = -1) (s0 : s 0 = 4) (s1 : s 1 = 1) (s2 : s 2 = 0) (s3 : s 3 = 0) (s4 : s 4 = 1) (s101 : s 101 = -1) (hb : ∀ b, b < 24 → Vb s b ∧ s (5 + 4 * b) < 0) : St (l, h, (fun _ => 0), (fun _ => 0), (fun _ => 0), 157, 24, 4, 1, 0, 0) (fun _ => []) [24] 24 s := by
  have hl24 : l 24 = 0 := hl 24 (by omega)
  have hA : Ar (l, h, (fun _ => 0), (fun _ => 0), (fun _ => 0), 157, 24, 4, 1, 0, 0) (fun _ => []) [24] := by
    refine ⟨⟨by show 157 ≤ 157; omega, by show 157 ≤ 288; omega⟩, by simp, fun x hx hq => ?_, fun x _ t _ => ⟨by show (0 : Int) ≤ 0; omega, by show (0 : Int) ≤ 99; omega⟩, fun x hx => ?_⟩
    · have h1 : x ≠ 24 := fun q => hq (by rw [q]; exact List.mem_cons_self)
      have h2 := hl x hx
      rw [if_neg h1] at h2
      exact h2
    · have h1 : x = 24 := List.mem_singleton.mp hx
      subst h1
      refine ⟨⟨by show 24 < 157; omega, ?_, ?_, ?_⟩, fun _ => rfl, ⟨rfl, Nat.zero_le _, List.nodup_nil⟩, (fun j y hj => by cases hj), (fun y hy => by cases hy), Or.inl hh⟩
      · show 24 < 24 ↔ l 24 = -1
        omega
      · show -1 ≤ l 24
        omega
      · show l 24 ≤ 20
        omega
  have hpx : pr (tLev (l, h, (fun _ => 0), (fun _ => 0), (fun _ => 0), 157, 24, 4, 1, 0, 0)) (fun _ => []) 24 = [24] := by
    rw [pr_eq (Lk_at hA.lk List.mem_cons_self)]
    rfl
  have hx1 : ∀ v ∈ [24], v = 24 := fun v hv => List.mem_singleton.mp hv
  refine ⟨⟨⟨⟨hA, ⟨by simp, by omega, rfl, hh⟩, ?_, fun v hv q1 q2 => absurd rfl q2, fun b hb2 hb24 => ?_, fun v hv _ _ => ⟨hx1 v hv, hl24⟩⟩, rfl, ⟨0, by omega, ?_, fun l hl => absurd hl (by omega), ?_, fun v hv => ?_⟩, ⟨by show (3 : Int) ≤ 4; omega, by show (4 : Int) ≤ 5; omega⟩, s0, s1, Or.inr rfl⟩, fun v hv => Nat.zero_le _, fun b hb2 => ⟨(hb b hb2).1, ?_⟩⟩, fun v hv => ?_, Or.inl ?_, s2.symm, s3.symm⟩
  · rw [hpx]
    refine ⟨s4, by rw [List.length_singleton]; omega, fun k v hk => ?_, fun v hv => ?_⟩
    · have h3 := (List.getElem?_eq_some_iff.mp hk).1
      rw [List.length_singleton] at h3
      have h4 : k = 0 := by omega
      subst h4
      have h5 : 24 = v := Option.some.inj hk
      rw [← h5, Nat.add_zero, s101]
      show -1 = (if 24 < 24 then ((24 : Nat) : Int) else -1 - l 24)
      rw [if_neg (by omega), hl24]
      rfl
    · rw [hx1 v hv]
      exact hA.oki List.mem_cons_self
  · have := hx1 b hb2
    omega
  · show 0 ≤ l 24 ∧ l 24 ≤ _
    rw [hl24]
    exact ⟨by omega, by omega⟩
  · show (cnt l [24] ((0 : Nat) : Int) : Int) + (if l 24 < ((0 : Nat) : Int) then 1 else 0) ≤ 1
    have h3 : cnt l [24] ((0 : Nat) : Int) ≤ 1 := by
      unfold cnt
      exact List.countP_le_length
    rw [hl24, if_neg (by omega)]
    omega
  · show -1 ≤ l v ∧ l v ≤ _
    rw [hx1 v hv, hl24]
    exact ⟨by omega, by omega⟩
  · have h3 := (hb b hb2).2
    constructor
    · intro q
      omega
    · intro q
      have := hx1 b q
      omega
  · rw [hpx]
    exact hv
  · show l 24 ≤ 0
    omega
