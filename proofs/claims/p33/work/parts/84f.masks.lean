/-! sets of boxes as bits -/
def Mk (x : Int) (M : Nat → Prop) : Prop := ∃ m : Nat, x = (m : Int) ∧ m < 2 ^ 24 ∧ ∀ i, i < 24 → (m.testBit i = true ↔ M i)
theorem Mk.ck {x : Int} {M : Nat → Prop} (h : Mk x M) : ck x ∧ 0 ≤ x := by
  obtain ⟨m, rfl, h2, -⟩ := h
  exact ⟨⟨by omega, by omega⟩, by omega⟩
theorem Mk.zero : Mk 0 (fun _ => False) := ⟨0, rfl, by decide, fun i _ => by simp⟩
theorem Mk.iff {x : Int} {M N : Nat → Prop} (h : Mk x M) (e : ∀ i, i < 24 → (M i ↔ N i)) : Mk x N := by
  obtain ⟨m, h1, h2, h3⟩ := h
  exact ⟨m, h1, h2, fun i hi => (h3 i hi).trans (e i hi)⟩
theorem Mk.uniq {x y : Int} {M N : Nat → Prop} (h : Mk x M) (g : Mk y N) (e : ∀ i, i < 24 → (M i ↔ N i)) : x = y := by
  obtain ⟨m, rfl, h2, h3⟩ := h
  obtain ⟨n, rfl, g2, g3⟩ := g
  have : m = n := by
    apply Nat.eq_of_testBit_eq
    intro i
    by_cases hi : i < 24
    · have h1 := h3 i hi
      have h4 := g3 i hi
      have h5 := e i hi
      cases hm : m.testBit i <;> cases hn : n.testBit i
      · rfl
      · have := h1.mpr (h5.mpr (h4.mp hn))
        rw [hm] at this
        cases this
      · have := h4.mpr (h5.mp (h1.mp hm))
        rw [hn] at this
        cases this
      · rfl
    · have hp : (2 : Nat) ^ 24 ≤ 2 ^ i := Nat.pow_le_pow_right (by omega) (by omega)
      rw [Nat.testBit_lt_two_pow (Nat.lt_of_lt_of_le h2 hp), Nat.testBit_lt_two_pow (Nat.lt_of_lt_of_le g2 hp)]
  rw [this]
theorem shl_1 : ∀ b : Fin 24, iShl 1 (b.val : Int) = ((2 ^ b.val : Nat) : Int) := by decide +kernel
theorem shr_n : ∀ b : Fin 24, ((Int32.ofInt (b.val : Int) &&& 31).toBitVec.smod 32).toNat = b.val := by decide +kernel
theorem nI_or {a c : Nat} (ha : a < 2 ^ 31) (hc : c < 2 ^ 31) : nI a ||| nI c = nI (a ||| c) := by
  apply Int32.toBitVec_inj.mp
  apply BitVec.eq_of_toNat_eq
  rw [Int32.toBitVec_or, BitVec.toNat_or, pk_tn (by omega), pk_tn (by omega), pk_tn (Nat.or_lt_two_pow (by omega) (by omega))]
theorem ior_n {a c : Nat} (ha : a < 2 ^ 24) (hc : c < 2 ^ 24) : iOr (a : Int) (c : Int) = ((a ||| c : Nat) : Int) := by
  have h : (a ||| c) < 2 ^ 24 := Nat.or_lt_two_pow ha hc
  unfold iOr
  rw [← ofInt_nat, ← ofInt_nat]
  show (nI a ||| nI c).toInt = _
  rw [nI_or (by omega) (by omega), nI_toInt (by omega)]
theorem Mk.or {x : Int} {M : Nat → Prop} (h : Mk x M) {b : Nat} (hb : b < 24) : Mk (iOr x (iShl 1 (b : Int))) (fun i => M i ∨ i = b) := by
  obtain ⟨m, rfl, h2, h3⟩ := h
  have hs := shl_1 ⟨b, hb⟩
  have hp : 2 ^ b < 2 ^ 24 := Nat.pow_lt_pow_right (by omega) hb
  have hs : iShl 1 (b : Int) = ((2 ^ b : Nat) : Int) := hs
  refine ⟨m ||| 2 ^ b, ?_, Nat.or_lt_two_pow h2 hp, fun i hi => ?_⟩
  · rw [hs, ior_n h2 hp]
  · rw [Nat.testBit_or, Bool.or_eq_true, Nat.testBit_two_pow, decide_eq_true_eq, h3 i hi]
    exact ⟨fun q => q.imp id Eq.symm, fun q => q.imp id Eq.symm⟩
theorem Mk.bit {x : Int} {M : Nat → Prop} (h : Mk x M) {b : Nat} (hb : b < 24) : (M b → iAnd (iShr x (b : Int)) 1 = 1) ∧ (¬ M b → iAnd (iShr x (b : Int)) 1 = 0) := by
  obtain ⟨m, rfl, h2, h3⟩ := h
  have hsh : iShr (m : Int) (b : Int) = ((m / 2 ^ b : Nat) : Int) := by
    unfold iShr
    rw [← ofInt_nat]
    show (nI m >>> _).toInt = _
    rw [pk_shrN (by omega) _ b (shr_n ⟨b, hb⟩), nI_toInt (by have := Nat.div_le_self m (2 ^ b); omega)]
  have hle := Nat.div_le_self m (2 ^ b)
  have han : iAnd (iShr (m : Int) (b : Int)) 1 = ((m / 2 ^ b % 2 : Nat) : Int) := by
    rw [hsh]
    unfold iAnd
    rw [← ofInt_nat]
    show (nI (m / 2 ^ b) &&& Int32.ofInt 1).toInt = _
    rw [pk_andN (by omega) 1 (by decide), nI_toInt (by omega)]
  have hbit := h3 b hb
  rw [Nat.testBit_eq_decide_div_mod_eq, decide_eq_true_eq] at hbit
  rw [han]
  constructor
  · intro q
    have := hbit.mpr q
    omega
  · intro q
    have : ¬ m / 2 ^ b % 2 = 1 := fun z => q (hbit.mp z)
    omega
