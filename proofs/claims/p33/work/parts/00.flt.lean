/-! the quotient is a number (the library's float laws) -/
theorem an32 {v : UInt32} (h : FP.Core.fIsNaN v = false) : v &&& (0x7fffffff : UInt32) ≤ (0x7f800000 : UInt32) := by
  have h1 : ¬ 2139095040 < v.toNat % 2 ^ 31 := fun q => by
    rw [(FP.Core.isNaN_bits32 v).mpr q] at h
    cases h
  rw [UInt32.le_iff_toNat_le, UInt32.toNat_and]
  have h2 : v.toNat &&& (2 ^ 31 - 1) = v.toNat % 2 ^ 31 := Nat.and_two_pow_sub_one_eq_mod _ _
  show v.toNat &&& (2 ^ 31 - 1) ≤ 2139095040
  rw [h2]
  omega
theorem an64 {v : UInt64} (h : FP.Core.dIsNaN v = false) : v &&& (0x7fffffffffffffff : UInt64) ≤ (0x7ff0000000000000 : UInt64) := by
  have h1 : ¬ 9218868437227405312 < v.toNat % 2 ^ 63 := fun q => by
    rw [(FP.Core.isNaN_bits v).mpr q] at h
    cases h
  rw [UInt64.le_iff_toNat_le, UInt64.toNat_and]
  have h2 : v.toNat &&& (2 ^ 63 - 1) = v.toNat % 2 ^ 63 := Nat.and_two_pow_sub_one_eq_mod _ _
  show v.toNat &&& (2 ^ 63 - 1) ≤ 9218868437227405312
  rw [h2]
  omega
theorem fl_num {a b : Int32} (hb : b ≠ 0) : FP.Core.fdiv (FP.Core.i2f a) (FP.Core.i2f b) &&& (0x7fffffff : UInt32) ≤ (0x7f800000 : UInt32) ∧ FP.Core.f2d (FP.Core.fdiv (FP.Core.i2f a) (FP.Core.i2f b)) &&& (0x7fffffffffffffff : UInt64) ≤ (0x7ff0000000000000 : UInt64) ∧ FP.Core.dcmp (FP.Core.f2d (FP.Core.fdiv (FP.Core.i2f a) (FP.Core.i2f b))) (FP.Core.f2d (FP.Core.fdiv (FP.Core.i2f a) (FP.Core.i2f b))) = some .eq := by
  have h1 : FP.Core.fIsNaN (FP.Core.fdiv (FP.Core.i2f a) (FP.Core.i2f b)) = false := FP.Core.fdiv_out (FP.Core.i2f_fin a).notNaN (FP.Core.i2f_fin b) (by rw [FP.Core.zero_bits232]; exact FP.Core.i2f_ne_zero hb)
  have h2 := FP.Core.f2d_out h1
  exact ⟨an32 h1, an64 h2, FP.Core.dcmp_refl h2⟩
