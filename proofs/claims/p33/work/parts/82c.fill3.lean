/-! sim_fill -/
theorem nan32 {v : UInt32} (h : v &&& (0x7fffffff : UInt32) ≤ (0x7f800000 : UInt32)) : FP.Core.fIsNaN v = false := by
  cases q : FP.Core.fIsNaN v with
  | false => rfl
  | true =>
    have h1 := (FP.Core.isNaN_bits32 v).mp q
    rw [UInt32.le_iff_toNat_le, UInt32.toNat_and] at h
    have h2 : v.toNat &&& (2 ^ 31 - 1) = v.toNat % 2 ^ 31 := Nat.and_two_pow_sub_one_eq_mod _ _
    have h3 : v.toNat &&& (2 ^ 31 - 1) ≤ 2139095040 := h
    rw [h2] at h3
    omega
theorem f2d_num {v : UInt32} (h : v &&& (0x7fffffff : UInt32) ≤ (0x7f800000 : UInt32)) : FP.f2d v = FP.Core.f2d v := by
  unfold FP.f2d
  exact if_neg (by rw [nan32 h]; exact Bool.false_ne_true)
theorem sim_fill {c_hasSnapshot : Int} {T : TV} {LB : KV} {LN : KV} {K : KV} {c_characters : Nat → Int} {c_length : Int} {c_count : Int} {S0 : TV} {S1 : TV} {S2 : TV} {S3 : TV} {N : TV} {m_s : Nat → Int} {m_past : Nat → Int} {m_kept : Nat → Int} {m_isKept : Int} {m_pasts : Int} {m_text : Nat → Int} {m_typed : Int} (hR : Rel c_hasSnapshot T LB LN K c_characters c_length c_count S0 S1 S2 S3 N m_s m_past m_kept m_isKept m_pasts m_text m_typed)   : ∃ (r_1 : UInt32), f_Rt_fill T K = some (r_1) ∧ f_Mo_fill m_s = some (r_1) ∧ vf_n64 (FP.f2d r_1) ∧ FP.dcmp (FP.f2d r_1) (FP.f2d r_1) = some .eq := by
  obtain ⟨⟨kl, Q, r, O⟩, -⟩ := hR
  obtain ⟨J, h, hr, hrow, hRR⟩ := O.parts
  have hl := hrow.2.1
  have hfl := fl_len (pr (tLev T) kl r)
  have hs := set_sp O
  have hp1 : 1 ≤ (fl 1 (pr (tLev T) kl r)).length := by
    rw [pr_eq (Lk_at h.lk hr), fl_cons, if_pos J.2.1.2.1, List.length_cons]
    omega
  have hb : 0 < ((fl 1 (pr (tLev T) kl r)).length : Int) * tCap T ∧ ((fl 1 (pr (tLev T) kl r)).length : Int) * tCap T ≤ 1800 := by
    rcases (show tCap T = 3 ∨ tCap T = 4 ∨ tCap T = 5 by omega) with q | q | q <;> rw [q] <;> omega
  have hne : Int32.ofInt (((fl 1 (pr (tLev T) kl r)).length : Int) * tCap T) ≠ 0 := fun q => by
    have h1 := congrArg Int32.toInt q
    rw [ck_toInt ⟨by omega, by omega⟩] at h1
    have h2 : (0 : Int32).toInt = 0 := rfl
    omega
  obtain ⟨h1, h2, h3⟩ := fl_num (a := Int32.ofInt (((pr (tLev T) kl r).length : Int) - 1)) hne
  obtain ⟨e1, e2⟩ := q_fill O h1
  have e9 : FP.f2d (flv T kl r) = FP.Core.f2d (flv T kl r) := f2d_num h1
  exact ⟨flv T kl r, e1, e2, by rw [e9]; exact h2, by rw [e9]; exact h3⟩
