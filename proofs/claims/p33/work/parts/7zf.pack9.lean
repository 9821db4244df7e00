/-! packing: all the levels, the release and the lists of boxes -/
def Kp2 (T T' : TV) : Prop := (∀ z t, z < 24 → t < 4 → tCor T' (4 * z + t) = tCor T (4 * z + t)) ∧ (tR T' = tR T ∧ tCap T' = tCap T ∧ tRei T' = tRei T ∧ tSpl T' = tSpl T ∧ tRec T' = tRec T)
theorem lvl_go (k : Int → Int → (Nat → Int) → TV → Option ((Nat → Int) × TV)) (k' : Int → Int → (Nat → Int) → Option (Int × (Nat → Int) × (Nat → Int) × Int × (Nat → Int))) {cap : Nat} : ∀ (d : Nat) (lx : Int) (T : TV) (kl : Nat → List Nat) (Q G N : List Nat) (row s : Nat → Int) (n n' : Nat), G.length ≤ d → d < n → d < n' → PK cap lx T kl Q G N row s → ((N.length ≤ 8 ∧ G.length ≤ 8) ∨ (N.length ≤ 11 ∧ G.length ≤ 3) ∨ (N.length ≤ 12 ∧ G.length = 1)) → ∃ (lx' : Int) (T' : TV) (kl' : Nat → List Nat) (Q' N' : List Nat) (x : Nat) (row' s' : Nat → Int), f_Pk_rebuild_L107 k n (G.length : Int) (lx + 1) row T = k 1 (lx' + 1) row' T' ∧ f_Mo_pack_L71 k' n' (G.length : Int) lx s = k' 1 lx' s' ∧ PK cap lx' T' kl' Q' [x] N' row' s' ∧ N'.length ≤ 12 ∧ Fr s s' ∧ (∀ v ∈ Q, v ∈ Q' ∧ tLev T' v = tLev T v) ∧ (∀ v ∈ Q', v < 24 → v ∈ Q) ∧ Kp2 T T' ∧ (lx ≤ lx' ∧ (G.length = 1 → lx' ≤ lx) ∧ (G.length ≤ 3 → lx' ≤ lx + 1) ∧ lx' ≤ lx + 2) := by
  intro d
  induction d with
  | zero =>
    intro lx T kl Q G N row s n n' hd hn hn' K hNG
    have := K.2.2.2.1.2.1
    omega
  | succ d ih =>
    intro lx T kl Q G N row s n n' hd hn hn' K hNG
    obtain ⟨n, rfl⟩ : ∃ z, n = z + 1 := ⟨n - 1, by omega⟩
    obtain ⟨n', rfl⟩ : ∃ z, n' = z + 1 := ⟨n' - 1, by omega⟩
    have hG1 := K.2.2.2.1.2
    have hlx := K.2.1
    by_cases h1 : 1 < G.length
    · have hc35 := K.1.2.2.2
      have hg : (G.length + cap - 1) / cap < G.length ∧ (G.length + cap - 1) / cap ≤ (G.length + 2) / 3 := by
        rcases (show cap = 3 ∨ cap = 4 ∨ cap = 5 by omega) with q | q | q <;> subst q <;> omega
      obtain ⟨T1, kl1, Q1, G1, row1, s1, a1, a2, a3, a4, a5, a6, a7, a8, a9⟩ := pk_up K h1 (by omega)
      have hN1 : (N ++ G1).length = N.length + G1.length := List.length_append
      have hG1' : 1 ≤ G1.length := a3.2.2.2.1.2.1
      obtain ⟨lx', T', kl', Q', N', x, row', s', b1, b2, b3, b4, b5, b6, b7, b8, b9⟩ := ih (lx + 1) T1 kl1 Q1 G1 (N ++ G1) row1 s1 n n' (by omega) (by omega) (by omega) a3 (by
        rw [hN1]
        have := a3.2.2.2.1.2.1
        omega)
      refine ⟨lx', T', kl', Q', N', x, row', s', ?_, ?_, b3, b4, a5.tr b5, fun v hv => ⟨(b6 v (a6 v hv).1).1, ((b6 v (a6 v hv).1).2).trans (a6 v hv).2⟩, fun v hv h24 => ?_, ⟨fun z t hz ht => (b8.1 z t hz ht).trans (a8 z t hz ht), b8.2.1.trans a9.1, b8.2.2.1.trans a9.2.1, b8.2.2.2.1.trans a9.2.2.1, b8.2.2.2.2.1.trans a9.2.2.2.1, b8.2.2.2.2.2.trans a9.2.2.2.2⟩, ⟨by omega, fun q => by omega, fun q => by have := b9.2.1 (by omega); omega, by have := b9.2.2.1 (by omega); omega⟩⟩
      · rw [f_Pk_rebuild_L107, gd_p ⟨by omega, by omega⟩, if_pos (by omega), if_neg (by omega), gd_p ⟨by omega, by omega⟩, if_pos (by omega), bd3_p a1]
        exact b1
      · rw [f_Mo_pack_L71, gd_p ⟨by omega, by omega⟩, if_pos (by omega), bd2_p a2]
        exact b2
      · rcases a7 v (b7 v hv h24) with q | q
        · exact q
        · have := (a3.2.2.1 v q).2.2.2.1
          omega
    · have hG : G.length = 1 := by omega
      obtain ⟨x, rfl⟩ : ∃ x, G = [x] := List.length_eq_one_iff.mp hG
      refine ⟨lx, T, kl, Q, N, x, row, s, ?_, ?_, K, by omega, Fr.rf, fun v hv => ⟨hv, rfl⟩, fun v hv _ => hv, ⟨fun _ _ _ _ => rfl, rfl, rfl, rfl, rfl, rfl⟩, ⟨by omega, fun _ => by omega, fun _ => by omega, by omega⟩⟩
      · rw [f_Pk_rebuild_L107, hG, gd_p ⟨by omega, by omega⟩, if_pos (by omega), if_neg (by omega), gd_p ⟨by omega, by omega⟩, if_neg (by omega)]
        rfl
      · rw [f_Mo_pack_L71, hG, gd_p ⟨by omega, by omega⟩, if_neg (by omega)]
        rfl
theorem rz_go {R : Nat} (hR : R = 157) (k : Int → TV → Option TV) : ∀ (d x n : Nat) (T : TV), tR T = R → x + d = R → d < n → ∃ l h z : Nat → Int, f_Tr_releaseNodes_L3 k n (x : Int) T = k (R : Int) (sSiz (sHol (sLev T l) h) z) ∧ (∀ j, x ≤ j → j < R → l j = -2 ∧ h j = -1 ∧ z j = 0) ∧ ∀ j, j < x → l j = tLev T j ∧ h j = tHol T j ∧ z j = tSiz T j := by
  intro d
  induction d with
  | zero =>
    intro x n T hT hx hn
    obtain ⟨n, rfl⟩ : ∃ z, n = z + 1 := ⟨n - 1, by omega⟩
    refine ⟨tLev T, tHol T, tSiz T, ?_, fun j h1 h2 => absurd h1 (by omega), fun j _ => ⟨rfl, rfl, rfl⟩⟩
    rw [f_Tr_releaseNodes_L3, gd_p ⟨by omega, by omega⟩, if_neg (by omega), show (x : Int) = (R : Int) by omega]
  | succ d ih =>
    intro x n T hT hx hn
    obtain ⟨n, rfl⟩ : ∃ z, n = z + 1 := ⟨n - 1, by omega⟩
    obtain ⟨l, h, z, e1, e2, e3⟩ := ih (x + 1) n (tk T x (-2)) hT (by omega) (by omega)
    have hrel : f_Tr_release T (x : Int) = some (tk T x (-2)) := by
      unfold f_Tr_release
      rw [bd1_p (take_sp (by omega) (by omega))]
    refine ⟨l, h, z, ?_, fun j h1 h2 => ?_, fun j hj => ?_⟩
    · rw [f_Tr_releaseNodes_L3, gd_p ⟨by omega, by omega⟩, if_pos (by omega), bd1_p hrel, show (x : Int) + 1 = ((x + 1 : Nat) : Int) by omega]
      exact e1
    · by_cases hj : j = x
      · subst hj
        have := e3 j (by omega)
        exact ⟨this.1.trans up_s, this.2.1.trans up_s, this.2.2.trans up_s⟩
      · exact e2 j (by omega) h2
    · have := e3 j (by omega)
      exact ⟨this.1.trans (up_o (by omega)), this.2.1.trans (up_o (by omega)), this.2.2.trans (up_o (by omega))⟩
/-- the boxes that are there, rising -/
def bl (Q : List Nat) (i : Nat) : List Nat := (List.range i).filter (fun b => decide (b ∈ Q))
theorem bl_succ {Q : List Nat} {i : Nat} : bl Q (i + 1) = if i ∈ Q then bl Q i ++ [i] else bl Q i := by
  unfold bl
  rw [List.range_succ, List.filter_append]
  by_cases h : i ∈ Q
  · rw [if_pos h, List.filter_cons_of_pos (by simp [h])]
    rfl
  · rw [if_neg h, List.filter_cons_of_neg (by simp [h])]
    simp
theorem bl_len {Q : List Nat} {i : Nat} : (bl Q i).length ≤ i := by
  unfold bl
  have := List.length_filter_le (fun b => decide (b ∈ Q)) (List.range i)
  rw [List.length_range] at this
  exact this
theorem bl_mem {Q : List Nat} {z : Nat} : z ∈ bl Q 24 ↔ z < 24 ∧ z ∈ Q := by
  unfold bl
  rw [List.mem_filter, List.mem_range]
  simp
theorem hs_snoc {row : Nat → Int} {M : List Nat} {y : Nat} (h : Hs row 0 M) : Hs (up row M.length (y : Int)) 0 (M ++ [y]) := by
  rw [Hs.app, Nat.zero_add, Hs.cons]
  exact ⟨h.off (Or.inr (by omega)), up_s, Hs.nil⟩
theorem lb_go {T : TV} {kl : Nat → List Nat} {Q : List Nat} (h : Ar T kl Q) (k : Int → Int → (Nat → Int) → Option (Int × (Nat → Int))) : ∀ (d i n : Nat) (row : Nat → Int), i + d = 24 → d < n → Hs row 0 (bl Q i) → ∃ row', f_Pk_listBoxes_L4 T k n ((bl Q i).length : Int) (i : Int) row = k ((bl Q 24).length : Int) 24 row' ∧ Hs row' 0 (bl Q 24) := by
  intro d
  induction d with
  | zero =>
    intro i n row hi hn hrow
    obtain ⟨n, rfl⟩ : ∃ z, n = z + 1 := ⟨n - 1, by omega⟩
    have : i = 24 := by omega
    subst this
    refine ⟨row, ?_, hrow⟩
    rw [f_Pk_listBoxes_L4, gd_p ⟨by omega, by omega⟩, if_neg (by omega)]
    rfl
  | succ d ih =>
    intro i n row hi hn hrow
    obtain ⟨n, rfl⟩ : ∃ z, n = z + 1 := ⟨n - 1, by omega⟩
    have hl := bl_len (Q := Q) (i := i)
    have hs := bl_succ (Q := Q) (i := i)
    rw [f_Pk_listBoxes_L4, gd_p ⟨by omega, by omega⟩, if_pos (by omega), bd1_p (hasb_sp h (by omega)), show (i : Int) + 1 = ((i + 1 : Nat) : Int) by omega]
    by_cases hq : i ∈ Q
    · rw [if_pos hq] at hs
      obtain ⟨row', e1, e2⟩ := ih (i + 1) n (up row (bl Q i).length (i : Int)) (by omega) (by omega) (by rw [hs]; exact hs_snoc hrow)
      refine ⟨row', ?_, e2⟩
      rw [if_pos hq, gd_p ck_1, if_neg (by omega), bd1_p (put_sp (by omega) (by omega)), show ((bl Q i).length : Int) + 1 = ((bl Q (i + 1)).length : Int) by rw [hs, List.length_append]; rfl]
      exact e1
    · rw [if_neg hq] at hs
      obtain ⟨row', e1, e2⟩ := ih (i + 1) n row (by omega) (by omega) (by rw [hs]; exact hrow)
      refine ⟨row', ?_, e2⟩
      rw [if_neg hq, gd_p ck_0, if_pos rfl, ← hs]
      exact e1
theorem lm_go {s : Nat → Int} {Q : List Nat} (h : Bx s Q) (k : Int → Int → (Nat → Int) → Option (Int × (Nat → Int) × (Nat → Int) × Int × (Nat → Int))) : ∀ (d i n : Nat) (row : Nat → Int), i + d = 24 → d < n → Hs row 0 (bl Q i) → ∃ row', f_Mo_pack_L8 s k n ((bl Q i).length : Int) (i : Int) row = k ((bl Q 24).length : Int) 24 row' ∧ Hs row' 0 (bl Q 24) := by
  intro d
  induction d with
  | zero =>
    intro i n row hi hn hrow
    obtain ⟨n, rfl⟩ : ∃ z, n = z + 1 := ⟨n - 1, by omega⟩
    have : i = 24 := by omega
    subst this
    refine ⟨row, ?_, hrow⟩
    rw [f_Mo_pack_L8, gd_p ⟨by omega, by omega⟩, if_neg (by omega)]
    rfl
  | succ d ih =>
    intro i n row hi hn hrow
    obtain ⟨n, rfl⟩ : ∃ z, n = z + 1 := ⟨n - 1, by omega⟩
    have hl := bl_len (Q := Q) (i := i)
    have hs := bl_succ (Q := Q) (i := i)
    rw [f_Mo_pack_L8, gd_p ⟨by omega, by omega⟩, if_pos (by omega), bd1_p (isb_sp h (by omega)), show (i : Int) + 1 = ((i + 1 : Nat) : Int) by omega]
    by_cases hq : i ∈ Q
    · rw [if_pos hq] at hs
      obtain ⟨row', e1, e2⟩ := ih (i + 1) n (up row (bl Q i).length (i : Int)) (by omega) (by omega) (by rw [hs]; exact hs_snoc hrow)
      refine ⟨row', ?_, e2⟩
      rw [if_pos hq, gd_p ck_1, if_neg (by omega), gd_p ⟨by omega, by omega⟩, show (((bl Q i).length : Int)).toNat = (bl Q i).length by omega, show ((bl Q i).length : Int) + 1 = ((bl Q (i + 1)).length : Int) by rw [hs, List.length_append]; rfl]
      exact e1
    · rw [if_neg hq] at hs
      obtain ⟨row', e1, e2⟩ := ih (i + 1) n row (by omega) (by omega) (by rw [hs]; exact hrow)
      refine ⟨row', ?_, e2⟩
      rw [if_neg hq, gd_p ck_0, if_pos rfl, ← hs]
      exact e1
