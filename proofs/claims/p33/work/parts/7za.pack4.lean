/-! packing: the class's sort by insertion beside the reference's by exchange -/
def Hs (row : Nat → Int) (o : Nat) (M : List Nat) : Prop := ∀ (j y : Nat), M[j]? = some y → row (o + j) = (y : Int)
theorem Hs.cons {row : Nat → Int} {o y : Nat} {B : List Nat} : Hs row o (y :: B) ↔ row o = (y : Int) ∧ Hs row (o + 1) B := by
  constructor
  · intro h
    refine ⟨h 0 y rfl, fun j z hz => ?_⟩
    rw [show o + 1 + j = o + (j + 1) by omega]
    exact h (j + 1) z hz
  · rintro ⟨h1, h2⟩ j z hz
    match j, hz with
    | 0, hz =>
      have : y = z := Option.some.inj hz
      rw [← this]
      exact h1
    | j + 1, hz =>
      have := h2 j z hz
      rw [show o + (j + 1) = o + 1 + j by omega]
      exact this
theorem Hs.nil {row : Nat → Int} {o : Nat} : Hs row o [] := fun j y h => by cases h
theorem Hs.app {row : Nat → Int} : ∀ {A B : List Nat} {o : Nat}, Hs row o (A ++ B) ↔ Hs row o A ∧ Hs row (o + A.length) B
  | [], B, o => ⟨fun h => ⟨Hs.nil, h⟩, fun h => h.2⟩
  | a :: A, B, o => by
    rw [List.cons_append, Hs.cons, Hs.cons, Hs.app, List.length_cons, show o + (A.length + 1) = o + 1 + A.length by omega, and_assoc]
theorem Hs.off {row : Nat → Int} {o p : Nat} {M : List Nat} {v : Int} (h : Hs row o M) (hp : p < o ∨ o + M.length ≤ p) : Hs (up row p v) o M := fun j y hy => by
  have := (List.getElem?_eq_some_iff.mp hy).1
  rw [up_o (by omega)]
  exact h j y hy
/-- a sort's key: it tells two boxes apart -/
def kyT (c : Nat → Int) (ax y : Nat) : Int := 24 * (c (4 * y + ax) + c (4 * y + (ax + 2))) + (y : Int)
theorem ahead_sp {T : TV} {ax v u : Nat} (hR : tR T ≤ 8192) (hax : ax < 2) (hv : v < 24) (hu : u < 24) (hvR : v < tR T) (huR : u < tR T) (gv : rg (tCor T) v) (gu : rg (tCor T) u) : f_Pk_comesAhead T (v : Int) (u : Int) (ax : Int) = some (if kyT (tCor T) ax v < kyT (tCor T) ax u then 1 else 0) := by
  have a1 := gv ax (by omega)
  have a2 := gv (ax + 2) (by omega)
  have b1 := gu ax (by omega)
  have b2 := gu (ax + 2) (by omega)
  have d1 : f_Tr_doubleCenter T (v : Int) (ax : Int) = some (tCor T (4 * v + ax) + tCor T (4 * v + (ax + 2))) := by
    unfold f_Tr_doubleCenter
    rw [bd1_p (t_corner hR hvR (by omega)), show (ax : Int) + 2 = ((ax + 2 : Nat) : Int) by omega, bd1_p (t_corner hR hvR (by omega))]
  have d2 : f_Tr_doubleCenter T (u : Int) (ax : Int) = some (tCor T (4 * u + ax) + tCor T (4 * u + (ax + 2))) := by
    unfold f_Tr_doubleCenter
    rw [bd1_p (t_corner hR huR (by omega)), show (ax : Int) + 2 = ((ax + 2 : Nat) : Int) by omega, bd1_p (t_corner hR huR (by omega))]
  unfold f_Pk_comesAhead kyT
  rw [bd1_p d1, bd1_p d2, gd_p ⟨by omega, by omega⟩]
  by_cases h1 : (tCor T (4 * v + ax) + tCor T (4 * v + (ax + 2))) - (tCor T (4 * u + ax) + tCor T (4 * u + (ax + 2))) < 0
  · rw [if_pos h1, if_pos (by omega)]
  · rw [if_neg h1]
    by_cases h2 : (tCor T (4 * v + ax) + tCor T (4 * v + (ax + 2))) - (tCor T (4 * u + ax) + tCor T (4 * u + (ax + 2))) = 0
    · rw [if_pos h2, gd_p ⟨by omega, by omega⟩, gd_p ⟨by omega, by omega⟩]
      by_cases h3 : v < u
      · rw [if_pos (by omega), if_pos (by omega)]
      · rw [if_neg (by omega), if_neg (by omega)]
    · rw [if_neg h2, if_neg (by omega)]
theorem ky_inj {c : Nat → Int} {ax v u : Nat} (hv : v < 24) (hu : u < 24) (h : kyT c ax v = kyT c ax u) : v = u := by
  unfold kyT at h
  omega
/-- what a sort of a part must give -/
def Srt (c : Nat → Int) (ax : Nat) (M S : List Nat) : Prop := M.Perm S ∧ S.Pairwise (fun v u => kyT c ax v < kyT c ax u)
theorem Srt.uniq {c : Nat → Int} {ax : Nat} {M S S' : List Nat} (h : Srt c ax M S) (h' : Srt c ax M S') : S = S' := List.Perm.eq_of_pairwise (fun a b _ _ h1 h2 => by omega) h.2 h'.2 (h.1.symm.trans h'.1)
theorem si_in {T : TV} {ax v : Nat} {A R : List Nat} (hR : tR T ≤ 8192) (hR24 : 24 ≤ tR T) (hax : ax < 2) (hrg : ∀ z, z < 24 → rg (tCor T) z) (hv : v < 24) (k : Int → (Nat → Int) → Option (Nat → Int)) : ∀ (S1 S2 : List Nat) (n d : Nat) (row : Nat → Int), d = S1.length → d < n → A.length + S1.length + 1 + S2.length + R.length ≤ 24 → (∀ z ∈ S1, z < 24) → v ∉ S1 → Hs row 0 (A ++ S1) → Hs row (A.length + S1.length + 1) (S2 ++ R) → S1.Pairwise (fun v u => kyT (tCor T) ax v < kyT (tCor T) ax u) → (∀ z ∈ S2, kyT (tCor T) ax v < kyT (tCor T) ax z) → ∃ (U1 U2 : List Nat) (row' : Nat → Int), f_Pk_sortPart_L26 T (A.length : Int) (ax : Int) (v : Int) k n ((A.length + S1.length : Nat) : Int) row = k ((A.length + U1.length : Nat) : Int) row' ∧ U1 ++ U2 = S1 ++ S2 ∧ (∀ z ∈ U1, kyT (tCor T) ax z < kyT (tCor T) ax v) ∧ (∀ z ∈ U2, kyT (tCor T) ax v < kyT (tCor T) ax z) ∧ Hs row' 0 (A ++ U1) ∧ Hs row' (A.length + U1.length + 1) (U2 ++ R) := by
  intro S1 S2 n d
  induction d generalizing S1 S2 n with
  | zero =>
    intro row hd hn hl hS hvS h1 h2 hp hgt
    obtain ⟨n, rfl⟩ : ∃ z, n = z + 1 := ⟨n - 1, by omega⟩
    have hS1 : S1 = [] := List.length_eq_zero_iff.mp hd.symm
    subst hS1
    refine ⟨[], S2, row, ?_, rfl, (fun z hz => by cases hz), hgt, h1, h2⟩
    rw [f_Pk_sortPart_L26, List.length_nil, gd_p ⟨by omega, by omega⟩, gd_p ⟨by omega, by omega⟩, if_neg (by omega)]
  | succ d ih =>
    intro row hd hn hl hS hvS h1 h2 hp hgt
    obtain ⟨n, rfl⟩ : ∃ z, n = z + 1 := ⟨n - 1, by omega⟩
    have hne : S1 ≠ [] := fun q => by rw [q] at hd; cases hd
    obtain ⟨S0, u, rfl⟩ : ∃ S0 u, S1 = S0 ++ [u] := ⟨S1.dropLast, S1.getLast hne, (List.dropLast_concat_getLast hne).symm⟩
    rw [List.length_append, List.length_singleton] at hd hl h2
    have hu : u < 24 := hS u (by simp)
    have hru : row (A.length + S0.length) = (u : Int) := by
      have h3 : Hs row 0 ((A ++ S0) ++ [u]) := by rw [List.append_assoc]; exact h1
      have h4 := (Hs.cons.mp (Hs.app.mp h3).2).1
      rw [List.length_append, Nat.zero_add] at h4
      exact h4
    have hat : f_Rt_at 24 row (((A.length + (S0.length + 1) : Nat) : Int) - 1) = some (u : Int) := by
      rw [show ((A.length + (S0.length + 1) : Nat) : Int) - 1 = ((A.length + S0.length : Nat) : Int) by omega, at_sp (by omega) (by omega), hru]
    have hah := ahead_sp (T := T) (ax := ax) (v := v) (u := u) hR hax hv hu (by omega) (by omega) (hrg v hv) (hrg u hu)
    have hpa := List.pairwise_append.mp hp
    rw [List.length_append, List.length_singleton, f_Pk_sortPart_L26, gd_p ⟨by omega, by omega⟩, gd_p ⟨by omega, by omega⟩, if_pos (by omega), bd1_p hat, bd1_p hah]
    by_cases hlt : kyT (tCor T) ax v < kyT (tCor T) ax u
    · have hput : f_Rt_put 24 row ((A.length + (S0.length + 1) : Nat) : Int) (u : Int) = some (up row (A.length + (S0.length + 1)) (u : Int)) := put_sp (by omega) (by omega)
      rw [if_pos hlt, gd_p ck_1, if_neg (by omega), bd1_p hat, bd1_p hput, show ((A.length + (S0.length + 1) : Nat) : Int) + -1 = ((A.length + S0.length : Nat) : Int) by omega]
      have h1' : Hs (up row (A.length + (S0.length + 1)) (u : Int)) 0 (A ++ S0) := by
        have h3 : Hs row 0 ((A ++ S0) ++ [u]) := by rw [List.append_assoc]; exact h1
        exact (Hs.app.mp h3).1.off (Or.inr (by rw [List.length_append]; omega))
      have h2' : Hs (up row (A.length + (S0.length + 1)) (u : Int)) (A.length + S0.length + 1) ((u :: S2) ++ R) := by
        rw [List.cons_append, Hs.cons]
        exact ⟨up_s, h2.off (Or.inl (by omega))⟩
      obtain ⟨U1, U2, row', g1, g2, g3, g4, g5, g6⟩ := ih S0 (u :: S2) n _ (by omega) (by omega) (by rw [List.length_cons]; omega) (fun z hz => hS z (List.mem_append_left _ hz)) (fun q => hvS (List.mem_append_left _ q)) h1' h2' hpa.1 (fun z hz => by
        rcases List.mem_cons.mp hz with q | q
        · rw [q]; exact hlt
        · exact hgt z q)
      exact ⟨U1, U2, row', g1, by rw [g2]; simp, g3, g4, g5, g6⟩
    · have hvu : v ≠ u := fun q => hvS (by rw [q]; simp)
      have hne2 : kyT (tCor T) ax v ≠ kyT (tCor T) ax u := fun q => hvu (ky_inj hv hu q)
      rw [if_neg hlt, gd_p ck_0, if_pos rfl]
      refine ⟨S0 ++ [u], S2, row, ?_, rfl, fun z hz => ?_, hgt, h1, ?_⟩
      · rw [List.length_append, List.length_singleton]
      · rcases List.mem_append.mp hz with q | q
        · have := hpa.2.2 z q u (by simp)
          omega
        · rw [List.mem_singleton.mp q]
          omega
      · rw [List.length_append, List.length_singleton]
        exact h2
theorem si_out {T : TV} {ax : Nat} {A B : List Nat} (hR : tR T ≤ 8192) (hR24 : 24 ≤ tR T) (hax : ax < 2) (hrg : ∀ z, z < 24 → rg (tCor T) z) (k : Int → (Nat → Int) → Option (Nat → Int)) : ∀ (R S : List Nat) (n : Nat) (row : Nat → Int), R.length < n → A.length + S.length + R.length + B.length ≤ 24 → (∀ z ∈ S ++ R, z < 24) → (S ++ R).Nodup → Hs row 0 (A ++ S) → Hs row (A.length + S.length) (R ++ B) → S.Pairwise (fun v u => kyT (tCor T) ax v < kyT (tCor T) ax u) → ∃ (S' : List Nat) (row' : Nat → Int), f_Pk_sortPart_L5 T (A.length : Int) ((A.length + S.length + R.length : Nat) : Int) (ax : Int) k n ((A.length + S.length : Nat) : Int) row = k ((A.length + S.length + R.length : Nat) : Int) row' ∧ Srt (tCor T) ax (S ++ R) S' ∧ Hs row' 0 (A ++ (S' ++ B)) := by
  intro R
  induction R with
  | nil =>
    intro S n row hn hl hS hnd h1 h2 hp
    obtain ⟨n, rfl⟩ : ∃ z, n = z + 1 := ⟨n - 1, by omega⟩
    rw [List.length_nil] at hl
    refine ⟨S, row, ?_, ⟨by rw [List.append_nil], hp⟩, ?_⟩
    · rw [f_Pk_sortPart_L5, List.length_nil, Nat.add_zero, gd_p ⟨by omega, by omega⟩, gd_p ⟨by omega, by omega⟩, if_neg (by omega)]
    · rw [← List.append_assoc, Hs.app, List.length_append, Nat.zero_add]
      exact ⟨h1, h2⟩
  | cons v R ih =>
    intro S n row hn hl hS hnd h1 h2 hp
    obtain ⟨n, rfl⟩ : ∃ z, n = z + 1 := ⟨n - 1, by omega⟩
    rw [List.length_cons] at hn hl
    have hv : v < 24 := hS v (by simp)
    rw [List.cons_append, Hs.cons] at h2
    have hat : f_Rt_at 24 row ((A.length + S.length : Nat) : Int) = some (v : Int) := by rw [at_sp (by omega) (by omega), h2.1]
    have hvS : v ∉ S := fun q => (List.nodup_append.mp hnd).2.2 v q v List.mem_cons_self rfl
    obtain ⟨U1, U2, row', g1, g2, g3, g4, g5, g6⟩ := si_in (T := T) (ax := ax) (v := v) (A := A) (R := R ++ B) hR hR24 hax hrg hv (fun x6_24 c_row_25 => bd1 (f_Rt_put 24 c_row_25 x6_24 (v : Int)) <| fun c_row_26 => f_Pk_sortPart_L5 T (A.length : Int) ((A.length + S.length + (R.length + 1) : Nat) : Int) (ax : Int) k n (((A.length + S.length : Nat) : Int) + 1) c_row_26) S [] FU S.length row rfl (by unfold FU; omega) (by rw [List.length_append, List.length_nil]; omega) (fun z hz => hS z (List.mem_append_left _ hz)) hvS h1 h2.2 hp (fun z hz => by cases hz)
    rw [List.append_nil] at g2
    have hUl := congrArg List.length g2
    rw [List.length_append] at hUl
    have hS2 : (U1 ++ v :: U2).length = S.length + 1 := by
      rw [List.length_append, List.length_cons]
      omega
    have hperm : (S ++ v :: R).Perm ((U1 ++ v :: U2) ++ R) := by
      rw [← g2]
      have e1 : (U1 ++ U2 ++ v :: R).Perm (v :: (U1 ++ U2 ++ R)) := List.perm_middle
      have e2 : (U1 ++ v :: U2 ++ R).Perm (v :: (U1 ++ U2 ++ R)) := by
        have := (List.perm_middle (a := v) (l₁ := U1) (l₂ := U2)).append_right R
        exact this
      exact e1.trans e2.symm
    have h1n : Hs (up row' (A.length + U1.length) (v : Int)) 0 (A ++ (U1 ++ v :: U2)) := by
      rw [← List.append_assoc, Hs.app, List.length_append, Nat.zero_add, Hs.cons]
      exact ⟨g5.off (Or.inr (by rw [List.length_append]; omega)), up_s, (Hs.app.mp g6).1.off (Or.inl (by omega))⟩
    have h2n : Hs (up row' (A.length + U1.length) (v : Int)) (A.length + (U1 ++ v :: U2).length) (R ++ B) := by
      rw [hS2, show A.length + (S.length + 1) = A.length + U1.length + 1 + U2.length by omega]
      exact (Hs.app.mp g6).2.off (Or.inl (by omega))
    have hpn : (U1 ++ v :: U2).Pairwise (fun v u => kyT (tCor T) ax v < kyT (tCor T) ax u) := by
      rw [← g2] at hp
      have hpa := List.pairwise_append.mp hp
      refine List.pairwise_append.mpr ⟨hpa.1, List.pairwise_cons.mpr ⟨g4, hpa.2.1⟩, fun a ha b hb => ?_⟩
      rcases List.mem_cons.mp hb with q | q
      · rw [q]; exact g3 a ha
      · exact hpa.2.2 a ha b q
    obtain ⟨S', row2, r1, r2, r3⟩ := ih (U1 ++ v :: U2) n (up row' (A.length + U1.length) (v : Int)) (by omega) (by rw [hS2]; omega) (fun z hz => hS z (hperm.mem_iff.mpr hz)) (hperm.nodup_iff.mp hnd) h1n h2n hpn
    rw [hS2] at r1
    refine ⟨S', row2, ?_, ⟨hperm.trans r2.1, r2.2⟩, r3⟩
    rw [f_Pk_sortPart_L5, List.length_cons, gd_p ⟨by omega, by omega⟩, gd_p ⟨by omega, by omega⟩, if_pos (by omega), bd1_p hat]
    refine g1.trans ?_
    rw [bd1_p (put_sp (by omega) (by omega)), show ((A.length + S.length : Nat) : Int) + 1 = ((A.length + (S.length + 1) : Nat) : Int) by omega, show A.length + S.length + (R.length + 1) = A.length + (S.length + 1) + R.length by omega]
    exact r1
/-- the class sorts a part -/
theorem si_sp {T : TV} {ax : Nat} {A M B : List Nat} {row : Nat → Int} (hR : tR T ≤ 8192) (hR24 : 24 ≤ tR T) (hax : ax < 2) (hrg : ∀ z, z < 24 → rg (tCor T) z) (hl : A.length + M.length + B.length ≤ 24) (hM : ∀ z ∈ M, z < 24) (hnd : M.Nodup) (h : Hs row 0 (A ++ (M ++ B))) : ∃ (S : List Nat) (row' : Nat → Int), f_Pk_sortPart row T (A.length : Int) ((A.length + M.length : Nat) : Int) (ax : Int) = some row' ∧ Srt (tCor T) ax M S ∧ Hs row' 0 (A ++ (S ++ B)) := by
  have h' := Hs.app.mp h
  rw [Nat.zero_add] at h'
  unfold f_Pk_sortPart
  match M, hl, hM, hnd, h, h' with
  | [], hl, hM, hnd, h, h' =>
    refine ⟨[], row, ?_, ⟨List.Perm.refl _, List.Pairwise.nil⟩, h⟩
    rw [List.length_nil] at hl ⊢
    rw [show FU = 4095 + 1 from rfl, f_Pk_sortPart_L5, gd_p ⟨by omega, by omega⟩, gd_p ⟨by omega, by omega⟩, if_neg (by omega)]
  | v :: R, hl, hM, hnd, h, h' =>
    rw [List.length_cons] at hl
    rw [List.cons_append, Hs.cons] at h'
    obtain ⟨S', row', r1, r2, r3⟩ := si_out (T := T) (ax := ax) (A := A) (B := B) hR hR24 hax hrg (fun x4_29 c_row_30 => some (c_row_30)) R [v] FU row (by unfold FU; omega) (by rw [List.length_singleton]; omega) hM hnd (Hs.app.mpr ⟨h'.1, by rw [Nat.zero_add, Hs.cons]; exact ⟨h'.2.1, Hs.nil⟩⟩) h'.2.2 (List.pairwise_singleton _ _)
    refine ⟨S', row', ?_, r2, r3⟩
    rw [List.length_singleton] at r1
    rw [List.length_cons, show (A.length : Int) + 1 = ((A.length + 1 : Nat) : Int) by omega, show A.length + (R.length + 1) = A.length + 1 + R.length by omega]
    exact r1
