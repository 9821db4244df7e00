/-! the text, all of it -/
def KE (len : Nat) : Int → (Nat → Int) → Int → Int → Int → Int → Option RX := fun x1_37 c_parts_38 c_rectangles_39 c_part_40 c_digits_41 c_value_42 => gd (ck c_part_40) <| if c_part_40 = 3 then (bd6 (f_Tx_takeSign c_parts_38 c_rectangles_39 c_part_40 c_digits_41 c_value_42 59) <| fun r_46 c_parts_47 c_rectangles_48 c_part_49 c_digits_50 c_value_51 => gd (ck r_46) <| if r_46 = 0 then (some ((len : Int), c_parts_47, c_rectangles_48, c_part_49, c_digits_50, c_value_51)) else (some ((-5), c_parts_47, c_rectangles_48, c_part_49, c_digits_50, c_value_51))) else (some ((len : Int), c_parts_38, c_rectangles_39, c_part_40, c_digits_41, c_value_42))
def C22 (ch : Nat → Int) (len : Nat) (m i : Nat) (P : Nat → Int) (n p : Nat) (d v : Int) : Option RX := f_Tx_findFault_L22 ch (len : Int) (KE len) m (i : Int) P (n : Int) (p : Int) d v
/-- class and reference have the same text -/
def Tx (ch tx : Nat → Int) (len : Nat) : Prop := len ≤ 80 ∧ ∀ i, i < len → ch i = tx i ∧ 32 ≤ tx i ∧ tx i ≤ 126
theorem c_dig {ch tx : Nat → Int} {len m i n p : Nat} {P : Nat → Int} {d v g : Int} (E : Tx ch tx len) (hi : i < len) (hg : tx i = 48 + g) (h0 : 0 ≤ g ∧ g ≤ 9) : C22 ch len (m + 1) i P n p d v = bd3 (f_Tx_takeDigit P (n : Int) (p : Int) d v g) (fun r_30 c_digits_31 c_value_32 => gd (ck r_30) <| if r_30 = 0 then (some ((i : Int), P, (n : Int), (p : Int), c_digits_31, c_value_32)) else (C22 ch len m (i + 1) P n p c_digits_31 c_value_32)) := by
  have hl := E.1
  have he := E.2 i hi
  unfold C22
  rw [f_Tx_findFault_L22, gd_p ⟨by omega, by omega⟩, gd_p ⟨by omega, by omega⟩, if_pos (by omega), bd1_p (at_sp (n := 80) (f := ch) (by omega) (by omega)), he.1, hg, gd_p ⟨by omega, by omega⟩, if_neg (by omega), if_neg (by omega), show (48 + g - 48) = g by omega, show (i : Int) + 1 = ((i + 1 : Nat) : Int) by omega]
theorem c_sig {ch tx : Nat → Int} {len m i n p : Nat} {P : Nat → Int} {d v : Int} (E : Tx ch tx len) (hi : i < len) (hg : ¬ (48 ≤ tx i ∧ tx i ≤ 57)) : C22 ch len (m + 1) i P n p d v = bd6 (f_Tx_takeSign P (n : Int) (p : Int) d v (tx i)) (fun r_9 c_parts_10 c_rectangles_11 c_part_12 c_digits_13 c_value_14 => gd (ck r_9) <| if r_9 = 0 then (some ((i : Int), c_parts_10, c_rectangles_11, c_part_12, c_digits_13, c_value_14)) else (f_Tx_findFault_L22 ch (len : Int) (KE len) m ((i + 1 : Nat) : Int) (c_parts_10) (c_rectangles_11) (c_part_12) (c_digits_13) (c_value_14))) := by
  have hl := E.1
  have he := E.2 i hi
  unfold C22
  rw [f_Tx_findFault_L22, gd_p ⟨by omega, by omega⟩, gd_p ⟨by omega, by omega⟩, if_pos (by omega), bd1_p (at_sp (n := 80) (f := ch) (by omega) (by omega)), he.1, gd_p ⟨by omega, by omega⟩]
  by_cases h1 : tx i < 48
  · rw [if_pos h1, show (i : Int) + 1 = ((i + 1 : Nat) : Int) by omega]
  · rw [if_neg h1, if_pos (by omega), show (i : Int) + 1 = ((i + 1 : Nat) : Int) by omega]
theorem c_end {ch : Nat → Int} {len m i n p : Nat} {P : Nat → Int} {d v : Int} (hl : len ≤ 80) (hi : i = len) : C22 ch len (m + 1) i P n p d v = KE len (len : Int) P (n : Int) (p : Int) d v := by
  subst hi
  unfold C22
  rw [f_Tx_findFault_L22, gd_p ⟨by omega, by omega⟩, gd_p ⟨by omega, by omega⟩, if_neg (by omega)]
theorem ke_no {len n p : Nat} {P : Nat → Int} {d v : Int} (hn : n ≤ 12) (hp : p < 4) (hL : 0 ≤ lst P n p ∧ lst P n p ≤ 99) (hd : d = 0 ∨ d = 1 ∨ d = 2) (hv : 0 ≤ v ∧ v ≤ 99) (h : p ≠ 3 ∨ d = 0 ∨ v < lst P n p) : KE len (len : Int) P (n : Int) (p : Int) d v = some ((len : Int), P, (n : Int), (p : Int), d, v) := by
  unfold KE
  rw [gd_p ⟨by omega, by omega⟩]
  by_cases h3 : p = 3
  · have hts := ts_no (c := 59) hn hp hL hd hv ⟨by omega, by omega⟩ (Or.inr (h.resolve_left (fun q => q h3)))
    rw [if_pos (by omega), bd6_p hts, gd_p ck_0, if_pos rfl]
  · rw [if_neg (by omega)]
theorem num_sp {ch tx : Nat → Int} {len i n k m : Nat} {mP P : Nat → Int} (E : Tx ch tx len) (hi : i ≤ len) (hk : k < 4) (hn : n ≤ 12) (hn9 : i < len → n ≤ 9) (hL : 0 ≤ lst P n k ∧ lst P n k ≤ 99) (hm : len - i < m) :
    (∃ (f : Nat) (mP' : Nat → Int) (X : (Nat → Int) × Int × Int × Int × Int), f_Mo_reads tx (len : Int) (i : Int) (n : Int) mP (k : Int) (lst P n k) = some (0, (f : Int), mP') ∧ C22 ch len m i P n k 0 0 = some ((f : Int), X) ∧ f ≤ len) ∨
    (∃ (j : Nat) (v d : Int) (m' : Nat), f_Mo_reads tx (len : Int) (i : Int) (n : Int) mP (k : Int) (lst P n k) = some (1, (j : Int), up mP (4 * n + k) v) ∧ C22 ch len m i P n k 0 0 = C22 ch len m' j P n k d v ∧ lst P n k ≤ v ∧ v ≤ 99 ∧ i < j ∧ j ≤ len ∧ (d = 1 ∨ d = 2) ∧ len - j < m' ∧ (dg tx len j → d = 2 ∨ (d = 1 ∧ v = 0))) := by
  have hl := E.1
  have hT : ∀ i, i < len → 32 ≤ tx i ∧ tx i ≤ 126 := fun i hi => (E.2 i hi).2
  obtain ⟨m, rfl⟩ : ∃ q, m = q + 1 := ⟨m - 1, by omega⟩
  -- the class stops at a sign that does not fit, or at the end
  have stopc : ∀ (m i : Nat) (d v : Int), i ≤ len → ¬ dg tx len i → (d = 0 ∨ d = 1 ∨ d = 2) → 0 ≤ v ∧ v ≤ 99 → (d = 0 ∨ v < lst P n k) → ∃ X : (Nat → Int) × Int × Int × Int × Int, C22 ch len (m + 1) i P n k d v = some ((i : Int), X) := fun m i d v hi hdg hd hv hx => by
    by_cases hil : i < len
    · have hng : ¬ (48 ≤ tx i ∧ tx i ≤ 57) := fun q => hdg ⟨hil, q⟩
      have ht := hT i hil
      rw [c_sig E hil hng, bd6_p (ts_no hn hk hL hd hv ⟨by omega, by omega⟩ (Or.inr hx)), gd_p ck_0, if_pos rfl]
      exact ⟨_, rfl⟩
    · have hil : i = len := by omega
      rw [c_end hl hil, ke_no hn hk hL hd hv (Or.inr hx), hil]
      exact ⟨_, rfl⟩
  rcases reads_sp (mP := mP) (n := n) (k := k) (L := lst P n k) hl hi hT hk hn9 hL with ⟨h1, h2⟩ | ⟨h1, g, hg, hg0, hg9, ⟨a1, a2, a3⟩ | ⟨a1, a2, a3⟩ | ⟨a1, a2, a3⟩ | ⟨a1, a2, a3, a4⟩ | ⟨a1, a2, a3, g2, b1, b2, b3, ⟨b4, b5⟩ | ⟨b4, b5⟩⟩⟩
  · obtain ⟨X, hX⟩ := stopc m i 0 0 hi h1 (Or.inl rfl) ⟨by omega, by omega⟩ (Or.inl rfl)
    exact Or.inl ⟨i, mP, X, h2, hX, hi⟩
  · refine Or.inl ⟨i, mP, (P, (n : Int), (k : Int), 0, 0), a3, ?_, hi⟩
    rw [c_dig E h1.1 hg ⟨hg0, hg9⟩, td0 hn hk hL ⟨hg0, hg9⟩, if_pos (Or.inl ⟨a1, a2⟩), bd3_p rfl, gd_p ck_0, if_pos rfl]
  · have hil := h1.1
    refine Or.inr ⟨i + 1, 0, 1, m, a3, ?_, by omega, by omega, by omega, by omega, Or.inl rfl, by omega, fun _ => Or.inr ⟨rfl, rfl⟩⟩
    rw [c_dig E h1.1 hg ⟨hg0, hg9⟩, td0 hn hk hL ⟨hg0, hg9⟩, if_neg (by omega), bd3_p rfl, gd_p ⟨by omega, by omega⟩, if_neg (by omega), a1]
  · refine Or.inl ⟨i, mP, (P, (n : Int), (k : Int), 0, 0), a3, ?_, hi⟩
    rw [c_dig E h1.1 hg ⟨hg0, hg9⟩, td0 hn hk hL ⟨hg0, hg9⟩, if_pos (Or.inr ⟨a1, a2⟩), bd3_p rfl, gd_p ck_0, if_pos rfl]
  · have hil := h1.1
    have hc : C22 ch len (m + 1) i P n k 0 0 = C22 ch len m (i + 1) P n k 1 g := by
      rw [c_dig E h1.1 hg ⟨hg0, hg9⟩, td0 hn hk hL ⟨hg0, hg9⟩, if_neg (by omega), bd3_p rfl, gd_p ⟨by omega, by omega⟩, if_neg (by omega)]
    obtain ⟨m, rfl⟩ : ∃ q, m = q + 1 := ⟨m - 1, by omega⟩
    by_cases h5 : g < lst P n k
    · rw [if_pos h5] at a4
      obtain ⟨X, hX⟩ := stopc m (i + 1) 1 g (by omega) a3 (Or.inr (Or.inl rfl)) ⟨by omega, by omega⟩ (Or.inr h5)
      exact Or.inl ⟨i + 1, _, X, a4, hc.trans hX, by omega⟩
    · rw [if_neg h5] at a4
      exact Or.inr ⟨i + 1, g, 1, m + 1, a4, hc, by omega, by omega, by omega, by omega, Or.inl rfl, by omega, fun q => absurd q a3⟩
  · have hil := h1.1
    have hil2 := a3.1
    have hc : C22 ch len (m + 1) i P n k 0 0 = C22 ch len m (i + 1) P n k 1 g := by
      rw [c_dig E h1.1 hg ⟨hg0, hg9⟩, td0 hn hk hL ⟨hg0, hg9⟩, if_neg (by omega), bd3_p rfl, gd_p ⟨by omega, by omega⟩, if_neg (by omega)]
    obtain ⟨m, rfl⟩ : ∃ q, m = q + 1 := ⟨m - 1, by omega⟩
    refine Or.inl ⟨i + 1, mP, (P, (n : Int), (k : Int), 1, g), b5, hc.trans ?_, by omega⟩
    rw [c_dig E hil2 b1 ⟨b2, b3⟩, td1 hn hk hL ⟨b2, b3⟩ ⟨a1, hg9⟩, if_pos b4, bd3_p rfl, gd_p ck_0, if_pos rfl]
  · have hil := h1.1
    have hil2 := a3.1
    have hc : C22 ch len (m + 1) i P n k 0 0 = C22 ch len m (i + 1) P n k 1 g := by
      rw [c_dig E h1.1 hg ⟨hg0, hg9⟩, td0 hn hk hL ⟨hg0, hg9⟩, if_neg (by omega), bd3_p rfl, gd_p ⟨by omega, by omega⟩, if_neg (by omega)]
    obtain ⟨m, rfl⟩ : ∃ q, m = q + 1 := ⟨m - 1, by omega⟩
    refine Or.inr ⟨i + 2, 10 * g + g2, 2, m, b5, hc.trans ?_, by omega, by omega, by omega, by omega, Or.inr rfl, by omega, fun _ => Or.inl rfl⟩
    rw [c_dig E hil2 b1 ⟨b2, b3⟩, td1 hn hk hL ⟨b2, b3⟩ ⟨a1, hg9⟩, if_neg b4, bd3_p rfl, gd_p ⟨by omega, by omega⟩, if_neg (by omega)]
/-- the class behind a number: the sign that is due, or a fault -/
theorem sign_sp {ch tx : Nat → Int} {len j n k m : Nat} {P : Nat → Int} {d v : Int} (E : Tx ch tx len) (hk : k < 4) (hn : n ≤ 12) (hL : 0 ≤ lst P n k ∧ lst P n k ≤ 99) (hd : d = 1 ∨ d = 2) (hv : lst P n k ≤ v ∧ v ≤ 99) (hb : dg tx len j → d = 2 ∨ (d = 1 ∧ v = 0)) (hj : j < len) : (tx j = due k → C22 ch len (m + 1) j P n k d v = C22 ch len m (j + 1) (up P (4 * n + k) v) (if k = 3 then n + 1 else n) (if k = 3 then 0 else k + 1) 0 0) ∧ (tx j ≠ due k → ∃ X : (Nat → Int) × Int × Int × Int × Int, C22 ch len (m + 1) j P n k d v = some ((j : Int), X)) := by
  have ht := (E.2 j hj).2
  constructor
  · intro hq
    have hng : ¬ (48 ≤ tx j ∧ tx j ≤ 57) := by
      rw [hq]
      unfold due
      split <;> omega
    rw [c_sig E hj hng, hq, bd6_p (ts_ok hn hk hL hd hv), gd_p ⟨by omega, by omega⟩, if_neg (by omega)]
    unfold C22
    by_cases h3 : k = 3
    · rw [if_pos h3, if_pos h3, if_pos h3, if_pos h3]
      rfl
    · rw [if_neg h3, if_neg h3, if_neg h3, if_neg h3]
  · intro hq
    by_cases hdig : dg tx len j
    · have hg0 := hdig.2
      rw [c_dig (g := tx j - 48) E hj (by omega) ⟨by omega, by omega⟩, tdx (hb hdig), bd3_p rfl, gd_p ck_0, if_pos rfl]
      exact ⟨_, rfl⟩
    · have hng : ¬ (48 ≤ tx j ∧ tx j ≤ 57) := fun q => hdig ⟨hj, q⟩
      rw [c_sig E hj hng, bd6_p (ts_no hn hk hL (Or.inr hd) ⟨by omega, by omega⟩ ⟨by omega, by omega⟩ (Or.inl hq)), gd_p ck_0, if_pos rfl]
      exact ⟨_, rfl⟩
/-- the rest of a rectangle, from its part k on, for the reference -/
def RDk (tx : Nat → Int) (len i n k m2 : Nat) (mP : Nat → Int) : Option (Int × Int × Int × (Nat → Int)) := bd3 (f_Mo_reads tx (len : Int) (i : Int) (n : Int) mP (k : Int) (lst mP n k)) (fun r_13 c_spot_14 c_parts_15 => gd (ck r_13) <| if r_13 = 0 then (some (0, c_spot_14, (n : Int), c_parts_15)) else (f_Mo_readsRectangle_L2 tx (len : Int) (n : Int) (fun x1_42 c_spot_43 c_parts_44 => some (1, c_spot_43, ((n : Int) + 1), c_parts_44)) m2 ((k + 1 : Nat) : Int) (c_spot_14) (c_parts_15)))
def okr (P : Nat → Int) (n : Nat) : Prop := (0 ≤ P (4 * n) ∧ P (4 * n) ≤ P (4 * n + 2) ∧ P (4 * n + 2) ≤ 99) ∧ (0 ≤ P (4 * n + 1) ∧ P (4 * n + 1) ≤ P (4 * n + 3) ∧ P (4 * n + 3) ≤ 99)
theorem rect_go {ch tx : Nat → Int} {len n : Nat} (E : Tx ch tx len) (hn : n ≤ 12) : ∀ (dd k i m m2 : Nat) (P mP : Nat → Int), k + dd = 3 → i ≤ len → 8 * n + 2 * k ≤ i → (∀ q, q < 4 * n + k → P q = mP q) → (∀ q, q < k → 0 ≤ mP (4 * n + q) ∧ mP (4 * n + q) ≤ 99) → (2 < k → mP (4 * n) ≤ mP (4 * n + 2)) → len - i < m → dd < m2 →
    (∃ (f : Nat) (Y : Int × (Nat → Int)) (X : (Nat → Int) × Int × Int × Int × Int), RDk tx len i n k m2 mP = some (0, (f : Int), Y) ∧ C22 ch len m i P n k 0 0 = some ((f : Int), X) ∧ f ≤ len) ∨
    (∃ (j : Nat) (mP' P' : Nat → Int) (d : Int) (m' : Nat), RDk tx len i n k m2 mP = some (1, (j : Int), ((n + 1 : Nat) : Int), mP') ∧ C22 ch len m i P n k 0 0 = C22 ch len m' j P' n 3 d (mP' (4 * n + 3)) ∧ (d = 1 ∨ d = 2) ∧ (∀ q, q < 4 * n + 3 → P' q = mP' q) ∧ (∀ q, q < 4 * n → mP' q = mP q) ∧ okr mP' n ∧ (8 * n + 7 ≤ j ∧ i < j) ∧ j ≤ len ∧ len - j < m' ∧ (dg tx len j → d = 2 ∨ (d = 1 ∧ mP' (4 * n + 3) = 0))) := by
  intro dd
  induction dd with
  | zero =>
    intro k i m m2 P mP hk hi h8 hag hco h2k hm hm2
    obtain ⟨m2, rfl⟩ : ∃ q, m2 = q + 1 := ⟨m2 - 1, by omega⟩
    have hk3 : k = 3 := by omega
    subst hk3
    have hls : lst P n 3 = lst mP n 3 := by
      unfold lst
      rw [if_neg (by omega), if_neg (by omega), hag _ (by omega)]
    have hl1 : lst mP n 3 = mP (4 * n + 1) := by
      unfold lst
      rw [if_neg (by omega)]
      congr 1
    have c0 := hco 0 (by omega)
    have c1 := hco 1 (by omega)
    have c2 := hco 2 (by omega)
    have c3 := h2k (by omega)
    rw [Nat.add_zero] at c0
    have hlen := E.1
    rcases num_sp (mP := mP) (P := P) (k := 3) E hi (by omega) hn (fun _ => by omega) (by rw [hls, hl1]; exact c1) hm with ⟨f, mP', X, e1, e2, e3⟩ | ⟨j, v, d, m', e1, e2, e3, e4, e5, e6, e7, e8, e9⟩
    · rw [hls] at e1
      refine Or.inl ⟨f, ((n : Int), mP'), X, ?_, e2, e3⟩
      unfold RDk
      have e1 : f_Mo_reads tx (len : Int) (i : Int) (n : Int) mP ((3 : Nat) : Int) (lst mP n 3) = _ := e1
      rw [bd3_p e1, gd_p ck_0, if_pos rfl]
    · rw [hls] at e1 e3
      rw [hl1] at e3
      have hv : up mP (4 * n + 3) v (4 * n + 3) = v := up_s
      refine Or.inr ⟨j, up mP (4 * n + 3) v, P, d, m', ?_, by rw [hv]; exact e2, e7, fun q hq => by rw [up_o (by omega)]; exact hag q hq, fun q hq => up_o (by omega), ⟨?_, ?_⟩, ⟨by omega, e5⟩, e6, e8, by rw [hv]; exact e9⟩
      · unfold RDk
        have e1 : f_Mo_reads tx (len : Int) (i : Int) (n : Int) mP ((3 : Nat) : Int) (lst mP n 3) = _ := e1
        rw [bd3_p e1, gd_p ⟨by omega, by omega⟩, if_neg (by omega), f_Mo_readsRectangle_L2, gd_p ⟨by omega, by omega⟩, if_neg (by omega), show (n : Int) + 1 = ((n + 1 : Nat) : Int) by omega]
      · rw [up_o (by omega), up_o (by omega)]
        omega
      · rw [up_o (by omega), hv]
        omega
  | succ dd ih =>
    intro k i m m2 P mP hk hi h8 hag hco h2k hm hm2
    obtain ⟨m2, rfl⟩ : ∃ q, m2 = q + 1 := ⟨m2 - 1, by omega⟩
    have hls : lst P n k = lst mP n k := by
      unfold lst
      by_cases hk2 : k < 2
      · rw [if_pos hk2, if_pos hk2]
      · rw [if_neg hk2, if_neg hk2, hag _ (by omega)]
    have hlb : 0 ≤ lst mP n k ∧ lst mP n k ≤ 99 := by
      unfold lst
      by_cases hk2 : k < 2
      · rw [if_pos hk2]
        omega
      · rw [if_neg hk2, show 4 * n + k - 2 = 4 * n + (k - 2) by omega]
        exact hco (k - 2) (by omega)
    have hlen := E.1
    rcases num_sp (mP := mP) (P := P) (k := k) E hi (by omega) hn (fun _ => by omega) (by rw [hls]; exact hlb) hm with ⟨f, mP', X, e1, e2, e3⟩ | ⟨j, v, d, m', e1, e2, e3, e4, e5, e6, e7, e8, e9⟩
    · rw [hls] at e1
      refine Or.inl ⟨f, ((n : Int), mP'), X, ?_, e2, e3⟩
      unfold RDk
      rw [bd3_p e1, gd_p ck_0, if_pos rfl]
    · rw [hls] at e1
      obtain ⟨m', rfl⟩ : ∃ q, m' = q + 1 := ⟨m' - 1, by omega⟩
      have hR : RDk tx len i n k (m2 + 1) mP = f_Mo_readsRectangle_L2 tx (len : Int) (n : Int) (fun x1_42 c_spot_43 c_parts_44 => some (1, c_spot_43, ((n : Int) + 1), c_parts_44)) (m2 + 1) ((k + 1 : Nat) : Int) (j : Int) (up mP (4 * n + k) v) := by
        unfold RDk
        rw [bd3_p e1, gd_p ⟨by omega, by omega⟩, if_neg (by omega)]
      have hdue : due k = 44 := by unfold due; rw [if_neg (by omega)]
      by_cases hjl : j < len
      · have ht := (E.2 j hjl).2
        have hs := sign_sp (m := m') E (by omega) hn (by rw [hls]; exact hlb) e7 ⟨e3, e4⟩ e9 hjl
        rw [hdue] at hs
        by_cases h44 : tx j = 44
        · have hs1 := hs.1 h44
          rw [if_neg (by omega), if_neg (by omega)] at hs1
          have hrec : f_Mo_readsRectangle_L2 tx (len : Int) (n : Int) (fun x1_42 c_spot_43 c_parts_44 => some (1, c_spot_43, ((n : Int) + 1), c_parts_44)) (m2 + 1) ((k + 1 : Nat) : Int) (j : Int) (up mP (4 * n + k) v) = RDk tx len (j + 1) n (k + 1) m2 (up mP (4 * n + k) v) := by
            unfold RDk lst
            rw [f_Mo_readsRectangle_L2, gd_p ⟨by omega, by omega⟩, if_pos (by omega), if_pos (by omega), gd_p ⟨by omega, by omega⟩, gd_p ⟨by omega, by omega⟩, if_neg (by omega), gd_p ⟨by omega, by omega⟩, show ((j : Int)).toNat = j by omega, h44, gd_p ⟨by omega, by omega⟩, if_pos rfl, show (j : Int) + 1 = ((j + 1 : Nat) : Int) by omega, show ((k + 1 : Nat) : Int) + 1 = ((k + 1 + 1 : Nat) : Int) by omega]
            by_cases hk2 : k + 1 < 2
            · rw [if_pos (by omega), if_pos hk2]
            · rw [if_neg (by omega), if_neg hk2, gd_p ⟨by omega, by omega⟩, show ((4 : Int) * (n : Int) + ((k + 1 : Nat) : Int) - 2).toNat = 4 * n + (k + 1) - 2 by omega]
          rcases ih (k + 1) (j + 1) m' m2 (up P (4 * n + k) v) (up mP (4 * n + k) v) (by omega) (by omega) (by omega) (fun q hq => by
            by_cases hqk : q = 4 * n + k
            · rw [hqk, up_s, up_s]
            · rw [up_o hqk, up_o hqk]
              exact hag q (by omega)) (fun q hq => by
            by_cases hqk : q = k
            · rw [hqk, up_s]
              omega
            · rw [up_o (by omega)]
              exact hco q (by omega)) (fun q => by
            have hk2 : k = 2 := by omega
            subst hk2
            rw [up_o (by omega), up_s]
            rw [hls] at e3
            unfold lst at e3
            rw [if_neg (by omega)] at e3
            exact e3) (by omega) (by omega) with ⟨f, Y, X, r1, r2, r3⟩ | ⟨j2, mP2, P2, d2, m3, r1, r2, r3, r4, r5, r6, r7, r8⟩
          · exact Or.inl ⟨f, Y, X, hR.trans (hrec.trans r1), e2.trans (hs1.trans r2), r3⟩
          · exact Or.inr ⟨j2, mP2, P2, d2, m3, hR.trans (hrec.trans r1), e2.trans (hs1.trans r2), r3, r4, fun q hq => by rw [r5 q hq, up_o (by omega)], r6, ⟨r7.1, by omega⟩, r8⟩
        · obtain ⟨X, hX⟩ := hs.2 h44
          refine Or.inl ⟨j, ((n : Int), up mP (4 * n + k) v), X, hR.trans ?_, e2.trans hX, by omega⟩
          rw [f_Mo_readsRectangle_L2, gd_p ⟨by omega, by omega⟩, if_pos (by omega), if_pos (by omega), gd_p ⟨by omega, by omega⟩, gd_p ⟨by omega, by omega⟩, if_neg (by omega), gd_p ⟨by omega, by omega⟩, show ((j : Int)).toNat = j by omega, gd_p ⟨by omega, by omega⟩, if_neg h44]
      · have hjl : j = len := by omega
        refine Or.inl ⟨j, ((n : Int), up mP (4 * n + k) v), (P, (n : Int), (k : Int), d, v), hR.trans ?_, e2.trans ?_, by omega⟩
        · rw [f_Mo_readsRectangle_L2, gd_p ⟨by omega, by omega⟩, if_pos (by omega), if_pos (by omega), gd_p ⟨by omega, by omega⟩, gd_p ⟨by omega, by omega⟩, if_pos (by omega)]
        · rw [c_end hlen hjl, ke_no hn (by omega) (by rw [hls]; exact hlb) (Or.inr e7) ⟨by omega, by omega⟩ (Or.inl (by omega)), hjl]
theorem list_go {ch tx : Nat → Int} {len : Nat} (E : Tx ch tx len) : ∀ (N i n m m2 : Nat) (P mP : Nat → Int), len - i < N → i ≤ len → 8 * n ≤ i → (∀ q, q < 4 * n → P q = mP q) → (∀ q, q < n → okr mP q) → len - i < m → N + 1 < m2 →
    (∃ (f : Nat) (Y : Int × (Nat → Int)) (X : (Nat → Int) × Int × Int × Int × Int), f_Mo_isList_L12 tx (len : Int) (fun x1_20 c_spot_21 c_rectangles_22 c_parts_23 => gd (ck c_spot_21) <| gd (ck (len : Int)) <| if c_spot_21 = (len : Int) then (some (1, c_spot_21, c_rectangles_22, c_parts_23)) else (some (0, c_spot_21, c_rectangles_22, c_parts_23))) m2 1 (i : Int) (n : Int) mP = some (0, (f : Int), Y) ∧ C22 ch len m i P n 0 0 0 = some ((f : Int), X) ∧ f ≤ len) ∨
    (∃ (n' : Nat) (spot : Int) (mP' P' : Nat → Int), f_Mo_isList_L12 tx (len : Int) (fun x1_20 c_spot_21 c_rectangles_22 c_parts_23 => gd (ck c_spot_21) <| gd (ck (len : Int)) <| if c_spot_21 = (len : Int) then (some (1, c_spot_21, c_rectangles_22, c_parts_23)) else (some (0, c_spot_21, c_rectangles_22, c_parts_23))) m2 1 (i : Int) (n : Int) mP = some (1, spot, (n' : Int), mP') ∧ C22 ch len m i P n 0 0 0 = some (-5, P', (n' : Int), 0, 0, 0) ∧ n' ≤ 10 ∧ (∀ q, q < 4 * n' → P' q = mP' q) ∧ ∀ q, q < n' → okr mP' q) := by
  intro N
  induction N with
  | zero => intro i n m m2 P mP h; exact absurd h (by omega)
  | succ N ih =>
    intro i n m m2 P mP hN hi h8 hag hok hm hm2
    obtain ⟨m2, rfl⟩ : ∃ q, m2 = q + 1 := ⟨m2 - 1, by omega⟩
    obtain ⟨m2, rfl⟩ : ∃ q, m2 = q + 1 := ⟨m2 - 1, by omega⟩
    have hlen := E.1
    have hRD : f_Mo_readsRectangle tx (len : Int) (i : Int) (n : Int) mP = RDk tx len i n 0 4095 mP := by
      unfold f_Mo_readsRectangle RDk lst
      rw [show FU = 4095 + 1 from rfl, f_Mo_readsRectangle_L2, gd_p ck_0, if_pos (by omega), if_neg (by omega), if_pos (by omega), if_pos (by omega)]
      rfl
    rcases rect_go (n := n) E (by omega) 3 0 i m 4095 P mP rfl hi (by omega) hag (fun q hq => absurd hq (by omega)) (fun q => absurd q (by omega)) hm (by omega) with ⟨f, Y, X, e1, e2, e3⟩ | ⟨j, mP', P', d, m', e1, e2, e3, e4, e5, e6, e7, e8, e9, e10⟩
    · refine Or.inl ⟨f, Y, X, ?_, e2, e3⟩
      rw [f_Mo_isList_L12, gd_p ⟨by omega, by omega⟩, if_neg (by omega), hRD, bd4_p e1, gd_p ck_0, if_pos rfl]
    · have hls : lst P' n 3 = mP' (4 * n + 1) := by
        unfold lst
        rw [if_neg (by omega), ← e4 _ (by omega)]
        congr 1
      have hokn := e6
      have hc99 : 0 ≤ mP' (4 * n + 1) ∧ mP' (4 * n + 1) ≤ mP' (4 * n + 3) ∧ mP' (4 * n + 3) ≤ 99 := e6.2
      obtain ⟨m', rfl⟩ : ∃ q, m' = q + 1 := ⟨m' - 1, by omega⟩
      have hag2 : ∀ q, q < 4 * (n + 1) → up P' (4 * n + 3) (mP' (4 * n + 3)) q = mP' q := fun q hq => by
        by_cases hq3 : q = 4 * n + 3
        · rw [hq3, up_s]
        · rw [up_o hq3]
          exact e4 q (by omega)
      have hok2 : ∀ q, q < n + 1 → okr mP' q := fun q hq => by
        by_cases hqn : q = n
        · rw [hqn]; exact e6
        · have := hok q (by omega)
          unfold okr at this ⊢
          rw [e5 _ (by omega), e5 _ (by omega), e5 _ (by omega), e5 _ (by omega)]
          exact this
      by_cases hjl : j < len
      · have ht := (E.2 j hjl).2
        have hs := sign_sp (n := n) (P := P') (v := mP' (4 * n + 3)) (d := d) (m := m') E (show 3 < 4 by omega) (by omega) (by rw [hls]; omega) e3 (by rw [hls]; omega) e10 hjl
        have hdue : due 3 = 59 := by unfold due; rw [if_pos rfl]
        rw [hdue] at hs
        by_cases h59 : tx j = 59
        · have hs1 := hs.1 h59
          rw [if_pos rfl, if_pos rfl] at hs1
          have hL : f_Mo_isList_L12 tx (len : Int) (fun x1_20 c_spot_21 c_rectangles_22 c_parts_23 => gd (ck c_spot_21) <| gd (ck (len : Int)) <| if c_spot_21 = (len : Int) then (some (1, c_spot_21, c_rectangles_22, c_parts_23)) else (some (0, c_spot_21, c_rectangles_22, c_parts_23))) (m2 + 1 + 1) 1 (i : Int) (n : Int) mP = f_Mo_isList_L12 tx (len : Int) (fun x1_20 c_spot_21 c_rectangles_22 c_parts_23 => gd (ck c_spot_21) <| gd (ck (len : Int)) <| if c_spot_21 = (len : Int) then (some (1, c_spot_21, c_rectangles_22, c_parts_23)) else (some (0, c_spot_21, c_rectangles_22, c_parts_23))) (m2 + 1) 1 ((j + 1 : Nat) : Int) ((n + 1 : Nat) : Int) mP' := by
            rw [f_Mo_isList_L12, gd_p ⟨by omega, by omega⟩, if_neg (by omega), hRD, bd4_p e1, gd_p ⟨by omega, by omega⟩, if_neg (by omega), gd_p ⟨by omega, by omega⟩, gd_p ⟨by omega, by omega⟩, if_pos (by omega), gd_p ⟨by omega, by omega⟩, show ((j : Int)).toNat = j by omega, h59, gd_p ⟨by omega, by omega⟩, if_pos rfl, show (j : Int) + 1 = ((j + 1 : Nat) : Int) by omega]
          rcases ih (j + 1) (n + 1) m' (m2 + 1) (up P' (4 * n + 3) (mP' (4 * n + 3))) mP' (by omega) (by omega) (by omega) hag2 hok2 (by omega) (by omega) with ⟨f, Y, X, r1, r2, r3⟩ | ⟨n', spot, mP2, P2, r1, r2, r3⟩
          · exact Or.inl ⟨f, Y, X, hL.trans r1, e2.trans (hs1.trans r2), r3⟩
          · exact Or.inr ⟨n', spot, mP2, P2, hL.trans r1, e2.trans (hs1.trans r2), r3⟩
        · obtain ⟨X, hX⟩ := hs.2 h59
          refine Or.inl ⟨j, (((n + 1 : Nat) : Int), mP'), X, ?_, e2.trans hX, by omega⟩
          rw [f_Mo_isList_L12, gd_p ⟨by omega, by omega⟩, if_neg (by omega), hRD, bd4_p e1, gd_p ⟨by omega, by omega⟩, if_neg (by omega), gd_p ⟨by omega, by omega⟩, gd_p ⟨by omega, by omega⟩, if_pos (by omega), gd_p ⟨by omega, by omega⟩, show ((j : Int)).toNat = j by omega, gd_p ⟨by omega, by omega⟩, if_neg h59, f_Mo_isList_L12, gd_p ck_0, if_pos rfl, Int.add_zero, gd_p ⟨by omega, by omega⟩, gd_p ⟨by omega, by omega⟩, if_neg (by omega)]
      · have hjl : j = len := by omega
        have hts := ts_ok (P := P') (n := n) (p := 3) (d := d) (v := mP' (4 * n + 3)) (by omega) (by omega) (by rw [hls]; omega) e3 (by rw [hls]; omega)
        rw [if_pos rfl, if_pos rfl] at hts
        refine Or.inr ⟨n + 1, (j : Int), mP', up P' (4 * n + 3) (mP' (4 * n + 3)), ?_, e2.trans ?_, by omega, hag2, hok2⟩
        · rw [f_Mo_isList_L12, gd_p ⟨by omega, by omega⟩, if_neg (by omega), hRD, bd4_p e1, gd_p ⟨by omega, by omega⟩, if_neg (by omega), gd_p ⟨by omega, by omega⟩, gd_p ⟨by omega, by omega⟩, if_neg (by omega), f_Mo_isList_L12, gd_p ck_0, if_pos rfl, Int.add_zero, gd_p ⟨by omega, by omega⟩, gd_p ⟨by omega, by omega⟩, if_pos (by omega)]
        · have hts : f_Tx_takeSign P' (n : Int) 3 d (mP' (4 * n + 3)) 59 = _ := hts
          rw [c_end hlen hjl]
          unfold KE
          rw [gd_p ⟨by omega, by omega⟩, if_pos (by omega), show ((3 : Nat) : Int) = 3 from rfl, bd6_p hts, gd_p ⟨by omega, by omega⟩, if_neg (by omega)]
/-- both find the same fault, or the same rectangles -/
theorem txt_sp {ch tx : Nat → Int} {len : Nat} (E : Tx ch tx len) (P mP : Nat → Int) :
    (∃ (f : Nat) (Y : Int × (Nat → Int)) (X : (Nat → Int) × Int × Int × Int × Int), f_Mo_isList tx (len : Int) mP = some (0, (f : Int), Y) ∧ f_Tx_findFault ch (len : Int) P = some ((f : Int), X) ∧ f ≤ 80) ∨
    (∃ (n' : Nat) (spot : Int) (mP' P' : Nat → Int), f_Mo_isList tx (len : Int) mP = some (1, spot, (n' : Int), mP') ∧ f_Tx_findFault ch (len : Int) P = some (-5, P', (n' : Int), 0, 0, 0) ∧ n' ≤ 10 ∧ (∀ q, q < 4 * n' → P' q = mP' q) ∧ ∀ q, q < n' → okr mP' q) := by
  have hl := E.1
  have h := list_go E (len + 1) 0 0 FU FU P mP (by omega) (by omega) (by omega) (fun q hq => absurd hq (by omega)) (fun q hq => absurd hq (by omega)) (by unfold FU; omega) (by unfold FU; omega)
  rcases h with ⟨f, Y, X, e1, e2, e3⟩ | ⟨n', spot, mP', P', e1, e2, e3⟩
  · exact Or.inl ⟨f, Y, X, e1, e2, by omega⟩
  · exact Or.inr ⟨n', spot, mP', P', e1, e2, e3⟩
