/-! the text: the class's findFault beside the reference's isList -/
def dg (tx : Nat → Int) (len i : Nat) : Prop := i < len ∧ 48 ≤ tx i ∧ tx i ≤ 57
theorem isd_sp {tx : Nat → Int} {len i : Nat} (hl : len ≤ 80) (hi : i ≤ 90) (hT : ∀ i, i < len → 32 ≤ tx i ∧ tx i ≤ 126) : (dg tx len i → f_Mo_isDigit tx (len : Int) (i : Int) = some 1) ∧ (¬ dg tx len i → f_Mo_isDigit tx (len : Int) (i : Int) = some 0) := by
  unfold f_Mo_isDigit dg
  by_cases h1 : i < len
  · have ht := hT i h1
    rw [gd_p ⟨by omega, by omega⟩, gd_p ⟨by omega, by omega⟩, if_pos (by omega), gd_p ⟨by omega, by omega⟩, show ((i : Int)).toNat = i by omega, bd1_p (in_sp ⟨by omega, by omega⟩ ⟨by omega, by omega⟩ ⟨by omega, by omega⟩)]
    constructor
    · rintro ⟨-, a, b⟩
      rw [if_pos ⟨a, b⟩, gd_p ⟨by omega, by omega⟩, if_neg (by omega)]
    · intro q
      rw [if_neg (fun e => q ⟨h1, e⟩), gd_p ck_0, if_pos rfl]
  · rw [gd_p ⟨by omega, by omega⟩, gd_p ⟨by omega, by omega⟩, if_neg (by omega)]
    exact ⟨fun q => absurd q.1 h1, fun _ => rfl⟩
/-- what a number's reading is -/
theorem reads_sp {tx : Nat → Int} {len i n k : Nat} {mP : Nat → Int} {L : Int} (hl : len ≤ 80) (hi : i ≤ len) (hT : ∀ i, i < len → 32 ≤ tx i ∧ tx i ≤ 126) (hk : k < 4) (hn : i < len → n ≤ 9) (hL : 0 ≤ L ∧ L ≤ 99) :
    (¬ dg tx len i ∧ f_Mo_reads tx (len : Int) (i : Int) (n : Int) mP (k : Int) L = some (0, (i : Int), mP)) ∨
    (dg tx len i ∧ ∃ g : Int, tx i = 48 + g ∧ 0 ≤ g ∧ g ≤ 9 ∧
      ((g = 0 ∧ 0 < L ∧ f_Mo_reads tx (len : Int) (i : Int) (n : Int) mP (k : Int) L = some (0, (i : Int), mP)) ∨
       (g = 0 ∧ L = 0 ∧ f_Mo_reads tx (len : Int) (i : Int) (n : Int) mP (k : Int) L = some (1, ((i + 1 : Nat) : Int), up mP (4 * n + k) 0)) ∨
       (0 < g ∧ 10 * g + 9 < L ∧ f_Mo_reads tx (len : Int) (i : Int) (n : Int) mP (k : Int) L = some (0, (i : Int), mP)) ∨
       (0 < g ∧ ¬ 10 * g + 9 < L ∧ ¬ dg tx len (i + 1) ∧ f_Mo_reads tx (len : Int) (i : Int) (n : Int) mP (k : Int) L = some (if g < L then 0 else 1, ((i + 1 : Nat) : Int), up mP (4 * n + k) g)) ∨
       (0 < g ∧ ¬ 10 * g + 9 < L ∧ dg tx len (i + 1) ∧ ∃ g2 : Int, tx (i + 1) = 48 + g2 ∧ 0 ≤ g2 ∧ g2 ≤ 9 ∧
         ((10 * g + g2 < L ∧ f_Mo_reads tx (len : Int) (i : Int) (n : Int) mP (k : Int) L = some (0, ((i + 1 : Nat) : Int), mP)) ∨
          (¬ 10 * g + g2 < L ∧ f_Mo_reads tx (len : Int) (i : Int) (n : Int) mP (k : Int) L = some (1, ((i + 2 : Nat) : Int), up mP (4 * n + k) (10 * g + g2))))))) := by
  have hd := isd_sp (tx := tx) (len := len) (i := i) hl (by omega) hT
  have hd2 := isd_sp (tx := tx) (len := len) (i := i + 1) hl (by omega) hT
  by_cases h1 : dg tx len i
  · refine Or.inr ⟨h1, tx i - 48, by omega, by have := h1.2; omega, by have := h1.2; omega, ?_⟩
    have hg0 := h1.2
    have hil := h1.1
    have hn9 := hn hil
    generalize hg : tx i - 48 = g
    have hi1 : ((i : Int)).toNat = i := by omega
    have hi2 : ((i : Int) + 1).toNat = i + 1 := by omega
    have hi3 : (i : Int) + 1 = ((i + 1 : Nat) : Int) := by omega
    have hi4 : ((i + 1 : Nat) : Int) + 1 = ((i + 2 : Nat) : Int) := by omega
    have hi5 : (((i + 1 : Nat) : Int)).toNat = i + 1 := by omega
    have hidx : ((4 : Int) * (n : Int) + (k : Int)).toNat = 4 * n + k := by omega
    have hidx0 : 0 ≤ (4 : Int) * (n : Int) + (k : Int) ∧ (4 : Int) * (n : Int) + (k : Int) < ((44 : Nat) : Int) := by omega
    by_cases hg1 : g = 0
    · by_cases hL0 : 0 < L
      · refine Or.inl ⟨hg1, hL0, ?_⟩
        unfold f_Mo_reads
        rw [bd1_p (hd.1 h1), gd_p ⟨by omega, by omega⟩, if_neg (by omega), gd_p ⟨by omega, by omega⟩, hi1, hg, gd_p ⟨by omega, by omega⟩, if_pos hg1, gd_p ⟨by omega, by omega⟩, if_pos hL0]
      · refine Or.inr (Or.inl ⟨hg1, by omega, ?_⟩)
        unfold f_Mo_reads
        rw [bd1_p (hd.1 h1), gd_p ⟨by omega, by omega⟩, if_neg (by omega), gd_p ⟨by omega, by omega⟩, hi1, hg, gd_p ⟨by omega, by omega⟩, if_pos hg1, gd_p ⟨by omega, by omega⟩, if_neg hL0, if_neg (by omega), gd_p hidx0, if_neg (by omega), hidx, hg1, hi3]
    · have hgp : 0 < g := by omega
      by_cases h2 : 10 * g + 9 < L
      · refine Or.inr (Or.inr (Or.inl ⟨hgp, h2, ?_⟩))
        unfold f_Mo_reads
        rw [bd1_p (hd.1 h1), gd_p ⟨by omega, by omega⟩, if_neg (by omega), gd_p ⟨by omega, by omega⟩, hi1, hg, gd_p ⟨by omega, by omega⟩, if_neg hg1, gd_p ⟨by omega, by omega⟩, gd_p ⟨by omega, by omega⟩, if_pos h2]
      · by_cases h3 : dg tx len (i + 1)
        · refine Or.inr (Or.inr (Or.inr (Or.inr ⟨hgp, h2, h3, tx (i + 1) - 48, by omega, by have := h3.2; omega, by have := h3.2; omega, ?_⟩)))
          have hg20 := h3.2
          have hil2 := h3.1
          have hw : 10 * g + tx (i + 1) - 48 = 10 * g + (tx (i + 1) - 48) := by omega
          by_cases h4 : 10 * g + (tx (i + 1) - 48) < L
          · refine Or.inl ⟨h4, ?_⟩
            unfold f_Mo_reads
            rw [bd1_p (hd.1 h1), gd_p ⟨by omega, by omega⟩, if_neg (by omega), gd_p ⟨by omega, by omega⟩, hi1, hg, gd_p ⟨by omega, by omega⟩, if_neg hg1, gd_p ⟨by omega, by omega⟩, gd_p ⟨by omega, by omega⟩, if_neg h2, if_pos hgp, hi3, bd1_p (hd2.1 h3), gd_p ⟨by omega, by omega⟩, if_neg (by omega), gd_p ⟨by omega, by omega⟩, hi5, hw, gd_p ⟨by omega, by omega⟩, if_pos h4]
          · refine Or.inr ⟨h4, ?_⟩
            unfold f_Mo_reads
            rw [bd1_p (hd.1 h1), gd_p ⟨by omega, by omega⟩, if_neg (by omega), gd_p ⟨by omega, by omega⟩, hi1, hg, gd_p ⟨by omega, by omega⟩, if_neg hg1, gd_p ⟨by omega, by omega⟩, gd_p ⟨by omega, by omega⟩, if_neg h2, if_pos hgp, hi3, bd1_p (hd2.1 h3), gd_p ⟨by omega, by omega⟩, if_neg (by omega), gd_p ⟨by omega, by omega⟩, hi5, hw, gd_p ⟨by omega, by omega⟩, if_neg h4, gd_p hidx0, if_neg h4, hidx, hi4]
        · refine Or.inr (Or.inr (Or.inr (Or.inl ⟨hgp, h2, h3, ?_⟩)))
          unfold f_Mo_reads
          rw [bd1_p (hd.1 h1), gd_p ⟨by omega, by omega⟩, if_neg (by omega), gd_p ⟨by omega, by omega⟩, hi1, hg, gd_p ⟨by omega, by omega⟩, if_neg hg1, gd_p ⟨by omega, by omega⟩, gd_p ⟨by omega, by omega⟩, if_neg h2, if_pos hgp, hi3, bd1_p (hd2.2 h3), gd_p ck_0, if_pos rfl, gd_p hidx0, hidx]
          by_cases h5 : g < L
          · rw [if_pos h5, if_pos h5]
          · rw [if_neg h5, if_neg h5]
  · refine Or.inl ⟨h1, ?_⟩
    unfold f_Mo_reads
    rw [bd1_p (hd.2 h1), gd_p ck_0, if_pos rfl]
abbrev RX : Type := Int × (Nat → Int) × Int × Int × Int × Int
/-- the least number that fits -/
def lst (P : Nat → Int) (n p : Nat) : Int := if p < 2 then 0 else P (4 * n + p - 2)
theorem lst_sp {P : Nat → Int} {n p : Nat} (hn : n ≤ 12) (hp : p < 4) : f_Tx_leastNumber P (n : Int) (p : Int) = some (lst P n p) := by
  unfold f_Tx_leastNumber lst
  rw [gd_p ⟨by omega, by omega⟩]
  by_cases h : p < 2
  · rw [if_pos (by omega), if_pos h]
  · rw [if_neg (by omega), if_neg h, show ((n : Int) * 4 + (p : Int) - 2) = ((4 * n + p - 2 : Nat) : Int) by omega, bd1_p (at_sp (by omega) (by omega))]
theorem td0 {P : Nat → Int} {n p : Nat} {g : Int} (hn : n ≤ 12) (hp : p < 4) (hL : 0 ≤ lst P n p ∧ lst P n p ≤ 99) (hg : 0 ≤ g ∧ g ≤ 9) : f_Tx_takeDigit P (n : Int) (p : Int) 0 0 g = if (g = 0 ∧ 0 < lst P n p) ∨ (0 < g ∧ 10 * g + 9 < lst P n p) then some (0, 0, 0) else some (1, 1, g) := by
  unfold f_Tx_takeDigit
  rw [gd_p ck_0, if_neg (by omega), if_neg (by omega), if_pos rfl, gd_p ⟨by omega, by omega⟩]
  by_cases h0 : 0 < g
  · rw [if_pos h0, bd1_p (lst_sp hn hp), gd_p ⟨by omega, by omega⟩, gd_p ⟨by omega, by omega⟩]
    by_cases h1 : 10 * g + 9 < lst P n p
    · rw [if_pos (by omega), if_pos (Or.inr ⟨h0, h1⟩)]
    · rw [if_neg (by omega), if_neg (by omega), show (0 : Int) * 10 + g = g by omega]
      rfl
  · rw [if_neg h0, bd1_p (lst_sp hn hp), gd_p ⟨by omega, by omega⟩, gd_p ⟨by omega, by omega⟩]
    by_cases h1 : 0 < lst P n p
    · rw [if_pos (by omega), if_pos (Or.inl ⟨by omega, h1⟩)]
    · rw [if_neg (by omega), if_neg (by omega), show (0 : Int) * 10 + g = g by omega]
      rfl
theorem td1 {P : Nat → Int} {n p : Nat} {g v : Int} (hn : n ≤ 12) (hp : p < 4) (hL : 0 ≤ lst P n p ∧ lst P n p ≤ 99) (hg : 0 ≤ g ∧ g ≤ 9) (hv : 0 < v ∧ v ≤ 9) : f_Tx_takeDigit P (n : Int) (p : Int) 1 v g = if 10 * v + g < lst P n p then some (0, 1, v) else some (1, 2, 10 * v + g) := by
  unfold f_Tx_takeDigit
  rw [gd_p ⟨by omega, by omega⟩, if_neg (by omega), if_pos rfl, gd_p ⟨by omega, by omega⟩, if_neg (by omega), if_neg (by omega), bd1_p (lst_sp hn hp), gd_p ⟨by omega, by omega⟩, gd_p ⟨by omega, by omega⟩]
  by_cases h1 : 10 * v + g < lst P n p
  · rw [if_pos (by omega), if_pos h1]
  · rw [if_neg (by omega), if_neg h1, show v * 10 + g = 10 * v + g by omega]
    rfl
theorem tdx {P : Nat → Int} {n p d v g : Int} (h : d = 2 ∨ (d = 1 ∧ v = 0)) : f_Tx_takeDigit P n p d v g = some (0, d, v) := by
  unfold f_Tx_takeDigit
  rcases h with h | ⟨h, hv⟩
  · rw [h, gd_p ⟨by omega, by omega⟩, if_pos rfl]
  · rw [h, hv, gd_p ⟨by omega, by omega⟩, if_neg (by omega), if_pos rfl, gd_p ck_0, if_pos rfl]
def due (p : Nat) : Int := if p = 3 then 59 else 44
theorem ts_ok {P : Nat → Int} {n p : Nat} {d v : Int} (hn : n ≤ 12) (hp : p < 4) (hL : 0 ≤ lst P n p ∧ lst P n p ≤ 99) (hd : d = 1 ∨ d = 2) (hv : lst P n p ≤ v ∧ v ≤ 99) : f_Tx_takeSign P (n : Int) (p : Int) d v (due p) = some (1, up P (4 * n + p) v, (if p = 3 then ((n + 1 : Nat) : Int) else (n : Int)), (if p = 3 then 0 else ((p + 1 : Nat) : Int)), 0, 0) := by
  have hput : f_Rt_put 80 P ((n : Int) * 4 + (p : Int)) v = some (up P (4 * n + p) v) := by
    rw [show ((n : Int) * 4 + (p : Int)) = ((4 * n + p : Nat) : Int) by omega, put_sp (by omega) (by omega)]
  have hck : ck d := by rcases hd with q | q <;> rw [q] <;> exact ⟨by omega, by omega⟩
  unfold f_Tx_takeSign due
  rw [gd_p ⟨by omega, by omega⟩]
  by_cases h3 : p = 3
  · rw [if_pos (by omega), if_pos h3, gd_p ⟨by omega, by omega⟩, if_pos rfl, gd_p hck, if_neg (by omega), bd1_p (lst_sp hn hp), gd_p ⟨by omega, by omega⟩, gd_p ⟨by omega, by omega⟩, if_neg (by omega), bd1_p hput, gd_p ⟨by omega, by omega⟩, if_pos (by omega), if_pos h3, if_pos h3, show (n : Int) + 1 = ((n + 1 : Nat) : Int) by omega]
  · rw [if_neg (by omega), if_neg h3, gd_p ⟨by omega, by omega⟩, if_pos rfl, gd_p hck, if_neg (by omega), bd1_p (lst_sp hn hp), gd_p ⟨by omega, by omega⟩, gd_p ⟨by omega, by omega⟩, if_neg (by omega), bd1_p hput, gd_p ⟨by omega, by omega⟩, if_neg (by omega), if_neg h3, if_neg h3, show (p : Int) + 1 = ((p + 1 : Nat) : Int) by omega]
theorem ts_no {P : Nat → Int} {n p : Nat} {d v c : Int} (hn : n ≤ 12) (hp : p < 4) (hL : 0 ≤ lst P n p ∧ lst P n p ≤ 99) (hd : d = 0 ∨ d = 1 ∨ d = 2) (hv : 0 ≤ v ∧ v ≤ 99) (hc : ck c) (h : c ≠ due p ∨ d = 0 ∨ v < lst P n p) : f_Tx_takeSign P (n : Int) (p : Int) d v c = some (0, P, (n : Int), (p : Int), d, v) := by
  have hck : ck d := by rcases hd with q | q | q <;> rw [q] <;> exact ⟨by omega, by omega⟩
  unfold due at h
  unfold f_Tx_takeSign
  rw [gd_p ⟨by omega, by omega⟩]
  by_cases h3 : p = 3
  · rw [if_pos h3] at h
    rw [if_pos (by omega), gd_p hc]
    by_cases h4 : c = 59
    · rw [if_pos h4, gd_p hck]
      by_cases h5 : d = 0
      · rw [if_pos h5]
      · rw [if_neg h5, bd1_p (lst_sp hn hp), gd_p ⟨by omega, by omega⟩, gd_p ⟨by omega, by omega⟩, if_pos (by omega)]
    · rw [if_neg h4]
  · rw [if_neg h3] at h
    rw [if_neg (by omega), gd_p hc]
    by_cases h4 : c = 44
    · rw [if_pos h4, gd_p hck]
      by_cases h5 : d = 0
      · rw [if_pos h5]
      · rw [if_neg h5, bd1_p (lst_sp hn hp), gd_p ⟨by omega, by omega⟩, gd_p ⟨by omega, by omega⟩, if_pos (by omega)]
    · rw [if_neg h4]
