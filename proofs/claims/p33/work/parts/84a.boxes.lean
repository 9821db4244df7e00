/-! the law's row of boxes, and its corners -/
theorem td_nn {x : Int} {n : Int} (h : 0 ≤ x) : Int.tdiv x n = x / n ∧ Int.tmod x n = x % n := ⟨Int.tdiv_eq_ediv_of_nonneg h, Int.tmod_eq_emod_of_nonneg h⟩
/-- four corners in one number -/
def e4 (a b p q : Int) : Int := a + 100 * b + 10000 * p + 1000000 * q
def en (c : Nat → Int) (b : Nat) : Int := e4 (c (4 * b)) (c (4 * b + 1)) (c (4 * b + 2)) (c (4 * b + 3))
theorem e4_rg {a b p q : Int} (ha : 0 ≤ a ∧ a ≤ 99) (hb : 0 ≤ b ∧ b ≤ 99) (hp : 0 ≤ p ∧ p ≤ 99) (hq : 0 ≤ q ∧ q ≤ 99) : 0 ≤ e4 a b p q ∧ e4 a b p q ≤ 99999999 := by
  unfold e4
  omega
theorem cn_sp {a b p q : Int} (ha : 0 ≤ a ∧ a ≤ 99) (hb : 0 ≤ b ∧ b ≤ 99) (hp : 0 ≤ p ∧ p ≤ 99) (hq : 0 ≤ q ∧ q ≤ 99) : f_Lw_corner (e4 a b p q) 0 = some a ∧ f_Lw_corner (e4 a b p q) 1 = some b ∧ f_Lw_corner (e4 a b p q) 2 = some p ∧ f_Lw_corner (e4 a b p q) 3 = some q := by
  have h := e4_rg ha hb hp hq
  have k : ck (e4 a b p q) := ⟨by omega, by omega⟩
  have d1 := (td_nn (n := 100) h.1)
  have d2 := (td_nn (n := 10000) h.1)
  have d3 := (td_nn (n := 1000000) h.1)
  have e1 : 0 ≤ e4 a b p q / 100 := by omega
  have e2 : 0 ≤ e4 a b p q / 10000 := by omega
  have f1 := (td_nn (n := 100) e1)
  have f2 := (td_nn (n := 100) e2)
  refine ⟨?_, ?_, ?_, ?_⟩
  · unfold f_Lw_corner
    rw [gd_p ck_0, if_pos rfl, gd_p ⟨k, by omega, by omega⟩, d1.2]
    congr 1
    unfold e4
    omega
  · unfold f_Lw_corner
    rw [gd_p ck_1, if_neg (by omega), if_pos rfl, gd_p ⟨k, by omega, by omega⟩, d1.1, gd_p ⟨⟨by omega, by omega⟩, by omega, by omega⟩, f1.2]
    congr 1
    unfold e4
    omega
  · unfold f_Lw_corner
    rw [gd_p ⟨by omega, by omega⟩, if_neg (by omega), if_neg (by omega), if_pos rfl, gd_p ⟨k, by omega, by omega⟩, d2.1, gd_p ⟨⟨by omega, by omega⟩, by omega, by omega⟩, f2.2]
    congr 1
    unfold e4
    omega
  · unfold f_Lw_corner
    rw [gd_p ⟨by omega, by omega⟩, if_neg (by omega), if_neg (by omega), if_neg (by omega), gd_p ⟨k, by omega, by omega⟩, d3.1]
    congr 1
    unfold e4
    omega
theorem en_rg {c : Nat → Int} {b : Nat} (h : rg c b) : 0 ≤ en c b ∧ en c b ≤ 99999999 := e4_rg (h 0 (by omega)) (h 1 (by omega)) (h 2 (by omega)) (h 3 (by omega))
theorem en_cn {c : Nat → Int} {b t : Nat} (h : rg c b) (ht : t < 4) : f_Lw_corner (en c b) (t : Int) = some (c (4 * b + t)) := by
  have k := cn_sp (h 0 (by omega)) (h 1 (by omega)) (h 2 (by omega)) (h 3 (by omega))
  rcases (show t = 0 ∨ t = 1 ∨ t = 2 ∨ t = 3 by omega) with rfl | rfl | rfl | rfl
  · exact k.1
  · exact k.2.1
  · exact k.2.2.1
  · exact k.2.2.2
theorem cn_no : f_Lw_corner (-1) 0 = some (-1) ∧ f_Lw_corner (-1) 1 = some 0 ∧ f_Lw_corner (-1) 2 = some 0 ∧ f_Lw_corner (-1) 3 = some 0 := by
  refine ⟨?_, ?_, ?_, ?_⟩ <;> decide
theorem cs_sp {y : Int} (h0 : 0 ≤ y) (h1 : y ≤ 2147483647) : ∃ a b p q : Int, wi a b p q ∧ f_Lw_corners y = some (e4 a b p q) := by
  have k : ck y := ⟨by omega, h1⟩
  have d1 := (td_nn (n := 88) h0)
  have d2 := (td_nn (n := 7744) h0)
  have d3 := (td_nn (n := 92928) h0)
  have e1 : 0 ≤ y / 88 := by omega
  have e2 : 0 ≤ y / 7744 := by omega
  have e3 : 0 ≤ y / 92928 := by omega
  have f1 := (td_nn (n := 88) e1)
  have f2 := (td_nn (n := 12) e2)
  have f3 := (td_nn (n := 12) e3)
  refine ⟨y % 88, y / 88 % 88, y % 88 + y / 7744 % 12, y / 88 % 88 + y / 92928 % 12, ⟨by omega, by omega⟩, ?_⟩
  unfold f_Lw_corners
  rw [gd_p ⟨k, by omega, by omega⟩, gd_p ⟨k, by omega, by omega⟩, d1.1, d1.2, gd_p ⟨⟨by omega, by omega⟩, by omega, by omega⟩, gd_p ⟨k, by omega, by omega⟩, d2.1, gd_p ⟨⟨by omega, by omega⟩, by omega, by omega⟩, gd_p ⟨k, by omega, by omega⟩, d3.1, gd_p ⟨⟨by omega, by omega⟩, by omega, by omega⟩, f1.2, f2.2, f3.2]
  rfl
/-- the row names the boxes that are there, by their corners -/
def Bk (T : TV) (Q : List Nat) (bx : Nat → Int) : Prop := ∀ b, b < 24 → (b ∈ Q → bx b = en (tCor T) b) ∧ (b ∉ Q → bx b = -1)
theorem Bk.neg {T : TV} {kl : Nat → List Nat} {Q : List Nat} {bx : Nat → Int} (B : Bk T Q bx) (h : Ar T kl Q) {b : Nat} (hb : b < 24) : (bx b < 0 ↔ b ∉ Q) ∧ ck (bx b) := by
  by_cases hq : b ∈ Q
  · have e := (B b hb).1 hq
    have r := en_rg (h.rgx hq)
    rw [e]
    exact ⟨⟨fun _ => by omega, fun q => absurd hq q⟩, by omega, by omega⟩
  · have e := (B b hb).2 hq
    rw [e]
    exact ⟨⟨fun _ => hq, fun _ => by omega⟩, by omega, by omega⟩
theorem Bk.cn {T : TV} {kl : Nat → List Nat} {Q : List Nat} {bx : Nat → Int} (B : Bk T Q bx) (h : Ar T kl Q) {b t : Nat} (hb : b < 24) (hq : b ∈ Q) (ht : t < 4) : f_Lw_corner (bx b) (t : Int) = some (tCor T (4 * b + t)) := by
  rw [(B b hb).1 hq]
  exact en_cn (h.rgx hq) ht
theorem many_go {T : TV} {kl : Nat → List Nat} {Q : List Nat} {bx : Nat → Int} (B : Bk T Q bx) (h : Ar T kl Q) (k : Int → Int → Option Int) : ∀ (d i n : Nat), i + d = 24 → d < n → f_Lw_many_L4 24 bx k n (nbx Q i : Int) (i : Int) = k (nbx Q 24 : Int) 24
  | 0, i, n + 1, hi, hn => by
    have hi : i = 24 := by omega
    subst hi
    rw [f_Lw_many_L4, gd_p ⟨by omega, by omega⟩, if_neg (by omega)]
    rfl
  | d + 1, i, n + 1, hi, hn => by
    have ih := many_go B h k d (i + 1) n (by omega) (by omega)
    have hb := B.neg h (b := i) (by omega)
    rw [f_Lw_many_L4, gd_p ⟨by omega, by omega⟩, if_pos (by omega), gd_p ⟨by omega, by omega⟩, show ((i : Int)).toNat = i by omega, gd_p hb.2, show (i : Int) + 1 = ((i + 1 : Nat) : Int) by omega]
    rw [nbx_succ] at ih
    by_cases h2 : i ∈ Q
    · rw [if_neg (fun q => (hb.1.mp q) h2)]
      rw [if_pos h2] at ih
      exact ih
    · rw [if_pos (hb.1.mpr h2), Int.add_zero]
      rw [if_neg h2] at ih
      exact ih
theorem many_sp {T : TV} {kl : Nat → List Nat} {Q : List Nat} {bx : Nat → Int} (B : Bk T Q bx) (h : Ar T kl Q) : f_Lw_many 24 bx = some (nbx Q 24 : Int) := by
  unfold f_Lw_many
  exact many_go B h (fun x1_6 x2_7 => some (x1_6)) 24 0 FU rfl (by unfold FU; omega)
/-- a box comes in: the class's step, and the row's -/
theorem add_fx {T : TV} {kl : Nat → List Nat} {Q : List Nat} {r : Nat} {s bx pool : Nat → Int} {left x1 y1 x2 y2 : Int} (O : St T kl Q r s) (B : Bk T Q bx) (hn : nbx Q 24 < 24) (h1 : 0 ≤ x1 ∧ x1 ≤ x2 ∧ x2 ≤ 99) (h2 : 0 ≤ y1 ∧ y1 ≤ y2 ∧ y2 ≤ 99) : ∃ (b : Nat) (T1 T' : TV) (kl' : Nat → List Nat) (Q' : List Nat) (r' : Nat) (left' : Int) (cc' : Int64) (s' pool' : Nat → Int), f_Tr_newBox T x1 y1 x2 y2 = some ((b : Int), T1) ∧ f_Ch_insertOwn pool left T1 (b : Int) = some (pool', left', cc', T') ∧ St T' kl' Q' r' s' ∧ nbx Q' 24 = nbx Q 24 + 1 ∧ (b < 24 ∧ b ∉ Q ∧ ∀ c, c < b → c ∈ Q) ∧ Bk T' Q' (up bx b (e4 x1 y1 x2 y2)) ∧ Inc T T' 4096 := by
  obtain ⟨b, T1, T', kl', Q', r', left', items', il', cc', s', pool', w', it', tr', fr', gr', tu', si', old', e1, e2, e3, e4', e5, e6, e7, e8, e9, e10⟩ := adds_sp (pool := pool) (w := fun _ => 0) (it := fun _ => 0) (tr := fun _ => 0) (fr := fun _ => 0) (gr := fun _ => 0) (tu := fun _ => 0) (si := fun _ => 0) (old := fun _ => 0) (left := left) O.1 hn h1 h2
  obtain ⟨b2, T2, f1, f2, f3, f4, O1, f6, f7, f8, f9, f10, f11⟩ := newBox_sp O.1 hn h1 h2
  have hbT : ((b : Int), T1) = ((b2 : Int), T2) := Option.some.inj (e1.symm.trans f1)
  have hbb : b = b2 := by have := congrArg Prod.fst hbT; omega
  have hTT : T1 = T2 := congrArg Prod.snd hbT
  subst hbb
  subst hTT
  have hcnt : nbx Q' 24 = nbx Q 24 + 1 := by
    have key : ∀ i, i ≤ 24 → nbx Q' i = nbx Q i + (if b < i then 1 else 0) := by
      intro i
      induction i with
      | zero => intro _; rfl
      | succ i ih =>
        intro hi
        rw [nbx_succ, nbx_succ, ih (by omega)]
        have := e7 i (by omega)
        by_cases hib : i = b
        · subst hib
          rw [if_neg (by omega), if_pos (this.mpr (Or.inr rfl)), if_neg e6, if_pos (by omega)]
        · by_cases hiq : i ∈ Q
          · rw [if_pos (this.mpr (Or.inl hiq)), if_pos hiq]
            split <;> split <;> omega
          · rw [if_neg (fun q => (this.mp q).elim hiq hib), if_neg hiq]
            split <;> split <;> omega
    rw [key 24 (Nat.le_refl _), if_pos e5]
  have hc1 : ∀ c, c ∈ Q → c < 24 → ∀ t, t < 4 → tCor T1 (4 * c + t) = tCor T (4 * c + t) := fun c hc hc24 t ht => by
    have g1 := O1.1.1.2.2.2.2.1 c (List.mem_cons_of_mem _ hc) hc24 t ht
    have g2 := O.1.1.1.2.2.2.2.1 c hc hc24 t ht
    have hcb : c ≠ b := fun q => e6 (q ▸ hc)
    rw [← g1, ← g2]
    show up _ _ _ (5 + (4 * c + t)) = s (5 + (4 * c + t))
    rw [up_o (by omega), up_o (by omega), up_o (by omega), up_o (by omega)]
  have hcb : ∀ t, t < 4 → up (up (up (up s (5 + 4 * b) x1) (5 + 4 * b + 1) y1) (5 + 4 * b + 2) x2) (5 + 4 * b + 3) y2 (5 + (4 * b + t)) = tCor T1 (4 * b + t) := fun t ht => O1.1.1.2.2.2.2.1 b List.mem_cons_self f2 t ht
  have k0 : tCor T1 (4 * b) = x1 := by
    rw [← Nat.add_zero (4 * b), ← hcb 0 (by omega), up_o (by omega), up_o (by omega), up_o (by omega)]
    exact up_s
  have k1 : tCor T1 (4 * b + 1) = y1 := by
    rw [← hcb 1 (by omega), up_o (by omega), up_o (by omega)]
    exact up_s
  have k2 : tCor T1 (4 * b + 2) = x2 := by
    rw [← hcb 2 (by omega), up_o (by omega)]
    exact up_s
  have k3 : tCor T1 (4 * b + 3) = y2 := by
    rw [← hcb 3 (by omega)]
    exact up_s
  have hct : ∀ j, j < 96 → tCor T1 j = tCor T' j := fun j hj => sc_Ch_insertOwn j hj pool left T1 (b : Int) (pool', left', cc', T') e2
  refine ⟨b, T1, T', kl', Q', r', left', cc', s', pool', e1, e2, ⟨e4', e8 O.2.1, e10 O.2.2.1, by have := e9.1; have := O.2.2.2.1; omega, by have := e9.2; have := O.2.2.2.2; omega⟩, hcnt, ⟨e5, e6, f4⟩, fun c hc => ⟨fun hq => ?_, fun hq => ?_⟩, ?_⟩
  · unfold en
    rw [← hct _ (by omega), ← hct _ (by omega), ← hct _ (by omega), ← hct _ (by omega)]
    by_cases hcb : c = b
    · subst hcb
      rw [up_s, k0, k1, k2, k3]
    · have hcq := ((e7 c hc).mp hq).resolve_right hcb
      have d0 := hc1 c hcq hc 0 (by omega)
      rw [Nat.add_zero] at d0
      rw [up_o hcb, (B c hc).1 hcq, d0, hc1 c hcq hc 1 (by omega), hc1 c hcq hc 2 (by omega), hc1 c hcq hc 3 (by omega)]
      rfl
  · have hcb : c ≠ b := fun q => hq ((e7 c hc).mpr (Or.inr q))
    rw [up_o hcb, (B c hc).2 (fun q => hq ((e7 c hc).mpr (Or.inl q)))]
  · have m1 : Inc T T1 0 := by
      unfold Inc
      have := f11.2.2.1
      have := f11.2.2.2
      omega
    exact m1.tr (si_own e2) (by omega)
