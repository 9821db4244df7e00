/-! items taken and released; the arena grows -/
def R3 (T : TV) : Prop := tR T = 157
/-- how many nodes are in use -/
def nn (lv : Nat → Int) (Q : List Nat) : Nat := Q.countP (fun v => decide (0 ≤ lv v))
theorem nn_cons {lv : Nat → Int} {Q : List Nat} {z : Nat} : nn lv (z :: Q) ≤ nn lv Q + 1 := by
  unfold nn
  rw [List.countP_cons]
  split <;> omega
theorem nn_in {lv : Nat → Int} {Q : List Nat} {z : Nat} (h : 0 ≤ lv z) : nn lv (z :: Q) = nn lv Q + 1 := by
  unfold nn
  rw [List.countP_cons, if_pos (decide_eq_true h)]
theorem nn_same {lv lv' : Nat → Int} : ∀ {Q : List Nat}, (∀ v ∈ Q, lv' v = lv v) → nn lv' Q = nn lv Q
  | [], _ => rfl
  | z :: Q, h => by
    have ih := nn_same (Q := Q) (fun v hv => h v (List.mem_cons_of_mem _ hv))
    unfold nn at ih ⊢
    simp only [List.countP_cons, h z List.mem_cons_self, ih]
def Gr (T T' : TV) : Prop := tR T ≤ tR T' ∧ (∀ x, x < tR T → tLev T' x = tLev T x ∧ tHol T' x = tHol T x ∧ tSiz T' x = tSiz T x) ∧ (∀ j, j < 4 * tR T → tCor T' j = tCor T j) ∧ (∀ j, j < 6 * tR T → tLis T' j = tLis T j) ∧ (∀ x, tR T ≤ x → x < tR T' → tLev T' x = -2 ∧ rg (tCor T') x) ∧ tRoot T' = tRoot T ∧ tCap T' = tCap T ∧ tRei T' = tRei T ∧ tSpl T' = tSpl T ∧ tRec T' = tRec T
theorem Gr.rf {T : TV} : Gr T T := ⟨Nat.le_refl _, fun _ _ => ⟨rfl, rfl, rfl⟩, fun _ _ => rfl, fun _ _ => rfl, fun x h1 h2 => absurd h1 (by omega), rfl, rfl, rfl, rfl, rfl⟩
theorem cpy_in {f g : Nat → Int} {n j : Nat} (h : j < n) : va_cpy f g 0 0 n j = f j := by
  unfold va_cpy
  rw [if_pos ⟨Nat.zero_le _, by omega⟩]
  congr 1
  omega
theorem cpy_out {f g : Nat → Int} {n j : Nat} (h : n ≤ j) : va_cpy f g 0 0 n j = g j := by
  unfold va_cpy
  rw [if_neg (by omega)]
theorem Ar.grow {T T' : TV} {kl : Nat → List Nat} {Q : List Nat} (h : Ar T kl Q) (g : Gr T T') (hR : tR T' ≤ 288) : Ar T' kl Q := by
  obtain ⟨g1, g2, g3, g4, g5, -⟩ := g
  refine ⟨⟨by have := h.1.1; omega, hR⟩, h.2.1, fun x hx hxq => ?_, fun x hx => ?_, fun x hx => ?_⟩
  · rcases Nat.lt_or_ge x (tR T) with q | q
    · rw [(g2 x q).1]
      exact h.2.2.1 x q hxq
    · exact (g5 x q hx).1
  · rcases Nat.lt_or_ge x (tR T) with q | q
    · intro t ht
      rw [g3 _ (by omega)]
      exact h.2.2.2.1 x q t ht
    · exact (g5 x q hx).2
  · have hi := h.2.2.2.2 x hx
    have hxl := h.lt hx
    have h6 := (h.siz hx).2
    have hl := (g2 x hxl).1
    refine ⟨⟨by omega, by rw [hl]; exact hi.1.2.1, by rw [hl]; exact hi.1.2.2⟩, hi.2.1, ⟨by rw [(g2 x hxl).2.2]; exact hi.2.2.1.1, hi.2.2.1.2⟩, fun j y hj => ?_, fun y hy => ?_, ?_⟩
    · have hlt := (List.getElem?_eq_some_iff.mp hj).1
      rw [g4 _ (by omega)]
      exact hi.2.2.2.1 j y hj
    · have hy2 := h.kid hx hy
      have := g2 y (h.lt hy2.1)
      exact ⟨hy2.1, by rw [this.2.1]; exact hy2.2.1, by rw [this.1, hl]; exact hy2.2.2⟩
    · rcases hi.2.2.2.2.2 with q | ⟨v, q1, q2, q3, q4⟩
      · exact Or.inl (by rw [(g2 x hxl).2.1]; exact q)
      · exact Or.inr ⟨v, q1, q2, by rw [(g2 x hxl).2.1]; exact q3, by rw [(g2 v (h.lt q1)).1, hl]; exact q4⟩
theorem Ar.ckall {T : TV} {kl : Nat → List Nat} {Q : List Nat} (h : Ar T kl Q) {x : Nat} (hx : x < tR T) : ck (tLev T x) := by
  by_cases hq : x ∈ Q
  · exact h.ckl hq
  · rw [h.2.2.1 x hx hq]
    exact ⟨by omega, by omega⟩
theorem free_sp {T : TV} {b : Nat} (hR : tR T ≤ 2000) (hb : b ≤ tR T) (hc : ∀ x, x < tR T → ck (tLev T x)) (a : Nat) (ha : a ≤ b) : (f_Tr_firstFree T (a : Int) (b : Int) = some (-1) ∧ ∀ x, a ≤ x → x < b → tLev T x ≠ -2) ∨ ∃ x, a ≤ x ∧ x < b ∧ f_Tr_firstFree T (a : Int) (b : Int) = some (x : Int) ∧ tLev T x = -2 ∧ ∀ z, a ≤ z → z < x → tLev T z ≠ -2 := by
  have go : ∀ (d a n : Nat), a + d = b → d < n → (f_Tr_firstFree_L2 T (b : Int) (fun x3_9 => some ((-1))) n (a : Int) = some (-1) ∧ ∀ x, a ≤ x → x < b → tLev T x ≠ -2) ∨ ∃ x, a ≤ x ∧ x < b ∧ f_Tr_firstFree_L2 T (b : Int) (fun x3_9 => some ((-1))) n (a : Int) = some (x : Int) ∧ tLev T x = -2 ∧ ∀ z, a ≤ z → z < x → tLev T z ≠ -2 := by
    intro d
    induction d with
    | zero =>
      intro a n ha hn
      obtain ⟨m, rfl⟩ : ∃ m, n = m + 1 := ⟨n - 1, by omega⟩
      refine Or.inl ⟨?_, fun x h1 h2 => absurd h1 (by omega)⟩
      rw [f_Tr_firstFree_L2, gd_p ⟨by omega, by omega⟩, gd_p ⟨by omega, by omega⟩, if_neg (by omega)]
    | succ d ih =>
      intro a n ha hn
      obtain ⟨m, rfl⟩ : ∃ m, n = m + 1 := ⟨n - 1, by omega⟩
      rw [f_Tr_firstFree_L2, gd_p ⟨by omega, by omega⟩, gd_p ⟨by omega, by omega⟩, if_pos (by omega), bd1_p (t_lev (by omega) (by omega)), gd_p (hc a (by omega))]
      by_cases hl : tLev T a = -2
      · rw [if_pos hl]
        exact Or.inr ⟨a, Nat.le_refl _, by omega, rfl, hl, fun z h1 h2 => absurd h1 (by omega)⟩
      · rw [if_neg hl, show (a : Int) + 1 = ((a + 1 : Nat) : Int) by omega]
        have hlow : ∀ z, a ≤ z → ¬ a + 1 ≤ z → tLev T z ≠ -2 := fun z h1 h2 => by
          have : z = a := by omega
          rw [this]; exact hl
        rcases ih (a + 1) m (by omega) (by omega) with ⟨h1, h2⟩ | ⟨x, h1, h2, h3, h4, h5⟩
        · exact Or.inl ⟨h1, fun x q1 q2 => by
            by_cases q3 : a + 1 ≤ x
            · exact h2 x q3 q2
            · exact hlow x q1 q3⟩
        · exact Or.inr ⟨x, by omega, h2, h3, h4, fun z q1 q2 => by
            by_cases q3 : a + 1 ≤ z
            · exact h5 z q3 q2
            · exact hlow z q1 q3⟩
  exact go (b - a) a FU (by omega) (by unfold FU; omega)
/-- an item laid anew: its level, no entries, no holder -/
def tk (T : TV) (x : Nat) (l : Int) : TV := sSiz (sHol (sLev T (up (tLev T) x l)) (up (tHol T) x (-1))) (up (tSiz T) x 0)
theorem take_sp {T : TV} {x : Nat} {l : Int} (hR : tR T ≤ 8192) (hx : x < tR T) : f_Tr_take T (x : Int) l = some (tk T x l) := by
  unfold f_Tr_take
  rw [bd1_p (put_sp (by omega) hx), bd1_p (put_sp (by omega) hx), bd1_p (put_sp (by omega) hx)]
  rfl
theorem Ar.take {T : TV} {kl : Nat → List Nat} {Q : List Nat} (h : Ar T kl Q) {x : Nat} {l : Int} (hx : x < tR T) (hq : x ∉ Q) (hl : -1 ≤ l ∧ l ≤ 20) (h24 : x < 24 ↔ l = -1) : Ar (tk T x l) (upL kl x []) (x :: Q) := by
  have hne : ∀ z ∈ Q, z ≠ x := fun z hz e => hq (e ▸ hz)
  refine ⟨h.1, List.nodup_cons.mpr ⟨hq, h.2.1⟩, fun z hz hzq => ?_, h.2.2.2.1, fun z hz => ?_⟩
  · show up (tLev T) x l z = -2
    rw [up_o (fun e => hzq (by rw [e]; exact List.mem_cons_self))]
    exact h.2.2.1 z hz (fun q => hzq (List.mem_cons_of_mem _ q))
  · by_cases hzx : z = x
    · subst hzx
      refine ⟨⟨hx, ?_, ?_, ?_⟩, fun _ => upL_s, ?_, ?_, ?_, Or.inl up_s⟩
      · show z < 24 ↔ up (tLev T) z l z = -1
        rw [up_s]; exact h24
      · show -1 ≤ up (tLev T) z l z
        rw [up_s]; exact hl.1
      · show up (tLev T) z l z ≤ 20
        rw [up_s]; exact hl.2
      · rw [upL_s]
        exact ⟨up_s, by simp, List.nodup_nil⟩
      · intro j y hj
        rw [upL_s] at hj
        simp at hj
      · intro y hy
        rw [upL_s] at hy
        cases hy
    · have hz := (List.mem_cons.mp hz).resolve_left hzx
      have hi := h.2.2.2.2 z hz
      have hlz : tLev (tk T x l) z = tLev T z := up_o hzx
      have hhz : tHol (tk T x l) z = tHol T z := up_o hzx
      refine ⟨⟨hi.1.1, by rw [hlz]; exact hi.1.2.1, by rw [hlz]; exact hi.1.2.2⟩, fun q => by rw [upL_o hzx]; exact hi.2.1 q, ?_, fun j y hj => ?_, fun y hy => ?_, ?_⟩
      · rw [upL_o hzx]
        exact ⟨by show up _ _ _ _ = _; rw [up_o hzx]; exact hi.2.2.1.1, hi.2.2.1.2⟩
      · rw [upL_o hzx] at hj
        exact hi.2.2.2.1 j y hj
      · rw [upL_o hzx] at hy
        have hy2 := h.kid hz hy
        have hyx := hne y hy2.1
        exact ⟨List.mem_cons_of_mem _ hy2.1, by show up _ _ _ _ = _; rw [up_o hyx]; exact hy2.2.1, by rw [hlz]; show up _ _ _ _ = _; rw [up_o hyx]; exact hy2.2.2⟩
      · rw [hlz, hhz]
        rcases hi.2.2.2.2.2 with q | ⟨v, q1, q2, q3, q4⟩
        · exact Or.inl q
        · exact Or.inr ⟨v, List.mem_cons_of_mem _ q1, q2, q3, by show up _ _ _ _ = _; rw [up_o (hne v q1)]; exact q4⟩
theorem Ar.free {T : TV} {kl : Nat → List Nat} {Q : List Nat} (h : Ar T kl Q) {x : Nat} (hx : x ∈ Q) (hh : ∀ y ∈ Q, tHol T y ≠ (x : Int)) (hk : ∀ z ∈ Q, x ∉ kl z) : f_Tr_release T (x : Int) = some (tk T x (-2)) ∧ Ar (tk T x (-2)) kl (Q.erase x) := by
  have hxl := h.lt hx
  have hm : ∀ z, z ∈ Q.erase x ↔ z ≠ x ∧ z ∈ Q := fun z => h.2.1.mem_erase_iff
  refine ⟨?_, h.1, h.2.1.erase x, fun z hz hzq => ?_, h.2.2.2.1, fun z hz => ?_⟩
  · unfold f_Tr_release
    rw [bd1_p (take_sp h.le hxl)]
  · show up (tLev T) x (-2) z = -2
    by_cases hzx : z = x
    · rw [hzx]; exact up_s
    · rw [up_o hzx]
      exact h.2.2.1 z hz (fun q => hzq ((hm z).mpr ⟨hzx, q⟩))
  · obtain ⟨hzx, hz⟩ := (hm z).mp hz
    have hi := h.2.2.2.2 z hz
    have hlz : tLev (tk T x (-2)) z = tLev T z := up_o hzx
    have hhz : tHol (tk T x (-2)) z = tHol T z := up_o hzx
    refine ⟨⟨hi.1.1, by rw [hlz]; exact hi.1.2.1, by rw [hlz]; exact hi.1.2.2⟩, hi.2.1, ⟨by show up _ _ _ _ = _; rw [up_o hzx]; exact hi.2.2.1.1, hi.2.2.1.2⟩, hi.2.2.2.1, fun y hy => ?_, ?_⟩
    · have hy2 := h.kid hz hy
      have hyx : y ≠ x := fun e => hk z hz (e ▸ hy)
      exact ⟨(hm y).mpr ⟨hyx, hy2.1⟩, by show up _ _ _ _ = _; rw [up_o hyx]; exact hy2.2.1, by rw [hlz]; show up _ _ _ _ = _; rw [up_o hyx]; exact hy2.2.2⟩
    · rw [hlz, hhz]
      rcases hi.2.2.2.2.2 with q | ⟨v, q1, q2, q3, q4⟩
      · exact Or.inl q
      · have hvx : v ≠ x := fun e => hh z hz (by rw [q3, e])
        exact Or.inr ⟨v, (hm v).mpr ⟨hvx, q1⟩, q2, q3, by show up _ _ _ _ = _; rw [up_o hvx]; exact q4⟩
theorem sub_len : ∀ {L M : List Nat}, L.Nodup → (∀ x ∈ L, x ∈ M) → L.length ≤ M.length
  | [], _, _, _ => Nat.zero_le _
  | a :: L, M, h, hs => by
    have ha := hs a List.mem_cons_self
    have hn := List.nodup_cons.mp h
    have := sub_len (M := M.erase a) hn.2 (fun x hx => (List.mem_erase_of_ne (fun e => hn.1 (by rw [← e]; exact hx))).mpr (hs x (List.mem_cons_of_mem _ hx)))
    rw [List.length_erase_of_mem ha] at this
    have := List.length_pos_of_mem ha
    rw [List.length_cons]
    omega
/-- what holds of the items in use behind a step that makes a new one -/
def Sq (Q : List Nat) (T T' : TV) : Prop := (tRoot T' = tRoot T ∧ tCap T' = tCap T ∧ tRei T' = tRei T ∧ tSpl T' = tSpl T ∧ tRec T' = tRec T) ∧ ∀ z ∈ Q, tLev T' z = tLev T z ∧ tHol T' z = tHol T z ∧ ∀ t, t < 4 → tCor T' (4 * z + t) = tCor T (4 * z + t)
theorem newNode_sp {T : TV} {kl : Nat → List Nat} {Q : List Nat} (h : Ar T kl Q) (hR3 : R3 T) (hN : nn (tLev T) Q ≤ 132) {l : Int} (hl : 0 ≤ l ∧ l ≤ 20) : ∃ (x : Nat) (T' : TV), f_Tr_newNode T l = some ((x : Int), T') ∧ x ∉ Q ∧ 24 ≤ x ∧ Ar T' (upL kl x []) (x :: Q) ∧ R3 T' ∧ tR T ≤ tR T' ∧ Sq Q T T' ∧ tLev T' x = l ∧ tHol T' x = -1 := by
  have hR := h.1
  have hle := h.le
  have h157 : tR T = 157 := hR3
  rcases free_sp (T := T) (b := 157) (by omega) (by omega) (fun x hx => h.ckall hx) 24 (by omega) with ⟨h1, h2⟩ | ⟨x, h1, h2, h3, h4, -⟩
  · exfalso
    have hall : ∀ x ∈ List.range' 24 133, x ∈ Q.filter (fun v => decide (0 ≤ tLev T v)) := fun x hx => by
      have hm := List.mem_range'_1.mp hx
      have hq : x ∈ Q := by
        by_cases q : x ∈ Q
        · exact q
        · exact absurd (h.2.2.1 x (by omega) q) (h2 x (by omega) (by omega))
      have hi := (h.2.2.2.2 x hq).1
      have hne : ¬ tLev T x = -1 := fun e => by
        have := hi.2.1.mpr e
        omega
      exact List.mem_filter.mpr ⟨hq, decide_eq_true (show 0 ≤ tLev T x by omega)⟩
    have hcount := sub_len (List.nodup_range' (step := 1)) hall
    rw [List.length_range', ← List.countP_eq_length_filter] at hcount
    unfold nn at hN
    omega
  · have hxq : x ∉ Q := fun q => by have := (h.2.2.2.2 x q).1.2.2.1; omega
    refine ⟨x, tk T x l, ?_, hxq, h1, h.take (by omega) hxq (by omega) (by omega), hR3, Nat.le_refl _, ⟨⟨rfl, rfl, rfl, rfl, rfl⟩, fun z hz => ?_⟩, up_s, up_s⟩
    · unfold f_Tr_newNode
      rw [show (24 : Int) = ((24 : Nat) : Int) from rfl, show (157 : Int) = ((157 : Nat) : Int) from rfl, bd1_p h3, gd_p ⟨by omega, by omega⟩, if_neg (by omega), bd1_p (take_sp (by omega) (by omega))]
    · have hzx : z ≠ x := fun e => hxq (e ▸ hz)
      exact ⟨up_o hzx, up_o hzx, fun _ _ => rfl⟩
