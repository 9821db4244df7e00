/-! the reference's row as whole numbers: places opened, cut, filled -/
def Rw (s : Nat → Int) (W : List Int) : Prop := s 4 = (W.length : Int) ∧ W.length ≤ 360 ∧ ∀ k v, W[k]? = some v → s (101 + k) = v
def Fr (s s' : Nat → Int) : Prop := ∀ j, j < 101 → j ≠ 4 → s' j = s j
theorem Fr.rf {s : Nat → Int} : Fr s s := fun _ _ _ => rfl
theorem Fr.tr {s t u : Nat → Int} (h : Fr s t) (g : Fr t u) : Fr s u := fun j h1 h2 => (g j h1 h2).trans (h j h1 h2)
theorem up_s {f : Nat → Int} {i : Nat} {x : Int} : up f i x i = x := if_pos rfl
theorem up_o {f : Nat → Int} {i j : Nat} {x : Int} (h : j ≠ i) : up f i x j = f j := if_neg h
theorem row_rw {s lv : Nat → Int} {P : List Nat} (h : Row s lv P) : Rw s (P.map (sg lv)) := by
  refine ⟨by rw [List.length_map]; exact h.1, by rw [List.length_map]; exact h.2.1, fun k v hv => ?_⟩
  rw [List.getElem?_map] at hv
  obtain ⟨x, h1, h2⟩ := Option.map_eq_some_iff.mp hv
  rw [h.2.2.1 k x h1, h2]
theorem rw_row {s lv : Nat → Int} {P : List Nat} (h : Rw s (P.map (sg lv))) (hP : ∀ x ∈ P, okI lv x) : Row s lv P := by
  refine ⟨by rw [h.1, List.length_map], by have := h.2.1; rw [List.length_map] at this; exact this, fun k x hx => h.2.2 k _ ?_, hP⟩
  rw [List.getElem?_map, hx]
  rfl
theorem rw_at {s : Nat → Int} {i : Nat} {v : Int} (hi : i < 360) (h : s (101 + i) = v) : f_Mo_at s (i : Int) = some v := by
  unfold f_Mo_at
  rw [gd_p (by omega), show ((101 : Int) + (i : Int)).toNat = 101 + i by omega, h]
theorem opens_go {A B : List Int} {m : Nat} (k : Int → (Nat → Int) → Option (Nat → Int)) (hl : A.length + B.length + m ≤ 360) : ∀ (d n : Nat) (s : Nat → Int), (∀ j v, (A ++ B)[j]? = some v → j < A.length + d → s (101 + j) = v) → (∀ j v, B[j]? = some v → d ≤ j → s (101 + (A.length + m) + j) = v) → d ≤ B.length → d < n → ∃ s', f_Mo_opens_L7 (A.length : Int) (m : Int) k n ((A.length + d : Nat) - 1 : Int) s = k ((A.length : Int) - 1) s' ∧ (∀ j v, A[j]? = some v → s' (101 + j) = v) ∧ (∀ j v, B[j]? = some v → s' (101 + (A.length + m) + j) = v) ∧ ∀ j, j < 101 → s' j = s j
  | 0, n + 1, s, h1, h2, hd, hn => by
    refine ⟨s, ?_, fun j v hv => ?_, fun j v hv => h2 j v hv (Nat.zero_le _), fun _ _ => rfl⟩
    · rw [f_Mo_opens_L7, gd_p ⟨by omega, by omega⟩, gd_p ⟨by omega, by omega⟩, if_pos (by omega)]
      rfl
    · have hj := (List.getElem?_eq_some_iff.mp hv).1
      exact h1 j v (by rw [List.getElem?_append_left hj]; exact hv) hj
  | d + 1, n + 1, s, h1, h2, hd, hn => by
    have hv : (A ++ B)[A.length + d]? = some (B[d]'(by omega)) := by
      rw [List.getElem?_append_right (by omega), Nat.add_sub_cancel_left]
      simp
    have hat := rw_at (by omega) (h1 _ _ hv (by omega))
    obtain ⟨s', e1, e2, e3, e4⟩ := opens_go k hl d n (up s (101 + (A.length + m) + d) (B[d]'(by omega))) (fun j v hjv hj => by rw [up_o (by omega)]; exact h1 j v hjv (by omega)) (fun j v hjv hj => by
      by_cases hjd : j = d
      · subst hjd
        rw [up_s]
        have := (List.getElem?_eq_some_iff.mp hjv).2
        exact this
      · rw [up_o (by omega)]
        exact h2 j v hjv (by omega)) (by omega) (by omega)
    refine ⟨s', ?_, e2, e3, fun j hj => by rw [e4 j hj, up_o (by omega)]⟩
    rw [f_Mo_opens_L7, gd_p ⟨by omega, by omega⟩, gd_p ⟨by omega, by omega⟩, if_neg (by omega), show ((A.length + (d + 1) : Nat) - 1 : Int) = ((A.length + d : Nat) : Int) by omega, bd1_p hat, gd_p ⟨by omega, by omega⟩, show (((101 : Int) + ((A.length + d : Nat) : Int)) + (m : Int)).toNat = 101 + (A.length + m) + d by omega, show (((A.length + d : Nat) : Int) + -1) = ((A.length + d : Nat) - 1 : Int) by omega]
    exact e1
theorem opens_sp {s : Nat → Int} {A B : List Int} (h : Rw s (A ++ B)) (m : Nat) (hl : A.length + B.length + m ≤ 360) : ∃ s', f_Mo_opens s (A.length : Int) (m : Int) = some s' ∧ s' 4 = ((A.length + m + B.length : Nat) : Int) ∧ (∀ j v, A[j]? = some v → s' (101 + j) = v) ∧ (∀ j v, B[j]? = some v → s' (101 + (A.length + m) + j) = v) ∧ Fr s s' := by
  obtain ⟨s', e1, e2, e3, e4⟩ := opens_go (m := m) (A := A) (B := B) (fun x3_11 c_s_12 => some ((up c_s_12 (4) ((c_s_12 4) + (m : Int))))) hl B.length FU s (fun j v hv _ => h.2.2 j v hv) (fun j v hv hj => by
    have := (List.getElem?_eq_some_iff.mp hv).1
    omega) (Nat.le_refl _) (by unfold FU; omega)
  refine ⟨up s' 4 (s' 4 + (m : Int)), ?_, ?_, fun j v hv => by rw [up_o (by omega)]; exact e2 j v hv, fun j v hv => by rw [up_o (by omega)]; exact e3 j v hv, fun j h1 h2 => by rw [up_o h2, e4 j h1]⟩
  · unfold f_Mo_opens f_Mo_length
    rw [bd1_p rfl, h.1, List.length_append]
    exact e1
  · rw [up_s, e4 4 (by omega), h.1, List.length_append]
    omega
theorem cuts_go {A M B : List Int} (k : Int → (Nat → Int) → Option (Nat → Int)) (hl : A.length + M.length + B.length ≤ 360) : ∀ (d b n : Nat) (s : Nat → Int), b + d = B.length → s 4 = ((A.length + M.length + B.length : Nat) : Int) → (∀ j v, A[j]? = some v → s (101 + j) = v) → (∀ j v, B[j]? = some v → j < b → s (101 + A.length + j) = v) → (∀ j v, B[j]? = some v → b ≤ j → s (101 + (A.length + M.length) + j) = v) → d < n → ∃ s', f_Mo_cuts_L2 (A.length : Int) ((A.length + M.length : Nat) : Int) k n ((A.length + M.length + b : Nat) : Int) s = k ((A.length + M.length + B.length : Nat) : Int) s' ∧ (∀ j v, A[j]? = some v → s' (101 + j) = v) ∧ (∀ j v, B[j]? = some v → s' (101 + A.length + j) = v) ∧ ∀ j, j < 101 → s' j = s j
  | 0, b, n + 1, s, hb, h4, h1, h2, h3, hn => by
    have hb : b = B.length := by omega
    subst hb
    refine ⟨s, ?_, h1, fun j v hv => h2 j v hv (List.getElem?_eq_some_iff.mp hv).1, fun _ _ => rfl⟩
    rw [f_Mo_cuts_L2]
    unfold f_Mo_length
    rw [bd1_p rfl, h4, gd_p ⟨by omega, by omega⟩, gd_p ⟨by omega, by omega⟩, if_neg (by omega)]
  | d + 1, b, n + 1, s, hb, h4, h1, h2, h3, hn => by
    have hv : B[b]? = some (B[b]'(by omega)) := by simp
    have hat : f_Mo_at s ((A.length + M.length + b : Nat) : Int) = some (B[b]'(by omega)) := rw_at (by omega) (by rw [← h3 b _ hv (Nat.le_refl _)]; congr 1; omega)
    obtain ⟨s', e1, e2, e3, e4⟩ := cuts_go k hl d (b + 1) n (up s (101 + A.length + b) (B[b]'(by omega))) (by omega) (by rw [up_o (by omega)]; exact h4) (fun j v hjv => by
      have := (List.getElem?_eq_some_iff.mp hjv).1
      rw [up_o (by omega)]; exact h1 j v hjv) (fun j v hjv hj => by
      by_cases hjd : j = b
      · subst hjd
        rw [up_s]
        exact (List.getElem?_eq_some_iff.mp hjv).2
      · rw [up_o (by omega)]
        exact h2 j v hjv (by omega)) (fun j v hjv hj => by rw [up_o (by omega)]; exact h3 j v hjv (by omega)) (by omega)
    refine ⟨s', ?_, e2, e3, fun j hj => by rw [e4 j hj, up_o (by omega)]⟩
    rw [f_Mo_cuts_L2]
    unfold f_Mo_length
    rw [bd1_p rfl, h4, gd_p ⟨by omega, by omega⟩, gd_p ⟨by omega, by omega⟩, if_pos (by omega), bd1_p hat, gd_p ⟨by omega, by omega⟩, show ((((101 : Int) + (A.length : Int)) + ((A.length + M.length + b : Nat) : Int)) - ((A.length + M.length : Nat) : Int)).toNat = 101 + A.length + b by omega, show (((A.length + M.length + b : Nat) : Int) + 1) = ((A.length + M.length + (b + 1) : Nat) : Int) by omega]
    exact e1
theorem app_get {A B : List Int} {k : Nat} {v : Int} (h : (A ++ B)[k]? = some v) : A[k]? = some v ∨ ∃ j, k = A.length + j ∧ B[j]? = some v := by
  by_cases hk : k < A.length
  · rw [List.getElem?_append_left hk] at h
    exact Or.inl h
  · rw [List.getElem?_append_right (by omega)] at h
    exact Or.inr ⟨k - A.length, by omega, h⟩
theorem cuts_sp {s : Nat → Int} {A M B : List Int} (h : Rw s (A ++ (M ++ B))) : ∃ s', f_Mo_cuts s (A.length : Int) ((A.length + M.length : Nat) : Int) = some s' ∧ Rw s' (A ++ B) ∧ Fr s s' := by
  have hl := h.2.1
  have h4 := h.1
  rw [List.length_append, List.length_append] at hl h4
  obtain ⟨s', e1, e2, e3, e4⟩ := cuts_go (A := A) (M := M) (B := B) (fun x3_11 c_s_12 => some ((up c_s_12 (4) ((c_s_12 4) - (((A.length + M.length : Nat) : Int) - (A.length : Int)))))) (by omega) B.length 0 FU s (by omega) (by rw [h4]; omega) (fun j v hv => h.2.2 j v (by rw [List.getElem?_append_left (List.getElem?_eq_some_iff.mp hv).1]; exact hv)) (fun j v _ hj => absurd hj (by omega)) (fun j v hv _ => by
    have := h.2.2 (A.length + (M.length + j)) v (by rw [List.getElem?_append_right (by omega), Nat.add_sub_cancel_left, List.getElem?_append_right (by omega), Nat.add_sub_cancel_left]; exact hv)
    rw [← this]
    congr 1
    omega) (by unfold FU; omega)
  refine ⟨up s' 4 (s' 4 - (((A.length + M.length : Nat) : Int) - (A.length : Int))), ?_, ⟨?_, ?_, fun j v hv => ?_⟩, fun j h1 h2 => by rw [up_o h2, e4 j h1]⟩
  · unfold f_Mo_cuts
    exact e1
  · rw [up_s, e4 4 (by omega), h4, List.length_append]
    omega
  · rw [List.length_append]
    omega
  · rw [up_o (by omega)]
    rcases app_get hv with h1 | ⟨i, rfl, h1⟩
    · exact e2 j v h1
    · rw [← e3 i v h1]
      congr 1
      omega
theorem puts_go {A I B : List Int} {item : Nat → Int} (hI : ∀ j v, I[j]? = some v → item j = v) (k : Int → (Nat → Int) → Option (Nat → Int)) (hl : A.length + I.length + B.length ≤ 360) : ∀ (d b n : Nat) (s : Nat → Int), b + d = I.length → (∀ j v, A[j]? = some v → s (101 + j) = v) → (∀ j v, I[j]? = some v → j < b → s (101 + A.length + j) = v) → (∀ j v, B[j]? = some v → s (101 + (A.length + I.length) + j) = v) → d < n → ∃ s', f_Mo_puts_L17 item (I.length : Int) (A.length : Int) k n (b : Int) s = k (I.length : Int) s' ∧ (∀ j v, A[j]? = some v → s' (101 + j) = v) ∧ (∀ j v, I[j]? = some v → s' (101 + A.length + j) = v) ∧ (∀ j v, B[j]? = some v → s' (101 + (A.length + I.length) + j) = v) ∧ ∀ j, j < 101 → s' j = s j
  | 0, b, n + 1, s, hb, h1, h2, h3, hn => by
    have hb : b = I.length := by omega
    subst hb
    refine ⟨s, ?_, h1, fun j v hv => h2 j v hv (List.getElem?_eq_some_iff.mp hv).1, h3, fun _ _ => rfl⟩
    rw [f_Mo_puts_L17, gd_p ⟨by omega, by omega⟩, gd_p ⟨by omega, by omega⟩, if_neg (by omega)]
  | d + 1, b, n + 1, s, hb, h1, h2, h3, hn => by
    have hv : I[b]? = some (I[b]'(by omega)) := by simp
    obtain ⟨s', e1, e2, e3, e4, e5⟩ := puts_go hI k hl d (b + 1) n (up s (101 + A.length + b) (item b)) (by omega) (fun j v hjv => by
      have := (List.getElem?_eq_some_iff.mp hjv).1
      rw [up_o (by omega)]; exact h1 j v hjv) (fun j v hjv hj => by
      by_cases hjd : j = b
      · subst hjd
        rw [up_s]
        exact hI j v hjv
      · rw [up_o (by omega)]
        exact h2 j v hjv (by omega)) (fun j v hjv => by rw [up_o (by omega)]; exact h3 j v hjv) (by omega)
    refine ⟨s', ?_, e2, e3, e4, fun j hj => by rw [e5 j hj, up_o (by omega)]⟩
    rw [f_Mo_puts_L17, gd_p ⟨by omega, by omega⟩, gd_p ⟨by omega, by omega⟩, if_pos (by omega), gd_p ⟨by omega, by omega⟩, gd_p ⟨by omega, by omega⟩, show (((101 : Int) + (A.length : Int)) + (b : Int)).toNat = 101 + A.length + b by omega, show (b : Int).toNat = b by omega, show ((b : Int) + 1) = ((b + 1 : Nat) : Int) by omega]
    exact e1
theorem puts_sp {s item : Nat → Int} {A I B : List Int} {k : Int} (h : Rw s (A ++ B)) (hI : ∀ j v, I[j]? = some v → item j = v) (hl : A.length + I.length + B.length ≤ 360) (he : f_Mo_endOf s k = some (A.length : Int)) : ∃ s', f_Mo_puts s item (I.length : Int) k = some s' ∧ Rw s' (A ++ (I ++ B)) ∧ Fr s s' := by
  obtain ⟨s1, e1, e2, e3, e4, e5⟩ := opens_sp h I.length (by omega)
  obtain ⟨s', g1, g2, g3, g4, g5⟩ := puts_go (A := A) (I := I) (B := B) hI (fun x3_12 c_s_13 => some (c_s_13)) hl I.length 0 FU s1 (by omega) e3 (fun j v _ hj => absurd hj (by omega)) e4 (by unfold FU; omega)
  refine ⟨s', ?_, ⟨?_, ?_, fun j v hv => ?_⟩, fun j h1 h2 => by rw [g5 j h1, e5 j h1 h2]⟩
  · unfold f_Mo_puts
    rw [bd1_p he, bd1_p e1]
    exact g1
  · rw [g5 4 (by omega), e2, List.length_append, List.length_append]
    omega
  · rw [List.length_append, List.length_append]
    omega
  · rcases app_get hv with h1 | ⟨i, rfl, h1⟩
    · exact g2 j v h1
    · rcases app_get h1 with h2 | ⟨i2, rfl, h2⟩
      · rw [← g3 i v h2]
        congr 1
        omega
      · rw [← g4 i2 v h2]
        congr 1
        omega
theorem takes_go {s : Nat → Int} {M : List Int} {a : Nat} (hM : ∀ j v, M[j]? = some v → s (101 + a + j) = v) (k : Int → (Nat → Int) → Option ((Nat → Int) × Int)) (hl : a + M.length ≤ 360) : ∀ (d b n : Nat) (it : Nat → Int), b + d = M.length → (∀ j v, M[j]? = some v → j < b → it j = v) → d < n → ∃ it', f_Mo_takes_s_L10 s (M.length : Int) ((101 + a : Nat) : Int) k n (b : Int) it = k (M.length : Int) it' ∧ (∀ j v, M[j]? = some v → it' j = v)
  | 0, b, n + 1, it, hb, h1, hn => by
    have hb : b = M.length := by omega
    subst hb
    refine ⟨it, ?_, fun j v hv => h1 j v hv (List.getElem?_eq_some_iff.mp hv).1⟩
    rw [f_Mo_takes_s_L10, gd_p ⟨by omega, by omega⟩, gd_p ⟨by omega, by omega⟩, if_neg (by omega)]
  | d + 1, b, n + 1, it, hb, h1, hn => by
    have hv : M[b]? = some (M[b]'(by omega)) := by simp
    obtain ⟨it', e1, e2⟩ := takes_go hM k hl d (b + 1) n (up it b (s (101 + a + b))) (by omega) (fun j v hjv hj => by
      by_cases hjd : j = b
      · subst hjd
        rw [up_s]
        exact hM j v hjv
      · rw [up_o (by omega)]
        exact h1 j v hjv (by omega)) (by omega)
    refine ⟨it', ?_, e2⟩
    rw [f_Mo_takes_s_L10, gd_p ⟨by omega, by omega⟩, gd_p ⟨by omega, by omega⟩, if_pos (by omega), gd_p ⟨by omega, by omega⟩, gd_p ⟨by omega, by omega⟩, show (((101 + a : Nat) : Int) + (b : Int)).toNat = 101 + a + b by omega, show (b : Int).toNat = b by omega, show ((b : Int) + 1) = ((b + 1 : Nat) : Int) by omega]
    exact e1
theorem takes_sp {s it : Nat → Int} {A M B : List Int} (h : Rw s (A ++ (M ++ B))) : ∃ it', f_Mo_takes_s s it ((101 : Int) + (A.length : Int)) ((101 : Int) + ((A.length + M.length : Nat) : Int)) = some (it', (M.length : Int)) ∧ ∀ j v, M[j]? = some v → it' j = v := by
  have hl := h.2.1
  rw [List.length_append, List.length_append] at hl
  obtain ⟨it', e1, e2⟩ := takes_go (s := s) (M := M) (a := A.length) (fun j v hv => by
    have hj := (List.getElem?_eq_some_iff.mp hv).1
    have := h.2.2 (A.length + j) v (by rw [List.getElem?_append_right (by omega), Nat.add_sub_cancel_left, List.getElem?_append_left hj]; exact hv)
    rw [← this]
    congr 1
    omega) (fun x4_6 c_item_7 => some (c_item_7, (M.length : Int))) (by omega) M.length 0 FU it (by omega) (fun j v _ hj => absurd hj (by omega)) (by unfold FU; omega)
  refine ⟨it', ?_, e2⟩
  unfold f_Mo_takes_s
  rw [show ((101 : Int) + ((A.length + M.length : Nat) : Int)) - ((101 : Int) + (A.length : Int)) = (M.length : Int) by omega, show ((101 : Int) + (A.length : Int)) = ((101 + A.length : Nat) : Int) by omega]
  exact e1
