/-! worlds in another order of their blocks; the law's state -/
section ZG
variable {p : Program} {l : Launch} {e : Env} {R : Room} {s : State} {m : MethodId} {args : Array Value} {below : List Frame} {meth : Method} {c : Code} {H : Heap} {locs : List Loc} {cells slots : Nat} {Q : State → Prop}
variable {pc : Nat} {ls : Array Slot} {rest : List Value} {D : va_G} {A : Nat → Prop} {H0 : Heap}
theorem va_P_suf {wr wc : va_W} {H : Heap} (hP : va_P D vwCl (wr ++ wc) H) : va_P D vwCl wc H := fun k q hq => hP (wr.length + k) q (by rw [List.getElem?_append_right (Nat.le_add_right _ _), Nat.add_sub_cancel_left]; exact hq)
theorem va_D_suf {wr wc : va_W} (hD : va_D A (wr ++ wc)) : va_D A wc := by
  have h : ∀ (k : Nat) (q : Nat × va_E), wc[k]? = some q → (wr ++ wc)[wr.length + k]? = some q := fun k q hq => by rw [List.getElem?_append_right (Nat.le_add_right _ _), Nat.add_sub_cancel_left]; exact hq
  exact ⟨fun i j p q h1 h2 h3 => by have := hD.1 _ _ p q (h i p h1) (h j q h2) h3; omega, fun k q h1 => hD.2 _ q (h k q h1)⟩
theorem va_P_eq {w w' : va_W} (e : w = w') {H : Heap} (h : va_P D vwCl w H) : va_P D vwCl w' H := by rw [← e]; exact h
theorem va_D_eq {w w' : va_W} (e : w = w') (h : va_D A w) : va_D A w' := by rw [← e]; exact h
theorem va_P_perm {w w' : va_W} (e : List.Perm w w') {H : Heap} (h : va_P D vwCl w H) : va_P D vwCl w' H := fun k q hq => by
  obtain ⟨j, hj⟩ := List.getElem?_of_mem (e.mem_iff.mpr (List.mem_of_getElem? hq))
  exact h j q hj
theorem va_D_nodup {w : va_W} (h : va_D A w) : (w.map Prod.fst).Nodup := by
  rw [List.Nodup, List.pairwise_iff_getElem]
  intro i j hi hj hij he
  have hi' : i < w.length := by rw [List.length_map] at hi; exact hi
  have hj' : j < w.length := by rw [List.length_map] at hj; exact hj
  rw [List.getElem_map, List.getElem_map] at he
  have := h.1 i j _ _ (List.getElem?_eq_getElem hi') (List.getElem?_eq_getElem hj') he
  omega
theorem va_nodup_D {w : va_W} (h : (w.map Prod.fst).Nodup) (i j : Nat) (p q : Nat × va_E) (h1 : w[i]? = some p) (h2 : w[j]? = some q) (h3 : p.1 = q.1) : i = j := by
  obtain ⟨hi, e1⟩ := List.getElem?_eq_some_iff.mp h1
  obtain ⟨hj, e2⟩ := List.getElem?_eq_some_iff.mp h2
  have hi' : i < (w.map Prod.fst).length := by rw [List.length_map]; exact hi
  have hj' : j < (w.map Prod.fst).length := by rw [List.length_map]; exact hj
  have ee : (w.map Prod.fst)[i] = (w.map Prod.fst)[j] := by rw [List.getElem_map, List.getElem_map, e1, e2]; exact h3
  rw [List.Nodup, List.pairwise_iff_getElem] at h
  rcases Nat.lt_trichotomy i j with z | z | z
  · exact absurd ee (h i j hi' hj' z)
  · exact z
  · exact absurd ee.symm (h j i hj' hi' z)
theorem va_D_perm {w w' : va_W} (e : List.Perm w w') (h : va_D A w) : va_D A w' := by
  refine ⟨va_nodup_D ((e.map Prod.fst).nodup_iff.mp (va_D_nodup h)), fun k q hq => ?_⟩
  obtain ⟨j, hj⟩ := List.getElem?_of_mem (e.mem_iff.mpr (List.mem_of_getElem? hq))
  exact h.2 j q hj
theorem va_nd_range : ∀ (n k : Nat), va_nd (List.range' k n) = true := by
  intro n
  induction n with
  | zero => intro k; rfl
  | succ n ih =>
    intro k
    rw [List.range'_succ, va_nd, ih (k + 1), Bool.and_true, decide_eq_true_eq]
    intro h
    have := (List.mem_range'_1.mp h).1
    omega
theorem va_suf_at (wr wc : va_W) : (List.range' wr.length wc.length).map (fun i => (wr ++ wc)[i]?) = wc.map some := by
  refine List.ext_getElem? (fun i => ?_)
  rw [List.getElem?_map, List.getElem?_map]
  by_cases h : i < wc.length
  · rw [List.getElem?_range' h, List.getElem?_eq_getElem h]
    show some ((wr ++ wc)[wr.length + 1 * i]?) = _
    rw [List.getElem?_append_right (Nat.le_add_right _ _), Nat.one_mul, Nat.add_sub_cancel_left, List.getElem?_eq_getElem h]
    rfl
  · rw [List.getElem?_eq_none (by rw [List.length_range']; omega), List.getElem?_eq_none (by omega)]
    rfl
theorem va_pre_at (wr wc : va_W) : (List.range' 0 wr.length).map (fun i => (wr ++ wc)[i]?) = wr.map some := by
  refine List.ext_getElem? (fun i => ?_)
  rw [List.getElem?_map, List.getElem?_map]
  by_cases h : i < wr.length
  · rw [List.getElem?_range' h, List.getElem?_eq_getElem h]
    show some ((wr ++ wc)[0 + 1 * i]?) = _
    rw [show 0 + 1 * i = i by omega, List.getElem?_append_left h, List.getElem?_eq_getElem h]
    rfl
  · rw [List.getElem?_eq_none (by rw [List.length_range']; omega), List.getElem?_eq_none (by omega)]
    rfl
theorem va_joinA {D : va_G} {wc wr w1 : va_W} {H H1 : Heap} (hP : va_P D vwCl (wr ++ wc) H) (hD : va_D A (wr ++ wc)) (hk : ∀ q : Nat, q < H.size → ¬ va_A wc H.size q → H1[q]? = H[q]?) (hF : ∀ q, va_A wc H.size q → A q) (hP1 : va_P D vwCl w1 H1) (hD1 : va_D (va_A wc H.size) w1) : va_P D vwCl (wr ++ w1) H1 ∧ va_D A (wr ++ w1) :=
  va_join hP hD _ _ (va_suf_at wr wc) (va_pre_at wr wc) (va_nd_range _ _) (fun i hi q => by have h1 := (List.mem_range'_1.mp hi).2; have h2 := (List.mem_range'_1.mp q).1; omega) hk hF hP1 hD1
theorem z_gova {mc ms : Nat} {st0 : List Value} {av : Array Value} {wc wr : va_W} {w1 : zU → va_W} (hr : va_Run p l e R s m args below meth c H locs cells slots mc ms (F0 m pc ls st0) rest (zQv D w1 (va_A wc H.size) av) (va_A wc H.size))
    (hP : va_P D vwCl (wr ++ wc) H) (hD : va_D A (wr ++ wc)) (hS : va_S A H0 H locs) (hA : ∀ q, H0.size ≤ q → A q)
    (kk : ∀ (u : zU) (H1 : Heap) (locs1 : List Loc), va_P D vwCl (wr ++ w1 u) H1 → va_D A (wr ++ w1 u) → va_S A H0 H1 locs1 → H.size ≤ H1.size → W p l e R s m args below meth c H1 locs1 (cells + mc) (slots + ms) Q (F0 m (pc + 3) ls rest)) : W p l e R s m args below meth c H locs cells slots Q (F0 m pc ls st0) := by
  have hFc := va_free (wc := wc) hD hS hA _ (va_suf_at wr wc)
  refine va_callv hr hS (fun q _ h => hFc q h) hFc (fun u t H1 locs1 ht hvm hw hB hz hk hS1 => ?_)
  obtain ⟨hP1, hD1⟩ := hB
  rw [ht] at hP1
  obtain ⟨hP2, hD2⟩ := va_joinA hP hD hk hFc hP1 hD1
  exact kk u H1 locs1 hP2 hD2 hS1 hz
theorem z_gov0 {mc ms : Nat} {st0 : List Value} {av : Array Value} {wc : va_W} {w1 : zU → va_W} (hr : va_Run p l e R s m args below meth c H locs cells slots mc ms (F0 m pc ls st0) rest (zQv D w1 (va_A wc H.size) av) (va_A wc H.size))
    (hP : va_P D vwCl wc H) (hD : va_D A wc) (hS : va_S A H0 H locs) (hA : ∀ q, H0.size ≤ q → A q)
    (kk : ∀ (u : zU) (H1 : Heap) (locs1 : List Loc), va_P D vwCl (w1 u) H1 → va_D A (w1 u) → va_S A H0 H1 locs1 → H.size ≤ H1.size → W p l e R s m args below meth c H1 locs1 (cells + mc) (slots + ms) Q (F0 m (pc + 3) ls rest)) : W p l e R s m args below meth c H locs cells slots Q (F0 m pc ls st0) :=
  z_gova (wr := []) hr hP hD hS hA kk
theorem z_goip {mc ms : Nat} {st0 : List Value} {av : Array Value} {wc wr : va_W} {w1 : zU → va_W} {wn : zU → va_W} {ret : Int} (hr : va_Run p l e R s m args below meth c H locs cells slots mc ms (F0 m pc ls st0) rest (va_Qi (fun (r : Int32) (_ : zU) => r = Int32.ofInt ret) (fun u t => va_P D vwCl (w1 u) t.heap ∧ va_D (va_A wc H.size) (w1 u)) (va_A wc H.size) av) (va_A wc H.size))
    (hP : va_P D vwCl (wr ++ wc) H) (hD : va_D A (wr ++ wc)) (hS : va_S A H0 H locs) (hA : ∀ q, H0.size ≤ q → A q) (hp : ∀ u, List.Perm (wr ++ w1 u) (wn u))
    (kk : ∀ (u : zU) (H1 : Heap) (locs1 : List Loc), va_P D vwCl (wn u) H1 → va_D A (wn u) → va_S A H0 H1 locs1 → H.size ≤ H1.size → W p l e R s m args below meth c H1 locs1 (cells + mc) (slots + ms) Q (F0 m (pc + 3) ls (vI ret :: rest))) : W p l e R s m args below meth c H locs cells slots Q (F0 m pc ls st0) := by
  have hFc := va_free (wc := wc) hD hS hA _ (va_suf_at wr wc)
  refine va_calli hr hS (fun q _ h => hFc q h) hFc (fun r u t H1 locs1 ht hvm hw hB hz hk hS1 => ?_)
  obtain ⟨hP1, hD1⟩ := hB
  rw [ht] at hP1
  subst hw
  obtain ⟨hP2, hD2⟩ := va_joinA hP hD hk hFc hP1 hD1
  exact kk u H1 locs1 (va_P_perm (hp u) hP2) (va_D_perm (hp u) hD2) hS1 hz
theorem z_gofp {mc ms : Nat} {st0 : List Value} {av : Array Value} {wc wr : va_W} {w1 : zU → va_W} {wn : zU → va_W} {ret : UInt32} (hr : va_Run p l e R s m args below meth c H locs cells slots mc ms (F0 m pc ls st0) rest (zQf D ret w1 (va_A wc H.size) av) (va_A wc H.size))
    (hP : va_P D vwCl (wr ++ wc) H) (hD : va_D A (wr ++ wc)) (hS : va_S A H0 H locs) (hA : ∀ q, H0.size ≤ q → A q) (hp : ∀ u, List.Perm (wr ++ w1 u) (wn u))
    (kk : ∀ (u : zU) (H1 : Heap) (locs1 : List Loc), va_P D vwCl (wn u) H1 → va_D A (wn u) → va_S A H0 H1 locs1 → H.size ≤ H1.size → W p l e R s m args below meth c H1 locs1 (cells + mc) (slots + ms) Q (F0 m (pc + 3) ls (.float ret :: rest))) : W p l e R s m args below meth c H locs cells slots Q (F0 m pc ls st0) := by
  have hFc := va_free (wc := wc) hD hS hA _ (va_suf_at wr wc)
  refine va_callf hr hS (fun q _ h => hFc q h) hFc (fun r u t H1 locs1 ht hvm hw hB hz hk hS1 => ?_)
  obtain ⟨hP1, hD1⟩ := hB
  rw [ht] at hP1
  subst hw
  obtain ⟨hP2, hD2⟩ := va_joinA hP hD hk hFc hP1 hD1
  exact kk u H1 locs1 (va_P_perm (hp u) hP2) (va_D_perm (hp u) hD2) hS1 hz
def bsel : List va_W → Nat → va_W
  | [], _ => []
  | a :: _, 0 => a
  | _ :: l, n + 1 => bsel l n
theorem apc {a a' b b' : va_W} (h1 : a = a') (h2 : b = b') : a ++ b = a' ++ b' := by rw [h1, h2]
end ZG
theorem pm_0_1 (b0 b1 b2 b3 b4 b5 b6 b7 b8 b9 b10 b11 b12 b13 b14 : va_W) : List.Perm (b0 ++ (b1 ++ (b2 ++ (b3 ++ (b4 ++ (b5 ++ (b6 ++ (b7 ++ (b8 ++ (b9 ++ (b10 ++ (b11 ++ (b12 ++ (b13 ++ (b14))))))))))))))) ((b2 ++ (b3 ++ (b4 ++ (b5 ++ (b6 ++ (b7 ++ (b8 ++ (b9 ++ (b10 ++ (b11 ++ (b12 ++ (b13 ++ (b14))))))))))))) ++ (b0 ++ b1)) := by
  have h := ((show List.Perm [0, 1, 2, 3, 4, 5, 6, 7, 8, 9, 10, 11, 12, 13, 14] [2, 3, 4, 5, 6, 7, 8, 9, 10, 11, 12, 13, 14, 0, 1] from by decide +kernel).map (bsel [b0, b1, b2, b3, b4, b5, b6, b7, b8, b9, b10, b11, b12, b13, b14])).flatten
  simpa only [List.map_cons, List.map_nil, bsel, List.flatten_cons, List.flatten_nil, List.append_nil, List.append_assoc] using h
theorem pm_0_1_2_3_4_5_6_7_8_9_10_11_12_14r (b0 b1 b2 b3 b4 b5 b6 b7 b8 b9 b10 b11 b12 b13 b14 : va_W) : List.Perm (b0 ++ (b1 ++ (b2 ++ (b3 ++ (b4 ++ (b5 ++ (b6 ++ (b7 ++ (b8 ++ (b9 ++ (b10 ++ (b11 ++ (b12 ++ (b13 ++ (b14))))))))))))))) ((b13) ++ (b0 ++ (b1 ++ (b2 ++ (b3 ++ (b4 ++ (b5 ++ (b6 ++ (b7 ++ (b8 ++ (b9 ++ (b10 ++ (b11 ++ (b12 ++ (b14))))))))))))))) := by
  have h := ((show List.Perm [0, 1, 2, 3, 4, 5, 6, 7, 8, 9, 10, 11, 12, 13, 14] [13, 0, 1, 2, 3, 4, 5, 6, 7, 8, 9, 10, 11, 12, 14] from by decide +kernel).map (bsel [b0, b1, b2, b3, b4, b5, b6, b7, b8, b9, b10, b11, b12, b13, b14])).flatten
  simpa only [List.map_cons, List.map_nil, bsel, List.flatten_cons, List.flatten_nil, List.append_nil, List.append_assoc] using h
theorem pm_0_1_6 (b0 b1 b2 b3 b4 b5 b6 b7 b8 b9 b10 b11 b12 b13 b14 : va_W) : List.Perm (b0 ++ (b1 ++ (b2 ++ (b3 ++ (b4 ++ (b5 ++ (b6 ++ (b7 ++ (b8 ++ (b9 ++ (b10 ++ (b11 ++ (b12 ++ (b13 ++ (b14))))))))))))))) ((b2 ++ (b3 ++ (b4 ++ (b5 ++ (b7 ++ (b8 ++ (b9 ++ (b10 ++ (b11 ++ (b12 ++ (b13 ++ (b14)))))))))))) ++ ((b0 ++ b1) ++ b6)) := by
  have h := ((show List.Perm [0, 1, 2, 3, 4, 5, 6, 7, 8, 9, 10, 11, 12, 13, 14] [2, 3, 4, 5, 7, 8, 9, 10, 11, 12, 13, 14, 0, 1, 6] from by decide +kernel).map (bsel [b0, b1, b2, b3, b4, b5, b6, b7, b8, b9, b10, b11, b12, b13, b14])).flatten
  simpa only [List.map_cons, List.map_nil, bsel, List.flatten_cons, List.flatten_nil, List.append_nil, List.append_assoc] using h
theorem pm_0_1_6_14 (b0 b1 b2 b3 b4 b5 b6 b7 b8 b9 b10 b11 b12 b13 b14 : va_W) : List.Perm (b0 ++ (b1 ++ (b2 ++ (b3 ++ (b4 ++ (b5 ++ (b6 ++ (b7 ++ (b8 ++ (b9 ++ (b10 ++ (b11 ++ (b12 ++ (b13 ++ (b14))))))))))))))) ((b2 ++ (b3 ++ (b4 ++ (b5 ++ (b7 ++ (b8 ++ (b9 ++ (b10 ++ (b11 ++ (b12 ++ (b13))))))))))) ++ (((b0 ++ b1) ++ b6) ++ b14)) := by
  have h := ((show List.Perm [0, 1, 2, 3, 4, 5, 6, 7, 8, 9, 10, 11, 12, 13, 14] [2, 3, 4, 5, 7, 8, 9, 10, 11, 12, 13, 0, 1, 6, 14] from by decide +kernel).map (bsel [b0, b1, b2, b3, b4, b5, b6, b7, b8, b9, b10, b11, b12, b13, b14])).flatten
  simpa only [List.map_cons, List.map_nil, bsel, List.flatten_cons, List.flatten_nil, List.append_nil, List.append_assoc] using h
def Cw (i : Nat) (T : TV) : Prop := (0 ≤ tSpl T ∧ tSpl T ≤ 29491200 * (i : Int)) ∧ 0 ≤ tRec T ∧ tRec T ≤ 29491200 * (i : Int)
def lwSt (D : va_G) (cI cT : ClassId) (A : Nat → Prop) (h_R h_B i : Nat) (H : Heap) : Prop :=
  ∃ (h_T : Nat) (h_C : Nat) (h_P : Nat) (h_K : Nat) (h_X : Nat) (h_H : Nat) (h_N : Nat) (q_T : Nat → Nat) (q_C : Nat → Nat) (h_LB : Nat) (h_LN : Nat) (q_LB : Nat → Nat) (q_LN : Nat → Nat) (q_P : Nat → Nat) (q_K : Nat → Nat) (q_X : Nat → Nat) (q_H : Nat) (h_S0 : Nat) (h_S1 : Nat) (h_S2 : Nat) (h_S3 : Nat) (q_S0 : Nat → Nat) (q_S1 : Nat → Nat) (q_S2 : Nat → Nat) (q_S3 : Nat → Nat) (q_N : Nat → Nat) (c_hasSnapshot : Int) (T : TV) (c_kept : Nat → Int) (c_keptCount : Int) (c_pool : Nat → Int) (c_left : Int) (c_treated : Int64) (LB : KV) (LN : KV) (c_row : Nat → Int) (K : KV) (c_characters : Nat → Int) (c_length : Int) (c_parts : Nat → Int) (c_rectangles : Int) (c_part : Int) (c_digits : Int) (c_value : Int) (c_count : Int) (S0 : TV) (S1 : TV) (S2 : TV) (S3 : TV) (N : TV) (bx : Nat → Int), LC T LB LN K c_length c_count S0 S1 S2 S3 bx ∧ Cw i T ∧ va_P D vwCl ((zRt h_R h_T h_C h_P h_K h_X h_H h_N c_hasSnapshot) ++ ((zTr cI h_T q_T T) ++ ((zCh cI h_C q_C h_T h_LB h_LN c_kept c_keptCount c_pool c_left c_treated) ++ ((zWk cI h_LB q_LB LB) ++ ((zWk cI h_LN q_LN LN) ++ ((zPk cI h_P q_P h_T c_row) ++ ((zWk cI h_K q_K K) ++ ((zTx cI h_X q_X c_characters c_length c_parts c_rectangles c_part c_digits c_value) ++ ((zHs cT h_H q_H h_S0 h_S1 h_S2 h_S3 c_count) ++ ((zTr cI h_S0 q_S0 S0) ++ ((zTr cI h_S1 q_S1 S1) ++ ((zTr cI h_S2 q_S2 S2) ++ ((zTr cI h_S3 q_S3 S3) ++ ((zTr cI h_N q_N N) ++ ((zAr cI h_B 24 bx)))))))))))))))) H ∧ va_D A ((zRt h_R h_T h_C h_P h_K h_X h_H h_N c_hasSnapshot) ++ ((zTr cI h_T q_T T) ++ ((zCh cI h_C q_C h_T h_LB h_LN c_kept c_keptCount c_pool c_left c_treated) ++ ((zWk cI h_LB q_LB LB) ++ ((zWk cI h_LN q_LN LN) ++ ((zPk cI h_P q_P h_T c_row) ++ ((zWk cI h_K q_K K) ++ ((zTx cI h_X q_X c_characters c_length c_parts c_rectangles c_part c_digits c_value) ++ ((zHs cT h_H q_H h_S0 h_S1 h_S2 h_S3 c_count) ++ ((zTr cI h_S0 q_S0 S0) ++ ((zTr cI h_S1 q_S1 S1) ++ ((zTr cI h_S2 q_S2 S2) ++ ((zTr cI h_S3 q_S3 S3) ++ ((zTr cI h_N q_N N) ++ ((zAr cI h_B 24 bx))))))))))))))))
theorem lw_out {D : va_G} {cI cT : ClassId} {A : Nat → Prop} {h_R h_B i : Nat} {H : Heap} {G : Prop} (hst : lwSt D cI cT A h_R h_B i H) (k : ∀ (h_T : Nat) (h_C : Nat) (h_P : Nat) (h_K : Nat) (h_X : Nat) (h_H : Nat) (h_N : Nat) (q_T : Nat → Nat) (q_C : Nat → Nat) (h_LB : Nat) (h_LN : Nat) (q_LB : Nat → Nat) (q_LN : Nat → Nat) (q_P : Nat → Nat) (q_K : Nat → Nat) (q_X : Nat → Nat) (q_H : Nat) (h_S0 : Nat) (h_S1 : Nat) (h_S2 : Nat) (h_S3 : Nat) (q_S0 : Nat → Nat) (q_S1 : Nat → Nat) (q_S2 : Nat → Nat) (q_S3 : Nat → Nat) (q_N : Nat → Nat) (c_hasSnapshot : Int) (T : TV) (c_kept : Nat → Int) (c_keptCount : Int) (c_pool : Nat → Int) (c_left : Int) (c_treated : Int64) (LB : KV) (LN : KV) (c_row : Nat → Int) (K : KV) (c_characters : Nat → Int) (c_length : Int) (c_parts : Nat → Int) (c_rectangles : Int) (c_part : Int) (c_digits : Int) (c_value : Int) (c_count : Int) (S0 : TV) (S1 : TV) (S2 : TV) (S3 : TV) (N : TV) (bx : Nat → Int) (hI : LC T LB LN K c_length c_count S0 S1 S2 S3 bx) (hC : Cw i T) (hP : va_P D vwCl ((zRt h_R h_T h_C h_P h_K h_X h_H h_N c_hasSnapshot) ++ ((zTr cI h_T q_T T) ++ ((zCh cI h_C q_C h_T h_LB h_LN c_kept c_keptCount c_pool c_left c_treated) ++ ((zWk cI h_LB q_LB LB) ++ ((zWk cI h_LN q_LN LN) ++ ((zPk cI h_P q_P h_T c_row) ++ ((zWk cI h_K q_K K) ++ ((zTx cI h_X q_X c_characters c_length c_parts c_rectangles c_part c_digits c_value) ++ ((zHs cT h_H q_H h_S0 h_S1 h_S2 h_S3 c_count) ++ ((zTr cI h_S0 q_S0 S0) ++ ((zTr cI h_S1 q_S1 S1) ++ ((zTr cI h_S2 q_S2 S2) ++ ((zTr cI h_S3 q_S3 S3) ++ ((zTr cI h_N q_N N) ++ ((zAr cI h_B 24 bx)))))))))))))))) H) (hD : va_D A ((zRt h_R h_T h_C h_P h_K h_X h_H h_N c_hasSnapshot) ++ ((zTr cI h_T q_T T) ++ ((zCh cI h_C q_C h_T h_LB h_LN c_kept c_keptCount c_pool c_left c_treated) ++ ((zWk cI h_LB q_LB LB) ++ ((zWk cI h_LN q_LN LN) ++ ((zPk cI h_P q_P h_T c_row) ++ ((zWk cI h_K q_K K) ++ ((zTx cI h_X q_X c_characters c_length c_parts c_rectangles c_part c_digits c_value) ++ ((zHs cT h_H q_H h_S0 h_S1 h_S2 h_S3 c_count) ++ ((zTr cI h_S0 q_S0 S0) ++ ((zTr cI h_S1 q_S1 S1) ++ ((zTr cI h_S2 q_S2 S2) ++ ((zTr cI h_S3 q_S3 S3) ++ ((zTr cI h_N q_N N) ++ ((zAr cI h_B 24 bx))))))))))))))))), G) : G :=
  Exists.elim hst fun h_T h => Exists.elim h fun h_C h => Exists.elim h fun h_P h => Exists.elim h fun h_K h => Exists.elim h fun h_X h => Exists.elim h fun h_H h => Exists.elim h fun h_N h => Exists.elim h fun q_T h => Exists.elim h fun q_C h => Exists.elim h fun h_LB h => Exists.elim h fun h_LN h => Exists.elim h fun q_LB h => Exists.elim h fun q_LN h => Exists.elim h fun q_P h => Exists.elim h fun q_K h => Exists.elim h fun q_X h => Exists.elim h fun q_H h => Exists.elim h fun h_S0 h => Exists.elim h fun h_S1 h => Exists.elim h fun h_S2 h => Exists.elim h fun h_S3 h => Exists.elim h fun q_S0 h => Exists.elim h fun q_S1 h => Exists.elim h fun q_S2 h => Exists.elim h fun q_S3 h => Exists.elim h fun q_N h => Exists.elim h fun c_hasSnapshot h => Exists.elim h fun T h => Exists.elim h fun c_kept h => Exists.elim h fun c_keptCount h => Exists.elim h fun c_pool h => Exists.elim h fun c_left h => Exists.elim h fun c_treated h => Exists.elim h fun LB h => Exists.elim h fun LN h => Exists.elim h fun c_row h => Exists.elim h fun K h => Exists.elim h fun c_characters h => Exists.elim h fun c_length h => Exists.elim h fun c_parts h => Exists.elim h fun c_rectangles h => Exists.elim h fun c_part h => Exists.elim h fun c_digits h => Exists.elim h fun c_value h => Exists.elim h fun c_count h => Exists.elim h fun S0 h => Exists.elim h fun S1 h => Exists.elim h fun S2 h => Exists.elim h fun S3 h => Exists.elim h fun N h => Exists.elim h fun bx h => k h_T h_C h_P h_K h_X h_H h_N q_T q_C h_LB h_LN q_LB q_LN q_P q_K q_X q_H h_S0 h_S1 h_S2 h_S3 q_S0 q_S1 q_S2 q_S3 q_N c_hasSnapshot T c_kept c_keptCount c_pool c_left c_treated LB LN c_row K c_characters c_length c_parts c_rectangles c_part c_digits c_value c_count S0 S1 S2 S3 N bx h.1 h.2.1 h.2.2.1 h.2.2.2
