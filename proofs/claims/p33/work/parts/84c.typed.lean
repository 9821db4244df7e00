/-! the law's text: what it types, and how the class reads it -/
def dgs (v : Int) : List Int := if v < 10 then [48 + v] else [48 + v / 10, 48 + v % 10]
def Tt (ch : Nat → Int) (L : List Int) : Prop := (∀ (i : Nat) (c : Int), L[i]? = some c → ch i = c) ∧ ∀ c ∈ L, 32 ≤ c ∧ c ≤ 126
theorem Tt.nil {ch : Nat → Int} : Tt ch [] := ⟨fun i c h => by simp at h, fun c h => by cases h⟩
theorem Tt.snoc {ch : Nat → Int} {L : List Int} {c : Int} (h : Tt ch L) (hc : 32 ≤ c ∧ c ≤ 126) : Tt (up ch L.length c) (L ++ [c]) := by
  refine ⟨fun i z hz => ?_, fun z hz => ?_⟩
  · by_cases hi : i < L.length
    · rw [List.getElem?_append_left hi] at hz
      rw [up_o (by omega)]
      exact h.1 i z hz
    · rw [List.getElem?_append_right (by omega)] at hz
      have h1 := (List.getElem?_eq_some_iff.mp hz).1
      rw [List.length_singleton] at h1
      have h2 : i = L.length := by omega
      subst h2
      rw [Nat.sub_self] at hz
      rw [up_s]
      exact Option.some.inj hz
  · rcases List.mem_append.mp hz with q | q
    · exact h.2 z q
    · rw [List.mem_singleton.mp q]
      exact hc
theorem app_sp {ch : Nat → Int} {L : List Int} {c : Int} (hl : L.length < 80) (hc : 32 ≤ c ∧ c ≤ 126) : f_Rt_append ch (L.length : Int) c = some (((L ++ [c]).length : Int), up ch L.length c, ((L ++ [c]).length : Int)) := by
  have hlen : (L.length : Int) + 1 = ((L ++ [c]).length : Int) := by rw [List.length_append, List.length_singleton]; omega
  have hfull : f_Tx_isFull (L.length : Int) = some 0 := by
    unfold f_Tx_isFull
    rw [gd_p ⟨by omega, by omega⟩, if_pos (by omega)]
  have hadd : f_Tx_addLast ch (L.length : Int) c = some ((L.length : Int) + 1, up ch L.length c, (L.length : Int) + 1) := by
    unfold f_Tx_addLast
    rw [bd1_p (put_sp (by omega) hl)]
  unfold f_Rt_append
  rw [gd_p ⟨by omega, by omega⟩, if_neg (by omega), if_neg (by omega), bd1_p hfull, gd_p ck_0, if_pos rfl, bd3_p hadd, hlen]
theorem dgs_len {v : Int} : 1 ≤ (dgs v).length ∧ (dgs v).length ≤ 2 := by
  unfold dgs
  split <;> simp
theorem typed_sp {ch : Nat → Int} {L : List Int} {v : Int} (h : Tt ch L) (hv : 0 ≤ v ∧ v ≤ 99) (hl : L.length ≤ 70) : ∃ ch', f_Lw_isTyped ch (L.length : Int) v = some (1, ch', ((L ++ dgs v).length : Int)) ∧ Tt ch' (L ++ dgs v) := by
  have kv : ck v := ⟨by omega, by omega⟩
  have d1 := td_nn (x := v) (n := 10) hv.1
  unfold f_Lw_isTyped dgs
  by_cases h10 : v < 10
  · have hm : v % 10 = v := by omega
    have hc : 32 ≤ 48 + v ∧ 48 + v ≤ 126 := by omega
    refine ⟨up ch L.length (48 + v), ?_, ?_⟩
    · rw [gd_p kv, if_pos h10, gd_p ⟨kv, by omega, by omega⟩, d1.2, hm, bd3_p (app_sp (by omega) hc), gd_p ⟨by rw [List.length_append]; omega, by rw [List.length_append, List.length_singleton]; omega⟩, if_pos (by rw [List.length_append, List.length_singleton]; omega), if_pos h10]
    · rw [if_pos h10]
      exact h.snoc hc
  · have hc1 : 32 ≤ 48 + v / 10 ∧ 48 + v / 10 ≤ 126 := by omega
    have hc2 : 32 ≤ 48 + v % 10 ∧ 48 + v % 10 ≤ 126 := by omega
    have hL1 : (L ++ [48 + v / 10]).length = L.length + 1 := by rw [List.length_append, List.length_singleton]
    have hL2 : L ++ [48 + v / 10, 48 + v % 10] = (L ++ [48 + v / 10]) ++ [48 + v % 10] := by simp
    have hL3 : ((L ++ [48 + v / 10]) ++ [48 + v % 10]).length = L.length + 2 := by rw [List.length_append, List.length_singleton, hL1]
    refine ⟨up (up ch L.length (48 + v / 10)) (L ++ [48 + v / 10]).length (48 + v % 10), ?_, ?_⟩
    · rw [gd_p kv, if_neg h10, gd_p ⟨kv, by omega, by omega⟩, d1.1, bd3_p (app_sp (by omega) hc1), gd_p ⟨by omega, by omega⟩, if_pos (by omega), gd_p ⟨kv, by omega, by omega⟩, d1.2, bd3_p (app_sp (by omega) hc2), gd_p ⟨by omega, by omega⟩, if_pos (by omega), if_neg h10, hL2]
    · rw [if_neg h10, hL2]
      exact (h.snoc hc1).snoc hc2
def sgn (k : Nat) : List Int := if k = 7 then [] else if k = 3 then [59] else [44]
/-- what is typed ahead of the number k -/
def tl (C : Nat → Int) : Nat → List Int
  | 0 => []
  | k + 1 => tl C k ++ (dgs (C k) ++ sgn k)
theorem sgn_len {k : Nat} : (sgn k).length ≤ 1 := by
  unfold sgn
  split
  · simp
  · split <;> simp
theorem tl_len {C : Nat → Int} : ∀ {k : Nat}, (tl C k).length ≤ 3 * k
  | 0 => Nat.le_refl _
  | k + 1 => by
    have h := tl_len (C := C) (k := k)
    have h1 := dgs_len (v := C k)
    have h2 := sgn_len (k := k)
    show (tl C k ++ (dgs (C k) ++ sgn k)).length ≤ _
    rw [List.length_append, List.length_append]
    omega
abbrev RDT : Type := Int × TV × (Nat → Int) × Int × Int64 × KV × (Nat → Int) × Int × (Nat → Int) × Int × Int × Int × Int × Int × TV × TV × TV × TV × (Nat → Int)
theorem t24 {x2 x3 : Int} {C : Nat → Int} {ch : Nat → Int} {L : List Int} {k n : Nat} (K : Int → (Nat → Int) → Int → Option RDT) (hC : 0 ≤ C k ∧ C k ≤ 99) (h2 : k < 4 → f_Lw_corner x2 (Int.tmod (k : Int) 4) = some (C k)) (h3 : 4 ≤ k → f_Lw_corner x3 (Int.tmod (k : Int) 4) = some (C k)) (hk : k < 8) (hL : L.length ≤ 60) (hT : Tt ch L) : ∃ ch', f_Lw_isRead_L24 x2 x3 (k : Int) K (n + 1) 1 ch (L.length : Int) = K 1 ch' ((L ++ (dgs (C k) ++ sgn k)).length : Int) ∧ Tt ch' (L ++ (dgs (C k) ++ sgn k)) := by
  obtain ⟨ch1, t1, t2⟩ := typed_sp hT hC (by omega)
  have hd := dgs_len (v := C k)
  have hl1 : (L ++ dgs (C k)).length = L.length + (dgs (C k)).length := List.length_append
  have kk : ck (k : Int) := ⟨by omega, by omega⟩
  by_cases h7 : k = 7
  · refine ⟨ch1, ?_, ?_⟩
    · unfold sgn
      rw [f_Lw_isRead_L24, gd_p ck_1, if_neg (by omega), gd_p kk, if_neg (by omega), gd_p ⟨kk, by omega, by omega⟩, bd1_p (h3 (by omega)), bd3_p t1, gd_p ck_1, if_neg (by omega), if_pos (by omega), if_pos h7, List.append_nil]
    · unfold sgn
      rw [if_pos h7, List.append_nil]
      exact t2
  · by_cases h33 : k = 3
    · have hc : 32 ≤ (59 : Int) ∧ (59 : Int) ≤ 126 := by omega
      have hs : L ++ (dgs (C k) ++ sgn k) = (L ++ dgs (C k)) ++ [59] := by
        unfold sgn
        rw [if_neg h7, if_pos h33, List.append_assoc]
      have hl2 : ((L ++ dgs (C k)) ++ [59]).length = (L ++ dgs (C k)).length + 1 := by rw [List.length_append, List.length_singleton]
      refine ⟨up ch1 (L ++ dgs (C k)).length 59, ?_, ?_⟩
      · rw [hs, f_Lw_isRead_L24, gd_p ck_1, if_neg (by omega), gd_p kk, if_pos (by omega), gd_p ⟨kk, by omega, by omega⟩, bd1_p (h2 (by omega)), bd3_p t1, gd_p ck_1, if_neg (by omega), if_neg (by omega), if_pos (by omega), bd3_p (app_sp (by omega) hc), gd_p ⟨by omega, by omega⟩, if_pos (by omega)]
      · rw [hs]
        exact t2.snoc hc
    · have hc : 32 ≤ (44 : Int) ∧ (44 : Int) ≤ 126 := by omega
      have hs : L ++ (dgs (C k) ++ sgn k) = (L ++ dgs (C k)) ++ [44] := by
        unfold sgn
        rw [if_neg h7, if_neg h33, List.append_assoc]
      have hl2 : ((L ++ dgs (C k)) ++ [44]).length = (L ++ dgs (C k)).length + 1 := by rw [List.length_append, List.length_singleton]
      refine ⟨up ch1 (L ++ dgs (C k)).length 44, ?_, ?_⟩
      · by_cases h4 : k < 4
        · rw [hs, f_Lw_isRead_L24, gd_p ck_1, if_neg (by omega), gd_p kk, if_pos (by omega), gd_p ⟨kk, by omega, by omega⟩, bd1_p (h2 h4), bd3_p t1, gd_p ck_1, if_neg (by omega), if_neg (by omega), if_neg (by omega), bd3_p (app_sp (by omega) hc), gd_p ⟨by omega, by omega⟩, if_pos (by omega)]
        · rw [hs, f_Lw_isRead_L24, gd_p ck_1, if_neg (by omega), gd_p kk, if_neg (by omega), gd_p ⟨kk, by omega, by omega⟩, bd1_p (h3 (by omega)), bd3_p t1, gd_p ck_1, if_neg (by omega), if_neg (by omega), if_neg (by omega), bd3_p (app_sp (by omega) hc), gd_p ⟨by omega, by omega⟩, if_pos (by omega)]
      · rw [hs]
        exact t2.snoc hc
theorem type_go {x2 x3 : Int} {C : Nat → Int} (hC : ∀ k : Nat, k < 8 → 0 ≤ C k ∧ C k ≤ 99) (h2 : ∀ k : Nat, k < 4 → f_Lw_corner x2 (Int.tmod (k : Int) 4) = some (C k)) (h3 : ∀ k : Nat, 4 ≤ k → k < 8 → f_Lw_corner x3 (Int.tmod (k : Int) 4) = some (C k)) (K : Int → Int → (Nat → Int) → Int → Option RDT) : ∀ (d k n : Nat) (ch : Nat → Int), k + d = 8 → d < n → Tt ch (tl C k) → ∃ ch', f_Lw_isRead_L17 x2 x3 K n 1 (k : Int) ch ((tl C k).length : Int) = K 1 8 ch' ((tl C 8).length : Int) ∧ Tt ch' (tl C 8)
  | 0, k, n + 1, ch, hk, hn, hT => by
    have hk : k = 8 := by omega
    subst hk
    refine ⟨ch, ?_, hT⟩
    rw [f_Lw_isRead_L17, gd_p ⟨by omega, by omega⟩, if_neg (by omega)]
    rfl
  | d + 1, k, n + 1, ch, hk, hn, hT => by
    have hl := tl_len (C := C) (k := k)
    obtain ⟨ch1, t1, t2⟩ := t24 (n := 4095) (x2 := x2) (x3 := x3) (fun x4_69 c_characters_70 c_length_71 => f_Lw_isRead_L17 x2 x3 K n (x4_69) (((k : Int) + 1)) (c_characters_70) (c_length_71)) (hC k (by omega)) (h2 k) (fun q => h3 k q (by omega)) (by omega) (by omega) hT
    obtain ⟨ch2, u1, u2⟩ := type_go hC h2 h3 K d (k + 1) n ch1 (by omega) (by omega) t2
    refine ⟨ch2, ?_, u2⟩
    rw [f_Lw_isRead_L17, gd_p ⟨by omega, by omega⟩, if_pos (by omega)]
    refine Eq.trans t1 ?_
    rw [show (k : Int) + 1 = ((k + 1 : Nat) : Int) by omega]
    exact u1
/-- the row of the parts behind k numbers -/
def pp (P C : Nat → Int) : Nat → (Nat → Int)
  | 0 => P
  | k + 1 => up (pp P C k) k (C k)
theorem pp_at {P C : Nat → Int} : ∀ {k j : Nat}, j < k → pp P C k j = C j
  | k + 1, j, h => by
    show up (pp P C k) k (C k) j = C j
    by_cases hj : j = k
    · rw [hj]; exact up_s
    · rw [up_o hj]; exact pp_at (by omega)
theorem num_ok {ch : Nat → Int} {L1 L2 : List Int} {v : Int} {P : Nat → Int} {n p m : Nat} (hT : Tt ch (L1 ++ (dgs v ++ L2))) (hl : (L1 ++ (dgs v ++ L2)).length ≤ 80) (hn : n ≤ 12) (hp : p < 4) (hL : 0 ≤ lst P n p ∧ lst P n p ≤ v) (hv : v ≤ 99) (hm : (L1 ++ (dgs v ++ L2)).length - L1.length < m) : ∃ (d : Int) (m' : Nat), C22 ch (L1 ++ (dgs v ++ L2)).length m L1.length P n p 0 0 = C22 ch (L1 ++ (dgs v ++ L2)).length m' (L1 ++ dgs v).length P n p d v ∧ (d = 1 ∨ d = 2) ∧ (L1 ++ (dgs v ++ L2)).length - (L1 ++ dgs v).length < m' := by
  have E : Tx ch ch (L1 ++ (dgs v ++ L2)).length := ⟨hl, fun i hi => ⟨rfl, by
    have h1 := hT.1 i _ (List.getElem?_eq_getElem hi)
    rw [h1]
    exact hT.2 _ (List.getElem_mem hi)⟩⟩
  have hlen : (L1 ++ (dgs v ++ L2)).length = L1.length + (dgs v).length + L2.length := by rw [List.length_append, List.length_append]; omega
  have hlen2 : (L1 ++ dgs v).length = L1.length + (dgs v).length := List.length_append
  obtain ⟨m, rfl⟩ : ∃ z, m = z + 1 := ⟨m - 1, by omega⟩
  have hd := dgs_len (v := v)
  by_cases h10 : v < 10
  · have hdl : (dgs v).length = 1 := by unfold dgs; rw [if_pos h10]; rfl
    have hc : ch L1.length = 48 + v := hT.1 _ _ (by
      rw [List.getElem?_append_right (Nat.le_refl _), Nat.sub_self]
      unfold dgs
      rw [if_pos h10]
      rfl)
    refine ⟨1, m, ?_, Or.inl rfl, by omega⟩
    rw [c_dig E (by omega) hc ⟨by omega, by omega⟩, td0 hn hp ⟨hL.1, by omega⟩ ⟨by omega, by omega⟩, if_neg (by omega), bd3_p rfl, gd_p ck_1, if_neg (by omega), hlen2, hdl]
  · have hdl : (dgs v).length = 2 := by unfold dgs; rw [if_neg h10]; rfl
    have hc : ch L1.length = 48 + v / 10 := hT.1 _ _ (by
      rw [List.getElem?_append_right (Nat.le_refl _), Nat.sub_self]
      unfold dgs
      rw [if_neg h10]
      rfl)
    have hc2 : ch (L1.length + 1) = 48 + v % 10 := hT.1 _ _ (by
      rw [List.getElem?_append_right (by omega), show L1.length + 1 - L1.length = 1 by omega]
      unfold dgs
      rw [if_neg h10]
      rfl)
    obtain ⟨m, rfl⟩ : ∃ z, m = z + 1 := ⟨m - 1, by omega⟩
    refine ⟨2, m, ?_, Or.inr rfl, by omega⟩
    rw [c_dig E (by omega) hc ⟨by omega, by omega⟩, td0 hn hp ⟨hL.1, by omega⟩ ⟨by omega, by omega⟩, if_neg (by omega), bd3_p rfl, gd_p ck_1, if_neg (by omega), c_dig E (by omega) hc2 ⟨by omega, by omega⟩, td1 hn hp ⟨hL.1, by omega⟩ ⟨by omega, by omega⟩ ⟨by omega, by omega⟩, if_neg (by omega), bd3_p rfl, gd_p ⟨by omega, by omega⟩, if_neg (by omega), hlen2, hdl, show 10 * (v / 10) + v % 10 = v by omega]
theorem tl_split {C : Nat → Int} : ∀ {d k : Nat}, k + d = 8 → ∃ L2, tl C 8 = tl C k ++ L2
  | 0, k, h => ⟨[], by rw [show k = 8 by omega, List.append_nil]⟩
  | d + 1, k, h => by
    obtain ⟨L2, e⟩ := tl_split (C := C) (d := d) (k := k + 1) (by omega)
    exact ⟨(dgs (C k) ++ sgn k) ++ L2, by rw [e]; show (tl C k ++ (dgs (C k) ++ sgn k)) ++ L2 = _; rw [List.append_assoc]⟩
theorem parse_go {ch C P : Nat → Int} (hC : ∀ k : Nat, k < 8 → 0 ≤ C k ∧ C k ≤ 99) (hle : ∀ k : Nat, k < 8 → 2 ≤ k % 4 → C (k - 2) ≤ C k) (hT : Tt ch (tl C 8)) : ∀ (d k m : Nat), k + d = 7 → (tl C 8).length - (tl C k).length < m → C22 ch (tl C 8).length m (tl C k).length (pp P C k) (k / 4) (k % 4) 0 0 = some (-5, pp P C 8, 2, 0, 0, 0) := by
  intro d
  induction d with
  | zero =>
    intro k m hk hm
    have hk : k = 7 := by omega
    subst hk
    have h8 := tl_len (C := C) (k := 8)
    have e8 : tl C 8 = tl C 7 ++ (dgs (C 7) ++ []) := rfl
    have hls : lst (pp P C 7) (7 / 4) (7 % 4) = C 5 := pp_at (by omega)
    have hle7 := hle 7 (by omega) (by omega)
    have c5 := hC 5 (by omega)
    have c7 := hC 7 (by omega)
    have hlv : 0 ≤ lst (pp P C 7) (7 / 4) (7 % 4) ∧ lst (pp P C 7) (7 / 4) (7 % 4) ≤ C 7 := by rw [hls]; exact ⟨c5.1, hle7⟩
    rw [e8] at hT hm h8 ⊢
    obtain ⟨dd, m', n1, n2, n3⟩ := num_ok (P := pp P C 7) (n := 7 / 4) (p := 7 % 4) hT (by omega) (by omega) (by omega) hlv c7.2 hm
    obtain ⟨m', rfl⟩ : ∃ z, m' = z + 1 := ⟨m' - 1, by omega⟩
    have hend : (tl C 7 ++ dgs (C 7)).length = (tl C 7 ++ (dgs (C 7) ++ [])).length := by rw [List.append_nil]
    rw [n1, c_end (by omega) hend]
    unfold KE
    have hts := ts_ok (P := pp P C 7) (n := 7 / 4) (p := 7 % 4) (d := dd) (v := C 7) (by omega) (by omega) ⟨hlv.1, by omega⟩ n2 ⟨hlv.2, c7.2⟩
    have hts : f_Tx_takeSign (pp P C 7) ((7 / 4 : Nat) : Int) ((7 % 4 : Nat) : Int) dd (C 7) 59 = some (1, pp P C 8, 2, 0, 0, 0) := hts
    rw [gd_p ⟨by omega, by omega⟩, if_pos (by omega), bd6_p hts, gd_p ck_1, if_neg (by omega)]
  | succ d ih =>
    intro k m hk hm
    have h8 := tl_len (C := C) (k := 8)
    obtain ⟨L2, e2⟩ := tl_split (C := C) (d := 8 - (k + 1)) (k := k + 1) (by omega)
    have e8 : tl C 8 = tl C k ++ (dgs (C k) ++ (sgn k ++ L2)) := by
      rw [e2]
      show (tl C k ++ (dgs (C k) ++ sgn k)) ++ L2 = _
      simp
    have ck9 := hC k (by omega)
    have hls : 0 ≤ lst (pp P C k) (k / 4) (k % 4) ∧ lst (pp P C k) (k / 4) (k % 4) ≤ C k := by
      unfold lst
      by_cases h2 : k % 4 < 2
      · rw [if_pos h2]
        omega
      · rw [if_neg h2, show 4 * (k / 4) + k % 4 - 2 = k - 2 by omega, pp_at (by omega)]
        have := hC (k - 2) (by omega)
        exact ⟨this.1, hle k (by omega) (by omega)⟩
    have hm2 := hm
    have hT2 := hT
    rw [e8] at hT2 hm2
    obtain ⟨dd, m', n1, n2, n3⟩ := num_ok (P := pp P C k) (n := k / 4) (p := k % 4) hT2 (by rw [← e8]; omega) (by omega) (by omega) hls ck9.2 hm2
    rw [← e8] at n1 n3
    have hsd : sgn k = [due (k % 4)] := by
      unfold sgn due
      rw [if_neg (by omega)]
      by_cases h3 : k = 3
      · rw [if_pos h3, if_pos (by omega)]
      · rw [if_neg h3, if_neg (by omega)]
    have hj : (tl C k ++ dgs (C k)).length < (tl C 8).length := by
      rw [e8, hsd]
      simp only [List.length_append, List.length_cons]
      omega
    have hch : ch (tl C k ++ dgs (C k)).length = due (k % 4) := hT.1 _ _ (by
      rw [e8, ← List.append_assoc, List.getElem?_append_right (Nat.le_refl _), Nat.sub_self, hsd]
      rfl)
    have E : Tx ch ch (tl C 8).length := ⟨by omega, fun i hi => ⟨rfl, by
      have h1 := hT.1 i _ (List.getElem?_eq_getElem hi)
      rw [h1]
      exact hT.2 _ (List.getElem_mem hi)⟩⟩
    obtain ⟨m', rfl⟩ : ∃ z, m' = z + 1 := ⟨m' - 1, by omega⟩
    have hdg : dg ch (tl C 8).length (tl C k ++ dgs (C k)).length → dd = 2 ∨ (dd = 1 ∧ C k = 0) := fun q => by
      have q2 := q.2
      rw [hch] at q2
      unfold due at q2
      split at q2 <;> omega
    have hs := (sign_sp (m := m') E (show k % 4 < 4 by omega) (show k / 4 ≤ 12 by omega) ⟨hls.1, by omega⟩ n2 ⟨hls.2, ck9.2⟩ hdg hj).1 hch
    rw [n1, hs]
    have hlen : (tl C (k + 1)).length = (tl C k ++ dgs (C k)).length + 1 := by
      show (tl C k ++ (dgs (C k) ++ sgn k)).length = _
      rw [hsd]
      simp only [List.length_append, List.length_cons, List.length_nil]
      omega
    have ih2 := ih (k + 1) m' (by omega) (by rw [hlen]; omega)
    have hup : pp P C (k + 1) = up (pp P C k) (4 * (k / 4) + k % 4) (C k) := by rw [show 4 * (k / 4) + k % 4 = k by omega]; rfl
    have hn1 : (if k % 4 = 3 then k / 4 + 1 else k / 4) = (k + 1) / 4 := by split <;> omega
    have hp1 : (if k % 4 = 3 then 0 else k % 4 + 1) = (k + 1) % 4 := by split <;> omega
    rw [hn1, hp1, ← hup, ← hlen]
    exact ih2
theorem fault_ok {ch C P : Nat → Int} (hC : ∀ k : Nat, k < 8 → 0 ≤ C k ∧ C k ≤ 99) (hle : ∀ k : Nat, k < 8 → 2 ≤ k % 4 → C (k - 2) ≤ C k) (hT : Tt ch (tl C 8)) : f_Tx_findFault ch ((tl C 8).length : Int) P = some (-5, pp P C 8, 2, 0, 0, 0) := by
  have h8 := tl_len (C := C) (k := 8)
  have h := parse_go (P := P) hC hle hT 7 0 FU rfl (by unfold FU; omega)
  exact h
