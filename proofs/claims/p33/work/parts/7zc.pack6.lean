/-! packing: slices sorted in both, and the leaves' row in the reference -/
theorem sl_go {T : TV} {s : Nat → Int} {P : Nat → Prop} {w m : Nat} (hR : tR T ≤ 8192) (hR24 : 24 ≤ tR T) (hrg : ∀ z, z < 24 → rg (tCor T) z) (hk : ∀ z, P z → f_Mo_key s (z : Int) ((1 : Nat) : Int) = some (kyT (tCor T) 1 z) ∧ ck (kyT (tCor T) 1 z) ∧ z < 24) (hw : 0 < w ∧ w ≤ 100) (hm : m ≤ 24) (k : Int → (Nat → Int) → Option ((Nat → Int) × TV)) (k' : Int → (Nat → Int) → Option ((Nat → Int) × (Nat → Int))) : ∀ (d : Nat) (R A : List Nat) (x n n' : Nat) (row sr : Nat → Int), R.length ≤ d → d < n → d < n' → A.length + R.length = m → (R ≠ [] → x = A.length) → (R = [] → m ≤ x) → x ≤ 1000 → (∀ z ∈ R, P z) → R.Nodup → Hs row 0 (A ++ R) → Hs sr 0 (A ++ R) → ∃ (L : List Nat) (x1 x2 : Int) (row' sr' : Nat → Int), f_Pk_rebuild_L76 T (m : Int) (w : Int) k n (x : Int) row = k x1 row' ∧ f_Mo_packsLeaves_L15 s (m : Int) (w : Int) k' n' (x : Int) sr = k' x2 sr' ∧ (A ++ R).Perm L ∧ Hs row' 0 L ∧ Hs sr' 0 L := by
  intro d
  induction d with
  | zero =>
    intro R A x n n' row sr hd hn hn' hl hx hx2 hx3 hP hnd h1 h2
    obtain ⟨n, rfl⟩ : ∃ z, n = z + 1 := ⟨n - 1, by omega⟩
    obtain ⟨n', rfl⟩ : ∃ z, n' = z + 1 := ⟨n' - 1, by omega⟩
    have hR0 : R = [] := List.length_eq_zero_iff.mp (by omega)
    have := hx2 hR0
    refine ⟨A ++ R, (x : Int), (x : Int), row, sr, ?_, ?_, List.Perm.refl _, h1, h2⟩
    · rw [f_Pk_rebuild_L76, gd_p ⟨by omega, by omega⟩, gd_p ⟨by omega, by omega⟩, if_neg (by omega)]
    · rw [f_Mo_packsLeaves_L15, gd_p ⟨by omega, by omega⟩, gd_p ⟨by omega, by omega⟩, if_neg (by omega)]
  | succ d ih =>
    intro R A x n n' row sr hd hn hn' hl hx hx2 hx3 hP hnd h1 h2
    obtain ⟨n, rfl⟩ : ∃ z, n = z + 1 := ⟨n - 1, by omega⟩
    obtain ⟨n', rfl⟩ : ∃ z, n' = z + 1 := ⟨n' - 1, by omega⟩
    by_cases hR0 : R = []
    · have := hx2 hR0
      refine ⟨A ++ R, (x : Int), (x : Int), row, sr, ?_, ?_, List.Perm.refl _, h1, h2⟩
      · rw [f_Pk_rebuild_L76, gd_p ⟨by omega, by omega⟩, gd_p ⟨by omega, by omega⟩, if_neg (by omega)]
      · rw [f_Mo_packsLeaves_L15, gd_p ⟨by omega, by omega⟩, gd_p ⟨by omega, by omega⟩, if_neg (by omega)]
    · have hxA := hx hR0
      subst hxA
      have hRp : 0 < R.length := List.length_pos_iff.mpr hR0
      have htl : (R.take w).length = min w R.length := List.length_take
      have hdl : (R.drop w).length = R.length - w := List.length_drop
      have hsp : R.take w ++ R.drop w = R := List.take_append_drop w R
      rw [← hsp] at h1 h2
      have hMP : ∀ z ∈ R.take w, P z := fun z hz => hP z (List.mem_of_mem_take hz)
      have hMn : (R.take w).Nodup := by
        rw [← hsp] at hnd
        exact (List.nodup_append.mp hnd).1
      have hDn : (R.drop w).Nodup := by
        rw [← hsp] at hnd
        exact (List.nodup_append.mp hnd).2.1
      obtain ⟨S, row1, a1, a2, a3⟩ := si_sp (T := T) (ax := 1) (A := A) (M := R.take w) (B := R.drop w) hR hR24 (by omega) hrg (by omega) (fun z hz => (hk z (hMP z hz)).2.2) hMn h1
      obtain ⟨S', sr1, b1, b2, b3⟩ := ex_sp hk (A := A) (M := R.take w) (B := R.drop w) (by omega) hMP hMn h2
      have hSS := a2.uniq b2
      subst hSS
      have hSl := a2.1.length_eq
      obtain ⟨L, x1, x2, row', sr', c1, c2, c3, c4, c5⟩ := ih (R.drop w) (A ++ S) (A.length + w) n n' row1 sr1 (by omega) (by omega) (by omega) (by rw [List.length_append]; omega) (fun q => by
        have h3 : 0 < (R.drop w).length := List.length_pos_iff.mpr q
        rw [List.length_append]
        omega) (fun q => by
        have h3 : (R.drop w).length = 0 := by rw [q]; rfl
        omega) (by omega) (fun z hz => hP z (List.mem_of_mem_drop hz)) hDn (by rw [List.append_assoc]; exact a3) (by rw [List.append_assoc]; exact b3)
      refine ⟨L, x1, x2, row', sr', ?_, ?_, ?_, c4, c5⟩
      · have hmin : min ((A.length : Int) + (w : Int)) (m : Int) = ((A.length + (R.take w).length : Nat) : Int) := by omega
        have a1 : f_Pk_sortPart row T (A.length : Int) ((A.length + (R.take w).length : Nat) : Int) 1 = some row1 := a1
        rw [f_Pk_rebuild_L76, gd_p ⟨by omega, by omega⟩, gd_p ⟨by omega, by omega⟩, if_pos (by omega), gd_p ⟨by omega, by omega⟩, if_pos (by omega), gd_p ⟨by omega, by omega⟩, hmin, bd1_p a1, show (A.length : Int) + (w : Int) = ((A.length + w : Nat) : Int) by omega]
        exact c1
      · have hmin : min ((A.length : Int) + (w : Int)) (m : Int) = ((A.length + (R.take w).length : Nat) : Int) := by omega
        have b1 : f_Mo_sorts s sr (A.length : Int) ((A.length + (R.take w).length : Nat) : Int) 1 = some sr1 := b1
        rw [f_Mo_packsLeaves_L15, gd_p ⟨by omega, by omega⟩, gd_p ⟨by omega, by omega⟩, if_pos (by omega), bd1_p (m_less ⟨by omega, by omega⟩ ⟨by omega, by omega⟩), hmin, bd1_p b1, show (A.length : Int) + (w : Int) = ((A.length + w : Nat) : Int) by omega]
        exact c2
      · refine List.Perm.trans ?_ c3
        have h3 : (A ++ R).Perm (A ++ (S ++ R.drop w)) := by
          have h4 := (a2.1.append_right (R.drop w)).append_left A
          rw [hsp] at h4
          exact h4
        rw [List.append_assoc]
        exact h3
theorem apd_sp {s : Nat → Int} {W : List Int} {v : Int} (h : Rw s W) (hl : W.length < 360) : ∃ s', f_Mo_appends s v = some s' ∧ Rw s' (W ++ [v]) ∧ Fr s s' := by
  have h4 := h.1
  refine ⟨up (up s (101 + W.length) v) 4 (s 4 + 1), ?_, ⟨?_, ?_, fun k x hx => ?_⟩, fun j hj hj4 => ?_⟩
  · unfold f_Mo_appends
    rw [gd_p ⟨by omega, by omega⟩, h4, show ((101 : Int) + (W.length : Int)).toNat = 101 + W.length by omega, up_o (by omega), h4]
  · rw [up_s, List.length_append, h4]
    rfl
  · rw [List.length_append]
    exact hl
  · rw [up_o (by omega)]
    by_cases hk : k < W.length
    · rw [List.getElem?_append_left hk] at hx
      rw [up_o (by omega)]
      exact h.2.2 k x hx
    · rw [List.getElem?_append_right (by omega)] at hx
      have h1 := (List.getElem?_eq_some_iff.mp hx).1
      rw [List.length_singleton] at h1
      have h2 : k = W.length := by omega
      subst h2
      rw [Nat.sub_self] at hx
      rw [up_s]
      exact Option.some.inj hx
  · rw [up_o hj4, up_o (by omega)]
theorem flt_len {cap : Nat} {nc : Int} {cd : Nat → List Int} (hcd : ∀ y, (cd y).length = 1) : ∀ {L : List Nat} {i : Nat}, (flt cap nc cd i L).length ≤ 2 * L.length
  | [], i => Nat.zero_le _
  | y :: L, i => by
    have ih := flt_len (cap := cap) (nc := nc) hcd (L := L) (i := i + 1)
    have h1 := hcd y
    show ((if i % cap = 0 then [nc] else []) ++ (cd y ++ flt cap nc cd (i + 1) L)).length ≤ 2 * (L.length + 1)
    rw [List.length_append, List.length_append]
    split
    · rw [List.length_singleton]
      omega
    · rw [List.length_nil]
      omega
theorem lf_go {sr : Nat → Int} {L : List Nat} {cap r : Nat} (hc : 3 ≤ cap ∧ cap ≤ 5) (hr : 1 ≤ r ∧ r ≤ 3) (hL : Hs sr 0 L) (hl : L.length ≤ 24) (k : Int → (Nat → Int) → Option ((Nat → Int) × (Nat → Int))) : ∀ (d i n : Nat) (s : Nat → Int), i + d = L.length → d < n → s 0 = (cap : Int) → Rw s (flt cap (-1) (fun y => [(y : Int)]) 0 (L.take i)) → ∃ s', f_Mo_packsLeaves_L49 sr (L.length : Int) ((r * cap : Nat) : Int) k n (i : Int) s = k (L.length : Int) s' ∧ Rw s' (flt cap (-1) (fun y => [(y : Int)]) 0 L) ∧ Fr s s' := by
  intro d
  induction d with
  | zero =>
    intro i n s hi hn h0 h
    obtain ⟨n, rfl⟩ : ∃ z, n = z + 1 := ⟨n - 1, by omega⟩
    have hi : i = L.length := by omega
    subst hi
    rw [List.take_length] at h
    refine ⟨s, ?_, h, Fr.rf⟩
    rw [f_Mo_packsLeaves_L49, gd_p ⟨by omega, by omega⟩, gd_p ⟨by omega, by omega⟩, if_neg (by omega)]
  | succ d ih =>
    intro i n s hi hn h0 h
    obtain ⟨n, rfl⟩ : ∃ z, n = z + 1 := ⟨n - 1, by omega⟩
    obtain ⟨y, hy⟩ : ∃ y, L[i]? = some y := ⟨L[i], List.getElem?_eq_getElem (by omega)⟩
    have hsy : sr i = (y : Int) := by
      have := hL i y hy
      rw [Nat.zero_add] at this
      exact this
    have hlt : (L.take i).length = i := by rw [List.length_take]; omega
    have hlen := flt_len (cap := cap) (nc := -1) (cd := fun y => [(y : Int)]) (fun _ => rfl) (L := L.take i) (i := 0)
    rw [hlt] at hlen
    have hsn := flt_snoc (cap := cap) (nc := -1) (cd := fun y => [(y : Int)]) (y := y) (L := L.take i) (i := 0)
    rw [hlt, Nat.zero_add, ← take_succ2 hy] at hsn
    have hmm : ((i : Int) % ((r * cap : Nat) : Int)) % (cap : Int) = ((i % cap : Nat) : Int) ∧ (0 ≤ (i : Int) % ((r * cap : Nat) : Int) ∧ (i : Int) % ((r * cap : Nat) : Int) ≤ 100) ∧ (0 : Int) < ((r * cap : Nat) : Int) ∧ ((r * cap : Nat) : Int) ≤ 100 ∧ i % cap ≤ 5 := by
      rcases (show cap = 3 ∨ cap = 4 ∨ cap = 5 by omega) with q | q | q <;> rcases (show r = 1 ∨ r = 2 ∨ r = 3 by omega) with q2 | q2 | q2 <;> subst q <;> subst q2 <;> omega
    obtain ⟨m1, m2, m3, m4, m5⟩ := hmm
    rw [f_Mo_packsLeaves_L49, gd_p ⟨by omega, by omega⟩, gd_p ⟨by omega, by omega⟩, if_pos (by omega), gd_p ⟨⟨by omega, by omega⟩, by omega, by omega⟩, h0, gd_p ⟨⟨by omega, by omega⟩, by omega, by omega⟩, m1, gd_p ⟨by omega, by omega⟩, show (i : Int) + 1 = ((i + 1 : Nat) : Int) by omega, show ((i : Int)).toNat = i by omega, hsy]
    by_cases hic : i % cap = 0
    · rw [if_pos hic] at hsn
      obtain ⟨s1, a1, a2, a3⟩ := apd_sp (v := -1) h (by omega)
      obtain ⟨s2, b1, b2, b3⟩ := apd_sp (v := (y : Int)) a2 (by rw [List.length_append, List.length_singleton]; omega)
      rw [List.append_assoc] at b2
      have b2 : Rw s2 (flt cap (-1) (fun y => [(y : Int)]) 0 (L.take (i + 1))) := by rw [hsn]; exact b2
      obtain ⟨s', c1, c2, c3⟩ := ih (i + 1) n s2 (by omega) (by omega) ((b3 0 (by omega) (by omega)).trans ((a3 0 (by omega) (by omega)).trans h0)) b2
      refine ⟨s', ?_, c2, (a3.tr b3).tr c3⟩
      rw [if_pos (by omega), bd1_p a1, gd_p ⟨by omega, by omega⟩, bd1_p b1]
      exact c1
    · rw [if_neg hic, List.nil_append] at hsn
      obtain ⟨s2, b1, b2, b3⟩ := apd_sp (v := (y : Int)) h (by omega)
      have b2 : Rw s2 (flt cap (-1) (fun y => [(y : Int)]) 0 (L.take (i + 1))) := by rw [hsn]; exact b2
      obtain ⟨s', c1, c2, c3⟩ := ih (i + 1) n s2 (by omega) (by omega) ((b3 0 (by omega) (by omega)).trans h0) b2
      refine ⟨s', ?_, c2, b3.tr c3⟩
      rw [if_neg (by omega), gd_p ⟨by omega, by omega⟩, bd1_p b1]
      exact c1
