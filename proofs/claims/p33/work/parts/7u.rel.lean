/-! the class beside the reference, all of it -/
def Rel (c_hasSnapshot : Int) (T : TV) (LB LN K : KV) (c_characters : Nat → Int) (c_length c_count : Int) (S0 S1 S2 S3 N : TV) (m_s m_past m_kept : Nat → Int) (m_isKept m_pasts : Int) (m_text : Nat → Int) (m_typed : Int) : Prop :=
  (∃ kl Q r, Nm T K kl Q r m_s) ∧ (KR LB ∧ KR LN) ∧ HR c_count S0 S1 S2 S3 m_past m_pasts ∧ (Wr N ∧ c_hasSnapshot = m_isKept ∧ (m_isKept = 0 ∨ m_isKept = 1) ∧ (m_isKept = 1 → ∃ kl Q r, St N kl Q r m_kept)) ∧ ∃ len : Nat, c_length = (len : Int) ∧ m_typed = (len : Int) ∧ Tx c_characters m_text len
theorem KR.top {K : KV} (h : KR K) : kLen K ≤ 288 := by have q := h; simp only [R3, KR] at q; omega
theorem Wr.top {T : TV} (h : Wr T) : tR T ≤ 288 := by have q := h.1; simp only [R3, KR] at q; omega
theorem rel_num {c_hasSnapshot : Int} {T : TV} {LB LN K : KV} {c_characters : Nat → Int} {c_length c_count : Int} {S0 S1 S2 S3 N : TV} {m_s m_past m_kept : Nat → Int} {m_isKept m_pasts : Int} {m_text : Nat → Int} {m_typed : Int} (hR : Rel c_hasSnapshot T LB LN K c_characters c_length c_count S0 S1 S2 S3 N m_s m_past m_kept m_isKept m_pasts m_text m_typed) : tR T ≤ 288 ∧ tR S0 ≤ 288 ∧ tR S1 ≤ 288 ∧ tR S2 ≤ 288 ∧ tR S3 ≤ 288 ∧ tR N ≤ 288 ∧ kLen LB ≤ 288 ∧ kLen LN ≤ 288 ∧ kLen K ≤ 288 := by
  obtain ⟨⟨kl, Q, r, O⟩, ⟨h1, h2⟩, ⟨⟨w0, w1, w2, w3⟩, -⟩, ⟨w, -⟩, -⟩ := hR
  exact ⟨O.1.wr.top, w0.top, w1.top, w2.top, w3.top, w.top, h1.top, h2.top, O.2.2.2.top⟩
theorem number_sp {T : TV} {K : KV} {kl : Nat → List Nat} {Q : List Nat} {r : Nat} {s : Nat → Int} (O : St T kl Q r s) (hK : KR K) : ∃ K', f_Rt_numberNodes T K = some K' ∧ Nm T K' kl Q r s := by
  have J := O.1.1.1
  obtain ⟨K', e1, e2, e3, e4⟩ := gather_sp (K := K) J.1 (Or.inr rfl) J.2.1.1 O.1.1.2.1 hK
  refine ⟨K', ?_, O, e2, e4, e3⟩
  unfold f_Rt_numberNodes
  rw [J.2.1.2.2.1, bd1_p e1]
theorem St.cap {T : TV} {kl : Nat → List Nat} {Q : List Nat} {r : Nat} {s : Nat → Int} {v : Int} (h : St T kl Q r s) (hv : 3 ≤ v ∧ v ≤ 5) : St (sCap T v) kl Q r (up s 0 v) := by
  obtain ⟨⟨⟨J, hR3, hB, hc, h0, h1, hre⟩, hsz, hbx⟩, hall, hrt, hsp, hrc⟩ := h
  refine ⟨⟨⟨⟨J.1, J.2.1, ⟨?_, J.2.2.1.2.1, fun k x hx => ?_, J.2.2.1.2.2.2⟩, J.2.2.2.1, fun b hb hb24 t ht => ?_, J.2.2.2.2.2⟩, hR3, hB, hv, up_s, ?_, hre⟩, hsz, fun b hb => ⟨(hbx b hb).1.same (fun t ht => up_o (by omega)), ?_⟩⟩, hall, hrt, ?_, ?_⟩
  · rw [up_o (by omega)]; exact J.2.2.1.1
  · rw [up_o (by omega)]; exact J.2.2.1.2.2.1 k x hx
  · show up s 0 v (5 + (4 * b + t)) = _
    rw [up_o (by omega)]; exact J.2.2.2.2.1 b hb hb24 t ht
  · rw [up_o (by omega)]; exact h1
  · rw [up_o (by omega)]; exact (hbx b hb).2
  · rw [up_o (by omega)]; exact hsp
  · rw [up_o (by omega)]; exact hrc
theorem St.rei {T : TV} {kl : Nat → List Nat} {Q : List Nat} {r : Nat} {s : Nat → Int} {v : Int} (h : St T kl Q r s) (hv : v = 0 ∨ v = 1) : St (sRei T v) kl Q r (up s 1 v) := by
  obtain ⟨⟨⟨J, hR3, hB, hc, h0, h1, hre⟩, hsz, hbx⟩, hall, hrt, hsp, hrc⟩ := h
  refine ⟨⟨⟨⟨J.1, J.2.1, ⟨?_, J.2.2.1.2.1, fun k x hx => ?_, J.2.2.1.2.2.2⟩, J.2.2.2.1, fun b hb hb24 t ht => ?_, J.2.2.2.2.2⟩, hR3, hB, hc, ?_, up_s, hv⟩, hsz, fun b hb => ⟨(hbx b hb).1.same (fun t ht => up_o (by omega)), ?_⟩⟩, hall, hrt, ?_, ?_⟩
  · rw [up_o (by omega)]; exact J.2.2.1.1
  · rw [up_o (by omega)]; exact J.2.2.1.2.2.1 k x hx
  · show up s 1 v (5 + (4 * b + t)) = _
    rw [up_o (by omega)]; exact J.2.2.2.2.1 b hb hb24 t ht
  · rw [up_o (by omega)]; exact h0
  · rw [up_o (by omega)]; exact (hbx b hb).2
  · rw [up_o (by omega)]; exact hsp
  · rw [up_o (by omega)]; exact hrc
/-- the rectangles read go into the tree one after another -/
theorem rd_go {P mP : Nat → Int} {N : Nat} (hP : ∀ q, q < 4 * N → P q = mP q) (hok : ∀ q, q < N → okr mP q) (hN : N ≤ 10) (k : Int → TV → (Nat → Int) → Int → Int64 → Option (Int × TV × (Nat → Int) × Int × Int64 × KV × (Nat → Int) × Int × Int × Int × Int × Int × TV × TV × TV × TV)) (k' : Int → (Nat → Int) → (Nat → Int) → (Nat → Int) → Int → Int → (Nat → Int) → (Nat → Int) → (Nat → Int) → (Nat → Int) → (Nat → Int) → (Nat → Int) → Option (Int × (Nat → Int) × (Nat → Int) × Int × (Nat → Int) × (Nat → Int) × Int × Int × (Nat → Int) × (Nat → Int) × (Nat → Int) × (Nat → Int) × (Nat → Int) × (Nat → Int) × Int × Int × (Nat → Int))) : ∀ (d i n m : Nat) (T : TV) (kl : Nat → List Nat) (Q : List Nat) (r : Nat) (s pool w it tr fr gr tu si old : Nat → Int) (left items il : Int) (cc : Int64), i + d = N → d < n → d < m → St T kl Q r s → nbx Q 24 + d ≤ 24 → ∃ (T' : TV) (kl' : Nat → List Nat) (Q' : List Nat) (r' : Nat) (s' pool' w' it' tr' fr' gr' tu' si' old' : Nat → Int) (left' items' il' : Int) (cc' : Int64), f_Rt_read_L57 P (N : Int) k n (i : Int) T pool left cc = k (N : Int) T' pool' left' cc' ∧ f_Mo_read_L38 (N : Int) mP k' m (i : Int) s w it items il tr fr gr tu si old = k' (N : Int) s' w' it' items' il' tr' fr' gr' tu' si' old' ∧ St T' kl' Q' r' s' := by
  intro d
  induction d with
  | zero =>
    intro i n m T kl Q r s pool w it tr fr gr tu si old left items il cc hi hn hm O hb
    obtain ⟨n, rfl⟩ : ∃ z, n = z + 1 := ⟨n - 1, by omega⟩
    obtain ⟨m, rfl⟩ : ∃ z, m = z + 1 := ⟨m - 1, by omega⟩
    have hi : i = N := by omega
    subst hi
    refine ⟨T, kl, Q, r, s, pool, w, it, tr, fr, gr, tu, si, old, left, items, il, cc, ?_, ?_, O⟩
    · rw [f_Rt_read_L57, gd_p ⟨by omega, by omega⟩, gd_p ⟨by omega, by omega⟩, if_neg (by omega)]
    · rw [f_Mo_read_L38, gd_p ⟨by omega, by omega⟩, gd_p ⟨by omega, by omega⟩, if_neg (by omega)]
  | succ d ih =>
    intro i n m T kl Q r s pool w it tr fr gr tu si old left items il cc hi hn hm O hb
    obtain ⟨n, rfl⟩ : ∃ z, n = z + 1 := ⟨n - 1, by omega⟩
    obtain ⟨m, rfl⟩ : ∃ z, m = z + 1 := ⟨m - 1, by omega⟩
    have ho := hok i (by omega)
    unfold okr at ho
    have p0 : f_Tx_partOf P (i : Int) 0 = some (mP (4 * i)) := by
      unfold f_Tx_partOf
      rw [show ((i : Int) * 4 + 0) = ((4 * i : Nat) : Int) by omega, bd1_p (at_sp (by omega) (by omega)), hP _ (by omega)]
    have p1 : f_Tx_partOf P (i : Int) 1 = some (mP (4 * i + 1)) := by
      unfold f_Tx_partOf
      rw [show ((i : Int) * 4 + 1) = ((4 * i + 1 : Nat) : Int) by omega, bd1_p (at_sp (by omega) (by omega)), hP _ (by omega)]
    have p2 : f_Tx_partOf P (i : Int) 2 = some (mP (4 * i + 2)) := by
      unfold f_Tx_partOf
      rw [show ((i : Int) * 4 + 2) = ((4 * i + 2 : Nat) : Int) by omega, bd1_p (at_sp (by omega) (by omega)), hP _ (by omega)]
    have p3 : f_Tx_partOf P (i : Int) 3 = some (mP (4 * i + 3)) := by
      unfold f_Tx_partOf
      rw [show ((i : Int) * 4 + 3) = ((4 * i + 3 : Nat) : Int) by omega, bd1_p (at_sp (by omega) (by omega)), hP _ (by omega)]
    obtain ⟨b, T1, T2, kl2, Q2, r2, left2, items2, il2, cc2, s2, pool2, w2, it2, tr2, fr2, gr2, tu2, si2, old2, a1, a2, a3, a4, a5⟩ := adds_st (pool := pool) (left := left) (w := w) (it := it) (tr := tr) (fr := fr) (gr := gr) (tu := tu) (si := si) (old := old) (x1 := mP (4 * i)) (y1 := mP (4 * i + 1)) (x2 := mP (4 * i + 2)) (y2 := mP (4 * i + 3)) O (by omega) ho.1 ho.2
    obtain ⟨T', kl', Q', r', s', pool', w', it', tr', fr', gr', tu', si', old', left', items', il', cc', c1, c2, c3⟩ := ih (i + 1) n m T2 kl2 Q2 r2 s2 pool2 w2 it2 tr2 fr2 gr2 tu2 si2 old2 left2 items2 il2 cc2 (by omega) (by omega) (by omega) a4 (by omega)
    refine ⟨T', kl', Q', r', s', pool', w', it', tr', fr', gr', tu', si', old', left', items', il', cc', ?_, ?_, c3⟩
    · rw [f_Rt_read_L57, gd_p ⟨by omega, by omega⟩, gd_p ⟨by omega, by omega⟩, if_pos (by omega), bd1_p p0, bd1_p p1, bd1_p p2, bd1_p p3, bd2_p a1, bd4_p a2, show (i : Int) + 1 = ((i + 1 : Nat) : Int) by omega]
      exact c1
    · rw [f_Mo_read_L38, gd_p ⟨by omega, by omega⟩, gd_p ⟨by omega, by omega⟩, if_pos (by omega), gd_p ⟨by omega, by omega⟩, gd_p ⟨by omega, by omega⟩, gd_p ⟨by omega, by omega⟩, gd_p ⟨by omega, by omega⟩, show ((4 : Int) * (i : Int)).toNat = 4 * i by omega, show ((4 : Int) * (i : Int) + 1).toNat = 4 * i + 1 by omega, show ((4 : Int) * (i : Int) + 2).toNat = 4 * i + 2 by omega, show ((4 : Int) * (i : Int) + 3).toNat = 4 * i + 3 by omega, bd12_p a3, show (i : Int) + 1 = ((i + 1 : Nat) : Int) by omega]
      exact c2
