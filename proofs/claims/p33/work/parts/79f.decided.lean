/-! the entry that is most decided: the class's mostDecided beside the reference's nextEntry -/
/-- the entry at a place of a list -/
def nth (L : List Nat) (e : Nat) : Nat := L.getD e 0
theorem nth_get {L : List Nat} {e : Nat} (h : e < L.length) : L[e]? = some (nth L e) := by
  unfold nth
  rw [List.getD_eq_getElem?_getD, List.getElem?_eq_getElem h]
  rfl
theorem nth_mem {L : List Nat} {e : Nat} (h : e < L.length) : nth L e ∈ L := List.mem_of_getElem? (nth_get h)
theorem nth_inj {L : List Nat} (hL : L.Nodup) {e f : Nat} (he : e < L.length) (hf : f < L.length) (h : nth L e = nth L f) : e = f := by
  have h1 := nth_get he
  have h2 := nth_get hf
  rw [h] at h1
  exact (List.getElem?_inj he hL).mp (h1.trans h2.symm)
theorem split_at {α : Type} : ∀ {R : List α} {i : Nat} {e : α}, R[i]? = some e → ∃ D E, R = D ++ e :: E ∧ D.length = i
  | [], i, e, h => by simp at h
  | a :: R, 0, e, h => ⟨[], R, by simp at h; simp [h], rfl⟩
  | a :: R, i + 1, e, h => by
    rw [List.getElem?_cons_succ] at h
    obtain ⟨D, E, h1, h2⟩ := split_at h
    exact ⟨a :: D, E, by rw [h1]; rfl, by simp [h2]⟩
/-- the pool, from a place on, names the entries that are left -/
def PlR (pool : Nat → Int) (L R : List Nat) : Prop := ∀ i e, R[i]? = some e → e < L.length ∧ pool i = (nth L e : Int)
def MR (R : List Nat) (b cb : Int) : Prop := (b = -1 ∧ cb = -5) ∨ ∃ i e : Nat, R[i]? = some e ∧ b = (i : Int) ∧ cb = (e : Int)
def Lok (T : TV) (L : List Nat) : Prop := L.length ≤ 6 ∧ ∀ y ∈ L, y < tR T ∧ rg (tCor T) y
theorem mid_get {α : Type} {D E : List α} {e : α} : (D ++ e :: E)[D.length]? = some e := by
  rw [List.getElem?_append_right (Nat.le_refl _), Nat.sub_self]
  rfl
theorem md_go {T : TV} {pool group : Nat → Int} {L R : List Nat} {x z : Nat} (hR : tR T ≤ 8192) (hL : Lok T L) (hp : PlR pool L R) (hx : x < tR T) (hz : z < tR T) (rx : rg (tCor T) x) (rz : rg (tCor T) z) (hR6 : R.length ≤ 6) (hgk : ∀ e, e < L.length → ck (group e)) (kC : Int → Int → Int → Option Int) (kR : Int → Int → Int → (Nat → Int) → Option (Int × (Nat → Int))) : ∀ (d e n m : Nat) (D E : List Nat) (b cb g : Int) (w : Nat → Int), e + d = L.length → R = D ++ E → (∀ q ∈ E, e ≤ q) → E.Pairwise (· < ·) → (∀ q, e ≤ q → q < L.length → (group q < 0 ↔ q ∈ E)) → E.length < n → d < m → MR R b cb → (b = -1 → g = 0) → ck g → Sl T w L → eqb w 8 (tCor T) x → eqb w 9 (tCor T) z → ∃ b' cb' g' w', f_Ch_mostDecided_L8 pool (R.length : Int) T (x : Int) (z : Int) kC n b g (D.length : Int) = kC b' g' (R.length : Int) ∧ f_Mo_nextEntry_L8 group (L.length : Int) kR m cb g (e : Int) w = kR cb' g' (L.length : Int) w' ∧ MR R b' cb' ∧ (b' = -1 → b = -1 ∧ E = []) ∧ oth 11 w w'
  | 0, e, n + 1, m + 1, D, E, b, cb, g, w, he, hRe, hE, hs, hgr, hn, hm, hMR, hg0, hg, hw, h8, h9 => by
    have hE0 : E = [] := by
      cases E with
      | nil => rfl
      | cons a E =>
        have h1 := hE a List.mem_cons_self
        have h2 := (hp D.length a (by rw [hRe]; exact mid_get)).1
        omega
    subst hE0
    rw [List.append_nil] at hRe
    have h6 := hL.1
    refine ⟨b, cb, g, w, ?_, ?_, hMR, fun q => ⟨q, rfl⟩, oth.rf⟩
    · rw [f_Ch_mostDecided_L8, ← hRe, gd_p ⟨by omega, by omega⟩, gd_p ⟨by omega, by omega⟩, if_neg (by omega)]
    · rw [f_Mo_nextEntry_L8, gd_p ⟨by omega, by omega⟩, gd_p ⟨by omega, by omega⟩, if_neg (by omega), show (e : Int) = (L.length : Int) by omega]
  | d + 1, e, n, m + 1, D, E, b, cb, g, w, he, hRe, hE, hs, hgr, hn, hm, hMR, hg0, hg, hw, h8, h9 => by
    have h6 := hL.1
    have hel : e < L.length := by omega
    by_cases hm1 : e ∈ E
    · cases E with
      | nil => cases hm1
      | cons a E =>
        have hps := List.pairwise_cons.mp hs
        have hae : a = e := by
          rcases List.mem_cons.mp hm1 with q | q
          · exact q.symm
          · have h1 := hps.1 e q
            have h2 := hE a List.mem_cons_self
            omega
        subst hae
        cases n with
        | zero => simp at hn
        | succ n =>
        simp only [List.length_cons] at hn
        have hlen := congrArg List.length hRe
        rw [List.length_append, List.length_cons] at hlen
        have hpp := hp D.length a (by rw [hRe]; exact mid_get)
        have hy := hL.2 (nth L a) (nth_mem hel)
        have p1 : f_Rt_at 6 pool (D.length : Int) = some ((nth L a : Nat) : Int) := by rw [at_sp (by omega) (by omega), hpp.2]
        have hwe := hw a _ (nth_get hel)
        obtain ⟨w1, e1, e2⟩ := m_enl (c := w) (a := 8) (b := a) (by omega) (by omega) (rg_eqb h8 rx) (rg_eqb hwe hy.2)
        have h9' : eqb w1 9 (tCor T) z := fun t ht => by rw [e2.eq (by omega) ht]; exact h9 t ht
        have hwe' : eqb w1 a (tCor T) (nth L a) := fun t ht => by rw [e2.eq (by omega) ht]; exact hwe t ht
        obtain ⟨w2, f1, f2⟩ := m_enl (c := w1) (a := 9) (b := a) (by omega) (by omega) (rg_eqb h9' rz) (rg_eqb hwe' hy.2)
        have e1 : f_Mo_enlargement w 8 (a : Int) = some (ua (tCor T) x (tCor T) (nth L a) - ar (tCor T) x, w1) := by
          rw [← ua_eqb h8 hwe, ← ar_eqb h8]
          exact e1
        have f1 : f_Mo_enlargement w1 9 (a : Int) = some (ua (tCor T) z (tCor T) (nth L a) - ar (tCor T) z, w2) := by
          rw [← ua_eqb h9' hwe', ← ar_eqb h9']
          exact f1
        have c1 := t_enl hR hx hy.1 rx hy.2
        have c2 := t_enl hR hz hy.1 rz hy.2
        have u1 := ua_rg rx hy.2
        have u2 := ua_rg rz hy.2
        have a1 := ar_rg rx
        have a2 := ar_rg rz
        have ho := e2.tr f2
        have hw2 := hw.oth ho (by omega)
        have h82 : eqb w2 8 (tCor T) x := fun t ht => by rw [ho.eq (by omega) ht]; exact h8 t ht
        have h92 : eqb w2 9 (tCor T) z := fun t ht => by rw [ho.eq (by omega) ht]; exact h9 t ht
        generalize hG : ua (tCor T) x (tCor T) (nth L a) - ar (tCor T) x - (ua (tCor T) z (tCor T) (nth L a) - ar (tCor T) z) = G
        have cG : ck G := ⟨by omega, by omega⟩
        have hab : (G < 0 → ab G = -G) ∧ (¬ G < 0 → ab G = G) ∧ 0 ≤ ab G := by
          unfold ab
          split <;> refine ⟨fun _ => by omega, fun _ => by omega, by omega⟩
        have cab : ck (ab G) := by
          by_cases q : G < 0
          · rw [hab.1 q]; exact ⟨by omega, by omega⟩
          · rw [hab.2.1 q]; exact cG
        have hbk : ck b ∧ ck cb ∧ (cb < 0 ↔ b = -1) := by
          rcases hMR with ⟨q1, q2⟩ | ⟨i0, e0, q0, q1, q2⟩
          · rw [q1, q2]; exact ⟨⟨by omega, by omega⟩, ⟨by omega, by omega⟩, by omega⟩
          · have := (hp i0 e0 q0).1
            have := (List.getElem?_eq_some_iff.mp q0).1
            rw [q1, q2]; exact ⟨⟨by omega, by omega⟩, ⟨by omega, by omega⟩, by omega⟩
        have hgn : group a < 0 := (hgr a (Nat.le_refl _) hel).mpr List.mem_cons_self
        have it := fun (b2 cb2 g2 : Int) (q1 : MR R b2 cb2) (q2 : b2 = -1 → g2 = 0) (q3 : ck g2) => md_go hR hL hp hx hz rx rz hR6 hgk kC kR d (a + 1) n m (D ++ [a]) E b2 cb2 g2 w2 (by omega) (by rw [hRe]; simp) (fun q hq => hps.1 q hq) hps.2 (fun q q1 q2 => by
          rw [hgr q (by omega) q2, List.mem_cons]
          constructor
          · rintro (r | r)
            · omega
            · exact r
          · exact Or.inr) (by omega) (by omega) q1 q2 q3 hw2 h82 h92
        rw [List.length_append, show ((D.length + [a].length : Nat) : Int) = (D.length : Int) + 1 by simp] at it
        have hC : f_Ch_mostDecided_L8 pool (R.length : Int) T (x : Int) (z : Int) kC (n + 1) b g (D.length : Int) = if b = -1 ∨ g < ab G then f_Ch_mostDecided_L8 pool (R.length : Int) T (x : Int) (z : Int) kC n (D.length : Int) (ab G) ((D.length : Int) + 1) else f_Ch_mostDecided_L8 pool (R.length : Int) T (x : Int) (z : Int) kC n b g ((D.length : Int) + 1) := by
          rw [f_Ch_mostDecided_L8, gd_p ⟨by omega, by omega⟩, gd_p ⟨by omega, by omega⟩, if_pos (by omega), bd1_p p1, bd1_p c1, bd1_p c2, hG, gd_p cG, gd_p hbk.1]
          by_cases c0 : b = -1
          · rw [if_pos c0, if_pos (Or.inl c0)]
          · rw [if_neg c0, gd_p cab, gd_p hg]
            by_cases c1 : g < ab G
            · rw [if_pos c1, if_pos (Or.inr c1)]
            · rw [if_neg c1, if_neg (fun q => q.elim c0 c1)]
        have hM : f_Mo_nextEntry_L8 group (L.length : Int) kR (m + 1) cb g (a : Int) w = if b = -1 ∨ g < ab G then f_Mo_nextEntry_L8 group (L.length : Int) kR m (a : Int) (ab G) ((a + 1 : Nat) : Int) w2 else f_Mo_nextEntry_L8 group (L.length : Int) kR m cb g ((a + 1 : Nat) : Int) w2 := by
          rw [f_Mo_nextEntry_L8, gd_p ⟨by omega, by omega⟩, gd_p ⟨by omega, by omega⟩, if_pos (by omega), gd_p ⟨by omega, by omega⟩, show ((a : Int)).toNat = a by omega, gd_p (hgk a hel), if_pos hgn, bd2_p e1, bd2_p f1, hG, gd_p cG, show (a : Int) + 1 = ((a + 1 : Nat) : Int) by omega]
          by_cases cn : G < 0
          · rw [if_pos cn, gd_p hbk.2.1]
            have hh := hab.1 cn
            rw [← hh]
            by_cases c0 : b = -1
            · have hg1 := hg0 c0
              rw [if_pos (hbk.2.2.mpr c0), if_pos (Or.inl c0), gd_p cab, gd_p hg]
              by_cases c1 : g < ab G
              · rw [if_pos c1]
              · rw [if_neg c1, show g = ab G by omega]
            · rw [if_neg (fun q => c0 (hbk.2.2.mp q)), gd_p cab, gd_p hg]
              by_cases c1 : g < ab G
              · rw [if_pos c1, if_pos c1, if_pos (Or.inr c1)]
              · rw [if_neg c1, if_neg c1, if_neg (fun q => q.elim c0 c1)]
          · rw [if_neg cn, gd_p hbk.2.1]
            have hh := hab.2.1 cn
            by_cases c0 : b = -1
            · have hg1 := hg0 c0
              rw [if_pos (hbk.2.2.mpr c0), if_pos (Or.inl c0), gd_p hg, hh]
              by_cases c1 : g < G
              · rw [if_pos c1]
              · rw [if_neg c1, show g = G by omega]
            · rw [if_neg (fun q => c0 (hbk.2.2.mp q)), gd_p hg, hh]
              by_cases c1 : g < G
              · rw [if_pos c1, if_pos c1, if_pos (Or.inr c1)]
              · rw [if_neg c1, if_neg c1, if_neg (fun q => q.elim c0 c1)]
        by_cases q : b = -1 ∨ g < ab G
        · obtain ⟨b', cb', g', w', t1, t2, t3, t4, t5⟩ := it (D.length : Int) (a : Int) (ab G) (Or.inr ⟨D.length, a, by rw [hRe]; exact mid_get, rfl, rfl⟩) (fun q2 => absurd q2 (by omega)) cab
          exact ⟨b', cb', g', w', by rw [hC, if_pos q]; exact t1, by rw [hM, if_pos q]; exact t2, t3, fun q2 => absurd (t4 q2).1 (by omega), ho.tr t5⟩
        · obtain ⟨b', cb', g', w', t1, t2, t3, t4, t5⟩ := it b cb g hMR hg0 hg
          exact ⟨b', cb', g', w', by rw [hC, if_neg q]; exact t1, by rw [hM, if_neg q]; exact t2, t3, fun q2 => absurd (Or.inl (t4 q2).1) q, ho.tr t5⟩
    · have hgn : ¬ group e < 0 := fun q => hm1 ((hgr e (Nat.le_refl _) hel).mp q)
      obtain ⟨b', cb', g', w', t1, t2, t3, t4, t5⟩ := md_go hR hL hp hx hz rx rz hR6 hgk kC kR d (e + 1) n m D E b cb g w (by omega) hRe (fun q hq => by
        have h1 := hE q hq
        have h2 : q ≠ e := fun r => hm1 (r ▸ hq)
        omega) hs (fun q q1 q2 => hgr q (by omega) q2) hn (by omega) hMR hg0 hg hw h8 h9
      refine ⟨b', cb', g', w', t1, ?_, t3, t4, t5⟩
      rw [f_Mo_nextEntry_L8, gd_p ⟨by omega, by omega⟩, gd_p ⟨by omega, by omega⟩, if_pos (by omega), gd_p ⟨by omega, by omega⟩, show ((e : Int)).toNat = e by omega, gd_p (hgk e hel), if_neg hgn, show (e : Int) + 1 = ((e + 1 : Nat) : Int) by omega]
      exact t2
/-- both find the same entry -/
theorem md_sp {T : TV} {pool group w : Nat → Int} {L R : List Nat} {x z : Nat} (hR : tR T ≤ 8192) (hL : Lok T L) (hp : PlR pool L R) (hx : x < tR T) (hz : z < tR T) (rx : rg (tCor T) x) (rz : rg (tCor T) z) (hR6 : R.length ≤ 6) (hgk : ∀ e, e < L.length → ck (group e)) (hs : R.Pairwise (· < ·)) (hgr : ∀ q, q < L.length → (group q < 0 ↔ q ∈ R)) (hne : R ≠ []) (hw : Sl T w L) (h8 : eqb w 8 (tCor T) x) (h9 : eqb w 9 (tCor T) z) : ∃ (i e : Nat) (w' : Nat → Int), f_Ch_mostDecided pool (R.length : Int) T (x : Int) (z : Int) = some (i : Int) ∧ f_Mo_nextEntry w group (L.length : Int) = some ((e : Int), w') ∧ R[i]? = some e ∧ oth 11 w w' := by
  have h6 := hL.1
  obtain ⟨b', cb', g', w', t1, t2, t3, t4, t5⟩ := md_go hR hL hp hx hz rx rz hR6 hgk (fun x3_19 x4_20 x5_21 => some (x3_19)) (fun x2_35 x3_36 x4_37 c_rect_38 => some (x2_35, c_rect_38)) L.length 0 FU FU [] R (-1) (-5) 0 w (by omega) rfl (fun _ _ => Nat.zero_le _) hs (fun q _ q2 => hgr q q2) (by unfold FU; omega) (by unfold FU; omega) (Or.inl ⟨rfl, rfl⟩) (fun _ => rfl) ⟨by omega, by omega⟩ hw h8 h9
  rcases t3 with ⟨q1, -⟩ | ⟨i, e, q1, q2, q3⟩
  · exact absurd (t4 q1).2 hne
  · rw [q2] at t1
    rw [q3] at t2
    exact ⟨i, e, w', t1, t2, q1, t5⟩
