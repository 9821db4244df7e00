/-! an entry comes to a group: the class's addAt, giveTo beside the reference's joins -/
theorem ins_end {y : Nat} {L : List Nat} : ins L.length y L = L ++ [y] := by
  unfold ins
  rw [List.take_length, List.drop_length]
theorem give_sh (m : Nat) (hm : m ≤ 5) (k : Int → (Nat → Int) → Option ((Nat → Int) × Int × TV)) : ∀ (d i n : Nat) (pool : Nat → Int), i + d = m → d < n → ∃ pool', f_Ch_giveTo_L40 (m : Int) k n (i : Int) pool = k (m : Int) pool' ∧ ∀ j, pool' j = if i ≤ j ∧ j < m then pool (j + 1) else pool j
  | 0, i, n + 1, pool, hi, hn => by
    have hi : i = m := by omega
    subst hi
    refine ⟨pool, ?_, fun j => by rw [if_neg (by omega)]⟩
    rw [f_Ch_giveTo_L40, gd_p ⟨by omega, by omega⟩, gd_p ⟨by omega, by omega⟩, if_neg (by omega)]
  | d + 1, i, n + 1, pool, hi, hn => by
    obtain ⟨pool', e1, e2⟩ := give_sh m hm k d (i + 1) n (up pool i (pool (i + 1))) (by omega) (by omega)
    refine ⟨pool', ?_, fun j => ?_⟩
    · rw [f_Ch_giveTo_L40, gd_p ⟨by omega, by omega⟩, gd_p ⟨by omega, by omega⟩, if_pos (by omega), show (i : Int) + 1 = ((i + 1 : Nat) : Int) by omega, bd1_p (at_sp (n := 6) (f := pool) (by omega) (by omega)), bd1_p (put_sp (n := 6) (f := pool) (by omega) (by omega))]
      exact e1
    · rw [e2 j]
      by_cases h1 : j = i
      · subst h1
        rw [if_neg (by omega), if_pos (by omega), up_s]
      · by_cases h2 : i + 1 ≤ j ∧ j < m
        · rw [if_pos h2, if_pos (by omega), up_o (by omega)]
        · rw [if_neg h2, if_neg (by omega), up_o h1]
theorem giveTo_sp {T T' : TV} {pool : Nat → Int} {x y m i : Nat} (hR : tR T ≤ 8192) (hx : x < tR T) (hm : m ≤ 5) (hi : i ≤ m) (hp : pool i = (y : Int)) (ha : f_Tr_addAt T (x : Int) (tSiz T x) (y : Int) = some T') : ∃ pool', f_Ch_giveTo pool ((m + 1 : Nat) : Int) T (x : Int) (i : Int) = some (pool', (m : Int), T') ∧ ∀ j, pool' j = if i ≤ j ∧ j < m then pool (j + 1) else pool j := by
  obtain ⟨pool', e1, e2⟩ := give_sh m hm (fun x3_21 c_pool_22 => some (c_pool_22, (m : Int), T')) (m - i) i FU pool (by omega) (by unfold FU; omega)
  refine ⟨pool', ?_, e2⟩
  have p1 : f_Rt_at 6 pool (i : Int) = some (y : Int) := by rw [at_sp (by omega) (by omega), hp]
  unfold f_Ch_giveTo
  rw [bd1_p (t_siz hR hx), bd1_p p1, bd1_p ha, gd_p ⟨by omega, by omega⟩, show ((m + 1 : Nat) : Int) - 1 = (m : Int) by omega, show max (i : Int) 0 = (i : Int) by omega]
  exact e1
/-- the state of both while a node is split: the groups g, what is left of the list L in R -/
def Gp (T : TV) (kl : Nat → List Nat) (Q : List Nat) (nd : Nat → Nat) (L : List Nat) (g : Nat → List Nat) (R : List Nat) (w group turn size : Nat → Int) : Prop :=
  (Ar T kl Q ∧ ∀ v ∈ Q, Cr (tCor T) kl v) ∧
  (nd 0 ≠ nd 1 ∧ ∀ a, a < 2 → nd a ∈ Q ∧ 24 ≤ nd a ∧ kl (nd a) = (g a).map (nth L) ∧ ∀ y ∈ L, tLev T y = tLev T (nd a) - 1) ∧
  (L.Nodup ∧ L.length ≤ 6 ∧ (∀ y ∈ L, y ∈ Q) ∧ ∀ v ∈ Q, v ≠ nd 0 → v ≠ nd 1 → ∀ y ∈ L, y ∉ kl v) ∧
  ((g 0).length + (g 1).length + R.length = L.length ∧ R.Pairwise (· < ·) ∧ (∀ e ∈ R, e < L.length) ∧ ∀ e, e < L.length → (∃ a, a < 2 ∧ e ∈ g a) ∨ e ∈ R) ∧
  (∀ a, a < 2 → size a = ((g a).length : Int) ∧ (g a ≠ [] → eqb w (8 + a) (tCor T) (nd a)) ∧ ∀ (t e : Nat), (g a)[t]? = some e → e < L.length ∧ group e = (a : Int) ∧ turn e = (t : Int)) ∧
  (∀ e ∈ R, group e = -5) ∧ Sl T w L
theorem two {a b : Nat} (ha : a < 2) (hb : b < 2) (h : a ≠ b) : (a = 0 ∧ b = 1) ∨ (a = 1 ∧ b = 0) := by omega
theorem Gp.nd_ne {T : TV} {kl : Nat → List Nat} {Q : List Nat} {nd : Nat → Nat} {L : List Nat} {g : Nat → List Nat} {R : List Nat} {w group turn size : Nat → Int} (G : Gp T kl Q nd L g R w group turn size) {a b : Nat} (ha : a < 2) (hb : b < 2) (h : a ≠ b) : nd a ≠ nd b := by
  rcases two ha hb h with ⟨rfl, rfl⟩ | ⟨rfl, rfl⟩
  · exact G.2.1.1
  · exact fun q => G.2.1.1 q.symm
theorem Gp.in_g {T : TV} {kl : Nat → List Nat} {Q : List Nat} {nd : Nat → Nat} {L : List Nat} {g : Nat → List Nat} {R : List Nat} {w group turn size : Nat → Int} (G : Gp T kl Q nd L g R w group turn size) {a e : Nat} (ha : a < 2) (he : e ∈ g a) : e < L.length ∧ group e = (a : Int) := by
  obtain ⟨t, h1, h2⟩ := List.getElem_of_mem he
  have := (G.2.2.2.2.1 a ha).2.2 t e (by rw [List.getElem?_eq_getElem h1, h2])
  exact ⟨this.1, this.2.1⟩
theorem Gp.lok {T : TV} {kl : Nat → List Nat} {Q : List Nat} {nd : Nat → Nat} {L : List Nat} {g : Nat → List Nat} {R : List Nat} {w group turn size : Nat → Int} (G : Gp T kl Q nd L g R w group turn size) : Lok T L := ⟨G.2.2.1.2.1, fun y hy => ⟨G.1.1.lt (G.2.2.1.2.2.1 y hy), G.1.1.rgx (G.2.2.1.2.2.1 y hy)⟩⟩
/-- an entry that is left is in no list -/
theorem Gp.loose {T : TV} {kl : Nat → List Nat} {Q : List Nat} {nd : Nat → Nat} {L : List Nat} {g : Nat → List Nat} {R : List Nat} {w group turn size : Nat → Int} (G : Gp T kl Q nd L g R w group turn size) {e : Nat} (he : e ∈ R) : ∀ v ∈ Q, nth L e ∉ kl v := by
  intro v hv hy
  have hel := G.2.2.2.1.2.2.1 e he
  have key : ∀ a, a < 2 → v ≠ nd a := fun a ha q => by
    subst q
    rw [((G.2.1.2 a ha).2.2.1)] at hy
    obtain ⟨f, hf, hfe⟩ := List.mem_map.mp hy
    have h1 := G.in_g ha hf
    have h2 := nth_inj G.2.2.1.1 h1.1 hel hfe
    have h3 := G.2.2.2.2.2.1 e he
    rw [h2, h3] at h1
    omega
  exact G.2.2.1.2.2.2 v hv (key 0 (by omega)) (key 1 (by omega)) _ (nth_mem hel) hy
/-- how an edit of the tree leaves the rest -/
def Ke (L : List Nat) (l : Int) (T T' : TV) : Prop := Sm T T' ∧ (∀ v, v ∉ L → tHol T' v = tHol T v) ∧ ∀ z t, t < 4 → (z < 24 ∨ tLev T z < l) → tCor T' (4 * z + t) = tCor T (4 * z + t)
theorem Ke.rf {L : List Nat} {l : Int} {T : TV} : Ke L l T T := ⟨Sm.rf, fun _ _ => rfl, fun _ _ _ _ => rfl⟩
theorem Ke.tr {L : List Nat} {l : Int} {T U V : TV} (h : Ke L l T U) (g : Ke L l U V) : Ke L l T V := ⟨h.1.tr g.1, fun v hv => (g.2.1 v hv).trans (h.2.1 v hv), fun z t ht hz => (g.2.2 z t ht (by rw [h.1.1]; exact hz)).trans (h.2.2 z t ht hz)⟩
theorem join_sp {T : TV} {kl : Nat → List Nat} {Q : List Nat} {nd : Nat → Nat} {L : List Nat} {g : Nat → List Nat} {D E : List Nat} {e a : Nat} {w group turn size : Nat → Int} (G : Gp T kl Q nd L g (D ++ e :: E) w group turn size) (ha : a < 2) : ∃ T' w' group' turn' size', f_Tr_addAt T (nd a : Int) (tSiz T (nd a)) (nth L e : Int) = some T' ∧ f_Mo_joins w group turn size (e : Int) (a : Int) = some (w', group', turn', size') ∧ Ke L (tLev T (nd 0)) T T' ∧ Gp T' (upL kl (nd a) (kl (nd a) ++ [nth L e])) Q nd L (upL g a (g a ++ [e])) (D ++ E) w' group' turn' size' := by
  have heR : e ∈ D ++ e :: E := by simp
  have hel := G.2.2.2.1.2.2.1 e heR
  have hloose := G.loose heR
  have hyL := nth_mem hel
  have hyQ := G.2.2.1.2.2.1 _ hyL
  have hA := G.1.1
  have hnd := G.2.1.2 a ha
  have hl6 := G.2.2.1.2.1
  have hlen := G.2.2.2.1.1
  rw [List.length_append, List.length_cons] at hlen
  have hga : (g a).length + 1 ≤ 6 := by
    rcases (show a = 0 ∨ a = 1 by omega) with rfl | rfl <;> omega
  have hkl : (kl (nd a)).length = (g a).length := by rw [hnd.2.2.1, List.length_map]
  have hsz := (hA.siz hnd.1).1
  obtain ⟨T', e1, e2, e3, e4, e5, e6⟩ := addAt_sp (p := (kl (nd a)).length) hA (fun v hv _ => G.1.2 v hv) hnd.1 hnd.2.1 hyQ (hnd.2.2.2 _ hyL) hloose (by omega) (Nat.le_refl _)
  rw [ins_end] at e2 e3
  have hlv0 : tLev T (nd a) = tLev T (nd 0) := by
    have h1 := hnd.2.2.2 _ hyL
    have h2 := (G.2.1.2 0 (by omega)).2.2.2 _ hyL
    omega
  have hgr := G.2.2.2.2.2.1 e heR
  have hsa := (G.2.2.2.2.1 a ha).1
  have hwe := G.2.2.2.2.2.2 e _ (nth_get hel)
  have rwe : rg w e := rg_eqb hwe (hA.rgx hyQ)
  -- the entry's corners stay
  have hlow : ∀ y ∈ L, ∀ t, t < 4 → tCor T' (4 * y + t) = tCor T (4 * y + t) := fun y hy t ht => e6 y t ht (Or.inr (by have := hnd.2.2.2 y hy; omega))
  have hR' : ∀ f, f ∈ D ++ E → f ≠ e := fun f hf q => by
    subst q
    have hp := List.pairwise_append.mp G.2.2.2.1.2.1
    have hp2 := List.pairwise_cons.mp hp.2.1
    rcases List.mem_append.mp hf with r | r
    · have := hp.2.2 f r f (by simp)
      omega
    · have := hp2.1 f r
      omega
  have hsub : ∀ f, f ∈ D ++ E → f ∈ D ++ e :: E := fun f hf => by
    rcases List.mem_append.mp hf with r | r <;> simp [r]
  -- the slots of the reference
  have hw' : ∃ w', f_Mo_joins w group turn size (e : Int) (a : Int) = some (w', up group e (a : Int), up turn e (size a), up size a (size a + 1)) ∧ oth (8 + a) w w' ∧ ∀ t, t < 4 → w' (4 * (8 + a) + t) = tCor T' (4 * nd a + t) := by
    have hcr := e3 (nd a) hnd.1 hnd.2.1 (by rw [upL_s]; simp)
    rw [upL_s] at hcr
    by_cases h0 : g a = []
    · have hk0 : kl (nd a) = [] := by rw [hnd.2.2.1, h0]; rfl
      obtain ⟨w', f1, f2, f3⟩ := m_unites (c := w) (a := e) (b := e) (i := 8 + a) (by omega) (by omega) (by omega) rwe rwe
      refine ⟨w', ?_, f3, fun t ht => ?_⟩
      · unfold f_Mo_joins
        rw [gd_p ⟨by omega, by omega⟩, gd_p ⟨by omega, by omega⟩, show ((a : Int)).toNat = a by omega, gd_p ⟨by omega, by omega⟩, if_pos (by rw [hsa, h0]; rfl), show (8 : Int) + (a : Int) = ((8 + a : Nat) : Int) by omega, bd1_p f1, show ((e : Int)).toNat = e by omega]
      · rw [f2 t ht, mm_self, hcr t ht, hk0]
        show _ = cu (tCor T') t [nth L e]
        rw [cu_one ht (e2.rgx hyQ), hlow _ hyL t ht, hwe t ht]
    · have h8 := (G.2.2.2.2.1 a ha).2.1 h0
      obtain ⟨w', f1, f2, f3⟩ := m_unites (c := w) (a := 8 + a) (b := e) (i := 8 + a) (by omega) (by omega) (by omega) (rg_eqb h8 (hA.rgx hnd.1)) rwe
      have hpos : 0 < (g a).length := List.length_pos_iff.mpr h0
      refine ⟨w', ?_, f3, fun t ht => ?_⟩
      · unfold f_Mo_joins
        rw [gd_p ⟨by omega, by omega⟩, gd_p ⟨by omega, by omega⟩, show ((a : Int)).toNat = a by omega, gd_p ⟨by omega, by omega⟩, if_neg (by omega), show (8 : Int) + (a : Int) = ((8 + a : Nat) : Int) by omega, bd1_p f1, show ((e : Int)).toNat = e by omega]
      · have hne : kl (nd a) ≠ [] := fun q => by rw [q] at hkl; simp at hkl; omega
        rw [f2 t ht, h8 t ht, hwe t ht, hcr t ht, cu_snoc ht (e2.rgx hyQ), hlow _ hyL t ht, G.1.2 (nd a) hnd.1 hnd.2.1 hne t ht]
        congr 1
        refine (cu_same (fun y hy => ?_)).symm
        rw [hnd.2.2.1] at hy
        obtain ⟨f, hf, rfl⟩ := List.mem_map.mp hy
        exact hlow _ (nth_mem (G.in_g ha hf).1) t ht
  obtain ⟨w', j1, j2, j3⟩ := hw'
  refine ⟨T', w', _, _, _, ?_, j1, ⟨e4, fun v hv => ?_, fun z t ht hz => e6 z t ht (by rw [hlv0]; exact hz)⟩, ⟨e2, e3⟩, ⟨G.2.1.1, fun b hb => ?_⟩, ⟨G.2.2.1.1, hl6, G.2.2.1.2.2.1, fun v hv v0 v1 y hy => ?_⟩, ⟨?_, ?_, fun f hf => G.2.2.2.1.2.2.1 f (hsub f hf), fun f hf => ?_⟩, fun b hb => ?_, fun f hf => ?_, fun j y hj t ht => ?_⟩
  · rw [hsz]
    exact e1
  · rw [e5]
    exact up_o (fun q => hv (q ▸ hyL))
  · have h1 := G.2.1.2 b hb
    refine ⟨h1.1, h1.2.1, ?_, fun y hy => by rw [e4.1]; exact h1.2.2.2 y hy⟩
    by_cases hba : b = a
    · subst hba
      rw [upL_s, upL_s, List.map_append, ← h1.2.2.1]
      rfl
    · rw [upL_o (G.nd_ne hb ha hba), upL_o hba]
      exact h1.2.2.1
  · have hva : v ≠ nd a := by
      rcases (show a = 0 ∨ a = 1 by omega) with rfl | rfl
      · exact v0
      · exact v1
    rw [upL_o hva]
    exact G.2.2.1.2.2.2 v hv v0 v1 y hy
  · rw [List.length_append]
    rcases (show a = 0 ∨ a = 1 by omega) with rfl | rfl
    · rw [upL_s, upL_o (by omega), List.length_append]
      simp
      omega
    · rw [upL_s, upL_o (by omega), List.length_append]
      simp
      omega
  · exact G.2.2.2.1.2.1.sublist (List.Sublist.append (List.Sublist.refl D) (List.sublist_cons_self e E))
  · rcases G.2.2.2.1.2.2.2 f hf with ⟨b, hb, hfb⟩ | hfR
    · refine Or.inl ⟨b, hb, ?_⟩
      by_cases hba : b = a
      · subst hba
        rw [upL_s]
        exact List.mem_append_left _ hfb
      · rw [upL_o hba]
        exact hfb
    · by_cases hfe : f = e
      · subst hfe
        exact Or.inl ⟨a, ha, by rw [upL_s]; simp⟩
      · refine Or.inr ?_
        rcases List.mem_append.mp hfR with r | r
        · exact List.mem_append_left _ r
        · exact List.mem_append_right _ ((List.mem_cons.mp r).resolve_left hfe)
  · have h1 := G.2.2.2.2.1 b hb
    by_cases hba : b = a
    · subst hba
      rw [upL_s]
      refine ⟨?_, fun _ t ht => j3 t ht, fun t f hf => ?_⟩
      · rw [up_s, h1.1, List.length_append]
        simp
      · by_cases htl : t < (g b).length
        · rw [List.getElem?_append_left htl] at hf
          have h2 := h1.2.2 t f hf
          have hfe : f ≠ e := fun q => by
            rw [q, hgr] at h2
            omega
          exact ⟨h2.1, by rw [up_o hfe]; exact h2.2.1, by rw [up_o hfe]; exact h2.2.2⟩
        · rw [List.getElem?_append_right (by omega)] at hf
          have ht : t - (g b).length = 0 := by
            have := (List.getElem?_eq_some_iff.mp hf).1
            simp at this
            omega
          rw [ht] at hf
          simp at hf
          subst hf
          exact ⟨hel, up_s, by rw [up_s, h1.1]; omega⟩
    · rw [upL_o hba]
      refine ⟨by rw [up_o hba]; exact h1.1, fun hne t ht => ?_, fun t f hf => ?_⟩
      · have hb2 := G.2.1.2 b hb
        have hnn := G.nd_ne hb ha hba
        have hkne : kl (nd b) ≠ [] := fun q => hne (by rw [hb2.2.2.1] at q; exact List.map_eq_nil_iff.mp q)
        have h5 := e3 (nd b) hb2.1 hb2.2.1 (by rw [upL_o hnn]; exact hkne) t ht
        rw [upL_o hnn] at h5
        rw [j2.eq (by omega) ht, h1.2.1 hne t ht, h5, G.1.2 (nd b) hb2.1 hb2.2.1 hkne t ht]
        refine (cu_same (fun y hy => ?_)).symm
        rw [hb2.2.2.1] at hy
        obtain ⟨f, hf, rfl⟩ := List.mem_map.mp hy
        exact hlow _ (nth_mem (G.in_g hb hf).1) t ht
      · have h2 := h1.2.2 t f hf
        have hfe : f ≠ e := fun q => by
          rw [q, hgr] at h2
          omega
        exact ⟨h2.1, by rw [up_o hfe]; exact h2.2.1, by rw [up_o hfe]; exact h2.2.2⟩
  · rw [up_o (hR' f hf)]
    exact G.2.2.2.2.2.1 f (hsub f hf)
  · have hjl := (List.getElem?_eq_some_iff.mp hj).1
    rw [j2.eq (by omega) ht, G.2.2.2.2.2.2 j y hj t ht, hlow y (List.mem_of_getElem? hj) t ht]
