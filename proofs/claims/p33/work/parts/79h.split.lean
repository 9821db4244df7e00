/-! the groups of a split, one entry after the other -/
theorem Gp.oth {T : TV} {kl : Nat → List Nat} {Q : List Nat} {nd : Nat → Nat} {L : List Nat} {g : Nat → List Nat} {R : List Nat} {w w' group turn size : Nat → Int} {i : Nat} (G : Gp T kl Q nd L g R w group turn size) (ho : oth i w w') (hi : 10 ≤ i) : Gp T kl Q nd L g R w' group turn size := by
  refine ⟨G.1, G.2.1, G.2.2.1, G.2.2.2.1, fun a ha => ?_, G.2.2.2.2.2.1, G.2.2.2.2.2.2.oth ho (by have := G.2.2.1.2.1; omega)⟩
  have h := G.2.2.2.2.1 a ha
  exact ⟨h.1, fun hne t ht => by rw [ho.eq (by omega) ht]; exact h.2.1 hne t ht, h.2.2⟩
theorem first_go {group : Nat → Int} {e : Nat} (he8 : e < 8) (hck : ∀ f, f ≤ e → ck (group f)) (he : group e < 0) (hlow : ∀ f, f < e → ¬ group f < 0) (k : Int → Option ((Nat → Int) × (Nat → Int) × (Nat → Int) × (Nat → Int))) : ∀ (d f n : Nat), f + d = e → d < n → f_Mo_groups_L97 group k n (f : Int) = k (e : Int)
  | 0, f, n + 1, hf, hn => by
    have hf : f = e := by omega
    subst hf
    rw [f_Mo_groups_L97, gd_p ⟨by omega, by omega⟩, show ((f : Int)).toNat = f by omega, gd_p (hck f (Nat.le_refl _)), if_pos he]
  | d + 1, f, n + 1, hf, hn => by
    rw [f_Mo_groups_L97, gd_p ⟨by omega, by omega⟩, show ((f : Int)).toNat = f by omega, gd_p (hck f (by omega)), if_neg (hlow f (by omega)), show (f : Int) + 1 = ((f + 1 : Nat) : Int) by omega]
    exact first_go he8 hck he hlow k d (f + 1) n (by omega) (by omega)
theorem first_go_b {group : Nat → Int} {e : Nat} (he8 : e < 8) (hck : ∀ f, f ≤ e → ck (group f)) (he : group e < 0) (hlow : ∀ f, f < e → ¬ group f < 0) (k : Int → Option ((Nat → Int) × (Nat → Int) × (Nat → Int) × (Nat → Int))) : ∀ (d f n : Nat), f + d = e → d < n → f_Mo_groups_L97_b group k n (f : Int) = k (e : Int)
  | 0, f, n + 1, hf, hn => by
    have hf : f = e := by omega
    subst hf
    rw [f_Mo_groups_L97_b, gd_p ⟨by omega, by omega⟩, show ((f : Int)).toNat = f by omega, gd_p (hck f (Nat.le_refl _)), if_pos he]
  | d + 1, f, n + 1, hf, hn => by
    rw [f_Mo_groups_L97_b, gd_p ⟨by omega, by omega⟩, show ((f : Int)).toNat = f by omega, gd_p (hck f (by omega)), if_neg (hlow f (by omega)), show (f : Int) + 1 = ((f + 1 : Nat) : Int) by omega]
    exact first_go_b he8 hck he hlow k d (f + 1) n (by omega) (by omega)
theorem ga_sp {T T' : TV} {pool : Nat → Int} {x y : Nat} (hR : tR T ≤ 8192) (hx : x < tR T) (hp : pool 0 = (y : Int)) (ha : f_Tr_addAt T (x : Int) (tSiz T x) (y : Int) = some T') : f_Ch_giveAllTo pool 1 T (x : Int) = some (0, T') := by
  have p1 : f_Rt_at 6 pool 0 = some (y : Int) := by
    have := at_sp (n := 6) (f := pool) (x := 0) (by omega) (by omega)
    rw [hp] at this
    exact this
  unfold f_Ch_giveAllTo
  rw [show FU = 4094 + 1 + 1 from rfl, f_Ch_giveAllTo_L2, gd_p ⟨by omega, by omega⟩, gd_p ⟨by omega, by omega⟩, if_pos (by omega), bd1_p (t_siz hR hx), bd1_p p1, bd1_p ha, f_Ch_giveAllTo_L2, gd_p ⟨by omega, by omega⟩, gd_p ⟨by omega, by omega⟩, if_neg (by omega)]
/-- what the groups say of every entry -/
theorem Gp.gck {T : TV} {kl : Nat → List Nat} {Q : List Nat} {nd : Nat → Nat} {L : List Nat} {g : Nat → List Nat} {R : List Nat} {w group turn size : Nat → Int} (G : Gp T kl Q nd L g R w group turn size) {e : Nat} (he : e < L.length) : ck (group e) ∧ (group e < 0 ↔ e ∈ R) := by
  rcases G.2.2.2.1.2.2.2 e he with ⟨a, ha, h⟩ | h
  · have h1 := (G.in_g ha h).2
    refine ⟨⟨by omega, by omega⟩, fun q => absurd q (by omega), fun q => ?_⟩
    have := G.2.2.2.2.2.1 e q
    omega
  · have h1 := G.2.2.2.2.2.1 e h
    exact ⟨⟨by omega, by omega⟩, fun _ => h, fun _ => by omega⟩
theorem spl_go {Q : List Nat} {nd : Nat → Nat} {L : List Nat} (kC : Int → (Nat → Int) → Int → TV → Option (Int × (Nat → Int) × Int × TV)) (kR : Int → (Nat → Int) → (Nat → Int) → (Nat → Int) → (Nat → Int) → Option ((Nat → Int) × (Nat → Int) × (Nat → Int) × (Nat → Int))) : ∀ (k n m st : Nat) (T : TV) (kl g : Nat → List Nat) (R : List Nat) (pool w group turn size : Nat → Int), Gp T kl Q nd L g R w group turn size → PlR pool L R → R.length = k → g 0 ≠ [] → g 1 ≠ [] → 3 ≤ tCap T ∧ tCap T ≤ 5 → k < n → k < m → st + k ≤ 6 → ∃ (st' : Int) (pool' : Nat → Int) (T' : TV) (kl' g' : Nat → List Nat) (w' group' turn' size' : Nat → Int), f_Ch_splitNode_L113 (nd 0 : Int) (nd 1 : Int) kC n (st : Int) pool (k : Int) T = kC st' pool' 0 T' ∧ f_Mo_groups_L39 (L.length : Int) (tCap T / 2) kR m (k : Int) w group turn size = kR 0 w' group' turn' size' ∧ Gp T' kl' Q nd L g' [] w' group' turn' size' ∧ g' 0 ≠ [] ∧ g' 1 ≠ [] ∧ Ke L (tLev T (nd 0)) T T' ∧ ∀ v, v ≠ nd 0 → v ≠ nd 1 → kl' v = kl v
  | 0, n + 1, m + 1, st, T, kl, g, R, pool, w, group, turn, size, G, hp, hk, h0, h1, hcap, hn, hm, hst => by
    have hR0 : R = [] := List.length_eq_zero_iff.mp hk
    subst hR0
    refine ⟨(st : Int), pool, T, kl, g, w, group, turn, size, ?_, ?_, G, h0, h1, Ke.rf, fun _ _ _ => rfl⟩
    · rw [f_Ch_splitNode_L113, gd_p ⟨by omega, by omega⟩, if_neg (by omega)]
      rfl
    · rw [f_Mo_groups_L39, gd_p ⟨by omega, by omega⟩, if_neg (by omega)]
      rfl
  | k + 1, n + 1, m + 1, st, T, kl, g, R, pool, w, group, turn, size, G, hp, hk, h0, h1, hcap, hn, hm, hst => by
    have hA := G.1.1
    have hle := hA.le
    have hl6 := G.2.2.1.2.1
    have hlen := G.2.2.2.1.1
    have p0 : 0 < (g 0).length := List.length_pos_iff.mpr h0
    have p1 : 0 < (g 1).length := List.length_pos_iff.mpr h1
    have hn0 := G.2.1.2 0 (by omega)
    have hn1 := G.2.1.2 1 (by omega)
    have s0 := (G.2.2.2.2.1 0 (by omega)).1
    have s1 := (G.2.2.2.2.1 1 (by omega)).1
    have k0 : tSiz T (nd 0) = ((g 0).length : Int) := by rw [(hA.siz hn0.1).1, hn0.2.2.1, List.length_map]
    have k1 : tSiz T (nd 1) = ((g 1).length : Int) := by rw [(hA.siz hn1.1).1, hn1.2.2.1, List.length_map]
    have z0 := t_siz hle (hA.lt hn0.1)
    have z1 := t_siz hle (hA.lt hn1.1)
    rw [k0] at z0
    rw [k1] at z1
    have hleast : f_Tr_least T = some (tCap T / 2) := by
      unfold f_Tr_least
      rw [gd_p ⟨⟨by omega, by omega⟩, by omega, by omega⟩]
    -- behind one entry the rest follows
    have rest : ∀ (a e : Nat) (D E : List Nat) (w1 pool1 : Nat → Int), a < 2 → R = D ++ e :: E → oth 11 w w1 → PlR pool1 L (D ++ E) → ∃ (T1 : TV) (w2 group2 turn2 size2 : Nat → Int), f_Tr_addAt T (nd a : Int) (tSiz T (nd a)) (nth L e : Int) = some T1 ∧ f_Mo_joins w1 group turn size (e : Int) (a : Int) = some (w2, group2, turn2, size2) ∧ ∃ (st' : Int) (pool' : Nat → Int) (T' : TV) (kl' g' : Nat → List Nat) (w' group' turn' size' : Nat → Int), f_Ch_splitNode_L113 (nd 0 : Int) (nd 1 : Int) kC n ((st + 1 : Nat) : Int) pool1 (k : Int) T1 = kC st' pool' 0 T' ∧ f_Mo_groups_L39 (L.length : Int) (tCap T / 2) kR m (k : Int) w2 group2 turn2 size2 = kR 0 w' group' turn' size' ∧ Gp T' kl' Q nd L g' [] w' group' turn' size' ∧ g' 0 ≠ [] ∧ g' 1 ≠ [] ∧ Ke L (tLev T (nd 0)) T T' ∧ ∀ v, v ≠ nd 0 → v ≠ nd 1 → kl' v = kl v := by
      intro a e D E w1 pool1 ha hRe ho hp1
      have hkl := congrArg List.length hRe
      rw [List.length_append, List.length_cons] at hkl
      rw [hRe] at G
      obtain ⟨T1, w2, group2, turn2, size2, j1, j2, j3, j4⟩ := join_sp (G.oth ho (by omega)) ha
      have gne : ∀ b, b < 2 → upL g a (g a ++ [e]) b ≠ [] := fun b hb => by
        by_cases hba : b = a
        · subst hba
          rw [upL_s]
          simp
        · rw [upL_o hba]
          rcases (show b = 0 ∨ b = 1 by omega) with rfl | rfl
          · exact h0
          · exact h1
      obtain ⟨st', pool', T', kl', g', w', group', turn', size', i1, i2, i3, i4, i5, i6, i7⟩ := spl_go kC kR k n m (st + 1) T1 _ _ _ pool1 w2 group2 turn2 size2 j4 hp1 (by rw [List.length_append]; omega) (gne 0 (by omega)) (gne 1 (by omega)) (by rw [j3.1.2.2.2.1]; exact hcap) (by omega) (by omega) (by omega)
      refine ⟨T1, w2, group2, turn2, size2, j1, j2, st', pool', T', kl', g', w', group', turn', size', i1, ?_, i3, i4, i5, j3.tr ?_, fun v v0 v1 => ?_⟩
      · rw [j3.1.2.2.2.1] at i2
        exact i2
      · rw [j3.1.1] at i6
        exact i6
      · rw [i7 v v0 v1]
        refine upL_o ?_
        rcases (show a = 0 ∨ a = 1 by omega) with rfl | rfl
        · exact v0
        · exact v1
    by_cases c0 : tCap T / 2 < ((g 0).length : Int) + ((k + 1 : Nat) : Int)
    · by_cases c1 : tCap T / 2 < ((g 1).length : Int) + ((k + 1 : Nat) : Int)
      · -- the entry that is most decided
        have hne : R ≠ [] := fun q => by rw [q] at hk; simp at hk
        have e8 := (G.2.2.2.2.1 0 (by omega)).2.1 h0
        have e9 := (G.2.2.2.2.1 1 (by omega)).2.1 h1
        have r0 := hA.rgx hn0.1
        have r1 := hA.rgx hn1.1
        obtain ⟨i, e, w1, m1, m2, m3, m4⟩ := md_sp hle G.lok hp (hA.lt hn0.1) (hA.lt hn1.1) r0 r1 (by omega) (fun e he => (G.gck he).1) G.2.2.2.1.2.1 (fun e he => (G.gck he).2) hne G.2.2.2.2.2.2 e8 e9
        have heR := List.mem_of_getElem? m3
        have hel := G.2.2.2.1.2.2.1 e heR
        have hyQ := G.2.2.1.2.2.1 _ (nth_mem hel)
        have hyl := hA.lt hyQ
        have ry := hA.rgx hyQ
        have G1 := G.oth m4 (by omega)
        have e8' := (G1.2.2.2.2.1 0 (by omega)).2.1 h0
        have e9' := (G1.2.2.2.2.1 1 (by omega)).2.1 h1
        have ee := G1.2.2.2.2.2.2 e _ (nth_get hel)
        have b1 := better_sp (s1 := ((g 0).length : Int)) (s2 := ((g 1).length : Int)) hle (hA.lt hn0.1) (hA.lt hn1.1) hyl r0 r1 ry k0 k1 ⟨by omega, by omega, by omega, by omega⟩
        obtain ⟨w2, q1, q2⟩ := pref_sp (w := w1) (size := size) (e := e) (by omega) (rg_eqb e8' r0) (rg_eqb e9' r1) (rg_eqb ee ry) ⟨by omega, by omega, by omega, by omega⟩
        rw [ua_eqb e8' ee, ar_eqb e8', ua_eqb e9' ee, ar_eqb e9', s0, s1] at q1
        generalize pf (ua (tCor T) (nd 0) (tCor T) (nth L e) - ar (tCor T) (nd 0) - (ua (tCor T) (nd 1) (tCor T) (nth L e) - ar (tCor T) (nd 1))) (ar (tCor T) (nd 0) - ar (tCor T) (nd 1)) (((g 0).length : Int) - ((g 1).length : Int)) = X at b1 q1
        obtain ⟨D, E, hRe, hD⟩ := split_at m3
        have hkl := congrArg List.length hRe
        rw [List.length_append, List.length_cons] at hkl
        have hpi := (hp i e m3).2
        have fin : ∀ a, a < 2 → f_Ch_betterGroup T (nd 0 : Int) (nd 1 : Int) (nth L e : Int) = some (nd a : Int) → f_Mo_preferred w1 size (e : Int) = some ((a : Int), w2) → ∃ (st' : Int) (pool' : Nat → Int) (T' : TV) (kl' g' : Nat → List Nat) (w' group' turn' size' : Nat → Int), f_Ch_splitNode_L113 (nd 0 : Int) (nd 1 : Int) kC (n + 1) (st : Int) pool ((k + 1 : Nat) : Int) T = kC st' pool' 0 T' ∧ f_Mo_groups_L39 (L.length : Int) (tCap T / 2) kR (m + 1) ((k + 1 : Nat) : Int) w group turn size = kR 0 w' group' turn' size' ∧ Gp T' kl' Q nd L g' [] w' group' turn' size' ∧ g' 0 ≠ [] ∧ g' 1 ≠ [] ∧ Ke L (tLev T (nd 0)) T T' ∧ ∀ v, v ≠ nd 0 → v ≠ nd 1 → kl' v = kl v := by
          intro a ha hb hq
          have hna := G.2.1.2 a ha
          obtain ⟨T1, w3, group2, turn2, size2, j1, j2, -⟩ := rest a e D E w2 (fun j => if i ≤ j ∧ j < k then pool (j + 1) else pool j) ha hRe (m4.tr q2) (fun j f hj => by
            have hjl := (List.getElem?_eq_some_iff.mp hj).1
            rw [List.length_append] at hjl
            rcases del_get (y := e) hj with ⟨r1, r2⟩ | ⟨r1, r2⟩
            · rw [← hRe] at r2
              have := hp j f r2
              exact ⟨this.1, by show (if _ then _ else _) = _; rw [if_neg (by omega)]; exact this.2⟩
            · rw [← hRe] at r2
              have := hp (j + 1) f r2
              exact ⟨this.1, by show (if _ then _ else _) = _; rw [if_pos (by omega)]; exact this.2⟩)
          obtain ⟨pool1, g1, g2⟩ := giveTo_sp (m := k) (i := i) hle (hA.lt hna.1) (by omega) (by omega) hpi j1
          obtain ⟨T1', w3', group2', turn2', size2', j1', j2', st', pool', T', kl', g', w', group', turn', size', i1, i2, i3⟩ := rest a e D E w2 pool1 ha hRe (m4.tr q2) (fun j f hj => by
            have hjl := (List.getElem?_eq_some_iff.mp hj).1
            rw [List.length_append] at hjl
            rcases del_get (y := e) hj with ⟨r1, r2⟩ | ⟨r1, r2⟩
            · rw [← hRe] at r2
              have := hp j f r2
              exact ⟨this.1, by rw [g2, if_neg (by omega)]; exact this.2⟩
            · rw [← hRe] at r2
              have := hp (j + 1) f r2
              exact ⟨this.1, by rw [g2, if_pos (by omega)]; exact this.2⟩)
          have hT : T1 = T1' := by
            rw [j1] at j1'
            exact Option.some.inj j1'
          subst hT
          refine ⟨st', pool', T', kl', g', w', group', turn', size', ?_, ?_, i3⟩
          · have pa : f_Rt_at 6 pool (i : Int) = some (nth L e : Int) := by rw [at_sp (by omega) (by omega), hpi]
            rw [hk] at m1
            rw [f_Ch_splitNode_L113, gd_p ⟨by omega, by omega⟩, if_pos (by omega), gd_p ⟨by omega, by omega⟩, if_pos (by omega), bd1_p z0, bd1_p hleast, gd_p ⟨by omega, by omega⟩, gd_p ⟨by omega, by omega⟩, if_pos c0, bd1_p z1, bd1_p hleast, gd_p ⟨by omega, by omega⟩, gd_p ⟨by omega, by omega⟩, if_pos c1, bd1_p m1, bd1_p pa, bd1_p hb, bd3_p g1, show (st : Int) + 1 = ((st + 1 : Nat) : Int) by omega]
            exact i1
          · rw [f_Mo_groups_L39, gd_p ⟨by omega, by omega⟩, if_pos (by omega), s0, s1, gd_p ⟨by omega, by omega⟩, gd_p ⟨by omega, by omega⟩, if_pos c0, gd_p ⟨by omega, by omega⟩, if_pos c1, bd2_p m2, bd2_p hq, bd4_p j2', show ((k + 1 : Nat) : Int) + -1 = (k : Int) by omega]
            exact i2
        by_cases hX : 0 < X
        · rw [if_pos hX] at b1 q1
          exact fin 1 (by omega) b1 q1
        · rw [if_neg hX] at b1 q1
          exact fin 0 (by omega) b1 q1
      · -- the rest goes to the second group
        have hk1 : k = 0 := by omega
        subst hk1
        obtain ⟨e, hRe⟩ := List.length_eq_one_iff.mp hk
        have hpe := hp 0 e (by rw [hRe]; rfl)
        obtain ⟨T1, w2, group2, turn2, size2, j1, j2, st', pool', T', kl', g', w', group', turn', size', i1, i2, i3⟩ := rest 1 e [] [] w pool (by omega) hRe oth.rf (fun j f hj => by simp at hj)
        refine ⟨st', pool', T', kl', g', w', group', turn', size', ?_, ?_, i3⟩
        · rw [f_Ch_splitNode_L113, gd_p ⟨by omega, by omega⟩, if_pos (by omega), gd_p ⟨by omega, by omega⟩, if_pos (by omega), bd1_p z0, bd1_p hleast, gd_p ⟨by omega, by omega⟩, gd_p ⟨by omega, by omega⟩, if_pos c0, bd1_p z1, bd1_p hleast, gd_p ⟨by omega, by omega⟩, gd_p ⟨by omega, by omega⟩, if_neg c1, show ((0 + 1 : Nat) : Int) = 1 from rfl, bd2_p (ga_sp hle (hA.lt hn1.1) hpe.2 j1), show (st : Int) + 1 = ((st + 1 : Nat) : Int) by omega]
          exact i1
        · rw [f_Mo_groups_L39, gd_p ⟨by omega, by omega⟩, if_pos (by omega), s0, s1, gd_p ⟨by omega, by omega⟩, gd_p ⟨by omega, by omega⟩, if_pos c0, gd_p ⟨by omega, by omega⟩, if_neg c1]
          have := first_go (group := group) (e := e) (by omega) (fun f hf => (G.gck (by omega)).1) (((G.gck hpe.1).2).mpr (by rw [hRe]; simp)) (fun f hf q => by
            have := ((G.gck (e := f) (by omega)).2).mp q
            rw [hRe] at this
            simp at this
            omega) (fun x5_41 => bd4 (f_Mo_joins w group turn size x5_41 1) <| fun c_rect_43 c_group_44 c_turn_45 c_size_46 => f_Mo_groups_L39 (L.length : Int) (tCap T / 2) kR m (((0 + 1 : Nat) : Int) + (-1)) c_rect_43 c_group_44 c_turn_45 c_size_46) e 0 FU (by omega) (by unfold FU; omega)
          refine Eq.trans this ?_
          have j2 : f_Mo_joins w group turn size (e : Int) 1 = _ := j2
          rw [bd4_p j2]
          exact i2
    · -- the rest goes to the first group
      have hk1 : k = 0 := by omega
      subst hk1
      obtain ⟨e, hRe⟩ := List.length_eq_one_iff.mp hk
      have hpe := hp 0 e (by rw [hRe]; rfl)
      obtain ⟨T1, w2, group2, turn2, size2, j1, j2, st', pool', T', kl', g', w', group', turn', size', i1, i2, i3⟩ := rest 0 e [] [] w pool (by omega) hRe oth.rf (fun j f hj => by simp at hj)
      refine ⟨st', pool', T', kl', g', w', group', turn', size', ?_, ?_, i3⟩
      · rw [f_Ch_splitNode_L113, gd_p ⟨by omega, by omega⟩, if_pos (by omega), gd_p ⟨by omega, by omega⟩, if_pos (by omega), bd1_p z0, bd1_p hleast, gd_p ⟨by omega, by omega⟩, gd_p ⟨by omega, by omega⟩, if_neg c0, show ((0 + 1 : Nat) : Int) = 1 from rfl, bd2_p (ga_sp hle (hA.lt hn0.1) hpe.2 j1), show (st : Int) + 1 = ((st + 1 : Nat) : Int) by omega]
        exact i1
      · rw [f_Mo_groups_L39, gd_p ⟨by omega, by omega⟩, if_pos (by omega), s0, gd_p ⟨by omega, by omega⟩, gd_p ⟨by omega, by omega⟩, if_neg c0]
        have := first_go_b (group := group) (e := e) (by omega) (fun f hf => (G.gck (by omega)).1) (((G.gck hpe.1).2).mpr (by rw [hRe]; simp)) (fun f hf q => by
          have := ((G.gck (e := f) (by omega)).2).mp q
          rw [hRe] at this
          simp at this
          omega) (fun x5_53 => bd4 (f_Mo_joins w group turn size x5_53 0) <| fun c_rect_55 c_group_56 c_turn_57 c_size_58 => f_Mo_groups_L39 (L.length : Int) (tCap T / 2) kR m (((0 + 1 : Nat) : Int) + (-1)) c_rect_55 c_group_56 c_turn_57 c_size_58) e 0 FU (by omega) (by unfold FU; omega)
        refine Eq.trans this ?_
        have j2 : f_Mo_joins w group turn size (e : Int) 0 = _ := j2
        rw [bd4_p j2]
        exact i2
