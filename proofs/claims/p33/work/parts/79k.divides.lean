/-! an item is in a tree once; the reference's divides, up to its last step -/
theorem pr_disj {T : TV} {kl : Nat → List Nat} {Q : List Nat} (h : Ar T kl Q) : ∀ (d z y1 y2 : Nat), y1 ∈ Q → y2 ∈ Q → tLev T y1 = tLev T y2 → z ∈ pr (tLev T) kl y1 → z ∈ pr (tLev T) kl y2 → (tLev T y1 - tLev T z).toNat ≤ d → y1 = y2 := by
  intro d
  induction d with
  | zero =>
    intro z y1 y2 h1 h2 hl m1 m2 hd
    have a1 := pr_in h.lk y1 h1 z m1
    have a2 := pr_in h.lk y2 h2 z m2
    rw [← a1.2.2 (by omega), ← a2.2.2 (by omega)]
  | succ d ih =>
    intro z y1 y2 h1 h2 hl m1 m2 hd
    have a1 := pr_in h.lk y1 h1 z m1
    have a2 := pr_in h.lk y2 h2 z m2
    by_cases c1 : z = y1
    · rw [← c1, ← a2.2.2 (by rw [c1]; exact hl)]
    · by_cases c2 : z = y2
      · rw [← c2, ← a1.2.2 (by rw [c2]; exact hl.symm)]
      · obtain ⟨w1, v1, v2⟩ := pr_up h.lk y1 h1 z m1 c1
        obtain ⟨w2, u1, u2⟩ := pr_up h.lk y2 h2 z m2 c2
        have b1 := pr_in h.lk y1 h1 w1 v1
        have b2 := pr_in h.lk y2 h2 w2 u1
        have hw := h.one b1.1 b2.1 v2 u2
        subst hw
        have := (h.kid b1.1 v2).2.2
        exact ih w1 y1 y2 h1 h2 hl v1 u1 (by omega)
theorem prs_nodup {T : TV} {kl : Nat → List Nat} {Q : List Nat} (h : Ar T kl Q) {l : Int} : ∀ L : List Nat, L.Nodup → (∀ y ∈ L, y ∈ Q ∧ tLev T y = l ∧ (pr (tLev T) kl y).Nodup) → (prs (tLev T) kl L).Nodup
  | [], _, _ => List.nodup_nil
  | a :: L, hn, hL => by
    have hn := List.nodup_cons.mp hn
    have ha := hL a List.mem_cons_self
    rw [prs_cons]
    refine List.nodup_append.mpr ⟨ha.2.2, prs_nodup h L hn.2 (fun y hy => hL y (List.mem_cons_of_mem _ hy)), fun z hz w hw hzw => ?_⟩
    subst hzw
    obtain ⟨b, hb, hzb⟩ := mem_prs.mp hw
    have hb2 := hL b (List.mem_cons_of_mem _ hb)
    have := pr_disj h _ z a b ha.1 hb2.1 (by omega) hz hzb (Nat.le_refl _)
    exact hn.1 (this ▸ hb)
theorem pr_nodup {T : TV} {kl : Nat → List Nat} {Q : List Nat} (h : Ar T kl Q) : ∀ x ∈ Q, (pr (tLev T) kl x).Nodup := by
  refine lv_ind h.lk _ (fun x hx ih => ?_)
  rw [pr_eq (Lk_at h.lk hx)]
  refine List.nodup_cons.mpr ⟨fun hm => ?_, prs_nodup h (l := tLev T x - 1) _ (h.2.2.2.2 x hx).2.2.1.2.2 (fun y hy => ⟨(h.kid hx hy).1, (h.kid hx hy).2.2, ih y hy⟩)⟩
  obtain ⟨y, hy, hm⟩ := mem_prs.mp hm
  have h1 := h.kid hx hy
  have h2 := (pr_in h.lk y h1.1 x hm).2.1
  omega
theorem pr_length {T : TV} {kl : Nat → List Nat} {Q : List Nat} (h : Ar T kl Q) {x : Nat} (hx : x ∈ Q) : (pr (tLev T) kl x).length ≤ Q.length := sub_len (pr_nodup h x hx) (fun z hz => (pr_in h.lk x hx z hz).1)
/-- an item's place in the row is the one that its tree has there -/
theorem at_place {T : TV} {kl : Nat → List Nat} {Q A B : List Nat} {r x p : Nat} (h : Ar T kl Q) (hr : r ∈ Q) (hx : x ∈ Q) (hat : At T kl r x p) (e : pr (tLev T) kl r = A ++ (pr (tLev T) kl x ++ B)) : p = A.length ∧ (pr (tLev T) kl r).drop p = pr (tLev T) kl x ++ B := by
  obtain ⟨B1, e1, -⟩ := hat
  have h1 := (drop_pr h.lk hx e1).1
  have h2 : (pr (tLev T) kl r).drop A.length = pr (tLev T) kl x ++ B := by rw [e]; exact drop_here A _
  have h3 := (drop_pr h.lk hx h2).1
  have hp := (List.getElem?_inj (List.getElem?_eq_some_iff.mp h1).1 (pr_nodup h r hr)).mp (h1.trans h3.symm)
  exact ⟨hp, by rw [hp]; exact h2⟩
/-- the start of an entry's segment -/
def sto (lv : Nat → Int) (kl : Nat → List Nat) (L : List Nat) (p j : Nat) : Nat := p + 1 + (prs lv kl (L.take j)).length
theorem dv_go {T : TV} {kl : Nat → List Nat} {Q Bx : List Nat} {r x p e : Nat} {s : Nat → Int} (J : Jn T kl Q r s) (hx : x ∈ Q) (hB : stops (tLev T) (tLev T x) Bx) (k : Int → Int → (Nat → Int) → (Nat → Int) → Option (Int × (Nat → Int) × (Nat → Int) × (Nat → Int) × (Nat → Int) × (Nat → Int) × (Nat → Int) × (Nat → Int))) : ∀ (L D : List Nat) (n c : Nat) (w fr : Nat → Int), kl x = D ++ L → L.length < n → (pr (tLev T) kl r).drop c = prs (tLev T) kl L ++ Bx → c = p + 1 + (prs (tLev T) kl D).length → c + (prs (tLev T) kl L).length = e → e ≤ 360 → (∀ (j y : Nat), D[j]? = some y → eqb w j (tCor T) y) → (∀ j, j < D.length → fr j = (sto (tLev T) kl D p j : Int)) → ∃ w' fr', f_Mo_divides_L23 s (e : Int) k n (D.length : Int) (c : Int) w fr = k ((kl x).length : Int) (e : Int) w' fr' ∧ Sl T w' (kl x) ∧ ∀ j, j < (kl x).length → fr' j = (sto (tLev T) kl (kl x) p j : Int)
  | [], D, n + 1, c, w, fr, hk, hn, hd, hc, he, h3, hw, hfr => by
    rw [List.append_nil] at hk
    rw [prs_nil] at he
    simp at he
    subst he
    rw [hk]
    refine ⟨w, fr, ?_, hw, hfr⟩
    rw [f_Mo_divides_L23, gd_p ⟨by omega, by omega⟩, gd_p ⟨by omega, by omega⟩, if_neg (by omega)]
  | v :: L, D, n + 1, c, w, fr, hk, hn, hd, hc, he, h3, hw, hfr => by
    have h6 := (J.1.siz hx).2
    have hlk := J.1.lk
    have hlen := congrArg List.length hk
    rw [List.length_append, List.length_cons] at hlen
    simp only [List.length_cons] at hn
    have hv : v ∈ kl x := by rw [hk]; simp
    have hvq := J.1.kid hx hv
    have hL : ∀ z ∈ L, z ∈ Q ∧ tLev T z = tLev T x - 1 := fun z hz => by
      have := J.1.kid hx (y := z) (by rw [hk]; simp [hz])
      exact ⟨this.1, this.2.2⟩
    rw [prs_cons, List.append_assoc] at hd
    rw [prs_cons, List.length_append] at he
    have hst : stops (tLev T) (tLev T v) (prs (tLev T) kl L ++ Bx) := by
      rw [hvq.2.2]
      exact stops_kids hlk hL (by rw [show tLev T x - 1 + 1 = tLev T x by omega]; exact hB)
    have hpos : 0 < (pr (tLev T) kl v).length := by rw [pr_eq (Lk_at hlk hvq.1)]; simp
    have hend := end_pr J.2.2.1 hlk hvq.1 hd hst
    obtain ⟨w1, e1, e2, e3⟩ := J.bnd (c := w) (i := D.length) (by omega) hvq.1 (J.ne hx hv) hd hst
    obtain ⟨w', fr', t1, t2, t3⟩ := dv_go (p := p) J hx hB k L (D ++ [v]) n (c + (pr (tLev T) kl v).length) w1 (up fr D.length (c : Int)) (by rw [hk]; simp) (by omega) (drop_app hd) (by rw [prs_app, prs_cons, prs_nil, List.append_nil, List.length_append]; omega) (by omega) h3 (fun j y hj => by
      by_cases hjl : j < D.length
      · rw [List.getElem?_append_left hjl] at hj
        intro t ht
        rw [e3.eq (by omega) ht]
        exact hw j y hj t ht
      · have hjl2 := (List.getElem?_eq_some_iff.mp hj).1
        simp at hjl2
        have hjd : j = D.length := by omega
        subst hjd
        rw [mid_get] at hj
        rw [← Option.some.inj hj]
        exact e2) (fun j hj => by
      by_cases hjd : j = D.length
      · subst hjd
        unfold sto
        rw [up_s, List.take_left, hc]
      · simp at hj
        unfold sto
        rw [up_o hjd, List.take_append_of_le_length (by omega)]
        exact hfr j (by omega))
    refine ⟨w', fr', ?_, t2, t3⟩
    rw [List.length_append, show ((D.length + [v].length : Nat) : Int) = (D.length : Int) + 1 by simp] at t1
    rw [f_Mo_divides_L23, gd_p ⟨by omega, by omega⟩, gd_p ⟨by omega, by omega⟩, if_pos (by omega), bd1_p e1, gd_p ⟨by omega, by omega⟩, bd1_p hend, show ((D.length : Int)).toNat = D.length by omega]
    exact t1
theorem old_go {s : Nat → Int} (e : Nat) (he : e ≤ 360) (k : Int → (Nat → Int) → Option (Int × (Nat → Int) × (Nat → Int) × (Nat → Int) × (Nat → Int) × (Nat → Int) × (Nat → Int) × (Nat → Int))) : ∀ (d c n : Nat) (old : Nat → Int), c + d = e → d < n → ∃ old', f_Mo_divides_L68 s (e : Int) k n (c : Int) old = k (e : Int) old' ∧ (∀ j, c ≤ j → j < e → old' j = s (101 + j)) ∧ ∀ j, j < c → old' j = old j
  | 0, c, n + 1, old, hc, hn => by
    refine ⟨old, ?_, fun j h1 h2 => absurd h1 (by omega), fun _ _ => rfl⟩
    rw [f_Mo_divides_L68, gd_p ⟨by omega, by omega⟩, gd_p ⟨by omega, by omega⟩, if_neg (by omega), show (c : Int) = (e : Int) by omega]
  | d + 1, c, n + 1, old, hc, hn => by
    obtain ⟨old', e1, e2, e3⟩ := old_go e he k d (c + 1) n (up old c (s (101 + c))) (by omega) (by omega)
    refine ⟨old', ?_, fun j h1 h2 => ?_, fun j hj => by rw [e3 j (by omega), up_o (by omega)]⟩
    · rw [f_Mo_divides_L68, gd_p ⟨by omega, by omega⟩, gd_p ⟨by omega, by omega⟩, if_pos (by omega), bd1_p (rw_at (i := c) (by omega) rfl), gd_p ⟨by omega, by omega⟩, show ((c : Int)).toNat = c by omega, show (c : Int) + 1 = ((c + 1 : Nat) : Int) by omega]
      exact e1
    · by_cases hjc : j = c
      · subst hjc
        rw [e3 _ (by omega), up_s]
      · exact e2 j (by omega) h2
theorem prs_map {lv : Nat → Int} {kl : Nat → List Nat} {L : List Nat} {f : Nat → Int} : ∀ g : List Nat, g.flatMap (fun e => (pr lv kl (nth L e)).map f) = (prs lv kl (g.map (nth L))).map f
  | [] => rfl
  | e :: g => by
    rw [List.flatMap_cons, List.map_cons, prs_cons, List.map_append, prs_map g]
/-- what a split's groups are, as the reference's arrays say -/
def Gm (n : Nat) (g : Nat → List Nat) (group turn size : Nat → Int) : Prop := (∀ a, a < 2 → size a = ((g a).length : Int) ∧ ∀ (t e : Nat), (g a)[t]? = some e → e < n ∧ group e = (a : Int) ∧ turn e = (t : Int)) ∧ (∀ e, e < n → ∃ a, a < 2 ∧ e ∈ g a) ∧ (g 0).length + (g 1).length = n
theorem Gm.of {T : TV} {kl : Nat → List Nat} {Q : List Nat} {nd : Nat → Nat} {L : List Nat} {g : Nat → List Nat} {w group turn size : Nat → Int} (G : Gp T kl Q nd L g [] w group turn size) : Gm L.length g group turn size := ⟨fun a ha => ⟨(G.2.2.2.2.1 a ha).1, (G.2.2.2.2.1 a ha).2.2⟩, fun e he => (G.2.2.2.1.2.2.2 e he).resolve_right (fun q => by cases q), by have := G.2.2.2.1.1; simpa using this⟩
theorem Gm.in_g {n : Nat} {g : Nat → List Nat} {group turn size : Nat → Int} (M : Gm n g group turn size) {a e : Nat} (ha : a < 2) (he : e ∈ g a) : group e = (a : Int) := by
  obtain ⟨t, h1, h2⟩ := List.getElem_of_mem he
  exact ((M.1 a ha).2 t e (by rw [List.getElem?_eq_getElem h1, h2])).2.1
theorem dv_sp {T : TV} {kl : Nat → List Nat} {Q A B : List Nat} {r x p : Nat} {s0 w fr group turn size old : Nat → Int} (J : Jn T kl Q r (up s0 2 (s0 2 + 1))) (hx : x ∈ Q) (h24 : 24 ≤ x) (e : pr (tLev T) kl r = A ++ (pr (tLev T) kl x ++ B)) (hp : A.length = p) (hst : stops (tLev T) (tLev T x) B) (hlen : (pr (tLev T) kl r).length + 1 ≤ 360) : ∃ w1, Sl T w1 (kl x) ∧ ∀ (w2 gr tu si : Nat → Int) (g : Nat → List Nat), f_Mo_groups (up s0 2 (s0 2 + 1)) w1 group turn size ((kl x).length : Int) = some (w2, gr, tu, si) → Gm (kl x).length g gr tu si → (prs (tLev T) kl ((g 0).map (nth (kl x)))).length + (prs (tLev T) kl ((g 1).map (nth (kl x)))).length = (prs (tLev T) kl (kl x)).length → ∃ (s' fr' old' : Nat → Int), f_Mo_divides s0 w fr group turn size old (p : Int) = (if 0 < (p : Int) then (bd1 (f_Mo_above s' (p : Int)) <| fun r_53 => some (r_53, s', w2, fr', gr, tu, si, old')) else (bd1 (f_Mo_opens s' 0 1) <| fun c_s_50 => some ((-5), (up c_s_50 (101) (sg (tLev T) x - 1)), w2, fr', gr, tu, si, old'))) ∧ Rw s' (A.map (sg (tLev T)) ++ ((sg (tLev T) x :: (prs (tLev T) kl ((g 0).map (nth (kl x)))).map (sg (tLev T))) ++ ((sg (tLev T) x :: (prs (tLev T) kl ((g 1).map (nth (kl x)))).map (sg (tLev T))) ++ B.map (sg (tLev T))))) ∧ ∀ j, j < 101 → j ≠ 4 → s' j = up s0 2 (s0 2 + 1) j := by
  generalize hs : up s0 2 (s0 2 + 1) = s at J ⊢
  have hlk := J.1.lk
  have h6 := (J.1.siz hx).2
  have hd : (pr (tLev T) kl r).drop p = pr (tLev T) kl x ++ B := by rw [e, ← hp]; exact drop_here A _
  have hdp := drop_pr hlk hx hd
  have hpx : (pr (tLev T) kl x).length = 1 + (prs (tLev T) kl (kl x)).length := by rw [pr_eq (Lk_at hlk hx)]; simp; omega
  have hlenP : (pr (tLev T) kl r).length = p + (pr (tLev T) kl x).length + B.length := by rw [e, List.length_append, List.length_append, hp]; omega
  have hend := end_pr J.2.2.1 hlk hx hd hst
  obtain ⟨w1, fr1, t1, t2, t3⟩ := dv_go (p := p) (e := p + (pr (tLev T) kl x).length) J hx hst (fun x3_14 x4_15 c_rect_16 c_from_17 => gd (0 ≤ x3_14 ∧ x3_14 < ((9 : Nat) : Int)) <| f_Mo_divides_L68 s (((p + (pr (tLev T) kl x).length : Nat) : Int)) (fun x4_26 c_old_27 => bd4 (f_Mo_groups s c_rect_16 group turn size x3_14) <| fun c_rect_28 c_group_29 c_turn_30 c_size_31 => bd1 (f_Mo_at s (p : Int)) <| fun r_34 => bd1 (f_Mo_opens s (((p + (pr (tLev T) kl x).length : Nat) : Int)) 1) <| fun c_s_37 => bd2 (f_Mo_lays c_s_37 (up c_from_17 ((x3_14).toNat) (((p + (pr (tLev T) kl x).length : Nat) : Int))) c_group_29 c_turn_30 c_size_31 c_old_27 0 x3_14 r_34 (p : Int)) <| fun r_40 c_s_41 => bd2 (f_Mo_lays c_s_41 (up c_from_17 ((x3_14).toNat) (((p + (pr (tLev T) kl x).length : Nat) : Int))) c_group_29 c_turn_30 c_size_31 c_old_27 1 x3_14 r_34 r_40) <| fun r_44 c_s_45 => gd (ck (p : Int)) <| if 0 < (p : Int) then (bd1 (f_Mo_above c_s_45 (p : Int)) <| fun r_53 => some (r_53, c_s_45, c_rect_28, (up c_from_17 ((x3_14).toNat) (((p + (pr (tLev T) kl x).length : Nat) : Int))), c_group_29, c_turn_30, c_size_31, c_old_27)) else (bd1 (f_Mo_opens c_s_45 0 1) <| fun c_s_50 => some ((-5), (up c_s_50 (101) (r_34 - 1)), c_rect_28, (up c_from_17 ((x3_14).toNat) (((p + (pr (tLev T) kl x).length : Nat) : Int))), c_group_29, c_turn_30, c_size_31, c_old_27))) FU (p : Int) old) (kl x) [] FU (p + 1) w fr rfl (by unfold FU; omega) hdp.2.1 (by rw [prs_nil]; rfl) (by omega) (by omega) (fun j y hj => by simp at hj) (fun j hj => by simp at hj)
  refine ⟨w1, t2, fun w2 gr tu si g hgr M htot => ?_⟩
  obtain ⟨old1, o1, o2, -⟩ := old_go (s := s) (p + (pr (tLev T) kl x).length) (by omega) (fun x4_26 c_old_27 => bd4 (f_Mo_groups s w1 group turn size ((kl x).length : Int)) <| fun c_rect_28 c_group_29 c_turn_30 c_size_31 => bd1 (f_Mo_at s (p : Int)) <| fun r_34 => bd1 (f_Mo_opens s (((p + (pr (tLev T) kl x).length : Nat) : Int)) 1) <| fun c_s_37 => bd2 (f_Mo_lays c_s_37 (up fr1 (((kl x).length : Int).toNat) (((p + (pr (tLev T) kl x).length : Nat) : Int))) c_group_29 c_turn_30 c_size_31 c_old_27 0 ((kl x).length : Int) r_34 (p : Int)) <| fun r_40 c_s_41 => bd2 (f_Mo_lays c_s_41 (up fr1 (((kl x).length : Int).toNat) (((p + (pr (tLev T) kl x).length : Nat) : Int))) c_group_29 c_turn_30 c_size_31 c_old_27 1 ((kl x).length : Int) r_34 r_40) <| fun r_44 c_s_45 => gd (ck (p : Int)) <| if 0 < (p : Int) then (bd1 (f_Mo_above c_s_45 (p : Int)) <| fun r_53 => some (r_53, c_s_45, c_rect_28, (up fr1 (((kl x).length : Int).toNat) (((p + (pr (tLev T) kl x).length : Nat) : Int))), c_group_29, c_turn_30, c_size_31, c_old_27)) else (bd1 (f_Mo_opens c_s_45 0 1) <| fun c_s_50 => some ((-5), (up c_s_50 (101) (r_34 - 1)), c_rect_28, (up fr1 (((kl x).length : Int).toNat) (((p + (pr (tLev T) kl x).length : Nat) : Int))), c_group_29, c_turn_30, c_size_31, c_old_27))) (pr (tLev T) kl x).length p FU old rfl (by unfold FU; omega)
  have hn : ((kl x).length : Int).toNat = (kl x).length := by omega
  -- the segments
  have S : Sgs (up fr1 (kl x).length (((p + (pr (tLev T) kl x).length : Nat) : Int))) old1 (kl x).length (sto (tLev T) kl (kl x) p) (fun f => (pr (tLev T) kl (nth (kl x) f)).map (sg (tLev T))) := by
    have hbd : ∀ j, (prs (tLev T) kl ((kl x).take j)).length ≤ (prs (tLev T) kl (kl x)).length := fun j => by
      have := congrArg List.length (prs_app (lv := tLev T) (kl := kl) ((kl x).take j) ((kl x).drop j))
      rw [List.take_append_drop, List.length_append] at this
      omega
    have hnx : ∀ f, f < (kl x).length → (kl x).take (f + 1) = (kl x).take f ++ [nth (kl x) f] := fun f hf => by
      rw [List.take_succ, nth_get hf]
      rfl
    refine ⟨by omega, fun f hf => ?_, fun f hf => ?_, fun f hf j v hj => ?_⟩
    · have := hbd f
      refine ⟨?_, by unfold sto; omega⟩
      by_cases hfn : f = (kl x).length
      · subst hfn
        unfold sto
        rw [up_s, List.take_length]
        omega
      · rw [up_o hfn]
        exact t3 f (by omega)
    · unfold sto
      rw [hnx f hf, prs_app, prs_cons, prs_nil, List.append_nil, List.length_append, List.length_map]
      omega
    · rw [List.getElem?_map] at hj
      obtain ⟨y, hy, rfl⟩ := Option.map_eq_some_iff.mp hj
      have hyl := (List.getElem?_eq_some_iff.mp hy).1
      have h1 := hbd (f + 1)
      rw [hnx f hf, prs_app, prs_cons, prs_nil, List.append_nil, List.length_append] at h1
      have e3 : kl x = (kl x).take f ++ (nth (kl x) f :: (kl x).drop (f + 1)) := by
        have := (List.take_append_drop (f + 1) (kl x)).symm
        rw [hnx f hf] at this
        simpa using this
      have e4 := congrArg (prs (tLev T) kl) e3
      rw [prs_app, prs_cons] at e4
      have hg : (pr (tLev T) kl r)[sto (tLev T) kl (kl x) p f + j]? = some y := by
        have h5 : ((pr (tLev T) kl r).drop (p + 1))[(prs (tLev T) kl ((kl x).take f)).length + j]? = some y := by
          rw [hdp.2.1, e4, List.append_assoc, List.getElem?_append_right (by omega), Nat.add_sub_cancel_left, List.append_assoc, List.getElem?_append_left hyl]
          exact hy
        rw [List.getElem?_drop] at h5
        unfold sto
        rw [Nat.add_assoc]
        exact h5
      rw [o2 _ (by unfold sto; omega) (by unfold sto; omega), ← Nat.add_assoc, Nat.add_assoc]
      exact J.2.2.1.2.2.1 _ _ hg
  have hgk : ∀ f, f < (kl x).length → ck (gr f) := fun f hf => by
    obtain ⟨a, ha, hfa⟩ := M.2.1 f hf
    have := M.in_g ha hfa
    exact ⟨by omega, by omega⟩
  have htk : ∀ a : Nat, a < 2 → ∀ f : Nat, f < (kl x).length → gr f = (a : Int) → f ∈ g a := fun a ha f hf hfa => by
    obtain ⟨b, hb, hfb⟩ := M.2.1 f hf
    have := M.in_g hb hfb
    have : a = b := by omega
    rw [this]
    exact hfb
  have hg2 := M.2.2
  -- one more place
  have hrow := row_rw J.2.2.1
  have hsplit : (pr (tLev T) kl r).map (sg (tLev T)) = (A.map (sg (tLev T)) ++ (pr (tLev T) kl x).map (sg (tLev T))) ++ B.map (sg (tLev T)) := by rw [e]; simp
  rw [hsplit] at hrow
  obtain ⟨s3, a1, a2, a3, a4, a5⟩ := opens_sp hrow 1 (by simp; omega)
  have hAl : (A.map (sg (tLev T)) ++ (pr (tLev T) kl x).map (sg (tLev T))).length = p + (pr (tLev T) kl x).length := by simp; omega
  rw [hAl] at a1 a2 a4
  have q0 := congrArg List.length (prs_map (lv := tLev T) (kl := kl) (L := kl x) (f := sg (tLev T)) (g 0))
  have q1 := congrArg List.length (prs_map (lv := tLev T) (kl := kl) (L := kl x) (f := sg (tLev T)) (g 1))
  rw [List.length_map] at q0 q1
  obtain ⟨s4, b1, b2, b3⟩ := lays_sp (s := s3) (a := 0) (g := g 0) (sign := sg (tLev T) x) (p := p) S hgk (htk 0 (by omega)) (by omega) (M.1 0 (by omega)).1 (by omega) (M.1 0 (by omega)).2 (by omega)
  obtain ⟨s5, c1, c2, c3⟩ := lays_sp (s := s4) (a := 1) (g := g 1) (sign := sg (tLev T) x) (p := p + 1 + ((g 0).flatMap (fun f => (pr (tLev T) kl (nth (kl x) f)).map (sg (tLev T)))).length) S hgk (htk 1 (by omega)) (by omega) (M.1 1 (by omega)).1 (by omega) (M.1 1 (by omega)).2 (by omega)
  rw [prs_map] at b1 b2 b3 c1 c2 c3
  rw [prs_map] at c1 c2 c3
  rw [List.length_map] at b1 b3 c1 c2 c3
  rw [List.length_map] at c1 c3
  have a1 : f_Mo_opens s (((p + (pr (tLev T) kl x).length : Nat) : Int)) 1 = some s3 := a1
  have b1 : f_Mo_lays s3 (up fr1 (kl x).length (((p + (pr (tLev T) kl x).length : Nat) : Int))) gr tu si old1 0 ((kl x).length : Int) (sg (tLev T) x) (p : Int) = _ := b1
  have c1 : f_Mo_lays s4 (up fr1 (kl x).length (((p + (pr (tLev T) kl x).length : Nat) : Int))) gr tu si old1 1 ((kl x).length : Int) (sg (tLev T) x) _ = _ := c1
  refine ⟨s5, up fr1 (kl x).length (((p + (pr (tLev T) kl x).length : Nat) : Int)), old1, ?_, ⟨?_, ?_, fun i v hv => ?_⟩, fun j h1 h2 => ?_⟩
  · unfold f_Mo_divides
    rw [hs, bd1_p hend, show (p : Int) + 1 = ((p + 1 : Nat) : Int) by omega]
    refine Eq.trans t1 ?_
    rw [gd_p ⟨by omega, by omega⟩]
    refine Eq.trans o1 ?_
    rw [bd4_p hgr, bd1_p (row_at J.2.2.1 hdp.1), bd1_p a1, hn, bd2_p b1, bd2_p c1, gd_p ⟨by omega, by omega⟩]
  · rw [c3 4 (by omega), b3 4 (by omega), a2]
    simp
    omega
  · simp
    omega
  · rcases app_get hv with h1 | ⟨j, rfl, h1⟩
    · have hl := (List.getElem?_eq_some_iff.mp h1).1
      rw [List.length_map] at hl
      rw [c3 _ (by omega), b3 _ (by omega)]
      refine a3 i v ?_
      rw [List.getElem?_append_left (by simp; omega)]
      exact h1
    · rw [List.length_map, hp]
      rcases app_get h1 with h2 | ⟨i, rfl, h2⟩
      · have hl := (List.getElem?_eq_some_iff.mp h2).1
        simp at hl
        rw [c3 _ (by omega), ← Nat.add_assoc]
        exact b2 j v h2
      · simp only [List.length_cons, List.length_map]
        rcases app_get h2 with h3 | ⟨j2, rfl, h3⟩
        · have := c2 i v h3
          rw [← this]
          refine congrArg s5 ?_
          omega
        · simp only [List.length_cons, List.length_map]
          have hl := (List.getElem?_eq_some_iff.mp h3).1
          rw [c3 _ (by omega), b3 _ (by omega)]
          have := a4 j2 v h3
          rw [← this]
          refine congrArg s3 ?_
          omega
  · rw [c3 j (by omega), b3 j (by omega), a5 j h1 h2]
