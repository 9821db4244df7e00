/-! a split's groups as a whole: the class's pool, seeds and groups beside the reference's groups -/
theorem up_comm {f : Nat → Int} {i j : Nat} {x y : Int} (h : i ≠ j) : up (up f i x) j y = up (up f j y) i x := by
  funext q
  unfold up
  by_cases h1 : q = j
  · rw [if_pos h1, if_neg (by omega), if_pos h1]
  · rw [if_neg h1, if_neg h1]
theorem PlR_del {pool pool' : Nat → Int} {L D E : List Nat} {e i m : Nat} (hp : PlR pool L (D ++ e :: E)) (hi : D.length = i) (hm : D.length + E.length = m) (h : ∀ j, pool' j = if i ≤ j ∧ j < m then pool (j + 1) else pool j) : PlR pool' L (D ++ E) := fun j f hj => by
  have hjl := (List.getElem?_eq_some_iff.mp hj).1
  rw [List.length_append] at hjl
  rcases del_get (y := e) hj with ⟨r1, r2⟩ | ⟨r1, r2⟩
  · have := hp j f r2
    exact ⟨this.1, by rw [h, if_neg (by omega)]; exact this.2⟩
  · have := hp (j + 1) f r2
    exact ⟨this.1, by rw [h, if_pos (by omega)]; exact this.2⟩
theorem fill_go {T : TV} {kl : Nat → List Nat} {Q : List Nat} {x : Nat} (h : Ar T kl Q) (hx : x ∈ Q) (k : Int → (Nat → Int) → Option ((Nat → Int) × Int)) : ∀ (d i n : Nat) (pool : Nat → Int), i + d = (kl x).length → d < n → ∃ pool', f_Ch_fillPool_L14 ((kl x).length : Int) T (x : Int) k n (i : Int) pool = k ((kl x).length : Int) pool' ∧ (∀ (j y : Nat), i ≤ j → (kl x)[j]? = some y → pool' j = (y : Int)) ∧ ∀ j, j < i → pool' j = pool j
  | 0, i, n + 1, pool, hi, hn => by
    have h6 := (h.siz hx).2
    refine ⟨pool, ?_, fun j y h1 h2 => ?_, fun _ _ => rfl⟩
    · rw [f_Ch_fillPool_L14, gd_p ⟨by omega, by omega⟩, gd_p ⟨by omega, by omega⟩, if_neg (by omega), show (i : Int) = ((kl x).length : Int) by omega]
    · have := (List.getElem?_eq_some_iff.mp h2).1
      omega
  | d + 1, i, n + 1, pool, hi, hn => by
    have h6 := (h.siz hx).2
    have hil : i < (kl x).length := by omega
    have hj := List.getElem?_eq_getElem hil
    obtain ⟨pool', e1, e2, e3⟩ := fill_go h hx k d (i + 1) n (up pool i (((kl x)[i] : Nat) : Int)) (by omega) (by omega)
    refine ⟨pool', ?_, fun j y h1 h2 => ?_, fun j hj => by rw [e3 j (by omega), up_o (by omega)]⟩
    · rw [f_Ch_fillPool_L14, gd_p ⟨by omega, by omega⟩, gd_p ⟨by omega, by omega⟩, if_pos (by omega), bd1_p (h.ent hx hj), bd1_p (put_sp (n := 6) (f := pool) (by omega) (by omega)), show (i : Int) + 1 = ((i + 1 : Nat) : Int) by omega]
      exact e1
    · by_cases hji : j = i
      · subst hji
        rw [e3 _ (by omega), up_s]
        rw [hj] at h2
        rw [Option.some.inj h2]
      · exact e2 j y (by omega) h2
theorem fill_sp {T : TV} {kl : Nat → List Nat} {Q : List Nat} {x : Nat} {pool : Nat → Int} (h : Ar T kl Q) (hx : x ∈ Q) : ∃ pool', f_Ch_fillPool pool T (x : Int) = some (pool', ((kl x).length : Int)) ∧ ∀ (j y : Nat), (kl x)[j]? = some y → pool' j = (y : Int) := by
  have h6 := (h.siz hx)
  obtain ⟨pool', e1, e2, -⟩ := fill_go h hx (fun x2_13 c_pool_14 => some (c_pool_14, ((kl x).length : Int))) (kl x).length 0 FU pool (by omega) (by unfold FU; omega)
  refine ⟨pool', ?_, fun j y hj => e2 j y (Nat.zero_le _) hj⟩
  unfold f_Ch_fillPool
  rw [bd1_p (t_siz h.le (h.lt hx)), h6.1]
  exact e1
/-- the list of a node made empty: its entries stay in use, in no list -/
theorem Ar.empty {T : TV} {kl : Nat → List Nat} {Q : List Nat} (h : Ar T kl Q) {x : Nat} (hx : x ∈ Q) : f_Tr_makeListEmpty T (x : Int) = some (sSiz T (up (tSiz T) x 0)) ∧ Ar (sSiz T (up (tSiz T) x 0)) (upL kl x []) Q := by
  have hR := h.le
  refine ⟨?_, h.1, h.2.1, h.2.2.1, h.2.2.2.1, fun z hz => ?_⟩
  · unfold f_Tr_makeListEmpty
    rw [bd1_p (put_sp (n := tR T) (f := tSiz T) (by omega) (h.lt hx))]
  · have hi := h.2.2.2.2 z hz
    by_cases hzx : z = x
    · subst hzx
      refine ⟨hi.1, fun _ => upL_s, ?_, fun j y hj => ?_, fun y hy => ?_, hi.2.2.2.2.2⟩
      · rw [upL_s]
        exact ⟨up_s, by simp, List.nodup_nil⟩
      · rw [upL_s] at hj
        simp at hj
      · rw [upL_s] at hy
        cases hy
    · refine ⟨hi.1, fun q => by rw [upL_o hzx]; exact hi.2.1 q, ?_, fun j y hj => ?_, fun y hy => ?_, hi.2.2.2.2.2⟩
      · rw [upL_o hzx]
        exact ⟨by show up _ _ _ _ = _; rw [up_o hzx]; exact hi.2.2.1.1, hi.2.2.1.2⟩
      · rw [upL_o hzx] at hj
        exact hi.2.2.2.1 j y hj
      · rw [upL_o hzx] at hy
        exact hi.2.2.2.2.1 y hy
def nd2 (x z : Nat) : Nat → Nat := fun a => if a = 0 then x else z
theorem gp0 {T : TV} {kl : Nat → List Nat} {Q : List Nat} {x z : Nat} {w group turn size : Nat → Int} (h : Ar T kl Q) (hC : ∀ v ∈ Q, Cr (tCor T) kl v) (hx : x ∈ Q) (hz : z ∈ Q) (h24 : 24 ≤ x) (hz24 : 24 ≤ z) (hxz : x ≠ z) (hz0 : kl z = []) (hlv : tLev T z = tLev T x) (hw : Sl T w (kl x)) (hg : ∀ e, e < (kl x).length → group e = -5) (hs : size 0 = 0 ∧ size 1 = 0) : Gp (sSiz T (up (tSiz T) x 0)) (upL kl x []) Q (nd2 x z) (kl x) (fun _ => []) (List.range (kl x).length) w group turn size := by
  have hi := h.2.2.2.2 x hx
  refine ⟨⟨(h.empty hx).2, fun v hv q1 q2 t ht => ?_⟩, ⟨hxz, fun a ha => ?_⟩, ⟨hi.2.2.1.2.2, hi.2.2.1.2.1, fun y hy => (h.kid hx hy).1, fun v hv v0 v1 y hy hyv => ?_⟩, ⟨by simp, List.pairwise_lt_range, fun e he => List.mem_range.mp he, fun e he => Or.inr (List.mem_range.mpr he)⟩, fun a ha => ⟨?_, fun q => absurd rfl q, fun t e he => by simp at he⟩, fun e he => hg e (List.mem_range.mp he), hw⟩
  · by_cases hvx : v = x
    · subst hvx
      rw [upL_s] at q2
      exact absurd rfl q2
    · rw [upL_o hvx] at q2 ⊢
      exact hC v hv q1 q2 t ht
  · rcases (show a = 0 ∨ a = 1 by omega) with rfl | rfl
    · exact ⟨hx, h24, upL_s, fun y hy => (h.kid hx hy).2.2⟩
    · exact ⟨hz, hz24, (upL_o (show z ≠ x from fun q => hxz q.symm)).trans hz0, fun y hy => by
        have := (h.kid hx hy).2.2
        show tLev T y = tLev T z - 1
        omega⟩
  · rw [upL_o (show v ≠ x from v0)] at hyv
    exact v0 (h.one hv hx hyv hy)
  · rcases (show a = 0 ∨ a = 1 by omega) with rfl | rfl
    · exact hs.1
    · exact hs.2
/-- the first entry of a group -/
theorem join_new {w group turn size : Nat → Int} {e a : Nat} (he : e < 8) (ha : a < 2) (re : rg w e) (hs : size a = 0) : ∃ w', f_Mo_joins w group turn size (e : Int) (a : Int) = some (w', up group e (a : Int), up turn e 0, up size a 1) ∧ (∀ t, t < 4 → w' (4 * (8 + a) + t) = w (4 * e + t)) ∧ oth (8 + a) w w' := by
  obtain ⟨w', f1, f2, f3⟩ := m_unites (c := w) (a := e) (b := e) (i := 8 + a) (by omega) (by omega) (by omega) re re
  refine ⟨w', ?_, fun t ht => by rw [f2 t ht, mm_self], f3⟩
  unfold f_Mo_joins
  rw [gd_p ⟨by omega, by omega⟩, gd_p ⟨by omega, by omega⟩, show ((a : Int)).toNat = a by omega, hs, gd_p ⟨by omega, by omega⟩, if_pos rfl, show (8 : Int) + (a : Int) = ((8 + a : Nat) : Int) by omega, bd1_p f1, show ((e : Int)).toNat = e by omega]
  rfl
/-- the two first entries may come in either order -/
theorem join_swap {w group turn size w1 g1 t1 s1 w2 g2 t2 s2 : Nat → Int} {i j : Nat} (hi : i < 8) (hj : j < 8) (hij : i ≠ j) (ri : rg w i) (rj : rg w j) (hs : size 0 = 0 ∧ size 1 = 0) (h1 : f_Mo_joins w group turn size (j : Int) 1 = some (w1, g1, t1, s1)) (h2 : f_Mo_joins w1 g1 t1 s1 (i : Int) 0 = some (w2, g2, t2, s2)) : ∃ wa ga ta sa, f_Mo_joins w group turn size (i : Int) 0 = some (wa, ga, ta, sa) ∧ f_Mo_joins wa ga ta sa (j : Int) 1 = some (w2, g2, t2, s2) := by
  obtain ⟨v1, a1, a2, a3⟩ := join_new (group := group) (turn := turn) (size := size) (a := 1) hj (by omega) rj hs.2
  have a1 : f_Mo_joins w group turn size (j : Int) 1 = some (v1, up group j 1, up turn j 0, up size 1 1) := a1
  rw [h1] at a1
  obtain ⟨rfl, rfl, rfl, rfl⟩ : w1 = v1 ∧ g1 = up group j 1 ∧ t1 = up turn j 0 ∧ s1 = up size 1 1 := by simpa using a1
  obtain ⟨v2, b1, b2, b3⟩ := join_new (group := up group j 1) (turn := up turn j 0) (size := up size 1 1) (w := w1) (a := 0) hi (by omega) (fun t ht => by rw [a3.eq (by omega) ht]; exact ri t ht) (by rw [up_o (by omega)]; exact hs.1)
  have b1 : f_Mo_joins w1 (up group j 1) (up turn j 0) (up size 1 1) (i : Int) 0 = some (v2, up (up group j 1) i 0, up (up turn j 0) i 0, up (up size 1 1) 0 1) := b1
  rw [h2] at b1
  obtain ⟨rfl, rfl, rfl, rfl⟩ : w2 = v2 ∧ g2 = up (up group j 1) i 0 ∧ t2 = up (up turn j 0) i 0 ∧ s2 = up (up size 1 1) 0 1 := by simpa using b1
  obtain ⟨wa, c1, c2, c3⟩ := join_new (group := group) (turn := turn) (size := size) (w := w) (a := 0) hi (by omega) ri hs.1
  obtain ⟨wb, d1, d2, d3⟩ := join_new (group := up group i 0) (turn := up turn i 0) (size := up size 0 1) (w := wa) (a := 1) hj (by omega) (fun t ht => by rw [c3.eq (by omega) ht]; exact rj t ht) (by rw [up_o (by omega)]; exact hs.2)
  refine ⟨wa, _, _, _, c1, ?_⟩
  have d1 : f_Mo_joins wa (up group i 0) (up turn i 0) (up size 0 1) (j : Int) 1 = some (wb, up (up group i 0) j 1, up (up turn i 0) j 0, up (up size 0 1) 1 1) := d1
  refine d1.trans ?_
  rw [up_comm (f := group) (i := i) (j := j) hij, up_comm (f := turn) (i := i) (j := j) hij, up_comm (f := size) (i := 0) (j := 1) (by omega)]
  have : wb = w2 := by
    funext q
    by_cases q1 : 36 ≤ q ∧ q < 40
    · obtain ⟨t, ht, rfl⟩ : ∃ t, t < 4 ∧ q = 4 * (8 + 1) + t := ⟨q - 36, by omega, by omega⟩
      rw [d2 t ht, b3 _ (by omega), a2 t ht, c3 _ (by omega)]
    · by_cases q0 : 32 ≤ q ∧ q < 36
      · obtain ⟨t, ht, rfl⟩ : ∃ t, t < 4 ∧ q = 4 * (8 + 0) + t := ⟨q - 32, by omega, by omega⟩
        rw [d3 _ (by omega), c2 t ht, b2 t ht, a3 _ (by omega)]
      · rw [d3 _ (by omega), c3 _ (by omega), b3 _ (by omega), a3 _ (by omega)]
  rw [this]
theorem gset_go (n : Nat) (hn8 : n ≤ 8) (k : Int → (Nat → Int) → Option ((Nat → Int) × (Nat → Int) × (Nat → Int) × (Nat → Int))) : ∀ (d i m : Nat) (group : Nat → Int), i + d = n → d < m → (∀ e, e < i → group e = -5) → ∃ group', f_Mo_groups_L2 (n : Int) k m (i : Int) group = k (n : Int) group' ∧ ∀ e, e < n → group' e = -5
  | 0, i, m + 1, group, hi, hm, hg => by
    refine ⟨group, ?_, fun e he => hg e (by omega)⟩
    rw [f_Mo_groups_L2, gd_p ⟨by omega, by omega⟩, gd_p ⟨by omega, by omega⟩, if_neg (by omega), show (i : Int) = (n : Int) by omega]
  | d + 1, i, m + 1, group, hi, hm, hg => by
    obtain ⟨group', e1, e2⟩ := gset_go n hn8 k d (i + 1) m (up group i (-5)) (by omega) (by omega) (fun e he => by
      by_cases hei : e = i
      · rw [hei]; exact up_s
      · rw [up_o hei]; exact hg e (by omega))
    refine ⟨group', ?_, e2⟩
    rw [f_Mo_groups_L2, gd_p ⟨by omega, by omega⟩, gd_p ⟨by omega, by omega⟩, if_pos (by omega), gd_p ⟨by omega, by omega⟩, show ((i : Int)).toNat = i by omega, show (i : Int) + 1 = ((i + 1 : Nat) : Int) by omega]
    exact e1
/-- the whole of it -/
theorem core_sp {T : TV} {kl : Nat → List Nat} {Q : List Nat} {x z : Nat} {pool s w group turn size : Nat → Int} (h : Ar T kl Q) (hC : ∀ v ∈ Q, Cr (tCor T) kl v) (hx : x ∈ Q) (hz : z ∈ Q) (h24 : 24 ≤ x) (hz24 : 24 ≤ z) (hxz : x ≠ z) (hz0 : kl z = []) (hlv : tLev T z = tLev T x) (h2 : 2 ≤ (kl x).length) (hcap : 3 ≤ tCap T ∧ tCap T ≤ 5) (hs : s 0 = tCap T) (hw : Sl T w (kl x)) (kC : Int → (Nat → Int) → Int → TV → Option (Int × (Nat → Int) × Int × TV)) : ∃ (st' : Int) (pool' : Nat → Int) (T' : TV) (kl' g' : Nat → List Nat) (w' group' turn' size' : Nat → Int), (bd2 (f_Ch_fillPool pool T (x : Int)) <| fun c_pool_19 c_left_20 => bd1 (f_Ch_findSeeds c_pool_19 c_left_20 T) <| fun r_23 => bd1 (f_Tr_makeListEmpty T (x : Int)) <| fun T_26 => gd (((0 : Int) ≤ r_23 ∧ r_23 ≤ 2147483647) ∧ (0 : Int) < 6 ∧ (6 : Int) ≤ 2147483647) <| bd3 (f_Ch_giveTo c_pool_19 c_left_20 T_26 (z : Int) (r_23 % 6)) <| fun c_pool_31 c_left_32 T_33 => gd (((0 : Int) ≤ r_23 ∧ r_23 ≤ 2147483647) ∧ (0 : Int) < 6 ∧ (6 : Int) ≤ 2147483647) <| bd3 (f_Ch_giveTo c_pool_31 c_left_32 T_33 (x : Int) (r_23 / 6)) <| fun c_pool_38 c_left_39 T_40 => f_Ch_splitNode_L113 (x : Int) (z : Int) kC FU 0 c_pool_38 c_left_39 T_40) = kC st' pool' 0 T' ∧ f_Mo_groups s w group turn size ((kl x).length : Int) = some (w', group', turn', size') ∧ Gp T' kl' Q (nd2 x z) (kl x) g' [] w' group' turn' size' ∧ g' 0 ≠ [] ∧ g' 1 ≠ [] ∧ Sm T T' ∧ (∀ v, v ∉ kl x → tHol T' v = tHol T v) ∧ (∀ v t, t < 4 → (v < 24 ∨ tLev T v < tLev T x) → tCor T' (4 * v + t) = tCor T (4 * v + t)) ∧ ∀ v, v ≠ x → v ≠ z → kl' v = kl v := by
  have hle := h.le
  have h6 := (h.siz hx).2
  obtain ⟨pool1, p1, p2⟩ := fill_sp (pool := pool) h hx
  have hPl : Pl T pool1 (kl x) := ⟨h6, fun j y hj => ⟨p2 j y hj, h.lt (h.kid hx (List.mem_of_getElem? hj)).1, h.rgx (h.kid hx (List.mem_of_getElem? hj)).1⟩⟩
  obtain ⟨group1, g1, g2⟩ := gset_go (kl x).length (by omega) (fun x2_5 c_group_6 => bd4 (f_Mo_farthest w c_group_6 turn size ((kl x).length : Int)) <| fun c_rect_7 c_group_8 c_turn_9 c_size_10 => gd (((0 : Int) ≤ (s 0) ∧ (s 0) ≤ 2147483647) ∧ (0 : Int) < 2 ∧ (2 : Int) ≤ 2147483647) <| f_Mo_groups_L39 ((kl x).length : Int) (((s 0) / 2)) (fun x3_61 c_rect_62 c_group_63 c_turn_64 c_size_65 => some (c_rect_62, c_group_63, c_turn_64, c_size_65)) FU (((kl x).length : Int) - 2) (c_rect_7) (c_group_8) (c_turn_9) (c_size_10)) (kl x).length 0 FU group (by omega) (by unfold FU; omega) (fun e he => absurd he (by omega))
  obtain ⟨b, gg, one, other, zz, w1, s1, s2, s3, s4, s5⟩ := seeds_out hle hPl (fun x1_30 x2_31 x3_32 => some (x1_30)) (fun x2_30 x3_31 x4_32 x5_33 x6_34 c_rect_35 => bd4 (f_Mo_joins c_rect_35 group1 turn (up (up size (0) 0) (1) 0) x2_30 0) <| fun c_rect_36 c_group_37 c_turn_38 c_size_39 => bd4 (f_Mo_joins c_rect_36 c_group_37 c_turn_38 c_size_39 x3_31 1) <| fun c_rect_42 c_group_43 c_turn_44 c_size_45 => some (c_rect_42, c_group_43, c_turn_44, c_size_45)) (kl x).length 0 FU FU (-1) 0 0 1 1 w (by omega) (by unfold FU; omega) (by unfold FU; omega) (Or.inl ⟨rfl, rfl, rfl, rfl⟩) (fun _ => rfl) ⟨by omega, by omega⟩ hw
  rcases s3 with ⟨q1, -⟩ | ⟨i, j, hij, hjl, hb, -, ho, hot⟩
  · exact absurd (s5 q1).2 (by omega)
  have hG := gp0 (turn := turn) (size := up (up size 0 0) 1 0) h hC hx hz h24 hz24 hxz hz0 hlv s4 g2 ⟨by rw [up_o (by omega)]; exact up_s, up_s⟩
  have hem := h.empty hx
  -- the second seed to the twin
  obtain ⟨D, E, hDE, hDl⟩ := split_at (show (List.range (kl x).length)[j]? = some j by rw [List.getElem?_range hjl])
  have hp1 : PlR pool1 (kl x) (List.range (kl x).length) := fun q e hq => by
    have hql := (List.getElem?_eq_some_iff.mp hq).1
    rw [List.length_range] at hql
    rw [List.getElem?_range hql] at hq
    have := Option.some.inj hq
    subst this
    exact ⟨hql, p2 q _ (nth_get hql)⟩
  have hlen := congrArg List.length hDE
  rw [List.length_range, List.length_append, List.length_cons] at hlen
  have hpj := (hp1 j j (List.getElem?_range hjl)).2
  rw [hDE] at hG hp1
  obtain ⟨T2, w2, gr2, tu2, si2, j1, j2, j3, j4⟩ := join_sp hG (show 1 < 2 by omega)
  have j1 : f_Tr_addAt (sSiz T (up (tSiz T) x 0)) (z : Int) (tSiz (sSiz T (up (tSiz T) x 0)) z) (nth (kl x) j : Int) = some T2 := j1
  have hlt := h.lt hx
  have hlz := h.lt hz
  obtain ⟨pool2, o1, o2⟩ := giveTo_sp (m := (kl x).length - 1) (i := j) (T := sSiz T (up (tSiz T) x 0)) hle hlz (by omega) (by omega) hpj j1
  have hp2 := PlR_del hp1 hDl (m := (kl x).length - 1) (by omega) o2
  -- the first seed to the node
  have hDi : (D ++ E)[i]? = some i := by
    have h3 : (List.range (kl x).length)[i]? = some i := List.getElem?_range (by omega)
    rw [hDE, List.getElem?_append_left (by omega)] at h3
    rw [List.getElem?_append_left (by omega)]
    exact h3
  obtain ⟨D2, E2, hDE2, hDl2⟩ := split_at hDi
  have hlen2 := congrArg List.length hDE2
  rw [List.length_append, List.length_append, List.length_cons] at hlen2
  have hpi := (hp2 i i hDi).2
  rw [hDE2] at j4 hp2
  obtain ⟨T3, w3, gr3, tu3, si3, k1, k2, k3, k4⟩ := join_sp j4 (show 0 < 2 by omega)
  have k1 : f_Tr_addAt T2 (x : Int) (tSiz T2 x) (nth (kl x) i : Int) = some T3 := k1
  have hle2 : tR T2 ≤ 8192 := by rw [j3.1.2.1]; exact hle
  obtain ⟨pool3, o3, o4⟩ := giveTo_sp (m := (kl x).length - 2) (i := i) (T := T2) hle2 (by rw [j3.1.2.1]; exact hlt) (by omega) (by omega) hpi k1
  have hp3 := PlR_del hp2 hDl2 (m := (kl x).length - 2) (by omega) o4
  have hre := fun e (he : e < (kl x).length) => rg_eqb (s4 e _ (nth_get he)) (h.rgx (h.kid hx (nth_mem he)).1)
  have j2 : f_Mo_joins w1 group1 turn (up (up size 0 0) 1 0) (j : Int) 1 = some (w2, gr2, tu2, si2) := j2
  have k2 : f_Mo_joins w2 gr2 tu2 si2 (i : Int) 0 = some (w3, gr3, tu3, si3) := k2
  obtain ⟨wa, ga, ta, sa, u1, u2⟩ := join_swap (by omega) (by omega) (by omega) (hre i (by omega)) (hre j hjl) ⟨by rw [up_o (by omega)]; exact up_s, up_s⟩ j2 k2
  have hcap3 : tCap T3 = tCap T := by rw [k3.1.2.2.2.1, j3.1.2.2.2.1]
  obtain ⟨st', pool', T', kl', g', w', group', turn', size', i1, i2, i3, i4, i5, i6, i7⟩ := spl_go kC (fun x3_61 c_rect_62 c_group_63 c_turn_64 c_size_65 => some (c_rect_62, c_group_63, c_turn_64, c_size_65)) ((kl x).length - 2) FU FU 0 T3 _ _ _ pool3 w3 gr3 tu3 si3 k4 hp3 (by rw [List.length_append]; omega) (by rw [upL_s]; simp) (by rw [upL_o (by omega), upL_s]; simp) (by rw [hcap3]; exact hcap) (by unfold FU; omega) (by unfold FU; omega) (by omega)
  have hl3 := k3.1.1.trans j3.1.1
  rw [hl3] at i6
  rw [j3.1.1] at k3
  have hKe := j3.tr (k3.tr i6)
  refine ⟨st', pool', T', kl', g', w', group', turn', size', ?_, ?_, i3, i4, i5, hKe.1, hKe.2.1, hKe.2.2, fun v v0 v1 => ?_⟩
  · have hfs : f_Ch_findSeeds pool1 ((kl x).length : Int) T = some ((i * 6 + j : Nat) : Int) := by
      unfold f_Ch_findSeeds
      rw [← hb]
      exact s1
    have d1 : ((i * 6 + j : Nat) : Int) % 6 = (j : Int) := by omega
    have d2 : ((i * 6 + j : Nat) : Int) / 6 = (i : Int) := by omega
    rw [show ((kl x).length - 1 + 1 : Nat) = (kl x).length by omega] at o1
    rw [show ((kl x).length - 2 + 1 : Nat) = (kl x).length - 1 by omega] at o3
    rw [bd2_p p1, bd1_p hfs, bd1_p hem.1, gd_p ⟨⟨by omega, by omega⟩, by omega, by omega⟩, d1, bd3_p o1, gd_p ⟨⟨by omega, by omega⟩, by omega, by omega⟩, d2, bd3_p o3]
    exact i1
  · have hfa : f_Mo_farthest w group1 turn size ((kl x).length : Int) = some (w3, gr3, tu3, si3) := by
      unfold f_Mo_farthest
      refine Eq.trans s2 ?_
      rw [ho, hot, bd4_p u1, bd4_p u2]
    unfold f_Mo_groups
    refine Eq.trans g1 ?_
    rw [bd4_p hfa, hs, gd_p ⟨⟨by omega, by omega⟩, by omega, by omega⟩, show ((kl x).length : Int) - 2 = (((kl x).length - 2 : Nat) : Int) by omega, ← hcap3]
    exact i2
  · rw [i7 v v0 v1]
    show upL _ x _ v = _
    rw [upL_o v0]
    show upL _ z _ v = _
    rw [upL_o v1, upL_o v0]
