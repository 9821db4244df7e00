/-! a removal as a whole -/
theorem plc_go {s lv : Nat → Int} {P A B : List Nat} {b : Nat} (h : Row s lv P) (hb : b < 24) (e : P = A ++ b :: B) (hn : b ∉ A) (k : Int → Option Int) : ∀ (d i n : Nat), i + d = A.length → d < n → f_Mo_placeOf_L2 s (b : Int) k n (i : Int) = k (A.length : Int)
  | 0, i, n + 1, hi, hn1 => by
    have hi : i = A.length := by omega
    subst hi
    have hg : P[A.length]? = some b := by rw [e]; exact mid_get
    have hsg : sg lv b = (b : Int) := by unfold sg; rw [if_pos hb]
    rw [f_Mo_placeOf_L2, bd1_p (row_at h hg), hsg, gd_p ⟨by omega, by omega⟩, gd_p ⟨by omega, by omega⟩, if_pos rfl]
  | d + 1, i, n + 1, hi, hn1 => by
    have hil : i < A.length := by omega
    have hg : P[i]? = some A[i] := by rw [e, List.getElem?_append_left hil, List.getElem?_eq_getElem hil]
    have hne : A[i] ≠ b := fun q => hn (q ▸ List.getElem_mem hil)
    have hok := okI_ck (row_ok h hg)
    have hsg : sg lv A[i] ≠ (b : Int) := fun q => by
      unfold sg at q
      have h2 := row_ok h hg
      by_cases h3 : A[i] < 24
      · rw [if_pos h3] at q
        omega
      · rw [if_neg h3] at q
        have := h2.2.1 (by omega)
        omega
    rw [f_Mo_placeOf_L2, bd1_p (row_at h hg), gd_p hok.1, gd_p ⟨by omega, by omega⟩, if_neg hsg, show (i : Int) + 1 = ((i + 1 : Nat) : Int) by omega]
    exact plc_go h hb e hn k d (i + 1) n (by omega) (by omega)
theorem plc_sp {s lv : Nat → Int} {P A B : List Nat} {b : Nat} (h : Row s lv P) (hb : b < 24) (e : P = A ++ b :: B) (hn : b ∉ A) : f_Mo_placeOf s (b : Int) = some (A.length : Int) := by
  have hl := h.2.1
  have := congrArg List.length e
  rw [List.length_append] at this
  unfold f_Mo_placeOf
  exact plc_go h hb e hn (fun x2_7 => some (x2_7)) A.length 0 FU (by omega) (by unfold FU; omega)
theorem rem_st {T : TV} {kl : Nat → List Nat} {Q : List Nat} {r b : Nat} {s kept pool w it tr fr gr tu si old aside begin level past past' : Nat → Int} {left items il asides pasts pasts' : Int} {cc : Int64} {LB LN : KV} (O : St T kl Q r s) (hb : b ∈ Q) (hb24 : b < 24) (hLB : KR LB) (hLN : KR LN) (hrec : f_Mo_records s past pasts = some (past', pasts')) : ∃ (T1 T' : TV) (kl' : Nat → List Nat) (Q' : List Nat) (r' : Nat) (kc' left' items' il' asides' : Int) (cc' : Int64) (LB' LN' : KV) (s' kept' pool' w' it' tr' fr' gr' tu' si' old' aside' begin' level' : Nat → Int), f_Ch_takeOutBox kept T (b : Int) = some (kept', kc', T1) ∧ f_Ch_putBackKept kept' kc' pool left cc T1 LB LN = some (pool', left', cc', T', LB', LN') ∧ f_Mo_remove s past pasts w it items il tr fr gr tu si old aside begin level asides (b : Int) = some ((nbx Q' 24 : Int), s', past', pasts', w', it', items', il', tr', fr', gr', tu', si', old', aside', begin', level', asides') ∧ St T' kl' Q' r' s' ∧ KR LB' ∧ KR LN' := by
  have J := O.1.1.1
  have h := J.1
  have hlk := h.lk
  have hr := J.2.1.1
  have hhr := J.2.1.2.2.2
  have hr24 := J.2.1.2.1
  have hrl := h.lt hr
  have hR := h.1
  have hle := h.le
  have hbr : b ≠ r := fun q => by omega
  have hbp := O.2.1 b hb
  have hlb := (h.lev24 hb).mp hb24
  have hprb : pr (tLev T) kl b = [b] := by
    rw [pr_eq (Lk_at hlk hb), (h.2.2.2.2 b hb).2.1 hb24]
    rfl
  obtain ⟨A, B, c1, c2, -, -⟩ := ctx hlk b r hr hbp
  have hst := c2 [] stops_nil
  rw [List.append_nil] at hst
  have hN := pr_nodup h r hr
  have hatb : At T kl r b A.length := ⟨B, by rw [c1]; exact drop_here A _, hst⟩
  have c1' : pr (tLev T) kl r = A ++ b :: B := by rw [c1, hprb]; rfl
  have hbA : b ∉ A := fun q => by
    rw [c1'] at hN
    exact (List.nodup_append.mp hN).2.2 b q b (by simp) rfl
  have hplc := plc_sp J.2.2.1 hb24 c1' hbA
  obtain ⟨x, p', q1, q2, q3, q4, q5, -⟩ := above_sp h hr J.2.2.1 hb hbr hbp hatb
  have hxk := h.kid q1 q3
  have hx24 := h.node q1 q3
  have hlx : tLev T x = 0 := by omega
  obtain ⟨D, E, hk⟩ := List.append_of_mem q3
  obtain ⟨T1, s1, a1, a2, a3, a4, a5, a6, a7, a8, a9, a10, a11, a12⟩ := out_sp h hr J.2.2.1 (fun v hv _ => J.2.2.2.1 v hv) q1 q2 hk hatb
  have hL1 : tLev T1 = tLev T := a5.1
  rw [hprb] at a2 a10 a11
  rw [hL1] at a8 a10 a11
  have hat1 : At T1 (upL kl x (D ++ E)) r x p' := at_keep h hr q1 q2 q5 (fun v hv => upL_o hv) hL1
  have hxb : x ≠ b := fun q => by omega
  have hfree := a3.free hb (fun y hy q => by
    rcases (a3.2.2.2.2 y hy).2.2.2.2.2 with e | ⟨z, z1, z2, z3, z4⟩
    · omega
    · omega) (fun z hz => a3.loose (by rw [a6]; exact up_s) z hz)
  have hm : ∀ v, v ∈ Q.erase b ↔ v ∈ Q ∧ v ≠ b := fun v => by rw [h.2.1.mem_erase_iff]; exact And.comm
  generalize hkl1 : upL kl x (D ++ E) = kl1 at a3 a4 a8 a10 a11 hat1 hfree
  have hkl1x : kl1 x = D ++ E := by rw [← hkl1]; exact upL_s
  have hkl1o : ∀ v, v ≠ x → kl1 v = kl v := fun v hv => by rw [← hkl1]; exact upL_o hv
  have hlenk := congrArg List.length hk
  rw [List.length_append, List.length_cons] at hlenk
  have hbp1 : b ∉ pr (tLev T) kl1 r := fun q => a11 b q (by simp)
  have hl2 : ∀ v, v ≠ b → tLev (tk T1 b (-2)) v = tLev T v := fun v hv => (up_o hv).trans (by rw [hL1])
  have hlk1 := a3.lk
  rw [hL1] at hlk1
  have hpr2 : ∀ t ∈ Q, b ∉ pr (tLev T) kl1 t → pr (tLev (tk T1 b (-2))) kl1 t = pr (tLev T) kl1 t := fun t ht hn => pr_same hlk1 t ht (fun z hz => ⟨rfl, hl2 z (fun q => hn (q ▸ hz))⟩)
  have hprr := hpr2 r hr hbp1
  have hx1 : x ∈ pr (tLev T) kl1 r := by
    rcases (a10 x).mp q2 with q | q
    · exact q
    · exact absurd (List.mem_singleton.mp q) hxb
  have hxQ := (hm x).mpr ⟨q1, hxb⟩
  have hrQ := (hm r).mpr ⟨hr, fun q => hbr q.symm⟩
  have hlr2 := hl2 r (fun q => hbr q.symm)
  have hB := O.1.1.2.2.1
  have hlrb := hB.rl
  have W : TW (tk T1 b (-2)) kl1 (Q.erase b) r (up s1 (5 + 4 * b) (-1)) x [] := by
    refine ⟨⟨hfree.2, ⟨hrQ, hr24, a5.2.2.1.trans J.2.1.2.2.1, ?_⟩, ?_, fun v hv => a4 v ((hm v).mp hv).1, fun c hc hc24 t ht => ?_⟩, ⟨hxQ, hx24, by rw [hprr]; exact hx1⟩, fun v hv hv24 hve => ?_, fun v hv => ?_, ?_, ?_, ⟨?_, ?_, ?_, ?_⟩, fun c hc => ?_, ?_, ⟨List.nodup_nil, (fun y hy => by cases hy), fun v hv => ?_⟩, ?_, ?_⟩
    · show up (tHol T1) b (-1) r = -1
      rw [up_o (fun q => hbr q.symm), a6, up_o (fun q => hbr q.symm)]
      exact hhr
    · rw [hprr]
      exact (a8.lev (fun v hv => hl2 v (fun q => hbp1 (q ▸ hv)))).up (by omega) (by omega)
    · have hc2 := (hm c).mp hc
      show up s1 (5 + 4 * b) (-1) (5 + (4 * c + t)) = tCor T1 (4 * c + t)
      rw [up_o (by omega), a7 c t ht (Or.inl hc24), a9 _ (by omega) (by omega)]
      exact J.2.2.2.2.1 c hc2.1 hc24 t ht
    · have hv2 := (hm v).mp hv
      by_cases hvx : v = x
      · exact Or.inl hvx
      · rw [hkl1o v hvx] at hve
        have := J.2.2.2.2.2 v hv2.1 hv24 hve
        exact Or.inr ⟨this.1, by rw [hlr2]; omega⟩
    · by_cases hvx : v = x
      · subst hvx
        have := O.1.2.1 v q1
        rw [hkl1x, List.length_append]
        omega
      · rw [hkl1o v hvx]
        exact O.1.2.1 v ((hm v).mp hv).1
    · show tR T1 = 157
      rw [a5.2.1]
      exact O.1.1.2.1
    · rw [hlr2]
      exact hB.sub (h.2.1.erase b) (fun v hv => ((hm v).mp hv).1) (fun v hv => hl2 v ((hm v).mp hv).2)
    · show 3 ≤ tCap T1 ∧ tCap T1 ≤ 5
      rw [a5.2.2.2.1]
      exact O.1.1.2.2.2.1
    · show _ = tCap T1
      rw [up_o (by omega), a9 0 (by omega) (by omega), a5.2.2.2.1]
      exact O.1.1.2.2.2.2.1
    · show _ = tRei T1
      rw [up_o (by omega), a9 1 (by omega) (by omega), a5.2.2.2.2.1]
      exact O.1.1.2.2.2.2.2.1
    · show tRei T1 = 0 ∨ tRei T1 = 1
      rw [a5.2.2.2.2.1]
      exact O.1.1.2.2.2.2.2.2
    · by_cases hcb : c = b
      · subst hcb
        have := O.1.2.2 c hc
        refine ⟨⟨fun t ht => ?_, fun q => absurd q (by rw [up_s]; omega)⟩, ?_⟩
        · by_cases ht0 : t = 0
          · subst ht0
            show ck (up s1 (5 + 4 * c) (-1) (5 + 4 * c))
            rw [up_s]
            exact ⟨by omega, by omega⟩
          · rw [up_o (by omega), a9 _ (by omega) (by omega)]
            exact this.1.1 t ht
        · rw [up_s]
          exact ⟨fun q => absurd q (by omega), fun q => absurd rfl ((hm c).mp q).2⟩
      · have := O.1.2.2 c hc
        refine ⟨this.1.same (fun t ht => by rw [up_o (by omega), a9 _ (by omega) (by omega)]), ?_⟩
        rw [up_o (by omega), a9 _ (by omega) (by omega)]
        exact ⟨fun q => (hm c).mpr ⟨this.2.mp q, hcb⟩, fun q => this.2.mpr ((hm c).mp q).1⟩
    · rw [hlr2]
      rcases O.2.2.1 with q | q
      · exact Or.inl q
      · by_cases hxr : x = r
        · exact Or.inl (by rw [← hxr]; omega)
        · rw [hkl1o r (fun e => hxr e.symm)]
          exact Or.inr ⟨by omega, fun _ => q⟩
    · have hv2 := (hm v).mp hv
      rw [hprr]
      rcases (a10 v).mp (O.2.1 v hv2.1) with q | q
      · exact Or.inl q
      · exact absurd (List.mem_singleton.mp q) hv2.2
    · show tSpl T1 = _
      rw [up_o (by omega), a9 2 (by omega) (by omega), a5.2.2.2.2.2.1]
      exact O.2.2.2.1
    · show tRec T1 = _
      rw [up_o (by omega), a9 3 (by omega) (by omega), a5.2.2.2.2.2.2]
      exact O.2.2.2.2
  have hat2 : At (tk T1 b (-2)) kl1 r x p' := by
    obtain ⟨B', e1, e2⟩ := hat1
    rw [hL1] at e1 e2
    have hbx1 : b ∉ pr (tLev T) kl1 x := fun q => hbp1 (by
      have : b ∈ (pr (tLev T) kl1 r).drop p' := by rw [e1]; simp [q]
      exact List.mem_of_mem_drop this)
    refine ⟨B', by rw [hprr, hpr2 x q1 hbx1]; exact e1, fun y t hyt => ?_⟩
    have hyB : y ∈ (pr (tLev T) kl1 r).drop p' := by rw [e1, hyt]; simp
    rw [hl2 x hxb, hl2 y (fun q => hbp1 (q ▸ List.mem_of_mem_drop hyB))]
    exact e2 y t hyt
  have hlx2 : tLev (tk T1 b (-2)) x = 0 := by rw [hl2 x hxb]; exact hlx
  obtain ⟨T3, kl3, Q3, s3, M3, st3, kept3, aside3, begin3, level3, b1, b2, b3, b4, b5, b6⟩ := up_go (fun x2_37 x3_38 c_kept_39 c_keptCount_40 T_41 => bd1 (f_Tr_lowerRoot T_41) <| fun T_42 => some (c_kept_39, c_keptCount_40, T_42)) (fun x3_39 c_s_40 c_aside_41 c_begin_42 c_level_43 c_asides_44 => bd1 (f_Mo_shrinks c_s_40) <| fun c_s_45 => f_Mo_remove_L102 (c_aside_41) (c_begin_42) (c_level_43) (c_asides_44) (fun x4_64 c_s_65 c_rect_66 c_item_67 c_items_68 c_itemLevel_69 c_treated_70 c_from_71 c_group_72 c_turn_73 c_size_74 c_old_75 => bd1 (f_Mo_boxCount c_s_65) <| fun r_76 => some (r_76, c_s_65, past', pasts', c_rect_66, c_item_67, c_items_68, c_itemLevel_69, c_treated_70, c_from_71, c_group_72, c_turn_73, c_size_74, c_old_75, c_aside_41, c_begin_42, c_level_43, c_asides_44)) FU (0) (c_s_45) w it items il tr fr gr tu si old) (tLev T r).toNat (tk T1 b (-2)) kl1 (Q.erase b) r x p' (up s1 (5 + 4 * b) (-1)) [] FU FU 0 kept aside (up begin 0 0) level W hat2 (Kp.nil up_s) (by rw [hlx2]; simp) (by rw [hlx2, hlr2]; omega) (by unfold FU; omega) (by unfold FU; omega) (by omega)
  obtain ⟨LW3, hroot3⟩ := b3.lw
  obtain ⟨T4, Q4, r4, s4, d1, d2, d3, d4, d5, d6⟩ := low_sp LW3 hroot3
  have h3 := b3.1.1
  have hr3 := b3.1.2.1.1
  have hL3 := LW3.2.1
  have hlen3 := hL3.len h3 hr3 b3.1.2.1.2.2.2
  have hQ3 := LW3.1.1.2.2.1.len h3
  have hlr3 := LW3.1.1.2.2.1.rl
  obtain ⟨T5, kl5, Q5, r5, left5, items5, il5, cc5, LB5, LN5, s5, pool5, w5, it5, tr5, fr5, gr5, tu5, si5, old5, e1, e2, e3, e4, e5, e6, e7⟩ := pb_go b4 (by omega) (by omega) (fun x1_51 c_pool_52 c_left_53 c_treated_54 T_55 LB_56 LN_57 => some (c_pool_52, c_left_53, c_treated_54, T_55, LB_56, LN_57)) (fun x4_64 c_s_65 c_rect_66 c_item_67 c_items_68 c_itemLevel_69 c_treated_70 c_from_71 c_group_72 c_turn_73 c_size_74 c_old_75 => bd1 (f_Mo_boxCount c_s_65) <| fun r_76 => some (r_76, c_s_65, past', pasts', c_rect_66, c_item_67, c_items_68, c_itemLevel_69, c_treated_70, c_from_71, c_group_72, c_turn_73, c_size_74, c_old_75, aside3, begin3, level3, (M3.length : Int))) M3 [] T4 kl3 Q4 r4 FU FU cc LB LN s4 pool w it tr fr gr tu si old left items il rfl d3 d5 hLB hLN (by unfold FU; omega) (by unfold FU; omega)
  refine ⟨T4, T5, kl5, Q5, r5, (M3.length : Int), left5, items5, il5, (M3.length : Int), cc5, LB5, LN5, s5, kept3, pool5, w5, it5, tr5, fr5, gr5, tu5, si5, old5, aside3, begin3, level3, ?_, ?_, ?_, ⟨e3.1, fun v hv => (e3.2.1.2.2 v hv).elim id (fun ⟨y, hy, _⟩ => by cases hy), e4 d4, e3.2.2⟩, e6, e7⟩
  · have hho : f_Tr_holderOf T (b : Int) = some (x : Int) := by rw [t_hol hle (h.lt hb), hxk.2.1]
    unfold f_Ch_takeOutBox
    rw [bd1_p hho, bd1_p a1, bd1_p hfree.1]
    refine Eq.trans b1 ?_
    rw [bd1_p d1]
  · unfold f_Ch_putBackKept
    exact e1
  · have hcut : f_Mo_cuts s (A.length : Int) ((A.length : Int) + 1) = some s1 := a2
    unfold f_Mo_remove
    rw [bd1_p (isb_sp O.1.2.2 hb24), if_pos hb, gd_p ⟨by omega, by omega⟩, if_neg (by omega), bd2_p hrec, bd1_p hplc, bd1_p q4, bd1_p hcut, gd_p ⟨by omega, by omega⟩, show ((5 : Int) + 4 * (b : Int)).toNat = 5 + 4 * b by omega]
    refine Eq.trans b2 ?_
    rw [bd1_p d2]
    refine Eq.trans e2 ?_
    rw [bd1_p (bxc_sp e3.1.2.2)]
