/-! packing: all of it -/
theorem pk_all {T : TV} {kl : Nat → List Nat} {Q : List Nat} {r : Nat} {s row0 sr0 past pasts' : Nat → Int} {pasts pastc : Int} (O : St T kl Q r s) (hrec : f_Mo_records s past pasts = some (pasts', pastc)) : ∃ (T' : TV) (kl' : Nat → List Nat) (Q' : List Nat) (r' : Nat) (row' s' sr' : Nat → Int) (c : Int), f_Pk_rebuild row0 T = some (row', T') ∧ f_Mo_pack s past pasts sr0 = some (c, s', pasts', pastc, sr') ∧ f_Mo_nodes s' = some c ∧ St T' kl' Q' r' s' := by
  have hA := O.1.1.1.1
  have hR := hA.1
  have hcapT := O.1.1.2.2.2.1
  obtain ⟨cap, hcap⟩ : ∃ cap : Nat, tCap T = (cap : Int) := ⟨(tCap T).toNat, by omega⟩
  have hc35 : 3 ≤ cap ∧ cap ≤ 5 := by omega
  have hs0 : s 0 = (cap : Int) := O.1.1.2.2.2.2.1.trans hcap
  obtain ⟨l, h, z, f1, f2, f3⟩ := rz_go (R := tR T) O.1.1.2.1 (fun x1_10 T_11 => some (T_11)) (tR T - 24) 24 FU T rfl (by omega) (by unfold FU; omega)
  have hrel : f_Tr_releaseNodes T = some (sSiz (sHol (sLev T l) h) z) := f1
  obtain ⟨row1, g1, g2⟩ := lb_go hA (fun x1_11 x2_12 c_row_13 => some (x1_11, c_row_13)) 24 0 FU row0 rfl (by unfold FU; omega) Hs.nil
  have hlist : f_Pk_listBoxes row0 T = some (((bl Q 24).length : Int), row1) := g1
  obtain ⟨sr1, m1, m2⟩ := lm_go O.1.2.2 (fun x1_13 x2_14 c_sorted_15 => gd (ck x1_13) <| if x1_13 = 0 then (some (1, (up (up s (4) 1) (101) (-1)), pasts', pastc, c_sorted_15)) else (bd2 (f_Mo_packsLeaves s c_sorted_15 x1_13) <| fun c_s_18 c_sorted_19 => bd1 (f_Mo_nodes c_s_18) <| fun r_22 => f_Mo_pack_L71 (fun x2_31 x3_32 c_s_33 => bd1 (f_Mo_nodes c_s_33) <| fun r_34 => some (r_34, c_s_33, pasts', pastc, c_sorted_19)) FU (r_22) (0) (c_s_18))) 24 0 FU sr0 rfl (by unfold FU; omega) Hs.nil
  have hMP := Eq.trans (show f_Mo_pack s past pasts sr0 = f_Mo_pack_L8 s (fun x1_13 x2_14 c_sorted_15 => gd (ck x1_13) <| if x1_13 = 0 then (some (1, (up (up s (4) 1) (101) (-1)), pasts', pastc, c_sorted_15)) else (bd2 (f_Mo_packsLeaves s c_sorted_15 x1_13) <| fun c_s_18 c_sorted_19 => bd1 (f_Mo_nodes c_s_18) <| fun r_22 => f_Mo_pack_L71 (fun x2_31 x3_32 c_s_33 => bd1 (f_Mo_nodes c_s_33) <| fun r_34 => some (r_34, c_s_33, pasts', pastc, c_sorted_19)) FU (r_22) (0) (c_s_18))) FU ((bl Q 0).length : Int) ((0 : Nat) : Int) sr0 from by
    unfold f_Mo_pack
    rw [bd2_p hrec]
    rfl) m1
  have hbl := bl_len (Q := Q) (i := 24)
  have hbn : (bl Q 24).Nodup := List.nodup_range.filter _
  by_cases hm0 : (bl Q 24).length = 0
  · have hb0 : bl Q 24 = [] := List.length_eq_zero_iff.mp hm0
    obtain ⟨x, T', e1, e2, e3⟩ := em_st O f2 f3 hb0
    refine ⟨sRoot T' (x : Int), _, _, x, row1, up (up s 4 1) 101 (-1), sr1, 1, ?_, ?_, e3, e2⟩
    · unfold f_Pk_rebuild
      rw [bd2_p hlist, bd1_p hrel, gd_p ⟨by omega, by omega⟩, if_pos (by omega), bd2_p e1]
    · rw [hMP, gd_p ⟨by omega, by omega⟩, if_pos (by omega)]
  · have hdv : ((((bl Q 24).length : Int) + (cap : Int)) - 1) / (cap : Int) = ((((bl Q 24).length + cap - 1) / cap : Nat) : Int) ∧ 1 ≤ ((bl Q 24).length + cap - 1) / cap ∧ ((bl Q 24).length + cap - 1) / cap ≤ 8 := by
      rcases (show cap = 3 ∨ cap = 4 ∨ cap = 5 by omega) with q | q | q <;> subst q <;> omega
    obtain ⟨d1, d2, d3⟩ := hdv
    obtain ⟨rt, hrt, r1, r2⟩ := lr_sp (v := ((((bl Q 24).length + cap - 1) / cap : Nat) : Int)) ⟨by omega, by omega⟩ (fun x3_5 => some ((x3_5 * (s 0))))
    have hw15 : 0 < rt * cap ∧ rt * cap ≤ 15 := by
      rcases (show cap = 3 ∨ cap = 4 ∨ cap = 5 by omega) with q | q | q <;> subst q <;> omega
    have hwc : (rt : Int) * (cap : Int) = ((rt * cap : Nat) : Int) := (Int.natCast_mul rt cap).symm
    have hsl : f_Mo_slice s ((bl Q 24).length : Int) = some ((rt * cap : Nat) : Int) := by
      unfold f_Mo_slice
      rw [hs0, gd_p ⟨⟨by omega, by omega⟩, by omega, by omega⟩, d1]
      rw [hs0] at r2
      rw [r2, hwc]
    have hR5 : tR (sSiz (sHol (sLev T l) h) z) ≤ 8192 := by show tR T ≤ 8192; omega
    have hR24 : 24 ≤ tR (sSiz (sHol (sLev T l) h) z) := by show 24 ≤ tR T; omega
    have hrg : ∀ v, v < 24 → rg (tCor (sSiz (sHol (sLev T l) h) z)) v := fun v hv => hA.2.2.2.1 v (by omega)
    have hk0 := key_sp (ax := 0) O (by omega)
    have hk1 := key_sp (ax := 1) O (by omega)
    have hB2 : [] ++ (bl Q 24 ++ []) = bl Q 24 := by simp
    obtain ⟨S, row2, a1, a2, a3⟩ := si_sp (T := sSiz (sHol (sLev T l) h) z) (ax := 0) (A := []) (M := bl Q 24) (B := []) (row := row1) hR5 hR24 (by omega) hrg (by rw [List.length_nil]; omega) (fun v hv => (bl_mem.mp hv).1) hbn (by rw [hB2]; exact g2)
    obtain ⟨S', sr2, b1, b2, b3⟩ := ex_sp hk0 (A := []) (M := bl Q 24) (B := []) (row := sr1) (by rw [List.length_nil]; omega) (fun v hv => hv) hbn (by rw [hB2]; exact m2)
    have hSS : S = S' := a2.uniq b2
    subst hSS
    have hS2 : [] ++ (S ++ []) = [] ++ S := by simp
    rw [hS2] at a3 b3
    rw [List.length_nil, Nat.zero_add] at a1 b1
    have hSl := a2.1.length_eq
    have hSn : S.Nodup := a2.1.nodup_iff.mp hbn
    have hSm : ∀ v ∈ S, v ∈ bl Q 24 := fun v hv => a2.1.mem_iff.mpr hv
    obtain ⟨L, y1, y2, row3, sr3, c1, c2, c3, c4, c5⟩ := sl_go (T := sSiz (sHol (sLev T l) h) z) (s := s) (P := fun v => v ∈ bl Q 24) (w := rt * cap) (m := (bl Q 24).length) hR5 hR24 hrg hk1 ⟨by omega, by omega⟩ hbl (fun x3_30 c_row_31 => f_Pk_rebuild_L107 (fun x1_49 x3_50 c_row_51 T_52 => bd1 (f_Rt_at 24 c_row_51 0) <| fun r_54 => some (c_row_51, (sRoot T_52 r_54))) FU ((bl Q 24).length : Int) (0) (c_row_31) (sSiz (sHol (sLev T l) h) z)) (fun x3_16 c_sorted_17 => f_Mo_packsLeaves_L49 (c_sorted_17) ((bl Q 24).length : Int) ((rt * cap : Nat) : Int) (fun x3_36 c_s_37 => some (c_s_37, c_sorted_17)) FU (0) ((up s (4) 0))) 24 S [] 0 FU FU row2 sr2 (by omega) (by unfold FU; omega) (by unfold FU; omega) (by rw [List.length_nil]; omega) (fun _ => rfl) (fun q => by rw [q, List.length_nil] at hSl; omega) (by omega) hSm hSn a3 b3
    have hperm : (bl Q 24).Perm L := a2.1.trans c3
    have hLl := hperm.length_eq
    obtain ⟨T1, kl1, Q1, G1, row4, p1, p2, p3, p4, p5, p6⟩ := lf_pk (row := row3) O f2 f3 hcap hperm (by omega) c4
    obtain ⟨s2, q1, q2, q3⟩ := lf_go (sr := sr3) (L := L) (cap := cap) (r := rt) hc35 hrt c5 (by omega) (fun x3_36 c_s_37 => some (c_s_37, sr3)) L.length 0 FU (up s 4 0) (Nat.zero_add _) (by unfold FU; omega) (by rw [up_o (by omega)]; exact hs0) ⟨up_s, by show (0 : Nat) ≤ 360; omega, fun j v hj => by cases hj⟩
    have hs20 : s2 0 = (cap : Int) := (q3 0 (by omega) (by omega)).trans (by rw [up_o (by omega)]; exact hs0)
    have K := p6 s2 q2 hs20
    have hleaves : f_Mo_packsLeaves s sr1 ((bl Q 24).length : Int) = some (s2, sr3) := by
      unfold f_Mo_packsLeaves
      have b1 : f_Mo_sorts s sr1 0 ((bl Q 24).length : Int) 0 = some sr2 := b1
      rw [bd1_p hsl, bd1_p b1]
      refine Eq.trans c2 ?_
      rw [hLl]
      exact q1
    have hrw2 := K.2.2.2.2.2.2.2.1.2.1
    have hpin : ∀ v ∈ prs (tLev T1) kl1 G1, v ∈ Q1 := fun v hv => by
      obtain ⟨g, hg, hvg⟩ := mem_prs.mp hv
      exact (pr_in K.1.1.lk g (K.2.2.1 g hg).1 v hvg).1
    have hnd2 : f_Mo_nodes s2 = some (G1.length : Int) := by
      rw [nodes_row (rw_row hrw2 (fun v hv => K.1.1.oki (hpin v hv))), p5]
    obtain ⟨lx', T', kl', Q', N', x, row', s', t1, t2, t3, t4, t5, t6, t7, t8, t9⟩ := lvl_go (fun x1_49 x3_50 c_row_51 T_52 => bd1 (f_Rt_at 24 c_row_51 0) <| fun r_54 => some (c_row_51, (sRoot T_52 r_54))) (fun x2_31 x3_32 c_s_33 => bd1 (f_Mo_nodes c_s_33) <| fun r_34 => some (r_34, c_s_33, pasts', pastc, sr3)) G1.length 0 T1 kl1 Q1 G1 G1 row4 s2 4095 FU (Nat.le_refl _) (by omega) (by unfold FU; omega) K (Or.inl ⟨p2, p2⟩)
    have hFr : Fr s s' := fun j j1 j2 => ((t5 j j1 j2).trans (q3 j j1 j2)).trans (up_o j2)
    have hKp : Kp2 T T' := ⟨fun v t hv ht => (t8.1 v t hv ht).trans (p4.1 v t hv ht), t8.2.1.trans p4.2.1, t8.2.2.1.trans p4.2.2.1, t8.2.2.2.1.trans p4.2.2.2.1, t8.2.2.2.2.1.trans p4.2.2.2.2.1, t8.2.2.2.2.2.trans p4.2.2.2.2.2⟩
    have hBm : ∀ b, b < 24 → (b ∈ Q' ↔ b ∈ Q) := fun b hb => ⟨fun q => (p3 b hb).mp (t7 b q hb), fun q => (t6 b ((p3 b hb).mpr q)).1⟩
    have hSt := pk_fin O t3 t4 hFr hBm hKp (by have := t9.2.2.2; omega)
    have hrowx : row' 0 = (x : Int) := by
      have := t3.2.2.2.2.2.2.2.1.1 0 x rfl
      exact this
    have hat0 : f_Rt_at 24 row' 0 = some (x : Int) := by
      rw [← hrowx]
      exact at_sp (x := 0) (by omega) (by omega)
    refine ⟨sRoot T' (x : Int), kl', Q', x, row', s', sr3, _, ?_, ?_, nodes_row hSt.1.1.1.2.2.1, hSt⟩
    · unfold f_Pk_rebuild
      have hcp5 : tCap (sSiz (sHol (sLev T l) h) z) = (cap : Int) := hcap
      have a1 : f_Pk_sortPart row1 (sSiz (sHol (sLev T l) h) z) 0 ((bl Q 24).length : Int) 0 = some row2 := a1
      have hmax : max (cap : Int) 1 = (cap : Int) := by omega
      rw [bd2_p hlist, bd1_p hrel, gd_p ⟨by omega, by omega⟩, if_neg (by omega), hcp5, hmax, gd_p ⟨by omega, by omega⟩, gd_p ⟨⟨by omega, by omega⟩, by omega, by omega⟩, d1, bd1_p r1, bd1_p a1, hwc]
      refine Eq.trans c1 ?_
      rw [show FU = 4095 + 1 from rfl, f_Pk_rebuild_L107, gd_p ck_0, if_pos (by omega), if_pos rfl, hLl, bd3_p p1]
      refine Eq.trans t1 ?_
      rw [bd1_p hat0]
    · rw [hMP, gd_p ⟨by omega, by omega⟩, if_neg (by omega), bd2_p hleaves, bd1_p hnd2]
      refine Eq.trans t2 ?_
      rw [bd1_p (nodes_row hSt.1.1.1.2.2.1)]
theorem sim_pack {c_hasSnapshot : Int} {T : TV} {LB : KV} {LN : KV} {c_row : Nat → Int} {K : KV} {c_characters : Nat → Int} {c_length : Int} {c_count : Int} {S0 : TV} {S1 : TV} {S2 : TV} {S3 : TV} {N : TV} {m_s : Nat → Int} {m_past : Nat → Int} {m_kept : Nat → Int} {m_isKept : Int} {m_pasts : Int} {m_text : Nat → Int} {m_typed : Int} {m_sorted : Nat → Int} (hR : Rel c_hasSnapshot T LB LN K c_characters c_length c_count S0 S1 S2 S3 N m_s m_past m_kept m_isKept m_pasts m_text m_typed)   : ∃ (r_1 : Int) (T_2 : TV) (c_row_3 : Nat → Int) (K_4 : KV) (c_count_5 : Int) (S0_6 : TV) (S1_7 : TV) (S2_8 : TV) (S3_9 : TV) (c_s_13 : Nat → Int) (c_past_14 : Nat → Int) (c_pasts_15 : Int) (c_sorted_16 : Nat → Int), f_Rt_pack T c_row K c_count S0 S1 S2 S3 = some (r_1, T_2, c_row_3, K_4, c_count_5, S0_6, S1_7, S2_8, S3_9) ∧ f_Mo_pack m_s m_past m_pasts m_sorted = some (r_1, c_s_13, c_past_14, c_pasts_15, c_sorted_16) ∧ Rel c_hasSnapshot T_2 LB LN K_4 c_characters c_length c_count_5 S0_6 S1_7 S2_8 S3_9 N c_s_13 c_past_14 m_kept m_isKept c_pasts_15 m_text m_typed := by
  obtain ⟨⟨kl, Q, r, O⟩, ⟨hLB, hLN⟩, hH, hN, hT⟩ := hR
  obtain ⟨c', S0', S1', S2', S3', past', pasts', e1, e2, e3⟩ := rec_sp hH O.1
  obtain ⟨T', kl', Q', r', row', s', sr', c, a1, a2, a3, a4⟩ := pk_all (row0 := c_row) (sr0 := m_sorted) O.1 e2
  obtain ⟨K', k1, k2⟩ := number_sp a4 O.2.2.2
  obtain ⟨w, w1, w2⟩ := q_nodes k2
  have hw : kCnt K' = w := Option.some.inj w1
  have hcw : c = w := Option.some.inj (a3.symm.trans w2)
  refine ⟨c, T', row', K', c', S0', S1', S2', S3', s', past', pasts', sr', ?_, a2, ⟨kl', Q', r', k2⟩, ⟨hLB, hLN⟩, e3, hN, hT⟩
  unfold f_Rt_pack
  rw [bd5_p e1, bd2_p a1, bd1_p k1, hw, hcw]
