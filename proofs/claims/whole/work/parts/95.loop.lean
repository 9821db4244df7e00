set_option maxHeartbeats 4000000 in
set_option maxRecDepth 100000 in
theorem law_loop {p : Program} {l : Launch} {e : Env} {s : State} {m : MethodId} {below : List Frame} {meth : Method} {c : Code} {b L : Nat} {xs : Nat → Int32} (hL : L ≤ 2560) (C0 : lw_At p s m meth c b L xs) (D : va_G) (cI cZ cT : ClassId) (hK : va_K D vwCl (zt cI cZ cT) s) (hN : zNW s) (h_R h_M : Nat) : ∀ (n i cells slots : Nat) (H : Heap) (locs : List Loc) (ls : Array Slot), i ≤ L → L < i + n → lwSt D cI cZ cT (fun q : Nat => s.heap.size ≤ q) h_R h_M cells slots H → va_S (fun q : Nat => s.heap.size ≤ q) s.heap H locs → lv_has ls 8 [(0, .ref b), (1, .ref h_R), (2, .ref h_M), (3, vI (i : Int))] → W p l e room_1 s m #[Value.ref b] below meth c H locs cells slots (lw_Z below #[Value.ref b] s) (F0 m 18 ls []) := by
  intro n
  induction n with
  | zero => intro i cells slots H locs ls h1 h2; omega
  | succ n ih =>
    intro i cells slots H locs ls h1 h2 hst hS hl
    obtain ⟨hx, hb, hr, hml, hown, hts0, hX, hbl, hlocks, hgv⟩ := id C0
    have hbA : ¬ (fun q : Nat => s.heap.size ≤ q) b := Nat.not_le.mpr hbl
    refine lv_iload_n hx hb dL_law_18 rfl (lv_at hl 3 rfl) ?_
    refine lv_aload_n hx hb dL_law_19 rfl (lv_at hl 0 rfl) ?_
    refine z_slen hx hb hX hbl hbA hS dL_law_20 ?_
    refine lv_iconst (v := Int32.ofInt 5) hx hb dL_law_21 rfl ?_
    refine z_isub hx hb dL_law_22 ?_
    refine z_icmp_gt (tgt := 934) hx hb ⟨by omega, by omega⟩ ⟨by omega, by omega⟩ dL_law_23 (by decide) (fun hq => ?_) (fun hq => ?_)
    · have hz : cells ≤ 600000 ∧ slots ≤ 7302250 := lw_out hst (fun h_T h_C h_P h_K h_X h_H h_N q_T q_C h_LB h_LN q_LB q_LN q_P q_K q_X q_H h_S0 h_S1 h_S2 h_S3 q_S0 q_S1 q_S2 q_S3 q_N q_M c_hasSnapshot T c_kept c_keptCount c_pool c_left c_treated LB LN c_row K c_characters c_length c_parts c_rectangles c_part c_digits c_value c_count S0 S1 S2 S3 N m_s m_past m_kept m_isKept m_pasts m_text m_typed m_rect m_item m_items m_itemLevel m_treated m_from m_group m_turn m_size m_old m_aside m_begin m_level m_asides m_sorted m_spot m_rectangles m_parts m_visited hR hbc hbs hP hD => by have nb := rel_num hR; omega)
      refine lv_iconst (v := Int32.ofInt 1) hx hb dL_law_934 rfl ?_
      refine va_forget (fun q hq => hS.2.2 q hq) ?_
      refine W.widen (k := 600000) (n := 7302250) (by omega) (by omega) ?_
      refine W.base ?_
      exact lw_ret (Drawn.sameBut.refl s.drawn lw_cs) hx hb hr hlocks dL_law_935
    · have next : ∀ (cells slots : Nat) (H : Heap) (locs : List Loc) (ls : Array Slot), lwSt D cI cZ cT (fun q : Nat => s.heap.size ≤ q) h_R h_M cells slots H → va_S (fun q : Nat => s.heap.size ≤ q) s.heap H locs → lv_has ls 8 [(0, .ref b), (1, .ref h_R), (2, .ref h_M), (3, vI (i : Int))] → W p l e room_1 s m #[Value.ref b] below meth c H locs cells slots (lw_Z below #[Value.ref b] s) (F0 m 928 ls []) := by
        intro cells slots H locs ls hst hS hl
        refine lv_iinc (v := Int32.ofInt ((i + 5 : Nat) : Int)) (lv' := [(3, vI ((i + 5 : Nat) : Int)), (0, .ref b), (1, .ref h_R), (2, .ref h_M)]) hx hb dL_law_928 hl (k := 3) rfl ((z_inc _ _).trans rfl) (by decide) rfl (fun ls hl => ?_)
        refine lv_goto (tgt := 18) hx hb dL_law_931 (by decide) ?_
        exact ih (i + 5) cells slots H locs ls (by omega) (by omega) hst hS (lv_sub hl [1, 2, 3, 0] rfl)
      refine lv_aload_n hx hb dL_law_26 rfl (lv_at hl 0 rfl) ?_
      refine lv_iload_n hx hb dL_law_27 rfl (lv_at hl 3 rfl) ?_
      refine z_sld (j := i) hx hb hX hbl hbA hS rfl (by omega) (by omega) dL_law_28 ?_
      refine lv_bipush (v := Int32.ofInt 31) hx hb dL_law_29 (by decide +kernel) ?_
      refine lv_iand hx hb dL_law_31 ?_
      obtain ⟨j, hj, ej⟩ := pk_andE (Int32.ofInt (sc xs i)) (m := Int32.ofInt 31) 5 (by decide +kernel)
      rw [ej]
      have hj2 : j < 32 := hj
      rcases (show j = 0 ∨ j = 1 ∨ j = 2 ∨ j = 3 ∨ j = 4 ∨ j = 5 ∨ j = 6 ∨ j = 7 ∨ j = 8 ∨ j = 9 ∨ j = 10 ∨ j = 11 ∨ j = 12 ∨ j = 13 ∨ j = 14 ∨ j = 15 ∨ j = 16 ∨ j = 17 ∨ j = 18 ∨ j = 19 ∨ j = 20 ∨ j = 21 ∨ j = 22 ∨ j = 23 ∨ j = 24 ∨ j = 25 ∨ j = 26 ∨ j = 27 ∨ j = 28 ∨ j = 29 ∨ j = 30 ∨ j = 31 by omega) with rfl | rfl | rfl | rfl | rfl | rfl | rfl | rfl | rfl | rfl | rfl | rfl | rfl | rfl | rfl | rfl | rfl | rfl | rfl | rfl | rfl | rfl | rfl | rfl | rfl | rfl | rfl | rfl | rfl | rfl | rfl | rfl
      · refine lv_tableIn (tgt := 168) hx hb dL_law_32 (by decide +kernel) (by decide +kernel) rfl (by decide) ?_
        exact lw_out hst (lw_case_insert hL C0 D cI cZ cT hK hN h_R h_M i (by omega) next _ _ H locs ls hS hl)
      · refine lv_tableIn (tgt := 221) hx hb dL_law_32 (by decide +kernel) (by decide +kernel) rfl (by decide) ?_
        exact lw_out hst (lw_case_remove hL C0 D cI cZ cT hK hN h_R h_M i (by omega) next _ _ H locs ls hS hl)
      · refine lv_tableIn (tgt := 244) hx hb dL_law_32 (by decide +kernel) (by decide +kernel) rfl (by decide) ?_
        exact lw_out hst (lw_case_pack hL C0 D cI cZ cT hK hN h_R h_M i (by omega) next _ _ H locs ls hS hl)
      · refine lv_tableIn (tgt := 257) hx hb dL_law_32 (by decide +kernel) (by decide +kernel) rfl (by decide) ?_
        exact lw_out hst (lw_case_setSetting hL C0 D cI cZ cT hK hN h_R h_M i (by omega) next _ _ H locs ls hS hl)
      · refine lv_tableIn (tgt := 290) hx hb dL_law_32 (by decide +kernel) (by decide +kernel) rfl (by decide) ?_
        exact lw_out hst (lw_case_append hL C0 D cI cZ cT hK hN h_R h_M i (by omega) next _ _ H locs ls hS hl)
      · refine lv_tableIn (tgt := 313) hx hb dL_law_32 (by decide +kernel) (by decide +kernel) rfl (by decide) ?_
        exact lw_out hst (lw_case_clearText hL C0 D cI cZ cT hK hN h_R h_M i (by omega) next _ _ H locs ls hS hl)
      · refine lv_tableIn (tgt := 326) hx hb dL_law_32 (by decide +kernel) (by decide +kernel) rfl (by decide) ?_
        exact lw_out hst (lw_case_fault hL C0 D cI cZ cT hK hN h_R h_M i (by omega) next _ _ H locs ls hS hl)
      · refine lv_tableIn (tgt := 339) hx hb dL_law_32 (by decide +kernel) (by decide +kernel) rfl (by decide) ?_
        exact lw_out hst (lw_case_read hL C0 D cI cZ cT hK hN h_R h_M i (by omega) next _ _ H locs ls hS hl)
      · refine lv_tableIn (tgt := 352) hx hb dL_law_32 (by decide +kernel) (by decide +kernel) rfl (by decide) ?_
        exact lw_out hst (lw_case_undo hL C0 D cI cZ cT hK hN h_R h_M i (by omega) next _ _ H locs ls hS hl)
      · refine lv_tableIn (tgt := 365) hx hb dL_law_32 (by decide +kernel) (by decide +kernel) rfl (by decide) ?_
        exact lw_out hst (lw_case_save hL C0 D cI cZ cT hK hN h_R h_M i (by omega) next _ _ H locs ls hS hl)
      · refine lv_tableIn (tgt := 378) hx hb dL_law_32 (by decide +kernel) (by decide +kernel) rfl (by decide) ?_
        exact lw_out hst (lw_case_restore hL C0 D cI cZ cT hK hN h_R h_M i (by omega) next _ _ H locs ls hS hl)
      · refine lv_tableIn (tgt := 391) hx hb dL_law_32 (by decide +kernel) (by decide +kernel) rfl (by decide) ?_
        exact lw_out hst (lw_case_boxes hL C0 D cI cZ cT hK hN h_R h_M i (by omega) next _ _ H locs ls hS hl)
      · refine lv_tableIn (tgt := 404) hx hb dL_law_32 (by decide +kernel) (by decide +kernel) rfl (by decide) ?_
        exact lw_out hst (lw_case_side hL C0 D cI cZ cT hK hN h_R h_M i (by omega) next _ _ H locs ls hS hl)
      · refine lv_tableIn (tgt := 437) hx hb dL_law_32 (by decide +kernel) (by decide +kernel) rfl (by decide) ?_
        exact lw_out hst (lw_case_nodes hL C0 D cI cZ cT hK hN h_R h_M i (by omega) next _ _ H locs ls hS hl)
      · refine lv_tableIn (tgt := 450) hx hb dL_law_32 (by decide +kernel) (by decide +kernel) rfl (by decide) ?_
        exact lw_out hst (lw_case_height hL C0 D cI cZ cT hK hN h_R h_M i (by omega) next _ _ H locs ls hS hl)
      · refine lv_tableIn (tgt := 463) hx hb dL_law_32 (by decide +kernel) (by decide +kernel) rfl (by decide) ?_
        exact lw_out hst (lw_case_level hL C0 D cI cZ cT hK hN h_R h_M i (by omega) next _ _ H locs ls hS hl)
      · refine lv_tableIn (tgt := 486) hx hb dL_law_32 (by decide +kernel) (by decide +kernel) rfl (by decide) ?_
        exact lw_out hst (lw_case_entries hL C0 D cI cZ cT hK hN h_R h_M i (by omega) next _ _ H locs ls hS hl)
      · refine lv_tableIn (tgt := 509) hx hb dL_law_32 (by decide +kernel) (by decide +kernel) rfl (by decide) ?_
        exact lw_out hst (lw_case_entry hL C0 D cI cZ cT hK hN h_R h_M i (by omega) next _ _ H locs ls hS hl)
      · refine lv_tableIn (tgt := 542) hx hb dL_law_32 (by decide +kernel) (by decide +kernel) rfl (by decide) ?_
        exact lw_out hst (lw_case_bound hL C0 D cI cZ cT hK hN h_R h_M i (by omega) next _ _ H locs ls hS hl)
      · refine lv_tableIn (tgt := 575) hx hb dL_law_32 (by decide +kernel) (by decide +kernel) rfl (by decide) ?_
        exact lw_out hst (lw_case_leafOf hL C0 D cI cZ cT hK hN h_R h_M i (by omega) next _ _ H locs ls hS hl)
      · refine lv_tableIn (tgt := 598) hx hb dL_law_32 (by decide +kernel) (by decide +kernel) rfl (by decide) ?_
        exact lw_out hst (lw_case_setting hL C0 D cI cZ cT hK hN h_R h_M i (by omega) next _ _ H locs ls hS hl)
      · refine lv_tableIn (tgt := 621) hx hb dL_law_32 (by decide +kernel) (by decide +kernel) rfl (by decide) ?_
        exact lw_out hst (lw_case_splits hL C0 D cI cZ cT hK hN h_R h_M i (by omega) next _ _ H locs ls hS hl)
      · refine lv_tableIn (tgt := 634) hx hb dL_law_32 (by decide +kernel) (by decide +kernel) rfl (by decide) ?_
        exact lw_out hst (lw_case_reinsertions hL C0 D cI cZ cT hK hN h_R h_M i (by omega) next _ _ H locs ls hS hl)
      · refine lv_tableIn (tgt := 647) hx hb dL_law_32 (by decide +kernel) (by decide +kernel) rfl (by decide) ?_
        exact lw_out hst (lw_case_meeting hL C0 D cI cZ cT hK hN h_R h_M i (by omega) next _ _ H locs ls hS hl)
      · refine lv_tableIn (tgt := 700) hx hb dL_law_32 (by decide +kernel) (by decide +kernel) rfl (by decide) ?_
        exact lw_out hst (lw_case_inside hL C0 D cI cZ cT hK hN h_R h_M i (by omega) next _ _ H locs ls hS hl)
      · refine lv_tableIn (tgt := 753) hx hb dL_law_32 (by decide +kernel) (by decide +kernel) rfl (by decide) ?_
        exact lw_out hst (lw_case_visits hL C0 D cI cZ cT hK hN h_R h_M i (by omega) next _ _ H locs ls hS hl)
      · refine lv_tableIn (tgt := 806) hx hb dL_law_32 (by decide +kernel) (by decide +kernel) rfl (by decide) ?_
        exact lw_out hst (lw_case_nearest hL C0 D cI cZ cT hK hN h_R h_M i (by omega) next _ _ H locs ls hS hl)
      · refine lv_tableIn (tgt := 839) hx hb dL_law_32 (by decide +kernel) (by decide +kernel) rfl (by decide) ?_
        exact lw_out hst (lw_case_area hL C0 D cI cZ cT hK hN h_R h_M i (by omega) next _ _ H locs ls hS hl)
      · refine lv_tableIn (tgt := 862) hx hb dL_law_32 (by decide +kernel) (by decide +kernel) rfl (by decide) ?_
        exact lw_out hst (lw_case_overlap hL C0 D cI cZ cT hK hN h_R h_M i (by omega) next _ _ H locs ls hS hl)
      · refine lv_tableIn (tgt := 885) hx hb dL_law_32 (by decide +kernel) (by decide +kernel) rfl (by decide) ?_
        exact lw_out hst (lw_case_fill hL C0 D cI cZ cT hK hN h_R h_M i (by omega) next _ _ H locs ls hS hl)
      · refine lv_tableOut (tgt := 928) hx hb dL_law_32 (Or.inr (by decide +kernel)) (by decide) ?_
        exact next _ _ H locs ls hst hS hl
      · refine lv_tableOut (tgt := 928) hx hb dL_law_32 (Or.inr (by decide +kernel)) (by decide) ?_
        exact next _ _ H locs ls hst hS hl
