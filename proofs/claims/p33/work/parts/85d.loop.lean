/-! the law's loop -/
set_option maxHeartbeats 4000000 in
set_option maxRecDepth 100000 in
theorem law_loop {p : Program} {l : Launch} {e : Env} {s : State} {m : MethodId} {below : List Frame} {meth : Method} {c : Code} {b L : Nat} {xs : Nat → Int32} (hL : L ≤ 260) (C0 : lw_At p s m meth c b L xs) (D : va_G) (cI cZ cT : ClassId) (hK : va_K D vwCl (zt cI cZ cT) s) (hN : zNW s) (h_R h_B : Nat) : ∀ (n i : Nat) (H : Heap) (locs : List Loc) (ls : Array Slot), i + n = 48 → lwSt D cI cT (fun q : Nat => s.heap.size ≤ q) h_R h_B i H → va_S (fun q : Nat => s.heap.size ≤ q) s.heap H locs → lv_has ls 7 [(0, .ref b), (1, .ref h_R), (2, .ref h_B), (3, vI (i : Int))] → W p l e room_1 s m #[Value.ref b] below meth c H locs 57 13526 (lw_Z below #[Value.ref b] s) (F0 m 33 ls []) := by
  intro n
  induction n with
  | zero =>
    intro i H locs ls h1 hst hS hl
    obtain ⟨hx, hb, hr, hml, hown, hts0, hX, hbl, hlocks, hgv⟩ := id C0
    refine lv_iload_n hx hb dL_law_33 rfl (lv_at hl 3 rfl) ?_
    refine lv_bipush (v := Int32.ofInt 48) hx hb dL_law_34 (by decide +kernel) ?_
    refine z_icmp_ge (tgt := 142) hx hb ⟨by omega, by omega⟩ ⟨by omega, by omega⟩ dL_law_36 (by decide) (fun _ => ?_) (fun q => absurd q (by omega))
    refine lv_iconst (v := Int32.ofInt 1) hx hb dL_law_142 rfl ?_
    refine va_forget (fun q hq => hS.2.2 q hq) ?_
    refine W.widen (k := 600000) (n := 7302250) (by omega) (by omega) ?_
    refine W.base ?_
    exact lw_ret (Drawn.sameBut.refl s.drawn lw_cs) hx hb hr hlocks dL_law_143
  | succ n ih =>
    intro i H locs ls h1 hst hS hl
    obtain ⟨hx, hb, hr, hml, hown, hts0, hX, hbl, hlocks, hgv⟩ := id C0
    have next : ∀ (H : Heap) (locs : List Loc) (ls : Array Slot), lwSt D cI cT (fun q : Nat => s.heap.size ≤ q) h_R h_B (i + 1) H → va_S (fun q : Nat => s.heap.size ≤ q) s.heap H locs → lv_has ls 7 [(0, .ref b), (1, .ref h_R), (2, .ref h_B), (3, vI (i : Int))] → W p l e room_1 s m #[Value.ref b] below meth c H locs 57 13526 (lw_Z below #[Value.ref b] s) (F0 m 136 ls []) := by
      intro H locs ls hst hS hl
      refine lv_iinc (v := Int32.ofInt ((i + 1 : Nat) : Int)) (lv' := [(3, vI ((i + 1 : Nat) : Int)), (0, .ref b), (1, .ref h_R), (2, .ref h_B)]) hx hb dL_law_136 hl (k := 3) rfl ((z_inc _ _).trans rfl) (by decide) rfl (fun ls hl => ?_)
      refine lv_goto (tgt := 33) hx hb dL_law_139 (by decide) ?_
      exact ih (i + 1) H locs ls (by omega) hst hS (lv_sub hl [1, 2, 3, 0] rfl)
    refine lv_iload_n hx hb dL_law_33 rfl (lv_at hl 3 rfl) ?_
    refine lv_bipush (v := Int32.ofInt 48) hx hb dL_law_34 (by decide +kernel) ?_
    refine z_icmp_ge (tgt := 142) hx hb ⟨by omega, by omega⟩ ⟨by omega, by omega⟩ dL_law_36 (by decide) (fun q => absurd q (by omega)) (fun _ => ?_)
    exact lw_out hst (fun h_T h_C h_P h_K h_X h_H h_N q_T q_C h_LB h_LN q_LB q_LN q_P q_K q_X q_H h_S0 h_S1 h_S2 h_S3 q_S0 q_S1 q_S2 q_S3 q_N c_hasSnapshot T c_kept c_keptCount c_pool c_left c_treated LB LN c_row K c_characters c_length c_parts c_rectangles c_part c_digits c_value c_count S0 S1 S2 S3 N bx hI hC hP hD => law_step hL C0 D cI cZ cT hK hN h_R h_B i (by omega) next h_T h_C h_P h_K h_X h_H h_N q_T q_C h_LB h_LN q_LB q_LN q_P q_K q_X q_H h_S0 h_S1 h_S2 h_S3 q_S0 q_S1 q_S2 q_S3 q_N c_hasSnapshot T c_kept c_keptCount c_pool c_left c_treated LB LN c_row K c_characters c_length c_parts c_rectangles c_part c_digits c_value c_count S0 S1 S2 S3 N bx H locs ls hI hC hP hD hS hl)
