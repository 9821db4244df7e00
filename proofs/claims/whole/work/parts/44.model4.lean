def f_Mo_appends (c_s : Nat → Int) (x1 : Int) : Option ((Nat → Int)) :=
  gd (0 ≤ (101 + (c_s 4)) ∧ (101 + (c_s 4)) < ((461 : Nat) : Int)) <| some ((up (up c_s (((101 + (c_s 4))).toNat) x1) (4) (((up c_s (((101 + (c_s 4))).toNat) x1) 4) + 1)))
abbrev rm_Mo_appends : Room := ({ frames := 0, cells := 0, slots := 0, locals := 0 } : Room)
set_option maxHeartbeats 4000000 in
set_option maxRecDepth 100000 in
theorem c_Mo_appends (l : Launch) (D : va_G) (cI cZ cT : ClassId) (h_M : Nat) (q_M : Nat → Nat) (c_s : Nat → Int) (c_past : Nat → Int) (c_kept : Nat → Int) (c_isKept : Int) (c_pasts : Int) (c_text : Nat → Int) (c_typed : Int) (c_rect : Nat → Int) (c_item : Nat → Int) (c_items : Int) (c_itemLevel : Int) (c_treated : Nat → Int) (c_from : Nat → Int) (c_group : Nat → Int) (c_turn : Nat → Int) (c_size : Nat → Int) (c_old : Nat → Int) (c_aside : Nat → Int) (c_begin : Nat → Int) (c_level : Nat → Int) (c_asides : Int) (c_sorted : Nat → Int) (c_spot : Int) (c_rectangles : Int) (c_parts : Nat → Int) (c_visited : Nat → Int) (x1 : Int) (sz : Nat) (res : (Nat → Int)) (h : f_Mo_appends c_s x1 = some res) : zMv l yX7_appends cX7_appends 2 rm_Mo_appends D (zt cI cZ cT) [.ref h_M, vI x1] ((zMo cI cZ h_M q_M c_s c_past c_kept c_isKept c_pasts c_text c_typed c_rect c_item c_items c_itemLevel c_treated c_from c_group c_turn c_size c_old c_aside c_begin c_level c_asides c_sorted c_spot c_rectangles c_parts c_visited)) sz (fun u => (zMo cI cZ h_M q_M (res) c_past c_kept c_isKept c_pasts c_text c_typed c_rect c_item c_items c_itemLevel c_treated c_from c_group c_turn c_size c_old c_aside c_begin c_level c_asides c_sorted c_spot c_rectangles c_parts c_visited)) 0 0 := by
  refine z_enth (Qc := zQv D (fun u => (zMo cI cZ h_M q_M (res) c_past c_kept c_isKept c_pasts c_text c_typed c_rect c_item c_items c_itemLevel c_treated c_from c_group c_turn c_size c_old c_aside c_begin c_level c_asides c_sorted c_spot c_rectangles c_parts c_visited))) (by decide) (Nat.le_of_ble_eq_true rfl) (fun p e s m args below meth c A ls H locs hF hP hD hS hl => ?_)
  have hx := hF.1.1
  have hb := hF.1.2.1
  have hml := hF.1.2.2.1
  have hown : s.vm.findClass "RectangleTreeModel" = some m.cls := hF.1.2.2.2.1
  have hts := hF.1.2.2.2.2
  have hr := hF.2.1
  have hlk := hF.2.2.1
  have hK := hF.2.2.2.2.1
  have hN := hF.2.2.2.2.2.1
  have hA := hF.2.2.2.2.2.2
  unfold f_Mo_appends at h
  refine lv_aload_n hx hb dX7_appends_0 rfl (lv_at hl 0 rfl) ?_
  refine va_get (D := D) (ci := 7) (v := .ref (q_M 0)) (C := RX7) (T := TX7) (N := 26) hx hb hts zin7 hown hK hP 0 rfl rfl 0 (by decide) (hts _ wm787) (fun _ h9 => h9) rfl dX7_appends_1 ?_
  refine lv_bipush (v := Int32.ofInt 101) hx hb dX7_appends_4 (by decide +kernel) ?_
  refine lv_aload_n hx hb dX7_appends_6 rfl (lv_at hl 0 rfl) ?_
  refine va_get (D := D) (ci := 7) (v := .ref (q_M 0)) (C := RX7) (T := TX7) (N := 26) hx hb hts zin7 hown hK hP 0 rfl rfl 0 (by decide) (hts _ wm787) (fun _ h9 => h9) rfl dX7_appends_7 ?_
  refine lv_iconst (v := Int32.ofInt 4) hx hb dX7_appends_10 rfl ?_
  refine z_iald (n := 461) (f := c_s) (i := 4) hx hb hK hP 1 rfl rfl (by decide) (by decide) dX7_appends_11 ?_
  refine z_iadd hx hb dX7_appends_12 ?_
  refine lv_iload_n hx hb dX7_appends_13 rfl (lv_at hl 1 rfl) ?_
  obtain ⟨g_1, h⟩ := gd_e h
  refine z_iast (n := 461) (f := c_s) (i := (101 + (c_s 4))) (x := x1) (ws' := (zMo cI cZ h_M q_M (up c_s (((101 + (c_s 4))).toNat) x1) c_past c_kept c_isKept c_pasts c_text c_typed c_rect c_item c_items c_itemLevel c_treated c_from c_group c_turn c_size c_old c_aside c_begin c_level c_asides c_sorted c_spot c_rectangles c_parts c_visited)) hx hb hK hP hD hS 1 rfl rfl g_1 (by have := g_1.2; omega) dX7_appends_14 rfl (fun H locs hP hD hS => ?_)
  refine lv_aload_n hx hb dX7_appends_15 rfl (lv_at hl 0 rfl) ?_
  refine va_get (D := D) (ci := 7) (v := .ref (q_M 0)) (C := RX7) (T := TX7) (N := 26) hx hb hts zin7 hown hK hP 0 rfl rfl 0 (by decide) (hts _ wm787) (fun _ h9 => h9) rfl dX7_appends_16 ?_
  refine lv_iconst (v := Int32.ofInt 4) hx hb dX7_appends_19 rfl ?_
  refine lv_dup2_11 hx hb dX7_appends_20 rfl rfl ?_
  refine z_iald (n := 461) (f := (up c_s (((101 + (c_s 4))).toNat) x1)) (i := 4) hx hb hK hP 1 rfl rfl (by decide) (by decide) dX7_appends_21 ?_
  refine lv_iconst (v := Int32.ofInt 1) hx hb dX7_appends_22 rfl ?_
  refine z_iadd hx hb dX7_appends_23 ?_
  refine z_iast (n := 461) (f := (up c_s (((101 + (c_s 4))).toNat) x1)) (i := 4) (x := (((up c_s (((101 + (c_s 4))).toNat) x1) 4) + 1)) (ws' := (zMo cI cZ h_M q_M (up (up c_s (((101 + (c_s 4))).toNat) x1) (4) (((up c_s (((101 + (c_s 4))).toNat) x1) 4) + 1)) c_past c_kept c_isKept c_pasts c_text c_typed c_rect c_item c_items c_itemLevel c_treated c_from c_group c_turn c_size c_old c_aside c_begin c_level c_asides c_sorted c_spot c_rectangles c_parts c_visited)) hx hb hK hP hD hS 1 rfl rfl (by decide) (by decide) dX7_appends_24 rfl (fun H locs hP hD hS => ?_)
  obtain rfl := Option.some.inj h
  exact z_vret hx hb hr hlk (fun _ _ => 0) hP hD hS dX7_appends_25
def f_Mo_slice_L20 (x2 : Int) (k : Int → Option (Int)) : Nat → Int → Option (Int)
  | 0, _ => none
  | n + 1, x3 =>
  gd (ck (x3 * x3)) <| gd (ck x2) <| if (x3 * x3) < x2 then (f_Mo_slice_L20 x2 k n ((x3 + 1))) else (k (x3))
def f_Mo_slice (c_s : Nat → Int) (x1 : Int) : Option (Int) :=
  gd (((0 : Int) ≤ ((x1 + (c_s 0)) - 1) ∧ ((x1 + (c_s 0)) - 1) ≤ 2147483647) ∧ (0 : Int) < (c_s 0) ∧ ((c_s 0) : Int) ≤ 2147483647) <| f_Mo_slice_L20 ((((x1 + (c_s 0)) - 1) / (c_s 0))) (fun x3_5 => some ((x3_5 * (c_s 0)))) FU (1)
abbrev rm_Mo_slice : Room := ({ frames := 0, cells := 0, slots := 0, locals := 0 } : Room)
set_option maxHeartbeats 4000000 in
set_option maxRecDepth 100000 in
theorem w_Mo_slice_L20 {p : Program} {l : Launch} {e : Env} {s : State} {m : MethodId} {args : Array Value} {below : List Frame} {meth : Method} {c : Code} {A : Nat → Prop} (D : va_G) (cI cZ cT : ClassId) (h_M : Nat) (q_M : Nat → Nat) (c_s : Nat → Int) (c_past : Nat → Int) (c_kept : Nat → Int) (c_isKept : Int) (c_pasts : Int) (c_text : Nat → Int) (c_typed : Int) (c_rect : Nat → Int) (c_item : Nat → Int) (c_items : Int) (c_itemLevel : Int) (c_treated : Nat → Int) (c_from : Nat → Int) (c_group : Nat → Int) (c_turn : Nat → Int) (c_size : Nat → Int) (c_old : Nat → Int) (c_aside : Nat → Int) (c_begin : Nat → Int) (c_level : Nat → Int) (c_asides : Int) (c_sorted : Nat → Int) (c_spot : Int) (c_rectangles : Int) (c_parts : Nat → Int) (c_visited : Nat → Int) (x2 : Int) (res : Int) (k : Int → Option (Int)) (hF : zF p m c cX7_slice 4 s args yX7_slice.cls meth (some .int) yX7_slice.name A D (zt cI cZ cT))
    (hk : ∀ (x3 : Int) (H : Heap) (locs : List Loc) (ls : Array Slot), k x3 = some res → va_P D vwCl ((zMo cI cZ h_M q_M c_s c_past c_kept c_isKept c_pasts c_text c_typed c_rect c_item c_items c_itemLevel c_treated c_from c_group c_turn c_size c_old c_aside c_begin c_level c_asides c_sorted c_spot c_rectangles c_parts c_visited)) H → va_D A ((zMo cI cZ h_M q_M c_s c_past c_kept c_isKept c_pasts c_text c_typed c_rect c_item c_items c_itemLevel c_treated c_from c_group c_turn c_size c_old c_aside c_begin c_level c_asides c_sorted c_spot c_rectangles c_parts c_visited)) → va_S A s.heap H locs → lv_has ls 4 [(0, .ref h_M), (3, vI x3)] → W p l e rm_Mo_slice s m args below meth c H locs 0 0 (MQ below (zQi D (res) (fun u => (zMo cI cZ h_M q_M c_s c_past c_kept c_isKept c_pasts c_text c_typed c_rect c_item c_items c_itemLevel c_treated c_from c_group c_turn c_size c_old c_aside c_begin c_level c_asides c_sorted c_spot c_rectangles c_parts c_visited)) A) args s 0 0 A) (F0 m 33 ls [])) :
    ∀ (n : Nat) (x3 : Int) (H : Heap) (locs : List Loc) (ls : Array Slot), f_Mo_slice_L20 x2 k n x3 = some res → va_P D vwCl ((zMo cI cZ h_M q_M c_s c_past c_kept c_isKept c_pasts c_text c_typed c_rect c_item c_items c_itemLevel c_treated c_from c_group c_turn c_size c_old c_aside c_begin c_level c_asides c_sorted c_spot c_rectangles c_parts c_visited)) H → va_D A ((zMo cI cZ h_M q_M c_s c_past c_kept c_isKept c_pasts c_text c_typed c_rect c_item c_items c_itemLevel c_treated c_from c_group c_turn c_size c_old c_aside c_begin c_level c_asides c_sorted c_spot c_rectangles c_parts c_visited)) → va_S A s.heap H locs → lv_has ls 4 [(0, .ref h_M), (2, vI x2), (3, vI x3)] → W p l e rm_Mo_slice s m args below meth c H locs 0 0 (MQ below (zQi D (res) (fun u => (zMo cI cZ h_M q_M c_s c_past c_kept c_isKept c_pasts c_text c_typed c_rect c_item c_items c_itemLevel c_treated c_from c_group c_turn c_size c_old c_aside c_begin c_level c_asides c_sorted c_spot c_rectangles c_parts c_visited)) A) args s 0 0 A) (F0 m 20 ls []) := by
  have hx := hF.1.1
  have hb := hF.1.2.1
  have hml := hF.1.2.2.1
  have hown : s.vm.findClass "RectangleTreeModel" = some m.cls := hF.1.2.2.2.1
  have hts := hF.1.2.2.2.2
  have hr := hF.2.1
  have hlk := hF.2.2.1
  have hK := hF.2.2.2.2.1
  have hN := hF.2.2.2.2.2.1
  have hA := hF.2.2.2.2.2.2
  intro n
  induction n with
  | zero => intro x3 H locs ls h; cases h
  | succ n ih =>
    intro x3 H locs ls h hP hD hS hl
    rw [f_Mo_slice_L20] at h
    refine lv_iload_n hx hb dX7_slice_20 rfl (lv_at hl 2 rfl) ?_
    refine lv_iload_n hx hb dX7_slice_21 rfl (lv_at hl 2 rfl) ?_
    refine z_imul hx hb dX7_slice_22 ?_
    refine lv_iload_n hx hb dX7_slice_23 rfl (lv_at hl 1 rfl) ?_
    obtain ⟨g_2, h⟩ := gd_e h
    obtain ⟨g_3, h⟩ := gd_e h
    refine z_icmp_ge (tgt := 33) hx hb g_2 g_3 dX7_slice_24 (by decide) (fun b_4 => ?_) (fun b_4 => ?_)
    · have h := it_n b_4 h
      exact hk (x3) H locs ls h hP hD hS (lv_sub hl [0, 2] rfl)
    · have h := it_p b_4 h
      refine lv_iinc (v := Int32.ofInt (x3 + 1)) (lv' := [(3, vI (x3 + 1)), (0, .ref h_M), (2, vI x2)]) hx hb dX7_slice_27 hl (k := 2) rfl (z_inc _ _) (by decide) rfl (fun ls hl => ?_)
      refine lv_goto (tgt := 20) hx hb dX7_slice_30 (by decide) ?_
      exact ih ((x3 + 1)) H locs ls h hP hD hS (lv_sub hl [1, 2, 0] rfl)
set_option maxHeartbeats 4000000 in
set_option maxRecDepth 100000 in
theorem c_Mo_slice (l : Launch) (D : va_G) (cI cZ cT : ClassId) (h_M : Nat) (q_M : Nat → Nat) (c_s : Nat → Int) (c_past : Nat → Int) (c_kept : Nat → Int) (c_isKept : Int) (c_pasts : Int) (c_text : Nat → Int) (c_typed : Int) (c_rect : Nat → Int) (c_item : Nat → Int) (c_items : Int) (c_itemLevel : Int) (c_treated : Nat → Int) (c_from : Nat → Int) (c_group : Nat → Int) (c_turn : Nat → Int) (c_size : Nat → Int) (c_old : Nat → Int) (c_aside : Nat → Int) (c_begin : Nat → Int) (c_level : Nat → Int) (c_asides : Int) (c_sorted : Nat → Int) (c_spot : Int) (c_rectangles : Int) (c_parts : Nat → Int) (c_visited : Nat → Int) (x1 : Int) (sz : Nat) (res : Int) (h : f_Mo_slice c_s x1 = some res) : zMi l yX7_slice cX7_slice 4 rm_Mo_slice D (zt cI cZ cT) [.ref h_M, vI x1] ((zMo cI cZ h_M q_M c_s c_past c_kept c_isKept c_pasts c_text c_typed c_rect c_item c_items c_itemLevel c_treated c_from c_group c_turn c_size c_old c_aside c_begin c_level c_asides c_sorted c_spot c_rectangles c_parts c_visited)) sz (res) (fun u => (zMo cI cZ h_M q_M c_s c_past c_kept c_isKept c_pasts c_text c_typed c_rect c_item c_items c_itemLevel c_treated c_from c_group c_turn c_size c_old c_aside c_begin c_level c_asides c_sorted c_spot c_rectangles c_parts c_visited)) 0 0 := by
  refine z_enth (Qc := zQi D (res) (fun u => (zMo cI cZ h_M q_M c_s c_past c_kept c_isKept c_pasts c_text c_typed c_rect c_item c_items c_itemLevel c_treated c_from c_group c_turn c_size c_old c_aside c_begin c_level c_asides c_sorted c_spot c_rectangles c_parts c_visited))) (by decide) (Nat.le_of_ble_eq_true rfl) (fun p e s m args below meth c A ls H locs hF hP hD hS hl => ?_)
  have hx := hF.1.1
  have hb := hF.1.2.1
  have hml := hF.1.2.2.1
  have hown : s.vm.findClass "RectangleTreeModel" = some m.cls := hF.1.2.2.2.1
  have hts := hF.1.2.2.2.2
  have hr := hF.2.1
  have hlk := hF.2.2.1
  have hK := hF.2.2.2.2.1
  have hN := hF.2.2.2.2.2.1
  have hA := hF.2.2.2.2.2.2
  unfold f_Mo_slice at h
  refine lv_iload_n hx hb dX7_slice_0 rfl (lv_at hl 1 rfl) ?_
  refine lv_aload_n hx hb dX7_slice_1 rfl (lv_at hl 0 rfl) ?_
  refine va_get (D := D) (ci := 7) (v := .ref (q_M 0)) (C := RX7) (T := TX7) (N := 26) hx hb hts zin7 hown hK hP 0 rfl rfl 0 (by decide) (hts _ wm787) (fun _ h9 => h9) rfl dX7_slice_2 ?_
  refine lv_iconst (v := Int32.ofInt 0) hx hb dX7_slice_5 rfl ?_
  refine z_iald (n := 461) (f := c_s) (i := 0) hx hb hK hP 1 rfl rfl (by decide) (by decide) dX7_slice_6 ?_
  refine z_iadd hx hb dX7_slice_7 ?_
  refine lv_iconst (v := Int32.ofInt 1) hx hb dX7_slice_8 rfl ?_
  refine z_isub hx hb dX7_slice_9 ?_
  refine lv_aload_n hx hb dX7_slice_10 rfl (lv_at hl 0 rfl) ?_
  refine va_get (D := D) (ci := 7) (v := .ref (q_M 0)) (C := RX7) (T := TX7) (N := 26) hx hb hts zin7 hown hK hP 0 rfl rfl 0 (by decide) (hts _ wm787) (fun _ h9 => h9) rfl dX7_slice_11 ?_
  refine lv_iconst (v := Int32.ofInt 0) hx hb dX7_slice_14 rfl ?_
  refine z_iald (n := 461) (f := c_s) (i := 0) hx hb hK hP 1 rfl rfl (by decide) (by decide) dX7_slice_15 ?_
  obtain ⟨g_1, h⟩ := gd_e h
  refine z_idiv hx hb g_1 dX7_slice_16 ?_
  refine lv_istore_n (lv' := [(2, vI (((x1 + (c_s 0)) - 1) / (c_s 0))), (0, .ref h_M), (1, vI x1)]) hx hb dX7_slice_17 rfl hl (by decide) rfl (fun ls hl => ?_)
  refine lv_iconst (v := Int32.ofInt 1) hx hb dX7_slice_18 rfl ?_
  refine lv_istore_n (lv' := [(3, vI 1), (2, vI (((x1 + (c_s 0)) - 1) / (c_s 0))), (0, .ref h_M), (1, vI x1)]) hx hb dX7_slice_19 rfl hl (by decide) rfl (fun ls hl => ?_)
  refine w_Mo_slice_L20 D cI cZ cT (h_M) (q_M) (c_s) (c_past) (c_kept) (c_isKept) (c_pasts) (c_text) (c_typed) (c_rect) (c_item) (c_items) (c_itemLevel) (c_treated) (c_from) (c_group) (c_turn) (c_size) (c_old) (c_aside) (c_begin) (c_level) (c_asides) (c_sorted) (c_spot) (c_rectangles) (c_parts) (c_visited) ((((x1 + (c_s 0)) - 1) / (c_s 0))) _ _ hF (fun x3_5 H locs ls h hP hD hS hl => ?_) _ (1) _ _ _ h hP hD hS (lv_sub hl [2, 1, 0] rfl)
  refine lv_iload_n hx hb dX7_slice_33 rfl (lv_at hl 1 rfl) ?_
  refine lv_aload_n hx hb dX7_slice_34 rfl (lv_at hl 0 rfl) ?_
  refine va_get (D := D) (ci := 7) (v := .ref (q_M 0)) (C := RX7) (T := TX7) (N := 26) hx hb hts zin7 hown hK hP 0 rfl rfl 0 (by decide) (hts _ wm787) (fun _ h9 => h9) rfl dX7_slice_35 ?_
  refine lv_iconst (v := Int32.ofInt 0) hx hb dX7_slice_38 rfl ?_
  refine z_iald (n := 461) (f := c_s) (i := 0) hx hb hK hP 1 rfl rfl (by decide) (by decide) dX7_slice_39 ?_
  refine z_imul hx hb dX7_slice_40 ?_
  obtain rfl := Option.some.inj h
  exact z_iret hx hb hr hlk (fun _ _ => 0) hP hD hS dX7_slice_41
def f_Mo_packsLeaves_L15 (c_s : Nat → Int) (x1 : Int) (x2 : Int) (k : Int → (Nat → Int) → Option ((Nat → Int) × (Nat → Int))) : Nat → Int → (Nat → Int) → Option ((Nat → Int) × (Nat → Int))
  | 0, _, _ => none
  | n + 1, x3, c_sorted =>
  gd (ck x3) <| gd (ck x1) <| if x3 < x1 then (bd1 (f_Mo_less (x3 + x2) x1) <| fun r_10 => bd1 (f_Mo_sorts c_s c_sorted x3 r_10 1) <| fun c_sorted_13 => f_Mo_packsLeaves_L15 c_s x1 x2 k n ((x3 + x2)) (c_sorted_13)) else (k (x3) (c_sorted))
def f_Mo_packsLeaves_L49 (c_sorted : Nat → Int) (x1 : Int) (x2 : Int) (k : Int → (Nat → Int) → Option ((Nat → Int) × (Nat → Int))) : Nat → Int → (Nat → Int) → Option ((Nat → Int) × (Nat → Int))
  | 0, _, _ => none
  | n + 1, x3, c_s =>
  gd (ck x3) <| gd (ck x1) <| if x3 < x1 then (gd (((0 : Int) ≤ x3 ∧ x3 ≤ 2147483647) ∧ (0 : Int) < x2 ∧ (x2 : Int) ≤ 2147483647) <| gd (((0 : Int) ≤ (x3 % x2) ∧ (x3 % x2) ≤ 2147483647) ∧ (0 : Int) < (c_s 0) ∧ ((c_s 0) : Int) ≤ 2147483647) <| gd (ck ((x3 % x2) % (c_s 0))) <| if ((x3 % x2) % (c_s 0)) = 0 then (bd1 (f_Mo_appends c_s (-1)) <| fun c_s_29 => gd (0 ≤ x3 ∧ x3 < ((24 : Nat) : Int)) <| bd1 (f_Mo_appends c_s_29 (c_sorted (x3).toNat)) <| fun c_s_33 => f_Mo_packsLeaves_L49 c_sorted x1 x2 k n ((x3 + 1)) (c_s_33)) else (gd (0 ≤ x3 ∧ x3 < ((24 : Nat) : Int)) <| bd1 (f_Mo_appends c_s (c_sorted (x3).toNat)) <| fun c_s_26 => f_Mo_packsLeaves_L49 c_sorted x1 x2 k n ((x3 + 1)) (c_s_26))) else (k (x3) (c_s))
def f_Mo_packsLeaves (c_s : Nat → Int) (c_sorted : Nat → Int) (x1 : Int) : Option ((Nat → Int) × (Nat → Int)) :=
  bd1 (f_Mo_slice c_s x1) <| fun r_1 => bd1 (f_Mo_sorts c_s c_sorted 0 x1 0) <| fun c_sorted_4 => f_Mo_packsLeaves_L15 (c_s) (x1) (r_1) (fun x3_16 c_sorted_17 => f_Mo_packsLeaves_L49 (c_sorted_17) (x1) (r_1) (fun x3_36 c_s_37 => some (c_s_37, c_sorted_17)) FU (0) ((up c_s (4) 0))) FU (0) (c_sorted_4)
abbrev rm_Mo_packsLeaves : Room := ({ frames := 2, cells := 0, slots := 0, locals := 48 } : Room)
set_option maxHeartbeats 4000000 in
set_option maxRecDepth 100000 in
theorem w_Mo_packsLeaves_L15 {p : Program} {l : Launch} {e : Env} {s : State} {m : MethodId} {args : Array Value} {below : List Frame} {meth : Method} {c : Code} {A : Nat → Prop} (D : va_G) (cI cZ cT : ClassId) (h_M : Nat) (q_M : Nat → Nat) (c_s : Nat → Int) (c_past : Nat → Int) (c_kept : Nat → Int) (c_isKept : Int) (c_pasts : Int) (c_text : Nat → Int) (c_typed : Int) (c_rect : Nat → Int) (c_item : Nat → Int) (c_items : Int) (c_itemLevel : Int) (c_treated : Nat → Int) (c_from : Nat → Int) (c_group : Nat → Int) (c_turn : Nat → Int) (c_size : Nat → Int) (c_old : Nat → Int) (c_aside : Nat → Int) (c_begin : Nat → Int) (c_level : Nat → Int) (c_asides : Int) (c_spot : Int) (c_rectangles : Int) (c_parts : Nat → Int) (c_visited : Nat → Int) (x1 : Int) (x2 : Int) (res : (Nat → Int) × (Nat → Int)) (k : Int → (Nat → Int) → Option ((Nat → Int) × (Nat → Int))) (hF : zF p m c cX7_packsLeaves 4 s args yX7_packsLeaves.cls meth none yX7_packsLeaves.name A D (zt cI cZ cT))
    (hk : ∀ (x3 : Int) (c_sorted : Nat → Int) (H : Heap) (locs : List Loc) (ls : Array Slot), k x3 c_sorted = some res → va_P D vwCl ((zMo cI cZ h_M q_M c_s c_past c_kept c_isKept c_pasts c_text c_typed c_rect c_item c_items c_itemLevel c_treated c_from c_group c_turn c_size c_old c_aside c_begin c_level c_asides c_sorted c_spot c_rectangles c_parts c_visited)) H → va_D A ((zMo cI cZ h_M q_M c_s c_past c_kept c_isKept c_pasts c_text c_typed c_rect c_item c_items c_itemLevel c_treated c_from c_group c_turn c_size c_old c_aside c_begin c_level c_asides c_sorted c_spot c_rectangles c_parts c_visited)) → va_S A s.heap H locs → lv_has ls 4 [(0, .ref h_M), (1, vI x1), (2, vI x2)] → W p l e rm_Mo_packsLeaves s m args below meth c H locs 0 0 (MQ below (zQv D (fun u => (zMo cI cZ h_M q_M (res.1) c_past c_kept c_isKept c_pasts c_text c_typed c_rect c_item c_items c_itemLevel c_treated c_from c_group c_turn c_size c_old c_aside c_begin c_level c_asides (res.2) c_spot c_rectangles c_parts c_visited)) A) args s 0 0 A) (F0 m 40 ls [])) :
    ∀ (n : Nat) (x3 : Int) (c_sorted : Nat → Int) (H : Heap) (locs : List Loc) (ls : Array Slot), f_Mo_packsLeaves_L15 c_s x1 x2 k n x3 c_sorted = some res → va_P D vwCl ((zMo cI cZ h_M q_M c_s c_past c_kept c_isKept c_pasts c_text c_typed c_rect c_item c_items c_itemLevel c_treated c_from c_group c_turn c_size c_old c_aside c_begin c_level c_asides c_sorted c_spot c_rectangles c_parts c_visited)) H → va_D A ((zMo cI cZ h_M q_M c_s c_past c_kept c_isKept c_pasts c_text c_typed c_rect c_item c_items c_itemLevel c_treated c_from c_group c_turn c_size c_old c_aside c_begin c_level c_asides c_sorted c_spot c_rectangles c_parts c_visited)) → va_S A s.heap H locs → lv_has ls 4 [(0, .ref h_M), (1, vI x1), (2, vI x2), (3, vI x3)] → W p l e rm_Mo_packsLeaves s m args below meth c H locs 0 0 (MQ below (zQv D (fun u => (zMo cI cZ h_M q_M (res.1) c_past c_kept c_isKept c_pasts c_text c_typed c_rect c_item c_items c_itemLevel c_treated c_from c_group c_turn c_size c_old c_aside c_begin c_level c_asides (res.2) c_spot c_rectangles c_parts c_visited)) A) args s 0 0 A) (F0 m 15 ls []) := by
  have hx := hF.1.1
  have hb := hF.1.2.1
  have hml := hF.1.2.2.1
  have hown : s.vm.findClass "RectangleTreeModel" = some m.cls := hF.1.2.2.2.1
  have hts := hF.1.2.2.2.2
  have hr := hF.2.1
  have hlk := hF.2.2.1
  have hK := hF.2.2.2.2.1
  have hN := hF.2.2.2.2.2.1
  have hA := hF.2.2.2.2.2.2
  intro n
  induction n with
  | zero => intro x3 c_sorted H locs ls h; cases h
  | succ n ih =>
    intro x3 c_sorted H locs ls h hP hD hS hl
    rw [f_Mo_packsLeaves_L15] at h
    refine lv_iload_n hx hb dX7_packsLeaves_15 rfl (lv_at hl 3 rfl) ?_
    refine lv_iload_n hx hb dX7_packsLeaves_16 rfl (lv_at hl 1 rfl) ?_
    obtain ⟨g_7, h⟩ := gd_e h
    obtain ⟨g_8, h⟩ := gd_e h
    refine z_icmp_ge (tgt := 40) hx hb g_7 g_8 dX7_packsLeaves_17 (by decide) (fun b_9 => ?_) (fun b_9 => ?_)
    · have h := it_n b_9 h
      exact hk (x3) (c_sorted) H locs ls h hP hD hS (lv_sub hl [0, 1, 2] rfl)
    · have h := it_p b_9 h
      refine lv_aload_n hx hb dX7_packsLeaves_20 rfl (lv_at hl 0 rfl) ?_
      refine lv_iload_n hx hb dX7_packsLeaves_21 rfl (lv_at hl 3 rfl) ?_
      refine lv_iload_n hx hb dX7_packsLeaves_22 rfl (lv_at hl 3 rfl) ?_
      refine lv_iload_n hx hb dX7_packsLeaves_23 rfl (lv_at hl 2 rfl) ?_
      refine z_iadd hx hb dX7_packsLeaves_24 ?_
      refine lv_iload_n hx hb dX7_packsLeaves_25 rfl (lv_at hl 1 rfl) ?_
      obtain ⟨r_10, e_11, h⟩ := bd1_e h
      refine z_goi (ws' := []) (ret := r_10) (wc := ([] : va_W)) (wn := fun u_12 => (zMo cI cZ h_M q_M c_s c_past c_kept c_isKept c_pasts c_text c_typed c_rect c_item c_items c_itemLevel c_treated c_from c_group c_turn c_size c_old c_aside c_begin c_level c_asides c_sorted c_spot c_rectangles c_parts c_visited)) (wr := ([0, 1, 2, 3, 4, 5, 6, 7, 8, 9, 10, 11, 12, 13, 14, 15, 16, 17, 18].filterMap (fun i => ((zMo cI cZ h_M q_M c_s c_past c_kept c_isKept c_pasts c_text c_typed c_rect c_item c_items c_itemLevel c_treated c_from c_group c_turn c_size c_old c_aside c_begin c_level c_asides c_sorted c_spot c_rectangles c_parts c_visited))[i]?))) (va_runS (As := [vI (x3 + x2), vI x1]) (rest := [vI x3, .ref h_M]) hF.1 (c_Mo_less l D cI cZ cT (x3 + x2) x1 H.size (r_10) e_11) (va_cwS 2 hts (zgS wm905 wm906 wm89 wm907) rfl rfl rfl (by decide +kernel) ⟨Nat.le_of_ble_eq_true rfl, Nat.le_of_ble_eq_true rfl⟩) ⟨zP.blind, zP.enter (z_subP (ws' := ([] : va_W)) hP [] rfl) hK (hD.sub [] (by decide) rfl) hN⟩ rfl rfl hl.1 rfl (lv_room (Nat.le_of_ble_eq_true rfl)) dX7_packsLeaves_26 ⟨Nat.le_refl _, Nat.le_refl _⟩) hP hD hS hA [] [0, 1, 2, 3, 4, 5, 6, 7, 8, 9, 10, 11, 12, 13, 14, 15, 16, 17, 18] [0, 1, 2, 3, 4, 5, 6, 7, 8, 9, 10, 11, 12, 13, 14, 15, 16, 17, 18] rfl rfl (by decide) (fun _ => rfl) (fun u_12 H locs hP hD hS hz => ?_)
      refine lv_iconst (v := Int32.ofInt 1) hx hb dX7_packsLeaves_29 rfl ?_
      obtain ⟨c_sorted_13, e_14, h⟩ := bd1_e h
      refine z_gov (wc := (zMo cI cZ (h_M) (q_M) (c_s) (c_past) (c_kept) (c_isKept) (c_pasts) (c_text) (c_typed) (c_rect) (c_item) (c_items) (c_itemLevel) (c_treated) (c_from) (c_group) (c_turn) (c_size) (c_old) (c_aside) (c_begin) (c_level) (c_asides) (c_sorted) (c_spot) (c_rectangles) (c_parts) (c_visited))) (wn := fun u_15 => (zMo cI cZ h_M q_M c_s c_past c_kept c_isKept c_pasts c_text c_typed c_rect c_item c_items c_itemLevel c_treated c_from c_group c_turn c_size c_old c_aside c_begin c_level c_asides c_sorted_13 c_spot c_rectangles c_parts c_visited)) (wr := []) (va_runV (As := [vI x3, vI r_10, vI 1]) (rest := []) hF.1 (c_Mo_sorts l D cI cZ cT h_M q_M c_s c_past c_kept c_isKept c_pasts c_text c_typed c_rect c_item c_items c_itemLevel c_treated c_from c_group c_turn c_size c_old c_aside c_begin c_level c_asides c_sorted c_spot c_rectangles c_parts c_visited x3 r_10 1 H.size (c_sorted_13) e_14) (cwV 3 hts (zgV wm1038 wm1040 wm67 wm89 wm1041) rfl rfl rfl (by decide +kernel) ⟨Nat.le_of_ble_eq_true rfl, Nat.le_of_ble_eq_true rfl⟩) ⟨zP.blind, va_recv hK (z_subP (ws' := (zMo cI cZ (h_M) (q_M) (c_s) (c_past) (c_kept) (c_isKept) (c_pasts) (c_text) (c_typed) (c_rect) (c_item) (c_items) (c_itemLevel) (c_treated) (c_from) (c_group) (c_turn) (c_size) (c_old) (c_aside) (c_begin) (c_level) (c_asides) (c_sorted) (c_spot) (c_rectangles) (c_parts) (c_visited))) hP [0, 1, 2, 3, 4, 5, 6, 7, 8, 9, 10, 11, 12, 13, 14, 15, 16, 17, 18] rfl) (ci := 7) (q0 := 0) rfl rfl, zP.enter (z_subP (ws' := (zMo cI cZ (h_M) (q_M) (c_s) (c_past) (c_kept) (c_isKept) (c_pasts) (c_text) (c_typed) (c_rect) (c_item) (c_items) (c_itemLevel) (c_treated) (c_from) (c_group) (c_turn) (c_size) (c_old) (c_aside) (c_begin) (c_level) (c_asides) (c_sorted) (c_spot) (c_rectangles) (c_parts) (c_visited))) hP [0, 1, 2, 3, 4, 5, 6, 7, 8, 9, 10, 11, 12, 13, 14, 15, 16, 17, 18] rfl) hK (hD.sub [0, 1, 2, 3, 4, 5, 6, 7, 8, 9, 10, 11, 12, 13, 14, 15, 16, 17, 18] (by decide) rfl) hN⟩ rfl rfl hl.1 rfl (lv_room (Nat.le_of_ble_eq_true rfl)) dX7_packsLeaves_30 ⟨Nat.le_refl _, Nat.le_refl _⟩) hP hD hS hA [0, 1, 2, 3, 4, 5, 6, 7, 8, 9, 10, 11, 12, 13, 14, 15, 16, 17, 18] [] [0, 1, 2, 3, 4, 5, 6, 7, 8, 9, 10, 11, 12, 13, 14, 15, 16, 17, 18] rfl rfl (by decide) (fun _ => rfl) (fun u_15 H locs hP hD hS hz => ?_)
      refine lv_iload_n hx hb dX7_packsLeaves_33 rfl (lv_at hl 3 rfl) ?_
      refine lv_iload_n hx hb dX7_packsLeaves_34 rfl (lv_at hl 2 rfl) ?_
      refine z_iadd hx hb dX7_packsLeaves_35 ?_
      refine lv_istore_n (lv' := [(3, vI (x3 + x2)), (0, .ref h_M), (1, vI x1), (2, vI x2)]) hx hb dX7_packsLeaves_36 rfl hl (by decide) rfl (fun ls hl => ?_)
      refine lv_goto (tgt := 15) hx hb dX7_packsLeaves_37 (by decide) ?_
      exact ih ((x3 + x2)) (c_sorted_13) H locs ls h hP hD hS (lv_sub hl [1, 2, 3, 0] rfl)
set_option maxHeartbeats 4000000 in
set_option maxRecDepth 100000 in
theorem w_Mo_packsLeaves_L49 {p : Program} {l : Launch} {e : Env} {s : State} {m : MethodId} {args : Array Value} {below : List Frame} {meth : Method} {c : Code} {A : Nat → Prop} (D : va_G) (cI cZ cT : ClassId) (h_M : Nat) (q_M : Nat → Nat) (c_past : Nat → Int) (c_kept : Nat → Int) (c_isKept : Int) (c_pasts : Int) (c_text : Nat → Int) (c_typed : Int) (c_rect : Nat → Int) (c_item : Nat → Int) (c_items : Int) (c_itemLevel : Int) (c_treated : Nat → Int) (c_from : Nat → Int) (c_group : Nat → Int) (c_turn : Nat → Int) (c_size : Nat → Int) (c_old : Nat → Int) (c_aside : Nat → Int) (c_begin : Nat → Int) (c_level : Nat → Int) (c_asides : Int) (c_sorted : Nat → Int) (c_spot : Int) (c_rectangles : Int) (c_parts : Nat → Int) (c_visited : Nat → Int) (x1 : Int) (x2 : Int) (res : (Nat → Int) × (Nat → Int)) (k : Int → (Nat → Int) → Option ((Nat → Int) × (Nat → Int))) (hF : zF p m c cX7_packsLeaves 4 s args yX7_packsLeaves.cls meth none yX7_packsLeaves.name A D (zt cI cZ cT))
    (hk : ∀ (x3 : Int) (c_s : Nat → Int) (H : Heap) (locs : List Loc) (ls : Array Slot), k x3 c_s = some res → va_P D vwCl ((zMo cI cZ h_M q_M c_s c_past c_kept c_isKept c_pasts c_text c_typed c_rect c_item c_items c_itemLevel c_treated c_from c_group c_turn c_size c_old c_aside c_begin c_level c_asides c_sorted c_spot c_rectangles c_parts c_visited)) H → va_D A ((zMo cI cZ h_M q_M c_s c_past c_kept c_isKept c_pasts c_text c_typed c_rect c_item c_items c_itemLevel c_treated c_from c_group c_turn c_size c_old c_aside c_begin c_level c_asides c_sorted c_spot c_rectangles c_parts c_visited)) → va_S A s.heap H locs → lv_has ls 4 [] → W p l e rm_Mo_packsLeaves s m args below meth c H locs 0 0 (MQ below (zQv D (fun u => (zMo cI cZ h_M q_M (res.1) c_past c_kept c_isKept c_pasts c_text c_typed c_rect c_item c_items c_itemLevel c_treated c_from c_group c_turn c_size c_old c_aside c_begin c_level c_asides (res.2) c_spot c_rectangles c_parts c_visited)) A) args s 0 0 A) (F0 m 88 ls [])) :
    ∀ (n : Nat) (x3 : Int) (c_s : Nat → Int) (H : Heap) (locs : List Loc) (ls : Array Slot), f_Mo_packsLeaves_L49 c_sorted x1 x2 k n x3 c_s = some res → va_P D vwCl ((zMo cI cZ h_M q_M c_s c_past c_kept c_isKept c_pasts c_text c_typed c_rect c_item c_items c_itemLevel c_treated c_from c_group c_turn c_size c_old c_aside c_begin c_level c_asides c_sorted c_spot c_rectangles c_parts c_visited)) H → va_D A ((zMo cI cZ h_M q_M c_s c_past c_kept c_isKept c_pasts c_text c_typed c_rect c_item c_items c_itemLevel c_treated c_from c_group c_turn c_size c_old c_aside c_begin c_level c_asides c_sorted c_spot c_rectangles c_parts c_visited)) → va_S A s.heap H locs → lv_has ls 4 [(0, .ref h_M), (1, vI x1), (2, vI x2), (3, vI x3)] → W p l e rm_Mo_packsLeaves s m args below meth c H locs 0 0 (MQ below (zQv D (fun u => (zMo cI cZ h_M q_M (res.1) c_past c_kept c_isKept c_pasts c_text c_typed c_rect c_item c_items c_itemLevel c_treated c_from c_group c_turn c_size c_old c_aside c_begin c_level c_asides (res.2) c_spot c_rectangles c_parts c_visited)) A) args s 0 0 A) (F0 m 49 ls []) := by
  have hx := hF.1.1
  have hb := hF.1.2.1
  have hml := hF.1.2.2.1
  have hown : s.vm.findClass "RectangleTreeModel" = some m.cls := hF.1.2.2.2.1
  have hts := hF.1.2.2.2.2
  have hr := hF.2.1
  have hlk := hF.2.2.1
  have hK := hF.2.2.2.2.1
  have hN := hF.2.2.2.2.2.1
  have hA := hF.2.2.2.2.2.2
  intro n
  induction n with
  | zero => intro x3 c_s H locs ls h; cases h
  | succ n ih =>
    intro x3 c_s H locs ls h hP hD hS hl
    rw [f_Mo_packsLeaves_L49] at h
    refine lv_iload_n hx hb dX7_packsLeaves_49 rfl (lv_at hl 3 rfl) ?_
    refine lv_iload_n hx hb dX7_packsLeaves_50 rfl (lv_at hl 1 rfl) ?_
    obtain ⟨g_18, h⟩ := gd_e h
    obtain ⟨g_19, h⟩ := gd_e h
    refine z_icmp_ge (tgt := 88) hx hb g_18 g_19 dX7_packsLeaves_51 (by decide) (fun b_20 => ?_) (fun b_20 => ?_)
    · have h := it_n b_20 h
      exact hk (x3) (c_s) H locs ls h hP hD hS (lv_sub hl [] rfl)
    · have h := it_p b_20 h
      refine lv_iload_n hx hb dX7_packsLeaves_54 rfl (lv_at hl 3 rfl) ?_
      refine lv_iload_n hx hb dX7_packsLeaves_55 rfl (lv_at hl 2 rfl) ?_
      obtain ⟨g_21, h⟩ := gd_e h
      refine z_irem hx hb g_21 dX7_packsLeaves_56 ?_
      refine lv_aload_n hx hb dX7_packsLeaves_57 rfl (lv_at hl 0 rfl) ?_
      refine va_get (D := D) (ci := 7) (v := .ref (q_M 0)) (C := RX7) (T := TX7) (N := 26) hx hb hts zin7 hown hK hP 0 rfl rfl 0 (by decide) (hts _ wm787) (fun _ h9 => h9) rfl dX7_packsLeaves_58 ?_
      refine lv_iconst (v := Int32.ofInt 0) hx hb dX7_packsLeaves_61 rfl ?_
      refine z_iald (n := 461) (f := c_s) (i := 0) hx hb hK hP 1 rfl rfl (by decide) (by decide) dX7_packsLeaves_62 ?_
      obtain ⟨g_22, h⟩ := gd_e h
      refine z_irem hx hb g_22 dX7_packsLeaves_63 ?_
      obtain ⟨g_23, h⟩ := gd_e h
      refine z_if_ne (tgt := 72) hx hb g_23 dX7_packsLeaves_64 (by decide) (fun b_24 => ?_) (fun b_24 => ?_)
      · have h := it_n b_24 h
        refine lv_aload_n hx hb dX7_packsLeaves_72 rfl (lv_at hl 0 rfl) ?_
        refine lv_aload_n hx hb dX7_packsLeaves_73 rfl (lv_at hl 0 rfl) ?_
        refine va_get (D := D) (ci := 7) (v := .ref (q_M 15)) (C := RX7) (T := TX7) (N := 26) hx hb hts zin7 hown hK hP 0 rfl rfl 21 (by decide) (hts _ wm808) (fun _ h9 => h9) rfl dX7_packsLeaves_74 ?_
        refine lv_iload_n hx hb dX7_packsLeaves_77 rfl (lv_at hl 3 rfl) ?_
        obtain ⟨g_25, h⟩ := gd_e h
        refine z_iald (n := 24) (f := c_sorted) (i := x3) hx hb hK hP 16 rfl rfl g_25 (by have := g_25.2; omega) dX7_packsLeaves_78 ?_
        obtain ⟨c_s_26, e_27, h⟩ := bd1_e h
        refine z_gov (wc := (zMo cI cZ (h_M) (q_M) (c_s) (c_past) (c_kept) (c_isKept) (c_pasts) (c_text) (c_typed) (c_rect) (c_item) (c_items) (c_itemLevel) (c_treated) (c_from) (c_group) (c_turn) (c_size) (c_old) (c_aside) (c_begin) (c_level) (c_asides) (c_sorted) (c_spot) (c_rectangles) (c_parts) (c_visited))) (wn := fun u_28 => (zMo cI cZ h_M q_M c_s_26 c_past c_kept c_isKept c_pasts c_text c_typed c_rect c_item c_items c_itemLevel c_treated c_from c_group c_turn c_size c_old c_aside c_begin c_level c_asides c_sorted c_spot c_rectangles c_parts c_visited)) (wr := []) (va_runV (As := [vI (c_sorted (x3).toNat)]) (rest := []) hF.1 (c_Mo_appends l D cI cZ cT h_M q_M c_s c_past c_kept c_isKept c_pasts c_text c_typed c_rect c_item c_items c_itemLevel c_treated c_from c_group c_turn c_size c_old c_aside c_begin c_level c_asides c_sorted c_spot c_rectangles c_parts c_visited (c_sorted (x3).toNat) H.size (c_s_26) e_27) (cwV 1 hts (zgV wm1046 wm1048 wm69 wm89 wm1049) rfl rfl rfl (by decide +kernel) ⟨Nat.le_of_ble_eq_true rfl, Nat.le_of_ble_eq_true rfl⟩) ⟨zP.blind, va_recv hK (z_subP (ws' := (zMo cI cZ (h_M) (q_M) (c_s) (c_past) (c_kept) (c_isKept) (c_pasts) (c_text) (c_typed) (c_rect) (c_item) (c_items) (c_itemLevel) (c_treated) (c_from) (c_group) (c_turn) (c_size) (c_old) (c_aside) (c_begin) (c_level) (c_asides) (c_sorted) (c_spot) (c_rectangles) (c_parts) (c_visited))) hP [0, 1, 2, 3, 4, 5, 6, 7, 8, 9, 10, 11, 12, 13, 14, 15, 16, 17, 18] rfl) (ci := 7) (q0 := 0) rfl rfl, zP.enter (z_subP (ws' := (zMo cI cZ (h_M) (q_M) (c_s) (c_past) (c_kept) (c_isKept) (c_pasts) (c_text) (c_typed) (c_rect) (c_item) (c_items) (c_itemLevel) (c_treated) (c_from) (c_group) (c_turn) (c_size) (c_old) (c_aside) (c_begin) (c_level) (c_asides) (c_sorted) (c_spot) (c_rectangles) (c_parts) (c_visited))) hP [0, 1, 2, 3, 4, 5, 6, 7, 8, 9, 10, 11, 12, 13, 14, 15, 16, 17, 18] rfl) hK (hD.sub [0, 1, 2, 3, 4, 5, 6, 7, 8, 9, 10, 11, 12, 13, 14, 15, 16, 17, 18] (by decide) rfl) hN⟩ rfl rfl hl.1 rfl (lv_room (Nat.le_of_ble_eq_true rfl)) dX7_packsLeaves_79 ⟨Nat.le_refl _, Nat.le_refl _⟩) hP hD hS hA [0, 1, 2, 3, 4, 5, 6, 7, 8, 9, 10, 11, 12, 13, 14, 15, 16, 17, 18] [] [0, 1, 2, 3, 4, 5, 6, 7, 8, 9, 10, 11, 12, 13, 14, 15, 16, 17, 18] rfl rfl (by decide) (fun _ => rfl) (fun u_28 H locs hP hD hS hz => ?_)
        refine lv_iinc (v := Int32.ofInt (x3 + 1)) (lv' := [(3, vI (x3 + 1)), (0, .ref h_M), (1, vI x1), (2, vI x2)]) hx hb dX7_packsLeaves_82 hl (k := 3) rfl (z_inc _ _) (by decide) rfl (fun ls hl => ?_)
        refine lv_goto (tgt := 49) hx hb dX7_packsLeaves_85 (by decide) ?_
        exact ih ((x3 + 1)) (c_s_26) H locs ls h hP hD hS (lv_sub hl [1, 2, 3, 0] rfl)
      · have h := it_p b_24 h
        refine lv_aload_n hx hb dX7_packsLeaves_67 rfl (lv_at hl 0 rfl) ?_
        refine lv_iconst (v := Int32.ofInt (-1)) hx hb dX7_packsLeaves_68 rfl ?_
        obtain ⟨c_s_29, e_30, h⟩ := bd1_e h
        refine z_gov (wc := (zMo cI cZ (h_M) (q_M) (c_s) (c_past) (c_kept) (c_isKept) (c_pasts) (c_text) (c_typed) (c_rect) (c_item) (c_items) (c_itemLevel) (c_treated) (c_from) (c_group) (c_turn) (c_size) (c_old) (c_aside) (c_begin) (c_level) (c_asides) (c_sorted) (c_spot) (c_rectangles) (c_parts) (c_visited))) (wn := fun u_31 => (zMo cI cZ h_M q_M c_s_29 c_past c_kept c_isKept c_pasts c_text c_typed c_rect c_item c_items c_itemLevel c_treated c_from c_group c_turn c_size c_old c_aside c_begin c_level c_asides c_sorted c_spot c_rectangles c_parts c_visited)) (wr := []) (va_runV (As := [vI (-1)]) (rest := []) hF.1 (c_Mo_appends l D cI cZ cT h_M q_M c_s c_past c_kept c_isKept c_pasts c_text c_typed c_rect c_item c_items c_itemLevel c_treated c_from c_group c_turn c_size c_old c_aside c_begin c_level c_asides c_sorted c_spot c_rectangles c_parts c_visited (-1) H.size (c_s_29) e_30) (cwV 1 hts (zgV wm1046 wm1048 wm69 wm89 wm1049) rfl rfl rfl (by decide +kernel) ⟨Nat.le_of_ble_eq_true rfl, Nat.le_of_ble_eq_true rfl⟩) ⟨zP.blind, va_recv hK (z_subP (ws' := (zMo cI cZ (h_M) (q_M) (c_s) (c_past) (c_kept) (c_isKept) (c_pasts) (c_text) (c_typed) (c_rect) (c_item) (c_items) (c_itemLevel) (c_treated) (c_from) (c_group) (c_turn) (c_size) (c_old) (c_aside) (c_begin) (c_level) (c_asides) (c_sorted) (c_spot) (c_rectangles) (c_parts) (c_visited))) hP [0, 1, 2, 3, 4, 5, 6, 7, 8, 9, 10, 11, 12, 13, 14, 15, 16, 17, 18] rfl) (ci := 7) (q0 := 0) rfl rfl, zP.enter (z_subP (ws' := (zMo cI cZ (h_M) (q_M) (c_s) (c_past) (c_kept) (c_isKept) (c_pasts) (c_text) (c_typed) (c_rect) (c_item) (c_items) (c_itemLevel) (c_treated) (c_from) (c_group) (c_turn) (c_size) (c_old) (c_aside) (c_begin) (c_level) (c_asides) (c_sorted) (c_spot) (c_rectangles) (c_parts) (c_visited))) hP [0, 1, 2, 3, 4, 5, 6, 7, 8, 9, 10, 11, 12, 13, 14, 15, 16, 17, 18] rfl) hK (hD.sub [0, 1, 2, 3, 4, 5, 6, 7, 8, 9, 10, 11, 12, 13, 14, 15, 16, 17, 18] (by decide) rfl) hN⟩ rfl rfl hl.1 rfl (lv_room (Nat.le_of_ble_eq_true rfl)) dX7_packsLeaves_69 ⟨Nat.le_refl _, Nat.le_refl _⟩) hP hD hS hA [0, 1, 2, 3, 4, 5, 6, 7, 8, 9, 10, 11, 12, 13, 14, 15, 16, 17, 18] [] [0, 1, 2, 3, 4, 5, 6, 7, 8, 9, 10, 11, 12, 13, 14, 15, 16, 17, 18] rfl rfl (by decide) (fun _ => rfl) (fun u_31 H locs hP hD hS hz => ?_)
        refine lv_aload_n hx hb dX7_packsLeaves_72 rfl (lv_at hl 0 rfl) ?_
        refine lv_aload_n hx hb dX7_packsLeaves_73 rfl (lv_at hl 0 rfl) ?_
        refine va_get (D := D) (ci := 7) (v := .ref (q_M 15)) (C := RX7) (T := TX7) (N := 26) hx hb hts zin7 hown hK hP 0 rfl rfl 21 (by decide) (hts _ wm808) (fun _ h9 => h9) rfl dX7_packsLeaves_74 ?_
        refine lv_iload_n hx hb dX7_packsLeaves_77 rfl (lv_at hl 3 rfl) ?_
        obtain ⟨g_32, h⟩ := gd_e h
        refine z_iald (n := 24) (f := c_sorted) (i := x3) hx hb hK hP 16 rfl rfl g_32 (by have := g_32.2; omega) dX7_packsLeaves_78 ?_
        obtain ⟨c_s_33, e_34, h⟩ := bd1_e h
        refine z_gov (wc := (zMo cI cZ (h_M) (q_M) (c_s_29) (c_past) (c_kept) (c_isKept) (c_pasts) (c_text) (c_typed) (c_rect) (c_item) (c_items) (c_itemLevel) (c_treated) (c_from) (c_group) (c_turn) (c_size) (c_old) (c_aside) (c_begin) (c_level) (c_asides) (c_sorted) (c_spot) (c_rectangles) (c_parts) (c_visited))) (wn := fun u_35 => (zMo cI cZ h_M q_M c_s_33 c_past c_kept c_isKept c_pasts c_text c_typed c_rect c_item c_items c_itemLevel c_treated c_from c_group c_turn c_size c_old c_aside c_begin c_level c_asides c_sorted c_spot c_rectangles c_parts c_visited)) (wr := []) (va_runV (As := [vI (c_sorted (x3).toNat)]) (rest := []) hF.1 (c_Mo_appends l D cI cZ cT h_M q_M c_s_29 c_past c_kept c_isKept c_pasts c_text c_typed c_rect c_item c_items c_itemLevel c_treated c_from c_group c_turn c_size c_old c_aside c_begin c_level c_asides c_sorted c_spot c_rectangles c_parts c_visited (c_sorted (x3).toNat) H.size (c_s_33) e_34) (cwV 1 hts (zgV wm1046 wm1048 wm69 wm89 wm1049) rfl rfl rfl (by decide +kernel) ⟨Nat.le_of_ble_eq_true rfl, Nat.le_of_ble_eq_true rfl⟩) ⟨zP.blind, va_recv hK (z_subP (ws' := (zMo cI cZ (h_M) (q_M) (c_s_29) (c_past) (c_kept) (c_isKept) (c_pasts) (c_text) (c_typed) (c_rect) (c_item) (c_items) (c_itemLevel) (c_treated) (c_from) (c_group) (c_turn) (c_size) (c_old) (c_aside) (c_begin) (c_level) (c_asides) (c_sorted) (c_spot) (c_rectangles) (c_parts) (c_visited))) hP [0, 1, 2, 3, 4, 5, 6, 7, 8, 9, 10, 11, 12, 13, 14, 15, 16, 17, 18] rfl) (ci := 7) (q0 := 0) rfl rfl, zP.enter (z_subP (ws' := (zMo cI cZ (h_M) (q_M) (c_s_29) (c_past) (c_kept) (c_isKept) (c_pasts) (c_text) (c_typed) (c_rect) (c_item) (c_items) (c_itemLevel) (c_treated) (c_from) (c_group) (c_turn) (c_size) (c_old) (c_aside) (c_begin) (c_level) (c_asides) (c_sorted) (c_spot) (c_rectangles) (c_parts) (c_visited))) hP [0, 1, 2, 3, 4, 5, 6, 7, 8, 9, 10, 11, 12, 13, 14, 15, 16, 17, 18] rfl) hK (hD.sub [0, 1, 2, 3, 4, 5, 6, 7, 8, 9, 10, 11, 12, 13, 14, 15, 16, 17, 18] (by decide) rfl) hN⟩ rfl rfl hl.1 rfl (lv_room (Nat.le_of_ble_eq_true rfl)) dX7_packsLeaves_79 ⟨Nat.le_refl _, Nat.le_refl _⟩) hP hD hS hA [0, 1, 2, 3, 4, 5, 6, 7, 8, 9, 10, 11, 12, 13, 14, 15, 16, 17, 18] [] [0, 1, 2, 3, 4, 5, 6, 7, 8, 9, 10, 11, 12, 13, 14, 15, 16, 17, 18] rfl rfl (by decide) (fun _ => rfl) (fun u_35 H locs hP hD hS hz => ?_)
        refine lv_iinc (v := Int32.ofInt (x3 + 1)) (lv' := [(3, vI (x3 + 1)), (0, .ref h_M), (1, vI x1), (2, vI x2)]) hx hb dX7_packsLeaves_82 hl (k := 3) rfl (z_inc _ _) (by decide) rfl (fun ls hl => ?_)
        refine lv_goto (tgt := 49) hx hb dX7_packsLeaves_85 (by decide) ?_
        exact ih ((x3 + 1)) (c_s_33) H locs ls h hP hD hS (lv_sub hl [1, 2, 3, 0] rfl)
set_option maxHeartbeats 4000000 in
set_option maxRecDepth 100000 in
theorem c_Mo_packsLeaves (l : Launch) (D : va_G) (cI cZ cT : ClassId) (h_M : Nat) (q_M : Nat → Nat) (c_s : Nat → Int) (c_past : Nat → Int) (c_kept : Nat → Int) (c_isKept : Int) (c_pasts : Int) (c_text : Nat → Int) (c_typed : Int) (c_rect : Nat → Int) (c_item : Nat → Int) (c_items : Int) (c_itemLevel : Int) (c_treated : Nat → Int) (c_from : Nat → Int) (c_group : Nat → Int) (c_turn : Nat → Int) (c_size : Nat → Int) (c_old : Nat → Int) (c_aside : Nat → Int) (c_begin : Nat → Int) (c_level : Nat → Int) (c_asides : Int) (c_sorted : Nat → Int) (c_spot : Int) (c_rectangles : Int) (c_parts : Nat → Int) (c_visited : Nat → Int) (x1 : Int) (sz : Nat) (res : (Nat → Int) × (Nat → Int)) (h : f_Mo_packsLeaves c_s c_sorted x1 = some res) : zMv l yX7_packsLeaves cX7_packsLeaves 4 rm_Mo_packsLeaves D (zt cI cZ cT) [.ref h_M, vI x1] ((zMo cI cZ h_M q_M c_s c_past c_kept c_isKept c_pasts c_text c_typed c_rect c_item c_items c_itemLevel c_treated c_from c_group c_turn c_size c_old c_aside c_begin c_level c_asides c_sorted c_spot c_rectangles c_parts c_visited)) sz (fun u => (zMo cI cZ h_M q_M (res.1) c_past c_kept c_isKept c_pasts c_text c_typed c_rect c_item c_items c_itemLevel c_treated c_from c_group c_turn c_size c_old c_aside c_begin c_level c_asides (res.2) c_spot c_rectangles c_parts c_visited)) 0 0 := by
  refine z_enth (Qc := zQv D (fun u => (zMo cI cZ h_M q_M (res.1) c_past c_kept c_isKept c_pasts c_text c_typed c_rect c_item c_items c_itemLevel c_treated c_from c_group c_turn c_size c_old c_aside c_begin c_level c_asides (res.2) c_spot c_rectangles c_parts c_visited))) (by decide) (Nat.le_of_ble_eq_true rfl) (fun p e s m args below meth c A ls H locs hF hP hD hS hl => ?_)
  have hx := hF.1.1
  have hb := hF.1.2.1
  have hml := hF.1.2.2.1
  have hown : s.vm.findClass "RectangleTreeModel" = some m.cls := hF.1.2.2.2.1
  have hts := hF.1.2.2.2.2
  have hr := hF.2.1
  have hlk := hF.2.2.1
  have hK := hF.2.2.2.2.1
  have hN := hF.2.2.2.2.2.1
  have hA := hF.2.2.2.2.2.2
  unfold f_Mo_packsLeaves at h
  refine lv_aload_n hx hb dX7_packsLeaves_0 rfl (lv_at hl 0 rfl) ?_
  refine lv_iload_n hx hb dX7_packsLeaves_1 rfl (lv_at hl 1 rfl) ?_
  obtain ⟨r_1, e_2, h⟩ := bd1_e h
  refine z_goi (ws' := []) (ret := r_1) (wc := (zMo cI cZ (h_M) (q_M) (c_s) (c_past) (c_kept) (c_isKept) (c_pasts) (c_text) (c_typed) (c_rect) (c_item) (c_items) (c_itemLevel) (c_treated) (c_from) (c_group) (c_turn) (c_size) (c_old) (c_aside) (c_begin) (c_level) (c_asides) (c_sorted) (c_spot) (c_rectangles) (c_parts) (c_visited))) (wn := fun u_3 => (zMo cI cZ h_M q_M c_s c_past c_kept c_isKept c_pasts c_text c_typed c_rect c_item c_items c_itemLevel c_treated c_from c_group c_turn c_size c_old c_aside c_begin c_level c_asides c_sorted c_spot c_rectangles c_parts c_visited)) (wr := []) (va_runV (As := [vI x1]) (rest := []) hF.1 (c_Mo_slice l D cI cZ cT h_M q_M c_s c_past c_kept c_isKept c_pasts c_text c_typed c_rect c_item c_items c_itemLevel c_treated c_from c_group c_turn c_size c_old c_aside c_begin c_level c_asides c_sorted c_spot c_rectangles c_parts c_visited x1 H.size (r_1) e_2) (cwV 1 hts (zgV wm1034 wm1036 wm66 wm89 wm1037) rfl rfl rfl (by decide +kernel) ⟨Nat.le_of_ble_eq_true rfl, Nat.le_of_ble_eq_true rfl⟩) ⟨zP.blind, va_recv hK (z_subP (ws' := (zMo cI cZ (h_M) (q_M) (c_s) (c_past) (c_kept) (c_isKept) (c_pasts) (c_text) (c_typed) (c_rect) (c_item) (c_items) (c_itemLevel) (c_treated) (c_from) (c_group) (c_turn) (c_size) (c_old) (c_aside) (c_begin) (c_level) (c_asides) (c_sorted) (c_spot) (c_rectangles) (c_parts) (c_visited))) hP [0, 1, 2, 3, 4, 5, 6, 7, 8, 9, 10, 11, 12, 13, 14, 15, 16, 17, 18] rfl) (ci := 7) (q0 := 0) rfl rfl, zP.enter (z_subP (ws' := (zMo cI cZ (h_M) (q_M) (c_s) (c_past) (c_kept) (c_isKept) (c_pasts) (c_text) (c_typed) (c_rect) (c_item) (c_items) (c_itemLevel) (c_treated) (c_from) (c_group) (c_turn) (c_size) (c_old) (c_aside) (c_begin) (c_level) (c_asides) (c_sorted) (c_spot) (c_rectangles) (c_parts) (c_visited))) hP [0, 1, 2, 3, 4, 5, 6, 7, 8, 9, 10, 11, 12, 13, 14, 15, 16, 17, 18] rfl) hK (hD.sub [0, 1, 2, 3, 4, 5, 6, 7, 8, 9, 10, 11, 12, 13, 14, 15, 16, 17, 18] (by decide) rfl) hN⟩ rfl rfl hl.1 rfl (lv_room (Nat.le_of_ble_eq_true rfl)) dX7_packsLeaves_2 ⟨Nat.le_refl _, Nat.le_refl _⟩) hP hD hS hA [0, 1, 2, 3, 4, 5, 6, 7, 8, 9, 10, 11, 12, 13, 14, 15, 16, 17, 18] [] [0, 1, 2, 3, 4, 5, 6, 7, 8, 9, 10, 11, 12, 13, 14, 15, 16, 17, 18] rfl rfl (by decide) (fun _ => rfl) (fun u_3 H locs hP hD hS hz => ?_)
  refine lv_istore_n (lv' := [(2, vI r_1), (0, .ref h_M), (1, vI x1)]) hx hb dX7_packsLeaves_5 rfl hl (by decide) rfl (fun ls hl => ?_)
  refine lv_aload_n hx hb dX7_packsLeaves_6 rfl (lv_at hl 1 rfl) ?_
  refine lv_iconst (v := Int32.ofInt 0) hx hb dX7_packsLeaves_7 rfl ?_
  refine lv_iload_n hx hb dX7_packsLeaves_8 rfl (lv_at hl 2 rfl) ?_
  refine lv_iconst (v := Int32.ofInt 0) hx hb dX7_packsLeaves_9 rfl ?_
  obtain ⟨c_sorted_4, e_5, h⟩ := bd1_e h
  refine z_gov (wc := (zMo cI cZ (h_M) (q_M) (c_s) (c_past) (c_kept) (c_isKept) (c_pasts) (c_text) (c_typed) (c_rect) (c_item) (c_items) (c_itemLevel) (c_treated) (c_from) (c_group) (c_turn) (c_size) (c_old) (c_aside) (c_begin) (c_level) (c_asides) (c_sorted) (c_spot) (c_rectangles) (c_parts) (c_visited))) (wn := fun u_6 => (zMo cI cZ h_M q_M c_s c_past c_kept c_isKept c_pasts c_text c_typed c_rect c_item c_items c_itemLevel c_treated c_from c_group c_turn c_size c_old c_aside c_begin c_level c_asides c_sorted_4 c_spot c_rectangles c_parts c_visited)) (wr := []) (va_runV (As := [vI 0, vI x1, vI 0]) (rest := []) hF.1 (c_Mo_sorts l D cI cZ cT h_M q_M c_s c_past c_kept c_isKept c_pasts c_text c_typed c_rect c_item c_items c_itemLevel c_treated c_from c_group c_turn c_size c_old c_aside c_begin c_level c_asides c_sorted c_spot c_rectangles c_parts c_visited 0 x1 0 H.size (c_sorted_4) e_5) (cwV 3 hts (zgV wm1038 wm1040 wm67 wm89 wm1041) rfl rfl rfl (by decide +kernel) ⟨Nat.le_of_ble_eq_true rfl, Nat.le_of_ble_eq_true rfl⟩) ⟨zP.blind, va_recv hK (z_subP (ws' := (zMo cI cZ (h_M) (q_M) (c_s) (c_past) (c_kept) (c_isKept) (c_pasts) (c_text) (c_typed) (c_rect) (c_item) (c_items) (c_itemLevel) (c_treated) (c_from) (c_group) (c_turn) (c_size) (c_old) (c_aside) (c_begin) (c_level) (c_asides) (c_sorted) (c_spot) (c_rectangles) (c_parts) (c_visited))) hP [0, 1, 2, 3, 4, 5, 6, 7, 8, 9, 10, 11, 12, 13, 14, 15, 16, 17, 18] rfl) (ci := 7) (q0 := 0) rfl rfl, zP.enter (z_subP (ws' := (zMo cI cZ (h_M) (q_M) (c_s) (c_past) (c_kept) (c_isKept) (c_pasts) (c_text) (c_typed) (c_rect) (c_item) (c_items) (c_itemLevel) (c_treated) (c_from) (c_group) (c_turn) (c_size) (c_old) (c_aside) (c_begin) (c_level) (c_asides) (c_sorted) (c_spot) (c_rectangles) (c_parts) (c_visited))) hP [0, 1, 2, 3, 4, 5, 6, 7, 8, 9, 10, 11, 12, 13, 14, 15, 16, 17, 18] rfl) hK (hD.sub [0, 1, 2, 3, 4, 5, 6, 7, 8, 9, 10, 11, 12, 13, 14, 15, 16, 17, 18] (by decide) rfl) hN⟩ rfl rfl hl.1 rfl (lv_room (Nat.le_of_ble_eq_true rfl)) dX7_packsLeaves_10 ⟨Nat.le_refl _, Nat.le_refl _⟩) hP hD hS hA [0, 1, 2, 3, 4, 5, 6, 7, 8, 9, 10, 11, 12, 13, 14, 15, 16, 17, 18] [] [0, 1, 2, 3, 4, 5, 6, 7, 8, 9, 10, 11, 12, 13, 14, 15, 16, 17, 18] rfl rfl (by decide) (fun _ => rfl) (fun u_6 H locs hP hD hS hz => ?_)
  refine lv_iconst (v := Int32.ofInt 0) hx hb dX7_packsLeaves_13 rfl ?_
  refine lv_istore_n (lv' := [(3, vI 0), (2, vI r_1), (0, .ref h_M), (1, vI x1)]) hx hb dX7_packsLeaves_14 rfl hl (by decide) rfl (fun ls hl => ?_)
  refine w_Mo_packsLeaves_L15 D cI cZ cT (h_M) (q_M) (c_s) (c_past) (c_kept) (c_isKept) (c_pasts) (c_text) (c_typed) (c_rect) (c_item) (c_items) (c_itemLevel) (c_treated) (c_from) (c_group) (c_turn) (c_size) (c_old) (c_aside) (c_begin) (c_level) (c_asides) (c_spot) (c_rectangles) (c_parts) (c_visited) (x1) (r_1) _ _ hF (fun x3_16 c_sorted_17 H locs ls h hP hD hS hl => ?_) _ (0) (c_sorted_4) _ _ _ h hP hD hS (lv_sub hl [2, 3, 1, 0] rfl)
  refine lv_aload_n hx hb dX7_packsLeaves_40 rfl (lv_at hl 0 rfl) ?_
  refine va_get (D := D) (ci := 7) (v := .ref (q_M 0)) (C := RX7) (T := TX7) (N := 26) hx hb hts zin7 hown hK hP 0 rfl rfl 0 (by decide) (hts _ wm787) (fun _ h9 => h9) rfl dX7_packsLeaves_41 ?_
  refine lv_iconst (v := Int32.ofInt 4) hx hb dX7_packsLeaves_44 rfl ?_
  refine lv_iconst (v := Int32.ofInt 0) hx hb dX7_packsLeaves_45 rfl ?_
  refine z_iast (n := 461) (f := c_s) (i := 4) (x := 0) (ws' := (zMo cI cZ h_M q_M (up c_s (4) 0) c_past c_kept c_isKept c_pasts c_text c_typed c_rect c_item c_items c_itemLevel c_treated c_from c_group c_turn c_size c_old c_aside c_begin c_level c_asides c_sorted_17 c_spot c_rectangles c_parts c_visited)) hx hb hK hP hD hS 1 rfl rfl (by decide) (by decide) dX7_packsLeaves_46 rfl (fun H locs hP hD hS => ?_)
  refine lv_iconst (v := Int32.ofInt 0) hx hb dX7_packsLeaves_47 rfl ?_
  refine lv_istore_n (lv' := [(3, vI 0), (0, .ref h_M), (1, vI x1), (2, vI r_1)]) hx hb dX7_packsLeaves_48 rfl hl (by decide) rfl (fun ls hl => ?_)
  refine w_Mo_packsLeaves_L49 D cI cZ cT (h_M) (q_M) (c_past) (c_kept) (c_isKept) (c_pasts) (c_text) (c_typed) (c_rect) (c_item) (c_items) (c_itemLevel) (c_treated) (c_from) (c_group) (c_turn) (c_size) (c_old) (c_aside) (c_begin) (c_level) (c_asides) (c_sorted_17) (c_spot) (c_rectangles) (c_parts) (c_visited) (x1) (r_1) _ _ hF (fun x3_36 c_s_37 H locs ls h hP hD hS hl => ?_) _ (0) ((up c_s (4) 0)) _ _ _ h hP hD hS (lv_sub hl [1, 2, 3, 0] rfl)
  obtain rfl := Option.some.inj h
  exact z_vret hx hb hr hlk (fun _ _ => 0) hP hD hS dX7_packsLeaves_88
def f_Mo_packsAbove_L7 (x1 : Int) (k : Int → Int → Int → (Nat → Int) → Option (Int × (Nat → Int))) : Nat → Int → Int → Int → (Nat → Int) → Option (Int × (Nat → Int))
  | 0, _, _, _, _ => none
  | n + 1, x2, x3, x4, c_s =>
  bd1 (f_Mo_length c_s) <| fun r_1 => gd (ck x4) <| gd (ck r_1) <| if x4 < r_1 then (bd1 (f_Mo_levelAt c_s x4) <| fun r_7 => gd (ck r_7) <| gd (ck x1) <| if r_7 = x1 then (gd (((0 : Int) ≤ x2 ∧ x2 ≤ 2147483647) ∧ (0 : Int) < (c_s 0) ∧ ((c_s 0) : Int) ≤ 2147483647) <| gd (ck (x2 % (c_s 0))) <| if (x2 % (c_s 0)) = 0 then (bd1 (f_Mo_opens c_s x4 1) <| fun c_s_16 => gd (0 ≤ (101 + x4) ∧ (101 + x4) < ((461 : Nat) : Int)) <| f_Mo_packsAbove_L7 x1 k n ((x2 + 1)) ((x3 + 1)) (((x4 + 1) + 1)) ((up c_s_16 (((101 + x4)).toNat) ((-2) - x1)))) else (f_Mo_packsAbove_L7 x1 k n ((x2 + 1)) (x3) ((x4 + 1)) (c_s))) else (f_Mo_packsAbove_L7 x1 k n (x2) (x3) ((x4 + 1)) (c_s))) else (k (x2) (x3) (x4) (c_s))
def f_Mo_packsAbove (c_s : Nat → Int) (x1 : Int) : Option (Int × (Nat → Int)) :=
  f_Mo_packsAbove_L7 (x1) (fun x2_20 x3_21 x4_22 c_s_23 => some (x3_21, c_s_23)) FU (0) (0) (0) (c_s)
abbrev rm_Mo_packsAbove : Room := ({ frames := 2, cells := 0, slots := 0, locals := 44 } : Room)
set_option maxHeartbeats 4000000 in
set_option maxRecDepth 100000 in
theorem w_Mo_packsAbove_L7 {p : Program} {l : Launch} {e : Env} {s : State} {m : MethodId} {args : Array Value} {below : List Frame} {meth : Method} {c : Code} {A : Nat → Prop} (D : va_G) (cI cZ cT : ClassId) (h_M : Nat) (q_M : Nat → Nat) (c_past : Nat → Int) (c_kept : Nat → Int) (c_isKept : Int) (c_pasts : Int) (c_text : Nat → Int) (c_typed : Int) (c_rect : Nat → Int) (c_item : Nat → Int) (c_items : Int) (c_itemLevel : Int) (c_treated : Nat → Int) (c_from : Nat → Int) (c_group : Nat → Int) (c_turn : Nat → Int) (c_size : Nat → Int) (c_old : Nat → Int) (c_aside : Nat → Int) (c_begin : Nat → Int) (c_level : Nat → Int) (c_asides : Int) (c_sorted : Nat → Int) (c_spot : Int) (c_rectangles : Int) (c_parts : Nat → Int) (c_visited : Nat → Int) (x1 : Int) (res : Int × (Nat → Int)) (k : Int → Int → Int → (Nat → Int) → Option (Int × (Nat → Int))) (hF : zF p m c cX7_packsAbove 5 s args yX7_packsAbove.cls meth (some .int) yX7_packsAbove.name A D (zt cI cZ cT))
    (hk : ∀ (x2 : Int) (x3 : Int) (x4 : Int) (c_s : Nat → Int) (H : Heap) (locs : List Loc) (ls : Array Slot), k x2 x3 x4 c_s = some res → va_P D vwCl ((zMo cI cZ h_M q_M c_s c_past c_kept c_isKept c_pasts c_text c_typed c_rect c_item c_items c_itemLevel c_treated c_from c_group c_turn c_size c_old c_aside c_begin c_level c_asides c_sorted c_spot c_rectangles c_parts c_visited)) H → va_D A ((zMo cI cZ h_M q_M c_s c_past c_kept c_isKept c_pasts c_text c_typed c_rect c_item c_items c_itemLevel c_treated c_from c_group c_turn c_size c_old c_aside c_begin c_level c_asides c_sorted c_spot c_rectangles c_parts c_visited)) → va_S A s.heap H locs → lv_has ls 5 [(3, vI x3)] → W p l e rm_Mo_packsAbove s m args below meth c H locs 0 0 (MQ below (zQi D (res.1) (fun u => (zMo cI cZ h_M q_M (res.2) c_past c_kept c_isKept c_pasts c_text c_typed c_rect c_item c_items c_itemLevel c_treated c_from c_group c_turn c_size c_old c_aside c_begin c_level c_asides c_sorted c_spot c_rectangles c_parts c_visited)) A) args s 0 0 A) (F0 m 73 ls [])) :
    ∀ (n : Nat) (x2 : Int) (x3 : Int) (x4 : Int) (c_s : Nat → Int) (H : Heap) (locs : List Loc) (ls : Array Slot), f_Mo_packsAbove_L7 x1 k n x2 x3 x4 c_s = some res → va_P D vwCl ((zMo cI cZ h_M q_M c_s c_past c_kept c_isKept c_pasts c_text c_typed c_rect c_item c_items c_itemLevel c_treated c_from c_group c_turn c_size c_old c_aside c_begin c_level c_asides c_sorted c_spot c_rectangles c_parts c_visited)) H → va_D A ((zMo cI cZ h_M q_M c_s c_past c_kept c_isKept c_pasts c_text c_typed c_rect c_item c_items c_itemLevel c_treated c_from c_group c_turn c_size c_old c_aside c_begin c_level c_asides c_sorted c_spot c_rectangles c_parts c_visited)) → va_S A s.heap H locs → lv_has ls 5 [(0, .ref h_M), (1, vI x1), (2, vI x2), (3, vI x3), (4, vI x4)] → W p l e rm_Mo_packsAbove s m args below meth c H locs 0 0 (MQ below (zQi D (res.1) (fun u => (zMo cI cZ h_M q_M (res.2) c_past c_kept c_isKept c_pasts c_text c_typed c_rect c_item c_items c_itemLevel c_treated c_from c_group c_turn c_size c_old c_aside c_begin c_level c_asides c_sorted c_spot c_rectangles c_parts c_visited)) A) args s 0 0 A) (F0 m 7 ls []) := by
  have hx := hF.1.1
  have hb := hF.1.2.1
  have hml := hF.1.2.2.1
  have hown : s.vm.findClass "RectangleTreeModel" = some m.cls := hF.1.2.2.2.1
  have hts := hF.1.2.2.2.2
  have hr := hF.2.1
  have hlk := hF.2.2.1
  have hK := hF.2.2.2.2.1
  have hN := hF.2.2.2.2.2.1
  have hA := hF.2.2.2.2.2.2
  intro n
  induction n with
  | zero => intro x2 x3 x4 c_s H locs ls h; cases h
  | succ n ih =>
    intro x2 x3 x4 c_s H locs ls h hP hD hS hl
    rw [f_Mo_packsAbove_L7] at h
    refine lv_iload hx hb dX7_packsAbove_7 (lv_at hl 4 rfl) ?_
    refine lv_aload_n hx hb dX7_packsAbove_9 rfl (lv_at hl 0 rfl) ?_
    obtain ⟨r_1, e_2, h⟩ := bd1_e h
    refine z_goi (ws' := []) (ret := r_1) (wc := (zMo cI cZ (h_M) (q_M) (c_s) (c_past) (c_kept) (c_isKept) (c_pasts) (c_text) (c_typed) (c_rect) (c_item) (c_items) (c_itemLevel) (c_treated) (c_from) (c_group) (c_turn) (c_size) (c_old) (c_aside) (c_begin) (c_level) (c_asides) (c_sorted) (c_spot) (c_rectangles) (c_parts) (c_visited))) (wn := fun u_3 => (zMo cI cZ h_M q_M c_s c_past c_kept c_isKept c_pasts c_text c_typed c_rect c_item c_items c_itemLevel c_treated c_from c_group c_turn c_size c_old c_aside c_begin c_level c_asides c_sorted c_spot c_rectangles c_parts c_visited)) (wr := []) (va_runV (As := []) (rest := [vI x4]) hF.1 (c_Mo_length l D cI cZ cT h_M q_M c_s c_past c_kept c_isKept c_pasts c_text c_typed c_rect c_item c_items c_itemLevel c_treated c_from c_group c_turn c_size c_old c_aside c_begin c_level c_asides c_sorted c_spot c_rectangles c_parts c_visited H.size (r_1) e_2) (cwV 0 hts (zgV wm926 wm928 wm41 wm89 wm929) rfl rfl rfl (by decide +kernel) ⟨Nat.le_of_ble_eq_true rfl, Nat.le_of_ble_eq_true rfl⟩) ⟨zP.blind, va_recv hK (z_subP (ws' := (zMo cI cZ (h_M) (q_M) (c_s) (c_past) (c_kept) (c_isKept) (c_pasts) (c_text) (c_typed) (c_rect) (c_item) (c_items) (c_itemLevel) (c_treated) (c_from) (c_group) (c_turn) (c_size) (c_old) (c_aside) (c_begin) (c_level) (c_asides) (c_sorted) (c_spot) (c_rectangles) (c_parts) (c_visited))) hP [0, 1, 2, 3, 4, 5, 6, 7, 8, 9, 10, 11, 12, 13, 14, 15, 16, 17, 18] rfl) (ci := 7) (q0 := 0) rfl rfl, zP.enter (z_subP (ws' := (zMo cI cZ (h_M) (q_M) (c_s) (c_past) (c_kept) (c_isKept) (c_pasts) (c_text) (c_typed) (c_rect) (c_item) (c_items) (c_itemLevel) (c_treated) (c_from) (c_group) (c_turn) (c_size) (c_old) (c_aside) (c_begin) (c_level) (c_asides) (c_sorted) (c_spot) (c_rectangles) (c_parts) (c_visited))) hP [0, 1, 2, 3, 4, 5, 6, 7, 8, 9, 10, 11, 12, 13, 14, 15, 16, 17, 18] rfl) hK (hD.sub [0, 1, 2, 3, 4, 5, 6, 7, 8, 9, 10, 11, 12, 13, 14, 15, 16, 17, 18] (by decide) rfl) hN⟩ rfl rfl hl.1 rfl (lv_room (Nat.le_of_ble_eq_true rfl)) dX7_packsAbove_10 ⟨Nat.le_refl _, Nat.le_refl _⟩) hP hD hS hA [0, 1, 2, 3, 4, 5, 6, 7, 8, 9, 10, 11, 12, 13, 14, 15, 16, 17, 18] [] [0, 1, 2, 3, 4, 5, 6, 7, 8, 9, 10, 11, 12, 13, 14, 15, 16, 17, 18] rfl rfl (by decide) (fun _ => rfl) (fun u_3 H locs hP hD hS hz => ?_)
    obtain ⟨g_4, h⟩ := gd_e h
    obtain ⟨g_5, h⟩ := gd_e h
    refine z_icmp_ge (tgt := 73) hx hb g_4 g_5 dX7_packsAbove_13 (by decide) (fun b_6 => ?_) (fun b_6 => ?_)
    · have h := it_n b_6 h
      exact hk (x2) (x3) (x4) (c_s) H locs ls h hP hD hS (lv_sub hl [3] rfl)
    · have h := it_p b_6 h
      refine lv_aload_n hx hb dX7_packsAbove_16 rfl (lv_at hl 0 rfl) ?_
      refine lv_iload hx hb dX7_packsAbove_17 (lv_at hl 4 rfl) ?_
      obtain ⟨r_7, e_8, h⟩ := bd1_e h
      refine z_goi (ws' := []) (ret := r_7) (wc := (zMo cI cZ (h_M) (q_M) (c_s) (c_past) (c_kept) (c_isKept) (c_pasts) (c_text) (c_typed) (c_rect) (c_item) (c_items) (c_itemLevel) (c_treated) (c_from) (c_group) (c_turn) (c_size) (c_old) (c_aside) (c_begin) (c_level) (c_asides) (c_sorted) (c_spot) (c_rectangles) (c_parts) (c_visited))) (wn := fun u_9 => (zMo cI cZ h_M q_M c_s c_past c_kept c_isKept c_pasts c_text c_typed c_rect c_item c_items c_itemLevel c_treated c_from c_group c_turn c_size c_old c_aside c_begin c_level c_asides c_sorted c_spot c_rectangles c_parts c_visited)) (wr := []) (va_runV (As := [vI x4]) (rest := []) hF.1 (c_Mo_levelAt l D cI cZ cT h_M q_M c_s c_past c_kept c_isKept c_pasts c_text c_typed c_rect c_item c_items c_itemLevel c_treated c_from c_group c_turn c_size c_old c_aside c_begin c_level c_asides c_sorted c_spot c_rectangles c_parts c_visited x4 H.size (r_7) e_8) (cwV 1 hts (zgV wm911 wm913 wm38 wm89 wm914) rfl rfl rfl (by decide +kernel) ⟨Nat.le_of_ble_eq_true rfl, Nat.le_of_ble_eq_true rfl⟩) ⟨zP.blind, va_recv hK (z_subP (ws' := (zMo cI cZ (h_M) (q_M) (c_s) (c_past) (c_kept) (c_isKept) (c_pasts) (c_text) (c_typed) (c_rect) (c_item) (c_items) (c_itemLevel) (c_treated) (c_from) (c_group) (c_turn) (c_size) (c_old) (c_aside) (c_begin) (c_level) (c_asides) (c_sorted) (c_spot) (c_rectangles) (c_parts) (c_visited))) hP [0, 1, 2, 3, 4, 5, 6, 7, 8, 9, 10, 11, 12, 13, 14, 15, 16, 17, 18] rfl) (ci := 7) (q0 := 0) rfl rfl, zP.enter (z_subP (ws' := (zMo cI cZ (h_M) (q_M) (c_s) (c_past) (c_kept) (c_isKept) (c_pasts) (c_text) (c_typed) (c_rect) (c_item) (c_items) (c_itemLevel) (c_treated) (c_from) (c_group) (c_turn) (c_size) (c_old) (c_aside) (c_begin) (c_level) (c_asides) (c_sorted) (c_spot) (c_rectangles) (c_parts) (c_visited))) hP [0, 1, 2, 3, 4, 5, 6, 7, 8, 9, 10, 11, 12, 13, 14, 15, 16, 17, 18] rfl) hK (hD.sub [0, 1, 2, 3, 4, 5, 6, 7, 8, 9, 10, 11, 12, 13, 14, 15, 16, 17, 18] (by decide) rfl) hN⟩ rfl rfl hl.1 rfl (lv_room (Nat.le_of_ble_eq_true rfl)) dX7_packsAbove_19 ⟨Nat.le_refl _, Nat.le_refl _⟩) hP hD hS hA [0, 1, 2, 3, 4, 5, 6, 7, 8, 9, 10, 11, 12, 13, 14, 15, 16, 17, 18] [] [0, 1, 2, 3, 4, 5, 6, 7, 8, 9, 10, 11, 12, 13, 14, 15, 16, 17, 18] rfl rfl (by decide) (fun _ => rfl) (fun u_9 H locs hP hD hS hz => ?_)
      refine lv_iload_n hx hb dX7_packsAbove_22 rfl (lv_at hl 1 rfl) ?_
      obtain ⟨g_10, h⟩ := gd_e h
      obtain ⟨g_11, h⟩ := gd_e h
      refine z_icmp_ne (tgt := 67) hx hb g_10 g_11 dX7_packsAbove_23 (by decide) (fun b_12 => ?_) (fun b_12 => ?_)
      · have h := it_n b_12 h
        refine lv_iinc (v := Int32.ofInt (x4 + 1)) (lv' := [(4, vI (x4 + 1)), (0, .ref h_M), (1, vI x1), (2, vI x2), (3, vI x3)]) hx hb dX7_packsAbove_67 hl (k := 4) rfl (z_inc _ _) (by decide) rfl (fun ls hl => ?_)
        refine lv_goto (tgt := 7) hx hb dX7_packsAbove_70 (by decide) ?_
        exact ih (x2) (x3) ((x4 + 1)) (c_s) H locs ls h hP hD hS (lv_sub hl [1, 2, 3, 4, 0] rfl)
      · have h := it_p b_12 h
        refine lv_iload_n hx hb dX7_packsAbove_26 rfl (lv_at hl 2 rfl) ?_
        refine lv_aload_n hx hb dX7_packsAbove_27 rfl (lv_at hl 0 rfl) ?_
        refine va_get (D := D) (ci := 7) (v := .ref (q_M 0)) (C := RX7) (T := TX7) (N := 26) hx hb hts zin7 hown hK hP 0 rfl rfl 0 (by decide) (hts _ wm787) (fun _ h9 => h9) rfl dX7_packsAbove_28 ?_
        refine lv_iconst (v := Int32.ofInt 0) hx hb dX7_packsAbove_31 rfl ?_
        refine z_iald (n := 461) (f := c_s) (i := 0) hx hb hK hP 1 rfl rfl (by decide) (by decide) dX7_packsAbove_32 ?_
        obtain ⟨g_13, h⟩ := gd_e h
        refine z_irem hx hb g_13 dX7_packsAbove_33 ?_
        obtain ⟨g_14, h⟩ := gd_e h
        refine z_if_ne (tgt := 64) hx hb g_14 dX7_packsAbove_34 (by decide) (fun b_15 => ?_) (fun b_15 => ?_)
        · have h := it_n b_15 h
          refine lv_iinc (v := Int32.ofInt (x2 + 1)) (lv' := [(2, vI (x2 + 1)), (0, .ref h_M), (1, vI x1), (3, vI x3), (4, vI x4)]) hx hb dX7_packsAbove_64 hl (k := 2) rfl (z_inc _ _) (by decide) rfl (fun ls hl => ?_)
          refine lv_iinc (v := Int32.ofInt (x4 + 1)) (lv' := [(4, vI (x4 + 1)), (2, vI (x2 + 1)), (0, .ref h_M), (1, vI x1), (3, vI x3)]) hx hb dX7_packsAbove_67 hl (k := 4) rfl (z_inc _ _) (by decide) rfl (fun ls hl => ?_)
          refine lv_goto (tgt := 7) hx hb dX7_packsAbove_70 (by decide) ?_
          exact ih ((x2 + 1)) (x3) ((x4 + 1)) (c_s) H locs ls h hP hD hS (lv_sub hl [2, 3, 1, 4, 0] rfl)
        · have h := it_p b_15 h
          refine lv_aload_n hx hb dX7_packsAbove_37 rfl (lv_at hl 0 rfl) ?_
          refine lv_iload hx hb dX7_packsAbove_38 (lv_at hl 4 rfl) ?_
          refine lv_iconst (v := Int32.ofInt 1) hx hb dX7_packsAbove_40 rfl ?_
          obtain ⟨c_s_16, e_17, h⟩ := bd1_e h
          refine z_gov (wc := (zMo cI cZ (h_M) (q_M) (c_s) (c_past) (c_kept) (c_isKept) (c_pasts) (c_text) (c_typed) (c_rect) (c_item) (c_items) (c_itemLevel) (c_treated) (c_from) (c_group) (c_turn) (c_size) (c_old) (c_aside) (c_begin) (c_level) (c_asides) (c_sorted) (c_spot) (c_rectangles) (c_parts) (c_visited))) (wn := fun u_18 => (zMo cI cZ h_M q_M c_s_16 c_past c_kept c_isKept c_pasts c_text c_typed c_rect c_item c_items c_itemLevel c_treated c_from c_group c_turn c_size c_old c_aside c_begin c_level c_asides c_sorted c_spot c_rectangles c_parts c_visited)) (wr := []) (va_runV (As := [vI x4, vI 1]) (rest := []) hF.1 (c_Mo_opens l D cI cZ cT h_M q_M c_s c_past c_kept c_isKept c_pasts c_text c_typed c_rect c_item c_items c_itemLevel c_treated c_from c_group c_turn c_size c_old c_aside c_begin c_level c_asides c_sorted c_spot c_rectangles c_parts c_visited x4 1 H.size (c_s_16) e_17) (cwV 2 hts (zgV wm950 wm952 wm47 wm89 wm953) rfl rfl rfl (by decide +kernel) ⟨Nat.le_of_ble_eq_true rfl, Nat.le_of_ble_eq_true rfl⟩) ⟨zP.blind, va_recv hK (z_subP (ws' := (zMo cI cZ (h_M) (q_M) (c_s) (c_past) (c_kept) (c_isKept) (c_pasts) (c_text) (c_typed) (c_rect) (c_item) (c_items) (c_itemLevel) (c_treated) (c_from) (c_group) (c_turn) (c_size) (c_old) (c_aside) (c_begin) (c_level) (c_asides) (c_sorted) (c_spot) (c_rectangles) (c_parts) (c_visited))) hP [0, 1, 2, 3, 4, 5, 6, 7, 8, 9, 10, 11, 12, 13, 14, 15, 16, 17, 18] rfl) (ci := 7) (q0 := 0) rfl rfl, zP.enter (z_subP (ws' := (zMo cI cZ (h_M) (q_M) (c_s) (c_past) (c_kept) (c_isKept) (c_pasts) (c_text) (c_typed) (c_rect) (c_item) (c_items) (c_itemLevel) (c_treated) (c_from) (c_group) (c_turn) (c_size) (c_old) (c_aside) (c_begin) (c_level) (c_asides) (c_sorted) (c_spot) (c_rectangles) (c_parts) (c_visited))) hP [0, 1, 2, 3, 4, 5, 6, 7, 8, 9, 10, 11, 12, 13, 14, 15, 16, 17, 18] rfl) hK (hD.sub [0, 1, 2, 3, 4, 5, 6, 7, 8, 9, 10, 11, 12, 13, 14, 15, 16, 17, 18] (by decide) rfl) hN⟩ rfl rfl hl.1 rfl (lv_room (Nat.le_of_ble_eq_true rfl)) dX7_packsAbove_41 ⟨Nat.le_refl _, Nat.le_refl _⟩) hP hD hS hA [0, 1, 2, 3, 4, 5, 6, 7, 8, 9, 10, 11, 12, 13, 14, 15, 16, 17, 18] [] [0, 1, 2, 3, 4, 5, 6, 7, 8, 9, 10, 11, 12, 13, 14, 15, 16, 17, 18] rfl rfl (by decide) (fun _ => rfl) (fun u_18 H locs hP hD hS hz => ?_)
          refine lv_aload_n hx hb dX7_packsAbove_44 rfl (lv_at hl 0 rfl) ?_
          refine va_get (D := D) (ci := 7) (v := .ref (q_M 0)) (C := RX7) (T := TX7) (N := 26) hx hb hts zin7 hown hK hP 0 rfl rfl 0 (by decide) (hts _ wm787) (fun _ h9 => h9) rfl dX7_packsAbove_45 ?_
          refine lv_bipush (v := Int32.ofInt 101) hx hb dX7_packsAbove_48 (by decide +kernel) ?_
          refine lv_iload hx hb dX7_packsAbove_50 (lv_at hl 4 rfl) ?_
          refine z_iadd hx hb dX7_packsAbove_52 ?_
          refine lv_bipush (v := Int32.ofInt (-2)) hx hb dX7_packsAbove_53 (by decide +kernel) ?_
          refine lv_iload_n hx hb dX7_packsAbove_55 rfl (lv_at hl 1 rfl) ?_
          refine z_isub hx hb dX7_packsAbove_56 ?_
          obtain ⟨g_19, h⟩ := gd_e h
          refine z_iast (n := 461) (f := c_s_16) (i := (101 + x4)) (x := ((-2) - x1)) (ws' := (zMo cI cZ h_M q_M (up c_s_16 (((101 + x4)).toNat) ((-2) - x1)) c_past c_kept c_isKept c_pasts c_text c_typed c_rect c_item c_items c_itemLevel c_treated c_from c_group c_turn c_size c_old c_aside c_begin c_level c_asides c_sorted c_spot c_rectangles c_parts c_visited)) hx hb hK hP hD hS 1 rfl rfl g_19 (by have := g_19.2; omega) dX7_packsAbove_57 rfl (fun H locs hP hD hS => ?_)
          refine lv_iinc (v := Int32.ofInt (x3 + 1)) (lv' := [(3, vI (x3 + 1)), (0, .ref h_M), (1, vI x1), (2, vI x2), (4, vI x4)]) hx hb dX7_packsAbove_58 hl (k := 3) rfl (z_inc _ _) (by decide) rfl (fun ls hl => ?_)
          refine lv_iinc (v := Int32.ofInt (x4 + 1)) (lv' := [(4, vI (x4 + 1)), (3, vI (x3 + 1)), (0, .ref h_M), (1, vI x1), (2, vI x2)]) hx hb dX7_packsAbove_61 hl (k := 4) rfl (z_inc _ _) (by decide) rfl (fun ls hl => ?_)
          refine lv_iinc (v := Int32.ofInt (x2 + 1)) (lv' := [(2, vI (x2 + 1)), (4, vI (x4 + 1)), (3, vI (x3 + 1)), (0, .ref h_M), (1, vI x1)]) hx hb dX7_packsAbove_64 hl (k := 4) rfl (z_inc _ _) (by decide) rfl (fun ls hl => ?_)
          refine lv_iinc (v := Int32.ofInt ((x4 + 1) + 1)) (lv' := [(4, vI ((x4 + 1) + 1)), (2, vI (x2 + 1)), (3, vI (x3 + 1)), (0, .ref h_M), (1, vI x1)]) hx hb dX7_packsAbove_67 hl (k := 1) rfl (z_inc _ _) (by decide) rfl (fun ls hl => ?_)
          refine lv_goto (tgt := 7) hx hb dX7_packsAbove_70 (by decide) ?_
          exact ih ((x2 + 1)) ((x3 + 1)) (((x4 + 1) + 1)) ((up c_s_16 (((101 + x4)).toNat) ((-2) - x1))) H locs ls h hP hD hS (lv_sub hl [3, 4, 1, 2, 0] rfl)
set_option maxHeartbeats 4000000 in
set_option maxRecDepth 100000 in
theorem c_Mo_packsAbove (l : Launch) (D : va_G) (cI cZ cT : ClassId) (h_M : Nat) (q_M : Nat → Nat) (c_s : Nat → Int) (c_past : Nat → Int) (c_kept : Nat → Int) (c_isKept : Int) (c_pasts : Int) (c_text : Nat → Int) (c_typed : Int) (c_rect : Nat → Int) (c_item : Nat → Int) (c_items : Int) (c_itemLevel : Int) (c_treated : Nat → Int) (c_from : Nat → Int) (c_group : Nat → Int) (c_turn : Nat → Int) (c_size : Nat → Int) (c_old : Nat → Int) (c_aside : Nat → Int) (c_begin : Nat → Int) (c_level : Nat → Int) (c_asides : Int) (c_sorted : Nat → Int) (c_spot : Int) (c_rectangles : Int) (c_parts : Nat → Int) (c_visited : Nat → Int) (x1 : Int) (sz : Nat) (res : Int × (Nat → Int)) (h : f_Mo_packsAbove c_s x1 = some res) : zMi l yX7_packsAbove cX7_packsAbove 5 rm_Mo_packsAbove D (zt cI cZ cT) [.ref h_M, vI x1] ((zMo cI cZ h_M q_M c_s c_past c_kept c_isKept c_pasts c_text c_typed c_rect c_item c_items c_itemLevel c_treated c_from c_group c_turn c_size c_old c_aside c_begin c_level c_asides c_sorted c_spot c_rectangles c_parts c_visited)) sz (res.1) (fun u => (zMo cI cZ h_M q_M (res.2) c_past c_kept c_isKept c_pasts c_text c_typed c_rect c_item c_items c_itemLevel c_treated c_from c_group c_turn c_size c_old c_aside c_begin c_level c_asides c_sorted c_spot c_rectangles c_parts c_visited)) 0 0 := by
  refine z_enth (Qc := zQi D (res.1) (fun u => (zMo cI cZ h_M q_M (res.2) c_past c_kept c_isKept c_pasts c_text c_typed c_rect c_item c_items c_itemLevel c_treated c_from c_group c_turn c_size c_old c_aside c_begin c_level c_asides c_sorted c_spot c_rectangles c_parts c_visited))) (by decide) (Nat.le_of_ble_eq_true rfl) (fun p e s m args below meth c A ls H locs hF hP hD hS hl => ?_)
  have hx := hF.1.1
  have hb := hF.1.2.1
  have hml := hF.1.2.2.1
  have hown : s.vm.findClass "RectangleTreeModel" = some m.cls := hF.1.2.2.2.1
  have hts := hF.1.2.2.2.2
  have hr := hF.2.1
  have hlk := hF.2.2.1
  have hK := hF.2.2.2.2.1
  have hN := hF.2.2.2.2.2.1
  have hA := hF.2.2.2.2.2.2
  unfold f_Mo_packsAbove at h
  refine lv_iconst (v := Int32.ofInt 0) hx hb dX7_packsAbove_0 rfl ?_
  refine lv_istore_n (lv' := [(2, vI 0), (0, .ref h_M), (1, vI x1)]) hx hb dX7_packsAbove_1 rfl hl (by decide) rfl (fun ls hl => ?_)
  refine lv_iconst (v := Int32.ofInt 0) hx hb dX7_packsAbove_2 rfl ?_
  refine lv_istore_n (lv' := [(3, vI 0), (2, vI 0), (0, .ref h_M), (1, vI x1)]) hx hb dX7_packsAbove_3 rfl hl (by decide) rfl (fun ls hl => ?_)
  refine lv_iconst (v := Int32.ofInt 0) hx hb dX7_packsAbove_4 rfl ?_
  refine lv_istore (lv' := [(4, vI 0), (3, vI 0), (2, vI 0), (0, .ref h_M), (1, vI x1)]) hx hb dX7_packsAbove_5 hl (by decide) rfl (fun ls hl => ?_)
  refine w_Mo_packsAbove_L7 D cI cZ cT (h_M) (q_M) (c_past) (c_kept) (c_isKept) (c_pasts) (c_text) (c_typed) (c_rect) (c_item) (c_items) (c_itemLevel) (c_treated) (c_from) (c_group) (c_turn) (c_size) (c_old) (c_aside) (c_begin) (c_level) (c_asides) (c_sorted) (c_spot) (c_rectangles) (c_parts) (c_visited) (x1) _ _ hF (fun x2_20 x3_21 x4_22 c_s_23 H locs ls h hP hD hS hl => ?_) _ (0) (0) (0) (c_s) _ _ _ h hP hD hS (lv_sub hl [3, 4, 2, 1, 0] rfl)
  refine lv_iload_n hx hb dX7_packsAbove_73 rfl (lv_at hl 0 rfl) ?_
  obtain rfl := Option.some.inj h
  exact z_iret hx hb hr hlk (fun _ _ => 0) hP hD hS dX7_packsAbove_74
def f_Mo_nodes (c_s : Nat → Int) : Option (Int) :=
  bd1 (f_Mo_length c_s) <| fun r_1 => bd1 (f_Mo_nodesAhead c_s r_1) <| fun r_4 => some (r_4)
abbrev rm_Mo_nodes : Room := ({ frames := 2, cells := 0, slots := 0, locals := 44 } : Room)
set_option maxHeartbeats 4000000 in
set_option maxRecDepth 100000 in
theorem c_Mo_nodes (l : Launch) (D : va_G) (cI cZ cT : ClassId) (h_M : Nat) (q_M : Nat → Nat) (c_s : Nat → Int) (c_past : Nat → Int) (c_kept : Nat → Int) (c_isKept : Int) (c_pasts : Int) (c_text : Nat → Int) (c_typed : Int) (c_rect : Nat → Int) (c_item : Nat → Int) (c_items : Int) (c_itemLevel : Int) (c_treated : Nat → Int) (c_from : Nat → Int) (c_group : Nat → Int) (c_turn : Nat → Int) (c_size : Nat → Int) (c_old : Nat → Int) (c_aside : Nat → Int) (c_begin : Nat → Int) (c_level : Nat → Int) (c_asides : Int) (c_sorted : Nat → Int) (c_spot : Int) (c_rectangles : Int) (c_parts : Nat → Int) (c_visited : Nat → Int) (sz : Nat) (res : Int) (h : f_Mo_nodes c_s = some res) : zMi l yX7_nodes cX7_nodes 1 rm_Mo_nodes D (zt cI cZ cT) [.ref h_M] ((zMo cI cZ h_M q_M c_s c_past c_kept c_isKept c_pasts c_text c_typed c_rect c_item c_items c_itemLevel c_treated c_from c_group c_turn c_size c_old c_aside c_begin c_level c_asides c_sorted c_spot c_rectangles c_parts c_visited)) sz (res) (fun u => (zMo cI cZ h_M q_M c_s c_past c_kept c_isKept c_pasts c_text c_typed c_rect c_item c_items c_itemLevel c_treated c_from c_group c_turn c_size c_old c_aside c_begin c_level c_asides c_sorted c_spot c_rectangles c_parts c_visited)) 0 0 := by
  refine z_enth (Qc := zQi D (res) (fun u => (zMo cI cZ h_M q_M c_s c_past c_kept c_isKept c_pasts c_text c_typed c_rect c_item c_items c_itemLevel c_treated c_from c_group c_turn c_size c_old c_aside c_begin c_level c_asides c_sorted c_spot c_rectangles c_parts c_visited))) (by decide) (Nat.le_of_ble_eq_true rfl) (fun p e s m args below meth c A ls H locs hF hP hD hS hl => ?_)
  have hx := hF.1.1
  have hb := hF.1.2.1
  have hml := hF.1.2.2.1
  have hown : s.vm.findClass "RectangleTreeModel" = some m.cls := hF.1.2.2.2.1
  have hts := hF.1.2.2.2.2
  have hr := hF.2.1
  have hlk := hF.2.2.1
  have hK := hF.2.2.2.2.1
  have hN := hF.2.2.2.2.2.1
  have hA := hF.2.2.2.2.2.2
  unfold f_Mo_nodes at h
  refine lv_aload_n hx hb dX7_nodes_0 rfl (lv_at hl 0 rfl) ?_
  refine lv_aload_n hx hb dX7_nodes_1 rfl (lv_at hl 0 rfl) ?_
  obtain ⟨r_1, e_2, h⟩ := bd1_e h
  refine z_goi (ws' := []) (ret := r_1) (wc := (zMo cI cZ (h_M) (q_M) (c_s) (c_past) (c_kept) (c_isKept) (c_pasts) (c_text) (c_typed) (c_rect) (c_item) (c_items) (c_itemLevel) (c_treated) (c_from) (c_group) (c_turn) (c_size) (c_old) (c_aside) (c_begin) (c_level) (c_asides) (c_sorted) (c_spot) (c_rectangles) (c_parts) (c_visited))) (wn := fun u_3 => (zMo cI cZ h_M q_M c_s c_past c_kept c_isKept c_pasts c_text c_typed c_rect c_item c_items c_itemLevel c_treated c_from c_group c_turn c_size c_old c_aside c_begin c_level c_asides c_sorted c_spot c_rectangles c_parts c_visited)) (wr := []) (va_runV (As := []) (rest := [.ref h_M]) hF.1 (c_Mo_length l D cI cZ cT h_M q_M c_s c_past c_kept c_isKept c_pasts c_text c_typed c_rect c_item c_items c_itemLevel c_treated c_from c_group c_turn c_size c_old c_aside c_begin c_level c_asides c_sorted c_spot c_rectangles c_parts c_visited H.size (r_1) e_2) (cwV 0 hts (zgV wm926 wm928 wm41 wm89 wm929) rfl rfl rfl (by decide +kernel) ⟨Nat.le_of_ble_eq_true rfl, Nat.le_of_ble_eq_true rfl⟩) ⟨zP.blind, va_recv hK (z_subP (ws' := (zMo cI cZ (h_M) (q_M) (c_s) (c_past) (c_kept) (c_isKept) (c_pasts) (c_text) (c_typed) (c_rect) (c_item) (c_items) (c_itemLevel) (c_treated) (c_from) (c_group) (c_turn) (c_size) (c_old) (c_aside) (c_begin) (c_level) (c_asides) (c_sorted) (c_spot) (c_rectangles) (c_parts) (c_visited))) hP [0, 1, 2, 3, 4, 5, 6, 7, 8, 9, 10, 11, 12, 13, 14, 15, 16, 17, 18] rfl) (ci := 7) (q0 := 0) rfl rfl, zP.enter (z_subP (ws' := (zMo cI cZ (h_M) (q_M) (c_s) (c_past) (c_kept) (c_isKept) (c_pasts) (c_text) (c_typed) (c_rect) (c_item) (c_items) (c_itemLevel) (c_treated) (c_from) (c_group) (c_turn) (c_size) (c_old) (c_aside) (c_begin) (c_level) (c_asides) (c_sorted) (c_spot) (c_rectangles) (c_parts) (c_visited))) hP [0, 1, 2, 3, 4, 5, 6, 7, 8, 9, 10, 11, 12, 13, 14, 15, 16, 17, 18] rfl) hK (hD.sub [0, 1, 2, 3, 4, 5, 6, 7, 8, 9, 10, 11, 12, 13, 14, 15, 16, 17, 18] (by decide) rfl) hN⟩ rfl rfl hl.1 rfl (lv_room (Nat.le_of_ble_eq_true rfl)) dX7_nodes_2 ⟨Nat.le_refl _, Nat.le_refl _⟩) hP hD hS hA [0, 1, 2, 3, 4, 5, 6, 7, 8, 9, 10, 11, 12, 13, 14, 15, 16, 17, 18] [] [0, 1, 2, 3, 4, 5, 6, 7, 8, 9, 10, 11, 12, 13, 14, 15, 16, 17, 18] rfl rfl (by decide) (fun _ => rfl) (fun u_3 H locs hP hD hS hz => ?_)
  obtain ⟨r_4, e_5, h⟩ := bd1_e h
  refine z_goi (ws' := []) (ret := r_4) (wc := (zMo cI cZ (h_M) (q_M) (c_s) (c_past) (c_kept) (c_isKept) (c_pasts) (c_text) (c_typed) (c_rect) (c_item) (c_items) (c_itemLevel) (c_treated) (c_from) (c_group) (c_turn) (c_size) (c_old) (c_aside) (c_begin) (c_level) (c_asides) (c_sorted) (c_spot) (c_rectangles) (c_parts) (c_visited))) (wn := fun u_6 => (zMo cI cZ h_M q_M c_s c_past c_kept c_isKept c_pasts c_text c_typed c_rect c_item c_items c_itemLevel c_treated c_from c_group c_turn c_size c_old c_aside c_begin c_level c_asides c_sorted c_spot c_rectangles c_parts c_visited)) (wr := []) (va_runV (As := [vI r_1]) (rest := []) hF.1 (c_Mo_nodesAhead l D cI cZ cT h_M q_M c_s c_past c_kept c_isKept c_pasts c_text c_typed c_rect c_item c_items c_itemLevel c_treated c_from c_group c_turn c_size c_old c_aside c_begin c_level c_asides c_sorted c_spot c_rectangles c_parts c_visited r_1 H.size (r_4) e_5) (cwV 1 hts (zgV wm1054 wm1056 wm70 wm89 wm1057) rfl rfl rfl (by decide +kernel) ⟨Nat.le_of_ble_eq_true rfl, Nat.le_of_ble_eq_true rfl⟩) ⟨zP.blind, va_recv hK (z_subP (ws' := (zMo cI cZ (h_M) (q_M) (c_s) (c_past) (c_kept) (c_isKept) (c_pasts) (c_text) (c_typed) (c_rect) (c_item) (c_items) (c_itemLevel) (c_treated) (c_from) (c_group) (c_turn) (c_size) (c_old) (c_aside) (c_begin) (c_level) (c_asides) (c_sorted) (c_spot) (c_rectangles) (c_parts) (c_visited))) hP [0, 1, 2, 3, 4, 5, 6, 7, 8, 9, 10, 11, 12, 13, 14, 15, 16, 17, 18] rfl) (ci := 7) (q0 := 0) rfl rfl, zP.enter (z_subP (ws' := (zMo cI cZ (h_M) (q_M) (c_s) (c_past) (c_kept) (c_isKept) (c_pasts) (c_text) (c_typed) (c_rect) (c_item) (c_items) (c_itemLevel) (c_treated) (c_from) (c_group) (c_turn) (c_size) (c_old) (c_aside) (c_begin) (c_level) (c_asides) (c_sorted) (c_spot) (c_rectangles) (c_parts) (c_visited))) hP [0, 1, 2, 3, 4, 5, 6, 7, 8, 9, 10, 11, 12, 13, 14, 15, 16, 17, 18] rfl) hK (hD.sub [0, 1, 2, 3, 4, 5, 6, 7, 8, 9, 10, 11, 12, 13, 14, 15, 16, 17, 18] (by decide) rfl) hN⟩ rfl rfl hl.1 rfl (lv_room (Nat.le_of_ble_eq_true rfl)) dX7_nodes_5 ⟨Nat.le_refl _, Nat.le_refl _⟩) hP hD hS hA [0, 1, 2, 3, 4, 5, 6, 7, 8, 9, 10, 11, 12, 13, 14, 15, 16, 17, 18] [] [0, 1, 2, 3, 4, 5, 6, 7, 8, 9, 10, 11, 12, 13, 14, 15, 16, 17, 18] rfl rfl (by decide) (fun _ => rfl) (fun u_6 H locs hP hD hS hz => ?_)
  obtain rfl := Option.some.inj h
  exact z_iret hx hb hr hlk (fun _ _ => 0) hP hD hS dX7_nodes_8
def f_Mo_pack_L8 (c_s : Nat → Int) (k : Int → Int → (Nat → Int) → Option (Int × (Nat → Int) × (Nat → Int) × Int × (Nat → Int))) : Nat → Int → Int → (Nat → Int) → Option (Int × (Nat → Int) × (Nat → Int) × Int × (Nat → Int))
  | 0, _, _, _ => none
  | n + 1, x1, x2, c_sorted =>
  gd (ck x2) <| if x2 < 24 then (bd1 (f_Mo_isBox c_s x2) <| fun r_7 => gd (ck r_7) <| if r_7 = 0 then (f_Mo_pack_L8 c_s k n (x1) ((x2 + 1)) (c_sorted)) else (gd (0 ≤ x1 ∧ x1 < ((24 : Nat) : Int)) <| f_Mo_pack_L8 c_s k n ((x1 + 1)) ((x2 + 1)) ((up c_sorted ((x1).toNat) x2)))) else (k (x1) (x2) (c_sorted))
def f_Mo_pack_L71 (k : Int → Int → (Nat → Int) → Option (Int × (Nat → Int) × (Nat → Int) × Int × (Nat → Int))) : Nat → Int → Int → (Nat → Int) → Option (Int × (Nat → Int) × (Nat → Int) × Int × (Nat → Int))
  | 0, _, _, _ => none
  | n + 1, x2, x3, c_s =>
  gd (ck x2) <| if 1 < x2 then (bd2 (f_Mo_packsAbove c_s x3) <| fun r_27 c_s_28 => f_Mo_pack_L71 k n (r_27) ((x3 + 1)) (c_s_28)) else (k (x2) (x3) (c_s))
def f_Mo_pack (c_s : Nat → Int) (c_past : Nat → Int) (c_pasts : Int) (c_sorted : Nat → Int) : Option (Int × (Nat → Int) × (Nat → Int) × Int × (Nat → Int)) :=
  bd2 (f_Mo_records c_s c_past c_pasts) <| fun c_past_1 c_pasts_2 => f_Mo_pack_L8 (c_s) (fun x1_13 x2_14 c_sorted_15 => gd (ck x1_13) <| if x1_13 = 0 then (some (1, (up (up c_s (4) 1) (101) (-1)), c_past_1, c_pasts_2, c_sorted_15)) else (bd2 (f_Mo_packsLeaves c_s c_sorted_15 x1_13) <| fun c_s_18 c_sorted_19 => bd1 (f_Mo_nodes c_s_18) <| fun r_22 => f_Mo_pack_L71 (fun x2_31 x3_32 c_s_33 => bd1 (f_Mo_nodes c_s_33) <| fun r_34 => some (r_34, c_s_33, c_past_1, c_pasts_2, c_sorted_19)) FU (r_22) (0) (c_s_18))) FU (0) (0) (c_sorted)
abbrev rm_Mo_pack : Room := ({ frames := 3, cells := 0, slots := 0, locals := 71 } : Room)
set_option maxHeartbeats 4000000 in
set_option maxRecDepth 100000 in
theorem w_Mo_pack_L8 {p : Program} {l : Launch} {e : Env} {s : State} {m : MethodId} {args : Array Value} {below : List Frame} {meth : Method} {c : Code} {A : Nat → Prop} (D : va_G) (cI cZ cT : ClassId) (h_M : Nat) (q_M : Nat → Nat) (c_s : Nat → Int) (c_past : Nat → Int) (c_kept : Nat → Int) (c_isKept : Int) (c_pasts : Int) (c_text : Nat → Int) (c_typed : Int) (c_rect : Nat → Int) (c_item : Nat → Int) (c_items : Int) (c_itemLevel : Int) (c_treated : Nat → Int) (c_from : Nat → Int) (c_group : Nat → Int) (c_turn : Nat → Int) (c_size : Nat → Int) (c_old : Nat → Int) (c_aside : Nat → Int) (c_begin : Nat → Int) (c_level : Nat → Int) (c_asides : Int) (c_spot : Int) (c_rectangles : Int) (c_parts : Nat → Int) (c_visited : Nat → Int) (res : Int × (Nat → Int) × (Nat → Int) × Int × (Nat → Int)) (k : Int → Int → (Nat → Int) → Option (Int × (Nat → Int) × (Nat → Int) × Int × (Nat → Int))) (hF : zF p m c cX7_pack 4 s args yX7_pack.cls meth (some .int) yX7_pack.name A D (zt cI cZ cT))
    (hk : ∀ (x1 : Int) (x2 : Int) (c_sorted : Nat → Int) (H : Heap) (locs : List Loc) (ls : Array Slot), k x1 x2 c_sorted = some res → va_P D vwCl ((zMo cI cZ h_M q_M c_s c_past c_kept c_isKept c_pasts c_text c_typed c_rect c_item c_items c_itemLevel c_treated c_from c_group c_turn c_size c_old c_aside c_begin c_level c_asides c_sorted c_spot c_rectangles c_parts c_visited)) H → va_D A ((zMo cI cZ h_M q_M c_s c_past c_kept c_isKept c_pasts c_text c_typed c_rect c_item c_items c_itemLevel c_treated c_from c_group c_turn c_size c_old c_aside c_begin c_level c_asides c_sorted c_spot c_rectangles c_parts c_visited)) → va_S A s.heap H locs → lv_has ls 4 [(0, .ref h_M), (1, vI x1)] → W p l e rm_Mo_pack s m args below meth c H locs 0 0 (MQ below (zQi D (res.1) (fun u => (zMo cI cZ h_M q_M (res.2.1) (res.2.2.1) c_kept c_isKept (res.2.2.2.1) c_text c_typed c_rect c_item c_items c_itemLevel c_treated c_from c_group c_turn c_size c_old c_aside c_begin c_level c_asides (res.2.2.2.2) c_spot c_rectangles c_parts c_visited)) A) args s 0 0 A) (F0 m 38 ls [])) :
    ∀ (n : Nat) (x1 : Int) (x2 : Int) (c_sorted : Nat → Int) (H : Heap) (locs : List Loc) (ls : Array Slot), f_Mo_pack_L8 c_s k n x1 x2 c_sorted = some res → va_P D vwCl ((zMo cI cZ h_M q_M c_s c_past c_kept c_isKept c_pasts c_text c_typed c_rect c_item c_items c_itemLevel c_treated c_from c_group c_turn c_size c_old c_aside c_begin c_level c_asides c_sorted c_spot c_rectangles c_parts c_visited)) H → va_D A ((zMo cI cZ h_M q_M c_s c_past c_kept c_isKept c_pasts c_text c_typed c_rect c_item c_items c_itemLevel c_treated c_from c_group c_turn c_size c_old c_aside c_begin c_level c_asides c_sorted c_spot c_rectangles c_parts c_visited)) → va_S A s.heap H locs → lv_has ls 4 [(0, .ref h_M), (1, vI x1), (2, vI x2)] → W p l e rm_Mo_pack s m args below meth c H locs 0 0 (MQ below (zQi D (res.1) (fun u => (zMo cI cZ h_M q_M (res.2.1) (res.2.2.1) c_kept c_isKept (res.2.2.2.1) c_text c_typed c_rect c_item c_items c_itemLevel c_treated c_from c_group c_turn c_size c_old c_aside c_begin c_level c_asides (res.2.2.2.2) c_spot c_rectangles c_parts c_visited)) A) args s 0 0 A) (F0 m 8 ls []) := by
  have hx := hF.1.1
  have hb := hF.1.2.1
  have hml := hF.1.2.2.1
  have hown : s.vm.findClass "RectangleTreeModel" = some m.cls := hF.1.2.2.2.1
  have hts := hF.1.2.2.2.2
  have hr := hF.2.1
  have hlk := hF.2.2.1
  have hK := hF.2.2.2.2.1
  have hN := hF.2.2.2.2.2.1
  have hA := hF.2.2.2.2.2.2
  intro n
  induction n with
  | zero => intro x1 x2 c_sorted H locs ls h; cases h
  | succ n ih =>
    intro x1 x2 c_sorted H locs ls h hP hD hS hl
    rw [f_Mo_pack_L8] at h
    refine lv_iload_n hx hb dX7_pack_8 rfl (lv_at hl 2 rfl) ?_
    refine lv_bipush (v := Int32.ofInt 24) hx hb dX7_pack_9 (by decide +kernel) ?_
    obtain ⟨g_5, h⟩ := gd_e h
    refine z_icmp_ge (tgt := 38) hx hb g_5 (by decide) dX7_pack_11 (by decide) (fun b_6 => ?_) (fun b_6 => ?_)
    · have h := it_n b_6 h
      exact hk (x1) (x2) (c_sorted) H locs ls h hP hD hS (lv_sub hl [0, 1] rfl)
    · have h := it_p b_6 h
      refine lv_aload_n hx hb dX7_pack_14 rfl (lv_at hl 0 rfl) ?_
      refine lv_iload_n hx hb dX7_pack_15 rfl (lv_at hl 2 rfl) ?_
      obtain ⟨r_7, e_8, h⟩ := bd1_e h
      refine z_goi (ws' := []) (ret := r_7) (wc := (zMo cI cZ (h_M) (q_M) (c_s) (c_past) (c_kept) (c_isKept) (c_pasts) (c_text) (c_typed) (c_rect) (c_item) (c_items) (c_itemLevel) (c_treated) (c_from) (c_group) (c_turn) (c_size) (c_old) (c_aside) (c_begin) (c_level) (c_asides) (c_sorted) (c_spot) (c_rectangles) (c_parts) (c_visited))) (wn := fun u_9 => (zMo cI cZ h_M q_M c_s c_past c_kept c_isKept c_pasts c_text c_typed c_rect c_item c_items c_itemLevel c_treated c_from c_group c_turn c_size c_old c_aside c_begin c_level c_asides c_sorted c_spot c_rectangles c_parts c_visited)) (wr := []) (va_runV (As := [vI x2]) (rest := []) hF.1 (c_Mo_isBox l D cI cZ cT h_M q_M c_s c_past c_kept c_isKept c_pasts c_text c_typed c_rect c_item c_items c_itemLevel c_treated c_from c_group c_turn c_size c_old c_aside c_begin c_level c_asides c_sorted c_spot c_rectangles c_parts c_visited x2 H.size (r_7) e_8) (cwV 1 hts (zgV wm881 wm883 wm32 wm89 wm884) rfl rfl rfl (by decide +kernel) ⟨Nat.le_of_ble_eq_true rfl, Nat.le_of_ble_eq_true rfl⟩) ⟨zP.blind, va_recv hK (z_subP (ws' := (zMo cI cZ (h_M) (q_M) (c_s) (c_past) (c_kept) (c_isKept) (c_pasts) (c_text) (c_typed) (c_rect) (c_item) (c_items) (c_itemLevel) (c_treated) (c_from) (c_group) (c_turn) (c_size) (c_old) (c_aside) (c_begin) (c_level) (c_asides) (c_sorted) (c_spot) (c_rectangles) (c_parts) (c_visited))) hP [0, 1, 2, 3, 4, 5, 6, 7, 8, 9, 10, 11, 12, 13, 14, 15, 16, 17, 18] rfl) (ci := 7) (q0 := 0) rfl rfl, zP.enter (z_subP (ws' := (zMo cI cZ (h_M) (q_M) (c_s) (c_past) (c_kept) (c_isKept) (c_pasts) (c_text) (c_typed) (c_rect) (c_item) (c_items) (c_itemLevel) (c_treated) (c_from) (c_group) (c_turn) (c_size) (c_old) (c_aside) (c_begin) (c_level) (c_asides) (c_sorted) (c_spot) (c_rectangles) (c_parts) (c_visited))) hP [0, 1, 2, 3, 4, 5, 6, 7, 8, 9, 10, 11, 12, 13, 14, 15, 16, 17, 18] rfl) hK (hD.sub [0, 1, 2, 3, 4, 5, 6, 7, 8, 9, 10, 11, 12, 13, 14, 15, 16, 17, 18] (by decide) rfl) hN⟩ rfl rfl hl.1 rfl (lv_room (Nat.le_of_ble_eq_true rfl)) dX7_pack_16 ⟨Nat.le_refl _, Nat.le_refl _⟩) hP hD hS hA [0, 1, 2, 3, 4, 5, 6, 7, 8, 9, 10, 11, 12, 13, 14, 15, 16, 17, 18] [] [0, 1, 2, 3, 4, 5, 6, 7, 8, 9, 10, 11, 12, 13, 14, 15, 16, 17, 18] rfl rfl (by decide) (fun _ => rfl) (fun u_9 H locs hP hD hS hz => ?_)
      obtain ⟨g_10, h⟩ := gd_e h
      refine z_if_eq (tgt := 32) hx hb g_10 dX7_pack_19 (by decide) (fun b_11 => ?_) (fun b_11 => ?_)
      · have h := it_p b_11 h
        refine lv_iinc (v := Int32.ofInt (x2 + 1)) (lv' := [(2, vI (x2 + 1)), (0, .ref h_M), (1, vI x1)]) hx hb dX7_pack_32 hl (k := 2) rfl (z_inc _ _) (by decide) rfl (fun ls hl => ?_)
        refine lv_goto (tgt := 8) hx hb dX7_pack_35 (by decide) ?_
        exact ih (x1) ((x2 + 1)) (c_sorted) H locs ls h hP hD hS (lv_sub hl [1, 2, 0] rfl)
      · have h := it_n b_11 h
        refine lv_aload_n hx hb dX7_pack_22 rfl (lv_at hl 0 rfl) ?_
        refine va_get (D := D) (ci := 7) (v := .ref (q_M 15)) (C := RX7) (T := TX7) (N := 26) hx hb hts zin7 hown hK hP 0 rfl rfl 21 (by decide) (hts _ wm808) (fun _ h9 => h9) rfl dX7_pack_23 ?_
        refine lv_iload_n hx hb dX7_pack_26 rfl (lv_at hl 1 rfl) ?_
        refine lv_iload_n hx hb dX7_pack_27 rfl (lv_at hl 2 rfl) ?_
        obtain ⟨g_12, h⟩ := gd_e h
        refine z_iast (n := 24) (f := c_sorted) (i := x1) (x := x2) (ws' := (zMo cI cZ h_M q_M c_s c_past c_kept c_isKept c_pasts c_text c_typed c_rect c_item c_items c_itemLevel c_treated c_from c_group c_turn c_size c_old c_aside c_begin c_level c_asides (up c_sorted ((x1).toNat) x2) c_spot c_rectangles c_parts c_visited)) hx hb hK hP hD hS 16 rfl rfl g_12 (by have := g_12.2; omega) dX7_pack_28 rfl (fun H locs hP hD hS => ?_)
        refine lv_iinc (v := Int32.ofInt (x1 + 1)) (lv' := [(1, vI (x1 + 1)), (0, .ref h_M), (2, vI x2)]) hx hb dX7_pack_29 hl (k := 1) rfl (z_inc _ _) (by decide) rfl (fun ls hl => ?_)
        refine lv_iinc (v := Int32.ofInt (x2 + 1)) (lv' := [(2, vI (x2 + 1)), (1, vI (x1 + 1)), (0, .ref h_M)]) hx hb dX7_pack_32 hl (k := 2) rfl (z_inc _ _) (by decide) rfl (fun ls hl => ?_)
        refine lv_goto (tgt := 8) hx hb dX7_pack_35 (by decide) ?_
        exact ih ((x1 + 1)) ((x2 + 1)) ((up c_sorted ((x1).toNat) x2)) H locs ls h hP hD hS (lv_sub hl [2, 1, 0] rfl)
set_option maxHeartbeats 4000000 in
set_option maxRecDepth 100000 in
theorem w_Mo_pack_L71 {p : Program} {l : Launch} {e : Env} {s : State} {m : MethodId} {args : Array Value} {below : List Frame} {meth : Method} {c : Code} {A : Nat → Prop} (D : va_G) (cI cZ cT : ClassId) (h_M : Nat) (q_M : Nat → Nat) (c_past : Nat → Int) (c_kept : Nat → Int) (c_isKept : Int) (c_pasts : Int) (c_text : Nat → Int) (c_typed : Int) (c_rect : Nat → Int) (c_item : Nat → Int) (c_items : Int) (c_itemLevel : Int) (c_treated : Nat → Int) (c_from : Nat → Int) (c_group : Nat → Int) (c_turn : Nat → Int) (c_size : Nat → Int) (c_old : Nat → Int) (c_aside : Nat → Int) (c_begin : Nat → Int) (c_level : Nat → Int) (c_asides : Int) (c_sorted : Nat → Int) (c_spot : Int) (c_rectangles : Int) (c_parts : Nat → Int) (c_visited : Nat → Int) (res : Int × (Nat → Int) × (Nat → Int) × Int × (Nat → Int)) (k : Int → Int → (Nat → Int) → Option (Int × (Nat → Int) × (Nat → Int) × Int × (Nat → Int))) (hF : zF p m c cX7_pack 4 s args yX7_pack.cls meth (some .int) yX7_pack.name A D (zt cI cZ cT))
    (hk : ∀ (x2 : Int) (x3 : Int) (c_s : Nat → Int) (H : Heap) (locs : List Loc) (ls : Array Slot), k x2 x3 c_s = some res → va_P D vwCl ((zMo cI cZ h_M q_M c_s c_past c_kept c_isKept c_pasts c_text c_typed c_rect c_item c_items c_itemLevel c_treated c_from c_group c_turn c_size c_old c_aside c_begin c_level c_asides c_sorted c_spot c_rectangles c_parts c_visited)) H → va_D A ((zMo cI cZ h_M q_M c_s c_past c_kept c_isKept c_pasts c_text c_typed c_rect c_item c_items c_itemLevel c_treated c_from c_group c_turn c_size c_old c_aside c_begin c_level c_asides c_sorted c_spot c_rectangles c_parts c_visited)) → va_S A s.heap H locs → lv_has ls 4 [(0, .ref h_M)] → W p l e rm_Mo_pack s m args below meth c H locs 0 0 (MQ below (zQi D (res.1) (fun u => (zMo cI cZ h_M q_M (res.2.1) (res.2.2.1) c_kept c_isKept (res.2.2.2.1) c_text c_typed c_rect c_item c_items c_itemLevel c_treated c_from c_group c_turn c_size c_old c_aside c_begin c_level c_asides (res.2.2.2.2) c_spot c_rectangles c_parts c_visited)) A) args s 0 0 A) (F0 m 88 ls [])) :
    ∀ (n : Nat) (x2 : Int) (x3 : Int) (c_s : Nat → Int) (H : Heap) (locs : List Loc) (ls : Array Slot), f_Mo_pack_L71 k n x2 x3 c_s = some res → va_P D vwCl ((zMo cI cZ h_M q_M c_s c_past c_kept c_isKept c_pasts c_text c_typed c_rect c_item c_items c_itemLevel c_treated c_from c_group c_turn c_size c_old c_aside c_begin c_level c_asides c_sorted c_spot c_rectangles c_parts c_visited)) H → va_D A ((zMo cI cZ h_M q_M c_s c_past c_kept c_isKept c_pasts c_text c_typed c_rect c_item c_items c_itemLevel c_treated c_from c_group c_turn c_size c_old c_aside c_begin c_level c_asides c_sorted c_spot c_rectangles c_parts c_visited)) → va_S A s.heap H locs → lv_has ls 4 [(0, .ref h_M), (2, vI x2), (3, vI x3)] → W p l e rm_Mo_pack s m args below meth c H locs 0 0 (MQ below (zQi D (res.1) (fun u => (zMo cI cZ h_M q_M (res.2.1) (res.2.2.1) c_kept c_isKept (res.2.2.2.1) c_text c_typed c_rect c_item c_items c_itemLevel c_treated c_from c_group c_turn c_size c_old c_aside c_begin c_level c_asides (res.2.2.2.2) c_spot c_rectangles c_parts c_visited)) A) args s 0 0 A) (F0 m 71 ls []) := by
  have hx := hF.1.1
  have hb := hF.1.2.1
  have hml := hF.1.2.2.1
  have hown : s.vm.findClass "RectangleTreeModel" = some m.cls := hF.1.2.2.2.1
  have hts := hF.1.2.2.2.2
  have hr := hF.2.1
  have hlk := hF.2.2.1
  have hK := hF.2.2.2.2.1
  have hN := hF.2.2.2.2.2.1
  have hA := hF.2.2.2.2.2.2
  intro n
  induction n with
  | zero => intro x2 x3 c_s H locs ls h; cases h
  | succ n ih =>
    intro x2 x3 c_s H locs ls h hP hD hS hl
    rw [f_Mo_pack_L71] at h
    refine lv_iload_n hx hb dX7_pack_71 rfl (lv_at hl 1 rfl) ?_
    refine lv_iconst (v := Int32.ofInt 1) hx hb dX7_pack_72 rfl ?_
    obtain ⟨g_25, h⟩ := gd_e h
    refine z_icmp_le (tgt := 88) hx hb g_25 (by decide) dX7_pack_73 (by decide) (fun b_26 => ?_) (fun b_26 => ?_)
    · have h := it_n b_26 h
      exact hk (x2) (x3) (c_s) H locs ls h hP hD hS (lv_sub hl [0] rfl)
    · have h := it_p b_26 h
      refine lv_aload_n hx hb dX7_pack_76 rfl (lv_at hl 0 rfl) ?_
      refine lv_iload_n hx hb dX7_pack_77 rfl (lv_at hl 2 rfl) ?_
      obtain ⟨r_27, c_s_28, e_29, h⟩ := bd2_e h
      refine z_goi (ws' := []) (ret := r_27) (wc := (zMo cI cZ (h_M) (q_M) (c_s) (c_past) (c_kept) (c_isKept) (c_pasts) (c_text) (c_typed) (c_rect) (c_item) (c_items) (c_itemLevel) (c_treated) (c_from) (c_group) (c_turn) (c_size) (c_old) (c_aside) (c_begin) (c_level) (c_asides) (c_sorted) (c_spot) (c_rectangles) (c_parts) (c_visited))) (wn := fun u_30 => (zMo cI cZ h_M q_M c_s_28 c_past c_kept c_isKept c_pasts c_text c_typed c_rect c_item c_items c_itemLevel c_treated c_from c_group c_turn c_size c_old c_aside c_begin c_level c_asides c_sorted c_spot c_rectangles c_parts c_visited)) (wr := []) (va_runV (As := [vI x3]) (rest := []) hF.1 (c_Mo_packsAbove l D cI cZ cT h_M q_M c_s c_past c_kept c_isKept c_pasts c_text c_typed c_rect c_item c_items c_itemLevel c_treated c_from c_group c_turn c_size c_old c_aside c_begin c_level c_asides c_sorted c_spot c_rectangles c_parts c_visited x3 H.size (r_27, c_s_28) e_29) (cwV 1 hts (zgV wm1058 wm1060 wm71 wm89 wm1061) rfl rfl rfl (by decide +kernel) ⟨Nat.le_of_ble_eq_true rfl, Nat.le_of_ble_eq_true rfl⟩) ⟨zP.blind, va_recv hK (z_subP (ws' := (zMo cI cZ (h_M) (q_M) (c_s) (c_past) (c_kept) (c_isKept) (c_pasts) (c_text) (c_typed) (c_rect) (c_item) (c_items) (c_itemLevel) (c_treated) (c_from) (c_group) (c_turn) (c_size) (c_old) (c_aside) (c_begin) (c_level) (c_asides) (c_sorted) (c_spot) (c_rectangles) (c_parts) (c_visited))) hP [0, 1, 2, 3, 4, 5, 6, 7, 8, 9, 10, 11, 12, 13, 14, 15, 16, 17, 18] rfl) (ci := 7) (q0 := 0) rfl rfl, zP.enter (z_subP (ws' := (zMo cI cZ (h_M) (q_M) (c_s) (c_past) (c_kept) (c_isKept) (c_pasts) (c_text) (c_typed) (c_rect) (c_item) (c_items) (c_itemLevel) (c_treated) (c_from) (c_group) (c_turn) (c_size) (c_old) (c_aside) (c_begin) (c_level) (c_asides) (c_sorted) (c_spot) (c_rectangles) (c_parts) (c_visited))) hP [0, 1, 2, 3, 4, 5, 6, 7, 8, 9, 10, 11, 12, 13, 14, 15, 16, 17, 18] rfl) hK (hD.sub [0, 1, 2, 3, 4, 5, 6, 7, 8, 9, 10, 11, 12, 13, 14, 15, 16, 17, 18] (by decide) rfl) hN⟩ rfl rfl hl.1 rfl (lv_room (Nat.le_of_ble_eq_true rfl)) dX7_pack_78 ⟨Nat.le_refl _, Nat.le_refl _⟩) hP hD hS hA [0, 1, 2, 3, 4, 5, 6, 7, 8, 9, 10, 11, 12, 13, 14, 15, 16, 17, 18] [] [0, 1, 2, 3, 4, 5, 6, 7, 8, 9, 10, 11, 12, 13, 14, 15, 16, 17, 18] rfl rfl (by decide) (fun _ => rfl) (fun u_30 H locs hP hD hS hz => ?_)
      refine lv_istore_n (lv' := [(2, vI r_27), (0, .ref h_M), (3, vI x3)]) hx hb dX7_pack_81 rfl hl (by decide) rfl (fun ls hl => ?_)
      refine lv_iinc (v := Int32.ofInt (x3 + 1)) (lv' := [(3, vI (x3 + 1)), (2, vI r_27), (0, .ref h_M)]) hx hb dX7_pack_82 hl (k := 2) rfl (z_inc _ _) (by decide) rfl (fun ls hl => ?_)
      refine lv_goto (tgt := 71) hx hb dX7_pack_85 (by decide) ?_
      exact ih (r_27) ((x3 + 1)) (c_s_28) H locs ls h hP hD hS (lv_sub hl [2, 1, 0] rfl)
set_option maxHeartbeats 4000000 in
set_option maxRecDepth 100000 in
theorem c_Mo_pack (l : Launch) (D : va_G) (cI cZ cT : ClassId) (h_M : Nat) (q_M : Nat → Nat) (c_s : Nat → Int) (c_past : Nat → Int) (c_kept : Nat → Int) (c_isKept : Int) (c_pasts : Int) (c_text : Nat → Int) (c_typed : Int) (c_rect : Nat → Int) (c_item : Nat → Int) (c_items : Int) (c_itemLevel : Int) (c_treated : Nat → Int) (c_from : Nat → Int) (c_group : Nat → Int) (c_turn : Nat → Int) (c_size : Nat → Int) (c_old : Nat → Int) (c_aside : Nat → Int) (c_begin : Nat → Int) (c_level : Nat → Int) (c_asides : Int) (c_sorted : Nat → Int) (c_spot : Int) (c_rectangles : Int) (c_parts : Nat → Int) (c_visited : Nat → Int) (sz : Nat) (res : Int × (Nat → Int) × (Nat → Int) × Int × (Nat → Int)) (h : f_Mo_pack c_s c_past c_pasts c_sorted = some res) : zMi l yX7_pack cX7_pack 4 rm_Mo_pack D (zt cI cZ cT) [.ref h_M] ((zMo cI cZ h_M q_M c_s c_past c_kept c_isKept c_pasts c_text c_typed c_rect c_item c_items c_itemLevel c_treated c_from c_group c_turn c_size c_old c_aside c_begin c_level c_asides c_sorted c_spot c_rectangles c_parts c_visited)) sz (res.1) (fun u => (zMo cI cZ h_M q_M (res.2.1) (res.2.2.1) c_kept c_isKept (res.2.2.2.1) c_text c_typed c_rect c_item c_items c_itemLevel c_treated c_from c_group c_turn c_size c_old c_aside c_begin c_level c_asides (res.2.2.2.2) c_spot c_rectangles c_parts c_visited)) 0 0 := by
  refine z_enth (Qc := zQi D (res.1) (fun u => (zMo cI cZ h_M q_M (res.2.1) (res.2.2.1) c_kept c_isKept (res.2.2.2.1) c_text c_typed c_rect c_item c_items c_itemLevel c_treated c_from c_group c_turn c_size c_old c_aside c_begin c_level c_asides (res.2.2.2.2) c_spot c_rectangles c_parts c_visited))) (by decide) (Nat.le_of_ble_eq_true rfl) (fun p e s m args below meth c A ls H locs hF hP hD hS hl => ?_)
  have hx := hF.1.1
  have hb := hF.1.2.1
  have hml := hF.1.2.2.1
  have hown : s.vm.findClass "RectangleTreeModel" = some m.cls := hF.1.2.2.2.1
  have hts := hF.1.2.2.2.2
  have hr := hF.2.1
  have hlk := hF.2.2.1
  have hK := hF.2.2.2.2.1
  have hN := hF.2.2.2.2.2.1
  have hA := hF.2.2.2.2.2.2
  unfold f_Mo_pack at h
  refine lv_aload_n hx hb dX7_pack_0 rfl (lv_at hl 0 rfl) ?_
  obtain ⟨c_past_1, c_pasts_2, e_3, h⟩ := bd2_e h
  refine z_gov (wc := (zMo cI cZ (h_M) (q_M) (c_s) (c_past) (c_kept) (c_isKept) (c_pasts) (c_text) (c_typed) (c_rect) (c_item) (c_items) (c_itemLevel) (c_treated) (c_from) (c_group) (c_turn) (c_size) (c_old) (c_aside) (c_begin) (c_level) (c_asides) (c_sorted) (c_spot) (c_rectangles) (c_parts) (c_visited))) (wn := fun u_4 => (zMo cI cZ h_M q_M c_s c_past_1 c_kept c_isKept c_pasts_2 c_text c_typed c_rect c_item c_items c_itemLevel c_treated c_from c_group c_turn c_size c_old c_aside c_begin c_level c_asides c_sorted c_spot c_rectangles c_parts c_visited)) (wr := []) (va_runV (As := []) (rest := []) hF.1 (c_Mo_records l D cI cZ cT h_M q_M c_s c_past c_kept c_isKept c_pasts c_text c_typed c_rect c_item c_items c_itemLevel c_treated c_from c_group c_turn c_size c_old c_aside c_begin c_level c_asides c_sorted c_spot c_rectangles c_parts c_visited H.size (c_past_1, c_pasts_2) e_3) (cwV 0 hts (zgV wm885 wm887 wm33 wm89 wm888) rfl rfl rfl (by decide +kernel) ⟨Nat.le_of_ble_eq_true rfl, Nat.le_of_ble_eq_true rfl⟩) ⟨zP.blind, va_recv hK (z_subP (ws' := (zMo cI cZ (h_M) (q_M) (c_s) (c_past) (c_kept) (c_isKept) (c_pasts) (c_text) (c_typed) (c_rect) (c_item) (c_items) (c_itemLevel) (c_treated) (c_from) (c_group) (c_turn) (c_size) (c_old) (c_aside) (c_begin) (c_level) (c_asides) (c_sorted) (c_spot) (c_rectangles) (c_parts) (c_visited))) hP [0, 1, 2, 3, 4, 5, 6, 7, 8, 9, 10, 11, 12, 13, 14, 15, 16, 17, 18] rfl) (ci := 7) (q0 := 0) rfl rfl, zP.enter (z_subP (ws' := (zMo cI cZ (h_M) (q_M) (c_s) (c_past) (c_kept) (c_isKept) (c_pasts) (c_text) (c_typed) (c_rect) (c_item) (c_items) (c_itemLevel) (c_treated) (c_from) (c_group) (c_turn) (c_size) (c_old) (c_aside) (c_begin) (c_level) (c_asides) (c_sorted) (c_spot) (c_rectangles) (c_parts) (c_visited))) hP [0, 1, 2, 3, 4, 5, 6, 7, 8, 9, 10, 11, 12, 13, 14, 15, 16, 17, 18] rfl) hK (hD.sub [0, 1, 2, 3, 4, 5, 6, 7, 8, 9, 10, 11, 12, 13, 14, 15, 16, 17, 18] (by decide) rfl) hN⟩ rfl rfl hl.1 rfl (lv_room (Nat.le_of_ble_eq_true rfl)) dX7_pack_1 ⟨Nat.le_refl _, Nat.le_refl _⟩) hP hD hS hA [0, 1, 2, 3, 4, 5, 6, 7, 8, 9, 10, 11, 12, 13, 14, 15, 16, 17, 18] [] [0, 1, 2, 3, 4, 5, 6, 7, 8, 9, 10, 11, 12, 13, 14, 15, 16, 17, 18] rfl rfl (by decide) (fun _ => rfl) (fun u_4 H locs hP hD hS hz => ?_)
  refine lv_iconst (v := Int32.ofInt 0) hx hb dX7_pack_4 rfl ?_
  refine lv_istore_n (lv' := [(1, vI 0), (0, .ref h_M)]) hx hb dX7_pack_5 rfl hl (by decide) rfl (fun ls hl => ?_)
  refine lv_iconst (v := Int32.ofInt 0) hx hb dX7_pack_6 rfl ?_
  refine lv_istore_n (lv' := [(2, vI 0), (1, vI 0), (0, .ref h_M)]) hx hb dX7_pack_7 rfl hl (by decide) rfl (fun ls hl => ?_)
  refine w_Mo_pack_L8 D cI cZ cT (h_M) (q_M) (c_s) (c_past_1) (c_kept) (c_isKept) (c_pasts_2) (c_text) (c_typed) (c_rect) (c_item) (c_items) (c_itemLevel) (c_treated) (c_from) (c_group) (c_turn) (c_size) (c_old) (c_aside) (c_begin) (c_level) (c_asides) (c_spot) (c_rectangles) (c_parts) (c_visited) _ _ hF (fun x1_13 x2_14 c_sorted_15 H locs ls h hP hD hS hl => ?_) _ (0) (0) (c_sorted) _ _ _ h hP hD hS (lv_sub hl [2, 1, 0] rfl)
  refine lv_iload_n hx hb dX7_pack_38 rfl (lv_at hl 1 rfl) ?_
  obtain ⟨g_16, h⟩ := gd_e h
  refine z_if_ne (tgt := 59) hx hb g_16 dX7_pack_39 (by decide) (fun b_17 => ?_) (fun b_17 => ?_)
  · have h := it_n b_17 h
    refine lv_aload_n hx hb dX7_pack_59 rfl (lv_at hl 0 rfl) ?_
    refine lv_iload_n hx hb dX7_pack_60 rfl (lv_at hl 1 rfl) ?_
    obtain ⟨c_s_18, c_sorted_19, e_20, h⟩ := bd2_e h
    refine z_gov (wc := (zMo cI cZ (h_M) (q_M) (c_s) (c_past_1) (c_kept) (c_isKept) (c_pasts_2) (c_text) (c_typed) (c_rect) (c_item) (c_items) (c_itemLevel) (c_treated) (c_from) (c_group) (c_turn) (c_size) (c_old) (c_aside) (c_begin) (c_level) (c_asides) (c_sorted_15) (c_spot) (c_rectangles) (c_parts) (c_visited))) (wn := fun u_21 => (zMo cI cZ h_M q_M c_s_18 c_past_1 c_kept c_isKept c_pasts_2 c_text c_typed c_rect c_item c_items c_itemLevel c_treated c_from c_group c_turn c_size c_old c_aside c_begin c_level c_asides c_sorted_19 c_spot c_rectangles c_parts c_visited)) (wr := []) (va_runV (As := [vI x1_13]) (rest := []) hF.1 (c_Mo_packsLeaves l D cI cZ cT h_M q_M c_s c_past_1 c_kept c_isKept c_pasts_2 c_text c_typed c_rect c_item c_items c_itemLevel c_treated c_from c_group c_turn c_size c_old c_aside c_begin c_level c_asides c_sorted_15 c_spot c_rectangles c_parts c_visited x1_13 H.size (c_s_18, c_sorted_19) e_20) (cwV 1 hts (zgV wm1030 wm1032 wm65 wm89 wm1033) rfl rfl rfl (by decide +kernel) ⟨Nat.le_of_ble_eq_true rfl, Nat.le_of_ble_eq_true rfl⟩) ⟨zP.blind, va_recv hK (z_subP (ws' := (zMo cI cZ (h_M) (q_M) (c_s) (c_past_1) (c_kept) (c_isKept) (c_pasts_2) (c_text) (c_typed) (c_rect) (c_item) (c_items) (c_itemLevel) (c_treated) (c_from) (c_group) (c_turn) (c_size) (c_old) (c_aside) (c_begin) (c_level) (c_asides) (c_sorted_15) (c_spot) (c_rectangles) (c_parts) (c_visited))) hP [0, 1, 2, 3, 4, 5, 6, 7, 8, 9, 10, 11, 12, 13, 14, 15, 16, 17, 18] rfl) (ci := 7) (q0 := 0) rfl rfl, zP.enter (z_subP (ws' := (zMo cI cZ (h_M) (q_M) (c_s) (c_past_1) (c_kept) (c_isKept) (c_pasts_2) (c_text) (c_typed) (c_rect) (c_item) (c_items) (c_itemLevel) (c_treated) (c_from) (c_group) (c_turn) (c_size) (c_old) (c_aside) (c_begin) (c_level) (c_asides) (c_sorted_15) (c_spot) (c_rectangles) (c_parts) (c_visited))) hP [0, 1, 2, 3, 4, 5, 6, 7, 8, 9, 10, 11, 12, 13, 14, 15, 16, 17, 18] rfl) hK (hD.sub [0, 1, 2, 3, 4, 5, 6, 7, 8, 9, 10, 11, 12, 13, 14, 15, 16, 17, 18] (by decide) rfl) hN⟩ rfl rfl hl.1 rfl (lv_room (Nat.le_of_ble_eq_true rfl)) dX7_pack_61 ⟨Nat.le_refl _, Nat.le_refl _⟩) hP hD hS hA [0, 1, 2, 3, 4, 5, 6, 7, 8, 9, 10, 11, 12, 13, 14, 15, 16, 17, 18] [] [0, 1, 2, 3, 4, 5, 6, 7, 8, 9, 10, 11, 12, 13, 14, 15, 16, 17, 18] rfl rfl (by decide) (fun _ => rfl) (fun u_21 H locs hP hD hS hz => ?_)
    refine lv_aload_n hx hb dX7_pack_64 rfl (lv_at hl 0 rfl) ?_
    obtain ⟨r_22, e_23, h⟩ := bd1_e h
    refine z_goi (ws' := []) (ret := r_22) (wc := (zMo cI cZ (h_M) (q_M) (c_s_18) (c_past_1) (c_kept) (c_isKept) (c_pasts_2) (c_text) (c_typed) (c_rect) (c_item) (c_items) (c_itemLevel) (c_treated) (c_from) (c_group) (c_turn) (c_size) (c_old) (c_aside) (c_begin) (c_level) (c_asides) (c_sorted_19) (c_spot) (c_rectangles) (c_parts) (c_visited))) (wn := fun u_24 => (zMo cI cZ h_M q_M c_s_18 c_past_1 c_kept c_isKept c_pasts_2 c_text c_typed c_rect c_item c_items c_itemLevel c_treated c_from c_group c_turn c_size c_old c_aside c_begin c_level c_asides c_sorted_19 c_spot c_rectangles c_parts c_visited)) (wr := []) (va_runV (As := []) (rest := []) hF.1 (c_Mo_nodes l D cI cZ cT h_M q_M c_s_18 c_past_1 c_kept c_isKept c_pasts_2 c_text c_typed c_rect c_item c_items c_itemLevel c_treated c_from c_group c_turn c_size c_old c_aside c_begin c_level c_asides c_sorted_19 c_spot c_rectangles c_parts c_visited H.size (r_22) e_23) (cwV 0 hts (zgV wm1050 wm1051 wm1052 wm89 wm1053) rfl rfl rfl (by decide +kernel) ⟨Nat.le_of_ble_eq_true rfl, Nat.le_of_ble_eq_true rfl⟩) ⟨zP.blind, va_recv hK (z_subP (ws' := (zMo cI cZ (h_M) (q_M) (c_s_18) (c_past_1) (c_kept) (c_isKept) (c_pasts_2) (c_text) (c_typed) (c_rect) (c_item) (c_items) (c_itemLevel) (c_treated) (c_from) (c_group) (c_turn) (c_size) (c_old) (c_aside) (c_begin) (c_level) (c_asides) (c_sorted_19) (c_spot) (c_rectangles) (c_parts) (c_visited))) hP [0, 1, 2, 3, 4, 5, 6, 7, 8, 9, 10, 11, 12, 13, 14, 15, 16, 17, 18] rfl) (ci := 7) (q0 := 0) rfl rfl, zP.enter (z_subP (ws' := (zMo cI cZ (h_M) (q_M) (c_s_18) (c_past_1) (c_kept) (c_isKept) (c_pasts_2) (c_text) (c_typed) (c_rect) (c_item) (c_items) (c_itemLevel) (c_treated) (c_from) (c_group) (c_turn) (c_size) (c_old) (c_aside) (c_begin) (c_level) (c_asides) (c_sorted_19) (c_spot) (c_rectangles) (c_parts) (c_visited))) hP [0, 1, 2, 3, 4, 5, 6, 7, 8, 9, 10, 11, 12, 13, 14, 15, 16, 17, 18] rfl) hK (hD.sub [0, 1, 2, 3, 4, 5, 6, 7, 8, 9, 10, 11, 12, 13, 14, 15, 16, 17, 18] (by decide) rfl) hN⟩ rfl rfl hl.1 rfl (lv_room (Nat.le_of_ble_eq_true rfl)) dX7_pack_65 ⟨Nat.le_refl _, Nat.le_refl _⟩) hP hD hS hA [0, 1, 2, 3, 4, 5, 6, 7, 8, 9, 10, 11, 12, 13, 14, 15, 16, 17, 18] [] [0, 1, 2, 3, 4, 5, 6, 7, 8, 9, 10, 11, 12, 13, 14, 15, 16, 17, 18] rfl rfl (by decide) (fun _ => rfl) (fun u_24 H locs hP hD hS hz => ?_)
    refine lv_istore_n (lv' := [(2, vI r_22), (0, .ref h_M), (1, vI x1_13)]) hx hb dX7_pack_68 rfl hl (by decide) rfl (fun ls hl => ?_)
    refine lv_iconst (v := Int32.ofInt 0) hx hb dX7_pack_69 rfl ?_
    refine lv_istore_n (lv' := [(3, vI 0), (2, vI r_22), (0, .ref h_M), (1, vI x1_13)]) hx hb dX7_pack_70 rfl hl (by decide) rfl (fun ls hl => ?_)
    refine w_Mo_pack_L71 D cI cZ cT (h_M) (q_M) (c_past_1) (c_kept) (c_isKept) (c_pasts_2) (c_text) (c_typed) (c_rect) (c_item) (c_items) (c_itemLevel) (c_treated) (c_from) (c_group) (c_turn) (c_size) (c_old) (c_aside) (c_begin) (c_level) (c_asides) (c_sorted_19) (c_spot) (c_rectangles) (c_parts) (c_visited) _ _ hF (fun x2_31 x3_32 c_s_33 H locs ls h hP hD hS hl => ?_) _ (r_22) (0) (c_s_18) _ _ _ h hP hD hS (lv_sub hl [2, 1, 0] rfl)
    refine lv_aload_n hx hb dX7_pack_88 rfl (lv_at hl 0 rfl) ?_
    obtain ⟨r_34, e_35, h⟩ := bd1_e h
    refine z_goi (ws' := []) (ret := r_34) (wc := (zMo cI cZ (h_M) (q_M) (c_s_33) (c_past_1) (c_kept) (c_isKept) (c_pasts_2) (c_text) (c_typed) (c_rect) (c_item) (c_items) (c_itemLevel) (c_treated) (c_from) (c_group) (c_turn) (c_size) (c_old) (c_aside) (c_begin) (c_level) (c_asides) (c_sorted_19) (c_spot) (c_rectangles) (c_parts) (c_visited))) (wn := fun u_36 => (zMo cI cZ h_M q_M c_s_33 c_past_1 c_kept c_isKept c_pasts_2 c_text c_typed c_rect c_item c_items c_itemLevel c_treated c_from c_group c_turn c_size c_old c_aside c_begin c_level c_asides c_sorted_19 c_spot c_rectangles c_parts c_visited)) (wr := []) (va_runV (As := []) (rest := []) hF.1 (c_Mo_nodes l D cI cZ cT h_M q_M c_s_33 c_past_1 c_kept c_isKept c_pasts_2 c_text c_typed c_rect c_item c_items c_itemLevel c_treated c_from c_group c_turn c_size c_old c_aside c_begin c_level c_asides c_sorted_19 c_spot c_rectangles c_parts c_visited H.size (r_34) e_35) (cwV 0 hts (zgV wm1050 wm1051 wm1052 wm89 wm1053) rfl rfl rfl (by decide +kernel) ⟨Nat.le_of_ble_eq_true rfl, Nat.le_of_ble_eq_true rfl⟩) ⟨zP.blind, va_recv hK (z_subP (ws' := (zMo cI cZ (h_M) (q_M) (c_s_33) (c_past_1) (c_kept) (c_isKept) (c_pasts_2) (c_text) (c_typed) (c_rect) (c_item) (c_items) (c_itemLevel) (c_treated) (c_from) (c_group) (c_turn) (c_size) (c_old) (c_aside) (c_begin) (c_level) (c_asides) (c_sorted_19) (c_spot) (c_rectangles) (c_parts) (c_visited))) hP [0, 1, 2, 3, 4, 5, 6, 7, 8, 9, 10, 11, 12, 13, 14, 15, 16, 17, 18] rfl) (ci := 7) (q0 := 0) rfl rfl, zP.enter (z_subP (ws' := (zMo cI cZ (h_M) (q_M) (c_s_33) (c_past_1) (c_kept) (c_isKept) (c_pasts_2) (c_text) (c_typed) (c_rect) (c_item) (c_items) (c_itemLevel) (c_treated) (c_from) (c_group) (c_turn) (c_size) (c_old) (c_aside) (c_begin) (c_level) (c_asides) (c_sorted_19) (c_spot) (c_rectangles) (c_parts) (c_visited))) hP [0, 1, 2, 3, 4, 5, 6, 7, 8, 9, 10, 11, 12, 13, 14, 15, 16, 17, 18] rfl) hK (hD.sub [0, 1, 2, 3, 4, 5, 6, 7, 8, 9, 10, 11, 12, 13, 14, 15, 16, 17, 18] (by decide) rfl) hN⟩ rfl rfl hl.1 rfl (lv_room (Nat.le_of_ble_eq_true rfl)) dX7_pack_89 ⟨Nat.le_refl _, Nat.le_refl _⟩) hP hD hS hA [0, 1, 2, 3, 4, 5, 6, 7, 8, 9, 10, 11, 12, 13, 14, 15, 16, 17, 18] [] [0, 1, 2, 3, 4, 5, 6, 7, 8, 9, 10, 11, 12, 13, 14, 15, 16, 17, 18] rfl rfl (by decide) (fun _ => rfl) (fun u_36 H locs hP hD hS hz => ?_)
    obtain rfl := Option.some.inj h
    exact z_iret hx hb hr hlk (fun _ _ => 0) hP hD hS dX7_pack_92
  · have h := it_p b_17 h
    refine lv_aload_n hx hb dX7_pack_42 rfl (lv_at hl 0 rfl) ?_
    refine va_get (D := D) (ci := 7) (v := .ref (q_M 0)) (C := RX7) (T := TX7) (N := 26) hx hb hts zin7 hown hK hP 0 rfl rfl 0 (by decide) (hts _ wm787) (fun _ h9 => h9) rfl dX7_pack_43 ?_
    refine lv_iconst (v := Int32.ofInt 4) hx hb dX7_pack_46 rfl ?_
    refine lv_iconst (v := Int32.ofInt 1) hx hb dX7_pack_47 rfl ?_
    refine z_iast (n := 461) (f := c_s) (i := 4) (x := 1) (ws' := (zMo cI cZ h_M q_M (up c_s (4) 1) c_past_1 c_kept c_isKept c_pasts_2 c_text c_typed c_rect c_item c_items c_itemLevel c_treated c_from c_group c_turn c_size c_old c_aside c_begin c_level c_asides c_sorted_15 c_spot c_rectangles c_parts c_visited)) hx hb hK hP hD hS 1 rfl rfl (by decide) (by decide) dX7_pack_48 rfl (fun H locs hP hD hS => ?_)
    refine lv_aload_n hx hb dX7_pack_49 rfl (lv_at hl 0 rfl) ?_
    refine va_get (D := D) (ci := 7) (v := .ref (q_M 0)) (C := RX7) (T := TX7) (N := 26) hx hb hts zin7 hown hK hP 0 rfl rfl 0 (by decide) (hts _ wm787) (fun _ h9 => h9) rfl dX7_pack_50 ?_
    refine lv_bipush (v := Int32.ofInt 101) hx hb dX7_pack_53 (by decide +kernel) ?_
    refine lv_iconst (v := Int32.ofInt (-1)) hx hb dX7_pack_55 rfl ?_
    refine z_iast (n := 461) (f := (up c_s (4) 1)) (i := 101) (x := (-1)) (ws' := (zMo cI cZ h_M q_M (up (up c_s (4) 1) (101) (-1)) c_past_1 c_kept c_isKept c_pasts_2 c_text c_typed c_rect c_item c_items c_itemLevel c_treated c_from c_group c_turn c_size c_old c_aside c_begin c_level c_asides c_sorted_15 c_spot c_rectangles c_parts c_visited)) hx hb hK hP hD hS 1 rfl rfl (by decide) (by decide) dX7_pack_56 rfl (fun H locs hP hD hS => ?_)
    refine lv_iconst (v := Int32.ofInt 1) hx hb dX7_pack_57 rfl ?_
    obtain rfl := Option.some.inj h
    exact z_iret hx hb hr hlk (fun _ _ => 0) hP hD hS dX7_pack_58
def f_Mo_setSetting (c_s : Nat → Int) (c_past : Nat → Int) (c_pasts : Int) (x1 : Int) (x2 : Int) : Option (Int × (Nat → Int) × (Nat → Int) × Int) :=
  bd1 (f_Mo_in x1 0 1) <| fun r_1 => gd (ck r_1) <| if r_1 = 0 then (some ((-1), c_s, c_past, c_pasts)) else (gd (ck x1) <| if x1 = 0 then (if x1 = 0 then (bd1 (f_Mo_in x2 3 5) <| fun r_40 => gd (ck r_40) <| if r_40 = 0 then (some ((-2), c_s, c_past, c_pasts)) else (bd2 (f_Mo_records c_s c_past c_pasts) <| fun c_past_45 c_pasts_46 => gd (0 ≤ x1 ∧ x1 < ((461 : Nat) : Int)) <| some ((c_s (x1).toNat), (up c_s ((x1).toNat) x2), c_past_45, c_pasts_46))) else (bd1 (f_Mo_in x2 3 1) <| fun r_30 => gd (ck r_30) <| if r_30 = 0 then (some ((-2), c_s, c_past, c_pasts)) else (bd2 (f_Mo_records c_s c_past c_pasts) <| fun c_past_35 c_pasts_36 => gd (0 ≤ x1 ∧ x1 < ((461 : Nat) : Int)) <| some ((c_s (x1).toNat), (up c_s ((x1).toNat) x2), c_past_35, c_pasts_36)))) else (if x1 = 0 then (bd1 (f_Mo_in x2 0 5) <| fun r_19 => gd (ck r_19) <| if r_19 = 0 then (some ((-2), c_s, c_past, c_pasts)) else (bd2 (f_Mo_records c_s c_past c_pasts) <| fun c_past_24 c_pasts_25 => gd (0 ≤ x1 ∧ x1 < ((461 : Nat) : Int)) <| some ((c_s (x1).toNat), (up c_s ((x1).toNat) x2), c_past_24, c_pasts_25))) else (bd1 (f_Mo_in x2 0 1) <| fun r_9 => gd (ck r_9) <| if r_9 = 0 then (some ((-2), c_s, c_past, c_pasts)) else (bd2 (f_Mo_records c_s c_past c_pasts) <| fun c_past_14 c_pasts_15 => gd (0 ≤ x1 ∧ x1 < ((461 : Nat) : Int)) <| some ((c_s (x1).toNat), (up c_s ((x1).toNat) x2), c_past_14, c_pasts_15)))))
abbrev rm_Mo_setSetting : Room := ({ frames := 1, cells := 0, slots := 0, locals := 22 } : Room)
set_option maxHeartbeats 4000000 in
set_option maxRecDepth 100000 in
theorem c_Mo_setSetting (l : Launch) (D : va_G) (cI cZ cT : ClassId) (h_M : Nat) (q_M : Nat → Nat) (c_s : Nat → Int) (c_past : Nat → Int) (c_kept : Nat → Int) (c_isKept : Int) (c_pasts : Int) (c_text : Nat → Int) (c_typed : Int) (c_rect : Nat → Int) (c_item : Nat → Int) (c_items : Int) (c_itemLevel : Int) (c_treated : Nat → Int) (c_from : Nat → Int) (c_group : Nat → Int) (c_turn : Nat → Int) (c_size : Nat → Int) (c_old : Nat → Int) (c_aside : Nat → Int) (c_begin : Nat → Int) (c_level : Nat → Int) (c_asides : Int) (c_sorted : Nat → Int) (c_spot : Int) (c_rectangles : Int) (c_parts : Nat → Int) (c_visited : Nat → Int) (x1 : Int) (x2 : Int) (sz : Nat) (res : Int × (Nat → Int) × (Nat → Int) × Int) (h : f_Mo_setSetting c_s c_past c_pasts x1 x2 = some res) : zMi l yX7_setSetting cX7_setSetting 4 rm_Mo_setSetting D (zt cI cZ cT) [.ref h_M, vI x1, vI x2] ((zMo cI cZ h_M q_M c_s c_past c_kept c_isKept c_pasts c_text c_typed c_rect c_item c_items c_itemLevel c_treated c_from c_group c_turn c_size c_old c_aside c_begin c_level c_asides c_sorted c_spot c_rectangles c_parts c_visited)) sz (res.1) (fun u => (zMo cI cZ h_M q_M (res.2.1) (res.2.2.1) c_kept c_isKept (res.2.2.2) c_text c_typed c_rect c_item c_items c_itemLevel c_treated c_from c_group c_turn c_size c_old c_aside c_begin c_level c_asides c_sorted c_spot c_rectangles c_parts c_visited)) 0 0 := by
  refine z_enth (Qc := zQi D (res.1) (fun u => (zMo cI cZ h_M q_M (res.2.1) (res.2.2.1) c_kept c_isKept (res.2.2.2) c_text c_typed c_rect c_item c_items c_itemLevel c_treated c_from c_group c_turn c_size c_old c_aside c_begin c_level c_asides c_sorted c_spot c_rectangles c_parts c_visited))) (by decide) (Nat.le_of_ble_eq_true rfl) (fun p e s m args below meth c A ls H locs hF hP hD hS hl => ?_)
  have hx := hF.1.1
  have hb := hF.1.2.1
  have hml := hF.1.2.2.1
  have hown : s.vm.findClass "RectangleTreeModel" = some m.cls := hF.1.2.2.2.1
  have hts := hF.1.2.2.2.2
  have hr := hF.2.1
  have hlk := hF.2.2.1
  have hK := hF.2.2.2.2.1
  have hN := hF.2.2.2.2.2.1
  have hA := hF.2.2.2.2.2.2
  unfold f_Mo_setSetting at h
  refine lv_iload_n hx hb dX7_setSetting_0 rfl (lv_at hl 1 rfl) ?_
  refine lv_iconst (v := Int32.ofInt 0) hx hb dX7_setSetting_1 rfl ?_
  refine lv_iconst (v := Int32.ofInt 1) hx hb dX7_setSetting_2 rfl ?_
  obtain ⟨r_1, e_2, h⟩ := bd1_e h
  refine z_goi (ws' := []) (ret := r_1) (wc := ([] : va_W)) (wn := fun u_3 => (zMo cI cZ h_M q_M c_s c_past c_kept c_isKept c_pasts c_text c_typed c_rect c_item c_items c_itemLevel c_treated c_from c_group c_turn c_size c_old c_aside c_begin c_level c_asides c_sorted c_spot c_rectangles c_parts c_visited)) (wr := ([0, 1, 2, 3, 4, 5, 6, 7, 8, 9, 10, 11, 12, 13, 14, 15, 16, 17, 18].filterMap (fun i => ((zMo cI cZ h_M q_M c_s c_past c_kept c_isKept c_pasts c_text c_typed c_rect c_item c_items c_itemLevel c_treated c_from c_group c_turn c_size c_old c_aside c_begin c_level c_asides c_sorted c_spot c_rectangles c_parts c_visited))[i]?))) (va_runS (As := [vI x1, vI 0, vI 1]) (rest := []) hF.1 (c_Mo_in l D cI cZ cT x1 0 1 H.size (r_1) e_2) (va_cwS 3 hts (zgS wm874 wm875 wm89 wm876) rfl rfl rfl (by decide +kernel) ⟨Nat.le_of_ble_eq_true rfl, Nat.le_of_ble_eq_true rfl⟩) ⟨zP.blind, zP.enter (z_subP (ws' := ([] : va_W)) hP [] rfl) hK (hD.sub [] (by decide) rfl) hN⟩ rfl rfl hl.1 rfl (lv_room (Nat.le_of_ble_eq_true rfl)) dX7_setSetting_3 ⟨Nat.le_refl _, Nat.le_refl _⟩) hP hD hS hA [] [0, 1, 2, 3, 4, 5, 6, 7, 8, 9, 10, 11, 12, 13, 14, 15, 16, 17, 18] [0, 1, 2, 3, 4, 5, 6, 7, 8, 9, 10, 11, 12, 13, 14, 15, 16, 17, 18] rfl rfl (by decide) (fun _ => rfl) (fun u_3 H locs hP hD hS hz => ?_)
  obtain ⟨g_4, h⟩ := gd_e h
  refine z_if_ne (tgt := 11) hx hb g_4 dX7_setSetting_6 (by decide) (fun b_5 => ?_) (fun b_5 => ?_)
  · have h := it_n b_5 h
    refine lv_iload_n hx hb dX7_setSetting_11 rfl (lv_at hl 2 rfl) ?_
    refine lv_iload_n hx hb dX7_setSetting_12 rfl (lv_at hl 1 rfl) ?_
    obtain ⟨g_6, h⟩ := gd_e h
    refine z_if_ne (tgt := 20) hx hb g_6 dX7_setSetting_13 (by decide) (fun b_7 => ?_) (fun b_7 => ?_)
    · have h := it_n b_7 h
      refine lv_iconst (v := Int32.ofInt 0) hx hb dX7_setSetting_20 rfl ?_
      refine lv_iload_n hx hb dX7_setSetting_21 rfl (lv_at hl 1 rfl) ?_
      refine z_if_ne (tgt := 29) hx hb g_6 dX7_setSetting_22 (by decide) (fun b_8 => ?_) (fun b_8 => ?_)
      · have h := it_n b_8 h
        refine lv_iconst (v := Int32.ofInt 1) hx hb dX7_setSetting_29 rfl ?_
        obtain ⟨r_9, e_10, h⟩ := bd1_e h
        refine z_goi (ws' := []) (ret := r_9) (wc := ([] : va_W)) (wn := fun u_11 => (zMo cI cZ h_M q_M c_s c_past c_kept c_isKept c_pasts c_text c_typed c_rect c_item c_items c_itemLevel c_treated c_from c_group c_turn c_size c_old c_aside c_begin c_level c_asides c_sorted c_spot c_rectangles c_parts c_visited)) (wr := ([0, 1, 2, 3, 4, 5, 6, 7, 8, 9, 10, 11, 12, 13, 14, 15, 16, 17, 18].filterMap (fun i => ((zMo cI cZ h_M q_M c_s c_past c_kept c_isKept c_pasts c_text c_typed c_rect c_item c_items c_itemLevel c_treated c_from c_group c_turn c_size c_old c_aside c_begin c_level c_asides c_sorted c_spot c_rectangles c_parts c_visited))[i]?))) (va_runS (As := [vI x2, vI 0, vI 1]) (rest := []) hF.1 (c_Mo_in l D cI cZ cT x2 0 1 H.size (r_9) e_10) (va_cwS 3 hts (zgS wm874 wm875 wm89 wm876) rfl rfl rfl (by decide +kernel) ⟨Nat.le_of_ble_eq_true rfl, Nat.le_of_ble_eq_true rfl⟩) ⟨zP.blind, zP.enter (z_subP (ws' := ([] : va_W)) hP [] rfl) hK (hD.sub [] (by decide) rfl) hN⟩ rfl rfl hl.1 rfl (lv_room (Nat.le_of_ble_eq_true rfl)) dX7_setSetting_30 ⟨Nat.le_refl _, Nat.le_refl _⟩) hP hD hS hA [] [0, 1, 2, 3, 4, 5, 6, 7, 8, 9, 10, 11, 12, 13, 14, 15, 16, 17, 18] [0, 1, 2, 3, 4, 5, 6, 7, 8, 9, 10, 11, 12, 13, 14, 15, 16, 17, 18] rfl rfl (by decide) (fun _ => rfl) (fun u_11 H locs hP hD hS hz => ?_)
        obtain ⟨g_12, h⟩ := gd_e h
        refine z_if_ne (tgt := 39) hx hb g_12 dX7_setSetting_33 (by decide) (fun b_13 => ?_) (fun b_13 => ?_)
        · have h := it_n b_13 h
          refine lv_aload_n hx hb dX7_setSetting_39 rfl (lv_at hl 0 rfl) ?_
          obtain ⟨c_past_14, c_pasts_15, e_16, h⟩ := bd2_e h
          refine z_gov (wc := (zMo cI cZ (h_M) (q_M) (c_s) (c_past) (c_kept) (c_isKept) (c_pasts) (c_text) (c_typed) (c_rect) (c_item) (c_items) (c_itemLevel) (c_treated) (c_from) (c_group) (c_turn) (c_size) (c_old) (c_aside) (c_begin) (c_level) (c_asides) (c_sorted) (c_spot) (c_rectangles) (c_parts) (c_visited))) (wn := fun u_17 => (zMo cI cZ h_M q_M c_s c_past_14 c_kept c_isKept c_pasts_15 c_text c_typed c_rect c_item c_items c_itemLevel c_treated c_from c_group c_turn c_size c_old c_aside c_begin c_level c_asides c_sorted c_spot c_rectangles c_parts c_visited)) (wr := []) (va_runV (As := []) (rest := []) hF.1 (c_Mo_records l D cI cZ cT h_M q_M c_s c_past c_kept c_isKept c_pasts c_text c_typed c_rect c_item c_items c_itemLevel c_treated c_from c_group c_turn c_size c_old c_aside c_begin c_level c_asides c_sorted c_spot c_rectangles c_parts c_visited H.size (c_past_14, c_pasts_15) e_16) (cwV 0 hts (zgV wm885 wm887 wm33 wm89 wm888) rfl rfl rfl (by decide +kernel) ⟨Nat.le_of_ble_eq_true rfl, Nat.le_of_ble_eq_true rfl⟩) ⟨zP.blind, va_recv hK (z_subP (ws' := (zMo cI cZ (h_M) (q_M) (c_s) (c_past) (c_kept) (c_isKept) (c_pasts) (c_text) (c_typed) (c_rect) (c_item) (c_items) (c_itemLevel) (c_treated) (c_from) (c_group) (c_turn) (c_size) (c_old) (c_aside) (c_begin) (c_level) (c_asides) (c_sorted) (c_spot) (c_rectangles) (c_parts) (c_visited))) hP [0, 1, 2, 3, 4, 5, 6, 7, 8, 9, 10, 11, 12, 13, 14, 15, 16, 17, 18] rfl) (ci := 7) (q0 := 0) rfl rfl, zP.enter (z_subP (ws' := (zMo cI cZ (h_M) (q_M) (c_s) (c_past) (c_kept) (c_isKept) (c_pasts) (c_text) (c_typed) (c_rect) (c_item) (c_items) (c_itemLevel) (c_treated) (c_from) (c_group) (c_turn) (c_size) (c_old) (c_aside) (c_begin) (c_level) (c_asides) (c_sorted) (c_spot) (c_rectangles) (c_parts) (c_visited))) hP [0, 1, 2, 3, 4, 5, 6, 7, 8, 9, 10, 11, 12, 13, 14, 15, 16, 17, 18] rfl) hK (hD.sub [0, 1, 2, 3, 4, 5, 6, 7, 8, 9, 10, 11, 12, 13, 14, 15, 16, 17, 18] (by decide) rfl) hN⟩ rfl rfl hl.1 rfl (lv_room (Nat.le_of_ble_eq_true rfl)) dX7_setSetting_40 ⟨Nat.le_refl _, Nat.le_refl _⟩) hP hD hS hA [0, 1, 2, 3, 4, 5, 6, 7, 8, 9, 10, 11, 12, 13, 14, 15, 16, 17, 18] [] [0, 1, 2, 3, 4, 5, 6, 7, 8, 9, 10, 11, 12, 13, 14, 15, 16, 17, 18] rfl rfl (by decide) (fun _ => rfl) (fun u_17 H locs hP hD hS hz => ?_)
          refine lv_aload_n hx hb dX7_setSetting_43 rfl (lv_at hl 0 rfl) ?_
          refine va_get (D := D) (ci := 7) (v := .ref (q_M 0)) (C := RX7) (T := TX7) (N := 26) hx hb hts zin7 hown hK hP 0 rfl rfl 0 (by decide) (hts _ wm787) (fun _ h9 => h9) rfl dX7_setSetting_44 ?_
          refine lv_iload_n hx hb dX7_setSetting_47 rfl (lv_at hl 1 rfl) ?_
          obtain ⟨g_18, h⟩ := gd_e h
          refine z_iald (n := 461) (f := c_s) (i := x1) hx hb hK hP 1 rfl rfl g_18 (by have := g_18.2; omega) dX7_setSetting_48 ?_
          refine lv_istore_n (lv' := [(3, vI (c_s (x1).toNat)), (0, .ref h_M), (1, vI x1), (2, vI x2)]) hx hb dX7_setSetting_49 rfl hl (by decide) rfl (fun ls hl => ?_)
          refine lv_aload_n hx hb dX7_setSetting_50 rfl (lv_at hl 1 rfl) ?_
          refine va_get (D := D) (ci := 7) (v := .ref (q_M 0)) (C := RX7) (T := TX7) (N := 26) hx hb hts zin7 hown hK hP 0 rfl rfl 0 (by decide) (hts _ wm787) (fun _ h9 => h9) rfl dX7_setSetting_51 ?_
          refine lv_iload_n hx hb dX7_setSetting_54 rfl (lv_at hl 2 rfl) ?_
          refine lv_iload_n hx hb dX7_setSetting_55 rfl (lv_at hl 3 rfl) ?_
          refine z_iast (n := 461) (f := c_s) (i := x1) (x := x2) (ws' := (zMo cI cZ h_M q_M (up c_s ((x1).toNat) x2) c_past_14 c_kept c_isKept c_pasts_15 c_text c_typed c_rect c_item c_items c_itemLevel c_treated c_from c_group c_turn c_size c_old c_aside c_begin c_level c_asides c_sorted c_spot c_rectangles c_parts c_visited)) hx hb hK hP hD hS 1 rfl rfl g_18 (by have := g_18.2; omega) dX7_setSetting_56 rfl (fun H locs hP hD hS => ?_)
          refine lv_iload_n hx hb dX7_setSetting_57 rfl (lv_at hl 0 rfl) ?_
          obtain rfl := Option.some.inj h
          exact z_iret hx hb hr hlk (fun _ _ => 0) hP hD hS dX7_setSetting_58
        · have h := it_p b_13 h
          refine lv_bipush (v := Int32.ofInt (-2)) hx hb dX7_setSetting_36 (by decide +kernel) ?_
          obtain rfl := Option.some.inj h
          exact z_iret hx hb hr hlk (fun _ _ => 0) hP hD hS dX7_setSetting_38
      · have h := it_p b_8 h
        refine lv_iconst (v := Int32.ofInt 5) hx hb dX7_setSetting_25 rfl ?_
        refine lv_goto (tgt := 30) hx hb dX7_setSetting_26 (by decide) ?_
        obtain ⟨r_19, e_20, h⟩ := bd1_e h
        refine z_goi (ws' := []) (ret := r_19) (wc := ([] : va_W)) (wn := fun u_21 => (zMo cI cZ h_M q_M c_s c_past c_kept c_isKept c_pasts c_text c_typed c_rect c_item c_items c_itemLevel c_treated c_from c_group c_turn c_size c_old c_aside c_begin c_level c_asides c_sorted c_spot c_rectangles c_parts c_visited)) (wr := ([0, 1, 2, 3, 4, 5, 6, 7, 8, 9, 10, 11, 12, 13, 14, 15, 16, 17, 18].filterMap (fun i => ((zMo cI cZ h_M q_M c_s c_past c_kept c_isKept c_pasts c_text c_typed c_rect c_item c_items c_itemLevel c_treated c_from c_group c_turn c_size c_old c_aside c_begin c_level c_asides c_sorted c_spot c_rectangles c_parts c_visited))[i]?))) (va_runS (As := [vI x2, vI 0, vI 5]) (rest := []) hF.1 (c_Mo_in l D cI cZ cT x2 0 5 H.size (r_19) e_20) (va_cwS 3 hts (zgS wm874 wm875 wm89 wm876) rfl rfl rfl (by decide +kernel) ⟨Nat.le_of_ble_eq_true rfl, Nat.le_of_ble_eq_true rfl⟩) ⟨zP.blind, zP.enter (z_subP (ws' := ([] : va_W)) hP [] rfl) hK (hD.sub [] (by decide) rfl) hN⟩ rfl rfl hl.1 rfl (lv_room (Nat.le_of_ble_eq_true rfl)) dX7_setSetting_30 ⟨Nat.le_refl _, Nat.le_refl _⟩) hP hD hS hA [] [0, 1, 2, 3, 4, 5, 6, 7, 8, 9, 10, 11, 12, 13, 14, 15, 16, 17, 18] [0, 1, 2, 3, 4, 5, 6, 7, 8, 9, 10, 11, 12, 13, 14, 15, 16, 17, 18] rfl rfl (by decide) (fun _ => rfl) (fun u_21 H locs hP hD hS hz => ?_)
        obtain ⟨g_22, h⟩ := gd_e h
        refine z_if_ne (tgt := 39) hx hb g_22 dX7_setSetting_33 (by decide) (fun b_23 => ?_) (fun b_23 => ?_)
        · have h := it_n b_23 h
          refine lv_aload_n hx hb dX7_setSetting_39 rfl (lv_at hl 0 rfl) ?_
          obtain ⟨c_past_24, c_pasts_25, e_26, h⟩ := bd2_e h
          refine z_gov (wc := (zMo cI cZ (h_M) (q_M) (c_s) (c_past) (c_kept) (c_isKept) (c_pasts) (c_text) (c_typed) (c_rect) (c_item) (c_items) (c_itemLevel) (c_treated) (c_from) (c_group) (c_turn) (c_size) (c_old) (c_aside) (c_begin) (c_level) (c_asides) (c_sorted) (c_spot) (c_rectangles) (c_parts) (c_visited))) (wn := fun u_27 => (zMo cI cZ h_M q_M c_s c_past_24 c_kept c_isKept c_pasts_25 c_text c_typed c_rect c_item c_items c_itemLevel c_treated c_from c_group c_turn c_size c_old c_aside c_begin c_level c_asides c_sorted c_spot c_rectangles c_parts c_visited)) (wr := []) (va_runV (As := []) (rest := []) hF.1 (c_Mo_records l D cI cZ cT h_M q_M c_s c_past c_kept c_isKept c_pasts c_text c_typed c_rect c_item c_items c_itemLevel c_treated c_from c_group c_turn c_size c_old c_aside c_begin c_level c_asides c_sorted c_spot c_rectangles c_parts c_visited H.size (c_past_24, c_pasts_25) e_26) (cwV 0 hts (zgV wm885 wm887 wm33 wm89 wm888) rfl rfl rfl (by decide +kernel) ⟨Nat.le_of_ble_eq_true rfl, Nat.le_of_ble_eq_true rfl⟩) ⟨zP.blind, va_recv hK (z_subP (ws' := (zMo cI cZ (h_M) (q_M) (c_s) (c_past) (c_kept) (c_isKept) (c_pasts) (c_text) (c_typed) (c_rect) (c_item) (c_items) (c_itemLevel) (c_treated) (c_from) (c_group) (c_turn) (c_size) (c_old) (c_aside) (c_begin) (c_level) (c_asides) (c_sorted) (c_spot) (c_rectangles) (c_parts) (c_visited))) hP [0, 1, 2, 3, 4, 5, 6, 7, 8, 9, 10, 11, 12, 13, 14, 15, 16, 17, 18] rfl) (ci := 7) (q0 := 0) rfl rfl, zP.enter (z_subP (ws' := (zMo cI cZ (h_M) (q_M) (c_s) (c_past) (c_kept) (c_isKept) (c_pasts) (c_text) (c_typed) (c_rect) (c_item) (c_items) (c_itemLevel) (c_treated) (c_from) (c_group) (c_turn) (c_size) (c_old) (c_aside) (c_begin) (c_level) (c_asides) (c_sorted) (c_spot) (c_rectangles) (c_parts) (c_visited))) hP [0, 1, 2, 3, 4, 5, 6, 7, 8, 9, 10, 11, 12, 13, 14, 15, 16, 17, 18] rfl) hK (hD.sub [0, 1, 2, 3, 4, 5, 6, 7, 8, 9, 10, 11, 12, 13, 14, 15, 16, 17, 18] (by decide) rfl) hN⟩ rfl rfl hl.1 rfl (lv_room (Nat.le_of_ble_eq_true rfl)) dX7_setSetting_40 ⟨Nat.le_refl _, Nat.le_refl _⟩) hP hD hS hA [0, 1, 2, 3, 4, 5, 6, 7, 8, 9, 10, 11, 12, 13, 14, 15, 16, 17, 18] [] [0, 1, 2, 3, 4, 5, 6, 7, 8, 9, 10, 11, 12, 13, 14, 15, 16, 17, 18] rfl rfl (by decide) (fun _ => rfl) (fun u_27 H locs hP hD hS hz => ?_)
          refine lv_aload_n hx hb dX7_setSetting_43 rfl (lv_at hl 0 rfl) ?_
          refine va_get (D := D) (ci := 7) (v := .ref (q_M 0)) (C := RX7) (T := TX7) (N := 26) hx hb hts zin7 hown hK hP 0 rfl rfl 0 (by decide) (hts _ wm787) (fun _ h9 => h9) rfl dX7_setSetting_44 ?_
          refine lv_iload_n hx hb dX7_setSetting_47 rfl (lv_at hl 1 rfl) ?_
          obtain ⟨g_28, h⟩ := gd_e h
          refine z_iald (n := 461) (f := c_s) (i := x1) hx hb hK hP 1 rfl rfl g_28 (by have := g_28.2; omega) dX7_setSetting_48 ?_
          refine lv_istore_n (lv' := [(3, vI (c_s (x1).toNat)), (0, .ref h_M), (1, vI x1), (2, vI x2)]) hx hb dX7_setSetting_49 rfl hl (by decide) rfl (fun ls hl => ?_)
          refine lv_aload_n hx hb dX7_setSetting_50 rfl (lv_at hl 1 rfl) ?_
          refine va_get (D := D) (ci := 7) (v := .ref (q_M 0)) (C := RX7) (T := TX7) (N := 26) hx hb hts zin7 hown hK hP 0 rfl rfl 0 (by decide) (hts _ wm787) (fun _ h9 => h9) rfl dX7_setSetting_51 ?_
          refine lv_iload_n hx hb dX7_setSetting_54 rfl (lv_at hl 2 rfl) ?_
          refine lv_iload_n hx hb dX7_setSetting_55 rfl (lv_at hl 3 rfl) ?_
          refine z_iast (n := 461) (f := c_s) (i := x1) (x := x2) (ws' := (zMo cI cZ h_M q_M (up c_s ((x1).toNat) x2) c_past_24 c_kept c_isKept c_pasts_25 c_text c_typed c_rect c_item c_items c_itemLevel c_treated c_from c_group c_turn c_size c_old c_aside c_begin c_level c_asides c_sorted c_spot c_rectangles c_parts c_visited)) hx hb hK hP hD hS 1 rfl rfl g_28 (by have := g_28.2; omega) dX7_setSetting_56 rfl (fun H locs hP hD hS => ?_)
          refine lv_iload_n hx hb dX7_setSetting_57 rfl (lv_at hl 0 rfl) ?_
          obtain rfl := Option.some.inj h
          exact z_iret hx hb hr hlk (fun _ _ => 0) hP hD hS dX7_setSetting_58
        · have h := it_p b_23 h
          refine lv_bipush (v := Int32.ofInt (-2)) hx hb dX7_setSetting_36 (by decide +kernel) ?_
          obtain rfl := Option.some.inj h
          exact z_iret hx hb hr hlk (fun _ _ => 0) hP hD hS dX7_setSetting_38
    · have h := it_p b_7 h
      refine lv_iconst (v := Int32.ofInt 3) hx hb dX7_setSetting_16 rfl ?_
      refine lv_goto (tgt := 21) hx hb dX7_setSetting_17 (by decide) ?_
      refine lv_iload_n hx hb dX7_setSetting_21 rfl (lv_at hl 1 rfl) ?_
      refine z_if_ne (tgt := 29) hx hb g_6 dX7_setSetting_22 (by decide) (fun b_29 => ?_) (fun b_29 => ?_)
      · have h := it_n b_29 h
        refine lv_iconst (v := Int32.ofInt 1) hx hb dX7_setSetting_29 rfl ?_
        obtain ⟨r_30, e_31, h⟩ := bd1_e h
        refine z_goi (ws' := []) (ret := r_30) (wc := ([] : va_W)) (wn := fun u_32 => (zMo cI cZ h_M q_M c_s c_past c_kept c_isKept c_pasts c_text c_typed c_rect c_item c_items c_itemLevel c_treated c_from c_group c_turn c_size c_old c_aside c_begin c_level c_asides c_sorted c_spot c_rectangles c_parts c_visited)) (wr := ([0, 1, 2, 3, 4, 5, 6, 7, 8, 9, 10, 11, 12, 13, 14, 15, 16, 17, 18].filterMap (fun i => ((zMo cI cZ h_M q_M c_s c_past c_kept c_isKept c_pasts c_text c_typed c_rect c_item c_items c_itemLevel c_treated c_from c_group c_turn c_size c_old c_aside c_begin c_level c_asides c_sorted c_spot c_rectangles c_parts c_visited))[i]?))) (va_runS (As := [vI x2, vI 3, vI 1]) (rest := []) hF.1 (c_Mo_in l D cI cZ cT x2 3 1 H.size (r_30) e_31) (va_cwS 3 hts (zgS wm874 wm875 wm89 wm876) rfl rfl rfl (by decide +kernel) ⟨Nat.le_of_ble_eq_true rfl, Nat.le_of_ble_eq_true rfl⟩) ⟨zP.blind, zP.enter (z_subP (ws' := ([] : va_W)) hP [] rfl) hK (hD.sub [] (by decide) rfl) hN⟩ rfl rfl hl.1 rfl (lv_room (Nat.le_of_ble_eq_true rfl)) dX7_setSetting_30 ⟨Nat.le_refl _, Nat.le_refl _⟩) hP hD hS hA [] [0, 1, 2, 3, 4, 5, 6, 7, 8, 9, 10, 11, 12, 13, 14, 15, 16, 17, 18] [0, 1, 2, 3, 4, 5, 6, 7, 8, 9, 10, 11, 12, 13, 14, 15, 16, 17, 18] rfl rfl (by decide) (fun _ => rfl) (fun u_32 H locs hP hD hS hz => ?_)
        obtain ⟨g_33, h⟩ := gd_e h
        refine z_if_ne (tgt := 39) hx hb g_33 dX7_setSetting_33 (by decide) (fun b_34 => ?_) (fun b_34 => ?_)
        · have h := it_n b_34 h
          refine lv_aload_n hx hb dX7_setSetting_39 rfl (lv_at hl 0 rfl) ?_
          obtain ⟨c_past_35, c_pasts_36, e_37, h⟩ := bd2_e h
          refine z_gov (wc := (zMo cI cZ (h_M) (q_M) (c_s) (c_past) (c_kept) (c_isKept) (c_pasts) (c_text) (c_typed) (c_rect) (c_item) (c_items) (c_itemLevel) (c_treated) (c_from) (c_group) (c_turn) (c_size) (c_old) (c_aside) (c_begin) (c_level) (c_asides) (c_sorted) (c_spot) (c_rectangles) (c_parts) (c_visited))) (wn := fun u_38 => (zMo cI cZ h_M q_M c_s c_past_35 c_kept c_isKept c_pasts_36 c_text c_typed c_rect c_item c_items c_itemLevel c_treated c_from c_group c_turn c_size c_old c_aside c_begin c_level c_asides c_sorted c_spot c_rectangles c_parts c_visited)) (wr := []) (va_runV (As := []) (rest := []) hF.1 (c_Mo_records l D cI cZ cT h_M q_M c_s c_past c_kept c_isKept c_pasts c_text c_typed c_rect c_item c_items c_itemLevel c_treated c_from c_group c_turn c_size c_old c_aside c_begin c_level c_asides c_sorted c_spot c_rectangles c_parts c_visited H.size (c_past_35, c_pasts_36) e_37) (cwV 0 hts (zgV wm885 wm887 wm33 wm89 wm888) rfl rfl rfl (by decide +kernel) ⟨Nat.le_of_ble_eq_true rfl, Nat.le_of_ble_eq_true rfl⟩) ⟨zP.blind, va_recv hK (z_subP (ws' := (zMo cI cZ (h_M) (q_M) (c_s) (c_past) (c_kept) (c_isKept) (c_pasts) (c_text) (c_typed) (c_rect) (c_item) (c_items) (c_itemLevel) (c_treated) (c_from) (c_group) (c_turn) (c_size) (c_old) (c_aside) (c_begin) (c_level) (c_asides) (c_sorted) (c_spot) (c_rectangles) (c_parts) (c_visited))) hP [0, 1, 2, 3, 4, 5, 6, 7, 8, 9, 10, 11, 12, 13, 14, 15, 16, 17, 18] rfl) (ci := 7) (q0 := 0) rfl rfl, zP.enter (z_subP (ws' := (zMo cI cZ (h_M) (q_M) (c_s) (c_past) (c_kept) (c_isKept) (c_pasts) (c_text) (c_typed) (c_rect) (c_item) (c_items) (c_itemLevel) (c_treated) (c_from) (c_group) (c_turn) (c_size) (c_old) (c_aside) (c_begin) (c_level) (c_asides) (c_sorted) (c_spot) (c_rectangles) (c_parts) (c_visited))) hP [0, 1, 2, 3, 4, 5, 6, 7, 8, 9, 10, 11, 12, 13, 14, 15, 16, 17, 18] rfl) hK (hD.sub [0, 1, 2, 3, 4, 5, 6, 7, 8, 9, 10, 11, 12, 13, 14, 15, 16, 17, 18] (by decide) rfl) hN⟩ rfl rfl hl.1 rfl (lv_room (Nat.le_of_ble_eq_true rfl)) dX7_setSetting_40 ⟨Nat.le_refl _, Nat.le_refl _⟩) hP hD hS hA [0, 1, 2, 3, 4, 5, 6, 7, 8, 9, 10, 11, 12, 13, 14, 15, 16, 17, 18] [] [0, 1, 2, 3, 4, 5, 6, 7, 8, 9, 10, 11, 12, 13, 14, 15, 16, 17, 18] rfl rfl (by decide) (fun _ => rfl) (fun u_38 H locs hP hD hS hz => ?_)
          refine lv_aload_n hx hb dX7_setSetting_43 rfl (lv_at hl 0 rfl) ?_
          refine va_get (D := D) (ci := 7) (v := .ref (q_M 0)) (C := RX7) (T := TX7) (N := 26) hx hb hts zin7 hown hK hP 0 rfl rfl 0 (by decide) (hts _ wm787) (fun _ h9 => h9) rfl dX7_setSetting_44 ?_
          refine lv_iload_n hx hb dX7_setSetting_47 rfl (lv_at hl 1 rfl) ?_
          obtain ⟨g_39, h⟩ := gd_e h
          refine z_iald (n := 461) (f := c_s) (i := x1) hx hb hK hP 1 rfl rfl g_39 (by have := g_39.2; omega) dX7_setSetting_48 ?_
          refine lv_istore_n (lv' := [(3, vI (c_s (x1).toNat)), (0, .ref h_M), (1, vI x1), (2, vI x2)]) hx hb dX7_setSetting_49 rfl hl (by decide) rfl (fun ls hl => ?_)
          refine lv_aload_n hx hb dX7_setSetting_50 rfl (lv_at hl 1 rfl) ?_
          refine va_get (D := D) (ci := 7) (v := .ref (q_M 0)) (C := RX7) (T := TX7) (N := 26) hx hb hts zin7 hown hK hP 0 rfl rfl 0 (by decide) (hts _ wm787) (fun _ h9 => h9) rfl dX7_setSetting_51 ?_
          refine lv_iload_n hx hb dX7_setSetting_54 rfl (lv_at hl 2 rfl) ?_
          refine lv_iload_n hx hb dX7_setSetting_55 rfl (lv_at hl 3 rfl) ?_
          refine z_iast (n := 461) (f := c_s) (i := x1) (x := x2) (ws' := (zMo cI cZ h_M q_M (up c_s ((x1).toNat) x2) c_past_35 c_kept c_isKept c_pasts_36 c_text c_typed c_rect c_item c_items c_itemLevel c_treated c_from c_group c_turn c_size c_old c_aside c_begin c_level c_asides c_sorted c_spot c_rectangles c_parts c_visited)) hx hb hK hP hD hS 1 rfl rfl g_39 (by have := g_39.2; omega) dX7_setSetting_56 rfl (fun H locs hP hD hS => ?_)
          refine lv_iload_n hx hb dX7_setSetting_57 rfl (lv_at hl 0 rfl) ?_
          obtain rfl := Option.some.inj h
          exact z_iret hx hb hr hlk (fun _ _ => 0) hP hD hS dX7_setSetting_58
        · have h := it_p b_34 h
          refine lv_bipush (v := Int32.ofInt (-2)) hx hb dX7_setSetting_36 (by decide +kernel) ?_
          obtain rfl := Option.some.inj h
          exact z_iret hx hb hr hlk (fun _ _ => 0) hP hD hS dX7_setSetting_38
      · have h := it_p b_29 h
        refine lv_iconst (v := Int32.ofInt 5) hx hb dX7_setSetting_25 rfl ?_
        refine lv_goto (tgt := 30) hx hb dX7_setSetting_26 (by decide) ?_
        obtain ⟨r_40, e_41, h⟩ := bd1_e h
        refine z_goi (ws' := []) (ret := r_40) (wc := ([] : va_W)) (wn := fun u_42 => (zMo cI cZ h_M q_M c_s c_past c_kept c_isKept c_pasts c_text c_typed c_rect c_item c_items c_itemLevel c_treated c_from c_group c_turn c_size c_old c_aside c_begin c_level c_asides c_sorted c_spot c_rectangles c_parts c_visited)) (wr := ([0, 1, 2, 3, 4, 5, 6, 7, 8, 9, 10, 11, 12, 13, 14, 15, 16, 17, 18].filterMap (fun i => ((zMo cI cZ h_M q_M c_s c_past c_kept c_isKept c_pasts c_text c_typed c_rect c_item c_items c_itemLevel c_treated c_from c_group c_turn c_size c_old c_aside c_begin c_level c_asides c_sorted c_spot c_rectangles c_parts c_visited))[i]?))) (va_runS (As := [vI x2, vI 3, vI 5]) (rest := []) hF.1 (c_Mo_in l D cI cZ cT x2 3 5 H.size (r_40) e_41) (va_cwS 3 hts (zgS wm874 wm875 wm89 wm876) rfl rfl rfl (by decide +kernel) ⟨Nat.le_of_ble_eq_true rfl, Nat.le_of_ble_eq_true rfl⟩) ⟨zP.blind, zP.enter (z_subP (ws' := ([] : va_W)) hP [] rfl) hK (hD.sub [] (by decide) rfl) hN⟩ rfl rfl hl.1 rfl (lv_room (Nat.le_of_ble_eq_true rfl)) dX7_setSetting_30 ⟨Nat.le_refl _, Nat.le_refl _⟩) hP hD hS hA [] [0, 1, 2, 3, 4, 5, 6, 7, 8, 9, 10, 11, 12, 13, 14, 15, 16, 17, 18] [0, 1, 2, 3, 4, 5, 6, 7, 8, 9, 10, 11, 12, 13, 14, 15, 16, 17, 18] rfl rfl (by decide) (fun _ => rfl) (fun u_42 H locs hP hD hS hz => ?_)
        obtain ⟨g_43, h⟩ := gd_e h
        refine z_if_ne (tgt := 39) hx hb g_43 dX7_setSetting_33 (by decide) (fun b_44 => ?_) (fun b_44 => ?_)
        · have h := it_n b_44 h
          refine lv_aload_n hx hb dX7_setSetting_39 rfl (lv_at hl 0 rfl) ?_
          obtain ⟨c_past_45, c_pasts_46, e_47, h⟩ := bd2_e h
          refine z_gov (wc := (zMo cI cZ (h_M) (q_M) (c_s) (c_past) (c_kept) (c_isKept) (c_pasts) (c_text) (c_typed) (c_rect) (c_item) (c_items) (c_itemLevel) (c_treated) (c_from) (c_group) (c_turn) (c_size) (c_old) (c_aside) (c_begin) (c_level) (c_asides) (c_sorted) (c_spot) (c_rectangles) (c_parts) (c_visited))) (wn := fun u_48 => (zMo cI cZ h_M q_M c_s c_past_45 c_kept c_isKept c_pasts_46 c_text c_typed c_rect c_item c_items c_itemLevel c_treated c_from c_group c_turn c_size c_old c_aside c_begin c_level c_asides c_sorted c_spot c_rectangles c_parts c_visited)) (wr := []) (va_runV (As := []) (rest := []) hF.1 (c_Mo_records l D cI cZ cT h_M q_M c_s c_past c_kept c_isKept c_pasts c_text c_typed c_rect c_item c_items c_itemLevel c_treated c_from c_group c_turn c_size c_old c_aside c_begin c_level c_asides c_sorted c_spot c_rectangles c_parts c_visited H.size (c_past_45, c_pasts_46) e_47) (cwV 0 hts (zgV wm885 wm887 wm33 wm89 wm888) rfl rfl rfl (by decide +kernel) ⟨Nat.le_of_ble_eq_true rfl, Nat.le_of_ble_eq_true rfl⟩) ⟨zP.blind, va_recv hK (z_subP (ws' := (zMo cI cZ (h_M) (q_M) (c_s) (c_past) (c_kept) (c_isKept) (c_pasts) (c_text) (c_typed) (c_rect) (c_item) (c_items) (c_itemLevel) (c_treated) (c_from) (c_group) (c_turn) (c_size) (c_old) (c_aside) (c_begin) (c_level) (c_asides) (c_sorted) (c_spot) (c_rectangles) (c_parts) (c_visited))) hP [0, 1, 2, 3, 4, 5, 6, 7, 8, 9, 10, 11, 12, 13, 14, 15, 16, 17, 18] rfl) (ci := 7) (q0 := 0) rfl rfl, zP.enter (z_subP (ws' := (zMo cI cZ (h_M) (q_M) (c_s) (c_past) (c_kept) (c_isKept) (c_pasts) (c_text) (c_typed) (c_rect) (c_item) (c_items) (c_itemLevel) (c_treated) (c_from) (c_group) (c_turn) (c_size) (c_old) (c_aside) (c_begin) (c_level) (c_asides) (c_sorted) (c_spot) (c_rectangles) (c_parts) (c_visited))) hP [0, 1, 2, 3, 4, 5, 6, 7, 8, 9, 10, 11, 12, 13, 14, 15, 16, 17, 18] rfl) hK (hD.sub [0, 1, 2, 3, 4, 5, 6, 7, 8, 9, 10, 11, 12, 13, 14, 15, 16, 17, 18] (by decide) rfl) hN⟩ rfl rfl hl.1 rfl (lv_room (Nat.le_of_ble_eq_true rfl)) dX7_setSetting_40 ⟨Nat.le_refl _, Nat.le_refl _⟩) hP hD hS hA [0, 1, 2, 3, 4, 5, 6, 7, 8, 9, 10, 11, 12, 13, 14, 15, 16, 17, 18] [] [0, 1, 2, 3, 4, 5, 6, 7, 8, 9, 10, 11, 12, 13, 14, 15, 16, 17, 18] rfl rfl (by decide) (fun _ => rfl) (fun u_48 H locs hP hD hS hz => ?_)
          refine lv_aload_n hx hb dX7_setSetting_43 rfl (lv_at hl 0 rfl) ?_
          refine va_get (D := D) (ci := 7) (v := .ref (q_M 0)) (C := RX7) (T := TX7) (N := 26) hx hb hts zin7 hown hK hP 0 rfl rfl 0 (by decide) (hts _ wm787) (fun _ h9 => h9) rfl dX7_setSetting_44 ?_
          refine lv_iload_n hx hb dX7_setSetting_47 rfl (lv_at hl 1 rfl) ?_
          obtain ⟨g_49, h⟩ := gd_e h
          refine z_iald (n := 461) (f := c_s) (i := x1) hx hb hK hP 1 rfl rfl g_49 (by have := g_49.2; omega) dX7_setSetting_48 ?_
          refine lv_istore_n (lv' := [(3, vI (c_s (x1).toNat)), (0, .ref h_M), (1, vI x1), (2, vI x2)]) hx hb dX7_setSetting_49 rfl hl (by decide) rfl (fun ls hl => ?_)
          refine lv_aload_n hx hb dX7_setSetting_50 rfl (lv_at hl 1 rfl) ?_
          refine va_get (D := D) (ci := 7) (v := .ref (q_M 0)) (C := RX7) (T := TX7) (N := 26) hx hb hts zin7 hown hK hP 0 rfl rfl 0 (by decide) (hts _ wm787) (fun _ h9 => h9) rfl dX7_setSetting_51 ?_
          refine lv_iload_n hx hb dX7_setSetting_54 rfl (lv_at hl 2 rfl) ?_
          refine lv_iload_n hx hb dX7_setSetting_55 rfl (lv_at hl 3 rfl) ?_
          refine z_iast (n := 461) (f := c_s) (i := x1) (x := x2) (ws' := (zMo cI cZ h_M q_M (up c_s ((x1).toNat) x2) c_past_45 c_kept c_isKept c_pasts_46 c_text c_typed c_rect c_item c_items c_itemLevel c_treated c_from c_group c_turn c_size c_old c_aside c_begin c_level c_asides c_sorted c_spot c_rectangles c_parts c_visited)) hx hb hK hP hD hS 1 rfl rfl g_49 (by have := g_49.2; omega) dX7_setSetting_56 rfl (fun H locs hP hD hS => ?_)
          refine lv_iload_n hx hb dX7_setSetting_57 rfl (lv_at hl 0 rfl) ?_
          obtain rfl := Option.some.inj h
          exact z_iret hx hb hr hlk (fun _ _ => 0) hP hD hS dX7_setSetting_58
        · have h := it_p b_44 h
          refine lv_bipush (v := Int32.ofInt (-2)) hx hb dX7_setSetting_36 (by decide +kernel) ?_
          obtain rfl := Option.some.inj h
          exact z_iret hx hb hr hlk (fun _ _ => 0) hP hD hS dX7_setSetting_38
  · have h := it_p b_5 h
    refine lv_iconst (v := Int32.ofInt (-1)) hx hb dX7_setSetting_9 rfl ?_
    obtain rfl := Option.some.inj h
    exact z_iret hx hb hr hlk (fun _ _ => 0) hP hD hS dX7_setSetting_10
def f_Mo_append (c_text : Nat → Int) (c_typed : Int) (x1 : Int) : Option (Int × (Nat → Int) × Int) :=
  bd1 (f_Mo_in x1 32 126) <| fun r_1 => gd (ck r_1) <| if r_1 = 0 then (some ((-2), c_text, c_typed)) else (gd (ck c_typed) <| if c_typed = 80 then (some ((-3), c_text, c_typed)) else (gd (0 ≤ c_typed ∧ c_typed < ((80 : Nat) : Int)) <| some ((c_typed + 1), (up c_text ((c_typed).toNat) x1), (c_typed + 1))))
abbrev rm_Mo_append : Room := ({ frames := 1, cells := 0, slots := 0, locals := 22 } : Room)
set_option maxHeartbeats 4000000 in
set_option maxRecDepth 100000 in
theorem c_Mo_append (l : Launch) (D : va_G) (cI cZ cT : ClassId) (h_M : Nat) (q_M : Nat → Nat) (c_s : Nat → Int) (c_past : Nat → Int) (c_kept : Nat → Int) (c_isKept : Int) (c_pasts : Int) (c_text : Nat → Int) (c_typed : Int) (c_rect : Nat → Int) (c_item : Nat → Int) (c_items : Int) (c_itemLevel : Int) (c_treated : Nat → Int) (c_from : Nat → Int) (c_group : Nat → Int) (c_turn : Nat → Int) (c_size : Nat → Int) (c_old : Nat → Int) (c_aside : Nat → Int) (c_begin : Nat → Int) (c_level : Nat → Int) (c_asides : Int) (c_sorted : Nat → Int) (c_spot : Int) (c_rectangles : Int) (c_parts : Nat → Int) (c_visited : Nat → Int) (x1 : Int) (sz : Nat) (res : Int × (Nat → Int) × Int) (h : f_Mo_append c_text c_typed x1 = some res) : zMi l yX7_append cX7_append 2 rm_Mo_append D (zt cI cZ cT) [.ref h_M, vI x1] ((zMo cI cZ h_M q_M c_s c_past c_kept c_isKept c_pasts c_text c_typed c_rect c_item c_items c_itemLevel c_treated c_from c_group c_turn c_size c_old c_aside c_begin c_level c_asides c_sorted c_spot c_rectangles c_parts c_visited)) sz (res.1) (fun u => (zMo cI cZ h_M q_M c_s c_past c_kept c_isKept c_pasts (res.2.1) (res.2.2) c_rect c_item c_items c_itemLevel c_treated c_from c_group c_turn c_size c_old c_aside c_begin c_level c_asides c_sorted c_spot c_rectangles c_parts c_visited)) 0 0 := by
  refine z_enth (Qc := zQi D (res.1) (fun u => (zMo cI cZ h_M q_M c_s c_past c_kept c_isKept c_pasts (res.2.1) (res.2.2) c_rect c_item c_items c_itemLevel c_treated c_from c_group c_turn c_size c_old c_aside c_begin c_level c_asides c_sorted c_spot c_rectangles c_parts c_visited))) (by decide) (Nat.le_of_ble_eq_true rfl) (fun p e s m args below meth c A ls H locs hF hP hD hS hl => ?_)
  have hx := hF.1.1
  have hb := hF.1.2.1
  have hml := hF.1.2.2.1
  have hown : s.vm.findClass "RectangleTreeModel" = some m.cls := hF.1.2.2.2.1
  have hts := hF.1.2.2.2.2
  have hr := hF.2.1
  have hlk := hF.2.2.1
  have hK := hF.2.2.2.2.1
  have hN := hF.2.2.2.2.2.1
  have hA := hF.2.2.2.2.2.2
  unfold f_Mo_append at h
  refine lv_iload_n hx hb dX7_append_0 rfl (lv_at hl 1 rfl) ?_
  refine lv_bipush (v := Int32.ofInt 32) hx hb dX7_append_1 (by decide +kernel) ?_
  refine lv_bipush (v := Int32.ofInt 126) hx hb dX7_append_3 (by decide +kernel) ?_
  obtain ⟨r_1, e_2, h⟩ := bd1_e h
  refine z_goi (ws' := []) (ret := r_1) (wc := ([] : va_W)) (wn := fun u_3 => (zMo cI cZ h_M q_M c_s c_past c_kept c_isKept c_pasts c_text c_typed c_rect c_item c_items c_itemLevel c_treated c_from c_group c_turn c_size c_old c_aside c_begin c_level c_asides c_sorted c_spot c_rectangles c_parts c_visited)) (wr := ([0, 1, 2, 3, 4, 5, 6, 7, 8, 9, 10, 11, 12, 13, 14, 15, 16, 17, 18].filterMap (fun i => ((zMo cI cZ h_M q_M c_s c_past c_kept c_isKept c_pasts c_text c_typed c_rect c_item c_items c_itemLevel c_treated c_from c_group c_turn c_size c_old c_aside c_begin c_level c_asides c_sorted c_spot c_rectangles c_parts c_visited))[i]?))) (va_runS (As := [vI x1, vI 32, vI 126]) (rest := []) hF.1 (c_Mo_in l D cI cZ cT x1 32 126 H.size (r_1) e_2) (va_cwS 3 hts (zgS wm874 wm875 wm89 wm876) rfl rfl rfl (by decide +kernel) ⟨Nat.le_of_ble_eq_true rfl, Nat.le_of_ble_eq_true rfl⟩) ⟨zP.blind, zP.enter (z_subP (ws' := ([] : va_W)) hP [] rfl) hK (hD.sub [] (by decide) rfl) hN⟩ rfl rfl hl.1 rfl (lv_room (Nat.le_of_ble_eq_true rfl)) dX7_append_5 ⟨Nat.le_refl _, Nat.le_refl _⟩) hP hD hS hA [] [0, 1, 2, 3, 4, 5, 6, 7, 8, 9, 10, 11, 12, 13, 14, 15, 16, 17, 18] [0, 1, 2, 3, 4, 5, 6, 7, 8, 9, 10, 11, 12, 13, 14, 15, 16, 17, 18] rfl rfl (by decide) (fun _ => rfl) (fun u_3 H locs hP hD hS hz => ?_)
  obtain ⟨g_4, h⟩ := gd_e h
  refine z_if_ne (tgt := 14) hx hb g_4 dX7_append_8 (by decide) (fun b_5 => ?_) (fun b_5 => ?_)
  · have h := it_n b_5 h
    refine lv_aload_n hx hb dX7_append_14 rfl (lv_at hl 0 rfl) ?_
    refine va_get (D := D) (ci := 7) (v := vI c_typed) (C := RX7) (T := TX7) (N := 26) hx hb hts zin7 hown hK hP 0 rfl rfl 6 (by decide) (hts _ wm793) (fun _ h9 => h9) rfl dX7_append_15 ?_
    refine lv_bipush (v := Int32.ofInt 80) hx hb dX7_append_18 (by decide +kernel) ?_
    obtain ⟨g_6, h⟩ := gd_e h
    refine z_icmp_ne (tgt := 26) hx hb g_6 (by decide) dX7_append_20 (by decide) (fun b_7 => ?_) (fun b_7 => ?_)
    · have h := it_n b_7 h
      refine lv_aload_n hx hb dX7_append_26 rfl (lv_at hl 0 rfl) ?_
      refine va_get (D := D) (ci := 7) (v := .ref (q_M 3)) (C := RX7) (T := TX7) (N := 26) hx hb hts zin7 hown hK hP 0 rfl rfl 5 (by decide) (hts _ wm792) (fun _ h9 => h9) rfl dX7_append_27 ?_
      refine lv_aload_n hx hb dX7_append_30 rfl (lv_at hl 0 rfl) ?_
      refine va_get (D := D) (ci := 7) (v := vI c_typed) (C := RX7) (T := TX7) (N := 26) hx hb hts zin7 hown hK hP 0 rfl rfl 6 (by decide) (hts _ wm793) (fun _ h9 => h9) rfl dX7_append_31 ?_
      refine lv_iload_n hx hb dX7_append_34 rfl (lv_at hl 1 rfl) ?_
      obtain ⟨g_8, h⟩ := gd_e h
      refine z_iast (n := 80) (f := c_text) (i := c_typed) (x := x1) (ws' := (zMo cI cZ h_M q_M c_s c_past c_kept c_isKept c_pasts (up c_text ((c_typed).toNat) x1) c_typed c_rect c_item c_items c_itemLevel c_treated c_from c_group c_turn c_size c_old c_aside c_begin c_level c_asides c_sorted c_spot c_rectangles c_parts c_visited)) hx hb hK hP hD hS 4 rfl rfl g_8 (by have := g_8.2; omega) dX7_append_35 rfl (fun H locs hP hD hS => ?_)
      refine lv_aload_n hx hb dX7_append_36 rfl (lv_at hl 0 rfl) ?_
      refine lv_dup hx hb dX7_append_37 rfl ?_
      refine va_get (D := D) (ci := 7) (v := vI c_typed) (C := RX7) (T := TX7) (N := 26) hx hb hts zin7 hown hK hP 0 rfl rfl 6 (by decide) (hts _ wm793) (fun _ h9 => h9) rfl dX7_append_38 ?_
      refine lv_iconst (v := Int32.ofInt 1) hx hb dX7_append_41 rfl ?_
      refine z_iadd hx hb dX7_append_42 ?_
      refine va_put (D := D) (ci := 7) (v := vI (c_typed + 1)) (ty := .int) (C := RX7) (T := TX7) (N := 26) hx hb hts zin7 tyX7 tyX7_ok nmX7 hown hK hP hD hS 0 rfl rfl 6 (by decide) (hts _ wm793) (fun _ h9 => h9) rfl (by decide +kernel) rfl rfl (Nat.le_of_ble_eq_true rfl) dX7_append_43 (fun H locs hP hD hS => ?_)
      replace hP : va_P D vwCl ((zMo cI cZ h_M q_M c_s c_past c_kept c_isKept c_pasts (up c_text ((c_typed).toNat) x1) (c_typed + 1) c_rect c_item c_items c_itemLevel c_treated c_from c_group c_turn c_size c_old c_aside c_begin c_level c_asides c_sorted c_spot c_rectangles c_parts c_visited)) H := hP
      replace hD : va_D A ((zMo cI cZ h_M q_M c_s c_past c_kept c_isKept c_pasts (up c_text ((c_typed).toNat) x1) (c_typed + 1) c_rect c_item c_items c_itemLevel c_treated c_from c_group c_turn c_size c_old c_aside c_begin c_level c_asides c_sorted c_spot c_rectangles c_parts c_visited)) := hD
      refine lv_aload_n hx hb dX7_append_46 rfl (lv_at hl 0 rfl) ?_
      refine va_get (D := D) (ci := 7) (v := vI (c_typed + 1)) (C := RX7) (T := TX7) (N := 26) hx hb hts zin7 hown hK hP 0 rfl rfl 6 (by decide) (hts _ wm793) (fun _ h9 => h9) rfl dX7_append_47 ?_
      obtain rfl := Option.some.inj h
      exact z_iret hx hb hr hlk (fun _ _ => 0) hP hD hS dX7_append_50
    · have h := it_p b_7 h
      refine lv_bipush (v := Int32.ofInt (-3)) hx hb dX7_append_23 (by decide +kernel) ?_
      obtain rfl := Option.some.inj h
      exact z_iret hx hb hr hlk (fun _ _ => 0) hP hD hS dX7_append_25
  · have h := it_p b_5 h
    refine lv_bipush (v := Int32.ofInt (-2)) hx hb dX7_append_11 (by decide +kernel) ?_
    obtain rfl := Option.some.inj h
    exact z_iret hx hb hr hlk (fun _ _ => 0) hP hD hS dX7_append_13
def f_Mo_clearText (c_typed : Int) : Option (Int × Int) :=
  some (c_typed, 0)
abbrev rm_Mo_clearText : Room := ({ frames := 0, cells := 0, slots := 0, locals := 0 } : Room)
set_option maxHeartbeats 4000000 in
set_option maxRecDepth 100000 in
theorem c_Mo_clearText (l : Launch) (D : va_G) (cI cZ cT : ClassId) (h_M : Nat) (q_M : Nat → Nat) (c_s : Nat → Int) (c_past : Nat → Int) (c_kept : Nat → Int) (c_isKept : Int) (c_pasts : Int) (c_text : Nat → Int) (c_typed : Int) (c_rect : Nat → Int) (c_item : Nat → Int) (c_items : Int) (c_itemLevel : Int) (c_treated : Nat → Int) (c_from : Nat → Int) (c_group : Nat → Int) (c_turn : Nat → Int) (c_size : Nat → Int) (c_old : Nat → Int) (c_aside : Nat → Int) (c_begin : Nat → Int) (c_level : Nat → Int) (c_asides : Int) (c_sorted : Nat → Int) (c_spot : Int) (c_rectangles : Int) (c_parts : Nat → Int) (c_visited : Nat → Int) (sz : Nat) (res : Int × Int) (h : f_Mo_clearText c_typed = some res) : zMi l yX7_clearText cX7_clearText 2 rm_Mo_clearText D (zt cI cZ cT) [.ref h_M] ((zMo cI cZ h_M q_M c_s c_past c_kept c_isKept c_pasts c_text c_typed c_rect c_item c_items c_itemLevel c_treated c_from c_group c_turn c_size c_old c_aside c_begin c_level c_asides c_sorted c_spot c_rectangles c_parts c_visited)) sz (res.1) (fun u => (zMo cI cZ h_M q_M c_s c_past c_kept c_isKept c_pasts c_text (res.2) c_rect c_item c_items c_itemLevel c_treated c_from c_group c_turn c_size c_old c_aside c_begin c_level c_asides c_sorted c_spot c_rectangles c_parts c_visited)) 0 0 := by
  refine z_enth (Qc := zQi D (res.1) (fun u => (zMo cI cZ h_M q_M c_s c_past c_kept c_isKept c_pasts c_text (res.2) c_rect c_item c_items c_itemLevel c_treated c_from c_group c_turn c_size c_old c_aside c_begin c_level c_asides c_sorted c_spot c_rectangles c_parts c_visited))) (by decide) (Nat.le_of_ble_eq_true rfl) (fun p e s m args below meth c A ls H locs hF hP hD hS hl => ?_)
  have hx := hF.1.1
  have hb := hF.1.2.1
  have hml := hF.1.2.2.1
  have hown : s.vm.findClass "RectangleTreeModel" = some m.cls := hF.1.2.2.2.1
  have hts := hF.1.2.2.2.2
  have hr := hF.2.1
  have hlk := hF.2.2.1
  have hK := hF.2.2.2.2.1
  have hN := hF.2.2.2.2.2.1
  have hA := hF.2.2.2.2.2.2
  unfold f_Mo_clearText at h
  refine lv_aload_n hx hb dX7_clearText_0 rfl (lv_at hl 0 rfl) ?_
  refine va_get (D := D) (ci := 7) (v := vI c_typed) (C := RX7) (T := TX7) (N := 26) hx hb hts zin7 hown hK hP 0 rfl rfl 6 (by decide) (hts _ wm793) (fun _ h9 => h9) rfl dX7_clearText_1 ?_
  refine lv_istore_n (lv' := [(1, vI c_typed), (0, .ref h_M)]) hx hb dX7_clearText_4 rfl hl (by decide) rfl (fun ls hl => ?_)
  refine lv_aload_n hx hb dX7_clearText_5 rfl (lv_at hl 1 rfl) ?_
  refine lv_iconst (v := Int32.ofInt 0) hx hb dX7_clearText_6 rfl ?_
  refine va_put (D := D) (ci := 7) (v := vI 0) (ty := .int) (C := RX7) (T := TX7) (N := 26) hx hb hts zin7 tyX7 tyX7_ok nmX7 hown hK hP hD hS 0 rfl rfl 6 (by decide) (hts _ wm793) (fun _ h9 => h9) rfl (by decide +kernel) rfl rfl (Nat.le_of_ble_eq_true rfl) dX7_clearText_7 (fun H locs hP hD hS => ?_)
  replace hP : va_P D vwCl ((zMo cI cZ h_M q_M c_s c_past c_kept c_isKept c_pasts c_text 0 c_rect c_item c_items c_itemLevel c_treated c_from c_group c_turn c_size c_old c_aside c_begin c_level c_asides c_sorted c_spot c_rectangles c_parts c_visited)) H := hP
  replace hD : va_D A ((zMo cI cZ h_M q_M c_s c_past c_kept c_isKept c_pasts c_text 0 c_rect c_item c_items c_itemLevel c_treated c_from c_group c_turn c_size c_old c_aside c_begin c_level c_asides c_sorted c_spot c_rectangles c_parts c_visited)) := hD
  refine lv_iload_n hx hb dX7_clearText_10 rfl (lv_at hl 0 rfl) ?_
  obtain rfl := Option.some.inj h
  exact z_iret hx hb hr hlk (fun _ _ => 0) hP hD hS dX7_clearText_11
def f_Mo_isDigit (c_text : Nat → Int) (c_typed : Int) (c_spot : Int) : Option (Int) :=
  gd (ck c_spot) <| gd (ck c_typed) <| if c_spot < c_typed then (gd (0 ≤ c_spot ∧ c_spot < ((80 : Nat) : Int)) <| bd1 (f_Mo_in (c_text (c_spot).toNat) 48 57) <| fun r_5 => gd (ck r_5) <| if r_5 = 0 then (some (0)) else (some (1))) else (some (0))
abbrev rm_Mo_isDigit : Room := ({ frames := 1, cells := 0, slots := 0, locals := 22 } : Room)
set_option maxHeartbeats 4000000 in
set_option maxRecDepth 100000 in
theorem c_Mo_isDigit (l : Launch) (D : va_G) (cI cZ cT : ClassId) (h_M : Nat) (q_M : Nat → Nat) (c_s : Nat → Int) (c_past : Nat → Int) (c_kept : Nat → Int) (c_isKept : Int) (c_pasts : Int) (c_text : Nat → Int) (c_typed : Int) (c_rect : Nat → Int) (c_item : Nat → Int) (c_items : Int) (c_itemLevel : Int) (c_treated : Nat → Int) (c_from : Nat → Int) (c_group : Nat → Int) (c_turn : Nat → Int) (c_size : Nat → Int) (c_old : Nat → Int) (c_aside : Nat → Int) (c_begin : Nat → Int) (c_level : Nat → Int) (c_asides : Int) (c_sorted : Nat → Int) (c_spot : Int) (c_rectangles : Int) (c_parts : Nat → Int) (c_visited : Nat → Int) (sz : Nat) (res : Int) (h : f_Mo_isDigit c_text c_typed c_spot = some res) : zMz l yX7_isDigit cX7_isDigit 1 rm_Mo_isDigit D (zt cI cZ cT) [.ref h_M] ((zMo cI cZ h_M q_M c_s c_past c_kept c_isKept c_pasts c_text c_typed c_rect c_item c_items c_itemLevel c_treated c_from c_group c_turn c_size c_old c_aside c_begin c_level c_asides c_sorted c_spot c_rectangles c_parts c_visited)) sz (res) (fun u => (zMo cI cZ h_M q_M c_s c_past c_kept c_isKept c_pasts c_text c_typed c_rect c_item c_items c_itemLevel c_treated c_from c_group c_turn c_size c_old c_aside c_begin c_level c_asides c_sorted c_spot c_rectangles c_parts c_visited)) 0 0 := by
  refine z_enth (Qc := zQi D (res) (fun u => (zMo cI cZ h_M q_M c_s c_past c_kept c_isKept c_pasts c_text c_typed c_rect c_item c_items c_itemLevel c_treated c_from c_group c_turn c_size c_old c_aside c_begin c_level c_asides c_sorted c_spot c_rectangles c_parts c_visited))) (by decide) (Nat.le_of_ble_eq_true rfl) (fun p e s m args below meth c A ls H locs hF hP hD hS hl => ?_)
  have hx := hF.1.1
  have hb := hF.1.2.1
  have hml := hF.1.2.2.1
  have hown : s.vm.findClass "RectangleTreeModel" = some m.cls := hF.1.2.2.2.1
  have hts := hF.1.2.2.2.2
  have hr := hF.2.1
  have hlk := hF.2.2.1
  have hK := hF.2.2.2.2.1
  have hN := hF.2.2.2.2.2.1
  have hA := hF.2.2.2.2.2.2
  unfold f_Mo_isDigit at h
  refine lv_aload_n hx hb dX7_isDigit_0 rfl (lv_at hl 0 rfl) ?_
  refine va_get (D := D) (ci := 7) (v := vI c_spot) (C := RX7) (T := TX7) (N := 26) hx hb hts zin7 hown hK hP 0 rfl rfl 22 (by decide) (hts _ wm809) (fun _ h9 => h9) rfl dX7_isDigit_1 ?_
  refine lv_aload_n hx hb dX7_isDigit_4 rfl (lv_at hl 0 rfl) ?_
  refine va_get (D := D) (ci := 7) (v := vI c_typed) (C := RX7) (T := TX7) (N := 26) hx hb hts zin7 hown hK hP 0 rfl rfl 6 (by decide) (hts _ wm793) (fun _ h9 => h9) rfl dX7_isDigit_5 ?_
  obtain ⟨g_1, h⟩ := gd_e h
  obtain ⟨g_2, h⟩ := gd_e h
  refine z_icmp_ge (tgt := 34) hx hb g_1 g_2 dX7_isDigit_8 (by decide) (fun b_3 => ?_) (fun b_3 => ?_)
  · have h := it_n b_3 h
    refine lv_iconst (v := Int32.ofInt 0) hx hb dX7_isDigit_34 rfl ?_
    obtain rfl := Option.some.inj h
    exact z_zret hx hb hr hlk (by decide) (fun _ _ => 0) hP hD hS dX7_isDigit_35
  · have h := it_p b_3 h
    refine lv_aload_n hx hb dX7_isDigit_11 rfl (lv_at hl 0 rfl) ?_
    refine va_get (D := D) (ci := 7) (v := .ref (q_M 3)) (C := RX7) (T := TX7) (N := 26) hx hb hts zin7 hown hK hP 0 rfl rfl 5 (by decide) (hts _ wm792) (fun _ h9 => h9) rfl dX7_isDigit_12 ?_
    refine lv_aload_n hx hb dX7_isDigit_15 rfl (lv_at hl 0 rfl) ?_
    refine va_get (D := D) (ci := 7) (v := vI c_spot) (C := RX7) (T := TX7) (N := 26) hx hb hts zin7 hown hK hP 0 rfl rfl 22 (by decide) (hts _ wm809) (fun _ h9 => h9) rfl dX7_isDigit_16 ?_
    obtain ⟨g_4, h⟩ := gd_e h
    refine z_iald (n := 80) (f := c_text) (i := c_spot) hx hb hK hP 4 rfl rfl g_4 (by have := g_4.2; omega) dX7_isDigit_19 ?_
    refine lv_bipush (v := Int32.ofInt 48) hx hb dX7_isDigit_20 (by decide +kernel) ?_
    refine lv_bipush (v := Int32.ofInt 57) hx hb dX7_isDigit_22 (by decide +kernel) ?_
    obtain ⟨r_5, e_6, h⟩ := bd1_e h
    refine z_goi (ws' := []) (ret := r_5) (wc := ([] : va_W)) (wn := fun u_7 => (zMo cI cZ h_M q_M c_s c_past c_kept c_isKept c_pasts c_text c_typed c_rect c_item c_items c_itemLevel c_treated c_from c_group c_turn c_size c_old c_aside c_begin c_level c_asides c_sorted c_spot c_rectangles c_parts c_visited)) (wr := ([0, 1, 2, 3, 4, 5, 6, 7, 8, 9, 10, 11, 12, 13, 14, 15, 16, 17, 18].filterMap (fun i => ((zMo cI cZ h_M q_M c_s c_past c_kept c_isKept c_pasts c_text c_typed c_rect c_item c_items c_itemLevel c_treated c_from c_group c_turn c_size c_old c_aside c_begin c_level c_asides c_sorted c_spot c_rectangles c_parts c_visited))[i]?))) (va_runS (As := [vI (c_text (c_spot).toNat), vI 48, vI 57]) (rest := []) hF.1 (c_Mo_in l D cI cZ cT (c_text (c_spot).toNat) 48 57 H.size (r_5) e_6) (va_cwS 3 hts (zgS wm874 wm875 wm89 wm876) rfl rfl rfl (by decide +kernel) ⟨Nat.le_of_ble_eq_true rfl, Nat.le_of_ble_eq_true rfl⟩) ⟨zP.blind, zP.enter (z_subP (ws' := ([] : va_W)) hP [] rfl) hK (hD.sub [] (by decide) rfl) hN⟩ rfl rfl hl.1 rfl (lv_room (Nat.le_of_ble_eq_true rfl)) dX7_isDigit_24 ⟨Nat.le_refl _, Nat.le_refl _⟩) hP hD hS hA [] [0, 1, 2, 3, 4, 5, 6, 7, 8, 9, 10, 11, 12, 13, 14, 15, 16, 17, 18] [0, 1, 2, 3, 4, 5, 6, 7, 8, 9, 10, 11, 12, 13, 14, 15, 16, 17, 18] rfl rfl (by decide) (fun _ => rfl) (fun u_7 H locs hP hD hS hz => ?_)
    obtain ⟨g_8, h⟩ := gd_e h
    refine z_if_eq (tgt := 34) hx hb g_8 dX7_isDigit_27 (by decide) (fun b_9 => ?_) (fun b_9 => ?_)
    · have h := it_p b_9 h
      refine lv_iconst (v := Int32.ofInt 0) hx hb dX7_isDigit_34 rfl ?_
      obtain rfl := Option.some.inj h
      exact z_zret hx hb hr hlk (by decide) (fun _ _ => 0) hP hD hS dX7_isDigit_35
    · have h := it_n b_9 h
      refine lv_iconst (v := Int32.ofInt 1) hx hb dX7_isDigit_30 rfl ?_
      refine lv_goto (tgt := 35) hx hb dX7_isDigit_31 (by decide) ?_
      obtain rfl := Option.some.inj h
      exact z_zret hx hb hr hlk (by decide) (fun _ _ => 0) hP hD hS dX7_isDigit_35
def f_Mo_reads (c_text : Nat → Int) (c_typed : Int) (c_spot : Int) (c_rectangles : Int) (c_parts : Nat → Int) (x1 : Int) (x2 : Int) : Option (Int × Int × (Nat → Int)) :=
  bd1 (f_Mo_isDigit c_text c_typed c_spot) <| fun r_1 => gd (ck r_1) <| if r_1 = 0 then (some (0, c_spot, c_parts)) else (gd (0 ≤ c_spot ∧ c_spot < ((80 : Nat) : Int)) <| gd (ck ((c_text (c_spot).toNat) - 48)) <| if ((c_text (c_spot).toNat) - 48) = 0 then (gd (ck x2) <| if 0 < x2 then (some (0, c_spot, c_parts)) else (if 0 < ((c_text (c_spot).toNat) - 48) then (bd1 (f_Mo_isDigit c_text c_typed (c_spot + 1)) <| fun r_32 => gd (ck r_32) <| if r_32 = 0 then (gd (0 ≤ ((4 * c_rectangles) + x1) ∧ ((4 * c_rectangles) + x1) < ((44 : Nat) : Int)) <| if ((c_text (c_spot).toNat) - 48) < x2 then (some (0, (c_spot + 1), (up c_parts ((((4 * c_rectangles) + x1)).toNat) ((c_text (c_spot).toNat) - 48)))) else (some (1, (c_spot + 1), (up c_parts ((((4 * c_rectangles) + x1)).toNat) ((c_text (c_spot).toNat) - 48))))) else (gd (0 ≤ (c_spot + 1) ∧ (c_spot + 1) < ((80 : Nat) : Int)) <| gd (ck (((10 * ((c_text (c_spot).toNat) - 48)) + (c_text ((c_spot + 1)).toNat)) - 48)) <| if (((10 * ((c_text (c_spot).toNat) - 48)) + (c_text ((c_spot + 1)).toNat)) - 48) < x2 then (some (0, (c_spot + 1), c_parts)) else (gd (0 ≤ ((4 * c_rectangles) + x1) ∧ ((4 * c_rectangles) + x1) < ((44 : Nat) : Int)) <| if (((10 * ((c_text (c_spot).toNat) - 48)) + (c_text ((c_spot + 1)).toNat)) - 48) < x2 then (some (0, ((c_spot + 1) + 1), (up c_parts ((((4 * c_rectangles) + x1)).toNat) (((10 * ((c_text (c_spot).toNat) - 48)) + (c_text ((c_spot + 1)).toNat)) - 48)))) else (some (1, ((c_spot + 1) + 1), (up c_parts ((((4 * c_rectangles) + x1)).toNat) (((10 * ((c_text (c_spot).toNat) - 48)) + (c_text ((c_spot + 1)).toNat)) - 48))))))) else (gd (0 ≤ ((4 * c_rectangles) + x1) ∧ ((4 * c_rectangles) + x1) < ((44 : Nat) : Int)) <| if ((c_text (c_spot).toNat) - 48) < x2 then (some (0, (c_spot + 1), (up c_parts ((((4 * c_rectangles) + x1)).toNat) ((c_text (c_spot).toNat) - 48)))) else (some (1, (c_spot + 1), (up c_parts ((((4 * c_rectangles) + x1)).toNat) ((c_text (c_spot).toNat) - 48))))))) else (gd (ck ((10 * ((c_text (c_spot).toNat) - 48)) + 9)) <| gd (ck x2) <| if ((10 * ((c_text (c_spot).toNat) - 48)) + 9) < x2 then (some (0, c_spot, c_parts)) else (if 0 < ((c_text (c_spot).toNat) - 48) then (bd1 (f_Mo_isDigit c_text c_typed (c_spot + 1)) <| fun r_15 => gd (ck r_15) <| if r_15 = 0 then (gd (0 ≤ ((4 * c_rectangles) + x1) ∧ ((4 * c_rectangles) + x1) < ((44 : Nat) : Int)) <| if ((c_text (c_spot).toNat) - 48) < x2 then (some (0, (c_spot + 1), (up c_parts ((((4 * c_rectangles) + x1)).toNat) ((c_text (c_spot).toNat) - 48)))) else (some (1, (c_spot + 1), (up c_parts ((((4 * c_rectangles) + x1)).toNat) ((c_text (c_spot).toNat) - 48))))) else (gd (0 ≤ (c_spot + 1) ∧ (c_spot + 1) < ((80 : Nat) : Int)) <| gd (ck (((10 * ((c_text (c_spot).toNat) - 48)) + (c_text ((c_spot + 1)).toNat)) - 48)) <| if (((10 * ((c_text (c_spot).toNat) - 48)) + (c_text ((c_spot + 1)).toNat)) - 48) < x2 then (some (0, (c_spot + 1), c_parts)) else (gd (0 ≤ ((4 * c_rectangles) + x1) ∧ ((4 * c_rectangles) + x1) < ((44 : Nat) : Int)) <| if (((10 * ((c_text (c_spot).toNat) - 48)) + (c_text ((c_spot + 1)).toNat)) - 48) < x2 then (some (0, ((c_spot + 1) + 1), (up c_parts ((((4 * c_rectangles) + x1)).toNat) (((10 * ((c_text (c_spot).toNat) - 48)) + (c_text ((c_spot + 1)).toNat)) - 48)))) else (some (1, ((c_spot + 1) + 1), (up c_parts ((((4 * c_rectangles) + x1)).toNat) (((10 * ((c_text (c_spot).toNat) - 48)) + (c_text ((c_spot + 1)).toNat)) - 48))))))) else (gd (0 ≤ ((4 * c_rectangles) + x1) ∧ ((4 * c_rectangles) + x1) < ((44 : Nat) : Int)) <| if ((c_text (c_spot).toNat) - 48) < x2 then (some (0, (c_spot + 1), (up c_parts ((((4 * c_rectangles) + x1)).toNat) ((c_text (c_spot).toNat) - 48)))) else (some (1, (c_spot + 1), (up c_parts ((((4 * c_rectangles) + x1)).toNat) ((c_text (c_spot).toNat) - 48))))))))
abbrev rm_Mo_reads : Room := ({ frames := 2, cells := 0, slots := 0, locals := 42 } : Room)
set_option maxHeartbeats 4000000 in
set_option maxRecDepth 100000 in
theorem c_Mo_reads (l : Launch) (D : va_G) (cI cZ cT : ClassId) (h_M : Nat) (q_M : Nat → Nat) (c_s : Nat → Int) (c_past : Nat → Int) (c_kept : Nat → Int) (c_isKept : Int) (c_pasts : Int) (c_text : Nat → Int) (c_typed : Int) (c_rect : Nat → Int) (c_item : Nat → Int) (c_items : Int) (c_itemLevel : Int) (c_treated : Nat → Int) (c_from : Nat → Int) (c_group : Nat → Int) (c_turn : Nat → Int) (c_size : Nat → Int) (c_old : Nat → Int) (c_aside : Nat → Int) (c_begin : Nat → Int) (c_level : Nat → Int) (c_asides : Int) (c_sorted : Nat → Int) (c_spot : Int) (c_rectangles : Int) (c_parts : Nat → Int) (c_visited : Nat → Int) (x1 : Int) (x2 : Int) (sz : Nat) (res : Int × Int × (Nat → Int)) (h : f_Mo_reads c_text c_typed c_spot c_rectangles c_parts x1 x2 = some res) : zMz l yX7_reads cX7_reads 4 rm_Mo_reads D (zt cI cZ cT) [.ref h_M, vI x1, vI x2] ((zMo cI cZ h_M q_M c_s c_past c_kept c_isKept c_pasts c_text c_typed c_rect c_item c_items c_itemLevel c_treated c_from c_group c_turn c_size c_old c_aside c_begin c_level c_asides c_sorted c_spot c_rectangles c_parts c_visited)) sz (res.1) (fun u => (zMo cI cZ h_M q_M c_s c_past c_kept c_isKept c_pasts c_text c_typed c_rect c_item c_items c_itemLevel c_treated c_from c_group c_turn c_size c_old c_aside c_begin c_level c_asides c_sorted (res.2.1) c_rectangles (res.2.2) c_visited)) 0 0 := by
  refine z_enth (Qc := zQi D (res.1) (fun u => (zMo cI cZ h_M q_M c_s c_past c_kept c_isKept c_pasts c_text c_typed c_rect c_item c_items c_itemLevel c_treated c_from c_group c_turn c_size c_old c_aside c_begin c_level c_asides c_sorted (res.2.1) c_rectangles (res.2.2) c_visited))) (by decide) (Nat.le_of_ble_eq_true rfl) (fun p e s m args below meth c A ls H locs hF hP hD hS hl => ?_)
  have hx := hF.1.1
  have hb := hF.1.2.1
  have hml := hF.1.2.2.1
  have hown : s.vm.findClass "RectangleTreeModel" = some m.cls := hF.1.2.2.2.1
  have hts := hF.1.2.2.2.2
  have hr := hF.2.1
  have hlk := hF.2.2.1
  have hK := hF.2.2.2.2.1
  have hN := hF.2.2.2.2.2.1
  have hA := hF.2.2.2.2.2.2
  unfold f_Mo_reads at h
  refine lv_aload_n hx hb dX7_reads_0 rfl (lv_at hl 0 rfl) ?_
  obtain ⟨r_1, e_2, h⟩ := bd1_e h
  refine z_goi (ws' := []) (ret := r_1) (wc := (zMo cI cZ (h_M) (q_M) (c_s) (c_past) (c_kept) (c_isKept) (c_pasts) (c_text) (c_typed) (c_rect) (c_item) (c_items) (c_itemLevel) (c_treated) (c_from) (c_group) (c_turn) (c_size) (c_old) (c_aside) (c_begin) (c_level) (c_asides) (c_sorted) (c_spot) (c_rectangles) (c_parts) (c_visited))) (wn := fun u_3 => (zMo cI cZ h_M q_M c_s c_past c_kept c_isKept c_pasts c_text c_typed c_rect c_item c_items c_itemLevel c_treated c_from c_group c_turn c_size c_old c_aside c_begin c_level c_asides c_sorted c_spot c_rectangles c_parts c_visited)) (wr := []) (va_runV (As := []) (rest := []) hF.1 (c_Mo_isDigit l D cI cZ cT h_M q_M c_s c_past c_kept c_isKept c_pasts c_text c_typed c_rect c_item c_items c_itemLevel c_treated c_from c_group c_turn c_size c_old c_aside c_begin c_level c_asides c_sorted c_spot c_rectangles c_parts c_visited H.size (r_1) e_2) (cwV 0 hts (zgV wm1090 wm1092 wm75 wm89 wm1093) rfl rfl rfl (by decide +kernel) ⟨Nat.le_of_ble_eq_true rfl, Nat.le_of_ble_eq_true rfl⟩) ⟨zP.blind, va_recv hK (z_subP (ws' := (zMo cI cZ (h_M) (q_M) (c_s) (c_past) (c_kept) (c_isKept) (c_pasts) (c_text) (c_typed) (c_rect) (c_item) (c_items) (c_itemLevel) (c_treated) (c_from) (c_group) (c_turn) (c_size) (c_old) (c_aside) (c_begin) (c_level) (c_asides) (c_sorted) (c_spot) (c_rectangles) (c_parts) (c_visited))) hP [0, 1, 2, 3, 4, 5, 6, 7, 8, 9, 10, 11, 12, 13, 14, 15, 16, 17, 18] rfl) (ci := 7) (q0 := 0) rfl rfl, zP.enter (z_subP (ws' := (zMo cI cZ (h_M) (q_M) (c_s) (c_past) (c_kept) (c_isKept) (c_pasts) (c_text) (c_typed) (c_rect) (c_item) (c_items) (c_itemLevel) (c_treated) (c_from) (c_group) (c_turn) (c_size) (c_old) (c_aside) (c_begin) (c_level) (c_asides) (c_sorted) (c_spot) (c_rectangles) (c_parts) (c_visited))) hP [0, 1, 2, 3, 4, 5, 6, 7, 8, 9, 10, 11, 12, 13, 14, 15, 16, 17, 18] rfl) hK (hD.sub [0, 1, 2, 3, 4, 5, 6, 7, 8, 9, 10, 11, 12, 13, 14, 15, 16, 17, 18] (by decide) rfl) hN⟩ rfl rfl hl.1 rfl (lv_room (Nat.le_of_ble_eq_true rfl)) dX7_reads_1 ⟨Nat.le_refl _, Nat.le_refl _⟩) hP hD hS hA [0, 1, 2, 3, 4, 5, 6, 7, 8, 9, 10, 11, 12, 13, 14, 15, 16, 17, 18] [] [0, 1, 2, 3, 4, 5, 6, 7, 8, 9, 10, 11, 12, 13, 14, 15, 16, 17, 18] rfl rfl (by decide) (fun _ => rfl) (fun u_3 H locs hP hD hS hz => ?_)
  obtain ⟨g_4, h⟩ := gd_e h
  refine z_if_ne (tgt := 9) hx hb g_4 dX7_reads_4 (by decide) (fun b_5 => ?_) (fun b_5 => ?_)
  · have h := it_n b_5 h
    refine lv_aload_n hx hb dX7_reads_9 rfl (lv_at hl 0 rfl) ?_
    refine va_get (D := D) (ci := 7) (v := .ref (q_M 3)) (C := RX7) (T := TX7) (N := 26) hx hb hts zin7 hown hK hP 0 rfl rfl 5 (by decide) (hts _ wm792) (fun _ h9 => h9) rfl dX7_reads_10 ?_
    refine lv_aload_n hx hb dX7_reads_13 rfl (lv_at hl 0 rfl) ?_
    refine va_get (D := D) (ci := 7) (v := vI c_spot) (C := RX7) (T := TX7) (N := 26) hx hb hts zin7 hown hK hP 0 rfl rfl 22 (by decide) (hts _ wm809) (fun _ h9 => h9) rfl dX7_reads_14 ?_
    obtain ⟨g_6, h⟩ := gd_e h
    refine z_iald (n := 80) (f := c_text) (i := c_spot) hx hb hK hP 4 rfl rfl g_6 (by have := g_6.2; omega) dX7_reads_17 ?_
    refine lv_bipush (v := Int32.ofInt 48) hx hb dX7_reads_18 (by decide +kernel) ?_
    refine z_isub hx hb dX7_reads_20 ?_
    refine lv_istore_n (lv' := [(3, vI ((c_text (c_spot).toNat) - 48)), (0, .ref h_M), (1, vI x1), (2, vI x2)]) hx hb dX7_reads_21 rfl hl (by decide) rfl (fun ls hl => ?_)
    refine lv_iload_n hx hb dX7_reads_22 rfl (lv_at hl 0 rfl) ?_
    obtain ⟨g_7, h⟩ := gd_e h
    refine z_if_ne (tgt := 33) hx hb g_7 dX7_reads_23 (by decide) (fun b_8 => ?_) (fun b_8 => ?_)
    · have h := it_n b_8 h
      refine lv_bipush (v := Int32.ofInt 10) hx hb dX7_reads_33 (by decide +kernel) ?_
      refine lv_iload_n hx hb dX7_reads_35 rfl (lv_at hl 0 rfl) ?_
      refine z_imul hx hb dX7_reads_36 ?_
      refine lv_bipush (v := Int32.ofInt 9) hx hb dX7_reads_37 (by decide +kernel) ?_
      refine z_iadd hx hb dX7_reads_39 ?_
      refine lv_iload_n hx hb dX7_reads_40 rfl (lv_at hl 3 rfl) ?_
      obtain ⟨g_9, h⟩ := gd_e h
      obtain ⟨g_10, h⟩ := gd_e h
      refine z_icmp_ge (tgt := 46) hx hb g_9 g_10 dX7_reads_41 (by decide) (fun b_11 => ?_) (fun b_11 => ?_)
      · have h := it_n b_11 h
        refine lv_aload_n hx hb dX7_reads_46 rfl (lv_at hl 1 rfl) ?_
        refine lv_dup hx hb dX7_reads_47 rfl ?_
        refine va_get (D := D) (ci := 7) (v := vI c_spot) (C := RX7) (T := TX7) (N := 26) hx hb hts zin7 hown hK hP 0 rfl rfl 22 (by decide) (hts _ wm809) (fun _ h9 => h9) rfl dX7_reads_48 ?_
        refine lv_iconst (v := Int32.ofInt 1) hx hb dX7_reads_51 rfl ?_
        refine z_iadd hx hb dX7_reads_52 ?_
        refine va_put (D := D) (ci := 7) (v := vI (c_spot + 1)) (ty := .int) (C := RX7) (T := TX7) (N := 26) hx hb hts zin7 tyX7 tyX7_ok nmX7 hown hK hP hD hS 0 rfl rfl 22 (by decide) (hts _ wm809) (fun _ h9 => h9) rfl (by decide +kernel) rfl rfl (Nat.le_of_ble_eq_true rfl) dX7_reads_53 (fun H locs hP hD hS => ?_)
        replace hP : va_P D vwCl ((zMo cI cZ h_M q_M c_s c_past c_kept c_isKept c_pasts c_text c_typed c_rect c_item c_items c_itemLevel c_treated c_from c_group c_turn c_size c_old c_aside c_begin c_level c_asides c_sorted (c_spot + 1) c_rectangles c_parts c_visited)) H := hP
        replace hD : va_D A ((zMo cI cZ h_M q_M c_s c_past c_kept c_isKept c_pasts c_text c_typed c_rect c_item c_items c_itemLevel c_treated c_from c_group c_turn c_size c_old c_aside c_begin c_level c_asides c_sorted (c_spot + 1) c_rectangles c_parts c_visited)) := hD
        refine lv_iload_n hx hb dX7_reads_56 rfl (lv_at hl 0 rfl) ?_
        refine z_if_le (tgt := 102) hx hb g_7 dX7_reads_57 (by decide) (fun b_12 => ?_) (fun b_12 => ?_)
        · have h := it_n b_12 h
          refine lv_aload_n hx hb dX7_reads_102 rfl (lv_at hl 1 rfl) ?_
          refine va_get (D := D) (ci := 7) (v := .ref (q_M 16)) (C := RX7) (T := TX7) (N := 26) hx hb hts zin7 hown hK hP 0 rfl rfl 24 (by decide) (hts _ wm811) (fun _ h9 => h9) rfl dX7_reads_103 ?_
          refine lv_iconst (v := Int32.ofInt 4) hx hb dX7_reads_106 rfl ?_
          refine lv_aload_n hx hb dX7_reads_107 rfl (lv_at hl 1 rfl) ?_
          refine va_get (D := D) (ci := 7) (v := vI c_rectangles) (C := RX7) (T := TX7) (N := 26) hx hb hts zin7 hown hK hP 0 rfl rfl 23 (by decide) (hts _ wm810) (fun _ h9 => h9) rfl dX7_reads_108 ?_
          refine z_imul hx hb dX7_reads_111 ?_
          refine lv_iload_n hx hb dX7_reads_112 rfl (lv_at hl 2 rfl) ?_
          refine z_iadd hx hb dX7_reads_113 ?_
          refine lv_iload_n hx hb dX7_reads_114 rfl (lv_at hl 0 rfl) ?_
          obtain ⟨g_13, h⟩ := gd_e h
          refine z_iast (n := 44) (f := c_parts) (i := ((4 * c_rectangles) + x1)) (x := ((c_text (c_spot).toNat) - 48)) (ws' := (zMo cI cZ h_M q_M c_s c_past c_kept c_isKept c_pasts c_text c_typed c_rect c_item c_items c_itemLevel c_treated c_from c_group c_turn c_size c_old c_aside c_begin c_level c_asides c_sorted (c_spot + 1) c_rectangles (up c_parts ((((4 * c_rectangles) + x1)).toNat) ((c_text (c_spot).toNat) - 48)) c_visited)) hx hb hK hP hD hS 17 rfl rfl g_13 (by have := g_13.2; omega) dX7_reads_115 rfl (fun H locs hP hD hS => ?_)
          refine lv_iload_n hx hb dX7_reads_116 rfl (lv_at hl 0 rfl) ?_
          refine lv_iload_n hx hb dX7_reads_117 rfl (lv_at hl 3 rfl) ?_
          refine z_icmp_lt (tgt := 125) hx hb g_7 g_10 dX7_reads_118 (by decide) (fun b_14 => ?_) (fun b_14 => ?_)
          · have h := it_p b_14 h
            refine lv_iconst (v := Int32.ofInt 0) hx hb dX7_reads_125 rfl ?_
            obtain rfl := Option.some.inj h
            exact z_zret hx hb hr hlk (show narrow .boolean (.int (Int32.ofInt 0)) = .int (Int32.ofInt 0) from by decide) (fun _ _ => 0) hP hD hS dX7_reads_126
          · have h := it_n b_14 h
            refine lv_iconst (v := Int32.ofInt 1) hx hb dX7_reads_121 rfl ?_
            refine lv_goto (tgt := 126) hx hb dX7_reads_122 (by decide) ?_
            obtain rfl := Option.some.inj h
            exact z_zret hx hb hr hlk (show narrow .boolean (.int (Int32.ofInt 1)) = .int (Int32.ofInt 1) from by decide) (fun _ _ => 0) hP hD hS dX7_reads_126
        · have h := it_p b_12 h
          refine lv_aload_n hx hb dX7_reads_60 rfl (lv_at hl 1 rfl) ?_
          obtain ⟨r_15, e_16, h⟩ := bd1_e h
          refine z_goi (ws' := []) (ret := r_15) (wc := (zMo cI cZ (h_M) (q_M) (c_s) (c_past) (c_kept) (c_isKept) (c_pasts) (c_text) (c_typed) (c_rect) (c_item) (c_items) (c_itemLevel) (c_treated) (c_from) (c_group) (c_turn) (c_size) (c_old) (c_aside) (c_begin) (c_level) (c_asides) (c_sorted) ((c_spot + 1)) (c_rectangles) (c_parts) (c_visited))) (wn := fun u_17 => (zMo cI cZ h_M q_M c_s c_past c_kept c_isKept c_pasts c_text c_typed c_rect c_item c_items c_itemLevel c_treated c_from c_group c_turn c_size c_old c_aside c_begin c_level c_asides c_sorted (c_spot + 1) c_rectangles c_parts c_visited)) (wr := []) (va_runV (As := []) (rest := []) hF.1 (c_Mo_isDigit l D cI cZ cT h_M q_M c_s c_past c_kept c_isKept c_pasts c_text c_typed c_rect c_item c_items c_itemLevel c_treated c_from c_group c_turn c_size c_old c_aside c_begin c_level c_asides c_sorted (c_spot + 1) c_rectangles c_parts c_visited H.size (r_15) e_16) (cwV 0 hts (zgV wm1090 wm1092 wm75 wm89 wm1093) rfl rfl rfl (by decide +kernel) ⟨Nat.le_of_ble_eq_true rfl, Nat.le_of_ble_eq_true rfl⟩) ⟨zP.blind, va_recv hK (z_subP (ws' := (zMo cI cZ (h_M) (q_M) (c_s) (c_past) (c_kept) (c_isKept) (c_pasts) (c_text) (c_typed) (c_rect) (c_item) (c_items) (c_itemLevel) (c_treated) (c_from) (c_group) (c_turn) (c_size) (c_old) (c_aside) (c_begin) (c_level) (c_asides) (c_sorted) ((c_spot + 1)) (c_rectangles) (c_parts) (c_visited))) hP [0, 1, 2, 3, 4, 5, 6, 7, 8, 9, 10, 11, 12, 13, 14, 15, 16, 17, 18] rfl) (ci := 7) (q0 := 0) rfl rfl, zP.enter (z_subP (ws' := (zMo cI cZ (h_M) (q_M) (c_s) (c_past) (c_kept) (c_isKept) (c_pasts) (c_text) (c_typed) (c_rect) (c_item) (c_items) (c_itemLevel) (c_treated) (c_from) (c_group) (c_turn) (c_size) (c_old) (c_aside) (c_begin) (c_level) (c_asides) (c_sorted) ((c_spot + 1)) (c_rectangles) (c_parts) (c_visited))) hP [0, 1, 2, 3, 4, 5, 6, 7, 8, 9, 10, 11, 12, 13, 14, 15, 16, 17, 18] rfl) hK (hD.sub [0, 1, 2, 3, 4, 5, 6, 7, 8, 9, 10, 11, 12, 13, 14, 15, 16, 17, 18] (by decide) rfl) hN⟩ rfl rfl hl.1 rfl (lv_room (Nat.le_of_ble_eq_true rfl)) dX7_reads_61 ⟨Nat.le_refl _, Nat.le_refl _⟩) hP hD hS hA [0, 1, 2, 3, 4, 5, 6, 7, 8, 9, 10, 11, 12, 13, 14, 15, 16, 17, 18] [] [0, 1, 2, 3, 4, 5, 6, 7, 8, 9, 10, 11, 12, 13, 14, 15, 16, 17, 18] rfl rfl (by decide) (fun _ => rfl) (fun u_17 H locs hP hD hS hz => ?_)
          obtain ⟨g_18, h⟩ := gd_e h
          refine z_if_eq (tgt := 102) hx hb g_18 dX7_reads_64 (by decide) (fun b_19 => ?_) (fun b_19 => ?_)
          · have h := it_p b_19 h
            refine lv_aload_n hx hb dX7_reads_102 rfl (lv_at hl 1 rfl) ?_
            refine va_get (D := D) (ci := 7) (v := .ref (q_M 16)) (C := RX7) (T := TX7) (N := 26) hx hb hts zin7 hown hK hP 0 rfl rfl 24 (by decide) (hts _ wm811) (fun _ h9 => h9) rfl dX7_reads_103 ?_
            refine lv_iconst (v := Int32.ofInt 4) hx hb dX7_reads_106 rfl ?_
            refine lv_aload_n hx hb dX7_reads_107 rfl (lv_at hl 1 rfl) ?_
            refine va_get (D := D) (ci := 7) (v := vI c_rectangles) (C := RX7) (T := TX7) (N := 26) hx hb hts zin7 hown hK hP 0 rfl rfl 23 (by decide) (hts _ wm810) (fun _ h9 => h9) rfl dX7_reads_108 ?_
            refine z_imul hx hb dX7_reads_111 ?_
            refine lv_iload_n hx hb dX7_reads_112 rfl (lv_at hl 2 rfl) ?_
            refine z_iadd hx hb dX7_reads_113 ?_
            refine lv_iload_n hx hb dX7_reads_114 rfl (lv_at hl 0 rfl) ?_
            obtain ⟨g_20, h⟩ := gd_e h
            refine z_iast (n := 44) (f := c_parts) (i := ((4 * c_rectangles) + x1)) (x := ((c_text (c_spot).toNat) - 48)) (ws' := (zMo cI cZ h_M q_M c_s c_past c_kept c_isKept c_pasts c_text c_typed c_rect c_item c_items c_itemLevel c_treated c_from c_group c_turn c_size c_old c_aside c_begin c_level c_asides c_sorted (c_spot + 1) c_rectangles (up c_parts ((((4 * c_rectangles) + x1)).toNat) ((c_text (c_spot).toNat) - 48)) c_visited)) hx hb hK hP hD hS 17 rfl rfl g_20 (by have := g_20.2; omega) dX7_reads_115 rfl (fun H locs hP hD hS => ?_)
            refine lv_iload_n hx hb dX7_reads_116 rfl (lv_at hl 0 rfl) ?_
            refine lv_iload_n hx hb dX7_reads_117 rfl (lv_at hl 3 rfl) ?_
            refine z_icmp_lt (tgt := 125) hx hb g_7 g_10 dX7_reads_118 (by decide) (fun b_21 => ?_) (fun b_21 => ?_)
            · have h := it_p b_21 h
              refine lv_iconst (v := Int32.ofInt 0) hx hb dX7_reads_125 rfl ?_
              obtain rfl := Option.some.inj h
              exact z_zret hx hb hr hlk (show narrow .boolean (.int (Int32.ofInt 0)) = .int (Int32.ofInt 0) from by decide) (fun _ _ => 0) hP hD hS dX7_reads_126
            · have h := it_n b_21 h
              refine lv_iconst (v := Int32.ofInt 1) hx hb dX7_reads_121 rfl ?_
              refine lv_goto (tgt := 126) hx hb dX7_reads_122 (by decide) ?_
              obtain rfl := Option.some.inj h
              exact z_zret hx hb hr hlk (show narrow .boolean (.int (Int32.ofInt 1)) = .int (Int32.ofInt 1) from by decide) (fun _ _ => 0) hP hD hS dX7_reads_126
          · have h := it_n b_19 h
            refine lv_bipush (v := Int32.ofInt 10) hx hb dX7_reads_67 (by decide +kernel) ?_
            refine lv_iload_n hx hb dX7_reads_69 rfl (lv_at hl 0 rfl) ?_
            refine z_imul hx hb dX7_reads_70 ?_
            refine lv_aload_n hx hb dX7_reads_71 rfl (lv_at hl 1 rfl) ?_
            refine va_get (D := D) (ci := 7) (v := .ref (q_M 3)) (C := RX7) (T := TX7) (N := 26) hx hb hts zin7 hown hK hP 0 rfl rfl 5 (by decide) (hts _ wm792) (fun _ h9 => h9) rfl dX7_reads_72 ?_
            refine lv_aload_n hx hb dX7_reads_75 rfl (lv_at hl 1 rfl) ?_
            refine va_get (D := D) (ci := 7) (v := vI (c_spot + 1)) (C := RX7) (T := TX7) (N := 26) hx hb hts zin7 hown hK hP 0 rfl rfl 22 (by decide) (hts _ wm809) (fun _ h9 => h9) rfl dX7_reads_76 ?_
            obtain ⟨g_22, h⟩ := gd_e h
            refine z_iald (n := 80) (f := c_text) (i := (c_spot + 1)) hx hb hK hP 4 rfl rfl g_22 (by have := g_22.2; omega) dX7_reads_79 ?_
            refine z_iadd hx hb dX7_reads_80 ?_
            refine lv_bipush (v := Int32.ofInt 48) hx hb dX7_reads_81 (by decide +kernel) ?_
            refine z_isub hx hb dX7_reads_83 ?_
            refine lv_istore_n (lv' := [(3, vI (((10 * ((c_text (c_spot).toNat) - 48)) + (c_text ((c_spot + 1)).toNat)) - 48)), (0, .ref h_M), (1, vI x1), (2, vI x2)]) hx hb dX7_reads_84 rfl hl (by decide) rfl (fun ls hl => ?_)
            refine lv_iload_n hx hb dX7_reads_85 rfl (lv_at hl 0 rfl) ?_
            refine lv_iload_n hx hb dX7_reads_86 rfl (lv_at hl 3 rfl) ?_
            obtain ⟨g_23, h⟩ := gd_e h
            refine z_icmp_ge (tgt := 92) hx hb g_23 g_10 dX7_reads_87 (by decide) (fun b_24 => ?_) (fun b_24 => ?_)
            · have h := it_n b_24 h
              refine lv_aload_n hx hb dX7_reads_92 rfl (lv_at hl 1 rfl) ?_
              refine lv_dup hx hb dX7_reads_93 rfl ?_
              refine va_get (D := D) (ci := 7) (v := vI (c_spot + 1)) (C := RX7) (T := TX7) (N := 26) hx hb hts zin7 hown hK hP 0 rfl rfl 22 (by decide) (hts _ wm809) (fun _ h9 => h9) rfl dX7_reads_94 ?_
              refine lv_iconst (v := Int32.ofInt 1) hx hb dX7_reads_97 rfl ?_
              refine z_iadd hx hb dX7_reads_98 ?_
              refine va_put (D := D) (ci := 7) (v := vI ((c_spot + 1) + 1)) (ty := .int) (C := RX7) (T := TX7) (N := 26) hx hb hts zin7 tyX7 tyX7_ok nmX7 hown hK hP hD hS 0 rfl rfl 22 (by decide) (hts _ wm809) (fun _ h9 => h9) rfl (by decide +kernel) rfl rfl (Nat.le_of_ble_eq_true rfl) dX7_reads_99 (fun H locs hP hD hS => ?_)
              replace hP : va_P D vwCl ((zMo cI cZ h_M q_M c_s c_past c_kept c_isKept c_pasts c_text c_typed c_rect c_item c_items c_itemLevel c_treated c_from c_group c_turn c_size c_old c_aside c_begin c_level c_asides c_sorted ((c_spot + 1) + 1) c_rectangles c_parts c_visited)) H := hP
              replace hD : va_D A ((zMo cI cZ h_M q_M c_s c_past c_kept c_isKept c_pasts c_text c_typed c_rect c_item c_items c_itemLevel c_treated c_from c_group c_turn c_size c_old c_aside c_begin c_level c_asides c_sorted ((c_spot + 1) + 1) c_rectangles c_parts c_visited)) := hD
              refine lv_aload_n hx hb dX7_reads_102 rfl (lv_at hl 1 rfl) ?_
              refine va_get (D := D) (ci := 7) (v := .ref (q_M 16)) (C := RX7) (T := TX7) (N := 26) hx hb hts zin7 hown hK hP 0 rfl rfl 24 (by decide) (hts _ wm811) (fun _ h9 => h9) rfl dX7_reads_103 ?_
              refine lv_iconst (v := Int32.ofInt 4) hx hb dX7_reads_106 rfl ?_
              refine lv_aload_n hx hb dX7_reads_107 rfl (lv_at hl 1 rfl) ?_
              refine va_get (D := D) (ci := 7) (v := vI c_rectangles) (C := RX7) (T := TX7) (N := 26) hx hb hts zin7 hown hK hP 0 rfl rfl 23 (by decide) (hts _ wm810) (fun _ h9 => h9) rfl dX7_reads_108 ?_
              refine z_imul hx hb dX7_reads_111 ?_
              refine lv_iload_n hx hb dX7_reads_112 rfl (lv_at hl 2 rfl) ?_
              refine z_iadd hx hb dX7_reads_113 ?_
              refine lv_iload_n hx hb dX7_reads_114 rfl (lv_at hl 0 rfl) ?_
              obtain ⟨g_25, h⟩ := gd_e h
              refine z_iast (n := 44) (f := c_parts) (i := ((4 * c_rectangles) + x1)) (x := (((10 * ((c_text (c_spot).toNat) - 48)) + (c_text ((c_spot + 1)).toNat)) - 48)) (ws' := (zMo cI cZ h_M q_M c_s c_past c_kept c_isKept c_pasts c_text c_typed c_rect c_item c_items c_itemLevel c_treated c_from c_group c_turn c_size c_old c_aside c_begin c_level c_asides c_sorted ((c_spot + 1) + 1) c_rectangles (up c_parts ((((4 * c_rectangles) + x1)).toNat) (((10 * ((c_text (c_spot).toNat) - 48)) + (c_text ((c_spot + 1)).toNat)) - 48)) c_visited)) hx hb hK hP hD hS 17 rfl rfl g_25 (by have := g_25.2; omega) dX7_reads_115 rfl (fun H locs hP hD hS => ?_)
              refine lv_iload_n hx hb dX7_reads_116 rfl (lv_at hl 0 rfl) ?_
              refine lv_iload_n hx hb dX7_reads_117 rfl (lv_at hl 3 rfl) ?_
              refine z_icmp_lt (tgt := 125) hx hb g_23 g_10 dX7_reads_118 (by decide) (fun b_26 => ?_) (fun b_26 => ?_)
              · have h := it_p b_26 h
                refine lv_iconst (v := Int32.ofInt 0) hx hb dX7_reads_125 rfl ?_
                obtain rfl := Option.some.inj h
                exact z_zret hx hb hr hlk (show narrow .boolean (.int (Int32.ofInt 0)) = .int (Int32.ofInt 0) from by decide) (fun _ _ => 0) hP hD hS dX7_reads_126
              · have h := it_n b_26 h
                refine lv_iconst (v := Int32.ofInt 1) hx hb dX7_reads_121 rfl ?_
                refine lv_goto (tgt := 126) hx hb dX7_reads_122 (by decide) ?_
                obtain rfl := Option.some.inj h
                exact z_zret hx hb hr hlk (show narrow .boolean (.int (Int32.ofInt 1)) = .int (Int32.ofInt 1) from by decide) (fun _ _ => 0) hP hD hS dX7_reads_126
            · have h := it_p b_24 h
              refine lv_iconst (v := Int32.ofInt 0) hx hb dX7_reads_90 rfl ?_
              obtain rfl := Option.some.inj h
              exact z_zret hx hb hr hlk (show narrow .boolean (.int (Int32.ofInt 0)) = .int (Int32.ofInt 0) from by decide) (fun _ _ => 0) hP hD hS dX7_reads_91
      · have h := it_p b_11 h
        refine lv_iconst (v := Int32.ofInt 0) hx hb dX7_reads_44 rfl ?_
        obtain rfl := Option.some.inj h
        exact z_zret hx hb hr hlk (show narrow .boolean (.int (Int32.ofInt 0)) = .int (Int32.ofInt 0) from by decide) (fun _ _ => 0) hP hD hS dX7_reads_45
    · have h := it_p b_8 h
      refine lv_iload_n hx hb dX7_reads_26 rfl (lv_at hl 3 rfl) ?_
      obtain ⟨g_27, h⟩ := gd_e h
      refine z_if_le (tgt := 46) hx hb g_27 dX7_reads_27 (by decide) (fun b_28 => ?_) (fun b_28 => ?_)
      · have h := it_n b_28 h
        refine lv_aload_n hx hb dX7_reads_46 rfl (lv_at hl 1 rfl) ?_
        refine lv_dup hx hb dX7_reads_47 rfl ?_
        refine va_get (D := D) (ci := 7) (v := vI c_spot) (C := RX7) (T := TX7) (N := 26) hx hb hts zin7 hown hK hP 0 rfl rfl 22 (by decide) (hts _ wm809) (fun _ h9 => h9) rfl dX7_reads_48 ?_
        refine lv_iconst (v := Int32.ofInt 1) hx hb dX7_reads_51 rfl ?_
        refine z_iadd hx hb dX7_reads_52 ?_
        refine va_put (D := D) (ci := 7) (v := vI (c_spot + 1)) (ty := .int) (C := RX7) (T := TX7) (N := 26) hx hb hts zin7 tyX7 tyX7_ok nmX7 hown hK hP hD hS 0 rfl rfl 22 (by decide) (hts _ wm809) (fun _ h9 => h9) rfl (by decide +kernel) rfl rfl (Nat.le_of_ble_eq_true rfl) dX7_reads_53 (fun H locs hP hD hS => ?_)
        replace hP : va_P D vwCl ((zMo cI cZ h_M q_M c_s c_past c_kept c_isKept c_pasts c_text c_typed c_rect c_item c_items c_itemLevel c_treated c_from c_group c_turn c_size c_old c_aside c_begin c_level c_asides c_sorted (c_spot + 1) c_rectangles c_parts c_visited)) H := hP
        replace hD : va_D A ((zMo cI cZ h_M q_M c_s c_past c_kept c_isKept c_pasts c_text c_typed c_rect c_item c_items c_itemLevel c_treated c_from c_group c_turn c_size c_old c_aside c_begin c_level c_asides c_sorted (c_spot + 1) c_rectangles c_parts c_visited)) := hD
        refine lv_iload_n hx hb dX7_reads_56 rfl (lv_at hl 0 rfl) ?_
        refine z_if_le (tgt := 102) hx hb g_7 dX7_reads_57 (by decide) (fun b_29 => ?_) (fun b_29 => ?_)
        · have h := it_n b_29 h
          refine lv_aload_n hx hb dX7_reads_102 rfl (lv_at hl 1 rfl) ?_
          refine va_get (D := D) (ci := 7) (v := .ref (q_M 16)) (C := RX7) (T := TX7) (N := 26) hx hb hts zin7 hown hK hP 0 rfl rfl 24 (by decide) (hts _ wm811) (fun _ h9 => h9) rfl dX7_reads_103 ?_
          refine lv_iconst (v := Int32.ofInt 4) hx hb dX7_reads_106 rfl ?_
          refine lv_aload_n hx hb dX7_reads_107 rfl (lv_at hl 1 rfl) ?_
          refine va_get (D := D) (ci := 7) (v := vI c_rectangles) (C := RX7) (T := TX7) (N := 26) hx hb hts zin7 hown hK hP 0 rfl rfl 23 (by decide) (hts _ wm810) (fun _ h9 => h9) rfl dX7_reads_108 ?_
          refine z_imul hx hb dX7_reads_111 ?_
          refine lv_iload_n hx hb dX7_reads_112 rfl (lv_at hl 2 rfl) ?_
          refine z_iadd hx hb dX7_reads_113 ?_
          refine lv_iload_n hx hb dX7_reads_114 rfl (lv_at hl 0 rfl) ?_
          obtain ⟨g_30, h⟩ := gd_e h
          refine z_iast (n := 44) (f := c_parts) (i := ((4 * c_rectangles) + x1)) (x := ((c_text (c_spot).toNat) - 48)) (ws' := (zMo cI cZ h_M q_M c_s c_past c_kept c_isKept c_pasts c_text c_typed c_rect c_item c_items c_itemLevel c_treated c_from c_group c_turn c_size c_old c_aside c_begin c_level c_asides c_sorted (c_spot + 1) c_rectangles (up c_parts ((((4 * c_rectangles) + x1)).toNat) ((c_text (c_spot).toNat) - 48)) c_visited)) hx hb hK hP hD hS 17 rfl rfl g_30 (by have := g_30.2; omega) dX7_reads_115 rfl (fun H locs hP hD hS => ?_)
          refine lv_iload_n hx hb dX7_reads_116 rfl (lv_at hl 0 rfl) ?_
          refine lv_iload_n hx hb dX7_reads_117 rfl (lv_at hl 3 rfl) ?_
          refine z_icmp_lt (tgt := 125) hx hb g_7 g_27 dX7_reads_118 (by decide) (fun b_31 => ?_) (fun b_31 => ?_)
          · have h := it_p b_31 h
            refine lv_iconst (v := Int32.ofInt 0) hx hb dX7_reads_125 rfl ?_
            obtain rfl := Option.some.inj h
            exact z_zret hx hb hr hlk (show narrow .boolean (.int (Int32.ofInt 0)) = .int (Int32.ofInt 0) from by decide) (fun _ _ => 0) hP hD hS dX7_reads_126
          · have h := it_n b_31 h
            refine lv_iconst (v := Int32.ofInt 1) hx hb dX7_reads_121 rfl ?_
            refine lv_goto (tgt := 126) hx hb dX7_reads_122 (by decide) ?_
            obtain rfl := Option.some.inj h
            exact z_zret hx hb hr hlk (show narrow .boolean (.int (Int32.ofInt 1)) = .int (Int32.ofInt 1) from by decide) (fun _ _ => 0) hP hD hS dX7_reads_126
        · have h := it_p b_29 h
          refine lv_aload_n hx hb dX7_reads_60 rfl (lv_at hl 1 rfl) ?_
          obtain ⟨r_32, e_33, h⟩ := bd1_e h
          refine z_goi (ws' := []) (ret := r_32) (wc := (zMo cI cZ (h_M) (q_M) (c_s) (c_past) (c_kept) (c_isKept) (c_pasts) (c_text) (c_typed) (c_rect) (c_item) (c_items) (c_itemLevel) (c_treated) (c_from) (c_group) (c_turn) (c_size) (c_old) (c_aside) (c_begin) (c_level) (c_asides) (c_sorted) ((c_spot + 1)) (c_rectangles) (c_parts) (c_visited))) (wn := fun u_34 => (zMo cI cZ h_M q_M c_s c_past c_kept c_isKept c_pasts c_text c_typed c_rect c_item c_items c_itemLevel c_treated c_from c_group c_turn c_size c_old c_aside c_begin c_level c_asides c_sorted (c_spot + 1) c_rectangles c_parts c_visited)) (wr := []) (va_runV (As := []) (rest := []) hF.1 (c_Mo_isDigit l D cI cZ cT h_M q_M c_s c_past c_kept c_isKept c_pasts c_text c_typed c_rect c_item c_items c_itemLevel c_treated c_from c_group c_turn c_size c_old c_aside c_begin c_level c_asides c_sorted (c_spot + 1) c_rectangles c_parts c_visited H.size (r_32) e_33) (cwV 0 hts (zgV wm1090 wm1092 wm75 wm89 wm1093) rfl rfl rfl (by decide +kernel) ⟨Nat.le_of_ble_eq_true rfl, Nat.le_of_ble_eq_true rfl⟩) ⟨zP.blind, va_recv hK (z_subP (ws' := (zMo cI cZ (h_M) (q_M) (c_s) (c_past) (c_kept) (c_isKept) (c_pasts) (c_text) (c_typed) (c_rect) (c_item) (c_items) (c_itemLevel) (c_treated) (c_from) (c_group) (c_turn) (c_size) (c_old) (c_aside) (c_begin) (c_level) (c_asides) (c_sorted) ((c_spot + 1)) (c_rectangles) (c_parts) (c_visited))) hP [0, 1, 2, 3, 4, 5, 6, 7, 8, 9, 10, 11, 12, 13, 14, 15, 16, 17, 18] rfl) (ci := 7) (q0 := 0) rfl rfl, zP.enter (z_subP (ws' := (zMo cI cZ (h_M) (q_M) (c_s) (c_past) (c_kept) (c_isKept) (c_pasts) (c_text) (c_typed) (c_rect) (c_item) (c_items) (c_itemLevel) (c_treated) (c_from) (c_group) (c_turn) (c_size) (c_old) (c_aside) (c_begin) (c_level) (c_asides) (c_sorted) ((c_spot + 1)) (c_rectangles) (c_parts) (c_visited))) hP [0, 1, 2, 3, 4, 5, 6, 7, 8, 9, 10, 11, 12, 13, 14, 15, 16, 17, 18] rfl) hK (hD.sub [0, 1, 2, 3, 4, 5, 6, 7, 8, 9, 10, 11, 12, 13, 14, 15, 16, 17, 18] (by decide) rfl) hN⟩ rfl rfl hl.1 rfl (lv_room (Nat.le_of_ble_eq_true rfl)) dX7_reads_61 ⟨Nat.le_refl _, Nat.le_refl _⟩) hP hD hS hA [0, 1, 2, 3, 4, 5, 6, 7, 8, 9, 10, 11, 12, 13, 14, 15, 16, 17, 18] [] [0, 1, 2, 3, 4, 5, 6, 7, 8, 9, 10, 11, 12, 13, 14, 15, 16, 17, 18] rfl rfl (by decide) (fun _ => rfl) (fun u_34 H locs hP hD hS hz => ?_)
          obtain ⟨g_35, h⟩ := gd_e h
          refine z_if_eq (tgt := 102) hx hb g_35 dX7_reads_64 (by decide) (fun b_36 => ?_) (fun b_36 => ?_)
          · have h := it_p b_36 h
            refine lv_aload_n hx hb dX7_reads_102 rfl (lv_at hl 1 rfl) ?_
            refine va_get (D := D) (ci := 7) (v := .ref (q_M 16)) (C := RX7) (T := TX7) (N := 26) hx hb hts zin7 hown hK hP 0 rfl rfl 24 (by decide) (hts _ wm811) (fun _ h9 => h9) rfl dX7_reads_103 ?_
            refine lv_iconst (v := Int32.ofInt 4) hx hb dX7_reads_106 rfl ?_
            refine lv_aload_n hx hb dX7_reads_107 rfl (lv_at hl 1 rfl) ?_
            refine va_get (D := D) (ci := 7) (v := vI c_rectangles) (C := RX7) (T := TX7) (N := 26) hx hb hts zin7 hown hK hP 0 rfl rfl 23 (by decide) (hts _ wm810) (fun _ h9 => h9) rfl dX7_reads_108 ?_
            refine z_imul hx hb dX7_reads_111 ?_
            refine lv_iload_n hx hb dX7_reads_112 rfl (lv_at hl 2 rfl) ?_
            refine z_iadd hx hb dX7_reads_113 ?_
            refine lv_iload_n hx hb dX7_reads_114 rfl (lv_at hl 0 rfl) ?_
            obtain ⟨g_37, h⟩ := gd_e h
            refine z_iast (n := 44) (f := c_parts) (i := ((4 * c_rectangles) + x1)) (x := ((c_text (c_spot).toNat) - 48)) (ws' := (zMo cI cZ h_M q_M c_s c_past c_kept c_isKept c_pasts c_text c_typed c_rect c_item c_items c_itemLevel c_treated c_from c_group c_turn c_size c_old c_aside c_begin c_level c_asides c_sorted (c_spot + 1) c_rectangles (up c_parts ((((4 * c_rectangles) + x1)).toNat) ((c_text (c_spot).toNat) - 48)) c_visited)) hx hb hK hP hD hS 17 rfl rfl g_37 (by have := g_37.2; omega) dX7_reads_115 rfl (fun H locs hP hD hS => ?_)
            refine lv_iload_n hx hb dX7_reads_116 rfl (lv_at hl 0 rfl) ?_
            refine lv_iload_n hx hb dX7_reads_117 rfl (lv_at hl 3 rfl) ?_
            refine z_icmp_lt (tgt := 125) hx hb g_7 g_27 dX7_reads_118 (by decide) (fun b_38 => ?_) (fun b_38 => ?_)
            · have h := it_p b_38 h
              refine lv_iconst (v := Int32.ofInt 0) hx hb dX7_reads_125 rfl ?_
              obtain rfl := Option.some.inj h
              exact z_zret hx hb hr hlk (show narrow .boolean (.int (Int32.ofInt 0)) = .int (Int32.ofInt 0) from by decide) (fun _ _ => 0) hP hD hS dX7_reads_126
            · have h := it_n b_38 h
              refine lv_iconst (v := Int32.ofInt 1) hx hb dX7_reads_121 rfl ?_
              refine lv_goto (tgt := 126) hx hb dX7_reads_122 (by decide) ?_
              obtain rfl := Option.some.inj h
              exact z_zret hx hb hr hlk (show narrow .boolean (.int (Int32.ofInt 1)) = .int (Int32.ofInt 1) from by decide) (fun _ _ => 0) hP hD hS dX7_reads_126
          · have h := it_n b_36 h
            refine lv_bipush (v := Int32.ofInt 10) hx hb dX7_reads_67 (by decide +kernel) ?_
            refine lv_iload_n hx hb dX7_reads_69 rfl (lv_at hl 0 rfl) ?_
            refine z_imul hx hb dX7_reads_70 ?_
            refine lv_aload_n hx hb dX7_reads_71 rfl (lv_at hl 1 rfl) ?_
            refine va_get (D := D) (ci := 7) (v := .ref (q_M 3)) (C := RX7) (T := TX7) (N := 26) hx hb hts zin7 hown hK hP 0 rfl rfl 5 (by decide) (hts _ wm792) (fun _ h9 => h9) rfl dX7_reads_72 ?_
            refine lv_aload_n hx hb dX7_reads_75 rfl (lv_at hl 1 rfl) ?_
            refine va_get (D := D) (ci := 7) (v := vI (c_spot + 1)) (C := RX7) (T := TX7) (N := 26) hx hb hts zin7 hown hK hP 0 rfl rfl 22 (by decide) (hts _ wm809) (fun _ h9 => h9) rfl dX7_reads_76 ?_
            obtain ⟨g_39, h⟩ := gd_e h
            refine z_iald (n := 80) (f := c_text) (i := (c_spot + 1)) hx hb hK hP 4 rfl rfl g_39 (by have := g_39.2; omega) dX7_reads_79 ?_
            refine z_iadd hx hb dX7_reads_80 ?_
            refine lv_bipush (v := Int32.ofInt 48) hx hb dX7_reads_81 (by decide +kernel) ?_
            refine z_isub hx hb dX7_reads_83 ?_
            refine lv_istore_n (lv' := [(3, vI (((10 * ((c_text (c_spot).toNat) - 48)) + (c_text ((c_spot + 1)).toNat)) - 48)), (0, .ref h_M), (1, vI x1), (2, vI x2)]) hx hb dX7_reads_84 rfl hl (by decide) rfl (fun ls hl => ?_)
            refine lv_iload_n hx hb dX7_reads_85 rfl (lv_at hl 0 rfl) ?_
            refine lv_iload_n hx hb dX7_reads_86 rfl (lv_at hl 3 rfl) ?_
            obtain ⟨g_40, h⟩ := gd_e h
            refine z_icmp_ge (tgt := 92) hx hb g_40 g_27 dX7_reads_87 (by decide) (fun b_41 => ?_) (fun b_41 => ?_)
            · have h := it_n b_41 h
              refine lv_aload_n hx hb dX7_reads_92 rfl (lv_at hl 1 rfl) ?_
              refine lv_dup hx hb dX7_reads_93 rfl ?_
              refine va_get (D := D) (ci := 7) (v := vI (c_spot + 1)) (C := RX7) (T := TX7) (N := 26) hx hb hts zin7 hown hK hP 0 rfl rfl 22 (by decide) (hts _ wm809) (fun _ h9 => h9) rfl dX7_reads_94 ?_
              refine lv_iconst (v := Int32.ofInt 1) hx hb dX7_reads_97 rfl ?_
              refine z_iadd hx hb dX7_reads_98 ?_
              refine va_put (D := D) (ci := 7) (v := vI ((c_spot + 1) + 1)) (ty := .int) (C := RX7) (T := TX7) (N := 26) hx hb hts zin7 tyX7 tyX7_ok nmX7 hown hK hP hD hS 0 rfl rfl 22 (by decide) (hts _ wm809) (fun _ h9 => h9) rfl (by decide +kernel) rfl rfl (Nat.le_of_ble_eq_true rfl) dX7_reads_99 (fun H locs hP hD hS => ?_)
              replace hP : va_P D vwCl ((zMo cI cZ h_M q_M c_s c_past c_kept c_isKept c_pasts c_text c_typed c_rect c_item c_items c_itemLevel c_treated c_from c_group c_turn c_size c_old c_aside c_begin c_level c_asides c_sorted ((c_spot + 1) + 1) c_rectangles c_parts c_visited)) H := hP
              replace hD : va_D A ((zMo cI cZ h_M q_M c_s c_past c_kept c_isKept c_pasts c_text c_typed c_rect c_item c_items c_itemLevel c_treated c_from c_group c_turn c_size c_old c_aside c_begin c_level c_asides c_sorted ((c_spot + 1) + 1) c_rectangles c_parts c_visited)) := hD
              refine lv_aload_n hx hb dX7_reads_102 rfl (lv_at hl 1 rfl) ?_
              refine va_get (D := D) (ci := 7) (v := .ref (q_M 16)) (C := RX7) (T := TX7) (N := 26) hx hb hts zin7 hown hK hP 0 rfl rfl 24 (by decide) (hts _ wm811) (fun _ h9 => h9) rfl dX7_reads_103 ?_
              refine lv_iconst (v := Int32.ofInt 4) hx hb dX7_reads_106 rfl ?_
              refine lv_aload_n hx hb dX7_reads_107 rfl (lv_at hl 1 rfl) ?_
              refine va_get (D := D) (ci := 7) (v := vI c_rectangles) (C := RX7) (T := TX7) (N := 26) hx hb hts zin7 hown hK hP 0 rfl rfl 23 (by decide) (hts _ wm810) (fun _ h9 => h9) rfl dX7_reads_108 ?_
              refine z_imul hx hb dX7_reads_111 ?_
              refine lv_iload_n hx hb dX7_reads_112 rfl (lv_at hl 2 rfl) ?_
              refine z_iadd hx hb dX7_reads_113 ?_
              refine lv_iload_n hx hb dX7_reads_114 rfl (lv_at hl 0 rfl) ?_
              obtain ⟨g_42, h⟩ := gd_e h
              refine z_iast (n := 44) (f := c_parts) (i := ((4 * c_rectangles) + x1)) (x := (((10 * ((c_text (c_spot).toNat) - 48)) + (c_text ((c_spot + 1)).toNat)) - 48)) (ws' := (zMo cI cZ h_M q_M c_s c_past c_kept c_isKept c_pasts c_text c_typed c_rect c_item c_items c_itemLevel c_treated c_from c_group c_turn c_size c_old c_aside c_begin c_level c_asides c_sorted ((c_spot + 1) + 1) c_rectangles (up c_parts ((((4 * c_rectangles) + x1)).toNat) (((10 * ((c_text (c_spot).toNat) - 48)) + (c_text ((c_spot + 1)).toNat)) - 48)) c_visited)) hx hb hK hP hD hS 17 rfl rfl g_42 (by have := g_42.2; omega) dX7_reads_115 rfl (fun H locs hP hD hS => ?_)
              refine lv_iload_n hx hb dX7_reads_116 rfl (lv_at hl 0 rfl) ?_
              refine lv_iload_n hx hb dX7_reads_117 rfl (lv_at hl 3 rfl) ?_
              refine z_icmp_lt (tgt := 125) hx hb g_40 g_27 dX7_reads_118 (by decide) (fun b_43 => ?_) (fun b_43 => ?_)
              · have h := it_p b_43 h
                refine lv_iconst (v := Int32.ofInt 0) hx hb dX7_reads_125 rfl ?_
                obtain rfl := Option.some.inj h
                exact z_zret hx hb hr hlk (show narrow .boolean (.int (Int32.ofInt 0)) = .int (Int32.ofInt 0) from by decide) (fun _ _ => 0) hP hD hS dX7_reads_126
              · have h := it_n b_43 h
                refine lv_iconst (v := Int32.ofInt 1) hx hb dX7_reads_121 rfl ?_
                refine lv_goto (tgt := 126) hx hb dX7_reads_122 (by decide) ?_
                obtain rfl := Option.some.inj h
                exact z_zret hx hb hr hlk (show narrow .boolean (.int (Int32.ofInt 1)) = .int (Int32.ofInt 1) from by decide) (fun _ _ => 0) hP hD hS dX7_reads_126
            · have h := it_p b_41 h
              refine lv_iconst (v := Int32.ofInt 0) hx hb dX7_reads_90 rfl ?_
              obtain rfl := Option.some.inj h
              exact z_zret hx hb hr hlk (show narrow .boolean (.int (Int32.ofInt 0)) = .int (Int32.ofInt 0) from by decide) (fun _ _ => 0) hP hD hS dX7_reads_91
      · have h := it_p b_28 h
        refine lv_goto (tgt := 44) hx hb dX7_reads_30 (by decide) ?_
        refine lv_iconst (v := Int32.ofInt 0) hx hb dX7_reads_44 rfl ?_
        obtain rfl := Option.some.inj h
        exact z_zret hx hb hr hlk (show narrow .boolean (.int (Int32.ofInt 0)) = .int (Int32.ofInt 0) from by decide) (fun _ _ => 0) hP hD hS dX7_reads_45
  · have h := it_p b_5 h
    refine lv_iconst (v := Int32.ofInt 0) hx hb dX7_reads_7 rfl ?_
    obtain rfl := Option.some.inj h
    exact z_zret hx hb hr hlk (show narrow .boolean (.int (Int32.ofInt 0)) = .int (Int32.ofInt 0) from by decide) (fun _ _ => 0) hP hD hS dX7_reads_8
def f_Mo_readsRectangle_L2 (c_text : Nat → Int) (c_typed : Int) (c_rectangles : Int) (k : Int → Int → (Nat → Int) → Option (Int × Int × Int × (Nat → Int))) : Nat → Int → Int → (Nat → Int) → Option (Int × Int × Int × (Nat → Int))
  | 0, _, _, _ => none
  | n + 1, x1, c_spot, c_parts =>
  gd (ck x1) <| if x1 < 4 then (if 0 < x1 then (gd (ck c_spot) <| gd (ck c_typed) <| if c_spot = c_typed then (some (0, c_spot, c_rectangles, c_parts)) else (gd (0 ≤ c_spot ∧ c_spot < ((80 : Nat) : Int)) <| gd (ck (c_text (c_spot).toNat)) <| if (c_text (c_spot).toNat) = 44 then (if x1 < 2 then (bd3 (f_Mo_reads c_text c_typed (c_spot + 1) c_rectangles c_parts x1 0) <| fun r_35 c_spot_36 c_parts_37 => gd (ck r_35) <| if r_35 = 0 then (some (0, c_spot_36, c_rectangles, c_parts_37)) else (f_Mo_readsRectangle_L2 c_text c_typed c_rectangles k n ((x1 + 1)) (c_spot_36) (c_parts_37))) else (gd (0 ≤ (((4 * c_rectangles) + x1) - 2) ∧ (((4 * c_rectangles) + x1) - 2) < ((44 : Nat) : Int)) <| bd3 (f_Mo_reads c_text c_typed (c_spot + 1) c_rectangles c_parts x1 (c_parts ((((4 * c_rectangles) + x1) - 2)).toNat)) <| fun r_28 c_spot_29 c_parts_30 => gd (ck r_28) <| if r_28 = 0 then (some (0, c_spot_29, c_rectangles, c_parts_30)) else (f_Mo_readsRectangle_L2 c_text c_typed c_rectangles k n ((x1 + 1)) (c_spot_29) (c_parts_30)))) else (some (0, c_spot, c_rectangles, c_parts)))) else (if x1 < 2 then (bd3 (f_Mo_reads c_text c_typed c_spot c_rectangles c_parts x1 0) <| fun r_13 c_spot_14 c_parts_15 => gd (ck r_13) <| if r_13 = 0 then (some (0, c_spot_14, c_rectangles, c_parts_15)) else (f_Mo_readsRectangle_L2 c_text c_typed c_rectangles k n ((x1 + 1)) (c_spot_14) (c_parts_15))) else (gd (0 ≤ (((4 * c_rectangles) + x1) - 2) ∧ (((4 * c_rectangles) + x1) - 2) < ((44 : Nat) : Int)) <| bd3 (f_Mo_reads c_text c_typed c_spot c_rectangles c_parts x1 (c_parts ((((4 * c_rectangles) + x1) - 2)).toNat)) <| fun r_6 c_spot_7 c_parts_8 => gd (ck r_6) <| if r_6 = 0 then (some (0, c_spot_7, c_rectangles, c_parts_8)) else (f_Mo_readsRectangle_L2 c_text c_typed c_rectangles k n ((x1 + 1)) (c_spot_7) (c_parts_8))))) else (k (x1) (c_spot) (c_parts))
def f_Mo_readsRectangle (c_text : Nat → Int) (c_typed : Int) (c_spot : Int) (c_rectangles : Int) (c_parts : Nat → Int) : Option (Int × Int × Int × (Nat → Int)) :=
  f_Mo_readsRectangle_L2 (c_text) (c_typed) (c_rectangles) (fun x1_42 c_spot_43 c_parts_44 => some (1, c_spot_43, (c_rectangles + 1), c_parts_44)) FU (0) (c_spot) (c_parts)
abbrev rm_Mo_readsRectangle : Room := ({ frames := 3, cells := 0, slots := 0, locals := 65 } : Room)
set_option maxHeartbeats 4000000 in
set_option maxRecDepth 100000 in
theorem w_Mo_readsRectangle_L2 {p : Program} {l : Launch} {e : Env} {s : State} {m : MethodId} {args : Array Value} {below : List Frame} {meth : Method} {c : Code} {A : Nat → Prop} (D : va_G) (cI cZ cT : ClassId) (h_M : Nat) (q_M : Nat → Nat) (c_s : Nat → Int) (c_past : Nat → Int) (c_kept : Nat → Int) (c_isKept : Int) (c_pasts : Int) (c_text : Nat → Int) (c_typed : Int) (c_rect : Nat → Int) (c_item : Nat → Int) (c_items : Int) (c_itemLevel : Int) (c_treated : Nat → Int) (c_from : Nat → Int) (c_group : Nat → Int) (c_turn : Nat → Int) (c_size : Nat → Int) (c_old : Nat → Int) (c_aside : Nat → Int) (c_begin : Nat → Int) (c_level : Nat → Int) (c_asides : Int) (c_sorted : Nat → Int) (c_rectangles : Int) (c_visited : Nat → Int) (res : Int × Int × Int × (Nat → Int)) (k : Int → Int → (Nat → Int) → Option (Int × Int × Int × (Nat → Int))) (hF : zF p m c cX7_readsRectangle 2 s args yX7_readsRectangle.cls meth (some .boolean) yX7_readsRectangle.name A D (zt cI cZ cT))
    (hk : ∀ (x1 : Int) (c_spot : Int) (c_parts : Nat → Int) (H : Heap) (locs : List Loc) (ls : Array Slot), k x1 c_spot c_parts = some res → va_P D vwCl ((zMo cI cZ h_M q_M c_s c_past c_kept c_isKept c_pasts c_text c_typed c_rect c_item c_items c_itemLevel c_treated c_from c_group c_turn c_size c_old c_aside c_begin c_level c_asides c_sorted c_spot c_rectangles c_parts c_visited)) H → va_D A ((zMo cI cZ h_M q_M c_s c_past c_kept c_isKept c_pasts c_text c_typed c_rect c_item c_items c_itemLevel c_treated c_from c_group c_turn c_size c_old c_aside c_begin c_level c_asides c_sorted c_spot c_rectangles c_parts c_visited)) → va_S A s.heap H locs → lv_has ls 2 [(0, .ref h_M)] → W p l e rm_Mo_readsRectangle s m args below meth c H locs 0 0 (MQ below (zQi D (res.1) (fun u => (zMo cI cZ h_M q_M c_s c_past c_kept c_isKept c_pasts c_text c_typed c_rect c_item c_items c_itemLevel c_treated c_from c_group c_turn c_size c_old c_aside c_begin c_level c_asides c_sorted (res.2.1) (res.2.2.1) (res.2.2.2) c_visited)) A) args s 0 0 A) (F0 m 88 ls [])) :
    ∀ (n : Nat) (x1 : Int) (c_spot : Int) (c_parts : Nat → Int) (H : Heap) (locs : List Loc) (ls : Array Slot), f_Mo_readsRectangle_L2 c_text c_typed c_rectangles k n x1 c_spot c_parts = some res → va_P D vwCl ((zMo cI cZ h_M q_M c_s c_past c_kept c_isKept c_pasts c_text c_typed c_rect c_item c_items c_itemLevel c_treated c_from c_group c_turn c_size c_old c_aside c_begin c_level c_asides c_sorted c_spot c_rectangles c_parts c_visited)) H → va_D A ((zMo cI cZ h_M q_M c_s c_past c_kept c_isKept c_pasts c_text c_typed c_rect c_item c_items c_itemLevel c_treated c_from c_group c_turn c_size c_old c_aside c_begin c_level c_asides c_sorted c_spot c_rectangles c_parts c_visited)) → va_S A s.heap H locs → lv_has ls 2 [(0, .ref h_M), (1, vI x1)] → W p l e rm_Mo_readsRectangle s m args below meth c H locs 0 0 (MQ below (zQi D (res.1) (fun u => (zMo cI cZ h_M q_M c_s c_past c_kept c_isKept c_pasts c_text c_typed c_rect c_item c_items c_itemLevel c_treated c_from c_group c_turn c_size c_old c_aside c_begin c_level c_asides c_sorted (res.2.1) (res.2.2.1) (res.2.2.2) c_visited)) A) args s 0 0 A) (F0 m 2 ls []) := by
  have hx := hF.1.1
  have hb := hF.1.2.1
  have hml := hF.1.2.2.1
  have hown : s.vm.findClass "RectangleTreeModel" = some m.cls := hF.1.2.2.2.1
  have hts := hF.1.2.2.2.2
  have hr := hF.2.1
  have hlk := hF.2.2.1
  have hK := hF.2.2.2.2.1
  have hN := hF.2.2.2.2.2.1
  have hA := hF.2.2.2.2.2.2
  intro n
  induction n with
  | zero => intro x1 c_spot c_parts H locs ls h; cases h
  | succ n ih =>
    intro x1 c_spot c_parts H locs ls h hP hD hS hl
    rw [f_Mo_readsRectangle_L2] at h
    refine lv_iload_n hx hb dX7_readsRectangle_2 rfl (lv_at hl 1 rfl) ?_
    refine lv_iconst (v := Int32.ofInt 4) hx hb dX7_readsRectangle_3 rfl ?_
    obtain ⟨g_1, h⟩ := gd_e h
    refine z_icmp_ge (tgt := 88) hx hb g_1 (by decide) dX7_readsRectangle_4 (by decide) (fun b_2 => ?_) (fun b_2 => ?_)
    · have h := it_n b_2 h
      exact hk (x1) (c_spot) (c_parts) H locs ls h hP hD hS (lv_sub hl [0] rfl)
    · have h := it_p b_2 h
      refine lv_iload_n hx hb dX7_readsRectangle_7 rfl (lv_at hl 1 rfl) ?_
      refine z_if_le (tgt := 48) hx hb g_1 dX7_readsRectangle_8 (by decide) (fun b_3 => ?_) (fun b_3 => ?_)
      · have h := it_n b_3 h
        refine lv_aload_n hx hb dX7_readsRectangle_48 rfl (lv_at hl 0 rfl) ?_
        refine lv_iload_n hx hb dX7_readsRectangle_49 rfl (lv_at hl 1 rfl) ?_
        refine lv_iload_n hx hb dX7_readsRectangle_50 rfl (lv_at hl 1 rfl) ?_
        refine lv_iconst (v := Int32.ofInt 2) hx hb dX7_readsRectangle_51 rfl ?_
        refine z_icmp_ge (tgt := 59) hx hb g_1 (by decide) dX7_readsRectangle_52 (by decide) (fun b_4 => ?_) (fun b_4 => ?_)
        · have h := it_n b_4 h
          refine lv_aload_n hx hb dX7_readsRectangle_59 rfl (lv_at hl 0 rfl) ?_
          refine va_get (D := D) (ci := 7) (v := .ref (q_M 16)) (C := RX7) (T := TX7) (N := 26) hx hb hts zin7 hown hK hP 0 rfl rfl 24 (by decide) (hts _ wm811) (fun _ h9 => h9) rfl dX7_readsRectangle_60 ?_
          refine lv_iconst (v := Int32.ofInt 4) hx hb dX7_readsRectangle_63 rfl ?_
          refine lv_aload_n hx hb dX7_readsRectangle_64 rfl (lv_at hl 0 rfl) ?_
          refine va_get (D := D) (ci := 7) (v := vI c_rectangles) (C := RX7) (T := TX7) (N := 26) hx hb hts zin7 hown hK hP 0 rfl rfl 23 (by decide) (hts _ wm810) (fun _ h9 => h9) rfl dX7_readsRectangle_65 ?_
          refine z_imul hx hb dX7_readsRectangle_68 ?_
          refine lv_iload_n hx hb dX7_readsRectangle_69 rfl (lv_at hl 1 rfl) ?_
          refine z_iadd hx hb dX7_readsRectangle_70 ?_
          refine lv_iconst (v := Int32.ofInt 2) hx hb dX7_readsRectangle_71 rfl ?_
          refine z_isub hx hb dX7_readsRectangle_72 ?_
          obtain ⟨g_5, h⟩ := gd_e h
          refine z_iald (n := 44) (f := c_parts) (i := (((4 * c_rectangles) + x1) - 2)) hx hb hK hP 17 rfl rfl g_5 (by have := g_5.2; omega) dX7_readsRectangle_73 ?_
          obtain ⟨r_6, c_spot_7, c_parts_8, e_9, h⟩ := bd3_e h
          refine z_goi (ws' := []) (ret := r_6) (wc := (zMo cI cZ (h_M) (q_M) (c_s) (c_past) (c_kept) (c_isKept) (c_pasts) (c_text) (c_typed) (c_rect) (c_item) (c_items) (c_itemLevel) (c_treated) (c_from) (c_group) (c_turn) (c_size) (c_old) (c_aside) (c_begin) (c_level) (c_asides) (c_sorted) (c_spot) (c_rectangles) (c_parts) (c_visited))) (wn := fun u_10 => (zMo cI cZ h_M q_M c_s c_past c_kept c_isKept c_pasts c_text c_typed c_rect c_item c_items c_itemLevel c_treated c_from c_group c_turn c_size c_old c_aside c_begin c_level c_asides c_sorted c_spot_7 c_rectangles c_parts_8 c_visited)) (wr := []) (va_runV (As := [vI x1, vI (c_parts ((((4 * c_rectangles) + x1) - 2)).toNat)]) (rest := []) hF.1 (c_Mo_reads l D cI cZ cT h_M q_M c_s c_past c_kept c_isKept c_pasts c_text c_typed c_rect c_item c_items c_itemLevel c_treated c_from c_group c_turn c_size c_old c_aside c_begin c_level c_asides c_sorted c_spot c_rectangles c_parts c_visited x1 (c_parts ((((4 * c_rectangles) + x1) - 2)).toNat) H.size (r_6, c_spot_7, c_parts_8) e_9) (cwV 2 hts (zgV wm1086 wm1088 wm74 wm89 wm1089) rfl rfl rfl (by decide +kernel) ⟨Nat.le_of_ble_eq_true rfl, Nat.le_of_ble_eq_true rfl⟩) ⟨zP.blind, va_recv hK (z_subP (ws' := (zMo cI cZ (h_M) (q_M) (c_s) (c_past) (c_kept) (c_isKept) (c_pasts) (c_text) (c_typed) (c_rect) (c_item) (c_items) (c_itemLevel) (c_treated) (c_from) (c_group) (c_turn) (c_size) (c_old) (c_aside) (c_begin) (c_level) (c_asides) (c_sorted) (c_spot) (c_rectangles) (c_parts) (c_visited))) hP [0, 1, 2, 3, 4, 5, 6, 7, 8, 9, 10, 11, 12, 13, 14, 15, 16, 17, 18] rfl) (ci := 7) (q0 := 0) rfl rfl, zP.enter (z_subP (ws' := (zMo cI cZ (h_M) (q_M) (c_s) (c_past) (c_kept) (c_isKept) (c_pasts) (c_text) (c_typed) (c_rect) (c_item) (c_items) (c_itemLevel) (c_treated) (c_from) (c_group) (c_turn) (c_size) (c_old) (c_aside) (c_begin) (c_level) (c_asides) (c_sorted) (c_spot) (c_rectangles) (c_parts) (c_visited))) hP [0, 1, 2, 3, 4, 5, 6, 7, 8, 9, 10, 11, 12, 13, 14, 15, 16, 17, 18] rfl) hK (hD.sub [0, 1, 2, 3, 4, 5, 6, 7, 8, 9, 10, 11, 12, 13, 14, 15, 16, 17, 18] (by decide) rfl) hN⟩ rfl rfl hl.1 rfl (lv_room (Nat.le_of_ble_eq_true rfl)) dX7_readsRectangle_74 ⟨Nat.le_refl _, Nat.le_refl _⟩) hP hD hS hA [0, 1, 2, 3, 4, 5, 6, 7, 8, 9, 10, 11, 12, 13, 14, 15, 16, 17, 18] [] [0, 1, 2, 3, 4, 5, 6, 7, 8, 9, 10, 11, 12, 13, 14, 15, 16, 17, 18] rfl rfl (by decide) (fun _ => rfl) (fun u_10 H locs hP hD hS hz => ?_)
          obtain ⟨g_11, h⟩ := gd_e h
          refine z_if_ne (tgt := 82) hx hb g_11 dX7_readsRectangle_77 (by decide) (fun b_12 => ?_) (fun b_12 => ?_)
          · have h := it_n b_12 h
            refine lv_iinc (v := Int32.ofInt (x1 + 1)) (lv' := [(1, vI (x1 + 1)), (0, .ref h_M)]) hx hb dX7_readsRectangle_82 hl (k := 1) rfl (z_inc _ _) (by decide) rfl (fun ls hl => ?_)
            refine lv_goto (tgt := 2) hx hb dX7_readsRectangle_85 (by decide) ?_
            exact ih ((x1 + 1)) (c_spot_7) (c_parts_8) H locs ls h hP hD hS (lv_sub hl [1, 0] rfl)
          · have h := it_p b_12 h
            refine lv_iconst (v := Int32.ofInt 0) hx hb dX7_readsRectangle_80 rfl ?_
            obtain rfl := Option.some.inj h
            exact z_zret hx hb hr hlk (show narrow .boolean (.int (Int32.ofInt 0)) = .int (Int32.ofInt 0) from by decide) (fun _ _ => 0) hP hD hS dX7_readsRectangle_81
        · have h := it_p b_4 h
          refine lv_iconst (v := Int32.ofInt 0) hx hb dX7_readsRectangle_55 rfl ?_
          refine lv_goto (tgt := 74) hx hb dX7_readsRectangle_56 (by decide) ?_
          obtain ⟨r_13, c_spot_14, c_parts_15, e_16, h⟩ := bd3_e h
          refine z_goi (ws' := []) (ret := r_13) (wc := (zMo cI cZ (h_M) (q_M) (c_s) (c_past) (c_kept) (c_isKept) (c_pasts) (c_text) (c_typed) (c_rect) (c_item) (c_items) (c_itemLevel) (c_treated) (c_from) (c_group) (c_turn) (c_size) (c_old) (c_aside) (c_begin) (c_level) (c_asides) (c_sorted) (c_spot) (c_rectangles) (c_parts) (c_visited))) (wn := fun u_17 => (zMo cI cZ h_M q_M c_s c_past c_kept c_isKept c_pasts c_text c_typed c_rect c_item c_items c_itemLevel c_treated c_from c_group c_turn c_size c_old c_aside c_begin c_level c_asides c_sorted c_spot_14 c_rectangles c_parts_15 c_visited)) (wr := []) (va_runV (As := [vI x1, vI 0]) (rest := []) hF.1 (c_Mo_reads l D cI cZ cT h_M q_M c_s c_past c_kept c_isKept c_pasts c_text c_typed c_rect c_item c_items c_itemLevel c_treated c_from c_group c_turn c_size c_old c_aside c_begin c_level c_asides c_sorted c_spot c_rectangles c_parts c_visited x1 0 H.size (r_13, c_spot_14, c_parts_15) e_16) (cwV 2 hts (zgV wm1086 wm1088 wm74 wm89 wm1089) rfl rfl rfl (by decide +kernel) ⟨Nat.le_of_ble_eq_true rfl, Nat.le_of_ble_eq_true rfl⟩) ⟨zP.blind, va_recv hK (z_subP (ws' := (zMo cI cZ (h_M) (q_M) (c_s) (c_past) (c_kept) (c_isKept) (c_pasts) (c_text) (c_typed) (c_rect) (c_item) (c_items) (c_itemLevel) (c_treated) (c_from) (c_group) (c_turn) (c_size) (c_old) (c_aside) (c_begin) (c_level) (c_asides) (c_sorted) (c_spot) (c_rectangles) (c_parts) (c_visited))) hP [0, 1, 2, 3, 4, 5, 6, 7, 8, 9, 10, 11, 12, 13, 14, 15, 16, 17, 18] rfl) (ci := 7) (q0 := 0) rfl rfl, zP.enter (z_subP (ws' := (zMo cI cZ (h_M) (q_M) (c_s) (c_past) (c_kept) (c_isKept) (c_pasts) (c_text) (c_typed) (c_rect) (c_item) (c_items) (c_itemLevel) (c_treated) (c_from) (c_group) (c_turn) (c_size) (c_old) (c_aside) (c_begin) (c_level) (c_asides) (c_sorted) (c_spot) (c_rectangles) (c_parts) (c_visited))) hP [0, 1, 2, 3, 4, 5, 6, 7, 8, 9, 10, 11, 12, 13, 14, 15, 16, 17, 18] rfl) hK (hD.sub [0, 1, 2, 3, 4, 5, 6, 7, 8, 9, 10, 11, 12, 13, 14, 15, 16, 17, 18] (by decide) rfl) hN⟩ rfl rfl hl.1 rfl (lv_room (Nat.le_of_ble_eq_true rfl)) dX7_readsRectangle_74 ⟨Nat.le_refl _, Nat.le_refl _⟩) hP hD hS hA [0, 1, 2, 3, 4, 5, 6, 7, 8, 9, 10, 11, 12, 13, 14, 15, 16, 17, 18] [] [0, 1, 2, 3, 4, 5, 6, 7, 8, 9, 10, 11, 12, 13, 14, 15, 16, 17, 18] rfl rfl (by decide) (fun _ => rfl) (fun u_17 H locs hP hD hS hz => ?_)
          obtain ⟨g_18, h⟩ := gd_e h
          refine z_if_ne (tgt := 82) hx hb g_18 dX7_readsRectangle_77 (by decide) (fun b_19 => ?_) (fun b_19 => ?_)
          · have h := it_n b_19 h
            refine lv_iinc (v := Int32.ofInt (x1 + 1)) (lv' := [(1, vI (x1 + 1)), (0, .ref h_M)]) hx hb dX7_readsRectangle_82 hl (k := 1) rfl (z_inc _ _) (by decide) rfl (fun ls hl => ?_)
            refine lv_goto (tgt := 2) hx hb dX7_readsRectangle_85 (by decide) ?_
            exact ih ((x1 + 1)) (c_spot_14) (c_parts_15) H locs ls h hP hD hS (lv_sub hl [1, 0] rfl)
          · have h := it_p b_19 h
            refine lv_iconst (v := Int32.ofInt 0) hx hb dX7_readsRectangle_80 rfl ?_
            obtain rfl := Option.some.inj h
            exact z_zret hx hb hr hlk (show narrow .boolean (.int (Int32.ofInt 0)) = .int (Int32.ofInt 0) from by decide) (fun _ _ => 0) hP hD hS dX7_readsRectangle_81
      · have h := it_p b_3 h
        refine lv_aload_n hx hb dX7_readsRectangle_11 rfl (lv_at hl 0 rfl) ?_
        refine va_get (D := D) (ci := 7) (v := vI c_spot) (C := RX7) (T := TX7) (N := 26) hx hb hts zin7 hown hK hP 0 rfl rfl 22 (by decide) (hts _ wm809) (fun _ h9 => h9) rfl dX7_readsRectangle_12 ?_
        refine lv_aload_n hx hb dX7_readsRectangle_15 rfl (lv_at hl 0 rfl) ?_
        refine va_get (D := D) (ci := 7) (v := vI c_typed) (C := RX7) (T := TX7) (N := 26) hx hb hts zin7 hown hK hP 0 rfl rfl 6 (by decide) (hts _ wm793) (fun _ h9 => h9) rfl dX7_readsRectangle_16 ?_
        obtain ⟨g_20, h⟩ := gd_e h
        obtain ⟨g_21, h⟩ := gd_e h
        refine z_icmp_eq (tgt := 36) hx hb g_20 g_21 dX7_readsRectangle_19 (by decide) (fun b_22 => ?_) (fun b_22 => ?_)
        · have h := it_p b_22 h
          refine lv_iconst (v := Int32.ofInt 0) hx hb dX7_readsRectangle_36 rfl ?_
          obtain rfl := Option.some.inj h
          exact z_zret hx hb hr hlk (show narrow .boolean (.int (Int32.ofInt 0)) = .int (Int32.ofInt 0) from by decide) (fun _ _ => 0) hP hD hS dX7_readsRectangle_37
        · have h := it_n b_22 h
          refine lv_aload_n hx hb dX7_readsRectangle_22 rfl (lv_at hl 0 rfl) ?_
          refine va_get (D := D) (ci := 7) (v := .ref (q_M 3)) (C := RX7) (T := TX7) (N := 26) hx hb hts zin7 hown hK hP 0 rfl rfl 5 (by decide) (hts _ wm792) (fun _ h9 => h9) rfl dX7_readsRectangle_23 ?_
          refine lv_aload_n hx hb dX7_readsRectangle_26 rfl (lv_at hl 0 rfl) ?_
          refine va_get (D := D) (ci := 7) (v := vI c_spot) (C := RX7) (T := TX7) (N := 26) hx hb hts zin7 hown hK hP 0 rfl rfl 22 (by decide) (hts _ wm809) (fun _ h9 => h9) rfl dX7_readsRectangle_27 ?_
          obtain ⟨g_23, h⟩ := gd_e h
          refine z_iald (n := 80) (f := c_text) (i := c_spot) hx hb hK hP 4 rfl rfl g_23 (by have := g_23.2; omega) dX7_readsRectangle_30 ?_
          refine lv_bipush (v := Int32.ofInt 44) hx hb dX7_readsRectangle_31 (by decide +kernel) ?_
          obtain ⟨g_24, h⟩ := gd_e h
          refine z_icmp_eq (tgt := 38) hx hb g_24 (by decide) dX7_readsRectangle_33 (by decide) (fun b_25 => ?_) (fun b_25 => ?_)
          · have h := it_p b_25 h
            refine lv_aload_n hx hb dX7_readsRectangle_38 rfl (lv_at hl 0 rfl) ?_
            refine lv_dup hx hb dX7_readsRectangle_39 rfl ?_
            refine va_get (D := D) (ci := 7) (v := vI c_spot) (C := RX7) (T := TX7) (N := 26) hx hb hts zin7 hown hK hP 0 rfl rfl 22 (by decide) (hts _ wm809) (fun _ h9 => h9) rfl dX7_readsRectangle_40 ?_
            refine lv_iconst (v := Int32.ofInt 1) hx hb dX7_readsRectangle_43 rfl ?_
            refine z_iadd hx hb dX7_readsRectangle_44 ?_
            refine va_put (D := D) (ci := 7) (v := vI (c_spot + 1)) (ty := .int) (C := RX7) (T := TX7) (N := 26) hx hb hts zin7 tyX7 tyX7_ok nmX7 hown hK hP hD hS 0 rfl rfl 22 (by decide) (hts _ wm809) (fun _ h9 => h9) rfl (by decide +kernel) rfl rfl (Nat.le_of_ble_eq_true rfl) dX7_readsRectangle_45 (fun H locs hP hD hS => ?_)
            replace hP : va_P D vwCl ((zMo cI cZ h_M q_M c_s c_past c_kept c_isKept c_pasts c_text c_typed c_rect c_item c_items c_itemLevel c_treated c_from c_group c_turn c_size c_old c_aside c_begin c_level c_asides c_sorted (c_spot + 1) c_rectangles c_parts c_visited)) H := hP
            replace hD : va_D A ((zMo cI cZ h_M q_M c_s c_past c_kept c_isKept c_pasts c_text c_typed c_rect c_item c_items c_itemLevel c_treated c_from c_group c_turn c_size c_old c_aside c_begin c_level c_asides c_sorted (c_spot + 1) c_rectangles c_parts c_visited)) := hD
            refine lv_aload_n hx hb dX7_readsRectangle_48 rfl (lv_at hl 0 rfl) ?_
            refine lv_iload_n hx hb dX7_readsRectangle_49 rfl (lv_at hl 1 rfl) ?_
            refine lv_iload_n hx hb dX7_readsRectangle_50 rfl (lv_at hl 1 rfl) ?_
            refine lv_iconst (v := Int32.ofInt 2) hx hb dX7_readsRectangle_51 rfl ?_
            refine z_icmp_ge (tgt := 59) hx hb g_1 (by decide) dX7_readsRectangle_52 (by decide) (fun b_26 => ?_) (fun b_26 => ?_)
            · have h := it_n b_26 h
              refine lv_aload_n hx hb dX7_readsRectangle_59 rfl (lv_at hl 0 rfl) ?_
              refine va_get (D := D) (ci := 7) (v := .ref (q_M 16)) (C := RX7) (T := TX7) (N := 26) hx hb hts zin7 hown hK hP 0 rfl rfl 24 (by decide) (hts _ wm811) (fun _ h9 => h9) rfl dX7_readsRectangle_60 ?_
              refine lv_iconst (v := Int32.ofInt 4) hx hb dX7_readsRectangle_63 rfl ?_
              refine lv_aload_n hx hb dX7_readsRectangle_64 rfl (lv_at hl 0 rfl) ?_
              refine va_get (D := D) (ci := 7) (v := vI c_rectangles) (C := RX7) (T := TX7) (N := 26) hx hb hts zin7 hown hK hP 0 rfl rfl 23 (by decide) (hts _ wm810) (fun _ h9 => h9) rfl dX7_readsRectangle_65 ?_
              refine z_imul hx hb dX7_readsRectangle_68 ?_
              refine lv_iload_n hx hb dX7_readsRectangle_69 rfl (lv_at hl 1 rfl) ?_
              refine z_iadd hx hb dX7_readsRectangle_70 ?_
              refine lv_iconst (v := Int32.ofInt 2) hx hb dX7_readsRectangle_71 rfl ?_
              refine z_isub hx hb dX7_readsRectangle_72 ?_
              obtain ⟨g_27, h⟩ := gd_e h
              refine z_iald (n := 44) (f := c_parts) (i := (((4 * c_rectangles) + x1) - 2)) hx hb hK hP 17 rfl rfl g_27 (by have := g_27.2; omega) dX7_readsRectangle_73 ?_
              obtain ⟨r_28, c_spot_29, c_parts_30, e_31, h⟩ := bd3_e h
              refine z_goi (ws' := []) (ret := r_28) (wc := (zMo cI cZ (h_M) (q_M) (c_s) (c_past) (c_kept) (c_isKept) (c_pasts) (c_text) (c_typed) (c_rect) (c_item) (c_items) (c_itemLevel) (c_treated) (c_from) (c_group) (c_turn) (c_size) (c_old) (c_aside) (c_begin) (c_level) (c_asides) (c_sorted) ((c_spot + 1)) (c_rectangles) (c_parts) (c_visited))) (wn := fun u_32 => (zMo cI cZ h_M q_M c_s c_past c_kept c_isKept c_pasts c_text c_typed c_rect c_item c_items c_itemLevel c_treated c_from c_group c_turn c_size c_old c_aside c_begin c_level c_asides c_sorted c_spot_29 c_rectangles c_parts_30 c_visited)) (wr := []) (va_runV (As := [vI x1, vI (c_parts ((((4 * c_rectangles) + x1) - 2)).toNat)]) (rest := []) hF.1 (c_Mo_reads l D cI cZ cT h_M q_M c_s c_past c_kept c_isKept c_pasts c_text c_typed c_rect c_item c_items c_itemLevel c_treated c_from c_group c_turn c_size c_old c_aside c_begin c_level c_asides c_sorted (c_spot + 1) c_rectangles c_parts c_visited x1 (c_parts ((((4 * c_rectangles) + x1) - 2)).toNat) H.size (r_28, c_spot_29, c_parts_30) e_31) (cwV 2 hts (zgV wm1086 wm1088 wm74 wm89 wm1089) rfl rfl rfl (by decide +kernel) ⟨Nat.le_of_ble_eq_true rfl, Nat.le_of_ble_eq_true rfl⟩) ⟨zP.blind, va_recv hK (z_subP (ws' := (zMo cI cZ (h_M) (q_M) (c_s) (c_past) (c_kept) (c_isKept) (c_pasts) (c_text) (c_typed) (c_rect) (c_item) (c_items) (c_itemLevel) (c_treated) (c_from) (c_group) (c_turn) (c_size) (c_old) (c_aside) (c_begin) (c_level) (c_asides) (c_sorted) ((c_spot + 1)) (c_rectangles) (c_parts) (c_visited))) hP [0, 1, 2, 3, 4, 5, 6, 7, 8, 9, 10, 11, 12, 13, 14, 15, 16, 17, 18] rfl) (ci := 7) (q0 := 0) rfl rfl, zP.enter (z_subP (ws' := (zMo cI cZ (h_M) (q_M) (c_s) (c_past) (c_kept) (c_isKept) (c_pasts) (c_text) (c_typed) (c_rect) (c_item) (c_items) (c_itemLevel) (c_treated) (c_from) (c_group) (c_turn) (c_size) (c_old) (c_aside) (c_begin) (c_level) (c_asides) (c_sorted) ((c_spot + 1)) (c_rectangles) (c_parts) (c_visited))) hP [0, 1, 2, 3, 4, 5, 6, 7, 8, 9, 10, 11, 12, 13, 14, 15, 16, 17, 18] rfl) hK (hD.sub [0, 1, 2, 3, 4, 5, 6, 7, 8, 9, 10, 11, 12, 13, 14, 15, 16, 17, 18] (by decide) rfl) hN⟩ rfl rfl hl.1 rfl (lv_room (Nat.le_of_ble_eq_true rfl)) dX7_readsRectangle_74 ⟨Nat.le_refl _, Nat.le_refl _⟩) hP hD hS hA [0, 1, 2, 3, 4, 5, 6, 7, 8, 9, 10, 11, 12, 13, 14, 15, 16, 17, 18] [] [0, 1, 2, 3, 4, 5, 6, 7, 8, 9, 10, 11, 12, 13, 14, 15, 16, 17, 18] rfl rfl (by decide) (fun _ => rfl) (fun u_32 H locs hP hD hS hz => ?_)
              obtain ⟨g_33, h⟩ := gd_e h
              refine z_if_ne (tgt := 82) hx hb g_33 dX7_readsRectangle_77 (by decide) (fun b_34 => ?_) (fun b_34 => ?_)
              · have h := it_n b_34 h
                refine lv_iinc (v := Int32.ofInt (x1 + 1)) (lv' := [(1, vI (x1 + 1)), (0, .ref h_M)]) hx hb dX7_readsRectangle_82 hl (k := 1) rfl (z_inc _ _) (by decide) rfl (fun ls hl => ?_)
                refine lv_goto (tgt := 2) hx hb dX7_readsRectangle_85 (by decide) ?_
                exact ih ((x1 + 1)) (c_spot_29) (c_parts_30) H locs ls h hP hD hS (lv_sub hl [1, 0] rfl)
              · have h := it_p b_34 h
                refine lv_iconst (v := Int32.ofInt 0) hx hb dX7_readsRectangle_80 rfl ?_
                obtain rfl := Option.some.inj h
                exact z_zret hx hb hr hlk (show narrow .boolean (.int (Int32.ofInt 0)) = .int (Int32.ofInt 0) from by decide) (fun _ _ => 0) hP hD hS dX7_readsRectangle_81
            · have h := it_p b_26 h
              refine lv_iconst (v := Int32.ofInt 0) hx hb dX7_readsRectangle_55 rfl ?_
              refine lv_goto (tgt := 74) hx hb dX7_readsRectangle_56 (by decide) ?_
              obtain ⟨r_35, c_spot_36, c_parts_37, e_38, h⟩ := bd3_e h
              refine z_goi (ws' := []) (ret := r_35) (wc := (zMo cI cZ (h_M) (q_M) (c_s) (c_past) (c_kept) (c_isKept) (c_pasts) (c_text) (c_typed) (c_rect) (c_item) (c_items) (c_itemLevel) (c_treated) (c_from) (c_group) (c_turn) (c_size) (c_old) (c_aside) (c_begin) (c_level) (c_asides) (c_sorted) ((c_spot + 1)) (c_rectangles) (c_parts) (c_visited))) (wn := fun u_39 => (zMo cI cZ h_M q_M c_s c_past c_kept c_isKept c_pasts c_text c_typed c_rect c_item c_items c_itemLevel c_treated c_from c_group c_turn c_size c_old c_aside c_begin c_level c_asides c_sorted c_spot_36 c_rectangles c_parts_37 c_visited)) (wr := []) (va_runV (As := [vI x1, vI 0]) (rest := []) hF.1 (c_Mo_reads l D cI cZ cT h_M q_M c_s c_past c_kept c_isKept c_pasts c_text c_typed c_rect c_item c_items c_itemLevel c_treated c_from c_group c_turn c_size c_old c_aside c_begin c_level c_asides c_sorted (c_spot + 1) c_rectangles c_parts c_visited x1 0 H.size (r_35, c_spot_36, c_parts_37) e_38) (cwV 2 hts (zgV wm1086 wm1088 wm74 wm89 wm1089) rfl rfl rfl (by decide +kernel) ⟨Nat.le_of_ble_eq_true rfl, Nat.le_of_ble_eq_true rfl⟩) ⟨zP.blind, va_recv hK (z_subP (ws' := (zMo cI cZ (h_M) (q_M) (c_s) (c_past) (c_kept) (c_isKept) (c_pasts) (c_text) (c_typed) (c_rect) (c_item) (c_items) (c_itemLevel) (c_treated) (c_from) (c_group) (c_turn) (c_size) (c_old) (c_aside) (c_begin) (c_level) (c_asides) (c_sorted) ((c_spot + 1)) (c_rectangles) (c_parts) (c_visited))) hP [0, 1, 2, 3, 4, 5, 6, 7, 8, 9, 10, 11, 12, 13, 14, 15, 16, 17, 18] rfl) (ci := 7) (q0 := 0) rfl rfl, zP.enter (z_subP (ws' := (zMo cI cZ (h_M) (q_M) (c_s) (c_past) (c_kept) (c_isKept) (c_pasts) (c_text) (c_typed) (c_rect) (c_item) (c_items) (c_itemLevel) (c_treated) (c_from) (c_group) (c_turn) (c_size) (c_old) (c_aside) (c_begin) (c_level) (c_asides) (c_sorted) ((c_spot + 1)) (c_rectangles) (c_parts) (c_visited))) hP [0, 1, 2, 3, 4, 5, 6, 7, 8, 9, 10, 11, 12, 13, 14, 15, 16, 17, 18] rfl) hK (hD.sub [0, 1, 2, 3, 4, 5, 6, 7, 8, 9, 10, 11, 12, 13, 14, 15, 16, 17, 18] (by decide) rfl) hN⟩ rfl rfl hl.1 rfl (lv_room (Nat.le_of_ble_eq_true rfl)) dX7_readsRectangle_74 ⟨Nat.le_refl _, Nat.le_refl _⟩) hP hD hS hA [0, 1, 2, 3, 4, 5, 6, 7, 8, 9, 10, 11, 12, 13, 14, 15, 16, 17, 18] [] [0, 1, 2, 3, 4, 5, 6, 7, 8, 9, 10, 11, 12, 13, 14, 15, 16, 17, 18] rfl rfl (by decide) (fun _ => rfl) (fun u_39 H locs hP hD hS hz => ?_)
              obtain ⟨g_40, h⟩ := gd_e h
              refine z_if_ne (tgt := 82) hx hb g_40 dX7_readsRectangle_77 (by decide) (fun b_41 => ?_) (fun b_41 => ?_)
              · have h := it_n b_41 h
                refine lv_iinc (v := Int32.ofInt (x1 + 1)) (lv' := [(1, vI (x1 + 1)), (0, .ref h_M)]) hx hb dX7_readsRectangle_82 hl (k := 1) rfl (z_inc _ _) (by decide) rfl (fun ls hl => ?_)
                refine lv_goto (tgt := 2) hx hb dX7_readsRectangle_85 (by decide) ?_
                exact ih ((x1 + 1)) (c_spot_36) (c_parts_37) H locs ls h hP hD hS (lv_sub hl [1, 0] rfl)
              · have h := it_p b_41 h
                refine lv_iconst (v := Int32.ofInt 0) hx hb dX7_readsRectangle_80 rfl ?_
                obtain rfl := Option.some.inj h
                exact z_zret hx hb hr hlk (show narrow .boolean (.int (Int32.ofInt 0)) = .int (Int32.ofInt 0) from by decide) (fun _ _ => 0) hP hD hS dX7_readsRectangle_81
          · have h := it_n b_25 h
            refine lv_iconst (v := Int32.ofInt 0) hx hb dX7_readsRectangle_36 rfl ?_
            obtain rfl := Option.some.inj h
            exact z_zret hx hb hr hlk (show narrow .boolean (.int (Int32.ofInt 0)) = .int (Int32.ofInt 0) from by decide) (fun _ _ => 0) hP hD hS dX7_readsRectangle_37
set_option maxHeartbeats 4000000 in
set_option maxRecDepth 100000 in
theorem c_Mo_readsRectangle (l : Launch) (D : va_G) (cI cZ cT : ClassId) (h_M : Nat) (q_M : Nat → Nat) (c_s : Nat → Int) (c_past : Nat → Int) (c_kept : Nat → Int) (c_isKept : Int) (c_pasts : Int) (c_text : Nat → Int) (c_typed : Int) (c_rect : Nat → Int) (c_item : Nat → Int) (c_items : Int) (c_itemLevel : Int) (c_treated : Nat → Int) (c_from : Nat → Int) (c_group : Nat → Int) (c_turn : Nat → Int) (c_size : Nat → Int) (c_old : Nat → Int) (c_aside : Nat → Int) (c_begin : Nat → Int) (c_level : Nat → Int) (c_asides : Int) (c_sorted : Nat → Int) (c_spot : Int) (c_rectangles : Int) (c_parts : Nat → Int) (c_visited : Nat → Int) (sz : Nat) (res : Int × Int × Int × (Nat → Int)) (h : f_Mo_readsRectangle c_text c_typed c_spot c_rectangles c_parts = some res) : zMz l yX7_readsRectangle cX7_readsRectangle 2 rm_Mo_readsRectangle D (zt cI cZ cT) [.ref h_M] ((zMo cI cZ h_M q_M c_s c_past c_kept c_isKept c_pasts c_text c_typed c_rect c_item c_items c_itemLevel c_treated c_from c_group c_turn c_size c_old c_aside c_begin c_level c_asides c_sorted c_spot c_rectangles c_parts c_visited)) sz (res.1) (fun u => (zMo cI cZ h_M q_M c_s c_past c_kept c_isKept c_pasts c_text c_typed c_rect c_item c_items c_itemLevel c_treated c_from c_group c_turn c_size c_old c_aside c_begin c_level c_asides c_sorted (res.2.1) (res.2.2.1) (res.2.2.2) c_visited)) 0 0 := by
  refine z_enth (Qc := zQi D (res.1) (fun u => (zMo cI cZ h_M q_M c_s c_past c_kept c_isKept c_pasts c_text c_typed c_rect c_item c_items c_itemLevel c_treated c_from c_group c_turn c_size c_old c_aside c_begin c_level c_asides c_sorted (res.2.1) (res.2.2.1) (res.2.2.2) c_visited))) (by decide) (Nat.le_of_ble_eq_true rfl) (fun p e s m args below meth c A ls H locs hF hP hD hS hl => ?_)
  have hx := hF.1.1
  have hb := hF.1.2.1
  have hml := hF.1.2.2.1
  have hown : s.vm.findClass "RectangleTreeModel" = some m.cls := hF.1.2.2.2.1
  have hts := hF.1.2.2.2.2
  have hr := hF.2.1
  have hlk := hF.2.2.1
  have hK := hF.2.2.2.2.1
  have hN := hF.2.2.2.2.2.1
  have hA := hF.2.2.2.2.2.2
  unfold f_Mo_readsRectangle at h
  refine lv_iconst (v := Int32.ofInt 0) hx hb dX7_readsRectangle_0 rfl ?_
  refine lv_istore_n (lv' := [(1, vI 0), (0, .ref h_M)]) hx hb dX7_readsRectangle_1 rfl hl (by decide) rfl (fun ls hl => ?_)
  refine w_Mo_readsRectangle_L2 D cI cZ cT (h_M) (q_M) (c_s) (c_past) (c_kept) (c_isKept) (c_pasts) (c_text) (c_typed) (c_rect) (c_item) (c_items) (c_itemLevel) (c_treated) (c_from) (c_group) (c_turn) (c_size) (c_old) (c_aside) (c_begin) (c_level) (c_asides) (c_sorted) (c_rectangles) (c_visited) _ _ hF (fun x1_42 c_spot_43 c_parts_44 H locs ls h hP hD hS hl => ?_) _ (0) (c_spot) (c_parts) _ _ _ h hP hD hS (lv_sub hl [1, 0] rfl)
  refine lv_aload_n hx hb dX7_readsRectangle_88 rfl (lv_at hl 0 rfl) ?_
  refine lv_dup hx hb dX7_readsRectangle_89 rfl ?_
  refine va_get (D := D) (ci := 7) (v := vI c_rectangles) (C := RX7) (T := TX7) (N := 26) hx hb hts zin7 hown hK hP 0 rfl rfl 23 (by decide) (hts _ wm810) (fun _ h9 => h9) rfl dX7_readsRectangle_90 ?_
  refine lv_iconst (v := Int32.ofInt 1) hx hb dX7_readsRectangle_93 rfl ?_
  refine z_iadd hx hb dX7_readsRectangle_94 ?_
  refine va_put (D := D) (ci := 7) (v := vI (c_rectangles + 1)) (ty := .int) (C := RX7) (T := TX7) (N := 26) hx hb hts zin7 tyX7 tyX7_ok nmX7 hown hK hP hD hS 0 rfl rfl 23 (by decide) (hts _ wm810) (fun _ h9 => h9) rfl (by decide +kernel) rfl rfl (Nat.le_of_ble_eq_true rfl) dX7_readsRectangle_95 (fun H locs hP hD hS => ?_)
  replace hP : va_P D vwCl ((zMo cI cZ h_M q_M c_s c_past c_kept c_isKept c_pasts c_text c_typed c_rect c_item c_items c_itemLevel c_treated c_from c_group c_turn c_size c_old c_aside c_begin c_level c_asides c_sorted c_spot_43 (c_rectangles + 1) c_parts_44 c_visited)) H := hP
  replace hD : va_D A ((zMo cI cZ h_M q_M c_s c_past c_kept c_isKept c_pasts c_text c_typed c_rect c_item c_items c_itemLevel c_treated c_from c_group c_turn c_size c_old c_aside c_begin c_level c_asides c_sorted c_spot_43 (c_rectangles + 1) c_parts_44 c_visited)) := hD
  refine lv_iconst (v := Int32.ofInt 1) hx hb dX7_readsRectangle_98 rfl ?_
  obtain rfl := Option.some.inj h
  exact z_zret hx hb hr hlk (show narrow .boolean (.int (Int32.ofInt 1)) = .int (Int32.ofInt 1) from by decide) (fun _ _ => 0) hP hD hS dX7_readsRectangle_99
