def f_Mo_takes_s_L10 (c_s : Nat → Int) (c_items : Int) (x2 : Int) (k : Int → (Nat → Int) → Option ((Nat → Int) × Int)) : Nat → Int → (Nat → Int) → Option ((Nat → Int) × Int)
  | 0, _, _ => none
  | n + 1, x4, c_item =>
  gd (ck x4) <| gd (ck c_items) <| if x4 < c_items then (gd (0 ≤ (x2 + x4) ∧ (x2 + x4) < ((461 : Nat) : Int)) <| gd (0 ≤ x4 ∧ x4 < ((360 : Nat) : Int)) <| f_Mo_takes_s_L10 c_s c_items x2 k n ((x4 + 1)) ((up c_item ((x4).toNat) (c_s ((x2 + x4)).toNat)))) else (k (x4) (c_item))
def f_Mo_takes_s (c_s : Nat → Int) (c_item : Nat → Int) (x2 : Int) (x3 : Int) : Option ((Nat → Int) × Int) :=
  f_Mo_takes_s_L10 (c_s) ((x3 - x2)) (x2) (fun x4_6 c_item_7 => some (c_item_7, (x3 - x2))) FU (0) (c_item)
abbrev rm_Mo_takes_s : Room := ({ frames := 0, cells := 0, slots := 0, locals := 0 } : Room)
set_option maxHeartbeats 4000000 in
set_option maxRecDepth 100000 in
theorem w_Mo_takes_s_L10 {p : Program} {l : Launch} {e : Env} {s : State} {m : MethodId} {args : Array Value} {below : List Frame} {meth : Method} {c : Code} {A : Nat → Prop} (D : va_G) (cI cZ cT : ClassId) (h_M : Nat) (q_M : Nat → Nat) (c_s : Nat → Int) (c_past : Nat → Int) (c_kept : Nat → Int) (c_isKept : Int) (c_pasts : Int) (c_text : Nat → Int) (c_typed : Int) (c_rect : Nat → Int) (c_items : Int) (c_itemLevel : Int) (c_treated : Nat → Int) (c_from : Nat → Int) (c_group : Nat → Int) (c_turn : Nat → Int) (c_size : Nat → Int) (c_old : Nat → Int) (c_aside : Nat → Int) (c_begin : Nat → Int) (c_level : Nat → Int) (c_asides : Int) (c_sorted : Nat → Int) (c_spot : Int) (c_rectangles : Int) (c_parts : Nat → Int) (c_visited : Nat → Int) (x2 : Int) (res : (Nat → Int) × Int) (k : Int → (Nat → Int) → Option ((Nat → Int) × Int)) (hF : zF p m c cX7_takes 5 s args yX7_takes.cls meth none yX7_takes.name A D (zt cI cZ cT))
    (hk : ∀ (x4 : Int) (c_item : Nat → Int) (H : Heap) (locs : List Loc) (ls : Array Slot), k x4 c_item = some res → va_P D vwCl ((zMo cI cZ h_M q_M c_s c_past c_kept c_isKept c_pasts c_text c_typed c_rect c_item c_items c_itemLevel c_treated c_from c_group c_turn c_size c_old c_aside c_begin c_level c_asides c_sorted c_spot c_rectangles c_parts c_visited)) H → va_D A ((zMo cI cZ h_M q_M c_s c_past c_kept c_isKept c_pasts c_text c_typed c_rect c_item c_items c_itemLevel c_treated c_from c_group c_turn c_size c_old c_aside c_begin c_level c_asides c_sorted c_spot c_rectangles c_parts c_visited)) → va_S A s.heap H locs → lv_has ls 5 [] → W p l e rm_Mo_takes_s s m args below meth c H locs 0 0 (MQ below (zQv D (fun u => (zMo cI cZ h_M q_M c_s c_past c_kept c_isKept c_pasts c_text c_typed c_rect (res.1) (res.2) c_itemLevel c_treated c_from c_group c_turn c_size c_old c_aside c_begin c_level c_asides c_sorted c_spot c_rectangles c_parts c_visited)) A) args s 0 0 A) (F0 m 38 ls [])) :
    ∀ (n : Nat) (x4 : Int) (c_item : Nat → Int) (H : Heap) (locs : List Loc) (ls : Array Slot), f_Mo_takes_s_L10 c_s c_items x2 k n x4 c_item = some res → va_P D vwCl ((zMo cI cZ h_M q_M c_s c_past c_kept c_isKept c_pasts c_text c_typed c_rect c_item c_items c_itemLevel c_treated c_from c_group c_turn c_size c_old c_aside c_begin c_level c_asides c_sorted c_spot c_rectangles c_parts c_visited)) H → va_D A ((zMo cI cZ h_M q_M c_s c_past c_kept c_isKept c_pasts c_text c_typed c_rect c_item c_items c_itemLevel c_treated c_from c_group c_turn c_size c_old c_aside c_begin c_level c_asides c_sorted c_spot c_rectangles c_parts c_visited)) → va_S A s.heap H locs → lv_has ls 5 [(0, .ref h_M), (1, .ref (q_M 0)), (2, vI x2), (4, vI x4)] → W p l e rm_Mo_takes_s s m args below meth c H locs 0 0 (MQ below (zQv D (fun u => (zMo cI cZ h_M q_M c_s c_past c_kept c_isKept c_pasts c_text c_typed c_rect (res.1) (res.2) c_itemLevel c_treated c_from c_group c_turn c_size c_old c_aside c_begin c_level c_asides c_sorted c_spot c_rectangles c_parts c_visited)) A) args s 0 0 A) (F0 m 10 ls []) := by
  have hx := hF.1.1
  have hb := hF.1.2.1
  have hml := hF.1.2.2.1
  have hown : s.vm.findClass "RectangleTreeModel" = some m.cls := hF.1.2.2.2.1
  have hts := hF.1.2.2.2.2
  have hr := hF.2.1
  have hlk := hF.2.2.1
  have hK := hF.2.2.2.2.1
  have hN := hF.2.2.2.2.2.1
  have hA := hF.2.2.2.2.2.2
  intro n
  induction n with
  | zero => intro x4 c_item H locs ls h; cases h
  | succ n ih =>
    intro x4 c_item H locs ls h hP hD hS hl
    rw [f_Mo_takes_s_L10] at h
    refine lv_iload hx hb dX7_takes_10 (lv_at hl 3 rfl) ?_
    refine lv_aload_n hx hb dX7_takes_12 rfl (lv_at hl 0 rfl) ?_
    refine va_get (D := D) (ci := 7) (v := vI c_items) (C := RX7) (T := TX7) (N := 26) hx hb hts zin7 hown hK hP 0 rfl rfl 9 (by decide) (hts _ wm796) (fun _ h9 => h9) rfl dX7_takes_13 ?_
    obtain ⟨g_1, h⟩ := gd_e h
    obtain ⟨g_2, h⟩ := gd_e h
    refine z_icmp_ge (tgt := 38) hx hb g_1 g_2 dX7_takes_16 (by decide) (fun b_3 => ?_) (fun b_3 => ?_)
    · have h := it_n b_3 h
      exact hk (x4) (c_item) H locs ls h hP hD hS (lv_sub hl [] rfl)
    · have h := it_p b_3 h
      refine lv_aload_n hx hb dX7_takes_19 rfl (lv_at hl 0 rfl) ?_
      refine va_get (D := D) (ci := 7) (v := .ref (q_M 5)) (C := RX7) (T := TX7) (N := 26) hx hb hts zin7 hown hK hP 0 rfl rfl 8 (by decide) (hts _ wm795) (fun _ h9 => h9) rfl dX7_takes_20 ?_
      refine lv_iload hx hb dX7_takes_23 (lv_at hl 3 rfl) ?_
      refine lv_aload_n hx hb dX7_takes_25 rfl (lv_at hl 1 rfl) ?_
      refine lv_iload_n hx hb dX7_takes_26 rfl (lv_at hl 2 rfl) ?_
      refine lv_iload hx hb dX7_takes_27 (lv_at hl 3 rfl) ?_
      refine z_iadd hx hb dX7_takes_29 ?_
      obtain ⟨g_4, h⟩ := gd_e h
      refine z_iald (n := 461) (f := c_s) (i := (x2 + x4)) hx hb hK hP 1 rfl rfl g_4 (by have := g_4.2; omega) dX7_takes_30 ?_
      obtain ⟨g_5, h⟩ := gd_e h
      refine z_iast (n := 360) (f := c_item) (i := x4) (x := (c_s ((x2 + x4)).toNat)) (ws' := (zMo cI cZ h_M q_M c_s c_past c_kept c_isKept c_pasts c_text c_typed c_rect (up c_item ((x4).toNat) (c_s ((x2 + x4)).toNat)) c_items c_itemLevel c_treated c_from c_group c_turn c_size c_old c_aside c_begin c_level c_asides c_sorted c_spot c_rectangles c_parts c_visited)) hx hb hK hP hD hS 6 rfl rfl g_5 (by have := g_5.2; omega) dX7_takes_31 rfl (fun H locs hP hD hS => ?_)
      refine lv_iinc (v := Int32.ofInt (x4 + 1)) (lv' := [(4, vI (x4 + 1)), (0, .ref h_M), (1, .ref (q_M 0)), (2, vI x2)]) hx hb dX7_takes_32 hl (k := 3) rfl (z_inc _ _) (by decide) rfl (fun ls hl => ?_)
      refine lv_goto (tgt := 10) hx hb dX7_takes_35 (by decide) ?_
      exact ih ((x4 + 1)) ((up c_item ((x4).toNat) (c_s ((x2 + x4)).toNat))) H locs ls h hP hD hS (lv_sub hl [1, 2, 3, 0] rfl)
set_option maxHeartbeats 4000000 in
set_option maxRecDepth 100000 in
theorem c_Mo_takes_s (l : Launch) (D : va_G) (cI cZ cT : ClassId) (h_M : Nat) (q_M : Nat → Nat) (c_s : Nat → Int) (c_past : Nat → Int) (c_kept : Nat → Int) (c_isKept : Int) (c_pasts : Int) (c_text : Nat → Int) (c_typed : Int) (c_rect : Nat → Int) (c_item : Nat → Int) (c_items : Int) (c_itemLevel : Int) (c_treated : Nat → Int) (c_from : Nat → Int) (c_group : Nat → Int) (c_turn : Nat → Int) (c_size : Nat → Int) (c_old : Nat → Int) (c_aside : Nat → Int) (c_begin : Nat → Int) (c_level : Nat → Int) (c_asides : Int) (c_sorted : Nat → Int) (c_spot : Int) (c_rectangles : Int) (c_parts : Nat → Int) (c_visited : Nat → Int) (x2 : Int) (x3 : Int) (sz : Nat) (res : (Nat → Int) × Int) (h : f_Mo_takes_s c_s c_item x2 x3 = some res) : zMv l yX7_takes cX7_takes 5 rm_Mo_takes_s D (zt cI cZ cT) [.ref h_M, .ref (q_M 0), vI x2, vI x3] ((zMo cI cZ h_M q_M c_s c_past c_kept c_isKept c_pasts c_text c_typed c_rect c_item c_items c_itemLevel c_treated c_from c_group c_turn c_size c_old c_aside c_begin c_level c_asides c_sorted c_spot c_rectangles c_parts c_visited)) sz (fun u => (zMo cI cZ h_M q_M c_s c_past c_kept c_isKept c_pasts c_text c_typed c_rect (res.1) (res.2) c_itemLevel c_treated c_from c_group c_turn c_size c_old c_aside c_begin c_level c_asides c_sorted c_spot c_rectangles c_parts c_visited)) 0 0 := by
  refine z_enth (Qc := zQv D (fun u => (zMo cI cZ h_M q_M c_s c_past c_kept c_isKept c_pasts c_text c_typed c_rect (res.1) (res.2) c_itemLevel c_treated c_from c_group c_turn c_size c_old c_aside c_begin c_level c_asides c_sorted c_spot c_rectangles c_parts c_visited))) (by decide) (Nat.le_of_ble_eq_true rfl) (fun p e s m args below meth c A ls H locs hF hP hD hS hl => ?_)
  have hx := hF.1.1
  have hb := hF.1.2.1
  have hml := hF.1.2.2.1
  have hown : s.vm.findClass "RectangleTreeModel" = some m.cls := hF.1.2.2.2.1
  have hts := hF.1.2.2.2.2
  have hr := hF.2.1
  have hlk := hF.2.2.1
  have hK := hF.2.2.2.2.1
  have hN := hF.2.2.2.2.2.1
  have hA := hF.2.2.2.2.2.2
  unfold f_Mo_takes_s at h
  refine lv_aload_n hx hb dX7_takes_0 rfl (lv_at hl 0 rfl) ?_
  refine lv_iload_n hx hb dX7_takes_1 rfl (lv_at hl 3 rfl) ?_
  refine lv_iload_n hx hb dX7_takes_2 rfl (lv_at hl 2 rfl) ?_
  refine z_isub hx hb dX7_takes_3 ?_
  refine va_put (D := D) (ci := 7) (v := vI (x3 - x2)) (ty := .int) (C := RX7) (T := TX7) (N := 26) hx hb hts zin7 tyX7 tyX7_ok nmX7 hown hK hP hD hS 0 rfl rfl 9 (by decide) (hts _ wm796) (fun _ h9 => h9) rfl (by decide +kernel) rfl rfl (Nat.le_of_ble_eq_true rfl) dX7_takes_4 (fun H locs hP hD hS => ?_)
  replace hP : va_P D vwCl ((zMo cI cZ h_M q_M c_s c_past c_kept c_isKept c_pasts c_text c_typed c_rect c_item (x3 - x2) c_itemLevel c_treated c_from c_group c_turn c_size c_old c_aside c_begin c_level c_asides c_sorted c_spot c_rectangles c_parts c_visited)) H := hP
  replace hD : va_D A ((zMo cI cZ h_M q_M c_s c_past c_kept c_isKept c_pasts c_text c_typed c_rect c_item (x3 - x2) c_itemLevel c_treated c_from c_group c_turn c_size c_old c_aside c_begin c_level c_asides c_sorted c_spot c_rectangles c_parts c_visited)) := hD
  refine lv_iconst (v := Int32.ofInt 0) hx hb dX7_takes_7 rfl ?_
  refine lv_istore (lv' := [(4, vI 0), (0, .ref h_M), (1, .ref (q_M 0)), (2, vI x2), (3, vI x3)]) hx hb dX7_takes_8 hl (by decide) rfl (fun ls hl => ?_)
  refine w_Mo_takes_s_L10 D cI cZ cT (h_M) (q_M) (c_s) (c_past) (c_kept) (c_isKept) (c_pasts) (c_text) (c_typed) (c_rect) ((x3 - x2)) (c_itemLevel) (c_treated) (c_from) (c_group) (c_turn) (c_size) (c_old) (c_aside) (c_begin) (c_level) (c_asides) (c_sorted) (c_spot) (c_rectangles) (c_parts) (c_visited) (x2) _ _ hF (fun x4_6 c_item_7 H locs ls h hP hD hS hl => ?_) _ (0) (c_item) _ _ _ h hP hD hS (lv_sub hl [1, 2, 3, 0] rfl)
  obtain rfl := Option.some.inj h
  exact z_vret hx hb hr hlk (fun _ _ => 0) hP hD hS dX7_takes_38
def f_Mo_takes_aside_L10 (c_items : Int) (c_aside : Nat → Int) (x2 : Int) (k : Int → (Nat → Int) → Option ((Nat → Int) × Int)) : Nat → Int → (Nat → Int) → Option ((Nat → Int) × Int)
  | 0, _, _ => none
  | n + 1, x4, c_item =>
  gd (ck x4) <| gd (ck c_items) <| if x4 < c_items then (gd (0 ≤ (x2 + x4) ∧ (x2 + x4) < ((360 : Nat) : Int)) <| gd (0 ≤ x4 ∧ x4 < ((360 : Nat) : Int)) <| f_Mo_takes_aside_L10 c_items c_aside x2 k n ((x4 + 1)) ((up c_item ((x4).toNat) (c_aside ((x2 + x4)).toNat)))) else (k (x4) (c_item))
def f_Mo_takes_aside (c_item : Nat → Int) (c_aside : Nat → Int) (x2 : Int) (x3 : Int) : Option ((Nat → Int) × Int) :=
  f_Mo_takes_aside_L10 ((x3 - x2)) (c_aside) (x2) (fun x4_6 c_item_7 => some (c_item_7, (x3 - x2))) FU (0) (c_item)
abbrev rm_Mo_takes_aside : Room := ({ frames := 0, cells := 0, slots := 0, locals := 0 } : Room)
set_option maxHeartbeats 4000000 in
set_option maxRecDepth 100000 in
theorem w_Mo_takes_aside_L10 {p : Program} {l : Launch} {e : Env} {s : State} {m : MethodId} {args : Array Value} {below : List Frame} {meth : Method} {c : Code} {A : Nat → Prop} (D : va_G) (cI cZ cT : ClassId) (h_M : Nat) (q_M : Nat → Nat) (c_s : Nat → Int) (c_past : Nat → Int) (c_kept : Nat → Int) (c_isKept : Int) (c_pasts : Int) (c_text : Nat → Int) (c_typed : Int) (c_rect : Nat → Int) (c_items : Int) (c_itemLevel : Int) (c_treated : Nat → Int) (c_from : Nat → Int) (c_group : Nat → Int) (c_turn : Nat → Int) (c_size : Nat → Int) (c_old : Nat → Int) (c_aside : Nat → Int) (c_begin : Nat → Int) (c_level : Nat → Int) (c_asides : Int) (c_sorted : Nat → Int) (c_spot : Int) (c_rectangles : Int) (c_parts : Nat → Int) (c_visited : Nat → Int) (x2 : Int) (res : (Nat → Int) × Int) (k : Int → (Nat → Int) → Option ((Nat → Int) × Int)) (hF : zF p m c cX7_takes 5 s args yX7_takes.cls meth none yX7_takes.name A D (zt cI cZ cT))
    (hk : ∀ (x4 : Int) (c_item : Nat → Int) (H : Heap) (locs : List Loc) (ls : Array Slot), k x4 c_item = some res → va_P D vwCl ((zMo cI cZ h_M q_M c_s c_past c_kept c_isKept c_pasts c_text c_typed c_rect c_item c_items c_itemLevel c_treated c_from c_group c_turn c_size c_old c_aside c_begin c_level c_asides c_sorted c_spot c_rectangles c_parts c_visited)) H → va_D A ((zMo cI cZ h_M q_M c_s c_past c_kept c_isKept c_pasts c_text c_typed c_rect c_item c_items c_itemLevel c_treated c_from c_group c_turn c_size c_old c_aside c_begin c_level c_asides c_sorted c_spot c_rectangles c_parts c_visited)) → va_S A s.heap H locs → lv_has ls 5 [] → W p l e rm_Mo_takes_aside s m args below meth c H locs 0 0 (MQ below (zQv D (fun u => (zMo cI cZ h_M q_M c_s c_past c_kept c_isKept c_pasts c_text c_typed c_rect (res.1) (res.2) c_itemLevel c_treated c_from c_group c_turn c_size c_old c_aside c_begin c_level c_asides c_sorted c_spot c_rectangles c_parts c_visited)) A) args s 0 0 A) (F0 m 38 ls [])) :
    ∀ (n : Nat) (x4 : Int) (c_item : Nat → Int) (H : Heap) (locs : List Loc) (ls : Array Slot), f_Mo_takes_aside_L10 c_items c_aside x2 k n x4 c_item = some res → va_P D vwCl ((zMo cI cZ h_M q_M c_s c_past c_kept c_isKept c_pasts c_text c_typed c_rect c_item c_items c_itemLevel c_treated c_from c_group c_turn c_size c_old c_aside c_begin c_level c_asides c_sorted c_spot c_rectangles c_parts c_visited)) H → va_D A ((zMo cI cZ h_M q_M c_s c_past c_kept c_isKept c_pasts c_text c_typed c_rect c_item c_items c_itemLevel c_treated c_from c_group c_turn c_size c_old c_aside c_begin c_level c_asides c_sorted c_spot c_rectangles c_parts c_visited)) → va_S A s.heap H locs → lv_has ls 5 [(0, .ref h_M), (1, .ref (q_M 12)), (2, vI x2), (4, vI x4)] → W p l e rm_Mo_takes_aside s m args below meth c H locs 0 0 (MQ below (zQv D (fun u => (zMo cI cZ h_M q_M c_s c_past c_kept c_isKept c_pasts c_text c_typed c_rect (res.1) (res.2) c_itemLevel c_treated c_from c_group c_turn c_size c_old c_aside c_begin c_level c_asides c_sorted c_spot c_rectangles c_parts c_visited)) A) args s 0 0 A) (F0 m 10 ls []) := by
  have hx := hF.1.1
  have hb := hF.1.2.1
  have hml := hF.1.2.2.1
  have hown : s.vm.findClass "RectangleTreeModel" = some m.cls := hF.1.2.2.2.1
  have hts := hF.1.2.2.2.2
  have hr := hF.2.1
  have hlk := hF.2.2.1
  have hK := hF.2.2.2.2.1
  have hN := hF.2.2.2.2.2.1
  have hA := hF.2.2.2.2.2.2
  intro n
  induction n with
  | zero => intro x4 c_item H locs ls h; cases h
  | succ n ih =>
    intro x4 c_item H locs ls h hP hD hS hl
    rw [f_Mo_takes_aside_L10] at h
    refine lv_iload hx hb dX7_takes_10 (lv_at hl 3 rfl) ?_
    refine lv_aload_n hx hb dX7_takes_12 rfl (lv_at hl 0 rfl) ?_
    refine va_get (D := D) (ci := 7) (v := vI c_items) (C := RX7) (T := TX7) (N := 26) hx hb hts zin7 hown hK hP 0 rfl rfl 9 (by decide) (hts _ wm796) (fun _ h9 => h9) rfl dX7_takes_13 ?_
    obtain ⟨g_1, h⟩ := gd_e h
    obtain ⟨g_2, h⟩ := gd_e h
    refine z_icmp_ge (tgt := 38) hx hb g_1 g_2 dX7_takes_16 (by decide) (fun b_3 => ?_) (fun b_3 => ?_)
    · have h := it_n b_3 h
      exact hk (x4) (c_item) H locs ls h hP hD hS (lv_sub hl [] rfl)
    · have h := it_p b_3 h
      refine lv_aload_n hx hb dX7_takes_19 rfl (lv_at hl 0 rfl) ?_
      refine va_get (D := D) (ci := 7) (v := .ref (q_M 5)) (C := RX7) (T := TX7) (N := 26) hx hb hts zin7 hown hK hP 0 rfl rfl 8 (by decide) (hts _ wm795) (fun _ h9 => h9) rfl dX7_takes_20 ?_
      refine lv_iload hx hb dX7_takes_23 (lv_at hl 3 rfl) ?_
      refine lv_aload_n hx hb dX7_takes_25 rfl (lv_at hl 1 rfl) ?_
      refine lv_iload_n hx hb dX7_takes_26 rfl (lv_at hl 2 rfl) ?_
      refine lv_iload hx hb dX7_takes_27 (lv_at hl 3 rfl) ?_
      refine z_iadd hx hb dX7_takes_29 ?_
      obtain ⟨g_4, h⟩ := gd_e h
      refine z_iald (n := 360) (f := c_aside) (i := (x2 + x4)) hx hb hK hP 13 rfl rfl g_4 (by have := g_4.2; omega) dX7_takes_30 ?_
      obtain ⟨g_5, h⟩ := gd_e h
      refine z_iast (n := 360) (f := c_item) (i := x4) (x := (c_aside ((x2 + x4)).toNat)) (ws' := (zMo cI cZ h_M q_M c_s c_past c_kept c_isKept c_pasts c_text c_typed c_rect (up c_item ((x4).toNat) (c_aside ((x2 + x4)).toNat)) c_items c_itemLevel c_treated c_from c_group c_turn c_size c_old c_aside c_begin c_level c_asides c_sorted c_spot c_rectangles c_parts c_visited)) hx hb hK hP hD hS 6 rfl rfl g_5 (by have := g_5.2; omega) dX7_takes_31 rfl (fun H locs hP hD hS => ?_)
      refine lv_iinc (v := Int32.ofInt (x4 + 1)) (lv' := [(4, vI (x4 + 1)), (0, .ref h_M), (1, .ref (q_M 12)), (2, vI x2)]) hx hb dX7_takes_32 hl (k := 3) rfl (z_inc _ _) (by decide) rfl (fun ls hl => ?_)
      refine lv_goto (tgt := 10) hx hb dX7_takes_35 (by decide) ?_
      exact ih ((x4 + 1)) ((up c_item ((x4).toNat) (c_aside ((x2 + x4)).toNat))) H locs ls h hP hD hS (lv_sub hl [1, 2, 3, 0] rfl)
set_option maxHeartbeats 4000000 in
set_option maxRecDepth 100000 in
theorem c_Mo_takes_aside (l : Launch) (D : va_G) (cI cZ cT : ClassId) (h_M : Nat) (q_M : Nat → Nat) (c_s : Nat → Int) (c_past : Nat → Int) (c_kept : Nat → Int) (c_isKept : Int) (c_pasts : Int) (c_text : Nat → Int) (c_typed : Int) (c_rect : Nat → Int) (c_item : Nat → Int) (c_items : Int) (c_itemLevel : Int) (c_treated : Nat → Int) (c_from : Nat → Int) (c_group : Nat → Int) (c_turn : Nat → Int) (c_size : Nat → Int) (c_old : Nat → Int) (c_aside : Nat → Int) (c_begin : Nat → Int) (c_level : Nat → Int) (c_asides : Int) (c_sorted : Nat → Int) (c_spot : Int) (c_rectangles : Int) (c_parts : Nat → Int) (c_visited : Nat → Int) (x2 : Int) (x3 : Int) (sz : Nat) (res : (Nat → Int) × Int) (h : f_Mo_takes_aside c_item c_aside x2 x3 = some res) : zMv l yX7_takes cX7_takes 5 rm_Mo_takes_aside D (zt cI cZ cT) [.ref h_M, .ref (q_M 12), vI x2, vI x3] ((zMo cI cZ h_M q_M c_s c_past c_kept c_isKept c_pasts c_text c_typed c_rect c_item c_items c_itemLevel c_treated c_from c_group c_turn c_size c_old c_aside c_begin c_level c_asides c_sorted c_spot c_rectangles c_parts c_visited)) sz (fun u => (zMo cI cZ h_M q_M c_s c_past c_kept c_isKept c_pasts c_text c_typed c_rect (res.1) (res.2) c_itemLevel c_treated c_from c_group c_turn c_size c_old c_aside c_begin c_level c_asides c_sorted c_spot c_rectangles c_parts c_visited)) 0 0 := by
  refine z_enth (Qc := zQv D (fun u => (zMo cI cZ h_M q_M c_s c_past c_kept c_isKept c_pasts c_text c_typed c_rect (res.1) (res.2) c_itemLevel c_treated c_from c_group c_turn c_size c_old c_aside c_begin c_level c_asides c_sorted c_spot c_rectangles c_parts c_visited))) (by decide) (Nat.le_of_ble_eq_true rfl) (fun p e s m args below meth c A ls H locs hF hP hD hS hl => ?_)
  have hx := hF.1.1
  have hb := hF.1.2.1
  have hml := hF.1.2.2.1
  have hown : s.vm.findClass "RectangleTreeModel" = some m.cls := hF.1.2.2.2.1
  have hts := hF.1.2.2.2.2
  have hr := hF.2.1
  have hlk := hF.2.2.1
  have hK := hF.2.2.2.2.1
  have hN := hF.2.2.2.2.2.1
  have hA := hF.2.2.2.2.2.2
  unfold f_Mo_takes_aside at h
  refine lv_aload_n hx hb dX7_takes_0 rfl (lv_at hl 0 rfl) ?_
  refine lv_iload_n hx hb dX7_takes_1 rfl (lv_at hl 3 rfl) ?_
  refine lv_iload_n hx hb dX7_takes_2 rfl (lv_at hl 2 rfl) ?_
  refine z_isub hx hb dX7_takes_3 ?_
  refine va_put (D := D) (ci := 7) (v := vI (x3 - x2)) (ty := .int) (C := RX7) (T := TX7) (N := 26) hx hb hts zin7 tyX7 tyX7_ok nmX7 hown hK hP hD hS 0 rfl rfl 9 (by decide) (hts _ wm796) (fun _ h9 => h9) rfl (by decide +kernel) rfl rfl (Nat.le_of_ble_eq_true rfl) dX7_takes_4 (fun H locs hP hD hS => ?_)
  replace hP : va_P D vwCl ((zMo cI cZ h_M q_M c_s c_past c_kept c_isKept c_pasts c_text c_typed c_rect c_item (x3 - x2) c_itemLevel c_treated c_from c_group c_turn c_size c_old c_aside c_begin c_level c_asides c_sorted c_spot c_rectangles c_parts c_visited)) H := hP
  replace hD : va_D A ((zMo cI cZ h_M q_M c_s c_past c_kept c_isKept c_pasts c_text c_typed c_rect c_item (x3 - x2) c_itemLevel c_treated c_from c_group c_turn c_size c_old c_aside c_begin c_level c_asides c_sorted c_spot c_rectangles c_parts c_visited)) := hD
  refine lv_iconst (v := Int32.ofInt 0) hx hb dX7_takes_7 rfl ?_
  refine lv_istore (lv' := [(4, vI 0), (0, .ref h_M), (1, .ref (q_M 12)), (2, vI x2), (3, vI x3)]) hx hb dX7_takes_8 hl (by decide) rfl (fun ls hl => ?_)
  refine w_Mo_takes_aside_L10 D cI cZ cT (h_M) (q_M) (c_s) (c_past) (c_kept) (c_isKept) (c_pasts) (c_text) (c_typed) (c_rect) ((x3 - x2)) (c_itemLevel) (c_treated) (c_from) (c_group) (c_turn) (c_size) (c_old) (c_aside) (c_begin) (c_level) (c_asides) (c_sorted) (c_spot) (c_rectangles) (c_parts) (c_visited) (x2) _ _ hF (fun x4_6 c_item_7 H locs ls h hP hD hS hl => ?_) _ (0) (c_item) _ _ _ h hP hD hS (lv_sub hl [1, 2, 3, 0] rfl)
  obtain rfl := Option.some.inj h
  exact z_vret hx hb hr hlk (fun _ _ => 0) hP hD hS dX7_takes_38
def f_Mo_chosen_L48 (c_s : Nat → Int) (x5 : Int) (k : Int → Int → Int → Int → (Nat → Int) → Option (Int × (Nat → Int))) : Nat → Int → Int → Int → Int → (Nat → Int) → Option (Int × (Nat → Int))
  | 0, _, _, _, _, _ => none
  | n + 1, x2, x3, x4, x6, c_rect =>
  gd (ck x6) <| gd (ck x5) <| if x6 < x5 then (bd1 (f_Mo_boundsAt c_s c_rect x6 1) <| fun c_rect_16 => bd2 (f_Mo_enlargement c_rect_16 1 0) <| fun r_19 c_rect_20 => bd1 (f_Mo_areaOf c_rect_20 1) <| fun r_23 => gd (ck x2) <| if x2 < 0 then (bd1 (f_Mo_endOf c_s x6) <| fun r_28 => f_Mo_chosen_L48 c_s x5 k n (x6) (r_19) (r_23) (r_28) (c_rect_20)) else (gd (ck r_19) <| gd (ck x3) <| if r_19 < x3 then (bd1 (f_Mo_endOf c_s x6) <| fun r_34 => f_Mo_chosen_L48 c_s x5 k n (x6) (r_19) (r_23) (r_34) (c_rect_20)) else (if r_19 = x3 then (gd (ck r_23) <| gd (ck x4) <| if r_23 < x4 then (bd1 (f_Mo_endOf c_s x6) <| fun r_47 => f_Mo_chosen_L48 c_s x5 k n (x6) (r_19) (r_23) (r_47) (c_rect_20)) else (bd1 (f_Mo_endOf c_s x6) <| fun r_44 => f_Mo_chosen_L48 c_s x5 k n (x2) (x3) (x4) (r_44) (c_rect_20))) else (bd1 (f_Mo_endOf c_s x6) <| fun r_38 => f_Mo_chosen_L48 c_s x5 k n (x2) (x3) (x4) (r_38) (c_rect_20))))) else (k (x2) (x3) (x4) (x6) (c_rect))
def f_Mo_chosen_L16 (c_s : Nat → Int) (c_itemLevel : Int) (k : Int → (Nat → Int) → Option (Int × (Nat → Int))) : Nat → Int → (Nat → Int) → Option (Int × (Nat → Int))
  | 0, _, _ => none
  | n + 1, x1, c_rect =>
  bd1 (f_Mo_levelAt c_s x1) <| fun r_4 => gd (ck r_4) <| gd (ck c_itemLevel) <| if c_itemLevel < r_4 then (bd1 (f_Mo_endOf c_s x1) <| fun r_10 => f_Mo_chosen_L48 (c_s) (r_10) (fun x2_50 x3_51 x4_52 x6_53 c_rect_54 => f_Mo_chosen_L16 c_s c_itemLevel k n (x2_50) (c_rect_54)) FU ((-5)) (0) (0) ((x1 + 1)) (c_rect)) else (k (x1) (c_rect))
def f_Mo_chosen (c_s : Nat → Int) (c_rect : Nat → Int) (c_item : Nat → Int) (c_items : Int) (c_itemLevel : Int) : Option (Int × (Nat → Int)) :=
  bd1 (f_Mo_bounds_item c_s c_rect c_item 0 c_items 0) <| fun c_rect_1 => f_Mo_chosen_L16 (c_s) (c_itemLevel) (fun x1_55 c_rect_56 => some (x1_55, c_rect_56)) FU (0) (c_rect_1)
abbrev rm_Mo_chosen : Room := ({ frames := 4, cells := 0, slots := 0, locals := 86 } : Room)
set_option maxHeartbeats 4000000 in
set_option maxRecDepth 100000 in
theorem w_Mo_chosen_L48 {p : Program} {l : Launch} {e : Env} {s : State} {m : MethodId} {args : Array Value} {below : List Frame} {meth : Method} {c : Code} {A : Nat → Prop} (D : va_G) (cI cZ cT : ClassId) (h_M : Nat) (q_M : Nat → Nat) (c_s : Nat → Int) (c_past : Nat → Int) (c_kept : Nat → Int) (c_isKept : Int) (c_pasts : Int) (c_text : Nat → Int) (c_typed : Int) (c_item : Nat → Int) (c_items : Int) (c_itemLevel : Int) (c_treated : Nat → Int) (c_from : Nat → Int) (c_group : Nat → Int) (c_turn : Nat → Int) (c_size : Nat → Int) (c_old : Nat → Int) (c_aside : Nat → Int) (c_begin : Nat → Int) (c_level : Nat → Int) (c_asides : Int) (c_sorted : Nat → Int) (c_spot : Int) (c_rectangles : Int) (c_parts : Nat → Int) (c_visited : Nat → Int) (x5 : Int) (res : Int × (Nat → Int)) (k : Int → Int → Int → Int → (Nat → Int) → Option (Int × (Nat → Int))) (hF : zF p m c cX7_chosen 9 s args yX7_chosen.cls meth (some .int) yX7_chosen.name A D (zt cI cZ cT))
    (hk : ∀ (x2 : Int) (x3 : Int) (x4 : Int) (x6 : Int) (c_rect : Nat → Int) (H : Heap) (locs : List Loc) (ls : Array Slot), k x2 x3 x4 x6 c_rect = some res → va_P D vwCl ((zMo cI cZ h_M q_M c_s c_past c_kept c_isKept c_pasts c_text c_typed c_rect c_item c_items c_itemLevel c_treated c_from c_group c_turn c_size c_old c_aside c_begin c_level c_asides c_sorted c_spot c_rectangles c_parts c_visited)) H → va_D A ((zMo cI cZ h_M q_M c_s c_past c_kept c_isKept c_pasts c_text c_typed c_rect c_item c_items c_itemLevel c_treated c_from c_group c_turn c_size c_old c_aside c_begin c_level c_asides c_sorted c_spot c_rectangles c_parts c_visited)) → va_S A s.heap H locs → lv_has ls 9 [(0, .ref h_M), (2, vI x2)] → W p l e rm_Mo_chosen s m args below meth c H locs 0 0 (MQ below (zQi D (res.1) (fun u => (zMo cI cZ h_M q_M c_s c_past c_kept c_isKept c_pasts c_text c_typed (res.2) c_item c_items c_itemLevel c_treated c_from c_group c_turn c_size c_old c_aside c_begin c_level c_asides c_sorted c_spot c_rectangles c_parts c_visited)) A) args s 0 0 A) (F0 m 121 ls [])) :
    ∀ (n : Nat) (x2 : Int) (x3 : Int) (x4 : Int) (x6 : Int) (c_rect : Nat → Int) (H : Heap) (locs : List Loc) (ls : Array Slot), f_Mo_chosen_L48 c_s x5 k n x2 x3 x4 x6 c_rect = some res → va_P D vwCl ((zMo cI cZ h_M q_M c_s c_past c_kept c_isKept c_pasts c_text c_typed c_rect c_item c_items c_itemLevel c_treated c_from c_group c_turn c_size c_old c_aside c_begin c_level c_asides c_sorted c_spot c_rectangles c_parts c_visited)) H → va_D A ((zMo cI cZ h_M q_M c_s c_past c_kept c_isKept c_pasts c_text c_typed c_rect c_item c_items c_itemLevel c_treated c_from c_group c_turn c_size c_old c_aside c_begin c_level c_asides c_sorted c_spot c_rectangles c_parts c_visited)) → va_S A s.heap H locs → lv_has ls 9 [(0, .ref h_M), (2, vI x2), (3, vI x3), (4, vI x4), (5, vI x5), (6, vI x6)] → W p l e rm_Mo_chosen s m args below meth c H locs 0 0 (MQ below (zQi D (res.1) (fun u => (zMo cI cZ h_M q_M c_s c_past c_kept c_isKept c_pasts c_text c_typed (res.2) c_item c_items c_itemLevel c_treated c_from c_group c_turn c_size c_old c_aside c_begin c_level c_asides c_sorted c_spot c_rectangles c_parts c_visited)) A) args s 0 0 A) (F0 m 48 ls []) := by
  have hx := hF.1.1
  have hb := hF.1.2.1
  have hml := hF.1.2.2.1
  have hown : s.vm.findClass "RectangleTreeModel" = some m.cls := hF.1.2.2.2.1
  have hts := hF.1.2.2.2.2
  have hr := hF.2.1
  have hlk := hF.2.2.1
  have hK := hF.2.2.2.2.1
  have hN := hF.2.2.2.2.2.1
  have hA := hF.2.2.2.2.2.2
  intro n
  induction n with
  | zero => intro x2 x3 x4 x6 c_rect H locs ls h; cases h
  | succ n ih =>
    intro x2 x3 x4 x6 c_rect H locs ls h hP hD hS hl
    rw [f_Mo_chosen_L48] at h
    refine lv_iload hx hb dX7_chosen_48 (lv_at hl 5 rfl) ?_
    refine lv_iload hx hb dX7_chosen_50 (lv_at hl 4 rfl) ?_
    obtain ⟨g_13, h⟩ := gd_e h
    obtain ⟨g_14, h⟩ := gd_e h
    refine z_icmp_ge (tgt := 121) hx hb g_13 g_14 dX7_chosen_52 (by decide) (fun b_15 => ?_) (fun b_15 => ?_)
    · have h := it_n b_15 h
      exact hk (x2) (x3) (x4) (x6) (c_rect) H locs ls h hP hD hS (lv_sub hl [0, 1] rfl)
    · have h := it_p b_15 h
      refine lv_aload_n hx hb dX7_chosen_55 rfl (lv_at hl 0 rfl) ?_
      refine lv_iload hx hb dX7_chosen_56 (lv_at hl 5 rfl) ?_
      refine lv_iconst (v := Int32.ofInt 1) hx hb dX7_chosen_58 rfl ?_
      obtain ⟨c_rect_16, e_17, h⟩ := bd1_e h
      refine z_gov (wc := (zMo cI cZ (h_M) (q_M) (c_s) (c_past) (c_kept) (c_isKept) (c_pasts) (c_text) (c_typed) (c_rect) (c_item) (c_items) (c_itemLevel) (c_treated) (c_from) (c_group) (c_turn) (c_size) (c_old) (c_aside) (c_begin) (c_level) (c_asides) (c_sorted) (c_spot) (c_rectangles) (c_parts) (c_visited))) (wn := fun u_18 => (zMo cI cZ h_M q_M c_s c_past c_kept c_isKept c_pasts c_text c_typed c_rect_16 c_item c_items c_itemLevel c_treated c_from c_group c_turn c_size c_old c_aside c_begin c_level c_asides c_sorted c_spot c_rectangles c_parts c_visited)) (wr := []) (va_runV (As := [vI x6, vI 1]) (rest := []) hF.1 (c_Mo_boundsAt l D cI cZ cT h_M q_M c_s c_past c_kept c_isKept c_pasts c_text c_typed c_rect c_item c_items c_itemLevel c_treated c_from c_group c_turn c_size c_old c_aside c_begin c_level c_asides c_sorted c_spot c_rectangles c_parts c_visited x6 1 H.size (c_rect_16) e_17) (cwV 2 hts (zgV wm930 wm932 wm42 wm89 wm933) rfl rfl rfl (by decide +kernel) ⟨Nat.le_of_ble_eq_true rfl, Nat.le_of_ble_eq_true rfl⟩) ⟨zP.blind, va_recv hK (z_subP (ws' := (zMo cI cZ (h_M) (q_M) (c_s) (c_past) (c_kept) (c_isKept) (c_pasts) (c_text) (c_typed) (c_rect) (c_item) (c_items) (c_itemLevel) (c_treated) (c_from) (c_group) (c_turn) (c_size) (c_old) (c_aside) (c_begin) (c_level) (c_asides) (c_sorted) (c_spot) (c_rectangles) (c_parts) (c_visited))) hP [0, 1, 2, 3, 4, 5, 6, 7, 8, 9, 10, 11, 12, 13, 14, 15, 16, 17, 18] rfl) (ci := 7) (q0 := 0) rfl rfl, zP.enter (z_subP (ws' := (zMo cI cZ (h_M) (q_M) (c_s) (c_past) (c_kept) (c_isKept) (c_pasts) (c_text) (c_typed) (c_rect) (c_item) (c_items) (c_itemLevel) (c_treated) (c_from) (c_group) (c_turn) (c_size) (c_old) (c_aside) (c_begin) (c_level) (c_asides) (c_sorted) (c_spot) (c_rectangles) (c_parts) (c_visited))) hP [0, 1, 2, 3, 4, 5, 6, 7, 8, 9, 10, 11, 12, 13, 14, 15, 16, 17, 18] rfl) hK (hD.sub [0, 1, 2, 3, 4, 5, 6, 7, 8, 9, 10, 11, 12, 13, 14, 15, 16, 17, 18] (by decide) rfl) hN⟩ rfl rfl hl.1 rfl (lv_room (Nat.le_of_ble_eq_true rfl)) dX7_chosen_59 ⟨Nat.le_refl _, Nat.le_refl _⟩) hP hD hS hA [0, 1, 2, 3, 4, 5, 6, 7, 8, 9, 10, 11, 12, 13, 14, 15, 16, 17, 18] [] [0, 1, 2, 3, 4, 5, 6, 7, 8, 9, 10, 11, 12, 13, 14, 15, 16, 17, 18] rfl rfl (by decide) (fun _ => rfl) (fun u_18 H locs hP hD hS hz => ?_)
      refine lv_aload_n hx hb dX7_chosen_62 rfl (lv_at hl 0 rfl) ?_
      refine lv_iconst (v := Int32.ofInt 1) hx hb dX7_chosen_63 rfl ?_
      refine lv_iconst (v := Int32.ofInt 0) hx hb dX7_chosen_64 rfl ?_
      obtain ⟨r_19, c_rect_20, e_21, h⟩ := bd2_e h
      refine z_goi (ws' := []) (ret := r_19) (wc := (zMo cI cZ (h_M) (q_M) (c_s) (c_past) (c_kept) (c_isKept) (c_pasts) (c_text) (c_typed) (c_rect_16) (c_item) (c_items) (c_itemLevel) (c_treated) (c_from) (c_group) (c_turn) (c_size) (c_old) (c_aside) (c_begin) (c_level) (c_asides) (c_sorted) (c_spot) (c_rectangles) (c_parts) (c_visited))) (wn := fun u_22 => (zMo cI cZ h_M q_M c_s c_past c_kept c_isKept c_pasts c_text c_typed c_rect_20 c_item c_items c_itemLevel c_treated c_from c_group c_turn c_size c_old c_aside c_begin c_level c_asides c_sorted c_spot c_rectangles c_parts c_visited)) (wr := []) (va_runV (As := [vI 1, vI 0]) (rest := []) hF.1 (c_Mo_enlargement l D cI cZ cT h_M q_M c_s c_past c_kept c_isKept c_pasts c_text c_typed c_rect_16 c_item c_items c_itemLevel c_treated c_from c_group c_turn c_size c_old c_aside c_begin c_level c_asides c_sorted c_spot c_rectangles c_parts c_visited 1 0 H.size (r_19, c_rect_20) e_21) (cwV 2 hts (zgV wm934 wm936 wm43 wm89 wm937) rfl rfl rfl (by decide +kernel) ⟨Nat.le_of_ble_eq_true rfl, Nat.le_of_ble_eq_true rfl⟩) ⟨zP.blind, va_recv hK (z_subP (ws' := (zMo cI cZ (h_M) (q_M) (c_s) (c_past) (c_kept) (c_isKept) (c_pasts) (c_text) (c_typed) (c_rect_16) (c_item) (c_items) (c_itemLevel) (c_treated) (c_from) (c_group) (c_turn) (c_size) (c_old) (c_aside) (c_begin) (c_level) (c_asides) (c_sorted) (c_spot) (c_rectangles) (c_parts) (c_visited))) hP [0, 1, 2, 3, 4, 5, 6, 7, 8, 9, 10, 11, 12, 13, 14, 15, 16, 17, 18] rfl) (ci := 7) (q0 := 0) rfl rfl, zP.enter (z_subP (ws' := (zMo cI cZ (h_M) (q_M) (c_s) (c_past) (c_kept) (c_isKept) (c_pasts) (c_text) (c_typed) (c_rect_16) (c_item) (c_items) (c_itemLevel) (c_treated) (c_from) (c_group) (c_turn) (c_size) (c_old) (c_aside) (c_begin) (c_level) (c_asides) (c_sorted) (c_spot) (c_rectangles) (c_parts) (c_visited))) hP [0, 1, 2, 3, 4, 5, 6, 7, 8, 9, 10, 11, 12, 13, 14, 15, 16, 17, 18] rfl) hK (hD.sub [0, 1, 2, 3, 4, 5, 6, 7, 8, 9, 10, 11, 12, 13, 14, 15, 16, 17, 18] (by decide) rfl) hN⟩ rfl rfl hl.1 rfl (lv_room (Nat.le_of_ble_eq_true rfl)) dX7_chosen_65 ⟨Nat.le_refl _, Nat.le_refl _⟩) hP hD hS hA [0, 1, 2, 3, 4, 5, 6, 7, 8, 9, 10, 11, 12, 13, 14, 15, 16, 17, 18] [] [0, 1, 2, 3, 4, 5, 6, 7, 8, 9, 10, 11, 12, 13, 14, 15, 16, 17, 18] rfl rfl (by decide) (fun _ => rfl) (fun u_22 H locs hP hD hS hz => ?_)
      refine lv_istore (lv' := [(7, vI r_19), (0, .ref h_M), (2, vI x2), (3, vI x3), (4, vI x4), (5, vI x5), (6, vI x6)]) hx hb dX7_chosen_68 hl (by decide) rfl (fun ls hl => ?_)
      refine lv_aload_n hx hb dX7_chosen_70 rfl (lv_at hl 1 rfl) ?_
      refine lv_iconst (v := Int32.ofInt 1) hx hb dX7_chosen_71 rfl ?_
      obtain ⟨r_23, e_24, h⟩ := bd1_e h
      refine z_goi (ws' := []) (ret := r_23) (wc := (zMo cI cZ (h_M) (q_M) (c_s) (c_past) (c_kept) (c_isKept) (c_pasts) (c_text) (c_typed) (c_rect_20) (c_item) (c_items) (c_itemLevel) (c_treated) (c_from) (c_group) (c_turn) (c_size) (c_old) (c_aside) (c_begin) (c_level) (c_asides) (c_sorted) (c_spot) (c_rectangles) (c_parts) (c_visited))) (wn := fun u_25 => (zMo cI cZ h_M q_M c_s c_past c_kept c_isKept c_pasts c_text c_typed c_rect_20 c_item c_items c_itemLevel c_treated c_from c_group c_turn c_size c_old c_aside c_begin c_level c_asides c_sorted c_spot c_rectangles c_parts c_visited)) (wr := []) (va_runV (As := [vI 1]) (rest := []) hF.1 (c_Mo_areaOf l D cI cZ cT h_M q_M c_s c_past c_kept c_isKept c_pasts c_text c_typed c_rect_20 c_item c_items c_itemLevel c_treated c_from c_group c_turn c_size c_old c_aside c_begin c_level c_asides c_sorted c_spot c_rectangles c_parts c_visited 1 H.size (r_23) e_24) (cwV 1 hts (zgV wm942 wm944 wm45 wm89 wm945) rfl rfl rfl (by decide +kernel) ⟨Nat.le_of_ble_eq_true rfl, Nat.le_of_ble_eq_true rfl⟩) ⟨zP.blind, va_recv hK (z_subP (ws' := (zMo cI cZ (h_M) (q_M) (c_s) (c_past) (c_kept) (c_isKept) (c_pasts) (c_text) (c_typed) (c_rect_20) (c_item) (c_items) (c_itemLevel) (c_treated) (c_from) (c_group) (c_turn) (c_size) (c_old) (c_aside) (c_begin) (c_level) (c_asides) (c_sorted) (c_spot) (c_rectangles) (c_parts) (c_visited))) hP [0, 1, 2, 3, 4, 5, 6, 7, 8, 9, 10, 11, 12, 13, 14, 15, 16, 17, 18] rfl) (ci := 7) (q0 := 0) rfl rfl, zP.enter (z_subP (ws' := (zMo cI cZ (h_M) (q_M) (c_s) (c_past) (c_kept) (c_isKept) (c_pasts) (c_text) (c_typed) (c_rect_20) (c_item) (c_items) (c_itemLevel) (c_treated) (c_from) (c_group) (c_turn) (c_size) (c_old) (c_aside) (c_begin) (c_level) (c_asides) (c_sorted) (c_spot) (c_rectangles) (c_parts) (c_visited))) hP [0, 1, 2, 3, 4, 5, 6, 7, 8, 9, 10, 11, 12, 13, 14, 15, 16, 17, 18] rfl) hK (hD.sub [0, 1, 2, 3, 4, 5, 6, 7, 8, 9, 10, 11, 12, 13, 14, 15, 16, 17, 18] (by decide) rfl) hN⟩ rfl rfl hl.1 rfl (lv_room (Nat.le_of_ble_eq_true rfl)) dX7_chosen_72 ⟨Nat.le_refl _, Nat.le_refl _⟩) hP hD hS hA [0, 1, 2, 3, 4, 5, 6, 7, 8, 9, 10, 11, 12, 13, 14, 15, 16, 17, 18] [] [0, 1, 2, 3, 4, 5, 6, 7, 8, 9, 10, 11, 12, 13, 14, 15, 16, 17, 18] rfl rfl (by decide) (fun _ => rfl) (fun u_25 H locs hP hD hS hz => ?_)
      refine lv_istore (lv' := [(8, vI r_23), (7, vI r_19), (0, .ref h_M), (2, vI x2), (3, vI x3), (4, vI x4), (5, vI x5), (6, vI x6)]) hx hb dX7_chosen_75 hl (by decide) rfl (fun ls hl => ?_)
      refine lv_iload_n hx hb dX7_chosen_77 rfl (lv_at hl 3 rfl) ?_
      obtain ⟨g_26, h⟩ := gd_e h
      refine z_if_lt (tgt := 100) hx hb g_26 dX7_chosen_78 (by decide) (fun b_27 => ?_) (fun b_27 => ?_)
      · have h := it_p b_27 h
        refine lv_iload hx hb dX7_chosen_100 (lv_at hl 7 rfl) ?_
        refine lv_istore_n (lv' := [(2, vI x6), (8, vI r_23), (7, vI r_19), (0, .ref h_M), (3, vI x3), (4, vI x4), (5, vI x5), (6, vI x6)]) hx hb dX7_chosen_102 rfl hl (by decide) rfl (fun ls hl => ?_)
        refine lv_iload hx hb dX7_chosen_103 (lv_at hl 2 rfl) ?_
        refine lv_istore_n (lv' := [(3, vI r_19), (2, vI x6), (8, vI r_23), (7, vI r_19), (0, .ref h_M), (4, vI x4), (5, vI x5), (6, vI x6)]) hx hb dX7_chosen_105 rfl hl (by decide) rfl (fun ls hl => ?_)
        refine lv_iload hx hb dX7_chosen_106 (lv_at hl 2 rfl) ?_
        refine lv_istore (lv' := [(4, vI r_23), (3, vI r_19), (2, vI x6), (8, vI r_23), (7, vI r_19), (0, .ref h_M), (5, vI x5), (6, vI x6)]) hx hb dX7_chosen_108 hl (by decide) rfl (fun ls hl => ?_)
        refine lv_aload_n hx hb dX7_chosen_110 rfl (lv_at hl 5 rfl) ?_
        refine lv_iload hx hb dX7_chosen_111 (lv_at hl 7 rfl) ?_
        obtain ⟨r_28, e_29, h⟩ := bd1_e h
        refine z_goi (ws' := []) (ret := r_28) (wc := (zMo cI cZ (h_M) (q_M) (c_s) (c_past) (c_kept) (c_isKept) (c_pasts) (c_text) (c_typed) (c_rect_20) (c_item) (c_items) (c_itemLevel) (c_treated) (c_from) (c_group) (c_turn) (c_size) (c_old) (c_aside) (c_begin) (c_level) (c_asides) (c_sorted) (c_spot) (c_rectangles) (c_parts) (c_visited))) (wn := fun u_30 => (zMo cI cZ h_M q_M c_s c_past c_kept c_isKept c_pasts c_text c_typed c_rect_20 c_item c_items c_itemLevel c_treated c_from c_group c_turn c_size c_old c_aside c_begin c_level c_asides c_sorted c_spot c_rectangles c_parts c_visited)) (wr := []) (va_runV (As := [vI x6]) (rest := []) hF.1 (c_Mo_endOf l D cI cZ cT h_M q_M c_s c_past c_kept c_isKept c_pasts c_text c_typed c_rect_20 c_item c_items c_itemLevel c_treated c_from c_group c_turn c_size c_old c_aside c_begin c_level c_asides c_sorted c_spot c_rectangles c_parts c_visited x6 H.size (r_28) e_29) (cwV 1 hts (zgV wm922 wm924 wm40 wm89 wm925) rfl rfl rfl (by decide +kernel) ⟨Nat.le_of_ble_eq_true rfl, Nat.le_of_ble_eq_true rfl⟩) ⟨zP.blind, va_recv hK (z_subP (ws' := (zMo cI cZ (h_M) (q_M) (c_s) (c_past) (c_kept) (c_isKept) (c_pasts) (c_text) (c_typed) (c_rect_20) (c_item) (c_items) (c_itemLevel) (c_treated) (c_from) (c_group) (c_turn) (c_size) (c_old) (c_aside) (c_begin) (c_level) (c_asides) (c_sorted) (c_spot) (c_rectangles) (c_parts) (c_visited))) hP [0, 1, 2, 3, 4, 5, 6, 7, 8, 9, 10, 11, 12, 13, 14, 15, 16, 17, 18] rfl) (ci := 7) (q0 := 0) rfl rfl, zP.enter (z_subP (ws' := (zMo cI cZ (h_M) (q_M) (c_s) (c_past) (c_kept) (c_isKept) (c_pasts) (c_text) (c_typed) (c_rect_20) (c_item) (c_items) (c_itemLevel) (c_treated) (c_from) (c_group) (c_turn) (c_size) (c_old) (c_aside) (c_begin) (c_level) (c_asides) (c_sorted) (c_spot) (c_rectangles) (c_parts) (c_visited))) hP [0, 1, 2, 3, 4, 5, 6, 7, 8, 9, 10, 11, 12, 13, 14, 15, 16, 17, 18] rfl) hK (hD.sub [0, 1, 2, 3, 4, 5, 6, 7, 8, 9, 10, 11, 12, 13, 14, 15, 16, 17, 18] (by decide) rfl) hN⟩ rfl rfl hl.1 rfl (lv_room (Nat.le_of_ble_eq_true rfl)) dX7_chosen_113 ⟨Nat.le_refl _, Nat.le_refl _⟩) hP hD hS hA [0, 1, 2, 3, 4, 5, 6, 7, 8, 9, 10, 11, 12, 13, 14, 15, 16, 17, 18] [] [0, 1, 2, 3, 4, 5, 6, 7, 8, 9, 10, 11, 12, 13, 14, 15, 16, 17, 18] rfl rfl (by decide) (fun _ => rfl) (fun u_30 H locs hP hD hS hz => ?_)
        refine lv_istore (lv' := [(6, vI r_28), (4, vI r_23), (3, vI r_19), (2, vI x6), (8, vI r_23), (7, vI r_19), (0, .ref h_M), (5, vI x5)]) hx hb dX7_chosen_116 hl (by decide) rfl (fun ls hl => ?_)
        refine lv_goto (tgt := 48) hx hb dX7_chosen_118 (by decide) ?_
        exact ih (x6) (r_19) (r_23) (r_28) (c_rect_20) H locs ls h hP hD hS (lv_sub hl [6, 3, 2, 1, 7, 0] rfl)
      · have h := it_n b_27 h
        refine lv_iload hx hb dX7_chosen_81 (lv_at hl 1 rfl) ?_
        refine lv_iload_n hx hb dX7_chosen_83 rfl (lv_at hl 4 rfl) ?_
        obtain ⟨g_31, h⟩ := gd_e h
        obtain ⟨g_32, h⟩ := gd_e h
        refine z_icmp_lt (tgt := 100) hx hb g_31 g_32 dX7_chosen_84 (by decide) (fun b_33 => ?_) (fun b_33 => ?_)
        · have h := it_p b_33 h
          refine lv_iload hx hb dX7_chosen_100 (lv_at hl 7 rfl) ?_
          refine lv_istore_n (lv' := [(2, vI x6), (8, vI r_23), (7, vI r_19), (0, .ref h_M), (3, vI x3), (4, vI x4), (5, vI x5), (6, vI x6)]) hx hb dX7_chosen_102 rfl hl (by decide) rfl (fun ls hl => ?_)
          refine lv_iload hx hb dX7_chosen_103 (lv_at hl 2 rfl) ?_
          refine lv_istore_n (lv' := [(3, vI r_19), (2, vI x6), (8, vI r_23), (7, vI r_19), (0, .ref h_M), (4, vI x4), (5, vI x5), (6, vI x6)]) hx hb dX7_chosen_105 rfl hl (by decide) rfl (fun ls hl => ?_)
          refine lv_iload hx hb dX7_chosen_106 (lv_at hl 2 rfl) ?_
          refine lv_istore (lv' := [(4, vI r_23), (3, vI r_19), (2, vI x6), (8, vI r_23), (7, vI r_19), (0, .ref h_M), (5, vI x5), (6, vI x6)]) hx hb dX7_chosen_108 hl (by decide) rfl (fun ls hl => ?_)
          refine lv_aload_n hx hb dX7_chosen_110 rfl (lv_at hl 5 rfl) ?_
          refine lv_iload hx hb dX7_chosen_111 (lv_at hl 7 rfl) ?_
          obtain ⟨r_34, e_35, h⟩ := bd1_e h
          refine z_goi (ws' := []) (ret := r_34) (wc := (zMo cI cZ (h_M) (q_M) (c_s) (c_past) (c_kept) (c_isKept) (c_pasts) (c_text) (c_typed) (c_rect_20) (c_item) (c_items) (c_itemLevel) (c_treated) (c_from) (c_group) (c_turn) (c_size) (c_old) (c_aside) (c_begin) (c_level) (c_asides) (c_sorted) (c_spot) (c_rectangles) (c_parts) (c_visited))) (wn := fun u_36 => (zMo cI cZ h_M q_M c_s c_past c_kept c_isKept c_pasts c_text c_typed c_rect_20 c_item c_items c_itemLevel c_treated c_from c_group c_turn c_size c_old c_aside c_begin c_level c_asides c_sorted c_spot c_rectangles c_parts c_visited)) (wr := []) (va_runV (As := [vI x6]) (rest := []) hF.1 (c_Mo_endOf l D cI cZ cT h_M q_M c_s c_past c_kept c_isKept c_pasts c_text c_typed c_rect_20 c_item c_items c_itemLevel c_treated c_from c_group c_turn c_size c_old c_aside c_begin c_level c_asides c_sorted c_spot c_rectangles c_parts c_visited x6 H.size (r_34) e_35) (cwV 1 hts (zgV wm922 wm924 wm40 wm89 wm925) rfl rfl rfl (by decide +kernel) ⟨Nat.le_of_ble_eq_true rfl, Nat.le_of_ble_eq_true rfl⟩) ⟨zP.blind, va_recv hK (z_subP (ws' := (zMo cI cZ (h_M) (q_M) (c_s) (c_past) (c_kept) (c_isKept) (c_pasts) (c_text) (c_typed) (c_rect_20) (c_item) (c_items) (c_itemLevel) (c_treated) (c_from) (c_group) (c_turn) (c_size) (c_old) (c_aside) (c_begin) (c_level) (c_asides) (c_sorted) (c_spot) (c_rectangles) (c_parts) (c_visited))) hP [0, 1, 2, 3, 4, 5, 6, 7, 8, 9, 10, 11, 12, 13, 14, 15, 16, 17, 18] rfl) (ci := 7) (q0 := 0) rfl rfl, zP.enter (z_subP (ws' := (zMo cI cZ (h_M) (q_M) (c_s) (c_past) (c_kept) (c_isKept) (c_pasts) (c_text) (c_typed) (c_rect_20) (c_item) (c_items) (c_itemLevel) (c_treated) (c_from) (c_group) (c_turn) (c_size) (c_old) (c_aside) (c_begin) (c_level) (c_asides) (c_sorted) (c_spot) (c_rectangles) (c_parts) (c_visited))) hP [0, 1, 2, 3, 4, 5, 6, 7, 8, 9, 10, 11, 12, 13, 14, 15, 16, 17, 18] rfl) hK (hD.sub [0, 1, 2, 3, 4, 5, 6, 7, 8, 9, 10, 11, 12, 13, 14, 15, 16, 17, 18] (by decide) rfl) hN⟩ rfl rfl hl.1 rfl (lv_room (Nat.le_of_ble_eq_true rfl)) dX7_chosen_113 ⟨Nat.le_refl _, Nat.le_refl _⟩) hP hD hS hA [0, 1, 2, 3, 4, 5, 6, 7, 8, 9, 10, 11, 12, 13, 14, 15, 16, 17, 18] [] [0, 1, 2, 3, 4, 5, 6, 7, 8, 9, 10, 11, 12, 13, 14, 15, 16, 17, 18] rfl rfl (by decide) (fun _ => rfl) (fun u_36 H locs hP hD hS hz => ?_)
          refine lv_istore (lv' := [(6, vI r_34), (4, vI r_23), (3, vI r_19), (2, vI x6), (8, vI r_23), (7, vI r_19), (0, .ref h_M), (5, vI x5)]) hx hb dX7_chosen_116 hl (by decide) rfl (fun ls hl => ?_)
          refine lv_goto (tgt := 48) hx hb dX7_chosen_118 (by decide) ?_
          exact ih (x6) (r_19) (r_23) (r_34) (c_rect_20) H locs ls h hP hD hS (lv_sub hl [6, 3, 2, 1, 7, 0] rfl)
        · have h := it_n b_33 h
          refine lv_iload hx hb dX7_chosen_87 (lv_at hl 1 rfl) ?_
          refine lv_iload_n hx hb dX7_chosen_89 rfl (lv_at hl 4 rfl) ?_
          refine z_icmp_ne (tgt := 110) hx hb g_31 g_32 dX7_chosen_90 (by decide) (fun b_37 => ?_) (fun b_37 => ?_)
          · have h := it_n b_37 h
            refine lv_aload_n hx hb dX7_chosen_110 rfl (lv_at hl 2 rfl) ?_
            refine lv_iload hx hb dX7_chosen_111 (lv_at hl 7 rfl) ?_
            obtain ⟨r_38, e_39, h⟩ := bd1_e h
            refine z_goi (ws' := []) (ret := r_38) (wc := (zMo cI cZ (h_M) (q_M) (c_s) (c_past) (c_kept) (c_isKept) (c_pasts) (c_text) (c_typed) (c_rect_20) (c_item) (c_items) (c_itemLevel) (c_treated) (c_from) (c_group) (c_turn) (c_size) (c_old) (c_aside) (c_begin) (c_level) (c_asides) (c_sorted) (c_spot) (c_rectangles) (c_parts) (c_visited))) (wn := fun u_40 => (zMo cI cZ h_M q_M c_s c_past c_kept c_isKept c_pasts c_text c_typed c_rect_20 c_item c_items c_itemLevel c_treated c_from c_group c_turn c_size c_old c_aside c_begin c_level c_asides c_sorted c_spot c_rectangles c_parts c_visited)) (wr := []) (va_runV (As := [vI x6]) (rest := []) hF.1 (c_Mo_endOf l D cI cZ cT h_M q_M c_s c_past c_kept c_isKept c_pasts c_text c_typed c_rect_20 c_item c_items c_itemLevel c_treated c_from c_group c_turn c_size c_old c_aside c_begin c_level c_asides c_sorted c_spot c_rectangles c_parts c_visited x6 H.size (r_38) e_39) (cwV 1 hts (zgV wm922 wm924 wm40 wm89 wm925) rfl rfl rfl (by decide +kernel) ⟨Nat.le_of_ble_eq_true rfl, Nat.le_of_ble_eq_true rfl⟩) ⟨zP.blind, va_recv hK (z_subP (ws' := (zMo cI cZ (h_M) (q_M) (c_s) (c_past) (c_kept) (c_isKept) (c_pasts) (c_text) (c_typed) (c_rect_20) (c_item) (c_items) (c_itemLevel) (c_treated) (c_from) (c_group) (c_turn) (c_size) (c_old) (c_aside) (c_begin) (c_level) (c_asides) (c_sorted) (c_spot) (c_rectangles) (c_parts) (c_visited))) hP [0, 1, 2, 3, 4, 5, 6, 7, 8, 9, 10, 11, 12, 13, 14, 15, 16, 17, 18] rfl) (ci := 7) (q0 := 0) rfl rfl, zP.enter (z_subP (ws' := (zMo cI cZ (h_M) (q_M) (c_s) (c_past) (c_kept) (c_isKept) (c_pasts) (c_text) (c_typed) (c_rect_20) (c_item) (c_items) (c_itemLevel) (c_treated) (c_from) (c_group) (c_turn) (c_size) (c_old) (c_aside) (c_begin) (c_level) (c_asides) (c_sorted) (c_spot) (c_rectangles) (c_parts) (c_visited))) hP [0, 1, 2, 3, 4, 5, 6, 7, 8, 9, 10, 11, 12, 13, 14, 15, 16, 17, 18] rfl) hK (hD.sub [0, 1, 2, 3, 4, 5, 6, 7, 8, 9, 10, 11, 12, 13, 14, 15, 16, 17, 18] (by decide) rfl) hN⟩ rfl rfl hl.1 rfl (lv_room (Nat.le_of_ble_eq_true rfl)) dX7_chosen_113 ⟨Nat.le_refl _, Nat.le_refl _⟩) hP hD hS hA [0, 1, 2, 3, 4, 5, 6, 7, 8, 9, 10, 11, 12, 13, 14, 15, 16, 17, 18] [] [0, 1, 2, 3, 4, 5, 6, 7, 8, 9, 10, 11, 12, 13, 14, 15, 16, 17, 18] rfl rfl (by decide) (fun _ => rfl) (fun u_40 H locs hP hD hS hz => ?_)
            refine lv_istore (lv' := [(6, vI r_38), (8, vI r_23), (7, vI r_19), (0, .ref h_M), (2, vI x2), (3, vI x3), (4, vI x4), (5, vI x5)]) hx hb dX7_chosen_116 hl (by decide) rfl (fun ls hl => ?_)
            refine lv_goto (tgt := 48) hx hb dX7_chosen_118 (by decide) ?_
            exact ih (x2) (x3) (x4) (r_38) (c_rect_20) H locs ls h hP hD hS (lv_sub hl [3, 4, 5, 6, 7, 0] rfl)
          · have h := it_p b_37 h
            refine lv_iload hx hb dX7_chosen_93 (lv_at hl 0 rfl) ?_
            refine lv_iload hx hb dX7_chosen_95 (lv_at hl 5 rfl) ?_
            obtain ⟨g_41, h⟩ := gd_e h
            obtain ⟨g_42, h⟩ := gd_e h
            refine z_icmp_ge (tgt := 110) hx hb g_41 g_42 dX7_chosen_97 (by decide) (fun b_43 => ?_) (fun b_43 => ?_)
            · have h := it_n b_43 h
              refine lv_aload_n hx hb dX7_chosen_110 rfl (lv_at hl 2 rfl) ?_
              refine lv_iload hx hb dX7_chosen_111 (lv_at hl 7 rfl) ?_
              obtain ⟨r_44, e_45, h⟩ := bd1_e h
              refine z_goi (ws' := []) (ret := r_44) (wc := (zMo cI cZ (h_M) (q_M) (c_s) (c_past) (c_kept) (c_isKept) (c_pasts) (c_text) (c_typed) (c_rect_20) (c_item) (c_items) (c_itemLevel) (c_treated) (c_from) (c_group) (c_turn) (c_size) (c_old) (c_aside) (c_begin) (c_level) (c_asides) (c_sorted) (c_spot) (c_rectangles) (c_parts) (c_visited))) (wn := fun u_46 => (zMo cI cZ h_M q_M c_s c_past c_kept c_isKept c_pasts c_text c_typed c_rect_20 c_item c_items c_itemLevel c_treated c_from c_group c_turn c_size c_old c_aside c_begin c_level c_asides c_sorted c_spot c_rectangles c_parts c_visited)) (wr := []) (va_runV (As := [vI x6]) (rest := []) hF.1 (c_Mo_endOf l D cI cZ cT h_M q_M c_s c_past c_kept c_isKept c_pasts c_text c_typed c_rect_20 c_item c_items c_itemLevel c_treated c_from c_group c_turn c_size c_old c_aside c_begin c_level c_asides c_sorted c_spot c_rectangles c_parts c_visited x6 H.size (r_44) e_45) (cwV 1 hts (zgV wm922 wm924 wm40 wm89 wm925) rfl rfl rfl (by decide +kernel) ⟨Nat.le_of_ble_eq_true rfl, Nat.le_of_ble_eq_true rfl⟩) ⟨zP.blind, va_recv hK (z_subP (ws' := (zMo cI cZ (h_M) (q_M) (c_s) (c_past) (c_kept) (c_isKept) (c_pasts) (c_text) (c_typed) (c_rect_20) (c_item) (c_items) (c_itemLevel) (c_treated) (c_from) (c_group) (c_turn) (c_size) (c_old) (c_aside) (c_begin) (c_level) (c_asides) (c_sorted) (c_spot) (c_rectangles) (c_parts) (c_visited))) hP [0, 1, 2, 3, 4, 5, 6, 7, 8, 9, 10, 11, 12, 13, 14, 15, 16, 17, 18] rfl) (ci := 7) (q0 := 0) rfl rfl, zP.enter (z_subP (ws' := (zMo cI cZ (h_M) (q_M) (c_s) (c_past) (c_kept) (c_isKept) (c_pasts) (c_text) (c_typed) (c_rect_20) (c_item) (c_items) (c_itemLevel) (c_treated) (c_from) (c_group) (c_turn) (c_size) (c_old) (c_aside) (c_begin) (c_level) (c_asides) (c_sorted) (c_spot) (c_rectangles) (c_parts) (c_visited))) hP [0, 1, 2, 3, 4, 5, 6, 7, 8, 9, 10, 11, 12, 13, 14, 15, 16, 17, 18] rfl) hK (hD.sub [0, 1, 2, 3, 4, 5, 6, 7, 8, 9, 10, 11, 12, 13, 14, 15, 16, 17, 18] (by decide) rfl) hN⟩ rfl rfl hl.1 rfl (lv_room (Nat.le_of_ble_eq_true rfl)) dX7_chosen_113 ⟨Nat.le_refl _, Nat.le_refl _⟩) hP hD hS hA [0, 1, 2, 3, 4, 5, 6, 7, 8, 9, 10, 11, 12, 13, 14, 15, 16, 17, 18] [] [0, 1, 2, 3, 4, 5, 6, 7, 8, 9, 10, 11, 12, 13, 14, 15, 16, 17, 18] rfl rfl (by decide) (fun _ => rfl) (fun u_46 H locs hP hD hS hz => ?_)
              refine lv_istore (lv' := [(6, vI r_44), (8, vI r_23), (7, vI r_19), (0, .ref h_M), (2, vI x2), (3, vI x3), (4, vI x4), (5, vI x5)]) hx hb dX7_chosen_116 hl (by decide) rfl (fun ls hl => ?_)
              refine lv_goto (tgt := 48) hx hb dX7_chosen_118 (by decide) ?_
              exact ih (x2) (x3) (x4) (r_44) (c_rect_20) H locs ls h hP hD hS (lv_sub hl [3, 4, 5, 6, 7, 0] rfl)
            · have h := it_p b_43 h
              refine lv_iload hx hb dX7_chosen_100 (lv_at hl 7 rfl) ?_
              refine lv_istore_n (lv' := [(2, vI x6), (8, vI r_23), (7, vI r_19), (0, .ref h_M), (3, vI x3), (4, vI x4), (5, vI x5), (6, vI x6)]) hx hb dX7_chosen_102 rfl hl (by decide) rfl (fun ls hl => ?_)
              refine lv_iload hx hb dX7_chosen_103 (lv_at hl 2 rfl) ?_
              refine lv_istore_n (lv' := [(3, vI r_19), (2, vI x6), (8, vI r_23), (7, vI r_19), (0, .ref h_M), (4, vI x4), (5, vI x5), (6, vI x6)]) hx hb dX7_chosen_105 rfl hl (by decide) rfl (fun ls hl => ?_)
              refine lv_iload hx hb dX7_chosen_106 (lv_at hl 2 rfl) ?_
              refine lv_istore (lv' := [(4, vI r_23), (3, vI r_19), (2, vI x6), (8, vI r_23), (7, vI r_19), (0, .ref h_M), (5, vI x5), (6, vI x6)]) hx hb dX7_chosen_108 hl (by decide) rfl (fun ls hl => ?_)
              refine lv_aload_n hx hb dX7_chosen_110 rfl (lv_at hl 5 rfl) ?_
              refine lv_iload hx hb dX7_chosen_111 (lv_at hl 7 rfl) ?_
              obtain ⟨r_47, e_48, h⟩ := bd1_e h
              refine z_goi (ws' := []) (ret := r_47) (wc := (zMo cI cZ (h_M) (q_M) (c_s) (c_past) (c_kept) (c_isKept) (c_pasts) (c_text) (c_typed) (c_rect_20) (c_item) (c_items) (c_itemLevel) (c_treated) (c_from) (c_group) (c_turn) (c_size) (c_old) (c_aside) (c_begin) (c_level) (c_asides) (c_sorted) (c_spot) (c_rectangles) (c_parts) (c_visited))) (wn := fun u_49 => (zMo cI cZ h_M q_M c_s c_past c_kept c_isKept c_pasts c_text c_typed c_rect_20 c_item c_items c_itemLevel c_treated c_from c_group c_turn c_size c_old c_aside c_begin c_level c_asides c_sorted c_spot c_rectangles c_parts c_visited)) (wr := []) (va_runV (As := [vI x6]) (rest := []) hF.1 (c_Mo_endOf l D cI cZ cT h_M q_M c_s c_past c_kept c_isKept c_pasts c_text c_typed c_rect_20 c_item c_items c_itemLevel c_treated c_from c_group c_turn c_size c_old c_aside c_begin c_level c_asides c_sorted c_spot c_rectangles c_parts c_visited x6 H.size (r_47) e_48) (cwV 1 hts (zgV wm922 wm924 wm40 wm89 wm925) rfl rfl rfl (by decide +kernel) ⟨Nat.le_of_ble_eq_true rfl, Nat.le_of_ble_eq_true rfl⟩) ⟨zP.blind, va_recv hK (z_subP (ws' := (zMo cI cZ (h_M) (q_M) (c_s) (c_past) (c_kept) (c_isKept) (c_pasts) (c_text) (c_typed) (c_rect_20) (c_item) (c_items) (c_itemLevel) (c_treated) (c_from) (c_group) (c_turn) (c_size) (c_old) (c_aside) (c_begin) (c_level) (c_asides) (c_sorted) (c_spot) (c_rectangles) (c_parts) (c_visited))) hP [0, 1, 2, 3, 4, 5, 6, 7, 8, 9, 10, 11, 12, 13, 14, 15, 16, 17, 18] rfl) (ci := 7) (q0 := 0) rfl rfl, zP.enter (z_subP (ws' := (zMo cI cZ (h_M) (q_M) (c_s) (c_past) (c_kept) (c_isKept) (c_pasts) (c_text) (c_typed) (c_rect_20) (c_item) (c_items) (c_itemLevel) (c_treated) (c_from) (c_group) (c_turn) (c_size) (c_old) (c_aside) (c_begin) (c_level) (c_asides) (c_sorted) (c_spot) (c_rectangles) (c_parts) (c_visited))) hP [0, 1, 2, 3, 4, 5, 6, 7, 8, 9, 10, 11, 12, 13, 14, 15, 16, 17, 18] rfl) hK (hD.sub [0, 1, 2, 3, 4, 5, 6, 7, 8, 9, 10, 11, 12, 13, 14, 15, 16, 17, 18] (by decide) rfl) hN⟩ rfl rfl hl.1 rfl (lv_room (Nat.le_of_ble_eq_true rfl)) dX7_chosen_113 ⟨Nat.le_refl _, Nat.le_refl _⟩) hP hD hS hA [0, 1, 2, 3, 4, 5, 6, 7, 8, 9, 10, 11, 12, 13, 14, 15, 16, 17, 18] [] [0, 1, 2, 3, 4, 5, 6, 7, 8, 9, 10, 11, 12, 13, 14, 15, 16, 17, 18] rfl rfl (by decide) (fun _ => rfl) (fun u_49 H locs hP hD hS hz => ?_)
              refine lv_istore (lv' := [(6, vI r_47), (4, vI r_23), (3, vI r_19), (2, vI x6), (8, vI r_23), (7, vI r_19), (0, .ref h_M), (5, vI x5)]) hx hb dX7_chosen_116 hl (by decide) rfl (fun ls hl => ?_)
              refine lv_goto (tgt := 48) hx hb dX7_chosen_118 (by decide) ?_
              exact ih (x6) (r_19) (r_23) (r_47) (c_rect_20) H locs ls h hP hD hS (lv_sub hl [6, 3, 2, 1, 7, 0] rfl)
set_option maxHeartbeats 4000000 in
set_option maxRecDepth 100000 in
theorem w_Mo_chosen_L16 {p : Program} {l : Launch} {e : Env} {s : State} {m : MethodId} {args : Array Value} {below : List Frame} {meth : Method} {c : Code} {A : Nat → Prop} (D : va_G) (cI cZ cT : ClassId) (h_M : Nat) (q_M : Nat → Nat) (c_s : Nat → Int) (c_past : Nat → Int) (c_kept : Nat → Int) (c_isKept : Int) (c_pasts : Int) (c_text : Nat → Int) (c_typed : Int) (c_item : Nat → Int) (c_items : Int) (c_itemLevel : Int) (c_treated : Nat → Int) (c_from : Nat → Int) (c_group : Nat → Int) (c_turn : Nat → Int) (c_size : Nat → Int) (c_old : Nat → Int) (c_aside : Nat → Int) (c_begin : Nat → Int) (c_level : Nat → Int) (c_asides : Int) (c_sorted : Nat → Int) (c_spot : Int) (c_rectangles : Int) (c_parts : Nat → Int) (c_visited : Nat → Int) (res : Int × (Nat → Int)) (k : Int → (Nat → Int) → Option (Int × (Nat → Int))) (hF : zF p m c cX7_chosen 9 s args yX7_chosen.cls meth (some .int) yX7_chosen.name A D (zt cI cZ cT))
    (hk : ∀ (x1 : Int) (c_rect : Nat → Int) (H : Heap) (locs : List Loc) (ls : Array Slot), k x1 c_rect = some res → va_P D vwCl ((zMo cI cZ h_M q_M c_s c_past c_kept c_isKept c_pasts c_text c_typed c_rect c_item c_items c_itemLevel c_treated c_from c_group c_turn c_size c_old c_aside c_begin c_level c_asides c_sorted c_spot c_rectangles c_parts c_visited)) H → va_D A ((zMo cI cZ h_M q_M c_s c_past c_kept c_isKept c_pasts c_text c_typed c_rect c_item c_items c_itemLevel c_treated c_from c_group c_turn c_size c_old c_aside c_begin c_level c_asides c_sorted c_spot c_rectangles c_parts c_visited)) → va_S A s.heap H locs → lv_has ls 9 [(1, vI x1)] → W p l e rm_Mo_chosen s m args below meth c H locs 0 0 (MQ below (zQi D (res.1) (fun u => (zMo cI cZ h_M q_M c_s c_past c_kept c_isKept c_pasts c_text c_typed (res.2) c_item c_items c_itemLevel c_treated c_from c_group c_turn c_size c_old c_aside c_begin c_level c_asides c_sorted c_spot c_rectangles c_parts c_visited)) A) args s 0 0 A) (F0 m 126 ls [])) :
    ∀ (n : Nat) (x1 : Int) (c_rect : Nat → Int) (H : Heap) (locs : List Loc) (ls : Array Slot), f_Mo_chosen_L16 c_s c_itemLevel k n x1 c_rect = some res → va_P D vwCl ((zMo cI cZ h_M q_M c_s c_past c_kept c_isKept c_pasts c_text c_typed c_rect c_item c_items c_itemLevel c_treated c_from c_group c_turn c_size c_old c_aside c_begin c_level c_asides c_sorted c_spot c_rectangles c_parts c_visited)) H → va_D A ((zMo cI cZ h_M q_M c_s c_past c_kept c_isKept c_pasts c_text c_typed c_rect c_item c_items c_itemLevel c_treated c_from c_group c_turn c_size c_old c_aside c_begin c_level c_asides c_sorted c_spot c_rectangles c_parts c_visited)) → va_S A s.heap H locs → lv_has ls 9 [(0, .ref h_M), (1, vI x1)] → W p l e rm_Mo_chosen s m args below meth c H locs 0 0 (MQ below (zQi D (res.1) (fun u => (zMo cI cZ h_M q_M c_s c_past c_kept c_isKept c_pasts c_text c_typed (res.2) c_item c_items c_itemLevel c_treated c_from c_group c_turn c_size c_old c_aside c_begin c_level c_asides c_sorted c_spot c_rectangles c_parts c_visited)) A) args s 0 0 A) (F0 m 16 ls []) := by
  have hx := hF.1.1
  have hb := hF.1.2.1
  have hml := hF.1.2.2.1
  have hown : s.vm.findClass "RectangleTreeModel" = some m.cls := hF.1.2.2.2.1
  have hts := hF.1.2.2.2.2
  have hr := hF.2.1
  have hlk := hF.2.2.1
  have hK := hF.2.2.2.2.1
  have hN := hF.2.2.2.2.2.1
  have hA := hF.2.2.2.2.2.2
  intro n
  induction n with
  | zero => intro x1 c_rect H locs ls h; cases h
  | succ n ih =>
    intro x1 c_rect H locs ls h hP hD hS hl
    rw [f_Mo_chosen_L16] at h
    refine lv_aload_n hx hb dX7_chosen_16 rfl (lv_at hl 0 rfl) ?_
    refine lv_iload_n hx hb dX7_chosen_17 rfl (lv_at hl 1 rfl) ?_
    obtain ⟨r_4, e_5, h⟩ := bd1_e h
    refine z_goi (ws' := []) (ret := r_4) (wc := (zMo cI cZ (h_M) (q_M) (c_s) (c_past) (c_kept) (c_isKept) (c_pasts) (c_text) (c_typed) (c_rect) (c_item) (c_items) (c_itemLevel) (c_treated) (c_from) (c_group) (c_turn) (c_size) (c_old) (c_aside) (c_begin) (c_level) (c_asides) (c_sorted) (c_spot) (c_rectangles) (c_parts) (c_visited))) (wn := fun u_6 => (zMo cI cZ h_M q_M c_s c_past c_kept c_isKept c_pasts c_text c_typed c_rect c_item c_items c_itemLevel c_treated c_from c_group c_turn c_size c_old c_aside c_begin c_level c_asides c_sorted c_spot c_rectangles c_parts c_visited)) (wr := []) (va_runV (As := [vI x1]) (rest := []) hF.1 (c_Mo_levelAt l D cI cZ cT h_M q_M c_s c_past c_kept c_isKept c_pasts c_text c_typed c_rect c_item c_items c_itemLevel c_treated c_from c_group c_turn c_size c_old c_aside c_begin c_level c_asides c_sorted c_spot c_rectangles c_parts c_visited x1 H.size (r_4) e_5) (cwV 1 hts (zgV wm911 wm913 wm38 wm89 wm914) rfl rfl rfl (by decide +kernel) ⟨Nat.le_of_ble_eq_true rfl, Nat.le_of_ble_eq_true rfl⟩) ⟨zP.blind, va_recv hK (z_subP (ws' := (zMo cI cZ (h_M) (q_M) (c_s) (c_past) (c_kept) (c_isKept) (c_pasts) (c_text) (c_typed) (c_rect) (c_item) (c_items) (c_itemLevel) (c_treated) (c_from) (c_group) (c_turn) (c_size) (c_old) (c_aside) (c_begin) (c_level) (c_asides) (c_sorted) (c_spot) (c_rectangles) (c_parts) (c_visited))) hP [0, 1, 2, 3, 4, 5, 6, 7, 8, 9, 10, 11, 12, 13, 14, 15, 16, 17, 18] rfl) (ci := 7) (q0 := 0) rfl rfl, zP.enter (z_subP (ws' := (zMo cI cZ (h_M) (q_M) (c_s) (c_past) (c_kept) (c_isKept) (c_pasts) (c_text) (c_typed) (c_rect) (c_item) (c_items) (c_itemLevel) (c_treated) (c_from) (c_group) (c_turn) (c_size) (c_old) (c_aside) (c_begin) (c_level) (c_asides) (c_sorted) (c_spot) (c_rectangles) (c_parts) (c_visited))) hP [0, 1, 2, 3, 4, 5, 6, 7, 8, 9, 10, 11, 12, 13, 14, 15, 16, 17, 18] rfl) hK (hD.sub [0, 1, 2, 3, 4, 5, 6, 7, 8, 9, 10, 11, 12, 13, 14, 15, 16, 17, 18] (by decide) rfl) hN⟩ rfl rfl hl.1 rfl (lv_room (Nat.le_of_ble_eq_true rfl)) dX7_chosen_18 ⟨Nat.le_refl _, Nat.le_refl _⟩) hP hD hS hA [0, 1, 2, 3, 4, 5, 6, 7, 8, 9, 10, 11, 12, 13, 14, 15, 16, 17, 18] [] [0, 1, 2, 3, 4, 5, 6, 7, 8, 9, 10, 11, 12, 13, 14, 15, 16, 17, 18] rfl rfl (by decide) (fun _ => rfl) (fun u_6 H locs hP hD hS hz => ?_)
    refine lv_aload_n hx hb dX7_chosen_21 rfl (lv_at hl 0 rfl) ?_
    refine va_get (D := D) (ci := 7) (v := vI c_itemLevel) (C := RX7) (T := TX7) (N := 26) hx hb hts zin7 hown hK hP 0 rfl rfl 10 (by decide) (hts _ wm797) (fun _ h9 => h9) rfl dX7_chosen_22 ?_
    obtain ⟨g_7, h⟩ := gd_e h
    obtain ⟨g_8, h⟩ := gd_e h
    refine z_icmp_le (tgt := 126) hx hb g_7 g_8 dX7_chosen_25 (by decide) (fun b_9 => ?_) (fun b_9 => ?_)
    · have h := it_n b_9 h
      exact hk (x1) (c_rect) H locs ls h hP hD hS (lv_sub hl [1] rfl)
    · have h := it_p b_9 h
      refine lv_bipush (v := Int32.ofInt (-5)) hx hb dX7_chosen_28 (by decide +kernel) ?_
      refine lv_istore_n (lv' := [(2, vI (-5)), (0, .ref h_M), (1, vI x1)]) hx hb dX7_chosen_30 rfl hl (by decide) rfl (fun ls hl => ?_)
      refine lv_iconst (v := Int32.ofInt 0) hx hb dX7_chosen_31 rfl ?_
      refine lv_istore_n (lv' := [(3, vI 0), (2, vI (-5)), (0, .ref h_M), (1, vI x1)]) hx hb dX7_chosen_32 rfl hl (by decide) rfl (fun ls hl => ?_)
      refine lv_iconst (v := Int32.ofInt 0) hx hb dX7_chosen_33 rfl ?_
      refine lv_istore (lv' := [(4, vI 0), (3, vI 0), (2, vI (-5)), (0, .ref h_M), (1, vI x1)]) hx hb dX7_chosen_34 hl (by decide) rfl (fun ls hl => ?_)
      refine lv_aload_n hx hb dX7_chosen_36 rfl (lv_at hl 3 rfl) ?_
      refine lv_iload_n hx hb dX7_chosen_37 rfl (lv_at hl 4 rfl) ?_
      obtain ⟨r_10, e_11, h⟩ := bd1_e h
      refine z_goi (ws' := []) (ret := r_10) (wc := (zMo cI cZ (h_M) (q_M) (c_s) (c_past) (c_kept) (c_isKept) (c_pasts) (c_text) (c_typed) (c_rect) (c_item) (c_items) (c_itemLevel) (c_treated) (c_from) (c_group) (c_turn) (c_size) (c_old) (c_aside) (c_begin) (c_level) (c_asides) (c_sorted) (c_spot) (c_rectangles) (c_parts) (c_visited))) (wn := fun u_12 => (zMo cI cZ h_M q_M c_s c_past c_kept c_isKept c_pasts c_text c_typed c_rect c_item c_items c_itemLevel c_treated c_from c_group c_turn c_size c_old c_aside c_begin c_level c_asides c_sorted c_spot c_rectangles c_parts c_visited)) (wr := []) (va_runV (As := [vI x1]) (rest := []) hF.1 (c_Mo_endOf l D cI cZ cT h_M q_M c_s c_past c_kept c_isKept c_pasts c_text c_typed c_rect c_item c_items c_itemLevel c_treated c_from c_group c_turn c_size c_old c_aside c_begin c_level c_asides c_sorted c_spot c_rectangles c_parts c_visited x1 H.size (r_10) e_11) (cwV 1 hts (zgV wm922 wm924 wm40 wm89 wm925) rfl rfl rfl (by decide +kernel) ⟨Nat.le_of_ble_eq_true rfl, Nat.le_of_ble_eq_true rfl⟩) ⟨zP.blind, va_recv hK (z_subP (ws' := (zMo cI cZ (h_M) (q_M) (c_s) (c_past) (c_kept) (c_isKept) (c_pasts) (c_text) (c_typed) (c_rect) (c_item) (c_items) (c_itemLevel) (c_treated) (c_from) (c_group) (c_turn) (c_size) (c_old) (c_aside) (c_begin) (c_level) (c_asides) (c_sorted) (c_spot) (c_rectangles) (c_parts) (c_visited))) hP [0, 1, 2, 3, 4, 5, 6, 7, 8, 9, 10, 11, 12, 13, 14, 15, 16, 17, 18] rfl) (ci := 7) (q0 := 0) rfl rfl, zP.enter (z_subP (ws' := (zMo cI cZ (h_M) (q_M) (c_s) (c_past) (c_kept) (c_isKept) (c_pasts) (c_text) (c_typed) (c_rect) (c_item) (c_items) (c_itemLevel) (c_treated) (c_from) (c_group) (c_turn) (c_size) (c_old) (c_aside) (c_begin) (c_level) (c_asides) (c_sorted) (c_spot) (c_rectangles) (c_parts) (c_visited))) hP [0, 1, 2, 3, 4, 5, 6, 7, 8, 9, 10, 11, 12, 13, 14, 15, 16, 17, 18] rfl) hK (hD.sub [0, 1, 2, 3, 4, 5, 6, 7, 8, 9, 10, 11, 12, 13, 14, 15, 16, 17, 18] (by decide) rfl) hN⟩ rfl rfl hl.1 rfl (lv_room (Nat.le_of_ble_eq_true rfl)) dX7_chosen_38 ⟨Nat.le_refl _, Nat.le_refl _⟩) hP hD hS hA [0, 1, 2, 3, 4, 5, 6, 7, 8, 9, 10, 11, 12, 13, 14, 15, 16, 17, 18] [] [0, 1, 2, 3, 4, 5, 6, 7, 8, 9, 10, 11, 12, 13, 14, 15, 16, 17, 18] rfl rfl (by decide) (fun _ => rfl) (fun u_12 H locs hP hD hS hz => ?_)
      refine lv_istore (lv' := [(5, vI r_10), (4, vI 0), (3, vI 0), (2, vI (-5)), (0, .ref h_M), (1, vI x1)]) hx hb dX7_chosen_41 hl (by decide) rfl (fun ls hl => ?_)
      refine lv_iload_n hx hb dX7_chosen_43 rfl (lv_at hl 5 rfl) ?_
      refine lv_iconst (v := Int32.ofInt 1) hx hb dX7_chosen_44 rfl ?_
      refine z_iadd hx hb dX7_chosen_45 ?_
      refine lv_istore (lv' := [(6, vI (x1 + 1)), (5, vI r_10), (4, vI 0), (3, vI 0), (2, vI (-5)), (0, .ref h_M), (1, vI x1)]) hx hb dX7_chosen_46 hl (by decide) rfl (fun ls hl => ?_)
      refine w_Mo_chosen_L48 D cI cZ cT (h_M) (q_M) (c_s) (c_past) (c_kept) (c_isKept) (c_pasts) (c_text) (c_typed) (c_item) (c_items) (c_itemLevel) (c_treated) (c_from) (c_group) (c_turn) (c_size) (c_old) (c_aside) (c_begin) (c_level) (c_asides) (c_sorted) (c_spot) (c_rectangles) (c_parts) (c_visited) (r_10) _ _ hF (fun x2_50 x3_51 x4_52 x6_53 c_rect_54 H locs ls h hP hD hS hl => ?_) _ ((-5)) (0) (0) ((x1 + 1)) (c_rect) _ _ _ h hP hD hS (lv_sub hl [5, 4, 3, 2, 1, 0] rfl)
      refine lv_iload_n hx hb dX7_chosen_121 rfl (lv_at hl 1 rfl) ?_
      refine lv_istore_n (lv' := [(1, vI x2_50), (0, .ref h_M), (2, vI x2_50)]) hx hb dX7_chosen_122 rfl hl (by decide) rfl (fun ls hl => ?_)
      refine lv_goto (tgt := 16) hx hb dX7_chosen_123 (by decide) ?_
      exact ih (x2_50) (c_rect_54) H locs ls h hP hD hS (lv_sub hl [1, 0] rfl)
set_option maxHeartbeats 4000000 in
set_option maxRecDepth 100000 in
theorem c_Mo_chosen (l : Launch) (D : va_G) (cI cZ cT : ClassId) (h_M : Nat) (q_M : Nat → Nat) (c_s : Nat → Int) (c_past : Nat → Int) (c_kept : Nat → Int) (c_isKept : Int) (c_pasts : Int) (c_text : Nat → Int) (c_typed : Int) (c_rect : Nat → Int) (c_item : Nat → Int) (c_items : Int) (c_itemLevel : Int) (c_treated : Nat → Int) (c_from : Nat → Int) (c_group : Nat → Int) (c_turn : Nat → Int) (c_size : Nat → Int) (c_old : Nat → Int) (c_aside : Nat → Int) (c_begin : Nat → Int) (c_level : Nat → Int) (c_asides : Int) (c_sorted : Nat → Int) (c_spot : Int) (c_rectangles : Int) (c_parts : Nat → Int) (c_visited : Nat → Int) (sz : Nat) (res : Int × (Nat → Int)) (h : f_Mo_chosen c_s c_rect c_item c_items c_itemLevel = some res) : zMi l yX7_chosen cX7_chosen 9 rm_Mo_chosen D (zt cI cZ cT) [.ref h_M] ((zMo cI cZ h_M q_M c_s c_past c_kept c_isKept c_pasts c_text c_typed c_rect c_item c_items c_itemLevel c_treated c_from c_group c_turn c_size c_old c_aside c_begin c_level c_asides c_sorted c_spot c_rectangles c_parts c_visited)) sz (res.1) (fun u => (zMo cI cZ h_M q_M c_s c_past c_kept c_isKept c_pasts c_text c_typed (res.2) c_item c_items c_itemLevel c_treated c_from c_group c_turn c_size c_old c_aside c_begin c_level c_asides c_sorted c_spot c_rectangles c_parts c_visited)) 0 0 := by
  refine z_enth (Qc := zQi D (res.1) (fun u => (zMo cI cZ h_M q_M c_s c_past c_kept c_isKept c_pasts c_text c_typed (res.2) c_item c_items c_itemLevel c_treated c_from c_group c_turn c_size c_old c_aside c_begin c_level c_asides c_sorted c_spot c_rectangles c_parts c_visited))) (by decide) (Nat.le_of_ble_eq_true rfl) (fun p e s m args below meth c A ls H locs hF hP hD hS hl => ?_)
  have hx := hF.1.1
  have hb := hF.1.2.1
  have hml := hF.1.2.2.1
  have hown : s.vm.findClass "RectangleTreeModel" = some m.cls := hF.1.2.2.2.1
  have hts := hF.1.2.2.2.2
  have hr := hF.2.1
  have hlk := hF.2.2.1
  have hK := hF.2.2.2.2.1
  have hN := hF.2.2.2.2.2.1
  have hA := hF.2.2.2.2.2.2
  unfold f_Mo_chosen at h
  refine lv_iconst (v := Int32.ofInt 0) hx hb dX7_chosen_0 rfl ?_
  refine lv_istore_n (lv' := [(1, vI 0), (0, .ref h_M)]) hx hb dX7_chosen_1 rfl hl (by decide) rfl (fun ls hl => ?_)
  refine lv_aload_n hx hb dX7_chosen_2 rfl (lv_at hl 1 rfl) ?_
  refine lv_aload_n hx hb dX7_chosen_3 rfl (lv_at hl 1 rfl) ?_
  refine va_get (D := D) (ci := 7) (v := .ref (q_M 5)) (C := RX7) (T := TX7) (N := 26) hx hb hts zin7 hown hK hP 0 rfl rfl 8 (by decide) (hts _ wm795) (fun _ h9 => h9) rfl dX7_chosen_4 ?_
  refine lv_iconst (v := Int32.ofInt 0) hx hb dX7_chosen_7 rfl ?_
  refine lv_aload_n hx hb dX7_chosen_8 rfl (lv_at hl 1 rfl) ?_
  refine va_get (D := D) (ci := 7) (v := vI c_items) (C := RX7) (T := TX7) (N := 26) hx hb hts zin7 hown hK hP 0 rfl rfl 9 (by decide) (hts _ wm796) (fun _ h9 => h9) rfl dX7_chosen_9 ?_
  refine lv_iconst (v := Int32.ofInt 0) hx hb dX7_chosen_12 rfl ?_
  obtain ⟨c_rect_1, e_2, h⟩ := bd1_e h
  refine z_gov (wc := (zMo cI cZ (h_M) (q_M) (c_s) (c_past) (c_kept) (c_isKept) (c_pasts) (c_text) (c_typed) (c_rect) (c_item) (c_items) (c_itemLevel) (c_treated) (c_from) (c_group) (c_turn) (c_size) (c_old) (c_aside) (c_begin) (c_level) (c_asides) (c_sorted) (c_spot) (c_rectangles) (c_parts) (c_visited))) (wn := fun u_3 => (zMo cI cZ h_M q_M c_s c_past c_kept c_isKept c_pasts c_text c_typed c_rect_1 c_item c_items c_itemLevel c_treated c_from c_group c_turn c_size c_old c_aside c_begin c_level c_asides c_sorted c_spot c_rectangles c_parts c_visited)) (wr := []) (va_runV (As := [.ref (q_M 5), vI 0, vI c_items, vI 0]) (rest := []) hF.1 (c_Mo_bounds_item l D cI cZ cT h_M q_M c_s c_past c_kept c_isKept c_pasts c_text c_typed c_rect c_item c_items c_itemLevel c_treated c_from c_group c_turn c_size c_old c_aside c_begin c_level c_asides c_sorted c_spot c_rectangles c_parts c_visited 0 c_items 0 H.size (c_rect_1) e_2) (cwV 4 hts (zgV wm901 wm903 wm37 wm89 wm904) rfl rfl rfl (by decide +kernel) ⟨Nat.le_of_ble_eq_true rfl, Nat.le_of_ble_eq_true rfl⟩) ⟨zP.blind, va_recv hK (z_subP (ws' := (zMo cI cZ (h_M) (q_M) (c_s) (c_past) (c_kept) (c_isKept) (c_pasts) (c_text) (c_typed) (c_rect) (c_item) (c_items) (c_itemLevel) (c_treated) (c_from) (c_group) (c_turn) (c_size) (c_old) (c_aside) (c_begin) (c_level) (c_asides) (c_sorted) (c_spot) (c_rectangles) (c_parts) (c_visited))) hP [0, 1, 2, 3, 4, 5, 6, 7, 8, 9, 10, 11, 12, 13, 14, 15, 16, 17, 18] rfl) (ci := 7) (q0 := 0) rfl rfl, zP.enter (z_subP (ws' := (zMo cI cZ (h_M) (q_M) (c_s) (c_past) (c_kept) (c_isKept) (c_pasts) (c_text) (c_typed) (c_rect) (c_item) (c_items) (c_itemLevel) (c_treated) (c_from) (c_group) (c_turn) (c_size) (c_old) (c_aside) (c_begin) (c_level) (c_asides) (c_sorted) (c_spot) (c_rectangles) (c_parts) (c_visited))) hP [0, 1, 2, 3, 4, 5, 6, 7, 8, 9, 10, 11, 12, 13, 14, 15, 16, 17, 18] rfl) hK (hD.sub [0, 1, 2, 3, 4, 5, 6, 7, 8, 9, 10, 11, 12, 13, 14, 15, 16, 17, 18] (by decide) rfl) hN⟩ rfl rfl hl.1 rfl (lv_room (Nat.le_of_ble_eq_true rfl)) dX7_chosen_13 ⟨Nat.le_refl _, Nat.le_refl _⟩) hP hD hS hA [0, 1, 2, 3, 4, 5, 6, 7, 8, 9, 10, 11, 12, 13, 14, 15, 16, 17, 18] [] [0, 1, 2, 3, 4, 5, 6, 7, 8, 9, 10, 11, 12, 13, 14, 15, 16, 17, 18] rfl rfl (by decide) (fun _ => rfl) (fun u_3 H locs hP hD hS hz => ?_)
  refine w_Mo_chosen_L16 D cI cZ cT (h_M) (q_M) (c_s) (c_past) (c_kept) (c_isKept) (c_pasts) (c_text) (c_typed) (c_item) (c_items) (c_itemLevel) (c_treated) (c_from) (c_group) (c_turn) (c_size) (c_old) (c_aside) (c_begin) (c_level) (c_asides) (c_sorted) (c_spot) (c_rectangles) (c_parts) (c_visited) _ _ hF (fun x1_55 c_rect_56 H locs ls h hP hD hS hl => ?_) _ (0) (c_rect_1) _ _ _ h hP hD hS (lv_sub hl [1, 0] rfl)
  refine lv_iload_n hx hb dX7_chosen_126 rfl (lv_at hl 0 rfl) ?_
  obtain rfl := Option.some.inj h
  exact z_iret hx hb hr hlk (fun _ _ => 0) hP hD hS dX7_chosen_127
def f_Mo_puts_L17 (c_item : Nat → Int) (c_items : Int) (x2 : Int) (k : Int → (Nat → Int) → Option ((Nat → Int))) : Nat → Int → (Nat → Int) → Option ((Nat → Int))
  | 0, _, _ => none
  | n + 1, x3, c_s =>
  gd (ck x3) <| gd (ck c_items) <| if x3 < c_items then (gd (0 ≤ x3 ∧ x3 < ((360 : Nat) : Int)) <| gd (0 ≤ ((101 + x2) + x3) ∧ ((101 + x2) + x3) < ((461 : Nat) : Int)) <| f_Mo_puts_L17 c_item c_items x2 k n ((x3 + 1)) ((up c_s ((((101 + x2) + x3)).toNat) (c_item (x3).toNat)))) else (k (x3) (c_s))
def f_Mo_puts (c_s : Nat → Int) (c_item : Nat → Int) (c_items : Int) (x1 : Int) : Option ((Nat → Int)) :=
  bd1 (f_Mo_endOf c_s x1) <| fun r_1 => bd1 (f_Mo_opens c_s r_1 c_items) <| fun c_s_4 => f_Mo_puts_L17 (c_item) (c_items) (r_1) (fun x3_12 c_s_13 => some (c_s_13)) FU (0) (c_s_4)
abbrev rm_Mo_puts : Room := ({ frames := 3, cells := 0, slots := 0, locals := 64 } : Room)
set_option maxHeartbeats 4000000 in
set_option maxRecDepth 100000 in
theorem w_Mo_puts_L17 {p : Program} {l : Launch} {e : Env} {s : State} {m : MethodId} {args : Array Value} {below : List Frame} {meth : Method} {c : Code} {A : Nat → Prop} (D : va_G) (cI cZ cT : ClassId) (h_M : Nat) (q_M : Nat → Nat) (c_past : Nat → Int) (c_kept : Nat → Int) (c_isKept : Int) (c_pasts : Int) (c_text : Nat → Int) (c_typed : Int) (c_rect : Nat → Int) (c_item : Nat → Int) (c_items : Int) (c_itemLevel : Int) (c_treated : Nat → Int) (c_from : Nat → Int) (c_group : Nat → Int) (c_turn : Nat → Int) (c_size : Nat → Int) (c_old : Nat → Int) (c_aside : Nat → Int) (c_begin : Nat → Int) (c_level : Nat → Int) (c_asides : Int) (c_sorted : Nat → Int) (c_spot : Int) (c_rectangles : Int) (c_parts : Nat → Int) (c_visited : Nat → Int) (x2 : Int) (res : (Nat → Int)) (k : Int → (Nat → Int) → Option ((Nat → Int))) (hF : zF p m c cX7_puts 4 s args yX7_puts.cls meth none yX7_puts.name A D (zt cI cZ cT))
    (hk : ∀ (x3 : Int) (c_s : Nat → Int) (H : Heap) (locs : List Loc) (ls : Array Slot), k x3 c_s = some res → va_P D vwCl ((zMo cI cZ h_M q_M c_s c_past c_kept c_isKept c_pasts c_text c_typed c_rect c_item c_items c_itemLevel c_treated c_from c_group c_turn c_size c_old c_aside c_begin c_level c_asides c_sorted c_spot c_rectangles c_parts c_visited)) H → va_D A ((zMo cI cZ h_M q_M c_s c_past c_kept c_isKept c_pasts c_text c_typed c_rect c_item c_items c_itemLevel c_treated c_from c_group c_turn c_size c_old c_aside c_begin c_level c_asides c_sorted c_spot c_rectangles c_parts c_visited)) → va_S A s.heap H locs → lv_has ls 4 [] → W p l e rm_Mo_puts s m args below meth c H locs 0 0 (MQ below (zQv D (fun u => (zMo cI cZ h_M q_M (res) c_past c_kept c_isKept c_pasts c_text c_typed c_rect c_item c_items c_itemLevel c_treated c_from c_group c_turn c_size c_old c_aside c_begin c_level c_asides c_sorted c_spot c_rectangles c_parts c_visited)) A) args s 0 0 A) (F0 m 48 ls [])) :
    ∀ (n : Nat) (x3 : Int) (c_s : Nat → Int) (H : Heap) (locs : List Loc) (ls : Array Slot), f_Mo_puts_L17 c_item c_items x2 k n x3 c_s = some res → va_P D vwCl ((zMo cI cZ h_M q_M c_s c_past c_kept c_isKept c_pasts c_text c_typed c_rect c_item c_items c_itemLevel c_treated c_from c_group c_turn c_size c_old c_aside c_begin c_level c_asides c_sorted c_spot c_rectangles c_parts c_visited)) H → va_D A ((zMo cI cZ h_M q_M c_s c_past c_kept c_isKept c_pasts c_text c_typed c_rect c_item c_items c_itemLevel c_treated c_from c_group c_turn c_size c_old c_aside c_begin c_level c_asides c_sorted c_spot c_rectangles c_parts c_visited)) → va_S A s.heap H locs → lv_has ls 4 [(0, .ref h_M), (2, vI x2), (3, vI x3)] → W p l e rm_Mo_puts s m args below meth c H locs 0 0 (MQ below (zQv D (fun u => (zMo cI cZ h_M q_M (res) c_past c_kept c_isKept c_pasts c_text c_typed c_rect c_item c_items c_itemLevel c_treated c_from c_group c_turn c_size c_old c_aside c_begin c_level c_asides c_sorted c_spot c_rectangles c_parts c_visited)) A) args s 0 0 A) (F0 m 17 ls []) := by
  have hx := hF.1.1
  have hb := hF.1.2.1
  have hml := hF.1.2.2.1
  have hown : s.vm.findClass "RectangleTreeModel" = some m.cls := hF.1.2.2.2.1
  have hts := hF.1.2.2.2.2
  have hr := hF.2.1
  have hlk := hF.2.2.1
  have hK := hF.2.2.2.2.1
  have hN := hF.2.2.2.2.2.1
  have hA := hF.2.2.2.2.2.2
  intro n
  induction n with
  | zero => intro x3 c_s H locs ls h; cases h
  | succ n ih =>
    intro x3 c_s H locs ls h hP hD hS hl
    rw [f_Mo_puts_L17] at h
    refine lv_iload_n hx hb dX7_puts_17 rfl (lv_at hl 2 rfl) ?_
    refine lv_aload_n hx hb dX7_puts_18 rfl (lv_at hl 0 rfl) ?_
    refine va_get (D := D) (ci := 7) (v := vI c_items) (C := RX7) (T := TX7) (N := 26) hx hb hts zin7 hown hK hP 0 rfl rfl 9 (by decide) (hts _ wm796) (fun _ h9 => h9) rfl dX7_puts_19 ?_
    obtain ⟨g_7, h⟩ := gd_e h
    obtain ⟨g_8, h⟩ := gd_e h
    refine z_icmp_ge (tgt := 48) hx hb g_7 g_8 dX7_puts_22 (by decide) (fun b_9 => ?_) (fun b_9 => ?_)
    · have h := it_n b_9 h
      exact hk (x3) (c_s) H locs ls h hP hD hS (lv_sub hl [] rfl)
    · have h := it_p b_9 h
      refine lv_aload_n hx hb dX7_puts_25 rfl (lv_at hl 0 rfl) ?_
      refine va_get (D := D) (ci := 7) (v := .ref (q_M 0)) (C := RX7) (T := TX7) (N := 26) hx hb hts zin7 hown hK hP 0 rfl rfl 0 (by decide) (hts _ wm787) (fun _ h9 => h9) rfl dX7_puts_26 ?_
      refine lv_bipush (v := Int32.ofInt 101) hx hb dX7_puts_29 (by decide +kernel) ?_
      refine lv_iload_n hx hb dX7_puts_31 rfl (lv_at hl 1 rfl) ?_
      refine z_iadd hx hb dX7_puts_32 ?_
      refine lv_iload_n hx hb dX7_puts_33 rfl (lv_at hl 2 rfl) ?_
      refine z_iadd hx hb dX7_puts_34 ?_
      refine lv_aload_n hx hb dX7_puts_35 rfl (lv_at hl 0 rfl) ?_
      refine va_get (D := D) (ci := 7) (v := .ref (q_M 5)) (C := RX7) (T := TX7) (N := 26) hx hb hts zin7 hown hK hP 0 rfl rfl 8 (by decide) (hts _ wm795) (fun _ h9 => h9) rfl dX7_puts_36 ?_
      refine lv_iload_n hx hb dX7_puts_39 rfl (lv_at hl 2 rfl) ?_
      obtain ⟨g_10, h⟩ := gd_e h
      refine z_iald (n := 360) (f := c_item) (i := x3) hx hb hK hP 6 rfl rfl g_10 (by have := g_10.2; omega) dX7_puts_40 ?_
      obtain ⟨g_11, h⟩ := gd_e h
      refine z_iast (n := 461) (f := c_s) (i := ((101 + x2) + x3)) (x := (c_item (x3).toNat)) (ws' := (zMo cI cZ h_M q_M (up c_s ((((101 + x2) + x3)).toNat) (c_item (x3).toNat)) c_past c_kept c_isKept c_pasts c_text c_typed c_rect c_item c_items c_itemLevel c_treated c_from c_group c_turn c_size c_old c_aside c_begin c_level c_asides c_sorted c_spot c_rectangles c_parts c_visited)) hx hb hK hP hD hS 1 rfl rfl g_11 (by have := g_11.2; omega) dX7_puts_41 rfl (fun H locs hP hD hS => ?_)
      refine lv_iinc (v := Int32.ofInt (x3 + 1)) (lv' := [(3, vI (x3 + 1)), (0, .ref h_M), (2, vI x2)]) hx hb dX7_puts_42 hl (k := 2) rfl (z_inc _ _) (by decide) rfl (fun ls hl => ?_)
      refine lv_goto (tgt := 17) hx hb dX7_puts_45 (by decide) ?_
      exact ih ((x3 + 1)) ((up c_s ((((101 + x2) + x3)).toNat) (c_item (x3).toNat))) H locs ls h hP hD hS (lv_sub hl [1, 2, 0] rfl)
set_option maxHeartbeats 4000000 in
set_option maxRecDepth 100000 in
theorem c_Mo_puts (l : Launch) (D : va_G) (cI cZ cT : ClassId) (h_M : Nat) (q_M : Nat → Nat) (c_s : Nat → Int) (c_past : Nat → Int) (c_kept : Nat → Int) (c_isKept : Int) (c_pasts : Int) (c_text : Nat → Int) (c_typed : Int) (c_rect : Nat → Int) (c_item : Nat → Int) (c_items : Int) (c_itemLevel : Int) (c_treated : Nat → Int) (c_from : Nat → Int) (c_group : Nat → Int) (c_turn : Nat → Int) (c_size : Nat → Int) (c_old : Nat → Int) (c_aside : Nat → Int) (c_begin : Nat → Int) (c_level : Nat → Int) (c_asides : Int) (c_sorted : Nat → Int) (c_spot : Int) (c_rectangles : Int) (c_parts : Nat → Int) (c_visited : Nat → Int) (x1 : Int) (sz : Nat) (res : (Nat → Int)) (h : f_Mo_puts c_s c_item c_items x1 = some res) : zMv l yX7_puts cX7_puts 4 rm_Mo_puts D (zt cI cZ cT) [.ref h_M, vI x1] ((zMo cI cZ h_M q_M c_s c_past c_kept c_isKept c_pasts c_text c_typed c_rect c_item c_items c_itemLevel c_treated c_from c_group c_turn c_size c_old c_aside c_begin c_level c_asides c_sorted c_spot c_rectangles c_parts c_visited)) sz (fun u => (zMo cI cZ h_M q_M (res) c_past c_kept c_isKept c_pasts c_text c_typed c_rect c_item c_items c_itemLevel c_treated c_from c_group c_turn c_size c_old c_aside c_begin c_level c_asides c_sorted c_spot c_rectangles c_parts c_visited)) 0 0 := by
  refine z_enth (Qc := zQv D (fun u => (zMo cI cZ h_M q_M (res) c_past c_kept c_isKept c_pasts c_text c_typed c_rect c_item c_items c_itemLevel c_treated c_from c_group c_turn c_size c_old c_aside c_begin c_level c_asides c_sorted c_spot c_rectangles c_parts c_visited))) (by decide) (Nat.le_of_ble_eq_true rfl) (fun p e s m args below meth c A ls H locs hF hP hD hS hl => ?_)
  have hx := hF.1.1
  have hb := hF.1.2.1
  have hml := hF.1.2.2.1
  have hown : s.vm.findClass "RectangleTreeModel" = some m.cls := hF.1.2.2.2.1
  have hts := hF.1.2.2.2.2
  have hr := hF.2.1
  have hlk := hF.2.2.1
  have hK := hF.2.2.2.2.1
  have hN := hF.2.2.2.2.2.1
  have hA := hF.2.2.2.2.2.2
  unfold f_Mo_puts at h
  refine lv_aload_n hx hb dX7_puts_0 rfl (lv_at hl 0 rfl) ?_
  refine lv_iload_n hx hb dX7_puts_1 rfl (lv_at hl 1 rfl) ?_
  obtain ⟨r_1, e_2, h⟩ := bd1_e h
  refine z_goi (ws' := []) (ret := r_1) (wc := (zMo cI cZ (h_M) (q_M) (c_s) (c_past) (c_kept) (c_isKept) (c_pasts) (c_text) (c_typed) (c_rect) (c_item) (c_items) (c_itemLevel) (c_treated) (c_from) (c_group) (c_turn) (c_size) (c_old) (c_aside) (c_begin) (c_level) (c_asides) (c_sorted) (c_spot) (c_rectangles) (c_parts) (c_visited))) (wn := fun u_3 => (zMo cI cZ h_M q_M c_s c_past c_kept c_isKept c_pasts c_text c_typed c_rect c_item c_items c_itemLevel c_treated c_from c_group c_turn c_size c_old c_aside c_begin c_level c_asides c_sorted c_spot c_rectangles c_parts c_visited)) (wr := []) (va_runV (As := [vI x1]) (rest := []) hF.1 (c_Mo_endOf l D cI cZ cT h_M q_M c_s c_past c_kept c_isKept c_pasts c_text c_typed c_rect c_item c_items c_itemLevel c_treated c_from c_group c_turn c_size c_old c_aside c_begin c_level c_asides c_sorted c_spot c_rectangles c_parts c_visited x1 H.size (r_1) e_2) (cwV 1 hts (zgV wm922 wm924 wm40 wm89 wm925) rfl rfl rfl (by decide +kernel) ⟨Nat.le_of_ble_eq_true rfl, Nat.le_of_ble_eq_true rfl⟩) ⟨zP.blind, va_recv hK (z_subP (ws' := (zMo cI cZ (h_M) (q_M) (c_s) (c_past) (c_kept) (c_isKept) (c_pasts) (c_text) (c_typed) (c_rect) (c_item) (c_items) (c_itemLevel) (c_treated) (c_from) (c_group) (c_turn) (c_size) (c_old) (c_aside) (c_begin) (c_level) (c_asides) (c_sorted) (c_spot) (c_rectangles) (c_parts) (c_visited))) hP [0, 1, 2, 3, 4, 5, 6, 7, 8, 9, 10, 11, 12, 13, 14, 15, 16, 17, 18] rfl) (ci := 7) (q0 := 0) rfl rfl, zP.enter (z_subP (ws' := (zMo cI cZ (h_M) (q_M) (c_s) (c_past) (c_kept) (c_isKept) (c_pasts) (c_text) (c_typed) (c_rect) (c_item) (c_items) (c_itemLevel) (c_treated) (c_from) (c_group) (c_turn) (c_size) (c_old) (c_aside) (c_begin) (c_level) (c_asides) (c_sorted) (c_spot) (c_rectangles) (c_parts) (c_visited))) hP [0, 1, 2, 3, 4, 5, 6, 7, 8, 9, 10, 11, 12, 13, 14, 15, 16, 17, 18] rfl) hK (hD.sub [0, 1, 2, 3, 4, 5, 6, 7, 8, 9, 10, 11, 12, 13, 14, 15, 16, 17, 18] (by decide) rfl) hN⟩ rfl rfl hl.1 rfl (lv_room (Nat.le_of_ble_eq_true rfl)) dX7_puts_2 ⟨Nat.le_refl _, Nat.le_refl _⟩) hP hD hS hA [0, 1, 2, 3, 4, 5, 6, 7, 8, 9, 10, 11, 12, 13, 14, 15, 16, 17, 18] [] [0, 1, 2, 3, 4, 5, 6, 7, 8, 9, 10, 11, 12, 13, 14, 15, 16, 17, 18] rfl rfl (by decide) (fun _ => rfl) (fun u_3 H locs hP hD hS hz => ?_)
  refine lv_istore_n (lv' := [(2, vI r_1), (0, .ref h_M), (1, vI x1)]) hx hb dX7_puts_5 rfl hl (by decide) rfl (fun ls hl => ?_)
  refine lv_aload_n hx hb dX7_puts_6 rfl (lv_at hl 1 rfl) ?_
  refine lv_iload_n hx hb dX7_puts_7 rfl (lv_at hl 0 rfl) ?_
  refine lv_aload_n hx hb dX7_puts_8 rfl (lv_at hl 1 rfl) ?_
  refine va_get (D := D) (ci := 7) (v := vI c_items) (C := RX7) (T := TX7) (N := 26) hx hb hts zin7 hown hK hP 0 rfl rfl 9 (by decide) (hts _ wm796) (fun _ h9 => h9) rfl dX7_puts_9 ?_
  obtain ⟨c_s_4, e_5, h⟩ := bd1_e h
  refine z_gov (wc := (zMo cI cZ (h_M) (q_M) (c_s) (c_past) (c_kept) (c_isKept) (c_pasts) (c_text) (c_typed) (c_rect) (c_item) (c_items) (c_itemLevel) (c_treated) (c_from) (c_group) (c_turn) (c_size) (c_old) (c_aside) (c_begin) (c_level) (c_asides) (c_sorted) (c_spot) (c_rectangles) (c_parts) (c_visited))) (wn := fun u_6 => (zMo cI cZ h_M q_M c_s_4 c_past c_kept c_isKept c_pasts c_text c_typed c_rect c_item c_items c_itemLevel c_treated c_from c_group c_turn c_size c_old c_aside c_begin c_level c_asides c_sorted c_spot c_rectangles c_parts c_visited)) (wr := []) (va_runV (As := [vI r_1, vI c_items]) (rest := []) hF.1 (c_Mo_opens l D cI cZ cT h_M q_M c_s c_past c_kept c_isKept c_pasts c_text c_typed c_rect c_item c_items c_itemLevel c_treated c_from c_group c_turn c_size c_old c_aside c_begin c_level c_asides c_sorted c_spot c_rectangles c_parts c_visited r_1 c_items H.size (c_s_4) e_5) (cwV 2 hts (zgV wm950 wm952 wm47 wm89 wm953) rfl rfl rfl (by decide +kernel) ⟨Nat.le_of_ble_eq_true rfl, Nat.le_of_ble_eq_true rfl⟩) ⟨zP.blind, va_recv hK (z_subP (ws' := (zMo cI cZ (h_M) (q_M) (c_s) (c_past) (c_kept) (c_isKept) (c_pasts) (c_text) (c_typed) (c_rect) (c_item) (c_items) (c_itemLevel) (c_treated) (c_from) (c_group) (c_turn) (c_size) (c_old) (c_aside) (c_begin) (c_level) (c_asides) (c_sorted) (c_spot) (c_rectangles) (c_parts) (c_visited))) hP [0, 1, 2, 3, 4, 5, 6, 7, 8, 9, 10, 11, 12, 13, 14, 15, 16, 17, 18] rfl) (ci := 7) (q0 := 0) rfl rfl, zP.enter (z_subP (ws' := (zMo cI cZ (h_M) (q_M) (c_s) (c_past) (c_kept) (c_isKept) (c_pasts) (c_text) (c_typed) (c_rect) (c_item) (c_items) (c_itemLevel) (c_treated) (c_from) (c_group) (c_turn) (c_size) (c_old) (c_aside) (c_begin) (c_level) (c_asides) (c_sorted) (c_spot) (c_rectangles) (c_parts) (c_visited))) hP [0, 1, 2, 3, 4, 5, 6, 7, 8, 9, 10, 11, 12, 13, 14, 15, 16, 17, 18] rfl) hK (hD.sub [0, 1, 2, 3, 4, 5, 6, 7, 8, 9, 10, 11, 12, 13, 14, 15, 16, 17, 18] (by decide) rfl) hN⟩ rfl rfl hl.1 rfl (lv_room (Nat.le_of_ble_eq_true rfl)) dX7_puts_12 ⟨Nat.le_refl _, Nat.le_refl _⟩) hP hD hS hA [0, 1, 2, 3, 4, 5, 6, 7, 8, 9, 10, 11, 12, 13, 14, 15, 16, 17, 18] [] [0, 1, 2, 3, 4, 5, 6, 7, 8, 9, 10, 11, 12, 13, 14, 15, 16, 17, 18] rfl rfl (by decide) (fun _ => rfl) (fun u_6 H locs hP hD hS hz => ?_)
  refine lv_iconst (v := Int32.ofInt 0) hx hb dX7_puts_15 rfl ?_
  refine lv_istore_n (lv' := [(3, vI 0), (2, vI r_1), (0, .ref h_M), (1, vI x1)]) hx hb dX7_puts_16 rfl hl (by decide) rfl (fun ls hl => ?_)
  refine w_Mo_puts_L17 D cI cZ cT (h_M) (q_M) (c_past) (c_kept) (c_isKept) (c_pasts) (c_text) (c_typed) (c_rect) (c_item) (c_items) (c_itemLevel) (c_treated) (c_from) (c_group) (c_turn) (c_size) (c_old) (c_aside) (c_begin) (c_level) (c_asides) (c_sorted) (c_spot) (c_rectangles) (c_parts) (c_visited) (r_1) _ _ hF (fun x3_12 c_s_13 H locs ls h hP hD hS hl => ?_) _ (0) (c_s_4) _ _ _ h hP hD hS (lv_sub hl [2, 1, 0] rfl)
  obtain rfl := Option.some.inj h
  exact z_vret hx hb hr hlk (fun _ _ => 0) hP hD hS dX7_puts_48
def f_Mo_takesFar_L44 (c_s : Nat → Int) (x4 : Int) (k : Int → Int → Int → (Nat → Int) → Option ((Nat → Int) × (Nat → Int) × (Nat → Int) × Int × Int × (Nat → Int))) : Nat → Int → Int → Int → (Nat → Int) → Option ((Nat → Int) × (Nat → Int) × (Nat → Int) × Int × Int × (Nat → Int))
  | 0, _, _, _, _ => none
  | n + 1, x2, x3, x5, c_rect =>
  gd (ck x5) <| gd (ck x4) <| if x5 < x4 then (bd1 (f_Mo_boundsAt c_s c_rect x5 2) <| fun c_rect_14 => bd1 (f_Mo_centerDistance c_rect_14 1 2) <| fun r_17 => gd (ck x2) <| if x2 < 0 then (gd (ck r_17) <| gd (ck x3) <| if x3 < r_17 then (bd1 (f_Mo_endOf c_s x5) <| fun r_28 => f_Mo_takesFar_L44 c_s x4 k n (x5) (r_17) (r_28) (c_rect_14)) else (bd1 (f_Mo_endOf c_s x5) <| fun r_25 => f_Mo_takesFar_L44 c_s x4 k n (x5) (x3) (r_25) (c_rect_14))) else (gd (ck r_17) <| gd (ck x3) <| if r_17 < x3 then (if x3 < r_17 then (bd1 (f_Mo_endOf c_s x5) <| fun r_38 => f_Mo_takesFar_L44 c_s x4 k n (x2) (r_17) (r_38) (c_rect_14)) else (bd1 (f_Mo_endOf c_s x5) <| fun r_35 => f_Mo_takesFar_L44 c_s x4 k n (x2) (x3) (r_35) (c_rect_14))) else (if x3 < r_17 then (bd1 (f_Mo_endOf c_s x5) <| fun r_45 => f_Mo_takesFar_L44 c_s x4 k n (x5) (r_17) (r_45) (c_rect_14)) else (bd1 (f_Mo_endOf c_s x5) <| fun r_42 => f_Mo_takesFar_L44 c_s x4 k n (x5) (x3) (r_42) (c_rect_14))))) else (k (x2) (x3) (x5) (c_rect))
def f_Mo_takesFar (c_s : Nat → Int) (c_rect : Nat → Int) (c_item : Nat → Int) (c_treated : Nat → Int) (x1 : Int) : Option ((Nat → Int) × (Nat → Int) × (Nat → Int) × Int × Int × (Nat → Int)) :=
  bd1 (f_Mo_levelAt c_s x1) <| fun r_1 => gd (0 ≤ r_1 ∧ r_1 < ((24 : Nat) : Int)) <| bd1 (f_Mo_boundsAt (up c_s (3) ((c_s 3) + 1)) c_rect x1 1) <| fun c_rect_5 => bd1 (f_Mo_endOf (up c_s (3) ((c_s 3) + 1)) x1) <| fun r_8 => f_Mo_takesFar_L44 ((up c_s (3) ((c_s 3) + 1))) (r_8) (fun x2_48 x3_49 x5_50 c_rect_51 => bd1 (f_Mo_levelAt (up c_s (3) ((c_s 3) + 1)) x1) <| fun r_52 => bd1 (f_Mo_endOf (up c_s (3) ((c_s 3) + 1)) x2_48) <| fun r_55 => bd2 (f_Mo_takes_s (up c_s (3) ((c_s 3) + 1)) c_item (101 + x2_48) (101 + r_55)) <| fun c_item_58 c_items_59 => bd1 (f_Mo_cuts (up c_s (3) ((c_s 3) + 1)) x2_48 r_55) <| fun c_s_62 => some (c_s_62, c_rect_51, c_item_58, c_items_59, r_52, (up c_treated ((r_1).toNat) 1))) FU ((-5)) (0) ((x1 + 1)) (c_rect_5)
abbrev rm_Mo_takesFar : Room := ({ frames := 4, cells := 0, slots := 0, locals := 86 } : Room)
set_option maxHeartbeats 4000000 in
set_option maxRecDepth 100000 in
theorem w_Mo_takesFar_L44 {p : Program} {l : Launch} {e : Env} {s : State} {m : MethodId} {args : Array Value} {below : List Frame} {meth : Method} {c : Code} {A : Nat → Prop} (D : va_G) (cI cZ cT : ClassId) (h_M : Nat) (q_M : Nat → Nat) (c_s : Nat → Int) (c_past : Nat → Int) (c_kept : Nat → Int) (c_isKept : Int) (c_pasts : Int) (c_text : Nat → Int) (c_typed : Int) (c_item : Nat → Int) (c_items : Int) (c_itemLevel : Int) (c_treated : Nat → Int) (c_from : Nat → Int) (c_group : Nat → Int) (c_turn : Nat → Int) (c_size : Nat → Int) (c_old : Nat → Int) (c_aside : Nat → Int) (c_begin : Nat → Int) (c_level : Nat → Int) (c_asides : Int) (c_sorted : Nat → Int) (c_spot : Int) (c_rectangles : Int) (c_parts : Nat → Int) (c_visited : Nat → Int) (x1 : Int) (x4 : Int) (res : (Nat → Int) × (Nat → Int) × (Nat → Int) × Int × Int × (Nat → Int)) (k : Int → Int → Int → (Nat → Int) → Option ((Nat → Int) × (Nat → Int) × (Nat → Int) × Int × Int × (Nat → Int))) (hF : zF p m c cX7_takesFar 7 s args yX7_takesFar.cls meth none yX7_takesFar.name A D (zt cI cZ cT))
    (hk : ∀ (x2 : Int) (x3 : Int) (x5 : Int) (c_rect : Nat → Int) (H : Heap) (locs : List Loc) (ls : Array Slot), k x2 x3 x5 c_rect = some res → va_P D vwCl ((zMo cI cZ h_M q_M c_s c_past c_kept c_isKept c_pasts c_text c_typed c_rect c_item c_items c_itemLevel c_treated c_from c_group c_turn c_size c_old c_aside c_begin c_level c_asides c_sorted c_spot c_rectangles c_parts c_visited)) H → va_D A ((zMo cI cZ h_M q_M c_s c_past c_kept c_isKept c_pasts c_text c_typed c_rect c_item c_items c_itemLevel c_treated c_from c_group c_turn c_size c_old c_aside c_begin c_level c_asides c_sorted c_spot c_rectangles c_parts c_visited)) → va_S A s.heap H locs → lv_has ls 7 [(0, .ref h_M), (1, vI x1), (2, vI x2)] → W p l e rm_Mo_takesFar s m args below meth c H locs 0 0 (MQ below (zQv D (fun u => (zMo cI cZ h_M q_M (res.1) c_past c_kept c_isKept c_pasts c_text c_typed (res.2.1) (res.2.2.1) (res.2.2.2.1) (res.2.2.2.2.1) (res.2.2.2.2.2) c_from c_group c_turn c_size c_old c_aside c_begin c_level c_asides c_sorted c_spot c_rectangles c_parts c_visited)) A) args s 0 0 A) (F0 m 107 ls [])) :
    ∀ (n : Nat) (x2 : Int) (x3 : Int) (x5 : Int) (c_rect : Nat → Int) (H : Heap) (locs : List Loc) (ls : Array Slot), f_Mo_takesFar_L44 c_s x4 k n x2 x3 x5 c_rect = some res → va_P D vwCl ((zMo cI cZ h_M q_M c_s c_past c_kept c_isKept c_pasts c_text c_typed c_rect c_item c_items c_itemLevel c_treated c_from c_group c_turn c_size c_old c_aside c_begin c_level c_asides c_sorted c_spot c_rectangles c_parts c_visited)) H → va_D A ((zMo cI cZ h_M q_M c_s c_past c_kept c_isKept c_pasts c_text c_typed c_rect c_item c_items c_itemLevel c_treated c_from c_group c_turn c_size c_old c_aside c_begin c_level c_asides c_sorted c_spot c_rectangles c_parts c_visited)) → va_S A s.heap H locs → lv_has ls 7 [(0, .ref h_M), (1, vI x1), (2, vI x2), (3, vI x3), (4, vI x4), (5, vI x5)] → W p l e rm_Mo_takesFar s m args below meth c H locs 0 0 (MQ below (zQv D (fun u => (zMo cI cZ h_M q_M (res.1) c_past c_kept c_isKept c_pasts c_text c_typed (res.2.1) (res.2.2.1) (res.2.2.2.1) (res.2.2.2.2.1) (res.2.2.2.2.2) c_from c_group c_turn c_size c_old c_aside c_begin c_level c_asides c_sorted c_spot c_rectangles c_parts c_visited)) A) args s 0 0 A) (F0 m 44 ls []) := by
  have hx := hF.1.1
  have hb := hF.1.2.1
  have hml := hF.1.2.2.1
  have hown : s.vm.findClass "RectangleTreeModel" = some m.cls := hF.1.2.2.2.1
  have hts := hF.1.2.2.2.2
  have hr := hF.2.1
  have hlk := hF.2.2.1
  have hK := hF.2.2.2.2.1
  have hN := hF.2.2.2.2.2.1
  have hA := hF.2.2.2.2.2.2
  intro n
  induction n with
  | zero => intro x2 x3 x5 c_rect H locs ls h; cases h
  | succ n ih =>
    intro x2 x3 x5 c_rect H locs ls h hP hD hS hl
    rw [f_Mo_takesFar_L44] at h
    refine lv_iload hx hb dX7_takesFar_44 (lv_at hl 5 rfl) ?_
    refine lv_iload hx hb dX7_takesFar_46 (lv_at hl 4 rfl) ?_
    obtain ⟨g_11, h⟩ := gd_e h
    obtain ⟨g_12, h⟩ := gd_e h
    refine z_icmp_ge (tgt := 107) hx hb g_11 g_12 dX7_takesFar_48 (by decide) (fun b_13 => ?_) (fun b_13 => ?_)
    · have h := it_n b_13 h
      exact hk (x2) (x3) (x5) (c_rect) H locs ls h hP hD hS (lv_sub hl [0, 1, 2] rfl)
    · have h := it_p b_13 h
      refine lv_aload_n hx hb dX7_takesFar_51 rfl (lv_at hl 0 rfl) ?_
      refine lv_iload hx hb dX7_takesFar_52 (lv_at hl 5 rfl) ?_
      refine lv_iconst (v := Int32.ofInt 2) hx hb dX7_takesFar_54 rfl ?_
      obtain ⟨c_rect_14, e_15, h⟩ := bd1_e h
      refine z_gov (wc := (zMo cI cZ (h_M) (q_M) (c_s) (c_past) (c_kept) (c_isKept) (c_pasts) (c_text) (c_typed) (c_rect) (c_item) (c_items) (c_itemLevel) (c_treated) (c_from) (c_group) (c_turn) (c_size) (c_old) (c_aside) (c_begin) (c_level) (c_asides) (c_sorted) (c_spot) (c_rectangles) (c_parts) (c_visited))) (wn := fun u_16 => (zMo cI cZ h_M q_M c_s c_past c_kept c_isKept c_pasts c_text c_typed c_rect_14 c_item c_items c_itemLevel c_treated c_from c_group c_turn c_size c_old c_aside c_begin c_level c_asides c_sorted c_spot c_rectangles c_parts c_visited)) (wr := []) (va_runV (As := [vI x5, vI 2]) (rest := []) hF.1 (c_Mo_boundsAt l D cI cZ cT h_M q_M c_s c_past c_kept c_isKept c_pasts c_text c_typed c_rect c_item c_items c_itemLevel c_treated c_from c_group c_turn c_size c_old c_aside c_begin c_level c_asides c_sorted c_spot c_rectangles c_parts c_visited x5 2 H.size (c_rect_14) e_15) (cwV 2 hts (zgV wm930 wm932 wm42 wm89 wm933) rfl rfl rfl (by decide +kernel) ⟨Nat.le_of_ble_eq_true rfl, Nat.le_of_ble_eq_true rfl⟩) ⟨zP.blind, va_recv hK (z_subP (ws' := (zMo cI cZ (h_M) (q_M) (c_s) (c_past) (c_kept) (c_isKept) (c_pasts) (c_text) (c_typed) (c_rect) (c_item) (c_items) (c_itemLevel) (c_treated) (c_from) (c_group) (c_turn) (c_size) (c_old) (c_aside) (c_begin) (c_level) (c_asides) (c_sorted) (c_spot) (c_rectangles) (c_parts) (c_visited))) hP [0, 1, 2, 3, 4, 5, 6, 7, 8, 9, 10, 11, 12, 13, 14, 15, 16, 17, 18] rfl) (ci := 7) (q0 := 0) rfl rfl, zP.enter (z_subP (ws' := (zMo cI cZ (h_M) (q_M) (c_s) (c_past) (c_kept) (c_isKept) (c_pasts) (c_text) (c_typed) (c_rect) (c_item) (c_items) (c_itemLevel) (c_treated) (c_from) (c_group) (c_turn) (c_size) (c_old) (c_aside) (c_begin) (c_level) (c_asides) (c_sorted) (c_spot) (c_rectangles) (c_parts) (c_visited))) hP [0, 1, 2, 3, 4, 5, 6, 7, 8, 9, 10, 11, 12, 13, 14, 15, 16, 17, 18] rfl) hK (hD.sub [0, 1, 2, 3, 4, 5, 6, 7, 8, 9, 10, 11, 12, 13, 14, 15, 16, 17, 18] (by decide) rfl) hN⟩ rfl rfl hl.1 rfl (lv_room (Nat.le_of_ble_eq_true rfl)) dX7_takesFar_55 ⟨Nat.le_refl _, Nat.le_refl _⟩) hP hD hS hA [0, 1, 2, 3, 4, 5, 6, 7, 8, 9, 10, 11, 12, 13, 14, 15, 16, 17, 18] [] [0, 1, 2, 3, 4, 5, 6, 7, 8, 9, 10, 11, 12, 13, 14, 15, 16, 17, 18] rfl rfl (by decide) (fun _ => rfl) (fun u_16 H locs hP hD hS hz => ?_)
      refine lv_aload_n hx hb dX7_takesFar_58 rfl (lv_at hl 0 rfl) ?_
      refine lv_iconst (v := Int32.ofInt 1) hx hb dX7_takesFar_59 rfl ?_
      refine lv_iconst (v := Int32.ofInt 2) hx hb dX7_takesFar_60 rfl ?_
      obtain ⟨r_17, e_18, h⟩ := bd1_e h
      refine z_goi (ws' := []) (ret := r_17) (wc := (zMo cI cZ (h_M) (q_M) (c_s) (c_past) (c_kept) (c_isKept) (c_pasts) (c_text) (c_typed) (c_rect_14) (c_item) (c_items) (c_itemLevel) (c_treated) (c_from) (c_group) (c_turn) (c_size) (c_old) (c_aside) (c_begin) (c_level) (c_asides) (c_sorted) (c_spot) (c_rectangles) (c_parts) (c_visited))) (wn := fun u_19 => (zMo cI cZ h_M q_M c_s c_past c_kept c_isKept c_pasts c_text c_typed c_rect_14 c_item c_items c_itemLevel c_treated c_from c_group c_turn c_size c_old c_aside c_begin c_level c_asides c_sorted c_spot c_rectangles c_parts c_visited)) (wr := []) (va_runV (As := [vI 1, vI 2]) (rest := []) hF.1 (c_Mo_centerDistance l D cI cZ cT h_M q_M c_s c_past c_kept c_isKept c_pasts c_text c_typed c_rect_14 c_item c_items c_itemLevel c_treated c_from c_group c_turn c_size c_old c_aside c_begin c_level c_asides c_sorted c_spot c_rectangles c_parts c_visited 1 2 H.size (r_17) e_18) (cwV 2 hts (zgV wm962 wm964 wm50 wm89 wm965) rfl rfl rfl (by decide +kernel) ⟨Nat.le_of_ble_eq_true rfl, Nat.le_of_ble_eq_true rfl⟩) ⟨zP.blind, va_recv hK (z_subP (ws' := (zMo cI cZ (h_M) (q_M) (c_s) (c_past) (c_kept) (c_isKept) (c_pasts) (c_text) (c_typed) (c_rect_14) (c_item) (c_items) (c_itemLevel) (c_treated) (c_from) (c_group) (c_turn) (c_size) (c_old) (c_aside) (c_begin) (c_level) (c_asides) (c_sorted) (c_spot) (c_rectangles) (c_parts) (c_visited))) hP [0, 1, 2, 3, 4, 5, 6, 7, 8, 9, 10, 11, 12, 13, 14, 15, 16, 17, 18] rfl) (ci := 7) (q0 := 0) rfl rfl, zP.enter (z_subP (ws' := (zMo cI cZ (h_M) (q_M) (c_s) (c_past) (c_kept) (c_isKept) (c_pasts) (c_text) (c_typed) (c_rect_14) (c_item) (c_items) (c_itemLevel) (c_treated) (c_from) (c_group) (c_turn) (c_size) (c_old) (c_aside) (c_begin) (c_level) (c_asides) (c_sorted) (c_spot) (c_rectangles) (c_parts) (c_visited))) hP [0, 1, 2, 3, 4, 5, 6, 7, 8, 9, 10, 11, 12, 13, 14, 15, 16, 17, 18] rfl) hK (hD.sub [0, 1, 2, 3, 4, 5, 6, 7, 8, 9, 10, 11, 12, 13, 14, 15, 16, 17, 18] (by decide) rfl) hN⟩ rfl rfl hl.1 rfl (lv_room (Nat.le_of_ble_eq_true rfl)) dX7_takesFar_61 ⟨Nat.le_refl _, Nat.le_refl _⟩) hP hD hS hA [0, 1, 2, 3, 4, 5, 6, 7, 8, 9, 10, 11, 12, 13, 14, 15, 16, 17, 18] [] [0, 1, 2, 3, 4, 5, 6, 7, 8, 9, 10, 11, 12, 13, 14, 15, 16, 17, 18] rfl rfl (by decide) (fun _ => rfl) (fun u_19 H locs hP hD hS hz => ?_)
      refine lv_istore (lv' := [(6, vI r_17), (0, .ref h_M), (1, vI x1), (2, vI x2), (3, vI x3), (4, vI x4), (5, vI x5)]) hx hb dX7_takesFar_64 hl (by decide) rfl (fun ls hl => ?_)
      refine lv_iload_n hx hb dX7_takesFar_66 rfl (lv_at hl 3 rfl) ?_
      obtain ⟨g_20, h⟩ := gd_e h
      refine z_if_lt (tgt := 76) hx hb g_20 dX7_takesFar_67 (by decide) (fun b_21 => ?_) (fun b_21 => ?_)
      · have h := it_p b_21 h
        refine lv_iload hx hb dX7_takesFar_76 (lv_at hl 6 rfl) ?_
        refine lv_goto (tgt := 82) hx hb dX7_takesFar_78 (by decide) ?_
        refine lv_istore_n (lv' := [(2, vI x5), (6, vI r_17), (0, .ref h_M), (1, vI x1), (3, vI x3), (4, vI x4), (5, vI x5)]) hx hb dX7_takesFar_82 rfl hl (by decide) rfl (fun ls hl => ?_)
        refine lv_iload hx hb dX7_takesFar_83 (lv_at hl 1 rfl) ?_
        refine lv_iload_n hx hb dX7_takesFar_85 rfl (lv_at hl 4 rfl) ?_
        obtain ⟨g_22, h⟩ := gd_e h
        obtain ⟨g_23, h⟩ := gd_e h
        refine z_icmp_le (tgt := 94) hx hb g_22 g_23 dX7_takesFar_86 (by decide) (fun b_24 => ?_) (fun b_24 => ?_)
        · have h := it_n b_24 h
          refine lv_iload_n hx hb dX7_takesFar_94 rfl (lv_at hl 4 rfl) ?_
          refine lv_istore_n (lv' := [(3, vI x3), (2, vI x5), (6, vI r_17), (0, .ref h_M), (1, vI x1), (4, vI x4), (5, vI x5)]) hx hb dX7_takesFar_95 rfl hl (by decide) rfl (fun ls hl => ?_)
          refine lv_aload_n hx hb dX7_takesFar_96 rfl (lv_at hl 3 rfl) ?_
          refine lv_iload hx hb dX7_takesFar_97 (lv_at hl 6 rfl) ?_
          obtain ⟨r_25, e_26, h⟩ := bd1_e h
          refine z_goi (ws' := []) (ret := r_25) (wc := (zMo cI cZ (h_M) (q_M) (c_s) (c_past) (c_kept) (c_isKept) (c_pasts) (c_text) (c_typed) (c_rect_14) (c_item) (c_items) (c_itemLevel) (c_treated) (c_from) (c_group) (c_turn) (c_size) (c_old) (c_aside) (c_begin) (c_level) (c_asides) (c_sorted) (c_spot) (c_rectangles) (c_parts) (c_visited))) (wn := fun u_27 => (zMo cI cZ h_M q_M c_s c_past c_kept c_isKept c_pasts c_text c_typed c_rect_14 c_item c_items c_itemLevel c_treated c_from c_group c_turn c_size c_old c_aside c_begin c_level c_asides c_sorted c_spot c_rectangles c_parts c_visited)) (wr := []) (va_runV (As := [vI x5]) (rest := []) hF.1 (c_Mo_endOf l D cI cZ cT h_M q_M c_s c_past c_kept c_isKept c_pasts c_text c_typed c_rect_14 c_item c_items c_itemLevel c_treated c_from c_group c_turn c_size c_old c_aside c_begin c_level c_asides c_sorted c_spot c_rectangles c_parts c_visited x5 H.size (r_25) e_26) (cwV 1 hts (zgV wm922 wm924 wm40 wm89 wm925) rfl rfl rfl (by decide +kernel) ⟨Nat.le_of_ble_eq_true rfl, Nat.le_of_ble_eq_true rfl⟩) ⟨zP.blind, va_recv hK (z_subP (ws' := (zMo cI cZ (h_M) (q_M) (c_s) (c_past) (c_kept) (c_isKept) (c_pasts) (c_text) (c_typed) (c_rect_14) (c_item) (c_items) (c_itemLevel) (c_treated) (c_from) (c_group) (c_turn) (c_size) (c_old) (c_aside) (c_begin) (c_level) (c_asides) (c_sorted) (c_spot) (c_rectangles) (c_parts) (c_visited))) hP [0, 1, 2, 3, 4, 5, 6, 7, 8, 9, 10, 11, 12, 13, 14, 15, 16, 17, 18] rfl) (ci := 7) (q0 := 0) rfl rfl, zP.enter (z_subP (ws' := (zMo cI cZ (h_M) (q_M) (c_s) (c_past) (c_kept) (c_isKept) (c_pasts) (c_text) (c_typed) (c_rect_14) (c_item) (c_items) (c_itemLevel) (c_treated) (c_from) (c_group) (c_turn) (c_size) (c_old) (c_aside) (c_begin) (c_level) (c_asides) (c_sorted) (c_spot) (c_rectangles) (c_parts) (c_visited))) hP [0, 1, 2, 3, 4, 5, 6, 7, 8, 9, 10, 11, 12, 13, 14, 15, 16, 17, 18] rfl) hK (hD.sub [0, 1, 2, 3, 4, 5, 6, 7, 8, 9, 10, 11, 12, 13, 14, 15, 16, 17, 18] (by decide) rfl) hN⟩ rfl rfl hl.1 rfl (lv_room (Nat.le_of_ble_eq_true rfl)) dX7_takesFar_99 ⟨Nat.le_refl _, Nat.le_refl _⟩) hP hD hS hA [0, 1, 2, 3, 4, 5, 6, 7, 8, 9, 10, 11, 12, 13, 14, 15, 16, 17, 18] [] [0, 1, 2, 3, 4, 5, 6, 7, 8, 9, 10, 11, 12, 13, 14, 15, 16, 17, 18] rfl rfl (by decide) (fun _ => rfl) (fun u_27 H locs hP hD hS hz => ?_)
          refine lv_istore (lv' := [(5, vI r_25), (3, vI x3), (2, vI x5), (6, vI r_17), (0, .ref h_M), (1, vI x1), (4, vI x4)]) hx hb dX7_takesFar_102 hl (by decide) rfl (fun ls hl => ?_)
          refine lv_goto (tgt := 44) hx hb dX7_takesFar_104 (by decide) ?_
          exact ih (x5) (x3) (r_25) (c_rect_14) H locs ls h hP hD hS (lv_sub hl [4, 5, 2, 1, 6, 0] rfl)
        · have h := it_p b_24 h
          refine lv_iload hx hb dX7_takesFar_89 (lv_at hl 1 rfl) ?_
          refine lv_goto (tgt := 95) hx hb dX7_takesFar_91 (by decide) ?_
          refine lv_istore_n (lv' := [(3, vI r_17), (2, vI x5), (6, vI r_17), (0, .ref h_M), (1, vI x1), (4, vI x4), (5, vI x5)]) hx hb dX7_takesFar_95 rfl hl (by decide) rfl (fun ls hl => ?_)
          refine lv_aload_n hx hb dX7_takesFar_96 rfl (lv_at hl 3 rfl) ?_
          refine lv_iload hx hb dX7_takesFar_97 (lv_at hl 6 rfl) ?_
          obtain ⟨r_28, e_29, h⟩ := bd1_e h
          refine z_goi (ws' := []) (ret := r_28) (wc := (zMo cI cZ (h_M) (q_M) (c_s) (c_past) (c_kept) (c_isKept) (c_pasts) (c_text) (c_typed) (c_rect_14) (c_item) (c_items) (c_itemLevel) (c_treated) (c_from) (c_group) (c_turn) (c_size) (c_old) (c_aside) (c_begin) (c_level) (c_asides) (c_sorted) (c_spot) (c_rectangles) (c_parts) (c_visited))) (wn := fun u_30 => (zMo cI cZ h_M q_M c_s c_past c_kept c_isKept c_pasts c_text c_typed c_rect_14 c_item c_items c_itemLevel c_treated c_from c_group c_turn c_size c_old c_aside c_begin c_level c_asides c_sorted c_spot c_rectangles c_parts c_visited)) (wr := []) (va_runV (As := [vI x5]) (rest := []) hF.1 (c_Mo_endOf l D cI cZ cT h_M q_M c_s c_past c_kept c_isKept c_pasts c_text c_typed c_rect_14 c_item c_items c_itemLevel c_treated c_from c_group c_turn c_size c_old c_aside c_begin c_level c_asides c_sorted c_spot c_rectangles c_parts c_visited x5 H.size (r_28) e_29) (cwV 1 hts (zgV wm922 wm924 wm40 wm89 wm925) rfl rfl rfl (by decide +kernel) ⟨Nat.le_of_ble_eq_true rfl, Nat.le_of_ble_eq_true rfl⟩) ⟨zP.blind, va_recv hK (z_subP (ws' := (zMo cI cZ (h_M) (q_M) (c_s) (c_past) (c_kept) (c_isKept) (c_pasts) (c_text) (c_typed) (c_rect_14) (c_item) (c_items) (c_itemLevel) (c_treated) (c_from) (c_group) (c_turn) (c_size) (c_old) (c_aside) (c_begin) (c_level) (c_asides) (c_sorted) (c_spot) (c_rectangles) (c_parts) (c_visited))) hP [0, 1, 2, 3, 4, 5, 6, 7, 8, 9, 10, 11, 12, 13, 14, 15, 16, 17, 18] rfl) (ci := 7) (q0 := 0) rfl rfl, zP.enter (z_subP (ws' := (zMo cI cZ (h_M) (q_M) (c_s) (c_past) (c_kept) (c_isKept) (c_pasts) (c_text) (c_typed) (c_rect_14) (c_item) (c_items) (c_itemLevel) (c_treated) (c_from) (c_group) (c_turn) (c_size) (c_old) (c_aside) (c_begin) (c_level) (c_asides) (c_sorted) (c_spot) (c_rectangles) (c_parts) (c_visited))) hP [0, 1, 2, 3, 4, 5, 6, 7, 8, 9, 10, 11, 12, 13, 14, 15, 16, 17, 18] rfl) hK (hD.sub [0, 1, 2, 3, 4, 5, 6, 7, 8, 9, 10, 11, 12, 13, 14, 15, 16, 17, 18] (by decide) rfl) hN⟩ rfl rfl hl.1 rfl (lv_room (Nat.le_of_ble_eq_true rfl)) dX7_takesFar_99 ⟨Nat.le_refl _, Nat.le_refl _⟩) hP hD hS hA [0, 1, 2, 3, 4, 5, 6, 7, 8, 9, 10, 11, 12, 13, 14, 15, 16, 17, 18] [] [0, 1, 2, 3, 4, 5, 6, 7, 8, 9, 10, 11, 12, 13, 14, 15, 16, 17, 18] rfl rfl (by decide) (fun _ => rfl) (fun u_30 H locs hP hD hS hz => ?_)
          refine lv_istore (lv' := [(5, vI r_28), (3, vI r_17), (2, vI x5), (6, vI r_17), (0, .ref h_M), (1, vI x1), (4, vI x4)]) hx hb dX7_takesFar_102 hl (by decide) rfl (fun ls hl => ?_)
          refine lv_goto (tgt := 44) hx hb dX7_takesFar_104 (by decide) ?_
          exact ih (x5) (r_17) (r_28) (c_rect_14) H locs ls h hP hD hS (lv_sub hl [4, 5, 2, 1, 6, 0] rfl)
      · have h := it_n b_21 h
        refine lv_iload hx hb dX7_takesFar_70 (lv_at hl 0 rfl) ?_
        refine lv_iload_n hx hb dX7_takesFar_72 rfl (lv_at hl 4 rfl) ?_
        obtain ⟨g_31, h⟩ := gd_e h
        obtain ⟨g_32, h⟩ := gd_e h
        refine z_icmp_lt (tgt := 81) hx hb g_31 g_32 dX7_takesFar_73 (by decide) (fun b_33 => ?_) (fun b_33 => ?_)
        · have h := it_p b_33 h
          refine lv_iload_n hx hb dX7_takesFar_81 rfl (lv_at hl 3 rfl) ?_
          refine lv_istore_n (lv' := [(2, vI x2), (6, vI r_17), (0, .ref h_M), (1, vI x1), (3, vI x3), (4, vI x4), (5, vI x5)]) hx hb dX7_takesFar_82 rfl hl (by decide) rfl (fun ls hl => ?_)
          refine lv_iload hx hb dX7_takesFar_83 (lv_at hl 1 rfl) ?_
          refine lv_iload_n hx hb dX7_takesFar_85 rfl (lv_at hl 4 rfl) ?_
          refine z_icmp_le (tgt := 94) hx hb g_31 g_32 dX7_takesFar_86 (by decide) (fun b_34 => ?_) (fun b_34 => ?_)
          · have h := it_n b_34 h
            refine lv_iload_n hx hb dX7_takesFar_94 rfl (lv_at hl 4 rfl) ?_
            refine lv_istore_n (lv' := [(3, vI x3), (2, vI x2), (6, vI r_17), (0, .ref h_M), (1, vI x1), (4, vI x4), (5, vI x5)]) hx hb dX7_takesFar_95 rfl hl (by decide) rfl (fun ls hl => ?_)
            refine lv_aload_n hx hb dX7_takesFar_96 rfl (lv_at hl 3 rfl) ?_
            refine lv_iload hx hb dX7_takesFar_97 (lv_at hl 6 rfl) ?_
            obtain ⟨r_35, e_36, h⟩ := bd1_e h
            refine z_goi (ws' := []) (ret := r_35) (wc := (zMo cI cZ (h_M) (q_M) (c_s) (c_past) (c_kept) (c_isKept) (c_pasts) (c_text) (c_typed) (c_rect_14) (c_item) (c_items) (c_itemLevel) (c_treated) (c_from) (c_group) (c_turn) (c_size) (c_old) (c_aside) (c_begin) (c_level) (c_asides) (c_sorted) (c_spot) (c_rectangles) (c_parts) (c_visited))) (wn := fun u_37 => (zMo cI cZ h_M q_M c_s c_past c_kept c_isKept c_pasts c_text c_typed c_rect_14 c_item c_items c_itemLevel c_treated c_from c_group c_turn c_size c_old c_aside c_begin c_level c_asides c_sorted c_spot c_rectangles c_parts c_visited)) (wr := []) (va_runV (As := [vI x5]) (rest := []) hF.1 (c_Mo_endOf l D cI cZ cT h_M q_M c_s c_past c_kept c_isKept c_pasts c_text c_typed c_rect_14 c_item c_items c_itemLevel c_treated c_from c_group c_turn c_size c_old c_aside c_begin c_level c_asides c_sorted c_spot c_rectangles c_parts c_visited x5 H.size (r_35) e_36) (cwV 1 hts (zgV wm922 wm924 wm40 wm89 wm925) rfl rfl rfl (by decide +kernel) ⟨Nat.le_of_ble_eq_true rfl, Nat.le_of_ble_eq_true rfl⟩) ⟨zP.blind, va_recv hK (z_subP (ws' := (zMo cI cZ (h_M) (q_M) (c_s) (c_past) (c_kept) (c_isKept) (c_pasts) (c_text) (c_typed) (c_rect_14) (c_item) (c_items) (c_itemLevel) (c_treated) (c_from) (c_group) (c_turn) (c_size) (c_old) (c_aside) (c_begin) (c_level) (c_asides) (c_sorted) (c_spot) (c_rectangles) (c_parts) (c_visited))) hP [0, 1, 2, 3, 4, 5, 6, 7, 8, 9, 10, 11, 12, 13, 14, 15, 16, 17, 18] rfl) (ci := 7) (q0 := 0) rfl rfl, zP.enter (z_subP (ws' := (zMo cI cZ (h_M) (q_M) (c_s) (c_past) (c_kept) (c_isKept) (c_pasts) (c_text) (c_typed) (c_rect_14) (c_item) (c_items) (c_itemLevel) (c_treated) (c_from) (c_group) (c_turn) (c_size) (c_old) (c_aside) (c_begin) (c_level) (c_asides) (c_sorted) (c_spot) (c_rectangles) (c_parts) (c_visited))) hP [0, 1, 2, 3, 4, 5, 6, 7, 8, 9, 10, 11, 12, 13, 14, 15, 16, 17, 18] rfl) hK (hD.sub [0, 1, 2, 3, 4, 5, 6, 7, 8, 9, 10, 11, 12, 13, 14, 15, 16, 17, 18] (by decide) rfl) hN⟩ rfl rfl hl.1 rfl (lv_room (Nat.le_of_ble_eq_true rfl)) dX7_takesFar_99 ⟨Nat.le_refl _, Nat.le_refl _⟩) hP hD hS hA [0, 1, 2, 3, 4, 5, 6, 7, 8, 9, 10, 11, 12, 13, 14, 15, 16, 17, 18] [] [0, 1, 2, 3, 4, 5, 6, 7, 8, 9, 10, 11, 12, 13, 14, 15, 16, 17, 18] rfl rfl (by decide) (fun _ => rfl) (fun u_37 H locs hP hD hS hz => ?_)
            refine lv_istore (lv' := [(5, vI r_35), (3, vI x3), (2, vI x2), (6, vI r_17), (0, .ref h_M), (1, vI x1), (4, vI x4)]) hx hb dX7_takesFar_102 hl (by decide) rfl (fun ls hl => ?_)
            refine lv_goto (tgt := 44) hx hb dX7_takesFar_104 (by decide) ?_
            exact ih (x2) (x3) (r_35) (c_rect_14) H locs ls h hP hD hS (lv_sub hl [4, 5, 2, 1, 6, 0] rfl)
          · have h := it_p b_34 h
            refine lv_iload hx hb dX7_takesFar_89 (lv_at hl 1 rfl) ?_
            refine lv_goto (tgt := 95) hx hb dX7_takesFar_91 (by decide) ?_
            refine lv_istore_n (lv' := [(3, vI r_17), (2, vI x2), (6, vI r_17), (0, .ref h_M), (1, vI x1), (4, vI x4), (5, vI x5)]) hx hb dX7_takesFar_95 rfl hl (by decide) rfl (fun ls hl => ?_)
            refine lv_aload_n hx hb dX7_takesFar_96 rfl (lv_at hl 3 rfl) ?_
            refine lv_iload hx hb dX7_takesFar_97 (lv_at hl 6 rfl) ?_
            obtain ⟨r_38, e_39, h⟩ := bd1_e h
            refine z_goi (ws' := []) (ret := r_38) (wc := (zMo cI cZ (h_M) (q_M) (c_s) (c_past) (c_kept) (c_isKept) (c_pasts) (c_text) (c_typed) (c_rect_14) (c_item) (c_items) (c_itemLevel) (c_treated) (c_from) (c_group) (c_turn) (c_size) (c_old) (c_aside) (c_begin) (c_level) (c_asides) (c_sorted) (c_spot) (c_rectangles) (c_parts) (c_visited))) (wn := fun u_40 => (zMo cI cZ h_M q_M c_s c_past c_kept c_isKept c_pasts c_text c_typed c_rect_14 c_item c_items c_itemLevel c_treated c_from c_group c_turn c_size c_old c_aside c_begin c_level c_asides c_sorted c_spot c_rectangles c_parts c_visited)) (wr := []) (va_runV (As := [vI x5]) (rest := []) hF.1 (c_Mo_endOf l D cI cZ cT h_M q_M c_s c_past c_kept c_isKept c_pasts c_text c_typed c_rect_14 c_item c_items c_itemLevel c_treated c_from c_group c_turn c_size c_old c_aside c_begin c_level c_asides c_sorted c_spot c_rectangles c_parts c_visited x5 H.size (r_38) e_39) (cwV 1 hts (zgV wm922 wm924 wm40 wm89 wm925) rfl rfl rfl (by decide +kernel) ⟨Nat.le_of_ble_eq_true rfl, Nat.le_of_ble_eq_true rfl⟩) ⟨zP.blind, va_recv hK (z_subP (ws' := (zMo cI cZ (h_M) (q_M) (c_s) (c_past) (c_kept) (c_isKept) (c_pasts) (c_text) (c_typed) (c_rect_14) (c_item) (c_items) (c_itemLevel) (c_treated) (c_from) (c_group) (c_turn) (c_size) (c_old) (c_aside) (c_begin) (c_level) (c_asides) (c_sorted) (c_spot) (c_rectangles) (c_parts) (c_visited))) hP [0, 1, 2, 3, 4, 5, 6, 7, 8, 9, 10, 11, 12, 13, 14, 15, 16, 17, 18] rfl) (ci := 7) (q0 := 0) rfl rfl, zP.enter (z_subP (ws' := (zMo cI cZ (h_M) (q_M) (c_s) (c_past) (c_kept) (c_isKept) (c_pasts) (c_text) (c_typed) (c_rect_14) (c_item) (c_items) (c_itemLevel) (c_treated) (c_from) (c_group) (c_turn) (c_size) (c_old) (c_aside) (c_begin) (c_level) (c_asides) (c_sorted) (c_spot) (c_rectangles) (c_parts) (c_visited))) hP [0, 1, 2, 3, 4, 5, 6, 7, 8, 9, 10, 11, 12, 13, 14, 15, 16, 17, 18] rfl) hK (hD.sub [0, 1, 2, 3, 4, 5, 6, 7, 8, 9, 10, 11, 12, 13, 14, 15, 16, 17, 18] (by decide) rfl) hN⟩ rfl rfl hl.1 rfl (lv_room (Nat.le_of_ble_eq_true rfl)) dX7_takesFar_99 ⟨Nat.le_refl _, Nat.le_refl _⟩) hP hD hS hA [0, 1, 2, 3, 4, 5, 6, 7, 8, 9, 10, 11, 12, 13, 14, 15, 16, 17, 18] [] [0, 1, 2, 3, 4, 5, 6, 7, 8, 9, 10, 11, 12, 13, 14, 15, 16, 17, 18] rfl rfl (by decide) (fun _ => rfl) (fun u_40 H locs hP hD hS hz => ?_)
            refine lv_istore (lv' := [(5, vI r_38), (3, vI r_17), (2, vI x2), (6, vI r_17), (0, .ref h_M), (1, vI x1), (4, vI x4)]) hx hb dX7_takesFar_102 hl (by decide) rfl (fun ls hl => ?_)
            refine lv_goto (tgt := 44) hx hb dX7_takesFar_104 (by decide) ?_
            exact ih (x2) (r_17) (r_38) (c_rect_14) H locs ls h hP hD hS (lv_sub hl [4, 5, 2, 1, 6, 0] rfl)
        · have h := it_n b_33 h
          refine lv_iload hx hb dX7_takesFar_76 (lv_at hl 6 rfl) ?_
          refine lv_goto (tgt := 82) hx hb dX7_takesFar_78 (by decide) ?_
          refine lv_istore_n (lv' := [(2, vI x5), (6, vI r_17), (0, .ref h_M), (1, vI x1), (3, vI x3), (4, vI x4), (5, vI x5)]) hx hb dX7_takesFar_82 rfl hl (by decide) rfl (fun ls hl => ?_)
          refine lv_iload hx hb dX7_takesFar_83 (lv_at hl 1 rfl) ?_
          refine lv_iload_n hx hb dX7_takesFar_85 rfl (lv_at hl 4 rfl) ?_
          refine z_icmp_le (tgt := 94) hx hb g_31 g_32 dX7_takesFar_86 (by decide) (fun b_41 => ?_) (fun b_41 => ?_)
          · have h := it_n b_41 h
            refine lv_iload_n hx hb dX7_takesFar_94 rfl (lv_at hl 4 rfl) ?_
            refine lv_istore_n (lv' := [(3, vI x3), (2, vI x5), (6, vI r_17), (0, .ref h_M), (1, vI x1), (4, vI x4), (5, vI x5)]) hx hb dX7_takesFar_95 rfl hl (by decide) rfl (fun ls hl => ?_)
            refine lv_aload_n hx hb dX7_takesFar_96 rfl (lv_at hl 3 rfl) ?_
            refine lv_iload hx hb dX7_takesFar_97 (lv_at hl 6 rfl) ?_
            obtain ⟨r_42, e_43, h⟩ := bd1_e h
            refine z_goi (ws' := []) (ret := r_42) (wc := (zMo cI cZ (h_M) (q_M) (c_s) (c_past) (c_kept) (c_isKept) (c_pasts) (c_text) (c_typed) (c_rect_14) (c_item) (c_items) (c_itemLevel) (c_treated) (c_from) (c_group) (c_turn) (c_size) (c_old) (c_aside) (c_begin) (c_level) (c_asides) (c_sorted) (c_spot) (c_rectangles) (c_parts) (c_visited))) (wn := fun u_44 => (zMo cI cZ h_M q_M c_s c_past c_kept c_isKept c_pasts c_text c_typed c_rect_14 c_item c_items c_itemLevel c_treated c_from c_group c_turn c_size c_old c_aside c_begin c_level c_asides c_sorted c_spot c_rectangles c_parts c_visited)) (wr := []) (va_runV (As := [vI x5]) (rest := []) hF.1 (c_Mo_endOf l D cI cZ cT h_M q_M c_s c_past c_kept c_isKept c_pasts c_text c_typed c_rect_14 c_item c_items c_itemLevel c_treated c_from c_group c_turn c_size c_old c_aside c_begin c_level c_asides c_sorted c_spot c_rectangles c_parts c_visited x5 H.size (r_42) e_43) (cwV 1 hts (zgV wm922 wm924 wm40 wm89 wm925) rfl rfl rfl (by decide +kernel) ⟨Nat.le_of_ble_eq_true rfl, Nat.le_of_ble_eq_true rfl⟩) ⟨zP.blind, va_recv hK (z_subP (ws' := (zMo cI cZ (h_M) (q_M) (c_s) (c_past) (c_kept) (c_isKept) (c_pasts) (c_text) (c_typed) (c_rect_14) (c_item) (c_items) (c_itemLevel) (c_treated) (c_from) (c_group) (c_turn) (c_size) (c_old) (c_aside) (c_begin) (c_level) (c_asides) (c_sorted) (c_spot) (c_rectangles) (c_parts) (c_visited))) hP [0, 1, 2, 3, 4, 5, 6, 7, 8, 9, 10, 11, 12, 13, 14, 15, 16, 17, 18] rfl) (ci := 7) (q0 := 0) rfl rfl, zP.enter (z_subP (ws' := (zMo cI cZ (h_M) (q_M) (c_s) (c_past) (c_kept) (c_isKept) (c_pasts) (c_text) (c_typed) (c_rect_14) (c_item) (c_items) (c_itemLevel) (c_treated) (c_from) (c_group) (c_turn) (c_size) (c_old) (c_aside) (c_begin) (c_level) (c_asides) (c_sorted) (c_spot) (c_rectangles) (c_parts) (c_visited))) hP [0, 1, 2, 3, 4, 5, 6, 7, 8, 9, 10, 11, 12, 13, 14, 15, 16, 17, 18] rfl) hK (hD.sub [0, 1, 2, 3, 4, 5, 6, 7, 8, 9, 10, 11, 12, 13, 14, 15, 16, 17, 18] (by decide) rfl) hN⟩ rfl rfl hl.1 rfl (lv_room (Nat.le_of_ble_eq_true rfl)) dX7_takesFar_99 ⟨Nat.le_refl _, Nat.le_refl _⟩) hP hD hS hA [0, 1, 2, 3, 4, 5, 6, 7, 8, 9, 10, 11, 12, 13, 14, 15, 16, 17, 18] [] [0, 1, 2, 3, 4, 5, 6, 7, 8, 9, 10, 11, 12, 13, 14, 15, 16, 17, 18] rfl rfl (by decide) (fun _ => rfl) (fun u_44 H locs hP hD hS hz => ?_)
            refine lv_istore (lv' := [(5, vI r_42), (3, vI x3), (2, vI x5), (6, vI r_17), (0, .ref h_M), (1, vI x1), (4, vI x4)]) hx hb dX7_takesFar_102 hl (by decide) rfl (fun ls hl => ?_)
            refine lv_goto (tgt := 44) hx hb dX7_takesFar_104 (by decide) ?_
            exact ih (x5) (x3) (r_42) (c_rect_14) H locs ls h hP hD hS (lv_sub hl [4, 5, 2, 1, 6, 0] rfl)
          · have h := it_p b_41 h
            refine lv_iload hx hb dX7_takesFar_89 (lv_at hl 1 rfl) ?_
            refine lv_goto (tgt := 95) hx hb dX7_takesFar_91 (by decide) ?_
            refine lv_istore_n (lv' := [(3, vI r_17), (2, vI x5), (6, vI r_17), (0, .ref h_M), (1, vI x1), (4, vI x4), (5, vI x5)]) hx hb dX7_takesFar_95 rfl hl (by decide) rfl (fun ls hl => ?_)
            refine lv_aload_n hx hb dX7_takesFar_96 rfl (lv_at hl 3 rfl) ?_
            refine lv_iload hx hb dX7_takesFar_97 (lv_at hl 6 rfl) ?_
            obtain ⟨r_45, e_46, h⟩ := bd1_e h
            refine z_goi (ws' := []) (ret := r_45) (wc := (zMo cI cZ (h_M) (q_M) (c_s) (c_past) (c_kept) (c_isKept) (c_pasts) (c_text) (c_typed) (c_rect_14) (c_item) (c_items) (c_itemLevel) (c_treated) (c_from) (c_group) (c_turn) (c_size) (c_old) (c_aside) (c_begin) (c_level) (c_asides) (c_sorted) (c_spot) (c_rectangles) (c_parts) (c_visited))) (wn := fun u_47 => (zMo cI cZ h_M q_M c_s c_past c_kept c_isKept c_pasts c_text c_typed c_rect_14 c_item c_items c_itemLevel c_treated c_from c_group c_turn c_size c_old c_aside c_begin c_level c_asides c_sorted c_spot c_rectangles c_parts c_visited)) (wr := []) (va_runV (As := [vI x5]) (rest := []) hF.1 (c_Mo_endOf l D cI cZ cT h_M q_M c_s c_past c_kept c_isKept c_pasts c_text c_typed c_rect_14 c_item c_items c_itemLevel c_treated c_from c_group c_turn c_size c_old c_aside c_begin c_level c_asides c_sorted c_spot c_rectangles c_parts c_visited x5 H.size (r_45) e_46) (cwV 1 hts (zgV wm922 wm924 wm40 wm89 wm925) rfl rfl rfl (by decide +kernel) ⟨Nat.le_of_ble_eq_true rfl, Nat.le_of_ble_eq_true rfl⟩) ⟨zP.blind, va_recv hK (z_subP (ws' := (zMo cI cZ (h_M) (q_M) (c_s) (c_past) (c_kept) (c_isKept) (c_pasts) (c_text) (c_typed) (c_rect_14) (c_item) (c_items) (c_itemLevel) (c_treated) (c_from) (c_group) (c_turn) (c_size) (c_old) (c_aside) (c_begin) (c_level) (c_asides) (c_sorted) (c_spot) (c_rectangles) (c_parts) (c_visited))) hP [0, 1, 2, 3, 4, 5, 6, 7, 8, 9, 10, 11, 12, 13, 14, 15, 16, 17, 18] rfl) (ci := 7) (q0 := 0) rfl rfl, zP.enter (z_subP (ws' := (zMo cI cZ (h_M) (q_M) (c_s) (c_past) (c_kept) (c_isKept) (c_pasts) (c_text) (c_typed) (c_rect_14) (c_item) (c_items) (c_itemLevel) (c_treated) (c_from) (c_group) (c_turn) (c_size) (c_old) (c_aside) (c_begin) (c_level) (c_asides) (c_sorted) (c_spot) (c_rectangles) (c_parts) (c_visited))) hP [0, 1, 2, 3, 4, 5, 6, 7, 8, 9, 10, 11, 12, 13, 14, 15, 16, 17, 18] rfl) hK (hD.sub [0, 1, 2, 3, 4, 5, 6, 7, 8, 9, 10, 11, 12, 13, 14, 15, 16, 17, 18] (by decide) rfl) hN⟩ rfl rfl hl.1 rfl (lv_room (Nat.le_of_ble_eq_true rfl)) dX7_takesFar_99 ⟨Nat.le_refl _, Nat.le_refl _⟩) hP hD hS hA [0, 1, 2, 3, 4, 5, 6, 7, 8, 9, 10, 11, 12, 13, 14, 15, 16, 17, 18] [] [0, 1, 2, 3, 4, 5, 6, 7, 8, 9, 10, 11, 12, 13, 14, 15, 16, 17, 18] rfl rfl (by decide) (fun _ => rfl) (fun u_47 H locs hP hD hS hz => ?_)
            refine lv_istore (lv' := [(5, vI r_45), (3, vI r_17), (2, vI x5), (6, vI r_17), (0, .ref h_M), (1, vI x1), (4, vI x4)]) hx hb dX7_takesFar_102 hl (by decide) rfl (fun ls hl => ?_)
            refine lv_goto (tgt := 44) hx hb dX7_takesFar_104 (by decide) ?_
            exact ih (x5) (r_17) (r_45) (c_rect_14) H locs ls h hP hD hS (lv_sub hl [4, 5, 2, 1, 6, 0] rfl)
set_option maxHeartbeats 4000000 in
set_option maxRecDepth 100000 in
theorem c_Mo_takesFar (l : Launch) (D : va_G) (cI cZ cT : ClassId) (h_M : Nat) (q_M : Nat → Nat) (c_s : Nat → Int) (c_past : Nat → Int) (c_kept : Nat → Int) (c_isKept : Int) (c_pasts : Int) (c_text : Nat → Int) (c_typed : Int) (c_rect : Nat → Int) (c_item : Nat → Int) (c_items : Int) (c_itemLevel : Int) (c_treated : Nat → Int) (c_from : Nat → Int) (c_group : Nat → Int) (c_turn : Nat → Int) (c_size : Nat → Int) (c_old : Nat → Int) (c_aside : Nat → Int) (c_begin : Nat → Int) (c_level : Nat → Int) (c_asides : Int) (c_sorted : Nat → Int) (c_spot : Int) (c_rectangles : Int) (c_parts : Nat → Int) (c_visited : Nat → Int) (x1 : Int) (sz : Nat) (res : (Nat → Int) × (Nat → Int) × (Nat → Int) × Int × Int × (Nat → Int)) (h : f_Mo_takesFar c_s c_rect c_item c_treated x1 = some res) : zMv l yX7_takesFar cX7_takesFar 7 rm_Mo_takesFar D (zt cI cZ cT) [.ref h_M, vI x1] ((zMo cI cZ h_M q_M c_s c_past c_kept c_isKept c_pasts c_text c_typed c_rect c_item c_items c_itemLevel c_treated c_from c_group c_turn c_size c_old c_aside c_begin c_level c_asides c_sorted c_spot c_rectangles c_parts c_visited)) sz (fun u => (zMo cI cZ h_M q_M (res.1) c_past c_kept c_isKept c_pasts c_text c_typed (res.2.1) (res.2.2.1) (res.2.2.2.1) (res.2.2.2.2.1) (res.2.2.2.2.2) c_from c_group c_turn c_size c_old c_aside c_begin c_level c_asides c_sorted c_spot c_rectangles c_parts c_visited)) 0 0 := by
  refine z_enth (Qc := zQv D (fun u => (zMo cI cZ h_M q_M (res.1) c_past c_kept c_isKept c_pasts c_text c_typed (res.2.1) (res.2.2.1) (res.2.2.2.1) (res.2.2.2.2.1) (res.2.2.2.2.2) c_from c_group c_turn c_size c_old c_aside c_begin c_level c_asides c_sorted c_spot c_rectangles c_parts c_visited))) (by decide) (Nat.le_of_ble_eq_true rfl) (fun p e s m args below meth c A ls H locs hF hP hD hS hl => ?_)
  have hx := hF.1.1
  have hb := hF.1.2.1
  have hml := hF.1.2.2.1
  have hown : s.vm.findClass "RectangleTreeModel" = some m.cls := hF.1.2.2.2.1
  have hts := hF.1.2.2.2.2
  have hr := hF.2.1
  have hlk := hF.2.2.1
  have hK := hF.2.2.2.2.1
  have hN := hF.2.2.2.2.2.1
  have hA := hF.2.2.2.2.2.2
  unfold f_Mo_takesFar at h
  refine lv_aload_n hx hb dX7_takesFar_0 rfl (lv_at hl 0 rfl) ?_
  refine va_get (D := D) (ci := 7) (v := .ref (q_M 6)) (C := RX7) (T := TX7) (N := 26) hx hb hts zin7 hown hK hP 0 rfl rfl 11 (by decide) (hts _ wm798) (fun _ h9 => h9) rfl dX7_takesFar_1 ?_
  refine lv_aload_n hx hb dX7_takesFar_4 rfl (lv_at hl 0 rfl) ?_
  refine lv_iload_n hx hb dX7_takesFar_5 rfl (lv_at hl 1 rfl) ?_
  obtain ⟨r_1, e_2, h⟩ := bd1_e h
  refine z_goi (ws' := []) (ret := r_1) (wc := (zMo cI cZ (h_M) (q_M) (c_s) (c_past) (c_kept) (c_isKept) (c_pasts) (c_text) (c_typed) (c_rect) (c_item) (c_items) (c_itemLevel) (c_treated) (c_from) (c_group) (c_turn) (c_size) (c_old) (c_aside) (c_begin) (c_level) (c_asides) (c_sorted) (c_spot) (c_rectangles) (c_parts) (c_visited))) (wn := fun u_3 => (zMo cI cZ h_M q_M c_s c_past c_kept c_isKept c_pasts c_text c_typed c_rect c_item c_items c_itemLevel c_treated c_from c_group c_turn c_size c_old c_aside c_begin c_level c_asides c_sorted c_spot c_rectangles c_parts c_visited)) (wr := []) (va_runV (As := [vI x1]) (rest := [.ref (q_M 6)]) hF.1 (c_Mo_levelAt l D cI cZ cT h_M q_M c_s c_past c_kept c_isKept c_pasts c_text c_typed c_rect c_item c_items c_itemLevel c_treated c_from c_group c_turn c_size c_old c_aside c_begin c_level c_asides c_sorted c_spot c_rectangles c_parts c_visited x1 H.size (r_1) e_2) (cwV 1 hts (zgV wm911 wm913 wm38 wm89 wm914) rfl rfl rfl (by decide +kernel) ⟨Nat.le_of_ble_eq_true rfl, Nat.le_of_ble_eq_true rfl⟩) ⟨zP.blind, va_recv hK (z_subP (ws' := (zMo cI cZ (h_M) (q_M) (c_s) (c_past) (c_kept) (c_isKept) (c_pasts) (c_text) (c_typed) (c_rect) (c_item) (c_items) (c_itemLevel) (c_treated) (c_from) (c_group) (c_turn) (c_size) (c_old) (c_aside) (c_begin) (c_level) (c_asides) (c_sorted) (c_spot) (c_rectangles) (c_parts) (c_visited))) hP [0, 1, 2, 3, 4, 5, 6, 7, 8, 9, 10, 11, 12, 13, 14, 15, 16, 17, 18] rfl) (ci := 7) (q0 := 0) rfl rfl, zP.enter (z_subP (ws' := (zMo cI cZ (h_M) (q_M) (c_s) (c_past) (c_kept) (c_isKept) (c_pasts) (c_text) (c_typed) (c_rect) (c_item) (c_items) (c_itemLevel) (c_treated) (c_from) (c_group) (c_turn) (c_size) (c_old) (c_aside) (c_begin) (c_level) (c_asides) (c_sorted) (c_spot) (c_rectangles) (c_parts) (c_visited))) hP [0, 1, 2, 3, 4, 5, 6, 7, 8, 9, 10, 11, 12, 13, 14, 15, 16, 17, 18] rfl) hK (hD.sub [0, 1, 2, 3, 4, 5, 6, 7, 8, 9, 10, 11, 12, 13, 14, 15, 16, 17, 18] (by decide) rfl) hN⟩ rfl rfl hl.1 rfl (lv_room (Nat.le_of_ble_eq_true rfl)) dX7_takesFar_6 ⟨Nat.le_refl _, Nat.le_refl _⟩) hP hD hS hA [0, 1, 2, 3, 4, 5, 6, 7, 8, 9, 10, 11, 12, 13, 14, 15, 16, 17, 18] [] [0, 1, 2, 3, 4, 5, 6, 7, 8, 9, 10, 11, 12, 13, 14, 15, 16, 17, 18] rfl rfl (by decide) (fun _ => rfl) (fun u_3 H locs hP hD hS hz => ?_)
  refine lv_iconst (v := Int32.ofInt 1) hx hb dX7_takesFar_9 rfl ?_
  obtain ⟨g_4, h⟩ := gd_e h
  refine z_zast (n := 24) (f := c_treated) (i := r_1) (x := 1) (ws' := (zMo cI cZ h_M q_M c_s c_past c_kept c_isKept c_pasts c_text c_typed c_rect c_item c_items c_itemLevel (up c_treated ((r_1).toNat) 1) c_from c_group c_turn c_size c_old c_aside c_begin c_level c_asides c_sorted c_spot c_rectangles c_parts c_visited)) hx hb hK hP hD hS 7 rfl rfl g_4 (by have := g_4.2; omega) (by decide +kernel) dX7_takesFar_10 rfl (fun H locs hP hD hS => ?_)
  refine lv_aload_n hx hb dX7_takesFar_11 rfl (lv_at hl 0 rfl) ?_
  refine va_get (D := D) (ci := 7) (v := .ref (q_M 0)) (C := RX7) (T := TX7) (N := 26) hx hb hts zin7 hown hK hP 0 rfl rfl 0 (by decide) (hts _ wm787) (fun _ h9 => h9) rfl dX7_takesFar_12 ?_
  refine lv_iconst (v := Int32.ofInt 3) hx hb dX7_takesFar_15 rfl ?_
  refine lv_dup2_11 hx hb dX7_takesFar_16 rfl rfl ?_
  refine z_iald (n := 461) (f := c_s) (i := 3) hx hb hK hP 1 rfl rfl (by decide) (by decide) dX7_takesFar_17 ?_
  refine lv_iconst (v := Int32.ofInt 1) hx hb dX7_takesFar_18 rfl ?_
  refine z_iadd hx hb dX7_takesFar_19 ?_
  refine z_iast (n := 461) (f := c_s) (i := 3) (x := ((c_s 3) + 1)) (ws' := (zMo cI cZ h_M q_M (up c_s (3) ((c_s 3) + 1)) c_past c_kept c_isKept c_pasts c_text c_typed c_rect c_item c_items c_itemLevel (up c_treated ((r_1).toNat) 1) c_from c_group c_turn c_size c_old c_aside c_begin c_level c_asides c_sorted c_spot c_rectangles c_parts c_visited)) hx hb hK hP hD hS 1 rfl rfl (by decide) (by decide) dX7_takesFar_20 rfl (fun H locs hP hD hS => ?_)
  refine lv_aload_n hx hb dX7_takesFar_21 rfl (lv_at hl 0 rfl) ?_
  refine lv_iload_n hx hb dX7_takesFar_22 rfl (lv_at hl 1 rfl) ?_
  refine lv_iconst (v := Int32.ofInt 1) hx hb dX7_takesFar_23 rfl ?_
  obtain ⟨c_rect_5, e_6, h⟩ := bd1_e h
  refine z_gov (wc := (zMo cI cZ (h_M) (q_M) ((up c_s (3) ((c_s 3) + 1))) (c_past) (c_kept) (c_isKept) (c_pasts) (c_text) (c_typed) (c_rect) (c_item) (c_items) (c_itemLevel) ((up c_treated ((r_1).toNat) 1)) (c_from) (c_group) (c_turn) (c_size) (c_old) (c_aside) (c_begin) (c_level) (c_asides) (c_sorted) (c_spot) (c_rectangles) (c_parts) (c_visited))) (wn := fun u_7 => (zMo cI cZ h_M q_M (up c_s (3) ((c_s 3) + 1)) c_past c_kept c_isKept c_pasts c_text c_typed c_rect_5 c_item c_items c_itemLevel (up c_treated ((r_1).toNat) 1) c_from c_group c_turn c_size c_old c_aside c_begin c_level c_asides c_sorted c_spot c_rectangles c_parts c_visited)) (wr := []) (va_runV (As := [vI x1, vI 1]) (rest := []) hF.1 (c_Mo_boundsAt l D cI cZ cT h_M q_M (up c_s (3) ((c_s 3) + 1)) c_past c_kept c_isKept c_pasts c_text c_typed c_rect c_item c_items c_itemLevel (up c_treated ((r_1).toNat) 1) c_from c_group c_turn c_size c_old c_aside c_begin c_level c_asides c_sorted c_spot c_rectangles c_parts c_visited x1 1 H.size (c_rect_5) e_6) (cwV 2 hts (zgV wm930 wm932 wm42 wm89 wm933) rfl rfl rfl (by decide +kernel) ⟨Nat.le_of_ble_eq_true rfl, Nat.le_of_ble_eq_true rfl⟩) ⟨zP.blind, va_recv hK (z_subP (ws' := (zMo cI cZ (h_M) (q_M) ((up c_s (3) ((c_s 3) + 1))) (c_past) (c_kept) (c_isKept) (c_pasts) (c_text) (c_typed) (c_rect) (c_item) (c_items) (c_itemLevel) ((up c_treated ((r_1).toNat) 1)) (c_from) (c_group) (c_turn) (c_size) (c_old) (c_aside) (c_begin) (c_level) (c_asides) (c_sorted) (c_spot) (c_rectangles) (c_parts) (c_visited))) hP [0, 1, 2, 3, 4, 5, 6, 7, 8, 9, 10, 11, 12, 13, 14, 15, 16, 17, 18] rfl) (ci := 7) (q0 := 0) rfl rfl, zP.enter (z_subP (ws' := (zMo cI cZ (h_M) (q_M) ((up c_s (3) ((c_s 3) + 1))) (c_past) (c_kept) (c_isKept) (c_pasts) (c_text) (c_typed) (c_rect) (c_item) (c_items) (c_itemLevel) ((up c_treated ((r_1).toNat) 1)) (c_from) (c_group) (c_turn) (c_size) (c_old) (c_aside) (c_begin) (c_level) (c_asides) (c_sorted) (c_spot) (c_rectangles) (c_parts) (c_visited))) hP [0, 1, 2, 3, 4, 5, 6, 7, 8, 9, 10, 11, 12, 13, 14, 15, 16, 17, 18] rfl) hK (hD.sub [0, 1, 2, 3, 4, 5, 6, 7, 8, 9, 10, 11, 12, 13, 14, 15, 16, 17, 18] (by decide) rfl) hN⟩ rfl rfl hl.1 rfl (lv_room (Nat.le_of_ble_eq_true rfl)) dX7_takesFar_24 ⟨Nat.le_refl _, Nat.le_refl _⟩) hP hD hS hA [0, 1, 2, 3, 4, 5, 6, 7, 8, 9, 10, 11, 12, 13, 14, 15, 16, 17, 18] [] [0, 1, 2, 3, 4, 5, 6, 7, 8, 9, 10, 11, 12, 13, 14, 15, 16, 17, 18] rfl rfl (by decide) (fun _ => rfl) (fun u_7 H locs hP hD hS hz => ?_)
  refine lv_bipush (v := Int32.ofInt (-5)) hx hb dX7_takesFar_27 (by decide +kernel) ?_
  refine lv_istore_n (lv' := [(2, vI (-5)), (0, .ref h_M), (1, vI x1)]) hx hb dX7_takesFar_29 rfl hl (by decide) rfl (fun ls hl => ?_)
  refine lv_iconst (v := Int32.ofInt 0) hx hb dX7_takesFar_30 rfl ?_
  refine lv_istore_n (lv' := [(3, vI 0), (2, vI (-5)), (0, .ref h_M), (1, vI x1)]) hx hb dX7_takesFar_31 rfl hl (by decide) rfl (fun ls hl => ?_)
  refine lv_aload_n hx hb dX7_takesFar_32 rfl (lv_at hl 2 rfl) ?_
  refine lv_iload_n hx hb dX7_takesFar_33 rfl (lv_at hl 3 rfl) ?_
  obtain ⟨r_8, e_9, h⟩ := bd1_e h
  refine z_goi (ws' := []) (ret := r_8) (wc := (zMo cI cZ (h_M) (q_M) ((up c_s (3) ((c_s 3) + 1))) (c_past) (c_kept) (c_isKept) (c_pasts) (c_text) (c_typed) (c_rect_5) (c_item) (c_items) (c_itemLevel) ((up c_treated ((r_1).toNat) 1)) (c_from) (c_group) (c_turn) (c_size) (c_old) (c_aside) (c_begin) (c_level) (c_asides) (c_sorted) (c_spot) (c_rectangles) (c_parts) (c_visited))) (wn := fun u_10 => (zMo cI cZ h_M q_M (up c_s (3) ((c_s 3) + 1)) c_past c_kept c_isKept c_pasts c_text c_typed c_rect_5 c_item c_items c_itemLevel (up c_treated ((r_1).toNat) 1) c_from c_group c_turn c_size c_old c_aside c_begin c_level c_asides c_sorted c_spot c_rectangles c_parts c_visited)) (wr := []) (va_runV (As := [vI x1]) (rest := []) hF.1 (c_Mo_endOf l D cI cZ cT h_M q_M (up c_s (3) ((c_s 3) + 1)) c_past c_kept c_isKept c_pasts c_text c_typed c_rect_5 c_item c_items c_itemLevel (up c_treated ((r_1).toNat) 1) c_from c_group c_turn c_size c_old c_aside c_begin c_level c_asides c_sorted c_spot c_rectangles c_parts c_visited x1 H.size (r_8) e_9) (cwV 1 hts (zgV wm922 wm924 wm40 wm89 wm925) rfl rfl rfl (by decide +kernel) ⟨Nat.le_of_ble_eq_true rfl, Nat.le_of_ble_eq_true rfl⟩) ⟨zP.blind, va_recv hK (z_subP (ws' := (zMo cI cZ (h_M) (q_M) ((up c_s (3) ((c_s 3) + 1))) (c_past) (c_kept) (c_isKept) (c_pasts) (c_text) (c_typed) (c_rect_5) (c_item) (c_items) (c_itemLevel) ((up c_treated ((r_1).toNat) 1)) (c_from) (c_group) (c_turn) (c_size) (c_old) (c_aside) (c_begin) (c_level) (c_asides) (c_sorted) (c_spot) (c_rectangles) (c_parts) (c_visited))) hP [0, 1, 2, 3, 4, 5, 6, 7, 8, 9, 10, 11, 12, 13, 14, 15, 16, 17, 18] rfl) (ci := 7) (q0 := 0) rfl rfl, zP.enter (z_subP (ws' := (zMo cI cZ (h_M) (q_M) ((up c_s (3) ((c_s 3) + 1))) (c_past) (c_kept) (c_isKept) (c_pasts) (c_text) (c_typed) (c_rect_5) (c_item) (c_items) (c_itemLevel) ((up c_treated ((r_1).toNat) 1)) (c_from) (c_group) (c_turn) (c_size) (c_old) (c_aside) (c_begin) (c_level) (c_asides) (c_sorted) (c_spot) (c_rectangles) (c_parts) (c_visited))) hP [0, 1, 2, 3, 4, 5, 6, 7, 8, 9, 10, 11, 12, 13, 14, 15, 16, 17, 18] rfl) hK (hD.sub [0, 1, 2, 3, 4, 5, 6, 7, 8, 9, 10, 11, 12, 13, 14, 15, 16, 17, 18] (by decide) rfl) hN⟩ rfl rfl hl.1 rfl (lv_room (Nat.le_of_ble_eq_true rfl)) dX7_takesFar_34 ⟨Nat.le_refl _, Nat.le_refl _⟩) hP hD hS hA [0, 1, 2, 3, 4, 5, 6, 7, 8, 9, 10, 11, 12, 13, 14, 15, 16, 17, 18] [] [0, 1, 2, 3, 4, 5, 6, 7, 8, 9, 10, 11, 12, 13, 14, 15, 16, 17, 18] rfl rfl (by decide) (fun _ => rfl) (fun u_10 H locs hP hD hS hz => ?_)
  refine lv_istore (lv' := [(4, vI r_8), (3, vI 0), (2, vI (-5)), (0, .ref h_M), (1, vI x1)]) hx hb dX7_takesFar_37 hl (by decide) rfl (fun ls hl => ?_)
  refine lv_iload_n hx hb dX7_takesFar_39 rfl (lv_at hl 4 rfl) ?_
  refine lv_iconst (v := Int32.ofInt 1) hx hb dX7_takesFar_40 rfl ?_
  refine z_iadd hx hb dX7_takesFar_41 ?_
  refine lv_istore (lv' := [(5, vI (x1 + 1)), (4, vI r_8), (3, vI 0), (2, vI (-5)), (0, .ref h_M), (1, vI x1)]) hx hb dX7_takesFar_42 hl (by decide) rfl (fun ls hl => ?_)
  refine w_Mo_takesFar_L44 D cI cZ cT (h_M) (q_M) ((up c_s (3) ((c_s 3) + 1))) (c_past) (c_kept) (c_isKept) (c_pasts) (c_text) (c_typed) (c_item) (c_items) (c_itemLevel) ((up c_treated ((r_1).toNat) 1)) (c_from) (c_group) (c_turn) (c_size) (c_old) (c_aside) (c_begin) (c_level) (c_asides) (c_sorted) (c_spot) (c_rectangles) (c_parts) (c_visited) (x1) (r_8) _ _ hF (fun x2_48 x3_49 x5_50 c_rect_51 H locs ls h hP hD hS hl => ?_) _ ((-5)) (0) ((x1 + 1)) (c_rect_5) _ _ _ h hP hD hS (lv_sub hl [4, 5, 3, 2, 1, 0] rfl)
  refine lv_aload_n hx hb dX7_takesFar_107 rfl (lv_at hl 0 rfl) ?_
  refine lv_aload_n hx hb dX7_takesFar_108 rfl (lv_at hl 0 rfl) ?_
  refine lv_iload_n hx hb dX7_takesFar_109 rfl (lv_at hl 1 rfl) ?_
  obtain ⟨r_52, e_53, h⟩ := bd1_e h
  refine z_goi (ws' := []) (ret := r_52) (wc := (zMo cI cZ (h_M) (q_M) ((up c_s (3) ((c_s 3) + 1))) (c_past) (c_kept) (c_isKept) (c_pasts) (c_text) (c_typed) (c_rect_51) (c_item) (c_items) (c_itemLevel) ((up c_treated ((r_1).toNat) 1)) (c_from) (c_group) (c_turn) (c_size) (c_old) (c_aside) (c_begin) (c_level) (c_asides) (c_sorted) (c_spot) (c_rectangles) (c_parts) (c_visited))) (wn := fun u_54 => (zMo cI cZ h_M q_M (up c_s (3) ((c_s 3) + 1)) c_past c_kept c_isKept c_pasts c_text c_typed c_rect_51 c_item c_items c_itemLevel (up c_treated ((r_1).toNat) 1) c_from c_group c_turn c_size c_old c_aside c_begin c_level c_asides c_sorted c_spot c_rectangles c_parts c_visited)) (wr := []) (va_runV (As := [vI x1]) (rest := [.ref h_M]) hF.1 (c_Mo_levelAt l D cI cZ cT h_M q_M (up c_s (3) ((c_s 3) + 1)) c_past c_kept c_isKept c_pasts c_text c_typed c_rect_51 c_item c_items c_itemLevel (up c_treated ((r_1).toNat) 1) c_from c_group c_turn c_size c_old c_aside c_begin c_level c_asides c_sorted c_spot c_rectangles c_parts c_visited x1 H.size (r_52) e_53) (cwV 1 hts (zgV wm911 wm913 wm38 wm89 wm914) rfl rfl rfl (by decide +kernel) ⟨Nat.le_of_ble_eq_true rfl, Nat.le_of_ble_eq_true rfl⟩) ⟨zP.blind, va_recv hK (z_subP (ws' := (zMo cI cZ (h_M) (q_M) ((up c_s (3) ((c_s 3) + 1))) (c_past) (c_kept) (c_isKept) (c_pasts) (c_text) (c_typed) (c_rect_51) (c_item) (c_items) (c_itemLevel) ((up c_treated ((r_1).toNat) 1)) (c_from) (c_group) (c_turn) (c_size) (c_old) (c_aside) (c_begin) (c_level) (c_asides) (c_sorted) (c_spot) (c_rectangles) (c_parts) (c_visited))) hP [0, 1, 2, 3, 4, 5, 6, 7, 8, 9, 10, 11, 12, 13, 14, 15, 16, 17, 18] rfl) (ci := 7) (q0 := 0) rfl rfl, zP.enter (z_subP (ws' := (zMo cI cZ (h_M) (q_M) ((up c_s (3) ((c_s 3) + 1))) (c_past) (c_kept) (c_isKept) (c_pasts) (c_text) (c_typed) (c_rect_51) (c_item) (c_items) (c_itemLevel) ((up c_treated ((r_1).toNat) 1)) (c_from) (c_group) (c_turn) (c_size) (c_old) (c_aside) (c_begin) (c_level) (c_asides) (c_sorted) (c_spot) (c_rectangles) (c_parts) (c_visited))) hP [0, 1, 2, 3, 4, 5, 6, 7, 8, 9, 10, 11, 12, 13, 14, 15, 16, 17, 18] rfl) hK (hD.sub [0, 1, 2, 3, 4, 5, 6, 7, 8, 9, 10, 11, 12, 13, 14, 15, 16, 17, 18] (by decide) rfl) hN⟩ rfl rfl hl.1 rfl (lv_room (Nat.le_of_ble_eq_true rfl)) dX7_takesFar_110 ⟨Nat.le_refl _, Nat.le_refl _⟩) hP hD hS hA [0, 1, 2, 3, 4, 5, 6, 7, 8, 9, 10, 11, 12, 13, 14, 15, 16, 17, 18] [] [0, 1, 2, 3, 4, 5, 6, 7, 8, 9, 10, 11, 12, 13, 14, 15, 16, 17, 18] rfl rfl (by decide) (fun _ => rfl) (fun u_54 H locs hP hD hS hz => ?_)
  refine va_put (D := D) (ci := 7) (v := vI r_52) (ty := .int) (C := RX7) (T := TX7) (N := 26) hx hb hts zin7 tyX7 tyX7_ok nmX7 hown hK hP hD hS 0 rfl rfl 10 (by decide) (hts _ wm797) (fun _ h9 => h9) rfl (by decide +kernel) rfl rfl (Nat.le_of_ble_eq_true rfl) dX7_takesFar_113 (fun H locs hP hD hS => ?_)
  replace hP : va_P D vwCl ((zMo cI cZ h_M q_M (up c_s (3) ((c_s 3) + 1)) c_past c_kept c_isKept c_pasts c_text c_typed c_rect_51 c_item c_items r_52 (up c_treated ((r_1).toNat) 1) c_from c_group c_turn c_size c_old c_aside c_begin c_level c_asides c_sorted c_spot c_rectangles c_parts c_visited)) H := hP
  replace hD : va_D A ((zMo cI cZ h_M q_M (up c_s (3) ((c_s 3) + 1)) c_past c_kept c_isKept c_pasts c_text c_typed c_rect_51 c_item c_items r_52 (up c_treated ((r_1).toNat) 1) c_from c_group c_turn c_size c_old c_aside c_begin c_level c_asides c_sorted c_spot c_rectangles c_parts c_visited)) := hD
  refine lv_aload_n hx hb dX7_takesFar_116 rfl (lv_at hl 0 rfl) ?_
  refine lv_iload_n hx hb dX7_takesFar_117 rfl (lv_at hl 2 rfl) ?_
  obtain ⟨r_55, e_56, h⟩ := bd1_e h
  refine z_goi (ws' := []) (ret := r_55) (wc := (zMo cI cZ (h_M) (q_M) ((up c_s (3) ((c_s 3) + 1))) (c_past) (c_kept) (c_isKept) (c_pasts) (c_text) (c_typed) (c_rect_51) (c_item) (c_items) (r_52) ((up c_treated ((r_1).toNat) 1)) (c_from) (c_group) (c_turn) (c_size) (c_old) (c_aside) (c_begin) (c_level) (c_asides) (c_sorted) (c_spot) (c_rectangles) (c_parts) (c_visited))) (wn := fun u_57 => (zMo cI cZ h_M q_M (up c_s (3) ((c_s 3) + 1)) c_past c_kept c_isKept c_pasts c_text c_typed c_rect_51 c_item c_items r_52 (up c_treated ((r_1).toNat) 1) c_from c_group c_turn c_size c_old c_aside c_begin c_level c_asides c_sorted c_spot c_rectangles c_parts c_visited)) (wr := []) (va_runV (As := [vI x2_48]) (rest := []) hF.1 (c_Mo_endOf l D cI cZ cT h_M q_M (up c_s (3) ((c_s 3) + 1)) c_past c_kept c_isKept c_pasts c_text c_typed c_rect_51 c_item c_items r_52 (up c_treated ((r_1).toNat) 1) c_from c_group c_turn c_size c_old c_aside c_begin c_level c_asides c_sorted c_spot c_rectangles c_parts c_visited x2_48 H.size (r_55) e_56) (cwV 1 hts (zgV wm922 wm924 wm40 wm89 wm925) rfl rfl rfl (by decide +kernel) ⟨Nat.le_of_ble_eq_true rfl, Nat.le_of_ble_eq_true rfl⟩) ⟨zP.blind, va_recv hK (z_subP (ws' := (zMo cI cZ (h_M) (q_M) ((up c_s (3) ((c_s 3) + 1))) (c_past) (c_kept) (c_isKept) (c_pasts) (c_text) (c_typed) (c_rect_51) (c_item) (c_items) (r_52) ((up c_treated ((r_1).toNat) 1)) (c_from) (c_group) (c_turn) (c_size) (c_old) (c_aside) (c_begin) (c_level) (c_asides) (c_sorted) (c_spot) (c_rectangles) (c_parts) (c_visited))) hP [0, 1, 2, 3, 4, 5, 6, 7, 8, 9, 10, 11, 12, 13, 14, 15, 16, 17, 18] rfl) (ci := 7) (q0 := 0) rfl rfl, zP.enter (z_subP (ws' := (zMo cI cZ (h_M) (q_M) ((up c_s (3) ((c_s 3) + 1))) (c_past) (c_kept) (c_isKept) (c_pasts) (c_text) (c_typed) (c_rect_51) (c_item) (c_items) (r_52) ((up c_treated ((r_1).toNat) 1)) (c_from) (c_group) (c_turn) (c_size) (c_old) (c_aside) (c_begin) (c_level) (c_asides) (c_sorted) (c_spot) (c_rectangles) (c_parts) (c_visited))) hP [0, 1, 2, 3, 4, 5, 6, 7, 8, 9, 10, 11, 12, 13, 14, 15, 16, 17, 18] rfl) hK (hD.sub [0, 1, 2, 3, 4, 5, 6, 7, 8, 9, 10, 11, 12, 13, 14, 15, 16, 17, 18] (by decide) rfl) hN⟩ rfl rfl hl.1 rfl (lv_room (Nat.le_of_ble_eq_true rfl)) dX7_takesFar_118 ⟨Nat.le_refl _, Nat.le_refl _⟩) hP hD hS hA [0, 1, 2, 3, 4, 5, 6, 7, 8, 9, 10, 11, 12, 13, 14, 15, 16, 17, 18] [] [0, 1, 2, 3, 4, 5, 6, 7, 8, 9, 10, 11, 12, 13, 14, 15, 16, 17, 18] rfl rfl (by decide) (fun _ => rfl) (fun u_57 H locs hP hD hS hz => ?_)
  refine lv_istore (lv' := [(5, vI r_55), (0, .ref h_M), (1, vI x1), (2, vI x2_48)]) hx hb dX7_takesFar_121 hl (by decide) rfl (fun ls hl => ?_)
  refine lv_aload_n hx hb dX7_takesFar_123 rfl (lv_at hl 1 rfl) ?_
  refine lv_aload_n hx hb dX7_takesFar_124 rfl (lv_at hl 1 rfl) ?_
  refine va_get (D := D) (ci := 7) (v := .ref (q_M 0)) (C := RX7) (T := TX7) (N := 26) hx hb hts zin7 hown hK hP 0 rfl rfl 0 (by decide) (hts _ wm787) (fun _ h9 => h9) rfl dX7_takesFar_125 ?_
  refine lv_bipush (v := Int32.ofInt 101) hx hb dX7_takesFar_128 (by decide +kernel) ?_
  refine lv_iload_n hx hb dX7_takesFar_130 rfl (lv_at hl 3 rfl) ?_
  refine z_iadd hx hb dX7_takesFar_131 ?_
  refine lv_bipush (v := Int32.ofInt 101) hx hb dX7_takesFar_132 (by decide +kernel) ?_
  refine lv_iload hx hb dX7_takesFar_134 (lv_at hl 0 rfl) ?_
  refine z_iadd hx hb dX7_takesFar_136 ?_
  obtain ⟨c_item_58, c_items_59, e_60, h⟩ := bd2_e h
  refine z_gov (wc := (zMo cI cZ (h_M) (q_M) ((up c_s (3) ((c_s 3) + 1))) (c_past) (c_kept) (c_isKept) (c_pasts) (c_text) (c_typed) (c_rect_51) (c_item) (c_items) (r_52) ((up c_treated ((r_1).toNat) 1)) (c_from) (c_group) (c_turn) (c_size) (c_old) (c_aside) (c_begin) (c_level) (c_asides) (c_sorted) (c_spot) (c_rectangles) (c_parts) (c_visited))) (wn := fun u_61 => (zMo cI cZ h_M q_M (up c_s (3) ((c_s 3) + 1)) c_past c_kept c_isKept c_pasts c_text c_typed c_rect_51 c_item_58 c_items_59 r_52 (up c_treated ((r_1).toNat) 1) c_from c_group c_turn c_size c_old c_aside c_begin c_level c_asides c_sorted c_spot c_rectangles c_parts c_visited)) (wr := []) (va_runV (As := [.ref (q_M 0), vI (101 + x2_48), vI (101 + r_55)]) (rest := []) hF.1 (c_Mo_takes_s l D cI cZ cT h_M q_M (up c_s (3) ((c_s 3) + 1)) c_past c_kept c_isKept c_pasts c_text c_typed c_rect_51 c_item c_items r_52 (up c_treated ((r_1).toNat) 1) c_from c_group c_turn c_size c_old c_aside c_begin c_level c_asides c_sorted c_spot c_rectangles c_parts c_visited (101 + x2_48) (101 + r_55) H.size (c_item_58, c_items_59) e_60) (cwV 3 hts (zgV wm966 wm968 wm51 wm89 wm969) rfl rfl rfl (by decide +kernel) ⟨Nat.le_of_ble_eq_true rfl, Nat.le_of_ble_eq_true rfl⟩) ⟨zP.blind, va_recv hK (z_subP (ws' := (zMo cI cZ (h_M) (q_M) ((up c_s (3) ((c_s 3) + 1))) (c_past) (c_kept) (c_isKept) (c_pasts) (c_text) (c_typed) (c_rect_51) (c_item) (c_items) (r_52) ((up c_treated ((r_1).toNat) 1)) (c_from) (c_group) (c_turn) (c_size) (c_old) (c_aside) (c_begin) (c_level) (c_asides) (c_sorted) (c_spot) (c_rectangles) (c_parts) (c_visited))) hP [0, 1, 2, 3, 4, 5, 6, 7, 8, 9, 10, 11, 12, 13, 14, 15, 16, 17, 18] rfl) (ci := 7) (q0 := 0) rfl rfl, zP.enter (z_subP (ws' := (zMo cI cZ (h_M) (q_M) ((up c_s (3) ((c_s 3) + 1))) (c_past) (c_kept) (c_isKept) (c_pasts) (c_text) (c_typed) (c_rect_51) (c_item) (c_items) (r_52) ((up c_treated ((r_1).toNat) 1)) (c_from) (c_group) (c_turn) (c_size) (c_old) (c_aside) (c_begin) (c_level) (c_asides) (c_sorted) (c_spot) (c_rectangles) (c_parts) (c_visited))) hP [0, 1, 2, 3, 4, 5, 6, 7, 8, 9, 10, 11, 12, 13, 14, 15, 16, 17, 18] rfl) hK (hD.sub [0, 1, 2, 3, 4, 5, 6, 7, 8, 9, 10, 11, 12, 13, 14, 15, 16, 17, 18] (by decide) rfl) hN⟩ rfl rfl hl.1 rfl (lv_room (Nat.le_of_ble_eq_true rfl)) dX7_takesFar_137 ⟨Nat.le_refl _, Nat.le_refl _⟩) hP hD hS hA [0, 1, 2, 3, 4, 5, 6, 7, 8, 9, 10, 11, 12, 13, 14, 15, 16, 17, 18] [] [0, 1, 2, 3, 4, 5, 6, 7, 8, 9, 10, 11, 12, 13, 14, 15, 16, 17, 18] rfl rfl (by decide) (fun _ => rfl) (fun u_61 H locs hP hD hS hz => ?_)
  refine lv_aload_n hx hb dX7_takesFar_140 rfl (lv_at hl 1 rfl) ?_
  refine lv_iload_n hx hb dX7_takesFar_141 rfl (lv_at hl 3 rfl) ?_
  refine lv_iload hx hb dX7_takesFar_142 (lv_at hl 0 rfl) ?_
  obtain ⟨c_s_62, e_63, h⟩ := bd1_e h
  refine z_gov (wc := (zMo cI cZ (h_M) (q_M) ((up c_s (3) ((c_s 3) + 1))) (c_past) (c_kept) (c_isKept) (c_pasts) (c_text) (c_typed) (c_rect_51) (c_item_58) (c_items_59) (r_52) ((up c_treated ((r_1).toNat) 1)) (c_from) (c_group) (c_turn) (c_size) (c_old) (c_aside) (c_begin) (c_level) (c_asides) (c_sorted) (c_spot) (c_rectangles) (c_parts) (c_visited))) (wn := fun u_64 => (zMo cI cZ h_M q_M c_s_62 c_past c_kept c_isKept c_pasts c_text c_typed c_rect_51 c_item_58 c_items_59 r_52 (up c_treated ((r_1).toNat) 1) c_from c_group c_turn c_size c_old c_aside c_begin c_level c_asides c_sorted c_spot c_rectangles c_parts c_visited)) (wr := []) (va_runV (As := [vI x2_48, vI r_55]) (rest := []) hF.1 (c_Mo_cuts l D cI cZ cT h_M q_M (up c_s (3) ((c_s 3) + 1)) c_past c_kept c_isKept c_pasts c_text c_typed c_rect_51 c_item_58 c_items_59 r_52 (up c_treated ((r_1).toNat) 1) c_from c_group c_turn c_size c_old c_aside c_begin c_level c_asides c_sorted c_spot c_rectangles c_parts c_visited x2_48 r_55 H.size (c_s_62) e_63) (cwV 2 hts (zgV wm970 wm972 wm52 wm89 wm973) rfl rfl rfl (by decide +kernel) ⟨Nat.le_of_ble_eq_true rfl, Nat.le_of_ble_eq_true rfl⟩) ⟨zP.blind, va_recv hK (z_subP (ws' := (zMo cI cZ (h_M) (q_M) ((up c_s (3) ((c_s 3) + 1))) (c_past) (c_kept) (c_isKept) (c_pasts) (c_text) (c_typed) (c_rect_51) (c_item_58) (c_items_59) (r_52) ((up c_treated ((r_1).toNat) 1)) (c_from) (c_group) (c_turn) (c_size) (c_old) (c_aside) (c_begin) (c_level) (c_asides) (c_sorted) (c_spot) (c_rectangles) (c_parts) (c_visited))) hP [0, 1, 2, 3, 4, 5, 6, 7, 8, 9, 10, 11, 12, 13, 14, 15, 16, 17, 18] rfl) (ci := 7) (q0 := 0) rfl rfl, zP.enter (z_subP (ws' := (zMo cI cZ (h_M) (q_M) ((up c_s (3) ((c_s 3) + 1))) (c_past) (c_kept) (c_isKept) (c_pasts) (c_text) (c_typed) (c_rect_51) (c_item_58) (c_items_59) (r_52) ((up c_treated ((r_1).toNat) 1)) (c_from) (c_group) (c_turn) (c_size) (c_old) (c_aside) (c_begin) (c_level) (c_asides) (c_sorted) (c_spot) (c_rectangles) (c_parts) (c_visited))) hP [0, 1, 2, 3, 4, 5, 6, 7, 8, 9, 10, 11, 12, 13, 14, 15, 16, 17, 18] rfl) hK (hD.sub [0, 1, 2, 3, 4, 5, 6, 7, 8, 9, 10, 11, 12, 13, 14, 15, 16, 17, 18] (by decide) rfl) hN⟩ rfl rfl hl.1 rfl (lv_room (Nat.le_of_ble_eq_true rfl)) dX7_takesFar_144 ⟨Nat.le_refl _, Nat.le_refl _⟩) hP hD hS hA [0, 1, 2, 3, 4, 5, 6, 7, 8, 9, 10, 11, 12, 13, 14, 15, 16, 17, 18] [] [0, 1, 2, 3, 4, 5, 6, 7, 8, 9, 10, 11, 12, 13, 14, 15, 16, 17, 18] rfl rfl (by decide) (fun _ => rfl) (fun u_64 H locs hP hD hS hz => ?_)
  obtain rfl := Option.some.inj h
  exact z_vret hx hb hr hlk (fun _ _ => 0) hP hD hS dX7_takesFar_147
def f_Mo_joins (c_rect : Nat → Int) (c_group : Nat → Int) (c_turn : Nat → Int) (c_size : Nat → Int) (x1 : Int) (x2 : Int) : Option ((Nat → Int) × (Nat → Int) × (Nat → Int) × (Nat → Int)) :=
  gd (0 ≤ x1 ∧ x1 < ((8 : Nat) : Int)) <| gd (0 ≤ x2 ∧ x2 < ((2 : Nat) : Int)) <| gd (ck (c_size (x2).toNat)) <| if (c_size (x2).toNat) = 0 then (bd1 (f_Mo_unites c_rect x1 x1 (8 + x2)) <| fun c_rect_8 => some (c_rect_8, (up c_group ((x1).toNat) x2), (up c_turn ((x1).toNat) (c_size (x2).toNat)), (up c_size ((x2).toNat) ((c_size (x2).toNat) + 1)))) else (bd1 (f_Mo_unites c_rect (8 + x2) x1 (8 + x2)) <| fun c_rect_5 => some (c_rect_5, (up c_group ((x1).toNat) x2), (up c_turn ((x1).toNat) (c_size (x2).toNat)), (up c_size ((x2).toNat) ((c_size (x2).toNat) + 1))))
abbrev rm_Mo_joins : Room := ({ frames := 2, cells := 0, slots := 0, locals := 51 } : Room)
set_option maxHeartbeats 4000000 in
set_option maxRecDepth 100000 in
theorem c_Mo_joins (l : Launch) (D : va_G) (cI cZ cT : ClassId) (h_M : Nat) (q_M : Nat → Nat) (c_s : Nat → Int) (c_past : Nat → Int) (c_kept : Nat → Int) (c_isKept : Int) (c_pasts : Int) (c_text : Nat → Int) (c_typed : Int) (c_rect : Nat → Int) (c_item : Nat → Int) (c_items : Int) (c_itemLevel : Int) (c_treated : Nat → Int) (c_from : Nat → Int) (c_group : Nat → Int) (c_turn : Nat → Int) (c_size : Nat → Int) (c_old : Nat → Int) (c_aside : Nat → Int) (c_begin : Nat → Int) (c_level : Nat → Int) (c_asides : Int) (c_sorted : Nat → Int) (c_spot : Int) (c_rectangles : Int) (c_parts : Nat → Int) (c_visited : Nat → Int) (x1 : Int) (x2 : Int) (sz : Nat) (res : (Nat → Int) × (Nat → Int) × (Nat → Int) × (Nat → Int)) (h : f_Mo_joins c_rect c_group c_turn c_size x1 x2 = some res) : zMv l yX7_joins cX7_joins 3 rm_Mo_joins D (zt cI cZ cT) [.ref h_M, vI x1, vI x2] ((zMo cI cZ h_M q_M c_s c_past c_kept c_isKept c_pasts c_text c_typed c_rect c_item c_items c_itemLevel c_treated c_from c_group c_turn c_size c_old c_aside c_begin c_level c_asides c_sorted c_spot c_rectangles c_parts c_visited)) sz (fun u => (zMo cI cZ h_M q_M c_s c_past c_kept c_isKept c_pasts c_text c_typed (res.1) c_item c_items c_itemLevel c_treated c_from (res.2.1) (res.2.2.1) (res.2.2.2) c_old c_aside c_begin c_level c_asides c_sorted c_spot c_rectangles c_parts c_visited)) 0 0 := by
  refine z_enth (Qc := zQv D (fun u => (zMo cI cZ h_M q_M c_s c_past c_kept c_isKept c_pasts c_text c_typed (res.1) c_item c_items c_itemLevel c_treated c_from (res.2.1) (res.2.2.1) (res.2.2.2) c_old c_aside c_begin c_level c_asides c_sorted c_spot c_rectangles c_parts c_visited))) (by decide) (Nat.le_of_ble_eq_true rfl) (fun p e s m args below meth c A ls H locs hF hP hD hS hl => ?_)
  have hx := hF.1.1
  have hb := hF.1.2.1
  have hml := hF.1.2.2.1
  have hown : s.vm.findClass "RectangleTreeModel" = some m.cls := hF.1.2.2.2.1
  have hts := hF.1.2.2.2.2
  have hr := hF.2.1
  have hlk := hF.2.2.1
  have hK := hF.2.2.2.2.1
  have hN := hF.2.2.2.2.2.1
  have hA := hF.2.2.2.2.2.2
  unfold f_Mo_joins at h
  refine lv_aload_n hx hb dX7_joins_0 rfl (lv_at hl 0 rfl) ?_
  refine va_get (D := D) (ci := 7) (v := .ref (q_M 8)) (C := RX7) (T := TX7) (N := 26) hx hb hts zin7 hown hK hP 0 rfl rfl 13 (by decide) (hts _ wm800) (fun _ h9 => h9) rfl dX7_joins_1 ?_
  refine lv_iload_n hx hb dX7_joins_4 rfl (lv_at hl 1 rfl) ?_
  refine lv_iload_n hx hb dX7_joins_5 rfl (lv_at hl 2 rfl) ?_
  obtain ⟨g_1, h⟩ := gd_e h
  refine z_iast (n := 8) (f := c_group) (i := x1) (x := x2) (ws' := (zMo cI cZ h_M q_M c_s c_past c_kept c_isKept c_pasts c_text c_typed c_rect c_item c_items c_itemLevel c_treated c_from (up c_group ((x1).toNat) x2) c_turn c_size c_old c_aside c_begin c_level c_asides c_sorted c_spot c_rectangles c_parts c_visited)) hx hb hK hP hD hS 9 rfl rfl g_1 (by have := g_1.2; omega) dX7_joins_6 rfl (fun H locs hP hD hS => ?_)
  refine lv_aload_n hx hb dX7_joins_7 rfl (lv_at hl 0 rfl) ?_
  refine va_get (D := D) (ci := 7) (v := .ref (q_M 9)) (C := RX7) (T := TX7) (N := 26) hx hb hts zin7 hown hK hP 0 rfl rfl 14 (by decide) (hts _ wm801) (fun _ h9 => h9) rfl dX7_joins_8 ?_
  refine lv_iload_n hx hb dX7_joins_11 rfl (lv_at hl 1 rfl) ?_
  refine lv_aload_n hx hb dX7_joins_12 rfl (lv_at hl 0 rfl) ?_
  refine va_get (D := D) (ci := 7) (v := .ref (q_M 10)) (C := RX7) (T := TX7) (N := 26) hx hb hts zin7 hown hK hP 0 rfl rfl 15 (by decide) (hts _ wm802) (fun _ h9 => h9) rfl dX7_joins_13 ?_
  refine lv_iload_n hx hb dX7_joins_16 rfl (lv_at hl 2 rfl) ?_
  obtain ⟨g_2, h⟩ := gd_e h
  refine z_iald (n := 2) (f := c_size) (i := x2) hx hb hK hP 11 rfl rfl g_2 (by have := g_2.2; omega) dX7_joins_17 ?_
  refine z_iast (n := 8) (f := c_turn) (i := x1) (x := (c_size (x2).toNat)) (ws' := (zMo cI cZ h_M q_M c_s c_past c_kept c_isKept c_pasts c_text c_typed c_rect c_item c_items c_itemLevel c_treated c_from (up c_group ((x1).toNat) x2) (up c_turn ((x1).toNat) (c_size (x2).toNat)) c_size c_old c_aside c_begin c_level c_asides c_sorted c_spot c_rectangles c_parts c_visited)) hx hb hK hP hD hS 10 rfl rfl g_1 (by have := g_1.2; omega) dX7_joins_18 rfl (fun H locs hP hD hS => ?_)
  refine lv_aload_n hx hb dX7_joins_19 rfl (lv_at hl 0 rfl) ?_
  refine va_get (D := D) (ci := 7) (v := .ref (q_M 10)) (C := RX7) (T := TX7) (N := 26) hx hb hts zin7 hown hK hP 0 rfl rfl 15 (by decide) (hts _ wm802) (fun _ h9 => h9) rfl dX7_joins_20 ?_
  refine lv_iload_n hx hb dX7_joins_23 rfl (lv_at hl 2 rfl) ?_
  refine z_iald (n := 2) (f := c_size) (i := x2) hx hb hK hP 11 rfl rfl g_2 (by have := g_2.2; omega) dX7_joins_24 ?_
  obtain ⟨g_3, h⟩ := gd_e h
  refine z_if_ne (tgt := 41) hx hb g_3 dX7_joins_25 (by decide) (fun b_4 => ?_) (fun b_4 => ?_)
  · have h := it_n b_4 h
    refine lv_aload_n hx hb dX7_joins_41 rfl (lv_at hl 0 rfl) ?_
    refine lv_bipush (v := Int32.ofInt 8) hx hb dX7_joins_42 (by decide +kernel) ?_
    refine lv_iload_n hx hb dX7_joins_44 rfl (lv_at hl 2 rfl) ?_
    refine z_iadd hx hb dX7_joins_45 ?_
    refine lv_iload_n hx hb dX7_joins_46 rfl (lv_at hl 1 rfl) ?_
    refine lv_bipush (v := Int32.ofInt 8) hx hb dX7_joins_47 (by decide +kernel) ?_
    refine lv_iload_n hx hb dX7_joins_49 rfl (lv_at hl 2 rfl) ?_
    refine z_iadd hx hb dX7_joins_50 ?_
    obtain ⟨c_rect_5, e_6, h⟩ := bd1_e h
    refine z_gov (wc := (zMo cI cZ (h_M) (q_M) (c_s) (c_past) (c_kept) (c_isKept) (c_pasts) (c_text) (c_typed) (c_rect) (c_item) (c_items) (c_itemLevel) (c_treated) (c_from) ((up c_group ((x1).toNat) x2)) ((up c_turn ((x1).toNat) (c_size (x2).toNat))) (c_size) (c_old) (c_aside) (c_begin) (c_level) (c_asides) (c_sorted) (c_spot) (c_rectangles) (c_parts) (c_visited))) (wn := fun u_7 => (zMo cI cZ h_M q_M c_s c_past c_kept c_isKept c_pasts c_text c_typed c_rect_5 c_item c_items c_itemLevel c_treated c_from (up c_group ((x1).toNat) x2) (up c_turn ((x1).toNat) (c_size (x2).toNat)) c_size c_old c_aside c_begin c_level c_asides c_sorted c_spot c_rectangles c_parts c_visited)) (wr := []) (va_runV (As := [vI (8 + x2), vI x1, vI (8 + x2)]) (rest := []) hF.1 (c_Mo_unites l D cI cZ cT h_M q_M c_s c_past c_kept c_isKept c_pasts c_text c_typed c_rect c_item c_items c_itemLevel c_treated c_from (up c_group ((x1).toNat) x2) (up c_turn ((x1).toNat) (c_size (x2).toNat)) c_size c_old c_aside c_begin c_level c_asides c_sorted c_spot c_rectangles c_parts c_visited (8 + x2) x1 (8 + x2) H.size (c_rect_5) e_6) (cwV 3 hts (zgV wm938 wm940 wm44 wm89 wm941) rfl rfl rfl (by decide +kernel) ⟨Nat.le_of_ble_eq_true rfl, Nat.le_of_ble_eq_true rfl⟩) ⟨zP.blind, va_recv hK (z_subP (ws' := (zMo cI cZ (h_M) (q_M) (c_s) (c_past) (c_kept) (c_isKept) (c_pasts) (c_text) (c_typed) (c_rect) (c_item) (c_items) (c_itemLevel) (c_treated) (c_from) ((up c_group ((x1).toNat) x2)) ((up c_turn ((x1).toNat) (c_size (x2).toNat))) (c_size) (c_old) (c_aside) (c_begin) (c_level) (c_asides) (c_sorted) (c_spot) (c_rectangles) (c_parts) (c_visited))) hP [0, 1, 2, 3, 4, 5, 6, 7, 8, 9, 10, 11, 12, 13, 14, 15, 16, 17, 18] rfl) (ci := 7) (q0 := 0) rfl rfl, zP.enter (z_subP (ws' := (zMo cI cZ (h_M) (q_M) (c_s) (c_past) (c_kept) (c_isKept) (c_pasts) (c_text) (c_typed) (c_rect) (c_item) (c_items) (c_itemLevel) (c_treated) (c_from) ((up c_group ((x1).toNat) x2)) ((up c_turn ((x1).toNat) (c_size (x2).toNat))) (c_size) (c_old) (c_aside) (c_begin) (c_level) (c_asides) (c_sorted) (c_spot) (c_rectangles) (c_parts) (c_visited))) hP [0, 1, 2, 3, 4, 5, 6, 7, 8, 9, 10, 11, 12, 13, 14, 15, 16, 17, 18] rfl) hK (hD.sub [0, 1, 2, 3, 4, 5, 6, 7, 8, 9, 10, 11, 12, 13, 14, 15, 16, 17, 18] (by decide) rfl) hN⟩ rfl rfl hl.1 rfl (lv_room (Nat.le_of_ble_eq_true rfl)) dX7_joins_51 ⟨Nat.le_refl _, Nat.le_refl _⟩) hP hD hS hA [0, 1, 2, 3, 4, 5, 6, 7, 8, 9, 10, 11, 12, 13, 14, 15, 16, 17, 18] [] [0, 1, 2, 3, 4, 5, 6, 7, 8, 9, 10, 11, 12, 13, 14, 15, 16, 17, 18] rfl rfl (by decide) (fun _ => rfl) (fun u_7 H locs hP hD hS hz => ?_)
    refine lv_aload_n hx hb dX7_joins_54 rfl (lv_at hl 0 rfl) ?_
    refine va_get (D := D) (ci := 7) (v := .ref (q_M 10)) (C := RX7) (T := TX7) (N := 26) hx hb hts zin7 hown hK hP 0 rfl rfl 15 (by decide) (hts _ wm802) (fun _ h9 => h9) rfl dX7_joins_55 ?_
    refine lv_iload_n hx hb dX7_joins_58 rfl (lv_at hl 2 rfl) ?_
    refine lv_dup2_11 hx hb dX7_joins_59 rfl rfl ?_
    refine z_iald (n := 2) (f := c_size) (i := x2) hx hb hK hP 11 rfl rfl g_2 (by have := g_2.2; omega) dX7_joins_60 ?_
    refine lv_iconst (v := Int32.ofInt 1) hx hb dX7_joins_61 rfl ?_
    refine z_iadd hx hb dX7_joins_62 ?_
    refine z_iast (n := 2) (f := c_size) (i := x2) (x := ((c_size (x2).toNat) + 1)) (ws' := (zMo cI cZ h_M q_M c_s c_past c_kept c_isKept c_pasts c_text c_typed c_rect_5 c_item c_items c_itemLevel c_treated c_from (up c_group ((x1).toNat) x2) (up c_turn ((x1).toNat) (c_size (x2).toNat)) (up c_size ((x2).toNat) ((c_size (x2).toNat) + 1)) c_old c_aside c_begin c_level c_asides c_sorted c_spot c_rectangles c_parts c_visited)) hx hb hK hP hD hS 11 rfl rfl g_2 (by have := g_2.2; omega) dX7_joins_63 rfl (fun H locs hP hD hS => ?_)
    obtain rfl := Option.some.inj h
    exact z_vret hx hb hr hlk (fun _ _ => 0) hP hD hS dX7_joins_64
  · have h := it_p b_4 h
    refine lv_aload_n hx hb dX7_joins_28 rfl (lv_at hl 0 rfl) ?_
    refine lv_iload_n hx hb dX7_joins_29 rfl (lv_at hl 1 rfl) ?_
    refine lv_iload_n hx hb dX7_joins_30 rfl (lv_at hl 1 rfl) ?_
    refine lv_bipush (v := Int32.ofInt 8) hx hb dX7_joins_31 (by decide +kernel) ?_
    refine lv_iload_n hx hb dX7_joins_33 rfl (lv_at hl 2 rfl) ?_
    refine z_iadd hx hb dX7_joins_34 ?_
    obtain ⟨c_rect_8, e_9, h⟩ := bd1_e h
    refine z_gov (wc := (zMo cI cZ (h_M) (q_M) (c_s) (c_past) (c_kept) (c_isKept) (c_pasts) (c_text) (c_typed) (c_rect) (c_item) (c_items) (c_itemLevel) (c_treated) (c_from) ((up c_group ((x1).toNat) x2)) ((up c_turn ((x1).toNat) (c_size (x2).toNat))) (c_size) (c_old) (c_aside) (c_begin) (c_level) (c_asides) (c_sorted) (c_spot) (c_rectangles) (c_parts) (c_visited))) (wn := fun u_10 => (zMo cI cZ h_M q_M c_s c_past c_kept c_isKept c_pasts c_text c_typed c_rect_8 c_item c_items c_itemLevel c_treated c_from (up c_group ((x1).toNat) x2) (up c_turn ((x1).toNat) (c_size (x2).toNat)) c_size c_old c_aside c_begin c_level c_asides c_sorted c_spot c_rectangles c_parts c_visited)) (wr := []) (va_runV (As := [vI x1, vI x1, vI (8 + x2)]) (rest := []) hF.1 (c_Mo_unites l D cI cZ cT h_M q_M c_s c_past c_kept c_isKept c_pasts c_text c_typed c_rect c_item c_items c_itemLevel c_treated c_from (up c_group ((x1).toNat) x2) (up c_turn ((x1).toNat) (c_size (x2).toNat)) c_size c_old c_aside c_begin c_level c_asides c_sorted c_spot c_rectangles c_parts c_visited x1 x1 (8 + x2) H.size (c_rect_8) e_9) (cwV 3 hts (zgV wm938 wm940 wm44 wm89 wm941) rfl rfl rfl (by decide +kernel) ⟨Nat.le_of_ble_eq_true rfl, Nat.le_of_ble_eq_true rfl⟩) ⟨zP.blind, va_recv hK (z_subP (ws' := (zMo cI cZ (h_M) (q_M) (c_s) (c_past) (c_kept) (c_isKept) (c_pasts) (c_text) (c_typed) (c_rect) (c_item) (c_items) (c_itemLevel) (c_treated) (c_from) ((up c_group ((x1).toNat) x2)) ((up c_turn ((x1).toNat) (c_size (x2).toNat))) (c_size) (c_old) (c_aside) (c_begin) (c_level) (c_asides) (c_sorted) (c_spot) (c_rectangles) (c_parts) (c_visited))) hP [0, 1, 2, 3, 4, 5, 6, 7, 8, 9, 10, 11, 12, 13, 14, 15, 16, 17, 18] rfl) (ci := 7) (q0 := 0) rfl rfl, zP.enter (z_subP (ws' := (zMo cI cZ (h_M) (q_M) (c_s) (c_past) (c_kept) (c_isKept) (c_pasts) (c_text) (c_typed) (c_rect) (c_item) (c_items) (c_itemLevel) (c_treated) (c_from) ((up c_group ((x1).toNat) x2)) ((up c_turn ((x1).toNat) (c_size (x2).toNat))) (c_size) (c_old) (c_aside) (c_begin) (c_level) (c_asides) (c_sorted) (c_spot) (c_rectangles) (c_parts) (c_visited))) hP [0, 1, 2, 3, 4, 5, 6, 7, 8, 9, 10, 11, 12, 13, 14, 15, 16, 17, 18] rfl) hK (hD.sub [0, 1, 2, 3, 4, 5, 6, 7, 8, 9, 10, 11, 12, 13, 14, 15, 16, 17, 18] (by decide) rfl) hN⟩ rfl rfl hl.1 rfl (lv_room (Nat.le_of_ble_eq_true rfl)) dX7_joins_35 ⟨Nat.le_refl _, Nat.le_refl _⟩) hP hD hS hA [0, 1, 2, 3, 4, 5, 6, 7, 8, 9, 10, 11, 12, 13, 14, 15, 16, 17, 18] [] [0, 1, 2, 3, 4, 5, 6, 7, 8, 9, 10, 11, 12, 13, 14, 15, 16, 17, 18] rfl rfl (by decide) (fun _ => rfl) (fun u_10 H locs hP hD hS hz => ?_)
    refine lv_goto (tgt := 54) hx hb dX7_joins_38 (by decide) ?_
    refine lv_aload_n hx hb dX7_joins_54 rfl (lv_at hl 0 rfl) ?_
    refine va_get (D := D) (ci := 7) (v := .ref (q_M 10)) (C := RX7) (T := TX7) (N := 26) hx hb hts zin7 hown hK hP 0 rfl rfl 15 (by decide) (hts _ wm802) (fun _ h9 => h9) rfl dX7_joins_55 ?_
    refine lv_iload_n hx hb dX7_joins_58 rfl (lv_at hl 2 rfl) ?_
    refine lv_dup2_11 hx hb dX7_joins_59 rfl rfl ?_
    refine z_iald (n := 2) (f := c_size) (i := x2) hx hb hK hP 11 rfl rfl g_2 (by have := g_2.2; omega) dX7_joins_60 ?_
    refine lv_iconst (v := Int32.ofInt 1) hx hb dX7_joins_61 rfl ?_
    refine z_iadd hx hb dX7_joins_62 ?_
    refine z_iast (n := 2) (f := c_size) (i := x2) (x := ((c_size (x2).toNat) + 1)) (ws' := (zMo cI cZ h_M q_M c_s c_past c_kept c_isKept c_pasts c_text c_typed c_rect_8 c_item c_items c_itemLevel c_treated c_from (up c_group ((x1).toNat) x2) (up c_turn ((x1).toNat) (c_size (x2).toNat)) (up c_size ((x2).toNat) ((c_size (x2).toNat) + 1)) c_old c_aside c_begin c_level c_asides c_sorted c_spot c_rectangles c_parts c_visited)) hx hb hK hP hD hS 11 rfl rfl g_2 (by have := g_2.2; omega) dX7_joins_63 rfl (fun H locs hP hD hS => ?_)
    obtain rfl := Option.some.inj h
    exact z_vret hx hb hr hlk (fun _ _ => 0) hP hD hS dX7_joins_64
def f_Mo_farthest_L25 (x1 : Int) (x6 : Int) (k : Int → Int → Int → Int → Int → (Nat → Int) → Option ((Nat → Int) × (Nat → Int) × (Nat → Int) × (Nat → Int))) : Nat → Int → Int → Int → Int → Int → (Nat → Int) → Option ((Nat → Int) × (Nat → Int) × (Nat → Int) × (Nat → Int))
  | 0, _, _, _, _, _, _ => none
  | n + 1, x2, x3, x4, x5, x7, c_rect =>
  gd (ck x7) <| gd (ck x1) <| if x7 < x1 then (bd1 (f_Mo_unites c_rect x6 x7 11) <| fun c_rect_7 => bd1 (f_Mo_areaOf c_rect_7 11) <| fun r_10 => bd1 (f_Mo_areaOf c_rect_7 x6) <| fun r_13 => bd1 (f_Mo_areaOf c_rect_7 x7) <| fun r_16 => gd (ck x4) <| if x4 = 0 then (gd (ck ((r_10 - r_13) - r_16)) <| gd (ck x5) <| if x5 < ((r_10 - r_13) - r_16) then (f_Mo_farthest_L25 x1 x6 k n (x6) (x7) (0) (((r_10 - r_13) - r_16)) ((x7 + 1)) (c_rect_7)) else (f_Mo_farthest_L25 x1 x6 k n (x2) (x3) (x4) (x5) ((x7 + 1)) (c_rect_7))) else (f_Mo_farthest_L25 x1 x6 k n (x6) (x7) (0) (((r_10 - r_13) - r_16)) ((x7 + 1)) (c_rect_7))) else (k (x2) (x3) (x4) (x5) (x7) (c_rect))
def f_Mo_farthest_L13 (x1 : Int) (k : Int → Int → Int → Int → Int → (Nat → Int) → Option ((Nat → Int) × (Nat → Int) × (Nat → Int) × (Nat → Int))) : Nat → Int → Int → Int → Int → Int → (Nat → Int) → Option ((Nat → Int) × (Nat → Int) × (Nat → Int) × (Nat → Int))
  | 0, _, _, _, _, _, _ => none
  | n + 1, x2, x3, x4, x5, x6, c_rect =>
  gd (ck x6) <| gd (ck x1) <| if x6 < x1 then (f_Mo_farthest_L25 (x1) (x6) (fun x2_24 x3_25 x4_26 x5_27 x7_28 c_rect_29 => f_Mo_farthest_L13 x1 k n (x2_24) (x3_25) (x4_26) (x5_27) ((x6 + 1)) (c_rect_29)) FU (x2) (x3) (x4) (x5) ((x6 + 1)) (c_rect)) else (k (x2) (x3) (x4) (x5) (x6) (c_rect))
def f_Mo_farthest (c_rect : Nat → Int) (c_group : Nat → Int) (c_turn : Nat → Int) (c_size : Nat → Int) (x1 : Int) : Option ((Nat → Int) × (Nat → Int) × (Nat → Int) × (Nat → Int)) :=
  f_Mo_farthest_L13 (x1) (fun x2_30 x3_31 x4_32 x5_33 x6_34 c_rect_35 => bd4 (f_Mo_joins c_rect_35 c_group c_turn (up (up c_size (0) 0) (1) 0) x2_30 0) <| fun c_rect_36 c_group_37 c_turn_38 c_size_39 => bd4 (f_Mo_joins c_rect_36 c_group_37 c_turn_38 c_size_39 x3_31 1) <| fun c_rect_42 c_group_43 c_turn_44 c_size_45 => some (c_rect_42, c_group_43, c_turn_44, c_size_45)) FU (0) (1) (1) (0) (0) (c_rect)
abbrev rm_Mo_farthest : Room := ({ frames := 3, cells := 0, slots := 0, locals := 73 } : Room)
set_option maxHeartbeats 4000000 in
set_option maxRecDepth 100000 in
theorem w_Mo_farthest_L25 {p : Program} {l : Launch} {e : Env} {s : State} {m : MethodId} {args : Array Value} {below : List Frame} {meth : Method} {c : Code} {A : Nat → Prop} (D : va_G) (cI cZ cT : ClassId) (h_M : Nat) (q_M : Nat → Nat) (c_s : Nat → Int) (c_past : Nat → Int) (c_kept : Nat → Int) (c_isKept : Int) (c_pasts : Int) (c_text : Nat → Int) (c_typed : Int) (c_item : Nat → Int) (c_items : Int) (c_itemLevel : Int) (c_treated : Nat → Int) (c_from : Nat → Int) (c_group : Nat → Int) (c_turn : Nat → Int) (c_size : Nat → Int) (c_old : Nat → Int) (c_aside : Nat → Int) (c_begin : Nat → Int) (c_level : Nat → Int) (c_asides : Int) (c_sorted : Nat → Int) (c_spot : Int) (c_rectangles : Int) (c_parts : Nat → Int) (c_visited : Nat → Int) (x1 : Int) (x6 : Int) (res : (Nat → Int) × (Nat → Int) × (Nat → Int) × (Nat → Int)) (k : Int → Int → Int → Int → Int → (Nat → Int) → Option ((Nat → Int) × (Nat → Int) × (Nat → Int) × (Nat → Int))) (hF : zF p m c cX7_farthest 9 s args yX7_farthest.cls meth none yX7_farthest.name A D (zt cI cZ cT))
    (hk : ∀ (x2 : Int) (x3 : Int) (x4 : Int) (x5 : Int) (x7 : Int) (c_rect : Nat → Int) (H : Heap) (locs : List Loc) (ls : Array Slot), k x2 x3 x4 x5 x7 c_rect = some res → va_P D vwCl ((zMo cI cZ h_M q_M c_s c_past c_kept c_isKept c_pasts c_text c_typed c_rect c_item c_items c_itemLevel c_treated c_from c_group c_turn c_size c_old c_aside c_begin c_level c_asides c_sorted c_spot c_rectangles c_parts c_visited)) H → va_D A ((zMo cI cZ h_M q_M c_s c_past c_kept c_isKept c_pasts c_text c_typed c_rect c_item c_items c_itemLevel c_treated c_from c_group c_turn c_size c_old c_aside c_begin c_level c_asides c_sorted c_spot c_rectangles c_parts c_visited)) → va_S A s.heap H locs → lv_has ls 9 [(0, .ref h_M), (1, vI x1), (2, vI x2), (3, vI x3), (4, vI x4), (5, vI x5), (6, vI x6)] → W p l e rm_Mo_farthest s m args below meth c H locs 0 0 (MQ below (zQv D (fun u => (zMo cI cZ h_M q_M c_s c_past c_kept c_isKept c_pasts c_text c_typed (res.1) c_item c_items c_itemLevel c_treated c_from (res.2.1) (res.2.2.1) (res.2.2.2) c_old c_aside c_begin c_level c_asides c_sorted c_spot c_rectangles c_parts c_visited)) A) args s 0 0 A) (F0 m 94 ls [])) :
    ∀ (n : Nat) (x2 : Int) (x3 : Int) (x4 : Int) (x5 : Int) (x7 : Int) (c_rect : Nat → Int) (H : Heap) (locs : List Loc) (ls : Array Slot), f_Mo_farthest_L25 x1 x6 k n x2 x3 x4 x5 x7 c_rect = some res → va_P D vwCl ((zMo cI cZ h_M q_M c_s c_past c_kept c_isKept c_pasts c_text c_typed c_rect c_item c_items c_itemLevel c_treated c_from c_group c_turn c_size c_old c_aside c_begin c_level c_asides c_sorted c_spot c_rectangles c_parts c_visited)) H → va_D A ((zMo cI cZ h_M q_M c_s c_past c_kept c_isKept c_pasts c_text c_typed c_rect c_item c_items c_itemLevel c_treated c_from c_group c_turn c_size c_old c_aside c_begin c_level c_asides c_sorted c_spot c_rectangles c_parts c_visited)) → va_S A s.heap H locs → lv_has ls 9 [(0, .ref h_M), (1, vI x1), (2, vI x2), (3, vI x3), (4, vI x4), (5, vI x5), (6, vI x6), (7, vI x7)] → W p l e rm_Mo_farthest s m args below meth c H locs 0 0 (MQ below (zQv D (fun u => (zMo cI cZ h_M q_M c_s c_past c_kept c_isKept c_pasts c_text c_typed (res.1) c_item c_items c_itemLevel c_treated c_from (res.2.1) (res.2.2.1) (res.2.2.2) c_old c_aside c_begin c_level c_asides c_sorted c_spot c_rectangles c_parts c_visited)) A) args s 0 0 A) (F0 m 25 ls []) := by
  have hx := hF.1.1
  have hb := hF.1.2.1
  have hml := hF.1.2.2.1
  have hown : s.vm.findClass "RectangleTreeModel" = some m.cls := hF.1.2.2.2.1
  have hts := hF.1.2.2.2.2
  have hr := hF.2.1
  have hlk := hF.2.2.1
  have hK := hF.2.2.2.2.1
  have hN := hF.2.2.2.2.2.1
  have hA := hF.2.2.2.2.2.2
  intro n
  induction n with
  | zero => intro x2 x3 x4 x5 x7 c_rect H locs ls h; cases h
  | succ n ih =>
    intro x2 x3 x4 x5 x7 c_rect H locs ls h hP hD hS hl
    rw [f_Mo_farthest_L25] at h
    refine lv_iload hx hb dX7_farthest_25 (lv_at hl 7 rfl) ?_
    refine lv_iload_n hx hb dX7_farthest_27 rfl (lv_at hl 1 rfl) ?_
    obtain ⟨g_4, h⟩ := gd_e h
    obtain ⟨g_5, h⟩ := gd_e h
    refine z_icmp_ge (tgt := 94) hx hb g_4 g_5 dX7_farthest_28 (by decide) (fun b_6 => ?_) (fun b_6 => ?_)
    · have h := it_n b_6 h
      exact hk (x2) (x3) (x4) (x5) (x7) (c_rect) H locs ls h hP hD hS (lv_sub hl [0, 1, 2, 3, 4, 5, 6] rfl)
    · have h := it_p b_6 h
      refine lv_aload_n hx hb dX7_farthest_31 rfl (lv_at hl 0 rfl) ?_
      refine lv_iload hx hb dX7_farthest_32 (lv_at hl 6 rfl) ?_
      refine lv_iload hx hb dX7_farthest_34 (lv_at hl 7 rfl) ?_
      refine lv_bipush (v := Int32.ofInt 11) hx hb dX7_farthest_36 (by decide +kernel) ?_
      obtain ⟨c_rect_7, e_8, h⟩ := bd1_e h
      refine z_gov (wc := (zMo cI cZ (h_M) (q_M) (c_s) (c_past) (c_kept) (c_isKept) (c_pasts) (c_text) (c_typed) (c_rect) (c_item) (c_items) (c_itemLevel) (c_treated) (c_from) (c_group) (c_turn) (c_size) (c_old) (c_aside) (c_begin) (c_level) (c_asides) (c_sorted) (c_spot) (c_rectangles) (c_parts) (c_visited))) (wn := fun u_9 => (zMo cI cZ h_M q_M c_s c_past c_kept c_isKept c_pasts c_text c_typed c_rect_7 c_item c_items c_itemLevel c_treated c_from c_group c_turn c_size c_old c_aside c_begin c_level c_asides c_sorted c_spot c_rectangles c_parts c_visited)) (wr := []) (va_runV (As := [vI x6, vI x7, vI 11]) (rest := []) hF.1 (c_Mo_unites l D cI cZ cT h_M q_M c_s c_past c_kept c_isKept c_pasts c_text c_typed c_rect c_item c_items c_itemLevel c_treated c_from c_group c_turn c_size c_old c_aside c_begin c_level c_asides c_sorted c_spot c_rectangles c_parts c_visited x6 x7 11 H.size (c_rect_7) e_8) (cwV 3 hts (zgV wm938 wm940 wm44 wm89 wm941) rfl rfl rfl (by decide +kernel) ⟨Nat.le_of_ble_eq_true rfl, Nat.le_of_ble_eq_true rfl⟩) ⟨zP.blind, va_recv hK (z_subP (ws' := (zMo cI cZ (h_M) (q_M) (c_s) (c_past) (c_kept) (c_isKept) (c_pasts) (c_text) (c_typed) (c_rect) (c_item) (c_items) (c_itemLevel) (c_treated) (c_from) (c_group) (c_turn) (c_size) (c_old) (c_aside) (c_begin) (c_level) (c_asides) (c_sorted) (c_spot) (c_rectangles) (c_parts) (c_visited))) hP [0, 1, 2, 3, 4, 5, 6, 7, 8, 9, 10, 11, 12, 13, 14, 15, 16, 17, 18] rfl) (ci := 7) (q0 := 0) rfl rfl, zP.enter (z_subP (ws' := (zMo cI cZ (h_M) (q_M) (c_s) (c_past) (c_kept) (c_isKept) (c_pasts) (c_text) (c_typed) (c_rect) (c_item) (c_items) (c_itemLevel) (c_treated) (c_from) (c_group) (c_turn) (c_size) (c_old) (c_aside) (c_begin) (c_level) (c_asides) (c_sorted) (c_spot) (c_rectangles) (c_parts) (c_visited))) hP [0, 1, 2, 3, 4, 5, 6, 7, 8, 9, 10, 11, 12, 13, 14, 15, 16, 17, 18] rfl) hK (hD.sub [0, 1, 2, 3, 4, 5, 6, 7, 8, 9, 10, 11, 12, 13, 14, 15, 16, 17, 18] (by decide) rfl) hN⟩ rfl rfl hl.1 rfl (lv_room (Nat.le_of_ble_eq_true rfl)) dX7_farthest_38 ⟨Nat.le_refl _, Nat.le_refl _⟩) hP hD hS hA [0, 1, 2, 3, 4, 5, 6, 7, 8, 9, 10, 11, 12, 13, 14, 15, 16, 17, 18] [] [0, 1, 2, 3, 4, 5, 6, 7, 8, 9, 10, 11, 12, 13, 14, 15, 16, 17, 18] rfl rfl (by decide) (fun _ => rfl) (fun u_9 H locs hP hD hS hz => ?_)
      refine lv_aload_n hx hb dX7_farthest_41 rfl (lv_at hl 0 rfl) ?_
      refine lv_bipush (v := Int32.ofInt 11) hx hb dX7_farthest_42 (by decide +kernel) ?_
      obtain ⟨r_10, e_11, h⟩ := bd1_e h
      refine z_goi (ws' := []) (ret := r_10) (wc := (zMo cI cZ (h_M) (q_M) (c_s) (c_past) (c_kept) (c_isKept) (c_pasts) (c_text) (c_typed) (c_rect_7) (c_item) (c_items) (c_itemLevel) (c_treated) (c_from) (c_group) (c_turn) (c_size) (c_old) (c_aside) (c_begin) (c_level) (c_asides) (c_sorted) (c_spot) (c_rectangles) (c_parts) (c_visited))) (wn := fun u_12 => (zMo cI cZ h_M q_M c_s c_past c_kept c_isKept c_pasts c_text c_typed c_rect_7 c_item c_items c_itemLevel c_treated c_from c_group c_turn c_size c_old c_aside c_begin c_level c_asides c_sorted c_spot c_rectangles c_parts c_visited)) (wr := []) (va_runV (As := [vI 11]) (rest := []) hF.1 (c_Mo_areaOf l D cI cZ cT h_M q_M c_s c_past c_kept c_isKept c_pasts c_text c_typed c_rect_7 c_item c_items c_itemLevel c_treated c_from c_group c_turn c_size c_old c_aside c_begin c_level c_asides c_sorted c_spot c_rectangles c_parts c_visited 11 H.size (r_10) e_11) (cwV 1 hts (zgV wm942 wm944 wm45 wm89 wm945) rfl rfl rfl (by decide +kernel) ⟨Nat.le_of_ble_eq_true rfl, Nat.le_of_ble_eq_true rfl⟩) ⟨zP.blind, va_recv hK (z_subP (ws' := (zMo cI cZ (h_M) (q_M) (c_s) (c_past) (c_kept) (c_isKept) (c_pasts) (c_text) (c_typed) (c_rect_7) (c_item) (c_items) (c_itemLevel) (c_treated) (c_from) (c_group) (c_turn) (c_size) (c_old) (c_aside) (c_begin) (c_level) (c_asides) (c_sorted) (c_spot) (c_rectangles) (c_parts) (c_visited))) hP [0, 1, 2, 3, 4, 5, 6, 7, 8, 9, 10, 11, 12, 13, 14, 15, 16, 17, 18] rfl) (ci := 7) (q0 := 0) rfl rfl, zP.enter (z_subP (ws' := (zMo cI cZ (h_M) (q_M) (c_s) (c_past) (c_kept) (c_isKept) (c_pasts) (c_text) (c_typed) (c_rect_7) (c_item) (c_items) (c_itemLevel) (c_treated) (c_from) (c_group) (c_turn) (c_size) (c_old) (c_aside) (c_begin) (c_level) (c_asides) (c_sorted) (c_spot) (c_rectangles) (c_parts) (c_visited))) hP [0, 1, 2, 3, 4, 5, 6, 7, 8, 9, 10, 11, 12, 13, 14, 15, 16, 17, 18] rfl) hK (hD.sub [0, 1, 2, 3, 4, 5, 6, 7, 8, 9, 10, 11, 12, 13, 14, 15, 16, 17, 18] (by decide) rfl) hN⟩ rfl rfl hl.1 rfl (lv_room (Nat.le_of_ble_eq_true rfl)) dX7_farthest_44 ⟨Nat.le_refl _, Nat.le_refl _⟩) hP hD hS hA [0, 1, 2, 3, 4, 5, 6, 7, 8, 9, 10, 11, 12, 13, 14, 15, 16, 17, 18] [] [0, 1, 2, 3, 4, 5, 6, 7, 8, 9, 10, 11, 12, 13, 14, 15, 16, 17, 18] rfl rfl (by decide) (fun _ => rfl) (fun u_12 H locs hP hD hS hz => ?_)
      refine lv_aload_n hx hb dX7_farthest_47 rfl (lv_at hl 0 rfl) ?_
      refine lv_iload hx hb dX7_farthest_48 (lv_at hl 6 rfl) ?_
      obtain ⟨r_13, e_14, h⟩ := bd1_e h
      refine z_goi (ws' := []) (ret := r_13) (wc := (zMo cI cZ (h_M) (q_M) (c_s) (c_past) (c_kept) (c_isKept) (c_pasts) (c_text) (c_typed) (c_rect_7) (c_item) (c_items) (c_itemLevel) (c_treated) (c_from) (c_group) (c_turn) (c_size) (c_old) (c_aside) (c_begin) (c_level) (c_asides) (c_sorted) (c_spot) (c_rectangles) (c_parts) (c_visited))) (wn := fun u_15 => (zMo cI cZ h_M q_M c_s c_past c_kept c_isKept c_pasts c_text c_typed c_rect_7 c_item c_items c_itemLevel c_treated c_from c_group c_turn c_size c_old c_aside c_begin c_level c_asides c_sorted c_spot c_rectangles c_parts c_visited)) (wr := []) (va_runV (As := [vI x6]) (rest := [vI r_10]) hF.1 (c_Mo_areaOf l D cI cZ cT h_M q_M c_s c_past c_kept c_isKept c_pasts c_text c_typed c_rect_7 c_item c_items c_itemLevel c_treated c_from c_group c_turn c_size c_old c_aside c_begin c_level c_asides c_sorted c_spot c_rectangles c_parts c_visited x6 H.size (r_13) e_14) (cwV 1 hts (zgV wm942 wm944 wm45 wm89 wm945) rfl rfl rfl (by decide +kernel) ⟨Nat.le_of_ble_eq_true rfl, Nat.le_of_ble_eq_true rfl⟩) ⟨zP.blind, va_recv hK (z_subP (ws' := (zMo cI cZ (h_M) (q_M) (c_s) (c_past) (c_kept) (c_isKept) (c_pasts) (c_text) (c_typed) (c_rect_7) (c_item) (c_items) (c_itemLevel) (c_treated) (c_from) (c_group) (c_turn) (c_size) (c_old) (c_aside) (c_begin) (c_level) (c_asides) (c_sorted) (c_spot) (c_rectangles) (c_parts) (c_visited))) hP [0, 1, 2, 3, 4, 5, 6, 7, 8, 9, 10, 11, 12, 13, 14, 15, 16, 17, 18] rfl) (ci := 7) (q0 := 0) rfl rfl, zP.enter (z_subP (ws' := (zMo cI cZ (h_M) (q_M) (c_s) (c_past) (c_kept) (c_isKept) (c_pasts) (c_text) (c_typed) (c_rect_7) (c_item) (c_items) (c_itemLevel) (c_treated) (c_from) (c_group) (c_turn) (c_size) (c_old) (c_aside) (c_begin) (c_level) (c_asides) (c_sorted) (c_spot) (c_rectangles) (c_parts) (c_visited))) hP [0, 1, 2, 3, 4, 5, 6, 7, 8, 9, 10, 11, 12, 13, 14, 15, 16, 17, 18] rfl) hK (hD.sub [0, 1, 2, 3, 4, 5, 6, 7, 8, 9, 10, 11, 12, 13, 14, 15, 16, 17, 18] (by decide) rfl) hN⟩ rfl rfl hl.1 rfl (lv_room (Nat.le_of_ble_eq_true rfl)) dX7_farthest_50 ⟨Nat.le_refl _, Nat.le_refl _⟩) hP hD hS hA [0, 1, 2, 3, 4, 5, 6, 7, 8, 9, 10, 11, 12, 13, 14, 15, 16, 17, 18] [] [0, 1, 2, 3, 4, 5, 6, 7, 8, 9, 10, 11, 12, 13, 14, 15, 16, 17, 18] rfl rfl (by decide) (fun _ => rfl) (fun u_15 H locs hP hD hS hz => ?_)
      refine z_isub hx hb dX7_farthest_53 ?_
      refine lv_aload_n hx hb dX7_farthest_54 rfl (lv_at hl 0 rfl) ?_
      refine lv_iload hx hb dX7_farthest_55 (lv_at hl 7 rfl) ?_
      obtain ⟨r_16, e_17, h⟩ := bd1_e h
      refine z_goi (ws' := []) (ret := r_16) (wc := (zMo cI cZ (h_M) (q_M) (c_s) (c_past) (c_kept) (c_isKept) (c_pasts) (c_text) (c_typed) (c_rect_7) (c_item) (c_items) (c_itemLevel) (c_treated) (c_from) (c_group) (c_turn) (c_size) (c_old) (c_aside) (c_begin) (c_level) (c_asides) (c_sorted) (c_spot) (c_rectangles) (c_parts) (c_visited))) (wn := fun u_18 => (zMo cI cZ h_M q_M c_s c_past c_kept c_isKept c_pasts c_text c_typed c_rect_7 c_item c_items c_itemLevel c_treated c_from c_group c_turn c_size c_old c_aside c_begin c_level c_asides c_sorted c_spot c_rectangles c_parts c_visited)) (wr := []) (va_runV (As := [vI x7]) (rest := [vI (r_10 - r_13)]) hF.1 (c_Mo_areaOf l D cI cZ cT h_M q_M c_s c_past c_kept c_isKept c_pasts c_text c_typed c_rect_7 c_item c_items c_itemLevel c_treated c_from c_group c_turn c_size c_old c_aside c_begin c_level c_asides c_sorted c_spot c_rectangles c_parts c_visited x7 H.size (r_16) e_17) (cwV 1 hts (zgV wm942 wm944 wm45 wm89 wm945) rfl rfl rfl (by decide +kernel) ⟨Nat.le_of_ble_eq_true rfl, Nat.le_of_ble_eq_true rfl⟩) ⟨zP.blind, va_recv hK (z_subP (ws' := (zMo cI cZ (h_M) (q_M) (c_s) (c_past) (c_kept) (c_isKept) (c_pasts) (c_text) (c_typed) (c_rect_7) (c_item) (c_items) (c_itemLevel) (c_treated) (c_from) (c_group) (c_turn) (c_size) (c_old) (c_aside) (c_begin) (c_level) (c_asides) (c_sorted) (c_spot) (c_rectangles) (c_parts) (c_visited))) hP [0, 1, 2, 3, 4, 5, 6, 7, 8, 9, 10, 11, 12, 13, 14, 15, 16, 17, 18] rfl) (ci := 7) (q0 := 0) rfl rfl, zP.enter (z_subP (ws' := (zMo cI cZ (h_M) (q_M) (c_s) (c_past) (c_kept) (c_isKept) (c_pasts) (c_text) (c_typed) (c_rect_7) (c_item) (c_items) (c_itemLevel) (c_treated) (c_from) (c_group) (c_turn) (c_size) (c_old) (c_aside) (c_begin) (c_level) (c_asides) (c_sorted) (c_spot) (c_rectangles) (c_parts) (c_visited))) hP [0, 1, 2, 3, 4, 5, 6, 7, 8, 9, 10, 11, 12, 13, 14, 15, 16, 17, 18] rfl) hK (hD.sub [0, 1, 2, 3, 4, 5, 6, 7, 8, 9, 10, 11, 12, 13, 14, 15, 16, 17, 18] (by decide) rfl) hN⟩ rfl rfl hl.1 rfl (lv_room (Nat.le_of_ble_eq_true rfl)) dX7_farthest_57 ⟨Nat.le_refl _, Nat.le_refl _⟩) hP hD hS hA [0, 1, 2, 3, 4, 5, 6, 7, 8, 9, 10, 11, 12, 13, 14, 15, 16, 17, 18] [] [0, 1, 2, 3, 4, 5, 6, 7, 8, 9, 10, 11, 12, 13, 14, 15, 16, 17, 18] rfl rfl (by decide) (fun _ => rfl) (fun u_18 H locs hP hD hS hz => ?_)
      refine z_isub hx hb dX7_farthest_60 ?_
      refine lv_istore (lv' := [(8, vI ((r_10 - r_13) - r_16)), (0, .ref h_M), (1, vI x1), (2, vI x2), (3, vI x3), (4, vI x4), (5, vI x5), (6, vI x6), (7, vI x7)]) hx hb dX7_farthest_61 hl (by decide) rfl (fun ls hl => ?_)
      refine lv_iload hx hb dX7_farthest_63 (lv_at hl 5 rfl) ?_
      obtain ⟨g_19, h⟩ := gd_e h
      refine z_if_ne (tgt := 75) hx hb g_19 dX7_farthest_65 (by decide) (fun b_20 => ?_) (fun b_20 => ?_)
      · have h := it_n b_20 h
        refine lv_iload hx hb dX7_farthest_75 (lv_at hl 7 rfl) ?_
        refine lv_istore_n (lv' := [(2, vI x6), (8, vI ((r_10 - r_13) - r_16)), (0, .ref h_M), (1, vI x1), (3, vI x3), (4, vI x4), (5, vI x5), (6, vI x6), (7, vI x7)]) hx hb dX7_farthest_77 rfl hl (by decide) rfl (fun ls hl => ?_)
        refine lv_iload hx hb dX7_farthest_78 (lv_at hl 8 rfl) ?_
        refine lv_istore_n (lv' := [(3, vI x7), (2, vI x6), (8, vI ((r_10 - r_13) - r_16)), (0, .ref h_M), (1, vI x1), (4, vI x4), (5, vI x5), (6, vI x6), (7, vI x7)]) hx hb dX7_farthest_80 rfl hl (by decide) rfl (fun ls hl => ?_)
        refine lv_iload hx hb dX7_farthest_81 (lv_at hl 2 rfl) ?_
        refine lv_istore (lv' := [(5, vI ((r_10 - r_13) - r_16)), (3, vI x7), (2, vI x6), (8, vI ((r_10 - r_13) - r_16)), (0, .ref h_M), (1, vI x1), (4, vI x4), (6, vI x6), (7, vI x7)]) hx hb dX7_farthest_83 hl (by decide) rfl (fun ls hl => ?_)
        refine lv_iconst (v := Int32.ofInt 0) hx hb dX7_farthest_85 rfl ?_
        refine lv_istore (lv' := [(4, vI 0), (5, vI ((r_10 - r_13) - r_16)), (3, vI x7), (2, vI x6), (8, vI ((r_10 - r_13) - r_16)), (0, .ref h_M), (1, vI x1), (6, vI x6), (7, vI x7)]) hx hb dX7_farthest_86 hl (by decide) rfl (fun ls hl => ?_)
        refine lv_iinc (v := Int32.ofInt (x7 + 1)) (lv' := [(7, vI (x7 + 1)), (4, vI 0), (5, vI ((r_10 - r_13) - r_16)), (3, vI x7), (2, vI x6), (8, vI ((r_10 - r_13) - r_16)), (0, .ref h_M), (1, vI x1), (6, vI x6)]) hx hb dX7_farthest_88 hl (k := 8) rfl (z_inc _ _) (by decide) rfl (fun ls hl => ?_)
        refine lv_goto (tgt := 25) hx hb dX7_farthest_91 (by decide) ?_
        exact ih (x6) (x7) (0) (((r_10 - r_13) - r_16)) ((x7 + 1)) (c_rect_7) H locs ls h hP hD hS (lv_sub hl [6, 7, 4, 3, 1, 2, 8, 0] rfl)
      · have h := it_p b_20 h
        refine lv_iload hx hb dX7_farthest_68 (lv_at hl 0 rfl) ?_
        refine lv_iload hx hb dX7_farthest_70 (lv_at hl 6 rfl) ?_
        obtain ⟨g_21, h⟩ := gd_e h
        obtain ⟨g_22, h⟩ := gd_e h
        refine z_icmp_le (tgt := 88) hx hb g_21 g_22 dX7_farthest_72 (by decide) (fun b_23 => ?_) (fun b_23 => ?_)
        · have h := it_n b_23 h
          refine lv_iinc (v := Int32.ofInt (x7 + 1)) (lv' := [(7, vI (x7 + 1)), (8, vI ((r_10 - r_13) - r_16)), (0, .ref h_M), (1, vI x1), (2, vI x2), (3, vI x3), (4, vI x4), (5, vI x5), (6, vI x6)]) hx hb dX7_farthest_88 hl (k := 8) rfl (z_inc _ _) (by decide) rfl (fun ls hl => ?_)
          refine lv_goto (tgt := 25) hx hb dX7_farthest_91 (by decide) ?_
          exact ih (x2) (x3) (x4) (x5) ((x7 + 1)) (c_rect_7) H locs ls h hP hD hS (lv_sub hl [2, 3, 4, 5, 6, 7, 8, 0] rfl)
        · have h := it_p b_23 h
          refine lv_iload hx hb dX7_farthest_75 (lv_at hl 7 rfl) ?_
          refine lv_istore_n (lv' := [(2, vI x6), (8, vI ((r_10 - r_13) - r_16)), (0, .ref h_M), (1, vI x1), (3, vI x3), (4, vI x4), (5, vI x5), (6, vI x6), (7, vI x7)]) hx hb dX7_farthest_77 rfl hl (by decide) rfl (fun ls hl => ?_)
          refine lv_iload hx hb dX7_farthest_78 (lv_at hl 8 rfl) ?_
          refine lv_istore_n (lv' := [(3, vI x7), (2, vI x6), (8, vI ((r_10 - r_13) - r_16)), (0, .ref h_M), (1, vI x1), (4, vI x4), (5, vI x5), (6, vI x6), (7, vI x7)]) hx hb dX7_farthest_80 rfl hl (by decide) rfl (fun ls hl => ?_)
          refine lv_iload hx hb dX7_farthest_81 (lv_at hl 2 rfl) ?_
          refine lv_istore (lv' := [(5, vI ((r_10 - r_13) - r_16)), (3, vI x7), (2, vI x6), (8, vI ((r_10 - r_13) - r_16)), (0, .ref h_M), (1, vI x1), (4, vI x4), (6, vI x6), (7, vI x7)]) hx hb dX7_farthest_83 hl (by decide) rfl (fun ls hl => ?_)
          refine lv_iconst (v := Int32.ofInt 0) hx hb dX7_farthest_85 rfl ?_
          refine lv_istore (lv' := [(4, vI 0), (5, vI ((r_10 - r_13) - r_16)), (3, vI x7), (2, vI x6), (8, vI ((r_10 - r_13) - r_16)), (0, .ref h_M), (1, vI x1), (6, vI x6), (7, vI x7)]) hx hb dX7_farthest_86 hl (by decide) rfl (fun ls hl => ?_)
          refine lv_iinc (v := Int32.ofInt (x7 + 1)) (lv' := [(7, vI (x7 + 1)), (4, vI 0), (5, vI ((r_10 - r_13) - r_16)), (3, vI x7), (2, vI x6), (8, vI ((r_10 - r_13) - r_16)), (0, .ref h_M), (1, vI x1), (6, vI x6)]) hx hb dX7_farthest_88 hl (k := 8) rfl (z_inc _ _) (by decide) rfl (fun ls hl => ?_)
          refine lv_goto (tgt := 25) hx hb dX7_farthest_91 (by decide) ?_
          exact ih (x6) (x7) (0) (((r_10 - r_13) - r_16)) ((x7 + 1)) (c_rect_7) H locs ls h hP hD hS (lv_sub hl [6, 7, 4, 3, 1, 2, 8, 0] rfl)
set_option maxHeartbeats 4000000 in
set_option maxRecDepth 100000 in
theorem w_Mo_farthest_L13 {p : Program} {l : Launch} {e : Env} {s : State} {m : MethodId} {args : Array Value} {below : List Frame} {meth : Method} {c : Code} {A : Nat → Prop} (D : va_G) (cI cZ cT : ClassId) (h_M : Nat) (q_M : Nat → Nat) (c_s : Nat → Int) (c_past : Nat → Int) (c_kept : Nat → Int) (c_isKept : Int) (c_pasts : Int) (c_text : Nat → Int) (c_typed : Int) (c_item : Nat → Int) (c_items : Int) (c_itemLevel : Int) (c_treated : Nat → Int) (c_from : Nat → Int) (c_group : Nat → Int) (c_turn : Nat → Int) (c_size : Nat → Int) (c_old : Nat → Int) (c_aside : Nat → Int) (c_begin : Nat → Int) (c_level : Nat → Int) (c_asides : Int) (c_sorted : Nat → Int) (c_spot : Int) (c_rectangles : Int) (c_parts : Nat → Int) (c_visited : Nat → Int) (x1 : Int) (res : (Nat → Int) × (Nat → Int) × (Nat → Int) × (Nat → Int)) (k : Int → Int → Int → Int → Int → (Nat → Int) → Option ((Nat → Int) × (Nat → Int) × (Nat → Int) × (Nat → Int))) (hF : zF p m c cX7_farthest 9 s args yX7_farthest.cls meth none yX7_farthest.name A D (zt cI cZ cT))
    (hk : ∀ (x2 : Int) (x3 : Int) (x4 : Int) (x5 : Int) (x6 : Int) (c_rect : Nat → Int) (H : Heap) (locs : List Loc) (ls : Array Slot), k x2 x3 x4 x5 x6 c_rect = some res → va_P D vwCl ((zMo cI cZ h_M q_M c_s c_past c_kept c_isKept c_pasts c_text c_typed c_rect c_item c_items c_itemLevel c_treated c_from c_group c_turn c_size c_old c_aside c_begin c_level c_asides c_sorted c_spot c_rectangles c_parts c_visited)) H → va_D A ((zMo cI cZ h_M q_M c_s c_past c_kept c_isKept c_pasts c_text c_typed c_rect c_item c_items c_itemLevel c_treated c_from c_group c_turn c_size c_old c_aside c_begin c_level c_asides c_sorted c_spot c_rectangles c_parts c_visited)) → va_S A s.heap H locs → lv_has ls 9 [(0, .ref h_M), (2, vI x2), (3, vI x3)] → W p l e rm_Mo_farthest s m args below meth c H locs 0 0 (MQ below (zQv D (fun u => (zMo cI cZ h_M q_M c_s c_past c_kept c_isKept c_pasts c_text c_typed (res.1) c_item c_items c_itemLevel c_treated c_from (res.2.1) (res.2.2.1) (res.2.2.2) c_old c_aside c_begin c_level c_asides c_sorted c_spot c_rectangles c_parts c_visited)) A) args s 0 0 A) (F0 m 100 ls [])) :
    ∀ (n : Nat) (x2 : Int) (x3 : Int) (x4 : Int) (x5 : Int) (x6 : Int) (c_rect : Nat → Int) (H : Heap) (locs : List Loc) (ls : Array Slot), f_Mo_farthest_L13 x1 k n x2 x3 x4 x5 x6 c_rect = some res → va_P D vwCl ((zMo cI cZ h_M q_M c_s c_past c_kept c_isKept c_pasts c_text c_typed c_rect c_item c_items c_itemLevel c_treated c_from c_group c_turn c_size c_old c_aside c_begin c_level c_asides c_sorted c_spot c_rectangles c_parts c_visited)) H → va_D A ((zMo cI cZ h_M q_M c_s c_past c_kept c_isKept c_pasts c_text c_typed c_rect c_item c_items c_itemLevel c_treated c_from c_group c_turn c_size c_old c_aside c_begin c_level c_asides c_sorted c_spot c_rectangles c_parts c_visited)) → va_S A s.heap H locs → lv_has ls 9 [(0, .ref h_M), (1, vI x1), (2, vI x2), (3, vI x3), (4, vI x4), (5, vI x5), (6, vI x6)] → W p l e rm_Mo_farthest s m args below meth c H locs 0 0 (MQ below (zQv D (fun u => (zMo cI cZ h_M q_M c_s c_past c_kept c_isKept c_pasts c_text c_typed (res.1) c_item c_items c_itemLevel c_treated c_from (res.2.1) (res.2.2.1) (res.2.2.2) c_old c_aside c_begin c_level c_asides c_sorted c_spot c_rectangles c_parts c_visited)) A) args s 0 0 A) (F0 m 13 ls []) := by
  have hx := hF.1.1
  have hb := hF.1.2.1
  have hml := hF.1.2.2.1
  have hown : s.vm.findClass "RectangleTreeModel" = some m.cls := hF.1.2.2.2.1
  have hts := hF.1.2.2.2.2
  have hr := hF.2.1
  have hlk := hF.2.2.1
  have hK := hF.2.2.2.2.1
  have hN := hF.2.2.2.2.2.1
  have hA := hF.2.2.2.2.2.2
  intro n
  induction n with
  | zero => intro x2 x3 x4 x5 x6 c_rect H locs ls h; cases h
  | succ n ih =>
    intro x2 x3 x4 x5 x6 c_rect H locs ls h hP hD hS hl
    rw [f_Mo_farthest_L13] at h
    refine lv_iload hx hb dX7_farthest_13 (lv_at hl 6 rfl) ?_
    refine lv_iload_n hx hb dX7_farthest_15 rfl (lv_at hl 1 rfl) ?_
    obtain ⟨g_1, h⟩ := gd_e h
    obtain ⟨g_2, h⟩ := gd_e h
    refine z_icmp_ge (tgt := 100) hx hb g_1 g_2 dX7_farthest_16 (by decide) (fun b_3 => ?_) (fun b_3 => ?_)
    · have h := it_n b_3 h
      exact hk (x2) (x3) (x4) (x5) (x6) (c_rect) H locs ls h hP hD hS (lv_sub hl [0, 2, 3] rfl)
    · have h := it_p b_3 h
      refine lv_iload hx hb dX7_farthest_19 (lv_at hl 6 rfl) ?_
      refine lv_iconst (v := Int32.ofInt 1) hx hb dX7_farthest_21 rfl ?_
      refine z_iadd hx hb dX7_farthest_22 ?_
      refine lv_istore (lv' := [(7, vI (x6 + 1)), (0, .ref h_M), (1, vI x1), (2, vI x2), (3, vI x3), (4, vI x4), (5, vI x5), (6, vI x6)]) hx hb dX7_farthest_23 hl (by decide) rfl (fun ls hl => ?_)
      refine w_Mo_farthest_L25 D cI cZ cT (h_M) (q_M) (c_s) (c_past) (c_kept) (c_isKept) (c_pasts) (c_text) (c_typed) (c_item) (c_items) (c_itemLevel) (c_treated) (c_from) (c_group) (c_turn) (c_size) (c_old) (c_aside) (c_begin) (c_level) (c_asides) (c_sorted) (c_spot) (c_rectangles) (c_parts) (c_visited) (x1) (x6) _ _ hF (fun x2_24 x3_25 x4_26 x5_27 x7_28 c_rect_29 H locs ls h hP hD hS hl => ?_) _ (x2) (x3) (x4) (x5) ((x6 + 1)) (c_rect) _ _ _ h hP hD hS (lv_sub hl [1, 2, 3, 4, 5, 6, 7, 0] rfl)
      refine lv_iinc (v := Int32.ofInt (x6 + 1)) (lv' := [(6, vI (x6 + 1)), (0, .ref h_M), (1, vI x1), (2, vI x2_24), (3, vI x3_25), (4, vI x4_26), (5, vI x5_27)]) hx hb dX7_farthest_94 hl (k := 6) rfl (z_inc _ _) (by decide) rfl (fun ls hl => ?_)
      refine lv_goto (tgt := 13) hx hb dX7_farthest_97 (by decide) ?_
      exact ih (x2_24) (x3_25) (x4_26) (x5_27) ((x6 + 1)) (c_rect_29) H locs ls h hP hD hS (lv_sub hl [1, 2, 3, 4, 5, 6, 0] rfl)
set_option maxHeartbeats 4000000 in
set_option maxRecDepth 100000 in
theorem c_Mo_farthest (l : Launch) (D : va_G) (cI cZ cT : ClassId) (h_M : Nat) (q_M : Nat → Nat) (c_s : Nat → Int) (c_past : Nat → Int) (c_kept : Nat → Int) (c_isKept : Int) (c_pasts : Int) (c_text : Nat → Int) (c_typed : Int) (c_rect : Nat → Int) (c_item : Nat → Int) (c_items : Int) (c_itemLevel : Int) (c_treated : Nat → Int) (c_from : Nat → Int) (c_group : Nat → Int) (c_turn : Nat → Int) (c_size : Nat → Int) (c_old : Nat → Int) (c_aside : Nat → Int) (c_begin : Nat → Int) (c_level : Nat → Int) (c_asides : Int) (c_sorted : Nat → Int) (c_spot : Int) (c_rectangles : Int) (c_parts : Nat → Int) (c_visited : Nat → Int) (x1 : Int) (sz : Nat) (res : (Nat → Int) × (Nat → Int) × (Nat → Int) × (Nat → Int)) (h : f_Mo_farthest c_rect c_group c_turn c_size x1 = some res) : zMv l yX7_farthest cX7_farthest 9 rm_Mo_farthest D (zt cI cZ cT) [.ref h_M, vI x1] ((zMo cI cZ h_M q_M c_s c_past c_kept c_isKept c_pasts c_text c_typed c_rect c_item c_items c_itemLevel c_treated c_from c_group c_turn c_size c_old c_aside c_begin c_level c_asides c_sorted c_spot c_rectangles c_parts c_visited)) sz (fun u => (zMo cI cZ h_M q_M c_s c_past c_kept c_isKept c_pasts c_text c_typed (res.1) c_item c_items c_itemLevel c_treated c_from (res.2.1) (res.2.2.1) (res.2.2.2) c_old c_aside c_begin c_level c_asides c_sorted c_spot c_rectangles c_parts c_visited)) 0 0 := by
  refine z_enth (Qc := zQv D (fun u => (zMo cI cZ h_M q_M c_s c_past c_kept c_isKept c_pasts c_text c_typed (res.1) c_item c_items c_itemLevel c_treated c_from (res.2.1) (res.2.2.1) (res.2.2.2) c_old c_aside c_begin c_level c_asides c_sorted c_spot c_rectangles c_parts c_visited))) (by decide) (Nat.le_of_ble_eq_true rfl) (fun p e s m args below meth c A ls H locs hF hP hD hS hl => ?_)
  have hx := hF.1.1
  have hb := hF.1.2.1
  have hml := hF.1.2.2.1
  have hown : s.vm.findClass "RectangleTreeModel" = some m.cls := hF.1.2.2.2.1
  have hts := hF.1.2.2.2.2
  have hr := hF.2.1
  have hlk := hF.2.2.1
  have hK := hF.2.2.2.2.1
  have hN := hF.2.2.2.2.2.1
  have hA := hF.2.2.2.2.2.2
  unfold f_Mo_farthest at h
  refine lv_iconst (v := Int32.ofInt 0) hx hb dX7_farthest_0 rfl ?_
  refine lv_istore_n (lv' := [(2, vI 0), (0, .ref h_M), (1, vI x1)]) hx hb dX7_farthest_1 rfl hl (by decide) rfl (fun ls hl => ?_)
  refine lv_iconst (v := Int32.ofInt 1) hx hb dX7_farthest_2 rfl ?_
  refine lv_istore_n (lv' := [(3, vI 1), (2, vI 0), (0, .ref h_M), (1, vI x1)]) hx hb dX7_farthest_3 rfl hl (by decide) rfl (fun ls hl => ?_)
  refine lv_iconst (v := Int32.ofInt 1) hx hb dX7_farthest_4 rfl ?_
  refine lv_istore (lv' := [(4, vI 1), (3, vI 1), (2, vI 0), (0, .ref h_M), (1, vI x1)]) hx hb dX7_farthest_5 hl (by decide) rfl (fun ls hl => ?_)
  refine lv_iconst (v := Int32.ofInt 0) hx hb dX7_farthest_7 rfl ?_
  refine lv_istore (lv' := [(5, vI 0), (4, vI 1), (3, vI 1), (2, vI 0), (0, .ref h_M), (1, vI x1)]) hx hb dX7_farthest_8 hl (by decide) rfl (fun ls hl => ?_)
  refine lv_iconst (v := Int32.ofInt 0) hx hb dX7_farthest_10 rfl ?_
  refine lv_istore (lv' := [(6, vI 0), (5, vI 0), (4, vI 1), (3, vI 1), (2, vI 0), (0, .ref h_M), (1, vI x1)]) hx hb dX7_farthest_11 hl (by decide) rfl (fun ls hl => ?_)
  refine w_Mo_farthest_L13 D cI cZ cT (h_M) (q_M) (c_s) (c_past) (c_kept) (c_isKept) (c_pasts) (c_text) (c_typed) (c_item) (c_items) (c_itemLevel) (c_treated) (c_from) (c_group) (c_turn) (c_size) (c_old) (c_aside) (c_begin) (c_level) (c_asides) (c_sorted) (c_spot) (c_rectangles) (c_parts) (c_visited) (x1) _ _ hF (fun x2_30 x3_31 x4_32 x5_33 x6_34 c_rect_35 H locs ls h hP hD hS hl => ?_) _ (0) (1) (1) (0) (0) (c_rect) _ _ _ h hP hD hS (lv_sub hl [5, 6, 4, 3, 2, 1, 0] rfl)
  refine lv_aload_n hx hb dX7_farthest_100 rfl (lv_at hl 0 rfl) ?_
  refine va_get (D := D) (ci := 7) (v := .ref (q_M 10)) (C := RX7) (T := TX7) (N := 26) hx hb hts zin7 hown hK hP 0 rfl rfl 15 (by decide) (hts _ wm802) (fun _ h9 => h9) rfl dX7_farthest_101 ?_
  refine lv_iconst (v := Int32.ofInt 0) hx hb dX7_farthest_104 rfl ?_
  refine lv_iconst (v := Int32.ofInt 0) hx hb dX7_farthest_105 rfl ?_
  refine z_iast (n := 2) (f := c_size) (i := 0) (x := 0) (ws' := (zMo cI cZ h_M q_M c_s c_past c_kept c_isKept c_pasts c_text c_typed c_rect_35 c_item c_items c_itemLevel c_treated c_from c_group c_turn (up c_size (0) 0) c_old c_aside c_begin c_level c_asides c_sorted c_spot c_rectangles c_parts c_visited)) hx hb hK hP hD hS 11 rfl rfl (by decide) (by decide) dX7_farthest_106 rfl (fun H locs hP hD hS => ?_)
  refine lv_aload_n hx hb dX7_farthest_107 rfl (lv_at hl 0 rfl) ?_
  refine va_get (D := D) (ci := 7) (v := .ref (q_M 10)) (C := RX7) (T := TX7) (N := 26) hx hb hts zin7 hown hK hP 0 rfl rfl 15 (by decide) (hts _ wm802) (fun _ h9 => h9) rfl dX7_farthest_108 ?_
  refine lv_iconst (v := Int32.ofInt 1) hx hb dX7_farthest_111 rfl ?_
  refine lv_iconst (v := Int32.ofInt 0) hx hb dX7_farthest_112 rfl ?_
  refine z_iast (n := 2) (f := (up c_size (0) 0)) (i := 1) (x := 0) (ws' := (zMo cI cZ h_M q_M c_s c_past c_kept c_isKept c_pasts c_text c_typed c_rect_35 c_item c_items c_itemLevel c_treated c_from c_group c_turn (up (up c_size (0) 0) (1) 0) c_old c_aside c_begin c_level c_asides c_sorted c_spot c_rectangles c_parts c_visited)) hx hb hK hP hD hS 11 rfl rfl (by decide) (by decide) dX7_farthest_113 rfl (fun H locs hP hD hS => ?_)
  refine lv_aload_n hx hb dX7_farthest_114 rfl (lv_at hl 0 rfl) ?_
  refine lv_iload_n hx hb dX7_farthest_115 rfl (lv_at hl 1 rfl) ?_
  refine lv_iconst (v := Int32.ofInt 0) hx hb dX7_farthest_116 rfl ?_
  obtain ⟨c_rect_36, c_group_37, c_turn_38, c_size_39, e_40, h⟩ := bd4_e h
  refine z_gov (wc := (zMo cI cZ (h_M) (q_M) (c_s) (c_past) (c_kept) (c_isKept) (c_pasts) (c_text) (c_typed) (c_rect_35) (c_item) (c_items) (c_itemLevel) (c_treated) (c_from) (c_group) (c_turn) ((up (up c_size (0) 0) (1) 0)) (c_old) (c_aside) (c_begin) (c_level) (c_asides) (c_sorted) (c_spot) (c_rectangles) (c_parts) (c_visited))) (wn := fun u_41 => (zMo cI cZ h_M q_M c_s c_past c_kept c_isKept c_pasts c_text c_typed c_rect_36 c_item c_items c_itemLevel c_treated c_from c_group_37 c_turn_38 c_size_39 c_old c_aside c_begin c_level c_asides c_sorted c_spot c_rectangles c_parts c_visited)) (wr := []) (va_runV (As := [vI x2_30, vI 0]) (rest := []) hF.1 (c_Mo_joins l D cI cZ cT h_M q_M c_s c_past c_kept c_isKept c_pasts c_text c_typed c_rect_35 c_item c_items c_itemLevel c_treated c_from c_group c_turn (up (up c_size (0) 0) (1) 0) c_old c_aside c_begin c_level c_asides c_sorted c_spot c_rectangles c_parts c_visited x2_30 0 H.size (c_rect_36, c_group_37, c_turn_38, c_size_39) e_40) (cwV 2 hts (zgV wm986 wm988 wm56 wm89 wm989) rfl rfl rfl (by decide +kernel) ⟨Nat.le_of_ble_eq_true rfl, Nat.le_of_ble_eq_true rfl⟩) ⟨zP.blind, va_recv hK (z_subP (ws' := (zMo cI cZ (h_M) (q_M) (c_s) (c_past) (c_kept) (c_isKept) (c_pasts) (c_text) (c_typed) (c_rect_35) (c_item) (c_items) (c_itemLevel) (c_treated) (c_from) (c_group) (c_turn) ((up (up c_size (0) 0) (1) 0)) (c_old) (c_aside) (c_begin) (c_level) (c_asides) (c_sorted) (c_spot) (c_rectangles) (c_parts) (c_visited))) hP [0, 1, 2, 3, 4, 5, 6, 7, 8, 9, 10, 11, 12, 13, 14, 15, 16, 17, 18] rfl) (ci := 7) (q0 := 0) rfl rfl, zP.enter (z_subP (ws' := (zMo cI cZ (h_M) (q_M) (c_s) (c_past) (c_kept) (c_isKept) (c_pasts) (c_text) (c_typed) (c_rect_35) (c_item) (c_items) (c_itemLevel) (c_treated) (c_from) (c_group) (c_turn) ((up (up c_size (0) 0) (1) 0)) (c_old) (c_aside) (c_begin) (c_level) (c_asides) (c_sorted) (c_spot) (c_rectangles) (c_parts) (c_visited))) hP [0, 1, 2, 3, 4, 5, 6, 7, 8, 9, 10, 11, 12, 13, 14, 15, 16, 17, 18] rfl) hK (hD.sub [0, 1, 2, 3, 4, 5, 6, 7, 8, 9, 10, 11, 12, 13, 14, 15, 16, 17, 18] (by decide) rfl) hN⟩ rfl rfl hl.1 rfl (lv_room (Nat.le_of_ble_eq_true rfl)) dX7_farthest_117 ⟨Nat.le_refl _, Nat.le_refl _⟩) hP hD hS hA [0, 1, 2, 3, 4, 5, 6, 7, 8, 9, 10, 11, 12, 13, 14, 15, 16, 17, 18] [] [0, 1, 2, 3, 4, 5, 6, 7, 8, 9, 10, 11, 12, 13, 14, 15, 16, 17, 18] rfl rfl (by decide) (fun _ => rfl) (fun u_41 H locs hP hD hS hz => ?_)
  refine lv_aload_n hx hb dX7_farthest_120 rfl (lv_at hl 0 rfl) ?_
  refine lv_iload_n hx hb dX7_farthest_121 rfl (lv_at hl 2 rfl) ?_
  refine lv_iconst (v := Int32.ofInt 1) hx hb dX7_farthest_122 rfl ?_
  obtain ⟨c_rect_42, c_group_43, c_turn_44, c_size_45, e_46, h⟩ := bd4_e h
  refine z_gov (wc := (zMo cI cZ (h_M) (q_M) (c_s) (c_past) (c_kept) (c_isKept) (c_pasts) (c_text) (c_typed) (c_rect_36) (c_item) (c_items) (c_itemLevel) (c_treated) (c_from) (c_group_37) (c_turn_38) (c_size_39) (c_old) (c_aside) (c_begin) (c_level) (c_asides) (c_sorted) (c_spot) (c_rectangles) (c_parts) (c_visited))) (wn := fun u_47 => (zMo cI cZ h_M q_M c_s c_past c_kept c_isKept c_pasts c_text c_typed c_rect_42 c_item c_items c_itemLevel c_treated c_from c_group_43 c_turn_44 c_size_45 c_old c_aside c_begin c_level c_asides c_sorted c_spot c_rectangles c_parts c_visited)) (wr := []) (va_runV (As := [vI x3_31, vI 1]) (rest := []) hF.1 (c_Mo_joins l D cI cZ cT h_M q_M c_s c_past c_kept c_isKept c_pasts c_text c_typed c_rect_36 c_item c_items c_itemLevel c_treated c_from c_group_37 c_turn_38 c_size_39 c_old c_aside c_begin c_level c_asides c_sorted c_spot c_rectangles c_parts c_visited x3_31 1 H.size (c_rect_42, c_group_43, c_turn_44, c_size_45) e_46) (cwV 2 hts (zgV wm986 wm988 wm56 wm89 wm989) rfl rfl rfl (by decide +kernel) ⟨Nat.le_of_ble_eq_true rfl, Nat.le_of_ble_eq_true rfl⟩) ⟨zP.blind, va_recv hK (z_subP (ws' := (zMo cI cZ (h_M) (q_M) (c_s) (c_past) (c_kept) (c_isKept) (c_pasts) (c_text) (c_typed) (c_rect_36) (c_item) (c_items) (c_itemLevel) (c_treated) (c_from) (c_group_37) (c_turn_38) (c_size_39) (c_old) (c_aside) (c_begin) (c_level) (c_asides) (c_sorted) (c_spot) (c_rectangles) (c_parts) (c_visited))) hP [0, 1, 2, 3, 4, 5, 6, 7, 8, 9, 10, 11, 12, 13, 14, 15, 16, 17, 18] rfl) (ci := 7) (q0 := 0) rfl rfl, zP.enter (z_subP (ws' := (zMo cI cZ (h_M) (q_M) (c_s) (c_past) (c_kept) (c_isKept) (c_pasts) (c_text) (c_typed) (c_rect_36) (c_item) (c_items) (c_itemLevel) (c_treated) (c_from) (c_group_37) (c_turn_38) (c_size_39) (c_old) (c_aside) (c_begin) (c_level) (c_asides) (c_sorted) (c_spot) (c_rectangles) (c_parts) (c_visited))) hP [0, 1, 2, 3, 4, 5, 6, 7, 8, 9, 10, 11, 12, 13, 14, 15, 16, 17, 18] rfl) hK (hD.sub [0, 1, 2, 3, 4, 5, 6, 7, 8, 9, 10, 11, 12, 13, 14, 15, 16, 17, 18] (by decide) rfl) hN⟩ rfl rfl hl.1 rfl (lv_room (Nat.le_of_ble_eq_true rfl)) dX7_farthest_123 ⟨Nat.le_refl _, Nat.le_refl _⟩) hP hD hS hA [0, 1, 2, 3, 4, 5, 6, 7, 8, 9, 10, 11, 12, 13, 14, 15, 16, 17, 18] [] [0, 1, 2, 3, 4, 5, 6, 7, 8, 9, 10, 11, 12, 13, 14, 15, 16, 17, 18] rfl rfl (by decide) (fun _ => rfl) (fun u_47 H locs hP hD hS hz => ?_)
  obtain rfl := Option.some.inj h
  exact z_vret hx hb hr hlk (fun _ _ => 0) hP hD hS dX7_farthest_126
def f_Mo_nextEntry_L8 (c_group : Nat → Int) (x1 : Int) (k : Int → Int → Int → (Nat → Int) → Option (Int × (Nat → Int))) : Nat → Int → Int → Int → (Nat → Int) → Option (Int × (Nat → Int))
  | 0, _, _, _, _ => none
  | n + 1, x2, x3, x4, c_rect =>
  gd (ck x4) <| gd (ck x1) <| if x4 < x1 then (gd (0 ≤ x4 ∧ x4 < ((8 : Nat) : Int)) <| gd (ck (c_group (x4).toNat)) <| if (c_group (x4).toNat) < 0 then (bd2 (f_Mo_enlargement c_rect 8 x4) <| fun r_7 c_rect_8 => bd2 (f_Mo_enlargement c_rect_8 9 x4) <| fun r_11 c_rect_12 => gd (ck (r_7 - r_11)) <| if (r_7 - r_11) < 0 then (gd (ck x2) <| if x2 < 0 then (gd (ck (-(r_7 - r_11))) <| gd (ck x3) <| if x3 < (-(r_7 - r_11)) then (f_Mo_nextEntry_L8 c_group x1 k n (x4) ((-(r_7 - r_11))) ((x4 + 1)) (c_rect_12)) else (f_Mo_nextEntry_L8 c_group x1 k n (x4) (x3) ((x4 + 1)) (c_rect_12))) else (gd (ck (-(r_7 - r_11))) <| gd (ck x3) <| if x3 < (-(r_7 - r_11)) then (if x3 < (-(r_7 - r_11)) then (f_Mo_nextEntry_L8 c_group x1 k n (x4) ((-(r_7 - r_11))) ((x4 + 1)) (c_rect_12)) else (f_Mo_nextEntry_L8 c_group x1 k n (x4) (x3) ((x4 + 1)) (c_rect_12))) else (if x3 < (-(r_7 - r_11)) then (f_Mo_nextEntry_L8 c_group x1 k n (x2) ((-(r_7 - r_11))) ((x4 + 1)) (c_rect_12)) else (f_Mo_nextEntry_L8 c_group x1 k n (x2) (x3) ((x4 + 1)) (c_rect_12))))) else (gd (ck x2) <| if x2 < 0 then (gd (ck x3) <| if x3 < (r_7 - r_11) then (f_Mo_nextEntry_L8 c_group x1 k n (x4) ((r_7 - r_11)) ((x4 + 1)) (c_rect_12)) else (f_Mo_nextEntry_L8 c_group x1 k n (x4) (x3) ((x4 + 1)) (c_rect_12))) else (gd (ck x3) <| if x3 < (r_7 - r_11) then (if x3 < (r_7 - r_11) then (f_Mo_nextEntry_L8 c_group x1 k n (x4) ((r_7 - r_11)) ((x4 + 1)) (c_rect_12)) else (f_Mo_nextEntry_L8 c_group x1 k n (x4) (x3) ((x4 + 1)) (c_rect_12))) else (if x3 < (r_7 - r_11) then (f_Mo_nextEntry_L8 c_group x1 k n (x2) ((r_7 - r_11)) ((x4 + 1)) (c_rect_12)) else (f_Mo_nextEntry_L8 c_group x1 k n (x2) (x3) ((x4 + 1)) (c_rect_12)))))) else (f_Mo_nextEntry_L8 c_group x1 k n (x2) (x3) ((x4 + 1)) (c_rect))) else (k (x2) (x3) (x4) (c_rect))
def f_Mo_nextEntry (c_rect : Nat → Int) (c_group : Nat → Int) (x1 : Int) : Option (Int × (Nat → Int)) :=
  f_Mo_nextEntry_L8 (c_group) (x1) (fun x2_35 x3_36 x4_37 c_rect_38 => some (x2_35, c_rect_38)) FU ((-5)) (0) (0) (c_rect)
abbrev rm_Mo_nextEntry : Room := ({ frames := 3, cells := 0, slots := 0, locals := 73 } : Room)
set_option maxHeartbeats 4000000 in
set_option maxRecDepth 100000 in
theorem w_Mo_nextEntry_L8 {p : Program} {l : Launch} {e : Env} {s : State} {m : MethodId} {args : Array Value} {below : List Frame} {meth : Method} {c : Code} {A : Nat → Prop} (D : va_G) (cI cZ cT : ClassId) (h_M : Nat) (q_M : Nat → Nat) (c_s : Nat → Int) (c_past : Nat → Int) (c_kept : Nat → Int) (c_isKept : Int) (c_pasts : Int) (c_text : Nat → Int) (c_typed : Int) (c_item : Nat → Int) (c_items : Int) (c_itemLevel : Int) (c_treated : Nat → Int) (c_from : Nat → Int) (c_group : Nat → Int) (c_turn : Nat → Int) (c_size : Nat → Int) (c_old : Nat → Int) (c_aside : Nat → Int) (c_begin : Nat → Int) (c_level : Nat → Int) (c_asides : Int) (c_sorted : Nat → Int) (c_spot : Int) (c_rectangles : Int) (c_parts : Nat → Int) (c_visited : Nat → Int) (x1 : Int) (res : Int × (Nat → Int)) (k : Int → Int → Int → (Nat → Int) → Option (Int × (Nat → Int))) (hF : zF p m c cX7_nextEntry 7 s args yX7_nextEntry.cls meth (some .int) yX7_nextEntry.name A D (zt cI cZ cT))
    (hk : ∀ (x2 : Int) (x3 : Int) (x4 : Int) (c_rect : Nat → Int) (H : Heap) (locs : List Loc) (ls : Array Slot), k x2 x3 x4 c_rect = some res → va_P D vwCl ((zMo cI cZ h_M q_M c_s c_past c_kept c_isKept c_pasts c_text c_typed c_rect c_item c_items c_itemLevel c_treated c_from c_group c_turn c_size c_old c_aside c_begin c_level c_asides c_sorted c_spot c_rectangles c_parts c_visited)) H → va_D A ((zMo cI cZ h_M q_M c_s c_past c_kept c_isKept c_pasts c_text c_typed c_rect c_item c_items c_itemLevel c_treated c_from c_group c_turn c_size c_old c_aside c_begin c_level c_asides c_sorted c_spot c_rectangles c_parts c_visited)) → va_S A s.heap H locs → lv_has ls 7 [(2, vI x2)] → W p l e rm_Mo_nextEntry s m args below meth c H locs 0 0 (MQ below (zQi D (res.1) (fun u => (zMo cI cZ h_M q_M c_s c_past c_kept c_isKept c_pasts c_text c_typed (res.2) c_item c_items c_itemLevel c_treated c_from c_group c_turn c_size c_old c_aside c_begin c_level c_asides c_sorted c_spot c_rectangles c_parts c_visited)) A) args s 0 0 A) (F0 m 94 ls [])) :
    ∀ (n : Nat) (x2 : Int) (x3 : Int) (x4 : Int) (c_rect : Nat → Int) (H : Heap) (locs : List Loc) (ls : Array Slot), f_Mo_nextEntry_L8 c_group x1 k n x2 x3 x4 c_rect = some res → va_P D vwCl ((zMo cI cZ h_M q_M c_s c_past c_kept c_isKept c_pasts c_text c_typed c_rect c_item c_items c_itemLevel c_treated c_from c_group c_turn c_size c_old c_aside c_begin c_level c_asides c_sorted c_spot c_rectangles c_parts c_visited)) H → va_D A ((zMo cI cZ h_M q_M c_s c_past c_kept c_isKept c_pasts c_text c_typed c_rect c_item c_items c_itemLevel c_treated c_from c_group c_turn c_size c_old c_aside c_begin c_level c_asides c_sorted c_spot c_rectangles c_parts c_visited)) → va_S A s.heap H locs → lv_has ls 7 [(0, .ref h_M), (1, vI x1), (2, vI x2), (3, vI x3), (4, vI x4)] → W p l e rm_Mo_nextEntry s m args below meth c H locs 0 0 (MQ below (zQi D (res.1) (fun u => (zMo cI cZ h_M q_M c_s c_past c_kept c_isKept c_pasts c_text c_typed (res.2) c_item c_items c_itemLevel c_treated c_from c_group c_turn c_size c_old c_aside c_begin c_level c_asides c_sorted c_spot c_rectangles c_parts c_visited)) A) args s 0 0 A) (F0 m 8 ls []) := by
  have hx := hF.1.1
  have hb := hF.1.2.1
  have hml := hF.1.2.2.1
  have hown : s.vm.findClass "RectangleTreeModel" = some m.cls := hF.1.2.2.2.1
  have hts := hF.1.2.2.2.2
  have hr := hF.2.1
  have hlk := hF.2.2.1
  have hK := hF.2.2.2.2.1
  have hN := hF.2.2.2.2.2.1
  have hA := hF.2.2.2.2.2.2
  intro n
  induction n with
  | zero => intro x2 x3 x4 c_rect H locs ls h; cases h
  | succ n ih =>
    intro x2 x3 x4 c_rect H locs ls h hP hD hS hl
    rw [f_Mo_nextEntry_L8] at h
    refine lv_iload hx hb dX7_nextEntry_8 (lv_at hl 4 rfl) ?_
    refine lv_iload_n hx hb dX7_nextEntry_10 rfl (lv_at hl 1 rfl) ?_
    obtain ⟨g_1, h⟩ := gd_e h
    obtain ⟨g_2, h⟩ := gd_e h
    refine z_icmp_ge (tgt := 94) hx hb g_1 g_2 dX7_nextEntry_11 (by decide) (fun b_3 => ?_) (fun b_3 => ?_)
    · have h := it_n b_3 h
      exact hk (x2) (x3) (x4) (c_rect) H locs ls h hP hD hS (lv_sub hl [2] rfl)
    · have h := it_p b_3 h
      refine lv_aload_n hx hb dX7_nextEntry_14 rfl (lv_at hl 0 rfl) ?_
      refine va_get (D := D) (ci := 7) (v := .ref (q_M 8)) (C := RX7) (T := TX7) (N := 26) hx hb hts zin7 hown hK hP 0 rfl rfl 13 (by decide) (hts _ wm800) (fun _ h9 => h9) rfl dX7_nextEntry_15 ?_
      refine lv_iload hx hb dX7_nextEntry_18 (lv_at hl 4 rfl) ?_
      obtain ⟨g_4, h⟩ := gd_e h
      refine z_iald (n := 8) (f := c_group) (i := x4) hx hb hK hP 9 rfl rfl g_4 (by have := g_4.2; omega) dX7_nextEntry_20 ?_
      obtain ⟨g_5, h⟩ := gd_e h
      refine z_if_ge (tgt := 88) hx hb g_5 dX7_nextEntry_21 (by decide) (fun b_6 => ?_) (fun b_6 => ?_)
      · have h := it_n b_6 h
        refine lv_iinc (v := Int32.ofInt (x4 + 1)) (lv' := [(4, vI (x4 + 1)), (0, .ref h_M), (1, vI x1), (2, vI x2), (3, vI x3)]) hx hb dX7_nextEntry_88 hl (k := 4) rfl (z_inc _ _) (by decide) rfl (fun ls hl => ?_)
        refine lv_goto (tgt := 8) hx hb dX7_nextEntry_91 (by decide) ?_
        exact ih (x2) (x3) ((x4 + 1)) (c_rect) H locs ls h hP hD hS (lv_sub hl [1, 2, 3, 4, 0] rfl)
      · have h := it_p b_6 h
        refine lv_aload_n hx hb dX7_nextEntry_24 rfl (lv_at hl 0 rfl) ?_
        refine lv_bipush (v := Int32.ofInt 8) hx hb dX7_nextEntry_25 (by decide +kernel) ?_
        refine lv_iload hx hb dX7_nextEntry_27 (lv_at hl 4 rfl) ?_
        obtain ⟨r_7, c_rect_8, e_9, h⟩ := bd2_e h
        refine z_goi (ws' := []) (ret := r_7) (wc := (zMo cI cZ (h_M) (q_M) (c_s) (c_past) (c_kept) (c_isKept) (c_pasts) (c_text) (c_typed) (c_rect) (c_item) (c_items) (c_itemLevel) (c_treated) (c_from) (c_group) (c_turn) (c_size) (c_old) (c_aside) (c_begin) (c_level) (c_asides) (c_sorted) (c_spot) (c_rectangles) (c_parts) (c_visited))) (wn := fun u_10 => (zMo cI cZ h_M q_M c_s c_past c_kept c_isKept c_pasts c_text c_typed c_rect_8 c_item c_items c_itemLevel c_treated c_from c_group c_turn c_size c_old c_aside c_begin c_level c_asides c_sorted c_spot c_rectangles c_parts c_visited)) (wr := []) (va_runV (As := [vI 8, vI x4]) (rest := []) hF.1 (c_Mo_enlargement l D cI cZ cT h_M q_M c_s c_past c_kept c_isKept c_pasts c_text c_typed c_rect c_item c_items c_itemLevel c_treated c_from c_group c_turn c_size c_old c_aside c_begin c_level c_asides c_sorted c_spot c_rectangles c_parts c_visited 8 x4 H.size (r_7, c_rect_8) e_9) (cwV 2 hts (zgV wm934 wm936 wm43 wm89 wm937) rfl rfl rfl (by decide +kernel) ⟨Nat.le_of_ble_eq_true rfl, Nat.le_of_ble_eq_true rfl⟩) ⟨zP.blind, va_recv hK (z_subP (ws' := (zMo cI cZ (h_M) (q_M) (c_s) (c_past) (c_kept) (c_isKept) (c_pasts) (c_text) (c_typed) (c_rect) (c_item) (c_items) (c_itemLevel) (c_treated) (c_from) (c_group) (c_turn) (c_size) (c_old) (c_aside) (c_begin) (c_level) (c_asides) (c_sorted) (c_spot) (c_rectangles) (c_parts) (c_visited))) hP [0, 1, 2, 3, 4, 5, 6, 7, 8, 9, 10, 11, 12, 13, 14, 15, 16, 17, 18] rfl) (ci := 7) (q0 := 0) rfl rfl, zP.enter (z_subP (ws' := (zMo cI cZ (h_M) (q_M) (c_s) (c_past) (c_kept) (c_isKept) (c_pasts) (c_text) (c_typed) (c_rect) (c_item) (c_items) (c_itemLevel) (c_treated) (c_from) (c_group) (c_turn) (c_size) (c_old) (c_aside) (c_begin) (c_level) (c_asides) (c_sorted) (c_spot) (c_rectangles) (c_parts) (c_visited))) hP [0, 1, 2, 3, 4, 5, 6, 7, 8, 9, 10, 11, 12, 13, 14, 15, 16, 17, 18] rfl) hK (hD.sub [0, 1, 2, 3, 4, 5, 6, 7, 8, 9, 10, 11, 12, 13, 14, 15, 16, 17, 18] (by decide) rfl) hN⟩ rfl rfl hl.1 rfl (lv_room (Nat.le_of_ble_eq_true rfl)) dX7_nextEntry_29 ⟨Nat.le_refl _, Nat.le_refl _⟩) hP hD hS hA [0, 1, 2, 3, 4, 5, 6, 7, 8, 9, 10, 11, 12, 13, 14, 15, 16, 17, 18] [] [0, 1, 2, 3, 4, 5, 6, 7, 8, 9, 10, 11, 12, 13, 14, 15, 16, 17, 18] rfl rfl (by decide) (fun _ => rfl) (fun u_10 H locs hP hD hS hz => ?_)
        refine lv_aload_n hx hb dX7_nextEntry_32 rfl (lv_at hl 0 rfl) ?_
        refine lv_bipush (v := Int32.ofInt 9) hx hb dX7_nextEntry_33 (by decide +kernel) ?_
        refine lv_iload hx hb dX7_nextEntry_35 (lv_at hl 4 rfl) ?_
        obtain ⟨r_11, c_rect_12, e_13, h⟩ := bd2_e h
        refine z_goi (ws' := []) (ret := r_11) (wc := (zMo cI cZ (h_M) (q_M) (c_s) (c_past) (c_kept) (c_isKept) (c_pasts) (c_text) (c_typed) (c_rect_8) (c_item) (c_items) (c_itemLevel) (c_treated) (c_from) (c_group) (c_turn) (c_size) (c_old) (c_aside) (c_begin) (c_level) (c_asides) (c_sorted) (c_spot) (c_rectangles) (c_parts) (c_visited))) (wn := fun u_14 => (zMo cI cZ h_M q_M c_s c_past c_kept c_isKept c_pasts c_text c_typed c_rect_12 c_item c_items c_itemLevel c_treated c_from c_group c_turn c_size c_old c_aside c_begin c_level c_asides c_sorted c_spot c_rectangles c_parts c_visited)) (wr := []) (va_runV (As := [vI 9, vI x4]) (rest := [vI r_7]) hF.1 (c_Mo_enlargement l D cI cZ cT h_M q_M c_s c_past c_kept c_isKept c_pasts c_text c_typed c_rect_8 c_item c_items c_itemLevel c_treated c_from c_group c_turn c_size c_old c_aside c_begin c_level c_asides c_sorted c_spot c_rectangles c_parts c_visited 9 x4 H.size (r_11, c_rect_12) e_13) (cwV 2 hts (zgV wm934 wm936 wm43 wm89 wm937) rfl rfl rfl (by decide +kernel) ⟨Nat.le_of_ble_eq_true rfl, Nat.le_of_ble_eq_true rfl⟩) ⟨zP.blind, va_recv hK (z_subP (ws' := (zMo cI cZ (h_M) (q_M) (c_s) (c_past) (c_kept) (c_isKept) (c_pasts) (c_text) (c_typed) (c_rect_8) (c_item) (c_items) (c_itemLevel) (c_treated) (c_from) (c_group) (c_turn) (c_size) (c_old) (c_aside) (c_begin) (c_level) (c_asides) (c_sorted) (c_spot) (c_rectangles) (c_parts) (c_visited))) hP [0, 1, 2, 3, 4, 5, 6, 7, 8, 9, 10, 11, 12, 13, 14, 15, 16, 17, 18] rfl) (ci := 7) (q0 := 0) rfl rfl, zP.enter (z_subP (ws' := (zMo cI cZ (h_M) (q_M) (c_s) (c_past) (c_kept) (c_isKept) (c_pasts) (c_text) (c_typed) (c_rect_8) (c_item) (c_items) (c_itemLevel) (c_treated) (c_from) (c_group) (c_turn) (c_size) (c_old) (c_aside) (c_begin) (c_level) (c_asides) (c_sorted) (c_spot) (c_rectangles) (c_parts) (c_visited))) hP [0, 1, 2, 3, 4, 5, 6, 7, 8, 9, 10, 11, 12, 13, 14, 15, 16, 17, 18] rfl) hK (hD.sub [0, 1, 2, 3, 4, 5, 6, 7, 8, 9, 10, 11, 12, 13, 14, 15, 16, 17, 18] (by decide) rfl) hN⟩ rfl rfl hl.1 rfl (lv_room (Nat.le_of_ble_eq_true rfl)) dX7_nextEntry_37 ⟨Nat.le_refl _, Nat.le_refl _⟩) hP hD hS hA [0, 1, 2, 3, 4, 5, 6, 7, 8, 9, 10, 11, 12, 13, 14, 15, 16, 17, 18] [] [0, 1, 2, 3, 4, 5, 6, 7, 8, 9, 10, 11, 12, 13, 14, 15, 16, 17, 18] rfl rfl (by decide) (fun _ => rfl) (fun u_14 H locs hP hD hS hz => ?_)
        refine z_isub hx hb dX7_nextEntry_40 ?_
        refine lv_istore (lv' := [(5, vI (r_7 - r_11)), (0, .ref h_M), (1, vI x1), (2, vI x2), (3, vI x3), (4, vI x4)]) hx hb dX7_nextEntry_41 hl (by decide) rfl (fun ls hl => ?_)
        refine lv_iload hx hb dX7_nextEntry_43 (lv_at hl 0 rfl) ?_
        obtain ⟨g_15, h⟩ := gd_e h
        refine z_if_ge (tgt := 54) hx hb g_15 dX7_nextEntry_45 (by decide) (fun b_16 => ?_) (fun b_16 => ?_)
        · have h := it_n b_16 h
          refine lv_iload hx hb dX7_nextEntry_54 (lv_at hl 0 rfl) ?_
          refine lv_istore (lv' := [(6, vI (r_7 - r_11)), (5, vI (r_7 - r_11)), (0, .ref h_M), (1, vI x1), (2, vI x2), (3, vI x3), (4, vI x4)]) hx hb dX7_nextEntry_56 hl (by decide) rfl (fun ls hl => ?_)
          refine lv_iload_n hx hb dX7_nextEntry_58 rfl (lv_at hl 4 rfl) ?_
          obtain ⟨g_17, h⟩ := gd_e h
          refine z_if_lt (tgt := 68) hx hb g_17 dX7_nextEntry_59 (by decide) (fun b_18 => ?_) (fun b_18 => ?_)
          · have h := it_p b_18 h
            refine lv_iload hx hb dX7_nextEntry_68 (lv_at hl 6 rfl) ?_
            refine lv_goto (tgt := 74) hx hb dX7_nextEntry_70 (by decide) ?_
            refine lv_istore_n (lv' := [(2, vI x4), (6, vI (r_7 - r_11)), (5, vI (r_7 - r_11)), (0, .ref h_M), (1, vI x1), (3, vI x3), (4, vI x4)]) hx hb dX7_nextEntry_74 rfl hl (by decide) rfl (fun ls hl => ?_)
            refine lv_iload hx hb dX7_nextEntry_75 (lv_at hl 1 rfl) ?_
            refine lv_iload_n hx hb dX7_nextEntry_77 rfl (lv_at hl 5 rfl) ?_
            obtain ⟨g_19, h⟩ := gd_e h
            refine z_icmp_le (tgt := 86) hx hb g_15 g_19 dX7_nextEntry_78 (by decide) (fun b_20 => ?_) (fun b_20 => ?_)
            · have h := it_n b_20 h
              refine lv_iload_n hx hb dX7_nextEntry_86 rfl (lv_at hl 5 rfl) ?_
              refine lv_istore_n (lv' := [(3, vI x3), (2, vI x4), (6, vI (r_7 - r_11)), (5, vI (r_7 - r_11)), (0, .ref h_M), (1, vI x1), (4, vI x4)]) hx hb dX7_nextEntry_87 rfl hl (by decide) rfl (fun ls hl => ?_)
              refine lv_iinc (v := Int32.ofInt (x4 + 1)) (lv' := [(4, vI (x4 + 1)), (3, vI x3), (2, vI x4), (6, vI (r_7 - r_11)), (5, vI (r_7 - r_11)), (0, .ref h_M), (1, vI x1)]) hx hb dX7_nextEntry_88 hl (k := 6) rfl (z_inc _ _) (by decide) rfl (fun ls hl => ?_)
              refine lv_goto (tgt := 8) hx hb dX7_nextEntry_91 (by decide) ?_
              exact ih (x4) (x3) ((x4 + 1)) (c_rect_12) H locs ls h hP hD hS (lv_sub hl [5, 6, 2, 1, 0] rfl)
            · have h := it_p b_20 h
              refine lv_iload hx hb dX7_nextEntry_81 (lv_at hl 1 rfl) ?_
              refine lv_goto (tgt := 87) hx hb dX7_nextEntry_83 (by decide) ?_
              refine lv_istore_n (lv' := [(3, vI (r_7 - r_11)), (2, vI x4), (6, vI (r_7 - r_11)), (5, vI (r_7 - r_11)), (0, .ref h_M), (1, vI x1), (4, vI x4)]) hx hb dX7_nextEntry_87 rfl hl (by decide) rfl (fun ls hl => ?_)
              refine lv_iinc (v := Int32.ofInt (x4 + 1)) (lv' := [(4, vI (x4 + 1)), (3, vI (r_7 - r_11)), (2, vI x4), (6, vI (r_7 - r_11)), (5, vI (r_7 - r_11)), (0, .ref h_M), (1, vI x1)]) hx hb dX7_nextEntry_88 hl (k := 6) rfl (z_inc _ _) (by decide) rfl (fun ls hl => ?_)
              refine lv_goto (tgt := 8) hx hb dX7_nextEntry_91 (by decide) ?_
              exact ih (x4) ((r_7 - r_11)) ((x4 + 1)) (c_rect_12) H locs ls h hP hD hS (lv_sub hl [5, 6, 2, 1, 0] rfl)
          · have h := it_n b_18 h
            refine lv_iload hx hb dX7_nextEntry_62 (lv_at hl 0 rfl) ?_
            refine lv_iload_n hx hb dX7_nextEntry_64 rfl (lv_at hl 5 rfl) ?_
            obtain ⟨g_21, h⟩ := gd_e h
            refine z_icmp_le (tgt := 73) hx hb g_15 g_21 dX7_nextEntry_65 (by decide) (fun b_22 => ?_) (fun b_22 => ?_)
            · have h := it_n b_22 h
              refine lv_iload_n hx hb dX7_nextEntry_73 rfl (lv_at hl 4 rfl) ?_
              refine lv_istore_n (lv' := [(2, vI x2), (6, vI (r_7 - r_11)), (5, vI (r_7 - r_11)), (0, .ref h_M), (1, vI x1), (3, vI x3), (4, vI x4)]) hx hb dX7_nextEntry_74 rfl hl (by decide) rfl (fun ls hl => ?_)
              refine lv_iload hx hb dX7_nextEntry_75 (lv_at hl 1 rfl) ?_
              refine lv_iload_n hx hb dX7_nextEntry_77 rfl (lv_at hl 5 rfl) ?_
              refine z_icmp_le (tgt := 86) hx hb g_15 g_21 dX7_nextEntry_78 (by decide) (fun b_23 => ?_) (fun b_23 => ?_)
              · have h := it_n b_23 h
                refine lv_iload_n hx hb dX7_nextEntry_86 rfl (lv_at hl 5 rfl) ?_
                refine lv_istore_n (lv' := [(3, vI x3), (2, vI x2), (6, vI (r_7 - r_11)), (5, vI (r_7 - r_11)), (0, .ref h_M), (1, vI x1), (4, vI x4)]) hx hb dX7_nextEntry_87 rfl hl (by decide) rfl (fun ls hl => ?_)
                refine lv_iinc (v := Int32.ofInt (x4 + 1)) (lv' := [(4, vI (x4 + 1)), (3, vI x3), (2, vI x2), (6, vI (r_7 - r_11)), (5, vI (r_7 - r_11)), (0, .ref h_M), (1, vI x1)]) hx hb dX7_nextEntry_88 hl (k := 6) rfl (z_inc _ _) (by decide) rfl (fun ls hl => ?_)
                refine lv_goto (tgt := 8) hx hb dX7_nextEntry_91 (by decide) ?_
                exact ih (x2) (x3) ((x4 + 1)) (c_rect_12) H locs ls h hP hD hS (lv_sub hl [5, 6, 2, 1, 0] rfl)
              · have h := it_p b_23 h
                refine lv_iload hx hb dX7_nextEntry_81 (lv_at hl 1 rfl) ?_
                refine lv_goto (tgt := 87) hx hb dX7_nextEntry_83 (by decide) ?_
                refine lv_istore_n (lv' := [(3, vI (r_7 - r_11)), (2, vI x2), (6, vI (r_7 - r_11)), (5, vI (r_7 - r_11)), (0, .ref h_M), (1, vI x1), (4, vI x4)]) hx hb dX7_nextEntry_87 rfl hl (by decide) rfl (fun ls hl => ?_)
                refine lv_iinc (v := Int32.ofInt (x4 + 1)) (lv' := [(4, vI (x4 + 1)), (3, vI (r_7 - r_11)), (2, vI x2), (6, vI (r_7 - r_11)), (5, vI (r_7 - r_11)), (0, .ref h_M), (1, vI x1)]) hx hb dX7_nextEntry_88 hl (k := 6) rfl (z_inc _ _) (by decide) rfl (fun ls hl => ?_)
                refine lv_goto (tgt := 8) hx hb dX7_nextEntry_91 (by decide) ?_
                exact ih (x2) ((r_7 - r_11)) ((x4 + 1)) (c_rect_12) H locs ls h hP hD hS (lv_sub hl [5, 6, 2, 1, 0] rfl)
            · have h := it_p b_22 h
              refine lv_iload hx hb dX7_nextEntry_68 (lv_at hl 6 rfl) ?_
              refine lv_goto (tgt := 74) hx hb dX7_nextEntry_70 (by decide) ?_
              refine lv_istore_n (lv' := [(2, vI x4), (6, vI (r_7 - r_11)), (5, vI (r_7 - r_11)), (0, .ref h_M), (1, vI x1), (3, vI x3), (4, vI x4)]) hx hb dX7_nextEntry_74 rfl hl (by decide) rfl (fun ls hl => ?_)
              refine lv_iload hx hb dX7_nextEntry_75 (lv_at hl 1 rfl) ?_
              refine lv_iload_n hx hb dX7_nextEntry_77 rfl (lv_at hl 5 rfl) ?_
              refine z_icmp_le (tgt := 86) hx hb g_15 g_21 dX7_nextEntry_78 (by decide) (fun b_24 => ?_) (fun b_24 => ?_)
              · have h := it_n b_24 h
                refine lv_iload_n hx hb dX7_nextEntry_86 rfl (lv_at hl 5 rfl) ?_
                refine lv_istore_n (lv' := [(3, vI x3), (2, vI x4), (6, vI (r_7 - r_11)), (5, vI (r_7 - r_11)), (0, .ref h_M), (1, vI x1), (4, vI x4)]) hx hb dX7_nextEntry_87 rfl hl (by decide) rfl (fun ls hl => ?_)
                refine lv_iinc (v := Int32.ofInt (x4 + 1)) (lv' := [(4, vI (x4 + 1)), (3, vI x3), (2, vI x4), (6, vI (r_7 - r_11)), (5, vI (r_7 - r_11)), (0, .ref h_M), (1, vI x1)]) hx hb dX7_nextEntry_88 hl (k := 6) rfl (z_inc _ _) (by decide) rfl (fun ls hl => ?_)
                refine lv_goto (tgt := 8) hx hb dX7_nextEntry_91 (by decide) ?_
                exact ih (x4) (x3) ((x4 + 1)) (c_rect_12) H locs ls h hP hD hS (lv_sub hl [5, 6, 2, 1, 0] rfl)
              · have h := it_p b_24 h
                refine lv_iload hx hb dX7_nextEntry_81 (lv_at hl 1 rfl) ?_
                refine lv_goto (tgt := 87) hx hb dX7_nextEntry_83 (by decide) ?_
                refine lv_istore_n (lv' := [(3, vI (r_7 - r_11)), (2, vI x4), (6, vI (r_7 - r_11)), (5, vI (r_7 - r_11)), (0, .ref h_M), (1, vI x1), (4, vI x4)]) hx hb dX7_nextEntry_87 rfl hl (by decide) rfl (fun ls hl => ?_)
                refine lv_iinc (v := Int32.ofInt (x4 + 1)) (lv' := [(4, vI (x4 + 1)), (3, vI (r_7 - r_11)), (2, vI x4), (6, vI (r_7 - r_11)), (5, vI (r_7 - r_11)), (0, .ref h_M), (1, vI x1)]) hx hb dX7_nextEntry_88 hl (k := 6) rfl (z_inc _ _) (by decide) rfl (fun ls hl => ?_)
                refine lv_goto (tgt := 8) hx hb dX7_nextEntry_91 (by decide) ?_
                exact ih (x4) ((r_7 - r_11)) ((x4 + 1)) (c_rect_12) H locs ls h hP hD hS (lv_sub hl [5, 6, 2, 1, 0] rfl)
        · have h := it_p b_16 h
          refine lv_iload hx hb dX7_nextEntry_48 (lv_at hl 0 rfl) ?_
          refine z_ineg hx hb dX7_nextEntry_50 ?_
          refine lv_goto (tgt := 56) hx hb dX7_nextEntry_51 (by decide) ?_
          refine lv_istore (lv' := [(6, vI (-(r_7 - r_11))), (5, vI (r_7 - r_11)), (0, .ref h_M), (1, vI x1), (2, vI x2), (3, vI x3), (4, vI x4)]) hx hb dX7_nextEntry_56 hl (by decide) rfl (fun ls hl => ?_)
          refine lv_iload_n hx hb dX7_nextEntry_58 rfl (lv_at hl 4 rfl) ?_
          obtain ⟨g_25, h⟩ := gd_e h
          refine z_if_lt (tgt := 68) hx hb g_25 dX7_nextEntry_59 (by decide) (fun b_26 => ?_) (fun b_26 => ?_)
          · have h := it_p b_26 h
            refine lv_iload hx hb dX7_nextEntry_68 (lv_at hl 6 rfl) ?_
            refine lv_goto (tgt := 74) hx hb dX7_nextEntry_70 (by decide) ?_
            refine lv_istore_n (lv' := [(2, vI x4), (6, vI (-(r_7 - r_11))), (5, vI (r_7 - r_11)), (0, .ref h_M), (1, vI x1), (3, vI x3), (4, vI x4)]) hx hb dX7_nextEntry_74 rfl hl (by decide) rfl (fun ls hl => ?_)
            refine lv_iload hx hb dX7_nextEntry_75 (lv_at hl 1 rfl) ?_
            refine lv_iload_n hx hb dX7_nextEntry_77 rfl (lv_at hl 5 rfl) ?_
            obtain ⟨g_27, h⟩ := gd_e h
            obtain ⟨g_28, h⟩ := gd_e h
            refine z_icmp_le (tgt := 86) hx hb g_27 g_28 dX7_nextEntry_78 (by decide) (fun b_29 => ?_) (fun b_29 => ?_)
            · have h := it_n b_29 h
              refine lv_iload_n hx hb dX7_nextEntry_86 rfl (lv_at hl 5 rfl) ?_
              refine lv_istore_n (lv' := [(3, vI x3), (2, vI x4), (6, vI (-(r_7 - r_11))), (5, vI (r_7 - r_11)), (0, .ref h_M), (1, vI x1), (4, vI x4)]) hx hb dX7_nextEntry_87 rfl hl (by decide) rfl (fun ls hl => ?_)
              refine lv_iinc (v := Int32.ofInt (x4 + 1)) (lv' := [(4, vI (x4 + 1)), (3, vI x3), (2, vI x4), (6, vI (-(r_7 - r_11))), (5, vI (r_7 - r_11)), (0, .ref h_M), (1, vI x1)]) hx hb dX7_nextEntry_88 hl (k := 6) rfl (z_inc _ _) (by decide) rfl (fun ls hl => ?_)
              refine lv_goto (tgt := 8) hx hb dX7_nextEntry_91 (by decide) ?_
              exact ih (x4) (x3) ((x4 + 1)) (c_rect_12) H locs ls h hP hD hS (lv_sub hl [5, 6, 2, 1, 0] rfl)
            · have h := it_p b_29 h
              refine lv_iload hx hb dX7_nextEntry_81 (lv_at hl 1 rfl) ?_
              refine lv_goto (tgt := 87) hx hb dX7_nextEntry_83 (by decide) ?_
              refine lv_istore_n (lv' := [(3, vI (-(r_7 - r_11))), (2, vI x4), (6, vI (-(r_7 - r_11))), (5, vI (r_7 - r_11)), (0, .ref h_M), (1, vI x1), (4, vI x4)]) hx hb dX7_nextEntry_87 rfl hl (by decide) rfl (fun ls hl => ?_)
              refine lv_iinc (v := Int32.ofInt (x4 + 1)) (lv' := [(4, vI (x4 + 1)), (3, vI (-(r_7 - r_11))), (2, vI x4), (6, vI (-(r_7 - r_11))), (5, vI (r_7 - r_11)), (0, .ref h_M), (1, vI x1)]) hx hb dX7_nextEntry_88 hl (k := 6) rfl (z_inc _ _) (by decide) rfl (fun ls hl => ?_)
              refine lv_goto (tgt := 8) hx hb dX7_nextEntry_91 (by decide) ?_
              exact ih (x4) ((-(r_7 - r_11))) ((x4 + 1)) (c_rect_12) H locs ls h hP hD hS (lv_sub hl [5, 6, 2, 1, 0] rfl)
          · have h := it_n b_26 h
            refine lv_iload hx hb dX7_nextEntry_62 (lv_at hl 0 rfl) ?_
            refine lv_iload_n hx hb dX7_nextEntry_64 rfl (lv_at hl 5 rfl) ?_
            obtain ⟨g_30, h⟩ := gd_e h
            obtain ⟨g_31, h⟩ := gd_e h
            refine z_icmp_le (tgt := 73) hx hb g_30 g_31 dX7_nextEntry_65 (by decide) (fun b_32 => ?_) (fun b_32 => ?_)
            · have h := it_n b_32 h
              refine lv_iload_n hx hb dX7_nextEntry_73 rfl (lv_at hl 4 rfl) ?_
              refine lv_istore_n (lv' := [(2, vI x2), (6, vI (-(r_7 - r_11))), (5, vI (r_7 - r_11)), (0, .ref h_M), (1, vI x1), (3, vI x3), (4, vI x4)]) hx hb dX7_nextEntry_74 rfl hl (by decide) rfl (fun ls hl => ?_)
              refine lv_iload hx hb dX7_nextEntry_75 (lv_at hl 1 rfl) ?_
              refine lv_iload_n hx hb dX7_nextEntry_77 rfl (lv_at hl 5 rfl) ?_
              refine z_icmp_le (tgt := 86) hx hb g_30 g_31 dX7_nextEntry_78 (by decide) (fun b_33 => ?_) (fun b_33 => ?_)
              · have h := it_n b_33 h
                refine lv_iload_n hx hb dX7_nextEntry_86 rfl (lv_at hl 5 rfl) ?_
                refine lv_istore_n (lv' := [(3, vI x3), (2, vI x2), (6, vI (-(r_7 - r_11))), (5, vI (r_7 - r_11)), (0, .ref h_M), (1, vI x1), (4, vI x4)]) hx hb dX7_nextEntry_87 rfl hl (by decide) rfl (fun ls hl => ?_)
                refine lv_iinc (v := Int32.ofInt (x4 + 1)) (lv' := [(4, vI (x4 + 1)), (3, vI x3), (2, vI x2), (6, vI (-(r_7 - r_11))), (5, vI (r_7 - r_11)), (0, .ref h_M), (1, vI x1)]) hx hb dX7_nextEntry_88 hl (k := 6) rfl (z_inc _ _) (by decide) rfl (fun ls hl => ?_)
                refine lv_goto (tgt := 8) hx hb dX7_nextEntry_91 (by decide) ?_
                exact ih (x2) (x3) ((x4 + 1)) (c_rect_12) H locs ls h hP hD hS (lv_sub hl [5, 6, 2, 1, 0] rfl)
              · have h := it_p b_33 h
                refine lv_iload hx hb dX7_nextEntry_81 (lv_at hl 1 rfl) ?_
                refine lv_goto (tgt := 87) hx hb dX7_nextEntry_83 (by decide) ?_
                refine lv_istore_n (lv' := [(3, vI (-(r_7 - r_11))), (2, vI x2), (6, vI (-(r_7 - r_11))), (5, vI (r_7 - r_11)), (0, .ref h_M), (1, vI x1), (4, vI x4)]) hx hb dX7_nextEntry_87 rfl hl (by decide) rfl (fun ls hl => ?_)
                refine lv_iinc (v := Int32.ofInt (x4 + 1)) (lv' := [(4, vI (x4 + 1)), (3, vI (-(r_7 - r_11))), (2, vI x2), (6, vI (-(r_7 - r_11))), (5, vI (r_7 - r_11)), (0, .ref h_M), (1, vI x1)]) hx hb dX7_nextEntry_88 hl (k := 6) rfl (z_inc _ _) (by decide) rfl (fun ls hl => ?_)
                refine lv_goto (tgt := 8) hx hb dX7_nextEntry_91 (by decide) ?_
                exact ih (x2) ((-(r_7 - r_11))) ((x4 + 1)) (c_rect_12) H locs ls h hP hD hS (lv_sub hl [5, 6, 2, 1, 0] rfl)
            · have h := it_p b_32 h
              refine lv_iload hx hb dX7_nextEntry_68 (lv_at hl 6 rfl) ?_
              refine lv_goto (tgt := 74) hx hb dX7_nextEntry_70 (by decide) ?_
              refine lv_istore_n (lv' := [(2, vI x4), (6, vI (-(r_7 - r_11))), (5, vI (r_7 - r_11)), (0, .ref h_M), (1, vI x1), (3, vI x3), (4, vI x4)]) hx hb dX7_nextEntry_74 rfl hl (by decide) rfl (fun ls hl => ?_)
              refine lv_iload hx hb dX7_nextEntry_75 (lv_at hl 1 rfl) ?_
              refine lv_iload_n hx hb dX7_nextEntry_77 rfl (lv_at hl 5 rfl) ?_
              refine z_icmp_le (tgt := 86) hx hb g_30 g_31 dX7_nextEntry_78 (by decide) (fun b_34 => ?_) (fun b_34 => ?_)
              · have h := it_n b_34 h
                refine lv_iload_n hx hb dX7_nextEntry_86 rfl (lv_at hl 5 rfl) ?_
                refine lv_istore_n (lv' := [(3, vI x3), (2, vI x4), (6, vI (-(r_7 - r_11))), (5, vI (r_7 - r_11)), (0, .ref h_M), (1, vI x1), (4, vI x4)]) hx hb dX7_nextEntry_87 rfl hl (by decide) rfl (fun ls hl => ?_)
                refine lv_iinc (v := Int32.ofInt (x4 + 1)) (lv' := [(4, vI (x4 + 1)), (3, vI x3), (2, vI x4), (6, vI (-(r_7 - r_11))), (5, vI (r_7 - r_11)), (0, .ref h_M), (1, vI x1)]) hx hb dX7_nextEntry_88 hl (k := 6) rfl (z_inc _ _) (by decide) rfl (fun ls hl => ?_)
                refine lv_goto (tgt := 8) hx hb dX7_nextEntry_91 (by decide) ?_
                exact ih (x4) (x3) ((x4 + 1)) (c_rect_12) H locs ls h hP hD hS (lv_sub hl [5, 6, 2, 1, 0] rfl)
              · have h := it_p b_34 h
                refine lv_iload hx hb dX7_nextEntry_81 (lv_at hl 1 rfl) ?_
                refine lv_goto (tgt := 87) hx hb dX7_nextEntry_83 (by decide) ?_
                refine lv_istore_n (lv' := [(3, vI (-(r_7 - r_11))), (2, vI x4), (6, vI (-(r_7 - r_11))), (5, vI (r_7 - r_11)), (0, .ref h_M), (1, vI x1), (4, vI x4)]) hx hb dX7_nextEntry_87 rfl hl (by decide) rfl (fun ls hl => ?_)
                refine lv_iinc (v := Int32.ofInt (x4 + 1)) (lv' := [(4, vI (x4 + 1)), (3, vI (-(r_7 - r_11))), (2, vI x4), (6, vI (-(r_7 - r_11))), (5, vI (r_7 - r_11)), (0, .ref h_M), (1, vI x1)]) hx hb dX7_nextEntry_88 hl (k := 6) rfl (z_inc _ _) (by decide) rfl (fun ls hl => ?_)
                refine lv_goto (tgt := 8) hx hb dX7_nextEntry_91 (by decide) ?_
                exact ih (x4) ((-(r_7 - r_11))) ((x4 + 1)) (c_rect_12) H locs ls h hP hD hS (lv_sub hl [5, 6, 2, 1, 0] rfl)
set_option maxHeartbeats 4000000 in
set_option maxRecDepth 100000 in
theorem c_Mo_nextEntry (l : Launch) (D : va_G) (cI cZ cT : ClassId) (h_M : Nat) (q_M : Nat → Nat) (c_s : Nat → Int) (c_past : Nat → Int) (c_kept : Nat → Int) (c_isKept : Int) (c_pasts : Int) (c_text : Nat → Int) (c_typed : Int) (c_rect : Nat → Int) (c_item : Nat → Int) (c_items : Int) (c_itemLevel : Int) (c_treated : Nat → Int) (c_from : Nat → Int) (c_group : Nat → Int) (c_turn : Nat → Int) (c_size : Nat → Int) (c_old : Nat → Int) (c_aside : Nat → Int) (c_begin : Nat → Int) (c_level : Nat → Int) (c_asides : Int) (c_sorted : Nat → Int) (c_spot : Int) (c_rectangles : Int) (c_parts : Nat → Int) (c_visited : Nat → Int) (x1 : Int) (sz : Nat) (res : Int × (Nat → Int)) (h : f_Mo_nextEntry c_rect c_group x1 = some res) : zMi l yX7_nextEntry cX7_nextEntry 7 rm_Mo_nextEntry D (zt cI cZ cT) [.ref h_M, vI x1] ((zMo cI cZ h_M q_M c_s c_past c_kept c_isKept c_pasts c_text c_typed c_rect c_item c_items c_itemLevel c_treated c_from c_group c_turn c_size c_old c_aside c_begin c_level c_asides c_sorted c_spot c_rectangles c_parts c_visited)) sz (res.1) (fun u => (zMo cI cZ h_M q_M c_s c_past c_kept c_isKept c_pasts c_text c_typed (res.2) c_item c_items c_itemLevel c_treated c_from c_group c_turn c_size c_old c_aside c_begin c_level c_asides c_sorted c_spot c_rectangles c_parts c_visited)) 0 0 := by
  refine z_enth (Qc := zQi D (res.1) (fun u => (zMo cI cZ h_M q_M c_s c_past c_kept c_isKept c_pasts c_text c_typed (res.2) c_item c_items c_itemLevel c_treated c_from c_group c_turn c_size c_old c_aside c_begin c_level c_asides c_sorted c_spot c_rectangles c_parts c_visited))) (by decide) (Nat.le_of_ble_eq_true rfl) (fun p e s m args below meth c A ls H locs hF hP hD hS hl => ?_)
  have hx := hF.1.1
  have hb := hF.1.2.1
  have hml := hF.1.2.2.1
  have hown : s.vm.findClass "RectangleTreeModel" = some m.cls := hF.1.2.2.2.1
  have hts := hF.1.2.2.2.2
  have hr := hF.2.1
  have hlk := hF.2.2.1
  have hK := hF.2.2.2.2.1
  have hN := hF.2.2.2.2.2.1
  have hA := hF.2.2.2.2.2.2
  unfold f_Mo_nextEntry at h
  refine lv_bipush (v := Int32.ofInt (-5)) hx hb dX7_nextEntry_0 (by decide +kernel) ?_
  refine lv_istore_n (lv' := [(2, vI (-5)), (0, .ref h_M), (1, vI x1)]) hx hb dX7_nextEntry_2 rfl hl (by decide) rfl (fun ls hl => ?_)
  refine lv_iconst (v := Int32.ofInt 0) hx hb dX7_nextEntry_3 rfl ?_
  refine lv_istore_n (lv' := [(3, vI 0), (2, vI (-5)), (0, .ref h_M), (1, vI x1)]) hx hb dX7_nextEntry_4 rfl hl (by decide) rfl (fun ls hl => ?_)
  refine lv_iconst (v := Int32.ofInt 0) hx hb dX7_nextEntry_5 rfl ?_
  refine lv_istore (lv' := [(4, vI 0), (3, vI 0), (2, vI (-5)), (0, .ref h_M), (1, vI x1)]) hx hb dX7_nextEntry_6 hl (by decide) rfl (fun ls hl => ?_)
  refine w_Mo_nextEntry_L8 D cI cZ cT (h_M) (q_M) (c_s) (c_past) (c_kept) (c_isKept) (c_pasts) (c_text) (c_typed) (c_item) (c_items) (c_itemLevel) (c_treated) (c_from) (c_group) (c_turn) (c_size) (c_old) (c_aside) (c_begin) (c_level) (c_asides) (c_sorted) (c_spot) (c_rectangles) (c_parts) (c_visited) (x1) _ _ hF (fun x2_35 x3_36 x4_37 c_rect_38 H locs ls h hP hD hS hl => ?_) _ ((-5)) (0) (0) (c_rect) _ _ _ h hP hD hS (lv_sub hl [3, 4, 2, 1, 0] rfl)
  refine lv_iload_n hx hb dX7_nextEntry_94 rfl (lv_at hl 0 rfl) ?_
  obtain rfl := Option.some.inj h
  exact z_iret hx hb hr hlk (fun _ _ => 0) hP hD hS dX7_nextEntry_95
def f_Mo_preferred (c_rect : Nat → Int) (c_size : Nat → Int) (x1 : Int) : Option (Int × (Nat → Int)) :=
  bd2 (f_Mo_enlargement c_rect 8 x1) <| fun r_1 c_rect_2 => bd2 (f_Mo_enlargement c_rect_2 9 x1) <| fun r_5 c_rect_6 => gd (ck (r_1 - r_5)) <| if (r_1 - r_5) = 0 then (bd1 (f_Mo_areaOf c_rect_6 8) <| fun r_15 => bd1 (f_Mo_areaOf c_rect_6 9) <| fun r_18 => gd (ck (r_15 - r_18)) <| if (r_15 - r_18) = 0 then (gd (ck ((c_size 0) - (c_size 1))) <| if 0 < ((c_size 0) - (c_size 1)) then (some (1, c_rect_6)) else (some (0, c_rect_6))) else (if 0 < (r_15 - r_18) then (some (1, c_rect_6)) else (some (0, c_rect_6)))) else (if (r_1 - r_5) = 0 then (gd (ck ((c_size 0) - (c_size 1))) <| if 0 < ((c_size 0) - (c_size 1)) then (some (1, c_rect_6)) else (some (0, c_rect_6))) else (if 0 < (r_1 - r_5) then (some (1, c_rect_6)) else (some (0, c_rect_6))))
abbrev rm_Mo_preferred : Room := ({ frames := 3, cells := 0, slots := 0, locals := 73 } : Room)
set_option maxHeartbeats 4000000 in
set_option maxRecDepth 100000 in
theorem c_Mo_preferred (l : Launch) (D : va_G) (cI cZ cT : ClassId) (h_M : Nat) (q_M : Nat → Nat) (c_s : Nat → Int) (c_past : Nat → Int) (c_kept : Nat → Int) (c_isKept : Int) (c_pasts : Int) (c_text : Nat → Int) (c_typed : Int) (c_rect : Nat → Int) (c_item : Nat → Int) (c_items : Int) (c_itemLevel : Int) (c_treated : Nat → Int) (c_from : Nat → Int) (c_group : Nat → Int) (c_turn : Nat → Int) (c_size : Nat → Int) (c_old : Nat → Int) (c_aside : Nat → Int) (c_begin : Nat → Int) (c_level : Nat → Int) (c_asides : Int) (c_sorted : Nat → Int) (c_spot : Int) (c_rectangles : Int) (c_parts : Nat → Int) (c_visited : Nat → Int) (x1 : Int) (sz : Nat) (res : Int × (Nat → Int)) (h : f_Mo_preferred c_rect c_size x1 = some res) : zMi l yX7_preferred cX7_preferred 3 rm_Mo_preferred D (zt cI cZ cT) [.ref h_M, vI x1] ((zMo cI cZ h_M q_M c_s c_past c_kept c_isKept c_pasts c_text c_typed c_rect c_item c_items c_itemLevel c_treated c_from c_group c_turn c_size c_old c_aside c_begin c_level c_asides c_sorted c_spot c_rectangles c_parts c_visited)) sz (res.1) (fun u => (zMo cI cZ h_M q_M c_s c_past c_kept c_isKept c_pasts c_text c_typed (res.2) c_item c_items c_itemLevel c_treated c_from c_group c_turn c_size c_old c_aside c_begin c_level c_asides c_sorted c_spot c_rectangles c_parts c_visited)) 0 0 := by
  refine z_enth (Qc := zQi D (res.1) (fun u => (zMo cI cZ h_M q_M c_s c_past c_kept c_isKept c_pasts c_text c_typed (res.2) c_item c_items c_itemLevel c_treated c_from c_group c_turn c_size c_old c_aside c_begin c_level c_asides c_sorted c_spot c_rectangles c_parts c_visited))) (by decide) (Nat.le_of_ble_eq_true rfl) (fun p e s m args below meth c A ls H locs hF hP hD hS hl => ?_)
  have hx := hF.1.1
  have hb := hF.1.2.1
  have hml := hF.1.2.2.1
  have hown : s.vm.findClass "RectangleTreeModel" = some m.cls := hF.1.2.2.2.1
  have hts := hF.1.2.2.2.2
  have hr := hF.2.1
  have hlk := hF.2.2.1
  have hK := hF.2.2.2.2.1
  have hN := hF.2.2.2.2.2.1
  have hA := hF.2.2.2.2.2.2
  unfold f_Mo_preferred at h
  refine lv_aload_n hx hb dX7_preferred_0 rfl (lv_at hl 0 rfl) ?_
  refine lv_bipush (v := Int32.ofInt 8) hx hb dX7_preferred_1 (by decide +kernel) ?_
  refine lv_iload_n hx hb dX7_preferred_3 rfl (lv_at hl 1 rfl) ?_
  obtain ⟨r_1, c_rect_2, e_3, h⟩ := bd2_e h
  refine z_goi (ws' := []) (ret := r_1) (wc := (zMo cI cZ (h_M) (q_M) (c_s) (c_past) (c_kept) (c_isKept) (c_pasts) (c_text) (c_typed) (c_rect) (c_item) (c_items) (c_itemLevel) (c_treated) (c_from) (c_group) (c_turn) (c_size) (c_old) (c_aside) (c_begin) (c_level) (c_asides) (c_sorted) (c_spot) (c_rectangles) (c_parts) (c_visited))) (wn := fun u_4 => (zMo cI cZ h_M q_M c_s c_past c_kept c_isKept c_pasts c_text c_typed c_rect_2 c_item c_items c_itemLevel c_treated c_from c_group c_turn c_size c_old c_aside c_begin c_level c_asides c_sorted c_spot c_rectangles c_parts c_visited)) (wr := []) (va_runV (As := [vI 8, vI x1]) (rest := []) hF.1 (c_Mo_enlargement l D cI cZ cT h_M q_M c_s c_past c_kept c_isKept c_pasts c_text c_typed c_rect c_item c_items c_itemLevel c_treated c_from c_group c_turn c_size c_old c_aside c_begin c_level c_asides c_sorted c_spot c_rectangles c_parts c_visited 8 x1 H.size (r_1, c_rect_2) e_3) (cwV 2 hts (zgV wm934 wm936 wm43 wm89 wm937) rfl rfl rfl (by decide +kernel) ⟨Nat.le_of_ble_eq_true rfl, Nat.le_of_ble_eq_true rfl⟩) ⟨zP.blind, va_recv hK (z_subP (ws' := (zMo cI cZ (h_M) (q_M) (c_s) (c_past) (c_kept) (c_isKept) (c_pasts) (c_text) (c_typed) (c_rect) (c_item) (c_items) (c_itemLevel) (c_treated) (c_from) (c_group) (c_turn) (c_size) (c_old) (c_aside) (c_begin) (c_level) (c_asides) (c_sorted) (c_spot) (c_rectangles) (c_parts) (c_visited))) hP [0, 1, 2, 3, 4, 5, 6, 7, 8, 9, 10, 11, 12, 13, 14, 15, 16, 17, 18] rfl) (ci := 7) (q0 := 0) rfl rfl, zP.enter (z_subP (ws' := (zMo cI cZ (h_M) (q_M) (c_s) (c_past) (c_kept) (c_isKept) (c_pasts) (c_text) (c_typed) (c_rect) (c_item) (c_items) (c_itemLevel) (c_treated) (c_from) (c_group) (c_turn) (c_size) (c_old) (c_aside) (c_begin) (c_level) (c_asides) (c_sorted) (c_spot) (c_rectangles) (c_parts) (c_visited))) hP [0, 1, 2, 3, 4, 5, 6, 7, 8, 9, 10, 11, 12, 13, 14, 15, 16, 17, 18] rfl) hK (hD.sub [0, 1, 2, 3, 4, 5, 6, 7, 8, 9, 10, 11, 12, 13, 14, 15, 16, 17, 18] (by decide) rfl) hN⟩ rfl rfl hl.1 rfl (lv_room (Nat.le_of_ble_eq_true rfl)) dX7_preferred_4 ⟨Nat.le_refl _, Nat.le_refl _⟩) hP hD hS hA [0, 1, 2, 3, 4, 5, 6, 7, 8, 9, 10, 11, 12, 13, 14, 15, 16, 17, 18] [] [0, 1, 2, 3, 4, 5, 6, 7, 8, 9, 10, 11, 12, 13, 14, 15, 16, 17, 18] rfl rfl (by decide) (fun _ => rfl) (fun u_4 H locs hP hD hS hz => ?_)
  refine lv_aload_n hx hb dX7_preferred_7 rfl (lv_at hl 0 rfl) ?_
  refine lv_bipush (v := Int32.ofInt 9) hx hb dX7_preferred_8 (by decide +kernel) ?_
  refine lv_iload_n hx hb dX7_preferred_10 rfl (lv_at hl 1 rfl) ?_
  obtain ⟨r_5, c_rect_6, e_7, h⟩ := bd2_e h
  refine z_goi (ws' := []) (ret := r_5) (wc := (zMo cI cZ (h_M) (q_M) (c_s) (c_past) (c_kept) (c_isKept) (c_pasts) (c_text) (c_typed) (c_rect_2) (c_item) (c_items) (c_itemLevel) (c_treated) (c_from) (c_group) (c_turn) (c_size) (c_old) (c_aside) (c_begin) (c_level) (c_asides) (c_sorted) (c_spot) (c_rectangles) (c_parts) (c_visited))) (wn := fun u_8 => (zMo cI cZ h_M q_M c_s c_past c_kept c_isKept c_pasts c_text c_typed c_rect_6 c_item c_items c_itemLevel c_treated c_from c_group c_turn c_size c_old c_aside c_begin c_level c_asides c_sorted c_spot c_rectangles c_parts c_visited)) (wr := []) (va_runV (As := [vI 9, vI x1]) (rest := [vI r_1]) hF.1 (c_Mo_enlargement l D cI cZ cT h_M q_M c_s c_past c_kept c_isKept c_pasts c_text c_typed c_rect_2 c_item c_items c_itemLevel c_treated c_from c_group c_turn c_size c_old c_aside c_begin c_level c_asides c_sorted c_spot c_rectangles c_parts c_visited 9 x1 H.size (r_5, c_rect_6) e_7) (cwV 2 hts (zgV wm934 wm936 wm43 wm89 wm937) rfl rfl rfl (by decide +kernel) ⟨Nat.le_of_ble_eq_true rfl, Nat.le_of_ble_eq_true rfl⟩) ⟨zP.blind, va_recv hK (z_subP (ws' := (zMo cI cZ (h_M) (q_M) (c_s) (c_past) (c_kept) (c_isKept) (c_pasts) (c_text) (c_typed) (c_rect_2) (c_item) (c_items) (c_itemLevel) (c_treated) (c_from) (c_group) (c_turn) (c_size) (c_old) (c_aside) (c_begin) (c_level) (c_asides) (c_sorted) (c_spot) (c_rectangles) (c_parts) (c_visited))) hP [0, 1, 2, 3, 4, 5, 6, 7, 8, 9, 10, 11, 12, 13, 14, 15, 16, 17, 18] rfl) (ci := 7) (q0 := 0) rfl rfl, zP.enter (z_subP (ws' := (zMo cI cZ (h_M) (q_M) (c_s) (c_past) (c_kept) (c_isKept) (c_pasts) (c_text) (c_typed) (c_rect_2) (c_item) (c_items) (c_itemLevel) (c_treated) (c_from) (c_group) (c_turn) (c_size) (c_old) (c_aside) (c_begin) (c_level) (c_asides) (c_sorted) (c_spot) (c_rectangles) (c_parts) (c_visited))) hP [0, 1, 2, 3, 4, 5, 6, 7, 8, 9, 10, 11, 12, 13, 14, 15, 16, 17, 18] rfl) hK (hD.sub [0, 1, 2, 3, 4, 5, 6, 7, 8, 9, 10, 11, 12, 13, 14, 15, 16, 17, 18] (by decide) rfl) hN⟩ rfl rfl hl.1 rfl (lv_room (Nat.le_of_ble_eq_true rfl)) dX7_preferred_11 ⟨Nat.le_refl _, Nat.le_refl _⟩) hP hD hS hA [0, 1, 2, 3, 4, 5, 6, 7, 8, 9, 10, 11, 12, 13, 14, 15, 16, 17, 18] [] [0, 1, 2, 3, 4, 5, 6, 7, 8, 9, 10, 11, 12, 13, 14, 15, 16, 17, 18] rfl rfl (by decide) (fun _ => rfl) (fun u_8 H locs hP hD hS hz => ?_)
  refine z_isub hx hb dX7_preferred_14 ?_
  refine lv_istore_n (lv' := [(2, vI (r_1 - r_5)), (0, .ref h_M), (1, vI x1)]) hx hb dX7_preferred_15 rfl hl (by decide) rfl (fun ls hl => ?_)
  refine lv_iload_n hx hb dX7_preferred_16 rfl (lv_at hl 0 rfl) ?_
  obtain ⟨g_9, h⟩ := gd_e h
  refine z_if_ne (tgt := 34) hx hb g_9 dX7_preferred_17 (by decide) (fun b_10 => ?_) (fun b_10 => ?_)
  · have h := it_n b_10 h
    refine lv_iload_n hx hb dX7_preferred_34 rfl (lv_at hl 0 rfl) ?_
    refine z_if_ne (tgt := 52) hx hb g_9 dX7_preferred_35 (by decide) (fun b_11 => ?_) (fun b_11 => ?_)
    · have h := it_n b_11 h
      refine lv_iload_n hx hb dX7_preferred_52 rfl (lv_at hl 0 rfl) ?_
      refine z_if_le (tgt := 60) hx hb g_9 dX7_preferred_53 (by decide) (fun b_12 => ?_) (fun b_12 => ?_)
      · have h := it_n b_12 h
        refine lv_iconst (v := Int32.ofInt 0) hx hb dX7_preferred_60 rfl ?_
        obtain rfl := Option.some.inj h
        exact z_iret hx hb hr hlk (fun _ _ => 0) hP hD hS dX7_preferred_61
      · have h := it_p b_12 h
        refine lv_iconst (v := Int32.ofInt 1) hx hb dX7_preferred_56 rfl ?_
        refine lv_goto (tgt := 61) hx hb dX7_preferred_57 (by decide) ?_
        obtain rfl := Option.some.inj h
        exact z_iret hx hb hr hlk (fun _ _ => 0) hP hD hS dX7_preferred_61
    · have h := it_p b_11 h
      refine lv_aload_n hx hb dX7_preferred_38 rfl (lv_at hl 1 rfl) ?_
      refine va_get (D := D) (ci := 7) (v := .ref (q_M 10)) (C := RX7) (T := TX7) (N := 26) hx hb hts zin7 hown hK hP 0 rfl rfl 15 (by decide) (hts _ wm802) (fun _ h9 => h9) rfl dX7_preferred_39 ?_
      refine lv_iconst (v := Int32.ofInt 0) hx hb dX7_preferred_42 rfl ?_
      refine z_iald (n := 2) (f := c_size) (i := 0) hx hb hK hP 11 rfl rfl (by decide) (by decide) dX7_preferred_43 ?_
      refine lv_aload_n hx hb dX7_preferred_44 rfl (lv_at hl 1 rfl) ?_
      refine va_get (D := D) (ci := 7) (v := .ref (q_M 10)) (C := RX7) (T := TX7) (N := 26) hx hb hts zin7 hown hK hP 0 rfl rfl 15 (by decide) (hts _ wm802) (fun _ h9 => h9) rfl dX7_preferred_45 ?_
      refine lv_iconst (v := Int32.ofInt 1) hx hb dX7_preferred_48 rfl ?_
      refine z_iald (n := 2) (f := c_size) (i := 1) hx hb hK hP 11 rfl rfl (by decide) (by decide) dX7_preferred_49 ?_
      refine z_isub hx hb dX7_preferred_50 ?_
      refine lv_istore_n (lv' := [(2, vI ((c_size 0) - (c_size 1))), (0, .ref h_M), (1, vI x1)]) hx hb dX7_preferred_51 rfl hl (by decide) rfl (fun ls hl => ?_)
      refine lv_iload_n hx hb dX7_preferred_52 rfl (lv_at hl 0 rfl) ?_
      obtain ⟨g_13, h⟩ := gd_e h
      refine z_if_le (tgt := 60) hx hb g_13 dX7_preferred_53 (by decide) (fun b_14 => ?_) (fun b_14 => ?_)
      · have h := it_n b_14 h
        refine lv_iconst (v := Int32.ofInt 0) hx hb dX7_preferred_60 rfl ?_
        obtain rfl := Option.some.inj h
        exact z_iret hx hb hr hlk (fun _ _ => 0) hP hD hS dX7_preferred_61
      · have h := it_p b_14 h
        refine lv_iconst (v := Int32.ofInt 1) hx hb dX7_preferred_56 rfl ?_
        refine lv_goto (tgt := 61) hx hb dX7_preferred_57 (by decide) ?_
        obtain rfl := Option.some.inj h
        exact z_iret hx hb hr hlk (fun _ _ => 0) hP hD hS dX7_preferred_61
  · have h := it_p b_10 h
    refine lv_aload_n hx hb dX7_preferred_20 rfl (lv_at hl 1 rfl) ?_
    refine lv_bipush (v := Int32.ofInt 8) hx hb dX7_preferred_21 (by decide +kernel) ?_
    obtain ⟨r_15, e_16, h⟩ := bd1_e h
    refine z_goi (ws' := []) (ret := r_15) (wc := (zMo cI cZ (h_M) (q_M) (c_s) (c_past) (c_kept) (c_isKept) (c_pasts) (c_text) (c_typed) (c_rect_6) (c_item) (c_items) (c_itemLevel) (c_treated) (c_from) (c_group) (c_turn) (c_size) (c_old) (c_aside) (c_begin) (c_level) (c_asides) (c_sorted) (c_spot) (c_rectangles) (c_parts) (c_visited))) (wn := fun u_17 => (zMo cI cZ h_M q_M c_s c_past c_kept c_isKept c_pasts c_text c_typed c_rect_6 c_item c_items c_itemLevel c_treated c_from c_group c_turn c_size c_old c_aside c_begin c_level c_asides c_sorted c_spot c_rectangles c_parts c_visited)) (wr := []) (va_runV (As := [vI 8]) (rest := []) hF.1 (c_Mo_areaOf l D cI cZ cT h_M q_M c_s c_past c_kept c_isKept c_pasts c_text c_typed c_rect_6 c_item c_items c_itemLevel c_treated c_from c_group c_turn c_size c_old c_aside c_begin c_level c_asides c_sorted c_spot c_rectangles c_parts c_visited 8 H.size (r_15) e_16) (cwV 1 hts (zgV wm942 wm944 wm45 wm89 wm945) rfl rfl rfl (by decide +kernel) ⟨Nat.le_of_ble_eq_true rfl, Nat.le_of_ble_eq_true rfl⟩) ⟨zP.blind, va_recv hK (z_subP (ws' := (zMo cI cZ (h_M) (q_M) (c_s) (c_past) (c_kept) (c_isKept) (c_pasts) (c_text) (c_typed) (c_rect_6) (c_item) (c_items) (c_itemLevel) (c_treated) (c_from) (c_group) (c_turn) (c_size) (c_old) (c_aside) (c_begin) (c_level) (c_asides) (c_sorted) (c_spot) (c_rectangles) (c_parts) (c_visited))) hP [0, 1, 2, 3, 4, 5, 6, 7, 8, 9, 10, 11, 12, 13, 14, 15, 16, 17, 18] rfl) (ci := 7) (q0 := 0) rfl rfl, zP.enter (z_subP (ws' := (zMo cI cZ (h_M) (q_M) (c_s) (c_past) (c_kept) (c_isKept) (c_pasts) (c_text) (c_typed) (c_rect_6) (c_item) (c_items) (c_itemLevel) (c_treated) (c_from) (c_group) (c_turn) (c_size) (c_old) (c_aside) (c_begin) (c_level) (c_asides) (c_sorted) (c_spot) (c_rectangles) (c_parts) (c_visited))) hP [0, 1, 2, 3, 4, 5, 6, 7, 8, 9, 10, 11, 12, 13, 14, 15, 16, 17, 18] rfl) hK (hD.sub [0, 1, 2, 3, 4, 5, 6, 7, 8, 9, 10, 11, 12, 13, 14, 15, 16, 17, 18] (by decide) rfl) hN⟩ rfl rfl hl.1 rfl (lv_room (Nat.le_of_ble_eq_true rfl)) dX7_preferred_23 ⟨Nat.le_refl _, Nat.le_refl _⟩) hP hD hS hA [0, 1, 2, 3, 4, 5, 6, 7, 8, 9, 10, 11, 12, 13, 14, 15, 16, 17, 18] [] [0, 1, 2, 3, 4, 5, 6, 7, 8, 9, 10, 11, 12, 13, 14, 15, 16, 17, 18] rfl rfl (by decide) (fun _ => rfl) (fun u_17 H locs hP hD hS hz => ?_)
    refine lv_aload_n hx hb dX7_preferred_26 rfl (lv_at hl 1 rfl) ?_
    refine lv_bipush (v := Int32.ofInt 9) hx hb dX7_preferred_27 (by decide +kernel) ?_
    obtain ⟨r_18, e_19, h⟩ := bd1_e h
    refine z_goi (ws' := []) (ret := r_18) (wc := (zMo cI cZ (h_M) (q_M) (c_s) (c_past) (c_kept) (c_isKept) (c_pasts) (c_text) (c_typed) (c_rect_6) (c_item) (c_items) (c_itemLevel) (c_treated) (c_from) (c_group) (c_turn) (c_size) (c_old) (c_aside) (c_begin) (c_level) (c_asides) (c_sorted) (c_spot) (c_rectangles) (c_parts) (c_visited))) (wn := fun u_20 => (zMo cI cZ h_M q_M c_s c_past c_kept c_isKept c_pasts c_text c_typed c_rect_6 c_item c_items c_itemLevel c_treated c_from c_group c_turn c_size c_old c_aside c_begin c_level c_asides c_sorted c_spot c_rectangles c_parts c_visited)) (wr := []) (va_runV (As := [vI 9]) (rest := [vI r_15]) hF.1 (c_Mo_areaOf l D cI cZ cT h_M q_M c_s c_past c_kept c_isKept c_pasts c_text c_typed c_rect_6 c_item c_items c_itemLevel c_treated c_from c_group c_turn c_size c_old c_aside c_begin c_level c_asides c_sorted c_spot c_rectangles c_parts c_visited 9 H.size (r_18) e_19) (cwV 1 hts (zgV wm942 wm944 wm45 wm89 wm945) rfl rfl rfl (by decide +kernel) ⟨Nat.le_of_ble_eq_true rfl, Nat.le_of_ble_eq_true rfl⟩) ⟨zP.blind, va_recv hK (z_subP (ws' := (zMo cI cZ (h_M) (q_M) (c_s) (c_past) (c_kept) (c_isKept) (c_pasts) (c_text) (c_typed) (c_rect_6) (c_item) (c_items) (c_itemLevel) (c_treated) (c_from) (c_group) (c_turn) (c_size) (c_old) (c_aside) (c_begin) (c_level) (c_asides) (c_sorted) (c_spot) (c_rectangles) (c_parts) (c_visited))) hP [0, 1, 2, 3, 4, 5, 6, 7, 8, 9, 10, 11, 12, 13, 14, 15, 16, 17, 18] rfl) (ci := 7) (q0 := 0) rfl rfl, zP.enter (z_subP (ws' := (zMo cI cZ (h_M) (q_M) (c_s) (c_past) (c_kept) (c_isKept) (c_pasts) (c_text) (c_typed) (c_rect_6) (c_item) (c_items) (c_itemLevel) (c_treated) (c_from) (c_group) (c_turn) (c_size) (c_old) (c_aside) (c_begin) (c_level) (c_asides) (c_sorted) (c_spot) (c_rectangles) (c_parts) (c_visited))) hP [0, 1, 2, 3, 4, 5, 6, 7, 8, 9, 10, 11, 12, 13, 14, 15, 16, 17, 18] rfl) hK (hD.sub [0, 1, 2, 3, 4, 5, 6, 7, 8, 9, 10, 11, 12, 13, 14, 15, 16, 17, 18] (by decide) rfl) hN⟩ rfl rfl hl.1 rfl (lv_room (Nat.le_of_ble_eq_true rfl)) dX7_preferred_29 ⟨Nat.le_refl _, Nat.le_refl _⟩) hP hD hS hA [0, 1, 2, 3, 4, 5, 6, 7, 8, 9, 10, 11, 12, 13, 14, 15, 16, 17, 18] [] [0, 1, 2, 3, 4, 5, 6, 7, 8, 9, 10, 11, 12, 13, 14, 15, 16, 17, 18] rfl rfl (by decide) (fun _ => rfl) (fun u_20 H locs hP hD hS hz => ?_)
    refine z_isub hx hb dX7_preferred_32 ?_
    refine lv_istore_n (lv' := [(2, vI (r_15 - r_18)), (0, .ref h_M), (1, vI x1)]) hx hb dX7_preferred_33 rfl hl (by decide) rfl (fun ls hl => ?_)
    refine lv_iload_n hx hb dX7_preferred_34 rfl (lv_at hl 0 rfl) ?_
    obtain ⟨g_21, h⟩ := gd_e h
    refine z_if_ne (tgt := 52) hx hb g_21 dX7_preferred_35 (by decide) (fun b_22 => ?_) (fun b_22 => ?_)
    · have h := it_n b_22 h
      refine lv_iload_n hx hb dX7_preferred_52 rfl (lv_at hl 0 rfl) ?_
      refine z_if_le (tgt := 60) hx hb g_21 dX7_preferred_53 (by decide) (fun b_23 => ?_) (fun b_23 => ?_)
      · have h := it_n b_23 h
        refine lv_iconst (v := Int32.ofInt 0) hx hb dX7_preferred_60 rfl ?_
        obtain rfl := Option.some.inj h
        exact z_iret hx hb hr hlk (fun _ _ => 0) hP hD hS dX7_preferred_61
      · have h := it_p b_23 h
        refine lv_iconst (v := Int32.ofInt 1) hx hb dX7_preferred_56 rfl ?_
        refine lv_goto (tgt := 61) hx hb dX7_preferred_57 (by decide) ?_
        obtain rfl := Option.some.inj h
        exact z_iret hx hb hr hlk (fun _ _ => 0) hP hD hS dX7_preferred_61
    · have h := it_p b_22 h
      refine lv_aload_n hx hb dX7_preferred_38 rfl (lv_at hl 1 rfl) ?_
      refine va_get (D := D) (ci := 7) (v := .ref (q_M 10)) (C := RX7) (T := TX7) (N := 26) hx hb hts zin7 hown hK hP 0 rfl rfl 15 (by decide) (hts _ wm802) (fun _ h9 => h9) rfl dX7_preferred_39 ?_
      refine lv_iconst (v := Int32.ofInt 0) hx hb dX7_preferred_42 rfl ?_
      refine z_iald (n := 2) (f := c_size) (i := 0) hx hb hK hP 11 rfl rfl (by decide) (by decide) dX7_preferred_43 ?_
      refine lv_aload_n hx hb dX7_preferred_44 rfl (lv_at hl 1 rfl) ?_
      refine va_get (D := D) (ci := 7) (v := .ref (q_M 10)) (C := RX7) (T := TX7) (N := 26) hx hb hts zin7 hown hK hP 0 rfl rfl 15 (by decide) (hts _ wm802) (fun _ h9 => h9) rfl dX7_preferred_45 ?_
      refine lv_iconst (v := Int32.ofInt 1) hx hb dX7_preferred_48 rfl ?_
      refine z_iald (n := 2) (f := c_size) (i := 1) hx hb hK hP 11 rfl rfl (by decide) (by decide) dX7_preferred_49 ?_
      refine z_isub hx hb dX7_preferred_50 ?_
      refine lv_istore_n (lv' := [(2, vI ((c_size 0) - (c_size 1))), (0, .ref h_M), (1, vI x1)]) hx hb dX7_preferred_51 rfl hl (by decide) rfl (fun ls hl => ?_)
      refine lv_iload_n hx hb dX7_preferred_52 rfl (lv_at hl 0 rfl) ?_
      obtain ⟨g_24, h⟩ := gd_e h
      refine z_if_le (tgt := 60) hx hb g_24 dX7_preferred_53 (by decide) (fun b_25 => ?_) (fun b_25 => ?_)
      · have h := it_n b_25 h
        refine lv_iconst (v := Int32.ofInt 0) hx hb dX7_preferred_60 rfl ?_
        obtain rfl := Option.some.inj h
        exact z_iret hx hb hr hlk (fun _ _ => 0) hP hD hS dX7_preferred_61
      · have h := it_p b_25 h
        refine lv_iconst (v := Int32.ofInt 1) hx hb dX7_preferred_56 rfl ?_
        refine lv_goto (tgt := 61) hx hb dX7_preferred_57 (by decide) ?_
        obtain rfl := Option.some.inj h
        exact z_iret hx hb hr hlk (fun _ _ => 0) hP hD hS dX7_preferred_61
def f_Mo_groups_L2 (x1 : Int) (k : Int → (Nat → Int) → Option ((Nat → Int) × (Nat → Int) × (Nat → Int) × (Nat → Int))) : Nat → Int → (Nat → Int) → Option ((Nat → Int) × (Nat → Int) × (Nat → Int) × (Nat → Int))
  | 0, _, _ => none
  | n + 1, x2, c_group =>
  gd (ck x2) <| gd (ck x1) <| if x2 < x1 then (gd (0 ≤ x2 ∧ x2 < ((8 : Nat) : Int)) <| f_Mo_groups_L2 x1 k n ((x2 + 1)) ((up c_group ((x2).toNat) (-5)))) else (k (x2) (c_group))
def f_Mo_groups_L97 (c_group : Nat → Int) (k : Int → Option ((Nat → Int) × (Nat → Int) × (Nat → Int) × (Nat → Int))) : Nat → Int → Option ((Nat → Int) × (Nat → Int) × (Nat → Int) × (Nat → Int))
  | 0, _ => none
  | n + 1, x5 =>
  gd (0 ≤ x5 ∧ x5 < ((8 : Nat) : Int)) <| gd (ck (c_group (x5).toNat)) <| if (c_group (x5).toNat) < 0 then (k (x5)) else (f_Mo_groups_L97 c_group k n ((x5 + 1)))
def f_Mo_groups_L97_b (c_group : Nat → Int) (k : Int → Option ((Nat → Int) × (Nat → Int) × (Nat → Int) × (Nat → Int))) : Nat → Int → Option ((Nat → Int) × (Nat → Int) × (Nat → Int) × (Nat → Int))
  | 0, _ => none
  | n + 1, x5 =>
  gd (0 ≤ x5 ∧ x5 < ((8 : Nat) : Int)) <| gd (ck (c_group (x5).toNat)) <| if (c_group (x5).toNat) < 0 then (k (x5)) else (f_Mo_groups_L97_b c_group k n ((x5 + 1)))
def f_Mo_groups_L39 (x1 : Int) (x2 : Int) (k : Int → (Nat → Int) → (Nat → Int) → (Nat → Int) → (Nat → Int) → Option ((Nat → Int) × (Nat → Int) × (Nat → Int) × (Nat → Int))) : Nat → Int → (Nat → Int) → (Nat → Int) → (Nat → Int) → (Nat → Int) → Option ((Nat → Int) × (Nat → Int) × (Nat → Int) × (Nat → Int))
  | 0, _, _, _, _, _ => none
  | n + 1, x3, c_rect, c_group, c_turn, c_size =>
  gd (ck x3) <| if 0 < x3 then (gd (ck ((c_size 0) + x3)) <| gd (ck x2) <| if x2 < ((c_size 0) + x3) then (gd (ck ((c_size 1) + x3)) <| if x2 < ((c_size 1) + x3) then (bd2 (f_Mo_nextEntry c_rect c_group x1) <| fun r_22 c_rect_23 => bd2 (f_Mo_preferred c_rect_23 c_size r_22) <| fun r_27 c_rect_28 => bd4 (f_Mo_joins c_rect_28 c_group c_turn c_size r_22 r_27) <| fun c_rect_31 c_group_32 c_turn_33 c_size_34 => f_Mo_groups_L39 x1 x2 k n ((x3 + (-1))) (c_rect_31) (c_group_32) (c_turn_33) (c_size_34)) else (f_Mo_groups_L97 (c_group) (fun x5_41 => bd4 (f_Mo_joins c_rect c_group c_turn c_size x5_41 1) <| fun c_rect_43 c_group_44 c_turn_45 c_size_46 => f_Mo_groups_L39 x1 x2 k n ((x3 + (-1))) (c_rect_43) (c_group_44) (c_turn_45) (c_size_46)) FU (0))) else (f_Mo_groups_L97_b (c_group) (fun x5_53 => bd4 (f_Mo_joins c_rect c_group c_turn c_size x5_53 0) <| fun c_rect_55 c_group_56 c_turn_57 c_size_58 => f_Mo_groups_L39 x1 x2 k n ((x3 + (-1))) (c_rect_55) (c_group_56) (c_turn_57) (c_size_58)) FU (0))) else (k (x3) (c_rect) (c_group) (c_turn) (c_size))
def f_Mo_groups (c_s : Nat → Int) (c_rect : Nat → Int) (c_group : Nat → Int) (c_turn : Nat → Int) (c_size : Nat → Int) (x1 : Int) : Option ((Nat → Int) × (Nat → Int) × (Nat → Int) × (Nat → Int)) :=
  f_Mo_groups_L2 (x1) (fun x2_5 c_group_6 => bd4 (f_Mo_farthest c_rect c_group_6 c_turn c_size x1) <| fun c_rect_7 c_group_8 c_turn_9 c_size_10 => gd (((0 : Int) ≤ (c_s 0) ∧ (c_s 0) ≤ 2147483647) ∧ (0 : Int) < 2 ∧ (2 : Int) ≤ 2147483647) <| f_Mo_groups_L39 (x1) (((c_s 0) / 2)) (fun x3_61 c_rect_62 c_group_63 c_turn_64 c_size_65 => some (c_rect_62, c_group_63, c_turn_64, c_size_65)) FU ((x1 - 2)) (c_rect_7) (c_group_8) (c_turn_9) (c_size_10)) FU (0) (c_group)
abbrev rm_Mo_groups : Room := ({ frames := 4, cells := 0, slots := 0, locals := 101 } : Room)
set_option maxHeartbeats 4000000 in
set_option maxRecDepth 100000 in
theorem w_Mo_groups_L2 {p : Program} {l : Launch} {e : Env} {s : State} {m : MethodId} {args : Array Value} {below : List Frame} {meth : Method} {c : Code} {A : Nat → Prop} (D : va_G) (cI cZ cT : ClassId) (h_M : Nat) (q_M : Nat → Nat) (c_s : Nat → Int) (c_past : Nat → Int) (c_kept : Nat → Int) (c_isKept : Int) (c_pasts : Int) (c_text : Nat → Int) (c_typed : Int) (c_rect : Nat → Int) (c_item : Nat → Int) (c_items : Int) (c_itemLevel : Int) (c_treated : Nat → Int) (c_from : Nat → Int) (c_turn : Nat → Int) (c_size : Nat → Int) (c_old : Nat → Int) (c_aside : Nat → Int) (c_begin : Nat → Int) (c_level : Nat → Int) (c_asides : Int) (c_sorted : Nat → Int) (c_spot : Int) (c_rectangles : Int) (c_parts : Nat → Int) (c_visited : Nat → Int) (x1 : Int) (res : (Nat → Int) × (Nat → Int) × (Nat → Int) × (Nat → Int)) (k : Int → (Nat → Int) → Option ((Nat → Int) × (Nat → Int) × (Nat → Int) × (Nat → Int))) (hF : zF p m c cX7_groups 6 s args yX7_groups.cls meth none yX7_groups.name A D (zt cI cZ cT))
    (hk : ∀ (x2 : Int) (c_group : Nat → Int) (H : Heap) (locs : List Loc) (ls : Array Slot), k x2 c_group = some res → va_P D vwCl ((zMo cI cZ h_M q_M c_s c_past c_kept c_isKept c_pasts c_text c_typed c_rect c_item c_items c_itemLevel c_treated c_from c_group c_turn c_size c_old c_aside c_begin c_level c_asides c_sorted c_spot c_rectangles c_parts c_visited)) H → va_D A ((zMo cI cZ h_M q_M c_s c_past c_kept c_isKept c_pasts c_text c_typed c_rect c_item c_items c_itemLevel c_treated c_from c_group c_turn c_size c_old c_aside c_begin c_level c_asides c_sorted c_spot c_rectangles c_parts c_visited)) → va_S A s.heap H locs → lv_has ls 6 [(0, .ref h_M), (1, vI x1)] → W p l e rm_Mo_groups s m args below meth c H locs 0 0 (MQ below (zQv D (fun u => (zMo cI cZ h_M q_M c_s c_past c_kept c_isKept c_pasts c_text c_typed (res.1) c_item c_items c_itemLevel c_treated c_from (res.2.1) (res.2.2.1) (res.2.2.2) c_old c_aside c_begin c_level c_asides c_sorted c_spot c_rectangles c_parts c_visited)) A) args s 0 0 A) (F0 m 21 ls [])) :
    ∀ (n : Nat) (x2 : Int) (c_group : Nat → Int) (H : Heap) (locs : List Loc) (ls : Array Slot), f_Mo_groups_L2 x1 k n x2 c_group = some res → va_P D vwCl ((zMo cI cZ h_M q_M c_s c_past c_kept c_isKept c_pasts c_text c_typed c_rect c_item c_items c_itemLevel c_treated c_from c_group c_turn c_size c_old c_aside c_begin c_level c_asides c_sorted c_spot c_rectangles c_parts c_visited)) H → va_D A ((zMo cI cZ h_M q_M c_s c_past c_kept c_isKept c_pasts c_text c_typed c_rect c_item c_items c_itemLevel c_treated c_from c_group c_turn c_size c_old c_aside c_begin c_level c_asides c_sorted c_spot c_rectangles c_parts c_visited)) → va_S A s.heap H locs → lv_has ls 6 [(0, .ref h_M), (1, vI x1), (2, vI x2)] → W p l e rm_Mo_groups s m args below meth c H locs 0 0 (MQ below (zQv D (fun u => (zMo cI cZ h_M q_M c_s c_past c_kept c_isKept c_pasts c_text c_typed (res.1) c_item c_items c_itemLevel c_treated c_from (res.2.1) (res.2.2.1) (res.2.2.2) c_old c_aside c_begin c_level c_asides c_sorted c_spot c_rectangles c_parts c_visited)) A) args s 0 0 A) (F0 m 2 ls []) := by
  have hx := hF.1.1
  have hb := hF.1.2.1
  have hml := hF.1.2.2.1
  have hown : s.vm.findClass "RectangleTreeModel" = some m.cls := hF.1.2.2.2.1
  have hts := hF.1.2.2.2.2
  have hr := hF.2.1
  have hlk := hF.2.2.1
  have hK := hF.2.2.2.2.1
  have hN := hF.2.2.2.2.2.1
  have hA := hF.2.2.2.2.2.2
  intro n
  induction n with
  | zero => intro x2 c_group H locs ls h; cases h
  | succ n ih =>
    intro x2 c_group H locs ls h hP hD hS hl
    rw [f_Mo_groups_L2] at h
    refine lv_iload_n hx hb dX7_groups_2 rfl (lv_at hl 2 rfl) ?_
    refine lv_iload_n hx hb dX7_groups_3 rfl (lv_at hl 1 rfl) ?_
    obtain ⟨g_1, h⟩ := gd_e h
    obtain ⟨g_2, h⟩ := gd_e h
    refine z_icmp_ge (tgt := 21) hx hb g_1 g_2 dX7_groups_4 (by decide) (fun b_3 => ?_) (fun b_3 => ?_)
    · have h := it_n b_3 h
      exact hk (x2) (c_group) H locs ls h hP hD hS (lv_sub hl [0, 1] rfl)
    · have h := it_p b_3 h
      refine lv_aload_n hx hb dX7_groups_7 rfl (lv_at hl 0 rfl) ?_
      refine va_get (D := D) (ci := 7) (v := .ref (q_M 8)) (C := RX7) (T := TX7) (N := 26) hx hb hts zin7 hown hK hP 0 rfl rfl 13 (by decide) (hts _ wm800) (fun _ h9 => h9) rfl dX7_groups_8 ?_
      refine lv_iload_n hx hb dX7_groups_11 rfl (lv_at hl 2 rfl) ?_
      refine lv_bipush (v := Int32.ofInt (-5)) hx hb dX7_groups_12 (by decide +kernel) ?_
      obtain ⟨g_4, h⟩ := gd_e h
      refine z_iast (n := 8) (f := c_group) (i := x2) (x := (-5)) (ws' := (zMo cI cZ h_M q_M c_s c_past c_kept c_isKept c_pasts c_text c_typed c_rect c_item c_items c_itemLevel c_treated c_from (up c_group ((x2).toNat) (-5)) c_turn c_size c_old c_aside c_begin c_level c_asides c_sorted c_spot c_rectangles c_parts c_visited)) hx hb hK hP hD hS 9 rfl rfl g_4 (by have := g_4.2; omega) dX7_groups_14 rfl (fun H locs hP hD hS => ?_)
      refine lv_iinc (v := Int32.ofInt (x2 + 1)) (lv' := [(2, vI (x2 + 1)), (0, .ref h_M), (1, vI x1)]) hx hb dX7_groups_15 hl (k := 2) rfl (z_inc _ _) (by decide) rfl (fun ls hl => ?_)
      refine lv_goto (tgt := 2) hx hb dX7_groups_18 (by decide) ?_
      exact ih ((x2 + 1)) ((up c_group ((x2).toNat) (-5))) H locs ls h hP hD hS (lv_sub hl [1, 2, 0] rfl)
set_option maxHeartbeats 4000000 in
set_option maxRecDepth 100000 in
theorem w_Mo_groups_L97 {p : Program} {l : Launch} {e : Env} {s : State} {m : MethodId} {args : Array Value} {below : List Frame} {meth : Method} {c : Code} {A : Nat → Prop} (D : va_G) (cI cZ cT : ClassId) (h_M : Nat) (q_M : Nat → Nat) (c_s : Nat → Int) (c_past : Nat → Int) (c_kept : Nat → Int) (c_isKept : Int) (c_pasts : Int) (c_text : Nat → Int) (c_typed : Int) (c_rect : Nat → Int) (c_item : Nat → Int) (c_items : Int) (c_itemLevel : Int) (c_treated : Nat → Int) (c_from : Nat → Int) (c_group : Nat → Int) (c_turn : Nat → Int) (c_size : Nat → Int) (c_old : Nat → Int) (c_aside : Nat → Int) (c_begin : Nat → Int) (c_level : Nat → Int) (c_asides : Int) (c_sorted : Nat → Int) (c_spot : Int) (c_rectangles : Int) (c_parts : Nat → Int) (c_visited : Nat → Int) (x1 : Int) (x2 : Int) (x3 : Int) (res : (Nat → Int) × (Nat → Int) × (Nat → Int) × (Nat → Int)) (k : Int → Option ((Nat → Int) × (Nat → Int) × (Nat → Int) × (Nat → Int))) (hF : zF p m c cX7_groups 6 s args yX7_groups.cls meth none yX7_groups.name A D (zt cI cZ cT))
    (hk : ∀ (x5 : Int) (H : Heap) (locs : List Loc) (ls : Array Slot), k x5 = some res → va_P D vwCl ((zMo cI cZ h_M q_M c_s c_past c_kept c_isKept c_pasts c_text c_typed c_rect c_item c_items c_itemLevel c_treated c_from c_group c_turn c_size c_old c_aside c_begin c_level c_asides c_sorted c_spot c_rectangles c_parts c_visited)) H → va_D A ((zMo cI cZ h_M q_M c_s c_past c_kept c_isKept c_pasts c_text c_typed c_rect c_item c_items c_itemLevel c_treated c_from c_group c_turn c_size c_old c_aside c_begin c_level c_asides c_sorted c_spot c_rectangles c_parts c_visited)) → va_S A s.heap H locs → lv_has ls 6 [(0, .ref h_M), (1, vI x1), (2, vI x2), (3, vI x3), (4, vI 1), (5, vI x5)] → W p l e rm_Mo_groups s m args below meth c H locs 0 0 (MQ below (zQv D (fun u => (zMo cI cZ h_M q_M c_s c_past c_kept c_isKept c_pasts c_text c_typed (res.1) c_item c_items c_itemLevel c_treated c_from (res.2.1) (res.2.2.1) (res.2.2.2) c_old c_aside c_begin c_level c_asides c_sorted c_spot c_rectangles c_parts c_visited)) A) args s 0 0 A) (F0 m 113 ls [])) :
    ∀ (n : Nat) (x5 : Int) (H : Heap) (locs : List Loc) (ls : Array Slot), f_Mo_groups_L97 c_group k n x5 = some res → va_P D vwCl ((zMo cI cZ h_M q_M c_s c_past c_kept c_isKept c_pasts c_text c_typed c_rect c_item c_items c_itemLevel c_treated c_from c_group c_turn c_size c_old c_aside c_begin c_level c_asides c_sorted c_spot c_rectangles c_parts c_visited)) H → va_D A ((zMo cI cZ h_M q_M c_s c_past c_kept c_isKept c_pasts c_text c_typed c_rect c_item c_items c_itemLevel c_treated c_from c_group c_turn c_size c_old c_aside c_begin c_level c_asides c_sorted c_spot c_rectangles c_parts c_visited)) → va_S A s.heap H locs → lv_has ls 6 [(0, .ref h_M), (1, vI x1), (2, vI x2), (3, vI x3), (4, vI 1), (5, vI x5)] → W p l e rm_Mo_groups s m args below meth c H locs 0 0 (MQ below (zQv D (fun u => (zMo cI cZ h_M q_M c_s c_past c_kept c_isKept c_pasts c_text c_typed (res.1) c_item c_items c_itemLevel c_treated c_from (res.2.1) (res.2.2.1) (res.2.2.2) c_old c_aside c_begin c_level c_asides c_sorted c_spot c_rectangles c_parts c_visited)) A) args s 0 0 A) (F0 m 97 ls []) := by
  have hx := hF.1.1
  have hb := hF.1.2.1
  have hml := hF.1.2.2.1
  have hown : s.vm.findClass "RectangleTreeModel" = some m.cls := hF.1.2.2.2.1
  have hts := hF.1.2.2.2.2
  have hr := hF.2.1
  have hlk := hF.2.2.1
  have hK := hF.2.2.2.2.1
  have hN := hF.2.2.2.2.2.1
  have hA := hF.2.2.2.2.2.2
  intro n
  induction n with
  | zero => intro x5 H locs ls h; cases h
  | succ n ih =>
    intro x5 H locs ls h hP hD hS hl
    rw [f_Mo_groups_L97] at h
    refine lv_aload_n hx hb dX7_groups_97 rfl (lv_at hl 0 rfl) ?_
    refine va_get (D := D) (ci := 7) (v := .ref (q_M 8)) (C := RX7) (T := TX7) (N := 26) hx hb hts zin7 hown hK hP 0 rfl rfl 13 (by decide) (hts _ wm800) (fun _ h9 => h9) rfl dX7_groups_98 ?_
    refine lv_iload hx hb dX7_groups_101 (lv_at hl 5 rfl) ?_
    obtain ⟨g_38, h⟩ := gd_e h
    refine z_iald (n := 8) (f := c_group) (i := x5) hx hb hK hP 9 rfl rfl g_38 (by have := g_38.2; omega) dX7_groups_103 ?_
    obtain ⟨g_39, h⟩ := gd_e h
    refine z_if_lt (tgt := 113) hx hb g_39 dX7_groups_104 (by decide) (fun b_40 => ?_) (fun b_40 => ?_)
    · have h := it_p b_40 h
      exact hk (x5) H locs ls h hP hD hS (lv_sub hl [0, 1, 2, 3, 4, 5] rfl)
    · have h := it_n b_40 h
      refine lv_iinc (v := Int32.ofInt (x5 + 1)) (lv' := [(5, vI (x5 + 1)), (0, .ref h_M), (1, vI x1), (2, vI x2), (3, vI x3), (4, vI 1)]) hx hb dX7_groups_107 hl (k := 5) rfl (z_inc _ _) (by decide) rfl (fun ls hl => ?_)
      refine lv_goto (tgt := 97) hx hb dX7_groups_110 (by decide) ?_
      exact ih ((x5 + 1)) H locs ls h hP hD hS (lv_sub hl [1, 2, 3, 4, 5, 0] rfl)
set_option maxHeartbeats 4000000 in
set_option maxRecDepth 100000 in
theorem w_Mo_groups_L97_b {p : Program} {l : Launch} {e : Env} {s : State} {m : MethodId} {args : Array Value} {below : List Frame} {meth : Method} {c : Code} {A : Nat → Prop} (D : va_G) (cI cZ cT : ClassId) (h_M : Nat) (q_M : Nat → Nat) (c_s : Nat → Int) (c_past : Nat → Int) (c_kept : Nat → Int) (c_isKept : Int) (c_pasts : Int) (c_text : Nat → Int) (c_typed : Int) (c_rect : Nat → Int) (c_item : Nat → Int) (c_items : Int) (c_itemLevel : Int) (c_treated : Nat → Int) (c_from : Nat → Int) (c_group : Nat → Int) (c_turn : Nat → Int) (c_size : Nat → Int) (c_old : Nat → Int) (c_aside : Nat → Int) (c_begin : Nat → Int) (c_level : Nat → Int) (c_asides : Int) (c_sorted : Nat → Int) (c_spot : Int) (c_rectangles : Int) (c_parts : Nat → Int) (c_visited : Nat → Int) (x1 : Int) (x2 : Int) (x3 : Int) (res : (Nat → Int) × (Nat → Int) × (Nat → Int) × (Nat → Int)) (k : Int → Option ((Nat → Int) × (Nat → Int) × (Nat → Int) × (Nat → Int))) (hF : zF p m c cX7_groups 6 s args yX7_groups.cls meth none yX7_groups.name A D (zt cI cZ cT))
    (hk : ∀ (x5 : Int) (H : Heap) (locs : List Loc) (ls : Array Slot), k x5 = some res → va_P D vwCl ((zMo cI cZ h_M q_M c_s c_past c_kept c_isKept c_pasts c_text c_typed c_rect c_item c_items c_itemLevel c_treated c_from c_group c_turn c_size c_old c_aside c_begin c_level c_asides c_sorted c_spot c_rectangles c_parts c_visited)) H → va_D A ((zMo cI cZ h_M q_M c_s c_past c_kept c_isKept c_pasts c_text c_typed c_rect c_item c_items c_itemLevel c_treated c_from c_group c_turn c_size c_old c_aside c_begin c_level c_asides c_sorted c_spot c_rectangles c_parts c_visited)) → va_S A s.heap H locs → lv_has ls 6 [(0, .ref h_M), (1, vI x1), (2, vI x2), (3, vI x3), (4, vI 0), (5, vI x5)] → W p l e rm_Mo_groups s m args below meth c H locs 0 0 (MQ below (zQv D (fun u => (zMo cI cZ h_M q_M c_s c_past c_kept c_isKept c_pasts c_text c_typed (res.1) c_item c_items c_itemLevel c_treated c_from (res.2.1) (res.2.2.1) (res.2.2.2) c_old c_aside c_begin c_level c_asides c_sorted c_spot c_rectangles c_parts c_visited)) A) args s 0 0 A) (F0 m 113 ls [])) :
    ∀ (n : Nat) (x5 : Int) (H : Heap) (locs : List Loc) (ls : Array Slot), f_Mo_groups_L97_b c_group k n x5 = some res → va_P D vwCl ((zMo cI cZ h_M q_M c_s c_past c_kept c_isKept c_pasts c_text c_typed c_rect c_item c_items c_itemLevel c_treated c_from c_group c_turn c_size c_old c_aside c_begin c_level c_asides c_sorted c_spot c_rectangles c_parts c_visited)) H → va_D A ((zMo cI cZ h_M q_M c_s c_past c_kept c_isKept c_pasts c_text c_typed c_rect c_item c_items c_itemLevel c_treated c_from c_group c_turn c_size c_old c_aside c_begin c_level c_asides c_sorted c_spot c_rectangles c_parts c_visited)) → va_S A s.heap H locs → lv_has ls 6 [(0, .ref h_M), (1, vI x1), (2, vI x2), (3, vI x3), (4, vI 0), (5, vI x5)] → W p l e rm_Mo_groups s m args below meth c H locs 0 0 (MQ below (zQv D (fun u => (zMo cI cZ h_M q_M c_s c_past c_kept c_isKept c_pasts c_text c_typed (res.1) c_item c_items c_itemLevel c_treated c_from (res.2.1) (res.2.2.1) (res.2.2.2) c_old c_aside c_begin c_level c_asides c_sorted c_spot c_rectangles c_parts c_visited)) A) args s 0 0 A) (F0 m 97 ls []) := by
  have hx := hF.1.1
  have hb := hF.1.2.1
  have hml := hF.1.2.2.1
  have hown : s.vm.findClass "RectangleTreeModel" = some m.cls := hF.1.2.2.2.1
  have hts := hF.1.2.2.2.2
  have hr := hF.2.1
  have hlk := hF.2.2.1
  have hK := hF.2.2.2.2.1
  have hN := hF.2.2.2.2.2.1
  have hA := hF.2.2.2.2.2.2
  intro n
  induction n with
  | zero => intro x5 H locs ls h; cases h
  | succ n ih =>
    intro x5 H locs ls h hP hD hS hl
    rw [f_Mo_groups_L97_b] at h
    refine lv_aload_n hx hb dX7_groups_97 rfl (lv_at hl 0 rfl) ?_
    refine va_get (D := D) (ci := 7) (v := .ref (q_M 8)) (C := RX7) (T := TX7) (N := 26) hx hb hts zin7 hown hK hP 0 rfl rfl 13 (by decide) (hts _ wm800) (fun _ h9 => h9) rfl dX7_groups_98 ?_
    refine lv_iload hx hb dX7_groups_101 (lv_at hl 5 rfl) ?_
    obtain ⟨g_50, h⟩ := gd_e h
    refine z_iald (n := 8) (f := c_group) (i := x5) hx hb hK hP 9 rfl rfl g_50 (by have := g_50.2; omega) dX7_groups_103 ?_
    obtain ⟨g_51, h⟩ := gd_e h
    refine z_if_lt (tgt := 113) hx hb g_51 dX7_groups_104 (by decide) (fun b_52 => ?_) (fun b_52 => ?_)
    · have h := it_p b_52 h
      exact hk (x5) H locs ls h hP hD hS (lv_sub hl [0, 1, 2, 3, 4, 5] rfl)
    · have h := it_n b_52 h
      refine lv_iinc (v := Int32.ofInt (x5 + 1)) (lv' := [(5, vI (x5 + 1)), (0, .ref h_M), (1, vI x1), (2, vI x2), (3, vI x3), (4, vI 0)]) hx hb dX7_groups_107 hl (k := 5) rfl (z_inc _ _) (by decide) rfl (fun ls hl => ?_)
      refine lv_goto (tgt := 97) hx hb dX7_groups_110 (by decide) ?_
      exact ih ((x5 + 1)) H locs ls h hP hD hS (lv_sub hl [1, 2, 3, 4, 5, 0] rfl)
set_option maxHeartbeats 4000000 in
set_option maxRecDepth 100000 in
theorem w_Mo_groups_L39 {p : Program} {l : Launch} {e : Env} {s : State} {m : MethodId} {args : Array Value} {below : List Frame} {meth : Method} {c : Code} {A : Nat → Prop} (D : va_G) (cI cZ cT : ClassId) (h_M : Nat) (q_M : Nat → Nat) (c_s : Nat → Int) (c_past : Nat → Int) (c_kept : Nat → Int) (c_isKept : Int) (c_pasts : Int) (c_text : Nat → Int) (c_typed : Int) (c_item : Nat → Int) (c_items : Int) (c_itemLevel : Int) (c_treated : Nat → Int) (c_from : Nat → Int) (c_old : Nat → Int) (c_aside : Nat → Int) (c_begin : Nat → Int) (c_level : Nat → Int) (c_asides : Int) (c_sorted : Nat → Int) (c_spot : Int) (c_rectangles : Int) (c_parts : Nat → Int) (c_visited : Nat → Int) (x1 : Int) (x2 : Int) (res : (Nat → Int) × (Nat → Int) × (Nat → Int) × (Nat → Int)) (k : Int → (Nat → Int) → (Nat → Int) → (Nat → Int) → (Nat → Int) → Option ((Nat → Int) × (Nat → Int) × (Nat → Int) × (Nat → Int))) (hF : zF p m c cX7_groups 6 s args yX7_groups.cls meth none yX7_groups.name A D (zt cI cZ cT))
    (hk : ∀ (x3 : Int) (c_rect : Nat → Int) (c_group : Nat → Int) (c_turn : Nat → Int) (c_size : Nat → Int) (H : Heap) (locs : List Loc) (ls : Array Slot), k x3 c_rect c_group c_turn c_size = some res → va_P D vwCl ((zMo cI cZ h_M q_M c_s c_past c_kept c_isKept c_pasts c_text c_typed c_rect c_item c_items c_itemLevel c_treated c_from c_group c_turn c_size c_old c_aside c_begin c_level c_asides c_sorted c_spot c_rectangles c_parts c_visited)) H → va_D A ((zMo cI cZ h_M q_M c_s c_past c_kept c_isKept c_pasts c_text c_typed c_rect c_item c_items c_itemLevel c_treated c_from c_group c_turn c_size c_old c_aside c_begin c_level c_asides c_sorted c_spot c_rectangles c_parts c_visited)) → va_S A s.heap H locs → lv_has ls 6 [] → W p l e rm_Mo_groups s m args below meth c H locs 0 0 (MQ below (zQv D (fun u => (zMo cI cZ h_M q_M c_s c_past c_kept c_isKept c_pasts c_text c_typed (res.1) c_item c_items c_itemLevel c_treated c_from (res.2.1) (res.2.2.1) (res.2.2.2) c_old c_aside c_begin c_level c_asides c_sorted c_spot c_rectangles c_parts c_visited)) A) args s 0 0 A) (F0 m 141 ls [])) :
    ∀ (n : Nat) (x3 : Int) (c_rect : Nat → Int) (c_group : Nat → Int) (c_turn : Nat → Int) (c_size : Nat → Int) (H : Heap) (locs : List Loc) (ls : Array Slot), f_Mo_groups_L39 x1 x2 k n x3 c_rect c_group c_turn c_size = some res → va_P D vwCl ((zMo cI cZ h_M q_M c_s c_past c_kept c_isKept c_pasts c_text c_typed c_rect c_item c_items c_itemLevel c_treated c_from c_group c_turn c_size c_old c_aside c_begin c_level c_asides c_sorted c_spot c_rectangles c_parts c_visited)) H → va_D A ((zMo cI cZ h_M q_M c_s c_past c_kept c_isKept c_pasts c_text c_typed c_rect c_item c_items c_itemLevel c_treated c_from c_group c_turn c_size c_old c_aside c_begin c_level c_asides c_sorted c_spot c_rectangles c_parts c_visited)) → va_S A s.heap H locs → lv_has ls 6 [(0, .ref h_M), (1, vI x1), (2, vI x2), (3, vI x3)] → W p l e rm_Mo_groups s m args below meth c H locs 0 0 (MQ below (zQv D (fun u => (zMo cI cZ h_M q_M c_s c_past c_kept c_isKept c_pasts c_text c_typed (res.1) c_item c_items c_itemLevel c_treated c_from (res.2.1) (res.2.2.1) (res.2.2.2) c_old c_aside c_begin c_level c_asides c_sorted c_spot c_rectangles c_parts c_visited)) A) args s 0 0 A) (F0 m 39 ls []) := by
  have hx := hF.1.1
  have hb := hF.1.2.1
  have hml := hF.1.2.2.1
  have hown : s.vm.findClass "RectangleTreeModel" = some m.cls := hF.1.2.2.2.1
  have hts := hF.1.2.2.2.2
  have hr := hF.2.1
  have hlk := hF.2.2.1
  have hK := hF.2.2.2.2.1
  have hN := hF.2.2.2.2.2.1
  have hA := hF.2.2.2.2.2.2
  intro n
  induction n with
  | zero => intro x3 c_rect c_group c_turn c_size H locs ls h; cases h
  | succ n ih =>
    intro x3 c_rect c_group c_turn c_size H locs ls h hP hD hS hl
    rw [f_Mo_groups_L39] at h
    refine lv_iload_n hx hb dX7_groups_39 rfl (lv_at hl 3 rfl) ?_
    obtain ⟨g_14, h⟩ := gd_e h
    refine z_if_le (tgt := 141) hx hb g_14 dX7_groups_40 (by decide) (fun b_15 => ?_) (fun b_15 => ?_)
    · have h := it_n b_15 h
      exact hk (x3) (c_rect) (c_group) (c_turn) (c_size) H locs ls h hP hD hS (lv_sub hl [] rfl)
    · have h := it_p b_15 h
      refine lv_aload_n hx hb dX7_groups_43 rfl (lv_at hl 0 rfl) ?_
      refine va_get (D := D) (ci := 7) (v := .ref (q_M 10)) (C := RX7) (T := TX7) (N := 26) hx hb hts zin7 hown hK hP 0 rfl rfl 15 (by decide) (hts _ wm802) (fun _ h9 => h9) rfl dX7_groups_44 ?_
      refine lv_iconst (v := Int32.ofInt 0) hx hb dX7_groups_47 rfl ?_
      refine z_iald (n := 2) (f := c_size) (i := 0) hx hb hK hP 11 rfl rfl (by decide) (by decide) dX7_groups_48 ?_
      refine lv_iload_n hx hb dX7_groups_49 rfl (lv_at hl 3 rfl) ?_
      refine z_iadd hx hb dX7_groups_50 ?_
      refine lv_iload_n hx hb dX7_groups_51 rfl (lv_at hl 2 rfl) ?_
      obtain ⟨g_16, h⟩ := gd_e h
      obtain ⟨g_17, h⟩ := gd_e h
      refine z_icmp_gt (tgt := 59) hx hb g_16 g_17 dX7_groups_52 (by decide) (fun b_18 => ?_) (fun b_18 => ?_)
      · have h := it_p b_18 h
        refine lv_aload_n hx hb dX7_groups_59 rfl (lv_at hl 0 rfl) ?_
        refine va_get (D := D) (ci := 7) (v := .ref (q_M 10)) (C := RX7) (T := TX7) (N := 26) hx hb hts zin7 hown hK hP 0 rfl rfl 15 (by decide) (hts _ wm802) (fun _ h9 => h9) rfl dX7_groups_60 ?_
        refine lv_iconst (v := Int32.ofInt 1) hx hb dX7_groups_63 rfl ?_
        refine z_iald (n := 2) (f := c_size) (i := 1) hx hb hK hP 11 rfl rfl (by decide) (by decide) dX7_groups_64 ?_
        refine lv_iload_n hx hb dX7_groups_65 rfl (lv_at hl 3 rfl) ?_
        refine z_iadd hx hb dX7_groups_66 ?_
        refine lv_iload_n hx hb dX7_groups_67 rfl (lv_at hl 2 rfl) ?_
        obtain ⟨g_19, h⟩ := gd_e h
        refine z_icmp_gt (tgt := 75) hx hb g_19 g_17 dX7_groups_68 (by decide) (fun b_20 => ?_) (fun b_20 => ?_)
        · have h := it_p b_20 h
          refine lv_bipush (v := Int32.ofInt (-5)) hx hb dX7_groups_75 (by decide +kernel) ?_
          refine lv_istore (lv' := [(4, vI (-5)), (0, .ref h_M), (1, vI x1), (2, vI x2), (3, vI x3)]) hx hb dX7_groups_77 hl (by decide) rfl (fun ls hl => ?_)
          refine lv_iconst (v := Int32.ofInt 0) hx hb dX7_groups_79 rfl ?_
          refine lv_istore (lv' := [(5, vI 0), (4, vI (-5)), (0, .ref h_M), (1, vI x1), (2, vI x2), (3, vI x3)]) hx hb dX7_groups_80 hl (by decide) rfl (fun ls hl => ?_)
          refine lv_iload hx hb dX7_groups_82 (lv_at hl 1 rfl) ?_
          refine z_if_ge (tgt := 97) hx hb (by decide) dX7_groups_84 (by decide) (fun b_21 => ?_) (fun b_21 => ?_)
          · exact absurd b_21 (by decide)
          refine lv_aload_n hx hb dX7_groups_87 rfl (lv_at hl 2 rfl) ?_
          refine lv_iload_n hx hb dX7_groups_88 rfl (lv_at hl 3 rfl) ?_
          obtain ⟨r_22, c_rect_23, e_24, h⟩ := bd2_e h
          refine z_goi (ws' := []) (ret := r_22) (wc := (zMo cI cZ (h_M) (q_M) (c_s) (c_past) (c_kept) (c_isKept) (c_pasts) (c_text) (c_typed) (c_rect) (c_item) (c_items) (c_itemLevel) (c_treated) (c_from) (c_group) (c_turn) (c_size) (c_old) (c_aside) (c_begin) (c_level) (c_asides) (c_sorted) (c_spot) (c_rectangles) (c_parts) (c_visited))) (wn := fun u_25 => (zMo cI cZ h_M q_M c_s c_past c_kept c_isKept c_pasts c_text c_typed c_rect_23 c_item c_items c_itemLevel c_treated c_from c_group c_turn c_size c_old c_aside c_begin c_level c_asides c_sorted c_spot c_rectangles c_parts c_visited)) (wr := []) (va_runV (As := [vI x1]) (rest := []) hF.1 (c_Mo_nextEntry l D cI cZ cT h_M q_M c_s c_past c_kept c_isKept c_pasts c_text c_typed c_rect c_item c_items c_itemLevel c_treated c_from c_group c_turn c_size c_old c_aside c_begin c_level c_asides c_sorted c_spot c_rectangles c_parts c_visited x1 H.size (r_22, c_rect_23) e_24) (cwV 1 hts (zgV wm990 wm992 wm57 wm89 wm993) rfl rfl rfl (by decide +kernel) ⟨Nat.le_of_ble_eq_true rfl, Nat.le_of_ble_eq_true rfl⟩) ⟨zP.blind, va_recv hK (z_subP (ws' := (zMo cI cZ (h_M) (q_M) (c_s) (c_past) (c_kept) (c_isKept) (c_pasts) (c_text) (c_typed) (c_rect) (c_item) (c_items) (c_itemLevel) (c_treated) (c_from) (c_group) (c_turn) (c_size) (c_old) (c_aside) (c_begin) (c_level) (c_asides) (c_sorted) (c_spot) (c_rectangles) (c_parts) (c_visited))) hP [0, 1, 2, 3, 4, 5, 6, 7, 8, 9, 10, 11, 12, 13, 14, 15, 16, 17, 18] rfl) (ci := 7) (q0 := 0) rfl rfl, zP.enter (z_subP (ws' := (zMo cI cZ (h_M) (q_M) (c_s) (c_past) (c_kept) (c_isKept) (c_pasts) (c_text) (c_typed) (c_rect) (c_item) (c_items) (c_itemLevel) (c_treated) (c_from) (c_group) (c_turn) (c_size) (c_old) (c_aside) (c_begin) (c_level) (c_asides) (c_sorted) (c_spot) (c_rectangles) (c_parts) (c_visited))) hP [0, 1, 2, 3, 4, 5, 6, 7, 8, 9, 10, 11, 12, 13, 14, 15, 16, 17, 18] rfl) hK (hD.sub [0, 1, 2, 3, 4, 5, 6, 7, 8, 9, 10, 11, 12, 13, 14, 15, 16, 17, 18] (by decide) rfl) hN⟩ rfl rfl hl.1 rfl (lv_room (Nat.le_of_ble_eq_true rfl)) dX7_groups_89 ⟨Nat.le_refl _, Nat.le_refl _⟩) hP hD hS hA [0, 1, 2, 3, 4, 5, 6, 7, 8, 9, 10, 11, 12, 13, 14, 15, 16, 17, 18] [] [0, 1, 2, 3, 4, 5, 6, 7, 8, 9, 10, 11, 12, 13, 14, 15, 16, 17, 18] rfl rfl (by decide) (fun _ => rfl) (fun u_25 H locs hP hD hS hz => ?_)
          refine lv_istore (lv' := [(5, vI r_22), (4, vI (-5)), (0, .ref h_M), (1, vI x1), (2, vI x2), (3, vI x3)]) hx hb dX7_groups_92 hl (by decide) rfl (fun ls hl => ?_)
          refine lv_goto (tgt := 113) hx hb dX7_groups_94 (by decide) ?_
          refine lv_aload_n hx hb dX7_groups_113 rfl (lv_at hl 2 rfl) ?_
          refine lv_iload hx hb dX7_groups_114 (lv_at hl 0 rfl) ?_
          refine lv_iload hx hb dX7_groups_116 (lv_at hl 1 rfl) ?_
          refine z_if_ge (tgt := 130) hx hb (by decide) dX7_groups_118 (by decide) (fun b_26 => ?_) (fun b_26 => ?_)
          · exact absurd b_26 (by decide)
          refine lv_aload_n hx hb dX7_groups_121 rfl (lv_at hl 2 rfl) ?_
          refine lv_iload hx hb dX7_groups_122 (lv_at hl 0 rfl) ?_
          obtain ⟨r_27, c_rect_28, e_29, h⟩ := bd2_e h
          refine z_goi (ws' := []) (ret := r_27) (wc := (zMo cI cZ (h_M) (q_M) (c_s) (c_past) (c_kept) (c_isKept) (c_pasts) (c_text) (c_typed) (c_rect_23) (c_item) (c_items) (c_itemLevel) (c_treated) (c_from) (c_group) (c_turn) (c_size) (c_old) (c_aside) (c_begin) (c_level) (c_asides) (c_sorted) (c_spot) (c_rectangles) (c_parts) (c_visited))) (wn := fun u_30 => (zMo cI cZ h_M q_M c_s c_past c_kept c_isKept c_pasts c_text c_typed c_rect_28 c_item c_items c_itemLevel c_treated c_from c_group c_turn c_size c_old c_aside c_begin c_level c_asides c_sorted c_spot c_rectangles c_parts c_visited)) (wr := []) (va_runV (As := [vI r_22]) (rest := [vI r_22, .ref h_M]) hF.1 (c_Mo_preferred l D cI cZ cT h_M q_M c_s c_past c_kept c_isKept c_pasts c_text c_typed c_rect_23 c_item c_items c_itemLevel c_treated c_from c_group c_turn c_size c_old c_aside c_begin c_level c_asides c_sorted c_spot c_rectangles c_parts c_visited r_22 H.size (r_27, c_rect_28) e_29) (cwV 1 hts (zgV wm994 wm996 wm58 wm89 wm997) rfl rfl rfl (by decide +kernel) ⟨Nat.le_of_ble_eq_true rfl, Nat.le_of_ble_eq_true rfl⟩) ⟨zP.blind, va_recv hK (z_subP (ws' := (zMo cI cZ (h_M) (q_M) (c_s) (c_past) (c_kept) (c_isKept) (c_pasts) (c_text) (c_typed) (c_rect_23) (c_item) (c_items) (c_itemLevel) (c_treated) (c_from) (c_group) (c_turn) (c_size) (c_old) (c_aside) (c_begin) (c_level) (c_asides) (c_sorted) (c_spot) (c_rectangles) (c_parts) (c_visited))) hP [0, 1, 2, 3, 4, 5, 6, 7, 8, 9, 10, 11, 12, 13, 14, 15, 16, 17, 18] rfl) (ci := 7) (q0 := 0) rfl rfl, zP.enter (z_subP (ws' := (zMo cI cZ (h_M) (q_M) (c_s) (c_past) (c_kept) (c_isKept) (c_pasts) (c_text) (c_typed) (c_rect_23) (c_item) (c_items) (c_itemLevel) (c_treated) (c_from) (c_group) (c_turn) (c_size) (c_old) (c_aside) (c_begin) (c_level) (c_asides) (c_sorted) (c_spot) (c_rectangles) (c_parts) (c_visited))) hP [0, 1, 2, 3, 4, 5, 6, 7, 8, 9, 10, 11, 12, 13, 14, 15, 16, 17, 18] rfl) hK (hD.sub [0, 1, 2, 3, 4, 5, 6, 7, 8, 9, 10, 11, 12, 13, 14, 15, 16, 17, 18] (by decide) rfl) hN⟩ rfl rfl hl.1 rfl (lv_room (Nat.le_of_ble_eq_true rfl)) dX7_groups_124 ⟨Nat.le_refl _, Nat.le_refl _⟩) hP hD hS hA [0, 1, 2, 3, 4, 5, 6, 7, 8, 9, 10, 11, 12, 13, 14, 15, 16, 17, 18] [] [0, 1, 2, 3, 4, 5, 6, 7, 8, 9, 10, 11, 12, 13, 14, 15, 16, 17, 18] rfl rfl (by decide) (fun _ => rfl) (fun u_30 H locs hP hD hS hz => ?_)
          refine lv_goto (tgt := 132) hx hb dX7_groups_127 (by decide) ?_
          obtain ⟨c_rect_31, c_group_32, c_turn_33, c_size_34, e_35, h⟩ := bd4_e h
          refine z_gov (wc := (zMo cI cZ (h_M) (q_M) (c_s) (c_past) (c_kept) (c_isKept) (c_pasts) (c_text) (c_typed) (c_rect_28) (c_item) (c_items) (c_itemLevel) (c_treated) (c_from) (c_group) (c_turn) (c_size) (c_old) (c_aside) (c_begin) (c_level) (c_asides) (c_sorted) (c_spot) (c_rectangles) (c_parts) (c_visited))) (wn := fun u_36 => (zMo cI cZ h_M q_M c_s c_past c_kept c_isKept c_pasts c_text c_typed c_rect_31 c_item c_items c_itemLevel c_treated c_from c_group_32 c_turn_33 c_size_34 c_old c_aside c_begin c_level c_asides c_sorted c_spot c_rectangles c_parts c_visited)) (wr := []) (va_runV (As := [vI r_22, vI r_27]) (rest := []) hF.1 (c_Mo_joins l D cI cZ cT h_M q_M c_s c_past c_kept c_isKept c_pasts c_text c_typed c_rect_28 c_item c_items c_itemLevel c_treated c_from c_group c_turn c_size c_old c_aside c_begin c_level c_asides c_sorted c_spot c_rectangles c_parts c_visited r_22 r_27 H.size (c_rect_31, c_group_32, c_turn_33, c_size_34) e_35) (cwV 2 hts (zgV wm986 wm988 wm56 wm89 wm989) rfl rfl rfl (by decide +kernel) ⟨Nat.le_of_ble_eq_true rfl, Nat.le_of_ble_eq_true rfl⟩) ⟨zP.blind, va_recv hK (z_subP (ws' := (zMo cI cZ (h_M) (q_M) (c_s) (c_past) (c_kept) (c_isKept) (c_pasts) (c_text) (c_typed) (c_rect_28) (c_item) (c_items) (c_itemLevel) (c_treated) (c_from) (c_group) (c_turn) (c_size) (c_old) (c_aside) (c_begin) (c_level) (c_asides) (c_sorted) (c_spot) (c_rectangles) (c_parts) (c_visited))) hP [0, 1, 2, 3, 4, 5, 6, 7, 8, 9, 10, 11, 12, 13, 14, 15, 16, 17, 18] rfl) (ci := 7) (q0 := 0) rfl rfl, zP.enter (z_subP (ws' := (zMo cI cZ (h_M) (q_M) (c_s) (c_past) (c_kept) (c_isKept) (c_pasts) (c_text) (c_typed) (c_rect_28) (c_item) (c_items) (c_itemLevel) (c_treated) (c_from) (c_group) (c_turn) (c_size) (c_old) (c_aside) (c_begin) (c_level) (c_asides) (c_sorted) (c_spot) (c_rectangles) (c_parts) (c_visited))) hP [0, 1, 2, 3, 4, 5, 6, 7, 8, 9, 10, 11, 12, 13, 14, 15, 16, 17, 18] rfl) hK (hD.sub [0, 1, 2, 3, 4, 5, 6, 7, 8, 9, 10, 11, 12, 13, 14, 15, 16, 17, 18] (by decide) rfl) hN⟩ rfl rfl hl.1 rfl (lv_room (Nat.le_of_ble_eq_true rfl)) dX7_groups_132 ⟨Nat.le_refl _, Nat.le_refl _⟩) hP hD hS hA [0, 1, 2, 3, 4, 5, 6, 7, 8, 9, 10, 11, 12, 13, 14, 15, 16, 17, 18] [] [0, 1, 2, 3, 4, 5, 6, 7, 8, 9, 10, 11, 12, 13, 14, 15, 16, 17, 18] rfl rfl (by decide) (fun _ => rfl) (fun u_36 H locs hP hD hS hz => ?_)
          refine lv_iinc (v := Int32.ofInt (x3 + (-1))) (lv' := [(3, vI (x3 + (-1))), (5, vI r_22), (4, vI (-5)), (0, .ref h_M), (1, vI x1), (2, vI x2)]) hx hb dX7_groups_135 hl (k := 5) rfl (z_inc _ _) (by decide) rfl (fun ls hl => ?_)
          refine lv_goto (tgt := 39) hx hb dX7_groups_138 (by decide) ?_
          exact ih ((x3 + (-1))) (c_rect_31) (c_group_32) (c_turn_33) (c_size_34) H locs ls h hP hD hS (lv_sub hl [3, 4, 5, 0] rfl)
        · have h := it_n b_20 h
          refine lv_iconst (v := Int32.ofInt 1) hx hb dX7_groups_71 rfl ?_
          refine lv_goto (tgt := 77) hx hb dX7_groups_72 (by decide) ?_
          refine lv_istore (lv' := [(4, vI 1), (0, .ref h_M), (1, vI x1), (2, vI x2), (3, vI x3)]) hx hb dX7_groups_77 hl (by decide) rfl (fun ls hl => ?_)
          refine lv_iconst (v := Int32.ofInt 0) hx hb dX7_groups_79 rfl ?_
          refine lv_istore (lv' := [(5, vI 0), (4, vI 1), (0, .ref h_M), (1, vI x1), (2, vI x2), (3, vI x3)]) hx hb dX7_groups_80 hl (by decide) rfl (fun ls hl => ?_)
          refine lv_iload hx hb dX7_groups_82 (lv_at hl 1 rfl) ?_
          refine z_if_ge (tgt := 97) hx hb (by decide) dX7_groups_84 (by decide) (fun b_37 => ?_) (fun b_37 => ?_)
          rotate_left
          · exact absurd b_37 (by decide)
          refine w_Mo_groups_L97 D cI cZ cT (h_M) (q_M) (c_s) (c_past) (c_kept) (c_isKept) (c_pasts) (c_text) (c_typed) (c_rect) (c_item) (c_items) (c_itemLevel) (c_treated) (c_from) (c_group) (c_turn) (c_size) (c_old) (c_aside) (c_begin) (c_level) (c_asides) (c_sorted) (c_spot) (c_rectangles) (c_parts) (c_visited) (x1) (x2) (x3) _ _ hF (fun x5_41 H locs ls h hP hD hS hl => ?_) _ (0) _ _ _ h hP hD hS (lv_sub hl [2, 3, 4, 5, 1, 0] rfl)
          refine lv_aload_n hx hb dX7_groups_113 rfl (lv_at hl 0 rfl) ?_
          refine lv_iload hx hb dX7_groups_114 (lv_at hl 5 rfl) ?_
          refine lv_iload hx hb dX7_groups_116 (lv_at hl 4 rfl) ?_
          refine z_if_ge (tgt := 130) hx hb (by decide) dX7_groups_118 (by decide) (fun b_42 => ?_) (fun b_42 => ?_)
          rotate_left
          · exact absurd b_42 (by decide)
          refine lv_iload hx hb dX7_groups_130 (lv_at hl 4 rfl) ?_
          obtain ⟨c_rect_43, c_group_44, c_turn_45, c_size_46, e_47, h⟩ := bd4_e h
          refine z_gov (wc := (zMo cI cZ (h_M) (q_M) (c_s) (c_past) (c_kept) (c_isKept) (c_pasts) (c_text) (c_typed) (c_rect) (c_item) (c_items) (c_itemLevel) (c_treated) (c_from) (c_group) (c_turn) (c_size) (c_old) (c_aside) (c_begin) (c_level) (c_asides) (c_sorted) (c_spot) (c_rectangles) (c_parts) (c_visited))) (wn := fun u_48 => (zMo cI cZ h_M q_M c_s c_past c_kept c_isKept c_pasts c_text c_typed c_rect_43 c_item c_items c_itemLevel c_treated c_from c_group_44 c_turn_45 c_size_46 c_old c_aside c_begin c_level c_asides c_sorted c_spot c_rectangles c_parts c_visited)) (wr := []) (va_runV (As := [vI x5_41, vI 1]) (rest := []) hF.1 (c_Mo_joins l D cI cZ cT h_M q_M c_s c_past c_kept c_isKept c_pasts c_text c_typed c_rect c_item c_items c_itemLevel c_treated c_from c_group c_turn c_size c_old c_aside c_begin c_level c_asides c_sorted c_spot c_rectangles c_parts c_visited x5_41 1 H.size (c_rect_43, c_group_44, c_turn_45, c_size_46) e_47) (cwV 2 hts (zgV wm986 wm988 wm56 wm89 wm989) rfl rfl rfl (by decide +kernel) ⟨Nat.le_of_ble_eq_true rfl, Nat.le_of_ble_eq_true rfl⟩) ⟨zP.blind, va_recv hK (z_subP (ws' := (zMo cI cZ (h_M) (q_M) (c_s) (c_past) (c_kept) (c_isKept) (c_pasts) (c_text) (c_typed) (c_rect) (c_item) (c_items) (c_itemLevel) (c_treated) (c_from) (c_group) (c_turn) (c_size) (c_old) (c_aside) (c_begin) (c_level) (c_asides) (c_sorted) (c_spot) (c_rectangles) (c_parts) (c_visited))) hP [0, 1, 2, 3, 4, 5, 6, 7, 8, 9, 10, 11, 12, 13, 14, 15, 16, 17, 18] rfl) (ci := 7) (q0 := 0) rfl rfl, zP.enter (z_subP (ws' := (zMo cI cZ (h_M) (q_M) (c_s) (c_past) (c_kept) (c_isKept) (c_pasts) (c_text) (c_typed) (c_rect) (c_item) (c_items) (c_itemLevel) (c_treated) (c_from) (c_group) (c_turn) (c_size) (c_old) (c_aside) (c_begin) (c_level) (c_asides) (c_sorted) (c_spot) (c_rectangles) (c_parts) (c_visited))) hP [0, 1, 2, 3, 4, 5, 6, 7, 8, 9, 10, 11, 12, 13, 14, 15, 16, 17, 18] rfl) hK (hD.sub [0, 1, 2, 3, 4, 5, 6, 7, 8, 9, 10, 11, 12, 13, 14, 15, 16, 17, 18] (by decide) rfl) hN⟩ rfl rfl hl.1 rfl (lv_room (Nat.le_of_ble_eq_true rfl)) dX7_groups_132 ⟨Nat.le_refl _, Nat.le_refl _⟩) hP hD hS hA [0, 1, 2, 3, 4, 5, 6, 7, 8, 9, 10, 11, 12, 13, 14, 15, 16, 17, 18] [] [0, 1, 2, 3, 4, 5, 6, 7, 8, 9, 10, 11, 12, 13, 14, 15, 16, 17, 18] rfl rfl (by decide) (fun _ => rfl) (fun u_48 H locs hP hD hS hz => ?_)
          refine lv_iinc (v := Int32.ofInt (x3 + (-1))) (lv' := [(3, vI (x3 + (-1))), (0, .ref h_M), (1, vI x1), (2, vI x2), (4, vI 1), (5, vI x5_41)]) hx hb dX7_groups_135 hl (k := 3) rfl (z_inc _ _) (by decide) rfl (fun ls hl => ?_)
          refine lv_goto (tgt := 39) hx hb dX7_groups_138 (by decide) ?_
          exact ih ((x3 + (-1))) (c_rect_43) (c_group_44) (c_turn_45) (c_size_46) H locs ls h hP hD hS (lv_sub hl [1, 2, 3, 0] rfl)
      · have h := it_n b_18 h
        refine lv_iconst (v := Int32.ofInt 0) hx hb dX7_groups_55 rfl ?_
        refine lv_goto (tgt := 77) hx hb dX7_groups_56 (by decide) ?_
        refine lv_istore (lv' := [(4, vI 0), (0, .ref h_M), (1, vI x1), (2, vI x2), (3, vI x3)]) hx hb dX7_groups_77 hl (by decide) rfl (fun ls hl => ?_)
        refine lv_iconst (v := Int32.ofInt 0) hx hb dX7_groups_79 rfl ?_
        refine lv_istore (lv' := [(5, vI 0), (4, vI 0), (0, .ref h_M), (1, vI x1), (2, vI x2), (3, vI x3)]) hx hb dX7_groups_80 hl (by decide) rfl (fun ls hl => ?_)
        refine lv_iload hx hb dX7_groups_82 (lv_at hl 1 rfl) ?_
        refine z_if_ge (tgt := 97) hx hb (by decide) dX7_groups_84 (by decide) (fun b_49 => ?_) (fun b_49 => ?_)
        rotate_left
        · exact absurd b_49 (by decide)
        refine w_Mo_groups_L97_b D cI cZ cT (h_M) (q_M) (c_s) (c_past) (c_kept) (c_isKept) (c_pasts) (c_text) (c_typed) (c_rect) (c_item) (c_items) (c_itemLevel) (c_treated) (c_from) (c_group) (c_turn) (c_size) (c_old) (c_aside) (c_begin) (c_level) (c_asides) (c_sorted) (c_spot) (c_rectangles) (c_parts) (c_visited) (x1) (x2) (x3) _ _ hF (fun x5_53 H locs ls h hP hD hS hl => ?_) _ (0) _ _ _ h hP hD hS (lv_sub hl [2, 3, 4, 5, 1, 0] rfl)
        refine lv_aload_n hx hb dX7_groups_113 rfl (lv_at hl 0 rfl) ?_
        refine lv_iload hx hb dX7_groups_114 (lv_at hl 5 rfl) ?_
        refine lv_iload hx hb dX7_groups_116 (lv_at hl 4 rfl) ?_
        refine z_if_ge (tgt := 130) hx hb (by decide) dX7_groups_118 (by decide) (fun b_54 => ?_) (fun b_54 => ?_)
        rotate_left
        · exact absurd b_54 (by decide)
        refine lv_iload hx hb dX7_groups_130 (lv_at hl 4 rfl) ?_
        obtain ⟨c_rect_55, c_group_56, c_turn_57, c_size_58, e_59, h⟩ := bd4_e h
        refine z_gov (wc := (zMo cI cZ (h_M) (q_M) (c_s) (c_past) (c_kept) (c_isKept) (c_pasts) (c_text) (c_typed) (c_rect) (c_item) (c_items) (c_itemLevel) (c_treated) (c_from) (c_group) (c_turn) (c_size) (c_old) (c_aside) (c_begin) (c_level) (c_asides) (c_sorted) (c_spot) (c_rectangles) (c_parts) (c_visited))) (wn := fun u_60 => (zMo cI cZ h_M q_M c_s c_past c_kept c_isKept c_pasts c_text c_typed c_rect_55 c_item c_items c_itemLevel c_treated c_from c_group_56 c_turn_57 c_size_58 c_old c_aside c_begin c_level c_asides c_sorted c_spot c_rectangles c_parts c_visited)) (wr := []) (va_runV (As := [vI x5_53, vI 0]) (rest := []) hF.1 (c_Mo_joins l D cI cZ cT h_M q_M c_s c_past c_kept c_isKept c_pasts c_text c_typed c_rect c_item c_items c_itemLevel c_treated c_from c_group c_turn c_size c_old c_aside c_begin c_level c_asides c_sorted c_spot c_rectangles c_parts c_visited x5_53 0 H.size (c_rect_55, c_group_56, c_turn_57, c_size_58) e_59) (cwV 2 hts (zgV wm986 wm988 wm56 wm89 wm989) rfl rfl rfl (by decide +kernel) ⟨Nat.le_of_ble_eq_true rfl, Nat.le_of_ble_eq_true rfl⟩) ⟨zP.blind, va_recv hK (z_subP (ws' := (zMo cI cZ (h_M) (q_M) (c_s) (c_past) (c_kept) (c_isKept) (c_pasts) (c_text) (c_typed) (c_rect) (c_item) (c_items) (c_itemLevel) (c_treated) (c_from) (c_group) (c_turn) (c_size) (c_old) (c_aside) (c_begin) (c_level) (c_asides) (c_sorted) (c_spot) (c_rectangles) (c_parts) (c_visited))) hP [0, 1, 2, 3, 4, 5, 6, 7, 8, 9, 10, 11, 12, 13, 14, 15, 16, 17, 18] rfl) (ci := 7) (q0 := 0) rfl rfl, zP.enter (z_subP (ws' := (zMo cI cZ (h_M) (q_M) (c_s) (c_past) (c_kept) (c_isKept) (c_pasts) (c_text) (c_typed) (c_rect) (c_item) (c_items) (c_itemLevel) (c_treated) (c_from) (c_group) (c_turn) (c_size) (c_old) (c_aside) (c_begin) (c_level) (c_asides) (c_sorted) (c_spot) (c_rectangles) (c_parts) (c_visited))) hP [0, 1, 2, 3, 4, 5, 6, 7, 8, 9, 10, 11, 12, 13, 14, 15, 16, 17, 18] rfl) hK (hD.sub [0, 1, 2, 3, 4, 5, 6, 7, 8, 9, 10, 11, 12, 13, 14, 15, 16, 17, 18] (by decide) rfl) hN⟩ rfl rfl hl.1 rfl (lv_room (Nat.le_of_ble_eq_true rfl)) dX7_groups_132 ⟨Nat.le_refl _, Nat.le_refl _⟩) hP hD hS hA [0, 1, 2, 3, 4, 5, 6, 7, 8, 9, 10, 11, 12, 13, 14, 15, 16, 17, 18] [] [0, 1, 2, 3, 4, 5, 6, 7, 8, 9, 10, 11, 12, 13, 14, 15, 16, 17, 18] rfl rfl (by decide) (fun _ => rfl) (fun u_60 H locs hP hD hS hz => ?_)
        refine lv_iinc (v := Int32.ofInt (x3 + (-1))) (lv' := [(3, vI (x3 + (-1))), (0, .ref h_M), (1, vI x1), (2, vI x2), (4, vI 0), (5, vI x5_53)]) hx hb dX7_groups_135 hl (k := 3) rfl (z_inc _ _) (by decide) rfl (fun ls hl => ?_)
        refine lv_goto (tgt := 39) hx hb dX7_groups_138 (by decide) ?_
        exact ih ((x3 + (-1))) (c_rect_55) (c_group_56) (c_turn_57) (c_size_58) H locs ls h hP hD hS (lv_sub hl [1, 2, 3, 0] rfl)
set_option maxHeartbeats 4000000 in
set_option maxRecDepth 100000 in
theorem c_Mo_groups (l : Launch) (D : va_G) (cI cZ cT : ClassId) (h_M : Nat) (q_M : Nat → Nat) (c_s : Nat → Int) (c_past : Nat → Int) (c_kept : Nat → Int) (c_isKept : Int) (c_pasts : Int) (c_text : Nat → Int) (c_typed : Int) (c_rect : Nat → Int) (c_item : Nat → Int) (c_items : Int) (c_itemLevel : Int) (c_treated : Nat → Int) (c_from : Nat → Int) (c_group : Nat → Int) (c_turn : Nat → Int) (c_size : Nat → Int) (c_old : Nat → Int) (c_aside : Nat → Int) (c_begin : Nat → Int) (c_level : Nat → Int) (c_asides : Int) (c_sorted : Nat → Int) (c_spot : Int) (c_rectangles : Int) (c_parts : Nat → Int) (c_visited : Nat → Int) (x1 : Int) (sz : Nat) (res : (Nat → Int) × (Nat → Int) × (Nat → Int) × (Nat → Int)) (h : f_Mo_groups c_s c_rect c_group c_turn c_size x1 = some res) : zMv l yX7_groups cX7_groups 6 rm_Mo_groups D (zt cI cZ cT) [.ref h_M, vI x1] ((zMo cI cZ h_M q_M c_s c_past c_kept c_isKept c_pasts c_text c_typed c_rect c_item c_items c_itemLevel c_treated c_from c_group c_turn c_size c_old c_aside c_begin c_level c_asides c_sorted c_spot c_rectangles c_parts c_visited)) sz (fun u => (zMo cI cZ h_M q_M c_s c_past c_kept c_isKept c_pasts c_text c_typed (res.1) c_item c_items c_itemLevel c_treated c_from (res.2.1) (res.2.2.1) (res.2.2.2) c_old c_aside c_begin c_level c_asides c_sorted c_spot c_rectangles c_parts c_visited)) 0 0 := by
  refine z_enth (Qc := zQv D (fun u => (zMo cI cZ h_M q_M c_s c_past c_kept c_isKept c_pasts c_text c_typed (res.1) c_item c_items c_itemLevel c_treated c_from (res.2.1) (res.2.2.1) (res.2.2.2) c_old c_aside c_begin c_level c_asides c_sorted c_spot c_rectangles c_parts c_visited))) (by decide) (Nat.le_of_ble_eq_true rfl) (fun p e s m args below meth c A ls H locs hF hP hD hS hl => ?_)
  have hx := hF.1.1
  have hb := hF.1.2.1
  have hml := hF.1.2.2.1
  have hown : s.vm.findClass "RectangleTreeModel" = some m.cls := hF.1.2.2.2.1
  have hts := hF.1.2.2.2.2
  have hr := hF.2.1
  have hlk := hF.2.2.1
  have hK := hF.2.2.2.2.1
  have hN := hF.2.2.2.2.2.1
  have hA := hF.2.2.2.2.2.2
  unfold f_Mo_groups at h
  refine lv_iconst (v := Int32.ofInt 0) hx hb dX7_groups_0 rfl ?_
  refine lv_istore_n (lv' := [(2, vI 0), (0, .ref h_M), (1, vI x1)]) hx hb dX7_groups_1 rfl hl (by decide) rfl (fun ls hl => ?_)
  refine w_Mo_groups_L2 D cI cZ cT (h_M) (q_M) (c_s) (c_past) (c_kept) (c_isKept) (c_pasts) (c_text) (c_typed) (c_rect) (c_item) (c_items) (c_itemLevel) (c_treated) (c_from) (c_turn) (c_size) (c_old) (c_aside) (c_begin) (c_level) (c_asides) (c_sorted) (c_spot) (c_rectangles) (c_parts) (c_visited) (x1) _ _ hF (fun x2_5 c_group_6 H locs ls h hP hD hS hl => ?_) _ (0) (c_group) _ _ _ h hP hD hS (lv_sub hl [1, 2, 0] rfl)
  refine lv_aload_n hx hb dX7_groups_21 rfl (lv_at hl 0 rfl) ?_
  refine lv_iload_n hx hb dX7_groups_22 rfl (lv_at hl 1 rfl) ?_
  obtain ⟨c_rect_7, c_group_8, c_turn_9, c_size_10, e_11, h⟩ := bd4_e h
  refine z_gov (wc := (zMo cI cZ (h_M) (q_M) (c_s) (c_past) (c_kept) (c_isKept) (c_pasts) (c_text) (c_typed) (c_rect) (c_item) (c_items) (c_itemLevel) (c_treated) (c_from) (c_group_6) (c_turn) (c_size) (c_old) (c_aside) (c_begin) (c_level) (c_asides) (c_sorted) (c_spot) (c_rectangles) (c_parts) (c_visited))) (wn := fun u_12 => (zMo cI cZ h_M q_M c_s c_past c_kept c_isKept c_pasts c_text c_typed c_rect_7 c_item c_items c_itemLevel c_treated c_from c_group_8 c_turn_9 c_size_10 c_old c_aside c_begin c_level c_asides c_sorted c_spot c_rectangles c_parts c_visited)) (wr := []) (va_runV (As := [vI x1]) (rest := []) hF.1 (c_Mo_farthest l D cI cZ cT h_M q_M c_s c_past c_kept c_isKept c_pasts c_text c_typed c_rect c_item c_items c_itemLevel c_treated c_from c_group_6 c_turn c_size c_old c_aside c_begin c_level c_asides c_sorted c_spot c_rectangles c_parts c_visited x1 H.size (c_rect_7, c_group_8, c_turn_9, c_size_10) e_11) (cwV 1 hts (zgV wm982 wm984 wm55 wm89 wm985) rfl rfl rfl (by decide +kernel) ⟨Nat.le_of_ble_eq_true rfl, Nat.le_of_ble_eq_true rfl⟩) ⟨zP.blind, va_recv hK (z_subP (ws' := (zMo cI cZ (h_M) (q_M) (c_s) (c_past) (c_kept) (c_isKept) (c_pasts) (c_text) (c_typed) (c_rect) (c_item) (c_items) (c_itemLevel) (c_treated) (c_from) (c_group_6) (c_turn) (c_size) (c_old) (c_aside) (c_begin) (c_level) (c_asides) (c_sorted) (c_spot) (c_rectangles) (c_parts) (c_visited))) hP [0, 1, 2, 3, 4, 5, 6, 7, 8, 9, 10, 11, 12, 13, 14, 15, 16, 17, 18] rfl) (ci := 7) (q0 := 0) rfl rfl, zP.enter (z_subP (ws' := (zMo cI cZ (h_M) (q_M) (c_s) (c_past) (c_kept) (c_isKept) (c_pasts) (c_text) (c_typed) (c_rect) (c_item) (c_items) (c_itemLevel) (c_treated) (c_from) (c_group_6) (c_turn) (c_size) (c_old) (c_aside) (c_begin) (c_level) (c_asides) (c_sorted) (c_spot) (c_rectangles) (c_parts) (c_visited))) hP [0, 1, 2, 3, 4, 5, 6, 7, 8, 9, 10, 11, 12, 13, 14, 15, 16, 17, 18] rfl) hK (hD.sub [0, 1, 2, 3, 4, 5, 6, 7, 8, 9, 10, 11, 12, 13, 14, 15, 16, 17, 18] (by decide) rfl) hN⟩ rfl rfl hl.1 rfl (lv_room (Nat.le_of_ble_eq_true rfl)) dX7_groups_23 ⟨Nat.le_refl _, Nat.le_refl _⟩) hP hD hS hA [0, 1, 2, 3, 4, 5, 6, 7, 8, 9, 10, 11, 12, 13, 14, 15, 16, 17, 18] [] [0, 1, 2, 3, 4, 5, 6, 7, 8, 9, 10, 11, 12, 13, 14, 15, 16, 17, 18] rfl rfl (by decide) (fun _ => rfl) (fun u_12 H locs hP hD hS hz => ?_)
  refine lv_aload_n hx hb dX7_groups_26 rfl (lv_at hl 0 rfl) ?_
  refine va_get (D := D) (ci := 7) (v := .ref (q_M 0)) (C := RX7) (T := TX7) (N := 26) hx hb hts zin7 hown hK hP 0 rfl rfl 0 (by decide) (hts _ wm787) (fun _ h9 => h9) rfl dX7_groups_27 ?_
  refine lv_iconst (v := Int32.ofInt 0) hx hb dX7_groups_30 rfl ?_
  refine z_iald (n := 461) (f := c_s) (i := 0) hx hb hK hP 1 rfl rfl (by decide) (by decide) dX7_groups_31 ?_
  refine lv_iconst (v := Int32.ofInt 2) hx hb dX7_groups_32 rfl ?_
  obtain ⟨g_13, h⟩ := gd_e h
  refine z_idiv hx hb g_13 dX7_groups_33 ?_
  refine lv_istore_n (lv' := [(2, vI ((c_s 0) / 2)), (0, .ref h_M), (1, vI x1)]) hx hb dX7_groups_34 rfl hl (by decide) rfl (fun ls hl => ?_)
  refine lv_iload_n hx hb dX7_groups_35 rfl (lv_at hl 2 rfl) ?_
  refine lv_iconst (v := Int32.ofInt 2) hx hb dX7_groups_36 rfl ?_
  refine z_isub hx hb dX7_groups_37 ?_
  refine lv_istore_n (lv' := [(3, vI (x1 - 2)), (2, vI ((c_s 0) / 2)), (0, .ref h_M), (1, vI x1)]) hx hb dX7_groups_38 rfl hl (by decide) rfl (fun ls hl => ?_)
  refine w_Mo_groups_L39 D cI cZ cT (h_M) (q_M) (c_s) (c_past) (c_kept) (c_isKept) (c_pasts) (c_text) (c_typed) (c_item) (c_items) (c_itemLevel) (c_treated) (c_from) (c_old) (c_aside) (c_begin) (c_level) (c_asides) (c_sorted) (c_spot) (c_rectangles) (c_parts) (c_visited) (x1) (((c_s 0) / 2)) _ _ hF (fun x3_61 c_rect_62 c_group_63 c_turn_64 c_size_65 H locs ls h hP hD hS hl => ?_) _ ((x1 - 2)) (c_rect_7) (c_group_8) (c_turn_9) (c_size_10) _ _ _ h hP hD hS (lv_sub hl [2, 3, 1, 0] rfl)
  obtain rfl := Option.some.inj h
  exact z_vret hx hb hr hlk (fun _ _ => 0) hP hD hS dX7_groups_141
def f_Mo_lays_L50 (c_from : Nat → Int) (c_group : Nat → Int) (c_turn : Nat → Int) (c_old : Nat → Int) (x1 : Int) (x6 : Int) (x7 : Int) (k : Int → Int → (Nat → Int) → Option (Int × (Nat → Int))) : Nat → Int → Int → (Nat → Int) → Option (Int × (Nat → Int))
  | 0, _, _, _ => none
  | n + 1, x5, x8, c_s =>
  gd (0 ≤ (x7 + 1) ∧ (x7 + 1) < ((9 : Nat) : Int)) <| gd (ck x8) <| gd (ck (c_from ((x7 + 1)).toNat)) <| if x8 < (c_from ((x7 + 1)).toNat) then (gd (0 ≤ x7 ∧ x7 < ((8 : Nat) : Int)) <| gd (ck (c_group (x7).toNat)) <| gd (ck x1) <| if (c_group (x7).toNat) = x1 then (gd (ck (c_turn (x7).toNat)) <| gd (ck x6) <| if (c_turn (x7).toNat) = x6 then (gd (0 ≤ x8 ∧ x8 < ((360 : Nat) : Int)) <| gd (0 ≤ (101 + x5) ∧ (101 + x5) < ((461 : Nat) : Int)) <| f_Mo_lays_L50 c_from c_group c_turn c_old x1 x6 x7 k n ((x5 + 1)) ((x8 + 1)) ((up c_s (((101 + x5)).toNat) (c_old (x8).toNat)))) else (k (x5) (x8) (c_s))) else (k (x5) (x8) (c_s))) else (k (x5) (x8) (c_s))
def f_Mo_lays_L35 (c_from : Nat → Int) (c_group : Nat → Int) (c_turn : Nat → Int) (c_old : Nat → Int) (x1 : Int) (x2 : Int) (x6 : Int) (k : Int → Int → (Nat → Int) → Option (Int × (Nat → Int))) : Nat → Int → Int → (Nat → Int) → Option (Int × (Nat → Int))
  | 0, _, _, _ => none
  | n + 1, x5, x7, c_s =>
  gd (ck x7) <| gd (ck x2) <| if x7 < x2 then (gd (0 ≤ x7 ∧ x7 < ((9 : Nat) : Int)) <| f_Mo_lays_L50 (c_from) (c_group) (c_turn) (c_old) (x1) (x6) (x7) (fun x5_23 x8_24 c_s_25 => f_Mo_lays_L35 c_from c_group c_turn c_old x1 x2 x6 k n (x5_23) ((x7 + 1)) (c_s_25)) FU (x5) ((c_from (x7).toNat)) (c_s)) else (k (x5) (x7) (c_s))
def f_Mo_lays_L21 (c_from : Nat → Int) (c_group : Nat → Int) (c_turn : Nat → Int) (c_size : Nat → Int) (c_old : Nat → Int) (x1 : Int) (x2 : Int) (k : Int → Int → (Nat → Int) → Option (Int × (Nat → Int))) : Nat → Int → Int → (Nat → Int) → Option (Int × (Nat → Int))
  | 0, _, _, _ => none
  | n + 1, x5, x6, c_s =>
  gd (0 ≤ x1 ∧ x1 < ((2 : Nat) : Int)) <| gd (ck x6) <| gd (ck (c_size (x1).toNat)) <| if x6 < (c_size (x1).toNat) then (f_Mo_lays_L35 (c_from) (c_group) (c_turn) (c_old) (x1) (x2) (x6) (fun x5_26 x7_27 c_s_28 => f_Mo_lays_L21 c_from c_group c_turn c_size c_old x1 x2 k n (x5_26) ((x6 + 1)) (c_s_28)) FU (x5) (0) (c_s)) else (k (x5) (x6) (c_s))
def f_Mo_lays (c_s : Nat → Int) (c_from : Nat → Int) (c_group : Nat → Int) (c_turn : Nat → Int) (c_size : Nat → Int) (c_old : Nat → Int) (x1 : Int) (x2 : Int) (x3 : Int) (x4 : Int) : Option (Int × (Nat → Int)) :=
  gd (0 ≤ (101 + x4) ∧ (101 + x4) < ((461 : Nat) : Int)) <| f_Mo_lays_L21 (c_from) (c_group) (c_turn) (c_size) (c_old) (x1) (x2) (fun x5_29 x6_30 c_s_31 => some (x5_29, c_s_31)) FU ((x4 + 1)) (0) ((up c_s (((101 + x4)).toNat) x3))
abbrev rm_Mo_lays : Room := ({ frames := 0, cells := 0, slots := 0, locals := 0 } : Room)
set_option maxHeartbeats 4000000 in
set_option maxRecDepth 100000 in
theorem w_Mo_lays_L50 {p : Program} {l : Launch} {e : Env} {s : State} {m : MethodId} {args : Array Value} {below : List Frame} {meth : Method} {c : Code} {A : Nat → Prop} (D : va_G) (cI cZ cT : ClassId) (h_M : Nat) (q_M : Nat → Nat) (c_past : Nat → Int) (c_kept : Nat → Int) (c_isKept : Int) (c_pasts : Int) (c_text : Nat → Int) (c_typed : Int) (c_rect : Nat → Int) (c_item : Nat → Int) (c_items : Int) (c_itemLevel : Int) (c_treated : Nat → Int) (c_from : Nat → Int) (c_group : Nat → Int) (c_turn : Nat → Int) (c_size : Nat → Int) (c_old : Nat → Int) (c_aside : Nat → Int) (c_begin : Nat → Int) (c_level : Nat → Int) (c_asides : Int) (c_sorted : Nat → Int) (c_spot : Int) (c_rectangles : Int) (c_parts : Nat → Int) (c_visited : Nat → Int) (x1 : Int) (x2 : Int) (x6 : Int) (x7 : Int) (res : Int × (Nat → Int)) (k : Int → Int → (Nat → Int) → Option (Int × (Nat → Int))) (hF : zF p m c cX7_lays 9 s args yX7_lays.cls meth (some .int) yX7_lays.name A D (zt cI cZ cT))
    (hk : ∀ (x5 : Int) (x8 : Int) (c_s : Nat → Int) (H : Heap) (locs : List Loc) (ls : Array Slot), k x5 x8 c_s = some res → va_P D vwCl ((zMo cI cZ h_M q_M c_s c_past c_kept c_isKept c_pasts c_text c_typed c_rect c_item c_items c_itemLevel c_treated c_from c_group c_turn c_size c_old c_aside c_begin c_level c_asides c_sorted c_spot c_rectangles c_parts c_visited)) H → va_D A ((zMo cI cZ h_M q_M c_s c_past c_kept c_isKept c_pasts c_text c_typed c_rect c_item c_items c_itemLevel c_treated c_from c_group c_turn c_size c_old c_aside c_begin c_level c_asides c_sorted c_spot c_rectangles c_parts c_visited)) → va_S A s.heap H locs → lv_has ls 9 [(0, .ref h_M), (1, vI x1), (2, vI x2), (5, vI x5), (6, vI x6), (7, vI x7)] → W p l e rm_Mo_lays s m args below meth c H locs 0 0 (MQ below (zQi D (res.1) (fun u => (zMo cI cZ h_M q_M (res.2) c_past c_kept c_isKept c_pasts c_text c_typed c_rect c_item c_items c_itemLevel c_treated c_from c_group c_turn c_size c_old c_aside c_begin c_level c_asides c_sorted c_spot c_rectangles c_parts c_visited)) A) args s 0 0 A) (F0 m 113 ls [])) :
    ∀ (n : Nat) (x5 : Int) (x8 : Int) (c_s : Nat → Int) (H : Heap) (locs : List Loc) (ls : Array Slot), f_Mo_lays_L50 c_from c_group c_turn c_old x1 x6 x7 k n x5 x8 c_s = some res → va_P D vwCl ((zMo cI cZ h_M q_M c_s c_past c_kept c_isKept c_pasts c_text c_typed c_rect c_item c_items c_itemLevel c_treated c_from c_group c_turn c_size c_old c_aside c_begin c_level c_asides c_sorted c_spot c_rectangles c_parts c_visited)) H → va_D A ((zMo cI cZ h_M q_M c_s c_past c_kept c_isKept c_pasts c_text c_typed c_rect c_item c_items c_itemLevel c_treated c_from c_group c_turn c_size c_old c_aside c_begin c_level c_asides c_sorted c_spot c_rectangles c_parts c_visited)) → va_S A s.heap H locs → lv_has ls 9 [(0, .ref h_M), (1, vI x1), (2, vI x2), (5, vI x5), (6, vI x6), (7, vI x7), (8, vI x8)] → W p l e rm_Mo_lays s m args below meth c H locs 0 0 (MQ below (zQi D (res.1) (fun u => (zMo cI cZ h_M q_M (res.2) c_past c_kept c_isKept c_pasts c_text c_typed c_rect c_item c_items c_itemLevel c_treated c_from c_group c_turn c_size c_old c_aside c_begin c_level c_asides c_sorted c_spot c_rectangles c_parts c_visited)) A) args s 0 0 A) (F0 m 50 ls []) := by
  have hx := hF.1.1
  have hb := hF.1.2.1
  have hml := hF.1.2.2.1
  have hown : s.vm.findClass "RectangleTreeModel" = some m.cls := hF.1.2.2.2.1
  have hts := hF.1.2.2.2.2
  have hr := hF.2.1
  have hlk := hF.2.2.1
  have hK := hF.2.2.2.2.1
  have hN := hF.2.2.2.2.2.1
  have hA := hF.2.2.2.2.2.2
  intro n
  induction n with
  | zero => intro x5 x8 c_s H locs ls h; cases h
  | succ n ih =>
    intro x5 x8 c_s H locs ls h hP hD hS hl
    rw [f_Mo_lays_L50] at h
    refine lv_iload hx hb dX7_lays_50 (lv_at hl 6 rfl) ?_
    refine lv_aload_n hx hb dX7_lays_52 rfl (lv_at hl 0 rfl) ?_
    refine va_get (D := D) (ci := 7) (v := .ref (q_M 7)) (C := RX7) (T := TX7) (N := 26) hx hb hts zin7 hown hK hP 0 rfl rfl 12 (by decide) (hts _ wm799) (fun _ h9 => h9) rfl dX7_lays_53 ?_
    refine lv_iload hx hb dX7_lays_56 (lv_at hl 5 rfl) ?_
    refine lv_iconst (v := Int32.ofInt 1) hx hb dX7_lays_58 rfl ?_
    refine z_iadd hx hb dX7_lays_59 ?_
    obtain ⟨g_10, h⟩ := gd_e h
    refine z_iald (n := 9) (f := c_from) (i := (x7 + 1)) hx hb hK hP 8 rfl rfl g_10 (by have := g_10.2; omega) dX7_lays_60 ?_
    obtain ⟨g_11, h⟩ := gd_e h
    obtain ⟨g_12, h⟩ := gd_e h
    refine z_icmp_ge (tgt := 113) hx hb g_11 g_12 dX7_lays_61 (by decide) (fun b_13 => ?_) (fun b_13 => ?_)
    · have h := it_n b_13 h
      exact hk (x5) (x8) (c_s) H locs ls h hP hD hS (lv_sub hl [0, 1, 2, 3, 4, 5] rfl)
    · have h := it_p b_13 h
      refine lv_aload_n hx hb dX7_lays_64 rfl (lv_at hl 0 rfl) ?_
      refine va_get (D := D) (ci := 7) (v := .ref (q_M 8)) (C := RX7) (T := TX7) (N := 26) hx hb hts zin7 hown hK hP 0 rfl rfl 13 (by decide) (hts _ wm800) (fun _ h9 => h9) rfl dX7_lays_65 ?_
      refine lv_iload hx hb dX7_lays_68 (lv_at hl 5 rfl) ?_
      obtain ⟨g_14, h⟩ := gd_e h
      refine z_iald (n := 8) (f := c_group) (i := x7) hx hb hK hP 9 rfl rfl g_14 (by have := g_14.2; omega) dX7_lays_70 ?_
      refine lv_iload_n hx hb dX7_lays_71 rfl (lv_at hl 1 rfl) ?_
      obtain ⟨g_15, h⟩ := gd_e h
      obtain ⟨g_16, h⟩ := gd_e h
      refine z_icmp_ne (tgt := 113) hx hb g_15 g_16 dX7_lays_72 (by decide) (fun b_17 => ?_) (fun b_17 => ?_)
      · have h := it_n b_17 h
        exact hk (x5) (x8) (c_s) H locs ls h hP hD hS (lv_sub hl [0, 1, 2, 3, 4, 5] rfl)
      · have h := it_p b_17 h
        refine lv_aload_n hx hb dX7_lays_75 rfl (lv_at hl 0 rfl) ?_
        refine va_get (D := D) (ci := 7) (v := .ref (q_M 9)) (C := RX7) (T := TX7) (N := 26) hx hb hts zin7 hown hK hP 0 rfl rfl 14 (by decide) (hts _ wm801) (fun _ h9 => h9) rfl dX7_lays_76 ?_
        refine lv_iload hx hb dX7_lays_79 (lv_at hl 5 rfl) ?_
        refine z_iald (n := 8) (f := c_turn) (i := x7) hx hb hK hP 10 rfl rfl g_14 (by have := g_14.2; omega) dX7_lays_81 ?_
        refine lv_iload hx hb dX7_lays_82 (lv_at hl 4 rfl) ?_
        obtain ⟨g_18, h⟩ := gd_e h
        obtain ⟨g_19, h⟩ := gd_e h
        refine z_icmp_ne (tgt := 113) hx hb g_18 g_19 dX7_lays_84 (by decide) (fun b_20 => ?_) (fun b_20 => ?_)
        · have h := it_n b_20 h
          exact hk (x5) (x8) (c_s) H locs ls h hP hD hS (lv_sub hl [0, 1, 2, 3, 4, 5] rfl)
        · have h := it_p b_20 h
          refine lv_aload_n hx hb dX7_lays_87 rfl (lv_at hl 0 rfl) ?_
          refine va_get (D := D) (ci := 7) (v := .ref (q_M 0)) (C := RX7) (T := TX7) (N := 26) hx hb hts zin7 hown hK hP 0 rfl rfl 0 (by decide) (hts _ wm787) (fun _ h9 => h9) rfl dX7_lays_88 ?_
          refine lv_bipush (v := Int32.ofInt 101) hx hb dX7_lays_91 (by decide +kernel) ?_
          refine lv_iload hx hb dX7_lays_93 (lv_at hl 3 rfl) ?_
          refine z_iadd hx hb dX7_lays_95 ?_
          refine lv_aload_n hx hb dX7_lays_96 rfl (lv_at hl 0 rfl) ?_
          refine va_get (D := D) (ci := 7) (v := .ref (q_M 11)) (C := RX7) (T := TX7) (N := 26) hx hb hts zin7 hown hK hP 0 rfl rfl 16 (by decide) (hts _ wm803) (fun _ h9 => h9) rfl dX7_lays_97 ?_
          refine lv_iload hx hb dX7_lays_100 (lv_at hl 6 rfl) ?_
          obtain ⟨g_21, h⟩ := gd_e h
          refine z_iald (n := 360) (f := c_old) (i := x8) hx hb hK hP 12 rfl rfl g_21 (by have := g_21.2; omega) dX7_lays_102 ?_
          obtain ⟨g_22, h⟩ := gd_e h
          refine z_iast (n := 461) (f := c_s) (i := (101 + x5)) (x := (c_old (x8).toNat)) (ws' := (zMo cI cZ h_M q_M (up c_s (((101 + x5)).toNat) (c_old (x8).toNat)) c_past c_kept c_isKept c_pasts c_text c_typed c_rect c_item c_items c_itemLevel c_treated c_from c_group c_turn c_size c_old c_aside c_begin c_level c_asides c_sorted c_spot c_rectangles c_parts c_visited)) hx hb hK hP hD hS 1 rfl rfl g_22 (by have := g_22.2; omega) dX7_lays_103 rfl (fun H locs hP hD hS => ?_)
          refine lv_iinc (v := Int32.ofInt (x5 + 1)) (lv' := [(5, vI (x5 + 1)), (0, .ref h_M), (1, vI x1), (2, vI x2), (6, vI x6), (7, vI x7), (8, vI x8)]) hx hb dX7_lays_104 hl (k := 3) rfl (z_inc _ _) (by decide) rfl (fun ls hl => ?_)
          refine lv_iinc (v := Int32.ofInt (x8 + 1)) (lv' := [(8, vI (x8 + 1)), (5, vI (x5 + 1)), (0, .ref h_M), (1, vI x1), (2, vI x2), (6, vI x6), (7, vI x7)]) hx hb dX7_lays_107 hl (k := 6) rfl (z_inc _ _) (by decide) rfl (fun ls hl => ?_)
          refine lv_goto (tgt := 50) hx hb dX7_lays_110 (by decide) ?_
          exact ih ((x5 + 1)) ((x8 + 1)) ((up c_s (((101 + x5)).toNat) (c_old (x8).toNat))) H locs ls h hP hD hS (lv_sub hl [2, 3, 4, 1, 5, 6, 0] rfl)
set_option maxHeartbeats 4000000 in
set_option maxRecDepth 100000 in
theorem w_Mo_lays_L35 {p : Program} {l : Launch} {e : Env} {s : State} {m : MethodId} {args : Array Value} {below : List Frame} {meth : Method} {c : Code} {A : Nat → Prop} (D : va_G) (cI cZ cT : ClassId) (h_M : Nat) (q_M : Nat → Nat) (c_past : Nat → Int) (c_kept : Nat → Int) (c_isKept : Int) (c_pasts : Int) (c_text : Nat → Int) (c_typed : Int) (c_rect : Nat → Int) (c_item : Nat → Int) (c_items : Int) (c_itemLevel : Int) (c_treated : Nat → Int) (c_from : Nat → Int) (c_group : Nat → Int) (c_turn : Nat → Int) (c_size : Nat → Int) (c_old : Nat → Int) (c_aside : Nat → Int) (c_begin : Nat → Int) (c_level : Nat → Int) (c_asides : Int) (c_sorted : Nat → Int) (c_spot : Int) (c_rectangles : Int) (c_parts : Nat → Int) (c_visited : Nat → Int) (x1 : Int) (x2 : Int) (x6 : Int) (res : Int × (Nat → Int)) (k : Int → Int → (Nat → Int) → Option (Int × (Nat → Int))) (hF : zF p m c cX7_lays 9 s args yX7_lays.cls meth (some .int) yX7_lays.name A D (zt cI cZ cT))
    (hk : ∀ (x5 : Int) (x7 : Int) (c_s : Nat → Int) (H : Heap) (locs : List Loc) (ls : Array Slot), k x5 x7 c_s = some res → va_P D vwCl ((zMo cI cZ h_M q_M c_s c_past c_kept c_isKept c_pasts c_text c_typed c_rect c_item c_items c_itemLevel c_treated c_from c_group c_turn c_size c_old c_aside c_begin c_level c_asides c_sorted c_spot c_rectangles c_parts c_visited)) H → va_D A ((zMo cI cZ h_M q_M c_s c_past c_kept c_isKept c_pasts c_text c_typed c_rect c_item c_items c_itemLevel c_treated c_from c_group c_turn c_size c_old c_aside c_begin c_level c_asides c_sorted c_spot c_rectangles c_parts c_visited)) → va_S A s.heap H locs → lv_has ls 9 [(0, .ref h_M), (1, vI x1), (2, vI x2), (5, vI x5), (6, vI x6)] → W p l e rm_Mo_lays s m args below meth c H locs 0 0 (MQ below (zQi D (res.1) (fun u => (zMo cI cZ h_M q_M (res.2) c_past c_kept c_isKept c_pasts c_text c_typed c_rect c_item c_items c_itemLevel c_treated c_from c_group c_turn c_size c_old c_aside c_begin c_level c_asides c_sorted c_spot c_rectangles c_parts c_visited)) A) args s 0 0 A) (F0 m 119 ls [])) :
    ∀ (n : Nat) (x5 : Int) (x7 : Int) (c_s : Nat → Int) (H : Heap) (locs : List Loc) (ls : Array Slot), f_Mo_lays_L35 c_from c_group c_turn c_old x1 x2 x6 k n x5 x7 c_s = some res → va_P D vwCl ((zMo cI cZ h_M q_M c_s c_past c_kept c_isKept c_pasts c_text c_typed c_rect c_item c_items c_itemLevel c_treated c_from c_group c_turn c_size c_old c_aside c_begin c_level c_asides c_sorted c_spot c_rectangles c_parts c_visited)) H → va_D A ((zMo cI cZ h_M q_M c_s c_past c_kept c_isKept c_pasts c_text c_typed c_rect c_item c_items c_itemLevel c_treated c_from c_group c_turn c_size c_old c_aside c_begin c_level c_asides c_sorted c_spot c_rectangles c_parts c_visited)) → va_S A s.heap H locs → lv_has ls 9 [(0, .ref h_M), (1, vI x1), (2, vI x2), (5, vI x5), (6, vI x6), (7, vI x7)] → W p l e rm_Mo_lays s m args below meth c H locs 0 0 (MQ below (zQi D (res.1) (fun u => (zMo cI cZ h_M q_M (res.2) c_past c_kept c_isKept c_pasts c_text c_typed c_rect c_item c_items c_itemLevel c_treated c_from c_group c_turn c_size c_old c_aside c_begin c_level c_asides c_sorted c_spot c_rectangles c_parts c_visited)) A) args s 0 0 A) (F0 m 35 ls []) := by
  have hx := hF.1.1
  have hb := hF.1.2.1
  have hml := hF.1.2.2.1
  have hown : s.vm.findClass "RectangleTreeModel" = some m.cls := hF.1.2.2.2.1
  have hts := hF.1.2.2.2.2
  have hr := hF.2.1
  have hlk := hF.2.2.1
  have hK := hF.2.2.2.2.1
  have hN := hF.2.2.2.2.2.1
  have hA := hF.2.2.2.2.2.2
  intro n
  induction n with
  | zero => intro x5 x7 c_s H locs ls h; cases h
  | succ n ih =>
    intro x5 x7 c_s H locs ls h hP hD hS hl
    rw [f_Mo_lays_L35] at h
    refine lv_iload hx hb dX7_lays_35 (lv_at hl 5 rfl) ?_
    refine lv_iload_n hx hb dX7_lays_37 rfl (lv_at hl 2 rfl) ?_
    obtain ⟨g_6, h⟩ := gd_e h
    obtain ⟨g_7, h⟩ := gd_e h
    refine z_icmp_ge (tgt := 119) hx hb g_6 g_7 dX7_lays_38 (by decide) (fun b_8 => ?_) (fun b_8 => ?_)
    · have h := it_n b_8 h
      exact hk (x5) (x7) (c_s) H locs ls h hP hD hS (lv_sub hl [0, 1, 2, 3, 4] rfl)
    · have h := it_p b_8 h
      refine lv_aload_n hx hb dX7_lays_41 rfl (lv_at hl 0 rfl) ?_
      refine va_get (D := D) (ci := 7) (v := .ref (q_M 7)) (C := RX7) (T := TX7) (N := 26) hx hb hts zin7 hown hK hP 0 rfl rfl 12 (by decide) (hts _ wm799) (fun _ h9 => h9) rfl dX7_lays_42 ?_
      refine lv_iload hx hb dX7_lays_45 (lv_at hl 5 rfl) ?_
      obtain ⟨g_9, h⟩ := gd_e h
      refine z_iald (n := 9) (f := c_from) (i := x7) hx hb hK hP 8 rfl rfl g_9 (by have := g_9.2; omega) dX7_lays_47 ?_
      refine lv_istore (lv' := [(8, vI (c_from (x7).toNat)), (0, .ref h_M), (1, vI x1), (2, vI x2), (5, vI x5), (6, vI x6), (7, vI x7)]) hx hb dX7_lays_48 hl (by decide) rfl (fun ls hl => ?_)
      refine w_Mo_lays_L50 D cI cZ cT (h_M) (q_M) (c_past) (c_kept) (c_isKept) (c_pasts) (c_text) (c_typed) (c_rect) (c_item) (c_items) (c_itemLevel) (c_treated) (c_from) (c_group) (c_turn) (c_size) (c_old) (c_aside) (c_begin) (c_level) (c_asides) (c_sorted) (c_spot) (c_rectangles) (c_parts) (c_visited) (x1) (x2) (x6) (x7) _ _ hF (fun x5_23 x8_24 c_s_25 H locs ls h hP hD hS hl => ?_) _ (x5) ((c_from (x7).toNat)) (c_s) _ _ _ h hP hD hS (lv_sub hl [1, 2, 3, 4, 5, 6, 0] rfl)
      refine lv_iinc (v := Int32.ofInt (x7 + 1)) (lv' := [(7, vI (x7 + 1)), (0, .ref h_M), (1, vI x1), (2, vI x2), (5, vI x5_23), (6, vI x6)]) hx hb dX7_lays_113 hl (k := 5) rfl (z_inc _ _) (by decide) rfl (fun ls hl => ?_)
      refine lv_goto (tgt := 35) hx hb dX7_lays_116 (by decide) ?_
      exact ih (x5_23) ((x7 + 1)) (c_s_25) H locs ls h hP hD hS (lv_sub hl [1, 2, 3, 4, 5, 0] rfl)
set_option maxHeartbeats 4000000 in
set_option maxRecDepth 100000 in
theorem w_Mo_lays_L21 {p : Program} {l : Launch} {e : Env} {s : State} {m : MethodId} {args : Array Value} {below : List Frame} {meth : Method} {c : Code} {A : Nat → Prop} (D : va_G) (cI cZ cT : ClassId) (h_M : Nat) (q_M : Nat → Nat) (c_past : Nat → Int) (c_kept : Nat → Int) (c_isKept : Int) (c_pasts : Int) (c_text : Nat → Int) (c_typed : Int) (c_rect : Nat → Int) (c_item : Nat → Int) (c_items : Int) (c_itemLevel : Int) (c_treated : Nat → Int) (c_from : Nat → Int) (c_group : Nat → Int) (c_turn : Nat → Int) (c_size : Nat → Int) (c_old : Nat → Int) (c_aside : Nat → Int) (c_begin : Nat → Int) (c_level : Nat → Int) (c_asides : Int) (c_sorted : Nat → Int) (c_spot : Int) (c_rectangles : Int) (c_parts : Nat → Int) (c_visited : Nat → Int) (x1 : Int) (x2 : Int) (res : Int × (Nat → Int)) (k : Int → Int → (Nat → Int) → Option (Int × (Nat → Int))) (hF : zF p m c cX7_lays 9 s args yX7_lays.cls meth (some .int) yX7_lays.name A D (zt cI cZ cT))
    (hk : ∀ (x5 : Int) (x6 : Int) (c_s : Nat → Int) (H : Heap) (locs : List Loc) (ls : Array Slot), k x5 x6 c_s = some res → va_P D vwCl ((zMo cI cZ h_M q_M c_s c_past c_kept c_isKept c_pasts c_text c_typed c_rect c_item c_items c_itemLevel c_treated c_from c_group c_turn c_size c_old c_aside c_begin c_level c_asides c_sorted c_spot c_rectangles c_parts c_visited)) H → va_D A ((zMo cI cZ h_M q_M c_s c_past c_kept c_isKept c_pasts c_text c_typed c_rect c_item c_items c_itemLevel c_treated c_from c_group c_turn c_size c_old c_aside c_begin c_level c_asides c_sorted c_spot c_rectangles c_parts c_visited)) → va_S A s.heap H locs → lv_has ls 9 [(5, vI x5)] → W p l e rm_Mo_lays s m args below meth c H locs 0 0 (MQ below (zQi D (res.1) (fun u => (zMo cI cZ h_M q_M (res.2) c_past c_kept c_isKept c_pasts c_text c_typed c_rect c_item c_items c_itemLevel c_treated c_from c_group c_turn c_size c_old c_aside c_begin c_level c_asides c_sorted c_spot c_rectangles c_parts c_visited)) A) args s 0 0 A) (F0 m 125 ls [])) :
    ∀ (n : Nat) (x5 : Int) (x6 : Int) (c_s : Nat → Int) (H : Heap) (locs : List Loc) (ls : Array Slot), f_Mo_lays_L21 c_from c_group c_turn c_size c_old x1 x2 k n x5 x6 c_s = some res → va_P D vwCl ((zMo cI cZ h_M q_M c_s c_past c_kept c_isKept c_pasts c_text c_typed c_rect c_item c_items c_itemLevel c_treated c_from c_group c_turn c_size c_old c_aside c_begin c_level c_asides c_sorted c_spot c_rectangles c_parts c_visited)) H → va_D A ((zMo cI cZ h_M q_M c_s c_past c_kept c_isKept c_pasts c_text c_typed c_rect c_item c_items c_itemLevel c_treated c_from c_group c_turn c_size c_old c_aside c_begin c_level c_asides c_sorted c_spot c_rectangles c_parts c_visited)) → va_S A s.heap H locs → lv_has ls 9 [(0, .ref h_M), (1, vI x1), (2, vI x2), (5, vI x5), (6, vI x6)] → W p l e rm_Mo_lays s m args below meth c H locs 0 0 (MQ below (zQi D (res.1) (fun u => (zMo cI cZ h_M q_M (res.2) c_past c_kept c_isKept c_pasts c_text c_typed c_rect c_item c_items c_itemLevel c_treated c_from c_group c_turn c_size c_old c_aside c_begin c_level c_asides c_sorted c_spot c_rectangles c_parts c_visited)) A) args s 0 0 A) (F0 m 21 ls []) := by
  have hx := hF.1.1
  have hb := hF.1.2.1
  have hml := hF.1.2.2.1
  have hown : s.vm.findClass "RectangleTreeModel" = some m.cls := hF.1.2.2.2.1
  have hts := hF.1.2.2.2.2
  have hr := hF.2.1
  have hlk := hF.2.2.1
  have hK := hF.2.2.2.2.1
  have hN := hF.2.2.2.2.2.1
  have hA := hF.2.2.2.2.2.2
  intro n
  induction n with
  | zero => intro x5 x6 c_s H locs ls h; cases h
  | succ n ih =>
    intro x5 x6 c_s H locs ls h hP hD hS hl
    rw [f_Mo_lays_L21] at h
    refine lv_iload hx hb dX7_lays_21 (lv_at hl 4 rfl) ?_
    refine lv_aload_n hx hb dX7_lays_23 rfl (lv_at hl 0 rfl) ?_
    refine va_get (D := D) (ci := 7) (v := .ref (q_M 10)) (C := RX7) (T := TX7) (N := 26) hx hb hts zin7 hown hK hP 0 rfl rfl 15 (by decide) (hts _ wm802) (fun _ h9 => h9) rfl dX7_lays_24 ?_
    refine lv_iload_n hx hb dX7_lays_27 rfl (lv_at hl 1 rfl) ?_
    obtain ⟨g_2, h⟩ := gd_e h
    refine z_iald (n := 2) (f := c_size) (i := x1) hx hb hK hP 11 rfl rfl g_2 (by have := g_2.2; omega) dX7_lays_28 ?_
    obtain ⟨g_3, h⟩ := gd_e h
    obtain ⟨g_4, h⟩ := gd_e h
    refine z_icmp_ge (tgt := 125) hx hb g_3 g_4 dX7_lays_29 (by decide) (fun b_5 => ?_) (fun b_5 => ?_)
    · have h := it_n b_5 h
      exact hk (x5) (x6) (c_s) H locs ls h hP hD hS (lv_sub hl [3] rfl)
    · have h := it_p b_5 h
      refine lv_iconst (v := Int32.ofInt 0) hx hb dX7_lays_32 rfl ?_
      refine lv_istore (lv' := [(7, vI 0), (0, .ref h_M), (1, vI x1), (2, vI x2), (5, vI x5), (6, vI x6)]) hx hb dX7_lays_33 hl (by decide) rfl (fun ls hl => ?_)
      refine w_Mo_lays_L35 D cI cZ cT (h_M) (q_M) (c_past) (c_kept) (c_isKept) (c_pasts) (c_text) (c_typed) (c_rect) (c_item) (c_items) (c_itemLevel) (c_treated) (c_from) (c_group) (c_turn) (c_size) (c_old) (c_aside) (c_begin) (c_level) (c_asides) (c_sorted) (c_spot) (c_rectangles) (c_parts) (c_visited) (x1) (x2) (x6) _ _ hF (fun x5_26 x7_27 c_s_28 H locs ls h hP hD hS hl => ?_) _ (x5) (0) (c_s) _ _ _ h hP hD hS (lv_sub hl [1, 2, 3, 4, 5, 0] rfl)
      refine lv_iinc (v := Int32.ofInt (x6 + 1)) (lv' := [(6, vI (x6 + 1)), (0, .ref h_M), (1, vI x1), (2, vI x2), (5, vI x5_26)]) hx hb dX7_lays_119 hl (k := 4) rfl (z_inc _ _) (by decide) rfl (fun ls hl => ?_)
      refine lv_goto (tgt := 21) hx hb dX7_lays_122 (by decide) ?_
      exact ih (x5_26) ((x6 + 1)) (c_s_28) H locs ls h hP hD hS (lv_sub hl [1, 2, 3, 4, 0] rfl)
set_option maxHeartbeats 4000000 in
set_option maxRecDepth 100000 in
theorem c_Mo_lays (l : Launch) (D : va_G) (cI cZ cT : ClassId) (h_M : Nat) (q_M : Nat → Nat) (c_s : Nat → Int) (c_past : Nat → Int) (c_kept : Nat → Int) (c_isKept : Int) (c_pasts : Int) (c_text : Nat → Int) (c_typed : Int) (c_rect : Nat → Int) (c_item : Nat → Int) (c_items : Int) (c_itemLevel : Int) (c_treated : Nat → Int) (c_from : Nat → Int) (c_group : Nat → Int) (c_turn : Nat → Int) (c_size : Nat → Int) (c_old : Nat → Int) (c_aside : Nat → Int) (c_begin : Nat → Int) (c_level : Nat → Int) (c_asides : Int) (c_sorted : Nat → Int) (c_spot : Int) (c_rectangles : Int) (c_parts : Nat → Int) (c_visited : Nat → Int) (x1 : Int) (x2 : Int) (x3 : Int) (x4 : Int) (sz : Nat) (res : Int × (Nat → Int)) (h : f_Mo_lays c_s c_from c_group c_turn c_size c_old x1 x2 x3 x4 = some res) : zMi l yX7_lays cX7_lays 9 rm_Mo_lays D (zt cI cZ cT) [.ref h_M, vI x1, vI x2, vI x3, vI x4] ((zMo cI cZ h_M q_M c_s c_past c_kept c_isKept c_pasts c_text c_typed c_rect c_item c_items c_itemLevel c_treated c_from c_group c_turn c_size c_old c_aside c_begin c_level c_asides c_sorted c_spot c_rectangles c_parts c_visited)) sz (res.1) (fun u => (zMo cI cZ h_M q_M (res.2) c_past c_kept c_isKept c_pasts c_text c_typed c_rect c_item c_items c_itemLevel c_treated c_from c_group c_turn c_size c_old c_aside c_begin c_level c_asides c_sorted c_spot c_rectangles c_parts c_visited)) 0 0 := by
  refine z_enth (Qc := zQi D (res.1) (fun u => (zMo cI cZ h_M q_M (res.2) c_past c_kept c_isKept c_pasts c_text c_typed c_rect c_item c_items c_itemLevel c_treated c_from c_group c_turn c_size c_old c_aside c_begin c_level c_asides c_sorted c_spot c_rectangles c_parts c_visited))) (by decide) (Nat.le_of_ble_eq_true rfl) (fun p e s m args below meth c A ls H locs hF hP hD hS hl => ?_)
  have hx := hF.1.1
  have hb := hF.1.2.1
  have hml := hF.1.2.2.1
  have hown : s.vm.findClass "RectangleTreeModel" = some m.cls := hF.1.2.2.2.1
  have hts := hF.1.2.2.2.2
  have hr := hF.2.1
  have hlk := hF.2.2.1
  have hK := hF.2.2.2.2.1
  have hN := hF.2.2.2.2.2.1
  have hA := hF.2.2.2.2.2.2
  unfold f_Mo_lays at h
  refine lv_iload hx hb dX7_lays_0 (lv_at hl 4 rfl) ?_
  refine lv_istore (lv' := [(5, vI x4), (0, .ref h_M), (1, vI x1), (2, vI x2), (3, vI x3), (4, vI x4)]) hx hb dX7_lays_2 hl (by decide) rfl (fun ls hl => ?_)
  refine lv_aload_n hx hb dX7_lays_4 rfl (lv_at hl 1 rfl) ?_
  refine va_get (D := D) (ci := 7) (v := .ref (q_M 0)) (C := RX7) (T := TX7) (N := 26) hx hb hts zin7 hown hK hP 0 rfl rfl 0 (by decide) (hts _ wm787) (fun _ h9 => h9) rfl dX7_lays_5 ?_
  refine lv_bipush (v := Int32.ofInt 101) hx hb dX7_lays_8 (by decide +kernel) ?_
  refine lv_iload hx hb dX7_lays_10 (lv_at hl 0 rfl) ?_
  refine z_iadd hx hb dX7_lays_12 ?_
  refine lv_iload_n hx hb dX7_lays_13 rfl (lv_at hl 4 rfl) ?_
  obtain ⟨g_1, h⟩ := gd_e h
  refine z_iast (n := 461) (f := c_s) (i := (101 + x4)) (x := x3) (ws' := (zMo cI cZ h_M q_M (up c_s (((101 + x4)).toNat) x3) c_past c_kept c_isKept c_pasts c_text c_typed c_rect c_item c_items c_itemLevel c_treated c_from c_group c_turn c_size c_old c_aside c_begin c_level c_asides c_sorted c_spot c_rectangles c_parts c_visited)) hx hb hK hP hD hS 1 rfl rfl g_1 (by have := g_1.2; omega) dX7_lays_14 rfl (fun H locs hP hD hS => ?_)
  refine lv_iinc (v := Int32.ofInt (x4 + 1)) (lv' := [(5, vI (x4 + 1)), (0, .ref h_M), (1, vI x1), (2, vI x2), (3, vI x3), (4, vI x4)]) hx hb dX7_lays_15 hl (k := 0) rfl (z_inc _ _) (by decide) rfl (fun ls hl => ?_)
  refine lv_iconst (v := Int32.ofInt 0) hx hb dX7_lays_18 rfl ?_
  refine lv_istore (lv' := [(6, vI 0), (5, vI (x4 + 1)), (0, .ref h_M), (1, vI x1), (2, vI x2), (3, vI x3), (4, vI x4)]) hx hb dX7_lays_19 hl (by decide) rfl (fun ls hl => ?_)
  refine w_Mo_lays_L21 D cI cZ cT (h_M) (q_M) (c_past) (c_kept) (c_isKept) (c_pasts) (c_text) (c_typed) (c_rect) (c_item) (c_items) (c_itemLevel) (c_treated) (c_from) (c_group) (c_turn) (c_size) (c_old) (c_aside) (c_begin) (c_level) (c_asides) (c_sorted) (c_spot) (c_rectangles) (c_parts) (c_visited) (x1) (x2) _ _ hF (fun x5_29 x6_30 c_s_31 H locs ls h hP hD hS hl => ?_) _ ((x4 + 1)) (0) ((up c_s (((101 + x4)).toNat) x3)) _ _ _ h hP hD hS (lv_sub hl [2, 3, 4, 1, 0] rfl)
  refine lv_iload hx hb dX7_lays_125 (lv_at hl 0 rfl) ?_
  obtain rfl := Option.some.inj h
  exact z_iret hx hb hr hlk (fun _ _ => 0) hP hD hS dX7_lays_127
def f_Mo_divides_L23 (c_s : Nat → Int) (x2 : Int) (k : Int → Int → (Nat → Int) → (Nat → Int) → Option (Int × (Nat → Int) × (Nat → Int) × (Nat → Int) × (Nat → Int) × (Nat → Int) × (Nat → Int) × (Nat → Int))) : Nat → Int → Int → (Nat → Int) → (Nat → Int) → Option (Int × (Nat → Int) × (Nat → Int) × (Nat → Int) × (Nat → Int) × (Nat → Int) × (Nat → Int) × (Nat → Int))
  | 0, _, _, _, _ => none
  | n + 1, x3, x4, c_rect, c_from =>
  gd (ck x4) <| gd (ck x2) <| if x4 < x2 then (bd1 (f_Mo_boundsAt c_s c_rect x4 x3) <| fun c_rect_7 => gd (0 ≤ x3 ∧ x3 < ((9 : Nat) : Int)) <| bd1 (f_Mo_endOf c_s x4) <| fun r_11 => f_Mo_divides_L23 c_s x2 k n ((x3 + 1)) (r_11) (c_rect_7) ((up c_from ((x3).toNat) x4))) else (k (x3) (x4) (c_rect) (c_from))
def f_Mo_divides_L68 (c_s : Nat → Int) (x2 : Int) (k : Int → (Nat → Int) → Option (Int × (Nat → Int) × (Nat → Int) × (Nat → Int) × (Nat → Int) × (Nat → Int) × (Nat → Int) × (Nat → Int))) : Nat → Int → (Nat → Int) → Option (Int × (Nat → Int) × (Nat → Int) × (Nat → Int) × (Nat → Int) × (Nat → Int) × (Nat → Int) × (Nat → Int))
  | 0, _, _ => none
  | n + 1, x4, c_old =>
  gd (ck x4) <| gd (ck x2) <| if x4 < x2 then (bd1 (f_Mo_at c_s x4) <| fun r_22 => gd (0 ≤ x4 ∧ x4 < ((360 : Nat) : Int)) <| f_Mo_divides_L68 c_s x2 k n ((x4 + 1)) ((up c_old ((x4).toNat) r_22))) else (k (x4) (c_old))
def f_Mo_divides (c_s : Nat → Int) (c_rect : Nat → Int) (c_from : Nat → Int) (c_group : Nat → Int) (c_turn : Nat → Int) (c_size : Nat → Int) (c_old : Nat → Int) (x1 : Int) : Option (Int × (Nat → Int) × (Nat → Int) × (Nat → Int) × (Nat → Int) × (Nat → Int) × (Nat → Int) × (Nat → Int)) :=
  bd1 (f_Mo_endOf (up c_s (2) ((c_s 2) + 1)) x1) <| fun r_1 => f_Mo_divides_L23 ((up c_s (2) ((c_s 2) + 1))) (r_1) (fun x3_14 x4_15 c_rect_16 c_from_17 => gd (0 ≤ x3_14 ∧ x3_14 < ((9 : Nat) : Int)) <| f_Mo_divides_L68 ((up c_s (2) ((c_s 2) + 1))) (r_1) (fun x4_26 c_old_27 => bd4 (f_Mo_groups (up c_s (2) ((c_s 2) + 1)) c_rect_16 c_group c_turn c_size x3_14) <| fun c_rect_28 c_group_29 c_turn_30 c_size_31 => bd1 (f_Mo_at (up c_s (2) ((c_s 2) + 1)) x1) <| fun r_34 => bd1 (f_Mo_opens (up c_s (2) ((c_s 2) + 1)) r_1 1) <| fun c_s_37 => bd2 (f_Mo_lays c_s_37 (up c_from_17 ((x3_14).toNat) r_1) c_group_29 c_turn_30 c_size_31 c_old_27 0 x3_14 r_34 x1) <| fun r_40 c_s_41 => bd2 (f_Mo_lays c_s_41 (up c_from_17 ((x3_14).toNat) r_1) c_group_29 c_turn_30 c_size_31 c_old_27 1 x3_14 r_34 r_40) <| fun r_44 c_s_45 => gd (ck x1) <| if 0 < x1 then (bd1 (f_Mo_above c_s_45 x1) <| fun r_53 => some (r_53, c_s_45, c_rect_28, (up c_from_17 ((x3_14).toNat) r_1), c_group_29, c_turn_30, c_size_31, c_old_27)) else (bd1 (f_Mo_opens c_s_45 0 1) <| fun c_s_50 => some ((-5), (up c_s_50 (101) (r_34 - 1)), c_rect_28, (up c_from_17 ((x3_14).toNat) r_1), c_group_29, c_turn_30, c_size_31, c_old_27))) FU (x1) (c_old)) FU (0) ((x1 + 1)) (c_rect) (c_from)
abbrev rm_Mo_divides : Room := ({ frames := 5, cells := 0, slots := 0, locals := 126 } : Room)
set_option maxHeartbeats 4000000 in
set_option maxRecDepth 100000 in
theorem w_Mo_divides_L23 {p : Program} {l : Launch} {e : Env} {s : State} {m : MethodId} {args : Array Value} {below : List Frame} {meth : Method} {c : Code} {A : Nat → Prop} (D : va_G) (cI cZ cT : ClassId) (h_M : Nat) (q_M : Nat → Nat) (c_s : Nat → Int) (c_past : Nat → Int) (c_kept : Nat → Int) (c_isKept : Int) (c_pasts : Int) (c_text : Nat → Int) (c_typed : Int) (c_item : Nat → Int) (c_items : Int) (c_itemLevel : Int) (c_treated : Nat → Int) (c_group : Nat → Int) (c_turn : Nat → Int) (c_size : Nat → Int) (c_old : Nat → Int) (c_aside : Nat → Int) (c_begin : Nat → Int) (c_level : Nat → Int) (c_asides : Int) (c_sorted : Nat → Int) (c_spot : Int) (c_rectangles : Int) (c_parts : Nat → Int) (c_visited : Nat → Int) (x1 : Int) (x2 : Int) (res : Int × (Nat → Int) × (Nat → Int) × (Nat → Int) × (Nat → Int) × (Nat → Int) × (Nat → Int) × (Nat → Int)) (k : Int → Int → (Nat → Int) → (Nat → Int) → Option (Int × (Nat → Int) × (Nat → Int) × (Nat → Int) × (Nat → Int) × (Nat → Int) × (Nat → Int) × (Nat → Int))) (hF : zF p m c cX7_divides 6 s args yX7_divides.cls meth (some .int) yX7_divides.name A D (zt cI cZ cT))
    (hk : ∀ (x3 : Int) (x4 : Int) (c_rect : Nat → Int) (c_from : Nat → Int) (H : Heap) (locs : List Loc) (ls : Array Slot), k x3 x4 c_rect c_from = some res → va_P D vwCl ((zMo cI cZ h_M q_M c_s c_past c_kept c_isKept c_pasts c_text c_typed c_rect c_item c_items c_itemLevel c_treated c_from c_group c_turn c_size c_old c_aside c_begin c_level c_asides c_sorted c_spot c_rectangles c_parts c_visited)) H → va_D A ((zMo cI cZ h_M q_M c_s c_past c_kept c_isKept c_pasts c_text c_typed c_rect c_item c_items c_itemLevel c_treated c_from c_group c_turn c_size c_old c_aside c_begin c_level c_asides c_sorted c_spot c_rectangles c_parts c_visited)) → va_S A s.heap H locs → lv_has ls 6 [(0, .ref h_M), (1, vI x1), (2, vI x2), (3, vI x3)] → W p l e rm_Mo_divides s m args below meth c H locs 0 0 (MQ below (zQi D (res.1) (fun u => (zMo cI cZ h_M q_M (res.2.1) c_past c_kept c_isKept c_pasts c_text c_typed (res.2.2.1) c_item c_items c_itemLevel c_treated (res.2.2.2.1) (res.2.2.2.2.1) (res.2.2.2.2.2.1) (res.2.2.2.2.2.2.1) (res.2.2.2.2.2.2.2) c_aside c_begin c_level c_asides c_sorted c_spot c_rectangles c_parts c_visited)) A) args s 0 0 A) (F0 m 58 ls [])) :
    ∀ (n : Nat) (x3 : Int) (x4 : Int) (c_rect : Nat → Int) (c_from : Nat → Int) (H : Heap) (locs : List Loc) (ls : Array Slot), f_Mo_divides_L23 c_s x2 k n x3 x4 c_rect c_from = some res → va_P D vwCl ((zMo cI cZ h_M q_M c_s c_past c_kept c_isKept c_pasts c_text c_typed c_rect c_item c_items c_itemLevel c_treated c_from c_group c_turn c_size c_old c_aside c_begin c_level c_asides c_sorted c_spot c_rectangles c_parts c_visited)) H → va_D A ((zMo cI cZ h_M q_M c_s c_past c_kept c_isKept c_pasts c_text c_typed c_rect c_item c_items c_itemLevel c_treated c_from c_group c_turn c_size c_old c_aside c_begin c_level c_asides c_sorted c_spot c_rectangles c_parts c_visited)) → va_S A s.heap H locs → lv_has ls 6 [(0, .ref h_M), (1, vI x1), (2, vI x2), (3, vI x3), (4, vI x4)] → W p l e rm_Mo_divides s m args below meth c H locs 0 0 (MQ below (zQi D (res.1) (fun u => (zMo cI cZ h_M q_M (res.2.1) c_past c_kept c_isKept c_pasts c_text c_typed (res.2.2.1) c_item c_items c_itemLevel c_treated (res.2.2.2.1) (res.2.2.2.2.1) (res.2.2.2.2.2.1) (res.2.2.2.2.2.2.1) (res.2.2.2.2.2.2.2) c_aside c_begin c_level c_asides c_sorted c_spot c_rectangles c_parts c_visited)) A) args s 0 0 A) (F0 m 23 ls []) := by
  have hx := hF.1.1
  have hb := hF.1.2.1
  have hml := hF.1.2.2.1
  have hown : s.vm.findClass "RectangleTreeModel" = some m.cls := hF.1.2.2.2.1
  have hts := hF.1.2.2.2.2
  have hr := hF.2.1
  have hlk := hF.2.2.1
  have hK := hF.2.2.2.2.1
  have hN := hF.2.2.2.2.2.1
  have hA := hF.2.2.2.2.2.2
  intro n
  induction n with
  | zero => intro x3 x4 c_rect c_from H locs ls h; cases h
  | succ n ih =>
    intro x3 x4 c_rect c_from H locs ls h hP hD hS hl
    rw [f_Mo_divides_L23] at h
    refine lv_iload hx hb dX7_divides_23 (lv_at hl 4 rfl) ?_
    refine lv_iload_n hx hb dX7_divides_25 rfl (lv_at hl 2 rfl) ?_
    obtain ⟨g_4, h⟩ := gd_e h
    obtain ⟨g_5, h⟩ := gd_e h
    refine z_icmp_ge (tgt := 58) hx hb g_4 g_5 dX7_divides_26 (by decide) (fun b_6 => ?_) (fun b_6 => ?_)
    · have h := it_n b_6 h
      exact hk (x3) (x4) (c_rect) (c_from) H locs ls h hP hD hS (lv_sub hl [0, 1, 2, 3] rfl)
    · have h := it_p b_6 h
      refine lv_aload_n hx hb dX7_divides_29 rfl (lv_at hl 0 rfl) ?_
      refine lv_iload hx hb dX7_divides_30 (lv_at hl 4 rfl) ?_
      refine lv_iload_n hx hb dX7_divides_32 rfl (lv_at hl 3 rfl) ?_
      obtain ⟨c_rect_7, e_8, h⟩ := bd1_e h
      refine z_gov (wc := (zMo cI cZ (h_M) (q_M) (c_s) (c_past) (c_kept) (c_isKept) (c_pasts) (c_text) (c_typed) (c_rect) (c_item) (c_items) (c_itemLevel) (c_treated) (c_from) (c_group) (c_turn) (c_size) (c_old) (c_aside) (c_begin) (c_level) (c_asides) (c_sorted) (c_spot) (c_rectangles) (c_parts) (c_visited))) (wn := fun u_9 => (zMo cI cZ h_M q_M c_s c_past c_kept c_isKept c_pasts c_text c_typed c_rect_7 c_item c_items c_itemLevel c_treated c_from c_group c_turn c_size c_old c_aside c_begin c_level c_asides c_sorted c_spot c_rectangles c_parts c_visited)) (wr := []) (va_runV (As := [vI x4, vI x3]) (rest := []) hF.1 (c_Mo_boundsAt l D cI cZ cT h_M q_M c_s c_past c_kept c_isKept c_pasts c_text c_typed c_rect c_item c_items c_itemLevel c_treated c_from c_group c_turn c_size c_old c_aside c_begin c_level c_asides c_sorted c_spot c_rectangles c_parts c_visited x4 x3 H.size (c_rect_7) e_8) (cwV 2 hts (zgV wm930 wm932 wm42 wm89 wm933) rfl rfl rfl (by decide +kernel) ⟨Nat.le_of_ble_eq_true rfl, Nat.le_of_ble_eq_true rfl⟩) ⟨zP.blind, va_recv hK (z_subP (ws' := (zMo cI cZ (h_M) (q_M) (c_s) (c_past) (c_kept) (c_isKept) (c_pasts) (c_text) (c_typed) (c_rect) (c_item) (c_items) (c_itemLevel) (c_treated) (c_from) (c_group) (c_turn) (c_size) (c_old) (c_aside) (c_begin) (c_level) (c_asides) (c_sorted) (c_spot) (c_rectangles) (c_parts) (c_visited))) hP [0, 1, 2, 3, 4, 5, 6, 7, 8, 9, 10, 11, 12, 13, 14, 15, 16, 17, 18] rfl) (ci := 7) (q0 := 0) rfl rfl, zP.enter (z_subP (ws' := (zMo cI cZ (h_M) (q_M) (c_s) (c_past) (c_kept) (c_isKept) (c_pasts) (c_text) (c_typed) (c_rect) (c_item) (c_items) (c_itemLevel) (c_treated) (c_from) (c_group) (c_turn) (c_size) (c_old) (c_aside) (c_begin) (c_level) (c_asides) (c_sorted) (c_spot) (c_rectangles) (c_parts) (c_visited))) hP [0, 1, 2, 3, 4, 5, 6, 7, 8, 9, 10, 11, 12, 13, 14, 15, 16, 17, 18] rfl) hK (hD.sub [0, 1, 2, 3, 4, 5, 6, 7, 8, 9, 10, 11, 12, 13, 14, 15, 16, 17, 18] (by decide) rfl) hN⟩ rfl rfl hl.1 rfl (lv_room (Nat.le_of_ble_eq_true rfl)) dX7_divides_33 ⟨Nat.le_refl _, Nat.le_refl _⟩) hP hD hS hA [0, 1, 2, 3, 4, 5, 6, 7, 8, 9, 10, 11, 12, 13, 14, 15, 16, 17, 18] [] [0, 1, 2, 3, 4, 5, 6, 7, 8, 9, 10, 11, 12, 13, 14, 15, 16, 17, 18] rfl rfl (by decide) (fun _ => rfl) (fun u_9 H locs hP hD hS hz => ?_)
      refine lv_aload_n hx hb dX7_divides_36 rfl (lv_at hl 0 rfl) ?_
      refine va_get (D := D) (ci := 7) (v := .ref (q_M 7)) (C := RX7) (T := TX7) (N := 26) hx hb hts zin7 hown hK hP 0 rfl rfl 12 (by decide) (hts _ wm799) (fun _ h9 => h9) rfl dX7_divides_37 ?_
      refine lv_iload_n hx hb dX7_divides_40 rfl (lv_at hl 3 rfl) ?_
      refine lv_iload hx hb dX7_divides_41 (lv_at hl 4 rfl) ?_
      obtain ⟨g_10, h⟩ := gd_e h
      refine z_iast (n := 9) (f := c_from) (i := x3) (x := x4) (ws' := (zMo cI cZ h_M q_M c_s c_past c_kept c_isKept c_pasts c_text c_typed c_rect_7 c_item c_items c_itemLevel c_treated (up c_from ((x3).toNat) x4) c_group c_turn c_size c_old c_aside c_begin c_level c_asides c_sorted c_spot c_rectangles c_parts c_visited)) hx hb hK hP hD hS 8 rfl rfl g_10 (by have := g_10.2; omega) dX7_divides_43 rfl (fun H locs hP hD hS => ?_)
      refine lv_iinc (v := Int32.ofInt (x3 + 1)) (lv' := [(3, vI (x3 + 1)), (0, .ref h_M), (1, vI x1), (2, vI x2), (4, vI x4)]) hx hb dX7_divides_44 hl (k := 3) rfl (z_inc _ _) (by decide) rfl (fun ls hl => ?_)
      refine lv_aload_n hx hb dX7_divides_47 rfl (lv_at hl 1 rfl) ?_
      refine lv_iload hx hb dX7_divides_48 (lv_at hl 4 rfl) ?_
      obtain ⟨r_11, e_12, h⟩ := bd1_e h
      refine z_goi (ws' := []) (ret := r_11) (wc := (zMo cI cZ (h_M) (q_M) (c_s) (c_past) (c_kept) (c_isKept) (c_pasts) (c_text) (c_typed) (c_rect_7) (c_item) (c_items) (c_itemLevel) (c_treated) ((up c_from ((x3).toNat) x4)) (c_group) (c_turn) (c_size) (c_old) (c_aside) (c_begin) (c_level) (c_asides) (c_sorted) (c_spot) (c_rectangles) (c_parts) (c_visited))) (wn := fun u_13 => (zMo cI cZ h_M q_M c_s c_past c_kept c_isKept c_pasts c_text c_typed c_rect_7 c_item c_items c_itemLevel c_treated (up c_from ((x3).toNat) x4) c_group c_turn c_size c_old c_aside c_begin c_level c_asides c_sorted c_spot c_rectangles c_parts c_visited)) (wr := []) (va_runV (As := [vI x4]) (rest := []) hF.1 (c_Mo_endOf l D cI cZ cT h_M q_M c_s c_past c_kept c_isKept c_pasts c_text c_typed c_rect_7 c_item c_items c_itemLevel c_treated (up c_from ((x3).toNat) x4) c_group c_turn c_size c_old c_aside c_begin c_level c_asides c_sorted c_spot c_rectangles c_parts c_visited x4 H.size (r_11) e_12) (cwV 1 hts (zgV wm922 wm924 wm40 wm89 wm925) rfl rfl rfl (by decide +kernel) ⟨Nat.le_of_ble_eq_true rfl, Nat.le_of_ble_eq_true rfl⟩) ⟨zP.blind, va_recv hK (z_subP (ws' := (zMo cI cZ (h_M) (q_M) (c_s) (c_past) (c_kept) (c_isKept) (c_pasts) (c_text) (c_typed) (c_rect_7) (c_item) (c_items) (c_itemLevel) (c_treated) ((up c_from ((x3).toNat) x4)) (c_group) (c_turn) (c_size) (c_old) (c_aside) (c_begin) (c_level) (c_asides) (c_sorted) (c_spot) (c_rectangles) (c_parts) (c_visited))) hP [0, 1, 2, 3, 4, 5, 6, 7, 8, 9, 10, 11, 12, 13, 14, 15, 16, 17, 18] rfl) (ci := 7) (q0 := 0) rfl rfl, zP.enter (z_subP (ws' := (zMo cI cZ (h_M) (q_M) (c_s) (c_past) (c_kept) (c_isKept) (c_pasts) (c_text) (c_typed) (c_rect_7) (c_item) (c_items) (c_itemLevel) (c_treated) ((up c_from ((x3).toNat) x4)) (c_group) (c_turn) (c_size) (c_old) (c_aside) (c_begin) (c_level) (c_asides) (c_sorted) (c_spot) (c_rectangles) (c_parts) (c_visited))) hP [0, 1, 2, 3, 4, 5, 6, 7, 8, 9, 10, 11, 12, 13, 14, 15, 16, 17, 18] rfl) hK (hD.sub [0, 1, 2, 3, 4, 5, 6, 7, 8, 9, 10, 11, 12, 13, 14, 15, 16, 17, 18] (by decide) rfl) hN⟩ rfl rfl hl.1 rfl (lv_room (Nat.le_of_ble_eq_true rfl)) dX7_divides_50 ⟨Nat.le_refl _, Nat.le_refl _⟩) hP hD hS hA [0, 1, 2, 3, 4, 5, 6, 7, 8, 9, 10, 11, 12, 13, 14, 15, 16, 17, 18] [] [0, 1, 2, 3, 4, 5, 6, 7, 8, 9, 10, 11, 12, 13, 14, 15, 16, 17, 18] rfl rfl (by decide) (fun _ => rfl) (fun u_13 H locs hP hD hS hz => ?_)
      refine lv_istore (lv' := [(4, vI r_11), (3, vI (x3 + 1)), (0, .ref h_M), (1, vI x1), (2, vI x2)]) hx hb dX7_divides_53 hl (by decide) rfl (fun ls hl => ?_)
      refine lv_goto (tgt := 23) hx hb dX7_divides_55 (by decide) ?_
      exact ih ((x3 + 1)) (r_11) (c_rect_7) ((up c_from ((x3).toNat) x4)) H locs ls h hP hD hS (lv_sub hl [2, 3, 4, 1, 0] rfl)
set_option maxHeartbeats 4000000 in
set_option maxRecDepth 100000 in
theorem w_Mo_divides_L68 {p : Program} {l : Launch} {e : Env} {s : State} {m : MethodId} {args : Array Value} {below : List Frame} {meth : Method} {c : Code} {A : Nat → Prop} (D : va_G) (cI cZ cT : ClassId) (h_M : Nat) (q_M : Nat → Nat) (c_s : Nat → Int) (c_past : Nat → Int) (c_kept : Nat → Int) (c_isKept : Int) (c_pasts : Int) (c_text : Nat → Int) (c_typed : Int) (c_rect : Nat → Int) (c_item : Nat → Int) (c_items : Int) (c_itemLevel : Int) (c_treated : Nat → Int) (c_from : Nat → Int) (c_group : Nat → Int) (c_turn : Nat → Int) (c_size : Nat → Int) (c_aside : Nat → Int) (c_begin : Nat → Int) (c_level : Nat → Int) (c_asides : Int) (c_sorted : Nat → Int) (c_spot : Int) (c_rectangles : Int) (c_parts : Nat → Int) (c_visited : Nat → Int) (x1 : Int) (x2 : Int) (x3 : Int) (res : Int × (Nat → Int) × (Nat → Int) × (Nat → Int) × (Nat → Int) × (Nat → Int) × (Nat → Int) × (Nat → Int)) (k : Int → (Nat → Int) → Option (Int × (Nat → Int) × (Nat → Int) × (Nat → Int) × (Nat → Int) × (Nat → Int) × (Nat → Int) × (Nat → Int))) (hF : zF p m c cX7_divides 6 s args yX7_divides.cls meth (some .int) yX7_divides.name A D (zt cI cZ cT))
    (hk : ∀ (x4 : Int) (c_old : Nat → Int) (H : Heap) (locs : List Loc) (ls : Array Slot), k x4 c_old = some res → va_P D vwCl ((zMo cI cZ h_M q_M c_s c_past c_kept c_isKept c_pasts c_text c_typed c_rect c_item c_items c_itemLevel c_treated c_from c_group c_turn c_size c_old c_aside c_begin c_level c_asides c_sorted c_spot c_rectangles c_parts c_visited)) H → va_D A ((zMo cI cZ h_M q_M c_s c_past c_kept c_isKept c_pasts c_text c_typed c_rect c_item c_items c_itemLevel c_treated c_from c_group c_turn c_size c_old c_aside c_begin c_level c_asides c_sorted c_spot c_rectangles c_parts c_visited)) → va_S A s.heap H locs → lv_has ls 6 [(0, .ref h_M), (1, vI x1), (2, vI x2), (3, vI x3)] → W p l e rm_Mo_divides s m args below meth c H locs 0 0 (MQ below (zQi D (res.1) (fun u => (zMo cI cZ h_M q_M (res.2.1) c_past c_kept c_isKept c_pasts c_text c_typed (res.2.2.1) c_item c_items c_itemLevel c_treated (res.2.2.2.1) (res.2.2.2.2.1) (res.2.2.2.2.2.1) (res.2.2.2.2.2.2.1) (res.2.2.2.2.2.2.2) c_aside c_begin c_level c_asides c_sorted c_spot c_rectangles c_parts c_visited)) A) args s 0 0 A) (F0 m 93 ls [])) :
    ∀ (n : Nat) (x4 : Int) (c_old : Nat → Int) (H : Heap) (locs : List Loc) (ls : Array Slot), f_Mo_divides_L68 c_s x2 k n x4 c_old = some res → va_P D vwCl ((zMo cI cZ h_M q_M c_s c_past c_kept c_isKept c_pasts c_text c_typed c_rect c_item c_items c_itemLevel c_treated c_from c_group c_turn c_size c_old c_aside c_begin c_level c_asides c_sorted c_spot c_rectangles c_parts c_visited)) H → va_D A ((zMo cI cZ h_M q_M c_s c_past c_kept c_isKept c_pasts c_text c_typed c_rect c_item c_items c_itemLevel c_treated c_from c_group c_turn c_size c_old c_aside c_begin c_level c_asides c_sorted c_spot c_rectangles c_parts c_visited)) → va_S A s.heap H locs → lv_has ls 6 [(0, .ref h_M), (1, vI x1), (2, vI x2), (3, vI x3), (4, vI x4)] → W p l e rm_Mo_divides s m args below meth c H locs 0 0 (MQ below (zQi D (res.1) (fun u => (zMo cI cZ h_M q_M (res.2.1) c_past c_kept c_isKept c_pasts c_text c_typed (res.2.2.1) c_item c_items c_itemLevel c_treated (res.2.2.2.1) (res.2.2.2.2.1) (res.2.2.2.2.2.1) (res.2.2.2.2.2.2.1) (res.2.2.2.2.2.2.2) c_aside c_begin c_level c_asides c_sorted c_spot c_rectangles c_parts c_visited)) A) args s 0 0 A) (F0 m 68 ls []) := by
  have hx := hF.1.1
  have hb := hF.1.2.1
  have hml := hF.1.2.2.1
  have hown : s.vm.findClass "RectangleTreeModel" = some m.cls := hF.1.2.2.2.1
  have hts := hF.1.2.2.2.2
  have hr := hF.2.1
  have hlk := hF.2.2.1
  have hK := hF.2.2.2.2.1
  have hN := hF.2.2.2.2.2.1
  have hA := hF.2.2.2.2.2.2
  intro n
  induction n with
  | zero => intro x4 c_old H locs ls h; cases h
  | succ n ih =>
    intro x4 c_old H locs ls h hP hD hS hl
    rw [f_Mo_divides_L68] at h
    refine lv_iload hx hb dX7_divides_68 (lv_at hl 4 rfl) ?_
    refine lv_iload_n hx hb dX7_divides_70 rfl (lv_at hl 2 rfl) ?_
    obtain ⟨g_19, h⟩ := gd_e h
    obtain ⟨g_20, h⟩ := gd_e h
    refine z_icmp_ge (tgt := 93) hx hb g_19 g_20 dX7_divides_71 (by decide) (fun b_21 => ?_) (fun b_21 => ?_)
    · have h := it_n b_21 h
      exact hk (x4) (c_old) H locs ls h hP hD hS (lv_sub hl [0, 1, 2, 3] rfl)
    · have h := it_p b_21 h
      refine lv_aload_n hx hb dX7_divides_74 rfl (lv_at hl 0 rfl) ?_
      refine va_get (D := D) (ci := 7) (v := .ref (q_M 11)) (C := RX7) (T := TX7) (N := 26) hx hb hts zin7 hown hK hP 0 rfl rfl 16 (by decide) (hts _ wm803) (fun _ h9 => h9) rfl dX7_divides_75 ?_
      refine lv_iload hx hb dX7_divides_78 (lv_at hl 4 rfl) ?_
      refine lv_aload_n hx hb dX7_divides_80 rfl (lv_at hl 0 rfl) ?_
      refine lv_iload hx hb dX7_divides_81 (lv_at hl 4 rfl) ?_
      obtain ⟨r_22, e_23, h⟩ := bd1_e h
      refine z_goi (ws' := []) (ret := r_22) (wc := (zMo cI cZ (h_M) (q_M) (c_s) (c_past) (c_kept) (c_isKept) (c_pasts) (c_text) (c_typed) (c_rect) (c_item) (c_items) (c_itemLevel) (c_treated) (c_from) (c_group) (c_turn) (c_size) (c_old) (c_aside) (c_begin) (c_level) (c_asides) (c_sorted) (c_spot) (c_rectangles) (c_parts) (c_visited))) (wn := fun u_24 => (zMo cI cZ h_M q_M c_s c_past c_kept c_isKept c_pasts c_text c_typed c_rect c_item c_items c_itemLevel c_treated c_from c_group c_turn c_size c_old c_aside c_begin c_level c_asides c_sorted c_spot c_rectangles c_parts c_visited)) (wr := []) (va_runV (As := [vI x4]) (rest := [vI x4, .ref (q_M 11)]) hF.1 (c_Mo_at l D cI cZ cT h_M q_M c_s c_past c_kept c_isKept c_pasts c_text c_typed c_rect c_item c_items c_itemLevel c_treated c_from c_group c_turn c_size c_old c_aside c_begin c_level c_asides c_sorted c_spot c_rectangles c_parts c_visited x4 H.size (r_22) e_23) (cwV 1 hts (zgV wm915 wm917 wm39 wm89 wm918) rfl rfl rfl (by decide +kernel) ⟨Nat.le_of_ble_eq_true rfl, Nat.le_of_ble_eq_true rfl⟩) ⟨zP.blind, va_recv hK (z_subP (ws' := (zMo cI cZ (h_M) (q_M) (c_s) (c_past) (c_kept) (c_isKept) (c_pasts) (c_text) (c_typed) (c_rect) (c_item) (c_items) (c_itemLevel) (c_treated) (c_from) (c_group) (c_turn) (c_size) (c_old) (c_aside) (c_begin) (c_level) (c_asides) (c_sorted) (c_spot) (c_rectangles) (c_parts) (c_visited))) hP [0, 1, 2, 3, 4, 5, 6, 7, 8, 9, 10, 11, 12, 13, 14, 15, 16, 17, 18] rfl) (ci := 7) (q0 := 0) rfl rfl, zP.enter (z_subP (ws' := (zMo cI cZ (h_M) (q_M) (c_s) (c_past) (c_kept) (c_isKept) (c_pasts) (c_text) (c_typed) (c_rect) (c_item) (c_items) (c_itemLevel) (c_treated) (c_from) (c_group) (c_turn) (c_size) (c_old) (c_aside) (c_begin) (c_level) (c_asides) (c_sorted) (c_spot) (c_rectangles) (c_parts) (c_visited))) hP [0, 1, 2, 3, 4, 5, 6, 7, 8, 9, 10, 11, 12, 13, 14, 15, 16, 17, 18] rfl) hK (hD.sub [0, 1, 2, 3, 4, 5, 6, 7, 8, 9, 10, 11, 12, 13, 14, 15, 16, 17, 18] (by decide) rfl) hN⟩ rfl rfl hl.1 rfl (lv_room (Nat.le_of_ble_eq_true rfl)) dX7_divides_83 ⟨Nat.le_refl _, Nat.le_refl _⟩) hP hD hS hA [0, 1, 2, 3, 4, 5, 6, 7, 8, 9, 10, 11, 12, 13, 14, 15, 16, 17, 18] [] [0, 1, 2, 3, 4, 5, 6, 7, 8, 9, 10, 11, 12, 13, 14, 15, 16, 17, 18] rfl rfl (by decide) (fun _ => rfl) (fun u_24 H locs hP hD hS hz => ?_)
      obtain ⟨g_25, h⟩ := gd_e h
      refine z_iast (n := 360) (f := c_old) (i := x4) (x := r_22) (ws' := (zMo cI cZ h_M q_M c_s c_past c_kept c_isKept c_pasts c_text c_typed c_rect c_item c_items c_itemLevel c_treated c_from c_group c_turn c_size (up c_old ((x4).toNat) r_22) c_aside c_begin c_level c_asides c_sorted c_spot c_rectangles c_parts c_visited)) hx hb hK hP hD hS 12 rfl rfl g_25 (by have := g_25.2; omega) dX7_divides_86 rfl (fun H locs hP hD hS => ?_)
      refine lv_iinc (v := Int32.ofInt (x4 + 1)) (lv' := [(4, vI (x4 + 1)), (0, .ref h_M), (1, vI x1), (2, vI x2), (3, vI x3)]) hx hb dX7_divides_87 hl (k := 4) rfl (z_inc _ _) (by decide) rfl (fun ls hl => ?_)
      refine lv_goto (tgt := 68) hx hb dX7_divides_90 (by decide) ?_
      exact ih ((x4 + 1)) ((up c_old ((x4).toNat) r_22)) H locs ls h hP hD hS (lv_sub hl [1, 2, 3, 4, 0] rfl)
set_option maxHeartbeats 4000000 in
set_option maxRecDepth 100000 in
theorem c_Mo_divides (l : Launch) (D : va_G) (cI cZ cT : ClassId) (h_M : Nat) (q_M : Nat → Nat) (c_s : Nat → Int) (c_past : Nat → Int) (c_kept : Nat → Int) (c_isKept : Int) (c_pasts : Int) (c_text : Nat → Int) (c_typed : Int) (c_rect : Nat → Int) (c_item : Nat → Int) (c_items : Int) (c_itemLevel : Int) (c_treated : Nat → Int) (c_from : Nat → Int) (c_group : Nat → Int) (c_turn : Nat → Int) (c_size : Nat → Int) (c_old : Nat → Int) (c_aside : Nat → Int) (c_begin : Nat → Int) (c_level : Nat → Int) (c_asides : Int) (c_sorted : Nat → Int) (c_spot : Int) (c_rectangles : Int) (c_parts : Nat → Int) (c_visited : Nat → Int) (x1 : Int) (sz : Nat) (res : Int × (Nat → Int) × (Nat → Int) × (Nat → Int) × (Nat → Int) × (Nat → Int) × (Nat → Int) × (Nat → Int)) (h : f_Mo_divides c_s c_rect c_from c_group c_turn c_size c_old x1 = some res) : zMi l yX7_divides cX7_divides 6 rm_Mo_divides D (zt cI cZ cT) [.ref h_M, vI x1] ((zMo cI cZ h_M q_M c_s c_past c_kept c_isKept c_pasts c_text c_typed c_rect c_item c_items c_itemLevel c_treated c_from c_group c_turn c_size c_old c_aside c_begin c_level c_asides c_sorted c_spot c_rectangles c_parts c_visited)) sz (res.1) (fun u => (zMo cI cZ h_M q_M (res.2.1) c_past c_kept c_isKept c_pasts c_text c_typed (res.2.2.1) c_item c_items c_itemLevel c_treated (res.2.2.2.1) (res.2.2.2.2.1) (res.2.2.2.2.2.1) (res.2.2.2.2.2.2.1) (res.2.2.2.2.2.2.2) c_aside c_begin c_level c_asides c_sorted c_spot c_rectangles c_parts c_visited)) 0 0 := by
  refine z_enth (Qc := zQi D (res.1) (fun u => (zMo cI cZ h_M q_M (res.2.1) c_past c_kept c_isKept c_pasts c_text c_typed (res.2.2.1) c_item c_items c_itemLevel c_treated (res.2.2.2.1) (res.2.2.2.2.1) (res.2.2.2.2.2.1) (res.2.2.2.2.2.2.1) (res.2.2.2.2.2.2.2) c_aside c_begin c_level c_asides c_sorted c_spot c_rectangles c_parts c_visited))) (by decide) (Nat.le_of_ble_eq_true rfl) (fun p e s m args below meth c A ls H locs hF hP hD hS hl => ?_)
  have hx := hF.1.1
  have hb := hF.1.2.1
  have hml := hF.1.2.2.1
  have hown : s.vm.findClass "RectangleTreeModel" = some m.cls := hF.1.2.2.2.1
  have hts := hF.1.2.2.2.2
  have hr := hF.2.1
  have hlk := hF.2.2.1
  have hK := hF.2.2.2.2.1
  have hN := hF.2.2.2.2.2.1
  have hA := hF.2.2.2.2.2.2
  unfold f_Mo_divides at h
  refine lv_aload_n hx hb dX7_divides_0 rfl (lv_at hl 0 rfl) ?_
  refine va_get (D := D) (ci := 7) (v := .ref (q_M 0)) (C := RX7) (T := TX7) (N := 26) hx hb hts zin7 hown hK hP 0 rfl rfl 0 (by decide) (hts _ wm787) (fun _ h9 => h9) rfl dX7_divides_1 ?_
  refine lv_iconst (v := Int32.ofInt 2) hx hb dX7_divides_4 rfl ?_
  refine lv_dup2_11 hx hb dX7_divides_5 rfl rfl ?_
  refine z_iald (n := 461) (f := c_s) (i := 2) hx hb hK hP 1 rfl rfl (by decide) (by decide) dX7_divides_6 ?_
  refine lv_iconst (v := Int32.ofInt 1) hx hb dX7_divides_7 rfl ?_
  refine z_iadd hx hb dX7_divides_8 ?_
  refine z_iast (n := 461) (f := c_s) (i := 2) (x := ((c_s 2) + 1)) (ws' := (zMo cI cZ h_M q_M (up c_s (2) ((c_s 2) + 1)) c_past c_kept c_isKept c_pasts c_text c_typed c_rect c_item c_items c_itemLevel c_treated c_from c_group c_turn c_size c_old c_aside c_begin c_level c_asides c_sorted c_spot c_rectangles c_parts c_visited)) hx hb hK hP hD hS 1 rfl rfl (by decide) (by decide) dX7_divides_9 rfl (fun H locs hP hD hS => ?_)
  refine lv_aload_n hx hb dX7_divides_10 rfl (lv_at hl 0 rfl) ?_
  refine lv_iload_n hx hb dX7_divides_11 rfl (lv_at hl 1 rfl) ?_
  obtain ⟨r_1, e_2, h⟩ := bd1_e h
  refine z_goi (ws' := []) (ret := r_1) (wc := (zMo cI cZ (h_M) (q_M) ((up c_s (2) ((c_s 2) + 1))) (c_past) (c_kept) (c_isKept) (c_pasts) (c_text) (c_typed) (c_rect) (c_item) (c_items) (c_itemLevel) (c_treated) (c_from) (c_group) (c_turn) (c_size) (c_old) (c_aside) (c_begin) (c_level) (c_asides) (c_sorted) (c_spot) (c_rectangles) (c_parts) (c_visited))) (wn := fun u_3 => (zMo cI cZ h_M q_M (up c_s (2) ((c_s 2) + 1)) c_past c_kept c_isKept c_pasts c_text c_typed c_rect c_item c_items c_itemLevel c_treated c_from c_group c_turn c_size c_old c_aside c_begin c_level c_asides c_sorted c_spot c_rectangles c_parts c_visited)) (wr := []) (va_runV (As := [vI x1]) (rest := []) hF.1 (c_Mo_endOf l D cI cZ cT h_M q_M (up c_s (2) ((c_s 2) + 1)) c_past c_kept c_isKept c_pasts c_text c_typed c_rect c_item c_items c_itemLevel c_treated c_from c_group c_turn c_size c_old c_aside c_begin c_level c_asides c_sorted c_spot c_rectangles c_parts c_visited x1 H.size (r_1) e_2) (cwV 1 hts (zgV wm922 wm924 wm40 wm89 wm925) rfl rfl rfl (by decide +kernel) ⟨Nat.le_of_ble_eq_true rfl, Nat.le_of_ble_eq_true rfl⟩) ⟨zP.blind, va_recv hK (z_subP (ws' := (zMo cI cZ (h_M) (q_M) ((up c_s (2) ((c_s 2) + 1))) (c_past) (c_kept) (c_isKept) (c_pasts) (c_text) (c_typed) (c_rect) (c_item) (c_items) (c_itemLevel) (c_treated) (c_from) (c_group) (c_turn) (c_size) (c_old) (c_aside) (c_begin) (c_level) (c_asides) (c_sorted) (c_spot) (c_rectangles) (c_parts) (c_visited))) hP [0, 1, 2, 3, 4, 5, 6, 7, 8, 9, 10, 11, 12, 13, 14, 15, 16, 17, 18] rfl) (ci := 7) (q0 := 0) rfl rfl, zP.enter (z_subP (ws' := (zMo cI cZ (h_M) (q_M) ((up c_s (2) ((c_s 2) + 1))) (c_past) (c_kept) (c_isKept) (c_pasts) (c_text) (c_typed) (c_rect) (c_item) (c_items) (c_itemLevel) (c_treated) (c_from) (c_group) (c_turn) (c_size) (c_old) (c_aside) (c_begin) (c_level) (c_asides) (c_sorted) (c_spot) (c_rectangles) (c_parts) (c_visited))) hP [0, 1, 2, 3, 4, 5, 6, 7, 8, 9, 10, 11, 12, 13, 14, 15, 16, 17, 18] rfl) hK (hD.sub [0, 1, 2, 3, 4, 5, 6, 7, 8, 9, 10, 11, 12, 13, 14, 15, 16, 17, 18] (by decide) rfl) hN⟩ rfl rfl hl.1 rfl (lv_room (Nat.le_of_ble_eq_true rfl)) dX7_divides_12 ⟨Nat.le_refl _, Nat.le_refl _⟩) hP hD hS hA [0, 1, 2, 3, 4, 5, 6, 7, 8, 9, 10, 11, 12, 13, 14, 15, 16, 17, 18] [] [0, 1, 2, 3, 4, 5, 6, 7, 8, 9, 10, 11, 12, 13, 14, 15, 16, 17, 18] rfl rfl (by decide) (fun _ => rfl) (fun u_3 H locs hP hD hS hz => ?_)
  refine lv_istore_n (lv' := [(2, vI r_1), (0, .ref h_M), (1, vI x1)]) hx hb dX7_divides_15 rfl hl (by decide) rfl (fun ls hl => ?_)
  refine lv_iconst (v := Int32.ofInt 0) hx hb dX7_divides_16 rfl ?_
  refine lv_istore_n (lv' := [(3, vI 0), (2, vI r_1), (0, .ref h_M), (1, vI x1)]) hx hb dX7_divides_17 rfl hl (by decide) rfl (fun ls hl => ?_)
  refine lv_iload_n hx hb dX7_divides_18 rfl (lv_at hl 3 rfl) ?_
  refine lv_iconst (v := Int32.ofInt 1) hx hb dX7_divides_19 rfl ?_
  refine z_iadd hx hb dX7_divides_20 ?_
  refine lv_istore (lv' := [(4, vI (x1 + 1)), (3, vI 0), (2, vI r_1), (0, .ref h_M), (1, vI x1)]) hx hb dX7_divides_21 hl (by decide) rfl (fun ls hl => ?_)
  refine w_Mo_divides_L23 D cI cZ cT (h_M) (q_M) ((up c_s (2) ((c_s 2) + 1))) (c_past) (c_kept) (c_isKept) (c_pasts) (c_text) (c_typed) (c_item) (c_items) (c_itemLevel) (c_treated) (c_group) (c_turn) (c_size) (c_old) (c_aside) (c_begin) (c_level) (c_asides) (c_sorted) (c_spot) (c_rectangles) (c_parts) (c_visited) (x1) (r_1) _ _ hF (fun x3_14 x4_15 c_rect_16 c_from_17 H locs ls h hP hD hS hl => ?_) _ (0) ((x1 + 1)) (c_rect) (c_from) _ _ _ h hP hD hS (lv_sub hl [3, 4, 2, 1, 0] rfl)
  refine lv_aload_n hx hb dX7_divides_58 rfl (lv_at hl 0 rfl) ?_
  refine va_get (D := D) (ci := 7) (v := .ref (q_M 7)) (C := RX7) (T := TX7) (N := 26) hx hb hts zin7 hown hK hP 0 rfl rfl 12 (by decide) (hts _ wm799) (fun _ h9 => h9) rfl dX7_divides_59 ?_
  refine lv_iload_n hx hb dX7_divides_62 rfl (lv_at hl 3 rfl) ?_
  refine lv_iload_n hx hb dX7_divides_63 rfl (lv_at hl 2 rfl) ?_
  obtain ⟨g_18, h⟩ := gd_e h
  refine z_iast (n := 9) (f := c_from_17) (i := x3_14) (x := r_1) (ws' := (zMo cI cZ h_M q_M (up c_s (2) ((c_s 2) + 1)) c_past c_kept c_isKept c_pasts c_text c_typed c_rect_16 c_item c_items c_itemLevel c_treated (up c_from_17 ((x3_14).toNat) r_1) c_group c_turn c_size c_old c_aside c_begin c_level c_asides c_sorted c_spot c_rectangles c_parts c_visited)) hx hb hK hP hD hS 8 rfl rfl g_18 (by have := g_18.2; omega) dX7_divides_64 rfl (fun H locs hP hD hS => ?_)
  refine lv_iload_n hx hb dX7_divides_65 rfl (lv_at hl 1 rfl) ?_
  refine lv_istore (lv' := [(4, vI x1), (0, .ref h_M), (1, vI x1), (2, vI r_1), (3, vI x3_14)]) hx hb dX7_divides_66 hl (by decide) rfl (fun ls hl => ?_)
  refine w_Mo_divides_L68 D cI cZ cT (h_M) (q_M) ((up c_s (2) ((c_s 2) + 1))) (c_past) (c_kept) (c_isKept) (c_pasts) (c_text) (c_typed) (c_rect_16) (c_item) (c_items) (c_itemLevel) (c_treated) ((up c_from_17 ((x3_14).toNat) r_1)) (c_group) (c_turn) (c_size) (c_aside) (c_begin) (c_level) (c_asides) (c_sorted) (c_spot) (c_rectangles) (c_parts) (c_visited) (x1) (r_1) (x3_14) _ _ hF (fun x4_26 c_old_27 H locs ls h hP hD hS hl => ?_) _ (x1) (c_old) _ _ _ h hP hD hS (lv_sub hl [1, 2, 3, 4, 0] rfl)
  refine lv_aload_n hx hb dX7_divides_93 rfl (lv_at hl 0 rfl) ?_
  refine lv_iload_n hx hb dX7_divides_94 rfl (lv_at hl 3 rfl) ?_
  obtain ⟨c_rect_28, c_group_29, c_turn_30, c_size_31, e_32, h⟩ := bd4_e h
  refine z_gov (wc := (zMo cI cZ (h_M) (q_M) ((up c_s (2) ((c_s 2) + 1))) (c_past) (c_kept) (c_isKept) (c_pasts) (c_text) (c_typed) (c_rect_16) (c_item) (c_items) (c_itemLevel) (c_treated) ((up c_from_17 ((x3_14).toNat) r_1)) (c_group) (c_turn) (c_size) (c_old_27) (c_aside) (c_begin) (c_level) (c_asides) (c_sorted) (c_spot) (c_rectangles) (c_parts) (c_visited))) (wn := fun u_33 => (zMo cI cZ h_M q_M (up c_s (2) ((c_s 2) + 1)) c_past c_kept c_isKept c_pasts c_text c_typed c_rect_28 c_item c_items c_itemLevel c_treated (up c_from_17 ((x3_14).toNat) r_1) c_group_29 c_turn_30 c_size_31 c_old_27 c_aside c_begin c_level c_asides c_sorted c_spot c_rectangles c_parts c_visited)) (wr := []) (va_runV (As := [vI x3_14]) (rest := []) hF.1 (c_Mo_groups l D cI cZ cT h_M q_M (up c_s (2) ((c_s 2) + 1)) c_past c_kept c_isKept c_pasts c_text c_typed c_rect_16 c_item c_items c_itemLevel c_treated (up c_from_17 ((x3_14).toNat) r_1) c_group c_turn c_size c_old_27 c_aside c_begin c_level c_asides c_sorted c_spot c_rectangles c_parts c_visited x3_14 H.size (c_rect_28, c_group_29, c_turn_30, c_size_31) e_32) (cwV 1 hts (zgV wm978 wm980 wm54 wm89 wm981) rfl rfl rfl (by decide +kernel) ⟨Nat.le_of_ble_eq_true rfl, Nat.le_of_ble_eq_true rfl⟩) ⟨zP.blind, va_recv hK (z_subP (ws' := (zMo cI cZ (h_M) (q_M) ((up c_s (2) ((c_s 2) + 1))) (c_past) (c_kept) (c_isKept) (c_pasts) (c_text) (c_typed) (c_rect_16) (c_item) (c_items) (c_itemLevel) (c_treated) ((up c_from_17 ((x3_14).toNat) r_1)) (c_group) (c_turn) (c_size) (c_old_27) (c_aside) (c_begin) (c_level) (c_asides) (c_sorted) (c_spot) (c_rectangles) (c_parts) (c_visited))) hP [0, 1, 2, 3, 4, 5, 6, 7, 8, 9, 10, 11, 12, 13, 14, 15, 16, 17, 18] rfl) (ci := 7) (q0 := 0) rfl rfl, zP.enter (z_subP (ws' := (zMo cI cZ (h_M) (q_M) ((up c_s (2) ((c_s 2) + 1))) (c_past) (c_kept) (c_isKept) (c_pasts) (c_text) (c_typed) (c_rect_16) (c_item) (c_items) (c_itemLevel) (c_treated) ((up c_from_17 ((x3_14).toNat) r_1)) (c_group) (c_turn) (c_size) (c_old_27) (c_aside) (c_begin) (c_level) (c_asides) (c_sorted) (c_spot) (c_rectangles) (c_parts) (c_visited))) hP [0, 1, 2, 3, 4, 5, 6, 7, 8, 9, 10, 11, 12, 13, 14, 15, 16, 17, 18] rfl) hK (hD.sub [0, 1, 2, 3, 4, 5, 6, 7, 8, 9, 10, 11, 12, 13, 14, 15, 16, 17, 18] (by decide) rfl) hN⟩ rfl rfl hl.1 rfl (lv_room (Nat.le_of_ble_eq_true rfl)) dX7_divides_95 ⟨Nat.le_refl _, Nat.le_refl _⟩) hP hD hS hA [0, 1, 2, 3, 4, 5, 6, 7, 8, 9, 10, 11, 12, 13, 14, 15, 16, 17, 18] [] [0, 1, 2, 3, 4, 5, 6, 7, 8, 9, 10, 11, 12, 13, 14, 15, 16, 17, 18] rfl rfl (by decide) (fun _ => rfl) (fun u_33 H locs hP hD hS hz => ?_)
  refine lv_aload_n hx hb dX7_divides_98 rfl (lv_at hl 0 rfl) ?_
  refine lv_iload_n hx hb dX7_divides_99 rfl (lv_at hl 1 rfl) ?_
  obtain ⟨r_34, e_35, h⟩ := bd1_e h
  refine z_goi (ws' := []) (ret := r_34) (wc := (zMo cI cZ (h_M) (q_M) ((up c_s (2) ((c_s 2) + 1))) (c_past) (c_kept) (c_isKept) (c_pasts) (c_text) (c_typed) (c_rect_28) (c_item) (c_items) (c_itemLevel) (c_treated) ((up c_from_17 ((x3_14).toNat) r_1)) (c_group_29) (c_turn_30) (c_size_31) (c_old_27) (c_aside) (c_begin) (c_level) (c_asides) (c_sorted) (c_spot) (c_rectangles) (c_parts) (c_visited))) (wn := fun u_36 => (zMo cI cZ h_M q_M (up c_s (2) ((c_s 2) + 1)) c_past c_kept c_isKept c_pasts c_text c_typed c_rect_28 c_item c_items c_itemLevel c_treated (up c_from_17 ((x3_14).toNat) r_1) c_group_29 c_turn_30 c_size_31 c_old_27 c_aside c_begin c_level c_asides c_sorted c_spot c_rectangles c_parts c_visited)) (wr := []) (va_runV (As := [vI x1]) (rest := []) hF.1 (c_Mo_at l D cI cZ cT h_M q_M (up c_s (2) ((c_s 2) + 1)) c_past c_kept c_isKept c_pasts c_text c_typed c_rect_28 c_item c_items c_itemLevel c_treated (up c_from_17 ((x3_14).toNat) r_1) c_group_29 c_turn_30 c_size_31 c_old_27 c_aside c_begin c_level c_asides c_sorted c_spot c_rectangles c_parts c_visited x1 H.size (r_34) e_35) (cwV 1 hts (zgV wm915 wm917 wm39 wm89 wm918) rfl rfl rfl (by decide +kernel) ⟨Nat.le_of_ble_eq_true rfl, Nat.le_of_ble_eq_true rfl⟩) ⟨zP.blind, va_recv hK (z_subP (ws' := (zMo cI cZ (h_M) (q_M) ((up c_s (2) ((c_s 2) + 1))) (c_past) (c_kept) (c_isKept) (c_pasts) (c_text) (c_typed) (c_rect_28) (c_item) (c_items) (c_itemLevel) (c_treated) ((up c_from_17 ((x3_14).toNat) r_1)) (c_group_29) (c_turn_30) (c_size_31) (c_old_27) (c_aside) (c_begin) (c_level) (c_asides) (c_sorted) (c_spot) (c_rectangles) (c_parts) (c_visited))) hP [0, 1, 2, 3, 4, 5, 6, 7, 8, 9, 10, 11, 12, 13, 14, 15, 16, 17, 18] rfl) (ci := 7) (q0 := 0) rfl rfl, zP.enter (z_subP (ws' := (zMo cI cZ (h_M) (q_M) ((up c_s (2) ((c_s 2) + 1))) (c_past) (c_kept) (c_isKept) (c_pasts) (c_text) (c_typed) (c_rect_28) (c_item) (c_items) (c_itemLevel) (c_treated) ((up c_from_17 ((x3_14).toNat) r_1)) (c_group_29) (c_turn_30) (c_size_31) (c_old_27) (c_aside) (c_begin) (c_level) (c_asides) (c_sorted) (c_spot) (c_rectangles) (c_parts) (c_visited))) hP [0, 1, 2, 3, 4, 5, 6, 7, 8, 9, 10, 11, 12, 13, 14, 15, 16, 17, 18] rfl) hK (hD.sub [0, 1, 2, 3, 4, 5, 6, 7, 8, 9, 10, 11, 12, 13, 14, 15, 16, 17, 18] (by decide) rfl) hN⟩ rfl rfl hl.1 rfl (lv_room (Nat.le_of_ble_eq_true rfl)) dX7_divides_100 ⟨Nat.le_refl _, Nat.le_refl _⟩) hP hD hS hA [0, 1, 2, 3, 4, 5, 6, 7, 8, 9, 10, 11, 12, 13, 14, 15, 16, 17, 18] [] [0, 1, 2, 3, 4, 5, 6, 7, 8, 9, 10, 11, 12, 13, 14, 15, 16, 17, 18] rfl rfl (by decide) (fun _ => rfl) (fun u_36 H locs hP hD hS hz => ?_)
  refine lv_istore (lv' := [(4, vI r_34), (0, .ref h_M), (1, vI x1), (2, vI r_1), (3, vI x3_14)]) hx hb dX7_divides_103 hl (by decide) rfl (fun ls hl => ?_)
  refine lv_aload_n hx hb dX7_divides_105 rfl (lv_at hl 1 rfl) ?_
  refine lv_iload_n hx hb dX7_divides_106 rfl (lv_at hl 3 rfl) ?_
  refine lv_iconst (v := Int32.ofInt 1) hx hb dX7_divides_107 rfl ?_
  obtain ⟨c_s_37, e_38, h⟩ := bd1_e h
  refine z_gov (wc := (zMo cI cZ (h_M) (q_M) ((up c_s (2) ((c_s 2) + 1))) (c_past) (c_kept) (c_isKept) (c_pasts) (c_text) (c_typed) (c_rect_28) (c_item) (c_items) (c_itemLevel) (c_treated) ((up c_from_17 ((x3_14).toNat) r_1)) (c_group_29) (c_turn_30) (c_size_31) (c_old_27) (c_aside) (c_begin) (c_level) (c_asides) (c_sorted) (c_spot) (c_rectangles) (c_parts) (c_visited))) (wn := fun u_39 => (zMo cI cZ h_M q_M c_s_37 c_past c_kept c_isKept c_pasts c_text c_typed c_rect_28 c_item c_items c_itemLevel c_treated (up c_from_17 ((x3_14).toNat) r_1) c_group_29 c_turn_30 c_size_31 c_old_27 c_aside c_begin c_level c_asides c_sorted c_spot c_rectangles c_parts c_visited)) (wr := []) (va_runV (As := [vI r_1, vI 1]) (rest := []) hF.1 (c_Mo_opens l D cI cZ cT h_M q_M (up c_s (2) ((c_s 2) + 1)) c_past c_kept c_isKept c_pasts c_text c_typed c_rect_28 c_item c_items c_itemLevel c_treated (up c_from_17 ((x3_14).toNat) r_1) c_group_29 c_turn_30 c_size_31 c_old_27 c_aside c_begin c_level c_asides c_sorted c_spot c_rectangles c_parts c_visited r_1 1 H.size (c_s_37) e_38) (cwV 2 hts (zgV wm950 wm952 wm47 wm89 wm953) rfl rfl rfl (by decide +kernel) ⟨Nat.le_of_ble_eq_true rfl, Nat.le_of_ble_eq_true rfl⟩) ⟨zP.blind, va_recv hK (z_subP (ws' := (zMo cI cZ (h_M) (q_M) ((up c_s (2) ((c_s 2) + 1))) (c_past) (c_kept) (c_isKept) (c_pasts) (c_text) (c_typed) (c_rect_28) (c_item) (c_items) (c_itemLevel) (c_treated) ((up c_from_17 ((x3_14).toNat) r_1)) (c_group_29) (c_turn_30) (c_size_31) (c_old_27) (c_aside) (c_begin) (c_level) (c_asides) (c_sorted) (c_spot) (c_rectangles) (c_parts) (c_visited))) hP [0, 1, 2, 3, 4, 5, 6, 7, 8, 9, 10, 11, 12, 13, 14, 15, 16, 17, 18] rfl) (ci := 7) (q0 := 0) rfl rfl, zP.enter (z_subP (ws' := (zMo cI cZ (h_M) (q_M) ((up c_s (2) ((c_s 2) + 1))) (c_past) (c_kept) (c_isKept) (c_pasts) (c_text) (c_typed) (c_rect_28) (c_item) (c_items) (c_itemLevel) (c_treated) ((up c_from_17 ((x3_14).toNat) r_1)) (c_group_29) (c_turn_30) (c_size_31) (c_old_27) (c_aside) (c_begin) (c_level) (c_asides) (c_sorted) (c_spot) (c_rectangles) (c_parts) (c_visited))) hP [0, 1, 2, 3, 4, 5, 6, 7, 8, 9, 10, 11, 12, 13, 14, 15, 16, 17, 18] rfl) hK (hD.sub [0, 1, 2, 3, 4, 5, 6, 7, 8, 9, 10, 11, 12, 13, 14, 15, 16, 17, 18] (by decide) rfl) hN⟩ rfl rfl hl.1 rfl (lv_room (Nat.le_of_ble_eq_true rfl)) dX7_divides_108 ⟨Nat.le_refl _, Nat.le_refl _⟩) hP hD hS hA [0, 1, 2, 3, 4, 5, 6, 7, 8, 9, 10, 11, 12, 13, 14, 15, 16, 17, 18] [] [0, 1, 2, 3, 4, 5, 6, 7, 8, 9, 10, 11, 12, 13, 14, 15, 16, 17, 18] rfl rfl (by decide) (fun _ => rfl) (fun u_39 H locs hP hD hS hz => ?_)
  refine lv_aload_n hx hb dX7_divides_111 rfl (lv_at hl 1 rfl) ?_
  refine lv_iconst (v := Int32.ofInt 0) hx hb dX7_divides_112 rfl ?_
  refine lv_iload_n hx hb dX7_divides_113 rfl (lv_at hl 4 rfl) ?_
  refine lv_iload hx hb dX7_divides_114 (lv_at hl 0 rfl) ?_
  refine lv_iload_n hx hb dX7_divides_116 rfl (lv_at hl 2 rfl) ?_
  obtain ⟨r_40, c_s_41, e_42, h⟩ := bd2_e h
  refine z_goi (ws' := []) (ret := r_40) (wc := (zMo cI cZ (h_M) (q_M) (c_s_37) (c_past) (c_kept) (c_isKept) (c_pasts) (c_text) (c_typed) (c_rect_28) (c_item) (c_items) (c_itemLevel) (c_treated) ((up c_from_17 ((x3_14).toNat) r_1)) (c_group_29) (c_turn_30) (c_size_31) (c_old_27) (c_aside) (c_begin) (c_level) (c_asides) (c_sorted) (c_spot) (c_rectangles) (c_parts) (c_visited))) (wn := fun u_43 => (zMo cI cZ h_M q_M c_s_41 c_past c_kept c_isKept c_pasts c_text c_typed c_rect_28 c_item c_items c_itemLevel c_treated (up c_from_17 ((x3_14).toNat) r_1) c_group_29 c_turn_30 c_size_31 c_old_27 c_aside c_begin c_level c_asides c_sorted c_spot c_rectangles c_parts c_visited)) (wr := []) (va_runV (As := [vI 0, vI x3_14, vI r_34, vI x1]) (rest := []) hF.1 (c_Mo_lays l D cI cZ cT h_M q_M c_s_37 c_past c_kept c_isKept c_pasts c_text c_typed c_rect_28 c_item c_items c_itemLevel c_treated (up c_from_17 ((x3_14).toNat) r_1) c_group_29 c_turn_30 c_size_31 c_old_27 c_aside c_begin c_level c_asides c_sorted c_spot c_rectangles c_parts c_visited 0 x3_14 r_34 x1 H.size (r_40, c_s_41) e_42) (cwV 4 hts (zgV wm998 wm1000 wm59 wm89 wm1001) rfl rfl rfl (by decide +kernel) ⟨Nat.le_of_ble_eq_true rfl, Nat.le_of_ble_eq_true rfl⟩) ⟨zP.blind, va_recv hK (z_subP (ws' := (zMo cI cZ (h_M) (q_M) (c_s_37) (c_past) (c_kept) (c_isKept) (c_pasts) (c_text) (c_typed) (c_rect_28) (c_item) (c_items) (c_itemLevel) (c_treated) ((up c_from_17 ((x3_14).toNat) r_1)) (c_group_29) (c_turn_30) (c_size_31) (c_old_27) (c_aside) (c_begin) (c_level) (c_asides) (c_sorted) (c_spot) (c_rectangles) (c_parts) (c_visited))) hP [0, 1, 2, 3, 4, 5, 6, 7, 8, 9, 10, 11, 12, 13, 14, 15, 16, 17, 18] rfl) (ci := 7) (q0 := 0) rfl rfl, zP.enter (z_subP (ws' := (zMo cI cZ (h_M) (q_M) (c_s_37) (c_past) (c_kept) (c_isKept) (c_pasts) (c_text) (c_typed) (c_rect_28) (c_item) (c_items) (c_itemLevel) (c_treated) ((up c_from_17 ((x3_14).toNat) r_1)) (c_group_29) (c_turn_30) (c_size_31) (c_old_27) (c_aside) (c_begin) (c_level) (c_asides) (c_sorted) (c_spot) (c_rectangles) (c_parts) (c_visited))) hP [0, 1, 2, 3, 4, 5, 6, 7, 8, 9, 10, 11, 12, 13, 14, 15, 16, 17, 18] rfl) hK (hD.sub [0, 1, 2, 3, 4, 5, 6, 7, 8, 9, 10, 11, 12, 13, 14, 15, 16, 17, 18] (by decide) rfl) hN⟩ rfl rfl hl.1 rfl (lv_room (Nat.le_of_ble_eq_true rfl)) dX7_divides_117 ⟨Nat.le_refl _, Nat.le_refl _⟩) hP hD hS hA [0, 1, 2, 3, 4, 5, 6, 7, 8, 9, 10, 11, 12, 13, 14, 15, 16, 17, 18] [] [0, 1, 2, 3, 4, 5, 6, 7, 8, 9, 10, 11, 12, 13, 14, 15, 16, 17, 18] rfl rfl (by decide) (fun _ => rfl) (fun u_43 H locs hP hD hS hz => ?_)
  refine lv_istore (lv' := [(5, vI r_40), (4, vI r_34), (0, .ref h_M), (1, vI x1), (2, vI r_1), (3, vI x3_14)]) hx hb dX7_divides_120 hl (by decide) rfl (fun ls hl => ?_)
  refine lv_aload_n hx hb dX7_divides_122 rfl (lv_at hl 2 rfl) ?_
  refine lv_iconst (v := Int32.ofInt 1) hx hb dX7_divides_123 rfl ?_
  refine lv_iload_n hx hb dX7_divides_124 rfl (lv_at hl 5 rfl) ?_
  refine lv_iload hx hb dX7_divides_125 (lv_at hl 1 rfl) ?_
  refine lv_iload hx hb dX7_divides_127 (lv_at hl 0 rfl) ?_
  obtain ⟨r_44, c_s_45, e_46, h⟩ := bd2_e h
  refine z_goi (ws' := []) (ret := r_44) (wc := (zMo cI cZ (h_M) (q_M) (c_s_41) (c_past) (c_kept) (c_isKept) (c_pasts) (c_text) (c_typed) (c_rect_28) (c_item) (c_items) (c_itemLevel) (c_treated) ((up c_from_17 ((x3_14).toNat) r_1)) (c_group_29) (c_turn_30) (c_size_31) (c_old_27) (c_aside) (c_begin) (c_level) (c_asides) (c_sorted) (c_spot) (c_rectangles) (c_parts) (c_visited))) (wn := fun u_47 => (zMo cI cZ h_M q_M c_s_45 c_past c_kept c_isKept c_pasts c_text c_typed c_rect_28 c_item c_items c_itemLevel c_treated (up c_from_17 ((x3_14).toNat) r_1) c_group_29 c_turn_30 c_size_31 c_old_27 c_aside c_begin c_level c_asides c_sorted c_spot c_rectangles c_parts c_visited)) (wr := []) (va_runV (As := [vI 1, vI x3_14, vI r_34, vI r_40]) (rest := []) hF.1 (c_Mo_lays l D cI cZ cT h_M q_M c_s_41 c_past c_kept c_isKept c_pasts c_text c_typed c_rect_28 c_item c_items c_itemLevel c_treated (up c_from_17 ((x3_14).toNat) r_1) c_group_29 c_turn_30 c_size_31 c_old_27 c_aside c_begin c_level c_asides c_sorted c_spot c_rectangles c_parts c_visited 1 x3_14 r_34 r_40 H.size (r_44, c_s_45) e_46) (cwV 4 hts (zgV wm998 wm1000 wm59 wm89 wm1001) rfl rfl rfl (by decide +kernel) ⟨Nat.le_of_ble_eq_true rfl, Nat.le_of_ble_eq_true rfl⟩) ⟨zP.blind, va_recv hK (z_subP (ws' := (zMo cI cZ (h_M) (q_M) (c_s_41) (c_past) (c_kept) (c_isKept) (c_pasts) (c_text) (c_typed) (c_rect_28) (c_item) (c_items) (c_itemLevel) (c_treated) ((up c_from_17 ((x3_14).toNat) r_1)) (c_group_29) (c_turn_30) (c_size_31) (c_old_27) (c_aside) (c_begin) (c_level) (c_asides) (c_sorted) (c_spot) (c_rectangles) (c_parts) (c_visited))) hP [0, 1, 2, 3, 4, 5, 6, 7, 8, 9, 10, 11, 12, 13, 14, 15, 16, 17, 18] rfl) (ci := 7) (q0 := 0) rfl rfl, zP.enter (z_subP (ws' := (zMo cI cZ (h_M) (q_M) (c_s_41) (c_past) (c_kept) (c_isKept) (c_pasts) (c_text) (c_typed) (c_rect_28) (c_item) (c_items) (c_itemLevel) (c_treated) ((up c_from_17 ((x3_14).toNat) r_1)) (c_group_29) (c_turn_30) (c_size_31) (c_old_27) (c_aside) (c_begin) (c_level) (c_asides) (c_sorted) (c_spot) (c_rectangles) (c_parts) (c_visited))) hP [0, 1, 2, 3, 4, 5, 6, 7, 8, 9, 10, 11, 12, 13, 14, 15, 16, 17, 18] rfl) hK (hD.sub [0, 1, 2, 3, 4, 5, 6, 7, 8, 9, 10, 11, 12, 13, 14, 15, 16, 17, 18] (by decide) rfl) hN⟩ rfl rfl hl.1 rfl (lv_room (Nat.le_of_ble_eq_true rfl)) dX7_divides_129 ⟨Nat.le_refl _, Nat.le_refl _⟩) hP hD hS hA [0, 1, 2, 3, 4, 5, 6, 7, 8, 9, 10, 11, 12, 13, 14, 15, 16, 17, 18] [] [0, 1, 2, 3, 4, 5, 6, 7, 8, 9, 10, 11, 12, 13, 14, 15, 16, 17, 18] rfl rfl (by decide) (fun _ => rfl) (fun u_47 H locs hP hD hS hz => ?_)
  refine lv_istore (lv' := [(5, vI r_44), (4, vI r_34), (0, .ref h_M), (1, vI x1), (2, vI r_1), (3, vI x3_14)]) hx hb dX7_divides_132 hl (by decide) rfl (fun ls hl => ?_)
  refine lv_iload_n hx hb dX7_divides_134 rfl (lv_at hl 3 rfl) ?_
  obtain ⟨g_48, h⟩ := gd_e h
  refine z_if_le (tgt := 144) hx hb g_48 dX7_divides_135 (by decide) (fun b_49 => ?_) (fun b_49 => ?_)
  · have h := it_n b_49 h
    refine lv_aload_n hx hb dX7_divides_144 rfl (lv_at hl 2 rfl) ?_
    refine lv_iconst (v := Int32.ofInt 0) hx hb dX7_divides_145 rfl ?_
    refine lv_iconst (v := Int32.ofInt 1) hx hb dX7_divides_146 rfl ?_
    obtain ⟨c_s_50, e_51, h⟩ := bd1_e h
    refine z_gov (wc := (zMo cI cZ (h_M) (q_M) (c_s_45) (c_past) (c_kept) (c_isKept) (c_pasts) (c_text) (c_typed) (c_rect_28) (c_item) (c_items) (c_itemLevel) (c_treated) ((up c_from_17 ((x3_14).toNat) r_1)) (c_group_29) (c_turn_30) (c_size_31) (c_old_27) (c_aside) (c_begin) (c_level) (c_asides) (c_sorted) (c_spot) (c_rectangles) (c_parts) (c_visited))) (wn := fun u_52 => (zMo cI cZ h_M q_M c_s_50 c_past c_kept c_isKept c_pasts c_text c_typed c_rect_28 c_item c_items c_itemLevel c_treated (up c_from_17 ((x3_14).toNat) r_1) c_group_29 c_turn_30 c_size_31 c_old_27 c_aside c_begin c_level c_asides c_sorted c_spot c_rectangles c_parts c_visited)) (wr := []) (va_runV (As := [vI 0, vI 1]) (rest := []) hF.1 (c_Mo_opens l D cI cZ cT h_M q_M c_s_45 c_past c_kept c_isKept c_pasts c_text c_typed c_rect_28 c_item c_items c_itemLevel c_treated (up c_from_17 ((x3_14).toNat) r_1) c_group_29 c_turn_30 c_size_31 c_old_27 c_aside c_begin c_level c_asides c_sorted c_spot c_rectangles c_parts c_visited 0 1 H.size (c_s_50) e_51) (cwV 2 hts (zgV wm950 wm952 wm47 wm89 wm953) rfl rfl rfl (by decide +kernel) ⟨Nat.le_of_ble_eq_true rfl, Nat.le_of_ble_eq_true rfl⟩) ⟨zP.blind, va_recv hK (z_subP (ws' := (zMo cI cZ (h_M) (q_M) (c_s_45) (c_past) (c_kept) (c_isKept) (c_pasts) (c_text) (c_typed) (c_rect_28) (c_item) (c_items) (c_itemLevel) (c_treated) ((up c_from_17 ((x3_14).toNat) r_1)) (c_group_29) (c_turn_30) (c_size_31) (c_old_27) (c_aside) (c_begin) (c_level) (c_asides) (c_sorted) (c_spot) (c_rectangles) (c_parts) (c_visited))) hP [0, 1, 2, 3, 4, 5, 6, 7, 8, 9, 10, 11, 12, 13, 14, 15, 16, 17, 18] rfl) (ci := 7) (q0 := 0) rfl rfl, zP.enter (z_subP (ws' := (zMo cI cZ (h_M) (q_M) (c_s_45) (c_past) (c_kept) (c_isKept) (c_pasts) (c_text) (c_typed) (c_rect_28) (c_item) (c_items) (c_itemLevel) (c_treated) ((up c_from_17 ((x3_14).toNat) r_1)) (c_group_29) (c_turn_30) (c_size_31) (c_old_27) (c_aside) (c_begin) (c_level) (c_asides) (c_sorted) (c_spot) (c_rectangles) (c_parts) (c_visited))) hP [0, 1, 2, 3, 4, 5, 6, 7, 8, 9, 10, 11, 12, 13, 14, 15, 16, 17, 18] rfl) hK (hD.sub [0, 1, 2, 3, 4, 5, 6, 7, 8, 9, 10, 11, 12, 13, 14, 15, 16, 17, 18] (by decide) rfl) hN⟩ rfl rfl hl.1 rfl (lv_room (Nat.le_of_ble_eq_true rfl)) dX7_divides_147 ⟨Nat.le_refl _, Nat.le_refl _⟩) hP hD hS hA [0, 1, 2, 3, 4, 5, 6, 7, 8, 9, 10, 11, 12, 13, 14, 15, 16, 17, 18] [] [0, 1, 2, 3, 4, 5, 6, 7, 8, 9, 10, 11, 12, 13, 14, 15, 16, 17, 18] rfl rfl (by decide) (fun _ => rfl) (fun u_52 H locs hP hD hS hz => ?_)
    refine lv_aload_n hx hb dX7_divides_150 rfl (lv_at hl 2 rfl) ?_
    refine va_get (D := D) (ci := 7) (v := .ref (q_M 0)) (C := RX7) (T := TX7) (N := 26) hx hb hts zin7 hown hK hP 0 rfl rfl 0 (by decide) (hts _ wm787) (fun _ h9 => h9) rfl dX7_divides_151 ?_
    refine lv_bipush (v := Int32.ofInt 101) hx hb dX7_divides_154 (by decide +kernel) ?_
    refine lv_iload hx hb dX7_divides_156 (lv_at hl 1 rfl) ?_
    refine lv_iconst (v := Int32.ofInt 1) hx hb dX7_divides_158 rfl ?_
    refine z_isub hx hb dX7_divides_159 ?_
    refine z_iast (n := 461) (f := c_s_50) (i := 101) (x := (r_34 - 1)) (ws' := (zMo cI cZ h_M q_M (up c_s_50 (101) (r_34 - 1)) c_past c_kept c_isKept c_pasts c_text c_typed c_rect_28 c_item c_items c_itemLevel c_treated (up c_from_17 ((x3_14).toNat) r_1) c_group_29 c_turn_30 c_size_31 c_old_27 c_aside c_begin c_level c_asides c_sorted c_spot c_rectangles c_parts c_visited)) hx hb hK hP hD hS 1 rfl rfl (by decide) (by decide) dX7_divides_160 rfl (fun H locs hP hD hS => ?_)
    refine lv_bipush (v := Int32.ofInt (-5)) hx hb dX7_divides_161 (by decide +kernel) ?_
    obtain rfl := Option.some.inj h
    exact z_iret hx hb hr hlk (fun _ _ => 0) hP hD hS dX7_divides_163
  · have h := it_p b_49 h
    refine lv_aload_n hx hb dX7_divides_138 rfl (lv_at hl 2 rfl) ?_
    refine lv_iload_n hx hb dX7_divides_139 rfl (lv_at hl 3 rfl) ?_
    obtain ⟨r_53, e_54, h⟩ := bd1_e h
    refine z_goi (ws' := []) (ret := r_53) (wc := (zMo cI cZ (h_M) (q_M) (c_s_45) (c_past) (c_kept) (c_isKept) (c_pasts) (c_text) (c_typed) (c_rect_28) (c_item) (c_items) (c_itemLevel) (c_treated) ((up c_from_17 ((x3_14).toNat) r_1)) (c_group_29) (c_turn_30) (c_size_31) (c_old_27) (c_aside) (c_begin) (c_level) (c_asides) (c_sorted) (c_spot) (c_rectangles) (c_parts) (c_visited))) (wn := fun u_55 => (zMo cI cZ h_M q_M c_s_45 c_past c_kept c_isKept c_pasts c_text c_typed c_rect_28 c_item c_items c_itemLevel c_treated (up c_from_17 ((x3_14).toNat) r_1) c_group_29 c_turn_30 c_size_31 c_old_27 c_aside c_begin c_level c_asides c_sorted c_spot c_rectangles c_parts c_visited)) (wr := []) (va_runV (As := [vI x1]) (rest := []) hF.1 (c_Mo_above l D cI cZ cT h_M q_M c_s_45 c_past c_kept c_isKept c_pasts c_text c_typed c_rect_28 c_item c_items c_itemLevel c_treated (up c_from_17 ((x3_14).toNat) r_1) c_group_29 c_turn_30 c_size_31 c_old_27 c_aside c_begin c_level c_asides c_sorted c_spot c_rectangles c_parts c_visited x1 H.size (r_53) e_54) (cwV 1 hts (zgV wm1002 wm1004 wm60 wm89 wm1005) rfl rfl rfl (by decide +kernel) ⟨Nat.le_of_ble_eq_true rfl, Nat.le_of_ble_eq_true rfl⟩) ⟨zP.blind, va_recv hK (z_subP (ws' := (zMo cI cZ (h_M) (q_M) (c_s_45) (c_past) (c_kept) (c_isKept) (c_pasts) (c_text) (c_typed) (c_rect_28) (c_item) (c_items) (c_itemLevel) (c_treated) ((up c_from_17 ((x3_14).toNat) r_1)) (c_group_29) (c_turn_30) (c_size_31) (c_old_27) (c_aside) (c_begin) (c_level) (c_asides) (c_sorted) (c_spot) (c_rectangles) (c_parts) (c_visited))) hP [0, 1, 2, 3, 4, 5, 6, 7, 8, 9, 10, 11, 12, 13, 14, 15, 16, 17, 18] rfl) (ci := 7) (q0 := 0) rfl rfl, zP.enter (z_subP (ws' := (zMo cI cZ (h_M) (q_M) (c_s_45) (c_past) (c_kept) (c_isKept) (c_pasts) (c_text) (c_typed) (c_rect_28) (c_item) (c_items) (c_itemLevel) (c_treated) ((up c_from_17 ((x3_14).toNat) r_1)) (c_group_29) (c_turn_30) (c_size_31) (c_old_27) (c_aside) (c_begin) (c_level) (c_asides) (c_sorted) (c_spot) (c_rectangles) (c_parts) (c_visited))) hP [0, 1, 2, 3, 4, 5, 6, 7, 8, 9, 10, 11, 12, 13, 14, 15, 16, 17, 18] rfl) hK (hD.sub [0, 1, 2, 3, 4, 5, 6, 7, 8, 9, 10, 11, 12, 13, 14, 15, 16, 17, 18] (by decide) rfl) hN⟩ rfl rfl hl.1 rfl (lv_room (Nat.le_of_ble_eq_true rfl)) dX7_divides_140 ⟨Nat.le_refl _, Nat.le_refl _⟩) hP hD hS hA [0, 1, 2, 3, 4, 5, 6, 7, 8, 9, 10, 11, 12, 13, 14, 15, 16, 17, 18] [] [0, 1, 2, 3, 4, 5, 6, 7, 8, 9, 10, 11, 12, 13, 14, 15, 16, 17, 18] rfl rfl (by decide) (fun _ => rfl) (fun u_55 H locs hP hD hS hz => ?_)
    obtain rfl := Option.some.inj h
    exact z_iret hx hb hr hlk (fun _ _ => 0) hP hD hS dX7_divides_143
