def f_Mo_cuts_L2 (x1 : Int) (x2 : Int) (k : Int → (Nat → Int) → Option ((Nat → Int))) : Nat → Int → (Nat → Int) → Option ((Nat → Int))
  | 0, _, _ => none
  | n + 1, x3, c_s =>
  bd1 (f_Mo_length c_s) <| fun r_1 => gd (ck x3) <| gd (ck r_1) <| if x3 < r_1 then (bd1 (f_Mo_at c_s x3) <| fun r_7 => gd (0 ≤ (((101 + x1) + x3) - x2) ∧ (((101 + x1) + x3) - x2) < ((461 : Nat) : Int)) <| f_Mo_cuts_L2 x1 x2 k n ((x3 + 1)) ((up c_s (((((101 + x1) + x3) - x2)).toNat) r_7))) else (k (x3) (c_s))
def f_Mo_cuts (c_s : Nat → Int) (x1 : Int) (x2 : Int) : Option ((Nat → Int)) :=
  f_Mo_cuts_L2 (x1) (x2) (fun x3_11 c_s_12 => some ((up c_s_12 (4) ((c_s_12 4) - (x2 - x1))))) FU (x2) (c_s)
abbrev rm_Mo_cuts : Room := ({ frames := 1, cells := 0, slots := 0, locals := 21 } : Room)
set_option maxHeartbeats 4000000 in
set_option maxRecDepth 100000 in
theorem w_Mo_cuts_L2 {p : Program} {l : Launch} {e : Env} {s : State} {m : MethodId} {args : Array Value} {below : List Frame} {meth : Method} {c : Code} {A : Nat → Prop} (D : va_G) (cI cZ cT : ClassId) (h_M : Nat) (q_M : Nat → Nat) (c_past : Nat → Int) (c_kept : Nat → Int) (c_isKept : Int) (c_pasts : Int) (c_text : Nat → Int) (c_typed : Int) (c_rect : Nat → Int) (c_item : Nat → Int) (c_items : Int) (c_itemLevel : Int) (c_treated : Nat → Int) (c_from : Nat → Int) (c_group : Nat → Int) (c_turn : Nat → Int) (c_size : Nat → Int) (c_old : Nat → Int) (c_aside : Nat → Int) (c_begin : Nat → Int) (c_level : Nat → Int) (c_asides : Int) (c_sorted : Nat → Int) (c_spot : Int) (c_rectangles : Int) (c_parts : Nat → Int) (c_visited : Nat → Int) (x1 : Int) (x2 : Int) (res : (Nat → Int)) (k : Int → (Nat → Int) → Option ((Nat → Int))) (hF : zF p m c cX7_cuts 4 s args yX7_cuts.cls meth none yX7_cuts.name A D (zt cI cZ cT))
    (hk : ∀ (x3 : Int) (c_s : Nat → Int) (H : Heap) (locs : List Loc) (ls : Array Slot), k x3 c_s = some res → va_P D vwCl ((zMo cI cZ h_M q_M c_s c_past c_kept c_isKept c_pasts c_text c_typed c_rect c_item c_items c_itemLevel c_treated c_from c_group c_turn c_size c_old c_aside c_begin c_level c_asides c_sorted c_spot c_rectangles c_parts c_visited)) H → va_D A ((zMo cI cZ h_M q_M c_s c_past c_kept c_isKept c_pasts c_text c_typed c_rect c_item c_items c_itemLevel c_treated c_from c_group c_turn c_size c_old c_aside c_begin c_level c_asides c_sorted c_spot c_rectangles c_parts c_visited)) → va_S A s.heap H locs → lv_has ls 4 [(0, .ref h_M), (1, vI x1), (2, vI x2)] → W p l e rm_Mo_cuts s m args below meth c H locs 0 0 (MQ below (zQv D (fun u => (zMo cI cZ h_M q_M (res) c_past c_kept c_isKept c_pasts c_text c_typed c_rect c_item c_items c_itemLevel c_treated c_from c_group c_turn c_size c_old c_aside c_begin c_level c_asides c_sorted c_spot c_rectangles c_parts c_visited)) A) args s 0 0 A) (F0 m 34 ls [])) :
    ∀ (n : Nat) (x3 : Int) (c_s : Nat → Int) (H : Heap) (locs : List Loc) (ls : Array Slot), f_Mo_cuts_L2 x1 x2 k n x3 c_s = some res → va_P D vwCl ((zMo cI cZ h_M q_M c_s c_past c_kept c_isKept c_pasts c_text c_typed c_rect c_item c_items c_itemLevel c_treated c_from c_group c_turn c_size c_old c_aside c_begin c_level c_asides c_sorted c_spot c_rectangles c_parts c_visited)) H → va_D A ((zMo cI cZ h_M q_M c_s c_past c_kept c_isKept c_pasts c_text c_typed c_rect c_item c_items c_itemLevel c_treated c_from c_group c_turn c_size c_old c_aside c_begin c_level c_asides c_sorted c_spot c_rectangles c_parts c_visited)) → va_S A s.heap H locs → lv_has ls 4 [(0, .ref h_M), (1, vI x1), (2, vI x2), (3, vI x3)] → W p l e rm_Mo_cuts s m args below meth c H locs 0 0 (MQ below (zQv D (fun u => (zMo cI cZ h_M q_M (res) c_past c_kept c_isKept c_pasts c_text c_typed c_rect c_item c_items c_itemLevel c_treated c_from c_group c_turn c_size c_old c_aside c_begin c_level c_asides c_sorted c_spot c_rectangles c_parts c_visited)) A) args s 0 0 A) (F0 m 2 ls []) := by
  have hx := hF.1.1
  have hb := hF.1.2.1
  have hml := hF.1.2.2.1
  have hown : s.vm.findClass "RectangleTreeModel" = some m.cls := hF.1.2.2.2.1
  have hts := hF.1.2.2.2.2
  have hr := hF.2.1
  have hlk := hF.2.2.1
  have hK := hF.2.2.2.2.1
  have hN := hF.2.2.2.2.2.1
  have hA := hF.2.2.2.2.2.2
  intro n
  induction n with
  | zero => intro x3 c_s H locs ls h; cases h
  | succ n ih =>
    intro x3 c_s H locs ls h hP hD hS hl
    rw [f_Mo_cuts_L2] at h
    refine lv_iload_n hx hb dX7_cuts_2 rfl (lv_at hl 3 rfl) ?_
    refine lv_aload_n hx hb dX7_cuts_3 rfl (lv_at hl 0 rfl) ?_
    obtain ⟨r_1, e_2, h⟩ := bd1_e h
    refine z_goi (ws' := []) (ret := r_1) (wc := (zMo cI cZ (h_M) (q_M) (c_s) (c_past) (c_kept) (c_isKept) (c_pasts) (c_text) (c_typed) (c_rect) (c_item) (c_items) (c_itemLevel) (c_treated) (c_from) (c_group) (c_turn) (c_size) (c_old) (c_aside) (c_begin) (c_level) (c_asides) (c_sorted) (c_spot) (c_rectangles) (c_parts) (c_visited))) (wn := fun u_3 => (zMo cI cZ h_M q_M c_s c_past c_kept c_isKept c_pasts c_text c_typed c_rect c_item c_items c_itemLevel c_treated c_from c_group c_turn c_size c_old c_aside c_begin c_level c_asides c_sorted c_spot c_rectangles c_parts c_visited)) (wr := []) (va_runV (As := []) (rest := [vI x3]) hF.1 (c_Mo_length l D cI cZ cT h_M q_M c_s c_past c_kept c_isKept c_pasts c_text c_typed c_rect c_item c_items c_itemLevel c_treated c_from c_group c_turn c_size c_old c_aside c_begin c_level c_asides c_sorted c_spot c_rectangles c_parts c_visited H.size (r_1) e_2) (cwV 0 hts (zgV wm926 wm928 wm41 wm89 wm929) rfl rfl rfl (by decide +kernel) ⟨Nat.le_of_ble_eq_true rfl, Nat.le_of_ble_eq_true rfl⟩) ⟨zP.blind, va_recv hK (z_subP (ws' := (zMo cI cZ (h_M) (q_M) (c_s) (c_past) (c_kept) (c_isKept) (c_pasts) (c_text) (c_typed) (c_rect) (c_item) (c_items) (c_itemLevel) (c_treated) (c_from) (c_group) (c_turn) (c_size) (c_old) (c_aside) (c_begin) (c_level) (c_asides) (c_sorted) (c_spot) (c_rectangles) (c_parts) (c_visited))) hP [0, 1, 2, 3, 4, 5, 6, 7, 8, 9, 10, 11, 12, 13, 14, 15, 16, 17, 18] rfl) (ci := 7) (q0 := 0) rfl rfl, zP.enter (z_subP (ws' := (zMo cI cZ (h_M) (q_M) (c_s) (c_past) (c_kept) (c_isKept) (c_pasts) (c_text) (c_typed) (c_rect) (c_item) (c_items) (c_itemLevel) (c_treated) (c_from) (c_group) (c_turn) (c_size) (c_old) (c_aside) (c_begin) (c_level) (c_asides) (c_sorted) (c_spot) (c_rectangles) (c_parts) (c_visited))) hP [0, 1, 2, 3, 4, 5, 6, 7, 8, 9, 10, 11, 12, 13, 14, 15, 16, 17, 18] rfl) hK (hD.sub [0, 1, 2, 3, 4, 5, 6, 7, 8, 9, 10, 11, 12, 13, 14, 15, 16, 17, 18] (by decide) rfl) hN⟩ rfl rfl hl.1 rfl (lv_room (Nat.le_of_ble_eq_true rfl)) dX7_cuts_4 ⟨Nat.le_refl _, Nat.le_refl _⟩) hP hD hS hA [0, 1, 2, 3, 4, 5, 6, 7, 8, 9, 10, 11, 12, 13, 14, 15, 16, 17, 18] [] [0, 1, 2, 3, 4, 5, 6, 7, 8, 9, 10, 11, 12, 13, 14, 15, 16, 17, 18] rfl rfl (by decide) (fun _ => rfl) (fun u_3 H locs hP hD hS hz => ?_)
    obtain ⟨g_4, h⟩ := gd_e h
    obtain ⟨g_5, h⟩ := gd_e h
    refine z_icmp_ge (tgt := 34) hx hb g_4 g_5 dX7_cuts_7 (by decide) (fun b_6 => ?_) (fun b_6 => ?_)
    · have h := it_n b_6 h
      exact hk (x3) (c_s) H locs ls h hP hD hS (lv_sub hl [0, 1, 2] rfl)
    · have h := it_p b_6 h
      refine lv_aload_n hx hb dX7_cuts_10 rfl (lv_at hl 0 rfl) ?_
      refine va_get (D := D) (ci := 7) (v := .ref (q_M 0)) (C := RX7) (T := TX7) (N := 26) hx hb hts zin7 hown hK hP 0 rfl rfl 0 (by decide) (hts _ wm787) (fun _ h9 => h9) rfl dX7_cuts_11 ?_
      refine lv_bipush (v := Int32.ofInt 101) hx hb dX7_cuts_14 (by decide +kernel) ?_
      refine lv_iload_n hx hb dX7_cuts_16 rfl (lv_at hl 1 rfl) ?_
      refine z_iadd hx hb dX7_cuts_17 ?_
      refine lv_iload_n hx hb dX7_cuts_18 rfl (lv_at hl 3 rfl) ?_
      refine z_iadd hx hb dX7_cuts_19 ?_
      refine lv_iload_n hx hb dX7_cuts_20 rfl (lv_at hl 2 rfl) ?_
      refine z_isub hx hb dX7_cuts_21 ?_
      refine lv_aload_n hx hb dX7_cuts_22 rfl (lv_at hl 0 rfl) ?_
      refine lv_iload_n hx hb dX7_cuts_23 rfl (lv_at hl 3 rfl) ?_
      obtain ⟨r_7, e_8, h⟩ := bd1_e h
      refine z_goi (ws' := []) (ret := r_7) (wc := (zMo cI cZ (h_M) (q_M) (c_s) (c_past) (c_kept) (c_isKept) (c_pasts) (c_text) (c_typed) (c_rect) (c_item) (c_items) (c_itemLevel) (c_treated) (c_from) (c_group) (c_turn) (c_size) (c_old) (c_aside) (c_begin) (c_level) (c_asides) (c_sorted) (c_spot) (c_rectangles) (c_parts) (c_visited))) (wn := fun u_9 => (zMo cI cZ h_M q_M c_s c_past c_kept c_isKept c_pasts c_text c_typed c_rect c_item c_items c_itemLevel c_treated c_from c_group c_turn c_size c_old c_aside c_begin c_level c_asides c_sorted c_spot c_rectangles c_parts c_visited)) (wr := []) (va_runV (As := [vI x3]) (rest := [vI (((101 + x1) + x3) - x2), .ref (q_M 0)]) hF.1 (c_Mo_at l D cI cZ cT h_M q_M c_s c_past c_kept c_isKept c_pasts c_text c_typed c_rect c_item c_items c_itemLevel c_treated c_from c_group c_turn c_size c_old c_aside c_begin c_level c_asides c_sorted c_spot c_rectangles c_parts c_visited x3 H.size (r_7) e_8) (cwV 1 hts (zgV wm915 wm917 wm39 wm89 wm918) rfl rfl rfl (by decide +kernel) ⟨Nat.le_of_ble_eq_true rfl, Nat.le_of_ble_eq_true rfl⟩) ⟨zP.blind, va_recv hK (z_subP (ws' := (zMo cI cZ (h_M) (q_M) (c_s) (c_past) (c_kept) (c_isKept) (c_pasts) (c_text) (c_typed) (c_rect) (c_item) (c_items) (c_itemLevel) (c_treated) (c_from) (c_group) (c_turn) (c_size) (c_old) (c_aside) (c_begin) (c_level) (c_asides) (c_sorted) (c_spot) (c_rectangles) (c_parts) (c_visited))) hP [0, 1, 2, 3, 4, 5, 6, 7, 8, 9, 10, 11, 12, 13, 14, 15, 16, 17, 18] rfl) (ci := 7) (q0 := 0) rfl rfl, zP.enter (z_subP (ws' := (zMo cI cZ (h_M) (q_M) (c_s) (c_past) (c_kept) (c_isKept) (c_pasts) (c_text) (c_typed) (c_rect) (c_item) (c_items) (c_itemLevel) (c_treated) (c_from) (c_group) (c_turn) (c_size) (c_old) (c_aside) (c_begin) (c_level) (c_asides) (c_sorted) (c_spot) (c_rectangles) (c_parts) (c_visited))) hP [0, 1, 2, 3, 4, 5, 6, 7, 8, 9, 10, 11, 12, 13, 14, 15, 16, 17, 18] rfl) hK (hD.sub [0, 1, 2, 3, 4, 5, 6, 7, 8, 9, 10, 11, 12, 13, 14, 15, 16, 17, 18] (by decide) rfl) hN⟩ rfl rfl hl.1 rfl (lv_room (Nat.le_of_ble_eq_true rfl)) dX7_cuts_24 ⟨Nat.le_refl _, Nat.le_refl _⟩) hP hD hS hA [0, 1, 2, 3, 4, 5, 6, 7, 8, 9, 10, 11, 12, 13, 14, 15, 16, 17, 18] [] [0, 1, 2, 3, 4, 5, 6, 7, 8, 9, 10, 11, 12, 13, 14, 15, 16, 17, 18] rfl rfl (by decide) (fun _ => rfl) (fun u_9 H locs hP hD hS hz => ?_)
      obtain ⟨g_10, h⟩ := gd_e h
      refine z_iast (n := 461) (f := c_s) (i := (((101 + x1) + x3) - x2)) (x := r_7) (ws' := (zMo cI cZ h_M q_M (up c_s (((((101 + x1) + x3) - x2)).toNat) r_7) c_past c_kept c_isKept c_pasts c_text c_typed c_rect c_item c_items c_itemLevel c_treated c_from c_group c_turn c_size c_old c_aside c_begin c_level c_asides c_sorted c_spot c_rectangles c_parts c_visited)) hx hb hK hP hD hS 1 rfl rfl g_10 (by have := g_10.2; omega) dX7_cuts_27 rfl (fun H locs hP hD hS => ?_)
      refine lv_iinc (v := Int32.ofInt (x3 + 1)) (lv' := [(3, vI (x3 + 1)), (0, .ref h_M), (1, vI x1), (2, vI x2)]) hx hb dX7_cuts_28 hl (k := 3) rfl (z_inc _ _) (by decide) rfl (fun ls hl => ?_)
      refine lv_goto (tgt := 2) hx hb dX7_cuts_31 (by decide) ?_
      exact ih ((x3 + 1)) ((up c_s (((((101 + x1) + x3) - x2)).toNat) r_7)) H locs ls h hP hD hS (lv_sub hl [1, 2, 3, 0] rfl)
set_option maxHeartbeats 4000000 in
set_option maxRecDepth 100000 in
theorem c_Mo_cuts (l : Launch) (D : va_G) (cI cZ cT : ClassId) (h_M : Nat) (q_M : Nat → Nat) (c_s : Nat → Int) (c_past : Nat → Int) (c_kept : Nat → Int) (c_isKept : Int) (c_pasts : Int) (c_text : Nat → Int) (c_typed : Int) (c_rect : Nat → Int) (c_item : Nat → Int) (c_items : Int) (c_itemLevel : Int) (c_treated : Nat → Int) (c_from : Nat → Int) (c_group : Nat → Int) (c_turn : Nat → Int) (c_size : Nat → Int) (c_old : Nat → Int) (c_aside : Nat → Int) (c_begin : Nat → Int) (c_level : Nat → Int) (c_asides : Int) (c_sorted : Nat → Int) (c_spot : Int) (c_rectangles : Int) (c_parts : Nat → Int) (c_visited : Nat → Int) (x1 : Int) (x2 : Int) (sz : Nat) (res : (Nat → Int)) (h : f_Mo_cuts c_s x1 x2 = some res) : zMv l yX7_cuts cX7_cuts 4 rm_Mo_cuts D (zt cI cZ cT) [.ref h_M, vI x1, vI x2] ((zMo cI cZ h_M q_M c_s c_past c_kept c_isKept c_pasts c_text c_typed c_rect c_item c_items c_itemLevel c_treated c_from c_group c_turn c_size c_old c_aside c_begin c_level c_asides c_sorted c_spot c_rectangles c_parts c_visited)) sz (fun u => (zMo cI cZ h_M q_M (res) c_past c_kept c_isKept c_pasts c_text c_typed c_rect c_item c_items c_itemLevel c_treated c_from c_group c_turn c_size c_old c_aside c_begin c_level c_asides c_sorted c_spot c_rectangles c_parts c_visited)) 0 0 := by
  refine z_enth (Qc := zQv D (fun u => (zMo cI cZ h_M q_M (res) c_past c_kept c_isKept c_pasts c_text c_typed c_rect c_item c_items c_itemLevel c_treated c_from c_group c_turn c_size c_old c_aside c_begin c_level c_asides c_sorted c_spot c_rectangles c_parts c_visited))) (by decide) (Nat.le_of_ble_eq_true rfl) (fun p e s m args below meth c A ls H locs hF hP hD hS hl => ?_)
  have hx := hF.1.1
  have hb := hF.1.2.1
  have hml := hF.1.2.2.1
  have hown : s.vm.findClass "RectangleTreeModel" = some m.cls := hF.1.2.2.2.1
  have hts := hF.1.2.2.2.2
  have hr := hF.2.1
  have hlk := hF.2.2.1
  have hK := hF.2.2.2.2.1
  have hN := hF.2.2.2.2.2.1
  have hA := hF.2.2.2.2.2.2
  unfold f_Mo_cuts at h
  refine lv_iload_n hx hb dX7_cuts_0 rfl (lv_at hl 2 rfl) ?_
  refine lv_istore_n (lv' := [(3, vI x2), (0, .ref h_M), (1, vI x1), (2, vI x2)]) hx hb dX7_cuts_1 rfl hl (by decide) rfl (fun ls hl => ?_)
  refine w_Mo_cuts_L2 D cI cZ cT (h_M) (q_M) (c_past) (c_kept) (c_isKept) (c_pasts) (c_text) (c_typed) (c_rect) (c_item) (c_items) (c_itemLevel) (c_treated) (c_from) (c_group) (c_turn) (c_size) (c_old) (c_aside) (c_begin) (c_level) (c_asides) (c_sorted) (c_spot) (c_rectangles) (c_parts) (c_visited) (x1) (x2) _ _ hF (fun x3_11 c_s_12 H locs ls h hP hD hS hl => ?_) _ (x2) (c_s) _ _ _ h hP hD hS (lv_sub hl [1, 2, 3, 0] rfl)
  refine lv_aload_n hx hb dX7_cuts_34 rfl (lv_at hl 0 rfl) ?_
  refine va_get (D := D) (ci := 7) (v := .ref (q_M 0)) (C := RX7) (T := TX7) (N := 26) hx hb hts zin7 hown hK hP 0 rfl rfl 0 (by decide) (hts _ wm787) (fun _ h9 => h9) rfl dX7_cuts_35 ?_
  refine lv_iconst (v := Int32.ofInt 4) hx hb dX7_cuts_38 rfl ?_
  refine lv_dup2_11 hx hb dX7_cuts_39 rfl rfl ?_
  refine z_iald (n := 461) (f := c_s_12) (i := 4) hx hb hK hP 1 rfl rfl (by decide) (by decide) dX7_cuts_40 ?_
  refine lv_iload_n hx hb dX7_cuts_41 rfl (lv_at hl 2 rfl) ?_
  refine lv_iload_n hx hb dX7_cuts_42 rfl (lv_at hl 1 rfl) ?_
  refine z_isub hx hb dX7_cuts_43 ?_
  refine z_isub hx hb dX7_cuts_44 ?_
  refine z_iast (n := 461) (f := c_s_12) (i := 4) (x := ((c_s_12 4) - (x2 - x1))) (ws' := (zMo cI cZ h_M q_M (up c_s_12 (4) ((c_s_12 4) - (x2 - x1))) c_past c_kept c_isKept c_pasts c_text c_typed c_rect c_item c_items c_itemLevel c_treated c_from c_group c_turn c_size c_old c_aside c_begin c_level c_asides c_sorted c_spot c_rectangles c_parts c_visited)) hx hb hK hP hD hS 1 rfl rfl (by decide) (by decide) dX7_cuts_45 rfl (fun H locs hP hD hS => ?_)
  obtain rfl := Option.some.inj h
  exact z_vret hx hb hr hlk (fun _ _ => 0) hP hD hS dX7_cuts_46
def f_Mo_opens_L7 (x1 : Int) (x2 : Int) (k : Int → (Nat → Int) → Option ((Nat → Int))) : Nat → Int → (Nat → Int) → Option ((Nat → Int))
  | 0, _, _ => none
  | n + 1, x3, c_s =>
  gd (ck x3) <| gd (ck x1) <| if x3 < x1 then (k (x3) (c_s)) else (bd1 (f_Mo_at c_s x3) <| fun r_7 => gd (0 ≤ ((101 + x3) + x2) ∧ ((101 + x3) + x2) < ((461 : Nat) : Int)) <| f_Mo_opens_L7 x1 x2 k n ((x3 + (-1))) ((up c_s ((((101 + x3) + x2)).toNat) r_7)))
def f_Mo_opens (c_s : Nat → Int) (x1 : Int) (x2 : Int) : Option ((Nat → Int)) :=
  bd1 (f_Mo_length c_s) <| fun r_1 => f_Mo_opens_L7 (x1) (x2) (fun x3_11 c_s_12 => some ((up c_s_12 (4) ((c_s_12 4) + x2)))) FU ((r_1 - 1)) (c_s)
abbrev rm_Mo_opens : Room := ({ frames := 1, cells := 0, slots := 0, locals := 21 } : Room)
set_option maxHeartbeats 4000000 in
set_option maxRecDepth 100000 in
theorem w_Mo_opens_L7 {p : Program} {l : Launch} {e : Env} {s : State} {m : MethodId} {args : Array Value} {below : List Frame} {meth : Method} {c : Code} {A : Nat → Prop} (D : va_G) (cI cZ cT : ClassId) (h_M : Nat) (q_M : Nat → Nat) (c_past : Nat → Int) (c_kept : Nat → Int) (c_isKept : Int) (c_pasts : Int) (c_text : Nat → Int) (c_typed : Int) (c_rect : Nat → Int) (c_item : Nat → Int) (c_items : Int) (c_itemLevel : Int) (c_treated : Nat → Int) (c_from : Nat → Int) (c_group : Nat → Int) (c_turn : Nat → Int) (c_size : Nat → Int) (c_old : Nat → Int) (c_aside : Nat → Int) (c_begin : Nat → Int) (c_level : Nat → Int) (c_asides : Int) (c_sorted : Nat → Int) (c_spot : Int) (c_rectangles : Int) (c_parts : Nat → Int) (c_visited : Nat → Int) (x1 : Int) (x2 : Int) (res : (Nat → Int)) (k : Int → (Nat → Int) → Option ((Nat → Int))) (hF : zF p m c cX7_opens 4 s args yX7_opens.cls meth none yX7_opens.name A D (zt cI cZ cT))
    (hk : ∀ (x3 : Int) (c_s : Nat → Int) (H : Heap) (locs : List Loc) (ls : Array Slot), k x3 c_s = some res → va_P D vwCl ((zMo cI cZ h_M q_M c_s c_past c_kept c_isKept c_pasts c_text c_typed c_rect c_item c_items c_itemLevel c_treated c_from c_group c_turn c_size c_old c_aside c_begin c_level c_asides c_sorted c_spot c_rectangles c_parts c_visited)) H → va_D A ((zMo cI cZ h_M q_M c_s c_past c_kept c_isKept c_pasts c_text c_typed c_rect c_item c_items c_itemLevel c_treated c_from c_group c_turn c_size c_old c_aside c_begin c_level c_asides c_sorted c_spot c_rectangles c_parts c_visited)) → va_S A s.heap H locs → lv_has ls 4 [(0, .ref h_M), (2, vI x2)] → W p l e rm_Mo_opens s m args below meth c H locs 0 0 (MQ below (zQv D (fun u => (zMo cI cZ h_M q_M (res) c_past c_kept c_isKept c_pasts c_text c_typed c_rect c_item c_items c_itemLevel c_treated c_from c_group c_turn c_size c_old c_aside c_begin c_level c_asides c_sorted c_spot c_rectangles c_parts c_visited)) A) args s 0 0 A) (F0 m 34 ls [])) :
    ∀ (n : Nat) (x3 : Int) (c_s : Nat → Int) (H : Heap) (locs : List Loc) (ls : Array Slot), f_Mo_opens_L7 x1 x2 k n x3 c_s = some res → va_P D vwCl ((zMo cI cZ h_M q_M c_s c_past c_kept c_isKept c_pasts c_text c_typed c_rect c_item c_items c_itemLevel c_treated c_from c_group c_turn c_size c_old c_aside c_begin c_level c_asides c_sorted c_spot c_rectangles c_parts c_visited)) H → va_D A ((zMo cI cZ h_M q_M c_s c_past c_kept c_isKept c_pasts c_text c_typed c_rect c_item c_items c_itemLevel c_treated c_from c_group c_turn c_size c_old c_aside c_begin c_level c_asides c_sorted c_spot c_rectangles c_parts c_visited)) → va_S A s.heap H locs → lv_has ls 4 [(0, .ref h_M), (1, vI x1), (2, vI x2), (3, vI x3)] → W p l e rm_Mo_opens s m args below meth c H locs 0 0 (MQ below (zQv D (fun u => (zMo cI cZ h_M q_M (res) c_past c_kept c_isKept c_pasts c_text c_typed c_rect c_item c_items c_itemLevel c_treated c_from c_group c_turn c_size c_old c_aside c_begin c_level c_asides c_sorted c_spot c_rectangles c_parts c_visited)) A) args s 0 0 A) (F0 m 7 ls []) := by
  have hx := hF.1.1
  have hb := hF.1.2.1
  have hml := hF.1.2.2.1
  have hown : s.vm.findClass "RectangleTreeModel" = some m.cls := hF.1.2.2.2.1
  have hts := hF.1.2.2.2.2
  have hr := hF.2.1
  have hlk := hF.2.2.1
  have hK := hF.2.2.2.2.1
  have hN := hF.2.2.2.2.2.1
  have hA := hF.2.2.2.2.2.2
  intro n
  induction n with
  | zero => intro x3 c_s H locs ls h; cases h
  | succ n ih =>
    intro x3 c_s H locs ls h hP hD hS hl
    rw [f_Mo_opens_L7] at h
    refine lv_iload_n hx hb dX7_opens_7 rfl (lv_at hl 3 rfl) ?_
    refine lv_iload_n hx hb dX7_opens_8 rfl (lv_at hl 1 rfl) ?_
    obtain ⟨g_4, h⟩ := gd_e h
    obtain ⟨g_5, h⟩ := gd_e h
    refine z_icmp_lt (tgt := 34) hx hb g_4 g_5 dX7_opens_9 (by decide) (fun b_6 => ?_) (fun b_6 => ?_)
    · have h := it_p b_6 h
      exact hk (x3) (c_s) H locs ls h hP hD hS (lv_sub hl [0, 2] rfl)
    · have h := it_n b_6 h
      refine lv_aload_n hx hb dX7_opens_12 rfl (lv_at hl 0 rfl) ?_
      refine va_get (D := D) (ci := 7) (v := .ref (q_M 0)) (C := RX7) (T := TX7) (N := 26) hx hb hts zin7 hown hK hP 0 rfl rfl 0 (by decide) (hts _ wm787) (fun _ h9 => h9) rfl dX7_opens_13 ?_
      refine lv_bipush (v := Int32.ofInt 101) hx hb dX7_opens_16 (by decide +kernel) ?_
      refine lv_iload_n hx hb dX7_opens_18 rfl (lv_at hl 3 rfl) ?_
      refine z_iadd hx hb dX7_opens_19 ?_
      refine lv_iload_n hx hb dX7_opens_20 rfl (lv_at hl 2 rfl) ?_
      refine z_iadd hx hb dX7_opens_21 ?_
      refine lv_aload_n hx hb dX7_opens_22 rfl (lv_at hl 0 rfl) ?_
      refine lv_iload_n hx hb dX7_opens_23 rfl (lv_at hl 3 rfl) ?_
      obtain ⟨r_7, e_8, h⟩ := bd1_e h
      refine z_goi (ws' := []) (ret := r_7) (wc := (zMo cI cZ (h_M) (q_M) (c_s) (c_past) (c_kept) (c_isKept) (c_pasts) (c_text) (c_typed) (c_rect) (c_item) (c_items) (c_itemLevel) (c_treated) (c_from) (c_group) (c_turn) (c_size) (c_old) (c_aside) (c_begin) (c_level) (c_asides) (c_sorted) (c_spot) (c_rectangles) (c_parts) (c_visited))) (wn := fun u_9 => (zMo cI cZ h_M q_M c_s c_past c_kept c_isKept c_pasts c_text c_typed c_rect c_item c_items c_itemLevel c_treated c_from c_group c_turn c_size c_old c_aside c_begin c_level c_asides c_sorted c_spot c_rectangles c_parts c_visited)) (wr := []) (va_runV (As := [vI x3]) (rest := [vI ((101 + x3) + x2), .ref (q_M 0)]) hF.1 (c_Mo_at l D cI cZ cT h_M q_M c_s c_past c_kept c_isKept c_pasts c_text c_typed c_rect c_item c_items c_itemLevel c_treated c_from c_group c_turn c_size c_old c_aside c_begin c_level c_asides c_sorted c_spot c_rectangles c_parts c_visited x3 H.size (r_7) e_8) (cwV 1 hts (zgV wm915 wm917 wm39 wm89 wm918) rfl rfl rfl (by decide +kernel) ⟨Nat.le_of_ble_eq_true rfl, Nat.le_of_ble_eq_true rfl⟩) ⟨zP.blind, va_recv hK (z_subP (ws' := (zMo cI cZ (h_M) (q_M) (c_s) (c_past) (c_kept) (c_isKept) (c_pasts) (c_text) (c_typed) (c_rect) (c_item) (c_items) (c_itemLevel) (c_treated) (c_from) (c_group) (c_turn) (c_size) (c_old) (c_aside) (c_begin) (c_level) (c_asides) (c_sorted) (c_spot) (c_rectangles) (c_parts) (c_visited))) hP [0, 1, 2, 3, 4, 5, 6, 7, 8, 9, 10, 11, 12, 13, 14, 15, 16, 17, 18] rfl) (ci := 7) (q0 := 0) rfl rfl, zP.enter (z_subP (ws' := (zMo cI cZ (h_M) (q_M) (c_s) (c_past) (c_kept) (c_isKept) (c_pasts) (c_text) (c_typed) (c_rect) (c_item) (c_items) (c_itemLevel) (c_treated) (c_from) (c_group) (c_turn) (c_size) (c_old) (c_aside) (c_begin) (c_level) (c_asides) (c_sorted) (c_spot) (c_rectangles) (c_parts) (c_visited))) hP [0, 1, 2, 3, 4, 5, 6, 7, 8, 9, 10, 11, 12, 13, 14, 15, 16, 17, 18] rfl) hK (hD.sub [0, 1, 2, 3, 4, 5, 6, 7, 8, 9, 10, 11, 12, 13, 14, 15, 16, 17, 18] (by decide) rfl) hN⟩ rfl rfl hl.1 rfl (lv_room (Nat.le_of_ble_eq_true rfl)) dX7_opens_24 ⟨Nat.le_refl _, Nat.le_refl _⟩) hP hD hS hA [0, 1, 2, 3, 4, 5, 6, 7, 8, 9, 10, 11, 12, 13, 14, 15, 16, 17, 18] [] [0, 1, 2, 3, 4, 5, 6, 7, 8, 9, 10, 11, 12, 13, 14, 15, 16, 17, 18] rfl rfl (by decide) (fun _ => rfl) (fun u_9 H locs hP hD hS hz => ?_)
      obtain ⟨g_10, h⟩ := gd_e h
      refine z_iast (n := 461) (f := c_s) (i := ((101 + x3) + x2)) (x := r_7) (ws' := (zMo cI cZ h_M q_M (up c_s ((((101 + x3) + x2)).toNat) r_7) c_past c_kept c_isKept c_pasts c_text c_typed c_rect c_item c_items c_itemLevel c_treated c_from c_group c_turn c_size c_old c_aside c_begin c_level c_asides c_sorted c_spot c_rectangles c_parts c_visited)) hx hb hK hP hD hS 1 rfl rfl g_10 (by have := g_10.2; omega) dX7_opens_27 rfl (fun H locs hP hD hS => ?_)
      refine lv_iinc (v := Int32.ofInt (x3 + (-1))) (lv' := [(3, vI (x3 + (-1))), (0, .ref h_M), (1, vI x1), (2, vI x2)]) hx hb dX7_opens_28 hl (k := 3) rfl (z_inc _ _) (by decide) rfl (fun ls hl => ?_)
      refine lv_goto (tgt := 7) hx hb dX7_opens_31 (by decide) ?_
      exact ih ((x3 + (-1))) ((up c_s ((((101 + x3) + x2)).toNat) r_7)) H locs ls h hP hD hS (lv_sub hl [1, 2, 3, 0] rfl)
set_option maxHeartbeats 4000000 in
set_option maxRecDepth 100000 in
theorem c_Mo_opens (l : Launch) (D : va_G) (cI cZ cT : ClassId) (h_M : Nat) (q_M : Nat → Nat) (c_s : Nat → Int) (c_past : Nat → Int) (c_kept : Nat → Int) (c_isKept : Int) (c_pasts : Int) (c_text : Nat → Int) (c_typed : Int) (c_rect : Nat → Int) (c_item : Nat → Int) (c_items : Int) (c_itemLevel : Int) (c_treated : Nat → Int) (c_from : Nat → Int) (c_group : Nat → Int) (c_turn : Nat → Int) (c_size : Nat → Int) (c_old : Nat → Int) (c_aside : Nat → Int) (c_begin : Nat → Int) (c_level : Nat → Int) (c_asides : Int) (c_sorted : Nat → Int) (c_spot : Int) (c_rectangles : Int) (c_parts : Nat → Int) (c_visited : Nat → Int) (x1 : Int) (x2 : Int) (sz : Nat) (res : (Nat → Int)) (h : f_Mo_opens c_s x1 x2 = some res) : zMv l yX7_opens cX7_opens 4 rm_Mo_opens D (zt cI cZ cT) [.ref h_M, vI x1, vI x2] ((zMo cI cZ h_M q_M c_s c_past c_kept c_isKept c_pasts c_text c_typed c_rect c_item c_items c_itemLevel c_treated c_from c_group c_turn c_size c_old c_aside c_begin c_level c_asides c_sorted c_spot c_rectangles c_parts c_visited)) sz (fun u => (zMo cI cZ h_M q_M (res) c_past c_kept c_isKept c_pasts c_text c_typed c_rect c_item c_items c_itemLevel c_treated c_from c_group c_turn c_size c_old c_aside c_begin c_level c_asides c_sorted c_spot c_rectangles c_parts c_visited)) 0 0 := by
  refine z_enth (Qc := zQv D (fun u => (zMo cI cZ h_M q_M (res) c_past c_kept c_isKept c_pasts c_text c_typed c_rect c_item c_items c_itemLevel c_treated c_from c_group c_turn c_size c_old c_aside c_begin c_level c_asides c_sorted c_spot c_rectangles c_parts c_visited))) (by decide) (Nat.le_of_ble_eq_true rfl) (fun p e s m args below meth c A ls H locs hF hP hD hS hl => ?_)
  have hx := hF.1.1
  have hb := hF.1.2.1
  have hml := hF.1.2.2.1
  have hown : s.vm.findClass "RectangleTreeModel" = some m.cls := hF.1.2.2.2.1
  have hts := hF.1.2.2.2.2
  have hr := hF.2.1
  have hlk := hF.2.2.1
  have hK := hF.2.2.2.2.1
  have hN := hF.2.2.2.2.2.1
  have hA := hF.2.2.2.2.2.2
  unfold f_Mo_opens at h
  refine lv_aload_n hx hb dX7_opens_0 rfl (lv_at hl 0 rfl) ?_
  obtain ⟨r_1, e_2, h⟩ := bd1_e h
  refine z_goi (ws' := []) (ret := r_1) (wc := (zMo cI cZ (h_M) (q_M) (c_s) (c_past) (c_kept) (c_isKept) (c_pasts) (c_text) (c_typed) (c_rect) (c_item) (c_items) (c_itemLevel) (c_treated) (c_from) (c_group) (c_turn) (c_size) (c_old) (c_aside) (c_begin) (c_level) (c_asides) (c_sorted) (c_spot) (c_rectangles) (c_parts) (c_visited))) (wn := fun u_3 => (zMo cI cZ h_M q_M c_s c_past c_kept c_isKept c_pasts c_text c_typed c_rect c_item c_items c_itemLevel c_treated c_from c_group c_turn c_size c_old c_aside c_begin c_level c_asides c_sorted c_spot c_rectangles c_parts c_visited)) (wr := []) (va_runV (As := []) (rest := []) hF.1 (c_Mo_length l D cI cZ cT h_M q_M c_s c_past c_kept c_isKept c_pasts c_text c_typed c_rect c_item c_items c_itemLevel c_treated c_from c_group c_turn c_size c_old c_aside c_begin c_level c_asides c_sorted c_spot c_rectangles c_parts c_visited H.size (r_1) e_2) (cwV 0 hts (zgV wm926 wm928 wm41 wm89 wm929) rfl rfl rfl (by decide +kernel) ⟨Nat.le_of_ble_eq_true rfl, Nat.le_of_ble_eq_true rfl⟩) ⟨zP.blind, va_recv hK (z_subP (ws' := (zMo cI cZ (h_M) (q_M) (c_s) (c_past) (c_kept) (c_isKept) (c_pasts) (c_text) (c_typed) (c_rect) (c_item) (c_items) (c_itemLevel) (c_treated) (c_from) (c_group) (c_turn) (c_size) (c_old) (c_aside) (c_begin) (c_level) (c_asides) (c_sorted) (c_spot) (c_rectangles) (c_parts) (c_visited))) hP [0, 1, 2, 3, 4, 5, 6, 7, 8, 9, 10, 11, 12, 13, 14, 15, 16, 17, 18] rfl) (ci := 7) (q0 := 0) rfl rfl, zP.enter (z_subP (ws' := (zMo cI cZ (h_M) (q_M) (c_s) (c_past) (c_kept) (c_isKept) (c_pasts) (c_text) (c_typed) (c_rect) (c_item) (c_items) (c_itemLevel) (c_treated) (c_from) (c_group) (c_turn) (c_size) (c_old) (c_aside) (c_begin) (c_level) (c_asides) (c_sorted) (c_spot) (c_rectangles) (c_parts) (c_visited))) hP [0, 1, 2, 3, 4, 5, 6, 7, 8, 9, 10, 11, 12, 13, 14, 15, 16, 17, 18] rfl) hK (hD.sub [0, 1, 2, 3, 4, 5, 6, 7, 8, 9, 10, 11, 12, 13, 14, 15, 16, 17, 18] (by decide) rfl) hN⟩ rfl rfl hl.1 rfl (lv_room (Nat.le_of_ble_eq_true rfl)) dX7_opens_1 ⟨Nat.le_refl _, Nat.le_refl _⟩) hP hD hS hA [0, 1, 2, 3, 4, 5, 6, 7, 8, 9, 10, 11, 12, 13, 14, 15, 16, 17, 18] [] [0, 1, 2, 3, 4, 5, 6, 7, 8, 9, 10, 11, 12, 13, 14, 15, 16, 17, 18] rfl rfl (by decide) (fun _ => rfl) (fun u_3 H locs hP hD hS hz => ?_)
  refine lv_iconst (v := Int32.ofInt 1) hx hb dX7_opens_4 rfl ?_
  refine z_isub hx hb dX7_opens_5 ?_
  refine lv_istore_n (lv' := [(3, vI (r_1 - 1)), (0, .ref h_M), (1, vI x1), (2, vI x2)]) hx hb dX7_opens_6 rfl hl (by decide) rfl (fun ls hl => ?_)
  refine w_Mo_opens_L7 D cI cZ cT (h_M) (q_M) (c_past) (c_kept) (c_isKept) (c_pasts) (c_text) (c_typed) (c_rect) (c_item) (c_items) (c_itemLevel) (c_treated) (c_from) (c_group) (c_turn) (c_size) (c_old) (c_aside) (c_begin) (c_level) (c_asides) (c_sorted) (c_spot) (c_rectangles) (c_parts) (c_visited) (x1) (x2) _ _ hF (fun x3_11 c_s_12 H locs ls h hP hD hS hl => ?_) _ ((r_1 - 1)) (c_s) _ _ _ h hP hD hS (lv_sub hl [1, 2, 3, 0] rfl)
  refine lv_aload_n hx hb dX7_opens_34 rfl (lv_at hl 0 rfl) ?_
  refine va_get (D := D) (ci := 7) (v := .ref (q_M 0)) (C := RX7) (T := TX7) (N := 26) hx hb hts zin7 hown hK hP 0 rfl rfl 0 (by decide) (hts _ wm787) (fun _ h9 => h9) rfl dX7_opens_35 ?_
  refine lv_iconst (v := Int32.ofInt 4) hx hb dX7_opens_38 rfl ?_
  refine lv_dup2_11 hx hb dX7_opens_39 rfl rfl ?_
  refine z_iald (n := 461) (f := c_s_12) (i := 4) hx hb hK hP 1 rfl rfl (by decide) (by decide) dX7_opens_40 ?_
  refine lv_iload_n hx hb dX7_opens_41 rfl (lv_at hl 1 rfl) ?_
  refine z_iadd hx hb dX7_opens_42 ?_
  refine z_iast (n := 461) (f := c_s_12) (i := 4) (x := ((c_s_12 4) + x2)) (ws' := (zMo cI cZ h_M q_M (up c_s_12 (4) ((c_s_12 4) + x2)) c_past c_kept c_isKept c_pasts c_text c_typed c_rect c_item c_items c_itemLevel c_treated c_from c_group c_turn c_size c_old c_aside c_begin c_level c_asides c_sorted c_spot c_rectangles c_parts c_visited)) hx hb hK hP hD hS 1 rfl rfl (by decide) (by decide) dX7_opens_43 rfl (fun H locs hP hD hS => ?_)
  obtain rfl := Option.some.inj h
  exact z_vret hx hb hr hlk (fun _ _ => 0) hP hD hS dX7_opens_44
def f_Mo_less (x0 : Int) (x1 : Int) : Option (Int) :=
  gd (ck x0) <| gd (ck x1) <| if x0 < x1 then (some (x0)) else (some (x1))
abbrev rm_Mo_less : Room := ({ frames := 0, cells := 0, slots := 0, locals := 0 } : Room)
set_option maxHeartbeats 4000000 in
set_option maxRecDepth 100000 in
theorem c_Mo_less (l : Launch) (D : va_G) (cI cZ cT : ClassId) (x0 : Int) (x1 : Int) (sz : Nat) (res : Int) (h : f_Mo_less x0 x1 = some res) : zMi l yX7_less cX7_less 2 rm_Mo_less D (zt cI cZ cT) [vI x0, vI x1] (([] : va_W)) sz (res) (fun u => ([] : va_W)) 0 0 := by
  refine z_enth (Qc := zQi D (res) (fun u => ([] : va_W))) (by decide) (Nat.le_of_ble_eq_true rfl) (fun p e s m args below meth c A ls H locs hF hP hD hS hl => ?_)
  have hx := hF.1.1
  have hb := hF.1.2.1
  have hml := hF.1.2.2.1
  have hown : s.vm.findClass "RectangleTreeModel" = some m.cls := hF.1.2.2.2.1
  have hts := hF.1.2.2.2.2
  have hr := hF.2.1
  have hlk := hF.2.2.1
  have hK := hF.2.2.2.2.1
  have hN := hF.2.2.2.2.2.1
  have hA := hF.2.2.2.2.2.2
  unfold f_Mo_less at h
  refine lv_iload_n hx hb dX7_less_0 rfl (lv_at hl 0 rfl) ?_
  refine lv_iload_n hx hb dX7_less_1 rfl (lv_at hl 1 rfl) ?_
  obtain ⟨g_1, h⟩ := gd_e h
  obtain ⟨g_2, h⟩ := gd_e h
  refine z_icmp_ge (tgt := 9) hx hb g_1 g_2 dX7_less_2 (by decide) (fun b_3 => ?_) (fun b_3 => ?_)
  · have h := it_n b_3 h
    refine lv_iload_n hx hb dX7_less_9 rfl (lv_at hl 1 rfl) ?_
    obtain rfl := Option.some.inj h
    exact z_iret hx hb hr hlk (fun _ _ => 0) hP hD hS dX7_less_10
  · have h := it_p b_3 h
    refine lv_iload_n hx hb dX7_less_5 rfl (lv_at hl 0 rfl) ?_
    refine lv_goto (tgt := 10) hx hb dX7_less_6 (by decide) ?_
    obtain rfl := Option.some.inj h
    exact z_iret hx hb hr hlk (fun _ _ => 0) hP hD hS dX7_less_10
def f_Mo_greater (x0 : Int) (x1 : Int) : Option (Int) :=
  gd (ck x0) <| gd (ck x1) <| if x1 < x0 then (some (x0)) else (some (x1))
abbrev rm_Mo_greater : Room := ({ frames := 0, cells := 0, slots := 0, locals := 0 } : Room)
set_option maxHeartbeats 4000000 in
set_option maxRecDepth 100000 in
theorem c_Mo_greater (l : Launch) (D : va_G) (cI cZ cT : ClassId) (x0 : Int) (x1 : Int) (sz : Nat) (res : Int) (h : f_Mo_greater x0 x1 = some res) : zMi l yX7_greater cX7_greater 2 rm_Mo_greater D (zt cI cZ cT) [vI x0, vI x1] (([] : va_W)) sz (res) (fun u => ([] : va_W)) 0 0 := by
  refine z_enth (Qc := zQi D (res) (fun u => ([] : va_W))) (by decide) (Nat.le_of_ble_eq_true rfl) (fun p e s m args below meth c A ls H locs hF hP hD hS hl => ?_)
  have hx := hF.1.1
  have hb := hF.1.2.1
  have hml := hF.1.2.2.1
  have hown : s.vm.findClass "RectangleTreeModel" = some m.cls := hF.1.2.2.2.1
  have hts := hF.1.2.2.2.2
  have hr := hF.2.1
  have hlk := hF.2.2.1
  have hK := hF.2.2.2.2.1
  have hN := hF.2.2.2.2.2.1
  have hA := hF.2.2.2.2.2.2
  unfold f_Mo_greater at h
  refine lv_iload_n hx hb dX7_greater_0 rfl (lv_at hl 0 rfl) ?_
  refine lv_iload_n hx hb dX7_greater_1 rfl (lv_at hl 1 rfl) ?_
  obtain ⟨g_1, h⟩ := gd_e h
  obtain ⟨g_2, h⟩ := gd_e h
  refine z_icmp_le (tgt := 9) hx hb g_1 g_2 dX7_greater_2 (by decide) (fun b_3 => ?_) (fun b_3 => ?_)
  · have h := it_n b_3 h
    refine lv_iload_n hx hb dX7_greater_9 rfl (lv_at hl 1 rfl) ?_
    obtain rfl := Option.some.inj h
    exact z_iret hx hb hr hlk (fun _ _ => 0) hP hD hS dX7_greater_10
  · have h := it_p b_3 h
    refine lv_iload_n hx hb dX7_greater_5 rfl (lv_at hl 0 rfl) ?_
    refine lv_goto (tgt := 10) hx hb dX7_greater_6 (by decide) ?_
    obtain rfl := Option.some.inj h
    exact z_iret hx hb hr hlk (fun _ _ => 0) hP hD hS dX7_greater_10
def f_Mo_unites (c_rect : Nat → Int) (x1 : Int) (x2 : Int) (x3 : Int) : Option ((Nat → Int)) :=
  gd (0 ≤ (4 * x1) ∧ (4 * x1) < ((48 : Nat) : Int)) <| gd (0 ≤ (4 * x2) ∧ (4 * x2) < ((48 : Nat) : Int)) <| bd1 (f_Mo_less (c_rect ((4 * x1)).toNat) (c_rect ((4 * x2)).toNat)) <| fun r_3 => gd (0 ≤ ((4 * x1) + 1) ∧ ((4 * x1) + 1) < ((48 : Nat) : Int)) <| gd (0 ≤ ((4 * x2) + 1) ∧ ((4 * x2) + 1) < ((48 : Nat) : Int)) <| bd1 (f_Mo_less (c_rect (((4 * x1) + 1)).toNat) (c_rect (((4 * x2) + 1)).toNat)) <| fun r_8 => gd (0 ≤ ((4 * x1) + 2) ∧ ((4 * x1) + 2) < ((48 : Nat) : Int)) <| gd (0 ≤ ((4 * x2) + 2) ∧ ((4 * x2) + 2) < ((48 : Nat) : Int)) <| bd1 (f_Mo_greater (c_rect (((4 * x1) + 2)).toNat) (c_rect (((4 * x2) + 2)).toNat)) <| fun r_13 => gd (0 ≤ ((4 * x1) + 3) ∧ ((4 * x1) + 3) < ((48 : Nat) : Int)) <| gd (0 ≤ ((4 * x2) + 3) ∧ ((4 * x2) + 3) < ((48 : Nat) : Int)) <| bd1 (f_Mo_greater (c_rect (((4 * x1) + 3)).toNat) (c_rect (((4 * x2) + 3)).toNat)) <| fun r_18 => gd (0 ≤ (4 * x3) ∧ (4 * x3) < ((48 : Nat) : Int)) <| gd (0 ≤ ((4 * x3) + 1) ∧ ((4 * x3) + 1) < ((48 : Nat) : Int)) <| gd (0 ≤ ((4 * x3) + 2) ∧ ((4 * x3) + 2) < ((48 : Nat) : Int)) <| gd (0 ≤ ((4 * x3) + 3) ∧ ((4 * x3) + 3) < ((48 : Nat) : Int)) <| some ((up (up (up (up c_rect (((4 * x3)).toNat) r_3) ((((4 * x3) + 1)).toNat) r_8) ((((4 * x3) + 2)).toNat) r_13) ((((4 * x3) + 3)).toNat) r_18))
abbrev rm_Mo_unites : Room := ({ frames := 1, cells := 0, slots := 0, locals := 21 } : Room)
set_option maxHeartbeats 4000000 in
set_option maxRecDepth 100000 in
theorem c_Mo_unites (l : Launch) (D : va_G) (cI cZ cT : ClassId) (h_M : Nat) (q_M : Nat → Nat) (c_s : Nat → Int) (c_past : Nat → Int) (c_kept : Nat → Int) (c_isKept : Int) (c_pasts : Int) (c_text : Nat → Int) (c_typed : Int) (c_rect : Nat → Int) (c_item : Nat → Int) (c_items : Int) (c_itemLevel : Int) (c_treated : Nat → Int) (c_from : Nat → Int) (c_group : Nat → Int) (c_turn : Nat → Int) (c_size : Nat → Int) (c_old : Nat → Int) (c_aside : Nat → Int) (c_begin : Nat → Int) (c_level : Nat → Int) (c_asides : Int) (c_sorted : Nat → Int) (c_spot : Int) (c_rectangles : Int) (c_parts : Nat → Int) (c_visited : Nat → Int) (x1 : Int) (x2 : Int) (x3 : Int) (sz : Nat) (res : (Nat → Int)) (h : f_Mo_unites c_rect x1 x2 x3 = some res) : zMv l yX7_unites cX7_unites 11 rm_Mo_unites D (zt cI cZ cT) [.ref h_M, vI x1, vI x2, vI x3] ((zMo cI cZ h_M q_M c_s c_past c_kept c_isKept c_pasts c_text c_typed c_rect c_item c_items c_itemLevel c_treated c_from c_group c_turn c_size c_old c_aside c_begin c_level c_asides c_sorted c_spot c_rectangles c_parts c_visited)) sz (fun u => (zMo cI cZ h_M q_M c_s c_past c_kept c_isKept c_pasts c_text c_typed (res) c_item c_items c_itemLevel c_treated c_from c_group c_turn c_size c_old c_aside c_begin c_level c_asides c_sorted c_spot c_rectangles c_parts c_visited)) 0 0 := by
  refine z_enth (Qc := zQv D (fun u => (zMo cI cZ h_M q_M c_s c_past c_kept c_isKept c_pasts c_text c_typed (res) c_item c_items c_itemLevel c_treated c_from c_group c_turn c_size c_old c_aside c_begin c_level c_asides c_sorted c_spot c_rectangles c_parts c_visited))) (by decide) (Nat.le_of_ble_eq_true rfl) (fun p e s m args below meth c A ls H locs hF hP hD hS hl => ?_)
  have hx := hF.1.1
  have hb := hF.1.2.1
  have hml := hF.1.2.2.1
  have hown : s.vm.findClass "RectangleTreeModel" = some m.cls := hF.1.2.2.2.1
  have hts := hF.1.2.2.2.2
  have hr := hF.2.1
  have hlk := hF.2.2.1
  have hK := hF.2.2.2.2.1
  have hN := hF.2.2.2.2.2.1
  have hA := hF.2.2.2.2.2.2
  unfold f_Mo_unites at h
  refine lv_iconst (v := Int32.ofInt 4) hx hb dX7_unites_0 rfl ?_
  refine lv_iload_n hx hb dX7_unites_1 rfl (lv_at hl 1 rfl) ?_
  refine z_imul hx hb dX7_unites_2 ?_
  refine lv_istore (lv' := [(4, vI (4 * x1)), (0, .ref h_M), (1, vI x1), (2, vI x2), (3, vI x3)]) hx hb dX7_unites_3 hl (by decide) rfl (fun ls hl => ?_)
  refine lv_iconst (v := Int32.ofInt 4) hx hb dX7_unites_5 rfl ?_
  refine lv_iload_n hx hb dX7_unites_6 rfl (lv_at hl 3 rfl) ?_
  refine z_imul hx hb dX7_unites_7 ?_
  refine lv_istore (lv' := [(5, vI (4 * x2)), (4, vI (4 * x1)), (0, .ref h_M), (1, vI x1), (2, vI x2), (3, vI x3)]) hx hb dX7_unites_8 hl (by decide) rfl (fun ls hl => ?_)
  refine lv_iconst (v := Int32.ofInt 4) hx hb dX7_unites_10 rfl ?_
  refine lv_iload_n hx hb dX7_unites_11 rfl (lv_at hl 5 rfl) ?_
  refine z_imul hx hb dX7_unites_12 ?_
  refine lv_istore (lv' := [(6, vI (4 * x3)), (5, vI (4 * x2)), (4, vI (4 * x1)), (0, .ref h_M), (1, vI x1), (2, vI x2), (3, vI x3)]) hx hb dX7_unites_13 hl (by decide) rfl (fun ls hl => ?_)
  refine lv_aload_n hx hb dX7_unites_15 rfl (lv_at hl 3 rfl) ?_
  refine va_get (D := D) (ci := 7) (v := .ref (q_M 4)) (C := RX7) (T := TX7) (N := 26) hx hb hts zin7 hown hK hP 0 rfl rfl 7 (by decide) (hts _ wm794) (fun _ h9 => h9) rfl dX7_unites_16 ?_
  refine lv_iload hx hb dX7_unites_19 (lv_at hl 2 rfl) ?_
  obtain ⟨g_1, h⟩ := gd_e h
  refine z_iald (n := 48) (f := c_rect) (i := (4 * x1)) hx hb hK hP 5 rfl rfl g_1 (by have := g_1.2; omega) dX7_unites_21 ?_
  refine lv_aload_n hx hb dX7_unites_22 rfl (lv_at hl 3 rfl) ?_
  refine va_get (D := D) (ci := 7) (v := .ref (q_M 4)) (C := RX7) (T := TX7) (N := 26) hx hb hts zin7 hown hK hP 0 rfl rfl 7 (by decide) (hts _ wm794) (fun _ h9 => h9) rfl dX7_unites_23 ?_
  refine lv_iload hx hb dX7_unites_26 (lv_at hl 1 rfl) ?_
  obtain ⟨g_2, h⟩ := gd_e h
  refine z_iald (n := 48) (f := c_rect) (i := (4 * x2)) hx hb hK hP 5 rfl rfl g_2 (by have := g_2.2; omega) dX7_unites_28 ?_
  obtain ⟨r_3, e_4, h⟩ := bd1_e h
  refine z_goi (ws' := []) (ret := r_3) (wc := ([] : va_W)) (wn := fun u_5 => (zMo cI cZ h_M q_M c_s c_past c_kept c_isKept c_pasts c_text c_typed c_rect c_item c_items c_itemLevel c_treated c_from c_group c_turn c_size c_old c_aside c_begin c_level c_asides c_sorted c_spot c_rectangles c_parts c_visited)) (wr := ([0, 1, 2, 3, 4, 5, 6, 7, 8, 9, 10, 11, 12, 13, 14, 15, 16, 17, 18].filterMap (fun i => ((zMo cI cZ h_M q_M c_s c_past c_kept c_isKept c_pasts c_text c_typed c_rect c_item c_items c_itemLevel c_treated c_from c_group c_turn c_size c_old c_aside c_begin c_level c_asides c_sorted c_spot c_rectangles c_parts c_visited))[i]?))) (va_runS (As := [vI (c_rect ((4 * x1)).toNat), vI (c_rect ((4 * x2)).toNat)]) (rest := []) hF.1 (c_Mo_less l D cI cZ cT (c_rect ((4 * x1)).toNat) (c_rect ((4 * x2)).toNat) H.size (r_3) e_4) (va_cwS 2 hts (zgS wm905 wm906 wm89 wm907) rfl rfl rfl (by decide +kernel) ⟨Nat.le_of_ble_eq_true rfl, Nat.le_of_ble_eq_true rfl⟩) ⟨zP.blind, zP.enter (z_subP (ws' := ([] : va_W)) hP [] rfl) hK (hD.sub [] (by decide) rfl) hN⟩ rfl rfl hl.1 rfl (lv_room (Nat.le_of_ble_eq_true rfl)) dX7_unites_29 ⟨Nat.le_refl _, Nat.le_refl _⟩) hP hD hS hA [] [0, 1, 2, 3, 4, 5, 6, 7, 8, 9, 10, 11, 12, 13, 14, 15, 16, 17, 18] [0, 1, 2, 3, 4, 5, 6, 7, 8, 9, 10, 11, 12, 13, 14, 15, 16, 17, 18] rfl rfl (by decide) (fun _ => rfl) (fun u_5 H locs hP hD hS hz => ?_)
  refine lv_istore (lv' := [(7, vI r_3), (6, vI (4 * x3)), (5, vI (4 * x2)), (4, vI (4 * x1)), (0, .ref h_M), (1, vI x1), (2, vI x2), (3, vI x3)]) hx hb dX7_unites_32 hl (by decide) rfl (fun ls hl => ?_)
  refine lv_aload_n hx hb dX7_unites_34 rfl (lv_at hl 4 rfl) ?_
  refine va_get (D := D) (ci := 7) (v := .ref (q_M 4)) (C := RX7) (T := TX7) (N := 26) hx hb hts zin7 hown hK hP 0 rfl rfl 7 (by decide) (hts _ wm794) (fun _ h9 => h9) rfl dX7_unites_35 ?_
  refine lv_iload hx hb dX7_unites_38 (lv_at hl 3 rfl) ?_
  refine lv_iconst (v := Int32.ofInt 1) hx hb dX7_unites_40 rfl ?_
  refine z_iadd hx hb dX7_unites_41 ?_
  obtain ⟨g_6, h⟩ := gd_e h
  refine z_iald (n := 48) (f := c_rect) (i := ((4 * x1) + 1)) hx hb hK hP 5 rfl rfl g_6 (by have := g_6.2; omega) dX7_unites_42 ?_
  refine lv_aload_n hx hb dX7_unites_43 rfl (lv_at hl 4 rfl) ?_
  refine va_get (D := D) (ci := 7) (v := .ref (q_M 4)) (C := RX7) (T := TX7) (N := 26) hx hb hts zin7 hown hK hP 0 rfl rfl 7 (by decide) (hts _ wm794) (fun _ h9 => h9) rfl dX7_unites_44 ?_
  refine lv_iload hx hb dX7_unites_47 (lv_at hl 2 rfl) ?_
  refine lv_iconst (v := Int32.ofInt 1) hx hb dX7_unites_49 rfl ?_
  refine z_iadd hx hb dX7_unites_50 ?_
  obtain ⟨g_7, h⟩ := gd_e h
  refine z_iald (n := 48) (f := c_rect) (i := ((4 * x2) + 1)) hx hb hK hP 5 rfl rfl g_7 (by have := g_7.2; omega) dX7_unites_51 ?_
  obtain ⟨r_8, e_9, h⟩ := bd1_e h
  refine z_goi (ws' := []) (ret := r_8) (wc := ([] : va_W)) (wn := fun u_10 => (zMo cI cZ h_M q_M c_s c_past c_kept c_isKept c_pasts c_text c_typed c_rect c_item c_items c_itemLevel c_treated c_from c_group c_turn c_size c_old c_aside c_begin c_level c_asides c_sorted c_spot c_rectangles c_parts c_visited)) (wr := ([0, 1, 2, 3, 4, 5, 6, 7, 8, 9, 10, 11, 12, 13, 14, 15, 16, 17, 18].filterMap (fun i => ((zMo cI cZ h_M q_M c_s c_past c_kept c_isKept c_pasts c_text c_typed c_rect c_item c_items c_itemLevel c_treated c_from c_group c_turn c_size c_old c_aside c_begin c_level c_asides c_sorted c_spot c_rectangles c_parts c_visited))[i]?))) (va_runS (As := [vI (c_rect (((4 * x1) + 1)).toNat), vI (c_rect (((4 * x2) + 1)).toNat)]) (rest := []) hF.1 (c_Mo_less l D cI cZ cT (c_rect (((4 * x1) + 1)).toNat) (c_rect (((4 * x2) + 1)).toNat) H.size (r_8) e_9) (va_cwS 2 hts (zgS wm905 wm906 wm89 wm907) rfl rfl rfl (by decide +kernel) ⟨Nat.le_of_ble_eq_true rfl, Nat.le_of_ble_eq_true rfl⟩) ⟨zP.blind, zP.enter (z_subP (ws' := ([] : va_W)) hP [] rfl) hK (hD.sub [] (by decide) rfl) hN⟩ rfl rfl hl.1 rfl (lv_room (Nat.le_of_ble_eq_true rfl)) dX7_unites_52 ⟨Nat.le_refl _, Nat.le_refl _⟩) hP hD hS hA [] [0, 1, 2, 3, 4, 5, 6, 7, 8, 9, 10, 11, 12, 13, 14, 15, 16, 17, 18] [0, 1, 2, 3, 4, 5, 6, 7, 8, 9, 10, 11, 12, 13, 14, 15, 16, 17, 18] rfl rfl (by decide) (fun _ => rfl) (fun u_10 H locs hP hD hS hz => ?_)
  refine lv_istore (lv' := [(8, vI r_8), (7, vI r_3), (6, vI (4 * x3)), (5, vI (4 * x2)), (4, vI (4 * x1)), (0, .ref h_M), (1, vI x1), (2, vI x2), (3, vI x3)]) hx hb dX7_unites_55 hl (by decide) rfl (fun ls hl => ?_)
  refine lv_aload_n hx hb dX7_unites_57 rfl (lv_at hl 5 rfl) ?_
  refine va_get (D := D) (ci := 7) (v := .ref (q_M 4)) (C := RX7) (T := TX7) (N := 26) hx hb hts zin7 hown hK hP 0 rfl rfl 7 (by decide) (hts _ wm794) (fun _ h9 => h9) rfl dX7_unites_58 ?_
  refine lv_iload hx hb dX7_unites_61 (lv_at hl 4 rfl) ?_
  refine lv_iconst (v := Int32.ofInt 2) hx hb dX7_unites_63 rfl ?_
  refine z_iadd hx hb dX7_unites_64 ?_
  obtain ⟨g_11, h⟩ := gd_e h
  refine z_iald (n := 48) (f := c_rect) (i := ((4 * x1) + 2)) hx hb hK hP 5 rfl rfl g_11 (by have := g_11.2; omega) dX7_unites_65 ?_
  refine lv_aload_n hx hb dX7_unites_66 rfl (lv_at hl 5 rfl) ?_
  refine va_get (D := D) (ci := 7) (v := .ref (q_M 4)) (C := RX7) (T := TX7) (N := 26) hx hb hts zin7 hown hK hP 0 rfl rfl 7 (by decide) (hts _ wm794) (fun _ h9 => h9) rfl dX7_unites_67 ?_
  refine lv_iload hx hb dX7_unites_70 (lv_at hl 3 rfl) ?_
  refine lv_iconst (v := Int32.ofInt 2) hx hb dX7_unites_72 rfl ?_
  refine z_iadd hx hb dX7_unites_73 ?_
  obtain ⟨g_12, h⟩ := gd_e h
  refine z_iald (n := 48) (f := c_rect) (i := ((4 * x2) + 2)) hx hb hK hP 5 rfl rfl g_12 (by have := g_12.2; omega) dX7_unites_74 ?_
  obtain ⟨r_13, e_14, h⟩ := bd1_e h
  refine z_goi (ws' := []) (ret := r_13) (wc := ([] : va_W)) (wn := fun u_15 => (zMo cI cZ h_M q_M c_s c_past c_kept c_isKept c_pasts c_text c_typed c_rect c_item c_items c_itemLevel c_treated c_from c_group c_turn c_size c_old c_aside c_begin c_level c_asides c_sorted c_spot c_rectangles c_parts c_visited)) (wr := ([0, 1, 2, 3, 4, 5, 6, 7, 8, 9, 10, 11, 12, 13, 14, 15, 16, 17, 18].filterMap (fun i => ((zMo cI cZ h_M q_M c_s c_past c_kept c_isKept c_pasts c_text c_typed c_rect c_item c_items c_itemLevel c_treated c_from c_group c_turn c_size c_old c_aside c_begin c_level c_asides c_sorted c_spot c_rectangles c_parts c_visited))[i]?))) (va_runS (As := [vI (c_rect (((4 * x1) + 2)).toNat), vI (c_rect (((4 * x2) + 2)).toNat)]) (rest := []) hF.1 (c_Mo_greater l D cI cZ cT (c_rect (((4 * x1) + 2)).toNat) (c_rect (((4 * x2) + 2)).toNat) H.size (r_13) e_14) (va_cwS 2 hts (zgS wm908 wm909 wm89 wm910) rfl rfl rfl (by decide +kernel) ⟨Nat.le_of_ble_eq_true rfl, Nat.le_of_ble_eq_true rfl⟩) ⟨zP.blind, zP.enter (z_subP (ws' := ([] : va_W)) hP [] rfl) hK (hD.sub [] (by decide) rfl) hN⟩ rfl rfl hl.1 rfl (lv_room (Nat.le_of_ble_eq_true rfl)) dX7_unites_75 ⟨Nat.le_refl _, Nat.le_refl _⟩) hP hD hS hA [] [0, 1, 2, 3, 4, 5, 6, 7, 8, 9, 10, 11, 12, 13, 14, 15, 16, 17, 18] [0, 1, 2, 3, 4, 5, 6, 7, 8, 9, 10, 11, 12, 13, 14, 15, 16, 17, 18] rfl rfl (by decide) (fun _ => rfl) (fun u_15 H locs hP hD hS hz => ?_)
  refine lv_istore (lv' := [(9, vI r_13), (8, vI r_8), (7, vI r_3), (6, vI (4 * x3)), (5, vI (4 * x2)), (4, vI (4 * x1)), (0, .ref h_M), (1, vI x1), (2, vI x2), (3, vI x3)]) hx hb dX7_unites_78 hl (by decide) rfl (fun ls hl => ?_)
  refine lv_aload_n hx hb dX7_unites_80 rfl (lv_at hl 6 rfl) ?_
  refine va_get (D := D) (ci := 7) (v := .ref (q_M 4)) (C := RX7) (T := TX7) (N := 26) hx hb hts zin7 hown hK hP 0 rfl rfl 7 (by decide) (hts _ wm794) (fun _ h9 => h9) rfl dX7_unites_81 ?_
  refine lv_iload hx hb dX7_unites_84 (lv_at hl 5 rfl) ?_
  refine lv_iconst (v := Int32.ofInt 3) hx hb dX7_unites_86 rfl ?_
  refine z_iadd hx hb dX7_unites_87 ?_
  obtain ⟨g_16, h⟩ := gd_e h
  refine z_iald (n := 48) (f := c_rect) (i := ((4 * x1) + 3)) hx hb hK hP 5 rfl rfl g_16 (by have := g_16.2; omega) dX7_unites_88 ?_
  refine lv_aload_n hx hb dX7_unites_89 rfl (lv_at hl 6 rfl) ?_
  refine va_get (D := D) (ci := 7) (v := .ref (q_M 4)) (C := RX7) (T := TX7) (N := 26) hx hb hts zin7 hown hK hP 0 rfl rfl 7 (by decide) (hts _ wm794) (fun _ h9 => h9) rfl dX7_unites_90 ?_
  refine lv_iload hx hb dX7_unites_93 (lv_at hl 4 rfl) ?_
  refine lv_iconst (v := Int32.ofInt 3) hx hb dX7_unites_95 rfl ?_
  refine z_iadd hx hb dX7_unites_96 ?_
  obtain ⟨g_17, h⟩ := gd_e h
  refine z_iald (n := 48) (f := c_rect) (i := ((4 * x2) + 3)) hx hb hK hP 5 rfl rfl g_17 (by have := g_17.2; omega) dX7_unites_97 ?_
  obtain ⟨r_18, e_19, h⟩ := bd1_e h
  refine z_goi (ws' := []) (ret := r_18) (wc := ([] : va_W)) (wn := fun u_20 => (zMo cI cZ h_M q_M c_s c_past c_kept c_isKept c_pasts c_text c_typed c_rect c_item c_items c_itemLevel c_treated c_from c_group c_turn c_size c_old c_aside c_begin c_level c_asides c_sorted c_spot c_rectangles c_parts c_visited)) (wr := ([0, 1, 2, 3, 4, 5, 6, 7, 8, 9, 10, 11, 12, 13, 14, 15, 16, 17, 18].filterMap (fun i => ((zMo cI cZ h_M q_M c_s c_past c_kept c_isKept c_pasts c_text c_typed c_rect c_item c_items c_itemLevel c_treated c_from c_group c_turn c_size c_old c_aside c_begin c_level c_asides c_sorted c_spot c_rectangles c_parts c_visited))[i]?))) (va_runS (As := [vI (c_rect (((4 * x1) + 3)).toNat), vI (c_rect (((4 * x2) + 3)).toNat)]) (rest := []) hF.1 (c_Mo_greater l D cI cZ cT (c_rect (((4 * x1) + 3)).toNat) (c_rect (((4 * x2) + 3)).toNat) H.size (r_18) e_19) (va_cwS 2 hts (zgS wm908 wm909 wm89 wm910) rfl rfl rfl (by decide +kernel) ⟨Nat.le_of_ble_eq_true rfl, Nat.le_of_ble_eq_true rfl⟩) ⟨zP.blind, zP.enter (z_subP (ws' := ([] : va_W)) hP [] rfl) hK (hD.sub [] (by decide) rfl) hN⟩ rfl rfl hl.1 rfl (lv_room (Nat.le_of_ble_eq_true rfl)) dX7_unites_98 ⟨Nat.le_refl _, Nat.le_refl _⟩) hP hD hS hA [] [0, 1, 2, 3, 4, 5, 6, 7, 8, 9, 10, 11, 12, 13, 14, 15, 16, 17, 18] [0, 1, 2, 3, 4, 5, 6, 7, 8, 9, 10, 11, 12, 13, 14, 15, 16, 17, 18] rfl rfl (by decide) (fun _ => rfl) (fun u_20 H locs hP hD hS hz => ?_)
  refine lv_istore (lv' := [(10, vI r_18), (9, vI r_13), (8, vI r_8), (7, vI r_3), (6, vI (4 * x3)), (5, vI (4 * x2)), (4, vI (4 * x1)), (0, .ref h_M), (1, vI x1), (2, vI x2), (3, vI x3)]) hx hb dX7_unites_101 hl (by decide) rfl (fun ls hl => ?_)
  refine lv_aload_n hx hb dX7_unites_103 rfl (lv_at hl 7 rfl) ?_
  refine va_get (D := D) (ci := 7) (v := .ref (q_M 4)) (C := RX7) (T := TX7) (N := 26) hx hb hts zin7 hown hK hP 0 rfl rfl 7 (by decide) (hts _ wm794) (fun _ h9 => h9) rfl dX7_unites_104 ?_
  refine lv_iload hx hb dX7_unites_107 (lv_at hl 4 rfl) ?_
  refine lv_iload hx hb dX7_unites_109 (lv_at hl 3 rfl) ?_
  obtain ⟨g_21, h⟩ := gd_e h
  refine z_iast (n := 48) (f := c_rect) (i := (4 * x3)) (x := r_3) (ws' := (zMo cI cZ h_M q_M c_s c_past c_kept c_isKept c_pasts c_text c_typed (up c_rect (((4 * x3)).toNat) r_3) c_item c_items c_itemLevel c_treated c_from c_group c_turn c_size c_old c_aside c_begin c_level c_asides c_sorted c_spot c_rectangles c_parts c_visited)) hx hb hK hP hD hS 5 rfl rfl g_21 (by have := g_21.2; omega) dX7_unites_111 rfl (fun H locs hP hD hS => ?_)
  refine lv_aload_n hx hb dX7_unites_112 rfl (lv_at hl 7 rfl) ?_
  refine va_get (D := D) (ci := 7) (v := .ref (q_M 4)) (C := RX7) (T := TX7) (N := 26) hx hb hts zin7 hown hK hP 0 rfl rfl 7 (by decide) (hts _ wm794) (fun _ h9 => h9) rfl dX7_unites_113 ?_
  refine lv_iload hx hb dX7_unites_116 (lv_at hl 4 rfl) ?_
  refine lv_iconst (v := Int32.ofInt 1) hx hb dX7_unites_118 rfl ?_
  refine z_iadd hx hb dX7_unites_119 ?_
  refine lv_iload hx hb dX7_unites_120 (lv_at hl 2 rfl) ?_
  obtain ⟨g_22, h⟩ := gd_e h
  refine z_iast (n := 48) (f := (up c_rect (((4 * x3)).toNat) r_3)) (i := ((4 * x3) + 1)) (x := r_8) (ws' := (zMo cI cZ h_M q_M c_s c_past c_kept c_isKept c_pasts c_text c_typed (up (up c_rect (((4 * x3)).toNat) r_3) ((((4 * x3) + 1)).toNat) r_8) c_item c_items c_itemLevel c_treated c_from c_group c_turn c_size c_old c_aside c_begin c_level c_asides c_sorted c_spot c_rectangles c_parts c_visited)) hx hb hK hP hD hS 5 rfl rfl g_22 (by have := g_22.2; omega) dX7_unites_122 rfl (fun H locs hP hD hS => ?_)
  refine lv_aload_n hx hb dX7_unites_123 rfl (lv_at hl 7 rfl) ?_
  refine va_get (D := D) (ci := 7) (v := .ref (q_M 4)) (C := RX7) (T := TX7) (N := 26) hx hb hts zin7 hown hK hP 0 rfl rfl 7 (by decide) (hts _ wm794) (fun _ h9 => h9) rfl dX7_unites_124 ?_
  refine lv_iload hx hb dX7_unites_127 (lv_at hl 4 rfl) ?_
  refine lv_iconst (v := Int32.ofInt 2) hx hb dX7_unites_129 rfl ?_
  refine z_iadd hx hb dX7_unites_130 ?_
  refine lv_iload hx hb dX7_unites_131 (lv_at hl 1 rfl) ?_
  obtain ⟨g_23, h⟩ := gd_e h
  refine z_iast (n := 48) (f := (up (up c_rect (((4 * x3)).toNat) r_3) ((((4 * x3) + 1)).toNat) r_8)) (i := ((4 * x3) + 2)) (x := r_13) (ws' := (zMo cI cZ h_M q_M c_s c_past c_kept c_isKept c_pasts c_text c_typed (up (up (up c_rect (((4 * x3)).toNat) r_3) ((((4 * x3) + 1)).toNat) r_8) ((((4 * x3) + 2)).toNat) r_13) c_item c_items c_itemLevel c_treated c_from c_group c_turn c_size c_old c_aside c_begin c_level c_asides c_sorted c_spot c_rectangles c_parts c_visited)) hx hb hK hP hD hS 5 rfl rfl g_23 (by have := g_23.2; omega) dX7_unites_133 rfl (fun H locs hP hD hS => ?_)
  refine lv_aload_n hx hb dX7_unites_134 rfl (lv_at hl 7 rfl) ?_
  refine va_get (D := D) (ci := 7) (v := .ref (q_M 4)) (C := RX7) (T := TX7) (N := 26) hx hb hts zin7 hown hK hP 0 rfl rfl 7 (by decide) (hts _ wm794) (fun _ h9 => h9) rfl dX7_unites_135 ?_
  refine lv_iload hx hb dX7_unites_138 (lv_at hl 4 rfl) ?_
  refine lv_iconst (v := Int32.ofInt 3) hx hb dX7_unites_140 rfl ?_
  refine z_iadd hx hb dX7_unites_141 ?_
  refine lv_iload hx hb dX7_unites_142 (lv_at hl 0 rfl) ?_
  obtain ⟨g_24, h⟩ := gd_e h
  refine z_iast (n := 48) (f := (up (up (up c_rect (((4 * x3)).toNat) r_3) ((((4 * x3) + 1)).toNat) r_8) ((((4 * x3) + 2)).toNat) r_13)) (i := ((4 * x3) + 3)) (x := r_18) (ws' := (zMo cI cZ h_M q_M c_s c_past c_kept c_isKept c_pasts c_text c_typed (up (up (up (up c_rect (((4 * x3)).toNat) r_3) ((((4 * x3) + 1)).toNat) r_8) ((((4 * x3) + 2)).toNat) r_13) ((((4 * x3) + 3)).toNat) r_18) c_item c_items c_itemLevel c_treated c_from c_group c_turn c_size c_old c_aside c_begin c_level c_asides c_sorted c_spot c_rectangles c_parts c_visited)) hx hb hK hP hD hS 5 rfl rfl g_24 (by have := g_24.2; omega) dX7_unites_144 rfl (fun H locs hP hD hS => ?_)
  obtain rfl := Option.some.inj h
  exact z_vret hx hb hr hlk (fun _ _ => 0) hP hD hS dX7_unites_145
def f_Mo_bounds_s_L32 (c_s : Nat → Int) (x4 : Int) (x5 : Int) (x7 : Int) (k : Int → (Nat → Int) → Option ((Nat → Int))) : Nat → Int → (Nat → Int) → Option ((Nat → Int))
  | 0, _, _ => none
  | n + 1, x8, c_rect =>
  gd (ck x8) <| if x8 < 4 then (gd (0 ≤ ((4 * x4) + x8) ∧ ((4 * x4) + x8) < ((48 : Nat) : Int)) <| gd (0 ≤ (x7 + x8) ∧ (x7 + x8) < ((461 : Nat) : Int)) <| gd (ck x5) <| if x5 = 0 then (if x8 < 2 then (bd1 (f_Mo_less (c_rect (((4 * x4) + x8)).toNat) (c_s ((x7 + x8)).toNat)) <| fun r_17 => f_Mo_bounds_s_L32 c_s x4 x5 x7 k n ((x8 + 1)) ((up c_rect ((((4 * x4) + x8)).toNat) r_17))) else (bd1 (f_Mo_greater (c_rect (((4 * x4) + x8)).toNat) (c_s ((x7 + x8)).toNat)) <| fun r_14 => f_Mo_bounds_s_L32 c_s x4 x5 x7 k n ((x8 + 1)) ((up c_rect ((((4 * x4) + x8)).toNat) r_14)))) else (f_Mo_bounds_s_L32 c_s x4 x5 x7 k n ((x8 + 1)) ((up c_rect ((((4 * x4) + x8)).toNat) (c_s ((x7 + x8)).toNat))))) else (k (x8) (c_rect))
def f_Mo_bounds_s_L6 (c_s : Nat → Int) (x3 : Int) (x4 : Int) (k : Int → Int → (Nat → Int) → Option ((Nat → Int))) : Nat → Int → Int → (Nat → Int) → Option ((Nat → Int))
  | 0, _, _, _ => none
  | n + 1, x5, x6, c_rect =>
  gd (ck x6) <| gd (ck x3) <| if x6 < x3 then (gd (0 ≤ x6 ∧ x6 < ((461 : Nat) : Int)) <| gd (ck (c_s (x6).toNat)) <| if (c_s (x6).toNat) < 0 then (f_Mo_bounds_s_L6 c_s x3 x4 k n (x5) ((x6 + 1)) (c_rect)) else (f_Mo_bounds_s_L32 (c_s) (x4) (x5) ((5 + (4 * (c_s (x6).toNat)))) (fun x8_20 c_rect_21 => f_Mo_bounds_s_L6 c_s x3 x4 k n (0) ((x6 + 1)) (c_rect_21)) FU (0) (c_rect))) else (k (x5) (x6) (c_rect))
def f_Mo_bounds_s (c_s : Nat → Int) (c_rect : Nat → Int) (x2 : Int) (x3 : Int) (x4 : Int) : Option ((Nat → Int)) :=
  f_Mo_bounds_s_L6 (c_s) (x3) (x4) (fun x5_22 x6_23 c_rect_24 => some (c_rect_24)) FU (1) (x2) (c_rect)
abbrev rm_Mo_bounds_s : Room := ({ frames := 1, cells := 0, slots := 0, locals := 21 } : Room)
set_option maxHeartbeats 4000000 in
set_option maxRecDepth 100000 in
theorem w_Mo_bounds_s_L32 {p : Program} {l : Launch} {e : Env} {s : State} {m : MethodId} {args : Array Value} {below : List Frame} {meth : Method} {c : Code} {A : Nat → Prop} (D : va_G) (cI cZ cT : ClassId) (h_M : Nat) (q_M : Nat → Nat) (c_s : Nat → Int) (c_past : Nat → Int) (c_kept : Nat → Int) (c_isKept : Int) (c_pasts : Int) (c_text : Nat → Int) (c_typed : Int) (c_item : Nat → Int) (c_items : Int) (c_itemLevel : Int) (c_treated : Nat → Int) (c_from : Nat → Int) (c_group : Nat → Int) (c_turn : Nat → Int) (c_size : Nat → Int) (c_old : Nat → Int) (c_aside : Nat → Int) (c_begin : Nat → Int) (c_level : Nat → Int) (c_asides : Int) (c_sorted : Nat → Int) (c_spot : Int) (c_rectangles : Int) (c_parts : Nat → Int) (c_visited : Nat → Int) (x3 : Int) (x4 : Int) (x5 : Int) (x6 : Int) (x7 : Int) (res : (Nat → Int)) (k : Int → (Nat → Int) → Option ((Nat → Int))) (hF : zF p m c cX7_bounds 11 s args yX7_bounds.cls meth none yX7_bounds.name A D (zt cI cZ cT))
    (hk : ∀ (x8 : Int) (c_rect : Nat → Int) (H : Heap) (locs : List Loc) (ls : Array Slot), k x8 c_rect = some res → va_P D vwCl ((zMo cI cZ h_M q_M c_s c_past c_kept c_isKept c_pasts c_text c_typed c_rect c_item c_items c_itemLevel c_treated c_from c_group c_turn c_size c_old c_aside c_begin c_level c_asides c_sorted c_spot c_rectangles c_parts c_visited)) H → va_D A ((zMo cI cZ h_M q_M c_s c_past c_kept c_isKept c_pasts c_text c_typed c_rect c_item c_items c_itemLevel c_treated c_from c_group c_turn c_size c_old c_aside c_begin c_level c_asides c_sorted c_spot c_rectangles c_parts c_visited)) → va_S A s.heap H locs → lv_has ls 11 [(0, .ref h_M), (1, .ref (q_M 0)), (3, vI x3), (4, vI x4), (6, vI x6)] → W p l e rm_Mo_bounds_s s m args below meth c H locs 0 0 (MQ below (zQv D (fun u => (zMo cI cZ h_M q_M c_s c_past c_kept c_isKept c_pasts c_text c_typed (res) c_item c_items c_itemLevel c_treated c_from c_group c_turn c_size c_old c_aside c_begin c_level c_asides c_sorted c_spot c_rectangles c_parts c_visited)) A) args s 0 0 A) (F0 m 115 ls [])) :
    ∀ (n : Nat) (x8 : Int) (c_rect : Nat → Int) (H : Heap) (locs : List Loc) (ls : Array Slot), f_Mo_bounds_s_L32 c_s x4 x5 x7 k n x8 c_rect = some res → va_P D vwCl ((zMo cI cZ h_M q_M c_s c_past c_kept c_isKept c_pasts c_text c_typed c_rect c_item c_items c_itemLevel c_treated c_from c_group c_turn c_size c_old c_aside c_begin c_level c_asides c_sorted c_spot c_rectangles c_parts c_visited)) H → va_D A ((zMo cI cZ h_M q_M c_s c_past c_kept c_isKept c_pasts c_text c_typed c_rect c_item c_items c_itemLevel c_treated c_from c_group c_turn c_size c_old c_aside c_begin c_level c_asides c_sorted c_spot c_rectangles c_parts c_visited)) → va_S A s.heap H locs → lv_has ls 11 [(0, .ref h_M), (1, .ref (q_M 0)), (3, vI x3), (4, vI x4), (5, vI x5), (6, vI x6), (7, vI x7), (8, vI x8)] → W p l e rm_Mo_bounds_s s m args below meth c H locs 0 0 (MQ below (zQv D (fun u => (zMo cI cZ h_M q_M c_s c_past c_kept c_isKept c_pasts c_text c_typed (res) c_item c_items c_itemLevel c_treated c_from c_group c_turn c_size c_old c_aside c_begin c_level c_asides c_sorted c_spot c_rectangles c_parts c_visited)) A) args s 0 0 A) (F0 m 32 ls []) := by
  have hx := hF.1.1
  have hb := hF.1.2.1
  have hml := hF.1.2.2.1
  have hown : s.vm.findClass "RectangleTreeModel" = some m.cls := hF.1.2.2.2.1
  have hts := hF.1.2.2.2.2
  have hr := hF.2.1
  have hlk := hF.2.2.1
  have hK := hF.2.2.2.2.1
  have hN := hF.2.2.2.2.2.1
  have hA := hF.2.2.2.2.2.2
  intro n
  induction n with
  | zero => intro x8 c_rect H locs ls h; cases h
  | succ n ih =>
    intro x8 c_rect H locs ls h hP hD hS hl
    rw [f_Mo_bounds_s_L32] at h
    refine lv_iload hx hb dX7_bounds_32 (lv_at hl 7 rfl) ?_
    refine lv_iconst (v := Int32.ofInt 4) hx hb dX7_bounds_34 rfl ?_
    obtain ⟨g_7, h⟩ := gd_e h
    refine z_icmp_ge (tgt := 115) hx hb g_7 (by decide) dX7_bounds_35 (by decide) (fun b_8 => ?_) (fun b_8 => ?_)
    · have h := it_n b_8 h
      exact hk (x8) (c_rect) H locs ls h hP hD hS (lv_sub hl [0, 1, 2, 3, 5] rfl)
    · have h := it_p b_8 h
      refine lv_aload_n hx hb dX7_bounds_38 rfl (lv_at hl 0 rfl) ?_
      refine va_get (D := D) (ci := 7) (v := .ref (q_M 4)) (C := RX7) (T := TX7) (N := 26) hx hb hts zin7 hown hK hP 0 rfl rfl 7 (by decide) (hts _ wm794) (fun _ h9 => h9) rfl dX7_bounds_39 ?_
      refine lv_iconst (v := Int32.ofInt 4) hx hb dX7_bounds_42 rfl ?_
      refine lv_iload hx hb dX7_bounds_43 (lv_at hl 3 rfl) ?_
      refine z_imul hx hb dX7_bounds_45 ?_
      refine lv_iload hx hb dX7_bounds_46 (lv_at hl 7 rfl) ?_
      refine z_iadd hx hb dX7_bounds_48 ?_
      obtain ⟨g_9, h⟩ := gd_e h
      refine z_iald (n := 48) (f := c_rect) (i := ((4 * x4) + x8)) hx hb hK hP 5 rfl rfl g_9 (by have := g_9.2; omega) dX7_bounds_49 ?_
      refine lv_istore (lv' := [(9, vI (c_rect (((4 * x4) + x8)).toNat)), (0, .ref h_M), (1, .ref (q_M 0)), (3, vI x3), (4, vI x4), (5, vI x5), (6, vI x6), (7, vI x7), (8, vI x8)]) hx hb dX7_bounds_50 hl (by decide) rfl (fun ls hl => ?_)
      refine lv_aload_n hx hb dX7_bounds_52 rfl (lv_at hl 1 rfl) ?_
      refine va_get (D := D) (ci := 7) (v := .ref (q_M 0)) (C := RX7) (T := TX7) (N := 26) hx hb hts zin7 hown hK hP 0 rfl rfl 0 (by decide) (hts _ wm787) (fun _ h9 => h9) rfl dX7_bounds_53 ?_
      refine lv_iload hx hb dX7_bounds_56 (lv_at hl 7 rfl) ?_
      refine lv_iload hx hb dX7_bounds_58 (lv_at hl 8 rfl) ?_
      refine z_iadd hx hb dX7_bounds_60 ?_
      obtain ⟨g_10, h⟩ := gd_e h
      refine z_iald (n := 461) (f := c_s) (i := (x7 + x8)) hx hb hK hP 1 rfl rfl g_10 (by have := g_10.2; omega) dX7_bounds_61 ?_
      refine lv_istore (lv' := [(10, vI (c_s ((x7 + x8)).toNat)), (9, vI (c_rect (((4 * x4) + x8)).toNat)), (0, .ref h_M), (1, .ref (q_M 0)), (3, vI x3), (4, vI x4), (5, vI x5), (6, vI x6), (7, vI x7), (8, vI x8)]) hx hb dX7_bounds_62 hl (by decide) rfl (fun ls hl => ?_)
      refine lv_aload_n hx hb dX7_bounds_64 rfl (lv_at hl 2 rfl) ?_
      refine va_get (D := D) (ci := 7) (v := .ref (q_M 4)) (C := RX7) (T := TX7) (N := 26) hx hb hts zin7 hown hK hP 0 rfl rfl 7 (by decide) (hts _ wm794) (fun _ h9 => h9) rfl dX7_bounds_65 ?_
      refine lv_iconst (v := Int32.ofInt 4) hx hb dX7_bounds_68 rfl ?_
      refine lv_iload hx hb dX7_bounds_69 (lv_at hl 5 rfl) ?_
      refine z_imul hx hb dX7_bounds_71 ?_
      refine lv_iload hx hb dX7_bounds_72 (lv_at hl 9 rfl) ?_
      refine z_iadd hx hb dX7_bounds_74 ?_
      refine lv_iload hx hb dX7_bounds_75 (lv_at hl 6 rfl) ?_
      obtain ⟨g_11, h⟩ := gd_e h
      refine z_if_eq (tgt := 85) hx hb g_11 dX7_bounds_77 (by decide) (fun b_12 => ?_) (fun b_12 => ?_)
      · have h := it_p b_12 h
        refine lv_iload hx hb dX7_bounds_85 (lv_at hl 9 rfl) ?_
        refine lv_iconst (v := Int32.ofInt 2) hx hb dX7_bounds_87 rfl ?_
        refine z_icmp_ge (tgt := 101) hx hb g_7 (by decide) dX7_bounds_88 (by decide) (fun b_13 => ?_) (fun b_13 => ?_)
        · have h := it_n b_13 h
          refine lv_iload hx hb dX7_bounds_101 (lv_at hl 1 rfl) ?_
          refine lv_iload hx hb dX7_bounds_103 (lv_at hl 0 rfl) ?_
          obtain ⟨r_14, e_15, h⟩ := bd1_e h
          refine z_goi (ws' := []) (ret := r_14) (wc := ([] : va_W)) (wn := fun u_16 => (zMo cI cZ h_M q_M c_s c_past c_kept c_isKept c_pasts c_text c_typed c_rect c_item c_items c_itemLevel c_treated c_from c_group c_turn c_size c_old c_aside c_begin c_level c_asides c_sorted c_spot c_rectangles c_parts c_visited)) (wr := ([0, 1, 2, 3, 4, 5, 6, 7, 8, 9, 10, 11, 12, 13, 14, 15, 16, 17, 18].filterMap (fun i => ((zMo cI cZ h_M q_M c_s c_past c_kept c_isKept c_pasts c_text c_typed c_rect c_item c_items c_itemLevel c_treated c_from c_group c_turn c_size c_old c_aside c_begin c_level c_asides c_sorted c_spot c_rectangles c_parts c_visited))[i]?))) (va_runS (As := [vI (c_rect (((4 * x4) + x8)).toNat), vI (c_s ((x7 + x8)).toNat)]) (rest := [vI ((4 * x4) + x8), .ref (q_M 4)]) hF.1 (c_Mo_greater l D cI cZ cT (c_rect (((4 * x4) + x8)).toNat) (c_s ((x7 + x8)).toNat) H.size (r_14) e_15) (va_cwS 2 hts (zgS wm908 wm909 wm89 wm910) rfl rfl rfl (by decide +kernel) ⟨Nat.le_of_ble_eq_true rfl, Nat.le_of_ble_eq_true rfl⟩) ⟨zP.blind, zP.enter (z_subP (ws' := ([] : va_W)) hP [] rfl) hK (hD.sub [] (by decide) rfl) hN⟩ rfl rfl hl.1 rfl (lv_room (Nat.le_of_ble_eq_true rfl)) dX7_bounds_105 ⟨Nat.le_refl _, Nat.le_refl _⟩) hP hD hS hA [] [0, 1, 2, 3, 4, 5, 6, 7, 8, 9, 10, 11, 12, 13, 14, 15, 16, 17, 18] [0, 1, 2, 3, 4, 5, 6, 7, 8, 9, 10, 11, 12, 13, 14, 15, 16, 17, 18] rfl rfl (by decide) (fun _ => rfl) (fun u_16 H locs hP hD hS hz => ?_)
          refine z_iast (n := 48) (f := c_rect) (i := ((4 * x4) + x8)) (x := r_14) (ws' := (zMo cI cZ h_M q_M c_s c_past c_kept c_isKept c_pasts c_text c_typed (up c_rect ((((4 * x4) + x8)).toNat) r_14) c_item c_items c_itemLevel c_treated c_from c_group c_turn c_size c_old c_aside c_begin c_level c_asides c_sorted c_spot c_rectangles c_parts c_visited)) hx hb hK hP hD hS 5 rfl rfl g_9 (by have := g_9.2; omega) dX7_bounds_108 rfl (fun H locs hP hD hS => ?_)
          refine lv_iinc (v := Int32.ofInt (x8 + 1)) (lv' := [(8, vI (x8 + 1)), (10, vI (c_s ((x7 + x8)).toNat)), (9, vI (c_rect (((4 * x4) + x8)).toNat)), (0, .ref h_M), (1, .ref (q_M 0)), (3, vI x3), (4, vI x4), (5, vI x5), (6, vI x6), (7, vI x7)]) hx hb dX7_bounds_109 hl (k := 9) rfl (z_inc _ _) (by decide) rfl (fun ls hl => ?_)
          refine lv_goto (tgt := 32) hx hb dX7_bounds_112 (by decide) ?_
          exact ih ((x8 + 1)) ((up c_rect ((((4 * x4) + x8)).toNat) r_14)) H locs ls h hP hD hS (lv_sub hl [3, 4, 5, 6, 7, 8, 9, 0] rfl)
        · have h := it_p b_13 h
          refine lv_iload hx hb dX7_bounds_91 (lv_at hl 1 rfl) ?_
          refine lv_iload hx hb dX7_bounds_93 (lv_at hl 0 rfl) ?_
          obtain ⟨r_17, e_18, h⟩ := bd1_e h
          refine z_goi (ws' := []) (ret := r_17) (wc := ([] : va_W)) (wn := fun u_19 => (zMo cI cZ h_M q_M c_s c_past c_kept c_isKept c_pasts c_text c_typed c_rect c_item c_items c_itemLevel c_treated c_from c_group c_turn c_size c_old c_aside c_begin c_level c_asides c_sorted c_spot c_rectangles c_parts c_visited)) (wr := ([0, 1, 2, 3, 4, 5, 6, 7, 8, 9, 10, 11, 12, 13, 14, 15, 16, 17, 18].filterMap (fun i => ((zMo cI cZ h_M q_M c_s c_past c_kept c_isKept c_pasts c_text c_typed c_rect c_item c_items c_itemLevel c_treated c_from c_group c_turn c_size c_old c_aside c_begin c_level c_asides c_sorted c_spot c_rectangles c_parts c_visited))[i]?))) (va_runS (As := [vI (c_rect (((4 * x4) + x8)).toNat), vI (c_s ((x7 + x8)).toNat)]) (rest := [vI ((4 * x4) + x8), .ref (q_M 4)]) hF.1 (c_Mo_less l D cI cZ cT (c_rect (((4 * x4) + x8)).toNat) (c_s ((x7 + x8)).toNat) H.size (r_17) e_18) (va_cwS 2 hts (zgS wm905 wm906 wm89 wm907) rfl rfl rfl (by decide +kernel) ⟨Nat.le_of_ble_eq_true rfl, Nat.le_of_ble_eq_true rfl⟩) ⟨zP.blind, zP.enter (z_subP (ws' := ([] : va_W)) hP [] rfl) hK (hD.sub [] (by decide) rfl) hN⟩ rfl rfl hl.1 rfl (lv_room (Nat.le_of_ble_eq_true rfl)) dX7_bounds_95 ⟨Nat.le_refl _, Nat.le_refl _⟩) hP hD hS hA [] [0, 1, 2, 3, 4, 5, 6, 7, 8, 9, 10, 11, 12, 13, 14, 15, 16, 17, 18] [0, 1, 2, 3, 4, 5, 6, 7, 8, 9, 10, 11, 12, 13, 14, 15, 16, 17, 18] rfl rfl (by decide) (fun _ => rfl) (fun u_19 H locs hP hD hS hz => ?_)
          refine lv_goto (tgt := 108) hx hb dX7_bounds_98 (by decide) ?_
          refine z_iast (n := 48) (f := c_rect) (i := ((4 * x4) + x8)) (x := r_17) (ws' := (zMo cI cZ h_M q_M c_s c_past c_kept c_isKept c_pasts c_text c_typed (up c_rect ((((4 * x4) + x8)).toNat) r_17) c_item c_items c_itemLevel c_treated c_from c_group c_turn c_size c_old c_aside c_begin c_level c_asides c_sorted c_spot c_rectangles c_parts c_visited)) hx hb hK hP hD hS 5 rfl rfl g_9 (by have := g_9.2; omega) dX7_bounds_108 rfl (fun H locs hP hD hS => ?_)
          refine lv_iinc (v := Int32.ofInt (x8 + 1)) (lv' := [(8, vI (x8 + 1)), (10, vI (c_s ((x7 + x8)).toNat)), (9, vI (c_rect (((4 * x4) + x8)).toNat)), (0, .ref h_M), (1, .ref (q_M 0)), (3, vI x3), (4, vI x4), (5, vI x5), (6, vI x6), (7, vI x7)]) hx hb dX7_bounds_109 hl (k := 9) rfl (z_inc _ _) (by decide) rfl (fun ls hl => ?_)
          refine lv_goto (tgt := 32) hx hb dX7_bounds_112 (by decide) ?_
          exact ih ((x8 + 1)) ((up c_rect ((((4 * x4) + x8)).toNat) r_17)) H locs ls h hP hD hS (lv_sub hl [3, 4, 5, 6, 7, 8, 9, 0] rfl)
      · have h := it_n b_12 h
        refine lv_iload hx hb dX7_bounds_80 (lv_at hl 0 rfl) ?_
        refine lv_goto (tgt := 108) hx hb dX7_bounds_82 (by decide) ?_
        refine z_iast (n := 48) (f := c_rect) (i := ((4 * x4) + x8)) (x := (c_s ((x7 + x8)).toNat)) (ws' := (zMo cI cZ h_M q_M c_s c_past c_kept c_isKept c_pasts c_text c_typed (up c_rect ((((4 * x4) + x8)).toNat) (c_s ((x7 + x8)).toNat)) c_item c_items c_itemLevel c_treated c_from c_group c_turn c_size c_old c_aside c_begin c_level c_asides c_sorted c_spot c_rectangles c_parts c_visited)) hx hb hK hP hD hS 5 rfl rfl g_9 (by have := g_9.2; omega) dX7_bounds_108 rfl (fun H locs hP hD hS => ?_)
        refine lv_iinc (v := Int32.ofInt (x8 + 1)) (lv' := [(8, vI (x8 + 1)), (10, vI (c_s ((x7 + x8)).toNat)), (9, vI (c_rect (((4 * x4) + x8)).toNat)), (0, .ref h_M), (1, .ref (q_M 0)), (3, vI x3), (4, vI x4), (5, vI x5), (6, vI x6), (7, vI x7)]) hx hb dX7_bounds_109 hl (k := 9) rfl (z_inc _ _) (by decide) rfl (fun ls hl => ?_)
        refine lv_goto (tgt := 32) hx hb dX7_bounds_112 (by decide) ?_
        exact ih ((x8 + 1)) ((up c_rect ((((4 * x4) + x8)).toNat) (c_s ((x7 + x8)).toNat))) H locs ls h hP hD hS (lv_sub hl [3, 4, 5, 6, 7, 8, 9, 0] rfl)
set_option maxHeartbeats 4000000 in
set_option maxRecDepth 100000 in
theorem w_Mo_bounds_s_L6 {p : Program} {l : Launch} {e : Env} {s : State} {m : MethodId} {args : Array Value} {below : List Frame} {meth : Method} {c : Code} {A : Nat → Prop} (D : va_G) (cI cZ cT : ClassId) (h_M : Nat) (q_M : Nat → Nat) (c_s : Nat → Int) (c_past : Nat → Int) (c_kept : Nat → Int) (c_isKept : Int) (c_pasts : Int) (c_text : Nat → Int) (c_typed : Int) (c_item : Nat → Int) (c_items : Int) (c_itemLevel : Int) (c_treated : Nat → Int) (c_from : Nat → Int) (c_group : Nat → Int) (c_turn : Nat → Int) (c_size : Nat → Int) (c_old : Nat → Int) (c_aside : Nat → Int) (c_begin : Nat → Int) (c_level : Nat → Int) (c_asides : Int) (c_sorted : Nat → Int) (c_spot : Int) (c_rectangles : Int) (c_parts : Nat → Int) (c_visited : Nat → Int) (x3 : Int) (x4 : Int) (res : (Nat → Int)) (k : Int → Int → (Nat → Int) → Option ((Nat → Int))) (hF : zF p m c cX7_bounds 11 s args yX7_bounds.cls meth none yX7_bounds.name A D (zt cI cZ cT))
    (hk : ∀ (x5 : Int) (x6 : Int) (c_rect : Nat → Int) (H : Heap) (locs : List Loc) (ls : Array Slot), k x5 x6 c_rect = some res → va_P D vwCl ((zMo cI cZ h_M q_M c_s c_past c_kept c_isKept c_pasts c_text c_typed c_rect c_item c_items c_itemLevel c_treated c_from c_group c_turn c_size c_old c_aside c_begin c_level c_asides c_sorted c_spot c_rectangles c_parts c_visited)) H → va_D A ((zMo cI cZ h_M q_M c_s c_past c_kept c_isKept c_pasts c_text c_typed c_rect c_item c_items c_itemLevel c_treated c_from c_group c_turn c_size c_old c_aside c_begin c_level c_asides c_sorted c_spot c_rectangles c_parts c_visited)) → va_S A s.heap H locs → lv_has ls 11 [] → W p l e rm_Mo_bounds_s s m args below meth c H locs 0 0 (MQ below (zQv D (fun u => (zMo cI cZ h_M q_M c_s c_past c_kept c_isKept c_pasts c_text c_typed (res) c_item c_items c_itemLevel c_treated c_from c_group c_turn c_size c_old c_aside c_begin c_level c_asides c_sorted c_spot c_rectangles c_parts c_visited)) A) args s 0 0 A) (F0 m 124 ls [])) :
    ∀ (n : Nat) (x5 : Int) (x6 : Int) (c_rect : Nat → Int) (H : Heap) (locs : List Loc) (ls : Array Slot), f_Mo_bounds_s_L6 c_s x3 x4 k n x5 x6 c_rect = some res → va_P D vwCl ((zMo cI cZ h_M q_M c_s c_past c_kept c_isKept c_pasts c_text c_typed c_rect c_item c_items c_itemLevel c_treated c_from c_group c_turn c_size c_old c_aside c_begin c_level c_asides c_sorted c_spot c_rectangles c_parts c_visited)) H → va_D A ((zMo cI cZ h_M q_M c_s c_past c_kept c_isKept c_pasts c_text c_typed c_rect c_item c_items c_itemLevel c_treated c_from c_group c_turn c_size c_old c_aside c_begin c_level c_asides c_sorted c_spot c_rectangles c_parts c_visited)) → va_S A s.heap H locs → lv_has ls 11 [(0, .ref h_M), (1, .ref (q_M 0)), (3, vI x3), (4, vI x4), (5, vI x5), (6, vI x6)] → W p l e rm_Mo_bounds_s s m args below meth c H locs 0 0 (MQ below (zQv D (fun u => (zMo cI cZ h_M q_M c_s c_past c_kept c_isKept c_pasts c_text c_typed (res) c_item c_items c_itemLevel c_treated c_from c_group c_turn c_size c_old c_aside c_begin c_level c_asides c_sorted c_spot c_rectangles c_parts c_visited)) A) args s 0 0 A) (F0 m 6 ls []) := by
  have hx := hF.1.1
  have hb := hF.1.2.1
  have hml := hF.1.2.2.1
  have hown : s.vm.findClass "RectangleTreeModel" = some m.cls := hF.1.2.2.2.1
  have hts := hF.1.2.2.2.2
  have hr := hF.2.1
  have hlk := hF.2.2.1
  have hK := hF.2.2.2.2.1
  have hN := hF.2.2.2.2.2.1
  have hA := hF.2.2.2.2.2.2
  intro n
  induction n with
  | zero => intro x5 x6 c_rect H locs ls h; cases h
  | succ n ih =>
    intro x5 x6 c_rect H locs ls h hP hD hS hl
    rw [f_Mo_bounds_s_L6] at h
    refine lv_iload hx hb dX7_bounds_6 (lv_at hl 5 rfl) ?_
    refine lv_iload_n hx hb dX7_bounds_8 rfl (lv_at hl 2 rfl) ?_
    obtain ⟨g_1, h⟩ := gd_e h
    obtain ⟨g_2, h⟩ := gd_e h
    refine z_icmp_ge (tgt := 124) hx hb g_1 g_2 dX7_bounds_9 (by decide) (fun b_3 => ?_) (fun b_3 => ?_)
    · have h := it_n b_3 h
      exact hk (x5) (x6) (c_rect) H locs ls h hP hD hS (lv_sub hl [] rfl)
    · have h := it_p b_3 h
      refine lv_aload_n hx hb dX7_bounds_12 rfl (lv_at hl 1 rfl) ?_
      refine lv_iload hx hb dX7_bounds_13 (lv_at hl 5 rfl) ?_
      obtain ⟨g_4, h⟩ := gd_e h
      refine z_iald (n := 461) (f := c_s) (i := x6) hx hb hK hP 1 rfl rfl g_4 (by have := g_4.2; omega) dX7_bounds_15 ?_
      obtain ⟨g_5, h⟩ := gd_e h
      refine z_if_lt (tgt := 118) hx hb g_5 dX7_bounds_16 (by decide) (fun b_6 => ?_) (fun b_6 => ?_)
      · have h := it_p b_6 h
        refine lv_iinc (v := Int32.ofInt (x6 + 1)) (lv' := [(6, vI (x6 + 1)), (0, .ref h_M), (1, .ref (q_M 0)), (3, vI x3), (4, vI x4), (5, vI x5)]) hx hb dX7_bounds_118 hl (k := 5) rfl (z_inc _ _) (by decide) rfl (fun ls hl => ?_)
        refine lv_goto (tgt := 6) hx hb dX7_bounds_121 (by decide) ?_
        exact ih (x5) ((x6 + 1)) (c_rect) H locs ls h hP hD hS (lv_sub hl [1, 2, 3, 4, 5, 0] rfl)
      · have h := it_n b_6 h
        refine lv_iconst (v := Int32.ofInt 5) hx hb dX7_bounds_19 rfl ?_
        refine lv_iconst (v := Int32.ofInt 4) hx hb dX7_bounds_20 rfl ?_
        refine lv_aload_n hx hb dX7_bounds_21 rfl (lv_at hl 1 rfl) ?_
        refine lv_iload hx hb dX7_bounds_22 (lv_at hl 5 rfl) ?_
        refine z_iald (n := 461) (f := c_s) (i := x6) hx hb hK hP 1 rfl rfl g_4 (by have := g_4.2; omega) dX7_bounds_24 ?_
        refine z_imul hx hb dX7_bounds_25 ?_
        refine z_iadd hx hb dX7_bounds_26 ?_
        refine lv_istore (lv' := [(7, vI (5 + (4 * (c_s (x6).toNat)))), (0, .ref h_M), (1, .ref (q_M 0)), (3, vI x3), (4, vI x4), (5, vI x5), (6, vI x6)]) hx hb dX7_bounds_27 hl (by decide) rfl (fun ls hl => ?_)
        refine lv_iconst (v := Int32.ofInt 0) hx hb dX7_bounds_29 rfl ?_
        refine lv_istore (lv' := [(8, vI 0), (7, vI (5 + (4 * (c_s (x6).toNat)))), (0, .ref h_M), (1, .ref (q_M 0)), (3, vI x3), (4, vI x4), (5, vI x5), (6, vI x6)]) hx hb dX7_bounds_30 hl (by decide) rfl (fun ls hl => ?_)
        refine w_Mo_bounds_s_L32 D cI cZ cT (h_M) (q_M) (c_s) (c_past) (c_kept) (c_isKept) (c_pasts) (c_text) (c_typed) (c_item) (c_items) (c_itemLevel) (c_treated) (c_from) (c_group) (c_turn) (c_size) (c_old) (c_aside) (c_begin) (c_level) (c_asides) (c_sorted) (c_spot) (c_rectangles) (c_parts) (c_visited) (x3) (x4) (x5) (x6) ((5 + (4 * (c_s (x6).toNat)))) _ _ hF (fun x8_20 c_rect_21 H locs ls h hP hD hS hl => ?_) _ (0) (c_rect) _ _ _ h hP hD hS (lv_sub hl [2, 3, 4, 5, 6, 7, 1, 0] rfl)
        refine lv_iconst (v := Int32.ofInt 0) hx hb dX7_bounds_115 rfl ?_
        refine lv_istore (lv' := [(5, vI 0), (0, .ref h_M), (1, .ref (q_M 0)), (3, vI x3), (4, vI x4), (6, vI x6)]) hx hb dX7_bounds_116 hl (by decide) rfl (fun ls hl => ?_)
        refine lv_iinc (v := Int32.ofInt (x6 + 1)) (lv' := [(6, vI (x6 + 1)), (5, vI 0), (0, .ref h_M), (1, .ref (q_M 0)), (3, vI x3), (4, vI x4)]) hx hb dX7_bounds_118 hl (k := 5) rfl (z_inc _ _) (by decide) rfl (fun ls hl => ?_)
        refine lv_goto (tgt := 6) hx hb dX7_bounds_121 (by decide) ?_
        exact ih (0) ((x6 + 1)) (c_rect_21) H locs ls h hP hD hS (lv_sub hl [2, 3, 4, 5, 1, 0] rfl)
set_option maxHeartbeats 4000000 in
set_option maxRecDepth 100000 in
theorem c_Mo_bounds_s (l : Launch) (D : va_G) (cI cZ cT : ClassId) (h_M : Nat) (q_M : Nat → Nat) (c_s : Nat → Int) (c_past : Nat → Int) (c_kept : Nat → Int) (c_isKept : Int) (c_pasts : Int) (c_text : Nat → Int) (c_typed : Int) (c_rect : Nat → Int) (c_item : Nat → Int) (c_items : Int) (c_itemLevel : Int) (c_treated : Nat → Int) (c_from : Nat → Int) (c_group : Nat → Int) (c_turn : Nat → Int) (c_size : Nat → Int) (c_old : Nat → Int) (c_aside : Nat → Int) (c_begin : Nat → Int) (c_level : Nat → Int) (c_asides : Int) (c_sorted : Nat → Int) (c_spot : Int) (c_rectangles : Int) (c_parts : Nat → Int) (c_visited : Nat → Int) (x2 : Int) (x3 : Int) (x4 : Int) (sz : Nat) (res : (Nat → Int)) (h : f_Mo_bounds_s c_s c_rect x2 x3 x4 = some res) : zMv l yX7_bounds cX7_bounds 11 rm_Mo_bounds_s D (zt cI cZ cT) [.ref h_M, .ref (q_M 0), vI x2, vI x3, vI x4] ((zMo cI cZ h_M q_M c_s c_past c_kept c_isKept c_pasts c_text c_typed c_rect c_item c_items c_itemLevel c_treated c_from c_group c_turn c_size c_old c_aside c_begin c_level c_asides c_sorted c_spot c_rectangles c_parts c_visited)) sz (fun u => (zMo cI cZ h_M q_M c_s c_past c_kept c_isKept c_pasts c_text c_typed (res) c_item c_items c_itemLevel c_treated c_from c_group c_turn c_size c_old c_aside c_begin c_level c_asides c_sorted c_spot c_rectangles c_parts c_visited)) 0 0 := by
  refine z_enth (Qc := zQv D (fun u => (zMo cI cZ h_M q_M c_s c_past c_kept c_isKept c_pasts c_text c_typed (res) c_item c_items c_itemLevel c_treated c_from c_group c_turn c_size c_old c_aside c_begin c_level c_asides c_sorted c_spot c_rectangles c_parts c_visited))) (by decide) (Nat.le_of_ble_eq_true rfl) (fun p e s m args below meth c A ls H locs hF hP hD hS hl => ?_)
  have hx := hF.1.1
  have hb := hF.1.2.1
  have hml := hF.1.2.2.1
  have hown : s.vm.findClass "RectangleTreeModel" = some m.cls := hF.1.2.2.2.1
  have hts := hF.1.2.2.2.2
  have hr := hF.2.1
  have hlk := hF.2.2.1
  have hK := hF.2.2.2.2.1
  have hN := hF.2.2.2.2.2.1
  have hA := hF.2.2.2.2.2.2
  unfold f_Mo_bounds_s at h
  refine lv_iconst (v := Int32.ofInt 1) hx hb dX7_bounds_0 rfl ?_
  refine lv_istore (lv' := [(5, vI 1), (0, .ref h_M), (1, .ref (q_M 0)), (2, vI x2), (3, vI x3), (4, vI x4)]) hx hb dX7_bounds_1 hl (by decide) rfl (fun ls hl => ?_)
  refine lv_iload_n hx hb dX7_bounds_3 rfl (lv_at hl 3 rfl) ?_
  refine lv_istore (lv' := [(6, vI x2), (5, vI 1), (0, .ref h_M), (1, .ref (q_M 0)), (2, vI x2), (3, vI x3), (4, vI x4)]) hx hb dX7_bounds_4 hl (by decide) rfl (fun ls hl => ?_)
  refine w_Mo_bounds_s_L6 D cI cZ cT (h_M) (q_M) (c_s) (c_past) (c_kept) (c_isKept) (c_pasts) (c_text) (c_typed) (c_item) (c_items) (c_itemLevel) (c_treated) (c_from) (c_group) (c_turn) (c_size) (c_old) (c_aside) (c_begin) (c_level) (c_asides) (c_sorted) (c_spot) (c_rectangles) (c_parts) (c_visited) (x3) (x4) _ _ hF (fun x5_22 x6_23 c_rect_24 H locs ls h hP hD hS hl => ?_) _ (1) (x2) (c_rect) _ _ _ h hP hD hS (lv_sub hl [2, 3, 5, 6, 1, 0] rfl)
  obtain rfl := Option.some.inj h
  exact z_vret hx hb hr hlk (fun _ _ => 0) hP hD hS dX7_bounds_124
def f_Mo_bounds_item_L32 (c_s : Nat → Int) (x4 : Int) (x5 : Int) (x7 : Int) (k : Int → (Nat → Int) → Option ((Nat → Int))) : Nat → Int → (Nat → Int) → Option ((Nat → Int))
  | 0, _, _ => none
  | n + 1, x8, c_rect =>
  gd (ck x8) <| if x8 < 4 then (gd (0 ≤ ((4 * x4) + x8) ∧ ((4 * x4) + x8) < ((48 : Nat) : Int)) <| gd (0 ≤ (x7 + x8) ∧ (x7 + x8) < ((461 : Nat) : Int)) <| gd (ck x5) <| if x5 = 0 then (if x8 < 2 then (bd1 (f_Mo_less (c_rect (((4 * x4) + x8)).toNat) (c_s ((x7 + x8)).toNat)) <| fun r_17 => f_Mo_bounds_item_L32 c_s x4 x5 x7 k n ((x8 + 1)) ((up c_rect ((((4 * x4) + x8)).toNat) r_17))) else (bd1 (f_Mo_greater (c_rect (((4 * x4) + x8)).toNat) (c_s ((x7 + x8)).toNat)) <| fun r_14 => f_Mo_bounds_item_L32 c_s x4 x5 x7 k n ((x8 + 1)) ((up c_rect ((((4 * x4) + x8)).toNat) r_14)))) else (f_Mo_bounds_item_L32 c_s x4 x5 x7 k n ((x8 + 1)) ((up c_rect ((((4 * x4) + x8)).toNat) (c_s ((x7 + x8)).toNat))))) else (k (x8) (c_rect))
def f_Mo_bounds_item_L6 (c_s : Nat → Int) (c_item : Nat → Int) (x3 : Int) (x4 : Int) (k : Int → Int → (Nat → Int) → Option ((Nat → Int))) : Nat → Int → Int → (Nat → Int) → Option ((Nat → Int))
  | 0, _, _, _ => none
  | n + 1, x5, x6, c_rect =>
  gd (ck x6) <| gd (ck x3) <| if x6 < x3 then (gd (0 ≤ x6 ∧ x6 < ((360 : Nat) : Int)) <| gd (ck (c_item (x6).toNat)) <| if (c_item (x6).toNat) < 0 then (f_Mo_bounds_item_L6 c_s c_item x3 x4 k n (x5) ((x6 + 1)) (c_rect)) else (f_Mo_bounds_item_L32 (c_s) (x4) (x5) ((5 + (4 * (c_item (x6).toNat)))) (fun x8_20 c_rect_21 => f_Mo_bounds_item_L6 c_s c_item x3 x4 k n (0) ((x6 + 1)) (c_rect_21)) FU (0) (c_rect))) else (k (x5) (x6) (c_rect))
def f_Mo_bounds_item (c_s : Nat → Int) (c_rect : Nat → Int) (c_item : Nat → Int) (x2 : Int) (x3 : Int) (x4 : Int) : Option ((Nat → Int)) :=
  f_Mo_bounds_item_L6 (c_s) (c_item) (x3) (x4) (fun x5_22 x6_23 c_rect_24 => some (c_rect_24)) FU (1) (x2) (c_rect)
abbrev rm_Mo_bounds_item : Room := ({ frames := 1, cells := 0, slots := 0, locals := 21 } : Room)
set_option maxHeartbeats 4000000 in
set_option maxRecDepth 100000 in
theorem w_Mo_bounds_item_L32 {p : Program} {l : Launch} {e : Env} {s : State} {m : MethodId} {args : Array Value} {below : List Frame} {meth : Method} {c : Code} {A : Nat → Prop} (D : va_G) (cI cZ cT : ClassId) (h_M : Nat) (q_M : Nat → Nat) (c_s : Nat → Int) (c_past : Nat → Int) (c_kept : Nat → Int) (c_isKept : Int) (c_pasts : Int) (c_text : Nat → Int) (c_typed : Int) (c_item : Nat → Int) (c_items : Int) (c_itemLevel : Int) (c_treated : Nat → Int) (c_from : Nat → Int) (c_group : Nat → Int) (c_turn : Nat → Int) (c_size : Nat → Int) (c_old : Nat → Int) (c_aside : Nat → Int) (c_begin : Nat → Int) (c_level : Nat → Int) (c_asides : Int) (c_sorted : Nat → Int) (c_spot : Int) (c_rectangles : Int) (c_parts : Nat → Int) (c_visited : Nat → Int) (x3 : Int) (x4 : Int) (x5 : Int) (x6 : Int) (x7 : Int) (res : (Nat → Int)) (k : Int → (Nat → Int) → Option ((Nat → Int))) (hF : zF p m c cX7_bounds 11 s args yX7_bounds.cls meth none yX7_bounds.name A D (zt cI cZ cT))
    (hk : ∀ (x8 : Int) (c_rect : Nat → Int) (H : Heap) (locs : List Loc) (ls : Array Slot), k x8 c_rect = some res → va_P D vwCl ((zMo cI cZ h_M q_M c_s c_past c_kept c_isKept c_pasts c_text c_typed c_rect c_item c_items c_itemLevel c_treated c_from c_group c_turn c_size c_old c_aside c_begin c_level c_asides c_sorted c_spot c_rectangles c_parts c_visited)) H → va_D A ((zMo cI cZ h_M q_M c_s c_past c_kept c_isKept c_pasts c_text c_typed c_rect c_item c_items c_itemLevel c_treated c_from c_group c_turn c_size c_old c_aside c_begin c_level c_asides c_sorted c_spot c_rectangles c_parts c_visited)) → va_S A s.heap H locs → lv_has ls 11 [(0, .ref h_M), (1, .ref (q_M 5)), (3, vI x3), (4, vI x4), (6, vI x6)] → W p l e rm_Mo_bounds_item s m args below meth c H locs 0 0 (MQ below (zQv D (fun u => (zMo cI cZ h_M q_M c_s c_past c_kept c_isKept c_pasts c_text c_typed (res) c_item c_items c_itemLevel c_treated c_from c_group c_turn c_size c_old c_aside c_begin c_level c_asides c_sorted c_spot c_rectangles c_parts c_visited)) A) args s 0 0 A) (F0 m 115 ls [])) :
    ∀ (n : Nat) (x8 : Int) (c_rect : Nat → Int) (H : Heap) (locs : List Loc) (ls : Array Slot), f_Mo_bounds_item_L32 c_s x4 x5 x7 k n x8 c_rect = some res → va_P D vwCl ((zMo cI cZ h_M q_M c_s c_past c_kept c_isKept c_pasts c_text c_typed c_rect c_item c_items c_itemLevel c_treated c_from c_group c_turn c_size c_old c_aside c_begin c_level c_asides c_sorted c_spot c_rectangles c_parts c_visited)) H → va_D A ((zMo cI cZ h_M q_M c_s c_past c_kept c_isKept c_pasts c_text c_typed c_rect c_item c_items c_itemLevel c_treated c_from c_group c_turn c_size c_old c_aside c_begin c_level c_asides c_sorted c_spot c_rectangles c_parts c_visited)) → va_S A s.heap H locs → lv_has ls 11 [(0, .ref h_M), (1, .ref (q_M 5)), (3, vI x3), (4, vI x4), (5, vI x5), (6, vI x6), (7, vI x7), (8, vI x8)] → W p l e rm_Mo_bounds_item s m args below meth c H locs 0 0 (MQ below (zQv D (fun u => (zMo cI cZ h_M q_M c_s c_past c_kept c_isKept c_pasts c_text c_typed (res) c_item c_items c_itemLevel c_treated c_from c_group c_turn c_size c_old c_aside c_begin c_level c_asides c_sorted c_spot c_rectangles c_parts c_visited)) A) args s 0 0 A) (F0 m 32 ls []) := by
  have hx := hF.1.1
  have hb := hF.1.2.1
  have hml := hF.1.2.2.1
  have hown : s.vm.findClass "RectangleTreeModel" = some m.cls := hF.1.2.2.2.1
  have hts := hF.1.2.2.2.2
  have hr := hF.2.1
  have hlk := hF.2.2.1
  have hK := hF.2.2.2.2.1
  have hN := hF.2.2.2.2.2.1
  have hA := hF.2.2.2.2.2.2
  intro n
  induction n with
  | zero => intro x8 c_rect H locs ls h; cases h
  | succ n ih =>
    intro x8 c_rect H locs ls h hP hD hS hl
    rw [f_Mo_bounds_item_L32] at h
    refine lv_iload hx hb dX7_bounds_32 (lv_at hl 7 rfl) ?_
    refine lv_iconst (v := Int32.ofInt 4) hx hb dX7_bounds_34 rfl ?_
    obtain ⟨g_7, h⟩ := gd_e h
    refine z_icmp_ge (tgt := 115) hx hb g_7 (by decide) dX7_bounds_35 (by decide) (fun b_8 => ?_) (fun b_8 => ?_)
    · have h := it_n b_8 h
      exact hk (x8) (c_rect) H locs ls h hP hD hS (lv_sub hl [0, 1, 2, 3, 5] rfl)
    · have h := it_p b_8 h
      refine lv_aload_n hx hb dX7_bounds_38 rfl (lv_at hl 0 rfl) ?_
      refine va_get (D := D) (ci := 7) (v := .ref (q_M 4)) (C := RX7) (T := TX7) (N := 26) hx hb hts zin7 hown hK hP 0 rfl rfl 7 (by decide) (hts _ wm794) (fun _ h9 => h9) rfl dX7_bounds_39 ?_
      refine lv_iconst (v := Int32.ofInt 4) hx hb dX7_bounds_42 rfl ?_
      refine lv_iload hx hb dX7_bounds_43 (lv_at hl 3 rfl) ?_
      refine z_imul hx hb dX7_bounds_45 ?_
      refine lv_iload hx hb dX7_bounds_46 (lv_at hl 7 rfl) ?_
      refine z_iadd hx hb dX7_bounds_48 ?_
      obtain ⟨g_9, h⟩ := gd_e h
      refine z_iald (n := 48) (f := c_rect) (i := ((4 * x4) + x8)) hx hb hK hP 5 rfl rfl g_9 (by have := g_9.2; omega) dX7_bounds_49 ?_
      refine lv_istore (lv' := [(9, vI (c_rect (((4 * x4) + x8)).toNat)), (0, .ref h_M), (1, .ref (q_M 5)), (3, vI x3), (4, vI x4), (5, vI x5), (6, vI x6), (7, vI x7), (8, vI x8)]) hx hb dX7_bounds_50 hl (by decide) rfl (fun ls hl => ?_)
      refine lv_aload_n hx hb dX7_bounds_52 rfl (lv_at hl 1 rfl) ?_
      refine va_get (D := D) (ci := 7) (v := .ref (q_M 0)) (C := RX7) (T := TX7) (N := 26) hx hb hts zin7 hown hK hP 0 rfl rfl 0 (by decide) (hts _ wm787) (fun _ h9 => h9) rfl dX7_bounds_53 ?_
      refine lv_iload hx hb dX7_bounds_56 (lv_at hl 7 rfl) ?_
      refine lv_iload hx hb dX7_bounds_58 (lv_at hl 8 rfl) ?_
      refine z_iadd hx hb dX7_bounds_60 ?_
      obtain ⟨g_10, h⟩ := gd_e h
      refine z_iald (n := 461) (f := c_s) (i := (x7 + x8)) hx hb hK hP 1 rfl rfl g_10 (by have := g_10.2; omega) dX7_bounds_61 ?_
      refine lv_istore (lv' := [(10, vI (c_s ((x7 + x8)).toNat)), (9, vI (c_rect (((4 * x4) + x8)).toNat)), (0, .ref h_M), (1, .ref (q_M 5)), (3, vI x3), (4, vI x4), (5, vI x5), (6, vI x6), (7, vI x7), (8, vI x8)]) hx hb dX7_bounds_62 hl (by decide) rfl (fun ls hl => ?_)
      refine lv_aload_n hx hb dX7_bounds_64 rfl (lv_at hl 2 rfl) ?_
      refine va_get (D := D) (ci := 7) (v := .ref (q_M 4)) (C := RX7) (T := TX7) (N := 26) hx hb hts zin7 hown hK hP 0 rfl rfl 7 (by decide) (hts _ wm794) (fun _ h9 => h9) rfl dX7_bounds_65 ?_
      refine lv_iconst (v := Int32.ofInt 4) hx hb dX7_bounds_68 rfl ?_
      refine lv_iload hx hb dX7_bounds_69 (lv_at hl 5 rfl) ?_
      refine z_imul hx hb dX7_bounds_71 ?_
      refine lv_iload hx hb dX7_bounds_72 (lv_at hl 9 rfl) ?_
      refine z_iadd hx hb dX7_bounds_74 ?_
      refine lv_iload hx hb dX7_bounds_75 (lv_at hl 6 rfl) ?_
      obtain ⟨g_11, h⟩ := gd_e h
      refine z_if_eq (tgt := 85) hx hb g_11 dX7_bounds_77 (by decide) (fun b_12 => ?_) (fun b_12 => ?_)
      · have h := it_p b_12 h
        refine lv_iload hx hb dX7_bounds_85 (lv_at hl 9 rfl) ?_
        refine lv_iconst (v := Int32.ofInt 2) hx hb dX7_bounds_87 rfl ?_
        refine z_icmp_ge (tgt := 101) hx hb g_7 (by decide) dX7_bounds_88 (by decide) (fun b_13 => ?_) (fun b_13 => ?_)
        · have h := it_n b_13 h
          refine lv_iload hx hb dX7_bounds_101 (lv_at hl 1 rfl) ?_
          refine lv_iload hx hb dX7_bounds_103 (lv_at hl 0 rfl) ?_
          obtain ⟨r_14, e_15, h⟩ := bd1_e h
          refine z_goi (ws' := []) (ret := r_14) (wc := ([] : va_W)) (wn := fun u_16 => (zMo cI cZ h_M q_M c_s c_past c_kept c_isKept c_pasts c_text c_typed c_rect c_item c_items c_itemLevel c_treated c_from c_group c_turn c_size c_old c_aside c_begin c_level c_asides c_sorted c_spot c_rectangles c_parts c_visited)) (wr := ([0, 1, 2, 3, 4, 5, 6, 7, 8, 9, 10, 11, 12, 13, 14, 15, 16, 17, 18].filterMap (fun i => ((zMo cI cZ h_M q_M c_s c_past c_kept c_isKept c_pasts c_text c_typed c_rect c_item c_items c_itemLevel c_treated c_from c_group c_turn c_size c_old c_aside c_begin c_level c_asides c_sorted c_spot c_rectangles c_parts c_visited))[i]?))) (va_runS (As := [vI (c_rect (((4 * x4) + x8)).toNat), vI (c_s ((x7 + x8)).toNat)]) (rest := [vI ((4 * x4) + x8), .ref (q_M 4)]) hF.1 (c_Mo_greater l D cI cZ cT (c_rect (((4 * x4) + x8)).toNat) (c_s ((x7 + x8)).toNat) H.size (r_14) e_15) (va_cwS 2 hts (zgS wm908 wm909 wm89 wm910) rfl rfl rfl (by decide +kernel) ⟨Nat.le_of_ble_eq_true rfl, Nat.le_of_ble_eq_true rfl⟩) ⟨zP.blind, zP.enter (z_subP (ws' := ([] : va_W)) hP [] rfl) hK (hD.sub [] (by decide) rfl) hN⟩ rfl rfl hl.1 rfl (lv_room (Nat.le_of_ble_eq_true rfl)) dX7_bounds_105 ⟨Nat.le_refl _, Nat.le_refl _⟩) hP hD hS hA [] [0, 1, 2, 3, 4, 5, 6, 7, 8, 9, 10, 11, 12, 13, 14, 15, 16, 17, 18] [0, 1, 2, 3, 4, 5, 6, 7, 8, 9, 10, 11, 12, 13, 14, 15, 16, 17, 18] rfl rfl (by decide) (fun _ => rfl) (fun u_16 H locs hP hD hS hz => ?_)
          refine z_iast (n := 48) (f := c_rect) (i := ((4 * x4) + x8)) (x := r_14) (ws' := (zMo cI cZ h_M q_M c_s c_past c_kept c_isKept c_pasts c_text c_typed (up c_rect ((((4 * x4) + x8)).toNat) r_14) c_item c_items c_itemLevel c_treated c_from c_group c_turn c_size c_old c_aside c_begin c_level c_asides c_sorted c_spot c_rectangles c_parts c_visited)) hx hb hK hP hD hS 5 rfl rfl g_9 (by have := g_9.2; omega) dX7_bounds_108 rfl (fun H locs hP hD hS => ?_)
          refine lv_iinc (v := Int32.ofInt (x8 + 1)) (lv' := [(8, vI (x8 + 1)), (10, vI (c_s ((x7 + x8)).toNat)), (9, vI (c_rect (((4 * x4) + x8)).toNat)), (0, .ref h_M), (1, .ref (q_M 5)), (3, vI x3), (4, vI x4), (5, vI x5), (6, vI x6), (7, vI x7)]) hx hb dX7_bounds_109 hl (k := 9) rfl (z_inc _ _) (by decide) rfl (fun ls hl => ?_)
          refine lv_goto (tgt := 32) hx hb dX7_bounds_112 (by decide) ?_
          exact ih ((x8 + 1)) ((up c_rect ((((4 * x4) + x8)).toNat) r_14)) H locs ls h hP hD hS (lv_sub hl [3, 4, 5, 6, 7, 8, 9, 0] rfl)
        · have h := it_p b_13 h
          refine lv_iload hx hb dX7_bounds_91 (lv_at hl 1 rfl) ?_
          refine lv_iload hx hb dX7_bounds_93 (lv_at hl 0 rfl) ?_
          obtain ⟨r_17, e_18, h⟩ := bd1_e h
          refine z_goi (ws' := []) (ret := r_17) (wc := ([] : va_W)) (wn := fun u_19 => (zMo cI cZ h_M q_M c_s c_past c_kept c_isKept c_pasts c_text c_typed c_rect c_item c_items c_itemLevel c_treated c_from c_group c_turn c_size c_old c_aside c_begin c_level c_asides c_sorted c_spot c_rectangles c_parts c_visited)) (wr := ([0, 1, 2, 3, 4, 5, 6, 7, 8, 9, 10, 11, 12, 13, 14, 15, 16, 17, 18].filterMap (fun i => ((zMo cI cZ h_M q_M c_s c_past c_kept c_isKept c_pasts c_text c_typed c_rect c_item c_items c_itemLevel c_treated c_from c_group c_turn c_size c_old c_aside c_begin c_level c_asides c_sorted c_spot c_rectangles c_parts c_visited))[i]?))) (va_runS (As := [vI (c_rect (((4 * x4) + x8)).toNat), vI (c_s ((x7 + x8)).toNat)]) (rest := [vI ((4 * x4) + x8), .ref (q_M 4)]) hF.1 (c_Mo_less l D cI cZ cT (c_rect (((4 * x4) + x8)).toNat) (c_s ((x7 + x8)).toNat) H.size (r_17) e_18) (va_cwS 2 hts (zgS wm905 wm906 wm89 wm907) rfl rfl rfl (by decide +kernel) ⟨Nat.le_of_ble_eq_true rfl, Nat.le_of_ble_eq_true rfl⟩) ⟨zP.blind, zP.enter (z_subP (ws' := ([] : va_W)) hP [] rfl) hK (hD.sub [] (by decide) rfl) hN⟩ rfl rfl hl.1 rfl (lv_room (Nat.le_of_ble_eq_true rfl)) dX7_bounds_95 ⟨Nat.le_refl _, Nat.le_refl _⟩) hP hD hS hA [] [0, 1, 2, 3, 4, 5, 6, 7, 8, 9, 10, 11, 12, 13, 14, 15, 16, 17, 18] [0, 1, 2, 3, 4, 5, 6, 7, 8, 9, 10, 11, 12, 13, 14, 15, 16, 17, 18] rfl rfl (by decide) (fun _ => rfl) (fun u_19 H locs hP hD hS hz => ?_)
          refine lv_goto (tgt := 108) hx hb dX7_bounds_98 (by decide) ?_
          refine z_iast (n := 48) (f := c_rect) (i := ((4 * x4) + x8)) (x := r_17) (ws' := (zMo cI cZ h_M q_M c_s c_past c_kept c_isKept c_pasts c_text c_typed (up c_rect ((((4 * x4) + x8)).toNat) r_17) c_item c_items c_itemLevel c_treated c_from c_group c_turn c_size c_old c_aside c_begin c_level c_asides c_sorted c_spot c_rectangles c_parts c_visited)) hx hb hK hP hD hS 5 rfl rfl g_9 (by have := g_9.2; omega) dX7_bounds_108 rfl (fun H locs hP hD hS => ?_)
          refine lv_iinc (v := Int32.ofInt (x8 + 1)) (lv' := [(8, vI (x8 + 1)), (10, vI (c_s ((x7 + x8)).toNat)), (9, vI (c_rect (((4 * x4) + x8)).toNat)), (0, .ref h_M), (1, .ref (q_M 5)), (3, vI x3), (4, vI x4), (5, vI x5), (6, vI x6), (7, vI x7)]) hx hb dX7_bounds_109 hl (k := 9) rfl (z_inc _ _) (by decide) rfl (fun ls hl => ?_)
          refine lv_goto (tgt := 32) hx hb dX7_bounds_112 (by decide) ?_
          exact ih ((x8 + 1)) ((up c_rect ((((4 * x4) + x8)).toNat) r_17)) H locs ls h hP hD hS (lv_sub hl [3, 4, 5, 6, 7, 8, 9, 0] rfl)
      · have h := it_n b_12 h
        refine lv_iload hx hb dX7_bounds_80 (lv_at hl 0 rfl) ?_
        refine lv_goto (tgt := 108) hx hb dX7_bounds_82 (by decide) ?_
        refine z_iast (n := 48) (f := c_rect) (i := ((4 * x4) + x8)) (x := (c_s ((x7 + x8)).toNat)) (ws' := (zMo cI cZ h_M q_M c_s c_past c_kept c_isKept c_pasts c_text c_typed (up c_rect ((((4 * x4) + x8)).toNat) (c_s ((x7 + x8)).toNat)) c_item c_items c_itemLevel c_treated c_from c_group c_turn c_size c_old c_aside c_begin c_level c_asides c_sorted c_spot c_rectangles c_parts c_visited)) hx hb hK hP hD hS 5 rfl rfl g_9 (by have := g_9.2; omega) dX7_bounds_108 rfl (fun H locs hP hD hS => ?_)
        refine lv_iinc (v := Int32.ofInt (x8 + 1)) (lv' := [(8, vI (x8 + 1)), (10, vI (c_s ((x7 + x8)).toNat)), (9, vI (c_rect (((4 * x4) + x8)).toNat)), (0, .ref h_M), (1, .ref (q_M 5)), (3, vI x3), (4, vI x4), (5, vI x5), (6, vI x6), (7, vI x7)]) hx hb dX7_bounds_109 hl (k := 9) rfl (z_inc _ _) (by decide) rfl (fun ls hl => ?_)
        refine lv_goto (tgt := 32) hx hb dX7_bounds_112 (by decide) ?_
        exact ih ((x8 + 1)) ((up c_rect ((((4 * x4) + x8)).toNat) (c_s ((x7 + x8)).toNat))) H locs ls h hP hD hS (lv_sub hl [3, 4, 5, 6, 7, 8, 9, 0] rfl)
set_option maxHeartbeats 4000000 in
set_option maxRecDepth 100000 in
theorem w_Mo_bounds_item_L6 {p : Program} {l : Launch} {e : Env} {s : State} {m : MethodId} {args : Array Value} {below : List Frame} {meth : Method} {c : Code} {A : Nat → Prop} (D : va_G) (cI cZ cT : ClassId) (h_M : Nat) (q_M : Nat → Nat) (c_s : Nat → Int) (c_past : Nat → Int) (c_kept : Nat → Int) (c_isKept : Int) (c_pasts : Int) (c_text : Nat → Int) (c_typed : Int) (c_item : Nat → Int) (c_items : Int) (c_itemLevel : Int) (c_treated : Nat → Int) (c_from : Nat → Int) (c_group : Nat → Int) (c_turn : Nat → Int) (c_size : Nat → Int) (c_old : Nat → Int) (c_aside : Nat → Int) (c_begin : Nat → Int) (c_level : Nat → Int) (c_asides : Int) (c_sorted : Nat → Int) (c_spot : Int) (c_rectangles : Int) (c_parts : Nat → Int) (c_visited : Nat → Int) (x3 : Int) (x4 : Int) (res : (Nat → Int)) (k : Int → Int → (Nat → Int) → Option ((Nat → Int))) (hF : zF p m c cX7_bounds 11 s args yX7_bounds.cls meth none yX7_bounds.name A D (zt cI cZ cT))
    (hk : ∀ (x5 : Int) (x6 : Int) (c_rect : Nat → Int) (H : Heap) (locs : List Loc) (ls : Array Slot), k x5 x6 c_rect = some res → va_P D vwCl ((zMo cI cZ h_M q_M c_s c_past c_kept c_isKept c_pasts c_text c_typed c_rect c_item c_items c_itemLevel c_treated c_from c_group c_turn c_size c_old c_aside c_begin c_level c_asides c_sorted c_spot c_rectangles c_parts c_visited)) H → va_D A ((zMo cI cZ h_M q_M c_s c_past c_kept c_isKept c_pasts c_text c_typed c_rect c_item c_items c_itemLevel c_treated c_from c_group c_turn c_size c_old c_aside c_begin c_level c_asides c_sorted c_spot c_rectangles c_parts c_visited)) → va_S A s.heap H locs → lv_has ls 11 [] → W p l e rm_Mo_bounds_item s m args below meth c H locs 0 0 (MQ below (zQv D (fun u => (zMo cI cZ h_M q_M c_s c_past c_kept c_isKept c_pasts c_text c_typed (res) c_item c_items c_itemLevel c_treated c_from c_group c_turn c_size c_old c_aside c_begin c_level c_asides c_sorted c_spot c_rectangles c_parts c_visited)) A) args s 0 0 A) (F0 m 124 ls [])) :
    ∀ (n : Nat) (x5 : Int) (x6 : Int) (c_rect : Nat → Int) (H : Heap) (locs : List Loc) (ls : Array Slot), f_Mo_bounds_item_L6 c_s c_item x3 x4 k n x5 x6 c_rect = some res → va_P D vwCl ((zMo cI cZ h_M q_M c_s c_past c_kept c_isKept c_pasts c_text c_typed c_rect c_item c_items c_itemLevel c_treated c_from c_group c_turn c_size c_old c_aside c_begin c_level c_asides c_sorted c_spot c_rectangles c_parts c_visited)) H → va_D A ((zMo cI cZ h_M q_M c_s c_past c_kept c_isKept c_pasts c_text c_typed c_rect c_item c_items c_itemLevel c_treated c_from c_group c_turn c_size c_old c_aside c_begin c_level c_asides c_sorted c_spot c_rectangles c_parts c_visited)) → va_S A s.heap H locs → lv_has ls 11 [(0, .ref h_M), (1, .ref (q_M 5)), (3, vI x3), (4, vI x4), (5, vI x5), (6, vI x6)] → W p l e rm_Mo_bounds_item s m args below meth c H locs 0 0 (MQ below (zQv D (fun u => (zMo cI cZ h_M q_M c_s c_past c_kept c_isKept c_pasts c_text c_typed (res) c_item c_items c_itemLevel c_treated c_from c_group c_turn c_size c_old c_aside c_begin c_level c_asides c_sorted c_spot c_rectangles c_parts c_visited)) A) args s 0 0 A) (F0 m 6 ls []) := by
  have hx := hF.1.1
  have hb := hF.1.2.1
  have hml := hF.1.2.2.1
  have hown : s.vm.findClass "RectangleTreeModel" = some m.cls := hF.1.2.2.2.1
  have hts := hF.1.2.2.2.2
  have hr := hF.2.1
  have hlk := hF.2.2.1
  have hK := hF.2.2.2.2.1
  have hN := hF.2.2.2.2.2.1
  have hA := hF.2.2.2.2.2.2
  intro n
  induction n with
  | zero => intro x5 x6 c_rect H locs ls h; cases h
  | succ n ih =>
    intro x5 x6 c_rect H locs ls h hP hD hS hl
    rw [f_Mo_bounds_item_L6] at h
    refine lv_iload hx hb dX7_bounds_6 (lv_at hl 5 rfl) ?_
    refine lv_iload_n hx hb dX7_bounds_8 rfl (lv_at hl 2 rfl) ?_
    obtain ⟨g_1, h⟩ := gd_e h
    obtain ⟨g_2, h⟩ := gd_e h
    refine z_icmp_ge (tgt := 124) hx hb g_1 g_2 dX7_bounds_9 (by decide) (fun b_3 => ?_) (fun b_3 => ?_)
    · have h := it_n b_3 h
      exact hk (x5) (x6) (c_rect) H locs ls h hP hD hS (lv_sub hl [] rfl)
    · have h := it_p b_3 h
      refine lv_aload_n hx hb dX7_bounds_12 rfl (lv_at hl 1 rfl) ?_
      refine lv_iload hx hb dX7_bounds_13 (lv_at hl 5 rfl) ?_
      obtain ⟨g_4, h⟩ := gd_e h
      refine z_iald (n := 360) (f := c_item) (i := x6) hx hb hK hP 6 rfl rfl g_4 (by have := g_4.2; omega) dX7_bounds_15 ?_
      obtain ⟨g_5, h⟩ := gd_e h
      refine z_if_lt (tgt := 118) hx hb g_5 dX7_bounds_16 (by decide) (fun b_6 => ?_) (fun b_6 => ?_)
      · have h := it_p b_6 h
        refine lv_iinc (v := Int32.ofInt (x6 + 1)) (lv' := [(6, vI (x6 + 1)), (0, .ref h_M), (1, .ref (q_M 5)), (3, vI x3), (4, vI x4), (5, vI x5)]) hx hb dX7_bounds_118 hl (k := 5) rfl (z_inc _ _) (by decide) rfl (fun ls hl => ?_)
        refine lv_goto (tgt := 6) hx hb dX7_bounds_121 (by decide) ?_
        exact ih (x5) ((x6 + 1)) (c_rect) H locs ls h hP hD hS (lv_sub hl [1, 2, 3, 4, 5, 0] rfl)
      · have h := it_n b_6 h
        refine lv_iconst (v := Int32.ofInt 5) hx hb dX7_bounds_19 rfl ?_
        refine lv_iconst (v := Int32.ofInt 4) hx hb dX7_bounds_20 rfl ?_
        refine lv_aload_n hx hb dX7_bounds_21 rfl (lv_at hl 1 rfl) ?_
        refine lv_iload hx hb dX7_bounds_22 (lv_at hl 5 rfl) ?_
        refine z_iald (n := 360) (f := c_item) (i := x6) hx hb hK hP 6 rfl rfl g_4 (by have := g_4.2; omega) dX7_bounds_24 ?_
        refine z_imul hx hb dX7_bounds_25 ?_
        refine z_iadd hx hb dX7_bounds_26 ?_
        refine lv_istore (lv' := [(7, vI (5 + (4 * (c_item (x6).toNat)))), (0, .ref h_M), (1, .ref (q_M 5)), (3, vI x3), (4, vI x4), (5, vI x5), (6, vI x6)]) hx hb dX7_bounds_27 hl (by decide) rfl (fun ls hl => ?_)
        refine lv_iconst (v := Int32.ofInt 0) hx hb dX7_bounds_29 rfl ?_
        refine lv_istore (lv' := [(8, vI 0), (7, vI (5 + (4 * (c_item (x6).toNat)))), (0, .ref h_M), (1, .ref (q_M 5)), (3, vI x3), (4, vI x4), (5, vI x5), (6, vI x6)]) hx hb dX7_bounds_30 hl (by decide) rfl (fun ls hl => ?_)
        refine w_Mo_bounds_item_L32 D cI cZ cT (h_M) (q_M) (c_s) (c_past) (c_kept) (c_isKept) (c_pasts) (c_text) (c_typed) (c_item) (c_items) (c_itemLevel) (c_treated) (c_from) (c_group) (c_turn) (c_size) (c_old) (c_aside) (c_begin) (c_level) (c_asides) (c_sorted) (c_spot) (c_rectangles) (c_parts) (c_visited) (x3) (x4) (x5) (x6) ((5 + (4 * (c_item (x6).toNat)))) _ _ hF (fun x8_20 c_rect_21 H locs ls h hP hD hS hl => ?_) _ (0) (c_rect) _ _ _ h hP hD hS (lv_sub hl [2, 3, 4, 5, 6, 7, 1, 0] rfl)
        refine lv_iconst (v := Int32.ofInt 0) hx hb dX7_bounds_115 rfl ?_
        refine lv_istore (lv' := [(5, vI 0), (0, .ref h_M), (1, .ref (q_M 5)), (3, vI x3), (4, vI x4), (6, vI x6)]) hx hb dX7_bounds_116 hl (by decide) rfl (fun ls hl => ?_)
        refine lv_iinc (v := Int32.ofInt (x6 + 1)) (lv' := [(6, vI (x6 + 1)), (5, vI 0), (0, .ref h_M), (1, .ref (q_M 5)), (3, vI x3), (4, vI x4)]) hx hb dX7_bounds_118 hl (k := 5) rfl (z_inc _ _) (by decide) rfl (fun ls hl => ?_)
        refine lv_goto (tgt := 6) hx hb dX7_bounds_121 (by decide) ?_
        exact ih (0) ((x6 + 1)) (c_rect_21) H locs ls h hP hD hS (lv_sub hl [2, 3, 4, 5, 1, 0] rfl)
set_option maxHeartbeats 4000000 in
set_option maxRecDepth 100000 in
theorem c_Mo_bounds_item (l : Launch) (D : va_G) (cI cZ cT : ClassId) (h_M : Nat) (q_M : Nat → Nat) (c_s : Nat → Int) (c_past : Nat → Int) (c_kept : Nat → Int) (c_isKept : Int) (c_pasts : Int) (c_text : Nat → Int) (c_typed : Int) (c_rect : Nat → Int) (c_item : Nat → Int) (c_items : Int) (c_itemLevel : Int) (c_treated : Nat → Int) (c_from : Nat → Int) (c_group : Nat → Int) (c_turn : Nat → Int) (c_size : Nat → Int) (c_old : Nat → Int) (c_aside : Nat → Int) (c_begin : Nat → Int) (c_level : Nat → Int) (c_asides : Int) (c_sorted : Nat → Int) (c_spot : Int) (c_rectangles : Int) (c_parts : Nat → Int) (c_visited : Nat → Int) (x2 : Int) (x3 : Int) (x4 : Int) (sz : Nat) (res : (Nat → Int)) (h : f_Mo_bounds_item c_s c_rect c_item x2 x3 x4 = some res) : zMv l yX7_bounds cX7_bounds 11 rm_Mo_bounds_item D (zt cI cZ cT) [.ref h_M, .ref (q_M 5), vI x2, vI x3, vI x4] ((zMo cI cZ h_M q_M c_s c_past c_kept c_isKept c_pasts c_text c_typed c_rect c_item c_items c_itemLevel c_treated c_from c_group c_turn c_size c_old c_aside c_begin c_level c_asides c_sorted c_spot c_rectangles c_parts c_visited)) sz (fun u => (zMo cI cZ h_M q_M c_s c_past c_kept c_isKept c_pasts c_text c_typed (res) c_item c_items c_itemLevel c_treated c_from c_group c_turn c_size c_old c_aside c_begin c_level c_asides c_sorted c_spot c_rectangles c_parts c_visited)) 0 0 := by
  refine z_enth (Qc := zQv D (fun u => (zMo cI cZ h_M q_M c_s c_past c_kept c_isKept c_pasts c_text c_typed (res) c_item c_items c_itemLevel c_treated c_from c_group c_turn c_size c_old c_aside c_begin c_level c_asides c_sorted c_spot c_rectangles c_parts c_visited))) (by decide) (Nat.le_of_ble_eq_true rfl) (fun p e s m args below meth c A ls H locs hF hP hD hS hl => ?_)
  have hx := hF.1.1
  have hb := hF.1.2.1
  have hml := hF.1.2.2.1
  have hown : s.vm.findClass "RectangleTreeModel" = some m.cls := hF.1.2.2.2.1
  have hts := hF.1.2.2.2.2
  have hr := hF.2.1
  have hlk := hF.2.2.1
  have hK := hF.2.2.2.2.1
  have hN := hF.2.2.2.2.2.1
  have hA := hF.2.2.2.2.2.2
  unfold f_Mo_bounds_item at h
  refine lv_iconst (v := Int32.ofInt 1) hx hb dX7_bounds_0 rfl ?_
  refine lv_istore (lv' := [(5, vI 1), (0, .ref h_M), (1, .ref (q_M 5)), (2, vI x2), (3, vI x3), (4, vI x4)]) hx hb dX7_bounds_1 hl (by decide) rfl (fun ls hl => ?_)
  refine lv_iload_n hx hb dX7_bounds_3 rfl (lv_at hl 3 rfl) ?_
  refine lv_istore (lv' := [(6, vI x2), (5, vI 1), (0, .ref h_M), (1, .ref (q_M 5)), (2, vI x2), (3, vI x3), (4, vI x4)]) hx hb dX7_bounds_4 hl (by decide) rfl (fun ls hl => ?_)
  refine w_Mo_bounds_item_L6 D cI cZ cT (h_M) (q_M) (c_s) (c_past) (c_kept) (c_isKept) (c_pasts) (c_text) (c_typed) (c_item) (c_items) (c_itemLevel) (c_treated) (c_from) (c_group) (c_turn) (c_size) (c_old) (c_aside) (c_begin) (c_level) (c_asides) (c_sorted) (c_spot) (c_rectangles) (c_parts) (c_visited) (x3) (x4) _ _ hF (fun x5_22 x6_23 c_rect_24 H locs ls h hP hD hS hl => ?_) _ (1) (x2) (c_rect) _ _ _ h hP hD hS (lv_sub hl [2, 3, 5, 6, 1, 0] rfl)
  obtain rfl := Option.some.inj h
  exact z_vret hx hb hr hlk (fun _ _ => 0) hP hD hS dX7_bounds_124
def f_Mo_boundsAt (c_s : Nat → Int) (c_rect : Nat → Int) (x1 : Int) (x2 : Int) : Option ((Nat → Int)) :=
  bd1 (f_Mo_endOf c_s x1) <| fun r_1 => bd1 (f_Mo_bounds_s c_s c_rect (101 + x1) (101 + r_1) x2) <| fun c_rect_4 => some (c_rect_4)
abbrev rm_Mo_boundsAt : Room := ({ frames := 3, cells := 0, slots := 0, locals := 64 } : Room)
set_option maxHeartbeats 4000000 in
set_option maxRecDepth 100000 in
theorem c_Mo_boundsAt (l : Launch) (D : va_G) (cI cZ cT : ClassId) (h_M : Nat) (q_M : Nat → Nat) (c_s : Nat → Int) (c_past : Nat → Int) (c_kept : Nat → Int) (c_isKept : Int) (c_pasts : Int) (c_text : Nat → Int) (c_typed : Int) (c_rect : Nat → Int) (c_item : Nat → Int) (c_items : Int) (c_itemLevel : Int) (c_treated : Nat → Int) (c_from : Nat → Int) (c_group : Nat → Int) (c_turn : Nat → Int) (c_size : Nat → Int) (c_old : Nat → Int) (c_aside : Nat → Int) (c_begin : Nat → Int) (c_level : Nat → Int) (c_asides : Int) (c_sorted : Nat → Int) (c_spot : Int) (c_rectangles : Int) (c_parts : Nat → Int) (c_visited : Nat → Int) (x1 : Int) (x2 : Int) (sz : Nat) (res : (Nat → Int)) (h : f_Mo_boundsAt c_s c_rect x1 x2 = some res) : zMv l yX7_boundsAt cX7_boundsAt 3 rm_Mo_boundsAt D (zt cI cZ cT) [.ref h_M, vI x1, vI x2] ((zMo cI cZ h_M q_M c_s c_past c_kept c_isKept c_pasts c_text c_typed c_rect c_item c_items c_itemLevel c_treated c_from c_group c_turn c_size c_old c_aside c_begin c_level c_asides c_sorted c_spot c_rectangles c_parts c_visited)) sz (fun u => (zMo cI cZ h_M q_M c_s c_past c_kept c_isKept c_pasts c_text c_typed (res) c_item c_items c_itemLevel c_treated c_from c_group c_turn c_size c_old c_aside c_begin c_level c_asides c_sorted c_spot c_rectangles c_parts c_visited)) 0 0 := by
  refine z_enth (Qc := zQv D (fun u => (zMo cI cZ h_M q_M c_s c_past c_kept c_isKept c_pasts c_text c_typed (res) c_item c_items c_itemLevel c_treated c_from c_group c_turn c_size c_old c_aside c_begin c_level c_asides c_sorted c_spot c_rectangles c_parts c_visited))) (by decide) (Nat.le_of_ble_eq_true rfl) (fun p e s m args below meth c A ls H locs hF hP hD hS hl => ?_)
  have hx := hF.1.1
  have hb := hF.1.2.1
  have hml := hF.1.2.2.1
  have hown : s.vm.findClass "RectangleTreeModel" = some m.cls := hF.1.2.2.2.1
  have hts := hF.1.2.2.2.2
  have hr := hF.2.1
  have hlk := hF.2.2.1
  have hK := hF.2.2.2.2.1
  have hN := hF.2.2.2.2.2.1
  have hA := hF.2.2.2.2.2.2
  unfold f_Mo_boundsAt at h
  refine lv_aload_n hx hb dX7_boundsAt_0 rfl (lv_at hl 0 rfl) ?_
  refine lv_aload_n hx hb dX7_boundsAt_1 rfl (lv_at hl 0 rfl) ?_
  refine va_get (D := D) (ci := 7) (v := .ref (q_M 0)) (C := RX7) (T := TX7) (N := 26) hx hb hts zin7 hown hK hP 0 rfl rfl 0 (by decide) (hts _ wm787) (fun _ h9 => h9) rfl dX7_boundsAt_2 ?_
  refine lv_bipush (v := Int32.ofInt 101) hx hb dX7_boundsAt_5 (by decide +kernel) ?_
  refine lv_iload_n hx hb dX7_boundsAt_7 rfl (lv_at hl 1 rfl) ?_
  refine z_iadd hx hb dX7_boundsAt_8 ?_
  refine lv_bipush (v := Int32.ofInt 101) hx hb dX7_boundsAt_9 (by decide +kernel) ?_
  refine lv_aload_n hx hb dX7_boundsAt_11 rfl (lv_at hl 0 rfl) ?_
  refine lv_iload_n hx hb dX7_boundsAt_12 rfl (lv_at hl 1 rfl) ?_
  obtain ⟨r_1, e_2, h⟩ := bd1_e h
  refine z_goi (ws' := []) (ret := r_1) (wc := (zMo cI cZ (h_M) (q_M) (c_s) (c_past) (c_kept) (c_isKept) (c_pasts) (c_text) (c_typed) (c_rect) (c_item) (c_items) (c_itemLevel) (c_treated) (c_from) (c_group) (c_turn) (c_size) (c_old) (c_aside) (c_begin) (c_level) (c_asides) (c_sorted) (c_spot) (c_rectangles) (c_parts) (c_visited))) (wn := fun u_3 => (zMo cI cZ h_M q_M c_s c_past c_kept c_isKept c_pasts c_text c_typed c_rect c_item c_items c_itemLevel c_treated c_from c_group c_turn c_size c_old c_aside c_begin c_level c_asides c_sorted c_spot c_rectangles c_parts c_visited)) (wr := []) (va_runV (As := [vI x1]) (rest := [vI 101, vI (101 + x1), .ref (q_M 0), .ref h_M]) hF.1 (c_Mo_endOf l D cI cZ cT h_M q_M c_s c_past c_kept c_isKept c_pasts c_text c_typed c_rect c_item c_items c_itemLevel c_treated c_from c_group c_turn c_size c_old c_aside c_begin c_level c_asides c_sorted c_spot c_rectangles c_parts c_visited x1 H.size (r_1) e_2) (cwV 1 hts (zgV wm922 wm924 wm40 wm89 wm925) rfl rfl rfl (by decide +kernel) ⟨Nat.le_of_ble_eq_true rfl, Nat.le_of_ble_eq_true rfl⟩) ⟨zP.blind, va_recv hK (z_subP (ws' := (zMo cI cZ (h_M) (q_M) (c_s) (c_past) (c_kept) (c_isKept) (c_pasts) (c_text) (c_typed) (c_rect) (c_item) (c_items) (c_itemLevel) (c_treated) (c_from) (c_group) (c_turn) (c_size) (c_old) (c_aside) (c_begin) (c_level) (c_asides) (c_sorted) (c_spot) (c_rectangles) (c_parts) (c_visited))) hP [0, 1, 2, 3, 4, 5, 6, 7, 8, 9, 10, 11, 12, 13, 14, 15, 16, 17, 18] rfl) (ci := 7) (q0 := 0) rfl rfl, zP.enter (z_subP (ws' := (zMo cI cZ (h_M) (q_M) (c_s) (c_past) (c_kept) (c_isKept) (c_pasts) (c_text) (c_typed) (c_rect) (c_item) (c_items) (c_itemLevel) (c_treated) (c_from) (c_group) (c_turn) (c_size) (c_old) (c_aside) (c_begin) (c_level) (c_asides) (c_sorted) (c_spot) (c_rectangles) (c_parts) (c_visited))) hP [0, 1, 2, 3, 4, 5, 6, 7, 8, 9, 10, 11, 12, 13, 14, 15, 16, 17, 18] rfl) hK (hD.sub [0, 1, 2, 3, 4, 5, 6, 7, 8, 9, 10, 11, 12, 13, 14, 15, 16, 17, 18] (by decide) rfl) hN⟩ rfl rfl hl.1 rfl (lv_room (Nat.le_of_ble_eq_true rfl)) dX7_boundsAt_13 ⟨Nat.le_refl _, Nat.le_refl _⟩) hP hD hS hA [0, 1, 2, 3, 4, 5, 6, 7, 8, 9, 10, 11, 12, 13, 14, 15, 16, 17, 18] [] [0, 1, 2, 3, 4, 5, 6, 7, 8, 9, 10, 11, 12, 13, 14, 15, 16, 17, 18] rfl rfl (by decide) (fun _ => rfl) (fun u_3 H locs hP hD hS hz => ?_)
  refine z_iadd hx hb dX7_boundsAt_16 ?_
  refine lv_iload_n hx hb dX7_boundsAt_17 rfl (lv_at hl 2 rfl) ?_
  obtain ⟨c_rect_4, e_5, h⟩ := bd1_e h
  refine z_gov (wc := (zMo cI cZ (h_M) (q_M) (c_s) (c_past) (c_kept) (c_isKept) (c_pasts) (c_text) (c_typed) (c_rect) (c_item) (c_items) (c_itemLevel) (c_treated) (c_from) (c_group) (c_turn) (c_size) (c_old) (c_aside) (c_begin) (c_level) (c_asides) (c_sorted) (c_spot) (c_rectangles) (c_parts) (c_visited))) (wn := fun u_6 => (zMo cI cZ h_M q_M c_s c_past c_kept c_isKept c_pasts c_text c_typed c_rect_4 c_item c_items c_itemLevel c_treated c_from c_group c_turn c_size c_old c_aside c_begin c_level c_asides c_sorted c_spot c_rectangles c_parts c_visited)) (wr := []) (va_runV (As := [.ref (q_M 0), vI (101 + x1), vI (101 + r_1), vI x2]) (rest := []) hF.1 (c_Mo_bounds_s l D cI cZ cT h_M q_M c_s c_past c_kept c_isKept c_pasts c_text c_typed c_rect c_item c_items c_itemLevel c_treated c_from c_group c_turn c_size c_old c_aside c_begin c_level c_asides c_sorted c_spot c_rectangles c_parts c_visited (101 + x1) (101 + r_1) x2 H.size (c_rect_4) e_5) (cwV 4 hts (zgV wm901 wm903 wm37 wm89 wm904) rfl rfl rfl (by decide +kernel) ⟨Nat.le_of_ble_eq_true rfl, Nat.le_of_ble_eq_true rfl⟩) ⟨zP.blind, va_recv hK (z_subP (ws' := (zMo cI cZ (h_M) (q_M) (c_s) (c_past) (c_kept) (c_isKept) (c_pasts) (c_text) (c_typed) (c_rect) (c_item) (c_items) (c_itemLevel) (c_treated) (c_from) (c_group) (c_turn) (c_size) (c_old) (c_aside) (c_begin) (c_level) (c_asides) (c_sorted) (c_spot) (c_rectangles) (c_parts) (c_visited))) hP [0, 1, 2, 3, 4, 5, 6, 7, 8, 9, 10, 11, 12, 13, 14, 15, 16, 17, 18] rfl) (ci := 7) (q0 := 0) rfl rfl, zP.enter (z_subP (ws' := (zMo cI cZ (h_M) (q_M) (c_s) (c_past) (c_kept) (c_isKept) (c_pasts) (c_text) (c_typed) (c_rect) (c_item) (c_items) (c_itemLevel) (c_treated) (c_from) (c_group) (c_turn) (c_size) (c_old) (c_aside) (c_begin) (c_level) (c_asides) (c_sorted) (c_spot) (c_rectangles) (c_parts) (c_visited))) hP [0, 1, 2, 3, 4, 5, 6, 7, 8, 9, 10, 11, 12, 13, 14, 15, 16, 17, 18] rfl) hK (hD.sub [0, 1, 2, 3, 4, 5, 6, 7, 8, 9, 10, 11, 12, 13, 14, 15, 16, 17, 18] (by decide) rfl) hN⟩ rfl rfl hl.1 rfl (lv_room (Nat.le_of_ble_eq_true rfl)) dX7_boundsAt_18 ⟨Nat.le_refl _, Nat.le_refl _⟩) hP hD hS hA [0, 1, 2, 3, 4, 5, 6, 7, 8, 9, 10, 11, 12, 13, 14, 15, 16, 17, 18] [] [0, 1, 2, 3, 4, 5, 6, 7, 8, 9, 10, 11, 12, 13, 14, 15, 16, 17, 18] rfl rfl (by decide) (fun _ => rfl) (fun u_6 H locs hP hD hS hz => ?_)
  obtain rfl := Option.some.inj h
  exact z_vret hx hb hr hlk (fun _ _ => 0) hP hD hS dX7_boundsAt_21
def f_Mo_areaOf (c_rect : Nat → Int) (x1 : Int) : Option (Int) :=
  gd (0 ≤ ((4 * x1) + 2) ∧ ((4 * x1) + 2) < ((48 : Nat) : Int)) <| gd (0 ≤ (4 * x1) ∧ (4 * x1) < ((48 : Nat) : Int)) <| gd (0 ≤ ((4 * x1) + 3) ∧ ((4 * x1) + 3) < ((48 : Nat) : Int)) <| gd (0 ≤ ((4 * x1) + 1) ∧ ((4 * x1) + 1) < ((48 : Nat) : Int)) <| some (((((c_rect (((4 * x1) + 2)).toNat) - (c_rect ((4 * x1)).toNat)) + 1) * (((c_rect (((4 * x1) + 3)).toNat) - (c_rect (((4 * x1) + 1)).toNat)) + 1)))
abbrev rm_Mo_areaOf : Room := ({ frames := 0, cells := 0, slots := 0, locals := 0 } : Room)
set_option maxHeartbeats 4000000 in
set_option maxRecDepth 100000 in
theorem c_Mo_areaOf (l : Launch) (D : va_G) (cI cZ cT : ClassId) (h_M : Nat) (q_M : Nat → Nat) (c_s : Nat → Int) (c_past : Nat → Int) (c_kept : Nat → Int) (c_isKept : Int) (c_pasts : Int) (c_text : Nat → Int) (c_typed : Int) (c_rect : Nat → Int) (c_item : Nat → Int) (c_items : Int) (c_itemLevel : Int) (c_treated : Nat → Int) (c_from : Nat → Int) (c_group : Nat → Int) (c_turn : Nat → Int) (c_size : Nat → Int) (c_old : Nat → Int) (c_aside : Nat → Int) (c_begin : Nat → Int) (c_level : Nat → Int) (c_asides : Int) (c_sorted : Nat → Int) (c_spot : Int) (c_rectangles : Int) (c_parts : Nat → Int) (c_visited : Nat → Int) (x1 : Int) (sz : Nat) (res : Int) (h : f_Mo_areaOf c_rect x1 = some res) : zMi l yX7_areaOf cX7_areaOf 3 rm_Mo_areaOf D (zt cI cZ cT) [.ref h_M, vI x1] ((zMo cI cZ h_M q_M c_s c_past c_kept c_isKept c_pasts c_text c_typed c_rect c_item c_items c_itemLevel c_treated c_from c_group c_turn c_size c_old c_aside c_begin c_level c_asides c_sorted c_spot c_rectangles c_parts c_visited)) sz (res) (fun u => (zMo cI cZ h_M q_M c_s c_past c_kept c_isKept c_pasts c_text c_typed c_rect c_item c_items c_itemLevel c_treated c_from c_group c_turn c_size c_old c_aside c_begin c_level c_asides c_sorted c_spot c_rectangles c_parts c_visited)) 0 0 := by
  refine z_enth (Qc := zQi D (res) (fun u => (zMo cI cZ h_M q_M c_s c_past c_kept c_isKept c_pasts c_text c_typed c_rect c_item c_items c_itemLevel c_treated c_from c_group c_turn c_size c_old c_aside c_begin c_level c_asides c_sorted c_spot c_rectangles c_parts c_visited))) (by decide) (Nat.le_of_ble_eq_true rfl) (fun p e s m args below meth c A ls H locs hF hP hD hS hl => ?_)
  have hx := hF.1.1
  have hb := hF.1.2.1
  have hml := hF.1.2.2.1
  have hown : s.vm.findClass "RectangleTreeModel" = some m.cls := hF.1.2.2.2.1
  have hts := hF.1.2.2.2.2
  have hr := hF.2.1
  have hlk := hF.2.2.1
  have hK := hF.2.2.2.2.1
  have hN := hF.2.2.2.2.2.1
  have hA := hF.2.2.2.2.2.2
  unfold f_Mo_areaOf at h
  refine lv_iconst (v := Int32.ofInt 4) hx hb dX7_areaOf_0 rfl ?_
  refine lv_iload_n hx hb dX7_areaOf_1 rfl (lv_at hl 1 rfl) ?_
  refine z_imul hx hb dX7_areaOf_2 ?_
  refine lv_istore_n (lv' := [(2, vI (4 * x1)), (0, .ref h_M), (1, vI x1)]) hx hb dX7_areaOf_3 rfl hl (by decide) rfl (fun ls hl => ?_)
  refine lv_aload_n hx hb dX7_areaOf_4 rfl (lv_at hl 1 rfl) ?_
  refine va_get (D := D) (ci := 7) (v := .ref (q_M 4)) (C := RX7) (T := TX7) (N := 26) hx hb hts zin7 hown hK hP 0 rfl rfl 7 (by decide) (hts _ wm794) (fun _ h9 => h9) rfl dX7_areaOf_5 ?_
  refine lv_iload_n hx hb dX7_areaOf_8 rfl (lv_at hl 0 rfl) ?_
  refine lv_iconst (v := Int32.ofInt 2) hx hb dX7_areaOf_9 rfl ?_
  refine z_iadd hx hb dX7_areaOf_10 ?_
  obtain ⟨g_1, h⟩ := gd_e h
  refine z_iald (n := 48) (f := c_rect) (i := ((4 * x1) + 2)) hx hb hK hP 5 rfl rfl g_1 (by have := g_1.2; omega) dX7_areaOf_11 ?_
  refine lv_aload_n hx hb dX7_areaOf_12 rfl (lv_at hl 1 rfl) ?_
  refine va_get (D := D) (ci := 7) (v := .ref (q_M 4)) (C := RX7) (T := TX7) (N := 26) hx hb hts zin7 hown hK hP 0 rfl rfl 7 (by decide) (hts _ wm794) (fun _ h9 => h9) rfl dX7_areaOf_13 ?_
  refine lv_iload_n hx hb dX7_areaOf_16 rfl (lv_at hl 0 rfl) ?_
  obtain ⟨g_2, h⟩ := gd_e h
  refine z_iald (n := 48) (f := c_rect) (i := (4 * x1)) hx hb hK hP 5 rfl rfl g_2 (by have := g_2.2; omega) dX7_areaOf_17 ?_
  refine z_isub hx hb dX7_areaOf_18 ?_
  refine lv_iconst (v := Int32.ofInt 1) hx hb dX7_areaOf_19 rfl ?_
  refine z_iadd hx hb dX7_areaOf_20 ?_
  refine lv_aload_n hx hb dX7_areaOf_21 rfl (lv_at hl 1 rfl) ?_
  refine va_get (D := D) (ci := 7) (v := .ref (q_M 4)) (C := RX7) (T := TX7) (N := 26) hx hb hts zin7 hown hK hP 0 rfl rfl 7 (by decide) (hts _ wm794) (fun _ h9 => h9) rfl dX7_areaOf_22 ?_
  refine lv_iload_n hx hb dX7_areaOf_25 rfl (lv_at hl 0 rfl) ?_
  refine lv_iconst (v := Int32.ofInt 3) hx hb dX7_areaOf_26 rfl ?_
  refine z_iadd hx hb dX7_areaOf_27 ?_
  obtain ⟨g_3, h⟩ := gd_e h
  refine z_iald (n := 48) (f := c_rect) (i := ((4 * x1) + 3)) hx hb hK hP 5 rfl rfl g_3 (by have := g_3.2; omega) dX7_areaOf_28 ?_
  refine lv_aload_n hx hb dX7_areaOf_29 rfl (lv_at hl 1 rfl) ?_
  refine va_get (D := D) (ci := 7) (v := .ref (q_M 4)) (C := RX7) (T := TX7) (N := 26) hx hb hts zin7 hown hK hP 0 rfl rfl 7 (by decide) (hts _ wm794) (fun _ h9 => h9) rfl dX7_areaOf_30 ?_
  refine lv_iload_n hx hb dX7_areaOf_33 rfl (lv_at hl 0 rfl) ?_
  refine lv_iconst (v := Int32.ofInt 1) hx hb dX7_areaOf_34 rfl ?_
  refine z_iadd hx hb dX7_areaOf_35 ?_
  obtain ⟨g_4, h⟩ := gd_e h
  refine z_iald (n := 48) (f := c_rect) (i := ((4 * x1) + 1)) hx hb hK hP 5 rfl rfl g_4 (by have := g_4.2; omega) dX7_areaOf_36 ?_
  refine z_isub hx hb dX7_areaOf_37 ?_
  refine lv_iconst (v := Int32.ofInt 1) hx hb dX7_areaOf_38 rfl ?_
  refine z_iadd hx hb dX7_areaOf_39 ?_
  refine z_imul hx hb dX7_areaOf_40 ?_
  obtain rfl := Option.some.inj h
  exact z_iret hx hb hr hlk (fun _ _ => 0) hP hD hS dX7_areaOf_41
def f_Mo_enlargement (c_rect : Nat → Int) (x1 : Int) (x2 : Int) : Option (Int × (Nat → Int)) :=
  bd1 (f_Mo_unites c_rect x1 x2 11) <| fun c_rect_1 => bd1 (f_Mo_areaOf c_rect_1 11) <| fun r_4 => bd1 (f_Mo_areaOf c_rect_1 x1) <| fun r_7 => some ((r_4 - r_7), c_rect_1)
abbrev rm_Mo_enlargement : Room := ({ frames := 2, cells := 0, slots := 0, locals := 51 } : Room)
set_option maxHeartbeats 4000000 in
set_option maxRecDepth 100000 in
theorem c_Mo_enlargement (l : Launch) (D : va_G) (cI cZ cT : ClassId) (h_M : Nat) (q_M : Nat → Nat) (c_s : Nat → Int) (c_past : Nat → Int) (c_kept : Nat → Int) (c_isKept : Int) (c_pasts : Int) (c_text : Nat → Int) (c_typed : Int) (c_rect : Nat → Int) (c_item : Nat → Int) (c_items : Int) (c_itemLevel : Int) (c_treated : Nat → Int) (c_from : Nat → Int) (c_group : Nat → Int) (c_turn : Nat → Int) (c_size : Nat → Int) (c_old : Nat → Int) (c_aside : Nat → Int) (c_begin : Nat → Int) (c_level : Nat → Int) (c_asides : Int) (c_sorted : Nat → Int) (c_spot : Int) (c_rectangles : Int) (c_parts : Nat → Int) (c_visited : Nat → Int) (x1 : Int) (x2 : Int) (sz : Nat) (res : Int × (Nat → Int)) (h : f_Mo_enlargement c_rect x1 x2 = some res) : zMi l yX7_enlargement cX7_enlargement 3 rm_Mo_enlargement D (zt cI cZ cT) [.ref h_M, vI x1, vI x2] ((zMo cI cZ h_M q_M c_s c_past c_kept c_isKept c_pasts c_text c_typed c_rect c_item c_items c_itemLevel c_treated c_from c_group c_turn c_size c_old c_aside c_begin c_level c_asides c_sorted c_spot c_rectangles c_parts c_visited)) sz (res.1) (fun u => (zMo cI cZ h_M q_M c_s c_past c_kept c_isKept c_pasts c_text c_typed (res.2) c_item c_items c_itemLevel c_treated c_from c_group c_turn c_size c_old c_aside c_begin c_level c_asides c_sorted c_spot c_rectangles c_parts c_visited)) 0 0 := by
  refine z_enth (Qc := zQi D (res.1) (fun u => (zMo cI cZ h_M q_M c_s c_past c_kept c_isKept c_pasts c_text c_typed (res.2) c_item c_items c_itemLevel c_treated c_from c_group c_turn c_size c_old c_aside c_begin c_level c_asides c_sorted c_spot c_rectangles c_parts c_visited))) (by decide) (Nat.le_of_ble_eq_true rfl) (fun p e s m args below meth c A ls H locs hF hP hD hS hl => ?_)
  have hx := hF.1.1
  have hb := hF.1.2.1
  have hml := hF.1.2.2.1
  have hown : s.vm.findClass "RectangleTreeModel" = some m.cls := hF.1.2.2.2.1
  have hts := hF.1.2.2.2.2
  have hr := hF.2.1
  have hlk := hF.2.2.1
  have hK := hF.2.2.2.2.1
  have hN := hF.2.2.2.2.2.1
  have hA := hF.2.2.2.2.2.2
  unfold f_Mo_enlargement at h
  refine lv_aload_n hx hb dX7_enlargement_0 rfl (lv_at hl 0 rfl) ?_
  refine lv_iload_n hx hb dX7_enlargement_1 rfl (lv_at hl 1 rfl) ?_
  refine lv_iload_n hx hb dX7_enlargement_2 rfl (lv_at hl 2 rfl) ?_
  refine lv_bipush (v := Int32.ofInt 11) hx hb dX7_enlargement_3 (by decide +kernel) ?_
  obtain ⟨c_rect_1, e_2, h⟩ := bd1_e h
  refine z_gov (wc := (zMo cI cZ (h_M) (q_M) (c_s) (c_past) (c_kept) (c_isKept) (c_pasts) (c_text) (c_typed) (c_rect) (c_item) (c_items) (c_itemLevel) (c_treated) (c_from) (c_group) (c_turn) (c_size) (c_old) (c_aside) (c_begin) (c_level) (c_asides) (c_sorted) (c_spot) (c_rectangles) (c_parts) (c_visited))) (wn := fun u_3 => (zMo cI cZ h_M q_M c_s c_past c_kept c_isKept c_pasts c_text c_typed c_rect_1 c_item c_items c_itemLevel c_treated c_from c_group c_turn c_size c_old c_aside c_begin c_level c_asides c_sorted c_spot c_rectangles c_parts c_visited)) (wr := []) (va_runV (As := [vI x1, vI x2, vI 11]) (rest := []) hF.1 (c_Mo_unites l D cI cZ cT h_M q_M c_s c_past c_kept c_isKept c_pasts c_text c_typed c_rect c_item c_items c_itemLevel c_treated c_from c_group c_turn c_size c_old c_aside c_begin c_level c_asides c_sorted c_spot c_rectangles c_parts c_visited x1 x2 11 H.size (c_rect_1) e_2) (cwV 3 hts (zgV wm938 wm940 wm44 wm89 wm941) rfl rfl rfl (by decide +kernel) ⟨Nat.le_of_ble_eq_true rfl, Nat.le_of_ble_eq_true rfl⟩) ⟨zP.blind, va_recv hK (z_subP (ws' := (zMo cI cZ (h_M) (q_M) (c_s) (c_past) (c_kept) (c_isKept) (c_pasts) (c_text) (c_typed) (c_rect) (c_item) (c_items) (c_itemLevel) (c_treated) (c_from) (c_group) (c_turn) (c_size) (c_old) (c_aside) (c_begin) (c_level) (c_asides) (c_sorted) (c_spot) (c_rectangles) (c_parts) (c_visited))) hP [0, 1, 2, 3, 4, 5, 6, 7, 8, 9, 10, 11, 12, 13, 14, 15, 16, 17, 18] rfl) (ci := 7) (q0 := 0) rfl rfl, zP.enter (z_subP (ws' := (zMo cI cZ (h_M) (q_M) (c_s) (c_past) (c_kept) (c_isKept) (c_pasts) (c_text) (c_typed) (c_rect) (c_item) (c_items) (c_itemLevel) (c_treated) (c_from) (c_group) (c_turn) (c_size) (c_old) (c_aside) (c_begin) (c_level) (c_asides) (c_sorted) (c_spot) (c_rectangles) (c_parts) (c_visited))) hP [0, 1, 2, 3, 4, 5, 6, 7, 8, 9, 10, 11, 12, 13, 14, 15, 16, 17, 18] rfl) hK (hD.sub [0, 1, 2, 3, 4, 5, 6, 7, 8, 9, 10, 11, 12, 13, 14, 15, 16, 17, 18] (by decide) rfl) hN⟩ rfl rfl hl.1 rfl (lv_room (Nat.le_of_ble_eq_true rfl)) dX7_enlargement_5 ⟨Nat.le_refl _, Nat.le_refl _⟩) hP hD hS hA [0, 1, 2, 3, 4, 5, 6, 7, 8, 9, 10, 11, 12, 13, 14, 15, 16, 17, 18] [] [0, 1, 2, 3, 4, 5, 6, 7, 8, 9, 10, 11, 12, 13, 14, 15, 16, 17, 18] rfl rfl (by decide) (fun _ => rfl) (fun u_3 H locs hP hD hS hz => ?_)
  refine lv_aload_n hx hb dX7_enlargement_8 rfl (lv_at hl 0 rfl) ?_
  refine lv_bipush (v := Int32.ofInt 11) hx hb dX7_enlargement_9 (by decide +kernel) ?_
  obtain ⟨r_4, e_5, h⟩ := bd1_e h
  refine z_goi (ws' := []) (ret := r_4) (wc := (zMo cI cZ (h_M) (q_M) (c_s) (c_past) (c_kept) (c_isKept) (c_pasts) (c_text) (c_typed) (c_rect_1) (c_item) (c_items) (c_itemLevel) (c_treated) (c_from) (c_group) (c_turn) (c_size) (c_old) (c_aside) (c_begin) (c_level) (c_asides) (c_sorted) (c_spot) (c_rectangles) (c_parts) (c_visited))) (wn := fun u_6 => (zMo cI cZ h_M q_M c_s c_past c_kept c_isKept c_pasts c_text c_typed c_rect_1 c_item c_items c_itemLevel c_treated c_from c_group c_turn c_size c_old c_aside c_begin c_level c_asides c_sorted c_spot c_rectangles c_parts c_visited)) (wr := []) (va_runV (As := [vI 11]) (rest := []) hF.1 (c_Mo_areaOf l D cI cZ cT h_M q_M c_s c_past c_kept c_isKept c_pasts c_text c_typed c_rect_1 c_item c_items c_itemLevel c_treated c_from c_group c_turn c_size c_old c_aside c_begin c_level c_asides c_sorted c_spot c_rectangles c_parts c_visited 11 H.size (r_4) e_5) (cwV 1 hts (zgV wm942 wm944 wm45 wm89 wm945) rfl rfl rfl (by decide +kernel) ⟨Nat.le_of_ble_eq_true rfl, Nat.le_of_ble_eq_true rfl⟩) ⟨zP.blind, va_recv hK (z_subP (ws' := (zMo cI cZ (h_M) (q_M) (c_s) (c_past) (c_kept) (c_isKept) (c_pasts) (c_text) (c_typed) (c_rect_1) (c_item) (c_items) (c_itemLevel) (c_treated) (c_from) (c_group) (c_turn) (c_size) (c_old) (c_aside) (c_begin) (c_level) (c_asides) (c_sorted) (c_spot) (c_rectangles) (c_parts) (c_visited))) hP [0, 1, 2, 3, 4, 5, 6, 7, 8, 9, 10, 11, 12, 13, 14, 15, 16, 17, 18] rfl) (ci := 7) (q0 := 0) rfl rfl, zP.enter (z_subP (ws' := (zMo cI cZ (h_M) (q_M) (c_s) (c_past) (c_kept) (c_isKept) (c_pasts) (c_text) (c_typed) (c_rect_1) (c_item) (c_items) (c_itemLevel) (c_treated) (c_from) (c_group) (c_turn) (c_size) (c_old) (c_aside) (c_begin) (c_level) (c_asides) (c_sorted) (c_spot) (c_rectangles) (c_parts) (c_visited))) hP [0, 1, 2, 3, 4, 5, 6, 7, 8, 9, 10, 11, 12, 13, 14, 15, 16, 17, 18] rfl) hK (hD.sub [0, 1, 2, 3, 4, 5, 6, 7, 8, 9, 10, 11, 12, 13, 14, 15, 16, 17, 18] (by decide) rfl) hN⟩ rfl rfl hl.1 rfl (lv_room (Nat.le_of_ble_eq_true rfl)) dX7_enlargement_11 ⟨Nat.le_refl _, Nat.le_refl _⟩) hP hD hS hA [0, 1, 2, 3, 4, 5, 6, 7, 8, 9, 10, 11, 12, 13, 14, 15, 16, 17, 18] [] [0, 1, 2, 3, 4, 5, 6, 7, 8, 9, 10, 11, 12, 13, 14, 15, 16, 17, 18] rfl rfl (by decide) (fun _ => rfl) (fun u_6 H locs hP hD hS hz => ?_)
  refine lv_aload_n hx hb dX7_enlargement_14 rfl (lv_at hl 0 rfl) ?_
  refine lv_iload_n hx hb dX7_enlargement_15 rfl (lv_at hl 1 rfl) ?_
  obtain ⟨r_7, e_8, h⟩ := bd1_e h
  refine z_goi (ws' := []) (ret := r_7) (wc := (zMo cI cZ (h_M) (q_M) (c_s) (c_past) (c_kept) (c_isKept) (c_pasts) (c_text) (c_typed) (c_rect_1) (c_item) (c_items) (c_itemLevel) (c_treated) (c_from) (c_group) (c_turn) (c_size) (c_old) (c_aside) (c_begin) (c_level) (c_asides) (c_sorted) (c_spot) (c_rectangles) (c_parts) (c_visited))) (wn := fun u_9 => (zMo cI cZ h_M q_M c_s c_past c_kept c_isKept c_pasts c_text c_typed c_rect_1 c_item c_items c_itemLevel c_treated c_from c_group c_turn c_size c_old c_aside c_begin c_level c_asides c_sorted c_spot c_rectangles c_parts c_visited)) (wr := []) (va_runV (As := [vI x1]) (rest := [vI r_4]) hF.1 (c_Mo_areaOf l D cI cZ cT h_M q_M c_s c_past c_kept c_isKept c_pasts c_text c_typed c_rect_1 c_item c_items c_itemLevel c_treated c_from c_group c_turn c_size c_old c_aside c_begin c_level c_asides c_sorted c_spot c_rectangles c_parts c_visited x1 H.size (r_7) e_8) (cwV 1 hts (zgV wm942 wm944 wm45 wm89 wm945) rfl rfl rfl (by decide +kernel) ⟨Nat.le_of_ble_eq_true rfl, Nat.le_of_ble_eq_true rfl⟩) ⟨zP.blind, va_recv hK (z_subP (ws' := (zMo cI cZ (h_M) (q_M) (c_s) (c_past) (c_kept) (c_isKept) (c_pasts) (c_text) (c_typed) (c_rect_1) (c_item) (c_items) (c_itemLevel) (c_treated) (c_from) (c_group) (c_turn) (c_size) (c_old) (c_aside) (c_begin) (c_level) (c_asides) (c_sorted) (c_spot) (c_rectangles) (c_parts) (c_visited))) hP [0, 1, 2, 3, 4, 5, 6, 7, 8, 9, 10, 11, 12, 13, 14, 15, 16, 17, 18] rfl) (ci := 7) (q0 := 0) rfl rfl, zP.enter (z_subP (ws' := (zMo cI cZ (h_M) (q_M) (c_s) (c_past) (c_kept) (c_isKept) (c_pasts) (c_text) (c_typed) (c_rect_1) (c_item) (c_items) (c_itemLevel) (c_treated) (c_from) (c_group) (c_turn) (c_size) (c_old) (c_aside) (c_begin) (c_level) (c_asides) (c_sorted) (c_spot) (c_rectangles) (c_parts) (c_visited))) hP [0, 1, 2, 3, 4, 5, 6, 7, 8, 9, 10, 11, 12, 13, 14, 15, 16, 17, 18] rfl) hK (hD.sub [0, 1, 2, 3, 4, 5, 6, 7, 8, 9, 10, 11, 12, 13, 14, 15, 16, 17, 18] (by decide) rfl) hN⟩ rfl rfl hl.1 rfl (lv_room (Nat.le_of_ble_eq_true rfl)) dX7_enlargement_16 ⟨Nat.le_refl _, Nat.le_refl _⟩) hP hD hS hA [0, 1, 2, 3, 4, 5, 6, 7, 8, 9, 10, 11, 12, 13, 14, 15, 16, 17, 18] [] [0, 1, 2, 3, 4, 5, 6, 7, 8, 9, 10, 11, 12, 13, 14, 15, 16, 17, 18] rfl rfl (by decide) (fun _ => rfl) (fun u_9 H locs hP hD hS hz => ?_)
  refine z_isub hx hb dX7_enlargement_19 ?_
  obtain rfl := Option.some.inj h
  exact z_iret hx hb hr hlk (fun _ _ => 0) hP hD hS dX7_enlargement_20
def f_Mo_commonArea (c_rect : Nat → Int) (x1 : Int) (x2 : Int) : Option (Int) :=
  gd (0 ≤ ((4 * x1) + 2) ∧ ((4 * x1) + 2) < ((48 : Nat) : Int)) <| gd (0 ≤ ((4 * x2) + 2) ∧ ((4 * x2) + 2) < ((48 : Nat) : Int)) <| bd1 (f_Mo_less (c_rect (((4 * x1) + 2)).toNat) (c_rect (((4 * x2) + 2)).toNat)) <| fun r_3 => gd (0 ≤ (4 * x1) ∧ (4 * x1) < ((48 : Nat) : Int)) <| gd (0 ≤ (4 * x2) ∧ (4 * x2) < ((48 : Nat) : Int)) <| bd1 (f_Mo_greater (c_rect ((4 * x1)).toNat) (c_rect ((4 * x2)).toNat)) <| fun r_8 => gd (0 ≤ ((4 * x1) + 3) ∧ ((4 * x1) + 3) < ((48 : Nat) : Int)) <| gd (0 ≤ ((4 * x2) + 3) ∧ ((4 * x2) + 3) < ((48 : Nat) : Int)) <| bd1 (f_Mo_less (c_rect (((4 * x1) + 3)).toNat) (c_rect (((4 * x2) + 3)).toNat)) <| fun r_13 => gd (0 ≤ ((4 * x1) + 1) ∧ ((4 * x1) + 1) < ((48 : Nat) : Int)) <| gd (0 ≤ ((4 * x2) + 1) ∧ ((4 * x2) + 1) < ((48 : Nat) : Int)) <| bd1 (f_Mo_greater (c_rect (((4 * x1) + 1)).toNat) (c_rect (((4 * x2) + 1)).toNat)) <| fun r_18 => gd (ck ((r_3 - r_8) + 1)) <| if 0 < ((r_3 - r_8) + 1) then (gd (ck ((r_13 - r_18) + 1)) <| if 0 < ((r_13 - r_18) + 1) then (some ((((r_3 - r_8) + 1) * ((r_13 - r_18) + 1)))) else (some (0))) else (some (0))
abbrev rm_Mo_commonArea : Room := ({ frames := 1, cells := 0, slots := 0, locals := 21 } : Room)
set_option maxHeartbeats 4000000 in
set_option maxRecDepth 100000 in
theorem c_Mo_commonArea (l : Launch) (D : va_G) (cI cZ cT : ClassId) (h_M : Nat) (q_M : Nat → Nat) (c_s : Nat → Int) (c_past : Nat → Int) (c_kept : Nat → Int) (c_isKept : Int) (c_pasts : Int) (c_text : Nat → Int) (c_typed : Int) (c_rect : Nat → Int) (c_item : Nat → Int) (c_items : Int) (c_itemLevel : Int) (c_treated : Nat → Int) (c_from : Nat → Int) (c_group : Nat → Int) (c_turn : Nat → Int) (c_size : Nat → Int) (c_old : Nat → Int) (c_aside : Nat → Int) (c_begin : Nat → Int) (c_level : Nat → Int) (c_asides : Int) (c_sorted : Nat → Int) (c_spot : Int) (c_rectangles : Int) (c_parts : Nat → Int) (c_visited : Nat → Int) (x1 : Int) (x2 : Int) (sz : Nat) (res : Int) (h : f_Mo_commonArea c_rect x1 x2 = some res) : zMi l yX7_commonArea cX7_commonArea 7 rm_Mo_commonArea D (zt cI cZ cT) [.ref h_M, vI x1, vI x2] ((zMo cI cZ h_M q_M c_s c_past c_kept c_isKept c_pasts c_text c_typed c_rect c_item c_items c_itemLevel c_treated c_from c_group c_turn c_size c_old c_aside c_begin c_level c_asides c_sorted c_spot c_rectangles c_parts c_visited)) sz (res) (fun u => (zMo cI cZ h_M q_M c_s c_past c_kept c_isKept c_pasts c_text c_typed c_rect c_item c_items c_itemLevel c_treated c_from c_group c_turn c_size c_old c_aside c_begin c_level c_asides c_sorted c_spot c_rectangles c_parts c_visited)) 0 0 := by
  refine z_enth (Qc := zQi D (res) (fun u => (zMo cI cZ h_M q_M c_s c_past c_kept c_isKept c_pasts c_text c_typed c_rect c_item c_items c_itemLevel c_treated c_from c_group c_turn c_size c_old c_aside c_begin c_level c_asides c_sorted c_spot c_rectangles c_parts c_visited))) (by decide) (Nat.le_of_ble_eq_true rfl) (fun p e s m args below meth c A ls H locs hF hP hD hS hl => ?_)
  have hx := hF.1.1
  have hb := hF.1.2.1
  have hml := hF.1.2.2.1
  have hown : s.vm.findClass "RectangleTreeModel" = some m.cls := hF.1.2.2.2.1
  have hts := hF.1.2.2.2.2
  have hr := hF.2.1
  have hlk := hF.2.2.1
  have hK := hF.2.2.2.2.1
  have hN := hF.2.2.2.2.2.1
  have hA := hF.2.2.2.2.2.2
  unfold f_Mo_commonArea at h
  refine lv_iconst (v := Int32.ofInt 4) hx hb dX7_commonArea_0 rfl ?_
  refine lv_iload_n hx hb dX7_commonArea_1 rfl (lv_at hl 1 rfl) ?_
  refine z_imul hx hb dX7_commonArea_2 ?_
  refine lv_istore_n (lv' := [(3, vI (4 * x1)), (0, .ref h_M), (1, vI x1), (2, vI x2)]) hx hb dX7_commonArea_3 rfl hl (by decide) rfl (fun ls hl => ?_)
  refine lv_iconst (v := Int32.ofInt 4) hx hb dX7_commonArea_4 rfl ?_
  refine lv_iload_n hx hb dX7_commonArea_5 rfl (lv_at hl 3 rfl) ?_
  refine z_imul hx hb dX7_commonArea_6 ?_
  refine lv_istore (lv' := [(4, vI (4 * x2)), (3, vI (4 * x1)), (0, .ref h_M), (1, vI x1), (2, vI x2)]) hx hb dX7_commonArea_7 hl (by decide) rfl (fun ls hl => ?_)
  refine lv_aload_n hx hb dX7_commonArea_9 rfl (lv_at hl 2 rfl) ?_
  refine va_get (D := D) (ci := 7) (v := .ref (q_M 4)) (C := RX7) (T := TX7) (N := 26) hx hb hts zin7 hown hK hP 0 rfl rfl 7 (by decide) (hts _ wm794) (fun _ h9 => h9) rfl dX7_commonArea_10 ?_
  refine lv_iload_n hx hb dX7_commonArea_13 rfl (lv_at hl 1 rfl) ?_
  refine lv_iconst (v := Int32.ofInt 2) hx hb dX7_commonArea_14 rfl ?_
  refine z_iadd hx hb dX7_commonArea_15 ?_
  obtain ⟨g_1, h⟩ := gd_e h
  refine z_iald (n := 48) (f := c_rect) (i := ((4 * x1) + 2)) hx hb hK hP 5 rfl rfl g_1 (by have := g_1.2; omega) dX7_commonArea_16 ?_
  refine lv_aload_n hx hb dX7_commonArea_17 rfl (lv_at hl 2 rfl) ?_
  refine va_get (D := D) (ci := 7) (v := .ref (q_M 4)) (C := RX7) (T := TX7) (N := 26) hx hb hts zin7 hown hK hP 0 rfl rfl 7 (by decide) (hts _ wm794) (fun _ h9 => h9) rfl dX7_commonArea_18 ?_
  refine lv_iload hx hb dX7_commonArea_21 (lv_at hl 0 rfl) ?_
  refine lv_iconst (v := Int32.ofInt 2) hx hb dX7_commonArea_23 rfl ?_
  refine z_iadd hx hb dX7_commonArea_24 ?_
  obtain ⟨g_2, h⟩ := gd_e h
  refine z_iald (n := 48) (f := c_rect) (i := ((4 * x2) + 2)) hx hb hK hP 5 rfl rfl g_2 (by have := g_2.2; omega) dX7_commonArea_25 ?_
  obtain ⟨r_3, e_4, h⟩ := bd1_e h
  refine z_goi (ws' := []) (ret := r_3) (wc := ([] : va_W)) (wn := fun u_5 => (zMo cI cZ h_M q_M c_s c_past c_kept c_isKept c_pasts c_text c_typed c_rect c_item c_items c_itemLevel c_treated c_from c_group c_turn c_size c_old c_aside c_begin c_level c_asides c_sorted c_spot c_rectangles c_parts c_visited)) (wr := ([0, 1, 2, 3, 4, 5, 6, 7, 8, 9, 10, 11, 12, 13, 14, 15, 16, 17, 18].filterMap (fun i => ((zMo cI cZ h_M q_M c_s c_past c_kept c_isKept c_pasts c_text c_typed c_rect c_item c_items c_itemLevel c_treated c_from c_group c_turn c_size c_old c_aside c_begin c_level c_asides c_sorted c_spot c_rectangles c_parts c_visited))[i]?))) (va_runS (As := [vI (c_rect (((4 * x1) + 2)).toNat), vI (c_rect (((4 * x2) + 2)).toNat)]) (rest := []) hF.1 (c_Mo_less l D cI cZ cT (c_rect (((4 * x1) + 2)).toNat) (c_rect (((4 * x2) + 2)).toNat) H.size (r_3) e_4) (va_cwS 2 hts (zgS wm905 wm906 wm89 wm907) rfl rfl rfl (by decide +kernel) ⟨Nat.le_of_ble_eq_true rfl, Nat.le_of_ble_eq_true rfl⟩) ⟨zP.blind, zP.enter (z_subP (ws' := ([] : va_W)) hP [] rfl) hK (hD.sub [] (by decide) rfl) hN⟩ rfl rfl hl.1 rfl (lv_room (Nat.le_of_ble_eq_true rfl)) dX7_commonArea_26 ⟨Nat.le_refl _, Nat.le_refl _⟩) hP hD hS hA [] [0, 1, 2, 3, 4, 5, 6, 7, 8, 9, 10, 11, 12, 13, 14, 15, 16, 17, 18] [0, 1, 2, 3, 4, 5, 6, 7, 8, 9, 10, 11, 12, 13, 14, 15, 16, 17, 18] rfl rfl (by decide) (fun _ => rfl) (fun u_5 H locs hP hD hS hz => ?_)
  refine lv_aload_n hx hb dX7_commonArea_29 rfl (lv_at hl 2 rfl) ?_
  refine va_get (D := D) (ci := 7) (v := .ref (q_M 4)) (C := RX7) (T := TX7) (N := 26) hx hb hts zin7 hown hK hP 0 rfl rfl 7 (by decide) (hts _ wm794) (fun _ h9 => h9) rfl dX7_commonArea_30 ?_
  refine lv_iload_n hx hb dX7_commonArea_33 rfl (lv_at hl 1 rfl) ?_
  obtain ⟨g_6, h⟩ := gd_e h
  refine z_iald (n := 48) (f := c_rect) (i := (4 * x1)) hx hb hK hP 5 rfl rfl g_6 (by have := g_6.2; omega) dX7_commonArea_34 ?_
  refine lv_aload_n hx hb dX7_commonArea_35 rfl (lv_at hl 2 rfl) ?_
  refine va_get (D := D) (ci := 7) (v := .ref (q_M 4)) (C := RX7) (T := TX7) (N := 26) hx hb hts zin7 hown hK hP 0 rfl rfl 7 (by decide) (hts _ wm794) (fun _ h9 => h9) rfl dX7_commonArea_36 ?_
  refine lv_iload hx hb dX7_commonArea_39 (lv_at hl 0 rfl) ?_
  obtain ⟨g_7, h⟩ := gd_e h
  refine z_iald (n := 48) (f := c_rect) (i := (4 * x2)) hx hb hK hP 5 rfl rfl g_7 (by have := g_7.2; omega) dX7_commonArea_41 ?_
  obtain ⟨r_8, e_9, h⟩ := bd1_e h
  refine z_goi (ws' := []) (ret := r_8) (wc := ([] : va_W)) (wn := fun u_10 => (zMo cI cZ h_M q_M c_s c_past c_kept c_isKept c_pasts c_text c_typed c_rect c_item c_items c_itemLevel c_treated c_from c_group c_turn c_size c_old c_aside c_begin c_level c_asides c_sorted c_spot c_rectangles c_parts c_visited)) (wr := ([0, 1, 2, 3, 4, 5, 6, 7, 8, 9, 10, 11, 12, 13, 14, 15, 16, 17, 18].filterMap (fun i => ((zMo cI cZ h_M q_M c_s c_past c_kept c_isKept c_pasts c_text c_typed c_rect c_item c_items c_itemLevel c_treated c_from c_group c_turn c_size c_old c_aside c_begin c_level c_asides c_sorted c_spot c_rectangles c_parts c_visited))[i]?))) (va_runS (As := [vI (c_rect ((4 * x1)).toNat), vI (c_rect ((4 * x2)).toNat)]) (rest := [vI r_3]) hF.1 (c_Mo_greater l D cI cZ cT (c_rect ((4 * x1)).toNat) (c_rect ((4 * x2)).toNat) H.size (r_8) e_9) (va_cwS 2 hts (zgS wm908 wm909 wm89 wm910) rfl rfl rfl (by decide +kernel) ⟨Nat.le_of_ble_eq_true rfl, Nat.le_of_ble_eq_true rfl⟩) ⟨zP.blind, zP.enter (z_subP (ws' := ([] : va_W)) hP [] rfl) hK (hD.sub [] (by decide) rfl) hN⟩ rfl rfl hl.1 rfl (lv_room (Nat.le_of_ble_eq_true rfl)) dX7_commonArea_42 ⟨Nat.le_refl _, Nat.le_refl _⟩) hP hD hS hA [] [0, 1, 2, 3, 4, 5, 6, 7, 8, 9, 10, 11, 12, 13, 14, 15, 16, 17, 18] [0, 1, 2, 3, 4, 5, 6, 7, 8, 9, 10, 11, 12, 13, 14, 15, 16, 17, 18] rfl rfl (by decide) (fun _ => rfl) (fun u_10 H locs hP hD hS hz => ?_)
  refine z_isub hx hb dX7_commonArea_45 ?_
  refine lv_iconst (v := Int32.ofInt 1) hx hb dX7_commonArea_46 rfl ?_
  refine z_iadd hx hb dX7_commonArea_47 ?_
  refine lv_istore (lv' := [(5, vI ((r_3 - r_8) + 1)), (4, vI (4 * x2)), (3, vI (4 * x1)), (0, .ref h_M), (1, vI x1), (2, vI x2)]) hx hb dX7_commonArea_48 hl (by decide) rfl (fun ls hl => ?_)
  refine lv_aload_n hx hb dX7_commonArea_50 rfl (lv_at hl 3 rfl) ?_
  refine va_get (D := D) (ci := 7) (v := .ref (q_M 4)) (C := RX7) (T := TX7) (N := 26) hx hb hts zin7 hown hK hP 0 rfl rfl 7 (by decide) (hts _ wm794) (fun _ h9 => h9) rfl dX7_commonArea_51 ?_
  refine lv_iload_n hx hb dX7_commonArea_54 rfl (lv_at hl 2 rfl) ?_
  refine lv_iconst (v := Int32.ofInt 3) hx hb dX7_commonArea_55 rfl ?_
  refine z_iadd hx hb dX7_commonArea_56 ?_
  obtain ⟨g_11, h⟩ := gd_e h
  refine z_iald (n := 48) (f := c_rect) (i := ((4 * x1) + 3)) hx hb hK hP 5 rfl rfl g_11 (by have := g_11.2; omega) dX7_commonArea_57 ?_
  refine lv_aload_n hx hb dX7_commonArea_58 rfl (lv_at hl 3 rfl) ?_
  refine va_get (D := D) (ci := 7) (v := .ref (q_M 4)) (C := RX7) (T := TX7) (N := 26) hx hb hts zin7 hown hK hP 0 rfl rfl 7 (by decide) (hts _ wm794) (fun _ h9 => h9) rfl dX7_commonArea_59 ?_
  refine lv_iload hx hb dX7_commonArea_62 (lv_at hl 1 rfl) ?_
  refine lv_iconst (v := Int32.ofInt 3) hx hb dX7_commonArea_64 rfl ?_
  refine z_iadd hx hb dX7_commonArea_65 ?_
  obtain ⟨g_12, h⟩ := gd_e h
  refine z_iald (n := 48) (f := c_rect) (i := ((4 * x2) + 3)) hx hb hK hP 5 rfl rfl g_12 (by have := g_12.2; omega) dX7_commonArea_66 ?_
  obtain ⟨r_13, e_14, h⟩ := bd1_e h
  refine z_goi (ws' := []) (ret := r_13) (wc := ([] : va_W)) (wn := fun u_15 => (zMo cI cZ h_M q_M c_s c_past c_kept c_isKept c_pasts c_text c_typed c_rect c_item c_items c_itemLevel c_treated c_from c_group c_turn c_size c_old c_aside c_begin c_level c_asides c_sorted c_spot c_rectangles c_parts c_visited)) (wr := ([0, 1, 2, 3, 4, 5, 6, 7, 8, 9, 10, 11, 12, 13, 14, 15, 16, 17, 18].filterMap (fun i => ((zMo cI cZ h_M q_M c_s c_past c_kept c_isKept c_pasts c_text c_typed c_rect c_item c_items c_itemLevel c_treated c_from c_group c_turn c_size c_old c_aside c_begin c_level c_asides c_sorted c_spot c_rectangles c_parts c_visited))[i]?))) (va_runS (As := [vI (c_rect (((4 * x1) + 3)).toNat), vI (c_rect (((4 * x2) + 3)).toNat)]) (rest := []) hF.1 (c_Mo_less l D cI cZ cT (c_rect (((4 * x1) + 3)).toNat) (c_rect (((4 * x2) + 3)).toNat) H.size (r_13) e_14) (va_cwS 2 hts (zgS wm905 wm906 wm89 wm907) rfl rfl rfl (by decide +kernel) ⟨Nat.le_of_ble_eq_true rfl, Nat.le_of_ble_eq_true rfl⟩) ⟨zP.blind, zP.enter (z_subP (ws' := ([] : va_W)) hP [] rfl) hK (hD.sub [] (by decide) rfl) hN⟩ rfl rfl hl.1 rfl (lv_room (Nat.le_of_ble_eq_true rfl)) dX7_commonArea_67 ⟨Nat.le_refl _, Nat.le_refl _⟩) hP hD hS hA [] [0, 1, 2, 3, 4, 5, 6, 7, 8, 9, 10, 11, 12, 13, 14, 15, 16, 17, 18] [0, 1, 2, 3, 4, 5, 6, 7, 8, 9, 10, 11, 12, 13, 14, 15, 16, 17, 18] rfl rfl (by decide) (fun _ => rfl) (fun u_15 H locs hP hD hS hz => ?_)
  refine lv_aload_n hx hb dX7_commonArea_70 rfl (lv_at hl 3 rfl) ?_
  refine va_get (D := D) (ci := 7) (v := .ref (q_M 4)) (C := RX7) (T := TX7) (N := 26) hx hb hts zin7 hown hK hP 0 rfl rfl 7 (by decide) (hts _ wm794) (fun _ h9 => h9) rfl dX7_commonArea_71 ?_
  refine lv_iload_n hx hb dX7_commonArea_74 rfl (lv_at hl 2 rfl) ?_
  refine lv_iconst (v := Int32.ofInt 1) hx hb dX7_commonArea_75 rfl ?_
  refine z_iadd hx hb dX7_commonArea_76 ?_
  obtain ⟨g_16, h⟩ := gd_e h
  refine z_iald (n := 48) (f := c_rect) (i := ((4 * x1) + 1)) hx hb hK hP 5 rfl rfl g_16 (by have := g_16.2; omega) dX7_commonArea_77 ?_
  refine lv_aload_n hx hb dX7_commonArea_78 rfl (lv_at hl 3 rfl) ?_
  refine va_get (D := D) (ci := 7) (v := .ref (q_M 4)) (C := RX7) (T := TX7) (N := 26) hx hb hts zin7 hown hK hP 0 rfl rfl 7 (by decide) (hts _ wm794) (fun _ h9 => h9) rfl dX7_commonArea_79 ?_
  refine lv_iload hx hb dX7_commonArea_82 (lv_at hl 1 rfl) ?_
  refine lv_iconst (v := Int32.ofInt 1) hx hb dX7_commonArea_84 rfl ?_
  refine z_iadd hx hb dX7_commonArea_85 ?_
  obtain ⟨g_17, h⟩ := gd_e h
  refine z_iald (n := 48) (f := c_rect) (i := ((4 * x2) + 1)) hx hb hK hP 5 rfl rfl g_17 (by have := g_17.2; omega) dX7_commonArea_86 ?_
  obtain ⟨r_18, e_19, h⟩ := bd1_e h
  refine z_goi (ws' := []) (ret := r_18) (wc := ([] : va_W)) (wn := fun u_20 => (zMo cI cZ h_M q_M c_s c_past c_kept c_isKept c_pasts c_text c_typed c_rect c_item c_items c_itemLevel c_treated c_from c_group c_turn c_size c_old c_aside c_begin c_level c_asides c_sorted c_spot c_rectangles c_parts c_visited)) (wr := ([0, 1, 2, 3, 4, 5, 6, 7, 8, 9, 10, 11, 12, 13, 14, 15, 16, 17, 18].filterMap (fun i => ((zMo cI cZ h_M q_M c_s c_past c_kept c_isKept c_pasts c_text c_typed c_rect c_item c_items c_itemLevel c_treated c_from c_group c_turn c_size c_old c_aside c_begin c_level c_asides c_sorted c_spot c_rectangles c_parts c_visited))[i]?))) (va_runS (As := [vI (c_rect (((4 * x1) + 1)).toNat), vI (c_rect (((4 * x2) + 1)).toNat)]) (rest := [vI r_13]) hF.1 (c_Mo_greater l D cI cZ cT (c_rect (((4 * x1) + 1)).toNat) (c_rect (((4 * x2) + 1)).toNat) H.size (r_18) e_19) (va_cwS 2 hts (zgS wm908 wm909 wm89 wm910) rfl rfl rfl (by decide +kernel) ⟨Nat.le_of_ble_eq_true rfl, Nat.le_of_ble_eq_true rfl⟩) ⟨zP.blind, zP.enter (z_subP (ws' := ([] : va_W)) hP [] rfl) hK (hD.sub [] (by decide) rfl) hN⟩ rfl rfl hl.1 rfl (lv_room (Nat.le_of_ble_eq_true rfl)) dX7_commonArea_87 ⟨Nat.le_refl _, Nat.le_refl _⟩) hP hD hS hA [] [0, 1, 2, 3, 4, 5, 6, 7, 8, 9, 10, 11, 12, 13, 14, 15, 16, 17, 18] [0, 1, 2, 3, 4, 5, 6, 7, 8, 9, 10, 11, 12, 13, 14, 15, 16, 17, 18] rfl rfl (by decide) (fun _ => rfl) (fun u_20 H locs hP hD hS hz => ?_)
  refine z_isub hx hb dX7_commonArea_90 ?_
  refine lv_iconst (v := Int32.ofInt 1) hx hb dX7_commonArea_91 rfl ?_
  refine z_iadd hx hb dX7_commonArea_92 ?_
  refine lv_istore (lv' := [(6, vI ((r_13 - r_18) + 1)), (5, vI ((r_3 - r_8) + 1)), (4, vI (4 * x2)), (3, vI (4 * x1)), (0, .ref h_M), (1, vI x1), (2, vI x2)]) hx hb dX7_commonArea_93 hl (by decide) rfl (fun ls hl => ?_)
  refine lv_iload hx hb dX7_commonArea_95 (lv_at hl 1 rfl) ?_
  obtain ⟨g_21, h⟩ := gd_e h
  refine z_if_le (tgt := 113) hx hb g_21 dX7_commonArea_97 (by decide) (fun b_22 => ?_) (fun b_22 => ?_)
  · have h := it_n b_22 h
    refine lv_iconst (v := Int32.ofInt 0) hx hb dX7_commonArea_113 rfl ?_
    obtain rfl := Option.some.inj h
    exact z_iret hx hb hr hlk (fun _ _ => 0) hP hD hS dX7_commonArea_114
  · have h := it_p b_22 h
    refine lv_iload hx hb dX7_commonArea_100 (lv_at hl 0 rfl) ?_
    obtain ⟨g_23, h⟩ := gd_e h
    refine z_if_le (tgt := 113) hx hb g_23 dX7_commonArea_102 (by decide) (fun b_24 => ?_) (fun b_24 => ?_)
    · have h := it_n b_24 h
      refine lv_iconst (v := Int32.ofInt 0) hx hb dX7_commonArea_113 rfl ?_
      obtain rfl := Option.some.inj h
      exact z_iret hx hb hr hlk (fun _ _ => 0) hP hD hS dX7_commonArea_114
    · have h := it_p b_24 h
      refine lv_iload hx hb dX7_commonArea_105 (lv_at hl 1 rfl) ?_
      refine lv_iload hx hb dX7_commonArea_107 (lv_at hl 0 rfl) ?_
      refine z_imul hx hb dX7_commonArea_109 ?_
      refine lv_goto (tgt := 114) hx hb dX7_commonArea_110 (by decide) ?_
      obtain rfl := Option.some.inj h
      exact z_iret hx hb hr hlk (fun _ _ => 0) hP hD hS dX7_commonArea_114
def f_Mo_centerDistance (c_rect : Nat → Int) (x1 : Int) (x2 : Int) : Option (Int) :=
  gd (0 ≤ (4 * x1) ∧ (4 * x1) < ((48 : Nat) : Int)) <| gd (0 ≤ ((4 * x1) + 2) ∧ ((4 * x1) + 2) < ((48 : Nat) : Int)) <| gd (0 ≤ (4 * x2) ∧ (4 * x2) < ((48 : Nat) : Int)) <| gd (0 ≤ ((4 * x2) + 2) ∧ ((4 * x2) + 2) < ((48 : Nat) : Int)) <| gd (0 ≤ ((4 * x1) + 1) ∧ ((4 * x1) + 1) < ((48 : Nat) : Int)) <| gd (0 ≤ ((4 * x1) + 3) ∧ ((4 * x1) + 3) < ((48 : Nat) : Int)) <| gd (0 ≤ ((4 * x2) + 1) ∧ ((4 * x2) + 1) < ((48 : Nat) : Int)) <| gd (0 ≤ ((4 * x2) + 3) ∧ ((4 * x2) + 3) < ((48 : Nat) : Int)) <| some (((((((c_rect ((4 * x1)).toNat) + (c_rect (((4 * x1) + 2)).toNat)) - (c_rect ((4 * x2)).toNat)) - (c_rect (((4 * x2) + 2)).toNat)) * ((((c_rect ((4 * x1)).toNat) + (c_rect (((4 * x1) + 2)).toNat)) - (c_rect ((4 * x2)).toNat)) - (c_rect (((4 * x2) + 2)).toNat))) + (((((c_rect (((4 * x1) + 1)).toNat) + (c_rect (((4 * x1) + 3)).toNat)) - (c_rect (((4 * x2) + 1)).toNat)) - (c_rect (((4 * x2) + 3)).toNat)) * ((((c_rect (((4 * x1) + 1)).toNat) + (c_rect (((4 * x1) + 3)).toNat)) - (c_rect (((4 * x2) + 1)).toNat)) - (c_rect (((4 * x2) + 3)).toNat)))))
abbrev rm_Mo_centerDistance : Room := ({ frames := 0, cells := 0, slots := 0, locals := 0 } : Room)
set_option maxHeartbeats 4000000 in
set_option maxRecDepth 100000 in
theorem c_Mo_centerDistance (l : Launch) (D : va_G) (cI cZ cT : ClassId) (h_M : Nat) (q_M : Nat → Nat) (c_s : Nat → Int) (c_past : Nat → Int) (c_kept : Nat → Int) (c_isKept : Int) (c_pasts : Int) (c_text : Nat → Int) (c_typed : Int) (c_rect : Nat → Int) (c_item : Nat → Int) (c_items : Int) (c_itemLevel : Int) (c_treated : Nat → Int) (c_from : Nat → Int) (c_group : Nat → Int) (c_turn : Nat → Int) (c_size : Nat → Int) (c_old : Nat → Int) (c_aside : Nat → Int) (c_begin : Nat → Int) (c_level : Nat → Int) (c_asides : Int) (c_sorted : Nat → Int) (c_spot : Int) (c_rectangles : Int) (c_parts : Nat → Int) (c_visited : Nat → Int) (x1 : Int) (x2 : Int) (sz : Nat) (res : Int) (h : f_Mo_centerDistance c_rect x1 x2 = some res) : zMi l yX7_centerDistance cX7_centerDistance 7 rm_Mo_centerDistance D (zt cI cZ cT) [.ref h_M, vI x1, vI x2] ((zMo cI cZ h_M q_M c_s c_past c_kept c_isKept c_pasts c_text c_typed c_rect c_item c_items c_itemLevel c_treated c_from c_group c_turn c_size c_old c_aside c_begin c_level c_asides c_sorted c_spot c_rectangles c_parts c_visited)) sz (res) (fun u => (zMo cI cZ h_M q_M c_s c_past c_kept c_isKept c_pasts c_text c_typed c_rect c_item c_items c_itemLevel c_treated c_from c_group c_turn c_size c_old c_aside c_begin c_level c_asides c_sorted c_spot c_rectangles c_parts c_visited)) 0 0 := by
  refine z_enth (Qc := zQi D (res) (fun u => (zMo cI cZ h_M q_M c_s c_past c_kept c_isKept c_pasts c_text c_typed c_rect c_item c_items c_itemLevel c_treated c_from c_group c_turn c_size c_old c_aside c_begin c_level c_asides c_sorted c_spot c_rectangles c_parts c_visited))) (by decide) (Nat.le_of_ble_eq_true rfl) (fun p e s m args below meth c A ls H locs hF hP hD hS hl => ?_)
  have hx := hF.1.1
  have hb := hF.1.2.1
  have hml := hF.1.2.2.1
  have hown : s.vm.findClass "RectangleTreeModel" = some m.cls := hF.1.2.2.2.1
  have hts := hF.1.2.2.2.2
  have hr := hF.2.1
  have hlk := hF.2.2.1
  have hK := hF.2.2.2.2.1
  have hN := hF.2.2.2.2.2.1
  have hA := hF.2.2.2.2.2.2
  unfold f_Mo_centerDistance at h
  refine lv_iconst (v := Int32.ofInt 4) hx hb dX7_centerDistance_0 rfl ?_
  refine lv_iload_n hx hb dX7_centerDistance_1 rfl (lv_at hl 1 rfl) ?_
  refine z_imul hx hb dX7_centerDistance_2 ?_
  refine lv_istore_n (lv' := [(3, vI (4 * x1)), (0, .ref h_M), (1, vI x1), (2, vI x2)]) hx hb dX7_centerDistance_3 rfl hl (by decide) rfl (fun ls hl => ?_)
  refine lv_iconst (v := Int32.ofInt 4) hx hb dX7_centerDistance_4 rfl ?_
  refine lv_iload_n hx hb dX7_centerDistance_5 rfl (lv_at hl 3 rfl) ?_
  refine z_imul hx hb dX7_centerDistance_6 ?_
  refine lv_istore (lv' := [(4, vI (4 * x2)), (3, vI (4 * x1)), (0, .ref h_M), (1, vI x1), (2, vI x2)]) hx hb dX7_centerDistance_7 hl (by decide) rfl (fun ls hl => ?_)
  refine lv_aload_n hx hb dX7_centerDistance_9 rfl (lv_at hl 2 rfl) ?_
  refine va_get (D := D) (ci := 7) (v := .ref (q_M 4)) (C := RX7) (T := TX7) (N := 26) hx hb hts zin7 hown hK hP 0 rfl rfl 7 (by decide) (hts _ wm794) (fun _ h9 => h9) rfl dX7_centerDistance_10 ?_
  refine lv_iload_n hx hb dX7_centerDistance_13 rfl (lv_at hl 1 rfl) ?_
  obtain ⟨g_1, h⟩ := gd_e h
  refine z_iald (n := 48) (f := c_rect) (i := (4 * x1)) hx hb hK hP 5 rfl rfl g_1 (by have := g_1.2; omega) dX7_centerDistance_14 ?_
  refine lv_aload_n hx hb dX7_centerDistance_15 rfl (lv_at hl 2 rfl) ?_
  refine va_get (D := D) (ci := 7) (v := .ref (q_M 4)) (C := RX7) (T := TX7) (N := 26) hx hb hts zin7 hown hK hP 0 rfl rfl 7 (by decide) (hts _ wm794) (fun _ h9 => h9) rfl dX7_centerDistance_16 ?_
  refine lv_iload_n hx hb dX7_centerDistance_19 rfl (lv_at hl 1 rfl) ?_
  refine lv_iconst (v := Int32.ofInt 2) hx hb dX7_centerDistance_20 rfl ?_
  refine z_iadd hx hb dX7_centerDistance_21 ?_
  obtain ⟨g_2, h⟩ := gd_e h
  refine z_iald (n := 48) (f := c_rect) (i := ((4 * x1) + 2)) hx hb hK hP 5 rfl rfl g_2 (by have := g_2.2; omega) dX7_centerDistance_22 ?_
  refine z_iadd hx hb dX7_centerDistance_23 ?_
  refine lv_aload_n hx hb dX7_centerDistance_24 rfl (lv_at hl 2 rfl) ?_
  refine va_get (D := D) (ci := 7) (v := .ref (q_M 4)) (C := RX7) (T := TX7) (N := 26) hx hb hts zin7 hown hK hP 0 rfl rfl 7 (by decide) (hts _ wm794) (fun _ h9 => h9) rfl dX7_centerDistance_25 ?_
  refine lv_iload hx hb dX7_centerDistance_28 (lv_at hl 0 rfl) ?_
  obtain ⟨g_3, h⟩ := gd_e h
  refine z_iald (n := 48) (f := c_rect) (i := (4 * x2)) hx hb hK hP 5 rfl rfl g_3 (by have := g_3.2; omega) dX7_centerDistance_30 ?_
  refine z_isub hx hb dX7_centerDistance_31 ?_
  refine lv_aload_n hx hb dX7_centerDistance_32 rfl (lv_at hl 2 rfl) ?_
  refine va_get (D := D) (ci := 7) (v := .ref (q_M 4)) (C := RX7) (T := TX7) (N := 26) hx hb hts zin7 hown hK hP 0 rfl rfl 7 (by decide) (hts _ wm794) (fun _ h9 => h9) rfl dX7_centerDistance_33 ?_
  refine lv_iload hx hb dX7_centerDistance_36 (lv_at hl 0 rfl) ?_
  refine lv_iconst (v := Int32.ofInt 2) hx hb dX7_centerDistance_38 rfl ?_
  refine z_iadd hx hb dX7_centerDistance_39 ?_
  obtain ⟨g_4, h⟩ := gd_e h
  refine z_iald (n := 48) (f := c_rect) (i := ((4 * x2) + 2)) hx hb hK hP 5 rfl rfl g_4 (by have := g_4.2; omega) dX7_centerDistance_40 ?_
  refine z_isub hx hb dX7_centerDistance_41 ?_
  refine lv_istore (lv' := [(5, vI ((((c_rect ((4 * x1)).toNat) + (c_rect (((4 * x1) + 2)).toNat)) - (c_rect ((4 * x2)).toNat)) - (c_rect (((4 * x2) + 2)).toNat))), (4, vI (4 * x2)), (3, vI (4 * x1)), (0, .ref h_M), (1, vI x1), (2, vI x2)]) hx hb dX7_centerDistance_42 hl (by decide) rfl (fun ls hl => ?_)
  refine lv_aload_n hx hb dX7_centerDistance_44 rfl (lv_at hl 3 rfl) ?_
  refine va_get (D := D) (ci := 7) (v := .ref (q_M 4)) (C := RX7) (T := TX7) (N := 26) hx hb hts zin7 hown hK hP 0 rfl rfl 7 (by decide) (hts _ wm794) (fun _ h9 => h9) rfl dX7_centerDistance_45 ?_
  refine lv_iload_n hx hb dX7_centerDistance_48 rfl (lv_at hl 2 rfl) ?_
  refine lv_iconst (v := Int32.ofInt 1) hx hb dX7_centerDistance_49 rfl ?_
  refine z_iadd hx hb dX7_centerDistance_50 ?_
  obtain ⟨g_5, h⟩ := gd_e h
  refine z_iald (n := 48) (f := c_rect) (i := ((4 * x1) + 1)) hx hb hK hP 5 rfl rfl g_5 (by have := g_5.2; omega) dX7_centerDistance_51 ?_
  refine lv_aload_n hx hb dX7_centerDistance_52 rfl (lv_at hl 3 rfl) ?_
  refine va_get (D := D) (ci := 7) (v := .ref (q_M 4)) (C := RX7) (T := TX7) (N := 26) hx hb hts zin7 hown hK hP 0 rfl rfl 7 (by decide) (hts _ wm794) (fun _ h9 => h9) rfl dX7_centerDistance_53 ?_
  refine lv_iload_n hx hb dX7_centerDistance_56 rfl (lv_at hl 2 rfl) ?_
  refine lv_iconst (v := Int32.ofInt 3) hx hb dX7_centerDistance_57 rfl ?_
  refine z_iadd hx hb dX7_centerDistance_58 ?_
  obtain ⟨g_6, h⟩ := gd_e h
  refine z_iald (n := 48) (f := c_rect) (i := ((4 * x1) + 3)) hx hb hK hP 5 rfl rfl g_6 (by have := g_6.2; omega) dX7_centerDistance_59 ?_
  refine z_iadd hx hb dX7_centerDistance_60 ?_
  refine lv_aload_n hx hb dX7_centerDistance_61 rfl (lv_at hl 3 rfl) ?_
  refine va_get (D := D) (ci := 7) (v := .ref (q_M 4)) (C := RX7) (T := TX7) (N := 26) hx hb hts zin7 hown hK hP 0 rfl rfl 7 (by decide) (hts _ wm794) (fun _ h9 => h9) rfl dX7_centerDistance_62 ?_
  refine lv_iload hx hb dX7_centerDistance_65 (lv_at hl 1 rfl) ?_
  refine lv_iconst (v := Int32.ofInt 1) hx hb dX7_centerDistance_67 rfl ?_
  refine z_iadd hx hb dX7_centerDistance_68 ?_
  obtain ⟨g_7, h⟩ := gd_e h
  refine z_iald (n := 48) (f := c_rect) (i := ((4 * x2) + 1)) hx hb hK hP 5 rfl rfl g_7 (by have := g_7.2; omega) dX7_centerDistance_69 ?_
  refine z_isub hx hb dX7_centerDistance_70 ?_
  refine lv_aload_n hx hb dX7_centerDistance_71 rfl (lv_at hl 3 rfl) ?_
  refine va_get (D := D) (ci := 7) (v := .ref (q_M 4)) (C := RX7) (T := TX7) (N := 26) hx hb hts zin7 hown hK hP 0 rfl rfl 7 (by decide) (hts _ wm794) (fun _ h9 => h9) rfl dX7_centerDistance_72 ?_
  refine lv_iload hx hb dX7_centerDistance_75 (lv_at hl 1 rfl) ?_
  refine lv_iconst (v := Int32.ofInt 3) hx hb dX7_centerDistance_77 rfl ?_
  refine z_iadd hx hb dX7_centerDistance_78 ?_
  obtain ⟨g_8, h⟩ := gd_e h
  refine z_iald (n := 48) (f := c_rect) (i := ((4 * x2) + 3)) hx hb hK hP 5 rfl rfl g_8 (by have := g_8.2; omega) dX7_centerDistance_79 ?_
  refine z_isub hx hb dX7_centerDistance_80 ?_
  refine lv_istore (lv' := [(6, vI ((((c_rect (((4 * x1) + 1)).toNat) + (c_rect (((4 * x1) + 3)).toNat)) - (c_rect (((4 * x2) + 1)).toNat)) - (c_rect (((4 * x2) + 3)).toNat))), (5, vI ((((c_rect ((4 * x1)).toNat) + (c_rect (((4 * x1) + 2)).toNat)) - (c_rect ((4 * x2)).toNat)) - (c_rect (((4 * x2) + 2)).toNat))), (4, vI (4 * x2)), (3, vI (4 * x1)), (0, .ref h_M), (1, vI x1), (2, vI x2)]) hx hb dX7_centerDistance_81 hl (by decide) rfl (fun ls hl => ?_)
  refine lv_iload hx hb dX7_centerDistance_83 (lv_at hl 1 rfl) ?_
  refine lv_iload hx hb dX7_centerDistance_85 (lv_at hl 1 rfl) ?_
  refine z_imul hx hb dX7_centerDistance_87 ?_
  refine lv_iload hx hb dX7_centerDistance_88 (lv_at hl 0 rfl) ?_
  refine lv_iload hx hb dX7_centerDistance_90 (lv_at hl 0 rfl) ?_
  refine z_imul hx hb dX7_centerDistance_92 ?_
  refine z_iadd hx hb dX7_centerDistance_93 ?_
  obtain rfl := Option.some.inj h
  exact z_iret hx hb hr hlk (fun _ _ => 0) hP hD hS dX7_centerDistance_94
