def f_Mo_bound (c_s : Nat → Int) (c_rect : Nat → Int) (x1 : Int) (x2 : Int) : Option (Int × (Nat → Int)) :=
  bd1 (f_Mo_nodeAt c_s x1) <| fun r_1 => gd (ck r_1) <| if r_1 < 0 then (some ((-1), c_rect)) else (bd1 (f_Mo_in x2 0 3) <| fun r_6 => gd (ck r_6) <| if r_6 = 0 then (some ((-2), c_rect)) else (bd1 (f_Mo_length c_s) <| fun r_11 => gd (ck r_11) <| if r_11 = 1 then (some ((-5), c_rect)) else (bd1 (f_Mo_boundsAt c_s c_rect r_1 0) <| fun c_rect_16 => gd (0 ≤ x2 ∧ x2 < ((48 : Nat) : Int)) <| some ((c_rect_16 (x2).toNat), c_rect_16))))
abbrev rm_Mo_bound : Room := ({ frames := 4, cells := 0, slots := 0, locals := 86 } : Room)
set_option maxHeartbeats 4000000 in
set_option maxRecDepth 100000 in
theorem c_Mo_bound (l : Launch) (D : va_G) (cI cZ cT : ClassId) (h_M : Nat) (q_M : Nat → Nat) (c_s : Nat → Int) (c_past : Nat → Int) (c_kept : Nat → Int) (c_isKept : Int) (c_pasts : Int) (c_text : Nat → Int) (c_typed : Int) (c_rect : Nat → Int) (c_item : Nat → Int) (c_items : Int) (c_itemLevel : Int) (c_treated : Nat → Int) (c_from : Nat → Int) (c_group : Nat → Int) (c_turn : Nat → Int) (c_size : Nat → Int) (c_old : Nat → Int) (c_aside : Nat → Int) (c_begin : Nat → Int) (c_level : Nat → Int) (c_asides : Int) (c_sorted : Nat → Int) (c_spot : Int) (c_rectangles : Int) (c_parts : Nat → Int) (c_visited : Nat → Int) (x1 : Int) (x2 : Int) (sz : Nat) (res : Int × (Nat → Int)) (h : f_Mo_bound c_s c_rect x1 x2 = some res) : zMi l yX7_bound cX7_bound 4 rm_Mo_bound D (zt cI cZ cT) [.ref h_M, vI x1, vI x2] ((zMo cI cZ h_M q_M c_s c_past c_kept c_isKept c_pasts c_text c_typed c_rect c_item c_items c_itemLevel c_treated c_from c_group c_turn c_size c_old c_aside c_begin c_level c_asides c_sorted c_spot c_rectangles c_parts c_visited)) sz (res.1) (fun u => (zMo cI cZ h_M q_M c_s c_past c_kept c_isKept c_pasts c_text c_typed (res.2) c_item c_items c_itemLevel c_treated c_from c_group c_turn c_size c_old c_aside c_begin c_level c_asides c_sorted c_spot c_rectangles c_parts c_visited)) 0 0 := by
  refine z_enth (Qc := zQi D (res.1) (fun u => (zMo cI cZ h_M q_M c_s c_past c_kept c_isKept c_pasts c_text c_typed (res.2) c_item c_items c_itemLevel c_treated c_from c_group c_turn c_size c_old c_aside c_begin c_level c_asides c_sorted c_spot c_rectangles c_parts c_visited))) (by decide) (Nat.le_of_ble_eq_true rfl) (fun p e s m args below meth c A ls H locs hF hP hD hS hl => ?_)
  have hx := hF.1.1
  have hb := hF.1.2.1
  have hml := hF.1.2.2.1
  have hown : s.vm.findClass "RectangleTreeModel" = some m.cls := hF.1.2.2.2.1
  have hts := hF.1.2.2.2.2
  have hr := hF.2.1
  have hlk := hF.2.2.1
  have hK := hF.2.2.2.2.1
  have hN := hF.2.2.2.2.2.1
  have hA := hF.2.2.2.2.2.2
  unfold f_Mo_bound at h
  refine lv_aload_n hx hb dX7_bound_0 rfl (lv_at hl 0 rfl) ?_
  refine lv_iload_n hx hb dX7_bound_1 rfl (lv_at hl 1 rfl) ?_
  obtain ⟨r_1, e_2, h⟩ := bd1_e h
  refine z_goi (ws' := []) (ret := r_1) (wc := (zMo cI cZ (h_M) (q_M) (c_s) (c_past) (c_kept) (c_isKept) (c_pasts) (c_text) (c_typed) (c_rect) (c_item) (c_items) (c_itemLevel) (c_treated) (c_from) (c_group) (c_turn) (c_size) (c_old) (c_aside) (c_begin) (c_level) (c_asides) (c_sorted) (c_spot) (c_rectangles) (c_parts) (c_visited))) (wn := fun u_3 => (zMo cI cZ h_M q_M c_s c_past c_kept c_isKept c_pasts c_text c_typed c_rect c_item c_items c_itemLevel c_treated c_from c_group c_turn c_size c_old c_aside c_begin c_level c_asides c_sorted c_spot c_rectangles c_parts c_visited)) (wr := []) (va_runV (As := [vI x1]) (rest := []) hF.1 (c_Mo_nodeAt l D cI cZ cT h_M q_M c_s c_past c_kept c_isKept c_pasts c_text c_typed c_rect c_item c_items c_itemLevel c_treated c_from c_group c_turn c_size c_old c_aside c_begin c_level c_asides c_sorted c_spot c_rectangles c_parts c_visited x1 H.size (r_1) e_2) (cwV 1 hts (zgV wm1127 wm1129 wm76 wm89 wm1130) rfl rfl rfl (by decide +kernel) ⟨Nat.le_of_ble_eq_true rfl, Nat.le_of_ble_eq_true rfl⟩) ⟨zP.blind, va_recv hK (z_subP (ws' := (zMo cI cZ (h_M) (q_M) (c_s) (c_past) (c_kept) (c_isKept) (c_pasts) (c_text) (c_typed) (c_rect) (c_item) (c_items) (c_itemLevel) (c_treated) (c_from) (c_group) (c_turn) (c_size) (c_old) (c_aside) (c_begin) (c_level) (c_asides) (c_sorted) (c_spot) (c_rectangles) (c_parts) (c_visited))) hP [0, 1, 2, 3, 4, 5, 6, 7, 8, 9, 10, 11, 12, 13, 14, 15, 16, 17, 18] rfl) (ci := 7) (q0 := 0) rfl rfl, zP.enter (z_subP (ws' := (zMo cI cZ (h_M) (q_M) (c_s) (c_past) (c_kept) (c_isKept) (c_pasts) (c_text) (c_typed) (c_rect) (c_item) (c_items) (c_itemLevel) (c_treated) (c_from) (c_group) (c_turn) (c_size) (c_old) (c_aside) (c_begin) (c_level) (c_asides) (c_sorted) (c_spot) (c_rectangles) (c_parts) (c_visited))) hP [0, 1, 2, 3, 4, 5, 6, 7, 8, 9, 10, 11, 12, 13, 14, 15, 16, 17, 18] rfl) hK (hD.sub [0, 1, 2, 3, 4, 5, 6, 7, 8, 9, 10, 11, 12, 13, 14, 15, 16, 17, 18] (by decide) rfl) hN⟩ rfl rfl hl.1 rfl (lv_room (Nat.le_of_ble_eq_true rfl)) dX7_bound_2 ⟨Nat.le_refl _, Nat.le_refl _⟩) hP hD hS hA [0, 1, 2, 3, 4, 5, 6, 7, 8, 9, 10, 11, 12, 13, 14, 15, 16, 17, 18] [] [0, 1, 2, 3, 4, 5, 6, 7, 8, 9, 10, 11, 12, 13, 14, 15, 16, 17, 18] rfl rfl (by decide) (fun _ => rfl) (fun u_3 H locs hP hD hS hz => ?_)
  refine lv_istore_n (lv' := [(3, vI r_1), (0, .ref h_M), (1, vI x1), (2, vI x2)]) hx hb dX7_bound_5 rfl hl (by decide) rfl (fun ls hl => ?_)
  refine lv_iload_n hx hb dX7_bound_6 rfl (lv_at hl 0 rfl) ?_
  obtain ⟨g_4, h⟩ := gd_e h
  refine z_if_ge (tgt := 12) hx hb g_4 dX7_bound_7 (by decide) (fun b_5 => ?_) (fun b_5 => ?_)
  · have h := it_n b_5 h
    refine lv_iload_n hx hb dX7_bound_12 rfl (lv_at hl 3 rfl) ?_
    refine lv_iconst (v := Int32.ofInt 0) hx hb dX7_bound_13 rfl ?_
    refine lv_iconst (v := Int32.ofInt 3) hx hb dX7_bound_14 rfl ?_
    obtain ⟨r_6, e_7, h⟩ := bd1_e h
    refine z_goi (ws' := []) (ret := r_6) (wc := ([] : va_W)) (wn := fun u_8 => (zMo cI cZ h_M q_M c_s c_past c_kept c_isKept c_pasts c_text c_typed c_rect c_item c_items c_itemLevel c_treated c_from c_group c_turn c_size c_old c_aside c_begin c_level c_asides c_sorted c_spot c_rectangles c_parts c_visited)) (wr := ([0, 1, 2, 3, 4, 5, 6, 7, 8, 9, 10, 11, 12, 13, 14, 15, 16, 17, 18].filterMap (fun i => ((zMo cI cZ h_M q_M c_s c_past c_kept c_isKept c_pasts c_text c_typed c_rect c_item c_items c_itemLevel c_treated c_from c_group c_turn c_size c_old c_aside c_begin c_level c_asides c_sorted c_spot c_rectangles c_parts c_visited))[i]?))) (va_runS (As := [vI x2, vI 0, vI 3]) (rest := []) hF.1 (c_Mo_in l D cI cZ cT x2 0 3 H.size (r_6) e_7) (va_cwS 3 hts (zgS wm874 wm875 wm89 wm876) rfl rfl rfl (by decide +kernel) ⟨Nat.le_of_ble_eq_true rfl, Nat.le_of_ble_eq_true rfl⟩) ⟨zP.blind, zP.enter (z_subP (ws' := ([] : va_W)) hP [] rfl) hK (hD.sub [] (by decide) rfl) hN⟩ rfl rfl hl.1 rfl (lv_room (Nat.le_of_ble_eq_true rfl)) dX7_bound_15 ⟨Nat.le_refl _, Nat.le_refl _⟩) hP hD hS hA [] [0, 1, 2, 3, 4, 5, 6, 7, 8, 9, 10, 11, 12, 13, 14, 15, 16, 17, 18] [0, 1, 2, 3, 4, 5, 6, 7, 8, 9, 10, 11, 12, 13, 14, 15, 16, 17, 18] rfl rfl (by decide) (fun _ => rfl) (fun u_8 H locs hP hD hS hz => ?_)
    obtain ⟨g_9, h⟩ := gd_e h
    refine z_if_ne (tgt := 24) hx hb g_9 dX7_bound_18 (by decide) (fun b_10 => ?_) (fun b_10 => ?_)
    · have h := it_n b_10 h
      refine lv_aload_n hx hb dX7_bound_24 rfl (lv_at hl 1 rfl) ?_
      obtain ⟨r_11, e_12, h⟩ := bd1_e h
      refine z_goi (ws' := []) (ret := r_11) (wc := (zMo cI cZ (h_M) (q_M) (c_s) (c_past) (c_kept) (c_isKept) (c_pasts) (c_text) (c_typed) (c_rect) (c_item) (c_items) (c_itemLevel) (c_treated) (c_from) (c_group) (c_turn) (c_size) (c_old) (c_aside) (c_begin) (c_level) (c_asides) (c_sorted) (c_spot) (c_rectangles) (c_parts) (c_visited))) (wn := fun u_13 => (zMo cI cZ h_M q_M c_s c_past c_kept c_isKept c_pasts c_text c_typed c_rect c_item c_items c_itemLevel c_treated c_from c_group c_turn c_size c_old c_aside c_begin c_level c_asides c_sorted c_spot c_rectangles c_parts c_visited)) (wr := []) (va_runV (As := []) (rest := []) hF.1 (c_Mo_length l D cI cZ cT h_M q_M c_s c_past c_kept c_isKept c_pasts c_text c_typed c_rect c_item c_items c_itemLevel c_treated c_from c_group c_turn c_size c_old c_aside c_begin c_level c_asides c_sorted c_spot c_rectangles c_parts c_visited H.size (r_11) e_12) (cwV 0 hts (zgV wm926 wm928 wm41 wm89 wm929) rfl rfl rfl (by decide +kernel) ⟨Nat.le_of_ble_eq_true rfl, Nat.le_of_ble_eq_true rfl⟩) ⟨zP.blind, va_recv hK (z_subP (ws' := (zMo cI cZ (h_M) (q_M) (c_s) (c_past) (c_kept) (c_isKept) (c_pasts) (c_text) (c_typed) (c_rect) (c_item) (c_items) (c_itemLevel) (c_treated) (c_from) (c_group) (c_turn) (c_size) (c_old) (c_aside) (c_begin) (c_level) (c_asides) (c_sorted) (c_spot) (c_rectangles) (c_parts) (c_visited))) hP [0, 1, 2, 3, 4, 5, 6, 7, 8, 9, 10, 11, 12, 13, 14, 15, 16, 17, 18] rfl) (ci := 7) (q0 := 0) rfl rfl, zP.enter (z_subP (ws' := (zMo cI cZ (h_M) (q_M) (c_s) (c_past) (c_kept) (c_isKept) (c_pasts) (c_text) (c_typed) (c_rect) (c_item) (c_items) (c_itemLevel) (c_treated) (c_from) (c_group) (c_turn) (c_size) (c_old) (c_aside) (c_begin) (c_level) (c_asides) (c_sorted) (c_spot) (c_rectangles) (c_parts) (c_visited))) hP [0, 1, 2, 3, 4, 5, 6, 7, 8, 9, 10, 11, 12, 13, 14, 15, 16, 17, 18] rfl) hK (hD.sub [0, 1, 2, 3, 4, 5, 6, 7, 8, 9, 10, 11, 12, 13, 14, 15, 16, 17, 18] (by decide) rfl) hN⟩ rfl rfl hl.1 rfl (lv_room (Nat.le_of_ble_eq_true rfl)) dX7_bound_25 ⟨Nat.le_refl _, Nat.le_refl _⟩) hP hD hS hA [0, 1, 2, 3, 4, 5, 6, 7, 8, 9, 10, 11, 12, 13, 14, 15, 16, 17, 18] [] [0, 1, 2, 3, 4, 5, 6, 7, 8, 9, 10, 11, 12, 13, 14, 15, 16, 17, 18] rfl rfl (by decide) (fun _ => rfl) (fun u_13 H locs hP hD hS hz => ?_)
      refine lv_iconst (v := Int32.ofInt 1) hx hb dX7_bound_28 rfl ?_
      obtain ⟨g_14, h⟩ := gd_e h
      refine z_icmp_ne (tgt := 35) hx hb g_14 (by decide) dX7_bound_29 (by decide) (fun b_15 => ?_) (fun b_15 => ?_)
      · have h := it_n b_15 h
        refine lv_aload_n hx hb dX7_bound_35 rfl (lv_at hl 1 rfl) ?_
        refine lv_iload_n hx hb dX7_bound_36 rfl (lv_at hl 0 rfl) ?_
        refine lv_iconst (v := Int32.ofInt 0) hx hb dX7_bound_37 rfl ?_
        obtain ⟨c_rect_16, e_17, h⟩ := bd1_e h
        refine z_gov (wc := (zMo cI cZ (h_M) (q_M) (c_s) (c_past) (c_kept) (c_isKept) (c_pasts) (c_text) (c_typed) (c_rect) (c_item) (c_items) (c_itemLevel) (c_treated) (c_from) (c_group) (c_turn) (c_size) (c_old) (c_aside) (c_begin) (c_level) (c_asides) (c_sorted) (c_spot) (c_rectangles) (c_parts) (c_visited))) (wn := fun u_18 => (zMo cI cZ h_M q_M c_s c_past c_kept c_isKept c_pasts c_text c_typed c_rect_16 c_item c_items c_itemLevel c_treated c_from c_group c_turn c_size c_old c_aside c_begin c_level c_asides c_sorted c_spot c_rectangles c_parts c_visited)) (wr := []) (va_runV (As := [vI r_1, vI 0]) (rest := []) hF.1 (c_Mo_boundsAt l D cI cZ cT h_M q_M c_s c_past c_kept c_isKept c_pasts c_text c_typed c_rect c_item c_items c_itemLevel c_treated c_from c_group c_turn c_size c_old c_aside c_begin c_level c_asides c_sorted c_spot c_rectangles c_parts c_visited r_1 0 H.size (c_rect_16) e_17) (cwV 2 hts (zgV wm930 wm932 wm42 wm89 wm933) rfl rfl rfl (by decide +kernel) ⟨Nat.le_of_ble_eq_true rfl, Nat.le_of_ble_eq_true rfl⟩) ⟨zP.blind, va_recv hK (z_subP (ws' := (zMo cI cZ (h_M) (q_M) (c_s) (c_past) (c_kept) (c_isKept) (c_pasts) (c_text) (c_typed) (c_rect) (c_item) (c_items) (c_itemLevel) (c_treated) (c_from) (c_group) (c_turn) (c_size) (c_old) (c_aside) (c_begin) (c_level) (c_asides) (c_sorted) (c_spot) (c_rectangles) (c_parts) (c_visited))) hP [0, 1, 2, 3, 4, 5, 6, 7, 8, 9, 10, 11, 12, 13, 14, 15, 16, 17, 18] rfl) (ci := 7) (q0 := 0) rfl rfl, zP.enter (z_subP (ws' := (zMo cI cZ (h_M) (q_M) (c_s) (c_past) (c_kept) (c_isKept) (c_pasts) (c_text) (c_typed) (c_rect) (c_item) (c_items) (c_itemLevel) (c_treated) (c_from) (c_group) (c_turn) (c_size) (c_old) (c_aside) (c_begin) (c_level) (c_asides) (c_sorted) (c_spot) (c_rectangles) (c_parts) (c_visited))) hP [0, 1, 2, 3, 4, 5, 6, 7, 8, 9, 10, 11, 12, 13, 14, 15, 16, 17, 18] rfl) hK (hD.sub [0, 1, 2, 3, 4, 5, 6, 7, 8, 9, 10, 11, 12, 13, 14, 15, 16, 17, 18] (by decide) rfl) hN⟩ rfl rfl hl.1 rfl (lv_room (Nat.le_of_ble_eq_true rfl)) dX7_bound_38 ⟨Nat.le_refl _, Nat.le_refl _⟩) hP hD hS hA [0, 1, 2, 3, 4, 5, 6, 7, 8, 9, 10, 11, 12, 13, 14, 15, 16, 17, 18] [] [0, 1, 2, 3, 4, 5, 6, 7, 8, 9, 10, 11, 12, 13, 14, 15, 16, 17, 18] rfl rfl (by decide) (fun _ => rfl) (fun u_18 H locs hP hD hS hz => ?_)
        refine lv_aload_n hx hb dX7_bound_41 rfl (lv_at hl 1 rfl) ?_
        refine va_get (D := D) (ci := 7) (v := .ref (q_M 4)) (C := RX7) (T := TX7) (N := 26) hx hb hts zin7 hown hK hP 0 rfl rfl 7 (by decide) (hts _ wm794) (fun _ h9 => h9) rfl dX7_bound_42 ?_
        refine lv_iload_n hx hb dX7_bound_45 rfl (lv_at hl 3 rfl) ?_
        obtain ⟨g_19, h⟩ := gd_e h
        refine z_iald (n := 48) (f := c_rect_16) (i := x2) hx hb hK hP 5 rfl rfl g_19 (by have := g_19.2; omega) dX7_bound_46 ?_
        obtain rfl := Option.some.inj h
        exact z_iret hx hb hr hlk (fun _ _ => 0) hP hD hS dX7_bound_47
      · have h := it_p b_15 h
        refine lv_bipush (v := Int32.ofInt (-5)) hx hb dX7_bound_32 (by decide +kernel) ?_
        obtain rfl := Option.some.inj h
        exact z_iret hx hb hr hlk (fun _ _ => 0) hP hD hS dX7_bound_34
    · have h := it_p b_10 h
      refine lv_bipush (v := Int32.ofInt (-2)) hx hb dX7_bound_21 (by decide +kernel) ?_
      obtain rfl := Option.some.inj h
      exact z_iret hx hb hr hlk (fun _ _ => 0) hP hD hS dX7_bound_23
  · have h := it_p b_5 h
    refine lv_iconst (v := Int32.ofInt (-1)) hx hb dX7_bound_10 rfl ?_
    obtain rfl := Option.some.inj h
    exact z_iret hx hb hr hlk (fun _ _ => 0) hP hD hS dX7_bound_11
def f_Mo_leafOf (c_s : Nat → Int) (x1 : Int) : Option (Int) :=
  bd1 (f_Mo_isBox c_s x1) <| fun r_1 => gd (ck r_1) <| if r_1 = 0 then (some ((-1))) else (bd1 (f_Mo_placeOf c_s x1) <| fun r_6 => bd1 (f_Mo_nodesAhead c_s r_6) <| fun r_9 => some ((r_9 - 1)))
abbrev rm_Mo_leafOf : Room := ({ frames := 2, cells := 0, slots := 0, locals := 44 } : Room)
set_option maxHeartbeats 4000000 in
set_option maxRecDepth 100000 in
theorem c_Mo_leafOf (l : Launch) (D : va_G) (cI cZ cT : ClassId) (h_M : Nat) (q_M : Nat → Nat) (c_s : Nat → Int) (c_past : Nat → Int) (c_kept : Nat → Int) (c_isKept : Int) (c_pasts : Int) (c_text : Nat → Int) (c_typed : Int) (c_rect : Nat → Int) (c_item : Nat → Int) (c_items : Int) (c_itemLevel : Int) (c_treated : Nat → Int) (c_from : Nat → Int) (c_group : Nat → Int) (c_turn : Nat → Int) (c_size : Nat → Int) (c_old : Nat → Int) (c_aside : Nat → Int) (c_begin : Nat → Int) (c_level : Nat → Int) (c_asides : Int) (c_sorted : Nat → Int) (c_spot : Int) (c_rectangles : Int) (c_parts : Nat → Int) (c_visited : Nat → Int) (x1 : Int) (sz : Nat) (res : Int) (h : f_Mo_leafOf c_s x1 = some res) : zMi l yX7_leafOf cX7_leafOf 2 rm_Mo_leafOf D (zt cI cZ cT) [.ref h_M, vI x1] ((zMo cI cZ h_M q_M c_s c_past c_kept c_isKept c_pasts c_text c_typed c_rect c_item c_items c_itemLevel c_treated c_from c_group c_turn c_size c_old c_aside c_begin c_level c_asides c_sorted c_spot c_rectangles c_parts c_visited)) sz (res) (fun u => (zMo cI cZ h_M q_M c_s c_past c_kept c_isKept c_pasts c_text c_typed c_rect c_item c_items c_itemLevel c_treated c_from c_group c_turn c_size c_old c_aside c_begin c_level c_asides c_sorted c_spot c_rectangles c_parts c_visited)) 0 0 := by
  refine z_enth (Qc := zQi D (res) (fun u => (zMo cI cZ h_M q_M c_s c_past c_kept c_isKept c_pasts c_text c_typed c_rect c_item c_items c_itemLevel c_treated c_from c_group c_turn c_size c_old c_aside c_begin c_level c_asides c_sorted c_spot c_rectangles c_parts c_visited))) (by decide) (Nat.le_of_ble_eq_true rfl) (fun p e s m args below meth c A ls H locs hF hP hD hS hl => ?_)
  have hx := hF.1.1
  have hb := hF.1.2.1
  have hml := hF.1.2.2.1
  have hown : s.vm.findClass "RectangleTreeModel" = some m.cls := hF.1.2.2.2.1
  have hts := hF.1.2.2.2.2
  have hr := hF.2.1
  have hlk := hF.2.2.1
  have hK := hF.2.2.2.2.1
  have hN := hF.2.2.2.2.2.1
  have hA := hF.2.2.2.2.2.2
  unfold f_Mo_leafOf at h
  refine lv_aload_n hx hb dX7_leafOf_0 rfl (lv_at hl 0 rfl) ?_
  refine lv_iload_n hx hb dX7_leafOf_1 rfl (lv_at hl 1 rfl) ?_
  obtain ⟨r_1, e_2, h⟩ := bd1_e h
  refine z_goi (ws' := []) (ret := r_1) (wc := (zMo cI cZ (h_M) (q_M) (c_s) (c_past) (c_kept) (c_isKept) (c_pasts) (c_text) (c_typed) (c_rect) (c_item) (c_items) (c_itemLevel) (c_treated) (c_from) (c_group) (c_turn) (c_size) (c_old) (c_aside) (c_begin) (c_level) (c_asides) (c_sorted) (c_spot) (c_rectangles) (c_parts) (c_visited))) (wn := fun u_3 => (zMo cI cZ h_M q_M c_s c_past c_kept c_isKept c_pasts c_text c_typed c_rect c_item c_items c_itemLevel c_treated c_from c_group c_turn c_size c_old c_aside c_begin c_level c_asides c_sorted c_spot c_rectangles c_parts c_visited)) (wr := []) (va_runV (As := [vI x1]) (rest := []) hF.1 (c_Mo_isBox l D cI cZ cT h_M q_M c_s c_past c_kept c_isKept c_pasts c_text c_typed c_rect c_item c_items c_itemLevel c_treated c_from c_group c_turn c_size c_old c_aside c_begin c_level c_asides c_sorted c_spot c_rectangles c_parts c_visited x1 H.size (r_1) e_2) (cwV 1 hts (zgV wm881 wm883 wm32 wm89 wm884) rfl rfl rfl (by decide +kernel) ⟨Nat.le_of_ble_eq_true rfl, Nat.le_of_ble_eq_true rfl⟩) ⟨zP.blind, va_recv hK (z_subP (ws' := (zMo cI cZ (h_M) (q_M) (c_s) (c_past) (c_kept) (c_isKept) (c_pasts) (c_text) (c_typed) (c_rect) (c_item) (c_items) (c_itemLevel) (c_treated) (c_from) (c_group) (c_turn) (c_size) (c_old) (c_aside) (c_begin) (c_level) (c_asides) (c_sorted) (c_spot) (c_rectangles) (c_parts) (c_visited))) hP [0, 1, 2, 3, 4, 5, 6, 7, 8, 9, 10, 11, 12, 13, 14, 15, 16, 17, 18] rfl) (ci := 7) (q0 := 0) rfl rfl, zP.enter (z_subP (ws' := (zMo cI cZ (h_M) (q_M) (c_s) (c_past) (c_kept) (c_isKept) (c_pasts) (c_text) (c_typed) (c_rect) (c_item) (c_items) (c_itemLevel) (c_treated) (c_from) (c_group) (c_turn) (c_size) (c_old) (c_aside) (c_begin) (c_level) (c_asides) (c_sorted) (c_spot) (c_rectangles) (c_parts) (c_visited))) hP [0, 1, 2, 3, 4, 5, 6, 7, 8, 9, 10, 11, 12, 13, 14, 15, 16, 17, 18] rfl) hK (hD.sub [0, 1, 2, 3, 4, 5, 6, 7, 8, 9, 10, 11, 12, 13, 14, 15, 16, 17, 18] (by decide) rfl) hN⟩ rfl rfl hl.1 rfl (lv_room (Nat.le_of_ble_eq_true rfl)) dX7_leafOf_2 ⟨Nat.le_refl _, Nat.le_refl _⟩) hP hD hS hA [0, 1, 2, 3, 4, 5, 6, 7, 8, 9, 10, 11, 12, 13, 14, 15, 16, 17, 18] [] [0, 1, 2, 3, 4, 5, 6, 7, 8, 9, 10, 11, 12, 13, 14, 15, 16, 17, 18] rfl rfl (by decide) (fun _ => rfl) (fun u_3 H locs hP hD hS hz => ?_)
  obtain ⟨g_4, h⟩ := gd_e h
  refine z_if_eq (tgt := 22) hx hb g_4 dX7_leafOf_5 (by decide) (fun b_5 => ?_) (fun b_5 => ?_)
  · have h := it_p b_5 h
    refine lv_iconst (v := Int32.ofInt (-1)) hx hb dX7_leafOf_22 rfl ?_
    obtain rfl := Option.some.inj h
    exact z_iret hx hb hr hlk (fun _ _ => 0) hP hD hS dX7_leafOf_23
  · have h := it_n b_5 h
    refine lv_aload_n hx hb dX7_leafOf_8 rfl (lv_at hl 0 rfl) ?_
    refine lv_aload_n hx hb dX7_leafOf_9 rfl (lv_at hl 0 rfl) ?_
    refine lv_iload_n hx hb dX7_leafOf_10 rfl (lv_at hl 1 rfl) ?_
    obtain ⟨r_6, e_7, h⟩ := bd1_e h
    refine z_goi (ws' := []) (ret := r_6) (wc := (zMo cI cZ (h_M) (q_M) (c_s) (c_past) (c_kept) (c_isKept) (c_pasts) (c_text) (c_typed) (c_rect) (c_item) (c_items) (c_itemLevel) (c_treated) (c_from) (c_group) (c_turn) (c_size) (c_old) (c_aside) (c_begin) (c_level) (c_asides) (c_sorted) (c_spot) (c_rectangles) (c_parts) (c_visited))) (wn := fun u_8 => (zMo cI cZ h_M q_M c_s c_past c_kept c_isKept c_pasts c_text c_typed c_rect c_item c_items c_itemLevel c_treated c_from c_group c_turn c_size c_old c_aside c_begin c_level c_asides c_sorted c_spot c_rectangles c_parts c_visited)) (wr := []) (va_runV (As := [vI x1]) (rest := [.ref h_M]) hF.1 (c_Mo_placeOf l D cI cZ cT h_M q_M c_s c_past c_kept c_isKept c_pasts c_text c_typed c_rect c_item c_items c_itemLevel c_treated c_from c_group c_turn c_size c_old c_aside c_begin c_level c_asides c_sorted c_spot c_rectangles c_parts c_visited x1 H.size (r_6) e_7) (cwV 1 hts (zgV wm1010 wm1012 wm61 wm89 wm1013) rfl rfl rfl (by decide +kernel) ⟨Nat.le_of_ble_eq_true rfl, Nat.le_of_ble_eq_true rfl⟩) ⟨zP.blind, va_recv hK (z_subP (ws' := (zMo cI cZ (h_M) (q_M) (c_s) (c_past) (c_kept) (c_isKept) (c_pasts) (c_text) (c_typed) (c_rect) (c_item) (c_items) (c_itemLevel) (c_treated) (c_from) (c_group) (c_turn) (c_size) (c_old) (c_aside) (c_begin) (c_level) (c_asides) (c_sorted) (c_spot) (c_rectangles) (c_parts) (c_visited))) hP [0, 1, 2, 3, 4, 5, 6, 7, 8, 9, 10, 11, 12, 13, 14, 15, 16, 17, 18] rfl) (ci := 7) (q0 := 0) rfl rfl, zP.enter (z_subP (ws' := (zMo cI cZ (h_M) (q_M) (c_s) (c_past) (c_kept) (c_isKept) (c_pasts) (c_text) (c_typed) (c_rect) (c_item) (c_items) (c_itemLevel) (c_treated) (c_from) (c_group) (c_turn) (c_size) (c_old) (c_aside) (c_begin) (c_level) (c_asides) (c_sorted) (c_spot) (c_rectangles) (c_parts) (c_visited))) hP [0, 1, 2, 3, 4, 5, 6, 7, 8, 9, 10, 11, 12, 13, 14, 15, 16, 17, 18] rfl) hK (hD.sub [0, 1, 2, 3, 4, 5, 6, 7, 8, 9, 10, 11, 12, 13, 14, 15, 16, 17, 18] (by decide) rfl) hN⟩ rfl rfl hl.1 rfl (lv_room (Nat.le_of_ble_eq_true rfl)) dX7_leafOf_11 ⟨Nat.le_refl _, Nat.le_refl _⟩) hP hD hS hA [0, 1, 2, 3, 4, 5, 6, 7, 8, 9, 10, 11, 12, 13, 14, 15, 16, 17, 18] [] [0, 1, 2, 3, 4, 5, 6, 7, 8, 9, 10, 11, 12, 13, 14, 15, 16, 17, 18] rfl rfl (by decide) (fun _ => rfl) (fun u_8 H locs hP hD hS hz => ?_)
    obtain ⟨r_9, e_10, h⟩ := bd1_e h
    refine z_goi (ws' := []) (ret := r_9) (wc := (zMo cI cZ (h_M) (q_M) (c_s) (c_past) (c_kept) (c_isKept) (c_pasts) (c_text) (c_typed) (c_rect) (c_item) (c_items) (c_itemLevel) (c_treated) (c_from) (c_group) (c_turn) (c_size) (c_old) (c_aside) (c_begin) (c_level) (c_asides) (c_sorted) (c_spot) (c_rectangles) (c_parts) (c_visited))) (wn := fun u_11 => (zMo cI cZ h_M q_M c_s c_past c_kept c_isKept c_pasts c_text c_typed c_rect c_item c_items c_itemLevel c_treated c_from c_group c_turn c_size c_old c_aside c_begin c_level c_asides c_sorted c_spot c_rectangles c_parts c_visited)) (wr := []) (va_runV (As := [vI r_6]) (rest := []) hF.1 (c_Mo_nodesAhead l D cI cZ cT h_M q_M c_s c_past c_kept c_isKept c_pasts c_text c_typed c_rect c_item c_items c_itemLevel c_treated c_from c_group c_turn c_size c_old c_aside c_begin c_level c_asides c_sorted c_spot c_rectangles c_parts c_visited r_6 H.size (r_9) e_10) (cwV 1 hts (zgV wm1054 wm1056 wm70 wm89 wm1057) rfl rfl rfl (by decide +kernel) ⟨Nat.le_of_ble_eq_true rfl, Nat.le_of_ble_eq_true rfl⟩) ⟨zP.blind, va_recv hK (z_subP (ws' := (zMo cI cZ (h_M) (q_M) (c_s) (c_past) (c_kept) (c_isKept) (c_pasts) (c_text) (c_typed) (c_rect) (c_item) (c_items) (c_itemLevel) (c_treated) (c_from) (c_group) (c_turn) (c_size) (c_old) (c_aside) (c_begin) (c_level) (c_asides) (c_sorted) (c_spot) (c_rectangles) (c_parts) (c_visited))) hP [0, 1, 2, 3, 4, 5, 6, 7, 8, 9, 10, 11, 12, 13, 14, 15, 16, 17, 18] rfl) (ci := 7) (q0 := 0) rfl rfl, zP.enter (z_subP (ws' := (zMo cI cZ (h_M) (q_M) (c_s) (c_past) (c_kept) (c_isKept) (c_pasts) (c_text) (c_typed) (c_rect) (c_item) (c_items) (c_itemLevel) (c_treated) (c_from) (c_group) (c_turn) (c_size) (c_old) (c_aside) (c_begin) (c_level) (c_asides) (c_sorted) (c_spot) (c_rectangles) (c_parts) (c_visited))) hP [0, 1, 2, 3, 4, 5, 6, 7, 8, 9, 10, 11, 12, 13, 14, 15, 16, 17, 18] rfl) hK (hD.sub [0, 1, 2, 3, 4, 5, 6, 7, 8, 9, 10, 11, 12, 13, 14, 15, 16, 17, 18] (by decide) rfl) hN⟩ rfl rfl hl.1 rfl (lv_room (Nat.le_of_ble_eq_true rfl)) dX7_leafOf_14 ⟨Nat.le_refl _, Nat.le_refl _⟩) hP hD hS hA [0, 1, 2, 3, 4, 5, 6, 7, 8, 9, 10, 11, 12, 13, 14, 15, 16, 17, 18] [] [0, 1, 2, 3, 4, 5, 6, 7, 8, 9, 10, 11, 12, 13, 14, 15, 16, 17, 18] rfl rfl (by decide) (fun _ => rfl) (fun u_11 H locs hP hD hS hz => ?_)
    refine lv_iconst (v := Int32.ofInt 1) hx hb dX7_leafOf_17 rfl ?_
    refine z_isub hx hb dX7_leafOf_18 ?_
    refine lv_goto (tgt := 23) hx hb dX7_leafOf_19 (by decide) ?_
    obtain rfl := Option.some.inj h
    exact z_iret hx hb hr hlk (fun _ _ => 0) hP hD hS dX7_leafOf_23
def f_Mo_setting (c_s : Nat → Int) (x1 : Int) : Option (Int) :=
  bd1 (f_Mo_in x1 0 1) <| fun r_1 => gd (ck r_1) <| if r_1 = 0 then (some ((-1))) else (gd (0 ≤ x1 ∧ x1 < ((461 : Nat) : Int)) <| some ((c_s (x1).toNat)))
abbrev rm_Mo_setting : Room := ({ frames := 1, cells := 0, slots := 0, locals := 22 } : Room)
set_option maxHeartbeats 4000000 in
set_option maxRecDepth 100000 in
theorem c_Mo_setting (l : Launch) (D : va_G) (cI cZ cT : ClassId) (h_M : Nat) (q_M : Nat → Nat) (c_s : Nat → Int) (c_past : Nat → Int) (c_kept : Nat → Int) (c_isKept : Int) (c_pasts : Int) (c_text : Nat → Int) (c_typed : Int) (c_rect : Nat → Int) (c_item : Nat → Int) (c_items : Int) (c_itemLevel : Int) (c_treated : Nat → Int) (c_from : Nat → Int) (c_group : Nat → Int) (c_turn : Nat → Int) (c_size : Nat → Int) (c_old : Nat → Int) (c_aside : Nat → Int) (c_begin : Nat → Int) (c_level : Nat → Int) (c_asides : Int) (c_sorted : Nat → Int) (c_spot : Int) (c_rectangles : Int) (c_parts : Nat → Int) (c_visited : Nat → Int) (x1 : Int) (sz : Nat) (res : Int) (h : f_Mo_setting c_s x1 = some res) : zMi l yX7_setting cX7_setting 2 rm_Mo_setting D (zt cI cZ cT) [.ref h_M, vI x1] ((zMo cI cZ h_M q_M c_s c_past c_kept c_isKept c_pasts c_text c_typed c_rect c_item c_items c_itemLevel c_treated c_from c_group c_turn c_size c_old c_aside c_begin c_level c_asides c_sorted c_spot c_rectangles c_parts c_visited)) sz (res) (fun u => (zMo cI cZ h_M q_M c_s c_past c_kept c_isKept c_pasts c_text c_typed c_rect c_item c_items c_itemLevel c_treated c_from c_group c_turn c_size c_old c_aside c_begin c_level c_asides c_sorted c_spot c_rectangles c_parts c_visited)) 0 0 := by
  refine z_enth (Qc := zQi D (res) (fun u => (zMo cI cZ h_M q_M c_s c_past c_kept c_isKept c_pasts c_text c_typed c_rect c_item c_items c_itemLevel c_treated c_from c_group c_turn c_size c_old c_aside c_begin c_level c_asides c_sorted c_spot c_rectangles c_parts c_visited))) (by decide) (Nat.le_of_ble_eq_true rfl) (fun p e s m args below meth c A ls H locs hF hP hD hS hl => ?_)
  have hx := hF.1.1
  have hb := hF.1.2.1
  have hml := hF.1.2.2.1
  have hown : s.vm.findClass "RectangleTreeModel" = some m.cls := hF.1.2.2.2.1
  have hts := hF.1.2.2.2.2
  have hr := hF.2.1
  have hlk := hF.2.2.1
  have hK := hF.2.2.2.2.1
  have hN := hF.2.2.2.2.2.1
  have hA := hF.2.2.2.2.2.2
  unfold f_Mo_setting at h
  refine lv_iload_n hx hb dX7_setting_0 rfl (lv_at hl 1 rfl) ?_
  refine lv_iconst (v := Int32.ofInt 0) hx hb dX7_setting_1 rfl ?_
  refine lv_iconst (v := Int32.ofInt 1) hx hb dX7_setting_2 rfl ?_
  obtain ⟨r_1, e_2, h⟩ := bd1_e h
  refine z_goi (ws' := []) (ret := r_1) (wc := ([] : va_W)) (wn := fun u_3 => (zMo cI cZ h_M q_M c_s c_past c_kept c_isKept c_pasts c_text c_typed c_rect c_item c_items c_itemLevel c_treated c_from c_group c_turn c_size c_old c_aside c_begin c_level c_asides c_sorted c_spot c_rectangles c_parts c_visited)) (wr := ([0, 1, 2, 3, 4, 5, 6, 7, 8, 9, 10, 11, 12, 13, 14, 15, 16, 17, 18].filterMap (fun i => ((zMo cI cZ h_M q_M c_s c_past c_kept c_isKept c_pasts c_text c_typed c_rect c_item c_items c_itemLevel c_treated c_from c_group c_turn c_size c_old c_aside c_begin c_level c_asides c_sorted c_spot c_rectangles c_parts c_visited))[i]?))) (va_runS (As := [vI x1, vI 0, vI 1]) (rest := []) hF.1 (c_Mo_in l D cI cZ cT x1 0 1 H.size (r_1) e_2) (va_cwS 3 hts (zgS wm874 wm875 wm89 wm876) rfl rfl rfl (by decide +kernel) ⟨Nat.le_of_ble_eq_true rfl, Nat.le_of_ble_eq_true rfl⟩) ⟨zP.blind, zP.enter (z_subP (ws' := ([] : va_W)) hP [] rfl) hK (hD.sub [] (by decide) rfl) hN⟩ rfl rfl hl.1 rfl (lv_room (Nat.le_of_ble_eq_true rfl)) dX7_setting_3 ⟨Nat.le_refl _, Nat.le_refl _⟩) hP hD hS hA [] [0, 1, 2, 3, 4, 5, 6, 7, 8, 9, 10, 11, 12, 13, 14, 15, 16, 17, 18] [0, 1, 2, 3, 4, 5, 6, 7, 8, 9, 10, 11, 12, 13, 14, 15, 16, 17, 18] rfl rfl (by decide) (fun _ => rfl) (fun u_3 H locs hP hD hS hz => ?_)
  obtain ⟨g_4, h⟩ := gd_e h
  refine z_if_eq (tgt := 18) hx hb g_4 dX7_setting_6 (by decide) (fun b_5 => ?_) (fun b_5 => ?_)
  · have h := it_p b_5 h
    refine lv_iconst (v := Int32.ofInt (-1)) hx hb dX7_setting_18 rfl ?_
    obtain rfl := Option.some.inj h
    exact z_iret hx hb hr hlk (fun _ _ => 0) hP hD hS dX7_setting_19
  · have h := it_n b_5 h
    refine lv_aload_n hx hb dX7_setting_9 rfl (lv_at hl 0 rfl) ?_
    refine va_get (D := D) (ci := 7) (v := .ref (q_M 0)) (C := RX7) (T := TX7) (N := 26) hx hb hts zin7 hown hK hP 0 rfl rfl 0 (by decide) (hts _ wm787) (fun _ h9 => h9) rfl dX7_setting_10 ?_
    refine lv_iload_n hx hb dX7_setting_13 rfl (lv_at hl 1 rfl) ?_
    obtain ⟨g_6, h⟩ := gd_e h
    refine z_iald (n := 461) (f := c_s) (i := x1) hx hb hK hP 1 rfl rfl g_6 (by have := g_6.2; omega) dX7_setting_14 ?_
    refine lv_goto (tgt := 19) hx hb dX7_setting_15 (by decide) ?_
    obtain rfl := Option.some.inj h
    exact z_iret hx hb hr hlk (fun _ _ => 0) hP hD hS dX7_setting_19
def f_Mo_splits (c_s : Nat → Int) : Option (Int) :=
  some ((c_s 2))
abbrev rm_Mo_splits : Room := ({ frames := 0, cells := 0, slots := 0, locals := 0 } : Room)
set_option maxHeartbeats 4000000 in
set_option maxRecDepth 100000 in
theorem c_Mo_splits (l : Launch) (D : va_G) (cI cZ cT : ClassId) (h_M : Nat) (q_M : Nat → Nat) (c_s : Nat → Int) (c_past : Nat → Int) (c_kept : Nat → Int) (c_isKept : Int) (c_pasts : Int) (c_text : Nat → Int) (c_typed : Int) (c_rect : Nat → Int) (c_item : Nat → Int) (c_items : Int) (c_itemLevel : Int) (c_treated : Nat → Int) (c_from : Nat → Int) (c_group : Nat → Int) (c_turn : Nat → Int) (c_size : Nat → Int) (c_old : Nat → Int) (c_aside : Nat → Int) (c_begin : Nat → Int) (c_level : Nat → Int) (c_asides : Int) (c_sorted : Nat → Int) (c_spot : Int) (c_rectangles : Int) (c_parts : Nat → Int) (c_visited : Nat → Int) (sz : Nat) (res : Int) (h : f_Mo_splits c_s = some res) : zMi l yX7_splits cX7_splits 1 rm_Mo_splits D (zt cI cZ cT) [.ref h_M] ((zMo cI cZ h_M q_M c_s c_past c_kept c_isKept c_pasts c_text c_typed c_rect c_item c_items c_itemLevel c_treated c_from c_group c_turn c_size c_old c_aside c_begin c_level c_asides c_sorted c_spot c_rectangles c_parts c_visited)) sz (res) (fun u => (zMo cI cZ h_M q_M c_s c_past c_kept c_isKept c_pasts c_text c_typed c_rect c_item c_items c_itemLevel c_treated c_from c_group c_turn c_size c_old c_aside c_begin c_level c_asides c_sorted c_spot c_rectangles c_parts c_visited)) 0 0 := by
  refine z_enth (Qc := zQi D (res) (fun u => (zMo cI cZ h_M q_M c_s c_past c_kept c_isKept c_pasts c_text c_typed c_rect c_item c_items c_itemLevel c_treated c_from c_group c_turn c_size c_old c_aside c_begin c_level c_asides c_sorted c_spot c_rectangles c_parts c_visited))) (by decide) (Nat.le_of_ble_eq_true rfl) (fun p e s m args below meth c A ls H locs hF hP hD hS hl => ?_)
  have hx := hF.1.1
  have hb := hF.1.2.1
  have hml := hF.1.2.2.1
  have hown : s.vm.findClass "RectangleTreeModel" = some m.cls := hF.1.2.2.2.1
  have hts := hF.1.2.2.2.2
  have hr := hF.2.1
  have hlk := hF.2.2.1
  have hK := hF.2.2.2.2.1
  have hN := hF.2.2.2.2.2.1
  have hA := hF.2.2.2.2.2.2
  unfold f_Mo_splits at h
  refine lv_aload_n hx hb dX7_splits_0 rfl (lv_at hl 0 rfl) ?_
  refine va_get (D := D) (ci := 7) (v := .ref (q_M 0)) (C := RX7) (T := TX7) (N := 26) hx hb hts zin7 hown hK hP 0 rfl rfl 0 (by decide) (hts _ wm787) (fun _ h9 => h9) rfl dX7_splits_1 ?_
  refine lv_iconst (v := Int32.ofInt 2) hx hb dX7_splits_4 rfl ?_
  refine z_iald (n := 461) (f := c_s) (i := 2) hx hb hK hP 1 rfl rfl (by decide) (by decide) dX7_splits_5 ?_
  obtain rfl := Option.some.inj h
  exact z_iret hx hb hr hlk (fun _ _ => 0) hP hD hS dX7_splits_6
def f_Mo_reinsertions (c_s : Nat → Int) : Option (Int) :=
  some ((c_s 3))
abbrev rm_Mo_reinsertions : Room := ({ frames := 0, cells := 0, slots := 0, locals := 0 } : Room)
set_option maxHeartbeats 4000000 in
set_option maxRecDepth 100000 in
theorem c_Mo_reinsertions (l : Launch) (D : va_G) (cI cZ cT : ClassId) (h_M : Nat) (q_M : Nat → Nat) (c_s : Nat → Int) (c_past : Nat → Int) (c_kept : Nat → Int) (c_isKept : Int) (c_pasts : Int) (c_text : Nat → Int) (c_typed : Int) (c_rect : Nat → Int) (c_item : Nat → Int) (c_items : Int) (c_itemLevel : Int) (c_treated : Nat → Int) (c_from : Nat → Int) (c_group : Nat → Int) (c_turn : Nat → Int) (c_size : Nat → Int) (c_old : Nat → Int) (c_aside : Nat → Int) (c_begin : Nat → Int) (c_level : Nat → Int) (c_asides : Int) (c_sorted : Nat → Int) (c_spot : Int) (c_rectangles : Int) (c_parts : Nat → Int) (c_visited : Nat → Int) (sz : Nat) (res : Int) (h : f_Mo_reinsertions c_s = some res) : zMi l yX7_reinsertions cX7_reinsertions 1 rm_Mo_reinsertions D (zt cI cZ cT) [.ref h_M] ((zMo cI cZ h_M q_M c_s c_past c_kept c_isKept c_pasts c_text c_typed c_rect c_item c_items c_itemLevel c_treated c_from c_group c_turn c_size c_old c_aside c_begin c_level c_asides c_sorted c_spot c_rectangles c_parts c_visited)) sz (res) (fun u => (zMo cI cZ h_M q_M c_s c_past c_kept c_isKept c_pasts c_text c_typed c_rect c_item c_items c_itemLevel c_treated c_from c_group c_turn c_size c_old c_aside c_begin c_level c_asides c_sorted c_spot c_rectangles c_parts c_visited)) 0 0 := by
  refine z_enth (Qc := zQi D (res) (fun u => (zMo cI cZ h_M q_M c_s c_past c_kept c_isKept c_pasts c_text c_typed c_rect c_item c_items c_itemLevel c_treated c_from c_group c_turn c_size c_old c_aside c_begin c_level c_asides c_sorted c_spot c_rectangles c_parts c_visited))) (by decide) (Nat.le_of_ble_eq_true rfl) (fun p e s m args below meth c A ls H locs hF hP hD hS hl => ?_)
  have hx := hF.1.1
  have hb := hF.1.2.1
  have hml := hF.1.2.2.1
  have hown : s.vm.findClass "RectangleTreeModel" = some m.cls := hF.1.2.2.2.1
  have hts := hF.1.2.2.2.2
  have hr := hF.2.1
  have hlk := hF.2.2.1
  have hK := hF.2.2.2.2.1
  have hN := hF.2.2.2.2.2.1
  have hA := hF.2.2.2.2.2.2
  unfold f_Mo_reinsertions at h
  refine lv_aload_n hx hb dX7_reinsertions_0 rfl (lv_at hl 0 rfl) ?_
  refine va_get (D := D) (ci := 7) (v := .ref (q_M 0)) (C := RX7) (T := TX7) (N := 26) hx hb hts zin7 hown hK hP 0 rfl rfl 0 (by decide) (hts _ wm787) (fun _ h9 => h9) rfl dX7_reinsertions_1 ?_
  refine lv_iconst (v := Int32.ofInt 3) hx hb dX7_reinsertions_4 rfl ?_
  refine z_iald (n := 461) (f := c_s) (i := 3) hx hb hK hP 1 rfl rfl (by decide) (by decide) dX7_reinsertions_5 ?_
  obtain rfl := Option.some.inj h
  exact z_iret hx hb hr hlk (fun _ _ => 0) hP hD hS dX7_reinsertions_6
def f_Mo_frames (c_rect : Nat → Int) (x1 : Int) (x2 : Int) (x3 : Int) (x4 : Int) : Option ((Nat → Int)) :=
  some ((up (up (up (up c_rect (40) x1) (41) x2) (42) x3) (43) x4))
abbrev rm_Mo_frames : Room := ({ frames := 0, cells := 0, slots := 0, locals := 0 } : Room)
set_option maxHeartbeats 4000000 in
set_option maxRecDepth 100000 in
theorem c_Mo_frames (l : Launch) (D : va_G) (cI cZ cT : ClassId) (h_M : Nat) (q_M : Nat → Nat) (c_s : Nat → Int) (c_past : Nat → Int) (c_kept : Nat → Int) (c_isKept : Int) (c_pasts : Int) (c_text : Nat → Int) (c_typed : Int) (c_rect : Nat → Int) (c_item : Nat → Int) (c_items : Int) (c_itemLevel : Int) (c_treated : Nat → Int) (c_from : Nat → Int) (c_group : Nat → Int) (c_turn : Nat → Int) (c_size : Nat → Int) (c_old : Nat → Int) (c_aside : Nat → Int) (c_begin : Nat → Int) (c_level : Nat → Int) (c_asides : Int) (c_sorted : Nat → Int) (c_spot : Int) (c_rectangles : Int) (c_parts : Nat → Int) (c_visited : Nat → Int) (x1 : Int) (x2 : Int) (x3 : Int) (x4 : Int) (sz : Nat) (res : (Nat → Int)) (h : f_Mo_frames c_rect x1 x2 x3 x4 = some res) : zMv l yX7_frames cX7_frames 5 rm_Mo_frames D (zt cI cZ cT) [.ref h_M, vI x1, vI x2, vI x3, vI x4] ((zMo cI cZ h_M q_M c_s c_past c_kept c_isKept c_pasts c_text c_typed c_rect c_item c_items c_itemLevel c_treated c_from c_group c_turn c_size c_old c_aside c_begin c_level c_asides c_sorted c_spot c_rectangles c_parts c_visited)) sz (fun u => (zMo cI cZ h_M q_M c_s c_past c_kept c_isKept c_pasts c_text c_typed (res) c_item c_items c_itemLevel c_treated c_from c_group c_turn c_size c_old c_aside c_begin c_level c_asides c_sorted c_spot c_rectangles c_parts c_visited)) 0 0 := by
  refine z_enth (Qc := zQv D (fun u => (zMo cI cZ h_M q_M c_s c_past c_kept c_isKept c_pasts c_text c_typed (res) c_item c_items c_itemLevel c_treated c_from c_group c_turn c_size c_old c_aside c_begin c_level c_asides c_sorted c_spot c_rectangles c_parts c_visited))) (by decide) (Nat.le_of_ble_eq_true rfl) (fun p e s m args below meth c A ls H locs hF hP hD hS hl => ?_)
  have hx := hF.1.1
  have hb := hF.1.2.1
  have hml := hF.1.2.2.1
  have hown : s.vm.findClass "RectangleTreeModel" = some m.cls := hF.1.2.2.2.1
  have hts := hF.1.2.2.2.2
  have hr := hF.2.1
  have hlk := hF.2.2.1
  have hK := hF.2.2.2.2.1
  have hN := hF.2.2.2.2.2.1
  have hA := hF.2.2.2.2.2.2
  unfold f_Mo_frames at h
  refine lv_aload_n hx hb dX7_frames_0 rfl (lv_at hl 0 rfl) ?_
  refine va_get (D := D) (ci := 7) (v := .ref (q_M 4)) (C := RX7) (T := TX7) (N := 26) hx hb hts zin7 hown hK hP 0 rfl rfl 7 (by decide) (hts _ wm794) (fun _ h9 => h9) rfl dX7_frames_1 ?_
  refine lv_bipush (v := Int32.ofInt 40) hx hb dX7_frames_4 (by decide +kernel) ?_
  refine lv_iload_n hx hb dX7_frames_6 rfl (lv_at hl 1 rfl) ?_
  refine z_iast (n := 48) (f := c_rect) (i := 40) (x := x1) (ws' := (zMo cI cZ h_M q_M c_s c_past c_kept c_isKept c_pasts c_text c_typed (up c_rect (40) x1) c_item c_items c_itemLevel c_treated c_from c_group c_turn c_size c_old c_aside c_begin c_level c_asides c_sorted c_spot c_rectangles c_parts c_visited)) hx hb hK hP hD hS 5 rfl rfl (by decide) (by decide) dX7_frames_7 rfl (fun H locs hP hD hS => ?_)
  refine lv_aload_n hx hb dX7_frames_8 rfl (lv_at hl 0 rfl) ?_
  refine va_get (D := D) (ci := 7) (v := .ref (q_M 4)) (C := RX7) (T := TX7) (N := 26) hx hb hts zin7 hown hK hP 0 rfl rfl 7 (by decide) (hts _ wm794) (fun _ h9 => h9) rfl dX7_frames_9 ?_
  refine lv_bipush (v := Int32.ofInt 41) hx hb dX7_frames_12 (by decide +kernel) ?_
  refine lv_iload_n hx hb dX7_frames_14 rfl (lv_at hl 2 rfl) ?_
  refine z_iast (n := 48) (f := (up c_rect (40) x1)) (i := 41) (x := x2) (ws' := (zMo cI cZ h_M q_M c_s c_past c_kept c_isKept c_pasts c_text c_typed (up (up c_rect (40) x1) (41) x2) c_item c_items c_itemLevel c_treated c_from c_group c_turn c_size c_old c_aside c_begin c_level c_asides c_sorted c_spot c_rectangles c_parts c_visited)) hx hb hK hP hD hS 5 rfl rfl (by decide) (by decide) dX7_frames_15 rfl (fun H locs hP hD hS => ?_)
  refine lv_aload_n hx hb dX7_frames_16 rfl (lv_at hl 0 rfl) ?_
  refine va_get (D := D) (ci := 7) (v := .ref (q_M 4)) (C := RX7) (T := TX7) (N := 26) hx hb hts zin7 hown hK hP 0 rfl rfl 7 (by decide) (hts _ wm794) (fun _ h9 => h9) rfl dX7_frames_17 ?_
  refine lv_bipush (v := Int32.ofInt 42) hx hb dX7_frames_20 (by decide +kernel) ?_
  refine lv_iload_n hx hb dX7_frames_22 rfl (lv_at hl 3 rfl) ?_
  refine z_iast (n := 48) (f := (up (up c_rect (40) x1) (41) x2)) (i := 42) (x := x3) (ws' := (zMo cI cZ h_M q_M c_s c_past c_kept c_isKept c_pasts c_text c_typed (up (up (up c_rect (40) x1) (41) x2) (42) x3) c_item c_items c_itemLevel c_treated c_from c_group c_turn c_size c_old c_aside c_begin c_level c_asides c_sorted c_spot c_rectangles c_parts c_visited)) hx hb hK hP hD hS 5 rfl rfl (by decide) (by decide) dX7_frames_23 rfl (fun H locs hP hD hS => ?_)
  refine lv_aload_n hx hb dX7_frames_24 rfl (lv_at hl 0 rfl) ?_
  refine va_get (D := D) (ci := 7) (v := .ref (q_M 4)) (C := RX7) (T := TX7) (N := 26) hx hb hts zin7 hown hK hP 0 rfl rfl 7 (by decide) (hts _ wm794) (fun _ h9 => h9) rfl dX7_frames_25 ?_
  refine lv_bipush (v := Int32.ofInt 43) hx hb dX7_frames_28 (by decide +kernel) ?_
  refine lv_iload hx hb dX7_frames_30 (lv_at hl 4 rfl) ?_
  refine z_iast (n := 48) (f := (up (up (up c_rect (40) x1) (41) x2) (42) x3)) (i := 43) (x := x4) (ws' := (zMo cI cZ h_M q_M c_s c_past c_kept c_isKept c_pasts c_text c_typed (up (up (up (up c_rect (40) x1) (41) x2) (42) x3) (43) x4) c_item c_items c_itemLevel c_treated c_from c_group c_turn c_size c_old c_aside c_begin c_level c_asides c_sorted c_spot c_rectangles c_parts c_visited)) hx hb hK hP hD hS 5 rfl rfl (by decide) (by decide) dX7_frames_32 rfl (fun H locs hP hD hS => ?_)
  obtain rfl := Option.some.inj h
  exact z_vret hx hb hr hlk (fun _ _ => 0) hP hD hS dX7_frames_33
def f_Mo_meets (c_s : Nat → Int) (c_rect : Nat → Int) (x1 : Int) : Option (Int × (Nat → Int)) :=
  bd1 (f_Mo_boundsAt c_s c_rect x1 0) <| fun c_rect_1 => bd1 (f_Mo_commonArea c_rect_1 0 10) <| fun r_4 => gd (ck r_4) <| if 0 < r_4 then (some (1, c_rect_1)) else (some (0, c_rect_1))
abbrev rm_Mo_meets : Room := ({ frames := 4, cells := 0, slots := 0, locals := 86 } : Room)
set_option maxHeartbeats 4000000 in
set_option maxRecDepth 100000 in
theorem c_Mo_meets (l : Launch) (D : va_G) (cI cZ cT : ClassId) (h_M : Nat) (q_M : Nat → Nat) (c_s : Nat → Int) (c_past : Nat → Int) (c_kept : Nat → Int) (c_isKept : Int) (c_pasts : Int) (c_text : Nat → Int) (c_typed : Int) (c_rect : Nat → Int) (c_item : Nat → Int) (c_items : Int) (c_itemLevel : Int) (c_treated : Nat → Int) (c_from : Nat → Int) (c_group : Nat → Int) (c_turn : Nat → Int) (c_size : Nat → Int) (c_old : Nat → Int) (c_aside : Nat → Int) (c_begin : Nat → Int) (c_level : Nat → Int) (c_asides : Int) (c_sorted : Nat → Int) (c_spot : Int) (c_rectangles : Int) (c_parts : Nat → Int) (c_visited : Nat → Int) (x1 : Int) (sz : Nat) (res : Int × (Nat → Int)) (h : f_Mo_meets c_s c_rect x1 = some res) : zMz l yX7_meets cX7_meets 2 rm_Mo_meets D (zt cI cZ cT) [.ref h_M, vI x1] ((zMo cI cZ h_M q_M c_s c_past c_kept c_isKept c_pasts c_text c_typed c_rect c_item c_items c_itemLevel c_treated c_from c_group c_turn c_size c_old c_aside c_begin c_level c_asides c_sorted c_spot c_rectangles c_parts c_visited)) sz (res.1) (fun u => (zMo cI cZ h_M q_M c_s c_past c_kept c_isKept c_pasts c_text c_typed (res.2) c_item c_items c_itemLevel c_treated c_from c_group c_turn c_size c_old c_aside c_begin c_level c_asides c_sorted c_spot c_rectangles c_parts c_visited)) 0 0 := by
  refine z_enth (Qc := zQi D (res.1) (fun u => (zMo cI cZ h_M q_M c_s c_past c_kept c_isKept c_pasts c_text c_typed (res.2) c_item c_items c_itemLevel c_treated c_from c_group c_turn c_size c_old c_aside c_begin c_level c_asides c_sorted c_spot c_rectangles c_parts c_visited))) (by decide) (Nat.le_of_ble_eq_true rfl) (fun p e s m args below meth c A ls H locs hF hP hD hS hl => ?_)
  have hx := hF.1.1
  have hb := hF.1.2.1
  have hml := hF.1.2.2.1
  have hown : s.vm.findClass "RectangleTreeModel" = some m.cls := hF.1.2.2.2.1
  have hts := hF.1.2.2.2.2
  have hr := hF.2.1
  have hlk := hF.2.2.1
  have hK := hF.2.2.2.2.1
  have hN := hF.2.2.2.2.2.1
  have hA := hF.2.2.2.2.2.2
  unfold f_Mo_meets at h
  refine lv_aload_n hx hb dX7_meets_0 rfl (lv_at hl 0 rfl) ?_
  refine lv_iload_n hx hb dX7_meets_1 rfl (lv_at hl 1 rfl) ?_
  refine lv_iconst (v := Int32.ofInt 0) hx hb dX7_meets_2 rfl ?_
  obtain ⟨c_rect_1, e_2, h⟩ := bd1_e h
  refine z_gov (wc := (zMo cI cZ (h_M) (q_M) (c_s) (c_past) (c_kept) (c_isKept) (c_pasts) (c_text) (c_typed) (c_rect) (c_item) (c_items) (c_itemLevel) (c_treated) (c_from) (c_group) (c_turn) (c_size) (c_old) (c_aside) (c_begin) (c_level) (c_asides) (c_sorted) (c_spot) (c_rectangles) (c_parts) (c_visited))) (wn := fun u_3 => (zMo cI cZ h_M q_M c_s c_past c_kept c_isKept c_pasts c_text c_typed c_rect_1 c_item c_items c_itemLevel c_treated c_from c_group c_turn c_size c_old c_aside c_begin c_level c_asides c_sorted c_spot c_rectangles c_parts c_visited)) (wr := []) (va_runV (As := [vI x1, vI 0]) (rest := []) hF.1 (c_Mo_boundsAt l D cI cZ cT h_M q_M c_s c_past c_kept c_isKept c_pasts c_text c_typed c_rect c_item c_items c_itemLevel c_treated c_from c_group c_turn c_size c_old c_aside c_begin c_level c_asides c_sorted c_spot c_rectangles c_parts c_visited x1 0 H.size (c_rect_1) e_2) (cwV 2 hts (zgV wm930 wm932 wm42 wm89 wm933) rfl rfl rfl (by decide +kernel) ⟨Nat.le_of_ble_eq_true rfl, Nat.le_of_ble_eq_true rfl⟩) ⟨zP.blind, va_recv hK (z_subP (ws' := (zMo cI cZ (h_M) (q_M) (c_s) (c_past) (c_kept) (c_isKept) (c_pasts) (c_text) (c_typed) (c_rect) (c_item) (c_items) (c_itemLevel) (c_treated) (c_from) (c_group) (c_turn) (c_size) (c_old) (c_aside) (c_begin) (c_level) (c_asides) (c_sorted) (c_spot) (c_rectangles) (c_parts) (c_visited))) hP [0, 1, 2, 3, 4, 5, 6, 7, 8, 9, 10, 11, 12, 13, 14, 15, 16, 17, 18] rfl) (ci := 7) (q0 := 0) rfl rfl, zP.enter (z_subP (ws' := (zMo cI cZ (h_M) (q_M) (c_s) (c_past) (c_kept) (c_isKept) (c_pasts) (c_text) (c_typed) (c_rect) (c_item) (c_items) (c_itemLevel) (c_treated) (c_from) (c_group) (c_turn) (c_size) (c_old) (c_aside) (c_begin) (c_level) (c_asides) (c_sorted) (c_spot) (c_rectangles) (c_parts) (c_visited))) hP [0, 1, 2, 3, 4, 5, 6, 7, 8, 9, 10, 11, 12, 13, 14, 15, 16, 17, 18] rfl) hK (hD.sub [0, 1, 2, 3, 4, 5, 6, 7, 8, 9, 10, 11, 12, 13, 14, 15, 16, 17, 18] (by decide) rfl) hN⟩ rfl rfl hl.1 rfl (lv_room (Nat.le_of_ble_eq_true rfl)) dX7_meets_3 ⟨Nat.le_refl _, Nat.le_refl _⟩) hP hD hS hA [0, 1, 2, 3, 4, 5, 6, 7, 8, 9, 10, 11, 12, 13, 14, 15, 16, 17, 18] [] [0, 1, 2, 3, 4, 5, 6, 7, 8, 9, 10, 11, 12, 13, 14, 15, 16, 17, 18] rfl rfl (by decide) (fun _ => rfl) (fun u_3 H locs hP hD hS hz => ?_)
  refine lv_aload_n hx hb dX7_meets_6 rfl (lv_at hl 0 rfl) ?_
  refine lv_iconst (v := Int32.ofInt 0) hx hb dX7_meets_7 rfl ?_
  refine lv_bipush (v := Int32.ofInt 10) hx hb dX7_meets_8 (by decide +kernel) ?_
  obtain ⟨r_4, e_5, h⟩ := bd1_e h
  refine z_goi (ws' := []) (ret := r_4) (wc := (zMo cI cZ (h_M) (q_M) (c_s) (c_past) (c_kept) (c_isKept) (c_pasts) (c_text) (c_typed) (c_rect_1) (c_item) (c_items) (c_itemLevel) (c_treated) (c_from) (c_group) (c_turn) (c_size) (c_old) (c_aside) (c_begin) (c_level) (c_asides) (c_sorted) (c_spot) (c_rectangles) (c_parts) (c_visited))) (wn := fun u_6 => (zMo cI cZ h_M q_M c_s c_past c_kept c_isKept c_pasts c_text c_typed c_rect_1 c_item c_items c_itemLevel c_treated c_from c_group c_turn c_size c_old c_aside c_begin c_level c_asides c_sorted c_spot c_rectangles c_parts c_visited)) (wr := []) (va_runV (As := [vI 0, vI 10]) (rest := []) hF.1 (c_Mo_commonArea l D cI cZ cT h_M q_M c_s c_past c_kept c_isKept c_pasts c_text c_typed c_rect_1 c_item c_items c_itemLevel c_treated c_from c_group c_turn c_size c_old c_aside c_begin c_level c_asides c_sorted c_spot c_rectangles c_parts c_visited 0 10 H.size (r_4) e_5) (cwV 2 hts (zgV wm1171 wm1173 wm79 wm89 wm1174) rfl rfl rfl (by decide +kernel) ⟨Nat.le_of_ble_eq_true rfl, Nat.le_of_ble_eq_true rfl⟩) ⟨zP.blind, va_recv hK (z_subP (ws' := (zMo cI cZ (h_M) (q_M) (c_s) (c_past) (c_kept) (c_isKept) (c_pasts) (c_text) (c_typed) (c_rect_1) (c_item) (c_items) (c_itemLevel) (c_treated) (c_from) (c_group) (c_turn) (c_size) (c_old) (c_aside) (c_begin) (c_level) (c_asides) (c_sorted) (c_spot) (c_rectangles) (c_parts) (c_visited))) hP [0, 1, 2, 3, 4, 5, 6, 7, 8, 9, 10, 11, 12, 13, 14, 15, 16, 17, 18] rfl) (ci := 7) (q0 := 0) rfl rfl, zP.enter (z_subP (ws' := (zMo cI cZ (h_M) (q_M) (c_s) (c_past) (c_kept) (c_isKept) (c_pasts) (c_text) (c_typed) (c_rect_1) (c_item) (c_items) (c_itemLevel) (c_treated) (c_from) (c_group) (c_turn) (c_size) (c_old) (c_aside) (c_begin) (c_level) (c_asides) (c_sorted) (c_spot) (c_rectangles) (c_parts) (c_visited))) hP [0, 1, 2, 3, 4, 5, 6, 7, 8, 9, 10, 11, 12, 13, 14, 15, 16, 17, 18] rfl) hK (hD.sub [0, 1, 2, 3, 4, 5, 6, 7, 8, 9, 10, 11, 12, 13, 14, 15, 16, 17, 18] (by decide) rfl) hN⟩ rfl rfl hl.1 rfl (lv_room (Nat.le_of_ble_eq_true rfl)) dX7_meets_10 ⟨Nat.le_refl _, Nat.le_refl _⟩) hP hD hS hA [0, 1, 2, 3, 4, 5, 6, 7, 8, 9, 10, 11, 12, 13, 14, 15, 16, 17, 18] [] [0, 1, 2, 3, 4, 5, 6, 7, 8, 9, 10, 11, 12, 13, 14, 15, 16, 17, 18] rfl rfl (by decide) (fun _ => rfl) (fun u_6 H locs hP hD hS hz => ?_)
  obtain ⟨g_7, h⟩ := gd_e h
  refine z_if_le (tgt := 20) hx hb g_7 dX7_meets_13 (by decide) (fun b_8 => ?_) (fun b_8 => ?_)
  · have h := it_n b_8 h
    refine lv_iconst (v := Int32.ofInt 0) hx hb dX7_meets_20 rfl ?_
    obtain rfl := Option.some.inj h
    exact z_zret hx hb hr hlk (show narrow .boolean (.int (Int32.ofInt 0)) = .int (Int32.ofInt 0) from by decide) (fun _ _ => 0) hP hD hS dX7_meets_21
  · have h := it_p b_8 h
    refine lv_iconst (v := Int32.ofInt 1) hx hb dX7_meets_16 rfl ?_
    refine lv_goto (tgt := 21) hx hb dX7_meets_17 (by decide) ?_
    obtain rfl := Option.some.inj h
    exact z_zret hx hb hr hlk (show narrow .boolean (.int (Int32.ofInt 1)) = .int (Int32.ofInt 1) from by decide) (fun _ _ => 0) hP hD hS dX7_meets_21
def f_Mo_meeting_L29 (c_s : Nat → Int) (k : Int → Int → (Nat → Int) → Option (Int × (Nat → Int))) : Nat → Int → Int → (Nat → Int) → Option (Int × (Nat → Int))
  | 0, _, _, _ => none
  | n + 1, x5, x6, c_rect =>
  bd1 (f_Mo_length c_s) <| fun r_9 => gd (ck x6) <| gd (ck r_9) <| if x6 < r_9 then (bd1 (f_Mo_at c_s x6) <| fun r_15 => gd (ck r_15) <| if r_15 < 0 then (f_Mo_meeting_L29 c_s k n ((x5 + 0)) ((x6 + 1)) (c_rect)) else (bd2 (f_Mo_meets c_s c_rect x6) <| fun r_20 c_rect_21 => gd (ck r_20) <| if r_20 = 0 then (f_Mo_meeting_L29 c_s k n ((x5 + 0)) ((x6 + 1)) (c_rect_21)) else (f_Mo_meeting_L29 c_s k n ((x5 + 1)) ((x6 + 1)) (c_rect_21)))) else (k (x5) (x6) (c_rect))
def f_Mo_meeting (c_s : Nat → Int) (c_rect : Nat → Int) (x1 : Int) (x2 : Int) (x3 : Int) (x4 : Int) : Option (Int × (Nat → Int)) :=
  bd1 (f_Mo_isRectangle x1 x2 x3 x4) <| fun r_1 => gd (ck r_1) <| if r_1 = 0 then (some ((-2), c_rect)) else (bd1 (f_Mo_frames c_rect x1 x2 x3 x4) <| fun c_rect_6 => f_Mo_meeting_L29 (c_s) (fun x5_26 x6_27 c_rect_28 => some (x5_26, c_rect_28)) FU (0) (0) (c_rect_6))
abbrev rm_Mo_meeting : Room := ({ frames := 5, cells := 0, slots := 0, locals := 107 } : Room)
set_option maxHeartbeats 4000000 in
set_option maxRecDepth 100000 in
theorem w_Mo_meeting_L29 {p : Program} {l : Launch} {e : Env} {s : State} {m : MethodId} {args : Array Value} {below : List Frame} {meth : Method} {c : Code} {A : Nat → Prop} (D : va_G) (cI cZ cT : ClassId) (h_M : Nat) (q_M : Nat → Nat) (c_s : Nat → Int) (c_past : Nat → Int) (c_kept : Nat → Int) (c_isKept : Int) (c_pasts : Int) (c_text : Nat → Int) (c_typed : Int) (c_item : Nat → Int) (c_items : Int) (c_itemLevel : Int) (c_treated : Nat → Int) (c_from : Nat → Int) (c_group : Nat → Int) (c_turn : Nat → Int) (c_size : Nat → Int) (c_old : Nat → Int) (c_aside : Nat → Int) (c_begin : Nat → Int) (c_level : Nat → Int) (c_asides : Int) (c_sorted : Nat → Int) (c_spot : Int) (c_rectangles : Int) (c_parts : Nat → Int) (c_visited : Nat → Int) (res : Int × (Nat → Int)) (k : Int → Int → (Nat → Int) → Option (Int × (Nat → Int))) (hF : zF p m c cX7_meeting 7 s args yX7_meeting.cls meth (some .int) yX7_meeting.name A D (zt cI cZ cT))
    (hk : ∀ (x5 : Int) (x6 : Int) (c_rect : Nat → Int) (H : Heap) (locs : List Loc) (ls : Array Slot), k x5 x6 c_rect = some res → va_P D vwCl ((zMo cI cZ h_M q_M c_s c_past c_kept c_isKept c_pasts c_text c_typed c_rect c_item c_items c_itemLevel c_treated c_from c_group c_turn c_size c_old c_aside c_begin c_level c_asides c_sorted c_spot c_rectangles c_parts c_visited)) H → va_D A ((zMo cI cZ h_M q_M c_s c_past c_kept c_isKept c_pasts c_text c_typed c_rect c_item c_items c_itemLevel c_treated c_from c_group c_turn c_size c_old c_aside c_begin c_level c_asides c_sorted c_spot c_rectangles c_parts c_visited)) → va_S A s.heap H locs → lv_has ls 7 [(5, vI x5)] → W p l e rm_Mo_meeting s m args below meth c H locs 0 0 (MQ below (zQi D (res.1) (fun u => (zMo cI cZ h_M q_M c_s c_past c_kept c_isKept c_pasts c_text c_typed (res.2) c_item c_items c_itemLevel c_treated c_from c_group c_turn c_size c_old c_aside c_begin c_level c_asides c_sorted c_spot c_rectangles c_parts c_visited)) A) args s 0 0 A) (F0 m 72 ls [])) :
    ∀ (n : Nat) (x5 : Int) (x6 : Int) (c_rect : Nat → Int) (H : Heap) (locs : List Loc) (ls : Array Slot), f_Mo_meeting_L29 c_s k n x5 x6 c_rect = some res → va_P D vwCl ((zMo cI cZ h_M q_M c_s c_past c_kept c_isKept c_pasts c_text c_typed c_rect c_item c_items c_itemLevel c_treated c_from c_group c_turn c_size c_old c_aside c_begin c_level c_asides c_sorted c_spot c_rectangles c_parts c_visited)) H → va_D A ((zMo cI cZ h_M q_M c_s c_past c_kept c_isKept c_pasts c_text c_typed c_rect c_item c_items c_itemLevel c_treated c_from c_group c_turn c_size c_old c_aside c_begin c_level c_asides c_sorted c_spot c_rectangles c_parts c_visited)) → va_S A s.heap H locs → lv_has ls 7 [(0, .ref h_M), (5, vI x5), (6, vI x6)] → W p l e rm_Mo_meeting s m args below meth c H locs 0 0 (MQ below (zQi D (res.1) (fun u => (zMo cI cZ h_M q_M c_s c_past c_kept c_isKept c_pasts c_text c_typed (res.2) c_item c_items c_itemLevel c_treated c_from c_group c_turn c_size c_old c_aside c_begin c_level c_asides c_sorted c_spot c_rectangles c_parts c_visited)) A) args s 0 0 A) (F0 m 29 ls []) := by
  have hx := hF.1.1
  have hb := hF.1.2.1
  have hml := hF.1.2.2.1
  have hown : s.vm.findClass "RectangleTreeModel" = some m.cls := hF.1.2.2.2.1
  have hts := hF.1.2.2.2.2
  have hr := hF.2.1
  have hlk := hF.2.2.1
  have hK := hF.2.2.2.2.1
  have hN := hF.2.2.2.2.2.1
  have hA := hF.2.2.2.2.2.2
  intro n
  induction n with
  | zero => intro x5 x6 c_rect H locs ls h; cases h
  | succ n ih =>
    intro x5 x6 c_rect H locs ls h hP hD hS hl
    rw [f_Mo_meeting_L29] at h
    refine lv_iload hx hb dX7_meeting_29 (lv_at hl 2 rfl) ?_
    refine lv_aload_n hx hb dX7_meeting_31 rfl (lv_at hl 0 rfl) ?_
    obtain ⟨r_9, e_10, h⟩ := bd1_e h
    refine z_goi (ws' := []) (ret := r_9) (wc := (zMo cI cZ (h_M) (q_M) (c_s) (c_past) (c_kept) (c_isKept) (c_pasts) (c_text) (c_typed) (c_rect) (c_item) (c_items) (c_itemLevel) (c_treated) (c_from) (c_group) (c_turn) (c_size) (c_old) (c_aside) (c_begin) (c_level) (c_asides) (c_sorted) (c_spot) (c_rectangles) (c_parts) (c_visited))) (wn := fun u_11 => (zMo cI cZ h_M q_M c_s c_past c_kept c_isKept c_pasts c_text c_typed c_rect c_item c_items c_itemLevel c_treated c_from c_group c_turn c_size c_old c_aside c_begin c_level c_asides c_sorted c_spot c_rectangles c_parts c_visited)) (wr := []) (va_runV (As := []) (rest := [vI x6]) hF.1 (c_Mo_length l D cI cZ cT h_M q_M c_s c_past c_kept c_isKept c_pasts c_text c_typed c_rect c_item c_items c_itemLevel c_treated c_from c_group c_turn c_size c_old c_aside c_begin c_level c_asides c_sorted c_spot c_rectangles c_parts c_visited H.size (r_9) e_10) (cwV 0 hts (zgV wm926 wm928 wm41 wm89 wm929) rfl rfl rfl (by decide +kernel) ⟨Nat.le_of_ble_eq_true rfl, Nat.le_of_ble_eq_true rfl⟩) ⟨zP.blind, va_recv hK (z_subP (ws' := (zMo cI cZ (h_M) (q_M) (c_s) (c_past) (c_kept) (c_isKept) (c_pasts) (c_text) (c_typed) (c_rect) (c_item) (c_items) (c_itemLevel) (c_treated) (c_from) (c_group) (c_turn) (c_size) (c_old) (c_aside) (c_begin) (c_level) (c_asides) (c_sorted) (c_spot) (c_rectangles) (c_parts) (c_visited))) hP [0, 1, 2, 3, 4, 5, 6, 7, 8, 9, 10, 11, 12, 13, 14, 15, 16, 17, 18] rfl) (ci := 7) (q0 := 0) rfl rfl, zP.enter (z_subP (ws' := (zMo cI cZ (h_M) (q_M) (c_s) (c_past) (c_kept) (c_isKept) (c_pasts) (c_text) (c_typed) (c_rect) (c_item) (c_items) (c_itemLevel) (c_treated) (c_from) (c_group) (c_turn) (c_size) (c_old) (c_aside) (c_begin) (c_level) (c_asides) (c_sorted) (c_spot) (c_rectangles) (c_parts) (c_visited))) hP [0, 1, 2, 3, 4, 5, 6, 7, 8, 9, 10, 11, 12, 13, 14, 15, 16, 17, 18] rfl) hK (hD.sub [0, 1, 2, 3, 4, 5, 6, 7, 8, 9, 10, 11, 12, 13, 14, 15, 16, 17, 18] (by decide) rfl) hN⟩ rfl rfl hl.1 rfl (lv_room (Nat.le_of_ble_eq_true rfl)) dX7_meeting_32 ⟨Nat.le_refl _, Nat.le_refl _⟩) hP hD hS hA [0, 1, 2, 3, 4, 5, 6, 7, 8, 9, 10, 11, 12, 13, 14, 15, 16, 17, 18] [] [0, 1, 2, 3, 4, 5, 6, 7, 8, 9, 10, 11, 12, 13, 14, 15, 16, 17, 18] rfl rfl (by decide) (fun _ => rfl) (fun u_11 H locs hP hD hS hz => ?_)
    obtain ⟨g_12, h⟩ := gd_e h
    obtain ⟨g_13, h⟩ := gd_e h
    refine z_icmp_ge (tgt := 72) hx hb g_12 g_13 dX7_meeting_35 (by decide) (fun b_14 => ?_) (fun b_14 => ?_)
    · have h := it_n b_14 h
      exact hk (x5) (x6) (c_rect) H locs ls h hP hD hS (lv_sub hl [1] rfl)
    · have h := it_p b_14 h
      refine lv_iload hx hb dX7_meeting_38 (lv_at hl 1 rfl) ?_
      refine lv_aload_n hx hb dX7_meeting_40 rfl (lv_at hl 0 rfl) ?_
      refine lv_iload hx hb dX7_meeting_41 (lv_at hl 2 rfl) ?_
      obtain ⟨r_15, e_16, h⟩ := bd1_e h
      refine z_goi (ws' := []) (ret := r_15) (wc := (zMo cI cZ (h_M) (q_M) (c_s) (c_past) (c_kept) (c_isKept) (c_pasts) (c_text) (c_typed) (c_rect) (c_item) (c_items) (c_itemLevel) (c_treated) (c_from) (c_group) (c_turn) (c_size) (c_old) (c_aside) (c_begin) (c_level) (c_asides) (c_sorted) (c_spot) (c_rectangles) (c_parts) (c_visited))) (wn := fun u_17 => (zMo cI cZ h_M q_M c_s c_past c_kept c_isKept c_pasts c_text c_typed c_rect c_item c_items c_itemLevel c_treated c_from c_group c_turn c_size c_old c_aside c_begin c_level c_asides c_sorted c_spot c_rectangles c_parts c_visited)) (wr := []) (va_runV (As := [vI x6]) (rest := [vI x5]) hF.1 (c_Mo_at l D cI cZ cT h_M q_M c_s c_past c_kept c_isKept c_pasts c_text c_typed c_rect c_item c_items c_itemLevel c_treated c_from c_group c_turn c_size c_old c_aside c_begin c_level c_asides c_sorted c_spot c_rectangles c_parts c_visited x6 H.size (r_15) e_16) (cwV 1 hts (zgV wm915 wm917 wm39 wm89 wm918) rfl rfl rfl (by decide +kernel) ⟨Nat.le_of_ble_eq_true rfl, Nat.le_of_ble_eq_true rfl⟩) ⟨zP.blind, va_recv hK (z_subP (ws' := (zMo cI cZ (h_M) (q_M) (c_s) (c_past) (c_kept) (c_isKept) (c_pasts) (c_text) (c_typed) (c_rect) (c_item) (c_items) (c_itemLevel) (c_treated) (c_from) (c_group) (c_turn) (c_size) (c_old) (c_aside) (c_begin) (c_level) (c_asides) (c_sorted) (c_spot) (c_rectangles) (c_parts) (c_visited))) hP [0, 1, 2, 3, 4, 5, 6, 7, 8, 9, 10, 11, 12, 13, 14, 15, 16, 17, 18] rfl) (ci := 7) (q0 := 0) rfl rfl, zP.enter (z_subP (ws' := (zMo cI cZ (h_M) (q_M) (c_s) (c_past) (c_kept) (c_isKept) (c_pasts) (c_text) (c_typed) (c_rect) (c_item) (c_items) (c_itemLevel) (c_treated) (c_from) (c_group) (c_turn) (c_size) (c_old) (c_aside) (c_begin) (c_level) (c_asides) (c_sorted) (c_spot) (c_rectangles) (c_parts) (c_visited))) hP [0, 1, 2, 3, 4, 5, 6, 7, 8, 9, 10, 11, 12, 13, 14, 15, 16, 17, 18] rfl) hK (hD.sub [0, 1, 2, 3, 4, 5, 6, 7, 8, 9, 10, 11, 12, 13, 14, 15, 16, 17, 18] (by decide) rfl) hN⟩ rfl rfl hl.1 rfl (lv_room (Nat.le_of_ble_eq_true rfl)) dX7_meeting_43 ⟨Nat.le_refl _, Nat.le_refl _⟩) hP hD hS hA [0, 1, 2, 3, 4, 5, 6, 7, 8, 9, 10, 11, 12, 13, 14, 15, 16, 17, 18] [] [0, 1, 2, 3, 4, 5, 6, 7, 8, 9, 10, 11, 12, 13, 14, 15, 16, 17, 18] rfl rfl (by decide) (fun _ => rfl) (fun u_17 H locs hP hD hS hz => ?_)
      obtain ⟨g_18, h⟩ := gd_e h
      refine z_if_lt (tgt := 62) hx hb g_18 dX7_meeting_46 (by decide) (fun b_19 => ?_) (fun b_19 => ?_)
      · have h := it_p b_19 h
        refine lv_iconst (v := Int32.ofInt 0) hx hb dX7_meeting_62 rfl ?_
        refine z_iadd hx hb dX7_meeting_63 ?_
        refine lv_istore (lv' := [(5, vI (x5 + 0)), (0, .ref h_M), (6, vI x6)]) hx hb dX7_meeting_64 hl (by decide) rfl (fun ls hl => ?_)
        refine lv_iinc (v := Int32.ofInt (x6 + 1)) (lv' := [(6, vI (x6 + 1)), (5, vI (x5 + 0)), (0, .ref h_M)]) hx hb dX7_meeting_66 hl (k := 2) rfl (z_inc _ _) (by decide) rfl (fun ls hl => ?_)
        refine lv_goto (tgt := 29) hx hb dX7_meeting_69 (by decide) ?_
        exact ih ((x5 + 0)) ((x6 + 1)) (c_rect) H locs ls h hP hD hS (lv_sub hl [2, 1, 0] rfl)
      · have h := it_n b_19 h
        refine lv_aload_n hx hb dX7_meeting_49 rfl (lv_at hl 0 rfl) ?_
        refine lv_iload hx hb dX7_meeting_50 (lv_at hl 2 rfl) ?_
        obtain ⟨r_20, c_rect_21, e_22, h⟩ := bd2_e h
        refine z_goi (ws' := []) (ret := r_20) (wc := (zMo cI cZ (h_M) (q_M) (c_s) (c_past) (c_kept) (c_isKept) (c_pasts) (c_text) (c_typed) (c_rect) (c_item) (c_items) (c_itemLevel) (c_treated) (c_from) (c_group) (c_turn) (c_size) (c_old) (c_aside) (c_begin) (c_level) (c_asides) (c_sorted) (c_spot) (c_rectangles) (c_parts) (c_visited))) (wn := fun u_23 => (zMo cI cZ h_M q_M c_s c_past c_kept c_isKept c_pasts c_text c_typed c_rect_21 c_item c_items c_itemLevel c_treated c_from c_group c_turn c_size c_old c_aside c_begin c_level c_asides c_sorted c_spot c_rectangles c_parts c_visited)) (wr := []) (va_runV (As := [vI x6]) (rest := [vI x5]) hF.1 (c_Mo_meets l D cI cZ cT h_M q_M c_s c_past c_kept c_isKept c_pasts c_text c_typed c_rect c_item c_items c_itemLevel c_treated c_from c_group c_turn c_size c_old c_aside c_begin c_level c_asides c_sorted c_spot c_rectangles c_parts c_visited x6 H.size (r_20, c_rect_21) e_22) (cwV 1 hts (zgV wm1167 wm1169 wm78 wm89 wm1170) rfl rfl rfl (by decide +kernel) ⟨Nat.le_of_ble_eq_true rfl, Nat.le_of_ble_eq_true rfl⟩) ⟨zP.blind, va_recv hK (z_subP (ws' := (zMo cI cZ (h_M) (q_M) (c_s) (c_past) (c_kept) (c_isKept) (c_pasts) (c_text) (c_typed) (c_rect) (c_item) (c_items) (c_itemLevel) (c_treated) (c_from) (c_group) (c_turn) (c_size) (c_old) (c_aside) (c_begin) (c_level) (c_asides) (c_sorted) (c_spot) (c_rectangles) (c_parts) (c_visited))) hP [0, 1, 2, 3, 4, 5, 6, 7, 8, 9, 10, 11, 12, 13, 14, 15, 16, 17, 18] rfl) (ci := 7) (q0 := 0) rfl rfl, zP.enter (z_subP (ws' := (zMo cI cZ (h_M) (q_M) (c_s) (c_past) (c_kept) (c_isKept) (c_pasts) (c_text) (c_typed) (c_rect) (c_item) (c_items) (c_itemLevel) (c_treated) (c_from) (c_group) (c_turn) (c_size) (c_old) (c_aside) (c_begin) (c_level) (c_asides) (c_sorted) (c_spot) (c_rectangles) (c_parts) (c_visited))) hP [0, 1, 2, 3, 4, 5, 6, 7, 8, 9, 10, 11, 12, 13, 14, 15, 16, 17, 18] rfl) hK (hD.sub [0, 1, 2, 3, 4, 5, 6, 7, 8, 9, 10, 11, 12, 13, 14, 15, 16, 17, 18] (by decide) rfl) hN⟩ rfl rfl hl.1 rfl (lv_room (Nat.le_of_ble_eq_true rfl)) dX7_meeting_52 ⟨Nat.le_refl _, Nat.le_refl _⟩) hP hD hS hA [0, 1, 2, 3, 4, 5, 6, 7, 8, 9, 10, 11, 12, 13, 14, 15, 16, 17, 18] [] [0, 1, 2, 3, 4, 5, 6, 7, 8, 9, 10, 11, 12, 13, 14, 15, 16, 17, 18] rfl rfl (by decide) (fun _ => rfl) (fun u_23 H locs hP hD hS hz => ?_)
        obtain ⟨g_24, h⟩ := gd_e h
        refine z_if_eq (tgt := 62) hx hb g_24 dX7_meeting_55 (by decide) (fun b_25 => ?_) (fun b_25 => ?_)
        · have h := it_p b_25 h
          refine lv_iconst (v := Int32.ofInt 0) hx hb dX7_meeting_62 rfl ?_
          refine z_iadd hx hb dX7_meeting_63 ?_
          refine lv_istore (lv' := [(5, vI (x5 + 0)), (0, .ref h_M), (6, vI x6)]) hx hb dX7_meeting_64 hl (by decide) rfl (fun ls hl => ?_)
          refine lv_iinc (v := Int32.ofInt (x6 + 1)) (lv' := [(6, vI (x6 + 1)), (5, vI (x5 + 0)), (0, .ref h_M)]) hx hb dX7_meeting_66 hl (k := 2) rfl (z_inc _ _) (by decide) rfl (fun ls hl => ?_)
          refine lv_goto (tgt := 29) hx hb dX7_meeting_69 (by decide) ?_
          exact ih ((x5 + 0)) ((x6 + 1)) (c_rect_21) H locs ls h hP hD hS (lv_sub hl [2, 1, 0] rfl)
        · have h := it_n b_25 h
          refine lv_iconst (v := Int32.ofInt 1) hx hb dX7_meeting_58 rfl ?_
          refine lv_goto (tgt := 63) hx hb dX7_meeting_59 (by decide) ?_
          refine z_iadd hx hb dX7_meeting_63 ?_
          refine lv_istore (lv' := [(5, vI (x5 + 1)), (0, .ref h_M), (6, vI x6)]) hx hb dX7_meeting_64 hl (by decide) rfl (fun ls hl => ?_)
          refine lv_iinc (v := Int32.ofInt (x6 + 1)) (lv' := [(6, vI (x6 + 1)), (5, vI (x5 + 1)), (0, .ref h_M)]) hx hb dX7_meeting_66 hl (k := 2) rfl (z_inc _ _) (by decide) rfl (fun ls hl => ?_)
          refine lv_goto (tgt := 29) hx hb dX7_meeting_69 (by decide) ?_
          exact ih ((x5 + 1)) ((x6 + 1)) (c_rect_21) H locs ls h hP hD hS (lv_sub hl [2, 1, 0] rfl)
set_option maxHeartbeats 4000000 in
set_option maxRecDepth 100000 in
theorem c_Mo_meeting (l : Launch) (D : va_G) (cI cZ cT : ClassId) (h_M : Nat) (q_M : Nat → Nat) (c_s : Nat → Int) (c_past : Nat → Int) (c_kept : Nat → Int) (c_isKept : Int) (c_pasts : Int) (c_text : Nat → Int) (c_typed : Int) (c_rect : Nat → Int) (c_item : Nat → Int) (c_items : Int) (c_itemLevel : Int) (c_treated : Nat → Int) (c_from : Nat → Int) (c_group : Nat → Int) (c_turn : Nat → Int) (c_size : Nat → Int) (c_old : Nat → Int) (c_aside : Nat → Int) (c_begin : Nat → Int) (c_level : Nat → Int) (c_asides : Int) (c_sorted : Nat → Int) (c_spot : Int) (c_rectangles : Int) (c_parts : Nat → Int) (c_visited : Nat → Int) (x1 : Int) (x2 : Int) (x3 : Int) (x4 : Int) (sz : Nat) (res : Int × (Nat → Int)) (h : f_Mo_meeting c_s c_rect x1 x2 x3 x4 = some res) : zMi l yX7_meeting cX7_meeting 7 rm_Mo_meeting D (zt cI cZ cT) [.ref h_M, vI x1, vI x2, vI x3, vI x4] ((zMo cI cZ h_M q_M c_s c_past c_kept c_isKept c_pasts c_text c_typed c_rect c_item c_items c_itemLevel c_treated c_from c_group c_turn c_size c_old c_aside c_begin c_level c_asides c_sorted c_spot c_rectangles c_parts c_visited)) sz (res.1) (fun u => (zMo cI cZ h_M q_M c_s c_past c_kept c_isKept c_pasts c_text c_typed (res.2) c_item c_items c_itemLevel c_treated c_from c_group c_turn c_size c_old c_aside c_begin c_level c_asides c_sorted c_spot c_rectangles c_parts c_visited)) 0 0 := by
  refine z_enth (Qc := zQi D (res.1) (fun u => (zMo cI cZ h_M q_M c_s c_past c_kept c_isKept c_pasts c_text c_typed (res.2) c_item c_items c_itemLevel c_treated c_from c_group c_turn c_size c_old c_aside c_begin c_level c_asides c_sorted c_spot c_rectangles c_parts c_visited))) (by decide) (Nat.le_of_ble_eq_true rfl) (fun p e s m args below meth c A ls H locs hF hP hD hS hl => ?_)
  have hx := hF.1.1
  have hb := hF.1.2.1
  have hml := hF.1.2.2.1
  have hown : s.vm.findClass "RectangleTreeModel" = some m.cls := hF.1.2.2.2.1
  have hts := hF.1.2.2.2.2
  have hr := hF.2.1
  have hlk := hF.2.2.1
  have hK := hF.2.2.2.2.1
  have hN := hF.2.2.2.2.2.1
  have hA := hF.2.2.2.2.2.2
  unfold f_Mo_meeting at h
  refine lv_iload_n hx hb dX7_meeting_0 rfl (lv_at hl 1 rfl) ?_
  refine lv_iload_n hx hb dX7_meeting_1 rfl (lv_at hl 2 rfl) ?_
  refine lv_iload_n hx hb dX7_meeting_2 rfl (lv_at hl 3 rfl) ?_
  refine lv_iload hx hb dX7_meeting_3 (lv_at hl 4 rfl) ?_
  obtain ⟨r_1, e_2, h⟩ := bd1_e h
  refine z_goi (ws' := []) (ret := r_1) (wc := ([] : va_W)) (wn := fun u_3 => (zMo cI cZ h_M q_M c_s c_past c_kept c_isKept c_pasts c_text c_typed c_rect c_item c_items c_itemLevel c_treated c_from c_group c_turn c_size c_old c_aside c_begin c_level c_asides c_sorted c_spot c_rectangles c_parts c_visited)) (wr := ([0, 1, 2, 3, 4, 5, 6, 7, 8, 9, 10, 11, 12, 13, 14, 15, 16, 17, 18].filterMap (fun i => ((zMo cI cZ h_M q_M c_s c_past c_kept c_isKept c_pasts c_text c_typed c_rect c_item c_items c_itemLevel c_treated c_from c_group c_turn c_size c_old c_aside c_begin c_level c_asides c_sorted c_spot c_rectangles c_parts c_visited))[i]?))) (va_runS (As := [vI x1, vI x2, vI x3, vI x4]) (rest := []) hF.1 (c_Mo_isRectangle l D cI cZ cT x1 x2 x3 x4 H.size (r_1) e_2) (va_cwS 4 hts (zgS wm871 wm872 wm89 wm873) rfl rfl rfl (by decide +kernel) ⟨Nat.le_of_ble_eq_true rfl, Nat.le_of_ble_eq_true rfl⟩) ⟨zP.blind, zP.enter (z_subP (ws' := ([] : va_W)) hP [] rfl) hK (hD.sub [] (by decide) rfl) hN⟩ rfl rfl hl.1 rfl (lv_room (Nat.le_of_ble_eq_true rfl)) dX7_meeting_5 ⟨Nat.le_refl _, Nat.le_refl _⟩) hP hD hS hA [] [0, 1, 2, 3, 4, 5, 6, 7, 8, 9, 10, 11, 12, 13, 14, 15, 16, 17, 18] [0, 1, 2, 3, 4, 5, 6, 7, 8, 9, 10, 11, 12, 13, 14, 15, 16, 17, 18] rfl rfl (by decide) (fun _ => rfl) (fun u_3 H locs hP hD hS hz => ?_)
  obtain ⟨g_4, h⟩ := gd_e h
  refine z_if_ne (tgt := 14) hx hb g_4 dX7_meeting_8 (by decide) (fun b_5 => ?_) (fun b_5 => ?_)
  · have h := it_n b_5 h
    refine lv_aload_n hx hb dX7_meeting_14 rfl (lv_at hl 0 rfl) ?_
    refine lv_iload_n hx hb dX7_meeting_15 rfl (lv_at hl 1 rfl) ?_
    refine lv_iload_n hx hb dX7_meeting_16 rfl (lv_at hl 2 rfl) ?_
    refine lv_iload_n hx hb dX7_meeting_17 rfl (lv_at hl 3 rfl) ?_
    refine lv_iload hx hb dX7_meeting_18 (lv_at hl 4 rfl) ?_
    obtain ⟨c_rect_6, e_7, h⟩ := bd1_e h
    refine z_gov (wc := (zMo cI cZ (h_M) (q_M) (c_s) (c_past) (c_kept) (c_isKept) (c_pasts) (c_text) (c_typed) (c_rect) (c_item) (c_items) (c_itemLevel) (c_treated) (c_from) (c_group) (c_turn) (c_size) (c_old) (c_aside) (c_begin) (c_level) (c_asides) (c_sorted) (c_spot) (c_rectangles) (c_parts) (c_visited))) (wn := fun u_8 => (zMo cI cZ h_M q_M c_s c_past c_kept c_isKept c_pasts c_text c_typed c_rect_6 c_item c_items c_itemLevel c_treated c_from c_group c_turn c_size c_old c_aside c_begin c_level c_asides c_sorted c_spot c_rectangles c_parts c_visited)) (wr := []) (va_runV (As := [vI x1, vI x2, vI x3, vI x4]) (rest := []) hF.1 (c_Mo_frames l D cI cZ cT h_M q_M c_s c_past c_kept c_isKept c_pasts c_text c_typed c_rect c_item c_items c_itemLevel c_treated c_from c_group c_turn c_size c_old c_aside c_begin c_level c_asides c_sorted c_spot c_rectangles c_parts c_visited x1 x2 x3 x4 H.size (c_rect_6) e_7) (cwV 4 hts (zgV wm1163 wm1165 wm77 wm89 wm1166) rfl rfl rfl (by decide +kernel) ⟨Nat.le_of_ble_eq_true rfl, Nat.le_of_ble_eq_true rfl⟩) ⟨zP.blind, va_recv hK (z_subP (ws' := (zMo cI cZ (h_M) (q_M) (c_s) (c_past) (c_kept) (c_isKept) (c_pasts) (c_text) (c_typed) (c_rect) (c_item) (c_items) (c_itemLevel) (c_treated) (c_from) (c_group) (c_turn) (c_size) (c_old) (c_aside) (c_begin) (c_level) (c_asides) (c_sorted) (c_spot) (c_rectangles) (c_parts) (c_visited))) hP [0, 1, 2, 3, 4, 5, 6, 7, 8, 9, 10, 11, 12, 13, 14, 15, 16, 17, 18] rfl) (ci := 7) (q0 := 0) rfl rfl, zP.enter (z_subP (ws' := (zMo cI cZ (h_M) (q_M) (c_s) (c_past) (c_kept) (c_isKept) (c_pasts) (c_text) (c_typed) (c_rect) (c_item) (c_items) (c_itemLevel) (c_treated) (c_from) (c_group) (c_turn) (c_size) (c_old) (c_aside) (c_begin) (c_level) (c_asides) (c_sorted) (c_spot) (c_rectangles) (c_parts) (c_visited))) hP [0, 1, 2, 3, 4, 5, 6, 7, 8, 9, 10, 11, 12, 13, 14, 15, 16, 17, 18] rfl) hK (hD.sub [0, 1, 2, 3, 4, 5, 6, 7, 8, 9, 10, 11, 12, 13, 14, 15, 16, 17, 18] (by decide) rfl) hN⟩ rfl rfl hl.1 rfl (lv_room (Nat.le_of_ble_eq_true rfl)) dX7_meeting_20 ⟨Nat.le_refl _, Nat.le_refl _⟩) hP hD hS hA [0, 1, 2, 3, 4, 5, 6, 7, 8, 9, 10, 11, 12, 13, 14, 15, 16, 17, 18] [] [0, 1, 2, 3, 4, 5, 6, 7, 8, 9, 10, 11, 12, 13, 14, 15, 16, 17, 18] rfl rfl (by decide) (fun _ => rfl) (fun u_8 H locs hP hD hS hz => ?_)
    refine lv_iconst (v := Int32.ofInt 0) hx hb dX7_meeting_23 rfl ?_
    refine lv_istore (lv' := [(5, vI 0), (0, .ref h_M), (1, vI x1), (2, vI x2), (3, vI x3), (4, vI x4)]) hx hb dX7_meeting_24 hl (by decide) rfl (fun ls hl => ?_)
    refine lv_iconst (v := Int32.ofInt 0) hx hb dX7_meeting_26 rfl ?_
    refine lv_istore (lv' := [(6, vI 0), (5, vI 0), (0, .ref h_M), (1, vI x1), (2, vI x2), (3, vI x3), (4, vI x4)]) hx hb dX7_meeting_27 hl (by decide) rfl (fun ls hl => ?_)
    refine w_Mo_meeting_L29 D cI cZ cT (h_M) (q_M) (c_s) (c_past) (c_kept) (c_isKept) (c_pasts) (c_text) (c_typed) (c_item) (c_items) (c_itemLevel) (c_treated) (c_from) (c_group) (c_turn) (c_size) (c_old) (c_aside) (c_begin) (c_level) (c_asides) (c_sorted) (c_spot) (c_rectangles) (c_parts) (c_visited) _ _ hF (fun x5_26 x6_27 c_rect_28 H locs ls h hP hD hS hl => ?_) _ (0) (0) (c_rect_6) _ _ _ h hP hD hS (lv_sub hl [2, 1, 0] rfl)
    refine lv_iload hx hb dX7_meeting_72 (lv_at hl 0 rfl) ?_
    obtain rfl := Option.some.inj h
    exact z_iret hx hb hr hlk (fun _ _ => 0) hP hD hS dX7_meeting_74
  · have h := it_p b_5 h
    refine lv_bipush (v := Int32.ofInt (-2)) hx hb dX7_meeting_11 (by decide +kernel) ?_
    obtain rfl := Option.some.inj h
    exact z_iret hx hb hr hlk (fun _ _ => 0) hP hD hS dX7_meeting_13
def f_Mo_inside_L20 (c_s : Nat → Int) (x1 : Int) (x2 : Int) (x3 : Int) (x4 : Int) (k : Int → Int → Option (Int)) : Nat → Int → Int → Option (Int)
  | 0, _, _ => none
  | n + 1, x5, x6 =>
  gd (ck x6) <| if x6 < 24 then (bd1 (f_Mo_isBox c_s x6) <| fun r_8 => gd (ck r_8) <| if r_8 = 0 then (f_Mo_inside_L20 c_s x1 x2 x3 x4 k n ((iOr x5 0)) ((x6 + 1))) else (gd (0 ≤ (5 + (4 * x6)) ∧ (5 + (4 * x6)) < ((461 : Nat) : Int)) <| gd (ck (c_s ((5 + (4 * x6))).toNat)) <| gd (ck x1) <| if (c_s ((5 + (4 * x6))).toNat) < x1 then (f_Mo_inside_L20 c_s x1 x2 x3 x4 k n ((iOr x5 0)) ((x6 + 1))) else (gd (0 ≤ ((5 + (4 * x6)) + 1) ∧ ((5 + (4 * x6)) + 1) < ((461 : Nat) : Int)) <| gd (ck (c_s (((5 + (4 * x6)) + 1)).toNat)) <| gd (ck x2) <| if (c_s (((5 + (4 * x6)) + 1)).toNat) < x2 then (f_Mo_inside_L20 c_s x1 x2 x3 x4 k n ((iOr x5 0)) ((x6 + 1))) else (gd (0 ≤ ((5 + (4 * x6)) + 2) ∧ ((5 + (4 * x6)) + 2) < ((461 : Nat) : Int)) <| gd (ck (c_s (((5 + (4 * x6)) + 2)).toNat)) <| gd (ck x3) <| if x3 < (c_s (((5 + (4 * x6)) + 2)).toNat) then (f_Mo_inside_L20 c_s x1 x2 x3 x4 k n ((iOr x5 0)) ((x6 + 1))) else (gd (0 ≤ ((5 + (4 * x6)) + 3) ∧ ((5 + (4 * x6)) + 3) < ((461 : Nat) : Int)) <| gd (ck (c_s (((5 + (4 * x6)) + 3)).toNat)) <| gd (ck x4) <| if x4 < (c_s (((5 + (4 * x6)) + 3)).toNat) then (f_Mo_inside_L20 c_s x1 x2 x3 x4 k n ((iOr x5 0)) ((x6 + 1))) else (f_Mo_inside_L20 c_s x1 x2 x3 x4 k n ((iOr x5 (iShl 1 x6))) ((x6 + 1)))))))) else (k (x5) (x6))
def f_Mo_inside (c_s : Nat → Int) (x1 : Int) (x2 : Int) (x3 : Int) (x4 : Int) : Option (Int) :=
  bd1 (f_Mo_isRectangle x1 x2 x3 x4) <| fun r_1 => gd (ck r_1) <| if r_1 = 0 then (some ((-2))) else (f_Mo_inside_L20 (c_s) (x1) (x2) (x3) (x4) (fun x5_35 x6_36 => some (x5_35)) FU (0) (0))
abbrev rm_Mo_inside : Room := ({ frames := 2, cells := 0, slots := 0, locals := 45 } : Room)
set_option maxHeartbeats 4000000 in
set_option maxRecDepth 100000 in
theorem w_Mo_inside_L20 {p : Program} {l : Launch} {e : Env} {s : State} {m : MethodId} {args : Array Value} {below : List Frame} {meth : Method} {c : Code} {A : Nat → Prop} (D : va_G) (cI cZ cT : ClassId) (h_M : Nat) (q_M : Nat → Nat) (c_s : Nat → Int) (c_past : Nat → Int) (c_kept : Nat → Int) (c_isKept : Int) (c_pasts : Int) (c_text : Nat → Int) (c_typed : Int) (c_rect : Nat → Int) (c_item : Nat → Int) (c_items : Int) (c_itemLevel : Int) (c_treated : Nat → Int) (c_from : Nat → Int) (c_group : Nat → Int) (c_turn : Nat → Int) (c_size : Nat → Int) (c_old : Nat → Int) (c_aside : Nat → Int) (c_begin : Nat → Int) (c_level : Nat → Int) (c_asides : Int) (c_sorted : Nat → Int) (c_spot : Int) (c_rectangles : Int) (c_parts : Nat → Int) (c_visited : Nat → Int) (x1 : Int) (x2 : Int) (x3 : Int) (x4 : Int) (res : Int) (k : Int → Int → Option (Int)) (hF : zF p m c cX7_inside 9 s args yX7_inside.cls meth (some .int) yX7_inside.name A D (zt cI cZ cT))
    (hk : ∀ (x5 : Int) (x6 : Int) (H : Heap) (locs : List Loc) (ls : Array Slot), k x5 x6 = some res → va_P D vwCl ((zMo cI cZ h_M q_M c_s c_past c_kept c_isKept c_pasts c_text c_typed c_rect c_item c_items c_itemLevel c_treated c_from c_group c_turn c_size c_old c_aside c_begin c_level c_asides c_sorted c_spot c_rectangles c_parts c_visited)) H → va_D A ((zMo cI cZ h_M q_M c_s c_past c_kept c_isKept c_pasts c_text c_typed c_rect c_item c_items c_itemLevel c_treated c_from c_group c_turn c_size c_old c_aside c_begin c_level c_asides c_sorted c_spot c_rectangles c_parts c_visited)) → va_S A s.heap H locs → lv_has ls 9 [(5, vI x5)] → W p l e rm_Mo_inside s m args below meth c H locs 0 0 (MQ below (zQi D (res) (fun u => (zMo cI cZ h_M q_M c_s c_past c_kept c_isKept c_pasts c_text c_typed c_rect c_item c_items c_itemLevel c_treated c_from c_group c_turn c_size c_old c_aside c_begin c_level c_asides c_sorted c_spot c_rectangles c_parts c_visited)) A) args s 0 0 A) (F0 m 126 ls [])) :
    ∀ (n : Nat) (x5 : Int) (x6 : Int) (H : Heap) (locs : List Loc) (ls : Array Slot), f_Mo_inside_L20 c_s x1 x2 x3 x4 k n x5 x6 = some res → va_P D vwCl ((zMo cI cZ h_M q_M c_s c_past c_kept c_isKept c_pasts c_text c_typed c_rect c_item c_items c_itemLevel c_treated c_from c_group c_turn c_size c_old c_aside c_begin c_level c_asides c_sorted c_spot c_rectangles c_parts c_visited)) H → va_D A ((zMo cI cZ h_M q_M c_s c_past c_kept c_isKept c_pasts c_text c_typed c_rect c_item c_items c_itemLevel c_treated c_from c_group c_turn c_size c_old c_aside c_begin c_level c_asides c_sorted c_spot c_rectangles c_parts c_visited)) → va_S A s.heap H locs → lv_has ls 9 [(0, .ref h_M), (1, vI x1), (2, vI x2), (3, vI x3), (4, vI x4), (5, vI x5), (6, vI x6)] → W p l e rm_Mo_inside s m args below meth c H locs 0 0 (MQ below (zQi D (res) (fun u => (zMo cI cZ h_M q_M c_s c_past c_kept c_isKept c_pasts c_text c_typed c_rect c_item c_items c_itemLevel c_treated c_from c_group c_turn c_size c_old c_aside c_begin c_level c_asides c_sorted c_spot c_rectangles c_parts c_visited)) A) args s 0 0 A) (F0 m 20 ls []) := by
  have hx := hF.1.1
  have hb := hF.1.2.1
  have hml := hF.1.2.2.1
  have hown : s.vm.findClass "RectangleTreeModel" = some m.cls := hF.1.2.2.2.1
  have hts := hF.1.2.2.2.2
  have hr := hF.2.1
  have hlk := hF.2.2.1
  have hK := hF.2.2.2.2.1
  have hN := hF.2.2.2.2.2.1
  have hA := hF.2.2.2.2.2.2
  intro n
  induction n with
  | zero => intro x5 x6 H locs ls h; cases h
  | succ n ih =>
    intro x5 x6 H locs ls h hP hD hS hl
    rw [f_Mo_inside_L20] at h
    refine lv_iload hx hb dX7_inside_20 (lv_at hl 6 rfl) ?_
    refine lv_bipush (v := Int32.ofInt 24) hx hb dX7_inside_22 (by decide +kernel) ?_
    obtain ⟨g_6, h⟩ := gd_e h
    refine z_icmp_ge (tgt := 126) hx hb g_6 (by decide) dX7_inside_24 (by decide) (fun b_7 => ?_) (fun b_7 => ?_)
    · have h := it_n b_7 h
      exact hk (x5) (x6) H locs ls h hP hD hS (lv_sub hl [5] rfl)
    · have h := it_p b_7 h
      refine lv_iconst (v := Int32.ofInt 5) hx hb dX7_inside_27 rfl ?_
      refine lv_iconst (v := Int32.ofInt 4) hx hb dX7_inside_28 rfl ?_
      refine lv_iload hx hb dX7_inside_29 (lv_at hl 6 rfl) ?_
      refine z_imul hx hb dX7_inside_31 ?_
      refine z_iadd hx hb dX7_inside_32 ?_
      refine lv_istore (lv' := [(7, vI (5 + (4 * x6))), (0, .ref h_M), (1, vI x1), (2, vI x2), (3, vI x3), (4, vI x4), (5, vI x5), (6, vI x6)]) hx hb dX7_inside_33 hl (by decide) rfl (fun ls hl => ?_)
      refine lv_aload_n hx hb dX7_inside_35 rfl (lv_at hl 1 rfl) ?_
      refine lv_iload hx hb dX7_inside_36 (lv_at hl 7 rfl) ?_
      obtain ⟨r_8, e_9, h⟩ := bd1_e h
      refine z_goi (ws' := []) (ret := r_8) (wc := (zMo cI cZ (h_M) (q_M) (c_s) (c_past) (c_kept) (c_isKept) (c_pasts) (c_text) (c_typed) (c_rect) (c_item) (c_items) (c_itemLevel) (c_treated) (c_from) (c_group) (c_turn) (c_size) (c_old) (c_aside) (c_begin) (c_level) (c_asides) (c_sorted) (c_spot) (c_rectangles) (c_parts) (c_visited))) (wn := fun u_10 => (zMo cI cZ h_M q_M c_s c_past c_kept c_isKept c_pasts c_text c_typed c_rect c_item c_items c_itemLevel c_treated c_from c_group c_turn c_size c_old c_aside c_begin c_level c_asides c_sorted c_spot c_rectangles c_parts c_visited)) (wr := []) (va_runV (As := [vI x6]) (rest := []) hF.1 (c_Mo_isBox l D cI cZ cT h_M q_M c_s c_past c_kept c_isKept c_pasts c_text c_typed c_rect c_item c_items c_itemLevel c_treated c_from c_group c_turn c_size c_old c_aside c_begin c_level c_asides c_sorted c_spot c_rectangles c_parts c_visited x6 H.size (r_8) e_9) (cwV 1 hts (zgV wm881 wm883 wm32 wm89 wm884) rfl rfl rfl (by decide +kernel) ⟨Nat.le_of_ble_eq_true rfl, Nat.le_of_ble_eq_true rfl⟩) ⟨zP.blind, va_recv hK (z_subP (ws' := (zMo cI cZ (h_M) (q_M) (c_s) (c_past) (c_kept) (c_isKept) (c_pasts) (c_text) (c_typed) (c_rect) (c_item) (c_items) (c_itemLevel) (c_treated) (c_from) (c_group) (c_turn) (c_size) (c_old) (c_aside) (c_begin) (c_level) (c_asides) (c_sorted) (c_spot) (c_rectangles) (c_parts) (c_visited))) hP [0, 1, 2, 3, 4, 5, 6, 7, 8, 9, 10, 11, 12, 13, 14, 15, 16, 17, 18] rfl) (ci := 7) (q0 := 0) rfl rfl, zP.enter (z_subP (ws' := (zMo cI cZ (h_M) (q_M) (c_s) (c_past) (c_kept) (c_isKept) (c_pasts) (c_text) (c_typed) (c_rect) (c_item) (c_items) (c_itemLevel) (c_treated) (c_from) (c_group) (c_turn) (c_size) (c_old) (c_aside) (c_begin) (c_level) (c_asides) (c_sorted) (c_spot) (c_rectangles) (c_parts) (c_visited))) hP [0, 1, 2, 3, 4, 5, 6, 7, 8, 9, 10, 11, 12, 13, 14, 15, 16, 17, 18] rfl) hK (hD.sub [0, 1, 2, 3, 4, 5, 6, 7, 8, 9, 10, 11, 12, 13, 14, 15, 16, 17, 18] (by decide) rfl) hN⟩ rfl rfl hl.1 rfl (lv_room (Nat.le_of_ble_eq_true rfl)) dX7_inside_38 ⟨Nat.le_refl _, Nat.le_refl _⟩) hP hD hS hA [0, 1, 2, 3, 4, 5, 6, 7, 8, 9, 10, 11, 12, 13, 14, 15, 16, 17, 18] [] [0, 1, 2, 3, 4, 5, 6, 7, 8, 9, 10, 11, 12, 13, 14, 15, 16, 17, 18] rfl rfl (by decide) (fun _ => rfl) (fun u_10 H locs hP hD hS hz => ?_)
      obtain ⟨g_11, h⟩ := gd_e h
      refine z_if_eq (tgt := 99) hx hb g_11 dX7_inside_41 (by decide) (fun b_12 => ?_) (fun b_12 => ?_)
      · have h := it_p b_12 h
        refine lv_iconst (v := Int32.ofInt 0) hx hb dX7_inside_99 rfl ?_
        refine lv_istore (lv' := [(8, vI 0), (7, vI (5 + (4 * x6))), (0, .ref h_M), (1, vI x1), (2, vI x2), (3, vI x3), (4, vI x4), (5, vI x5), (6, vI x6)]) hx hb dX7_inside_100 hl (by decide) rfl (fun ls hl => ?_)
        refine lv_iload hx hb dX7_inside_102 (lv_at hl 7 rfl) ?_
        refine lv_iload hx hb dX7_inside_104 (lv_at hl 0 rfl) ?_
        refine z_if_eq (tgt := 116) hx hb (by decide) dX7_inside_106 (by decide) (fun b_13 => ?_) (fun b_13 => ?_)
        rotate_left
        · exact absurd b_13 (by decide)
        refine lv_iconst (v := Int32.ofInt 0) hx hb dX7_inside_116 rfl ?_
        refine z_ior hx hb dX7_inside_117 ?_
        refine lv_istore (lv' := [(5, vI (iOr x5 0)), (8, vI 0), (7, vI (5 + (4 * x6))), (0, .ref h_M), (1, vI x1), (2, vI x2), (3, vI x3), (4, vI x4), (6, vI x6)]) hx hb dX7_inside_118 hl (by decide) rfl (fun ls hl => ?_)
        refine lv_iinc (v := Int32.ofInt (x6 + 1)) (lv' := [(6, vI (x6 + 1)), (5, vI (iOr x5 0)), (8, vI 0), (7, vI (5 + (4 * x6))), (0, .ref h_M), (1, vI x1), (2, vI x2), (3, vI x3), (4, vI x4)]) hx hb dX7_inside_120 hl (k := 8) rfl (z_inc _ _) (by decide) rfl (fun ls hl => ?_)
        refine lv_goto (tgt := 20) hx hb dX7_inside_123 (by decide) ?_
        exact ih ((iOr x5 0)) ((x6 + 1)) H locs ls h hP hD hS (lv_sub hl [4, 5, 6, 7, 8, 1, 0] rfl)
      · have h := it_n b_12 h
        refine lv_aload_n hx hb dX7_inside_44 rfl (lv_at hl 1 rfl) ?_
        refine va_get (D := D) (ci := 7) (v := .ref (q_M 0)) (C := RX7) (T := TX7) (N := 26) hx hb hts zin7 hown hK hP 0 rfl rfl 0 (by decide) (hts _ wm787) (fun _ h9 => h9) rfl dX7_inside_45 ?_
        refine lv_iload hx hb dX7_inside_48 (lv_at hl 0 rfl) ?_
        obtain ⟨g_14, h⟩ := gd_e h
        refine z_iald (n := 461) (f := c_s) (i := (5 + (4 * x6))) hx hb hK hP 1 rfl rfl g_14 (by have := g_14.2; omega) dX7_inside_50 ?_
        refine lv_iload_n hx hb dX7_inside_51 rfl (lv_at hl 2 rfl) ?_
        obtain ⟨g_15, h⟩ := gd_e h
        obtain ⟨g_16, h⟩ := gd_e h
        refine z_icmp_lt (tgt := 99) hx hb g_15 g_16 dX7_inside_52 (by decide) (fun b_17 => ?_) (fun b_17 => ?_)
        · have h := it_p b_17 h
          refine lv_iconst (v := Int32.ofInt 0) hx hb dX7_inside_99 rfl ?_
          refine lv_istore (lv' := [(8, vI 0), (7, vI (5 + (4 * x6))), (0, .ref h_M), (1, vI x1), (2, vI x2), (3, vI x3), (4, vI x4), (5, vI x5), (6, vI x6)]) hx hb dX7_inside_100 hl (by decide) rfl (fun ls hl => ?_)
          refine lv_iload hx hb dX7_inside_102 (lv_at hl 7 rfl) ?_
          refine lv_iload hx hb dX7_inside_104 (lv_at hl 0 rfl) ?_
          refine z_if_eq (tgt := 116) hx hb (by decide) dX7_inside_106 (by decide) (fun b_18 => ?_) (fun b_18 => ?_)
          rotate_left
          · exact absurd b_18 (by decide)
          refine lv_iconst (v := Int32.ofInt 0) hx hb dX7_inside_116 rfl ?_
          refine z_ior hx hb dX7_inside_117 ?_
          refine lv_istore (lv' := [(5, vI (iOr x5 0)), (8, vI 0), (7, vI (5 + (4 * x6))), (0, .ref h_M), (1, vI x1), (2, vI x2), (3, vI x3), (4, vI x4), (6, vI x6)]) hx hb dX7_inside_118 hl (by decide) rfl (fun ls hl => ?_)
          refine lv_iinc (v := Int32.ofInt (x6 + 1)) (lv' := [(6, vI (x6 + 1)), (5, vI (iOr x5 0)), (8, vI 0), (7, vI (5 + (4 * x6))), (0, .ref h_M), (1, vI x1), (2, vI x2), (3, vI x3), (4, vI x4)]) hx hb dX7_inside_120 hl (k := 8) rfl (z_inc _ _) (by decide) rfl (fun ls hl => ?_)
          refine lv_goto (tgt := 20) hx hb dX7_inside_123 (by decide) ?_
          exact ih ((iOr x5 0)) ((x6 + 1)) H locs ls h hP hD hS (lv_sub hl [4, 5, 6, 7, 8, 1, 0] rfl)
        · have h := it_n b_17 h
          refine lv_aload_n hx hb dX7_inside_55 rfl (lv_at hl 1 rfl) ?_
          refine va_get (D := D) (ci := 7) (v := .ref (q_M 0)) (C := RX7) (T := TX7) (N := 26) hx hb hts zin7 hown hK hP 0 rfl rfl 0 (by decide) (hts _ wm787) (fun _ h9 => h9) rfl dX7_inside_56 ?_
          refine lv_iload hx hb dX7_inside_59 (lv_at hl 0 rfl) ?_
          refine lv_iconst (v := Int32.ofInt 1) hx hb dX7_inside_61 rfl ?_
          refine z_iadd hx hb dX7_inside_62 ?_
          obtain ⟨g_19, h⟩ := gd_e h
          refine z_iald (n := 461) (f := c_s) (i := ((5 + (4 * x6)) + 1)) hx hb hK hP 1 rfl rfl g_19 (by have := g_19.2; omega) dX7_inside_63 ?_
          refine lv_iload_n hx hb dX7_inside_64 rfl (lv_at hl 3 rfl) ?_
          obtain ⟨g_20, h⟩ := gd_e h
          obtain ⟨g_21, h⟩ := gd_e h
          refine z_icmp_lt (tgt := 99) hx hb g_20 g_21 dX7_inside_65 (by decide) (fun b_22 => ?_) (fun b_22 => ?_)
          · have h := it_p b_22 h
            refine lv_iconst (v := Int32.ofInt 0) hx hb dX7_inside_99 rfl ?_
            refine lv_istore (lv' := [(8, vI 0), (7, vI (5 + (4 * x6))), (0, .ref h_M), (1, vI x1), (2, vI x2), (3, vI x3), (4, vI x4), (5, vI x5), (6, vI x6)]) hx hb dX7_inside_100 hl (by decide) rfl (fun ls hl => ?_)
            refine lv_iload hx hb dX7_inside_102 (lv_at hl 7 rfl) ?_
            refine lv_iload hx hb dX7_inside_104 (lv_at hl 0 rfl) ?_
            refine z_if_eq (tgt := 116) hx hb (by decide) dX7_inside_106 (by decide) (fun b_23 => ?_) (fun b_23 => ?_)
            rotate_left
            · exact absurd b_23 (by decide)
            refine lv_iconst (v := Int32.ofInt 0) hx hb dX7_inside_116 rfl ?_
            refine z_ior hx hb dX7_inside_117 ?_
            refine lv_istore (lv' := [(5, vI (iOr x5 0)), (8, vI 0), (7, vI (5 + (4 * x6))), (0, .ref h_M), (1, vI x1), (2, vI x2), (3, vI x3), (4, vI x4), (6, vI x6)]) hx hb dX7_inside_118 hl (by decide) rfl (fun ls hl => ?_)
            refine lv_iinc (v := Int32.ofInt (x6 + 1)) (lv' := [(6, vI (x6 + 1)), (5, vI (iOr x5 0)), (8, vI 0), (7, vI (5 + (4 * x6))), (0, .ref h_M), (1, vI x1), (2, vI x2), (3, vI x3), (4, vI x4)]) hx hb dX7_inside_120 hl (k := 8) rfl (z_inc _ _) (by decide) rfl (fun ls hl => ?_)
            refine lv_goto (tgt := 20) hx hb dX7_inside_123 (by decide) ?_
            exact ih ((iOr x5 0)) ((x6 + 1)) H locs ls h hP hD hS (lv_sub hl [4, 5, 6, 7, 8, 1, 0] rfl)
          · have h := it_n b_22 h
            refine lv_aload_n hx hb dX7_inside_68 rfl (lv_at hl 1 rfl) ?_
            refine va_get (D := D) (ci := 7) (v := .ref (q_M 0)) (C := RX7) (T := TX7) (N := 26) hx hb hts zin7 hown hK hP 0 rfl rfl 0 (by decide) (hts _ wm787) (fun _ h9 => h9) rfl dX7_inside_69 ?_
            refine lv_iload hx hb dX7_inside_72 (lv_at hl 0 rfl) ?_
            refine lv_iconst (v := Int32.ofInt 2) hx hb dX7_inside_74 rfl ?_
            refine z_iadd hx hb dX7_inside_75 ?_
            obtain ⟨g_24, h⟩ := gd_e h
            refine z_iald (n := 461) (f := c_s) (i := ((5 + (4 * x6)) + 2)) hx hb hK hP 1 rfl rfl g_24 (by have := g_24.2; omega) dX7_inside_76 ?_
            refine lv_iload_n hx hb dX7_inside_77 rfl (lv_at hl 4 rfl) ?_
            obtain ⟨g_25, h⟩ := gd_e h
            obtain ⟨g_26, h⟩ := gd_e h
            refine z_icmp_gt (tgt := 99) hx hb g_25 g_26 dX7_inside_78 (by decide) (fun b_27 => ?_) (fun b_27 => ?_)
            · have h := it_p b_27 h
              refine lv_iconst (v := Int32.ofInt 0) hx hb dX7_inside_99 rfl ?_
              refine lv_istore (lv' := [(8, vI 0), (7, vI (5 + (4 * x6))), (0, .ref h_M), (1, vI x1), (2, vI x2), (3, vI x3), (4, vI x4), (5, vI x5), (6, vI x6)]) hx hb dX7_inside_100 hl (by decide) rfl (fun ls hl => ?_)
              refine lv_iload hx hb dX7_inside_102 (lv_at hl 7 rfl) ?_
              refine lv_iload hx hb dX7_inside_104 (lv_at hl 0 rfl) ?_
              refine z_if_eq (tgt := 116) hx hb (by decide) dX7_inside_106 (by decide) (fun b_28 => ?_) (fun b_28 => ?_)
              rotate_left
              · exact absurd b_28 (by decide)
              refine lv_iconst (v := Int32.ofInt 0) hx hb dX7_inside_116 rfl ?_
              refine z_ior hx hb dX7_inside_117 ?_
              refine lv_istore (lv' := [(5, vI (iOr x5 0)), (8, vI 0), (7, vI (5 + (4 * x6))), (0, .ref h_M), (1, vI x1), (2, vI x2), (3, vI x3), (4, vI x4), (6, vI x6)]) hx hb dX7_inside_118 hl (by decide) rfl (fun ls hl => ?_)
              refine lv_iinc (v := Int32.ofInt (x6 + 1)) (lv' := [(6, vI (x6 + 1)), (5, vI (iOr x5 0)), (8, vI 0), (7, vI (5 + (4 * x6))), (0, .ref h_M), (1, vI x1), (2, vI x2), (3, vI x3), (4, vI x4)]) hx hb dX7_inside_120 hl (k := 8) rfl (z_inc _ _) (by decide) rfl (fun ls hl => ?_)
              refine lv_goto (tgt := 20) hx hb dX7_inside_123 (by decide) ?_
              exact ih ((iOr x5 0)) ((x6 + 1)) H locs ls h hP hD hS (lv_sub hl [4, 5, 6, 7, 8, 1, 0] rfl)
            · have h := it_n b_27 h
              refine lv_aload_n hx hb dX7_inside_81 rfl (lv_at hl 1 rfl) ?_
              refine va_get (D := D) (ci := 7) (v := .ref (q_M 0)) (C := RX7) (T := TX7) (N := 26) hx hb hts zin7 hown hK hP 0 rfl rfl 0 (by decide) (hts _ wm787) (fun _ h9 => h9) rfl dX7_inside_82 ?_
              refine lv_iload hx hb dX7_inside_85 (lv_at hl 0 rfl) ?_
              refine lv_iconst (v := Int32.ofInt 3) hx hb dX7_inside_87 rfl ?_
              refine z_iadd hx hb dX7_inside_88 ?_
              obtain ⟨g_29, h⟩ := gd_e h
              refine z_iald (n := 461) (f := c_s) (i := ((5 + (4 * x6)) + 3)) hx hb hK hP 1 rfl rfl g_29 (by have := g_29.2; omega) dX7_inside_89 ?_
              refine lv_iload hx hb dX7_inside_90 (lv_at hl 5 rfl) ?_
              obtain ⟨g_30, h⟩ := gd_e h
              obtain ⟨g_31, h⟩ := gd_e h
              refine z_icmp_gt (tgt := 99) hx hb g_30 g_31 dX7_inside_92 (by decide) (fun b_32 => ?_) (fun b_32 => ?_)
              · have h := it_p b_32 h
                refine lv_iconst (v := Int32.ofInt 0) hx hb dX7_inside_99 rfl ?_
                refine lv_istore (lv' := [(8, vI 0), (7, vI (5 + (4 * x6))), (0, .ref h_M), (1, vI x1), (2, vI x2), (3, vI x3), (4, vI x4), (5, vI x5), (6, vI x6)]) hx hb dX7_inside_100 hl (by decide) rfl (fun ls hl => ?_)
                refine lv_iload hx hb dX7_inside_102 (lv_at hl 7 rfl) ?_
                refine lv_iload hx hb dX7_inside_104 (lv_at hl 0 rfl) ?_
                refine z_if_eq (tgt := 116) hx hb (by decide) dX7_inside_106 (by decide) (fun b_33 => ?_) (fun b_33 => ?_)
                rotate_left
                · exact absurd b_33 (by decide)
                refine lv_iconst (v := Int32.ofInt 0) hx hb dX7_inside_116 rfl ?_
                refine z_ior hx hb dX7_inside_117 ?_
                refine lv_istore (lv' := [(5, vI (iOr x5 0)), (8, vI 0), (7, vI (5 + (4 * x6))), (0, .ref h_M), (1, vI x1), (2, vI x2), (3, vI x3), (4, vI x4), (6, vI x6)]) hx hb dX7_inside_118 hl (by decide) rfl (fun ls hl => ?_)
                refine lv_iinc (v := Int32.ofInt (x6 + 1)) (lv' := [(6, vI (x6 + 1)), (5, vI (iOr x5 0)), (8, vI 0), (7, vI (5 + (4 * x6))), (0, .ref h_M), (1, vI x1), (2, vI x2), (3, vI x3), (4, vI x4)]) hx hb dX7_inside_120 hl (k := 8) rfl (z_inc _ _) (by decide) rfl (fun ls hl => ?_)
                refine lv_goto (tgt := 20) hx hb dX7_inside_123 (by decide) ?_
                exact ih ((iOr x5 0)) ((x6 + 1)) H locs ls h hP hD hS (lv_sub hl [4, 5, 6, 7, 8, 1, 0] rfl)
              · have h := it_n b_32 h
                refine lv_iconst (v := Int32.ofInt 1) hx hb dX7_inside_95 rfl ?_
                refine lv_goto (tgt := 100) hx hb dX7_inside_96 (by decide) ?_
                refine lv_istore (lv' := [(8, vI 1), (7, vI (5 + (4 * x6))), (0, .ref h_M), (1, vI x1), (2, vI x2), (3, vI x3), (4, vI x4), (5, vI x5), (6, vI x6)]) hx hb dX7_inside_100 hl (by decide) rfl (fun ls hl => ?_)
                refine lv_iload hx hb dX7_inside_102 (lv_at hl 7 rfl) ?_
                refine lv_iload hx hb dX7_inside_104 (lv_at hl 0 rfl) ?_
                refine z_if_eq (tgt := 116) hx hb (by decide) dX7_inside_106 (by decide) (fun b_34 => ?_) (fun b_34 => ?_)
                · exact absurd b_34 (by decide)
                refine lv_iconst (v := Int32.ofInt 1) hx hb dX7_inside_109 rfl ?_
                refine lv_iload hx hb dX7_inside_110 (lv_at hl 8 rfl) ?_
                refine z_ishl hx hb dX7_inside_112 ?_
                refine lv_goto (tgt := 117) hx hb dX7_inside_113 (by decide) ?_
                refine z_ior hx hb dX7_inside_117 ?_
                refine lv_istore (lv' := [(5, vI (iOr x5 (iShl 1 x6))), (8, vI 1), (7, vI (5 + (4 * x6))), (0, .ref h_M), (1, vI x1), (2, vI x2), (3, vI x3), (4, vI x4), (6, vI x6)]) hx hb dX7_inside_118 hl (by decide) rfl (fun ls hl => ?_)
                refine lv_iinc (v := Int32.ofInt (x6 + 1)) (lv' := [(6, vI (x6 + 1)), (5, vI (iOr x5 (iShl 1 x6))), (8, vI 1), (7, vI (5 + (4 * x6))), (0, .ref h_M), (1, vI x1), (2, vI x2), (3, vI x3), (4, vI x4)]) hx hb dX7_inside_120 hl (k := 8) rfl (z_inc _ _) (by decide) rfl (fun ls hl => ?_)
                refine lv_goto (tgt := 20) hx hb dX7_inside_123 (by decide) ?_
                exact ih ((iOr x5 (iShl 1 x6))) ((x6 + 1)) H locs ls h hP hD hS (lv_sub hl [4, 5, 6, 7, 8, 1, 0] rfl)
set_option maxHeartbeats 4000000 in
set_option maxRecDepth 100000 in
theorem c_Mo_inside (l : Launch) (D : va_G) (cI cZ cT : ClassId) (h_M : Nat) (q_M : Nat → Nat) (c_s : Nat → Int) (c_past : Nat → Int) (c_kept : Nat → Int) (c_isKept : Int) (c_pasts : Int) (c_text : Nat → Int) (c_typed : Int) (c_rect : Nat → Int) (c_item : Nat → Int) (c_items : Int) (c_itemLevel : Int) (c_treated : Nat → Int) (c_from : Nat → Int) (c_group : Nat → Int) (c_turn : Nat → Int) (c_size : Nat → Int) (c_old : Nat → Int) (c_aside : Nat → Int) (c_begin : Nat → Int) (c_level : Nat → Int) (c_asides : Int) (c_sorted : Nat → Int) (c_spot : Int) (c_rectangles : Int) (c_parts : Nat → Int) (c_visited : Nat → Int) (x1 : Int) (x2 : Int) (x3 : Int) (x4 : Int) (sz : Nat) (res : Int) (h : f_Mo_inside c_s x1 x2 x3 x4 = some res) : zMi l yX7_inside cX7_inside 9 rm_Mo_inside D (zt cI cZ cT) [.ref h_M, vI x1, vI x2, vI x3, vI x4] ((zMo cI cZ h_M q_M c_s c_past c_kept c_isKept c_pasts c_text c_typed c_rect c_item c_items c_itemLevel c_treated c_from c_group c_turn c_size c_old c_aside c_begin c_level c_asides c_sorted c_spot c_rectangles c_parts c_visited)) sz (res) (fun u => (zMo cI cZ h_M q_M c_s c_past c_kept c_isKept c_pasts c_text c_typed c_rect c_item c_items c_itemLevel c_treated c_from c_group c_turn c_size c_old c_aside c_begin c_level c_asides c_sorted c_spot c_rectangles c_parts c_visited)) 0 0 := by
  refine z_enth (Qc := zQi D (res) (fun u => (zMo cI cZ h_M q_M c_s c_past c_kept c_isKept c_pasts c_text c_typed c_rect c_item c_items c_itemLevel c_treated c_from c_group c_turn c_size c_old c_aside c_begin c_level c_asides c_sorted c_spot c_rectangles c_parts c_visited))) (by decide) (Nat.le_of_ble_eq_true rfl) (fun p e s m args below meth c A ls H locs hF hP hD hS hl => ?_)
  have hx := hF.1.1
  have hb := hF.1.2.1
  have hml := hF.1.2.2.1
  have hown : s.vm.findClass "RectangleTreeModel" = some m.cls := hF.1.2.2.2.1
  have hts := hF.1.2.2.2.2
  have hr := hF.2.1
  have hlk := hF.2.2.1
  have hK := hF.2.2.2.2.1
  have hN := hF.2.2.2.2.2.1
  have hA := hF.2.2.2.2.2.2
  unfold f_Mo_inside at h
  refine lv_iload_n hx hb dX7_inside_0 rfl (lv_at hl 1 rfl) ?_
  refine lv_iload_n hx hb dX7_inside_1 rfl (lv_at hl 2 rfl) ?_
  refine lv_iload_n hx hb dX7_inside_2 rfl (lv_at hl 3 rfl) ?_
  refine lv_iload hx hb dX7_inside_3 (lv_at hl 4 rfl) ?_
  obtain ⟨r_1, e_2, h⟩ := bd1_e h
  refine z_goi (ws' := []) (ret := r_1) (wc := ([] : va_W)) (wn := fun u_3 => (zMo cI cZ h_M q_M c_s c_past c_kept c_isKept c_pasts c_text c_typed c_rect c_item c_items c_itemLevel c_treated c_from c_group c_turn c_size c_old c_aside c_begin c_level c_asides c_sorted c_spot c_rectangles c_parts c_visited)) (wr := ([0, 1, 2, 3, 4, 5, 6, 7, 8, 9, 10, 11, 12, 13, 14, 15, 16, 17, 18].filterMap (fun i => ((zMo cI cZ h_M q_M c_s c_past c_kept c_isKept c_pasts c_text c_typed c_rect c_item c_items c_itemLevel c_treated c_from c_group c_turn c_size c_old c_aside c_begin c_level c_asides c_sorted c_spot c_rectangles c_parts c_visited))[i]?))) (va_runS (As := [vI x1, vI x2, vI x3, vI x4]) (rest := []) hF.1 (c_Mo_isRectangle l D cI cZ cT x1 x2 x3 x4 H.size (r_1) e_2) (va_cwS 4 hts (zgS wm871 wm872 wm89 wm873) rfl rfl rfl (by decide +kernel) ⟨Nat.le_of_ble_eq_true rfl, Nat.le_of_ble_eq_true rfl⟩) ⟨zP.blind, zP.enter (z_subP (ws' := ([] : va_W)) hP [] rfl) hK (hD.sub [] (by decide) rfl) hN⟩ rfl rfl hl.1 rfl (lv_room (Nat.le_of_ble_eq_true rfl)) dX7_inside_5 ⟨Nat.le_refl _, Nat.le_refl _⟩) hP hD hS hA [] [0, 1, 2, 3, 4, 5, 6, 7, 8, 9, 10, 11, 12, 13, 14, 15, 16, 17, 18] [0, 1, 2, 3, 4, 5, 6, 7, 8, 9, 10, 11, 12, 13, 14, 15, 16, 17, 18] rfl rfl (by decide) (fun _ => rfl) (fun u_3 H locs hP hD hS hz => ?_)
  obtain ⟨g_4, h⟩ := gd_e h
  refine z_if_ne (tgt := 14) hx hb g_4 dX7_inside_8 (by decide) (fun b_5 => ?_) (fun b_5 => ?_)
  · have h := it_n b_5 h
    refine lv_iconst (v := Int32.ofInt 0) hx hb dX7_inside_14 rfl ?_
    refine lv_istore (lv' := [(5, vI 0), (0, .ref h_M), (1, vI x1), (2, vI x2), (3, vI x3), (4, vI x4)]) hx hb dX7_inside_15 hl (by decide) rfl (fun ls hl => ?_)
    refine lv_iconst (v := Int32.ofInt 0) hx hb dX7_inside_17 rfl ?_
    refine lv_istore (lv' := [(6, vI 0), (5, vI 0), (0, .ref h_M), (1, vI x1), (2, vI x2), (3, vI x3), (4, vI x4)]) hx hb dX7_inside_18 hl (by decide) rfl (fun ls hl => ?_)
    refine w_Mo_inside_L20 D cI cZ cT (h_M) (q_M) (c_s) (c_past) (c_kept) (c_isKept) (c_pasts) (c_text) (c_typed) (c_rect) (c_item) (c_items) (c_itemLevel) (c_treated) (c_from) (c_group) (c_turn) (c_size) (c_old) (c_aside) (c_begin) (c_level) (c_asides) (c_sorted) (c_spot) (c_rectangles) (c_parts) (c_visited) (x1) (x2) (x3) (x4) _ _ hF (fun x5_35 x6_36 H locs ls h hP hD hS hl => ?_) _ (0) (0) _ _ _ h hP hD hS (lv_sub hl [2, 3, 4, 5, 6, 1, 0] rfl)
    refine lv_iload hx hb dX7_inside_126 (lv_at hl 0 rfl) ?_
    obtain rfl := Option.some.inj h
    exact z_iret hx hb hr hlk (fun _ _ => 0) hP hD hS dX7_inside_128
  · have h := it_p b_5 h
    refine lv_bipush (v := Int32.ofInt (-2)) hx hb dX7_inside_11 (by decide +kernel) ?_
    obtain rfl := Option.some.inj h
    exact z_iret hx hb hr hlk (fun _ _ => 0) hP hD hS dX7_inside_13
def f_Mo_visits_L29 (c_s : Nat → Int) (k : Int → Int → (Nat → Int) → (Nat → Int) → Option (Int × (Nat → Int) × (Nat → Int))) : Nat → Int → Int → (Nat → Int) → (Nat → Int) → Option (Int × (Nat → Int) × (Nat → Int))
  | 0, _, _, _, _ => none
  | n + 1, x5, x6, c_rect, c_visited =>
  bd1 (f_Mo_length c_s) <| fun r_9 => gd (ck x6) <| gd (ck r_9) <| if x6 < r_9 then (bd1 (f_Mo_at c_s x6) <| fun r_15 => gd (ck r_15) <| if r_15 < 0 then (if x6 = 0 then (gd (0 ≤ x6 ∧ x6 < ((360 : Nat) : Int)) <| gd (ck ((up c_visited ((x6).toNat) 1) (x6).toNat)) <| if ((up c_visited ((x6).toNat) 1) (x6).toNat) = 0 then (f_Mo_visits_L29 c_s k n ((x5 + 0)) ((x6 + 1)) (c_rect) ((up c_visited ((x6).toNat) 1))) else (f_Mo_visits_L29 c_s k n ((x5 + 1)) ((x6 + 1)) (c_rect) ((up c_visited ((x6).toNat) 1)))) else (bd1 (f_Mo_above c_s x6) <| fun r_27 => gd (0 ≤ r_27 ∧ r_27 < ((360 : Nat) : Int)) <| gd (ck (c_visited (r_27).toNat)) <| if (c_visited (r_27).toNat) = 0 then (gd (0 ≤ x6 ∧ x6 < ((360 : Nat) : Int)) <| gd (ck ((up c_visited ((x6).toNat) 0) (x6).toNat)) <| if ((up c_visited ((x6).toNat) 0) (x6).toNat) = 0 then (f_Mo_visits_L29 c_s k n ((x5 + 0)) ((x6 + 1)) (c_rect) ((up c_visited ((x6).toNat) 0))) else (f_Mo_visits_L29 c_s k n ((x5 + 1)) ((x6 + 1)) (c_rect) ((up c_visited ((x6).toNat) 0)))) else (bd2 (f_Mo_meets c_s c_rect x6) <| fun r_36 c_rect_37 => gd (ck r_36) <| if r_36 = 0 then (gd (0 ≤ x6 ∧ x6 < ((360 : Nat) : Int)) <| gd (ck ((up c_visited ((x6).toNat) 0) (x6).toNat)) <| if ((up c_visited ((x6).toNat) 0) (x6).toNat) = 0 then (f_Mo_visits_L29 c_s k n ((x5 + 0)) ((x6 + 1)) (c_rect_37) ((up c_visited ((x6).toNat) 0))) else (f_Mo_visits_L29 c_s k n ((x5 + 1)) ((x6 + 1)) (c_rect_37) ((up c_visited ((x6).toNat) 0)))) else (gd (0 ≤ x6 ∧ x6 < ((360 : Nat) : Int)) <| gd (ck ((up c_visited ((x6).toNat) 1) (x6).toNat)) <| if ((up c_visited ((x6).toNat) 1) (x6).toNat) = 0 then (f_Mo_visits_L29 c_s k n ((x5 + 0)) ((x6 + 1)) (c_rect_37) ((up c_visited ((x6).toNat) 1))) else (f_Mo_visits_L29 c_s k n ((x5 + 1)) ((x6 + 1)) (c_rect_37) ((up c_visited ((x6).toNat) 1))))))) else (gd (0 ≤ x6 ∧ x6 < ((360 : Nat) : Int)) <| gd (ck ((up c_visited ((x6).toNat) 0) (x6).toNat)) <| if ((up c_visited ((x6).toNat) 0) (x6).toNat) = 0 then (f_Mo_visits_L29 c_s k n ((x5 + 0)) ((x6 + 1)) (c_rect) ((up c_visited ((x6).toNat) 0))) else (f_Mo_visits_L29 c_s k n ((x5 + 1)) ((x6 + 1)) (c_rect) ((up c_visited ((x6).toNat) 0))))) else (k (x5) (x6) (c_rect) (c_visited))
def f_Mo_visits (c_s : Nat → Int) (c_rect : Nat → Int) (c_visited : Nat → Int) (x1 : Int) (x2 : Int) (x3 : Int) (x4 : Int) : Option (Int × (Nat → Int) × (Nat → Int)) :=
  bd1 (f_Mo_isRectangle x1 x2 x3 x4) <| fun r_1 => gd (ck r_1) <| if r_1 = 0 then (some ((-2), c_rect, c_visited)) else (bd1 (f_Mo_frames c_rect x1 x2 x3 x4) <| fun c_rect_6 => f_Mo_visits_L29 (c_s) (fun x5_48 x6_49 c_rect_50 c_visited_51 => some (x5_48, c_rect_50, c_visited_51)) FU (0) (0) (c_rect_6) (c_visited))
abbrev rm_Mo_visits : Room := ({ frames := 5, cells := 0, slots := 0, locals := 107 } : Room)
set_option maxHeartbeats 4000000 in
set_option maxRecDepth 100000 in
theorem w_Mo_visits_L29 {p : Program} {l : Launch} {e : Env} {s : State} {m : MethodId} {args : Array Value} {below : List Frame} {meth : Method} {c : Code} {A : Nat → Prop} (D : va_G) (cI cZ cT : ClassId) (h_M : Nat) (q_M : Nat → Nat) (c_s : Nat → Int) (c_past : Nat → Int) (c_kept : Nat → Int) (c_isKept : Int) (c_pasts : Int) (c_text : Nat → Int) (c_typed : Int) (c_item : Nat → Int) (c_items : Int) (c_itemLevel : Int) (c_treated : Nat → Int) (c_from : Nat → Int) (c_group : Nat → Int) (c_turn : Nat → Int) (c_size : Nat → Int) (c_old : Nat → Int) (c_aside : Nat → Int) (c_begin : Nat → Int) (c_level : Nat → Int) (c_asides : Int) (c_sorted : Nat → Int) (c_spot : Int) (c_rectangles : Int) (c_parts : Nat → Int) (res : Int × (Nat → Int) × (Nat → Int)) (k : Int → Int → (Nat → Int) → (Nat → Int) → Option (Int × (Nat → Int) × (Nat → Int))) (hF : zF p m c cX7_visits 7 s args yX7_visits.cls meth (some .int) yX7_visits.name A D (zt cI cZ cT))
    (hk : ∀ (x5 : Int) (x6 : Int) (c_rect : Nat → Int) (c_visited : Nat → Int) (H : Heap) (locs : List Loc) (ls : Array Slot), k x5 x6 c_rect c_visited = some res → va_P D vwCl ((zMo cI cZ h_M q_M c_s c_past c_kept c_isKept c_pasts c_text c_typed c_rect c_item c_items c_itemLevel c_treated c_from c_group c_turn c_size c_old c_aside c_begin c_level c_asides c_sorted c_spot c_rectangles c_parts c_visited)) H → va_D A ((zMo cI cZ h_M q_M c_s c_past c_kept c_isKept c_pasts c_text c_typed c_rect c_item c_items c_itemLevel c_treated c_from c_group c_turn c_size c_old c_aside c_begin c_level c_asides c_sorted c_spot c_rectangles c_parts c_visited)) → va_S A s.heap H locs → lv_has ls 7 [(5, vI x5)] → W p l e rm_Mo_visits s m args below meth c H locs 0 0 (MQ below (zQi D (res.1) (fun u => (zMo cI cZ h_M q_M c_s c_past c_kept c_isKept c_pasts c_text c_typed (res.2.1) c_item c_items c_itemLevel c_treated c_from c_group c_turn c_size c_old c_aside c_begin c_level c_asides c_sorted c_spot c_rectangles c_parts (res.2.2))) A) args s 0 0 A) (F0 m 113 ls [])) :
    ∀ (n : Nat) (x5 : Int) (x6 : Int) (c_rect : Nat → Int) (c_visited : Nat → Int) (H : Heap) (locs : List Loc) (ls : Array Slot), f_Mo_visits_L29 c_s k n x5 x6 c_rect c_visited = some res → va_P D vwCl ((zMo cI cZ h_M q_M c_s c_past c_kept c_isKept c_pasts c_text c_typed c_rect c_item c_items c_itemLevel c_treated c_from c_group c_turn c_size c_old c_aside c_begin c_level c_asides c_sorted c_spot c_rectangles c_parts c_visited)) H → va_D A ((zMo cI cZ h_M q_M c_s c_past c_kept c_isKept c_pasts c_text c_typed c_rect c_item c_items c_itemLevel c_treated c_from c_group c_turn c_size c_old c_aside c_begin c_level c_asides c_sorted c_spot c_rectangles c_parts c_visited)) → va_S A s.heap H locs → lv_has ls 7 [(0, .ref h_M), (5, vI x5), (6, vI x6)] → W p l e rm_Mo_visits s m args below meth c H locs 0 0 (MQ below (zQi D (res.1) (fun u => (zMo cI cZ h_M q_M c_s c_past c_kept c_isKept c_pasts c_text c_typed (res.2.1) c_item c_items c_itemLevel c_treated c_from c_group c_turn c_size c_old c_aside c_begin c_level c_asides c_sorted c_spot c_rectangles c_parts (res.2.2))) A) args s 0 0 A) (F0 m 29 ls []) := by
  have hx := hF.1.1
  have hb := hF.1.2.1
  have hml := hF.1.2.2.1
  have hown : s.vm.findClass "RectangleTreeModel" = some m.cls := hF.1.2.2.2.1
  have hts := hF.1.2.2.2.2
  have hr := hF.2.1
  have hlk := hF.2.2.1
  have hK := hF.2.2.2.2.1
  have hN := hF.2.2.2.2.2.1
  have hA := hF.2.2.2.2.2.2
  intro n
  induction n with
  | zero => intro x5 x6 c_rect c_visited H locs ls h; cases h
  | succ n ih =>
    intro x5 x6 c_rect c_visited H locs ls h hP hD hS hl
    rw [f_Mo_visits_L29] at h
    refine lv_iload hx hb dX7_visits_29 (lv_at hl 2 rfl) ?_
    refine lv_aload_n hx hb dX7_visits_31 rfl (lv_at hl 0 rfl) ?_
    obtain ⟨r_9, e_10, h⟩ := bd1_e h
    refine z_goi (ws' := []) (ret := r_9) (wc := (zMo cI cZ (h_M) (q_M) (c_s) (c_past) (c_kept) (c_isKept) (c_pasts) (c_text) (c_typed) (c_rect) (c_item) (c_items) (c_itemLevel) (c_treated) (c_from) (c_group) (c_turn) (c_size) (c_old) (c_aside) (c_begin) (c_level) (c_asides) (c_sorted) (c_spot) (c_rectangles) (c_parts) (c_visited))) (wn := fun u_11 => (zMo cI cZ h_M q_M c_s c_past c_kept c_isKept c_pasts c_text c_typed c_rect c_item c_items c_itemLevel c_treated c_from c_group c_turn c_size c_old c_aside c_begin c_level c_asides c_sorted c_spot c_rectangles c_parts c_visited)) (wr := []) (va_runV (As := []) (rest := [vI x6]) hF.1 (c_Mo_length l D cI cZ cT h_M q_M c_s c_past c_kept c_isKept c_pasts c_text c_typed c_rect c_item c_items c_itemLevel c_treated c_from c_group c_turn c_size c_old c_aside c_begin c_level c_asides c_sorted c_spot c_rectangles c_parts c_visited H.size (r_9) e_10) (cwV 0 hts (zgV wm926 wm928 wm41 wm89 wm929) rfl rfl rfl (by decide +kernel) ⟨Nat.le_of_ble_eq_true rfl, Nat.le_of_ble_eq_true rfl⟩) ⟨zP.blind, va_recv hK (z_subP (ws' := (zMo cI cZ (h_M) (q_M) (c_s) (c_past) (c_kept) (c_isKept) (c_pasts) (c_text) (c_typed) (c_rect) (c_item) (c_items) (c_itemLevel) (c_treated) (c_from) (c_group) (c_turn) (c_size) (c_old) (c_aside) (c_begin) (c_level) (c_asides) (c_sorted) (c_spot) (c_rectangles) (c_parts) (c_visited))) hP [0, 1, 2, 3, 4, 5, 6, 7, 8, 9, 10, 11, 12, 13, 14, 15, 16, 17, 18] rfl) (ci := 7) (q0 := 0) rfl rfl, zP.enter (z_subP (ws' := (zMo cI cZ (h_M) (q_M) (c_s) (c_past) (c_kept) (c_isKept) (c_pasts) (c_text) (c_typed) (c_rect) (c_item) (c_items) (c_itemLevel) (c_treated) (c_from) (c_group) (c_turn) (c_size) (c_old) (c_aside) (c_begin) (c_level) (c_asides) (c_sorted) (c_spot) (c_rectangles) (c_parts) (c_visited))) hP [0, 1, 2, 3, 4, 5, 6, 7, 8, 9, 10, 11, 12, 13, 14, 15, 16, 17, 18] rfl) hK (hD.sub [0, 1, 2, 3, 4, 5, 6, 7, 8, 9, 10, 11, 12, 13, 14, 15, 16, 17, 18] (by decide) rfl) hN⟩ rfl rfl hl.1 rfl (lv_room (Nat.le_of_ble_eq_true rfl)) dX7_visits_32 ⟨Nat.le_refl _, Nat.le_refl _⟩) hP hD hS hA [0, 1, 2, 3, 4, 5, 6, 7, 8, 9, 10, 11, 12, 13, 14, 15, 16, 17, 18] [] [0, 1, 2, 3, 4, 5, 6, 7, 8, 9, 10, 11, 12, 13, 14, 15, 16, 17, 18] rfl rfl (by decide) (fun _ => rfl) (fun u_11 H locs hP hD hS hz => ?_)
    obtain ⟨g_12, h⟩ := gd_e h
    obtain ⟨g_13, h⟩ := gd_e h
    refine z_icmp_ge (tgt := 113) hx hb g_12 g_13 dX7_visits_35 (by decide) (fun b_14 => ?_) (fun b_14 => ?_)
    · have h := it_n b_14 h
      exact hk (x5) (x6) (c_rect) (c_visited) H locs ls h hP hD hS (lv_sub hl [1] rfl)
    · have h := it_p b_14 h
      refine lv_aload_n hx hb dX7_visits_38 rfl (lv_at hl 0 rfl) ?_
      refine va_get (D := D) (ci := 7) (v := .ref (q_M 17)) (C := RX7) (T := TX7) (N := 26) hx hb hts zin7 hown hK hP 0 rfl rfl 25 (by decide) (hts _ wm812) (fun _ h9 => h9) rfl dX7_visits_39 ?_
      refine lv_iload hx hb dX7_visits_42 (lv_at hl 2 rfl) ?_
      refine lv_aload_n hx hb dX7_visits_44 rfl (lv_at hl 0 rfl) ?_
      refine lv_iload hx hb dX7_visits_45 (lv_at hl 2 rfl) ?_
      obtain ⟨r_15, e_16, h⟩ := bd1_e h
      refine z_goi (ws' := []) (ret := r_15) (wc := (zMo cI cZ (h_M) (q_M) (c_s) (c_past) (c_kept) (c_isKept) (c_pasts) (c_text) (c_typed) (c_rect) (c_item) (c_items) (c_itemLevel) (c_treated) (c_from) (c_group) (c_turn) (c_size) (c_old) (c_aside) (c_begin) (c_level) (c_asides) (c_sorted) (c_spot) (c_rectangles) (c_parts) (c_visited))) (wn := fun u_17 => (zMo cI cZ h_M q_M c_s c_past c_kept c_isKept c_pasts c_text c_typed c_rect c_item c_items c_itemLevel c_treated c_from c_group c_turn c_size c_old c_aside c_begin c_level c_asides c_sorted c_spot c_rectangles c_parts c_visited)) (wr := []) (va_runV (As := [vI x6]) (rest := [vI x6, .ref (q_M 17)]) hF.1 (c_Mo_at l D cI cZ cT h_M q_M c_s c_past c_kept c_isKept c_pasts c_text c_typed c_rect c_item c_items c_itemLevel c_treated c_from c_group c_turn c_size c_old c_aside c_begin c_level c_asides c_sorted c_spot c_rectangles c_parts c_visited x6 H.size (r_15) e_16) (cwV 1 hts (zgV wm915 wm917 wm39 wm89 wm918) rfl rfl rfl (by decide +kernel) ⟨Nat.le_of_ble_eq_true rfl, Nat.le_of_ble_eq_true rfl⟩) ⟨zP.blind, va_recv hK (z_subP (ws' := (zMo cI cZ (h_M) (q_M) (c_s) (c_past) (c_kept) (c_isKept) (c_pasts) (c_text) (c_typed) (c_rect) (c_item) (c_items) (c_itemLevel) (c_treated) (c_from) (c_group) (c_turn) (c_size) (c_old) (c_aside) (c_begin) (c_level) (c_asides) (c_sorted) (c_spot) (c_rectangles) (c_parts) (c_visited))) hP [0, 1, 2, 3, 4, 5, 6, 7, 8, 9, 10, 11, 12, 13, 14, 15, 16, 17, 18] rfl) (ci := 7) (q0 := 0) rfl rfl, zP.enter (z_subP (ws' := (zMo cI cZ (h_M) (q_M) (c_s) (c_past) (c_kept) (c_isKept) (c_pasts) (c_text) (c_typed) (c_rect) (c_item) (c_items) (c_itemLevel) (c_treated) (c_from) (c_group) (c_turn) (c_size) (c_old) (c_aside) (c_begin) (c_level) (c_asides) (c_sorted) (c_spot) (c_rectangles) (c_parts) (c_visited))) hP [0, 1, 2, 3, 4, 5, 6, 7, 8, 9, 10, 11, 12, 13, 14, 15, 16, 17, 18] rfl) hK (hD.sub [0, 1, 2, 3, 4, 5, 6, 7, 8, 9, 10, 11, 12, 13, 14, 15, 16, 17, 18] (by decide) rfl) hN⟩ rfl rfl hl.1 rfl (lv_room (Nat.le_of_ble_eq_true rfl)) dX7_visits_47 ⟨Nat.le_refl _, Nat.le_refl _⟩) hP hD hS hA [0, 1, 2, 3, 4, 5, 6, 7, 8, 9, 10, 11, 12, 13, 14, 15, 16, 17, 18] [] [0, 1, 2, 3, 4, 5, 6, 7, 8, 9, 10, 11, 12, 13, 14, 15, 16, 17, 18] rfl rfl (by decide) (fun _ => rfl) (fun u_17 H locs hP hD hS hz => ?_)
      obtain ⟨g_18, h⟩ := gd_e h
      refine z_if_ge (tgt := 85) hx hb g_18 dX7_visits_50 (by decide) (fun b_19 => ?_) (fun b_19 => ?_)
      · have h := it_n b_19 h
        refine lv_iconst (v := Int32.ofInt 0) hx hb dX7_visits_85 rfl ?_
        obtain ⟨g_20, h⟩ := gd_e h
        refine z_zast (n := 360) (f := c_visited) (i := x6) (x := 0) (ws' := (zMo cI cZ h_M q_M c_s c_past c_kept c_isKept c_pasts c_text c_typed c_rect c_item c_items c_itemLevel c_treated c_from c_group c_turn c_size c_old c_aside c_begin c_level c_asides c_sorted c_spot c_rectangles c_parts (up c_visited ((x6).toNat) 0))) hx hb hK hP hD hS 18 rfl rfl g_20 (by have := g_20.2; omega) (by decide +kernel) dX7_visits_86 rfl (fun H locs hP hD hS => ?_)
        refine lv_iload hx hb dX7_visits_87 (lv_at hl 1 rfl) ?_
        refine lv_aload_n hx hb dX7_visits_89 rfl (lv_at hl 0 rfl) ?_
        refine va_get (D := D) (ci := 7) (v := .ref (q_M 17)) (C := RX7) (T := TX7) (N := 26) hx hb hts zin7 hown hK hP 0 rfl rfl 25 (by decide) (hts _ wm812) (fun _ h9 => h9) rfl dX7_visits_90 ?_
        refine lv_iload hx hb dX7_visits_93 (lv_at hl 2 rfl) ?_
        refine z_zald (n := 360) (f := (up c_visited ((x6).toNat) 0)) (i := x6) hx hb hK hP 18 rfl rfl g_20 (by have := g_20.2; omega) dX7_visits_95 ?_
        obtain ⟨g_21, h⟩ := gd_e h
        refine z_if_eq (tgt := 103) hx hb g_21 dX7_visits_96 (by decide) (fun b_22 => ?_) (fun b_22 => ?_)
        · have h := it_p b_22 h
          refine lv_iconst (v := Int32.ofInt 0) hx hb dX7_visits_103 rfl ?_
          refine z_iadd hx hb dX7_visits_104 ?_
          refine lv_istore (lv' := [(5, vI (x5 + 0)), (0, .ref h_M), (6, vI x6)]) hx hb dX7_visits_105 hl (by decide) rfl (fun ls hl => ?_)
          refine lv_iinc (v := Int32.ofInt (x6 + 1)) (lv' := [(6, vI (x6 + 1)), (5, vI (x5 + 0)), (0, .ref h_M)]) hx hb dX7_visits_107 hl (k := 2) rfl (z_inc _ _) (by decide) rfl (fun ls hl => ?_)
          refine lv_goto (tgt := 29) hx hb dX7_visits_110 (by decide) ?_
          exact ih ((x5 + 0)) ((x6 + 1)) (c_rect) ((up c_visited ((x6).toNat) 0)) H locs ls h hP hD hS (lv_sub hl [2, 1, 0] rfl)
        · have h := it_n b_22 h
          refine lv_iconst (v := Int32.ofInt 1) hx hb dX7_visits_99 rfl ?_
          refine lv_goto (tgt := 104) hx hb dX7_visits_100 (by decide) ?_
          refine z_iadd hx hb dX7_visits_104 ?_
          refine lv_istore (lv' := [(5, vI (x5 + 1)), (0, .ref h_M), (6, vI x6)]) hx hb dX7_visits_105 hl (by decide) rfl (fun ls hl => ?_)
          refine lv_iinc (v := Int32.ofInt (x6 + 1)) (lv' := [(6, vI (x6 + 1)), (5, vI (x5 + 1)), (0, .ref h_M)]) hx hb dX7_visits_107 hl (k := 2) rfl (z_inc _ _) (by decide) rfl (fun ls hl => ?_)
          refine lv_goto (tgt := 29) hx hb dX7_visits_110 (by decide) ?_
          exact ih ((x5 + 1)) ((x6 + 1)) (c_rect) ((up c_visited ((x6).toNat) 0)) H locs ls h hP hD hS (lv_sub hl [2, 1, 0] rfl)
      · have h := it_p b_19 h
        refine lv_iload hx hb dX7_visits_53 (lv_at hl 2 rfl) ?_
        refine z_if_eq (tgt := 81) hx hb g_12 dX7_visits_55 (by decide) (fun b_23 => ?_) (fun b_23 => ?_)
        · have h := it_p b_23 h
          refine lv_iconst (v := Int32.ofInt 1) hx hb dX7_visits_81 rfl ?_
          refine lv_goto (tgt := 86) hx hb dX7_visits_82 (by decide) ?_
          obtain ⟨g_24, h⟩ := gd_e h
          refine z_zast (n := 360) (f := c_visited) (i := x6) (x := 1) (ws' := (zMo cI cZ h_M q_M c_s c_past c_kept c_isKept c_pasts c_text c_typed c_rect c_item c_items c_itemLevel c_treated c_from c_group c_turn c_size c_old c_aside c_begin c_level c_asides c_sorted c_spot c_rectangles c_parts (up c_visited ((x6).toNat) 1))) hx hb hK hP hD hS 18 rfl rfl g_24 (by have := g_24.2; omega) (by decide +kernel) dX7_visits_86 rfl (fun H locs hP hD hS => ?_)
          refine lv_iload hx hb dX7_visits_87 (lv_at hl 1 rfl) ?_
          refine lv_aload_n hx hb dX7_visits_89 rfl (lv_at hl 0 rfl) ?_
          refine va_get (D := D) (ci := 7) (v := .ref (q_M 17)) (C := RX7) (T := TX7) (N := 26) hx hb hts zin7 hown hK hP 0 rfl rfl 25 (by decide) (hts _ wm812) (fun _ h9 => h9) rfl dX7_visits_90 ?_
          refine lv_iload hx hb dX7_visits_93 (lv_at hl 2 rfl) ?_
          refine z_zald (n := 360) (f := (up c_visited ((x6).toNat) 1)) (i := x6) hx hb hK hP 18 rfl rfl g_24 (by have := g_24.2; omega) dX7_visits_95 ?_
          obtain ⟨g_25, h⟩ := gd_e h
          refine z_if_eq (tgt := 103) hx hb g_25 dX7_visits_96 (by decide) (fun b_26 => ?_) (fun b_26 => ?_)
          · have h := it_p b_26 h
            refine lv_iconst (v := Int32.ofInt 0) hx hb dX7_visits_103 rfl ?_
            refine z_iadd hx hb dX7_visits_104 ?_
            refine lv_istore (lv' := [(5, vI (x5 + 0)), (0, .ref h_M), (6, vI x6)]) hx hb dX7_visits_105 hl (by decide) rfl (fun ls hl => ?_)
            refine lv_iinc (v := Int32.ofInt (x6 + 1)) (lv' := [(6, vI (x6 + 1)), (5, vI (x5 + 0)), (0, .ref h_M)]) hx hb dX7_visits_107 hl (k := 2) rfl (z_inc _ _) (by decide) rfl (fun ls hl => ?_)
            refine lv_goto (tgt := 29) hx hb dX7_visits_110 (by decide) ?_
            exact ih ((x5 + 0)) ((x6 + 1)) (c_rect) ((up c_visited ((x6).toNat) 1)) H locs ls h hP hD hS (lv_sub hl [2, 1, 0] rfl)
          · have h := it_n b_26 h
            refine lv_iconst (v := Int32.ofInt 1) hx hb dX7_visits_99 rfl ?_
            refine lv_goto (tgt := 104) hx hb dX7_visits_100 (by decide) ?_
            refine z_iadd hx hb dX7_visits_104 ?_
            refine lv_istore (lv' := [(5, vI (x5 + 1)), (0, .ref h_M), (6, vI x6)]) hx hb dX7_visits_105 hl (by decide) rfl (fun ls hl => ?_)
            refine lv_iinc (v := Int32.ofInt (x6 + 1)) (lv' := [(6, vI (x6 + 1)), (5, vI (x5 + 1)), (0, .ref h_M)]) hx hb dX7_visits_107 hl (k := 2) rfl (z_inc _ _) (by decide) rfl (fun ls hl => ?_)
            refine lv_goto (tgt := 29) hx hb dX7_visits_110 (by decide) ?_
            exact ih ((x5 + 1)) ((x6 + 1)) (c_rect) ((up c_visited ((x6).toNat) 1)) H locs ls h hP hD hS (lv_sub hl [2, 1, 0] rfl)
        · have h := it_n b_23 h
          refine lv_aload_n hx hb dX7_visits_58 rfl (lv_at hl 0 rfl) ?_
          refine va_get (D := D) (ci := 7) (v := .ref (q_M 17)) (C := RX7) (T := TX7) (N := 26) hx hb hts zin7 hown hK hP 0 rfl rfl 25 (by decide) (hts _ wm812) (fun _ h9 => h9) rfl dX7_visits_59 ?_
          refine lv_aload_n hx hb dX7_visits_62 rfl (lv_at hl 0 rfl) ?_
          refine lv_iload hx hb dX7_visits_63 (lv_at hl 2 rfl) ?_
          obtain ⟨r_27, e_28, h⟩ := bd1_e h
          refine z_goi (ws' := []) (ret := r_27) (wc := (zMo cI cZ (h_M) (q_M) (c_s) (c_past) (c_kept) (c_isKept) (c_pasts) (c_text) (c_typed) (c_rect) (c_item) (c_items) (c_itemLevel) (c_treated) (c_from) (c_group) (c_turn) (c_size) (c_old) (c_aside) (c_begin) (c_level) (c_asides) (c_sorted) (c_spot) (c_rectangles) (c_parts) (c_visited))) (wn := fun u_29 => (zMo cI cZ h_M q_M c_s c_past c_kept c_isKept c_pasts c_text c_typed c_rect c_item c_items c_itemLevel c_treated c_from c_group c_turn c_size c_old c_aside c_begin c_level c_asides c_sorted c_spot c_rectangles c_parts c_visited)) (wr := []) (va_runV (As := [vI x6]) (rest := [.ref (q_M 17), vI x6, .ref (q_M 17)]) hF.1 (c_Mo_above l D cI cZ cT h_M q_M c_s c_past c_kept c_isKept c_pasts c_text c_typed c_rect c_item c_items c_itemLevel c_treated c_from c_group c_turn c_size c_old c_aside c_begin c_level c_asides c_sorted c_spot c_rectangles c_parts c_visited x6 H.size (r_27) e_28) (cwV 1 hts (zgV wm1002 wm1004 wm60 wm89 wm1005) rfl rfl rfl (by decide +kernel) ⟨Nat.le_of_ble_eq_true rfl, Nat.le_of_ble_eq_true rfl⟩) ⟨zP.blind, va_recv hK (z_subP (ws' := (zMo cI cZ (h_M) (q_M) (c_s) (c_past) (c_kept) (c_isKept) (c_pasts) (c_text) (c_typed) (c_rect) (c_item) (c_items) (c_itemLevel) (c_treated) (c_from) (c_group) (c_turn) (c_size) (c_old) (c_aside) (c_begin) (c_level) (c_asides) (c_sorted) (c_spot) (c_rectangles) (c_parts) (c_visited))) hP [0, 1, 2, 3, 4, 5, 6, 7, 8, 9, 10, 11, 12, 13, 14, 15, 16, 17, 18] rfl) (ci := 7) (q0 := 0) rfl rfl, zP.enter (z_subP (ws' := (zMo cI cZ (h_M) (q_M) (c_s) (c_past) (c_kept) (c_isKept) (c_pasts) (c_text) (c_typed) (c_rect) (c_item) (c_items) (c_itemLevel) (c_treated) (c_from) (c_group) (c_turn) (c_size) (c_old) (c_aside) (c_begin) (c_level) (c_asides) (c_sorted) (c_spot) (c_rectangles) (c_parts) (c_visited))) hP [0, 1, 2, 3, 4, 5, 6, 7, 8, 9, 10, 11, 12, 13, 14, 15, 16, 17, 18] rfl) hK (hD.sub [0, 1, 2, 3, 4, 5, 6, 7, 8, 9, 10, 11, 12, 13, 14, 15, 16, 17, 18] (by decide) rfl) hN⟩ rfl rfl hl.1 rfl (lv_room (Nat.le_of_ble_eq_true rfl)) dX7_visits_65 ⟨Nat.le_refl _, Nat.le_refl _⟩) hP hD hS hA [0, 1, 2, 3, 4, 5, 6, 7, 8, 9, 10, 11, 12, 13, 14, 15, 16, 17, 18] [] [0, 1, 2, 3, 4, 5, 6, 7, 8, 9, 10, 11, 12, 13, 14, 15, 16, 17, 18] rfl rfl (by decide) (fun _ => rfl) (fun u_29 H locs hP hD hS hz => ?_)
          obtain ⟨g_30, h⟩ := gd_e h
          refine z_zald (n := 360) (f := c_visited) (i := r_27) hx hb hK hP 18 rfl rfl g_30 (by have := g_30.2; omega) dX7_visits_68 ?_
          obtain ⟨g_31, h⟩ := gd_e h
          refine z_if_eq (tgt := 85) hx hb g_31 dX7_visits_69 (by decide) (fun b_32 => ?_) (fun b_32 => ?_)
          · have h := it_p b_32 h
            refine lv_iconst (v := Int32.ofInt 0) hx hb dX7_visits_85 rfl ?_
            obtain ⟨g_33, h⟩ := gd_e h
            refine z_zast (n := 360) (f := c_visited) (i := x6) (x := 0) (ws' := (zMo cI cZ h_M q_M c_s c_past c_kept c_isKept c_pasts c_text c_typed c_rect c_item c_items c_itemLevel c_treated c_from c_group c_turn c_size c_old c_aside c_begin c_level c_asides c_sorted c_spot c_rectangles c_parts (up c_visited ((x6).toNat) 0))) hx hb hK hP hD hS 18 rfl rfl g_33 (by have := g_33.2; omega) (by decide +kernel) dX7_visits_86 rfl (fun H locs hP hD hS => ?_)
            refine lv_iload hx hb dX7_visits_87 (lv_at hl 1 rfl) ?_
            refine lv_aload_n hx hb dX7_visits_89 rfl (lv_at hl 0 rfl) ?_
            refine va_get (D := D) (ci := 7) (v := .ref (q_M 17)) (C := RX7) (T := TX7) (N := 26) hx hb hts zin7 hown hK hP 0 rfl rfl 25 (by decide) (hts _ wm812) (fun _ h9 => h9) rfl dX7_visits_90 ?_
            refine lv_iload hx hb dX7_visits_93 (lv_at hl 2 rfl) ?_
            refine z_zald (n := 360) (f := (up c_visited ((x6).toNat) 0)) (i := x6) hx hb hK hP 18 rfl rfl g_33 (by have := g_33.2; omega) dX7_visits_95 ?_
            obtain ⟨g_34, h⟩ := gd_e h
            refine z_if_eq (tgt := 103) hx hb g_34 dX7_visits_96 (by decide) (fun b_35 => ?_) (fun b_35 => ?_)
            · have h := it_p b_35 h
              refine lv_iconst (v := Int32.ofInt 0) hx hb dX7_visits_103 rfl ?_
              refine z_iadd hx hb dX7_visits_104 ?_
              refine lv_istore (lv' := [(5, vI (x5 + 0)), (0, .ref h_M), (6, vI x6)]) hx hb dX7_visits_105 hl (by decide) rfl (fun ls hl => ?_)
              refine lv_iinc (v := Int32.ofInt (x6 + 1)) (lv' := [(6, vI (x6 + 1)), (5, vI (x5 + 0)), (0, .ref h_M)]) hx hb dX7_visits_107 hl (k := 2) rfl (z_inc _ _) (by decide) rfl (fun ls hl => ?_)
              refine lv_goto (tgt := 29) hx hb dX7_visits_110 (by decide) ?_
              exact ih ((x5 + 0)) ((x6 + 1)) (c_rect) ((up c_visited ((x6).toNat) 0)) H locs ls h hP hD hS (lv_sub hl [2, 1, 0] rfl)
            · have h := it_n b_35 h
              refine lv_iconst (v := Int32.ofInt 1) hx hb dX7_visits_99 rfl ?_
              refine lv_goto (tgt := 104) hx hb dX7_visits_100 (by decide) ?_
              refine z_iadd hx hb dX7_visits_104 ?_
              refine lv_istore (lv' := [(5, vI (x5 + 1)), (0, .ref h_M), (6, vI x6)]) hx hb dX7_visits_105 hl (by decide) rfl (fun ls hl => ?_)
              refine lv_iinc (v := Int32.ofInt (x6 + 1)) (lv' := [(6, vI (x6 + 1)), (5, vI (x5 + 1)), (0, .ref h_M)]) hx hb dX7_visits_107 hl (k := 2) rfl (z_inc _ _) (by decide) rfl (fun ls hl => ?_)
              refine lv_goto (tgt := 29) hx hb dX7_visits_110 (by decide) ?_
              exact ih ((x5 + 1)) ((x6 + 1)) (c_rect) ((up c_visited ((x6).toNat) 0)) H locs ls h hP hD hS (lv_sub hl [2, 1, 0] rfl)
          · have h := it_n b_32 h
            refine lv_aload_n hx hb dX7_visits_72 rfl (lv_at hl 0 rfl) ?_
            refine lv_iload hx hb dX7_visits_73 (lv_at hl 2 rfl) ?_
            obtain ⟨r_36, c_rect_37, e_38, h⟩ := bd2_e h
            refine z_goi (ws' := []) (ret := r_36) (wc := (zMo cI cZ (h_M) (q_M) (c_s) (c_past) (c_kept) (c_isKept) (c_pasts) (c_text) (c_typed) (c_rect) (c_item) (c_items) (c_itemLevel) (c_treated) (c_from) (c_group) (c_turn) (c_size) (c_old) (c_aside) (c_begin) (c_level) (c_asides) (c_sorted) (c_spot) (c_rectangles) (c_parts) (c_visited))) (wn := fun u_39 => (zMo cI cZ h_M q_M c_s c_past c_kept c_isKept c_pasts c_text c_typed c_rect_37 c_item c_items c_itemLevel c_treated c_from c_group c_turn c_size c_old c_aside c_begin c_level c_asides c_sorted c_spot c_rectangles c_parts c_visited)) (wr := []) (va_runV (As := [vI x6]) (rest := [vI x6, .ref (q_M 17)]) hF.1 (c_Mo_meets l D cI cZ cT h_M q_M c_s c_past c_kept c_isKept c_pasts c_text c_typed c_rect c_item c_items c_itemLevel c_treated c_from c_group c_turn c_size c_old c_aside c_begin c_level c_asides c_sorted c_spot c_rectangles c_parts c_visited x6 H.size (r_36, c_rect_37) e_38) (cwV 1 hts (zgV wm1167 wm1169 wm78 wm89 wm1170) rfl rfl rfl (by decide +kernel) ⟨Nat.le_of_ble_eq_true rfl, Nat.le_of_ble_eq_true rfl⟩) ⟨zP.blind, va_recv hK (z_subP (ws' := (zMo cI cZ (h_M) (q_M) (c_s) (c_past) (c_kept) (c_isKept) (c_pasts) (c_text) (c_typed) (c_rect) (c_item) (c_items) (c_itemLevel) (c_treated) (c_from) (c_group) (c_turn) (c_size) (c_old) (c_aside) (c_begin) (c_level) (c_asides) (c_sorted) (c_spot) (c_rectangles) (c_parts) (c_visited))) hP [0, 1, 2, 3, 4, 5, 6, 7, 8, 9, 10, 11, 12, 13, 14, 15, 16, 17, 18] rfl) (ci := 7) (q0 := 0) rfl rfl, zP.enter (z_subP (ws' := (zMo cI cZ (h_M) (q_M) (c_s) (c_past) (c_kept) (c_isKept) (c_pasts) (c_text) (c_typed) (c_rect) (c_item) (c_items) (c_itemLevel) (c_treated) (c_from) (c_group) (c_turn) (c_size) (c_old) (c_aside) (c_begin) (c_level) (c_asides) (c_sorted) (c_spot) (c_rectangles) (c_parts) (c_visited))) hP [0, 1, 2, 3, 4, 5, 6, 7, 8, 9, 10, 11, 12, 13, 14, 15, 16, 17, 18] rfl) hK (hD.sub [0, 1, 2, 3, 4, 5, 6, 7, 8, 9, 10, 11, 12, 13, 14, 15, 16, 17, 18] (by decide) rfl) hN⟩ rfl rfl hl.1 rfl (lv_room (Nat.le_of_ble_eq_true rfl)) dX7_visits_75 ⟨Nat.le_refl _, Nat.le_refl _⟩) hP hD hS hA [0, 1, 2, 3, 4, 5, 6, 7, 8, 9, 10, 11, 12, 13, 14, 15, 16, 17, 18] [] [0, 1, 2, 3, 4, 5, 6, 7, 8, 9, 10, 11, 12, 13, 14, 15, 16, 17, 18] rfl rfl (by decide) (fun _ => rfl) (fun u_39 H locs hP hD hS hz => ?_)
            obtain ⟨g_40, h⟩ := gd_e h
            refine z_if_eq (tgt := 85) hx hb g_40 dX7_visits_78 (by decide) (fun b_41 => ?_) (fun b_41 => ?_)
            · have h := it_p b_41 h
              refine lv_iconst (v := Int32.ofInt 0) hx hb dX7_visits_85 rfl ?_
              obtain ⟨g_42, h⟩ := gd_e h
              refine z_zast (n := 360) (f := c_visited) (i := x6) (x := 0) (ws' := (zMo cI cZ h_M q_M c_s c_past c_kept c_isKept c_pasts c_text c_typed c_rect_37 c_item c_items c_itemLevel c_treated c_from c_group c_turn c_size c_old c_aside c_begin c_level c_asides c_sorted c_spot c_rectangles c_parts (up c_visited ((x6).toNat) 0))) hx hb hK hP hD hS 18 rfl rfl g_42 (by have := g_42.2; omega) (by decide +kernel) dX7_visits_86 rfl (fun H locs hP hD hS => ?_)
              refine lv_iload hx hb dX7_visits_87 (lv_at hl 1 rfl) ?_
              refine lv_aload_n hx hb dX7_visits_89 rfl (lv_at hl 0 rfl) ?_
              refine va_get (D := D) (ci := 7) (v := .ref (q_M 17)) (C := RX7) (T := TX7) (N := 26) hx hb hts zin7 hown hK hP 0 rfl rfl 25 (by decide) (hts _ wm812) (fun _ h9 => h9) rfl dX7_visits_90 ?_
              refine lv_iload hx hb dX7_visits_93 (lv_at hl 2 rfl) ?_
              refine z_zald (n := 360) (f := (up c_visited ((x6).toNat) 0)) (i := x6) hx hb hK hP 18 rfl rfl g_42 (by have := g_42.2; omega) dX7_visits_95 ?_
              obtain ⟨g_43, h⟩ := gd_e h
              refine z_if_eq (tgt := 103) hx hb g_43 dX7_visits_96 (by decide) (fun b_44 => ?_) (fun b_44 => ?_)
              · have h := it_p b_44 h
                refine lv_iconst (v := Int32.ofInt 0) hx hb dX7_visits_103 rfl ?_
                refine z_iadd hx hb dX7_visits_104 ?_
                refine lv_istore (lv' := [(5, vI (x5 + 0)), (0, .ref h_M), (6, vI x6)]) hx hb dX7_visits_105 hl (by decide) rfl (fun ls hl => ?_)
                refine lv_iinc (v := Int32.ofInt (x6 + 1)) (lv' := [(6, vI (x6 + 1)), (5, vI (x5 + 0)), (0, .ref h_M)]) hx hb dX7_visits_107 hl (k := 2) rfl (z_inc _ _) (by decide) rfl (fun ls hl => ?_)
                refine lv_goto (tgt := 29) hx hb dX7_visits_110 (by decide) ?_
                exact ih ((x5 + 0)) ((x6 + 1)) (c_rect_37) ((up c_visited ((x6).toNat) 0)) H locs ls h hP hD hS (lv_sub hl [2, 1, 0] rfl)
              · have h := it_n b_44 h
                refine lv_iconst (v := Int32.ofInt 1) hx hb dX7_visits_99 rfl ?_
                refine lv_goto (tgt := 104) hx hb dX7_visits_100 (by decide) ?_
                refine z_iadd hx hb dX7_visits_104 ?_
                refine lv_istore (lv' := [(5, vI (x5 + 1)), (0, .ref h_M), (6, vI x6)]) hx hb dX7_visits_105 hl (by decide) rfl (fun ls hl => ?_)
                refine lv_iinc (v := Int32.ofInt (x6 + 1)) (lv' := [(6, vI (x6 + 1)), (5, vI (x5 + 1)), (0, .ref h_M)]) hx hb dX7_visits_107 hl (k := 2) rfl (z_inc _ _) (by decide) rfl (fun ls hl => ?_)
                refine lv_goto (tgt := 29) hx hb dX7_visits_110 (by decide) ?_
                exact ih ((x5 + 1)) ((x6 + 1)) (c_rect_37) ((up c_visited ((x6).toNat) 0)) H locs ls h hP hD hS (lv_sub hl [2, 1, 0] rfl)
            · have h := it_n b_41 h
              refine lv_iconst (v := Int32.ofInt 1) hx hb dX7_visits_81 rfl ?_
              refine lv_goto (tgt := 86) hx hb dX7_visits_82 (by decide) ?_
              obtain ⟨g_45, h⟩ := gd_e h
              refine z_zast (n := 360) (f := c_visited) (i := x6) (x := 1) (ws' := (zMo cI cZ h_M q_M c_s c_past c_kept c_isKept c_pasts c_text c_typed c_rect_37 c_item c_items c_itemLevel c_treated c_from c_group c_turn c_size c_old c_aside c_begin c_level c_asides c_sorted c_spot c_rectangles c_parts (up c_visited ((x6).toNat) 1))) hx hb hK hP hD hS 18 rfl rfl g_45 (by have := g_45.2; omega) (by decide +kernel) dX7_visits_86 rfl (fun H locs hP hD hS => ?_)
              refine lv_iload hx hb dX7_visits_87 (lv_at hl 1 rfl) ?_
              refine lv_aload_n hx hb dX7_visits_89 rfl (lv_at hl 0 rfl) ?_
              refine va_get (D := D) (ci := 7) (v := .ref (q_M 17)) (C := RX7) (T := TX7) (N := 26) hx hb hts zin7 hown hK hP 0 rfl rfl 25 (by decide) (hts _ wm812) (fun _ h9 => h9) rfl dX7_visits_90 ?_
              refine lv_iload hx hb dX7_visits_93 (lv_at hl 2 rfl) ?_
              refine z_zald (n := 360) (f := (up c_visited ((x6).toNat) 1)) (i := x6) hx hb hK hP 18 rfl rfl g_45 (by have := g_45.2; omega) dX7_visits_95 ?_
              obtain ⟨g_46, h⟩ := gd_e h
              refine z_if_eq (tgt := 103) hx hb g_46 dX7_visits_96 (by decide) (fun b_47 => ?_) (fun b_47 => ?_)
              · have h := it_p b_47 h
                refine lv_iconst (v := Int32.ofInt 0) hx hb dX7_visits_103 rfl ?_
                refine z_iadd hx hb dX7_visits_104 ?_
                refine lv_istore (lv' := [(5, vI (x5 + 0)), (0, .ref h_M), (6, vI x6)]) hx hb dX7_visits_105 hl (by decide) rfl (fun ls hl => ?_)
                refine lv_iinc (v := Int32.ofInt (x6 + 1)) (lv' := [(6, vI (x6 + 1)), (5, vI (x5 + 0)), (0, .ref h_M)]) hx hb dX7_visits_107 hl (k := 2) rfl (z_inc _ _) (by decide) rfl (fun ls hl => ?_)
                refine lv_goto (tgt := 29) hx hb dX7_visits_110 (by decide) ?_
                exact ih ((x5 + 0)) ((x6 + 1)) (c_rect_37) ((up c_visited ((x6).toNat) 1)) H locs ls h hP hD hS (lv_sub hl [2, 1, 0] rfl)
              · have h := it_n b_47 h
                refine lv_iconst (v := Int32.ofInt 1) hx hb dX7_visits_99 rfl ?_
                refine lv_goto (tgt := 104) hx hb dX7_visits_100 (by decide) ?_
                refine z_iadd hx hb dX7_visits_104 ?_
                refine lv_istore (lv' := [(5, vI (x5 + 1)), (0, .ref h_M), (6, vI x6)]) hx hb dX7_visits_105 hl (by decide) rfl (fun ls hl => ?_)
                refine lv_iinc (v := Int32.ofInt (x6 + 1)) (lv' := [(6, vI (x6 + 1)), (5, vI (x5 + 1)), (0, .ref h_M)]) hx hb dX7_visits_107 hl (k := 2) rfl (z_inc _ _) (by decide) rfl (fun ls hl => ?_)
                refine lv_goto (tgt := 29) hx hb dX7_visits_110 (by decide) ?_
                exact ih ((x5 + 1)) ((x6 + 1)) (c_rect_37) ((up c_visited ((x6).toNat) 1)) H locs ls h hP hD hS (lv_sub hl [2, 1, 0] rfl)
set_option maxHeartbeats 4000000 in
set_option maxRecDepth 100000 in
theorem c_Mo_visits (l : Launch) (D : va_G) (cI cZ cT : ClassId) (h_M : Nat) (q_M : Nat → Nat) (c_s : Nat → Int) (c_past : Nat → Int) (c_kept : Nat → Int) (c_isKept : Int) (c_pasts : Int) (c_text : Nat → Int) (c_typed : Int) (c_rect : Nat → Int) (c_item : Nat → Int) (c_items : Int) (c_itemLevel : Int) (c_treated : Nat → Int) (c_from : Nat → Int) (c_group : Nat → Int) (c_turn : Nat → Int) (c_size : Nat → Int) (c_old : Nat → Int) (c_aside : Nat → Int) (c_begin : Nat → Int) (c_level : Nat → Int) (c_asides : Int) (c_sorted : Nat → Int) (c_spot : Int) (c_rectangles : Int) (c_parts : Nat → Int) (c_visited : Nat → Int) (x1 : Int) (x2 : Int) (x3 : Int) (x4 : Int) (sz : Nat) (res : Int × (Nat → Int) × (Nat → Int)) (h : f_Mo_visits c_s c_rect c_visited x1 x2 x3 x4 = some res) : zMi l yX7_visits cX7_visits 7 rm_Mo_visits D (zt cI cZ cT) [.ref h_M, vI x1, vI x2, vI x3, vI x4] ((zMo cI cZ h_M q_M c_s c_past c_kept c_isKept c_pasts c_text c_typed c_rect c_item c_items c_itemLevel c_treated c_from c_group c_turn c_size c_old c_aside c_begin c_level c_asides c_sorted c_spot c_rectangles c_parts c_visited)) sz (res.1) (fun u => (zMo cI cZ h_M q_M c_s c_past c_kept c_isKept c_pasts c_text c_typed (res.2.1) c_item c_items c_itemLevel c_treated c_from c_group c_turn c_size c_old c_aside c_begin c_level c_asides c_sorted c_spot c_rectangles c_parts (res.2.2))) 0 0 := by
  refine z_enth (Qc := zQi D (res.1) (fun u => (zMo cI cZ h_M q_M c_s c_past c_kept c_isKept c_pasts c_text c_typed (res.2.1) c_item c_items c_itemLevel c_treated c_from c_group c_turn c_size c_old c_aside c_begin c_level c_asides c_sorted c_spot c_rectangles c_parts (res.2.2)))) (by decide) (Nat.le_of_ble_eq_true rfl) (fun p e s m args below meth c A ls H locs hF hP hD hS hl => ?_)
  have hx := hF.1.1
  have hb := hF.1.2.1
  have hml := hF.1.2.2.1
  have hown : s.vm.findClass "RectangleTreeModel" = some m.cls := hF.1.2.2.2.1
  have hts := hF.1.2.2.2.2
  have hr := hF.2.1
  have hlk := hF.2.2.1
  have hK := hF.2.2.2.2.1
  have hN := hF.2.2.2.2.2.1
  have hA := hF.2.2.2.2.2.2
  unfold f_Mo_visits at h
  refine lv_iload_n hx hb dX7_visits_0 rfl (lv_at hl 1 rfl) ?_
  refine lv_iload_n hx hb dX7_visits_1 rfl (lv_at hl 2 rfl) ?_
  refine lv_iload_n hx hb dX7_visits_2 rfl (lv_at hl 3 rfl) ?_
  refine lv_iload hx hb dX7_visits_3 (lv_at hl 4 rfl) ?_
  obtain ⟨r_1, e_2, h⟩ := bd1_e h
  refine z_goi (ws' := []) (ret := r_1) (wc := ([] : va_W)) (wn := fun u_3 => (zMo cI cZ h_M q_M c_s c_past c_kept c_isKept c_pasts c_text c_typed c_rect c_item c_items c_itemLevel c_treated c_from c_group c_turn c_size c_old c_aside c_begin c_level c_asides c_sorted c_spot c_rectangles c_parts c_visited)) (wr := ([0, 1, 2, 3, 4, 5, 6, 7, 8, 9, 10, 11, 12, 13, 14, 15, 16, 17, 18].filterMap (fun i => ((zMo cI cZ h_M q_M c_s c_past c_kept c_isKept c_pasts c_text c_typed c_rect c_item c_items c_itemLevel c_treated c_from c_group c_turn c_size c_old c_aside c_begin c_level c_asides c_sorted c_spot c_rectangles c_parts c_visited))[i]?))) (va_runS (As := [vI x1, vI x2, vI x3, vI x4]) (rest := []) hF.1 (c_Mo_isRectangle l D cI cZ cT x1 x2 x3 x4 H.size (r_1) e_2) (va_cwS 4 hts (zgS wm871 wm872 wm89 wm873) rfl rfl rfl (by decide +kernel) ⟨Nat.le_of_ble_eq_true rfl, Nat.le_of_ble_eq_true rfl⟩) ⟨zP.blind, zP.enter (z_subP (ws' := ([] : va_W)) hP [] rfl) hK (hD.sub [] (by decide) rfl) hN⟩ rfl rfl hl.1 rfl (lv_room (Nat.le_of_ble_eq_true rfl)) dX7_visits_5 ⟨Nat.le_refl _, Nat.le_refl _⟩) hP hD hS hA [] [0, 1, 2, 3, 4, 5, 6, 7, 8, 9, 10, 11, 12, 13, 14, 15, 16, 17, 18] [0, 1, 2, 3, 4, 5, 6, 7, 8, 9, 10, 11, 12, 13, 14, 15, 16, 17, 18] rfl rfl (by decide) (fun _ => rfl) (fun u_3 H locs hP hD hS hz => ?_)
  obtain ⟨g_4, h⟩ := gd_e h
  refine z_if_ne (tgt := 14) hx hb g_4 dX7_visits_8 (by decide) (fun b_5 => ?_) (fun b_5 => ?_)
  · have h := it_n b_5 h
    refine lv_aload_n hx hb dX7_visits_14 rfl (lv_at hl 0 rfl) ?_
    refine lv_iload_n hx hb dX7_visits_15 rfl (lv_at hl 1 rfl) ?_
    refine lv_iload_n hx hb dX7_visits_16 rfl (lv_at hl 2 rfl) ?_
    refine lv_iload_n hx hb dX7_visits_17 rfl (lv_at hl 3 rfl) ?_
    refine lv_iload hx hb dX7_visits_18 (lv_at hl 4 rfl) ?_
    obtain ⟨c_rect_6, e_7, h⟩ := bd1_e h
    refine z_gov (wc := (zMo cI cZ (h_M) (q_M) (c_s) (c_past) (c_kept) (c_isKept) (c_pasts) (c_text) (c_typed) (c_rect) (c_item) (c_items) (c_itemLevel) (c_treated) (c_from) (c_group) (c_turn) (c_size) (c_old) (c_aside) (c_begin) (c_level) (c_asides) (c_sorted) (c_spot) (c_rectangles) (c_parts) (c_visited))) (wn := fun u_8 => (zMo cI cZ h_M q_M c_s c_past c_kept c_isKept c_pasts c_text c_typed c_rect_6 c_item c_items c_itemLevel c_treated c_from c_group c_turn c_size c_old c_aside c_begin c_level c_asides c_sorted c_spot c_rectangles c_parts c_visited)) (wr := []) (va_runV (As := [vI x1, vI x2, vI x3, vI x4]) (rest := []) hF.1 (c_Mo_frames l D cI cZ cT h_M q_M c_s c_past c_kept c_isKept c_pasts c_text c_typed c_rect c_item c_items c_itemLevel c_treated c_from c_group c_turn c_size c_old c_aside c_begin c_level c_asides c_sorted c_spot c_rectangles c_parts c_visited x1 x2 x3 x4 H.size (c_rect_6) e_7) (cwV 4 hts (zgV wm1163 wm1165 wm77 wm89 wm1166) rfl rfl rfl (by decide +kernel) ⟨Nat.le_of_ble_eq_true rfl, Nat.le_of_ble_eq_true rfl⟩) ⟨zP.blind, va_recv hK (z_subP (ws' := (zMo cI cZ (h_M) (q_M) (c_s) (c_past) (c_kept) (c_isKept) (c_pasts) (c_text) (c_typed) (c_rect) (c_item) (c_items) (c_itemLevel) (c_treated) (c_from) (c_group) (c_turn) (c_size) (c_old) (c_aside) (c_begin) (c_level) (c_asides) (c_sorted) (c_spot) (c_rectangles) (c_parts) (c_visited))) hP [0, 1, 2, 3, 4, 5, 6, 7, 8, 9, 10, 11, 12, 13, 14, 15, 16, 17, 18] rfl) (ci := 7) (q0 := 0) rfl rfl, zP.enter (z_subP (ws' := (zMo cI cZ (h_M) (q_M) (c_s) (c_past) (c_kept) (c_isKept) (c_pasts) (c_text) (c_typed) (c_rect) (c_item) (c_items) (c_itemLevel) (c_treated) (c_from) (c_group) (c_turn) (c_size) (c_old) (c_aside) (c_begin) (c_level) (c_asides) (c_sorted) (c_spot) (c_rectangles) (c_parts) (c_visited))) hP [0, 1, 2, 3, 4, 5, 6, 7, 8, 9, 10, 11, 12, 13, 14, 15, 16, 17, 18] rfl) hK (hD.sub [0, 1, 2, 3, 4, 5, 6, 7, 8, 9, 10, 11, 12, 13, 14, 15, 16, 17, 18] (by decide) rfl) hN⟩ rfl rfl hl.1 rfl (lv_room (Nat.le_of_ble_eq_true rfl)) dX7_visits_20 ⟨Nat.le_refl _, Nat.le_refl _⟩) hP hD hS hA [0, 1, 2, 3, 4, 5, 6, 7, 8, 9, 10, 11, 12, 13, 14, 15, 16, 17, 18] [] [0, 1, 2, 3, 4, 5, 6, 7, 8, 9, 10, 11, 12, 13, 14, 15, 16, 17, 18] rfl rfl (by decide) (fun _ => rfl) (fun u_8 H locs hP hD hS hz => ?_)
    refine lv_iconst (v := Int32.ofInt 0) hx hb dX7_visits_23 rfl ?_
    refine lv_istore (lv' := [(5, vI 0), (0, .ref h_M), (1, vI x1), (2, vI x2), (3, vI x3), (4, vI x4)]) hx hb dX7_visits_24 hl (by decide) rfl (fun ls hl => ?_)
    refine lv_iconst (v := Int32.ofInt 0) hx hb dX7_visits_26 rfl ?_
    refine lv_istore (lv' := [(6, vI 0), (5, vI 0), (0, .ref h_M), (1, vI x1), (2, vI x2), (3, vI x3), (4, vI x4)]) hx hb dX7_visits_27 hl (by decide) rfl (fun ls hl => ?_)
    refine w_Mo_visits_L29 D cI cZ cT (h_M) (q_M) (c_s) (c_past) (c_kept) (c_isKept) (c_pasts) (c_text) (c_typed) (c_item) (c_items) (c_itemLevel) (c_treated) (c_from) (c_group) (c_turn) (c_size) (c_old) (c_aside) (c_begin) (c_level) (c_asides) (c_sorted) (c_spot) (c_rectangles) (c_parts) _ _ hF (fun x5_48 x6_49 c_rect_50 c_visited_51 H locs ls h hP hD hS hl => ?_) _ (0) (0) (c_rect_6) (c_visited) _ _ _ h hP hD hS (lv_sub hl [2, 1, 0] rfl)
    refine lv_iload hx hb dX7_visits_113 (lv_at hl 0 rfl) ?_
    obtain rfl := Option.some.inj h
    exact z_iret hx hb hr hlk (fun _ _ => 0) hP hD hS dX7_visits_115
  · have h := it_p b_5 h
    refine lv_bipush (v := Int32.ofInt (-2)) hx hb dX7_visits_11 (by decide +kernel) ?_
    obtain rfl := Option.some.inj h
    exact z_iret hx hb hr hlk (fun _ _ => 0) hP hD hS dX7_visits_13
def f_Mo_off (x0 : Int) (x1 : Int) (x2 : Int) : Option (Int) :=
  gd (ck x0) <| gd (ck x1) <| if x0 < x1 then (some ((x1 - x0))) else (gd (ck x2) <| if x2 < x0 then (some ((x0 - x2))) else (some (0)))
abbrev rm_Mo_off : Room := ({ frames := 0, cells := 0, slots := 0, locals := 0 } : Room)
set_option maxHeartbeats 4000000 in
set_option maxRecDepth 100000 in
theorem c_Mo_off (l : Launch) (D : va_G) (cI cZ cT : ClassId) (x0 : Int) (x1 : Int) (x2 : Int) (sz : Nat) (res : Int) (h : f_Mo_off x0 x1 x2 = some res) : zMi l yX7_off cX7_off 3 rm_Mo_off D (zt cI cZ cT) [vI x0, vI x1, vI x2] (([] : va_W)) sz (res) (fun u => ([] : va_W)) 0 0 := by
  refine z_enth (Qc := zQi D (res) (fun u => ([] : va_W))) (by decide) (Nat.le_of_ble_eq_true rfl) (fun p e s m args below meth c A ls H locs hF hP hD hS hl => ?_)
  have hx := hF.1.1
  have hb := hF.1.2.1
  have hml := hF.1.2.2.1
  have hown : s.vm.findClass "RectangleTreeModel" = some m.cls := hF.1.2.2.2.1
  have hts := hF.1.2.2.2.2
  have hr := hF.2.1
  have hlk := hF.2.2.1
  have hK := hF.2.2.2.2.1
  have hN := hF.2.2.2.2.2.1
  have hA := hF.2.2.2.2.2.2
  unfold f_Mo_off at h
  refine lv_iload_n hx hb dX7_off_0 rfl (lv_at hl 0 rfl) ?_
  refine lv_iload_n hx hb dX7_off_1 rfl (lv_at hl 1 rfl) ?_
  obtain ⟨g_1, h⟩ := gd_e h
  obtain ⟨g_2, h⟩ := gd_e h
  refine z_icmp_ge (tgt := 11) hx hb g_1 g_2 dX7_off_2 (by decide) (fun b_3 => ?_) (fun b_3 => ?_)
  · have h := it_n b_3 h
    refine lv_iload_n hx hb dX7_off_11 rfl (lv_at hl 0 rfl) ?_
    refine lv_iload_n hx hb dX7_off_12 rfl (lv_at hl 2 rfl) ?_
    obtain ⟨g_4, h⟩ := gd_e h
    refine z_icmp_le (tgt := 22) hx hb g_1 g_4 dX7_off_13 (by decide) (fun b_5 => ?_) (fun b_5 => ?_)
    · have h := it_n b_5 h
      refine lv_iconst (v := Int32.ofInt 0) hx hb dX7_off_22 rfl ?_
      obtain rfl := Option.some.inj h
      exact z_iret hx hb hr hlk (fun _ _ => 0) hP hD hS dX7_off_23
    · have h := it_p b_5 h
      refine lv_iload_n hx hb dX7_off_16 rfl (lv_at hl 0 rfl) ?_
      refine lv_iload_n hx hb dX7_off_17 rfl (lv_at hl 2 rfl) ?_
      refine z_isub hx hb dX7_off_18 ?_
      refine lv_goto (tgt := 23) hx hb dX7_off_19 (by decide) ?_
      obtain rfl := Option.some.inj h
      exact z_iret hx hb hr hlk (fun _ _ => 0) hP hD hS dX7_off_23
  · have h := it_p b_3 h
    refine lv_iload_n hx hb dX7_off_5 rfl (lv_at hl 1 rfl) ?_
    refine lv_iload_n hx hb dX7_off_6 rfl (lv_at hl 0 rfl) ?_
    refine z_isub hx hb dX7_off_7 ?_
    refine lv_goto (tgt := 23) hx hb dX7_off_8 (by decide) ?_
    obtain rfl := Option.some.inj h
    exact z_iret hx hb hr hlk (fun _ _ => 0) hP hD hS dX7_off_23
def f_Mo_nearest_L32 (c_s : Nat → Int) (x1 : Int) (x2 : Int) (k : Int → Int → Int → Option (Int)) : Nat → Int → Int → Int → Option (Int)
  | 0, _, _, _ => none
  | n + 1, x3, x4, x5 =>
  gd (ck x5) <| if x5 < 24 then (gd (0 ≤ (5 + (4 * x5)) ∧ (5 + (4 * x5)) < ((461 : Nat) : Int)) <| gd (0 ≤ ((5 + (4 * x5)) + 2) ∧ ((5 + (4 * x5)) + 2) < ((461 : Nat) : Int)) <| bd1 (f_Mo_off x1 (c_s ((5 + (4 * x5))).toNat) (c_s (((5 + (4 * x5)) + 2)).toNat)) <| fun r_15 => gd (0 ≤ ((5 + (4 * x5)) + 1) ∧ ((5 + (4 * x5)) + 1) < ((461 : Nat) : Int)) <| gd (0 ≤ ((5 + (4 * x5)) + 3) ∧ ((5 + (4 * x5)) + 3) < ((461 : Nat) : Int)) <| bd1 (f_Mo_off x2 (c_s (((5 + (4 * x5)) + 1)).toNat) (c_s (((5 + (4 * x5)) + 3)).toNat)) <| fun r_20 => bd1 (f_Mo_isBox c_s x5) <| fun r_23 => gd (ck r_23) <| if r_23 = 0 then (f_Mo_nearest_L32 c_s x1 x2 k n (x3) (x4) ((x5 + 1))) else (gd (ck x3) <| if x3 < 0 then (f_Mo_nearest_L32 c_s x1 x2 k n (x5) (((r_15 * r_15) + (r_20 * r_20))) ((x5 + 1))) else (gd (ck ((r_15 * r_15) + (r_20 * r_20))) <| gd (ck x4) <| if ((r_15 * r_15) + (r_20 * r_20)) < x4 then (f_Mo_nearest_L32 c_s x1 x2 k n (x5) (((r_15 * r_15) + (r_20 * r_20))) ((x5 + 1))) else (f_Mo_nearest_L32 c_s x1 x2 k n (x3) (x4) ((x5 + 1)))))) else (k (x3) (x4) (x5))
def f_Mo_nearest (c_s : Nat → Int) (x1 : Int) (x2 : Int) : Option (Int) :=
  bd1 (f_Mo_in x1 0 99) <| fun r_1 => gd (ck r_1) <| if r_1 = 0 then (some ((-2))) else (bd1 (f_Mo_in x2 0 99) <| fun r_6 => gd (ck r_6) <| if r_6 = 0 then (some ((-2))) else (f_Mo_nearest_L32 (c_s) (x1) (x2) (fun x3_41 x4_42 x5_43 => some (x3_41)) FU ((-5)) (0) (0)))
abbrev rm_Mo_nearest : Room := ({ frames := 2, cells := 0, slots := 0, locals := 43 } : Room)
set_option maxHeartbeats 4000000 in
set_option maxRecDepth 100000 in
theorem w_Mo_nearest_L32 {p : Program} {l : Launch} {e : Env} {s : State} {m : MethodId} {args : Array Value} {below : List Frame} {meth : Method} {c : Code} {A : Nat → Prop} (D : va_G) (cI cZ cT : ClassId) (h_M : Nat) (q_M : Nat → Nat) (c_s : Nat → Int) (c_past : Nat → Int) (c_kept : Nat → Int) (c_isKept : Int) (c_pasts : Int) (c_text : Nat → Int) (c_typed : Int) (c_rect : Nat → Int) (c_item : Nat → Int) (c_items : Int) (c_itemLevel : Int) (c_treated : Nat → Int) (c_from : Nat → Int) (c_group : Nat → Int) (c_turn : Nat → Int) (c_size : Nat → Int) (c_old : Nat → Int) (c_aside : Nat → Int) (c_begin : Nat → Int) (c_level : Nat → Int) (c_asides : Int) (c_sorted : Nat → Int) (c_spot : Int) (c_rectangles : Int) (c_parts : Nat → Int) (c_visited : Nat → Int) (x1 : Int) (x2 : Int) (res : Int) (k : Int → Int → Int → Option (Int)) (hF : zF p m c cX7_nearest 11 s args yX7_nearest.cls meth (some .int) yX7_nearest.name A D (zt cI cZ cT))
    (hk : ∀ (x3 : Int) (x4 : Int) (x5 : Int) (H : Heap) (locs : List Loc) (ls : Array Slot), k x3 x4 x5 = some res → va_P D vwCl ((zMo cI cZ h_M q_M c_s c_past c_kept c_isKept c_pasts c_text c_typed c_rect c_item c_items c_itemLevel c_treated c_from c_group c_turn c_size c_old c_aside c_begin c_level c_asides c_sorted c_spot c_rectangles c_parts c_visited)) H → va_D A ((zMo cI cZ h_M q_M c_s c_past c_kept c_isKept c_pasts c_text c_typed c_rect c_item c_items c_itemLevel c_treated c_from c_group c_turn c_size c_old c_aside c_begin c_level c_asides c_sorted c_spot c_rectangles c_parts c_visited)) → va_S A s.heap H locs → lv_has ls 11 [(3, vI x3)] → W p l e rm_Mo_nearest s m args below meth c H locs 0 0 (MQ below (zQi D (res) (fun u => (zMo cI cZ h_M q_M c_s c_past c_kept c_isKept c_pasts c_text c_typed c_rect c_item c_items c_itemLevel c_treated c_from c_group c_turn c_size c_old c_aside c_begin c_level c_asides c_sorted c_spot c_rectangles c_parts c_visited)) A) args s 0 0 A) (F0 m 165 ls [])) :
    ∀ (n : Nat) (x3 : Int) (x4 : Int) (x5 : Int) (H : Heap) (locs : List Loc) (ls : Array Slot), f_Mo_nearest_L32 c_s x1 x2 k n x3 x4 x5 = some res → va_P D vwCl ((zMo cI cZ h_M q_M c_s c_past c_kept c_isKept c_pasts c_text c_typed c_rect c_item c_items c_itemLevel c_treated c_from c_group c_turn c_size c_old c_aside c_begin c_level c_asides c_sorted c_spot c_rectangles c_parts c_visited)) H → va_D A ((zMo cI cZ h_M q_M c_s c_past c_kept c_isKept c_pasts c_text c_typed c_rect c_item c_items c_itemLevel c_treated c_from c_group c_turn c_size c_old c_aside c_begin c_level c_asides c_sorted c_spot c_rectangles c_parts c_visited)) → va_S A s.heap H locs → lv_has ls 11 [(0, .ref h_M), (1, vI x1), (2, vI x2), (3, vI x3), (4, vI x4), (5, vI x5)] → W p l e rm_Mo_nearest s m args below meth c H locs 0 0 (MQ below (zQi D (res) (fun u => (zMo cI cZ h_M q_M c_s c_past c_kept c_isKept c_pasts c_text c_typed c_rect c_item c_items c_itemLevel c_treated c_from c_group c_turn c_size c_old c_aside c_begin c_level c_asides c_sorted c_spot c_rectangles c_parts c_visited)) A) args s 0 0 A) (F0 m 32 ls []) := by
  have hx := hF.1.1
  have hb := hF.1.2.1
  have hml := hF.1.2.2.1
  have hown : s.vm.findClass "RectangleTreeModel" = some m.cls := hF.1.2.2.2.1
  have hts := hF.1.2.2.2.2
  have hr := hF.2.1
  have hlk := hF.2.2.1
  have hK := hF.2.2.2.2.1
  have hN := hF.2.2.2.2.2.1
  have hA := hF.2.2.2.2.2.2
  intro n
  induction n with
  | zero => intro x3 x4 x5 H locs ls h; cases h
  | succ n ih =>
    intro x3 x4 x5 H locs ls h hP hD hS hl
    rw [f_Mo_nearest_L32] at h
    refine lv_iload hx hb dX7_nearest_32 (lv_at hl 5 rfl) ?_
    refine lv_bipush (v := Int32.ofInt 24) hx hb dX7_nearest_34 (by decide +kernel) ?_
    obtain ⟨g_11, h⟩ := gd_e h
    refine z_icmp_ge (tgt := 165) hx hb g_11 (by decide) dX7_nearest_36 (by decide) (fun b_12 => ?_) (fun b_12 => ?_)
    · have h := it_n b_12 h
      exact hk (x3) (x4) (x5) H locs ls h hP hD hS (lv_sub hl [3] rfl)
    · have h := it_p b_12 h
      refine lv_iconst (v := Int32.ofInt 5) hx hb dX7_nearest_39 rfl ?_
      refine lv_iconst (v := Int32.ofInt 4) hx hb dX7_nearest_40 rfl ?_
      refine lv_iload hx hb dX7_nearest_41 (lv_at hl 5 rfl) ?_
      refine z_imul hx hb dX7_nearest_43 ?_
      refine z_iadd hx hb dX7_nearest_44 ?_
      refine lv_istore (lv' := [(6, vI (5 + (4 * x5))), (0, .ref h_M), (1, vI x1), (2, vI x2), (3, vI x3), (4, vI x4), (5, vI x5)]) hx hb dX7_nearest_45 hl (by decide) rfl (fun ls hl => ?_)
      refine lv_iload_n hx hb dX7_nearest_47 rfl (lv_at hl 2 rfl) ?_
      refine lv_aload_n hx hb dX7_nearest_48 rfl (lv_at hl 1 rfl) ?_
      refine va_get (D := D) (ci := 7) (v := .ref (q_M 0)) (C := RX7) (T := TX7) (N := 26) hx hb hts zin7 hown hK hP 0 rfl rfl 0 (by decide) (hts _ wm787) (fun _ h9 => h9) rfl dX7_nearest_49 ?_
      refine lv_iload hx hb dX7_nearest_52 (lv_at hl 0 rfl) ?_
      obtain ⟨g_13, h⟩ := gd_e h
      refine z_iald (n := 461) (f := c_s) (i := (5 + (4 * x5))) hx hb hK hP 1 rfl rfl g_13 (by have := g_13.2; omega) dX7_nearest_54 ?_
      refine lv_aload_n hx hb dX7_nearest_55 rfl (lv_at hl 1 rfl) ?_
      refine va_get (D := D) (ci := 7) (v := .ref (q_M 0)) (C := RX7) (T := TX7) (N := 26) hx hb hts zin7 hown hK hP 0 rfl rfl 0 (by decide) (hts _ wm787) (fun _ h9 => h9) rfl dX7_nearest_56 ?_
      refine lv_iload hx hb dX7_nearest_59 (lv_at hl 0 rfl) ?_
      refine lv_iconst (v := Int32.ofInt 2) hx hb dX7_nearest_61 rfl ?_
      refine z_iadd hx hb dX7_nearest_62 ?_
      obtain ⟨g_14, h⟩ := gd_e h
      refine z_iald (n := 461) (f := c_s) (i := ((5 + (4 * x5)) + 2)) hx hb hK hP 1 rfl rfl g_14 (by have := g_14.2; omega) dX7_nearest_63 ?_
      obtain ⟨r_15, e_16, h⟩ := bd1_e h
      refine z_goi (ws' := []) (ret := r_15) (wc := ([] : va_W)) (wn := fun u_17 => (zMo cI cZ h_M q_M c_s c_past c_kept c_isKept c_pasts c_text c_typed c_rect c_item c_items c_itemLevel c_treated c_from c_group c_turn c_size c_old c_aside c_begin c_level c_asides c_sorted c_spot c_rectangles c_parts c_visited)) (wr := ([0, 1, 2, 3, 4, 5, 6, 7, 8, 9, 10, 11, 12, 13, 14, 15, 16, 17, 18].filterMap (fun i => ((zMo cI cZ h_M q_M c_s c_past c_kept c_isKept c_pasts c_text c_typed c_rect c_item c_items c_itemLevel c_treated c_from c_group c_turn c_size c_old c_aside c_begin c_level c_asides c_sorted c_spot c_rectangles c_parts c_visited))[i]?))) (va_runS (As := [vI x1, vI (c_s ((5 + (4 * x5))).toNat), vI (c_s (((5 + (4 * x5)) + 2)).toNat)]) (rest := []) hF.1 (c_Mo_off l D cI cZ cT x1 (c_s ((5 + (4 * x5))).toNat) (c_s (((5 + (4 * x5)) + 2)).toNat) H.size (r_15) e_16) (va_cwS 3 hts (zgS wm1187 wm1188 wm89 wm1189) rfl rfl rfl (by decide +kernel) ⟨Nat.le_of_ble_eq_true rfl, Nat.le_of_ble_eq_true rfl⟩) ⟨zP.blind, zP.enter (z_subP (ws' := ([] : va_W)) hP [] rfl) hK (hD.sub [] (by decide) rfl) hN⟩ rfl rfl hl.1 rfl (lv_room (Nat.le_of_ble_eq_true rfl)) dX7_nearest_64 ⟨Nat.le_refl _, Nat.le_refl _⟩) hP hD hS hA [] [0, 1, 2, 3, 4, 5, 6, 7, 8, 9, 10, 11, 12, 13, 14, 15, 16, 17, 18] [0, 1, 2, 3, 4, 5, 6, 7, 8, 9, 10, 11, 12, 13, 14, 15, 16, 17, 18] rfl rfl (by decide) (fun _ => rfl) (fun u_17 H locs hP hD hS hz => ?_)
      refine lv_istore (lv' := [(7, vI r_15), (6, vI (5 + (4 * x5))), (0, .ref h_M), (1, vI x1), (2, vI x2), (3, vI x3), (4, vI x4), (5, vI x5)]) hx hb dX7_nearest_67 hl (by decide) rfl (fun ls hl => ?_)
      refine lv_iload_n hx hb dX7_nearest_69 rfl (lv_at hl 4 rfl) ?_
      refine lv_aload_n hx hb dX7_nearest_70 rfl (lv_at hl 2 rfl) ?_
      refine va_get (D := D) (ci := 7) (v := .ref (q_M 0)) (C := RX7) (T := TX7) (N := 26) hx hb hts zin7 hown hK hP 0 rfl rfl 0 (by decide) (hts _ wm787) (fun _ h9 => h9) rfl dX7_nearest_71 ?_
      refine lv_iload hx hb dX7_nearest_74 (lv_at hl 1 rfl) ?_
      refine lv_iconst (v := Int32.ofInt 1) hx hb dX7_nearest_76 rfl ?_
      refine z_iadd hx hb dX7_nearest_77 ?_
      obtain ⟨g_18, h⟩ := gd_e h
      refine z_iald (n := 461) (f := c_s) (i := ((5 + (4 * x5)) + 1)) hx hb hK hP 1 rfl rfl g_18 (by have := g_18.2; omega) dX7_nearest_78 ?_
      refine lv_aload_n hx hb dX7_nearest_79 rfl (lv_at hl 2 rfl) ?_
      refine va_get (D := D) (ci := 7) (v := .ref (q_M 0)) (C := RX7) (T := TX7) (N := 26) hx hb hts zin7 hown hK hP 0 rfl rfl 0 (by decide) (hts _ wm787) (fun _ h9 => h9) rfl dX7_nearest_80 ?_
      refine lv_iload hx hb dX7_nearest_83 (lv_at hl 1 rfl) ?_
      refine lv_iconst (v := Int32.ofInt 3) hx hb dX7_nearest_85 rfl ?_
      refine z_iadd hx hb dX7_nearest_86 ?_
      obtain ⟨g_19, h⟩ := gd_e h
      refine z_iald (n := 461) (f := c_s) (i := ((5 + (4 * x5)) + 3)) hx hb hK hP 1 rfl rfl g_19 (by have := g_19.2; omega) dX7_nearest_87 ?_
      obtain ⟨r_20, e_21, h⟩ := bd1_e h
      refine z_goi (ws' := []) (ret := r_20) (wc := ([] : va_W)) (wn := fun u_22 => (zMo cI cZ h_M q_M c_s c_past c_kept c_isKept c_pasts c_text c_typed c_rect c_item c_items c_itemLevel c_treated c_from c_group c_turn c_size c_old c_aside c_begin c_level c_asides c_sorted c_spot c_rectangles c_parts c_visited)) (wr := ([0, 1, 2, 3, 4, 5, 6, 7, 8, 9, 10, 11, 12, 13, 14, 15, 16, 17, 18].filterMap (fun i => ((zMo cI cZ h_M q_M c_s c_past c_kept c_isKept c_pasts c_text c_typed c_rect c_item c_items c_itemLevel c_treated c_from c_group c_turn c_size c_old c_aside c_begin c_level c_asides c_sorted c_spot c_rectangles c_parts c_visited))[i]?))) (va_runS (As := [vI x2, vI (c_s (((5 + (4 * x5)) + 1)).toNat), vI (c_s (((5 + (4 * x5)) + 3)).toNat)]) (rest := []) hF.1 (c_Mo_off l D cI cZ cT x2 (c_s (((5 + (4 * x5)) + 1)).toNat) (c_s (((5 + (4 * x5)) + 3)).toNat) H.size (r_20) e_21) (va_cwS 3 hts (zgS wm1187 wm1188 wm89 wm1189) rfl rfl rfl (by decide +kernel) ⟨Nat.le_of_ble_eq_true rfl, Nat.le_of_ble_eq_true rfl⟩) ⟨zP.blind, zP.enter (z_subP (ws' := ([] : va_W)) hP [] rfl) hK (hD.sub [] (by decide) rfl) hN⟩ rfl rfl hl.1 rfl (lv_room (Nat.le_of_ble_eq_true rfl)) dX7_nearest_88 ⟨Nat.le_refl _, Nat.le_refl _⟩) hP hD hS hA [] [0, 1, 2, 3, 4, 5, 6, 7, 8, 9, 10, 11, 12, 13, 14, 15, 16, 17, 18] [0, 1, 2, 3, 4, 5, 6, 7, 8, 9, 10, 11, 12, 13, 14, 15, 16, 17, 18] rfl rfl (by decide) (fun _ => rfl) (fun u_22 H locs hP hD hS hz => ?_)
      refine lv_istore (lv' := [(8, vI r_20), (7, vI r_15), (6, vI (5 + (4 * x5))), (0, .ref h_M), (1, vI x1), (2, vI x2), (3, vI x3), (4, vI x4), (5, vI x5)]) hx hb dX7_nearest_91 hl (by decide) rfl (fun ls hl => ?_)
      refine lv_iload hx hb dX7_nearest_93 (lv_at hl 1 rfl) ?_
      refine lv_iload hx hb dX7_nearest_95 (lv_at hl 1 rfl) ?_
      refine z_imul hx hb dX7_nearest_97 ?_
      refine lv_iload hx hb dX7_nearest_98 (lv_at hl 0 rfl) ?_
      refine lv_iload hx hb dX7_nearest_100 (lv_at hl 0 rfl) ?_
      refine z_imul hx hb dX7_nearest_102 ?_
      refine z_iadd hx hb dX7_nearest_103 ?_
      refine lv_istore (lv' := [(9, vI ((r_15 * r_15) + (r_20 * r_20))), (8, vI r_20), (7, vI r_15), (6, vI (5 + (4 * x5))), (0, .ref h_M), (1, vI x1), (2, vI x2), (3, vI x3), (4, vI x4), (5, vI x5)]) hx hb dX7_nearest_104 hl (by decide) rfl (fun ls hl => ?_)
      refine lv_aload_n hx hb dX7_nearest_106 rfl (lv_at hl 4 rfl) ?_
      refine lv_iload hx hb dX7_nearest_107 (lv_at hl 9 rfl) ?_
      obtain ⟨r_23, e_24, h⟩ := bd1_e h
      refine z_goi (ws' := []) (ret := r_23) (wc := (zMo cI cZ (h_M) (q_M) (c_s) (c_past) (c_kept) (c_isKept) (c_pasts) (c_text) (c_typed) (c_rect) (c_item) (c_items) (c_itemLevel) (c_treated) (c_from) (c_group) (c_turn) (c_size) (c_old) (c_aside) (c_begin) (c_level) (c_asides) (c_sorted) (c_spot) (c_rectangles) (c_parts) (c_visited))) (wn := fun u_25 => (zMo cI cZ h_M q_M c_s c_past c_kept c_isKept c_pasts c_text c_typed c_rect c_item c_items c_itemLevel c_treated c_from c_group c_turn c_size c_old c_aside c_begin c_level c_asides c_sorted c_spot c_rectangles c_parts c_visited)) (wr := []) (va_runV (As := [vI x5]) (rest := []) hF.1 (c_Mo_isBox l D cI cZ cT h_M q_M c_s c_past c_kept c_isKept c_pasts c_text c_typed c_rect c_item c_items c_itemLevel c_treated c_from c_group c_turn c_size c_old c_aside c_begin c_level c_asides c_sorted c_spot c_rectangles c_parts c_visited x5 H.size (r_23) e_24) (cwV 1 hts (zgV wm881 wm883 wm32 wm89 wm884) rfl rfl rfl (by decide +kernel) ⟨Nat.le_of_ble_eq_true rfl, Nat.le_of_ble_eq_true rfl⟩) ⟨zP.blind, va_recv hK (z_subP (ws' := (zMo cI cZ (h_M) (q_M) (c_s) (c_past) (c_kept) (c_isKept) (c_pasts) (c_text) (c_typed) (c_rect) (c_item) (c_items) (c_itemLevel) (c_treated) (c_from) (c_group) (c_turn) (c_size) (c_old) (c_aside) (c_begin) (c_level) (c_asides) (c_sorted) (c_spot) (c_rectangles) (c_parts) (c_visited))) hP [0, 1, 2, 3, 4, 5, 6, 7, 8, 9, 10, 11, 12, 13, 14, 15, 16, 17, 18] rfl) (ci := 7) (q0 := 0) rfl rfl, zP.enter (z_subP (ws' := (zMo cI cZ (h_M) (q_M) (c_s) (c_past) (c_kept) (c_isKept) (c_pasts) (c_text) (c_typed) (c_rect) (c_item) (c_items) (c_itemLevel) (c_treated) (c_from) (c_group) (c_turn) (c_size) (c_old) (c_aside) (c_begin) (c_level) (c_asides) (c_sorted) (c_spot) (c_rectangles) (c_parts) (c_visited))) hP [0, 1, 2, 3, 4, 5, 6, 7, 8, 9, 10, 11, 12, 13, 14, 15, 16, 17, 18] rfl) hK (hD.sub [0, 1, 2, 3, 4, 5, 6, 7, 8, 9, 10, 11, 12, 13, 14, 15, 16, 17, 18] (by decide) rfl) hN⟩ rfl rfl hl.1 rfl (lv_room (Nat.le_of_ble_eq_true rfl)) dX7_nearest_109 ⟨Nat.le_refl _, Nat.le_refl _⟩) hP hD hS hA [0, 1, 2, 3, 4, 5, 6, 7, 8, 9, 10, 11, 12, 13, 14, 15, 16, 17, 18] [] [0, 1, 2, 3, 4, 5, 6, 7, 8, 9, 10, 11, 12, 13, 14, 15, 16, 17, 18] rfl rfl (by decide) (fun _ => rfl) (fun u_25 H locs hP hD hS hz => ?_)
      obtain ⟨g_26, h⟩ := gd_e h
      refine z_if_eq (tgt := 130) hx hb g_26 dX7_nearest_112 (by decide) (fun b_27 => ?_) (fun b_27 => ?_)
      · have h := it_p b_27 h
        refine lv_iconst (v := Int32.ofInt 0) hx hb dX7_nearest_130 rfl ?_
        refine lv_istore (lv' := [(10, vI 0), (9, vI ((r_15 * r_15) + (r_20 * r_20))), (8, vI r_20), (7, vI r_15), (6, vI (5 + (4 * x5))), (0, .ref h_M), (1, vI x1), (2, vI x2), (3, vI x3), (4, vI x4), (5, vI x5)]) hx hb dX7_nearest_131 hl (by decide) rfl (fun ls hl => ?_)
        refine lv_iload hx hb dX7_nearest_133 (lv_at hl 0 rfl) ?_
        refine z_if_eq (tgt := 143) hx hb (by decide) dX7_nearest_135 (by decide) (fun b_28 => ?_) (fun b_28 => ?_)
        rotate_left
        · exact absurd b_28 (by decide)
        refine lv_iload_n hx hb dX7_nearest_143 rfl (lv_at hl 8 rfl) ?_
        refine lv_istore_n (lv' := [(3, vI x3), (10, vI 0), (9, vI ((r_15 * r_15) + (r_20 * r_20))), (8, vI r_20), (7, vI r_15), (6, vI (5 + (4 * x5))), (0, .ref h_M), (1, vI x1), (2, vI x2), (4, vI x4), (5, vI x5)]) hx hb dX7_nearest_144 rfl hl (by decide) rfl (fun ls hl => ?_)
        refine lv_iload hx hb dX7_nearest_145 (lv_at hl 1 rfl) ?_
        refine z_if_eq (tgt := 155) hx hb (by decide) dX7_nearest_147 (by decide) (fun b_29 => ?_) (fun b_29 => ?_)
        rotate_left
        · exact absurd b_29 (by decide)
        refine lv_iload hx hb dX7_nearest_155 (lv_at hl 9 rfl) ?_
        refine lv_istore (lv' := [(4, vI x4), (3, vI x3), (10, vI 0), (9, vI ((r_15 * r_15) + (r_20 * r_20))), (8, vI r_20), (7, vI r_15), (6, vI (5 + (4 * x5))), (0, .ref h_M), (1, vI x1), (2, vI x2), (5, vI x5)]) hx hb dX7_nearest_157 hl (by decide) rfl (fun ls hl => ?_)
        refine lv_iinc (v := Int32.ofInt (x5 + 1)) (lv' := [(5, vI (x5 + 1)), (4, vI x4), (3, vI x3), (10, vI 0), (9, vI ((r_15 * r_15) + (r_20 * r_20))), (8, vI r_20), (7, vI r_15), (6, vI (5 + (4 * x5))), (0, .ref h_M), (1, vI x1), (2, vI x2)]) hx hb dX7_nearest_159 hl (k := 10) rfl (z_inc _ _) (by decide) rfl (fun ls hl => ?_)
        refine lv_goto (tgt := 32) hx hb dX7_nearest_162 (by decide) ?_
        exact ih (x3) (x4) ((x5 + 1)) H locs ls h hP hD hS (lv_sub hl [8, 9, 10, 2, 1, 0] rfl)
      · have h := it_n b_27 h
        refine lv_iload_n hx hb dX7_nearest_115 rfl (lv_at hl 7 rfl) ?_
        obtain ⟨g_30, h⟩ := gd_e h
        refine z_if_lt (tgt := 126) hx hb g_30 dX7_nearest_116 (by decide) (fun b_31 => ?_) (fun b_31 => ?_)
        · have h := it_p b_31 h
          refine lv_iconst (v := Int32.ofInt 1) hx hb dX7_nearest_126 rfl ?_
          refine lv_goto (tgt := 131) hx hb dX7_nearest_127 (by decide) ?_
          refine lv_istore (lv' := [(10, vI 1), (9, vI ((r_15 * r_15) + (r_20 * r_20))), (8, vI r_20), (7, vI r_15), (6, vI (5 + (4 * x5))), (0, .ref h_M), (1, vI x1), (2, vI x2), (3, vI x3), (4, vI x4), (5, vI x5)]) hx hb dX7_nearest_131 hl (by decide) rfl (fun ls hl => ?_)
          refine lv_iload hx hb dX7_nearest_133 (lv_at hl 0 rfl) ?_
          refine z_if_eq (tgt := 143) hx hb (by decide) dX7_nearest_135 (by decide) (fun b_32 => ?_) (fun b_32 => ?_)
          · exact absurd b_32 (by decide)
          refine lv_iload hx hb dX7_nearest_138 (lv_at hl 10 rfl) ?_
          refine lv_goto (tgt := 144) hx hb dX7_nearest_140 (by decide) ?_
          refine lv_istore_n (lv' := [(3, vI x5), (10, vI 1), (9, vI ((r_15 * r_15) + (r_20 * r_20))), (8, vI r_20), (7, vI r_15), (6, vI (5 + (4 * x5))), (0, .ref h_M), (1, vI x1), (2, vI x2), (4, vI x4), (5, vI x5)]) hx hb dX7_nearest_144 rfl hl (by decide) rfl (fun ls hl => ?_)
          refine lv_iload hx hb dX7_nearest_145 (lv_at hl 1 rfl) ?_
          refine z_if_eq (tgt := 155) hx hb (by decide) dX7_nearest_147 (by decide) (fun b_33 => ?_) (fun b_33 => ?_)
          · exact absurd b_33 (by decide)
          refine lv_iload hx hb dX7_nearest_150 (lv_at hl 2 rfl) ?_
          refine lv_goto (tgt := 157) hx hb dX7_nearest_152 (by decide) ?_
          refine lv_istore (lv' := [(4, vI ((r_15 * r_15) + (r_20 * r_20))), (3, vI x5), (10, vI 1), (9, vI ((r_15 * r_15) + (r_20 * r_20))), (8, vI r_20), (7, vI r_15), (6, vI (5 + (4 * x5))), (0, .ref h_M), (1, vI x1), (2, vI x2), (5, vI x5)]) hx hb dX7_nearest_157 hl (by decide) rfl (fun ls hl => ?_)
          refine lv_iinc (v := Int32.ofInt (x5 + 1)) (lv' := [(5, vI (x5 + 1)), (4, vI ((r_15 * r_15) + (r_20 * r_20))), (3, vI x5), (10, vI 1), (9, vI ((r_15 * r_15) + (r_20 * r_20))), (8, vI r_20), (7, vI r_15), (6, vI (5 + (4 * x5))), (0, .ref h_M), (1, vI x1), (2, vI x2)]) hx hb dX7_nearest_159 hl (k := 10) rfl (z_inc _ _) (by decide) rfl (fun ls hl => ?_)
          refine lv_goto (tgt := 32) hx hb dX7_nearest_162 (by decide) ?_
          exact ih (x5) (((r_15 * r_15) + (r_20 * r_20))) ((x5 + 1)) H locs ls h hP hD hS (lv_sub hl [8, 9, 10, 2, 1, 0] rfl)
        · have h := it_n b_31 h
          refine lv_iload hx hb dX7_nearest_119 (lv_at hl 0 rfl) ?_
          refine lv_iload hx hb dX7_nearest_121 (lv_at hl 8 rfl) ?_
          obtain ⟨g_34, h⟩ := gd_e h
          obtain ⟨g_35, h⟩ := gd_e h
          refine z_icmp_ge (tgt := 130) hx hb g_34 g_35 dX7_nearest_123 (by decide) (fun b_36 => ?_) (fun b_36 => ?_)
          · have h := it_n b_36 h
            refine lv_iconst (v := Int32.ofInt 0) hx hb dX7_nearest_130 rfl ?_
            refine lv_istore (lv' := [(10, vI 0), (9, vI ((r_15 * r_15) + (r_20 * r_20))), (8, vI r_20), (7, vI r_15), (6, vI (5 + (4 * x5))), (0, .ref h_M), (1, vI x1), (2, vI x2), (3, vI x3), (4, vI x4), (5, vI x5)]) hx hb dX7_nearest_131 hl (by decide) rfl (fun ls hl => ?_)
            refine lv_iload hx hb dX7_nearest_133 (lv_at hl 0 rfl) ?_
            refine z_if_eq (tgt := 143) hx hb (by decide) dX7_nearest_135 (by decide) (fun b_37 => ?_) (fun b_37 => ?_)
            rotate_left
            · exact absurd b_37 (by decide)
            refine lv_iload_n hx hb dX7_nearest_143 rfl (lv_at hl 8 rfl) ?_
            refine lv_istore_n (lv' := [(3, vI x3), (10, vI 0), (9, vI ((r_15 * r_15) + (r_20 * r_20))), (8, vI r_20), (7, vI r_15), (6, vI (5 + (4 * x5))), (0, .ref h_M), (1, vI x1), (2, vI x2), (4, vI x4), (5, vI x5)]) hx hb dX7_nearest_144 rfl hl (by decide) rfl (fun ls hl => ?_)
            refine lv_iload hx hb dX7_nearest_145 (lv_at hl 1 rfl) ?_
            refine z_if_eq (tgt := 155) hx hb (by decide) dX7_nearest_147 (by decide) (fun b_38 => ?_) (fun b_38 => ?_)
            rotate_left
            · exact absurd b_38 (by decide)
            refine lv_iload hx hb dX7_nearest_155 (lv_at hl 9 rfl) ?_
            refine lv_istore (lv' := [(4, vI x4), (3, vI x3), (10, vI 0), (9, vI ((r_15 * r_15) + (r_20 * r_20))), (8, vI r_20), (7, vI r_15), (6, vI (5 + (4 * x5))), (0, .ref h_M), (1, vI x1), (2, vI x2), (5, vI x5)]) hx hb dX7_nearest_157 hl (by decide) rfl (fun ls hl => ?_)
            refine lv_iinc (v := Int32.ofInt (x5 + 1)) (lv' := [(5, vI (x5 + 1)), (4, vI x4), (3, vI x3), (10, vI 0), (9, vI ((r_15 * r_15) + (r_20 * r_20))), (8, vI r_20), (7, vI r_15), (6, vI (5 + (4 * x5))), (0, .ref h_M), (1, vI x1), (2, vI x2)]) hx hb dX7_nearest_159 hl (k := 10) rfl (z_inc _ _) (by decide) rfl (fun ls hl => ?_)
            refine lv_goto (tgt := 32) hx hb dX7_nearest_162 (by decide) ?_
            exact ih (x3) (x4) ((x5 + 1)) H locs ls h hP hD hS (lv_sub hl [8, 9, 10, 2, 1, 0] rfl)
          · have h := it_p b_36 h
            refine lv_iconst (v := Int32.ofInt 1) hx hb dX7_nearest_126 rfl ?_
            refine lv_goto (tgt := 131) hx hb dX7_nearest_127 (by decide) ?_
            refine lv_istore (lv' := [(10, vI 1), (9, vI ((r_15 * r_15) + (r_20 * r_20))), (8, vI r_20), (7, vI r_15), (6, vI (5 + (4 * x5))), (0, .ref h_M), (1, vI x1), (2, vI x2), (3, vI x3), (4, vI x4), (5, vI x5)]) hx hb dX7_nearest_131 hl (by decide) rfl (fun ls hl => ?_)
            refine lv_iload hx hb dX7_nearest_133 (lv_at hl 0 rfl) ?_
            refine z_if_eq (tgt := 143) hx hb (by decide) dX7_nearest_135 (by decide) (fun b_39 => ?_) (fun b_39 => ?_)
            · exact absurd b_39 (by decide)
            refine lv_iload hx hb dX7_nearest_138 (lv_at hl 10 rfl) ?_
            refine lv_goto (tgt := 144) hx hb dX7_nearest_140 (by decide) ?_
            refine lv_istore_n (lv' := [(3, vI x5), (10, vI 1), (9, vI ((r_15 * r_15) + (r_20 * r_20))), (8, vI r_20), (7, vI r_15), (6, vI (5 + (4 * x5))), (0, .ref h_M), (1, vI x1), (2, vI x2), (4, vI x4), (5, vI x5)]) hx hb dX7_nearest_144 rfl hl (by decide) rfl (fun ls hl => ?_)
            refine lv_iload hx hb dX7_nearest_145 (lv_at hl 1 rfl) ?_
            refine z_if_eq (tgt := 155) hx hb (by decide) dX7_nearest_147 (by decide) (fun b_40 => ?_) (fun b_40 => ?_)
            · exact absurd b_40 (by decide)
            refine lv_iload hx hb dX7_nearest_150 (lv_at hl 2 rfl) ?_
            refine lv_goto (tgt := 157) hx hb dX7_nearest_152 (by decide) ?_
            refine lv_istore (lv' := [(4, vI ((r_15 * r_15) + (r_20 * r_20))), (3, vI x5), (10, vI 1), (9, vI ((r_15 * r_15) + (r_20 * r_20))), (8, vI r_20), (7, vI r_15), (6, vI (5 + (4 * x5))), (0, .ref h_M), (1, vI x1), (2, vI x2), (5, vI x5)]) hx hb dX7_nearest_157 hl (by decide) rfl (fun ls hl => ?_)
            refine lv_iinc (v := Int32.ofInt (x5 + 1)) (lv' := [(5, vI (x5 + 1)), (4, vI ((r_15 * r_15) + (r_20 * r_20))), (3, vI x5), (10, vI 1), (9, vI ((r_15 * r_15) + (r_20 * r_20))), (8, vI r_20), (7, vI r_15), (6, vI (5 + (4 * x5))), (0, .ref h_M), (1, vI x1), (2, vI x2)]) hx hb dX7_nearest_159 hl (k := 10) rfl (z_inc _ _) (by decide) rfl (fun ls hl => ?_)
            refine lv_goto (tgt := 32) hx hb dX7_nearest_162 (by decide) ?_
            exact ih (x5) (((r_15 * r_15) + (r_20 * r_20))) ((x5 + 1)) H locs ls h hP hD hS (lv_sub hl [8, 9, 10, 2, 1, 0] rfl)
set_option maxHeartbeats 4000000 in
set_option maxRecDepth 100000 in
theorem c_Mo_nearest (l : Launch) (D : va_G) (cI cZ cT : ClassId) (h_M : Nat) (q_M : Nat → Nat) (c_s : Nat → Int) (c_past : Nat → Int) (c_kept : Nat → Int) (c_isKept : Int) (c_pasts : Int) (c_text : Nat → Int) (c_typed : Int) (c_rect : Nat → Int) (c_item : Nat → Int) (c_items : Int) (c_itemLevel : Int) (c_treated : Nat → Int) (c_from : Nat → Int) (c_group : Nat → Int) (c_turn : Nat → Int) (c_size : Nat → Int) (c_old : Nat → Int) (c_aside : Nat → Int) (c_begin : Nat → Int) (c_level : Nat → Int) (c_asides : Int) (c_sorted : Nat → Int) (c_spot : Int) (c_rectangles : Int) (c_parts : Nat → Int) (c_visited : Nat → Int) (x1 : Int) (x2 : Int) (sz : Nat) (res : Int) (h : f_Mo_nearest c_s x1 x2 = some res) : zMi l yX7_nearest cX7_nearest 11 rm_Mo_nearest D (zt cI cZ cT) [.ref h_M, vI x1, vI x2] ((zMo cI cZ h_M q_M c_s c_past c_kept c_isKept c_pasts c_text c_typed c_rect c_item c_items c_itemLevel c_treated c_from c_group c_turn c_size c_old c_aside c_begin c_level c_asides c_sorted c_spot c_rectangles c_parts c_visited)) sz (res) (fun u => (zMo cI cZ h_M q_M c_s c_past c_kept c_isKept c_pasts c_text c_typed c_rect c_item c_items c_itemLevel c_treated c_from c_group c_turn c_size c_old c_aside c_begin c_level c_asides c_sorted c_spot c_rectangles c_parts c_visited)) 0 0 := by
  refine z_enth (Qc := zQi D (res) (fun u => (zMo cI cZ h_M q_M c_s c_past c_kept c_isKept c_pasts c_text c_typed c_rect c_item c_items c_itemLevel c_treated c_from c_group c_turn c_size c_old c_aside c_begin c_level c_asides c_sorted c_spot c_rectangles c_parts c_visited))) (by decide) (Nat.le_of_ble_eq_true rfl) (fun p e s m args below meth c A ls H locs hF hP hD hS hl => ?_)
  have hx := hF.1.1
  have hb := hF.1.2.1
  have hml := hF.1.2.2.1
  have hown : s.vm.findClass "RectangleTreeModel" = some m.cls := hF.1.2.2.2.1
  have hts := hF.1.2.2.2.2
  have hr := hF.2.1
  have hlk := hF.2.2.1
  have hK := hF.2.2.2.2.1
  have hN := hF.2.2.2.2.2.1
  have hA := hF.2.2.2.2.2.2
  unfold f_Mo_nearest at h
  refine lv_iload_n hx hb dX7_nearest_0 rfl (lv_at hl 1 rfl) ?_
  refine lv_iconst (v := Int32.ofInt 0) hx hb dX7_nearest_1 rfl ?_
  refine lv_bipush (v := Int32.ofInt 99) hx hb dX7_nearest_2 (by decide +kernel) ?_
  obtain ⟨r_1, e_2, h⟩ := bd1_e h
  refine z_goi (ws' := []) (ret := r_1) (wc := ([] : va_W)) (wn := fun u_3 => (zMo cI cZ h_M q_M c_s c_past c_kept c_isKept c_pasts c_text c_typed c_rect c_item c_items c_itemLevel c_treated c_from c_group c_turn c_size c_old c_aside c_begin c_level c_asides c_sorted c_spot c_rectangles c_parts c_visited)) (wr := ([0, 1, 2, 3, 4, 5, 6, 7, 8, 9, 10, 11, 12, 13, 14, 15, 16, 17, 18].filterMap (fun i => ((zMo cI cZ h_M q_M c_s c_past c_kept c_isKept c_pasts c_text c_typed c_rect c_item c_items c_itemLevel c_treated c_from c_group c_turn c_size c_old c_aside c_begin c_level c_asides c_sorted c_spot c_rectangles c_parts c_visited))[i]?))) (va_runS (As := [vI x1, vI 0, vI 99]) (rest := []) hF.1 (c_Mo_in l D cI cZ cT x1 0 99 H.size (r_1) e_2) (va_cwS 3 hts (zgS wm874 wm875 wm89 wm876) rfl rfl rfl (by decide +kernel) ⟨Nat.le_of_ble_eq_true rfl, Nat.le_of_ble_eq_true rfl⟩) ⟨zP.blind, zP.enter (z_subP (ws' := ([] : va_W)) hP [] rfl) hK (hD.sub [] (by decide) rfl) hN⟩ rfl rfl hl.1 rfl (lv_room (Nat.le_of_ble_eq_true rfl)) dX7_nearest_4 ⟨Nat.le_refl _, Nat.le_refl _⟩) hP hD hS hA [] [0, 1, 2, 3, 4, 5, 6, 7, 8, 9, 10, 11, 12, 13, 14, 15, 16, 17, 18] [0, 1, 2, 3, 4, 5, 6, 7, 8, 9, 10, 11, 12, 13, 14, 15, 16, 17, 18] rfl rfl (by decide) (fun _ => rfl) (fun u_3 H locs hP hD hS hz => ?_)
  obtain ⟨g_4, h⟩ := gd_e h
  refine z_if_eq (tgt := 20) hx hb g_4 dX7_nearest_7 (by decide) (fun b_5 => ?_) (fun b_5 => ?_)
  · have h := it_p b_5 h
    refine lv_bipush (v := Int32.ofInt (-2)) hx hb dX7_nearest_20 (by decide +kernel) ?_
    obtain rfl := Option.some.inj h
    exact z_iret hx hb hr hlk (fun _ _ => 0) hP hD hS dX7_nearest_22
  · have h := it_n b_5 h
    refine lv_iload_n hx hb dX7_nearest_10 rfl (lv_at hl 2 rfl) ?_
    refine lv_iconst (v := Int32.ofInt 0) hx hb dX7_nearest_11 rfl ?_
    refine lv_bipush (v := Int32.ofInt 99) hx hb dX7_nearest_12 (by decide +kernel) ?_
    obtain ⟨r_6, e_7, h⟩ := bd1_e h
    refine z_goi (ws' := []) (ret := r_6) (wc := ([] : va_W)) (wn := fun u_8 => (zMo cI cZ h_M q_M c_s c_past c_kept c_isKept c_pasts c_text c_typed c_rect c_item c_items c_itemLevel c_treated c_from c_group c_turn c_size c_old c_aside c_begin c_level c_asides c_sorted c_spot c_rectangles c_parts c_visited)) (wr := ([0, 1, 2, 3, 4, 5, 6, 7, 8, 9, 10, 11, 12, 13, 14, 15, 16, 17, 18].filterMap (fun i => ((zMo cI cZ h_M q_M c_s c_past c_kept c_isKept c_pasts c_text c_typed c_rect c_item c_items c_itemLevel c_treated c_from c_group c_turn c_size c_old c_aside c_begin c_level c_asides c_sorted c_spot c_rectangles c_parts c_visited))[i]?))) (va_runS (As := [vI x2, vI 0, vI 99]) (rest := []) hF.1 (c_Mo_in l D cI cZ cT x2 0 99 H.size (r_6) e_7) (va_cwS 3 hts (zgS wm874 wm875 wm89 wm876) rfl rfl rfl (by decide +kernel) ⟨Nat.le_of_ble_eq_true rfl, Nat.le_of_ble_eq_true rfl⟩) ⟨zP.blind, zP.enter (z_subP (ws' := ([] : va_W)) hP [] rfl) hK (hD.sub [] (by decide) rfl) hN⟩ rfl rfl hl.1 rfl (lv_room (Nat.le_of_ble_eq_true rfl)) dX7_nearest_14 ⟨Nat.le_refl _, Nat.le_refl _⟩) hP hD hS hA [] [0, 1, 2, 3, 4, 5, 6, 7, 8, 9, 10, 11, 12, 13, 14, 15, 16, 17, 18] [0, 1, 2, 3, 4, 5, 6, 7, 8, 9, 10, 11, 12, 13, 14, 15, 16, 17, 18] rfl rfl (by decide) (fun _ => rfl) (fun u_8 H locs hP hD hS hz => ?_)
    obtain ⟨g_9, h⟩ := gd_e h
    refine z_if_ne (tgt := 23) hx hb g_9 dX7_nearest_17 (by decide) (fun b_10 => ?_) (fun b_10 => ?_)
    · have h := it_n b_10 h
      refine lv_bipush (v := Int32.ofInt (-5)) hx hb dX7_nearest_23 (by decide +kernel) ?_
      refine lv_istore_n (lv' := [(3, vI (-5)), (0, .ref h_M), (1, vI x1), (2, vI x2)]) hx hb dX7_nearest_25 rfl hl (by decide) rfl (fun ls hl => ?_)
      refine lv_iconst (v := Int32.ofInt 0) hx hb dX7_nearest_26 rfl ?_
      refine lv_istore (lv' := [(4, vI 0), (3, vI (-5)), (0, .ref h_M), (1, vI x1), (2, vI x2)]) hx hb dX7_nearest_27 hl (by decide) rfl (fun ls hl => ?_)
      refine lv_iconst (v := Int32.ofInt 0) hx hb dX7_nearest_29 rfl ?_
      refine lv_istore (lv' := [(5, vI 0), (4, vI 0), (3, vI (-5)), (0, .ref h_M), (1, vI x1), (2, vI x2)]) hx hb dX7_nearest_30 hl (by decide) rfl (fun ls hl => ?_)
      refine w_Mo_nearest_L32 D cI cZ cT (h_M) (q_M) (c_s) (c_past) (c_kept) (c_isKept) (c_pasts) (c_text) (c_typed) (c_rect) (c_item) (c_items) (c_itemLevel) (c_treated) (c_from) (c_group) (c_turn) (c_size) (c_old) (c_aside) (c_begin) (c_level) (c_asides) (c_sorted) (c_spot) (c_rectangles) (c_parts) (c_visited) (x1) (x2) _ _ hF (fun x3_41 x4_42 x5_43 H locs ls h hP hD hS hl => ?_) _ ((-5)) (0) (0) _ _ _ h hP hD hS (lv_sub hl [3, 4, 5, 2, 1, 0] rfl)
      refine lv_iload_n hx hb dX7_nearest_165 rfl (lv_at hl 0 rfl) ?_
      obtain rfl := Option.some.inj h
      exact z_iret hx hb hr hlk (fun _ _ => 0) hP hD hS dX7_nearest_166
    · have h := it_p b_10 h
      refine lv_bipush (v := Int32.ofInt (-2)) hx hb dX7_nearest_20 (by decide +kernel) ?_
      obtain rfl := Option.some.inj h
      exact z_iret hx hb hr hlk (fun _ _ => 0) hP hD hS dX7_nearest_22
