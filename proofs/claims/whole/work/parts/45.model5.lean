def f_Mo_isList_L12 (c_text : Nat → Int) (c_typed : Int) (k : Int → Int → Int → (Nat → Int) → Option (Int × Int × Int × (Nat → Int))) : Nat → Int → Int → Int → (Nat → Int) → Option (Int × Int × Int × (Nat → Int))
  | 0, _, _, _, _ => none
  | n + 1, x1, c_spot, c_rectangles, c_parts =>
  gd (ck x1) <| if x1 = 0 then (k (x1) (c_spot) (c_rectangles) (c_parts)) else (bd4 (f_Mo_readsRectangle c_text c_typed c_spot c_rectangles c_parts) <| fun r_3 c_spot_4 c_rectangles_5 c_parts_6 => gd (ck r_3) <| if r_3 = 0 then (some (0, c_spot_4, c_rectangles_5, c_parts_6)) else (gd (ck c_spot_4) <| gd (ck c_typed) <| if c_spot_4 < c_typed then (gd (0 ≤ c_spot_4 ∧ c_spot_4 < ((80 : Nat) : Int)) <| gd (ck (c_text (c_spot_4).toNat)) <| if (c_text (c_spot_4).toNat) = 59 then (f_Mo_isList_L12 c_text c_typed k n (1) ((c_spot_4 + 1)) (c_rectangles_5) (c_parts_6)) else (f_Mo_isList_L12 c_text c_typed k n (0) ((c_spot_4 + 0)) (c_rectangles_5) (c_parts_6))) else (f_Mo_isList_L12 c_text c_typed k n (0) ((c_spot_4 + 0)) (c_rectangles_5) (c_parts_6))))
def f_Mo_isList (c_text : Nat → Int) (c_typed : Int) (c_parts : Nat → Int) : Option (Int × Int × Int × (Nat → Int)) :=
  f_Mo_isList_L12 (c_text) (c_typed) (fun x1_20 c_spot_21 c_rectangles_22 c_parts_23 => gd (ck c_spot_21) <| gd (ck c_typed) <| if c_spot_21 = c_typed then (some (1, c_spot_21, c_rectangles_22, c_parts_23)) else (some (0, c_spot_21, c_rectangles_22, c_parts_23))) FU (1) (0) (0) (c_parts)
abbrev rm_Mo_isList : Room := ({ frames := 4, cells := 0, slots := 0, locals := 86 } : Room)
set_option maxHeartbeats 4000000 in
set_option maxRecDepth 100000 in
theorem w_Mo_isList_L12 {p : Program} {l : Launch} {e : Env} {s : State} {m : MethodId} {args : Array Value} {below : List Frame} {meth : Method} {c : Code} {A : Nat → Prop} (D : va_G) (cI cZ cT : ClassId) (h_M : Nat) (q_M : Nat → Nat) (c_s : Nat → Int) (c_past : Nat → Int) (c_kept : Nat → Int) (c_isKept : Int) (c_pasts : Int) (c_text : Nat → Int) (c_typed : Int) (c_rect : Nat → Int) (c_item : Nat → Int) (c_items : Int) (c_itemLevel : Int) (c_treated : Nat → Int) (c_from : Nat → Int) (c_group : Nat → Int) (c_turn : Nat → Int) (c_size : Nat → Int) (c_old : Nat → Int) (c_aside : Nat → Int) (c_begin : Nat → Int) (c_level : Nat → Int) (c_asides : Int) (c_sorted : Nat → Int) (c_visited : Nat → Int) (res : Int × Int × Int × (Nat → Int)) (k : Int → Int → Int → (Nat → Int) → Option (Int × Int × Int × (Nat → Int))) (hF : zF p m c cX7_isList 2 s args yX7_isList.cls meth (some .boolean) yX7_isList.name A D (zt cI cZ cT))
    (hk : ∀ (x1 : Int) (c_spot : Int) (c_rectangles : Int) (c_parts : Nat → Int) (H : Heap) (locs : List Loc) (ls : Array Slot), k x1 c_spot c_rectangles c_parts = some res → va_P D vwCl ((zMo cI cZ h_M q_M c_s c_past c_kept c_isKept c_pasts c_text c_typed c_rect c_item c_items c_itemLevel c_treated c_from c_group c_turn c_size c_old c_aside c_begin c_level c_asides c_sorted c_spot c_rectangles c_parts c_visited)) H → va_D A ((zMo cI cZ h_M q_M c_s c_past c_kept c_isKept c_pasts c_text c_typed c_rect c_item c_items c_itemLevel c_treated c_from c_group c_turn c_size c_old c_aside c_begin c_level c_asides c_sorted c_spot c_rectangles c_parts c_visited)) → va_S A s.heap H locs → lv_has ls 2 [(0, .ref h_M)] → W p l e rm_Mo_isList s m args below meth c H locs 0 0 (MQ below (zQi D (res.1) (fun u => (zMo cI cZ h_M q_M c_s c_past c_kept c_isKept c_pasts c_text c_typed c_rect c_item c_items c_itemLevel c_treated c_from c_group c_turn c_size c_old c_aside c_begin c_level c_asides c_sorted (res.2.1) (res.2.2.1) (res.2.2.2) c_visited)) A) args s 0 0 A) (F0 m 77 ls [])) :
    ∀ (n : Nat) (x1 : Int) (c_spot : Int) (c_rectangles : Int) (c_parts : Nat → Int) (H : Heap) (locs : List Loc) (ls : Array Slot), f_Mo_isList_L12 c_text c_typed k n x1 c_spot c_rectangles c_parts = some res → va_P D vwCl ((zMo cI cZ h_M q_M c_s c_past c_kept c_isKept c_pasts c_text c_typed c_rect c_item c_items c_itemLevel c_treated c_from c_group c_turn c_size c_old c_aside c_begin c_level c_asides c_sorted c_spot c_rectangles c_parts c_visited)) H → va_D A ((zMo cI cZ h_M q_M c_s c_past c_kept c_isKept c_pasts c_text c_typed c_rect c_item c_items c_itemLevel c_treated c_from c_group c_turn c_size c_old c_aside c_begin c_level c_asides c_sorted c_spot c_rectangles c_parts c_visited)) → va_S A s.heap H locs → lv_has ls 2 [(0, .ref h_M), (1, vI x1)] → W p l e rm_Mo_isList s m args below meth c H locs 0 0 (MQ below (zQi D (res.1) (fun u => (zMo cI cZ h_M q_M c_s c_past c_kept c_isKept c_pasts c_text c_typed c_rect c_item c_items c_itemLevel c_treated c_from c_group c_turn c_size c_old c_aside c_begin c_level c_asides c_sorted (res.2.1) (res.2.2.1) (res.2.2.2) c_visited)) A) args s 0 0 A) (F0 m 12 ls []) := by
  have hx := hF.1.1
  have hb := hF.1.2.1
  have hml := hF.1.2.2.1
  have hown : s.vm.findClass "RectangleTreeModel" = some m.cls := hF.1.2.2.2.1
  have hts := hF.1.2.2.2.2
  have hr := hF.2.1
  have hlk := hF.2.2.1
  have hK := hF.2.2.2.2.1
  have hN := hF.2.2.2.2.2.1
  have hA := hF.2.2.2.2.2.2
  intro n
  induction n with
  | zero => intro x1 c_spot c_rectangles c_parts H locs ls h; cases h
  | succ n ih =>
    intro x1 c_spot c_rectangles c_parts H locs ls h hP hD hS hl
    rw [f_Mo_isList_L12] at h
    refine lv_iload_n hx hb dX7_isList_12 rfl (lv_at hl 1 rfl) ?_
    obtain ⟨g_1, h⟩ := gd_e h
    refine z_if_eq (tgt := 77) hx hb g_1 dX7_isList_13 (by decide) (fun b_2 => ?_) (fun b_2 => ?_)
    · have h := it_p b_2 h
      exact hk (x1) (c_spot) (c_rectangles) (c_parts) H locs ls h hP hD hS (lv_sub hl [0] rfl)
    · have h := it_n b_2 h
      refine lv_aload_n hx hb dX7_isList_16 rfl (lv_at hl 0 rfl) ?_
      obtain ⟨r_3, c_spot_4, c_rectangles_5, c_parts_6, e_7, h⟩ := bd4_e h
      refine z_goi (ws' := []) (ret := r_3) (wc := (zMo cI cZ (h_M) (q_M) (c_s) (c_past) (c_kept) (c_isKept) (c_pasts) (c_text) (c_typed) (c_rect) (c_item) (c_items) (c_itemLevel) (c_treated) (c_from) (c_group) (c_turn) (c_size) (c_old) (c_aside) (c_begin) (c_level) (c_asides) (c_sorted) (c_spot) (c_rectangles) (c_parts) (c_visited))) (wn := fun u_8 => (zMo cI cZ h_M q_M c_s c_past c_kept c_isKept c_pasts c_text c_typed c_rect c_item c_items c_itemLevel c_treated c_from c_group c_turn c_size c_old c_aside c_begin c_level c_asides c_sorted c_spot_4 c_rectangles_5 c_parts_6 c_visited)) (wr := []) (va_runV (As := []) (rest := []) hF.1 (c_Mo_readsRectangle l D cI cZ cT h_M q_M c_s c_past c_kept c_isKept c_pasts c_text c_typed c_rect c_item c_items c_itemLevel c_treated c_from c_group c_turn c_size c_old c_aside c_begin c_level c_asides c_sorted c_spot c_rectangles c_parts c_visited H.size (r_3, c_spot_4, c_rectangles_5, c_parts_6) e_7) (cwV 0 hts (zgV wm1082 wm1084 wm73 wm89 wm1085) rfl rfl rfl (by decide +kernel) ⟨Nat.le_of_ble_eq_true rfl, Nat.le_of_ble_eq_true rfl⟩) ⟨zP.blind, va_recv hK (z_subP (ws' := (zMo cI cZ (h_M) (q_M) (c_s) (c_past) (c_kept) (c_isKept) (c_pasts) (c_text) (c_typed) (c_rect) (c_item) (c_items) (c_itemLevel) (c_treated) (c_from) (c_group) (c_turn) (c_size) (c_old) (c_aside) (c_begin) (c_level) (c_asides) (c_sorted) (c_spot) (c_rectangles) (c_parts) (c_visited))) hP [0, 1, 2, 3, 4, 5, 6, 7, 8, 9, 10, 11, 12, 13, 14, 15, 16, 17, 18] rfl) (ci := 7) (q0 := 0) rfl rfl, zP.enter (z_subP (ws' := (zMo cI cZ (h_M) (q_M) (c_s) (c_past) (c_kept) (c_isKept) (c_pasts) (c_text) (c_typed) (c_rect) (c_item) (c_items) (c_itemLevel) (c_treated) (c_from) (c_group) (c_turn) (c_size) (c_old) (c_aside) (c_begin) (c_level) (c_asides) (c_sorted) (c_spot) (c_rectangles) (c_parts) (c_visited))) hP [0, 1, 2, 3, 4, 5, 6, 7, 8, 9, 10, 11, 12, 13, 14, 15, 16, 17, 18] rfl) hK (hD.sub [0, 1, 2, 3, 4, 5, 6, 7, 8, 9, 10, 11, 12, 13, 14, 15, 16, 17, 18] (by decide) rfl) hN⟩ rfl rfl hl.1 rfl (lv_room (Nat.le_of_ble_eq_true rfl)) dX7_isList_17 ⟨Nat.le_refl _, Nat.le_refl _⟩) hP hD hS hA [0, 1, 2, 3, 4, 5, 6, 7, 8, 9, 10, 11, 12, 13, 14, 15, 16, 17, 18] [] [0, 1, 2, 3, 4, 5, 6, 7, 8, 9, 10, 11, 12, 13, 14, 15, 16, 17, 18] rfl rfl (by decide) (fun _ => rfl) (fun u_8 H locs hP hD hS hz => ?_)
      obtain ⟨g_9, h⟩ := gd_e h
      refine z_if_ne (tgt := 25) hx hb g_9 dX7_isList_20 (by decide) (fun b_10 => ?_) (fun b_10 => ?_)
      · have h := it_n b_10 h
        refine lv_aload_n hx hb dX7_isList_25 rfl (lv_at hl 0 rfl) ?_
        refine va_get (D := D) (ci := 7) (v := vI c_spot_4) (C := RX7) (T := TX7) (N := 26) hx hb hts zin7 hown hK hP 0 rfl rfl 22 (by decide) (hts _ wm809) (fun _ h9 => h9) rfl dX7_isList_26 ?_
        refine lv_aload_n hx hb dX7_isList_29 rfl (lv_at hl 0 rfl) ?_
        refine va_get (D := D) (ci := 7) (v := vI c_typed) (C := RX7) (T := TX7) (N := 26) hx hb hts zin7 hown hK hP 0 rfl rfl 6 (by decide) (hts _ wm793) (fun _ h9 => h9) rfl dX7_isList_30 ?_
        obtain ⟨g_11, h⟩ := gd_e h
        obtain ⟨g_12, h⟩ := gd_e h
        refine z_icmp_ge (tgt := 54) hx hb g_11 g_12 dX7_isList_33 (by decide) (fun b_13 => ?_) (fun b_13 => ?_)
        · have h := it_n b_13 h
          refine lv_iconst (v := Int32.ofInt 0) hx hb dX7_isList_54 rfl ?_
          refine lv_istore_n (lv' := [(1, vI 0), (0, .ref h_M)]) hx hb dX7_isList_55 rfl hl (by decide) rfl (fun ls hl => ?_)
          refine lv_aload_n hx hb dX7_isList_56 rfl (lv_at hl 1 rfl) ?_
          refine lv_dup hx hb dX7_isList_57 rfl ?_
          refine va_get (D := D) (ci := 7) (v := vI c_spot_4) (C := RX7) (T := TX7) (N := 26) hx hb hts zin7 hown hK hP 0 rfl rfl 22 (by decide) (hts _ wm809) (fun _ h9 => h9) rfl dX7_isList_58 ?_
          refine lv_iload_n hx hb dX7_isList_61 rfl (lv_at hl 0 rfl) ?_
          refine z_if_eq (tgt := 69) hx hb (by decide) dX7_isList_62 (by decide) (fun b_14 => ?_) (fun b_14 => ?_)
          rotate_left
          · exact absurd b_14 (by decide)
          refine lv_iconst (v := Int32.ofInt 0) hx hb dX7_isList_69 rfl ?_
          refine z_iadd hx hb dX7_isList_70 ?_
          refine va_put (D := D) (ci := 7) (v := vI (c_spot_4 + 0)) (ty := .int) (C := RX7) (T := TX7) (N := 26) hx hb hts zin7 tyX7 tyX7_ok nmX7 hown hK hP hD hS 0 rfl rfl 22 (by decide) (hts _ wm809) (fun _ h9 => h9) rfl (by decide +kernel) rfl rfl (Nat.le_of_ble_eq_true rfl) dX7_isList_71 (fun H locs hP hD hS => ?_)
          replace hP : va_P D vwCl ((zMo cI cZ h_M q_M c_s c_past c_kept c_isKept c_pasts c_text c_typed c_rect c_item c_items c_itemLevel c_treated c_from c_group c_turn c_size c_old c_aside c_begin c_level c_asides c_sorted (c_spot_4 + 0) c_rectangles_5 c_parts_6 c_visited)) H := hP
          replace hD : va_D A ((zMo cI cZ h_M q_M c_s c_past c_kept c_isKept c_pasts c_text c_typed c_rect c_item c_items c_itemLevel c_treated c_from c_group c_turn c_size c_old c_aside c_begin c_level c_asides c_sorted (c_spot_4 + 0) c_rectangles_5 c_parts_6 c_visited)) := hD
          refine lv_goto (tgt := 12) hx hb dX7_isList_74 (by decide) ?_
          exact ih (0) ((c_spot_4 + 0)) (c_rectangles_5) (c_parts_6) H locs ls h hP hD hS (lv_sub hl [1, 0] rfl)
        · have h := it_p b_13 h
          refine lv_aload_n hx hb dX7_isList_36 rfl (lv_at hl 0 rfl) ?_
          refine va_get (D := D) (ci := 7) (v := .ref (q_M 3)) (C := RX7) (T := TX7) (N := 26) hx hb hts zin7 hown hK hP 0 rfl rfl 5 (by decide) (hts _ wm792) (fun _ h9 => h9) rfl dX7_isList_37 ?_
          refine lv_aload_n hx hb dX7_isList_40 rfl (lv_at hl 0 rfl) ?_
          refine va_get (D := D) (ci := 7) (v := vI c_spot_4) (C := RX7) (T := TX7) (N := 26) hx hb hts zin7 hown hK hP 0 rfl rfl 22 (by decide) (hts _ wm809) (fun _ h9 => h9) rfl dX7_isList_41 ?_
          obtain ⟨g_15, h⟩ := gd_e h
          refine z_iald (n := 80) (f := c_text) (i := c_spot_4) hx hb hK hP 4 rfl rfl g_15 (by have := g_15.2; omega) dX7_isList_44 ?_
          refine lv_bipush (v := Int32.ofInt 59) hx hb dX7_isList_45 (by decide +kernel) ?_
          obtain ⟨g_16, h⟩ := gd_e h
          refine z_icmp_ne (tgt := 54) hx hb g_16 (by decide) dX7_isList_47 (by decide) (fun b_17 => ?_) (fun b_17 => ?_)
          · have h := it_n b_17 h
            refine lv_iconst (v := Int32.ofInt 0) hx hb dX7_isList_54 rfl ?_
            refine lv_istore_n (lv' := [(1, vI 0), (0, .ref h_M)]) hx hb dX7_isList_55 rfl hl (by decide) rfl (fun ls hl => ?_)
            refine lv_aload_n hx hb dX7_isList_56 rfl (lv_at hl 1 rfl) ?_
            refine lv_dup hx hb dX7_isList_57 rfl ?_
            refine va_get (D := D) (ci := 7) (v := vI c_spot_4) (C := RX7) (T := TX7) (N := 26) hx hb hts zin7 hown hK hP 0 rfl rfl 22 (by decide) (hts _ wm809) (fun _ h9 => h9) rfl dX7_isList_58 ?_
            refine lv_iload_n hx hb dX7_isList_61 rfl (lv_at hl 0 rfl) ?_
            refine z_if_eq (tgt := 69) hx hb (by decide) dX7_isList_62 (by decide) (fun b_18 => ?_) (fun b_18 => ?_)
            rotate_left
            · exact absurd b_18 (by decide)
            refine lv_iconst (v := Int32.ofInt 0) hx hb dX7_isList_69 rfl ?_
            refine z_iadd hx hb dX7_isList_70 ?_
            refine va_put (D := D) (ci := 7) (v := vI (c_spot_4 + 0)) (ty := .int) (C := RX7) (T := TX7) (N := 26) hx hb hts zin7 tyX7 tyX7_ok nmX7 hown hK hP hD hS 0 rfl rfl 22 (by decide) (hts _ wm809) (fun _ h9 => h9) rfl (by decide +kernel) rfl rfl (Nat.le_of_ble_eq_true rfl) dX7_isList_71 (fun H locs hP hD hS => ?_)
            replace hP : va_P D vwCl ((zMo cI cZ h_M q_M c_s c_past c_kept c_isKept c_pasts c_text c_typed c_rect c_item c_items c_itemLevel c_treated c_from c_group c_turn c_size c_old c_aside c_begin c_level c_asides c_sorted (c_spot_4 + 0) c_rectangles_5 c_parts_6 c_visited)) H := hP
            replace hD : va_D A ((zMo cI cZ h_M q_M c_s c_past c_kept c_isKept c_pasts c_text c_typed c_rect c_item c_items c_itemLevel c_treated c_from c_group c_turn c_size c_old c_aside c_begin c_level c_asides c_sorted (c_spot_4 + 0) c_rectangles_5 c_parts_6 c_visited)) := hD
            refine lv_goto (tgt := 12) hx hb dX7_isList_74 (by decide) ?_
            exact ih (0) ((c_spot_4 + 0)) (c_rectangles_5) (c_parts_6) H locs ls h hP hD hS (lv_sub hl [1, 0] rfl)
          · have h := it_p b_17 h
            refine lv_iconst (v := Int32.ofInt 1) hx hb dX7_isList_50 rfl ?_
            refine lv_goto (tgt := 55) hx hb dX7_isList_51 (by decide) ?_
            refine lv_istore_n (lv' := [(1, vI 1), (0, .ref h_M)]) hx hb dX7_isList_55 rfl hl (by decide) rfl (fun ls hl => ?_)
            refine lv_aload_n hx hb dX7_isList_56 rfl (lv_at hl 1 rfl) ?_
            refine lv_dup hx hb dX7_isList_57 rfl ?_
            refine va_get (D := D) (ci := 7) (v := vI c_spot_4) (C := RX7) (T := TX7) (N := 26) hx hb hts zin7 hown hK hP 0 rfl rfl 22 (by decide) (hts _ wm809) (fun _ h9 => h9) rfl dX7_isList_58 ?_
            refine lv_iload_n hx hb dX7_isList_61 rfl (lv_at hl 0 rfl) ?_
            refine z_if_eq (tgt := 69) hx hb (by decide) dX7_isList_62 (by decide) (fun b_19 => ?_) (fun b_19 => ?_)
            · exact absurd b_19 (by decide)
            refine lv_iconst (v := Int32.ofInt 1) hx hb dX7_isList_65 rfl ?_
            refine lv_goto (tgt := 70) hx hb dX7_isList_66 (by decide) ?_
            refine z_iadd hx hb dX7_isList_70 ?_
            refine va_put (D := D) (ci := 7) (v := vI (c_spot_4 + 1)) (ty := .int) (C := RX7) (T := TX7) (N := 26) hx hb hts zin7 tyX7 tyX7_ok nmX7 hown hK hP hD hS 0 rfl rfl 22 (by decide) (hts _ wm809) (fun _ h9 => h9) rfl (by decide +kernel) rfl rfl (Nat.le_of_ble_eq_true rfl) dX7_isList_71 (fun H locs hP hD hS => ?_)
            replace hP : va_P D vwCl ((zMo cI cZ h_M q_M c_s c_past c_kept c_isKept c_pasts c_text c_typed c_rect c_item c_items c_itemLevel c_treated c_from c_group c_turn c_size c_old c_aside c_begin c_level c_asides c_sorted (c_spot_4 + 1) c_rectangles_5 c_parts_6 c_visited)) H := hP
            replace hD : va_D A ((zMo cI cZ h_M q_M c_s c_past c_kept c_isKept c_pasts c_text c_typed c_rect c_item c_items c_itemLevel c_treated c_from c_group c_turn c_size c_old c_aside c_begin c_level c_asides c_sorted (c_spot_4 + 1) c_rectangles_5 c_parts_6 c_visited)) := hD
            refine lv_goto (tgt := 12) hx hb dX7_isList_74 (by decide) ?_
            exact ih (1) ((c_spot_4 + 1)) (c_rectangles_5) (c_parts_6) H locs ls h hP hD hS (lv_sub hl [1, 0] rfl)
      · have h := it_p b_10 h
        refine lv_iconst (v := Int32.ofInt 0) hx hb dX7_isList_23 rfl ?_
        obtain rfl := Option.some.inj h
        exact z_zret hx hb hr hlk (show narrow .boolean (.int (Int32.ofInt 0)) = .int (Int32.ofInt 0) from by decide) (fun _ _ => 0) hP hD hS dX7_isList_24
set_option maxHeartbeats 4000000 in
set_option maxRecDepth 100000 in
theorem c_Mo_isList (l : Launch) (D : va_G) (cI cZ cT : ClassId) (h_M : Nat) (q_M : Nat → Nat) (c_s : Nat → Int) (c_past : Nat → Int) (c_kept : Nat → Int) (c_isKept : Int) (c_pasts : Int) (c_text : Nat → Int) (c_typed : Int) (c_rect : Nat → Int) (c_item : Nat → Int) (c_items : Int) (c_itemLevel : Int) (c_treated : Nat → Int) (c_from : Nat → Int) (c_group : Nat → Int) (c_turn : Nat → Int) (c_size : Nat → Int) (c_old : Nat → Int) (c_aside : Nat → Int) (c_begin : Nat → Int) (c_level : Nat → Int) (c_asides : Int) (c_sorted : Nat → Int) (c_spot : Int) (c_rectangles : Int) (c_parts : Nat → Int) (c_visited : Nat → Int) (sz : Nat) (res : Int × Int × Int × (Nat → Int)) (h : f_Mo_isList c_text c_typed c_parts = some res) : zMz l yX7_isList cX7_isList 2 rm_Mo_isList D (zt cI cZ cT) [.ref h_M] ((zMo cI cZ h_M q_M c_s c_past c_kept c_isKept c_pasts c_text c_typed c_rect c_item c_items c_itemLevel c_treated c_from c_group c_turn c_size c_old c_aside c_begin c_level c_asides c_sorted c_spot c_rectangles c_parts c_visited)) sz (res.1) (fun u => (zMo cI cZ h_M q_M c_s c_past c_kept c_isKept c_pasts c_text c_typed c_rect c_item c_items c_itemLevel c_treated c_from c_group c_turn c_size c_old c_aside c_begin c_level c_asides c_sorted (res.2.1) (res.2.2.1) (res.2.2.2) c_visited)) 0 0 := by
  refine z_enth (Qc := zQi D (res.1) (fun u => (zMo cI cZ h_M q_M c_s c_past c_kept c_isKept c_pasts c_text c_typed c_rect c_item c_items c_itemLevel c_treated c_from c_group c_turn c_size c_old c_aside c_begin c_level c_asides c_sorted (res.2.1) (res.2.2.1) (res.2.2.2) c_visited))) (by decide) (Nat.le_of_ble_eq_true rfl) (fun p e s m args below meth c A ls H locs hF hP hD hS hl => ?_)
  have hx := hF.1.1
  have hb := hF.1.2.1
  have hml := hF.1.2.2.1
  have hown : s.vm.findClass "RectangleTreeModel" = some m.cls := hF.1.2.2.2.1
  have hts := hF.1.2.2.2.2
  have hr := hF.2.1
  have hlk := hF.2.2.1
  have hK := hF.2.2.2.2.1
  have hN := hF.2.2.2.2.2.1
  have hA := hF.2.2.2.2.2.2
  unfold f_Mo_isList at h
  refine lv_aload_n hx hb dX7_isList_0 rfl (lv_at hl 0 rfl) ?_
  refine lv_iconst (v := Int32.ofInt 0) hx hb dX7_isList_1 rfl ?_
  refine va_put (D := D) (ci := 7) (v := vI 0) (ty := .int) (C := RX7) (T := TX7) (N := 26) hx hb hts zin7 tyX7 tyX7_ok nmX7 hown hK hP hD hS 0 rfl rfl 22 (by decide) (hts _ wm809) (fun _ h9 => h9) rfl (by decide +kernel) rfl rfl (Nat.le_of_ble_eq_true rfl) dX7_isList_2 (fun H locs hP hD hS => ?_)
  replace hP : va_P D vwCl ((zMo cI cZ h_M q_M c_s c_past c_kept c_isKept c_pasts c_text c_typed c_rect c_item c_items c_itemLevel c_treated c_from c_group c_turn c_size c_old c_aside c_begin c_level c_asides c_sorted 0 c_rectangles c_parts c_visited)) H := hP
  replace hD : va_D A ((zMo cI cZ h_M q_M c_s c_past c_kept c_isKept c_pasts c_text c_typed c_rect c_item c_items c_itemLevel c_treated c_from c_group c_turn c_size c_old c_aside c_begin c_level c_asides c_sorted 0 c_rectangles c_parts c_visited)) := hD
  refine lv_aload_n hx hb dX7_isList_5 rfl (lv_at hl 0 rfl) ?_
  refine lv_iconst (v := Int32.ofInt 0) hx hb dX7_isList_6 rfl ?_
  refine va_put (D := D) (ci := 7) (v := vI 0) (ty := .int) (C := RX7) (T := TX7) (N := 26) hx hb hts zin7 tyX7 tyX7_ok nmX7 hown hK hP hD hS 0 rfl rfl 23 (by decide) (hts _ wm810) (fun _ h9 => h9) rfl (by decide +kernel) rfl rfl (Nat.le_of_ble_eq_true rfl) dX7_isList_7 (fun H locs hP hD hS => ?_)
  replace hP : va_P D vwCl ((zMo cI cZ h_M q_M c_s c_past c_kept c_isKept c_pasts c_text c_typed c_rect c_item c_items c_itemLevel c_treated c_from c_group c_turn c_size c_old c_aside c_begin c_level c_asides c_sorted 0 0 c_parts c_visited)) H := hP
  replace hD : va_D A ((zMo cI cZ h_M q_M c_s c_past c_kept c_isKept c_pasts c_text c_typed c_rect c_item c_items c_itemLevel c_treated c_from c_group c_turn c_size c_old c_aside c_begin c_level c_asides c_sorted 0 0 c_parts c_visited)) := hD
  refine lv_iconst (v := Int32.ofInt 1) hx hb dX7_isList_10 rfl ?_
  refine lv_istore_n (lv' := [(1, vI 1), (0, .ref h_M)]) hx hb dX7_isList_11 rfl hl (by decide) rfl (fun ls hl => ?_)
  refine w_Mo_isList_L12 D cI cZ cT (h_M) (q_M) (c_s) (c_past) (c_kept) (c_isKept) (c_pasts) (c_text) (c_typed) (c_rect) (c_item) (c_items) (c_itemLevel) (c_treated) (c_from) (c_group) (c_turn) (c_size) (c_old) (c_aside) (c_begin) (c_level) (c_asides) (c_sorted) (c_visited) _ _ hF (fun x1_20 c_spot_21 c_rectangles_22 c_parts_23 H locs ls h hP hD hS hl => ?_) _ (1) (0) (0) (c_parts) _ _ _ h hP hD hS (lv_sub hl [1, 0] rfl)
  refine lv_aload_n hx hb dX7_isList_77 rfl (lv_at hl 0 rfl) ?_
  refine va_get (D := D) (ci := 7) (v := vI c_spot_21) (C := RX7) (T := TX7) (N := 26) hx hb hts zin7 hown hK hP 0 rfl rfl 22 (by decide) (hts _ wm809) (fun _ h9 => h9) rfl dX7_isList_78 ?_
  refine lv_aload_n hx hb dX7_isList_81 rfl (lv_at hl 0 rfl) ?_
  refine va_get (D := D) (ci := 7) (v := vI c_typed) (C := RX7) (T := TX7) (N := 26) hx hb hts zin7 hown hK hP 0 rfl rfl 6 (by decide) (hts _ wm793) (fun _ h9 => h9) rfl dX7_isList_82 ?_
  obtain ⟨g_24, h⟩ := gd_e h
  obtain ⟨g_25, h⟩ := gd_e h
  refine z_icmp_ne (tgt := 92) hx hb g_24 g_25 dX7_isList_85 (by decide) (fun b_26 => ?_) (fun b_26 => ?_)
  · have h := it_n b_26 h
    refine lv_iconst (v := Int32.ofInt 0) hx hb dX7_isList_92 rfl ?_
    obtain rfl := Option.some.inj h
    exact z_zret hx hb hr hlk (show narrow .boolean (.int (Int32.ofInt 0)) = .int (Int32.ofInt 0) from by decide) (fun _ _ => 0) hP hD hS dX7_isList_93
  · have h := it_p b_26 h
    refine lv_iconst (v := Int32.ofInt 1) hx hb dX7_isList_88 rfl ?_
    refine lv_goto (tgt := 93) hx hb dX7_isList_89 (by decide) ?_
    obtain rfl := Option.some.inj h
    exact z_zret hx hb hr hlk (show narrow .boolean (.int (Int32.ofInt 1)) = .int (Int32.ofInt 1) from by decide) (fun _ _ => 0) hP hD hS dX7_isList_93
def f_Mo_fault (c_text : Nat → Int) (c_typed : Int) (c_parts : Nat → Int) : Option (Int × Int × Int × (Nat → Int)) :=
  bd4 (f_Mo_isList c_text c_typed c_parts) <| fun r_1 c_spot_2 c_rectangles_3 c_parts_4 => gd (ck r_1) <| if r_1 = 0 then (some (c_spot_2, c_spot_2, c_rectangles_3, c_parts_4)) else (some ((-5), c_spot_2, c_rectangles_3, c_parts_4))
abbrev rm_Mo_fault : Room := ({ frames := 5, cells := 0, slots := 0, locals := 107 } : Room)
set_option maxHeartbeats 4000000 in
set_option maxRecDepth 100000 in
theorem c_Mo_fault (l : Launch) (D : va_G) (cI cZ cT : ClassId) (h_M : Nat) (q_M : Nat → Nat) (c_s : Nat → Int) (c_past : Nat → Int) (c_kept : Nat → Int) (c_isKept : Int) (c_pasts : Int) (c_text : Nat → Int) (c_typed : Int) (c_rect : Nat → Int) (c_item : Nat → Int) (c_items : Int) (c_itemLevel : Int) (c_treated : Nat → Int) (c_from : Nat → Int) (c_group : Nat → Int) (c_turn : Nat → Int) (c_size : Nat → Int) (c_old : Nat → Int) (c_aside : Nat → Int) (c_begin : Nat → Int) (c_level : Nat → Int) (c_asides : Int) (c_sorted : Nat → Int) (c_spot : Int) (c_rectangles : Int) (c_parts : Nat → Int) (c_visited : Nat → Int) (sz : Nat) (res : Int × Int × Int × (Nat → Int)) (h : f_Mo_fault c_text c_typed c_parts = some res) : zMi l yX7_fault cX7_fault 1 rm_Mo_fault D (zt cI cZ cT) [.ref h_M] ((zMo cI cZ h_M q_M c_s c_past c_kept c_isKept c_pasts c_text c_typed c_rect c_item c_items c_itemLevel c_treated c_from c_group c_turn c_size c_old c_aside c_begin c_level c_asides c_sorted c_spot c_rectangles c_parts c_visited)) sz (res.1) (fun u => (zMo cI cZ h_M q_M c_s c_past c_kept c_isKept c_pasts c_text c_typed c_rect c_item c_items c_itemLevel c_treated c_from c_group c_turn c_size c_old c_aside c_begin c_level c_asides c_sorted (res.2.1) (res.2.2.1) (res.2.2.2) c_visited)) 0 0 := by
  refine z_enth (Qc := zQi D (res.1) (fun u => (zMo cI cZ h_M q_M c_s c_past c_kept c_isKept c_pasts c_text c_typed c_rect c_item c_items c_itemLevel c_treated c_from c_group c_turn c_size c_old c_aside c_begin c_level c_asides c_sorted (res.2.1) (res.2.2.1) (res.2.2.2) c_visited))) (by decide) (Nat.le_of_ble_eq_true rfl) (fun p e s m args below meth c A ls H locs hF hP hD hS hl => ?_)
  have hx := hF.1.1
  have hb := hF.1.2.1
  have hml := hF.1.2.2.1
  have hown : s.vm.findClass "RectangleTreeModel" = some m.cls := hF.1.2.2.2.1
  have hts := hF.1.2.2.2.2
  have hr := hF.2.1
  have hlk := hF.2.2.1
  have hK := hF.2.2.2.2.1
  have hN := hF.2.2.2.2.2.1
  have hA := hF.2.2.2.2.2.2
  unfold f_Mo_fault at h
  refine lv_aload_n hx hb dX7_fault_0 rfl (lv_at hl 0 rfl) ?_
  obtain ⟨r_1, c_spot_2, c_rectangles_3, c_parts_4, e_5, h⟩ := bd4_e h
  refine z_goi (ws' := []) (ret := r_1) (wc := (zMo cI cZ (h_M) (q_M) (c_s) (c_past) (c_kept) (c_isKept) (c_pasts) (c_text) (c_typed) (c_rect) (c_item) (c_items) (c_itemLevel) (c_treated) (c_from) (c_group) (c_turn) (c_size) (c_old) (c_aside) (c_begin) (c_level) (c_asides) (c_sorted) (c_spot) (c_rectangles) (c_parts) (c_visited))) (wn := fun u_6 => (zMo cI cZ h_M q_M c_s c_past c_kept c_isKept c_pasts c_text c_typed c_rect c_item c_items c_itemLevel c_treated c_from c_group c_turn c_size c_old c_aside c_begin c_level c_asides c_sorted c_spot_2 c_rectangles_3 c_parts_4 c_visited)) (wr := []) (va_runV (As := []) (rest := []) hF.1 (c_Mo_isList l D cI cZ cT h_M q_M c_s c_past c_kept c_isKept c_pasts c_text c_typed c_rect c_item c_items c_itemLevel c_treated c_from c_group c_turn c_size c_old c_aside c_begin c_level c_asides c_sorted c_spot c_rectangles c_parts c_visited H.size (r_1, c_spot_2, c_rectangles_3, c_parts_4) e_5) (cwV 0 hts (zgV wm1078 wm1080 wm72 wm89 wm1081) rfl rfl rfl (by decide +kernel) ⟨Nat.le_of_ble_eq_true rfl, Nat.le_of_ble_eq_true rfl⟩) ⟨zP.blind, va_recv hK (z_subP (ws' := (zMo cI cZ (h_M) (q_M) (c_s) (c_past) (c_kept) (c_isKept) (c_pasts) (c_text) (c_typed) (c_rect) (c_item) (c_items) (c_itemLevel) (c_treated) (c_from) (c_group) (c_turn) (c_size) (c_old) (c_aside) (c_begin) (c_level) (c_asides) (c_sorted) (c_spot) (c_rectangles) (c_parts) (c_visited))) hP [0, 1, 2, 3, 4, 5, 6, 7, 8, 9, 10, 11, 12, 13, 14, 15, 16, 17, 18] rfl) (ci := 7) (q0 := 0) rfl rfl, zP.enter (z_subP (ws' := (zMo cI cZ (h_M) (q_M) (c_s) (c_past) (c_kept) (c_isKept) (c_pasts) (c_text) (c_typed) (c_rect) (c_item) (c_items) (c_itemLevel) (c_treated) (c_from) (c_group) (c_turn) (c_size) (c_old) (c_aside) (c_begin) (c_level) (c_asides) (c_sorted) (c_spot) (c_rectangles) (c_parts) (c_visited))) hP [0, 1, 2, 3, 4, 5, 6, 7, 8, 9, 10, 11, 12, 13, 14, 15, 16, 17, 18] rfl) hK (hD.sub [0, 1, 2, 3, 4, 5, 6, 7, 8, 9, 10, 11, 12, 13, 14, 15, 16, 17, 18] (by decide) rfl) hN⟩ rfl rfl hl.1 rfl (lv_room (Nat.le_of_ble_eq_true rfl)) dX7_fault_1 ⟨Nat.le_refl _, Nat.le_refl _⟩) hP hD hS hA [0, 1, 2, 3, 4, 5, 6, 7, 8, 9, 10, 11, 12, 13, 14, 15, 16, 17, 18] [] [0, 1, 2, 3, 4, 5, 6, 7, 8, 9, 10, 11, 12, 13, 14, 15, 16, 17, 18] rfl rfl (by decide) (fun _ => rfl) (fun u_6 H locs hP hD hS hz => ?_)
  obtain ⟨g_7, h⟩ := gd_e h
  refine z_if_eq (tgt := 12) hx hb g_7 dX7_fault_4 (by decide) (fun b_8 => ?_) (fun b_8 => ?_)
  · have h := it_p b_8 h
    refine lv_aload_n hx hb dX7_fault_12 rfl (lv_at hl 0 rfl) ?_
    refine va_get (D := D) (ci := 7) (v := vI c_spot_2) (C := RX7) (T := TX7) (N := 26) hx hb hts zin7 hown hK hP 0 rfl rfl 22 (by decide) (hts _ wm809) (fun _ h9 => h9) rfl dX7_fault_13 ?_
    obtain rfl := Option.some.inj h
    exact z_iret hx hb hr hlk (fun _ _ => 0) hP hD hS dX7_fault_16
  · have h := it_n b_8 h
    refine lv_bipush (v := Int32.ofInt (-5)) hx hb dX7_fault_7 (by decide +kernel) ?_
    refine lv_goto (tgt := 16) hx hb dX7_fault_9 (by decide) ?_
    obtain rfl := Option.some.inj h
    exact z_iret hx hb hr hlk (fun _ _ => 0) hP hD hS dX7_fault_16
def f_Mo_read_L38 (c_rectangles : Int) (c_parts : Nat → Int) (k : Int → (Nat → Int) → (Nat → Int) → (Nat → Int) → Int → Int → (Nat → Int) → (Nat → Int) → (Nat → Int) → (Nat → Int) → (Nat → Int) → (Nat → Int) → Option (Int × (Nat → Int) × (Nat → Int) × Int × (Nat → Int) × (Nat → Int) × Int × Int × (Nat → Int) × (Nat → Int) × (Nat → Int) × (Nat → Int) × (Nat → Int) × (Nat → Int) × Int × Int × (Nat → Int))) : Nat → Int → (Nat → Int) → (Nat → Int) → (Nat → Int) → Int → Int → (Nat → Int) → (Nat → Int) → (Nat → Int) → (Nat → Int) → (Nat → Int) → (Nat → Int) → Option (Int × (Nat → Int) × (Nat → Int) × Int × (Nat → Int) × (Nat → Int) × Int × Int × (Nat → Int) × (Nat → Int) × (Nat → Int) × (Nat → Int) × (Nat → Int) × (Nat → Int) × Int × Int × (Nat → Int))
  | 0, _, _, _, _, _, _, _, _, _, _, _, _ => none
  | n + 1, x1, c_s, c_rect, c_item, c_items, c_itemLevel, c_treated, c_from, c_group, c_turn, c_size, c_old =>
  gd (ck x1) <| gd (ck c_rectangles) <| if x1 < c_rectangles then (gd (0 ≤ (4 * x1) ∧ (4 * x1) < ((44 : Nat) : Int)) <| gd (0 ≤ ((4 * x1) + 1) ∧ ((4 * x1) + 1) < ((44 : Nat) : Int)) <| gd (0 ≤ ((4 * x1) + 2) ∧ ((4 * x1) + 2) < ((44 : Nat) : Int)) <| gd (0 ≤ ((4 * x1) + 3) ∧ ((4 * x1) + 3) < ((44 : Nat) : Int)) <| bd12 (f_Mo_adds c_s c_rect c_item c_treated c_from c_group c_turn c_size c_old (c_parts ((4 * x1)).toNat) (c_parts (((4 * x1) + 1)).toNat) (c_parts (((4 * x1) + 2)).toNat) (c_parts (((4 * x1) + 3)).toNat)) <| fun r_25 c_s_26 c_rect_27 c_item_28 c_items_29 c_itemLevel_30 c_treated_31 c_from_32 c_group_33 c_turn_34 c_size_35 c_old_36 => f_Mo_read_L38 c_rectangles c_parts k n ((x1 + 1)) (c_s_26) (c_rect_27) (c_item_28) (c_items_29) (c_itemLevel_30) (c_treated_31) (c_from_32) (c_group_33) (c_turn_34) (c_size_35) (c_old_36)) else (k (x1) (c_s) (c_rect) (c_item) (c_items) (c_itemLevel) (c_treated) (c_from) (c_group) (c_turn) (c_size) (c_old))
def f_Mo_read (c_s : Nat → Int) (c_past : Nat → Int) (c_pasts : Int) (c_text : Nat → Int) (c_typed : Int) (c_rect : Nat → Int) (c_item : Nat → Int) (c_items : Int) (c_itemLevel : Int) (c_treated : Nat → Int) (c_from : Nat → Int) (c_group : Nat → Int) (c_turn : Nat → Int) (c_size : Nat → Int) (c_old : Nat → Int) (c_parts : Nat → Int) : Option (Int × (Nat → Int) × (Nat → Int) × Int × (Nat → Int) × (Nat → Int) × Int × Int × (Nat → Int) × (Nat → Int) × (Nat → Int) × (Nat → Int) × (Nat → Int) × (Nat → Int) × Int × Int × (Nat → Int)) :=
  bd4 (f_Mo_isList c_text c_typed c_parts) <| fun r_1 c_spot_2 c_rectangles_3 c_parts_4 => gd (ck r_1) <| if r_1 = 0 then (some (((-100) - c_spot_2), c_s, c_past, c_pasts, c_rect, c_item, c_items, c_itemLevel, c_treated, c_from, c_group, c_turn, c_size, c_old, c_spot_2, c_rectangles_3, c_parts_4)) else (bd1 (f_Mo_boxCount c_s) <| fun r_9 => gd (ck (r_9 + c_rectangles_3)) <| if 24 < (r_9 + c_rectangles_3) then (some ((-3), c_s, c_past, c_pasts, c_rect, c_item, c_items, c_itemLevel, c_treated, c_from, c_group, c_turn, c_size, c_old, c_spot_2, c_rectangles_3, c_parts_4)) else (bd2 (f_Mo_records c_s c_past c_pasts) <| fun c_past_14 c_pasts_15 => f_Mo_read_L38 (c_rectangles_3) (c_parts_4) (fun x1_39 c_s_40 c_rect_41 c_item_42 c_items_43 c_itemLevel_44 c_treated_45 c_from_46 c_group_47 c_turn_48 c_size_49 c_old_50 => some (c_rectangles_3, c_s_40, c_past_14, c_pasts_15, c_rect_41, c_item_42, c_items_43, c_itemLevel_44, c_treated_45, c_from_46, c_group_47, c_turn_48, c_size_49, c_old_50, c_spot_2, c_rectangles_3, c_parts_4)) FU (0) (c_s) (c_rect) (c_item) (c_items) (c_itemLevel) (c_treated) (c_from) (c_group) (c_turn) (c_size) (c_old)))
abbrev rm_Mo_read : Room := ({ frames := 8, cells := 0, slots := 0, locals := 199 } : Room)
set_option maxHeartbeats 4000000 in
set_option maxRecDepth 100000 in
theorem w_Mo_read_L38 {p : Program} {l : Launch} {e : Env} {s : State} {m : MethodId} {args : Array Value} {below : List Frame} {meth : Method} {c : Code} {A : Nat → Prop} (D : va_G) (cI cZ cT : ClassId) (h_M : Nat) (q_M : Nat → Nat) (c_past : Nat → Int) (c_kept : Nat → Int) (c_isKept : Int) (c_pasts : Int) (c_text : Nat → Int) (c_typed : Int) (c_aside : Nat → Int) (c_begin : Nat → Int) (c_level : Nat → Int) (c_asides : Int) (c_sorted : Nat → Int) (c_spot : Int) (c_rectangles : Int) (c_parts : Nat → Int) (c_visited : Nat → Int) (res : Int × (Nat → Int) × (Nat → Int) × Int × (Nat → Int) × (Nat → Int) × Int × Int × (Nat → Int) × (Nat → Int) × (Nat → Int) × (Nat → Int) × (Nat → Int) × (Nat → Int) × Int × Int × (Nat → Int)) (k : Int → (Nat → Int) → (Nat → Int) → (Nat → Int) → Int → Int → (Nat → Int) → (Nat → Int) → (Nat → Int) → (Nat → Int) → (Nat → Int) → (Nat → Int) → Option (Int × (Nat → Int) × (Nat → Int) × Int × (Nat → Int) × (Nat → Int) × Int × Int × (Nat → Int) × (Nat → Int) × (Nat → Int) × (Nat → Int) × (Nat → Int) × (Nat → Int) × Int × Int × (Nat → Int))) (hF : zF p m c cX7_read 3 s args yX7_read.cls meth (some .int) yX7_read.name A D (zt cI cZ cT))
    (hk : ∀ (x1 : Int) (c_s : Nat → Int) (c_rect : Nat → Int) (c_item : Nat → Int) (c_items : Int) (c_itemLevel : Int) (c_treated : Nat → Int) (c_from : Nat → Int) (c_group : Nat → Int) (c_turn : Nat → Int) (c_size : Nat → Int) (c_old : Nat → Int) (H : Heap) (locs : List Loc) (ls : Array Slot), k x1 c_s c_rect c_item c_items c_itemLevel c_treated c_from c_group c_turn c_size c_old = some res → va_P D vwCl ((zMo cI cZ h_M q_M c_s c_past c_kept c_isKept c_pasts c_text c_typed c_rect c_item c_items c_itemLevel c_treated c_from c_group c_turn c_size c_old c_aside c_begin c_level c_asides c_sorted c_spot c_rectangles c_parts c_visited)) H → va_D A ((zMo cI cZ h_M q_M c_s c_past c_kept c_isKept c_pasts c_text c_typed c_rect c_item c_items c_itemLevel c_treated c_from c_group c_turn c_size c_old c_aside c_begin c_level c_asides c_sorted c_spot c_rectangles c_parts c_visited)) → va_S A s.heap H locs → lv_has ls 3 [(0, .ref h_M)] → W p l e rm_Mo_read s m args below meth c H locs 0 0 (MQ below (zQi D (res.1) (fun u => (zMo cI cZ h_M q_M (res.2.1) (res.2.2.1) c_kept c_isKept (res.2.2.2.1) c_text c_typed (res.2.2.2.2.1) (res.2.2.2.2.2.1) (res.2.2.2.2.2.2.1) (res.2.2.2.2.2.2.2.1) (res.2.2.2.2.2.2.2.2.1) (res.2.2.2.2.2.2.2.2.2.1) (res.2.2.2.2.2.2.2.2.2.2.1) (res.2.2.2.2.2.2.2.2.2.2.2.1) (res.2.2.2.2.2.2.2.2.2.2.2.2.1) (res.2.2.2.2.2.2.2.2.2.2.2.2.2.1) c_aside c_begin c_level c_asides c_sorted (res.2.2.2.2.2.2.2.2.2.2.2.2.2.2.1) (res.2.2.2.2.2.2.2.2.2.2.2.2.2.2.2.1) (res.2.2.2.2.2.2.2.2.2.2.2.2.2.2.2.2) c_visited)) A) args s 0 0 A) (F0 m 95 ls [])) :
    ∀ (n : Nat) (x1 : Int) (c_s : Nat → Int) (c_rect : Nat → Int) (c_item : Nat → Int) (c_items : Int) (c_itemLevel : Int) (c_treated : Nat → Int) (c_from : Nat → Int) (c_group : Nat → Int) (c_turn : Nat → Int) (c_size : Nat → Int) (c_old : Nat → Int) (H : Heap) (locs : List Loc) (ls : Array Slot), f_Mo_read_L38 c_rectangles c_parts k n x1 c_s c_rect c_item c_items c_itemLevel c_treated c_from c_group c_turn c_size c_old = some res → va_P D vwCl ((zMo cI cZ h_M q_M c_s c_past c_kept c_isKept c_pasts c_text c_typed c_rect c_item c_items c_itemLevel c_treated c_from c_group c_turn c_size c_old c_aside c_begin c_level c_asides c_sorted c_spot c_rectangles c_parts c_visited)) H → va_D A ((zMo cI cZ h_M q_M c_s c_past c_kept c_isKept c_pasts c_text c_typed c_rect c_item c_items c_itemLevel c_treated c_from c_group c_turn c_size c_old c_aside c_begin c_level c_asides c_sorted c_spot c_rectangles c_parts c_visited)) → va_S A s.heap H locs → lv_has ls 3 [(0, .ref h_M), (1, vI x1)] → W p l e rm_Mo_read s m args below meth c H locs 0 0 (MQ below (zQi D (res.1) (fun u => (zMo cI cZ h_M q_M (res.2.1) (res.2.2.1) c_kept c_isKept (res.2.2.2.1) c_text c_typed (res.2.2.2.2.1) (res.2.2.2.2.2.1) (res.2.2.2.2.2.2.1) (res.2.2.2.2.2.2.2.1) (res.2.2.2.2.2.2.2.2.1) (res.2.2.2.2.2.2.2.2.2.1) (res.2.2.2.2.2.2.2.2.2.2.1) (res.2.2.2.2.2.2.2.2.2.2.2.1) (res.2.2.2.2.2.2.2.2.2.2.2.2.1) (res.2.2.2.2.2.2.2.2.2.2.2.2.2.1) c_aside c_begin c_level c_asides c_sorted (res.2.2.2.2.2.2.2.2.2.2.2.2.2.2.1) (res.2.2.2.2.2.2.2.2.2.2.2.2.2.2.2.1) (res.2.2.2.2.2.2.2.2.2.2.2.2.2.2.2.2) c_visited)) A) args s 0 0 A) (F0 m 38 ls []) := by
  have hx := hF.1.1
  have hb := hF.1.2.1
  have hml := hF.1.2.2.1
  have hown : s.vm.findClass "RectangleTreeModel" = some m.cls := hF.1.2.2.2.1
  have hts := hF.1.2.2.2.2
  have hr := hF.2.1
  have hlk := hF.2.2.1
  have hK := hF.2.2.2.2.1
  have hN := hF.2.2.2.2.2.1
  have hA := hF.2.2.2.2.2.2
  intro n
  induction n with
  | zero => intro x1 c_s c_rect c_item c_items c_itemLevel c_treated c_from c_group c_turn c_size c_old H locs ls h; cases h
  | succ n ih =>
    intro x1 c_s c_rect c_item c_items c_itemLevel c_treated c_from c_group c_turn c_size c_old H locs ls h hP hD hS hl
    rw [f_Mo_read_L38] at h
    refine lv_iload_n hx hb dX7_read_38 rfl (lv_at hl 1 rfl) ?_
    refine lv_aload_n hx hb dX7_read_39 rfl (lv_at hl 0 rfl) ?_
    refine va_get (D := D) (ci := 7) (v := vI c_rectangles) (C := RX7) (T := TX7) (N := 26) hx hb hts zin7 hown hK hP 0 rfl rfl 23 (by decide) (hts _ wm810) (fun _ h9 => h9) rfl dX7_read_40 ?_
    obtain ⟨g_18, h⟩ := gd_e h
    obtain ⟨g_19, h⟩ := gd_e h
    refine z_icmp_ge (tgt := 95) hx hb g_18 g_19 dX7_read_43 (by decide) (fun b_20 => ?_) (fun b_20 => ?_)
    · have h := it_n b_20 h
      exact hk (x1) (c_s) (c_rect) (c_item) (c_items) (c_itemLevel) (c_treated) (c_from) (c_group) (c_turn) (c_size) (c_old) H locs ls h hP hD hS (lv_sub hl [0] rfl)
    · have h := it_p b_20 h
      refine lv_aload_n hx hb dX7_read_46 rfl (lv_at hl 0 rfl) ?_
      refine lv_aload_n hx hb dX7_read_47 rfl (lv_at hl 0 rfl) ?_
      refine va_get (D := D) (ci := 7) (v := .ref (q_M 16)) (C := RX7) (T := TX7) (N := 26) hx hb hts zin7 hown hK hP 0 rfl rfl 24 (by decide) (hts _ wm811) (fun _ h9 => h9) rfl dX7_read_48 ?_
      refine lv_iconst (v := Int32.ofInt 4) hx hb dX7_read_51 rfl ?_
      refine lv_iload_n hx hb dX7_read_52 rfl (lv_at hl 1 rfl) ?_
      refine z_imul hx hb dX7_read_53 ?_
      obtain ⟨g_21, h⟩ := gd_e h
      refine z_iald (n := 44) (f := c_parts) (i := (4 * x1)) hx hb hK hP 17 rfl rfl g_21 (by have := g_21.2; omega) dX7_read_54 ?_
      refine lv_aload_n hx hb dX7_read_55 rfl (lv_at hl 0 rfl) ?_
      refine va_get (D := D) (ci := 7) (v := .ref (q_M 16)) (C := RX7) (T := TX7) (N := 26) hx hb hts zin7 hown hK hP 0 rfl rfl 24 (by decide) (hts _ wm811) (fun _ h9 => h9) rfl dX7_read_56 ?_
      refine lv_iconst (v := Int32.ofInt 4) hx hb dX7_read_59 rfl ?_
      refine lv_iload_n hx hb dX7_read_60 rfl (lv_at hl 1 rfl) ?_
      refine z_imul hx hb dX7_read_61 ?_
      refine lv_iconst (v := Int32.ofInt 1) hx hb dX7_read_62 rfl ?_
      refine z_iadd hx hb dX7_read_63 ?_
      obtain ⟨g_22, h⟩ := gd_e h
      refine z_iald (n := 44) (f := c_parts) (i := ((4 * x1) + 1)) hx hb hK hP 17 rfl rfl g_22 (by have := g_22.2; omega) dX7_read_64 ?_
      refine lv_aload_n hx hb dX7_read_65 rfl (lv_at hl 0 rfl) ?_
      refine va_get (D := D) (ci := 7) (v := .ref (q_M 16)) (C := RX7) (T := TX7) (N := 26) hx hb hts zin7 hown hK hP 0 rfl rfl 24 (by decide) (hts _ wm811) (fun _ h9 => h9) rfl dX7_read_66 ?_
      refine lv_iconst (v := Int32.ofInt 4) hx hb dX7_read_69 rfl ?_
      refine lv_iload_n hx hb dX7_read_70 rfl (lv_at hl 1 rfl) ?_
      refine z_imul hx hb dX7_read_71 ?_
      refine lv_iconst (v := Int32.ofInt 2) hx hb dX7_read_72 rfl ?_
      refine z_iadd hx hb dX7_read_73 ?_
      obtain ⟨g_23, h⟩ := gd_e h
      refine z_iald (n := 44) (f := c_parts) (i := ((4 * x1) + 2)) hx hb hK hP 17 rfl rfl g_23 (by have := g_23.2; omega) dX7_read_74 ?_
      refine lv_aload_n hx hb dX7_read_75 rfl (lv_at hl 0 rfl) ?_
      refine va_get (D := D) (ci := 7) (v := .ref (q_M 16)) (C := RX7) (T := TX7) (N := 26) hx hb hts zin7 hown hK hP 0 rfl rfl 24 (by decide) (hts _ wm811) (fun _ h9 => h9) rfl dX7_read_76 ?_
      refine lv_iconst (v := Int32.ofInt 4) hx hb dX7_read_79 rfl ?_
      refine lv_iload_n hx hb dX7_read_80 rfl (lv_at hl 1 rfl) ?_
      refine z_imul hx hb dX7_read_81 ?_
      refine lv_iconst (v := Int32.ofInt 3) hx hb dX7_read_82 rfl ?_
      refine z_iadd hx hb dX7_read_83 ?_
      obtain ⟨g_24, h⟩ := gd_e h
      refine z_iald (n := 44) (f := c_parts) (i := ((4 * x1) + 3)) hx hb hK hP 17 rfl rfl g_24 (by have := g_24.2; omega) dX7_read_84 ?_
      obtain ⟨r_25, c_s_26, c_rect_27, c_item_28, c_items_29, c_itemLevel_30, c_treated_31, c_from_32, c_group_33, c_turn_34, c_size_35, c_old_36, e_37, h⟩ := bd12_e h
      refine z_goi (ws' := []) (ret := r_25) (wc := (zMo cI cZ (h_M) (q_M) (c_s) (c_past) (c_kept) (c_isKept) (c_pasts) (c_text) (c_typed) (c_rect) (c_item) (c_items) (c_itemLevel) (c_treated) (c_from) (c_group) (c_turn) (c_size) (c_old) (c_aside) (c_begin) (c_level) (c_asides) (c_sorted) (c_spot) (c_rectangles) (c_parts) (c_visited))) (wn := fun u_38 => (zMo cI cZ h_M q_M c_s_26 c_past c_kept c_isKept c_pasts c_text c_typed c_rect_27 c_item_28 c_items_29 c_itemLevel_30 c_treated_31 c_from_32 c_group_33 c_turn_34 c_size_35 c_old_36 c_aside c_begin c_level c_asides c_sorted c_spot c_rectangles c_parts c_visited)) (wr := []) (va_runV (As := [vI (c_parts ((4 * x1)).toNat), vI (c_parts (((4 * x1) + 1)).toNat), vI (c_parts (((4 * x1) + 2)).toNat), vI (c_parts (((4 * x1) + 3)).toNat)]) (rest := []) hF.1 (c_Mo_adds l D cI cZ cT h_M q_M c_s c_past c_kept c_isKept c_pasts c_text c_typed c_rect c_item c_items c_itemLevel c_treated c_from c_group c_turn c_size c_old c_aside c_begin c_level c_asides c_sorted c_spot c_rectangles c_parts c_visited (c_parts ((4 * x1)).toNat) (c_parts (((4 * x1) + 1)).toNat) (c_parts (((4 * x1) + 2)).toNat) (c_parts (((4 * x1) + 3)).toNat) H.size (r_25, c_s_26, c_rect_27, c_item_28, c_items_29, c_itemLevel_30, c_treated_31, c_from_32, c_group_33, c_turn_34, c_size_35, c_old_36) e_37) (cwV 4 hts (zgV wm889 wm891 wm34 wm89 wm892) rfl rfl rfl (by decide +kernel) ⟨Nat.le_of_ble_eq_true rfl, Nat.le_of_ble_eq_true rfl⟩) ⟨zP.blind, va_recv hK (z_subP (ws' := (zMo cI cZ (h_M) (q_M) (c_s) (c_past) (c_kept) (c_isKept) (c_pasts) (c_text) (c_typed) (c_rect) (c_item) (c_items) (c_itemLevel) (c_treated) (c_from) (c_group) (c_turn) (c_size) (c_old) (c_aside) (c_begin) (c_level) (c_asides) (c_sorted) (c_spot) (c_rectangles) (c_parts) (c_visited))) hP [0, 1, 2, 3, 4, 5, 6, 7, 8, 9, 10, 11, 12, 13, 14, 15, 16, 17, 18] rfl) (ci := 7) (q0 := 0) rfl rfl, zP.enter (z_subP (ws' := (zMo cI cZ (h_M) (q_M) (c_s) (c_past) (c_kept) (c_isKept) (c_pasts) (c_text) (c_typed) (c_rect) (c_item) (c_items) (c_itemLevel) (c_treated) (c_from) (c_group) (c_turn) (c_size) (c_old) (c_aside) (c_begin) (c_level) (c_asides) (c_sorted) (c_spot) (c_rectangles) (c_parts) (c_visited))) hP [0, 1, 2, 3, 4, 5, 6, 7, 8, 9, 10, 11, 12, 13, 14, 15, 16, 17, 18] rfl) hK (hD.sub [0, 1, 2, 3, 4, 5, 6, 7, 8, 9, 10, 11, 12, 13, 14, 15, 16, 17, 18] (by decide) rfl) hN⟩ rfl rfl hl.1 rfl (lv_room (Nat.le_of_ble_eq_true rfl)) dX7_read_85 ⟨Nat.le_refl _, Nat.le_refl _⟩) hP hD hS hA [0, 1, 2, 3, 4, 5, 6, 7, 8, 9, 10, 11, 12, 13, 14, 15, 16, 17, 18] [] [0, 1, 2, 3, 4, 5, 6, 7, 8, 9, 10, 11, 12, 13, 14, 15, 16, 17, 18] rfl rfl (by decide) (fun _ => rfl) (fun u_38 H locs hP hD hS hz => ?_)
      refine lv_istore_n (lv' := [(2, vI r_25), (0, .ref h_M), (1, vI x1)]) hx hb dX7_read_88 rfl hl (by decide) rfl (fun ls hl => ?_)
      refine lv_iinc (v := Int32.ofInt (x1 + 1)) (lv' := [(1, vI (x1 + 1)), (2, vI r_25), (0, .ref h_M)]) hx hb dX7_read_89 hl (k := 2) rfl (z_inc _ _) (by decide) rfl (fun ls hl => ?_)
      refine lv_goto (tgt := 38) hx hb dX7_read_92 (by decide) ?_
      exact ih ((x1 + 1)) (c_s_26) (c_rect_27) (c_item_28) (c_items_29) (c_itemLevel_30) (c_treated_31) (c_from_32) (c_group_33) (c_turn_34) (c_size_35) (c_old_36) H locs ls h hP hD hS (lv_sub hl [2, 0] rfl)
set_option maxHeartbeats 4000000 in
set_option maxRecDepth 100000 in
theorem c_Mo_read (l : Launch) (D : va_G) (cI cZ cT : ClassId) (h_M : Nat) (q_M : Nat → Nat) (c_s : Nat → Int) (c_past : Nat → Int) (c_kept : Nat → Int) (c_isKept : Int) (c_pasts : Int) (c_text : Nat → Int) (c_typed : Int) (c_rect : Nat → Int) (c_item : Nat → Int) (c_items : Int) (c_itemLevel : Int) (c_treated : Nat → Int) (c_from : Nat → Int) (c_group : Nat → Int) (c_turn : Nat → Int) (c_size : Nat → Int) (c_old : Nat → Int) (c_aside : Nat → Int) (c_begin : Nat → Int) (c_level : Nat → Int) (c_asides : Int) (c_sorted : Nat → Int) (c_spot : Int) (c_rectangles : Int) (c_parts : Nat → Int) (c_visited : Nat → Int) (sz : Nat) (res : Int × (Nat → Int) × (Nat → Int) × Int × (Nat → Int) × (Nat → Int) × Int × Int × (Nat → Int) × (Nat → Int) × (Nat → Int) × (Nat → Int) × (Nat → Int) × (Nat → Int) × Int × Int × (Nat → Int)) (h : f_Mo_read c_s c_past c_pasts c_text c_typed c_rect c_item c_items c_itemLevel c_treated c_from c_group c_turn c_size c_old c_parts = some res) : zMi l yX7_read cX7_read 3 rm_Mo_read D (zt cI cZ cT) [.ref h_M] ((zMo cI cZ h_M q_M c_s c_past c_kept c_isKept c_pasts c_text c_typed c_rect c_item c_items c_itemLevel c_treated c_from c_group c_turn c_size c_old c_aside c_begin c_level c_asides c_sorted c_spot c_rectangles c_parts c_visited)) sz (res.1) (fun u => (zMo cI cZ h_M q_M (res.2.1) (res.2.2.1) c_kept c_isKept (res.2.2.2.1) c_text c_typed (res.2.2.2.2.1) (res.2.2.2.2.2.1) (res.2.2.2.2.2.2.1) (res.2.2.2.2.2.2.2.1) (res.2.2.2.2.2.2.2.2.1) (res.2.2.2.2.2.2.2.2.2.1) (res.2.2.2.2.2.2.2.2.2.2.1) (res.2.2.2.2.2.2.2.2.2.2.2.1) (res.2.2.2.2.2.2.2.2.2.2.2.2.1) (res.2.2.2.2.2.2.2.2.2.2.2.2.2.1) c_aside c_begin c_level c_asides c_sorted (res.2.2.2.2.2.2.2.2.2.2.2.2.2.2.1) (res.2.2.2.2.2.2.2.2.2.2.2.2.2.2.2.1) (res.2.2.2.2.2.2.2.2.2.2.2.2.2.2.2.2) c_visited)) 0 0 := by
  refine z_enth (Qc := zQi D (res.1) (fun u => (zMo cI cZ h_M q_M (res.2.1) (res.2.2.1) c_kept c_isKept (res.2.2.2.1) c_text c_typed (res.2.2.2.2.1) (res.2.2.2.2.2.1) (res.2.2.2.2.2.2.1) (res.2.2.2.2.2.2.2.1) (res.2.2.2.2.2.2.2.2.1) (res.2.2.2.2.2.2.2.2.2.1) (res.2.2.2.2.2.2.2.2.2.2.1) (res.2.2.2.2.2.2.2.2.2.2.2.1) (res.2.2.2.2.2.2.2.2.2.2.2.2.1) (res.2.2.2.2.2.2.2.2.2.2.2.2.2.1) c_aside c_begin c_level c_asides c_sorted (res.2.2.2.2.2.2.2.2.2.2.2.2.2.2.1) (res.2.2.2.2.2.2.2.2.2.2.2.2.2.2.2.1) (res.2.2.2.2.2.2.2.2.2.2.2.2.2.2.2.2) c_visited))) (by decide) (Nat.le_of_ble_eq_true rfl) (fun p e s m args below meth c A ls H locs hF hP hD hS hl => ?_)
  have hx := hF.1.1
  have hb := hF.1.2.1
  have hml := hF.1.2.2.1
  have hown : s.vm.findClass "RectangleTreeModel" = some m.cls := hF.1.2.2.2.1
  have hts := hF.1.2.2.2.2
  have hr := hF.2.1
  have hlk := hF.2.2.1
  have hK := hF.2.2.2.2.1
  have hN := hF.2.2.2.2.2.1
  have hA := hF.2.2.2.2.2.2
  unfold f_Mo_read at h
  refine lv_aload_n hx hb dX7_read_0 rfl (lv_at hl 0 rfl) ?_
  obtain ⟨r_1, c_spot_2, c_rectangles_3, c_parts_4, e_5, h⟩ := bd4_e h
  refine z_goi (ws' := []) (ret := r_1) (wc := (zMo cI cZ (h_M) (q_M) (c_s) (c_past) (c_kept) (c_isKept) (c_pasts) (c_text) (c_typed) (c_rect) (c_item) (c_items) (c_itemLevel) (c_treated) (c_from) (c_group) (c_turn) (c_size) (c_old) (c_aside) (c_begin) (c_level) (c_asides) (c_sorted) (c_spot) (c_rectangles) (c_parts) (c_visited))) (wn := fun u_6 => (zMo cI cZ h_M q_M c_s c_past c_kept c_isKept c_pasts c_text c_typed c_rect c_item c_items c_itemLevel c_treated c_from c_group c_turn c_size c_old c_aside c_begin c_level c_asides c_sorted c_spot_2 c_rectangles_3 c_parts_4 c_visited)) (wr := []) (va_runV (As := []) (rest := []) hF.1 (c_Mo_isList l D cI cZ cT h_M q_M c_s c_past c_kept c_isKept c_pasts c_text c_typed c_rect c_item c_items c_itemLevel c_treated c_from c_group c_turn c_size c_old c_aside c_begin c_level c_asides c_sorted c_spot c_rectangles c_parts c_visited H.size (r_1, c_spot_2, c_rectangles_3, c_parts_4) e_5) (cwV 0 hts (zgV wm1078 wm1080 wm72 wm89 wm1081) rfl rfl rfl (by decide +kernel) ⟨Nat.le_of_ble_eq_true rfl, Nat.le_of_ble_eq_true rfl⟩) ⟨zP.blind, va_recv hK (z_subP (ws' := (zMo cI cZ (h_M) (q_M) (c_s) (c_past) (c_kept) (c_isKept) (c_pasts) (c_text) (c_typed) (c_rect) (c_item) (c_items) (c_itemLevel) (c_treated) (c_from) (c_group) (c_turn) (c_size) (c_old) (c_aside) (c_begin) (c_level) (c_asides) (c_sorted) (c_spot) (c_rectangles) (c_parts) (c_visited))) hP [0, 1, 2, 3, 4, 5, 6, 7, 8, 9, 10, 11, 12, 13, 14, 15, 16, 17, 18] rfl) (ci := 7) (q0 := 0) rfl rfl, zP.enter (z_subP (ws' := (zMo cI cZ (h_M) (q_M) (c_s) (c_past) (c_kept) (c_isKept) (c_pasts) (c_text) (c_typed) (c_rect) (c_item) (c_items) (c_itemLevel) (c_treated) (c_from) (c_group) (c_turn) (c_size) (c_old) (c_aside) (c_begin) (c_level) (c_asides) (c_sorted) (c_spot) (c_rectangles) (c_parts) (c_visited))) hP [0, 1, 2, 3, 4, 5, 6, 7, 8, 9, 10, 11, 12, 13, 14, 15, 16, 17, 18] rfl) hK (hD.sub [0, 1, 2, 3, 4, 5, 6, 7, 8, 9, 10, 11, 12, 13, 14, 15, 16, 17, 18] (by decide) rfl) hN⟩ rfl rfl hl.1 rfl (lv_room (Nat.le_of_ble_eq_true rfl)) dX7_read_1 ⟨Nat.le_refl _, Nat.le_refl _⟩) hP hD hS hA [0, 1, 2, 3, 4, 5, 6, 7, 8, 9, 10, 11, 12, 13, 14, 15, 16, 17, 18] [] [0, 1, 2, 3, 4, 5, 6, 7, 8, 9, 10, 11, 12, 13, 14, 15, 16, 17, 18] rfl rfl (by decide) (fun _ => rfl) (fun u_6 H locs hP hD hS hz => ?_)
  obtain ⟨g_7, h⟩ := gd_e h
  refine z_if_ne (tgt := 15) hx hb g_7 dX7_read_4 (by decide) (fun b_8 => ?_) (fun b_8 => ?_)
  · have h := it_n b_8 h
    refine lv_aload_n hx hb dX7_read_15 rfl (lv_at hl 0 rfl) ?_
    obtain ⟨r_9, e_10, h⟩ := bd1_e h
    refine z_goi (ws' := []) (ret := r_9) (wc := (zMo cI cZ (h_M) (q_M) (c_s) (c_past) (c_kept) (c_isKept) (c_pasts) (c_text) (c_typed) (c_rect) (c_item) (c_items) (c_itemLevel) (c_treated) (c_from) (c_group) (c_turn) (c_size) (c_old) (c_aside) (c_begin) (c_level) (c_asides) (c_sorted) (c_spot_2) (c_rectangles_3) (c_parts_4) (c_visited))) (wn := fun u_11 => (zMo cI cZ h_M q_M c_s c_past c_kept c_isKept c_pasts c_text c_typed c_rect c_item c_items c_itemLevel c_treated c_from c_group c_turn c_size c_old c_aside c_begin c_level c_asides c_sorted c_spot_2 c_rectangles_3 c_parts_4 c_visited)) (wr := []) (va_runV (As := []) (rest := []) hF.1 (c_Mo_boxCount l D cI cZ cT h_M q_M c_s c_past c_kept c_isKept c_pasts c_text c_typed c_rect c_item c_items c_itemLevel c_treated c_from c_group c_turn c_size c_old c_aside c_begin c_level c_asides c_sorted c_spot_2 c_rectangles_3 c_parts_4 c_visited H.size (r_9) e_10) (cwV 0 hts (zgV wm877 wm879 wm31 wm89 wm880) rfl rfl rfl (by decide +kernel) ⟨Nat.le_of_ble_eq_true rfl, Nat.le_of_ble_eq_true rfl⟩) ⟨zP.blind, va_recv hK (z_subP (ws' := (zMo cI cZ (h_M) (q_M) (c_s) (c_past) (c_kept) (c_isKept) (c_pasts) (c_text) (c_typed) (c_rect) (c_item) (c_items) (c_itemLevel) (c_treated) (c_from) (c_group) (c_turn) (c_size) (c_old) (c_aside) (c_begin) (c_level) (c_asides) (c_sorted) (c_spot_2) (c_rectangles_3) (c_parts_4) (c_visited))) hP [0, 1, 2, 3, 4, 5, 6, 7, 8, 9, 10, 11, 12, 13, 14, 15, 16, 17, 18] rfl) (ci := 7) (q0 := 0) rfl rfl, zP.enter (z_subP (ws' := (zMo cI cZ (h_M) (q_M) (c_s) (c_past) (c_kept) (c_isKept) (c_pasts) (c_text) (c_typed) (c_rect) (c_item) (c_items) (c_itemLevel) (c_treated) (c_from) (c_group) (c_turn) (c_size) (c_old) (c_aside) (c_begin) (c_level) (c_asides) (c_sorted) (c_spot_2) (c_rectangles_3) (c_parts_4) (c_visited))) hP [0, 1, 2, 3, 4, 5, 6, 7, 8, 9, 10, 11, 12, 13, 14, 15, 16, 17, 18] rfl) hK (hD.sub [0, 1, 2, 3, 4, 5, 6, 7, 8, 9, 10, 11, 12, 13, 14, 15, 16, 17, 18] (by decide) rfl) hN⟩ rfl rfl hl.1 rfl (lv_room (Nat.le_of_ble_eq_true rfl)) dX7_read_16 ⟨Nat.le_refl _, Nat.le_refl _⟩) hP hD hS hA [0, 1, 2, 3, 4, 5, 6, 7, 8, 9, 10, 11, 12, 13, 14, 15, 16, 17, 18] [] [0, 1, 2, 3, 4, 5, 6, 7, 8, 9, 10, 11, 12, 13, 14, 15, 16, 17, 18] rfl rfl (by decide) (fun _ => rfl) (fun u_11 H locs hP hD hS hz => ?_)
    refine lv_aload_n hx hb dX7_read_19 rfl (lv_at hl 0 rfl) ?_
    refine va_get (D := D) (ci := 7) (v := vI c_rectangles_3) (C := RX7) (T := TX7) (N := 26) hx hb hts zin7 hown hK hP 0 rfl rfl 23 (by decide) (hts _ wm810) (fun _ h9 => h9) rfl dX7_read_20 ?_
    refine z_iadd hx hb dX7_read_23 ?_
    refine lv_bipush (v := Int32.ofInt 24) hx hb dX7_read_24 (by decide +kernel) ?_
    obtain ⟨g_12, h⟩ := gd_e h
    refine z_icmp_le (tgt := 32) hx hb g_12 (by decide) dX7_read_26 (by decide) (fun b_13 => ?_) (fun b_13 => ?_)
    · have h := it_n b_13 h
      refine lv_aload_n hx hb dX7_read_32 rfl (lv_at hl 0 rfl) ?_
      obtain ⟨c_past_14, c_pasts_15, e_16, h⟩ := bd2_e h
      refine z_gov (wc := (zMo cI cZ (h_M) (q_M) (c_s) (c_past) (c_kept) (c_isKept) (c_pasts) (c_text) (c_typed) (c_rect) (c_item) (c_items) (c_itemLevel) (c_treated) (c_from) (c_group) (c_turn) (c_size) (c_old) (c_aside) (c_begin) (c_level) (c_asides) (c_sorted) (c_spot_2) (c_rectangles_3) (c_parts_4) (c_visited))) (wn := fun u_17 => (zMo cI cZ h_M q_M c_s c_past_14 c_kept c_isKept c_pasts_15 c_text c_typed c_rect c_item c_items c_itemLevel c_treated c_from c_group c_turn c_size c_old c_aside c_begin c_level c_asides c_sorted c_spot_2 c_rectangles_3 c_parts_4 c_visited)) (wr := []) (va_runV (As := []) (rest := []) hF.1 (c_Mo_records l D cI cZ cT h_M q_M c_s c_past c_kept c_isKept c_pasts c_text c_typed c_rect c_item c_items c_itemLevel c_treated c_from c_group c_turn c_size c_old c_aside c_begin c_level c_asides c_sorted c_spot_2 c_rectangles_3 c_parts_4 c_visited H.size (c_past_14, c_pasts_15) e_16) (cwV 0 hts (zgV wm885 wm887 wm33 wm89 wm888) rfl rfl rfl (by decide +kernel) ⟨Nat.le_of_ble_eq_true rfl, Nat.le_of_ble_eq_true rfl⟩) ⟨zP.blind, va_recv hK (z_subP (ws' := (zMo cI cZ (h_M) (q_M) (c_s) (c_past) (c_kept) (c_isKept) (c_pasts) (c_text) (c_typed) (c_rect) (c_item) (c_items) (c_itemLevel) (c_treated) (c_from) (c_group) (c_turn) (c_size) (c_old) (c_aside) (c_begin) (c_level) (c_asides) (c_sorted) (c_spot_2) (c_rectangles_3) (c_parts_4) (c_visited))) hP [0, 1, 2, 3, 4, 5, 6, 7, 8, 9, 10, 11, 12, 13, 14, 15, 16, 17, 18] rfl) (ci := 7) (q0 := 0) rfl rfl, zP.enter (z_subP (ws' := (zMo cI cZ (h_M) (q_M) (c_s) (c_past) (c_kept) (c_isKept) (c_pasts) (c_text) (c_typed) (c_rect) (c_item) (c_items) (c_itemLevel) (c_treated) (c_from) (c_group) (c_turn) (c_size) (c_old) (c_aside) (c_begin) (c_level) (c_asides) (c_sorted) (c_spot_2) (c_rectangles_3) (c_parts_4) (c_visited))) hP [0, 1, 2, 3, 4, 5, 6, 7, 8, 9, 10, 11, 12, 13, 14, 15, 16, 17, 18] rfl) hK (hD.sub [0, 1, 2, 3, 4, 5, 6, 7, 8, 9, 10, 11, 12, 13, 14, 15, 16, 17, 18] (by decide) rfl) hN⟩ rfl rfl hl.1 rfl (lv_room (Nat.le_of_ble_eq_true rfl)) dX7_read_33 ⟨Nat.le_refl _, Nat.le_refl _⟩) hP hD hS hA [0, 1, 2, 3, 4, 5, 6, 7, 8, 9, 10, 11, 12, 13, 14, 15, 16, 17, 18] [] [0, 1, 2, 3, 4, 5, 6, 7, 8, 9, 10, 11, 12, 13, 14, 15, 16, 17, 18] rfl rfl (by decide) (fun _ => rfl) (fun u_17 H locs hP hD hS hz => ?_)
      refine lv_iconst (v := Int32.ofInt 0) hx hb dX7_read_36 rfl ?_
      refine lv_istore_n (lv' := [(1, vI 0), (0, .ref h_M)]) hx hb dX7_read_37 rfl hl (by decide) rfl (fun ls hl => ?_)
      refine w_Mo_read_L38 D cI cZ cT (h_M) (q_M) (c_past_14) (c_kept) (c_isKept) (c_pasts_15) (c_text) (c_typed) (c_aside) (c_begin) (c_level) (c_asides) (c_sorted) (c_spot_2) (c_rectangles_3) (c_parts_4) (c_visited) _ _ hF (fun x1_39 c_s_40 c_rect_41 c_item_42 c_items_43 c_itemLevel_44 c_treated_45 c_from_46 c_group_47 c_turn_48 c_size_49 c_old_50 H locs ls h hP hD hS hl => ?_) _ (0) (c_s) (c_rect) (c_item) (c_items) (c_itemLevel) (c_treated) (c_from) (c_group) (c_turn) (c_size) (c_old) _ _ _ h hP hD hS (lv_sub hl [1, 0] rfl)
      refine lv_aload_n hx hb dX7_read_95 rfl (lv_at hl 0 rfl) ?_
      refine va_get (D := D) (ci := 7) (v := vI c_rectangles_3) (C := RX7) (T := TX7) (N := 26) hx hb hts zin7 hown hK hP 0 rfl rfl 23 (by decide) (hts _ wm810) (fun _ h9 => h9) rfl dX7_read_96 ?_
      obtain rfl := Option.some.inj h
      exact z_iret hx hb hr hlk (fun _ _ => 0) hP hD hS dX7_read_99
    · have h := it_p b_13 h
      refine lv_bipush (v := Int32.ofInt (-3)) hx hb dX7_read_29 (by decide +kernel) ?_
      obtain rfl := Option.some.inj h
      exact z_iret hx hb hr hlk (fun _ _ => 0) hP hD hS dX7_read_31
  · have h := it_p b_8 h
    refine lv_bipush (v := Int32.ofInt (-100)) hx hb dX7_read_7 (by decide +kernel) ?_
    refine lv_aload_n hx hb dX7_read_9 rfl (lv_at hl 0 rfl) ?_
    refine va_get (D := D) (ci := 7) (v := vI c_spot_2) (C := RX7) (T := TX7) (N := 26) hx hb hts zin7 hown hK hP 0 rfl rfl 22 (by decide) (hts _ wm809) (fun _ h9 => h9) rfl dX7_read_10 ?_
    refine z_isub hx hb dX7_read_13 ?_
    obtain rfl := Option.some.inj h
    exact z_iret hx hb hr hlk (fun _ _ => 0) hP hD hS dX7_read_14
def f_Mo_undo_L22 (c_past : Nat → Int) (c_pasts : Int) (k : Int → (Nat → Int) → Option (Int × (Nat → Int) × Int)) : Nat → Int → (Nat → Int) → Option (Int × (Nat → Int) × Int)
  | 0, _, _ => none
  | n + 1, x1, c_s =>
  gd (ck x1) <| if x1 < 461 then (gd (0 ≤ ((461 * c_pasts) + x1) ∧ ((461 * c_pasts) + x1) < ((1844 : Nat) : Int)) <| gd (0 ≤ x1 ∧ x1 < ((461 : Nat) : Int)) <| f_Mo_undo_L22 c_past c_pasts k n ((x1 + 1)) ((up c_s ((x1).toNat) (c_past (((461 * c_pasts) + x1)).toNat)))) else (k (x1) (c_s))
def f_Mo_undo (c_s : Nat → Int) (c_past : Nat → Int) (c_pasts : Int) : Option (Int × (Nat → Int) × Int) :=
  gd (ck c_pasts) <| if c_pasts = 0 then (some ((-5), c_s, c_pasts)) else (f_Mo_undo_L22 (c_past) ((c_pasts - 1)) (fun x1_7 c_s_8 => some ((c_pasts - 1), c_s_8, (c_pasts - 1))) FU (0) (c_s))
abbrev rm_Mo_undo : Room := ({ frames := 0, cells := 0, slots := 0, locals := 0 } : Room)
set_option maxHeartbeats 4000000 in
set_option maxRecDepth 100000 in
theorem w_Mo_undo_L22 {p : Program} {l : Launch} {e : Env} {s : State} {m : MethodId} {args : Array Value} {below : List Frame} {meth : Method} {c : Code} {A : Nat → Prop} (D : va_G) (cI cZ cT : ClassId) (h_M : Nat) (q_M : Nat → Nat) (c_past : Nat → Int) (c_kept : Nat → Int) (c_isKept : Int) (c_pasts : Int) (c_text : Nat → Int) (c_typed : Int) (c_rect : Nat → Int) (c_item : Nat → Int) (c_items : Int) (c_itemLevel : Int) (c_treated : Nat → Int) (c_from : Nat → Int) (c_group : Nat → Int) (c_turn : Nat → Int) (c_size : Nat → Int) (c_old : Nat → Int) (c_aside : Nat → Int) (c_begin : Nat → Int) (c_level : Nat → Int) (c_asides : Int) (c_sorted : Nat → Int) (c_spot : Int) (c_rectangles : Int) (c_parts : Nat → Int) (c_visited : Nat → Int) (res : Int × (Nat → Int) × Int) (k : Int → (Nat → Int) → Option (Int × (Nat → Int) × Int)) (hF : zF p m c cX7_undo 2 s args yX7_undo.cls meth (some .int) yX7_undo.name A D (zt cI cZ cT))
    (hk : ∀ (x1 : Int) (c_s : Nat → Int) (H : Heap) (locs : List Loc) (ls : Array Slot), k x1 c_s = some res → va_P D vwCl ((zMo cI cZ h_M q_M c_s c_past c_kept c_isKept c_pasts c_text c_typed c_rect c_item c_items c_itemLevel c_treated c_from c_group c_turn c_size c_old c_aside c_begin c_level c_asides c_sorted c_spot c_rectangles c_parts c_visited)) H → va_D A ((zMo cI cZ h_M q_M c_s c_past c_kept c_isKept c_pasts c_text c_typed c_rect c_item c_items c_itemLevel c_treated c_from c_group c_turn c_size c_old c_aside c_begin c_level c_asides c_sorted c_spot c_rectangles c_parts c_visited)) → va_S A s.heap H locs → lv_has ls 2 [(0, .ref h_M)] → W p l e rm_Mo_undo s m args below meth c H locs 0 0 (MQ below (zQi D (res.1) (fun u => (zMo cI cZ h_M q_M (res.2.1) c_past c_kept c_isKept (res.2.2) c_text c_typed c_rect c_item c_items c_itemLevel c_treated c_from c_group c_turn c_size c_old c_aside c_begin c_level c_asides c_sorted c_spot c_rectangles c_parts c_visited)) A) args s 0 0 A) (F0 m 56 ls [])) :
    ∀ (n : Nat) (x1 : Int) (c_s : Nat → Int) (H : Heap) (locs : List Loc) (ls : Array Slot), f_Mo_undo_L22 c_past c_pasts k n x1 c_s = some res → va_P D vwCl ((zMo cI cZ h_M q_M c_s c_past c_kept c_isKept c_pasts c_text c_typed c_rect c_item c_items c_itemLevel c_treated c_from c_group c_turn c_size c_old c_aside c_begin c_level c_asides c_sorted c_spot c_rectangles c_parts c_visited)) H → va_D A ((zMo cI cZ h_M q_M c_s c_past c_kept c_isKept c_pasts c_text c_typed c_rect c_item c_items c_itemLevel c_treated c_from c_group c_turn c_size c_old c_aside c_begin c_level c_asides c_sorted c_spot c_rectangles c_parts c_visited)) → va_S A s.heap H locs → lv_has ls 2 [(0, .ref h_M), (1, vI x1)] → W p l e rm_Mo_undo s m args below meth c H locs 0 0 (MQ below (zQi D (res.1) (fun u => (zMo cI cZ h_M q_M (res.2.1) c_past c_kept c_isKept (res.2.2) c_text c_typed c_rect c_item c_items c_itemLevel c_treated c_from c_group c_turn c_size c_old c_aside c_begin c_level c_asides c_sorted c_spot c_rectangles c_parts c_visited)) A) args s 0 0 A) (F0 m 22 ls []) := by
  have hx := hF.1.1
  have hb := hF.1.2.1
  have hml := hF.1.2.2.1
  have hown : s.vm.findClass "RectangleTreeModel" = some m.cls := hF.1.2.2.2.1
  have hts := hF.1.2.2.2.2
  have hr := hF.2.1
  have hlk := hF.2.2.1
  have hK := hF.2.2.2.2.1
  have hN := hF.2.2.2.2.2.1
  have hA := hF.2.2.2.2.2.2
  intro n
  induction n with
  | zero => intro x1 c_s H locs ls h; cases h
  | succ n ih =>
    intro x1 c_s H locs ls h hP hD hS hl
    rw [f_Mo_undo_L22] at h
    refine lv_iload_n hx hb dX7_undo_22 rfl (lv_at hl 1 rfl) ?_
    refine lv_sipush (v := Int32.ofInt 461) hx hb dX7_undo_23 (by decide +kernel) ?_
    obtain ⟨g_3, h⟩ := gd_e h
    refine z_icmp_ge (tgt := 56) hx hb g_3 (by decide) dX7_undo_26 (by decide) (fun b_4 => ?_) (fun b_4 => ?_)
    · have h := it_n b_4 h
      exact hk (x1) (c_s) H locs ls h hP hD hS (lv_sub hl [0] rfl)
    · have h := it_p b_4 h
      refine lv_aload_n hx hb dX7_undo_29 rfl (lv_at hl 0 rfl) ?_
      refine va_get (D := D) (ci := 7) (v := .ref (q_M 0)) (C := RX7) (T := TX7) (N := 26) hx hb hts zin7 hown hK hP 0 rfl rfl 0 (by decide) (hts _ wm787) (fun _ h9 => h9) rfl dX7_undo_30 ?_
      refine lv_iload_n hx hb dX7_undo_33 rfl (lv_at hl 1 rfl) ?_
      refine lv_aload_n hx hb dX7_undo_34 rfl (lv_at hl 0 rfl) ?_
      refine va_get (D := D) (ci := 7) (v := .ref (q_M 1)) (C := RX7) (T := TX7) (N := 26) hx hb hts zin7 hown hK hP 0 rfl rfl 1 (by decide) (hts _ wm788) (fun _ h9 => h9) rfl dX7_undo_35 ?_
      refine lv_sipush (v := Int32.ofInt 461) hx hb dX7_undo_38 (by decide +kernel) ?_
      refine lv_aload_n hx hb dX7_undo_41 rfl (lv_at hl 0 rfl) ?_
      refine va_get (D := D) (ci := 7) (v := vI c_pasts) (C := RX7) (T := TX7) (N := 26) hx hb hts zin7 hown hK hP 0 rfl rfl 4 (by decide) (hts _ wm791) (fun _ h9 => h9) rfl dX7_undo_42 ?_
      refine z_imul hx hb dX7_undo_45 ?_
      refine lv_iload_n hx hb dX7_undo_46 rfl (lv_at hl 1 rfl) ?_
      refine z_iadd hx hb dX7_undo_47 ?_
      obtain ⟨g_5, h⟩ := gd_e h
      refine z_iald (n := 1844) (f := c_past) (i := ((461 * c_pasts) + x1)) hx hb hK hP 2 rfl rfl g_5 (by have := g_5.2; omega) dX7_undo_48 ?_
      obtain ⟨g_6, h⟩ := gd_e h
      refine z_iast (n := 461) (f := c_s) (i := x1) (x := (c_past (((461 * c_pasts) + x1)).toNat)) (ws' := (zMo cI cZ h_M q_M (up c_s ((x1).toNat) (c_past (((461 * c_pasts) + x1)).toNat)) c_past c_kept c_isKept c_pasts c_text c_typed c_rect c_item c_items c_itemLevel c_treated c_from c_group c_turn c_size c_old c_aside c_begin c_level c_asides c_sorted c_spot c_rectangles c_parts c_visited)) hx hb hK hP hD hS 1 rfl rfl g_6 (by have := g_6.2; omega) dX7_undo_49 rfl (fun H locs hP hD hS => ?_)
      refine lv_iinc (v := Int32.ofInt (x1 + 1)) (lv' := [(1, vI (x1 + 1)), (0, .ref h_M)]) hx hb dX7_undo_50 hl (k := 1) rfl (z_inc _ _) (by decide) rfl (fun ls hl => ?_)
      refine lv_goto (tgt := 22) hx hb dX7_undo_53 (by decide) ?_
      exact ih ((x1 + 1)) ((up c_s ((x1).toNat) (c_past (((461 * c_pasts) + x1)).toNat))) H locs ls h hP hD hS (lv_sub hl [1, 0] rfl)
set_option maxHeartbeats 4000000 in
set_option maxRecDepth 100000 in
theorem c_Mo_undo (l : Launch) (D : va_G) (cI cZ cT : ClassId) (h_M : Nat) (q_M : Nat → Nat) (c_s : Nat → Int) (c_past : Nat → Int) (c_kept : Nat → Int) (c_isKept : Int) (c_pasts : Int) (c_text : Nat → Int) (c_typed : Int) (c_rect : Nat → Int) (c_item : Nat → Int) (c_items : Int) (c_itemLevel : Int) (c_treated : Nat → Int) (c_from : Nat → Int) (c_group : Nat → Int) (c_turn : Nat → Int) (c_size : Nat → Int) (c_old : Nat → Int) (c_aside : Nat → Int) (c_begin : Nat → Int) (c_level : Nat → Int) (c_asides : Int) (c_sorted : Nat → Int) (c_spot : Int) (c_rectangles : Int) (c_parts : Nat → Int) (c_visited : Nat → Int) (sz : Nat) (res : Int × (Nat → Int) × Int) (h : f_Mo_undo c_s c_past c_pasts = some res) : zMi l yX7_undo cX7_undo 2 rm_Mo_undo D (zt cI cZ cT) [.ref h_M] ((zMo cI cZ h_M q_M c_s c_past c_kept c_isKept c_pasts c_text c_typed c_rect c_item c_items c_itemLevel c_treated c_from c_group c_turn c_size c_old c_aside c_begin c_level c_asides c_sorted c_spot c_rectangles c_parts c_visited)) sz (res.1) (fun u => (zMo cI cZ h_M q_M (res.2.1) c_past c_kept c_isKept (res.2.2) c_text c_typed c_rect c_item c_items c_itemLevel c_treated c_from c_group c_turn c_size c_old c_aside c_begin c_level c_asides c_sorted c_spot c_rectangles c_parts c_visited)) 0 0 := by
  refine z_enth (Qc := zQi D (res.1) (fun u => (zMo cI cZ h_M q_M (res.2.1) c_past c_kept c_isKept (res.2.2) c_text c_typed c_rect c_item c_items c_itemLevel c_treated c_from c_group c_turn c_size c_old c_aside c_begin c_level c_asides c_sorted c_spot c_rectangles c_parts c_visited))) (by decide) (Nat.le_of_ble_eq_true rfl) (fun p e s m args below meth c A ls H locs hF hP hD hS hl => ?_)
  have hx := hF.1.1
  have hb := hF.1.2.1
  have hml := hF.1.2.2.1
  have hown : s.vm.findClass "RectangleTreeModel" = some m.cls := hF.1.2.2.2.1
  have hts := hF.1.2.2.2.2
  have hr := hF.2.1
  have hlk := hF.2.2.1
  have hK := hF.2.2.2.2.1
  have hN := hF.2.2.2.2.2.1
  have hA := hF.2.2.2.2.2.2
  unfold f_Mo_undo at h
  refine lv_aload_n hx hb dX7_undo_0 rfl (lv_at hl 0 rfl) ?_
  refine va_get (D := D) (ci := 7) (v := vI c_pasts) (C := RX7) (T := TX7) (N := 26) hx hb hts zin7 hown hK hP 0 rfl rfl 4 (by decide) (hts _ wm791) (fun _ h9 => h9) rfl dX7_undo_1 ?_
  obtain ⟨g_1, h⟩ := gd_e h
  refine z_if_ne (tgt := 10) hx hb g_1 dX7_undo_4 (by decide) (fun b_2 => ?_) (fun b_2 => ?_)
  · have h := it_n b_2 h
    refine lv_aload_n hx hb dX7_undo_10 rfl (lv_at hl 0 rfl) ?_
    refine lv_dup hx hb dX7_undo_11 rfl ?_
    refine va_get (D := D) (ci := 7) (v := vI c_pasts) (C := RX7) (T := TX7) (N := 26) hx hb hts zin7 hown hK hP 0 rfl rfl 4 (by decide) (hts _ wm791) (fun _ h9 => h9) rfl dX7_undo_12 ?_
    refine lv_iconst (v := Int32.ofInt 1) hx hb dX7_undo_15 rfl ?_
    refine z_isub hx hb dX7_undo_16 ?_
    refine va_put (D := D) (ci := 7) (v := vI (c_pasts - 1)) (ty := .int) (C := RX7) (T := TX7) (N := 26) hx hb hts zin7 tyX7 tyX7_ok nmX7 hown hK hP hD hS 0 rfl rfl 4 (by decide) (hts _ wm791) (fun _ h9 => h9) rfl (by decide +kernel) rfl rfl (Nat.le_of_ble_eq_true rfl) dX7_undo_17 (fun H locs hP hD hS => ?_)
    replace hP : va_P D vwCl ((zMo cI cZ h_M q_M c_s c_past c_kept c_isKept (c_pasts - 1) c_text c_typed c_rect c_item c_items c_itemLevel c_treated c_from c_group c_turn c_size c_old c_aside c_begin c_level c_asides c_sorted c_spot c_rectangles c_parts c_visited)) H := hP
    replace hD : va_D A ((zMo cI cZ h_M q_M c_s c_past c_kept c_isKept (c_pasts - 1) c_text c_typed c_rect c_item c_items c_itemLevel c_treated c_from c_group c_turn c_size c_old c_aside c_begin c_level c_asides c_sorted c_spot c_rectangles c_parts c_visited)) := hD
    refine lv_iconst (v := Int32.ofInt 0) hx hb dX7_undo_20 rfl ?_
    refine lv_istore_n (lv' := [(1, vI 0), (0, .ref h_M)]) hx hb dX7_undo_21 rfl hl (by decide) rfl (fun ls hl => ?_)
    refine w_Mo_undo_L22 D cI cZ cT (h_M) (q_M) (c_past) (c_kept) (c_isKept) ((c_pasts - 1)) (c_text) (c_typed) (c_rect) (c_item) (c_items) (c_itemLevel) (c_treated) (c_from) (c_group) (c_turn) (c_size) (c_old) (c_aside) (c_begin) (c_level) (c_asides) (c_sorted) (c_spot) (c_rectangles) (c_parts) (c_visited) _ _ hF (fun x1_7 c_s_8 H locs ls h hP hD hS hl => ?_) _ (0) (c_s) _ _ _ h hP hD hS (lv_sub hl [1, 0] rfl)
    refine lv_aload_n hx hb dX7_undo_56 rfl (lv_at hl 0 rfl) ?_
    refine va_get (D := D) (ci := 7) (v := vI (c_pasts - 1)) (C := RX7) (T := TX7) (N := 26) hx hb hts zin7 hown hK hP 0 rfl rfl 4 (by decide) (hts _ wm791) (fun _ h9 => h9) rfl dX7_undo_57 ?_
    obtain rfl := Option.some.inj h
    exact z_iret hx hb hr hlk (fun _ _ => 0) hP hD hS dX7_undo_60
  · have h := it_p b_2 h
    refine lv_bipush (v := Int32.ofInt (-5)) hx hb dX7_undo_7 (by decide +kernel) ?_
    obtain rfl := Option.some.inj h
    exact z_iret hx hb hr hlk (fun _ _ => 0) hP hD hS dX7_undo_9
def f_Mo_save_L7 (c_s : Nat → Int) (k : Int → (Nat → Int) → Option (Int × (Nat → Int) × Int)) : Nat → Int → (Nat → Int) → Option (Int × (Nat → Int) × Int)
  | 0, _, _ => none
  | n + 1, x1, c_kept =>
  gd (ck x1) <| if x1 < 461 then (gd (0 ≤ x1 ∧ x1 < ((461 : Nat) : Int)) <| f_Mo_save_L7 c_s k n ((x1 + 1)) ((up c_kept ((x1).toNat) (c_s (x1).toNat)))) else (k (x1) (c_kept))
def f_Mo_save (c_s : Nat → Int) (c_kept : Nat → Int) : Option (Int × (Nat → Int) × Int) :=
  f_Mo_save_L7 (c_s) (fun x1_4 c_kept_5 => bd1 (f_Mo_boxCount c_s) <| fun r_6 => some (r_6, c_kept_5, 1)) FU (0) (c_kept)
abbrev rm_Mo_save : Room := ({ frames := 3, cells := 0, slots := 0, locals := 65 } : Room)
set_option maxHeartbeats 4000000 in
set_option maxRecDepth 100000 in
theorem w_Mo_save_L7 {p : Program} {l : Launch} {e : Env} {s : State} {m : MethodId} {args : Array Value} {below : List Frame} {meth : Method} {c : Code} {A : Nat → Prop} (D : va_G) (cI cZ cT : ClassId) (h_M : Nat) (q_M : Nat → Nat) (c_s : Nat → Int) (c_past : Nat → Int) (c_isKept : Int) (c_pasts : Int) (c_text : Nat → Int) (c_typed : Int) (c_rect : Nat → Int) (c_item : Nat → Int) (c_items : Int) (c_itemLevel : Int) (c_treated : Nat → Int) (c_from : Nat → Int) (c_group : Nat → Int) (c_turn : Nat → Int) (c_size : Nat → Int) (c_old : Nat → Int) (c_aside : Nat → Int) (c_begin : Nat → Int) (c_level : Nat → Int) (c_asides : Int) (c_sorted : Nat → Int) (c_spot : Int) (c_rectangles : Int) (c_parts : Nat → Int) (c_visited : Nat → Int) (res : Int × (Nat → Int) × Int) (k : Int → (Nat → Int) → Option (Int × (Nat → Int) × Int)) (hF : zF p m c cX7_save 2 s args yX7_save.cls meth (some .int) yX7_save.name A D (zt cI cZ cT))
    (hk : ∀ (x1 : Int) (c_kept : Nat → Int) (H : Heap) (locs : List Loc) (ls : Array Slot), k x1 c_kept = some res → va_P D vwCl ((zMo cI cZ h_M q_M c_s c_past c_kept c_isKept c_pasts c_text c_typed c_rect c_item c_items c_itemLevel c_treated c_from c_group c_turn c_size c_old c_aside c_begin c_level c_asides c_sorted c_spot c_rectangles c_parts c_visited)) H → va_D A ((zMo cI cZ h_M q_M c_s c_past c_kept c_isKept c_pasts c_text c_typed c_rect c_item c_items c_itemLevel c_treated c_from c_group c_turn c_size c_old c_aside c_begin c_level c_asides c_sorted c_spot c_rectangles c_parts c_visited)) → va_S A s.heap H locs → lv_has ls 2 [(0, .ref h_M)] → W p l e rm_Mo_save s m args below meth c H locs 0 0 (MQ below (zQi D (res.1) (fun u => (zMo cI cZ h_M q_M c_s c_past (res.2.1) (res.2.2) c_pasts c_text c_typed c_rect c_item c_items c_itemLevel c_treated c_from c_group c_turn c_size c_old c_aside c_begin c_level c_asides c_sorted c_spot c_rectangles c_parts c_visited)) A) args s 0 0 A) (F0 m 32 ls [])) :
    ∀ (n : Nat) (x1 : Int) (c_kept : Nat → Int) (H : Heap) (locs : List Loc) (ls : Array Slot), f_Mo_save_L7 c_s k n x1 c_kept = some res → va_P D vwCl ((zMo cI cZ h_M q_M c_s c_past c_kept c_isKept c_pasts c_text c_typed c_rect c_item c_items c_itemLevel c_treated c_from c_group c_turn c_size c_old c_aside c_begin c_level c_asides c_sorted c_spot c_rectangles c_parts c_visited)) H → va_D A ((zMo cI cZ h_M q_M c_s c_past c_kept c_isKept c_pasts c_text c_typed c_rect c_item c_items c_itemLevel c_treated c_from c_group c_turn c_size c_old c_aside c_begin c_level c_asides c_sorted c_spot c_rectangles c_parts c_visited)) → va_S A s.heap H locs → lv_has ls 2 [(0, .ref h_M), (1, vI x1)] → W p l e rm_Mo_save s m args below meth c H locs 0 0 (MQ below (zQi D (res.1) (fun u => (zMo cI cZ h_M q_M c_s c_past (res.2.1) (res.2.2) c_pasts c_text c_typed c_rect c_item c_items c_itemLevel c_treated c_from c_group c_turn c_size c_old c_aside c_begin c_level c_asides c_sorted c_spot c_rectangles c_parts c_visited)) A) args s 0 0 A) (F0 m 7 ls []) := by
  have hx := hF.1.1
  have hb := hF.1.2.1
  have hml := hF.1.2.2.1
  have hown : s.vm.findClass "RectangleTreeModel" = some m.cls := hF.1.2.2.2.1
  have hts := hF.1.2.2.2.2
  have hr := hF.2.1
  have hlk := hF.2.2.1
  have hK := hF.2.2.2.2.1
  have hN := hF.2.2.2.2.2.1
  have hA := hF.2.2.2.2.2.2
  intro n
  induction n with
  | zero => intro x1 c_kept H locs ls h; cases h
  | succ n ih =>
    intro x1 c_kept H locs ls h hP hD hS hl
    rw [f_Mo_save_L7] at h
    refine lv_iload_n hx hb dX7_save_7 rfl (lv_at hl 1 rfl) ?_
    refine lv_sipush (v := Int32.ofInt 461) hx hb dX7_save_8 (by decide +kernel) ?_
    obtain ⟨g_1, h⟩ := gd_e h
    refine z_icmp_ge (tgt := 32) hx hb g_1 (by decide) dX7_save_11 (by decide) (fun b_2 => ?_) (fun b_2 => ?_)
    · have h := it_n b_2 h
      exact hk (x1) (c_kept) H locs ls h hP hD hS (lv_sub hl [0] rfl)
    · have h := it_p b_2 h
      refine lv_aload_n hx hb dX7_save_14 rfl (lv_at hl 0 rfl) ?_
      refine va_get (D := D) (ci := 7) (v := .ref (q_M 2)) (C := RX7) (T := TX7) (N := 26) hx hb hts zin7 hown hK hP 0 rfl rfl 2 (by decide) (hts _ wm789) (fun _ h9 => h9) rfl dX7_save_15 ?_
      refine lv_iload_n hx hb dX7_save_18 rfl (lv_at hl 1 rfl) ?_
      refine lv_aload_n hx hb dX7_save_19 rfl (lv_at hl 0 rfl) ?_
      refine va_get (D := D) (ci := 7) (v := .ref (q_M 0)) (C := RX7) (T := TX7) (N := 26) hx hb hts zin7 hown hK hP 0 rfl rfl 0 (by decide) (hts _ wm787) (fun _ h9 => h9) rfl dX7_save_20 ?_
      refine lv_iload_n hx hb dX7_save_23 rfl (lv_at hl 1 rfl) ?_
      obtain ⟨g_3, h⟩ := gd_e h
      refine z_iald (n := 461) (f := c_s) (i := x1) hx hb hK hP 1 rfl rfl g_3 (by have := g_3.2; omega) dX7_save_24 ?_
      refine z_iast (n := 461) (f := c_kept) (i := x1) (x := (c_s (x1).toNat)) (ws' := (zMo cI cZ h_M q_M c_s c_past (up c_kept ((x1).toNat) (c_s (x1).toNat)) c_isKept c_pasts c_text c_typed c_rect c_item c_items c_itemLevel c_treated c_from c_group c_turn c_size c_old c_aside c_begin c_level c_asides c_sorted c_spot c_rectangles c_parts c_visited)) hx hb hK hP hD hS 3 rfl rfl g_3 (by have := g_3.2; omega) dX7_save_25 rfl (fun H locs hP hD hS => ?_)
      refine lv_iinc (v := Int32.ofInt (x1 + 1)) (lv' := [(1, vI (x1 + 1)), (0, .ref h_M)]) hx hb dX7_save_26 hl (k := 1) rfl (z_inc _ _) (by decide) rfl (fun ls hl => ?_)
      refine lv_goto (tgt := 7) hx hb dX7_save_29 (by decide) ?_
      exact ih ((x1 + 1)) ((up c_kept ((x1).toNat) (c_s (x1).toNat))) H locs ls h hP hD hS (lv_sub hl [1, 0] rfl)
set_option maxHeartbeats 4000000 in
set_option maxRecDepth 100000 in
theorem c_Mo_save (l : Launch) (D : va_G) (cI cZ cT : ClassId) (h_M : Nat) (q_M : Nat → Nat) (c_s : Nat → Int) (c_past : Nat → Int) (c_kept : Nat → Int) (c_isKept : Int) (c_pasts : Int) (c_text : Nat → Int) (c_typed : Int) (c_rect : Nat → Int) (c_item : Nat → Int) (c_items : Int) (c_itemLevel : Int) (c_treated : Nat → Int) (c_from : Nat → Int) (c_group : Nat → Int) (c_turn : Nat → Int) (c_size : Nat → Int) (c_old : Nat → Int) (c_aside : Nat → Int) (c_begin : Nat → Int) (c_level : Nat → Int) (c_asides : Int) (c_sorted : Nat → Int) (c_spot : Int) (c_rectangles : Int) (c_parts : Nat → Int) (c_visited : Nat → Int) (sz : Nat) (res : Int × (Nat → Int) × Int) (h : f_Mo_save c_s c_kept = some res) : zMi l yX7_save cX7_save 2 rm_Mo_save D (zt cI cZ cT) [.ref h_M] ((zMo cI cZ h_M q_M c_s c_past c_kept c_isKept c_pasts c_text c_typed c_rect c_item c_items c_itemLevel c_treated c_from c_group c_turn c_size c_old c_aside c_begin c_level c_asides c_sorted c_spot c_rectangles c_parts c_visited)) sz (res.1) (fun u => (zMo cI cZ h_M q_M c_s c_past (res.2.1) (res.2.2) c_pasts c_text c_typed c_rect c_item c_items c_itemLevel c_treated c_from c_group c_turn c_size c_old c_aside c_begin c_level c_asides c_sorted c_spot c_rectangles c_parts c_visited)) 0 0 := by
  refine z_enth (Qc := zQi D (res.1) (fun u => (zMo cI cZ h_M q_M c_s c_past (res.2.1) (res.2.2) c_pasts c_text c_typed c_rect c_item c_items c_itemLevel c_treated c_from c_group c_turn c_size c_old c_aside c_begin c_level c_asides c_sorted c_spot c_rectangles c_parts c_visited))) (by decide) (Nat.le_of_ble_eq_true rfl) (fun p e s m args below meth c A ls H locs hF hP hD hS hl => ?_)
  have hx := hF.1.1
  have hb := hF.1.2.1
  have hml := hF.1.2.2.1
  have hown : s.vm.findClass "RectangleTreeModel" = some m.cls := hF.1.2.2.2.1
  have hts := hF.1.2.2.2.2
  have hr := hF.2.1
  have hlk := hF.2.2.1
  have hK := hF.2.2.2.2.1
  have hN := hF.2.2.2.2.2.1
  have hA := hF.2.2.2.2.2.2
  unfold f_Mo_save at h
  refine lv_aload_n hx hb dX7_save_0 rfl (lv_at hl 0 rfl) ?_
  refine lv_iconst (v := Int32.ofInt 1) hx hb dX7_save_1 rfl ?_
  refine va_put (D := D) (ci := 7) (v := vI 1) (ty := .boolean) (C := RX7) (T := TX7) (N := 26) hx hb hts zin7 tyX7 tyX7_ok nmX7 hown hK hP hD hS 0 rfl rfl 3 (by decide) (hts _ wm790) (fun _ h9 => h9) rfl (by decide +kernel) (by decide) (by decide) (Nat.le_of_ble_eq_true rfl) dX7_save_2 (fun H locs hP hD hS => ?_)
  replace hP : va_P D vwCl ((zMo cI cZ h_M q_M c_s c_past c_kept 1 c_pasts c_text c_typed c_rect c_item c_items c_itemLevel c_treated c_from c_group c_turn c_size c_old c_aside c_begin c_level c_asides c_sorted c_spot c_rectangles c_parts c_visited)) H := hP
  replace hD : va_D A ((zMo cI cZ h_M q_M c_s c_past c_kept 1 c_pasts c_text c_typed c_rect c_item c_items c_itemLevel c_treated c_from c_group c_turn c_size c_old c_aside c_begin c_level c_asides c_sorted c_spot c_rectangles c_parts c_visited)) := hD
  refine lv_iconst (v := Int32.ofInt 0) hx hb dX7_save_5 rfl ?_
  refine lv_istore_n (lv' := [(1, vI 0), (0, .ref h_M)]) hx hb dX7_save_6 rfl hl (by decide) rfl (fun ls hl => ?_)
  refine w_Mo_save_L7 D cI cZ cT (h_M) (q_M) (c_s) (c_past) (1) (c_pasts) (c_text) (c_typed) (c_rect) (c_item) (c_items) (c_itemLevel) (c_treated) (c_from) (c_group) (c_turn) (c_size) (c_old) (c_aside) (c_begin) (c_level) (c_asides) (c_sorted) (c_spot) (c_rectangles) (c_parts) (c_visited) _ _ hF (fun x1_4 c_kept_5 H locs ls h hP hD hS hl => ?_) _ (0) (c_kept) _ _ _ h hP hD hS (lv_sub hl [1, 0] rfl)
  refine lv_aload_n hx hb dX7_save_32 rfl (lv_at hl 0 rfl) ?_
  obtain ⟨r_6, e_7, h⟩ := bd1_e h
  refine z_goi (ws' := []) (ret := r_6) (wc := (zMo cI cZ (h_M) (q_M) (c_s) (c_past) (c_kept_5) (1) (c_pasts) (c_text) (c_typed) (c_rect) (c_item) (c_items) (c_itemLevel) (c_treated) (c_from) (c_group) (c_turn) (c_size) (c_old) (c_aside) (c_begin) (c_level) (c_asides) (c_sorted) (c_spot) (c_rectangles) (c_parts) (c_visited))) (wn := fun u_8 => (zMo cI cZ h_M q_M c_s c_past c_kept_5 1 c_pasts c_text c_typed c_rect c_item c_items c_itemLevel c_treated c_from c_group c_turn c_size c_old c_aside c_begin c_level c_asides c_sorted c_spot c_rectangles c_parts c_visited)) (wr := []) (va_runV (As := []) (rest := []) hF.1 (c_Mo_boxCount l D cI cZ cT h_M q_M c_s c_past c_kept_5 1 c_pasts c_text c_typed c_rect c_item c_items c_itemLevel c_treated c_from c_group c_turn c_size c_old c_aside c_begin c_level c_asides c_sorted c_spot c_rectangles c_parts c_visited H.size (r_6) e_7) (cwV 0 hts (zgV wm877 wm879 wm31 wm89 wm880) rfl rfl rfl (by decide +kernel) ⟨Nat.le_of_ble_eq_true rfl, Nat.le_of_ble_eq_true rfl⟩) ⟨zP.blind, va_recv hK (z_subP (ws' := (zMo cI cZ (h_M) (q_M) (c_s) (c_past) (c_kept_5) (1) (c_pasts) (c_text) (c_typed) (c_rect) (c_item) (c_items) (c_itemLevel) (c_treated) (c_from) (c_group) (c_turn) (c_size) (c_old) (c_aside) (c_begin) (c_level) (c_asides) (c_sorted) (c_spot) (c_rectangles) (c_parts) (c_visited))) hP [0, 1, 2, 3, 4, 5, 6, 7, 8, 9, 10, 11, 12, 13, 14, 15, 16, 17, 18] rfl) (ci := 7) (q0 := 0) rfl rfl, zP.enter (z_subP (ws' := (zMo cI cZ (h_M) (q_M) (c_s) (c_past) (c_kept_5) (1) (c_pasts) (c_text) (c_typed) (c_rect) (c_item) (c_items) (c_itemLevel) (c_treated) (c_from) (c_group) (c_turn) (c_size) (c_old) (c_aside) (c_begin) (c_level) (c_asides) (c_sorted) (c_spot) (c_rectangles) (c_parts) (c_visited))) hP [0, 1, 2, 3, 4, 5, 6, 7, 8, 9, 10, 11, 12, 13, 14, 15, 16, 17, 18] rfl) hK (hD.sub [0, 1, 2, 3, 4, 5, 6, 7, 8, 9, 10, 11, 12, 13, 14, 15, 16, 17, 18] (by decide) rfl) hN⟩ rfl rfl hl.1 rfl (lv_room (Nat.le_of_ble_eq_true rfl)) dX7_save_33 ⟨Nat.le_refl _, Nat.le_refl _⟩) hP hD hS hA [0, 1, 2, 3, 4, 5, 6, 7, 8, 9, 10, 11, 12, 13, 14, 15, 16, 17, 18] [] [0, 1, 2, 3, 4, 5, 6, 7, 8, 9, 10, 11, 12, 13, 14, 15, 16, 17, 18] rfl rfl (by decide) (fun _ => rfl) (fun u_8 H locs hP hD hS hz => ?_)
  obtain rfl := Option.some.inj h
  exact z_iret hx hb hr hlk (fun _ _ => 0) hP hD hS dX7_save_36
def f_Mo_restore_L16 (c_kept : Nat → Int) (k : Int → (Nat → Int) → Option (Int × (Nat → Int) × (Nat → Int) × Int)) : Nat → Int → (Nat → Int) → Option (Int × (Nat → Int) × (Nat → Int) × Int)
  | 0, _, _ => none
  | n + 1, x1, c_s =>
  gd (ck x1) <| if x1 < 461 then (gd (0 ≤ x1 ∧ x1 < ((461 : Nat) : Int)) <| f_Mo_restore_L16 c_kept k n ((x1 + 1)) ((up c_s ((x1).toNat) (c_kept (x1).toNat)))) else (k (x1) (c_s))
def f_Mo_restore (c_s : Nat → Int) (c_past : Nat → Int) (c_kept : Nat → Int) (c_isKept : Int) (c_pasts : Int) : Option (Int × (Nat → Int) × (Nat → Int) × Int) :=
  gd (ck c_isKept) <| if c_isKept = 0 then (some ((-4), c_s, c_past, c_pasts)) else (bd2 (f_Mo_records c_s c_past c_pasts) <| fun c_past_3 c_pasts_4 => f_Mo_restore_L16 (c_kept) (fun x1_10 c_s_11 => bd1 (f_Mo_boxCount c_s_11) <| fun r_12 => some (r_12, c_s_11, c_past_3, c_pasts_4)) FU (0) (c_s))
abbrev rm_Mo_restore : Room := ({ frames := 3, cells := 0, slots := 0, locals := 65 } : Room)
set_option maxHeartbeats 4000000 in
set_option maxRecDepth 100000 in
theorem w_Mo_restore_L16 {p : Program} {l : Launch} {e : Env} {s : State} {m : MethodId} {args : Array Value} {below : List Frame} {meth : Method} {c : Code} {A : Nat → Prop} (D : va_G) (cI cZ cT : ClassId) (h_M : Nat) (q_M : Nat → Nat) (c_past : Nat → Int) (c_kept : Nat → Int) (c_isKept : Int) (c_pasts : Int) (c_text : Nat → Int) (c_typed : Int) (c_rect : Nat → Int) (c_item : Nat → Int) (c_items : Int) (c_itemLevel : Int) (c_treated : Nat → Int) (c_from : Nat → Int) (c_group : Nat → Int) (c_turn : Nat → Int) (c_size : Nat → Int) (c_old : Nat → Int) (c_aside : Nat → Int) (c_begin : Nat → Int) (c_level : Nat → Int) (c_asides : Int) (c_sorted : Nat → Int) (c_spot : Int) (c_rectangles : Int) (c_parts : Nat → Int) (c_visited : Nat → Int) (res : Int × (Nat → Int) × (Nat → Int) × Int) (k : Int → (Nat → Int) → Option (Int × (Nat → Int) × (Nat → Int) × Int)) (hF : zF p m c cX7_restore 2 s args yX7_restore.cls meth (some .int) yX7_restore.name A D (zt cI cZ cT))
    (hk : ∀ (x1 : Int) (c_s : Nat → Int) (H : Heap) (locs : List Loc) (ls : Array Slot), k x1 c_s = some res → va_P D vwCl ((zMo cI cZ h_M q_M c_s c_past c_kept c_isKept c_pasts c_text c_typed c_rect c_item c_items c_itemLevel c_treated c_from c_group c_turn c_size c_old c_aside c_begin c_level c_asides c_sorted c_spot c_rectangles c_parts c_visited)) H → va_D A ((zMo cI cZ h_M q_M c_s c_past c_kept c_isKept c_pasts c_text c_typed c_rect c_item c_items c_itemLevel c_treated c_from c_group c_turn c_size c_old c_aside c_begin c_level c_asides c_sorted c_spot c_rectangles c_parts c_visited)) → va_S A s.heap H locs → lv_has ls 2 [(0, .ref h_M)] → W p l e rm_Mo_restore s m args below meth c H locs 0 0 (MQ below (zQi D (res.1) (fun u => (zMo cI cZ h_M q_M (res.2.1) (res.2.2.1) c_kept c_isKept (res.2.2.2) c_text c_typed c_rect c_item c_items c_itemLevel c_treated c_from c_group c_turn c_size c_old c_aside c_begin c_level c_asides c_sorted c_spot c_rectangles c_parts c_visited)) A) args s 0 0 A) (F0 m 41 ls [])) :
    ∀ (n : Nat) (x1 : Int) (c_s : Nat → Int) (H : Heap) (locs : List Loc) (ls : Array Slot), f_Mo_restore_L16 c_kept k n x1 c_s = some res → va_P D vwCl ((zMo cI cZ h_M q_M c_s c_past c_kept c_isKept c_pasts c_text c_typed c_rect c_item c_items c_itemLevel c_treated c_from c_group c_turn c_size c_old c_aside c_begin c_level c_asides c_sorted c_spot c_rectangles c_parts c_visited)) H → va_D A ((zMo cI cZ h_M q_M c_s c_past c_kept c_isKept c_pasts c_text c_typed c_rect c_item c_items c_itemLevel c_treated c_from c_group c_turn c_size c_old c_aside c_begin c_level c_asides c_sorted c_spot c_rectangles c_parts c_visited)) → va_S A s.heap H locs → lv_has ls 2 [(0, .ref h_M), (1, vI x1)] → W p l e rm_Mo_restore s m args below meth c H locs 0 0 (MQ below (zQi D (res.1) (fun u => (zMo cI cZ h_M q_M (res.2.1) (res.2.2.1) c_kept c_isKept (res.2.2.2) c_text c_typed c_rect c_item c_items c_itemLevel c_treated c_from c_group c_turn c_size c_old c_aside c_begin c_level c_asides c_sorted c_spot c_rectangles c_parts c_visited)) A) args s 0 0 A) (F0 m 16 ls []) := by
  have hx := hF.1.1
  have hb := hF.1.2.1
  have hml := hF.1.2.2.1
  have hown : s.vm.findClass "RectangleTreeModel" = some m.cls := hF.1.2.2.2.1
  have hts := hF.1.2.2.2.2
  have hr := hF.2.1
  have hlk := hF.2.2.1
  have hK := hF.2.2.2.2.1
  have hN := hF.2.2.2.2.2.1
  have hA := hF.2.2.2.2.2.2
  intro n
  induction n with
  | zero => intro x1 c_s H locs ls h; cases h
  | succ n ih =>
    intro x1 c_s H locs ls h hP hD hS hl
    rw [f_Mo_restore_L16] at h
    refine lv_iload_n hx hb dX7_restore_16 rfl (lv_at hl 1 rfl) ?_
    refine lv_sipush (v := Int32.ofInt 461) hx hb dX7_restore_17 (by decide +kernel) ?_
    obtain ⟨g_7, h⟩ := gd_e h
    refine z_icmp_ge (tgt := 41) hx hb g_7 (by decide) dX7_restore_20 (by decide) (fun b_8 => ?_) (fun b_8 => ?_)
    · have h := it_n b_8 h
      exact hk (x1) (c_s) H locs ls h hP hD hS (lv_sub hl [0] rfl)
    · have h := it_p b_8 h
      refine lv_aload_n hx hb dX7_restore_23 rfl (lv_at hl 0 rfl) ?_
      refine va_get (D := D) (ci := 7) (v := .ref (q_M 0)) (C := RX7) (T := TX7) (N := 26) hx hb hts zin7 hown hK hP 0 rfl rfl 0 (by decide) (hts _ wm787) (fun _ h9 => h9) rfl dX7_restore_24 ?_
      refine lv_iload_n hx hb dX7_restore_27 rfl (lv_at hl 1 rfl) ?_
      refine lv_aload_n hx hb dX7_restore_28 rfl (lv_at hl 0 rfl) ?_
      refine va_get (D := D) (ci := 7) (v := .ref (q_M 2)) (C := RX7) (T := TX7) (N := 26) hx hb hts zin7 hown hK hP 0 rfl rfl 2 (by decide) (hts _ wm789) (fun _ h9 => h9) rfl dX7_restore_29 ?_
      refine lv_iload_n hx hb dX7_restore_32 rfl (lv_at hl 1 rfl) ?_
      obtain ⟨g_9, h⟩ := gd_e h
      refine z_iald (n := 461) (f := c_kept) (i := x1) hx hb hK hP 3 rfl rfl g_9 (by have := g_9.2; omega) dX7_restore_33 ?_
      refine z_iast (n := 461) (f := c_s) (i := x1) (x := (c_kept (x1).toNat)) (ws' := (zMo cI cZ h_M q_M (up c_s ((x1).toNat) (c_kept (x1).toNat)) c_past c_kept c_isKept c_pasts c_text c_typed c_rect c_item c_items c_itemLevel c_treated c_from c_group c_turn c_size c_old c_aside c_begin c_level c_asides c_sorted c_spot c_rectangles c_parts c_visited)) hx hb hK hP hD hS 1 rfl rfl g_9 (by have := g_9.2; omega) dX7_restore_34 rfl (fun H locs hP hD hS => ?_)
      refine lv_iinc (v := Int32.ofInt (x1 + 1)) (lv' := [(1, vI (x1 + 1)), (0, .ref h_M)]) hx hb dX7_restore_35 hl (k := 1) rfl (z_inc _ _) (by decide) rfl (fun ls hl => ?_)
      refine lv_goto (tgt := 16) hx hb dX7_restore_38 (by decide) ?_
      exact ih ((x1 + 1)) ((up c_s ((x1).toNat) (c_kept (x1).toNat))) H locs ls h hP hD hS (lv_sub hl [1, 0] rfl)
set_option maxHeartbeats 4000000 in
set_option maxRecDepth 100000 in
theorem c_Mo_restore (l : Launch) (D : va_G) (cI cZ cT : ClassId) (h_M : Nat) (q_M : Nat → Nat) (c_s : Nat → Int) (c_past : Nat → Int) (c_kept : Nat → Int) (c_isKept : Int) (c_pasts : Int) (c_text : Nat → Int) (c_typed : Int) (c_rect : Nat → Int) (c_item : Nat → Int) (c_items : Int) (c_itemLevel : Int) (c_treated : Nat → Int) (c_from : Nat → Int) (c_group : Nat → Int) (c_turn : Nat → Int) (c_size : Nat → Int) (c_old : Nat → Int) (c_aside : Nat → Int) (c_begin : Nat → Int) (c_level : Nat → Int) (c_asides : Int) (c_sorted : Nat → Int) (c_spot : Int) (c_rectangles : Int) (c_parts : Nat → Int) (c_visited : Nat → Int) (sz : Nat) (res : Int × (Nat → Int) × (Nat → Int) × Int) (h : f_Mo_restore c_s c_past c_kept c_isKept c_pasts = some res) : zMi l yX7_restore cX7_restore 2 rm_Mo_restore D (zt cI cZ cT) [.ref h_M] ((zMo cI cZ h_M q_M c_s c_past c_kept c_isKept c_pasts c_text c_typed c_rect c_item c_items c_itemLevel c_treated c_from c_group c_turn c_size c_old c_aside c_begin c_level c_asides c_sorted c_spot c_rectangles c_parts c_visited)) sz (res.1) (fun u => (zMo cI cZ h_M q_M (res.2.1) (res.2.2.1) c_kept c_isKept (res.2.2.2) c_text c_typed c_rect c_item c_items c_itemLevel c_treated c_from c_group c_turn c_size c_old c_aside c_begin c_level c_asides c_sorted c_spot c_rectangles c_parts c_visited)) 0 0 := by
  refine z_enth (Qc := zQi D (res.1) (fun u => (zMo cI cZ h_M q_M (res.2.1) (res.2.2.1) c_kept c_isKept (res.2.2.2) c_text c_typed c_rect c_item c_items c_itemLevel c_treated c_from c_group c_turn c_size c_old c_aside c_begin c_level c_asides c_sorted c_spot c_rectangles c_parts c_visited))) (by decide) (Nat.le_of_ble_eq_true rfl) (fun p e s m args below meth c A ls H locs hF hP hD hS hl => ?_)
  have hx := hF.1.1
  have hb := hF.1.2.1
  have hml := hF.1.2.2.1
  have hown : s.vm.findClass "RectangleTreeModel" = some m.cls := hF.1.2.2.2.1
  have hts := hF.1.2.2.2.2
  have hr := hF.2.1
  have hlk := hF.2.2.1
  have hK := hF.2.2.2.2.1
  have hN := hF.2.2.2.2.2.1
  have hA := hF.2.2.2.2.2.2
  unfold f_Mo_restore at h
  refine lv_aload_n hx hb dX7_restore_0 rfl (lv_at hl 0 rfl) ?_
  refine va_get (D := D) (ci := 7) (v := vI c_isKept) (C := RX7) (T := TX7) (N := 26) hx hb hts zin7 hown hK hP 0 rfl rfl 3 (by decide) (hts _ wm790) (fun _ h9 => h9) rfl dX7_restore_1 ?_
  obtain ⟨g_1, h⟩ := gd_e h
  refine z_if_ne (tgt := 10) hx hb g_1 dX7_restore_4 (by decide) (fun b_2 => ?_) (fun b_2 => ?_)
  · have h := it_n b_2 h
    refine lv_aload_n hx hb dX7_restore_10 rfl (lv_at hl 0 rfl) ?_
    obtain ⟨c_past_3, c_pasts_4, e_5, h⟩ := bd2_e h
    refine z_gov (wc := (zMo cI cZ (h_M) (q_M) (c_s) (c_past) (c_kept) (c_isKept) (c_pasts) (c_text) (c_typed) (c_rect) (c_item) (c_items) (c_itemLevel) (c_treated) (c_from) (c_group) (c_turn) (c_size) (c_old) (c_aside) (c_begin) (c_level) (c_asides) (c_sorted) (c_spot) (c_rectangles) (c_parts) (c_visited))) (wn := fun u_6 => (zMo cI cZ h_M q_M c_s c_past_3 c_kept c_isKept c_pasts_4 c_text c_typed c_rect c_item c_items c_itemLevel c_treated c_from c_group c_turn c_size c_old c_aside c_begin c_level c_asides c_sorted c_spot c_rectangles c_parts c_visited)) (wr := []) (va_runV (As := []) (rest := []) hF.1 (c_Mo_records l D cI cZ cT h_M q_M c_s c_past c_kept c_isKept c_pasts c_text c_typed c_rect c_item c_items c_itemLevel c_treated c_from c_group c_turn c_size c_old c_aside c_begin c_level c_asides c_sorted c_spot c_rectangles c_parts c_visited H.size (c_past_3, c_pasts_4) e_5) (cwV 0 hts (zgV wm885 wm887 wm33 wm89 wm888) rfl rfl rfl (by decide +kernel) ⟨Nat.le_of_ble_eq_true rfl, Nat.le_of_ble_eq_true rfl⟩) ⟨zP.blind, va_recv hK (z_subP (ws' := (zMo cI cZ (h_M) (q_M) (c_s) (c_past) (c_kept) (c_isKept) (c_pasts) (c_text) (c_typed) (c_rect) (c_item) (c_items) (c_itemLevel) (c_treated) (c_from) (c_group) (c_turn) (c_size) (c_old) (c_aside) (c_begin) (c_level) (c_asides) (c_sorted) (c_spot) (c_rectangles) (c_parts) (c_visited))) hP [0, 1, 2, 3, 4, 5, 6, 7, 8, 9, 10, 11, 12, 13, 14, 15, 16, 17, 18] rfl) (ci := 7) (q0 := 0) rfl rfl, zP.enter (z_subP (ws' := (zMo cI cZ (h_M) (q_M) (c_s) (c_past) (c_kept) (c_isKept) (c_pasts) (c_text) (c_typed) (c_rect) (c_item) (c_items) (c_itemLevel) (c_treated) (c_from) (c_group) (c_turn) (c_size) (c_old) (c_aside) (c_begin) (c_level) (c_asides) (c_sorted) (c_spot) (c_rectangles) (c_parts) (c_visited))) hP [0, 1, 2, 3, 4, 5, 6, 7, 8, 9, 10, 11, 12, 13, 14, 15, 16, 17, 18] rfl) hK (hD.sub [0, 1, 2, 3, 4, 5, 6, 7, 8, 9, 10, 11, 12, 13, 14, 15, 16, 17, 18] (by decide) rfl) hN⟩ rfl rfl hl.1 rfl (lv_room (Nat.le_of_ble_eq_true rfl)) dX7_restore_11 ⟨Nat.le_refl _, Nat.le_refl _⟩) hP hD hS hA [0, 1, 2, 3, 4, 5, 6, 7, 8, 9, 10, 11, 12, 13, 14, 15, 16, 17, 18] [] [0, 1, 2, 3, 4, 5, 6, 7, 8, 9, 10, 11, 12, 13, 14, 15, 16, 17, 18] rfl rfl (by decide) (fun _ => rfl) (fun u_6 H locs hP hD hS hz => ?_)
    refine lv_iconst (v := Int32.ofInt 0) hx hb dX7_restore_14 rfl ?_
    refine lv_istore_n (lv' := [(1, vI 0), (0, .ref h_M)]) hx hb dX7_restore_15 rfl hl (by decide) rfl (fun ls hl => ?_)
    refine w_Mo_restore_L16 D cI cZ cT (h_M) (q_M) (c_past_3) (c_kept) (c_isKept) (c_pasts_4) (c_text) (c_typed) (c_rect) (c_item) (c_items) (c_itemLevel) (c_treated) (c_from) (c_group) (c_turn) (c_size) (c_old) (c_aside) (c_begin) (c_level) (c_asides) (c_sorted) (c_spot) (c_rectangles) (c_parts) (c_visited) _ _ hF (fun x1_10 c_s_11 H locs ls h hP hD hS hl => ?_) _ (0) (c_s) _ _ _ h hP hD hS (lv_sub hl [1, 0] rfl)
    refine lv_aload_n hx hb dX7_restore_41 rfl (lv_at hl 0 rfl) ?_
    obtain ⟨r_12, e_13, h⟩ := bd1_e h
    refine z_goi (ws' := []) (ret := r_12) (wc := (zMo cI cZ (h_M) (q_M) (c_s_11) (c_past_3) (c_kept) (c_isKept) (c_pasts_4) (c_text) (c_typed) (c_rect) (c_item) (c_items) (c_itemLevel) (c_treated) (c_from) (c_group) (c_turn) (c_size) (c_old) (c_aside) (c_begin) (c_level) (c_asides) (c_sorted) (c_spot) (c_rectangles) (c_parts) (c_visited))) (wn := fun u_14 => (zMo cI cZ h_M q_M c_s_11 c_past_3 c_kept c_isKept c_pasts_4 c_text c_typed c_rect c_item c_items c_itemLevel c_treated c_from c_group c_turn c_size c_old c_aside c_begin c_level c_asides c_sorted c_spot c_rectangles c_parts c_visited)) (wr := []) (va_runV (As := []) (rest := []) hF.1 (c_Mo_boxCount l D cI cZ cT h_M q_M c_s_11 c_past_3 c_kept c_isKept c_pasts_4 c_text c_typed c_rect c_item c_items c_itemLevel c_treated c_from c_group c_turn c_size c_old c_aside c_begin c_level c_asides c_sorted c_spot c_rectangles c_parts c_visited H.size (r_12) e_13) (cwV 0 hts (zgV wm877 wm879 wm31 wm89 wm880) rfl rfl rfl (by decide +kernel) ⟨Nat.le_of_ble_eq_true rfl, Nat.le_of_ble_eq_true rfl⟩) ⟨zP.blind, va_recv hK (z_subP (ws' := (zMo cI cZ (h_M) (q_M) (c_s_11) (c_past_3) (c_kept) (c_isKept) (c_pasts_4) (c_text) (c_typed) (c_rect) (c_item) (c_items) (c_itemLevel) (c_treated) (c_from) (c_group) (c_turn) (c_size) (c_old) (c_aside) (c_begin) (c_level) (c_asides) (c_sorted) (c_spot) (c_rectangles) (c_parts) (c_visited))) hP [0, 1, 2, 3, 4, 5, 6, 7, 8, 9, 10, 11, 12, 13, 14, 15, 16, 17, 18] rfl) (ci := 7) (q0 := 0) rfl rfl, zP.enter (z_subP (ws' := (zMo cI cZ (h_M) (q_M) (c_s_11) (c_past_3) (c_kept) (c_isKept) (c_pasts_4) (c_text) (c_typed) (c_rect) (c_item) (c_items) (c_itemLevel) (c_treated) (c_from) (c_group) (c_turn) (c_size) (c_old) (c_aside) (c_begin) (c_level) (c_asides) (c_sorted) (c_spot) (c_rectangles) (c_parts) (c_visited))) hP [0, 1, 2, 3, 4, 5, 6, 7, 8, 9, 10, 11, 12, 13, 14, 15, 16, 17, 18] rfl) hK (hD.sub [0, 1, 2, 3, 4, 5, 6, 7, 8, 9, 10, 11, 12, 13, 14, 15, 16, 17, 18] (by decide) rfl) hN⟩ rfl rfl hl.1 rfl (lv_room (Nat.le_of_ble_eq_true rfl)) dX7_restore_42 ⟨Nat.le_refl _, Nat.le_refl _⟩) hP hD hS hA [0, 1, 2, 3, 4, 5, 6, 7, 8, 9, 10, 11, 12, 13, 14, 15, 16, 17, 18] [] [0, 1, 2, 3, 4, 5, 6, 7, 8, 9, 10, 11, 12, 13, 14, 15, 16, 17, 18] rfl rfl (by decide) (fun _ => rfl) (fun u_14 H locs hP hD hS hz => ?_)
    obtain rfl := Option.some.inj h
    exact z_iret hx hb hr hlk (fun _ _ => 0) hP hD hS dX7_restore_45
  · have h := it_p b_2 h
    refine lv_bipush (v := Int32.ofInt (-4)) hx hb dX7_restore_7 (by decide +kernel) ?_
    obtain rfl := Option.some.inj h
    exact z_iret hx hb hr hlk (fun _ _ => 0) hP hD hS dX7_restore_9
def f_Mo_boxes_L4 (c_s : Nat → Int) (k : Int → Int → Option (Int)) : Nat → Int → Int → Option (Int)
  | 0, _, _ => none
  | n + 1, x1, x2 =>
  gd (ck x2) <| if x2 < 24 then (bd1 (f_Mo_isBox c_s x2) <| fun r_3 => gd (ck r_3) <| if r_3 = 0 then (f_Mo_boxes_L4 c_s k n ((iOr x1 0)) ((x2 + 1))) else (f_Mo_boxes_L4 c_s k n ((iOr x1 (iShl 1 x2))) ((x2 + 1)))) else (k (x1) (x2))
def f_Mo_boxes (c_s : Nat → Int) : Option (Int) :=
  f_Mo_boxes_L4 (c_s) (fun x1_8 x2_9 => some (x1_8)) FU (0) (0)
abbrev rm_Mo_boxes : Room := ({ frames := 2, cells := 0, slots := 0, locals := 43 } : Room)
set_option maxHeartbeats 4000000 in
set_option maxRecDepth 100000 in
theorem w_Mo_boxes_L4 {p : Program} {l : Launch} {e : Env} {s : State} {m : MethodId} {args : Array Value} {below : List Frame} {meth : Method} {c : Code} {A : Nat → Prop} (D : va_G) (cI cZ cT : ClassId) (h_M : Nat) (q_M : Nat → Nat) (c_s : Nat → Int) (c_past : Nat → Int) (c_kept : Nat → Int) (c_isKept : Int) (c_pasts : Int) (c_text : Nat → Int) (c_typed : Int) (c_rect : Nat → Int) (c_item : Nat → Int) (c_items : Int) (c_itemLevel : Int) (c_treated : Nat → Int) (c_from : Nat → Int) (c_group : Nat → Int) (c_turn : Nat → Int) (c_size : Nat → Int) (c_old : Nat → Int) (c_aside : Nat → Int) (c_begin : Nat → Int) (c_level : Nat → Int) (c_asides : Int) (c_sorted : Nat → Int) (c_spot : Int) (c_rectangles : Int) (c_parts : Nat → Int) (c_visited : Nat → Int) (res : Int) (k : Int → Int → Option (Int)) (hF : zF p m c cX7_boxes 3 s args yX7_boxes.cls meth (some .int) yX7_boxes.name A D (zt cI cZ cT))
    (hk : ∀ (x1 : Int) (x2 : Int) (H : Heap) (locs : List Loc) (ls : Array Slot), k x1 x2 = some res → va_P D vwCl ((zMo cI cZ h_M q_M c_s c_past c_kept c_isKept c_pasts c_text c_typed c_rect c_item c_items c_itemLevel c_treated c_from c_group c_turn c_size c_old c_aside c_begin c_level c_asides c_sorted c_spot c_rectangles c_parts c_visited)) H → va_D A ((zMo cI cZ h_M q_M c_s c_past c_kept c_isKept c_pasts c_text c_typed c_rect c_item c_items c_itemLevel c_treated c_from c_group c_turn c_size c_old c_aside c_begin c_level c_asides c_sorted c_spot c_rectangles c_parts c_visited)) → va_S A s.heap H locs → lv_has ls 3 [(1, vI x1)] → W p l e rm_Mo_boxes s m args below meth c H locs 0 0 (MQ below (zQi D (res) (fun u => (zMo cI cZ h_M q_M c_s c_past c_kept c_isKept c_pasts c_text c_typed c_rect c_item c_items c_itemLevel c_treated c_from c_group c_turn c_size c_old c_aside c_begin c_level c_asides c_sorted c_spot c_rectangles c_parts c_visited)) A) args s 0 0 A) (F0 m 34 ls [])) :
    ∀ (n : Nat) (x1 : Int) (x2 : Int) (H : Heap) (locs : List Loc) (ls : Array Slot), f_Mo_boxes_L4 c_s k n x1 x2 = some res → va_P D vwCl ((zMo cI cZ h_M q_M c_s c_past c_kept c_isKept c_pasts c_text c_typed c_rect c_item c_items c_itemLevel c_treated c_from c_group c_turn c_size c_old c_aside c_begin c_level c_asides c_sorted c_spot c_rectangles c_parts c_visited)) H → va_D A ((zMo cI cZ h_M q_M c_s c_past c_kept c_isKept c_pasts c_text c_typed c_rect c_item c_items c_itemLevel c_treated c_from c_group c_turn c_size c_old c_aside c_begin c_level c_asides c_sorted c_spot c_rectangles c_parts c_visited)) → va_S A s.heap H locs → lv_has ls 3 [(0, .ref h_M), (1, vI x1), (2, vI x2)] → W p l e rm_Mo_boxes s m args below meth c H locs 0 0 (MQ below (zQi D (res) (fun u => (zMo cI cZ h_M q_M c_s c_past c_kept c_isKept c_pasts c_text c_typed c_rect c_item c_items c_itemLevel c_treated c_from c_group c_turn c_size c_old c_aside c_begin c_level c_asides c_sorted c_spot c_rectangles c_parts c_visited)) A) args s 0 0 A) (F0 m 4 ls []) := by
  have hx := hF.1.1
  have hb := hF.1.2.1
  have hml := hF.1.2.2.1
  have hown : s.vm.findClass "RectangleTreeModel" = some m.cls := hF.1.2.2.2.1
  have hts := hF.1.2.2.2.2
  have hr := hF.2.1
  have hlk := hF.2.2.1
  have hK := hF.2.2.2.2.1
  have hN := hF.2.2.2.2.2.1
  have hA := hF.2.2.2.2.2.2
  intro n
  induction n with
  | zero => intro x1 x2 H locs ls h; cases h
  | succ n ih =>
    intro x1 x2 H locs ls h hP hD hS hl
    rw [f_Mo_boxes_L4] at h
    refine lv_iload_n hx hb dX7_boxes_4 rfl (lv_at hl 2 rfl) ?_
    refine lv_bipush (v := Int32.ofInt 24) hx hb dX7_boxes_5 (by decide +kernel) ?_
    obtain ⟨g_1, h⟩ := gd_e h
    refine z_icmp_ge (tgt := 34) hx hb g_1 (by decide) dX7_boxes_7 (by decide) (fun b_2 => ?_) (fun b_2 => ?_)
    · have h := it_n b_2 h
      exact hk (x1) (x2) H locs ls h hP hD hS (lv_sub hl [1] rfl)
    · have h := it_p b_2 h
      refine lv_iload_n hx hb dX7_boxes_10 rfl (lv_at hl 1 rfl) ?_
      refine lv_aload_n hx hb dX7_boxes_11 rfl (lv_at hl 0 rfl) ?_
      refine lv_iload_n hx hb dX7_boxes_12 rfl (lv_at hl 2 rfl) ?_
      obtain ⟨r_3, e_4, h⟩ := bd1_e h
      refine z_goi (ws' := []) (ret := r_3) (wc := (zMo cI cZ (h_M) (q_M) (c_s) (c_past) (c_kept) (c_isKept) (c_pasts) (c_text) (c_typed) (c_rect) (c_item) (c_items) (c_itemLevel) (c_treated) (c_from) (c_group) (c_turn) (c_size) (c_old) (c_aside) (c_begin) (c_level) (c_asides) (c_sorted) (c_spot) (c_rectangles) (c_parts) (c_visited))) (wn := fun u_5 => (zMo cI cZ h_M q_M c_s c_past c_kept c_isKept c_pasts c_text c_typed c_rect c_item c_items c_itemLevel c_treated c_from c_group c_turn c_size c_old c_aside c_begin c_level c_asides c_sorted c_spot c_rectangles c_parts c_visited)) (wr := []) (va_runV (As := [vI x2]) (rest := [vI x1]) hF.1 (c_Mo_isBox l D cI cZ cT h_M q_M c_s c_past c_kept c_isKept c_pasts c_text c_typed c_rect c_item c_items c_itemLevel c_treated c_from c_group c_turn c_size c_old c_aside c_begin c_level c_asides c_sorted c_spot c_rectangles c_parts c_visited x2 H.size (r_3) e_4) (cwV 1 hts (zgV wm881 wm883 wm32 wm89 wm884) rfl rfl rfl (by decide +kernel) ⟨Nat.le_of_ble_eq_true rfl, Nat.le_of_ble_eq_true rfl⟩) ⟨zP.blind, va_recv hK (z_subP (ws' := (zMo cI cZ (h_M) (q_M) (c_s) (c_past) (c_kept) (c_isKept) (c_pasts) (c_text) (c_typed) (c_rect) (c_item) (c_items) (c_itemLevel) (c_treated) (c_from) (c_group) (c_turn) (c_size) (c_old) (c_aside) (c_begin) (c_level) (c_asides) (c_sorted) (c_spot) (c_rectangles) (c_parts) (c_visited))) hP [0, 1, 2, 3, 4, 5, 6, 7, 8, 9, 10, 11, 12, 13, 14, 15, 16, 17, 18] rfl) (ci := 7) (q0 := 0) rfl rfl, zP.enter (z_subP (ws' := (zMo cI cZ (h_M) (q_M) (c_s) (c_past) (c_kept) (c_isKept) (c_pasts) (c_text) (c_typed) (c_rect) (c_item) (c_items) (c_itemLevel) (c_treated) (c_from) (c_group) (c_turn) (c_size) (c_old) (c_aside) (c_begin) (c_level) (c_asides) (c_sorted) (c_spot) (c_rectangles) (c_parts) (c_visited))) hP [0, 1, 2, 3, 4, 5, 6, 7, 8, 9, 10, 11, 12, 13, 14, 15, 16, 17, 18] rfl) hK (hD.sub [0, 1, 2, 3, 4, 5, 6, 7, 8, 9, 10, 11, 12, 13, 14, 15, 16, 17, 18] (by decide) rfl) hN⟩ rfl rfl hl.1 rfl (lv_room (Nat.le_of_ble_eq_true rfl)) dX7_boxes_13 ⟨Nat.le_refl _, Nat.le_refl _⟩) hP hD hS hA [0, 1, 2, 3, 4, 5, 6, 7, 8, 9, 10, 11, 12, 13, 14, 15, 16, 17, 18] [] [0, 1, 2, 3, 4, 5, 6, 7, 8, 9, 10, 11, 12, 13, 14, 15, 16, 17, 18] rfl rfl (by decide) (fun _ => rfl) (fun u_5 H locs hP hD hS hz => ?_)
      obtain ⟨g_6, h⟩ := gd_e h
      refine z_if_eq (tgt := 25) hx hb g_6 dX7_boxes_16 (by decide) (fun b_7 => ?_) (fun b_7 => ?_)
      · have h := it_p b_7 h
        refine lv_iconst (v := Int32.ofInt 0) hx hb dX7_boxes_25 rfl ?_
        refine z_ior hx hb dX7_boxes_26 ?_
        refine lv_istore_n (lv' := [(1, vI (iOr x1 0)), (0, .ref h_M), (2, vI x2)]) hx hb dX7_boxes_27 rfl hl (by decide) rfl (fun ls hl => ?_)
        refine lv_iinc (v := Int32.ofInt (x2 + 1)) (lv' := [(2, vI (x2 + 1)), (1, vI (iOr x1 0)), (0, .ref h_M)]) hx hb dX7_boxes_28 hl (k := 2) rfl (z_inc _ _) (by decide) rfl (fun ls hl => ?_)
        refine lv_goto (tgt := 4) hx hb dX7_boxes_31 (by decide) ?_
        exact ih ((iOr x1 0)) ((x2 + 1)) H locs ls h hP hD hS (lv_sub hl [2, 1, 0] rfl)
      · have h := it_n b_7 h
        refine lv_iconst (v := Int32.ofInt 1) hx hb dX7_boxes_19 rfl ?_
        refine lv_iload_n hx hb dX7_boxes_20 rfl (lv_at hl 2 rfl) ?_
        refine z_ishl hx hb dX7_boxes_21 ?_
        refine lv_goto (tgt := 26) hx hb dX7_boxes_22 (by decide) ?_
        refine z_ior hx hb dX7_boxes_26 ?_
        refine lv_istore_n (lv' := [(1, vI (iOr x1 (iShl 1 x2))), (0, .ref h_M), (2, vI x2)]) hx hb dX7_boxes_27 rfl hl (by decide) rfl (fun ls hl => ?_)
        refine lv_iinc (v := Int32.ofInt (x2 + 1)) (lv' := [(2, vI (x2 + 1)), (1, vI (iOr x1 (iShl 1 x2))), (0, .ref h_M)]) hx hb dX7_boxes_28 hl (k := 2) rfl (z_inc _ _) (by decide) rfl (fun ls hl => ?_)
        refine lv_goto (tgt := 4) hx hb dX7_boxes_31 (by decide) ?_
        exact ih ((iOr x1 (iShl 1 x2))) ((x2 + 1)) H locs ls h hP hD hS (lv_sub hl [2, 1, 0] rfl)
set_option maxHeartbeats 4000000 in
set_option maxRecDepth 100000 in
theorem c_Mo_boxes (l : Launch) (D : va_G) (cI cZ cT : ClassId) (h_M : Nat) (q_M : Nat → Nat) (c_s : Nat → Int) (c_past : Nat → Int) (c_kept : Nat → Int) (c_isKept : Int) (c_pasts : Int) (c_text : Nat → Int) (c_typed : Int) (c_rect : Nat → Int) (c_item : Nat → Int) (c_items : Int) (c_itemLevel : Int) (c_treated : Nat → Int) (c_from : Nat → Int) (c_group : Nat → Int) (c_turn : Nat → Int) (c_size : Nat → Int) (c_old : Nat → Int) (c_aside : Nat → Int) (c_begin : Nat → Int) (c_level : Nat → Int) (c_asides : Int) (c_sorted : Nat → Int) (c_spot : Int) (c_rectangles : Int) (c_parts : Nat → Int) (c_visited : Nat → Int) (sz : Nat) (res : Int) (h : f_Mo_boxes c_s = some res) : zMi l yX7_boxes cX7_boxes 3 rm_Mo_boxes D (zt cI cZ cT) [.ref h_M] ((zMo cI cZ h_M q_M c_s c_past c_kept c_isKept c_pasts c_text c_typed c_rect c_item c_items c_itemLevel c_treated c_from c_group c_turn c_size c_old c_aside c_begin c_level c_asides c_sorted c_spot c_rectangles c_parts c_visited)) sz (res) (fun u => (zMo cI cZ h_M q_M c_s c_past c_kept c_isKept c_pasts c_text c_typed c_rect c_item c_items c_itemLevel c_treated c_from c_group c_turn c_size c_old c_aside c_begin c_level c_asides c_sorted c_spot c_rectangles c_parts c_visited)) 0 0 := by
  refine z_enth (Qc := zQi D (res) (fun u => (zMo cI cZ h_M q_M c_s c_past c_kept c_isKept c_pasts c_text c_typed c_rect c_item c_items c_itemLevel c_treated c_from c_group c_turn c_size c_old c_aside c_begin c_level c_asides c_sorted c_spot c_rectangles c_parts c_visited))) (by decide) (Nat.le_of_ble_eq_true rfl) (fun p e s m args below meth c A ls H locs hF hP hD hS hl => ?_)
  have hx := hF.1.1
  have hb := hF.1.2.1
  have hml := hF.1.2.2.1
  have hown : s.vm.findClass "RectangleTreeModel" = some m.cls := hF.1.2.2.2.1
  have hts := hF.1.2.2.2.2
  have hr := hF.2.1
  have hlk := hF.2.2.1
  have hK := hF.2.2.2.2.1
  have hN := hF.2.2.2.2.2.1
  have hA := hF.2.2.2.2.2.2
  unfold f_Mo_boxes at h
  refine lv_iconst (v := Int32.ofInt 0) hx hb dX7_boxes_0 rfl ?_
  refine lv_istore_n (lv' := [(1, vI 0), (0, .ref h_M)]) hx hb dX7_boxes_1 rfl hl (by decide) rfl (fun ls hl => ?_)
  refine lv_iconst (v := Int32.ofInt 0) hx hb dX7_boxes_2 rfl ?_
  refine lv_istore_n (lv' := [(2, vI 0), (1, vI 0), (0, .ref h_M)]) hx hb dX7_boxes_3 rfl hl (by decide) rfl (fun ls hl => ?_)
  refine w_Mo_boxes_L4 D cI cZ cT (h_M) (q_M) (c_s) (c_past) (c_kept) (c_isKept) (c_pasts) (c_text) (c_typed) (c_rect) (c_item) (c_items) (c_itemLevel) (c_treated) (c_from) (c_group) (c_turn) (c_size) (c_old) (c_aside) (c_begin) (c_level) (c_asides) (c_sorted) (c_spot) (c_rectangles) (c_parts) (c_visited) _ _ hF (fun x1_8 x2_9 H locs ls h hP hD hS hl => ?_) _ (0) (0) _ _ _ h hP hD hS (lv_sub hl [2, 1, 0] rfl)
  refine lv_iload_n hx hb dX7_boxes_34 rfl (lv_at hl 0 rfl) ?_
  obtain rfl := Option.some.inj h
  exact z_iret hx hb hr hlk (fun _ _ => 0) hP hD hS dX7_boxes_35
def f_Mo_side (c_s : Nat → Int) (x1 : Int) (x2 : Int) : Option (Int) :=
  bd1 (f_Mo_isBox c_s x1) <| fun r_1 => gd (ck r_1) <| if r_1 = 0 then (some ((-1))) else (bd1 (f_Mo_in x2 0 3) <| fun r_6 => gd (ck r_6) <| if r_6 = 0 then (some ((-2))) else (gd (0 ≤ ((5 + (4 * x1)) + x2) ∧ ((5 + (4 * x1)) + x2) < ((461 : Nat) : Int)) <| some ((c_s (((5 + (4 * x1)) + x2)).toNat))))
abbrev rm_Mo_side : Room := ({ frames := 2, cells := 0, slots := 0, locals := 43 } : Room)
set_option maxHeartbeats 4000000 in
set_option maxRecDepth 100000 in
theorem c_Mo_side (l : Launch) (D : va_G) (cI cZ cT : ClassId) (h_M : Nat) (q_M : Nat → Nat) (c_s : Nat → Int) (c_past : Nat → Int) (c_kept : Nat → Int) (c_isKept : Int) (c_pasts : Int) (c_text : Nat → Int) (c_typed : Int) (c_rect : Nat → Int) (c_item : Nat → Int) (c_items : Int) (c_itemLevel : Int) (c_treated : Nat → Int) (c_from : Nat → Int) (c_group : Nat → Int) (c_turn : Nat → Int) (c_size : Nat → Int) (c_old : Nat → Int) (c_aside : Nat → Int) (c_begin : Nat → Int) (c_level : Nat → Int) (c_asides : Int) (c_sorted : Nat → Int) (c_spot : Int) (c_rectangles : Int) (c_parts : Nat → Int) (c_visited : Nat → Int) (x1 : Int) (x2 : Int) (sz : Nat) (res : Int) (h : f_Mo_side c_s x1 x2 = some res) : zMi l yX7_side cX7_side 3 rm_Mo_side D (zt cI cZ cT) [.ref h_M, vI x1, vI x2] ((zMo cI cZ h_M q_M c_s c_past c_kept c_isKept c_pasts c_text c_typed c_rect c_item c_items c_itemLevel c_treated c_from c_group c_turn c_size c_old c_aside c_begin c_level c_asides c_sorted c_spot c_rectangles c_parts c_visited)) sz (res) (fun u => (zMo cI cZ h_M q_M c_s c_past c_kept c_isKept c_pasts c_text c_typed c_rect c_item c_items c_itemLevel c_treated c_from c_group c_turn c_size c_old c_aside c_begin c_level c_asides c_sorted c_spot c_rectangles c_parts c_visited)) 0 0 := by
  refine z_enth (Qc := zQi D (res) (fun u => (zMo cI cZ h_M q_M c_s c_past c_kept c_isKept c_pasts c_text c_typed c_rect c_item c_items c_itemLevel c_treated c_from c_group c_turn c_size c_old c_aside c_begin c_level c_asides c_sorted c_spot c_rectangles c_parts c_visited))) (by decide) (Nat.le_of_ble_eq_true rfl) (fun p e s m args below meth c A ls H locs hF hP hD hS hl => ?_)
  have hx := hF.1.1
  have hb := hF.1.2.1
  have hml := hF.1.2.2.1
  have hown : s.vm.findClass "RectangleTreeModel" = some m.cls := hF.1.2.2.2.1
  have hts := hF.1.2.2.2.2
  have hr := hF.2.1
  have hlk := hF.2.2.1
  have hK := hF.2.2.2.2.1
  have hN := hF.2.2.2.2.2.1
  have hA := hF.2.2.2.2.2.2
  unfold f_Mo_side at h
  refine lv_aload_n hx hb dX7_side_0 rfl (lv_at hl 0 rfl) ?_
  refine lv_iload_n hx hb dX7_side_1 rfl (lv_at hl 1 rfl) ?_
  obtain ⟨r_1, e_2, h⟩ := bd1_e h
  refine z_goi (ws' := []) (ret := r_1) (wc := (zMo cI cZ (h_M) (q_M) (c_s) (c_past) (c_kept) (c_isKept) (c_pasts) (c_text) (c_typed) (c_rect) (c_item) (c_items) (c_itemLevel) (c_treated) (c_from) (c_group) (c_turn) (c_size) (c_old) (c_aside) (c_begin) (c_level) (c_asides) (c_sorted) (c_spot) (c_rectangles) (c_parts) (c_visited))) (wn := fun u_3 => (zMo cI cZ h_M q_M c_s c_past c_kept c_isKept c_pasts c_text c_typed c_rect c_item c_items c_itemLevel c_treated c_from c_group c_turn c_size c_old c_aside c_begin c_level c_asides c_sorted c_spot c_rectangles c_parts c_visited)) (wr := []) (va_runV (As := [vI x1]) (rest := []) hF.1 (c_Mo_isBox l D cI cZ cT h_M q_M c_s c_past c_kept c_isKept c_pasts c_text c_typed c_rect c_item c_items c_itemLevel c_treated c_from c_group c_turn c_size c_old c_aside c_begin c_level c_asides c_sorted c_spot c_rectangles c_parts c_visited x1 H.size (r_1) e_2) (cwV 1 hts (zgV wm881 wm883 wm32 wm89 wm884) rfl rfl rfl (by decide +kernel) ⟨Nat.le_of_ble_eq_true rfl, Nat.le_of_ble_eq_true rfl⟩) ⟨zP.blind, va_recv hK (z_subP (ws' := (zMo cI cZ (h_M) (q_M) (c_s) (c_past) (c_kept) (c_isKept) (c_pasts) (c_text) (c_typed) (c_rect) (c_item) (c_items) (c_itemLevel) (c_treated) (c_from) (c_group) (c_turn) (c_size) (c_old) (c_aside) (c_begin) (c_level) (c_asides) (c_sorted) (c_spot) (c_rectangles) (c_parts) (c_visited))) hP [0, 1, 2, 3, 4, 5, 6, 7, 8, 9, 10, 11, 12, 13, 14, 15, 16, 17, 18] rfl) (ci := 7) (q0 := 0) rfl rfl, zP.enter (z_subP (ws' := (zMo cI cZ (h_M) (q_M) (c_s) (c_past) (c_kept) (c_isKept) (c_pasts) (c_text) (c_typed) (c_rect) (c_item) (c_items) (c_itemLevel) (c_treated) (c_from) (c_group) (c_turn) (c_size) (c_old) (c_aside) (c_begin) (c_level) (c_asides) (c_sorted) (c_spot) (c_rectangles) (c_parts) (c_visited))) hP [0, 1, 2, 3, 4, 5, 6, 7, 8, 9, 10, 11, 12, 13, 14, 15, 16, 17, 18] rfl) hK (hD.sub [0, 1, 2, 3, 4, 5, 6, 7, 8, 9, 10, 11, 12, 13, 14, 15, 16, 17, 18] (by decide) rfl) hN⟩ rfl rfl hl.1 rfl (lv_room (Nat.le_of_ble_eq_true rfl)) dX7_side_2 ⟨Nat.le_refl _, Nat.le_refl _⟩) hP hD hS hA [0, 1, 2, 3, 4, 5, 6, 7, 8, 9, 10, 11, 12, 13, 14, 15, 16, 17, 18] [] [0, 1, 2, 3, 4, 5, 6, 7, 8, 9, 10, 11, 12, 13, 14, 15, 16, 17, 18] rfl rfl (by decide) (fun _ => rfl) (fun u_3 H locs hP hD hS hz => ?_)
  obtain ⟨g_4, h⟩ := gd_e h
  refine z_if_ne (tgt := 12) hx hb g_4 dX7_side_5 (by decide) (fun b_5 => ?_) (fun b_5 => ?_)
  · have h := it_n b_5 h
    refine lv_iload_n hx hb dX7_side_12 rfl (lv_at hl 2 rfl) ?_
    refine lv_iconst (v := Int32.ofInt 0) hx hb dX7_side_13 rfl ?_
    refine lv_iconst (v := Int32.ofInt 3) hx hb dX7_side_14 rfl ?_
    obtain ⟨r_6, e_7, h⟩ := bd1_e h
    refine z_goi (ws' := []) (ret := r_6) (wc := ([] : va_W)) (wn := fun u_8 => (zMo cI cZ h_M q_M c_s c_past c_kept c_isKept c_pasts c_text c_typed c_rect c_item c_items c_itemLevel c_treated c_from c_group c_turn c_size c_old c_aside c_begin c_level c_asides c_sorted c_spot c_rectangles c_parts c_visited)) (wr := ([0, 1, 2, 3, 4, 5, 6, 7, 8, 9, 10, 11, 12, 13, 14, 15, 16, 17, 18].filterMap (fun i => ((zMo cI cZ h_M q_M c_s c_past c_kept c_isKept c_pasts c_text c_typed c_rect c_item c_items c_itemLevel c_treated c_from c_group c_turn c_size c_old c_aside c_begin c_level c_asides c_sorted c_spot c_rectangles c_parts c_visited))[i]?))) (va_runS (As := [vI x2, vI 0, vI 3]) (rest := []) hF.1 (c_Mo_in l D cI cZ cT x2 0 3 H.size (r_6) e_7) (va_cwS 3 hts (zgS wm874 wm875 wm89 wm876) rfl rfl rfl (by decide +kernel) ⟨Nat.le_of_ble_eq_true rfl, Nat.le_of_ble_eq_true rfl⟩) ⟨zP.blind, zP.enter (z_subP (ws' := ([] : va_W)) hP [] rfl) hK (hD.sub [] (by decide) rfl) hN⟩ rfl rfl hl.1 rfl (lv_room (Nat.le_of_ble_eq_true rfl)) dX7_side_15 ⟨Nat.le_refl _, Nat.le_refl _⟩) hP hD hS hA [] [0, 1, 2, 3, 4, 5, 6, 7, 8, 9, 10, 11, 12, 13, 14, 15, 16, 17, 18] [0, 1, 2, 3, 4, 5, 6, 7, 8, 9, 10, 11, 12, 13, 14, 15, 16, 17, 18] rfl rfl (by decide) (fun _ => rfl) (fun u_8 H locs hP hD hS hz => ?_)
    obtain ⟨g_9, h⟩ := gd_e h
    refine z_if_eq (tgt := 36) hx hb g_9 dX7_side_18 (by decide) (fun b_10 => ?_) (fun b_10 => ?_)
    · have h := it_p b_10 h
      refine lv_bipush (v := Int32.ofInt (-2)) hx hb dX7_side_36 (by decide +kernel) ?_
      obtain rfl := Option.some.inj h
      exact z_iret hx hb hr hlk (fun _ _ => 0) hP hD hS dX7_side_38
    · have h := it_n b_10 h
      refine lv_aload_n hx hb dX7_side_21 rfl (lv_at hl 0 rfl) ?_
      refine va_get (D := D) (ci := 7) (v := .ref (q_M 0)) (C := RX7) (T := TX7) (N := 26) hx hb hts zin7 hown hK hP 0 rfl rfl 0 (by decide) (hts _ wm787) (fun _ h9 => h9) rfl dX7_side_22 ?_
      refine lv_iconst (v := Int32.ofInt 5) hx hb dX7_side_25 rfl ?_
      refine lv_iconst (v := Int32.ofInt 4) hx hb dX7_side_26 rfl ?_
      refine lv_iload_n hx hb dX7_side_27 rfl (lv_at hl 1 rfl) ?_
      refine z_imul hx hb dX7_side_28 ?_
      refine z_iadd hx hb dX7_side_29 ?_
      refine lv_iload_n hx hb dX7_side_30 rfl (lv_at hl 2 rfl) ?_
      refine z_iadd hx hb dX7_side_31 ?_
      obtain ⟨g_11, h⟩ := gd_e h
      refine z_iald (n := 461) (f := c_s) (i := ((5 + (4 * x1)) + x2)) hx hb hK hP 1 rfl rfl g_11 (by have := g_11.2; omega) dX7_side_32 ?_
      refine lv_goto (tgt := 38) hx hb dX7_side_33 (by decide) ?_
      obtain rfl := Option.some.inj h
      exact z_iret hx hb hr hlk (fun _ _ => 0) hP hD hS dX7_side_38
  · have h := it_p b_5 h
    refine lv_iconst (v := Int32.ofInt (-1)) hx hb dX7_side_8 rfl ?_
    refine lv_goto (tgt := 38) hx hb dX7_side_9 (by decide) ?_
    obtain rfl := Option.some.inj h
    exact z_iret hx hb hr hlk (fun _ _ => 0) hP hD hS dX7_side_38
def f_Mo_height (c_s : Nat → Int) : Option (Int) :=
  bd1 (f_Mo_levelAt c_s 0) <| fun r_1 => some (r_1)
abbrev rm_Mo_height : Room := ({ frames := 2, cells := 0, slots := 0, locals := 42 } : Room)
set_option maxHeartbeats 4000000 in
set_option maxRecDepth 100000 in
theorem c_Mo_height (l : Launch) (D : va_G) (cI cZ cT : ClassId) (h_M : Nat) (q_M : Nat → Nat) (c_s : Nat → Int) (c_past : Nat → Int) (c_kept : Nat → Int) (c_isKept : Int) (c_pasts : Int) (c_text : Nat → Int) (c_typed : Int) (c_rect : Nat → Int) (c_item : Nat → Int) (c_items : Int) (c_itemLevel : Int) (c_treated : Nat → Int) (c_from : Nat → Int) (c_group : Nat → Int) (c_turn : Nat → Int) (c_size : Nat → Int) (c_old : Nat → Int) (c_aside : Nat → Int) (c_begin : Nat → Int) (c_level : Nat → Int) (c_asides : Int) (c_sorted : Nat → Int) (c_spot : Int) (c_rectangles : Int) (c_parts : Nat → Int) (c_visited : Nat → Int) (sz : Nat) (res : Int) (h : f_Mo_height c_s = some res) : zMi l yX7_height cX7_height 1 rm_Mo_height D (zt cI cZ cT) [.ref h_M] ((zMo cI cZ h_M q_M c_s c_past c_kept c_isKept c_pasts c_text c_typed c_rect c_item c_items c_itemLevel c_treated c_from c_group c_turn c_size c_old c_aside c_begin c_level c_asides c_sorted c_spot c_rectangles c_parts c_visited)) sz (res) (fun u => (zMo cI cZ h_M q_M c_s c_past c_kept c_isKept c_pasts c_text c_typed c_rect c_item c_items c_itemLevel c_treated c_from c_group c_turn c_size c_old c_aside c_begin c_level c_asides c_sorted c_spot c_rectangles c_parts c_visited)) 0 0 := by
  refine z_enth (Qc := zQi D (res) (fun u => (zMo cI cZ h_M q_M c_s c_past c_kept c_isKept c_pasts c_text c_typed c_rect c_item c_items c_itemLevel c_treated c_from c_group c_turn c_size c_old c_aside c_begin c_level c_asides c_sorted c_spot c_rectangles c_parts c_visited))) (by decide) (Nat.le_of_ble_eq_true rfl) (fun p e s m args below meth c A ls H locs hF hP hD hS hl => ?_)
  have hx := hF.1.1
  have hb := hF.1.2.1
  have hml := hF.1.2.2.1
  have hown : s.vm.findClass "RectangleTreeModel" = some m.cls := hF.1.2.2.2.1
  have hts := hF.1.2.2.2.2
  have hr := hF.2.1
  have hlk := hF.2.2.1
  have hK := hF.2.2.2.2.1
  have hN := hF.2.2.2.2.2.1
  have hA := hF.2.2.2.2.2.2
  unfold f_Mo_height at h
  refine lv_aload_n hx hb dX7_height_0 rfl (lv_at hl 0 rfl) ?_
  refine lv_iconst (v := Int32.ofInt 0) hx hb dX7_height_1 rfl ?_
  obtain ⟨r_1, e_2, h⟩ := bd1_e h
  refine z_goi (ws' := []) (ret := r_1) (wc := (zMo cI cZ (h_M) (q_M) (c_s) (c_past) (c_kept) (c_isKept) (c_pasts) (c_text) (c_typed) (c_rect) (c_item) (c_items) (c_itemLevel) (c_treated) (c_from) (c_group) (c_turn) (c_size) (c_old) (c_aside) (c_begin) (c_level) (c_asides) (c_sorted) (c_spot) (c_rectangles) (c_parts) (c_visited))) (wn := fun u_3 => (zMo cI cZ h_M q_M c_s c_past c_kept c_isKept c_pasts c_text c_typed c_rect c_item c_items c_itemLevel c_treated c_from c_group c_turn c_size c_old c_aside c_begin c_level c_asides c_sorted c_spot c_rectangles c_parts c_visited)) (wr := []) (va_runV (As := [vI 0]) (rest := []) hF.1 (c_Mo_levelAt l D cI cZ cT h_M q_M c_s c_past c_kept c_isKept c_pasts c_text c_typed c_rect c_item c_items c_itemLevel c_treated c_from c_group c_turn c_size c_old c_aside c_begin c_level c_asides c_sorted c_spot c_rectangles c_parts c_visited 0 H.size (r_1) e_2) (cwV 1 hts (zgV wm911 wm913 wm38 wm89 wm914) rfl rfl rfl (by decide +kernel) ⟨Nat.le_of_ble_eq_true rfl, Nat.le_of_ble_eq_true rfl⟩) ⟨zP.blind, va_recv hK (z_subP (ws' := (zMo cI cZ (h_M) (q_M) (c_s) (c_past) (c_kept) (c_isKept) (c_pasts) (c_text) (c_typed) (c_rect) (c_item) (c_items) (c_itemLevel) (c_treated) (c_from) (c_group) (c_turn) (c_size) (c_old) (c_aside) (c_begin) (c_level) (c_asides) (c_sorted) (c_spot) (c_rectangles) (c_parts) (c_visited))) hP [0, 1, 2, 3, 4, 5, 6, 7, 8, 9, 10, 11, 12, 13, 14, 15, 16, 17, 18] rfl) (ci := 7) (q0 := 0) rfl rfl, zP.enter (z_subP (ws' := (zMo cI cZ (h_M) (q_M) (c_s) (c_past) (c_kept) (c_isKept) (c_pasts) (c_text) (c_typed) (c_rect) (c_item) (c_items) (c_itemLevel) (c_treated) (c_from) (c_group) (c_turn) (c_size) (c_old) (c_aside) (c_begin) (c_level) (c_asides) (c_sorted) (c_spot) (c_rectangles) (c_parts) (c_visited))) hP [0, 1, 2, 3, 4, 5, 6, 7, 8, 9, 10, 11, 12, 13, 14, 15, 16, 17, 18] rfl) hK (hD.sub [0, 1, 2, 3, 4, 5, 6, 7, 8, 9, 10, 11, 12, 13, 14, 15, 16, 17, 18] (by decide) rfl) hN⟩ rfl rfl hl.1 rfl (lv_room (Nat.le_of_ble_eq_true rfl)) dX7_height_2 ⟨Nat.le_refl _, Nat.le_refl _⟩) hP hD hS hA [0, 1, 2, 3, 4, 5, 6, 7, 8, 9, 10, 11, 12, 13, 14, 15, 16, 17, 18] [] [0, 1, 2, 3, 4, 5, 6, 7, 8, 9, 10, 11, 12, 13, 14, 15, 16, 17, 18] rfl rfl (by decide) (fun _ => rfl) (fun u_3 H locs hP hD hS hz => ?_)
  obtain rfl := Option.some.inj h
  exact z_iret hx hb hr hlk (fun _ _ => 0) hP hD hS dX7_height_5
def f_Mo_level (c_s : Nat → Int) (x1 : Int) : Option (Int) :=
  bd1 (f_Mo_nodeAt c_s x1) <| fun r_1 => gd (ck r_1) <| if r_1 < 0 then (some ((-1))) else (bd1 (f_Mo_levelAt c_s r_1) <| fun r_6 => some (r_6))
abbrev rm_Mo_level : Room := ({ frames := 2, cells := 0, slots := 0, locals := 44 } : Room)
set_option maxHeartbeats 4000000 in
set_option maxRecDepth 100000 in
theorem c_Mo_level (l : Launch) (D : va_G) (cI cZ cT : ClassId) (h_M : Nat) (q_M : Nat → Nat) (c_s : Nat → Int) (c_past : Nat → Int) (c_kept : Nat → Int) (c_isKept : Int) (c_pasts : Int) (c_text : Nat → Int) (c_typed : Int) (c_rect : Nat → Int) (c_item : Nat → Int) (c_items : Int) (c_itemLevel : Int) (c_treated : Nat → Int) (c_from : Nat → Int) (c_group : Nat → Int) (c_turn : Nat → Int) (c_size : Nat → Int) (c_old : Nat → Int) (c_aside : Nat → Int) (c_begin : Nat → Int) (c_level : Nat → Int) (c_asides : Int) (c_sorted : Nat → Int) (c_spot : Int) (c_rectangles : Int) (c_parts : Nat → Int) (c_visited : Nat → Int) (x1 : Int) (sz : Nat) (res : Int) (h : f_Mo_level c_s x1 = some res) : zMi l yX7_level cX7_level 3 rm_Mo_level D (zt cI cZ cT) [.ref h_M, vI x1] ((zMo cI cZ h_M q_M c_s c_past c_kept c_isKept c_pasts c_text c_typed c_rect c_item c_items c_itemLevel c_treated c_from c_group c_turn c_size c_old c_aside c_begin c_level c_asides c_sorted c_spot c_rectangles c_parts c_visited)) sz (res) (fun u => (zMo cI cZ h_M q_M c_s c_past c_kept c_isKept c_pasts c_text c_typed c_rect c_item c_items c_itemLevel c_treated c_from c_group c_turn c_size c_old c_aside c_begin c_level c_asides c_sorted c_spot c_rectangles c_parts c_visited)) 0 0 := by
  refine z_enth (Qc := zQi D (res) (fun u => (zMo cI cZ h_M q_M c_s c_past c_kept c_isKept c_pasts c_text c_typed c_rect c_item c_items c_itemLevel c_treated c_from c_group c_turn c_size c_old c_aside c_begin c_level c_asides c_sorted c_spot c_rectangles c_parts c_visited))) (by decide) (Nat.le_of_ble_eq_true rfl) (fun p e s m args below meth c A ls H locs hF hP hD hS hl => ?_)
  have hx := hF.1.1
  have hb := hF.1.2.1
  have hml := hF.1.2.2.1
  have hown : s.vm.findClass "RectangleTreeModel" = some m.cls := hF.1.2.2.2.1
  have hts := hF.1.2.2.2.2
  have hr := hF.2.1
  have hlk := hF.2.2.1
  have hK := hF.2.2.2.2.1
  have hN := hF.2.2.2.2.2.1
  have hA := hF.2.2.2.2.2.2
  unfold f_Mo_level at h
  refine lv_aload_n hx hb dX7_level_0 rfl (lv_at hl 0 rfl) ?_
  refine lv_iload_n hx hb dX7_level_1 rfl (lv_at hl 1 rfl) ?_
  obtain ⟨r_1, e_2, h⟩ := bd1_e h
  refine z_goi (ws' := []) (ret := r_1) (wc := (zMo cI cZ (h_M) (q_M) (c_s) (c_past) (c_kept) (c_isKept) (c_pasts) (c_text) (c_typed) (c_rect) (c_item) (c_items) (c_itemLevel) (c_treated) (c_from) (c_group) (c_turn) (c_size) (c_old) (c_aside) (c_begin) (c_level) (c_asides) (c_sorted) (c_spot) (c_rectangles) (c_parts) (c_visited))) (wn := fun u_3 => (zMo cI cZ h_M q_M c_s c_past c_kept c_isKept c_pasts c_text c_typed c_rect c_item c_items c_itemLevel c_treated c_from c_group c_turn c_size c_old c_aside c_begin c_level c_asides c_sorted c_spot c_rectangles c_parts c_visited)) (wr := []) (va_runV (As := [vI x1]) (rest := []) hF.1 (c_Mo_nodeAt l D cI cZ cT h_M q_M c_s c_past c_kept c_isKept c_pasts c_text c_typed c_rect c_item c_items c_itemLevel c_treated c_from c_group c_turn c_size c_old c_aside c_begin c_level c_asides c_sorted c_spot c_rectangles c_parts c_visited x1 H.size (r_1) e_2) (cwV 1 hts (zgV wm1127 wm1129 wm76 wm89 wm1130) rfl rfl rfl (by decide +kernel) ⟨Nat.le_of_ble_eq_true rfl, Nat.le_of_ble_eq_true rfl⟩) ⟨zP.blind, va_recv hK (z_subP (ws' := (zMo cI cZ (h_M) (q_M) (c_s) (c_past) (c_kept) (c_isKept) (c_pasts) (c_text) (c_typed) (c_rect) (c_item) (c_items) (c_itemLevel) (c_treated) (c_from) (c_group) (c_turn) (c_size) (c_old) (c_aside) (c_begin) (c_level) (c_asides) (c_sorted) (c_spot) (c_rectangles) (c_parts) (c_visited))) hP [0, 1, 2, 3, 4, 5, 6, 7, 8, 9, 10, 11, 12, 13, 14, 15, 16, 17, 18] rfl) (ci := 7) (q0 := 0) rfl rfl, zP.enter (z_subP (ws' := (zMo cI cZ (h_M) (q_M) (c_s) (c_past) (c_kept) (c_isKept) (c_pasts) (c_text) (c_typed) (c_rect) (c_item) (c_items) (c_itemLevel) (c_treated) (c_from) (c_group) (c_turn) (c_size) (c_old) (c_aside) (c_begin) (c_level) (c_asides) (c_sorted) (c_spot) (c_rectangles) (c_parts) (c_visited))) hP [0, 1, 2, 3, 4, 5, 6, 7, 8, 9, 10, 11, 12, 13, 14, 15, 16, 17, 18] rfl) hK (hD.sub [0, 1, 2, 3, 4, 5, 6, 7, 8, 9, 10, 11, 12, 13, 14, 15, 16, 17, 18] (by decide) rfl) hN⟩ rfl rfl hl.1 rfl (lv_room (Nat.le_of_ble_eq_true rfl)) dX7_level_2 ⟨Nat.le_refl _, Nat.le_refl _⟩) hP hD hS hA [0, 1, 2, 3, 4, 5, 6, 7, 8, 9, 10, 11, 12, 13, 14, 15, 16, 17, 18] [] [0, 1, 2, 3, 4, 5, 6, 7, 8, 9, 10, 11, 12, 13, 14, 15, 16, 17, 18] rfl rfl (by decide) (fun _ => rfl) (fun u_3 H locs hP hD hS hz => ?_)
  refine lv_istore_n (lv' := [(2, vI r_1), (0, .ref h_M), (1, vI x1)]) hx hb dX7_level_5 rfl hl (by decide) rfl (fun ls hl => ?_)
  refine lv_iload_n hx hb dX7_level_6 rfl (lv_at hl 0 rfl) ?_
  obtain ⟨g_4, h⟩ := gd_e h
  refine z_if_ge (tgt := 14) hx hb g_4 dX7_level_7 (by decide) (fun b_5 => ?_) (fun b_5 => ?_)
  · have h := it_n b_5 h
    refine lv_aload_n hx hb dX7_level_14 rfl (lv_at hl 1 rfl) ?_
    refine lv_iload_n hx hb dX7_level_15 rfl (lv_at hl 0 rfl) ?_
    obtain ⟨r_6, e_7, h⟩ := bd1_e h
    refine z_goi (ws' := []) (ret := r_6) (wc := (zMo cI cZ (h_M) (q_M) (c_s) (c_past) (c_kept) (c_isKept) (c_pasts) (c_text) (c_typed) (c_rect) (c_item) (c_items) (c_itemLevel) (c_treated) (c_from) (c_group) (c_turn) (c_size) (c_old) (c_aside) (c_begin) (c_level) (c_asides) (c_sorted) (c_spot) (c_rectangles) (c_parts) (c_visited))) (wn := fun u_8 => (zMo cI cZ h_M q_M c_s c_past c_kept c_isKept c_pasts c_text c_typed c_rect c_item c_items c_itemLevel c_treated c_from c_group c_turn c_size c_old c_aside c_begin c_level c_asides c_sorted c_spot c_rectangles c_parts c_visited)) (wr := []) (va_runV (As := [vI r_1]) (rest := []) hF.1 (c_Mo_levelAt l D cI cZ cT h_M q_M c_s c_past c_kept c_isKept c_pasts c_text c_typed c_rect c_item c_items c_itemLevel c_treated c_from c_group c_turn c_size c_old c_aside c_begin c_level c_asides c_sorted c_spot c_rectangles c_parts c_visited r_1 H.size (r_6) e_7) (cwV 1 hts (zgV wm911 wm913 wm38 wm89 wm914) rfl rfl rfl (by decide +kernel) ⟨Nat.le_of_ble_eq_true rfl, Nat.le_of_ble_eq_true rfl⟩) ⟨zP.blind, va_recv hK (z_subP (ws' := (zMo cI cZ (h_M) (q_M) (c_s) (c_past) (c_kept) (c_isKept) (c_pasts) (c_text) (c_typed) (c_rect) (c_item) (c_items) (c_itemLevel) (c_treated) (c_from) (c_group) (c_turn) (c_size) (c_old) (c_aside) (c_begin) (c_level) (c_asides) (c_sorted) (c_spot) (c_rectangles) (c_parts) (c_visited))) hP [0, 1, 2, 3, 4, 5, 6, 7, 8, 9, 10, 11, 12, 13, 14, 15, 16, 17, 18] rfl) (ci := 7) (q0 := 0) rfl rfl, zP.enter (z_subP (ws' := (zMo cI cZ (h_M) (q_M) (c_s) (c_past) (c_kept) (c_isKept) (c_pasts) (c_text) (c_typed) (c_rect) (c_item) (c_items) (c_itemLevel) (c_treated) (c_from) (c_group) (c_turn) (c_size) (c_old) (c_aside) (c_begin) (c_level) (c_asides) (c_sorted) (c_spot) (c_rectangles) (c_parts) (c_visited))) hP [0, 1, 2, 3, 4, 5, 6, 7, 8, 9, 10, 11, 12, 13, 14, 15, 16, 17, 18] rfl) hK (hD.sub [0, 1, 2, 3, 4, 5, 6, 7, 8, 9, 10, 11, 12, 13, 14, 15, 16, 17, 18] (by decide) rfl) hN⟩ rfl rfl hl.1 rfl (lv_room (Nat.le_of_ble_eq_true rfl)) dX7_level_16 ⟨Nat.le_refl _, Nat.le_refl _⟩) hP hD hS hA [0, 1, 2, 3, 4, 5, 6, 7, 8, 9, 10, 11, 12, 13, 14, 15, 16, 17, 18] [] [0, 1, 2, 3, 4, 5, 6, 7, 8, 9, 10, 11, 12, 13, 14, 15, 16, 17, 18] rfl rfl (by decide) (fun _ => rfl) (fun u_8 H locs hP hD hS hz => ?_)
    obtain rfl := Option.some.inj h
    exact z_iret hx hb hr hlk (fun _ _ => 0) hP hD hS dX7_level_19
  · have h := it_p b_5 h
    refine lv_iconst (v := Int32.ofInt (-1)) hx hb dX7_level_10 rfl ?_
    refine lv_goto (tgt := 19) hx hb dX7_level_11 (by decide) ?_
    obtain rfl := Option.some.inj h
    exact z_iret hx hb hr hlk (fun _ _ => 0) hP hD hS dX7_level_19
def f_Mo_entries (c_s : Nat → Int) (x1 : Int) : Option (Int) :=
  bd1 (f_Mo_nodeAt c_s x1) <| fun r_1 => gd (ck r_1) <| if r_1 < 0 then (some ((-1))) else (bd1 (f_Mo_entriesOf c_s r_1) <| fun r_6 => some (r_6))
abbrev rm_Mo_entries : Room := ({ frames := 4, cells := 0, slots := 0, locals := 88 } : Room)
set_option maxHeartbeats 4000000 in
set_option maxRecDepth 100000 in
theorem c_Mo_entries (l : Launch) (D : va_G) (cI cZ cT : ClassId) (h_M : Nat) (q_M : Nat → Nat) (c_s : Nat → Int) (c_past : Nat → Int) (c_kept : Nat → Int) (c_isKept : Int) (c_pasts : Int) (c_text : Nat → Int) (c_typed : Int) (c_rect : Nat → Int) (c_item : Nat → Int) (c_items : Int) (c_itemLevel : Int) (c_treated : Nat → Int) (c_from : Nat → Int) (c_group : Nat → Int) (c_turn : Nat → Int) (c_size : Nat → Int) (c_old : Nat → Int) (c_aside : Nat → Int) (c_begin : Nat → Int) (c_level : Nat → Int) (c_asides : Int) (c_sorted : Nat → Int) (c_spot : Int) (c_rectangles : Int) (c_parts : Nat → Int) (c_visited : Nat → Int) (x1 : Int) (sz : Nat) (res : Int) (h : f_Mo_entries c_s x1 = some res) : zMi l yX7_entries cX7_entries 3 rm_Mo_entries D (zt cI cZ cT) [.ref h_M, vI x1] ((zMo cI cZ h_M q_M c_s c_past c_kept c_isKept c_pasts c_text c_typed c_rect c_item c_items c_itemLevel c_treated c_from c_group c_turn c_size c_old c_aside c_begin c_level c_asides c_sorted c_spot c_rectangles c_parts c_visited)) sz (res) (fun u => (zMo cI cZ h_M q_M c_s c_past c_kept c_isKept c_pasts c_text c_typed c_rect c_item c_items c_itemLevel c_treated c_from c_group c_turn c_size c_old c_aside c_begin c_level c_asides c_sorted c_spot c_rectangles c_parts c_visited)) 0 0 := by
  refine z_enth (Qc := zQi D (res) (fun u => (zMo cI cZ h_M q_M c_s c_past c_kept c_isKept c_pasts c_text c_typed c_rect c_item c_items c_itemLevel c_treated c_from c_group c_turn c_size c_old c_aside c_begin c_level c_asides c_sorted c_spot c_rectangles c_parts c_visited))) (by decide) (Nat.le_of_ble_eq_true rfl) (fun p e s m args below meth c A ls H locs hF hP hD hS hl => ?_)
  have hx := hF.1.1
  have hb := hF.1.2.1
  have hml := hF.1.2.2.1
  have hown : s.vm.findClass "RectangleTreeModel" = some m.cls := hF.1.2.2.2.1
  have hts := hF.1.2.2.2.2
  have hr := hF.2.1
  have hlk := hF.2.2.1
  have hK := hF.2.2.2.2.1
  have hN := hF.2.2.2.2.2.1
  have hA := hF.2.2.2.2.2.2
  unfold f_Mo_entries at h
  refine lv_aload_n hx hb dX7_entries_0 rfl (lv_at hl 0 rfl) ?_
  refine lv_iload_n hx hb dX7_entries_1 rfl (lv_at hl 1 rfl) ?_
  obtain ⟨r_1, e_2, h⟩ := bd1_e h
  refine z_goi (ws' := []) (ret := r_1) (wc := (zMo cI cZ (h_M) (q_M) (c_s) (c_past) (c_kept) (c_isKept) (c_pasts) (c_text) (c_typed) (c_rect) (c_item) (c_items) (c_itemLevel) (c_treated) (c_from) (c_group) (c_turn) (c_size) (c_old) (c_aside) (c_begin) (c_level) (c_asides) (c_sorted) (c_spot) (c_rectangles) (c_parts) (c_visited))) (wn := fun u_3 => (zMo cI cZ h_M q_M c_s c_past c_kept c_isKept c_pasts c_text c_typed c_rect c_item c_items c_itemLevel c_treated c_from c_group c_turn c_size c_old c_aside c_begin c_level c_asides c_sorted c_spot c_rectangles c_parts c_visited)) (wr := []) (va_runV (As := [vI x1]) (rest := []) hF.1 (c_Mo_nodeAt l D cI cZ cT h_M q_M c_s c_past c_kept c_isKept c_pasts c_text c_typed c_rect c_item c_items c_itemLevel c_treated c_from c_group c_turn c_size c_old c_aside c_begin c_level c_asides c_sorted c_spot c_rectangles c_parts c_visited x1 H.size (r_1) e_2) (cwV 1 hts (zgV wm1127 wm1129 wm76 wm89 wm1130) rfl rfl rfl (by decide +kernel) ⟨Nat.le_of_ble_eq_true rfl, Nat.le_of_ble_eq_true rfl⟩) ⟨zP.blind, va_recv hK (z_subP (ws' := (zMo cI cZ (h_M) (q_M) (c_s) (c_past) (c_kept) (c_isKept) (c_pasts) (c_text) (c_typed) (c_rect) (c_item) (c_items) (c_itemLevel) (c_treated) (c_from) (c_group) (c_turn) (c_size) (c_old) (c_aside) (c_begin) (c_level) (c_asides) (c_sorted) (c_spot) (c_rectangles) (c_parts) (c_visited))) hP [0, 1, 2, 3, 4, 5, 6, 7, 8, 9, 10, 11, 12, 13, 14, 15, 16, 17, 18] rfl) (ci := 7) (q0 := 0) rfl rfl, zP.enter (z_subP (ws' := (zMo cI cZ (h_M) (q_M) (c_s) (c_past) (c_kept) (c_isKept) (c_pasts) (c_text) (c_typed) (c_rect) (c_item) (c_items) (c_itemLevel) (c_treated) (c_from) (c_group) (c_turn) (c_size) (c_old) (c_aside) (c_begin) (c_level) (c_asides) (c_sorted) (c_spot) (c_rectangles) (c_parts) (c_visited))) hP [0, 1, 2, 3, 4, 5, 6, 7, 8, 9, 10, 11, 12, 13, 14, 15, 16, 17, 18] rfl) hK (hD.sub [0, 1, 2, 3, 4, 5, 6, 7, 8, 9, 10, 11, 12, 13, 14, 15, 16, 17, 18] (by decide) rfl) hN⟩ rfl rfl hl.1 rfl (lv_room (Nat.le_of_ble_eq_true rfl)) dX7_entries_2 ⟨Nat.le_refl _, Nat.le_refl _⟩) hP hD hS hA [0, 1, 2, 3, 4, 5, 6, 7, 8, 9, 10, 11, 12, 13, 14, 15, 16, 17, 18] [] [0, 1, 2, 3, 4, 5, 6, 7, 8, 9, 10, 11, 12, 13, 14, 15, 16, 17, 18] rfl rfl (by decide) (fun _ => rfl) (fun u_3 H locs hP hD hS hz => ?_)
  refine lv_istore_n (lv' := [(2, vI r_1), (0, .ref h_M), (1, vI x1)]) hx hb dX7_entries_5 rfl hl (by decide) rfl (fun ls hl => ?_)
  refine lv_iload_n hx hb dX7_entries_6 rfl (lv_at hl 0 rfl) ?_
  obtain ⟨g_4, h⟩ := gd_e h
  refine z_if_ge (tgt := 14) hx hb g_4 dX7_entries_7 (by decide) (fun b_5 => ?_) (fun b_5 => ?_)
  · have h := it_n b_5 h
    refine lv_aload_n hx hb dX7_entries_14 rfl (lv_at hl 1 rfl) ?_
    refine lv_iload_n hx hb dX7_entries_15 rfl (lv_at hl 0 rfl) ?_
    obtain ⟨r_6, e_7, h⟩ := bd1_e h
    refine z_goi (ws' := []) (ret := r_6) (wc := (zMo cI cZ (h_M) (q_M) (c_s) (c_past) (c_kept) (c_isKept) (c_pasts) (c_text) (c_typed) (c_rect) (c_item) (c_items) (c_itemLevel) (c_treated) (c_from) (c_group) (c_turn) (c_size) (c_old) (c_aside) (c_begin) (c_level) (c_asides) (c_sorted) (c_spot) (c_rectangles) (c_parts) (c_visited))) (wn := fun u_8 => (zMo cI cZ h_M q_M c_s c_past c_kept c_isKept c_pasts c_text c_typed c_rect c_item c_items c_itemLevel c_treated c_from c_group c_turn c_size c_old c_aside c_begin c_level c_asides c_sorted c_spot c_rectangles c_parts c_visited)) (wr := []) (va_runV (As := [vI r_1]) (rest := []) hF.1 (c_Mo_entriesOf l D cI cZ cT h_M q_M c_s c_past c_kept c_isKept c_pasts c_text c_typed c_rect c_item c_items c_itemLevel c_treated c_from c_group c_turn c_size c_old c_aside c_begin c_level c_asides c_sorted c_spot c_rectangles c_parts c_visited r_1 H.size (r_6) e_7) (cwV 1 hts (zgV wm954 wm956 wm48 wm89 wm957) rfl rfl rfl (by decide +kernel) ⟨Nat.le_of_ble_eq_true rfl, Nat.le_of_ble_eq_true rfl⟩) ⟨zP.blind, va_recv hK (z_subP (ws' := (zMo cI cZ (h_M) (q_M) (c_s) (c_past) (c_kept) (c_isKept) (c_pasts) (c_text) (c_typed) (c_rect) (c_item) (c_items) (c_itemLevel) (c_treated) (c_from) (c_group) (c_turn) (c_size) (c_old) (c_aside) (c_begin) (c_level) (c_asides) (c_sorted) (c_spot) (c_rectangles) (c_parts) (c_visited))) hP [0, 1, 2, 3, 4, 5, 6, 7, 8, 9, 10, 11, 12, 13, 14, 15, 16, 17, 18] rfl) (ci := 7) (q0 := 0) rfl rfl, zP.enter (z_subP (ws' := (zMo cI cZ (h_M) (q_M) (c_s) (c_past) (c_kept) (c_isKept) (c_pasts) (c_text) (c_typed) (c_rect) (c_item) (c_items) (c_itemLevel) (c_treated) (c_from) (c_group) (c_turn) (c_size) (c_old) (c_aside) (c_begin) (c_level) (c_asides) (c_sorted) (c_spot) (c_rectangles) (c_parts) (c_visited))) hP [0, 1, 2, 3, 4, 5, 6, 7, 8, 9, 10, 11, 12, 13, 14, 15, 16, 17, 18] rfl) hK (hD.sub [0, 1, 2, 3, 4, 5, 6, 7, 8, 9, 10, 11, 12, 13, 14, 15, 16, 17, 18] (by decide) rfl) hN⟩ rfl rfl hl.1 rfl (lv_room (Nat.le_of_ble_eq_true rfl)) dX7_entries_16 ⟨Nat.le_refl _, Nat.le_refl _⟩) hP hD hS hA [0, 1, 2, 3, 4, 5, 6, 7, 8, 9, 10, 11, 12, 13, 14, 15, 16, 17, 18] [] [0, 1, 2, 3, 4, 5, 6, 7, 8, 9, 10, 11, 12, 13, 14, 15, 16, 17, 18] rfl rfl (by decide) (fun _ => rfl) (fun u_8 H locs hP hD hS hz => ?_)
    obtain rfl := Option.some.inj h
    exact z_iret hx hb hr hlk (fun _ _ => 0) hP hD hS dX7_entries_19
  · have h := it_p b_5 h
    refine lv_iconst (v := Int32.ofInt (-1)) hx hb dX7_entries_10 rfl ?_
    refine lv_goto (tgt := 19) hx hb dX7_entries_11 (by decide) ?_
    obtain rfl := Option.some.inj h
    exact z_iret hx hb hr hlk (fun _ _ => 0) hP hD hS dX7_entries_19
def f_Mo_entry_L35 (c_s : Nat → Int) (x2 : Int) (k : Int → Int → Option (Int)) : Nat → Int → Int → Option (Int)
  | 0, _, _ => none
  | n + 1, x4, x5 =>
  gd (ck x5) <| gd (ck x2) <| if x5 < x2 then (bd1 (f_Mo_endOf c_s x4) <| fun r_17 => f_Mo_entry_L35 c_s x2 k n (r_17) ((x5 + 1))) else (k (x4) (x5))
def f_Mo_entry (c_s : Nat → Int) (x1 : Int) (x2 : Int) : Option (Int) :=
  bd1 (f_Mo_nodeAt c_s x1) <| fun r_1 => gd (ck r_1) <| if r_1 < 0 then (some ((-1))) else (bd1 (f_Mo_entriesOf c_s r_1) <| fun r_6 => bd1 (f_Mo_in x2 0 (r_6 - 1)) <| fun r_9 => gd (ck r_9) <| if r_9 = 0 then (some ((-1))) else (f_Mo_entry_L35 (c_s) (x2) (fun x4_20 x5_21 => bd1 (f_Mo_at c_s x4_20) <| fun r_22 => gd (ck r_22) <| if r_22 < 0 then (bd1 (f_Mo_nodesAhead c_s x4_20) <| fun r_27 => some (r_27)) else (bd1 (f_Mo_at c_s x4_20) <| fun r_30 => some (r_30))) FU ((r_1 + 1)) (0)))
abbrev rm_Mo_entry : Room := ({ frames := 4, cells := 0, slots := 0, locals := 88 } : Room)
set_option maxHeartbeats 4000000 in
set_option maxRecDepth 100000 in
theorem w_Mo_entry_L35 {p : Program} {l : Launch} {e : Env} {s : State} {m : MethodId} {args : Array Value} {below : List Frame} {meth : Method} {c : Code} {A : Nat → Prop} (D : va_G) (cI cZ cT : ClassId) (h_M : Nat) (q_M : Nat → Nat) (c_s : Nat → Int) (c_past : Nat → Int) (c_kept : Nat → Int) (c_isKept : Int) (c_pasts : Int) (c_text : Nat → Int) (c_typed : Int) (c_rect : Nat → Int) (c_item : Nat → Int) (c_items : Int) (c_itemLevel : Int) (c_treated : Nat → Int) (c_from : Nat → Int) (c_group : Nat → Int) (c_turn : Nat → Int) (c_size : Nat → Int) (c_old : Nat → Int) (c_aside : Nat → Int) (c_begin : Nat → Int) (c_level : Nat → Int) (c_asides : Int) (c_sorted : Nat → Int) (c_spot : Int) (c_rectangles : Int) (c_parts : Nat → Int) (c_visited : Nat → Int) (x2 : Int) (res : Int) (k : Int → Int → Option (Int)) (hF : zF p m c cX7_entry 6 s args yX7_entry.cls meth (some .int) yX7_entry.name A D (zt cI cZ cT))
    (hk : ∀ (x4 : Int) (x5 : Int) (H : Heap) (locs : List Loc) (ls : Array Slot), k x4 x5 = some res → va_P D vwCl ((zMo cI cZ h_M q_M c_s c_past c_kept c_isKept c_pasts c_text c_typed c_rect c_item c_items c_itemLevel c_treated c_from c_group c_turn c_size c_old c_aside c_begin c_level c_asides c_sorted c_spot c_rectangles c_parts c_visited)) H → va_D A ((zMo cI cZ h_M q_M c_s c_past c_kept c_isKept c_pasts c_text c_typed c_rect c_item c_items c_itemLevel c_treated c_from c_group c_turn c_size c_old c_aside c_begin c_level c_asides c_sorted c_spot c_rectangles c_parts c_visited)) → va_S A s.heap H locs → lv_has ls 6 [(0, .ref h_M), (4, vI x4)] → W p l e rm_Mo_entry s m args below meth c H locs 0 0 (MQ below (zQi D (res) (fun u => (zMo cI cZ h_M q_M c_s c_past c_kept c_isKept c_pasts c_text c_typed c_rect c_item c_items c_itemLevel c_treated c_from c_group c_turn c_size c_old c_aside c_begin c_level c_asides c_sorted c_spot c_rectangles c_parts c_visited)) A) args s 0 0 A) (F0 m 55 ls [])) :
    ∀ (n : Nat) (x4 : Int) (x5 : Int) (H : Heap) (locs : List Loc) (ls : Array Slot), f_Mo_entry_L35 c_s x2 k n x4 x5 = some res → va_P D vwCl ((zMo cI cZ h_M q_M c_s c_past c_kept c_isKept c_pasts c_text c_typed c_rect c_item c_items c_itemLevel c_treated c_from c_group c_turn c_size c_old c_aside c_begin c_level c_asides c_sorted c_spot c_rectangles c_parts c_visited)) H → va_D A ((zMo cI cZ h_M q_M c_s c_past c_kept c_isKept c_pasts c_text c_typed c_rect c_item c_items c_itemLevel c_treated c_from c_group c_turn c_size c_old c_aside c_begin c_level c_asides c_sorted c_spot c_rectangles c_parts c_visited)) → va_S A s.heap H locs → lv_has ls 6 [(0, .ref h_M), (2, vI x2), (4, vI x4), (5, vI x5)] → W p l e rm_Mo_entry s m args below meth c H locs 0 0 (MQ below (zQi D (res) (fun u => (zMo cI cZ h_M q_M c_s c_past c_kept c_isKept c_pasts c_text c_typed c_rect c_item c_items c_itemLevel c_treated c_from c_group c_turn c_size c_old c_aside c_begin c_level c_asides c_sorted c_spot c_rectangles c_parts c_visited)) A) args s 0 0 A) (F0 m 35 ls []) := by
  have hx := hF.1.1
  have hb := hF.1.2.1
  have hml := hF.1.2.2.1
  have hown : s.vm.findClass "RectangleTreeModel" = some m.cls := hF.1.2.2.2.1
  have hts := hF.1.2.2.2.2
  have hr := hF.2.1
  have hlk := hF.2.2.1
  have hK := hF.2.2.2.2.1
  have hN := hF.2.2.2.2.2.1
  have hA := hF.2.2.2.2.2.2
  intro n
  induction n with
  | zero => intro x4 x5 H locs ls h; cases h
  | succ n ih =>
    intro x4 x5 H locs ls h hP hD hS hl
    rw [f_Mo_entry_L35] at h
    refine lv_iload hx hb dX7_entry_35 (lv_at hl 3 rfl) ?_
    refine lv_iload_n hx hb dX7_entry_37 rfl (lv_at hl 1 rfl) ?_
    obtain ⟨g_14, h⟩ := gd_e h
    obtain ⟨g_15, h⟩ := gd_e h
    refine z_icmp_ge (tgt := 55) hx hb g_14 g_15 dX7_entry_38 (by decide) (fun b_16 => ?_) (fun b_16 => ?_)
    · have h := it_n b_16 h
      exact hk (x4) (x5) H locs ls h hP hD hS (lv_sub hl [0, 2] rfl)
    · have h := it_p b_16 h
      refine lv_aload_n hx hb dX7_entry_41 rfl (lv_at hl 0 rfl) ?_
      refine lv_iload hx hb dX7_entry_42 (lv_at hl 2 rfl) ?_
      obtain ⟨r_17, e_18, h⟩ := bd1_e h
      refine z_goi (ws' := []) (ret := r_17) (wc := (zMo cI cZ (h_M) (q_M) (c_s) (c_past) (c_kept) (c_isKept) (c_pasts) (c_text) (c_typed) (c_rect) (c_item) (c_items) (c_itemLevel) (c_treated) (c_from) (c_group) (c_turn) (c_size) (c_old) (c_aside) (c_begin) (c_level) (c_asides) (c_sorted) (c_spot) (c_rectangles) (c_parts) (c_visited))) (wn := fun u_19 => (zMo cI cZ h_M q_M c_s c_past c_kept c_isKept c_pasts c_text c_typed c_rect c_item c_items c_itemLevel c_treated c_from c_group c_turn c_size c_old c_aside c_begin c_level c_asides c_sorted c_spot c_rectangles c_parts c_visited)) (wr := []) (va_runV (As := [vI x4]) (rest := []) hF.1 (c_Mo_endOf l D cI cZ cT h_M q_M c_s c_past c_kept c_isKept c_pasts c_text c_typed c_rect c_item c_items c_itemLevel c_treated c_from c_group c_turn c_size c_old c_aside c_begin c_level c_asides c_sorted c_spot c_rectangles c_parts c_visited x4 H.size (r_17) e_18) (cwV 1 hts (zgV wm922 wm924 wm40 wm89 wm925) rfl rfl rfl (by decide +kernel) ⟨Nat.le_of_ble_eq_true rfl, Nat.le_of_ble_eq_true rfl⟩) ⟨zP.blind, va_recv hK (z_subP (ws' := (zMo cI cZ (h_M) (q_M) (c_s) (c_past) (c_kept) (c_isKept) (c_pasts) (c_text) (c_typed) (c_rect) (c_item) (c_items) (c_itemLevel) (c_treated) (c_from) (c_group) (c_turn) (c_size) (c_old) (c_aside) (c_begin) (c_level) (c_asides) (c_sorted) (c_spot) (c_rectangles) (c_parts) (c_visited))) hP [0, 1, 2, 3, 4, 5, 6, 7, 8, 9, 10, 11, 12, 13, 14, 15, 16, 17, 18] rfl) (ci := 7) (q0 := 0) rfl rfl, zP.enter (z_subP (ws' := (zMo cI cZ (h_M) (q_M) (c_s) (c_past) (c_kept) (c_isKept) (c_pasts) (c_text) (c_typed) (c_rect) (c_item) (c_items) (c_itemLevel) (c_treated) (c_from) (c_group) (c_turn) (c_size) (c_old) (c_aside) (c_begin) (c_level) (c_asides) (c_sorted) (c_spot) (c_rectangles) (c_parts) (c_visited))) hP [0, 1, 2, 3, 4, 5, 6, 7, 8, 9, 10, 11, 12, 13, 14, 15, 16, 17, 18] rfl) hK (hD.sub [0, 1, 2, 3, 4, 5, 6, 7, 8, 9, 10, 11, 12, 13, 14, 15, 16, 17, 18] (by decide) rfl) hN⟩ rfl rfl hl.1 rfl (lv_room (Nat.le_of_ble_eq_true rfl)) dX7_entry_44 ⟨Nat.le_refl _, Nat.le_refl _⟩) hP hD hS hA [0, 1, 2, 3, 4, 5, 6, 7, 8, 9, 10, 11, 12, 13, 14, 15, 16, 17, 18] [] [0, 1, 2, 3, 4, 5, 6, 7, 8, 9, 10, 11, 12, 13, 14, 15, 16, 17, 18] rfl rfl (by decide) (fun _ => rfl) (fun u_19 H locs hP hD hS hz => ?_)
      refine lv_istore (lv' := [(4, vI r_17), (0, .ref h_M), (2, vI x2), (5, vI x5)]) hx hb dX7_entry_47 hl (by decide) rfl (fun ls hl => ?_)
      refine lv_iinc (v := Int32.ofInt (x5 + 1)) (lv' := [(5, vI (x5 + 1)), (4, vI r_17), (0, .ref h_M), (2, vI x2)]) hx hb dX7_entry_49 hl (k := 3) rfl (z_inc _ _) (by decide) rfl (fun ls hl => ?_)
      refine lv_goto (tgt := 35) hx hb dX7_entry_52 (by decide) ?_
      exact ih (r_17) ((x5 + 1)) H locs ls h hP hD hS (lv_sub hl [2, 3, 1, 0] rfl)
set_option maxHeartbeats 4000000 in
set_option maxRecDepth 100000 in
theorem c_Mo_entry (l : Launch) (D : va_G) (cI cZ cT : ClassId) (h_M : Nat) (q_M : Nat → Nat) (c_s : Nat → Int) (c_past : Nat → Int) (c_kept : Nat → Int) (c_isKept : Int) (c_pasts : Int) (c_text : Nat → Int) (c_typed : Int) (c_rect : Nat → Int) (c_item : Nat → Int) (c_items : Int) (c_itemLevel : Int) (c_treated : Nat → Int) (c_from : Nat → Int) (c_group : Nat → Int) (c_turn : Nat → Int) (c_size : Nat → Int) (c_old : Nat → Int) (c_aside : Nat → Int) (c_begin : Nat → Int) (c_level : Nat → Int) (c_asides : Int) (c_sorted : Nat → Int) (c_spot : Int) (c_rectangles : Int) (c_parts : Nat → Int) (c_visited : Nat → Int) (x1 : Int) (x2 : Int) (sz : Nat) (res : Int) (h : f_Mo_entry c_s x1 x2 = some res) : zMi l yX7_entry cX7_entry 6 rm_Mo_entry D (zt cI cZ cT) [.ref h_M, vI x1, vI x2] ((zMo cI cZ h_M q_M c_s c_past c_kept c_isKept c_pasts c_text c_typed c_rect c_item c_items c_itemLevel c_treated c_from c_group c_turn c_size c_old c_aside c_begin c_level c_asides c_sorted c_spot c_rectangles c_parts c_visited)) sz (res) (fun u => (zMo cI cZ h_M q_M c_s c_past c_kept c_isKept c_pasts c_text c_typed c_rect c_item c_items c_itemLevel c_treated c_from c_group c_turn c_size c_old c_aside c_begin c_level c_asides c_sorted c_spot c_rectangles c_parts c_visited)) 0 0 := by
  refine z_enth (Qc := zQi D (res) (fun u => (zMo cI cZ h_M q_M c_s c_past c_kept c_isKept c_pasts c_text c_typed c_rect c_item c_items c_itemLevel c_treated c_from c_group c_turn c_size c_old c_aside c_begin c_level c_asides c_sorted c_spot c_rectangles c_parts c_visited))) (by decide) (Nat.le_of_ble_eq_true rfl) (fun p e s m args below meth c A ls H locs hF hP hD hS hl => ?_)
  have hx := hF.1.1
  have hb := hF.1.2.1
  have hml := hF.1.2.2.1
  have hown : s.vm.findClass "RectangleTreeModel" = some m.cls := hF.1.2.2.2.1
  have hts := hF.1.2.2.2.2
  have hr := hF.2.1
  have hlk := hF.2.2.1
  have hK := hF.2.2.2.2.1
  have hN := hF.2.2.2.2.2.1
  have hA := hF.2.2.2.2.2.2
  unfold f_Mo_entry at h
  refine lv_aload_n hx hb dX7_entry_0 rfl (lv_at hl 0 rfl) ?_
  refine lv_iload_n hx hb dX7_entry_1 rfl (lv_at hl 1 rfl) ?_
  obtain ⟨r_1, e_2, h⟩ := bd1_e h
  refine z_goi (ws' := []) (ret := r_1) (wc := (zMo cI cZ (h_M) (q_M) (c_s) (c_past) (c_kept) (c_isKept) (c_pasts) (c_text) (c_typed) (c_rect) (c_item) (c_items) (c_itemLevel) (c_treated) (c_from) (c_group) (c_turn) (c_size) (c_old) (c_aside) (c_begin) (c_level) (c_asides) (c_sorted) (c_spot) (c_rectangles) (c_parts) (c_visited))) (wn := fun u_3 => (zMo cI cZ h_M q_M c_s c_past c_kept c_isKept c_pasts c_text c_typed c_rect c_item c_items c_itemLevel c_treated c_from c_group c_turn c_size c_old c_aside c_begin c_level c_asides c_sorted c_spot c_rectangles c_parts c_visited)) (wr := []) (va_runV (As := [vI x1]) (rest := []) hF.1 (c_Mo_nodeAt l D cI cZ cT h_M q_M c_s c_past c_kept c_isKept c_pasts c_text c_typed c_rect c_item c_items c_itemLevel c_treated c_from c_group c_turn c_size c_old c_aside c_begin c_level c_asides c_sorted c_spot c_rectangles c_parts c_visited x1 H.size (r_1) e_2) (cwV 1 hts (zgV wm1127 wm1129 wm76 wm89 wm1130) rfl rfl rfl (by decide +kernel) ⟨Nat.le_of_ble_eq_true rfl, Nat.le_of_ble_eq_true rfl⟩) ⟨zP.blind, va_recv hK (z_subP (ws' := (zMo cI cZ (h_M) (q_M) (c_s) (c_past) (c_kept) (c_isKept) (c_pasts) (c_text) (c_typed) (c_rect) (c_item) (c_items) (c_itemLevel) (c_treated) (c_from) (c_group) (c_turn) (c_size) (c_old) (c_aside) (c_begin) (c_level) (c_asides) (c_sorted) (c_spot) (c_rectangles) (c_parts) (c_visited))) hP [0, 1, 2, 3, 4, 5, 6, 7, 8, 9, 10, 11, 12, 13, 14, 15, 16, 17, 18] rfl) (ci := 7) (q0 := 0) rfl rfl, zP.enter (z_subP (ws' := (zMo cI cZ (h_M) (q_M) (c_s) (c_past) (c_kept) (c_isKept) (c_pasts) (c_text) (c_typed) (c_rect) (c_item) (c_items) (c_itemLevel) (c_treated) (c_from) (c_group) (c_turn) (c_size) (c_old) (c_aside) (c_begin) (c_level) (c_asides) (c_sorted) (c_spot) (c_rectangles) (c_parts) (c_visited))) hP [0, 1, 2, 3, 4, 5, 6, 7, 8, 9, 10, 11, 12, 13, 14, 15, 16, 17, 18] rfl) hK (hD.sub [0, 1, 2, 3, 4, 5, 6, 7, 8, 9, 10, 11, 12, 13, 14, 15, 16, 17, 18] (by decide) rfl) hN⟩ rfl rfl hl.1 rfl (lv_room (Nat.le_of_ble_eq_true rfl)) dX7_entry_2 ⟨Nat.le_refl _, Nat.le_refl _⟩) hP hD hS hA [0, 1, 2, 3, 4, 5, 6, 7, 8, 9, 10, 11, 12, 13, 14, 15, 16, 17, 18] [] [0, 1, 2, 3, 4, 5, 6, 7, 8, 9, 10, 11, 12, 13, 14, 15, 16, 17, 18] rfl rfl (by decide) (fun _ => rfl) (fun u_3 H locs hP hD hS hz => ?_)
  refine lv_istore_n (lv' := [(3, vI r_1), (0, .ref h_M), (1, vI x1), (2, vI x2)]) hx hb dX7_entry_5 rfl hl (by decide) rfl (fun ls hl => ?_)
  refine lv_iload_n hx hb dX7_entry_6 rfl (lv_at hl 0 rfl) ?_
  obtain ⟨g_4, h⟩ := gd_e h
  refine z_if_lt (tgt := 25) hx hb g_4 dX7_entry_7 (by decide) (fun b_5 => ?_) (fun b_5 => ?_)
  · have h := it_p b_5 h
    refine lv_iconst (v := Int32.ofInt (-1)) hx hb dX7_entry_25 rfl ?_
    obtain rfl := Option.some.inj h
    exact z_iret hx hb hr hlk (fun _ _ => 0) hP hD hS dX7_entry_26
  · have h := it_n b_5 h
    refine lv_iload_n hx hb dX7_entry_10 rfl (lv_at hl 3 rfl) ?_
    refine lv_iconst (v := Int32.ofInt 0) hx hb dX7_entry_11 rfl ?_
    refine lv_aload_n hx hb dX7_entry_12 rfl (lv_at hl 1 rfl) ?_
    refine lv_iload_n hx hb dX7_entry_13 rfl (lv_at hl 0 rfl) ?_
    obtain ⟨r_6, e_7, h⟩ := bd1_e h
    refine z_goi (ws' := []) (ret := r_6) (wc := (zMo cI cZ (h_M) (q_M) (c_s) (c_past) (c_kept) (c_isKept) (c_pasts) (c_text) (c_typed) (c_rect) (c_item) (c_items) (c_itemLevel) (c_treated) (c_from) (c_group) (c_turn) (c_size) (c_old) (c_aside) (c_begin) (c_level) (c_asides) (c_sorted) (c_spot) (c_rectangles) (c_parts) (c_visited))) (wn := fun u_8 => (zMo cI cZ h_M q_M c_s c_past c_kept c_isKept c_pasts c_text c_typed c_rect c_item c_items c_itemLevel c_treated c_from c_group c_turn c_size c_old c_aside c_begin c_level c_asides c_sorted c_spot c_rectangles c_parts c_visited)) (wr := []) (va_runV (As := [vI r_1]) (rest := [vI 0, vI x2]) hF.1 (c_Mo_entriesOf l D cI cZ cT h_M q_M c_s c_past c_kept c_isKept c_pasts c_text c_typed c_rect c_item c_items c_itemLevel c_treated c_from c_group c_turn c_size c_old c_aside c_begin c_level c_asides c_sorted c_spot c_rectangles c_parts c_visited r_1 H.size (r_6) e_7) (cwV 1 hts (zgV wm954 wm956 wm48 wm89 wm957) rfl rfl rfl (by decide +kernel) ⟨Nat.le_of_ble_eq_true rfl, Nat.le_of_ble_eq_true rfl⟩) ⟨zP.blind, va_recv hK (z_subP (ws' := (zMo cI cZ (h_M) (q_M) (c_s) (c_past) (c_kept) (c_isKept) (c_pasts) (c_text) (c_typed) (c_rect) (c_item) (c_items) (c_itemLevel) (c_treated) (c_from) (c_group) (c_turn) (c_size) (c_old) (c_aside) (c_begin) (c_level) (c_asides) (c_sorted) (c_spot) (c_rectangles) (c_parts) (c_visited))) hP [0, 1, 2, 3, 4, 5, 6, 7, 8, 9, 10, 11, 12, 13, 14, 15, 16, 17, 18] rfl) (ci := 7) (q0 := 0) rfl rfl, zP.enter (z_subP (ws' := (zMo cI cZ (h_M) (q_M) (c_s) (c_past) (c_kept) (c_isKept) (c_pasts) (c_text) (c_typed) (c_rect) (c_item) (c_items) (c_itemLevel) (c_treated) (c_from) (c_group) (c_turn) (c_size) (c_old) (c_aside) (c_begin) (c_level) (c_asides) (c_sorted) (c_spot) (c_rectangles) (c_parts) (c_visited))) hP [0, 1, 2, 3, 4, 5, 6, 7, 8, 9, 10, 11, 12, 13, 14, 15, 16, 17, 18] rfl) hK (hD.sub [0, 1, 2, 3, 4, 5, 6, 7, 8, 9, 10, 11, 12, 13, 14, 15, 16, 17, 18] (by decide) rfl) hN⟩ rfl rfl hl.1 rfl (lv_room (Nat.le_of_ble_eq_true rfl)) dX7_entry_14 ⟨Nat.le_refl _, Nat.le_refl _⟩) hP hD hS hA [0, 1, 2, 3, 4, 5, 6, 7, 8, 9, 10, 11, 12, 13, 14, 15, 16, 17, 18] [] [0, 1, 2, 3, 4, 5, 6, 7, 8, 9, 10, 11, 12, 13, 14, 15, 16, 17, 18] rfl rfl (by decide) (fun _ => rfl) (fun u_8 H locs hP hD hS hz => ?_)
    refine lv_iconst (v := Int32.ofInt 1) hx hb dX7_entry_17 rfl ?_
    refine z_isub hx hb dX7_entry_18 ?_
    obtain ⟨r_9, e_10, h⟩ := bd1_e h
    refine z_goi (ws' := []) (ret := r_9) (wc := ([] : va_W)) (wn := fun u_11 => (zMo cI cZ h_M q_M c_s c_past c_kept c_isKept c_pasts c_text c_typed c_rect c_item c_items c_itemLevel c_treated c_from c_group c_turn c_size c_old c_aside c_begin c_level c_asides c_sorted c_spot c_rectangles c_parts c_visited)) (wr := ([0, 1, 2, 3, 4, 5, 6, 7, 8, 9, 10, 11, 12, 13, 14, 15, 16, 17, 18].filterMap (fun i => ((zMo cI cZ h_M q_M c_s c_past c_kept c_isKept c_pasts c_text c_typed c_rect c_item c_items c_itemLevel c_treated c_from c_group c_turn c_size c_old c_aside c_begin c_level c_asides c_sorted c_spot c_rectangles c_parts c_visited))[i]?))) (va_runS (As := [vI x2, vI 0, vI (r_6 - 1)]) (rest := []) hF.1 (c_Mo_in l D cI cZ cT x2 0 (r_6 - 1) H.size (r_9) e_10) (va_cwS 3 hts (zgS wm874 wm875 wm89 wm876) rfl rfl rfl (by decide +kernel) ⟨Nat.le_of_ble_eq_true rfl, Nat.le_of_ble_eq_true rfl⟩) ⟨zP.blind, zP.enter (z_subP (ws' := ([] : va_W)) hP [] rfl) hK (hD.sub [] (by decide) rfl) hN⟩ rfl rfl hl.1 rfl (lv_room (Nat.le_of_ble_eq_true rfl)) dX7_entry_19 ⟨Nat.le_refl _, Nat.le_refl _⟩) hP hD hS hA [] [0, 1, 2, 3, 4, 5, 6, 7, 8, 9, 10, 11, 12, 13, 14, 15, 16, 17, 18] [0, 1, 2, 3, 4, 5, 6, 7, 8, 9, 10, 11, 12, 13, 14, 15, 16, 17, 18] rfl rfl (by decide) (fun _ => rfl) (fun u_11 H locs hP hD hS hz => ?_)
    obtain ⟨g_12, h⟩ := gd_e h
    refine z_if_ne (tgt := 27) hx hb g_12 dX7_entry_22 (by decide) (fun b_13 => ?_) (fun b_13 => ?_)
    · have h := it_n b_13 h
      refine lv_iload_n hx hb dX7_entry_27 rfl (lv_at hl 0 rfl) ?_
      refine lv_iconst (v := Int32.ofInt 1) hx hb dX7_entry_28 rfl ?_
      refine z_iadd hx hb dX7_entry_29 ?_
      refine lv_istore (lv' := [(4, vI (r_1 + 1)), (3, vI r_1), (0, .ref h_M), (1, vI x1), (2, vI x2)]) hx hb dX7_entry_30 hl (by decide) rfl (fun ls hl => ?_)
      refine lv_iconst (v := Int32.ofInt 0) hx hb dX7_entry_32 rfl ?_
      refine lv_istore (lv' := [(5, vI 0), (4, vI (r_1 + 1)), (3, vI r_1), (0, .ref h_M), (1, vI x1), (2, vI x2)]) hx hb dX7_entry_33 hl (by decide) rfl (fun ls hl => ?_)
      refine w_Mo_entry_L35 D cI cZ cT (h_M) (q_M) (c_s) (c_past) (c_kept) (c_isKept) (c_pasts) (c_text) (c_typed) (c_rect) (c_item) (c_items) (c_itemLevel) (c_treated) (c_from) (c_group) (c_turn) (c_size) (c_old) (c_aside) (c_begin) (c_level) (c_asides) (c_sorted) (c_spot) (c_rectangles) (c_parts) (c_visited) (x2) _ _ hF (fun x4_20 x5_21 H locs ls h hP hD hS hl => ?_) _ ((r_1 + 1)) (0) _ _ _ h hP hD hS (lv_sub hl [3, 5, 1, 0] rfl)
      refine lv_aload_n hx hb dX7_entry_55 rfl (lv_at hl 0 rfl) ?_
      refine lv_iload hx hb dX7_entry_56 (lv_at hl 1 rfl) ?_
      obtain ⟨r_22, e_23, h⟩ := bd1_e h
      refine z_goi (ws' := []) (ret := r_22) (wc := (zMo cI cZ (h_M) (q_M) (c_s) (c_past) (c_kept) (c_isKept) (c_pasts) (c_text) (c_typed) (c_rect) (c_item) (c_items) (c_itemLevel) (c_treated) (c_from) (c_group) (c_turn) (c_size) (c_old) (c_aside) (c_begin) (c_level) (c_asides) (c_sorted) (c_spot) (c_rectangles) (c_parts) (c_visited))) (wn := fun u_24 => (zMo cI cZ h_M q_M c_s c_past c_kept c_isKept c_pasts c_text c_typed c_rect c_item c_items c_itemLevel c_treated c_from c_group c_turn c_size c_old c_aside c_begin c_level c_asides c_sorted c_spot c_rectangles c_parts c_visited)) (wr := []) (va_runV (As := [vI x4_20]) (rest := []) hF.1 (c_Mo_at l D cI cZ cT h_M q_M c_s c_past c_kept c_isKept c_pasts c_text c_typed c_rect c_item c_items c_itemLevel c_treated c_from c_group c_turn c_size c_old c_aside c_begin c_level c_asides c_sorted c_spot c_rectangles c_parts c_visited x4_20 H.size (r_22) e_23) (cwV 1 hts (zgV wm915 wm917 wm39 wm89 wm918) rfl rfl rfl (by decide +kernel) ⟨Nat.le_of_ble_eq_true rfl, Nat.le_of_ble_eq_true rfl⟩) ⟨zP.blind, va_recv hK (z_subP (ws' := (zMo cI cZ (h_M) (q_M) (c_s) (c_past) (c_kept) (c_isKept) (c_pasts) (c_text) (c_typed) (c_rect) (c_item) (c_items) (c_itemLevel) (c_treated) (c_from) (c_group) (c_turn) (c_size) (c_old) (c_aside) (c_begin) (c_level) (c_asides) (c_sorted) (c_spot) (c_rectangles) (c_parts) (c_visited))) hP [0, 1, 2, 3, 4, 5, 6, 7, 8, 9, 10, 11, 12, 13, 14, 15, 16, 17, 18] rfl) (ci := 7) (q0 := 0) rfl rfl, zP.enter (z_subP (ws' := (zMo cI cZ (h_M) (q_M) (c_s) (c_past) (c_kept) (c_isKept) (c_pasts) (c_text) (c_typed) (c_rect) (c_item) (c_items) (c_itemLevel) (c_treated) (c_from) (c_group) (c_turn) (c_size) (c_old) (c_aside) (c_begin) (c_level) (c_asides) (c_sorted) (c_spot) (c_rectangles) (c_parts) (c_visited))) hP [0, 1, 2, 3, 4, 5, 6, 7, 8, 9, 10, 11, 12, 13, 14, 15, 16, 17, 18] rfl) hK (hD.sub [0, 1, 2, 3, 4, 5, 6, 7, 8, 9, 10, 11, 12, 13, 14, 15, 16, 17, 18] (by decide) rfl) hN⟩ rfl rfl hl.1 rfl (lv_room (Nat.le_of_ble_eq_true rfl)) dX7_entry_58 ⟨Nat.le_refl _, Nat.le_refl _⟩) hP hD hS hA [0, 1, 2, 3, 4, 5, 6, 7, 8, 9, 10, 11, 12, 13, 14, 15, 16, 17, 18] [] [0, 1, 2, 3, 4, 5, 6, 7, 8, 9, 10, 11, 12, 13, 14, 15, 16, 17, 18] rfl rfl (by decide) (fun _ => rfl) (fun u_24 H locs hP hD hS hz => ?_)
      obtain ⟨g_25, h⟩ := gd_e h
      refine z_if_lt (tgt := 73) hx hb g_25 dX7_entry_61 (by decide) (fun b_26 => ?_) (fun b_26 => ?_)
      · have h := it_p b_26 h
        refine lv_aload_n hx hb dX7_entry_73 rfl (lv_at hl 0 rfl) ?_
        refine lv_iload hx hb dX7_entry_74 (lv_at hl 1 rfl) ?_
        obtain ⟨r_27, e_28, h⟩ := bd1_e h
        refine z_goi (ws' := []) (ret := r_27) (wc := (zMo cI cZ (h_M) (q_M) (c_s) (c_past) (c_kept) (c_isKept) (c_pasts) (c_text) (c_typed) (c_rect) (c_item) (c_items) (c_itemLevel) (c_treated) (c_from) (c_group) (c_turn) (c_size) (c_old) (c_aside) (c_begin) (c_level) (c_asides) (c_sorted) (c_spot) (c_rectangles) (c_parts) (c_visited))) (wn := fun u_29 => (zMo cI cZ h_M q_M c_s c_past c_kept c_isKept c_pasts c_text c_typed c_rect c_item c_items c_itemLevel c_treated c_from c_group c_turn c_size c_old c_aside c_begin c_level c_asides c_sorted c_spot c_rectangles c_parts c_visited)) (wr := []) (va_runV (As := [vI x4_20]) (rest := []) hF.1 (c_Mo_nodesAhead l D cI cZ cT h_M q_M c_s c_past c_kept c_isKept c_pasts c_text c_typed c_rect c_item c_items c_itemLevel c_treated c_from c_group c_turn c_size c_old c_aside c_begin c_level c_asides c_sorted c_spot c_rectangles c_parts c_visited x4_20 H.size (r_27) e_28) (cwV 1 hts (zgV wm1054 wm1056 wm70 wm89 wm1057) rfl rfl rfl (by decide +kernel) ⟨Nat.le_of_ble_eq_true rfl, Nat.le_of_ble_eq_true rfl⟩) ⟨zP.blind, va_recv hK (z_subP (ws' := (zMo cI cZ (h_M) (q_M) (c_s) (c_past) (c_kept) (c_isKept) (c_pasts) (c_text) (c_typed) (c_rect) (c_item) (c_items) (c_itemLevel) (c_treated) (c_from) (c_group) (c_turn) (c_size) (c_old) (c_aside) (c_begin) (c_level) (c_asides) (c_sorted) (c_spot) (c_rectangles) (c_parts) (c_visited))) hP [0, 1, 2, 3, 4, 5, 6, 7, 8, 9, 10, 11, 12, 13, 14, 15, 16, 17, 18] rfl) (ci := 7) (q0 := 0) rfl rfl, zP.enter (z_subP (ws' := (zMo cI cZ (h_M) (q_M) (c_s) (c_past) (c_kept) (c_isKept) (c_pasts) (c_text) (c_typed) (c_rect) (c_item) (c_items) (c_itemLevel) (c_treated) (c_from) (c_group) (c_turn) (c_size) (c_old) (c_aside) (c_begin) (c_level) (c_asides) (c_sorted) (c_spot) (c_rectangles) (c_parts) (c_visited))) hP [0, 1, 2, 3, 4, 5, 6, 7, 8, 9, 10, 11, 12, 13, 14, 15, 16, 17, 18] rfl) hK (hD.sub [0, 1, 2, 3, 4, 5, 6, 7, 8, 9, 10, 11, 12, 13, 14, 15, 16, 17, 18] (by decide) rfl) hN⟩ rfl rfl hl.1 rfl (lv_room (Nat.le_of_ble_eq_true rfl)) dX7_entry_76 ⟨Nat.le_refl _, Nat.le_refl _⟩) hP hD hS hA [0, 1, 2, 3, 4, 5, 6, 7, 8, 9, 10, 11, 12, 13, 14, 15, 16, 17, 18] [] [0, 1, 2, 3, 4, 5, 6, 7, 8, 9, 10, 11, 12, 13, 14, 15, 16, 17, 18] rfl rfl (by decide) (fun _ => rfl) (fun u_29 H locs hP hD hS hz => ?_)
        obtain rfl := Option.some.inj h
        exact z_iret hx hb hr hlk (fun _ _ => 0) hP hD hS dX7_entry_79
      · have h := it_n b_26 h
        refine lv_aload_n hx hb dX7_entry_64 rfl (lv_at hl 0 rfl) ?_
        refine lv_iload hx hb dX7_entry_65 (lv_at hl 1 rfl) ?_
        obtain ⟨r_30, e_31, h⟩ := bd1_e h
        refine z_goi (ws' := []) (ret := r_30) (wc := (zMo cI cZ (h_M) (q_M) (c_s) (c_past) (c_kept) (c_isKept) (c_pasts) (c_text) (c_typed) (c_rect) (c_item) (c_items) (c_itemLevel) (c_treated) (c_from) (c_group) (c_turn) (c_size) (c_old) (c_aside) (c_begin) (c_level) (c_asides) (c_sorted) (c_spot) (c_rectangles) (c_parts) (c_visited))) (wn := fun u_32 => (zMo cI cZ h_M q_M c_s c_past c_kept c_isKept c_pasts c_text c_typed c_rect c_item c_items c_itemLevel c_treated c_from c_group c_turn c_size c_old c_aside c_begin c_level c_asides c_sorted c_spot c_rectangles c_parts c_visited)) (wr := []) (va_runV (As := [vI x4_20]) (rest := []) hF.1 (c_Mo_at l D cI cZ cT h_M q_M c_s c_past c_kept c_isKept c_pasts c_text c_typed c_rect c_item c_items c_itemLevel c_treated c_from c_group c_turn c_size c_old c_aside c_begin c_level c_asides c_sorted c_spot c_rectangles c_parts c_visited x4_20 H.size (r_30) e_31) (cwV 1 hts (zgV wm915 wm917 wm39 wm89 wm918) rfl rfl rfl (by decide +kernel) ⟨Nat.le_of_ble_eq_true rfl, Nat.le_of_ble_eq_true rfl⟩) ⟨zP.blind, va_recv hK (z_subP (ws' := (zMo cI cZ (h_M) (q_M) (c_s) (c_past) (c_kept) (c_isKept) (c_pasts) (c_text) (c_typed) (c_rect) (c_item) (c_items) (c_itemLevel) (c_treated) (c_from) (c_group) (c_turn) (c_size) (c_old) (c_aside) (c_begin) (c_level) (c_asides) (c_sorted) (c_spot) (c_rectangles) (c_parts) (c_visited))) hP [0, 1, 2, 3, 4, 5, 6, 7, 8, 9, 10, 11, 12, 13, 14, 15, 16, 17, 18] rfl) (ci := 7) (q0 := 0) rfl rfl, zP.enter (z_subP (ws' := (zMo cI cZ (h_M) (q_M) (c_s) (c_past) (c_kept) (c_isKept) (c_pasts) (c_text) (c_typed) (c_rect) (c_item) (c_items) (c_itemLevel) (c_treated) (c_from) (c_group) (c_turn) (c_size) (c_old) (c_aside) (c_begin) (c_level) (c_asides) (c_sorted) (c_spot) (c_rectangles) (c_parts) (c_visited))) hP [0, 1, 2, 3, 4, 5, 6, 7, 8, 9, 10, 11, 12, 13, 14, 15, 16, 17, 18] rfl) hK (hD.sub [0, 1, 2, 3, 4, 5, 6, 7, 8, 9, 10, 11, 12, 13, 14, 15, 16, 17, 18] (by decide) rfl) hN⟩ rfl rfl hl.1 rfl (lv_room (Nat.le_of_ble_eq_true rfl)) dX7_entry_67 ⟨Nat.le_refl _, Nat.le_refl _⟩) hP hD hS hA [0, 1, 2, 3, 4, 5, 6, 7, 8, 9, 10, 11, 12, 13, 14, 15, 16, 17, 18] [] [0, 1, 2, 3, 4, 5, 6, 7, 8, 9, 10, 11, 12, 13, 14, 15, 16, 17, 18] rfl rfl (by decide) (fun _ => rfl) (fun u_32 H locs hP hD hS hz => ?_)
        refine lv_goto (tgt := 79) hx hb dX7_entry_70 (by decide) ?_
        obtain rfl := Option.some.inj h
        exact z_iret hx hb hr hlk (fun _ _ => 0) hP hD hS dX7_entry_79
    · have h := it_p b_13 h
      refine lv_iconst (v := Int32.ofInt (-1)) hx hb dX7_entry_25 rfl ?_
      obtain rfl := Option.some.inj h
      exact z_iret hx hb hr hlk (fun _ _ => 0) hP hD hS dX7_entry_26
