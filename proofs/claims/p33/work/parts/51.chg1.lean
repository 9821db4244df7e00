def f_Wk_placeOf_L2 (K : KV) (x1 : Int) (k : Int → Option (Int)) : Nat → Int → Option (Int)
  | 0, _ => none
  | n + 1, x2 =>
  gd (ck x2) <| gd (ck (kCnt K)) <| if x2 < (kCnt K) then (bd1 (f_Rt_at (kLen K) (kItm K) x2) <| fun r_4 => gd (ck r_4) <| gd (ck x1) <| if r_4 = x1 then (some (x2)) else (f_Wk_placeOf_L2 K x1 k n ((x2 + 1)))) else (k (x2))
def f_Wk_placeOf (K : KV) (x1 : Int) : Option (Int) :=
  f_Wk_placeOf_L2 (K) (x1) (fun x2_10 => some ((-1))) FU (0)
abbrev rm_Wk_placeOf : Room := ({ frames := 1, cells := 0, slots := 0, locals := 21 } : Room)
set_option maxHeartbeats 4000000 in
set_option maxRecDepth 100000 in
theorem w_Wk_placeOf_L2 {p : Program} {l : Launch} {e : Env} {s : State} {m : MethodId} {args : Array Value} {below : List Frame} {meth : Method} {c : Code} {A : Nat → Prop} (D : va_G) (cI cZ cT : ClassId) (h_K : Nat) (q_K : Nat → Nat) (K : KV) (x1 : Int) (res : Int) (k : Int → Option (Int)) (hF : zF p m c cX5_placeOf 3 s args yX5_placeOf.cls meth (some .int) yX5_placeOf.name A D (zt cI cZ cT))
    (hk : ∀ (x2 : Int) (H : Heap) (locs : List Loc) (ls : Array Slot), k x2 = some res → va_P D vwCl ((zWk cI h_K q_K K)) H → va_D A ((zWk cI h_K q_K K)) → va_S A s.heap H locs → lv_has ls 3 [] → W p l e rm_Wk_placeOf s m args below meth c H locs 0 0 (MQ below (zQi D (res) (fun u => (zWk cI h_K q_K K)) A) args s 0 0 A) (F0 m 30 ls [])) :
    ∀ (n : Nat) (x2 : Int) (H : Heap) (locs : List Loc) (ls : Array Slot), f_Wk_placeOf_L2 K x1 k n x2 = some res → va_P D vwCl ((zWk cI h_K q_K K)) H → va_D A ((zWk cI h_K q_K K)) → va_S A s.heap H locs → lv_has ls 3 [(0, .ref h_K), (1, vI x1), (2, vI x2)] → W p l e rm_Wk_placeOf s m args below meth c H locs 0 0 (MQ below (zQi D (res) (fun u => (zWk cI h_K q_K K)) A) args s 0 0 A) (F0 m 2 ls []) := by
  have hx := hF.1.1
  have hb := hF.1.2.1
  have hml := hF.1.2.2.1
  have hown : s.vm.findClass "RectangleTree$Walk" = some m.cls := hF.1.2.2.2.1
  have hts := hF.1.2.2.2.2
  have hr := hF.2.1
  have hlk := hF.2.2.1
  have hK := hF.2.2.2.2.1
  have hN := hF.2.2.2.2.2.1
  have hA := hF.2.2.2.2.2.2
  intro n
  induction n with
  | zero => intro x2 H locs ls h; cases h
  | succ n ih =>
    intro x2 H locs ls h hP hD hS hl
    rw [f_Wk_placeOf_L2] at h
    refine lv_iload_n hx hb dX5_placeOf_2 rfl (lv_at hl 2 rfl) ?_
    refine lv_aload_n hx hb dX5_placeOf_3 rfl (lv_at hl 0 rfl) ?_
    refine va_get (D := D) (ci := 5) (v := vI (kCnt K)) (C := RX5) (T := TX5) (N := 3) hx hb hts zin5 hown hK hP 0 rfl rfl 1 (by decide) (hts _ wm121) (fun _ h9 => h9) rfl dX5_placeOf_4 ?_
    obtain ⟨g_1, h⟩ := gd_e h
    obtain ⟨g_2, h⟩ := gd_e h
    refine z_icmp_ge (tgt := 30) hx hb g_1 g_2 dX5_placeOf_7 (by decide) (fun b_3 => ?_) (fun b_3 => ?_)
    · have h := it_n b_3 h
      exact hk (x2) H locs ls h hP hD hS (lv_sub hl [] rfl)
    · have h := it_p b_3 h
      refine lv_aload_n hx hb dX5_placeOf_10 rfl (lv_at hl 0 rfl) ?_
      refine va_get (D := D) (ci := 5) (v := .ref (q_K 0)) (C := RX5) (T := TX5) (N := 3) hx hb hts zin5 hown hK hP 0 rfl rfl 0 (by decide) (hts _ wm118) (fun _ h9 => h9) rfl dX5_placeOf_11 ?_
      refine lv_iload_n hx hb dX5_placeOf_14 rfl (lv_at hl 2 rfl) ?_
      obtain ⟨r_4, e_5, h⟩ := bd1_e h
      refine z_goi (ws' := []) (ret := r_4) (wc := (zAr cI ((q_K 0)) ((kLen K)) ((kItm K)))) (wn := fun u_6 => (zWk cI h_K q_K K)) (wr := ([0, 2].filterMap (fun i => ((zWk cI h_K q_K K))[i]?))) (va_runSN (As := [.ref (q_K 0), vI x2]) (rest := []) hF.1 (c_Rt_at l D cI cZ cT (q_K 0) (kLen K) (kItm K) x2 H.size (r_4) e_5) ⟨va_cnB 2 hts (zW_good wm229) rfl rfl rfl (hN.at 5 rfl) (hts _ wm32) (by decide +kernel) ⟨Nat.le_of_ble_eq_true rfl, Nat.le_of_ble_eq_true rfl⟩, hts _ wm228, trivial⟩ ⟨zP.blind, zP.enter (z_subP (ws' := (zAr cI ((q_K 0)) ((kLen K)) ((kItm K)))) hP [1] rfl) hK (hD.sub [1] (by decide) rfl) hN⟩ rfl rfl hl.1 rfl (lv_room (Nat.le_of_ble_eq_true rfl)) dX5_placeOf_15 ⟨Nat.le_refl _, Nat.le_refl _⟩) hP hD hS hA [1] [0, 2] [0, 2, 1] rfl rfl (by decide) (fun _ => rfl) (fun u_6 H locs hP hD hS hz => ?_)
      refine lv_iload_n hx hb dX5_placeOf_18 rfl (lv_at hl 1 rfl) ?_
      obtain ⟨g_7, h⟩ := gd_e h
      obtain ⟨g_8, h⟩ := gd_e h
      refine z_icmp_ne (tgt := 24) hx hb g_7 g_8 dX5_placeOf_19 (by decide) (fun b_9 => ?_) (fun b_9 => ?_)
      · have h := it_n b_9 h
        refine lv_iinc (v := Int32.ofInt (x2 + 1)) (lv' := [(2, vI (x2 + 1)), (0, .ref h_K), (1, vI x1)]) hx hb dX5_placeOf_24 hl (k := 2) rfl (z_inc _ _) (by decide) rfl (fun ls hl => ?_)
        refine lv_goto (tgt := 2) hx hb dX5_placeOf_27 (by decide) ?_
        exact ih ((x2 + 1)) H locs ls h hP hD hS (lv_sub hl [1, 2, 0] rfl)
      · have h := it_p b_9 h
        refine lv_iload_n hx hb dX5_placeOf_22 rfl (lv_at hl 2 rfl) ?_
        obtain rfl := Option.some.inj h
        exact z_iret hx hb hr hlk (fun _ _ => 0) hP hD hS dX5_placeOf_23
set_option maxHeartbeats 4000000 in
set_option maxRecDepth 100000 in
theorem c_Wk_placeOf (l : Launch) (D : va_G) (cI cZ cT : ClassId) (h_K : Nat) (q_K : Nat → Nat) (K : KV) (x1 : Int) (sz : Nat) (res : Int) (h : f_Wk_placeOf K x1 = some res) : zMi l yX5_placeOf cX5_placeOf 3 rm_Wk_placeOf D (zt cI cZ cT) [.ref h_K, vI x1] ((zWk cI h_K q_K K)) sz (res) (fun u => (zWk cI h_K q_K K)) 0 0 := by
  refine z_enth (Qc := zQi D (res) (fun u => (zWk cI h_K q_K K))) (by decide) (Nat.le_of_ble_eq_true rfl) (fun p e s m args below meth c A ls H locs hF hP hD hS hl => ?_)
  have hx := hF.1.1
  have hb := hF.1.2.1
  have hml := hF.1.2.2.1
  have hown : s.vm.findClass "RectangleTree$Walk" = some m.cls := hF.1.2.2.2.1
  have hts := hF.1.2.2.2.2
  have hr := hF.2.1
  have hlk := hF.2.2.1
  have hK := hF.2.2.2.2.1
  have hN := hF.2.2.2.2.2.1
  have hA := hF.2.2.2.2.2.2
  unfold f_Wk_placeOf at h
  refine lv_iconst (v := Int32.ofInt 0) hx hb dX5_placeOf_0 rfl ?_
  refine lv_istore_n (lv' := [(2, vI 0), (0, .ref h_K), (1, vI x1)]) hx hb dX5_placeOf_1 rfl hl (by decide) rfl (fun ls hl => ?_)
  refine w_Wk_placeOf_L2 D cI cZ cT (h_K) (q_K) (K) (x1) _ _ hF (fun x2_10 H locs ls h hP hD hS hl => ?_) _ (0) _ _ _ h hP hD hS (lv_sub hl [1, 2, 0] rfl)
  refine lv_iconst (v := Int32.ofInt (-1)) hx hb dX5_placeOf_30 rfl ?_
  obtain rfl := Option.some.inj h
  exact z_iret hx hb hr hlk (fun _ _ => 0) hP hD hS dX5_placeOf_31
def f_Ch_bestEntry_L21 (T : TV) (x1 : Int) (x2 : Int) (x6 : Int) (k : Int → Int → Int → Int → Option (Int)) : Nat → Int → Int → Int → Int → Option (Int)
  | 0, _, _, _, _ => none
  | n + 1, x3, x4, x5, x7 =>
  gd (ck x7) <| gd (ck x6) <| if x7 < x6 then (bd1 (f_Tr_entryAt T x1 x7) <| fun r_7 => bd1 (f_Tr_areaOf T r_7) <| fun r_10 => bd1 (f_Tr_unionArea T r_7 x2) <| fun r_13 => gd (ck x3) <| if x3 = (-1) then (f_Ch_bestEntry_L21 T x1 x2 x6 k n (r_7) ((r_13 - r_10)) (r_10) ((x7 + 1))) else (gd (ck (r_13 - r_10)) <| gd (ck x4) <| if (r_13 - r_10) < x4 then (f_Ch_bestEntry_L21 T x1 x2 x6 k n (r_7) ((r_13 - r_10)) (r_10) ((x7 + 1))) else (if (r_13 - r_10) = x4 then (gd (ck r_10) <| gd (ck x5) <| if r_10 < x5 then (f_Ch_bestEntry_L21 T x1 x2 x6 k n (r_7) ((r_13 - r_10)) (r_10) ((x7 + 1))) else (f_Ch_bestEntry_L21 T x1 x2 x6 k n (x3) (x4) (x5) ((x7 + 1)))) else (f_Ch_bestEntry_L21 T x1 x2 x6 k n (x3) (x4) (x5) ((x7 + 1)))))) else (k (x3) (x4) (x5) (x7))
def f_Ch_bestEntry (T : TV) (x1 : Int) (x2 : Int) : Option (Int) :=
  bd1 (f_Tr_sizeOf T x1) <| fun r_1 => f_Ch_bestEntry_L21 (T) (x1) (x2) (r_1) (fun x3_25 x4_26 x5_27 x7_28 => some (x3_25)) FU ((-1)) (0) (0) (0)
abbrev rm_Ch_bestEntry : Room := ({ frames := 2, cells := 0, slots := 0, locals := 47 } : Room)
set_option maxHeartbeats 4000000 in
set_option maxRecDepth 100000 in
theorem w_Ch_bestEntry_L21 {p : Program} {l : Launch} {e : Env} {s : State} {m : MethodId} {args : Array Value} {below : List Frame} {meth : Method} {c : Code} {A : Nat → Prop} (D : va_G) (cI cZ cT : ClassId) (h_C : Nat) (q_C : Nat → Nat) (h_T : Nat) (h_LB : Nat) (h_LN : Nat) (q_T : Nat → Nat) (q_LB : Nat → Nat) (q_LN : Nat → Nat) (c_kept : Nat → Int) (c_keptCount : Int) (c_pool : Nat → Int) (c_left : Int) (c_treated : Int64) (T : TV) (LB : KV) (LN : KV) (x1 : Int) (x2 : Int) (x6 : Int) (res : Int) (k : Int → Int → Int → Int → Option (Int)) (hF : zF p m c cX0_bestEntry 11 s args yX0_bestEntry.cls meth (some .int) yX0_bestEntry.name A D (zt cI cZ cT))
    (hk : ∀ (x3 : Int) (x4 : Int) (x5 : Int) (x7 : Int) (H : Heap) (locs : List Loc) (ls : Array Slot), k x3 x4 x5 x7 = some res → va_P D vwCl ((zCh cI h_C q_C h_T h_LB h_LN c_kept c_keptCount c_pool c_left c_treated) ++ (zTr cI h_T q_T T) ++ (zWk cI h_LB q_LB LB) ++ (zWk cI h_LN q_LN LN)) H → va_D A ((zCh cI h_C q_C h_T h_LB h_LN c_kept c_keptCount c_pool c_left c_treated) ++ (zTr cI h_T q_T T) ++ (zWk cI h_LB q_LB LB) ++ (zWk cI h_LN q_LN LN)) → va_S A s.heap H locs → lv_has ls 11 [(3, vI x3)] → W p l e rm_Ch_bestEntry s m args below meth c H locs 0 0 (MQ below (zQi D (res) (fun u => (zCh cI h_C q_C h_T h_LB h_LN c_kept c_keptCount c_pool c_left c_treated) ++ (zTr cI h_T q_T T) ++ (zWk cI h_LB q_LB LB) ++ (zWk cI h_LN q_LN LN)) A) args s 0 0 A) (F0 m 109 ls [])) :
    ∀ (n : Nat) (x3 : Int) (x4 : Int) (x5 : Int) (x7 : Int) (H : Heap) (locs : List Loc) (ls : Array Slot), f_Ch_bestEntry_L21 T x1 x2 x6 k n x3 x4 x5 x7 = some res → va_P D vwCl ((zCh cI h_C q_C h_T h_LB h_LN c_kept c_keptCount c_pool c_left c_treated) ++ (zTr cI h_T q_T T) ++ (zWk cI h_LB q_LB LB) ++ (zWk cI h_LN q_LN LN)) H → va_D A ((zCh cI h_C q_C h_T h_LB h_LN c_kept c_keptCount c_pool c_left c_treated) ++ (zTr cI h_T q_T T) ++ (zWk cI h_LB q_LB LB) ++ (zWk cI h_LN q_LN LN)) → va_S A s.heap H locs → lv_has ls 11 [(0, .ref h_C), (1, vI x1), (2, vI x2), (3, vI x3), (4, vI x4), (5, vI x5), (6, vI x6), (7, vI x7)] → W p l e rm_Ch_bestEntry s m args below meth c H locs 0 0 (MQ below (zQi D (res) (fun u => (zCh cI h_C q_C h_T h_LB h_LN c_kept c_keptCount c_pool c_left c_treated) ++ (zTr cI h_T q_T T) ++ (zWk cI h_LB q_LB LB) ++ (zWk cI h_LN q_LN LN)) A) args s 0 0 A) (F0 m 21 ls []) := by
  have hx := hF.1.1
  have hb := hF.1.2.1
  have hml := hF.1.2.2.1
  have hown : s.vm.findClass "RectangleTree$Changes" = some m.cls := hF.1.2.2.2.1
  have hts := hF.1.2.2.2.2
  have hr := hF.2.1
  have hlk := hF.2.2.1
  have hK := hF.2.2.2.2.1
  have hN := hF.2.2.2.2.2.1
  have hA := hF.2.2.2.2.2.2
  intro n
  induction n with
  | zero => intro x3 x4 x5 x7 H locs ls h; cases h
  | succ n ih =>
    intro x3 x4 x5 x7 H locs ls h hP hD hS hl
    rw [f_Ch_bestEntry_L21] at h
    refine lv_iload hx hb dX0_bestEntry_21 (lv_at hl 7 rfl) ?_
    refine lv_iload hx hb dX0_bestEntry_23 (lv_at hl 6 rfl) ?_
    obtain ⟨g_4, h⟩ := gd_e h
    obtain ⟨g_5, h⟩ := gd_e h
    refine z_icmp_ge (tgt := 109) hx hb g_4 g_5 dX0_bestEntry_25 (by decide) (fun b_6 => ?_) (fun b_6 => ?_)
    · have h := it_n b_6 h
      exact hk (x3) (x4) (x5) (x7) H locs ls h hP hD hS (lv_sub hl [3] rfl)
    · have h := it_p b_6 h
      refine lv_aload_n hx hb dX0_bestEntry_28 rfl (lv_at hl 0 rfl) ?_
      refine va_get (D := D) (ci := 0) (v := .ref h_T) (C := RX0) (T := TX0) (N := 8) hx hb hts zin0 hown hK hP 0 rfl rfl 0 (by decide) (hts _ wm132) (fun _ h9 => h9) rfl dX0_bestEntry_29 ?_
      refine lv_iload_n hx hb dX0_bestEntry_32 rfl (lv_at hl 1 rfl) ?_
      refine lv_iload hx hb dX0_bestEntry_33 (lv_at hl 7 rfl) ?_
      obtain ⟨r_7, e_8, h⟩ := bd1_e h
      refine z_goi (ws' := []) (ret := r_7) (wc := (zTr cI (h_T) (q_T) (T))) (wn := fun u_9 => (zCh cI h_C q_C h_T h_LB h_LN c_kept c_keptCount c_pool c_left c_treated) ++ (zTr cI h_T q_T T) ++ (zWk cI h_LB q_LB LB) ++ (zWk cI h_LN q_LN LN)) (wr := ([0, 1, 2, 9, 10, 11, 12, 13, 14].filterMap (fun i => ((zCh cI h_C q_C h_T h_LB h_LN c_kept c_keptCount c_pool c_left c_treated) ++ (zTr cI h_T q_T T) ++ (zWk cI h_LB q_LB LB) ++ (zWk cI h_LN q_LN LN))[i]?))) (va_runV (As := [vI x1, vI x7]) (rest := []) hF.1 (c_Tr_entryAt l D cI cZ cT h_T q_T T x1 x7 H.size (r_7) e_8) (cwV 2 hts (zgV wm511 wm235 wm236 wm33 wm237) rfl rfl rfl (by decide +kernel) ⟨Nat.le_of_ble_eq_true rfl, Nat.le_of_ble_eq_true rfl⟩) ⟨zP.blind, va_recv hK (z_subP (ws' := (zTr cI (h_T) (q_T) (T))) hP [3, 4, 5, 6, 7, 8] rfl) (ci := 4) (q0 := 0) rfl rfl, zP.enter (z_subP (ws' := (zTr cI (h_T) (q_T) (T))) hP [3, 4, 5, 6, 7, 8] rfl) hK (hD.sub [3, 4, 5, 6, 7, 8] (by decide) rfl) hN⟩ rfl rfl hl.1 rfl (lv_room (Nat.le_of_ble_eq_true rfl)) dX0_bestEntry_35 ⟨Nat.le_refl _, Nat.le_refl _⟩) hP hD hS hA [3, 4, 5, 6, 7, 8] [0, 1, 2, 9, 10, 11, 12, 13, 14] [0, 1, 2, 9, 10, 11, 12, 13, 14, 3, 4, 5, 6, 7, 8] rfl rfl (by decide) (fun _ => rfl) (fun u_9 H locs hP hD hS hz => ?_)
      refine lv_istore (lv' := [(8, vI r_7), (0, .ref h_C), (1, vI x1), (2, vI x2), (3, vI x3), (4, vI x4), (5, vI x5), (6, vI x6), (7, vI x7)]) hx hb dX0_bestEntry_38 hl (by decide) rfl (fun ls hl => ?_)
      refine lv_aload_n hx hb dX0_bestEntry_40 rfl (lv_at hl 1 rfl) ?_
      refine va_get (D := D) (ci := 0) (v := .ref h_T) (C := RX0) (T := TX0) (N := 8) hx hb hts zin0 hown hK hP 0 rfl rfl 0 (by decide) (hts _ wm132) (fun _ h9 => h9) rfl dX0_bestEntry_41 ?_
      refine lv_iload hx hb dX0_bestEntry_44 (lv_at hl 0 rfl) ?_
      obtain ⟨r_10, e_11, h⟩ := bd1_e h
      refine z_goi (ws' := []) (ret := r_10) (wc := (zTr cI (h_T) (q_T) (T))) (wn := fun u_12 => (zCh cI h_C q_C h_T h_LB h_LN c_kept c_keptCount c_pool c_left c_treated) ++ (zTr cI h_T q_T T) ++ (zWk cI h_LB q_LB LB) ++ (zWk cI h_LN q_LN LN)) (wr := ([0, 1, 2, 9, 10, 11, 12, 13, 14].filterMap (fun i => ((zCh cI h_C q_C h_T h_LB h_LN c_kept c_keptCount c_pool c_left c_treated) ++ (zTr cI h_T q_T T) ++ (zWk cI h_LB q_LB LB) ++ (zWk cI h_LN q_LN LN))[i]?))) (va_runV (As := [vI r_7]) (rest := []) hF.1 (c_Tr_areaOf l D cI cZ cT h_T q_T T r_7 H.size (r_10) e_11) (cwV 1 hts (zgV wm512 wm384 wm385 wm33 wm386) rfl rfl rfl (by decide +kernel) ⟨Nat.le_of_ble_eq_true rfl, Nat.le_of_ble_eq_true rfl⟩) ⟨zP.blind, va_recv hK (z_subP (ws' := (zTr cI (h_T) (q_T) (T))) hP [3, 4, 5, 6, 7, 8] rfl) (ci := 4) (q0 := 0) rfl rfl, zP.enter (z_subP (ws' := (zTr cI (h_T) (q_T) (T))) hP [3, 4, 5, 6, 7, 8] rfl) hK (hD.sub [3, 4, 5, 6, 7, 8] (by decide) rfl) hN⟩ rfl rfl hl.1 rfl (lv_room (Nat.le_of_ble_eq_true rfl)) dX0_bestEntry_46 ⟨Nat.le_refl _, Nat.le_refl _⟩) hP hD hS hA [3, 4, 5, 6, 7, 8] [0, 1, 2, 9, 10, 11, 12, 13, 14] [0, 1, 2, 9, 10, 11, 12, 13, 14, 3, 4, 5, 6, 7, 8] rfl rfl (by decide) (fun _ => rfl) (fun u_12 H locs hP hD hS hz => ?_)
      refine lv_istore (lv' := [(9, vI r_10), (8, vI r_7), (0, .ref h_C), (1, vI x1), (2, vI x2), (3, vI x3), (4, vI x4), (5, vI x5), (6, vI x6), (7, vI x7)]) hx hb dX0_bestEntry_49 hl (by decide) rfl (fun ls hl => ?_)
      refine lv_aload_n hx hb dX0_bestEntry_51 rfl (lv_at hl 2 rfl) ?_
      refine va_get (D := D) (ci := 0) (v := .ref h_T) (C := RX0) (T := TX0) (N := 8) hx hb hts zin0 hown hK hP 0 rfl rfl 0 (by decide) (hts _ wm132) (fun _ h9 => h9) rfl dX0_bestEntry_52 ?_
      refine lv_iload hx hb dX0_bestEntry_55 (lv_at hl 1 rfl) ?_
      refine lv_iload_n hx hb dX0_bestEntry_57 rfl (lv_at hl 4 rfl) ?_
      obtain ⟨r_13, e_14, h⟩ := bd1_e h
      refine z_goi (ws' := []) (ret := r_13) (wc := (zTr cI (h_T) (q_T) (T))) (wn := fun u_15 => (zCh cI h_C q_C h_T h_LB h_LN c_kept c_keptCount c_pool c_left c_treated) ++ (zTr cI h_T q_T T) ++ (zWk cI h_LB q_LB LB) ++ (zWk cI h_LN q_LN LN)) (wr := ([0, 1, 2, 9, 10, 11, 12, 13, 14].filterMap (fun i => ((zCh cI h_C q_C h_T h_LB h_LN c_kept c_keptCount c_pool c_left c_treated) ++ (zTr cI h_T q_T T) ++ (zWk cI h_LB q_LB LB) ++ (zWk cI h_LN q_LN LN))[i]?))) (va_runV (As := [vI r_7, vI x2]) (rest := []) hF.1 (c_Tr_unionArea l D cI cZ cT h_T q_T T r_7 x2 H.size (r_13) e_14) (cwV 2 hts (zgV wm513 wm514 wm515 wm33 wm516) rfl rfl rfl (by decide +kernel) ⟨Nat.le_of_ble_eq_true rfl, Nat.le_of_ble_eq_true rfl⟩) ⟨zP.blind, va_recv hK (z_subP (ws' := (zTr cI (h_T) (q_T) (T))) hP [3, 4, 5, 6, 7, 8] rfl) (ci := 4) (q0 := 0) rfl rfl, zP.enter (z_subP (ws' := (zTr cI (h_T) (q_T) (T))) hP [3, 4, 5, 6, 7, 8] rfl) hK (hD.sub [3, 4, 5, 6, 7, 8] (by decide) rfl) hN⟩ rfl rfl hl.1 rfl (lv_room (Nat.le_of_ble_eq_true rfl)) dX0_bestEntry_58 ⟨Nat.le_refl _, Nat.le_refl _⟩) hP hD hS hA [3, 4, 5, 6, 7, 8] [0, 1, 2, 9, 10, 11, 12, 13, 14] [0, 1, 2, 9, 10, 11, 12, 13, 14, 3, 4, 5, 6, 7, 8] rfl rfl (by decide) (fun _ => rfl) (fun u_15 H locs hP hD hS hz => ?_)
      refine lv_iload hx hb dX0_bestEntry_61 (lv_at hl 0 rfl) ?_
      refine z_isub hx hb dX0_bestEntry_63 ?_
      refine lv_istore (lv' := [(10, vI (r_13 - r_10)), (9, vI r_10), (8, vI r_7), (0, .ref h_C), (1, vI x1), (2, vI x2), (3, vI x3), (4, vI x4), (5, vI x5), (6, vI x6), (7, vI x7)]) hx hb dX0_bestEntry_64 hl (by decide) rfl (fun ls hl => ?_)
      refine lv_iload_n hx hb dX0_bestEntry_66 rfl (lv_at hl 6 rfl) ?_
      refine lv_iconst (v := Int32.ofInt (-1)) hx hb dX0_bestEntry_67 rfl ?_
      obtain ⟨g_16, h⟩ := gd_e h
      refine z_icmp_eq (tgt := 92) hx hb g_16 (by decide) dX0_bestEntry_68 (by decide) (fun b_17 => ?_) (fun b_17 => ?_)
      · have h := it_p b_17 h
        refine lv_iload hx hb dX0_bestEntry_92 (lv_at hl 2 rfl) ?_
        refine lv_istore_n (lv' := [(3, vI r_7), (10, vI (r_13 - r_10)), (9, vI r_10), (8, vI r_7), (0, .ref h_C), (1, vI x1), (2, vI x2), (4, vI x4), (5, vI x5), (6, vI x6), (7, vI x7)]) hx hb dX0_bestEntry_94 rfl hl (by decide) rfl (fun ls hl => ?_)
        refine lv_iload hx hb dX0_bestEntry_95 (lv_at hl 1 rfl) ?_
        refine lv_istore (lv' := [(4, vI (r_13 - r_10)), (3, vI r_7), (10, vI (r_13 - r_10)), (9, vI r_10), (8, vI r_7), (0, .ref h_C), (1, vI x1), (2, vI x2), (5, vI x5), (6, vI x6), (7, vI x7)]) hx hb dX0_bestEntry_97 hl (by decide) rfl (fun ls hl => ?_)
        refine lv_iload hx hb dX0_bestEntry_99 (lv_at hl 3 rfl) ?_
        refine lv_istore (lv' := [(5, vI r_10), (4, vI (r_13 - r_10)), (3, vI r_7), (10, vI (r_13 - r_10)), (9, vI r_10), (8, vI r_7), (0, .ref h_C), (1, vI x1), (2, vI x2), (6, vI x6), (7, vI x7)]) hx hb dX0_bestEntry_101 hl (by decide) rfl (fun ls hl => ?_)
        refine lv_iinc (v := Int32.ofInt (x7 + 1)) (lv' := [(7, vI (x7 + 1)), (5, vI r_10), (4, vI (r_13 - r_10)), (3, vI r_7), (10, vI (r_13 - r_10)), (9, vI r_10), (8, vI r_7), (0, .ref h_C), (1, vI x1), (2, vI x2), (6, vI x6)]) hx hb dX0_bestEntry_103 hl (k := 10) rfl (z_inc _ _) (by decide) rfl (fun ls hl => ?_)
        refine lv_goto (tgt := 21) hx hb dX0_bestEntry_106 (by decide) ?_
        exact ih (r_7) ((r_13 - r_10)) (r_10) ((x7 + 1)) H locs ls h hP hD hS (lv_sub hl [7, 8, 9, 3, 2, 1, 10, 0] rfl)
      · have h := it_n b_17 h
        refine lv_iload hx hb dX0_bestEntry_71 (lv_at hl 0 rfl) ?_
        refine lv_iload hx hb dX0_bestEntry_73 (lv_at hl 7 rfl) ?_
        obtain ⟨g_18, h⟩ := gd_e h
        obtain ⟨g_19, h⟩ := gd_e h
        refine z_icmp_lt (tgt := 92) hx hb g_18 g_19 dX0_bestEntry_75 (by decide) (fun b_20 => ?_) (fun b_20 => ?_)
        · have h := it_p b_20 h
          refine lv_iload hx hb dX0_bestEntry_92 (lv_at hl 2 rfl) ?_
          refine lv_istore_n (lv' := [(3, vI r_7), (10, vI (r_13 - r_10)), (9, vI r_10), (8, vI r_7), (0, .ref h_C), (1, vI x1), (2, vI x2), (4, vI x4), (5, vI x5), (6, vI x6), (7, vI x7)]) hx hb dX0_bestEntry_94 rfl hl (by decide) rfl (fun ls hl => ?_)
          refine lv_iload hx hb dX0_bestEntry_95 (lv_at hl 1 rfl) ?_
          refine lv_istore (lv' := [(4, vI (r_13 - r_10)), (3, vI r_7), (10, vI (r_13 - r_10)), (9, vI r_10), (8, vI r_7), (0, .ref h_C), (1, vI x1), (2, vI x2), (5, vI x5), (6, vI x6), (7, vI x7)]) hx hb dX0_bestEntry_97 hl (by decide) rfl (fun ls hl => ?_)
          refine lv_iload hx hb dX0_bestEntry_99 (lv_at hl 3 rfl) ?_
          refine lv_istore (lv' := [(5, vI r_10), (4, vI (r_13 - r_10)), (3, vI r_7), (10, vI (r_13 - r_10)), (9, vI r_10), (8, vI r_7), (0, .ref h_C), (1, vI x1), (2, vI x2), (6, vI x6), (7, vI x7)]) hx hb dX0_bestEntry_101 hl (by decide) rfl (fun ls hl => ?_)
          refine lv_iinc (v := Int32.ofInt (x7 + 1)) (lv' := [(7, vI (x7 + 1)), (5, vI r_10), (4, vI (r_13 - r_10)), (3, vI r_7), (10, vI (r_13 - r_10)), (9, vI r_10), (8, vI r_7), (0, .ref h_C), (1, vI x1), (2, vI x2), (6, vI x6)]) hx hb dX0_bestEntry_103 hl (k := 10) rfl (z_inc _ _) (by decide) rfl (fun ls hl => ?_)
          refine lv_goto (tgt := 21) hx hb dX0_bestEntry_106 (by decide) ?_
          exact ih (r_7) ((r_13 - r_10)) (r_10) ((x7 + 1)) H locs ls h hP hD hS (lv_sub hl [7, 8, 9, 3, 2, 1, 10, 0] rfl)
        · have h := it_n b_20 h
          refine lv_iload hx hb dX0_bestEntry_78 (lv_at hl 0 rfl) ?_
          refine lv_iload hx hb dX0_bestEntry_80 (lv_at hl 7 rfl) ?_
          refine z_icmp_ne (tgt := 103) hx hb g_18 g_19 dX0_bestEntry_82 (by decide) (fun b_21 => ?_) (fun b_21 => ?_)
          · have h := it_n b_21 h
            refine lv_iinc (v := Int32.ofInt (x7 + 1)) (lv' := [(7, vI (x7 + 1)), (10, vI (r_13 - r_10)), (9, vI r_10), (8, vI r_7), (0, .ref h_C), (1, vI x1), (2, vI x2), (3, vI x3), (4, vI x4), (5, vI x5), (6, vI x6)]) hx hb dX0_bestEntry_103 hl (k := 10) rfl (z_inc _ _) (by decide) rfl (fun ls hl => ?_)
            refine lv_goto (tgt := 21) hx hb dX0_bestEntry_106 (by decide) ?_
            exact ih (x3) (x4) (x5) ((x7 + 1)) H locs ls h hP hD hS (lv_sub hl [4, 5, 6, 7, 8, 9, 10, 0] rfl)
          · have h := it_p b_21 h
            refine lv_iload hx hb dX0_bestEntry_85 (lv_at hl 1 rfl) ?_
            refine lv_iload hx hb dX0_bestEntry_87 (lv_at hl 8 rfl) ?_
            obtain ⟨g_22, h⟩ := gd_e h
            obtain ⟨g_23, h⟩ := gd_e h
            refine z_icmp_ge (tgt := 103) hx hb g_22 g_23 dX0_bestEntry_89 (by decide) (fun b_24 => ?_) (fun b_24 => ?_)
            · have h := it_n b_24 h
              refine lv_iinc (v := Int32.ofInt (x7 + 1)) (lv' := [(7, vI (x7 + 1)), (10, vI (r_13 - r_10)), (9, vI r_10), (8, vI r_7), (0, .ref h_C), (1, vI x1), (2, vI x2), (3, vI x3), (4, vI x4), (5, vI x5), (6, vI x6)]) hx hb dX0_bestEntry_103 hl (k := 10) rfl (z_inc _ _) (by decide) rfl (fun ls hl => ?_)
              refine lv_goto (tgt := 21) hx hb dX0_bestEntry_106 (by decide) ?_
              exact ih (x3) (x4) (x5) ((x7 + 1)) H locs ls h hP hD hS (lv_sub hl [4, 5, 6, 7, 8, 9, 10, 0] rfl)
            · have h := it_p b_24 h
              refine lv_iload hx hb dX0_bestEntry_92 (lv_at hl 2 rfl) ?_
              refine lv_istore_n (lv' := [(3, vI r_7), (10, vI (r_13 - r_10)), (9, vI r_10), (8, vI r_7), (0, .ref h_C), (1, vI x1), (2, vI x2), (4, vI x4), (5, vI x5), (6, vI x6), (7, vI x7)]) hx hb dX0_bestEntry_94 rfl hl (by decide) rfl (fun ls hl => ?_)
              refine lv_iload hx hb dX0_bestEntry_95 (lv_at hl 1 rfl) ?_
              refine lv_istore (lv' := [(4, vI (r_13 - r_10)), (3, vI r_7), (10, vI (r_13 - r_10)), (9, vI r_10), (8, vI r_7), (0, .ref h_C), (1, vI x1), (2, vI x2), (5, vI x5), (6, vI x6), (7, vI x7)]) hx hb dX0_bestEntry_97 hl (by decide) rfl (fun ls hl => ?_)
              refine lv_iload hx hb dX0_bestEntry_99 (lv_at hl 3 rfl) ?_
              refine lv_istore (lv' := [(5, vI r_10), (4, vI (r_13 - r_10)), (3, vI r_7), (10, vI (r_13 - r_10)), (9, vI r_10), (8, vI r_7), (0, .ref h_C), (1, vI x1), (2, vI x2), (6, vI x6), (7, vI x7)]) hx hb dX0_bestEntry_101 hl (by decide) rfl (fun ls hl => ?_)
              refine lv_iinc (v := Int32.ofInt (x7 + 1)) (lv' := [(7, vI (x7 + 1)), (5, vI r_10), (4, vI (r_13 - r_10)), (3, vI r_7), (10, vI (r_13 - r_10)), (9, vI r_10), (8, vI r_7), (0, .ref h_C), (1, vI x1), (2, vI x2), (6, vI x6)]) hx hb dX0_bestEntry_103 hl (k := 10) rfl (z_inc _ _) (by decide) rfl (fun ls hl => ?_)
              refine lv_goto (tgt := 21) hx hb dX0_bestEntry_106 (by decide) ?_
              exact ih (r_7) ((r_13 - r_10)) (r_10) ((x7 + 1)) H locs ls h hP hD hS (lv_sub hl [7, 8, 9, 3, 2, 1, 10, 0] rfl)
set_option maxHeartbeats 4000000 in
set_option maxRecDepth 100000 in
theorem c_Ch_bestEntry (l : Launch) (D : va_G) (cI cZ cT : ClassId) (h_C : Nat) (q_C : Nat → Nat) (h_T : Nat) (h_LB : Nat) (h_LN : Nat) (q_T : Nat → Nat) (q_LB : Nat → Nat) (q_LN : Nat → Nat) (c_kept : Nat → Int) (c_keptCount : Int) (c_pool : Nat → Int) (c_left : Int) (c_treated : Int64) (T : TV) (LB : KV) (LN : KV) (x1 : Int) (x2 : Int) (sz : Nat) (res : Int) (h : f_Ch_bestEntry T x1 x2 = some res) : zMi l yX0_bestEntry cX0_bestEntry 11 rm_Ch_bestEntry D (zt cI cZ cT) [.ref h_C, vI x1, vI x2] ((zCh cI h_C q_C h_T h_LB h_LN c_kept c_keptCount c_pool c_left c_treated) ++ (zTr cI h_T q_T T) ++ (zWk cI h_LB q_LB LB) ++ (zWk cI h_LN q_LN LN)) sz (res) (fun u => (zCh cI h_C q_C h_T h_LB h_LN c_kept c_keptCount c_pool c_left c_treated) ++ (zTr cI h_T q_T T) ++ (zWk cI h_LB q_LB LB) ++ (zWk cI h_LN q_LN LN)) 0 0 := by
  refine z_enth (Qc := zQi D (res) (fun u => (zCh cI h_C q_C h_T h_LB h_LN c_kept c_keptCount c_pool c_left c_treated) ++ (zTr cI h_T q_T T) ++ (zWk cI h_LB q_LB LB) ++ (zWk cI h_LN q_LN LN))) (by decide) (Nat.le_of_ble_eq_true rfl) (fun p e s m args below meth c A ls H locs hF hP hD hS hl => ?_)
  have hx := hF.1.1
  have hb := hF.1.2.1
  have hml := hF.1.2.2.1
  have hown : s.vm.findClass "RectangleTree$Changes" = some m.cls := hF.1.2.2.2.1
  have hts := hF.1.2.2.2.2
  have hr := hF.2.1
  have hlk := hF.2.2.1
  have hK := hF.2.2.2.2.1
  have hN := hF.2.2.2.2.2.1
  have hA := hF.2.2.2.2.2.2
  unfold f_Ch_bestEntry at h
  refine lv_iconst (v := Int32.ofInt (-1)) hx hb dX0_bestEntry_0 rfl ?_
  refine lv_istore_n (lv' := [(3, vI (-1)), (0, .ref h_C), (1, vI x1), (2, vI x2)]) hx hb dX0_bestEntry_1 rfl hl (by decide) rfl (fun ls hl => ?_)
  refine lv_iconst (v := Int32.ofInt 0) hx hb dX0_bestEntry_2 rfl ?_
  refine lv_istore (lv' := [(4, vI 0), (3, vI (-1)), (0, .ref h_C), (1, vI x1), (2, vI x2)]) hx hb dX0_bestEntry_3 hl (by decide) rfl (fun ls hl => ?_)
  refine lv_iconst (v := Int32.ofInt 0) hx hb dX0_bestEntry_5 rfl ?_
  refine lv_istore (lv' := [(5, vI 0), (4, vI 0), (3, vI (-1)), (0, .ref h_C), (1, vI x1), (2, vI x2)]) hx hb dX0_bestEntry_6 hl (by decide) rfl (fun ls hl => ?_)
  refine lv_aload_n hx hb dX0_bestEntry_8 rfl (lv_at hl 3 rfl) ?_
  refine va_get (D := D) (ci := 0) (v := .ref h_T) (C := RX0) (T := TX0) (N := 8) hx hb hts zin0 hown hK hP 0 rfl rfl 0 (by decide) (hts _ wm132) (fun _ h9 => h9) rfl dX0_bestEntry_9 ?_
  refine lv_iload_n hx hb dX0_bestEntry_12 rfl (lv_at hl 4 rfl) ?_
  obtain ⟨r_1, e_2, h⟩ := bd1_e h
  refine z_goi (ws' := []) (ret := r_1) (wc := (zTr cI (h_T) (q_T) (T))) (wn := fun u_3 => (zCh cI h_C q_C h_T h_LB h_LN c_kept c_keptCount c_pool c_left c_treated) ++ (zTr cI h_T q_T T) ++ (zWk cI h_LB q_LB LB) ++ (zWk cI h_LN q_LN LN)) (wr := ([0, 1, 2, 9, 10, 11, 12, 13, 14].filterMap (fun i => ((zCh cI h_C q_C h_T h_LB h_LN c_kept c_keptCount c_pool c_left c_treated) ++ (zTr cI h_T q_T T) ++ (zWk cI h_LB q_LB LB) ++ (zWk cI h_LN q_LN LN))[i]?))) (va_runV (As := [vI x1]) (rest := []) hF.1 (c_Tr_sizeOf l D cI cZ cT h_T q_T T x1 H.size (r_1) e_2) (cwV 1 hts (zgV wm510 wm231 wm232 wm33 wm233) rfl rfl rfl (by decide +kernel) ⟨Nat.le_of_ble_eq_true rfl, Nat.le_of_ble_eq_true rfl⟩) ⟨zP.blind, va_recv hK (z_subP (ws' := (zTr cI (h_T) (q_T) (T))) hP [3, 4, 5, 6, 7, 8] rfl) (ci := 4) (q0 := 0) rfl rfl, zP.enter (z_subP (ws' := (zTr cI (h_T) (q_T) (T))) hP [3, 4, 5, 6, 7, 8] rfl) hK (hD.sub [3, 4, 5, 6, 7, 8] (by decide) rfl) hN⟩ rfl rfl hl.1 rfl (lv_room (Nat.le_of_ble_eq_true rfl)) dX0_bestEntry_13 ⟨Nat.le_refl _, Nat.le_refl _⟩) hP hD hS hA [3, 4, 5, 6, 7, 8] [0, 1, 2, 9, 10, 11, 12, 13, 14] [0, 1, 2, 9, 10, 11, 12, 13, 14, 3, 4, 5, 6, 7, 8] rfl rfl (by decide) (fun _ => rfl) (fun u_3 H locs hP hD hS hz => ?_)
  refine lv_istore (lv' := [(6, vI r_1), (5, vI 0), (4, vI 0), (3, vI (-1)), (0, .ref h_C), (1, vI x1), (2, vI x2)]) hx hb dX0_bestEntry_16 hl (by decide) rfl (fun ls hl => ?_)
  refine lv_iconst (v := Int32.ofInt 0) hx hb dX0_bestEntry_18 rfl ?_
  refine lv_istore (lv' := [(7, vI 0), (6, vI r_1), (5, vI 0), (4, vI 0), (3, vI (-1)), (0, .ref h_C), (1, vI x1), (2, vI x2)]) hx hb dX0_bestEntry_19 hl (by decide) rfl (fun ls hl => ?_)
  refine w_Ch_bestEntry_L21 D cI cZ cT (h_C) (q_C) (h_T) (h_LB) (h_LN) (q_T) (q_LB) (q_LN) (c_kept) (c_keptCount) (c_pool) (c_left) (c_treated) (T) (LB) (LN) (x1) (x2) (r_1) _ _ hF (fun x3_25 x4_26 x5_27 x7_28 H locs ls h hP hD hS hl => ?_) _ ((-1)) (0) (0) (0) _ _ _ h hP hD hS (lv_sub hl [5, 6, 7, 4, 3, 2, 1, 0] rfl)
  refine lv_iload_n hx hb dX0_bestEntry_109 rfl (lv_at hl 0 rfl) ?_
  obtain rfl := Option.some.inj h
  exact z_iret hx hb hr hlk (fun _ _ => 0) hP hD hS dX0_bestEntry_110
def f_Ch_targetFor_L22 (T : TV) (x1 : Int) (x2 : Int) (k : Int → Int → Option (Int)) : Nat → Int → Int → Option (Int)
  | 0, _, _ => none
  | n + 1, x3, x4 =>
  bd1 (f_Tr_levelOf T x3) <| fun r_4 => gd (ck r_4) <| gd (ck x2) <| if x2 < r_4 then (gd (ck x4) <| if x4 < 1000000 then (bd1 (f_Ch_bestEntry T x3 x1) <| fun r_12 => f_Ch_targetFor_L22 T x1 x2 k n (r_12) ((x4 + 1))) else (k (x3) (x4))) else (k (x3) (x4))
def f_Ch_targetFor (T : TV) (x1 : Int) : Option (Int) :=
  bd1 (f_Tr_levelOf T x1) <| fun r_1 => f_Ch_targetFor_L22 (T) (x1) ((r_1 + 1)) (fun x3_15 x4_16 => some (x3_15)) FU ((tRoot T)) (0)
abbrev rm_Ch_targetFor : Room := ({ frames := 3, cells := 0, slots := 0, locals := 77 } : Room)
set_option maxHeartbeats 4000000 in
set_option maxRecDepth 100000 in
theorem w_Ch_targetFor_L22 {p : Program} {l : Launch} {e : Env} {s : State} {m : MethodId} {args : Array Value} {below : List Frame} {meth : Method} {c : Code} {A : Nat → Prop} (D : va_G) (cI cZ cT : ClassId) (h_C : Nat) (q_C : Nat → Nat) (h_T : Nat) (h_LB : Nat) (h_LN : Nat) (q_T : Nat → Nat) (q_LB : Nat → Nat) (q_LN : Nat → Nat) (c_kept : Nat → Int) (c_keptCount : Int) (c_pool : Nat → Int) (c_left : Int) (c_treated : Int64) (T : TV) (LB : KV) (LN : KV) (x1 : Int) (x2 : Int) (res : Int) (k : Int → Int → Option (Int)) (hF : zF p m c cX0_targetFor 5 s args yX0_targetFor.cls meth (some .int) yX0_targetFor.name A D (zt cI cZ cT))
    (hk : ∀ (x3 : Int) (x4 : Int) (H : Heap) (locs : List Loc) (ls : Array Slot), k x3 x4 = some res → va_P D vwCl ((zCh cI h_C q_C h_T h_LB h_LN c_kept c_keptCount c_pool c_left c_treated) ++ (zTr cI h_T q_T T) ++ (zWk cI h_LB q_LB LB) ++ (zWk cI h_LN q_LN LN)) H → va_D A ((zCh cI h_C q_C h_T h_LB h_LN c_kept c_keptCount c_pool c_left c_treated) ++ (zTr cI h_T q_T T) ++ (zWk cI h_LB q_LB LB) ++ (zWk cI h_LN q_LN LN)) → va_S A s.heap H locs → lv_has ls 5 [(3, vI x3)] → W p l e rm_Ch_targetFor s m args below meth c H locs 0 0 (MQ below (zQi D (res) (fun u => (zCh cI h_C q_C h_T h_LB h_LN c_kept c_keptCount c_pool c_left c_treated) ++ (zTr cI h_T q_T T) ++ (zWk cI h_LB q_LB LB) ++ (zWk cI h_LN q_LN LN)) A) args s 0 0 A) (F0 m 54 ls [])) :
    ∀ (n : Nat) (x3 : Int) (x4 : Int) (H : Heap) (locs : List Loc) (ls : Array Slot), f_Ch_targetFor_L22 T x1 x2 k n x3 x4 = some res → va_P D vwCl ((zCh cI h_C q_C h_T h_LB h_LN c_kept c_keptCount c_pool c_left c_treated) ++ (zTr cI h_T q_T T) ++ (zWk cI h_LB q_LB LB) ++ (zWk cI h_LN q_LN LN)) H → va_D A ((zCh cI h_C q_C h_T h_LB h_LN c_kept c_keptCount c_pool c_left c_treated) ++ (zTr cI h_T q_T T) ++ (zWk cI h_LB q_LB LB) ++ (zWk cI h_LN q_LN LN)) → va_S A s.heap H locs → lv_has ls 5 [(0, .ref h_C), (1, vI x1), (2, vI x2), (3, vI x3), (4, vI x4)] → W p l e rm_Ch_targetFor s m args below meth c H locs 0 0 (MQ below (zQi D (res) (fun u => (zCh cI h_C q_C h_T h_LB h_LN c_kept c_keptCount c_pool c_left c_treated) ++ (zTr cI h_T q_T T) ++ (zWk cI h_LB q_LB LB) ++ (zWk cI h_LN q_LN LN)) A) args s 0 0 A) (F0 m 22 ls []) := by
  have hx := hF.1.1
  have hb := hF.1.2.1
  have hml := hF.1.2.2.1
  have hown : s.vm.findClass "RectangleTree$Changes" = some m.cls := hF.1.2.2.2.1
  have hts := hF.1.2.2.2.2
  have hr := hF.2.1
  have hlk := hF.2.2.1
  have hK := hF.2.2.2.2.1
  have hN := hF.2.2.2.2.2.1
  have hA := hF.2.2.2.2.2.2
  intro n
  induction n with
  | zero => intro x3 x4 H locs ls h; cases h
  | succ n ih =>
    intro x3 x4 H locs ls h hP hD hS hl
    rw [f_Ch_targetFor_L22] at h
    refine lv_aload_n hx hb dX0_targetFor_22 rfl (lv_at hl 0 rfl) ?_
    refine va_get (D := D) (ci := 0) (v := .ref h_T) (C := RX0) (T := TX0) (N := 8) hx hb hts zin0 hown hK hP 0 rfl rfl 0 (by decide) (hts _ wm132) (fun _ h9 => h9) rfl dX0_targetFor_23 ?_
    refine lv_iload_n hx hb dX0_targetFor_26 rfl (lv_at hl 3 rfl) ?_
    obtain ⟨r_4, e_5, h⟩ := bd1_e h
    refine z_goi (ws' := []) (ret := r_4) (wc := (zTr cI (h_T) (q_T) (T))) (wn := fun u_6 => (zCh cI h_C q_C h_T h_LB h_LN c_kept c_keptCount c_pool c_left c_treated) ++ (zTr cI h_T q_T T) ++ (zWk cI h_LB q_LB LB) ++ (zWk cI h_LN q_LN LN)) (wr := ([0, 1, 2, 9, 10, 11, 12, 13, 14].filterMap (fun i => ((zCh cI h_C q_C h_T h_LB h_LN c_kept c_keptCount c_pool c_left c_treated) ++ (zTr cI h_T q_T T) ++ (zWk cI h_LB q_LB LB) ++ (zWk cI h_LN q_LN LN))[i]?))) (va_runV (As := [vI x3]) (rest := []) hF.1 (c_Tr_levelOf l D cI cZ cT h_T q_T T x3 H.size (r_4) e_5) (cwV 1 hts (zgV wm504 wm301 wm302 wm33 wm303) rfl rfl rfl (by decide +kernel) ⟨Nat.le_of_ble_eq_true rfl, Nat.le_of_ble_eq_true rfl⟩) ⟨zP.blind, va_recv hK (z_subP (ws' := (zTr cI (h_T) (q_T) (T))) hP [3, 4, 5, 6, 7, 8] rfl) (ci := 4) (q0 := 0) rfl rfl, zP.enter (z_subP (ws' := (zTr cI (h_T) (q_T) (T))) hP [3, 4, 5, 6, 7, 8] rfl) hK (hD.sub [3, 4, 5, 6, 7, 8] (by decide) rfl) hN⟩ rfl rfl hl.1 rfl (lv_room (Nat.le_of_ble_eq_true rfl)) dX0_targetFor_27 ⟨Nat.le_refl _, Nat.le_refl _⟩) hP hD hS hA [3, 4, 5, 6, 7, 8] [0, 1, 2, 9, 10, 11, 12, 13, 14] [0, 1, 2, 9, 10, 11, 12, 13, 14, 3, 4, 5, 6, 7, 8] rfl rfl (by decide) (fun _ => rfl) (fun u_6 H locs hP hD hS hz => ?_)
    refine lv_iload_n hx hb dX0_targetFor_30 rfl (lv_at hl 2 rfl) ?_
    obtain ⟨g_7, h⟩ := gd_e h
    obtain ⟨g_8, h⟩ := gd_e h
    refine z_icmp_le (tgt := 54) hx hb g_7 g_8 dX0_targetFor_31 (by decide) (fun b_9 => ?_) (fun b_9 => ?_)
    · have h := it_n b_9 h
      exact hk (x3) (x4) H locs ls h hP hD hS (lv_sub hl [3] rfl)
    · have h := it_p b_9 h
      refine lv_iload hx hb dX0_targetFor_34 (lv_at hl 4 rfl) ?_
      refine lv_ldc (v := Int32.ofInt 1000000) hx hb hown (hts _ wm505) dX0_targetFor_36 ?_
      obtain ⟨g_10, h⟩ := gd_e h
      refine z_icmp_ge (tgt := 54) hx hb g_10 (by decide) dX0_targetFor_38 (by decide) (fun b_11 => ?_) (fun b_11 => ?_)
      · have h := it_n b_11 h
        exact hk (x3) (x4) H locs ls h hP hD hS (lv_sub hl [3] rfl)
      · have h := it_p b_11 h
        refine lv_aload_n hx hb dX0_targetFor_41 rfl (lv_at hl 0 rfl) ?_
        refine lv_iload_n hx hb dX0_targetFor_42 rfl (lv_at hl 3 rfl) ?_
        refine lv_iload_n hx hb dX0_targetFor_43 rfl (lv_at hl 1 rfl) ?_
        obtain ⟨r_12, e_13, h⟩ := bd1_e h
        refine z_goi (ws' := []) (ret := r_12) (wc := (zCh cI (h_C) (q_C) (h_T) (h_LB) (h_LN) (c_kept) (c_keptCount) (c_pool) (c_left) (c_treated)) ++ (zTr cI (h_T) (q_T) (T)) ++ (zWk cI (h_LB) (q_LB) (LB)) ++ (zWk cI (h_LN) (q_LN) (LN))) (wn := fun u_14 => (zCh cI h_C q_C h_T h_LB h_LN c_kept c_keptCount c_pool c_left c_treated) ++ (zTr cI h_T q_T T) ++ (zWk cI h_LB q_LB LB) ++ (zWk cI h_LN q_LN LN)) (wr := []) (va_runV (As := [vI x3, vI x1]) (rest := []) hF.1 (c_Ch_bestEntry l D cI cZ cT h_C q_C h_T h_LB h_LN q_T q_LB q_LN c_kept c_keptCount c_pool c_left c_treated T LB LN x3 x1 H.size (r_12) e_13) (cwV 2 hts (zgV wm506 wm508 wm9 wm35 wm509) rfl rfl rfl (by decide +kernel) ⟨Nat.le_of_ble_eq_true rfl, Nat.le_of_ble_eq_true rfl⟩) ⟨zP.blind, va_recv hK (z_subP (ws' := (zCh cI (h_C) (q_C) (h_T) (h_LB) (h_LN) (c_kept) (c_keptCount) (c_pool) (c_left) (c_treated)) ++ (zTr cI (h_T) (q_T) (T)) ++ (zWk cI (h_LB) (q_LB) (LB)) ++ (zWk cI (h_LN) (q_LN) (LN))) hP [0, 1, 2, 3, 4, 5, 6, 7, 8, 9, 10, 11, 12, 13, 14] rfl) (ci := 0) (q0 := 0) rfl rfl, zP.enter (z_subP (ws' := (zCh cI (h_C) (q_C) (h_T) (h_LB) (h_LN) (c_kept) (c_keptCount) (c_pool) (c_left) (c_treated)) ++ (zTr cI (h_T) (q_T) (T)) ++ (zWk cI (h_LB) (q_LB) (LB)) ++ (zWk cI (h_LN) (q_LN) (LN))) hP [0, 1, 2, 3, 4, 5, 6, 7, 8, 9, 10, 11, 12, 13, 14] rfl) hK (hD.sub [0, 1, 2, 3, 4, 5, 6, 7, 8, 9, 10, 11, 12, 13, 14] (by decide) rfl) hN⟩ rfl rfl hl.1 rfl (lv_room (Nat.le_of_ble_eq_true rfl)) dX0_targetFor_44 ⟨Nat.le_refl _, Nat.le_refl _⟩) hP hD hS hA [0, 1, 2, 3, 4, 5, 6, 7, 8, 9, 10, 11, 12, 13, 14] [] [0, 1, 2, 3, 4, 5, 6, 7, 8, 9, 10, 11, 12, 13, 14] rfl rfl (by decide) (fun _ => rfl) (fun u_14 H locs hP hD hS hz => ?_)
        refine lv_istore_n (lv' := [(3, vI r_12), (0, .ref h_C), (1, vI x1), (2, vI x2), (4, vI x4)]) hx hb dX0_targetFor_47 rfl hl (by decide) rfl (fun ls hl => ?_)
        refine lv_iinc (v := Int32.ofInt (x4 + 1)) (lv' := [(4, vI (x4 + 1)), (3, vI r_12), (0, .ref h_C), (1, vI x1), (2, vI x2)]) hx hb dX0_targetFor_48 hl (k := 4) rfl (z_inc _ _) (by decide) rfl (fun ls hl => ?_)
        refine lv_goto (tgt := 22) hx hb dX0_targetFor_51 (by decide) ?_
        exact ih (r_12) ((x4 + 1)) H locs ls h hP hD hS (lv_sub hl [2, 3, 4, 1, 0] rfl)
set_option maxHeartbeats 4000000 in
set_option maxRecDepth 100000 in
theorem c_Ch_targetFor (l : Launch) (D : va_G) (cI cZ cT : ClassId) (h_C : Nat) (q_C : Nat → Nat) (h_T : Nat) (h_LB : Nat) (h_LN : Nat) (q_T : Nat → Nat) (q_LB : Nat → Nat) (q_LN : Nat → Nat) (c_kept : Nat → Int) (c_keptCount : Int) (c_pool : Nat → Int) (c_left : Int) (c_treated : Int64) (T : TV) (LB : KV) (LN : KV) (x1 : Int) (sz : Nat) (res : Int) (h : f_Ch_targetFor T x1 = some res) : zMi l yX0_targetFor cX0_targetFor 5 rm_Ch_targetFor D (zt cI cZ cT) [.ref h_C, vI x1] ((zCh cI h_C q_C h_T h_LB h_LN c_kept c_keptCount c_pool c_left c_treated) ++ (zTr cI h_T q_T T) ++ (zWk cI h_LB q_LB LB) ++ (zWk cI h_LN q_LN LN)) sz (res) (fun u => (zCh cI h_C q_C h_T h_LB h_LN c_kept c_keptCount c_pool c_left c_treated) ++ (zTr cI h_T q_T T) ++ (zWk cI h_LB q_LB LB) ++ (zWk cI h_LN q_LN LN)) 0 0 := by
  refine z_enth (Qc := zQi D (res) (fun u => (zCh cI h_C q_C h_T h_LB h_LN c_kept c_keptCount c_pool c_left c_treated) ++ (zTr cI h_T q_T T) ++ (zWk cI h_LB q_LB LB) ++ (zWk cI h_LN q_LN LN))) (by decide) (Nat.le_of_ble_eq_true rfl) (fun p e s m args below meth c A ls H locs hF hP hD hS hl => ?_)
  have hx := hF.1.1
  have hb := hF.1.2.1
  have hml := hF.1.2.2.1
  have hown : s.vm.findClass "RectangleTree$Changes" = some m.cls := hF.1.2.2.2.1
  have hts := hF.1.2.2.2.2
  have hr := hF.2.1
  have hlk := hF.2.2.1
  have hK := hF.2.2.2.2.1
  have hN := hF.2.2.2.2.2.1
  have hA := hF.2.2.2.2.2.2
  unfold f_Ch_targetFor at h
  refine lv_aload_n hx hb dX0_targetFor_0 rfl (lv_at hl 0 rfl) ?_
  refine va_get (D := D) (ci := 0) (v := .ref h_T) (C := RX0) (T := TX0) (N := 8) hx hb hts zin0 hown hK hP 0 rfl rfl 0 (by decide) (hts _ wm132) (fun _ h9 => h9) rfl dX0_targetFor_1 ?_
  refine lv_iload_n hx hb dX0_targetFor_4 rfl (lv_at hl 1 rfl) ?_
  obtain ⟨r_1, e_2, h⟩ := bd1_e h
  refine z_goi (ws' := []) (ret := r_1) (wc := (zTr cI (h_T) (q_T) (T))) (wn := fun u_3 => (zCh cI h_C q_C h_T h_LB h_LN c_kept c_keptCount c_pool c_left c_treated) ++ (zTr cI h_T q_T T) ++ (zWk cI h_LB q_LB LB) ++ (zWk cI h_LN q_LN LN)) (wr := ([0, 1, 2, 9, 10, 11, 12, 13, 14].filterMap (fun i => ((zCh cI h_C q_C h_T h_LB h_LN c_kept c_keptCount c_pool c_left c_treated) ++ (zTr cI h_T q_T T) ++ (zWk cI h_LB q_LB LB) ++ (zWk cI h_LN q_LN LN))[i]?))) (va_runV (As := [vI x1]) (rest := []) hF.1 (c_Tr_levelOf l D cI cZ cT h_T q_T T x1 H.size (r_1) e_2) (cwV 1 hts (zgV wm504 wm301 wm302 wm33 wm303) rfl rfl rfl (by decide +kernel) ⟨Nat.le_of_ble_eq_true rfl, Nat.le_of_ble_eq_true rfl⟩) ⟨zP.blind, va_recv hK (z_subP (ws' := (zTr cI (h_T) (q_T) (T))) hP [3, 4, 5, 6, 7, 8] rfl) (ci := 4) (q0 := 0) rfl rfl, zP.enter (z_subP (ws' := (zTr cI (h_T) (q_T) (T))) hP [3, 4, 5, 6, 7, 8] rfl) hK (hD.sub [3, 4, 5, 6, 7, 8] (by decide) rfl) hN⟩ rfl rfl hl.1 rfl (lv_room (Nat.le_of_ble_eq_true rfl)) dX0_targetFor_5 ⟨Nat.le_refl _, Nat.le_refl _⟩) hP hD hS hA [3, 4, 5, 6, 7, 8] [0, 1, 2, 9, 10, 11, 12, 13, 14] [0, 1, 2, 9, 10, 11, 12, 13, 14, 3, 4, 5, 6, 7, 8] rfl rfl (by decide) (fun _ => rfl) (fun u_3 H locs hP hD hS hz => ?_)
  refine lv_iconst (v := Int32.ofInt 1) hx hb dX0_targetFor_8 rfl ?_
  refine z_iadd hx hb dX0_targetFor_9 ?_
  refine lv_istore_n (lv' := [(2, vI (r_1 + 1)), (0, .ref h_C), (1, vI x1)]) hx hb dX0_targetFor_10 rfl hl (by decide) rfl (fun ls hl => ?_)
  refine lv_aload_n hx hb dX0_targetFor_11 rfl (lv_at hl 1 rfl) ?_
  refine va_get (D := D) (ci := 0) (v := .ref h_T) (C := RX0) (T := TX0) (N := 8) hx hb hts zin0 hown hK hP 0 rfl rfl 0 (by decide) (hts _ wm132) (fun _ h9 => h9) rfl dX0_targetFor_12 ?_
  refine va_get (D := D) (ci := 4) (v := vI (tRoot T)) (C := RX4) (T := TX4) (N := 10) hx hb hts zin4 hown hK hP 3 rfl rfl 5 (by decide) (hts _ wm69) (fun _ h9 => h9) rfl dX0_targetFor_15 ?_
  refine lv_istore_n (lv' := [(3, vI (tRoot T)), (2, vI (r_1 + 1)), (0, .ref h_C), (1, vI x1)]) hx hb dX0_targetFor_18 rfl hl (by decide) rfl (fun ls hl => ?_)
  refine lv_iconst (v := Int32.ofInt 0) hx hb dX0_targetFor_19 rfl ?_
  refine lv_istore (lv' := [(4, vI 0), (3, vI (tRoot T)), (2, vI (r_1 + 1)), (0, .ref h_C), (1, vI x1)]) hx hb dX0_targetFor_20 hl (by decide) rfl (fun ls hl => ?_)
  refine w_Ch_targetFor_L22 D cI cZ cT (h_C) (q_C) (h_T) (h_LB) (h_LN) (q_T) (q_LB) (q_LN) (c_kept) (c_keptCount) (c_pool) (c_left) (c_treated) (T) (LB) (LN) (x1) ((r_1 + 1)) _ _ hF (fun x3_15 x4_16 H locs ls h hP hD hS hl => ?_) _ ((tRoot T)) (0) _ _ _ h hP hD hS (lv_sub hl [3, 4, 2, 1, 0] rfl)
  refine lv_iload_n hx hb dX0_targetFor_54 rfl (lv_at hl 0 rfl) ?_
  obtain rfl := Option.some.inj h
  exact z_iret hx hb hr hlk (fun _ _ => 0) hP hD hS dX0_targetFor_55
def f_Ch_mayReinsert (c_treated : Int64) (T : TV) (x1 : Int) : Option (Int) :=
  bd1 (f_Tr_levelOf T x1) <| fun r_1 => gd (ck (tRei T)) <| if (tRei T) = 1 then (gd (ck x1) <| gd (ck (tRoot T)) <| if x1 = (tRoot T) then (some (0)) else (if (lCmp (c_treated &&& (lShl (1 : Int64) r_1)) (0 : Int64)) = 0 then (some (1)) else (some (0)))) else (some (0))
abbrev rm_Ch_mayReinsert : Room := ({ frames := 1, cells := 0, slots := 0, locals := 21 } : Room)
set_option maxHeartbeats 4000000 in
set_option maxRecDepth 100000 in
theorem c_Ch_mayReinsert (l : Launch) (D : va_G) (cI cZ cT : ClassId) (h_C : Nat) (q_C : Nat → Nat) (h_T : Nat) (h_LB : Nat) (h_LN : Nat) (q_T : Nat → Nat) (q_LB : Nat → Nat) (q_LN : Nat → Nat) (c_kept : Nat → Int) (c_keptCount : Int) (c_pool : Nat → Int) (c_left : Int) (c_treated : Int64) (T : TV) (LB : KV) (LN : KV) (x1 : Int) (sz : Nat) (res : Int) (h : f_Ch_mayReinsert c_treated T x1 = some res) : zMz l yX0_mayReinsert cX0_mayReinsert 4 rm_Ch_mayReinsert D (zt cI cZ cT) [.ref h_C, vI x1] ((zCh cI h_C q_C h_T h_LB h_LN c_kept c_keptCount c_pool c_left c_treated) ++ (zTr cI h_T q_T T) ++ (zWk cI h_LB q_LB LB) ++ (zWk cI h_LN q_LN LN)) sz (res) (fun u => (zCh cI h_C q_C h_T h_LB h_LN c_kept c_keptCount c_pool c_left c_treated) ++ (zTr cI h_T q_T T) ++ (zWk cI h_LB q_LB LB) ++ (zWk cI h_LN q_LN LN)) 0 0 := by
  refine z_enth (Qc := zQi D (res) (fun u => (zCh cI h_C q_C h_T h_LB h_LN c_kept c_keptCount c_pool c_left c_treated) ++ (zTr cI h_T q_T T) ++ (zWk cI h_LB q_LB LB) ++ (zWk cI h_LN q_LN LN))) (by decide) (Nat.le_of_ble_eq_true rfl) (fun p e s m args below meth c A ls H locs hF hP hD hS hl => ?_)
  have hx := hF.1.1
  have hb := hF.1.2.1
  have hml := hF.1.2.2.1
  have hown : s.vm.findClass "RectangleTree$Changes" = some m.cls := hF.1.2.2.2.1
  have hts := hF.1.2.2.2.2
  have hr := hF.2.1
  have hlk := hF.2.2.1
  have hK := hF.2.2.2.2.1
  have hN := hF.2.2.2.2.2.1
  have hA := hF.2.2.2.2.2.2
  unfold f_Ch_mayReinsert at h
  refine lv_lconst (v := 1) hx hb dX0_mayReinsert_0 rfl ?_
  refine lv_aload_n hx hb dX0_mayReinsert_1 rfl (lv_at hl 0 rfl) ?_
  refine va_get (D := D) (ci := 0) (v := .ref h_T) (C := RX0) (T := TX0) (N := 8) hx hb hts zin0 hown hK hP 0 rfl rfl 0 (by decide) (hts _ wm132) (fun _ h9 => h9) rfl dX0_mayReinsert_2 ?_
  refine lv_iload_n hx hb dX0_mayReinsert_5 rfl (lv_at hl 1 rfl) ?_
  obtain ⟨r_1, e_2, h⟩ := bd1_e h
  refine z_goi (ws' := []) (ret := r_1) (wc := (zTr cI (h_T) (q_T) (T))) (wn := fun u_3 => (zCh cI h_C q_C h_T h_LB h_LN c_kept c_keptCount c_pool c_left c_treated) ++ (zTr cI h_T q_T T) ++ (zWk cI h_LB q_LB LB) ++ (zWk cI h_LN q_LN LN)) (wr := ([0, 1, 2, 9, 10, 11, 12, 13, 14].filterMap (fun i => ((zCh cI h_C q_C h_T h_LB h_LN c_kept c_keptCount c_pool c_left c_treated) ++ (zTr cI h_T q_T T) ++ (zWk cI h_LB q_LB LB) ++ (zWk cI h_LN q_LN LN))[i]?))) (va_runV (As := [vI x1]) (rest := [.long (1 : Int64)]) hF.1 (c_Tr_levelOf l D cI cZ cT h_T q_T T x1 H.size (r_1) e_2) (cwV 1 hts (zgV wm504 wm301 wm302 wm33 wm303) rfl rfl rfl (by decide +kernel) ⟨Nat.le_of_ble_eq_true rfl, Nat.le_of_ble_eq_true rfl⟩) ⟨zP.blind, va_recv hK (z_subP (ws' := (zTr cI (h_T) (q_T) (T))) hP [3, 4, 5, 6, 7, 8] rfl) (ci := 4) (q0 := 0) rfl rfl, zP.enter (z_subP (ws' := (zTr cI (h_T) (q_T) (T))) hP [3, 4, 5, 6, 7, 8] rfl) hK (hD.sub [3, 4, 5, 6, 7, 8] (by decide) rfl) hN⟩ rfl rfl hl.1 rfl (lv_room (Nat.le_of_ble_eq_true rfl)) dX0_mayReinsert_6 ⟨Nat.le_refl _, Nat.le_refl _⟩) hP hD hS hA [3, 4, 5, 6, 7, 8] [0, 1, 2, 9, 10, 11, 12, 13, 14] [0, 1, 2, 9, 10, 11, 12, 13, 14, 3, 4, 5, 6, 7, 8] rfl rfl (by decide) (fun _ => rfl) (fun u_3 H locs hP hD hS hz => ?_)
  refine z_lshl hx hb dX0_mayReinsert_9 ?_
  refine lv_lstore_n (lv' := [(2, .long (lShl (1 : Int64) r_1)), (0, .ref h_C), (1, vI x1)]) hx hb dX0_mayReinsert_10 rfl hl (by decide) rfl (fun ls hl => ?_)
  refine lv_aload_n hx hb dX0_mayReinsert_11 rfl (lv_at hl 1 rfl) ?_
  refine va_get (D := D) (ci := 0) (v := .ref h_T) (C := RX0) (T := TX0) (N := 8) hx hb hts zin0 hown hK hP 0 rfl rfl 0 (by decide) (hts _ wm132) (fun _ h9 => h9) rfl dX0_mayReinsert_12 ?_
  refine va_get (D := D) (ci := 4) (v := vI (tRei T)) (C := RX4) (T := TX4) (N := 10) hx hb hts zin4 hown hK hP 3 rfl rfl 7 (by decide) (hts _ wm76) (fun _ h9 => h9) rfl dX0_mayReinsert_15 ?_
  refine lv_iconst (v := Int32.ofInt 1) hx hb dX0_mayReinsert_18 rfl ?_
  obtain ⟨g_4, h⟩ := gd_e h
  refine z_icmp_ne (tgt := 48) hx hb g_4 (by decide) dX0_mayReinsert_19 (by decide) (fun b_5 => ?_) (fun b_5 => ?_)
  · have h := it_n b_5 h
    refine lv_iconst (v := Int32.ofInt 0) hx hb dX0_mayReinsert_48 rfl ?_
    obtain rfl := Option.some.inj h
    exact z_zret hx hb hr hlk (by decide) (fun _ _ => 0) hP hD hS dX0_mayReinsert_49
  · have h := it_p b_5 h
    refine lv_iload_n hx hb dX0_mayReinsert_22 rfl (lv_at hl 2 rfl) ?_
    refine lv_aload_n hx hb dX0_mayReinsert_23 rfl (lv_at hl 1 rfl) ?_
    refine va_get (D := D) (ci := 0) (v := .ref h_T) (C := RX0) (T := TX0) (N := 8) hx hb hts zin0 hown hK hP 0 rfl rfl 0 (by decide) (hts _ wm132) (fun _ h9 => h9) rfl dX0_mayReinsert_24 ?_
    refine va_get (D := D) (ci := 4) (v := vI (tRoot T)) (C := RX4) (T := TX4) (N := 10) hx hb hts zin4 hown hK hP 3 rfl rfl 5 (by decide) (hts _ wm69) (fun _ h9 => h9) rfl dX0_mayReinsert_27 ?_
    obtain ⟨g_6, h⟩ := gd_e h
    obtain ⟨g_7, h⟩ := gd_e h
    refine z_icmp_eq (tgt := 48) hx hb g_6 g_7 dX0_mayReinsert_30 (by decide) (fun b_8 => ?_) (fun b_8 => ?_)
    · have h := it_p b_8 h
      refine lv_iconst (v := Int32.ofInt 0) hx hb dX0_mayReinsert_48 rfl ?_
      obtain rfl := Option.some.inj h
      exact z_zret hx hb hr hlk (by decide) (fun _ _ => 0) hP hD hS dX0_mayReinsert_49
    · have h := it_n b_8 h
      refine lv_aload_n hx hb dX0_mayReinsert_33 rfl (lv_at hl 1 rfl) ?_
      refine va_get (D := D) (ci := 0) (v := .long c_treated) (C := RX0) (T := TX0) (N := 8) hx hb hts zin0 hown hK hP 0 rfl rfl 5 (by decide) (hts _ wm137) (fun _ h9 => h9) rfl dX0_mayReinsert_34 ?_
      refine lv_lload_n hx hb dX0_mayReinsert_37 rfl (lv_at hl 0 rfl) ?_
      refine lv_land hx hb dX0_mayReinsert_38 ?_
      refine lv_lconst (v := 0) hx hb dX0_mayReinsert_39 rfl ?_
      refine z_lcmp hx hb dX0_mayReinsert_40 ?_
      refine z_if_ne (tgt := 48) hx hb (ck_of32 _) dX0_mayReinsert_41 (by decide) (fun b_9 => ?_) (fun b_9 => ?_)
      · have h := it_n b_9 h
        refine lv_iconst (v := Int32.ofInt 0) hx hb dX0_mayReinsert_48 rfl ?_
        obtain rfl := Option.some.inj h
        exact z_zret hx hb hr hlk (by decide) (fun _ _ => 0) hP hD hS dX0_mayReinsert_49
      · have h := it_p b_9 h
        refine lv_iconst (v := Int32.ofInt 1) hx hb dX0_mayReinsert_44 rfl ?_
        refine lv_goto (tgt := 49) hx hb dX0_mayReinsert_45 (by decide) ?_
        obtain rfl := Option.some.inj h
        exact z_zret hx hb hr hlk (by decide) (fun _ _ => 0) hP hD hS dX0_mayReinsert_49
def f_Ch_farthestEntry_L17 (T : TV) (x1 : Int) (x4 : Int) (k : Int → Int → Int → Option (Int)) : Nat → Int → Int → Int → Option (Int)
  | 0, _, _, _ => none
  | n + 1, x2, x3, x5 =>
  gd (ck x5) <| gd (ck x4) <| if x5 < x4 then (bd1 (f_Tr_entryAt T x1 x5) <| fun r_7 => bd1 (f_Tr_centerDistance T r_7 x1) <| fun r_10 => gd (ck r_10) <| gd (ck x3) <| if r_10 < x3 then (f_Ch_farthestEntry_L17 T x1 x4 k n (x2) (x3) ((x5 + 1))) else (f_Ch_farthestEntry_L17 T x1 x4 k n (r_7) (r_10) ((x5 + 1)))) else (k (x2) (x3) (x5))
def f_Ch_farthestEntry (T : TV) (x1 : Int) : Option (Int) :=
  bd1 (f_Tr_sizeOf T x1) <| fun r_1 => f_Ch_farthestEntry_L17 (T) (x1) (r_1) (fun x2_16 x3_17 x5_18 => some (x2_16)) FU ((-1)) (0) (0)
abbrev rm_Ch_farthestEntry : Room := ({ frames := 3, cells := 0, slots := 0, locals := 69 } : Room)
set_option maxHeartbeats 4000000 in
set_option maxRecDepth 100000 in
theorem w_Ch_farthestEntry_L17 {p : Program} {l : Launch} {e : Env} {s : State} {m : MethodId} {args : Array Value} {below : List Frame} {meth : Method} {c : Code} {A : Nat → Prop} (D : va_G) (cI cZ cT : ClassId) (h_C : Nat) (q_C : Nat → Nat) (h_T : Nat) (h_LB : Nat) (h_LN : Nat) (q_T : Nat → Nat) (q_LB : Nat → Nat) (q_LN : Nat → Nat) (c_kept : Nat → Int) (c_keptCount : Int) (c_pool : Nat → Int) (c_left : Int) (c_treated : Int64) (T : TV) (LB : KV) (LN : KV) (x1 : Int) (x4 : Int) (res : Int) (k : Int → Int → Int → Option (Int)) (hF : zF p m c cX0_farthestEntry 8 s args yX0_farthestEntry.cls meth (some .int) yX0_farthestEntry.name A D (zt cI cZ cT))
    (hk : ∀ (x2 : Int) (x3 : Int) (x5 : Int) (H : Heap) (locs : List Loc) (ls : Array Slot), k x2 x3 x5 = some res → va_P D vwCl ((zCh cI h_C q_C h_T h_LB h_LN c_kept c_keptCount c_pool c_left c_treated) ++ (zTr cI h_T q_T T) ++ (zWk cI h_LB q_LB LB) ++ (zWk cI h_LN q_LN LN)) H → va_D A ((zCh cI h_C q_C h_T h_LB h_LN c_kept c_keptCount c_pool c_left c_treated) ++ (zTr cI h_T q_T T) ++ (zWk cI h_LB q_LB LB) ++ (zWk cI h_LN q_LN LN)) → va_S A s.heap H locs → lv_has ls 8 [(2, vI x2)] → W p l e rm_Ch_farthestEntry s m args below meth c H locs 0 0 (MQ below (zQi D (res) (fun u => (zCh cI h_C q_C h_T h_LB h_LN c_kept c_keptCount c_pool c_left c_treated) ++ (zTr cI h_T q_T T) ++ (zWk cI h_LB q_LB LB) ++ (zWk cI h_LN q_LN LN)) A) args s 0 0 A) (F0 m 66 ls [])) :
    ∀ (n : Nat) (x2 : Int) (x3 : Int) (x5 : Int) (H : Heap) (locs : List Loc) (ls : Array Slot), f_Ch_farthestEntry_L17 T x1 x4 k n x2 x3 x5 = some res → va_P D vwCl ((zCh cI h_C q_C h_T h_LB h_LN c_kept c_keptCount c_pool c_left c_treated) ++ (zTr cI h_T q_T T) ++ (zWk cI h_LB q_LB LB) ++ (zWk cI h_LN q_LN LN)) H → va_D A ((zCh cI h_C q_C h_T h_LB h_LN c_kept c_keptCount c_pool c_left c_treated) ++ (zTr cI h_T q_T T) ++ (zWk cI h_LB q_LB LB) ++ (zWk cI h_LN q_LN LN)) → va_S A s.heap H locs → lv_has ls 8 [(0, .ref h_C), (1, vI x1), (2, vI x2), (3, vI x3), (4, vI x4), (5, vI x5)] → W p l e rm_Ch_farthestEntry s m args below meth c H locs 0 0 (MQ below (zQi D (res) (fun u => (zCh cI h_C q_C h_T h_LB h_LN c_kept c_keptCount c_pool c_left c_treated) ++ (zTr cI h_T q_T T) ++ (zWk cI h_LB q_LB LB) ++ (zWk cI h_LN q_LN LN)) A) args s 0 0 A) (F0 m 17 ls []) := by
  have hx := hF.1.1
  have hb := hF.1.2.1
  have hml := hF.1.2.2.1
  have hown : s.vm.findClass "RectangleTree$Changes" = some m.cls := hF.1.2.2.2.1
  have hts := hF.1.2.2.2.2
  have hr := hF.2.1
  have hlk := hF.2.2.1
  have hK := hF.2.2.2.2.1
  have hN := hF.2.2.2.2.2.1
  have hA := hF.2.2.2.2.2.2
  intro n
  induction n with
  | zero => intro x2 x3 x5 H locs ls h; cases h
  | succ n ih =>
    intro x2 x3 x5 H locs ls h hP hD hS hl
    rw [f_Ch_farthestEntry_L17] at h
    refine lv_iload hx hb dX0_farthestEntry_17 (lv_at hl 5 rfl) ?_
    refine lv_iload hx hb dX0_farthestEntry_19 (lv_at hl 4 rfl) ?_
    obtain ⟨g_4, h⟩ := gd_e h
    obtain ⟨g_5, h⟩ := gd_e h
    refine z_icmp_ge (tgt := 66) hx hb g_4 g_5 dX0_farthestEntry_21 (by decide) (fun b_6 => ?_) (fun b_6 => ?_)
    · have h := it_n b_6 h
      exact hk (x2) (x3) (x5) H locs ls h hP hD hS (lv_sub hl [2] rfl)
    · have h := it_p b_6 h
      refine lv_aload_n hx hb dX0_farthestEntry_24 rfl (lv_at hl 0 rfl) ?_
      refine va_get (D := D) (ci := 0) (v := .ref h_T) (C := RX0) (T := TX0) (N := 8) hx hb hts zin0 hown hK hP 0 rfl rfl 0 (by decide) (hts _ wm132) (fun _ h9 => h9) rfl dX0_farthestEntry_25 ?_
      refine lv_iload_n hx hb dX0_farthestEntry_28 rfl (lv_at hl 1 rfl) ?_
      refine lv_iload hx hb dX0_farthestEntry_29 (lv_at hl 5 rfl) ?_
      obtain ⟨r_7, e_8, h⟩ := bd1_e h
      refine z_goi (ws' := []) (ret := r_7) (wc := (zTr cI (h_T) (q_T) (T))) (wn := fun u_9 => (zCh cI h_C q_C h_T h_LB h_LN c_kept c_keptCount c_pool c_left c_treated) ++ (zTr cI h_T q_T T) ++ (zWk cI h_LB q_LB LB) ++ (zWk cI h_LN q_LN LN)) (wr := ([0, 1, 2, 9, 10, 11, 12, 13, 14].filterMap (fun i => ((zCh cI h_C q_C h_T h_LB h_LN c_kept c_keptCount c_pool c_left c_treated) ++ (zTr cI h_T q_T T) ++ (zWk cI h_LB q_LB LB) ++ (zWk cI h_LN q_LN LN))[i]?))) (va_runV (As := [vI x1, vI x5]) (rest := []) hF.1 (c_Tr_entryAt l D cI cZ cT h_T q_T T x1 x5 H.size (r_7) e_8) (cwV 2 hts (zgV wm511 wm235 wm236 wm33 wm237) rfl rfl rfl (by decide +kernel) ⟨Nat.le_of_ble_eq_true rfl, Nat.le_of_ble_eq_true rfl⟩) ⟨zP.blind, va_recv hK (z_subP (ws' := (zTr cI (h_T) (q_T) (T))) hP [3, 4, 5, 6, 7, 8] rfl) (ci := 4) (q0 := 0) rfl rfl, zP.enter (z_subP (ws' := (zTr cI (h_T) (q_T) (T))) hP [3, 4, 5, 6, 7, 8] rfl) hK (hD.sub [3, 4, 5, 6, 7, 8] (by decide) rfl) hN⟩ rfl rfl hl.1 rfl (lv_room (Nat.le_of_ble_eq_true rfl)) dX0_farthestEntry_31 ⟨Nat.le_refl _, Nat.le_refl _⟩) hP hD hS hA [3, 4, 5, 6, 7, 8] [0, 1, 2, 9, 10, 11, 12, 13, 14] [0, 1, 2, 9, 10, 11, 12, 13, 14, 3, 4, 5, 6, 7, 8] rfl rfl (by decide) (fun _ => rfl) (fun u_9 H locs hP hD hS hz => ?_)
      refine lv_istore (lv' := [(6, vI r_7), (0, .ref h_C), (1, vI x1), (2, vI x2), (3, vI x3), (4, vI x4), (5, vI x5)]) hx hb dX0_farthestEntry_34 hl (by decide) rfl (fun ls hl => ?_)
      refine lv_aload_n hx hb dX0_farthestEntry_36 rfl (lv_at hl 1 rfl) ?_
      refine va_get (D := D) (ci := 0) (v := .ref h_T) (C := RX0) (T := TX0) (N := 8) hx hb hts zin0 hown hK hP 0 rfl rfl 0 (by decide) (hts _ wm132) (fun _ h9 => h9) rfl dX0_farthestEntry_37 ?_
      refine lv_iload hx hb dX0_farthestEntry_40 (lv_at hl 0 rfl) ?_
      refine lv_iload_n hx hb dX0_farthestEntry_42 rfl (lv_at hl 2 rfl) ?_
      obtain ⟨r_10, e_11, h⟩ := bd1_e h
      refine z_goi (ws' := []) (ret := r_10) (wc := (zTr cI (h_T) (q_T) (T))) (wn := fun u_12 => (zCh cI h_C q_C h_T h_LB h_LN c_kept c_keptCount c_pool c_left c_treated) ++ (zTr cI h_T q_T T) ++ (zWk cI h_LB q_LB LB) ++ (zWk cI h_LN q_LN LN)) (wr := ([0, 1, 2, 9, 10, 11, 12, 13, 14].filterMap (fun i => ((zCh cI h_C q_C h_T h_LB h_LN c_kept c_keptCount c_pool c_left c_treated) ++ (zTr cI h_T q_T T) ++ (zWk cI h_LB q_LB LB) ++ (zWk cI h_LN q_LN LN))[i]?))) (va_runV (As := [vI r_7, vI x1]) (rest := []) hF.1 (c_Tr_centerDistance l D cI cZ cT h_T q_T T r_7 x1 H.size (r_10) e_11) (cwV 2 hts (zgV wm542 wm543 wm544 wm33 wm545) rfl rfl rfl (by decide +kernel) ⟨Nat.le_of_ble_eq_true rfl, Nat.le_of_ble_eq_true rfl⟩) ⟨zP.blind, va_recv hK (z_subP (ws' := (zTr cI (h_T) (q_T) (T))) hP [3, 4, 5, 6, 7, 8] rfl) (ci := 4) (q0 := 0) rfl rfl, zP.enter (z_subP (ws' := (zTr cI (h_T) (q_T) (T))) hP [3, 4, 5, 6, 7, 8] rfl) hK (hD.sub [3, 4, 5, 6, 7, 8] (by decide) rfl) hN⟩ rfl rfl hl.1 rfl (lv_room (Nat.le_of_ble_eq_true rfl)) dX0_farthestEntry_43 ⟨Nat.le_refl _, Nat.le_refl _⟩) hP hD hS hA [3, 4, 5, 6, 7, 8] [0, 1, 2, 9, 10, 11, 12, 13, 14] [0, 1, 2, 9, 10, 11, 12, 13, 14, 3, 4, 5, 6, 7, 8] rfl rfl (by decide) (fun _ => rfl) (fun u_12 H locs hP hD hS hz => ?_)
      refine lv_istore (lv' := [(7, vI r_10), (6, vI r_7), (0, .ref h_C), (1, vI x1), (2, vI x2), (3, vI x3), (4, vI x4), (5, vI x5)]) hx hb dX0_farthestEntry_46 hl (by decide) rfl (fun ls hl => ?_)
      refine lv_iload hx hb dX0_farthestEntry_48 (lv_at hl 0 rfl) ?_
      refine lv_iload_n hx hb dX0_farthestEntry_50 rfl (lv_at hl 5 rfl) ?_
      obtain ⟨g_13, h⟩ := gd_e h
      obtain ⟨g_14, h⟩ := gd_e h
      refine z_icmp_lt (tgt := 60) hx hb g_13 g_14 dX0_farthestEntry_51 (by decide) (fun b_15 => ?_) (fun b_15 => ?_)
      · have h := it_p b_15 h
        refine lv_iinc (v := Int32.ofInt (x5 + 1)) (lv' := [(5, vI (x5 + 1)), (7, vI r_10), (6, vI r_7), (0, .ref h_C), (1, vI x1), (2, vI x2), (3, vI x3), (4, vI x4)]) hx hb dX0_farthestEntry_60 hl (k := 7) rfl (z_inc _ _) (by decide) rfl (fun ls hl => ?_)
        refine lv_goto (tgt := 17) hx hb dX0_farthestEntry_63 (by decide) ?_
        exact ih (x2) (x3) ((x5 + 1)) H locs ls h hP hD hS (lv_sub hl [3, 4, 5, 6, 7, 0] rfl)
      · have h := it_n b_15 h
        refine lv_iload hx hb dX0_farthestEntry_54 (lv_at hl 1 rfl) ?_
        refine lv_istore_n (lv' := [(2, vI r_7), (7, vI r_10), (6, vI r_7), (0, .ref h_C), (1, vI x1), (3, vI x3), (4, vI x4), (5, vI x5)]) hx hb dX0_farthestEntry_56 rfl hl (by decide) rfl (fun ls hl => ?_)
        refine lv_iload hx hb dX0_farthestEntry_57 (lv_at hl 1 rfl) ?_
        refine lv_istore_n (lv' := [(3, vI r_10), (2, vI r_7), (7, vI r_10), (6, vI r_7), (0, .ref h_C), (1, vI x1), (4, vI x4), (5, vI x5)]) hx hb dX0_farthestEntry_59 rfl hl (by decide) rfl (fun ls hl => ?_)
        refine lv_iinc (v := Int32.ofInt (x5 + 1)) (lv' := [(5, vI (x5 + 1)), (3, vI r_10), (2, vI r_7), (7, vI r_10), (6, vI r_7), (0, .ref h_C), (1, vI x1), (4, vI x4)]) hx hb dX0_farthestEntry_60 hl (k := 7) rfl (z_inc _ _) (by decide) rfl (fun ls hl => ?_)
        refine lv_goto (tgt := 17) hx hb dX0_farthestEntry_63 (by decide) ?_
        exact ih (r_7) (r_10) ((x5 + 1)) H locs ls h hP hD hS (lv_sub hl [5, 6, 2, 1, 7, 0] rfl)
set_option maxHeartbeats 4000000 in
set_option maxRecDepth 100000 in
theorem c_Ch_farthestEntry (l : Launch) (D : va_G) (cI cZ cT : ClassId) (h_C : Nat) (q_C : Nat → Nat) (h_T : Nat) (h_LB : Nat) (h_LN : Nat) (q_T : Nat → Nat) (q_LB : Nat → Nat) (q_LN : Nat → Nat) (c_kept : Nat → Int) (c_keptCount : Int) (c_pool : Nat → Int) (c_left : Int) (c_treated : Int64) (T : TV) (LB : KV) (LN : KV) (x1 : Int) (sz : Nat) (res : Int) (h : f_Ch_farthestEntry T x1 = some res) : zMi l yX0_farthestEntry cX0_farthestEntry 8 rm_Ch_farthestEntry D (zt cI cZ cT) [.ref h_C, vI x1] ((zCh cI h_C q_C h_T h_LB h_LN c_kept c_keptCount c_pool c_left c_treated) ++ (zTr cI h_T q_T T) ++ (zWk cI h_LB q_LB LB) ++ (zWk cI h_LN q_LN LN)) sz (res) (fun u => (zCh cI h_C q_C h_T h_LB h_LN c_kept c_keptCount c_pool c_left c_treated) ++ (zTr cI h_T q_T T) ++ (zWk cI h_LB q_LB LB) ++ (zWk cI h_LN q_LN LN)) 0 0 := by
  refine z_enth (Qc := zQi D (res) (fun u => (zCh cI h_C q_C h_T h_LB h_LN c_kept c_keptCount c_pool c_left c_treated) ++ (zTr cI h_T q_T T) ++ (zWk cI h_LB q_LB LB) ++ (zWk cI h_LN q_LN LN))) (by decide) (Nat.le_of_ble_eq_true rfl) (fun p e s m args below meth c A ls H locs hF hP hD hS hl => ?_)
  have hx := hF.1.1
  have hb := hF.1.2.1
  have hml := hF.1.2.2.1
  have hown : s.vm.findClass "RectangleTree$Changes" = some m.cls := hF.1.2.2.2.1
  have hts := hF.1.2.2.2.2
  have hr := hF.2.1
  have hlk := hF.2.2.1
  have hK := hF.2.2.2.2.1
  have hN := hF.2.2.2.2.2.1
  have hA := hF.2.2.2.2.2.2
  unfold f_Ch_farthestEntry at h
  refine lv_iconst (v := Int32.ofInt (-1)) hx hb dX0_farthestEntry_0 rfl ?_
  refine lv_istore_n (lv' := [(2, vI (-1)), (0, .ref h_C), (1, vI x1)]) hx hb dX0_farthestEntry_1 rfl hl (by decide) rfl (fun ls hl => ?_)
  refine lv_iconst (v := Int32.ofInt 0) hx hb dX0_farthestEntry_2 rfl ?_
  refine lv_istore_n (lv' := [(3, vI 0), (2, vI (-1)), (0, .ref h_C), (1, vI x1)]) hx hb dX0_farthestEntry_3 rfl hl (by decide) rfl (fun ls hl => ?_)
  refine lv_aload_n hx hb dX0_farthestEntry_4 rfl (lv_at hl 2 rfl) ?_
  refine va_get (D := D) (ci := 0) (v := .ref h_T) (C := RX0) (T := TX0) (N := 8) hx hb hts zin0 hown hK hP 0 rfl rfl 0 (by decide) (hts _ wm132) (fun _ h9 => h9) rfl dX0_farthestEntry_5 ?_
  refine lv_iload_n hx hb dX0_farthestEntry_8 rfl (lv_at hl 3 rfl) ?_
  obtain ⟨r_1, e_2, h⟩ := bd1_e h
  refine z_goi (ws' := []) (ret := r_1) (wc := (zTr cI (h_T) (q_T) (T))) (wn := fun u_3 => (zCh cI h_C q_C h_T h_LB h_LN c_kept c_keptCount c_pool c_left c_treated) ++ (zTr cI h_T q_T T) ++ (zWk cI h_LB q_LB LB) ++ (zWk cI h_LN q_LN LN)) (wr := ([0, 1, 2, 9, 10, 11, 12, 13, 14].filterMap (fun i => ((zCh cI h_C q_C h_T h_LB h_LN c_kept c_keptCount c_pool c_left c_treated) ++ (zTr cI h_T q_T T) ++ (zWk cI h_LB q_LB LB) ++ (zWk cI h_LN q_LN LN))[i]?))) (va_runV (As := [vI x1]) (rest := []) hF.1 (c_Tr_sizeOf l D cI cZ cT h_T q_T T x1 H.size (r_1) e_2) (cwV 1 hts (zgV wm510 wm231 wm232 wm33 wm233) rfl rfl rfl (by decide +kernel) ⟨Nat.le_of_ble_eq_true rfl, Nat.le_of_ble_eq_true rfl⟩) ⟨zP.blind, va_recv hK (z_subP (ws' := (zTr cI (h_T) (q_T) (T))) hP [3, 4, 5, 6, 7, 8] rfl) (ci := 4) (q0 := 0) rfl rfl, zP.enter (z_subP (ws' := (zTr cI (h_T) (q_T) (T))) hP [3, 4, 5, 6, 7, 8] rfl) hK (hD.sub [3, 4, 5, 6, 7, 8] (by decide) rfl) hN⟩ rfl rfl hl.1 rfl (lv_room (Nat.le_of_ble_eq_true rfl)) dX0_farthestEntry_9 ⟨Nat.le_refl _, Nat.le_refl _⟩) hP hD hS hA [3, 4, 5, 6, 7, 8] [0, 1, 2, 9, 10, 11, 12, 13, 14] [0, 1, 2, 9, 10, 11, 12, 13, 14, 3, 4, 5, 6, 7, 8] rfl rfl (by decide) (fun _ => rfl) (fun u_3 H locs hP hD hS hz => ?_)
  refine lv_istore (lv' := [(4, vI r_1), (3, vI 0), (2, vI (-1)), (0, .ref h_C), (1, vI x1)]) hx hb dX0_farthestEntry_12 hl (by decide) rfl (fun ls hl => ?_)
  refine lv_iconst (v := Int32.ofInt 0) hx hb dX0_farthestEntry_14 rfl ?_
  refine lv_istore (lv' := [(5, vI 0), (4, vI r_1), (3, vI 0), (2, vI (-1)), (0, .ref h_C), (1, vI x1)]) hx hb dX0_farthestEntry_15 hl (by decide) rfl (fun ls hl => ?_)
  refine w_Ch_farthestEntry_L17 D cI cZ cT (h_C) (q_C) (h_T) (h_LB) (h_LN) (q_T) (q_LB) (q_LN) (c_kept) (c_keptCount) (c_pool) (c_left) (c_treated) (T) (LB) (LN) (x1) (r_1) _ _ hF (fun x2_16 x3_17 x5_18 H locs ls h hP hD hS hl => ?_) _ ((-1)) (0) (0) _ _ _ h hP hD hS (lv_sub hl [4, 5, 3, 2, 1, 0] rfl)
  refine lv_iload_n hx hb dX0_farthestEntry_66 rfl (lv_at hl 0 rfl) ?_
  obtain rfl := Option.some.inj h
  exact z_iret hx hb hr hlk (fun _ _ => 0) hP hD hS dX0_farthestEntry_67
def f_Ch_reinsertFarthest (c_treated : Int64) (T : TV) (x1 : Int) : Option (Int × Int64 × TV) :=
  bd1 (f_Tr_levelOf T x1) <| fun r_1 => bd1 (f_Ch_farthestEntry (sRec T ((tRec T) + 1)) x1) <| fun r_4 => bd1 (f_Tr_takeOut (sRec T ((tRec T) + 1)) r_4) <| fun T_7 => bd1 (f_Ch_targetFor T_7 r_4) <| fun r_10 => bd1 (f_Tr_sizeOf T_7 r_10) <| fun r_13 => bd1 (f_Tr_addAt T_7 r_10 r_13 r_4) <| fun T_16 => some (r_10, (c_treated ||| (lShl (1 : Int64) r_1)), T_16)
abbrev rm_Ch_reinsertFarthest : Room := ({ frames := 4, cells := 0, slots := 0, locals := 101 } : Room)
set_option maxHeartbeats 4000000 in
set_option maxRecDepth 100000 in
theorem c_Ch_reinsertFarthest (l : Launch) (D : va_G) (cI cZ cT : ClassId) (h_C : Nat) (q_C : Nat → Nat) (h_T : Nat) (h_LB : Nat) (h_LN : Nat) (q_T : Nat → Nat) (q_LB : Nat → Nat) (q_LN : Nat → Nat) (c_kept : Nat → Int) (c_keptCount : Int) (c_pool : Nat → Int) (c_left : Int) (c_treated : Int64) (T : TV) (LB : KV) (LN : KV) (x1 : Int) (sz : Nat) (res : Int × Int64 × TV) (h : f_Ch_reinsertFarthest c_treated T x1 = some res) : zMi l yX0_reinsertFarthest cX0_reinsertFarthest 4 rm_Ch_reinsertFarthest D (zt cI cZ cT) [.ref h_C, vI x1] ((zCh cI h_C q_C h_T h_LB h_LN c_kept c_keptCount c_pool c_left c_treated) ++ (zTr cI h_T q_T T) ++ (zWk cI h_LB q_LB LB) ++ (zWk cI h_LN q_LN LN)) sz (res.1) (fun u => (zCh cI h_C q_C h_T h_LB h_LN c_kept c_keptCount c_pool c_left (res.2.1)) ++ (zTr cI h_T q_T (res.2.2)) ++ (zWk cI h_LB q_LB LB) ++ (zWk cI h_LN q_LN LN)) 0 0 := by
  refine z_enth (Qc := zQi D (res.1) (fun u => (zCh cI h_C q_C h_T h_LB h_LN c_kept c_keptCount c_pool c_left (res.2.1)) ++ (zTr cI h_T q_T (res.2.2)) ++ (zWk cI h_LB q_LB LB) ++ (zWk cI h_LN q_LN LN))) (by decide) (Nat.le_of_ble_eq_true rfl) (fun p e s m args below meth c A ls H locs hF hP hD hS hl => ?_)
  have hx := hF.1.1
  have hb := hF.1.2.1
  have hml := hF.1.2.2.1
  have hown : s.vm.findClass "RectangleTree$Changes" = some m.cls := hF.1.2.2.2.1
  have hts := hF.1.2.2.2.2
  have hr := hF.2.1
  have hlk := hF.2.2.1
  have hK := hF.2.2.2.2.1
  have hN := hF.2.2.2.2.2.1
  have hA := hF.2.2.2.2.2.2
  unfold f_Ch_reinsertFarthest at h
  refine lv_aload_n hx hb dX0_reinsertFarthest_0 rfl (lv_at hl 0 rfl) ?_
  refine lv_dup hx hb dX0_reinsertFarthest_1 rfl ?_
  refine va_get (D := D) (ci := 0) (v := .long c_treated) (C := RX0) (T := TX0) (N := 8) hx hb hts zin0 hown hK hP 0 rfl rfl 5 (by decide) (hts _ wm137) (fun _ h9 => h9) rfl dX0_reinsertFarthest_2 ?_
  refine lv_lconst (v := 1) hx hb dX0_reinsertFarthest_5 rfl ?_
  refine lv_aload_n hx hb dX0_reinsertFarthest_6 rfl (lv_at hl 0 rfl) ?_
  refine va_get (D := D) (ci := 0) (v := .ref h_T) (C := RX0) (T := TX0) (N := 8) hx hb hts zin0 hown hK hP 0 rfl rfl 0 (by decide) (hts _ wm132) (fun _ h9 => h9) rfl dX0_reinsertFarthest_7 ?_
  refine lv_iload_n hx hb dX0_reinsertFarthest_10 rfl (lv_at hl 1 rfl) ?_
  obtain ⟨r_1, e_2, h⟩ := bd1_e h
  refine z_goi (ws' := []) (ret := r_1) (wc := (zTr cI (h_T) (q_T) (T))) (wn := fun u_3 => (zCh cI h_C q_C h_T h_LB h_LN c_kept c_keptCount c_pool c_left c_treated) ++ (zTr cI h_T q_T T) ++ (zWk cI h_LB q_LB LB) ++ (zWk cI h_LN q_LN LN)) (wr := ([0, 1, 2, 9, 10, 11, 12, 13, 14].filterMap (fun i => ((zCh cI h_C q_C h_T h_LB h_LN c_kept c_keptCount c_pool c_left c_treated) ++ (zTr cI h_T q_T T) ++ (zWk cI h_LB q_LB LB) ++ (zWk cI h_LN q_LN LN))[i]?))) (va_runV (As := [vI x1]) (rest := [.long (1 : Int64), .long c_treated, .ref h_C]) hF.1 (c_Tr_levelOf l D cI cZ cT h_T q_T T x1 H.size (r_1) e_2) (cwV 1 hts (zgV wm504 wm301 wm302 wm33 wm303) rfl rfl rfl (by decide +kernel) ⟨Nat.le_of_ble_eq_true rfl, Nat.le_of_ble_eq_true rfl⟩) ⟨zP.blind, va_recv hK (z_subP (ws' := (zTr cI (h_T) (q_T) (T))) hP [3, 4, 5, 6, 7, 8] rfl) (ci := 4) (q0 := 0) rfl rfl, zP.enter (z_subP (ws' := (zTr cI (h_T) (q_T) (T))) hP [3, 4, 5, 6, 7, 8] rfl) hK (hD.sub [3, 4, 5, 6, 7, 8] (by decide) rfl) hN⟩ rfl rfl hl.1 rfl (lv_room (Nat.le_of_ble_eq_true rfl)) dX0_reinsertFarthest_11 ⟨Nat.le_refl _, Nat.le_refl _⟩) hP hD hS hA [3, 4, 5, 6, 7, 8] [0, 1, 2, 9, 10, 11, 12, 13, 14] [0, 1, 2, 9, 10, 11, 12, 13, 14, 3, 4, 5, 6, 7, 8] rfl rfl (by decide) (fun _ => rfl) (fun u_3 H locs hP hD hS hz => ?_)
  refine z_lshl hx hb dX0_reinsertFarthest_14 ?_
  refine lv_lor hx hb dX0_reinsertFarthest_15 ?_
  refine va_put (D := D) (ci := 0) (v := .long (c_treated ||| (lShl (1 : Int64) r_1))) (ty := .long) (C := RX0) (T := TX0) (N := 8) hx hb hts zin0 tyX0 tyX0_ok nmX0 hown hK hP hD hS 0 rfl rfl 5 (by decide) (hts _ wm137) (fun _ h9 => h9) rfl (by decide +kernel) rfl rfl (Nat.le_of_ble_eq_true rfl) dX0_reinsertFarthest_16 (fun H locs hP hD hS => ?_)
  replace hP : va_P D vwCl ((zCh cI h_C q_C h_T h_LB h_LN c_kept c_keptCount c_pool c_left (c_treated ||| (lShl (1 : Int64) r_1))) ++ (zTr cI h_T q_T T) ++ (zWk cI h_LB q_LB LB) ++ (zWk cI h_LN q_LN LN)) H := hP
  replace hD : va_D A ((zCh cI h_C q_C h_T h_LB h_LN c_kept c_keptCount c_pool c_left (c_treated ||| (lShl (1 : Int64) r_1))) ++ (zTr cI h_T q_T T) ++ (zWk cI h_LB q_LB LB) ++ (zWk cI h_LN q_LN LN)) := hD
  refine lv_aload_n hx hb dX0_reinsertFarthest_19 rfl (lv_at hl 0 rfl) ?_
  refine va_get (D := D) (ci := 0) (v := .ref h_T) (C := RX0) (T := TX0) (N := 8) hx hb hts zin0 hown hK hP 0 rfl rfl 0 (by decide) (hts _ wm132) (fun _ h9 => h9) rfl dX0_reinsertFarthest_20 ?_
  refine lv_dup hx hb dX0_reinsertFarthest_23 rfl ?_
  refine va_get (D := D) (ci := 4) (v := vI (tRec T)) (C := RX4) (T := TX4) (N := 10) hx hb hts zin4 hown hK hP 3 rfl rfl 9 (by decide) (hts _ wm82) (fun _ h9 => h9) rfl dX0_reinsertFarthest_24 ?_
  refine lv_iconst (v := Int32.ofInt 1) hx hb dX0_reinsertFarthest_27 rfl ?_
  refine z_iadd hx hb dX0_reinsertFarthest_28 ?_
  refine va_put (D := D) (ci := 4) (v := vI ((tRec T) + 1)) (ty := .int) (C := RX4) (T := TX4) (N := 10) hx hb hts zin4 tyX4 tyX4_ok nmX4 hown hK hP hD hS 3 rfl rfl 9 (by decide) (hts _ wm82) (fun _ h9 => h9) rfl (by decide +kernel) rfl rfl (Nat.le_of_ble_eq_true rfl) dX0_reinsertFarthest_29 (fun H locs hP hD hS => ?_)
  replace hP : va_P D vwCl ((zCh cI h_C q_C h_T h_LB h_LN c_kept c_keptCount c_pool c_left (c_treated ||| (lShl (1 : Int64) r_1))) ++ (zTr cI h_T q_T (sRec T ((tRec T) + 1))) ++ (zWk cI h_LB q_LB LB) ++ (zWk cI h_LN q_LN LN)) H := hP
  replace hD : va_D A ((zCh cI h_C q_C h_T h_LB h_LN c_kept c_keptCount c_pool c_left (c_treated ||| (lShl (1 : Int64) r_1))) ++ (zTr cI h_T q_T (sRec T ((tRec T) + 1))) ++ (zWk cI h_LB q_LB LB) ++ (zWk cI h_LN q_LN LN)) := hD
  refine lv_aload_n hx hb dX0_reinsertFarthest_32 rfl (lv_at hl 0 rfl) ?_
  refine lv_iload_n hx hb dX0_reinsertFarthest_33 rfl (lv_at hl 1 rfl) ?_
  obtain ⟨r_4, e_5, h⟩ := bd1_e h
  refine z_goi (ws' := []) (ret := r_4) (wc := (zCh cI (h_C) (q_C) (h_T) (h_LB) (h_LN) (c_kept) (c_keptCount) (c_pool) (c_left) ((c_treated ||| (lShl (1 : Int64) r_1)))) ++ (zTr cI (h_T) (q_T) ((sRec T ((tRec T) + 1)))) ++ (zWk cI (h_LB) (q_LB) (LB)) ++ (zWk cI (h_LN) (q_LN) (LN))) (wn := fun u_6 => (zCh cI h_C q_C h_T h_LB h_LN c_kept c_keptCount c_pool c_left (c_treated ||| (lShl (1 : Int64) r_1))) ++ (zTr cI h_T q_T (sRec T ((tRec T) + 1))) ++ (zWk cI h_LB q_LB LB) ++ (zWk cI h_LN q_LN LN)) (wr := []) (va_runV (As := [vI x1]) (rest := []) hF.1 (c_Ch_farthestEntry l D cI cZ cT h_C q_C h_T h_LB h_LN q_T q_LB q_LN c_kept c_keptCount c_pool c_left (c_treated ||| (lShl (1 : Int64) r_1)) (sRec T ((tRec T) + 1)) LB LN x1 H.size (r_4) e_5) (cwV 1 hts (zgV wm538 wm540 wm13 wm35 wm541) rfl rfl rfl (by decide +kernel) ⟨Nat.le_of_ble_eq_true rfl, Nat.le_of_ble_eq_true rfl⟩) ⟨zP.blind, va_recv hK (z_subP (ws' := (zCh cI (h_C) (q_C) (h_T) (h_LB) (h_LN) (c_kept) (c_keptCount) (c_pool) (c_left) ((c_treated ||| (lShl (1 : Int64) r_1)))) ++ (zTr cI (h_T) (q_T) ((sRec T ((tRec T) + 1)))) ++ (zWk cI (h_LB) (q_LB) (LB)) ++ (zWk cI (h_LN) (q_LN) (LN))) hP [0, 1, 2, 3, 4, 5, 6, 7, 8, 9, 10, 11, 12, 13, 14] rfl) (ci := 0) (q0 := 0) rfl rfl, zP.enter (z_subP (ws' := (zCh cI (h_C) (q_C) (h_T) (h_LB) (h_LN) (c_kept) (c_keptCount) (c_pool) (c_left) ((c_treated ||| (lShl (1 : Int64) r_1)))) ++ (zTr cI (h_T) (q_T) ((sRec T ((tRec T) + 1)))) ++ (zWk cI (h_LB) (q_LB) (LB)) ++ (zWk cI (h_LN) (q_LN) (LN))) hP [0, 1, 2, 3, 4, 5, 6, 7, 8, 9, 10, 11, 12, 13, 14] rfl) hK (hD.sub [0, 1, 2, 3, 4, 5, 6, 7, 8, 9, 10, 11, 12, 13, 14] (by decide) rfl) hN⟩ rfl rfl hl.1 rfl (lv_room (Nat.le_of_ble_eq_true rfl)) dX0_reinsertFarthest_34 ⟨Nat.le_refl _, Nat.le_refl _⟩) hP hD hS hA [0, 1, 2, 3, 4, 5, 6, 7, 8, 9, 10, 11, 12, 13, 14] [] [0, 1, 2, 3, 4, 5, 6, 7, 8, 9, 10, 11, 12, 13, 14] rfl rfl (by decide) (fun _ => rfl) (fun u_6 H locs hP hD hS hz => ?_)
  refine lv_istore_n (lv' := [(2, vI r_4), (0, .ref h_C), (1, vI x1)]) hx hb dX0_reinsertFarthest_37 rfl hl (by decide) rfl (fun ls hl => ?_)
  refine lv_aload_n hx hb dX0_reinsertFarthest_38 rfl (lv_at hl 1 rfl) ?_
  refine va_get (D := D) (ci := 0) (v := .ref h_T) (C := RX0) (T := TX0) (N := 8) hx hb hts zin0 hown hK hP 0 rfl rfl 0 (by decide) (hts _ wm132) (fun _ h9 => h9) rfl dX0_reinsertFarthest_39 ?_
  refine lv_iload_n hx hb dX0_reinsertFarthest_42 rfl (lv_at hl 0 rfl) ?_
  obtain ⟨T_7, e_8, h⟩ := bd1_e h
  refine z_gov (wc := (zTr cI (h_T) (q_T) ((sRec T ((tRec T) + 1))))) (wn := fun u_9 => (zCh cI h_C q_C h_T h_LB h_LN c_kept c_keptCount c_pool c_left (c_treated ||| (lShl (1 : Int64) r_1))) ++ (zTr cI h_T q_T T_7) ++ (zWk cI h_LB q_LB LB) ++ (zWk cI h_LN q_LN LN)) (wr := ([0, 1, 2, 9, 10, 11, 12, 13, 14].filterMap (fun i => ((zCh cI h_C q_C h_T h_LB h_LN c_kept c_keptCount c_pool c_left (c_treated ||| (lShl (1 : Int64) r_1))) ++ (zTr cI h_T q_T (sRec T ((tRec T) + 1))) ++ (zWk cI h_LB q_LB LB) ++ (zWk cI h_LN q_LN LN))[i]?))) (va_runV (As := [vI r_4]) (rest := []) hF.1 (c_Tr_takeOut l D cI cZ cT h_T q_T (sRec T ((tRec T) + 1)) r_4 H.size (T_7) e_8) (cwV 1 hts (zgV wm550 wm551 wm552 wm33 wm553) rfl rfl rfl (by decide +kernel) ⟨Nat.le_of_ble_eq_true rfl, Nat.le_of_ble_eq_true rfl⟩) ⟨zP.blind, va_recv hK (z_subP (ws' := (zTr cI (h_T) (q_T) ((sRec T ((tRec T) + 1))))) hP [3, 4, 5, 6, 7, 8] rfl) (ci := 4) (q0 := 0) rfl rfl, zP.enter (z_subP (ws' := (zTr cI (h_T) (q_T) ((sRec T ((tRec T) + 1))))) hP [3, 4, 5, 6, 7, 8] rfl) hK (hD.sub [3, 4, 5, 6, 7, 8] (by decide) rfl) hN⟩ rfl rfl hl.1 rfl (lv_room (Nat.le_of_ble_eq_true rfl)) dX0_reinsertFarthest_43 ⟨Nat.le_refl _, Nat.le_refl _⟩) hP hD hS hA [3, 4, 5, 6, 7, 8] [0, 1, 2, 9, 10, 11, 12, 13, 14] [0, 1, 2, 9, 10, 11, 12, 13, 14, 3, 4, 5, 6, 7, 8] rfl rfl (by decide) (fun _ => rfl) (fun u_9 H locs hP hD hS hz => ?_)
  refine lv_aload_n hx hb dX0_reinsertFarthest_46 rfl (lv_at hl 1 rfl) ?_
  refine lv_iload_n hx hb dX0_reinsertFarthest_47 rfl (lv_at hl 0 rfl) ?_
  obtain ⟨r_10, e_11, h⟩ := bd1_e h
  refine z_goi (ws' := []) (ret := r_10) (wc := (zCh cI (h_C) (q_C) (h_T) (h_LB) (h_LN) (c_kept) (c_keptCount) (c_pool) (c_left) ((c_treated ||| (lShl (1 : Int64) r_1)))) ++ (zTr cI (h_T) (q_T) (T_7)) ++ (zWk cI (h_LB) (q_LB) (LB)) ++ (zWk cI (h_LN) (q_LN) (LN))) (wn := fun u_12 => (zCh cI h_C q_C h_T h_LB h_LN c_kept c_keptCount c_pool c_left (c_treated ||| (lShl (1 : Int64) r_1))) ++ (zTr cI h_T q_T T_7) ++ (zWk cI h_LB q_LB LB) ++ (zWk cI h_LN q_LN LN)) (wr := []) (va_runV (As := [vI r_4]) (rest := []) hF.1 (c_Ch_targetFor l D cI cZ cT h_C q_C h_T h_LB h_LN q_T q_LB q_LN c_kept c_keptCount c_pool c_left (c_treated ||| (lShl (1 : Int64) r_1)) T_7 LB LN r_4 H.size (r_10) e_11) (cwV 1 hts (zgV wm500 wm502 wm8 wm35 wm503) rfl rfl rfl (by decide +kernel) ⟨Nat.le_of_ble_eq_true rfl, Nat.le_of_ble_eq_true rfl⟩) ⟨zP.blind, va_recv hK (z_subP (ws' := (zCh cI (h_C) (q_C) (h_T) (h_LB) (h_LN) (c_kept) (c_keptCount) (c_pool) (c_left) ((c_treated ||| (lShl (1 : Int64) r_1)))) ++ (zTr cI (h_T) (q_T) (T_7)) ++ (zWk cI (h_LB) (q_LB) (LB)) ++ (zWk cI (h_LN) (q_LN) (LN))) hP [0, 1, 2, 3, 4, 5, 6, 7, 8, 9, 10, 11, 12, 13, 14] rfl) (ci := 0) (q0 := 0) rfl rfl, zP.enter (z_subP (ws' := (zCh cI (h_C) (q_C) (h_T) (h_LB) (h_LN) (c_kept) (c_keptCount) (c_pool) (c_left) ((c_treated ||| (lShl (1 : Int64) r_1)))) ++ (zTr cI (h_T) (q_T) (T_7)) ++ (zWk cI (h_LB) (q_LB) (LB)) ++ (zWk cI (h_LN) (q_LN) (LN))) hP [0, 1, 2, 3, 4, 5, 6, 7, 8, 9, 10, 11, 12, 13, 14] rfl) hK (hD.sub [0, 1, 2, 3, 4, 5, 6, 7, 8, 9, 10, 11, 12, 13, 14] (by decide) rfl) hN⟩ rfl rfl hl.1 rfl (lv_room (Nat.le_of_ble_eq_true rfl)) dX0_reinsertFarthest_48 ⟨Nat.le_refl _, Nat.le_refl _⟩) hP hD hS hA [0, 1, 2, 3, 4, 5, 6, 7, 8, 9, 10, 11, 12, 13, 14] [] [0, 1, 2, 3, 4, 5, 6, 7, 8, 9, 10, 11, 12, 13, 14] rfl rfl (by decide) (fun _ => rfl) (fun u_12 H locs hP hD hS hz => ?_)
  refine lv_istore_n (lv' := [(3, vI r_10), (2, vI r_4), (0, .ref h_C), (1, vI x1)]) hx hb dX0_reinsertFarthest_51 rfl hl (by decide) rfl (fun ls hl => ?_)
  refine lv_aload_n hx hb dX0_reinsertFarthest_52 rfl (lv_at hl 2 rfl) ?_
  refine va_get (D := D) (ci := 0) (v := .ref h_T) (C := RX0) (T := TX0) (N := 8) hx hb hts zin0 hown hK hP 0 rfl rfl 0 (by decide) (hts _ wm132) (fun _ h9 => h9) rfl dX0_reinsertFarthest_53 ?_
  refine lv_iload_n hx hb dX0_reinsertFarthest_56 rfl (lv_at hl 0 rfl) ?_
  refine lv_aload_n hx hb dX0_reinsertFarthest_57 rfl (lv_at hl 2 rfl) ?_
  refine va_get (D := D) (ci := 0) (v := .ref h_T) (C := RX0) (T := TX0) (N := 8) hx hb hts zin0 hown hK hP 0 rfl rfl 0 (by decide) (hts _ wm132) (fun _ h9 => h9) rfl dX0_reinsertFarthest_58 ?_
  refine lv_iload_n hx hb dX0_reinsertFarthest_61 rfl (lv_at hl 0 rfl) ?_
  obtain ⟨r_13, e_14, h⟩ := bd1_e h
  refine z_goi (ws' := []) (ret := r_13) (wc := (zTr cI (h_T) (q_T) (T_7))) (wn := fun u_15 => (zCh cI h_C q_C h_T h_LB h_LN c_kept c_keptCount c_pool c_left (c_treated ||| (lShl (1 : Int64) r_1))) ++ (zTr cI h_T q_T T_7) ++ (zWk cI h_LB q_LB LB) ++ (zWk cI h_LN q_LN LN)) (wr := ([0, 1, 2, 9, 10, 11, 12, 13, 14].filterMap (fun i => ((zCh cI h_C q_C h_T h_LB h_LN c_kept c_keptCount c_pool c_left (c_treated ||| (lShl (1 : Int64) r_1))) ++ (zTr cI h_T q_T T_7) ++ (zWk cI h_LB q_LB LB) ++ (zWk cI h_LN q_LN LN))[i]?))) (va_runV (As := [vI r_10]) (rest := [vI r_10, .ref h_T]) hF.1 (c_Tr_sizeOf l D cI cZ cT h_T q_T T_7 r_10 H.size (r_13) e_14) (cwV 1 hts (zgV wm510 wm231 wm232 wm33 wm233) rfl rfl rfl (by decide +kernel) ⟨Nat.le_of_ble_eq_true rfl, Nat.le_of_ble_eq_true rfl⟩) ⟨zP.blind, va_recv hK (z_subP (ws' := (zTr cI (h_T) (q_T) (T_7))) hP [3, 4, 5, 6, 7, 8] rfl) (ci := 4) (q0 := 0) rfl rfl, zP.enter (z_subP (ws' := (zTr cI (h_T) (q_T) (T_7))) hP [3, 4, 5, 6, 7, 8] rfl) hK (hD.sub [3, 4, 5, 6, 7, 8] (by decide) rfl) hN⟩ rfl rfl hl.1 rfl (lv_room (Nat.le_of_ble_eq_true rfl)) dX0_reinsertFarthest_62 ⟨Nat.le_refl _, Nat.le_refl _⟩) hP hD hS hA [3, 4, 5, 6, 7, 8] [0, 1, 2, 9, 10, 11, 12, 13, 14] [0, 1, 2, 9, 10, 11, 12, 13, 14, 3, 4, 5, 6, 7, 8] rfl rfl (by decide) (fun _ => rfl) (fun u_15 H locs hP hD hS hz => ?_)
  refine lv_iload_n hx hb dX0_reinsertFarthest_65 rfl (lv_at hl 1 rfl) ?_
  obtain ⟨T_16, e_17, h⟩ := bd1_e h
  refine z_gov (wc := (zTr cI (h_T) (q_T) (T_7))) (wn := fun u_18 => (zCh cI h_C q_C h_T h_LB h_LN c_kept c_keptCount c_pool c_left (c_treated ||| (lShl (1 : Int64) r_1))) ++ (zTr cI h_T q_T T_16) ++ (zWk cI h_LB q_LB LB) ++ (zWk cI h_LN q_LN LN)) (wr := ([0, 1, 2, 9, 10, 11, 12, 13, 14].filterMap (fun i => ((zCh cI h_C q_C h_T h_LB h_LN c_kept c_keptCount c_pool c_left (c_treated ||| (lShl (1 : Int64) r_1))) ++ (zTr cI h_T q_T T_7) ++ (zWk cI h_LB q_LB LB) ++ (zWk cI h_LN q_LN LN))[i]?))) (va_runV (As := [vI r_10, vI r_13, vI r_4]) (rest := []) hF.1 (c_Tr_addAt l D cI cZ cT h_T q_T T_7 r_10 r_13 r_4 H.size (T_16) e_17) (cwV 3 hts (zgV wm517 wm518 wm519 wm33 wm520) rfl rfl rfl (by decide +kernel) ⟨Nat.le_of_ble_eq_true rfl, Nat.le_of_ble_eq_true rfl⟩) ⟨zP.blind, va_recv hK (z_subP (ws' := (zTr cI (h_T) (q_T) (T_7))) hP [3, 4, 5, 6, 7, 8] rfl) (ci := 4) (q0 := 0) rfl rfl, zP.enter (z_subP (ws' := (zTr cI (h_T) (q_T) (T_7))) hP [3, 4, 5, 6, 7, 8] rfl) hK (hD.sub [3, 4, 5, 6, 7, 8] (by decide) rfl) hN⟩ rfl rfl hl.1 rfl (lv_room (Nat.le_of_ble_eq_true rfl)) dX0_reinsertFarthest_66 ⟨Nat.le_refl _, Nat.le_refl _⟩) hP hD hS hA [3, 4, 5, 6, 7, 8] [0, 1, 2, 9, 10, 11, 12, 13, 14] [0, 1, 2, 9, 10, 11, 12, 13, 14, 3, 4, 5, 6, 7, 8] rfl rfl (by decide) (fun _ => rfl) (fun u_18 H locs hP hD hS hz => ?_)
  refine lv_iload_n hx hb dX0_reinsertFarthest_69 rfl (lv_at hl 0 rfl) ?_
  obtain rfl := Option.some.inj h
  exact z_iret hx hb hr hlk (fun _ _ => 0) hP hD hS dX0_reinsertFarthest_70
def f_Ch_fillPool_L14 (c_left : Int) (T : TV) (x1 : Int) (k : Int → (Nat → Int) → Option ((Nat → Int) × Int)) : Nat → Int → (Nat → Int) → Option ((Nat → Int) × Int)
  | 0, _, _ => none
  | n + 1, x2, c_pool =>
  gd (ck x2) <| gd (ck c_left) <| if x2 < c_left then (bd1 (f_Tr_entryAt T x1 x2) <| fun r_7 => bd1 (f_Rt_put 6 c_pool x2 r_7) <| fun c_pool_10 => f_Ch_fillPool_L14 c_left T x1 k n ((x2 + 1)) (c_pool_10)) else (k (x2) (c_pool))
def f_Ch_fillPool (c_pool : Nat → Int) (T : TV) (x1 : Int) : Option ((Nat → Int) × Int) :=
  bd1 (f_Tr_sizeOf T x1) <| fun r_1 => f_Ch_fillPool_L14 (r_1) (T) (x1) (fun x2_13 c_pool_14 => some (c_pool_14, r_1)) FU (0) (c_pool)
abbrev rm_Ch_fillPool : Room := ({ frames := 2, cells := 0, slots := 0, locals := 43 } : Room)
set_option maxHeartbeats 4000000 in
set_option maxRecDepth 100000 in
theorem w_Ch_fillPool_L14 {p : Program} {l : Launch} {e : Env} {s : State} {m : MethodId} {args : Array Value} {below : List Frame} {meth : Method} {c : Code} {A : Nat → Prop} (D : va_G) (cI cZ cT : ClassId) (h_C : Nat) (q_C : Nat → Nat) (h_T : Nat) (h_LB : Nat) (h_LN : Nat) (q_T : Nat → Nat) (q_LB : Nat → Nat) (q_LN : Nat → Nat) (c_kept : Nat → Int) (c_keptCount : Int) (c_left : Int) (c_treated : Int64) (T : TV) (LB : KV) (LN : KV) (x1 : Int) (res : (Nat → Int) × Int) (k : Int → (Nat → Int) → Option ((Nat → Int) × Int)) (hF : zF p m c cX0_fillPool 3 s args yX0_fillPool.cls meth none yX0_fillPool.name A D (zt cI cZ cT))
    (hk : ∀ (x2 : Int) (c_pool : Nat → Int) (H : Heap) (locs : List Loc) (ls : Array Slot), k x2 c_pool = some res → va_P D vwCl ((zCh cI h_C q_C h_T h_LB h_LN c_kept c_keptCount c_pool c_left c_treated) ++ (zTr cI h_T q_T T) ++ (zWk cI h_LB q_LB LB) ++ (zWk cI h_LN q_LN LN)) H → va_D A ((zCh cI h_C q_C h_T h_LB h_LN c_kept c_keptCount c_pool c_left c_treated) ++ (zTr cI h_T q_T T) ++ (zWk cI h_LB q_LB LB) ++ (zWk cI h_LN q_LN LN)) → va_S A s.heap H locs → lv_has ls 3 [] → W p l e rm_Ch_fillPool s m args below meth c H locs 0 0 (MQ below (zQv D (fun u => (zCh cI h_C q_C h_T h_LB h_LN c_kept c_keptCount (res.1) (res.2) c_treated) ++ (zTr cI h_T q_T T) ++ (zWk cI h_LB q_LB LB) ++ (zWk cI h_LN q_LN LN)) A) args s 0 0 A) (F0 m 45 ls [])) :
    ∀ (n : Nat) (x2 : Int) (c_pool : Nat → Int) (H : Heap) (locs : List Loc) (ls : Array Slot), f_Ch_fillPool_L14 c_left T x1 k n x2 c_pool = some res → va_P D vwCl ((zCh cI h_C q_C h_T h_LB h_LN c_kept c_keptCount c_pool c_left c_treated) ++ (zTr cI h_T q_T T) ++ (zWk cI h_LB q_LB LB) ++ (zWk cI h_LN q_LN LN)) H → va_D A ((zCh cI h_C q_C h_T h_LB h_LN c_kept c_keptCount c_pool c_left c_treated) ++ (zTr cI h_T q_T T) ++ (zWk cI h_LB q_LB LB) ++ (zWk cI h_LN q_LN LN)) → va_S A s.heap H locs → lv_has ls 3 [(0, .ref h_C), (1, vI x1), (2, vI x2)] → W p l e rm_Ch_fillPool s m args below meth c H locs 0 0 (MQ below (zQv D (fun u => (zCh cI h_C q_C h_T h_LB h_LN c_kept c_keptCount (res.1) (res.2) c_treated) ++ (zTr cI h_T q_T T) ++ (zWk cI h_LB q_LB LB) ++ (zWk cI h_LN q_LN LN)) A) args s 0 0 A) (F0 m 14 ls []) := by
  have hx := hF.1.1
  have hb := hF.1.2.1
  have hml := hF.1.2.2.1
  have hown : s.vm.findClass "RectangleTree$Changes" = some m.cls := hF.1.2.2.2.1
  have hts := hF.1.2.2.2.2
  have hr := hF.2.1
  have hlk := hF.2.2.1
  have hK := hF.2.2.2.2.1
  have hN := hF.2.2.2.2.2.1
  have hA := hF.2.2.2.2.2.2
  intro n
  induction n with
  | zero => intro x2 c_pool H locs ls h; cases h
  | succ n ih =>
    intro x2 c_pool H locs ls h hP hD hS hl
    rw [f_Ch_fillPool_L14] at h
    refine lv_iload_n hx hb dX0_fillPool_14 rfl (lv_at hl 2 rfl) ?_
    refine lv_aload_n hx hb dX0_fillPool_15 rfl (lv_at hl 0 rfl) ?_
    refine va_get (D := D) (ci := 0) (v := vI c_left) (C := RX0) (T := TX0) (N := 8) hx hb hts zin0 hown hK hP 0 rfl rfl 4 (by decide) (hts _ wm136) (fun _ h9 => h9) rfl dX0_fillPool_16 ?_
    obtain ⟨g_4, h⟩ := gd_e h
    obtain ⟨g_5, h⟩ := gd_e h
    refine z_icmp_ge (tgt := 45) hx hb g_4 g_5 dX0_fillPool_19 (by decide) (fun b_6 => ?_) (fun b_6 => ?_)
    · have h := it_n b_6 h
      exact hk (x2) (c_pool) H locs ls h hP hD hS (lv_sub hl [] rfl)
    · have h := it_p b_6 h
      refine lv_aload_n hx hb dX0_fillPool_22 rfl (lv_at hl 0 rfl) ?_
      refine va_get (D := D) (ci := 0) (v := .ref (q_C 1)) (C := RX0) (T := TX0) (N := 8) hx hb hts zin0 hown hK hP 0 rfl rfl 3 (by decide) (hts _ wm135) (fun _ h9 => h9) rfl dX0_fillPool_23 ?_
      refine lv_iload_n hx hb dX0_fillPool_26 rfl (lv_at hl 2 rfl) ?_
      refine lv_aload_n hx hb dX0_fillPool_27 rfl (lv_at hl 0 rfl) ?_
      refine va_get (D := D) (ci := 0) (v := .ref h_T) (C := RX0) (T := TX0) (N := 8) hx hb hts zin0 hown hK hP 0 rfl rfl 0 (by decide) (hts _ wm132) (fun _ h9 => h9) rfl dX0_fillPool_28 ?_
      refine lv_iload_n hx hb dX0_fillPool_31 rfl (lv_at hl 1 rfl) ?_
      refine lv_iload_n hx hb dX0_fillPool_32 rfl (lv_at hl 2 rfl) ?_
      obtain ⟨r_7, e_8, h⟩ := bd1_e h
      refine z_goi (ws' := []) (ret := r_7) (wc := (zTr cI (h_T) (q_T) (T))) (wn := fun u_9 => (zCh cI h_C q_C h_T h_LB h_LN c_kept c_keptCount c_pool c_left c_treated) ++ (zTr cI h_T q_T T) ++ (zWk cI h_LB q_LB LB) ++ (zWk cI h_LN q_LN LN)) (wr := ([0, 1, 2, 9, 10, 11, 12, 13, 14].filterMap (fun i => ((zCh cI h_C q_C h_T h_LB h_LN c_kept c_keptCount c_pool c_left c_treated) ++ (zTr cI h_T q_T T) ++ (zWk cI h_LB q_LB LB) ++ (zWk cI h_LN q_LN LN))[i]?))) (va_runV (As := [vI x1, vI x2]) (rest := [vI x2, .ref (q_C 1)]) hF.1 (c_Tr_entryAt l D cI cZ cT h_T q_T T x1 x2 H.size (r_7) e_8) (cwV 2 hts (zgV wm511 wm235 wm236 wm33 wm237) rfl rfl rfl (by decide +kernel) ⟨Nat.le_of_ble_eq_true rfl, Nat.le_of_ble_eq_true rfl⟩) ⟨zP.blind, va_recv hK (z_subP (ws' := (zTr cI (h_T) (q_T) (T))) hP [3, 4, 5, 6, 7, 8] rfl) (ci := 4) (q0 := 0) rfl rfl, zP.enter (z_subP (ws' := (zTr cI (h_T) (q_T) (T))) hP [3, 4, 5, 6, 7, 8] rfl) hK (hD.sub [3, 4, 5, 6, 7, 8] (by decide) rfl) hN⟩ rfl rfl hl.1 rfl (lv_room (Nat.le_of_ble_eq_true rfl)) dX0_fillPool_33 ⟨Nat.le_refl _, Nat.le_refl _⟩) hP hD hS hA [3, 4, 5, 6, 7, 8] [0, 1, 2, 9, 10, 11, 12, 13, 14] [0, 1, 2, 9, 10, 11, 12, 13, 14, 3, 4, 5, 6, 7, 8] rfl rfl (by decide) (fun _ => rfl) (fun u_9 H locs hP hD hS hz => ?_)
      obtain ⟨c_pool_10, e_11, h⟩ := bd1_e h
      refine z_gov (wc := (zAr cI ((q_C 1)) (6) (c_pool))) (wn := fun u_12 => (zCh cI h_C q_C h_T h_LB h_LN c_kept c_keptCount c_pool_10 c_left c_treated) ++ (zTr cI h_T q_T T) ++ (zWk cI h_LB q_LB LB) ++ (zWk cI h_LN q_LN LN)) (wr := ([0, 1, 3, 4, 5, 6, 7, 8, 9, 10, 11, 12, 13, 14].filterMap (fun i => ((zCh cI h_C q_C h_T h_LB h_LN c_kept c_keptCount c_pool c_left c_treated) ++ (zTr cI h_T q_T T) ++ (zWk cI h_LB q_LB LB) ++ (zWk cI h_LN q_LN LN))[i]?))) (va_runSN (As := [.ref (q_C 1), vI x2, vI r_7]) (rest := []) hF.1 (c_Rt_put l D cI cZ cT (q_C 1) 6 c_pool x2 r_7 H.size (c_pool_10) e_11) ⟨va_cnB 3 hts (zW_good wm61) rfl rfl rfl (hN.at 7 rfl) (hts _ wm32) (by decide +kernel) ⟨Nat.le_of_ble_eq_true rfl, Nat.le_of_ble_eq_true rfl⟩, hts _ wm60, trivial⟩ ⟨zP.blind, zP.enter (z_subP (ws' := (zAr cI ((q_C 1)) (6) (c_pool))) hP [2] rfl) hK (hD.sub [2] (by decide) rfl) hN⟩ rfl rfl hl.1 rfl (lv_room (Nat.le_of_ble_eq_true rfl)) dX0_fillPool_36 ⟨Nat.le_refl _, Nat.le_refl _⟩) hP hD hS hA [2] [0, 1, 3, 4, 5, 6, 7, 8, 9, 10, 11, 12, 13, 14] [0, 1, 14, 2, 3, 4, 5, 6, 7, 8, 9, 10, 11, 12, 13] rfl rfl (by decide) (fun _ => rfl) (fun u_12 H locs hP hD hS hz => ?_)
      refine lv_iinc (v := Int32.ofInt (x2 + 1)) (lv' := [(2, vI (x2 + 1)), (0, .ref h_C), (1, vI x1)]) hx hb dX0_fillPool_39 hl (k := 2) rfl (z_inc _ _) (by decide) rfl (fun ls hl => ?_)
      refine lv_goto (tgt := 14) hx hb dX0_fillPool_42 (by decide) ?_
      exact ih ((x2 + 1)) (c_pool_10) H locs ls h hP hD hS (lv_sub hl [1, 2, 0] rfl)
set_option maxHeartbeats 4000000 in
set_option maxRecDepth 100000 in
theorem c_Ch_fillPool (l : Launch) (D : va_G) (cI cZ cT : ClassId) (h_C : Nat) (q_C : Nat → Nat) (h_T : Nat) (h_LB : Nat) (h_LN : Nat) (q_T : Nat → Nat) (q_LB : Nat → Nat) (q_LN : Nat → Nat) (c_kept : Nat → Int) (c_keptCount : Int) (c_pool : Nat → Int) (c_left : Int) (c_treated : Int64) (T : TV) (LB : KV) (LN : KV) (x1 : Int) (sz : Nat) (res : (Nat → Int) × Int) (h : f_Ch_fillPool c_pool T x1 = some res) : zMv l yX0_fillPool cX0_fillPool 3 rm_Ch_fillPool D (zt cI cZ cT) [.ref h_C, vI x1] ((zCh cI h_C q_C h_T h_LB h_LN c_kept c_keptCount c_pool c_left c_treated) ++ (zTr cI h_T q_T T) ++ (zWk cI h_LB q_LB LB) ++ (zWk cI h_LN q_LN LN)) sz (fun u => (zCh cI h_C q_C h_T h_LB h_LN c_kept c_keptCount (res.1) (res.2) c_treated) ++ (zTr cI h_T q_T T) ++ (zWk cI h_LB q_LB LB) ++ (zWk cI h_LN q_LN LN)) 0 0 := by
  refine z_enth (Qc := zQv D (fun u => (zCh cI h_C q_C h_T h_LB h_LN c_kept c_keptCount (res.1) (res.2) c_treated) ++ (zTr cI h_T q_T T) ++ (zWk cI h_LB q_LB LB) ++ (zWk cI h_LN q_LN LN))) (by decide) (Nat.le_of_ble_eq_true rfl) (fun p e s m args below meth c A ls H locs hF hP hD hS hl => ?_)
  have hx := hF.1.1
  have hb := hF.1.2.1
  have hml := hF.1.2.2.1
  have hown : s.vm.findClass "RectangleTree$Changes" = some m.cls := hF.1.2.2.2.1
  have hts := hF.1.2.2.2.2
  have hr := hF.2.1
  have hlk := hF.2.2.1
  have hK := hF.2.2.2.2.1
  have hN := hF.2.2.2.2.2.1
  have hA := hF.2.2.2.2.2.2
  unfold f_Ch_fillPool at h
  refine lv_aload_n hx hb dX0_fillPool_0 rfl (lv_at hl 0 rfl) ?_
  refine lv_aload_n hx hb dX0_fillPool_1 rfl (lv_at hl 0 rfl) ?_
  refine va_get (D := D) (ci := 0) (v := .ref h_T) (C := RX0) (T := TX0) (N := 8) hx hb hts zin0 hown hK hP 0 rfl rfl 0 (by decide) (hts _ wm132) (fun _ h9 => h9) rfl dX0_fillPool_2 ?_
  refine lv_iload_n hx hb dX0_fillPool_5 rfl (lv_at hl 1 rfl) ?_
  obtain ⟨r_1, e_2, h⟩ := bd1_e h
  refine z_goi (ws' := []) (ret := r_1) (wc := (zTr cI (h_T) (q_T) (T))) (wn := fun u_3 => (zCh cI h_C q_C h_T h_LB h_LN c_kept c_keptCount c_pool c_left c_treated) ++ (zTr cI h_T q_T T) ++ (zWk cI h_LB q_LB LB) ++ (zWk cI h_LN q_LN LN)) (wr := ([0, 1, 2, 9, 10, 11, 12, 13, 14].filterMap (fun i => ((zCh cI h_C q_C h_T h_LB h_LN c_kept c_keptCount c_pool c_left c_treated) ++ (zTr cI h_T q_T T) ++ (zWk cI h_LB q_LB LB) ++ (zWk cI h_LN q_LN LN))[i]?))) (va_runV (As := [vI x1]) (rest := [.ref h_C]) hF.1 (c_Tr_sizeOf l D cI cZ cT h_T q_T T x1 H.size (r_1) e_2) (cwV 1 hts (zgV wm510 wm231 wm232 wm33 wm233) rfl rfl rfl (by decide +kernel) ⟨Nat.le_of_ble_eq_true rfl, Nat.le_of_ble_eq_true rfl⟩) ⟨zP.blind, va_recv hK (z_subP (ws' := (zTr cI (h_T) (q_T) (T))) hP [3, 4, 5, 6, 7, 8] rfl) (ci := 4) (q0 := 0) rfl rfl, zP.enter (z_subP (ws' := (zTr cI (h_T) (q_T) (T))) hP [3, 4, 5, 6, 7, 8] rfl) hK (hD.sub [3, 4, 5, 6, 7, 8] (by decide) rfl) hN⟩ rfl rfl hl.1 rfl (lv_room (Nat.le_of_ble_eq_true rfl)) dX0_fillPool_6 ⟨Nat.le_refl _, Nat.le_refl _⟩) hP hD hS hA [3, 4, 5, 6, 7, 8] [0, 1, 2, 9, 10, 11, 12, 13, 14] [0, 1, 2, 9, 10, 11, 12, 13, 14, 3, 4, 5, 6, 7, 8] rfl rfl (by decide) (fun _ => rfl) (fun u_3 H locs hP hD hS hz => ?_)
  refine va_put (D := D) (ci := 0) (v := vI r_1) (ty := .int) (C := RX0) (T := TX0) (N := 8) hx hb hts zin0 tyX0 tyX0_ok nmX0 hown hK hP hD hS 0 rfl rfl 4 (by decide) (hts _ wm136) (fun _ h9 => h9) rfl (by decide +kernel) rfl rfl (Nat.le_of_ble_eq_true rfl) dX0_fillPool_9 (fun H locs hP hD hS => ?_)
  replace hP : va_P D vwCl ((zCh cI h_C q_C h_T h_LB h_LN c_kept c_keptCount c_pool r_1 c_treated) ++ (zTr cI h_T q_T T) ++ (zWk cI h_LB q_LB LB) ++ (zWk cI h_LN q_LN LN)) H := hP
  replace hD : va_D A ((zCh cI h_C q_C h_T h_LB h_LN c_kept c_keptCount c_pool r_1 c_treated) ++ (zTr cI h_T q_T T) ++ (zWk cI h_LB q_LB LB) ++ (zWk cI h_LN q_LN LN)) := hD
  refine lv_iconst (v := Int32.ofInt 0) hx hb dX0_fillPool_12 rfl ?_
  refine lv_istore_n (lv' := [(2, vI 0), (0, .ref h_C), (1, vI x1)]) hx hb dX0_fillPool_13 rfl hl (by decide) rfl (fun ls hl => ?_)
  refine w_Ch_fillPool_L14 D cI cZ cT (h_C) (q_C) (h_T) (h_LB) (h_LN) (q_T) (q_LB) (q_LN) (c_kept) (c_keptCount) (r_1) (c_treated) (T) (LB) (LN) (x1) _ _ hF (fun x2_13 c_pool_14 H locs ls h hP hD hS hl => ?_) _ (0) (c_pool) _ _ _ h hP hD hS (lv_sub hl [1, 2, 0] rfl)
  obtain rfl := Option.some.inj h
  exact z_vret hx hb hr hlk (fun _ _ => 0) hP hD hS dX0_fillPool_45
def f_Ch_findSeeds_L19 (c_pool : Nat → Int) (c_left : Int) (T : TV) (x3 : Int) (k : Int → Int → Int → Option (Int)) : Nat → Int → Int → Int → Option (Int)
  | 0, _, _, _ => none
  | n + 1, x1, x2, x4 =>
  gd (ck x4) <| gd (ck c_left) <| if x4 < c_left then (bd1 (f_Rt_at 6 c_pool x3) <| fun r_7 => bd1 (f_Rt_at 6 c_pool x4) <| fun r_10 => bd1 (f_Tr_unionArea T r_7 r_10) <| fun r_13 => bd1 (f_Tr_areaOf T r_7) <| fun r_16 => bd1 (f_Tr_areaOf T r_10) <| fun r_19 => gd (ck x1) <| if x1 = (-1) then (f_Ch_findSeeds_L19 c_pool c_left T x3 k n (((x3 * 6) + x4)) (((r_13 - r_16) - r_19)) ((x4 + 1))) else (gd (ck ((r_13 - r_16) - r_19)) <| gd (ck x2) <| if x2 < ((r_13 - r_16) - r_19) then (f_Ch_findSeeds_L19 c_pool c_left T x3 k n (((x3 * 6) + x4)) (((r_13 - r_16) - r_19)) ((x4 + 1))) else (f_Ch_findSeeds_L19 c_pool c_left T x3 k n (x1) (x2) ((x4 + 1))))) else (k (x1) (x2) (x4))
def f_Ch_findSeeds_L6 (c_pool : Nat → Int) (c_left : Int) (T : TV) (k : Int → Int → Int → Option (Int)) : Nat → Int → Int → Int → Option (Int)
  | 0, _, _, _ => none
  | n + 1, x1, x2, x3 =>
  gd (ck x3) <| gd (ck c_left) <| if x3 < c_left then (f_Ch_findSeeds_L19 (c_pool) (c_left) (T) (x3) (fun x1_27 x2_28 x4_29 => f_Ch_findSeeds_L6 c_pool c_left T k n (x1_27) (x2_28) ((x3 + 1))) FU (x1) (x2) ((x3 + 1))) else (k (x1) (x2) (x3))
def f_Ch_findSeeds (c_pool : Nat → Int) (c_left : Int) (T : TV) : Option (Int) :=
  f_Ch_findSeeds_L6 (c_pool) (c_left) (T) (fun x1_30 x2_31 x3_32 => some (x1_30)) FU ((-1)) (0) (0)
abbrev rm_Ch_findSeeds : Room := ({ frames := 2, cells := 0, slots := 0, locals := 47 } : Room)
set_option maxHeartbeats 4000000 in
set_option maxRecDepth 100000 in
theorem w_Ch_findSeeds_L19 {p : Program} {l : Launch} {e : Env} {s : State} {m : MethodId} {args : Array Value} {below : List Frame} {meth : Method} {c : Code} {A : Nat → Prop} (D : va_G) (cI cZ cT : ClassId) (h_C : Nat) (q_C : Nat → Nat) (h_T : Nat) (h_LB : Nat) (h_LN : Nat) (q_T : Nat → Nat) (q_LB : Nat → Nat) (q_LN : Nat → Nat) (c_kept : Nat → Int) (c_keptCount : Int) (c_pool : Nat → Int) (c_left : Int) (c_treated : Int64) (T : TV) (LB : KV) (LN : KV) (x3 : Int) (res : Int) (k : Int → Int → Int → Option (Int)) (hF : zF p m c cX0_findSeeds 8 s args yX0_findSeeds.cls meth (some .int) yX0_findSeeds.name A D (zt cI cZ cT))
    (hk : ∀ (x1 : Int) (x2 : Int) (x4 : Int) (H : Heap) (locs : List Loc) (ls : Array Slot), k x1 x2 x4 = some res → va_P D vwCl ((zCh cI h_C q_C h_T h_LB h_LN c_kept c_keptCount c_pool c_left c_treated) ++ (zTr cI h_T q_T T) ++ (zWk cI h_LB q_LB LB) ++ (zWk cI h_LN q_LN LN)) H → va_D A ((zCh cI h_C q_C h_T h_LB h_LN c_kept c_keptCount c_pool c_left c_treated) ++ (zTr cI h_T q_T T) ++ (zWk cI h_LB q_LB LB) ++ (zWk cI h_LN q_LN LN)) → va_S A s.heap H locs → lv_has ls 8 [(0, .ref h_C), (1, vI x1), (2, vI x2), (3, vI x3)] → W p l e rm_Ch_findSeeds s m args below meth c H locs 0 0 (MQ below (zQi D (res) (fun u => (zCh cI h_C q_C h_T h_LB h_LN c_kept c_keptCount c_pool c_left c_treated) ++ (zTr cI h_T q_T T) ++ (zWk cI h_LB q_LB LB) ++ (zWk cI h_LN q_LN LN)) A) args s 0 0 A) (F0 m 110 ls [])) :
    ∀ (n : Nat) (x1 : Int) (x2 : Int) (x4 : Int) (H : Heap) (locs : List Loc) (ls : Array Slot), f_Ch_findSeeds_L19 c_pool c_left T x3 k n x1 x2 x4 = some res → va_P D vwCl ((zCh cI h_C q_C h_T h_LB h_LN c_kept c_keptCount c_pool c_left c_treated) ++ (zTr cI h_T q_T T) ++ (zWk cI h_LB q_LB LB) ++ (zWk cI h_LN q_LN LN)) H → va_D A ((zCh cI h_C q_C h_T h_LB h_LN c_kept c_keptCount c_pool c_left c_treated) ++ (zTr cI h_T q_T T) ++ (zWk cI h_LB q_LB LB) ++ (zWk cI h_LN q_LN LN)) → va_S A s.heap H locs → lv_has ls 8 [(0, .ref h_C), (1, vI x1), (2, vI x2), (3, vI x3), (4, vI x4)] → W p l e rm_Ch_findSeeds s m args below meth c H locs 0 0 (MQ below (zQi D (res) (fun u => (zCh cI h_C q_C h_T h_LB h_LN c_kept c_keptCount c_pool c_left c_treated) ++ (zTr cI h_T q_T T) ++ (zWk cI h_LB q_LB LB) ++ (zWk cI h_LN q_LN LN)) A) args s 0 0 A) (F0 m 19 ls []) := by
  have hx := hF.1.1
  have hb := hF.1.2.1
  have hml := hF.1.2.2.1
  have hown : s.vm.findClass "RectangleTree$Changes" = some m.cls := hF.1.2.2.2.1
  have hts := hF.1.2.2.2.2
  have hr := hF.2.1
  have hlk := hF.2.2.1
  have hK := hF.2.2.2.2.1
  have hN := hF.2.2.2.2.2.1
  have hA := hF.2.2.2.2.2.2
  intro n
  induction n with
  | zero => intro x1 x2 x4 H locs ls h; cases h
  | succ n ih =>
    intro x1 x2 x4 H locs ls h hP hD hS hl
    rw [f_Ch_findSeeds_L19] at h
    refine lv_iload hx hb dX0_findSeeds_19 (lv_at hl 4 rfl) ?_
    refine lv_aload_n hx hb dX0_findSeeds_21 rfl (lv_at hl 0 rfl) ?_
    refine va_get (D := D) (ci := 0) (v := vI c_left) (C := RX0) (T := TX0) (N := 8) hx hb hts zin0 hown hK hP 0 rfl rfl 4 (by decide) (hts _ wm136) (fun _ h9 => h9) rfl dX0_findSeeds_22 ?_
    obtain ⟨g_4, h⟩ := gd_e h
    obtain ⟨g_5, h⟩ := gd_e h
    refine z_icmp_ge (tgt := 110) hx hb g_4 g_5 dX0_findSeeds_25 (by decide) (fun b_6 => ?_) (fun b_6 => ?_)
    · have h := it_n b_6 h
      exact hk (x1) (x2) (x4) H locs ls h hP hD hS (lv_sub hl [0, 1, 2, 3] rfl)
    · have h := it_p b_6 h
      refine lv_aload_n hx hb dX0_findSeeds_28 rfl (lv_at hl 0 rfl) ?_
      refine va_get (D := D) (ci := 0) (v := .ref (q_C 1)) (C := RX0) (T := TX0) (N := 8) hx hb hts zin0 hown hK hP 0 rfl rfl 3 (by decide) (hts _ wm135) (fun _ h9 => h9) rfl dX0_findSeeds_29 ?_
      refine lv_iload_n hx hb dX0_findSeeds_32 rfl (lv_at hl 3 rfl) ?_
      obtain ⟨r_7, e_8, h⟩ := bd1_e h
      refine z_goi (ws' := []) (ret := r_7) (wc := (zAr cI ((q_C 1)) (6) (c_pool))) (wn := fun u_9 => (zCh cI h_C q_C h_T h_LB h_LN c_kept c_keptCount c_pool c_left c_treated) ++ (zTr cI h_T q_T T) ++ (zWk cI h_LB q_LB LB) ++ (zWk cI h_LN q_LN LN)) (wr := ([0, 1, 3, 4, 5, 6, 7, 8, 9, 10, 11, 12, 13, 14].filterMap (fun i => ((zCh cI h_C q_C h_T h_LB h_LN c_kept c_keptCount c_pool c_left c_treated) ++ (zTr cI h_T q_T T) ++ (zWk cI h_LB q_LB LB) ++ (zWk cI h_LN q_LN LN))[i]?))) (va_runSN (As := [.ref (q_C 1), vI x3]) (rest := []) hF.1 (c_Rt_at l D cI cZ cT (q_C 1) 6 c_pool x3 H.size (r_7) e_8) ⟨va_cnB 2 hts (zW_good wm229) rfl rfl rfl (hN.at 8 rfl) (hts _ wm32) (by decide +kernel) ⟨Nat.le_of_ble_eq_true rfl, Nat.le_of_ble_eq_true rfl⟩, hts _ wm228, trivial⟩ ⟨zP.blind, zP.enter (z_subP (ws' := (zAr cI ((q_C 1)) (6) (c_pool))) hP [2] rfl) hK (hD.sub [2] (by decide) rfl) hN⟩ rfl rfl hl.1 rfl (lv_room (Nat.le_of_ble_eq_true rfl)) dX0_findSeeds_33 ⟨Nat.le_refl _, Nat.le_refl _⟩) hP hD hS hA [2] [0, 1, 3, 4, 5, 6, 7, 8, 9, 10, 11, 12, 13, 14] [0, 1, 14, 2, 3, 4, 5, 6, 7, 8, 9, 10, 11, 12, 13] rfl rfl (by decide) (fun _ => rfl) (fun u_9 H locs hP hD hS hz => ?_)
      refine lv_istore (lv' := [(5, vI r_7), (0, .ref h_C), (1, vI x1), (2, vI x2), (3, vI x3), (4, vI x4)]) hx hb dX0_findSeeds_36 hl (by decide) rfl (fun ls hl => ?_)
      refine lv_aload_n hx hb dX0_findSeeds_38 rfl (lv_at hl 1 rfl) ?_
      refine va_get (D := D) (ci := 0) (v := .ref (q_C 1)) (C := RX0) (T := TX0) (N := 8) hx hb hts zin0 hown hK hP 0 rfl rfl 3 (by decide) (hts _ wm135) (fun _ h9 => h9) rfl dX0_findSeeds_39 ?_
      refine lv_iload hx hb dX0_findSeeds_42 (lv_at hl 5 rfl) ?_
      obtain ⟨r_10, e_11, h⟩ := bd1_e h
      refine z_goi (ws' := []) (ret := r_10) (wc := (zAr cI ((q_C 1)) (6) (c_pool))) (wn := fun u_12 => (zCh cI h_C q_C h_T h_LB h_LN c_kept c_keptCount c_pool c_left c_treated) ++ (zTr cI h_T q_T T) ++ (zWk cI h_LB q_LB LB) ++ (zWk cI h_LN q_LN LN)) (wr := ([0, 1, 3, 4, 5, 6, 7, 8, 9, 10, 11, 12, 13, 14].filterMap (fun i => ((zCh cI h_C q_C h_T h_LB h_LN c_kept c_keptCount c_pool c_left c_treated) ++ (zTr cI h_T q_T T) ++ (zWk cI h_LB q_LB LB) ++ (zWk cI h_LN q_LN LN))[i]?))) (va_runSN (As := [.ref (q_C 1), vI x4]) (rest := []) hF.1 (c_Rt_at l D cI cZ cT (q_C 1) 6 c_pool x4 H.size (r_10) e_11) ⟨va_cnB 2 hts (zW_good wm229) rfl rfl rfl (hN.at 8 rfl) (hts _ wm32) (by decide +kernel) ⟨Nat.le_of_ble_eq_true rfl, Nat.le_of_ble_eq_true rfl⟩, hts _ wm228, trivial⟩ ⟨zP.blind, zP.enter (z_subP (ws' := (zAr cI ((q_C 1)) (6) (c_pool))) hP [2] rfl) hK (hD.sub [2] (by decide) rfl) hN⟩ rfl rfl hl.1 rfl (lv_room (Nat.le_of_ble_eq_true rfl)) dX0_findSeeds_44 ⟨Nat.le_refl _, Nat.le_refl _⟩) hP hD hS hA [2] [0, 1, 3, 4, 5, 6, 7, 8, 9, 10, 11, 12, 13, 14] [0, 1, 14, 2, 3, 4, 5, 6, 7, 8, 9, 10, 11, 12, 13] rfl rfl (by decide) (fun _ => rfl) (fun u_12 H locs hP hD hS hz => ?_)
      refine lv_istore (lv' := [(6, vI r_10), (5, vI r_7), (0, .ref h_C), (1, vI x1), (2, vI x2), (3, vI x3), (4, vI x4)]) hx hb dX0_findSeeds_47 hl (by decide) rfl (fun ls hl => ?_)
      refine lv_aload_n hx hb dX0_findSeeds_49 rfl (lv_at hl 2 rfl) ?_
      refine va_get (D := D) (ci := 0) (v := .ref h_T) (C := RX0) (T := TX0) (N := 8) hx hb hts zin0 hown hK hP 0 rfl rfl 0 (by decide) (hts _ wm132) (fun _ h9 => h9) rfl dX0_findSeeds_50 ?_
      refine lv_iload hx hb dX0_findSeeds_53 (lv_at hl 1 rfl) ?_
      refine lv_iload hx hb dX0_findSeeds_55 (lv_at hl 0 rfl) ?_
      obtain ⟨r_13, e_14, h⟩ := bd1_e h
      refine z_goi (ws' := []) (ret := r_13) (wc := (zTr cI (h_T) (q_T) (T))) (wn := fun u_15 => (zCh cI h_C q_C h_T h_LB h_LN c_kept c_keptCount c_pool c_left c_treated) ++ (zTr cI h_T q_T T) ++ (zWk cI h_LB q_LB LB) ++ (zWk cI h_LN q_LN LN)) (wr := ([0, 1, 2, 9, 10, 11, 12, 13, 14].filterMap (fun i => ((zCh cI h_C q_C h_T h_LB h_LN c_kept c_keptCount c_pool c_left c_treated) ++ (zTr cI h_T q_T T) ++ (zWk cI h_LB q_LB LB) ++ (zWk cI h_LN q_LN LN))[i]?))) (va_runV (As := [vI r_7, vI r_10]) (rest := []) hF.1 (c_Tr_unionArea l D cI cZ cT h_T q_T T r_7 r_10 H.size (r_13) e_14) (cwV 2 hts (zgV wm513 wm514 wm515 wm33 wm516) rfl rfl rfl (by decide +kernel) ⟨Nat.le_of_ble_eq_true rfl, Nat.le_of_ble_eq_true rfl⟩) ⟨zP.blind, va_recv hK (z_subP (ws' := (zTr cI (h_T) (q_T) (T))) hP [3, 4, 5, 6, 7, 8] rfl) (ci := 4) (q0 := 0) rfl rfl, zP.enter (z_subP (ws' := (zTr cI (h_T) (q_T) (T))) hP [3, 4, 5, 6, 7, 8] rfl) hK (hD.sub [3, 4, 5, 6, 7, 8] (by decide) rfl) hN⟩ rfl rfl hl.1 rfl (lv_room (Nat.le_of_ble_eq_true rfl)) dX0_findSeeds_57 ⟨Nat.le_refl _, Nat.le_refl _⟩) hP hD hS hA [3, 4, 5, 6, 7, 8] [0, 1, 2, 9, 10, 11, 12, 13, 14] [0, 1, 2, 9, 10, 11, 12, 13, 14, 3, 4, 5, 6, 7, 8] rfl rfl (by decide) (fun _ => rfl) (fun u_15 H locs hP hD hS hz => ?_)
      refine lv_aload_n hx hb dX0_findSeeds_60 rfl (lv_at hl 2 rfl) ?_
      refine va_get (D := D) (ci := 0) (v := .ref h_T) (C := RX0) (T := TX0) (N := 8) hx hb hts zin0 hown hK hP 0 rfl rfl 0 (by decide) (hts _ wm132) (fun _ h9 => h9) rfl dX0_findSeeds_61 ?_
      refine lv_iload hx hb dX0_findSeeds_64 (lv_at hl 1 rfl) ?_
      obtain ⟨r_16, e_17, h⟩ := bd1_e h
      refine z_goi (ws' := []) (ret := r_16) (wc := (zTr cI (h_T) (q_T) (T))) (wn := fun u_18 => (zCh cI h_C q_C h_T h_LB h_LN c_kept c_keptCount c_pool c_left c_treated) ++ (zTr cI h_T q_T T) ++ (zWk cI h_LB q_LB LB) ++ (zWk cI h_LN q_LN LN)) (wr := ([0, 1, 2, 9, 10, 11, 12, 13, 14].filterMap (fun i => ((zCh cI h_C q_C h_T h_LB h_LN c_kept c_keptCount c_pool c_left c_treated) ++ (zTr cI h_T q_T T) ++ (zWk cI h_LB q_LB LB) ++ (zWk cI h_LN q_LN LN))[i]?))) (va_runV (As := [vI r_7]) (rest := [vI r_13]) hF.1 (c_Tr_areaOf l D cI cZ cT h_T q_T T r_7 H.size (r_16) e_17) (cwV 1 hts (zgV wm512 wm384 wm385 wm33 wm386) rfl rfl rfl (by decide +kernel) ⟨Nat.le_of_ble_eq_true rfl, Nat.le_of_ble_eq_true rfl⟩) ⟨zP.blind, va_recv hK (z_subP (ws' := (zTr cI (h_T) (q_T) (T))) hP [3, 4, 5, 6, 7, 8] rfl) (ci := 4) (q0 := 0) rfl rfl, zP.enter (z_subP (ws' := (zTr cI (h_T) (q_T) (T))) hP [3, 4, 5, 6, 7, 8] rfl) hK (hD.sub [3, 4, 5, 6, 7, 8] (by decide) rfl) hN⟩ rfl rfl hl.1 rfl (lv_room (Nat.le_of_ble_eq_true rfl)) dX0_findSeeds_66 ⟨Nat.le_refl _, Nat.le_refl _⟩) hP hD hS hA [3, 4, 5, 6, 7, 8] [0, 1, 2, 9, 10, 11, 12, 13, 14] [0, 1, 2, 9, 10, 11, 12, 13, 14, 3, 4, 5, 6, 7, 8] rfl rfl (by decide) (fun _ => rfl) (fun u_18 H locs hP hD hS hz => ?_)
      refine z_isub hx hb dX0_findSeeds_69 ?_
      refine lv_aload_n hx hb dX0_findSeeds_70 rfl (lv_at hl 2 rfl) ?_
      refine va_get (D := D) (ci := 0) (v := .ref h_T) (C := RX0) (T := TX0) (N := 8) hx hb hts zin0 hown hK hP 0 rfl rfl 0 (by decide) (hts _ wm132) (fun _ h9 => h9) rfl dX0_findSeeds_71 ?_
      refine lv_iload hx hb dX0_findSeeds_74 (lv_at hl 0 rfl) ?_
      obtain ⟨r_19, e_20, h⟩ := bd1_e h
      refine z_goi (ws' := []) (ret := r_19) (wc := (zTr cI (h_T) (q_T) (T))) (wn := fun u_21 => (zCh cI h_C q_C h_T h_LB h_LN c_kept c_keptCount c_pool c_left c_treated) ++ (zTr cI h_T q_T T) ++ (zWk cI h_LB q_LB LB) ++ (zWk cI h_LN q_LN LN)) (wr := ([0, 1, 2, 9, 10, 11, 12, 13, 14].filterMap (fun i => ((zCh cI h_C q_C h_T h_LB h_LN c_kept c_keptCount c_pool c_left c_treated) ++ (zTr cI h_T q_T T) ++ (zWk cI h_LB q_LB LB) ++ (zWk cI h_LN q_LN LN))[i]?))) (va_runV (As := [vI r_10]) (rest := [vI (r_13 - r_16)]) hF.1 (c_Tr_areaOf l D cI cZ cT h_T q_T T r_10 H.size (r_19) e_20) (cwV 1 hts (zgV wm512 wm384 wm385 wm33 wm386) rfl rfl rfl (by decide +kernel) ⟨Nat.le_of_ble_eq_true rfl, Nat.le_of_ble_eq_true rfl⟩) ⟨zP.blind, va_recv hK (z_subP (ws' := (zTr cI (h_T) (q_T) (T))) hP [3, 4, 5, 6, 7, 8] rfl) (ci := 4) (q0 := 0) rfl rfl, zP.enter (z_subP (ws' := (zTr cI (h_T) (q_T) (T))) hP [3, 4, 5, 6, 7, 8] rfl) hK (hD.sub [3, 4, 5, 6, 7, 8] (by decide) rfl) hN⟩ rfl rfl hl.1 rfl (lv_room (Nat.le_of_ble_eq_true rfl)) dX0_findSeeds_76 ⟨Nat.le_refl _, Nat.le_refl _⟩) hP hD hS hA [3, 4, 5, 6, 7, 8] [0, 1, 2, 9, 10, 11, 12, 13, 14] [0, 1, 2, 9, 10, 11, 12, 13, 14, 3, 4, 5, 6, 7, 8] rfl rfl (by decide) (fun _ => rfl) (fun u_21 H locs hP hD hS hz => ?_)
      refine z_isub hx hb dX0_findSeeds_79 ?_
      refine lv_istore (lv' := [(7, vI ((r_13 - r_16) - r_19)), (6, vI r_10), (5, vI r_7), (0, .ref h_C), (1, vI x1), (2, vI x2), (3, vI x3), (4, vI x4)]) hx hb dX0_findSeeds_80 hl (by decide) rfl (fun ls hl => ?_)
      refine lv_iload_n hx hb dX0_findSeeds_82 rfl (lv_at hl 4 rfl) ?_
      refine lv_iconst (v := Int32.ofInt (-1)) hx hb dX0_findSeeds_83 rfl ?_
      obtain ⟨g_22, h⟩ := gd_e h
      refine z_icmp_eq (tgt := 93) hx hb g_22 (by decide) dX0_findSeeds_84 (by decide) (fun b_23 => ?_) (fun b_23 => ?_)
      · have h := it_p b_23 h
        refine lv_iload_n hx hb dX0_findSeeds_93 rfl (lv_at hl 6 rfl) ?_
        refine lv_bipush (v := Int32.ofInt 6) hx hb dX0_findSeeds_94 (by decide +kernel) ?_
        refine z_imul hx hb dX0_findSeeds_96 ?_
        refine lv_iload hx hb dX0_findSeeds_97 (lv_at hl 7 rfl) ?_
        refine z_iadd hx hb dX0_findSeeds_99 ?_
        refine lv_istore_n (lv' := [(1, vI ((x3 * 6) + x4)), (7, vI ((r_13 - r_16) - r_19)), (6, vI r_10), (5, vI r_7), (0, .ref h_C), (2, vI x2), (3, vI x3), (4, vI x4)]) hx hb dX0_findSeeds_100 rfl hl (by decide) rfl (fun ls hl => ?_)
        refine lv_iload hx hb dX0_findSeeds_101 (lv_at hl 1 rfl) ?_
        refine lv_istore_n (lv' := [(2, vI ((r_13 - r_16) - r_19)), (1, vI ((x3 * 6) + x4)), (7, vI ((r_13 - r_16) - r_19)), (6, vI r_10), (5, vI r_7), (0, .ref h_C), (3, vI x3), (4, vI x4)]) hx hb dX0_findSeeds_103 rfl hl (by decide) rfl (fun ls hl => ?_)
        refine lv_iinc (v := Int32.ofInt (x4 + 1)) (lv' := [(4, vI (x4 + 1)), (2, vI ((r_13 - r_16) - r_19)), (1, vI ((x3 * 6) + x4)), (7, vI ((r_13 - r_16) - r_19)), (6, vI r_10), (5, vI r_7), (0, .ref h_C), (3, vI x3)]) hx hb dX0_findSeeds_104 hl (k := 7) rfl (z_inc _ _) (by decide) rfl (fun ls hl => ?_)
        refine lv_goto (tgt := 19) hx hb dX0_findSeeds_107 (by decide) ?_
        exact ih (((x3 * 6) + x4)) (((r_13 - r_16) - r_19)) ((x4 + 1)) H locs ls h hP hD hS (lv_sub hl [6, 2, 1, 7, 0] rfl)
      · have h := it_n b_23 h
        refine lv_iload hx hb dX0_findSeeds_87 (lv_at hl 0 rfl) ?_
        refine lv_iload_n hx hb dX0_findSeeds_89 rfl (lv_at hl 5 rfl) ?_
        obtain ⟨g_24, h⟩ := gd_e h
        obtain ⟨g_25, h⟩ := gd_e h
        refine z_icmp_le (tgt := 104) hx hb g_24 g_25 dX0_findSeeds_90 (by decide) (fun b_26 => ?_) (fun b_26 => ?_)
        · have h := it_n b_26 h
          refine lv_iinc (v := Int32.ofInt (x4 + 1)) (lv' := [(4, vI (x4 + 1)), (7, vI ((r_13 - r_16) - r_19)), (6, vI r_10), (5, vI r_7), (0, .ref h_C), (1, vI x1), (2, vI x2), (3, vI x3)]) hx hb dX0_findSeeds_104 hl (k := 7) rfl (z_inc _ _) (by decide) rfl (fun ls hl => ?_)
          refine lv_goto (tgt := 19) hx hb dX0_findSeeds_107 (by decide) ?_
          exact ih (x1) (x2) ((x4 + 1)) H locs ls h hP hD hS (lv_sub hl [4, 5, 6, 7, 0] rfl)
        · have h := it_p b_26 h
          refine lv_iload_n hx hb dX0_findSeeds_93 rfl (lv_at hl 6 rfl) ?_
          refine lv_bipush (v := Int32.ofInt 6) hx hb dX0_findSeeds_94 (by decide +kernel) ?_
          refine z_imul hx hb dX0_findSeeds_96 ?_
          refine lv_iload hx hb dX0_findSeeds_97 (lv_at hl 7 rfl) ?_
          refine z_iadd hx hb dX0_findSeeds_99 ?_
          refine lv_istore_n (lv' := [(1, vI ((x3 * 6) + x4)), (7, vI ((r_13 - r_16) - r_19)), (6, vI r_10), (5, vI r_7), (0, .ref h_C), (2, vI x2), (3, vI x3), (4, vI x4)]) hx hb dX0_findSeeds_100 rfl hl (by decide) rfl (fun ls hl => ?_)
          refine lv_iload hx hb dX0_findSeeds_101 (lv_at hl 1 rfl) ?_
          refine lv_istore_n (lv' := [(2, vI ((r_13 - r_16) - r_19)), (1, vI ((x3 * 6) + x4)), (7, vI ((r_13 - r_16) - r_19)), (6, vI r_10), (5, vI r_7), (0, .ref h_C), (3, vI x3), (4, vI x4)]) hx hb dX0_findSeeds_103 rfl hl (by decide) rfl (fun ls hl => ?_)
          refine lv_iinc (v := Int32.ofInt (x4 + 1)) (lv' := [(4, vI (x4 + 1)), (2, vI ((r_13 - r_16) - r_19)), (1, vI ((x3 * 6) + x4)), (7, vI ((r_13 - r_16) - r_19)), (6, vI r_10), (5, vI r_7), (0, .ref h_C), (3, vI x3)]) hx hb dX0_findSeeds_104 hl (k := 7) rfl (z_inc _ _) (by decide) rfl (fun ls hl => ?_)
          refine lv_goto (tgt := 19) hx hb dX0_findSeeds_107 (by decide) ?_
          exact ih (((x3 * 6) + x4)) (((r_13 - r_16) - r_19)) ((x4 + 1)) H locs ls h hP hD hS (lv_sub hl [6, 2, 1, 7, 0] rfl)
set_option maxHeartbeats 4000000 in
set_option maxRecDepth 100000 in
theorem w_Ch_findSeeds_L6 {p : Program} {l : Launch} {e : Env} {s : State} {m : MethodId} {args : Array Value} {below : List Frame} {meth : Method} {c : Code} {A : Nat → Prop} (D : va_G) (cI cZ cT : ClassId) (h_C : Nat) (q_C : Nat → Nat) (h_T : Nat) (h_LB : Nat) (h_LN : Nat) (q_T : Nat → Nat) (q_LB : Nat → Nat) (q_LN : Nat → Nat) (c_kept : Nat → Int) (c_keptCount : Int) (c_pool : Nat → Int) (c_left : Int) (c_treated : Int64) (T : TV) (LB : KV) (LN : KV) (res : Int) (k : Int → Int → Int → Option (Int)) (hF : zF p m c cX0_findSeeds 8 s args yX0_findSeeds.cls meth (some .int) yX0_findSeeds.name A D (zt cI cZ cT))
    (hk : ∀ (x1 : Int) (x2 : Int) (x3 : Int) (H : Heap) (locs : List Loc) (ls : Array Slot), k x1 x2 x3 = some res → va_P D vwCl ((zCh cI h_C q_C h_T h_LB h_LN c_kept c_keptCount c_pool c_left c_treated) ++ (zTr cI h_T q_T T) ++ (zWk cI h_LB q_LB LB) ++ (zWk cI h_LN q_LN LN)) H → va_D A ((zCh cI h_C q_C h_T h_LB h_LN c_kept c_keptCount c_pool c_left c_treated) ++ (zTr cI h_T q_T T) ++ (zWk cI h_LB q_LB LB) ++ (zWk cI h_LN q_LN LN)) → va_S A s.heap H locs → lv_has ls 8 [(1, vI x1)] → W p l e rm_Ch_findSeeds s m args below meth c H locs 0 0 (MQ below (zQi D (res) (fun u => (zCh cI h_C q_C h_T h_LB h_LN c_kept c_keptCount c_pool c_left c_treated) ++ (zTr cI h_T q_T T) ++ (zWk cI h_LB q_LB LB) ++ (zWk cI h_LN q_LN LN)) A) args s 0 0 A) (F0 m 116 ls [])) :
    ∀ (n : Nat) (x1 : Int) (x2 : Int) (x3 : Int) (H : Heap) (locs : List Loc) (ls : Array Slot), f_Ch_findSeeds_L6 c_pool c_left T k n x1 x2 x3 = some res → va_P D vwCl ((zCh cI h_C q_C h_T h_LB h_LN c_kept c_keptCount c_pool c_left c_treated) ++ (zTr cI h_T q_T T) ++ (zWk cI h_LB q_LB LB) ++ (zWk cI h_LN q_LN LN)) H → va_D A ((zCh cI h_C q_C h_T h_LB h_LN c_kept c_keptCount c_pool c_left c_treated) ++ (zTr cI h_T q_T T) ++ (zWk cI h_LB q_LB LB) ++ (zWk cI h_LN q_LN LN)) → va_S A s.heap H locs → lv_has ls 8 [(0, .ref h_C), (1, vI x1), (2, vI x2), (3, vI x3)] → W p l e rm_Ch_findSeeds s m args below meth c H locs 0 0 (MQ below (zQi D (res) (fun u => (zCh cI h_C q_C h_T h_LB h_LN c_kept c_keptCount c_pool c_left c_treated) ++ (zTr cI h_T q_T T) ++ (zWk cI h_LB q_LB LB) ++ (zWk cI h_LN q_LN LN)) A) args s 0 0 A) (F0 m 6 ls []) := by
  have hx := hF.1.1
  have hb := hF.1.2.1
  have hml := hF.1.2.2.1
  have hown : s.vm.findClass "RectangleTree$Changes" = some m.cls := hF.1.2.2.2.1
  have hts := hF.1.2.2.2.2
  have hr := hF.2.1
  have hlk := hF.2.2.1
  have hK := hF.2.2.2.2.1
  have hN := hF.2.2.2.2.2.1
  have hA := hF.2.2.2.2.2.2
  intro n
  induction n with
  | zero => intro x1 x2 x3 H locs ls h; cases h
  | succ n ih =>
    intro x1 x2 x3 H locs ls h hP hD hS hl
    rw [f_Ch_findSeeds_L6] at h
    refine lv_iload_n hx hb dX0_findSeeds_6 rfl (lv_at hl 3 rfl) ?_
    refine lv_aload_n hx hb dX0_findSeeds_7 rfl (lv_at hl 0 rfl) ?_
    refine va_get (D := D) (ci := 0) (v := vI c_left) (C := RX0) (T := TX0) (N := 8) hx hb hts zin0 hown hK hP 0 rfl rfl 4 (by decide) (hts _ wm136) (fun _ h9 => h9) rfl dX0_findSeeds_8 ?_
    obtain ⟨g_1, h⟩ := gd_e h
    obtain ⟨g_2, h⟩ := gd_e h
    refine z_icmp_ge (tgt := 116) hx hb g_1 g_2 dX0_findSeeds_11 (by decide) (fun b_3 => ?_) (fun b_3 => ?_)
    · have h := it_n b_3 h
      exact hk (x1) (x2) (x3) H locs ls h hP hD hS (lv_sub hl [1] rfl)
    · have h := it_p b_3 h
      refine lv_iload_n hx hb dX0_findSeeds_14 rfl (lv_at hl 3 rfl) ?_
      refine lv_iconst (v := Int32.ofInt 1) hx hb dX0_findSeeds_15 rfl ?_
      refine z_iadd hx hb dX0_findSeeds_16 ?_
      refine lv_istore (lv' := [(4, vI (x3 + 1)), (0, .ref h_C), (1, vI x1), (2, vI x2), (3, vI x3)]) hx hb dX0_findSeeds_17 hl (by decide) rfl (fun ls hl => ?_)
      refine w_Ch_findSeeds_L19 D cI cZ cT (h_C) (q_C) (h_T) (h_LB) (h_LN) (q_T) (q_LB) (q_LN) (c_kept) (c_keptCount) (c_pool) (c_left) (c_treated) (T) (LB) (LN) (x3) _ _ hF (fun x1_27 x2_28 x4_29 H locs ls h hP hD hS hl => ?_) _ (x1) (x2) ((x3 + 1)) _ _ _ h hP hD hS (lv_sub hl [1, 2, 3, 4, 0] rfl)
      refine lv_iinc (v := Int32.ofInt (x3 + 1)) (lv' := [(3, vI (x3 + 1)), (0, .ref h_C), (1, vI x1_27), (2, vI x2_28)]) hx hb dX0_findSeeds_110 hl (k := 3) rfl (z_inc _ _) (by decide) rfl (fun ls hl => ?_)
      refine lv_goto (tgt := 6) hx hb dX0_findSeeds_113 (by decide) ?_
      exact ih (x1_27) (x2_28) ((x3 + 1)) H locs ls h hP hD hS (lv_sub hl [1, 2, 3, 0] rfl)
set_option maxHeartbeats 4000000 in
set_option maxRecDepth 100000 in
theorem c_Ch_findSeeds (l : Launch) (D : va_G) (cI cZ cT : ClassId) (h_C : Nat) (q_C : Nat → Nat) (h_T : Nat) (h_LB : Nat) (h_LN : Nat) (q_T : Nat → Nat) (q_LB : Nat → Nat) (q_LN : Nat → Nat) (c_kept : Nat → Int) (c_keptCount : Int) (c_pool : Nat → Int) (c_left : Int) (c_treated : Int64) (T : TV) (LB : KV) (LN : KV) (sz : Nat) (res : Int) (h : f_Ch_findSeeds c_pool c_left T = some res) : zMi l yX0_findSeeds cX0_findSeeds 8 rm_Ch_findSeeds D (zt cI cZ cT) [.ref h_C] ((zCh cI h_C q_C h_T h_LB h_LN c_kept c_keptCount c_pool c_left c_treated) ++ (zTr cI h_T q_T T) ++ (zWk cI h_LB q_LB LB) ++ (zWk cI h_LN q_LN LN)) sz (res) (fun u => (zCh cI h_C q_C h_T h_LB h_LN c_kept c_keptCount c_pool c_left c_treated) ++ (zTr cI h_T q_T T) ++ (zWk cI h_LB q_LB LB) ++ (zWk cI h_LN q_LN LN)) 0 0 := by
  refine z_enth (Qc := zQi D (res) (fun u => (zCh cI h_C q_C h_T h_LB h_LN c_kept c_keptCount c_pool c_left c_treated) ++ (zTr cI h_T q_T T) ++ (zWk cI h_LB q_LB LB) ++ (zWk cI h_LN q_LN LN))) (by decide) (Nat.le_of_ble_eq_true rfl) (fun p e s m args below meth c A ls H locs hF hP hD hS hl => ?_)
  have hx := hF.1.1
  have hb := hF.1.2.1
  have hml := hF.1.2.2.1
  have hown : s.vm.findClass "RectangleTree$Changes" = some m.cls := hF.1.2.2.2.1
  have hts := hF.1.2.2.2.2
  have hr := hF.2.1
  have hlk := hF.2.2.1
  have hK := hF.2.2.2.2.1
  have hN := hF.2.2.2.2.2.1
  have hA := hF.2.2.2.2.2.2
  unfold f_Ch_findSeeds at h
  refine lv_iconst (v := Int32.ofInt (-1)) hx hb dX0_findSeeds_0 rfl ?_
  refine lv_istore_n (lv' := [(1, vI (-1)), (0, .ref h_C)]) hx hb dX0_findSeeds_1 rfl hl (by decide) rfl (fun ls hl => ?_)
  refine lv_iconst (v := Int32.ofInt 0) hx hb dX0_findSeeds_2 rfl ?_
  refine lv_istore_n (lv' := [(2, vI 0), (1, vI (-1)), (0, .ref h_C)]) hx hb dX0_findSeeds_3 rfl hl (by decide) rfl (fun ls hl => ?_)
  refine lv_iconst (v := Int32.ofInt 0) hx hb dX0_findSeeds_4 rfl ?_
  refine lv_istore_n (lv' := [(3, vI 0), (2, vI 0), (1, vI (-1)), (0, .ref h_C)]) hx hb dX0_findSeeds_5 rfl hl (by decide) rfl (fun ls hl => ?_)
  refine w_Ch_findSeeds_L6 D cI cZ cT (h_C) (q_C) (h_T) (h_LB) (h_LN) (q_T) (q_LB) (q_LN) (c_kept) (c_keptCount) (c_pool) (c_left) (c_treated) (T) (LB) (LN) _ _ hF (fun x1_30 x2_31 x3_32 H locs ls h hP hD hS hl => ?_) _ ((-1)) (0) (0) _ _ _ h hP hD hS (lv_sub hl [3, 2, 1, 0] rfl)
  refine lv_iload_n hx hb dX0_findSeeds_116 rfl (lv_at hl 0 rfl) ?_
  obtain rfl := Option.some.inj h
  exact z_iret hx hb hr hlk (fun _ _ => 0) hP hD hS dX0_findSeeds_117
def f_Ch_mostDecided_L8 (c_pool : Nat → Int) (c_left : Int) (T : TV) (x1 : Int) (x2 : Int) (k : Int → Int → Int → Option (Int)) : Nat → Int → Int → Int → Option (Int)
  | 0, _, _, _ => none
  | n + 1, x3, x4, x5 =>
  gd (ck x5) <| gd (ck c_left) <| if x5 < c_left then (bd1 (f_Rt_at 6 c_pool x5) <| fun r_4 => bd1 (f_Tr_enlargement T x1 r_4) <| fun r_7 => bd1 (f_Tr_enlargement T x2 r_4) <| fun r_10 => gd (ck (r_7 - r_10)) <| gd (ck x3) <| if x3 = (-1) then (f_Ch_mostDecided_L8 c_pool c_left T x1 x2 k n (x5) ((ab (r_7 - r_10))) ((x5 + 1))) else (gd (ck (ab (r_7 - r_10))) <| gd (ck x4) <| if x4 < (ab (r_7 - r_10)) then (f_Ch_mostDecided_L8 c_pool c_left T x1 x2 k n (x5) ((ab (r_7 - r_10))) ((x5 + 1))) else (f_Ch_mostDecided_L8 c_pool c_left T x1 x2 k n (x3) (x4) ((x5 + 1))))) else (k (x3) (x4) (x5))
def f_Ch_mostDecided (c_pool : Nat → Int) (c_left : Int) (T : TV) (x1 : Int) (x2 : Int) : Option (Int) :=
  f_Ch_mostDecided_L8 (c_pool) (c_left) (T) (x1) (x2) (fun x3_19 x4_20 x5_21 => some (x3_19)) FU ((-1)) (0) (0)
abbrev rm_Ch_mostDecided : Room := ({ frames := 3, cells := 0, slots := 0, locals := 69 } : Room)
set_option maxHeartbeats 4000000 in
set_option maxRecDepth 100000 in
theorem w_Ch_mostDecided_L8 {p : Program} {l : Launch} {e : Env} {s : State} {m : MethodId} {args : Array Value} {below : List Frame} {meth : Method} {c : Code} {A : Nat → Prop} (D : va_G) (cI cZ cT : ClassId) (h_C : Nat) (q_C : Nat → Nat) (h_T : Nat) (h_LB : Nat) (h_LN : Nat) (q_T : Nat → Nat) (q_LB : Nat → Nat) (q_LN : Nat → Nat) (c_kept : Nat → Int) (c_keptCount : Int) (c_pool : Nat → Int) (c_left : Int) (c_treated : Int64) (T : TV) (LB : KV) (LN : KV) (x1 : Int) (x2 : Int) (res : Int) (k : Int → Int → Int → Option (Int)) (hF : zF p m c cX0_mostDecided 8 s args yX0_mostDecided.cls meth (some .int) yX0_mostDecided.name A D (zt cI cZ cT))
    (hk : ∀ (x3 : Int) (x4 : Int) (x5 : Int) (H : Heap) (locs : List Loc) (ls : Array Slot), k x3 x4 x5 = some res → va_P D vwCl ((zCh cI h_C q_C h_T h_LB h_LN c_kept c_keptCount c_pool c_left c_treated) ++ (zTr cI h_T q_T T) ++ (zWk cI h_LB q_LB LB) ++ (zWk cI h_LN q_LN LN)) H → va_D A ((zCh cI h_C q_C h_T h_LB h_LN c_kept c_keptCount c_pool c_left c_treated) ++ (zTr cI h_T q_T T) ++ (zWk cI h_LB q_LB LB) ++ (zWk cI h_LN q_LN LN)) → va_S A s.heap H locs → lv_has ls 8 [(3, vI x3)] → W p l e rm_Ch_mostDecided s m args below meth c H locs 0 0 (MQ below (zQi D (res) (fun u => (zCh cI h_C q_C h_T h_LB h_LN c_kept c_keptCount c_pool c_left c_treated) ++ (zTr cI h_T q_T T) ++ (zWk cI h_LB q_LB LB) ++ (zWk cI h_LN q_LN LN)) A) args s 0 0 A) (F0 m 79 ls [])) :
    ∀ (n : Nat) (x3 : Int) (x4 : Int) (x5 : Int) (H : Heap) (locs : List Loc) (ls : Array Slot), f_Ch_mostDecided_L8 c_pool c_left T x1 x2 k n x3 x4 x5 = some res → va_P D vwCl ((zCh cI h_C q_C h_T h_LB h_LN c_kept c_keptCount c_pool c_left c_treated) ++ (zTr cI h_T q_T T) ++ (zWk cI h_LB q_LB LB) ++ (zWk cI h_LN q_LN LN)) H → va_D A ((zCh cI h_C q_C h_T h_LB h_LN c_kept c_keptCount c_pool c_left c_treated) ++ (zTr cI h_T q_T T) ++ (zWk cI h_LB q_LB LB) ++ (zWk cI h_LN q_LN LN)) → va_S A s.heap H locs → lv_has ls 8 [(0, .ref h_C), (1, vI x1), (2, vI x2), (3, vI x3), (4, vI x4), (5, vI x5)] → W p l e rm_Ch_mostDecided s m args below meth c H locs 0 0 (MQ below (zQi D (res) (fun u => (zCh cI h_C q_C h_T h_LB h_LN c_kept c_keptCount c_pool c_left c_treated) ++ (zTr cI h_T q_T T) ++ (zWk cI h_LB q_LB LB) ++ (zWk cI h_LN q_LN LN)) A) args s 0 0 A) (F0 m 8 ls []) := by
  have hx := hF.1.1
  have hb := hF.1.2.1
  have hml := hF.1.2.2.1
  have hown : s.vm.findClass "RectangleTree$Changes" = some m.cls := hF.1.2.2.2.1
  have hts := hF.1.2.2.2.2
  have hr := hF.2.1
  have hlk := hF.2.2.1
  have hK := hF.2.2.2.2.1
  have hN := hF.2.2.2.2.2.1
  have hA := hF.2.2.2.2.2.2
  intro n
  induction n with
  | zero => intro x3 x4 x5 H locs ls h; cases h
  | succ n ih =>
    intro x3 x4 x5 H locs ls h hP hD hS hl
    rw [f_Ch_mostDecided_L8] at h
    refine lv_iload hx hb dX0_mostDecided_8 (lv_at hl 5 rfl) ?_
    refine lv_aload_n hx hb dX0_mostDecided_10 rfl (lv_at hl 0 rfl) ?_
    refine va_get (D := D) (ci := 0) (v := vI c_left) (C := RX0) (T := TX0) (N := 8) hx hb hts zin0 hown hK hP 0 rfl rfl 4 (by decide) (hts _ wm136) (fun _ h9 => h9) rfl dX0_mostDecided_11 ?_
    obtain ⟨g_1, h⟩ := gd_e h
    obtain ⟨g_2, h⟩ := gd_e h
    refine z_icmp_ge (tgt := 79) hx hb g_1 g_2 dX0_mostDecided_14 (by decide) (fun b_3 => ?_) (fun b_3 => ?_)
    · have h := it_n b_3 h
      exact hk (x3) (x4) (x5) H locs ls h hP hD hS (lv_sub hl [3] rfl)
    · have h := it_p b_3 h
      refine lv_aload_n hx hb dX0_mostDecided_17 rfl (lv_at hl 0 rfl) ?_
      refine va_get (D := D) (ci := 0) (v := .ref (q_C 1)) (C := RX0) (T := TX0) (N := 8) hx hb hts zin0 hown hK hP 0 rfl rfl 3 (by decide) (hts _ wm135) (fun _ h9 => h9) rfl dX0_mostDecided_18 ?_
      refine lv_iload hx hb dX0_mostDecided_21 (lv_at hl 5 rfl) ?_
      obtain ⟨r_4, e_5, h⟩ := bd1_e h
      refine z_goi (ws' := []) (ret := r_4) (wc := (zAr cI ((q_C 1)) (6) (c_pool))) (wn := fun u_6 => (zCh cI h_C q_C h_T h_LB h_LN c_kept c_keptCount c_pool c_left c_treated) ++ (zTr cI h_T q_T T) ++ (zWk cI h_LB q_LB LB) ++ (zWk cI h_LN q_LN LN)) (wr := ([0, 1, 3, 4, 5, 6, 7, 8, 9, 10, 11, 12, 13, 14].filterMap (fun i => ((zCh cI h_C q_C h_T h_LB h_LN c_kept c_keptCount c_pool c_left c_treated) ++ (zTr cI h_T q_T T) ++ (zWk cI h_LB q_LB LB) ++ (zWk cI h_LN q_LN LN))[i]?))) (va_runSN (As := [.ref (q_C 1), vI x5]) (rest := []) hF.1 (c_Rt_at l D cI cZ cT (q_C 1) 6 c_pool x5 H.size (r_4) e_5) ⟨va_cnB 2 hts (zW_good wm229) rfl rfl rfl (hN.at 8 rfl) (hts _ wm32) (by decide +kernel) ⟨Nat.le_of_ble_eq_true rfl, Nat.le_of_ble_eq_true rfl⟩, hts _ wm228, trivial⟩ ⟨zP.blind, zP.enter (z_subP (ws' := (zAr cI ((q_C 1)) (6) (c_pool))) hP [2] rfl) hK (hD.sub [2] (by decide) rfl) hN⟩ rfl rfl hl.1 rfl (lv_room (Nat.le_of_ble_eq_true rfl)) dX0_mostDecided_23 ⟨Nat.le_refl _, Nat.le_refl _⟩) hP hD hS hA [2] [0, 1, 3, 4, 5, 6, 7, 8, 9, 10, 11, 12, 13, 14] [0, 1, 14, 2, 3, 4, 5, 6, 7, 8, 9, 10, 11, 12, 13] rfl rfl (by decide) (fun _ => rfl) (fun u_6 H locs hP hD hS hz => ?_)
      refine lv_istore (lv' := [(6, vI r_4), (0, .ref h_C), (1, vI x1), (2, vI x2), (3, vI x3), (4, vI x4), (5, vI x5)]) hx hb dX0_mostDecided_26 hl (by decide) rfl (fun ls hl => ?_)
      refine lv_aload_n hx hb dX0_mostDecided_28 rfl (lv_at hl 1 rfl) ?_
      refine va_get (D := D) (ci := 0) (v := .ref h_T) (C := RX0) (T := TX0) (N := 8) hx hb hts zin0 hown hK hP 0 rfl rfl 0 (by decide) (hts _ wm132) (fun _ h9 => h9) rfl dX0_mostDecided_29 ?_
      refine lv_iload_n hx hb dX0_mostDecided_32 rfl (lv_at hl 2 rfl) ?_
      refine lv_iload hx hb dX0_mostDecided_33 (lv_at hl 0 rfl) ?_
      obtain ⟨r_7, e_8, h⟩ := bd1_e h
      refine z_goi (ws' := []) (ret := r_7) (wc := (zTr cI (h_T) (q_T) (T))) (wn := fun u_9 => (zCh cI h_C q_C h_T h_LB h_LN c_kept c_keptCount c_pool c_left c_treated) ++ (zTr cI h_T q_T T) ++ (zWk cI h_LB q_LB LB) ++ (zWk cI h_LN q_LN LN)) (wr := ([0, 1, 2, 9, 10, 11, 12, 13, 14].filterMap (fun i => ((zCh cI h_C q_C h_T h_LB h_LN c_kept c_keptCount c_pool c_left c_treated) ++ (zTr cI h_T q_T T) ++ (zWk cI h_LB q_LB LB) ++ (zWk cI h_LN q_LN LN))[i]?))) (va_runV (As := [vI x1, vI r_4]) (rest := []) hF.1 (c_Tr_enlargement l D cI cZ cT h_T q_T T x1 r_4 H.size (r_7) e_8) (cwV 2 hts (zgV wm606 wm607 wm608 wm33 wm609) rfl rfl rfl (by decide +kernel) ⟨Nat.le_of_ble_eq_true rfl, Nat.le_of_ble_eq_true rfl⟩) ⟨zP.blind, va_recv hK (z_subP (ws' := (zTr cI (h_T) (q_T) (T))) hP [3, 4, 5, 6, 7, 8] rfl) (ci := 4) (q0 := 0) rfl rfl, zP.enter (z_subP (ws' := (zTr cI (h_T) (q_T) (T))) hP [3, 4, 5, 6, 7, 8] rfl) hK (hD.sub [3, 4, 5, 6, 7, 8] (by decide) rfl) hN⟩ rfl rfl hl.1 rfl (lv_room (Nat.le_of_ble_eq_true rfl)) dX0_mostDecided_35 ⟨Nat.le_refl _, Nat.le_refl _⟩) hP hD hS hA [3, 4, 5, 6, 7, 8] [0, 1, 2, 9, 10, 11, 12, 13, 14] [0, 1, 2, 9, 10, 11, 12, 13, 14, 3, 4, 5, 6, 7, 8] rfl rfl (by decide) (fun _ => rfl) (fun u_9 H locs hP hD hS hz => ?_)
      refine lv_aload_n hx hb dX0_mostDecided_38 rfl (lv_at hl 1 rfl) ?_
      refine va_get (D := D) (ci := 0) (v := .ref h_T) (C := RX0) (T := TX0) (N := 8) hx hb hts zin0 hown hK hP 0 rfl rfl 0 (by decide) (hts _ wm132) (fun _ h9 => h9) rfl dX0_mostDecided_39 ?_
      refine lv_iload_n hx hb dX0_mostDecided_42 rfl (lv_at hl 3 rfl) ?_
      refine lv_iload hx hb dX0_mostDecided_43 (lv_at hl 0 rfl) ?_
      obtain ⟨r_10, e_11, h⟩ := bd1_e h
      refine z_goi (ws' := []) (ret := r_10) (wc := (zTr cI (h_T) (q_T) (T))) (wn := fun u_12 => (zCh cI h_C q_C h_T h_LB h_LN c_kept c_keptCount c_pool c_left c_treated) ++ (zTr cI h_T q_T T) ++ (zWk cI h_LB q_LB LB) ++ (zWk cI h_LN q_LN LN)) (wr := ([0, 1, 2, 9, 10, 11, 12, 13, 14].filterMap (fun i => ((zCh cI h_C q_C h_T h_LB h_LN c_kept c_keptCount c_pool c_left c_treated) ++ (zTr cI h_T q_T T) ++ (zWk cI h_LB q_LB LB) ++ (zWk cI h_LN q_LN LN))[i]?))) (va_runV (As := [vI x2, vI r_4]) (rest := [vI r_7]) hF.1 (c_Tr_enlargement l D cI cZ cT h_T q_T T x2 r_4 H.size (r_10) e_11) (cwV 2 hts (zgV wm606 wm607 wm608 wm33 wm609) rfl rfl rfl (by decide +kernel) ⟨Nat.le_of_ble_eq_true rfl, Nat.le_of_ble_eq_true rfl⟩) ⟨zP.blind, va_recv hK (z_subP (ws' := (zTr cI (h_T) (q_T) (T))) hP [3, 4, 5, 6, 7, 8] rfl) (ci := 4) (q0 := 0) rfl rfl, zP.enter (z_subP (ws' := (zTr cI (h_T) (q_T) (T))) hP [3, 4, 5, 6, 7, 8] rfl) hK (hD.sub [3, 4, 5, 6, 7, 8] (by decide) rfl) hN⟩ rfl rfl hl.1 rfl (lv_room (Nat.le_of_ble_eq_true rfl)) dX0_mostDecided_45 ⟨Nat.le_refl _, Nat.le_refl _⟩) hP hD hS hA [3, 4, 5, 6, 7, 8] [0, 1, 2, 9, 10, 11, 12, 13, 14] [0, 1, 2, 9, 10, 11, 12, 13, 14, 3, 4, 5, 6, 7, 8] rfl rfl (by decide) (fun _ => rfl) (fun u_12 H locs hP hD hS hz => ?_)
      refine z_isub hx hb dX0_mostDecided_48 ?_
      obtain ⟨g_13, h⟩ := gd_e h
      refine z_mabs (rest := []) hx hb (by rw [hml]; exact hl.1.symm) hown (hts _ wm612) (hts _ wm613) (hts _ wm40) (hts _ wm614) (Nat.le_of_ble_eq_true rfl) (Nat.le_of_ble_eq_true rfl) (Nat.le_refl _) (Nat.le_refl _) g_13 dX0_mostDecided_49 ?_
      refine lv_istore (lv' := [(7, vI (ab (r_7 - r_10))), (6, vI r_4), (0, .ref h_C), (1, vI x1), (2, vI x2), (3, vI x3), (4, vI x4), (5, vI x5)]) hx hb dX0_mostDecided_52 hl (by decide) rfl (fun ls hl => ?_)
      refine lv_iload_n hx hb dX0_mostDecided_54 rfl (lv_at hl 5 rfl) ?_
      refine lv_iconst (v := Int32.ofInt (-1)) hx hb dX0_mostDecided_55 rfl ?_
      obtain ⟨g_14, h⟩ := gd_e h
      refine z_icmp_eq (tgt := 66) hx hb g_14 (by decide) dX0_mostDecided_56 (by decide) (fun b_15 => ?_) (fun b_15 => ?_)
      · have h := it_p b_15 h
        refine lv_iload hx hb dX0_mostDecided_66 (lv_at hl 7 rfl) ?_
        refine lv_istore_n (lv' := [(3, vI x5), (7, vI (ab (r_7 - r_10))), (6, vI r_4), (0, .ref h_C), (1, vI x1), (2, vI x2), (4, vI x4), (5, vI x5)]) hx hb dX0_mostDecided_68 rfl hl (by decide) rfl (fun ls hl => ?_)
        refine lv_iload hx hb dX0_mostDecided_69 (lv_at hl 1 rfl) ?_
        refine lv_istore (lv' := [(4, vI (ab (r_7 - r_10))), (3, vI x5), (7, vI (ab (r_7 - r_10))), (6, vI r_4), (0, .ref h_C), (1, vI x1), (2, vI x2), (5, vI x5)]) hx hb dX0_mostDecided_71 hl (by decide) rfl (fun ls hl => ?_)
        refine lv_iinc (v := Int32.ofInt (x5 + 1)) (lv' := [(5, vI (x5 + 1)), (4, vI (ab (r_7 - r_10))), (3, vI x5), (7, vI (ab (r_7 - r_10))), (6, vI r_4), (0, .ref h_C), (1, vI x1), (2, vI x2)]) hx hb dX0_mostDecided_73 hl (k := 7) rfl (z_inc _ _) (by decide) rfl (fun ls hl => ?_)
        refine lv_goto (tgt := 8) hx hb dX0_mostDecided_76 (by decide) ?_
        exact ih (x5) ((ab (r_7 - r_10))) ((x5 + 1)) H locs ls h hP hD hS (lv_sub hl [5, 6, 7, 2, 1, 0] rfl)
      · have h := it_n b_15 h
        refine lv_iload hx hb dX0_mostDecided_59 (lv_at hl 0 rfl) ?_
        refine lv_iload hx hb dX0_mostDecided_61 (lv_at hl 6 rfl) ?_
        obtain ⟨g_16, h⟩ := gd_e h
        obtain ⟨g_17, h⟩ := gd_e h
        refine z_icmp_le (tgt := 73) hx hb g_16 g_17 dX0_mostDecided_63 (by decide) (fun b_18 => ?_) (fun b_18 => ?_)
        · have h := it_n b_18 h
          refine lv_iinc (v := Int32.ofInt (x5 + 1)) (lv' := [(5, vI (x5 + 1)), (7, vI (ab (r_7 - r_10))), (6, vI r_4), (0, .ref h_C), (1, vI x1), (2, vI x2), (3, vI x3), (4, vI x4)]) hx hb dX0_mostDecided_73 hl (k := 7) rfl (z_inc _ _) (by decide) rfl (fun ls hl => ?_)
          refine lv_goto (tgt := 8) hx hb dX0_mostDecided_76 (by decide) ?_
          exact ih (x3) (x4) ((x5 + 1)) H locs ls h hP hD hS (lv_sub hl [3, 4, 5, 6, 7, 0] rfl)
        · have h := it_p b_18 h
          refine lv_iload hx hb dX0_mostDecided_66 (lv_at hl 7 rfl) ?_
          refine lv_istore_n (lv' := [(3, vI x5), (7, vI (ab (r_7 - r_10))), (6, vI r_4), (0, .ref h_C), (1, vI x1), (2, vI x2), (4, vI x4), (5, vI x5)]) hx hb dX0_mostDecided_68 rfl hl (by decide) rfl (fun ls hl => ?_)
          refine lv_iload hx hb dX0_mostDecided_69 (lv_at hl 1 rfl) ?_
          refine lv_istore (lv' := [(4, vI (ab (r_7 - r_10))), (3, vI x5), (7, vI (ab (r_7 - r_10))), (6, vI r_4), (0, .ref h_C), (1, vI x1), (2, vI x2), (5, vI x5)]) hx hb dX0_mostDecided_71 hl (by decide) rfl (fun ls hl => ?_)
          refine lv_iinc (v := Int32.ofInt (x5 + 1)) (lv' := [(5, vI (x5 + 1)), (4, vI (ab (r_7 - r_10))), (3, vI x5), (7, vI (ab (r_7 - r_10))), (6, vI r_4), (0, .ref h_C), (1, vI x1), (2, vI x2)]) hx hb dX0_mostDecided_73 hl (k := 7) rfl (z_inc _ _) (by decide) rfl (fun ls hl => ?_)
          refine lv_goto (tgt := 8) hx hb dX0_mostDecided_76 (by decide) ?_
          exact ih (x5) ((ab (r_7 - r_10))) ((x5 + 1)) H locs ls h hP hD hS (lv_sub hl [5, 6, 7, 2, 1, 0] rfl)
set_option maxHeartbeats 4000000 in
set_option maxRecDepth 100000 in
theorem c_Ch_mostDecided (l : Launch) (D : va_G) (cI cZ cT : ClassId) (h_C : Nat) (q_C : Nat → Nat) (h_T : Nat) (h_LB : Nat) (h_LN : Nat) (q_T : Nat → Nat) (q_LB : Nat → Nat) (q_LN : Nat → Nat) (c_kept : Nat → Int) (c_keptCount : Int) (c_pool : Nat → Int) (c_left : Int) (c_treated : Int64) (T : TV) (LB : KV) (LN : KV) (x1 : Int) (x2 : Int) (sz : Nat) (res : Int) (h : f_Ch_mostDecided c_pool c_left T x1 x2 = some res) : zMi l yX0_mostDecided cX0_mostDecided 8 rm_Ch_mostDecided D (zt cI cZ cT) [.ref h_C, vI x1, vI x2] ((zCh cI h_C q_C h_T h_LB h_LN c_kept c_keptCount c_pool c_left c_treated) ++ (zTr cI h_T q_T T) ++ (zWk cI h_LB q_LB LB) ++ (zWk cI h_LN q_LN LN)) sz (res) (fun u => (zCh cI h_C q_C h_T h_LB h_LN c_kept c_keptCount c_pool c_left c_treated) ++ (zTr cI h_T q_T T) ++ (zWk cI h_LB q_LB LB) ++ (zWk cI h_LN q_LN LN)) 0 0 := by
  refine z_enth (Qc := zQi D (res) (fun u => (zCh cI h_C q_C h_T h_LB h_LN c_kept c_keptCount c_pool c_left c_treated) ++ (zTr cI h_T q_T T) ++ (zWk cI h_LB q_LB LB) ++ (zWk cI h_LN q_LN LN))) (by decide) (Nat.le_of_ble_eq_true rfl) (fun p e s m args below meth c A ls H locs hF hP hD hS hl => ?_)
  have hx := hF.1.1
  have hb := hF.1.2.1
  have hml := hF.1.2.2.1
  have hown : s.vm.findClass "RectangleTree$Changes" = some m.cls := hF.1.2.2.2.1
  have hts := hF.1.2.2.2.2
  have hr := hF.2.1
  have hlk := hF.2.2.1
  have hK := hF.2.2.2.2.1
  have hN := hF.2.2.2.2.2.1
  have hA := hF.2.2.2.2.2.2
  unfold f_Ch_mostDecided at h
  refine lv_iconst (v := Int32.ofInt (-1)) hx hb dX0_mostDecided_0 rfl ?_
  refine lv_istore_n (lv' := [(3, vI (-1)), (0, .ref h_C), (1, vI x1), (2, vI x2)]) hx hb dX0_mostDecided_1 rfl hl (by decide) rfl (fun ls hl => ?_)
  refine lv_iconst (v := Int32.ofInt 0) hx hb dX0_mostDecided_2 rfl ?_
  refine lv_istore (lv' := [(4, vI 0), (3, vI (-1)), (0, .ref h_C), (1, vI x1), (2, vI x2)]) hx hb dX0_mostDecided_3 hl (by decide) rfl (fun ls hl => ?_)
  refine lv_iconst (v := Int32.ofInt 0) hx hb dX0_mostDecided_5 rfl ?_
  refine lv_istore (lv' := [(5, vI 0), (4, vI 0), (3, vI (-1)), (0, .ref h_C), (1, vI x1), (2, vI x2)]) hx hb dX0_mostDecided_6 hl (by decide) rfl (fun ls hl => ?_)
  refine w_Ch_mostDecided_L8 D cI cZ cT (h_C) (q_C) (h_T) (h_LB) (h_LN) (q_T) (q_LB) (q_LN) (c_kept) (c_keptCount) (c_pool) (c_left) (c_treated) (T) (LB) (LN) (x1) (x2) _ _ hF (fun x3_19 x4_20 x5_21 H locs ls h hP hD hS hl => ?_) _ ((-1)) (0) (0) _ _ _ h hP hD hS (lv_sub hl [3, 4, 5, 2, 1, 0] rfl)
  refine lv_iload_n hx hb dX0_mostDecided_79 rfl (lv_at hl 0 rfl) ?_
  obtain rfl := Option.some.inj h
  exact z_iret hx hb hr hlk (fun _ _ => 0) hP hD hS dX0_mostDecided_80
def f_Ch_betterGroup (T : TV) (x1 : Int) (x2 : Int) (x3 : Int) : Option (Int) :=
  bd1 (f_Tr_enlargement T x1 x3) <| fun r_1 => bd1 (f_Tr_enlargement T x2 x3) <| fun r_4 => gd (ck (r_1 - r_4)) <| if (r_1 - r_4) = 0 then (bd1 (f_Tr_areaOf T x1) <| fun r_19 => bd1 (f_Tr_areaOf T x2) <| fun r_22 => gd (ck (r_19 - r_22)) <| if (r_19 - r_22) = 0 then (bd1 (f_Tr_sizeOf T x1) <| fun r_28 => bd1 (f_Tr_sizeOf T x2) <| fun r_31 => gd (ck (r_28 - r_31)) <| if 0 < (r_28 - r_31) then (some (x2)) else (some (x1))) else (if 0 < (r_19 - r_22) then (some (x2)) else (some (x1)))) else (if (r_1 - r_4) = 0 then (bd1 (f_Tr_sizeOf T x1) <| fun r_11 => bd1 (f_Tr_sizeOf T x2) <| fun r_14 => gd (ck (r_11 - r_14)) <| if 0 < (r_11 - r_14) then (some (x2)) else (some (x1))) else (if 0 < (r_1 - r_4) then (some (x2)) else (some (x1))))
abbrev rm_Ch_betterGroup : Room := ({ frames := 3, cells := 0, slots := 0, locals := 69 } : Room)
set_option maxHeartbeats 4000000 in
set_option maxRecDepth 100000 in
theorem c_Ch_betterGroup (l : Launch) (D : va_G) (cI cZ cT : ClassId) (h_C : Nat) (q_C : Nat → Nat) (h_T : Nat) (h_LB : Nat) (h_LN : Nat) (q_T : Nat → Nat) (q_LB : Nat → Nat) (q_LN : Nat → Nat) (c_kept : Nat → Int) (c_keptCount : Int) (c_pool : Nat → Int) (c_left : Int) (c_treated : Int64) (T : TV) (LB : KV) (LN : KV) (x1 : Int) (x2 : Int) (x3 : Int) (sz : Nat) (res : Int) (h : f_Ch_betterGroup T x1 x2 x3 = some res) : zMi l yX0_betterGroup cX0_betterGroup 5 rm_Ch_betterGroup D (zt cI cZ cT) [.ref h_C, vI x1, vI x2, vI x3] ((zCh cI h_C q_C h_T h_LB h_LN c_kept c_keptCount c_pool c_left c_treated) ++ (zTr cI h_T q_T T) ++ (zWk cI h_LB q_LB LB) ++ (zWk cI h_LN q_LN LN)) sz (res) (fun u => (zCh cI h_C q_C h_T h_LB h_LN c_kept c_keptCount c_pool c_left c_treated) ++ (zTr cI h_T q_T T) ++ (zWk cI h_LB q_LB LB) ++ (zWk cI h_LN q_LN LN)) 0 0 := by
  refine z_enth (Qc := zQi D (res) (fun u => (zCh cI h_C q_C h_T h_LB h_LN c_kept c_keptCount c_pool c_left c_treated) ++ (zTr cI h_T q_T T) ++ (zWk cI h_LB q_LB LB) ++ (zWk cI h_LN q_LN LN))) (by decide) (Nat.le_of_ble_eq_true rfl) (fun p e s m args below meth c A ls H locs hF hP hD hS hl => ?_)
  have hx := hF.1.1
  have hb := hF.1.2.1
  have hml := hF.1.2.2.1
  have hown : s.vm.findClass "RectangleTree$Changes" = some m.cls := hF.1.2.2.2.1
  have hts := hF.1.2.2.2.2
  have hr := hF.2.1
  have hlk := hF.2.2.1
  have hK := hF.2.2.2.2.1
  have hN := hF.2.2.2.2.2.1
  have hA := hF.2.2.2.2.2.2
  unfold f_Ch_betterGroup at h
  refine lv_aload_n hx hb dX0_betterGroup_0 rfl (lv_at hl 0 rfl) ?_
  refine va_get (D := D) (ci := 0) (v := .ref h_T) (C := RX0) (T := TX0) (N := 8) hx hb hts zin0 hown hK hP 0 rfl rfl 0 (by decide) (hts _ wm132) (fun _ h9 => h9) rfl dX0_betterGroup_1 ?_
  refine lv_iload_n hx hb dX0_betterGroup_4 rfl (lv_at hl 1 rfl) ?_
  refine lv_iload_n hx hb dX0_betterGroup_5 rfl (lv_at hl 3 rfl) ?_
  obtain ⟨r_1, e_2, h⟩ := bd1_e h
  refine z_goi (ws' := []) (ret := r_1) (wc := (zTr cI (h_T) (q_T) (T))) (wn := fun u_3 => (zCh cI h_C q_C h_T h_LB h_LN c_kept c_keptCount c_pool c_left c_treated) ++ (zTr cI h_T q_T T) ++ (zWk cI h_LB q_LB LB) ++ (zWk cI h_LN q_LN LN)) (wr := ([0, 1, 2, 9, 10, 11, 12, 13, 14].filterMap (fun i => ((zCh cI h_C q_C h_T h_LB h_LN c_kept c_keptCount c_pool c_left c_treated) ++ (zTr cI h_T q_T T) ++ (zWk cI h_LB q_LB LB) ++ (zWk cI h_LN q_LN LN))[i]?))) (va_runV (As := [vI x1, vI x3]) (rest := []) hF.1 (c_Tr_enlargement l D cI cZ cT h_T q_T T x1 x3 H.size (r_1) e_2) (cwV 2 hts (zgV wm606 wm607 wm608 wm33 wm609) rfl rfl rfl (by decide +kernel) ⟨Nat.le_of_ble_eq_true rfl, Nat.le_of_ble_eq_true rfl⟩) ⟨zP.blind, va_recv hK (z_subP (ws' := (zTr cI (h_T) (q_T) (T))) hP [3, 4, 5, 6, 7, 8] rfl) (ci := 4) (q0 := 0) rfl rfl, zP.enter (z_subP (ws' := (zTr cI (h_T) (q_T) (T))) hP [3, 4, 5, 6, 7, 8] rfl) hK (hD.sub [3, 4, 5, 6, 7, 8] (by decide) rfl) hN⟩ rfl rfl hl.1 rfl (lv_room (Nat.le_of_ble_eq_true rfl)) dX0_betterGroup_6 ⟨Nat.le_refl _, Nat.le_refl _⟩) hP hD hS hA [3, 4, 5, 6, 7, 8] [0, 1, 2, 9, 10, 11, 12, 13, 14] [0, 1, 2, 9, 10, 11, 12, 13, 14, 3, 4, 5, 6, 7, 8] rfl rfl (by decide) (fun _ => rfl) (fun u_3 H locs hP hD hS hz => ?_)
  refine lv_aload_n hx hb dX0_betterGroup_9 rfl (lv_at hl 0 rfl) ?_
  refine va_get (D := D) (ci := 0) (v := .ref h_T) (C := RX0) (T := TX0) (N := 8) hx hb hts zin0 hown hK hP 0 rfl rfl 0 (by decide) (hts _ wm132) (fun _ h9 => h9) rfl dX0_betterGroup_10 ?_
  refine lv_iload_n hx hb dX0_betterGroup_13 rfl (lv_at hl 2 rfl) ?_
  refine lv_iload_n hx hb dX0_betterGroup_14 rfl (lv_at hl 3 rfl) ?_
  obtain ⟨r_4, e_5, h⟩ := bd1_e h
  refine z_goi (ws' := []) (ret := r_4) (wc := (zTr cI (h_T) (q_T) (T))) (wn := fun u_6 => (zCh cI h_C q_C h_T h_LB h_LN c_kept c_keptCount c_pool c_left c_treated) ++ (zTr cI h_T q_T T) ++ (zWk cI h_LB q_LB LB) ++ (zWk cI h_LN q_LN LN)) (wr := ([0, 1, 2, 9, 10, 11, 12, 13, 14].filterMap (fun i => ((zCh cI h_C q_C h_T h_LB h_LN c_kept c_keptCount c_pool c_left c_treated) ++ (zTr cI h_T q_T T) ++ (zWk cI h_LB q_LB LB) ++ (zWk cI h_LN q_LN LN))[i]?))) (va_runV (As := [vI x2, vI x3]) (rest := [vI r_1]) hF.1 (c_Tr_enlargement l D cI cZ cT h_T q_T T x2 x3 H.size (r_4) e_5) (cwV 2 hts (zgV wm606 wm607 wm608 wm33 wm609) rfl rfl rfl (by decide +kernel) ⟨Nat.le_of_ble_eq_true rfl, Nat.le_of_ble_eq_true rfl⟩) ⟨zP.blind, va_recv hK (z_subP (ws' := (zTr cI (h_T) (q_T) (T))) hP [3, 4, 5, 6, 7, 8] rfl) (ci := 4) (q0 := 0) rfl rfl, zP.enter (z_subP (ws' := (zTr cI (h_T) (q_T) (T))) hP [3, 4, 5, 6, 7, 8] rfl) hK (hD.sub [3, 4, 5, 6, 7, 8] (by decide) rfl) hN⟩ rfl rfl hl.1 rfl (lv_room (Nat.le_of_ble_eq_true rfl)) dX0_betterGroup_15 ⟨Nat.le_refl _, Nat.le_refl _⟩) hP hD hS hA [3, 4, 5, 6, 7, 8] [0, 1, 2, 9, 10, 11, 12, 13, 14] [0, 1, 2, 9, 10, 11, 12, 13, 14, 3, 4, 5, 6, 7, 8] rfl rfl (by decide) (fun _ => rfl) (fun u_6 H locs hP hD hS hz => ?_)
  refine z_isub hx hb dX0_betterGroup_18 ?_
  refine lv_istore (lv' := [(4, vI (r_1 - r_4)), (0, .ref h_C), (1, vI x1), (2, vI x2), (3, vI x3)]) hx hb dX0_betterGroup_19 hl (by decide) rfl (fun ls hl => ?_)
  refine lv_iload hx hb dX0_betterGroup_21 (lv_at hl 0 rfl) ?_
  obtain ⟨g_7, h⟩ := gd_e h
  refine z_if_ne (tgt := 45) hx hb g_7 dX0_betterGroup_23 (by decide) (fun b_8 => ?_) (fun b_8 => ?_)
  · have h := it_n b_8 h
    refine lv_iload hx hb dX0_betterGroup_45 (lv_at hl 0 rfl) ?_
    refine z_if_ne (tgt := 69) hx hb g_7 dX0_betterGroup_47 (by decide) (fun b_9 => ?_) (fun b_9 => ?_)
    · have h := it_n b_9 h
      refine lv_iload hx hb dX0_betterGroup_69 (lv_at hl 0 rfl) ?_
      refine z_if_gt (tgt := 78) hx hb g_7 dX0_betterGroup_71 (by decide) (fun b_10 => ?_) (fun b_10 => ?_)
      · have h := it_p b_10 h
        refine lv_iload_n hx hb dX0_betterGroup_78 rfl (lv_at hl 3 rfl) ?_
        obtain rfl := Option.some.inj h
        exact z_iret hx hb hr hlk (fun _ _ => 0) hP hD hS dX0_betterGroup_79
      · have h := it_n b_10 h
        refine lv_iload_n hx hb dX0_betterGroup_74 rfl (lv_at hl 2 rfl) ?_
        refine lv_goto (tgt := 79) hx hb dX0_betterGroup_75 (by decide) ?_
        obtain rfl := Option.some.inj h
        exact z_iret hx hb hr hlk (fun _ _ => 0) hP hD hS dX0_betterGroup_79
    · have h := it_p b_9 h
      refine lv_aload_n hx hb dX0_betterGroup_50 rfl (lv_at hl 1 rfl) ?_
      refine va_get (D := D) (ci := 0) (v := .ref h_T) (C := RX0) (T := TX0) (N := 8) hx hb hts zin0 hown hK hP 0 rfl rfl 0 (by decide) (hts _ wm132) (fun _ h9 => h9) rfl dX0_betterGroup_51 ?_
      refine lv_iload_n hx hb dX0_betterGroup_54 rfl (lv_at hl 2 rfl) ?_
      obtain ⟨r_11, e_12, h⟩ := bd1_e h
      refine z_goi (ws' := []) (ret := r_11) (wc := (zTr cI (h_T) (q_T) (T))) (wn := fun u_13 => (zCh cI h_C q_C h_T h_LB h_LN c_kept c_keptCount c_pool c_left c_treated) ++ (zTr cI h_T q_T T) ++ (zWk cI h_LB q_LB LB) ++ (zWk cI h_LN q_LN LN)) (wr := ([0, 1, 2, 9, 10, 11, 12, 13, 14].filterMap (fun i => ((zCh cI h_C q_C h_T h_LB h_LN c_kept c_keptCount c_pool c_left c_treated) ++ (zTr cI h_T q_T T) ++ (zWk cI h_LB q_LB LB) ++ (zWk cI h_LN q_LN LN))[i]?))) (va_runV (As := [vI x1]) (rest := []) hF.1 (c_Tr_sizeOf l D cI cZ cT h_T q_T T x1 H.size (r_11) e_12) (cwV 1 hts (zgV wm510 wm231 wm232 wm33 wm233) rfl rfl rfl (by decide +kernel) ⟨Nat.le_of_ble_eq_true rfl, Nat.le_of_ble_eq_true rfl⟩) ⟨zP.blind, va_recv hK (z_subP (ws' := (zTr cI (h_T) (q_T) (T))) hP [3, 4, 5, 6, 7, 8] rfl) (ci := 4) (q0 := 0) rfl rfl, zP.enter (z_subP (ws' := (zTr cI (h_T) (q_T) (T))) hP [3, 4, 5, 6, 7, 8] rfl) hK (hD.sub [3, 4, 5, 6, 7, 8] (by decide) rfl) hN⟩ rfl rfl hl.1 rfl (lv_room (Nat.le_of_ble_eq_true rfl)) dX0_betterGroup_55 ⟨Nat.le_refl _, Nat.le_refl _⟩) hP hD hS hA [3, 4, 5, 6, 7, 8] [0, 1, 2, 9, 10, 11, 12, 13, 14] [0, 1, 2, 9, 10, 11, 12, 13, 14, 3, 4, 5, 6, 7, 8] rfl rfl (by decide) (fun _ => rfl) (fun u_13 H locs hP hD hS hz => ?_)
      refine lv_aload_n hx hb dX0_betterGroup_58 rfl (lv_at hl 1 rfl) ?_
      refine va_get (D := D) (ci := 0) (v := .ref h_T) (C := RX0) (T := TX0) (N := 8) hx hb hts zin0 hown hK hP 0 rfl rfl 0 (by decide) (hts _ wm132) (fun _ h9 => h9) rfl dX0_betterGroup_59 ?_
      refine lv_iload_n hx hb dX0_betterGroup_62 rfl (lv_at hl 3 rfl) ?_
      obtain ⟨r_14, e_15, h⟩ := bd1_e h
      refine z_goi (ws' := []) (ret := r_14) (wc := (zTr cI (h_T) (q_T) (T))) (wn := fun u_16 => (zCh cI h_C q_C h_T h_LB h_LN c_kept c_keptCount c_pool c_left c_treated) ++ (zTr cI h_T q_T T) ++ (zWk cI h_LB q_LB LB) ++ (zWk cI h_LN q_LN LN)) (wr := ([0, 1, 2, 9, 10, 11, 12, 13, 14].filterMap (fun i => ((zCh cI h_C q_C h_T h_LB h_LN c_kept c_keptCount c_pool c_left c_treated) ++ (zTr cI h_T q_T T) ++ (zWk cI h_LB q_LB LB) ++ (zWk cI h_LN q_LN LN))[i]?))) (va_runV (As := [vI x2]) (rest := [vI r_11]) hF.1 (c_Tr_sizeOf l D cI cZ cT h_T q_T T x2 H.size (r_14) e_15) (cwV 1 hts (zgV wm510 wm231 wm232 wm33 wm233) rfl rfl rfl (by decide +kernel) ⟨Nat.le_of_ble_eq_true rfl, Nat.le_of_ble_eq_true rfl⟩) ⟨zP.blind, va_recv hK (z_subP (ws' := (zTr cI (h_T) (q_T) (T))) hP [3, 4, 5, 6, 7, 8] rfl) (ci := 4) (q0 := 0) rfl rfl, zP.enter (z_subP (ws' := (zTr cI (h_T) (q_T) (T))) hP [3, 4, 5, 6, 7, 8] rfl) hK (hD.sub [3, 4, 5, 6, 7, 8] (by decide) rfl) hN⟩ rfl rfl hl.1 rfl (lv_room (Nat.le_of_ble_eq_true rfl)) dX0_betterGroup_63 ⟨Nat.le_refl _, Nat.le_refl _⟩) hP hD hS hA [3, 4, 5, 6, 7, 8] [0, 1, 2, 9, 10, 11, 12, 13, 14] [0, 1, 2, 9, 10, 11, 12, 13, 14, 3, 4, 5, 6, 7, 8] rfl rfl (by decide) (fun _ => rfl) (fun u_16 H locs hP hD hS hz => ?_)
      refine z_isub hx hb dX0_betterGroup_66 ?_
      refine lv_istore (lv' := [(4, vI (r_11 - r_14)), (0, .ref h_C), (1, vI x1), (2, vI x2), (3, vI x3)]) hx hb dX0_betterGroup_67 hl (by decide) rfl (fun ls hl => ?_)
      refine lv_iload hx hb dX0_betterGroup_69 (lv_at hl 0 rfl) ?_
      obtain ⟨g_17, h⟩ := gd_e h
      refine z_if_gt (tgt := 78) hx hb g_17 dX0_betterGroup_71 (by decide) (fun b_18 => ?_) (fun b_18 => ?_)
      · have h := it_p b_18 h
        refine lv_iload_n hx hb dX0_betterGroup_78 rfl (lv_at hl 3 rfl) ?_
        obtain rfl := Option.some.inj h
        exact z_iret hx hb hr hlk (fun _ _ => 0) hP hD hS dX0_betterGroup_79
      · have h := it_n b_18 h
        refine lv_iload_n hx hb dX0_betterGroup_74 rfl (lv_at hl 2 rfl) ?_
        refine lv_goto (tgt := 79) hx hb dX0_betterGroup_75 (by decide) ?_
        obtain rfl := Option.some.inj h
        exact z_iret hx hb hr hlk (fun _ _ => 0) hP hD hS dX0_betterGroup_79
  · have h := it_p b_8 h
    refine lv_aload_n hx hb dX0_betterGroup_26 rfl (lv_at hl 1 rfl) ?_
    refine va_get (D := D) (ci := 0) (v := .ref h_T) (C := RX0) (T := TX0) (N := 8) hx hb hts zin0 hown hK hP 0 rfl rfl 0 (by decide) (hts _ wm132) (fun _ h9 => h9) rfl dX0_betterGroup_27 ?_
    refine lv_iload_n hx hb dX0_betterGroup_30 rfl (lv_at hl 2 rfl) ?_
    obtain ⟨r_19, e_20, h⟩ := bd1_e h
    refine z_goi (ws' := []) (ret := r_19) (wc := (zTr cI (h_T) (q_T) (T))) (wn := fun u_21 => (zCh cI h_C q_C h_T h_LB h_LN c_kept c_keptCount c_pool c_left c_treated) ++ (zTr cI h_T q_T T) ++ (zWk cI h_LB q_LB LB) ++ (zWk cI h_LN q_LN LN)) (wr := ([0, 1, 2, 9, 10, 11, 12, 13, 14].filterMap (fun i => ((zCh cI h_C q_C h_T h_LB h_LN c_kept c_keptCount c_pool c_left c_treated) ++ (zTr cI h_T q_T T) ++ (zWk cI h_LB q_LB LB) ++ (zWk cI h_LN q_LN LN))[i]?))) (va_runV (As := [vI x1]) (rest := []) hF.1 (c_Tr_areaOf l D cI cZ cT h_T q_T T x1 H.size (r_19) e_20) (cwV 1 hts (zgV wm512 wm384 wm385 wm33 wm386) rfl rfl rfl (by decide +kernel) ⟨Nat.le_of_ble_eq_true rfl, Nat.le_of_ble_eq_true rfl⟩) ⟨zP.blind, va_recv hK (z_subP (ws' := (zTr cI (h_T) (q_T) (T))) hP [3, 4, 5, 6, 7, 8] rfl) (ci := 4) (q0 := 0) rfl rfl, zP.enter (z_subP (ws' := (zTr cI (h_T) (q_T) (T))) hP [3, 4, 5, 6, 7, 8] rfl) hK (hD.sub [3, 4, 5, 6, 7, 8] (by decide) rfl) hN⟩ rfl rfl hl.1 rfl (lv_room (Nat.le_of_ble_eq_true rfl)) dX0_betterGroup_31 ⟨Nat.le_refl _, Nat.le_refl _⟩) hP hD hS hA [3, 4, 5, 6, 7, 8] [0, 1, 2, 9, 10, 11, 12, 13, 14] [0, 1, 2, 9, 10, 11, 12, 13, 14, 3, 4, 5, 6, 7, 8] rfl rfl (by decide) (fun _ => rfl) (fun u_21 H locs hP hD hS hz => ?_)
    refine lv_aload_n hx hb dX0_betterGroup_34 rfl (lv_at hl 1 rfl) ?_
    refine va_get (D := D) (ci := 0) (v := .ref h_T) (C := RX0) (T := TX0) (N := 8) hx hb hts zin0 hown hK hP 0 rfl rfl 0 (by decide) (hts _ wm132) (fun _ h9 => h9) rfl dX0_betterGroup_35 ?_
    refine lv_iload_n hx hb dX0_betterGroup_38 rfl (lv_at hl 3 rfl) ?_
    obtain ⟨r_22, e_23, h⟩ := bd1_e h
    refine z_goi (ws' := []) (ret := r_22) (wc := (zTr cI (h_T) (q_T) (T))) (wn := fun u_24 => (zCh cI h_C q_C h_T h_LB h_LN c_kept c_keptCount c_pool c_left c_treated) ++ (zTr cI h_T q_T T) ++ (zWk cI h_LB q_LB LB) ++ (zWk cI h_LN q_LN LN)) (wr := ([0, 1, 2, 9, 10, 11, 12, 13, 14].filterMap (fun i => ((zCh cI h_C q_C h_T h_LB h_LN c_kept c_keptCount c_pool c_left c_treated) ++ (zTr cI h_T q_T T) ++ (zWk cI h_LB q_LB LB) ++ (zWk cI h_LN q_LN LN))[i]?))) (va_runV (As := [vI x2]) (rest := [vI r_19]) hF.1 (c_Tr_areaOf l D cI cZ cT h_T q_T T x2 H.size (r_22) e_23) (cwV 1 hts (zgV wm512 wm384 wm385 wm33 wm386) rfl rfl rfl (by decide +kernel) ⟨Nat.le_of_ble_eq_true rfl, Nat.le_of_ble_eq_true rfl⟩) ⟨zP.blind, va_recv hK (z_subP (ws' := (zTr cI (h_T) (q_T) (T))) hP [3, 4, 5, 6, 7, 8] rfl) (ci := 4) (q0 := 0) rfl rfl, zP.enter (z_subP (ws' := (zTr cI (h_T) (q_T) (T))) hP [3, 4, 5, 6, 7, 8] rfl) hK (hD.sub [3, 4, 5, 6, 7, 8] (by decide) rfl) hN⟩ rfl rfl hl.1 rfl (lv_room (Nat.le_of_ble_eq_true rfl)) dX0_betterGroup_39 ⟨Nat.le_refl _, Nat.le_refl _⟩) hP hD hS hA [3, 4, 5, 6, 7, 8] [0, 1, 2, 9, 10, 11, 12, 13, 14] [0, 1, 2, 9, 10, 11, 12, 13, 14, 3, 4, 5, 6, 7, 8] rfl rfl (by decide) (fun _ => rfl) (fun u_24 H locs hP hD hS hz => ?_)
    refine z_isub hx hb dX0_betterGroup_42 ?_
    refine lv_istore (lv' := [(4, vI (r_19 - r_22)), (0, .ref h_C), (1, vI x1), (2, vI x2), (3, vI x3)]) hx hb dX0_betterGroup_43 hl (by decide) rfl (fun ls hl => ?_)
    refine lv_iload hx hb dX0_betterGroup_45 (lv_at hl 0 rfl) ?_
    obtain ⟨g_25, h⟩ := gd_e h
    refine z_if_ne (tgt := 69) hx hb g_25 dX0_betterGroup_47 (by decide) (fun b_26 => ?_) (fun b_26 => ?_)
    · have h := it_n b_26 h
      refine lv_iload hx hb dX0_betterGroup_69 (lv_at hl 0 rfl) ?_
      refine z_if_gt (tgt := 78) hx hb g_25 dX0_betterGroup_71 (by decide) (fun b_27 => ?_) (fun b_27 => ?_)
      · have h := it_p b_27 h
        refine lv_iload_n hx hb dX0_betterGroup_78 rfl (lv_at hl 3 rfl) ?_
        obtain rfl := Option.some.inj h
        exact z_iret hx hb hr hlk (fun _ _ => 0) hP hD hS dX0_betterGroup_79
      · have h := it_n b_27 h
        refine lv_iload_n hx hb dX0_betterGroup_74 rfl (lv_at hl 2 rfl) ?_
        refine lv_goto (tgt := 79) hx hb dX0_betterGroup_75 (by decide) ?_
        obtain rfl := Option.some.inj h
        exact z_iret hx hb hr hlk (fun _ _ => 0) hP hD hS dX0_betterGroup_79
    · have h := it_p b_26 h
      refine lv_aload_n hx hb dX0_betterGroup_50 rfl (lv_at hl 1 rfl) ?_
      refine va_get (D := D) (ci := 0) (v := .ref h_T) (C := RX0) (T := TX0) (N := 8) hx hb hts zin0 hown hK hP 0 rfl rfl 0 (by decide) (hts _ wm132) (fun _ h9 => h9) rfl dX0_betterGroup_51 ?_
      refine lv_iload_n hx hb dX0_betterGroup_54 rfl (lv_at hl 2 rfl) ?_
      obtain ⟨r_28, e_29, h⟩ := bd1_e h
      refine z_goi (ws' := []) (ret := r_28) (wc := (zTr cI (h_T) (q_T) (T))) (wn := fun u_30 => (zCh cI h_C q_C h_T h_LB h_LN c_kept c_keptCount c_pool c_left c_treated) ++ (zTr cI h_T q_T T) ++ (zWk cI h_LB q_LB LB) ++ (zWk cI h_LN q_LN LN)) (wr := ([0, 1, 2, 9, 10, 11, 12, 13, 14].filterMap (fun i => ((zCh cI h_C q_C h_T h_LB h_LN c_kept c_keptCount c_pool c_left c_treated) ++ (zTr cI h_T q_T T) ++ (zWk cI h_LB q_LB LB) ++ (zWk cI h_LN q_LN LN))[i]?))) (va_runV (As := [vI x1]) (rest := []) hF.1 (c_Tr_sizeOf l D cI cZ cT h_T q_T T x1 H.size (r_28) e_29) (cwV 1 hts (zgV wm510 wm231 wm232 wm33 wm233) rfl rfl rfl (by decide +kernel) ⟨Nat.le_of_ble_eq_true rfl, Nat.le_of_ble_eq_true rfl⟩) ⟨zP.blind, va_recv hK (z_subP (ws' := (zTr cI (h_T) (q_T) (T))) hP [3, 4, 5, 6, 7, 8] rfl) (ci := 4) (q0 := 0) rfl rfl, zP.enter (z_subP (ws' := (zTr cI (h_T) (q_T) (T))) hP [3, 4, 5, 6, 7, 8] rfl) hK (hD.sub [3, 4, 5, 6, 7, 8] (by decide) rfl) hN⟩ rfl rfl hl.1 rfl (lv_room (Nat.le_of_ble_eq_true rfl)) dX0_betterGroup_55 ⟨Nat.le_refl _, Nat.le_refl _⟩) hP hD hS hA [3, 4, 5, 6, 7, 8] [0, 1, 2, 9, 10, 11, 12, 13, 14] [0, 1, 2, 9, 10, 11, 12, 13, 14, 3, 4, 5, 6, 7, 8] rfl rfl (by decide) (fun _ => rfl) (fun u_30 H locs hP hD hS hz => ?_)
      refine lv_aload_n hx hb dX0_betterGroup_58 rfl (lv_at hl 1 rfl) ?_
      refine va_get (D := D) (ci := 0) (v := .ref h_T) (C := RX0) (T := TX0) (N := 8) hx hb hts zin0 hown hK hP 0 rfl rfl 0 (by decide) (hts _ wm132) (fun _ h9 => h9) rfl dX0_betterGroup_59 ?_
      refine lv_iload_n hx hb dX0_betterGroup_62 rfl (lv_at hl 3 rfl) ?_
      obtain ⟨r_31, e_32, h⟩ := bd1_e h
      refine z_goi (ws' := []) (ret := r_31) (wc := (zTr cI (h_T) (q_T) (T))) (wn := fun u_33 => (zCh cI h_C q_C h_T h_LB h_LN c_kept c_keptCount c_pool c_left c_treated) ++ (zTr cI h_T q_T T) ++ (zWk cI h_LB q_LB LB) ++ (zWk cI h_LN q_LN LN)) (wr := ([0, 1, 2, 9, 10, 11, 12, 13, 14].filterMap (fun i => ((zCh cI h_C q_C h_T h_LB h_LN c_kept c_keptCount c_pool c_left c_treated) ++ (zTr cI h_T q_T T) ++ (zWk cI h_LB q_LB LB) ++ (zWk cI h_LN q_LN LN))[i]?))) (va_runV (As := [vI x2]) (rest := [vI r_28]) hF.1 (c_Tr_sizeOf l D cI cZ cT h_T q_T T x2 H.size (r_31) e_32) (cwV 1 hts (zgV wm510 wm231 wm232 wm33 wm233) rfl rfl rfl (by decide +kernel) ⟨Nat.le_of_ble_eq_true rfl, Nat.le_of_ble_eq_true rfl⟩) ⟨zP.blind, va_recv hK (z_subP (ws' := (zTr cI (h_T) (q_T) (T))) hP [3, 4, 5, 6, 7, 8] rfl) (ci := 4) (q0 := 0) rfl rfl, zP.enter (z_subP (ws' := (zTr cI (h_T) (q_T) (T))) hP [3, 4, 5, 6, 7, 8] rfl) hK (hD.sub [3, 4, 5, 6, 7, 8] (by decide) rfl) hN⟩ rfl rfl hl.1 rfl (lv_room (Nat.le_of_ble_eq_true rfl)) dX0_betterGroup_63 ⟨Nat.le_refl _, Nat.le_refl _⟩) hP hD hS hA [3, 4, 5, 6, 7, 8] [0, 1, 2, 9, 10, 11, 12, 13, 14] [0, 1, 2, 9, 10, 11, 12, 13, 14, 3, 4, 5, 6, 7, 8] rfl rfl (by decide) (fun _ => rfl) (fun u_33 H locs hP hD hS hz => ?_)
      refine z_isub hx hb dX0_betterGroup_66 ?_
      refine lv_istore (lv' := [(4, vI (r_28 - r_31)), (0, .ref h_C), (1, vI x1), (2, vI x2), (3, vI x3)]) hx hb dX0_betterGroup_67 hl (by decide) rfl (fun ls hl => ?_)
      refine lv_iload hx hb dX0_betterGroup_69 (lv_at hl 0 rfl) ?_
      obtain ⟨g_34, h⟩ := gd_e h
      refine z_if_gt (tgt := 78) hx hb g_34 dX0_betterGroup_71 (by decide) (fun b_35 => ?_) (fun b_35 => ?_)
      · have h := it_p b_35 h
        refine lv_iload_n hx hb dX0_betterGroup_78 rfl (lv_at hl 3 rfl) ?_
        obtain rfl := Option.some.inj h
        exact z_iret hx hb hr hlk (fun _ _ => 0) hP hD hS dX0_betterGroup_79
      · have h := it_n b_35 h
        refine lv_iload_n hx hb dX0_betterGroup_74 rfl (lv_at hl 2 rfl) ?_
        refine lv_goto (tgt := 79) hx hb dX0_betterGroup_75 (by decide) ?_
        obtain rfl := Option.some.inj h
        exact z_iret hx hb hr hlk (fun _ _ => 0) hP hD hS dX0_betterGroup_79
def f_Ch_giveTo_L40 (c_left : Int) (k : Int → (Nat → Int) → Option ((Nat → Int) × Int × TV)) : Nat → Int → (Nat → Int) → Option ((Nat → Int) × Int × TV)
  | 0, _, _ => none
  | n + 1, x3, c_pool =>
  gd (ck x3) <| gd (ck c_left) <| if x3 < c_left then (bd1 (f_Rt_at 6 c_pool (x3 + 1)) <| fun r_15 => bd1 (f_Rt_put 6 c_pool x3 r_15) <| fun c_pool_18 => f_Ch_giveTo_L40 c_left k n ((x3 + 1)) (c_pool_18)) else (k (x3) (c_pool))
def f_Ch_giveTo (c_pool : Nat → Int) (c_left : Int) (T : TV) (x1 : Int) (x2 : Int) : Option ((Nat → Int) × Int × TV) :=
  bd1 (f_Tr_sizeOf T x1) <| fun r_1 => bd1 (f_Rt_at 6 c_pool x2) <| fun r_4 => bd1 (f_Tr_addAt T x1 r_1 r_4) <| fun T_7 => gd (ck x2) <| f_Ch_giveTo_L40 ((c_left - 1)) (fun x3_21 c_pool_22 => some (c_pool_22, (c_left - 1), T_7)) FU ((max x2 0)) (c_pool)
abbrev rm_Ch_giveTo : Room := ({ frames := 3, cells := 0, slots := 0, locals := 82 } : Room)
set_option maxHeartbeats 4000000 in
set_option maxRecDepth 100000 in
theorem w_Ch_giveTo_L40 {p : Program} {l : Launch} {e : Env} {s : State} {m : MethodId} {args : Array Value} {below : List Frame} {meth : Method} {c : Code} {A : Nat → Prop} (D : va_G) (cI cZ cT : ClassId) (h_C : Nat) (q_C : Nat → Nat) (h_T : Nat) (h_LB : Nat) (h_LN : Nat) (q_T : Nat → Nat) (q_LB : Nat → Nat) (q_LN : Nat → Nat) (c_kept : Nat → Int) (c_keptCount : Int) (c_left : Int) (c_treated : Int64) (T : TV) (LB : KV) (LN : KV) (res : (Nat → Int) × Int × TV) (k : Int → (Nat → Int) → Option ((Nat → Int) × Int × TV)) (hF : zF p m c cX0_giveTo 4 s args yX0_giveTo.cls meth none yX0_giveTo.name A D (zt cI cZ cT))
    (hk : ∀ (x3 : Int) (c_pool : Nat → Int) (H : Heap) (locs : List Loc) (ls : Array Slot), k x3 c_pool = some res → va_P D vwCl ((zCh cI h_C q_C h_T h_LB h_LN c_kept c_keptCount c_pool c_left c_treated) ++ (zTr cI h_T q_T T) ++ (zWk cI h_LB q_LB LB) ++ (zWk cI h_LN q_LN LN)) H → va_D A ((zCh cI h_C q_C h_T h_LB h_LN c_kept c_keptCount c_pool c_left c_treated) ++ (zTr cI h_T q_T T) ++ (zWk cI h_LB q_LB LB) ++ (zWk cI h_LN q_LN LN)) → va_S A s.heap H locs → lv_has ls 4 [] → W p l e rm_Ch_giveTo s m args below meth c H locs 0 0 (MQ below (zQv D (fun u => (zCh cI h_C q_C h_T h_LB h_LN c_kept c_keptCount (res.1) (res.2.1) c_treated) ++ (zTr cI h_T q_T (res.2.2)) ++ (zWk cI h_LB q_LB LB) ++ (zWk cI h_LN q_LN LN)) A) args s 0 0 A) (F0 m 72 ls [])) :
    ∀ (n : Nat) (x3 : Int) (c_pool : Nat → Int) (H : Heap) (locs : List Loc) (ls : Array Slot), f_Ch_giveTo_L40 c_left k n x3 c_pool = some res → va_P D vwCl ((zCh cI h_C q_C h_T h_LB h_LN c_kept c_keptCount c_pool c_left c_treated) ++ (zTr cI h_T q_T T) ++ (zWk cI h_LB q_LB LB) ++ (zWk cI h_LN q_LN LN)) H → va_D A ((zCh cI h_C q_C h_T h_LB h_LN c_kept c_keptCount c_pool c_left c_treated) ++ (zTr cI h_T q_T T) ++ (zWk cI h_LB q_LB LB) ++ (zWk cI h_LN q_LN LN)) → va_S A s.heap H locs → lv_has ls 4 [(0, .ref h_C), (3, vI x3)] → W p l e rm_Ch_giveTo s m args below meth c H locs 0 0 (MQ below (zQv D (fun u => (zCh cI h_C q_C h_T h_LB h_LN c_kept c_keptCount (res.1) (res.2.1) c_treated) ++ (zTr cI h_T q_T (res.2.2)) ++ (zWk cI h_LB q_LB LB) ++ (zWk cI h_LN q_LN LN)) A) args s 0 0 A) (F0 m 40 ls []) := by
  have hx := hF.1.1
  have hb := hF.1.2.1
  have hml := hF.1.2.2.1
  have hown : s.vm.findClass "RectangleTree$Changes" = some m.cls := hF.1.2.2.2.1
  have hts := hF.1.2.2.2.2
  have hr := hF.2.1
  have hlk := hF.2.2.1
  have hK := hF.2.2.2.2.1
  have hN := hF.2.2.2.2.2.1
  have hA := hF.2.2.2.2.2.2
  intro n
  induction n with
  | zero => intro x3 c_pool H locs ls h; cases h
  | succ n ih =>
    intro x3 c_pool H locs ls h hP hD hS hl
    rw [f_Ch_giveTo_L40] at h
    refine lv_iload_n hx hb dX0_giveTo_40 rfl (lv_at hl 1 rfl) ?_
    refine lv_aload_n hx hb dX0_giveTo_41 rfl (lv_at hl 0 rfl) ?_
    refine va_get (D := D) (ci := 0) (v := vI c_left) (C := RX0) (T := TX0) (N := 8) hx hb hts zin0 hown hK hP 0 rfl rfl 4 (by decide) (hts _ wm136) (fun _ h9 => h9) rfl dX0_giveTo_42 ?_
    obtain ⟨g_12, h⟩ := gd_e h
    obtain ⟨g_13, h⟩ := gd_e h
    refine z_icmp_ge (tgt := 72) hx hb g_12 g_13 dX0_giveTo_45 (by decide) (fun b_14 => ?_) (fun b_14 => ?_)
    · have h := it_n b_14 h
      exact hk (x3) (c_pool) H locs ls h hP hD hS (lv_sub hl [] rfl)
    · have h := it_p b_14 h
      refine lv_aload_n hx hb dX0_giveTo_48 rfl (lv_at hl 0 rfl) ?_
      refine va_get (D := D) (ci := 0) (v := .ref (q_C 1)) (C := RX0) (T := TX0) (N := 8) hx hb hts zin0 hown hK hP 0 rfl rfl 3 (by decide) (hts _ wm135) (fun _ h9 => h9) rfl dX0_giveTo_49 ?_
      refine lv_iload_n hx hb dX0_giveTo_52 rfl (lv_at hl 1 rfl) ?_
      refine lv_aload_n hx hb dX0_giveTo_53 rfl (lv_at hl 0 rfl) ?_
      refine va_get (D := D) (ci := 0) (v := .ref (q_C 1)) (C := RX0) (T := TX0) (N := 8) hx hb hts zin0 hown hK hP 0 rfl rfl 3 (by decide) (hts _ wm135) (fun _ h9 => h9) rfl dX0_giveTo_54 ?_
      refine lv_iload_n hx hb dX0_giveTo_57 rfl (lv_at hl 1 rfl) ?_
      refine lv_iconst (v := Int32.ofInt 1) hx hb dX0_giveTo_58 rfl ?_
      refine z_iadd hx hb dX0_giveTo_59 ?_
      obtain ⟨r_15, e_16, h⟩ := bd1_e h
      refine z_goi (ws' := []) (ret := r_15) (wc := (zAr cI ((q_C 1)) (6) (c_pool))) (wn := fun u_17 => (zCh cI h_C q_C h_T h_LB h_LN c_kept c_keptCount c_pool c_left c_treated) ++ (zTr cI h_T q_T T) ++ (zWk cI h_LB q_LB LB) ++ (zWk cI h_LN q_LN LN)) (wr := ([0, 1, 3, 4, 5, 6, 7, 8, 9, 10, 11, 12, 13, 14].filterMap (fun i => ((zCh cI h_C q_C h_T h_LB h_LN c_kept c_keptCount c_pool c_left c_treated) ++ (zTr cI h_T q_T T) ++ (zWk cI h_LB q_LB LB) ++ (zWk cI h_LN q_LN LN))[i]?))) (va_runSN (As := [.ref (q_C 1), vI (x3 + 1)]) (rest := [vI x3, .ref (q_C 1)]) hF.1 (c_Rt_at l D cI cZ cT (q_C 1) 6 c_pool (x3 + 1) H.size (r_15) e_16) ⟨va_cnB 2 hts (zW_good wm229) rfl rfl rfl (hN.at 8 rfl) (hts _ wm32) (by decide +kernel) ⟨Nat.le_of_ble_eq_true rfl, Nat.le_of_ble_eq_true rfl⟩, hts _ wm228, trivial⟩ ⟨zP.blind, zP.enter (z_subP (ws' := (zAr cI ((q_C 1)) (6) (c_pool))) hP [2] rfl) hK (hD.sub [2] (by decide) rfl) hN⟩ rfl rfl hl.1 rfl (lv_room (Nat.le_of_ble_eq_true rfl)) dX0_giveTo_60 ⟨Nat.le_refl _, Nat.le_refl _⟩) hP hD hS hA [2] [0, 1, 3, 4, 5, 6, 7, 8, 9, 10, 11, 12, 13, 14] [0, 1, 14, 2, 3, 4, 5, 6, 7, 8, 9, 10, 11, 12, 13] rfl rfl (by decide) (fun _ => rfl) (fun u_17 H locs hP hD hS hz => ?_)
      obtain ⟨c_pool_18, e_19, h⟩ := bd1_e h
      refine z_gov (wc := (zAr cI ((q_C 1)) (6) (c_pool))) (wn := fun u_20 => (zCh cI h_C q_C h_T h_LB h_LN c_kept c_keptCount c_pool_18 c_left c_treated) ++ (zTr cI h_T q_T T) ++ (zWk cI h_LB q_LB LB) ++ (zWk cI h_LN q_LN LN)) (wr := ([0, 1, 3, 4, 5, 6, 7, 8, 9, 10, 11, 12, 13, 14].filterMap (fun i => ((zCh cI h_C q_C h_T h_LB h_LN c_kept c_keptCount c_pool c_left c_treated) ++ (zTr cI h_T q_T T) ++ (zWk cI h_LB q_LB LB) ++ (zWk cI h_LN q_LN LN))[i]?))) (va_runSN (As := [.ref (q_C 1), vI x3, vI r_15]) (rest := []) hF.1 (c_Rt_put l D cI cZ cT (q_C 1) 6 c_pool x3 r_15 H.size (c_pool_18) e_19) ⟨va_cnB 3 hts (zW_good wm61) rfl rfl rfl (hN.at 7 rfl) (hts _ wm32) (by decide +kernel) ⟨Nat.le_of_ble_eq_true rfl, Nat.le_of_ble_eq_true rfl⟩, hts _ wm60, trivial⟩ ⟨zP.blind, zP.enter (z_subP (ws' := (zAr cI ((q_C 1)) (6) (c_pool))) hP [2] rfl) hK (hD.sub [2] (by decide) rfl) hN⟩ rfl rfl hl.1 rfl (lv_room (Nat.le_of_ble_eq_true rfl)) dX0_giveTo_63 ⟨Nat.le_refl _, Nat.le_refl _⟩) hP hD hS hA [2] [0, 1, 3, 4, 5, 6, 7, 8, 9, 10, 11, 12, 13, 14] [0, 1, 14, 2, 3, 4, 5, 6, 7, 8, 9, 10, 11, 12, 13] rfl rfl (by decide) (fun _ => rfl) (fun u_20 H locs hP hD hS hz => ?_)
      refine lv_iinc (v := Int32.ofInt (x3 + 1)) (lv' := [(3, vI (x3 + 1)), (0, .ref h_C)]) hx hb dX0_giveTo_66 hl (k := 1) rfl (z_inc _ _) (by decide) rfl (fun ls hl => ?_)
      refine lv_goto (tgt := 40) hx hb dX0_giveTo_69 (by decide) ?_
      exact ih ((x3 + 1)) (c_pool_18) H locs ls h hP hD hS (lv_sub hl [1, 0] rfl)
set_option maxHeartbeats 4000000 in
set_option maxRecDepth 100000 in
theorem c_Ch_giveTo (l : Launch) (D : va_G) (cI cZ cT : ClassId) (h_C : Nat) (q_C : Nat → Nat) (h_T : Nat) (h_LB : Nat) (h_LN : Nat) (q_T : Nat → Nat) (q_LB : Nat → Nat) (q_LN : Nat → Nat) (c_kept : Nat → Int) (c_keptCount : Int) (c_pool : Nat → Int) (c_left : Int) (c_treated : Int64) (T : TV) (LB : KV) (LN : KV) (x1 : Int) (x2 : Int) (sz : Nat) (res : (Nat → Int) × Int × TV) (h : f_Ch_giveTo c_pool c_left T x1 x2 = some res) : zMv l yX0_giveTo cX0_giveTo 4 rm_Ch_giveTo D (zt cI cZ cT) [.ref h_C, vI x1, vI x2] ((zCh cI h_C q_C h_T h_LB h_LN c_kept c_keptCount c_pool c_left c_treated) ++ (zTr cI h_T q_T T) ++ (zWk cI h_LB q_LB LB) ++ (zWk cI h_LN q_LN LN)) sz (fun u => (zCh cI h_C q_C h_T h_LB h_LN c_kept c_keptCount (res.1) (res.2.1) c_treated) ++ (zTr cI h_T q_T (res.2.2)) ++ (zWk cI h_LB q_LB LB) ++ (zWk cI h_LN q_LN LN)) 0 0 := by
  refine z_enth (Qc := zQv D (fun u => (zCh cI h_C q_C h_T h_LB h_LN c_kept c_keptCount (res.1) (res.2.1) c_treated) ++ (zTr cI h_T q_T (res.2.2)) ++ (zWk cI h_LB q_LB LB) ++ (zWk cI h_LN q_LN LN))) (by decide) (Nat.le_of_ble_eq_true rfl) (fun p e s m args below meth c A ls H locs hF hP hD hS hl => ?_)
  have hx := hF.1.1
  have hb := hF.1.2.1
  have hml := hF.1.2.2.1
  have hown : s.vm.findClass "RectangleTree$Changes" = some m.cls := hF.1.2.2.2.1
  have hts := hF.1.2.2.2.2
  have hr := hF.2.1
  have hlk := hF.2.2.1
  have hK := hF.2.2.2.2.1
  have hN := hF.2.2.2.2.2.1
  have hA := hF.2.2.2.2.2.2
  unfold f_Ch_giveTo at h
  refine lv_aload_n hx hb dX0_giveTo_0 rfl (lv_at hl 0 rfl) ?_
  refine va_get (D := D) (ci := 0) (v := .ref h_T) (C := RX0) (T := TX0) (N := 8) hx hb hts zin0 hown hK hP 0 rfl rfl 0 (by decide) (hts _ wm132) (fun _ h9 => h9) rfl dX0_giveTo_1 ?_
  refine lv_iload_n hx hb dX0_giveTo_4 rfl (lv_at hl 1 rfl) ?_
  refine lv_aload_n hx hb dX0_giveTo_5 rfl (lv_at hl 0 rfl) ?_
  refine va_get (D := D) (ci := 0) (v := .ref h_T) (C := RX0) (T := TX0) (N := 8) hx hb hts zin0 hown hK hP 0 rfl rfl 0 (by decide) (hts _ wm132) (fun _ h9 => h9) rfl dX0_giveTo_6 ?_
  refine lv_iload_n hx hb dX0_giveTo_9 rfl (lv_at hl 1 rfl) ?_
  obtain ⟨r_1, e_2, h⟩ := bd1_e h
  refine z_goi (ws' := []) (ret := r_1) (wc := (zTr cI (h_T) (q_T) (T))) (wn := fun u_3 => (zCh cI h_C q_C h_T h_LB h_LN c_kept c_keptCount c_pool c_left c_treated) ++ (zTr cI h_T q_T T) ++ (zWk cI h_LB q_LB LB) ++ (zWk cI h_LN q_LN LN)) (wr := ([0, 1, 2, 9, 10, 11, 12, 13, 14].filterMap (fun i => ((zCh cI h_C q_C h_T h_LB h_LN c_kept c_keptCount c_pool c_left c_treated) ++ (zTr cI h_T q_T T) ++ (zWk cI h_LB q_LB LB) ++ (zWk cI h_LN q_LN LN))[i]?))) (va_runV (As := [vI x1]) (rest := [vI x1, .ref h_T]) hF.1 (c_Tr_sizeOf l D cI cZ cT h_T q_T T x1 H.size (r_1) e_2) (cwV 1 hts (zgV wm510 wm231 wm232 wm33 wm233) rfl rfl rfl (by decide +kernel) ⟨Nat.le_of_ble_eq_true rfl, Nat.le_of_ble_eq_true rfl⟩) ⟨zP.blind, va_recv hK (z_subP (ws' := (zTr cI (h_T) (q_T) (T))) hP [3, 4, 5, 6, 7, 8] rfl) (ci := 4) (q0 := 0) rfl rfl, zP.enter (z_subP (ws' := (zTr cI (h_T) (q_T) (T))) hP [3, 4, 5, 6, 7, 8] rfl) hK (hD.sub [3, 4, 5, 6, 7, 8] (by decide) rfl) hN⟩ rfl rfl hl.1 rfl (lv_room (Nat.le_of_ble_eq_true rfl)) dX0_giveTo_10 ⟨Nat.le_refl _, Nat.le_refl _⟩) hP hD hS hA [3, 4, 5, 6, 7, 8] [0, 1, 2, 9, 10, 11, 12, 13, 14] [0, 1, 2, 9, 10, 11, 12, 13, 14, 3, 4, 5, 6, 7, 8] rfl rfl (by decide) (fun _ => rfl) (fun u_3 H locs hP hD hS hz => ?_)
  refine lv_aload_n hx hb dX0_giveTo_13 rfl (lv_at hl 0 rfl) ?_
  refine va_get (D := D) (ci := 0) (v := .ref (q_C 1)) (C := RX0) (T := TX0) (N := 8) hx hb hts zin0 hown hK hP 0 rfl rfl 3 (by decide) (hts _ wm135) (fun _ h9 => h9) rfl dX0_giveTo_14 ?_
  refine lv_iload_n hx hb dX0_giveTo_17 rfl (lv_at hl 2 rfl) ?_
  obtain ⟨r_4, e_5, h⟩ := bd1_e h
  refine z_goi (ws' := []) (ret := r_4) (wc := (zAr cI ((q_C 1)) (6) (c_pool))) (wn := fun u_6 => (zCh cI h_C q_C h_T h_LB h_LN c_kept c_keptCount c_pool c_left c_treated) ++ (zTr cI h_T q_T T) ++ (zWk cI h_LB q_LB LB) ++ (zWk cI h_LN q_LN LN)) (wr := ([0, 1, 3, 4, 5, 6, 7, 8, 9, 10, 11, 12, 13, 14].filterMap (fun i => ((zCh cI h_C q_C h_T h_LB h_LN c_kept c_keptCount c_pool c_left c_treated) ++ (zTr cI h_T q_T T) ++ (zWk cI h_LB q_LB LB) ++ (zWk cI h_LN q_LN LN))[i]?))) (va_runSN (As := [.ref (q_C 1), vI x2]) (rest := [vI r_1, vI x1, .ref h_T]) hF.1 (c_Rt_at l D cI cZ cT (q_C 1) 6 c_pool x2 H.size (r_4) e_5) ⟨va_cnB 2 hts (zW_good wm229) rfl rfl rfl (hN.at 8 rfl) (hts _ wm32) (by decide +kernel) ⟨Nat.le_of_ble_eq_true rfl, Nat.le_of_ble_eq_true rfl⟩, hts _ wm228, trivial⟩ ⟨zP.blind, zP.enter (z_subP (ws' := (zAr cI ((q_C 1)) (6) (c_pool))) hP [2] rfl) hK (hD.sub [2] (by decide) rfl) hN⟩ rfl rfl hl.1 rfl (lv_room (Nat.le_of_ble_eq_true rfl)) dX0_giveTo_18 ⟨Nat.le_refl _, Nat.le_refl _⟩) hP hD hS hA [2] [0, 1, 3, 4, 5, 6, 7, 8, 9, 10, 11, 12, 13, 14] [0, 1, 14, 2, 3, 4, 5, 6, 7, 8, 9, 10, 11, 12, 13] rfl rfl (by decide) (fun _ => rfl) (fun u_6 H locs hP hD hS hz => ?_)
  obtain ⟨T_7, e_8, h⟩ := bd1_e h
  refine z_gov (wc := (zTr cI (h_T) (q_T) (T))) (wn := fun u_9 => (zCh cI h_C q_C h_T h_LB h_LN c_kept c_keptCount c_pool c_left c_treated) ++ (zTr cI h_T q_T T_7) ++ (zWk cI h_LB q_LB LB) ++ (zWk cI h_LN q_LN LN)) (wr := ([0, 1, 2, 9, 10, 11, 12, 13, 14].filterMap (fun i => ((zCh cI h_C q_C h_T h_LB h_LN c_kept c_keptCount c_pool c_left c_treated) ++ (zTr cI h_T q_T T) ++ (zWk cI h_LB q_LB LB) ++ (zWk cI h_LN q_LN LN))[i]?))) (va_runV (As := [vI x1, vI r_1, vI r_4]) (rest := []) hF.1 (c_Tr_addAt l D cI cZ cT h_T q_T T x1 r_1 r_4 H.size (T_7) e_8) (cwV 3 hts (zgV wm517 wm518 wm519 wm33 wm520) rfl rfl rfl (by decide +kernel) ⟨Nat.le_of_ble_eq_true rfl, Nat.le_of_ble_eq_true rfl⟩) ⟨zP.blind, va_recv hK (z_subP (ws' := (zTr cI (h_T) (q_T) (T))) hP [3, 4, 5, 6, 7, 8] rfl) (ci := 4) (q0 := 0) rfl rfl, zP.enter (z_subP (ws' := (zTr cI (h_T) (q_T) (T))) hP [3, 4, 5, 6, 7, 8] rfl) hK (hD.sub [3, 4, 5, 6, 7, 8] (by decide) rfl) hN⟩ rfl rfl hl.1 rfl (lv_room (Nat.le_of_ble_eq_true rfl)) dX0_giveTo_21 ⟨Nat.le_refl _, Nat.le_refl _⟩) hP hD hS hA [3, 4, 5, 6, 7, 8] [0, 1, 2, 9, 10, 11, 12, 13, 14] [0, 1, 2, 9, 10, 11, 12, 13, 14, 3, 4, 5, 6, 7, 8] rfl rfl (by decide) (fun _ => rfl) (fun u_9 H locs hP hD hS hz => ?_)
  refine lv_aload_n hx hb dX0_giveTo_24 rfl (lv_at hl 0 rfl) ?_
  refine lv_dup hx hb dX0_giveTo_25 rfl ?_
  refine va_get (D := D) (ci := 0) (v := vI c_left) (C := RX0) (T := TX0) (N := 8) hx hb hts zin0 hown hK hP 0 rfl rfl 4 (by decide) (hts _ wm136) (fun _ h9 => h9) rfl dX0_giveTo_26 ?_
  refine lv_iconst (v := Int32.ofInt 1) hx hb dX0_giveTo_29 rfl ?_
  refine z_isub hx hb dX0_giveTo_30 ?_
  refine va_put (D := D) (ci := 0) (v := vI (c_left - 1)) (ty := .int) (C := RX0) (T := TX0) (N := 8) hx hb hts zin0 tyX0 tyX0_ok nmX0 hown hK hP hD hS 0 rfl rfl 4 (by decide) (hts _ wm136) (fun _ h9 => h9) rfl (by decide +kernel) rfl rfl (Nat.le_of_ble_eq_true rfl) dX0_giveTo_31 (fun H locs hP hD hS => ?_)
  replace hP : va_P D vwCl ((zCh cI h_C q_C h_T h_LB h_LN c_kept c_keptCount c_pool (c_left - 1) c_treated) ++ (zTr cI h_T q_T T_7) ++ (zWk cI h_LB q_LB LB) ++ (zWk cI h_LN q_LN LN)) H := hP
  replace hD : va_D A ((zCh cI h_C q_C h_T h_LB h_LN c_kept c_keptCount c_pool (c_left - 1) c_treated) ++ (zTr cI h_T q_T T_7) ++ (zWk cI h_LB q_LB LB) ++ (zWk cI h_LN q_LN LN)) := hD
  refine lv_iload_n hx hb dX0_giveTo_34 rfl (lv_at hl 2 rfl) ?_
  refine lv_iconst (v := Int32.ofInt 0) hx hb dX0_giveTo_35 rfl ?_
  obtain ⟨g_10, h⟩ := gd_e h
  refine z_mmax (rest := []) hx hb (by rw [hml]; exact hl.1.symm) hown (hts _ wm593) (hts _ wm404) (hts _ wm40) (hts _ wm405) (Nat.le_of_ble_eq_true rfl) (Nat.le_of_ble_eq_true rfl) (Nat.le_refl _) (Nat.le_refl _) g_10 (by decide) dX0_giveTo_36 ?_
  have g_11 : ck (max x2 0) := ⟨by have := And.intro (show ck x2 from g_10) (show ck 0 from (by decide)); omega, by have := And.intro (show ck x2 from g_10) (show ck 0 from (by decide)); omega⟩
  refine lv_istore_n (lv' := [(3, vI (max x2 0)), (0, .ref h_C), (1, vI x1), (2, vI x2)]) hx hb dX0_giveTo_39 rfl hl (by decide) rfl (fun ls hl => ?_)
  refine w_Ch_giveTo_L40 D cI cZ cT (h_C) (q_C) (h_T) (h_LB) (h_LN) (q_T) (q_LB) (q_LN) (c_kept) (c_keptCount) ((c_left - 1)) (c_treated) (T_7) (LB) (LN) _ _ hF (fun x3_21 c_pool_22 H locs ls h hP hD hS hl => ?_) _ ((max x2 0)) (c_pool) _ _ _ h hP hD hS (lv_sub hl [1, 0] rfl)
  obtain rfl := Option.some.inj h
  exact z_vret hx hb hr hlk (fun _ _ => 0) hP hD hS dX0_giveTo_72
def f_Ch_giveAllTo_L2 (c_pool : Nat → Int) (c_left : Int) (x1 : Int) (k : Int → TV → Option (Int × TV)) : Nat → Int → TV → Option (Int × TV)
  | 0, _, _ => none
  | n + 1, x2, T =>
  gd (ck x2) <| gd (ck c_left) <| if x2 < c_left then (bd1 (f_Tr_sizeOf T x1) <| fun r_4 => bd1 (f_Rt_at 6 c_pool x2) <| fun r_7 => bd1 (f_Tr_addAt T x1 r_4 r_7) <| fun T_10 => f_Ch_giveAllTo_L2 c_pool c_left x1 k n ((x2 + 1)) (T_10)) else (k (x2) (T))
def f_Ch_giveAllTo (c_pool : Nat → Int) (c_left : Int) (T : TV) (x1 : Int) : Option (Int × TV) :=
  f_Ch_giveAllTo_L2 (c_pool) (c_left) (x1) (fun x2_13 T_14 => some (0, T_14)) FU (0) (T)
abbrev rm_Ch_giveAllTo : Room := ({ frames := 3, cells := 0, slots := 0, locals := 82 } : Room)
set_option maxHeartbeats 4000000 in
set_option maxRecDepth 100000 in
theorem w_Ch_giveAllTo_L2 {p : Program} {l : Launch} {e : Env} {s : State} {m : MethodId} {args : Array Value} {below : List Frame} {meth : Method} {c : Code} {A : Nat → Prop} (D : va_G) (cI cZ cT : ClassId) (h_C : Nat) (q_C : Nat → Nat) (h_T : Nat) (h_LB : Nat) (h_LN : Nat) (q_T : Nat → Nat) (q_LB : Nat → Nat) (q_LN : Nat → Nat) (c_kept : Nat → Int) (c_keptCount : Int) (c_pool : Nat → Int) (c_left : Int) (c_treated : Int64) (LB : KV) (LN : KV) (x1 : Int) (res : Int × TV) (k : Int → TV → Option (Int × TV)) (hF : zF p m c cX0_giveAllTo 3 s args yX0_giveAllTo.cls meth none yX0_giveAllTo.name A D (zt cI cZ cT))
    (hk : ∀ (x2 : Int) (T : TV) (H : Heap) (locs : List Loc) (ls : Array Slot), k x2 T = some res → va_P D vwCl ((zCh cI h_C q_C h_T h_LB h_LN c_kept c_keptCount c_pool c_left c_treated) ++ (zTr cI h_T q_T T) ++ (zWk cI h_LB q_LB LB) ++ (zWk cI h_LN q_LN LN)) H → va_D A ((zCh cI h_C q_C h_T h_LB h_LN c_kept c_keptCount c_pool c_left c_treated) ++ (zTr cI h_T q_T T) ++ (zWk cI h_LB q_LB LB) ++ (zWk cI h_LN q_LN LN)) → va_S A s.heap H locs → lv_has ls 3 [(0, .ref h_C)] → W p l e rm_Ch_giveAllTo s m args below meth c H locs 0 0 (MQ below (zQv D (fun u => (zCh cI h_C q_C h_T h_LB h_LN c_kept c_keptCount c_pool (res.1) c_treated) ++ (zTr cI h_T q_T (res.2)) ++ (zWk cI h_LB q_LB LB) ++ (zWk cI h_LN q_LN LN)) A) args s 0 0 A) (F0 m 40 ls [])) :
    ∀ (n : Nat) (x2 : Int) (T : TV) (H : Heap) (locs : List Loc) (ls : Array Slot), f_Ch_giveAllTo_L2 c_pool c_left x1 k n x2 T = some res → va_P D vwCl ((zCh cI h_C q_C h_T h_LB h_LN c_kept c_keptCount c_pool c_left c_treated) ++ (zTr cI h_T q_T T) ++ (zWk cI h_LB q_LB LB) ++ (zWk cI h_LN q_LN LN)) H → va_D A ((zCh cI h_C q_C h_T h_LB h_LN c_kept c_keptCount c_pool c_left c_treated) ++ (zTr cI h_T q_T T) ++ (zWk cI h_LB q_LB LB) ++ (zWk cI h_LN q_LN LN)) → va_S A s.heap H locs → lv_has ls 3 [(0, .ref h_C), (1, vI x1), (2, vI x2)] → W p l e rm_Ch_giveAllTo s m args below meth c H locs 0 0 (MQ below (zQv D (fun u => (zCh cI h_C q_C h_T h_LB h_LN c_kept c_keptCount c_pool (res.1) c_treated) ++ (zTr cI h_T q_T (res.2)) ++ (zWk cI h_LB q_LB LB) ++ (zWk cI h_LN q_LN LN)) A) args s 0 0 A) (F0 m 2 ls []) := by
  have hx := hF.1.1
  have hb := hF.1.2.1
  have hml := hF.1.2.2.1
  have hown : s.vm.findClass "RectangleTree$Changes" = some m.cls := hF.1.2.2.2.1
  have hts := hF.1.2.2.2.2
  have hr := hF.2.1
  have hlk := hF.2.2.1
  have hK := hF.2.2.2.2.1
  have hN := hF.2.2.2.2.2.1
  have hA := hF.2.2.2.2.2.2
  intro n
  induction n with
  | zero => intro x2 T H locs ls h; cases h
  | succ n ih =>
    intro x2 T H locs ls h hP hD hS hl
    rw [f_Ch_giveAllTo_L2] at h
    refine lv_iload_n hx hb dX0_giveAllTo_2 rfl (lv_at hl 2 rfl) ?_
    refine lv_aload_n hx hb dX0_giveAllTo_3 rfl (lv_at hl 0 rfl) ?_
    refine va_get (D := D) (ci := 0) (v := vI c_left) (C := RX0) (T := TX0) (N := 8) hx hb hts zin0 hown hK hP 0 rfl rfl 4 (by decide) (hts _ wm136) (fun _ h9 => h9) rfl dX0_giveAllTo_4 ?_
    obtain ⟨g_1, h⟩ := gd_e h
    obtain ⟨g_2, h⟩ := gd_e h
    refine z_icmp_ge (tgt := 40) hx hb g_1 g_2 dX0_giveAllTo_7 (by decide) (fun b_3 => ?_) (fun b_3 => ?_)
    · have h := it_n b_3 h
      exact hk (x2) (T) H locs ls h hP hD hS (lv_sub hl [0] rfl)
    · have h := it_p b_3 h
      refine lv_aload_n hx hb dX0_giveAllTo_10 rfl (lv_at hl 0 rfl) ?_
      refine va_get (D := D) (ci := 0) (v := .ref h_T) (C := RX0) (T := TX0) (N := 8) hx hb hts zin0 hown hK hP 0 rfl rfl 0 (by decide) (hts _ wm132) (fun _ h9 => h9) rfl dX0_giveAllTo_11 ?_
      refine lv_iload_n hx hb dX0_giveAllTo_14 rfl (lv_at hl 1 rfl) ?_
      refine lv_aload_n hx hb dX0_giveAllTo_15 rfl (lv_at hl 0 rfl) ?_
      refine va_get (D := D) (ci := 0) (v := .ref h_T) (C := RX0) (T := TX0) (N := 8) hx hb hts zin0 hown hK hP 0 rfl rfl 0 (by decide) (hts _ wm132) (fun _ h9 => h9) rfl dX0_giveAllTo_16 ?_
      refine lv_iload_n hx hb dX0_giveAllTo_19 rfl (lv_at hl 1 rfl) ?_
      obtain ⟨r_4, e_5, h⟩ := bd1_e h
      refine z_goi (ws' := []) (ret := r_4) (wc := (zTr cI (h_T) (q_T) (T))) (wn := fun u_6 => (zCh cI h_C q_C h_T h_LB h_LN c_kept c_keptCount c_pool c_left c_treated) ++ (zTr cI h_T q_T T) ++ (zWk cI h_LB q_LB LB) ++ (zWk cI h_LN q_LN LN)) (wr := ([0, 1, 2, 9, 10, 11, 12, 13, 14].filterMap (fun i => ((zCh cI h_C q_C h_T h_LB h_LN c_kept c_keptCount c_pool c_left c_treated) ++ (zTr cI h_T q_T T) ++ (zWk cI h_LB q_LB LB) ++ (zWk cI h_LN q_LN LN))[i]?))) (va_runV (As := [vI x1]) (rest := [vI x1, .ref h_T]) hF.1 (c_Tr_sizeOf l D cI cZ cT h_T q_T T x1 H.size (r_4) e_5) (cwV 1 hts (zgV wm510 wm231 wm232 wm33 wm233) rfl rfl rfl (by decide +kernel) ⟨Nat.le_of_ble_eq_true rfl, Nat.le_of_ble_eq_true rfl⟩) ⟨zP.blind, va_recv hK (z_subP (ws' := (zTr cI (h_T) (q_T) (T))) hP [3, 4, 5, 6, 7, 8] rfl) (ci := 4) (q0 := 0) rfl rfl, zP.enter (z_subP (ws' := (zTr cI (h_T) (q_T) (T))) hP [3, 4, 5, 6, 7, 8] rfl) hK (hD.sub [3, 4, 5, 6, 7, 8] (by decide) rfl) hN⟩ rfl rfl hl.1 rfl (lv_room (Nat.le_of_ble_eq_true rfl)) dX0_giveAllTo_20 ⟨Nat.le_refl _, Nat.le_refl _⟩) hP hD hS hA [3, 4, 5, 6, 7, 8] [0, 1, 2, 9, 10, 11, 12, 13, 14] [0, 1, 2, 9, 10, 11, 12, 13, 14, 3, 4, 5, 6, 7, 8] rfl rfl (by decide) (fun _ => rfl) (fun u_6 H locs hP hD hS hz => ?_)
      refine lv_aload_n hx hb dX0_giveAllTo_23 rfl (lv_at hl 0 rfl) ?_
      refine va_get (D := D) (ci := 0) (v := .ref (q_C 1)) (C := RX0) (T := TX0) (N := 8) hx hb hts zin0 hown hK hP 0 rfl rfl 3 (by decide) (hts _ wm135) (fun _ h9 => h9) rfl dX0_giveAllTo_24 ?_
      refine lv_iload_n hx hb dX0_giveAllTo_27 rfl (lv_at hl 2 rfl) ?_
      obtain ⟨r_7, e_8, h⟩ := bd1_e h
      refine z_goi (ws' := []) (ret := r_7) (wc := (zAr cI ((q_C 1)) (6) (c_pool))) (wn := fun u_9 => (zCh cI h_C q_C h_T h_LB h_LN c_kept c_keptCount c_pool c_left c_treated) ++ (zTr cI h_T q_T T) ++ (zWk cI h_LB q_LB LB) ++ (zWk cI h_LN q_LN LN)) (wr := ([0, 1, 3, 4, 5, 6, 7, 8, 9, 10, 11, 12, 13, 14].filterMap (fun i => ((zCh cI h_C q_C h_T h_LB h_LN c_kept c_keptCount c_pool c_left c_treated) ++ (zTr cI h_T q_T T) ++ (zWk cI h_LB q_LB LB) ++ (zWk cI h_LN q_LN LN))[i]?))) (va_runSN (As := [.ref (q_C 1), vI x2]) (rest := [vI r_4, vI x1, .ref h_T]) hF.1 (c_Rt_at l D cI cZ cT (q_C 1) 6 c_pool x2 H.size (r_7) e_8) ⟨va_cnB 2 hts (zW_good wm229) rfl rfl rfl (hN.at 8 rfl) (hts _ wm32) (by decide +kernel) ⟨Nat.le_of_ble_eq_true rfl, Nat.le_of_ble_eq_true rfl⟩, hts _ wm228, trivial⟩ ⟨zP.blind, zP.enter (z_subP (ws' := (zAr cI ((q_C 1)) (6) (c_pool))) hP [2] rfl) hK (hD.sub [2] (by decide) rfl) hN⟩ rfl rfl hl.1 rfl (lv_room (Nat.le_of_ble_eq_true rfl)) dX0_giveAllTo_28 ⟨Nat.le_refl _, Nat.le_refl _⟩) hP hD hS hA [2] [0, 1, 3, 4, 5, 6, 7, 8, 9, 10, 11, 12, 13, 14] [0, 1, 14, 2, 3, 4, 5, 6, 7, 8, 9, 10, 11, 12, 13] rfl rfl (by decide) (fun _ => rfl) (fun u_9 H locs hP hD hS hz => ?_)
      obtain ⟨T_10, e_11, h⟩ := bd1_e h
      refine z_gov (wc := (zTr cI (h_T) (q_T) (T))) (wn := fun u_12 => (zCh cI h_C q_C h_T h_LB h_LN c_kept c_keptCount c_pool c_left c_treated) ++ (zTr cI h_T q_T T_10) ++ (zWk cI h_LB q_LB LB) ++ (zWk cI h_LN q_LN LN)) (wr := ([0, 1, 2, 9, 10, 11, 12, 13, 14].filterMap (fun i => ((zCh cI h_C q_C h_T h_LB h_LN c_kept c_keptCount c_pool c_left c_treated) ++ (zTr cI h_T q_T T) ++ (zWk cI h_LB q_LB LB) ++ (zWk cI h_LN q_LN LN))[i]?))) (va_runV (As := [vI x1, vI r_4, vI r_7]) (rest := []) hF.1 (c_Tr_addAt l D cI cZ cT h_T q_T T x1 r_4 r_7 H.size (T_10) e_11) (cwV 3 hts (zgV wm517 wm518 wm519 wm33 wm520) rfl rfl rfl (by decide +kernel) ⟨Nat.le_of_ble_eq_true rfl, Nat.le_of_ble_eq_true rfl⟩) ⟨zP.blind, va_recv hK (z_subP (ws' := (zTr cI (h_T) (q_T) (T))) hP [3, 4, 5, 6, 7, 8] rfl) (ci := 4) (q0 := 0) rfl rfl, zP.enter (z_subP (ws' := (zTr cI (h_T) (q_T) (T))) hP [3, 4, 5, 6, 7, 8] rfl) hK (hD.sub [3, 4, 5, 6, 7, 8] (by decide) rfl) hN⟩ rfl rfl hl.1 rfl (lv_room (Nat.le_of_ble_eq_true rfl)) dX0_giveAllTo_31 ⟨Nat.le_refl _, Nat.le_refl _⟩) hP hD hS hA [3, 4, 5, 6, 7, 8] [0, 1, 2, 9, 10, 11, 12, 13, 14] [0, 1, 2, 9, 10, 11, 12, 13, 14, 3, 4, 5, 6, 7, 8] rfl rfl (by decide) (fun _ => rfl) (fun u_12 H locs hP hD hS hz => ?_)
      refine lv_iinc (v := Int32.ofInt (x2 + 1)) (lv' := [(2, vI (x2 + 1)), (0, .ref h_C), (1, vI x1)]) hx hb dX0_giveAllTo_34 hl (k := 2) rfl (z_inc _ _) (by decide) rfl (fun ls hl => ?_)
      refine lv_goto (tgt := 2) hx hb dX0_giveAllTo_37 (by decide) ?_
      exact ih ((x2 + 1)) (T_10) H locs ls h hP hD hS (lv_sub hl [1, 2, 0] rfl)
set_option maxHeartbeats 4000000 in
set_option maxRecDepth 100000 in
theorem c_Ch_giveAllTo (l : Launch) (D : va_G) (cI cZ cT : ClassId) (h_C : Nat) (q_C : Nat → Nat) (h_T : Nat) (h_LB : Nat) (h_LN : Nat) (q_T : Nat → Nat) (q_LB : Nat → Nat) (q_LN : Nat → Nat) (c_kept : Nat → Int) (c_keptCount : Int) (c_pool : Nat → Int) (c_left : Int) (c_treated : Int64) (T : TV) (LB : KV) (LN : KV) (x1 : Int) (sz : Nat) (res : Int × TV) (h : f_Ch_giveAllTo c_pool c_left T x1 = some res) : zMv l yX0_giveAllTo cX0_giveAllTo 3 rm_Ch_giveAllTo D (zt cI cZ cT) [.ref h_C, vI x1] ((zCh cI h_C q_C h_T h_LB h_LN c_kept c_keptCount c_pool c_left c_treated) ++ (zTr cI h_T q_T T) ++ (zWk cI h_LB q_LB LB) ++ (zWk cI h_LN q_LN LN)) sz (fun u => (zCh cI h_C q_C h_T h_LB h_LN c_kept c_keptCount c_pool (res.1) c_treated) ++ (zTr cI h_T q_T (res.2)) ++ (zWk cI h_LB q_LB LB) ++ (zWk cI h_LN q_LN LN)) 0 0 := by
  refine z_enth (Qc := zQv D (fun u => (zCh cI h_C q_C h_T h_LB h_LN c_kept c_keptCount c_pool (res.1) c_treated) ++ (zTr cI h_T q_T (res.2)) ++ (zWk cI h_LB q_LB LB) ++ (zWk cI h_LN q_LN LN))) (by decide) (Nat.le_of_ble_eq_true rfl) (fun p e s m args below meth c A ls H locs hF hP hD hS hl => ?_)
  have hx := hF.1.1
  have hb := hF.1.2.1
  have hml := hF.1.2.2.1
  have hown : s.vm.findClass "RectangleTree$Changes" = some m.cls := hF.1.2.2.2.1
  have hts := hF.1.2.2.2.2
  have hr := hF.2.1
  have hlk := hF.2.2.1
  have hK := hF.2.2.2.2.1
  have hN := hF.2.2.2.2.2.1
  have hA := hF.2.2.2.2.2.2
  unfold f_Ch_giveAllTo at h
  refine lv_iconst (v := Int32.ofInt 0) hx hb dX0_giveAllTo_0 rfl ?_
  refine lv_istore_n (lv' := [(2, vI 0), (0, .ref h_C), (1, vI x1)]) hx hb dX0_giveAllTo_1 rfl hl (by decide) rfl (fun ls hl => ?_)
  refine w_Ch_giveAllTo_L2 D cI cZ cT (h_C) (q_C) (h_T) (h_LB) (h_LN) (q_T) (q_LB) (q_LN) (c_kept) (c_keptCount) (c_pool) (c_left) (c_treated) (LB) (LN) (x1) _ _ hF (fun x2_13 T_14 H locs ls h hP hD hS hl => ?_) _ (0) (T) _ _ _ h hP hD hS (lv_sub hl [1, 2, 0] rfl)
  refine lv_aload_n hx hb dX0_giveAllTo_40 rfl (lv_at hl 0 rfl) ?_
  refine lv_iconst (v := Int32.ofInt 0) hx hb dX0_giveAllTo_41 rfl ?_
  refine va_put (D := D) (ci := 0) (v := vI 0) (ty := .int) (C := RX0) (T := TX0) (N := 8) hx hb hts zin0 tyX0 tyX0_ok nmX0 hown hK hP hD hS 0 rfl rfl 4 (by decide) (hts _ wm136) (fun _ h9 => h9) rfl (by decide +kernel) rfl rfl (Nat.le_of_ble_eq_true rfl) dX0_giveAllTo_42 (fun H locs hP hD hS => ?_)
  replace hP : va_P D vwCl ((zCh cI h_C q_C h_T h_LB h_LN c_kept c_keptCount c_pool 0 c_treated) ++ (zTr cI h_T q_T T_14) ++ (zWk cI h_LB q_LB LB) ++ (zWk cI h_LN q_LN LN)) H := hP
  replace hD : va_D A ((zCh cI h_C q_C h_T h_LB h_LN c_kept c_keptCount c_pool 0 c_treated) ++ (zTr cI h_T q_T T_14) ++ (zWk cI h_LB q_LB LB) ++ (zWk cI h_LN q_LN LN)) := hD
  obtain rfl := Option.some.inj h
  exact z_vret hx hb hr hlk (fun _ _ => 0) hP hD hS dX0_giveAllTo_45
def f_Ch_keepEntriesOf_L19 (x1 : Int) (x2 : Int) (k : Int → (Nat → Int) → Int → TV → Option ((Nat → Int) × Int × TV)) : Nat → Int → (Nat → Int) → Int → TV → Option ((Nat → Int) × Int × TV)
  | 0, _, _, _, _ => none
  | n + 1, x3, c_kept, c_keptCount, T =>
  gd (ck x3) <| gd (ck x2) <| if x3 < x2 then (bd1 (f_Tr_entryAt T x1 x3) <| fun r_10 => bd1 (f_Tr_setLoose T r_10) <| fun T_13 => bd1 (f_Rt_put 24 c_kept c_keptCount r_10) <| fun c_kept_16 => f_Ch_keepEntriesOf_L19 x1 x2 k n ((x3 + 1)) (c_kept_16) ((c_keptCount + 1)) (T_13)) else (k (x3) (c_kept) (c_keptCount) (T))
def f_Ch_keepEntriesOf (c_kept : Nat → Int) (c_keptCount : Int) (T : TV) (x1 : Int) : Option ((Nat → Int) × Int × TV) :=
  bd1 (f_Tr_takeOut T x1) <| fun T_1 => bd1 (f_Tr_sizeOf T_1 x1) <| fun r_4 => f_Ch_keepEntriesOf_L19 (x1) (r_4) (fun x3_19 c_kept_20 c_keptCount_21 T_22 => bd1 (f_Tr_release T_22 x1) <| fun T_23 => some (c_kept_20, c_keptCount_21, T_23)) FU (0) (c_kept) (c_keptCount) (T_1)
abbrev rm_Ch_keepEntriesOf : Room := ({ frames := 4, cells := 0, slots := 0, locals := 93 } : Room)
set_option maxHeartbeats 4000000 in
set_option maxRecDepth 100000 in
theorem w_Ch_keepEntriesOf_L19 {p : Program} {l : Launch} {e : Env} {s : State} {m : MethodId} {args : Array Value} {below : List Frame} {meth : Method} {c : Code} {A : Nat → Prop} (D : va_G) (cI cZ cT : ClassId) (h_C : Nat) (q_C : Nat → Nat) (h_T : Nat) (h_LB : Nat) (h_LN : Nat) (q_T : Nat → Nat) (q_LB : Nat → Nat) (q_LN : Nat → Nat) (c_pool : Nat → Int) (c_left : Int) (c_treated : Int64) (LB : KV) (LN : KV) (x1 : Int) (x2 : Int) (res : (Nat → Int) × Int × TV) (k : Int → (Nat → Int) → Int → TV → Option ((Nat → Int) × Int × TV)) (hF : zF p m c cX0_keepEntriesOf 5 s args yX0_keepEntriesOf.cls meth none yX0_keepEntriesOf.name A D (zt cI cZ cT))
    (hk : ∀ (x3 : Int) (c_kept : Nat → Int) (c_keptCount : Int) (T : TV) (H : Heap) (locs : List Loc) (ls : Array Slot), k x3 c_kept c_keptCount T = some res → va_P D vwCl ((zCh cI h_C q_C h_T h_LB h_LN c_kept c_keptCount c_pool c_left c_treated) ++ (zTr cI h_T q_T T) ++ (zWk cI h_LB q_LB LB) ++ (zWk cI h_LN q_LN LN)) H → va_D A ((zCh cI h_C q_C h_T h_LB h_LN c_kept c_keptCount c_pool c_left c_treated) ++ (zTr cI h_T q_T T) ++ (zWk cI h_LB q_LB LB) ++ (zWk cI h_LN q_LN LN)) → va_S A s.heap H locs → lv_has ls 5 [(0, .ref h_C), (1, vI x1)] → W p l e rm_Ch_keepEntriesOf s m args below meth c H locs 0 0 (MQ below (zQv D (fun u => (zCh cI h_C q_C h_T h_LB h_LN (res.1) (res.2.1) c_pool c_left c_treated) ++ (zTr cI h_T q_T (res.2.2)) ++ (zWk cI h_LB q_LB LB) ++ (zWk cI h_LN q_LN LN)) A) args s 0 0 A) (F0 m 73 ls [])) :
    ∀ (n : Nat) (x3 : Int) (c_kept : Nat → Int) (c_keptCount : Int) (T : TV) (H : Heap) (locs : List Loc) (ls : Array Slot), f_Ch_keepEntriesOf_L19 x1 x2 k n x3 c_kept c_keptCount T = some res → va_P D vwCl ((zCh cI h_C q_C h_T h_LB h_LN c_kept c_keptCount c_pool c_left c_treated) ++ (zTr cI h_T q_T T) ++ (zWk cI h_LB q_LB LB) ++ (zWk cI h_LN q_LN LN)) H → va_D A ((zCh cI h_C q_C h_T h_LB h_LN c_kept c_keptCount c_pool c_left c_treated) ++ (zTr cI h_T q_T T) ++ (zWk cI h_LB q_LB LB) ++ (zWk cI h_LN q_LN LN)) → va_S A s.heap H locs → lv_has ls 5 [(0, .ref h_C), (1, vI x1), (2, vI x2), (3, vI x3)] → W p l e rm_Ch_keepEntriesOf s m args below meth c H locs 0 0 (MQ below (zQv D (fun u => (zCh cI h_C q_C h_T h_LB h_LN (res.1) (res.2.1) c_pool c_left c_treated) ++ (zTr cI h_T q_T (res.2.2)) ++ (zWk cI h_LB q_LB LB) ++ (zWk cI h_LN q_LN LN)) A) args s 0 0 A) (F0 m 19 ls []) := by
  have hx := hF.1.1
  have hb := hF.1.2.1
  have hml := hF.1.2.2.1
  have hown : s.vm.findClass "RectangleTree$Changes" = some m.cls := hF.1.2.2.2.1
  have hts := hF.1.2.2.2.2
  have hr := hF.2.1
  have hlk := hF.2.2.1
  have hK := hF.2.2.2.2.1
  have hN := hF.2.2.2.2.2.1
  have hA := hF.2.2.2.2.2.2
  intro n
  induction n with
  | zero => intro x3 c_kept c_keptCount T H locs ls h; cases h
  | succ n ih =>
    intro x3 c_kept c_keptCount T H locs ls h hP hD hS hl
    rw [f_Ch_keepEntriesOf_L19] at h
    refine lv_iload_n hx hb dX0_keepEntriesOf_19 rfl (lv_at hl 3 rfl) ?_
    refine lv_iload_n hx hb dX0_keepEntriesOf_20 rfl (lv_at hl 2 rfl) ?_
    obtain ⟨g_7, h⟩ := gd_e h
    obtain ⟨g_8, h⟩ := gd_e h
    refine z_icmp_ge (tgt := 73) hx hb g_7 g_8 dX0_keepEntriesOf_21 (by decide) (fun b_9 => ?_) (fun b_9 => ?_)
    · have h := it_n b_9 h
      exact hk (x3) (c_kept) (c_keptCount) (T) H locs ls h hP hD hS (lv_sub hl [0, 1] rfl)
    · have h := it_p b_9 h
      refine lv_aload_n hx hb dX0_keepEntriesOf_24 rfl (lv_at hl 0 rfl) ?_
      refine va_get (D := D) (ci := 0) (v := .ref h_T) (C := RX0) (T := TX0) (N := 8) hx hb hts zin0 hown hK hP 0 rfl rfl 0 (by decide) (hts _ wm132) (fun _ h9 => h9) rfl dX0_keepEntriesOf_25 ?_
      refine lv_iload_n hx hb dX0_keepEntriesOf_28 rfl (lv_at hl 1 rfl) ?_
      refine lv_iload_n hx hb dX0_keepEntriesOf_29 rfl (lv_at hl 3 rfl) ?_
      obtain ⟨r_10, e_11, h⟩ := bd1_e h
      refine z_goi (ws' := []) (ret := r_10) (wc := (zTr cI (h_T) (q_T) (T))) (wn := fun u_12 => (zCh cI h_C q_C h_T h_LB h_LN c_kept c_keptCount c_pool c_left c_treated) ++ (zTr cI h_T q_T T) ++ (zWk cI h_LB q_LB LB) ++ (zWk cI h_LN q_LN LN)) (wr := ([0, 1, 2, 9, 10, 11, 12, 13, 14].filterMap (fun i => ((zCh cI h_C q_C h_T h_LB h_LN c_kept c_keptCount c_pool c_left c_treated) ++ (zTr cI h_T q_T T) ++ (zWk cI h_LB q_LB LB) ++ (zWk cI h_LN q_LN LN))[i]?))) (va_runV (As := [vI x1, vI x3]) (rest := []) hF.1 (c_Tr_entryAt l D cI cZ cT h_T q_T T x1 x3 H.size (r_10) e_11) (cwV 2 hts (zgV wm511 wm235 wm236 wm33 wm237) rfl rfl rfl (by decide +kernel) ⟨Nat.le_of_ble_eq_true rfl, Nat.le_of_ble_eq_true rfl⟩) ⟨zP.blind, va_recv hK (z_subP (ws' := (zTr cI (h_T) (q_T) (T))) hP [3, 4, 5, 6, 7, 8] rfl) (ci := 4) (q0 := 0) rfl rfl, zP.enter (z_subP (ws' := (zTr cI (h_T) (q_T) (T))) hP [3, 4, 5, 6, 7, 8] rfl) hK (hD.sub [3, 4, 5, 6, 7, 8] (by decide) rfl) hN⟩ rfl rfl hl.1 rfl (lv_room (Nat.le_of_ble_eq_true rfl)) dX0_keepEntriesOf_30 ⟨Nat.le_refl _, Nat.le_refl _⟩) hP hD hS hA [3, 4, 5, 6, 7, 8] [0, 1, 2, 9, 10, 11, 12, 13, 14] [0, 1, 2, 9, 10, 11, 12, 13, 14, 3, 4, 5, 6, 7, 8] rfl rfl (by decide) (fun _ => rfl) (fun u_12 H locs hP hD hS hz => ?_)
      refine lv_istore (lv' := [(4, vI r_10), (0, .ref h_C), (1, vI x1), (2, vI x2), (3, vI x3)]) hx hb dX0_keepEntriesOf_33 hl (by decide) rfl (fun ls hl => ?_)
      refine lv_aload_n hx hb dX0_keepEntriesOf_35 rfl (lv_at hl 1 rfl) ?_
      refine va_get (D := D) (ci := 0) (v := .ref h_T) (C := RX0) (T := TX0) (N := 8) hx hb hts zin0 hown hK hP 0 rfl rfl 0 (by decide) (hts _ wm132) (fun _ h9 => h9) rfl dX0_keepEntriesOf_36 ?_
      refine lv_iload hx hb dX0_keepEntriesOf_39 (lv_at hl 0 rfl) ?_
      obtain ⟨T_13, e_14, h⟩ := bd1_e h
      refine z_gov (wc := (zTr cI (h_T) (q_T) (T))) (wn := fun u_15 => (zCh cI h_C q_C h_T h_LB h_LN c_kept c_keptCount c_pool c_left c_treated) ++ (zTr cI h_T q_T T_13) ++ (zWk cI h_LB q_LB LB) ++ (zWk cI h_LN q_LN LN)) (wr := ([0, 1, 2, 9, 10, 11, 12, 13, 14].filterMap (fun i => ((zCh cI h_C q_C h_T h_LB h_LN c_kept c_keptCount c_pool c_left c_treated) ++ (zTr cI h_T q_T T) ++ (zWk cI h_LB q_LB LB) ++ (zWk cI h_LN q_LN LN))[i]?))) (va_runV (As := [vI r_10]) (rest := []) hF.1 (c_Tr_setLoose l D cI cZ cT h_T q_T T r_10 H.size (T_13) e_14) (cwV 1 hts (zgV wm640 wm641 wm642 wm33 wm643) rfl rfl rfl (by decide +kernel) ⟨Nat.le_of_ble_eq_true rfl, Nat.le_of_ble_eq_true rfl⟩) ⟨zP.blind, va_recv hK (z_subP (ws' := (zTr cI (h_T) (q_T) (T))) hP [3, 4, 5, 6, 7, 8] rfl) (ci := 4) (q0 := 0) rfl rfl, zP.enter (z_subP (ws' := (zTr cI (h_T) (q_T) (T))) hP [3, 4, 5, 6, 7, 8] rfl) hK (hD.sub [3, 4, 5, 6, 7, 8] (by decide) rfl) hN⟩ rfl rfl hl.1 rfl (lv_room (Nat.le_of_ble_eq_true rfl)) dX0_keepEntriesOf_41 ⟨Nat.le_refl _, Nat.le_refl _⟩) hP hD hS hA [3, 4, 5, 6, 7, 8] [0, 1, 2, 9, 10, 11, 12, 13, 14] [0, 1, 2, 9, 10, 11, 12, 13, 14, 3, 4, 5, 6, 7, 8] rfl rfl (by decide) (fun _ => rfl) (fun u_15 H locs hP hD hS hz => ?_)
      refine lv_aload_n hx hb dX0_keepEntriesOf_44 rfl (lv_at hl 1 rfl) ?_
      refine va_get (D := D) (ci := 0) (v := .ref (q_C 0)) (C := RX0) (T := TX0) (N := 8) hx hb hts zin0 hown hK hP 0 rfl rfl 1 (by decide) (hts _ wm133) (fun _ h9 => h9) rfl dX0_keepEntriesOf_45 ?_
      refine lv_aload_n hx hb dX0_keepEntriesOf_48 rfl (lv_at hl 1 rfl) ?_
      refine va_get (D := D) (ci := 0) (v := vI c_keptCount) (C := RX0) (T := TX0) (N := 8) hx hb hts zin0 hown hK hP 0 rfl rfl 2 (by decide) (hts _ wm134) (fun _ h9 => h9) rfl dX0_keepEntriesOf_49 ?_
      refine lv_iload hx hb dX0_keepEntriesOf_52 (lv_at hl 0 rfl) ?_
      obtain ⟨c_kept_16, e_17, h⟩ := bd1_e h
      refine z_gov (wc := (zAr cI ((q_C 0)) (24) (c_kept))) (wn := fun u_18 => (zCh cI h_C q_C h_T h_LB h_LN c_kept_16 c_keptCount c_pool c_left c_treated) ++ (zTr cI h_T q_T T_13) ++ (zWk cI h_LB q_LB LB) ++ (zWk cI h_LN q_LN LN)) (wr := ([0, 2, 3, 4, 5, 6, 7, 8, 9, 10, 11, 12, 13, 14].filterMap (fun i => ((zCh cI h_C q_C h_T h_LB h_LN c_kept c_keptCount c_pool c_left c_treated) ++ (zTr cI h_T q_T T_13) ++ (zWk cI h_LB q_LB LB) ++ (zWk cI h_LN q_LN LN))[i]?))) (va_runSN (As := [.ref (q_C 0), vI c_keptCount, vI r_10]) (rest := []) hF.1 (c_Rt_put l D cI cZ cT (q_C 0) 24 c_kept c_keptCount r_10 H.size (c_kept_16) e_17) ⟨va_cnB 3 hts (zW_good wm61) rfl rfl rfl (hN.at 7 rfl) (hts _ wm32) (by decide +kernel) ⟨Nat.le_of_ble_eq_true rfl, Nat.le_of_ble_eq_true rfl⟩, hts _ wm60, trivial⟩ ⟨zP.blind, zP.enter (z_subP (ws' := (zAr cI ((q_C 0)) (24) (c_kept))) hP [1] rfl) hK (hD.sub [1] (by decide) rfl) hN⟩ rfl rfl hl.1 rfl (lv_room (Nat.le_of_ble_eq_true rfl)) dX0_keepEntriesOf_54 ⟨Nat.le_refl _, Nat.le_refl _⟩) hP hD hS hA [1] [0, 2, 3, 4, 5, 6, 7, 8, 9, 10, 11, 12, 13, 14] [0, 14, 1, 2, 3, 4, 5, 6, 7, 8, 9, 10, 11, 12, 13] rfl rfl (by decide) (fun _ => rfl) (fun u_18 H locs hP hD hS hz => ?_)
      refine lv_aload_n hx hb dX0_keepEntriesOf_57 rfl (lv_at hl 1 rfl) ?_
      refine lv_dup hx hb dX0_keepEntriesOf_58 rfl ?_
      refine va_get (D := D) (ci := 0) (v := vI c_keptCount) (C := RX0) (T := TX0) (N := 8) hx hb hts zin0 hown hK hP 0 rfl rfl 2 (by decide) (hts _ wm134) (fun _ h9 => h9) rfl dX0_keepEntriesOf_59 ?_
      refine lv_iconst (v := Int32.ofInt 1) hx hb dX0_keepEntriesOf_62 rfl ?_
      refine z_iadd hx hb dX0_keepEntriesOf_63 ?_
      refine va_put (D := D) (ci := 0) (v := vI (c_keptCount + 1)) (ty := .int) (C := RX0) (T := TX0) (N := 8) hx hb hts zin0 tyX0 tyX0_ok nmX0 hown hK hP hD hS 0 rfl rfl 2 (by decide) (hts _ wm134) (fun _ h9 => h9) rfl (by decide +kernel) rfl rfl (Nat.le_of_ble_eq_true rfl) dX0_keepEntriesOf_64 (fun H locs hP hD hS => ?_)
      replace hP : va_P D vwCl ((zCh cI h_C q_C h_T h_LB h_LN c_kept_16 (c_keptCount + 1) c_pool c_left c_treated) ++ (zTr cI h_T q_T T_13) ++ (zWk cI h_LB q_LB LB) ++ (zWk cI h_LN q_LN LN)) H := hP
      replace hD : va_D A ((zCh cI h_C q_C h_T h_LB h_LN c_kept_16 (c_keptCount + 1) c_pool c_left c_treated) ++ (zTr cI h_T q_T T_13) ++ (zWk cI h_LB q_LB LB) ++ (zWk cI h_LN q_LN LN)) := hD
      refine lv_iinc (v := Int32.ofInt (x3 + 1)) (lv' := [(3, vI (x3 + 1)), (4, vI r_10), (0, .ref h_C), (1, vI x1), (2, vI x2)]) hx hb dX0_keepEntriesOf_67 hl (k := 4) rfl (z_inc _ _) (by decide) rfl (fun ls hl => ?_)
      refine lv_goto (tgt := 19) hx hb dX0_keepEntriesOf_70 (by decide) ?_
      exact ih ((x3 + 1)) (c_kept_16) ((c_keptCount + 1)) (T_13) H locs ls h hP hD hS (lv_sub hl [2, 3, 4, 0] rfl)
set_option maxHeartbeats 4000000 in
set_option maxRecDepth 100000 in
theorem c_Ch_keepEntriesOf (l : Launch) (D : va_G) (cI cZ cT : ClassId) (h_C : Nat) (q_C : Nat → Nat) (h_T : Nat) (h_LB : Nat) (h_LN : Nat) (q_T : Nat → Nat) (q_LB : Nat → Nat) (q_LN : Nat → Nat) (c_kept : Nat → Int) (c_keptCount : Int) (c_pool : Nat → Int) (c_left : Int) (c_treated : Int64) (T : TV) (LB : KV) (LN : KV) (x1 : Int) (sz : Nat) (res : (Nat → Int) × Int × TV) (h : f_Ch_keepEntriesOf c_kept c_keptCount T x1 = some res) : zMv l yX0_keepEntriesOf cX0_keepEntriesOf 5 rm_Ch_keepEntriesOf D (zt cI cZ cT) [.ref h_C, vI x1] ((zCh cI h_C q_C h_T h_LB h_LN c_kept c_keptCount c_pool c_left c_treated) ++ (zTr cI h_T q_T T) ++ (zWk cI h_LB q_LB LB) ++ (zWk cI h_LN q_LN LN)) sz (fun u => (zCh cI h_C q_C h_T h_LB h_LN (res.1) (res.2.1) c_pool c_left c_treated) ++ (zTr cI h_T q_T (res.2.2)) ++ (zWk cI h_LB q_LB LB) ++ (zWk cI h_LN q_LN LN)) 0 0 := by
  refine z_enth (Qc := zQv D (fun u => (zCh cI h_C q_C h_T h_LB h_LN (res.1) (res.2.1) c_pool c_left c_treated) ++ (zTr cI h_T q_T (res.2.2)) ++ (zWk cI h_LB q_LB LB) ++ (zWk cI h_LN q_LN LN))) (by decide) (Nat.le_of_ble_eq_true rfl) (fun p e s m args below meth c A ls H locs hF hP hD hS hl => ?_)
  have hx := hF.1.1
  have hb := hF.1.2.1
  have hml := hF.1.2.2.1
  have hown : s.vm.findClass "RectangleTree$Changes" = some m.cls := hF.1.2.2.2.1
  have hts := hF.1.2.2.2.2
  have hr := hF.2.1
  have hlk := hF.2.2.1
  have hK := hF.2.2.2.2.1
  have hN := hF.2.2.2.2.2.1
  have hA := hF.2.2.2.2.2.2
  unfold f_Ch_keepEntriesOf at h
  refine lv_aload_n hx hb dX0_keepEntriesOf_0 rfl (lv_at hl 0 rfl) ?_
  refine va_get (D := D) (ci := 0) (v := .ref h_T) (C := RX0) (T := TX0) (N := 8) hx hb hts zin0 hown hK hP 0 rfl rfl 0 (by decide) (hts _ wm132) (fun _ h9 => h9) rfl dX0_keepEntriesOf_1 ?_
  refine lv_iload_n hx hb dX0_keepEntriesOf_4 rfl (lv_at hl 1 rfl) ?_
  obtain ⟨T_1, e_2, h⟩ := bd1_e h
  refine z_gov (wc := (zTr cI (h_T) (q_T) (T))) (wn := fun u_3 => (zCh cI h_C q_C h_T h_LB h_LN c_kept c_keptCount c_pool c_left c_treated) ++ (zTr cI h_T q_T T_1) ++ (zWk cI h_LB q_LB LB) ++ (zWk cI h_LN q_LN LN)) (wr := ([0, 1, 2, 9, 10, 11, 12, 13, 14].filterMap (fun i => ((zCh cI h_C q_C h_T h_LB h_LN c_kept c_keptCount c_pool c_left c_treated) ++ (zTr cI h_T q_T T) ++ (zWk cI h_LB q_LB LB) ++ (zWk cI h_LN q_LN LN))[i]?))) (va_runV (As := [vI x1]) (rest := []) hF.1 (c_Tr_takeOut l D cI cZ cT h_T q_T T x1 H.size (T_1) e_2) (cwV 1 hts (zgV wm550 wm551 wm552 wm33 wm553) rfl rfl rfl (by decide +kernel) ⟨Nat.le_of_ble_eq_true rfl, Nat.le_of_ble_eq_true rfl⟩) ⟨zP.blind, va_recv hK (z_subP (ws' := (zTr cI (h_T) (q_T) (T))) hP [3, 4, 5, 6, 7, 8] rfl) (ci := 4) (q0 := 0) rfl rfl, zP.enter (z_subP (ws' := (zTr cI (h_T) (q_T) (T))) hP [3, 4, 5, 6, 7, 8] rfl) hK (hD.sub [3, 4, 5, 6, 7, 8] (by decide) rfl) hN⟩ rfl rfl hl.1 rfl (lv_room (Nat.le_of_ble_eq_true rfl)) dX0_keepEntriesOf_5 ⟨Nat.le_refl _, Nat.le_refl _⟩) hP hD hS hA [3, 4, 5, 6, 7, 8] [0, 1, 2, 9, 10, 11, 12, 13, 14] [0, 1, 2, 9, 10, 11, 12, 13, 14, 3, 4, 5, 6, 7, 8] rfl rfl (by decide) (fun _ => rfl) (fun u_3 H locs hP hD hS hz => ?_)
  refine lv_aload_n hx hb dX0_keepEntriesOf_8 rfl (lv_at hl 0 rfl) ?_
  refine va_get (D := D) (ci := 0) (v := .ref h_T) (C := RX0) (T := TX0) (N := 8) hx hb hts zin0 hown hK hP 0 rfl rfl 0 (by decide) (hts _ wm132) (fun _ h9 => h9) rfl dX0_keepEntriesOf_9 ?_
  refine lv_iload_n hx hb dX0_keepEntriesOf_12 rfl (lv_at hl 1 rfl) ?_
  obtain ⟨r_4, e_5, h⟩ := bd1_e h
  refine z_goi (ws' := []) (ret := r_4) (wc := (zTr cI (h_T) (q_T) (T_1))) (wn := fun u_6 => (zCh cI h_C q_C h_T h_LB h_LN c_kept c_keptCount c_pool c_left c_treated) ++ (zTr cI h_T q_T T_1) ++ (zWk cI h_LB q_LB LB) ++ (zWk cI h_LN q_LN LN)) (wr := ([0, 1, 2, 9, 10, 11, 12, 13, 14].filterMap (fun i => ((zCh cI h_C q_C h_T h_LB h_LN c_kept c_keptCount c_pool c_left c_treated) ++ (zTr cI h_T q_T T_1) ++ (zWk cI h_LB q_LB LB) ++ (zWk cI h_LN q_LN LN))[i]?))) (va_runV (As := [vI x1]) (rest := []) hF.1 (c_Tr_sizeOf l D cI cZ cT h_T q_T T_1 x1 H.size (r_4) e_5) (cwV 1 hts (zgV wm510 wm231 wm232 wm33 wm233) rfl rfl rfl (by decide +kernel) ⟨Nat.le_of_ble_eq_true rfl, Nat.le_of_ble_eq_true rfl⟩) ⟨zP.blind, va_recv hK (z_subP (ws' := (zTr cI (h_T) (q_T) (T_1))) hP [3, 4, 5, 6, 7, 8] rfl) (ci := 4) (q0 := 0) rfl rfl, zP.enter (z_subP (ws' := (zTr cI (h_T) (q_T) (T_1))) hP [3, 4, 5, 6, 7, 8] rfl) hK (hD.sub [3, 4, 5, 6, 7, 8] (by decide) rfl) hN⟩ rfl rfl hl.1 rfl (lv_room (Nat.le_of_ble_eq_true rfl)) dX0_keepEntriesOf_13 ⟨Nat.le_refl _, Nat.le_refl _⟩) hP hD hS hA [3, 4, 5, 6, 7, 8] [0, 1, 2, 9, 10, 11, 12, 13, 14] [0, 1, 2, 9, 10, 11, 12, 13, 14, 3, 4, 5, 6, 7, 8] rfl rfl (by decide) (fun _ => rfl) (fun u_6 H locs hP hD hS hz => ?_)
  refine lv_istore_n (lv' := [(2, vI r_4), (0, .ref h_C), (1, vI x1)]) hx hb dX0_keepEntriesOf_16 rfl hl (by decide) rfl (fun ls hl => ?_)
  refine lv_iconst (v := Int32.ofInt 0) hx hb dX0_keepEntriesOf_17 rfl ?_
  refine lv_istore_n (lv' := [(3, vI 0), (2, vI r_4), (0, .ref h_C), (1, vI x1)]) hx hb dX0_keepEntriesOf_18 rfl hl (by decide) rfl (fun ls hl => ?_)
  refine w_Ch_keepEntriesOf_L19 D cI cZ cT (h_C) (q_C) (h_T) (h_LB) (h_LN) (q_T) (q_LB) (q_LN) (c_pool) (c_left) (c_treated) (LB) (LN) (x1) (r_4) _ _ hF (fun x3_19 c_kept_20 c_keptCount_21 T_22 H locs ls h hP hD hS hl => ?_) _ (0) (c_kept) (c_keptCount) (T_1) _ _ _ h hP hD hS (lv_sub hl [2, 3, 1, 0] rfl)
  refine lv_aload_n hx hb dX0_keepEntriesOf_73 rfl (lv_at hl 0 rfl) ?_
  refine va_get (D := D) (ci := 0) (v := .ref h_T) (C := RX0) (T := TX0) (N := 8) hx hb hts zin0 hown hK hP 0 rfl rfl 0 (by decide) (hts _ wm132) (fun _ h9 => h9) rfl dX0_keepEntriesOf_74 ?_
  refine lv_iload_n hx hb dX0_keepEntriesOf_77 rfl (lv_at hl 1 rfl) ?_
  obtain ⟨T_23, e_24, h⟩ := bd1_e h
  refine z_gov (wc := (zTr cI (h_T) (q_T) (T_22))) (wn := fun u_25 => (zCh cI h_C q_C h_T h_LB h_LN c_kept_20 c_keptCount_21 c_pool c_left c_treated) ++ (zTr cI h_T q_T T_23) ++ (zWk cI h_LB q_LB LB) ++ (zWk cI h_LN q_LN LN)) (wr := ([0, 1, 2, 9, 10, 11, 12, 13, 14].filterMap (fun i => ((zCh cI h_C q_C h_T h_LB h_LN c_kept_20 c_keptCount_21 c_pool c_left c_treated) ++ (zTr cI h_T q_T T_22) ++ (zWk cI h_LB q_LB LB) ++ (zWk cI h_LN q_LN LN))[i]?))) (va_runV (As := [vI x1]) (rest := []) hF.1 (c_Tr_release l D cI cZ cT h_T q_T T_22 x1 H.size (T_23) e_24) (cwV 1 hts (zgV wm631 wm632 wm633 wm33 wm634) rfl rfl rfl (by decide +kernel) ⟨Nat.le_of_ble_eq_true rfl, Nat.le_of_ble_eq_true rfl⟩) ⟨zP.blind, va_recv hK (z_subP (ws' := (zTr cI (h_T) (q_T) (T_22))) hP [3, 4, 5, 6, 7, 8] rfl) (ci := 4) (q0 := 0) rfl rfl, zP.enter (z_subP (ws' := (zTr cI (h_T) (q_T) (T_22))) hP [3, 4, 5, 6, 7, 8] rfl) hK (hD.sub [3, 4, 5, 6, 7, 8] (by decide) rfl) hN⟩ rfl rfl hl.1 rfl (lv_room (Nat.le_of_ble_eq_true rfl)) dX0_keepEntriesOf_78 ⟨Nat.le_refl _, Nat.le_refl _⟩) hP hD hS hA [3, 4, 5, 6, 7, 8] [0, 1, 2, 9, 10, 11, 12, 13, 14] [0, 1, 2, 9, 10, 11, 12, 13, 14, 3, 4, 5, 6, 7, 8] rfl rfl (by decide) (fun _ => rfl) (fun u_25 H locs hP hD hS hz => ?_)
  obtain rfl := Option.some.inj h
  exact z_vret hx hb hr hlk (fun _ _ => 0) hP hD hS dX0_keepEntriesOf_81
def f_Ch_takeOutBox_L32 (k : Int → Int → (Nat → Int) → Int → TV → Option ((Nat → Int) × Int × TV)) : Nat → Int → Int → (Nat → Int) → Int → TV → Option ((Nat → Int) × Int × TV)
  | 0, _, _, _, _, _ => none
  | n + 1, x2, x3, c_kept, c_keptCount, T =>
  bd1 (f_Tr_isNode T x2) <| fun r_10 => gd (ck r_10) <| if r_10 = 0 then (k (x2) (x3) (c_kept) (c_keptCount) (T)) else (gd (ck x2) <| gd (ck (tRoot T)) <| if x2 = (tRoot T) then (k (x2) (x3) (c_kept) (c_keptCount) (T)) else (gd (ck x3) <| if x3 < 1000000 then (bd1 (f_Tr_holderOf T x2) <| fun r_20 => bd1 (f_Tr_sizeOf T x2) <| fun r_23 => bd1 (f_Tr_least T) <| fun r_26 => gd (ck r_23) <| gd (ck r_26) <| if r_23 < r_26 then (bd3 (f_Ch_keepEntriesOf c_kept c_keptCount T x2) <| fun c_kept_32 c_keptCount_33 T_34 => f_Ch_takeOutBox_L32 k n (r_20) ((x3 + 1)) (c_kept_32) (c_keptCount_33) (T_34)) else (f_Ch_takeOutBox_L32 k n (r_20) ((x3 + 1)) (c_kept) (c_keptCount) (T))) else (k (x2) (x3) (c_kept) (c_keptCount) (T))))
def f_Ch_takeOutBox (c_kept : Nat → Int) (T : TV) (x1 : Int) : Option ((Nat → Int) × Int × TV) :=
  bd1 (f_Tr_holderOf T x1) <| fun r_1 => bd1 (f_Tr_takeOut T x1) <| fun T_4 => bd1 (f_Tr_release T_4 x1) <| fun T_7 => f_Ch_takeOutBox_L32 (fun x2_37 x3_38 c_kept_39 c_keptCount_40 T_41 => bd1 (f_Tr_lowerRoot T_41) <| fun T_42 => some (c_kept_39, c_keptCount_40, T_42)) FU (r_1) (0) (c_kept) (0) (T_7)
abbrev rm_Ch_takeOutBox : Room := ({ frames := 5, cells := 0, slots := 0, locals := 117 } : Room)
set_option maxHeartbeats 4000000 in
set_option maxRecDepth 100000 in
theorem w_Ch_takeOutBox_L32 {p : Program} {l : Launch} {e : Env} {s : State} {m : MethodId} {args : Array Value} {below : List Frame} {meth : Method} {c : Code} {A : Nat → Prop} (D : va_G) (cI cZ cT : ClassId) (h_C : Nat) (q_C : Nat → Nat) (h_T : Nat) (h_LB : Nat) (h_LN : Nat) (q_T : Nat → Nat) (q_LB : Nat → Nat) (q_LN : Nat → Nat) (c_pool : Nat → Int) (c_left : Int) (c_treated : Int64) (LB : KV) (LN : KV) (res : (Nat → Int) × Int × TV) (k : Int → Int → (Nat → Int) → Int → TV → Option ((Nat → Int) × Int × TV)) (hF : zF p m c cX0_takeOutBox 5 s args yX0_takeOutBox.cls meth none yX0_takeOutBox.name A D (zt cI cZ cT))
    (hk : ∀ (x2 : Int) (x3 : Int) (c_kept : Nat → Int) (c_keptCount : Int) (T : TV) (H : Heap) (locs : List Loc) (ls : Array Slot), k x2 x3 c_kept c_keptCount T = some res → va_P D vwCl ((zCh cI h_C q_C h_T h_LB h_LN c_kept c_keptCount c_pool c_left c_treated) ++ (zTr cI h_T q_T T) ++ (zWk cI h_LB q_LB LB) ++ (zWk cI h_LN q_LN LN)) H → va_D A ((zCh cI h_C q_C h_T h_LB h_LN c_kept c_keptCount c_pool c_left c_treated) ++ (zTr cI h_T q_T T) ++ (zWk cI h_LB q_LB LB) ++ (zWk cI h_LN q_LN LN)) → va_S A s.heap H locs → lv_has ls 5 [(0, .ref h_C)] → W p l e rm_Ch_takeOutBox s m args below meth c H locs 0 0 (MQ below (zQv D (fun u => (zCh cI h_C q_C h_T h_LB h_LN (res.1) (res.2.1) c_pool c_left c_treated) ++ (zTr cI h_T q_T (res.2.2)) ++ (zWk cI h_LB q_LB LB) ++ (zWk cI h_LN q_LN LN)) A) args s 0 0 A) (F0 m 102 ls [])) :
    ∀ (n : Nat) (x2 : Int) (x3 : Int) (c_kept : Nat → Int) (c_keptCount : Int) (T : TV) (H : Heap) (locs : List Loc) (ls : Array Slot), f_Ch_takeOutBox_L32 k n x2 x3 c_kept c_keptCount T = some res → va_P D vwCl ((zCh cI h_C q_C h_T h_LB h_LN c_kept c_keptCount c_pool c_left c_treated) ++ (zTr cI h_T q_T T) ++ (zWk cI h_LB q_LB LB) ++ (zWk cI h_LN q_LN LN)) H → va_D A ((zCh cI h_C q_C h_T h_LB h_LN c_kept c_keptCount c_pool c_left c_treated) ++ (zTr cI h_T q_T T) ++ (zWk cI h_LB q_LB LB) ++ (zWk cI h_LN q_LN LN)) → va_S A s.heap H locs → lv_has ls 5 [(0, .ref h_C), (2, vI x2), (3, vI x3)] → W p l e rm_Ch_takeOutBox s m args below meth c H locs 0 0 (MQ below (zQv D (fun u => (zCh cI h_C q_C h_T h_LB h_LN (res.1) (res.2.1) c_pool c_left c_treated) ++ (zTr cI h_T q_T (res.2.2)) ++ (zWk cI h_LB q_LB LB) ++ (zWk cI h_LN q_LN LN)) A) args s 0 0 A) (F0 m 32 ls []) := by
  have hx := hF.1.1
  have hb := hF.1.2.1
  have hml := hF.1.2.2.1
  have hown : s.vm.findClass "RectangleTree$Changes" = some m.cls := hF.1.2.2.2.1
  have hts := hF.1.2.2.2.2
  have hr := hF.2.1
  have hlk := hF.2.2.1
  have hK := hF.2.2.2.2.1
  have hN := hF.2.2.2.2.2.1
  have hA := hF.2.2.2.2.2.2
  intro n
  induction n with
  | zero => intro x2 x3 c_kept c_keptCount T H locs ls h; cases h
  | succ n ih =>
    intro x2 x3 c_kept c_keptCount T H locs ls h hP hD hS hl
    rw [f_Ch_takeOutBox_L32] at h
    refine lv_aload_n hx hb dX0_takeOutBox_32 rfl (lv_at hl 0 rfl) ?_
    refine va_get (D := D) (ci := 0) (v := .ref h_T) (C := RX0) (T := TX0) (N := 8) hx hb hts zin0 hown hK hP 0 rfl rfl 0 (by decide) (hts _ wm132) (fun _ h9 => h9) rfl dX0_takeOutBox_33 ?_
    refine lv_iload_n hx hb dX0_takeOutBox_36 rfl (lv_at hl 1 rfl) ?_
    obtain ⟨r_10, e_11, h⟩ := bd1_e h
    refine z_goi (ws' := []) (ret := r_10) (wc := (zTr cI (h_T) (q_T) (T))) (wn := fun u_12 => (zCh cI h_C q_C h_T h_LB h_LN c_kept c_keptCount c_pool c_left c_treated) ++ (zTr cI h_T q_T T) ++ (zWk cI h_LB q_LB LB) ++ (zWk cI h_LN q_LN LN)) (wr := ([0, 1, 2, 9, 10, 11, 12, 13, 14].filterMap (fun i => ((zCh cI h_C q_C h_T h_LB h_LN c_kept c_keptCount c_pool c_left c_treated) ++ (zTr cI h_T q_T T) ++ (zWk cI h_LB q_LB LB) ++ (zWk cI h_LN q_LN LN))[i]?))) (va_runV (As := [vI x2]) (rest := []) hF.1 (c_Tr_isNode l D cI cZ cT h_T q_T T x2 H.size (r_10) e_11) (cwV 1 hts (zgV wm635 wm526 wm527 wm33 wm528) rfl rfl rfl (by decide +kernel) ⟨Nat.le_of_ble_eq_true rfl, Nat.le_of_ble_eq_true rfl⟩) ⟨zP.blind, va_recv hK (z_subP (ws' := (zTr cI (h_T) (q_T) (T))) hP [3, 4, 5, 6, 7, 8] rfl) (ci := 4) (q0 := 0) rfl rfl, zP.enter (z_subP (ws' := (zTr cI (h_T) (q_T) (T))) hP [3, 4, 5, 6, 7, 8] rfl) hK (hD.sub [3, 4, 5, 6, 7, 8] (by decide) rfl) hN⟩ rfl rfl hl.1 rfl (lv_room (Nat.le_of_ble_eq_true rfl)) dX0_takeOutBox_37 ⟨Nat.le_refl _, Nat.le_refl _⟩) hP hD hS hA [3, 4, 5, 6, 7, 8] [0, 1, 2, 9, 10, 11, 12, 13, 14] [0, 1, 2, 9, 10, 11, 12, 13, 14, 3, 4, 5, 6, 7, 8] rfl rfl (by decide) (fun _ => rfl) (fun u_12 H locs hP hD hS hz => ?_)
    obtain ⟨g_13, h⟩ := gd_e h
    refine z_if_eq (tgt := 102) hx hb g_13 dX0_takeOutBox_40 (by decide) (fun b_14 => ?_) (fun b_14 => ?_)
    · have h := it_p b_14 h
      exact hk (x2) (x3) (c_kept) (c_keptCount) (T) H locs ls h hP hD hS (lv_sub hl [0] rfl)
    · have h := it_n b_14 h
      refine lv_iload_n hx hb dX0_takeOutBox_43 rfl (lv_at hl 1 rfl) ?_
      refine lv_aload_n hx hb dX0_takeOutBox_44 rfl (lv_at hl 0 rfl) ?_
      refine va_get (D := D) (ci := 0) (v := .ref h_T) (C := RX0) (T := TX0) (N := 8) hx hb hts zin0 hown hK hP 0 rfl rfl 0 (by decide) (hts _ wm132) (fun _ h9 => h9) rfl dX0_takeOutBox_45 ?_
      refine va_get (D := D) (ci := 4) (v := vI (tRoot T)) (C := RX4) (T := TX4) (N := 10) hx hb hts zin4 hown hK hP 3 rfl rfl 5 (by decide) (hts _ wm69) (fun _ h9 => h9) rfl dX0_takeOutBox_48 ?_
      obtain ⟨g_15, h⟩ := gd_e h
      obtain ⟨g_16, h⟩ := gd_e h
      refine z_icmp_eq (tgt := 102) hx hb g_15 g_16 dX0_takeOutBox_51 (by decide) (fun b_17 => ?_) (fun b_17 => ?_)
      · have h := it_p b_17 h
        exact hk (x2) (x3) (c_kept) (c_keptCount) (T) H locs ls h hP hD hS (lv_sub hl [0] rfl)
      · have h := it_n b_17 h
        refine lv_iload_n hx hb dX0_takeOutBox_54 rfl (lv_at hl 2 rfl) ?_
        refine lv_ldc (v := Int32.ofInt 1000000) hx hb hown (hts _ wm505) dX0_takeOutBox_55 ?_
        obtain ⟨g_18, h⟩ := gd_e h
        refine z_icmp_ge (tgt := 102) hx hb g_18 (by decide) dX0_takeOutBox_57 (by decide) (fun b_19 => ?_) (fun b_19 => ?_)
        · have h := it_n b_19 h
          exact hk (x2) (x3) (c_kept) (c_keptCount) (T) H locs ls h hP hD hS (lv_sub hl [0] rfl)
        · have h := it_p b_19 h
          refine lv_aload_n hx hb dX0_takeOutBox_60 rfl (lv_at hl 0 rfl) ?_
          refine va_get (D := D) (ci := 0) (v := .ref h_T) (C := RX0) (T := TX0) (N := 8) hx hb hts zin0 hown hK hP 0 rfl rfl 0 (by decide) (hts _ wm132) (fun _ h9 => h9) rfl dX0_takeOutBox_61 ?_
          refine lv_iload_n hx hb dX0_takeOutBox_64 rfl (lv_at hl 1 rfl) ?_
          obtain ⟨r_20, e_21, h⟩ := bd1_e h
          refine z_goi (ws' := []) (ret := r_20) (wc := (zTr cI (h_T) (q_T) (T))) (wn := fun u_22 => (zCh cI h_C q_C h_T h_LB h_LN c_kept c_keptCount c_pool c_left c_treated) ++ (zTr cI h_T q_T T) ++ (zWk cI h_LB q_LB LB) ++ (zWk cI h_LN q_LN LN)) (wr := ([0, 1, 2, 9, 10, 11, 12, 13, 14].filterMap (fun i => ((zCh cI h_C q_C h_T h_LB h_LN c_kept c_keptCount c_pool c_left c_treated) ++ (zTr cI h_T q_T T) ++ (zWk cI h_LB q_LB LB) ++ (zWk cI h_LN q_LN LN))[i]?))) (va_runV (As := [vI x2]) (rest := []) hF.1 (c_Tr_holderOf l D cI cZ cT h_T q_T T x2 H.size (r_20) e_21) (cwV 1 hts (zgV wm573 wm349 wm350 wm33 wm351) rfl rfl rfl (by decide +kernel) ⟨Nat.le_of_ble_eq_true rfl, Nat.le_of_ble_eq_true rfl⟩) ⟨zP.blind, va_recv hK (z_subP (ws' := (zTr cI (h_T) (q_T) (T))) hP [3, 4, 5, 6, 7, 8] rfl) (ci := 4) (q0 := 0) rfl rfl, zP.enter (z_subP (ws' := (zTr cI (h_T) (q_T) (T))) hP [3, 4, 5, 6, 7, 8] rfl) hK (hD.sub [3, 4, 5, 6, 7, 8] (by decide) rfl) hN⟩ rfl rfl hl.1 rfl (lv_room (Nat.le_of_ble_eq_true rfl)) dX0_takeOutBox_65 ⟨Nat.le_refl _, Nat.le_refl _⟩) hP hD hS hA [3, 4, 5, 6, 7, 8] [0, 1, 2, 9, 10, 11, 12, 13, 14] [0, 1, 2, 9, 10, 11, 12, 13, 14, 3, 4, 5, 6, 7, 8] rfl rfl (by decide) (fun _ => rfl) (fun u_22 H locs hP hD hS hz => ?_)
          refine lv_istore (lv' := [(4, vI r_20), (0, .ref h_C), (2, vI x2), (3, vI x3)]) hx hb dX0_takeOutBox_68 hl (by decide) rfl (fun ls hl => ?_)
          refine lv_aload_n hx hb dX0_takeOutBox_70 rfl (lv_at hl 1 rfl) ?_
          refine va_get (D := D) (ci := 0) (v := .ref h_T) (C := RX0) (T := TX0) (N := 8) hx hb hts zin0 hown hK hP 0 rfl rfl 0 (by decide) (hts _ wm132) (fun _ h9 => h9) rfl dX0_takeOutBox_71 ?_
          refine lv_iload_n hx hb dX0_takeOutBox_74 rfl (lv_at hl 2 rfl) ?_
          obtain ⟨r_23, e_24, h⟩ := bd1_e h
          refine z_goi (ws' := []) (ret := r_23) (wc := (zTr cI (h_T) (q_T) (T))) (wn := fun u_25 => (zCh cI h_C q_C h_T h_LB h_LN c_kept c_keptCount c_pool c_left c_treated) ++ (zTr cI h_T q_T T) ++ (zWk cI h_LB q_LB LB) ++ (zWk cI h_LN q_LN LN)) (wr := ([0, 1, 2, 9, 10, 11, 12, 13, 14].filterMap (fun i => ((zCh cI h_C q_C h_T h_LB h_LN c_kept c_keptCount c_pool c_left c_treated) ++ (zTr cI h_T q_T T) ++ (zWk cI h_LB q_LB LB) ++ (zWk cI h_LN q_LN LN))[i]?))) (va_runV (As := [vI x2]) (rest := []) hF.1 (c_Tr_sizeOf l D cI cZ cT h_T q_T T x2 H.size (r_23) e_24) (cwV 1 hts (zgV wm510 wm231 wm232 wm33 wm233) rfl rfl rfl (by decide +kernel) ⟨Nat.le_of_ble_eq_true rfl, Nat.le_of_ble_eq_true rfl⟩) ⟨zP.blind, va_recv hK (z_subP (ws' := (zTr cI (h_T) (q_T) (T))) hP [3, 4, 5, 6, 7, 8] rfl) (ci := 4) (q0 := 0) rfl rfl, zP.enter (z_subP (ws' := (zTr cI (h_T) (q_T) (T))) hP [3, 4, 5, 6, 7, 8] rfl) hK (hD.sub [3, 4, 5, 6, 7, 8] (by decide) rfl) hN⟩ rfl rfl hl.1 rfl (lv_room (Nat.le_of_ble_eq_true rfl)) dX0_takeOutBox_75 ⟨Nat.le_refl _, Nat.le_refl _⟩) hP hD hS hA [3, 4, 5, 6, 7, 8] [0, 1, 2, 9, 10, 11, 12, 13, 14] [0, 1, 2, 9, 10, 11, 12, 13, 14, 3, 4, 5, 6, 7, 8] rfl rfl (by decide) (fun _ => rfl) (fun u_25 H locs hP hD hS hz => ?_)
          refine lv_aload_n hx hb dX0_takeOutBox_78 rfl (lv_at hl 1 rfl) ?_
          refine va_get (D := D) (ci := 0) (v := .ref h_T) (C := RX0) (T := TX0) (N := 8) hx hb hts zin0 hown hK hP 0 rfl rfl 0 (by decide) (hts _ wm132) (fun _ h9 => h9) rfl dX0_takeOutBox_79 ?_
          obtain ⟨r_26, e_27, h⟩ := bd1_e h
          refine z_goi (ws' := []) (ret := r_26) (wc := (zTr cI (h_T) (q_T) (T))) (wn := fun u_28 => (zCh cI h_C q_C h_T h_LB h_LN c_kept c_keptCount c_pool c_left c_treated) ++ (zTr cI h_T q_T T) ++ (zWk cI h_LB q_LB LB) ++ (zWk cI h_LN q_LN LN)) (wr := ([0, 1, 2, 9, 10, 11, 12, 13, 14].filterMap (fun i => ((zCh cI h_C q_C h_T h_LB h_LN c_kept c_keptCount c_pool c_left c_treated) ++ (zTr cI h_T q_T T) ++ (zWk cI h_LB q_LB LB) ++ (zWk cI h_LN q_LN LN))[i]?))) (va_runV (As := []) (rest := [vI r_23]) hF.1 (c_Tr_least l D cI cZ cT h_T q_T T H.size (r_26) e_27) (cwV 0 hts (zgV wm594 wm595 wm596 wm33 wm597) rfl rfl rfl (by decide +kernel) ⟨Nat.le_of_ble_eq_true rfl, Nat.le_of_ble_eq_true rfl⟩) ⟨zP.blind, va_recv hK (z_subP (ws' := (zTr cI (h_T) (q_T) (T))) hP [3, 4, 5, 6, 7, 8] rfl) (ci := 4) (q0 := 0) rfl rfl, zP.enter (z_subP (ws' := (zTr cI (h_T) (q_T) (T))) hP [3, 4, 5, 6, 7, 8] rfl) hK (hD.sub [3, 4, 5, 6, 7, 8] (by decide) rfl) hN⟩ rfl rfl hl.1 rfl (lv_room (Nat.le_of_ble_eq_true rfl)) dX0_takeOutBox_82 ⟨Nat.le_refl _, Nat.le_refl _⟩) hP hD hS hA [3, 4, 5, 6, 7, 8] [0, 1, 2, 9, 10, 11, 12, 13, 14] [0, 1, 2, 9, 10, 11, 12, 13, 14, 3, 4, 5, 6, 7, 8] rfl rfl (by decide) (fun _ => rfl) (fun u_28 H locs hP hD hS hz => ?_)
          obtain ⟨g_29, h⟩ := gd_e h
          obtain ⟨g_30, h⟩ := gd_e h
          refine z_icmp_ge (tgt := 93) hx hb g_29 g_30 dX0_takeOutBox_85 (by decide) (fun b_31 => ?_) (fun b_31 => ?_)
          · have h := it_n b_31 h
            refine lv_iload hx hb dX0_takeOutBox_93 (lv_at hl 0 rfl) ?_
            refine lv_istore_n (lv' := [(2, vI r_20), (4, vI r_20), (0, .ref h_C), (3, vI x3)]) hx hb dX0_takeOutBox_95 rfl hl (by decide) rfl (fun ls hl => ?_)
            refine lv_iinc (v := Int32.ofInt (x3 + 1)) (lv' := [(3, vI (x3 + 1)), (2, vI r_20), (4, vI r_20), (0, .ref h_C)]) hx hb dX0_takeOutBox_96 hl (k := 3) rfl (z_inc _ _) (by decide) rfl (fun ls hl => ?_)
            refine lv_goto (tgt := 32) hx hb dX0_takeOutBox_99 (by decide) ?_
            exact ih (r_20) ((x3 + 1)) (c_kept) (c_keptCount) (T) H locs ls h hP hD hS (lv_sub hl [3, 1, 0] rfl)
          · have h := it_p b_31 h
            refine lv_aload_n hx hb dX0_takeOutBox_88 rfl (lv_at hl 1 rfl) ?_
            refine lv_iload_n hx hb dX0_takeOutBox_89 rfl (lv_at hl 2 rfl) ?_
            obtain ⟨c_kept_32, c_keptCount_33, T_34, e_35, h⟩ := bd3_e h
            refine z_gov (wc := (zCh cI (h_C) (q_C) (h_T) (h_LB) (h_LN) (c_kept) (c_keptCount) (c_pool) (c_left) (c_treated)) ++ (zTr cI (h_T) (q_T) (T)) ++ (zWk cI (h_LB) (q_LB) (LB)) ++ (zWk cI (h_LN) (q_LN) (LN))) (wn := fun u_36 => (zCh cI h_C q_C h_T h_LB h_LN c_kept_32 c_keptCount_33 c_pool c_left c_treated) ++ (zTr cI h_T q_T T_34) ++ (zWk cI h_LB q_LB LB) ++ (zWk cI h_LN q_LN LN)) (wr := []) (va_runV (As := [vI x2]) (rest := []) hF.1 (c_Ch_keepEntriesOf l D cI cZ cT h_C q_C h_T h_LB h_LN q_T q_LB q_LN c_kept c_keptCount c_pool c_left c_treated T LB LN x2 H.size (c_kept_32, c_keptCount_33, T_34) e_35) (cwV 1 hts (zgV wm636 wm638 wm22 wm35 wm639) rfl rfl rfl (by decide +kernel) ⟨Nat.le_of_ble_eq_true rfl, Nat.le_of_ble_eq_true rfl⟩) ⟨zP.blind, va_recv hK (z_subP (ws' := (zCh cI (h_C) (q_C) (h_T) (h_LB) (h_LN) (c_kept) (c_keptCount) (c_pool) (c_left) (c_treated)) ++ (zTr cI (h_T) (q_T) (T)) ++ (zWk cI (h_LB) (q_LB) (LB)) ++ (zWk cI (h_LN) (q_LN) (LN))) hP [0, 1, 2, 3, 4, 5, 6, 7, 8, 9, 10, 11, 12, 13, 14] rfl) (ci := 0) (q0 := 0) rfl rfl, zP.enter (z_subP (ws' := (zCh cI (h_C) (q_C) (h_T) (h_LB) (h_LN) (c_kept) (c_keptCount) (c_pool) (c_left) (c_treated)) ++ (zTr cI (h_T) (q_T) (T)) ++ (zWk cI (h_LB) (q_LB) (LB)) ++ (zWk cI (h_LN) (q_LN) (LN))) hP [0, 1, 2, 3, 4, 5, 6, 7, 8, 9, 10, 11, 12, 13, 14] rfl) hK (hD.sub [0, 1, 2, 3, 4, 5, 6, 7, 8, 9, 10, 11, 12, 13, 14] (by decide) rfl) hN⟩ rfl rfl hl.1 rfl (lv_room (Nat.le_of_ble_eq_true rfl)) dX0_takeOutBox_90 ⟨Nat.le_refl _, Nat.le_refl _⟩) hP hD hS hA [0, 1, 2, 3, 4, 5, 6, 7, 8, 9, 10, 11, 12, 13, 14] [] [0, 1, 2, 3, 4, 5, 6, 7, 8, 9, 10, 11, 12, 13, 14] rfl rfl (by decide) (fun _ => rfl) (fun u_36 H locs hP hD hS hz => ?_)
            refine lv_iload hx hb dX0_takeOutBox_93 (lv_at hl 0 rfl) ?_
            refine lv_istore_n (lv' := [(2, vI r_20), (4, vI r_20), (0, .ref h_C), (3, vI x3)]) hx hb dX0_takeOutBox_95 rfl hl (by decide) rfl (fun ls hl => ?_)
            refine lv_iinc (v := Int32.ofInt (x3 + 1)) (lv' := [(3, vI (x3 + 1)), (2, vI r_20), (4, vI r_20), (0, .ref h_C)]) hx hb dX0_takeOutBox_96 hl (k := 3) rfl (z_inc _ _) (by decide) rfl (fun ls hl => ?_)
            refine lv_goto (tgt := 32) hx hb dX0_takeOutBox_99 (by decide) ?_
            exact ih (r_20) ((x3 + 1)) (c_kept_32) (c_keptCount_33) (T_34) H locs ls h hP hD hS (lv_sub hl [3, 1, 0] rfl)
set_option maxHeartbeats 4000000 in
set_option maxRecDepth 100000 in
theorem c_Ch_takeOutBox (l : Launch) (D : va_G) (cI cZ cT : ClassId) (h_C : Nat) (q_C : Nat → Nat) (h_T : Nat) (h_LB : Nat) (h_LN : Nat) (q_T : Nat → Nat) (q_LB : Nat → Nat) (q_LN : Nat → Nat) (c_kept : Nat → Int) (c_keptCount : Int) (c_pool : Nat → Int) (c_left : Int) (c_treated : Int64) (T : TV) (LB : KV) (LN : KV) (x1 : Int) (sz : Nat) (res : (Nat → Int) × Int × TV) (h : f_Ch_takeOutBox c_kept T x1 = some res) : zMv l yX0_takeOutBox cX0_takeOutBox 5 rm_Ch_takeOutBox D (zt cI cZ cT) [.ref h_C, vI x1] ((zCh cI h_C q_C h_T h_LB h_LN c_kept c_keptCount c_pool c_left c_treated) ++ (zTr cI h_T q_T T) ++ (zWk cI h_LB q_LB LB) ++ (zWk cI h_LN q_LN LN)) sz (fun u => (zCh cI h_C q_C h_T h_LB h_LN (res.1) (res.2.1) c_pool c_left c_treated) ++ (zTr cI h_T q_T (res.2.2)) ++ (zWk cI h_LB q_LB LB) ++ (zWk cI h_LN q_LN LN)) 0 0 := by
  refine z_enth (Qc := zQv D (fun u => (zCh cI h_C q_C h_T h_LB h_LN (res.1) (res.2.1) c_pool c_left c_treated) ++ (zTr cI h_T q_T (res.2.2)) ++ (zWk cI h_LB q_LB LB) ++ (zWk cI h_LN q_LN LN))) (by decide) (Nat.le_of_ble_eq_true rfl) (fun p e s m args below meth c A ls H locs hF hP hD hS hl => ?_)
  have hx := hF.1.1
  have hb := hF.1.2.1
  have hml := hF.1.2.2.1
  have hown : s.vm.findClass "RectangleTree$Changes" = some m.cls := hF.1.2.2.2.1
  have hts := hF.1.2.2.2.2
  have hr := hF.2.1
  have hlk := hF.2.2.1
  have hK := hF.2.2.2.2.1
  have hN := hF.2.2.2.2.2.1
  have hA := hF.2.2.2.2.2.2
  unfold f_Ch_takeOutBox at h
  refine lv_aload_n hx hb dX0_takeOutBox_0 rfl (lv_at hl 0 rfl) ?_
  refine va_get (D := D) (ci := 0) (v := .ref h_T) (C := RX0) (T := TX0) (N := 8) hx hb hts zin0 hown hK hP 0 rfl rfl 0 (by decide) (hts _ wm132) (fun _ h9 => h9) rfl dX0_takeOutBox_1 ?_
  refine lv_iload_n hx hb dX0_takeOutBox_4 rfl (lv_at hl 1 rfl) ?_
  obtain ⟨r_1, e_2, h⟩ := bd1_e h
  refine z_goi (ws' := []) (ret := r_1) (wc := (zTr cI (h_T) (q_T) (T))) (wn := fun u_3 => (zCh cI h_C q_C h_T h_LB h_LN c_kept c_keptCount c_pool c_left c_treated) ++ (zTr cI h_T q_T T) ++ (zWk cI h_LB q_LB LB) ++ (zWk cI h_LN q_LN LN)) (wr := ([0, 1, 2, 9, 10, 11, 12, 13, 14].filterMap (fun i => ((zCh cI h_C q_C h_T h_LB h_LN c_kept c_keptCount c_pool c_left c_treated) ++ (zTr cI h_T q_T T) ++ (zWk cI h_LB q_LB LB) ++ (zWk cI h_LN q_LN LN))[i]?))) (va_runV (As := [vI x1]) (rest := []) hF.1 (c_Tr_holderOf l D cI cZ cT h_T q_T T x1 H.size (r_1) e_2) (cwV 1 hts (zgV wm573 wm349 wm350 wm33 wm351) rfl rfl rfl (by decide +kernel) ⟨Nat.le_of_ble_eq_true rfl, Nat.le_of_ble_eq_true rfl⟩) ⟨zP.blind, va_recv hK (z_subP (ws' := (zTr cI (h_T) (q_T) (T))) hP [3, 4, 5, 6, 7, 8] rfl) (ci := 4) (q0 := 0) rfl rfl, zP.enter (z_subP (ws' := (zTr cI (h_T) (q_T) (T))) hP [3, 4, 5, 6, 7, 8] rfl) hK (hD.sub [3, 4, 5, 6, 7, 8] (by decide) rfl) hN⟩ rfl rfl hl.1 rfl (lv_room (Nat.le_of_ble_eq_true rfl)) dX0_takeOutBox_5 ⟨Nat.le_refl _, Nat.le_refl _⟩) hP hD hS hA [3, 4, 5, 6, 7, 8] [0, 1, 2, 9, 10, 11, 12, 13, 14] [0, 1, 2, 9, 10, 11, 12, 13, 14, 3, 4, 5, 6, 7, 8] rfl rfl (by decide) (fun _ => rfl) (fun u_3 H locs hP hD hS hz => ?_)
  refine lv_istore_n (lv' := [(2, vI r_1), (0, .ref h_C), (1, vI x1)]) hx hb dX0_takeOutBox_8 rfl hl (by decide) rfl (fun ls hl => ?_)
  refine lv_aload_n hx hb dX0_takeOutBox_9 rfl (lv_at hl 1 rfl) ?_
  refine va_get (D := D) (ci := 0) (v := .ref h_T) (C := RX0) (T := TX0) (N := 8) hx hb hts zin0 hown hK hP 0 rfl rfl 0 (by decide) (hts _ wm132) (fun _ h9 => h9) rfl dX0_takeOutBox_10 ?_
  refine lv_iload_n hx hb dX0_takeOutBox_13 rfl (lv_at hl 2 rfl) ?_
  obtain ⟨T_4, e_5, h⟩ := bd1_e h
  refine z_gov (wc := (zTr cI (h_T) (q_T) (T))) (wn := fun u_6 => (zCh cI h_C q_C h_T h_LB h_LN c_kept c_keptCount c_pool c_left c_treated) ++ (zTr cI h_T q_T T_4) ++ (zWk cI h_LB q_LB LB) ++ (zWk cI h_LN q_LN LN)) (wr := ([0, 1, 2, 9, 10, 11, 12, 13, 14].filterMap (fun i => ((zCh cI h_C q_C h_T h_LB h_LN c_kept c_keptCount c_pool c_left c_treated) ++ (zTr cI h_T q_T T) ++ (zWk cI h_LB q_LB LB) ++ (zWk cI h_LN q_LN LN))[i]?))) (va_runV (As := [vI x1]) (rest := []) hF.1 (c_Tr_takeOut l D cI cZ cT h_T q_T T x1 H.size (T_4) e_5) (cwV 1 hts (zgV wm550 wm551 wm552 wm33 wm553) rfl rfl rfl (by decide +kernel) ⟨Nat.le_of_ble_eq_true rfl, Nat.le_of_ble_eq_true rfl⟩) ⟨zP.blind, va_recv hK (z_subP (ws' := (zTr cI (h_T) (q_T) (T))) hP [3, 4, 5, 6, 7, 8] rfl) (ci := 4) (q0 := 0) rfl rfl, zP.enter (z_subP (ws' := (zTr cI (h_T) (q_T) (T))) hP [3, 4, 5, 6, 7, 8] rfl) hK (hD.sub [3, 4, 5, 6, 7, 8] (by decide) rfl) hN⟩ rfl rfl hl.1 rfl (lv_room (Nat.le_of_ble_eq_true rfl)) dX0_takeOutBox_14 ⟨Nat.le_refl _, Nat.le_refl _⟩) hP hD hS hA [3, 4, 5, 6, 7, 8] [0, 1, 2, 9, 10, 11, 12, 13, 14] [0, 1, 2, 9, 10, 11, 12, 13, 14, 3, 4, 5, 6, 7, 8] rfl rfl (by decide) (fun _ => rfl) (fun u_6 H locs hP hD hS hz => ?_)
  refine lv_aload_n hx hb dX0_takeOutBox_17 rfl (lv_at hl 1 rfl) ?_
  refine va_get (D := D) (ci := 0) (v := .ref h_T) (C := RX0) (T := TX0) (N := 8) hx hb hts zin0 hown hK hP 0 rfl rfl 0 (by decide) (hts _ wm132) (fun _ h9 => h9) rfl dX0_takeOutBox_18 ?_
  refine lv_iload_n hx hb dX0_takeOutBox_21 rfl (lv_at hl 2 rfl) ?_
  obtain ⟨T_7, e_8, h⟩ := bd1_e h
  refine z_gov (wc := (zTr cI (h_T) (q_T) (T_4))) (wn := fun u_9 => (zCh cI h_C q_C h_T h_LB h_LN c_kept c_keptCount c_pool c_left c_treated) ++ (zTr cI h_T q_T T_7) ++ (zWk cI h_LB q_LB LB) ++ (zWk cI h_LN q_LN LN)) (wr := ([0, 1, 2, 9, 10, 11, 12, 13, 14].filterMap (fun i => ((zCh cI h_C q_C h_T h_LB h_LN c_kept c_keptCount c_pool c_left c_treated) ++ (zTr cI h_T q_T T_4) ++ (zWk cI h_LB q_LB LB) ++ (zWk cI h_LN q_LN LN))[i]?))) (va_runV (As := [vI x1]) (rest := []) hF.1 (c_Tr_release l D cI cZ cT h_T q_T T_4 x1 H.size (T_7) e_8) (cwV 1 hts (zgV wm631 wm632 wm633 wm33 wm634) rfl rfl rfl (by decide +kernel) ⟨Nat.le_of_ble_eq_true rfl, Nat.le_of_ble_eq_true rfl⟩) ⟨zP.blind, va_recv hK (z_subP (ws' := (zTr cI (h_T) (q_T) (T_4))) hP [3, 4, 5, 6, 7, 8] rfl) (ci := 4) (q0 := 0) rfl rfl, zP.enter (z_subP (ws' := (zTr cI (h_T) (q_T) (T_4))) hP [3, 4, 5, 6, 7, 8] rfl) hK (hD.sub [3, 4, 5, 6, 7, 8] (by decide) rfl) hN⟩ rfl rfl hl.1 rfl (lv_room (Nat.le_of_ble_eq_true rfl)) dX0_takeOutBox_22 ⟨Nat.le_refl _, Nat.le_refl _⟩) hP hD hS hA [3, 4, 5, 6, 7, 8] [0, 1, 2, 9, 10, 11, 12, 13, 14] [0, 1, 2, 9, 10, 11, 12, 13, 14, 3, 4, 5, 6, 7, 8] rfl rfl (by decide) (fun _ => rfl) (fun u_9 H locs hP hD hS hz => ?_)
  refine lv_aload_n hx hb dX0_takeOutBox_25 rfl (lv_at hl 1 rfl) ?_
  refine lv_iconst (v := Int32.ofInt 0) hx hb dX0_takeOutBox_26 rfl ?_
  refine va_put (D := D) (ci := 0) (v := vI 0) (ty := .int) (C := RX0) (T := TX0) (N := 8) hx hb hts zin0 tyX0 tyX0_ok nmX0 hown hK hP hD hS 0 rfl rfl 2 (by decide) (hts _ wm134) (fun _ h9 => h9) rfl (by decide +kernel) rfl rfl (Nat.le_of_ble_eq_true rfl) dX0_takeOutBox_27 (fun H locs hP hD hS => ?_)
  replace hP : va_P D vwCl ((zCh cI h_C q_C h_T h_LB h_LN c_kept 0 c_pool c_left c_treated) ++ (zTr cI h_T q_T T_7) ++ (zWk cI h_LB q_LB LB) ++ (zWk cI h_LN q_LN LN)) H := hP
  replace hD : va_D A ((zCh cI h_C q_C h_T h_LB h_LN c_kept 0 c_pool c_left c_treated) ++ (zTr cI h_T q_T T_7) ++ (zWk cI h_LB q_LB LB) ++ (zWk cI h_LN q_LN LN)) := hD
  refine lv_iconst (v := Int32.ofInt 0) hx hb dX0_takeOutBox_30 rfl ?_
  refine lv_istore_n (lv' := [(3, vI 0), (2, vI r_1), (0, .ref h_C), (1, vI x1)]) hx hb dX0_takeOutBox_31 rfl hl (by decide) rfl (fun ls hl => ?_)
  refine w_Ch_takeOutBox_L32 D cI cZ cT (h_C) (q_C) (h_T) (h_LB) (h_LN) (q_T) (q_LB) (q_LN) (c_pool) (c_left) (c_treated) (LB) (LN) _ _ hF (fun x2_37 x3_38 c_kept_39 c_keptCount_40 T_41 H locs ls h hP hD hS hl => ?_) _ (r_1) (0) (c_kept) (0) (T_7) _ _ _ h hP hD hS (lv_sub hl [2, 1, 0] rfl)
  refine lv_aload_n hx hb dX0_takeOutBox_102 rfl (lv_at hl 0 rfl) ?_
  refine va_get (D := D) (ci := 0) (v := .ref h_T) (C := RX0) (T := TX0) (N := 8) hx hb hts zin0 hown hK hP 0 rfl rfl 0 (by decide) (hts _ wm132) (fun _ h9 => h9) rfl dX0_takeOutBox_103 ?_
  obtain ⟨T_42, e_43, h⟩ := bd1_e h
  refine z_gov (wc := (zTr cI (h_T) (q_T) (T_41))) (wn := fun u_44 => (zCh cI h_C q_C h_T h_LB h_LN c_kept_39 c_keptCount_40 c_pool c_left c_treated) ++ (zTr cI h_T q_T T_42) ++ (zWk cI h_LB q_LB LB) ++ (zWk cI h_LN q_LN LN)) (wr := ([0, 1, 2, 9, 10, 11, 12, 13, 14].filterMap (fun i => ((zCh cI h_C q_C h_T h_LB h_LN c_kept_39 c_keptCount_40 c_pool c_left c_treated) ++ (zTr cI h_T q_T T_41) ++ (zWk cI h_LB q_LB LB) ++ (zWk cI h_LN q_LN LN))[i]?))) (va_runV (As := []) (rest := []) hF.1 (c_Tr_lowerRoot l D cI cZ cT h_T q_T T_41 H.size (T_42) e_43) (cwV 0 hts (zgV wm644 wm645 wm646 wm33 wm647) rfl rfl rfl (by decide +kernel) ⟨Nat.le_of_ble_eq_true rfl, Nat.le_of_ble_eq_true rfl⟩) ⟨zP.blind, va_recv hK (z_subP (ws' := (zTr cI (h_T) (q_T) (T_41))) hP [3, 4, 5, 6, 7, 8] rfl) (ci := 4) (q0 := 0) rfl rfl, zP.enter (z_subP (ws' := (zTr cI (h_T) (q_T) (T_41))) hP [3, 4, 5, 6, 7, 8] rfl) hK (hD.sub [3, 4, 5, 6, 7, 8] (by decide) rfl) hN⟩ rfl rfl hl.1 rfl (lv_room (Nat.le_of_ble_eq_true rfl)) dX0_takeOutBox_106 ⟨Nat.le_refl _, Nat.le_refl _⟩) hP hD hS hA [3, 4, 5, 6, 7, 8] [0, 1, 2, 9, 10, 11, 12, 13, 14] [0, 1, 2, 9, 10, 11, 12, 13, 14, 3, 4, 5, 6, 7, 8] rfl rfl (by decide) (fun _ => rfl) (fun u_44 H locs hP hD hS hz => ?_)
  obtain rfl := Option.some.inj h
  exact z_vret hx hb hr hlk (fun _ _ => 0) hP hD hS dX0_takeOutBox_109
