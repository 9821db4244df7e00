def f_Rt_nodeAt (K : KV) (x1 : Int) : Option (Int) :=
  bd1 (f_Rt_at (kLen K) (kItm K) x1) <| fun r_1 => some (r_1)
abbrev rm_Rt_nodeAt : Room := ({ frames := 1, cells := 0, slots := 0, locals := 21 } : Room)

set_option maxHeartbeats 4000000 in
set_option maxRecDepth 100000 in
theorem c_Rt_nodeAt (l : Launch) (D : va_G) (cI cZ cT : ClassId) (h_R : Nat) (ht_R : Nat) (hc_R : Nat) (hp_R : Nat) (h_K : Nat) (hx_R : Nat) (hh_R : Nat) (hs_R : Nat) (q_K : Nat → Nat) (c_hasSnapshot : Int) (K : KV) (x1 : Int) (sz : Nat) (res : Int) (h : f_Rt_nodeAt K x1 = some res) : zMi l yX6_nodeAt cX6_nodeAt 2 rm_Rt_nodeAt D (zt cI cZ cT) [.ref h_R, vI x1] ((zRt h_R ht_R hc_R hp_R h_K hx_R hh_R hs_R c_hasSnapshot) ++ (zWk cI h_K q_K K)) sz (res) (fun u => (zRt h_R ht_R hc_R hp_R h_K hx_R hh_R hs_R c_hasSnapshot) ++ (zWk cI h_K q_K K)) 0 0 := by
  refine z_enth (Qc := zQi D (res) (fun u => (zRt h_R ht_R hc_R hp_R h_K hx_R hh_R hs_R c_hasSnapshot) ++ (zWk cI h_K q_K K))) (by decide) (Nat.le_of_ble_eq_true rfl) (fun p e s m args below meth c A ls H locs hF hP hD hS hl => ?_)
  have hx := hF.1.1
  have hb := hF.1.2.1
  have hml := hF.1.2.2.1
  have hown : s.vm.findClass "RectangleTree" = some m.cls := hF.1.2.2.2.1
  have hts := hF.1.2.2.2.2
  have hr := hF.2.1
  have hlk := hF.2.2.1
  have hK := hF.2.2.2.2.1
  have hN := hF.2.2.2.2.2.1
  have hA := hF.2.2.2.2.2.2
  unfold f_Rt_nodeAt at h
  refine lv_aload_n hx hb dX6_nodeAt_0 rfl (lv_at hl 0 rfl) ?_
  refine va_get (D := D) (ci := 6) (v := .ref h_K) (C := RX6) (T := TX6) (N := 8) hx hb hts zin6 hown hK hP 0 rfl rfl 3 (by decide) (hts _ wm243) (fun _ h9 => h9) rfl dX6_nodeAt_1 ?_
  refine va_get (D := D) (ci := 5) (v := .ref (q_K 0)) (C := RX5) (T := TX5) (N := 3) hx hb hts zin5 hown hK hP 1 rfl rfl 0 (by decide) (hts _ wm120) (fun _ h9 => h9) rfl dX6_nodeAt_4 ?_
  refine lv_iload_n hx hb dX6_nodeAt_7 rfl (lv_at hl 1 rfl) ?_
  obtain ⟨r_1, e_2, h⟩ := bd1_e h
  refine z_goi (ws' := []) (ret := r_1) (wc := (zAr cI ((q_K 0)) ((kLen K)) ((kItm K)))) (wn := fun u_3 => (zRt h_R ht_R hc_R hp_R h_K hx_R hh_R hs_R c_hasSnapshot) ++ (zWk cI h_K q_K K)) (wr := ([0, 1, 3].filterMap (fun i => ((zRt h_R ht_R hc_R hp_R h_K hx_R hh_R hs_R c_hasSnapshot) ++ (zWk cI h_K q_K K))[i]?))) (va_runS (As := [.ref (q_K 0), vI x1]) (rest := []) hF.1 (c_Rt_at l D cI cZ cT (q_K 0) (kLen K) (kItm K) x1 H.size (r_1) e_2) (va_cwS 2 hts (zgS wm299 wm228 wm32 wm229) rfl rfl rfl (by decide +kernel) ⟨Nat.le_of_ble_eq_true rfl, Nat.le_of_ble_eq_true rfl⟩) ⟨zP.blind, zP.enter (z_subP (ws' := (zAr cI ((q_K 0)) ((kLen K)) ((kItm K)))) hP [2] rfl) hK (hD.sub [2] (by decide) rfl) hN⟩ rfl rfl hl.1 rfl (lv_room (Nat.le_of_ble_eq_true rfl)) dX6_nodeAt_8 ⟨Nat.le_refl _, Nat.le_refl _⟩) hP hD hS hA [2] [0, 1, 3] [0, 1, 3, 2] rfl rfl (by decide) (fun _ => rfl) (fun u_3 H locs hP hD hS hz => ?_)
  obtain rfl := Option.some.inj h
  exact z_iret hx hb hr hlk (fun _ _ => 0) hP hD hS dX6_nodeAt_11
def f_Rt_hasNode (K : KV) (x1 : Int) : Option (Int) :=
  gd (ck x1) <| if x1 < 0 then (some (0)) else (gd (ck (kCnt K)) <| if x1 < (kCnt K) then (some (1)) else (some (0)))
abbrev rm_Rt_hasNode : Room := ({ frames := 0, cells := 0, slots := 0, locals := 0 } : Room)

set_option maxHeartbeats 4000000 in
set_option maxRecDepth 100000 in
theorem c_Rt_hasNode (l : Launch) (D : va_G) (cI cZ cT : ClassId) (h_R : Nat) (ht_R : Nat) (hc_R : Nat) (hp_R : Nat) (h_K : Nat) (hx_R : Nat) (hh_R : Nat) (hs_R : Nat) (q_K : Nat → Nat) (c_hasSnapshot : Int) (K : KV) (x1 : Int) (sz : Nat) (res : Int) (h : f_Rt_hasNode K x1 = some res) : zMz l yX6_hasNode cX6_hasNode 2 rm_Rt_hasNode D (zt cI cZ cT) [.ref h_R, vI x1] ((zRt h_R ht_R hc_R hp_R h_K hx_R hh_R hs_R c_hasSnapshot) ++ (zWk cI h_K q_K K)) sz (res) (fun u => (zRt h_R ht_R hc_R hp_R h_K hx_R hh_R hs_R c_hasSnapshot) ++ (zWk cI h_K q_K K)) 0 0 := by
  refine z_enth (Qc := zQi D (res) (fun u => (zRt h_R ht_R hc_R hp_R h_K hx_R hh_R hs_R c_hasSnapshot) ++ (zWk cI h_K q_K K))) (by decide) (Nat.le_of_ble_eq_true rfl) (fun p e s m args below meth c A ls H locs hF hP hD hS hl => ?_)
  have hx := hF.1.1
  have hb := hF.1.2.1
  have hml := hF.1.2.2.1
  have hown : s.vm.findClass "RectangleTree" = some m.cls := hF.1.2.2.2.1
  have hts := hF.1.2.2.2.2
  have hr := hF.2.1
  have hlk := hF.2.2.1
  have hK := hF.2.2.2.2.1
  have hN := hF.2.2.2.2.2.1
  have hA := hF.2.2.2.2.2.2
  unfold f_Rt_hasNode at h
  refine lv_iload_n hx hb dX6_hasNode_0 rfl (lv_at hl 1 rfl) ?_
  obtain ⟨g_1, h⟩ := gd_e h
  refine z_if_lt (tgt := 19) hx hb g_1 dX6_hasNode_1 (by decide) (fun b_2 => ?_) (fun b_2 => ?_)
  · have h := it_p b_2 h
    refine lv_iconst (v := Int32.ofInt 0) hx hb dX6_hasNode_19 rfl ?_
    obtain rfl := Option.some.inj h
    exact z_zret hx hb hr hlk (by decide) (fun _ _ => 0) hP hD hS dX6_hasNode_20
  · have h := it_n b_2 h
    refine lv_iload_n hx hb dX6_hasNode_4 rfl (lv_at hl 1 rfl) ?_
    refine lv_aload_n hx hb dX6_hasNode_5 rfl (lv_at hl 0 rfl) ?_
    refine va_get (D := D) (ci := 6) (v := .ref h_K) (C := RX6) (T := TX6) (N := 8) hx hb hts zin6 hown hK hP 0 rfl rfl 3 (by decide) (hts _ wm243) (fun _ h9 => h9) rfl dX6_hasNode_6 ?_
    refine va_get (D := D) (ci := 5) (v := vI (kCnt K)) (C := RX5) (T := TX5) (N := 3) hx hb hts zin5 hown hK hP 1 rfl rfl 1 (by decide) (hts _ wm122) (fun _ h9 => h9) rfl dX6_hasNode_9 ?_
    obtain ⟨g_3, h⟩ := gd_e h
    refine z_icmp_ge (tgt := 19) hx hb g_1 g_3 dX6_hasNode_12 (by decide) (fun b_4 => ?_) (fun b_4 => ?_)
    · have h := it_n b_4 h
      refine lv_iconst (v := Int32.ofInt 0) hx hb dX6_hasNode_19 rfl ?_
      obtain rfl := Option.some.inj h
      exact z_zret hx hb hr hlk (by decide) (fun _ _ => 0) hP hD hS dX6_hasNode_20
    · have h := it_p b_4 h
      refine lv_iconst (v := Int32.ofInt 1) hx hb dX6_hasNode_15 rfl ?_
      refine lv_goto (tgt := 20) hx hb dX6_hasNode_16 (by decide) ?_
      obtain rfl := Option.some.inj h
      exact z_zret hx hb hr hlk (by decide) (fun _ _ => 0) hP hD hS dX6_hasNode_20
def f_Rt_numberNodes (T : TV) (K : KV) : Option (KV) :=
  bd1 (f_Wk_gather K T (tRoot T) 1) <| fun K_1 => some (K_1)
abbrev rm_Rt_numberNodes : Room := ({ frames := 3, cells := 0, slots := 0, locals := 70 } : Room)
theorem mo_Rt_numberNodes (T : TV) (K : KV) (res : KV) (h : f_Rt_numberNodes T K = some res) : (kLen K) ≤ (kLen (res)) := by
  unfold f_Rt_numberNodes at h
  obtain ⟨K_1, e_2, h⟩ := bd1_e h
  have mo_4 : (kLen K) ≤ (kLen K_1) := mo_Wk_gather K T (tRoot T) 1 (K_1) e_2
  obtain rfl := Option.some.inj h
  exact (show (kLen K) ≤ (kLen K_1) from by omega)
set_option maxHeartbeats 4000000 in
set_option maxRecDepth 100000 in
theorem c_Rt_numberNodes (l : Launch) (D : va_G) (cI cZ cT : ClassId) (h_R : Nat) (h_T : Nat) (hc_R : Nat) (hp_R : Nat) (h_K : Nat) (hx_R : Nat) (hh_R : Nat) (hs_R : Nat) (q_T : Nat → Nat) (q_K : Nat → Nat) (c_hasSnapshot : Int) (T : TV) (K : KV) (sz : Nat) (res : KV) (h : f_Rt_numberNodes T K = some res) : zMv l yX6_numberNodes cX6_numberNodes 1 rm_Rt_numberNodes D (zt cI cZ cT) [.ref h_R] ((zRt h_R h_T hc_R hp_R h_K hx_R hh_R hs_R c_hasSnapshot) ++ (zTr cI h_T q_T T) ++ (zWk cI h_K q_K K)) sz (fun u => (zRt h_R h_T hc_R hp_R h_K hx_R hh_R hs_R c_hasSnapshot) ++ (zTr cI h_T q_T T) ++ (zWk cI h_K q_K (res))) 0 0 := by
  refine z_enth (Qc := zQv D (fun u => (zRt h_R h_T hc_R hp_R h_K hx_R hh_R hs_R c_hasSnapshot) ++ (zTr cI h_T q_T T) ++ (zWk cI h_K q_K (res)))) (by decide) (Nat.le_of_ble_eq_true rfl) (fun p e s m args below meth c A ls H locs hF hP hD hS hl => ?_)
  have hx := hF.1.1
  have hb := hF.1.2.1
  have hml := hF.1.2.2.1
  have hown : s.vm.findClass "RectangleTree" = some m.cls := hF.1.2.2.2.1
  have hts := hF.1.2.2.2.2
  have hr := hF.2.1
  have hlk := hF.2.2.1
  have hK := hF.2.2.2.2.1
  have hN := hF.2.2.2.2.2.1
  have hA := hF.2.2.2.2.2.2
  unfold f_Rt_numberNodes at h
  refine lv_aload_n hx hb dX6_numberNodes_0 rfl (lv_at hl 0 rfl) ?_
  refine va_get (D := D) (ci := 6) (v := .ref h_K) (C := RX6) (T := TX6) (N := 8) hx hb hts zin6 hown hK hP 0 rfl rfl 3 (by decide) (hts _ wm243) (fun _ h9 => h9) rfl dX6_numberNodes_1 ?_
  refine lv_aload_n hx hb dX6_numberNodes_4 rfl (lv_at hl 0 rfl) ?_
  refine va_get (D := D) (ci := 6) (v := .ref h_T) (C := RX6) (T := TX6) (N := 8) hx hb hts zin6 hown hK hP 0 rfl rfl 0 (by decide) (hts _ wm240) (fun _ h9 => h9) rfl dX6_numberNodes_5 ?_
  refine lv_aload_n hx hb dX6_numberNodes_8 rfl (lv_at hl 0 rfl) ?_
  refine va_get (D := D) (ci := 6) (v := .ref h_T) (C := RX6) (T := TX6) (N := 8) hx hb hts zin6 hown hK hP 0 rfl rfl 0 (by decide) (hts _ wm240) (fun _ h9 => h9) rfl dX6_numberNodes_9 ?_
  refine va_get (D := D) (ci := 4) (v := vI (tRoot T)) (C := RX4) (T := TX4) (N := 10) hx hb hts zin4 hown hK hP 1 rfl rfl 5 (by decide) (hts _ wm70) (fun _ h9 => h9) rfl dX6_numberNodes_12 ?_
  refine lv_iconst (v := Int32.ofInt 1) hx hb dX6_numberNodes_15 rfl ?_
  obtain ⟨K_1, e_2, h⟩ := bd1_e h
  have mo_4 : (kLen K) ≤ (kLen K_1) := mo_Wk_gather K T (tRoot T) 1 (K_1) e_2
  refine z_gov (wc := (zWk cI (h_K) (q_K) (K)) ++ (zTr cI (h_T) (q_T) (T))) (wn := fun u_3 => (zRt h_R h_T hc_R hp_R h_K hx_R hh_R hs_R c_hasSnapshot) ++ (zTr cI h_T q_T T) ++ (zWk cI h_K q_K K_1)) (wr := ([0].filterMap (fun i => ((zRt h_R h_T hc_R hp_R h_K hx_R hh_R hs_R c_hasSnapshot) ++ (zTr cI h_T q_T T) ++ (zWk cI h_K q_K K))[i]?))) (va_runV (As := [.ref h_T, vI (tRoot T), vI 1]) (rest := []) hF.1 (c_Wk_gather l D cI cZ cT h_K q_K h_T q_T K T (tRoot T) 1 H.size (K_1) e_2) (cwV 3 hts (zgV wm221 wm222 wm223 wm36 wm224) rfl rfl rfl (by decide +kernel) ⟨Nat.le_of_ble_eq_true rfl, Nat.le_of_ble_eq_true rfl⟩) ⟨zP.blind, va_recv hK (z_subP (ws' := (zWk cI (h_K) (q_K) (K)) ++ (zTr cI (h_T) (q_T) (T))) hP [7, 8, 9, 1, 2, 3, 4, 5, 6] rfl) (ci := 5) (q0 := 0) rfl rfl, zP.enter (z_subP (ws' := (zWk cI (h_K) (q_K) (K)) ++ (zTr cI (h_T) (q_T) (T))) hP [7, 8, 9, 1, 2, 3, 4, 5, 6] rfl) hK (hD.sub [7, 8, 9, 1, 2, 3, 4, 5, 6] (by decide) rfl) hN⟩ rfl rfl hl.1 rfl (lv_room (Nat.le_of_ble_eq_true rfl)) dX6_numberNodes_16 ⟨Nat.le_refl _, Nat.le_refl _⟩) hP hD hS hA [7, 8, 9, 1, 2, 3, 4, 5, 6] [0] [0, 4, 5, 6, 7, 8, 9, 1, 2, 3] rfl rfl (by decide) (fun _ => rfl) (fun u_3 H locs hP hD hS hz => ?_)
  obtain rfl := Option.some.inj h
  exact z_vret hx hb hr hlk (fun _ _ => 0) hP hD hS dX6_numberNodes_19
def f_Rt_nodes (K : KV) : Option (Int) :=
  some ((kCnt K))
abbrev rm_Rt_nodes : Room := ({ frames := 0, cells := 0, slots := 0, locals := 0 } : Room)

set_option maxHeartbeats 4000000 in
set_option maxRecDepth 100000 in
theorem c_Rt_nodes (l : Launch) (D : va_G) (cI cZ cT : ClassId) (h_R : Nat) (ht_R : Nat) (hc_R : Nat) (hp_R : Nat) (h_K : Nat) (hx_R : Nat) (hh_R : Nat) (hs_R : Nat) (q_K : Nat → Nat) (c_hasSnapshot : Int) (K : KV) (sz : Nat) (res : Int) (h : f_Rt_nodes K = some res) : zMi l yX6_nodes cX6_nodes 1 rm_Rt_nodes D (zt cI cZ cT) [.ref h_R] ((zRt h_R ht_R hc_R hp_R h_K hx_R hh_R hs_R c_hasSnapshot) ++ (zWk cI h_K q_K K)) sz (res) (fun u => (zRt h_R ht_R hc_R hp_R h_K hx_R hh_R hs_R c_hasSnapshot) ++ (zWk cI h_K q_K K)) 0 0 := by
  refine z_enth (Qc := zQi D (res) (fun u => (zRt h_R ht_R hc_R hp_R h_K hx_R hh_R hs_R c_hasSnapshot) ++ (zWk cI h_K q_K K))) (by decide) (Nat.le_of_ble_eq_true rfl) (fun p e s m args below meth c A ls H locs hF hP hD hS hl => ?_)
  have hx := hF.1.1
  have hb := hF.1.2.1
  have hml := hF.1.2.2.1
  have hown : s.vm.findClass "RectangleTree" = some m.cls := hF.1.2.2.2.1
  have hts := hF.1.2.2.2.2
  have hr := hF.2.1
  have hlk := hF.2.2.1
  have hK := hF.2.2.2.2.1
  have hN := hF.2.2.2.2.2.1
  have hA := hF.2.2.2.2.2.2
  unfold f_Rt_nodes at h
  refine lv_aload_n hx hb dX6_nodes_0 rfl (lv_at hl 0 rfl) ?_
  refine va_get (D := D) (ci := 6) (v := .ref h_K) (C := RX6) (T := TX6) (N := 8) hx hb hts zin6 hown hK hP 0 rfl rfl 3 (by decide) (hts _ wm243) (fun _ h9 => h9) rfl dX6_nodes_1 ?_
  refine va_get (D := D) (ci := 5) (v := vI (kCnt K)) (C := RX5) (T := TX5) (N := 3) hx hb hts zin5 hown hK hP 1 rfl rfl 1 (by decide) (hts _ wm122) (fun _ h9 => h9) rfl dX6_nodes_4 ?_
  obtain rfl := Option.some.inj h
  exact z_iret hx hb hr hlk (fun _ _ => 0) hP hD hS dX6_nodes_7
def f_Rt_height (T : TV) : Option (Int) :=
  bd1 (f_Tr_levelOf T (tRoot T)) <| fun r_1 => some (r_1)
abbrev rm_Rt_height : Room := ({ frames := 1, cells := 0, slots := 0, locals := 21 } : Room)

set_option maxHeartbeats 4000000 in
set_option maxRecDepth 100000 in
theorem c_Rt_height (l : Launch) (D : va_G) (cI cZ cT : ClassId) (h_R : Nat) (h_T : Nat) (hc_R : Nat) (hp_R : Nat) (hn_R : Nat) (hx_R : Nat) (hh_R : Nat) (hs_R : Nat) (q_T : Nat → Nat) (c_hasSnapshot : Int) (T : TV) (sz : Nat) (res : Int) (h : f_Rt_height T = some res) : zMi l yX6_height cX6_height 1 rm_Rt_height D (zt cI cZ cT) [.ref h_R] ((zRt h_R h_T hc_R hp_R hn_R hx_R hh_R hs_R c_hasSnapshot) ++ (zTr cI h_T q_T T)) sz (res) (fun u => (zRt h_R h_T hc_R hp_R hn_R hx_R hh_R hs_R c_hasSnapshot) ++ (zTr cI h_T q_T T)) 0 0 := by
  refine z_enth (Qc := zQi D (res) (fun u => (zRt h_R h_T hc_R hp_R hn_R hx_R hh_R hs_R c_hasSnapshot) ++ (zTr cI h_T q_T T))) (by decide) (Nat.le_of_ble_eq_true rfl) (fun p e s m args below meth c A ls H locs hF hP hD hS hl => ?_)
  have hx := hF.1.1
  have hb := hF.1.2.1
  have hml := hF.1.2.2.1
  have hown : s.vm.findClass "RectangleTree" = some m.cls := hF.1.2.2.2.1
  have hts := hF.1.2.2.2.2
  have hr := hF.2.1
  have hlk := hF.2.2.1
  have hK := hF.2.2.2.2.1
  have hN := hF.2.2.2.2.2.1
  have hA := hF.2.2.2.2.2.2
  unfold f_Rt_height at h
  refine lv_aload_n hx hb dX6_height_0 rfl (lv_at hl 0 rfl) ?_
  refine va_get (D := D) (ci := 6) (v := .ref h_T) (C := RX6) (T := TX6) (N := 8) hx hb hts zin6 hown hK hP 0 rfl rfl 0 (by decide) (hts _ wm240) (fun _ h9 => h9) rfl dX6_height_1 ?_
  refine lv_aload_n hx hb dX6_height_4 rfl (lv_at hl 0 rfl) ?_
  refine va_get (D := D) (ci := 6) (v := .ref h_T) (C := RX6) (T := TX6) (N := 8) hx hb hts zin6 hown hK hP 0 rfl rfl 0 (by decide) (hts _ wm240) (fun _ h9 => h9) rfl dX6_height_5 ?_
  refine va_get (D := D) (ci := 4) (v := vI (tRoot T)) (C := RX4) (T := TX4) (N := 10) hx hb hts zin4 hown hK hP 1 rfl rfl 5 (by decide) (hts _ wm70) (fun _ h9 => h9) rfl dX6_height_8 ?_
  obtain ⟨r_1, e_2, h⟩ := bd1_e h
  refine z_goi (ws' := []) (ret := r_1) (wc := (zTr cI (h_T) (q_T) (T))) (wn := fun u_3 => (zRt h_R h_T hc_R hp_R hn_R hx_R hh_R hs_R c_hasSnapshot) ++ (zTr cI h_T q_T T)) (wr := ([0].filterMap (fun i => ((zRt h_R h_T hc_R hp_R hn_R hx_R hh_R hs_R c_hasSnapshot) ++ (zTr cI h_T q_T T))[i]?))) (va_runV (As := [vI (tRoot T)]) (rest := []) hF.1 (c_Tr_levelOf l D cI cZ cT h_T q_T T (tRoot T) H.size (r_1) e_2) (cwV 1 hts (zgV wm300 wm301 wm302 wm33 wm303) rfl rfl rfl (by decide +kernel) ⟨Nat.le_of_ble_eq_true rfl, Nat.le_of_ble_eq_true rfl⟩) ⟨zP.blind, va_recv hK (z_subP (ws' := (zTr cI (h_T) (q_T) (T))) hP [1, 2, 3, 4, 5, 6] rfl) (ci := 4) (q0 := 0) rfl rfl, zP.enter (z_subP (ws' := (zTr cI (h_T) (q_T) (T))) hP [1, 2, 3, 4, 5, 6] rfl) hK (hD.sub [1, 2, 3, 4, 5, 6] (by decide) rfl) hN⟩ rfl rfl hl.1 rfl (lv_room (Nat.le_of_ble_eq_true rfl)) dX6_height_11 ⟨Nat.le_refl _, Nat.le_refl _⟩) hP hD hS hA [1, 2, 3, 4, 5, 6] [0] [0, 1, 2, 3, 4, 5, 6] rfl rfl (by decide) (fun _ => rfl) (fun u_3 H locs hP hD hS hz => ?_)
  obtain rfl := Option.some.inj h
  exact z_iret hx hb hr hlk (fun _ _ => 0) hP hD hS dX6_height_14
def f_Rt_level (T : TV) (K : KV) (x1 : Int) : Option (Int) :=
  bd1 (f_Rt_hasNode K x1) <| fun r_1 => gd (ck r_1) <| if r_1 = 0 then (some ((-1))) else (bd1 (f_Rt_nodeAt K x1) <| fun r_6 => bd1 (f_Tr_levelOf T r_6) <| fun r_9 => some (r_9))
abbrev rm_Rt_level : Room := ({ frames := 2, cells := 0, slots := 0, locals := 42 } : Room)

set_option maxHeartbeats 4000000 in
set_option maxRecDepth 100000 in
theorem c_Rt_level (l : Launch) (D : va_G) (cI cZ cT : ClassId) (h_R : Nat) (h_T : Nat) (hc_R : Nat) (hp_R : Nat) (h_K : Nat) (hx_R : Nat) (hh_R : Nat) (hs_R : Nat) (q_T : Nat → Nat) (q_K : Nat → Nat) (c_hasSnapshot : Int) (T : TV) (K : KV) (x1 : Int) (sz : Nat) (res : Int) (h : f_Rt_level T K x1 = some res) : zMi l yX6_level cX6_level 2 rm_Rt_level D (zt cI cZ cT) [.ref h_R, vI x1] ((zRt h_R h_T hc_R hp_R h_K hx_R hh_R hs_R c_hasSnapshot) ++ (zTr cI h_T q_T T) ++ (zWk cI h_K q_K K)) sz (res) (fun u => (zRt h_R h_T hc_R hp_R h_K hx_R hh_R hs_R c_hasSnapshot) ++ (zTr cI h_T q_T T) ++ (zWk cI h_K q_K K)) 0 0 := by
  refine z_enth (Qc := zQi D (res) (fun u => (zRt h_R h_T hc_R hp_R h_K hx_R hh_R hs_R c_hasSnapshot) ++ (zTr cI h_T q_T T) ++ (zWk cI h_K q_K K))) (by decide) (Nat.le_of_ble_eq_true rfl) (fun p e s m args below meth c A ls H locs hF hP hD hS hl => ?_)
  have hx := hF.1.1
  have hb := hF.1.2.1
  have hml := hF.1.2.2.1
  have hown : s.vm.findClass "RectangleTree" = some m.cls := hF.1.2.2.2.1
  have hts := hF.1.2.2.2.2
  have hr := hF.2.1
  have hlk := hF.2.2.1
  have hK := hF.2.2.2.2.1
  have hN := hF.2.2.2.2.2.1
  have hA := hF.2.2.2.2.2.2
  unfold f_Rt_level at h
  refine lv_aload_n hx hb dX6_level_0 rfl (lv_at hl 0 rfl) ?_
  refine lv_iload_n hx hb dX6_level_1 rfl (lv_at hl 1 rfl) ?_
  obtain ⟨r_1, e_2, h⟩ := bd1_e h
  refine z_goi (ws' := []) (ret := r_1) (wc := (zRt (h_R) (h_T) (hc_R) (hp_R) (h_K) (hx_R) (hh_R) (hs_R) (c_hasSnapshot)) ++ (zWk cI (h_K) (q_K) (K))) (wn := fun u_3 => (zRt h_R h_T hc_R hp_R h_K hx_R hh_R hs_R c_hasSnapshot) ++ (zTr cI h_T q_T T) ++ (zWk cI h_K q_K K)) (wr := ([1, 2, 3, 4, 5, 6].filterMap (fun i => ((zRt h_R h_T hc_R hp_R h_K hx_R hh_R hs_R c_hasSnapshot) ++ (zTr cI h_T q_T T) ++ (zWk cI h_K q_K K))[i]?))) (va_runV (As := [vI x1]) (rest := []) hF.1 (c_Rt_hasNode l D cI cZ cT h_R h_T hc_R hp_R h_K hx_R hh_R hs_R q_K c_hasSnapshot K x1 H.size (r_1) e_2) (cwV 1 hts (zgV wm291 wm293 wm1 wm32 wm294) rfl rfl rfl (by decide +kernel) ⟨Nat.le_of_ble_eq_true rfl, Nat.le_of_ble_eq_true rfl⟩) ⟨zP.blind, va_recv hK (z_subP (ws' := (zRt (h_R) (h_T) (hc_R) (hp_R) (h_K) (hx_R) (hh_R) (hs_R) (c_hasSnapshot)) ++ (zWk cI (h_K) (q_K) (K))) hP [0, 7, 8, 9] rfl) (ci := 6) (q0 := 0) rfl rfl, zP.enter (z_subP (ws' := (zRt (h_R) (h_T) (hc_R) (hp_R) (h_K) (hx_R) (hh_R) (hs_R) (c_hasSnapshot)) ++ (zWk cI (h_K) (q_K) (K))) hP [0, 7, 8, 9] rfl) hK (hD.sub [0, 7, 8, 9] (by decide) rfl) hN⟩ rfl rfl hl.1 rfl (lv_room (Nat.le_of_ble_eq_true rfl)) dX6_level_2 ⟨Nat.le_refl _, Nat.le_refl _⟩) hP hD hS hA [0, 7, 8, 9] [1, 2, 3, 4, 5, 6] [6, 0, 1, 2, 3, 4, 5, 7, 8, 9] rfl rfl (by decide) (fun _ => rfl) (fun u_3 H locs hP hD hS hz => ?_)
  obtain ⟨g_4, h⟩ := gd_e h
  refine z_if_eq (tgt := 23) hx hb g_4 dX6_level_5 (by decide) (fun b_5 => ?_) (fun b_5 => ?_)
  · have h := it_p b_5 h
    refine lv_iconst (v := Int32.ofInt (-1)) hx hb dX6_level_23 rfl ?_
    obtain rfl := Option.some.inj h
    exact z_iret hx hb hr hlk (fun _ _ => 0) hP hD hS dX6_level_24
  · have h := it_n b_5 h
    refine lv_aload_n hx hb dX6_level_8 rfl (lv_at hl 0 rfl) ?_
    refine va_get (D := D) (ci := 6) (v := .ref h_T) (C := RX6) (T := TX6) (N := 8) hx hb hts zin6 hown hK hP 0 rfl rfl 0 (by decide) (hts _ wm240) (fun _ h9 => h9) rfl dX6_level_9 ?_
    refine lv_aload_n hx hb dX6_level_12 rfl (lv_at hl 0 rfl) ?_
    refine lv_iload_n hx hb dX6_level_13 rfl (lv_at hl 1 rfl) ?_
    obtain ⟨r_6, e_7, h⟩ := bd1_e h
    refine z_goi (ws' := []) (ret := r_6) (wc := (zRt (h_R) (h_T) (hc_R) (hp_R) (h_K) (hx_R) (hh_R) (hs_R) (c_hasSnapshot)) ++ (zWk cI (h_K) (q_K) (K))) (wn := fun u_8 => (zRt h_R h_T hc_R hp_R h_K hx_R hh_R hs_R c_hasSnapshot) ++ (zTr cI h_T q_T T) ++ (zWk cI h_K q_K K)) (wr := ([1, 2, 3, 4, 5, 6].filterMap (fun i => ((zRt h_R h_T hc_R hp_R h_K hx_R hh_R hs_R c_hasSnapshot) ++ (zTr cI h_T q_T T) ++ (zWk cI h_K q_K K))[i]?))) (va_runV (As := [vI x1]) (rest := [.ref h_T]) hF.1 (c_Rt_nodeAt l D cI cZ cT h_R h_T hc_R hp_R h_K hx_R hh_R hs_R q_K c_hasSnapshot K x1 H.size (r_6) e_7) (cwV 1 hts (zgV wm295 wm297 wm2 wm32 wm298) rfl rfl rfl (by decide +kernel) ⟨Nat.le_of_ble_eq_true rfl, Nat.le_of_ble_eq_true rfl⟩) ⟨zP.blind, va_recv hK (z_subP (ws' := (zRt (h_R) (h_T) (hc_R) (hp_R) (h_K) (hx_R) (hh_R) (hs_R) (c_hasSnapshot)) ++ (zWk cI (h_K) (q_K) (K))) hP [0, 7, 8, 9] rfl) (ci := 6) (q0 := 0) rfl rfl, zP.enter (z_subP (ws' := (zRt (h_R) (h_T) (hc_R) (hp_R) (h_K) (hx_R) (hh_R) (hs_R) (c_hasSnapshot)) ++ (zWk cI (h_K) (q_K) (K))) hP [0, 7, 8, 9] rfl) hK (hD.sub [0, 7, 8, 9] (by decide) rfl) hN⟩ rfl rfl hl.1 rfl (lv_room (Nat.le_of_ble_eq_true rfl)) dX6_level_14 ⟨Nat.le_refl _, Nat.le_refl _⟩) hP hD hS hA [0, 7, 8, 9] [1, 2, 3, 4, 5, 6] [6, 0, 1, 2, 3, 4, 5, 7, 8, 9] rfl rfl (by decide) (fun _ => rfl) (fun u_8 H locs hP hD hS hz => ?_)
    obtain ⟨r_9, e_10, h⟩ := bd1_e h
    refine z_goi (ws' := []) (ret := r_9) (wc := (zTr cI (h_T) (q_T) (T))) (wn := fun u_11 => (zRt h_R h_T hc_R hp_R h_K hx_R hh_R hs_R c_hasSnapshot) ++ (zTr cI h_T q_T T) ++ (zWk cI h_K q_K K)) (wr := ([0, 7, 8, 9].filterMap (fun i => ((zRt h_R h_T hc_R hp_R h_K hx_R hh_R hs_R c_hasSnapshot) ++ (zTr cI h_T q_T T) ++ (zWk cI h_K q_K K))[i]?))) (va_runV (As := [vI r_6]) (rest := []) hF.1 (c_Tr_levelOf l D cI cZ cT h_T q_T T r_6 H.size (r_9) e_10) (cwV 1 hts (zgV wm300 wm301 wm302 wm33 wm303) rfl rfl rfl (by decide +kernel) ⟨Nat.le_of_ble_eq_true rfl, Nat.le_of_ble_eq_true rfl⟩) ⟨zP.blind, va_recv hK (z_subP (ws' := (zTr cI (h_T) (q_T) (T))) hP [1, 2, 3, 4, 5, 6] rfl) (ci := 4) (q0 := 0) rfl rfl, zP.enter (z_subP (ws' := (zTr cI (h_T) (q_T) (T))) hP [1, 2, 3, 4, 5, 6] rfl) hK (hD.sub [1, 2, 3, 4, 5, 6] (by decide) rfl) hN⟩ rfl rfl hl.1 rfl (lv_room (Nat.le_of_ble_eq_true rfl)) dX6_level_17 ⟨Nat.le_refl _, Nat.le_refl _⟩) hP hD hS hA [1, 2, 3, 4, 5, 6] [0, 7, 8, 9] [0, 4, 5, 6, 7, 8, 9, 1, 2, 3] rfl rfl (by decide) (fun _ => rfl) (fun u_11 H locs hP hD hS hz => ?_)
    refine lv_goto (tgt := 24) hx hb dX6_level_20 (by decide) ?_
    obtain rfl := Option.some.inj h
    exact z_iret hx hb hr hlk (fun _ _ => 0) hP hD hS dX6_level_24
def f_Rt_entries (T : TV) (K : KV) (x1 : Int) : Option (Int) :=
  bd1 (f_Rt_hasNode K x1) <| fun r_1 => gd (ck r_1) <| if r_1 = 0 then (some ((-1))) else (bd1 (f_Rt_nodeAt K x1) <| fun r_6 => bd1 (f_Tr_sizeOf T r_6) <| fun r_9 => some (r_9))
abbrev rm_Rt_entries : Room := ({ frames := 2, cells := 0, slots := 0, locals := 42 } : Room)

set_option maxHeartbeats 4000000 in
set_option maxRecDepth 100000 in
theorem c_Rt_entries (l : Launch) (D : va_G) (cI cZ cT : ClassId) (h_R : Nat) (h_T : Nat) (hc_R : Nat) (hp_R : Nat) (h_K : Nat) (hx_R : Nat) (hh_R : Nat) (hs_R : Nat) (q_T : Nat → Nat) (q_K : Nat → Nat) (c_hasSnapshot : Int) (T : TV) (K : KV) (x1 : Int) (sz : Nat) (res : Int) (h : f_Rt_entries T K x1 = some res) : zMi l yX6_entries cX6_entries 2 rm_Rt_entries D (zt cI cZ cT) [.ref h_R, vI x1] ((zRt h_R h_T hc_R hp_R h_K hx_R hh_R hs_R c_hasSnapshot) ++ (zTr cI h_T q_T T) ++ (zWk cI h_K q_K K)) sz (res) (fun u => (zRt h_R h_T hc_R hp_R h_K hx_R hh_R hs_R c_hasSnapshot) ++ (zTr cI h_T q_T T) ++ (zWk cI h_K q_K K)) 0 0 := by
  refine z_enth (Qc := zQi D (res) (fun u => (zRt h_R h_T hc_R hp_R h_K hx_R hh_R hs_R c_hasSnapshot) ++ (zTr cI h_T q_T T) ++ (zWk cI h_K q_K K))) (by decide) (Nat.le_of_ble_eq_true rfl) (fun p e s m args below meth c A ls H locs hF hP hD hS hl => ?_)
  have hx := hF.1.1
  have hb := hF.1.2.1
  have hml := hF.1.2.2.1
  have hown : s.vm.findClass "RectangleTree" = some m.cls := hF.1.2.2.2.1
  have hts := hF.1.2.2.2.2
  have hr := hF.2.1
  have hlk := hF.2.2.1
  have hK := hF.2.2.2.2.1
  have hN := hF.2.2.2.2.2.1
  have hA := hF.2.2.2.2.2.2
  unfold f_Rt_entries at h
  refine lv_aload_n hx hb dX6_entries_0 rfl (lv_at hl 0 rfl) ?_
  refine lv_iload_n hx hb dX6_entries_1 rfl (lv_at hl 1 rfl) ?_
  obtain ⟨r_1, e_2, h⟩ := bd1_e h
  refine z_goi (ws' := []) (ret := r_1) (wc := (zRt (h_R) (h_T) (hc_R) (hp_R) (h_K) (hx_R) (hh_R) (hs_R) (c_hasSnapshot)) ++ (zWk cI (h_K) (q_K) (K))) (wn := fun u_3 => (zRt h_R h_T hc_R hp_R h_K hx_R hh_R hs_R c_hasSnapshot) ++ (zTr cI h_T q_T T) ++ (zWk cI h_K q_K K)) (wr := ([1, 2, 3, 4, 5, 6].filterMap (fun i => ((zRt h_R h_T hc_R hp_R h_K hx_R hh_R hs_R c_hasSnapshot) ++ (zTr cI h_T q_T T) ++ (zWk cI h_K q_K K))[i]?))) (va_runV (As := [vI x1]) (rest := []) hF.1 (c_Rt_hasNode l D cI cZ cT h_R h_T hc_R hp_R h_K hx_R hh_R hs_R q_K c_hasSnapshot K x1 H.size (r_1) e_2) (cwV 1 hts (zgV wm291 wm293 wm1 wm32 wm294) rfl rfl rfl (by decide +kernel) ⟨Nat.le_of_ble_eq_true rfl, Nat.le_of_ble_eq_true rfl⟩) ⟨zP.blind, va_recv hK (z_subP (ws' := (zRt (h_R) (h_T) (hc_R) (hp_R) (h_K) (hx_R) (hh_R) (hs_R) (c_hasSnapshot)) ++ (zWk cI (h_K) (q_K) (K))) hP [0, 7, 8, 9] rfl) (ci := 6) (q0 := 0) rfl rfl, zP.enter (z_subP (ws' := (zRt (h_R) (h_T) (hc_R) (hp_R) (h_K) (hx_R) (hh_R) (hs_R) (c_hasSnapshot)) ++ (zWk cI (h_K) (q_K) (K))) hP [0, 7, 8, 9] rfl) hK (hD.sub [0, 7, 8, 9] (by decide) rfl) hN⟩ rfl rfl hl.1 rfl (lv_room (Nat.le_of_ble_eq_true rfl)) dX6_entries_2 ⟨Nat.le_refl _, Nat.le_refl _⟩) hP hD hS hA [0, 7, 8, 9] [1, 2, 3, 4, 5, 6] [6, 0, 1, 2, 3, 4, 5, 7, 8, 9] rfl rfl (by decide) (fun _ => rfl) (fun u_3 H locs hP hD hS hz => ?_)
  obtain ⟨g_4, h⟩ := gd_e h
  refine z_if_eq (tgt := 23) hx hb g_4 dX6_entries_5 (by decide) (fun b_5 => ?_) (fun b_5 => ?_)
  · have h := it_p b_5 h
    refine lv_iconst (v := Int32.ofInt (-1)) hx hb dX6_entries_23 rfl ?_
    obtain rfl := Option.some.inj h
    exact z_iret hx hb hr hlk (fun _ _ => 0) hP hD hS dX6_entries_24
  · have h := it_n b_5 h
    refine lv_aload_n hx hb dX6_entries_8 rfl (lv_at hl 0 rfl) ?_
    refine va_get (D := D) (ci := 6) (v := .ref h_T) (C := RX6) (T := TX6) (N := 8) hx hb hts zin6 hown hK hP 0 rfl rfl 0 (by decide) (hts _ wm240) (fun _ h9 => h9) rfl dX6_entries_9 ?_
    refine lv_aload_n hx hb dX6_entries_12 rfl (lv_at hl 0 rfl) ?_
    refine lv_iload_n hx hb dX6_entries_13 rfl (lv_at hl 1 rfl) ?_
    obtain ⟨r_6, e_7, h⟩ := bd1_e h
    refine z_goi (ws' := []) (ret := r_6) (wc := (zRt (h_R) (h_T) (hc_R) (hp_R) (h_K) (hx_R) (hh_R) (hs_R) (c_hasSnapshot)) ++ (zWk cI (h_K) (q_K) (K))) (wn := fun u_8 => (zRt h_R h_T hc_R hp_R h_K hx_R hh_R hs_R c_hasSnapshot) ++ (zTr cI h_T q_T T) ++ (zWk cI h_K q_K K)) (wr := ([1, 2, 3, 4, 5, 6].filterMap (fun i => ((zRt h_R h_T hc_R hp_R h_K hx_R hh_R hs_R c_hasSnapshot) ++ (zTr cI h_T q_T T) ++ (zWk cI h_K q_K K))[i]?))) (va_runV (As := [vI x1]) (rest := [.ref h_T]) hF.1 (c_Rt_nodeAt l D cI cZ cT h_R h_T hc_R hp_R h_K hx_R hh_R hs_R q_K c_hasSnapshot K x1 H.size (r_6) e_7) (cwV 1 hts (zgV wm295 wm297 wm2 wm32 wm298) rfl rfl rfl (by decide +kernel) ⟨Nat.le_of_ble_eq_true rfl, Nat.le_of_ble_eq_true rfl⟩) ⟨zP.blind, va_recv hK (z_subP (ws' := (zRt (h_R) (h_T) (hc_R) (hp_R) (h_K) (hx_R) (hh_R) (hs_R) (c_hasSnapshot)) ++ (zWk cI (h_K) (q_K) (K))) hP [0, 7, 8, 9] rfl) (ci := 6) (q0 := 0) rfl rfl, zP.enter (z_subP (ws' := (zRt (h_R) (h_T) (hc_R) (hp_R) (h_K) (hx_R) (hh_R) (hs_R) (c_hasSnapshot)) ++ (zWk cI (h_K) (q_K) (K))) hP [0, 7, 8, 9] rfl) hK (hD.sub [0, 7, 8, 9] (by decide) rfl) hN⟩ rfl rfl hl.1 rfl (lv_room (Nat.le_of_ble_eq_true rfl)) dX6_entries_14 ⟨Nat.le_refl _, Nat.le_refl _⟩) hP hD hS hA [0, 7, 8, 9] [1, 2, 3, 4, 5, 6] [6, 0, 1, 2, 3, 4, 5, 7, 8, 9] rfl rfl (by decide) (fun _ => rfl) (fun u_8 H locs hP hD hS hz => ?_)
    obtain ⟨r_9, e_10, h⟩ := bd1_e h
    refine z_goi (ws' := []) (ret := r_9) (wc := (zTr cI (h_T) (q_T) (T))) (wn := fun u_11 => (zRt h_R h_T hc_R hp_R h_K hx_R hh_R hs_R c_hasSnapshot) ++ (zTr cI h_T q_T T) ++ (zWk cI h_K q_K K)) (wr := ([0, 7, 8, 9].filterMap (fun i => ((zRt h_R h_T hc_R hp_R h_K hx_R hh_R hs_R c_hasSnapshot) ++ (zTr cI h_T q_T T) ++ (zWk cI h_K q_K K))[i]?))) (va_runV (As := [vI r_6]) (rest := []) hF.1 (c_Tr_sizeOf l D cI cZ cT h_T q_T T r_6 H.size (r_9) e_10) (cwV 1 hts (zgV wm312 wm231 wm232 wm33 wm233) rfl rfl rfl (by decide +kernel) ⟨Nat.le_of_ble_eq_true rfl, Nat.le_of_ble_eq_true rfl⟩) ⟨zP.blind, va_recv hK (z_subP (ws' := (zTr cI (h_T) (q_T) (T))) hP [1, 2, 3, 4, 5, 6] rfl) (ci := 4) (q0 := 0) rfl rfl, zP.enter (z_subP (ws' := (zTr cI (h_T) (q_T) (T))) hP [1, 2, 3, 4, 5, 6] rfl) hK (hD.sub [1, 2, 3, 4, 5, 6] (by decide) rfl) hN⟩ rfl rfl hl.1 rfl (lv_room (Nat.le_of_ble_eq_true rfl)) dX6_entries_17 ⟨Nat.le_refl _, Nat.le_refl _⟩) hP hD hS hA [1, 2, 3, 4, 5, 6] [0, 7, 8, 9] [0, 4, 5, 6, 7, 8, 9, 1, 2, 3] rfl rfl (by decide) (fun _ => rfl) (fun u_11 H locs hP hD hS hz => ?_)
    refine lv_goto (tgt := 24) hx hb dX6_entries_20 (by decide) ?_
    obtain rfl := Option.some.inj h
    exact z_iret hx hb hr hlk (fun _ _ => 0) hP hD hS dX6_entries_24
def f_Rt_entry (T : TV) (K : KV) (x1 : Int) (x2 : Int) : Option (Int) :=
  bd1 (f_Rt_hasNode K x1) <| fun r_1 => gd (ck r_1) <| if r_1 = 0 then (some ((-1))) else (bd1 (f_Rt_nodeAt K x1) <| fun r_6 => gd (ck x2) <| if x2 < 0 then (some ((-1))) else (bd1 (f_Tr_sizeOf T r_6) <| fun r_11 => gd (ck r_11) <| if x2 < r_11 then (bd1 (f_Tr_entryAt T r_6 x2) <| fun r_16 => gd (ck r_16) <| if r_16 < 24 then (some (r_16)) else (bd1 (f_Wk_placeOf K r_16) <| fun r_21 => some (r_21))) else (some ((-1)))))
abbrev rm_Rt_entry : Room := ({ frames := 2, cells := 0, slots := 0, locals := 43 } : Room)

set_option maxHeartbeats 4000000 in
set_option maxRecDepth 100000 in
theorem c_Rt_entry (l : Launch) (D : va_G) (cI cZ cT : ClassId) (h_R : Nat) (h_T : Nat) (hc_R : Nat) (hp_R : Nat) (h_K : Nat) (hx_R : Nat) (hh_R : Nat) (hs_R : Nat) (q_T : Nat → Nat) (q_K : Nat → Nat) (c_hasSnapshot : Int) (T : TV) (K : KV) (x1 : Int) (x2 : Int) (sz : Nat) (res : Int) (h : f_Rt_entry T K x1 x2 = some res) : zMi l yX6_entry cX6_entry 5 rm_Rt_entry D (zt cI cZ cT) [.ref h_R, vI x1, vI x2] ((zRt h_R h_T hc_R hp_R h_K hx_R hh_R hs_R c_hasSnapshot) ++ (zTr cI h_T q_T T) ++ (zWk cI h_K q_K K)) sz (res) (fun u => (zRt h_R h_T hc_R hp_R h_K hx_R hh_R hs_R c_hasSnapshot) ++ (zTr cI h_T q_T T) ++ (zWk cI h_K q_K K)) 0 0 := by
  refine z_enth (Qc := zQi D (res) (fun u => (zRt h_R h_T hc_R hp_R h_K hx_R hh_R hs_R c_hasSnapshot) ++ (zTr cI h_T q_T T) ++ (zWk cI h_K q_K K))) (by decide) (Nat.le_of_ble_eq_true rfl) (fun p e s m args below meth c A ls H locs hF hP hD hS hl => ?_)
  have hx := hF.1.1
  have hb := hF.1.2.1
  have hml := hF.1.2.2.1
  have hown : s.vm.findClass "RectangleTree" = some m.cls := hF.1.2.2.2.1
  have hts := hF.1.2.2.2.2
  have hr := hF.2.1
  have hlk := hF.2.2.1
  have hK := hF.2.2.2.2.1
  have hN := hF.2.2.2.2.2.1
  have hA := hF.2.2.2.2.2.2
  unfold f_Rt_entry at h
  refine lv_aload_n hx hb dX6_entry_0 rfl (lv_at hl 0 rfl) ?_
  refine lv_iload_n hx hb dX6_entry_1 rfl (lv_at hl 1 rfl) ?_
  obtain ⟨r_1, e_2, h⟩ := bd1_e h
  refine z_goi (ws' := []) (ret := r_1) (wc := (zRt (h_R) (h_T) (hc_R) (hp_R) (h_K) (hx_R) (hh_R) (hs_R) (c_hasSnapshot)) ++ (zWk cI (h_K) (q_K) (K))) (wn := fun u_3 => (zRt h_R h_T hc_R hp_R h_K hx_R hh_R hs_R c_hasSnapshot) ++ (zTr cI h_T q_T T) ++ (zWk cI h_K q_K K)) (wr := ([1, 2, 3, 4, 5, 6].filterMap (fun i => ((zRt h_R h_T hc_R hp_R h_K hx_R hh_R hs_R c_hasSnapshot) ++ (zTr cI h_T q_T T) ++ (zWk cI h_K q_K K))[i]?))) (va_runV (As := [vI x1]) (rest := []) hF.1 (c_Rt_hasNode l D cI cZ cT h_R h_T hc_R hp_R h_K hx_R hh_R hs_R q_K c_hasSnapshot K x1 H.size (r_1) e_2) (cwV 1 hts (zgV wm291 wm293 wm1 wm32 wm294) rfl rfl rfl (by decide +kernel) ⟨Nat.le_of_ble_eq_true rfl, Nat.le_of_ble_eq_true rfl⟩) ⟨zP.blind, va_recv hK (z_subP (ws' := (zRt (h_R) (h_T) (hc_R) (hp_R) (h_K) (hx_R) (hh_R) (hs_R) (c_hasSnapshot)) ++ (zWk cI (h_K) (q_K) (K))) hP [0, 7, 8, 9] rfl) (ci := 6) (q0 := 0) rfl rfl, zP.enter (z_subP (ws' := (zRt (h_R) (h_T) (hc_R) (hp_R) (h_K) (hx_R) (hh_R) (hs_R) (c_hasSnapshot)) ++ (zWk cI (h_K) (q_K) (K))) hP [0, 7, 8, 9] rfl) hK (hD.sub [0, 7, 8, 9] (by decide) rfl) hN⟩ rfl rfl hl.1 rfl (lv_room (Nat.le_of_ble_eq_true rfl)) dX6_entry_2 ⟨Nat.le_refl _, Nat.le_refl _⟩) hP hD hS hA [0, 7, 8, 9] [1, 2, 3, 4, 5, 6] [6, 0, 1, 2, 3, 4, 5, 7, 8, 9] rfl rfl (by decide) (fun _ => rfl) (fun u_3 H locs hP hD hS hz => ?_)
  obtain ⟨g_4, h⟩ := gd_e h
  refine z_if_ne (tgt := 10) hx hb g_4 dX6_entry_5 (by decide) (fun b_5 => ?_) (fun b_5 => ?_)
  · have h := it_n b_5 h
    refine lv_aload_n hx hb dX6_entry_10 rfl (lv_at hl 0 rfl) ?_
    refine lv_iload_n hx hb dX6_entry_11 rfl (lv_at hl 1 rfl) ?_
    obtain ⟨r_6, e_7, h⟩ := bd1_e h
    refine z_goi (ws' := []) (ret := r_6) (wc := (zRt (h_R) (h_T) (hc_R) (hp_R) (h_K) (hx_R) (hh_R) (hs_R) (c_hasSnapshot)) ++ (zWk cI (h_K) (q_K) (K))) (wn := fun u_8 => (zRt h_R h_T hc_R hp_R h_K hx_R hh_R hs_R c_hasSnapshot) ++ (zTr cI h_T q_T T) ++ (zWk cI h_K q_K K)) (wr := ([1, 2, 3, 4, 5, 6].filterMap (fun i => ((zRt h_R h_T hc_R hp_R h_K hx_R hh_R hs_R c_hasSnapshot) ++ (zTr cI h_T q_T T) ++ (zWk cI h_K q_K K))[i]?))) (va_runV (As := [vI x1]) (rest := []) hF.1 (c_Rt_nodeAt l D cI cZ cT h_R h_T hc_R hp_R h_K hx_R hh_R hs_R q_K c_hasSnapshot K x1 H.size (r_6) e_7) (cwV 1 hts (zgV wm295 wm297 wm2 wm32 wm298) rfl rfl rfl (by decide +kernel) ⟨Nat.le_of_ble_eq_true rfl, Nat.le_of_ble_eq_true rfl⟩) ⟨zP.blind, va_recv hK (z_subP (ws' := (zRt (h_R) (h_T) (hc_R) (hp_R) (h_K) (hx_R) (hh_R) (hs_R) (c_hasSnapshot)) ++ (zWk cI (h_K) (q_K) (K))) hP [0, 7, 8, 9] rfl) (ci := 6) (q0 := 0) rfl rfl, zP.enter (z_subP (ws' := (zRt (h_R) (h_T) (hc_R) (hp_R) (h_K) (hx_R) (hh_R) (hs_R) (c_hasSnapshot)) ++ (zWk cI (h_K) (q_K) (K))) hP [0, 7, 8, 9] rfl) hK (hD.sub [0, 7, 8, 9] (by decide) rfl) hN⟩ rfl rfl hl.1 rfl (lv_room (Nat.le_of_ble_eq_true rfl)) dX6_entry_12 ⟨Nat.le_refl _, Nat.le_refl _⟩) hP hD hS hA [0, 7, 8, 9] [1, 2, 3, 4, 5, 6] [6, 0, 1, 2, 3, 4, 5, 7, 8, 9] rfl rfl (by decide) (fun _ => rfl) (fun u_8 H locs hP hD hS hz => ?_)
    refine lv_istore_n (lv' := [(3, vI r_6), (0, .ref h_R), (1, vI x1), (2, vI x2)]) hx hb dX6_entry_15 rfl hl (by decide) rfl (fun ls hl => ?_)
    refine lv_iload_n hx hb dX6_entry_16 rfl (lv_at hl 3 rfl) ?_
    obtain ⟨g_9, h⟩ := gd_e h
    refine z_if_lt (tgt := 32) hx hb g_9 dX6_entry_17 (by decide) (fun b_10 => ?_) (fun b_10 => ?_)
    · have h := it_p b_10 h
      refine lv_iconst (v := Int32.ofInt (-1)) hx hb dX6_entry_32 rfl ?_
      obtain rfl := Option.some.inj h
      exact z_iret hx hb hr hlk (fun _ _ => 0) hP hD hS dX6_entry_33
    · have h := it_n b_10 h
      refine lv_iload_n hx hb dX6_entry_20 rfl (lv_at hl 3 rfl) ?_
      refine lv_aload_n hx hb dX6_entry_21 rfl (lv_at hl 1 rfl) ?_
      refine va_get (D := D) (ci := 6) (v := .ref h_T) (C := RX6) (T := TX6) (N := 8) hx hb hts zin6 hown hK hP 0 rfl rfl 0 (by decide) (hts _ wm240) (fun _ h9 => h9) rfl dX6_entry_22 ?_
      refine lv_iload_n hx hb dX6_entry_25 rfl (lv_at hl 0 rfl) ?_
      obtain ⟨r_11, e_12, h⟩ := bd1_e h
      refine z_goi (ws' := []) (ret := r_11) (wc := (zTr cI (h_T) (q_T) (T))) (wn := fun u_13 => (zRt h_R h_T hc_R hp_R h_K hx_R hh_R hs_R c_hasSnapshot) ++ (zTr cI h_T q_T T) ++ (zWk cI h_K q_K K)) (wr := ([0, 7, 8, 9].filterMap (fun i => ((zRt h_R h_T hc_R hp_R h_K hx_R hh_R hs_R c_hasSnapshot) ++ (zTr cI h_T q_T T) ++ (zWk cI h_K q_K K))[i]?))) (va_runV (As := [vI r_6]) (rest := [vI x2]) hF.1 (c_Tr_sizeOf l D cI cZ cT h_T q_T T r_6 H.size (r_11) e_12) (cwV 1 hts (zgV wm312 wm231 wm232 wm33 wm233) rfl rfl rfl (by decide +kernel) ⟨Nat.le_of_ble_eq_true rfl, Nat.le_of_ble_eq_true rfl⟩) ⟨zP.blind, va_recv hK (z_subP (ws' := (zTr cI (h_T) (q_T) (T))) hP [1, 2, 3, 4, 5, 6] rfl) (ci := 4) (q0 := 0) rfl rfl, zP.enter (z_subP (ws' := (zTr cI (h_T) (q_T) (T))) hP [1, 2, 3, 4, 5, 6] rfl) hK (hD.sub [1, 2, 3, 4, 5, 6] (by decide) rfl) hN⟩ rfl rfl hl.1 rfl (lv_room (Nat.le_of_ble_eq_true rfl)) dX6_entry_26 ⟨Nat.le_refl _, Nat.le_refl _⟩) hP hD hS hA [1, 2, 3, 4, 5, 6] [0, 7, 8, 9] [0, 4, 5, 6, 7, 8, 9, 1, 2, 3] rfl rfl (by decide) (fun _ => rfl) (fun u_13 H locs hP hD hS hz => ?_)
      obtain ⟨g_14, h⟩ := gd_e h
      refine z_icmp_lt (tgt := 34) hx hb g_9 g_14 dX6_entry_29 (by decide) (fun b_15 => ?_) (fun b_15 => ?_)
      · have h := it_p b_15 h
        refine lv_aload_n hx hb dX6_entry_34 rfl (lv_at hl 1 rfl) ?_
        refine va_get (D := D) (ci := 6) (v := .ref h_T) (C := RX6) (T := TX6) (N := 8) hx hb hts zin6 hown hK hP 0 rfl rfl 0 (by decide) (hts _ wm240) (fun _ h9 => h9) rfl dX6_entry_35 ?_
        refine lv_iload_n hx hb dX6_entry_38 rfl (lv_at hl 0 rfl) ?_
        refine lv_iload_n hx hb dX6_entry_39 rfl (lv_at hl 3 rfl) ?_
        obtain ⟨r_16, e_17, h⟩ := bd1_e h
        refine z_goi (ws' := []) (ret := r_16) (wc := (zTr cI (h_T) (q_T) (T))) (wn := fun u_18 => (zRt h_R h_T hc_R hp_R h_K hx_R hh_R hs_R c_hasSnapshot) ++ (zTr cI h_T q_T T) ++ (zWk cI h_K q_K K)) (wr := ([0, 7, 8, 9].filterMap (fun i => ((zRt h_R h_T hc_R hp_R h_K hx_R hh_R hs_R c_hasSnapshot) ++ (zTr cI h_T q_T T) ++ (zWk cI h_K q_K K))[i]?))) (va_runV (As := [vI r_6, vI x2]) (rest := []) hF.1 (c_Tr_entryAt l D cI cZ cT h_T q_T T r_6 x2 H.size (r_16) e_17) (cwV 2 hts (zgV wm325 wm235 wm236 wm33 wm237) rfl rfl rfl (by decide +kernel) ⟨Nat.le_of_ble_eq_true rfl, Nat.le_of_ble_eq_true rfl⟩) ⟨zP.blind, va_recv hK (z_subP (ws' := (zTr cI (h_T) (q_T) (T))) hP [1, 2, 3, 4, 5, 6] rfl) (ci := 4) (q0 := 0) rfl rfl, zP.enter (z_subP (ws' := (zTr cI (h_T) (q_T) (T))) hP [1, 2, 3, 4, 5, 6] rfl) hK (hD.sub [1, 2, 3, 4, 5, 6] (by decide) rfl) hN⟩ rfl rfl hl.1 rfl (lv_room (Nat.le_of_ble_eq_true rfl)) dX6_entry_40 ⟨Nat.le_refl _, Nat.le_refl _⟩) hP hD hS hA [1, 2, 3, 4, 5, 6] [0, 7, 8, 9] [0, 4, 5, 6, 7, 8, 9, 1, 2, 3] rfl rfl (by decide) (fun _ => rfl) (fun u_18 H locs hP hD hS hz => ?_)
        refine lv_istore (lv' := [(4, vI r_16), (3, vI r_6), (0, .ref h_R), (1, vI x1), (2, vI x2)]) hx hb dX6_entry_43 hl (by decide) rfl (fun ls hl => ?_)
        refine lv_iload hx hb dX6_entry_45 (lv_at hl 0 rfl) ?_
        refine lv_bipush (v := Int32.ofInt 24) hx hb dX6_entry_47 (by decide +kernel) ?_
        obtain ⟨g_19, h⟩ := gd_e h
        refine z_icmp_ge (tgt := 57) hx hb g_19 (by decide) dX6_entry_49 (by decide) (fun b_20 => ?_) (fun b_20 => ?_)
        · have h := it_n b_20 h
          refine lv_aload_n hx hb dX6_entry_57 rfl (lv_at hl 2 rfl) ?_
          refine va_get (D := D) (ci := 6) (v := .ref h_K) (C := RX6) (T := TX6) (N := 8) hx hb hts zin6 hown hK hP 0 rfl rfl 3 (by decide) (hts _ wm243) (fun _ h9 => h9) rfl dX6_entry_58 ?_
          refine lv_iload hx hb dX6_entry_61 (lv_at hl 0 rfl) ?_
          obtain ⟨r_21, e_22, h⟩ := bd1_e h
          refine z_goi (ws' := []) (ret := r_21) (wc := (zWk cI (h_K) (q_K) (K))) (wn := fun u_23 => (zRt h_R h_T hc_R hp_R h_K hx_R hh_R hs_R c_hasSnapshot) ++ (zTr cI h_T q_T T) ++ (zWk cI h_K q_K K)) (wr := ([0, 1, 2, 3, 4, 5, 6].filterMap (fun i => ((zRt h_R h_T hc_R hp_R h_K hx_R hh_R hs_R c_hasSnapshot) ++ (zTr cI h_T q_T T) ++ (zWk cI h_K q_K K))[i]?))) (va_runV (As := [vI r_16]) (rest := []) hF.1 (c_Wk_placeOf l D cI cZ cT h_K q_K K r_16 H.size (r_21) e_22) (cwV 1 hts (zgV wm326 wm327 wm328 wm36 wm329) rfl rfl rfl (by decide +kernel) ⟨Nat.le_of_ble_eq_true rfl, Nat.le_of_ble_eq_true rfl⟩) ⟨zP.blind, va_recv hK (z_subP (ws' := (zWk cI (h_K) (q_K) (K))) hP [7, 8, 9] rfl) (ci := 5) (q0 := 0) rfl rfl, zP.enter (z_subP (ws' := (zWk cI (h_K) (q_K) (K))) hP [7, 8, 9] rfl) hK (hD.sub [7, 8, 9] (by decide) rfl) hN⟩ rfl rfl hl.1 rfl (lv_room (Nat.le_of_ble_eq_true rfl)) dX6_entry_63 ⟨Nat.le_refl _, Nat.le_refl _⟩) hP hD hS hA [7, 8, 9] [0, 1, 2, 3, 4, 5, 6] [0, 1, 2, 3, 4, 5, 6, 7, 8, 9] rfl rfl (by decide) (fun _ => rfl) (fun u_23 H locs hP hD hS hz => ?_)
          obtain rfl := Option.some.inj h
          exact z_iret hx hb hr hlk (fun _ _ => 0) hP hD hS dX6_entry_66
        · have h := it_p b_20 h
          refine lv_iload hx hb dX6_entry_52 (lv_at hl 0 rfl) ?_
          refine lv_goto (tgt := 66) hx hb dX6_entry_54 (by decide) ?_
          obtain rfl := Option.some.inj h
          exact z_iret hx hb hr hlk (fun _ _ => 0) hP hD hS dX6_entry_66
      · have h := it_n b_15 h
        refine lv_iconst (v := Int32.ofInt (-1)) hx hb dX6_entry_32 rfl ?_
        obtain rfl := Option.some.inj h
        exact z_iret hx hb hr hlk (fun _ _ => 0) hP hD hS dX6_entry_33
  · have h := it_p b_5 h
    refine lv_iconst (v := Int32.ofInt (-1)) hx hb dX6_entry_8 rfl ?_
    obtain rfl := Option.some.inj h
    exact z_iret hx hb hr hlk (fun _ _ => 0) hP hD hS dX6_entry_9
def f_Rt_bound (T : TV) (K : KV) (x1 : Int) (x2 : Int) : Option (Int) :=
  bd1 (f_Rt_hasNode K x1) <| fun r_1 => gd (ck r_1) <| if r_1 = 0 then (some ((-1))) else (gd (ck x2) <| if x2 < 0 then (some ((-2))) else (if x2 < 4 then (bd1 (f_Rt_nodeAt K x1) <| fun r_9 => bd1 (f_Tr_sizeOf T r_9) <| fun r_12 => gd (ck r_12) <| if r_12 = 0 then (some ((-5))) else (bd1 (f_Tr_corner T r_9 x2) <| fun r_17 => some (r_17))) else (some ((-2)))))
abbrev rm_Rt_bound : Room := ({ frames := 2, cells := 0, slots := 0, locals := 42 } : Room)

set_option maxHeartbeats 4000000 in
set_option maxRecDepth 100000 in
theorem c_Rt_bound (l : Launch) (D : va_G) (cI cZ cT : ClassId) (h_R : Nat) (h_T : Nat) (hc_R : Nat) (hp_R : Nat) (h_K : Nat) (hx_R : Nat) (hh_R : Nat) (hs_R : Nat) (q_T : Nat → Nat) (q_K : Nat → Nat) (c_hasSnapshot : Int) (T : TV) (K : KV) (x1 : Int) (x2 : Int) (sz : Nat) (res : Int) (h : f_Rt_bound T K x1 x2 = some res) : zMi l yX6_bound cX6_bound 4 rm_Rt_bound D (zt cI cZ cT) [.ref h_R, vI x1, vI x2] ((zRt h_R h_T hc_R hp_R h_K hx_R hh_R hs_R c_hasSnapshot) ++ (zTr cI h_T q_T T) ++ (zWk cI h_K q_K K)) sz (res) (fun u => (zRt h_R h_T hc_R hp_R h_K hx_R hh_R hs_R c_hasSnapshot) ++ (zTr cI h_T q_T T) ++ (zWk cI h_K q_K K)) 0 0 := by
  refine z_enth (Qc := zQi D (res) (fun u => (zRt h_R h_T hc_R hp_R h_K hx_R hh_R hs_R c_hasSnapshot) ++ (zTr cI h_T q_T T) ++ (zWk cI h_K q_K K))) (by decide) (Nat.le_of_ble_eq_true rfl) (fun p e s m args below meth c A ls H locs hF hP hD hS hl => ?_)
  have hx := hF.1.1
  have hb := hF.1.2.1
  have hml := hF.1.2.2.1
  have hown : s.vm.findClass "RectangleTree" = some m.cls := hF.1.2.2.2.1
  have hts := hF.1.2.2.2.2
  have hr := hF.2.1
  have hlk := hF.2.2.1
  have hK := hF.2.2.2.2.1
  have hN := hF.2.2.2.2.2.1
  have hA := hF.2.2.2.2.2.2
  unfold f_Rt_bound at h
  refine lv_aload_n hx hb dX6_bound_0 rfl (lv_at hl 0 rfl) ?_
  refine lv_iload_n hx hb dX6_bound_1 rfl (lv_at hl 1 rfl) ?_
  obtain ⟨r_1, e_2, h⟩ := bd1_e h
  refine z_goi (ws' := []) (ret := r_1) (wc := (zRt (h_R) (h_T) (hc_R) (hp_R) (h_K) (hx_R) (hh_R) (hs_R) (c_hasSnapshot)) ++ (zWk cI (h_K) (q_K) (K))) (wn := fun u_3 => (zRt h_R h_T hc_R hp_R h_K hx_R hh_R hs_R c_hasSnapshot) ++ (zTr cI h_T q_T T) ++ (zWk cI h_K q_K K)) (wr := ([1, 2, 3, 4, 5, 6].filterMap (fun i => ((zRt h_R h_T hc_R hp_R h_K hx_R hh_R hs_R c_hasSnapshot) ++ (zTr cI h_T q_T T) ++ (zWk cI h_K q_K K))[i]?))) (va_runV (As := [vI x1]) (rest := []) hF.1 (c_Rt_hasNode l D cI cZ cT h_R h_T hc_R hp_R h_K hx_R hh_R hs_R q_K c_hasSnapshot K x1 H.size (r_1) e_2) (cwV 1 hts (zgV wm291 wm293 wm1 wm32 wm294) rfl rfl rfl (by decide +kernel) ⟨Nat.le_of_ble_eq_true rfl, Nat.le_of_ble_eq_true rfl⟩) ⟨zP.blind, va_recv hK (z_subP (ws' := (zRt (h_R) (h_T) (hc_R) (hp_R) (h_K) (hx_R) (hh_R) (hs_R) (c_hasSnapshot)) ++ (zWk cI (h_K) (q_K) (K))) hP [0, 7, 8, 9] rfl) (ci := 6) (q0 := 0) rfl rfl, zP.enter (z_subP (ws' := (zRt (h_R) (h_T) (hc_R) (hp_R) (h_K) (hx_R) (hh_R) (hs_R) (c_hasSnapshot)) ++ (zWk cI (h_K) (q_K) (K))) hP [0, 7, 8, 9] rfl) hK (hD.sub [0, 7, 8, 9] (by decide) rfl) hN⟩ rfl rfl hl.1 rfl (lv_room (Nat.le_of_ble_eq_true rfl)) dX6_bound_2 ⟨Nat.le_refl _, Nat.le_refl _⟩) hP hD hS hA [0, 7, 8, 9] [1, 2, 3, 4, 5, 6] [6, 0, 1, 2, 3, 4, 5, 7, 8, 9] rfl rfl (by decide) (fun _ => rfl) (fun u_3 H locs hP hD hS hz => ?_)
  obtain ⟨g_4, h⟩ := gd_e h
  refine z_if_ne (tgt := 10) hx hb g_4 dX6_bound_5 (by decide) (fun b_5 => ?_) (fun b_5 => ?_)
  · have h := it_n b_5 h
    refine lv_iload_n hx hb dX6_bound_10 rfl (lv_at hl 2 rfl) ?_
    obtain ⟨g_6, h⟩ := gd_e h
    refine z_if_lt (tgt := 19) hx hb g_6 dX6_bound_11 (by decide) (fun b_7 => ?_) (fun b_7 => ?_)
    · have h := it_p b_7 h
      refine lv_bipush (v := Int32.ofInt (-2)) hx hb dX6_bound_19 (by decide +kernel) ?_
      obtain rfl := Option.some.inj h
      exact z_iret hx hb hr hlk (fun _ _ => 0) hP hD hS dX6_bound_21
    · have h := it_n b_7 h
      refine lv_iload_n hx hb dX6_bound_14 rfl (lv_at hl 2 rfl) ?_
      refine lv_iconst (v := Int32.ofInt 4) hx hb dX6_bound_15 rfl ?_
      refine z_icmp_lt (tgt := 22) hx hb g_6 (by decide) dX6_bound_16 (by decide) (fun b_8 => ?_) (fun b_8 => ?_)
      · have h := it_p b_8 h
        refine lv_aload_n hx hb dX6_bound_22 rfl (lv_at hl 0 rfl) ?_
        refine lv_iload_n hx hb dX6_bound_23 rfl (lv_at hl 1 rfl) ?_
        obtain ⟨r_9, e_10, h⟩ := bd1_e h
        refine z_goi (ws' := []) (ret := r_9) (wc := (zRt (h_R) (h_T) (hc_R) (hp_R) (h_K) (hx_R) (hh_R) (hs_R) (c_hasSnapshot)) ++ (zWk cI (h_K) (q_K) (K))) (wn := fun u_11 => (zRt h_R h_T hc_R hp_R h_K hx_R hh_R hs_R c_hasSnapshot) ++ (zTr cI h_T q_T T) ++ (zWk cI h_K q_K K)) (wr := ([1, 2, 3, 4, 5, 6].filterMap (fun i => ((zRt h_R h_T hc_R hp_R h_K hx_R hh_R hs_R c_hasSnapshot) ++ (zTr cI h_T q_T T) ++ (zWk cI h_K q_K K))[i]?))) (va_runV (As := [vI x1]) (rest := []) hF.1 (c_Rt_nodeAt l D cI cZ cT h_R h_T hc_R hp_R h_K hx_R hh_R hs_R q_K c_hasSnapshot K x1 H.size (r_9) e_10) (cwV 1 hts (zgV wm295 wm297 wm2 wm32 wm298) rfl rfl rfl (by decide +kernel) ⟨Nat.le_of_ble_eq_true rfl, Nat.le_of_ble_eq_true rfl⟩) ⟨zP.blind, va_recv hK (z_subP (ws' := (zRt (h_R) (h_T) (hc_R) (hp_R) (h_K) (hx_R) (hh_R) (hs_R) (c_hasSnapshot)) ++ (zWk cI (h_K) (q_K) (K))) hP [0, 7, 8, 9] rfl) (ci := 6) (q0 := 0) rfl rfl, zP.enter (z_subP (ws' := (zRt (h_R) (h_T) (hc_R) (hp_R) (h_K) (hx_R) (hh_R) (hs_R) (c_hasSnapshot)) ++ (zWk cI (h_K) (q_K) (K))) hP [0, 7, 8, 9] rfl) hK (hD.sub [0, 7, 8, 9] (by decide) rfl) hN⟩ rfl rfl hl.1 rfl (lv_room (Nat.le_of_ble_eq_true rfl)) dX6_bound_24 ⟨Nat.le_refl _, Nat.le_refl _⟩) hP hD hS hA [0, 7, 8, 9] [1, 2, 3, 4, 5, 6] [6, 0, 1, 2, 3, 4, 5, 7, 8, 9] rfl rfl (by decide) (fun _ => rfl) (fun u_11 H locs hP hD hS hz => ?_)
        refine lv_istore_n (lv' := [(3, vI r_9), (0, .ref h_R), (1, vI x1), (2, vI x2)]) hx hb dX6_bound_27 rfl hl (by decide) rfl (fun ls hl => ?_)
        refine lv_aload_n hx hb dX6_bound_28 rfl (lv_at hl 1 rfl) ?_
        refine va_get (D := D) (ci := 6) (v := .ref h_T) (C := RX6) (T := TX6) (N := 8) hx hb hts zin6 hown hK hP 0 rfl rfl 0 (by decide) (hts _ wm240) (fun _ h9 => h9) rfl dX6_bound_29 ?_
        refine lv_iload_n hx hb dX6_bound_32 rfl (lv_at hl 0 rfl) ?_
        obtain ⟨r_12, e_13, h⟩ := bd1_e h
        refine z_goi (ws' := []) (ret := r_12) (wc := (zTr cI (h_T) (q_T) (T))) (wn := fun u_14 => (zRt h_R h_T hc_R hp_R h_K hx_R hh_R hs_R c_hasSnapshot) ++ (zTr cI h_T q_T T) ++ (zWk cI h_K q_K K)) (wr := ([0, 7, 8, 9].filterMap (fun i => ((zRt h_R h_T hc_R hp_R h_K hx_R hh_R hs_R c_hasSnapshot) ++ (zTr cI h_T q_T T) ++ (zWk cI h_K q_K K))[i]?))) (va_runV (As := [vI r_9]) (rest := []) hF.1 (c_Tr_sizeOf l D cI cZ cT h_T q_T T r_9 H.size (r_12) e_13) (cwV 1 hts (zgV wm312 wm231 wm232 wm33 wm233) rfl rfl rfl (by decide +kernel) ⟨Nat.le_of_ble_eq_true rfl, Nat.le_of_ble_eq_true rfl⟩) ⟨zP.blind, va_recv hK (z_subP (ws' := (zTr cI (h_T) (q_T) (T))) hP [1, 2, 3, 4, 5, 6] rfl) (ci := 4) (q0 := 0) rfl rfl, zP.enter (z_subP (ws' := (zTr cI (h_T) (q_T) (T))) hP [1, 2, 3, 4, 5, 6] rfl) hK (hD.sub [1, 2, 3, 4, 5, 6] (by decide) rfl) hN⟩ rfl rfl hl.1 rfl (lv_room (Nat.le_of_ble_eq_true rfl)) dX6_bound_33 ⟨Nat.le_refl _, Nat.le_refl _⟩) hP hD hS hA [1, 2, 3, 4, 5, 6] [0, 7, 8, 9] [0, 4, 5, 6, 7, 8, 9, 1, 2, 3] rfl rfl (by decide) (fun _ => rfl) (fun u_14 H locs hP hD hS hz => ?_)
        obtain ⟨g_15, h⟩ := gd_e h
        refine z_if_ne (tgt := 44) hx hb g_15 dX6_bound_36 (by decide) (fun b_16 => ?_) (fun b_16 => ?_)
        · have h := it_n b_16 h
          refine lv_aload_n hx hb dX6_bound_44 rfl (lv_at hl 1 rfl) ?_
          refine va_get (D := D) (ci := 6) (v := .ref h_T) (C := RX6) (T := TX6) (N := 8) hx hb hts zin6 hown hK hP 0 rfl rfl 0 (by decide) (hts _ wm240) (fun _ h9 => h9) rfl dX6_bound_45 ?_
          refine lv_iload_n hx hb dX6_bound_48 rfl (lv_at hl 0 rfl) ?_
          refine lv_iload_n hx hb dX6_bound_49 rfl (lv_at hl 3 rfl) ?_
          obtain ⟨r_17, e_18, h⟩ := bd1_e h
          refine z_goi (ws' := []) (ret := r_17) (wc := (zTr cI (h_T) (q_T) (T))) (wn := fun u_19 => (zRt h_R h_T hc_R hp_R h_K hx_R hh_R hs_R c_hasSnapshot) ++ (zTr cI h_T q_T T) ++ (zWk cI h_K q_K K)) (wr := ([0, 7, 8, 9].filterMap (fun i => ((zRt h_R h_T hc_R hp_R h_K hx_R hh_R hs_R c_hasSnapshot) ++ (zTr cI h_T q_T T) ++ (zWk cI h_K q_K K))[i]?))) (va_runV (As := [vI r_9, vI x2]) (rest := []) hF.1 (c_Tr_corner l D cI cZ cT h_T q_T T r_9 x2 H.size (r_17) e_18) (cwV 2 hts (zgV wm317 wm318 wm319 wm33 wm320) rfl rfl rfl (by decide +kernel) ⟨Nat.le_of_ble_eq_true rfl, Nat.le_of_ble_eq_true rfl⟩) ⟨zP.blind, va_recv hK (z_subP (ws' := (zTr cI (h_T) (q_T) (T))) hP [1, 2, 3, 4, 5, 6] rfl) (ci := 4) (q0 := 0) rfl rfl, zP.enter (z_subP (ws' := (zTr cI (h_T) (q_T) (T))) hP [1, 2, 3, 4, 5, 6] rfl) hK (hD.sub [1, 2, 3, 4, 5, 6] (by decide) rfl) hN⟩ rfl rfl hl.1 rfl (lv_room (Nat.le_of_ble_eq_true rfl)) dX6_bound_50 ⟨Nat.le_refl _, Nat.le_refl _⟩) hP hD hS hA [1, 2, 3, 4, 5, 6] [0, 7, 8, 9] [0, 4, 5, 6, 7, 8, 9, 1, 2, 3] rfl rfl (by decide) (fun _ => rfl) (fun u_19 H locs hP hD hS hz => ?_)
          obtain rfl := Option.some.inj h
          exact z_iret hx hb hr hlk (fun _ _ => 0) hP hD hS dX6_bound_53
        · have h := it_p b_16 h
          refine lv_bipush (v := Int32.ofInt (-5)) hx hb dX6_bound_39 (by decide +kernel) ?_
          refine lv_goto (tgt := 53) hx hb dX6_bound_41 (by decide) ?_
          obtain rfl := Option.some.inj h
          exact z_iret hx hb hr hlk (fun _ _ => 0) hP hD hS dX6_bound_53
      · have h := it_n b_8 h
        refine lv_bipush (v := Int32.ofInt (-2)) hx hb dX6_bound_19 (by decide +kernel) ?_
        obtain rfl := Option.some.inj h
        exact z_iret hx hb hr hlk (fun _ _ => 0) hP hD hS dX6_bound_21
  · have h := it_p b_5 h
    refine lv_iconst (v := Int32.ofInt (-1)) hx hb dX6_bound_8 rfl ?_
    obtain rfl := Option.some.inj h
    exact z_iret hx hb hr hlk (fun _ _ => 0) hP hD hS dX6_bound_9
def f_Rt_leafOf (T : TV) (K : KV) (x1 : Int) : Option (Int) :=
  bd1 (f_Tr_hasBox T x1) <| fun r_1 => gd (ck r_1) <| if r_1 = 0 then (some ((-1))) else (bd1 (f_Tr_holderOf T x1) <| fun r_6 => bd1 (f_Wk_placeOf K r_6) <| fun r_9 => some (r_9))
abbrev rm_Rt_leafOf : Room := ({ frames := 2, cells := 0, slots := 0, locals := 43 } : Room)

set_option maxHeartbeats 4000000 in
set_option maxRecDepth 100000 in
theorem c_Rt_leafOf (l : Launch) (D : va_G) (cI cZ cT : ClassId) (h_R : Nat) (h_T : Nat) (hc_R : Nat) (hp_R : Nat) (h_K : Nat) (hx_R : Nat) (hh_R : Nat) (hs_R : Nat) (q_T : Nat → Nat) (q_K : Nat → Nat) (c_hasSnapshot : Int) (T : TV) (K : KV) (x1 : Int) (sz : Nat) (res : Int) (h : f_Rt_leafOf T K x1 = some res) : zMi l yX6_leafOf cX6_leafOf 2 rm_Rt_leafOf D (zt cI cZ cT) [.ref h_R, vI x1] ((zRt h_R h_T hc_R hp_R h_K hx_R hh_R hs_R c_hasSnapshot) ++ (zTr cI h_T q_T T) ++ (zWk cI h_K q_K K)) sz (res) (fun u => (zRt h_R h_T hc_R hp_R h_K hx_R hh_R hs_R c_hasSnapshot) ++ (zTr cI h_T q_T T) ++ (zWk cI h_K q_K K)) 0 0 := by
  refine z_enth (Qc := zQi D (res) (fun u => (zRt h_R h_T hc_R hp_R h_K hx_R hh_R hs_R c_hasSnapshot) ++ (zTr cI h_T q_T T) ++ (zWk cI h_K q_K K))) (by decide) (Nat.le_of_ble_eq_true rfl) (fun p e s m args below meth c A ls H locs hF hP hD hS hl => ?_)
  have hx := hF.1.1
  have hb := hF.1.2.1
  have hml := hF.1.2.2.1
  have hown : s.vm.findClass "RectangleTree" = some m.cls := hF.1.2.2.2.1
  have hts := hF.1.2.2.2.2
  have hr := hF.2.1
  have hlk := hF.2.2.1
  have hK := hF.2.2.2.2.1
  have hN := hF.2.2.2.2.2.1
  have hA := hF.2.2.2.2.2.2
  unfold f_Rt_leafOf at h
  refine lv_aload_n hx hb dX6_leafOf_0 rfl (lv_at hl 0 rfl) ?_
  refine va_get (D := D) (ci := 6) (v := .ref h_T) (C := RX6) (T := TX6) (N := 8) hx hb hts zin6 hown hK hP 0 rfl rfl 0 (by decide) (hts _ wm240) (fun _ h9 => h9) rfl dX6_leafOf_1 ?_
  refine lv_iload_n hx hb dX6_leafOf_4 rfl (lv_at hl 1 rfl) ?_
  obtain ⟨r_1, e_2, h⟩ := bd1_e h
  refine z_goi (ws' := []) (ret := r_1) (wc := (zTr cI (h_T) (q_T) (T))) (wn := fun u_3 => (zRt h_R h_T hc_R hp_R h_K hx_R hh_R hs_R c_hasSnapshot) ++ (zTr cI h_T q_T T) ++ (zWk cI h_K q_K K)) (wr := ([0, 7, 8, 9].filterMap (fun i => ((zRt h_R h_T hc_R hp_R h_K hx_R hh_R hs_R c_hasSnapshot) ++ (zTr cI h_T q_T T) ++ (zWk cI h_K q_K K))[i]?))) (va_runV (As := [vI x1]) (rest := []) hF.1 (c_Tr_hasBox l D cI cZ cT h_T q_T T x1 H.size (r_1) e_2) (cwV 1 hts (zgV wm343 wm344 wm345 wm33 wm346) rfl rfl rfl (by decide +kernel) ⟨Nat.le_of_ble_eq_true rfl, Nat.le_of_ble_eq_true rfl⟩) ⟨zP.blind, va_recv hK (z_subP (ws' := (zTr cI (h_T) (q_T) (T))) hP [1, 2, 3, 4, 5, 6] rfl) (ci := 4) (q0 := 0) rfl rfl, zP.enter (z_subP (ws' := (zTr cI (h_T) (q_T) (T))) hP [1, 2, 3, 4, 5, 6] rfl) hK (hD.sub [1, 2, 3, 4, 5, 6] (by decide) rfl) hN⟩ rfl rfl hl.1 rfl (lv_room (Nat.le_of_ble_eq_true rfl)) dX6_leafOf_5 ⟨Nat.le_refl _, Nat.le_refl _⟩) hP hD hS hA [1, 2, 3, 4, 5, 6] [0, 7, 8, 9] [0, 4, 5, 6, 7, 8, 9, 1, 2, 3] rfl rfl (by decide) (fun _ => rfl) (fun u_3 H locs hP hD hS hz => ?_)
  obtain ⟨g_4, h⟩ := gd_e h
  refine z_if_eq (tgt := 29) hx hb g_4 dX6_leafOf_8 (by decide) (fun b_5 => ?_) (fun b_5 => ?_)
  · have h := it_p b_5 h
    refine lv_iconst (v := Int32.ofInt (-1)) hx hb dX6_leafOf_29 rfl ?_
    obtain rfl := Option.some.inj h
    exact z_iret hx hb hr hlk (fun _ _ => 0) hP hD hS dX6_leafOf_30
  · have h := it_n b_5 h
    refine lv_aload_n hx hb dX6_leafOf_11 rfl (lv_at hl 0 rfl) ?_
    refine va_get (D := D) (ci := 6) (v := .ref h_K) (C := RX6) (T := TX6) (N := 8) hx hb hts zin6 hown hK hP 0 rfl rfl 3 (by decide) (hts _ wm243) (fun _ h9 => h9) rfl dX6_leafOf_12 ?_
    refine lv_aload_n hx hb dX6_leafOf_15 rfl (lv_at hl 0 rfl) ?_
    refine va_get (D := D) (ci := 6) (v := .ref h_T) (C := RX6) (T := TX6) (N := 8) hx hb hts zin6 hown hK hP 0 rfl rfl 0 (by decide) (hts _ wm240) (fun _ h9 => h9) rfl dX6_leafOf_16 ?_
    refine lv_iload_n hx hb dX6_leafOf_19 rfl (lv_at hl 1 rfl) ?_
    obtain ⟨r_6, e_7, h⟩ := bd1_e h
    refine z_goi (ws' := []) (ret := r_6) (wc := (zTr cI (h_T) (q_T) (T))) (wn := fun u_8 => (zRt h_R h_T hc_R hp_R h_K hx_R hh_R hs_R c_hasSnapshot) ++ (zTr cI h_T q_T T) ++ (zWk cI h_K q_K K)) (wr := ([0, 7, 8, 9].filterMap (fun i => ((zRt h_R h_T hc_R hp_R h_K hx_R hh_R hs_R c_hasSnapshot) ++ (zTr cI h_T q_T T) ++ (zWk cI h_K q_K K))[i]?))) (va_runV (As := [vI x1]) (rest := [.ref h_K]) hF.1 (c_Tr_holderOf l D cI cZ cT h_T q_T T x1 H.size (r_6) e_7) (cwV 1 hts (zgV wm348 wm349 wm350 wm33 wm351) rfl rfl rfl (by decide +kernel) ⟨Nat.le_of_ble_eq_true rfl, Nat.le_of_ble_eq_true rfl⟩) ⟨zP.blind, va_recv hK (z_subP (ws' := (zTr cI (h_T) (q_T) (T))) hP [1, 2, 3, 4, 5, 6] rfl) (ci := 4) (q0 := 0) rfl rfl, zP.enter (z_subP (ws' := (zTr cI (h_T) (q_T) (T))) hP [1, 2, 3, 4, 5, 6] rfl) hK (hD.sub [1, 2, 3, 4, 5, 6] (by decide) rfl) hN⟩ rfl rfl hl.1 rfl (lv_room (Nat.le_of_ble_eq_true rfl)) dX6_leafOf_20 ⟨Nat.le_refl _, Nat.le_refl _⟩) hP hD hS hA [1, 2, 3, 4, 5, 6] [0, 7, 8, 9] [0, 4, 5, 6, 7, 8, 9, 1, 2, 3] rfl rfl (by decide) (fun _ => rfl) (fun u_8 H locs hP hD hS hz => ?_)
    obtain ⟨r_9, e_10, h⟩ := bd1_e h
    refine z_goi (ws' := []) (ret := r_9) (wc := (zWk cI (h_K) (q_K) (K))) (wn := fun u_11 => (zRt h_R h_T hc_R hp_R h_K hx_R hh_R hs_R c_hasSnapshot) ++ (zTr cI h_T q_T T) ++ (zWk cI h_K q_K K)) (wr := ([0, 1, 2, 3, 4, 5, 6].filterMap (fun i => ((zRt h_R h_T hc_R hp_R h_K hx_R hh_R hs_R c_hasSnapshot) ++ (zTr cI h_T q_T T) ++ (zWk cI h_K q_K K))[i]?))) (va_runV (As := [vI r_6]) (rest := []) hF.1 (c_Wk_placeOf l D cI cZ cT h_K q_K K r_6 H.size (r_9) e_10) (cwV 1 hts (zgV wm326 wm327 wm328 wm36 wm329) rfl rfl rfl (by decide +kernel) ⟨Nat.le_of_ble_eq_true rfl, Nat.le_of_ble_eq_true rfl⟩) ⟨zP.blind, va_recv hK (z_subP (ws' := (zWk cI (h_K) (q_K) (K))) hP [7, 8, 9] rfl) (ci := 5) (q0 := 0) rfl rfl, zP.enter (z_subP (ws' := (zWk cI (h_K) (q_K) (K))) hP [7, 8, 9] rfl) hK (hD.sub [7, 8, 9] (by decide) rfl) hN⟩ rfl rfl hl.1 rfl (lv_room (Nat.le_of_ble_eq_true rfl)) dX6_leafOf_23 ⟨Nat.le_refl _, Nat.le_refl _⟩) hP hD hS hA [7, 8, 9] [0, 1, 2, 3, 4, 5, 6] [0, 1, 2, 3, 4, 5, 6, 7, 8, 9] rfl rfl (by decide) (fun _ => rfl) (fun u_11 H locs hP hD hS hz => ?_)
    refine lv_goto (tgt := 30) hx hb dX6_leafOf_26 (by decide) ?_
    obtain rfl := Option.some.inj h
    exact z_iret hx hb hr hlk (fun _ _ => 0) hP hD hS dX6_leafOf_30
def f_Rt_setting (T : TV) (x1 : Int) : Option (Int) :=
  gd (ck x1) <| if x1 = 0 then (some ((tCap T))) else (if x1 = 1 then (some ((tRei T))) else (some ((-1))))
abbrev rm_Rt_setting : Room := ({ frames := 0, cells := 0, slots := 0, locals := 0 } : Room)

set_option maxHeartbeats 4000000 in
set_option maxRecDepth 100000 in
theorem c_Rt_setting (l : Launch) (D : va_G) (cI cZ cT : ClassId) (h_R : Nat) (h_T : Nat) (hc_R : Nat) (hp_R : Nat) (hn_R : Nat) (hx_R : Nat) (hh_R : Nat) (hs_R : Nat) (q_T : Nat → Nat) (c_hasSnapshot : Int) (T : TV) (x1 : Int) (sz : Nat) (res : Int) (h : f_Rt_setting T x1 = some res) : zMi l yX6_setting cX6_setting 2 rm_Rt_setting D (zt cI cZ cT) [.ref h_R, vI x1] ((zRt h_R h_T hc_R hp_R hn_R hx_R hh_R hs_R c_hasSnapshot) ++ (zTr cI h_T q_T T)) sz (res) (fun u => (zRt h_R h_T hc_R hp_R hn_R hx_R hh_R hs_R c_hasSnapshot) ++ (zTr cI h_T q_T T)) 0 0 := by
  refine z_enth (Qc := zQi D (res) (fun u => (zRt h_R h_T hc_R hp_R hn_R hx_R hh_R hs_R c_hasSnapshot) ++ (zTr cI h_T q_T T))) (by decide) (Nat.le_of_ble_eq_true rfl) (fun p e s m args below meth c A ls H locs hF hP hD hS hl => ?_)
  have hx := hF.1.1
  have hb := hF.1.2.1
  have hml := hF.1.2.2.1
  have hown : s.vm.findClass "RectangleTree" = some m.cls := hF.1.2.2.2.1
  have hts := hF.1.2.2.2.2
  have hr := hF.2.1
  have hlk := hF.2.2.1
  have hK := hF.2.2.2.2.1
  have hN := hF.2.2.2.2.2.1
  have hA := hF.2.2.2.2.2.2
  unfold f_Rt_setting at h
  refine lv_iload_n hx hb dX6_setting_0 rfl (lv_at hl 1 rfl) ?_
  obtain ⟨g_1, h⟩ := gd_e h
  refine z_if_ne (tgt := 12) hx hb g_1 dX6_setting_1 (by decide) (fun b_2 => ?_) (fun b_2 => ?_)
  · have h := it_n b_2 h
    refine lv_iload_n hx hb dX6_setting_12 rfl (lv_at hl 1 rfl) ?_
    refine lv_iconst (v := Int32.ofInt 1) hx hb dX6_setting_13 rfl ?_
    refine z_icmp_ne (tgt := 27) hx hb g_1 (by decide) dX6_setting_14 (by decide) (fun b_3 => ?_) (fun b_3 => ?_)
    · have h := it_n b_3 h
      refine lv_iconst (v := Int32.ofInt (-1)) hx hb dX6_setting_27 rfl ?_
      obtain rfl := Option.some.inj h
      exact z_iret hx hb hr hlk (fun _ _ => 0) hP hD hS dX6_setting_28
    · have h := it_p b_3 h
      refine lv_aload_n hx hb dX6_setting_17 rfl (lv_at hl 0 rfl) ?_
      refine va_get (D := D) (ci := 6) (v := .ref h_T) (C := RX6) (T := TX6) (N := 8) hx hb hts zin6 hown hK hP 0 rfl rfl 0 (by decide) (hts _ wm240) (fun _ h9 => h9) rfl dX6_setting_18 ?_
      refine va_get (D := D) (ci := 4) (v := vI (tRei T)) (C := RX4) (T := TX4) (N := 10) hx hb hts zin4 hown hK hP 1 rfl rfl 7 (by decide) (hts _ wm77) (fun _ h9 => h9) rfl dX6_setting_21 ?_
      refine lv_goto (tgt := 28) hx hb dX6_setting_24 (by decide) ?_
      obtain rfl := Option.some.inj h
      exact z_iret hx hb hr hlk (fun _ _ => 0) hP hD hS dX6_setting_28
  · have h := it_p b_2 h
    refine lv_aload_n hx hb dX6_setting_4 rfl (lv_at hl 0 rfl) ?_
    refine va_get (D := D) (ci := 6) (v := .ref h_T) (C := RX6) (T := TX6) (N := 8) hx hb hts zin6 hown hK hP 0 rfl rfl 0 (by decide) (hts _ wm240) (fun _ h9 => h9) rfl dX6_setting_5 ?_
    refine va_get (D := D) (ci := 4) (v := vI (tCap T)) (C := RX4) (T := TX4) (N := 10) hx hb hts zin4 hown hK hP 1 rfl rfl 6 (by decide) (hts _ wm74) (fun _ h9 => h9) rfl dX6_setting_8 ?_
    obtain rfl := Option.some.inj h
    exact z_iret hx hb hr hlk (fun _ _ => 0) hP hD hS dX6_setting_11
def f_Rt_splits (T : TV) : Option (Int) :=
  some ((tSpl T))
abbrev rm_Rt_splits : Room := ({ frames := 0, cells := 0, slots := 0, locals := 0 } : Room)

set_option maxHeartbeats 4000000 in
set_option maxRecDepth 100000 in
theorem c_Rt_splits (l : Launch) (D : va_G) (cI cZ cT : ClassId) (h_R : Nat) (h_T : Nat) (hc_R : Nat) (hp_R : Nat) (hn_R : Nat) (hx_R : Nat) (hh_R : Nat) (hs_R : Nat) (q_T : Nat → Nat) (c_hasSnapshot : Int) (T : TV) (sz : Nat) (res : Int) (h : f_Rt_splits T = some res) : zMi l yX6_splits cX6_splits 1 rm_Rt_splits D (zt cI cZ cT) [.ref h_R] ((zRt h_R h_T hc_R hp_R hn_R hx_R hh_R hs_R c_hasSnapshot) ++ (zTr cI h_T q_T T)) sz (res) (fun u => (zRt h_R h_T hc_R hp_R hn_R hx_R hh_R hs_R c_hasSnapshot) ++ (zTr cI h_T q_T T)) 0 0 := by
  refine z_enth (Qc := zQi D (res) (fun u => (zRt h_R h_T hc_R hp_R hn_R hx_R hh_R hs_R c_hasSnapshot) ++ (zTr cI h_T q_T T))) (by decide) (Nat.le_of_ble_eq_true rfl) (fun p e s m args below meth c A ls H locs hF hP hD hS hl => ?_)
  have hx := hF.1.1
  have hb := hF.1.2.1
  have hml := hF.1.2.2.1
  have hown : s.vm.findClass "RectangleTree" = some m.cls := hF.1.2.2.2.1
  have hts := hF.1.2.2.2.2
  have hr := hF.2.1
  have hlk := hF.2.2.1
  have hK := hF.2.2.2.2.1
  have hN := hF.2.2.2.2.2.1
  have hA := hF.2.2.2.2.2.2
  unfold f_Rt_splits at h
  refine lv_aload_n hx hb dX6_splits_0 rfl (lv_at hl 0 rfl) ?_
  refine va_get (D := D) (ci := 6) (v := .ref h_T) (C := RX6) (T := TX6) (N := 8) hx hb hts zin6 hown hK hP 0 rfl rfl 0 (by decide) (hts _ wm240) (fun _ h9 => h9) rfl dX6_splits_1 ?_
  refine va_get (D := D) (ci := 4) (v := vI (tSpl T)) (C := RX4) (T := TX4) (N := 10) hx hb hts zin4 hown hK hP 1 rfl rfl 8 (by decide) (hts _ wm80) (fun _ h9 => h9) rfl dX6_splits_4 ?_
  obtain rfl := Option.some.inj h
  exact z_iret hx hb hr hlk (fun _ _ => 0) hP hD hS dX6_splits_7
def f_Rt_reinsertions (T : TV) : Option (Int) :=
  some ((tRec T))
abbrev rm_Rt_reinsertions : Room := ({ frames := 0, cells := 0, slots := 0, locals := 0 } : Room)

set_option maxHeartbeats 4000000 in
set_option maxRecDepth 100000 in
theorem c_Rt_reinsertions (l : Launch) (D : va_G) (cI cZ cT : ClassId) (h_R : Nat) (h_T : Nat) (hc_R : Nat) (hp_R : Nat) (hn_R : Nat) (hx_R : Nat) (hh_R : Nat) (hs_R : Nat) (q_T : Nat → Nat) (c_hasSnapshot : Int) (T : TV) (sz : Nat) (res : Int) (h : f_Rt_reinsertions T = some res) : zMi l yX6_reinsertions cX6_reinsertions 1 rm_Rt_reinsertions D (zt cI cZ cT) [.ref h_R] ((zRt h_R h_T hc_R hp_R hn_R hx_R hh_R hs_R c_hasSnapshot) ++ (zTr cI h_T q_T T)) sz (res) (fun u => (zRt h_R h_T hc_R hp_R hn_R hx_R hh_R hs_R c_hasSnapshot) ++ (zTr cI h_T q_T T)) 0 0 := by
  refine z_enth (Qc := zQi D (res) (fun u => (zRt h_R h_T hc_R hp_R hn_R hx_R hh_R hs_R c_hasSnapshot) ++ (zTr cI h_T q_T T))) (by decide) (Nat.le_of_ble_eq_true rfl) (fun p e s m args below meth c A ls H locs hF hP hD hS hl => ?_)
  have hx := hF.1.1
  have hb := hF.1.2.1
  have hml := hF.1.2.2.1
  have hown : s.vm.findClass "RectangleTree" = some m.cls := hF.1.2.2.2.1
  have hts := hF.1.2.2.2.2
  have hr := hF.2.1
  have hlk := hF.2.2.1
  have hK := hF.2.2.2.2.1
  have hN := hF.2.2.2.2.2.1
  have hA := hF.2.2.2.2.2.2
  unfold f_Rt_reinsertions at h
  refine lv_aload_n hx hb dX6_reinsertions_0 rfl (lv_at hl 0 rfl) ?_
  refine va_get (D := D) (ci := 6) (v := .ref h_T) (C := RX6) (T := TX6) (N := 8) hx hb hts zin6 hown hK hP 0 rfl rfl 0 (by decide) (hts _ wm240) (fun _ h9 => h9) rfl dX6_reinsertions_1 ?_
  refine va_get (D := D) (ci := 4) (v := vI (tRec T)) (C := RX4) (T := TX4) (N := 10) hx hb hts zin4 hown hK hP 1 rfl rfl 9 (by decide) (hts _ wm83) (fun _ h9 => h9) rfl dX6_reinsertions_4 ?_
  obtain rfl := Option.some.inj h
  exact z_iret hx hb hr hlk (fun _ _ => 0) hP hD hS dX6_reinsertions_7
def f_Rt_boxes_L4 (T : TV) (k : Int → Int → Option (Int)) : Nat → Int → Int → Option (Int)
  | 0, _, _ => none
  | n + 1, x1, x2 =>
  gd (ck x2) <| if x2 < 24 then (bd1 (f_Tr_hasBox T x2) <| fun r_3 => gd (ck r_3) <| if r_3 = 0 then (f_Rt_boxes_L4 T k n (x1) ((x2 + 1))) else (f_Rt_boxes_L4 T k n ((iOr x1 (iShl 1 x2))) ((x2 + 1)))) else (k (x1) (x2))
def f_Rt_boxes (T : TV) : Option (Int) :=
  f_Rt_boxes_L4 (T) (fun x1_8 x2_9 => some (x1_8)) FU (0) (0)
abbrev rm_Rt_boxes : Room := ({ frames := 2, cells := 0, slots := 0, locals := 42 } : Room)

set_option maxHeartbeats 4000000 in
set_option maxRecDepth 100000 in
theorem w_Rt_boxes_L4 {p : Program} {l : Launch} {e : Env} {s : State} {m : MethodId} {args : Array Value} {below : List Frame} {meth : Method} {c : Code} {A : Nat → Prop} (D : va_G) (cI cZ cT : ClassId) (h_R : Nat) (h_T : Nat) (hc_R : Nat) (hp_R : Nat) (hn_R : Nat) (hx_R : Nat) (hh_R : Nat) (hs_R : Nat) (q_T : Nat → Nat) (c_hasSnapshot : Int) (T : TV) (res : Int) (k : Int → Int → Option (Int)) (hF : zF p m c cX6_boxes 3 s args yX6_boxes.cls meth (some .int) yX6_boxes.name A D (zt cI cZ cT))
    (hk : ∀ (x1 : Int) (x2 : Int) (H : Heap) (locs : List Loc) (ls : Array Slot), k x1 x2 = some res → va_P D vwCl ((zRt h_R h_T hc_R hp_R hn_R hx_R hh_R hs_R c_hasSnapshot) ++ (zTr cI h_T q_T T)) H → va_D A ((zRt h_R h_T hc_R hp_R hn_R hx_R hh_R hs_R c_hasSnapshot) ++ (zTr cI h_T q_T T)) → va_S A s.heap H locs → lv_has ls 3 [(1, vI x1)] → W p l e rm_Rt_boxes s m args below meth c H locs 0 0 (MQ below (zQi D (res) (fun u => (zRt h_R h_T hc_R hp_R hn_R hx_R hh_R hs_R c_hasSnapshot) ++ (zTr cI h_T q_T T)) A) args s 0 0 A) (F0 m 33 ls [])) :
    ∀ (n : Nat) (x1 : Int) (x2 : Int) (H : Heap) (locs : List Loc) (ls : Array Slot), f_Rt_boxes_L4 T k n x1 x2 = some res → va_P D vwCl ((zRt h_R h_T hc_R hp_R hn_R hx_R hh_R hs_R c_hasSnapshot) ++ (zTr cI h_T q_T T)) H → va_D A ((zRt h_R h_T hc_R hp_R hn_R hx_R hh_R hs_R c_hasSnapshot) ++ (zTr cI h_T q_T T)) → va_S A s.heap H locs → lv_has ls 3 [(0, .ref h_R), (1, vI x1), (2, vI x2)] → W p l e rm_Rt_boxes s m args below meth c H locs 0 0 (MQ below (zQi D (res) (fun u => (zRt h_R h_T hc_R hp_R hn_R hx_R hh_R hs_R c_hasSnapshot) ++ (zTr cI h_T q_T T)) A) args s 0 0 A) (F0 m 4 ls []) := by
  have hx := hF.1.1
  have hb := hF.1.2.1
  have hml := hF.1.2.2.1
  have hown : s.vm.findClass "RectangleTree" = some m.cls := hF.1.2.2.2.1
  have hts := hF.1.2.2.2.2
  have hr := hF.2.1
  have hlk := hF.2.2.1
  have hK := hF.2.2.2.2.1
  have hN := hF.2.2.2.2.2.1
  have hA := hF.2.2.2.2.2.2
  intro n
  induction n with
  | zero => intro x1 x2  H locs ls h; cases h
  | succ n ih =>
    intro x1 x2  H locs ls h  hP hD hS hl
    rw [f_Rt_boxes_L4] at h
    refine lv_iload_n hx hb dX6_boxes_4 rfl (lv_at hl 2 rfl) ?_
    refine lv_bipush (v := Int32.ofInt 24) hx hb dX6_boxes_5 (by decide +kernel) ?_
    obtain ⟨g_1, h⟩ := gd_e h
    refine z_icmp_ge (tgt := 33) hx hb g_1 (by decide) dX6_boxes_7 (by decide) (fun b_2 => ?_) (fun b_2 => ?_)
    · have h := it_n b_2 h
      exact hk (x1) (x2) H locs ls h hP hD hS (lv_sub hl [1] rfl)
    · have h := it_p b_2 h
      refine lv_aload_n hx hb dX6_boxes_10 rfl (lv_at hl 0 rfl) ?_
      refine va_get (D := D) (ci := 6) (v := .ref h_T) (C := RX6) (T := TX6) (N := 8) hx hb hts zin6 hown hK hP 0 rfl rfl 0 (by decide) (hts _ wm240) (fun _ h9 => h9) rfl dX6_boxes_11 ?_
      refine lv_iload_n hx hb dX6_boxes_14 rfl (lv_at hl 2 rfl) ?_
      obtain ⟨r_3, e_4, h⟩ := bd1_e h
      refine z_goi (ws' := []) (ret := r_3) (wc := (zTr cI (h_T) (q_T) (T))) (wn := fun u_5 => (zRt h_R h_T hc_R hp_R hn_R hx_R hh_R hs_R c_hasSnapshot) ++ (zTr cI h_T q_T T)) (wr := ([0].filterMap (fun i => ((zRt h_R h_T hc_R hp_R hn_R hx_R hh_R hs_R c_hasSnapshot) ++ (zTr cI h_T q_T T))[i]?))) (va_runV (As := [vI x2]) (rest := []) hF.1 (c_Tr_hasBox l D cI cZ cT h_T q_T T x2 H.size (r_3) e_4) (cwV 1 hts (zgV wm343 wm344 wm345 wm33 wm346) rfl rfl rfl (by decide +kernel) ⟨Nat.le_of_ble_eq_true rfl, Nat.le_of_ble_eq_true rfl⟩) ⟨zP.blind, va_recv hK (z_subP (ws' := (zTr cI (h_T) (q_T) (T))) hP [1, 2, 3, 4, 5, 6] rfl) (ci := 4) (q0 := 0) rfl rfl, zP.enter (z_subP (ws' := (zTr cI (h_T) (q_T) (T))) hP [1, 2, 3, 4, 5, 6] rfl) hK (hD.sub [1, 2, 3, 4, 5, 6] (by decide) rfl) hN⟩ rfl rfl hl.1 rfl (lv_room (Nat.le_of_ble_eq_true rfl)) dX6_boxes_15 ⟨Nat.le_refl _, Nat.le_refl _⟩) hP hD hS hA [1, 2, 3, 4, 5, 6] [0] [0, 1, 2, 3, 4, 5, 6] rfl rfl (by decide) (fun _ => rfl) (fun u_5 H locs hP hD hS hz => ?_)
      obtain ⟨g_6, h⟩ := gd_e h
      refine z_if_eq (tgt := 27) hx hb g_6 dX6_boxes_18 (by decide) (fun b_7 => ?_) (fun b_7 => ?_)
      · have h := it_p b_7 h
        refine lv_iinc (v := Int32.ofInt (x2 + 1)) (lv' := [(2, vI (x2 + 1)), (0, .ref h_R), (1, vI x1)]) hx hb dX6_boxes_27 hl (k := 2) rfl (z_inc _ _) (by decide) rfl (fun ls hl => ?_)
        refine lv_goto (tgt := 4) hx hb dX6_boxes_30 (by decide) ?_
        exact ih (x1) ((x2 + 1)) H locs ls h hP hD hS (lv_sub hl [1, 2, 0] rfl)
      · have h := it_n b_7 h
        refine lv_iload_n hx hb dX6_boxes_21 rfl (lv_at hl 1 rfl) ?_
        refine lv_iconst (v := Int32.ofInt 1) hx hb dX6_boxes_22 rfl ?_
        refine lv_iload_n hx hb dX6_boxes_23 rfl (lv_at hl 2 rfl) ?_
        refine z_ishl hx hb dX6_boxes_24 ?_
        refine z_ior hx hb dX6_boxes_25 ?_
        refine lv_istore_n (lv' := [(1, vI (iOr x1 (iShl 1 x2))), (0, .ref h_R), (2, vI x2)]) hx hb dX6_boxes_26 rfl hl (by decide) rfl (fun ls hl => ?_)
        refine lv_iinc (v := Int32.ofInt (x2 + 1)) (lv' := [(2, vI (x2 + 1)), (1, vI (iOr x1 (iShl 1 x2))), (0, .ref h_R)]) hx hb dX6_boxes_27 hl (k := 2) rfl (z_inc _ _) (by decide) rfl (fun ls hl => ?_)
        refine lv_goto (tgt := 4) hx hb dX6_boxes_30 (by decide) ?_
        exact ih ((iOr x1 (iShl 1 x2))) ((x2 + 1)) H locs ls h hP hD hS (lv_sub hl [2, 1, 0] rfl)
set_option maxHeartbeats 4000000 in
set_option maxRecDepth 100000 in
theorem c_Rt_boxes (l : Launch) (D : va_G) (cI cZ cT : ClassId) (h_R : Nat) (h_T : Nat) (hc_R : Nat) (hp_R : Nat) (hn_R : Nat) (hx_R : Nat) (hh_R : Nat) (hs_R : Nat) (q_T : Nat → Nat) (c_hasSnapshot : Int) (T : TV) (sz : Nat) (res : Int) (h : f_Rt_boxes T = some res) : zMi l yX6_boxes cX6_boxes 3 rm_Rt_boxes D (zt cI cZ cT) [.ref h_R] ((zRt h_R h_T hc_R hp_R hn_R hx_R hh_R hs_R c_hasSnapshot) ++ (zTr cI h_T q_T T)) sz (res) (fun u => (zRt h_R h_T hc_R hp_R hn_R hx_R hh_R hs_R c_hasSnapshot) ++ (zTr cI h_T q_T T)) 0 0 := by
  refine z_enth (Qc := zQi D (res) (fun u => (zRt h_R h_T hc_R hp_R hn_R hx_R hh_R hs_R c_hasSnapshot) ++ (zTr cI h_T q_T T))) (by decide) (Nat.le_of_ble_eq_true rfl) (fun p e s m args below meth c A ls H locs hF hP hD hS hl => ?_)
  have hx := hF.1.1
  have hb := hF.1.2.1
  have hml := hF.1.2.2.1
  have hown : s.vm.findClass "RectangleTree" = some m.cls := hF.1.2.2.2.1
  have hts := hF.1.2.2.2.2
  have hr := hF.2.1
  have hlk := hF.2.2.1
  have hK := hF.2.2.2.2.1
  have hN := hF.2.2.2.2.2.1
  have hA := hF.2.2.2.2.2.2
  unfold f_Rt_boxes at h
  refine lv_iconst (v := Int32.ofInt 0) hx hb dX6_boxes_0 rfl ?_
  refine lv_istore_n (lv' := [(1, vI 0), (0, .ref h_R)]) hx hb dX6_boxes_1 rfl hl (by decide) rfl (fun ls hl => ?_)
  refine lv_iconst (v := Int32.ofInt 0) hx hb dX6_boxes_2 rfl ?_
  refine lv_istore_n (lv' := [(2, vI 0), (1, vI 0), (0, .ref h_R)]) hx hb dX6_boxes_3 rfl hl (by decide) rfl (fun ls hl => ?_)
  refine w_Rt_boxes_L4 D cI cZ cT (h_R) (h_T) (hc_R) (hp_R) (hn_R) (hx_R) (hh_R) (hs_R) (q_T) (c_hasSnapshot) (T) _ _ hF (fun x1_8 x2_9 H locs ls h hP hD hS hl => ?_) _ (0) (0) _ _ _ h hP hD hS (lv_sub hl [2, 1, 0] rfl)
  refine lv_iload_n hx hb dX6_boxes_33 rfl (lv_at hl 0 rfl) ?_
  obtain rfl := Option.some.inj h
  exact z_iret hx hb hr hlk (fun _ _ => 0) hP hD hS dX6_boxes_34
def f_Rt_side (T : TV) (x1 : Int) (x2 : Int) : Option (Int) :=
  bd1 (f_Tr_hasBox T x1) <| fun r_1 => gd (ck r_1) <| if r_1 = 0 then (some ((-1))) else (gd (ck x2) <| if x2 < 0 then (some ((-2))) else (if x2 < 4 then (bd1 (f_Tr_corner T x1 x2) <| fun r_9 => some (r_9)) else (some ((-2)))))
abbrev rm_Rt_side : Room := ({ frames := 2, cells := 0, slots := 0, locals := 42 } : Room)

set_option maxHeartbeats 4000000 in
set_option maxRecDepth 100000 in
theorem c_Rt_side (l : Launch) (D : va_G) (cI cZ cT : ClassId) (h_R : Nat) (h_T : Nat) (hc_R : Nat) (hp_R : Nat) (hn_R : Nat) (hx_R : Nat) (hh_R : Nat) (hs_R : Nat) (q_T : Nat → Nat) (c_hasSnapshot : Int) (T : TV) (x1 : Int) (x2 : Int) (sz : Nat) (res : Int) (h : f_Rt_side T x1 x2 = some res) : zMi l yX6_side cX6_side 3 rm_Rt_side D (zt cI cZ cT) [.ref h_R, vI x1, vI x2] ((zRt h_R h_T hc_R hp_R hn_R hx_R hh_R hs_R c_hasSnapshot) ++ (zTr cI h_T q_T T)) sz (res) (fun u => (zRt h_R h_T hc_R hp_R hn_R hx_R hh_R hs_R c_hasSnapshot) ++ (zTr cI h_T q_T T)) 0 0 := by
  refine z_enth (Qc := zQi D (res) (fun u => (zRt h_R h_T hc_R hp_R hn_R hx_R hh_R hs_R c_hasSnapshot) ++ (zTr cI h_T q_T T))) (by decide) (Nat.le_of_ble_eq_true rfl) (fun p e s m args below meth c A ls H locs hF hP hD hS hl => ?_)
  have hx := hF.1.1
  have hb := hF.1.2.1
  have hml := hF.1.2.2.1
  have hown : s.vm.findClass "RectangleTree" = some m.cls := hF.1.2.2.2.1
  have hts := hF.1.2.2.2.2
  have hr := hF.2.1
  have hlk := hF.2.2.1
  have hK := hF.2.2.2.2.1
  have hN := hF.2.2.2.2.2.1
  have hA := hF.2.2.2.2.2.2
  unfold f_Rt_side at h
  refine lv_aload_n hx hb dX6_side_0 rfl (lv_at hl 0 rfl) ?_
  refine va_get (D := D) (ci := 6) (v := .ref h_T) (C := RX6) (T := TX6) (N := 8) hx hb hts zin6 hown hK hP 0 rfl rfl 0 (by decide) (hts _ wm240) (fun _ h9 => h9) rfl dX6_side_1 ?_
  refine lv_iload_n hx hb dX6_side_4 rfl (lv_at hl 1 rfl) ?_
  obtain ⟨r_1, e_2, h⟩ := bd1_e h
  refine z_goi (ws' := []) (ret := r_1) (wc := (zTr cI (h_T) (q_T) (T))) (wn := fun u_3 => (zRt h_R h_T hc_R hp_R hn_R hx_R hh_R hs_R c_hasSnapshot) ++ (zTr cI h_T q_T T)) (wr := ([0].filterMap (fun i => ((zRt h_R h_T hc_R hp_R hn_R hx_R hh_R hs_R c_hasSnapshot) ++ (zTr cI h_T q_T T))[i]?))) (va_runV (As := [vI x1]) (rest := []) hF.1 (c_Tr_hasBox l D cI cZ cT h_T q_T T x1 H.size (r_1) e_2) (cwV 1 hts (zgV wm343 wm344 wm345 wm33 wm346) rfl rfl rfl (by decide +kernel) ⟨Nat.le_of_ble_eq_true rfl, Nat.le_of_ble_eq_true rfl⟩) ⟨zP.blind, va_recv hK (z_subP (ws' := (zTr cI (h_T) (q_T) (T))) hP [1, 2, 3, 4, 5, 6] rfl) (ci := 4) (q0 := 0) rfl rfl, zP.enter (z_subP (ws' := (zTr cI (h_T) (q_T) (T))) hP [1, 2, 3, 4, 5, 6] rfl) hK (hD.sub [1, 2, 3, 4, 5, 6] (by decide) rfl) hN⟩ rfl rfl hl.1 rfl (lv_room (Nat.le_of_ble_eq_true rfl)) dX6_side_5 ⟨Nat.le_refl _, Nat.le_refl _⟩) hP hD hS hA [1, 2, 3, 4, 5, 6] [0] [0, 1, 2, 3, 4, 5, 6] rfl rfl (by decide) (fun _ => rfl) (fun u_3 H locs hP hD hS hz => ?_)
  obtain ⟨g_4, h⟩ := gd_e h
  refine z_if_ne (tgt := 13) hx hb g_4 dX6_side_8 (by decide) (fun b_5 => ?_) (fun b_5 => ?_)
  · have h := it_n b_5 h
    refine lv_iload_n hx hb dX6_side_13 rfl (lv_at hl 2 rfl) ?_
    obtain ⟨g_6, h⟩ := gd_e h
    refine z_if_lt (tgt := 22) hx hb g_6 dX6_side_14 (by decide) (fun b_7 => ?_) (fun b_7 => ?_)
    · have h := it_p b_7 h
      refine lv_bipush (v := Int32.ofInt (-2)) hx hb dX6_side_22 (by decide +kernel) ?_
      obtain rfl := Option.some.inj h
      exact z_iret hx hb hr hlk (fun _ _ => 0) hP hD hS dX6_side_24
    · have h := it_n b_7 h
      refine lv_iload_n hx hb dX6_side_17 rfl (lv_at hl 2 rfl) ?_
      refine lv_iconst (v := Int32.ofInt 4) hx hb dX6_side_18 rfl ?_
      refine z_icmp_lt (tgt := 25) hx hb g_6 (by decide) dX6_side_19 (by decide) (fun b_8 => ?_) (fun b_8 => ?_)
      · have h := it_p b_8 h
        refine lv_aload_n hx hb dX6_side_25 rfl (lv_at hl 0 rfl) ?_
        refine va_get (D := D) (ci := 6) (v := .ref h_T) (C := RX6) (T := TX6) (N := 8) hx hb hts zin6 hown hK hP 0 rfl rfl 0 (by decide) (hts _ wm240) (fun _ h9 => h9) rfl dX6_side_26 ?_
        refine lv_iload_n hx hb dX6_side_29 rfl (lv_at hl 1 rfl) ?_
        refine lv_iload_n hx hb dX6_side_30 rfl (lv_at hl 2 rfl) ?_
        obtain ⟨r_9, e_10, h⟩ := bd1_e h
        refine z_goi (ws' := []) (ret := r_9) (wc := (zTr cI (h_T) (q_T) (T))) (wn := fun u_11 => (zRt h_R h_T hc_R hp_R hn_R hx_R hh_R hs_R c_hasSnapshot) ++ (zTr cI h_T q_T T)) (wr := ([0].filterMap (fun i => ((zRt h_R h_T hc_R hp_R hn_R hx_R hh_R hs_R c_hasSnapshot) ++ (zTr cI h_T q_T T))[i]?))) (va_runV (As := [vI x1, vI x2]) (rest := []) hF.1 (c_Tr_corner l D cI cZ cT h_T q_T T x1 x2 H.size (r_9) e_10) (cwV 2 hts (zgV wm317 wm318 wm319 wm33 wm320) rfl rfl rfl (by decide +kernel) ⟨Nat.le_of_ble_eq_true rfl, Nat.le_of_ble_eq_true rfl⟩) ⟨zP.blind, va_recv hK (z_subP (ws' := (zTr cI (h_T) (q_T) (T))) hP [1, 2, 3, 4, 5, 6] rfl) (ci := 4) (q0 := 0) rfl rfl, zP.enter (z_subP (ws' := (zTr cI (h_T) (q_T) (T))) hP [1, 2, 3, 4, 5, 6] rfl) hK (hD.sub [1, 2, 3, 4, 5, 6] (by decide) rfl) hN⟩ rfl rfl hl.1 rfl (lv_room (Nat.le_of_ble_eq_true rfl)) dX6_side_31 ⟨Nat.le_refl _, Nat.le_refl _⟩) hP hD hS hA [1, 2, 3, 4, 5, 6] [0] [0, 1, 2, 3, 4, 5, 6] rfl rfl (by decide) (fun _ => rfl) (fun u_11 H locs hP hD hS hz => ?_)
        obtain rfl := Option.some.inj h
        exact z_iret hx hb hr hlk (fun _ _ => 0) hP hD hS dX6_side_34
      · have h := it_n b_8 h
        refine lv_bipush (v := Int32.ofInt (-2)) hx hb dX6_side_22 (by decide +kernel) ?_
        obtain rfl := Option.some.inj h
        exact z_iret hx hb hr hlk (fun _ _ => 0) hP hD hS dX6_side_24
  · have h := it_p b_5 h
    refine lv_iconst (v := Int32.ofInt (-1)) hx hb dX6_side_11 rfl ?_
    obtain rfl := Option.some.inj h
    exact z_iret hx hb hr hlk (fun _ _ => 0) hP hD hS dX6_side_12
