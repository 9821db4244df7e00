def f_Rt_meeting_L20 (T : TV) (x1 : Int) (x2 : Int) (x3 : Int) (x4 : Int) (k : Int → Int → Option (Int)) : Nat → Int → Int → Option (Int)
  | 0, _, _ => none
  | n + 1, x5, x6 =>
  gd (ck x6) <| if x6 < 24 then (bd1 (f_Tr_hasBox T x6) <| fun r_8 => gd (ck r_8) <| if r_8 = 0 then (f_Rt_meeting_L20 T x1 x2 x3 x4 k n (x5) ((x6 + 1))) else (bd1 (f_Tr_meetsWindow T x6 x1 x2 x3 x4) <| fun r_13 => gd (ck r_13) <| if r_13 = 0 then (f_Rt_meeting_L20 T x1 x2 x3 x4 k n (x5) ((x6 + 1))) else (f_Rt_meeting_L20 T x1 x2 x3 x4 k n ((x5 + 1)) ((x6 + 1))))) else (k (x5) (x6))
def f_Rt_meeting (T : TV) (x1 : Int) (x2 : Int) (x3 : Int) (x4 : Int) : Option (Int) :=
  bd1 (f_Rt_isRectangle x1 x2 x3 x4) <| fun r_1 => gd (ck r_1) <| if r_1 = 0 then (some ((-2))) else (f_Rt_meeting_L20 (T) (x1) (x2) (x3) (x4) (fun x5_18 x6_19 => some (x5_18)) FU (0) (0))
abbrev rm_Rt_meeting : Room := ({ frames := 2, cells := 0, slots := 0, locals := 48 } : Room)

set_option maxHeartbeats 4000000 in
set_option maxRecDepth 100000 in
theorem w_Rt_meeting_L20 {p : Program} {l : Launch} {e : Env} {s : State} {m : MethodId} {args : Array Value} {below : List Frame} {meth : Method} {c : Code} {A : Nat → Prop} (D : va_G) (cI cZ cT : ClassId) (h_R : Nat) (h_T : Nat) (hc_R : Nat) (hp_R : Nat) (hn_R : Nat) (hx_R : Nat) (hh_R : Nat) (hs_R : Nat) (q_T : Nat → Nat) (c_hasSnapshot : Int) (T : TV) (x1 : Int) (x2 : Int) (x3 : Int) (x4 : Int) (res : Int) (k : Int → Int → Option (Int)) (hF : zF p m c cX6_meeting 7 s args yX6_meeting.cls meth (some .int) yX6_meeting.name A D (zt cI cZ cT))
    (hk : ∀ (x5 : Int) (x6 : Int) (H : Heap) (locs : List Loc) (ls : Array Slot), k x5 x6 = some res → va_P D vwCl ((zRt h_R h_T hc_R hp_R hn_R hx_R hh_R hs_R c_hasSnapshot) ++ (zTr cI h_T q_T T)) H → va_D A ((zRt h_R h_T hc_R hp_R hn_R hx_R hh_R hs_R c_hasSnapshot) ++ (zTr cI h_T q_T T)) → va_S A s.heap H locs → lv_has ls 7 [(5, vI x5)] → W p l e rm_Rt_meeting s m args below meth c H locs 0 0 (MQ below (zQi D (res) (fun u => (zRt h_R h_T hc_R hp_R hn_R hx_R hh_R hs_R c_hasSnapshot) ++ (zTr cI h_T q_T T)) A) args s 0 0 A) (F0 m 65 ls [])) :
    ∀ (n : Nat) (x5 : Int) (x6 : Int) (H : Heap) (locs : List Loc) (ls : Array Slot), f_Rt_meeting_L20 T x1 x2 x3 x4 k n x5 x6 = some res → va_P D vwCl ((zRt h_R h_T hc_R hp_R hn_R hx_R hh_R hs_R c_hasSnapshot) ++ (zTr cI h_T q_T T)) H → va_D A ((zRt h_R h_T hc_R hp_R hn_R hx_R hh_R hs_R c_hasSnapshot) ++ (zTr cI h_T q_T T)) → va_S A s.heap H locs → lv_has ls 7 [(0, .ref h_R), (1, vI x1), (2, vI x2), (3, vI x3), (4, vI x4), (5, vI x5), (6, vI x6)] → W p l e rm_Rt_meeting s m args below meth c H locs 0 0 (MQ below (zQi D (res) (fun u => (zRt h_R h_T hc_R hp_R hn_R hx_R hh_R hs_R c_hasSnapshot) ++ (zTr cI h_T q_T T)) A) args s 0 0 A) (F0 m 20 ls []) := by
  have hx := hF.1.1
  have hb := hF.1.2.1
  have hml := hF.1.2.2.1
  have hown : s.vm.findClass "RectangleTree" = some m.cls := hF.1.2.2.2.1
  have hts := hF.1.2.2.2.2
  have hr := hF.2.1
  have hlk := hF.2.2.1
  have hK := hF.2.2.2.2.1
  have hN := hF.2.2.2.2.2.1
  have hA := hF.2.2.2.2.2.2
  intro n
  induction n with
  | zero => intro x5 x6  H locs ls h; cases h
  | succ n ih =>
    intro x5 x6  H locs ls h  hP hD hS hl
    rw [f_Rt_meeting_L20] at h
    refine lv_iload hx hb dX6_meeting_20 (lv_at hl 6 rfl) ?_
    refine lv_bipush (v := Int32.ofInt 24) hx hb dX6_meeting_22 (by decide +kernel) ?_
    obtain ⟨g_6, h⟩ := gd_e h
    refine z_icmp_ge (tgt := 65) hx hb g_6 (by decide) dX6_meeting_24 (by decide) (fun b_7 => ?_) (fun b_7 => ?_)
    · have h := it_n b_7 h
      exact hk (x5) (x6) H locs ls h hP hD hS (lv_sub hl [5] rfl)
    · have h := it_p b_7 h
      refine lv_aload_n hx hb dX6_meeting_27 rfl (lv_at hl 0 rfl) ?_
      refine va_get (D := D) (ci := 6) (v := .ref h_T) (C := RX6) (T := TX6) (N := 8) hx hb hts zin6 hown hK hP 0 rfl rfl 0 (by decide) (hts _ wm240) (fun _ h9 => h9) rfl dX6_meeting_28 ?_
      refine lv_iload hx hb dX6_meeting_31 (lv_at hl 6 rfl) ?_
      obtain ⟨r_8, e_9, h⟩ := bd1_e h
      refine z_goi (ws' := []) (ret := r_8) (wc := (zTr cI (h_T) (q_T) (T))) (wn := fun u_10 => (zRt h_R h_T hc_R hp_R hn_R hx_R hh_R hs_R c_hasSnapshot) ++ (zTr cI h_T q_T T)) (wr := ([0].filterMap (fun i => ((zRt h_R h_T hc_R hp_R hn_R hx_R hh_R hs_R c_hasSnapshot) ++ (zTr cI h_T q_T T))[i]?))) (va_runV (As := [vI x6]) (rest := []) hF.1 (c_Tr_hasBox l D cI cZ cT h_T q_T T x6 H.size (r_8) e_9) (cwV 1 hts (zgV wm343 wm344 wm345 wm33 wm346) rfl rfl rfl (by decide +kernel) ⟨Nat.le_of_ble_eq_true rfl, Nat.le_of_ble_eq_true rfl⟩) ⟨zP.blind, va_recv hK (z_subP (ws' := (zTr cI (h_T) (q_T) (T))) hP [1, 2, 3, 4, 5, 6] rfl) (ci := 4) (q0 := 0) rfl rfl, zP.enter (z_subP (ws' := (zTr cI (h_T) (q_T) (T))) hP [1, 2, 3, 4, 5, 6] rfl) hK (hD.sub [1, 2, 3, 4, 5, 6] (by decide) rfl) hN⟩ rfl rfl hl.1 rfl (lv_room (Nat.le_of_ble_eq_true rfl)) dX6_meeting_33 ⟨Nat.le_refl _, Nat.le_refl _⟩) hP hD hS hA [1, 2, 3, 4, 5, 6] [0] [0, 1, 2, 3, 4, 5, 6] rfl rfl (by decide) (fun _ => rfl) (fun u_10 H locs hP hD hS hz => ?_)
      obtain ⟨g_11, h⟩ := gd_e h
      refine z_if_eq (tgt := 59) hx hb g_11 dX6_meeting_36 (by decide) (fun b_12 => ?_) (fun b_12 => ?_)
      · have h := it_p b_12 h
        refine lv_iinc (v := Int32.ofInt (x6 + 1)) (lv' := [(6, vI (x6 + 1)), (0, .ref h_R), (1, vI x1), (2, vI x2), (3, vI x3), (4, vI x4), (5, vI x5)]) hx hb dX6_meeting_59 hl (k := 6) rfl (z_inc _ _) (by decide) rfl (fun ls hl => ?_)
        refine lv_goto (tgt := 20) hx hb dX6_meeting_62 (by decide) ?_
        exact ih (x5) ((x6 + 1)) H locs ls h hP hD hS (lv_sub hl [1, 2, 3, 4, 5, 6, 0] rfl)
      · have h := it_n b_12 h
        refine lv_aload_n hx hb dX6_meeting_39 rfl (lv_at hl 0 rfl) ?_
        refine va_get (D := D) (ci := 6) (v := .ref h_T) (C := RX6) (T := TX6) (N := 8) hx hb hts zin6 hown hK hP 0 rfl rfl 0 (by decide) (hts _ wm240) (fun _ h9 => h9) rfl dX6_meeting_40 ?_
        refine lv_iload hx hb dX6_meeting_43 (lv_at hl 6 rfl) ?_
        refine lv_iload_n hx hb dX6_meeting_45 rfl (lv_at hl 1 rfl) ?_
        refine lv_iload_n hx hb dX6_meeting_46 rfl (lv_at hl 2 rfl) ?_
        refine lv_iload_n hx hb dX6_meeting_47 rfl (lv_at hl 3 rfl) ?_
        refine lv_iload hx hb dX6_meeting_48 (lv_at hl 4 rfl) ?_
        obtain ⟨r_13, e_14, h⟩ := bd1_e h
        refine z_goi (ws' := []) (ret := r_13) (wc := (zTr cI (h_T) (q_T) (T))) (wn := fun u_15 => (zRt h_R h_T hc_R hp_R hn_R hx_R hh_R hs_R c_hasSnapshot) ++ (zTr cI h_T q_T T)) (wr := ([0].filterMap (fun i => ((zRt h_R h_T hc_R hp_R hn_R hx_R hh_R hs_R c_hasSnapshot) ++ (zTr cI h_T q_T T))[i]?))) (va_runV (As := [vI x6, vI x1, vI x2, vI x3, vI x4]) (rest := []) hF.1 (c_Tr_meetsWindow l D cI cZ cT h_T q_T T x6 x1 x2 x3 x4 H.size (r_13) e_14) (cwV 5 hts (zgV wm419 wm420 wm421 wm33 wm422) rfl rfl rfl (by decide +kernel) ⟨Nat.le_of_ble_eq_true rfl, Nat.le_of_ble_eq_true rfl⟩) ⟨zP.blind, va_recv hK (z_subP (ws' := (zTr cI (h_T) (q_T) (T))) hP [1, 2, 3, 4, 5, 6] rfl) (ci := 4) (q0 := 0) rfl rfl, zP.enter (z_subP (ws' := (zTr cI (h_T) (q_T) (T))) hP [1, 2, 3, 4, 5, 6] rfl) hK (hD.sub [1, 2, 3, 4, 5, 6] (by decide) rfl) hN⟩ rfl rfl hl.1 rfl (lv_room (Nat.le_of_ble_eq_true rfl)) dX6_meeting_50 ⟨Nat.le_refl _, Nat.le_refl _⟩) hP hD hS hA [1, 2, 3, 4, 5, 6] [0] [0, 1, 2, 3, 4, 5, 6] rfl rfl (by decide) (fun _ => rfl) (fun u_15 H locs hP hD hS hz => ?_)
        obtain ⟨g_16, h⟩ := gd_e h
        refine z_if_eq (tgt := 59) hx hb g_16 dX6_meeting_53 (by decide) (fun b_17 => ?_) (fun b_17 => ?_)
        · have h := it_p b_17 h
          refine lv_iinc (v := Int32.ofInt (x6 + 1)) (lv' := [(6, vI (x6 + 1)), (0, .ref h_R), (1, vI x1), (2, vI x2), (3, vI x3), (4, vI x4), (5, vI x5)]) hx hb dX6_meeting_59 hl (k := 6) rfl (z_inc _ _) (by decide) rfl (fun ls hl => ?_)
          refine lv_goto (tgt := 20) hx hb dX6_meeting_62 (by decide) ?_
          exact ih (x5) ((x6 + 1)) H locs ls h hP hD hS (lv_sub hl [1, 2, 3, 4, 5, 6, 0] rfl)
        · have h := it_n b_17 h
          refine lv_iinc (v := Int32.ofInt (x5 + 1)) (lv' := [(5, vI (x5 + 1)), (0, .ref h_R), (1, vI x1), (2, vI x2), (3, vI x3), (4, vI x4), (6, vI x6)]) hx hb dX6_meeting_56 hl (k := 5) rfl (z_inc _ _) (by decide) rfl (fun ls hl => ?_)
          refine lv_iinc (v := Int32.ofInt (x6 + 1)) (lv' := [(6, vI (x6 + 1)), (5, vI (x5 + 1)), (0, .ref h_R), (1, vI x1), (2, vI x2), (3, vI x3), (4, vI x4)]) hx hb dX6_meeting_59 hl (k := 6) rfl (z_inc _ _) (by decide) rfl (fun ls hl => ?_)
          refine lv_goto (tgt := 20) hx hb dX6_meeting_62 (by decide) ?_
          exact ih ((x5 + 1)) ((x6 + 1)) H locs ls h hP hD hS (lv_sub hl [2, 3, 4, 5, 6, 1, 0] rfl)
set_option maxHeartbeats 4000000 in
set_option maxRecDepth 100000 in
theorem c_Rt_meeting (l : Launch) (D : va_G) (cI cZ cT : ClassId) (h_R : Nat) (h_T : Nat) (hc_R : Nat) (hp_R : Nat) (hn_R : Nat) (hx_R : Nat) (hh_R : Nat) (hs_R : Nat) (q_T : Nat → Nat) (c_hasSnapshot : Int) (T : TV) (x1 : Int) (x2 : Int) (x3 : Int) (x4 : Int) (sz : Nat) (res : Int) (h : f_Rt_meeting T x1 x2 x3 x4 = some res) : zMi l yX6_meeting cX6_meeting 7 rm_Rt_meeting D (zt cI cZ cT) [.ref h_R, vI x1, vI x2, vI x3, vI x4] ((zRt h_R h_T hc_R hp_R hn_R hx_R hh_R hs_R c_hasSnapshot) ++ (zTr cI h_T q_T T)) sz (res) (fun u => (zRt h_R h_T hc_R hp_R hn_R hx_R hh_R hs_R c_hasSnapshot) ++ (zTr cI h_T q_T T)) 0 0 := by
  refine z_enth (Qc := zQi D (res) (fun u => (zRt h_R h_T hc_R hp_R hn_R hx_R hh_R hs_R c_hasSnapshot) ++ (zTr cI h_T q_T T))) (by decide) (Nat.le_of_ble_eq_true rfl) (fun p e s m args below meth c A ls H locs hF hP hD hS hl => ?_)
  have hx := hF.1.1
  have hb := hF.1.2.1
  have hml := hF.1.2.2.1
  have hown : s.vm.findClass "RectangleTree" = some m.cls := hF.1.2.2.2.1
  have hts := hF.1.2.2.2.2
  have hr := hF.2.1
  have hlk := hF.2.2.1
  have hK := hF.2.2.2.2.1
  have hN := hF.2.2.2.2.2.1
  have hA := hF.2.2.2.2.2.2
  unfold f_Rt_meeting at h
  refine lv_iload_n hx hb dX6_meeting_0 rfl (lv_at hl 1 rfl) ?_
  refine lv_iload_n hx hb dX6_meeting_1 rfl (lv_at hl 2 rfl) ?_
  refine lv_iload_n hx hb dX6_meeting_2 rfl (lv_at hl 3 rfl) ?_
  refine lv_iload hx hb dX6_meeting_3 (lv_at hl 4 rfl) ?_
  obtain ⟨r_1, e_2, h⟩ := bd1_e h
  refine z_goi (ws' := []) (ret := r_1) (wc := ([] : va_W)) (wn := fun u_3 => (zRt h_R h_T hc_R hp_R hn_R hx_R hh_R hs_R c_hasSnapshot) ++ (zTr cI h_T q_T T)) (wr := ([0, 1, 2, 3, 4, 5, 6].filterMap (fun i => ((zRt h_R h_T hc_R hp_R hn_R hx_R hh_R hs_R c_hasSnapshot) ++ (zTr cI h_T q_T T))[i]?))) (va_runS (As := [vI x1, vI x2, vI x3, vI x4]) (rest := []) hF.1 (c_Rt_isRectangle l D cI cZ cT x1 x2 x3 x4 H.size (r_1) e_2) (va_cwS 4 hts (zgS wm413 wm414 wm32 wm415) rfl rfl rfl (by decide +kernel) ⟨Nat.le_of_ble_eq_true rfl, Nat.le_of_ble_eq_true rfl⟩) ⟨zP.blind, zP.enter (z_subP (ws' := ([] : va_W)) hP [] rfl) hK (hD.sub [] (by decide) rfl) hN⟩ rfl rfl hl.1 rfl (lv_room (Nat.le_of_ble_eq_true rfl)) dX6_meeting_5 ⟨Nat.le_refl _, Nat.le_refl _⟩) hP hD hS hA [] [0, 1, 2, 3, 4, 5, 6] [0, 1, 2, 3, 4, 5, 6] rfl rfl (by decide) (fun _ => rfl) (fun u_3 H locs hP hD hS hz => ?_)
  obtain ⟨g_4, h⟩ := gd_e h
  refine z_if_ne (tgt := 14) hx hb g_4 dX6_meeting_8 (by decide) (fun b_5 => ?_) (fun b_5 => ?_)
  · have h := it_n b_5 h
    refine lv_iconst (v := Int32.ofInt 0) hx hb dX6_meeting_14 rfl ?_
    refine lv_istore (lv' := [(5, vI 0), (0, .ref h_R), (1, vI x1), (2, vI x2), (3, vI x3), (4, vI x4)]) hx hb dX6_meeting_15 hl (by decide) rfl (fun ls hl => ?_)
    refine lv_iconst (v := Int32.ofInt 0) hx hb dX6_meeting_17 rfl ?_
    refine lv_istore (lv' := [(6, vI 0), (5, vI 0), (0, .ref h_R), (1, vI x1), (2, vI x2), (3, vI x3), (4, vI x4)]) hx hb dX6_meeting_18 hl (by decide) rfl (fun ls hl => ?_)
    refine w_Rt_meeting_L20 D cI cZ cT (h_R) (h_T) (hc_R) (hp_R) (hn_R) (hx_R) (hh_R) (hs_R) (q_T) (c_hasSnapshot) (T) (x1) (x2) (x3) (x4) _ _ hF (fun x5_18 x6_19 H locs ls h hP hD hS hl => ?_) _ (0) (0) _ _ _ h hP hD hS (lv_sub hl [2, 3, 4, 5, 6, 1, 0] rfl)
    refine lv_iload hx hb dX6_meeting_65 (lv_at hl 0 rfl) ?_
    obtain rfl := Option.some.inj h
    exact z_iret hx hb hr hlk (fun _ _ => 0) hP hD hS dX6_meeting_67
  · have h := it_p b_5 h
    refine lv_bipush (v := Int32.ofInt (-2)) hx hb dX6_meeting_11 (by decide +kernel) ?_
    obtain rfl := Option.some.inj h
    exact z_iret hx hb hr hlk (fun _ _ => 0) hP hD hS dX6_meeting_13
def f_Rt_inside_L20 (T : TV) (x1 : Int) (x2 : Int) (x3 : Int) (x4 : Int) (k : Int → Int → Option (Int)) : Nat → Int → Int → Option (Int)
  | 0, _, _ => none
  | n + 1, x5, x6 =>
  gd (ck x6) <| if x6 < 24 then (bd1 (f_Tr_hasBox T x6) <| fun r_8 => gd (ck r_8) <| if r_8 = 0 then (f_Rt_inside_L20 T x1 x2 x3 x4 k n (x5) ((x6 + 1))) else (bd1 (f_Tr_liesInWindow T x6 x1 x2 x3 x4) <| fun r_13 => gd (ck r_13) <| if r_13 = 0 then (f_Rt_inside_L20 T x1 x2 x3 x4 k n (x5) ((x6 + 1))) else (f_Rt_inside_L20 T x1 x2 x3 x4 k n ((iOr x5 (iShl 1 x6))) ((x6 + 1))))) else (k (x5) (x6))
def f_Rt_inside (T : TV) (x1 : Int) (x2 : Int) (x3 : Int) (x4 : Int) : Option (Int) :=
  bd1 (f_Rt_isRectangle x1 x2 x3 x4) <| fun r_1 => gd (ck r_1) <| if r_1 = 0 then (some ((-2))) else (f_Rt_inside_L20 (T) (x1) (x2) (x3) (x4) (fun x5_18 x6_19 => some (x5_18)) FU (0) (0))
abbrev rm_Rt_inside : Room := ({ frames := 2, cells := 0, slots := 0, locals := 48 } : Room)

set_option maxHeartbeats 4000000 in
set_option maxRecDepth 100000 in
theorem w_Rt_inside_L20 {p : Program} {l : Launch} {e : Env} {s : State} {m : MethodId} {args : Array Value} {below : List Frame} {meth : Method} {c : Code} {A : Nat → Prop} (D : va_G) (cI cZ cT : ClassId) (h_R : Nat) (h_T : Nat) (hc_R : Nat) (hp_R : Nat) (hn_R : Nat) (hx_R : Nat) (hh_R : Nat) (hs_R : Nat) (q_T : Nat → Nat) (c_hasSnapshot : Int) (T : TV) (x1 : Int) (x2 : Int) (x3 : Int) (x4 : Int) (res : Int) (k : Int → Int → Option (Int)) (hF : zF p m c cX6_inside 7 s args yX6_inside.cls meth (some .int) yX6_inside.name A D (zt cI cZ cT))
    (hk : ∀ (x5 : Int) (x6 : Int) (H : Heap) (locs : List Loc) (ls : Array Slot), k x5 x6 = some res → va_P D vwCl ((zRt h_R h_T hc_R hp_R hn_R hx_R hh_R hs_R c_hasSnapshot) ++ (zTr cI h_T q_T T)) H → va_D A ((zRt h_R h_T hc_R hp_R hn_R hx_R hh_R hs_R c_hasSnapshot) ++ (zTr cI h_T q_T T)) → va_S A s.heap H locs → lv_has ls 7 [(5, vI x5)] → W p l e rm_Rt_inside s m args below meth c H locs 0 0 (MQ below (zQi D (res) (fun u => (zRt h_R h_T hc_R hp_R hn_R hx_R hh_R hs_R c_hasSnapshot) ++ (zTr cI h_T q_T T)) A) args s 0 0 A) (F0 m 71 ls [])) :
    ∀ (n : Nat) (x5 : Int) (x6 : Int) (H : Heap) (locs : List Loc) (ls : Array Slot), f_Rt_inside_L20 T x1 x2 x3 x4 k n x5 x6 = some res → va_P D vwCl ((zRt h_R h_T hc_R hp_R hn_R hx_R hh_R hs_R c_hasSnapshot) ++ (zTr cI h_T q_T T)) H → va_D A ((zRt h_R h_T hc_R hp_R hn_R hx_R hh_R hs_R c_hasSnapshot) ++ (zTr cI h_T q_T T)) → va_S A s.heap H locs → lv_has ls 7 [(0, .ref h_R), (1, vI x1), (2, vI x2), (3, vI x3), (4, vI x4), (5, vI x5), (6, vI x6)] → W p l e rm_Rt_inside s m args below meth c H locs 0 0 (MQ below (zQi D (res) (fun u => (zRt h_R h_T hc_R hp_R hn_R hx_R hh_R hs_R c_hasSnapshot) ++ (zTr cI h_T q_T T)) A) args s 0 0 A) (F0 m 20 ls []) := by
  have hx := hF.1.1
  have hb := hF.1.2.1
  have hml := hF.1.2.2.1
  have hown : s.vm.findClass "RectangleTree" = some m.cls := hF.1.2.2.2.1
  have hts := hF.1.2.2.2.2
  have hr := hF.2.1
  have hlk := hF.2.2.1
  have hK := hF.2.2.2.2.1
  have hN := hF.2.2.2.2.2.1
  have hA := hF.2.2.2.2.2.2
  intro n
  induction n with
  | zero => intro x5 x6  H locs ls h; cases h
  | succ n ih =>
    intro x5 x6  H locs ls h  hP hD hS hl
    rw [f_Rt_inside_L20] at h
    refine lv_iload hx hb dX6_inside_20 (lv_at hl 6 rfl) ?_
    refine lv_bipush (v := Int32.ofInt 24) hx hb dX6_inside_22 (by decide +kernel) ?_
    obtain ⟨g_6, h⟩ := gd_e h
    refine z_icmp_ge (tgt := 71) hx hb g_6 (by decide) dX6_inside_24 (by decide) (fun b_7 => ?_) (fun b_7 => ?_)
    · have h := it_n b_7 h
      exact hk (x5) (x6) H locs ls h hP hD hS (lv_sub hl [5] rfl)
    · have h := it_p b_7 h
      refine lv_aload_n hx hb dX6_inside_27 rfl (lv_at hl 0 rfl) ?_
      refine va_get (D := D) (ci := 6) (v := .ref h_T) (C := RX6) (T := TX6) (N := 8) hx hb hts zin6 hown hK hP 0 rfl rfl 0 (by decide) (hts _ wm240) (fun _ h9 => h9) rfl dX6_inside_28 ?_
      refine lv_iload hx hb dX6_inside_31 (lv_at hl 6 rfl) ?_
      obtain ⟨r_8, e_9, h⟩ := bd1_e h
      refine z_goi (ws' := []) (ret := r_8) (wc := (zTr cI (h_T) (q_T) (T))) (wn := fun u_10 => (zRt h_R h_T hc_R hp_R hn_R hx_R hh_R hs_R c_hasSnapshot) ++ (zTr cI h_T q_T T)) (wr := ([0].filterMap (fun i => ((zRt h_R h_T hc_R hp_R hn_R hx_R hh_R hs_R c_hasSnapshot) ++ (zTr cI h_T q_T T))[i]?))) (va_runV (As := [vI x6]) (rest := []) hF.1 (c_Tr_hasBox l D cI cZ cT h_T q_T T x6 H.size (r_8) e_9) (cwV 1 hts (zgV wm343 wm344 wm345 wm33 wm346) rfl rfl rfl (by decide +kernel) ⟨Nat.le_of_ble_eq_true rfl, Nat.le_of_ble_eq_true rfl⟩) ⟨zP.blind, va_recv hK (z_subP (ws' := (zTr cI (h_T) (q_T) (T))) hP [1, 2, 3, 4, 5, 6] rfl) (ci := 4) (q0 := 0) rfl rfl, zP.enter (z_subP (ws' := (zTr cI (h_T) (q_T) (T))) hP [1, 2, 3, 4, 5, 6] rfl) hK (hD.sub [1, 2, 3, 4, 5, 6] (by decide) rfl) hN⟩ rfl rfl hl.1 rfl (lv_room (Nat.le_of_ble_eq_true rfl)) dX6_inside_33 ⟨Nat.le_refl _, Nat.le_refl _⟩) hP hD hS hA [1, 2, 3, 4, 5, 6] [0] [0, 1, 2, 3, 4, 5, 6] rfl rfl (by decide) (fun _ => rfl) (fun u_10 H locs hP hD hS hz => ?_)
      obtain ⟨g_11, h⟩ := gd_e h
      refine z_if_eq (tgt := 65) hx hb g_11 dX6_inside_36 (by decide) (fun b_12 => ?_) (fun b_12 => ?_)
      · have h := it_p b_12 h
        refine lv_iinc (v := Int32.ofInt (x6 + 1)) (lv' := [(6, vI (x6 + 1)), (0, .ref h_R), (1, vI x1), (2, vI x2), (3, vI x3), (4, vI x4), (5, vI x5)]) hx hb dX6_inside_65 hl (k := 6) rfl (z_inc _ _) (by decide) rfl (fun ls hl => ?_)
        refine lv_goto (tgt := 20) hx hb dX6_inside_68 (by decide) ?_
        exact ih (x5) ((x6 + 1)) H locs ls h hP hD hS (lv_sub hl [1, 2, 3, 4, 5, 6, 0] rfl)
      · have h := it_n b_12 h
        refine lv_aload_n hx hb dX6_inside_39 rfl (lv_at hl 0 rfl) ?_
        refine va_get (D := D) (ci := 6) (v := .ref h_T) (C := RX6) (T := TX6) (N := 8) hx hb hts zin6 hown hK hP 0 rfl rfl 0 (by decide) (hts _ wm240) (fun _ h9 => h9) rfl dX6_inside_40 ?_
        refine lv_iload hx hb dX6_inside_43 (lv_at hl 6 rfl) ?_
        refine lv_iload_n hx hb dX6_inside_45 rfl (lv_at hl 1 rfl) ?_
        refine lv_iload_n hx hb dX6_inside_46 rfl (lv_at hl 2 rfl) ?_
        refine lv_iload_n hx hb dX6_inside_47 rfl (lv_at hl 3 rfl) ?_
        refine lv_iload hx hb dX6_inside_48 (lv_at hl 4 rfl) ?_
        obtain ⟨r_13, e_14, h⟩ := bd1_e h
        refine z_goi (ws' := []) (ret := r_13) (wc := (zTr cI (h_T) (q_T) (T))) (wn := fun u_15 => (zRt h_R h_T hc_R hp_R hn_R hx_R hh_R hs_R c_hasSnapshot) ++ (zTr cI h_T q_T T)) (wr := ([0].filterMap (fun i => ((zRt h_R h_T hc_R hp_R hn_R hx_R hh_R hs_R c_hasSnapshot) ++ (zTr cI h_T q_T T))[i]?))) (va_runV (As := [vI x6, vI x1, vI x2, vI x3, vI x4]) (rest := []) hF.1 (c_Tr_liesInWindow l D cI cZ cT h_T q_T T x6 x1 x2 x3 x4 H.size (r_13) e_14) (cwV 5 hts (zgV wm427 wm428 wm429 wm33 wm430) rfl rfl rfl (by decide +kernel) ⟨Nat.le_of_ble_eq_true rfl, Nat.le_of_ble_eq_true rfl⟩) ⟨zP.blind, va_recv hK (z_subP (ws' := (zTr cI (h_T) (q_T) (T))) hP [1, 2, 3, 4, 5, 6] rfl) (ci := 4) (q0 := 0) rfl rfl, zP.enter (z_subP (ws' := (zTr cI (h_T) (q_T) (T))) hP [1, 2, 3, 4, 5, 6] rfl) hK (hD.sub [1, 2, 3, 4, 5, 6] (by decide) rfl) hN⟩ rfl rfl hl.1 rfl (lv_room (Nat.le_of_ble_eq_true rfl)) dX6_inside_50 ⟨Nat.le_refl _, Nat.le_refl _⟩) hP hD hS hA [1, 2, 3, 4, 5, 6] [0] [0, 1, 2, 3, 4, 5, 6] rfl rfl (by decide) (fun _ => rfl) (fun u_15 H locs hP hD hS hz => ?_)
        obtain ⟨g_16, h⟩ := gd_e h
        refine z_if_eq (tgt := 65) hx hb g_16 dX6_inside_53 (by decide) (fun b_17 => ?_) (fun b_17 => ?_)
        · have h := it_p b_17 h
          refine lv_iinc (v := Int32.ofInt (x6 + 1)) (lv' := [(6, vI (x6 + 1)), (0, .ref h_R), (1, vI x1), (2, vI x2), (3, vI x3), (4, vI x4), (5, vI x5)]) hx hb dX6_inside_65 hl (k := 6) rfl (z_inc _ _) (by decide) rfl (fun ls hl => ?_)
          refine lv_goto (tgt := 20) hx hb dX6_inside_68 (by decide) ?_
          exact ih (x5) ((x6 + 1)) H locs ls h hP hD hS (lv_sub hl [1, 2, 3, 4, 5, 6, 0] rfl)
        · have h := it_n b_17 h
          refine lv_iload hx hb dX6_inside_56 (lv_at hl 5 rfl) ?_
          refine lv_iconst (v := Int32.ofInt 1) hx hb dX6_inside_58 rfl ?_
          refine lv_iload hx hb dX6_inside_59 (lv_at hl 6 rfl) ?_
          refine z_ishl hx hb dX6_inside_61 ?_
          refine z_ior hx hb dX6_inside_62 ?_
          refine lv_istore (lv' := [(5, vI (iOr x5 (iShl 1 x6))), (0, .ref h_R), (1, vI x1), (2, vI x2), (3, vI x3), (4, vI x4), (6, vI x6)]) hx hb dX6_inside_63 hl (by decide) rfl (fun ls hl => ?_)
          refine lv_iinc (v := Int32.ofInt (x6 + 1)) (lv' := [(6, vI (x6 + 1)), (5, vI (iOr x5 (iShl 1 x6))), (0, .ref h_R), (1, vI x1), (2, vI x2), (3, vI x3), (4, vI x4)]) hx hb dX6_inside_65 hl (k := 6) rfl (z_inc _ _) (by decide) rfl (fun ls hl => ?_)
          refine lv_goto (tgt := 20) hx hb dX6_inside_68 (by decide) ?_
          exact ih ((iOr x5 (iShl 1 x6))) ((x6 + 1)) H locs ls h hP hD hS (lv_sub hl [2, 3, 4, 5, 6, 1, 0] rfl)
set_option maxHeartbeats 4000000 in
set_option maxRecDepth 100000 in
theorem c_Rt_inside (l : Launch) (D : va_G) (cI cZ cT : ClassId) (h_R : Nat) (h_T : Nat) (hc_R : Nat) (hp_R : Nat) (hn_R : Nat) (hx_R : Nat) (hh_R : Nat) (hs_R : Nat) (q_T : Nat → Nat) (c_hasSnapshot : Int) (T : TV) (x1 : Int) (x2 : Int) (x3 : Int) (x4 : Int) (sz : Nat) (res : Int) (h : f_Rt_inside T x1 x2 x3 x4 = some res) : zMi l yX6_inside cX6_inside 7 rm_Rt_inside D (zt cI cZ cT) [.ref h_R, vI x1, vI x2, vI x3, vI x4] ((zRt h_R h_T hc_R hp_R hn_R hx_R hh_R hs_R c_hasSnapshot) ++ (zTr cI h_T q_T T)) sz (res) (fun u => (zRt h_R h_T hc_R hp_R hn_R hx_R hh_R hs_R c_hasSnapshot) ++ (zTr cI h_T q_T T)) 0 0 := by
  refine z_enth (Qc := zQi D (res) (fun u => (zRt h_R h_T hc_R hp_R hn_R hx_R hh_R hs_R c_hasSnapshot) ++ (zTr cI h_T q_T T))) (by decide) (Nat.le_of_ble_eq_true rfl) (fun p e s m args below meth c A ls H locs hF hP hD hS hl => ?_)
  have hx := hF.1.1
  have hb := hF.1.2.1
  have hml := hF.1.2.2.1
  have hown : s.vm.findClass "RectangleTree" = some m.cls := hF.1.2.2.2.1
  have hts := hF.1.2.2.2.2
  have hr := hF.2.1
  have hlk := hF.2.2.1
  have hK := hF.2.2.2.2.1
  have hN := hF.2.2.2.2.2.1
  have hA := hF.2.2.2.2.2.2
  unfold f_Rt_inside at h
  refine lv_iload_n hx hb dX6_inside_0 rfl (lv_at hl 1 rfl) ?_
  refine lv_iload_n hx hb dX6_inside_1 rfl (lv_at hl 2 rfl) ?_
  refine lv_iload_n hx hb dX6_inside_2 rfl (lv_at hl 3 rfl) ?_
  refine lv_iload hx hb dX6_inside_3 (lv_at hl 4 rfl) ?_
  obtain ⟨r_1, e_2, h⟩ := bd1_e h
  refine z_goi (ws' := []) (ret := r_1) (wc := ([] : va_W)) (wn := fun u_3 => (zRt h_R h_T hc_R hp_R hn_R hx_R hh_R hs_R c_hasSnapshot) ++ (zTr cI h_T q_T T)) (wr := ([0, 1, 2, 3, 4, 5, 6].filterMap (fun i => ((zRt h_R h_T hc_R hp_R hn_R hx_R hh_R hs_R c_hasSnapshot) ++ (zTr cI h_T q_T T))[i]?))) (va_runS (As := [vI x1, vI x2, vI x3, vI x4]) (rest := []) hF.1 (c_Rt_isRectangle l D cI cZ cT x1 x2 x3 x4 H.size (r_1) e_2) (va_cwS 4 hts (zgS wm413 wm414 wm32 wm415) rfl rfl rfl (by decide +kernel) ⟨Nat.le_of_ble_eq_true rfl, Nat.le_of_ble_eq_true rfl⟩) ⟨zP.blind, zP.enter (z_subP (ws' := ([] : va_W)) hP [] rfl) hK (hD.sub [] (by decide) rfl) hN⟩ rfl rfl hl.1 rfl (lv_room (Nat.le_of_ble_eq_true rfl)) dX6_inside_5 ⟨Nat.le_refl _, Nat.le_refl _⟩) hP hD hS hA [] [0, 1, 2, 3, 4, 5, 6] [0, 1, 2, 3, 4, 5, 6] rfl rfl (by decide) (fun _ => rfl) (fun u_3 H locs hP hD hS hz => ?_)
  obtain ⟨g_4, h⟩ := gd_e h
  refine z_if_ne (tgt := 14) hx hb g_4 dX6_inside_8 (by decide) (fun b_5 => ?_) (fun b_5 => ?_)
  · have h := it_n b_5 h
    refine lv_iconst (v := Int32.ofInt 0) hx hb dX6_inside_14 rfl ?_
    refine lv_istore (lv' := [(5, vI 0), (0, .ref h_R), (1, vI x1), (2, vI x2), (3, vI x3), (4, vI x4)]) hx hb dX6_inside_15 hl (by decide) rfl (fun ls hl => ?_)
    refine lv_iconst (v := Int32.ofInt 0) hx hb dX6_inside_17 rfl ?_
    refine lv_istore (lv' := [(6, vI 0), (5, vI 0), (0, .ref h_R), (1, vI x1), (2, vI x2), (3, vI x3), (4, vI x4)]) hx hb dX6_inside_18 hl (by decide) rfl (fun ls hl => ?_)
    refine w_Rt_inside_L20 D cI cZ cT (h_R) (h_T) (hc_R) (hp_R) (hn_R) (hx_R) (hh_R) (hs_R) (q_T) (c_hasSnapshot) (T) (x1) (x2) (x3) (x4) _ _ hF (fun x5_18 x6_19 H locs ls h hP hD hS hl => ?_) _ (0) (0) _ _ _ h hP hD hS (lv_sub hl [2, 3, 4, 5, 6, 1, 0] rfl)
    refine lv_iload hx hb dX6_inside_71 (lv_at hl 0 rfl) ?_
    obtain rfl := Option.some.inj h
    exact z_iret hx hb hr hlk (fun _ _ => 0) hP hD hS dX6_inside_73
  · have h := it_p b_5 h
    refine lv_bipush (v := Int32.ofInt (-2)) hx hb dX6_inside_11 (by decide +kernel) ?_
    obtain rfl := Option.some.inj h
    exact z_iret hx hb hr hlk (fun _ _ => 0) hP hD hS dX6_inside_13
def f_Rt_visits_L20 (T : TV) (K : KV) (x1 : Int) (x2 : Int) (x3 : Int) (x4 : Int) (k : Int → Int → Option (Int)) : Nat → Int → Int → Option (Int)
  | 0, _, _ => none
  | n + 1, x5, x6 =>
  gd (ck x6) <| gd (ck (kCnt K)) <| if x6 < (kCnt K) then (bd1 (f_Rt_nodeAt K x6) <| fun r_9 => bd1 (f_Tr_meetsWindow T r_9 x1 x2 x3 x4) <| fun r_12 => gd (ck r_12) <| if r_12 = 0 then (f_Rt_visits_L20 T K x1 x2 x3 x4 k n (x5) ((x6 + 1))) else (f_Rt_visits_L20 T K x1 x2 x3 x4 k n ((x5 + 1)) ((x6 + 1)))) else (k (x5) (x6))
def f_Rt_visits (T : TV) (K : KV) (x1 : Int) (x2 : Int) (x3 : Int) (x4 : Int) : Option (Int) :=
  bd1 (f_Rt_isRectangle x1 x2 x3 x4) <| fun r_1 => gd (ck r_1) <| if r_1 = 0 then (some ((-2))) else (f_Rt_visits_L20 (T) (K) (x1) (x2) (x3) (x4) (fun x5_17 x6_18 => some (x5_17)) FU (1) (1))
abbrev rm_Rt_visits : Room := ({ frames := 2, cells := 0, slots := 0, locals := 48 } : Room)

set_option maxHeartbeats 4000000 in
set_option maxRecDepth 100000 in
theorem w_Rt_visits_L20 {p : Program} {l : Launch} {e : Env} {s : State} {m : MethodId} {args : Array Value} {below : List Frame} {meth : Method} {c : Code} {A : Nat → Prop} (D : va_G) (cI cZ cT : ClassId) (h_R : Nat) (h_T : Nat) (hc_R : Nat) (hp_R : Nat) (h_K : Nat) (hx_R : Nat) (hh_R : Nat) (hs_R : Nat) (q_T : Nat → Nat) (q_K : Nat → Nat) (c_hasSnapshot : Int) (T : TV) (K : KV) (x1 : Int) (x2 : Int) (x3 : Int) (x4 : Int) (res : Int) (k : Int → Int → Option (Int)) (hF : zF p m c cX6_visits 7 s args yX6_visits.cls meth (some .int) yX6_visits.name A D (zt cI cZ cT))
    (hk : ∀ (x5 : Int) (x6 : Int) (H : Heap) (locs : List Loc) (ls : Array Slot), k x5 x6 = some res → va_P D vwCl ((zRt h_R h_T hc_R hp_R h_K hx_R hh_R hs_R c_hasSnapshot) ++ (zTr cI h_T q_T T) ++ (zWk cI h_K q_K K)) H → va_D A ((zRt h_R h_T hc_R hp_R h_K hx_R hh_R hs_R c_hasSnapshot) ++ (zTr cI h_T q_T T) ++ (zWk cI h_K q_K K)) → va_S A s.heap H locs → lv_has ls 7 [(5, vI x5)] → W p l e rm_Rt_visits s m args below meth c H locs 0 0 (MQ below (zQi D (res) (fun u => (zRt h_R h_T hc_R hp_R h_K hx_R hh_R hs_R c_hasSnapshot) ++ (zTr cI h_T q_T T) ++ (zWk cI h_K q_K K)) A) args s 0 0 A) (F0 m 62 ls [])) :
    ∀ (n : Nat) (x5 : Int) (x6 : Int) (H : Heap) (locs : List Loc) (ls : Array Slot), f_Rt_visits_L20 T K x1 x2 x3 x4 k n x5 x6 = some res → va_P D vwCl ((zRt h_R h_T hc_R hp_R h_K hx_R hh_R hs_R c_hasSnapshot) ++ (zTr cI h_T q_T T) ++ (zWk cI h_K q_K K)) H → va_D A ((zRt h_R h_T hc_R hp_R h_K hx_R hh_R hs_R c_hasSnapshot) ++ (zTr cI h_T q_T T) ++ (zWk cI h_K q_K K)) → va_S A s.heap H locs → lv_has ls 7 [(0, .ref h_R), (1, vI x1), (2, vI x2), (3, vI x3), (4, vI x4), (5, vI x5), (6, vI x6)] → W p l e rm_Rt_visits s m args below meth c H locs 0 0 (MQ below (zQi D (res) (fun u => (zRt h_R h_T hc_R hp_R h_K hx_R hh_R hs_R c_hasSnapshot) ++ (zTr cI h_T q_T T) ++ (zWk cI h_K q_K K)) A) args s 0 0 A) (F0 m 20 ls []) := by
  have hx := hF.1.1
  have hb := hF.1.2.1
  have hml := hF.1.2.2.1
  have hown : s.vm.findClass "RectangleTree" = some m.cls := hF.1.2.2.2.1
  have hts := hF.1.2.2.2.2
  have hr := hF.2.1
  have hlk := hF.2.2.1
  have hK := hF.2.2.2.2.1
  have hN := hF.2.2.2.2.2.1
  have hA := hF.2.2.2.2.2.2
  intro n
  induction n with
  | zero => intro x5 x6  H locs ls h; cases h
  | succ n ih =>
    intro x5 x6  H locs ls h  hP hD hS hl
    rw [f_Rt_visits_L20] at h
    refine lv_iload hx hb dX6_visits_20 (lv_at hl 6 rfl) ?_
    refine lv_aload_n hx hb dX6_visits_22 rfl (lv_at hl 0 rfl) ?_
    refine va_get (D := D) (ci := 6) (v := .ref h_K) (C := RX6) (T := TX6) (N := 8) hx hb hts zin6 hown hK hP 0 rfl rfl 3 (by decide) (hts _ wm243) (fun _ h9 => h9) rfl dX6_visits_23 ?_
    refine va_get (D := D) (ci := 5) (v := vI (kCnt K)) (C := RX5) (T := TX5) (N := 3) hx hb hts zin5 hown hK hP 7 rfl rfl 1 (by decide) (hts _ wm122) (fun _ h9 => h9) rfl dX6_visits_26 ?_
    obtain ⟨g_6, h⟩ := gd_e h
    obtain ⟨g_7, h⟩ := gd_e h
    refine z_icmp_ge (tgt := 62) hx hb g_6 g_7 dX6_visits_29 (by decide) (fun b_8 => ?_) (fun b_8 => ?_)
    · have h := it_n b_8 h
      exact hk (x5) (x6) H locs ls h hP hD hS (lv_sub hl [5] rfl)
    · have h := it_p b_8 h
      refine lv_aload_n hx hb dX6_visits_32 rfl (lv_at hl 0 rfl) ?_
      refine va_get (D := D) (ci := 6) (v := .ref h_T) (C := RX6) (T := TX6) (N := 8) hx hb hts zin6 hown hK hP 0 rfl rfl 0 (by decide) (hts _ wm240) (fun _ h9 => h9) rfl dX6_visits_33 ?_
      refine lv_aload_n hx hb dX6_visits_36 rfl (lv_at hl 0 rfl) ?_
      refine lv_iload hx hb dX6_visits_37 (lv_at hl 6 rfl) ?_
      obtain ⟨r_9, e_10, h⟩ := bd1_e h
      refine z_goi (ws' := []) (ret := r_9) (wc := (zRt (h_R) (h_T) (hc_R) (hp_R) (h_K) (hx_R) (hh_R) (hs_R) (c_hasSnapshot)) ++ (zWk cI (h_K) (q_K) (K))) (wn := fun u_11 => (zRt h_R h_T hc_R hp_R h_K hx_R hh_R hs_R c_hasSnapshot) ++ (zTr cI h_T q_T T) ++ (zWk cI h_K q_K K)) (wr := ([1, 2, 3, 4, 5, 6].filterMap (fun i => ((zRt h_R h_T hc_R hp_R h_K hx_R hh_R hs_R c_hasSnapshot) ++ (zTr cI h_T q_T T) ++ (zWk cI h_K q_K K))[i]?))) (va_runV (As := [vI x6]) (rest := [.ref h_T]) hF.1 (c_Rt_nodeAt l D cI cZ cT h_R h_T hc_R hp_R h_K hx_R hh_R hs_R q_K c_hasSnapshot K x6 H.size (r_9) e_10) (cwV 1 hts (zgV wm295 wm297 wm2 wm32 wm298) rfl rfl rfl (by decide +kernel) ⟨Nat.le_of_ble_eq_true rfl, Nat.le_of_ble_eq_true rfl⟩) ⟨zP.blind, va_recv hK (z_subP (ws' := (zRt (h_R) (h_T) (hc_R) (hp_R) (h_K) (hx_R) (hh_R) (hs_R) (c_hasSnapshot)) ++ (zWk cI (h_K) (q_K) (K))) hP [0, 7, 8, 9] rfl) (ci := 6) (q0 := 0) rfl rfl, zP.enter (z_subP (ws' := (zRt (h_R) (h_T) (hc_R) (hp_R) (h_K) (hx_R) (hh_R) (hs_R) (c_hasSnapshot)) ++ (zWk cI (h_K) (q_K) (K))) hP [0, 7, 8, 9] rfl) hK (hD.sub [0, 7, 8, 9] (by decide) rfl) hN⟩ rfl rfl hl.1 rfl (lv_room (Nat.le_of_ble_eq_true rfl)) dX6_visits_39 ⟨Nat.le_refl _, Nat.le_refl _⟩) hP hD hS hA [0, 7, 8, 9] [1, 2, 3, 4, 5, 6] [6, 0, 1, 2, 3, 4, 5, 7, 8, 9] rfl rfl (by decide) (fun _ => rfl) (fun u_11 H locs hP hD hS hz => ?_)
      refine lv_iload_n hx hb dX6_visits_42 rfl (lv_at hl 1 rfl) ?_
      refine lv_iload_n hx hb dX6_visits_43 rfl (lv_at hl 2 rfl) ?_
      refine lv_iload_n hx hb dX6_visits_44 rfl (lv_at hl 3 rfl) ?_
      refine lv_iload hx hb dX6_visits_45 (lv_at hl 4 rfl) ?_
      obtain ⟨r_12, e_13, h⟩ := bd1_e h
      refine z_goi (ws' := []) (ret := r_12) (wc := (zTr cI (h_T) (q_T) (T))) (wn := fun u_14 => (zRt h_R h_T hc_R hp_R h_K hx_R hh_R hs_R c_hasSnapshot) ++ (zTr cI h_T q_T T) ++ (zWk cI h_K q_K K)) (wr := ([0, 7, 8, 9].filterMap (fun i => ((zRt h_R h_T hc_R hp_R h_K hx_R hh_R hs_R c_hasSnapshot) ++ (zTr cI h_T q_T T) ++ (zWk cI h_K q_K K))[i]?))) (va_runV (As := [vI r_9, vI x1, vI x2, vI x3, vI x4]) (rest := []) hF.1 (c_Tr_meetsWindow l D cI cZ cT h_T q_T T r_9 x1 x2 x3 x4 H.size (r_12) e_13) (cwV 5 hts (zgV wm419 wm420 wm421 wm33 wm422) rfl rfl rfl (by decide +kernel) ⟨Nat.le_of_ble_eq_true rfl, Nat.le_of_ble_eq_true rfl⟩) ⟨zP.blind, va_recv hK (z_subP (ws' := (zTr cI (h_T) (q_T) (T))) hP [1, 2, 3, 4, 5, 6] rfl) (ci := 4) (q0 := 0) rfl rfl, zP.enter (z_subP (ws' := (zTr cI (h_T) (q_T) (T))) hP [1, 2, 3, 4, 5, 6] rfl) hK (hD.sub [1, 2, 3, 4, 5, 6] (by decide) rfl) hN⟩ rfl rfl hl.1 rfl (lv_room (Nat.le_of_ble_eq_true rfl)) dX6_visits_47 ⟨Nat.le_refl _, Nat.le_refl _⟩) hP hD hS hA [1, 2, 3, 4, 5, 6] [0, 7, 8, 9] [0, 4, 5, 6, 7, 8, 9, 1, 2, 3] rfl rfl (by decide) (fun _ => rfl) (fun u_14 H locs hP hD hS hz => ?_)
      obtain ⟨g_15, h⟩ := gd_e h
      refine z_if_eq (tgt := 56) hx hb g_15 dX6_visits_50 (by decide) (fun b_16 => ?_) (fun b_16 => ?_)
      · have h := it_p b_16 h
        refine lv_iinc (v := Int32.ofInt (x6 + 1)) (lv' := [(6, vI (x6 + 1)), (0, .ref h_R), (1, vI x1), (2, vI x2), (3, vI x3), (4, vI x4), (5, vI x5)]) hx hb dX6_visits_56 hl (k := 6) rfl (z_inc _ _) (by decide) rfl (fun ls hl => ?_)
        refine lv_goto (tgt := 20) hx hb dX6_visits_59 (by decide) ?_
        exact ih (x5) ((x6 + 1)) H locs ls h hP hD hS (lv_sub hl [1, 2, 3, 4, 5, 6, 0] rfl)
      · have h := it_n b_16 h
        refine lv_iinc (v := Int32.ofInt (x5 + 1)) (lv' := [(5, vI (x5 + 1)), (0, .ref h_R), (1, vI x1), (2, vI x2), (3, vI x3), (4, vI x4), (6, vI x6)]) hx hb dX6_visits_53 hl (k := 5) rfl (z_inc _ _) (by decide) rfl (fun ls hl => ?_)
        refine lv_iinc (v := Int32.ofInt (x6 + 1)) (lv' := [(6, vI (x6 + 1)), (5, vI (x5 + 1)), (0, .ref h_R), (1, vI x1), (2, vI x2), (3, vI x3), (4, vI x4)]) hx hb dX6_visits_56 hl (k := 6) rfl (z_inc _ _) (by decide) rfl (fun ls hl => ?_)
        refine lv_goto (tgt := 20) hx hb dX6_visits_59 (by decide) ?_
        exact ih ((x5 + 1)) ((x6 + 1)) H locs ls h hP hD hS (lv_sub hl [2, 3, 4, 5, 6, 1, 0] rfl)
set_option maxHeartbeats 4000000 in
set_option maxRecDepth 100000 in
theorem c_Rt_visits (l : Launch) (D : va_G) (cI cZ cT : ClassId) (h_R : Nat) (h_T : Nat) (hc_R : Nat) (hp_R : Nat) (h_K : Nat) (hx_R : Nat) (hh_R : Nat) (hs_R : Nat) (q_T : Nat → Nat) (q_K : Nat → Nat) (c_hasSnapshot : Int) (T : TV) (K : KV) (x1 : Int) (x2 : Int) (x3 : Int) (x4 : Int) (sz : Nat) (res : Int) (h : f_Rt_visits T K x1 x2 x3 x4 = some res) : zMi l yX6_visits cX6_visits 7 rm_Rt_visits D (zt cI cZ cT) [.ref h_R, vI x1, vI x2, vI x3, vI x4] ((zRt h_R h_T hc_R hp_R h_K hx_R hh_R hs_R c_hasSnapshot) ++ (zTr cI h_T q_T T) ++ (zWk cI h_K q_K K)) sz (res) (fun u => (zRt h_R h_T hc_R hp_R h_K hx_R hh_R hs_R c_hasSnapshot) ++ (zTr cI h_T q_T T) ++ (zWk cI h_K q_K K)) 0 0 := by
  refine z_enth (Qc := zQi D (res) (fun u => (zRt h_R h_T hc_R hp_R h_K hx_R hh_R hs_R c_hasSnapshot) ++ (zTr cI h_T q_T T) ++ (zWk cI h_K q_K K))) (by decide) (Nat.le_of_ble_eq_true rfl) (fun p e s m args below meth c A ls H locs hF hP hD hS hl => ?_)
  have hx := hF.1.1
  have hb := hF.1.2.1
  have hml := hF.1.2.2.1
  have hown : s.vm.findClass "RectangleTree" = some m.cls := hF.1.2.2.2.1
  have hts := hF.1.2.2.2.2
  have hr := hF.2.1
  have hlk := hF.2.2.1
  have hK := hF.2.2.2.2.1
  have hN := hF.2.2.2.2.2.1
  have hA := hF.2.2.2.2.2.2
  unfold f_Rt_visits at h
  refine lv_iload_n hx hb dX6_visits_0 rfl (lv_at hl 1 rfl) ?_
  refine lv_iload_n hx hb dX6_visits_1 rfl (lv_at hl 2 rfl) ?_
  refine lv_iload_n hx hb dX6_visits_2 rfl (lv_at hl 3 rfl) ?_
  refine lv_iload hx hb dX6_visits_3 (lv_at hl 4 rfl) ?_
  obtain ⟨r_1, e_2, h⟩ := bd1_e h
  refine z_goi (ws' := []) (ret := r_1) (wc := ([] : va_W)) (wn := fun u_3 => (zRt h_R h_T hc_R hp_R h_K hx_R hh_R hs_R c_hasSnapshot) ++ (zTr cI h_T q_T T) ++ (zWk cI h_K q_K K)) (wr := ([0, 1, 2, 3, 4, 5, 6, 7, 8, 9].filterMap (fun i => ((zRt h_R h_T hc_R hp_R h_K hx_R hh_R hs_R c_hasSnapshot) ++ (zTr cI h_T q_T T) ++ (zWk cI h_K q_K K))[i]?))) (va_runS (As := [vI x1, vI x2, vI x3, vI x4]) (rest := []) hF.1 (c_Rt_isRectangle l D cI cZ cT x1 x2 x3 x4 H.size (r_1) e_2) (va_cwS 4 hts (zgS wm413 wm414 wm32 wm415) rfl rfl rfl (by decide +kernel) ⟨Nat.le_of_ble_eq_true rfl, Nat.le_of_ble_eq_true rfl⟩) ⟨zP.blind, zP.enter (z_subP (ws' := ([] : va_W)) hP [] rfl) hK (hD.sub [] (by decide) rfl) hN⟩ rfl rfl hl.1 rfl (lv_room (Nat.le_of_ble_eq_true rfl)) dX6_visits_5 ⟨Nat.le_refl _, Nat.le_refl _⟩) hP hD hS hA [] [0, 1, 2, 3, 4, 5, 6, 7, 8, 9] [0, 1, 2, 3, 4, 5, 6, 7, 8, 9] rfl rfl (by decide) (fun _ => rfl) (fun u_3 H locs hP hD hS hz => ?_)
  obtain ⟨g_4, h⟩ := gd_e h
  refine z_if_ne (tgt := 14) hx hb g_4 dX6_visits_8 (by decide) (fun b_5 => ?_) (fun b_5 => ?_)
  · have h := it_n b_5 h
    refine lv_iconst (v := Int32.ofInt 1) hx hb dX6_visits_14 rfl ?_
    refine lv_istore (lv' := [(5, vI 1), (0, .ref h_R), (1, vI x1), (2, vI x2), (3, vI x3), (4, vI x4)]) hx hb dX6_visits_15 hl (by decide) rfl (fun ls hl => ?_)
    refine lv_iconst (v := Int32.ofInt 1) hx hb dX6_visits_17 rfl ?_
    refine lv_istore (lv' := [(6, vI 1), (5, vI 1), (0, .ref h_R), (1, vI x1), (2, vI x2), (3, vI x3), (4, vI x4)]) hx hb dX6_visits_18 hl (by decide) rfl (fun ls hl => ?_)
    refine w_Rt_visits_L20 D cI cZ cT (h_R) (h_T) (hc_R) (hp_R) (h_K) (hx_R) (hh_R) (hs_R) (q_T) (q_K) (c_hasSnapshot) (T) (K) (x1) (x2) (x3) (x4) _ _ hF (fun x5_17 x6_18 H locs ls h hP hD hS hl => ?_) _ (1) (1) _ _ _ h hP hD hS (lv_sub hl [2, 3, 4, 5, 6, 1, 0] rfl)
    refine lv_iload hx hb dX6_visits_62 (lv_at hl 0 rfl) ?_
    obtain rfl := Option.some.inj h
    exact z_iret hx hb hr hlk (fun _ _ => 0) hP hD hS dX6_visits_64
  · have h := it_p b_5 h
    refine lv_bipush (v := Int32.ofInt (-2)) hx hb dX6_visits_11 (by decide +kernel) ?_
    obtain rfl := Option.some.inj h
    exact z_iret hx hb hr hlk (fun _ _ => 0) hP hD hS dX6_visits_13
def f_Rt_nearest_L22 (T : TV) (x1 : Int) (x2 : Int) (k : Int → Int → Int → Option (Int)) : Nat → Int → Int → Int → Option (Int)
  | 0, _, _, _ => none
  | n + 1, x3, x4, x5 =>
  gd (ck x5) <| if x5 < 24 then (bd1 (f_Tr_hasBox T x5) <| fun r_8 => gd (ck r_8) <| if r_8 = 0 then (f_Rt_nearest_L22 T x1 x2 k n (x3) (x4) ((x5 + 1))) else (bd1 (f_Tr_squareDistance T x5 x1 x2) <| fun r_13 => gd (ck x3) <| if x3 = (-5) then (f_Rt_nearest_L22 T x1 x2 k n (x5) (r_13) ((x5 + 1))) else (gd (ck r_13) <| gd (ck x4) <| if r_13 < x4 then (f_Rt_nearest_L22 T x1 x2 k n (x5) (r_13) ((x5 + 1))) else (f_Rt_nearest_L22 T x1 x2 k n (x3) (x4) ((x5 + 1)))))) else (k (x3) (x4) (x5))
def f_Rt_nearest (T : TV) (x1 : Int) (x2 : Int) : Option (Int) :=
  bd1 (f_Rt_isRectangle x1 x2 x1 x2) <| fun r_1 => gd (ck r_1) <| if r_1 = 0 then (some ((-2))) else (f_Rt_nearest_L22 (T) (x1) (x2) (fun x3_21 x4_22 x5_23 => some (x3_21)) FU ((-5)) (0) (0))
abbrev rm_Rt_nearest : Room := ({ frames := 2, cells := 0, slots := 0, locals := 48 } : Room)

set_option maxHeartbeats 4000000 in
set_option maxRecDepth 100000 in
theorem w_Rt_nearest_L22 {p : Program} {l : Launch} {e : Env} {s : State} {m : MethodId} {args : Array Value} {below : List Frame} {meth : Method} {c : Code} {A : Nat → Prop} (D : va_G) (cI cZ cT : ClassId) (h_R : Nat) (h_T : Nat) (hc_R : Nat) (hp_R : Nat) (hn_R : Nat) (hx_R : Nat) (hh_R : Nat) (hs_R : Nat) (q_T : Nat → Nat) (c_hasSnapshot : Int) (T : TV) (x1 : Int) (x2 : Int) (res : Int) (k : Int → Int → Int → Option (Int)) (hF : zF p m c cX6_nearest 7 s args yX6_nearest.cls meth (some .int) yX6_nearest.name A D (zt cI cZ cT))
    (hk : ∀ (x3 : Int) (x4 : Int) (x5 : Int) (H : Heap) (locs : List Loc) (ls : Array Slot), k x3 x4 x5 = some res → va_P D vwCl ((zRt h_R h_T hc_R hp_R hn_R hx_R hh_R hs_R c_hasSnapshot) ++ (zTr cI h_T q_T T)) H → va_D A ((zRt h_R h_T hc_R hp_R hn_R hx_R hh_R hs_R c_hasSnapshot) ++ (zTr cI h_T q_T T)) → va_S A s.heap H locs → lv_has ls 7 [(3, vI x3)] → W p l e rm_Rt_nearest s m args below meth c H locs 0 0 (MQ below (zQi D (res) (fun u => (zRt h_R h_T hc_R hp_R hn_R hx_R hh_R hs_R c_hasSnapshot) ++ (zTr cI h_T q_T T)) A) args s 0 0 A) (F0 m 83 ls [])) :
    ∀ (n : Nat) (x3 : Int) (x4 : Int) (x5 : Int) (H : Heap) (locs : List Loc) (ls : Array Slot), f_Rt_nearest_L22 T x1 x2 k n x3 x4 x5 = some res → va_P D vwCl ((zRt h_R h_T hc_R hp_R hn_R hx_R hh_R hs_R c_hasSnapshot) ++ (zTr cI h_T q_T T)) H → va_D A ((zRt h_R h_T hc_R hp_R hn_R hx_R hh_R hs_R c_hasSnapshot) ++ (zTr cI h_T q_T T)) → va_S A s.heap H locs → lv_has ls 7 [(0, .ref h_R), (1, vI x1), (2, vI x2), (3, vI x3), (4, vI x4), (5, vI x5)] → W p l e rm_Rt_nearest s m args below meth c H locs 0 0 (MQ below (zQi D (res) (fun u => (zRt h_R h_T hc_R hp_R hn_R hx_R hh_R hs_R c_hasSnapshot) ++ (zTr cI h_T q_T T)) A) args s 0 0 A) (F0 m 22 ls []) := by
  have hx := hF.1.1
  have hb := hF.1.2.1
  have hml := hF.1.2.2.1
  have hown : s.vm.findClass "RectangleTree" = some m.cls := hF.1.2.2.2.1
  have hts := hF.1.2.2.2.2
  have hr := hF.2.1
  have hlk := hF.2.2.1
  have hK := hF.2.2.2.2.1
  have hN := hF.2.2.2.2.2.1
  have hA := hF.2.2.2.2.2.2
  intro n
  induction n with
  | zero => intro x3 x4 x5  H locs ls h; cases h
  | succ n ih =>
    intro x3 x4 x5  H locs ls h  hP hD hS hl
    rw [f_Rt_nearest_L22] at h
    refine lv_iload hx hb dX6_nearest_22 (lv_at hl 5 rfl) ?_
    refine lv_bipush (v := Int32.ofInt 24) hx hb dX6_nearest_24 (by decide +kernel) ?_
    obtain ⟨g_6, h⟩ := gd_e h
    refine z_icmp_ge (tgt := 83) hx hb g_6 (by decide) dX6_nearest_26 (by decide) (fun b_7 => ?_) (fun b_7 => ?_)
    · have h := it_n b_7 h
      exact hk (x3) (x4) (x5) H locs ls h hP hD hS (lv_sub hl [3] rfl)
    · have h := it_p b_7 h
      refine lv_aload_n hx hb dX6_nearest_29 rfl (lv_at hl 0 rfl) ?_
      refine va_get (D := D) (ci := 6) (v := .ref h_T) (C := RX6) (T := TX6) (N := 8) hx hb hts zin6 hown hK hP 0 rfl rfl 0 (by decide) (hts _ wm240) (fun _ h9 => h9) rfl dX6_nearest_30 ?_
      refine lv_iload hx hb dX6_nearest_33 (lv_at hl 5 rfl) ?_
      obtain ⟨r_8, e_9, h⟩ := bd1_e h
      refine z_goi (ws' := []) (ret := r_8) (wc := (zTr cI (h_T) (q_T) (T))) (wn := fun u_10 => (zRt h_R h_T hc_R hp_R hn_R hx_R hh_R hs_R c_hasSnapshot) ++ (zTr cI h_T q_T T)) (wr := ([0].filterMap (fun i => ((zRt h_R h_T hc_R hp_R hn_R hx_R hh_R hs_R c_hasSnapshot) ++ (zTr cI h_T q_T T))[i]?))) (va_runV (As := [vI x5]) (rest := []) hF.1 (c_Tr_hasBox l D cI cZ cT h_T q_T T x5 H.size (r_8) e_9) (cwV 1 hts (zgV wm343 wm344 wm345 wm33 wm346) rfl rfl rfl (by decide +kernel) ⟨Nat.le_of_ble_eq_true rfl, Nat.le_of_ble_eq_true rfl⟩) ⟨zP.blind, va_recv hK (z_subP (ws' := (zTr cI (h_T) (q_T) (T))) hP [1, 2, 3, 4, 5, 6] rfl) (ci := 4) (q0 := 0) rfl rfl, zP.enter (z_subP (ws' := (zTr cI (h_T) (q_T) (T))) hP [1, 2, 3, 4, 5, 6] rfl) hK (hD.sub [1, 2, 3, 4, 5, 6] (by decide) rfl) hN⟩ rfl rfl hl.1 rfl (lv_room (Nat.le_of_ble_eq_true rfl)) dX6_nearest_35 ⟨Nat.le_refl _, Nat.le_refl _⟩) hP hD hS hA [1, 2, 3, 4, 5, 6] [0] [0, 1, 2, 3, 4, 5, 6] rfl rfl (by decide) (fun _ => rfl) (fun u_10 H locs hP hD hS hz => ?_)
      obtain ⟨g_11, h⟩ := gd_e h
      refine z_if_ne (tgt := 44) hx hb g_11 dX6_nearest_38 (by decide) (fun b_12 => ?_) (fun b_12 => ?_)
      · have h := it_n b_12 h
        refine lv_aload_n hx hb dX6_nearest_44 rfl (lv_at hl 0 rfl) ?_
        refine va_get (D := D) (ci := 6) (v := .ref h_T) (C := RX6) (T := TX6) (N := 8) hx hb hts zin6 hown hK hP 0 rfl rfl 0 (by decide) (hts _ wm240) (fun _ h9 => h9) rfl dX6_nearest_45 ?_
        refine lv_iload hx hb dX6_nearest_48 (lv_at hl 5 rfl) ?_
        refine lv_iload_n hx hb dX6_nearest_50 rfl (lv_at hl 1 rfl) ?_
        refine lv_iload_n hx hb dX6_nearest_51 rfl (lv_at hl 2 rfl) ?_
        obtain ⟨r_13, e_14, h⟩ := bd1_e h
        refine z_goi (ws' := []) (ret := r_13) (wc := (zTr cI (h_T) (q_T) (T))) (wn := fun u_15 => (zRt h_R h_T hc_R hp_R hn_R hx_R hh_R hs_R c_hasSnapshot) ++ (zTr cI h_T q_T T)) (wr := ([0].filterMap (fun i => ((zRt h_R h_T hc_R hp_R hn_R hx_R hh_R hs_R c_hasSnapshot) ++ (zTr cI h_T q_T T))[i]?))) (va_runV (As := [vI x5, vI x1, vI x2]) (rest := []) hF.1 (c_Tr_squareDistance l D cI cZ cT h_T q_T T x5 x1 x2 H.size (r_13) e_14) (cwV 3 hts (zgV wm439 wm440 wm441 wm33 wm442) rfl rfl rfl (by decide +kernel) ⟨Nat.le_of_ble_eq_true rfl, Nat.le_of_ble_eq_true rfl⟩) ⟨zP.blind, va_recv hK (z_subP (ws' := (zTr cI (h_T) (q_T) (T))) hP [1, 2, 3, 4, 5, 6] rfl) (ci := 4) (q0 := 0) rfl rfl, zP.enter (z_subP (ws' := (zTr cI (h_T) (q_T) (T))) hP [1, 2, 3, 4, 5, 6] rfl) hK (hD.sub [1, 2, 3, 4, 5, 6] (by decide) rfl) hN⟩ rfl rfl hl.1 rfl (lv_room (Nat.le_of_ble_eq_true rfl)) dX6_nearest_52 ⟨Nat.le_refl _, Nat.le_refl _⟩) hP hD hS hA [1, 2, 3, 4, 5, 6] [0] [0, 1, 2, 3, 4, 5, 6] rfl rfl (by decide) (fun _ => rfl) (fun u_15 H locs hP hD hS hz => ?_)
        refine lv_istore (lv' := [(6, vI r_13), (0, .ref h_R), (1, vI x1), (2, vI x2), (3, vI x3), (4, vI x4), (5, vI x5)]) hx hb dX6_nearest_55 hl (by decide) rfl (fun ls hl => ?_)
        refine lv_iload_n hx hb dX6_nearest_57 rfl (lv_at hl 4 rfl) ?_
        refine lv_bipush (v := Int32.ofInt (-5)) hx hb dX6_nearest_58 (by decide +kernel) ?_
        obtain ⟨g_16, h⟩ := gd_e h
        refine z_icmp_eq (tgt := 70) hx hb g_16 (by decide) dX6_nearest_60 (by decide) (fun b_17 => ?_) (fun b_17 => ?_)
        · have h := it_p b_17 h
          refine lv_iload hx hb dX6_nearest_70 (lv_at hl 6 rfl) ?_
          refine lv_istore_n (lv' := [(3, vI x5), (6, vI r_13), (0, .ref h_R), (1, vI x1), (2, vI x2), (4, vI x4), (5, vI x5)]) hx hb dX6_nearest_72 rfl hl (by decide) rfl (fun ls hl => ?_)
          refine lv_iload hx hb dX6_nearest_73 (lv_at hl 1 rfl) ?_
          refine lv_istore (lv' := [(4, vI r_13), (3, vI x5), (6, vI r_13), (0, .ref h_R), (1, vI x1), (2, vI x2), (5, vI x5)]) hx hb dX6_nearest_75 hl (by decide) rfl (fun ls hl => ?_)
          refine lv_iinc (v := Int32.ofInt (x5 + 1)) (lv' := [(5, vI (x5 + 1)), (4, vI r_13), (3, vI x5), (6, vI r_13), (0, .ref h_R), (1, vI x1), (2, vI x2)]) hx hb dX6_nearest_77 hl (k := 6) rfl (z_inc _ _) (by decide) rfl (fun ls hl => ?_)
          refine lv_goto (tgt := 22) hx hb dX6_nearest_80 (by decide) ?_
          exact ih (x5) (r_13) ((x5 + 1)) H locs ls h hP hD hS (lv_sub hl [4, 5, 6, 2, 1, 0] rfl)
        · have h := it_n b_17 h
          refine lv_iload hx hb dX6_nearest_63 (lv_at hl 0 rfl) ?_
          refine lv_iload hx hb dX6_nearest_65 (lv_at hl 5 rfl) ?_
          obtain ⟨g_18, h⟩ := gd_e h
          obtain ⟨g_19, h⟩ := gd_e h
          refine z_icmp_ge (tgt := 77) hx hb g_18 g_19 dX6_nearest_67 (by decide) (fun b_20 => ?_) (fun b_20 => ?_)
          · have h := it_n b_20 h
            refine lv_iinc (v := Int32.ofInt (x5 + 1)) (lv' := [(5, vI (x5 + 1)), (6, vI r_13), (0, .ref h_R), (1, vI x1), (2, vI x2), (3, vI x3), (4, vI x4)]) hx hb dX6_nearest_77 hl (k := 6) rfl (z_inc _ _) (by decide) rfl (fun ls hl => ?_)
            refine lv_goto (tgt := 22) hx hb dX6_nearest_80 (by decide) ?_
            exact ih (x3) (x4) ((x5 + 1)) H locs ls h hP hD hS (lv_sub hl [2, 3, 4, 5, 6, 0] rfl)
          · have h := it_p b_20 h
            refine lv_iload hx hb dX6_nearest_70 (lv_at hl 6 rfl) ?_
            refine lv_istore_n (lv' := [(3, vI x5), (6, vI r_13), (0, .ref h_R), (1, vI x1), (2, vI x2), (4, vI x4), (5, vI x5)]) hx hb dX6_nearest_72 rfl hl (by decide) rfl (fun ls hl => ?_)
            refine lv_iload hx hb dX6_nearest_73 (lv_at hl 1 rfl) ?_
            refine lv_istore (lv' := [(4, vI r_13), (3, vI x5), (6, vI r_13), (0, .ref h_R), (1, vI x1), (2, vI x2), (5, vI x5)]) hx hb dX6_nearest_75 hl (by decide) rfl (fun ls hl => ?_)
            refine lv_iinc (v := Int32.ofInt (x5 + 1)) (lv' := [(5, vI (x5 + 1)), (4, vI r_13), (3, vI x5), (6, vI r_13), (0, .ref h_R), (1, vI x1), (2, vI x2)]) hx hb dX6_nearest_77 hl (k := 6) rfl (z_inc _ _) (by decide) rfl (fun ls hl => ?_)
            refine lv_goto (tgt := 22) hx hb dX6_nearest_80 (by decide) ?_
            exact ih (x5) (r_13) ((x5 + 1)) H locs ls h hP hD hS (lv_sub hl [4, 5, 6, 2, 1, 0] rfl)
      · have h := it_p b_12 h
        refine lv_goto (tgt := 77) hx hb dX6_nearest_41 (by decide) ?_
        refine lv_iinc (v := Int32.ofInt (x5 + 1)) (lv' := [(5, vI (x5 + 1)), (0, .ref h_R), (1, vI x1), (2, vI x2), (3, vI x3), (4, vI x4)]) hx hb dX6_nearest_77 hl (k := 5) rfl (z_inc _ _) (by decide) rfl (fun ls hl => ?_)
        refine lv_goto (tgt := 22) hx hb dX6_nearest_80 (by decide) ?_
        exact ih (x3) (x4) ((x5 + 1)) H locs ls h hP hD hS (lv_sub hl [1, 2, 3, 4, 5, 0] rfl)
set_option maxHeartbeats 4000000 in
set_option maxRecDepth 100000 in
theorem c_Rt_nearest (l : Launch) (D : va_G) (cI cZ cT : ClassId) (h_R : Nat) (h_T : Nat) (hc_R : Nat) (hp_R : Nat) (hn_R : Nat) (hx_R : Nat) (hh_R : Nat) (hs_R : Nat) (q_T : Nat → Nat) (c_hasSnapshot : Int) (T : TV) (x1 : Int) (x2 : Int) (sz : Nat) (res : Int) (h : f_Rt_nearest T x1 x2 = some res) : zMi l yX6_nearest cX6_nearest 7 rm_Rt_nearest D (zt cI cZ cT) [.ref h_R, vI x1, vI x2] ((zRt h_R h_T hc_R hp_R hn_R hx_R hh_R hs_R c_hasSnapshot) ++ (zTr cI h_T q_T T)) sz (res) (fun u => (zRt h_R h_T hc_R hp_R hn_R hx_R hh_R hs_R c_hasSnapshot) ++ (zTr cI h_T q_T T)) 0 0 := by
  refine z_enth (Qc := zQi D (res) (fun u => (zRt h_R h_T hc_R hp_R hn_R hx_R hh_R hs_R c_hasSnapshot) ++ (zTr cI h_T q_T T))) (by decide) (Nat.le_of_ble_eq_true rfl) (fun p e s m args below meth c A ls H locs hF hP hD hS hl => ?_)
  have hx := hF.1.1
  have hb := hF.1.2.1
  have hml := hF.1.2.2.1
  have hown : s.vm.findClass "RectangleTree" = some m.cls := hF.1.2.2.2.1
  have hts := hF.1.2.2.2.2
  have hr := hF.2.1
  have hlk := hF.2.2.1
  have hK := hF.2.2.2.2.1
  have hN := hF.2.2.2.2.2.1
  have hA := hF.2.2.2.2.2.2
  unfold f_Rt_nearest at h
  refine lv_iload_n hx hb dX6_nearest_0 rfl (lv_at hl 1 rfl) ?_
  refine lv_iload_n hx hb dX6_nearest_1 rfl (lv_at hl 2 rfl) ?_
  refine lv_iload_n hx hb dX6_nearest_2 rfl (lv_at hl 1 rfl) ?_
  refine lv_iload_n hx hb dX6_nearest_3 rfl (lv_at hl 2 rfl) ?_
  obtain ⟨r_1, e_2, h⟩ := bd1_e h
  refine z_goi (ws' := []) (ret := r_1) (wc := ([] : va_W)) (wn := fun u_3 => (zRt h_R h_T hc_R hp_R hn_R hx_R hh_R hs_R c_hasSnapshot) ++ (zTr cI h_T q_T T)) (wr := ([0, 1, 2, 3, 4, 5, 6].filterMap (fun i => ((zRt h_R h_T hc_R hp_R hn_R hx_R hh_R hs_R c_hasSnapshot) ++ (zTr cI h_T q_T T))[i]?))) (va_runS (As := [vI x1, vI x2, vI x1, vI x2]) (rest := []) hF.1 (c_Rt_isRectangle l D cI cZ cT x1 x2 x1 x2 H.size (r_1) e_2) (va_cwS 4 hts (zgS wm413 wm414 wm32 wm415) rfl rfl rfl (by decide +kernel) ⟨Nat.le_of_ble_eq_true rfl, Nat.le_of_ble_eq_true rfl⟩) ⟨zP.blind, zP.enter (z_subP (ws' := ([] : va_W)) hP [] rfl) hK (hD.sub [] (by decide) rfl) hN⟩ rfl rfl hl.1 rfl (lv_room (Nat.le_of_ble_eq_true rfl)) dX6_nearest_4 ⟨Nat.le_refl _, Nat.le_refl _⟩) hP hD hS hA [] [0, 1, 2, 3, 4, 5, 6] [0, 1, 2, 3, 4, 5, 6] rfl rfl (by decide) (fun _ => rfl) (fun u_3 H locs hP hD hS hz => ?_)
  obtain ⟨g_4, h⟩ := gd_e h
  refine z_if_ne (tgt := 13) hx hb g_4 dX6_nearest_7 (by decide) (fun b_5 => ?_) (fun b_5 => ?_)
  · have h := it_n b_5 h
    refine lv_bipush (v := Int32.ofInt (-5)) hx hb dX6_nearest_13 (by decide +kernel) ?_
    refine lv_istore_n (lv' := [(3, vI (-5)), (0, .ref h_R), (1, vI x1), (2, vI x2)]) hx hb dX6_nearest_15 rfl hl (by decide) rfl (fun ls hl => ?_)
    refine lv_iconst (v := Int32.ofInt 0) hx hb dX6_nearest_16 rfl ?_
    refine lv_istore (lv' := [(4, vI 0), (3, vI (-5)), (0, .ref h_R), (1, vI x1), (2, vI x2)]) hx hb dX6_nearest_17 hl (by decide) rfl (fun ls hl => ?_)
    refine lv_iconst (v := Int32.ofInt 0) hx hb dX6_nearest_19 rfl ?_
    refine lv_istore (lv' := [(5, vI 0), (4, vI 0), (3, vI (-5)), (0, .ref h_R), (1, vI x1), (2, vI x2)]) hx hb dX6_nearest_20 hl (by decide) rfl (fun ls hl => ?_)
    refine w_Rt_nearest_L22 D cI cZ cT (h_R) (h_T) (hc_R) (hp_R) (hn_R) (hx_R) (hh_R) (hs_R) (q_T) (c_hasSnapshot) (T) (x1) (x2) _ _ hF (fun x3_21 x4_22 x5_23 H locs ls h hP hD hS hl => ?_) _ ((-5)) (0) (0) _ _ _ h hP hD hS (lv_sub hl [3, 4, 5, 2, 1, 0] rfl)
    refine lv_iload_n hx hb dX6_nearest_83 rfl (lv_at hl 0 rfl) ?_
    obtain rfl := Option.some.inj h
    exact z_iret hx hb hr hlk (fun _ _ => 0) hP hD hS dX6_nearest_84
  · have h := it_p b_5 h
    refine lv_bipush (v := Int32.ofInt (-2)) hx hb dX6_nearest_10 (by decide +kernel) ?_
    obtain rfl := Option.some.inj h
    exact z_iret hx hb hr hlk (fun _ _ => 0) hP hD hS dX6_nearest_12
def f_Rt_area_L18 (T : TV) (K : KV) (x1 : Int) (k : Int → Int → Option (Int)) : Nat → Int → Int → Option (Int)
  | 0, _, _ => none
  | n + 1, x2, x3 =>
  gd (ck x3) <| gd (ck (kCnt K)) <| if x3 < (kCnt K) then (bd1 (f_Rt_nodeAt K x3) <| fun r_11 => bd1 (f_Tr_levelOf T r_11) <| fun r_14 => gd (ck r_14) <| gd (ck x1) <| if r_14 = x1 then (bd1 (f_Tr_sizeOf T r_11) <| fun r_20 => gd (ck r_20) <| if 0 < r_20 then (bd1 (f_Tr_areaOf T r_11) <| fun r_25 => f_Rt_area_L18 T K x1 k n ((x2 + r_25)) ((x3 + 1))) else (f_Rt_area_L18 T K x1 k n (x2) ((x3 + 1)))) else (f_Rt_area_L18 T K x1 k n (x2) ((x3 + 1)))) else (k (x2) (x3))
def f_Rt_area (T : TV) (K : KV) (x1 : Int) : Option (Int) :=
  gd (ck x1) <| if x1 < 0 then (some ((-1))) else (bd1 (f_Rt_height T) <| fun r_3 => gd (ck r_3) <| if r_3 < x1 then (some ((-1))) else (f_Rt_area_L18 (T) (K) (x1) (fun x2_28 x3_29 => some (x2_28)) FU (0) (0)))
abbrev rm_Rt_area : Room := ({ frames := 2, cells := 0, slots := 0, locals := 44 } : Room)

set_option maxHeartbeats 4000000 in
set_option maxRecDepth 100000 in
theorem w_Rt_area_L18 {p : Program} {l : Launch} {e : Env} {s : State} {m : MethodId} {args : Array Value} {below : List Frame} {meth : Method} {c : Code} {A : Nat → Prop} (D : va_G) (cI cZ cT : ClassId) (h_R : Nat) (h_T : Nat) (hc_R : Nat) (hp_R : Nat) (h_K : Nat) (hx_R : Nat) (hh_R : Nat) (hs_R : Nat) (q_T : Nat → Nat) (q_K : Nat → Nat) (c_hasSnapshot : Int) (T : TV) (K : KV) (x1 : Int) (res : Int) (k : Int → Int → Option (Int)) (hF : zF p m c cX6_area 5 s args yX6_area.cls meth (some .int) yX6_area.name A D (zt cI cZ cT))
    (hk : ∀ (x2 : Int) (x3 : Int) (H : Heap) (locs : List Loc) (ls : Array Slot), k x2 x3 = some res → va_P D vwCl ((zRt h_R h_T hc_R hp_R h_K hx_R hh_R hs_R c_hasSnapshot) ++ (zTr cI h_T q_T T) ++ (zWk cI h_K q_K K)) H → va_D A ((zRt h_R h_T hc_R hp_R h_K hx_R hh_R hs_R c_hasSnapshot) ++ (zTr cI h_T q_T T) ++ (zWk cI h_K q_K K)) → va_S A s.heap H locs → lv_has ls 5 [(2, vI x2)] → W p l e rm_Rt_area s m args below meth c H locs 0 0 (MQ below (zQi D (res) (fun u => (zRt h_R h_T hc_R hp_R h_K hx_R hh_R hs_R c_hasSnapshot) ++ (zTr cI h_T q_T T) ++ (zWk cI h_K q_K K)) A) args s 0 0 A) (F0 m 79 ls [])) :
    ∀ (n : Nat) (x2 : Int) (x3 : Int) (H : Heap) (locs : List Loc) (ls : Array Slot), f_Rt_area_L18 T K x1 k n x2 x3 = some res → va_P D vwCl ((zRt h_R h_T hc_R hp_R h_K hx_R hh_R hs_R c_hasSnapshot) ++ (zTr cI h_T q_T T) ++ (zWk cI h_K q_K K)) H → va_D A ((zRt h_R h_T hc_R hp_R h_K hx_R hh_R hs_R c_hasSnapshot) ++ (zTr cI h_T q_T T) ++ (zWk cI h_K q_K K)) → va_S A s.heap H locs → lv_has ls 5 [(0, .ref h_R), (1, vI x1), (2, vI x2), (3, vI x3)] → W p l e rm_Rt_area s m args below meth c H locs 0 0 (MQ below (zQi D (res) (fun u => (zRt h_R h_T hc_R hp_R h_K hx_R hh_R hs_R c_hasSnapshot) ++ (zTr cI h_T q_T T) ++ (zWk cI h_K q_K K)) A) args s 0 0 A) (F0 m 18 ls []) := by
  have hx := hF.1.1
  have hb := hF.1.2.1
  have hml := hF.1.2.2.1
  have hown : s.vm.findClass "RectangleTree" = some m.cls := hF.1.2.2.2.1
  have hts := hF.1.2.2.2.2
  have hr := hF.2.1
  have hlk := hF.2.2.1
  have hK := hF.2.2.2.2.1
  have hN := hF.2.2.2.2.2.1
  have hA := hF.2.2.2.2.2.2
  intro n
  induction n with
  | zero => intro x2 x3  H locs ls h; cases h
  | succ n ih =>
    intro x2 x3  H locs ls h  hP hD hS hl
    rw [f_Rt_area_L18] at h
    refine lv_iload_n hx hb dX6_area_18 rfl (lv_at hl 3 rfl) ?_
    refine lv_aload_n hx hb dX6_area_19 rfl (lv_at hl 0 rfl) ?_
    refine va_get (D := D) (ci := 6) (v := .ref h_K) (C := RX6) (T := TX6) (N := 8) hx hb hts zin6 hown hK hP 0 rfl rfl 3 (by decide) (hts _ wm243) (fun _ h9 => h9) rfl dX6_area_20 ?_
    refine va_get (D := D) (ci := 5) (v := vI (kCnt K)) (C := RX5) (T := TX5) (N := 3) hx hb hts zin5 hown hK hP 7 rfl rfl 1 (by decide) (hts _ wm122) (fun _ h9 => h9) rfl dX6_area_23 ?_
    obtain ⟨g_8, h⟩ := gd_e h
    obtain ⟨g_9, h⟩ := gd_e h
    refine z_icmp_ge (tgt := 79) hx hb g_8 g_9 dX6_area_26 (by decide) (fun b_10 => ?_) (fun b_10 => ?_)
    · have h := it_n b_10 h
      exact hk (x2) (x3) H locs ls h hP hD hS (lv_sub hl [2] rfl)
    · have h := it_p b_10 h
      refine lv_aload_n hx hb dX6_area_29 rfl (lv_at hl 0 rfl) ?_
      refine lv_iload_n hx hb dX6_area_30 rfl (lv_at hl 3 rfl) ?_
      obtain ⟨r_11, e_12, h⟩ := bd1_e h
      refine z_goi (ws' := []) (ret := r_11) (wc := (zRt (h_R) (h_T) (hc_R) (hp_R) (h_K) (hx_R) (hh_R) (hs_R) (c_hasSnapshot)) ++ (zWk cI (h_K) (q_K) (K))) (wn := fun u_13 => (zRt h_R h_T hc_R hp_R h_K hx_R hh_R hs_R c_hasSnapshot) ++ (zTr cI h_T q_T T) ++ (zWk cI h_K q_K K)) (wr := ([1, 2, 3, 4, 5, 6].filterMap (fun i => ((zRt h_R h_T hc_R hp_R h_K hx_R hh_R hs_R c_hasSnapshot) ++ (zTr cI h_T q_T T) ++ (zWk cI h_K q_K K))[i]?))) (va_runV (As := [vI x3]) (rest := []) hF.1 (c_Rt_nodeAt l D cI cZ cT h_R h_T hc_R hp_R h_K hx_R hh_R hs_R q_K c_hasSnapshot K x3 H.size (r_11) e_12) (cwV 1 hts (zgV wm295 wm297 wm2 wm32 wm298) rfl rfl rfl (by decide +kernel) ⟨Nat.le_of_ble_eq_true rfl, Nat.le_of_ble_eq_true rfl⟩) ⟨zP.blind, va_recv hK (z_subP (ws' := (zRt (h_R) (h_T) (hc_R) (hp_R) (h_K) (hx_R) (hh_R) (hs_R) (c_hasSnapshot)) ++ (zWk cI (h_K) (q_K) (K))) hP [0, 7, 8, 9] rfl) (ci := 6) (q0 := 0) rfl rfl, zP.enter (z_subP (ws' := (zRt (h_R) (h_T) (hc_R) (hp_R) (h_K) (hx_R) (hh_R) (hs_R) (c_hasSnapshot)) ++ (zWk cI (h_K) (q_K) (K))) hP [0, 7, 8, 9] rfl) hK (hD.sub [0, 7, 8, 9] (by decide) rfl) hN⟩ rfl rfl hl.1 rfl (lv_room (Nat.le_of_ble_eq_true rfl)) dX6_area_31 ⟨Nat.le_refl _, Nat.le_refl _⟩) hP hD hS hA [0, 7, 8, 9] [1, 2, 3, 4, 5, 6] [6, 0, 1, 2, 3, 4, 5, 7, 8, 9] rfl rfl (by decide) (fun _ => rfl) (fun u_13 H locs hP hD hS hz => ?_)
      refine lv_istore (lv' := [(4, vI r_11), (0, .ref h_R), (1, vI x1), (2, vI x2), (3, vI x3)]) hx hb dX6_area_34 hl (by decide) rfl (fun ls hl => ?_)
      refine lv_aload_n hx hb dX6_area_36 rfl (lv_at hl 1 rfl) ?_
      refine va_get (D := D) (ci := 6) (v := .ref h_T) (C := RX6) (T := TX6) (N := 8) hx hb hts zin6 hown hK hP 0 rfl rfl 0 (by decide) (hts _ wm240) (fun _ h9 => h9) rfl dX6_area_37 ?_
      refine lv_iload hx hb dX6_area_40 (lv_at hl 0 rfl) ?_
      obtain ⟨r_14, e_15, h⟩ := bd1_e h
      refine z_goi (ws' := []) (ret := r_14) (wc := (zTr cI (h_T) (q_T) (T))) (wn := fun u_16 => (zRt h_R h_T hc_R hp_R h_K hx_R hh_R hs_R c_hasSnapshot) ++ (zTr cI h_T q_T T) ++ (zWk cI h_K q_K K)) (wr := ([0, 7, 8, 9].filterMap (fun i => ((zRt h_R h_T hc_R hp_R h_K hx_R hh_R hs_R c_hasSnapshot) ++ (zTr cI h_T q_T T) ++ (zWk cI h_K q_K K))[i]?))) (va_runV (As := [vI r_11]) (rest := []) hF.1 (c_Tr_levelOf l D cI cZ cT h_T q_T T r_11 H.size (r_14) e_15) (cwV 1 hts (zgV wm300 wm301 wm302 wm33 wm303) rfl rfl rfl (by decide +kernel) ⟨Nat.le_of_ble_eq_true rfl, Nat.le_of_ble_eq_true rfl⟩) ⟨zP.blind, va_recv hK (z_subP (ws' := (zTr cI (h_T) (q_T) (T))) hP [1, 2, 3, 4, 5, 6] rfl) (ci := 4) (q0 := 0) rfl rfl, zP.enter (z_subP (ws' := (zTr cI (h_T) (q_T) (T))) hP [1, 2, 3, 4, 5, 6] rfl) hK (hD.sub [1, 2, 3, 4, 5, 6] (by decide) rfl) hN⟩ rfl rfl hl.1 rfl (lv_room (Nat.le_of_ble_eq_true rfl)) dX6_area_42 ⟨Nat.le_refl _, Nat.le_refl _⟩) hP hD hS hA [1, 2, 3, 4, 5, 6] [0, 7, 8, 9] [0, 4, 5, 6, 7, 8, 9, 1, 2, 3] rfl rfl (by decide) (fun _ => rfl) (fun u_16 H locs hP hD hS hz => ?_)
      refine lv_iload_n hx hb dX6_area_45 rfl (lv_at hl 2 rfl) ?_
      obtain ⟨g_17, h⟩ := gd_e h
      obtain ⟨g_18, h⟩ := gd_e h
      refine z_icmp_ne (tgt := 73) hx hb g_17 g_18 dX6_area_46 (by decide) (fun b_19 => ?_) (fun b_19 => ?_)
      · have h := it_n b_19 h
        refine lv_iinc (v := Int32.ofInt (x3 + 1)) (lv' := [(3, vI (x3 + 1)), (4, vI r_11), (0, .ref h_R), (1, vI x1), (2, vI x2)]) hx hb dX6_area_73 hl (k := 4) rfl (z_inc _ _) (by decide) rfl (fun ls hl => ?_)
        refine lv_goto (tgt := 18) hx hb dX6_area_76 (by decide) ?_
        exact ih (x2) ((x3 + 1)) H locs ls h hP hD hS (lv_sub hl [2, 3, 4, 0] rfl)
      · have h := it_p b_19 h
        refine lv_aload_n hx hb dX6_area_49 rfl (lv_at hl 1 rfl) ?_
        refine va_get (D := D) (ci := 6) (v := .ref h_T) (C := RX6) (T := TX6) (N := 8) hx hb hts zin6 hown hK hP 0 rfl rfl 0 (by decide) (hts _ wm240) (fun _ h9 => h9) rfl dX6_area_50 ?_
        refine lv_iload hx hb dX6_area_53 (lv_at hl 0 rfl) ?_
        obtain ⟨r_20, e_21, h⟩ := bd1_e h
        refine z_goi (ws' := []) (ret := r_20) (wc := (zTr cI (h_T) (q_T) (T))) (wn := fun u_22 => (zRt h_R h_T hc_R hp_R h_K hx_R hh_R hs_R c_hasSnapshot) ++ (zTr cI h_T q_T T) ++ (zWk cI h_K q_K K)) (wr := ([0, 7, 8, 9].filterMap (fun i => ((zRt h_R h_T hc_R hp_R h_K hx_R hh_R hs_R c_hasSnapshot) ++ (zTr cI h_T q_T T) ++ (zWk cI h_K q_K K))[i]?))) (va_runV (As := [vI r_11]) (rest := []) hF.1 (c_Tr_sizeOf l D cI cZ cT h_T q_T T r_11 H.size (r_20) e_21) (cwV 1 hts (zgV wm312 wm231 wm232 wm33 wm233) rfl rfl rfl (by decide +kernel) ⟨Nat.le_of_ble_eq_true rfl, Nat.le_of_ble_eq_true rfl⟩) ⟨zP.blind, va_recv hK (z_subP (ws' := (zTr cI (h_T) (q_T) (T))) hP [1, 2, 3, 4, 5, 6] rfl) (ci := 4) (q0 := 0) rfl rfl, zP.enter (z_subP (ws' := (zTr cI (h_T) (q_T) (T))) hP [1, 2, 3, 4, 5, 6] rfl) hK (hD.sub [1, 2, 3, 4, 5, 6] (by decide) rfl) hN⟩ rfl rfl hl.1 rfl (lv_room (Nat.le_of_ble_eq_true rfl)) dX6_area_55 ⟨Nat.le_refl _, Nat.le_refl _⟩) hP hD hS hA [1, 2, 3, 4, 5, 6] [0, 7, 8, 9] [0, 4, 5, 6, 7, 8, 9, 1, 2, 3] rfl rfl (by decide) (fun _ => rfl) (fun u_22 H locs hP hD hS hz => ?_)
        obtain ⟨g_23, h⟩ := gd_e h
        refine z_if_le (tgt := 73) hx hb g_23 dX6_area_58 (by decide) (fun b_24 => ?_) (fun b_24 => ?_)
        · have h := it_n b_24 h
          refine lv_iinc (v := Int32.ofInt (x3 + 1)) (lv' := [(3, vI (x3 + 1)), (4, vI r_11), (0, .ref h_R), (1, vI x1), (2, vI x2)]) hx hb dX6_area_73 hl (k := 4) rfl (z_inc _ _) (by decide) rfl (fun ls hl => ?_)
          refine lv_goto (tgt := 18) hx hb dX6_area_76 (by decide) ?_
          exact ih (x2) ((x3 + 1)) H locs ls h hP hD hS (lv_sub hl [2, 3, 4, 0] rfl)
        · have h := it_p b_24 h
          refine lv_iload_n hx hb dX6_area_61 rfl (lv_at hl 3 rfl) ?_
          refine lv_aload_n hx hb dX6_area_62 rfl (lv_at hl 1 rfl) ?_
          refine va_get (D := D) (ci := 6) (v := .ref h_T) (C := RX6) (T := TX6) (N := 8) hx hb hts zin6 hown hK hP 0 rfl rfl 0 (by decide) (hts _ wm240) (fun _ h9 => h9) rfl dX6_area_63 ?_
          refine lv_iload hx hb dX6_area_66 (lv_at hl 0 rfl) ?_
          obtain ⟨r_25, e_26, h⟩ := bd1_e h
          refine z_goi (ws' := []) (ret := r_25) (wc := (zTr cI (h_T) (q_T) (T))) (wn := fun u_27 => (zRt h_R h_T hc_R hp_R h_K hx_R hh_R hs_R c_hasSnapshot) ++ (zTr cI h_T q_T T) ++ (zWk cI h_K q_K K)) (wr := ([0, 7, 8, 9].filterMap (fun i => ((zRt h_R h_T hc_R hp_R h_K hx_R hh_R hs_R c_hasSnapshot) ++ (zTr cI h_T q_T T) ++ (zWk cI h_K q_K K))[i]?))) (va_runV (As := [vI r_11]) (rest := [vI x2]) hF.1 (c_Tr_areaOf l D cI cZ cT h_T q_T T r_11 H.size (r_25) e_26) (cwV 1 hts (zgV wm383 wm384 wm385 wm33 wm386) rfl rfl rfl (by decide +kernel) ⟨Nat.le_of_ble_eq_true rfl, Nat.le_of_ble_eq_true rfl⟩) ⟨zP.blind, va_recv hK (z_subP (ws' := (zTr cI (h_T) (q_T) (T))) hP [1, 2, 3, 4, 5, 6] rfl) (ci := 4) (q0 := 0) rfl rfl, zP.enter (z_subP (ws' := (zTr cI (h_T) (q_T) (T))) hP [1, 2, 3, 4, 5, 6] rfl) hK (hD.sub [1, 2, 3, 4, 5, 6] (by decide) rfl) hN⟩ rfl rfl hl.1 rfl (lv_room (Nat.le_of_ble_eq_true rfl)) dX6_area_68 ⟨Nat.le_refl _, Nat.le_refl _⟩) hP hD hS hA [1, 2, 3, 4, 5, 6] [0, 7, 8, 9] [0, 4, 5, 6, 7, 8, 9, 1, 2, 3] rfl rfl (by decide) (fun _ => rfl) (fun u_27 H locs hP hD hS hz => ?_)
          refine z_iadd hx hb dX6_area_71 ?_
          refine lv_istore_n (lv' := [(2, vI (x2 + r_25)), (4, vI r_11), (0, .ref h_R), (1, vI x1), (3, vI x3)]) hx hb dX6_area_72 rfl hl (by decide) rfl (fun ls hl => ?_)
          refine lv_iinc (v := Int32.ofInt (x3 + 1)) (lv' := [(3, vI (x3 + 1)), (2, vI (x2 + r_25)), (4, vI r_11), (0, .ref h_R), (1, vI x1)]) hx hb dX6_area_73 hl (k := 4) rfl (z_inc _ _) (by decide) rfl (fun ls hl => ?_)
          refine lv_goto (tgt := 18) hx hb dX6_area_76 (by decide) ?_
          exact ih ((x2 + r_25)) ((x3 + 1)) H locs ls h hP hD hS (lv_sub hl [3, 4, 1, 0] rfl)
set_option maxHeartbeats 4000000 in
set_option maxRecDepth 100000 in
theorem c_Rt_area (l : Launch) (D : va_G) (cI cZ cT : ClassId) (h_R : Nat) (h_T : Nat) (hc_R : Nat) (hp_R : Nat) (h_K : Nat) (hx_R : Nat) (hh_R : Nat) (hs_R : Nat) (q_T : Nat → Nat) (q_K : Nat → Nat) (c_hasSnapshot : Int) (T : TV) (K : KV) (x1 : Int) (sz : Nat) (res : Int) (h : f_Rt_area T K x1 = some res) : zMi l yX6_area cX6_area 5 rm_Rt_area D (zt cI cZ cT) [.ref h_R, vI x1] ((zRt h_R h_T hc_R hp_R h_K hx_R hh_R hs_R c_hasSnapshot) ++ (zTr cI h_T q_T T) ++ (zWk cI h_K q_K K)) sz (res) (fun u => (zRt h_R h_T hc_R hp_R h_K hx_R hh_R hs_R c_hasSnapshot) ++ (zTr cI h_T q_T T) ++ (zWk cI h_K q_K K)) 0 0 := by
  refine z_enth (Qc := zQi D (res) (fun u => (zRt h_R h_T hc_R hp_R h_K hx_R hh_R hs_R c_hasSnapshot) ++ (zTr cI h_T q_T T) ++ (zWk cI h_K q_K K))) (by decide) (Nat.le_of_ble_eq_true rfl) (fun p e s m args below meth c A ls H locs hF hP hD hS hl => ?_)
  have hx := hF.1.1
  have hb := hF.1.2.1
  have hml := hF.1.2.2.1
  have hown : s.vm.findClass "RectangleTree" = some m.cls := hF.1.2.2.2.1
  have hts := hF.1.2.2.2.2
  have hr := hF.2.1
  have hlk := hF.2.2.1
  have hK := hF.2.2.2.2.1
  have hN := hF.2.2.2.2.2.1
  have hA := hF.2.2.2.2.2.2
  unfold f_Rt_area at h
  refine lv_iload_n hx hb dX6_area_0 rfl (lv_at hl 1 rfl) ?_
  obtain ⟨g_1, h⟩ := gd_e h
  refine z_if_lt (tgt := 12) hx hb g_1 dX6_area_1 (by decide) (fun b_2 => ?_) (fun b_2 => ?_)
  · have h := it_p b_2 h
    refine lv_iconst (v := Int32.ofInt (-1)) hx hb dX6_area_12 rfl ?_
    obtain rfl := Option.some.inj h
    exact z_iret hx hb hr hlk (fun _ _ => 0) hP hD hS dX6_area_13
  · have h := it_n b_2 h
    refine lv_iload_n hx hb dX6_area_4 rfl (lv_at hl 1 rfl) ?_
    refine lv_aload_n hx hb dX6_area_5 rfl (lv_at hl 0 rfl) ?_
    obtain ⟨r_3, e_4, h⟩ := bd1_e h
    refine z_goi (ws' := []) (ret := r_3) (wc := (zRt (h_R) (h_T) (hc_R) (hp_R) (h_K) (hx_R) (hh_R) (hs_R) (c_hasSnapshot)) ++ (zTr cI (h_T) (q_T) (T))) (wn := fun u_5 => (zRt h_R h_T hc_R hp_R h_K hx_R hh_R hs_R c_hasSnapshot) ++ (zTr cI h_T q_T T) ++ (zWk cI h_K q_K K)) (wr := ([7, 8, 9].filterMap (fun i => ((zRt h_R h_T hc_R hp_R h_K hx_R hh_R hs_R c_hasSnapshot) ++ (zTr cI h_T q_T T) ++ (zWk cI h_K q_K K))[i]?))) (va_runV (As := []) (rest := [vI x1]) hF.1 (c_Rt_height l D cI cZ cT h_R h_T hc_R hp_R h_K hx_R hh_R hs_R q_T c_hasSnapshot T H.size (r_3) e_4) (cwV 0 hts (zgV wm382 wm305 wm306 wm32 wm307) rfl rfl rfl (by decide +kernel) ⟨Nat.le_of_ble_eq_true rfl, Nat.le_of_ble_eq_true rfl⟩) ⟨zP.blind, va_recv hK (z_subP (ws' := (zRt (h_R) (h_T) (hc_R) (hp_R) (h_K) (hx_R) (hh_R) (hs_R) (c_hasSnapshot)) ++ (zTr cI (h_T) (q_T) (T))) hP [0, 1, 2, 3, 4, 5, 6] rfl) (ci := 6) (q0 := 0) rfl rfl, zP.enter (z_subP (ws' := (zRt (h_R) (h_T) (hc_R) (hp_R) (h_K) (hx_R) (hh_R) (hs_R) (c_hasSnapshot)) ++ (zTr cI (h_T) (q_T) (T))) hP [0, 1, 2, 3, 4, 5, 6] rfl) hK (hD.sub [0, 1, 2, 3, 4, 5, 6] (by decide) rfl) hN⟩ rfl rfl hl.1 rfl (lv_room (Nat.le_of_ble_eq_true rfl)) dX6_area_6 ⟨Nat.le_refl _, Nat.le_refl _⟩) hP hD hS hA [0, 1, 2, 3, 4, 5, 6] [7, 8, 9] [3, 4, 5, 6, 7, 8, 9, 0, 1, 2] rfl rfl (by decide) (fun _ => rfl) (fun u_5 H locs hP hD hS hz => ?_)
    obtain ⟨g_6, h⟩ := gd_e h
    refine z_icmp_le (tgt := 14) hx hb g_1 g_6 dX6_area_9 (by decide) (fun b_7 => ?_) (fun b_7 => ?_)
    · have h := it_n b_7 h
      refine lv_iconst (v := Int32.ofInt 0) hx hb dX6_area_14 rfl ?_
      refine lv_istore_n (lv' := [(2, vI 0), (0, .ref h_R), (1, vI x1)]) hx hb dX6_area_15 rfl hl (by decide) rfl (fun ls hl => ?_)
      refine lv_iconst (v := Int32.ofInt 0) hx hb dX6_area_16 rfl ?_
      refine lv_istore_n (lv' := [(3, vI 0), (2, vI 0), (0, .ref h_R), (1, vI x1)]) hx hb dX6_area_17 rfl hl (by decide) rfl (fun ls hl => ?_)
      refine w_Rt_area_L18 D cI cZ cT (h_R) (h_T) (hc_R) (hp_R) (h_K) (hx_R) (hh_R) (hs_R) (q_T) (q_K) (c_hasSnapshot) (T) (K) (x1) _ _ hF (fun x2_28 x3_29 H locs ls h hP hD hS hl => ?_) _ (0) (0) _ _ _ h hP hD hS (lv_sub hl [2, 3, 1, 0] rfl)
      refine lv_iload_n hx hb dX6_area_79 rfl (lv_at hl 0 rfl) ?_
      obtain rfl := Option.some.inj h
      exact z_iret hx hb hr hlk (fun _ _ => 0) hP hD hS dX6_area_80
    · have h := it_p b_7 h
      refine lv_iconst (v := Int32.ofInt (-1)) hx hb dX6_area_12 rfl ?_
      obtain rfl := Option.some.inj h
      exact z_iret hx hb hr hlk (fun _ _ => 0) hP hD hS dX6_area_13
def f_Rt_overlapWithEarlier_L5 (T : TV) (K : KV) (x1 : Int) (x2 : Int) (k : Int → Int → Option (Int)) : Nat → Int → Int → Option (Int)
  | 0, _, _ => none
  | n + 1, x3, x4 =>
  gd (ck x4) <| gd (ck x1) <| if x4 < x1 then (bd1 (f_Rt_nodeAt K x4) <| fun r_4 => bd1 (f_Tr_levelOf T r_4) <| fun r_7 => gd (ck r_7) <| gd (ck x2) <| if r_7 = x2 then (bd1 (f_Rt_nodeAt K x4) <| fun r_13 => bd1 (f_Rt_nodeAt K x1) <| fun r_16 => bd1 (f_Tr_commonArea T r_13 r_16) <| fun r_19 => f_Rt_overlapWithEarlier_L5 T K x1 x2 k n ((x3 + r_19)) ((x4 + 1))) else (f_Rt_overlapWithEarlier_L5 T K x1 x2 k n (x3) ((x4 + 1)))) else (k (x3) (x4))
def f_Rt_overlapWithEarlier (T : TV) (K : KV) (x1 : Int) (x2 : Int) : Option (Int) :=
  f_Rt_overlapWithEarlier_L5 (T) (K) (x1) (x2) (fun x3_22 x4_23 => some (x3_22)) FU (0) (0)
abbrev rm_Rt_overlapWithEarlier : Room := ({ frames := 2, cells := 0, slots := 0, locals := 47 } : Room)

set_option maxHeartbeats 4000000 in
set_option maxRecDepth 100000 in
theorem w_Rt_overlapWithEarlier_L5 {p : Program} {l : Launch} {e : Env} {s : State} {m : MethodId} {args : Array Value} {below : List Frame} {meth : Method} {c : Code} {A : Nat → Prop} (D : va_G) (cI cZ cT : ClassId) (h_R : Nat) (h_T : Nat) (hc_R : Nat) (hp_R : Nat) (h_K : Nat) (hx_R : Nat) (hh_R : Nat) (hs_R : Nat) (q_T : Nat → Nat) (q_K : Nat → Nat) (c_hasSnapshot : Int) (T : TV) (K : KV) (x1 : Int) (x2 : Int) (res : Int) (k : Int → Int → Option (Int)) (hF : zF p m c cX6_overlapWithEarlier 5 s args yX6_overlapWithEarlier.cls meth (some .int) yX6_overlapWithEarlier.name A D (zt cI cZ cT))
    (hk : ∀ (x3 : Int) (x4 : Int) (H : Heap) (locs : List Loc) (ls : Array Slot), k x3 x4 = some res → va_P D vwCl ((zRt h_R h_T hc_R hp_R h_K hx_R hh_R hs_R c_hasSnapshot) ++ (zTr cI h_T q_T T) ++ (zWk cI h_K q_K K)) H → va_D A ((zRt h_R h_T hc_R hp_R h_K hx_R hh_R hs_R c_hasSnapshot) ++ (zTr cI h_T q_T T) ++ (zWk cI h_K q_K K)) → va_S A s.heap H locs → lv_has ls 5 [(3, vI x3)] → W p l e rm_Rt_overlapWithEarlier s m args below meth c H locs 0 0 (MQ below (zQi D (res) (fun u => (zRt h_R h_T hc_R hp_R h_K hx_R hh_R hs_R c_hasSnapshot) ++ (zTr cI h_T q_T T) ++ (zWk cI h_K q_K K)) A) args s 0 0 A) (F0 m 55 ls [])) :
    ∀ (n : Nat) (x3 : Int) (x4 : Int) (H : Heap) (locs : List Loc) (ls : Array Slot), f_Rt_overlapWithEarlier_L5 T K x1 x2 k n x3 x4 = some res → va_P D vwCl ((zRt h_R h_T hc_R hp_R h_K hx_R hh_R hs_R c_hasSnapshot) ++ (zTr cI h_T q_T T) ++ (zWk cI h_K q_K K)) H → va_D A ((zRt h_R h_T hc_R hp_R h_K hx_R hh_R hs_R c_hasSnapshot) ++ (zTr cI h_T q_T T) ++ (zWk cI h_K q_K K)) → va_S A s.heap H locs → lv_has ls 5 [(0, .ref h_R), (1, vI x1), (2, vI x2), (3, vI x3), (4, vI x4)] → W p l e rm_Rt_overlapWithEarlier s m args below meth c H locs 0 0 (MQ below (zQi D (res) (fun u => (zRt h_R h_T hc_R hp_R h_K hx_R hh_R hs_R c_hasSnapshot) ++ (zTr cI h_T q_T T) ++ (zWk cI h_K q_K K)) A) args s 0 0 A) (F0 m 5 ls []) := by
  have hx := hF.1.1
  have hb := hF.1.2.1
  have hml := hF.1.2.2.1
  have hown : s.vm.findClass "RectangleTree" = some m.cls := hF.1.2.2.2.1
  have hts := hF.1.2.2.2.2
  have hr := hF.2.1
  have hlk := hF.2.2.1
  have hK := hF.2.2.2.2.1
  have hN := hF.2.2.2.2.2.1
  have hA := hF.2.2.2.2.2.2
  intro n
  induction n with
  | zero => intro x3 x4  H locs ls h; cases h
  | succ n ih =>
    intro x3 x4  H locs ls h  hP hD hS hl
    rw [f_Rt_overlapWithEarlier_L5] at h
    refine lv_iload hx hb dX6_overlapWithEarlier_5 (lv_at hl 4 rfl) ?_
    refine lv_iload_n hx hb dX6_overlapWithEarlier_7 rfl (lv_at hl 1 rfl) ?_
    obtain ⟨g_1, h⟩ := gd_e h
    obtain ⟨g_2, h⟩ := gd_e h
    refine z_icmp_ge (tgt := 55) hx hb g_1 g_2 dX6_overlapWithEarlier_8 (by decide) (fun b_3 => ?_) (fun b_3 => ?_)
    · have h := it_n b_3 h
      exact hk (x3) (x4) H locs ls h hP hD hS (lv_sub hl [3] rfl)
    · have h := it_p b_3 h
      refine lv_aload_n hx hb dX6_overlapWithEarlier_11 rfl (lv_at hl 0 rfl) ?_
      refine va_get (D := D) (ci := 6) (v := .ref h_T) (C := RX6) (T := TX6) (N := 8) hx hb hts zin6 hown hK hP 0 rfl rfl 0 (by decide) (hts _ wm240) (fun _ h9 => h9) rfl dX6_overlapWithEarlier_12 ?_
      refine lv_aload_n hx hb dX6_overlapWithEarlier_15 rfl (lv_at hl 0 rfl) ?_
      refine lv_iload hx hb dX6_overlapWithEarlier_16 (lv_at hl 4 rfl) ?_
      obtain ⟨r_4, e_5, h⟩ := bd1_e h
      refine z_goi (ws' := []) (ret := r_4) (wc := (zRt (h_R) (h_T) (hc_R) (hp_R) (h_K) (hx_R) (hh_R) (hs_R) (c_hasSnapshot)) ++ (zWk cI (h_K) (q_K) (K))) (wn := fun u_6 => (zRt h_R h_T hc_R hp_R h_K hx_R hh_R hs_R c_hasSnapshot) ++ (zTr cI h_T q_T T) ++ (zWk cI h_K q_K K)) (wr := ([1, 2, 3, 4, 5, 6].filterMap (fun i => ((zRt h_R h_T hc_R hp_R h_K hx_R hh_R hs_R c_hasSnapshot) ++ (zTr cI h_T q_T T) ++ (zWk cI h_K q_K K))[i]?))) (va_runV (As := [vI x4]) (rest := [.ref h_T]) hF.1 (c_Rt_nodeAt l D cI cZ cT h_R h_T hc_R hp_R h_K hx_R hh_R hs_R q_K c_hasSnapshot K x4 H.size (r_4) e_5) (cwV 1 hts (zgV wm295 wm297 wm2 wm32 wm298) rfl rfl rfl (by decide +kernel) ⟨Nat.le_of_ble_eq_true rfl, Nat.le_of_ble_eq_true rfl⟩) ⟨zP.blind, va_recv hK (z_subP (ws' := (zRt (h_R) (h_T) (hc_R) (hp_R) (h_K) (hx_R) (hh_R) (hs_R) (c_hasSnapshot)) ++ (zWk cI (h_K) (q_K) (K))) hP [0, 7, 8, 9] rfl) (ci := 6) (q0 := 0) rfl rfl, zP.enter (z_subP (ws' := (zRt (h_R) (h_T) (hc_R) (hp_R) (h_K) (hx_R) (hh_R) (hs_R) (c_hasSnapshot)) ++ (zWk cI (h_K) (q_K) (K))) hP [0, 7, 8, 9] rfl) hK (hD.sub [0, 7, 8, 9] (by decide) rfl) hN⟩ rfl rfl hl.1 rfl (lv_room (Nat.le_of_ble_eq_true rfl)) dX6_overlapWithEarlier_18 ⟨Nat.le_refl _, Nat.le_refl _⟩) hP hD hS hA [0, 7, 8, 9] [1, 2, 3, 4, 5, 6] [6, 0, 1, 2, 3, 4, 5, 7, 8, 9] rfl rfl (by decide) (fun _ => rfl) (fun u_6 H locs hP hD hS hz => ?_)
      obtain ⟨r_7, e_8, h⟩ := bd1_e h
      refine z_goi (ws' := []) (ret := r_7) (wc := (zTr cI (h_T) (q_T) (T))) (wn := fun u_9 => (zRt h_R h_T hc_R hp_R h_K hx_R hh_R hs_R c_hasSnapshot) ++ (zTr cI h_T q_T T) ++ (zWk cI h_K q_K K)) (wr := ([0, 7, 8, 9].filterMap (fun i => ((zRt h_R h_T hc_R hp_R h_K hx_R hh_R hs_R c_hasSnapshot) ++ (zTr cI h_T q_T T) ++ (zWk cI h_K q_K K))[i]?))) (va_runV (As := [vI r_4]) (rest := []) hF.1 (c_Tr_levelOf l D cI cZ cT h_T q_T T r_4 H.size (r_7) e_8) (cwV 1 hts (zgV wm300 wm301 wm302 wm33 wm303) rfl rfl rfl (by decide +kernel) ⟨Nat.le_of_ble_eq_true rfl, Nat.le_of_ble_eq_true rfl⟩) ⟨zP.blind, va_recv hK (z_subP (ws' := (zTr cI (h_T) (q_T) (T))) hP [1, 2, 3, 4, 5, 6] rfl) (ci := 4) (q0 := 0) rfl rfl, zP.enter (z_subP (ws' := (zTr cI (h_T) (q_T) (T))) hP [1, 2, 3, 4, 5, 6] rfl) hK (hD.sub [1, 2, 3, 4, 5, 6] (by decide) rfl) hN⟩ rfl rfl hl.1 rfl (lv_room (Nat.le_of_ble_eq_true rfl)) dX6_overlapWithEarlier_21 ⟨Nat.le_refl _, Nat.le_refl _⟩) hP hD hS hA [1, 2, 3, 4, 5, 6] [0, 7, 8, 9] [0, 4, 5, 6, 7, 8, 9, 1, 2, 3] rfl rfl (by decide) (fun _ => rfl) (fun u_9 H locs hP hD hS hz => ?_)
      refine lv_iload_n hx hb dX6_overlapWithEarlier_24 rfl (lv_at hl 2 rfl) ?_
      obtain ⟨g_10, h⟩ := gd_e h
      obtain ⟨g_11, h⟩ := gd_e h
      refine z_icmp_ne (tgt := 49) hx hb g_10 g_11 dX6_overlapWithEarlier_25 (by decide) (fun b_12 => ?_) (fun b_12 => ?_)
      · have h := it_n b_12 h
        refine lv_iinc (v := Int32.ofInt (x4 + 1)) (lv' := [(4, vI (x4 + 1)), (0, .ref h_R), (1, vI x1), (2, vI x2), (3, vI x3)]) hx hb dX6_overlapWithEarlier_49 hl (k := 4) rfl (z_inc _ _) (by decide) rfl (fun ls hl => ?_)
        refine lv_goto (tgt := 5) hx hb dX6_overlapWithEarlier_52 (by decide) ?_
        exact ih (x3) ((x4 + 1)) H locs ls h hP hD hS (lv_sub hl [1, 2, 3, 4, 0] rfl)
      · have h := it_p b_12 h
        refine lv_iload_n hx hb dX6_overlapWithEarlier_28 rfl (lv_at hl 3 rfl) ?_
        refine lv_aload_n hx hb dX6_overlapWithEarlier_29 rfl (lv_at hl 0 rfl) ?_
        refine va_get (D := D) (ci := 6) (v := .ref h_T) (C := RX6) (T := TX6) (N := 8) hx hb hts zin6 hown hK hP 0 rfl rfl 0 (by decide) (hts _ wm240) (fun _ h9 => h9) rfl dX6_overlapWithEarlier_30 ?_
        refine lv_aload_n hx hb dX6_overlapWithEarlier_33 rfl (lv_at hl 0 rfl) ?_
        refine lv_iload hx hb dX6_overlapWithEarlier_34 (lv_at hl 4 rfl) ?_
        obtain ⟨r_13, e_14, h⟩ := bd1_e h
        refine z_goi (ws' := []) (ret := r_13) (wc := (zRt (h_R) (h_T) (hc_R) (hp_R) (h_K) (hx_R) (hh_R) (hs_R) (c_hasSnapshot)) ++ (zWk cI (h_K) (q_K) (K))) (wn := fun u_15 => (zRt h_R h_T hc_R hp_R h_K hx_R hh_R hs_R c_hasSnapshot) ++ (zTr cI h_T q_T T) ++ (zWk cI h_K q_K K)) (wr := ([1, 2, 3, 4, 5, 6].filterMap (fun i => ((zRt h_R h_T hc_R hp_R h_K hx_R hh_R hs_R c_hasSnapshot) ++ (zTr cI h_T q_T T) ++ (zWk cI h_K q_K K))[i]?))) (va_runV (As := [vI x4]) (rest := [.ref h_T, vI x3]) hF.1 (c_Rt_nodeAt l D cI cZ cT h_R h_T hc_R hp_R h_K hx_R hh_R hs_R q_K c_hasSnapshot K x4 H.size (r_13) e_14) (cwV 1 hts (zgV wm295 wm297 wm2 wm32 wm298) rfl rfl rfl (by decide +kernel) ⟨Nat.le_of_ble_eq_true rfl, Nat.le_of_ble_eq_true rfl⟩) ⟨zP.blind, va_recv hK (z_subP (ws' := (zRt (h_R) (h_T) (hc_R) (hp_R) (h_K) (hx_R) (hh_R) (hs_R) (c_hasSnapshot)) ++ (zWk cI (h_K) (q_K) (K))) hP [0, 7, 8, 9] rfl) (ci := 6) (q0 := 0) rfl rfl, zP.enter (z_subP (ws' := (zRt (h_R) (h_T) (hc_R) (hp_R) (h_K) (hx_R) (hh_R) (hs_R) (c_hasSnapshot)) ++ (zWk cI (h_K) (q_K) (K))) hP [0, 7, 8, 9] rfl) hK (hD.sub [0, 7, 8, 9] (by decide) rfl) hN⟩ rfl rfl hl.1 rfl (lv_room (Nat.le_of_ble_eq_true rfl)) dX6_overlapWithEarlier_36 ⟨Nat.le_refl _, Nat.le_refl _⟩) hP hD hS hA [0, 7, 8, 9] [1, 2, 3, 4, 5, 6] [6, 0, 1, 2, 3, 4, 5, 7, 8, 9] rfl rfl (by decide) (fun _ => rfl) (fun u_15 H locs hP hD hS hz => ?_)
        refine lv_aload_n hx hb dX6_overlapWithEarlier_39 rfl (lv_at hl 0 rfl) ?_
        refine lv_iload_n hx hb dX6_overlapWithEarlier_40 rfl (lv_at hl 1 rfl) ?_
        obtain ⟨r_16, e_17, h⟩ := bd1_e h
        refine z_goi (ws' := []) (ret := r_16) (wc := (zRt (h_R) (h_T) (hc_R) (hp_R) (h_K) (hx_R) (hh_R) (hs_R) (c_hasSnapshot)) ++ (zWk cI (h_K) (q_K) (K))) (wn := fun u_18 => (zRt h_R h_T hc_R hp_R h_K hx_R hh_R hs_R c_hasSnapshot) ++ (zTr cI h_T q_T T) ++ (zWk cI h_K q_K K)) (wr := ([1, 2, 3, 4, 5, 6].filterMap (fun i => ((zRt h_R h_T hc_R hp_R h_K hx_R hh_R hs_R c_hasSnapshot) ++ (zTr cI h_T q_T T) ++ (zWk cI h_K q_K K))[i]?))) (va_runV (As := [vI x1]) (rest := [vI r_13, .ref h_T, vI x3]) hF.1 (c_Rt_nodeAt l D cI cZ cT h_R h_T hc_R hp_R h_K hx_R hh_R hs_R q_K c_hasSnapshot K x1 H.size (r_16) e_17) (cwV 1 hts (zgV wm295 wm297 wm2 wm32 wm298) rfl rfl rfl (by decide +kernel) ⟨Nat.le_of_ble_eq_true rfl, Nat.le_of_ble_eq_true rfl⟩) ⟨zP.blind, va_recv hK (z_subP (ws' := (zRt (h_R) (h_T) (hc_R) (hp_R) (h_K) (hx_R) (hh_R) (hs_R) (c_hasSnapshot)) ++ (zWk cI (h_K) (q_K) (K))) hP [0, 7, 8, 9] rfl) (ci := 6) (q0 := 0) rfl rfl, zP.enter (z_subP (ws' := (zRt (h_R) (h_T) (hc_R) (hp_R) (h_K) (hx_R) (hh_R) (hs_R) (c_hasSnapshot)) ++ (zWk cI (h_K) (q_K) (K))) hP [0, 7, 8, 9] rfl) hK (hD.sub [0, 7, 8, 9] (by decide) rfl) hN⟩ rfl rfl hl.1 rfl (lv_room (Nat.le_of_ble_eq_true rfl)) dX6_overlapWithEarlier_41 ⟨Nat.le_refl _, Nat.le_refl _⟩) hP hD hS hA [0, 7, 8, 9] [1, 2, 3, 4, 5, 6] [6, 0, 1, 2, 3, 4, 5, 7, 8, 9] rfl rfl (by decide) (fun _ => rfl) (fun u_18 H locs hP hD hS hz => ?_)
        obtain ⟨r_19, e_20, h⟩ := bd1_e h
        refine z_goi (ws' := []) (ret := r_19) (wc := (zTr cI (h_T) (q_T) (T))) (wn := fun u_21 => (zRt h_R h_T hc_R hp_R h_K hx_R hh_R hs_R c_hasSnapshot) ++ (zTr cI h_T q_T T) ++ (zWk cI h_K q_K K)) (wr := ([0, 7, 8, 9].filterMap (fun i => ((zRt h_R h_T hc_R hp_R h_K hx_R hh_R hs_R c_hasSnapshot) ++ (zTr cI h_T q_T T) ++ (zWk cI h_K q_K K))[i]?))) (va_runV (As := [vI r_13, vI r_16]) (rest := [vI x3]) hF.1 (c_Tr_commonArea l D cI cZ cT h_T q_T T r_13 r_16 H.size (r_19) e_20) (cwV 2 hts (zgV wm396 wm397 wm398 wm33 wm399) rfl rfl rfl (by decide +kernel) ⟨Nat.le_of_ble_eq_true rfl, Nat.le_of_ble_eq_true rfl⟩) ⟨zP.blind, va_recv hK (z_subP (ws' := (zTr cI (h_T) (q_T) (T))) hP [1, 2, 3, 4, 5, 6] rfl) (ci := 4) (q0 := 0) rfl rfl, zP.enter (z_subP (ws' := (zTr cI (h_T) (q_T) (T))) hP [1, 2, 3, 4, 5, 6] rfl) hK (hD.sub [1, 2, 3, 4, 5, 6] (by decide) rfl) hN⟩ rfl rfl hl.1 rfl (lv_room (Nat.le_of_ble_eq_true rfl)) dX6_overlapWithEarlier_44 ⟨Nat.le_refl _, Nat.le_refl _⟩) hP hD hS hA [1, 2, 3, 4, 5, 6] [0, 7, 8, 9] [0, 4, 5, 6, 7, 8, 9, 1, 2, 3] rfl rfl (by decide) (fun _ => rfl) (fun u_21 H locs hP hD hS hz => ?_)
        refine z_iadd hx hb dX6_overlapWithEarlier_47 ?_
        refine lv_istore_n (lv' := [(3, vI (x3 + r_19)), (0, .ref h_R), (1, vI x1), (2, vI x2), (4, vI x4)]) hx hb dX6_overlapWithEarlier_48 rfl hl (by decide) rfl (fun ls hl => ?_)
        refine lv_iinc (v := Int32.ofInt (x4 + 1)) (lv' := [(4, vI (x4 + 1)), (3, vI (x3 + r_19)), (0, .ref h_R), (1, vI x1), (2, vI x2)]) hx hb dX6_overlapWithEarlier_49 hl (k := 4) rfl (z_inc _ _) (by decide) rfl (fun ls hl => ?_)
        refine lv_goto (tgt := 5) hx hb dX6_overlapWithEarlier_52 (by decide) ?_
        exact ih ((x3 + r_19)) ((x4 + 1)) H locs ls h hP hD hS (lv_sub hl [2, 3, 4, 1, 0] rfl)
set_option maxHeartbeats 4000000 in
set_option maxRecDepth 100000 in
theorem c_Rt_overlapWithEarlier (l : Launch) (D : va_G) (cI cZ cT : ClassId) (h_R : Nat) (h_T : Nat) (hc_R : Nat) (hp_R : Nat) (h_K : Nat) (hx_R : Nat) (hh_R : Nat) (hs_R : Nat) (q_T : Nat → Nat) (q_K : Nat → Nat) (c_hasSnapshot : Int) (T : TV) (K : KV) (x1 : Int) (x2 : Int) (sz : Nat) (res : Int) (h : f_Rt_overlapWithEarlier T K x1 x2 = some res) : zMi l yX6_overlapWithEarlier cX6_overlapWithEarlier 5 rm_Rt_overlapWithEarlier D (zt cI cZ cT) [.ref h_R, vI x1, vI x2] ((zRt h_R h_T hc_R hp_R h_K hx_R hh_R hs_R c_hasSnapshot) ++ (zTr cI h_T q_T T) ++ (zWk cI h_K q_K K)) sz (res) (fun u => (zRt h_R h_T hc_R hp_R h_K hx_R hh_R hs_R c_hasSnapshot) ++ (zTr cI h_T q_T T) ++ (zWk cI h_K q_K K)) 0 0 := by
  refine z_enth (Qc := zQi D (res) (fun u => (zRt h_R h_T hc_R hp_R h_K hx_R hh_R hs_R c_hasSnapshot) ++ (zTr cI h_T q_T T) ++ (zWk cI h_K q_K K))) (by decide) (Nat.le_of_ble_eq_true rfl) (fun p e s m args below meth c A ls H locs hF hP hD hS hl => ?_)
  have hx := hF.1.1
  have hb := hF.1.2.1
  have hml := hF.1.2.2.1
  have hown : s.vm.findClass "RectangleTree" = some m.cls := hF.1.2.2.2.1
  have hts := hF.1.2.2.2.2
  have hr := hF.2.1
  have hlk := hF.2.2.1
  have hK := hF.2.2.2.2.1
  have hN := hF.2.2.2.2.2.1
  have hA := hF.2.2.2.2.2.2
  unfold f_Rt_overlapWithEarlier at h
  refine lv_iconst (v := Int32.ofInt 0) hx hb dX6_overlapWithEarlier_0 rfl ?_
  refine lv_istore_n (lv' := [(3, vI 0), (0, .ref h_R), (1, vI x1), (2, vI x2)]) hx hb dX6_overlapWithEarlier_1 rfl hl (by decide) rfl (fun ls hl => ?_)
  refine lv_iconst (v := Int32.ofInt 0) hx hb dX6_overlapWithEarlier_2 rfl ?_
  refine lv_istore (lv' := [(4, vI 0), (3, vI 0), (0, .ref h_R), (1, vI x1), (2, vI x2)]) hx hb dX6_overlapWithEarlier_3 hl (by decide) rfl (fun ls hl => ?_)
  refine w_Rt_overlapWithEarlier_L5 D cI cZ cT (h_R) (h_T) (hc_R) (hp_R) (h_K) (hx_R) (hh_R) (hs_R) (q_T) (q_K) (c_hasSnapshot) (T) (K) (x1) (x2) _ _ hF (fun x3_22 x4_23 H locs ls h hP hD hS hl => ?_) _ (0) (0) _ _ _ h hP hD hS (lv_sub hl [2, 3, 4, 1, 0] rfl)
  refine lv_iload_n hx hb dX6_overlapWithEarlier_55 rfl (lv_at hl 0 rfl) ?_
  obtain rfl := Option.some.inj h
  exact z_iret hx hb hr hlk (fun _ _ => 0) hP hD hS dX6_overlapWithEarlier_56
def f_Rt_overlap_L18 (T : TV) (K : KV) (x1 : Int) (k : Int → Int → Option (Int)) : Nat → Int → Int → Option (Int)
  | 0, _, _ => none
  | n + 1, x2, x3 =>
  gd (ck x3) <| gd (ck (kCnt K)) <| if x3 < (kCnt K) then (bd1 (f_Rt_nodeAt K x3) <| fun r_11 => bd1 (f_Tr_levelOf T r_11) <| fun r_14 => gd (ck r_14) <| gd (ck x1) <| if r_14 = x1 then (bd1 (f_Rt_overlapWithEarlier T K x3 x1) <| fun r_20 => f_Rt_overlap_L18 T K x1 k n ((x2 + r_20)) ((x3 + 1))) else (f_Rt_overlap_L18 T K x1 k n (x2) ((x3 + 1)))) else (k (x2) (x3))
def f_Rt_overlap (T : TV) (K : KV) (x1 : Int) : Option (Int) :=
  gd (ck x1) <| if x1 < 0 then (some ((-1))) else (bd1 (f_Rt_height T) <| fun r_3 => gd (ck r_3) <| if r_3 < x1 then (some ((-1))) else (f_Rt_overlap_L18 (T) (K) (x1) (fun x2_23 x3_24 => some (x2_23)) FU (0) (1)))
abbrev rm_Rt_overlap : Room := ({ frames := 3, cells := 0, slots := 0, locals := 71 } : Room)

set_option maxHeartbeats 4000000 in
set_option maxRecDepth 100000 in
theorem w_Rt_overlap_L18 {p : Program} {l : Launch} {e : Env} {s : State} {m : MethodId} {args : Array Value} {below : List Frame} {meth : Method} {c : Code} {A : Nat → Prop} (D : va_G) (cI cZ cT : ClassId) (h_R : Nat) (h_T : Nat) (hc_R : Nat) (hp_R : Nat) (h_K : Nat) (hx_R : Nat) (hh_R : Nat) (hs_R : Nat) (q_T : Nat → Nat) (q_K : Nat → Nat) (c_hasSnapshot : Int) (T : TV) (K : KV) (x1 : Int) (res : Int) (k : Int → Int → Option (Int)) (hF : zF p m c cX6_overlap 4 s args yX6_overlap.cls meth (some .int) yX6_overlap.name A D (zt cI cZ cT))
    (hk : ∀ (x2 : Int) (x3 : Int) (H : Heap) (locs : List Loc) (ls : Array Slot), k x2 x3 = some res → va_P D vwCl ((zRt h_R h_T hc_R hp_R h_K hx_R hh_R hs_R c_hasSnapshot) ++ (zTr cI h_T q_T T) ++ (zWk cI h_K q_K K)) H → va_D A ((zRt h_R h_T hc_R hp_R h_K hx_R hh_R hs_R c_hasSnapshot) ++ (zTr cI h_T q_T T) ++ (zWk cI h_K q_K K)) → va_S A s.heap H locs → lv_has ls 4 [(2, vI x2)] → W p l e rm_Rt_overlap s m args below meth c H locs 0 0 (MQ below (zQi D (res) (fun u => (zRt h_R h_T hc_R hp_R h_K hx_R hh_R hs_R c_hasSnapshot) ++ (zTr cI h_T q_T T) ++ (zWk cI h_K q_K K)) A) args s 0 0 A) (F0 m 60 ls [])) :
    ∀ (n : Nat) (x2 : Int) (x3 : Int) (H : Heap) (locs : List Loc) (ls : Array Slot), f_Rt_overlap_L18 T K x1 k n x2 x3 = some res → va_P D vwCl ((zRt h_R h_T hc_R hp_R h_K hx_R hh_R hs_R c_hasSnapshot) ++ (zTr cI h_T q_T T) ++ (zWk cI h_K q_K K)) H → va_D A ((zRt h_R h_T hc_R hp_R h_K hx_R hh_R hs_R c_hasSnapshot) ++ (zTr cI h_T q_T T) ++ (zWk cI h_K q_K K)) → va_S A s.heap H locs → lv_has ls 4 [(0, .ref h_R), (1, vI x1), (2, vI x2), (3, vI x3)] → W p l e rm_Rt_overlap s m args below meth c H locs 0 0 (MQ below (zQi D (res) (fun u => (zRt h_R h_T hc_R hp_R h_K hx_R hh_R hs_R c_hasSnapshot) ++ (zTr cI h_T q_T T) ++ (zWk cI h_K q_K K)) A) args s 0 0 A) (F0 m 18 ls []) := by
  have hx := hF.1.1
  have hb := hF.1.2.1
  have hml := hF.1.2.2.1
  have hown : s.vm.findClass "RectangleTree" = some m.cls := hF.1.2.2.2.1
  have hts := hF.1.2.2.2.2
  have hr := hF.2.1
  have hlk := hF.2.2.1
  have hK := hF.2.2.2.2.1
  have hN := hF.2.2.2.2.2.1
  have hA := hF.2.2.2.2.2.2
  intro n
  induction n with
  | zero => intro x2 x3  H locs ls h; cases h
  | succ n ih =>
    intro x2 x3  H locs ls h  hP hD hS hl
    rw [f_Rt_overlap_L18] at h
    refine lv_iload_n hx hb dX6_overlap_18 rfl (lv_at hl 3 rfl) ?_
    refine lv_aload_n hx hb dX6_overlap_19 rfl (lv_at hl 0 rfl) ?_
    refine va_get (D := D) (ci := 6) (v := .ref h_K) (C := RX6) (T := TX6) (N := 8) hx hb hts zin6 hown hK hP 0 rfl rfl 3 (by decide) (hts _ wm243) (fun _ h9 => h9) rfl dX6_overlap_20 ?_
    refine va_get (D := D) (ci := 5) (v := vI (kCnt K)) (C := RX5) (T := TX5) (N := 3) hx hb hts zin5 hown hK hP 7 rfl rfl 1 (by decide) (hts _ wm122) (fun _ h9 => h9) rfl dX6_overlap_23 ?_
    obtain ⟨g_8, h⟩ := gd_e h
    obtain ⟨g_9, h⟩ := gd_e h
    refine z_icmp_ge (tgt := 60) hx hb g_8 g_9 dX6_overlap_26 (by decide) (fun b_10 => ?_) (fun b_10 => ?_)
    · have h := it_n b_10 h
      exact hk (x2) (x3) H locs ls h hP hD hS (lv_sub hl [2] rfl)
    · have h := it_p b_10 h
      refine lv_aload_n hx hb dX6_overlap_29 rfl (lv_at hl 0 rfl) ?_
      refine va_get (D := D) (ci := 6) (v := .ref h_T) (C := RX6) (T := TX6) (N := 8) hx hb hts zin6 hown hK hP 0 rfl rfl 0 (by decide) (hts _ wm240) (fun _ h9 => h9) rfl dX6_overlap_30 ?_
      refine lv_aload_n hx hb dX6_overlap_33 rfl (lv_at hl 0 rfl) ?_
      refine lv_iload_n hx hb dX6_overlap_34 rfl (lv_at hl 3 rfl) ?_
      obtain ⟨r_11, e_12, h⟩ := bd1_e h
      refine z_goi (ws' := []) (ret := r_11) (wc := (zRt (h_R) (h_T) (hc_R) (hp_R) (h_K) (hx_R) (hh_R) (hs_R) (c_hasSnapshot)) ++ (zWk cI (h_K) (q_K) (K))) (wn := fun u_13 => (zRt h_R h_T hc_R hp_R h_K hx_R hh_R hs_R c_hasSnapshot) ++ (zTr cI h_T q_T T) ++ (zWk cI h_K q_K K)) (wr := ([1, 2, 3, 4, 5, 6].filterMap (fun i => ((zRt h_R h_T hc_R hp_R h_K hx_R hh_R hs_R c_hasSnapshot) ++ (zTr cI h_T q_T T) ++ (zWk cI h_K q_K K))[i]?))) (va_runV (As := [vI x3]) (rest := [.ref h_T]) hF.1 (c_Rt_nodeAt l D cI cZ cT h_R h_T hc_R hp_R h_K hx_R hh_R hs_R q_K c_hasSnapshot K x3 H.size (r_11) e_12) (cwV 1 hts (zgV wm295 wm297 wm2 wm32 wm298) rfl rfl rfl (by decide +kernel) ⟨Nat.le_of_ble_eq_true rfl, Nat.le_of_ble_eq_true rfl⟩) ⟨zP.blind, va_recv hK (z_subP (ws' := (zRt (h_R) (h_T) (hc_R) (hp_R) (h_K) (hx_R) (hh_R) (hs_R) (c_hasSnapshot)) ++ (zWk cI (h_K) (q_K) (K))) hP [0, 7, 8, 9] rfl) (ci := 6) (q0 := 0) rfl rfl, zP.enter (z_subP (ws' := (zRt (h_R) (h_T) (hc_R) (hp_R) (h_K) (hx_R) (hh_R) (hs_R) (c_hasSnapshot)) ++ (zWk cI (h_K) (q_K) (K))) hP [0, 7, 8, 9] rfl) hK (hD.sub [0, 7, 8, 9] (by decide) rfl) hN⟩ rfl rfl hl.1 rfl (lv_room (Nat.le_of_ble_eq_true rfl)) dX6_overlap_35 ⟨Nat.le_refl _, Nat.le_refl _⟩) hP hD hS hA [0, 7, 8, 9] [1, 2, 3, 4, 5, 6] [6, 0, 1, 2, 3, 4, 5, 7, 8, 9] rfl rfl (by decide) (fun _ => rfl) (fun u_13 H locs hP hD hS hz => ?_)
      obtain ⟨r_14, e_15, h⟩ := bd1_e h
      refine z_goi (ws' := []) (ret := r_14) (wc := (zTr cI (h_T) (q_T) (T))) (wn := fun u_16 => (zRt h_R h_T hc_R hp_R h_K hx_R hh_R hs_R c_hasSnapshot) ++ (zTr cI h_T q_T T) ++ (zWk cI h_K q_K K)) (wr := ([0, 7, 8, 9].filterMap (fun i => ((zRt h_R h_T hc_R hp_R h_K hx_R hh_R hs_R c_hasSnapshot) ++ (zTr cI h_T q_T T) ++ (zWk cI h_K q_K K))[i]?))) (va_runV (As := [vI r_11]) (rest := []) hF.1 (c_Tr_levelOf l D cI cZ cT h_T q_T T r_11 H.size (r_14) e_15) (cwV 1 hts (zgV wm300 wm301 wm302 wm33 wm303) rfl rfl rfl (by decide +kernel) ⟨Nat.le_of_ble_eq_true rfl, Nat.le_of_ble_eq_true rfl⟩) ⟨zP.blind, va_recv hK (z_subP (ws' := (zTr cI (h_T) (q_T) (T))) hP [1, 2, 3, 4, 5, 6] rfl) (ci := 4) (q0 := 0) rfl rfl, zP.enter (z_subP (ws' := (zTr cI (h_T) (q_T) (T))) hP [1, 2, 3, 4, 5, 6] rfl) hK (hD.sub [1, 2, 3, 4, 5, 6] (by decide) rfl) hN⟩ rfl rfl hl.1 rfl (lv_room (Nat.le_of_ble_eq_true rfl)) dX6_overlap_38 ⟨Nat.le_refl _, Nat.le_refl _⟩) hP hD hS hA [1, 2, 3, 4, 5, 6] [0, 7, 8, 9] [0, 4, 5, 6, 7, 8, 9, 1, 2, 3] rfl rfl (by decide) (fun _ => rfl) (fun u_16 H locs hP hD hS hz => ?_)
      refine lv_iload_n hx hb dX6_overlap_41 rfl (lv_at hl 1 rfl) ?_
      obtain ⟨g_17, h⟩ := gd_e h
      obtain ⟨g_18, h⟩ := gd_e h
      refine z_icmp_ne (tgt := 54) hx hb g_17 g_18 dX6_overlap_42 (by decide) (fun b_19 => ?_) (fun b_19 => ?_)
      · have h := it_n b_19 h
        refine lv_iinc (v := Int32.ofInt (x3 + 1)) (lv' := [(3, vI (x3 + 1)), (0, .ref h_R), (1, vI x1), (2, vI x2)]) hx hb dX6_overlap_54 hl (k := 3) rfl (z_inc _ _) (by decide) rfl (fun ls hl => ?_)
        refine lv_goto (tgt := 18) hx hb dX6_overlap_57 (by decide) ?_
        exact ih (x2) ((x3 + 1)) H locs ls h hP hD hS (lv_sub hl [1, 2, 3, 0] rfl)
      · have h := it_p b_19 h
        refine lv_iload_n hx hb dX6_overlap_45 rfl (lv_at hl 2 rfl) ?_
        refine lv_aload_n hx hb dX6_overlap_46 rfl (lv_at hl 0 rfl) ?_
        refine lv_iload_n hx hb dX6_overlap_47 rfl (lv_at hl 3 rfl) ?_
        refine lv_iload_n hx hb dX6_overlap_48 rfl (lv_at hl 1 rfl) ?_
        obtain ⟨r_20, e_21, h⟩ := bd1_e h
        refine z_goi (ws' := []) (ret := r_20) (wc := (zRt (h_R) (h_T) (hc_R) (hp_R) (h_K) (hx_R) (hh_R) (hs_R) (c_hasSnapshot)) ++ (zTr cI (h_T) (q_T) (T)) ++ (zWk cI (h_K) (q_K) (K))) (wn := fun u_22 => (zRt h_R h_T hc_R hp_R h_K hx_R hh_R hs_R c_hasSnapshot) ++ (zTr cI h_T q_T T) ++ (zWk cI h_K q_K K)) (wr := []) (va_runV (As := [vI x3, vI x1]) (rest := [vI x2]) hF.1 (c_Rt_overlapWithEarlier l D cI cZ cT h_R h_T hc_R hp_R h_K hx_R hh_R hs_R q_T q_K c_hasSnapshot T K x3 x1 H.size (r_20) e_21) (cwV 2 hts (zgV wm392 wm394 wm3 wm32 wm395) rfl rfl rfl (by decide +kernel) ⟨Nat.le_of_ble_eq_true rfl, Nat.le_of_ble_eq_true rfl⟩) ⟨zP.blind, va_recv hK (z_subP (ws' := (zRt (h_R) (h_T) (hc_R) (hp_R) (h_K) (hx_R) (hh_R) (hs_R) (c_hasSnapshot)) ++ (zTr cI (h_T) (q_T) (T)) ++ (zWk cI (h_K) (q_K) (K))) hP [0, 1, 2, 3, 4, 5, 6, 7, 8, 9] rfl) (ci := 6) (q0 := 0) rfl rfl, zP.enter (z_subP (ws' := (zRt (h_R) (h_T) (hc_R) (hp_R) (h_K) (hx_R) (hh_R) (hs_R) (c_hasSnapshot)) ++ (zTr cI (h_T) (q_T) (T)) ++ (zWk cI (h_K) (q_K) (K))) hP [0, 1, 2, 3, 4, 5, 6, 7, 8, 9] rfl) hK (hD.sub [0, 1, 2, 3, 4, 5, 6, 7, 8, 9] (by decide) rfl) hN⟩ rfl rfl hl.1 rfl (lv_room (Nat.le_of_ble_eq_true rfl)) dX6_overlap_49 ⟨Nat.le_refl _, Nat.le_refl _⟩) hP hD hS hA [0, 1, 2, 3, 4, 5, 6, 7, 8, 9] [] [0, 1, 2, 3, 4, 5, 6, 7, 8, 9] rfl rfl (by decide) (fun _ => rfl) (fun u_22 H locs hP hD hS hz => ?_)
        refine z_iadd hx hb dX6_overlap_52 ?_
        refine lv_istore_n (lv' := [(2, vI (x2 + r_20)), (0, .ref h_R), (1, vI x1), (3, vI x3)]) hx hb dX6_overlap_53 rfl hl (by decide) rfl (fun ls hl => ?_)
        refine lv_iinc (v := Int32.ofInt (x3 + 1)) (lv' := [(3, vI (x3 + 1)), (2, vI (x2 + r_20)), (0, .ref h_R), (1, vI x1)]) hx hb dX6_overlap_54 hl (k := 3) rfl (z_inc _ _) (by decide) rfl (fun ls hl => ?_)
        refine lv_goto (tgt := 18) hx hb dX6_overlap_57 (by decide) ?_
        exact ih ((x2 + r_20)) ((x3 + 1)) H locs ls h hP hD hS (lv_sub hl [2, 3, 1, 0] rfl)
set_option maxHeartbeats 4000000 in
set_option maxRecDepth 100000 in
theorem c_Rt_overlap (l : Launch) (D : va_G) (cI cZ cT : ClassId) (h_R : Nat) (h_T : Nat) (hc_R : Nat) (hp_R : Nat) (h_K : Nat) (hx_R : Nat) (hh_R : Nat) (hs_R : Nat) (q_T : Nat → Nat) (q_K : Nat → Nat) (c_hasSnapshot : Int) (T : TV) (K : KV) (x1 : Int) (sz : Nat) (res : Int) (h : f_Rt_overlap T K x1 = some res) : zMi l yX6_overlap cX6_overlap 4 rm_Rt_overlap D (zt cI cZ cT) [.ref h_R, vI x1] ((zRt h_R h_T hc_R hp_R h_K hx_R hh_R hs_R c_hasSnapshot) ++ (zTr cI h_T q_T T) ++ (zWk cI h_K q_K K)) sz (res) (fun u => (zRt h_R h_T hc_R hp_R h_K hx_R hh_R hs_R c_hasSnapshot) ++ (zTr cI h_T q_T T) ++ (zWk cI h_K q_K K)) 0 0 := by
  refine z_enth (Qc := zQi D (res) (fun u => (zRt h_R h_T hc_R hp_R h_K hx_R hh_R hs_R c_hasSnapshot) ++ (zTr cI h_T q_T T) ++ (zWk cI h_K q_K K))) (by decide) (Nat.le_of_ble_eq_true rfl) (fun p e s m args below meth c A ls H locs hF hP hD hS hl => ?_)
  have hx := hF.1.1
  have hb := hF.1.2.1
  have hml := hF.1.2.2.1
  have hown : s.vm.findClass "RectangleTree" = some m.cls := hF.1.2.2.2.1
  have hts := hF.1.2.2.2.2
  have hr := hF.2.1
  have hlk := hF.2.2.1
  have hK := hF.2.2.2.2.1
  have hN := hF.2.2.2.2.2.1
  have hA := hF.2.2.2.2.2.2
  unfold f_Rt_overlap at h
  refine lv_iload_n hx hb dX6_overlap_0 rfl (lv_at hl 1 rfl) ?_
  obtain ⟨g_1, h⟩ := gd_e h
  refine z_if_lt (tgt := 12) hx hb g_1 dX6_overlap_1 (by decide) (fun b_2 => ?_) (fun b_2 => ?_)
  · have h := it_p b_2 h
    refine lv_iconst (v := Int32.ofInt (-1)) hx hb dX6_overlap_12 rfl ?_
    obtain rfl := Option.some.inj h
    exact z_iret hx hb hr hlk (fun _ _ => 0) hP hD hS dX6_overlap_13
  · have h := it_n b_2 h
    refine lv_iload_n hx hb dX6_overlap_4 rfl (lv_at hl 1 rfl) ?_
    refine lv_aload_n hx hb dX6_overlap_5 rfl (lv_at hl 0 rfl) ?_
    obtain ⟨r_3, e_4, h⟩ := bd1_e h
    refine z_goi (ws' := []) (ret := r_3) (wc := (zRt (h_R) (h_T) (hc_R) (hp_R) (h_K) (hx_R) (hh_R) (hs_R) (c_hasSnapshot)) ++ (zTr cI (h_T) (q_T) (T))) (wn := fun u_5 => (zRt h_R h_T hc_R hp_R h_K hx_R hh_R hs_R c_hasSnapshot) ++ (zTr cI h_T q_T T) ++ (zWk cI h_K q_K K)) (wr := ([7, 8, 9].filterMap (fun i => ((zRt h_R h_T hc_R hp_R h_K hx_R hh_R hs_R c_hasSnapshot) ++ (zTr cI h_T q_T T) ++ (zWk cI h_K q_K K))[i]?))) (va_runV (As := []) (rest := [vI x1]) hF.1 (c_Rt_height l D cI cZ cT h_R h_T hc_R hp_R h_K hx_R hh_R hs_R q_T c_hasSnapshot T H.size (r_3) e_4) (cwV 0 hts (zgV wm382 wm305 wm306 wm32 wm307) rfl rfl rfl (by decide +kernel) ⟨Nat.le_of_ble_eq_true rfl, Nat.le_of_ble_eq_true rfl⟩) ⟨zP.blind, va_recv hK (z_subP (ws' := (zRt (h_R) (h_T) (hc_R) (hp_R) (h_K) (hx_R) (hh_R) (hs_R) (c_hasSnapshot)) ++ (zTr cI (h_T) (q_T) (T))) hP [0, 1, 2, 3, 4, 5, 6] rfl) (ci := 6) (q0 := 0) rfl rfl, zP.enter (z_subP (ws' := (zRt (h_R) (h_T) (hc_R) (hp_R) (h_K) (hx_R) (hh_R) (hs_R) (c_hasSnapshot)) ++ (zTr cI (h_T) (q_T) (T))) hP [0, 1, 2, 3, 4, 5, 6] rfl) hK (hD.sub [0, 1, 2, 3, 4, 5, 6] (by decide) rfl) hN⟩ rfl rfl hl.1 rfl (lv_room (Nat.le_of_ble_eq_true rfl)) dX6_overlap_6 ⟨Nat.le_refl _, Nat.le_refl _⟩) hP hD hS hA [0, 1, 2, 3, 4, 5, 6] [7, 8, 9] [3, 4, 5, 6, 7, 8, 9, 0, 1, 2] rfl rfl (by decide) (fun _ => rfl) (fun u_5 H locs hP hD hS hz => ?_)
    obtain ⟨g_6, h⟩ := gd_e h
    refine z_icmp_le (tgt := 14) hx hb g_1 g_6 dX6_overlap_9 (by decide) (fun b_7 => ?_) (fun b_7 => ?_)
    · have h := it_n b_7 h
      refine lv_iconst (v := Int32.ofInt 0) hx hb dX6_overlap_14 rfl ?_
      refine lv_istore_n (lv' := [(2, vI 0), (0, .ref h_R), (1, vI x1)]) hx hb dX6_overlap_15 rfl hl (by decide) rfl (fun ls hl => ?_)
      refine lv_iconst (v := Int32.ofInt 1) hx hb dX6_overlap_16 rfl ?_
      refine lv_istore_n (lv' := [(3, vI 1), (2, vI 0), (0, .ref h_R), (1, vI x1)]) hx hb dX6_overlap_17 rfl hl (by decide) rfl (fun ls hl => ?_)
      refine w_Rt_overlap_L18 D cI cZ cT (h_R) (h_T) (hc_R) (hp_R) (h_K) (hx_R) (hh_R) (hs_R) (q_T) (q_K) (c_hasSnapshot) (T) (K) (x1) _ _ hF (fun x2_23 x3_24 H locs ls h hP hD hS hl => ?_) _ (0) (1) _ _ _ h hP hD hS (lv_sub hl [2, 3, 1, 0] rfl)
      refine lv_iload_n hx hb dX6_overlap_60 rfl (lv_at hl 0 rfl) ?_
      obtain rfl := Option.some.inj h
      exact z_iret hx hb hr hlk (fun _ _ => 0) hP hD hS dX6_overlap_61
    · have h := it_p b_7 h
      refine lv_iconst (v := Int32.ofInt (-1)) hx hb dX6_overlap_12 rfl ?_
      obtain rfl := Option.some.inj h
      exact z_iret hx hb hr hlk (fun _ _ => 0) hP hD hS dX6_overlap_13
def f_Rt_clearText (c_length : Int) : Option (Int × Int) :=
  bd2 (f_Tx_makeEmpty c_length) <| fun r_1 c_length_2 => some (r_1, c_length_2)
abbrev rm_Rt_clearText : Room := ({ frames := 1, cells := 0, slots := 0, locals := 21 } : Room)

set_option maxHeartbeats 4000000 in
set_option maxRecDepth 100000 in
theorem c_Rt_clearText (l : Launch) (D : va_G) (cI cZ cT : ClassId) (h_R : Nat) (ht_R : Nat) (hc_R : Nat) (hp_R : Nat) (hn_R : Nat) (h_X : Nat) (hh_R : Nat) (hs_R : Nat) (q_X : Nat → Nat) (c_hasSnapshot : Int) (c_characters : Nat → Int) (c_length : Int) (c_parts : Nat → Int) (c_rectangles : Int) (c_part : Int) (c_digits : Int) (c_value : Int) (sz : Nat) (res : Int × Int) (h : f_Rt_clearText c_length = some res) : zMi l yX6_clearText cX6_clearText 1 rm_Rt_clearText D (zt cI cZ cT) [.ref h_R] ((zRt h_R ht_R hc_R hp_R hn_R h_X hh_R hs_R c_hasSnapshot) ++ (zTx cI h_X q_X c_characters c_length c_parts c_rectangles c_part c_digits c_value)) sz (res.1) (fun u => (zRt h_R ht_R hc_R hp_R hn_R h_X hh_R hs_R c_hasSnapshot) ++ (zTx cI h_X q_X c_characters (res.2) c_parts c_rectangles c_part c_digits c_value)) 0 0 := by
  refine z_enth (Qc := zQi D (res.1) (fun u => (zRt h_R ht_R hc_R hp_R hn_R h_X hh_R hs_R c_hasSnapshot) ++ (zTx cI h_X q_X c_characters (res.2) c_parts c_rectangles c_part c_digits c_value))) (by decide) (Nat.le_of_ble_eq_true rfl) (fun p e s m args below meth c A ls H locs hF hP hD hS hl => ?_)
  have hx := hF.1.1
  have hb := hF.1.2.1
  have hml := hF.1.2.2.1
  have hown : s.vm.findClass "RectangleTree" = some m.cls := hF.1.2.2.2.1
  have hts := hF.1.2.2.2.2
  have hr := hF.2.1
  have hlk := hF.2.2.1
  have hK := hF.2.2.2.2.1
  have hN := hF.2.2.2.2.2.1
  have hA := hF.2.2.2.2.2.2
  unfold f_Rt_clearText at h
  refine lv_aload_n hx hb dX6_clearText_0 rfl (lv_at hl 0 rfl) ?_
  refine va_get (D := D) (ci := 6) (v := .ref h_X) (C := RX6) (T := TX6) (N := 8) hx hb hts zin6 hown hK hP 0 rfl rfl 4 (by decide) (hts _ wm244) (fun _ h9 => h9) rfl dX6_clearText_1 ?_
  obtain ⟨r_1, c_length_2, e_3, h⟩ := bd2_e h
  refine z_goi (ws' := []) (ret := r_1) (wc := (zTx cI (h_X) (q_X) (c_characters) (c_length) (c_parts) (c_rectangles) (c_part) (c_digits) (c_value))) (wn := fun u_4 => (zRt h_R ht_R hc_R hp_R hn_R h_X hh_R hs_R c_hasSnapshot) ++ (zTx cI h_X q_X c_characters c_length_2 c_parts c_rectangles c_part c_digits c_value)) (wr := ([0].filterMap (fun i => ((zRt h_R ht_R hc_R hp_R hn_R h_X hh_R hs_R c_hasSnapshot) ++ (zTx cI h_X q_X c_characters c_length c_parts c_rectangles c_part c_digits c_value))[i]?))) (va_runV (As := []) (rest := []) hF.1 (c_Tx_makeEmpty l D cI cZ cT h_X q_X c_characters c_length c_parts c_rectangles c_part c_digits c_value H.size (r_1, c_length_2) e_3) (cwV 0 hts (zgV wm707 wm708 wm709 wm38 wm710) rfl rfl rfl (by decide +kernel) ⟨Nat.le_of_ble_eq_true rfl, Nat.le_of_ble_eq_true rfl⟩) ⟨zP.blind, va_recv hK (z_subP (ws' := (zTx cI (h_X) (q_X) (c_characters) (c_length) (c_parts) (c_rectangles) (c_part) (c_digits) (c_value))) hP [1, 2, 3] rfl) (ci := 3) (q0 := 0) rfl rfl, zP.enter (z_subP (ws' := (zTx cI (h_X) (q_X) (c_characters) (c_length) (c_parts) (c_rectangles) (c_part) (c_digits) (c_value))) hP [1, 2, 3] rfl) hK (hD.sub [1, 2, 3] (by decide) rfl) hN⟩ rfl rfl hl.1 rfl (lv_room (Nat.le_of_ble_eq_true rfl)) dX6_clearText_4 ⟨Nat.le_refl _, Nat.le_refl _⟩) hP hD hS hA [1, 2, 3] [0] [0, 1, 2, 3] rfl rfl (by decide) (fun _ => rfl) (fun u_4 H locs hP hD hS hz => ?_)
  obtain rfl := Option.some.inj h
  exact z_iret hx hb hr hlk (fun _ _ => 0) hP hD hS dX6_clearText_7
def f_Rt_fault (c_characters : Nat → Int) (c_length : Int) (c_parts : Nat → Int) : Option (Int × (Nat → Int) × Int × Int × Int × Int) :=
  bd6 (f_Tx_findFault c_characters c_length c_parts) <| fun r_1 c_parts_2 c_rectangles_3 c_part_4 c_digits_5 c_value_6 => some (r_1, c_parts_2, c_rectangles_3, c_part_4, c_digits_5, c_value_6)
abbrev rm_Rt_fault : Room := ({ frames := 4, cells := 0, slots := 0, locals := 87 } : Room)

set_option maxHeartbeats 4000000 in
set_option maxRecDepth 100000 in
theorem c_Rt_fault (l : Launch) (D : va_G) (cI cZ cT : ClassId) (h_R : Nat) (ht_R : Nat) (hc_R : Nat) (hp_R : Nat) (hn_R : Nat) (h_X : Nat) (hh_R : Nat) (hs_R : Nat) (q_X : Nat → Nat) (c_hasSnapshot : Int) (c_characters : Nat → Int) (c_length : Int) (c_parts : Nat → Int) (c_rectangles : Int) (c_part : Int) (c_digits : Int) (c_value : Int) (sz : Nat) (res : Int × (Nat → Int) × Int × Int × Int × Int) (h : f_Rt_fault c_characters c_length c_parts = some res) : zMi l yX6_fault cX6_fault 1 rm_Rt_fault D (zt cI cZ cT) [.ref h_R] ((zRt h_R ht_R hc_R hp_R hn_R h_X hh_R hs_R c_hasSnapshot) ++ (zTx cI h_X q_X c_characters c_length c_parts c_rectangles c_part c_digits c_value)) sz (res.1) (fun u => (zRt h_R ht_R hc_R hp_R hn_R h_X hh_R hs_R c_hasSnapshot) ++ (zTx cI h_X q_X c_characters c_length (res.2.1) (res.2.2.1) (res.2.2.2.1) (res.2.2.2.2.1) (res.2.2.2.2.2))) 0 0 := by
  refine z_enth (Qc := zQi D (res.1) (fun u => (zRt h_R ht_R hc_R hp_R hn_R h_X hh_R hs_R c_hasSnapshot) ++ (zTx cI h_X q_X c_characters c_length (res.2.1) (res.2.2.1) (res.2.2.2.1) (res.2.2.2.2.1) (res.2.2.2.2.2)))) (by decide) (Nat.le_of_ble_eq_true rfl) (fun p e s m args below meth c A ls H locs hF hP hD hS hl => ?_)
  have hx := hF.1.1
  have hb := hF.1.2.1
  have hml := hF.1.2.2.1
  have hown : s.vm.findClass "RectangleTree" = some m.cls := hF.1.2.2.2.1
  have hts := hF.1.2.2.2.2
  have hr := hF.2.1
  have hlk := hF.2.2.1
  have hK := hF.2.2.2.2.1
  have hN := hF.2.2.2.2.2.1
  have hA := hF.2.2.2.2.2.2
  unfold f_Rt_fault at h
  refine lv_aload_n hx hb dX6_fault_0 rfl (lv_at hl 0 rfl) ?_
  refine va_get (D := D) (ci := 6) (v := .ref h_X) (C := RX6) (T := TX6) (N := 8) hx hb hts zin6 hown hK hP 0 rfl rfl 4 (by decide) (hts _ wm244) (fun _ h9 => h9) rfl dX6_fault_1 ?_
  obtain ⟨r_1, c_parts_2, c_rectangles_3, c_part_4, c_digits_5, c_value_6, e_7, h⟩ := bd6_e h
  refine z_goi (ws' := []) (ret := r_1) (wc := (zTx cI (h_X) (q_X) (c_characters) (c_length) (c_parts) (c_rectangles) (c_part) (c_digits) (c_value))) (wn := fun u_8 => (zRt h_R ht_R hc_R hp_R hn_R h_X hh_R hs_R c_hasSnapshot) ++ (zTx cI h_X q_X c_characters c_length c_parts_2 c_rectangles_3 c_part_4 c_digits_5 c_value_6)) (wr := ([0].filterMap (fun i => ((zRt h_R ht_R hc_R hp_R hn_R h_X hh_R hs_R c_hasSnapshot) ++ (zTx cI h_X q_X c_characters c_length c_parts c_rectangles c_part c_digits c_value))[i]?))) (va_runV (As := []) (rest := []) hF.1 (c_Tx_findFault l D cI cZ cT h_X q_X c_characters c_length c_parts c_rectangles c_part c_digits c_value H.size (r_1, c_parts_2, c_rectangles_3, c_part_4, c_digits_5, c_value_6) e_7) (cwV 0 hts (zgV wm731 wm732 wm733 wm38 wm734) rfl rfl rfl (by decide +kernel) ⟨Nat.le_of_ble_eq_true rfl, Nat.le_of_ble_eq_true rfl⟩) ⟨zP.blind, va_recv hK (z_subP (ws' := (zTx cI (h_X) (q_X) (c_characters) (c_length) (c_parts) (c_rectangles) (c_part) (c_digits) (c_value))) hP [1, 2, 3] rfl) (ci := 3) (q0 := 0) rfl rfl, zP.enter (z_subP (ws' := (zTx cI (h_X) (q_X) (c_characters) (c_length) (c_parts) (c_rectangles) (c_part) (c_digits) (c_value))) hP [1, 2, 3] rfl) hK (hD.sub [1, 2, 3] (by decide) rfl) hN⟩ rfl rfl hl.1 rfl (lv_room (Nat.le_of_ble_eq_true rfl)) dX6_fault_4 ⟨Nat.le_refl _, Nat.le_refl _⟩) hP hD hS hA [1, 2, 3] [0] [0, 1, 2, 3] rfl rfl (by decide) (fun _ => rfl) (fun u_8 H locs hP hD hS hz => ?_)
  obtain rfl := Option.some.inj h
  exact z_iret hx hb hr hlk (fun _ _ => 0) hP hD hS dX6_fault_7
def f_Rt_append (c_characters : Nat → Int) (c_length : Int) (x1 : Int) : Option (Int × (Nat → Int) × Int) :=
  gd (ck x1) <| if x1 < 32 then (some ((-2), c_characters, c_length)) else (if 126 < x1 then (some ((-2), c_characters, c_length)) else (bd1 (f_Tx_isFull c_length) <| fun r_4 => gd (ck r_4) <| if r_4 = 0 then (bd3 (f_Tx_addLast c_characters c_length x1) <| fun r_9 c_characters_10 c_length_11 => some (r_9, c_characters_10, c_length_11)) else (some ((-3), c_characters, c_length))))
abbrev rm_Rt_append : Room := ({ frames := 2, cells := 0, slots := 0, locals := 43 } : Room)

set_option maxHeartbeats 4000000 in
set_option maxRecDepth 100000 in
theorem c_Rt_append (l : Launch) (D : va_G) (cI cZ cT : ClassId) (h_R : Nat) (ht_R : Nat) (hc_R : Nat) (hp_R : Nat) (hn_R : Nat) (h_X : Nat) (hh_R : Nat) (hs_R : Nat) (q_X : Nat → Nat) (c_hasSnapshot : Int) (c_characters : Nat → Int) (c_length : Int) (c_parts : Nat → Int) (c_rectangles : Int) (c_part : Int) (c_digits : Int) (c_value : Int) (x1 : Int) (sz : Nat) (res : Int × (Nat → Int) × Int) (h : f_Rt_append c_characters c_length x1 = some res) : zMi l yX6_append cX6_append 2 rm_Rt_append D (zt cI cZ cT) [.ref h_R, vI x1] ((zRt h_R ht_R hc_R hp_R hn_R h_X hh_R hs_R c_hasSnapshot) ++ (zTx cI h_X q_X c_characters c_length c_parts c_rectangles c_part c_digits c_value)) sz (res.1) (fun u => (zRt h_R ht_R hc_R hp_R hn_R h_X hh_R hs_R c_hasSnapshot) ++ (zTx cI h_X q_X (res.2.1) (res.2.2) c_parts c_rectangles c_part c_digits c_value)) 0 0 := by
  refine z_enth (Qc := zQi D (res.1) (fun u => (zRt h_R ht_R hc_R hp_R hn_R h_X hh_R hs_R c_hasSnapshot) ++ (zTx cI h_X q_X (res.2.1) (res.2.2) c_parts c_rectangles c_part c_digits c_value))) (by decide) (Nat.le_of_ble_eq_true rfl) (fun p e s m args below meth c A ls H locs hF hP hD hS hl => ?_)
  have hx := hF.1.1
  have hb := hF.1.2.1
  have hml := hF.1.2.2.1
  have hown : s.vm.findClass "RectangleTree" = some m.cls := hF.1.2.2.2.1
  have hts := hF.1.2.2.2.2
  have hr := hF.2.1
  have hlk := hF.2.2.1
  have hK := hF.2.2.2.2.1
  have hN := hF.2.2.2.2.2.1
  have hA := hF.2.2.2.2.2.2
  unfold f_Rt_append at h
  refine lv_iload_n hx hb dX6_append_0 rfl (lv_at hl 1 rfl) ?_
  refine lv_bipush (v := Int32.ofInt 32) hx hb dX6_append_1 (by decide +kernel) ?_
  obtain ⟨g_1, h⟩ := gd_e h
  refine z_icmp_lt (tgt := 12) hx hb g_1 (by decide) dX6_append_3 (by decide) (fun b_2 => ?_) (fun b_2 => ?_)
  · have h := it_p b_2 h
    refine lv_bipush (v := Int32.ofInt (-2)) hx hb dX6_append_12 (by decide +kernel) ?_
    obtain rfl := Option.some.inj h
    exact z_iret hx hb hr hlk (fun _ _ => 0) hP hD hS dX6_append_14
  · have h := it_n b_2 h
    refine lv_iload_n hx hb dX6_append_6 rfl (lv_at hl 1 rfl) ?_
    refine lv_bipush (v := Int32.ofInt 126) hx hb dX6_append_7 (by decide +kernel) ?_
    refine z_icmp_le (tgt := 15) hx hb g_1 (by decide) dX6_append_9 (by decide) (fun b_3 => ?_) (fun b_3 => ?_)
    · have h := it_n b_3 h
      refine lv_aload_n hx hb dX6_append_15 rfl (lv_at hl 0 rfl) ?_
      refine va_get (D := D) (ci := 6) (v := .ref h_X) (C := RX6) (T := TX6) (N := 8) hx hb hts zin6 hown hK hP 0 rfl rfl 4 (by decide) (hts _ wm244) (fun _ h9 => h9) rfl dX6_append_16 ?_
      obtain ⟨r_4, e_5, h⟩ := bd1_e h
      refine z_goi (ws' := []) (ret := r_4) (wc := (zTx cI (h_X) (q_X) (c_characters) (c_length) (c_parts) (c_rectangles) (c_part) (c_digits) (c_value))) (wn := fun u_6 => (zRt h_R ht_R hc_R hp_R hn_R h_X hh_R hs_R c_hasSnapshot) ++ (zTx cI h_X q_X c_characters c_length c_parts c_rectangles c_part c_digits c_value)) (wr := ([0].filterMap (fun i => ((zRt h_R ht_R hc_R hp_R hn_R h_X hh_R hs_R c_hasSnapshot) ++ (zTx cI h_X q_X c_characters c_length c_parts c_rectangles c_part c_digits c_value))[i]?))) (va_runV (As := []) (rest := []) hF.1 (c_Tx_isFull l D cI cZ cT h_X q_X c_characters c_length c_parts c_rectangles c_part c_digits c_value H.size (r_4) e_5) (cwV 0 hts (zgV wm718 wm719 wm720 wm38 wm721) rfl rfl rfl (by decide +kernel) ⟨Nat.le_of_ble_eq_true rfl, Nat.le_of_ble_eq_true rfl⟩) ⟨zP.blind, va_recv hK (z_subP (ws' := (zTx cI (h_X) (q_X) (c_characters) (c_length) (c_parts) (c_rectangles) (c_part) (c_digits) (c_value))) hP [1, 2, 3] rfl) (ci := 3) (q0 := 0) rfl rfl, zP.enter (z_subP (ws' := (zTx cI (h_X) (q_X) (c_characters) (c_length) (c_parts) (c_rectangles) (c_part) (c_digits) (c_value))) hP [1, 2, 3] rfl) hK (hD.sub [1, 2, 3] (by decide) rfl) hN⟩ rfl rfl hl.1 rfl (lv_room (Nat.le_of_ble_eq_true rfl)) dX6_append_19 ⟨Nat.le_refl _, Nat.le_refl _⟩) hP hD hS hA [1, 2, 3] [0] [0, 1, 2, 3] rfl rfl (by decide) (fun _ => rfl) (fun u_6 H locs hP hD hS hz => ?_)
      obtain ⟨g_7, h⟩ := gd_e h
      refine z_if_eq (tgt := 28) hx hb g_7 dX6_append_22 (by decide) (fun b_8 => ?_) (fun b_8 => ?_)
      · have h := it_p b_8 h
        refine lv_aload_n hx hb dX6_append_28 rfl (lv_at hl 0 rfl) ?_
        refine va_get (D := D) (ci := 6) (v := .ref h_X) (C := RX6) (T := TX6) (N := 8) hx hb hts zin6 hown hK hP 0 rfl rfl 4 (by decide) (hts _ wm244) (fun _ h9 => h9) rfl dX6_append_29 ?_
        refine lv_iload_n hx hb dX6_append_32 rfl (lv_at hl 1 rfl) ?_
        obtain ⟨r_9, c_characters_10, c_length_11, e_12, h⟩ := bd3_e h
        refine z_goi (ws' := []) (ret := r_9) (wc := (zTx cI (h_X) (q_X) (c_characters) (c_length) (c_parts) (c_rectangles) (c_part) (c_digits) (c_value))) (wn := fun u_13 => (zRt h_R ht_R hc_R hp_R hn_R h_X hh_R hs_R c_hasSnapshot) ++ (zTx cI h_X q_X c_characters_10 c_length_11 c_parts c_rectangles c_part c_digits c_value)) (wr := ([0].filterMap (fun i => ((zRt h_R ht_R hc_R hp_R hn_R h_X hh_R hs_R c_hasSnapshot) ++ (zTx cI h_X q_X c_characters c_length c_parts c_rectangles c_part c_digits c_value))[i]?))) (va_runV (As := [vI x1]) (rest := []) hF.1 (c_Tx_addLast l D cI cZ cT h_X q_X c_characters c_length c_parts c_rectangles c_part c_digits c_value x1 H.size (r_9, c_characters_10, c_length_11) e_12) (cwV 1 hts (zgV wm722 wm723 wm724 wm38 wm725) rfl rfl rfl (by decide +kernel) ⟨Nat.le_of_ble_eq_true rfl, Nat.le_of_ble_eq_true rfl⟩) ⟨zP.blind, va_recv hK (z_subP (ws' := (zTx cI (h_X) (q_X) (c_characters) (c_length) (c_parts) (c_rectangles) (c_part) (c_digits) (c_value))) hP [1, 2, 3] rfl) (ci := 3) (q0 := 0) rfl rfl, zP.enter (z_subP (ws' := (zTx cI (h_X) (q_X) (c_characters) (c_length) (c_parts) (c_rectangles) (c_part) (c_digits) (c_value))) hP [1, 2, 3] rfl) hK (hD.sub [1, 2, 3] (by decide) rfl) hN⟩ rfl rfl hl.1 rfl (lv_room (Nat.le_of_ble_eq_true rfl)) dX6_append_33 ⟨Nat.le_refl _, Nat.le_refl _⟩) hP hD hS hA [1, 2, 3] [0] [0, 1, 2, 3] rfl rfl (by decide) (fun _ => rfl) (fun u_13 H locs hP hD hS hz => ?_)
        obtain rfl := Option.some.inj h
        exact z_iret hx hb hr hlk (fun _ _ => 0) hP hD hS dX6_append_36
      · have h := it_n b_8 h
        refine lv_bipush (v := Int32.ofInt (-3)) hx hb dX6_append_25 (by decide +kernel) ?_
        obtain rfl := Option.some.inj h
        exact z_iret hx hb hr hlk (fun _ _ => 0) hP hD hS dX6_append_27
    · have h := it_p b_3 h
      refine lv_bipush (v := Int32.ofInt (-2)) hx hb dX6_append_12 (by decide +kernel) ?_
      obtain rfl := Option.some.inj h
      exact z_iret hx hb hr hlk (fun _ _ => 0) hP hD hS dX6_append_14
