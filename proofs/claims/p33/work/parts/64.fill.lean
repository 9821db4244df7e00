/-! answers that are floats -/
abbrev zQf (D : va_G) (ret : UInt32) (w1 : zU → va_W) (A : Nat → Prop) : Array Value → State → Outcome → State → Prop := va_Qf (S := zU) (fun (r : UInt32) (_ : zU) => r = ret) (fun u t => va_P D vwCl (w1 u) t.heap ∧ va_D A (w1 u)) A
abbrev zMf (l : Launch) (y : MethodName) (b : ByteArray) (n : Nat) (rm : Room) (D : va_G) (tys : zTy) (av : List Value) (ws0 : va_W) (sz : Nat) (ret : UInt32) (w1 : zU → va_W) (mc ms : Nat) : Prop := Met l y (zW y b n (some .float)) rm (va_Pc av (zP D tys ws0 sz)) (zQf D ret w1 (va_A ws0 sz)) mc ms (va_A ws0 sz)
section ZFL
variable {p : Program} {l : Launch} {e : Env} {R : Room} {s : State} {m : MethodId} {args : Array Value} {below : List Frame} {meth : Method} {c : Code} {H : Heap} {locs : List Loc} {cells slots : Nat} {Q : State → Prop}
variable {cc : ByteArray} {pc : Nat} {ls : Array Slot} {rest : List Value} {D : va_G} {A : Nat → Prop} {a : Nat} {tys : zTy} {ws : va_W} {H0 : Heap}
theorem z_fret (hx : p.tables.exec = Jvm.exec) (hb : c.code = cc) (hr : meth.sig.returnType = some .float) (hlocks : meth.locks = false) {ret : UInt32} {w1 : zU → va_W} (u : zU) (hP : va_P D vwCl (w1 u) H) (hD : va_D A (w1 u)) (hS : va_S A s.heap H locs) (hdg : decode cc pc = .ok (.freturn, 1)) : W p l e R s m args below meth c H locs cells slots (MQ below (zQf D ret w1 A) args s cells slots A) (F0 m pc ls [.float ret]) :=
  W.fret (v := ret) hx hb hr (fun t ht _ => ⟨⟨_, u, rfl, rfl, by show va_P D vwCl (w1 u) t.heap ∧ va_D A (w1 u); rw [ht]; exact ⟨hP, hD⟩⟩, hS.F ht⟩) hS.2.2 hdg hlocks
end ZFL
def f_Rt_fill_L4 (T : TV) (K : KV) (k : Int → Int → Option (UInt32)) : Nat → Int → Int → Option (UInt32)
  | 0, _, _ => none
  | n + 1, x1, x2 =>
  gd (ck x2) <| gd (ck (kCnt K)) <| if x2 < (kCnt K) then (bd1 (f_Rt_nodeAt K x2) <| fun r_4 => bd1 (f_Tr_sizeOf T r_4) <| fun r_7 => f_Rt_fill_L4 T K k n ((x1 + r_7)) ((x2 + 1))) else (k (x1) (x2))
def f_Rt_fill (T : TV) (K : KV) : Option (UInt32) :=
  f_Rt_fill_L4 (T) (K) (fun x1_10 x2_11 => gd (ck ((kCnt K) * (tCap T))) <| if 0 < ((kCnt K) * (tCap T)) then (gd ((FP.fdiv (FP.i2f (Int32.ofInt x1_10)) (FP.i2f (Int32.ofInt ((kCnt K) * (tCap T))))) &&& (0x7fffffff : UInt32) ≤ (0x7f800000 : UInt32)) <| some ((FP.fdiv (FP.i2f (Int32.ofInt x1_10)) (FP.i2f (Int32.ofInt ((kCnt K) * (tCap T))))))) else (some (FP.fconst0))) FU (0) (0)
abbrev rm_Rt_fill : Room := ({ frames := 2, cells := 0, slots := 0, locals := 42 } : Room)

set_option maxHeartbeats 4000000 in
set_option maxRecDepth 100000 in
theorem w_Rt_fill_L4 {p : Program} {l : Launch} {e : Env} {s : State} {m : MethodId} {args : Array Value} {below : List Frame} {meth : Method} {c : Code} {A : Nat → Prop} (D : va_G) (cI cZ cT : ClassId) (h_R : Nat) (h_T : Nat) (hc_R : Nat) (hp_R : Nat) (h_K : Nat) (hx_R : Nat) (hh_R : Nat) (hs_R : Nat) (q_T : Nat → Nat) (q_K : Nat → Nat) (c_hasSnapshot : Int) (T : TV) (K : KV) (res : UInt32) (k : Int → Int → Option (UInt32)) (hF : zF p m c cX6_fill 3 s args yX6_fill.cls meth (some .float) yX6_fill.name A D (zt cI cZ cT))
    (hk : ∀ (x1 : Int) (x2 : Int) (H : Heap) (locs : List Loc) (ls : Array Slot), k x1 x2 = some res → va_P D vwCl ((zRt h_R h_T hc_R hp_R h_K hx_R hh_R hs_R c_hasSnapshot) ++ (zTr cI h_T q_T T) ++ (zWk cI h_K q_K K)) H → va_D A ((zRt h_R h_T hc_R hp_R h_K hx_R hh_R hs_R c_hasSnapshot) ++ (zTr cI h_T q_T T) ++ (zWk cI h_K q_K K)) → va_S A s.heap H locs → lv_has ls 3 [(0, .ref h_R), (1, vI x1)] → W p l e rm_Rt_fill s m args below meth c H locs 0 0 (MQ below (zQf D (res) (fun u => (zRt h_R h_T hc_R hp_R h_K hx_R hh_R hs_R c_hasSnapshot) ++ (zTr cI h_T q_T T) ++ (zWk cI h_K q_K K)) A) args s 0 0 A) (F0 m 36 ls [])) :
    ∀ (n : Nat) (x1 : Int) (x2 : Int) (H : Heap) (locs : List Loc) (ls : Array Slot), f_Rt_fill_L4 T K k n x1 x2 = some res → va_P D vwCl ((zRt h_R h_T hc_R hp_R h_K hx_R hh_R hs_R c_hasSnapshot) ++ (zTr cI h_T q_T T) ++ (zWk cI h_K q_K K)) H → va_D A ((zRt h_R h_T hc_R hp_R h_K hx_R hh_R hs_R c_hasSnapshot) ++ (zTr cI h_T q_T T) ++ (zWk cI h_K q_K K)) → va_S A s.heap H locs → lv_has ls 3 [(0, .ref h_R), (1, vI x1), (2, vI x2)] → W p l e rm_Rt_fill s m args below meth c H locs 0 0 (MQ below (zQf D (res) (fun u => (zRt h_R h_T hc_R hp_R h_K hx_R hh_R hs_R c_hasSnapshot) ++ (zTr cI h_T q_T T) ++ (zWk cI h_K q_K K)) A) args s 0 0 A) (F0 m 4 ls []) := by
  have hx := hF.1.1
  have hb := hF.1.2.1
  have hml := hF.1.2.2.1
  have hown : s.vm.findClass "RectangleTree" = some m.cls := hF.1.2.2.2.1
  have hts := hF.1.2.2.2.2
  have hr := hF.2.1
  have hlk := hF.2.2.1
  have hK := hF.2.2.2.2.1
  have hN := hF.2.2.2.2.2.1
  have hA := hF.2.2.2.2.2.2
  intro n
  induction n with
  | zero => intro x1 x2  H locs ls h; cases h
  | succ n ih =>
    intro x1 x2  H locs ls h  hP hD hS hl
    rw [f_Rt_fill_L4] at h
    refine lv_iload_n hx hb dX6_fill_4 rfl (lv_at hl 2 rfl) ?_
    refine lv_aload_n hx hb dX6_fill_5 rfl (lv_at hl 0 rfl) ?_
    refine va_get (D := D) (ci := 6) (v := .ref h_K) (C := RX6) (T := TX6) (N := 8) hx hb hts zin6 hown hK hP 0 rfl rfl 3 (by decide) (hts _ wm243) (fun _ h9 => h9) rfl dX6_fill_6 ?_
    refine va_get (D := D) (ci := 5) (v := vI (kCnt K)) (C := RX5) (T := TX5) (N := 3) hx hb hts zin5 hown hK hP 7 rfl rfl 1 (by decide) (hts _ wm122) (fun _ h9 => h9) rfl dX6_fill_9 ?_
    obtain ⟨g_1, h⟩ := gd_e h
    obtain ⟨g_2, h⟩ := gd_e h
    refine z_icmp_ge (tgt := 36) hx hb g_1 g_2 dX6_fill_12 (by decide) (fun b_3 => ?_) (fun b_3 => ?_)
    · have h := it_n b_3 h
      exact hk (x1) (x2) H locs ls h hP hD hS (lv_sub hl [0, 1] rfl)
    · have h := it_p b_3 h
      refine lv_iload_n hx hb dX6_fill_15 rfl (lv_at hl 1 rfl) ?_
      refine lv_aload_n hx hb dX6_fill_16 rfl (lv_at hl 0 rfl) ?_
      refine va_get (D := D) (ci := 6) (v := .ref h_T) (C := RX6) (T := TX6) (N := 8) hx hb hts zin6 hown hK hP 0 rfl rfl 0 (by decide) (hts _ wm240) (fun _ h9 => h9) rfl dX6_fill_17 ?_
      refine lv_aload_n hx hb dX6_fill_20 rfl (lv_at hl 0 rfl) ?_
      refine lv_iload_n hx hb dX6_fill_21 rfl (lv_at hl 2 rfl) ?_
      obtain ⟨r_4, e_5, h⟩ := bd1_e h
      refine z_goi (ws' := []) (ret := r_4) (wc := (zRt (h_R) (h_T) (hc_R) (hp_R) (h_K) (hx_R) (hh_R) (hs_R) (c_hasSnapshot)) ++ (zWk cI (h_K) (q_K) (K))) (wn := fun u_6 => (zRt h_R h_T hc_R hp_R h_K hx_R hh_R hs_R c_hasSnapshot) ++ (zTr cI h_T q_T T) ++ (zWk cI h_K q_K K)) (wr := ([1, 2, 3, 4, 5, 6].filterMap (fun i => ((zRt h_R h_T hc_R hp_R h_K hx_R hh_R hs_R c_hasSnapshot) ++ (zTr cI h_T q_T T) ++ (zWk cI h_K q_K K))[i]?))) (va_runV (As := [vI x2]) (rest := [.ref h_T, vI x1]) hF.1 (c_Rt_nodeAt l D cI cZ cT h_R h_T hc_R hp_R h_K hx_R hh_R hs_R q_K c_hasSnapshot K x2 H.size (r_4) e_5) (cwV 1 hts (zgV wm295 wm297 wm2 wm32 wm298) rfl rfl rfl (by decide +kernel) ⟨Nat.le_of_ble_eq_true rfl, Nat.le_of_ble_eq_true rfl⟩) ⟨zP.blind, va_recv hK (z_subP (ws' := (zRt (h_R) (h_T) (hc_R) (hp_R) (h_K) (hx_R) (hh_R) (hs_R) (c_hasSnapshot)) ++ (zWk cI (h_K) (q_K) (K))) hP [0, 7, 8, 9] rfl) (ci := 6) (q0 := 0) rfl rfl, zP.enter (z_subP (ws' := (zRt (h_R) (h_T) (hc_R) (hp_R) (h_K) (hx_R) (hh_R) (hs_R) (c_hasSnapshot)) ++ (zWk cI (h_K) (q_K) (K))) hP [0, 7, 8, 9] rfl) hK (hD.sub [0, 7, 8, 9] (by decide) rfl) hN⟩ rfl rfl hl.1 rfl (lv_room (Nat.le_of_ble_eq_true rfl)) dX6_fill_22 ⟨Nat.le_refl _, Nat.le_refl _⟩) hP hD hS hA [0, 7, 8, 9] [1, 2, 3, 4, 5, 6] [6, 0, 1, 2, 3, 4, 5, 7, 8, 9] rfl rfl (by decide) (fun _ => rfl) (fun u_6 H locs hP hD hS hz => ?_)
      obtain ⟨r_7, e_8, h⟩ := bd1_e h
      refine z_goi (ws' := []) (ret := r_7) (wc := (zTr cI (h_T) (q_T) (T))) (wn := fun u_9 => (zRt h_R h_T hc_R hp_R h_K hx_R hh_R hs_R c_hasSnapshot) ++ (zTr cI h_T q_T T) ++ (zWk cI h_K q_K K)) (wr := ([0, 7, 8, 9].filterMap (fun i => ((zRt h_R h_T hc_R hp_R h_K hx_R hh_R hs_R c_hasSnapshot) ++ (zTr cI h_T q_T T) ++ (zWk cI h_K q_K K))[i]?))) (va_runV (As := [vI r_4]) (rest := [vI x1]) hF.1 (c_Tr_sizeOf l D cI cZ cT h_T q_T T r_4 H.size (r_7) e_8) (cwV 1 hts (zgV wm312 wm231 wm232 wm33 wm233) rfl rfl rfl (by decide +kernel) ⟨Nat.le_of_ble_eq_true rfl, Nat.le_of_ble_eq_true rfl⟩) ⟨zP.blind, va_recv hK (z_subP (ws' := (zTr cI (h_T) (q_T) (T))) hP [1, 2, 3, 4, 5, 6] rfl) (ci := 4) (q0 := 0) rfl rfl, zP.enter (z_subP (ws' := (zTr cI (h_T) (q_T) (T))) hP [1, 2, 3, 4, 5, 6] rfl) hK (hD.sub [1, 2, 3, 4, 5, 6] (by decide) rfl) hN⟩ rfl rfl hl.1 rfl (lv_room (Nat.le_of_ble_eq_true rfl)) dX6_fill_25 ⟨Nat.le_refl _, Nat.le_refl _⟩) hP hD hS hA [1, 2, 3, 4, 5, 6] [0, 7, 8, 9] [0, 4, 5, 6, 7, 8, 9, 1, 2, 3] rfl rfl (by decide) (fun _ => rfl) (fun u_9 H locs hP hD hS hz => ?_)
      refine z_iadd hx hb dX6_fill_28 ?_
      refine lv_istore_n (lv' := [(1, vI (x1 + r_7)), (0, .ref h_R), (2, vI x2)]) hx hb dX6_fill_29 rfl hl (by decide) rfl (fun ls hl => ?_)
      refine lv_iinc (v := Int32.ofInt (x2 + 1)) (lv' := [(2, vI (x2 + 1)), (1, vI (x1 + r_7)), (0, .ref h_R)]) hx hb dX6_fill_30 hl (k := 2) rfl (z_inc _ _) (by decide) rfl (fun ls hl => ?_)
      refine lv_goto (tgt := 4) hx hb dX6_fill_33 (by decide) ?_
      exact ih ((x1 + r_7)) ((x2 + 1)) H locs ls h hP hD hS (lv_sub hl [2, 1, 0] rfl)
set_option maxHeartbeats 4000000 in
set_option maxRecDepth 100000 in
theorem c_Rt_fill (l : Launch) (D : va_G) (cI cZ cT : ClassId) (h_R : Nat) (h_T : Nat) (hc_R : Nat) (hp_R : Nat) (h_K : Nat) (hx_R : Nat) (hh_R : Nat) (hs_R : Nat) (q_T : Nat → Nat) (q_K : Nat → Nat) (c_hasSnapshot : Int) (T : TV) (K : KV) (sz : Nat) (res : UInt32) (h : f_Rt_fill T K = some res) : zMf l yX6_fill cX6_fill 3 rm_Rt_fill D (zt cI cZ cT) [.ref h_R] ((zRt h_R h_T hc_R hp_R h_K hx_R hh_R hs_R c_hasSnapshot) ++ (zTr cI h_T q_T T) ++ (zWk cI h_K q_K K)) sz (res) (fun u => (zRt h_R h_T hc_R hp_R h_K hx_R hh_R hs_R c_hasSnapshot) ++ (zTr cI h_T q_T T) ++ (zWk cI h_K q_K K)) 0 0 := by
  refine z_enth (Qc := zQf D (res) (fun u => (zRt h_R h_T hc_R hp_R h_K hx_R hh_R hs_R c_hasSnapshot) ++ (zTr cI h_T q_T T) ++ (zWk cI h_K q_K K))) (by decide) (Nat.le_of_ble_eq_true rfl) (fun p e s m args below meth c A ls H locs hF hP hD hS hl => ?_)
  have hx := hF.1.1
  have hb := hF.1.2.1
  have hml := hF.1.2.2.1
  have hown : s.vm.findClass "RectangleTree" = some m.cls := hF.1.2.2.2.1
  have hts := hF.1.2.2.2.2
  have hr := hF.2.1
  have hlk := hF.2.2.1
  have hK := hF.2.2.2.2.1
  have hN := hF.2.2.2.2.2.1
  have hA := hF.2.2.2.2.2.2
  unfold f_Rt_fill at h
  refine lv_iconst (v := Int32.ofInt 0) hx hb dX6_fill_0 rfl ?_
  refine lv_istore_n (lv' := [(1, vI 0), (0, .ref h_R)]) hx hb dX6_fill_1 rfl hl (by decide) rfl (fun ls hl => ?_)
  refine lv_iconst (v := Int32.ofInt 0) hx hb dX6_fill_2 rfl ?_
  refine lv_istore_n (lv' := [(2, vI 0), (1, vI 0), (0, .ref h_R)]) hx hb dX6_fill_3 rfl hl (by decide) rfl (fun ls hl => ?_)
  refine w_Rt_fill_L4 D cI cZ cT (h_R) (h_T) (hc_R) (hp_R) (h_K) (hx_R) (hh_R) (hs_R) (q_T) (q_K) (c_hasSnapshot) (T) (K) _ _ hF (fun x1_10 x2_11 H locs ls h hP hD hS hl => ?_) _ (0) (0) _ _ _ h hP hD hS (lv_sub hl [2, 1, 0] rfl)
  refine lv_aload_n hx hb dX6_fill_36 rfl (lv_at hl 0 rfl) ?_
  refine va_get (D := D) (ci := 6) (v := .ref h_K) (C := RX6) (T := TX6) (N := 8) hx hb hts zin6 hown hK hP 0 rfl rfl 3 (by decide) (hts _ wm243) (fun _ h9 => h9) rfl dX6_fill_37 ?_
  refine va_get (D := D) (ci := 5) (v := vI (kCnt K)) (C := RX5) (T := TX5) (N := 3) hx hb hts zin5 hown hK hP 7 rfl rfl 1 (by decide) (hts _ wm122) (fun _ h9 => h9) rfl dX6_fill_40 ?_
  refine lv_aload_n hx hb dX6_fill_43 rfl (lv_at hl 0 rfl) ?_
  refine va_get (D := D) (ci := 6) (v := .ref h_T) (C := RX6) (T := TX6) (N := 8) hx hb hts zin6 hown hK hP 0 rfl rfl 0 (by decide) (hts _ wm240) (fun _ h9 => h9) rfl dX6_fill_44 ?_
  refine va_get (D := D) (ci := 4) (v := vI (tCap T)) (C := RX4) (T := TX4) (N := 10) hx hb hts zin4 hown hK hP 1 rfl rfl 6 (by decide) (hts _ wm74) (fun _ h9 => h9) rfl dX6_fill_47 ?_
  refine z_imul hx hb dX6_fill_50 ?_
  refine lv_istore_n (lv' := [(2, vI ((kCnt K) * (tCap T))), (0, .ref h_R), (1, vI x1_10)]) hx hb dX6_fill_51 rfl hl (by decide) rfl (fun ls hl => ?_)
  refine lv_iload_n hx hb dX6_fill_52 rfl (lv_at hl 0 rfl) ?_
  obtain ⟨g_12, h⟩ := gd_e h
  refine z_if_le (tgt := 64) hx hb g_12 dX6_fill_53 (by decide) (fun b_13 => ?_) (fun b_13 => ?_)
  · have h := it_n b_13 h
    refine lv_fconst0 hx hb dX6_fill_64 ?_
    obtain rfl := Option.some.inj h
    exact z_fret hx hb hr hlk (fun _ _ => 0) hP hD hS dX6_fill_65
  · have h := it_p b_13 h
    refine lv_iload_n hx hb dX6_fill_56 rfl (lv_at hl 2 rfl) ?_
    refine lv_i2f hx hb dX6_fill_57 ?_
    refine lv_iload_n hx hb dX6_fill_58 rfl (lv_at hl 0 rfl) ?_
    refine lv_i2f hx hb dX6_fill_59 ?_
    obtain ⟨g_14, h⟩ := gd_e h
    refine lv_fdiv hx hb dX6_fill_60 g_14 ?_
    refine lv_goto (tgt := 65) hx hb dX6_fill_61 (by decide) ?_
    obtain rfl := Option.some.inj h
    exact z_fret hx hb hr hlk (fun _ _ => 0) hP hD hS dX6_fill_65
