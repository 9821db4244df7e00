def f_J_fill_53178_L5 (n_A0 : Nat) (x1 : Int) (x3 : Int) (k : Int → (Nat → Int) → Option ((Nat → Int))) : Nat → Int → (Nat → Int) → Option ((Nat → Int))
  | 0, _, _ => none
  | n + 1, x2, fA0 =>
  gd (ck x2) <| gd (ck x3) <| if x2 < x3 then (gd (0 ≤ x2 ∧ x2 < ((n_A0 : Nat) : Int)) <| f_J_fill_53178_L5 n_A0 x1 x3 k n ((x2 + 1)) ((up fA0 ((x2).toNat) x1))) else (k (x2) (fA0))
def f_J_fill_53178 (n_A0 : Nat) (fA0 : Nat → Int) (x1 : Int) : Option ((Nat → Int)) :=
  f_J_fill_53178_L5 (n_A0) (x1) (((n_A0 : Nat) : Int)) (fun x2_5 fA0_6 => some (fA0_6)) FU (0) (fA0)
abbrev rm_J_fill_53178 : Room := ({ frames := 0, cells := 0, slots := 0, locals := 0 } : Room)

set_option maxHeartbeats 4000000 in
set_option maxRecDepth 100000 in
theorem w_J_fill_53178_L5 {p : Program} {l : Launch} {e : Env} {s : State} {m : MethodId} {args : Array Value} {below : List Frame} {meth : Method} {c : Code} {A : Nat → Prop} (D : va_G) (cI cZ cT : ClassId) (h_A0 : Nat) (n_A0 : Nat) (x1 : Int) (x3 : Int) (res : (Nat → Int)) (k : Int → (Nat → Int) → Option ((Nat → Int))) (hF : zF p m c cJ7_fill_53178 4 s args yJ7_fill_53178.cls meth none yJ7_fill_53178.name A D (zt cI cZ cT))
    (hk : ∀ (x2 : Int) (fA0 : Nat → Int) (H : Heap) (locs : List Loc) (ls : Array Slot), k x2 fA0 = some res → va_P D vwCl ((zAr cI h_A0 n_A0 fA0)) H → va_D A ((zAr cI h_A0 n_A0 fA0)) → va_S A s.heap H locs → lv_has ls 4 [] → W p l e rm_J_fill_53178 s m args below meth c H locs 0 0 (MQ below (zQv D (fun u => (zAr cI h_A0 n_A0 (res))) A) args s 0 0 A) (F0 m 20 ls [])) :
    ∀ (n : Nat) (x2 : Int) (fA0 : Nat → Int) (H : Heap) (locs : List Loc) (ls : Array Slot), f_J_fill_53178_L5 n_A0 x1 x3 k n x2 fA0 = some res → va_P D vwCl ((zAr cI h_A0 n_A0 fA0)) H → va_D A ((zAr cI h_A0 n_A0 fA0)) → va_S A s.heap H locs → lv_has ls 4 [(0, .ref h_A0), (1, vI x1), (2, vI x2), (3, vI x3)] → W p l e rm_J_fill_53178 s m args below meth c H locs 0 0 (MQ below (zQv D (fun u => (zAr cI h_A0 n_A0 (res))) A) args s 0 0 A) (F0 m 5 ls []) := by
  have hx := hF.1.1
  have hb := hF.1.2.1
  have hml := hF.1.2.2.1
  have hown : s.vm.findClass "java/util/Arrays" = some m.cls := hF.1.2.2.2.1
  have hts := hF.1.2.2.2.2
  have hr := hF.2.1
  have hlk := hF.2.2.1
  have hK := hF.2.2.2.2.1
  have hN := hF.2.2.2.2.2.1
  have hA := hF.2.2.2.2.2.2
  intro n
  induction n with
  | zero => intro x2 fA0  H locs ls h; cases h
  | succ n ih =>
    intro x2 fA0  H locs ls h  hP hD hS hl
    rw [f_J_fill_53178_L5] at h
    refine lv_iload_n hx hb dJ7_fill_53178_5 rfl (lv_at hl 2 rfl) ?_
    refine lv_iload_n hx hb dJ7_fill_53178_6 rfl (lv_at hl 3 rfl) ?_
    obtain ⟨g_1, h⟩ := gd_e h
    obtain ⟨g_2, h⟩ := gd_e h
    refine z_icmp_ge (tgt := 20) hx hb g_1 g_2 dJ7_fill_53178_7 (by decide) (fun b_3 => ?_) (fun b_3 => ?_)
    · have h := it_n b_3 h
      exact hk (x2) (fA0) H locs ls h hP hD hS (lv_sub hl [] rfl)
    · have h := it_p b_3 h
      refine lv_aload_n hx hb dJ7_fill_53178_10 rfl (lv_at hl 0 rfl) ?_
      refine lv_iload_n hx hb dJ7_fill_53178_11 rfl (lv_at hl 2 rfl) ?_
      refine lv_iload_n hx hb dJ7_fill_53178_12 rfl (lv_at hl 1 rfl) ?_
      obtain ⟨g_4, h⟩ := gd_e h
      refine z_iast (n := n_A0) (f := fA0) (i := x2) (x := x1) (ws' := (zAr cI h_A0 n_A0 (up fA0 ((x2).toNat) x1))) hx hb hK hP hD hS 0 rfl rfl g_4 g_1.2 dJ7_fill_53178_13 rfl (fun H locs hP hD hS => ?_)
      refine lv_iinc (v := Int32.ofInt (x2 + 1)) (lv' := [(2, vI (x2 + 1)), (0, .ref h_A0), (1, vI x1), (3, vI x3)]) hx hb dJ7_fill_53178_14 hl (k := 2) rfl (z_inc _ _) (by decide) rfl (fun ls hl => ?_)
      refine lv_goto (tgt := 5) hx hb dJ7_fill_53178_17 (by decide) ?_
      exact ih ((x2 + 1)) ((up fA0 ((x2).toNat) x1)) H locs ls h hP hD hS (lv_sub hl [1, 2, 0, 3] rfl)
set_option maxHeartbeats 4000000 in
set_option maxRecDepth 100000 in
theorem c_J_fill_53178 (l : Launch) (D : va_G) (cI cZ cT : ClassId) (h_A0 : Nat) (n_A0 : Nat) (fA0 : Nat → Int) (x1 : Int) (sz : Nat) (res : (Nat → Int)) (h : f_J_fill_53178 n_A0 fA0 x1 = some res) : zMv l yJ7_fill_53178 cJ7_fill_53178 4 rm_J_fill_53178 D (zt cI cZ cT) [.ref h_A0, vI x1] ((zAr cI h_A0 n_A0 fA0)) sz (fun u => (zAr cI h_A0 n_A0 (res))) 0 0 := by
  refine z_enth (Qc := zQv D (fun u => (zAr cI h_A0 n_A0 (res)))) (by decide) (Nat.le_of_ble_eq_true rfl) (fun p e s m args below meth c A ls H locs hF hP hD hS hl => ?_)
  have hx := hF.1.1
  have hb := hF.1.2.1
  have hml := hF.1.2.2.1
  have hown : s.vm.findClass "java/util/Arrays" = some m.cls := hF.1.2.2.2.1
  have hts := hF.1.2.2.2.2
  have hr := hF.2.1
  have hlk := hF.2.2.1
  have hK := hF.2.2.2.2.1
  have hN := hF.2.2.2.2.2.1
  have hA := hF.2.2.2.2.2.2
  unfold f_J_fill_53178 at h
  refine lv_iconst (v := Int32.ofInt 0) hx hb dJ7_fill_53178_0 rfl ?_
  refine lv_istore_n (lv' := [(2, vI 0), (0, .ref h_A0), (1, vI x1)]) hx hb dJ7_fill_53178_1 rfl hl (by decide) rfl (fun ls hl => ?_)
  refine lv_aload_n hx hb dJ7_fill_53178_2 rfl (lv_at hl 1 rfl) ?_
  refine z_alen (n := n_A0) (f := fA0) hx hb hK hP 0 rfl rfl dJ7_fill_53178_3 ?_
  refine lv_istore_n (lv' := [(3, vI ((n_A0 : Nat) : Int)), (2, vI 0), (0, .ref h_A0), (1, vI x1)]) hx hb dJ7_fill_53178_4 rfl hl (by decide) rfl (fun ls hl => ?_)
  refine w_J_fill_53178_L5 D cI cZ cT (h_A0) (n_A0) (x1) (((n_A0 : Nat) : Int)) _ _ hF (fun x2_5 fA0_6 H locs ls h hP hD hS hl => ?_) _ (0) (fA0) _ _ _ h hP hD hS (lv_sub hl [2, 3, 1, 0] rfl)
  obtain rfl := Option.some.inj h
  exact z_vret hx hb hr hlk (fun _ _ => 0) hP hD hS dJ7_fill_53178_20
abbrev rm_Tr_init : Room := ({ frames := 1, cells := 5, slots := 2041, locals := 23 } : Room)
set_option maxHeartbeats 4000000 in
set_option maxRecDepth 100000 in
theorem c_Tr_init (l : Launch) (D : va_G) (cI cZ cT : ClassId) (h : Nat) (lv1 : Nat → Int) (lv2 : Nat → Int) (ho1 : Nat → Int) (sz : Nat) (h1 : f_J_fill_53178 157 (fun _ => 0) (-2) = some lv1) (h2 : f_Rt_put 157 lv1 24 0 = some lv2) (h3 : f_Rt_put 157 (fun _ => 0) 24 (-1) = some ho1) : zMv l yX4_init cX4_init 1 rm_Tr_init D (zt cI cZ cT) [.ref h] ([(h, .inr (4, [.null, .null, .null, .null, .null, .int 0, .int 0, .int 0, .int 0, .int 0]))]) sz (fun u => (zTr cI h (u 0) (lv2, ho1, (fun _ => 0), (fun _ => 0), (fun _ => 0), 157, 24, 4, 1, 0, 0))) 5 2041 := by
  refine z_enth (Qc := zQv D (fun u => (zTr cI h (u 0) (lv2, ho1, (fun _ => 0), (fun _ => 0), (fun _ => 0), 157, 24, 4, 1, 0, 0)))) (by decide) (Nat.le_of_ble_eq_true rfl) (fun p e s m args below meth c A ls H locs hF hP hD hS hl => ?_)
  have hx := hF.1.1
  have hb := hF.1.2.1
  have hml := hF.1.2.2.1
  have hown : s.vm.findClass "RectangleTree$Tree" = some m.cls := hF.1.2.2.2.1
  have hts := hF.1.2.2.2.2
  have hr := hF.2.1
  have hlk := hF.2.2.1
  have hin : meth.name = "<init>" := hF.2.2.2.1
  have hK := hF.2.2.2.2.1
  have hN := hF.2.2.2.2.2.1
  have hA := hF.2.2.2.2.2.2
  refine lv_aload_n hx hb dX4_init_0 rfl (lv_at hl 0 rfl) ?_
  refine W.objInit hx hb hown (hts (.methodLink "RectangleTree$Tree" 3 objectInit) wm55) (hts (.instanceMethod objectInit) wm48) (hts _ wm49) rfl (by rw [hml]; exact hl.1) rfl dX4_init_1 (Nat.le_of_ble_eq_true rfl) (Nat.le_of_ble_eq_true rfl) ?_
  refine W.eq (g2 := F0 m 4 ls []) rfl ?_
  refine lv_aload_n hx hb dX4_init_4 rfl (lv_at hl 0 rfl) ?_
  refine lv_sipush (v := Int32.ofInt 157) hx hb dX4_init_5 (by decide +kernel) ?_
  refine z_newi (cI := cI) (N := 157) hx hb (hts _ wm105) hK hP hD hS hA rfl (by decide) (by decide) rfl (show 0 + 1 ≤ 5 from Nat.le_of_ble_eq_true rfl) (show 0 + 157 ≤ 2041 from Nat.le_of_ble_eq_true rfl) dX4_init_8 (fun n_1 H hP hD hS => ?_)
  replace hP : va_P D vwCl ([(h, .inr (4, [.null, .null, .null, .null, .null, .int 0, .int 0, .int 0, .int 0, .int 0]))] ++ [(n_1, .inl (cI, 157, .inl (ia (fun _ => 0))))]) H := hP
  replace hD : va_D A ([(h, .inr (4, [.null, .null, .null, .null, .null, .int 0, .int 0, .int 0, .int 0, .int 0]))] ++ [(n_1, .inl (cI, 157, .inl (ia (fun _ => 0))))]) := hD
  refine W.widen (k := 1) (n := 157) (Nat.le_of_ble_eq_true rfl) (Nat.le_of_ble_eq_true rfl) ?_
  refine va_putF (D := D) (ci := 4) (v := .ref n_1) (ty := .array .int) (C := RX4) (T := TX4) (N := 10) hx hb hts zin4 tyX4 tyX4_ok nmX4 hown hK hP hD hS 0 rfl rfl 0 (by decide) (hts _ wm62) (fun _ h9 => h9) rfl hin rfl (by decide +kernel) rfl rfl (Nat.le_of_ble_eq_true rfl) dX4_init_10 (fun H locs hP hD hS => ?_)
  replace hP : va_P D vwCl ([(h, .inr (4, [.ref n_1, .null, .null, .null, .null, .int 0, .int 0, .int 0, .int 0, .int 0]))] ++ [(n_1, .inl (cI, 157, .inl (ia (fun _ => 0))))]) H := hP
  replace hD : va_D A ([(h, .inr (4, [.ref n_1, .null, .null, .null, .null, .int 0, .int 0, .int 0, .int 0, .int 0]))] ++ [(n_1, .inl (cI, 157, .inl (ia (fun _ => 0))))]) := hD
  refine lv_aload_n hx hb dX4_init_13 rfl (lv_at hl 0 rfl) ?_
  refine lv_sipush (v := Int32.ofInt 157) hx hb dX4_init_14 (by decide +kernel) ?_
  refine z_newi (cI := cI) (N := 157) hx hb (hts _ wm105) hK hP hD hS hA rfl (by decide) (by decide) rfl (show 1 + 1 ≤ 5 from Nat.le_of_ble_eq_true rfl) (show 157 + 157 ≤ 2041 from Nat.le_of_ble_eq_true rfl) dX4_init_17 (fun n_2 H hP hD hS => ?_)
  replace hP : va_P D vwCl ([(h, .inr (4, [.ref n_1, .null, .null, .null, .null, .int 0, .int 0, .int 0, .int 0, .int 0]))] ++ [(n_1, .inl (cI, 157, .inl (ia (fun _ => 0))))] ++ [(n_2, .inl (cI, 157, .inl (ia (fun _ => 0))))]) H := hP
  replace hD : va_D A ([(h, .inr (4, [.ref n_1, .null, .null, .null, .null, .int 0, .int 0, .int 0, .int 0, .int 0]))] ++ [(n_1, .inl (cI, 157, .inl (ia (fun _ => 0))))] ++ [(n_2, .inl (cI, 157, .inl (ia (fun _ => 0))))]) := hD
  refine W.widen (k := 2) (n := 314) (Nat.le_of_ble_eq_true rfl) (Nat.le_of_ble_eq_true rfl) ?_
  refine va_putF (D := D) (ci := 4) (v := .ref n_2) (ty := .array .int) (C := RX4) (T := TX4) (N := 10) hx hb hts zin4 tyX4 tyX4_ok nmX4 hown hK hP hD hS 0 rfl rfl 1 (by decide) (hts _ wm63) (fun _ h9 => h9) rfl hin rfl (by decide +kernel) rfl rfl (Nat.le_of_ble_eq_true rfl) dX4_init_19 (fun H locs hP hD hS => ?_)
  replace hP : va_P D vwCl ([(h, .inr (4, [.ref n_1, .ref n_2, .null, .null, .null, .int 0, .int 0, .int 0, .int 0, .int 0]))] ++ [(n_1, .inl (cI, 157, .inl (ia (fun _ => 0))))] ++ [(n_2, .inl (cI, 157, .inl (ia (fun _ => 0))))]) H := hP
  replace hD : va_D A ([(h, .inr (4, [.ref n_1, .ref n_2, .null, .null, .null, .int 0, .int 0, .int 0, .int 0, .int 0]))] ++ [(n_1, .inl (cI, 157, .inl (ia (fun _ => 0))))] ++ [(n_2, .inl (cI, 157, .inl (ia (fun _ => 0))))]) := hD
  refine lv_aload_n hx hb dX4_init_22 rfl (lv_at hl 0 rfl) ?_
  refine lv_sipush (v := Int32.ofInt 157) hx hb dX4_init_23 (by decide +kernel) ?_
  refine z_newi (cI := cI) (N := 157) hx hb (hts _ wm105) hK hP hD hS hA rfl (by decide) (by decide) rfl (show 2 + 1 ≤ 5 from Nat.le_of_ble_eq_true rfl) (show 314 + 157 ≤ 2041 from Nat.le_of_ble_eq_true rfl) dX4_init_26 (fun n_3 H hP hD hS => ?_)
  replace hP : va_P D vwCl ([(h, .inr (4, [.ref n_1, .ref n_2, .null, .null, .null, .int 0, .int 0, .int 0, .int 0, .int 0]))] ++ [(n_1, .inl (cI, 157, .inl (ia (fun _ => 0))))] ++ [(n_2, .inl (cI, 157, .inl (ia (fun _ => 0))))] ++ [(n_3, .inl (cI, 157, .inl (ia (fun _ => 0))))]) H := hP
  replace hD : va_D A ([(h, .inr (4, [.ref n_1, .ref n_2, .null, .null, .null, .int 0, .int 0, .int 0, .int 0, .int 0]))] ++ [(n_1, .inl (cI, 157, .inl (ia (fun _ => 0))))] ++ [(n_2, .inl (cI, 157, .inl (ia (fun _ => 0))))] ++ [(n_3, .inl (cI, 157, .inl (ia (fun _ => 0))))]) := hD
  refine W.widen (k := 3) (n := 471) (Nat.le_of_ble_eq_true rfl) (Nat.le_of_ble_eq_true rfl) ?_
  refine va_putF (D := D) (ci := 4) (v := .ref n_3) (ty := .array .int) (C := RX4) (T := TX4) (N := 10) hx hb hts zin4 tyX4 tyX4_ok nmX4 hown hK hP hD hS 0 rfl rfl 2 (by decide) (hts _ wm64) (fun _ h9 => h9) rfl hin rfl (by decide +kernel) rfl rfl (Nat.le_of_ble_eq_true rfl) dX4_init_28 (fun H locs hP hD hS => ?_)
  replace hP : va_P D vwCl ([(h, .inr (4, [.ref n_1, .ref n_2, .ref n_3, .null, .null, .int 0, .int 0, .int 0, .int 0, .int 0]))] ++ [(n_1, .inl (cI, 157, .inl (ia (fun _ => 0))))] ++ [(n_2, .inl (cI, 157, .inl (ia (fun _ => 0))))] ++ [(n_3, .inl (cI, 157, .inl (ia (fun _ => 0))))]) H := hP
  replace hD : va_D A ([(h, .inr (4, [.ref n_1, .ref n_2, .ref n_3, .null, .null, .int 0, .int 0, .int 0, .int 0, .int 0]))] ++ [(n_1, .inl (cI, 157, .inl (ia (fun _ => 0))))] ++ [(n_2, .inl (cI, 157, .inl (ia (fun _ => 0))))] ++ [(n_3, .inl (cI, 157, .inl (ia (fun _ => 0))))]) := hD
  refine lv_aload_n hx hb dX4_init_31 rfl (lv_at hl 0 rfl) ?_
  refine lv_sipush (v := Int32.ofInt 628) hx hb dX4_init_32 (by decide +kernel) ?_
  refine z_newi (cI := cI) (N := 628) hx hb (hts _ wm105) hK hP hD hS hA rfl (by decide) (by decide) rfl (show 3 + 1 ≤ 5 from Nat.le_of_ble_eq_true rfl) (show 471 + 628 ≤ 2041 from Nat.le_of_ble_eq_true rfl) dX4_init_35 (fun n_4 H hP hD hS => ?_)
  replace hP : va_P D vwCl ([(h, .inr (4, [.ref n_1, .ref n_2, .ref n_3, .null, .null, .int 0, .int 0, .int 0, .int 0, .int 0]))] ++ [(n_1, .inl (cI, 157, .inl (ia (fun _ => 0))))] ++ [(n_2, .inl (cI, 157, .inl (ia (fun _ => 0))))] ++ [(n_3, .inl (cI, 157, .inl (ia (fun _ => 0))))] ++ [(n_4, .inl (cI, 628, .inl (ia (fun _ => 0))))]) H := hP
  replace hD : va_D A ([(h, .inr (4, [.ref n_1, .ref n_2, .ref n_3, .null, .null, .int 0, .int 0, .int 0, .int 0, .int 0]))] ++ [(n_1, .inl (cI, 157, .inl (ia (fun _ => 0))))] ++ [(n_2, .inl (cI, 157, .inl (ia (fun _ => 0))))] ++ [(n_3, .inl (cI, 157, .inl (ia (fun _ => 0))))] ++ [(n_4, .inl (cI, 628, .inl (ia (fun _ => 0))))]) := hD
  refine W.widen (k := 4) (n := 1099) (Nat.le_of_ble_eq_true rfl) (Nat.le_of_ble_eq_true rfl) ?_
  refine va_putF (D := D) (ci := 4) (v := .ref n_4) (ty := .array .int) (C := RX4) (T := TX4) (N := 10) hx hb hts zin4 tyX4 tyX4_ok nmX4 hown hK hP hD hS 0 rfl rfl 3 (by decide) (hts _ wm65) (fun _ h9 => h9) rfl hin rfl (by decide +kernel) rfl rfl (Nat.le_of_ble_eq_true rfl) dX4_init_37 (fun H locs hP hD hS => ?_)
  replace hP : va_P D vwCl ([(h, .inr (4, [.ref n_1, .ref n_2, .ref n_3, .ref n_4, .null, .int 0, .int 0, .int 0, .int 0, .int 0]))] ++ [(n_1, .inl (cI, 157, .inl (ia (fun _ => 0))))] ++ [(n_2, .inl (cI, 157, .inl (ia (fun _ => 0))))] ++ [(n_3, .inl (cI, 157, .inl (ia (fun _ => 0))))] ++ [(n_4, .inl (cI, 628, .inl (ia (fun _ => 0))))]) H := hP
  replace hD : va_D A ([(h, .inr (4, [.ref n_1, .ref n_2, .ref n_3, .ref n_4, .null, .int 0, .int 0, .int 0, .int 0, .int 0]))] ++ [(n_1, .inl (cI, 157, .inl (ia (fun _ => 0))))] ++ [(n_2, .inl (cI, 157, .inl (ia (fun _ => 0))))] ++ [(n_3, .inl (cI, 157, .inl (ia (fun _ => 0))))] ++ [(n_4, .inl (cI, 628, .inl (ia (fun _ => 0))))]) := hD
  refine lv_aload_n hx hb dX4_init_40 rfl (lv_at hl 0 rfl) ?_
  refine lv_sipush (v := Int32.ofInt 942) hx hb dX4_init_41 (by decide +kernel) ?_
  refine z_newi (cI := cI) (N := 942) hx hb (hts _ wm105) hK hP hD hS hA rfl (by decide) (by decide) rfl (show 4 + 1 ≤ 5 from Nat.le_of_ble_eq_true rfl) (show 1099 + 942 ≤ 2041 from Nat.le_of_ble_eq_true rfl) dX4_init_44 (fun n_5 H hP hD hS => ?_)
  replace hP : va_P D vwCl ([(h, .inr (4, [.ref n_1, .ref n_2, .ref n_3, .ref n_4, .null, .int 0, .int 0, .int 0, .int 0, .int 0]))] ++ [(n_1, .inl (cI, 157, .inl (ia (fun _ => 0))))] ++ [(n_2, .inl (cI, 157, .inl (ia (fun _ => 0))))] ++ [(n_3, .inl (cI, 157, .inl (ia (fun _ => 0))))] ++ [(n_4, .inl (cI, 628, .inl (ia (fun _ => 0))))] ++ [(n_5, .inl (cI, 942, .inl (ia (fun _ => 0))))]) H := hP
  replace hD : va_D A ([(h, .inr (4, [.ref n_1, .ref n_2, .ref n_3, .ref n_4, .null, .int 0, .int 0, .int 0, .int 0, .int 0]))] ++ [(n_1, .inl (cI, 157, .inl (ia (fun _ => 0))))] ++ [(n_2, .inl (cI, 157, .inl (ia (fun _ => 0))))] ++ [(n_3, .inl (cI, 157, .inl (ia (fun _ => 0))))] ++ [(n_4, .inl (cI, 628, .inl (ia (fun _ => 0))))] ++ [(n_5, .inl (cI, 942, .inl (ia (fun _ => 0))))]) := hD
  refine W.widen (k := 5) (n := 2041) (Nat.le_of_ble_eq_true rfl) (Nat.le_of_ble_eq_true rfl) ?_
  refine va_putF (D := D) (ci := 4) (v := .ref n_5) (ty := .array .int) (C := RX4) (T := TX4) (N := 10) hx hb hts zin4 tyX4 tyX4_ok nmX4 hown hK hP hD hS 0 rfl rfl 4 (by decide) (hts _ wm66) (fun _ h9 => h9) rfl hin rfl (by decide +kernel) rfl rfl (Nat.le_of_ble_eq_true rfl) dX4_init_46 (fun H locs hP hD hS => ?_)
  replace hP : va_P D vwCl ([(h, .inr (4, [.ref n_1, .ref n_2, .ref n_3, .ref n_4, .ref n_5, .int 0, .int 0, .int 0, .int 0, .int 0]))] ++ [(n_1, .inl (cI, 157, .inl (ia (fun _ => 0))))] ++ [(n_2, .inl (cI, 157, .inl (ia (fun _ => 0))))] ++ [(n_3, .inl (cI, 157, .inl (ia (fun _ => 0))))] ++ [(n_4, .inl (cI, 628, .inl (ia (fun _ => 0))))] ++ [(n_5, .inl (cI, 942, .inl (ia (fun _ => 0))))]) H := hP
  replace hD : va_D A ([(h, .inr (4, [.ref n_1, .ref n_2, .ref n_3, .ref n_4, .ref n_5, .int 0, .int 0, .int 0, .int 0, .int 0]))] ++ [(n_1, .inl (cI, 157, .inl (ia (fun _ => 0))))] ++ [(n_2, .inl (cI, 157, .inl (ia (fun _ => 0))))] ++ [(n_3, .inl (cI, 157, .inl (ia (fun _ => 0))))] ++ [(n_4, .inl (cI, 628, .inl (ia (fun _ => 0))))] ++ [(n_5, .inl (cI, 942, .inl (ia (fun _ => 0))))]) := hD
  refine lv_aload_n hx hb dX4_init_49 rfl (lv_at hl 0 rfl) ?_
  refine lv_bipush (v := Int32.ofInt 24) hx hb dX4_init_50 (by decide +kernel) ?_
  refine va_put (D := D) (ci := 4) (v := vI 24) (ty := .int) (C := RX4) (T := TX4) (N := 10) hx hb hts zin4 tyX4 tyX4_ok nmX4 hown hK hP hD hS 0 rfl rfl 5 (by decide) (hts _ wm67) (fun _ h9 => h9) rfl (by decide +kernel) rfl rfl (Nat.le_of_ble_eq_true rfl) dX4_init_52 (fun H locs hP hD hS => ?_)
  replace hP : va_P D vwCl ([(h, .inr (4, [.ref n_1, .ref n_2, .ref n_3, .ref n_4, .ref n_5, vI 24, .int 0, .int 0, .int 0, .int 0]))] ++ [(n_1, .inl (cI, 157, .inl (ia (fun _ => 0))))] ++ [(n_2, .inl (cI, 157, .inl (ia (fun _ => 0))))] ++ [(n_3, .inl (cI, 157, .inl (ia (fun _ => 0))))] ++ [(n_4, .inl (cI, 628, .inl (ia (fun _ => 0))))] ++ [(n_5, .inl (cI, 942, .inl (ia (fun _ => 0))))]) H := hP
  replace hD : va_D A ([(h, .inr (4, [.ref n_1, .ref n_2, .ref n_3, .ref n_4, .ref n_5, vI 24, .int 0, .int 0, .int 0, .int 0]))] ++ [(n_1, .inl (cI, 157, .inl (ia (fun _ => 0))))] ++ [(n_2, .inl (cI, 157, .inl (ia (fun _ => 0))))] ++ [(n_3, .inl (cI, 157, .inl (ia (fun _ => 0))))] ++ [(n_4, .inl (cI, 628, .inl (ia (fun _ => 0))))] ++ [(n_5, .inl (cI, 942, .inl (ia (fun _ => 0))))]) := hD
  refine lv_aload_n hx hb dX4_init_55 rfl (lv_at hl 0 rfl) ?_
  refine lv_iconst (v := Int32.ofInt 4) hx hb dX4_init_56 rfl ?_
  refine va_put (D := D) (ci := 4) (v := vI 4) (ty := .int) (C := RX4) (T := TX4) (N := 10) hx hb hts zin4 tyX4 tyX4_ok nmX4 hown hK hP hD hS 0 rfl rfl 6 (by decide) (hts _ wm71) (fun _ h9 => h9) rfl (by decide +kernel) rfl rfl (Nat.le_of_ble_eq_true rfl) dX4_init_57 (fun H locs hP hD hS => ?_)
  replace hP : va_P D vwCl ([(h, .inr (4, [.ref n_1, .ref n_2, .ref n_3, .ref n_4, .ref n_5, vI 24, vI 4, .int 0, .int 0, .int 0]))] ++ [(n_1, .inl (cI, 157, .inl (ia (fun _ => 0))))] ++ [(n_2, .inl (cI, 157, .inl (ia (fun _ => 0))))] ++ [(n_3, .inl (cI, 157, .inl (ia (fun _ => 0))))] ++ [(n_4, .inl (cI, 628, .inl (ia (fun _ => 0))))] ++ [(n_5, .inl (cI, 942, .inl (ia (fun _ => 0))))]) H := hP
  replace hD : va_D A ([(h, .inr (4, [.ref n_1, .ref n_2, .ref n_3, .ref n_4, .ref n_5, vI 24, vI 4, .int 0, .int 0, .int 0]))] ++ [(n_1, .inl (cI, 157, .inl (ia (fun _ => 0))))] ++ [(n_2, .inl (cI, 157, .inl (ia (fun _ => 0))))] ++ [(n_3, .inl (cI, 157, .inl (ia (fun _ => 0))))] ++ [(n_4, .inl (cI, 628, .inl (ia (fun _ => 0))))] ++ [(n_5, .inl (cI, 942, .inl (ia (fun _ => 0))))]) := hD
  refine lv_aload_n hx hb dX4_init_60 rfl (lv_at hl 0 rfl) ?_
  refine lv_iconst (v := Int32.ofInt 1) hx hb dX4_init_61 rfl ?_
  refine va_put (D := D) (ci := 4) (v := vI 1) (ty := .int) (C := RX4) (T := TX4) (N := 10) hx hb hts zin4 tyX4 tyX4_ok nmX4 hown hK hP hD hS 0 rfl rfl 7 (by decide) (hts _ wm75) (fun _ h9 => h9) rfl (by decide +kernel) rfl rfl (Nat.le_of_ble_eq_true rfl) dX4_init_62 (fun H locs hP hD hS => ?_)
  replace hP : va_P D vwCl ([(h, .inr (4, [.ref n_1, .ref n_2, .ref n_3, .ref n_4, .ref n_5, vI 24, vI 4, vI 1, .int 0, .int 0]))] ++ [(n_1, .inl (cI, 157, .inl (ia (fun _ => 0))))] ++ [(n_2, .inl (cI, 157, .inl (ia (fun _ => 0))))] ++ [(n_3, .inl (cI, 157, .inl (ia (fun _ => 0))))] ++ [(n_4, .inl (cI, 628, .inl (ia (fun _ => 0))))] ++ [(n_5, .inl (cI, 942, .inl (ia (fun _ => 0))))]) H := hP
  replace hD : va_D A ([(h, .inr (4, [.ref n_1, .ref n_2, .ref n_3, .ref n_4, .ref n_5, vI 24, vI 4, vI 1, .int 0, .int 0]))] ++ [(n_1, .inl (cI, 157, .inl (ia (fun _ => 0))))] ++ [(n_2, .inl (cI, 157, .inl (ia (fun _ => 0))))] ++ [(n_3, .inl (cI, 157, .inl (ia (fun _ => 0))))] ++ [(n_4, .inl (cI, 628, .inl (ia (fun _ => 0))))] ++ [(n_5, .inl (cI, 942, .inl (ia (fun _ => 0))))]) := hD
  refine lv_aload_n hx hb dX4_init_65 rfl (lv_at hl 0 rfl) ?_
  refine lv_iconst (v := Int32.ofInt 0) hx hb dX4_init_66 rfl ?_
  refine va_put (D := D) (ci := 4) (v := vI 0) (ty := .int) (C := RX4) (T := TX4) (N := 10) hx hb hts zin4 tyX4 tyX4_ok nmX4 hown hK hP hD hS 0 rfl rfl 8 (by decide) (hts _ wm78) (fun _ h9 => h9) rfl (by decide +kernel) rfl rfl (Nat.le_of_ble_eq_true rfl) dX4_init_67 (fun H locs hP hD hS => ?_)
  replace hP : va_P D vwCl ([(h, .inr (4, [.ref n_1, .ref n_2, .ref n_3, .ref n_4, .ref n_5, vI 24, vI 4, vI 1, vI 0, .int 0]))] ++ [(n_1, .inl (cI, 157, .inl (ia (fun _ => 0))))] ++ [(n_2, .inl (cI, 157, .inl (ia (fun _ => 0))))] ++ [(n_3, .inl (cI, 157, .inl (ia (fun _ => 0))))] ++ [(n_4, .inl (cI, 628, .inl (ia (fun _ => 0))))] ++ [(n_5, .inl (cI, 942, .inl (ia (fun _ => 0))))]) H := hP
  replace hD : va_D A ([(h, .inr (4, [.ref n_1, .ref n_2, .ref n_3, .ref n_4, .ref n_5, vI 24, vI 4, vI 1, vI 0, .int 0]))] ++ [(n_1, .inl (cI, 157, .inl (ia (fun _ => 0))))] ++ [(n_2, .inl (cI, 157, .inl (ia (fun _ => 0))))] ++ [(n_3, .inl (cI, 157, .inl (ia (fun _ => 0))))] ++ [(n_4, .inl (cI, 628, .inl (ia (fun _ => 0))))] ++ [(n_5, .inl (cI, 942, .inl (ia (fun _ => 0))))]) := hD
  refine lv_aload_n hx hb dX4_init_70 rfl (lv_at hl 0 rfl) ?_
  refine lv_iconst (v := Int32.ofInt 0) hx hb dX4_init_71 rfl ?_
  refine va_put (D := D) (ci := 4) (v := vI 0) (ty := .int) (C := RX4) (T := TX4) (N := 10) hx hb hts zin4 tyX4 tyX4_ok nmX4 hown hK hP hD hS 0 rfl rfl 9 (by decide) (hts _ wm81) (fun _ h9 => h9) rfl (by decide +kernel) rfl rfl (Nat.le_of_ble_eq_true rfl) dX4_init_72 (fun H locs hP hD hS => ?_)
  replace hP : va_P D vwCl ([(h, .inr (4, [.ref n_1, .ref n_2, .ref n_3, .ref n_4, .ref n_5, vI 24, vI 4, vI 1, vI 0, vI 0]))] ++ [(n_1, .inl (cI, 157, .inl (ia (fun _ => 0))))] ++ [(n_2, .inl (cI, 157, .inl (ia (fun _ => 0))))] ++ [(n_3, .inl (cI, 157, .inl (ia (fun _ => 0))))] ++ [(n_4, .inl (cI, 628, .inl (ia (fun _ => 0))))] ++ [(n_5, .inl (cI, 942, .inl (ia (fun _ => 0))))]) H := hP
  replace hD : va_D A ([(h, .inr (4, [.ref n_1, .ref n_2, .ref n_3, .ref n_4, .ref n_5, vI 24, vI 4, vI 1, vI 0, vI 0]))] ++ [(n_1, .inl (cI, 157, .inl (ia (fun _ => 0))))] ++ [(n_2, .inl (cI, 157, .inl (ia (fun _ => 0))))] ++ [(n_3, .inl (cI, 157, .inl (ia (fun _ => 0))))] ++ [(n_4, .inl (cI, 628, .inl (ia (fun _ => 0))))] ++ [(n_5, .inl (cI, 942, .inl (ia (fun _ => 0))))]) := hD
  refine lv_aload_n hx hb dX4_init_75 rfl (lv_at hl 0 rfl) ?_
  refine va_get (D := D) (ci := 4) (v := .ref n_1) (C := RX4) (T := TX4) (N := 10) hx hb hts zin4 hown hK hP 0 rfl rfl 0 (by decide) (hts _ wm62) (fun _ h9 => h9) rfl dX4_init_76 ?_
  refine lv_bipush (v := Int32.ofInt (-2)) hx hb dX4_init_79 (by decide +kernel) ?_
  refine z_gov (wc := (zAr cI n_1 157 (fun _ => 0))) (wn := fun u_7 => [(h, .inr (4, [.ref n_1, .ref n_2, .ref n_3, .ref n_4, .ref n_5, vI 24, vI 4, vI 1, vI 0, vI 0]))] ++ [(n_1, .inl (cI, 157, .inl (ia lv1)))] ++ [(n_2, .inl (cI, 157, .inl (ia (fun _ => 0))))] ++ [(n_3, .inl (cI, 157, .inl (ia (fun _ => 0))))] ++ [(n_4, .inl (cI, 628, .inl (ia (fun _ => 0))))] ++ [(n_5, .inl (cI, 942, .inl (ia (fun _ => 0))))]) (wr := ([0, 2, 3, 4, 5].filterMap (fun i => ([(h, .inr (4, [.ref n_1, .ref n_2, .ref n_3, .ref n_4, .ref n_5, vI 24, vI 4, vI 1, vI 0, vI 0]))] ++ [(n_1, .inl (cI, 157, .inl (ia (fun _ => 0))))] ++ [(n_2, .inl (cI, 157, .inl (ia (fun _ => 0))))] ++ [(n_3, .inl (cI, 157, .inl (ia (fun _ => 0))))] ++ [(n_4, .inl (cI, 628, .inl (ia (fun _ => 0))))] ++ [(n_5, .inl (cI, 942, .inl (ia (fun _ => 0))))])[i]?))) (va_runS (As := [.ref n_1, vI (-2)]) (rest := []) hF.1 (c_J_fill_53178 l D cI cZ cT n_1 157 (fun _ => 0) (-2) H.size lv1 h1) (va_cwS 2 hts (zgS wm56 wm57 wm34 wm58) rfl rfl rfl (by decide +kernel) ⟨Nat.le_of_ble_eq_true rfl, Nat.le_of_ble_eq_true rfl⟩) ⟨zP.blind, zP.enter (z_subP (ws' := (zAr cI n_1 157 (fun _ => 0))) hP [1] rfl) hK (hD.sub [1] (by decide) rfl) hN⟩ rfl rfl hl.1 rfl (lv_room (Nat.le_of_ble_eq_true rfl)) dX4_init_81 ⟨(show 5 + 0 ≤ 5 from Nat.le_of_ble_eq_true rfl), (show 2041 + 0 ≤ 2041 from Nat.le_of_ble_eq_true rfl)⟩) hP hD hS hA [1] [0, 2, 3, 4, 5] [0, 5, 1, 2, 3, 4] rfl rfl (by decide) (fun _ => rfl) (fun u_7 H locs hP hD hS hz => ?_)
  refine W.widen (k := 5) (n := 2041) (Nat.le_of_ble_eq_true rfl) (Nat.le_of_ble_eq_true rfl) ?_
  refine lv_aload_n hx hb dX4_init_84 rfl (lv_at hl 0 rfl) ?_
  refine va_get (D := D) (ci := 4) (v := .ref n_1) (C := RX4) (T := TX4) (N := 10) hx hb hts zin4 hown hK hP 0 rfl rfl 0 (by decide) (hts _ wm62) (fun _ h9 => h9) rfl dX4_init_85 ?_
  refine lv_aload_n hx hb dX4_init_88 rfl (lv_at hl 0 rfl) ?_
  refine va_get (D := D) (ci := 4) (v := vI 24) (C := RX4) (T := TX4) (N := 10) hx hb hts zin4 hown hK hP 0 rfl rfl 5 (by decide) (hts _ wm67) (fun _ h9 => h9) rfl dX4_init_89 ?_
  refine lv_iconst (v := Int32.ofInt 0) hx hb dX4_init_92 rfl ?_
  refine z_gov (wc := (zAr cI n_1 157 lv1)) (wn := fun u_9 => [(h, .inr (4, [.ref n_1, .ref n_2, .ref n_3, .ref n_4, .ref n_5, vI 24, vI 4, vI 1, vI 0, vI 0]))] ++ [(n_1, .inl (cI, 157, .inl (ia lv2)))] ++ [(n_2, .inl (cI, 157, .inl (ia (fun _ => 0))))] ++ [(n_3, .inl (cI, 157, .inl (ia (fun _ => 0))))] ++ [(n_4, .inl (cI, 628, .inl (ia (fun _ => 0))))] ++ [(n_5, .inl (cI, 942, .inl (ia (fun _ => 0))))]) (wr := ([0, 2, 3, 4, 5].filterMap (fun i => ([(h, .inr (4, [.ref n_1, .ref n_2, .ref n_3, .ref n_4, .ref n_5, vI 24, vI 4, vI 1, vI 0, vI 0]))] ++ [(n_1, .inl (cI, 157, .inl (ia lv1)))] ++ [(n_2, .inl (cI, 157, .inl (ia (fun _ => 0))))] ++ [(n_3, .inl (cI, 157, .inl (ia (fun _ => 0))))] ++ [(n_4, .inl (cI, 628, .inl (ia (fun _ => 0))))] ++ [(n_5, .inl (cI, 942, .inl (ia (fun _ => 0))))])[i]?))) (va_runSN (As := [.ref n_1, vI 24, vI 0]) (rest := []) hF.1 (c_Rt_put l D cI cZ cT n_1 157 lv1 24 0 H.size lv2 h2) ⟨va_cnB 3 hts (zW_good wm61) rfl rfl rfl (hN.at 0 rfl) (hts _ wm32) (by decide +kernel) ⟨Nat.le_of_ble_eq_true rfl, Nat.le_of_ble_eq_true rfl⟩, hts _ wm60, trivial⟩ ⟨zP.blind, zP.enter (z_subP (ws' := (zAr cI n_1 157 lv1)) hP [1] rfl) hK (hD.sub [1] (by decide) rfl) hN⟩ rfl rfl hl.1 rfl (lv_room (Nat.le_of_ble_eq_true rfl)) dX4_init_93 ⟨(show 5 + 0 ≤ 5 from Nat.le_of_ble_eq_true rfl), (show 2041 + 0 ≤ 2041 from Nat.le_of_ble_eq_true rfl)⟩) hP hD hS hA [1] [0, 2, 3, 4, 5] [0, 5, 1, 2, 3, 4] rfl rfl (by decide) (fun _ => rfl) (fun u_9 H locs hP hD hS hz => ?_)
  refine W.widen (k := 5) (n := 2041) (Nat.le_of_ble_eq_true rfl) (Nat.le_of_ble_eq_true rfl) ?_
  refine lv_aload_n hx hb dX4_init_96 rfl (lv_at hl 0 rfl) ?_
  refine va_get (D := D) (ci := 4) (v := .ref n_2) (C := RX4) (T := TX4) (N := 10) hx hb hts zin4 hown hK hP 0 rfl rfl 1 (by decide) (hts _ wm63) (fun _ h9 => h9) rfl dX4_init_97 ?_
  refine lv_aload_n hx hb dX4_init_100 rfl (lv_at hl 0 rfl) ?_
  refine va_get (D := D) (ci := 4) (v := vI 24) (C := RX4) (T := TX4) (N := 10) hx hb hts zin4 hown hK hP 0 rfl rfl 5 (by decide) (hts _ wm67) (fun _ h9 => h9) rfl dX4_init_101 ?_
  refine lv_iconst (v := Int32.ofInt (-1)) hx hb dX4_init_104 rfl ?_
  refine z_gov (wc := (zAr cI n_2 157 (fun _ => 0))) (wn := fun u_11 => [(h, .inr (4, [.ref n_1, .ref n_2, .ref n_3, .ref n_4, .ref n_5, vI 24, vI 4, vI 1, vI 0, vI 0]))] ++ [(n_1, .inl (cI, 157, .inl (ia lv2)))] ++ [(n_2, .inl (cI, 157, .inl (ia ho1)))] ++ [(n_3, .inl (cI, 157, .inl (ia (fun _ => 0))))] ++ [(n_4, .inl (cI, 628, .inl (ia (fun _ => 0))))] ++ [(n_5, .inl (cI, 942, .inl (ia (fun _ => 0))))]) (wr := ([0, 1, 3, 4, 5].filterMap (fun i => ([(h, .inr (4, [.ref n_1, .ref n_2, .ref n_3, .ref n_4, .ref n_5, vI 24, vI 4, vI 1, vI 0, vI 0]))] ++ [(n_1, .inl (cI, 157, .inl (ia lv2)))] ++ [(n_2, .inl (cI, 157, .inl (ia (fun _ => 0))))] ++ [(n_3, .inl (cI, 157, .inl (ia (fun _ => 0))))] ++ [(n_4, .inl (cI, 628, .inl (ia (fun _ => 0))))] ++ [(n_5, .inl (cI, 942, .inl (ia (fun _ => 0))))])[i]?))) (va_runSN (As := [.ref n_2, vI 24, vI (-1)]) (rest := []) hF.1 (c_Rt_put l D cI cZ cT n_2 157 (fun _ => 0) 24 (-1) H.size ho1 h3) ⟨va_cnB 3 hts (zW_good wm61) rfl rfl rfl (hN.at 0 rfl) (hts _ wm32) (by decide +kernel) ⟨Nat.le_of_ble_eq_true rfl, Nat.le_of_ble_eq_true rfl⟩, hts _ wm60, trivial⟩ ⟨zP.blind, zP.enter (z_subP (ws' := (zAr cI n_2 157 (fun _ => 0))) hP [2] rfl) hK (hD.sub [2] (by decide) rfl) hN⟩ rfl rfl hl.1 rfl (lv_room (Nat.le_of_ble_eq_true rfl)) dX4_init_105 ⟨(show 5 + 0 ≤ 5 from Nat.le_of_ble_eq_true rfl), (show 2041 + 0 ≤ 2041 from Nat.le_of_ble_eq_true rfl)⟩) hP hD hS hA [2] [0, 1, 3, 4, 5] [0, 1, 5, 2, 3, 4] rfl rfl (by decide) (fun _ => rfl) (fun u_11 H locs hP hD hS hz => ?_)
  refine W.widen (k := 5) (n := 2041) (Nat.le_of_ble_eq_true rfl) (Nat.le_of_ble_eq_true rfl) ?_
  replace hP : va_P D vwCl ([(h, .inr (4, [.ref n_1, .ref n_2, .ref n_3, .ref n_4, .ref n_5, vI 24, vI 4, vI 1, vI 0, vI 0]))] ++ [(n_1, .inl (cI, 157, .inl (ia lv2)))] ++ [(n_2, .inl (cI, 157, .inl (ia ho1)))] ++ [(n_3, .inl (cI, 157, .inl (ia (fun _ => 0))))] ++ [(n_4, .inl (cI, 628, .inl (ia (fun _ => 0))))] ++ [(n_5, .inl (cI, 942, .inl (ia (fun _ => 0))))]) H := z_subP hP [0, 1, 2, 3, 4, 5] rfl
  replace hD : va_D A ([(h, .inr (4, [.ref n_1, .ref n_2, .ref n_3, .ref n_4, .ref n_5, vI 24, vI 4, vI 1, vI 0, vI 0]))] ++ [(n_1, .inl (cI, 157, .inl (ia lv2)))] ++ [(n_2, .inl (cI, 157, .inl (ia ho1)))] ++ [(n_3, .inl (cI, 157, .inl (ia (fun _ => 0))))] ++ [(n_4, .inl (cI, 628, .inl (ia (fun _ => 0))))] ++ [(n_5, .inl (cI, 942, .inl (ia (fun _ => 0))))]) := hD.sub [0, 1, 2, 3, 4, 5] (by decide) rfl
  exact z_vret hx hb hr hlk (fun _ k => if k = 0 then n_1 else if k = 1 then n_2 else if k = 2 then n_3 else if k = 3 then n_4 else if k = 4 then n_5 else 0) hP hD hS dX4_init_108
abbrev rm_Wk_init : Room := ({ frames := 1, cells := 2, slots := 314, locals := 12 } : Room)
set_option maxHeartbeats 4000000 in
set_option maxRecDepth 100000 in
theorem c_Wk_init (l : Launch) (D : va_G) (cI cZ cT : ClassId) (h : Nat) (sz : Nat) : zMv l yX5_init cX5_init 1 rm_Wk_init D (zt cI cZ cT) [.ref h] ([(h, .inr (5, [.null, .int 0, .null]))]) sz (fun u => (zWk cI h (u 0) ((fun _ => 0), (fun _ => 0), 0, 157))) 2 314 := by
  refine z_enth (Qc := zQv D (fun u => (zWk cI h (u 0) ((fun _ => 0), (fun _ => 0), 0, 157)))) (by decide) (Nat.le_of_ble_eq_true rfl) (fun p e s m args below meth c A ls H locs hF hP hD hS hl => ?_)
  have hx := hF.1.1
  have hb := hF.1.2.1
  have hml := hF.1.2.2.1
  have hown : s.vm.findClass "RectangleTree$Walk" = some m.cls := hF.1.2.2.2.1
  have hts := hF.1.2.2.2.2
  have hr := hF.2.1
  have hlk := hF.2.2.1
  have hin : meth.name = "<init>" := hF.2.2.2.1
  have hK := hF.2.2.2.2.1
  have hN := hF.2.2.2.2.2.1
  have hA := hF.2.2.2.2.2.2
  refine lv_aload_n hx hb dX5_init_0 rfl (lv_at hl 0 rfl) ?_
  refine W.objInit hx hb hown (hts (.methodLink "RectangleTree$Walk" 3 objectInit) wm117) (hts (.instanceMethod objectInit) wm48) (hts _ wm49) rfl (by rw [hml]; exact hl.1) rfl dX5_init_1 (Nat.le_of_ble_eq_true rfl) (Nat.le_of_ble_eq_true rfl) ?_
  refine W.eq (g2 := F0 m 4 ls []) rfl ?_
  refine lv_aload_n hx hb dX5_init_4 rfl (lv_at hl 0 rfl) ?_
  refine lv_sipush (v := Int32.ofInt 157) hx hb dX5_init_5 (by decide +kernel) ?_
  refine z_newi (cI := cI) (N := 157) hx hb (hts _ wm105) hK hP hD hS hA rfl (by decide) (by decide) rfl (show 0 + 1 ≤ 2 from Nat.le_of_ble_eq_true rfl) (show 0 + 157 ≤ 314 from Nat.le_of_ble_eq_true rfl) dX5_init_8 (fun n_1 H hP hD hS => ?_)
  replace hP : va_P D vwCl ([(h, .inr (5, [.null, .int 0, .null]))] ++ [(n_1, .inl (cI, 157, .inl (ia (fun _ => 0))))]) H := hP
  replace hD : va_D A ([(h, .inr (5, [.null, .int 0, .null]))] ++ [(n_1, .inl (cI, 157, .inl (ia (fun _ => 0))))]) := hD
  refine W.widen (k := 1) (n := 157) (Nat.le_of_ble_eq_true rfl) (Nat.le_of_ble_eq_true rfl) ?_
  refine va_putF (D := D) (ci := 5) (v := .ref n_1) (ty := .array .int) (C := RX5) (T := TX5) (N := 3) hx hb hts zin5 tyX5 tyX5_ok nmX5 hown hK hP hD hS 0 rfl rfl 0 (by decide) (hts _ wm118) (fun _ h9 => h9) rfl hin rfl (by decide +kernel) rfl rfl (Nat.le_of_ble_eq_true rfl) dX5_init_10 (fun H locs hP hD hS => ?_)
  replace hP : va_P D vwCl ([(h, .inr (5, [.ref n_1, .int 0, .null]))] ++ [(n_1, .inl (cI, 157, .inl (ia (fun _ => 0))))]) H := hP
  replace hD : va_D A ([(h, .inr (5, [.ref n_1, .int 0, .null]))] ++ [(n_1, .inl (cI, 157, .inl (ia (fun _ => 0))))]) := hD
  refine lv_aload_n hx hb dX5_init_13 rfl (lv_at hl 0 rfl) ?_
  refine lv_iconst (v := Int32.ofInt 0) hx hb dX5_init_14 rfl ?_
  refine va_put (D := D) (ci := 5) (v := vI 0) (ty := .int) (C := RX5) (T := TX5) (N := 3) hx hb hts zin5 tyX5 tyX5_ok nmX5 hown hK hP hD hS 0 rfl rfl 1 (by decide) (hts _ wm121) (fun _ h9 => h9) rfl (by decide +kernel) rfl rfl (Nat.le_of_ble_eq_true rfl) dX5_init_15 (fun H locs hP hD hS => ?_)
  replace hP : va_P D vwCl ([(h, .inr (5, [.ref n_1, vI 0, .null]))] ++ [(n_1, .inl (cI, 157, .inl (ia (fun _ => 0))))]) H := hP
  replace hD : va_D A ([(h, .inr (5, [.ref n_1, vI 0, .null]))] ++ [(n_1, .inl (cI, 157, .inl (ia (fun _ => 0))))]) := hD
  refine lv_aload_n hx hb dX5_init_18 rfl (lv_at hl 0 rfl) ?_
  refine lv_sipush (v := Int32.ofInt 157) hx hb dX5_init_19 (by decide +kernel) ?_
  refine z_newi (cI := cI) (N := 157) hx hb (hts _ wm105) hK hP hD hS hA rfl (by decide) (by decide) rfl (show 1 + 1 ≤ 2 from Nat.le_of_ble_eq_true rfl) (show 157 + 157 ≤ 314 from Nat.le_of_ble_eq_true rfl) dX5_init_22 (fun n_2 H hP hD hS => ?_)
  replace hP : va_P D vwCl ([(h, .inr (5, [.ref n_1, vI 0, .null]))] ++ [(n_1, .inl (cI, 157, .inl (ia (fun _ => 0))))] ++ [(n_2, .inl (cI, 157, .inl (ia (fun _ => 0))))]) H := hP
  replace hD : va_D A ([(h, .inr (5, [.ref n_1, vI 0, .null]))] ++ [(n_1, .inl (cI, 157, .inl (ia (fun _ => 0))))] ++ [(n_2, .inl (cI, 157, .inl (ia (fun _ => 0))))]) := hD
  refine W.widen (k := 2) (n := 314) (Nat.le_of_ble_eq_true rfl) (Nat.le_of_ble_eq_true rfl) ?_
  refine va_putF (D := D) (ci := 5) (v := .ref n_2) (ty := .array .int) (C := RX5) (T := TX5) (N := 3) hx hb hts zin5 tyX5 tyX5_ok nmX5 hown hK hP hD hS 0 rfl rfl 2 (by decide) (hts _ wm124) (fun _ h9 => h9) rfl hin rfl (by decide +kernel) rfl rfl (Nat.le_of_ble_eq_true rfl) dX5_init_24 (fun H locs hP hD hS => ?_)
  replace hP : va_P D vwCl ([(h, .inr (5, [.ref n_1, vI 0, .ref n_2]))] ++ [(n_1, .inl (cI, 157, .inl (ia (fun _ => 0))))] ++ [(n_2, .inl (cI, 157, .inl (ia (fun _ => 0))))]) H := hP
  replace hD : va_D A ([(h, .inr (5, [.ref n_1, vI 0, .ref n_2]))] ++ [(n_1, .inl (cI, 157, .inl (ia (fun _ => 0))))] ++ [(n_2, .inl (cI, 157, .inl (ia (fun _ => 0))))]) := hD
  replace hP : va_P D vwCl ([(h, .inr (5, [.ref n_1, vI 0, .ref n_2]))] ++ [(n_1, .inl (cI, 157, .inl (ia (fun _ => 0))))] ++ [(n_2, .inl (cI, 157, .inl (ia (fun _ => 0))))]) H := z_subP hP [0, 1, 2] rfl
  replace hD : va_D A ([(h, .inr (5, [.ref n_1, vI 0, .ref n_2]))] ++ [(n_1, .inl (cI, 157, .inl (ia (fun _ => 0))))] ++ [(n_2, .inl (cI, 157, .inl (ia (fun _ => 0))))]) := hD.sub [0, 1, 2] (by decide) rfl
  exact z_vret hx hb hr hlk (fun _ k => if k = 0 then n_1 else if k = 1 then n_2 else 0) hP hD hS dX5_init_27
abbrev rm_Ch_init : Room := ({ frames := 2, cells := 8, slots := 664, locals := 32 } : Room)
set_option maxHeartbeats 4000000 in
set_option maxRecDepth 100000 in
theorem c_Ch_init (l : Launch) (D : va_G) (cI cZ cT : ClassId) (h : Nat) (ht : Nat) (sz : Nat) : zMv l yX0_init cX0_init 2 rm_Ch_init D (zt cI cZ cT) [.ref h, .ref ht] ([(h, .inr (0, [.null, .null, .int 0, .null, .int 0, .long 0, .null, .null]))]) sz (fun u => (zCh cI h (u 0) ht (u 1 9) (u 2 9) (fun _ => 0) 0 (fun _ => 0) 0 0) ++ (zWk cI (u 1 9) (u 1) ((fun _ => 0), (fun _ => 0), 0, 157)) ++ (zWk cI (u 2 9) (u 2) ((fun _ => 0), (fun _ => 0), 0, 157))) 8 664 := by
  refine z_enth (Qc := zQv D (fun u => (zCh cI h (u 0) ht (u 1 9) (u 2 9) (fun _ => 0) 0 (fun _ => 0) 0 0) ++ (zWk cI (u 1 9) (u 1) ((fun _ => 0), (fun _ => 0), 0, 157)) ++ (zWk cI (u 2 9) (u 2) ((fun _ => 0), (fun _ => 0), 0, 157)))) (by decide) (Nat.le_of_ble_eq_true rfl) (fun p e s m args below meth c A ls H locs hF hP hD hS hl => ?_)
  have hx := hF.1.1
  have hb := hF.1.2.1
  have hml := hF.1.2.2.1
  have hown : s.vm.findClass "RectangleTree$Changes" = some m.cls := hF.1.2.2.2.1
  have hts := hF.1.2.2.2.2
  have hr := hF.2.1
  have hlk := hF.2.2.1
  have hin : meth.name = "<init>" := hF.2.2.2.1
  have hK := hF.2.2.2.2.1
  have hN := hF.2.2.2.2.2.1
  have hA := hF.2.2.2.2.2.2
  refine lv_aload_n hx hb dX0_init_0 rfl (lv_at hl 0 rfl) ?_
  refine W.objInit hx hb hown (hts (.methodLink "RectangleTree$Changes" 3 objectInit) wm111) (hts (.instanceMethod objectInit) wm48) (hts _ wm49) rfl (by rw [hml]; exact hl.1) rfl dX0_init_1 (Nat.le_of_ble_eq_true rfl) (Nat.le_of_ble_eq_true rfl) ?_
  refine W.eq (g2 := F0 m 4 ls []) rfl ?_
  refine lv_aload_n hx hb dX0_init_4 rfl (lv_at hl 0 rfl) ?_
  refine lv_bipush (v := Int32.ofInt 24) hx hb dX0_init_5 (by decide +kernel) ?_
  refine z_newi (cI := cI) (N := 24) hx hb (hts _ wm105) hK hP hD hS hA rfl (by decide) (by decide) rfl (show 0 + 1 ≤ 8 from Nat.le_of_ble_eq_true rfl) (show 0 + 24 ≤ 664 from Nat.le_of_ble_eq_true rfl) dX0_init_7 (fun n_1 H hP hD hS => ?_)
  replace hP : va_P D vwCl ([(h, .inr (0, [.null, .null, .int 0, .null, .int 0, .long 0, .null, .null]))] ++ [(n_1, .inl (cI, 24, .inl (ia (fun _ => 0))))]) H := hP
  replace hD : va_D A ([(h, .inr (0, [.null, .null, .int 0, .null, .int 0, .long 0, .null, .null]))] ++ [(n_1, .inl (cI, 24, .inl (ia (fun _ => 0))))]) := hD
  refine W.widen (k := 1) (n := 24) (Nat.le_of_ble_eq_true rfl) (Nat.le_of_ble_eq_true rfl) ?_
  refine va_putF (D := D) (ci := 0) (v := .ref n_1) (ty := .array .int) (C := RX0) (T := TX0) (N := 8) hx hb hts zin0 tyX0 tyX0_ok nmX0 hown hK hP hD hS 0 rfl rfl 1 (by decide) (hts _ wm133) (fun _ h9 => h9) rfl hin rfl (by decide +kernel) rfl rfl (Nat.le_of_ble_eq_true rfl) dX0_init_9 (fun H locs hP hD hS => ?_)
  replace hP : va_P D vwCl ([(h, .inr (0, [.null, .ref n_1, .int 0, .null, .int 0, .long 0, .null, .null]))] ++ [(n_1, .inl (cI, 24, .inl (ia (fun _ => 0))))]) H := hP
  replace hD : va_D A ([(h, .inr (0, [.null, .ref n_1, .int 0, .null, .int 0, .long 0, .null, .null]))] ++ [(n_1, .inl (cI, 24, .inl (ia (fun _ => 0))))]) := hD
  refine lv_aload_n hx hb dX0_init_12 rfl (lv_at hl 0 rfl) ?_
  refine lv_iconst (v := Int32.ofInt 0) hx hb dX0_init_13 rfl ?_
  refine va_put (D := D) (ci := 0) (v := vI 0) (ty := .int) (C := RX0) (T := TX0) (N := 8) hx hb hts zin0 tyX0 tyX0_ok nmX0 hown hK hP hD hS 0 rfl rfl 2 (by decide) (hts _ wm134) (fun _ h9 => h9) rfl (by decide +kernel) rfl rfl (Nat.le_of_ble_eq_true rfl) dX0_init_14 (fun H locs hP hD hS => ?_)
  replace hP : va_P D vwCl ([(h, .inr (0, [.null, .ref n_1, vI 0, .null, .int 0, .long 0, .null, .null]))] ++ [(n_1, .inl (cI, 24, .inl (ia (fun _ => 0))))]) H := hP
  replace hD : va_D A ([(h, .inr (0, [.null, .ref n_1, vI 0, .null, .int 0, .long 0, .null, .null]))] ++ [(n_1, .inl (cI, 24, .inl (ia (fun _ => 0))))]) := hD
  refine lv_aload_n hx hb dX0_init_17 rfl (lv_at hl 0 rfl) ?_
  refine lv_bipush (v := Int32.ofInt 6) hx hb dX0_init_18 (by decide +kernel) ?_
  refine z_newi (cI := cI) (N := 6) hx hb (hts _ wm105) hK hP hD hS hA rfl (by decide) (by decide) rfl (show 1 + 1 ≤ 8 from Nat.le_of_ble_eq_true rfl) (show 24 + 6 ≤ 664 from Nat.le_of_ble_eq_true rfl) dX0_init_20 (fun n_2 H hP hD hS => ?_)
  replace hP : va_P D vwCl ([(h, .inr (0, [.null, .ref n_1, vI 0, .null, .int 0, .long 0, .null, .null]))] ++ [(n_1, .inl (cI, 24, .inl (ia (fun _ => 0))))] ++ [(n_2, .inl (cI, 6, .inl (ia (fun _ => 0))))]) H := hP
  replace hD : va_D A ([(h, .inr (0, [.null, .ref n_1, vI 0, .null, .int 0, .long 0, .null, .null]))] ++ [(n_1, .inl (cI, 24, .inl (ia (fun _ => 0))))] ++ [(n_2, .inl (cI, 6, .inl (ia (fun _ => 0))))]) := hD
  refine W.widen (k := 2) (n := 30) (Nat.le_of_ble_eq_true rfl) (Nat.le_of_ble_eq_true rfl) ?_
  refine va_putF (D := D) (ci := 0) (v := .ref n_2) (ty := .array .int) (C := RX0) (T := TX0) (N := 8) hx hb hts zin0 tyX0 tyX0_ok nmX0 hown hK hP hD hS 0 rfl rfl 3 (by decide) (hts _ wm135) (fun _ h9 => h9) rfl hin rfl (by decide +kernel) rfl rfl (Nat.le_of_ble_eq_true rfl) dX0_init_22 (fun H locs hP hD hS => ?_)
  replace hP : va_P D vwCl ([(h, .inr (0, [.null, .ref n_1, vI 0, .ref n_2, .int 0, .long 0, .null, .null]))] ++ [(n_1, .inl (cI, 24, .inl (ia (fun _ => 0))))] ++ [(n_2, .inl (cI, 6, .inl (ia (fun _ => 0))))]) H := hP
  replace hD : va_D A ([(h, .inr (0, [.null, .ref n_1, vI 0, .ref n_2, .int 0, .long 0, .null, .null]))] ++ [(n_1, .inl (cI, 24, .inl (ia (fun _ => 0))))] ++ [(n_2, .inl (cI, 6, .inl (ia (fun _ => 0))))]) := hD
  refine lv_aload_n hx hb dX0_init_25 rfl (lv_at hl 0 rfl) ?_
  refine lv_iconst (v := Int32.ofInt 0) hx hb dX0_init_26 rfl ?_
  refine va_put (D := D) (ci := 0) (v := vI 0) (ty := .int) (C := RX0) (T := TX0) (N := 8) hx hb hts zin0 tyX0 tyX0_ok nmX0 hown hK hP hD hS 0 rfl rfl 4 (by decide) (hts _ wm136) (fun _ h9 => h9) rfl (by decide +kernel) rfl rfl (Nat.le_of_ble_eq_true rfl) dX0_init_27 (fun H locs hP hD hS => ?_)
  replace hP : va_P D vwCl ([(h, .inr (0, [.null, .ref n_1, vI 0, .ref n_2, vI 0, .long 0, .null, .null]))] ++ [(n_1, .inl (cI, 24, .inl (ia (fun _ => 0))))] ++ [(n_2, .inl (cI, 6, .inl (ia (fun _ => 0))))]) H := hP
  replace hD : va_D A ([(h, .inr (0, [.null, .ref n_1, vI 0, .ref n_2, vI 0, .long 0, .null, .null]))] ++ [(n_1, .inl (cI, 24, .inl (ia (fun _ => 0))))] ++ [(n_2, .inl (cI, 6, .inl (ia (fun _ => 0))))]) := hD
  refine lv_aload_n hx hb dX0_init_30 rfl (lv_at hl 0 rfl) ?_
  refine lv_lconst (v := 0) hx hb dX0_init_31 rfl ?_
  refine va_put (D := D) (ci := 0) (v := .long 0) (ty := .long) (C := RX0) (T := TX0) (N := 8) hx hb hts zin0 tyX0 tyX0_ok nmX0 hown hK hP hD hS 0 rfl rfl 5 (by decide) (hts _ wm137) (fun _ h9 => h9) rfl (by decide +kernel) rfl rfl (Nat.le_of_ble_eq_true rfl) dX0_init_32 (fun H locs hP hD hS => ?_)
  replace hP : va_P D vwCl ([(h, .inr (0, [.null, .ref n_1, vI 0, .ref n_2, vI 0, .long 0, .null, .null]))] ++ [(n_1, .inl (cI, 24, .inl (ia (fun _ => 0))))] ++ [(n_2, .inl (cI, 6, .inl (ia (fun _ => 0))))]) H := hP
  replace hD : va_D A ([(h, .inr (0, [.null, .ref n_1, vI 0, .ref n_2, vI 0, .long 0, .null, .null]))] ++ [(n_1, .inl (cI, 24, .inl (ia (fun _ => 0))))] ++ [(n_2, .inl (cI, 6, .inl (ia (fun _ => 0))))]) := hD
  refine lv_aload_n hx hb dX0_init_35 rfl (lv_at hl 0 rfl) ?_
  refine va_new (ci := 5) (fs := [.null, .int 0, .null]) (C := RX5) (T := TX5) (N := 3) hx hb hts zin5 tyX5 tyX5_ok hown (hts _ wm112) (hts _ wm113) (hts _ wm36) hK hP hD hS hA rfl (fun j hj => by rcases (show j = 0 ∨ j = 1 ∨ j = 2 by omega) with rfl | rfl | rfl <;> rfl) (show 2 + 1 ≤ 8 from Nat.le_of_ble_eq_true rfl) (show 30 + 3 ≤ 664 from Nat.le_of_ble_eq_true rfl) dX0_init_36 (fun n_3 H hP hD hS => ?_)
  replace hP : va_P D vwCl ([(h, .inr (0, [.null, .ref n_1, vI 0, .ref n_2, vI 0, .long 0, .null, .null]))] ++ [(n_1, .inl (cI, 24, .inl (ia (fun _ => 0))))] ++ [(n_2, .inl (cI, 6, .inl (ia (fun _ => 0))))] ++ [(n_3, .inr (5, [.null, .int 0, .null]))]) H := hP
  replace hD : va_D A ([(h, .inr (0, [.null, .ref n_1, vI 0, .ref n_2, vI 0, .long 0, .null, .null]))] ++ [(n_1, .inl (cI, 24, .inl (ia (fun _ => 0))))] ++ [(n_2, .inl (cI, 6, .inl (ia (fun _ => 0))))] ++ [(n_3, .inr (5, [.null, .int 0, .null]))]) := hD
  refine W.widen (k := 3) (n := 33) (Nat.le_of_ble_eq_true rfl) (Nat.le_of_ble_eq_true rfl) ?_
  refine lv_dup hx hb dX0_init_39 rfl ?_
  refine z_gov (wc := [(n_3, .inr (5, [.null, .int 0, .null]))]) (wn := fun u_4 => [(h, .inr (0, [.null, .ref n_1, vI 0, .ref n_2, vI 0, .long 0, .null, .null]))] ++ [(n_1, .inl (cI, 24, .inl (ia (fun _ => 0))))] ++ [(n_2, .inl (cI, 6, .inl (ia (fun _ => 0))))] ++ (zWk cI n_3 (u_4 0) ((fun _ => 0), (fun _ => 0), 0, 157))) (wr := ([0, 1, 2].filterMap (fun i => ([(h, .inr (0, [.null, .ref n_1, vI 0, .ref n_2, vI 0, .long 0, .null, .null]))] ++ [(n_1, .inl (cI, 24, .inl (ia (fun _ => 0))))] ++ [(n_2, .inl (cI, 6, .inl (ia (fun _ => 0))))] ++ [(n_3, .inr (5, [.null, .int 0, .null]))])[i]?))) (va_runIN (As := []) (rest := [.ref n_3, .ref h]) hF.1 (c_Wk_init l D cI cZ cT n_3 H.size ) ⟨va_cnB 0 hts (zW_good wm116) rfl rfl rfl (hN.at 1 rfl) (hts _ wm36) (by decide +kernel) ⟨Nat.le_of_ble_eq_true rfl, Nat.le_of_ble_eq_true rfl⟩, rfl, hts _ wm115⟩ ⟨zP.blind, zP.enter (z_subP (ws' := [(n_3, .inr (5, [.null, .int 0, .null]))]) hP [3] rfl) hK (hD.sub [3] (by decide) rfl) hN⟩ rfl rfl hl.1 rfl (lv_room (Nat.le_of_ble_eq_true rfl)) dX0_init_40 ⟨(show 3 + 2 ≤ 8 from Nat.le_of_ble_eq_true rfl), (show 33 + 314 ≤ 664 from Nat.le_of_ble_eq_true rfl)⟩) hP hD hS hA [3] [0, 1, 2] [0, 1, 2, 3, 4, 5] rfl rfl (by decide) (fun _ => rfl) (fun u_4 H locs hP hD hS hz => ?_)
  refine W.widen (k := 5) (n := 347) (Nat.le_of_ble_eq_true rfl) (Nat.le_of_ble_eq_true rfl) ?_
  refine va_putF (D := D) (ci := 0) (v := .ref n_3) (ty := .object "RectangleTree$Walk") (C := RX0) (T := TX0) (N := 8) hx hb hts zin0 tyX0 tyX0_ok nmX0 hown hK hP hD hS 0 rfl rfl 6 (by decide) (hts _ wm138) (fun _ h9 => h9) rfl hin rfl (by decide +kernel) rfl rfl (Nat.le_of_ble_eq_true rfl) dX0_init_43 (fun H locs hP hD hS => ?_)
  replace hP : va_P D vwCl ([(h, .inr (0, [.null, .ref n_1, vI 0, .ref n_2, vI 0, .long 0, .ref n_3, .null]))] ++ [(n_1, .inl (cI, 24, .inl (ia (fun _ => 0))))] ++ [(n_2, .inl (cI, 6, .inl (ia (fun _ => 0))))] ++ (zWk cI n_3 (u_4 0) ((fun _ => 0), (fun _ => 0), 0, 157))) H := hP
  replace hD : va_D A ([(h, .inr (0, [.null, .ref n_1, vI 0, .ref n_2, vI 0, .long 0, .ref n_3, .null]))] ++ [(n_1, .inl (cI, 24, .inl (ia (fun _ => 0))))] ++ [(n_2, .inl (cI, 6, .inl (ia (fun _ => 0))))] ++ (zWk cI n_3 (u_4 0) ((fun _ => 0), (fun _ => 0), 0, 157))) := hD
  refine lv_aload_n hx hb dX0_init_46 rfl (lv_at hl 0 rfl) ?_
  refine va_new (ci := 5) (fs := [.null, .int 0, .null]) (C := RX5) (T := TX5) (N := 3) hx hb hts zin5 tyX5 tyX5_ok hown (hts _ wm112) (hts _ wm113) (hts _ wm36) hK hP hD hS hA rfl (fun j hj => by rcases (show j = 0 ∨ j = 1 ∨ j = 2 by omega) with rfl | rfl | rfl <;> rfl) (show 5 + 1 ≤ 8 from Nat.le_of_ble_eq_true rfl) (show 347 + 3 ≤ 664 from Nat.le_of_ble_eq_true rfl) dX0_init_47 (fun n_5 H hP hD hS => ?_)
  replace hP : va_P D vwCl ([(h, .inr (0, [.null, .ref n_1, vI 0, .ref n_2, vI 0, .long 0, .ref n_3, .null]))] ++ [(n_1, .inl (cI, 24, .inl (ia (fun _ => 0))))] ++ [(n_2, .inl (cI, 6, .inl (ia (fun _ => 0))))] ++ (zWk cI n_3 (u_4 0) ((fun _ => 0), (fun _ => 0), 0, 157)) ++ [(n_5, .inr (5, [.null, .int 0, .null]))]) H := hP
  replace hD : va_D A ([(h, .inr (0, [.null, .ref n_1, vI 0, .ref n_2, vI 0, .long 0, .ref n_3, .null]))] ++ [(n_1, .inl (cI, 24, .inl (ia (fun _ => 0))))] ++ [(n_2, .inl (cI, 6, .inl (ia (fun _ => 0))))] ++ (zWk cI n_3 (u_4 0) ((fun _ => 0), (fun _ => 0), 0, 157)) ++ [(n_5, .inr (5, [.null, .int 0, .null]))]) := hD
  refine W.widen (k := 6) (n := 350) (Nat.le_of_ble_eq_true rfl) (Nat.le_of_ble_eq_true rfl) ?_
  refine lv_dup hx hb dX0_init_50 rfl ?_
  refine z_gov (wc := [(n_5, .inr (5, [.null, .int 0, .null]))]) (wn := fun u_6 => [(h, .inr (0, [.null, .ref n_1, vI 0, .ref n_2, vI 0, .long 0, .ref n_3, .null]))] ++ [(n_1, .inl (cI, 24, .inl (ia (fun _ => 0))))] ++ [(n_2, .inl (cI, 6, .inl (ia (fun _ => 0))))] ++ (zWk cI n_3 (u_4 0) ((fun _ => 0), (fun _ => 0), 0, 157)) ++ (zWk cI n_5 (u_6 0) ((fun _ => 0), (fun _ => 0), 0, 157))) (wr := ([0, 1, 2, 3, 4, 5].filterMap (fun i => ([(h, .inr (0, [.null, .ref n_1, vI 0, .ref n_2, vI 0, .long 0, .ref n_3, .null]))] ++ [(n_1, .inl (cI, 24, .inl (ia (fun _ => 0))))] ++ [(n_2, .inl (cI, 6, .inl (ia (fun _ => 0))))] ++ (zWk cI n_3 (u_4 0) ((fun _ => 0), (fun _ => 0), 0, 157)) ++ [(n_5, .inr (5, [.null, .int 0, .null]))])[i]?))) (va_runIN (As := []) (rest := [.ref n_5, .ref h]) hF.1 (c_Wk_init l D cI cZ cT n_5 H.size ) ⟨va_cnB 0 hts (zW_good wm116) rfl rfl rfl (hN.at 1 rfl) (hts _ wm36) (by decide +kernel) ⟨Nat.le_of_ble_eq_true rfl, Nat.le_of_ble_eq_true rfl⟩, rfl, hts _ wm115⟩ ⟨zP.blind, zP.enter (z_subP (ws' := [(n_5, .inr (5, [.null, .int 0, .null]))]) hP [6] rfl) hK (hD.sub [6] (by decide) rfl) hN⟩ rfl rfl hl.1 rfl (lv_room (Nat.le_of_ble_eq_true rfl)) dX0_init_51 ⟨(show 6 + 2 ≤ 8 from Nat.le_of_ble_eq_true rfl), (show 350 + 314 ≤ 664 from Nat.le_of_ble_eq_true rfl)⟩) hP hD hS hA [6] [0, 1, 2, 3, 4, 5] [0, 1, 2, 3, 4, 5, 6, 7, 8] rfl rfl (by decide) (fun _ => rfl) (fun u_6 H locs hP hD hS hz => ?_)
  refine W.widen (k := 8) (n := 664) (Nat.le_of_ble_eq_true rfl) (Nat.le_of_ble_eq_true rfl) ?_
  refine va_putF (D := D) (ci := 0) (v := .ref n_5) (ty := .object "RectangleTree$Walk") (C := RX0) (T := TX0) (N := 8) hx hb hts zin0 tyX0 tyX0_ok nmX0 hown hK hP hD hS 0 rfl rfl 7 (by decide) (hts _ wm139) (fun _ h9 => h9) rfl hin rfl (by decide +kernel) rfl rfl (Nat.le_of_ble_eq_true rfl) dX0_init_54 (fun H locs hP hD hS => ?_)
  replace hP : va_P D vwCl ([(h, .inr (0, [.null, .ref n_1, vI 0, .ref n_2, vI 0, .long 0, .ref n_3, .ref n_5]))] ++ [(n_1, .inl (cI, 24, .inl (ia (fun _ => 0))))] ++ [(n_2, .inl (cI, 6, .inl (ia (fun _ => 0))))] ++ (zWk cI n_3 (u_4 0) ((fun _ => 0), (fun _ => 0), 0, 157)) ++ (zWk cI n_5 (u_6 0) ((fun _ => 0), (fun _ => 0), 0, 157))) H := hP
  replace hD : va_D A ([(h, .inr (0, [.null, .ref n_1, vI 0, .ref n_2, vI 0, .long 0, .ref n_3, .ref n_5]))] ++ [(n_1, .inl (cI, 24, .inl (ia (fun _ => 0))))] ++ [(n_2, .inl (cI, 6, .inl (ia (fun _ => 0))))] ++ (zWk cI n_3 (u_4 0) ((fun _ => 0), (fun _ => 0), 0, 157)) ++ (zWk cI n_5 (u_6 0) ((fun _ => 0), (fun _ => 0), 0, 157))) := hD
  refine lv_aload_n hx hb dX0_init_57 rfl (lv_at hl 0 rfl) ?_
  refine lv_aload_n hx hb dX0_init_58 rfl (lv_at hl 1 rfl) ?_
  refine va_putF (D := D) (ci := 0) (v := .ref ht) (ty := .object "RectangleTree$Tree") (C := RX0) (T := TX0) (N := 8) hx hb hts zin0 tyX0 tyX0_ok nmX0 hown hK hP hD hS 0 rfl rfl 0 (by decide) (hts _ wm132) (fun _ h9 => h9) rfl hin rfl (by decide +kernel) rfl rfl (Nat.le_of_ble_eq_true rfl) dX0_init_59 (fun H locs hP hD hS => ?_)
  replace hP : va_P D vwCl ([(h, .inr (0, [.ref ht, .ref n_1, vI 0, .ref n_2, vI 0, .long 0, .ref n_3, .ref n_5]))] ++ [(n_1, .inl (cI, 24, .inl (ia (fun _ => 0))))] ++ [(n_2, .inl (cI, 6, .inl (ia (fun _ => 0))))] ++ (zWk cI n_3 (u_4 0) ((fun _ => 0), (fun _ => 0), 0, 157)) ++ (zWk cI n_5 (u_6 0) ((fun _ => 0), (fun _ => 0), 0, 157))) H := hP
  replace hD : va_D A ([(h, .inr (0, [.ref ht, .ref n_1, vI 0, .ref n_2, vI 0, .long 0, .ref n_3, .ref n_5]))] ++ [(n_1, .inl (cI, 24, .inl (ia (fun _ => 0))))] ++ [(n_2, .inl (cI, 6, .inl (ia (fun _ => 0))))] ++ (zWk cI n_3 (u_4 0) ((fun _ => 0), (fun _ => 0), 0, 157)) ++ (zWk cI n_5 (u_6 0) ((fun _ => 0), (fun _ => 0), 0, 157))) := hD
  replace hP : va_P D vwCl ([(h, .inr (0, [.ref ht, .ref n_1, vI 0, .ref n_2, vI 0, .long 0, .ref n_3, .ref n_5]))] ++ [(n_1, .inl (cI, 24, .inl (ia (fun _ => 0))))] ++ [(n_2, .inl (cI, 6, .inl (ia (fun _ => 0))))] ++ (zWk cI n_3 (u_4 0) ((fun _ => 0), (fun _ => 0), 0, 157)) ++ (zWk cI n_5 (u_6 0) ((fun _ => 0), (fun _ => 0), 0, 157))) H := z_subP hP [0, 1, 2, 3, 4, 5, 6, 7, 8] rfl
  replace hD : va_D A ([(h, .inr (0, [.ref ht, .ref n_1, vI 0, .ref n_2, vI 0, .long 0, .ref n_3, .ref n_5]))] ++ [(n_1, .inl (cI, 24, .inl (ia (fun _ => 0))))] ++ [(n_2, .inl (cI, 6, .inl (ia (fun _ => 0))))] ++ (zWk cI n_3 (u_4 0) ((fun _ => 0), (fun _ => 0), 0, 157)) ++ (zWk cI n_5 (u_6 0) ((fun _ => 0), (fun _ => 0), 0, 157))) := hD.sub [0, 1, 2, 3, 4, 5, 6, 7, 8] (by decide) rfl
  exact z_vret hx hb hr hlk (fun i k => if i = 0 then (if k = 0 then n_1 else if k = 1 then n_2 else 0) else if i = 1 then (if k = 9 then n_3 else (u_4 0) k) else (if k = 9 then n_5 else (u_6 0) k)) hP hD hS dX0_init_62
abbrev rm_Pk_init : Room := ({ frames := 1, cells := 1, slots := 24, locals := 12 } : Room)
set_option maxHeartbeats 4000000 in
set_option maxRecDepth 100000 in
theorem c_Pk_init (l : Launch) (D : va_G) (cI cZ cT : ClassId) (h : Nat) (ht : Nat) (sz : Nat) : zMv l yX2_init cX2_init 2 rm_Pk_init D (zt cI cZ cT) [.ref h, .ref ht] ([(h, .inr (2, [.null, .null]))]) sz (fun u => (zPk cI h (u 0) ht (fun _ => 0))) 1 24 := by
  refine z_enth (Qc := zQv D (fun u => (zPk cI h (u 0) ht (fun _ => 0)))) (by decide) (Nat.le_of_ble_eq_true rfl) (fun p e s m args below meth c A ls H locs hF hP hD hS hl => ?_)
  have hx := hF.1.1
  have hb := hF.1.2.1
  have hml := hF.1.2.2.1
  have hown : s.vm.findClass "RectangleTree$Packing" = some m.cls := hF.1.2.2.2.1
  have hts := hF.1.2.2.2.2
  have hr := hF.2.1
  have hlk := hF.2.2.1
  have hin : meth.name = "<init>" := hF.2.2.2.1
  have hK := hF.2.2.2.2.1
  have hN := hF.2.2.2.2.2.1
  have hA := hF.2.2.2.2.2.2
  refine lv_aload_n hx hb dX2_init_0 rfl (lv_at hl 0 rfl) ?_
  refine W.objInit hx hb hown (hts (.methodLink "RectangleTree$Packing" 3 objectInit) wm162) (hts (.instanceMethod objectInit) wm48) (hts _ wm49) rfl (by rw [hml]; exact hl.1) rfl dX2_init_1 (Nat.le_of_ble_eq_true rfl) (Nat.le_of_ble_eq_true rfl) ?_
  refine W.eq (g2 := F0 m 4 ls []) rfl ?_
  refine lv_aload_n hx hb dX2_init_4 rfl (lv_at hl 0 rfl) ?_
  refine lv_bipush (v := Int32.ofInt 24) hx hb dX2_init_5 (by decide +kernel) ?_
  refine z_newi (cI := cI) (N := 24) hx hb (hts _ wm105) hK hP hD hS hA rfl (by decide) (by decide) rfl (show 0 + 1 ≤ 1 from Nat.le_of_ble_eq_true rfl) (show 0 + 24 ≤ 24 from Nat.le_of_ble_eq_true rfl) dX2_init_7 (fun n_1 H hP hD hS => ?_)
  replace hP : va_P D vwCl ([(h, .inr (2, [.null, .null]))] ++ [(n_1, .inl (cI, 24, .inl (ia (fun _ => 0))))]) H := hP
  replace hD : va_D A ([(h, .inr (2, [.null, .null]))] ++ [(n_1, .inl (cI, 24, .inl (ia (fun _ => 0))))]) := hD
  refine W.widen (k := 1) (n := 24) (Nat.le_of_ble_eq_true rfl) (Nat.le_of_ble_eq_true rfl) ?_
  refine va_putF (D := D) (ci := 2) (v := .ref n_1) (ty := .array .int) (C := RX2) (T := TX2) (N := 2) hx hb hts zin2 tyX2 tyX2_ok nmX2 hown hK hP hD hS 0 rfl rfl 1 (by decide) (hts _ wm164) (fun _ h9 => h9) rfl hin rfl (by decide +kernel) rfl rfl (Nat.le_of_ble_eq_true rfl) dX2_init_9 (fun H locs hP hD hS => ?_)
  replace hP : va_P D vwCl ([(h, .inr (2, [.null, .ref n_1]))] ++ [(n_1, .inl (cI, 24, .inl (ia (fun _ => 0))))]) H := hP
  replace hD : va_D A ([(h, .inr (2, [.null, .ref n_1]))] ++ [(n_1, .inl (cI, 24, .inl (ia (fun _ => 0))))]) := hD
  refine lv_aload_n hx hb dX2_init_12 rfl (lv_at hl 0 rfl) ?_
  refine lv_aload_n hx hb dX2_init_13 rfl (lv_at hl 1 rfl) ?_
  refine va_putF (D := D) (ci := 2) (v := .ref ht) (ty := .object "RectangleTree$Tree") (C := RX2) (T := TX2) (N := 2) hx hb hts zin2 tyX2 tyX2_ok nmX2 hown hK hP hD hS 0 rfl rfl 0 (by decide) (hts _ wm163) (fun _ h9 => h9) rfl hin rfl (by decide +kernel) rfl rfl (Nat.le_of_ble_eq_true rfl) dX2_init_14 (fun H locs hP hD hS => ?_)
  replace hP : va_P D vwCl ([(h, .inr (2, [.ref ht, .ref n_1]))] ++ [(n_1, .inl (cI, 24, .inl (ia (fun _ => 0))))]) H := hP
  replace hD : va_D A ([(h, .inr (2, [.ref ht, .ref n_1]))] ++ [(n_1, .inl (cI, 24, .inl (ia (fun _ => 0))))]) := hD
  replace hP : va_P D vwCl ([(h, .inr (2, [.ref ht, .ref n_1]))] ++ [(n_1, .inl (cI, 24, .inl (ia (fun _ => 0))))]) H := z_subP hP [0, 1] rfl
  replace hD : va_D A ([(h, .inr (2, [.ref ht, .ref n_1]))] ++ [(n_1, .inl (cI, 24, .inl (ia (fun _ => 0))))]) := hD.sub [0, 1] (by decide) rfl
  exact z_vret hx hb hr hlk (fun _ _ => n_1) hP hD hS dX2_init_17
abbrev rm_Tx_init : Room := ({ frames := 1, cells := 2, slots := 160, locals := 12 } : Room)
set_option maxHeartbeats 4000000 in
set_option maxRecDepth 100000 in
theorem c_Tx_init (l : Launch) (D : va_G) (cI cZ cT : ClassId) (h : Nat) (sz : Nat) : zMv l yX3_init cX3_init 1 rm_Tx_init D (zt cI cZ cT) [.ref h] ([(h, .inr (3, [.null, .int 0, .null, .int 0, .int 0, .int 0, .int 0]))]) sz (fun u => (zTx cI h (u 0) (fun _ => 0) 0 (fun _ => 0) 0 0 0 0)) 2 160 := by
  refine z_enth (Qc := zQv D (fun u => (zTx cI h (u 0) (fun _ => 0) 0 (fun _ => 0) 0 0 0 0))) (by decide) (Nat.le_of_ble_eq_true rfl) (fun p e s m args below meth c A ls H locs hF hP hD hS hl => ?_)
  have hx := hF.1.1
  have hb := hF.1.2.1
  have hml := hF.1.2.2.1
  have hown : s.vm.findClass "RectangleTree$RectangleText" = some m.cls := hF.1.2.2.2.1
  have hts := hF.1.2.2.2.2
  have hr := hF.2.1
  have hlk := hF.2.2.1
  have hin : meth.name = "<init>" := hF.2.2.2.1
  have hK := hF.2.2.2.2.1
  have hN := hF.2.2.2.2.2.1
  have hA := hF.2.2.2.2.2.2
  refine lv_aload_n hx hb dX3_init_0 rfl (lv_at hl 0 rfl) ?_
  refine W.objInit hx hb hown (hts (.methodLink "RectangleTree$RectangleText" 3 objectInit) wm177) (hts (.instanceMethod objectInit) wm48) (hts _ wm49) rfl (by rw [hml]; exact hl.1) rfl dX3_init_1 (Nat.le_of_ble_eq_true rfl) (Nat.le_of_ble_eq_true rfl) ?_
  refine W.eq (g2 := F0 m 4 ls []) rfl ?_
  refine lv_aload_n hx hb dX3_init_4 rfl (lv_at hl 0 rfl) ?_
  refine lv_bipush (v := Int32.ofInt 80) hx hb dX3_init_5 (by decide +kernel) ?_
  refine z_newi (cI := cI) (N := 80) hx hb (hts _ wm105) hK hP hD hS hA rfl (by decide) (by decide) rfl (show 0 + 1 ≤ 2 from Nat.le_of_ble_eq_true rfl) (show 0 + 80 ≤ 160 from Nat.le_of_ble_eq_true rfl) dX3_init_7 (fun n_1 H hP hD hS => ?_)
  replace hP : va_P D vwCl ([(h, .inr (3, [.null, .int 0, .null, .int 0, .int 0, .int 0, .int 0]))] ++ [(n_1, .inl (cI, 80, .inl (ia (fun _ => 0))))]) H := hP
  replace hD : va_D A ([(h, .inr (3, [.null, .int 0, .null, .int 0, .int 0, .int 0, .int 0]))] ++ [(n_1, .inl (cI, 80, .inl (ia (fun _ => 0))))]) := hD
  refine W.widen (k := 1) (n := 80) (Nat.le_of_ble_eq_true rfl) (Nat.le_of_ble_eq_true rfl) ?_
  refine va_putF (D := D) (ci := 3) (v := .ref n_1) (ty := .array .int) (C := RX3) (T := TX3) (N := 7) hx hb hts zin3 tyX3 tyX3_ok nmX3 hown hK hP hD hS 0 rfl rfl 0 (by decide) (hts _ wm178) (fun _ h9 => h9) rfl hin rfl (by decide +kernel) rfl rfl (Nat.le_of_ble_eq_true rfl) dX3_init_9 (fun H locs hP hD hS => ?_)
  replace hP : va_P D vwCl ([(h, .inr (3, [.ref n_1, .int 0, .null, .int 0, .int 0, .int 0, .int 0]))] ++ [(n_1, .inl (cI, 80, .inl (ia (fun _ => 0))))]) H := hP
  replace hD : va_D A ([(h, .inr (3, [.ref n_1, .int 0, .null, .int 0, .int 0, .int 0, .int 0]))] ++ [(n_1, .inl (cI, 80, .inl (ia (fun _ => 0))))]) := hD
  refine lv_aload_n hx hb dX3_init_12 rfl (lv_at hl 0 rfl) ?_
  refine lv_iconst (v := Int32.ofInt 0) hx hb dX3_init_13 rfl ?_
  refine va_put (D := D) (ci := 3) (v := vI 0) (ty := .int) (C := RX3) (T := TX3) (N := 7) hx hb hts zin3 tyX3 tyX3_ok nmX3 hown hK hP hD hS 0 rfl rfl 1 (by decide) (hts _ wm179) (fun _ h9 => h9) rfl (by decide +kernel) rfl rfl (Nat.le_of_ble_eq_true rfl) dX3_init_14 (fun H locs hP hD hS => ?_)
  replace hP : va_P D vwCl ([(h, .inr (3, [.ref n_1, vI 0, .null, .int 0, .int 0, .int 0, .int 0]))] ++ [(n_1, .inl (cI, 80, .inl (ia (fun _ => 0))))]) H := hP
  replace hD : va_D A ([(h, .inr (3, [.ref n_1, vI 0, .null, .int 0, .int 0, .int 0, .int 0]))] ++ [(n_1, .inl (cI, 80, .inl (ia (fun _ => 0))))]) := hD
  refine lv_aload_n hx hb dX3_init_17 rfl (lv_at hl 0 rfl) ?_
  refine lv_bipush (v := Int32.ofInt 80) hx hb dX3_init_18 (by decide +kernel) ?_
  refine z_newi (cI := cI) (N := 80) hx hb (hts _ wm105) hK hP hD hS hA rfl (by decide) (by decide) rfl (show 1 + 1 ≤ 2 from Nat.le_of_ble_eq_true rfl) (show 80 + 80 ≤ 160 from Nat.le_of_ble_eq_true rfl) dX3_init_20 (fun n_2 H hP hD hS => ?_)
  replace hP : va_P D vwCl ([(h, .inr (3, [.ref n_1, vI 0, .null, .int 0, .int 0, .int 0, .int 0]))] ++ [(n_1, .inl (cI, 80, .inl (ia (fun _ => 0))))] ++ [(n_2, .inl (cI, 80, .inl (ia (fun _ => 0))))]) H := hP
  replace hD : va_D A ([(h, .inr (3, [.ref n_1, vI 0, .null, .int 0, .int 0, .int 0, .int 0]))] ++ [(n_1, .inl (cI, 80, .inl (ia (fun _ => 0))))] ++ [(n_2, .inl (cI, 80, .inl (ia (fun _ => 0))))]) := hD
  refine W.widen (k := 2) (n := 160) (Nat.le_of_ble_eq_true rfl) (Nat.le_of_ble_eq_true rfl) ?_
  refine va_putF (D := D) (ci := 3) (v := .ref n_2) (ty := .array .int) (C := RX3) (T := TX3) (N := 7) hx hb hts zin3 tyX3 tyX3_ok nmX3 hown hK hP hD hS 0 rfl rfl 2 (by decide) (hts _ wm180) (fun _ h9 => h9) rfl hin rfl (by decide +kernel) rfl rfl (Nat.le_of_ble_eq_true rfl) dX3_init_22 (fun H locs hP hD hS => ?_)
  replace hP : va_P D vwCl ([(h, .inr (3, [.ref n_1, vI 0, .ref n_2, .int 0, .int 0, .int 0, .int 0]))] ++ [(n_1, .inl (cI, 80, .inl (ia (fun _ => 0))))] ++ [(n_2, .inl (cI, 80, .inl (ia (fun _ => 0))))]) H := hP
  replace hD : va_D A ([(h, .inr (3, [.ref n_1, vI 0, .ref n_2, .int 0, .int 0, .int 0, .int 0]))] ++ [(n_1, .inl (cI, 80, .inl (ia (fun _ => 0))))] ++ [(n_2, .inl (cI, 80, .inl (ia (fun _ => 0))))]) := hD
  refine lv_aload_n hx hb dX3_init_25 rfl (lv_at hl 0 rfl) ?_
  refine lv_iconst (v := Int32.ofInt 0) hx hb dX3_init_26 rfl ?_
  refine va_put (D := D) (ci := 3) (v := vI 0) (ty := .int) (C := RX3) (T := TX3) (N := 7) hx hb hts zin3 tyX3 tyX3_ok nmX3 hown hK hP hD hS 0 rfl rfl 3 (by decide) (hts _ wm181) (fun _ h9 => h9) rfl (by decide +kernel) rfl rfl (Nat.le_of_ble_eq_true rfl) dX3_init_27 (fun H locs hP hD hS => ?_)
  replace hP : va_P D vwCl ([(h, .inr (3, [.ref n_1, vI 0, .ref n_2, vI 0, .int 0, .int 0, .int 0]))] ++ [(n_1, .inl (cI, 80, .inl (ia (fun _ => 0))))] ++ [(n_2, .inl (cI, 80, .inl (ia (fun _ => 0))))]) H := hP
  replace hD : va_D A ([(h, .inr (3, [.ref n_1, vI 0, .ref n_2, vI 0, .int 0, .int 0, .int 0]))] ++ [(n_1, .inl (cI, 80, .inl (ia (fun _ => 0))))] ++ [(n_2, .inl (cI, 80, .inl (ia (fun _ => 0))))]) := hD
  refine lv_aload_n hx hb dX3_init_30 rfl (lv_at hl 0 rfl) ?_
  refine lv_iconst (v := Int32.ofInt 0) hx hb dX3_init_31 rfl ?_
  refine va_put (D := D) (ci := 3) (v := vI 0) (ty := .int) (C := RX3) (T := TX3) (N := 7) hx hb hts zin3 tyX3 tyX3_ok nmX3 hown hK hP hD hS 0 rfl rfl 4 (by decide) (hts _ wm183) (fun _ h9 => h9) rfl (by decide +kernel) rfl rfl (Nat.le_of_ble_eq_true rfl) dX3_init_32 (fun H locs hP hD hS => ?_)
  replace hP : va_P D vwCl ([(h, .inr (3, [.ref n_1, vI 0, .ref n_2, vI 0, vI 0, .int 0, .int 0]))] ++ [(n_1, .inl (cI, 80, .inl (ia (fun _ => 0))))] ++ [(n_2, .inl (cI, 80, .inl (ia (fun _ => 0))))]) H := hP
  replace hD : va_D A ([(h, .inr (3, [.ref n_1, vI 0, .ref n_2, vI 0, vI 0, .int 0, .int 0]))] ++ [(n_1, .inl (cI, 80, .inl (ia (fun _ => 0))))] ++ [(n_2, .inl (cI, 80, .inl (ia (fun _ => 0))))]) := hD
  refine lv_aload_n hx hb dX3_init_35 rfl (lv_at hl 0 rfl) ?_
  refine lv_iconst (v := Int32.ofInt 0) hx hb dX3_init_36 rfl ?_
  refine va_put (D := D) (ci := 3) (v := vI 0) (ty := .int) (C := RX3) (T := TX3) (N := 7) hx hb hts zin3 tyX3 tyX3_ok nmX3 hown hK hP hD hS 0 rfl rfl 5 (by decide) (hts _ wm184) (fun _ h9 => h9) rfl (by decide +kernel) rfl rfl (Nat.le_of_ble_eq_true rfl) dX3_init_37 (fun H locs hP hD hS => ?_)
  replace hP : va_P D vwCl ([(h, .inr (3, [.ref n_1, vI 0, .ref n_2, vI 0, vI 0, vI 0, .int 0]))] ++ [(n_1, .inl (cI, 80, .inl (ia (fun _ => 0))))] ++ [(n_2, .inl (cI, 80, .inl (ia (fun _ => 0))))]) H := hP
  replace hD : va_D A ([(h, .inr (3, [.ref n_1, vI 0, .ref n_2, vI 0, vI 0, vI 0, .int 0]))] ++ [(n_1, .inl (cI, 80, .inl (ia (fun _ => 0))))] ++ [(n_2, .inl (cI, 80, .inl (ia (fun _ => 0))))]) := hD
  refine lv_aload_n hx hb dX3_init_40 rfl (lv_at hl 0 rfl) ?_
  refine lv_iconst (v := Int32.ofInt 0) hx hb dX3_init_41 rfl ?_
  refine va_put (D := D) (ci := 3) (v := vI 0) (ty := .int) (C := RX3) (T := TX3) (N := 7) hx hb hts zin3 tyX3 tyX3_ok nmX3 hown hK hP hD hS 0 rfl rfl 6 (by decide) (hts _ wm185) (fun _ h9 => h9) rfl (by decide +kernel) rfl rfl (Nat.le_of_ble_eq_true rfl) dX3_init_42 (fun H locs hP hD hS => ?_)
  replace hP : va_P D vwCl ([(h, .inr (3, [.ref n_1, vI 0, .ref n_2, vI 0, vI 0, vI 0, vI 0]))] ++ [(n_1, .inl (cI, 80, .inl (ia (fun _ => 0))))] ++ [(n_2, .inl (cI, 80, .inl (ia (fun _ => 0))))]) H := hP
  replace hD : va_D A ([(h, .inr (3, [.ref n_1, vI 0, .ref n_2, vI 0, vI 0, vI 0, vI 0]))] ++ [(n_1, .inl (cI, 80, .inl (ia (fun _ => 0))))] ++ [(n_2, .inl (cI, 80, .inl (ia (fun _ => 0))))]) := hD
  replace hP : va_P D vwCl ([(h, .inr (3, [.ref n_1, vI 0, .ref n_2, vI 0, vI 0, vI 0, vI 0]))] ++ [(n_1, .inl (cI, 80, .inl (ia (fun _ => 0))))] ++ [(n_2, .inl (cI, 80, .inl (ia (fun _ => 0))))]) H := z_subP hP [0, 1, 2] rfl
  replace hD : va_D A ([(h, .inr (3, [.ref n_1, vI 0, .ref n_2, vI 0, vI 0, vI 0, vI 0]))] ++ [(n_1, .inl (cI, 80, .inl (ia (fun _ => 0))))] ++ [(n_2, .inl (cI, 80, .inl (ia (fun _ => 0))))]) := hD.sub [0, 1, 2] (by decide) rfl
  exact z_vret hx hb hr hlk (fun _ k => if k = 0 then n_1 else if k = 1 then n_2 else 0) hP hD hS dX3_init_45
abbrev rm_Hi_init : Room := ({ frames := 2, cells := 25, slots := 8208, locals := 43 } : Room)
set_option maxHeartbeats 4000000 in
set_option maxRecDepth 100000 in
theorem c_Hi_init (l : Launch) (D : va_G) (cI cZ cT : ClassId) (h : Nat) (lv1 : Nat → Int) (lv2 : Nat → Int) (ho1 : Nat → Int) (sz : Nat) (h1 : f_J_fill_53178 157 (fun _ => 0) (-2) = some lv1) (h2 : f_Rt_put 157 lv1 24 0 = some lv2) (h3 : f_Rt_put 157 (fun _ => 0) 24 (-1) = some ho1) : zMvO l yX1_init cX1_init 2 rm_Hi_init D (zt cI cZ cT) [.ref h] ([(h, .inr (1, [.null, .int 0]))]) sz (fun u => (zHs cT h (u 0 0) (u 1 9) (u 2 9) (u 3 9) (u 4 9) 0) ++ (zTr cI (u 1 9) (u 1) (lv2, ho1, (fun _ => 0), (fun _ => 0), (fun _ => 0), 157, 24, 4, 1, 0, 0)) ++ (zTr cI (u 2 9) (u 2) (lv2, ho1, (fun _ => 0), (fun _ => 0), (fun _ => 0), 157, 24, 4, 1, 0, 0)) ++ (zTr cI (u 3 9) (u 3) (lv2, ho1, (fun _ => 0), (fun _ => 0), (fun _ => 0), 157, 24, 4, 1, 0, 0)) ++ (zTr cI (u 4 9) (u 4) (lv2, ho1, (fun _ => 0), (fun _ => 0), (fun _ => 0), 157, 24, 4, 1, 0, 0))) 25 8208 := by
  refine z_entO (Qc := zQv D (fun u => (zHs cT h (u 0 0) (u 1 9) (u 2 9) (u 3 9) (u 4 9) 0) ++ (zTr cI (u 1 9) (u 1) (lv2, ho1, (fun _ => 0), (fun _ => 0), (fun _ => 0), 157, 24, 4, 1, 0, 0)) ++ (zTr cI (u 2 9) (u 2) (lv2, ho1, (fun _ => 0), (fun _ => 0), (fun _ => 0), 157, 24, 4, 1, 0, 0)) ++ (zTr cI (u 3 9) (u 3) (lv2, ho1, (fun _ => 0), (fun _ => 0), (fun _ => 0), 157, 24, 4, 1, 0, 0)) ++ (zTr cI (u 4 9) (u 4) (lv2, ho1, (fun _ => 0), (fun _ => 0), (fun _ => 0), 157, 24, 4, 1, 0, 0)))) (by decide) (Nat.le_of_ble_eq_true rfl) (fun p e s m args below meth c A ls H locs hO hF hP hD hS hl => ?_)
  have hx := hF.1.1
  have hb := hF.1.2.1
  have hml := hF.1.2.2.1
  have hown : s.vm.findClass "RectangleTree$History" = some m.cls := hF.1.2.2.2.1
  have hts := hF.1.2.2.2.2
  have hr := hF.2.1
  have hlk := hF.2.2.1
  have hin : meth.name = "<init>" := hF.2.2.2.1
  have hK := hF.2.2.2.2.1
  have hN := hF.2.2.2.2.2.1
  have hA := hF.2.2.2.2.2.2
  refine lv_aload_n hx hb dX1_init_0 rfl (lv_at hl 0 rfl) ?_
  refine W.objInit hx hb hown (hts (.methodLink "RectangleTree$History" 1 objectInit) wm206) (hts (.instanceMethod objectInit) wm48) (hts _ wm49) rfl (by rw [hml]; exact hl.1) rfl dX1_init_1 (Nat.le_of_ble_eq_true rfl) (Nat.le_of_ble_eq_true rfl) ?_
  refine W.eq (g2 := F0 m 4 ls []) rfl ?_
  refine lv_aload_n hx hb dX1_init_4 rfl (lv_at hl 0 rfl) ?_
  refine lv_iconst (v := Int32.ofInt 4) hx hb dX1_init_5 rfl ?_
  refine z_newt (cT := cT) hx hb hown (hts _ wm207) (va_AO.use hO) hK hP hD hS hA rfl (show 0 + 1 ≤ 25 from Nat.le_of_ble_eq_true rfl) (show 0 + 4 ≤ 8208 from Nat.le_of_ble_eq_true rfl) dX1_init_6 (fun n_1 H hP hD hS => ?_)
  replace hP : va_P D vwCl ([(h, .inr (1, [.null, .int 0]))] ++ [(n_1, .inl (cT, 4, .inr (.inr (.inr (.inr (fun _ => none))))))]) H := hP
  replace hD : va_D A ([(h, .inr (1, [.null, .int 0]))] ++ [(n_1, .inl (cT, 4, .inr (.inr (.inr (.inr (fun _ => none))))))]) := hD
  refine W.widen (k := 1) (n := 4) (Nat.le_of_ble_eq_true rfl) (Nat.le_of_ble_eq_true rfl) ?_
  refine va_putF (D := D) (ci := 1) (v := .ref n_1) (ty := .array (.object "RectangleTree$Tree")) (C := RX1) (T := TX1) (N := 2) hx hb hts zin1 tyX1 tyX1_ok nmX1 hown hK hP hD hS 0 rfl rfl 0 (by decide) (hts _ wm210) (fun _ h9 => h9) rfl hin rfl (by decide +kernel) rfl rfl (Nat.le_of_ble_eq_true rfl) dX1_init_9 (fun H locs hP hD hS => ?_)
  replace hP : va_P D vwCl ([(h, .inr (1, [.ref n_1, .int 0]))] ++ [(n_1, .inl (cT, 4, .inr (.inr (.inr (.inr (fun _ => none))))))]) H := hP
  replace hD : va_D A ([(h, .inr (1, [.ref n_1, .int 0]))] ++ [(n_1, .inl (cT, 4, .inr (.inr (.inr (.inr (fun _ => none))))))]) := hD
  refine lv_aload_n hx hb dX1_init_12 rfl (lv_at hl 0 rfl) ?_
  refine lv_iconst (v := Int32.ofInt 0) hx hb dX1_init_13 rfl ?_
  refine va_put (D := D) (ci := 1) (v := vI 0) (ty := .int) (C := RX1) (T := TX1) (N := 2) hx hb hts zin1 tyX1 tyX1_ok nmX1 hown hK hP hD hS 0 rfl rfl 1 (by decide) (hts _ wm211) (fun _ h9 => h9) rfl (by decide +kernel) rfl rfl (Nat.le_of_ble_eq_true rfl) dX1_init_14 (fun H locs hP hD hS => ?_)
  replace hP : va_P D vwCl ([(h, .inr (1, [.ref n_1, vI 0]))] ++ [(n_1, .inl (cT, 4, .inr (.inr (.inr (.inr (fun _ => none))))))]) H := hP
  replace hD : va_D A ([(h, .inr (1, [.ref n_1, vI 0]))] ++ [(n_1, .inl (cT, 4, .inr (.inr (.inr (.inr (fun _ => none))))))]) := hD
  refine lv_iconst (v := Int32.ofInt 0) hx hb dX1_init_17 rfl ?_
  refine lv_istore_n (lv' := [(1, vI 0), (0, .ref h)]) hx hb dX1_init_18 rfl hl (by decide) rfl (fun ls hl => ?_)
  refine lv_iload_n hx hb dX1_init_19 rfl (lv_at hl 0 rfl) ?_
  refine lv_aload_n hx hb dX1_init_20 rfl (lv_at hl 1 rfl) ?_
  refine va_get (D := D) (ci := 1) (v := .ref n_1) (C := RX1) (T := TX1) (N := 2) hx hb hts zin1 hown hK hP 0 rfl rfl 0 (by decide) (hts _ wm210) (fun _ h9 => h9) rfl dX1_init_21 ?_
  refine va_alen (v := Int32.ofInt 4) hx hb hK hP 1 2 rfl rfl rfl dX1_init_24 ?_
  refine z_icmp_ge (tgt := 47) hx hb (by decide) (by decide) dX1_init_25 (by decide) (fun b_2 => ?_) (fun b_2 => ?_)
  · exact absurd b_2 (by decide)
  refine lv_aload_n hx hb dX1_init_28 rfl (lv_at hl 1 rfl) ?_
  refine va_get (D := D) (ci := 1) (v := .ref n_1) (C := RX1) (T := TX1) (N := 2) hx hb hts zin1 hown hK hP 0 rfl rfl 0 (by decide) (hts _ wm210) (fun _ h9 => h9) rfl dX1_init_29 ?_
  refine lv_iload_n hx hb dX1_init_32 rfl (lv_at hl 0 rfl) ?_
  refine va_new (ci := 4) (fs := [.null, .null, .null, .null, .null, .int 0, .int 0, .int 0, .int 0, .int 0]) (C := RX4) (T := TX4) (N := 10) hx hb hts zin4 tyX4 tyX4_ok hown (hts _ wm207) (hts _ wm51) (hts _ wm33) hK hP hD hS hA rfl (fun j hj => by rcases (show j = 0 ∨ j = 1 ∨ j = 2 ∨ j = 3 ∨ j = 4 ∨ j = 5 ∨ j = 6 ∨ j = 7 ∨ j = 8 ∨ j = 9 by omega) with rfl | rfl | rfl | rfl | rfl | rfl | rfl | rfl | rfl | rfl <;> rfl) (show 1 + 1 ≤ 25 from Nat.le_of_ble_eq_true rfl) (show 4 + 10 ≤ 8208 from Nat.le_of_ble_eq_true rfl) dX1_init_33 (fun n_3 H hP hD hS => ?_)
  replace hP : va_P D vwCl ([(h, .inr (1, [.ref n_1, vI 0]))] ++ [(n_1, .inl (cT, 4, .inr (.inr (.inr (.inr (fun _ => none))))))] ++ [(n_3, .inr (4, [.null, .null, .null, .null, .null, .int 0, .int 0, .int 0, .int 0, .int 0]))]) H := hP
  replace hD : va_D A ([(h, .inr (1, [.ref n_1, vI 0]))] ++ [(n_1, .inl (cT, 4, .inr (.inr (.inr (.inr (fun _ => none))))))] ++ [(n_3, .inr (4, [.null, .null, .null, .null, .null, .int 0, .int 0, .int 0, .int 0, .int 0]))]) := hD
  refine W.widen (k := 2) (n := 14) (Nat.le_of_ble_eq_true rfl) (Nat.le_of_ble_eq_true rfl) ?_
  refine lv_dup hx hb dX1_init_36 rfl ?_
  refine z_gov (wc := [(n_3, .inr (4, [.null, .null, .null, .null, .null, .int 0, .int 0, .int 0, .int 0, .int 0]))]) (wn := fun u_4 => [(h, .inr (1, [.ref n_1, vI 0]))] ++ [(n_1, .inl (cT, 4, .inr (.inr (.inr (.inr (fun _ => none))))))] ++ (zTr cI n_3 (u_4 0) (lv2, ho1, (fun _ => 0), (fun _ => 0), (fun _ => 0), 157, 24, 4, 1, 0, 0))) (wr := ([0, 1].filterMap (fun i => ([(h, .inr (1, [.ref n_1, vI 0]))] ++ [(n_1, .inl (cT, 4, .inr (.inr (.inr (.inr (fun _ => none))))))] ++ [(n_3, .inr (4, [.null, .null, .null, .null, .null, .int 0, .int 0, .int 0, .int 0, .int 0]))])[i]?))) (va_runI (As := []) (rest := [.ref n_3, vI 0, .ref n_1]) hF.1 (c_Tr_init l D cI cZ cT n_3 lv1 lv2 ho1 H.size h1 h2 h3) (cwI 0 hts (zW_good wm54) rfl rfl rfl (hts _ wm33) (hts _ wm209) (hts _ wm53) rfl (by decide +kernel) ⟨Nat.le_of_ble_eq_true rfl, Nat.le_of_ble_eq_true rfl⟩) ⟨zP.blind, zP.enter (z_subP (ws' := [(n_3, .inr (4, [.null, .null, .null, .null, .null, .int 0, .int 0, .int 0, .int 0, .int 0]))]) hP [2] rfl) hK (hD.sub [2] (by decide) rfl) hN⟩ rfl rfl hl.1 rfl (lv_room (Nat.le_of_ble_eq_true rfl)) dX1_init_37 ⟨(show 2 + 5 ≤ 25 from Nat.le_of_ble_eq_true rfl), (show 14 + 2041 ≤ 8208 from Nat.le_of_ble_eq_true rfl)⟩) hP hD hS hA [2] [0, 1] [0, 1, 2, 3, 4, 5, 6, 7] rfl rfl (by decide) (fun _ => rfl) (fun u_4 H locs hP hD hS hz => ?_)
  refine W.widen (k := 7) (n := 2055) (Nat.le_of_ble_eq_true rfl) (Nat.le_of_ble_eq_true rfl) ?_
  refine z_aast (j := 0) (v := n_3) (f := (fun _ => none)) (ws' := [(h, .inr (1, [.ref n_1, vI 0]))] ++ [(n_1, .inl (cT, 4, .inr (.inr (.inr (.inr (va_up (fun _ => none) 0 (some n_3)))))))] ++ (zTr cI n_3 (u_4 0) (lv2, ho1, (fun _ => 0), (fun _ => 0), (fun _ => 0), 157, 24, 4, 1, 0, 0))) hx hb hK hP hD hS 1 2 rfl rfl rfl (by decide) (by decide) rfl dX1_init_40 rfl (fun H locs hP hD hS => ?_)
  refine lv_iinc (v := Int32.ofInt 1) (lv' := [(1, vI 1), (0, .ref h)]) hx hb dX1_init_41 hl (k := 0) rfl (by decide +kernel) (by decide) rfl (fun ls hl => ?_)
  refine lv_goto (tgt := 19) hx hb dX1_init_44 (by decide) ?_
  refine lv_iload_n hx hb dX1_init_19 rfl (lv_at hl 0 rfl) ?_
  refine lv_aload_n hx hb dX1_init_20 rfl (lv_at hl 1 rfl) ?_
  refine va_get (D := D) (ci := 1) (v := .ref n_1) (C := RX1) (T := TX1) (N := 2) hx hb hts zin1 hown hK hP 0 rfl rfl 0 (by decide) (hts _ wm210) (fun _ h9 => h9) rfl dX1_init_21 ?_
  refine va_alen (v := Int32.ofInt 4) hx hb hK hP 1 2 rfl rfl rfl dX1_init_24 ?_
  refine z_icmp_ge (tgt := 47) hx hb (by decide) (by decide) dX1_init_25 (by decide) (fun b_5 => ?_) (fun b_5 => ?_)
  · exact absurd b_5 (by decide)
  refine lv_aload_n hx hb dX1_init_28 rfl (lv_at hl 1 rfl) ?_
  refine va_get (D := D) (ci := 1) (v := .ref n_1) (C := RX1) (T := TX1) (N := 2) hx hb hts zin1 hown hK hP 0 rfl rfl 0 (by decide) (hts _ wm210) (fun _ h9 => h9) rfl dX1_init_29 ?_
  refine lv_iload_n hx hb dX1_init_32 rfl (lv_at hl 0 rfl) ?_
  refine va_new (ci := 4) (fs := [.null, .null, .null, .null, .null, .int 0, .int 0, .int 0, .int 0, .int 0]) (C := RX4) (T := TX4) (N := 10) hx hb hts zin4 tyX4 tyX4_ok hown (hts _ wm207) (hts _ wm51) (hts _ wm33) hK hP hD hS hA rfl (fun j hj => by rcases (show j = 0 ∨ j = 1 ∨ j = 2 ∨ j = 3 ∨ j = 4 ∨ j = 5 ∨ j = 6 ∨ j = 7 ∨ j = 8 ∨ j = 9 by omega) with rfl | rfl | rfl | rfl | rfl | rfl | rfl | rfl | rfl | rfl <;> rfl) (show 7 + 1 ≤ 25 from Nat.le_of_ble_eq_true rfl) (show 2055 + 10 ≤ 8208 from Nat.le_of_ble_eq_true rfl) dX1_init_33 (fun n_6 H hP hD hS => ?_)
  replace hP : va_P D vwCl ([(h, .inr (1, [.ref n_1, vI 0]))] ++ [(n_1, .inl (cT, 4, .inr (.inr (.inr (.inr (va_up (fun _ => none) 0 (some n_3)))))))] ++ (zTr cI n_3 (u_4 0) (lv2, ho1, (fun _ => 0), (fun _ => 0), (fun _ => 0), 157, 24, 4, 1, 0, 0)) ++ [(n_6, .inr (4, [.null, .null, .null, .null, .null, .int 0, .int 0, .int 0, .int 0, .int 0]))]) H := hP
  replace hD : va_D A ([(h, .inr (1, [.ref n_1, vI 0]))] ++ [(n_1, .inl (cT, 4, .inr (.inr (.inr (.inr (va_up (fun _ => none) 0 (some n_3)))))))] ++ (zTr cI n_3 (u_4 0) (lv2, ho1, (fun _ => 0), (fun _ => 0), (fun _ => 0), 157, 24, 4, 1, 0, 0)) ++ [(n_6, .inr (4, [.null, .null, .null, .null, .null, .int 0, .int 0, .int 0, .int 0, .int 0]))]) := hD
  refine W.widen (k := 8) (n := 2065) (Nat.le_of_ble_eq_true rfl) (Nat.le_of_ble_eq_true rfl) ?_
  refine lv_dup hx hb dX1_init_36 rfl ?_
  refine z_gov (wc := [(n_6, .inr (4, [.null, .null, .null, .null, .null, .int 0, .int 0, .int 0, .int 0, .int 0]))]) (wn := fun u_7 => [(h, .inr (1, [.ref n_1, vI 0]))] ++ [(n_1, .inl (cT, 4, .inr (.inr (.inr (.inr (va_up (fun _ => none) 0 (some n_3)))))))] ++ (zTr cI n_3 (u_4 0) (lv2, ho1, (fun _ => 0), (fun _ => 0), (fun _ => 0), 157, 24, 4, 1, 0, 0)) ++ (zTr cI n_6 (u_7 0) (lv2, ho1, (fun _ => 0), (fun _ => 0), (fun _ => 0), 157, 24, 4, 1, 0, 0))) (wr := ([0, 1, 2, 3, 4, 5, 6, 7].filterMap (fun i => ([(h, .inr (1, [.ref n_1, vI 0]))] ++ [(n_1, .inl (cT, 4, .inr (.inr (.inr (.inr (va_up (fun _ => none) 0 (some n_3)))))))] ++ (zTr cI n_3 (u_4 0) (lv2, ho1, (fun _ => 0), (fun _ => 0), (fun _ => 0), 157, 24, 4, 1, 0, 0)) ++ [(n_6, .inr (4, [.null, .null, .null, .null, .null, .int 0, .int 0, .int 0, .int 0, .int 0]))])[i]?))) (va_runI (As := []) (rest := [.ref n_6, vI 1, .ref n_1]) hF.1 (c_Tr_init l D cI cZ cT n_6 lv1 lv2 ho1 H.size h1 h2 h3) (cwI 0 hts (zW_good wm54) rfl rfl rfl (hts _ wm33) (hts _ wm209) (hts _ wm53) rfl (by decide +kernel) ⟨Nat.le_of_ble_eq_true rfl, Nat.le_of_ble_eq_true rfl⟩) ⟨zP.blind, zP.enter (z_subP (ws' := [(n_6, .inr (4, [.null, .null, .null, .null, .null, .int 0, .int 0, .int 0, .int 0, .int 0]))]) hP [8] rfl) hK (hD.sub [8] (by decide) rfl) hN⟩ rfl rfl hl.1 rfl (lv_room (Nat.le_of_ble_eq_true rfl)) dX1_init_37 ⟨(show 8 + 5 ≤ 25 from Nat.le_of_ble_eq_true rfl), (show 2065 + 2041 ≤ 8208 from Nat.le_of_ble_eq_true rfl)⟩) hP hD hS hA [8] [0, 1, 2, 3, 4, 5, 6, 7] [0, 1, 2, 3, 4, 5, 6, 7, 8, 9, 10, 11, 12, 13] rfl rfl (by decide) (fun _ => rfl) (fun u_7 H locs hP hD hS hz => ?_)
  refine W.widen (k := 13) (n := 4106) (Nat.le_of_ble_eq_true rfl) (Nat.le_of_ble_eq_true rfl) ?_
  refine z_aast (j := 1) (v := n_6) (f := (va_up (fun _ => none) 0 (some n_3))) (ws' := [(h, .inr (1, [.ref n_1, vI 0]))] ++ [(n_1, .inl (cT, 4, .inr (.inr (.inr (.inr (va_up (va_up (fun _ => none) 0 (some n_3)) 1 (some n_6)))))))] ++ (zTr cI n_3 (u_4 0) (lv2, ho1, (fun _ => 0), (fun _ => 0), (fun _ => 0), 157, 24, 4, 1, 0, 0)) ++ (zTr cI n_6 (u_7 0) (lv2, ho1, (fun _ => 0), (fun _ => 0), (fun _ => 0), 157, 24, 4, 1, 0, 0))) hx hb hK hP hD hS 1 8 rfl rfl rfl (by decide) (by decide) rfl dX1_init_40 rfl (fun H locs hP hD hS => ?_)
  refine lv_iinc (v := Int32.ofInt 2) (lv' := [(1, vI 2), (0, .ref h)]) hx hb dX1_init_41 hl (k := 0) rfl (by decide +kernel) (by decide) rfl (fun ls hl => ?_)
  refine lv_goto (tgt := 19) hx hb dX1_init_44 (by decide) ?_
  refine lv_iload_n hx hb dX1_init_19 rfl (lv_at hl 0 rfl) ?_
  refine lv_aload_n hx hb dX1_init_20 rfl (lv_at hl 1 rfl) ?_
  refine va_get (D := D) (ci := 1) (v := .ref n_1) (C := RX1) (T := TX1) (N := 2) hx hb hts zin1 hown hK hP 0 rfl rfl 0 (by decide) (hts _ wm210) (fun _ h9 => h9) rfl dX1_init_21 ?_
  refine va_alen (v := Int32.ofInt 4) hx hb hK hP 1 2 rfl rfl rfl dX1_init_24 ?_
  refine z_icmp_ge (tgt := 47) hx hb (by decide) (by decide) dX1_init_25 (by decide) (fun b_8 => ?_) (fun b_8 => ?_)
  · exact absurd b_8 (by decide)
  refine lv_aload_n hx hb dX1_init_28 rfl (lv_at hl 1 rfl) ?_
  refine va_get (D := D) (ci := 1) (v := .ref n_1) (C := RX1) (T := TX1) (N := 2) hx hb hts zin1 hown hK hP 0 rfl rfl 0 (by decide) (hts _ wm210) (fun _ h9 => h9) rfl dX1_init_29 ?_
  refine lv_iload_n hx hb dX1_init_32 rfl (lv_at hl 0 rfl) ?_
  refine va_new (ci := 4) (fs := [.null, .null, .null, .null, .null, .int 0, .int 0, .int 0, .int 0, .int 0]) (C := RX4) (T := TX4) (N := 10) hx hb hts zin4 tyX4 tyX4_ok hown (hts _ wm207) (hts _ wm51) (hts _ wm33) hK hP hD hS hA rfl (fun j hj => by rcases (show j = 0 ∨ j = 1 ∨ j = 2 ∨ j = 3 ∨ j = 4 ∨ j = 5 ∨ j = 6 ∨ j = 7 ∨ j = 8 ∨ j = 9 by omega) with rfl | rfl | rfl | rfl | rfl | rfl | rfl | rfl | rfl | rfl <;> rfl) (show 13 + 1 ≤ 25 from Nat.le_of_ble_eq_true rfl) (show 4106 + 10 ≤ 8208 from Nat.le_of_ble_eq_true rfl) dX1_init_33 (fun n_9 H hP hD hS => ?_)
  replace hP : va_P D vwCl ([(h, .inr (1, [.ref n_1, vI 0]))] ++ [(n_1, .inl (cT, 4, .inr (.inr (.inr (.inr (va_up (va_up (fun _ => none) 0 (some n_3)) 1 (some n_6)))))))] ++ (zTr cI n_3 (u_4 0) (lv2, ho1, (fun _ => 0), (fun _ => 0), (fun _ => 0), 157, 24, 4, 1, 0, 0)) ++ (zTr cI n_6 (u_7 0) (lv2, ho1, (fun _ => 0), (fun _ => 0), (fun _ => 0), 157, 24, 4, 1, 0, 0)) ++ [(n_9, .inr (4, [.null, .null, .null, .null, .null, .int 0, .int 0, .int 0, .int 0, .int 0]))]) H := hP
  replace hD : va_D A ([(h, .inr (1, [.ref n_1, vI 0]))] ++ [(n_1, .inl (cT, 4, .inr (.inr (.inr (.inr (va_up (va_up (fun _ => none) 0 (some n_3)) 1 (some n_6)))))))] ++ (zTr cI n_3 (u_4 0) (lv2, ho1, (fun _ => 0), (fun _ => 0), (fun _ => 0), 157, 24, 4, 1, 0, 0)) ++ (zTr cI n_6 (u_7 0) (lv2, ho1, (fun _ => 0), (fun _ => 0), (fun _ => 0), 157, 24, 4, 1, 0, 0)) ++ [(n_9, .inr (4, [.null, .null, .null, .null, .null, .int 0, .int 0, .int 0, .int 0, .int 0]))]) := hD
  refine W.widen (k := 14) (n := 4116) (Nat.le_of_ble_eq_true rfl) (Nat.le_of_ble_eq_true rfl) ?_
  refine lv_dup hx hb dX1_init_36 rfl ?_
  refine z_gov (wc := [(n_9, .inr (4, [.null, .null, .null, .null, .null, .int 0, .int 0, .int 0, .int 0, .int 0]))]) (wn := fun u_10 => [(h, .inr (1, [.ref n_1, vI 0]))] ++ [(n_1, .inl (cT, 4, .inr (.inr (.inr (.inr (va_up (va_up (fun _ => none) 0 (some n_3)) 1 (some n_6)))))))] ++ (zTr cI n_3 (u_4 0) (lv2, ho1, (fun _ => 0), (fun _ => 0), (fun _ => 0), 157, 24, 4, 1, 0, 0)) ++ (zTr cI n_6 (u_7 0) (lv2, ho1, (fun _ => 0), (fun _ => 0), (fun _ => 0), 157, 24, 4, 1, 0, 0)) ++ (zTr cI n_9 (u_10 0) (lv2, ho1, (fun _ => 0), (fun _ => 0), (fun _ => 0), 157, 24, 4, 1, 0, 0))) (wr := ([0, 1, 2, 3, 4, 5, 6, 7, 8, 9, 10, 11, 12, 13].filterMap (fun i => ([(h, .inr (1, [.ref n_1, vI 0]))] ++ [(n_1, .inl (cT, 4, .inr (.inr (.inr (.inr (va_up (va_up (fun _ => none) 0 (some n_3)) 1 (some n_6)))))))] ++ (zTr cI n_3 (u_4 0) (lv2, ho1, (fun _ => 0), (fun _ => 0), (fun _ => 0), 157, 24, 4, 1, 0, 0)) ++ (zTr cI n_6 (u_7 0) (lv2, ho1, (fun _ => 0), (fun _ => 0), (fun _ => 0), 157, 24, 4, 1, 0, 0)) ++ [(n_9, .inr (4, [.null, .null, .null, .null, .null, .int 0, .int 0, .int 0, .int 0, .int 0]))])[i]?))) (va_runI (As := []) (rest := [.ref n_9, vI 2, .ref n_1]) hF.1 (c_Tr_init l D cI cZ cT n_9 lv1 lv2 ho1 H.size h1 h2 h3) (cwI 0 hts (zW_good wm54) rfl rfl rfl (hts _ wm33) (hts _ wm209) (hts _ wm53) rfl (by decide +kernel) ⟨Nat.le_of_ble_eq_true rfl, Nat.le_of_ble_eq_true rfl⟩) ⟨zP.blind, zP.enter (z_subP (ws' := [(n_9, .inr (4, [.null, .null, .null, .null, .null, .int 0, .int 0, .int 0, .int 0, .int 0]))]) hP [14] rfl) hK (hD.sub [14] (by decide) rfl) hN⟩ rfl rfl hl.1 rfl (lv_room (Nat.le_of_ble_eq_true rfl)) dX1_init_37 ⟨(show 14 + 5 ≤ 25 from Nat.le_of_ble_eq_true rfl), (show 4116 + 2041 ≤ 8208 from Nat.le_of_ble_eq_true rfl)⟩) hP hD hS hA [14] [0, 1, 2, 3, 4, 5, 6, 7, 8, 9, 10, 11, 12, 13] [0, 1, 2, 3, 4, 5, 6, 7, 8, 9, 10, 11, 12, 13, 14, 15, 16, 17, 18, 19] rfl rfl (by decide) (fun _ => rfl) (fun u_10 H locs hP hD hS hz => ?_)
  refine W.widen (k := 19) (n := 6157) (Nat.le_of_ble_eq_true rfl) (Nat.le_of_ble_eq_true rfl) ?_
  refine z_aast (j := 2) (v := n_9) (f := (va_up (va_up (fun _ => none) 0 (some n_3)) 1 (some n_6))) (ws' := [(h, .inr (1, [.ref n_1, vI 0]))] ++ [(n_1, .inl (cT, 4, .inr (.inr (.inr (.inr (va_up (va_up (va_up (fun _ => none) 0 (some n_3)) 1 (some n_6)) 2 (some n_9)))))))] ++ (zTr cI n_3 (u_4 0) (lv2, ho1, (fun _ => 0), (fun _ => 0), (fun _ => 0), 157, 24, 4, 1, 0, 0)) ++ (zTr cI n_6 (u_7 0) (lv2, ho1, (fun _ => 0), (fun _ => 0), (fun _ => 0), 157, 24, 4, 1, 0, 0)) ++ (zTr cI n_9 (u_10 0) (lv2, ho1, (fun _ => 0), (fun _ => 0), (fun _ => 0), 157, 24, 4, 1, 0, 0))) hx hb hK hP hD hS 1 14 rfl rfl rfl (by decide) (by decide) rfl dX1_init_40 rfl (fun H locs hP hD hS => ?_)
  refine lv_iinc (v := Int32.ofInt 3) (lv' := [(1, vI 3), (0, .ref h)]) hx hb dX1_init_41 hl (k := 0) rfl (by decide +kernel) (by decide) rfl (fun ls hl => ?_)
  refine lv_goto (tgt := 19) hx hb dX1_init_44 (by decide) ?_
  refine lv_iload_n hx hb dX1_init_19 rfl (lv_at hl 0 rfl) ?_
  refine lv_aload_n hx hb dX1_init_20 rfl (lv_at hl 1 rfl) ?_
  refine va_get (D := D) (ci := 1) (v := .ref n_1) (C := RX1) (T := TX1) (N := 2) hx hb hts zin1 hown hK hP 0 rfl rfl 0 (by decide) (hts _ wm210) (fun _ h9 => h9) rfl dX1_init_21 ?_
  refine va_alen (v := Int32.ofInt 4) hx hb hK hP 1 2 rfl rfl rfl dX1_init_24 ?_
  refine z_icmp_ge (tgt := 47) hx hb (by decide) (by decide) dX1_init_25 (by decide) (fun b_11 => ?_) (fun b_11 => ?_)
  · exact absurd b_11 (by decide)
  refine lv_aload_n hx hb dX1_init_28 rfl (lv_at hl 1 rfl) ?_
  refine va_get (D := D) (ci := 1) (v := .ref n_1) (C := RX1) (T := TX1) (N := 2) hx hb hts zin1 hown hK hP 0 rfl rfl 0 (by decide) (hts _ wm210) (fun _ h9 => h9) rfl dX1_init_29 ?_
  refine lv_iload_n hx hb dX1_init_32 rfl (lv_at hl 0 rfl) ?_
  refine va_new (ci := 4) (fs := [.null, .null, .null, .null, .null, .int 0, .int 0, .int 0, .int 0, .int 0]) (C := RX4) (T := TX4) (N := 10) hx hb hts zin4 tyX4 tyX4_ok hown (hts _ wm207) (hts _ wm51) (hts _ wm33) hK hP hD hS hA rfl (fun j hj => by rcases (show j = 0 ∨ j = 1 ∨ j = 2 ∨ j = 3 ∨ j = 4 ∨ j = 5 ∨ j = 6 ∨ j = 7 ∨ j = 8 ∨ j = 9 by omega) with rfl | rfl | rfl | rfl | rfl | rfl | rfl | rfl | rfl | rfl <;> rfl) (show 19 + 1 ≤ 25 from Nat.le_of_ble_eq_true rfl) (show 6157 + 10 ≤ 8208 from Nat.le_of_ble_eq_true rfl) dX1_init_33 (fun n_12 H hP hD hS => ?_)
  replace hP : va_P D vwCl ([(h, .inr (1, [.ref n_1, vI 0]))] ++ [(n_1, .inl (cT, 4, .inr (.inr (.inr (.inr (va_up (va_up (va_up (fun _ => none) 0 (some n_3)) 1 (some n_6)) 2 (some n_9)))))))] ++ (zTr cI n_3 (u_4 0) (lv2, ho1, (fun _ => 0), (fun _ => 0), (fun _ => 0), 157, 24, 4, 1, 0, 0)) ++ (zTr cI n_6 (u_7 0) (lv2, ho1, (fun _ => 0), (fun _ => 0), (fun _ => 0), 157, 24, 4, 1, 0, 0)) ++ (zTr cI n_9 (u_10 0) (lv2, ho1, (fun _ => 0), (fun _ => 0), (fun _ => 0), 157, 24, 4, 1, 0, 0)) ++ [(n_12, .inr (4, [.null, .null, .null, .null, .null, .int 0, .int 0, .int 0, .int 0, .int 0]))]) H := hP
  replace hD : va_D A ([(h, .inr (1, [.ref n_1, vI 0]))] ++ [(n_1, .inl (cT, 4, .inr (.inr (.inr (.inr (va_up (va_up (va_up (fun _ => none) 0 (some n_3)) 1 (some n_6)) 2 (some n_9)))))))] ++ (zTr cI n_3 (u_4 0) (lv2, ho1, (fun _ => 0), (fun _ => 0), (fun _ => 0), 157, 24, 4, 1, 0, 0)) ++ (zTr cI n_6 (u_7 0) (lv2, ho1, (fun _ => 0), (fun _ => 0), (fun _ => 0), 157, 24, 4, 1, 0, 0)) ++ (zTr cI n_9 (u_10 0) (lv2, ho1, (fun _ => 0), (fun _ => 0), (fun _ => 0), 157, 24, 4, 1, 0, 0)) ++ [(n_12, .inr (4, [.null, .null, .null, .null, .null, .int 0, .int 0, .int 0, .int 0, .int 0]))]) := hD
  refine W.widen (k := 20) (n := 6167) (Nat.le_of_ble_eq_true rfl) (Nat.le_of_ble_eq_true rfl) ?_
  refine lv_dup hx hb dX1_init_36 rfl ?_
  refine z_gov (wc := [(n_12, .inr (4, [.null, .null, .null, .null, .null, .int 0, .int 0, .int 0, .int 0, .int 0]))]) (wn := fun u_13 => [(h, .inr (1, [.ref n_1, vI 0]))] ++ [(n_1, .inl (cT, 4, .inr (.inr (.inr (.inr (va_up (va_up (va_up (fun _ => none) 0 (some n_3)) 1 (some n_6)) 2 (some n_9)))))))] ++ (zTr cI n_3 (u_4 0) (lv2, ho1, (fun _ => 0), (fun _ => 0), (fun _ => 0), 157, 24, 4, 1, 0, 0)) ++ (zTr cI n_6 (u_7 0) (lv2, ho1, (fun _ => 0), (fun _ => 0), (fun _ => 0), 157, 24, 4, 1, 0, 0)) ++ (zTr cI n_9 (u_10 0) (lv2, ho1, (fun _ => 0), (fun _ => 0), (fun _ => 0), 157, 24, 4, 1, 0, 0)) ++ (zTr cI n_12 (u_13 0) (lv2, ho1, (fun _ => 0), (fun _ => 0), (fun _ => 0), 157, 24, 4, 1, 0, 0))) (wr := ([0, 1, 2, 3, 4, 5, 6, 7, 8, 9, 10, 11, 12, 13, 14, 15, 16, 17, 18, 19].filterMap (fun i => ([(h, .inr (1, [.ref n_1, vI 0]))] ++ [(n_1, .inl (cT, 4, .inr (.inr (.inr (.inr (va_up (va_up (va_up (fun _ => none) 0 (some n_3)) 1 (some n_6)) 2 (some n_9)))))))] ++ (zTr cI n_3 (u_4 0) (lv2, ho1, (fun _ => 0), (fun _ => 0), (fun _ => 0), 157, 24, 4, 1, 0, 0)) ++ (zTr cI n_6 (u_7 0) (lv2, ho1, (fun _ => 0), (fun _ => 0), (fun _ => 0), 157, 24, 4, 1, 0, 0)) ++ (zTr cI n_9 (u_10 0) (lv2, ho1, (fun _ => 0), (fun _ => 0), (fun _ => 0), 157, 24, 4, 1, 0, 0)) ++ [(n_12, .inr (4, [.null, .null, .null, .null, .null, .int 0, .int 0, .int 0, .int 0, .int 0]))])[i]?))) (va_runI (As := []) (rest := [.ref n_12, vI 3, .ref n_1]) hF.1 (c_Tr_init l D cI cZ cT n_12 lv1 lv2 ho1 H.size h1 h2 h3) (cwI 0 hts (zW_good wm54) rfl rfl rfl (hts _ wm33) (hts _ wm209) (hts _ wm53) rfl (by decide +kernel) ⟨Nat.le_of_ble_eq_true rfl, Nat.le_of_ble_eq_true rfl⟩) ⟨zP.blind, zP.enter (z_subP (ws' := [(n_12, .inr (4, [.null, .null, .null, .null, .null, .int 0, .int 0, .int 0, .int 0, .int 0]))]) hP [20] rfl) hK (hD.sub [20] (by decide) rfl) hN⟩ rfl rfl hl.1 rfl (lv_room (Nat.le_of_ble_eq_true rfl)) dX1_init_37 ⟨(show 20 + 5 ≤ 25 from Nat.le_of_ble_eq_true rfl), (show 6167 + 2041 ≤ 8208 from Nat.le_of_ble_eq_true rfl)⟩) hP hD hS hA [20] [0, 1, 2, 3, 4, 5, 6, 7, 8, 9, 10, 11, 12, 13, 14, 15, 16, 17, 18, 19] [0, 1, 2, 3, 4, 5, 6, 7, 8, 9, 10, 11, 12, 13, 14, 15, 16, 17, 18, 19, 20, 21, 22, 23, 24, 25] rfl rfl (by decide) (fun _ => rfl) (fun u_13 H locs hP hD hS hz => ?_)
  refine W.widen (k := 25) (n := 8208) (Nat.le_of_ble_eq_true rfl) (Nat.le_of_ble_eq_true rfl) ?_
  refine z_aast (j := 3) (v := n_12) (f := (va_up (va_up (va_up (fun _ => none) 0 (some n_3)) 1 (some n_6)) 2 (some n_9))) (ws' := [(h, .inr (1, [.ref n_1, vI 0]))] ++ [(n_1, .inl (cT, 4, .inr (.inr (.inr (.inr (va_up (va_up (va_up (va_up (fun _ => none) 0 (some n_3)) 1 (some n_6)) 2 (some n_9)) 3 (some n_12)))))))] ++ (zTr cI n_3 (u_4 0) (lv2, ho1, (fun _ => 0), (fun _ => 0), (fun _ => 0), 157, 24, 4, 1, 0, 0)) ++ (zTr cI n_6 (u_7 0) (lv2, ho1, (fun _ => 0), (fun _ => 0), (fun _ => 0), 157, 24, 4, 1, 0, 0)) ++ (zTr cI n_9 (u_10 0) (lv2, ho1, (fun _ => 0), (fun _ => 0), (fun _ => 0), 157, 24, 4, 1, 0, 0)) ++ (zTr cI n_12 (u_13 0) (lv2, ho1, (fun _ => 0), (fun _ => 0), (fun _ => 0), 157, 24, 4, 1, 0, 0))) hx hb hK hP hD hS 1 20 rfl rfl rfl (by decide) (by decide) rfl dX1_init_40 rfl (fun H locs hP hD hS => ?_)
  refine lv_iinc (v := Int32.ofInt 4) (lv' := [(1, vI 4), (0, .ref h)]) hx hb dX1_init_41 hl (k := 0) rfl (by decide +kernel) (by decide) rfl (fun ls hl => ?_)
  refine lv_goto (tgt := 19) hx hb dX1_init_44 (by decide) ?_
  refine lv_iload_n hx hb dX1_init_19 rfl (lv_at hl 0 rfl) ?_
  refine lv_aload_n hx hb dX1_init_20 rfl (lv_at hl 1 rfl) ?_
  refine va_get (D := D) (ci := 1) (v := .ref n_1) (C := RX1) (T := TX1) (N := 2) hx hb hts zin1 hown hK hP 0 rfl rfl 0 (by decide) (hts _ wm210) (fun _ h9 => h9) rfl dX1_init_21 ?_
  refine va_alen (v := Int32.ofInt 4) hx hb hK hP 1 2 rfl rfl rfl dX1_init_24 ?_
  refine z_icmp_ge (tgt := 47) hx hb (by decide) (by decide) dX1_init_25 (by decide) (fun b_14 => ?_) (fun b_14 => ?_)
  rotate_left
  · exact absurd b_14 (by decide)
  rw [zR4_new] at hP hD
  replace hP : va_P D vwCl ([(h, .inr (1, [.ref n_1, vI 0]))] ++ [(n_1, .inl (cT, 4, .inr (.inr (.inr (.inr (zR4 n_3 n_6 n_9 n_12))))))] ++ (zTr cI n_3 (u_4 0) (lv2, ho1, (fun _ => 0), (fun _ => 0), (fun _ => 0), 157, 24, 4, 1, 0, 0)) ++ (zTr cI n_6 (u_7 0) (lv2, ho1, (fun _ => 0), (fun _ => 0), (fun _ => 0), 157, 24, 4, 1, 0, 0)) ++ (zTr cI n_9 (u_10 0) (lv2, ho1, (fun _ => 0), (fun _ => 0), (fun _ => 0), 157, 24, 4, 1, 0, 0)) ++ (zTr cI n_12 (u_13 0) (lv2, ho1, (fun _ => 0), (fun _ => 0), (fun _ => 0), 157, 24, 4, 1, 0, 0))) H := z_subP hP [0, 1, 2, 3, 4, 5, 6, 7, 8, 9, 10, 11, 12, 13, 14, 15, 16, 17, 18, 19, 20, 21, 22, 23, 24, 25] rfl
  replace hD : va_D A ([(h, .inr (1, [.ref n_1, vI 0]))] ++ [(n_1, .inl (cT, 4, .inr (.inr (.inr (.inr (zR4 n_3 n_6 n_9 n_12))))))] ++ (zTr cI n_3 (u_4 0) (lv2, ho1, (fun _ => 0), (fun _ => 0), (fun _ => 0), 157, 24, 4, 1, 0, 0)) ++ (zTr cI n_6 (u_7 0) (lv2, ho1, (fun _ => 0), (fun _ => 0), (fun _ => 0), 157, 24, 4, 1, 0, 0)) ++ (zTr cI n_9 (u_10 0) (lv2, ho1, (fun _ => 0), (fun _ => 0), (fun _ => 0), 157, 24, 4, 1, 0, 0)) ++ (zTr cI n_12 (u_13 0) (lv2, ho1, (fun _ => 0), (fun _ => 0), (fun _ => 0), 157, 24, 4, 1, 0, 0))) := hD.sub [0, 1, 2, 3, 4, 5, 6, 7, 8, 9, 10, 11, 12, 13, 14, 15, 16, 17, 18, 19, 20, 21, 22, 23, 24, 25] (by decide) rfl
  exact z_vret hx hb hr hlk (fun i k => if i = 0 then n_1 else if i = 1 then (if k = 9 then n_3 else (u_4 0) k) else if i = 2 then (if k = 9 then n_6 else (u_7 0) k) else if i = 3 then (if k = 9 then n_9 else (u_10 0) k) else if i = 4 then (if k = 9 then n_12 else (u_13 0) k) else  0) hP hD hS dX1_init_47
