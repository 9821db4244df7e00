def f_Tr_makeRoom_L85 (x1 : Int) (k : Int → TV → Option (TV)) : Nat → Int → TV → Option (TV)
  | 0, _, _ => none
  | n + 1, x3, T =>
  gd (ck x3) <| gd (ck x1) <| if x3 < x1 then (bd1 (f_Rt_put (tR T) (tLev T) x3 (-2)) <| fun T_18 => f_Tr_makeRoom_L85 x1 k n ((x3 + 1)) ((sLev T T_18))) else (k (x3) (T))
def f_Tr_makeRoom (T : TV) (x1 : Int) : Option (TV) :=
  bd1 (f_Tr_room T) <| fun r_1 => gd (ck x1) <| gd (ck r_1) <| if r_1 < x1 then (if 8192 < x1 then (some (T)) else (gd ((tR T) < (x1).toNat ∧ 2 * (tR T) ≤ (x1).toNat ∧ (x1).toNat ≤ 8192) <| f_Tr_makeRoom_L85 (x1) (fun x3_21 T_22 => some (T_22)) FU (r_1) ((sR (sLis (sCor (sSiz (sHol (sLev T (va_cpy (tLev T) (fun _ => 0) 0 0 (tR T))) (va_cpy (tHol T) (fun _ => 0) 0 0 (tR T))) (va_cpy (tSiz T) (fun _ => 0) 0 0 (tR T))) (va_cpy (tCor T) (fun _ => 0) 0 0 (tR T * 4))) (va_cpy (tLis T) (fun _ => 0) 0 0 (tR T * 6))) ((x1).toNat))))) else (some (T))
abbrev rm_Tr_makeRoom (kc ks : Nat) : Room := ({ frames := 2, cells := kc, slots := ks, locals := 62 } : Room)
theorem mo_Tr_makeRoom_L85 (x1 : Int) (res : TV) (k : Int → TV → Option (TV)) (hkm : ∀ (x3 : Int) (T : TV) , k x3 T = some res → (tR T) ≤ (tR (res))) : ∀ (n : Nat) (x3 : Int) (T : TV) , f_Tr_makeRoom_L85 x1 k n x3 T = some res → (tR T) ≤ (tR (res)) := by
  intro n
  induction n with
  | zero => intro x3 T h; cases h
  | succ n ihm =>
    intro x3 T h
    rw [f_Tr_makeRoom_L85] at h
    obtain ⟨g_15, h⟩ := gd_e h
    obtain ⟨g_16, h⟩ := gd_e h
    rcases it_e h with ⟨_, h⟩ | ⟨_, h⟩
    · obtain ⟨T_18, e_19, h⟩ := bd1_e h
      have mo9 : (tR T) ≤ (tR (res)) := ihm ((x3 + 1)) ((sLev T T_18)) h
      exact (show (tR T) ≤ (tR (res)) from by omega)
    · have mo9 : (tR T) ≤ (tR (res)) := hkm (x3) (T) h
      exact (show (tR T) ≤ (tR (res)) from by omega)
theorem mo_Tr_makeRoom (T : TV) (x1 : Int) (res : TV) (h : f_Tr_makeRoom T x1 = some res) : (tR T) ≤ (tR (res)) := by
  unfold f_Tr_makeRoom at h
  obtain ⟨r_1, e_2, h⟩ := bd1_e h
  obtain ⟨g_4, h⟩ := gd_e h
  obtain ⟨g_5, h⟩ := gd_e h
  rcases it_e h with ⟨_, h⟩ | ⟨_, h⟩
  · rcases it_e h with ⟨_, h⟩ | ⟨_, h⟩
    · obtain rfl := Option.some.inj h
      exact (show (tR T) ≤ (tR T) from by omega)
    · obtain ⟨g_8, h⟩ := gd_e h
      have mo9 : ((x1).toNat) ≤ (tR (res)) := mo_Tr_makeRoom_L85 (x1) _ _ (fun x3_21 T_22 h => by
          obtain rfl := Option.some.inj h
          exact (show (tR T_22) ≤ (tR T_22) from by omega)) _ (r_1) ((sR (sLis (sCor (sSiz (sHol (sLev T (va_cpy (tLev T) (fun _ => 0) 0 0 (tR T))) (va_cpy (tHol T) (fun _ => 0) 0 0 (tR T))) (va_cpy (tSiz T) (fun _ => 0) 0 0 (tR T))) (va_cpy (tCor T) (fun _ => 0) 0 0 (tR T * 4))) (va_cpy (tLis T) (fun _ => 0) 0 0 (tR T * 6))) ((x1).toNat))) h
      exact (show (tR T) ≤ (tR (res)) from by omega)
  · obtain rfl := Option.some.inj h
    exact (show (tR T) ≤ (tR T) from by omega)
set_option maxHeartbeats 4000000 in
set_option maxRecDepth 100000 in
theorem w_Tr_makeRoom_L85 {p : Program} {l : Launch} {e : Env} {s : State} {m : MethodId} {args : Array Value} {below : List Frame} {meth : Method} {c : Code} {A : Nat → Prop} (D : va_G) (cI cZ cT : ClassId) (h_T : Nat) (q_T : Nat → Nat) (x1 : Int) (R0_T : Nat) (res : TV) (k : Int → TV → Option (TV)) (hF : zF p m c cX4_makeRoom 4 s args yX4_makeRoom.cls meth none yX4_makeRoom.name A D (zt cI cZ cT))
    (hkm : ∀ (x3 : Int) (T : TV) , k x3 T = some res → (tR T) ≤ (tR (res)))
    (hk : ∀ (x3 : Int) (T : TV) (H : Heap) (locs : List Loc) (ls : Array Slot), k x3 T = some res → R0_T ≤ (tR T) → va_P D vwCl ((zTr cI h_T q_T T)) H → va_D A ((zTr cI h_T q_T T)) → va_S A s.heap H locs → lv_has ls 4 [] → W p l e (rm_Tr_makeRoom (5 * ((tR (res)) - R0_T)) (26 * ((tR (res)) - R0_T))) s m args below meth c H locs (5 * ((tR T) - R0_T)) (26 * ((tR T) - R0_T)) (MQ below (zQv D (fun u => (zTr cI h_T (u 0) (res))) A) args s (5 * ((tR (res)) - R0_T)) (26 * ((tR (res)) - R0_T)) A) (F0 m 106 ls [])) :
    ∀ (n : Nat) (x3 : Int) (T : TV) (H : Heap) (locs : List Loc) (ls : Array Slot), f_Tr_makeRoom_L85 x1 k n x3 T = some res → R0_T ≤ (tR T) → va_P D vwCl ((zTr cI h_T q_T T)) H → va_D A ((zTr cI h_T q_T T)) → va_S A s.heap H locs → lv_has ls 4 [(0, .ref h_T), (1, vI x1), (3, vI x3)] → W p l e (rm_Tr_makeRoom (5 * ((tR (res)) - R0_T)) (26 * ((tR (res)) - R0_T))) s m args below meth c H locs (5 * ((tR T) - R0_T)) (26 * ((tR T) - R0_T)) (MQ below (zQv D (fun u => (zTr cI h_T (u 0) (res))) A) args s (5 * ((tR (res)) - R0_T)) (26 * ((tR (res)) - R0_T)) A) (F0 m 85 ls []) := by
  have hx := hF.1.1
  have hb := hF.1.2.1
  have hml := hF.1.2.2.1
  have hown : s.vm.findClass "RectangleTree$Tree" = some m.cls := hF.1.2.2.2.1
  have hts := hF.1.2.2.2.2
  have hr := hF.2.1
  have hlk := hF.2.2.1
  have hK := hF.2.2.2.2.1
  have hN := hF.2.2.2.2.2.1
  have hA := hF.2.2.2.2.2.2
  intro n
  induction n with
  | zero => intro x3 T  H locs ls h; cases h
  | succ n ih =>
    intro x3 T  H locs ls h hm00 hP hD hS hl
    have hm : (tR T) ≤ (tR (res)) := mo_Tr_makeRoom_L85 x1 res k hkm (n + 1) x3 T h
    have ihm := mo_Tr_makeRoom_L85 x1 res k hkm n
    rw [f_Tr_makeRoom_L85] at h
    refine lv_iload_n hx hb dX4_makeRoom_85 rfl (lv_at hl 2 rfl) ?_
    refine lv_iload_n hx hb dX4_makeRoom_86 rfl (lv_at hl 1 rfl) ?_
    obtain ⟨g_15, h⟩ := gd_e h
    obtain ⟨g_16, h⟩ := gd_e h
    refine z_icmp_ge (tgt := 106) hx hb g_15 g_16 dX4_makeRoom_87 (by decide) (fun b_17 => ?_) (fun b_17 => ?_)
    · have h := it_n b_17 h
      exact hk (x3) (T)  H locs ls h (show R0_T ≤ (tR T) from by omega) hP hD hS (lv_sub hl [] rfl)
    · have h := it_p b_17 h
      refine lv_aload_n hx hb dX4_makeRoom_90 rfl (lv_at hl 0 rfl) ?_
      refine va_get (D := D) (ci := 4) (v := .ref (q_T 0)) (C := RX4) (T := TX4) (N := 10) hx hb hts zin4 hown hK hP 0 rfl rfl 0 (by decide) (hts _ wm114) (fun _ h9 => h9) rfl dX4_makeRoom_91 ?_
      refine lv_iload_n hx hb dX4_makeRoom_94 rfl (lv_at hl 2 rfl) ?_
      refine lv_bipush (v := Int32.ofInt (-2)) hx hb dX4_makeRoom_95 (by decide +kernel) ?_
      obtain ⟨T_18, e_19, h⟩ := bd1_e h
      refine z_gov (wc := (zAr cI ((q_T 0)) ((tR T)) ((tLev T)))) (wn := fun u_20 => (zTr cI h_T q_T (sLev T T_18))) (wr := ([0, 2, 3, 4, 5].filterMap (fun i => ((zTr cI h_T q_T T))[i]?))) (va_runSN (As := [.ref (q_T 0), vI x3, vI (-2)]) (rest := []) hF.1 (c_Rt_put l D cI cZ cT (q_T 0) (tR T) (tLev T) x3 (-2) H.size (T_18) e_19) ⟨va_cnB 3 hts (zW_good wm113) rfl rfl rfl (hN.at 0 rfl) (hts _ wm83) (by decide +kernel) ⟨Nat.le_of_ble_eq_true rfl, Nat.le_of_ble_eq_true rfl⟩, hts _ wm112, trivial⟩ ⟨zP.blind, zP.enter (z_subP (ws' := (zAr cI ((q_T 0)) ((tR T)) ((tLev T)))) hP [1] rfl) hK (hD.sub [1] (by decide) rfl) hN⟩ rfl rfl hl.1 rfl (lv_room (Nat.le_of_ble_eq_true rfl)) dX4_makeRoom_97 ⟨(show (5 * ((tR T) - R0_T)) + 0 ≤ (5 * ((tR (res)) - R0_T)) from by omega), (show (26 * ((tR T) - R0_T)) + 0 ≤ (26 * ((tR (res)) - R0_T)) from by omega)⟩) hP hD hS hA [1] [0, 2, 3, 4, 5] [0, 5, 1, 2, 3, 4] rfl rfl (by decide) (fun _ => rfl) (fun u_20 H locs hP hD hS hz => ?_)
      refine lv_iinc (v := Int32.ofInt (x3 + 1)) (lv' := [(3, vI (x3 + 1)), (0, .ref h_T), (1, vI x1)]) hx hb dX4_makeRoom_100 hl (k := 2) rfl (z_inc _ _) (by decide) rfl (fun ls hl => ?_)
      refine lv_goto (tgt := 85) hx hb dX4_makeRoom_103 (by decide) ?_
      exact ih ((x3 + 1)) ((sLev T T_18))  H locs ls h (show R0_T ≤ (tR T) from by omega) hP hD hS (lv_sub hl [1, 2, 0] rfl)
set_option maxHeartbeats 4000000 in
set_option maxRecDepth 100000 in
theorem c_Tr_makeRoom (l : Launch) (D : va_G) (cI cZ cT : ClassId) (h_T : Nat) (q_T : Nat → Nat) (T : TV) (x1 : Int) (sz : Nat) (res : TV) (h : f_Tr_makeRoom T x1 = some res) : zMv l yX4_makeRoom cX4_makeRoom 4 (rm_Tr_makeRoom (5 * ((tR (res)) - (tR T))) (26 * ((tR (res)) - (tR T)))) D (zt cI cZ cT) [.ref h_T, vI x1] ((zTr cI h_T q_T T)) sz (fun u => (zTr cI h_T (u 0) (res))) (5 * ((tR (res)) - (tR T))) (26 * ((tR (res)) - (tR T))) := by
  refine z_enth (Qc := zQv D (fun u => (zTr cI h_T (u 0) (res)))) (by decide) (Nat.le_of_ble_eq_true rfl) (fun p e s m args below meth c A ls H locs hF hP hD hS hl => ?_)
  have hx := hF.1.1
  have hb := hF.1.2.1
  have hml := hF.1.2.2.1
  have hown : s.vm.findClass "RectangleTree$Tree" = some m.cls := hF.1.2.2.2.1
  have hts := hF.1.2.2.2.2
  have hr := hF.2.1
  have hlk := hF.2.2.1
  have hK := hF.2.2.2.2.1
  have hN := hF.2.2.2.2.2.1
  have hA := hF.2.2.2.2.2.2
  have hm : (tR T) ≤ (tR (res)) := mo_Tr_makeRoom T x1 res h
  refine W.widen (k := (5 * ((tR T) - (tR T)))) (n := (26 * ((tR T) - (tR T)))) (Nat.zero_le _) (Nat.zero_le _) ?_
  unfold f_Tr_makeRoom at h
  refine lv_aload_n hx hb dX4_makeRoom_0 rfl (lv_at hl 0 rfl) ?_
  obtain ⟨r_1, e_2, h⟩ := bd1_e h
  refine z_goi (ws' := []) (ret := r_1) (wc := (zTr cI (h_T) (q_T) (T))) (wn := fun u_3 => (zTr cI h_T q_T T)) (wr := []) (va_runV (As := []) (rest := []) hF.1 (c_Tr_room l D cI cZ cT h_T q_T T H.size (r_1) e_2) (cwV 0 hts (zgV wm360 wm279 wm280 wm84 wm281) rfl rfl rfl (by decide +kernel) ⟨Nat.le_of_ble_eq_true rfl, Nat.le_of_ble_eq_true rfl⟩) ⟨zP.blind, va_recv hK (z_subP (ws' := (zTr cI (h_T) (q_T) (T))) hP [0, 1, 2, 3, 4, 5] rfl) (ci := 4) (q0 := 0) rfl rfl, zP.enter (z_subP (ws' := (zTr cI (h_T) (q_T) (T))) hP [0, 1, 2, 3, 4, 5] rfl) hK (hD.sub [0, 1, 2, 3, 4, 5] (by decide) rfl) hN⟩ rfl rfl hl.1 rfl (lv_room (Nat.le_of_ble_eq_true rfl)) dX4_makeRoom_1 ⟨(show (5 * ((tR T) - (tR T))) + 0 ≤ (5 * ((tR (res)) - (tR T))) from by omega), (show (26 * ((tR T) - (tR T))) + 0 ≤ (26 * ((tR (res)) - (tR T))) from by omega)⟩) hP hD hS hA [0, 1, 2, 3, 4, 5] [] [0, 1, 2, 3, 4, 5] rfl rfl (by decide) (fun _ => rfl) (fun u_3 H locs hP hD hS hz => ?_)
  refine lv_istore_n (lv' := [(2, vI r_1), (0, .ref h_T), (1, vI x1)]) hx hb dX4_makeRoom_4 rfl hl (by decide) rfl (fun ls hl => ?_)
  refine lv_iload_n hx hb dX4_makeRoom_5 rfl (lv_at hl 2 rfl) ?_
  refine lv_iload_n hx hb dX4_makeRoom_6 rfl (lv_at hl 0 rfl) ?_
  obtain ⟨g_4, h⟩ := gd_e h
  obtain ⟨g_5, h⟩ := gd_e h
  refine z_icmp_le (tgt := 17) hx hb g_4 g_5 dX4_makeRoom_7 (by decide) (fun b_6 => ?_) (fun b_6 => ?_)
  · have h := it_n b_6 h
    obtain rfl := Option.some.inj h
    exact z_vret hx hb hr hlk (fun _ => q_T) hP hD hS dX4_makeRoom_17
  · have h := it_p b_6 h
    refine lv_iload_n hx hb dX4_makeRoom_10 rfl (lv_at hl 2 rfl) ?_
    refine lv_sipush (v := Int32.ofInt 8192) hx hb dX4_makeRoom_11 (by decide +kernel) ?_
    refine z_icmp_le (tgt := 18) hx hb g_4 (by decide) dX4_makeRoom_14 (by decide) (fun b_7 => ?_) (fun b_7 => ?_)
    · have h := it_n b_7 h
      obtain ⟨g_8, h⟩ := gd_e h
      have hm : ((x1).toNat) ≤ (tR (res)) := by
        have mo9 : ((x1).toNat) ≤ (tR (res)) := mo_Tr_makeRoom_L85 (x1) _ _ (fun x3_21 T_22 h => by
            obtain rfl := Option.some.inj h
            exact (show (tR T_22) ≤ (tR T_22) from by omega)) _ (r_1) ((sR (sLis (sCor (sSiz (sHol (sLev T (va_cpy (tLev T) (fun _ => 0) 0 0 (tR T))) (va_cpy (tHol T) (fun _ => 0) 0 0 (tR T))) (va_cpy (tSiz T) (fun _ => 0) 0 0 (tR T))) (va_cpy (tCor T) (fun _ => 0) 0 0 (tR T * 4))) (va_cpy (tLis T) (fun _ => 0) 0 0 (tR T * 6))) ((x1).toNat))) h
        exact (show ((x1).toNat) ≤ (tR (res)) from by omega)
      replace hP : va_P D vwCl ([(h_T, .inr (4, [.ref (q_T 0), .ref (q_T 1), .ref (q_T 2), .ref (q_T 3), .ref (q_T 4), vI (tRoot T), vI (tCap T), vI (tRei T), vI (tSpl T), vI (tRec T)])), ((q_T 0), .inl (cI, (tR T), .inl (ia (tLev T)))), ((q_T 1), .inl (cI, (tR T), .inl (ia (tHol T)))), ((q_T 2), .inl (cI, (tR T), .inl (ia (tSiz T)))), ((q_T 3), .inl (cI, (tR T * 4), .inl (ia (tCor T)))), ((q_T 4), .inl (cI, (tR T * 6), .inl (ia (tLis T))))]) H := hP
      replace hD : va_D A ([(h_T, .inr (4, [.ref (q_T 0), .ref (q_T 1), .ref (q_T 2), .ref (q_T 3), .ref (q_T 4), vI (tRoot T), vI (tCap T), vI (tRei T), vI (tSpl T), vI (tRec T)])), ((q_T 0), .inl (cI, (tR T), .inl (ia (tLev T)))), ((q_T 1), .inl (cI, (tR T), .inl (ia (tHol T)))), ((q_T 2), .inl (cI, (tR T), .inl (ia (tSiz T)))), ((q_T 3), .inl (cI, (tR T * 4), .inl (ia (tCor T)))), ((q_T 4), .inl (cI, (tR T * 6), .inl (ia (tLis T))))]) := hD
      refine lv_aload_n hx hb dX4_makeRoom_18 rfl (lv_at hl 1 rfl) ?_
      refine lv_aload_n hx hb dX4_makeRoom_19 rfl (lv_at hl 1 rfl) ?_
      refine va_get (D := D) (ci := 4) (v := .ref (q_T 0)) (C := RX4) (T := TX4) (N := 10) hx hb hts zin4 hown hK hP 0 rfl rfl 0 (by decide) (hts _ wm114) (fun _ h9 => h9) rfl dX4_makeRoom_20 ?_
      refine lv_iload_n hx hb dX4_makeRoom_23 rfl (lv_at hl 2 rfl) ?_
      refine z_gor (wc := (zAr cI (q_T 0) (tR T) (tLev T))) (wn := fun a_9 => [(h_T, .inr (4, [.ref (q_T 0), .ref (q_T 1), .ref (q_T 2), .ref (q_T 3), .ref (q_T 4), vI (tRoot T), vI (tCap T), vI (tRei T), vI (tSpl T), vI (tRec T)])), ((q_T 0), .inl (cI, (tR T), .inl (ia (tLev T)))), ((q_T 1), .inl (cI, (tR T), .inl (ia (tHol T)))), ((q_T 2), .inl (cI, (tR T), .inl (ia (tSiz T)))), ((q_T 3), .inl (cI, (tR T * 4), .inl (ia (tCor T)))), ((q_T 4), .inl (cI, (tR T * 6), .inl (ia (tLis T)))), (a_9, .inl (cI, (x1).toNat, .inl (ia (va_cpy (tLev T) (fun _ => 0) 0 0 (tR T)))))]) (wr := ([0, 2, 3, 4, 5].filterMap (fun i => ([(h_T, .inr (4, [.ref (q_T 0), .ref (q_T 1), .ref (q_T 2), .ref (q_T 3), .ref (q_T 4), vI (tRoot T), vI (tCap T), vI (tRei T), vI (tSpl T), vI (tRec T)])), ((q_T 0), .inl (cI, (tR T), .inl (ia (tLev T)))), ((q_T 1), .inl (cI, (tR T), .inl (ia (tHol T)))), ((q_T 2), .inl (cI, (tR T), .inl (ia (tSiz T)))), ((q_T 3), .inl (cI, (tR T * 4), .inl (ia (tCor T)))), ((q_T 4), .inl (cI, (tR T * 6), .inl (ia (tLis T))))])[i]?))) (va_runS (As := [.ref (q_T 0), vI x1]) (rest := [.ref h_T]) hF.1 (c_J_copyOf l D cI cZ cT (q_T 0) (tR T) (tLev T) x1 ((x1).toNat) H.size (by omega) (by omega) (by omega)) (va_cwS 2 hts (zgS wm365 wm366 wm85 wm367) rfl rfl rfl (by decide +kernel) ⟨Nat.le_of_ble_eq_true rfl, Nat.le_of_ble_eq_true rfl⟩) ⟨zP.blind, zP.enter (z_subP (ws' := (zAr cI (q_T 0) (tR T) (tLev T))) hP [1] rfl) hK (hD.sub [1] (by decide) rfl) hN⟩ rfl rfl hl.1 rfl (lv_room (Nat.le_of_ble_eq_true rfl)) dX4_makeRoom_24 ⟨(show (5 * ((tR T) - (tR T))) + 1 ≤ (5 * ((tR (res)) - (tR T))) from by omega), (show (26 * ((tR T) - (tR T))) + ((x1).toNat) ≤ (26 * ((tR (res)) - (tR T))) from by omega)⟩) hP hD hS hA [1] [0, 2, 3, 4, 5] [0, 5, 1, 2, 3, 4, 6] rfl rfl (by decide) (fun _ => rfl) (fun a_9 H locs hP hD hS hz => ?_)
      refine va_put (D := D) (ci := 4) (v := .ref a_9) (ty := .array .int) (C := RX4) (T := TX4) (N := 10) hx hb hts zin4 tyX4 tyX4_ok nmX4 hown hK hP hD hS 0 rfl rfl 0 (by decide) (hts _ wm114) (fun _ h9 => h9) rfl (by decide +kernel) rfl rfl (Nat.le_of_ble_eq_true rfl) dX4_makeRoom_27 (fun H locs hP hD hS => ?_)
      replace hP : va_P D vwCl ([(h_T, .inr (4, [.ref a_9, .ref (q_T 1), .ref (q_T 2), .ref (q_T 3), .ref (q_T 4), vI (tRoot T), vI (tCap T), vI (tRei T), vI (tSpl T), vI (tRec T)])), (a_9, .inl (cI, (x1).toNat, .inl (ia (va_cpy (tLev T) (fun _ => 0) 0 0 (tR T))))), ((q_T 1), .inl (cI, (tR T), .inl (ia (tHol T)))), ((q_T 2), .inl (cI, (tR T), .inl (ia (tSiz T)))), ((q_T 3), .inl (cI, (tR T * 4), .inl (ia (tCor T)))), ((q_T 4), .inl (cI, (tR T * 6), .inl (ia (tLis T))))]) H := z_subP hP [0, 6, 2, 3, 4, 5] rfl
      replace hD : va_D A ([(h_T, .inr (4, [.ref a_9, .ref (q_T 1), .ref (q_T 2), .ref (q_T 3), .ref (q_T 4), vI (tRoot T), vI (tCap T), vI (tRei T), vI (tSpl T), vI (tRec T)])), (a_9, .inl (cI, (x1).toNat, .inl (ia (va_cpy (tLev T) (fun _ => 0) 0 0 (tR T))))), ((q_T 1), .inl (cI, (tR T), .inl (ia (tHol T)))), ((q_T 2), .inl (cI, (tR T), .inl (ia (tSiz T)))), ((q_T 3), .inl (cI, (tR T * 4), .inl (ia (tCor T)))), ((q_T 4), .inl (cI, (tR T * 6), .inl (ia (tLis T))))]) := hD.sub [0, 6, 2, 3, 4, 5] (by decide) rfl
      refine lv_aload_n hx hb dX4_makeRoom_30 rfl (lv_at hl 1 rfl) ?_
      refine lv_aload_n hx hb dX4_makeRoom_31 rfl (lv_at hl 1 rfl) ?_
      refine va_get (D := D) (ci := 4) (v := .ref (q_T 1)) (C := RX4) (T := TX4) (N := 10) hx hb hts zin4 hown hK hP 0 rfl rfl 1 (by decide) (hts _ wm115) (fun _ h9 => h9) rfl dX4_makeRoom_32 ?_
      refine lv_iload_n hx hb dX4_makeRoom_35 rfl (lv_at hl 2 rfl) ?_
      refine z_gor (wc := (zAr cI (q_T 1) (tR T) (tHol T))) (wn := fun a_10 => [(h_T, .inr (4, [.ref a_9, .ref (q_T 1), .ref (q_T 2), .ref (q_T 3), .ref (q_T 4), vI (tRoot T), vI (tCap T), vI (tRei T), vI (tSpl T), vI (tRec T)])), (a_9, .inl (cI, (x1).toNat, .inl (ia (va_cpy (tLev T) (fun _ => 0) 0 0 (tR T))))), ((q_T 1), .inl (cI, (tR T), .inl (ia (tHol T)))), ((q_T 2), .inl (cI, (tR T), .inl (ia (tSiz T)))), ((q_T 3), .inl (cI, (tR T * 4), .inl (ia (tCor T)))), ((q_T 4), .inl (cI, (tR T * 6), .inl (ia (tLis T)))), (a_10, .inl (cI, (x1).toNat, .inl (ia (va_cpy (tHol T) (fun _ => 0) 0 0 (tR T)))))]) (wr := ([0, 1, 3, 4, 5].filterMap (fun i => ([(h_T, .inr (4, [.ref a_9, .ref (q_T 1), .ref (q_T 2), .ref (q_T 3), .ref (q_T 4), vI (tRoot T), vI (tCap T), vI (tRei T), vI (tSpl T), vI (tRec T)])), (a_9, .inl (cI, (x1).toNat, .inl (ia (va_cpy (tLev T) (fun _ => 0) 0 0 (tR T))))), ((q_T 1), .inl (cI, (tR T), .inl (ia (tHol T)))), ((q_T 2), .inl (cI, (tR T), .inl (ia (tSiz T)))), ((q_T 3), .inl (cI, (tR T * 4), .inl (ia (tCor T)))), ((q_T 4), .inl (cI, (tR T * 6), .inl (ia (tLis T))))])[i]?))) (va_runS (As := [.ref (q_T 1), vI x1]) (rest := [.ref h_T]) hF.1 (c_J_copyOf l D cI cZ cT (q_T 1) (tR T) (tHol T) x1 ((x1).toNat) H.size (by omega) (by omega) (by omega)) (va_cwS 2 hts (zgS wm365 wm366 wm85 wm367) rfl rfl rfl (by decide +kernel) ⟨Nat.le_of_ble_eq_true rfl, Nat.le_of_ble_eq_true rfl⟩) ⟨zP.blind, zP.enter (z_subP (ws' := (zAr cI (q_T 1) (tR T) (tHol T))) hP [2] rfl) hK (hD.sub [2] (by decide) rfl) hN⟩ rfl rfl hl.1 rfl (lv_room (Nat.le_of_ble_eq_true rfl)) dX4_makeRoom_36 ⟨(show ((5 * ((tR T) - (tR T))) + 1) + 1 ≤ (5 * ((tR (res)) - (tR T))) from by omega), (show ((26 * ((tR T) - (tR T))) + ((x1).toNat)) + ((x1).toNat) ≤ (26 * ((tR (res)) - (tR T))) from by omega)⟩) hP hD hS hA [2] [0, 1, 3, 4, 5] [0, 1, 5, 2, 3, 4, 6] rfl rfl (by decide) (fun _ => rfl) (fun a_10 H locs hP hD hS hz => ?_)
      refine va_put (D := D) (ci := 4) (v := .ref a_10) (ty := .array .int) (C := RX4) (T := TX4) (N := 10) hx hb hts zin4 tyX4 tyX4_ok nmX4 hown hK hP hD hS 0 rfl rfl 1 (by decide) (hts _ wm115) (fun _ h9 => h9) rfl (by decide +kernel) rfl rfl (Nat.le_of_ble_eq_true rfl) dX4_makeRoom_39 (fun H locs hP hD hS => ?_)
      replace hP : va_P D vwCl ([(h_T, .inr (4, [.ref a_9, .ref a_10, .ref (q_T 2), .ref (q_T 3), .ref (q_T 4), vI (tRoot T), vI (tCap T), vI (tRei T), vI (tSpl T), vI (tRec T)])), (a_9, .inl (cI, (x1).toNat, .inl (ia (va_cpy (tLev T) (fun _ => 0) 0 0 (tR T))))), (a_10, .inl (cI, (x1).toNat, .inl (ia (va_cpy (tHol T) (fun _ => 0) 0 0 (tR T))))), ((q_T 2), .inl (cI, (tR T), .inl (ia (tSiz T)))), ((q_T 3), .inl (cI, (tR T * 4), .inl (ia (tCor T)))), ((q_T 4), .inl (cI, (tR T * 6), .inl (ia (tLis T))))]) H := z_subP hP [0, 1, 6, 3, 4, 5] rfl
      replace hD : va_D A ([(h_T, .inr (4, [.ref a_9, .ref a_10, .ref (q_T 2), .ref (q_T 3), .ref (q_T 4), vI (tRoot T), vI (tCap T), vI (tRei T), vI (tSpl T), vI (tRec T)])), (a_9, .inl (cI, (x1).toNat, .inl (ia (va_cpy (tLev T) (fun _ => 0) 0 0 (tR T))))), (a_10, .inl (cI, (x1).toNat, .inl (ia (va_cpy (tHol T) (fun _ => 0) 0 0 (tR T))))), ((q_T 2), .inl (cI, (tR T), .inl (ia (tSiz T)))), ((q_T 3), .inl (cI, (tR T * 4), .inl (ia (tCor T)))), ((q_T 4), .inl (cI, (tR T * 6), .inl (ia (tLis T))))]) := hD.sub [0, 1, 6, 3, 4, 5] (by decide) rfl
      refine lv_aload_n hx hb dX4_makeRoom_42 rfl (lv_at hl 1 rfl) ?_
      refine lv_aload_n hx hb dX4_makeRoom_43 rfl (lv_at hl 1 rfl) ?_
      refine va_get (D := D) (ci := 4) (v := .ref (q_T 2)) (C := RX4) (T := TX4) (N := 10) hx hb hts zin4 hown hK hP 0 rfl rfl 2 (by decide) (hts _ wm116) (fun _ h9 => h9) rfl dX4_makeRoom_44 ?_
      refine lv_iload_n hx hb dX4_makeRoom_47 rfl (lv_at hl 2 rfl) ?_
      refine z_gor (wc := (zAr cI (q_T 2) (tR T) (tSiz T))) (wn := fun a_11 => [(h_T, .inr (4, [.ref a_9, .ref a_10, .ref (q_T 2), .ref (q_T 3), .ref (q_T 4), vI (tRoot T), vI (tCap T), vI (tRei T), vI (tSpl T), vI (tRec T)])), (a_9, .inl (cI, (x1).toNat, .inl (ia (va_cpy (tLev T) (fun _ => 0) 0 0 (tR T))))), (a_10, .inl (cI, (x1).toNat, .inl (ia (va_cpy (tHol T) (fun _ => 0) 0 0 (tR T))))), ((q_T 2), .inl (cI, (tR T), .inl (ia (tSiz T)))), ((q_T 3), .inl (cI, (tR T * 4), .inl (ia (tCor T)))), ((q_T 4), .inl (cI, (tR T * 6), .inl (ia (tLis T)))), (a_11, .inl (cI, (x1).toNat, .inl (ia (va_cpy (tSiz T) (fun _ => 0) 0 0 (tR T)))))]) (wr := ([0, 1, 2, 4, 5].filterMap (fun i => ([(h_T, .inr (4, [.ref a_9, .ref a_10, .ref (q_T 2), .ref (q_T 3), .ref (q_T 4), vI (tRoot T), vI (tCap T), vI (tRei T), vI (tSpl T), vI (tRec T)])), (a_9, .inl (cI, (x1).toNat, .inl (ia (va_cpy (tLev T) (fun _ => 0) 0 0 (tR T))))), (a_10, .inl (cI, (x1).toNat, .inl (ia (va_cpy (tHol T) (fun _ => 0) 0 0 (tR T))))), ((q_T 2), .inl (cI, (tR T), .inl (ia (tSiz T)))), ((q_T 3), .inl (cI, (tR T * 4), .inl (ia (tCor T)))), ((q_T 4), .inl (cI, (tR T * 6), .inl (ia (tLis T))))])[i]?))) (va_runS (As := [.ref (q_T 2), vI x1]) (rest := [.ref h_T]) hF.1 (c_J_copyOf l D cI cZ cT (q_T 2) (tR T) (tSiz T) x1 ((x1).toNat) H.size (by omega) (by omega) (by omega)) (va_cwS 2 hts (zgS wm365 wm366 wm85 wm367) rfl rfl rfl (by decide +kernel) ⟨Nat.le_of_ble_eq_true rfl, Nat.le_of_ble_eq_true rfl⟩) ⟨zP.blind, zP.enter (z_subP (ws' := (zAr cI (q_T 2) (tR T) (tSiz T))) hP [3] rfl) hK (hD.sub [3] (by decide) rfl) hN⟩ rfl rfl hl.1 rfl (lv_room (Nat.le_of_ble_eq_true rfl)) dX4_makeRoom_48 ⟨(show (((5 * ((tR T) - (tR T))) + 1) + 1) + 1 ≤ (5 * ((tR (res)) - (tR T))) from by omega), (show (((26 * ((tR T) - (tR T))) + ((x1).toNat)) + ((x1).toNat)) + ((x1).toNat) ≤ (26 * ((tR (res)) - (tR T))) from by omega)⟩) hP hD hS hA [3] [0, 1, 2, 4, 5] [0, 1, 2, 5, 3, 4, 6] rfl rfl (by decide) (fun _ => rfl) (fun a_11 H locs hP hD hS hz => ?_)
      refine va_put (D := D) (ci := 4) (v := .ref a_11) (ty := .array .int) (C := RX4) (T := TX4) (N := 10) hx hb hts zin4 tyX4 tyX4_ok nmX4 hown hK hP hD hS 0 rfl rfl 2 (by decide) (hts _ wm116) (fun _ h9 => h9) rfl (by decide +kernel) rfl rfl (Nat.le_of_ble_eq_true rfl) dX4_makeRoom_51 (fun H locs hP hD hS => ?_)
      replace hP : va_P D vwCl ([(h_T, .inr (4, [.ref a_9, .ref a_10, .ref a_11, .ref (q_T 3), .ref (q_T 4), vI (tRoot T), vI (tCap T), vI (tRei T), vI (tSpl T), vI (tRec T)])), (a_9, .inl (cI, (x1).toNat, .inl (ia (va_cpy (tLev T) (fun _ => 0) 0 0 (tR T))))), (a_10, .inl (cI, (x1).toNat, .inl (ia (va_cpy (tHol T) (fun _ => 0) 0 0 (tR T))))), (a_11, .inl (cI, (x1).toNat, .inl (ia (va_cpy (tSiz T) (fun _ => 0) 0 0 (tR T))))), ((q_T 3), .inl (cI, (tR T * 4), .inl (ia (tCor T)))), ((q_T 4), .inl (cI, (tR T * 6), .inl (ia (tLis T))))]) H := z_subP hP [0, 1, 2, 6, 4, 5] rfl
      replace hD : va_D A ([(h_T, .inr (4, [.ref a_9, .ref a_10, .ref a_11, .ref (q_T 3), .ref (q_T 4), vI (tRoot T), vI (tCap T), vI (tRei T), vI (tSpl T), vI (tRec T)])), (a_9, .inl (cI, (x1).toNat, .inl (ia (va_cpy (tLev T) (fun _ => 0) 0 0 (tR T))))), (a_10, .inl (cI, (x1).toNat, .inl (ia (va_cpy (tHol T) (fun _ => 0) 0 0 (tR T))))), (a_11, .inl (cI, (x1).toNat, .inl (ia (va_cpy (tSiz T) (fun _ => 0) 0 0 (tR T))))), ((q_T 3), .inl (cI, (tR T * 4), .inl (ia (tCor T)))), ((q_T 4), .inl (cI, (tR T * 6), .inl (ia (tLis T))))]) := hD.sub [0, 1, 2, 6, 4, 5] (by decide) rfl
      refine lv_aload_n hx hb dX4_makeRoom_54 rfl (lv_at hl 1 rfl) ?_
      refine lv_aload_n hx hb dX4_makeRoom_55 rfl (lv_at hl 1 rfl) ?_
      refine va_get (D := D) (ci := 4) (v := .ref (q_T 3)) (C := RX4) (T := TX4) (N := 10) hx hb hts zin4 hown hK hP 0 rfl rfl 3 (by decide) (hts _ wm117) (fun _ h9 => h9) rfl dX4_makeRoom_56 ?_
      refine lv_iload_n hx hb dX4_makeRoom_59 rfl (lv_at hl 2 rfl) ?_
      refine lv_iconst (v := Int32.ofInt 4) hx hb dX4_makeRoom_60 rfl ?_
      refine z_imul hx hb dX4_makeRoom_61 ?_
      refine z_gor (wc := (zAr cI (q_T 3) (tR T * 4) (tCor T))) (wn := fun a_12 => [(h_T, .inr (4, [.ref a_9, .ref a_10, .ref a_11, .ref (q_T 3), .ref (q_T 4), vI (tRoot T), vI (tCap T), vI (tRei T), vI (tSpl T), vI (tRec T)])), (a_9, .inl (cI, (x1).toNat, .inl (ia (va_cpy (tLev T) (fun _ => 0) 0 0 (tR T))))), (a_10, .inl (cI, (x1).toNat, .inl (ia (va_cpy (tHol T) (fun _ => 0) 0 0 (tR T))))), (a_11, .inl (cI, (x1).toNat, .inl (ia (va_cpy (tSiz T) (fun _ => 0) 0 0 (tR T))))), ((q_T 3), .inl (cI, (tR T * 4), .inl (ia (tCor T)))), ((q_T 4), .inl (cI, (tR T * 6), .inl (ia (tLis T)))), (a_12, .inl (cI, (x1).toNat * 4, .inl (ia (va_cpy (tCor T) (fun _ => 0) 0 0 (tR T * 4)))))]) (wr := ([0, 1, 2, 3, 5].filterMap (fun i => ([(h_T, .inr (4, [.ref a_9, .ref a_10, .ref a_11, .ref (q_T 3), .ref (q_T 4), vI (tRoot T), vI (tCap T), vI (tRei T), vI (tSpl T), vI (tRec T)])), (a_9, .inl (cI, (x1).toNat, .inl (ia (va_cpy (tLev T) (fun _ => 0) 0 0 (tR T))))), (a_10, .inl (cI, (x1).toNat, .inl (ia (va_cpy (tHol T) (fun _ => 0) 0 0 (tR T))))), (a_11, .inl (cI, (x1).toNat, .inl (ia (va_cpy (tSiz T) (fun _ => 0) 0 0 (tR T))))), ((q_T 3), .inl (cI, (tR T * 4), .inl (ia (tCor T)))), ((q_T 4), .inl (cI, (tR T * 6), .inl (ia (tLis T))))])[i]?))) (va_runS (As := [.ref (q_T 3), vI (x1 * 4)]) (rest := [.ref h_T]) hF.1 (c_J_copyOf l D cI cZ cT (q_T 3) (tR T * 4) (tCor T) (x1 * 4) ((x1).toNat * 4) H.size (by omega) (by omega) (by omega)) (va_cwS 2 hts (zgS wm365 wm366 wm85 wm367) rfl rfl rfl (by decide +kernel) ⟨Nat.le_of_ble_eq_true rfl, Nat.le_of_ble_eq_true rfl⟩) ⟨zP.blind, zP.enter (z_subP (ws' := (zAr cI (q_T 3) (tR T * 4) (tCor T))) hP [4] rfl) hK (hD.sub [4] (by decide) rfl) hN⟩ rfl rfl hl.1 rfl (lv_room (Nat.le_of_ble_eq_true rfl)) dX4_makeRoom_62 ⟨(show ((((5 * ((tR T) - (tR T))) + 1) + 1) + 1) + 1 ≤ (5 * ((tR (res)) - (tR T))) from by omega), (show ((((26 * ((tR T) - (tR T))) + ((x1).toNat)) + ((x1).toNat)) + ((x1).toNat)) + ((x1).toNat * 4) ≤ (26 * ((tR (res)) - (tR T))) from by omega)⟩) hP hD hS hA [4] [0, 1, 2, 3, 5] [0, 1, 2, 3, 5, 4, 6] rfl rfl (by decide) (fun _ => rfl) (fun a_12 H locs hP hD hS hz => ?_)
      refine va_put (D := D) (ci := 4) (v := .ref a_12) (ty := .array .int) (C := RX4) (T := TX4) (N := 10) hx hb hts zin4 tyX4 tyX4_ok nmX4 hown hK hP hD hS 0 rfl rfl 3 (by decide) (hts _ wm117) (fun _ h9 => h9) rfl (by decide +kernel) rfl rfl (Nat.le_of_ble_eq_true rfl) dX4_makeRoom_65 (fun H locs hP hD hS => ?_)
      replace hP : va_P D vwCl ([(h_T, .inr (4, [.ref a_9, .ref a_10, .ref a_11, .ref a_12, .ref (q_T 4), vI (tRoot T), vI (tCap T), vI (tRei T), vI (tSpl T), vI (tRec T)])), (a_9, .inl (cI, (x1).toNat, .inl (ia (va_cpy (tLev T) (fun _ => 0) 0 0 (tR T))))), (a_10, .inl (cI, (x1).toNat, .inl (ia (va_cpy (tHol T) (fun _ => 0) 0 0 (tR T))))), (a_11, .inl (cI, (x1).toNat, .inl (ia (va_cpy (tSiz T) (fun _ => 0) 0 0 (tR T))))), (a_12, .inl (cI, (x1).toNat * 4, .inl (ia (va_cpy (tCor T) (fun _ => 0) 0 0 (tR T * 4))))), ((q_T 4), .inl (cI, (tR T * 6), .inl (ia (tLis T))))]) H := z_subP hP [0, 1, 2, 3, 6, 5] rfl
      replace hD : va_D A ([(h_T, .inr (4, [.ref a_9, .ref a_10, .ref a_11, .ref a_12, .ref (q_T 4), vI (tRoot T), vI (tCap T), vI (tRei T), vI (tSpl T), vI (tRec T)])), (a_9, .inl (cI, (x1).toNat, .inl (ia (va_cpy (tLev T) (fun _ => 0) 0 0 (tR T))))), (a_10, .inl (cI, (x1).toNat, .inl (ia (va_cpy (tHol T) (fun _ => 0) 0 0 (tR T))))), (a_11, .inl (cI, (x1).toNat, .inl (ia (va_cpy (tSiz T) (fun _ => 0) 0 0 (tR T))))), (a_12, .inl (cI, (x1).toNat * 4, .inl (ia (va_cpy (tCor T) (fun _ => 0) 0 0 (tR T * 4))))), ((q_T 4), .inl (cI, (tR T * 6), .inl (ia (tLis T))))]) := hD.sub [0, 1, 2, 3, 6, 5] (by decide) rfl
      refine lv_aload_n hx hb dX4_makeRoom_68 rfl (lv_at hl 1 rfl) ?_
      refine lv_aload_n hx hb dX4_makeRoom_69 rfl (lv_at hl 1 rfl) ?_
      refine va_get (D := D) (ci := 4) (v := .ref (q_T 4)) (C := RX4) (T := TX4) (N := 10) hx hb hts zin4 hown hK hP 0 rfl rfl 4 (by decide) (hts _ wm118) (fun _ h9 => h9) rfl dX4_makeRoom_70 ?_
      refine lv_iload_n hx hb dX4_makeRoom_73 rfl (lv_at hl 2 rfl) ?_
      refine lv_bipush (v := Int32.ofInt 6) hx hb dX4_makeRoom_74 (by decide +kernel) ?_
      refine z_imul hx hb dX4_makeRoom_76 ?_
      refine z_gor (wc := (zAr cI (q_T 4) (tR T * 6) (tLis T))) (wn := fun a_13 => [(h_T, .inr (4, [.ref a_9, .ref a_10, .ref a_11, .ref a_12, .ref (q_T 4), vI (tRoot T), vI (tCap T), vI (tRei T), vI (tSpl T), vI (tRec T)])), (a_9, .inl (cI, (x1).toNat, .inl (ia (va_cpy (tLev T) (fun _ => 0) 0 0 (tR T))))), (a_10, .inl (cI, (x1).toNat, .inl (ia (va_cpy (tHol T) (fun _ => 0) 0 0 (tR T))))), (a_11, .inl (cI, (x1).toNat, .inl (ia (va_cpy (tSiz T) (fun _ => 0) 0 0 (tR T))))), (a_12, .inl (cI, (x1).toNat * 4, .inl (ia (va_cpy (tCor T) (fun _ => 0) 0 0 (tR T * 4))))), ((q_T 4), .inl (cI, (tR T * 6), .inl (ia (tLis T)))), (a_13, .inl (cI, (x1).toNat * 6, .inl (ia (va_cpy (tLis T) (fun _ => 0) 0 0 (tR T * 6)))))]) (wr := ([0, 1, 2, 3, 4].filterMap (fun i => ([(h_T, .inr (4, [.ref a_9, .ref a_10, .ref a_11, .ref a_12, .ref (q_T 4), vI (tRoot T), vI (tCap T), vI (tRei T), vI (tSpl T), vI (tRec T)])), (a_9, .inl (cI, (x1).toNat, .inl (ia (va_cpy (tLev T) (fun _ => 0) 0 0 (tR T))))), (a_10, .inl (cI, (x1).toNat, .inl (ia (va_cpy (tHol T) (fun _ => 0) 0 0 (tR T))))), (a_11, .inl (cI, (x1).toNat, .inl (ia (va_cpy (tSiz T) (fun _ => 0) 0 0 (tR T))))), (a_12, .inl (cI, (x1).toNat * 4, .inl (ia (va_cpy (tCor T) (fun _ => 0) 0 0 (tR T * 4))))), ((q_T 4), .inl (cI, (tR T * 6), .inl (ia (tLis T))))])[i]?))) (va_runS (As := [.ref (q_T 4), vI (x1 * 6)]) (rest := [.ref h_T]) hF.1 (c_J_copyOf l D cI cZ cT (q_T 4) (tR T * 6) (tLis T) (x1 * 6) ((x1).toNat * 6) H.size (by omega) (by omega) (by omega)) (va_cwS 2 hts (zgS wm365 wm366 wm85 wm367) rfl rfl rfl (by decide +kernel) ⟨Nat.le_of_ble_eq_true rfl, Nat.le_of_ble_eq_true rfl⟩) ⟨zP.blind, zP.enter (z_subP (ws' := (zAr cI (q_T 4) (tR T * 6) (tLis T))) hP [5] rfl) hK (hD.sub [5] (by decide) rfl) hN⟩ rfl rfl hl.1 rfl (lv_room (Nat.le_of_ble_eq_true rfl)) dX4_makeRoom_77 ⟨(show (((((5 * ((tR T) - (tR T))) + 1) + 1) + 1) + 1) + 1 ≤ (5 * ((tR (res)) - (tR T))) from by omega), (show (((((26 * ((tR T) - (tR T))) + ((x1).toNat)) + ((x1).toNat)) + ((x1).toNat)) + ((x1).toNat * 4)) + ((x1).toNat * 6) ≤ (26 * ((tR (res)) - (tR T))) from by omega)⟩) hP hD hS hA [5] [0, 1, 2, 3, 4] [0, 1, 2, 3, 4, 5, 6] rfl rfl (by decide) (fun _ => rfl) (fun a_13 H locs hP hD hS hz => ?_)
      refine va_put (D := D) (ci := 4) (v := .ref a_13) (ty := .array .int) (C := RX4) (T := TX4) (N := 10) hx hb hts zin4 tyX4 tyX4_ok nmX4 hown hK hP hD hS 0 rfl rfl 4 (by decide) (hts _ wm118) (fun _ h9 => h9) rfl (by decide +kernel) rfl rfl (Nat.le_of_ble_eq_true rfl) dX4_makeRoom_80 (fun H locs hP hD hS => ?_)
      replace hP : va_P D vwCl ([(h_T, .inr (4, [.ref a_9, .ref a_10, .ref a_11, .ref a_12, .ref a_13, vI (tRoot T), vI (tCap T), vI (tRei T), vI (tSpl T), vI (tRec T)])), (a_9, .inl (cI, (x1).toNat, .inl (ia (va_cpy (tLev T) (fun _ => 0) 0 0 (tR T))))), (a_10, .inl (cI, (x1).toNat, .inl (ia (va_cpy (tHol T) (fun _ => 0) 0 0 (tR T))))), (a_11, .inl (cI, (x1).toNat, .inl (ia (va_cpy (tSiz T) (fun _ => 0) 0 0 (tR T))))), (a_12, .inl (cI, (x1).toNat * 4, .inl (ia (va_cpy (tCor T) (fun _ => 0) 0 0 (tR T * 4))))), (a_13, .inl (cI, (x1).toNat * 6, .inl (ia (va_cpy (tLis T) (fun _ => 0) 0 0 (tR T * 6)))))]) H := z_subP hP [0, 1, 2, 3, 4, 6] rfl
      replace hD : va_D A ([(h_T, .inr (4, [.ref a_9, .ref a_10, .ref a_11, .ref a_12, .ref a_13, vI (tRoot T), vI (tCap T), vI (tRei T), vI (tSpl T), vI (tRec T)])), (a_9, .inl (cI, (x1).toNat, .inl (ia (va_cpy (tLev T) (fun _ => 0) 0 0 (tR T))))), (a_10, .inl (cI, (x1).toNat, .inl (ia (va_cpy (tHol T) (fun _ => 0) 0 0 (tR T))))), (a_11, .inl (cI, (x1).toNat, .inl (ia (va_cpy (tSiz T) (fun _ => 0) 0 0 (tR T))))), (a_12, .inl (cI, (x1).toNat * 4, .inl (ia (va_cpy (tCor T) (fun _ => 0) 0 0 (tR T * 4))))), (a_13, .inl (cI, (x1).toNat * 6, .inl (ia (va_cpy (tLis T) (fun _ => 0) 0 0 (tR T * 6)))))]) := hD.sub [0, 1, 2, 3, 4, 6] (by decide) rfl
      obtain ⟨q_14, rfl, rfl, rfl, rfl, rfl⟩ : ∃ qn : Nat → Nat, a_9 = qn 0 ∧ a_10 = qn 1 ∧ a_11 = qn 2 ∧ a_12 = qn 3 ∧ a_13 = qn 4 := ⟨fun j => [a_9, a_10, a_11, a_12, a_13].getD j 0, rfl, rfl, rfl, rfl, rfl⟩
      replace hP : va_P D vwCl ((zTr cI h_T q_14 (sR (sLis (sCor (sSiz (sHol (sLev T (va_cpy (tLev T) (fun _ => 0) 0 0 (tR T))) (va_cpy (tHol T) (fun _ => 0) 0 0 (tR T))) (va_cpy (tSiz T) (fun _ => 0) 0 0 (tR T))) (va_cpy (tCor T) (fun _ => 0) 0 0 (tR T * 4))) (va_cpy (tLis T) (fun _ => 0) 0 0 (tR T * 6))) ((x1).toNat)))) H := hP
      replace hD : va_D A ((zTr cI h_T q_14 (sR (sLis (sCor (sSiz (sHol (sLev T (va_cpy (tLev T) (fun _ => 0) 0 0 (tR T))) (va_cpy (tHol T) (fun _ => 0) 0 0 (tR T))) (va_cpy (tSiz T) (fun _ => 0) 0 0 (tR T))) (va_cpy (tCor T) (fun _ => 0) 0 0 (tR T * 4))) (va_cpy (tLis T) (fun _ => 0) 0 0 (tR T * 6))) ((x1).toNat)))) := hD
      refine W.widen (k := (5 * (((x1).toNat) - (tR T)))) (n := (26 * (((x1).toNat) - (tR T)))) (show ((((((5 * ((tR T) - (tR T))) + 1) + 1) + 1) + 1) + 1) ≤ (5 * (((x1).toNat) - (tR T))) from by omega) (show ((((((26 * ((tR T) - (tR T))) + ((x1).toNat)) + ((x1).toNat)) + ((x1).toNat)) + ((x1).toNat * 4)) + ((x1).toNat * 6)) ≤ (26 * (((x1).toNat) - (tR T))) from by omega) ?_
      refine lv_iload_n hx hb dX4_makeRoom_83 rfl (lv_at hl 0 rfl) ?_
      refine lv_istore_n (lv' := [(3, vI r_1), (2, vI r_1), (0, .ref h_T), (1, vI x1)]) hx hb dX4_makeRoom_84 rfl hl (by decide) rfl (fun ls hl => ?_)
      refine w_Tr_makeRoom_L85 D cI cZ cT (h_T) (q_14) (x1) ((tR T)) _ _ hF (fun x3_21 T_22 h => by
          obtain rfl := Option.some.inj h
          exact (show (tR T_22) ≤ (tR T_22) from by omega)) (fun x3_21 T_22  H locs ls h hmz_23 hP hD hS hl => ?_) _ (r_1) ((sR (sLis (sCor (sSiz (sHol (sLev T (va_cpy (tLev T) (fun _ => 0) 0 0 (tR T))) (va_cpy (tHol T) (fun _ => 0) 0 0 (tR T))) (va_cpy (tSiz T) (fun _ => 0) 0 0 (tR T))) (va_cpy (tCor T) (fun _ => 0) 0 0 (tR T * 4))) (va_cpy (tLis T) (fun _ => 0) 0 0 (tR T * 6))) ((x1).toNat)))  _ _ _ h (show (tR T) ≤ ((x1).toNat) from by omega) hP hD hS (lv_sub hl [2, 3, 0] rfl)
      have hm : (tR T_22) ≤ (tR (res)) := by
        obtain rfl := Option.some.inj h
        exact (show (tR T_22) ≤ (tR T_22) from by omega)
      obtain rfl := Option.some.inj h
      exact z_vret hx hb hr hlk (fun _ => q_14) hP hD hS dX4_makeRoom_106
    · have h := it_p b_7 h
      obtain rfl := Option.some.inj h
      exact z_vret hx hb hr hlk (fun _ => q_T) hP hD hS dX4_makeRoom_17
def f_Wk_makeRoom (K : KV) (x1 : Int) : Option (KV) :=
  gd (ck x1) <| gd (ck (((kLen K) : Nat) : Int)) <| if (((kLen K) : Nat) : Int) < x1 then (if 8192 < x1 then (some (K)) else (gd ((kLen K) < (x1).toNat ∧ 2 * (kLen K) ≤ (x1).toNat ∧ (x1).toNat ≤ 8192) <| some ((skLen (skPen (skItm K (fun _ => 0)) (fun _ => 0)) ((x1).toNat))))) else (some (K))
abbrev rm_Wk_makeRoom (kc ks : Nat) : Room := ({ frames := 0, cells := kc, slots := ks, locals := 0 } : Room)
theorem mo_Wk_makeRoom (K : KV) (x1 : Int) (res : KV) (h : f_Wk_makeRoom K x1 = some res) : (kLen K) ≤ (kLen (res)) := by
  unfold f_Wk_makeRoom at h
  obtain ⟨g_1, h⟩ := gd_e h
  obtain ⟨g_2, h⟩ := gd_e h
  rcases it_e h with ⟨_, h⟩ | ⟨_, h⟩
  · rcases it_e h with ⟨_, h⟩ | ⟨_, h⟩
    · obtain rfl := Option.some.inj h
      exact (show (kLen K) ≤ (kLen K) from by omega)
    · obtain ⟨g_5, h⟩ := gd_e h
      obtain rfl := Option.some.inj h
      exact (show (kLen K) ≤ ((x1).toNat) from by omega)
  · obtain rfl := Option.some.inj h
    exact (show (kLen K) ≤ (kLen K) from by omega)
set_option maxHeartbeats 4000000 in
set_option maxRecDepth 100000 in
theorem c_Wk_makeRoom (l : Launch) (D : va_G) (cI cZ cT : ClassId) (h_K : Nat) (q_K : Nat → Nat) (K : KV) (x1 : Int) (sz : Nat) (res : KV) (h : f_Wk_makeRoom K x1 = some res) : zMv l yX5_makeRoom cX5_makeRoom 2 (rm_Wk_makeRoom (2 * ((kLen (res)) - (kLen K))) (4 * ((kLen (res)) - (kLen K)))) D (zt cI cZ cT) [.ref h_K, vI x1] ((zWk cI h_K q_K K)) sz (fun u => (zWk cI h_K (u 0) (res))) (2 * ((kLen (res)) - (kLen K))) (4 * ((kLen (res)) - (kLen K))) := by
  refine z_enth (Qc := zQv D (fun u => (zWk cI h_K (u 0) (res)))) (by decide) (Nat.le_of_ble_eq_true rfl) (fun p e s m args below meth c A ls H locs hF hP hD hS hl => ?_)
  have hx := hF.1.1
  have hb := hF.1.2.1
  have hml := hF.1.2.2.1
  have hown : s.vm.findClass "RectangleTree$Walk" = some m.cls := hF.1.2.2.2.1
  have hts := hF.1.2.2.2.2
  have hr := hF.2.1
  have hlk := hF.2.2.1
  have hK := hF.2.2.2.2.1
  have hN := hF.2.2.2.2.2.1
  have hA := hF.2.2.2.2.2.2
  have hm : (kLen K) ≤ (kLen (res)) := mo_Wk_makeRoom K x1 res h
  refine W.widen (k := (2 * ((kLen K) - (kLen K)))) (n := (4 * ((kLen K) - (kLen K)))) (Nat.zero_le _) (Nat.zero_le _) ?_
  unfold f_Wk_makeRoom at h
  refine lv_iload_n hx hb dX5_makeRoom_0 rfl (lv_at hl 1 rfl) ?_
  refine lv_aload_n hx hb dX5_makeRoom_1 rfl (lv_at hl 0 rfl) ?_
  refine va_get (D := D) (ci := 5) (v := .ref (q_K 0)) (C := RX5) (T := TX5) (N := 3) hx hb hts zin5 hown hK hP 0 rfl rfl 0 (by decide) (hts _ wm170) (fun _ h9 => h9) rfl dX5_makeRoom_2 ?_
  refine z_alen (n := (kLen K)) (f := (kItm K)) hx hb hK hP 1 rfl rfl dX5_makeRoom_5 ?_
  obtain ⟨g_1, h⟩ := gd_e h
  obtain ⟨g_2, h⟩ := gd_e h
  refine z_icmp_le (tgt := 30) hx hb g_1 g_2 dX5_makeRoom_6 (by decide) (fun b_3 => ?_) (fun b_3 => ?_)
  · have h := it_n b_3 h
    obtain rfl := Option.some.inj h
    exact z_vret hx hb hr hlk (fun _ => q_K) hP hD hS dX5_makeRoom_30
  · have h := it_p b_3 h
    refine lv_iload_n hx hb dX5_makeRoom_9 rfl (lv_at hl 1 rfl) ?_
    refine lv_sipush (v := Int32.ofInt 8192) hx hb dX5_makeRoom_10 (by decide +kernel) ?_
    refine z_icmp_gt (tgt := 30) hx hb g_1 (by decide) dX5_makeRoom_13 (by decide) (fun b_4 => ?_) (fun b_4 => ?_)
    · have h := it_p b_4 h
      obtain rfl := Option.some.inj h
      exact z_vret hx hb hr hlk (fun _ => q_K) hP hD hS dX5_makeRoom_30
    · have h := it_n b_4 h
      obtain ⟨g_5, h⟩ := gd_e h
      have hm : ((x1).toNat) ≤ (kLen (res)) := by
        obtain rfl := Option.some.inj h
        exact (show ((x1).toNat) ≤ ((x1).toNat) from by omega)
      replace hP : va_P D vwCl ([(h_K, .inr (5, [.ref (q_K 0), vI (kCnt K), .ref (q_K 1)])), ((q_K 0), .inl (cI, (kLen K), .inl (ia (kItm K)))), ((q_K 1), .inl (cI, (kLen K), .inl (ia (kPen K))))]) H := hP
      replace hD : va_D A ([(h_K, .inr (5, [.ref (q_K 0), vI (kCnt K), .ref (q_K 1)])), ((q_K 0), .inl (cI, (kLen K), .inl (ia (kItm K)))), ((q_K 1), .inl (cI, (kLen K), .inl (ia (kPen K))))]) := hD
      refine lv_aload_n hx hb dX5_makeRoom_16 rfl (lv_at hl 0 rfl) ?_
      refine lv_iload_n hx hb dX5_makeRoom_17 rfl (lv_at hl 1 rfl) ?_
      refine z_newi (cI := cI) (N := (x1).toNat) hx hb (hts _ wm157) hK hP hD hS hA rfl (by omega) (by omega) rfl (show (2 * ((kLen K) - (kLen K))) + 1 ≤ (2 * ((kLen (res)) - (kLen K))) from by omega) (show (4 * ((kLen K) - (kLen K))) + (x1).toNat ≤ (4 * ((kLen (res)) - (kLen K))) from by omega) dX5_makeRoom_18 (fun a_6 H hP hD hS => ?_)
      refine va_put (D := D) (ci := 5) (v := .ref a_6) (ty := .array .int) (C := RX5) (T := TX5) (N := 3) hx hb hts zin5 tyX5 tyX5_ok nmX5 hown hK hP hD hS 0 rfl rfl 0 (by decide) (hts _ wm170) (fun _ h9 => h9) rfl (by decide +kernel) rfl rfl (Nat.le_of_ble_eq_true rfl) dX5_makeRoom_20 (fun H locs hP hD hS => ?_)
      replace hP : va_P D vwCl ([(h_K, .inr (5, [.ref a_6, vI (kCnt K), .ref (q_K 1)])), (a_6, .inl (cI, (x1).toNat, .inl (ia (fun _ => 0)))), ((q_K 1), .inl (cI, (kLen K), .inl (ia (kPen K))))]) H := z_subP hP [0, 3, 2] rfl
      replace hD : va_D A ([(h_K, .inr (5, [.ref a_6, vI (kCnt K), .ref (q_K 1)])), (a_6, .inl (cI, (x1).toNat, .inl (ia (fun _ => 0)))), ((q_K 1), .inl (cI, (kLen K), .inl (ia (kPen K))))]) := hD.sub [0, 3, 2] (by decide) rfl
      refine lv_aload_n hx hb dX5_makeRoom_23 rfl (lv_at hl 0 rfl) ?_
      refine lv_iload_n hx hb dX5_makeRoom_24 rfl (lv_at hl 1 rfl) ?_
      refine z_newi (cI := cI) (N := (x1).toNat) hx hb (hts _ wm157) hK hP hD hS hA rfl (by omega) (by omega) rfl (show ((2 * ((kLen K) - (kLen K))) + 1) + 1 ≤ (2 * ((kLen (res)) - (kLen K))) from by omega) (show ((4 * ((kLen K) - (kLen K))) + (x1).toNat) + (x1).toNat ≤ (4 * ((kLen (res)) - (kLen K))) from by omega) dX5_makeRoom_25 (fun a_7 H hP hD hS => ?_)
      refine va_put (D := D) (ci := 5) (v := .ref a_7) (ty := .array .int) (C := RX5) (T := TX5) (N := 3) hx hb hts zin5 tyX5 tyX5_ok nmX5 hown hK hP hD hS 0 rfl rfl 2 (by decide) (hts _ wm176) (fun _ h9 => h9) rfl (by decide +kernel) rfl rfl (Nat.le_of_ble_eq_true rfl) dX5_makeRoom_27 (fun H locs hP hD hS => ?_)
      replace hP : va_P D vwCl ([(h_K, .inr (5, [.ref a_6, vI (kCnt K), .ref a_7])), (a_6, .inl (cI, (x1).toNat, .inl (ia (fun _ => 0)))), (a_7, .inl (cI, (x1).toNat, .inl (ia (fun _ => 0))))]) H := z_subP hP [0, 1, 3] rfl
      replace hD : va_D A ([(h_K, .inr (5, [.ref a_6, vI (kCnt K), .ref a_7])), (a_6, .inl (cI, (x1).toNat, .inl (ia (fun _ => 0)))), (a_7, .inl (cI, (x1).toNat, .inl (ia (fun _ => 0))))]) := hD.sub [0, 1, 3] (by decide) rfl
      obtain ⟨q_8, rfl, rfl⟩ : ∃ qn : Nat → Nat, a_6 = qn 0 ∧ a_7 = qn 1 := ⟨fun j => [a_6, a_7].getD j 0, rfl, rfl⟩
      replace hP : va_P D vwCl ((zWk cI h_K q_8 (skLen (skPen (skItm K (fun _ => 0)) (fun _ => 0)) ((x1).toNat)))) H := hP
      replace hD : va_D A ((zWk cI h_K q_8 (skLen (skPen (skItm K (fun _ => 0)) (fun _ => 0)) ((x1).toNat)))) := hD
      refine W.widen (k := (2 * (((x1).toNat) - (kLen K)))) (n := (4 * (((x1).toNat) - (kLen K)))) (show (((2 * ((kLen K) - (kLen K))) + 1) + 1) ≤ (2 * (((x1).toNat) - (kLen K))) from by omega) (show (((4 * ((kLen K) - (kLen K))) + (x1).toNat) + (x1).toNat) ≤ (4 * (((x1).toNat) - (kLen K))) from by omega) ?_
      obtain rfl := Option.some.inj h
      exact z_vret hx hb hr hlk (fun _ => q_8) hP hD hS dX5_makeRoom_30
def f_Tr_copyRow (n_A0 : Nat) (n_A1 : Nat) (fA0 : Nat → Int) (fA1 : Nat → Int) : Option ((Nat → Int)) :=
  gd (ck ((n_A0 : Nat) : Int)) <| gd (ck ((n_A1 : Nat) : Int)) <| some ((va_cpy fA0 fA1 0 0 ((min ((n_A0 : Nat) : Int) ((n_A1 : Nat) : Int))).toNat))
abbrev rm_Tr_copyRow : Room := ({ frames := 1, cells := 0, slots := 0, locals := 26 } : Room)

set_option maxHeartbeats 4000000 in
set_option maxRecDepth 100000 in
theorem c_Tr_copyRow (l : Launch) (D : va_G) (cI cZ cT : ClassId) (h_A0 : Nat) (n_A0 : Nat) (h_A1 : Nat) (n_A1 : Nat) (fA0 : Nat → Int) (fA1 : Nat → Int) (sz : Nat) (res : (Nat → Int)) (h : f_Tr_copyRow n_A0 n_A1 fA0 fA1 = some res) : zMv l yX4_copyRow cX4_copyRow 2 rm_Tr_copyRow D (zt cI cZ cT) [.ref h_A0, .ref h_A1] ((zAr cI h_A0 n_A0 fA0) ++ (zAr cI h_A1 n_A1 fA1)) sz (fun u => (zAr cI h_A0 n_A0 fA0) ++ (zAr cI h_A1 n_A1 (res))) 0 0 := by
  refine z_enth (Qc := zQv D (fun u => (zAr cI h_A0 n_A0 fA0) ++ (zAr cI h_A1 n_A1 (res)))) (by decide) (Nat.le_of_ble_eq_true rfl) (fun p e s m args below meth c A ls H locs hF hP hD hS hl => ?_)
  have hx := hF.1.1
  have hb := hF.1.2.1
  have hml := hF.1.2.2.1
  have hown : s.vm.findClass "RectangleTree$Tree" = some m.cls := hF.1.2.2.2.1
  have hts := hF.1.2.2.2.2
  have hr := hF.2.1
  have hlk := hF.2.2.1
  have hK := hF.2.2.2.2.1
  have hN := hF.2.2.2.2.2.1
  have hA := hF.2.2.2.2.2.2
  unfold f_Tr_copyRow at h
  refine lv_aload_n hx hb dX4_copyRow_0 rfl (lv_at hl 0 rfl) ?_
  refine lv_iconst (v := Int32.ofInt 0) hx hb dX4_copyRow_1 rfl ?_
  refine lv_aload_n hx hb dX4_copyRow_2 rfl (lv_at hl 1 rfl) ?_
  refine lv_iconst (v := Int32.ofInt 0) hx hb dX4_copyRow_3 rfl ?_
  refine lv_aload_n hx hb dX4_copyRow_4 rfl (lv_at hl 0 rfl) ?_
  refine z_alen (n := n_A0) (f := fA0) hx hb hK hP 0 rfl rfl dX4_copyRow_5 ?_
  refine lv_aload_n hx hb dX4_copyRow_6 rfl (lv_at hl 1 rfl) ?_
  refine z_alen (n := n_A1) (f := fA1) hx hb hK hP 1 rfl rfl dX4_copyRow_7 ?_
  obtain ⟨g_1, h⟩ := gd_e h
  obtain ⟨g_2, h⟩ := gd_e h
  refine z_mmin (rest := [vI 0, .ref h_A1, vI 0, .ref h_A0]) hx hb (by rw [hml]; exact hl.1.symm) hown (hts _ wm384) (hts _ wm376) (hts _ wm92) (hts _ wm377) (Nat.le_of_ble_eq_true rfl) (Nat.le_of_ble_eq_true rfl) (Nat.le_refl _) (Nat.le_refl _) g_1 g_2 dX4_copyRow_8 ?_
  have g_3 : ck (min ((n_A0 : Nat) : Int) ((n_A1 : Nat) : Int)) := ⟨by have := And.intro (show ck ((n_A0 : Nat) : Int) from g_1) (show ck ((n_A1 : Nat) : Int) from g_2); omega, by have := And.intro (show ck ((n_A0 : Nat) : Int) from g_1) (show ck ((n_A1 : Nat) : Int) from g_2); omega⟩
  refine z_copy0 (n0 := n_A0) (n1 := n_A1) (f := fA0) (g := fA1) (ws' := (zAr cI h_A0 n_A0 fA0) ++ (zAr cI h_A1 n_A1 (va_cpy fA0 fA1 0 0 ((min ((n_A0 : Nat) : Int) ((n_A1 : Nat) : Int))).toNat))) hx hb (by rw [hml]; exact hl.1.symm) hown (hts _ wm385) (hts _ wm380) (hts _ wm379) (hts _ wm93) hK hP hD hS 0 1 rfl rfl rfl (by omega) (by omega) (by omega) (by omega) (Nat.le_of_ble_eq_true rfl) (Nat.le_of_ble_eq_true rfl) dX4_copyRow_11 rfl (fun H locs hP hD hS => ?_)
  obtain rfl := Option.some.inj h
  exact z_vret hx hb hr hlk (fun _ _ => 0) hP hD hS dX4_copyRow_14
def f_Tr_copyFrom_L13 (k : Int → TV → Option (TV)) : Nat → Int → TV → Option (TV)
  | 0, _, _ => none
  | n + 1, x2, T =>
  bd1 (f_Tr_room T) <| fun r_11 => gd (ck x2) <| gd (ck r_11) <| if x2 < r_11 then (bd1 (f_Rt_put (tR T) (tLev T) x2 (-2)) <| fun T_17 => f_Tr_copyFrom_L13 k n ((x2 + 1)) ((sLev T T_17))) else (k (x2) (T))
def f_Tr_copyFrom (T : TV) (O : TV) : Option (TV) :=
  bd1 (f_Tr_room O) <| fun r_1 => bd1 (f_Tr_makeRoom T r_1) <| fun T_4 => bd1 (f_Tr_room O) <| fun r_8 => f_Tr_copyFrom_L13 (fun x2_20 T_21 => bd1 (f_Tr_copyRow (tR O) (tR T_21) (tLev O) (tLev T_21)) <| fun T_22 => bd1 (f_Tr_copyRow (tR O) (tR T_21) (tHol O) (tHol T_21)) <| fun T_25 => bd1 (f_Tr_copyRow (tR O) (tR T_21) (tSiz O) (tSiz T_21)) <| fun T_28 => bd1 (f_Tr_copyRow ((tR O) * 4) ((tR T_21) * 4) (tCor O) (tCor T_21)) <| fun T_31 => bd1 (f_Tr_copyRow ((tR O) * 6) ((tR T_21) * 6) (tLis O) (tLis T_21)) <| fun T_34 => some ((sRec (sSpl (sRei (sCap (sRoot (sLis (sCor (sSiz (sHol (sLev T_21 T_22) T_25) T_28) T_31) T_34) (tRoot O)) (tCap O)) (tRei O)) (tSpl O)) (tRec O)))) FU (r_8) (T_4)
abbrev rm_Tr_copyFrom (kc ks : Nat) : Room := ({ frames := 3, cells := kc, slots := ks, locals := 85 } : Room)
theorem mo_Tr_copyFrom_L13 (res : TV) (k : Int → TV → Option (TV)) (hkm : ∀ (x2 : Int) (T : TV) , k x2 T = some res → (tR T) ≤ (tR (res))) : ∀ (n : Nat) (x2 : Int) (T : TV) , f_Tr_copyFrom_L13 k n x2 T = some res → (tR T) ≤ (tR (res)) := by
  intro n
  induction n with
  | zero => intro x2 T h; cases h
  | succ n ihm =>
    intro x2 T h
    rw [f_Tr_copyFrom_L13] at h
    obtain ⟨r_11, e_12, h⟩ := bd1_e h
    obtain ⟨g_14, h⟩ := gd_e h
    obtain ⟨g_15, h⟩ := gd_e h
    rcases it_e h with ⟨_, h⟩ | ⟨_, h⟩
    · obtain ⟨T_17, e_18, h⟩ := bd1_e h
      have mo9 : (tR T) ≤ (tR (res)) := ihm ((x2 + 1)) ((sLev T T_17)) h
      exact (show (tR T) ≤ (tR (res)) from by omega)
    · have mo9 : (tR T) ≤ (tR (res)) := hkm (x2) (T) h
      exact (show (tR T) ≤ (tR (res)) from by omega)
theorem mo_Tr_copyFrom (T : TV) (O : TV) (res : TV) (h : f_Tr_copyFrom T O = some res) : (tR T) ≤ (tR (res)) := by
  unfold f_Tr_copyFrom at h
  obtain ⟨r_1, e_2, h⟩ := bd1_e h
  obtain ⟨T_4, e_5, h⟩ := bd1_e h
  have mo_7 : (tR T) ≤ (tR T_4) := mo_Tr_makeRoom T r_1 (T_4) e_5
  obtain ⟨r_8, e_9, h⟩ := bd1_e h
  have mo9 : (tR T_4) ≤ (tR (res)) := mo_Tr_copyFrom_L13  _ _ (fun x2_20 T_21 h => by
      obtain ⟨T_22, e_23, h⟩ := bd1_e h
      obtain ⟨T_25, e_26, h⟩ := bd1_e h
      obtain ⟨T_28, e_29, h⟩ := bd1_e h
      obtain ⟨T_31, e_32, h⟩ := bd1_e h
      obtain ⟨T_34, e_35, h⟩ := bd1_e h
      obtain rfl := Option.some.inj h
      exact (show (tR T_21) ≤ (tR T_21) from by omega)) _ (r_8) (T_4) h
  exact (show (tR T) ≤ (tR (res)) from by omega)
set_option maxHeartbeats 4000000 in
set_option maxRecDepth 100000 in
theorem w_Tr_copyFrom_L13 {p : Program} {l : Launch} {e : Env} {s : State} {m : MethodId} {args : Array Value} {below : List Frame} {meth : Method} {c : Code} {A : Nat → Prop} (D : va_G) (cI cZ cT : ClassId) (h_T : Nat) (q_T : Nat → Nat) (h_O : Nat) (q_O : Nat → Nat) (O : TV) (R0_T : Nat) (res : TV) (k : Int → TV → Option (TV)) (hF : zF p m c cX4_copyFrom 3 s args yX4_copyFrom.cls meth none yX4_copyFrom.name A D (zt cI cZ cT))
    (hkm : ∀ (x2 : Int) (T : TV) , k x2 T = some res → (tR T) ≤ (tR (res)))
    (hk : ∀ (x2 : Int) (T : TV) (H : Heap) (locs : List Loc) (ls : Array Slot), k x2 T = some res → R0_T ≤ (tR T) → va_P D vwCl ((zTr cI h_T q_T T) ++ (zTr cI h_O q_O O)) H → va_D A ((zTr cI h_T q_T T) ++ (zTr cI h_O q_O O)) → va_S A s.heap H locs → lv_has ls 3 [(0, .ref h_T), (1, .ref h_O)] → W p l e (rm_Tr_copyFrom (5 * ((tR (res)) - R0_T)) (26 * ((tR (res)) - R0_T))) s m args below meth c H locs (5 * ((tR T) - R0_T)) (26 * ((tR T) - R0_T)) (MQ below (zQv D (fun u => (zTr cI h_T (u 0) (res)) ++ (zTr cI h_O q_O O)) A) args s (5 * ((tR (res)) - R0_T)) (26 * ((tR (res)) - R0_T)) A) (F0 m 37 ls [])) :
    ∀ (n : Nat) (x2 : Int) (T : TV) (H : Heap) (locs : List Loc) (ls : Array Slot), f_Tr_copyFrom_L13 k n x2 T = some res → R0_T ≤ (tR T) → va_P D vwCl ((zTr cI h_T q_T T) ++ (zTr cI h_O q_O O)) H → va_D A ((zTr cI h_T q_T T) ++ (zTr cI h_O q_O O)) → va_S A s.heap H locs → lv_has ls 3 [(0, .ref h_T), (1, .ref h_O), (2, vI x2)] → W p l e (rm_Tr_copyFrom (5 * ((tR (res)) - R0_T)) (26 * ((tR (res)) - R0_T))) s m args below meth c H locs (5 * ((tR T) - R0_T)) (26 * ((tR T) - R0_T)) (MQ below (zQv D (fun u => (zTr cI h_T (u 0) (res)) ++ (zTr cI h_O q_O O)) A) args s (5 * ((tR (res)) - R0_T)) (26 * ((tR (res)) - R0_T)) A) (F0 m 13 ls []) := by
  have hx := hF.1.1
  have hb := hF.1.2.1
  have hml := hF.1.2.2.1
  have hown : s.vm.findClass "RectangleTree$Tree" = some m.cls := hF.1.2.2.2.1
  have hts := hF.1.2.2.2.2
  have hr := hF.2.1
  have hlk := hF.2.2.1
  have hK := hF.2.2.2.2.1
  have hN := hF.2.2.2.2.2.1
  have hA := hF.2.2.2.2.2.2
  intro n
  induction n with
  | zero => intro x2 T  H locs ls h; cases h
  | succ n ih =>
    intro x2 T  H locs ls h hm00 hP hD hS hl
    have hm : (tR T) ≤ (tR (res)) := mo_Tr_copyFrom_L13  res k hkm (n + 1) x2 T h
    have ihm := mo_Tr_copyFrom_L13  res k hkm n
    rw [f_Tr_copyFrom_L13] at h
    refine lv_iload_n hx hb dX4_copyFrom_13 rfl (lv_at hl 2 rfl) ?_
    refine lv_aload_n hx hb dX4_copyFrom_14 rfl (lv_at hl 0 rfl) ?_
    obtain ⟨r_11, e_12, h⟩ := bd1_e h
    refine z_goi (ws' := []) (ret := r_11) (wc := (zTr cI (h_T) (q_T) (T))) (wn := fun u_13 => (zTr cI h_T q_T T) ++ (zTr cI h_O q_O O)) (wr := ([6, 7, 8, 9, 10, 11].filterMap (fun i => ((zTr cI h_T q_T T) ++ (zTr cI h_O q_O O))[i]?))) (va_runV (As := []) (rest := [vI x2]) hF.1 (c_Tr_room l D cI cZ cT h_T q_T T H.size (r_11) e_12) (cwV 0 hts (zgV wm360 wm279 wm280 wm84 wm281) rfl rfl rfl (by decide +kernel) ⟨Nat.le_of_ble_eq_true rfl, Nat.le_of_ble_eq_true rfl⟩) ⟨zP.blind, va_recv hK (z_subP (ws' := (zTr cI (h_T) (q_T) (T))) hP [0, 1, 2, 3, 4, 5] rfl) (ci := 4) (q0 := 0) rfl rfl, zP.enter (z_subP (ws' := (zTr cI (h_T) (q_T) (T))) hP [0, 1, 2, 3, 4, 5] rfl) hK (hD.sub [0, 1, 2, 3, 4, 5] (by decide) rfl) hN⟩ rfl rfl hl.1 rfl (lv_room (Nat.le_of_ble_eq_true rfl)) dX4_copyFrom_15 ⟨(show (5 * ((tR T) - R0_T)) + 0 ≤ (5 * ((tR (res)) - R0_T)) from by omega), (show (26 * ((tR T) - R0_T)) + 0 ≤ (26 * ((tR (res)) - R0_T)) from by omega)⟩) hP hD hS hA [0, 1, 2, 3, 4, 5] [6, 7, 8, 9, 10, 11] [6, 7, 8, 9, 10, 11, 0, 1, 2, 3, 4, 5] rfl rfl (by decide) (fun _ => rfl) (fun u_13 H locs hP hD hS hz => ?_)
    obtain ⟨g_14, h⟩ := gd_e h
    obtain ⟨g_15, h⟩ := gd_e h
    refine z_icmp_ge (tgt := 37) hx hb g_14 g_15 dX4_copyFrom_18 (by decide) (fun b_16 => ?_) (fun b_16 => ?_)
    · have h := it_n b_16 h
      exact hk (x2) (T)  H locs ls h (show R0_T ≤ (tR T) from by omega) hP hD hS (lv_sub hl [0, 1] rfl)
    · have h := it_p b_16 h
      refine lv_aload_n hx hb dX4_copyFrom_21 rfl (lv_at hl 0 rfl) ?_
      refine va_get (D := D) (ci := 4) (v := .ref (q_T 0)) (C := RX4) (T := TX4) (N := 10) hx hb hts zin4 hown hK hP 0 rfl rfl 0 (by decide) (hts _ wm114) (fun _ h9 => h9) rfl dX4_copyFrom_22 ?_
      refine lv_iload_n hx hb dX4_copyFrom_25 rfl (lv_at hl 2 rfl) ?_
      refine lv_bipush (v := Int32.ofInt (-2)) hx hb dX4_copyFrom_26 (by decide +kernel) ?_
      obtain ⟨T_17, e_18, h⟩ := bd1_e h
      refine z_gov (wc := (zAr cI ((q_T 0)) ((tR T)) ((tLev T)))) (wn := fun u_19 => (zTr cI h_T q_T (sLev T T_17)) ++ (zTr cI h_O q_O O)) (wr := ([0, 2, 3, 4, 5, 6, 7, 8, 9, 10, 11].filterMap (fun i => ((zTr cI h_T q_T T) ++ (zTr cI h_O q_O O))[i]?))) (va_runSN (As := [.ref (q_T 0), vI x2, vI (-2)]) (rest := []) hF.1 (c_Rt_put l D cI cZ cT (q_T 0) (tR T) (tLev T) x2 (-2) H.size (T_17) e_18) ⟨va_cnB 3 hts (zW_good wm113) rfl rfl rfl (hN.at 0 rfl) (hts _ wm83) (by decide +kernel) ⟨Nat.le_of_ble_eq_true rfl, Nat.le_of_ble_eq_true rfl⟩, hts _ wm112, trivial⟩ ⟨zP.blind, zP.enter (z_subP (ws' := (zAr cI ((q_T 0)) ((tR T)) ((tLev T)))) hP [1] rfl) hK (hD.sub [1] (by decide) rfl) hN⟩ rfl rfl hl.1 rfl (lv_room (Nat.le_of_ble_eq_true rfl)) dX4_copyFrom_28 ⟨(show (5 * ((tR T) - R0_T)) + 0 ≤ (5 * ((tR (res)) - R0_T)) from by omega), (show (26 * ((tR T) - R0_T)) + 0 ≤ (26 * ((tR (res)) - R0_T)) from by omega)⟩) hP hD hS hA [1] [0, 2, 3, 4, 5, 6, 7, 8, 9, 10, 11] [0, 11, 1, 2, 3, 4, 5, 6, 7, 8, 9, 10] rfl rfl (by decide) (fun _ => rfl) (fun u_19 H locs hP hD hS hz => ?_)
      refine lv_iinc (v := Int32.ofInt (x2 + 1)) (lv' := [(2, vI (x2 + 1)), (0, .ref h_T), (1, .ref h_O)]) hx hb dX4_copyFrom_31 hl (k := 2) rfl (z_inc _ _) (by decide) rfl (fun ls hl => ?_)
      refine lv_goto (tgt := 13) hx hb dX4_copyFrom_34 (by decide) ?_
      exact ih ((x2 + 1)) ((sLev T T_17))  H locs ls h (show R0_T ≤ (tR T) from by omega) hP hD hS (lv_sub hl [1, 2, 0] rfl)
set_option maxHeartbeats 4000000 in
set_option maxRecDepth 100000 in
theorem c_Tr_copyFrom (l : Launch) (D : va_G) (cI cZ cT : ClassId) (h_T : Nat) (q_T : Nat → Nat) (h_O : Nat) (q_O : Nat → Nat) (T : TV) (O : TV) (sz : Nat) (res : TV) (h : f_Tr_copyFrom T O = some res) : zMv l yX4_copyFrom cX4_copyFrom 3 (rm_Tr_copyFrom (5 * ((tR (res)) - (tR T))) (26 * ((tR (res)) - (tR T)))) D (zt cI cZ cT) [.ref h_T, .ref h_O] ((zTr cI h_T q_T T) ++ (zTr cI h_O q_O O)) sz (fun u => (zTr cI h_T (u 0) (res)) ++ (zTr cI h_O q_O O)) (5 * ((tR (res)) - (tR T))) (26 * ((tR (res)) - (tR T))) := by
  refine z_enth (Qc := zQv D (fun u => (zTr cI h_T (u 0) (res)) ++ (zTr cI h_O q_O O))) (by decide) (Nat.le_of_ble_eq_true rfl) (fun p e s m args below meth c A ls H locs hF hP hD hS hl => ?_)
  have hx := hF.1.1
  have hb := hF.1.2.1
  have hml := hF.1.2.2.1
  have hown : s.vm.findClass "RectangleTree$Tree" = some m.cls := hF.1.2.2.2.1
  have hts := hF.1.2.2.2.2
  have hr := hF.2.1
  have hlk := hF.2.2.1
  have hK := hF.2.2.2.2.1
  have hN := hF.2.2.2.2.2.1
  have hA := hF.2.2.2.2.2.2
  have hm : (tR T) ≤ (tR (res)) := mo_Tr_copyFrom T O res h
  refine W.widen (k := (5 * ((tR T) - (tR T)))) (n := (26 * ((tR T) - (tR T)))) (Nat.zero_le _) (Nat.zero_le _) ?_
  unfold f_Tr_copyFrom at h
  refine lv_aload_n hx hb dX4_copyFrom_0 rfl (lv_at hl 0 rfl) ?_
  refine lv_aload_n hx hb dX4_copyFrom_1 rfl (lv_at hl 1 rfl) ?_
  obtain ⟨r_1, e_2, h⟩ := bd1_e h
  refine z_goi (ws' := []) (ret := r_1) (wc := (zTr cI (h_O) (q_O) (O))) (wn := fun u_3 => (zTr cI h_T q_T T) ++ (zTr cI h_O q_O O)) (wr := ([0, 1, 2, 3, 4, 5].filterMap (fun i => ((zTr cI h_T q_T T) ++ (zTr cI h_O q_O O))[i]?))) (va_runV (As := []) (rest := [.ref h_T]) hF.1 (c_Tr_room l D cI cZ cT h_O q_O O H.size (r_1) e_2) (cwV 0 hts (zgV wm360 wm279 wm280 wm84 wm281) rfl rfl rfl (by decide +kernel) ⟨Nat.le_of_ble_eq_true rfl, Nat.le_of_ble_eq_true rfl⟩) ⟨zP.blind, va_recv hK (z_subP (ws' := (zTr cI (h_O) (q_O) (O))) hP [6, 7, 8, 9, 10, 11] rfl) (ci := 4) (q0 := 0) rfl rfl, zP.enter (z_subP (ws' := (zTr cI (h_O) (q_O) (O))) hP [6, 7, 8, 9, 10, 11] rfl) hK (hD.sub [6, 7, 8, 9, 10, 11] (by decide) rfl) hN⟩ rfl rfl hl.1 rfl (lv_room (Nat.le_of_ble_eq_true rfl)) dX4_copyFrom_2 ⟨(show (5 * ((tR T) - (tR T))) + 0 ≤ (5 * ((tR (res)) - (tR T))) from by omega), (show (26 * ((tR T) - (tR T))) + 0 ≤ (26 * ((tR (res)) - (tR T))) from by omega)⟩) hP hD hS hA [6, 7, 8, 9, 10, 11] [0, 1, 2, 3, 4, 5] [0, 1, 2, 3, 4, 5, 6, 7, 8, 9, 10, 11] rfl rfl (by decide) (fun _ => rfl) (fun u_3 H locs hP hD hS hz => ?_)
  obtain ⟨T_4, e_5, h⟩ := bd1_e h
  have mo_7 : (tR T) ≤ (tR T_4) := mo_Tr_makeRoom T r_1 (T_4) e_5
  have hm : (tR T_4) ≤ (tR (res)) := by
    obtain ⟨r_8, e_9, h⟩ := bd1_e h
    have mo9 : (tR T_4) ≤ (tR (res)) := mo_Tr_copyFrom_L13  _ _ (fun x2_20 T_21 h => by
        obtain ⟨T_22, e_23, h⟩ := bd1_e h
        obtain ⟨T_25, e_26, h⟩ := bd1_e h
        obtain ⟨T_28, e_29, h⟩ := bd1_e h
        obtain ⟨T_31, e_32, h⟩ := bd1_e h
        obtain ⟨T_34, e_35, h⟩ := bd1_e h
        obtain rfl := Option.some.inj h
        exact (show (tR T_21) ≤ (tR T_21) from by omega)) _ (r_8) (T_4) h
    exact (show (tR T_4) ≤ (tR (res)) from by omega)
  refine z_gov (wc := (zTr cI (h_T) (q_T) (T))) (wn := fun u_6 => (zTr cI h_T (u_6 0) T_4) ++ (zTr cI h_O q_O O)) (wr := ([6, 7, 8, 9, 10, 11].filterMap (fun i => ((zTr cI h_T q_T T) ++ (zTr cI h_O q_O O))[i]?))) (va_runV (As := [vI r_1]) (rest := []) hF.1 (c_Tr_makeRoom l D cI cZ cT h_T q_T T r_1 H.size (T_4) e_5) (cwV 1 hts (zgV wm361 wm363 wm3 wm84 wm364) rfl rfl rfl (by decide +kernel) ⟨Nat.le_of_ble_eq_true rfl, Nat.le_of_ble_eq_true rfl⟩) ⟨zP.blind, va_recv hK (z_subP (ws' := (zTr cI (h_T) (q_T) (T))) hP [0, 1, 2, 3, 4, 5] rfl) (ci := 4) (q0 := 0) rfl rfl, zP.enter (z_subP (ws' := (zTr cI (h_T) (q_T) (T))) hP [0, 1, 2, 3, 4, 5] rfl) hK (hD.sub [0, 1, 2, 3, 4, 5] (by decide) rfl) hN⟩ rfl rfl hl.1 rfl (lv_room (Nat.le_of_ble_eq_true rfl)) dX4_copyFrom_5 ⟨(show (5 * ((tR T) - (tR T))) + (5 * ((tR T_4) - (tR T))) ≤ (5 * ((tR (res)) - (tR T))) from by omega), (show (26 * ((tR T) - (tR T))) + (26 * ((tR T_4) - (tR T))) ≤ (26 * ((tR (res)) - (tR T))) from by omega)⟩) hP hD hS hA [0, 1, 2, 3, 4, 5] [6, 7, 8, 9, 10, 11] [6, 7, 8, 9, 10, 11, 0, 1, 2, 3, 4, 5] rfl rfl (by decide) (fun _ => rfl) (fun u_6 H locs hP hD hS hz => ?_)
  refine W.widen (k := (5 * ((tR T_4) - (tR T)))) (n := (26 * ((tR T_4) - (tR T)))) (show (5 * ((tR T) - (tR T))) + (5 * ((tR T_4) - (tR T))) ≤ (5 * ((tR T_4) - (tR T))) from by omega) (show (26 * ((tR T) - (tR T))) + (26 * ((tR T_4) - (tR T))) ≤ (26 * ((tR T_4) - (tR T))) from by omega) ?_
  refine lv_aload_n hx hb dX4_copyFrom_8 rfl (lv_at hl 1 rfl) ?_
  obtain ⟨r_8, e_9, h⟩ := bd1_e h
  refine z_goi (ws' := []) (ret := r_8) (wc := (zTr cI (h_O) (q_O) (O))) (wn := fun u_10 => (zTr cI h_T (u_6 0) T_4) ++ (zTr cI h_O q_O O)) (wr := ([0, 1, 2, 3, 4, 5].filterMap (fun i => ((zTr cI h_T (u_6 0) T_4) ++ (zTr cI h_O q_O O))[i]?))) (va_runV (As := []) (rest := []) hF.1 (c_Tr_room l D cI cZ cT h_O q_O O H.size (r_8) e_9) (cwV 0 hts (zgV wm360 wm279 wm280 wm84 wm281) rfl rfl rfl (by decide +kernel) ⟨Nat.le_of_ble_eq_true rfl, Nat.le_of_ble_eq_true rfl⟩) ⟨zP.blind, va_recv hK (z_subP (ws' := (zTr cI (h_O) (q_O) (O))) hP [6, 7, 8, 9, 10, 11] rfl) (ci := 4) (q0 := 0) rfl rfl, zP.enter (z_subP (ws' := (zTr cI (h_O) (q_O) (O))) hP [6, 7, 8, 9, 10, 11] rfl) hK (hD.sub [6, 7, 8, 9, 10, 11] (by decide) rfl) hN⟩ rfl rfl hl.1 rfl (lv_room (Nat.le_of_ble_eq_true rfl)) dX4_copyFrom_9 ⟨(show (5 * ((tR T_4) - (tR T))) + 0 ≤ (5 * ((tR (res)) - (tR T))) from by omega), (show (26 * ((tR T_4) - (tR T))) + 0 ≤ (26 * ((tR (res)) - (tR T))) from by omega)⟩) hP hD hS hA [6, 7, 8, 9, 10, 11] [0, 1, 2, 3, 4, 5] [0, 1, 2, 3, 4, 5, 6, 7, 8, 9, 10, 11] rfl rfl (by decide) (fun _ => rfl) (fun u_10 H locs hP hD hS hz => ?_)
  refine lv_istore_n (lv' := [(2, vI r_8), (0, .ref h_T), (1, .ref h_O)]) hx hb dX4_copyFrom_12 rfl hl (by decide) rfl (fun ls hl => ?_)
  refine w_Tr_copyFrom_L13 D cI cZ cT (h_T) ((u_6 0)) (h_O) (q_O) (O) ((tR T)) _ _ hF (fun x2_20 T_21 h => by
      obtain ⟨T_22, e_23, h⟩ := bd1_e h
      obtain ⟨T_25, e_26, h⟩ := bd1_e h
      obtain ⟨T_28, e_29, h⟩ := bd1_e h
      obtain ⟨T_31, e_32, h⟩ := bd1_e h
      obtain ⟨T_34, e_35, h⟩ := bd1_e h
      obtain rfl := Option.some.inj h
      exact (show (tR T_21) ≤ (tR T_21) from by omega)) (fun x2_20 T_21  H locs ls h hmz_37 hP hD hS hl => ?_) _ (r_8) (T_4)  _ _ _ h (show (tR T) ≤ (tR T_4) from by omega) hP hD hS (lv_sub hl [1, 2, 0] rfl)
  have hm : (tR T_21) ≤ (tR (res)) := by
    obtain ⟨T_22, e_23, h⟩ := bd1_e h
    obtain ⟨T_25, e_26, h⟩ := bd1_e h
    obtain ⟨T_28, e_29, h⟩ := bd1_e h
    obtain ⟨T_31, e_32, h⟩ := bd1_e h
    obtain ⟨T_34, e_35, h⟩ := bd1_e h
    obtain rfl := Option.some.inj h
    exact (show (tR T_21) ≤ (tR T_21) from by omega)
  refine lv_aload_n hx hb dX4_copyFrom_37 rfl (lv_at hl 1 rfl) ?_
  refine va_get (D := D) (ci := 4) (v := .ref (q_O 0)) (C := RX4) (T := TX4) (N := 10) hx hb hts zin4 hown hK hP 6 rfl rfl 0 (by decide) (hts _ wm114) (fun _ h9 => h9) rfl dX4_copyFrom_38 ?_
  refine lv_aload_n hx hb dX4_copyFrom_41 rfl (lv_at hl 0 rfl) ?_
  refine va_get (D := D) (ci := 4) (v := .ref ((u_6 0) 0)) (C := RX4) (T := TX4) (N := 10) hx hb hts zin4 hown hK hP 0 rfl rfl 0 (by decide) (hts _ wm114) (fun _ h9 => h9) rfl dX4_copyFrom_42 ?_
  obtain ⟨T_22, e_23, h⟩ := bd1_e h
  refine z_gov (wc := (zAr cI ((q_O 0)) ((tR O)) ((tLev O))) ++ (zAr cI (((u_6 0) 0)) ((tR T_21)) ((tLev T_21)))) (wn := fun u_24 => (zTr cI h_T (u_6 0) (sLev T_21 T_22)) ++ (zTr cI h_O q_O O)) (wr := ([0, 2, 3, 4, 5, 6, 8, 9, 10, 11].filterMap (fun i => ((zTr cI h_T (u_6 0) T_21) ++ (zTr cI h_O q_O O))[i]?))) (va_runS (As := [.ref (q_O 0), .ref ((u_6 0) 0)]) (rest := []) hF.1 (c_Tr_copyRow l D cI cZ cT (q_O 0) (tR O) ((u_6 0) 0) (tR T_21) (tLev O) (tLev T_21) H.size (T_22) e_23) (va_cwS 2 hts (zgS wm381 wm382 wm84 wm383) rfl rfl rfl (by decide +kernel) ⟨Nat.le_of_ble_eq_true rfl, Nat.le_of_ble_eq_true rfl⟩) ⟨zP.blind, zP.enter (z_subP (ws' := (zAr cI ((q_O 0)) ((tR O)) ((tLev O))) ++ (zAr cI (((u_6 0) 0)) ((tR T_21)) ((tLev T_21)))) hP [7, 1] rfl) hK (hD.sub [7, 1] (by decide) rfl) hN⟩ rfl rfl hl.1 rfl (lv_room (Nat.le_of_ble_eq_true rfl)) dX4_copyFrom_45 ⟨(show (5 * ((tR T_21) - (tR T))) + 0 ≤ (5 * ((tR (res)) - (tR T))) from by omega), (show (26 * ((tR T_21) - (tR T))) + 0 ≤ (26 * ((tR (res)) - (tR T))) from by omega)⟩) hP hD hS hA [7, 1] [0, 2, 3, 4, 5, 6, 8, 9, 10, 11] [0, 11, 1, 2, 3, 4, 5, 10, 6, 7, 8, 9] rfl rfl (by decide) (fun _ => rfl) (fun u_24 H locs hP hD hS hz => ?_)
  refine lv_aload_n hx hb dX4_copyFrom_48 rfl (lv_at hl 1 rfl) ?_
  refine va_get (D := D) (ci := 4) (v := .ref (q_O 1)) (C := RX4) (T := TX4) (N := 10) hx hb hts zin4 hown hK hP 6 rfl rfl 1 (by decide) (hts _ wm115) (fun _ h9 => h9) rfl dX4_copyFrom_49 ?_
  refine lv_aload_n hx hb dX4_copyFrom_52 rfl (lv_at hl 0 rfl) ?_
  refine va_get (D := D) (ci := 4) (v := .ref ((u_6 0) 1)) (C := RX4) (T := TX4) (N := 10) hx hb hts zin4 hown hK hP 0 rfl rfl 1 (by decide) (hts _ wm115) (fun _ h9 => h9) rfl dX4_copyFrom_53 ?_
  obtain ⟨T_25, e_26, h⟩ := bd1_e h
  refine z_gov (wc := (zAr cI ((q_O 1)) ((tR O)) ((tHol O))) ++ (zAr cI (((u_6 0) 1)) ((tR T_21)) ((tHol T_21)))) (wn := fun u_27 => (zTr cI h_T (u_6 0) (sHol (sLev T_21 T_22) T_25)) ++ (zTr cI h_O q_O O)) (wr := ([0, 1, 3, 4, 5, 6, 7, 9, 10, 11].filterMap (fun i => ((zTr cI h_T (u_6 0) (sLev T_21 T_22)) ++ (zTr cI h_O q_O O))[i]?))) (va_runS (As := [.ref (q_O 1), .ref ((u_6 0) 1)]) (rest := []) hF.1 (c_Tr_copyRow l D cI cZ cT (q_O 1) (tR O) ((u_6 0) 1) (tR T_21) (tHol O) (tHol T_21) H.size (T_25) e_26) (va_cwS 2 hts (zgS wm381 wm382 wm84 wm383) rfl rfl rfl (by decide +kernel) ⟨Nat.le_of_ble_eq_true rfl, Nat.le_of_ble_eq_true rfl⟩) ⟨zP.blind, zP.enter (z_subP (ws' := (zAr cI ((q_O 1)) ((tR O)) ((tHol O))) ++ (zAr cI (((u_6 0) 1)) ((tR T_21)) ((tHol T_21)))) hP [8, 2] rfl) hK (hD.sub [8, 2] (by decide) rfl) hN⟩ rfl rfl hl.1 rfl (lv_room (Nat.le_of_ble_eq_true rfl)) dX4_copyFrom_56 ⟨(show (5 * ((tR T_21) - (tR T))) + 0 ≤ (5 * ((tR (res)) - (tR T))) from by omega), (show (26 * ((tR T_21) - (tR T))) + 0 ≤ (26 * ((tR (res)) - (tR T))) from by omega)⟩) hP hD hS hA [8, 2] [0, 1, 3, 4, 5, 6, 7, 9, 10, 11] [0, 1, 11, 2, 3, 4, 5, 6, 10, 7, 8, 9] rfl rfl (by decide) (fun _ => rfl) (fun u_27 H locs hP hD hS hz => ?_)
  refine lv_aload_n hx hb dX4_copyFrom_59 rfl (lv_at hl 1 rfl) ?_
  refine va_get (D := D) (ci := 4) (v := .ref (q_O 2)) (C := RX4) (T := TX4) (N := 10) hx hb hts zin4 hown hK hP 6 rfl rfl 2 (by decide) (hts _ wm116) (fun _ h9 => h9) rfl dX4_copyFrom_60 ?_
  refine lv_aload_n hx hb dX4_copyFrom_63 rfl (lv_at hl 0 rfl) ?_
  refine va_get (D := D) (ci := 4) (v := .ref ((u_6 0) 2)) (C := RX4) (T := TX4) (N := 10) hx hb hts zin4 hown hK hP 0 rfl rfl 2 (by decide) (hts _ wm116) (fun _ h9 => h9) rfl dX4_copyFrom_64 ?_
  obtain ⟨T_28, e_29, h⟩ := bd1_e h
  refine z_gov (wc := (zAr cI ((q_O 2)) ((tR O)) ((tSiz O))) ++ (zAr cI (((u_6 0) 2)) ((tR T_21)) ((tSiz T_21)))) (wn := fun u_30 => (zTr cI h_T (u_6 0) (sSiz (sHol (sLev T_21 T_22) T_25) T_28)) ++ (zTr cI h_O q_O O)) (wr := ([0, 1, 2, 4, 5, 6, 7, 8, 10, 11].filterMap (fun i => ((zTr cI h_T (u_6 0) (sHol (sLev T_21 T_22) T_25)) ++ (zTr cI h_O q_O O))[i]?))) (va_runS (As := [.ref (q_O 2), .ref ((u_6 0) 2)]) (rest := []) hF.1 (c_Tr_copyRow l D cI cZ cT (q_O 2) (tR O) ((u_6 0) 2) (tR T_21) (tSiz O) (tSiz T_21) H.size (T_28) e_29) (va_cwS 2 hts (zgS wm381 wm382 wm84 wm383) rfl rfl rfl (by decide +kernel) ⟨Nat.le_of_ble_eq_true rfl, Nat.le_of_ble_eq_true rfl⟩) ⟨zP.blind, zP.enter (z_subP (ws' := (zAr cI ((q_O 2)) ((tR O)) ((tSiz O))) ++ (zAr cI (((u_6 0) 2)) ((tR T_21)) ((tSiz T_21)))) hP [9, 3] rfl) hK (hD.sub [9, 3] (by decide) rfl) hN⟩ rfl rfl hl.1 rfl (lv_room (Nat.le_of_ble_eq_true rfl)) dX4_copyFrom_67 ⟨(show (5 * ((tR T_21) - (tR T))) + 0 ≤ (5 * ((tR (res)) - (tR T))) from by omega), (show (26 * ((tR T_21) - (tR T))) + 0 ≤ (26 * ((tR (res)) - (tR T))) from by omega)⟩) hP hD hS hA [9, 3] [0, 1, 2, 4, 5, 6, 7, 8, 10, 11] [0, 1, 2, 11, 3, 4, 5, 6, 7, 10, 8, 9] rfl rfl (by decide) (fun _ => rfl) (fun u_30 H locs hP hD hS hz => ?_)
  refine lv_aload_n hx hb dX4_copyFrom_70 rfl (lv_at hl 1 rfl) ?_
  refine va_get (D := D) (ci := 4) (v := .ref (q_O 3)) (C := RX4) (T := TX4) (N := 10) hx hb hts zin4 hown hK hP 6 rfl rfl 3 (by decide) (hts _ wm117) (fun _ h9 => h9) rfl dX4_copyFrom_71 ?_
  refine lv_aload_n hx hb dX4_copyFrom_74 rfl (lv_at hl 0 rfl) ?_
  refine va_get (D := D) (ci := 4) (v := .ref ((u_6 0) 3)) (C := RX4) (T := TX4) (N := 10) hx hb hts zin4 hown hK hP 0 rfl rfl 3 (by decide) (hts _ wm117) (fun _ h9 => h9) rfl dX4_copyFrom_75 ?_
  obtain ⟨T_31, e_32, h⟩ := bd1_e h
  refine z_gov (wc := (zAr cI ((q_O 3)) (((tR O) * 4)) ((tCor O))) ++ (zAr cI (((u_6 0) 3)) (((tR T_21) * 4)) ((tCor T_21)))) (wn := fun u_33 => (zTr cI h_T (u_6 0) (sCor (sSiz (sHol (sLev T_21 T_22) T_25) T_28) T_31)) ++ (zTr cI h_O q_O O)) (wr := ([0, 1, 2, 3, 5, 6, 7, 8, 9, 11].filterMap (fun i => ((zTr cI h_T (u_6 0) (sSiz (sHol (sLev T_21 T_22) T_25) T_28)) ++ (zTr cI h_O q_O O))[i]?))) (va_runS (As := [.ref (q_O 3), .ref ((u_6 0) 3)]) (rest := []) hF.1 (c_Tr_copyRow l D cI cZ cT (q_O 3) ((tR O) * 4) ((u_6 0) 3) ((tR T_21) * 4) (tCor O) (tCor T_21) H.size (T_31) e_32) (va_cwS 2 hts (zgS wm381 wm382 wm84 wm383) rfl rfl rfl (by decide +kernel) ⟨Nat.le_of_ble_eq_true rfl, Nat.le_of_ble_eq_true rfl⟩) ⟨zP.blind, zP.enter (z_subP (ws' := (zAr cI ((q_O 3)) (((tR O) * 4)) ((tCor O))) ++ (zAr cI (((u_6 0) 3)) (((tR T_21) * 4)) ((tCor T_21)))) hP [10, 4] rfl) hK (hD.sub [10, 4] (by decide) rfl) hN⟩ rfl rfl hl.1 rfl (lv_room (Nat.le_of_ble_eq_true rfl)) dX4_copyFrom_78 ⟨(show (5 * ((tR T_21) - (tR T))) + 0 ≤ (5 * ((tR (res)) - (tR T))) from by omega), (show (26 * ((tR T_21) - (tR T))) + 0 ≤ (26 * ((tR (res)) - (tR T))) from by omega)⟩) hP hD hS hA [10, 4] [0, 1, 2, 3, 5, 6, 7, 8, 9, 11] [0, 1, 2, 3, 11, 4, 5, 6, 7, 8, 10, 9] rfl rfl (by decide) (fun _ => rfl) (fun u_33 H locs hP hD hS hz => ?_)
  refine lv_aload_n hx hb dX4_copyFrom_81 rfl (lv_at hl 1 rfl) ?_
  refine va_get (D := D) (ci := 4) (v := .ref (q_O 4)) (C := RX4) (T := TX4) (N := 10) hx hb hts zin4 hown hK hP 6 rfl rfl 4 (by decide) (hts _ wm118) (fun _ h9 => h9) rfl dX4_copyFrom_82 ?_
  refine lv_aload_n hx hb dX4_copyFrom_85 rfl (lv_at hl 0 rfl) ?_
  refine va_get (D := D) (ci := 4) (v := .ref ((u_6 0) 4)) (C := RX4) (T := TX4) (N := 10) hx hb hts zin4 hown hK hP 0 rfl rfl 4 (by decide) (hts _ wm118) (fun _ h9 => h9) rfl dX4_copyFrom_86 ?_
  obtain ⟨T_34, e_35, h⟩ := bd1_e h
  refine z_gov (wc := (zAr cI ((q_O 4)) (((tR O) * 6)) ((tLis O))) ++ (zAr cI (((u_6 0) 4)) (((tR T_21) * 6)) ((tLis T_21)))) (wn := fun u_36 => (zTr cI h_T (u_6 0) (sLis (sCor (sSiz (sHol (sLev T_21 T_22) T_25) T_28) T_31) T_34)) ++ (zTr cI h_O q_O O)) (wr := ([0, 1, 2, 3, 4, 6, 7, 8, 9, 10].filterMap (fun i => ((zTr cI h_T (u_6 0) (sCor (sSiz (sHol (sLev T_21 T_22) T_25) T_28) T_31)) ++ (zTr cI h_O q_O O))[i]?))) (va_runS (As := [.ref (q_O 4), .ref ((u_6 0) 4)]) (rest := []) hF.1 (c_Tr_copyRow l D cI cZ cT (q_O 4) ((tR O) * 6) ((u_6 0) 4) ((tR T_21) * 6) (tLis O) (tLis T_21) H.size (T_34) e_35) (va_cwS 2 hts (zgS wm381 wm382 wm84 wm383) rfl rfl rfl (by decide +kernel) ⟨Nat.le_of_ble_eq_true rfl, Nat.le_of_ble_eq_true rfl⟩) ⟨zP.blind, zP.enter (z_subP (ws' := (zAr cI ((q_O 4)) (((tR O) * 6)) ((tLis O))) ++ (zAr cI (((u_6 0) 4)) (((tR T_21) * 6)) ((tLis T_21)))) hP [11, 5] rfl) hK (hD.sub [11, 5] (by decide) rfl) hN⟩ rfl rfl hl.1 rfl (lv_room (Nat.le_of_ble_eq_true rfl)) dX4_copyFrom_89 ⟨(show (5 * ((tR T_21) - (tR T))) + 0 ≤ (5 * ((tR (res)) - (tR T))) from by omega), (show (26 * ((tR T_21) - (tR T))) + 0 ≤ (26 * ((tR (res)) - (tR T))) from by omega)⟩) hP hD hS hA [11, 5] [0, 1, 2, 3, 4, 6, 7, 8, 9, 10] [0, 1, 2, 3, 4, 11, 5, 6, 7, 8, 9, 10] rfl rfl (by decide) (fun _ => rfl) (fun u_36 H locs hP hD hS hz => ?_)
  refine lv_aload_n hx hb dX4_copyFrom_92 rfl (lv_at hl 0 rfl) ?_
  refine lv_aload_n hx hb dX4_copyFrom_93 rfl (lv_at hl 1 rfl) ?_
  refine va_get (D := D) (ci := 4) (v := vI (tRoot O)) (C := RX4) (T := TX4) (N := 10) hx hb hts zin4 hown hK hP 6 rfl rfl 5 (by decide) (hts _ wm119) (fun _ h9 => h9) rfl dX4_copyFrom_94 ?_
  refine va_put (D := D) (ci := 4) (v := vI (tRoot O)) (ty := .int) (C := RX4) (T := TX4) (N := 10) hx hb hts zin4 tyX4 tyX4_ok nmX4 hown hK hP hD hS 0 rfl rfl 5 (by decide) (hts _ wm119) (fun _ h9 => h9) rfl (by decide +kernel) rfl rfl (Nat.le_of_ble_eq_true rfl) dX4_copyFrom_97 (fun H locs hP hD hS => ?_)
  replace hP : va_P D vwCl ((zTr cI h_T (u_6 0) (sRoot (sLis (sCor (sSiz (sHol (sLev T_21 T_22) T_25) T_28) T_31) T_34) (tRoot O))) ++ (zTr cI h_O q_O O)) H := hP
  replace hD : va_D A ((zTr cI h_T (u_6 0) (sRoot (sLis (sCor (sSiz (sHol (sLev T_21 T_22) T_25) T_28) T_31) T_34) (tRoot O))) ++ (zTr cI h_O q_O O)) := hD
  refine lv_aload_n hx hb dX4_copyFrom_100 rfl (lv_at hl 0 rfl) ?_
  refine lv_aload_n hx hb dX4_copyFrom_101 rfl (lv_at hl 1 rfl) ?_
  refine va_get (D := D) (ci := 4) (v := vI (tCap O)) (C := RX4) (T := TX4) (N := 10) hx hb hts zin4 hown hK hP 6 rfl rfl 6 (by decide) (hts _ wm123) (fun _ h9 => h9) rfl dX4_copyFrom_102 ?_
  refine va_put (D := D) (ci := 4) (v := vI (tCap O)) (ty := .int) (C := RX4) (T := TX4) (N := 10) hx hb hts zin4 tyX4 tyX4_ok nmX4 hown hK hP hD hS 0 rfl rfl 6 (by decide) (hts _ wm123) (fun _ h9 => h9) rfl (by decide +kernel) rfl rfl (Nat.le_of_ble_eq_true rfl) dX4_copyFrom_105 (fun H locs hP hD hS => ?_)
  replace hP : va_P D vwCl ((zTr cI h_T (u_6 0) (sCap (sRoot (sLis (sCor (sSiz (sHol (sLev T_21 T_22) T_25) T_28) T_31) T_34) (tRoot O)) (tCap O))) ++ (zTr cI h_O q_O O)) H := hP
  replace hD : va_D A ((zTr cI h_T (u_6 0) (sCap (sRoot (sLis (sCor (sSiz (sHol (sLev T_21 T_22) T_25) T_28) T_31) T_34) (tRoot O)) (tCap O))) ++ (zTr cI h_O q_O O)) := hD
  refine lv_aload_n hx hb dX4_copyFrom_108 rfl (lv_at hl 0 rfl) ?_
  refine lv_aload_n hx hb dX4_copyFrom_109 rfl (lv_at hl 1 rfl) ?_
  refine va_get (D := D) (ci := 4) (v := vI (tRei O)) (C := RX4) (T := TX4) (N := 10) hx hb hts zin4 hown hK hP 6 rfl rfl 7 (by decide) (hts _ wm127) (fun _ h9 => h9) rfl dX4_copyFrom_110 ?_
  refine va_put (D := D) (ci := 4) (v := vI (tRei O)) (ty := .int) (C := RX4) (T := TX4) (N := 10) hx hb hts zin4 tyX4 tyX4_ok nmX4 hown hK hP hD hS 0 rfl rfl 7 (by decide) (hts _ wm127) (fun _ h9 => h9) rfl (by decide +kernel) rfl rfl (Nat.le_of_ble_eq_true rfl) dX4_copyFrom_113 (fun H locs hP hD hS => ?_)
  replace hP : va_P D vwCl ((zTr cI h_T (u_6 0) (sRei (sCap (sRoot (sLis (sCor (sSiz (sHol (sLev T_21 T_22) T_25) T_28) T_31) T_34) (tRoot O)) (tCap O)) (tRei O))) ++ (zTr cI h_O q_O O)) H := hP
  replace hD : va_D A ((zTr cI h_T (u_6 0) (sRei (sCap (sRoot (sLis (sCor (sSiz (sHol (sLev T_21 T_22) T_25) T_28) T_31) T_34) (tRoot O)) (tCap O)) (tRei O))) ++ (zTr cI h_O q_O O)) := hD
  refine lv_aload_n hx hb dX4_copyFrom_116 rfl (lv_at hl 0 rfl) ?_
  refine lv_aload_n hx hb dX4_copyFrom_117 rfl (lv_at hl 1 rfl) ?_
  refine va_get (D := D) (ci := 4) (v := vI (tSpl O)) (C := RX4) (T := TX4) (N := 10) hx hb hts zin4 hown hK hP 6 rfl rfl 8 (by decide) (hts _ wm130) (fun _ h9 => h9) rfl dX4_copyFrom_118 ?_
  refine va_put (D := D) (ci := 4) (v := vI (tSpl O)) (ty := .int) (C := RX4) (T := TX4) (N := 10) hx hb hts zin4 tyX4 tyX4_ok nmX4 hown hK hP hD hS 0 rfl rfl 8 (by decide) (hts _ wm130) (fun _ h9 => h9) rfl (by decide +kernel) rfl rfl (Nat.le_of_ble_eq_true rfl) dX4_copyFrom_121 (fun H locs hP hD hS => ?_)
  replace hP : va_P D vwCl ((zTr cI h_T (u_6 0) (sSpl (sRei (sCap (sRoot (sLis (sCor (sSiz (sHol (sLev T_21 T_22) T_25) T_28) T_31) T_34) (tRoot O)) (tCap O)) (tRei O)) (tSpl O))) ++ (zTr cI h_O q_O O)) H := hP
  replace hD : va_D A ((zTr cI h_T (u_6 0) (sSpl (sRei (sCap (sRoot (sLis (sCor (sSiz (sHol (sLev T_21 T_22) T_25) T_28) T_31) T_34) (tRoot O)) (tCap O)) (tRei O)) (tSpl O))) ++ (zTr cI h_O q_O O)) := hD
  refine lv_aload_n hx hb dX4_copyFrom_124 rfl (lv_at hl 0 rfl) ?_
  refine lv_aload_n hx hb dX4_copyFrom_125 rfl (lv_at hl 1 rfl) ?_
  refine va_get (D := D) (ci := 4) (v := vI (tRec O)) (C := RX4) (T := TX4) (N := 10) hx hb hts zin4 hown hK hP 6 rfl rfl 9 (by decide) (hts _ wm133) (fun _ h9 => h9) rfl dX4_copyFrom_126 ?_
  refine va_put (D := D) (ci := 4) (v := vI (tRec O)) (ty := .int) (C := RX4) (T := TX4) (N := 10) hx hb hts zin4 tyX4 tyX4_ok nmX4 hown hK hP hD hS 0 rfl rfl 9 (by decide) (hts _ wm133) (fun _ h9 => h9) rfl (by decide +kernel) rfl rfl (Nat.le_of_ble_eq_true rfl) dX4_copyFrom_129 (fun H locs hP hD hS => ?_)
  replace hP : va_P D vwCl ((zTr cI h_T (u_6 0) (sRec (sSpl (sRei (sCap (sRoot (sLis (sCor (sSiz (sHol (sLev T_21 T_22) T_25) T_28) T_31) T_34) (tRoot O)) (tCap O)) (tRei O)) (tSpl O)) (tRec O))) ++ (zTr cI h_O q_O O)) H := hP
  replace hD : va_D A ((zTr cI h_T (u_6 0) (sRec (sSpl (sRei (sCap (sRoot (sLis (sCor (sSiz (sHol (sLev T_21 T_22) T_25) T_28) T_31) T_34) (tRoot O)) (tCap O)) (tRei O)) (tSpl O)) (tRec O))) ++ (zTr cI h_O q_O O)) := hD
  obtain rfl := Option.some.inj h
  exact z_vret hx hb hr hlk (fun _ => (u_6 0)) hP hD hS dX4_copyFrom_132
def f_Tr_newNode (T : TV) (x1 : Int) : Option (Int × TV) :=
  bd1 (f_Tr_room T) <| fun r_1 => bd1 (f_Tr_firstFree T 24 r_1) <| fun r_4 => gd (ck r_4) <| if r_4 = (-1) then (bd1 (f_Tr_room T) <| fun r_18 => bd1 (f_Tr_room T) <| fun r_21 => bd1 (f_Tr_makeRoom T (2 * r_21)) <| fun T_24 => bd1 (f_Tr_take T_24 r_18 x1) <| fun T_28 => bd1 (f_Tr_room T_28) <| fun r_32 => gd (ck r_18) <| gd (ck r_32) <| if r_18 < r_32 then (some (r_18, T_28)) else (some ((-1), T_28))) else (bd1 (f_Tr_take T r_4 x1) <| fun T_9 => bd1 (f_Tr_room T_9) <| fun r_13 => gd (ck r_13) <| if r_4 < r_13 then (some (r_4, T_9)) else (some ((-1), T_9)))
abbrev rm_Tr_newNode (kc ks : Nat) : Room := ({ frames := 3, cells := kc, slots := ks, locals := 85 } : Room)
theorem mo_Tr_newNode (T : TV) (x1 : Int) (res : Int × TV) (h : f_Tr_newNode T x1 = some res) : (tR T) ≤ (tR (res.2)) := by
  unfold f_Tr_newNode at h
  obtain ⟨r_1, e_2, h⟩ := bd1_e h
  obtain ⟨r_4, e_5, h⟩ := bd1_e h
  obtain ⟨g_7, h⟩ := gd_e h
  rcases it_e h with ⟨_, h⟩ | ⟨_, h⟩
  · obtain ⟨r_18, e_19, h⟩ := bd1_e h
    obtain ⟨r_21, e_22, h⟩ := bd1_e h
    obtain ⟨T_24, e_25, h⟩ := bd1_e h
    have mo_27 : (tR T) ≤ (tR T_24) := mo_Tr_makeRoom T (2 * r_21) (T_24) e_25
    obtain ⟨T_28, e_29, h⟩ := bd1_e h
    have mo_31 : (tR T_24) ≤ (tR T_28) := mo_Tr_take T_24 r_18 x1 (T_28) e_29
    obtain ⟨r_32, e_33, h⟩ := bd1_e h
    obtain ⟨g_35, h⟩ := gd_e h
    obtain ⟨g_36, h⟩ := gd_e h
    rcases it_e h with ⟨_, h⟩ | ⟨_, h⟩
    · obtain rfl := Option.some.inj h
      exact (show (tR T) ≤ (tR T_28) from by omega)
    · obtain rfl := Option.some.inj h
      exact (show (tR T) ≤ (tR T_28) from by omega)
  · obtain ⟨T_9, e_10, h⟩ := bd1_e h
    have mo_12 : (tR T) ≤ (tR T_9) := mo_Tr_take T r_4 x1 (T_9) e_10
    obtain ⟨r_13, e_14, h⟩ := bd1_e h
    obtain ⟨g_16, h⟩ := gd_e h
    rcases it_e h with ⟨_, h⟩ | ⟨_, h⟩
    · obtain rfl := Option.some.inj h
      exact (show (tR T) ≤ (tR T_9) from by omega)
    · obtain rfl := Option.some.inj h
      exact (show (tR T) ≤ (tR T_9) from by omega)
set_option maxHeartbeats 4000000 in
set_option maxRecDepth 100000 in
theorem c_Tr_newNode (l : Launch) (D : va_G) (cI cZ cT : ClassId) (h_T : Nat) (q_T : Nat → Nat) (T : TV) (x1 : Int) (sz : Nat) (res : Int × TV) (h : f_Tr_newNode T x1 = some res) : zMi l yX4_newNode cX4_newNode 3 (rm_Tr_newNode (5 * ((tR (res.2)) - (tR T))) (26 * ((tR (res.2)) - (tR T)))) D (zt cI cZ cT) [.ref h_T, vI x1] ((zTr cI h_T q_T T)) sz (res.1) (fun u => (zTr cI h_T (u 0) (res.2))) (5 * ((tR (res.2)) - (tR T))) (26 * ((tR (res.2)) - (tR T))) := by
  refine z_enth (Qc := zQi D (res.1) (fun u => (zTr cI h_T (u 0) (res.2)))) (by decide) (Nat.le_of_ble_eq_true rfl) (fun p e s m args below meth c A ls H locs hF hP hD hS hl => ?_)
  have hx := hF.1.1
  have hb := hF.1.2.1
  have hml := hF.1.2.2.1
  have hown : s.vm.findClass "RectangleTree$Tree" = some m.cls := hF.1.2.2.2.1
  have hts := hF.1.2.2.2.2
  have hr := hF.2.1
  have hlk := hF.2.2.1
  have hK := hF.2.2.2.2.1
  have hN := hF.2.2.2.2.2.1
  have hA := hF.2.2.2.2.2.2
  have hm : (tR T) ≤ (tR (res.2)) := mo_Tr_newNode T x1 res h
  refine W.widen (k := (5 * ((tR T) - (tR T)))) (n := (26 * ((tR T) - (tR T)))) (Nat.zero_le _) (Nat.zero_le _) ?_
  unfold f_Tr_newNode at h
  refine lv_aload_n hx hb dX4_newNode_0 rfl (lv_at hl 0 rfl) ?_
  refine lv_bipush (v := Int32.ofInt 24) hx hb dX4_newNode_1 (by decide +kernel) ?_
  refine lv_aload_n hx hb dX4_newNode_3 rfl (lv_at hl 0 rfl) ?_
  obtain ⟨r_1, e_2, h⟩ := bd1_e h
  refine z_goi (ws' := []) (ret := r_1) (wc := (zTr cI (h_T) (q_T) (T))) (wn := fun u_3 => (zTr cI h_T q_T T)) (wr := []) (va_runV (As := []) (rest := [vI 24, .ref h_T]) hF.1 (c_Tr_room l D cI cZ cT h_T q_T T H.size (r_1) e_2) (cwV 0 hts (zgV wm360 wm279 wm280 wm84 wm281) rfl rfl rfl (by decide +kernel) ⟨Nat.le_of_ble_eq_true rfl, Nat.le_of_ble_eq_true rfl⟩) ⟨zP.blind, va_recv hK (z_subP (ws' := (zTr cI (h_T) (q_T) (T))) hP [0, 1, 2, 3, 4, 5] rfl) (ci := 4) (q0 := 0) rfl rfl, zP.enter (z_subP (ws' := (zTr cI (h_T) (q_T) (T))) hP [0, 1, 2, 3, 4, 5] rfl) hK (hD.sub [0, 1, 2, 3, 4, 5] (by decide) rfl) hN⟩ rfl rfl hl.1 rfl (lv_room (Nat.le_of_ble_eq_true rfl)) dX4_newNode_4 ⟨(show (5 * ((tR T) - (tR T))) + 0 ≤ (5 * ((tR (res.2)) - (tR T))) from by omega), (show (26 * ((tR T) - (tR T))) + 0 ≤ (26 * ((tR (res.2)) - (tR T))) from by omega)⟩) hP hD hS hA [0, 1, 2, 3, 4, 5] [] [0, 1, 2, 3, 4, 5] rfl rfl (by decide) (fun _ => rfl) (fun u_3 H locs hP hD hS hz => ?_)
  obtain ⟨r_4, e_5, h⟩ := bd1_e h
  refine z_goi (ws' := []) (ret := r_4) (wc := (zTr cI (h_T) (q_T) (T))) (wn := fun u_6 => (zTr cI h_T q_T T)) (wr := []) (va_runV (As := [vI 24, vI r_1]) (rest := []) hF.1 (c_Tr_firstFree l D cI cZ cT h_T q_T T 24 r_1 H.size (r_4) e_5) (cwV 2 hts (zgV wm390 wm392 wm4 wm84 wm393) rfl rfl rfl (by decide +kernel) ⟨Nat.le_of_ble_eq_true rfl, Nat.le_of_ble_eq_true rfl⟩) ⟨zP.blind, va_recv hK (z_subP (ws' := (zTr cI (h_T) (q_T) (T))) hP [0, 1, 2, 3, 4, 5] rfl) (ci := 4) (q0 := 0) rfl rfl, zP.enter (z_subP (ws' := (zTr cI (h_T) (q_T) (T))) hP [0, 1, 2, 3, 4, 5] rfl) hK (hD.sub [0, 1, 2, 3, 4, 5] (by decide) rfl) hN⟩ rfl rfl hl.1 rfl (lv_room (Nat.le_of_ble_eq_true rfl)) dX4_newNode_7 ⟨(show (5 * ((tR T) - (tR T))) + 0 ≤ (5 * ((tR (res.2)) - (tR T))) from by omega), (show (26 * ((tR T) - (tR T))) + 0 ≤ (26 * ((tR (res.2)) - (tR T))) from by omega)⟩) hP hD hS hA [0, 1, 2, 3, 4, 5] [] [0, 1, 2, 3, 4, 5] rfl rfl (by decide) (fun _ => rfl) (fun u_6 H locs hP hD hS hz => ?_)
  refine lv_istore_n (lv' := [(2, vI r_4), (0, .ref h_T), (1, vI x1)]) hx hb dX4_newNode_10 rfl hl (by decide) rfl (fun ls hl => ?_)
  refine lv_iload_n hx hb dX4_newNode_11 rfl (lv_at hl 0 rfl) ?_
  refine lv_iconst (v := Int32.ofInt (-1)) hx hb dX4_newNode_12 rfl ?_
  obtain ⟨g_7, h⟩ := gd_e h
  refine z_icmp_ne (tgt := 31) hx hb g_7 (by decide) dX4_newNode_13 (by decide) (fun b_8 => ?_) (fun b_8 => ?_)
  · have h := it_n b_8 h
    refine lv_aload_n hx hb dX4_newNode_31 rfl (lv_at hl 1 rfl) ?_
    refine lv_iload_n hx hb dX4_newNode_32 rfl (lv_at hl 0 rfl) ?_
    refine lv_iload_n hx hb dX4_newNode_33 rfl (lv_at hl 2 rfl) ?_
    obtain ⟨T_9, e_10, h⟩ := bd1_e h
    have mo_12 : (tR T) ≤ (tR T_9) := mo_Tr_take T r_4 x1 (T_9) e_10
    have hm : (tR T_9) ≤ (tR (res.2)) := by
      obtain ⟨r_13, e_14, h⟩ := bd1_e h
      obtain ⟨g_16, h⟩ := gd_e h
      rcases it_e h with ⟨_, h⟩ | ⟨_, h⟩
      · obtain rfl := Option.some.inj h
        exact (show (tR T_9) ≤ (tR T_9) from by omega)
      · obtain rfl := Option.some.inj h
        exact (show (tR T_9) ≤ (tR T_9) from by omega)
    refine z_gov (wc := (zTr cI (h_T) (q_T) (T))) (wn := fun u_11 => (zTr cI h_T q_T T_9)) (wr := []) (va_runV (As := [vI r_4, vI x1]) (rest := []) hF.1 (c_Tr_take l D cI cZ cT h_T q_T T r_4 x1 H.size (T_9) e_10) (cwV 2 hts (zgV wm394 wm396 wm5 wm84 wm397) rfl rfl rfl (by decide +kernel) ⟨Nat.le_of_ble_eq_true rfl, Nat.le_of_ble_eq_true rfl⟩) ⟨zP.blind, va_recv hK (z_subP (ws' := (zTr cI (h_T) (q_T) (T))) hP [0, 1, 2, 3, 4, 5] rfl) (ci := 4) (q0 := 0) rfl rfl, zP.enter (z_subP (ws' := (zTr cI (h_T) (q_T) (T))) hP [0, 1, 2, 3, 4, 5] rfl) hK (hD.sub [0, 1, 2, 3, 4, 5] (by decide) rfl) hN⟩ rfl rfl hl.1 rfl (lv_room (Nat.le_of_ble_eq_true rfl)) dX4_newNode_34 ⟨(show (5 * ((tR T) - (tR T))) + 0 ≤ (5 * ((tR (res.2)) - (tR T))) from by omega), (show (26 * ((tR T) - (tR T))) + 0 ≤ (26 * ((tR (res.2)) - (tR T))) from by omega)⟩) hP hD hS hA [0, 1, 2, 3, 4, 5] [] [0, 1, 2, 3, 4, 5] rfl rfl (by decide) (fun _ => rfl) (fun u_11 H locs hP hD hS hz => ?_)
    refine W.widen (k := (5 * ((tR T_9) - (tR T)))) (n := (26 * ((tR T_9) - (tR T)))) (show (5 * ((tR T) - (tR T))) + 0 ≤ (5 * ((tR T_9) - (tR T))) from by omega) (show (26 * ((tR T) - (tR T))) + 0 ≤ (26 * ((tR T_9) - (tR T))) from by omega) ?_
    refine lv_iload_n hx hb dX4_newNode_37 rfl (lv_at hl 0 rfl) ?_
    refine lv_aload_n hx hb dX4_newNode_38 rfl (lv_at hl 1 rfl) ?_
    obtain ⟨r_13, e_14, h⟩ := bd1_e h
    refine z_goi (ws' := []) (ret := r_13) (wc := (zTr cI (h_T) (q_T) (T_9))) (wn := fun u_15 => (zTr cI h_T q_T T_9)) (wr := []) (va_runV (As := []) (rest := [vI r_4]) hF.1 (c_Tr_room l D cI cZ cT h_T q_T T_9 H.size (r_13) e_14) (cwV 0 hts (zgV wm360 wm279 wm280 wm84 wm281) rfl rfl rfl (by decide +kernel) ⟨Nat.le_of_ble_eq_true rfl, Nat.le_of_ble_eq_true rfl⟩) ⟨zP.blind, va_recv hK (z_subP (ws' := (zTr cI (h_T) (q_T) (T_9))) hP [0, 1, 2, 3, 4, 5] rfl) (ci := 4) (q0 := 0) rfl rfl, zP.enter (z_subP (ws' := (zTr cI (h_T) (q_T) (T_9))) hP [0, 1, 2, 3, 4, 5] rfl) hK (hD.sub [0, 1, 2, 3, 4, 5] (by decide) rfl) hN⟩ rfl rfl hl.1 rfl (lv_room (Nat.le_of_ble_eq_true rfl)) dX4_newNode_39 ⟨(show (5 * ((tR T_9) - (tR T))) + 0 ≤ (5 * ((tR (res.2)) - (tR T))) from by omega), (show (26 * ((tR T_9) - (tR T))) + 0 ≤ (26 * ((tR (res.2)) - (tR T))) from by omega)⟩) hP hD hS hA [0, 1, 2, 3, 4, 5] [] [0, 1, 2, 3, 4, 5] rfl rfl (by decide) (fun _ => rfl) (fun u_15 H locs hP hD hS hz => ?_)
    obtain ⟨g_16, h⟩ := gd_e h
    refine z_icmp_ge (tgt := 49) hx hb g_7 g_16 dX4_newNode_42 (by decide) (fun b_17 => ?_) (fun b_17 => ?_)
    · have h := it_n b_17 h
      refine lv_iconst (v := Int32.ofInt (-1)) hx hb dX4_newNode_49 rfl ?_
      obtain rfl := Option.some.inj h
      exact z_iret hx hb hr hlk (fun _ => q_T) hP hD hS dX4_newNode_50
    · have h := it_p b_17 h
      refine lv_iload_n hx hb dX4_newNode_45 rfl (lv_at hl 0 rfl) ?_
      refine lv_goto (tgt := 50) hx hb dX4_newNode_46 (by decide) ?_
      obtain rfl := Option.some.inj h
      exact z_iret hx hb hr hlk (fun _ => q_T) hP hD hS dX4_newNode_50
  · have h := it_p b_8 h
    refine lv_aload_n hx hb dX4_newNode_16 rfl (lv_at hl 1 rfl) ?_
    obtain ⟨r_18, e_19, h⟩ := bd1_e h
    refine z_goi (ws' := []) (ret := r_18) (wc := (zTr cI (h_T) (q_T) (T))) (wn := fun u_20 => (zTr cI h_T q_T T)) (wr := []) (va_runV (As := []) (rest := []) hF.1 (c_Tr_room l D cI cZ cT h_T q_T T H.size (r_18) e_19) (cwV 0 hts (zgV wm360 wm279 wm280 wm84 wm281) rfl rfl rfl (by decide +kernel) ⟨Nat.le_of_ble_eq_true rfl, Nat.le_of_ble_eq_true rfl⟩) ⟨zP.blind, va_recv hK (z_subP (ws' := (zTr cI (h_T) (q_T) (T))) hP [0, 1, 2, 3, 4, 5] rfl) (ci := 4) (q0 := 0) rfl rfl, zP.enter (z_subP (ws' := (zTr cI (h_T) (q_T) (T))) hP [0, 1, 2, 3, 4, 5] rfl) hK (hD.sub [0, 1, 2, 3, 4, 5] (by decide) rfl) hN⟩ rfl rfl hl.1 rfl (lv_room (Nat.le_of_ble_eq_true rfl)) dX4_newNode_17 ⟨(show (5 * ((tR T) - (tR T))) + 0 ≤ (5 * ((tR (res.2)) - (tR T))) from by omega), (show (26 * ((tR T) - (tR T))) + 0 ≤ (26 * ((tR (res.2)) - (tR T))) from by omega)⟩) hP hD hS hA [0, 1, 2, 3, 4, 5] [] [0, 1, 2, 3, 4, 5] rfl rfl (by decide) (fun _ => rfl) (fun u_20 H locs hP hD hS hz => ?_)
    refine lv_istore_n (lv' := [(2, vI r_18), (0, .ref h_T), (1, vI x1)]) hx hb dX4_newNode_20 rfl hl (by decide) rfl (fun ls hl => ?_)
    refine lv_aload_n hx hb dX4_newNode_21 rfl (lv_at hl 1 rfl) ?_
    refine lv_iconst (v := Int32.ofInt 2) hx hb dX4_newNode_22 rfl ?_
    refine lv_aload_n hx hb dX4_newNode_23 rfl (lv_at hl 1 rfl) ?_
    obtain ⟨r_21, e_22, h⟩ := bd1_e h
    refine z_goi (ws' := []) (ret := r_21) (wc := (zTr cI (h_T) (q_T) (T))) (wn := fun u_23 => (zTr cI h_T q_T T)) (wr := []) (va_runV (As := []) (rest := [vI 2, .ref h_T]) hF.1 (c_Tr_room l D cI cZ cT h_T q_T T H.size (r_21) e_22) (cwV 0 hts (zgV wm360 wm279 wm280 wm84 wm281) rfl rfl rfl (by decide +kernel) ⟨Nat.le_of_ble_eq_true rfl, Nat.le_of_ble_eq_true rfl⟩) ⟨zP.blind, va_recv hK (z_subP (ws' := (zTr cI (h_T) (q_T) (T))) hP [0, 1, 2, 3, 4, 5] rfl) (ci := 4) (q0 := 0) rfl rfl, zP.enter (z_subP (ws' := (zTr cI (h_T) (q_T) (T))) hP [0, 1, 2, 3, 4, 5] rfl) hK (hD.sub [0, 1, 2, 3, 4, 5] (by decide) rfl) hN⟩ rfl rfl hl.1 rfl (lv_room (Nat.le_of_ble_eq_true rfl)) dX4_newNode_24 ⟨(show (5 * ((tR T) - (tR T))) + 0 ≤ (5 * ((tR (res.2)) - (tR T))) from by omega), (show (26 * ((tR T) - (tR T))) + 0 ≤ (26 * ((tR (res.2)) - (tR T))) from by omega)⟩) hP hD hS hA [0, 1, 2, 3, 4, 5] [] [0, 1, 2, 3, 4, 5] rfl rfl (by decide) (fun _ => rfl) (fun u_23 H locs hP hD hS hz => ?_)
    refine z_imul hx hb dX4_newNode_27 ?_
    obtain ⟨T_24, e_25, h⟩ := bd1_e h
    have mo_27 : (tR T) ≤ (tR T_24) := mo_Tr_makeRoom T (2 * r_21) (T_24) e_25
    have hm : (tR T_24) ≤ (tR (res.2)) := by
      obtain ⟨T_28, e_29, h⟩ := bd1_e h
      have mo_31 : (tR T_24) ≤ (tR T_28) := mo_Tr_take T_24 r_18 x1 (T_28) e_29
      obtain ⟨r_32, e_33, h⟩ := bd1_e h
      obtain ⟨g_35, h⟩ := gd_e h
      obtain ⟨g_36, h⟩ := gd_e h
      rcases it_e h with ⟨_, h⟩ | ⟨_, h⟩
      · obtain rfl := Option.some.inj h
        exact (show (tR T_24) ≤ (tR T_28) from by omega)
      · obtain rfl := Option.some.inj h
        exact (show (tR T_24) ≤ (tR T_28) from by omega)
    refine z_gov (wc := (zTr cI (h_T) (q_T) (T))) (wn := fun u_26 => (zTr cI h_T (u_26 0) T_24)) (wr := []) (va_runV (As := [vI (2 * r_21)]) (rest := []) hF.1 (c_Tr_makeRoom l D cI cZ cT h_T q_T T (2 * r_21) H.size (T_24) e_25) (cwV 1 hts (zgV wm361 wm363 wm3 wm84 wm364) rfl rfl rfl (by decide +kernel) ⟨Nat.le_of_ble_eq_true rfl, Nat.le_of_ble_eq_true rfl⟩) ⟨zP.blind, va_recv hK (z_subP (ws' := (zTr cI (h_T) (q_T) (T))) hP [0, 1, 2, 3, 4, 5] rfl) (ci := 4) (q0 := 0) rfl rfl, zP.enter (z_subP (ws' := (zTr cI (h_T) (q_T) (T))) hP [0, 1, 2, 3, 4, 5] rfl) hK (hD.sub [0, 1, 2, 3, 4, 5] (by decide) rfl) hN⟩ rfl rfl hl.1 rfl (lv_room (Nat.le_of_ble_eq_true rfl)) dX4_newNode_28 ⟨(show (5 * ((tR T) - (tR T))) + (5 * ((tR T_24) - (tR T))) ≤ (5 * ((tR (res.2)) - (tR T))) from by omega), (show (26 * ((tR T) - (tR T))) + (26 * ((tR T_24) - (tR T))) ≤ (26 * ((tR (res.2)) - (tR T))) from by omega)⟩) hP hD hS hA [0, 1, 2, 3, 4, 5] [] [0, 1, 2, 3, 4, 5] rfl rfl (by decide) (fun _ => rfl) (fun u_26 H locs hP hD hS hz => ?_)
    refine W.widen (k := (5 * ((tR T_24) - (tR T)))) (n := (26 * ((tR T_24) - (tR T)))) (show (5 * ((tR T) - (tR T))) + (5 * ((tR T_24) - (tR T))) ≤ (5 * ((tR T_24) - (tR T))) from by omega) (show (26 * ((tR T) - (tR T))) + (26 * ((tR T_24) - (tR T))) ≤ (26 * ((tR T_24) - (tR T))) from by omega) ?_
    refine lv_aload_n hx hb dX4_newNode_31 rfl (lv_at hl 1 rfl) ?_
    refine lv_iload_n hx hb dX4_newNode_32 rfl (lv_at hl 0 rfl) ?_
    refine lv_iload_n hx hb dX4_newNode_33 rfl (lv_at hl 2 rfl) ?_
    obtain ⟨T_28, e_29, h⟩ := bd1_e h
    have mo_31 : (tR T_24) ≤ (tR T_28) := mo_Tr_take T_24 r_18 x1 (T_28) e_29
    have hm : (tR T_28) ≤ (tR (res.2)) := by
      obtain ⟨r_32, e_33, h⟩ := bd1_e h
      obtain ⟨g_35, h⟩ := gd_e h
      obtain ⟨g_36, h⟩ := gd_e h
      rcases it_e h with ⟨_, h⟩ | ⟨_, h⟩
      · obtain rfl := Option.some.inj h
        exact (show (tR T_28) ≤ (tR T_28) from by omega)
      · obtain rfl := Option.some.inj h
        exact (show (tR T_28) ≤ (tR T_28) from by omega)
    refine z_gov (wc := (zTr cI (h_T) ((u_26 0)) (T_24))) (wn := fun u_30 => (zTr cI h_T (u_26 0) T_28)) (wr := []) (va_runV (As := [vI r_18, vI x1]) (rest := []) hF.1 (c_Tr_take l D cI cZ cT h_T (u_26 0) T_24 r_18 x1 H.size (T_28) e_29) (cwV 2 hts (zgV wm394 wm396 wm5 wm84 wm397) rfl rfl rfl (by decide +kernel) ⟨Nat.le_of_ble_eq_true rfl, Nat.le_of_ble_eq_true rfl⟩) ⟨zP.blind, va_recv hK (z_subP (ws' := (zTr cI (h_T) ((u_26 0)) (T_24))) hP [0, 1, 2, 3, 4, 5] rfl) (ci := 4) (q0 := 0) rfl rfl, zP.enter (z_subP (ws' := (zTr cI (h_T) ((u_26 0)) (T_24))) hP [0, 1, 2, 3, 4, 5] rfl) hK (hD.sub [0, 1, 2, 3, 4, 5] (by decide) rfl) hN⟩ rfl rfl hl.1 rfl (lv_room (Nat.le_of_ble_eq_true rfl)) dX4_newNode_34 ⟨(show (5 * ((tR T_24) - (tR T))) + 0 ≤ (5 * ((tR (res.2)) - (tR T))) from by omega), (show (26 * ((tR T_24) - (tR T))) + 0 ≤ (26 * ((tR (res.2)) - (tR T))) from by omega)⟩) hP hD hS hA [0, 1, 2, 3, 4, 5] [] [0, 1, 2, 3, 4, 5] rfl rfl (by decide) (fun _ => rfl) (fun u_30 H locs hP hD hS hz => ?_)
    refine W.widen (k := (5 * ((tR T_28) - (tR T)))) (n := (26 * ((tR T_28) - (tR T)))) (show (5 * ((tR T_24) - (tR T))) + 0 ≤ (5 * ((tR T_28) - (tR T))) from by omega) (show (26 * ((tR T_24) - (tR T))) + 0 ≤ (26 * ((tR T_28) - (tR T))) from by omega) ?_
    refine lv_iload_n hx hb dX4_newNode_37 rfl (lv_at hl 0 rfl) ?_
    refine lv_aload_n hx hb dX4_newNode_38 rfl (lv_at hl 1 rfl) ?_
    obtain ⟨r_32, e_33, h⟩ := bd1_e h
    refine z_goi (ws' := []) (ret := r_32) (wc := (zTr cI (h_T) ((u_26 0)) (T_28))) (wn := fun u_34 => (zTr cI h_T (u_26 0) T_28)) (wr := []) (va_runV (As := []) (rest := [vI r_18]) hF.1 (c_Tr_room l D cI cZ cT h_T (u_26 0) T_28 H.size (r_32) e_33) (cwV 0 hts (zgV wm360 wm279 wm280 wm84 wm281) rfl rfl rfl (by decide +kernel) ⟨Nat.le_of_ble_eq_true rfl, Nat.le_of_ble_eq_true rfl⟩) ⟨zP.blind, va_recv hK (z_subP (ws' := (zTr cI (h_T) ((u_26 0)) (T_28))) hP [0, 1, 2, 3, 4, 5] rfl) (ci := 4) (q0 := 0) rfl rfl, zP.enter (z_subP (ws' := (zTr cI (h_T) ((u_26 0)) (T_28))) hP [0, 1, 2, 3, 4, 5] rfl) hK (hD.sub [0, 1, 2, 3, 4, 5] (by decide) rfl) hN⟩ rfl rfl hl.1 rfl (lv_room (Nat.le_of_ble_eq_true rfl)) dX4_newNode_39 ⟨(show (5 * ((tR T_28) - (tR T))) + 0 ≤ (5 * ((tR (res.2)) - (tR T))) from by omega), (show (26 * ((tR T_28) - (tR T))) + 0 ≤ (26 * ((tR (res.2)) - (tR T))) from by omega)⟩) hP hD hS hA [0, 1, 2, 3, 4, 5] [] [0, 1, 2, 3, 4, 5] rfl rfl (by decide) (fun _ => rfl) (fun u_34 H locs hP hD hS hz => ?_)
    obtain ⟨g_35, h⟩ := gd_e h
    obtain ⟨g_36, h⟩ := gd_e h
    refine z_icmp_ge (tgt := 49) hx hb g_35 g_36 dX4_newNode_42 (by decide) (fun b_37 => ?_) (fun b_37 => ?_)
    · have h := it_n b_37 h
      refine lv_iconst (v := Int32.ofInt (-1)) hx hb dX4_newNode_49 rfl ?_
      obtain rfl := Option.some.inj h
      exact z_iret hx hb hr hlk (fun _ => (u_26 0)) hP hD hS dX4_newNode_50
    · have h := it_p b_37 h
      refine lv_iload_n hx hb dX4_newNode_45 rfl (lv_at hl 0 rfl) ?_
      refine lv_goto (tgt := 50) hx hb dX4_newNode_46 (by decide) ?_
      obtain rfl := Option.some.inj h
      exact z_iret hx hb hr hlk (fun _ => (u_26 0)) hP hD hS dX4_newNode_50
def f_Tr_raiseRoot (T : TV) : Option (Int × TV) :=
  bd1 (f_Tr_levelOf T (tRoot T)) <| fun r_1 => bd2 (f_Tr_newNode T (r_1 + 1)) <| fun r_4 T_5 => gd (ck r_4) <| if r_4 = (-1) then (some (r_4, T_5)) else (bd1 (f_Tr_addAt (sRoot T_5 r_4) r_4 0 (tRoot T)) <| fun T_11 => some (r_4, T_11))
abbrev rm_Tr_raiseRoot (kc ks : Nat) : Room := ({ frames := 4, cells := kc, slots := ks, locals := 107 } : Room)
theorem mo_Tr_raiseRoot (T : TV) (res : Int × TV) (h : f_Tr_raiseRoot T = some res) : (tR T) ≤ (tR (res.2)) := by
  unfold f_Tr_raiseRoot at h
  obtain ⟨r_1, e_2, h⟩ := bd1_e h
  obtain ⟨r_4, T_5, e_6, h⟩ := bd2_e h
  have mo_8 : (tR T) ≤ (tR T_5) := mo_Tr_newNode T (r_1 + 1) (r_4, T_5) e_6
  obtain ⟨g_9, h⟩ := gd_e h
  rcases it_e h with ⟨_, h⟩ | ⟨_, h⟩
  · obtain rfl := Option.some.inj h
    exact (show (tR T) ≤ (tR T_5) from by omega)
  · obtain ⟨T_11, e_12, h⟩ := bd1_e h
    have mo_14 : (tR T_5) ≤ (tR T_11) := mo_Tr_addAt (sRoot T_5 r_4) r_4 0 (tRoot T) (T_11) e_12
    obtain rfl := Option.some.inj h
    exact (show (tR T) ≤ (tR T_11) from by omega)
set_option maxHeartbeats 4000000 in
set_option maxRecDepth 100000 in
theorem c_Tr_raiseRoot (l : Launch) (D : va_G) (cI cZ cT : ClassId) (h_T : Nat) (q_T : Nat → Nat) (T : TV) (sz : Nat) (res : Int × TV) (h : f_Tr_raiseRoot T = some res) : zMi l yX4_raiseRoot cX4_raiseRoot 3 (rm_Tr_raiseRoot (5 * ((tR (res.2)) - (tR T))) (26 * ((tR (res.2)) - (tR T)))) D (zt cI cZ cT) [.ref h_T] ((zTr cI h_T q_T T)) sz (res.1) (fun u => (zTr cI h_T (u 0) (res.2))) (5 * ((tR (res.2)) - (tR T))) (26 * ((tR (res.2)) - (tR T))) := by
  refine z_enth (Qc := zQi D (res.1) (fun u => (zTr cI h_T (u 0) (res.2)))) (by decide) (Nat.le_of_ble_eq_true rfl) (fun p e s m args below meth c A ls H locs hF hP hD hS hl => ?_)
  have hx := hF.1.1
  have hb := hF.1.2.1
  have hml := hF.1.2.2.1
  have hown : s.vm.findClass "RectangleTree$Tree" = some m.cls := hF.1.2.2.2.1
  have hts := hF.1.2.2.2.2
  have hr := hF.2.1
  have hlk := hF.2.2.1
  have hK := hF.2.2.2.2.1
  have hN := hF.2.2.2.2.2.1
  have hA := hF.2.2.2.2.2.2
  have hm : (tR T) ≤ (tR (res.2)) := mo_Tr_raiseRoot T res h
  refine W.widen (k := (5 * ((tR T) - (tR T)))) (n := (26 * ((tR T) - (tR T)))) (Nat.zero_le _) (Nat.zero_le _) ?_
  unfold f_Tr_raiseRoot at h
  refine lv_aload_n hx hb dX4_raiseRoot_0 rfl (lv_at hl 0 rfl) ?_
  refine va_get (D := D) (ci := 4) (v := vI (tRoot T)) (C := RX4) (T := TX4) (N := 10) hx hb hts zin4 hown hK hP 0 rfl rfl 5 (by decide) (hts _ wm119) (fun _ h9 => h9) rfl dX4_raiseRoot_1 ?_
  refine lv_istore_n (lv' := [(1, vI (tRoot T)), (0, .ref h_T)]) hx hb dX4_raiseRoot_4 rfl hl (by decide) rfl (fun ls hl => ?_)
  refine lv_aload_n hx hb dX4_raiseRoot_5 rfl (lv_at hl 1 rfl) ?_
  refine lv_aload_n hx hb dX4_raiseRoot_6 rfl (lv_at hl 1 rfl) ?_
  refine lv_iload_n hx hb dX4_raiseRoot_7 rfl (lv_at hl 0 rfl) ?_
  obtain ⟨r_1, e_2, h⟩ := bd1_e h
  refine z_goi (ws' := []) (ret := r_1) (wc := (zTr cI (h_T) (q_T) (T))) (wn := fun u_3 => (zTr cI h_T q_T T)) (wr := []) (va_runV (As := [vI (tRoot T)]) (rest := [.ref h_T]) hF.1 (c_Tr_levelOf l D cI cZ cT h_T q_T T (tRoot T) H.size (r_1) e_2) (cwV 1 hts (zgV wm344 wm345 wm346 wm84 wm347) rfl rfl rfl (by decide +kernel) ⟨Nat.le_of_ble_eq_true rfl, Nat.le_of_ble_eq_true rfl⟩) ⟨zP.blind, va_recv hK (z_subP (ws' := (zTr cI (h_T) (q_T) (T))) hP [0, 1, 2, 3, 4, 5] rfl) (ci := 4) (q0 := 0) rfl rfl, zP.enter (z_subP (ws' := (zTr cI (h_T) (q_T) (T))) hP [0, 1, 2, 3, 4, 5] rfl) hK (hD.sub [0, 1, 2, 3, 4, 5] (by decide) rfl) hN⟩ rfl rfl hl.1 rfl (lv_room (Nat.le_of_ble_eq_true rfl)) dX4_raiseRoot_8 ⟨(show (5 * ((tR T) - (tR T))) + 0 ≤ (5 * ((tR (res.2)) - (tR T))) from by omega), (show (26 * ((tR T) - (tR T))) + 0 ≤ (26 * ((tR (res.2)) - (tR T))) from by omega)⟩) hP hD hS hA [0, 1, 2, 3, 4, 5] [] [0, 1, 2, 3, 4, 5] rfl rfl (by decide) (fun _ => rfl) (fun u_3 H locs hP hD hS hz => ?_)
  refine lv_iconst (v := Int32.ofInt 1) hx hb dX4_raiseRoot_11 rfl ?_
  refine z_iadd hx hb dX4_raiseRoot_12 ?_
  obtain ⟨r_4, T_5, e_6, h⟩ := bd2_e h
  have mo_8 : (tR T) ≤ (tR T_5) := mo_Tr_newNode T (r_1 + 1) (r_4, T_5) e_6
  have hm : (tR T_5) ≤ (tR (res.2)) := by
    obtain ⟨g_9, h⟩ := gd_e h
    rcases it_e h with ⟨_, h⟩ | ⟨_, h⟩
    · obtain rfl := Option.some.inj h
      exact (show (tR T_5) ≤ (tR T_5) from by omega)
    · obtain ⟨T_11, e_12, h⟩ := bd1_e h
      have mo_14 : (tR T_5) ≤ (tR T_11) := mo_Tr_addAt (sRoot T_5 r_4) r_4 0 (tRoot T) (T_11) e_12
      obtain rfl := Option.some.inj h
      exact (show (tR T_5) ≤ (tR T_11) from by omega)
  refine z_goi (ws' := []) (ret := r_4) (wc := (zTr cI (h_T) (q_T) (T))) (wn := fun u_7 => (zTr cI h_T (u_7 0) T_5)) (wr := []) (va_runV (As := [vI (r_1 + 1)]) (rest := []) hF.1 (c_Tr_newNode l D cI cZ cT h_T q_T T (r_1 + 1) H.size (r_4, T_5) e_6) (cwV 1 hts (zgV wm487 wm488 wm489 wm84 wm490) rfl rfl rfl (by decide +kernel) ⟨Nat.le_of_ble_eq_true rfl, Nat.le_of_ble_eq_true rfl⟩) ⟨zP.blind, va_recv hK (z_subP (ws' := (zTr cI (h_T) (q_T) (T))) hP [0, 1, 2, 3, 4, 5] rfl) (ci := 4) (q0 := 0) rfl rfl, zP.enter (z_subP (ws' := (zTr cI (h_T) (q_T) (T))) hP [0, 1, 2, 3, 4, 5] rfl) hK (hD.sub [0, 1, 2, 3, 4, 5] (by decide) rfl) hN⟩ rfl rfl hl.1 rfl (lv_room (Nat.le_of_ble_eq_true rfl)) dX4_raiseRoot_13 ⟨(show (5 * ((tR T) - (tR T))) + (5 * ((tR T_5) - (tR T))) ≤ (5 * ((tR (res.2)) - (tR T))) from by omega), (show (26 * ((tR T) - (tR T))) + (26 * ((tR T_5) - (tR T))) ≤ (26 * ((tR (res.2)) - (tR T))) from by omega)⟩) hP hD hS hA [0, 1, 2, 3, 4, 5] [] [0, 1, 2, 3, 4, 5] rfl rfl (by decide) (fun _ => rfl) (fun u_7 H locs hP hD hS hz => ?_)
  refine W.widen (k := (5 * ((tR T_5) - (tR T)))) (n := (26 * ((tR T_5) - (tR T)))) (show (5 * ((tR T) - (tR T))) + (5 * ((tR T_5) - (tR T))) ≤ (5 * ((tR T_5) - (tR T))) from by omega) (show (26 * ((tR T) - (tR T))) + (26 * ((tR T_5) - (tR T))) ≤ (26 * ((tR T_5) - (tR T))) from by omega) ?_
  refine lv_istore_n (lv' := [(2, vI r_4), (1, vI (tRoot T)), (0, .ref h_T)]) hx hb dX4_raiseRoot_16 rfl hl (by decide) rfl (fun ls hl => ?_)
  refine lv_iload_n hx hb dX4_raiseRoot_17 rfl (lv_at hl 0 rfl) ?_
  refine lv_iconst (v := Int32.ofInt (-1)) hx hb dX4_raiseRoot_18 rfl ?_
  obtain ⟨g_9, h⟩ := gd_e h
  refine z_icmp_eq (tgt := 34) hx hb g_9 (by decide) dX4_raiseRoot_19 (by decide) (fun b_10 => ?_) (fun b_10 => ?_)
  · have h := it_p b_10 h
    refine lv_iload_n hx hb dX4_raiseRoot_34 rfl (lv_at hl 0 rfl) ?_
    obtain rfl := Option.some.inj h
    exact z_iret hx hb hr hlk (fun _ => (u_7 0)) hP hD hS dX4_raiseRoot_35
  · have h := it_n b_10 h
    refine lv_aload_n hx hb dX4_raiseRoot_22 rfl (lv_at hl 2 rfl) ?_
    refine lv_iload_n hx hb dX4_raiseRoot_23 rfl (lv_at hl 0 rfl) ?_
    refine va_put (D := D) (ci := 4) (v := vI r_4) (ty := .int) (C := RX4) (T := TX4) (N := 10) hx hb hts zin4 tyX4 tyX4_ok nmX4 hown hK hP hD hS 0 rfl rfl 5 (by decide) (hts _ wm119) (fun _ h9 => h9) rfl (by decide +kernel) rfl rfl (Nat.le_of_ble_eq_true rfl) dX4_raiseRoot_24 (fun H locs hP hD hS => ?_)
    replace hP : va_P D vwCl ((zTr cI h_T (u_7 0) (sRoot T_5 r_4))) H := hP
    replace hD : va_D A ((zTr cI h_T (u_7 0) (sRoot T_5 r_4))) := hD
    refine lv_aload_n hx hb dX4_raiseRoot_27 rfl (lv_at hl 2 rfl) ?_
    refine lv_iload_n hx hb dX4_raiseRoot_28 rfl (lv_at hl 0 rfl) ?_
    refine lv_iconst (v := Int32.ofInt 0) hx hb dX4_raiseRoot_29 rfl ?_
    refine lv_iload_n hx hb dX4_raiseRoot_30 rfl (lv_at hl 1 rfl) ?_
    obtain ⟨T_11, e_12, h⟩ := bd1_e h
    have mo_14 : (tR T_5) ≤ (tR T_11) := mo_Tr_addAt (sRoot T_5 r_4) r_4 0 (tRoot T) (T_11) e_12
    have hm : (tR T_11) ≤ (tR (res.2)) := by
      obtain rfl := Option.some.inj h
      exact (show (tR T_11) ≤ (tR T_11) from by omega)
    refine z_gov (wc := (zTr cI (h_T) ((u_7 0)) ((sRoot T_5 r_4)))) (wn := fun u_13 => (zTr cI h_T (u_7 0) T_11)) (wr := []) (va_runV (As := [vI r_4, vI 0, vI (tRoot T)]) (rest := []) hF.1 (c_Tr_addAt l D cI cZ cT h_T (u_7 0) (sRoot T_5 r_4) r_4 0 (tRoot T) H.size (T_11) e_12) (cwV 3 hts (zgV wm491 wm434 wm435 wm84 wm436) rfl rfl rfl (by decide +kernel) ⟨Nat.le_of_ble_eq_true rfl, Nat.le_of_ble_eq_true rfl⟩) ⟨zP.blind, va_recv hK (z_subP (ws' := (zTr cI (h_T) ((u_7 0)) ((sRoot T_5 r_4)))) hP [0, 1, 2, 3, 4, 5] rfl) (ci := 4) (q0 := 0) rfl rfl, zP.enter (z_subP (ws' := (zTr cI (h_T) ((u_7 0)) ((sRoot T_5 r_4)))) hP [0, 1, 2, 3, 4, 5] rfl) hK (hD.sub [0, 1, 2, 3, 4, 5] (by decide) rfl) hN⟩ rfl rfl hl.1 rfl (lv_room (Nat.le_of_ble_eq_true rfl)) dX4_raiseRoot_31 ⟨(show (5 * ((tR T_5) - (tR T))) + 0 ≤ (5 * ((tR (res.2)) - (tR T))) from by omega), (show (26 * ((tR T_5) - (tR T))) + 0 ≤ (26 * ((tR (res.2)) - (tR T))) from by omega)⟩) hP hD hS hA [0, 1, 2, 3, 4, 5] [] [0, 1, 2, 3, 4, 5] rfl rfl (by decide) (fun _ => rfl) (fun u_13 H locs hP hD hS hz => ?_)
    refine W.widen (k := (5 * ((tR T_11) - (tR T)))) (n := (26 * ((tR T_11) - (tR T)))) (show (5 * ((tR T_5) - (tR T))) + 0 ≤ (5 * ((tR T_11) - (tR T))) from by omega) (show (26 * ((tR T_5) - (tR T))) + 0 ≤ (26 * ((tR T_11) - (tR T))) from by omega) ?_
    refine lv_iload_n hx hb dX4_raiseRoot_34 rfl (lv_at hl 0 rfl) ?_
    obtain rfl := Option.some.inj h
    exact z_iret hx hb hr hlk (fun _ => (u_7 0)) hP hD hS dX4_raiseRoot_35
def f_Wk_gather_L103 (O : TV) (x6 : Int) (k : Int → Int → KV → Option (KV)) : Nat → Int → Int → KV → Option (KV)
  | 0, _, _, _ => none
  | n + 1, x4, x7, K =>
  gd (ck x7) <| if x7 < 0 then (k (x4) (x7) (K)) else (bd1 (f_Tr_entryAt O x6 x7) <| fun r_27 => bd1 (f_Rt_put (kLen K) (kPen K) x4 r_27) <| fun K_30 => f_Wk_gather_L103 O x6 k n ((x4 + 1)) ((x7 + (-1))) ((skPen K K_30)))
def f_Wk_gather_L28 (O : TV) (x3 : Int) (k : Int → Int → KV → Option (KV)) : Nat → Int → Int → KV → Option (KV)
  | 0, _, _, _ => none
  | n + 1, x4, x5, K =>
  gd (ck x4) <| if 0 < x4 then (gd (ck x5) <| if x5 < 1000000 then (bd1 (f_Rt_at (kLen K) (kPen K) (x4 + (-1))) <| fun r_15 => gd (ck r_15) <| if r_15 < 24 then (gd (ck x3) <| if 0 = x3 then (bd1 (f_Rt_put (kLen K) (kItm K) (kCnt K) r_15) <| fun K_37 => bd1 (f_Tr_sizeOf O r_15) <| fun r_40 => f_Wk_gather_L103 (O) (r_15) (fun x4_43 x7_44 K_45 => f_Wk_gather_L28 O x3 k n (x4_43) ((x5 + 1)) (K_45)) FU ((x4 + (-1))) ((r_40 - 1)) ((skCnt (skItm K K_37) ((kCnt K) + 1)))) else (bd1 (f_Tr_sizeOf O r_15) <| fun r_22 => f_Wk_gather_L103 (O) (r_15) (fun x4_33 x7_34 K_35 => f_Wk_gather_L28 O x3 k n (x4_33) ((x5 + 1)) (K_35)) FU ((x4 + (-1))) ((r_22 - 1)) (K))) else (gd (ck x3) <| if 1 = x3 then (bd1 (f_Rt_put (kLen K) (kItm K) (kCnt K) r_15) <| fun K_56 => bd1 (f_Tr_sizeOf O r_15) <| fun r_59 => f_Wk_gather_L103 (O) (r_15) (fun x4_62 x7_63 K_64 => f_Wk_gather_L28 O x3 k n (x4_62) ((x5 + 1)) (K_64)) FU ((x4 + (-1))) ((r_59 - 1)) ((skCnt (skItm K K_56) ((kCnt K) + 1)))) else (bd1 (f_Tr_sizeOf O r_15) <| fun r_49 => f_Wk_gather_L103 (O) (r_15) (fun x4_52 x7_53 K_54 => f_Wk_gather_L28 O x3 k n (x4_52) ((x5 + 1)) (K_54)) FU ((x4 + (-1))) ((r_49 - 1)) (K)))) else (k (x4) (x5) (K))) else (k (x4) (x5) (K))
def f_Wk_gather (K : KV) (O : TV) (x2 : Int) (x3 : Int) : Option (KV) :=
  bd1 (f_Tr_room O) <| fun r_1 => bd1 (f_Wk_makeRoom K r_1) <| fun K_4 => bd1 (f_Rt_put (kLen K_4) (kPen K_4) 0 x2) <| fun K_8 => f_Wk_gather_L28 (O) (x3) (fun x4_66 x5_67 K_68 => some (K_68)) FU (1) (0) ((skCnt (skPen K_4 K_8) 0))
abbrev rm_Wk_gather (kc ks : Nat) : Room := ({ frames := 2, cells := kc, slots := ks, locals := 43 } : Room)
theorem mo_Wk_gather_L103 (O : TV) (x6 : Int) (res : KV) (k : Int → Int → KV → Option (KV)) (hkm : ∀ (x4 : Int) (x7 : Int) (K : KV) , k x4 x7 K = some res → (kLen K) ≤ (kLen (res))) : ∀ (n : Nat) (x4 : Int) (x7 : Int) (K : KV) , f_Wk_gather_L103 O x6 k n x4 x7 K = some res → (kLen K) ≤ (kLen (res)) := by
  intro n
  induction n with
  | zero => intro x4 x7 K h; cases h
  | succ n ihm =>
    intro x4 x7 K h
    rw [f_Wk_gather_L103] at h
    obtain ⟨g_25, h⟩ := gd_e h
    rcases it_e h with ⟨_, h⟩ | ⟨_, h⟩
    · have mo9 : (kLen K) ≤ (kLen (res)) := hkm (x4) (x7) (K) h
      exact (show (kLen K) ≤ (kLen (res)) from by omega)
    · obtain ⟨r_27, e_28, h⟩ := bd1_e h
      obtain ⟨K_30, e_31, h⟩ := bd1_e h
      have mo9 : (kLen K) ≤ (kLen (res)) := ihm ((x4 + 1)) ((x7 + (-1))) ((skPen K K_30)) h
      exact (show (kLen K) ≤ (kLen (res)) from by omega)
theorem mo_Wk_gather_L28 (O : TV) (x3 : Int) (res : KV) (k : Int → Int → KV → Option (KV)) (hkm : ∀ (x4 : Int) (x5 : Int) (K : KV) , k x4 x5 K = some res → (kLen K) ≤ (kLen (res))) : ∀ (n : Nat) (x4 : Int) (x5 : Int) (K : KV) , f_Wk_gather_L28 O x3 k n x4 x5 K = some res → (kLen K) ≤ (kLen (res)) := by
  intro n
  induction n with
  | zero => intro x4 x5 K h; cases h
  | succ n ihm =>
    intro x4 x5 K h
    rw [f_Wk_gather_L28] at h
    obtain ⟨g_11, h⟩ := gd_e h
    rcases it_e h with ⟨_, h⟩ | ⟨_, h⟩
    · obtain ⟨g_13, h⟩ := gd_e h
      rcases it_e h with ⟨_, h⟩ | ⟨_, h⟩
      · obtain ⟨r_15, e_16, h⟩ := bd1_e h
        obtain ⟨g_18, h⟩ := gd_e h
        rcases it_e h with ⟨_, h⟩ | ⟨_, h⟩
        · obtain ⟨g_20, h⟩ := gd_e h
          rcases it_e h with ⟨_, h⟩ | ⟨_, h⟩
          · obtain ⟨K_37, e_38, h⟩ := bd1_e h
            obtain ⟨r_40, e_41, h⟩ := bd1_e h
            have mo9 : (kLen K) ≤ (kLen (res)) := mo_Wk_gather_L103 (O) (r_15) _ _ (fun x4_43 x7_44 K_45 h => by
                have mo9 : (kLen K_45) ≤ (kLen (res)) := ihm (x4_43) ((x5 + 1)) (K_45) h
                exact (show (kLen K_45) ≤ (kLen (res)) from by omega)) _ ((x4 + (-1))) ((r_40 - 1)) ((skCnt (skItm K K_37) ((kCnt K) + 1))) h
            exact (show (kLen K) ≤ (kLen (res)) from by omega)
          · obtain ⟨r_22, e_23, h⟩ := bd1_e h
            have mo9 : (kLen K) ≤ (kLen (res)) := mo_Wk_gather_L103 (O) (r_15) _ _ (fun x4_33 x7_34 K_35 h => by
                have mo9 : (kLen K_35) ≤ (kLen (res)) := ihm (x4_33) ((x5 + 1)) (K_35) h
                exact (show (kLen K_35) ≤ (kLen (res)) from by omega)) _ ((x4 + (-1))) ((r_22 - 1)) (K) h
            exact (show (kLen K) ≤ (kLen (res)) from by omega)
        · obtain ⟨g_47, h⟩ := gd_e h
          rcases it_e h with ⟨_, h⟩ | ⟨_, h⟩
          · obtain ⟨K_56, e_57, h⟩ := bd1_e h
            obtain ⟨r_59, e_60, h⟩ := bd1_e h
            have mo9 : (kLen K) ≤ (kLen (res)) := mo_Wk_gather_L103 (O) (r_15) _ _ (fun x4_62 x7_63 K_64 h => by
                have mo9 : (kLen K_64) ≤ (kLen (res)) := ihm (x4_62) ((x5 + 1)) (K_64) h
                exact (show (kLen K_64) ≤ (kLen (res)) from by omega)) _ ((x4 + (-1))) ((r_59 - 1)) ((skCnt (skItm K K_56) ((kCnt K) + 1))) h
            exact (show (kLen K) ≤ (kLen (res)) from by omega)
          · obtain ⟨r_49, e_50, h⟩ := bd1_e h
            have mo9 : (kLen K) ≤ (kLen (res)) := mo_Wk_gather_L103 (O) (r_15) _ _ (fun x4_52 x7_53 K_54 h => by
                have mo9 : (kLen K_54) ≤ (kLen (res)) := ihm (x4_52) ((x5 + 1)) (K_54) h
                exact (show (kLen K_54) ≤ (kLen (res)) from by omega)) _ ((x4 + (-1))) ((r_49 - 1)) (K) h
            exact (show (kLen K) ≤ (kLen (res)) from by omega)
      · have mo9 : (kLen K) ≤ (kLen (res)) := hkm (x4) (x5) (K) h
        exact (show (kLen K) ≤ (kLen (res)) from by omega)
    · have mo9 : (kLen K) ≤ (kLen (res)) := hkm (x4) (x5) (K) h
      exact (show (kLen K) ≤ (kLen (res)) from by omega)
theorem mo_Wk_gather (K : KV) (O : TV) (x2 : Int) (x3 : Int) (res : KV) (h : f_Wk_gather K O x2 x3 = some res) : (kLen K) ≤ (kLen (res)) := by
  unfold f_Wk_gather at h
  obtain ⟨r_1, e_2, h⟩ := bd1_e h
  obtain ⟨K_4, e_5, h⟩ := bd1_e h
  have mo_7 : (kLen K) ≤ (kLen K_4) := mo_Wk_makeRoom K r_1 (K_4) e_5
  obtain ⟨K_8, e_9, h⟩ := bd1_e h
  have mo9 : (kLen K_4) ≤ (kLen (res)) := mo_Wk_gather_L28 (O) (x3) _ _ (fun x4_66 x5_67 K_68 h => by
      obtain rfl := Option.some.inj h
      exact (show (kLen K_68) ≤ (kLen K_68) from by omega)) _ (1) (0) ((skCnt (skPen K_4 K_8) 0)) h
  exact (show (kLen K) ≤ (kLen (res)) from by omega)
set_option maxHeartbeats 4000000 in
set_option maxRecDepth 100000 in
theorem w_Wk_gather_L103 {p : Program} {l : Launch} {e : Env} {s : State} {m : MethodId} {args : Array Value} {below : List Frame} {meth : Method} {c : Code} {A : Nat → Prop} (D : va_G) (cI cZ cT : ClassId) (h_K : Nat) (q_K : Nat → Nat) (h_O : Nat) (q_O : Nat → Nat) (O : TV) (x3 : Int) (x5 : Int) (x6 : Int) (R0_K : Nat) (res : KV) (k : Int → Int → KV → Option (KV)) (hF : zF p m c cX5_gather 8 s args yX5_gather.cls meth none yX5_gather.name A D (zt cI cZ cT))
    (hkm : ∀ (x4 : Int) (x7 : Int) (K : KV) , k x4 x7 K = some res → (kLen K) ≤ (kLen (res)))
    (hk : ∀ (x4 : Int) (x7 : Int) (K : KV) (H : Heap) (locs : List Loc) (ls : Array Slot), k x4 x7 K = some res → R0_K ≤ (kLen K) → va_P D vwCl ((zWk cI h_K q_K K) ++ (zTr cI h_O q_O O)) H → va_D A ((zWk cI h_K q_K K) ++ (zTr cI h_O q_O O)) → va_S A s.heap H locs → lv_has ls 8 [(0, .ref h_K), (1, .ref h_O), (3, vI x3), (4, vI x4), (5, vI x5)] → W p l e (rm_Wk_gather (2 * ((kLen (res)) - R0_K)) (4 * ((kLen (res)) - R0_K))) s m args below meth c H locs (2 * ((kLen K) - R0_K)) (4 * ((kLen K) - R0_K)) (MQ below (zQv D (fun u => (zWk cI h_K (u 0) (res)) ++ (zTr cI h_O q_O O)) A) args s (2 * ((kLen (res)) - R0_K)) (4 * ((kLen (res)) - R0_K)) A) (F0 m 134 ls [])) :
    ∀ (n : Nat) (x4 : Int) (x7 : Int) (K : KV) (H : Heap) (locs : List Loc) (ls : Array Slot), f_Wk_gather_L103 O x6 k n x4 x7 K = some res → R0_K ≤ (kLen K) → va_P D vwCl ((zWk cI h_K q_K K) ++ (zTr cI h_O q_O O)) H → va_D A ((zWk cI h_K q_K K) ++ (zTr cI h_O q_O O)) → va_S A s.heap H locs → lv_has ls 8 [(0, .ref h_K), (1, .ref h_O), (3, vI x3), (4, vI x4), (5, vI x5), (6, vI x6), (7, vI x7)] → W p l e (rm_Wk_gather (2 * ((kLen (res)) - R0_K)) (4 * ((kLen (res)) - R0_K))) s m args below meth c H locs (2 * ((kLen K) - R0_K)) (4 * ((kLen K) - R0_K)) (MQ below (zQv D (fun u => (zWk cI h_K (u 0) (res)) ++ (zTr cI h_O q_O O)) A) args s (2 * ((kLen (res)) - R0_K)) (4 * ((kLen (res)) - R0_K)) A) (F0 m 103 ls []) := by
  have hx := hF.1.1
  have hb := hF.1.2.1
  have hml := hF.1.2.2.1
  have hown : s.vm.findClass "RectangleTree$Walk" = some m.cls := hF.1.2.2.2.1
  have hts := hF.1.2.2.2.2
  have hr := hF.2.1
  have hlk := hF.2.2.1
  have hK := hF.2.2.2.2.1
  have hN := hF.2.2.2.2.2.1
  have hA := hF.2.2.2.2.2.2
  intro n
  induction n with
  | zero => intro x4 x7 K  H locs ls h; cases h
  | succ n ih =>
    intro x4 x7 K  H locs ls h hm00 hP hD hS hl
    have hm : (kLen K) ≤ (kLen (res)) := mo_Wk_gather_L103 O x6 res k hkm (n + 1) x4 x7 K h
    have ihm := mo_Wk_gather_L103 O x6 res k hkm n
    rw [f_Wk_gather_L103] at h
    refine lv_iload hx hb dX5_gather_103 (lv_at hl 6 rfl) ?_
    obtain ⟨g_25, h⟩ := gd_e h
    refine z_if_lt (tgt := 134) hx hb g_25 dX5_gather_105 (by decide) (fun b_26 => ?_) (fun b_26 => ?_)
    · have h := it_p b_26 h
      exact hk (x4) (x7) (K)  H locs ls h (show R0_K ≤ (kLen K) from by omega) hP hD hS (lv_sub hl [0, 1, 2, 3, 4] rfl)
    · have h := it_n b_26 h
      refine lv_aload_n hx hb dX5_gather_108 rfl (lv_at hl 0 rfl) ?_
      refine va_get (D := D) (ci := 5) (v := .ref (q_K 1)) (C := RX5) (T := TX5) (N := 3) hx hb hts zin5 hown hK hP 0 rfl rfl 2 (by decide) (hts _ wm176) (fun _ h9 => h9) rfl dX5_gather_109 ?_
      refine lv_iload hx hb dX5_gather_112 (lv_at hl 3 rfl) ?_
      refine lv_aload_n hx hb dX5_gather_114 rfl (lv_at hl 1 rfl) ?_
      refine lv_iload hx hb dX5_gather_115 (lv_at hl 5 rfl) ?_
      refine lv_iload hx hb dX5_gather_117 (lv_at hl 6 rfl) ?_
      obtain ⟨r_27, e_28, h⟩ := bd1_e h
      refine z_goi (ws' := []) (ret := r_27) (wc := (zTr cI (h_O) (q_O) (O))) (wn := fun u_29 => (zWk cI h_K q_K K) ++ (zTr cI h_O q_O O)) (wr := ([0, 1, 2].filterMap (fun i => ((zWk cI h_K q_K K) ++ (zTr cI h_O q_O O))[i]?))) (va_runV (As := [vI x6, vI x7]) (rest := [vI x4, .ref (q_K 1)]) hF.1 (c_Tr_entryAt l D cI cZ cT h_O q_O O x6 x7 H.size (r_27) e_28) (cwV 2 hts (zgV wm295 wm296 wm297 wm84 wm298) rfl rfl rfl (by decide +kernel) ⟨Nat.le_of_ble_eq_true rfl, Nat.le_of_ble_eq_true rfl⟩) ⟨zP.blind, va_recv hK (z_subP (ws' := (zTr cI (h_O) (q_O) (O))) hP [3, 4, 5, 6, 7, 8] rfl) (ci := 4) (q0 := 0) rfl rfl, zP.enter (z_subP (ws' := (zTr cI (h_O) (q_O) (O))) hP [3, 4, 5, 6, 7, 8] rfl) hK (hD.sub [3, 4, 5, 6, 7, 8] (by decide) rfl) hN⟩ rfl rfl hl.1 rfl (lv_room (Nat.le_of_ble_eq_true rfl)) dX5_gather_119 ⟨(show (2 * ((kLen K) - R0_K)) + 0 ≤ (2 * ((kLen (res)) - R0_K)) from by omega), (show (4 * ((kLen K) - R0_K)) + 0 ≤ (4 * ((kLen (res)) - R0_K)) from by omega)⟩) hP hD hS hA [3, 4, 5, 6, 7, 8] [0, 1, 2] [0, 1, 2, 3, 4, 5, 6, 7, 8] rfl rfl (by decide) (fun _ => rfl) (fun u_29 H locs hP hD hS hz => ?_)
      obtain ⟨K_30, e_31, h⟩ := bd1_e h
      refine z_gov (wc := (zAr cI ((q_K 1)) ((kLen K)) ((kPen K)))) (wn := fun u_32 => (zWk cI h_K q_K (skPen K K_30)) ++ (zTr cI h_O q_O O)) (wr := ([0, 1, 3, 4, 5, 6, 7, 8].filterMap (fun i => ((zWk cI h_K q_K K) ++ (zTr cI h_O q_O O))[i]?))) (va_runSN (As := [.ref (q_K 1), vI x4, vI r_27]) (rest := []) hF.1 (c_Rt_put l D cI cZ cT (q_K 1) (kLen K) (kPen K) x4 r_27 H.size (K_30) e_31) ⟨va_cnB 3 hts (zW_good wm113) rfl rfl rfl (hN.at 4 rfl) (hts _ wm83) (by decide +kernel) ⟨Nat.le_of_ble_eq_true rfl, Nat.le_of_ble_eq_true rfl⟩, hts _ wm112, trivial⟩ ⟨zP.blind, zP.enter (z_subP (ws' := (zAr cI ((q_K 1)) ((kLen K)) ((kPen K)))) hP [2] rfl) hK (hD.sub [2] (by decide) rfl) hN⟩ rfl rfl hl.1 rfl (lv_room (Nat.le_of_ble_eq_true rfl)) dX5_gather_122 ⟨(show (2 * ((kLen K) - R0_K)) + 0 ≤ (2 * ((kLen (res)) - R0_K)) from by omega), (show (4 * ((kLen K) - R0_K)) + 0 ≤ (4 * ((kLen (res)) - R0_K)) from by omega)⟩) hP hD hS hA [2] [0, 1, 3, 4, 5, 6, 7, 8] [0, 1, 8, 2, 3, 4, 5, 6, 7] rfl rfl (by decide) (fun _ => rfl) (fun u_32 H locs hP hD hS hz => ?_)
      refine lv_iinc (v := Int32.ofInt (x4 + 1)) (lv' := [(4, vI (x4 + 1)), (0, .ref h_K), (1, .ref h_O), (3, vI x3), (5, vI x5), (6, vI x6), (7, vI x7)]) hx hb dX5_gather_125 hl (k := 3) rfl (z_inc _ _) (by decide) rfl (fun ls hl => ?_)
      refine lv_iinc (v := Int32.ofInt (x7 + (-1))) (lv' := [(7, vI (x7 + (-1))), (4, vI (x4 + 1)), (0, .ref h_K), (1, .ref h_O), (3, vI x3), (5, vI x5), (6, vI x6)]) hx hb dX5_gather_128 hl (k := 6) rfl (z_inc _ _) (by decide) rfl (fun ls hl => ?_)
      refine lv_goto (tgt := 103) hx hb dX5_gather_131 (by decide) ?_
      exact ih ((x4 + 1)) ((x7 + (-1))) ((skPen K K_30))  H locs ls h (show R0_K ≤ (kLen K) from by omega) hP hD hS (lv_sub hl [2, 3, 4, 1, 5, 6, 0] rfl)
set_option maxHeartbeats 4000000 in
set_option maxRecDepth 100000 in
theorem w_Wk_gather_L28 {p : Program} {l : Launch} {e : Env} {s : State} {m : MethodId} {args : Array Value} {below : List Frame} {meth : Method} {c : Code} {A : Nat → Prop} (D : va_G) (cI cZ cT : ClassId) (h_K : Nat) (q_K : Nat → Nat) (h_O : Nat) (q_O : Nat → Nat) (O : TV) (x3 : Int) (R0_K : Nat) (res : KV) (k : Int → Int → KV → Option (KV)) (hF : zF p m c cX5_gather 8 s args yX5_gather.cls meth none yX5_gather.name A D (zt cI cZ cT))
    (hkm : ∀ (x4 : Int) (x5 : Int) (K : KV) , k x4 x5 K = some res → (kLen K) ≤ (kLen (res)))
    (hk : ∀ (x4 : Int) (x5 : Int) (K : KV) (H : Heap) (locs : List Loc) (ls : Array Slot), k x4 x5 K = some res → R0_K ≤ (kLen K) → va_P D vwCl ((zWk cI h_K q_K K) ++ (zTr cI h_O q_O O)) H → va_D A ((zWk cI h_K q_K K) ++ (zTr cI h_O q_O O)) → va_S A s.heap H locs → lv_has ls 8 [] → W p l e (rm_Wk_gather (2 * ((kLen (res)) - R0_K)) (4 * ((kLen (res)) - R0_K))) s m args below meth c H locs (2 * ((kLen K) - R0_K)) (4 * ((kLen K) - R0_K)) (MQ below (zQv D (fun u => (zWk cI h_K (u 0) (res)) ++ (zTr cI h_O q_O O)) A) args s (2 * ((kLen (res)) - R0_K)) (4 * ((kLen (res)) - R0_K)) A) (F0 m 140 ls [])) :
    ∀ (n : Nat) (x4 : Int) (x5 : Int) (K : KV) (H : Heap) (locs : List Loc) (ls : Array Slot), f_Wk_gather_L28 O x3 k n x4 x5 K = some res → R0_K ≤ (kLen K) → va_P D vwCl ((zWk cI h_K q_K K) ++ (zTr cI h_O q_O O)) H → va_D A ((zWk cI h_K q_K K) ++ (zTr cI h_O q_O O)) → va_S A s.heap H locs → lv_has ls 8 [(0, .ref h_K), (1, .ref h_O), (3, vI x3), (4, vI x4), (5, vI x5)] → W p l e (rm_Wk_gather (2 * ((kLen (res)) - R0_K)) (4 * ((kLen (res)) - R0_K))) s m args below meth c H locs (2 * ((kLen K) - R0_K)) (4 * ((kLen K) - R0_K)) (MQ below (zQv D (fun u => (zWk cI h_K (u 0) (res)) ++ (zTr cI h_O q_O O)) A) args s (2 * ((kLen (res)) - R0_K)) (4 * ((kLen (res)) - R0_K)) A) (F0 m 28 ls []) := by
  have hx := hF.1.1
  have hb := hF.1.2.1
  have hml := hF.1.2.2.1
  have hown : s.vm.findClass "RectangleTree$Walk" = some m.cls := hF.1.2.2.2.1
  have hts := hF.1.2.2.2.2
  have hr := hF.2.1
  have hlk := hF.2.2.1
  have hK := hF.2.2.2.2.1
  have hN := hF.2.2.2.2.2.1
  have hA := hF.2.2.2.2.2.2
  intro n
  induction n with
  | zero => intro x4 x5 K  H locs ls h; cases h
  | succ n ih =>
    intro x4 x5 K  H locs ls h hm00 hP hD hS hl
    have hm : (kLen K) ≤ (kLen (res)) := mo_Wk_gather_L28 O x3 res k hkm (n + 1) x4 x5 K h
    have ihm := mo_Wk_gather_L28 O x3 res k hkm n
    rw [f_Wk_gather_L28] at h
    refine lv_iload hx hb dX5_gather_28 (lv_at hl 3 rfl) ?_
    obtain ⟨g_11, h⟩ := gd_e h
    refine z_if_le (tgt := 140) hx hb g_11 dX5_gather_30 (by decide) (fun b_12 => ?_) (fun b_12 => ?_)
    · have h := it_n b_12 h
      exact hk (x4) (x5) (K)  H locs ls h (show R0_K ≤ (kLen K) from by omega) hP hD hS (lv_sub hl [] rfl)
    · have h := it_p b_12 h
      refine lv_iload hx hb dX5_gather_33 (lv_at hl 4 rfl) ?_
      refine lv_ldc (v := Int32.ofInt 1000000) hx hb hown (hts _ wm287) dX5_gather_35 ?_
      obtain ⟨g_13, h⟩ := gd_e h
      refine z_icmp_ge (tgt := 140) hx hb g_13 (by decide) dX5_gather_37 (by decide) (fun b_14 => ?_) (fun b_14 => ?_)
      · have h := it_n b_14 h
        exact hk (x4) (x5) (K)  H locs ls h (show R0_K ≤ (kLen K) from by omega) hP hD hS (lv_sub hl [] rfl)
      · have h := it_p b_14 h
        refine lv_iinc (v := Int32.ofInt (x4 + (-1))) (lv' := [(4, vI (x4 + (-1))), (0, .ref h_K), (1, .ref h_O), (3, vI x3), (5, vI x5)]) hx hb dX5_gather_40 hl (k := 3) rfl (z_inc _ _) (by decide) rfl (fun ls hl => ?_)
        refine lv_aload_n hx hb dX5_gather_43 rfl (lv_at hl 1 rfl) ?_
        refine va_get (D := D) (ci := 5) (v := .ref (q_K 1)) (C := RX5) (T := TX5) (N := 3) hx hb hts zin5 hown hK hP 0 rfl rfl 2 (by decide) (hts _ wm176) (fun _ h9 => h9) rfl dX5_gather_44 ?_
        refine lv_iload hx hb dX5_gather_47 (lv_at hl 0 rfl) ?_
        obtain ⟨r_15, e_16, h⟩ := bd1_e h
        refine z_goi (ws' := []) (ret := r_15) (wc := (zAr cI ((q_K 1)) ((kLen K)) ((kPen K)))) (wn := fun u_17 => (zWk cI h_K q_K K) ++ (zTr cI h_O q_O O)) (wr := ([0, 1, 3, 4, 5, 6, 7, 8].filterMap (fun i => ((zWk cI h_K q_K K) ++ (zTr cI h_O q_O O))[i]?))) (va_runSN (As := [.ref (q_K 1), vI (x4 + (-1))]) (rest := []) hF.1 (c_Rt_at l D cI cZ cT (q_K 1) (kLen K) (kPen K) (x4 + (-1)) H.size (r_15) e_16) ⟨va_cnB 2 hts (zW_good wm290) rfl rfl rfl (hN.at 5 rfl) (hts _ wm83) (by decide +kernel) ⟨Nat.le_of_ble_eq_true rfl, Nat.le_of_ble_eq_true rfl⟩, hts _ wm289, trivial⟩ ⟨zP.blind, zP.enter (z_subP (ws' := (zAr cI ((q_K 1)) ((kLen K)) ((kPen K)))) hP [2] rfl) hK (hD.sub [2] (by decide) rfl) hN⟩ rfl rfl hl.1 rfl (lv_room (Nat.le_of_ble_eq_true rfl)) dX5_gather_49 ⟨(show (2 * ((kLen K) - R0_K)) + 0 ≤ (2 * ((kLen (res)) - R0_K)) from by omega), (show (4 * ((kLen K) - R0_K)) + 0 ≤ (4 * ((kLen (res)) - R0_K)) from by omega)⟩) hP hD hS hA [2] [0, 1, 3, 4, 5, 6, 7, 8] [0, 1, 8, 2, 3, 4, 5, 6, 7] rfl rfl (by decide) (fun _ => rfl) (fun u_17 H locs hP hD hS hz => ?_)
        refine lv_istore (lv' := [(6, vI r_15), (4, vI (x4 + (-1))), (0, .ref h_K), (1, .ref h_O), (3, vI x3), (5, vI x5)]) hx hb dX5_gather_52 hl (by decide) rfl (fun ls hl => ?_)
        refine lv_iload hx hb dX5_gather_54 (lv_at hl 0 rfl) ?_
        refine lv_bipush (v := Int32.ofInt 24) hx hb dX5_gather_56 (by decide +kernel) ?_
        obtain ⟨g_18, h⟩ := gd_e h
        refine z_icmp_lt (tgt := 65) hx hb g_18 (by decide) dX5_gather_58 (by decide) (fun b_19 => ?_) (fun b_19 => ?_)
        · have h := it_p b_19 h
          refine lv_iconst (v := Int32.ofInt 0) hx hb dX5_gather_65 rfl ?_
          refine lv_iload_n hx hb dX5_gather_66 rfl (lv_at hl 4 rfl) ?_
          obtain ⟨g_20, h⟩ := gd_e h
          refine z_icmp_ne (tgt := 93) hx hb (by decide) g_20 dX5_gather_67 (by decide) (fun b_21 => ?_) (fun b_21 => ?_)
          · have h := it_n b_21 h
            refine lv_aload_n hx hb dX5_gather_93 rfl (lv_at hl 3 rfl) ?_
            refine lv_iload hx hb dX5_gather_94 (lv_at hl 0 rfl) ?_
            obtain ⟨r_22, e_23, h⟩ := bd1_e h
            refine z_goi (ws' := []) (ret := r_22) (wc := (zTr cI (h_O) (q_O) (O))) (wn := fun u_24 => (zWk cI h_K q_K K) ++ (zTr cI h_O q_O O)) (wr := ([0, 1, 2].filterMap (fun i => ((zWk cI h_K q_K K) ++ (zTr cI h_O q_O O))[i]?))) (va_runV (As := [vI r_15]) (rest := []) hF.1 (c_Tr_sizeOf l D cI cZ cT h_O q_O O r_15 H.size (r_22) e_23) (cwV 1 hts (zgV wm291 wm292 wm293 wm84 wm294) rfl rfl rfl (by decide +kernel) ⟨Nat.le_of_ble_eq_true rfl, Nat.le_of_ble_eq_true rfl⟩) ⟨zP.blind, va_recv hK (z_subP (ws' := (zTr cI (h_O) (q_O) (O))) hP [3, 4, 5, 6, 7, 8] rfl) (ci := 4) (q0 := 0) rfl rfl, zP.enter (z_subP (ws' := (zTr cI (h_O) (q_O) (O))) hP [3, 4, 5, 6, 7, 8] rfl) hK (hD.sub [3, 4, 5, 6, 7, 8] (by decide) rfl) hN⟩ rfl rfl hl.1 rfl (lv_room (Nat.le_of_ble_eq_true rfl)) dX5_gather_96 ⟨(show (2 * ((kLen K) - R0_K)) + 0 ≤ (2 * ((kLen (res)) - R0_K)) from by omega), (show (4 * ((kLen K) - R0_K)) + 0 ≤ (4 * ((kLen (res)) - R0_K)) from by omega)⟩) hP hD hS hA [3, 4, 5, 6, 7, 8] [0, 1, 2] [0, 1, 2, 3, 4, 5, 6, 7, 8] rfl rfl (by decide) (fun _ => rfl) (fun u_24 H locs hP hD hS hz => ?_)
            refine lv_iconst (v := Int32.ofInt 1) hx hb dX5_gather_99 rfl ?_
            refine z_isub hx hb dX5_gather_100 ?_
            refine lv_istore (lv' := [(7, vI (r_22 - 1)), (6, vI r_15), (4, vI (x4 + (-1))), (0, .ref h_K), (1, .ref h_O), (3, vI x3), (5, vI x5)]) hx hb dX5_gather_101 hl (by decide) rfl (fun ls hl => ?_)
            refine w_Wk_gather_L103 D cI cZ cT (h_K) (q_K) (h_O) (q_O) (O) (x3) (x5) (r_15) (R0_K) _ _ hF (fun x4_33 x7_34 K_35 h => by
                have mo9 : (kLen K_35) ≤ (kLen (res)) := ihm (x4_33) ((x5 + 1)) (K_35) h
                exact (show (kLen K_35) ≤ (kLen (res)) from by omega)) (fun x4_33 x7_34 K_35  H locs ls h hmz_36 hP hD hS hl => ?_) _ ((x4 + (-1))) ((r_22 - 1)) (K)  _ _ _ h (show R0_K ≤ (kLen K) from by omega) hP hD hS (lv_sub hl [3, 4, 5, 2, 6, 1, 0] rfl)
            have hm : (kLen K_35) ≤ (kLen (res)) := by
              have mo9 : (kLen K_35) ≤ (kLen (res)) := ihm (x4_33) ((x5 + 1)) (K_35) h
              exact (show (kLen K_35) ≤ (kLen (res)) from by omega)
            refine lv_iinc (v := Int32.ofInt (x5 + 1)) (lv' := [(5, vI (x5 + 1)), (0, .ref h_K), (1, .ref h_O), (3, vI x3), (4, vI x4_33)]) hx hb dX5_gather_134 hl (k := 4) rfl (z_inc _ _) (by decide) rfl (fun ls hl => ?_)
            refine lv_goto (tgt := 28) hx hb dX5_gather_137 (by decide) ?_
            exact ih (x4_33) ((x5 + 1)) (K_35)  H locs ls h (show R0_K ≤ (kLen K_35) from by omega) hP hD hS (lv_sub hl [1, 2, 3, 4, 0] rfl)
          · have h := it_p b_21 h
            refine lv_aload_n hx hb dX5_gather_70 rfl (lv_at hl 2 rfl) ?_
            refine va_get (D := D) (ci := 5) (v := .ref (q_K 0)) (C := RX5) (T := TX5) (N := 3) hx hb hts zin5 hown hK hP 0 rfl rfl 0 (by decide) (hts _ wm170) (fun _ h9 => h9) rfl dX5_gather_71 ?_
            refine lv_aload_n hx hb dX5_gather_74 rfl (lv_at hl 2 rfl) ?_
            refine va_get (D := D) (ci := 5) (v := vI (kCnt K)) (C := RX5) (T := TX5) (N := 3) hx hb hts zin5 hown hK hP 0 rfl rfl 1 (by decide) (hts _ wm173) (fun _ h9 => h9) rfl dX5_gather_75 ?_
            refine lv_iload hx hb dX5_gather_78 (lv_at hl 0 rfl) ?_
            obtain ⟨K_37, e_38, h⟩ := bd1_e h
            refine z_gov (wc := (zAr cI ((q_K 0)) ((kLen K)) ((kItm K)))) (wn := fun u_39 => (zWk cI h_K q_K (skItm K K_37)) ++ (zTr cI h_O q_O O)) (wr := ([0, 2, 3, 4, 5, 6, 7, 8].filterMap (fun i => ((zWk cI h_K q_K K) ++ (zTr cI h_O q_O O))[i]?))) (va_runSN (As := [.ref (q_K 0), vI (kCnt K), vI r_15]) (rest := []) hF.1 (c_Rt_put l D cI cZ cT (q_K 0) (kLen K) (kItm K) (kCnt K) r_15 H.size (K_37) e_38) ⟨va_cnB 3 hts (zW_good wm113) rfl rfl rfl (hN.at 4 rfl) (hts _ wm83) (by decide +kernel) ⟨Nat.le_of_ble_eq_true rfl, Nat.le_of_ble_eq_true rfl⟩, hts _ wm112, trivial⟩ ⟨zP.blind, zP.enter (z_subP (ws' := (zAr cI ((q_K 0)) ((kLen K)) ((kItm K)))) hP [1] rfl) hK (hD.sub [1] (by decide) rfl) hN⟩ rfl rfl hl.1 rfl (lv_room (Nat.le_of_ble_eq_true rfl)) dX5_gather_80 ⟨(show (2 * ((kLen K) - R0_K)) + 0 ≤ (2 * ((kLen (res)) - R0_K)) from by omega), (show (4 * ((kLen K) - R0_K)) + 0 ≤ (4 * ((kLen (res)) - R0_K)) from by omega)⟩) hP hD hS hA [1] [0, 2, 3, 4, 5, 6, 7, 8] [0, 8, 1, 2, 3, 4, 5, 6, 7] rfl rfl (by decide) (fun _ => rfl) (fun u_39 H locs hP hD hS hz => ?_)
            refine lv_aload_n hx hb dX5_gather_83 rfl (lv_at hl 2 rfl) ?_
            refine lv_dup hx hb dX5_gather_84 rfl ?_
            refine va_get (D := D) (ci := 5) (v := vI (kCnt K)) (C := RX5) (T := TX5) (N := 3) hx hb hts zin5 hown hK hP 0 rfl rfl 1 (by decide) (hts _ wm173) (fun _ h9 => h9) rfl dX5_gather_85 ?_
            refine lv_iconst (v := Int32.ofInt 1) hx hb dX5_gather_88 rfl ?_
            refine z_iadd hx hb dX5_gather_89 ?_
            refine va_put (D := D) (ci := 5) (v := vI ((kCnt K) + 1)) (ty := .int) (C := RX5) (T := TX5) (N := 3) hx hb hts zin5 tyX5 tyX5_ok nmX5 hown hK hP hD hS 0 rfl rfl 1 (by decide) (hts _ wm173) (fun _ h9 => h9) rfl (by decide +kernel) rfl rfl (Nat.le_of_ble_eq_true rfl) dX5_gather_90 (fun H locs hP hD hS => ?_)
            replace hP : va_P D vwCl ((zWk cI h_K q_K (skCnt (skItm K K_37) ((kCnt K) + 1))) ++ (zTr cI h_O q_O O)) H := hP
            replace hD : va_D A ((zWk cI h_K q_K (skCnt (skItm K K_37) ((kCnt K) + 1))) ++ (zTr cI h_O q_O O)) := hD
            refine lv_aload_n hx hb dX5_gather_93 rfl (lv_at hl 3 rfl) ?_
            refine lv_iload hx hb dX5_gather_94 (lv_at hl 0 rfl) ?_
            obtain ⟨r_40, e_41, h⟩ := bd1_e h
            refine z_goi (ws' := []) (ret := r_40) (wc := (zTr cI (h_O) (q_O) (O))) (wn := fun u_42 => (zWk cI h_K q_K (skCnt (skItm K K_37) ((kCnt K) + 1))) ++ (zTr cI h_O q_O O)) (wr := ([0, 1, 2].filterMap (fun i => ((zWk cI h_K q_K (skCnt (skItm K K_37) ((kCnt K) + 1))) ++ (zTr cI h_O q_O O))[i]?))) (va_runV (As := [vI r_15]) (rest := []) hF.1 (c_Tr_sizeOf l D cI cZ cT h_O q_O O r_15 H.size (r_40) e_41) (cwV 1 hts (zgV wm291 wm292 wm293 wm84 wm294) rfl rfl rfl (by decide +kernel) ⟨Nat.le_of_ble_eq_true rfl, Nat.le_of_ble_eq_true rfl⟩) ⟨zP.blind, va_recv hK (z_subP (ws' := (zTr cI (h_O) (q_O) (O))) hP [3, 4, 5, 6, 7, 8] rfl) (ci := 4) (q0 := 0) rfl rfl, zP.enter (z_subP (ws' := (zTr cI (h_O) (q_O) (O))) hP [3, 4, 5, 6, 7, 8] rfl) hK (hD.sub [3, 4, 5, 6, 7, 8] (by decide) rfl) hN⟩ rfl rfl hl.1 rfl (lv_room (Nat.le_of_ble_eq_true rfl)) dX5_gather_96 ⟨(show (2 * ((kLen K) - R0_K)) + 0 ≤ (2 * ((kLen (res)) - R0_K)) from by omega), (show (4 * ((kLen K) - R0_K)) + 0 ≤ (4 * ((kLen (res)) - R0_K)) from by omega)⟩) hP hD hS hA [3, 4, 5, 6, 7, 8] [0, 1, 2] [0, 1, 2, 3, 4, 5, 6, 7, 8] rfl rfl (by decide) (fun _ => rfl) (fun u_42 H locs hP hD hS hz => ?_)
            refine lv_iconst (v := Int32.ofInt 1) hx hb dX5_gather_99 rfl ?_
            refine z_isub hx hb dX5_gather_100 ?_
            refine lv_istore (lv' := [(7, vI (r_40 - 1)), (6, vI r_15), (4, vI (x4 + (-1))), (0, .ref h_K), (1, .ref h_O), (3, vI x3), (5, vI x5)]) hx hb dX5_gather_101 hl (by decide) rfl (fun ls hl => ?_)
            refine w_Wk_gather_L103 D cI cZ cT (h_K) (q_K) (h_O) (q_O) (O) (x3) (x5) (r_15) (R0_K) _ _ hF (fun x4_43 x7_44 K_45 h => by
                have mo9 : (kLen K_45) ≤ (kLen (res)) := ihm (x4_43) ((x5 + 1)) (K_45) h
                exact (show (kLen K_45) ≤ (kLen (res)) from by omega)) (fun x4_43 x7_44 K_45  H locs ls h hmz_46 hP hD hS hl => ?_) _ ((x4 + (-1))) ((r_40 - 1)) ((skCnt (skItm K K_37) ((kCnt K) + 1)))  _ _ _ h (show R0_K ≤ (kLen K) from by omega) hP hD hS (lv_sub hl [3, 4, 5, 2, 6, 1, 0] rfl)
            have hm : (kLen K_45) ≤ (kLen (res)) := by
              have mo9 : (kLen K_45) ≤ (kLen (res)) := ihm (x4_43) ((x5 + 1)) (K_45) h
              exact (show (kLen K_45) ≤ (kLen (res)) from by omega)
            refine lv_iinc (v := Int32.ofInt (x5 + 1)) (lv' := [(5, vI (x5 + 1)), (0, .ref h_K), (1, .ref h_O), (3, vI x3), (4, vI x4_43)]) hx hb dX5_gather_134 hl (k := 4) rfl (z_inc _ _) (by decide) rfl (fun ls hl => ?_)
            refine lv_goto (tgt := 28) hx hb dX5_gather_137 (by decide) ?_
            exact ih (x4_43) ((x5 + 1)) (K_45)  H locs ls h (show R0_K ≤ (kLen K_45) from by omega) hP hD hS (lv_sub hl [1, 2, 3, 4, 0] rfl)
        · have h := it_n b_19 h
          refine lv_iconst (v := Int32.ofInt 1) hx hb dX5_gather_61 rfl ?_
          refine lv_goto (tgt := 66) hx hb dX5_gather_62 (by decide) ?_
          refine lv_iload_n hx hb dX5_gather_66 rfl (lv_at hl 4 rfl) ?_
          obtain ⟨g_47, h⟩ := gd_e h
          refine z_icmp_ne (tgt := 93) hx hb (by decide) g_47 dX5_gather_67 (by decide) (fun b_48 => ?_) (fun b_48 => ?_)
          · have h := it_n b_48 h
            refine lv_aload_n hx hb dX5_gather_93 rfl (lv_at hl 3 rfl) ?_
            refine lv_iload hx hb dX5_gather_94 (lv_at hl 0 rfl) ?_
            obtain ⟨r_49, e_50, h⟩ := bd1_e h
            refine z_goi (ws' := []) (ret := r_49) (wc := (zTr cI (h_O) (q_O) (O))) (wn := fun u_51 => (zWk cI h_K q_K K) ++ (zTr cI h_O q_O O)) (wr := ([0, 1, 2].filterMap (fun i => ((zWk cI h_K q_K K) ++ (zTr cI h_O q_O O))[i]?))) (va_runV (As := [vI r_15]) (rest := []) hF.1 (c_Tr_sizeOf l D cI cZ cT h_O q_O O r_15 H.size (r_49) e_50) (cwV 1 hts (zgV wm291 wm292 wm293 wm84 wm294) rfl rfl rfl (by decide +kernel) ⟨Nat.le_of_ble_eq_true rfl, Nat.le_of_ble_eq_true rfl⟩) ⟨zP.blind, va_recv hK (z_subP (ws' := (zTr cI (h_O) (q_O) (O))) hP [3, 4, 5, 6, 7, 8] rfl) (ci := 4) (q0 := 0) rfl rfl, zP.enter (z_subP (ws' := (zTr cI (h_O) (q_O) (O))) hP [3, 4, 5, 6, 7, 8] rfl) hK (hD.sub [3, 4, 5, 6, 7, 8] (by decide) rfl) hN⟩ rfl rfl hl.1 rfl (lv_room (Nat.le_of_ble_eq_true rfl)) dX5_gather_96 ⟨(show (2 * ((kLen K) - R0_K)) + 0 ≤ (2 * ((kLen (res)) - R0_K)) from by omega), (show (4 * ((kLen K) - R0_K)) + 0 ≤ (4 * ((kLen (res)) - R0_K)) from by omega)⟩) hP hD hS hA [3, 4, 5, 6, 7, 8] [0, 1, 2] [0, 1, 2, 3, 4, 5, 6, 7, 8] rfl rfl (by decide) (fun _ => rfl) (fun u_51 H locs hP hD hS hz => ?_)
            refine lv_iconst (v := Int32.ofInt 1) hx hb dX5_gather_99 rfl ?_
            refine z_isub hx hb dX5_gather_100 ?_
            refine lv_istore (lv' := [(7, vI (r_49 - 1)), (6, vI r_15), (4, vI (x4 + (-1))), (0, .ref h_K), (1, .ref h_O), (3, vI x3), (5, vI x5)]) hx hb dX5_gather_101 hl (by decide) rfl (fun ls hl => ?_)
            refine w_Wk_gather_L103 D cI cZ cT (h_K) (q_K) (h_O) (q_O) (O) (x3) (x5) (r_15) (R0_K) _ _ hF (fun x4_52 x7_53 K_54 h => by
                have mo9 : (kLen K_54) ≤ (kLen (res)) := ihm (x4_52) ((x5 + 1)) (K_54) h
                exact (show (kLen K_54) ≤ (kLen (res)) from by omega)) (fun x4_52 x7_53 K_54  H locs ls h hmz_55 hP hD hS hl => ?_) _ ((x4 + (-1))) ((r_49 - 1)) (K)  _ _ _ h (show R0_K ≤ (kLen K) from by omega) hP hD hS (lv_sub hl [3, 4, 5, 2, 6, 1, 0] rfl)
            have hm : (kLen K_54) ≤ (kLen (res)) := by
              have mo9 : (kLen K_54) ≤ (kLen (res)) := ihm (x4_52) ((x5 + 1)) (K_54) h
              exact (show (kLen K_54) ≤ (kLen (res)) from by omega)
            refine lv_iinc (v := Int32.ofInt (x5 + 1)) (lv' := [(5, vI (x5 + 1)), (0, .ref h_K), (1, .ref h_O), (3, vI x3), (4, vI x4_52)]) hx hb dX5_gather_134 hl (k := 4) rfl (z_inc _ _) (by decide) rfl (fun ls hl => ?_)
            refine lv_goto (tgt := 28) hx hb dX5_gather_137 (by decide) ?_
            exact ih (x4_52) ((x5 + 1)) (K_54)  H locs ls h (show R0_K ≤ (kLen K_54) from by omega) hP hD hS (lv_sub hl [1, 2, 3, 4, 0] rfl)
          · have h := it_p b_48 h
            refine lv_aload_n hx hb dX5_gather_70 rfl (lv_at hl 2 rfl) ?_
            refine va_get (D := D) (ci := 5) (v := .ref (q_K 0)) (C := RX5) (T := TX5) (N := 3) hx hb hts zin5 hown hK hP 0 rfl rfl 0 (by decide) (hts _ wm170) (fun _ h9 => h9) rfl dX5_gather_71 ?_
            refine lv_aload_n hx hb dX5_gather_74 rfl (lv_at hl 2 rfl) ?_
            refine va_get (D := D) (ci := 5) (v := vI (kCnt K)) (C := RX5) (T := TX5) (N := 3) hx hb hts zin5 hown hK hP 0 rfl rfl 1 (by decide) (hts _ wm173) (fun _ h9 => h9) rfl dX5_gather_75 ?_
            refine lv_iload hx hb dX5_gather_78 (lv_at hl 0 rfl) ?_
            obtain ⟨K_56, e_57, h⟩ := bd1_e h
            refine z_gov (wc := (zAr cI ((q_K 0)) ((kLen K)) ((kItm K)))) (wn := fun u_58 => (zWk cI h_K q_K (skItm K K_56)) ++ (zTr cI h_O q_O O)) (wr := ([0, 2, 3, 4, 5, 6, 7, 8].filterMap (fun i => ((zWk cI h_K q_K K) ++ (zTr cI h_O q_O O))[i]?))) (va_runSN (As := [.ref (q_K 0), vI (kCnt K), vI r_15]) (rest := []) hF.1 (c_Rt_put l D cI cZ cT (q_K 0) (kLen K) (kItm K) (kCnt K) r_15 H.size (K_56) e_57) ⟨va_cnB 3 hts (zW_good wm113) rfl rfl rfl (hN.at 4 rfl) (hts _ wm83) (by decide +kernel) ⟨Nat.le_of_ble_eq_true rfl, Nat.le_of_ble_eq_true rfl⟩, hts _ wm112, trivial⟩ ⟨zP.blind, zP.enter (z_subP (ws' := (zAr cI ((q_K 0)) ((kLen K)) ((kItm K)))) hP [1] rfl) hK (hD.sub [1] (by decide) rfl) hN⟩ rfl rfl hl.1 rfl (lv_room (Nat.le_of_ble_eq_true rfl)) dX5_gather_80 ⟨(show (2 * ((kLen K) - R0_K)) + 0 ≤ (2 * ((kLen (res)) - R0_K)) from by omega), (show (4 * ((kLen K) - R0_K)) + 0 ≤ (4 * ((kLen (res)) - R0_K)) from by omega)⟩) hP hD hS hA [1] [0, 2, 3, 4, 5, 6, 7, 8] [0, 8, 1, 2, 3, 4, 5, 6, 7] rfl rfl (by decide) (fun _ => rfl) (fun u_58 H locs hP hD hS hz => ?_)
            refine lv_aload_n hx hb dX5_gather_83 rfl (lv_at hl 2 rfl) ?_
            refine lv_dup hx hb dX5_gather_84 rfl ?_
            refine va_get (D := D) (ci := 5) (v := vI (kCnt K)) (C := RX5) (T := TX5) (N := 3) hx hb hts zin5 hown hK hP 0 rfl rfl 1 (by decide) (hts _ wm173) (fun _ h9 => h9) rfl dX5_gather_85 ?_
            refine lv_iconst (v := Int32.ofInt 1) hx hb dX5_gather_88 rfl ?_
            refine z_iadd hx hb dX5_gather_89 ?_
            refine va_put (D := D) (ci := 5) (v := vI ((kCnt K) + 1)) (ty := .int) (C := RX5) (T := TX5) (N := 3) hx hb hts zin5 tyX5 tyX5_ok nmX5 hown hK hP hD hS 0 rfl rfl 1 (by decide) (hts _ wm173) (fun _ h9 => h9) rfl (by decide +kernel) rfl rfl (Nat.le_of_ble_eq_true rfl) dX5_gather_90 (fun H locs hP hD hS => ?_)
            replace hP : va_P D vwCl ((zWk cI h_K q_K (skCnt (skItm K K_56) ((kCnt K) + 1))) ++ (zTr cI h_O q_O O)) H := hP
            replace hD : va_D A ((zWk cI h_K q_K (skCnt (skItm K K_56) ((kCnt K) + 1))) ++ (zTr cI h_O q_O O)) := hD
            refine lv_aload_n hx hb dX5_gather_93 rfl (lv_at hl 3 rfl) ?_
            refine lv_iload hx hb dX5_gather_94 (lv_at hl 0 rfl) ?_
            obtain ⟨r_59, e_60, h⟩ := bd1_e h
            refine z_goi (ws' := []) (ret := r_59) (wc := (zTr cI (h_O) (q_O) (O))) (wn := fun u_61 => (zWk cI h_K q_K (skCnt (skItm K K_56) ((kCnt K) + 1))) ++ (zTr cI h_O q_O O)) (wr := ([0, 1, 2].filterMap (fun i => ((zWk cI h_K q_K (skCnt (skItm K K_56) ((kCnt K) + 1))) ++ (zTr cI h_O q_O O))[i]?))) (va_runV (As := [vI r_15]) (rest := []) hF.1 (c_Tr_sizeOf l D cI cZ cT h_O q_O O r_15 H.size (r_59) e_60) (cwV 1 hts (zgV wm291 wm292 wm293 wm84 wm294) rfl rfl rfl (by decide +kernel) ⟨Nat.le_of_ble_eq_true rfl, Nat.le_of_ble_eq_true rfl⟩) ⟨zP.blind, va_recv hK (z_subP (ws' := (zTr cI (h_O) (q_O) (O))) hP [3, 4, 5, 6, 7, 8] rfl) (ci := 4) (q0 := 0) rfl rfl, zP.enter (z_subP (ws' := (zTr cI (h_O) (q_O) (O))) hP [3, 4, 5, 6, 7, 8] rfl) hK (hD.sub [3, 4, 5, 6, 7, 8] (by decide) rfl) hN⟩ rfl rfl hl.1 rfl (lv_room (Nat.le_of_ble_eq_true rfl)) dX5_gather_96 ⟨(show (2 * ((kLen K) - R0_K)) + 0 ≤ (2 * ((kLen (res)) - R0_K)) from by omega), (show (4 * ((kLen K) - R0_K)) + 0 ≤ (4 * ((kLen (res)) - R0_K)) from by omega)⟩) hP hD hS hA [3, 4, 5, 6, 7, 8] [0, 1, 2] [0, 1, 2, 3, 4, 5, 6, 7, 8] rfl rfl (by decide) (fun _ => rfl) (fun u_61 H locs hP hD hS hz => ?_)
            refine lv_iconst (v := Int32.ofInt 1) hx hb dX5_gather_99 rfl ?_
            refine z_isub hx hb dX5_gather_100 ?_
            refine lv_istore (lv' := [(7, vI (r_59 - 1)), (6, vI r_15), (4, vI (x4 + (-1))), (0, .ref h_K), (1, .ref h_O), (3, vI x3), (5, vI x5)]) hx hb dX5_gather_101 hl (by decide) rfl (fun ls hl => ?_)
            refine w_Wk_gather_L103 D cI cZ cT (h_K) (q_K) (h_O) (q_O) (O) (x3) (x5) (r_15) (R0_K) _ _ hF (fun x4_62 x7_63 K_64 h => by
                have mo9 : (kLen K_64) ≤ (kLen (res)) := ihm (x4_62) ((x5 + 1)) (K_64) h
                exact (show (kLen K_64) ≤ (kLen (res)) from by omega)) (fun x4_62 x7_63 K_64  H locs ls h hmz_65 hP hD hS hl => ?_) _ ((x4 + (-1))) ((r_59 - 1)) ((skCnt (skItm K K_56) ((kCnt K) + 1)))  _ _ _ h (show R0_K ≤ (kLen K) from by omega) hP hD hS (lv_sub hl [3, 4, 5, 2, 6, 1, 0] rfl)
            have hm : (kLen K_64) ≤ (kLen (res)) := by
              have mo9 : (kLen K_64) ≤ (kLen (res)) := ihm (x4_62) ((x5 + 1)) (K_64) h
              exact (show (kLen K_64) ≤ (kLen (res)) from by omega)
            refine lv_iinc (v := Int32.ofInt (x5 + 1)) (lv' := [(5, vI (x5 + 1)), (0, .ref h_K), (1, .ref h_O), (3, vI x3), (4, vI x4_62)]) hx hb dX5_gather_134 hl (k := 4) rfl (z_inc _ _) (by decide) rfl (fun ls hl => ?_)
            refine lv_goto (tgt := 28) hx hb dX5_gather_137 (by decide) ?_
            exact ih (x4_62) ((x5 + 1)) (K_64)  H locs ls h (show R0_K ≤ (kLen K_64) from by omega) hP hD hS (lv_sub hl [1, 2, 3, 4, 0] rfl)
set_option maxHeartbeats 4000000 in
set_option maxRecDepth 100000 in
theorem c_Wk_gather (l : Launch) (D : va_G) (cI cZ cT : ClassId) (h_K : Nat) (q_K : Nat → Nat) (h_O : Nat) (q_O : Nat → Nat) (K : KV) (O : TV) (x2 : Int) (x3 : Int) (sz : Nat) (res : KV) (h : f_Wk_gather K O x2 x3 = some res) : zMv l yX5_gather cX5_gather 8 (rm_Wk_gather (2 * ((kLen (res)) - (kLen K))) (4 * ((kLen (res)) - (kLen K)))) D (zt cI cZ cT) [.ref h_K, .ref h_O, vI x2, vI x3] ((zWk cI h_K q_K K) ++ (zTr cI h_O q_O O)) sz (fun u => (zWk cI h_K (u 0) (res)) ++ (zTr cI h_O q_O O)) (2 * ((kLen (res)) - (kLen K))) (4 * ((kLen (res)) - (kLen K))) := by
  refine z_enth (Qc := zQv D (fun u => (zWk cI h_K (u 0) (res)) ++ (zTr cI h_O q_O O))) (by decide) (Nat.le_of_ble_eq_true rfl) (fun p e s m args below meth c A ls H locs hF hP hD hS hl => ?_)
  have hx := hF.1.1
  have hb := hF.1.2.1
  have hml := hF.1.2.2.1
  have hown : s.vm.findClass "RectangleTree$Walk" = some m.cls := hF.1.2.2.2.1
  have hts := hF.1.2.2.2.2
  have hr := hF.2.1
  have hlk := hF.2.2.1
  have hK := hF.2.2.2.2.1
  have hN := hF.2.2.2.2.2.1
  have hA := hF.2.2.2.2.2.2
  have hm : (kLen K) ≤ (kLen (res)) := mo_Wk_gather K O x2 x3 res h
  refine W.widen (k := (2 * ((kLen K) - (kLen K)))) (n := (4 * ((kLen K) - (kLen K)))) (Nat.zero_le _) (Nat.zero_le _) ?_
  unfold f_Wk_gather at h
  refine lv_aload_n hx hb dX5_gather_0 rfl (lv_at hl 0 rfl) ?_
  refine lv_aload_n hx hb dX5_gather_1 rfl (lv_at hl 1 rfl) ?_
  obtain ⟨r_1, e_2, h⟩ := bd1_e h
  refine z_goi (ws' := []) (ret := r_1) (wc := (zTr cI (h_O) (q_O) (O))) (wn := fun u_3 => (zWk cI h_K q_K K) ++ (zTr cI h_O q_O O)) (wr := ([0, 1, 2].filterMap (fun i => ((zWk cI h_K q_K K) ++ (zTr cI h_O q_O O))[i]?))) (va_runV (As := []) (rest := [.ref h_K]) hF.1 (c_Tr_room l D cI cZ cT h_O q_O O H.size (r_1) e_2) (cwV 0 hts (zgV wm278 wm279 wm280 wm84 wm281) rfl rfl rfl (by decide +kernel) ⟨Nat.le_of_ble_eq_true rfl, Nat.le_of_ble_eq_true rfl⟩) ⟨zP.blind, va_recv hK (z_subP (ws' := (zTr cI (h_O) (q_O) (O))) hP [3, 4, 5, 6, 7, 8] rfl) (ci := 4) (q0 := 0) rfl rfl, zP.enter (z_subP (ws' := (zTr cI (h_O) (q_O) (O))) hP [3, 4, 5, 6, 7, 8] rfl) hK (hD.sub [3, 4, 5, 6, 7, 8] (by decide) rfl) hN⟩ rfl rfl hl.1 rfl (lv_room (Nat.le_of_ble_eq_true rfl)) dX5_gather_2 ⟨(show (2 * ((kLen K) - (kLen K))) + 0 ≤ (2 * ((kLen (res)) - (kLen K))) from by omega), (show (4 * ((kLen K) - (kLen K))) + 0 ≤ (4 * ((kLen (res)) - (kLen K))) from by omega)⟩) hP hD hS hA [3, 4, 5, 6, 7, 8] [0, 1, 2] [0, 1, 2, 3, 4, 5, 6, 7, 8] rfl rfl (by decide) (fun _ => rfl) (fun u_3 H locs hP hD hS hz => ?_)
  obtain ⟨K_4, e_5, h⟩ := bd1_e h
  have mo_7 : (kLen K) ≤ (kLen K_4) := mo_Wk_makeRoom K r_1 (K_4) e_5
  have hm : (kLen K_4) ≤ (kLen (res)) := by
    obtain ⟨K_8, e_9, h⟩ := bd1_e h
    have mo9 : (kLen K_4) ≤ (kLen (res)) := mo_Wk_gather_L28 (O) (x3) _ _ (fun x4_66 x5_67 K_68 h => by
        obtain rfl := Option.some.inj h
        exact (show (kLen K_68) ≤ (kLen K_68) from by omega)) _ (1) (0) ((skCnt (skPen K_4 K_8) 0)) h
    exact (show (kLen K_4) ≤ (kLen (res)) from by omega)
  refine z_gov (wc := (zWk cI (h_K) (q_K) (K))) (wn := fun u_6 => (zWk cI h_K (u_6 0) K_4) ++ (zTr cI h_O q_O O)) (wr := ([3, 4, 5, 6, 7, 8].filterMap (fun i => ((zWk cI h_K q_K K) ++ (zTr cI h_O q_O O))[i]?))) (va_runV (As := [vI r_1]) (rest := []) hF.1 (c_Wk_makeRoom l D cI cZ cT h_K q_K K r_1 H.size (K_4) e_5) (cwV 1 hts (zgV wm282 wm284 wm1 wm87 wm285) rfl rfl rfl (by decide +kernel) ⟨Nat.le_of_ble_eq_true rfl, Nat.le_of_ble_eq_true rfl⟩) ⟨zP.blind, va_recv hK (z_subP (ws' := (zWk cI (h_K) (q_K) (K))) hP [0, 1, 2] rfl) (ci := 5) (q0 := 0) rfl rfl, zP.enter (z_subP (ws' := (zWk cI (h_K) (q_K) (K))) hP [0, 1, 2] rfl) hK (hD.sub [0, 1, 2] (by decide) rfl) hN⟩ rfl rfl hl.1 rfl (lv_room (Nat.le_of_ble_eq_true rfl)) dX5_gather_5 ⟨(show (2 * ((kLen K) - (kLen K))) + (2 * ((kLen K_4) - (kLen K))) ≤ (2 * ((kLen (res)) - (kLen K))) from by omega), (show (4 * ((kLen K) - (kLen K))) + (4 * ((kLen K_4) - (kLen K))) ≤ (4 * ((kLen (res)) - (kLen K))) from by omega)⟩) hP hD hS hA [0, 1, 2] [3, 4, 5, 6, 7, 8] [6, 7, 8, 0, 1, 2, 3, 4, 5] rfl rfl (by decide) (fun _ => rfl) (fun u_6 H locs hP hD hS hz => ?_)
  refine W.widen (k := (2 * ((kLen K_4) - (kLen K)))) (n := (4 * ((kLen K_4) - (kLen K)))) (show (2 * ((kLen K) - (kLen K))) + (2 * ((kLen K_4) - (kLen K))) ≤ (2 * ((kLen K_4) - (kLen K))) from by omega) (show (4 * ((kLen K) - (kLen K))) + (4 * ((kLen K_4) - (kLen K))) ≤ (4 * ((kLen K_4) - (kLen K))) from by omega) ?_
  refine lv_aload_n hx hb dX5_gather_8 rfl (lv_at hl 0 rfl) ?_
  refine lv_iconst (v := Int32.ofInt 0) hx hb dX5_gather_9 rfl ?_
  refine va_put (D := D) (ci := 5) (v := vI 0) (ty := .int) (C := RX5) (T := TX5) (N := 3) hx hb hts zin5 tyX5 tyX5_ok nmX5 hown hK hP hD hS 0 rfl rfl 1 (by decide) (hts _ wm173) (fun _ h9 => h9) rfl (by decide +kernel) rfl rfl (Nat.le_of_ble_eq_true rfl) dX5_gather_10 (fun H locs hP hD hS => ?_)
  replace hP : va_P D vwCl ((zWk cI h_K (u_6 0) (skCnt K_4 0)) ++ (zTr cI h_O q_O O)) H := hP
  replace hD : va_D A ((zWk cI h_K (u_6 0) (skCnt K_4 0)) ++ (zTr cI h_O q_O O)) := hD
  refine lv_aload_n hx hb dX5_gather_13 rfl (lv_at hl 0 rfl) ?_
  refine va_get (D := D) (ci := 5) (v := .ref ((u_6 0) 1)) (C := RX5) (T := TX5) (N := 3) hx hb hts zin5 hown hK hP 0 rfl rfl 2 (by decide) (hts _ wm176) (fun _ h9 => h9) rfl dX5_gather_14 ?_
  refine lv_iconst (v := Int32.ofInt 0) hx hb dX5_gather_17 rfl ?_
  refine lv_iload_n hx hb dX5_gather_18 rfl (lv_at hl 2 rfl) ?_
  obtain ⟨K_8, e_9, h⟩ := bd1_e h
  refine z_gov (wc := (zAr cI (((u_6 0) 1)) ((kLen K_4)) ((kPen K_4)))) (wn := fun u_10 => (zWk cI h_K (u_6 0) (skCnt (skPen K_4 K_8) 0)) ++ (zTr cI h_O q_O O)) (wr := ([0, 1, 3, 4, 5, 6, 7, 8].filterMap (fun i => ((zWk cI h_K (u_6 0) (skCnt K_4 0)) ++ (zTr cI h_O q_O O))[i]?))) (va_runSN (As := [.ref ((u_6 0) 1), vI 0, vI x2]) (rest := []) hF.1 (c_Rt_put l D cI cZ cT ((u_6 0) 1) (kLen K_4) (kPen K_4) 0 x2 H.size (K_8) e_9) ⟨va_cnB 3 hts (zW_good wm113) rfl rfl rfl (hN.at 4 rfl) (hts _ wm83) (by decide +kernel) ⟨Nat.le_of_ble_eq_true rfl, Nat.le_of_ble_eq_true rfl⟩, hts _ wm112, trivial⟩ ⟨zP.blind, zP.enter (z_subP (ws' := (zAr cI (((u_6 0) 1)) ((kLen K_4)) ((kPen K_4)))) hP [2] rfl) hK (hD.sub [2] (by decide) rfl) hN⟩ rfl rfl hl.1 rfl (lv_room (Nat.le_of_ble_eq_true rfl)) dX5_gather_19 ⟨(show (2 * ((kLen K_4) - (kLen K))) + 0 ≤ (2 * ((kLen (res)) - (kLen K))) from by omega), (show (4 * ((kLen K_4) - (kLen K))) + 0 ≤ (4 * ((kLen (res)) - (kLen K))) from by omega)⟩) hP hD hS hA [2] [0, 1, 3, 4, 5, 6, 7, 8] [0, 1, 8, 2, 3, 4, 5, 6, 7] rfl rfl (by decide) (fun _ => rfl) (fun u_10 H locs hP hD hS hz => ?_)
  refine lv_iconst (v := Int32.ofInt 1) hx hb dX5_gather_22 rfl ?_
  refine lv_istore (lv' := [(4, vI 1), (0, .ref h_K), (1, .ref h_O), (2, vI x2), (3, vI x3)]) hx hb dX5_gather_23 hl (by decide) rfl (fun ls hl => ?_)
  refine lv_iconst (v := Int32.ofInt 0) hx hb dX5_gather_25 rfl ?_
  refine lv_istore (lv' := [(5, vI 0), (4, vI 1), (0, .ref h_K), (1, .ref h_O), (2, vI x2), (3, vI x3)]) hx hb dX5_gather_26 hl (by decide) rfl (fun ls hl => ?_)
  refine w_Wk_gather_L28 D cI cZ cT (h_K) ((u_6 0)) (h_O) (q_O) (O) (x3) ((kLen K)) _ _ hF (fun x4_66 x5_67 K_68 h => by
      obtain rfl := Option.some.inj h
      exact (show (kLen K_68) ≤ (kLen K_68) from by omega)) (fun x4_66 x5_67 K_68  H locs ls h hmz_69 hP hD hS hl => ?_) _ (1) (0) ((skCnt (skPen K_4 K_8) 0))  _ _ _ h (show (kLen K) ≤ (kLen K_4) from by omega) hP hD hS (lv_sub hl [2, 3, 5, 1, 0] rfl)
  have hm : (kLen K_68) ≤ (kLen (res)) := by
    obtain rfl := Option.some.inj h
    exact (show (kLen K_68) ≤ (kLen K_68) from by omega)
  obtain rfl := Option.some.inj h
  exact z_vret hx hb hr hlk (fun _ => (u_6 0)) hP hD hS dX5_gather_140
