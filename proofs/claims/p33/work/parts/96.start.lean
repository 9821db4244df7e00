/-! the law's start: the world, its boxes -/
set_option maxHeartbeats 4000000 in
set_option maxRecDepth 100000 in
theorem box_fill {p : Program} {l : Launch} {e : Env} {s : State} {m : MethodId} {below : List Frame} {meth : Method} {c : Code} {b h_R h_B : Nat} {Q : State → Prop} (hx : p.tables.exec = Jvm.exec) (hb : c.code = code) (D : va_G) (cI cZ cT : ClassId) (hK : va_K D vwCl (zt cI cZ cT) s) (wr : va_W)
    (kk : ∀ (f : Nat → Int) (H : Heap) (locs : List Loc) (ls : Array Slot), (∀ k : Nat, k < 24 → f k = -1) → va_P D vwCl (zAr cI h_B 24 f ++ wr) H → va_D (fun q : Nat => s.heap.size ≤ q) (zAr cI h_B 24 f ++ wr) → va_S (fun q : Nat => s.heap.size ≤ q) s.heap H locs → lv_has ls 7 [(0, .ref b), (1, .ref h_R), (2, .ref h_B), (3, vI ((24 : Nat) : Int))] → W p l e room_1 s m #[Value.ref b] below meth c H locs 57 13526 Q (F0 m 31 ls [])) : ∀ (n i : Nat) (f : Nat → Int) (H : Heap) (locs : List Loc) (ls : Array Slot), i + n = 24 → (∀ k : Nat, k < i → f k = -1) → va_P D vwCl (zAr cI h_B 24 f ++ wr) H → va_D (fun q : Nat => s.heap.size ≤ q) (zAr cI h_B 24 f ++ wr) → va_S (fun q : Nat => s.heap.size ≤ q) s.heap H locs → lv_has ls 7 [(0, .ref b), (1, .ref h_R), (2, .ref h_B), (3, vI (i : Int))] → W p l e room_1 s m #[Value.ref b] below meth c H locs 57 13526 Q (F0 m 15 ls []) := by
  intro n
  induction n with
  | zero =>
    intro i f H locs ls h1 hf hP hD hS hl
    have hi : i = 24 := by omega
    subst hi
    refine lv_iload_n hx hb dL_law_15 rfl (lv_at hl 3 rfl) ?_
    refine lv_bipush (v := Int32.ofInt 24) hx hb dL_law_16 (by decide +kernel) ?_
    refine z_icmp_ge (tgt := 31) hx hb ⟨by omega, by omega⟩ ⟨by omega, by omega⟩ dL_law_18 (by decide) (fun _ => ?_) (fun q => absurd q (by omega))
    exact kk f H locs ls hf hP hD hS hl
  | succ n ih =>
    intro i f H locs ls h1 hf hP hD hS hl
    refine lv_iload_n hx hb dL_law_15 rfl (lv_at hl 3 rfl) ?_
    refine lv_bipush (v := Int32.ofInt 24) hx hb dL_law_16 (by decide +kernel) ?_
    refine z_icmp_ge (tgt := 31) hx hb ⟨by omega, by omega⟩ ⟨by omega, by omega⟩ dL_law_18 (by decide) (fun q => absurd q (by omega)) (fun _ => ?_)
    refine lv_aload_n hx hb dL_law_21 rfl (lv_at hl 2 rfl) ?_
    refine lv_iload_n hx hb dL_law_22 rfl (lv_at hl 3 rfl) ?_
    refine lv_iconst (v := Int32.ofInt (-1)) hx hb dL_law_23 rfl ?_
    refine z_iast (n := 24) (f := f) (i := (i : Int)) (x := -1) (ws' := zAr cI h_B 24 (up f ((i : Int)).toNat (-1)) ++ wr) hx hb hK hP hD hS 0 rfl rfl ⟨by omega, by omega⟩ (by omega) dL_law_24 rfl (fun H locs hP hD hS => ?_)
    refine lv_iinc (v := Int32.ofInt ((i + 1 : Nat) : Int)) (lv' := [(3, vI ((i + 1 : Nat) : Int)), (0, .ref b), (1, .ref h_R), (2, .ref h_B)]) hx hb dL_law_25 hl (k := 3) rfl ((z_inc _ _).trans rfl) (by decide) rfl (fun ls hl => ?_)
    refine lv_goto (tgt := 15) hx hb dL_law_28 (by decide) ?_
    refine ih (i + 1) (up f ((i : Int)).toNat (-1)) H locs ls (by omega) (fun k hk => ?_) hP hD hS (lv_sub hl [1, 2, 3, 0] rfl)
    by_cases hki : k = i
    · rw [hki, show ((i : Int)).toNat = i by omega, up_s]
    · rw [show ((i : Int)).toNat = i by omega, up_o hki]
      exact hf k (by omega)
set_option maxHeartbeats 20000000 in
set_option maxRecDepth 100000 in
theorem whole_start {p : Program} {e : Env} {s : State} {m : MethodId} {below : List Frame} {meth : Method} {c : Code} (l : Launch) (hflags : l.flags = flags0) {b L : Nat} {xs : Nat → Int32} (hL : L ≤ 260) (C0 : lw_At p s m meth c b L xs) : W p l e room_1 s m #[Value.ref b] below meth c s.heap [] 0 0 (lw_Z below #[Value.ref b] s) (entryFrame m ([Value.ref b] : List Value).toArray 7) := by
  obtain ⟨hx, hb, hr, hml, hown, hts0, hX, hbl, hlocks, hgv⟩ := id C0
  have hts : ∀ w ∈ zAll, w.before #[Value.ref b] s = true := fun w h => hts0 w (zAll_tbl w h)
  have hF : CallFix p m c code 7 s #[Value.ref b] zAll "RectangleTreeLaw" ∧ True := ⟨⟨hx, hb, hml, hown, hts⟩, trivial⟩
  have hA : ∀ q : Nat, s.heap.size ≤ q → (fun q : Nat => s.heap.size ≤ q) q := fun _ h => h
  obtain ⟨c0, i0, hKn0⟩ := u_known (C := RX0) (T := TX0) (N := 8) (n := 8) hts zin0 (hts _ wm107)
  obtain ⟨c1, i1, hKn1⟩ := u_known (C := RX1) (T := TX1) (N := 2) (n := 2) hts zin1 (hts _ wm202)
  obtain ⟨c2, i2, hKn2⟩ := u_known (C := RX2) (T := TX2) (N := 2) (n := 2) hts zin2 (hts _ wm158)
  obtain ⟨c3, i3, hKn3⟩ := u_known (C := RX3) (T := TX3) (N := 7) (n := 7) hts zin3 (hts _ wm173)
  obtain ⟨c4, i4, hKn4⟩ := u_known (C := RX4) (T := TX4) (N := 10) (n := 10) hts zin4 (hts _ wm51)
  obtain ⟨c5, i5, hKn5⟩ := u_known (C := RX5) (T := TX5) (N := 3) (n := 3) hts zin5 (hts _ wm113)
  obtain ⟨c6, i6, hKn6⟩ := u_known (C := RX6) (T := TX6) (N := 8) (n := 8) hts zin6 (hts _ wm43)
  obtain ⟨cI, kI, pI, fI1, fI2, fI3⟩ := Cond.arrayClass_spec (hts _ wm105)
  obtain ⟨cZ, kZ, pZ, fZ1, fZ2, fZ3⟩ := Cond.arrayClass_spec (hts _ wm105)
  have hO : va_AO "RectangleTree$Tree" s := va_AO.of (hts0 _ (List.mem_of_getElem? (i := 208) (by decide +kernel)))
  obtain ⟨pT, cT, kT, fT1, fT2, fT3, fT4, fT5⟩ := Cond.arrayOver_spec (va_AO.use (A := #[]) hO)
  have hN : zNW s := fun q hq => by
    have h1 : ∀ q ∈ zNq, Cond.methodLinkNest q.1 q.2.1 q.2.2.1 q.2.2.2 ∈ lw_tbl := nq_tbl
    exact va_Nw.of rfl (hts0 _ (h1 q hq))
  obtain ⟨D, hKc⟩ : ∃ D : va_G, ∀ (k : Nat) (q : vw_C), vwCl[k]? = some q → u_Kn s q.1 q.2.1 q.2.2 (D.1 k) (D.2 k) := by
    refine ⟨(fun k => if k = 0 then c0 else if k = 1 then c1 else if k = 2 then c2 else if k = 3 then c3 else if k = 4 then c4 else if k = 5 then c5 else c6, fun k => if k = 0 then i0 else if k = 1 then i1 else if k = 2 then i2 else if k = 3 then i3 else if k = 4 then i4 else if k = 5 then i5 else i6), ?_⟩
    intro k q hq
    match k, hq with
    | 0, hq => cases hq; exact hKn0
    | 1, hq => cases hq; exact hKn1
    | 2, hq => cases hq; exact hKn2
    | 3, hq => cases hq; exact hKn3
    | 4, hq => cases hq; exact hKn4
    | 5, hq => cases hq; exact hKn5
    | 6, hq => cases hq; exact hKn6
    | k + 7, hq => simp [vwCl] at hq
  have hK : va_K D vwCl (zt cI cZ cT) s := by
    refine ⟨hKc, fun k q hq => ?_⟩
    match k, hq with
    | 0, hq => cases hq; exact ⟨fun n z => ⟨fun k => (show (VmData.none : VmData) ≠ VmData.statics k from fun h => by cases h), kI, fI2, pI, fI3⟩, fI1⟩
    | 1, hq => cases hq; exact ⟨fun n z => ⟨fun k => (show (VmData.none : VmData) ≠ VmData.statics k from fun h => by cases h), kZ, fZ2, pZ, fZ3⟩, fZ1⟩
    | 2, hq => cases hq; exact ⟨fun n z => ⟨fun k => (show (VmData.none : VmData) ≠ VmData.statics k from fun h => by cases h), kT, fT3, pT, fT4⟩, ⟨kT, pT, fT3, fT4, fT1, fT5⟩⟩
    | k + 3, hq => simp [zt] at hq
  have hS : va_S (fun q : Nat => s.heap.size ≤ q) s.heap s.heap [] := va_S.rf
  have hP : va_P D vwCl ([] : va_W) s.heap := fun k q h => by simp at h
  have hD : va_D (fun q : Nat => s.heap.size ≤ q) ([] : va_W) := ⟨fun i j p q h => by simp at h, fun k q h => by simp at h⟩
  have hl := lv_entry ([.ref b]) (n := 7) (Nat.le_of_ble_eq_true rfl)
  rw [lg_entry_eq]
  generalize (lg_sl ([.ref b]) ++ List.replicate (7 - (lg_sl ([.ref b])).length) Slot.unset).toArray = ls at hl ⊢
  have hl : lv_has ls 7 [(0, .ref b)] := hl
  generalize hH : s.heap = H at hP ⊢
  have hS : va_S (fun q : Nat => s.heap.size ≤ q) s.heap H [] := by rw [← hH]; exact hS
  obtain ⟨lv1, lv2, ho1, K1, h1, h2, h3, h4, h5, hLC, hCw⟩ := ini_ok
  refine va_new (ci := 6) (fs := [.null, .null, .null, .null, .null, .null, .null, .int 0]) (C := RX6) (T := TX6) (N := 8) hx hb hts zin6 tyX6 tyX6_ok hown (hts _ wm42) (hts _ wm43) (hts _ wm32) hK hP hD hS hA rfl (fun j hj => by rcases (show j = 0 ∨ j = 1 ∨ j = 2 ∨ j = 3 ∨ j = 4 ∨ j = 5 ∨ j = 6 ∨ j = 7 by omega) with rfl | rfl | rfl | rfl | rfl | rfl | rfl | rfl <;> rfl) (show 0 + 1 ≤ 600000 from Nat.le_of_ble_eq_true rfl) (show 0 + 8 ≤ 7302250 from Nat.le_of_ble_eq_true rfl) dL_law_0 (fun n_1 H hP hD hS => ?_)
  replace hP : va_P D vwCl ([(n_1, .inr (6, [.null, .null, .null, .null, .null, .null, .null, .int 0]))]) H := hP
  replace hD : va_D (fun q : Nat => s.heap.size ≤ q) ([(n_1, .inr (6, [.null, .null, .null, .null, .null, .null, .null, .int 0]))]) := hD
  refine W.widen (k := 1) (n := 8) (Nat.le_of_ble_eq_true rfl) (Nat.le_of_ble_eq_true rfl) ?_
  refine lv_dup hx hb dL_law_3 rfl ?_
  refine z_gov0 (wc := [(n_1, .inr (6, [.null, .null, .null, .null, .null, .null, .null, .int 0]))]) (va_runI (As := []) (rest := [.ref n_1]) hF.1 (c_Rt_init l D cI cZ cT n_1 lv1 lv2 ho1 K1 H.size h1 h2 h3 h4 h5) (cwI 0 hts (zW_good wm46) rfl rfl rfl (hts _ wm32) (hts _ wm44) (hts _ wm45) rfl (by decide +kernel) ⟨Nat.le_of_ble_eq_true rfl, Nat.le_of_ble_eq_true rfl⟩) ⟨zPO.blind, zPO.enter hP hK hD hN hO⟩ rfl rfl hl.1 rfl (lv_room (Nat.le_of_ble_eq_true rfl)) dL_law_4 ⟨(show 1 + 55 ≤ 600000 from Nat.le_of_ble_eq_true rfl), (show 8 + 13494 ≤ 7302250 from Nat.le_of_ble_eq_true rfl)⟩) hP hD hS hA (fun u_2 H locs hP hD hS hz => ?_)
  replace hP : va_P D vwCl ((zRt n_1 (u_2 1 9) (u_2 2 9) (u_2 5 9) (u_2 6 9) (u_2 7 9) (u_2 8 9) (u_2 13 9) 0) ++ ((zTr cI (u_2 1 9) (u_2 1) (lv2, ho1, (fun _ => 0), (fun _ => 0), (fun _ => 0), 157, 24, 4, 1, 0, 0)) ++ ((zCh cI (u_2 2 9) (u_2 2) (u_2 1 9) (u_2 3 9) (u_2 4 9) (fun _ => 0) 0 (fun _ => 0) 0 0) ++ ((zWk cI (u_2 3 9) (u_2 3) ((fun _ => 0), (fun _ => 0), 0, 157)) ++ ((zWk cI (u_2 4 9) (u_2 4) ((fun _ => 0), (fun _ => 0), 0, 157)) ++ ((zPk cI (u_2 5 9) (u_2 5) (u_2 1 9) (fun _ => 0)) ++ ((zWk cI (u_2 6 9) (u_2 6) K1) ++ ((zTx cI (u_2 7 9) (u_2 7) (fun _ => 0) 0 (fun _ => 0) 0 0 0 0) ++ ((zHs cT (u_2 8 9) (u_2 8 0) (u_2 9 9) (u_2 10 9) (u_2 11 9) (u_2 12 9) 0) ++ ((zTr cI (u_2 9 9) (u_2 9) (lv2, ho1, (fun _ => 0), (fun _ => 0), (fun _ => 0), 157, 24, 4, 1, 0, 0)) ++ ((zTr cI (u_2 10 9) (u_2 10) (lv2, ho1, (fun _ => 0), (fun _ => 0), (fun _ => 0), 157, 24, 4, 1, 0, 0)) ++ ((zTr cI (u_2 11 9) (u_2 11) (lv2, ho1, (fun _ => 0), (fun _ => 0), (fun _ => 0), 157, 24, 4, 1, 0, 0)) ++ ((zTr cI (u_2 12 9) (u_2 12) (lv2, ho1, (fun _ => 0), (fun _ => 0), (fun _ => 0), 157, 24, 4, 1, 0, 0)) ++ ((zTr cI (u_2 13 9) (u_2 13) (lv2, ho1, (fun _ => 0), (fun _ => 0), (fun _ => 0), 157, 24, 4, 1, 0, 0)))))))))))))))) H := hP
  replace hD : va_D (fun q : Nat => s.heap.size ≤ q) ((zRt n_1 (u_2 1 9) (u_2 2 9) (u_2 5 9) (u_2 6 9) (u_2 7 9) (u_2 8 9) (u_2 13 9) 0) ++ ((zTr cI (u_2 1 9) (u_2 1) (lv2, ho1, (fun _ => 0), (fun _ => 0), (fun _ => 0), 157, 24, 4, 1, 0, 0)) ++ ((zCh cI (u_2 2 9) (u_2 2) (u_2 1 9) (u_2 3 9) (u_2 4 9) (fun _ => 0) 0 (fun _ => 0) 0 0) ++ ((zWk cI (u_2 3 9) (u_2 3) ((fun _ => 0), (fun _ => 0), 0, 157)) ++ ((zWk cI (u_2 4 9) (u_2 4) ((fun _ => 0), (fun _ => 0), 0, 157)) ++ ((zPk cI (u_2 5 9) (u_2 5) (u_2 1 9) (fun _ => 0)) ++ ((zWk cI (u_2 6 9) (u_2 6) K1) ++ ((zTx cI (u_2 7 9) (u_2 7) (fun _ => 0) 0 (fun _ => 0) 0 0 0 0) ++ ((zHs cT (u_2 8 9) (u_2 8 0) (u_2 9 9) (u_2 10 9) (u_2 11 9) (u_2 12 9) 0) ++ ((zTr cI (u_2 9 9) (u_2 9) (lv2, ho1, (fun _ => 0), (fun _ => 0), (fun _ => 0), 157, 24, 4, 1, 0, 0)) ++ ((zTr cI (u_2 10 9) (u_2 10) (lv2, ho1, (fun _ => 0), (fun _ => 0), (fun _ => 0), 157, 24, 4, 1, 0, 0)) ++ ((zTr cI (u_2 11 9) (u_2 11) (lv2, ho1, (fun _ => 0), (fun _ => 0), (fun _ => 0), 157, 24, 4, 1, 0, 0)) ++ ((zTr cI (u_2 12 9) (u_2 12) (lv2, ho1, (fun _ => 0), (fun _ => 0), (fun _ => 0), 157, 24, 4, 1, 0, 0)) ++ ((zTr cI (u_2 13 9) (u_2 13) (lv2, ho1, (fun _ => 0), (fun _ => 0), (fun _ => 0), 157, 24, 4, 1, 0, 0)))))))))))))))) := hD
  refine W.widen (k := 56) (n := 13502) (Nat.le_of_ble_eq_true rfl) (Nat.le_of_ble_eq_true rfl) ?_
  refine lv_astore_n (lv' := [(1, .ref n_1), (0, .ref b)]) hx hb dL_law_7 rfl hl (by decide) rfl (fun ls hl => ?_)
  refine lv_bipush (v := Int32.ofInt 24) hx hb dL_law_8 (by decide +kernel) ?_
  refine z_newi (cI := cI) (N := 24) hx hb (hts _ wm105) hK hP hD hS hA rfl (by decide) (by decide) rfl (show 56 + 1 ≤ 600000 from Nat.le_of_ble_eq_true rfl) (show 13502 + 24 ≤ 7302250 from Nat.le_of_ble_eq_true rfl) dL_law_10 (fun h_B H hP hD hS => ?_)
  replace hP : va_P D vwCl (zAr cI h_B 24 (fun _ => 0) ++ ((zRt n_1 (u_2 1 9) (u_2 2 9) (u_2 5 9) (u_2 6 9) (u_2 7 9) (u_2 8 9) (u_2 13 9) 0) ++ ((zTr cI (u_2 1 9) (u_2 1) (lv2, ho1, (fun _ => 0), (fun _ => 0), (fun _ => 0), 157, 24, 4, 1, 0, 0)) ++ ((zCh cI (u_2 2 9) (u_2 2) (u_2 1 9) (u_2 3 9) (u_2 4 9) (fun _ => 0) 0 (fun _ => 0) 0 0) ++ ((zWk cI (u_2 3 9) (u_2 3) ((fun _ => 0), (fun _ => 0), 0, 157)) ++ ((zWk cI (u_2 4 9) (u_2 4) ((fun _ => 0), (fun _ => 0), 0, 157)) ++ ((zPk cI (u_2 5 9) (u_2 5) (u_2 1 9) (fun _ => 0)) ++ ((zWk cI (u_2 6 9) (u_2 6) K1) ++ ((zTx cI (u_2 7 9) (u_2 7) (fun _ => 0) 0 (fun _ => 0) 0 0 0 0) ++ ((zHs cT (u_2 8 9) (u_2 8 0) (u_2 9 9) (u_2 10 9) (u_2 11 9) (u_2 12 9) 0) ++ ((zTr cI (u_2 9 9) (u_2 9) (lv2, ho1, (fun _ => 0), (fun _ => 0), (fun _ => 0), 157, 24, 4, 1, 0, 0)) ++ ((zTr cI (u_2 10 9) (u_2 10) (lv2, ho1, (fun _ => 0), (fun _ => 0), (fun _ => 0), 157, 24, 4, 1, 0, 0)) ++ ((zTr cI (u_2 11 9) (u_2 11) (lv2, ho1, (fun _ => 0), (fun _ => 0), (fun _ => 0), 157, 24, 4, 1, 0, 0)) ++ ((zTr cI (u_2 12 9) (u_2 12) (lv2, ho1, (fun _ => 0), (fun _ => 0), (fun _ => 0), 157, 24, 4, 1, 0, 0)) ++ ((zTr cI (u_2 13 9) (u_2 13) (lv2, ho1, (fun _ => 0), (fun _ => 0), (fun _ => 0), 157, 24, 4, 1, 0, 0))))))))))))))))) H := va_P_perm List.perm_append_comm hP
  replace hD : va_D (fun q : Nat => s.heap.size ≤ q) (zAr cI h_B 24 (fun _ => 0) ++ ((zRt n_1 (u_2 1 9) (u_2 2 9) (u_2 5 9) (u_2 6 9) (u_2 7 9) (u_2 8 9) (u_2 13 9) 0) ++ ((zTr cI (u_2 1 9) (u_2 1) (lv2, ho1, (fun _ => 0), (fun _ => 0), (fun _ => 0), 157, 24, 4, 1, 0, 0)) ++ ((zCh cI (u_2 2 9) (u_2 2) (u_2 1 9) (u_2 3 9) (u_2 4 9) (fun _ => 0) 0 (fun _ => 0) 0 0) ++ ((zWk cI (u_2 3 9) (u_2 3) ((fun _ => 0), (fun _ => 0), 0, 157)) ++ ((zWk cI (u_2 4 9) (u_2 4) ((fun _ => 0), (fun _ => 0), 0, 157)) ++ ((zPk cI (u_2 5 9) (u_2 5) (u_2 1 9) (fun _ => 0)) ++ ((zWk cI (u_2 6 9) (u_2 6) K1) ++ ((zTx cI (u_2 7 9) (u_2 7) (fun _ => 0) 0 (fun _ => 0) 0 0 0 0) ++ ((zHs cT (u_2 8 9) (u_2 8 0) (u_2 9 9) (u_2 10 9) (u_2 11 9) (u_2 12 9) 0) ++ ((zTr cI (u_2 9 9) (u_2 9) (lv2, ho1, (fun _ => 0), (fun _ => 0), (fun _ => 0), 157, 24, 4, 1, 0, 0)) ++ ((zTr cI (u_2 10 9) (u_2 10) (lv2, ho1, (fun _ => 0), (fun _ => 0), (fun _ => 0), 157, 24, 4, 1, 0, 0)) ++ ((zTr cI (u_2 11 9) (u_2 11) (lv2, ho1, (fun _ => 0), (fun _ => 0), (fun _ => 0), 157, 24, 4, 1, 0, 0)) ++ ((zTr cI (u_2 12 9) (u_2 12) (lv2, ho1, (fun _ => 0), (fun _ => 0), (fun _ => 0), 157, 24, 4, 1, 0, 0)) ++ ((zTr cI (u_2 13 9) (u_2 13) (lv2, ho1, (fun _ => 0), (fun _ => 0), (fun _ => 0), 157, 24, 4, 1, 0, 0))))))))))))))))) := va_D_perm List.perm_append_comm hD
  refine W.widen (k := 57) (n := 13526) (Nat.le_of_ble_eq_true rfl) (Nat.le_of_ble_eq_true rfl) ?_
  refine lv_astore_n (lv' := [(2, .ref h_B), (1, .ref n_1), (0, .ref b)]) hx hb dL_law_12 rfl hl (by decide) rfl (fun ls hl => ?_)
  refine lv_iconst (v := Int32.ofInt 0) hx hb dL_law_13 rfl ?_
  refine lv_istore_n (lv' := [(3, vI 0), (2, .ref h_B), (1, .ref n_1), (0, .ref b)]) hx hb dL_law_14 rfl hl (by decide) rfl (fun ls hl => ?_)
  refine box_fill hx hb D cI cZ cT hK _ (fun f H locs ls hf hP hD hS hl => ?_) 24 0 _ _ _ _ rfl (fun k hk => absurd hk (Nat.not_lt_zero k)) hP hD hS (lv_sub hl [3, 2, 1, 0] rfl)
  refine lv_iconst (v := Int32.ofInt 0) hx hb dL_law_31 rfl ?_
  refine lv_istore_n (lv' := [(3, vI 0), (0, .ref b), (1, .ref n_1), (2, .ref h_B)]) hx hb dL_law_32 rfl hl (by decide) rfl (fun ls hl => ?_)
  have hE := rt_assoc2 (zRt n_1 (u_2 1 9) (u_2 2 9) (u_2 5 9) (u_2 6 9) (u_2 7 9) (u_2 8 9) (u_2 13 9) 0) (zTr cI (u_2 1 9) (u_2 1) (lv2, ho1, (fun _ => 0), (fun _ => 0), (fun _ => 0), 157, 24, 4, 1, 0, 0)) (zCh cI (u_2 2 9) (u_2 2) (u_2 1 9) (u_2 3 9) (u_2 4 9) (fun _ => 0) 0 (fun _ => 0) 0 0) (zWk cI (u_2 3 9) (u_2 3) ((fun _ => 0), (fun _ => 0), 0, 157)) (zWk cI (u_2 4 9) (u_2 4) ((fun _ => 0), (fun _ => 0), 0, 157)) (zPk cI (u_2 5 9) (u_2 5) (u_2 1 9) (fun _ => 0)) (zWk cI (u_2 6 9) (u_2 6) K1) (zTx cI (u_2 7 9) (u_2 7) (fun _ => 0) 0 (fun _ => 0) 0 0 0 0) (zHs cT (u_2 8 9) (u_2 8 0) (u_2 9 9) (u_2 10 9) (u_2 11 9) (u_2 12 9) 0) (zTr cI (u_2 9 9) (u_2 9) (lv2, ho1, (fun _ => 0), (fun _ => 0), (fun _ => 0), 157, 24, 4, 1, 0, 0)) (zTr cI (u_2 10 9) (u_2 10) (lv2, ho1, (fun _ => 0), (fun _ => 0), (fun _ => 0), 157, 24, 4, 1, 0, 0)) (zTr cI (u_2 11 9) (u_2 11) (lv2, ho1, (fun _ => 0), (fun _ => 0), (fun _ => 0), 157, 24, 4, 1, 0, 0)) (zTr cI (u_2 12 9) (u_2 12) (lv2, ho1, (fun _ => 0), (fun _ => 0), (fun _ => 0), 157, 24, 4, 1, 0, 0)) (zTr cI (u_2 13 9) (u_2 13) (lv2, ho1, (fun _ => 0), (fun _ => 0), (fun _ => 0), 157, 24, 4, 1, 0, 0)) (zAr cI h_B 24 f)
  have hP := va_P_eq hE (va_P_perm List.perm_append_comm hP)
  have hD := va_D_eq hE (va_D_perm List.perm_append_comm hD)
  exact law_loop hL C0 D cI cZ cT hK hN n_1 h_B 48 0 H locs ls rfl ⟨(u_2 1 9), (u_2 2 9), (u_2 5 9), (u_2 6 9), (u_2 7 9), (u_2 8 9), (u_2 13 9), (u_2 1), (u_2 2), (u_2 3 9), (u_2 4 9), (u_2 3), (u_2 4), (u_2 5), (u_2 6), (u_2 7), (u_2 8 0), (u_2 9 9), (u_2 10 9), (u_2 11 9), (u_2 12 9), (u_2 9), (u_2 10), (u_2 11), (u_2 12), (u_2 13), 0, (lv2, ho1, (fun _ => 0), (fun _ => 0), (fun _ => 0), 157, 24, 4, 1, 0, 0), (fun _ => 0), 0, (fun _ => 0), 0, 0, ((fun _ => 0), (fun _ => 0), 0, 157), ((fun _ => 0), (fun _ => 0), 0, 157), (fun _ => 0), K1, (fun _ => 0), 0, (fun _ => 0), 0, 0, 0, 0, 0, (lv2, ho1, (fun _ => 0), (fun _ => 0), (fun _ => 0), 157, 24, 4, 1, 0, 0), (lv2, ho1, (fun _ => 0), (fun _ => 0), (fun _ => 0), 157, 24, 4, 1, 0, 0), (lv2, ho1, (fun _ => 0), (fun _ => 0), (fun _ => 0), 157, 24, 4, 1, 0, 0), (lv2, ho1, (fun _ => 0), (fun _ => 0), (fun _ => 0), 157, 24, 4, 1, 0, 0), (lv2, ho1, (fun _ => 0), (fun _ => 0), (fun _ => 0), 157, 24, 4, 1, 0, 0), f, hLC f hf, hCw, hP, hD⟩ hS (lv_sub hl [1, 2, 3, 0] rfl)
