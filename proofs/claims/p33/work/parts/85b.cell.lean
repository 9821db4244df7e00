/-! the script's own cell, by a method -/
theorem iand_max {x : Int} : 0 ≤ iAnd x 2147483647 ∧ iAnd x 2147483647 ≤ 2147483647 := by
  obtain ⟨j, h1, h2⟩ := pk_andE (Int32.ofInt x) (m := Int32.ofInt 2147483647) 31 (by decide +kernel)
  unfold iAnd
  rw [h2, nI_toInt h1]
  omega
def zPX (D : va_G) (tys : zTy) (ws : va_W) (sz b L : Nat) (xs : Nat → Int32) (U : State) : Prop := zP D tys ws sz U ∧ va_X b L xs U U.heap
theorem zPX.blind {D : va_G} {tys : zTy} {ws : va_W} {sz b L : Nat} {xs : Nat → Int32} {av : List Value} : FrameBlind (va_Pc av (zPX D tys ws sz b L xs)) := by
  intro a U g mk q
  obtain ⟨q0, q1, q2⟩ := q
  have h := zP.blind (D := D) (tys := tys) (ws := ws) (sz := sz) (av := av) a U g mk ⟨q0, q1⟩
  exact ⟨q0, h.2, va_X.moved (u := U) (U := U.calling g mk a) (Vm.Alike.refl U.vm) q2⟩
theorem zPX.enter {D : va_G} {tys : zTy} {ws : va_W} {av : List Value} {s : State} {H : Heap} {A : Nat → Prop} {b L : Nat} {xs : Nat → Int32} (hP : va_P D vwCl ws H) (hK : va_K D vwCl tys s) (hD : va_D A ws) (hN : zNW s) (hX : va_X b L xs s H) : ∀ U : State, U.heap = H → s.WarmedH U.vm → va_Pc av (zPX D tys ws H.size b L xs) av.toArray U :=
  fun U hU hW => ⟨rfl, (zP.enter (av := av) hP hK hD hN U hU hW).2, by rw [hU]; exact va_X.moved hW.alike hX⟩
theorem z_entX {l : Launch} {D : va_G} {tys : zTy} {Qc : (Nat → Prop) → Array Value → State → Outcome → State → Prop} {y : MethodName} {b : ByteArray} {n : Nat} {rt : Option FieldType} {rm : Room} {mc ms : Nat} {av : List Value} {ws0 : va_W} {sz b0 L : Nat} {xs : Nat → Int32} (hy : plainName y.cls = true) (hn : (lg_sl av).length ≤ n)
    (body : ∀ (p : Program) (e : Env) (s : State) (m : MethodId) (args : Array Value) (below : List Frame) (meth : Method) (c : Code) (A : Nat → Prop) (ls : Array Slot) (H : Heap) (locs : List Loc), va_X b0 L xs s s.heap → s.heap.size = sz → (∀ q, A q → va_A ws0 sz q) → zF p m c b n s args y.cls meth rt y.name A D tys → va_P D vwCl ws0 H → va_D A ws0 → va_S A s.heap H locs → lv_has ls n (lv_args 0 av) →
      W p l e rm s m args below meth c H locs 0 0 (MQ below (Qc A) args s mc ms A) (F0 m 0 ls [])) : Met l y (zW y b n rt) rm (va_Pc av (zPX D tys ws0 sz b0 L xs)) (Qc (va_A ws0 sz)) mc ms (va_A ws0 sz) := by
  refine Met.ofW (cc := b) (maxL := n) (ret := rt) hy rfl ?_
  intro p e s m args below meth c s₁ B hml hv
  obtain ⟨rfl, ⟨hsz, hP, hK, hD0, hN⟩, hX⟩ := hv
  have hts := atoms_spec (ws := zW y b n rt) B.pre
  subst hsz
  have hD := hD0.self (sz := s.heap.size)
  have hl := lv_entry av (n := n) hn
  rw [lg_entry_eq]
  exact body p e s m _ below meth c _ _ s.heap [] hX rfl (fun q h => h) ⟨⟨B.exec, B.bytes, hml, findClass_of_methodNamed B.named, fun w hw => hts w (List.mem_cons_of_mem _ hw)⟩, B.returns, B.notSynchronized, (name_of_methodNamed B.named B.method).1, hK, hN, fun q h => Or.inr h⟩ hP hD va_S.rf hl
set_option maxHeartbeats 4000000 in
set_option maxRecDepth 100000 in
theorem c_Lw_cell (l : Launch) (D : va_G) (cI cZ cT : ClassId) (b L : Nat) (xs : Nat → Int32) (x1 : Int) (sz : Nat) (hbs : b < sz) (h1 : 0 ≤ x1 ∧ x1 ≤ 1000) (hL : L ≤ 260) : Met l yL_cell (zW yL_cell cL_cell 2 (some .int)) rm_Lw_cell (va_Pc [.ref b, vI x1] (zPX D (zt cI cZ cT) [] sz b L xs)) (zQi D (if x1 < (L : Int) then sc xs x1.toNat else 40503 * (x1 + 3)) (fun _ => []) (va_A [] sz)) 0 0 (va_A [] sz) := by
  refine z_entX (Qc := zQi D (if x1 < (L : Int) then sc xs x1.toNat else 40503 * (x1 + 3)) (fun _ => [])) (by decide) (Nat.le_of_ble_eq_true rfl) (fun p e s m args below meth c A ls H locs hX hsz hAA hF hP hD hS hl => ?_)
  have hx := hF.1.1
  have hb := hF.1.2.1
  have hml := hF.1.2.2.1
  have hown : s.vm.findClass "RectangleTreeLaw" = some m.cls := hF.1.2.2.2.1
  have hts := hF.1.2.2.2.2
  have hr := hF.2.1
  have hlk := hF.2.2.1
  have hbl : b < s.heap.size := by rw [hsz]; exact hbs
  have hbA : ¬ A b := fun q => by
    rcases hAA b q with ⟨k, e, h⟩ | h
    · simp at h
    · omega
  refine lv_iload_n hx hb dL_cell_0 rfl (lv_at hl 1 rfl) ?_
  refine lv_aload_n hx hb dL_cell_1 rfl (lv_at hl 0 rfl) ?_
  refine z_slen hx hb hX hbl hbA hS dL_cell_2 ?_
  refine z_icmp_ge (tgt := 12) hx hb ⟨by omega, by omega⟩ ⟨by omega, by omega⟩ dL_cell_3 (by decide) (fun b_3 => ?_) (fun b_3 => ?_)
  · rw [if_neg b_3]
    refine lv_ldc (v := Int32.ofInt 40503) hx hb hown (hts _ wm276) dL_cell_12 ?_
    refine lv_iload_n hx hb dL_cell_14 rfl (lv_at hl 1 rfl) ?_
    refine lv_iconst (v := Int32.ofInt 3) hx hb dL_cell_15 rfl ?_
    refine z_iadd hx hb dL_cell_16 ?_
    refine z_imul hx hb dL_cell_17 ?_
    exact z_iret hx hb hr hlk (fun _ _ => 0) hP hD hS dL_cell_18
  · rw [if_pos b_3]
    refine lv_aload_n hx hb dL_cell_6 rfl (lv_at hl 0 rfl) ?_
    refine lv_iload_n hx hb dL_cell_7 rfl (lv_at hl 1 rfl) ?_
    refine z_sld (j := x1.toNat) hx hb hX hbl hbA hS (by omega) (by omega) (by omega) dL_cell_8 ?_
    refine lv_goto (tgt := 18) hx hb dL_cell_9 (by decide) ?_
    exact z_iret hx hb hr hlk (fun _ _ => 0) hP hD hS dL_cell_18
