/-! rows of references (the history's states), the worlds of the history and of the whole tree object -/
def zR4 (p0 p1 p2 p3 : Nat) : Nat → Option Nat := fun k => if k = 0 then some p0 else if k = 1 then some p1 else if k = 2 then some p2 else if k = 3 then some p3 else none
theorem zR4_up0 (p0 p1 p2 p3 v : Nat) : va_up (zR4 p0 p1 p2 p3) 0 (some v) = zR4 v p1 p2 p3 := by funext k; simp only [va_up, zR4]; split <;> rfl
theorem zR4_up1 (p0 p1 p2 p3 v : Nat) : va_up (zR4 p0 p1 p2 p3) 1 (some v) = zR4 p0 v p2 p3 := by funext k; by_cases h : k = 1 <;> simp [va_up, zR4, h]
theorem zR4_up2 (p0 p1 p2 p3 v : Nat) : va_up (zR4 p0 p1 p2 p3) 2 (some v) = zR4 p0 p1 v p3 := by funext k; by_cases h : k = 2 <;> simp [va_up, zR4, h]
theorem zR4_up3 (p0 p1 p2 p3 v : Nat) : va_up (zR4 p0 p1 p2 p3) 3 (some v) = zR4 p0 p1 p2 v := by funext k; by_cases h : k = 3 <;> simp [va_up, zR4, h]
abbrev zHs (cT : ClassId) (h q p0 p1 p2 p3 : Nat) (count : Int) : va_W := [(h, .inr (1, [.ref q, vI count])), (q, .inl (cT, 4, .inr (.inr (.inr (.inr (zR4 p0 p1 p2 p3))))))]
abbrev zRt (h ht hc hp hn hx hh hs : Nat) (hasSnapshot : Int) : va_W := [(h, .inr (6, [.ref ht, .ref hc, .ref hp, .ref hn, .ref hx, .ref hh, .ref hs, vI hasSnapshot]))]
section ZA
variable {p : Program} {l : Launch} {e : Env} {R : Room} {s : State} {m : MethodId} {args : Array Value} {below : List Frame} {meth : Method} {c : Code} {H : Heap} {locs : List Loc} {cells slots : Nat} {Q : State → Prop}
variable {cc : ByteArray} {pc : Nat} {ls : Array Slot} {rest : List Value} {D : va_G} {A : Nat → Prop} {a : Nat} {tys : zTy} {ws : va_W} {H0 : Heap}
theorem z_aald (hx : p.tables.exec = Jvm.exec) (hb : c.code = cc) (hK : va_K D vwCl tys s) (hP : va_P D vwCl ws H) (q0 : Nat) {cT : ClassId} {f : Nat → Option Nat} (ha : ws[q0]? = some (a, .inl (cT, 4, .inr (.inr (.inr (.inr f)))))) (ht : tys[2]? = some (cT, .object "RectangleTree$Tree")) {i : Int} {j y : Nat} (hi : i = (j : Int)) (hj : j < 4) (hf : f j = some y) (hdg : decode cc pc = .ok (.aaload, 1))
    (k : W p l e R s m args below meth c H locs cells slots Q (F0 m (pc + 1) ls (.ref y :: rest))) : W p l e R s m args below meth c H locs cells slots Q (F0 m pc ls (vI i :: .ref a :: rest)) := by
  subst hi
  refine va_aldq hx hb hK hP q0 2 ha ht (ck_in (by omega) (by omega) (by omega)) hdg ?_
  rw [ck_nat (by omega) (by omega), show ((j : Int)).toNat = j from rfl, hf]
  exact k
theorem z_aast (hx : p.tables.exec = Jvm.exec) (hb : c.code = cc) (hK : va_K D vwCl tys s) (hP : va_P D vwCl ws H) (hD : va_D A ws) (hS : va_S A H0 H locs) (q0 qk : Nat) {cT : ClassId} {v : Nat} {vs : List Value} {f f' : Nat → Option Nat} (ha : ws[q0]? = some (a, .inl (cT, 4, .inr (.inr (.inr (.inr f)))))) (ht : tys[2]? = some (cT, .object "RectangleTree$Tree")) (hv : ws[qk]? = some (v, .inr (4, vs))) {i : Int} {j : Nat} (hi : i = (j : Int)) (hj : j < 4) (hf : va_up f j (some v) = f') (hdg : decode cc pc = .ok (.aastore, 1)) {ws' : va_W} (hw : ws.set q0 (a, .inl (cT, 4, .inr (.inr (.inr (.inr f'))))) = ws')
    (kk : ∀ (H1 : Heap) (locs1 : List Loc), va_P D vwCl ws' H1 → va_D A ws' → va_S A H0 H1 locs1 → W p l e R s m args below meth c H1 locs1 cells slots Q (F0 m (pc + 1) ls rest)) : W p l e R s m args below meth c H locs cells slots Q (F0 m pc ls (.ref v :: vI i :: .ref a :: rest)) := by
  subst hi; subst hf; subst hw
  refine va_astq (ci := 4) (r := (RX4, TX4, 10)) hx hb hK hP hD hS q0 2 qk ha ht hv rfl (ck_in (by omega) (by omega) (by omega)) hdg ?_
  rw [ck_nat (by omega) (by omega), show ((j : Int)).toNat = j from rfl]
  exact kk
end ZA
theorem zR4_new (p0 p1 p2 p3 : Nat) : va_up (va_up (va_up (va_up (fun _ => none) 0 (some p0)) 1 (some p1)) 2 (some p2)) 3 (some p3) = zR4 p0 p1 p2 p3 := by
  funext k
  simp only [va_up, zR4]
  by_cases h0 : k = 0
  · subst h0; rfl
  · by_cases h1 : k = 1
    · subst h1; rfl
    · by_cases h2 : k = 2
      · subst h2; rfl
      · by_cases h3 : k = 3
        · subst h3; rfl
        · simp [h0, h1, h2, h3]
section ZT
variable {p : Program} {l : Launch} {e : Env} {R : Room} {s : State} {m : MethodId} {args : Array Value} {below : List Frame} {meth : Method} {c : Code} {H : Heap} {locs : List Loc} {cells slots : Nat} {Q : State → Prop}
variable {cc : ByteArray} {pc : Nat} {ls : Array Slot} {rest : List Value} {D : va_G} {A : Nat → Prop} {a : Nat} {tys : zTy} {ws : va_W} {H0 : Heap}
theorem z_newt (hx : p.tables.exec = Jvm.exec) (hb : c.code = cc) {own : String} {index : Nat} (hown : s.vm.findClass own = some m.cls) (hclink : (Cond.classLink own index "RectangleTree$Tree").before args s = true) (hover : (Cond.arrayOver (.object "RectangleTree$Tree")).before args s = true) (hK : va_K D vwCl tys s) (hP : va_P D vwCl ws H) (hD : va_D A ws) (hS : va_S A H0 H locs) (hA : ∀ q, H0.size ≤ q → A q) {cT : ClassId} (ht : tys[2]? = some (cT, .object "RectangleTree$Tree")) (hcells : cells + 1 ≤ R.cells) (hslots : slots + 4 ≤ R.slots) (hdg : decode cc pc = .ok (.anewarray index, 3))
    (kk : ∀ (q : Nat) (H1 : Heap), va_P D vwCl (ws ++ [(q, .inl (cT, 4, .inr (.inr (.inr (.inr (fun _ => none))))))]) H1 → va_D A (ws ++ [(q, .inl (cT, 4, .inr (.inr (.inr (.inr (fun _ => none))))))]) → va_S A H0 H1 locs → W p l e R s m args below meth c H1 locs (cells + 1) (slots + 4) Q (F0 m (pc + 3) ls (.ref q :: rest))) : W p l e R s m args below meth c H locs cells slots Q (F0 m pc ls (vI 4 :: rest)) := by
  refine va_newq (N' := 4) hx hb hown hclink (va_AO.of hover) hK hP hD hS hA (by decide) (by decide) (by decide) hcells hslots hdg (fun q cA H1 hK1 hP1 hD1 hS1 => ?_)
  have e1 : va_RA s cA (.object "RectangleTree$Tree") := (hK1.2 tys.length _ (by rw [List.getElem?_append_right (Nat.le_refl _), Nat.sub_self]; rfl)).2
  have e2 : va_RA s cT (.object "RectangleTree$Tree") := (hK.2 2 _ ht).2
  have e3 : cA = cT := by
    obtain ⟨_, _, _, _, _, a1⟩ := e1
    obtain ⟨_, _, _, _, _, a2⟩ := e2
    exact Option.some.inj (a1.symm.trans a2)
  subst e3
  exact kk q H1 hP1 hD1 hS1
end ZT
/-! a start that also knows that rows of trees can be made -/
def zPO (D : va_G) (tys : zTy) (ws : va_W) (sz : Nat) (U : State) : Prop := zP D tys ws sz U ∧ va_AO "RectangleTree$Tree" U
theorem zPO.blind {D : va_G} {tys : zTy} {ws : va_W} {sz : Nat} {av : List Value} : FrameBlind (va_Pc av (zPO D tys ws sz)) := by
  intro a U g mk q
  obtain ⟨q0, q1, q2⟩ := q
  have h := zP.blind (D := D) (tys := tys) (ws := ws) (sz := sz) (av := av) a U g mk ⟨q0, q1⟩
  exact ⟨q0, h.2, va_AO.moved (u := U) (U := U.calling g mk a) (Vm.Alike.refl U.vm) q2⟩
theorem zPO.enter {D : va_G} {tys : zTy} {ws : va_W} {av : List Value} {s : State} {H : Heap} {A : Nat → Prop} (hP : va_P D vwCl ws H) (hK : va_K D vwCl tys s) (hD : va_D A ws) (hN : zNW s) (hO : va_AO "RectangleTree$Tree" s) : ∀ U : State, U.heap = H → s.WarmedH U.vm → va_Pc av (zPO D tys ws H.size) av.toArray U :=
  fun U hU hW => ⟨rfl, (zP.enter (av := av) hP hK hD hN U hU hW).2, va_AO.moved hW.alike hO⟩
abbrev zMvO (l : Launch) (y : MethodName) (b : ByteArray) (n : Nat) (rm : Room) (D : va_G) (tys : zTy) (av : List Value) (ws0 : va_W) (sz : Nat) (w1 : zU → va_W) (mc ms : Nat) : Prop := Met l y (zW y b n none) rm (va_Pc av (zPO D tys ws0 sz)) (zQv D w1 (va_A ws0 sz)) mc ms (va_A ws0 sz)
theorem z_entO {l : Launch} {D : va_G} {tys : zTy} {Qc : (Nat → Prop) → Array Value → State → Outcome → State → Prop} {y : MethodName} {b : ByteArray} {n : Nat} {rt : Option FieldType} {rm : Room} {mc ms : Nat} {av : List Value} {ws0 : va_W} {sz : Nat} (hy : plainName y.cls = true) (hn : (lg_sl av).length ≤ n)
    (body : ∀ (p : Program) (e : Env) (s : State) (m : MethodId) (args : Array Value) (below : List Frame) (meth : Method) (c : Code) (A : Nat → Prop) (ls : Array Slot) (H : Heap) (locs : List Loc), va_AO "RectangleTree$Tree" s → zF p m c b n s args y.cls meth rt y.name A D tys → va_P D vwCl ws0 H → va_D A ws0 → va_S A s.heap H locs → lv_has ls n (lv_args 0 av) →
      W p l e rm s m args below meth c H locs 0 0 (MQ below (Qc A) args s mc ms A) (F0 m 0 ls [])) : Met l y (zW y b n rt) rm (va_Pc av (zPO D tys ws0 sz)) (Qc (va_A ws0 sz)) mc ms (va_A ws0 sz) := by
  refine Met.ofW (cc := b) (maxL := n) (ret := rt) hy rfl ?_
  intro p e s m args below meth c s₁ B hml hv
  obtain ⟨rfl, ⟨hsz, hP, hK, hD0, hN⟩, hO⟩ := hv
  have hts := atoms_spec (ws := zW y b n rt) B.pre
  subst hsz
  have hD := hD0.self (sz := s.heap.size)
  have hl := lv_entry av (n := n) hn
  rw [lg_entry_eq]
  exact body p e s m _ below meth c _ _ s.heap [] hO ⟨⟨B.exec, B.bytes, hml, findClass_of_methodNamed B.named, fun w hw => hts w (List.mem_cons_of_mem _ hw)⟩, B.returns, B.notSynchronized, (name_of_methodNamed B.named B.method).1, hK, hN, fun q h => Or.inr h⟩ hP hD va_S.rf hl
