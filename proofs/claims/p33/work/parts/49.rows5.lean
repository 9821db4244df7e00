/-! rows: new rows of numbers, copies, calls that answer a reference -/
theorem it_e {α : Type} {c : Prop} [Decidable c] {a b r : α} (h : (if c then a else b) = r) : (c ∧ a = r) ∨ (¬ c ∧ b = r) := by
  by_cases hc : c
  · rw [if_pos hc] at h; exact Or.inl ⟨hc, h⟩
  · rw [if_neg hc] at h; exact Or.inr ⟨hc, h⟩
theorem ia_cpy (f g : Nat → Int) (a b n : Nat) : va_cpy (ia f) (ia g) a b n = ia (va_cpy f g a b n) := by
  funext k
  show (if _ then _ else _) = Int32.ofInt (if _ then _ else _)
  split <;> rfl
abbrev zQr (D : va_G) (w1 : Nat → va_W) (A : Nat → Prop) : Array Value → State → Outcome → State → Prop := va_Qr (S := zU) (fun (_ : zU) => True) (fun _ a t => va_P D vwCl (w1 a) t.heap ∧ va_D A (w1 a)) A
abbrev zMr (l : Launch) (y : MethodName) (b : ByteArray) (n : Nat) (rt : FieldType) (rm : Room) (D : va_G) (tys : zTy) (av : List Value) (ws0 : va_W) (sz : Nat) (w1 : Nat → va_W) (mc ms : Nat) : Prop := Met l y (zW y b n (some rt)) rm (va_Pc av (zP D tys ws0 sz)) (zQr D w1 (va_A ws0 sz)) mc ms (va_A ws0 sz)
section ZN
variable {p : Program} {l : Launch} {e : Env} {R : Room} {s : State} {m : MethodId} {args : Array Value} {below : List Frame} {meth : Method} {c : Code} {H : Heap} {locs : List Loc} {cells slots : Nat} {Q : State → Prop}
variable {cc : ByteArray} {pc : Nat} {ls : Array Slot} {rest : List Value} {D : va_G} {A : Nat → Prop} {a : Nat} {tys : zTy} {ws : va_W} {H0 : Heap}
theorem z_newi (hx : p.tables.exec = Jvm.exec) (hb : c.code = cc) (harr : (Cond.arrayClass .int).before args s = true) (hK : va_K D vwCl tys s) (hP : va_P D vwCl ws H) (hD : va_D A ws) (hS : va_S A H0 H locs) (hA : ∀ q, H0.size ≤ q → A q) {cI : ClassId} (ht : tys[0]? = some (cI, .int)) {i : Int} {N : Nat} (h0 : 0 ≤ i) (h1 : i ≤ 100000) (hN : i.toNat = N) (hcells : cells + 1 ≤ R.cells) (hslots : slots + N ≤ R.slots) (hdg : decode cc pc = .ok (.newarray .int, 2))
    (kk : ∀ (q : Nat) (H1 : Heap), va_P D vwCl (ws ++ [(q, .inl (cI, N, .inl (ia (fun _ => 0))))]) H1 → va_D A (ws ++ [(q, .inl (cI, N, .inl (ia (fun _ => 0))))]) → va_S A H0 H1 locs → W p l e R s m args below meth c H1 locs (cells + 1) (slots + N) Q (F0 m (pc + 2) ls (.ref q :: rest))) : W p l e R s m args below meth c H locs cells slots Q (F0 m pc ls (vI i :: rest)) := by
  refine va_newa (atype := .int) (ty := .int) (N' := N) (a0 := (N, .inl (ia (fun _ => 0)))) hx hb harr rfl hK hP hD hS hA (fun cA => rfl) ?_ ?_ ?_ hcells hslots hdg (fun q cA H1 hK1 hP1 hD1 hS1 => ?_)
  · rw [show (0 : Int32) = Int32.ofInt 0 from rfl, ck_lt ⟨by omega, by omega⟩ ck_0]; omega
  · rw [ck_nat h0 (by omega)]; exact hN
  · have : componentBytes FieldType.int ≤ 8 := by decide
    calc N * componentBytes FieldType.int ≤ 100000 * 8 := Nat.mul_le_mul (by omega) this
      _ ≤ 536870912 := by decide
  · have e1 : va_RA s cA .int := (hK1.2 tys.length _ (by rw [List.getElem?_append_right (Nat.le_refl _), Nat.sub_self]; rfl)).2
    have e2 : va_RA s cI .int := (hK.2 0 _ ht).2
    have e3 : cA = cI := Option.some.inj ((va_nm_int e1).symm.trans (va_nm_int e2))
    subst e3
    exact kk q H1 hP1 hD1 hS1
/-- System.arraycopy from the first place of both rows -/
theorem z_copy0 (hx : p.tables.exec = Jvm.exec) (hb : c.code = cc) (hml : c.maxLocals = ls.size) {own : String} {index : Nat} (hown : s.vm.findClass own = some m.cls) (hlink : (Cond.methodLink own index arraycopyName).before args s = true) (hnat : (Cond.native arraycopyName).before args s = true) (hstat : (Cond.static arraycopyName).before args s = true) (hini : (Cond.initialized "java/lang/System").before args s = true)
    (hK : va_K D vwCl tys s) (hP : va_P D vwCl ws H) (hD : va_D A ws) (hS : va_S A H0 H locs) (q0 q1 : Nat) {a0 : Nat} {cI : ClassId} {n0 n1 : Nat} {f g : Nat → Int} (ha0 : ws[q0]? = some (a0, .inl (cI, n0, .inl (ia f)))) (ha1 : ws[q1]? = some (a, .inl (cI, n1, .inl (ia g)))) (ht : tys[0]? = some (cI, .int))
    {x : Int} (h0 : 0 ≤ x) (h1 : x ≤ (n0 : Int)) (h2 : x ≤ (n1 : Int)) (h3 : x ≤ 2147483647)
    (hframes : 1 ≤ R.frames) (hlocals : (rest.map fun v => v.category).sum + (nativeFrameWords "java/lang/System" "arraycopy" 5 + 11) ≤ R.locals) (hdg : decode cc pc = .ok (.invokestatic index, 3)) {ws' : va_W} (hw : ws.set q1 (a, .inl (cI, n1, .inl (ia (va_cpy f g 0 0 x.toNat)))) = ws')
    (kk : ∀ (H1 : Heap) (locs1 : List Loc), va_P D vwCl ws' H1 → va_D A ws' → va_S A H0 H1 locs1 → W p l e R s m args below meth c H1 locs1 cells slots Q (F0 m (pc + 3) ls rest)) : W p l e R s m args below meth c H locs cells slots Q (F0 m pc ls (vI x :: vI 0 :: .ref a :: vI 0 :: .ref a0 :: rest)) := by
  subst hw
  have hz : (Int32.ofInt 0).toNatClampNeg = 0 := rfl
  have hx2 : (Int32.ofInt x).toNatClampNeg = x.toNat := ck_nat h0 h3
  refine va_copyi hx hb hml hown hlink hnat hstat hini hK hP hD hS q0 q1 0 0 ha0 ha1 ht ht rfl (by decide) (by decide) ?_ ?_ ?_ (fun _ _ => rfl) hframes hlocals hdg ?_
  · rw [show (0 : Int32) = Int32.ofInt 0 from rfl, ck_lt ⟨by omega, h3⟩ ck_0]; omega
  · rw [hz, hx2]; omega
  · rw [hz, hx2]; omega
  · rw [hz, hx2, ia_cpy]; exact kk
theorem z_gor {mc ms : Nat} {st0 : List Value} {av : Array Value} {wc wr : va_W} {w1 : Nat → va_W} {wn : Nat → va_W} (hr : va_Run p l e R s m args below meth c H locs cells slots mc ms (F0 m pc ls st0) rest (zQr D w1 (va_A wc H.size) av) (va_A wc H.size))
    (hP : va_P D vwCl ws H) (hD : va_D A ws) (hS : va_S A H0 H locs) (hA : ∀ q, H0.size ≤ q → A q) (isC isR perm : List Nat) (hC : isC.map (fun i => ws[i]?) = wc.map some) (hR : isR.map (fun i => ws[i]?) = wr.map some) (hn : (va_nd isR && (isR.all (fun i => !isC.contains i) && va_nd perm)) = true) (hp : ∀ u, perm.map (fun i => (wr ++ w1 u)[i]?) = (wn u).map some)
    (kk : ∀ (u : Nat) (H1 : Heap) (locs1 : List Loc), va_P D vwCl (wn u) H1 → va_D A (wn u) → va_S A H0 H1 locs1 → H.size ≤ H1.size → W p l e R s m args below meth c H1 locs1 (cells + mc) (slots + ms) Q (F0 m (pc + 3) ls (.ref u :: rest))) : W p l e R s m args below meth c H locs cells slots Q (F0 m pc ls st0) := by
  simp only [Bool.and_eq_true, List.all_eq_true, Bool.not_eq_true', List.contains_iff_mem, decide_eq_true_eq] at hn
  obtain ⟨hn1, hn2, hn3⟩ := hn
  have hFc := va_free (wc := wc) hD hS hA isC hC
  refine va_callr hr hS (fun q _ h => hFc q h) hFc (fun u ra t H1 locs1 ht hvm hw hB hz hk hS1 => ?_)
  obtain ⟨hP1, hD1⟩ := hB
  rw [ht] at hP1
  obtain ⟨hP2, hD2⟩ := va_join hP hD isC isR hC hR hn1 (fun i hi => by have := hn2 i hi; simpa using this) hk hFc hP1 hD1
  exact kk ra H1 locs1 (z_subP hP2 perm (hp ra)) (hD2.sub perm hn3 (hp ra)) hS1 hz
theorem z_aret (hx : p.tables.exec = Jvm.exec) (hb : c.code = cc) {rt : FieldType} (hr : meth.sig.returnType = some rt) (hrt : (∃ n, rt = .object n) ∨ ∃ t, rt = .array t) (hlocks : meth.locks = false) {w1 : Nat → va_W} {a : Nat} (hP : va_P D vwCl (w1 a) H) (hD : va_D A (w1 a)) (hS : va_S A s.heap H locs) (hdg : decode cc pc = .ok (.areturn, 1)) : W p l e R s m args below meth c H locs cells slots (MQ below (zQr D w1 A) args s cells slots A) (F0 m pc ls [.ref a]) :=
  W.aret (v := .ref a) hx hb hr hrt (Or.inr ⟨a, rfl⟩) (fun t ht _ => ⟨⟨fun _ _ => 0, a, rfl, trivial, by show va_P D vwCl (w1 a) t.heap ∧ va_D A (w1 a); rw [ht]; exact ⟨hP, hD⟩⟩, hS.F ht⟩) hS.2.2 hdg hlocks
end ZN
