/-! the one list of words that every method of this claim is given -/
def zAll : List Cond := lw_tbl.filter goodWord
theorem zmem {w : Cond} (k : Nat) (h : lw_tbl[k]? = some w) (hg : goodWord w = true) : w ∈ zAll := List.mem_filter.mpr ⟨List.mem_of_getElem? h, hg⟩
theorem zAll_tbl : ∀ w ∈ zAll, w ∈ lw_tbl := fun _ h => (List.mem_filter.mp h).1
theorem zAll_good : GoodIn zAll zAll := fun w h => ⟨h, good_of_word (List.mem_filter.mp h).2⟩
theorem zAll_tgood : GoodIn lw_tbl zAll := fun w h => ⟨zAll_tbl w h, good_of_word (List.mem_filter.mp h).2⟩
def zW (y : MethodName) (b : ByteArray) (n : Nat) (r : Option FieldType) : List Cond := .code y b n r :: zAll
theorem zW_good {y : MethodName} {b : ByteArray} {n : Nat} {r : Option FieldType} (h : Cond.code y b n r ∈ zAll) : GoodIn zAll (zW y b n r) := fun w hw => by
  rcases List.mem_cons.mp hw with rfl | hw
  · exact zAll_good _ h
  · exact zAll_good _ hw
theorem zgV {own : String} {idx : Nat} {C : String} {y : MethodName} {b : ByteArray} {n : Nat} {r : Option FieldType} (h1 : Cond.methodLink own idx y ∈ zAll) (h2 : Cond.instanceMethod y ∈ zAll) (h3 : Cond.selects C y y ∈ zAll) (h4 : Cond.initialized C ∈ zAll) (h5 : Cond.code y b n r ∈ zAll) : GoodIn zAll (wsV own idx C y (zW y b n r)) := fun w hw => by
  unfold wsV at hw
  rcases List.mem_append.mp hw with hw | hw
  · simp only [List.mem_cons, List.not_mem_nil, or_false] at hw
    rcases hw with rfl | rfl | rfl | rfl
    · exact zAll_good _ h1
    · exact zAll_good _ h2
    · exact zAll_good _ h3
    · exact zAll_good _ h4
  · exact zW_good h5 w hw
theorem zgS {own : String} {idx : Nat} {y : MethodName} {b : ByteArray} {n : Nat} {r : Option FieldType} (h1 : Cond.methodLink own idx y ∈ zAll) (h2 : Cond.static y ∈ zAll) (h4 : Cond.initialized y.cls ∈ zAll) (h5 : Cond.code y b n r ∈ zAll) : GoodIn zAll (va_wsS own idx y (zW y b n r)) := fun w hw => by
  unfold va_wsS at hw
  rcases List.mem_append.mp hw with hw | hw
  · simp only [List.mem_cons, List.not_mem_nil, or_false] at hw
    rcases hw with rfl | rfl | rfl
    · exact zAll_good _ h1
    · exact zAll_good _ h2
    · exact zAll_good _ h4
  · exact zW_good h5 w hw
theorem goodIn_l (ws : List Cond) (ps : List Nat) (hp : ws = ps.filterMap (fun i => lw_tbl[i]?)) (h : ws.all goodWord = true) : ∀ w ∈ ws, w ∈ zAll := by
  intro w hw
  have h1 := List.all_eq_true.mp h w hw
  rw [hp] at hw
  obtain ⟨i, -, hi⟩ := List.mem_filterMap.mp hw
  exact zmem i hi h1
/-! calls of private methods of another class of the nest -/
def zNq : List (String × Nat × MethodName × String) := [("RectangleTree$Tree", 49, ⟨"RectangleTree", "put", "([III)V"⟩, "RectangleTree"), ("RectangleTree$Changes", 31, ⟨"RectangleTree$Walk", "<init>", "()V"⟩, "RectangleTree"), ("RectangleTree", 34, ⟨"RectangleTree$Walk", "<init>", "()V"⟩, "RectangleTree"), ("RectangleTree", 41, ⟨"RectangleTree$RectangleText", "<init>", "()V"⟩, "RectangleTree"), ("RectangleTree$Walk", 22, ⟨"RectangleTree", "put", "([III)V"⟩, "RectangleTree"), ("RectangleTree$Walk", 27, ⟨"RectangleTree", "at", "([II)I"⟩, "RectangleTree"), ("RectangleTree$Tree", 69, ⟨"RectangleTree", "at", "([II)I"⟩, "RectangleTree"), ("RectangleTree$Changes", 151, ⟨"RectangleTree", "put", "([III)V"⟩, "RectangleTree"), ("RectangleTree$Changes", 140, ⟨"RectangleTree", "at", "([II)I"⟩, "RectangleTree"), ("RectangleTree$Packing", 66, ⟨"RectangleTree", "put", "([III)V"⟩, "RectangleTree"), ("RectangleTree$Packing", 58, ⟨"RectangleTree", "at", "([II)I"⟩, "RectangleTree"), ("RectangleTree$RectangleText", 34, ⟨"RectangleTree", "put", "([III)V"⟩, "RectangleTree"), ("RectangleTree$RectangleText", 38, ⟨"RectangleTree", "at", "([II)I"⟩, "RectangleTree")]
def zNW (U : State) : Prop := ∀ q ∈ zNq, va_Nw (.methodLinkNest q.1 q.2.1 q.2.2.1 q.2.2.2) U
theorem zNW.warm {s U : State} (hW : s.WarmedH U.vm) (h : zNW s) : zNW U := fun q hq => va_Nw.warmM hW (h q hq)
theorem zNW.at {s : State} (h : zNW s) (k : Nat) {q : String × Nat × MethodName × String} (hk : zNq[k]? = some q) : va_Nw (.methodLinkNest q.1 q.2.1 q.2.2.1 q.2.2.2) s := h q (List.mem_of_getElem? hk)
/-! a method's start -/
abbrev zTy : Type := List (ClassId × FieldType)
abbrev zU : Type := Nat → Nat → Nat
def zP (D : va_G) (tys : zTy) (ws : va_W) (sz : Nat) (U : State) : Prop := U.heap.size = sz ∧ va_P D vwCl ws U.heap ∧ va_K D vwCl tys U ∧ va_D (fun _ => True) ws ∧ zNW U
theorem zP.blind {D : va_G} {tys : zTy} {ws : va_W} {sz : Nat} {av : List Value} : FrameBlind (va_Pc av (zP D tys ws sz)) := by
  intro a U g mk q
  obtain ⟨q0, q1, q2, q3, q4, q5⟩ := q
  exact ⟨q0, q1, q2, va_K.moved (u := U) (U := U.calling g mk a) (Vm.Alike.refl U.vm) q3, q4, fun x hx => va_Nw.same rfl rfl (q5 x hx)⟩
theorem zP.enter {D : va_G} {tys : zTy} {ws : va_W} {av : List Value} {s : State} {H : Heap} {A : Nat → Prop} (hP : va_P D vwCl ws H) (hK : va_K D vwCl tys s) (hD : va_D A ws) (hN : zNW s) : ∀ U : State, U.heap = H → s.WarmedH U.vm → va_Pc av (zP D tys ws H.size) av.toArray U :=
  fun U hU hW => ⟨rfl, by rw [hU], by rw [hU]; exact hP, va_K.moved hW.alike hK, hD.weaken (fun _ _ _ _ => trivial), hN.warm hW⟩
/-- all that a body knows of its frame -/
def zF (p : Program) (m : MethodId) (c : Code) (cc : ByteArray) (n : Nat) (s : State) (args : Array Value) (own : String) (meth : Method) (rt : Option FieldType) (nm : String) (A : Nat → Prop) (D : va_G) (tys : zTy) : Prop :=
  CallFix p m c cc n s args zAll own ∧ meth.sig.returnType = rt ∧ meth.locks = false ∧ meth.name = nm ∧ va_K D vwCl tys s ∧ zNW s ∧ ∀ q : Nat, s.heap.size ≤ q → A q
theorem z_ent {l : Launch} {D : va_G} {tys : zTy} {Qc : (Nat → Prop) → Array Value → State → Outcome → State → Prop} {y : MethodName} {b : ByteArray} {n : Nat} {rt : Option FieldType} {rm : Room} {mc ms : Nat} {av : List Value} {ws0 : va_W} {sz : Nat} (hy : plainName y.cls = true) (hn : (lg_sl av).length ≤ n)
    (body : ∀ (p : Program) (e : Env) (s : State) (m : MethodId) (args : Array Value) (below : List Frame) (meth : Method) (c : Code) (A : Nat → Prop) (ls : Array Slot), zF p m c b n s args y.cls meth rt y.name A D tys → va_P D vwCl ws0 s.heap → va_D A ws0 → va_S A s.heap s.heap [] → lv_has ls n (lv_args 0 av) →
      W p l e rm s m args below meth c s.heap [] 0 0 (MQ below (Qc A) args s mc ms A) (F0 m 0 ls [])) : Met l y (zW y b n rt) rm (va_Pc av (zP D tys ws0 sz)) (Qc (va_A ws0 sz)) mc ms (va_A ws0 sz) := by
  refine Met.ofW (cc := b) (maxL := n) (ret := rt) hy rfl ?_
  intro p e s m args below meth c s₁ B hml hv
  obtain ⟨rfl, hsz, hP, hK, hD0, hN⟩ := hv
  have hts := atoms_spec (ws := zW y b n rt) B.pre
  subst hsz
  have hD := hD0.self (sz := s.heap.size)
  have hl := lv_entry av (n := n) hn
  rw [lg_entry_eq]
  exact body p e s m _ below meth c _ _ ⟨⟨B.exec, B.bytes, hml, findClass_of_methodNamed B.named, fun w hw => hts w (List.mem_cons_of_mem _ hw)⟩, B.returns, B.notSynchronized, (name_of_methodNamed B.named B.method).1, hK, hN, fun q h => Or.inr h⟩ hP hD va_S.rf hl
theorem z_map {ws ws' : va_W} {is : List Nat} (hs : is.map (fun i => ws[i]?) = ws'.map some) (k : Nat) (q : Nat × va_E) (hq : ws'[k]? = some q) : ∃ i, is[k]? = some i ∧ ws[i]? = some q := by
  have h1 : (is.map (fun i => ws[i]?))[k]? = some (some q) := by rw [hs, List.getElem?_map, hq]; rfl
  rw [List.getElem?_map] at h1
  cases h2 : is[k]? with
  | none => rw [h2] at h1; cases h1
  | some i => rw [h2] at h1; exact ⟨i, rfl, Option.some.inj h1⟩
theorem z_subP {D : va_G} {ws ws' : va_W} {H : Heap} (h : va_P D vwCl ws H) (is : List Nat) (hs : is.map (fun i => ws[i]?) = ws'.map some) : va_P D vwCl ws' H := fun k q hq => by
  obtain ⟨i, -, hi⟩ := z_map hs k q hq
  exact h i q hi
section ZR
variable {p : Program} {l : Launch} {e : Env} {R : Room} {s : State} {m : MethodId} {args : Array Value} {below : List Frame} {meth : Method} {c : Code} {H : Heap} {locs : List Loc} {cells slots : Nat} {Q : State → Prop}
variable {cc : ByteArray} {pc : Nat} {ls : Array Slot} {rest : List Value} {D : va_G} {A : Nat → Prop} {a : Nat} {tys : zTy} {ws : va_W} {H0 : Heap}
theorem z_iadd (hx : p.tables.exec = Jvm.exec) (hb : c.code = cc) {x y : Int} (hdg : decode cc pc = .ok (.iadd, 1))
    (k : W p l e R s m args below meth c H locs cells slots Q (F0 m (pc + 1) ls (vI (x + y) :: rest))) : W p l e R s m args below meth c H locs cells slots Q (F0 m pc ls (vI y :: vI x :: rest)) :=
  lv_iadd hx hb hdg (by rw [← Int32.ofInt_add]; exact k)
theorem z_isub (hx : p.tables.exec = Jvm.exec) (hb : c.code = cc) {x y : Int} (hdg : decode cc pc = .ok (.isub, 1))
    (k : W p l e R s m args below meth c H locs cells slots Q (F0 m (pc + 1) ls (vI (x - y) :: rest))) : W p l e R s m args below meth c H locs cells slots Q (F0 m pc ls (vI y :: vI x :: rest)) :=
  lv_isub hx hb hdg (by rw [← Int32.ofInt_sub]; exact k)
theorem z_imul (hx : p.tables.exec = Jvm.exec) (hb : c.code = cc) {x y : Int} (hdg : decode cc pc = .ok (.imul, 1))
    (k : W p l e R s m args below meth c H locs cells slots Q (F0 m (pc + 1) ls (vI (x * y) :: rest))) : W p l e R s m args below meth c H locs cells slots Q (F0 m pc ls (vI y :: vI x :: rest)) :=
  lv_imul hx hb hdg (by rw [← Int32.ofInt_mul]; exact k)
theorem z_ineg (hx : p.tables.exec = Jvm.exec) (hb : c.code = cc) {x : Int} (hdg : decode cc pc = .ok (.ineg, 1))
    (k : W p l e R s m args below meth c H locs cells slots Q (F0 m (pc + 1) ls (vI (-x) :: rest))) : W p l e R s m args below meth c H locs cells slots Q (F0 m pc ls (vI x :: rest)) :=
  lv_ineg hx hb hdg (by rw [← Int32.ofInt_neg]; exact k)
theorem z_top {x x' : Int} (h : x = x') (k : W p l e R s m args below meth c H locs cells slots Q (F0 m pc ls (vI x' :: rest))) : W p l e R s m args below meth c H locs cells slots Q (F0 m pc ls (vI x :: rest)) := by subst h; exact k
theorem z_div_eq {x y : Int} (h0 : 0 ≤ x) (h1 : x ≤ 2147483647) (h2 : 0 < y) (h3 : y ≤ 2147483647) : Int32.ofInt x / Int32.ofInt y = Int32.ofInt (x / y) ∧ Int32.ofInt x - Int32.ofInt x / Int32.ofInt y * Int32.ofInt y = Int32.ofInt (x % y) ∧ ¬ Int32.ofInt y = 0 := by
  obtain ⟨a, rfl⟩ := Int.eq_ofNat_of_zero_le h0
  obtain ⟨b, rfl⟩ := Int.eq_ofNat_of_zero_le (Int.le_of_lt h2)
  rw [← ofInt_nat, ← ofInt_nat]
  have e1 : ((a : Int) / (b : Int)) = ((a / b : Nat) : Int) := rfl
  have e2 : ((a : Int) % (b : Int)) = ((a % b : Nat) : Int) := rfl
  rw [e1, e2, ← ofInt_nat, ← ofInt_nat]
  exact ⟨pk_div (by omega) (by omega) (by omega), pk_rem (by omega) (by omega) (by omega), nI_ne0 (by omega) (by omega)⟩
theorem z_idiv (hx : p.tables.exec = Jvm.exec) (hb : c.code = cc) {x y : Int} (h0 : (0 ≤ x ∧ x ≤ 2147483647) ∧ 0 < y ∧ y ≤ 2147483647) (hdg : decode cc pc = .ok (.idiv, 1))
    (k : W p l e R s m args below meth c H locs cells slots Q (F0 m (pc + 1) ls (vI (x / y) :: rest))) : W p l e R s m args below meth c H locs cells slots Q (F0 m pc ls (vI y :: vI x :: rest)) := by
  obtain ⟨e1, e2, e3⟩ := z_div_eq h0.1.1 h0.1.2 h0.2.1 h0.2.2
  exact lv_idiv hx hb hdg e3 (by rw [e1]; exact k)
theorem z_irem (hx : p.tables.exec = Jvm.exec) (hb : c.code = cc) {x y : Int} (h0 : (0 ≤ x ∧ x ≤ 2147483647) ∧ 0 < y ∧ y ≤ 2147483647) (hdg : decode cc pc = .ok (.irem, 1))
    (k : W p l e R s m args below meth c H locs cells slots Q (F0 m (pc + 1) ls (vI (x % y) :: rest))) : W p l e R s m args below meth c H locs cells slots Q (F0 m pc ls (vI y :: vI x :: rest)) := by
  obtain ⟨e1, e2, e3⟩ := z_div_eq h0.1.1 h0.1.2 h0.2.1 h0.2.2
  exact lv_irem hx hb hdg e3 (by rw [e2]; exact k)
theorem z_if_eq (hx : p.tables.exec = Jvm.exec) (hb : c.code = cc) {x : Int} (gx : ck x) {off : Int} {tgt : Nat} (hdg : decode cc pc = .ok (.ifCond .eq off, 3)) (ht : (pc : Int) + off = (tgt : Int))
    (kt : x = 0 → W p l e R s m args below meth c H locs cells slots Q (F0 m tgt ls rest)) (kf : ¬ x = 0 → W p l e R s m args below meth c H locs cells slots Q (F0 m (pc + 3) ls rest)) : W p l e R s m args below meth c H locs cells slots Q (F0 m pc ls (vI x :: rest)) :=
  lv_if_eq hx hb hdg ht (fun h => kt ((ck_eq gx ck_0).mp h)) (fun h => kf (fun q => h ((ck_eq gx ck_0).mpr q)))
theorem z_if_ne (hx : p.tables.exec = Jvm.exec) (hb : c.code = cc) {x : Int} (gx : ck x) {off : Int} {tgt : Nat} (hdg : decode cc pc = .ok (.ifCond .ne off, 3)) (ht : (pc : Int) + off = (tgt : Int))
    (kt : ¬ x = 0 → W p l e R s m args below meth c H locs cells slots Q (F0 m tgt ls rest)) (kf : x = 0 → W p l e R s m args below meth c H locs cells slots Q (F0 m (pc + 3) ls rest)) : W p l e R s m args below meth c H locs cells slots Q (F0 m pc ls (vI x :: rest)) :=
  lv_if_ne hx hb hdg ht (fun h => kt (fun q => h ((ck_eq gx ck_0).mpr q))) (fun h => kf ((ck_eq gx ck_0).mp h))
theorem z_if_lt (hx : p.tables.exec = Jvm.exec) (hb : c.code = cc) {x : Int} (gx : ck x) {off : Int} {tgt : Nat} (hdg : decode cc pc = .ok (.ifCond .lt off, 3)) (ht : (pc : Int) + off = (tgt : Int))
    (kt : x < 0 → W p l e R s m args below meth c H locs cells slots Q (F0 m tgt ls rest)) (kf : ¬ x < 0 → W p l e R s m args below meth c H locs cells slots Q (F0 m (pc + 3) ls rest)) : W p l e R s m args below meth c H locs cells slots Q (F0 m pc ls (vI x :: rest)) :=
  lv_if_lt hx hb hdg ht (fun h => kt ((ck_lt gx ck_0).mp h)) (fun h => kf (fun q => h ((ck_lt gx ck_0).mpr q)))
theorem z_if_ge (hx : p.tables.exec = Jvm.exec) (hb : c.code = cc) {x : Int} (gx : ck x) {off : Int} {tgt : Nat} (hdg : decode cc pc = .ok (.ifCond .ge off, 3)) (ht : (pc : Int) + off = (tgt : Int))
    (kt : ¬ x < 0 → W p l e R s m args below meth c H locs cells slots Q (F0 m tgt ls rest)) (kf : x < 0 → W p l e R s m args below meth c H locs cells slots Q (F0 m (pc + 3) ls rest)) : W p l e R s m args below meth c H locs cells slots Q (F0 m pc ls (vI x :: rest)) :=
  lv_if_ge hx hb hdg ht (fun h => kt (Int.not_lt.mpr ((ck_le ck_0 gx).mp h))) (fun h => kf (Int.not_le.mp (fun q => h ((ck_le ck_0 gx).mpr q))))
theorem z_if_gt (hx : p.tables.exec = Jvm.exec) (hb : c.code = cc) {x : Int} (gx : ck x) {off : Int} {tgt : Nat} (hdg : decode cc pc = .ok (.ifCond .gt off, 3)) (ht : (pc : Int) + off = (tgt : Int))
    (kt : 0 < x → W p l e R s m args below meth c H locs cells slots Q (F0 m tgt ls rest)) (kf : ¬ 0 < x → W p l e R s m args below meth c H locs cells slots Q (F0 m (pc + 3) ls rest)) : W p l e R s m args below meth c H locs cells slots Q (F0 m pc ls (vI x :: rest)) :=
  lv_if_gt hx hb hdg ht (fun h => kt ((ck_lt ck_0 gx).mp h)) (fun h => kf (fun q => h ((ck_lt ck_0 gx).mpr q)))
theorem z_if_le (hx : p.tables.exec = Jvm.exec) (hb : c.code = cc) {x : Int} (gx : ck x) {off : Int} {tgt : Nat} (hdg : decode cc pc = .ok (.ifCond .le off, 3)) (ht : (pc : Int) + off = (tgt : Int))
    (kt : ¬ 0 < x → W p l e R s m args below meth c H locs cells slots Q (F0 m tgt ls rest)) (kf : 0 < x → W p l e R s m args below meth c H locs cells slots Q (F0 m (pc + 3) ls rest)) : W p l e R s m args below meth c H locs cells slots Q (F0 m pc ls (vI x :: rest)) :=
  lv_if_le hx hb hdg ht (fun h => kt (Int.not_lt.mpr ((ck_le gx ck_0).mp h))) (fun h => kf (Int.not_le.mp (fun q => h ((ck_le gx ck_0).mpr q))))
theorem z_icmp_eq (hx : p.tables.exec = Jvm.exec) (hb : c.code = cc) {x y : Int} (gx : ck x) (gy : ck y) {off : Int} {tgt : Nat} (hdg : decode cc pc = .ok (.if_icmp .eq off, 3)) (ht : (pc : Int) + off = (tgt : Int))
    (kt : x = y → W p l e R s m args below meth c H locs cells slots Q (F0 m tgt ls rest)) (kf : ¬ x = y → W p l e R s m args below meth c H locs cells slots Q (F0 m (pc + 3) ls rest)) : W p l e R s m args below meth c H locs cells slots Q (F0 m pc ls (vI y :: vI x :: rest)) :=
  lv_icmp_eq hx hb hdg ht (fun h => kt ((ck_eq gx gy).mp h)) (fun h => kf (fun q => h ((ck_eq gx gy).mpr q)))
theorem z_icmp_ne (hx : p.tables.exec = Jvm.exec) (hb : c.code = cc) {x y : Int} (gx : ck x) (gy : ck y) {off : Int} {tgt : Nat} (hdg : decode cc pc = .ok (.if_icmp .ne off, 3)) (ht : (pc : Int) + off = (tgt : Int))
    (kt : ¬ x = y → W p l e R s m args below meth c H locs cells slots Q (F0 m tgt ls rest)) (kf : x = y → W p l e R s m args below meth c H locs cells slots Q (F0 m (pc + 3) ls rest)) : W p l e R s m args below meth c H locs cells slots Q (F0 m pc ls (vI y :: vI x :: rest)) :=
  lv_icmp_ne hx hb hdg ht (fun h => kt (fun q => h ((ck_eq gx gy).mpr q))) (fun h => kf ((ck_eq gx gy).mp h))
theorem z_icmp_lt (hx : p.tables.exec = Jvm.exec) (hb : c.code = cc) {x y : Int} (gx : ck x) (gy : ck y) {off : Int} {tgt : Nat} (hdg : decode cc pc = .ok (.if_icmp .lt off, 3)) (ht : (pc : Int) + off = (tgt : Int))
    (kt : x < y → W p l e R s m args below meth c H locs cells slots Q (F0 m tgt ls rest)) (kf : ¬ x < y → W p l e R s m args below meth c H locs cells slots Q (F0 m (pc + 3) ls rest)) : W p l e R s m args below meth c H locs cells slots Q (F0 m pc ls (vI y :: vI x :: rest)) :=
  lv_icmp_lt hx hb hdg ht (fun h => kt ((ck_lt gx gy).mp h)) (fun h => kf (fun q => h ((ck_lt gx gy).mpr q)))
theorem z_icmp_ge (hx : p.tables.exec = Jvm.exec) (hb : c.code = cc) {x y : Int} (gx : ck x) (gy : ck y) {off : Int} {tgt : Nat} (hdg : decode cc pc = .ok (.if_icmp .ge off, 3)) (ht : (pc : Int) + off = (tgt : Int))
    (kt : ¬ x < y → W p l e R s m args below meth c H locs cells slots Q (F0 m tgt ls rest)) (kf : x < y → W p l e R s m args below meth c H locs cells slots Q (F0 m (pc + 3) ls rest)) : W p l e R s m args below meth c H locs cells slots Q (F0 m pc ls (vI y :: vI x :: rest)) :=
  lv_icmp_ge hx hb hdg ht (fun h => kt (Int.not_lt.mpr ((ck_le gy gx).mp h))) (fun h => kf (Int.not_le.mp (fun q => h ((ck_le gy gx).mpr q))))
theorem z_icmp_gt (hx : p.tables.exec = Jvm.exec) (hb : c.code = cc) {x y : Int} (gx : ck x) (gy : ck y) {off : Int} {tgt : Nat} (hdg : decode cc pc = .ok (.if_icmp .gt off, 3)) (ht : (pc : Int) + off = (tgt : Int))
    (kt : y < x → W p l e R s m args below meth c H locs cells slots Q (F0 m tgt ls rest)) (kf : ¬ y < x → W p l e R s m args below meth c H locs cells slots Q (F0 m (pc + 3) ls rest)) : W p l e R s m args below meth c H locs cells slots Q (F0 m pc ls (vI y :: vI x :: rest)) :=
  lv_icmp_gt hx hb hdg ht (fun h => kt ((ck_lt gy gx).mp h)) (fun h => kf (fun q => h ((ck_lt gy gx).mpr q)))
theorem z_icmp_le (hx : p.tables.exec = Jvm.exec) (hb : c.code = cc) {x y : Int} (gx : ck x) (gy : ck y) {off : Int} {tgt : Nat} (hdg : decode cc pc = .ok (.if_icmp .le off, 3)) (ht : (pc : Int) + off = (tgt : Int))
    (kt : ¬ y < x → W p l e R s m args below meth c H locs cells slots Q (F0 m tgt ls rest)) (kf : y < x → W p l e R s m args below meth c H locs cells slots Q (F0 m (pc + 3) ls rest)) : W p l e R s m args below meth c H locs cells slots Q (F0 m pc ls (vI y :: vI x :: rest)) :=
  lv_icmp_le hx hb hdg ht (fun h => kt (Int.not_lt.mpr ((ck_le gx gy).mp h))) (fun h => kf (Int.not_le.mp (fun q => h ((ck_le gx gy).mpr q))))
theorem z_iald (hx : p.tables.exec = Jvm.exec) (hb : c.code = cc) (hK : va_K D vwCl tys s) (hP : va_P D vwCl ws H) (q0 : Nat) {cA : ClassId} {n : Nat} {f : Nat → Int} (ha : ws[q0]? = some (a, .inl (cA, n, .inl (ia f)))) (ht : tys[0]? = some (cA, .int)) {i : Int} (h0 : 0 ≤ i ∧ i < (n : Int)) (h1 : i ≤ 2147483647) (hdg : decode cc pc = .ok (.iaload, 1))
    (k : W p l e R s m args below meth c H locs cells slots Q (F0 m (pc + 1) ls (vI (f i.toNat) :: rest))) : W p l e R s m args below meth c H locs cells slots Q (F0 m pc ls (vI i :: .ref a :: rest)) :=
  va_iald hx hb hK hP q0 0 ha ht (ck_in h0.1 h1 h0.2) hdg (by rw [ck_nat h0.1 h1]; exact k)
theorem z_zald (hx : p.tables.exec = Jvm.exec) (hb : c.code = cc) (hK : va_K D vwCl tys s) (hP : va_P D vwCl ws H) (q0 : Nat) {cA : ClassId} {n : Nat} {f : Nat → Int} (ha : ws[q0]? = some (a, .inl (cA, n, .inl (ia f)))) (ht : tys[1]? = some (cA, .boolean)) {i : Int} (h0 : 0 ≤ i ∧ i < (n : Int)) (h1 : i ≤ 2147483647) (hdg : decode cc pc = .ok (.baload, 1))
    (k : W p l e R s m args below meth c H locs cells slots Q (F0 m (pc + 1) ls (vI (f i.toNat) :: rest))) : W p l e R s m args below meth c H locs cells slots Q (F0 m pc ls (vI i :: .ref a :: rest)) :=
  va_zald hx hb hK hP q0 1 ha ht (ck_in h0.1 h1 h0.2) hdg (by rw [ck_nat h0.1 h1]; exact k)
theorem z_iast (hx : p.tables.exec = Jvm.exec) (hb : c.code = cc) (hK : va_K D vwCl tys s) (hP : va_P D vwCl ws H) (hD : va_D A ws) (hS : va_S A H0 H locs) (q0 : Nat) {cA : ClassId} {n : Nat} {f : Nat → Int} (ha : ws[q0]? = some (a, .inl (cA, n, .inl (ia f)))) (ht : tys[0]? = some (cA, .int)) {i x : Int} (h0 : 0 ≤ i ∧ i < (n : Int)) (h1 : i ≤ 2147483647) (hdg : decode cc pc = .ok (.iastore, 1)) {ws' : va_W} (hw : ws.set q0 (a, .inl (cA, n, .inl (ia (up f i.toNat x)))) = ws')
    (kk : ∀ (H1 : Heap) (locs1 : List Loc), va_P D vwCl ws' H1 → va_D A ws' → va_S A H0 H1 locs1 → W p l e R s m args below meth c H1 locs1 cells slots Q (F0 m (pc + 1) ls rest)) : W p l e R s m args below meth c H locs cells slots Q (F0 m pc ls (vI x :: vI i :: .ref a :: rest)) := by
  subst hw
  refine va_iast hx hb hK hP hD hS q0 0 ha ht (ck_in h0.1 h1 h0.2) hdg ?_
  rw [ck_nat h0.1 h1, ia_up]
  exact kk
theorem z_zast (hx : p.tables.exec = Jvm.exec) (hb : c.code = cc) (hK : va_K D vwCl tys s) (hP : va_P D vwCl ws H) (hD : va_D A ws) (hS : va_S A H0 H locs) (q0 : Nat) {cA : ClassId} {n : Nat} {f : Nat → Int} (ha : ws[q0]? = some (a, .inl (cA, n, .inl (ia f)))) (ht : tys[1]? = some (cA, .boolean)) {i x : Int} (h0 : 0 ≤ i ∧ i < (n : Int)) (h1 : i ≤ 2147483647) (hz : vp_nar .boolean (Int32.ofInt x) = Int32.ofInt x) (hdg : decode cc pc = .ok (.bastore, 1)) {ws' : va_W} (hw : ws.set q0 (a, .inl (cA, n, .inl (ia (up f i.toNat x)))) = ws')
    (kk : ∀ (H1 : Heap) (locs1 : List Loc), va_P D vwCl ws' H1 → va_D A ws' → va_S A H0 H1 locs1 → W p l e R s m args below meth c H1 locs1 cells slots Q (F0 m (pc + 1) ls rest)) : W p l e R s m args below meth c H locs cells slots Q (F0 m pc ls (vI x :: vI i :: .ref a :: rest)) := by
  subst hw
  refine va_zast hx hb hK hP hD hS q0 1 ha ht (ck_in h0.1 h1 h0.2) hdg ?_
  rw [hz, ck_nat h0.1 h1, ia_up]
  exact kk
theorem z_alen (hx : p.tables.exec = Jvm.exec) (hb : c.code = cc) (hK : va_K D vwCl tys s) (hP : va_P D vwCl ws H) (q0 : Nat) {cA : ClassId} {n : Nat} {f : Nat → Int} (ha : ws[q0]? = some (a, .inl (cA, n, .inl (ia f)))) (ht : tys[0]? = some (cA, .int)) (hdg : decode cc pc = .ok (.arraylength, 1))
    (k : W p l e R s m args below meth c H locs cells slots Q (F0 m (pc + 1) ls (vI (n : Int) :: rest))) : W p l e R s m args below meth c H locs cells slots Q (F0 m pc ls (.ref a :: rest)) :=
  va_alen hx hb hK hP q0 0 ha ht (ofInt_nat n) hdg k
/-! calls: the callee's cells out (places isC), the rest (isR) beside what came back; then in the order of perm -/
theorem z_goi {mc ms : Nat} {st0 : List Value} {av : Array Value} {wc wr ws' : va_W} {w1 : zU → va_W} {wn : zU → va_W} {ret : Int} (hr : va_Run p l e R s m args below meth c H locs cells slots mc ms (F0 m pc ls st0) rest (va_Qi (fun (r : Int32) (_ : zU) => r = Int32.ofInt ret) (fun u t => va_P D vwCl (w1 u) t.heap ∧ va_D (va_A wc H.size) (w1 u)) (va_A wc H.size) av) (va_A wc H.size))
    (hP : va_P D vwCl ws H) (hD : va_D A ws) (hS : va_S A H0 H locs) (hA : ∀ q, H0.size ≤ q → A q) (isC isR perm : List Nat) (hC : isC.map (fun i => ws[i]?) = wc.map some) (hR : isR.map (fun i => ws[i]?) = wr.map some) (hn : (va_nd isR && (isR.all (fun i => !isC.contains i) && va_nd perm)) = true) (hp : ∀ u, perm.map (fun i => (wr ++ w1 u)[i]?) = (wn u).map some)
    (kk : ∀ (u : zU) (H1 : Heap) (locs1 : List Loc), va_P D vwCl (wn u) H1 → va_D A (wn u) → va_S A H0 H1 locs1 → H.size ≤ H1.size → W p l e R s m args below meth c H1 locs1 (cells + mc) (slots + ms) Q (F0 m (pc + 3) ls (vI ret :: rest))) : W p l e R s m args below meth c H locs cells slots Q (F0 m pc ls st0) := by
  simp only [Bool.and_eq_true, List.all_eq_true, Bool.not_eq_true', List.contains_iff_mem, decide_eq_true_eq] at hn
  obtain ⟨hn1, hn2, hn3⟩ := hn
  have hFc := va_free (wc := wc) hD hS hA isC hC
  refine va_calli hr hS (fun q _ h => hFc q h) hFc (fun r u t H1 locs1 ht hvm hw hB hz hk hS1 => ?_)
  obtain ⟨hP1, hD1⟩ := hB
  rw [ht] at hP1
  subst hw
  obtain ⟨hP2, hD2⟩ := va_join hP hD isC isR hC hR hn1 (fun i hi => by have := hn2 i hi; simpa using this) hk hFc hP1 hD1
  exact kk u H1 locs1 (z_subP hP2 perm (hp u)) (hD2.sub perm hn3 (hp u)) hS1 hz
end ZR
