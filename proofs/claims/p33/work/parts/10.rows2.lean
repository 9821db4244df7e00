/-! contracts of this claim's form, their ends, calls without an answer -/
abbrev zt (cI cZ cT : ClassId) : zTy := [(cI, .int), (cZ, .int), (cT, .object "RectangleTree$Tree")]
abbrev zQi (D : va_G) (ret : Int) (w1 : zU → va_W) (A : Nat → Prop) : Array Value → State → Outcome → State → Prop := va_Qi (S := zU) (fun (r : Int32) (_ : zU) => r = Int32.ofInt ret) (fun u t => va_P D vwCl (w1 u) t.heap ∧ va_D A (w1 u)) A
abbrev zQv (D : va_G) (w1 : zU → va_W) (A : Nat → Prop) : Array Value → State → Outcome → State → Prop := va_Qv (S := zU) (fun (_ : zU) => True) (fun u t => va_P D vwCl (w1 u) t.heap ∧ va_D A (w1 u)) A
abbrev zMi (l : Launch) (y : MethodName) (b : ByteArray) (n : Nat) (rm : Room) (D : va_G) (tys : zTy) (av : List Value) (ws0 : va_W) (sz : Nat) (ret : Int) (w1 : zU → va_W) (mc ms : Nat) : Prop := Met l y (zW y b n (some .int)) rm (va_Pc av (zP D tys ws0 sz)) (zQi D ret w1 (va_A ws0 sz)) mc ms (va_A ws0 sz)
abbrev zMz (l : Launch) (y : MethodName) (b : ByteArray) (n : Nat) (rm : Room) (D : va_G) (tys : zTy) (av : List Value) (ws0 : va_W) (sz : Nat) (ret : Int) (w1 : zU → va_W) (mc ms : Nat) : Prop := Met l y (zW y b n (some .boolean)) rm (va_Pc av (zP D tys ws0 sz)) (zQi D ret w1 (va_A ws0 sz)) mc ms (va_A ws0 sz)
abbrev zMv (l : Launch) (y : MethodName) (b : ByteArray) (n : Nat) (rm : Room) (D : va_G) (tys : zTy) (av : List Value) (ws0 : va_W) (sz : Nat) (w1 : zU → va_W) (mc ms : Nat) : Prop := Met l y (zW y b n none) rm (va_Pc av (zP D tys ws0 sz)) (zQv D w1 (va_A ws0 sz)) mc ms (va_A ws0 sz)
section ZE
variable {p : Program} {l : Launch} {e : Env} {R : Room} {s : State} {m : MethodId} {args : Array Value} {below : List Frame} {meth : Method} {c : Code} {H : Heap} {locs : List Loc} {cells slots : Nat} {Q : State → Prop}
variable {cc : ByteArray} {pc : Nat} {ls : Array Slot} {rest : List Value} {D : va_G} {A : Nat → Prop} {a : Nat} {tys : zTy} {ws : va_W} {H0 : Heap}
theorem z_iret (hx : p.tables.exec = Jvm.exec) (hb : c.code = cc) (hr : meth.sig.returnType = some .int) (hlocks : meth.locks = false) {ret : Int} {w1 : zU → va_W} (u : zU) (hP : va_P D vwCl (w1 u) H) (hD : va_D A (w1 u)) (hS : va_S A s.heap H locs) (hdg : decode cc pc = .ok (.ireturn, 1)) : W p l e R s m args below meth c H locs cells slots (MQ below (zQi D ret w1 A) args s cells slots A) (F0 m pc ls [vI ret]) :=
  W.iret (v := Int32.ofInt ret) hx hb hr (fun t ht _ => ⟨⟨_, u, rfl, rfl, by show va_P D vwCl (w1 u) t.heap ∧ va_D A (w1 u); rw [ht]; exact ⟨hP, hD⟩⟩, hS.F ht⟩) hS.2.2 hdg hlocks
theorem z_zret (hx : p.tables.exec = Jvm.exec) (hb : c.code = cc) (hr : meth.sig.returnType = some .boolean) (hlocks : meth.locks = false) {ret : Int} {w1 : zU → va_W} (hn : narrow .boolean (.int (Int32.ofInt ret)) = .int (Int32.ofInt ret)) (u : zU) (hP : va_P D vwCl (w1 u) H) (hD : va_D A (w1 u)) (hS : va_S A s.heap H locs) (hdg : decode cc pc = .ok (.ireturn, 1)) : W p l e R s m args below meth c H locs cells slots (MQ below (zQi D ret w1 A) args s cells slots A) (F0 m pc ls [vI ret]) :=
  W.zret (v := Int32.ofInt ret) hx hb hr hn (fun t ht _ => ⟨⟨_, u, rfl, rfl, by show va_P D vwCl (w1 u) t.heap ∧ va_D A (w1 u); rw [ht]; exact ⟨hP, hD⟩⟩, hS.F ht⟩) hS.2.2 hdg hlocks
theorem z_vret (hx : p.tables.exec = Jvm.exec) (hb : c.code = cc) (hr : meth.sig.returnType = none) (hlocks : meth.locks = false) {w1 : zU → va_W} (u : zU) (hP : va_P D vwCl (w1 u) H) (hD : va_D A (w1 u)) (hS : va_S A s.heap H locs) (hdg : decode cc pc = .ok (.return_, 1)) : W p l e R s m args below meth c H locs cells slots (MQ below (zQv D w1 A) args s cells slots A) (F0 m pc ls []) :=
  W.vret hx hb hr (fun t ht _ => ⟨⟨u, rfl, trivial, by show va_P D vwCl (w1 u) t.heap ∧ va_D A (w1 u); rw [ht]; exact ⟨hP, hD⟩⟩, hS.F ht⟩) hS.2.2 hdg hlocks
theorem z_gov {mc ms : Nat} {st0 : List Value} {av : Array Value} {wc wr : va_W} {w1 : zU → va_W} {wn : zU → va_W} (hr : va_Run p l e R s m args below meth c H locs cells slots mc ms (F0 m pc ls st0) rest (zQv D w1 (va_A wc H.size) av) (va_A wc H.size))
    (hP : va_P D vwCl ws H) (hD : va_D A ws) (hS : va_S A H0 H locs) (hA : ∀ q, H0.size ≤ q → A q) (isC isR perm : List Nat) (hC : isC.map (fun i => ws[i]?) = wc.map some) (hR : isR.map (fun i => ws[i]?) = wr.map some) (hn : (va_nd isR && (isR.all (fun i => !isC.contains i) && va_nd perm)) = true) (hp : ∀ u, perm.map (fun i => (wr ++ w1 u)[i]?) = (wn u).map some)
    (kk : ∀ (u : zU) (H1 : Heap) (locs1 : List Loc), va_P D vwCl (wn u) H1 → va_D A (wn u) → va_S A H0 H1 locs1 → H.size ≤ H1.size → W p l e R s m args below meth c H1 locs1 (cells + mc) (slots + ms) Q (F0 m (pc + 3) ls rest)) : W p l e R s m args below meth c H locs cells slots Q (F0 m pc ls st0) := by
  simp only [Bool.and_eq_true, List.all_eq_true, Bool.not_eq_true', List.contains_iff_mem, decide_eq_true_eq] at hn
  obtain ⟨hn1, hn2, hn3⟩ := hn
  have hFc := va_free (wc := wc) hD hS hA isC hC
  refine va_callv hr hS (fun q _ h => hFc q h) hFc (fun u t H1 locs1 ht hvm hw hB hz hk hS1 => ?_)
  obtain ⟨hP1, hD1⟩ := hB
  rw [ht] at hP1
  obtain ⟨hP2, hD2⟩ := va_join hP hD isC isR hC hR hn1 (fun i hi => by have := hn2 i hi; simpa using this) hk hFc hP1 hD1
  exact kk u H1 locs1 (z_subP hP2 perm (hp u)) (hD2.sub perm hn3 (hp u)) hS1 hz
end ZE
/-! states: a tree, a walk; their worlds -/
abbrev TV : Type := (Nat → Int) × (Nat → Int) × (Nat → Int) × (Nat → Int) × (Nat → Int) × Nat × Int × Int × Int × Int × Int
abbrev KV : Type := (Nat → Int) × (Nat → Int) × Int × Nat
abbrev tLev (T : TV) : (Nat → Int) := T.1
abbrev tHol (T : TV) : (Nat → Int) := T.2.1
abbrev tSiz (T : TV) : (Nat → Int) := T.2.2.1
abbrev tCor (T : TV) : (Nat → Int) := T.2.2.2.1
abbrev tLis (T : TV) : (Nat → Int) := T.2.2.2.2.1
abbrev tR (T : TV) : Nat := T.2.2.2.2.2.1
abbrev tRoot (T : TV) : Int := T.2.2.2.2.2.2.1
abbrev tCap (T : TV) : Int := T.2.2.2.2.2.2.2.1
abbrev tRei (T : TV) : Int := T.2.2.2.2.2.2.2.2.1
abbrev tSpl (T : TV) : Int := T.2.2.2.2.2.2.2.2.2.1
abbrev tRec (T : TV) : Int := T.2.2.2.2.2.2.2.2.2.2
abbrev sLev (T : TV) (x : (Nat → Int)) : TV := (x, T.2.1, T.2.2.1, T.2.2.2.1, T.2.2.2.2.1, T.2.2.2.2.2.1, T.2.2.2.2.2.2.1, T.2.2.2.2.2.2.2.1, T.2.2.2.2.2.2.2.2.1, T.2.2.2.2.2.2.2.2.2.1, T.2.2.2.2.2.2.2.2.2.2)
abbrev sHol (T : TV) (x : (Nat → Int)) : TV := (T.1, x, T.2.2.1, T.2.2.2.1, T.2.2.2.2.1, T.2.2.2.2.2.1, T.2.2.2.2.2.2.1, T.2.2.2.2.2.2.2.1, T.2.2.2.2.2.2.2.2.1, T.2.2.2.2.2.2.2.2.2.1, T.2.2.2.2.2.2.2.2.2.2)
abbrev sSiz (T : TV) (x : (Nat → Int)) : TV := (T.1, T.2.1, x, T.2.2.2.1, T.2.2.2.2.1, T.2.2.2.2.2.1, T.2.2.2.2.2.2.1, T.2.2.2.2.2.2.2.1, T.2.2.2.2.2.2.2.2.1, T.2.2.2.2.2.2.2.2.2.1, T.2.2.2.2.2.2.2.2.2.2)
abbrev sCor (T : TV) (x : (Nat → Int)) : TV := (T.1, T.2.1, T.2.2.1, x, T.2.2.2.2.1, T.2.2.2.2.2.1, T.2.2.2.2.2.2.1, T.2.2.2.2.2.2.2.1, T.2.2.2.2.2.2.2.2.1, T.2.2.2.2.2.2.2.2.2.1, T.2.2.2.2.2.2.2.2.2.2)
abbrev sLis (T : TV) (x : (Nat → Int)) : TV := (T.1, T.2.1, T.2.2.1, T.2.2.2.1, x, T.2.2.2.2.2.1, T.2.2.2.2.2.2.1, T.2.2.2.2.2.2.2.1, T.2.2.2.2.2.2.2.2.1, T.2.2.2.2.2.2.2.2.2.1, T.2.2.2.2.2.2.2.2.2.2)
abbrev sR (T : TV) (x : Nat) : TV := (T.1, T.2.1, T.2.2.1, T.2.2.2.1, T.2.2.2.2.1, x, T.2.2.2.2.2.2.1, T.2.2.2.2.2.2.2.1, T.2.2.2.2.2.2.2.2.1, T.2.2.2.2.2.2.2.2.2.1, T.2.2.2.2.2.2.2.2.2.2)
abbrev sRoot (T : TV) (x : Int) : TV := (T.1, T.2.1, T.2.2.1, T.2.2.2.1, T.2.2.2.2.1, T.2.2.2.2.2.1, x, T.2.2.2.2.2.2.2.1, T.2.2.2.2.2.2.2.2.1, T.2.2.2.2.2.2.2.2.2.1, T.2.2.2.2.2.2.2.2.2.2)
abbrev sCap (T : TV) (x : Int) : TV := (T.1, T.2.1, T.2.2.1, T.2.2.2.1, T.2.2.2.2.1, T.2.2.2.2.2.1, T.2.2.2.2.2.2.1, x, T.2.2.2.2.2.2.2.2.1, T.2.2.2.2.2.2.2.2.2.1, T.2.2.2.2.2.2.2.2.2.2)
abbrev sRei (T : TV) (x : Int) : TV := (T.1, T.2.1, T.2.2.1, T.2.2.2.1, T.2.2.2.2.1, T.2.2.2.2.2.1, T.2.2.2.2.2.2.1, T.2.2.2.2.2.2.2.1, x, T.2.2.2.2.2.2.2.2.2.1, T.2.2.2.2.2.2.2.2.2.2)
abbrev sSpl (T : TV) (x : Int) : TV := (T.1, T.2.1, T.2.2.1, T.2.2.2.1, T.2.2.2.2.1, T.2.2.2.2.2.1, T.2.2.2.2.2.2.1, T.2.2.2.2.2.2.2.1, T.2.2.2.2.2.2.2.2.1, x, T.2.2.2.2.2.2.2.2.2.2)
abbrev sRec (T : TV) (x : Int) : TV := (T.1, T.2.1, T.2.2.1, T.2.2.2.1, T.2.2.2.2.1, T.2.2.2.2.2.1, T.2.2.2.2.2.2.1, T.2.2.2.2.2.2.2.1, T.2.2.2.2.2.2.2.2.1, T.2.2.2.2.2.2.2.2.2.1, x)
abbrev kItm (K : KV) : (Nat → Int) := K.1
abbrev kPen (K : KV) : (Nat → Int) := K.2.1
abbrev kCnt (K : KV) : Int := K.2.2.1
abbrev kLen (K : KV) : Nat := K.2.2.2
abbrev skItm (K : KV) (x : (Nat → Int)) : KV := (x, K.2.1, K.2.2.1, K.2.2.2)
abbrev skPen (K : KV) (x : (Nat → Int)) : KV := (K.1, x, K.2.2.1, K.2.2.2)
abbrev skCnt (K : KV) (x : Int) : KV := (K.1, K.2.1, x, K.2.2.2)
abbrev skLen (K : KV) (x : Nat) : KV := (K.1, K.2.1, K.2.2.1, x)
abbrev zTr (cI : ClassId) (h : Nat) (q : Nat → Nat) (T : TV) : va_W := [(h, .inr (4, [.ref (q 0), .ref (q 1), .ref (q 2), .ref (q 3), .ref (q 4), vI (tRoot T), vI (tCap T), vI (tRei T), vI (tSpl T), vI (tRec T)])), (q 0, .inl (cI, tR T, .inl (ia (tLev T)))), (q 1, .inl (cI, tR T, .inl (ia (tHol T)))), (q 2, .inl (cI, tR T, .inl (ia (tSiz T)))), (q 3, .inl (cI, tR T * 4, .inl (ia (tCor T)))), (q 4, .inl (cI, tR T * 6, .inl (ia (tLis T))))]
abbrev zWk (cI : ClassId) (h : Nat) (q : Nat → Nat) (K : KV) : va_W := [(h, .inr (5, [.ref (q 0), vI (kCnt K), .ref (q 1)])), (q 0, .inl (cI, kLen K, .inl (ia (kItm K)))), (q 1, .inl (cI, kLen K, .inl (ia (kPen K))))]
abbrev zAr (cI : ClassId) (a n : Nat) (f : Nat → Int) : va_W := [(a, .inl (cI, n, .inl (ia f)))]
abbrev zCh (cI : ClassId) (h : Nat) (q : Nat → Nat) (ht hb hn : Nat) (kept : Nat → Int) (keptCount : Int) (pool : Nat → Int) (left : Int) (treated : Int64) : va_W := [(h, .inr (0, [.ref ht, .ref (q 0), vI keptCount, .ref (q 1), vI left, .long treated, .ref hb, .ref hn])), (q 0, .inl (cI, 24, .inl (ia kept))), (q 1, .inl (cI, 6, .inl (ia pool)))]
abbrev zPk (cI : ClassId) (h : Nat) (q : Nat → Nat) (ht : Nat) (row : Nat → Int) : va_W := [(h, .inr (2, [.ref ht, .ref (q 0)])), (q 0, .inl (cI, 24, .inl (ia row)))]
abbrev zTx (cI : ClassId) (h : Nat) (q : Nat → Nat) (characters : Nat → Int) (length : Int) (parts : Nat → Int) (rectangles part digits value : Int) : va_W := [(h, .inr (3, [.ref (q 0), vI length, .ref (q 1), vI rectangles, vI part, vI digits, vI value])), (q 0, .inl (cI, 80, .inl (ia characters))), (q 1, .inl (cI, 80, .inl (ia parts)))]
abbrev zMo (cI cZ : ClassId) (h : Nat) (q : Nat → Nat) (c_s : Nat → Int) (c_past : Nat → Int) (c_kept : Nat → Int) (c_isKept : Int) (c_pasts : Int) (c_text : Nat → Int) (c_typed : Int) (c_rect : Nat → Int) (c_item : Nat → Int) (c_items : Int) (c_itemLevel : Int) (c_treated : Nat → Int) (c_from : Nat → Int) (c_group : Nat → Int) (c_turn : Nat → Int) (c_size : Nat → Int) (c_old : Nat → Int) (c_aside : Nat → Int) (c_begin : Nat → Int) (c_level : Nat → Int) (c_asides : Int) (c_sorted : Nat → Int) (c_spot : Int) (c_rectangles : Int) (c_parts : Nat → Int) (c_visited : Nat → Int) : va_W := [(h, .inr (7, [.ref (q 0), .ref (q 1), .ref (q 2), vI c_isKept, vI c_pasts, .ref (q 3), vI c_typed, .ref (q 4), .ref (q 5), vI c_items, vI c_itemLevel, .ref (q 6), .ref (q 7), .ref (q 8), .ref (q 9), .ref (q 10), .ref (q 11), .ref (q 12), .ref (q 13), .ref (q 14), vI c_asides, .ref (q 15), vI c_spot, vI c_rectangles, .ref (q 16), .ref (q 17)])), (q 0, .inl (cI, 461, .inl (ia c_s))), (q 1, .inl (cI, 1844, .inl (ia c_past))), (q 2, .inl (cI, 461, .inl (ia c_kept))), (q 3, .inl (cI, 80, .inl (ia c_text))), (q 4, .inl (cI, 48, .inl (ia c_rect))), (q 5, .inl (cI, 360, .inl (ia c_item))), (q 6, .inl (cZ, 24, .inl (ia c_treated))), (q 7, .inl (cI, 9, .inl (ia c_from))), (q 8, .inl (cI, 8, .inl (ia c_group))), (q 9, .inl (cI, 8, .inl (ia c_turn))), (q 10, .inl (cI, 2, .inl (ia c_size))), (q 11, .inl (cI, 360, .inl (ia c_old))), (q 12, .inl (cI, 360, .inl (ia c_aside))), (q 13, .inl (cI, 65, .inl (ia c_begin))), (q 14, .inl (cI, 64, .inl (ia c_level))), (q 15, .inl (cI, 24, .inl (ia c_sorted))), (q 16, .inl (cI, 44, .inl (ia c_parts))), (q 17, .inl (cZ, 360, .inl (ia c_visited)))]
