-- ===== end of PART A; then your names; then what follows =====
/-! THE CLAIM OUT OF ONE WALK OF THE LAW'S BODY. Your part is whole_start (and what it stands on); all else here is the same for every law, but numbers. -/
def R_law : String := "RectangleTreeLaw"
def lw_P (b : Addr) (xs : List Int32) (args : Array Value) (s : State) : Prop := args = #[.ref b] ∧ s.IntsAt b xs ∧ xs.length ≤ 2560 ∧ (Jvm.Cond.and given_1 narrow_1).before args s = true
/-- what a walk over the start with the record d0 says of its end, said of the start itself -/
theorem lw_closed {s t : State} {o : Outcome} {d0 : Drawn} {L : List Loc} {k n : Nat} (hd0 : s.drawn.sameBut d0 lw_cs) (hv : ∃ v, o = .returned v) (hW : (s.setDrawn d0).WarmedH t.vm) (hs : (s.setDrawn d0).sameButNew ({ t with vm := s.vm } : State) L k n) : State.butDraws s t lw_cs (fun t1 => Framed s o t1 L k n) := by
  have h2 : t.drawn = d0 := congrArg State.drawn hs.1
  refine ⟨⟨hv, hW, State.sameButNew.setDrawn hs s.drawn⟩, ?_, by decide⟩
  rw [h2]
  exact hd0
def lw_Q (_ : Array Value) (s : State) (o : Outcome) (t : State) : Prop := o = .returned (some (.int 1)) ∧ State.butDraws s t lw_cs (fun t1 => Framed s o t1 [] 600000 7302250)
def lw_Z (below : List Frame) (a : Array Value) (s : State) : State → Prop := fun t => ∃ o, t.status = .running ∧ Ended t below o ∧ lw_Q a s o t
/-- the law's own end, with 1 on the stack, nothing written that was there before, its room as the claim has it; d0: the record of draws at this point (at the entry s.drawn: begin with 'refine W.base ?_' and 'have hd0 := Drawn.sameBut.refl s.drawn lw_cs') -/
theorem lw_ret {p : Program} {l : Launch} {e : Env} {s : State} {m : MethodId} {below : List Frame} {meth : Method} {c : Code} {b : Nat} {d0 : Drawn} (hd0 : s.drawn.sameBut d0 lw_cs) (hx : p.tables.exec = Jvm.exec) (hb : c.code = code) (hr : meth.sig.returnType = ret) (hlocks : meth.locks = false) {pc : Nat} {H : Heap} {ls : Array Slot} (hdg : decode code pc = .ok (.ireturn, 1)) : W p l e room_1 (s.setDrawn d0) m #[Value.ref b] below meth c H [] 600000 7302250 (lw_Z below #[Value.ref b] s) (F0 m pc ls [.int 1]) := by
  intro T hT X
  obtain ⟨fs, hret, hrun, hended, hW, hframe⟩ := X.leave (v := some (.int 1)) (hlocks := hlocks) (fun h => by rw [hr] at h; cases h)
  have hmeth' : T.vm.method? m = some meth := X.method'
  refine ⟨T.setFrames fs, ?_, .returned (some (.int 1)), hrun, hended, rfl, lw_closed hd0 ⟨_, rfl⟩ hW hframe⟩
  jvm_step X.here [X.here.top, hx, hb, hdg, hmeth', hr, ret, narrow_b1]
  (try refine ⟨rfl, ?_⟩); (try refine ⟨rfl, ?_⟩)
  first | (intro acts; rw [hret _ acts rfl rfl rfl]) | rw [hret _ _ rfl rfl rfl]
  exact Steps.refl _
/-- what holds at the law's entry: the machine, the code, the tables' words (any of lw_tbl by 'hts w (by decide +kernel)'), the script of L ints xs at the cell b, what the Statement gives of the start (any of its parts by flat_of_before) -/
def lw_At (p : Program) (s : State) (m : MethodId) (meth : Method) (c : Code) (b L : Nat) (xs : Nat → Int32) : Prop :=
  p.tables.exec = Jvm.exec ∧ c.code = code ∧ meth.sig.returnType = ret ∧ c.maxLocals = 8 ∧ s.vm.findClass R_law = some m.cls ∧ (∀ w ∈ lw_tbl, w.before #[Value.ref b] s = true) ∧ va_X b L xs s s.heap ∧ b < s.heap.size ∧ meth.locks = false ∧ (Jvm.Cond.and given_1 narrow_1).before #[Value.ref b] s = true
def lwSt (D : va_G) (cI cZ cT : ClassId) (A : Nat → Prop) (h_R h_M : Nat) (cells slots : Nat) (H : Heap) : Prop :=
  ∃ (h_T : Nat) (h_C : Nat) (h_P : Nat) (h_K : Nat) (h_X : Nat) (h_H : Nat) (h_N : Nat) (q_T : Nat → Nat) (q_C : Nat → Nat) (h_LB : Nat) (h_LN : Nat) (q_LB : Nat → Nat) (q_LN : Nat → Nat) (q_P : Nat → Nat) (q_K : Nat → Nat) (q_X : Nat → Nat) (q_H : Nat) (h_S0 : Nat) (h_S1 : Nat) (h_S2 : Nat) (h_S3 : Nat) (q_S0 : Nat → Nat) (q_S1 : Nat → Nat) (q_S2 : Nat → Nat) (q_S3 : Nat → Nat) (q_N : Nat → Nat) (q_M : Nat → Nat) (c_hasSnapshot : Int) (T : TV) (c_kept : Nat → Int) (c_keptCount : Int) (c_pool : Nat → Int) (c_left : Int) (c_treated : Int64) (LB : KV) (LN : KV) (c_row : Nat → Int) (K : KV) (c_characters : Nat → Int) (c_length : Int) (c_parts : Nat → Int) (c_rectangles : Int) (c_part : Int) (c_digits : Int) (c_value : Int) (c_count : Int) (S0 : TV) (S1 : TV) (S2 : TV) (S3 : TV) (N : TV) (m_s : Nat → Int) (m_past : Nat → Int) (m_kept : Nat → Int) (m_isKept : Int) (m_pasts : Int) (m_text : Nat → Int) (m_typed : Int) (m_rect : Nat → Int) (m_item : Nat → Int) (m_items : Int) (m_itemLevel : Int) (m_treated : Nat → Int) (m_from : Nat → Int) (m_group : Nat → Int) (m_turn : Nat → Int) (m_size : Nat → Int) (m_old : Nat → Int) (m_aside : Nat → Int) (m_begin : Nat → Int) (m_level : Nat → Int) (m_asides : Int) (m_sorted : Nat → Int) (m_spot : Int) (m_rectangles : Int) (m_parts : Nat → Int) (m_visited : Nat → Int), Rel c_hasSnapshot T LB LN K c_characters c_length c_count S0 S1 S2 S3 N m_s m_past m_kept m_isKept m_pasts m_text m_typed ∧ cells + 2592 ≤ 200 + (5 * tR T + 5 * tR S0 + 5 * tR S1 + 5 * tR S2 + 5 * tR S3 + 5 * tR N + 2 * kLen LB + 2 * kLen LN + 2 * kLen K) ∧ slots + 12096 ≤ 30000 + (26 * tR T + 26 * tR S0 + 26 * tR S1 + 26 * tR S2 + 26 * tR S3 + 26 * tR N + 4 * kLen LB + 4 * kLen LN + 4 * kLen K) ∧ va_P D vwCl ((zRt h_R h_T h_C h_P h_K h_X h_H h_N c_hasSnapshot) ++ ((zTr cI h_T q_T T) ++ ((zCh cI h_C q_C h_T h_LB h_LN c_kept c_keptCount c_pool c_left c_treated) ++ ((zWk cI h_LB q_LB LB) ++ ((zWk cI h_LN q_LN LN) ++ ((zPk cI h_P q_P h_T c_row) ++ ((zWk cI h_K q_K K) ++ ((zTx cI h_X q_X c_characters c_length c_parts c_rectangles c_part c_digits c_value) ++ ((zHs cT h_H q_H h_S0 h_S1 h_S2 h_S3 c_count) ++ ((zTr cI h_S0 q_S0 S0) ++ ((zTr cI h_S1 q_S1 S1) ++ ((zTr cI h_S2 q_S2 S2) ++ ((zTr cI h_S3 q_S3 S3) ++ ((zTr cI h_N q_N N) ++ ((zMo cI cZ h_M q_M m_s m_past m_kept m_isKept m_pasts m_text m_typed m_rect m_item m_items m_itemLevel m_treated m_from m_group m_turn m_size m_old m_aside m_begin m_level m_asides m_sorted m_spot m_rectangles m_parts m_visited)))))))))))))))) H ∧ va_D A ((zRt h_R h_T h_C h_P h_K h_X h_H h_N c_hasSnapshot) ++ ((zTr cI h_T q_T T) ++ ((zCh cI h_C q_C h_T h_LB h_LN c_kept c_keptCount c_pool c_left c_treated) ++ ((zWk cI h_LB q_LB LB) ++ ((zWk cI h_LN q_LN LN) ++ ((zPk cI h_P q_P h_T c_row) ++ ((zWk cI h_K q_K K) ++ ((zTx cI h_X q_X c_characters c_length c_parts c_rectangles c_part c_digits c_value) ++ ((zHs cT h_H q_H h_S0 h_S1 h_S2 h_S3 c_count) ++ ((zTr cI h_S0 q_S0 S0) ++ ((zTr cI h_S1 q_S1 S1) ++ ((zTr cI h_S2 q_S2 S2) ++ ((zTr cI h_S3 q_S3 S3) ++ ((zTr cI h_N q_N N) ++ ((zMo cI cZ h_M q_M m_s m_past m_kept m_isKept m_pasts m_text m_typed m_rect m_item m_items m_itemLevel m_treated m_from m_group m_turn m_size m_old m_aside m_begin m_level m_asides m_sorted m_spot m_rectangles m_parts m_visited))))))))))))))))
theorem nq_tbl : ∀ q ∈ zNq, Cond.methodLinkNest q.1 q.2.1 q.2.2.1 q.2.2.2 ∈ lw_tbl := by
  intro q hq
  simp only [zNq, List.mem_cons, List.not_mem_nil, or_false] at hq
  rcases hq with rfl | rfl | rfl | rfl | rfl | rfl | rfl | rfl | rfl | rfl | rfl | rfl | rfl
  · exact List.mem_of_getElem? (i := 109) (by decide +kernel)
  · exact List.mem_of_getElem? (i := 164) (by decide +kernel)
  · exact List.mem_of_getElem? (i := 221) (by decide +kernel)
  · exact List.mem_of_getElem? (i := 224) (by decide +kernel)
  · exact List.mem_of_getElem? (i := 276) (by decide +kernel)
  · exact List.mem_of_getElem? (i := 278) (by decide +kernel)
  · exact List.mem_of_getElem? (i := 290) (by decide +kernel)
  · exact List.mem_of_getElem? (i := 471) (by decide +kernel)
  · exact List.mem_of_getElem? (i := 476) (by decide +kernel)
  · exact List.mem_of_getElem? (i := 566) (by decide +kernel)
  · exact List.mem_of_getElem? (i := 580) (by decide +kernel)
  · exact List.mem_of_getElem? (i := 613) (by decide +kernel)
  · exact List.mem_of_getElem? (i := 630) (by decide +kernel)
