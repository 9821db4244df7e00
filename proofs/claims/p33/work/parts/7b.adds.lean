/-! boxes: the class's levels beside the reference's corners; a new box -/
/-- a box's four numbers: small, and in order where the box is there -/
def Vb (s : Nat → Int) (b : Nat) : Prop := (∀ t, t < 4 → ck (s (5 + 4 * b + t))) ∧ (0 ≤ s (5 + 4 * b) → s (5 + 4 * b) ≤ s (5 + 4 * b + 2) ∧ s (5 + 4 * b + 1) ≤ s (5 + 4 * b + 3))
theorem Vb.same {s s' : Nat → Int} {b : Nat} (h : Vb s b) (e : ∀ t, t < 4 → s' (5 + 4 * b + t) = s (5 + 4 * b + t)) : Vb s' b := by
  have e0 : s' (5 + 4 * b) = s (5 + 4 * b) := e 0 (by omega)
  have e1 := e 1 (by omega)
  have e2 := e 2 (by omega)
  have e3 := e 3 (by omega)
  refine ⟨fun t ht => by rw [e t ht]; exact h.1 t ht, ?_⟩
  rw [e0, e1, e2, e3]
  exact h.2
def Bx (s : Nat → Int) (Q : List Nat) : Prop := ∀ b, b < 24 → Vb s b ∧ (0 ≤ s (5 + 4 * b) ↔ b ∈ Q)
theorem in_sp {x a b : Int} (hx : ck x) (ha : ck a) (hb : ck b) : f_Mo_in x a b = some (if a ≤ x ∧ x ≤ b then 1 else 0) := by
  unfold f_Mo_in
  rw [gd_p hx, gd_p ha]
  by_cases h1 : x < a
  · rw [if_pos h1, if_neg (by omega)]
  · rw [if_neg h1, gd_p hb]
    by_cases h2 : b < x
    · rw [if_pos h2, if_neg (by omega)]
    · rw [if_neg h2, if_pos (by omega)]
theorem isb_sp {s : Nat → Int} {Q : List Nat} {b : Nat} (h : Bx s Q) (hb : b < 24) : f_Mo_isBox s (b : Int) = some (if b ∈ Q then 1 else 0) := by
  have h1 := h b hb
  unfold f_Mo_isBox
  rw [bd1_p (in_sp ⟨by omega, by omega⟩ ⟨by omega, by omega⟩ ⟨by omega, by omega⟩), if_pos (by omega), gd_p ⟨by omega, by omega⟩, if_neg (by omega), gd_p ⟨by omega, by omega⟩, show ((5 : Int) + 4 * (b : Int)).toNat = 5 + 4 * b by omega, gd_p (show ck (s (5 + 4 * b)) from h1.1.1 0 (by omega))]
  by_cases h2 : b ∈ Q
  · have := h1.2.mpr h2
    rw [if_neg (by omega), if_pos h2]
  · have : ¬ 0 ≤ s (5 + 4 * b) := fun q => h2 (h1.2.mp q)
    rw [if_pos (by omega), if_neg h2]
theorem isb_no {s : Nat → Int} {x : Int} (hx : ck x) (h : ¬ (0 ≤ x ∧ x < 24)) : f_Mo_isBox s x = some 0 := by
  unfold f_Mo_isBox
  rw [bd1_p (in_sp hx ⟨by omega, by omega⟩ ⟨by omega, by omega⟩), if_neg (by omega), gd_p ck_0, if_pos rfl]
theorem hasb_sp {T : TV} {kl : Nat → List Nat} {Q : List Nat} {b : Nat} (h : Ar T kl Q) (hb : b < 24) : f_Tr_hasBox T (b : Int) = some (if b ∈ Q then 1 else 0) := by
  have hR := h.1
  have hle := h.le
  unfold f_Tr_hasBox
  rw [gd_p ⟨by omega, by omega⟩, if_neg (by omega), if_pos (by omega), bd1_p (t_lev hle (by omega)), gd_p (h.ckall (by omega))]
  by_cases h2 : b ∈ Q
  · rw [if_pos ((h.lev24 h2).mp hb), if_pos h2]
  · rw [h.2.2.1 b (by omega) h2, if_neg (by omega), if_neg h2]
theorem hasb_no {T : TV} {x : Int} (hx : ck x) (h : ¬ (0 ≤ x ∧ x < 24)) : f_Tr_hasBox T x = some 0 := by
  unfold f_Tr_hasBox
  rw [gd_p hx]
  by_cases h1 : x < 0
  · rw [if_pos h1]
  · rw [if_neg h1, if_neg (by omega)]
/-- how many boxes there are -/
def nbx (Q : List Nat) (i : Nat) : Nat := (List.range i).countP (fun b => decide (b ∈ Q))
theorem nbx_succ {Q : List Nat} {i : Nat} : nbx Q (i + 1) = nbx Q i + (if i ∈ Q then 1 else 0) := by
  unfold nbx
  rw [List.range_succ, List.countP_append, List.countP_cons, List.countP_nil]
  by_cases h : i ∈ Q <;> simp [h]
theorem nbx_le {Q : List Nat} {i : Nat} : nbx Q i ≤ i := by
  have := List.countP_le_length (p := fun b => decide (b ∈ Q)) (l := List.range i)
  rw [List.length_range] at this
  exact this
theorem cntb_go {T : TV} {kl : Nat → List Nat} {Q : List Nat} (h : Ar T kl Q) (k : Int → Int → Option Int) : ∀ (d i n : Nat), i + d = 24 → d < n → f_Tr_countBoxes_L4 T k n (nbx Q i : Int) (i : Int) = k (nbx Q 24 : Int) 24
  | 0, i, n + 1, hi, hn => by
    have hi : i = 24 := by omega
    subst hi
    rw [f_Tr_countBoxes_L4, gd_p ⟨by omega, by omega⟩, if_neg (by omega)]
    rfl
  | d + 1, i, n + 1, hi, hn => by
    have := cntb_go h k d (i + 1) n (by omega) (by omega)
    rw [f_Tr_countBoxes_L4, gd_p ⟨by omega, by omega⟩, if_pos (by omega), bd1_p (hasb_sp h (by omega)), show (i : Int) + 1 = ((i + 1 : Nat) : Int) by omega]
    rw [nbx_succ] at this
    by_cases h2 : i ∈ Q
    · rw [if_pos h2, gd_p ⟨by omega, by omega⟩, if_neg (by omega)]
      rw [if_pos h2] at this
      exact this
    · rw [if_neg h2, gd_p ck_0, if_pos rfl]
      rw [if_neg h2] at this
      exact this
theorem cntb_sp {T : TV} {kl : Nat → List Nat} {Q : List Nat} (h : Ar T kl Q) : f_Tr_countBoxes T = some (nbx Q 24 : Int) := by
  unfold f_Tr_countBoxes
  exact cntb_go h (fun x1_8 x2_9 => some (x1_8)) 24 0 FU rfl (by unfold FU; omega)
theorem bxc_go {s : Nat → Int} {Q : List Nat} (h : Bx s Q) (k : Int → Int → Option Int) : ∀ (d i n : Nat), i + d = 24 → d < n → f_Mo_boxCount_L4 s k n (nbx Q i : Int) (i : Int) = k (nbx Q 24 : Int) 24
  | 0, i, n + 1, hi, hn => by
    have hi : i = 24 := by omega
    subst hi
    rw [f_Mo_boxCount_L4, gd_p ⟨by omega, by omega⟩, if_neg (by omega)]
    rfl
  | d + 1, i, n + 1, hi, hn => by
    have := bxc_go h k d (i + 1) n (by omega) (by omega)
    rw [f_Mo_boxCount_L4, gd_p ⟨by omega, by omega⟩, if_pos (by omega), bd1_p (isb_sp h (by omega)), show (i : Int) + 1 = ((i + 1 : Nat) : Int) by omega]
    rw [nbx_succ] at this
    by_cases h2 : i ∈ Q
    · rw [if_pos h2, gd_p ⟨by omega, by omega⟩, if_neg (by omega)]
      rw [if_pos h2] at this
      exact this
    · rw [if_neg h2, gd_p ck_0, if_pos rfl, Int.add_zero]
      rw [if_neg h2] at this
      exact this
theorem bxc_sp {s : Nat → Int} {Q : List Nat} (h : Bx s Q) : f_Mo_boxCount s = some (nbx Q 24 : Int) := by
  unfold f_Mo_boxCount
  exact bxc_go h (fun x1_8 x2_9 => some (x1_8)) 24 0 FU rfl (by unfold FU; omega)
theorem nbx_all {Q : List Nat} : ∀ {i : Nat}, (∀ b, b < i → b ∈ Q) → nbx Q i = i
  | 0, _ => rfl
  | i + 1, h => by
    rw [nbx_succ, nbx_all (fun b hb => h b (by omega)), if_pos (h i (by omega))]
/-- the state between two insertions: no node has too many entries -/
def Ok5 (T : TV) (kl : Nat → List Nat) (Q : List Nat) (r : Nat) (s : Nat → Int) : Prop := Ok T kl Q r s ∧ (∀ v ∈ Q, (kl v).length ≤ 5) ∧ Bx s Q
/-- boxes stay under a step of insertion -/
theorem Bx.mw {Y : List Nat} {T T' : TV} {kl kl' : Nat → List Nat} {Q Q' : List Nat} {r r' : Nat} {s s' : Nat → Int} (h : Bx s Q) (g : Mw Y T kl Q r s T' kl' Q' r' s') : Bx s' Q' := fun b hb => by
  have h1 := h b hb
  refine ⟨h1.1.same (fun t ht => g.2.2.2.2.2.1 (5 + 4 * b + t) (by omega) (by omega) (by omega) (by omega)), ?_⟩
  rw [g.2.2.2.2.2.1 (5 + 4 * b) (by omega) (by omega) (by omega) (by omega)]
  refine ⟨fun q => (g.1 b (h1.2.mp q)).1, fun q => h1.2.mpr ?_⟩
  rcases g.2.2.2.1 b q with q | q
  · exact q
  · omega
theorem first_bx {s : Nat → Int} {Q : List Nat} {b : Nat} (h : Bx s Q) (hb : b < 24) (hbq : b ∉ Q) (hlow : ∀ c, c < b → c ∈ Q) (k : Int → Option (Int × RI)) : ∀ (d i n : Nat), i + d = b → d < n → f_Mo_adds_L3 s k n (i : Int) = k (b : Int)
  | 0, i, n + 1, hi, hn => by
    have hi : i = b := by omega
    subst hi
    rw [f_Mo_adds_L3, bd1_p (isb_sp h hb), if_neg hbq, gd_p ck_0, if_pos rfl]
  | d + 1, i, n + 1, hi, hn => by
    rw [f_Mo_adds_L3, bd1_p (isb_sp h (by omega)), if_pos (hlow i (by omega)), gd_p ⟨by omega, by omega⟩, if_neg (by omega), show (i : Int) + 1 = ((i + 1 : Nat) : Int) by omega]
    exact first_bx h hb hbq hlow k d (i + 1) n (by omega) (by omega)
/-- a new box: in use, in no list -/
theorem newBox_sp {T : TV} {kl : Nat → List Nat} {Q : List Nat} {r : Nat} {s : Nat → Int} {x1 y1 x2 y2 : Int} (O : Ok5 T kl Q r s) (hn : nbx Q 24 < 24) (h1 : 0 ≤ x1 ∧ x1 ≤ x2 ∧ x2 ≤ 99) (h2 : 0 ≤ y1 ∧ y1 ≤ y2 ∧ y2 ≤ 99) : ∃ (b : Nat) (T1 : TV), f_Tr_newBox T x1 y1 x2 y2 = some ((b : Int), T1) ∧ b < 24 ∧ b ∉ Q ∧ (∀ c, c < b → c ∈ Q) ∧ Ok5 T1 (upL kl b []) (b :: Q) r (up (up (up (up s (5 + 4 * b) x1) (5 + 4 * b + 1) y1) (5 + 4 * b + 2) x2) (5 + 4 * b + 3) y2) ∧ tHol T1 b = -1 ∧ tLev T1 b = -1 ∧ (∀ v ∈ Q, tLev T1 v = tLev T v ∧ tHol T1 v = tHol T v) ∧ pr (tLev T1) (upL kl b []) b = [b] ∧ (∀ v ∈ Q, pr (tLev T1) (upL kl b []) v = pr (tLev T) kl v) ∧ (tCap T1 = tCap T ∧ tRei T1 = tRei T ∧ tSpl T1 = tSpl T ∧ tRec T1 = tRec T) := by
  have J := O.1.1
  have h := J.1
  have hR := h.1
  have hle := h.le
  have hr := J.2.1.1
  rcases free_sp (T := T) (b := 24) (by omega) (by omega) (fun x hx => h.ckall hx) 0 (by omega) with ⟨-, q⟩ | ⟨b, -, hb24, hfb, hlb, hlow⟩
  · have hall : ∀ c, c < 24 → c ∈ Q := fun c hc => by
      by_cases qc : c ∈ Q
      · exact qc
      · exact absurd (h.2.2.1 c (by omega) qc) (q c (by omega) hc)
    have := nbx_all hall
    omega
  have hbq : b ∉ Q := fun q => by
    have := (h.2.2.2.2 b q).1.2.2.1
    omega
  have hlow2 : ∀ c, c < b → c ∈ Q := fun c hc => by
    by_cases qc : c ∈ Q
    · exact qc
    · exact absurd (h.2.2.1 c (by omega) qc) (hlow c (by omega) hc)
  have hbl : b < tR T := by omega
  have hA := h.take (x := b) (l := -1) hbl hbq (by omega) ⟨fun _ => rfl, fun _ => hb24⟩
  have hne : ∀ v ∈ Q, v ≠ b := fun v hv q => hbq (q ▸ hv)
  have hcor : ∀ z, z < tR T → rg (set4 (tCor (tk T b (-1))) b x1 y1 x2 y2) z := fun z hz t ht => by
    by_cases hzb : z = b
    · subst hzb
      rcases (show t = 0 ∨ t = 1 ∨ t = 2 ∨ t = 3 by omega) with rfl | rfl | rfl | rfl
      · have := set4_s (c := tCor (tk T z (-1))) (x := z) (t := 0) (a := fun t => if t = 0 then x1 else if t = 1 then y1 else if t = 2 then x2 else y2) (by omega)
        simp at this
        simp [this]
        omega
      · have := set4_s (c := tCor (tk T z (-1))) (x := z) (t := 1) (a := fun t => if t = 0 then x1 else if t = 1 then y1 else if t = 2 then x2 else y2) (by omega)
        simp at this
        simp [this]
        omega
      · have := set4_s (c := tCor (tk T z (-1))) (x := z) (t := 2) (a := fun t => if t = 0 then x1 else if t = 1 then y1 else if t = 2 then x2 else y2) (by omega)
        simp at this
        simp [this]
        omega
      · have := set4_s (c := tCor (tk T z (-1))) (x := z) (t := 3) (a := fun t => if t = 0 then x1 else if t = 1 then y1 else if t = 2 then x2 else y2) (by omega)
        simp at this
        simp [this]
        omega
    · rw [set4_o hzb ht]
      exact h.2.2.2.1 z hz t ht
  have hA1 := hA.cor hcor
  have hLv : ∀ v ∈ Q, tLev (tk T b (-1)) v = tLev T v := fun v hv => up_o (hne v hv)
  have hHv : ∀ v ∈ Q, tHol (tk T b (-1)) v = tHol T v := fun v hv => up_o (hne v hv)
  have hsame : ∀ v ∈ Q, upL kl b [] v = kl v ∧ tLev (tk T b (-1)) v = tLev T v := fun v hv => ⟨upL_o (hne v hv), hLv v hv⟩
  have hprv : ∀ v ∈ Q, pr (tLev (tk T b (-1))) (upL kl b []) v = pr (tLev T) kl v := fun v hv => pr_same h.lk v hv (fun z hz => hsame z (pr_in h.lk v hv z hz).1)
  have hprb : pr (tLev (tk T b (-1))) (upL kl b []) b = [b] := by
    rw [pr_eq (Lk_at hA.lk List.mem_cons_self), upL_s]
    rfl
  have hsk : ∀ j, (j < 5 + 4 * b ∨ 5 + 4 * b + 4 ≤ j) → (up (up (up (up s (5 + 4 * b) x1) (5 + 4 * b + 1) y1) (5 + 4 * b + 2) x2) (5 + 4 * b + 3) y2) j = s j := fun j hj => by
    rw [up_o (by omega), up_o (by omega), up_o (by omega), up_o (by omega)]
  have hlr := hLv r hr
  have hcnt : ∀ l : Int, l ≠ -1 → cnt (tLev (tk T b (-1))) (b :: Q) l = cnt (tLev T) Q l := fun l hl => by
    rw [cnt_cons, cnt_same hLv, if_neg (by rw [show tLev (tk T b (-1)) b = -1 from up_s]; omega)]
    omega
  refine ⟨b, sCor (tk T b (-1)) (set4 (tCor (tk T b (-1))) b x1 y1 x2 y2), ?_, hb24, hbq, hlow2, ⟨⟨⟨hA1, ⟨List.mem_cons_of_mem _ hr, J.2.1.2.1, J.2.1.2.2.1, ?_⟩, ?_, fun v hv q1 q2 t ht => ?_, fun c hc hc24 t ht => ?_, fun v hv q1 q2 => ?_⟩, O.1.2.1, ?_, O.1.2.2.2.1, ?_, ?_, O.1.2.2.2.2.2.2⟩, fun v hv => ?_, fun c hc => ?_⟩, up_s, up_s, fun v hv => ⟨hLv v hv, hHv v hv⟩, hprb, hprv, ⟨rfl, rfl, rfl, rfl⟩⟩
  · unfold f_Tr_newBox
    have hfb : f_Tr_firstFree T 0 24 = some (b : Int) := hfb
    rw [bd1_p hfb, gd_p ⟨by omega, by omega⟩, if_neg (by omega), bd1_p (take_sp hle hbl), bd1_p (setc_sp (T := tk T b (-1)) hle hbl)]
  · exact (hHv r hr).trans J.2.1.2.2.2
  · have hrow := J.2.2.1
    show Row _ (tLev (tk T b (-1))) (pr (tLev (tk T b (-1))) (upL kl b []) r)
    rw [hprv r hr]
    refine ⟨by rw [hsk 4 (by omega)]; exact hrow.1, hrow.2.1, fun j x hx => ?_, fun x hx => ?_⟩
    · rw [hsk _ (by omega), hrow.2.2.1 j x hx]
      unfold sg
      rw [hLv x (pr_in h.lk r hr x (List.mem_of_getElem? hx)).1]
    · have := hrow.2.2.2 x hx
      unfold okI
      rw [hLv x (pr_in h.lk r hr x hx).1]
      exact this
  · have hvb : v ≠ b := fun q => by omega
    have hvQ := (List.mem_cons.mp hv).resolve_left hvb
    rw [upL_o hvb] at q2 ⊢
    show set4 _ _ _ _ _ _ _ = _
    rw [set4_o hvb ht]
    refine (J.2.2.2.1 v hvQ q1 q2 t ht).trans ?_
    exact (cu_same (fun y hy => set4_o (hne y (h.kid hvQ hy).1) ht)).symm
  · by_cases hcb : c = b
    · subst hcb
      show (up (up (up (up s (5 + 4 * c) x1) (5 + 4 * c + 1) y1) (5 + 4 * c + 2) x2) (5 + 4 * c + 3) y2) (5 + (4 * c + t)) = set4 _ c x1 y1 x2 y2 (4 * c + t)
      rw [← Nat.add_assoc]
      unfold set4
      rcases (show t = 0 ∨ t = 1 ∨ t = 2 ∨ t = 3 by omega) with rfl | rfl | rfl | rfl
      · refine Eq.trans (b := x1) ?_ (Eq.symm ?_)
        · rw [up_o (by omega), up_o (by omega), up_o (by omega)]
          exact up_s
        · rw [up_o (by omega), up_o (by omega), up_o (by omega)]
          exact up_s
      · refine Eq.trans (b := y1) ?_ (Eq.symm ?_)
        · rw [up_o (by omega), up_o (by omega)]
          exact up_s
        · rw [up_o (by omega), up_o (by omega)]
          exact up_s
      · refine Eq.trans (b := x2) ?_ (Eq.symm ?_)
        · rw [up_o (by omega)]
          exact up_s
        · rw [up_o (by omega)]
          exact up_s
      · refine Eq.trans (b := y2) ?_ (Eq.symm ?_)
        · exact up_s
        · exact up_s
    · have hcQ := (List.mem_cons.mp hc).resolve_left hcb
      show (up (up (up (up s (5 + 4 * b) x1) (5 + 4 * b + 1) y1) (5 + 4 * b + 2) x2) (5 + 4 * b + 3) y2) (5 + (4 * c + t)) = set4 _ b x1 y1 x2 y2 (4 * c + t)
      rw [hsk _ (by omega), set4_o hcb ht]
      exact J.2.2.2.2.1 c hcQ hc24 t ht
  · have hvb : v ≠ b := fun q => by omega
    have hvQ := (List.mem_cons.mp hv).resolve_left hvb
    rw [upL_o hvb] at q2
    have := J.2.2.2.2.2 v hvQ q1 q2
    exact ⟨this.1, (hLv r hr).trans this.2⟩
  · obtain ⟨H, b1, b2, b3, b4, b5⟩ := O.1.2.2.1
    show Bd (tLev (tk T b (-1))) (b :: Q) (tLev (tk T b (-1)) r)
    rw [hlr]
    refine ⟨H, b1, b2, fun l hl => by rw [hcnt _ (by omega)]; exact b3 l hl, by rw [hcnt _ (by omega)]; exact b4, fun v hv => ?_⟩
    rcases List.mem_cons.mp hv with rfl | hv
    · rw [show tLev (tk T v (-1)) v = -1 from up_s]
      omega
    · rw [hLv v hv]
      exact b5 v hv
  · rw [hsk 0 (by omega)]
    exact O.1.2.2.2.2.1
  · rw [hsk 1 (by omega)]
    exact O.1.2.2.2.2.2.1
  · rcases List.mem_cons.mp hv with rfl | hv
    · rw [upL_s]
      exact Nat.zero_le _
    · rw [upL_o (hne v hv)]
      exact O.2.1 v hv
  · by_cases hcb : c = b
    · subst hcb
      refine ⟨⟨fun t ht => ?_, fun _ => ?_⟩, ?_⟩
      · rcases (show t = 0 ∨ t = 1 ∨ t = 2 ∨ t = 3 by omega) with rfl | rfl | rfl | rfl
        · rw [up_o (by omega), up_o (by omega), up_o (by omega)]
          show ck (up s (5 + 4 * c) x1 (5 + 4 * c))
          rw [up_s]
          exact ⟨by omega, by omega⟩
        · rw [up_o (by omega), up_o (by omega), up_s]
          exact ⟨by omega, by omega⟩
        · rw [up_o (by omega), up_s]
          exact ⟨by omega, by omega⟩
        · rw [up_s]
          exact ⟨by omega, by omega⟩
      · have u0 : up (up (up (up s (5 + 4 * c) x1) (5 + 4 * c + 1) y1) (5 + 4 * c + 2) x2) (5 + 4 * c + 3) y2 (5 + 4 * c) = x1 := by rw [up_o (by omega), up_o (by omega), up_o (by omega), up_s]
        have u1 : up (up (up (up s (5 + 4 * c) x1) (5 + 4 * c + 1) y1) (5 + 4 * c + 2) x2) (5 + 4 * c + 3) y2 (5 + 4 * c + 1) = y1 := by rw [up_o (by omega), up_o (by omega), up_s]
        have u2 : up (up (up (up s (5 + 4 * c) x1) (5 + 4 * c + 1) y1) (5 + 4 * c + 2) x2) (5 + 4 * c + 3) y2 (5 + 4 * c + 2) = x2 := by rw [up_o (by omega), up_s]
        have u3 : up (up (up (up s (5 + 4 * c) x1) (5 + 4 * c + 1) y1) (5 + 4 * c + 2) x2) (5 + 4 * c + 3) y2 (5 + 4 * c + 3) = y2 := up_s
        rw [u0, u1, u2, u3]
        omega
      · rw [up_o (by omega), up_o (by omega), up_o (by omega), up_s]
        exact ⟨fun _ => List.mem_cons_self, fun _ => h1.1⟩
    · have := O.2.2 c hc
      refine ⟨this.1.same (fun t ht => hsk _ (by omega)), ?_⟩
      rw [hsk _ (by omega)]
      refine ⟨fun q => List.mem_cons_of_mem _ (this.2.mp q), fun q => this.2.mpr ((List.mem_cons.mp q).resolve_left hcb)⟩
/-- a box with the corners given comes into the tree -/
theorem adds_sp {T : TV} {kl : Nat → List Nat} {Q : List Nat} {r : Nat} {s pool w it tr fr gr tu si old : Nat → Int} {left x1 y1 x2 y2 : Int} (O : Ok5 T kl Q r s) (hn : nbx Q 24 < 24) (h1 : 0 ≤ x1 ∧ x1 ≤ x2 ∧ x2 ≤ 99) (h2 : 0 ≤ y1 ∧ y1 ≤ y2 ∧ y2 ≤ 99) : ∃ (b : Nat) (T1 T' : TV) (kl' : Nat → List Nat) (Q' : List Nat) (r' : Nat) (left' items' il' : Int) (cc' : Int64) (s' pool' w' it' tr' fr' gr' tu' si' old' : Nat → Int), f_Tr_newBox T x1 y1 x2 y2 = some ((b : Int), T1) ∧ f_Ch_insertOwn pool left T1 (b : Int) = some (pool', left', cc', T') ∧ f_Mo_adds s w it tr fr gr tu si old x1 y1 x2 y2 = some ((b : Int), s', w', it', items', il', tr', fr', gr', tu', si', old') ∧ Ok5 T' kl' Q' r' s' ∧ b < 24 ∧ b ∉ Q ∧ (∀ c, c < 24 → (c ∈ Q' ↔ c ∈ Q ∨ c = b)) ∧ ((∀ v ∈ Q, v ∈ pr (tLev T) kl r) → ∀ v ∈ Q', v ∈ pr (tLev T') kl' r') ∧ (tSpl T' - s' 2 = tSpl T - s 2 ∧ tRec T' - s' 3 = tRec T - s 3) ∧ (Rt2 (tLev T) kl r → Rt2 (tLev T') kl' r') := by
  have J := O.1.1
  have hr := J.2.1.1
  obtain ⟨b, T1, e1, e2, e3, e4, O1, e6, e7, e8, e9, e10, e11⟩ := newBox_sp O hn h1 h2
  have hbr : b ≠ r := fun q => by have := J.2.1.2.1; omega
  have hrl := O1.1.2.2.1.rl
  obtain ⟨T', kl', Q', r', left', items', il', cc', s', pool', w', it', tr', fr', gr', tu', si', old', f1, f2, f3, f4, f5⟩ := own_sp (pool := pool) (w := w) (it := up it 0 (b : Int)) (tr := tr) (fr := fr) (gr := gr) (tu := tu) (si := si) (old := old) (left := left) O1.1 O1.2.1 List.mem_cons_self hbr e6 (by rw [e7]; omega) (fun j z hz => by
    rw [e9] at hz
    have := (List.getElem?_eq_some_iff.mp hz).1
    simp at this
    subst this
    simp at hz
    subst hz
    rw [up_s]
    unfold sg
    rw [if_pos e2])
  rw [e9, e7] at f2
  refine ⟨b, T1, T', kl', Q', r', left', items', il', cc', s', pool', w', it', tr', fr', gr', tu', si', old', e1, f1, ?_, ⟨f3, f4, O1.2.2.mw f5⟩, e2, e3, fun c hc => ?_, fun hall v hv => ?_, ⟨?_, ?_⟩, fun q => f5.2.2.2.2.2.2.2.2 ?_⟩
  · unfold f_Mo_adds
    refine Eq.trans (first_bx O.2.2 e2 e3 e4 _ b 0 FU (by omega) (by unfold FU; omega)) ?_
    have f2 : f_Mo_inserts _ w (up it 0 (b : Int)) 1 0 tr fr gr tu si old = _ := f2
    rw [gd_p ⟨by omega, by omega⟩, gd_p ⟨by omega, by omega⟩, gd_p ⟨by omega, by omega⟩, gd_p ⟨by omega, by omega⟩, show ((5 : Int) + 4 * (b : Int)).toNat = 5 + 4 * b by omega, show ((5 : Int) + 4 * (b : Int) + 1).toNat = 5 + 4 * b + 1 by omega, show ((5 : Int) + 4 * (b : Int) + 2).toNat = 5 + 4 * b + 2 by omega, show ((5 : Int) + 4 * (b : Int) + 3).toNat = 5 + 4 * b + 3 by omega, bd11_p f2]
  · constructor
    · intro q
      rcases f5.2.2.2.1 c q with q | q
      · rcases List.mem_cons.mp q with q | q
        · exact Or.inr q
        · exact Or.inl q
      · omega
    · rintro (q | q)
      · exact (f5.1 c (List.mem_cons_of_mem _ q)).1
      · subst q
        exact (f5.1 c List.mem_cons_self).1
  · rcases f5.2.2.2.1 v hv with q | q
    · refine f5.2.2.1 v ?_
      rcases List.mem_cons.mp q with rfl | q
      · exact Or.inr (by rw [e9]; simp)
      · exact Or.inl (by rw [e10 r hr]; exact hall v q)
    · exact q.2
  · rw [f5.2.2.2.2.2.2.1.1, e11.2.2.1, up_o (by omega), up_o (by omega), up_o (by omega), up_o (by omega)]
  · rw [f5.2.2.2.2.2.2.1.2, e11.2.2.2, up_o (by omega), up_o (by omega), up_o (by omega), up_o (by omega)]
  · unfold Rt2
    rw [(e8 r hr).1, upL_o (fun q => hbr q.symm)]
    exact q
/-- the state at rest -/
def St (T : TV) (kl : Nat → List Nat) (Q : List Nat) (r : Nat) (s : Nat → Int) : Prop := Ok5 T kl Q r s ∧ (∀ v ∈ Q, v ∈ pr (tLev T) kl r) ∧ Rt2 (tLev T) kl r ∧ tSpl T = s 2 ∧ tRec T = s 3
theorem adds_st {T : TV} {kl : Nat → List Nat} {Q : List Nat} {r : Nat} {s pool w it tr fr gr tu si old : Nat → Int} {left x1 y1 x2 y2 : Int} (O : St T kl Q r s) (hn : nbx Q 24 < 24) (h1 : 0 ≤ x1 ∧ x1 ≤ x2 ∧ x2 ≤ 99) (h2 : 0 ≤ y1 ∧ y1 ≤ y2 ∧ y2 ≤ 99) : ∃ (b : Nat) (T1 T' : TV) (kl' : Nat → List Nat) (Q' : List Nat) (r' : Nat) (left' items' il' : Int) (cc' : Int64) (s' pool' w' it' tr' fr' gr' tu' si' old' : Nat → Int), f_Tr_newBox T x1 y1 x2 y2 = some ((b : Int), T1) ∧ f_Ch_insertOwn pool left T1 (b : Int) = some (pool', left', cc', T') ∧ f_Mo_adds s w it tr fr gr tu si old x1 y1 x2 y2 = some ((b : Int), s', w', it', items', il', tr', fr', gr', tu', si', old') ∧ St T' kl' Q' r' s' ∧ nbx Q' 24 = nbx Q 24 + 1 := by
  obtain ⟨b, T1, T', kl', Q', r', left', items', il', cc', s', pool', w', it', tr', fr', gr', tu', si', old', e1, e2, e3, e4, e5, e6, e7, e8, e9, e10⟩ := adds_sp (pool := pool) (w := w) (it := it) (tr := tr) (fr := fr) (gr := gr) (tu := tu) (si := si) (old := old) (left := left) O.1 hn h1 h2
  refine ⟨b, T1, T', kl', Q', r', left', items', il', cc', s', pool', w', it', tr', fr', gr', tu', si', old', e1, e2, e3, ⟨e4, e8 O.2.1, e10 O.2.2.1, by have := e9.1; have := O.2.2.2.1; omega, by have := e9.2; have := O.2.2.2.2; omega⟩, ?_⟩
  have key : ∀ i, i ≤ 24 → nbx Q' i = nbx Q i + (if b < i then 1 else 0) := by
    intro i
    induction i with
    | zero => intro _; rfl
    | succ i ih =>
      intro hi
      rw [nbx_succ, nbx_succ, ih (by omega)]
      have := e7 i (by omega)
      by_cases hib : i = b
      · subst hib
        rw [if_neg (by omega), if_pos (this.mpr (Or.inr rfl)), if_neg e6, if_pos (by omega)]
      · by_cases hiq : i ∈ Q
        · rw [if_pos (this.mpr (Or.inl hiq)), if_pos hiq]
          split <;> split <;> omega
        · rw [if_neg (fun q => (this.mp q).elim hiq hib), if_neg hiq]
          split <;> split <;> omega
  rw [key 24 (Nat.le_refl _), if_pos e5]
