/-! the class's arena: its rows, and the entries `kl` that its lists name -/
def Ix (T : TV) (kl : Nat → List Nat) (Q : List Nat) (x : Nat) : Prop :=
  (x < tR T ∧ (x < 24 ↔ tLev T x = -1) ∧ -1 ≤ tLev T x ∧ tLev T x ≤ 20) ∧ (x < 24 → kl x = []) ∧ (tSiz T x = ((kl x).length : Int) ∧ (kl x).length ≤ 6 ∧ (kl x).Nodup) ∧ (∀ (j y : Nat), (kl x)[j]? = some y → tLis T (6 * x + j) = (y : Int)) ∧ (∀ y ∈ kl x, y ∈ Q ∧ tHol T y = (x : Int) ∧ tLev T y = tLev T x - 1) ∧ (tHol T x = -1 ∨ ∃ z ∈ Q, 24 ≤ z ∧ tHol T x = (z : Int) ∧ tLev T z = tLev T x + 1)
def Cr (c : Nat → Int) (kl : Nat → List Nat) (x : Nat) : Prop := 24 ≤ x → kl x ≠ [] → ∀ t, t < 4 → c (4 * x + t) = cu c t (kl x)
def Ar (T : TV) (kl : Nat → List Nat) (Q : List Nat) : Prop := (157 ≤ tR T ∧ tR T ≤ 288) ∧ Q.Nodup ∧ (∀ x, x < tR T → x ∉ Q → tLev T x = -2) ∧ (∀ x, x < tR T → rg (tCor T) x) ∧ ∀ x ∈ Q, Ix T kl Q x
theorem Ar.le {T : TV} {kl : Nat → List Nat} {Q : List Nat} (h : Ar T kl Q) : tR T ≤ 8192 := by have := h.1.2; omega
theorem Ar.lt {T : TV} {kl : Nat → List Nat} {Q : List Nat} (h : Ar T kl Q) {x : Nat} (hx : x ∈ Q) : x < tR T := (h.2.2.2.2 x hx).1.1
theorem Ar.rgx {T : TV} {kl : Nat → List Nat} {Q : List Nat} (h : Ar T kl Q) {x : Nat} (hx : x ∈ Q) : rg (tCor T) x := h.2.2.2.1 x (h.lt hx)
theorem Ar.lk {T : TV} {kl : Nat → List Nat} {Q : List Nat} (h : Ar T kl Q) : Lk (tLev T) kl Q := fun x hx => by
  have hi := h.2.2.2.2 x hx
  exact ⟨⟨hi.1.2.2.1, fun q => hi.2.1 (hi.1.2.1.mpr q), fun y hy => (hi.2.2.2.2.1 y hy).2.2⟩, fun y hy => (hi.2.2.2.2.1 y hy).1⟩
theorem Ar.oki {T : TV} {kl : Nat → List Nat} {Q : List Nat} (h : Ar T kl Q) {x : Nat} (hx : x ∈ Q) : okI (tLev T) x := by
  have hi := (h.2.2.2.2 x hx).1
  have hR := h.1.2
  have h0 : x < 24 ↔ tLev T x = -1 := hi.2.1
  exact ⟨fun q => h0.mp q, fun q => by
    have : ¬ tLev T x = -1 := fun e => by have := h0.mpr e; omega
    omega, by omega⟩
theorem Ar.ckl {T : TV} {kl : Nat → List Nat} {Q : List Nat} (h : Ar T kl Q) {x : Nat} (hx : x ∈ Q) : ck (tLev T x) := by
  have hi := (h.2.2.2.2 x hx).1
  exact ⟨by omega, by omega⟩
theorem Ar.siz {T : TV} {kl : Nat → List Nat} {Q : List Nat} (h : Ar T kl Q) {x : Nat} (hx : x ∈ Q) : tSiz T x = ((kl x).length : Int) ∧ (kl x).length ≤ 6 := ⟨(h.2.2.2.2 x hx).2.2.1.1, (h.2.2.2.2 x hx).2.2.1.2.1⟩
theorem Ar.kid {T : TV} {kl : Nat → List Nat} {Q : List Nat} (h : Ar T kl Q) {x y : Nat} (hx : x ∈ Q) (hy : y ∈ kl x) : y ∈ Q ∧ tHol T y = (x : Int) ∧ tLev T y = tLev T x - 1 := (h.2.2.2.2 x hx).2.2.2.2.1 y hy
theorem Ar.node {T : TV} {kl : Nat → List Nat} {Q : List Nat} (h : Ar T kl Q) {x y : Nat} (hx : x ∈ Q) (hy : y ∈ kl x) : 24 ≤ x := by
  rcases Nat.lt_or_ge x 24 with q | q
  · rw [(h.2.2.2.2 x hx).2.1 q] at hy
    cases hy
  · exact q
/-- an item is an entry of one node only -/
theorem Ar.one {T : TV} {kl : Nat → List Nat} {Q : List Nat} (h : Ar T kl Q) {x z y : Nat} (hx : x ∈ Q) (hz : z ∈ Q) (hy : y ∈ kl x) (hy2 : y ∈ kl z) : x = z := by
  have h1 := (h.kid hx hy).2.1
  have h2 := (h.kid hz hy2).2.1
  omega
theorem at_sp {n : Nat} {f : Nat → Int} {x : Nat} (hn : n ≤ 100000) (hx : x < n) : f_Rt_at n f (x : Int) = some (f x) := by
  unfold f_Rt_at
  rw [gd_p ⟨by omega, by omega⟩, if_neg (by omega), gd_p ⟨by omega, by omega⟩, if_pos (by omega), gd_p ⟨by omega, by omega⟩, show ((x : Int)).toNat = x by omega]
theorem put_sp {n : Nat} {f : Nat → Int} {x : Nat} {v : Int} (hn : n ≤ 100000) (hx : x < n) : f_Rt_put n f (x : Int) v = some (up f x v) := by
  unfold f_Rt_put
  rw [gd_p ⟨by omega, by omega⟩, if_neg (by omega), gd_p ⟨by omega, by omega⟩, if_pos (by omega), gd_p ⟨by omega, by omega⟩, show ((x : Int)).toNat = x by omega]
theorem t_lev {T : TV} {x : Nat} (hR : tR T ≤ 8192) (hx : x < tR T) : f_Tr_levelOf T (x : Int) = some (tLev T x) := by
  unfold f_Tr_levelOf
  rw [gd_p ⟨by omega, by omega⟩, if_neg (by omega), gd_p ⟨by omega, by omega⟩, if_pos (by omega), gd_p ⟨by omega, by omega⟩, show ((x : Int)).toNat = x by omega]
theorem t_siz {T : TV} {x : Nat} (hR : tR T ≤ 8192) (hx : x < tR T) : f_Tr_sizeOf T (x : Int) = some (tSiz T x) := by
  unfold f_Tr_sizeOf
  rw [gd_p ⟨by omega, by omega⟩, if_neg (by omega), gd_p ⟨by omega, by omega⟩, if_pos (by omega), gd_p ⟨by omega, by omega⟩, show ((x : Int)).toNat = x by omega]
theorem t_hol {T : TV} {x : Nat} (hR : tR T ≤ 8192) (hx : x < tR T) : f_Tr_holderOf T (x : Int) = some (tHol T x) := by
  unfold f_Tr_holderOf
  rw [bd1_p (at_sp (by omega) hx)]
theorem Ar.ent {T : TV} {kl : Nat → List Nat} {Q : List Nat} (h : Ar T kl Q) {x y j : Nat} (hx : x ∈ Q) (hj : (kl x)[j]? = some y) : f_Tr_entryAt T (x : Int) (j : Int) = some (y : Int) := by
  have hi := h.2.2.2.2 x hx
  have hlt := (List.getElem?_eq_some_iff.mp hj).1
  have h6 := hi.2.2.1.2.1
  have hR := h.1.2
  have hxl := hi.1.1
  unfold f_Tr_entryAt
  rw [gd_p ⟨by omega, by omega⟩, if_neg (by omega), bd1_p (t_siz h.le hxl), hi.2.2.1.1, gd_p ⟨by omega, by omega⟩, if_pos (by omega), show (x : Int) * 6 + (j : Int) = ((6 * x + j : Nat) : Int) by omega, bd1_p (at_sp (by omega) (by omega)), hi.2.2.2.1 j y hj]
theorem Ar.isn {T : TV} {kl : Nat → List Nat} {Q : List Nat} (h : Ar T kl Q) {x : Nat} (hx : x ∈ Q) : f_Tr_isNode T (x : Int) = some (if x < 24 then 0 else 1) := by
  have hi := h.2.2.2.2 x hx
  have hR := h.1.2
  have hxl := hi.1.1
  have h0 : x < 24 ↔ tLev T x = -1 := hi.1.2.1
  have hlo := hi.1.2.2.1
  have hhi := hi.1.2.2.2
  unfold f_Tr_isNode
  rw [gd_p ⟨by omega, by omega⟩]
  by_cases hb : x < 24
  · rw [if_pos (by omega), if_pos hb]
  · have : ¬ tLev T x = -1 := fun e => hb (h0.mpr e)
    rw [if_neg (by omega), gd_p ⟨by omega, by omega⟩, if_pos (by omega), gd_p ⟨by omega, by omega⟩, show ((x : Int)).toNat = x by omega, gd_p ⟨by omega, by omega⟩, if_neg (by omega), if_neg hb]
theorem isn_none {T : TV} : f_Tr_isNode T (-1) = some 0 := by
  unfold f_Tr_isNode
  rw [gd_p ⟨by omega, by omega⟩, if_pos (by omega)]
/-- four sides laid -/
def set4 (c : Nat → Int) (x : Nat) (a0 a1 a2 a3 : Int) : Nat → Int := up (up (up (up c (4 * x) a0) (4 * x + 1) a1) (4 * x + 2) a2) (4 * x + 3) a3
theorem set4_o {c : Nat → Int} {x y t : Nat} {a0 a1 a2 a3 : Int} (h : y ≠ x) (ht : t < 4) : set4 c x a0 a1 a2 a3 (4 * y + t) = c (4 * y + t) := by
  unfold set4
  rw [up_o (by omega), up_o (by omega), up_o (by omega), up_o (by omega)]
theorem set4_s {c : Nat → Int} {x t : Nat} {a : Nat → Int} (ht : t < 4) : set4 c x (a 0) (a 1) (a 2) (a 3) (4 * x + t) = a t := by
  unfold set4
  rcases (show t = 0 ∨ t = 1 ∨ t = 2 ∨ t = 3 by omega) with rfl | rfl | rfl | rfl
  · rw [up_o (by omega), up_o (by omega), up_o (by omega)]; exact up_s
  · rw [up_o (by omega), up_o (by omega)]; exact up_s
  · rw [up_o (by omega)]; exact up_s
  · exact up_s
theorem setc_sp {T : TV} {x : Nat} {a0 a1 a2 a3 : Int} (hR : tR T ≤ 8192) (hx : x < tR T) : f_Tr_setCorners T (x : Int) a0 a1 a2 a3 = some (sCor T (set4 (tCor T) x a0 a1 a2 a3)) := by
  unfold f_Tr_setCorners
  rw [gd_p ⟨by omega, by omega⟩, if_neg (by omega), gd_p ⟨by omega, by omega⟩, if_neg (by omega), gd_p ⟨by omega, by omega⟩, gd_p ⟨by omega, by omega⟩, gd_p ⟨by omega, by omega⟩, gd_p ⟨by omega, by omega⟩, gd_p ⟨by omega, by omega⟩, gd_p ⟨by omega, by omega⟩, gd_p ⟨by omega, by omega⟩, show ((x : Int) * 4).toNat = 4 * x by omega, show ((x : Int) * 4 + 1).toNat = 4 * x + 1 by omega, show ((x : Int) * 4 + 2).toNat = 4 * x + 2 by omega, show ((x : Int) * 4 + 3).toNat = 4 * x + 3 by omega]
  rfl
theorem rf_in {T : TV} {kl : Nat → List Nat} {Q : List Nat} (h : Ar T kl Q) {x : Nat} (hx : x ∈ Q) (k : Int → Int → Int → Int → Int → Option TV) : ∀ (L D : List Nat) (n : Nat), kl x = D ++ L → L.length < n → f_Tr_refreshUp_L42 T (x : Int) ((kl x).length : Int) k n (cu (tCor T) 0 D) (cu (tCor T) 1 D) (cu (tCor T) 2 D) (cu (tCor T) 3 D) (D.length : Int) = k (cu (tCor T) 0 (kl x)) (cu (tCor T) 1 (kl x)) (cu (tCor T) 2 (kl x)) (cu (tCor T) 3 (kl x)) ((kl x).length : Int)
  | [], D, n + 1, e, hn => by
    have h6 := (h.siz hx).2
    rw [List.append_nil] at e
    rw [f_Tr_refreshUp_L42, ← e, gd_p ⟨by omega, by omega⟩, gd_p ⟨by omega, by omega⟩, if_neg (by omega)]
  | y :: L, D, n + 1, e, hn => by
    have h6 := (h.siz hx).2
    have hR := h.1.2
    have hxl := h.lt hx
    have hlen := congrArg List.length e
    rw [List.length_append, List.length_cons] at hlen
    have hj : (kl x)[D.length]? = some y := by rw [e, List.getElem?_append_right (Nat.le_refl _), Nat.sub_self]; rfl
    have hy : y ∈ kl x := List.mem_of_getElem? hj
    have hyq := (h.kid hx hy).1
    have hyl := h.lt hyq
    have hyr := h.rgx hyq
    have hD : ∀ z ∈ D, rg (tCor T) z := fun z hz => h.rgx (h.kid hx (by rw [e]; simp [hz])).1
    have g0 := cu_rg (c := tCor T) (t := 0) (by omega) hD
    have g1 := cu_rg (c := tCor T) (t := 1) (by omega) hD
    have g2 := cu_rg (c := tCor T) (t := 2) (by omega) hD
    have g3 := cu_rg (c := tCor T) (t := 3) (by omega) hD
    have hl : tLis T (6 * x + D.length) = (y : Int) := (h.2.2.2.2 x hx).2.2.2.1 _ _ hj
    rw [f_Tr_refreshUp_L42, gd_p ⟨by omega, by omega⟩, gd_p ⟨by omega, by omega⟩, if_pos (by omega), show (x : Int) * 6 + (D.length : Int) = ((6 * x + D.length : Nat) : Int) by omega, bd1_p (at_sp (by omega) (by omega)), hl, bd1_p (t_c0 h.le hyl), gd_p ⟨by omega, by omega⟩, gd_p (rg_ck hyr (by omega)), bd1_p (t_c1 h.le hyl), gd_p ⟨by omega, by omega⟩, gd_p (rg_ck hyr (by omega)), bd1_p (t_c2 h.le hyl), gd_p ⟨by omega, by omega⟩, gd_p (rg_ck hyr (by omega)), bd1_p (t_c3 h.le hyl), gd_p ⟨by omega, by omega⟩, gd_p (rg_ck hyr (by omega))]
    have := rf_in h hx k L (D ++ [y]) n (by rw [e]; simp) (by simp at hn; omega)
    rw [cu_snoc (by omega) hyr, cu_snoc (by omega) hyr, cu_snoc (by omega) hyr, cu_snoc (by omega) hyr, List.length_append, show ((D.length + [y].length : Nat) : Int) = (D.length : Int) + 1 by simp] at this
    exact this
/-- another row of corners -/
theorem Ar.cor {T : TV} {kl : Nat → List Nat} {Q : List Nat} (h : Ar T kl Q) {c : Nat → Int} (hc : ∀ x, x < tR T → rg c x) : Ar (sCor T c) kl Q := ⟨h.1, h.2.1, h.2.2.1, hc, h.2.2.2.2⟩
theorem rf_up {kl : Nat → List Nat} {Q : List Nat} (k : Int → Int → TV → Option TV) : ∀ (n d st : Nat) (T : TV) (x : Nat), Ar T kl Q → x ∈ Q → 24 ≤ x → tLev T x + (d : Int) = 21 → (∀ z ∈ Q, z ≠ x → Cr (tCor T) kl z) → st + d < 1000000 → d < n → ∃ (w : Int) (st' : Nat) (c : Nat → Int), f_Tr_refreshUp_L4 k n (x : Int) (st : Int) T = k w (st' : Int) (sCor T c) ∧ Ar (sCor T c) kl Q ∧ (∀ z ∈ Q, Cr c kl z) ∧ (∀ z t, t < 4 → (z < 24 ∨ tLev T z < tLev T x) → c (4 * z + t) = tCor T (4 * z + t))
  | 0, d, st, T, x, _, _, _, _, _, _, hn => absurd hn (by omega)
  | n + 1, d, st, T, x, h, hx, h24, hd, hz, hst, hn => by
    have hi := h.2.2.2.2 x hx
    have h6 := h.siz hx
    have hxl := h.lt hx
    have hR := h.1.2
    have h0 : x < 24 ↔ tLev T x = -1 := hi.1.2.1
    have hlo := hi.1.2.2.1
    have hhi := hi.1.2.2.2
    have hlv : ¬ tLev T x = -1 := fun e => by have := h0.mpr e; omega
    have hd1 : d ≠ 0 := fun q => by have := hi.1.2.2.2; omega
    have hall : ∀ y ∈ kl x, rg (tCor T) y := fun y hy => h.rgx (h.kid hx hy).1
    have hcc : ∀ z, z < tR T → rg (set4 (tCor T) x (cu (tCor T) 0 (kl x)) (cu (tCor T) 1 (kl x)) (cu (tCor T) 2 (kl x)) (cu (tCor T) 3 (kl x))) z := fun z hzl t ht => by
      by_cases hzx : z = x
      · subst hzx
        rw [set4_s (a := fun t => cu (tCor T) t (kl z)) ht]
        exact cu_rg ht hall
      · rw [set4_o hzx ht]
        exact h.2.2.2.1 z hzl t ht
    have h' := h.cor hcc
    have hcr : ∀ z ∈ Q, x ∉ kl z → Cr (set4 (tCor T) x (cu (tCor T) 0 (kl x)) (cu (tCor T) 1 (kl x)) (cu (tCor T) 2 (kl x)) (cu (tCor T) 3 (kl x))) kl z := fun z hzq hxz h1 h2 t ht => by
      rw [cu_same (c := tCor T) (fun y hy => set4_o (fun e => hxz (by rw [← e]; exact hy)) ht)]
      by_cases hzx : z = x
      · subst hzx
        exact set4_s (a := fun t => cu (tCor T) t (kl z)) ht
      · rw [set4_o hzx ht]
        exact hz z hzq hzx h1 h2 t ht
    rw [f_Tr_refreshUp_L4, bd1_p (h.isn hx), if_neg (by omega), gd_p ⟨by omega, by omega⟩, if_neg (by omega), gd_p ⟨by omega, by omega⟩, if_pos (by omega), bd1_p (t_siz h.le hxl), h6.1]
    have hin := rf_in h hx (fun x4_41 x5_42 x6_43 x7_44 x9_45 => bd1 (f_Tr_setCorners T (x : Int) x4_41 x5_42 x6_43 x7_44) <| fun T_46 => bd1 (f_Rt_at (tR T_46) (tHol T_46) (x : Int)) <| fun r_49 => f_Tr_refreshUp_L4 k n (r_49) (((st : Int) + 1)) (T_46)) (kl x) [] FU rfl (by have := h6.2; unfold FU; omega)
    rw [show f_Tr_refreshUp_L42 T (x : Int) ((kl x).length : Int) (fun x4_41 x5_42 x6_43 x7_44 x9_45 => bd1 (f_Tr_setCorners T (x : Int) x4_41 x5_42 x6_43 x7_44) <| fun T_46 => bd1 (f_Rt_at (tR T_46) (tHol T_46) (x : Int)) <| fun r_49 => f_Tr_refreshUp_L4 k n (r_49) (((st : Int) + 1)) (T_46)) FU 99 99 0 0 0 = _ from hin, bd1_p (setc_sp h.le hxl), bd1_p (at_sp (n := tR T) (f := tHol T) (by omega) hxl)]
    rcases hi.2.2.2.2.2 with hh | ⟨z, hzq, hz24, hh, hzl⟩
    · refine ⟨-1, st + 1, _, ?_, h', fun z hzq => hcr z hzq (fun hxz => ?_), fun z t ht hq => set4_o (fun e => by subst e; omega) ht⟩
      · rw [hh]
        cases n with
        | zero => omega
        | succ n =>
          rw [f_Tr_refreshUp_L4, bd1_p isn_none, gd_p ⟨by omega, by omega⟩, if_pos rfl]
          rfl
      · have := (h.kid hzq hxz).2.1
        omega
    · obtain ⟨w, st', c, e1, e2, e3, e4⟩ := rf_up k n (d - 1) (st + 1) _ z h' hzq hz24 (by show tLev T z + _ = 21; omega) (fun y hyq hyz => hcr y hyq (fun hxy => hyz (by
        have := (h.kid hyq hxy).2.1
        omega))) (by omega) (by omega)
      refine ⟨w, st', c, ?_, e2, e3, fun y t ht hq => ?_⟩
      · rw [hh, show (st : Int) + 1 = ((st + 1 : Nat) : Int) by omega]
        exact e1
      · rw [e4 y t ht (hq.imp id (fun q => by show tLev T y < tLev T z; omega))]
        exact set4_o (fun e => by subst e; omega) ht
theorem refresh_sp {T : TV} {kl : Nat → List Nat} {Q : List Nat} {x : Nat} (h : Ar T kl Q) (hx : x ∈ Q) (h24 : 24 ≤ x) (hz : ∀ z ∈ Q, z ≠ x → Cr (tCor T) kl z) : ∃ c, f_Tr_refreshUp T (x : Int) = some (sCor T c) ∧ Ar (sCor T c) kl Q ∧ (∀ z ∈ Q, Cr c kl z) ∧ (∀ z t, t < 4 → (z < 24 ∨ tLev T z < tLev T x) → c (4 * z + t) = tCor T (4 * z + t)) := by
  have hi := (h.2.2.2.2 x hx).1
  obtain ⟨w, st, c, e1, e2, e3, e4⟩ := rf_up (fun x2_52 x3_53 T_54 => some (T_54)) FU (21 - tLev T x).toNat 0 T x h hx h24 (by omega) hz (by omega) (by unfold FU; omega)
  exact ⟨c, e1, e2, e3, e4⟩
