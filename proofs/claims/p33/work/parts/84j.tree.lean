/-! the law's check of the whole tree -/
def lfs (T : TV) (kl : Nat → List Nat) (L : List Nat) : List Nat := L.flatMap (fun w => if tLev T w = 0 then kl w else [])
theorem lfs_mem {T : TV} {kl : Nat → List Nat} {L : List Nat} {i : Nat} : i ∈ lfs T kl L ↔ ∃ w ∈ L, tLev T w = 0 ∧ i ∈ kl w := by
  unfold lfs
  rw [List.mem_flatMap]
  constructor
  · rintro ⟨w, hw, hi⟩
    by_cases h0 : tLev T w = 0
    · rw [if_pos h0] at hi
      exact ⟨w, hw, h0, hi⟩
    · rw [if_neg h0] at hi
      cases hi
  · rintro ⟨w, hw, h0, hi⟩
    exact ⟨w, hw, by rw [if_pos h0]; exact hi⟩
theorem lfs_snoc {T : TV} {kl : Nat → List Nat} {L : List Nat} {w i : Nat} : i ∈ lfs T kl (L ++ [w]) ↔ i ∈ lfs T kl L ∨ (tLev T w = 0 ∧ i ∈ kl w) := by
  rw [lfs_mem, lfs_mem]
  constructor
  · rintro ⟨z, hz, q⟩
    rcases List.mem_append.mp hz with hz | hz
    · exact Or.inl ⟨z, hz, q⟩
    · rw [List.mem_singleton.mp hz] at q
      exact Or.inr q
  · rintro (⟨z, hz, q⟩ | q)
    · exact ⟨z, List.mem_append_left _ hz, q⟩
    · exact ⟨w, by simp, q⟩
theorem is_ok {T : TV} {K : KV} {kl : Nat → List Nat} {Q : List Nat} {r v w n : Nat} {s : Nat → Int} {A B : List Nat} (O : Nm T K kl Q r s) (P : Pa T kl r v w A B) (k : Int → Option Int) : f_Lw_isTree_L112 T (v : Int) (tLev T w) ((kl w).length : Int) k (n + 1) 0 = k 1 := by
  obtain ⟨J, h, hr, hrow, hR⟩ := O.parts
  obtain ⟨hw, hp, e1, e2⟩ := pl_in O P
  have hl0 := lev0 h hw P.2.2.1
  have hc := h.ckl hw
  have hcr := h.ckl hr
  have hsz := h.siz hw
  have hn := pl_node O P
  have hn2 := nds_len O
  have hz := pl_zero O P
  rw [f_Lw_isTree_L112, gd_p ⟨by omega, by omega⟩]
  by_cases hv : v = 0
  · have hwr := hz.mp hv
    subst hwr
    have hrt := O.1.2.2.1
    unfold Rt2 at hrt
    rw [if_pos (by omega), gd_p hc, if_neg (by omega)]
    by_cases h00 : tLev T w = 0
    · rw [if_pos h00]
    · rw [if_neg h00, gd_p ⟨by omega, by omega⟩, if_pos (by omega)]
  · have hwr : w ≠ r := fun q => hv (hz.mpr q)
    have hin := pr_in h.lk r hr w hp
    have hlt : tLev T w < tLev T r := by
      have := hin.2.1
      have : tLev T w ≠ tLev T r := fun q => hwr (hin.2.2 q)
      omega
    have hne : kl w ≠ [] := fun q => hwr (J.2.2.2.2.2 w hw P.2.2.1 q).1
    have hpos : 0 < (kl w).length := List.length_pos_iff.mpr hne
    rw [if_neg (by omega), gd_p hc, if_neg (by omega), bd1_p (a_height O), gd_p hcr, if_pos hlt, gd_p ⟨by omega, by omega⟩, if_pos (by omega)]
theorem lev1_full {T : TV} {K : KV} {kl : Nat → List Nat} {Q : List Nat} {r v w : Nat} {s : Nat → Int} {A B : List Nat} (O : Nm T K kl Q r s) (P : Pa T kl r v w A B) (h1 : 0 < tLev T w) : 1 < (pr (tLev T) kl r).length := by
  obtain ⟨J, h, hr, hrow, hR⟩ := O.parts
  obtain ⟨hw, hp, e1, e2⟩ := pl_in O P
  rcases Nat.lt_or_ge 1 (pr (tLev T) kl r).length with q | q
  · exact q
  · exfalso
    obtain ⟨e3, hk, -⟩ := lone O (by omega)
    have hwr : w = r := by
      rw [e3] at hp
      exact List.mem_singleton.mp hp
    subst hwr
    have := (J.2.2.2.2.2 w hr P.2.2.1 hk).2
    omega
theorem tr_go {T : TV} {K : KV} {kl : Nat → List Nat} {Q : List Nat} {r : Nat} {s bx : Nat → Int} (O : Nm T K kl Q r s) (X : Bk T Q bx) (k : Int → Int → Option Int) : ∀ (V U : List Nat) (n : Nat) (x : Int), nds T kl r = U ++ V → V.length < n → Mk x (fun i => i ∈ lfs T kl U) → ∃ x', f_Lw_isTree_L90 24 T K bx ((nds T kl r).length : Int) k n x (U.length : Int) = k x' ((nds T kl r).length : Int) ∧ Mk x' (fun i => i ∈ lfs T kl (nds T kl r))
  | [], U, n + 1, x, e, hn, hM => by
    have hn2 := nds_len O
    rw [List.append_nil] at e
    refine ⟨x, ?_, by rw [e]; exact hM⟩
    rw [f_Lw_isTree_L90, ← e, gd_p ⟨by omega, by omega⟩, gd_p ⟨by omega, by omega⟩, if_neg (by omega)]
  | w :: V, U, n + 1, x, e, hn, hM => by
    obtain ⟨J, h, hr, hrow, hR⟩ := O.parts
    have hn2 := nds_len O
    have hle := congrArg List.length e
    rw [List.length_append, List.length_cons] at hle
    rw [List.length_cons] at hn
    obtain ⟨A, B, P⟩ := pl_mid O e
    obtain ⟨hw, hp, e1, e2⟩ := pl_in O P
    have hsz := h.siz hw
    have hc := h.ckl hw
    have hl0 := lev0 h hw P.2.2.1
    have e3 : nds T kl r = (U ++ [w]) ++ V := by rw [e]; simp
    have hl1 : (U ++ [w]).length = U.length + 1 := by rw [List.length_append, List.length_singleton]
    have hnd : (nds T kl r).Nodup := (pr_nodup h r hr).filter _
    rw [f_Lw_isTree_L90, gd_p ⟨by omega, by omega⟩, gd_p ⟨by omega, by omega⟩, if_pos (by omega), bd1_p (a_level O P), bd1_p (a_entries O P)]
    have hno1 := a_entry_no O P (x := ((kl w).length : Int)) ⟨by omega, by omega⟩ (Or.inr (Int.le_refl _))
    have hno2 := a_entry_no O P (x := -1) ⟨by omega, by omega⟩ (Or.inl (by omega))
    by_cases h1 : 0 < tLev T w
    · have hM2 : Mk x (fun i => i ∈ lfs T kl (U ++ [w])) := hM.iff (fun i _ => ⟨fun q => lfs_snoc.mpr (Or.inl q), fun q => (lfs_snoc.mp q).elim id (fun z => absurd z.1 (by omega))⟩)
      obtain ⟨x', i1, i2⟩ := tr_go O X k V (U ++ [w]) n x e3 (by omega) hM2
      rw [hl1] at i1
      refine ⟨x', ?_, i2⟩
      refine Eq.trans (is_ok (n := 4095) O P _) ?_
      have hx := hM.ck
      rw [gd_p ck_1, if_neg (by omega), gd_p ⟨by omega, by omega⟩, if_neg (by omega), bd1_p hno1, gd_p ⟨by omega, by omega⟩, if_pos rfl, bd1_p hno2, gd_p ⟨by omega, by omega⟩, if_pos rfl, gd_p hc, if_pos h1, bd1_p (a_isNode O P (by omega) (lev1_full O P h1)), gd_p ck_1, if_neg (by omega), show FU = 4095 + 1 from rfl, f_Lw_isTree_L221, gd_p hc, if_pos h1, gd_p hx.1, if_neg (by omega), show (U.length : Int) + 1 = ((U.length + 1 : Nat) : Int) by omega]
      exact i1
    · have h0 : tLev T w = 0 := by omega
      have hwU : w ∉ U := fun q => by
        rw [e] at hnd
        exact (List.nodup_append.mp hnd).2.2 w q w List.mem_cons_self rfl
      obtain ⟨x1, j1, j2⟩ := a_leaf O X P h0 hM (fun y hy q => by
        obtain ⟨z, hz, hz0, hyz⟩ := lfs_mem.mp q
        have hzQ : z ∈ Q := by
          have hzn : z ∈ nds T kl r := by rw [e]; simp [hz]
          exact (pr_in h.lk r hr z (fl_mem.mp hzn).1).1
        have := h.one hzQ hw hyz hy
        exact hwU (this ▸ hz))
      have hM2 : Mk x1 (fun i => i ∈ lfs T kl (U ++ [w])) := j2.iff (fun i _ => ⟨fun q => lfs_snoc.mpr (q.imp id (fun z => ⟨h0, z⟩)), fun q => (lfs_snoc.mp q).imp id (fun z => z.2)⟩)
      obtain ⟨x', i1, i2⟩ := tr_go O X k V (U ++ [w]) n x1 e3 (by omega) hM2
      rw [hl1] at i1
      refine ⟨x', ?_, i2⟩
      refine Eq.trans (is_ok (n := 4095) O P _) ?_
      have hx := j2.ck
      rw [gd_p ck_1, if_neg (by omega), gd_p ⟨by omega, by omega⟩, if_neg (by omega), bd1_p hno1, gd_p ⟨by omega, by omega⟩, if_pos rfl, bd1_p hno2, gd_p ⟨by omega, by omega⟩, if_pos rfl, gd_p hc, if_neg h1, show FU = 4095 + 1 from rfl, f_Lw_isTree_L221, gd_p hc, if_neg h1, bd1_p j1, gd_p hx.1, if_neg (by omega), show (U.length : Int) + 1 = ((U.length + 1 : Nat) : Int) by omega]
      exact i1
/-- the boxes that the leaves hold are all that there are -/
theorem lfs_all {T : TV} {K : KV} {kl : Nat → List Nat} {Q : List Nat} {r : Nat} {s : Nat → Int} (O : Nm T K kl Q r s) : ∀ i, i < 24 → (i ∈ lfs T kl (nds T kl r) ↔ i ∈ Q) := fun i hi => by
  obtain ⟨J, h, hr, hrow, hR⟩ := O.parts
  rw [lfs_mem]
  constructor
  · rintro ⟨w, hw, h0, hk⟩
    exact (h.kid (pr_in h.lk r hr w (fl_mem.mp hw).1).1 hk).1
  · intro hq
    have hir : i ≠ r := fun q => by have := J.2.1.2.1; omega
    obtain ⟨z, hz, hzk⟩ := pr_up h.lk r hr i (O.1.2.1 i hq) hir
    have hzQ := (pr_in h.lk r hr z hz).1
    have hz24 := h.node hzQ hzk
    have hk := h.kid hzQ hzk
    have := (h.lev24 hq).mp hi
    exact ⟨z, fl_mem.mpr ⟨hz, by omega⟩, by omega, hzk⟩
theorem nbx_pos {Q : List Nat} {b : Nat} (hb : b < 24) (hq : b ∈ Q) : 0 < nbx Q 24 := by
  unfold nbx
  exact List.countP_pos_iff.mpr ⟨b, List.mem_range.mpr hb, decide_eq_true hq⟩
theorem nbx_zero {T : TV} {K : KV} {kl : Nat → List Nat} {Q : List Nat} {r : Nat} {s : Nat → Int} (O : Nm T K kl Q r s) (h0 : nbx Q 24 = 0) : kl r = [] ∧ nds T kl r = [r] := by
  obtain ⟨J, h, hr, hrow, hR⟩ := O.parts
  have hk : kl r = [] := by
    by_cases hk : kl r = []
    · exact hk
    · exfalso
      obtain ⟨b, hb⟩ := List.exists_mem_of_ne_nil _ (J.box r hr (fun _ => hk)).1
      have hb2 := bxs_mem.mp hb
      have := nbx_pos hb2.2 (pr_in h.lk r hr b hb2.1).1
      omega
  refine ⟨hk, ?_⟩
  show fl 1 (pr (tLev T) kl r) = [r]
  rw [pr_eq (Lk_at h.lk hr), hk, prs_nil, fl_cons, if_pos J.2.1.2.1]
  rfl
theorem sd_go {T : TV} {K : KV} {kl : Nat → List Nat} {Q : List Nat} {r b : Nat} {s bx : Nat → Int} (O : Nm T K kl Q r s) (X : Bk T Q bx) (hb : b < 24) (k : Int → Int → Option Int) : ∀ (d t n : Nat), t + d = 4 → d < n → f_Lw_isTree_L354 24 T bx (b : Int) k n 1 (t : Int) = k 1 4
  | 0, t, n + 1, hi, hn => by
    have ht : t = 4 := by omega
    subst ht
    rw [f_Lw_isTree_L354, gd_p ⟨by omega, by omega⟩, if_neg (by omega)]
    rfl
  | d + 1, t, n + 1, hi, hn => by
    have h := O.parts.2.1
    have ht : t < 4 := by omega
    have hbn := X.neg h hb
    have ih := sd_go O X hb k d (t + 1) n (by omega) (by omega)
    rw [f_Lw_isTree_L354, gd_p ⟨by omega, by omega⟩, if_pos (by omega), gd_p ck_1, if_neg (by omega), show FU = 4095 + 1 from rfl, f_Lw_isTree_L365, bd1_p (a_side O hb ht), gd_p ⟨by omega, by omega⟩, gd_p ⟨by omega, by omega⟩, show ((b : Int)).toNat = b by omega, gd_p hbn.2, show (t : Int) + 1 = ((t + 1 : Nat) : Int) by omega]
    by_cases hq : b ∈ Q
    · have hrY := rg_ck (t := t) (h.rgx hq) ht
      rw [if_neg (fun z => (hbn.1.mp z) hq), bd1_p (X.cn h hb hq ht), if_pos hq, gd_p hrY, gd_p hrY, if_pos rfl]
      exact ih
    · rw [if_pos (hbn.1.mpr hq), if_neg hq, gd_p ⟨by omega, by omega⟩, if_pos rfl]
      exact ih
theorem rw_go {T : TV} {K : KV} {kl : Nat → List Nat} {Q : List Nat} {r : Nat} {s bx : Nat → Int} {x : Int} (O : Nm T K kl Q r s) (X : Bk T Q bx) (hM : Mk x (fun i => i ∈ Q)) (k : Int → Int → Option Int) : ∀ (d b n : Nat), b + d = 24 → d < n → f_Lw_isTree_L302 24 T bx x k n 1 (b : Int) = k 1 24
  | 0, b, n + 1, hi, hn => by
    have hb : b = 24 := by omega
    subst hb
    rw [f_Lw_isTree_L302, gd_p ⟨by omega, by omega⟩, if_neg (by omega)]
    rfl
  | d + 1, b, n + 1, hi, hn => by
    have h := O.parts.2.1
    have hb : b < 24 := by omega
    have hbn := X.neg h hb
    have ih := rw_go O X hM k d (b + 1) n (by omega) (by omega)
    have hs := sd_go O X hb (fun x5_160 x7_161 => f_Lw_isTree_L302 24 T bx x k n (x5_160) (((b : Int) + 1))) 4 0 4096 rfl (by omega)
    rw [f_Lw_isTree_L302, gd_p ⟨by omega, by omega⟩, if_pos (by omega), gd_p ck_1, if_neg (by omega), show FU = 4095 + 1 from rfl, f_Lw_isTree_L314, gd_p ⟨by omega, by omega⟩, gd_p ⟨by omega, by omega⟩, show ((b : Int)).toNat = b by omega, gd_p hbn.2]
    have hs2 : f_Lw_isTree_L354 24 T bx (b : Int) (fun x5_160 x7_161 => f_Lw_isTree_L302 24 T bx x k n (x5_160) (((b : Int) + 1))) (4095 + 1) 1 0 = f_Lw_isTree_L302 24 T bx x k n 1 (((b : Int) + 1)) := hs
    rw [show (b : Int) + 1 = ((b + 1 : Nat) : Int) by omega] at hs2
    rw [show (b : Int) + 1 = ((b + 1 : Nat) : Int) by omega]
    by_cases hq : b ∈ Q
    · rw [if_neg (fun z => (hbn.1.mp z) hq), (hM.bit hb).1 hq, if_neg (by omega), hs2]
      exact ih
    · rw [if_pos (hbn.1.mpr hq), (hM.bit hb).2 hq, if_pos rfl, hs2]
      exact ih
theorem fil_split : ∀ L : List Nat, (fl 1 L).length + (bxs L).length = L.length
  | [] => rfl
  | y :: L => by
    have ih := fil_split L
    rw [fl_cons]
    by_cases h : 24 ≤ y
    · have hb : bxs (y :: L) = bxs L := by unfold bxs; rw [List.filter_cons_of_neg (by simp; omega)]
      rw [if_pos h, hb, List.length_cons, List.length_cons]
      omega
    · have hb : bxs (y :: L) = y :: bxs L := by unfold bxs; rw [List.filter_cons_of_pos (by simp; omega)]
      rw [if_neg h, hb, List.length_cons, List.length_cons]
      omega
theorem nbx_bxs {T : TV} {K : KV} {kl : Nat → List Nat} {Q : List Nat} {r : Nat} {s : Nat → Int} (O : Nm T K kl Q r s) : nbx Q 24 = (bxs (pr (tLev T) kl r)).length := by
  obtain ⟨J, h, hr, hrow, hR⟩ := O.parts
  have h1 : nbx Q 24 = ((List.range 24).filter (fun b => decide (b ∈ Q))).length := List.countP_eq_length_filter
  rw [h1]
  have n1 : ((List.range 24).filter (fun b => decide (b ∈ Q))).Nodup := List.nodup_range.filter _
  have n2 : (bxs (pr (tLev T) kl r)).Nodup := (pr_nodup h r hr).filter _
  have hm : ∀ b, b ∈ (List.range 24).filter (fun b => decide (b ∈ Q)) ↔ b ∈ bxs (pr (tLev T) kl r) := fun b => by
    rw [List.mem_filter, List.mem_range, bxs_mem, decide_eq_true_eq]
    exact ⟨fun q => ⟨O.1.2.1 b q.2, q.1⟩, fun q => ⟨q.2, (pr_in h.lk r hr b q.1).1⟩⟩
  exact Nat.le_antisymm (sub_len n1 (fun b hb => (hm b).mp hb)) (sub_len n2 (fun b hb => (hm b).mpr hb))
theorem a_fill {T : TV} {K : KV} {kl : Nat → List Nat} {Q : List Nat} {r : Nat} {s : Nat → Int} (O : Nm T K kl Q r s) : f_Rt_fill T K = some (flv T kl r) ∧ flv T kl r &&& (0x7fffffff : UInt32) ≤ (0x7f800000 : UInt32) ∧ fCmp (flv T kl r) (flv T kl r) = 0 := by
  obtain ⟨J, h, hr, hrow, hRR⟩ := O.parts
  have hl := hrow.2.1
  have hfl := fl_len (pr (tLev T) kl r)
  have hs := set_sp O
  have hp1 : 1 ≤ (fl 1 (pr (tLev T) kl r)).length := by
    rw [pr_eq (Lk_at h.lk hr), fl_cons, if_pos J.2.1.2.1, List.length_cons]
    omega
  have hb : 0 < ((fl 1 (pr (tLev T) kl r)).length : Int) * tCap T ∧ ((fl 1 (pr (tLev T) kl r)).length : Int) * tCap T ≤ 1800 := by
    rcases (show tCap T = 3 ∨ tCap T = 4 ∨ tCap T = 5 by omega) with q | q | q <;> rw [q] <;> omega
  have hne : Int32.ofInt (((fl 1 (pr (tLev T) kl r)).length : Int) * tCap T) ≠ 0 := fun q => by
    have h1 := congrArg Int32.toInt q
    rw [ck_toInt ⟨by omega, by omega⟩] at h1
    have h2 : (0 : Int32).toInt = 0 := rfl
    omega
  obtain ⟨h1, h2, h3⟩ := fl_num (a := Int32.ofInt (((pr (tLev T) kl r).length : Int) - 1)) hne
  refine ⟨(q_fill O h1).1, h1, ?_⟩
  have hc : FP.fcmp (flv T kl r) (flv T kl r) = some .eq := FP.Core.fcmp_refl (nan32 h1)
  unfold fCmp
  rw [hc]
  rfl
theorem a_isTree {T : TV} {K : KV} {kl : Nat → List Nat} {Q : List Nat} {r : Nat} {s bx : Nat → Int} (O : Nm T K kl Q r s) (X : Bk T Q bx) : f_Lw_isTree 24 T K bx = some 1 := by
  obtain ⟨J, h, hr, hrow, hR⟩ := O.parts
  have hn := nds_len O
  have hcr := h.ckl hr
  have hn24 := nbx_le (Q := Q) (i := 24)
  have P0 := pl_root O
  have hs := set_sp O
  have k1 : ck ((nds T kl r).length : Int) := ⟨by omega, by omega⟩
  have km : ck (-1 : Int) := ⟨by omega, by omega⟩
  have l0 : f_Rt_level T K 0 = some (tLev T r) := a_level O P0
  have b4 : f_Rt_bound T K 0 4 = some (-2) := a_bound_4 O P0
  obtain ⟨x', t1, t2⟩ := tr_go O X (fun x4_102 x5_103 => f_Lw_isTree_L255 (T) (K) ((nds T kl r).length : Int) ((nbx Q 24 : Nat) : Int) (x4_102) (fun x5_124 => f_Lw_isTree_L302 (24) (T) (bx) (x4_102) (fun x5_162 x6_163 => gd (ck x5_162) <| if x5_162 = 0 then (some (0)) else (bd1 (f_Rt_fill T K) <| fun r_166 => bd1 (f_Rt_setting T 0) <| fun r_169 => gd ((FP.fdiv (FP.i2f (Int32.ofInt ((((nds T kl r).length : Int) - 1) + ((nbx Q 24 : Nat) : Int)))) (FP.i2f (Int32.ofInt (((nds T kl r).length : Int) * r_169)))) &&& (0x7fffffff : UInt32) ≤ (0x7f800000 : UInt32)) <| if (fCmp r_166 (FP.fdiv (FP.i2f (Int32.ofInt ((((nds T kl r).length : Int) - 1) + ((nbx Q 24 : Nat) : Int)))) (FP.i2f (Int32.ofInt (((nds T kl r).length : Int) * r_169))))) = 0 then (some (1)) else (some (0)))) FU (x5_124) (0)) FU (0)) (nds T kl r) [] FU 0 rfl (by unfold FU; omega) (Mk.zero.iff (fun i _ => ⟨fun q => q.elim, fun q => by cases q⟩))
  have hMQ : Mk x' (fun i => i ∈ Q) := t2.iff (lfs_all O)
  obtain ⟨xb, c1, c2⟩ := a_boxes O
  have hxb : x' = xb := hMQ.uniq c2 (fun _ _ => Iff.rfl)
  have hxc := c2.ck
  unfold f_Lw_isTree
  rw [bd1_p (a_nodes O), bd1_p (many_sp X h), gd_p k1, if_neg (by omega), if_neg (by omega), bd1_p l0, bd1_p (a_height O), gd_p hcr, gd_p hcr, if_pos rfl, bd1_p (a_level_no O k1 (Or.inr (Int.le_refl _))), gd_p km, if_pos rfl, bd1_p (a_level_no O km (Or.inl (by omega))), gd_p km, if_pos rfl, bd1_p (a_entries_no O k1 (Or.inr (Int.le_refl _))), gd_p km, if_pos rfl, bd1_p (a_bound_no O k1 (Or.inr (Int.le_refl _))), gd_p km, if_pos rfl, bd1_p b4, gd_p ⟨by omega, by omega⟩, if_pos rfl]
  refine Eq.trans t1 ?_
  have h255 : ∀ K9 : Int → Option Int, f_Lw_isTree_L255 T K ((nds T kl r).length : Int) ((nbx Q 24 : Nat) : Int) x' K9 FU 0 = K9 1 := fun K9 => by
    rw [show FU = 4095 + 1 from rfl, f_Lw_isTree_L255, bd1_p c1, hxb, gd_p hxc.1, gd_p hxc.1, if_pos rfl, gd_p ⟨by omega, by omega⟩]
    by_cases h0 : nbx Q 24 = 0
    · obtain ⟨z1, z2⟩ := nbx_zero O h0
      have e0 : f_Rt_entries T K 0 = some 0 := by
        have := a_entries O P0
        rw [z1] at this
        exact this
      have b0 : f_Rt_bound T K 0 0 = some (-5) := (a_bound (t := 0) O P0 (by omega)).2 z1
      have hl1 : ((nds T kl r).length : Int) = 1 := by rw [z2]; rfl
      rw [if_neg (by omega), hl1, gd_p ck_1, if_pos rfl, bd1_p e0, gd_p ck_0, if_pos rfl, bd1_p b0, gd_p ⟨by omega, by omega⟩, if_pos rfl]
    · rw [if_pos (by omega)]
  refine Eq.trans (h255 _) ?_
  refine Eq.trans (rw_go O X hMQ _ 24 0 FU rfl (by unfold FU; omega)) ?_
  obtain ⟨f1, f2, f3⟩ := a_fill O
  have hlen : (nds T kl r).length + (bxs (pr (tLev T) kl r)).length = (pr (tLev T) kl r).length := fil_split (pr (tLev T) kl r)
  have hnb := nbx_bxs O
  have hfl : FP.fdiv (FP.i2f (Int32.ofInt ((((nds T kl r).length : Int) - 1) + ((nbx Q 24 : Nat) : Int)))) (FP.i2f (Int32.ofInt (((nds T kl r).length : Int) * tCap T))) = flv T kl r := by
    unfold flv
    rw [show (((nds T kl r).length : Int) - 1) + ((nbx Q 24 : Nat) : Int) = ((pr (tLev T) kl r).length : Int) - 1 by omega]
  rw [gd_p ck_1, if_neg (by omega), bd1_p f1, bd1_p get0, hfl, gd_p f2, if_pos f3]
