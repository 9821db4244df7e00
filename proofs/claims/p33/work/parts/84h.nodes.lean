/-! the law's check of a node above the leaves -/
theorem pl_get {T : TV} {K : KV} {kl : Nat → List Nat} {Q : List Nat} {r v y : Nat} {s : Nat → Int} (O : Nm T K kl Q r s) (h : (nds T kl r)[v]? = some y) : ∃ A B : List Nat, Pa T kl r v y A B := by
  obtain ⟨w, A, B, P⟩ := pl_of O (List.getElem?_eq_some_iff.mp h).1
  have h2 := (pl_node O P).2.2.1
  rw [h] at h2
  have e : y = w := Option.some.inj h2
  rw [e]
  exact ⟨A, B, P⟩
theorem pl_mid {T : TV} {K : KV} {kl : Nat → List Nat} {Q : List Nat} {r y : Nat} {s : Nat → Int} {U V : List Nat} (O : Nm T K kl Q r s) (e : nds T kl r = U ++ y :: V) : ∃ A B : List Nat, Pa T kl r U.length y A B := pl_get O (by rw [e, List.getElem?_append_right (Nat.le_refl _), Nat.sub_self]; rfl)
theorem bh_go {T : TV} {K : KV} {kl : Nat → List Nat} {Q : List Nat} {r : Nat} {s : Nat → Int} {l : Int} (O : Nm T K kl Q r s) (hl : ck l) (k : Int → Option Int) : ∀ (F2 U G : List Nat) (n : Nat), nds T kl r = U ++ (F2 ++ G) → (∀ y ∈ F2, tLev T y < l) → stops (tLev T) l G → F2.length < n → f_Lw_behind_L5 T K l ((nds T kl r).length : Int) k n (U.length : Int) = k ((U.length + F2.length : Nat) : Int)
  | [], U, G, n + 1, e, h1, hG, hn => by
    have hn2 := nds_len O
    have hle := congrArg List.length e
    rw [List.nil_append, List.length_append] at hle
    rw [f_Lw_behind_L5, gd_p ⟨by omega, by omega⟩, gd_p ⟨by omega, by omega⟩]
    cases G with
    | nil =>
      rw [List.length_nil] at hle
      rw [if_neg (by omega)]
      rfl
    | cons y G =>
      rw [List.length_cons] at hle
      obtain ⟨A, B, P⟩ := pl_mid O (U := U) (y := y) (V := G) e
      have hy := hG y G rfl
      have hc := O.parts.2.1.ckl (pl_in O P).1
      rw [if_pos (by omega), bd1_p (a_level O P), gd_p hc, gd_p hl, if_neg (by omega)]
      rfl
  | y :: F2, U, G, n + 1, e, h1, hG, hn => by
    have hn2 := nds_len O
    have hle := congrArg List.length e
    rw [List.length_append, List.length_append, List.length_cons] at hle
    rw [List.length_cons] at hn
    obtain ⟨A, B, P⟩ := pl_mid O (U := U) (y := y) (V := F2 ++ G) e
    have hy := h1 y List.mem_cons_self
    have hc := O.parts.2.1.ckl (pl_in O P).1
    have e2 : nds T kl r = (U ++ [y]) ++ (F2 ++ G) := by rw [e]; simp
    have hl1 : (U ++ [y]).length = U.length + 1 := by rw [List.length_append, List.length_singleton]
    have ih := bh_go O hl k F2 (U ++ [y]) G n e2 (fun z hz => h1 z (List.mem_cons_of_mem _ hz)) hG (by omega)
    rw [hl1] at ih
    rw [f_Lw_behind_L5, gd_p ⟨by omega, by omega⟩, gd_p ⟨by omega, by omega⟩, if_pos (by omega), bd1_p (a_level O P), gd_p hc, gd_p hl, if_pos hy, show (U.length : Int) + 1 = ((U.length + 1 : Nat) : Int) by omega, ih, List.length_cons, show U.length + 1 + F2.length = U.length + (F2.length + 1) by omega]
theorem stops_fl {T : TV} {kl : Nat → List Nat} {Q : List Nat} (h : Ar T kl Q) {l : Int} (hl : 0 ≤ l) {B : List Nat} (hB : ∀ y ∈ B, y ∈ Q) (hs : stops (tLev T) l B) : stops (tLev T) l (fl 1 B) := by
  cases B with
  | nil => exact stops_nil
  | cons z B =>
    have hz := hs z B rfl
    have hzQ := hB z List.mem_cons_self
    have h24 : 24 ≤ z := by
      rcases Nat.lt_or_ge z 24 with q | q
      · have := (h.lev24 hzQ).mp q
        omega
      · exact q
    rw [fl_cons, if_pos h24]
    exact stops_cons hz
theorem a_behind {T : TV} {K : KV} {kl : Nat → List Nat} {Q : List Nat} {r v w : Nat} {s : Nat → Int} {A B : List Nat} (O : Nm T K kl Q r s) (P : Pa T kl r v w A B) : f_Lw_behind T K (v : Int) (tLev T w) ((nds T kl r).length : Int) = some ((v + (fl 1 (pr (tLev T) kl w)).length : Nat) : Int) := by
  obtain ⟨J, h, hr, hrow, hR⟩ := O.parts
  obtain ⟨hw, hp, e1, e2⟩ := pl_in O P
  have hl0 := lev0 h hw P.2.2.1
  have e3 : nds T kl r = (fl 1 A ++ [w]) ++ (fl 1 (prs (tLev T) kl (kl w)) ++ fl 1 B) := by rw [e1]; simp
  have hU : (fl 1 A ++ [w]).length = v + 1 := by rw [List.length_append, List.length_singleton, ← P.2.2.2]
  have hB : ∀ y ∈ B, y ∈ Q := fun y hy => (pr_in h.lk r hr y (by rw [P.1]; simp [hy])).1
  have hg := bh_go O (h.ckl hw) (fun x4_10 => some (x4_10)) (fl 1 (prs (tLev T) kl (kl w))) (fl 1 A ++ [w]) (fl 1 B) FU e3 (fun y hy => by
    obtain ⟨z, hz, hyz⟩ := mem_prs.mp (fl_mem.mp hy).1
    have hzk := h.kid hw hz
    have := (pr_in h.lk z hzk.1 y hyz).2.1
    omega) (stops_fl h hl0 hB P.2.1) (by
    have hle := congrArg List.length e3
    rw [List.length_append, List.length_append, List.length_append] at hle
    have := (nds_len O).2.1
    unfold FU
    omega)
  rw [hU] at hg
  unfold f_Lw_behind
  rw [show (v : Int) + 1 = ((v + 1 : Nat) : Int) by omega, e2, List.length_cons, show v + ((fl 1 (prs (tLev T) kl (kl w))).length + 1) = v + 1 + (fl 1 (prs (tLev T) kl (kl w))).length by omega]
  exact hg
theorem kid24 {T : TV} {kl : Nat → List Nat} {Q : List Nat} (h : Ar T kl Q) {w y : Nat} (hw : w ∈ Q) (h1 : 1 ≤ tLev T w) (hy : y ∈ kl w) : 24 ≤ y ∧ tLev T y = tLev T w - 1 ∧ y ∈ Q := by
  have hk := h.kid hw hy
  refine ⟨?_, hk.2.2, hk.1⟩
  rcases Nat.lt_or_ge y 24 with q | q
  · have := (h.lev24 hk.1).mp q
    omega
  · exact q
theorem nd_go {T : TV} {K : KV} {kl : Nat → List Nat} {Q : List Nat} {r v w : Nat} {s : Nat → Int} {A B : List Nat} (O : Nm T K kl Q r s) (P : Pa T kl r v w A B) (h1 : 1 ≤ tLev T w) (k : Int → Int → Option Int) : ∀ (E D : List Nat) (n : Nat), kl w = D ++ E → E.length < n → f_Lw_isNode_L15 T K (v : Int) (tLev T w) ((nds T kl r).length : Int) ((kl w).length : Int) k n ((v + 1 + (fl 1 (prs (tLev T) kl D)).length : Nat) : Int) (D.length : Int) = k ((v + 1 + (fl 1 (prs (tLev T) kl (kl w))).length : Nat) : Int) ((kl w).length : Int)
  | [], D, n + 1, e, hn => by
    have h := O.parts.2.1
    have hw := (pl_in O P).1
    have hsz := h.siz hw
    rw [List.append_nil] at e
    rw [f_Lw_isNode_L15, ← e, gd_p ⟨by omega, by omega⟩, gd_p ⟨by omega, by omega⟩, if_neg (by omega)]
  | y :: E, D, n + 1, e, hn => by
    have h := O.parts.2.1
    have hw := (pl_in O P).1
    have hsz := h.siz hw
    have hk24 := kid24 h hw h1 (y := y) (by rw [e]; simp)
    have P2 := pl_kid O P e hk24.1
    have hn2 := nds_len O
    have hn3 := pl_node O P2
    have hle := congrArg List.length e
    rw [List.length_append, List.length_cons] at hle
    rw [List.length_cons] at hn
    have hlev : tLev T w - 1 = tLev T y := hk24.2.1.symm
    have hcy := h.ckl hk24.2.2
    have e2 : kl w = (D ++ [y]) ++ E := by rw [e]; simp
    have ih := nd_go O P h1 k E (D ++ [y]) n e2 (by omega)
    have hpd : (fl 1 (prs (tLev T) kl (D ++ [y]))).length = (fl 1 (prs (tLev T) kl D)).length + (fl 1 (pr (tLev T) kl y)).length := by
      rw [prs_app, fl_app, List.length_append, prs_cons, prs_nil, List.append_nil]
    have hl1 : (D ++ [y]).length = D.length + 1 := by rw [List.length_append, List.length_singleton]
    rw [hpd, hl1] at ih
    rw [f_Lw_isNode_L15, hlev, gd_p ⟨by omega, by omega⟩, gd_p ⟨by omega, by omega⟩, if_pos (by omega), gd_p ⟨by omega, by omega⟩, gd_p ⟨by omega, by omega⟩, if_pos (by omega), bd1_p (a_entry_n O P e hk24.1), gd_p ⟨by omega, by omega⟩, if_pos rfl, bd1_p (a_level O P2), gd_p hcy, gd_p hcy, if_pos rfl, bd1_p (a_behind O P2), show (D.length : Int) + 1 = ((D.length + 1 : Nat) : Int) by omega, show v + 1 + (fl 1 (prs (tLev T) kl D)).length + (fl 1 (pr (tLev T) kl y)).length = v + 1 + ((fl 1 (prs (tLev T) kl D)).length + (fl 1 (pr (tLev T) kl y)).length) by omega]
    exact ih
/-- the union, as the law takes it -/
def ua0 (t : Nat) : Int := if t < 2 then 100 else -1
def acl (c : Nat → Int) (t : Nat) (L : List Nat) : Int := L.foldl (fun a y => mm t a (c (4 * y + t))) (ua0 t)
theorem acl_snoc {c : Nat → Int} {t y : Nat} {L : List Nat} : acl c t (L ++ [y]) = mm t (acl c t L) (c (4 * y + t)) := by
  unfold acl
  rw [List.foldl_append]
  rfl
theorem fold_cu {c : Nat → Int} {t : Nat} (ht : t < 4) : ∀ (L : List Nat) (y : Nat) (a : Int), (∀ z ∈ y :: L, rg c z) → (y :: L).foldl (fun a y => mm t a (c (4 * y + t))) a = mm t a (cu c t (y :: L))
  | [], y, a, h => by
    show mm t a (c (4 * y + t)) = mm t a (mm t (c (4 * y + t)) (e0 t))
    rw [(mm_e0 (h y List.mem_cons_self t ht)).2]
  | z :: L, y, a, h => by
    have ih := fold_cu ht L z (mm t a (c (4 * y + t))) (fun x hx => h x (List.mem_cons_of_mem _ hx))
    refine Eq.trans (show (y :: z :: L).foldl (fun a y => mm t a (c (4 * y + t))) a = (z :: L).foldl (fun a y => mm t a (c (4 * y + t))) (mm t a (c (4 * y + t))) from rfl) ?_
    rw [ih, mm_as]
    rfl
theorem acl_cu {c : Nat → Int} {t : Nat} (ht : t < 4) {L : List Nat} (hL : L ≠ []) (h : ∀ z ∈ L, rg c z) : acl c t L = cu c t L := by
  cases L with
  | nil => exact absurd rfl hL
  | cons y L =>
    unfold acl
    rw [fold_cu ht L y (ua0 t) h]
    have hr := cu_rg (c := c) ht h
    generalize cu c t (y :: L) = z at hr
    unfold mm ua0
    split <;> omega
theorem acl_rg {c : Nat → Int} {t : Nat} (ht : t < 4) {L : List Nat} (h : ∀ z ∈ L, rg c z) : ck (acl c t L) := by
  by_cases hL : L = []
  · subst hL
    show ck (ua0 t)
    unfold ua0
    split <;> exact ⟨by omega, by omega⟩
  · have hr := cu_rg (c := c) ht h
    rw [acl_cu ht hL h]
    exact ⟨by omega, by omega⟩
theorem mm_lt {t : Nat} {a b : Int} (h : t < 2) : mm t a b = if b < a then b else a := by
  unfold mm
  rw [if_pos h]
  split <;> omega
theorem mm_gt {t : Nat} {a b : Int} (h : ¬ t < 2) : mm t a b = if a < b then b else a := by
  unfold mm
  rw [if_neg h]
  split <;> omega
theorem nb_go {T : TV} {K : KV} {kl : Nat → List Nat} {Q : List Nat} {r v w t : Nat} {s : Nat → Int} {A B : List Nat} (O : Nm T K kl Q r s) (P : Pa T kl r v w A B) (h1 : 1 ≤ tLev T w) (hfull : 1 < (pr (tLev T) kl r).length) (ht : t < 4) (k : Int → Int → Option Int) : ∀ (E D : List Nat) (n : Nat), kl w = D ++ E → E.length < n → f_Lw_isNode_L98 T K (v : Int) ((kl w).length : Int) (t : Int) k n (acl (tCor T) t D) (D.length : Int) = k (acl (tCor T) t (kl w)) ((kl w).length : Int)
  | [], D, n + 1, e, hn => by
    have h := O.parts.2.1
    have hsz := h.siz (pl_in O P).1
    rw [List.append_nil] at e
    rw [f_Lw_isNode_L98, ← e, gd_p ⟨by omega, by omega⟩, gd_p ⟨by omega, by omega⟩, if_neg (by omega)]
  | y :: E, D, n + 1, e, hn => by
    have h := O.parts.2.1
    have hw := (pl_in O P).1
    have hsz := h.siz hw
    have hk24 := kid24 h hw h1 (y := y) (by rw [e]; simp)
    have P2 := pl_kid O P e hk24.1
    have hle := congrArg List.length e
    rw [List.length_append, List.length_cons] at hle
    rw [List.length_cons] at hn
    have e2 : kl w = (D ++ [y]) ++ E := by rw [e]; simp
    have hl1 : (D ++ [y]).length = D.length + 1 := by rw [List.length_append, List.length_singleton]
    have ih := nb_go O P h1 hfull ht k E (D ++ [y]) n e2 (by omega)
    rw [acl_snoc, hl1] at ih
    have hrD : ck (acl (tCor T) t D) := acl_rg ht (fun z hz => h.rgx (h.kid hw (by rw [e]; simp [hz])).1)
    have hrY := rg_ck (t := t) (h.rgx hk24.2.2) ht
    rw [f_Lw_isNode_L98, gd_p ⟨by omega, by omega⟩, gd_p ⟨by omega, by omega⟩, if_pos (by omega), bd1_p (a_entry_n O P e hk24.1), bd1_p ((a_bound O P2 ht).1 (full_ne O hfull hk24.2.2 hk24.1)), gd_p ⟨by omega, by omega⟩, show (D.length : Int) + 1 = ((D.length + 1 : Nat) : Int) by omega]
    by_cases h2 : t < 2
    · rw [if_pos (by omega), gd_p hrY, gd_p hrD]
      rw [mm_lt h2] at ih
      by_cases h3 : tCor T (4 * y + t) < acl (tCor T) t D
      · rw [if_pos h3] at ih ⊢
        exact ih
      · rw [if_neg h3] at ih ⊢
        exact ih
    · rw [if_neg (by omega), gd_p hrY, gd_p hrD]
      rw [mm_gt h2] at ih
      by_cases h3 : acl (tCor T) t D < tCor T (4 * y + t)
      · rw [if_pos h3] at ih ⊢
        exact ih
      · rw [if_neg h3] at ih ⊢
        exact ih
/-- a node's bound is the union of its entries' -/
theorem bd_acl {T : TV} {K : KV} {kl : Nat → List Nat} {Q : List Nat} {r v w t : Nat} {s : Nat → Int} {A B : List Nat} (O : Nm T K kl Q r s) (P : Pa T kl r v w A B) (hne : kl w ≠ []) (ht : t < 4) : f_Rt_bound T K (v : Int) (t : Int) = some (acl (tCor T) t (kl w)) := by
  obtain ⟨J, h, hr, hrow, hR⟩ := O.parts
  have hw := (pl_in O P).1
  rw [(a_bound O P ht).1 hne, acl_cu ht hne (fun z hz => h.rgx (h.kid hw hz).1), J.2.2.2.1 w hw P.2.2.1 hne t ht]
theorem ns_go {T : TV} {K : KV} {kl : Nat → List Nat} {Q : List Nat} {r v w : Nat} {s : Nat → Int} {A B : List Nat} (O : Nm T K kl Q r s) (P : Pa T kl r v w A B) (h1 : 1 ≤ tLev T w) (hfull : 1 < (pr (tLev T) kl r).length) (k : Int → Option Int) : ∀ (d t n : Nat), t + d = 4 → d < n → f_Lw_isNode_L75 T K (v : Int) ((kl w).length : Int) k n (t : Int) = k 4
  | 0, t, n + 1, hi, hn => by
    have ht : t = 4 := by omega
    subst ht
    rw [f_Lw_isNode_L75, gd_p ⟨by omega, by omega⟩, if_neg (by omega)]
    rfl
  | d + 1, t, n + 1, hi, hn => by
    have h := O.parts.2.1
    have hw := (pl_in O P).1
    have hsz := h.siz hw
    have ht : t < 4 := by omega
    have hne := full_ne O hfull hw P.2.2.1
    have hck : ck (acl (tCor T) t (kl w)) := acl_rg ht (fun z hz => h.rgx (h.kid hw hz).1)
    have ih := ns_go O P h1 hfull k d (t + 1) n (by omega) (by omega)
    rw [f_Lw_isNode_L75, gd_p ⟨by omega, by omega⟩, if_pos (by omega)]
    by_cases h2 : t < 2
    · have ha : acl (tCor T) t [] = 100 := by
        show ua0 t = 100
        unfold ua0
        rw [if_pos h2]
      rw [if_pos (by omega), ← ha]
      refine Eq.trans (nb_go O P h1 hfull ht _ (kl w) [] FU rfl (by unfold FU; omega)) ?_
      rw [bd1_p (bd_acl O P hne ht), gd_p hck, gd_p hck, if_pos rfl, show (t : Int) + 1 = ((t + 1 : Nat) : Int) by omega]
      exact ih
    · have ha : acl (tCor T) t [] = -1 := by
        show ua0 t = -1
        unfold ua0
        rw [if_neg h2]
      rw [if_neg (by omega), ← ha]
      refine Eq.trans (nb_go O P h1 hfull ht _ (kl w) [] FU rfl (by unfold FU; omega)) ?_
      rw [bd1_p (bd_acl O P hne ht), gd_p hck, gd_p hck, if_pos rfl, show (t : Int) + 1 = ((t + 1 : Nat) : Int) by omega]
      exact ih
theorem a_isNode {T : TV} {K : KV} {kl : Nat → List Nat} {Q : List Nat} {r v w : Nat} {s : Nat → Int} {A B : List Nat} (O : Nm T K kl Q r s) (P : Pa T kl r v w A B) (h1 : 1 ≤ tLev T w) (hfull : 1 < (pr (tLev T) kl r).length) : f_Lw_isNode T K (v : Int) (tLev T w) ((nds T kl r).length : Int) = some 1 := by
  have h := O.parts.2.1
  obtain ⟨hw, hp, e1, e2⟩ := pl_in O P
  have hsz := h.siz hw
  have hne := full_ne O hfull hw P.2.2.1
  have hpos : 0 < (kl w).length := List.length_pos_iff.mpr hne
  have hlen := congrArg List.length e2
  rw [List.length_cons] at hlen
  have hn := pl_node O P
  have hn2 := nds_len O
  have hbe := a_behind O P
  rw [hlen] at hbe
  unfold f_Lw_isNode
  have hz : (v : Int) + 1 = ((v + 1 + (fl 1 (prs (tLev T) kl [])).length : Nat) : Int) := by
    rw [prs_nil]
    rfl
  rw [bd1_p (a_entries O P), hz]
  refine Eq.trans (nd_go O P h1 _ (kl w) [] FU rfl (by unfold FU; omega)) ?_
  refine Eq.trans (ns_go O P h1 hfull _ 4 0 FU rfl (by unfold FU; omega)) ?_
  rw [gd_p ⟨by omega, by omega⟩, if_pos (by omega), bd1_p hbe, gd_p ⟨by omega, by omega⟩, gd_p ⟨by omega, by omega⟩, if_pos (by omega)]
