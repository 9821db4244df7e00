/-! the law's check of a leaf -/
theorem leaf_kid {T : TV} {kl : Nat → List Nat} {Q : List Nat} (h : Ar T kl Q) {w y : Nat} (hw : w ∈ Q) (h0 : tLev T w = 0) (hy : y ∈ kl w) : y < 24 ∧ y ∈ Q := by
  have hk := h.kid hw hy
  exact ⟨(h.lev24 hk.1).mpr (by omega), hk.1⟩
theorem lf_go2 {T : TV} {K : KV} {kl : Nat → List Nat} {Q : List Nat} {r v w : Nat} {s bx : Nat → Int} {A B : List Nat} (O : Nm T K kl Q r s) (X : Bk T Q bx) (P : Pa T kl r v w A B) (h0 : tLev T w = 0) (k : Int → Int → Option Int) : ∀ (E D : List Nat) (n : Nat) (x : Int) (M : Nat → Prop), kl w = D ++ E → E.length < n → Mk x M → (∀ y ∈ E, ¬ M y) → ∃ x', f_Lw_leaf_L13 24 T K bx (v : Int) ((kl w).length : Int) k n x (D.length : Int) = k x' ((kl w).length : Int) ∧ Mk x' (fun i => M i ∨ i ∈ E)
  | [], D, n + 1, x, M, e, hn, hM, hd => by
    have h := O.parts.2.1
    have hsz := h.siz (pl_in O P).1
    rw [List.append_nil] at e
    refine ⟨x, ?_, hM.iff (fun i _ => ⟨Or.inl, fun q => q.elim id (fun z => by cases z)⟩)⟩
    rw [f_Lw_leaf_L13, ← e, gd_p ⟨by omega, by omega⟩, gd_p ⟨by omega, by omega⟩, if_neg (by omega)]
  | y :: E, D, n + 1, x, M, e, hn, hM, hd => by
    have h := O.parts.2.1
    have hw := (pl_in O P).1
    have hsz := h.siz hw
    have hnd := (h.2.2.2.2 w hw).2.2.1.2.2
    have hyk : y ∈ kl w := by rw [e]; simp
    have hy := leaf_kid h hw h0 hyk
    have hn2 := nds_len O
    have hn3 := pl_node O P
    have hle := congrArg List.length e
    rw [List.length_append, List.length_cons] at hle
    rw [List.length_cons] at hn
    have e2 : kl w = (D ++ [y]) ++ E := by rw [e]; simp
    have hl1 : (D ++ [y]).length = D.length + 1 := by rw [List.length_append, List.length_singleton]
    have hj : (kl w)[D.length]? = some y := by rw [e, List.getElem?_append_right (Nat.le_refl _), Nat.sub_self]; rfl
    have hyE : ∀ z ∈ E, z ≠ y := fun z hz q => by
      rw [e] at hnd
      have h2 := (List.nodup_append.mp hnd).2.1
      exact (List.nodup_cons.mp h2).1 (q ▸ hz)
    obtain ⟨x', i1, i2⟩ := lf_go2 O X P h0 k E (D ++ [y]) n (iOr x (iShl 1 (y : Int))) (fun i => M i ∨ i = y) e2 (by omega) (hM.or hy.1) (fun z hz q => q.elim (hd z (List.mem_cons_of_mem _ hz)) (hyE z hz))
    rw [hl1] at i1
    refine ⟨x', ?_, i2.iff (fun i _ => ⟨fun q => q.elim (fun q => q.elim Or.inl (fun z => Or.inr (by rw [z]; exact List.mem_cons_self))) (fun z => Or.inr (List.mem_cons_of_mem _ z)), fun q => q.elim (fun z => Or.inl (Or.inl z)) (fun z => (List.mem_cons.mp z).elim (fun z => Or.inl (Or.inr z)) Or.inr)⟩)⟩
    have hbn := X.neg h hy.1
    rw [f_Lw_leaf_L13, gd_p ⟨by omega, by omega⟩, gd_p ⟨by omega, by omega⟩, if_pos (by omega), bd1_p (a_entry_b O P hj hy.1), gd_p ⟨by omega, by omega⟩, if_neg (by omega), if_neg (by omega), gd_p ⟨by omega, by omega⟩, show ((y : Int)).toNat = y by omega, gd_p hbn.2, if_neg (fun q => (hbn.1.mp q) hy.2), (hM.bit hy.1).2 (hd y List.mem_cons_self), if_neg (by omega), bd1_p (a_leafOf O P hyk hy.1), gd_p ⟨by omega, by omega⟩, gd_p ⟨by omega, by omega⟩, if_pos rfl, show (D.length : Int) + 1 = ((D.length + 1 : Nat) : Int) by omega]
    exact i1
theorem lb_go2 {T : TV} {K : KV} {kl : Nat → List Nat} {Q : List Nat} {r v w t : Nat} {s bx : Nat → Int} {A B : List Nat} (O : Nm T K kl Q r s) (X : Bk T Q bx) (P : Pa T kl r v w A B) (h0 : tLev T w = 0) (ht : t < 4) (k : Int → Int → Option Int) : ∀ (E D : List Nat) (n : Nat), kl w = D ++ E → E.length < n → f_Lw_leaf_L117 24 T K bx (v : Int) ((kl w).length : Int) (t : Int) k n (acl (tCor T) t D) (D.length : Int) = k (acl (tCor T) t (kl w)) ((kl w).length : Int)
  | [], D, n + 1, e, hn => by
    have h := O.parts.2.1
    have hsz := h.siz (pl_in O P).1
    rw [List.append_nil] at e
    rw [f_Lw_leaf_L117, ← e, gd_p ⟨by omega, by omega⟩, gd_p ⟨by omega, by omega⟩, if_neg (by omega)]
  | y :: E, D, n + 1, e, hn => by
    have h := O.parts.2.1
    have hw := (pl_in O P).1
    have hsz := h.siz hw
    have hyk : y ∈ kl w := by rw [e]; simp
    have hy := leaf_kid h hw h0 hyk
    have hle := congrArg List.length e
    rw [List.length_append, List.length_cons] at hle
    rw [List.length_cons] at hn
    have e2 : kl w = (D ++ [y]) ++ E := by rw [e]; simp
    have hl1 : (D ++ [y]).length = D.length + 1 := by rw [List.length_append, List.length_singleton]
    have hj : (kl w)[D.length]? = some y := by rw [e, List.getElem?_append_right (Nat.le_refl _), Nat.sub_self]; rfl
    have ih := lb_go2 O X P h0 ht k E (D ++ [y]) n e2 (by omega)
    rw [acl_snoc, hl1] at ih
    have hrD : ck (acl (tCor T) t D) := acl_rg ht (fun z hz => h.rgx (h.kid hw (by rw [e]; simp [hz])).1)
    have hrY := rg_ck (t := t) (h.rgx hy.2) ht
    rw [f_Lw_leaf_L117, gd_p ⟨by omega, by omega⟩, gd_p ⟨by omega, by omega⟩, if_pos (by omega), bd1_p (a_entry_b O P hj hy.1), gd_p ⟨by omega, by omega⟩, gd_p ⟨by omega, by omega⟩, show ((y : Int)).toNat = y by omega, bd1_p (X.cn h hy.1 hy.2 ht), gd_p ⟨by omega, by omega⟩, show (D.length : Int) + 1 = ((D.length + 1 : Nat) : Int) by omega]
    by_cases h2 : t < 2
    · rw [if_pos (by omega), gd_p hrY, gd_p hrD]
      rw [mm_lt h2] at ih
      by_cases h3 : tCor T (4 * y + t) < acl (tCor T) t D
      · rw [if_pos h3] at ih ⊢
        exact ih
      · rw [if_neg h3] at ih ⊢
        exact ih
    · rw [if_neg (by omega), gd_p hrY, gd_p hrD]
      rw [mm_gt h2] at ih
      by_cases h3 : acl (tCor T) t D < tCor T (4 * y + t)
      · rw [if_pos h3] at ih ⊢
        exact ih
      · rw [if_neg h3] at ih ⊢
        exact ih
theorem ls_go2 {T : TV} {K : KV} {kl : Nat → List Nat} {Q : List Nat} {r v w : Nat} {s bx : Nat → Int} {A B : List Nat} (O : Nm T K kl Q r s) (X : Bk T Q bx) (P : Pa T kl r v w A B) (h0 : tLev T w = 0) (c : Int) : ∀ (d t n : Nat), t + d = 4 → d < n → f_Lw_leaf_L89 24 T K bx (v : Int) ((kl w).length : Int) (fun x6_65 => some c) n (t : Int) = some c
  | 0, t, n + 1, hi, hn => by
    have ht : t = 4 := by omega
    subst ht
    rw [f_Lw_leaf_L89, gd_p ⟨by omega, by omega⟩, if_neg (by omega)]
  | d + 1, t, n + 1, hi, hn => by
    have h := O.parts.2.1
    have hw := (pl_in O P).1
    have hsz := h.siz hw
    have ht : t < 4 := by omega
    rw [f_Lw_leaf_L89, gd_p ⟨by omega, by omega⟩, if_pos (by omega), gd_p ⟨by omega, by omega⟩]
    by_cases hpos : 0 < (kl w).length
    · have hne : kl w ≠ [] := List.length_pos_iff.mp hpos
      have hck : ck (acl (tCor T) t (kl w)) := acl_rg ht (fun z hz => h.rgx (h.kid hw hz).1)
      have ih := ls_go2 O X P h0 c d (t + 1) n (by omega) (by omega)
      rw [if_pos (by omega)]
      by_cases h2 : t < 2
      · have ha : acl (tCor T) t [] = 100 := by
          show ua0 t = 100
          unfold ua0
          rw [if_pos h2]
        rw [if_pos (by omega), ← ha]
        refine Eq.trans (lb_go2 O X P h0 ht _ (kl w) [] FU rfl (by unfold FU; omega)) ?_
        rw [bd1_p (bd_acl O P hne ht), gd_p hck, gd_p hck, if_pos rfl, show (t : Int) + 1 = ((t + 1 : Nat) : Int) by omega]
        exact ih
      · have ha : acl (tCor T) t [] = -1 := by
          show ua0 t = -1
          unfold ua0
          rw [if_neg h2]
        rw [if_neg (by omega), ← ha]
        refine Eq.trans (lb_go2 O X P h0 ht _ (kl w) [] FU rfl (by unfold FU; omega)) ?_
        rw [bd1_p (bd_acl O P hne ht), gd_p hck, gd_p hck, if_pos rfl, show (t : Int) + 1 = ((t + 1 : Nat) : Int) by omega]
        exact ih
    · rw [if_neg (by omega)]
theorem a_leaf {T : TV} {K : KV} {kl : Nat → List Nat} {Q : List Nat} {r v w : Nat} {s bx : Nat → Int} {A B : List Nat} {x : Int} {M : Nat → Prop} (O : Nm T K kl Q r s) (X : Bk T Q bx) (P : Pa T kl r v w A B) (h0 : tLev T w = 0) (hM : Mk x M) (hd : ∀ y ∈ kl w, ¬ M y) : ∃ x', f_Lw_leaf 24 T K bx (v : Int) x = some x' ∧ Mk x' (fun i => M i ∨ i ∈ kl w) := by
  have h := O.parts.2.1
  have hsz := h.siz (pl_in O P).1
  obtain ⟨x', i1, i2⟩ := lf_go2 O X P h0 (fun x4_23 x6_24 => f_Lw_leaf_L89 (24) (T) (K) (bx) ((v : Int)) ((kl w).length : Int) (fun x6_65 => some (x4_23)) FU (0)) (kl w) [] FU x M rfl (by unfold FU; omega) hM hd
  refine ⟨x', ?_, i2⟩
  unfold f_Lw_leaf
  rw [bd1_p (a_entries O P)]
  refine Eq.trans i1 ?_
  exact ls_go2 O X P h0 x' 4 0 FU rfl (by unfold FU; omega)
