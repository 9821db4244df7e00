/-! how full the nodes are: the same quotient on both sides -/
def szs (kl : Nat → List Nat) : List Nat → Nat
  | [] => 0
  | w :: L => (kl w).length + szs kl L
theorem szs_app {kl : Nat → List Nat} : ∀ {L M : List Nat}, szs kl (L ++ M) = szs kl L + szs kl M
  | [], M => (Nat.zero_add _).symm
  | w :: L, M => by
    show (kl w).length + szs kl (L ++ M) = (kl w).length + szs kl L + szs kl M
    rw [szs_app]
    omega
theorem szs_pr {T : TV} {kl : Nat → List Nat} {Q : List Nat} (h : Ar T kl Q) : ∀ x ∈ Q, szs kl (fl 1 (pr (tLev T) kl x)) + 1 = (pr (tLev T) kl x).length := lv_ind h.lk (fun x => szs kl (fl 1 (pr (tLev T) kl x)) + 1 = (pr (tLev T) kl x).length) (fun x hx ih => by
  have hk : ∀ L : List Nat, (∀ y ∈ L, y ∈ kl x) → szs kl (fl 1 (prs (tLev T) kl L)) + L.length = (prs (tLev T) kl L).length := fun L => by
    induction L with
    | nil => intro _; rfl
    | cons y L ihL =>
      intro hL
      have h1 := ih y (hL y List.mem_cons_self)
      have h2 := ihL (fun z hz => hL z (List.mem_cons_of_mem _ hz))
      rw [prs_cons, fl_app, szs_app, List.length_append, List.length_cons]
      omega
  have h3 := hk (kl x) (fun y hy => hy)
  rw [pr_eq (Lk_at h.lk hx), fl_cons, List.length_cons]
  by_cases h24 : 24 ≤ x
  · rw [if_pos h24]
    show (kl x).length + szs kl (fl 1 (prs (tLev T) kl (kl x))) + 1 = _
    omega
  · rw [if_neg h24, (h.2.2.2.2 x hx).2.1 (by omega)]
    rfl)
theorem fil_go {T : TV} {K : KV} {kl : Nat → List Nat} {Q : List Nat} {r : Nat} {s : Nat → Int} (O : Nm T K kl Q r s) (k : Int → Int → Option UInt32) : ∀ (V U : List Nat) (n x : Nat), fl 1 (pr (tLev T) kl r) = U ++ V → V.length < n → f_Rt_fill_L4 T K k n (x : Int) (U.length : Int) = k ((x + szs kl V : Nat) : Int) ((fl 1 (pr (tLev T) kl r)).length : Int)
  | [], U, n + 1, x, e, hn => by
    obtain ⟨J, h, hr, hrow, hR⟩ := O.parts
    have hl := hrow.2.1
    have hfl := fl_len (pr (tLev T) kl r)
    have hc := O.2.1.1
    have hle := congrArg List.length e
    rw [List.append_nil] at hle
    rw [f_Rt_fill_L4, hc, gd_p ⟨by omega, by omega⟩, gd_p ⟨by omega, by omega⟩, if_neg (by omega), hle]
    rfl
  | y :: V, U, n + 1, x, e, hn => by
    obtain ⟨J, h, hr, hrow, hR⟩ := O.parts
    have hc := O.2.1.1
    rw [List.length_cons] at hn
    obtain ⟨hyQ, h24, hnode, hU, hW⟩ := w_node O e
    have e2 : fl 1 (pr (tLev T) kl r) = (U ++ [y]) ++ V := by rw [e]; simp
    have hl1 : (U.length : Int) + 1 = ((U ++ [y]).length : Int) := by rw [List.length_append]; rfl
    have ih := fil_go O k V (U ++ [y]) n (x + (kl y).length) e2 (by omega)
    rw [f_Rt_fill_L4, hc, gd_p ⟨by omega, by omega⟩, gd_p ⟨by omega, by omega⟩, if_pos (by omega), bd1_p hnode, bd1_p (t_siz hR (h.lt hyQ)), (h.siz hyQ).1, hl1, show (x : Int) + ((kl y).length : Int) = ((x + (kl y).length : Nat) : Int) by omega, ih]
    exact congrArg (fun z => k z ((fl 1 (pr (tLev T) kl r)).length : Int)) (by show ((x + (kl y).length + szs kl V : Nat) : Int) = ((x + ((kl y).length + szs kl V) : Nat) : Int); omega)
/-- the quotient -/
def flv (T : TV) (kl : Nat → List Nat) (r : Nat) : UInt32 := FP.fdiv (FP.i2f (Int32.ofInt (((pr (tLev T) kl r).length : Int) - 1))) (FP.i2f (Int32.ofInt (((fl 1 (pr (tLev T) kl r)).length : Int) * tCap T)))
theorem q_fill {T : TV} {K : KV} {kl : Nat → List Nat} {Q : List Nat} {r : Nat} {s : Nat → Int} (O : Nm T K kl Q r s) (hv : flv T kl r &&& (0x7fffffff : UInt32) ≤ (0x7f800000 : UInt32)) : f_Rt_fill T K = some (flv T kl r) ∧ f_Mo_fill s = some (flv T kl r) := by
  obtain ⟨J, h, hr, hrow, hR⟩ := O.parts
  have hl := hrow.2.1
  have h0 := hrow.1
  have hfl := fl_len (pr (tLev T) kl r)
  have hc := O.2.1.1
  have hs := set_sp O
  have hz := szs_pr h r hr
  have hp1 : 1 ≤ (fl 1 (pr (tLev T) kl r)).length := by
    rw [pr_eq (Lk_at h.lk hr), fl_cons, if_pos J.2.1.2.1, List.length_cons]
    omega
  have hb : 0 < ((fl 1 (pr (tLev T) kl r)).length : Int) * tCap T ∧ ((fl 1 (pr (tLev T) kl r)).length : Int) * tCap T ≤ 1800 := by
    rcases (show tCap T = 3 ∨ tCap T = 4 ∨ tCap T = 5 by omega) with q | q | q <;> rw [q] <;> omega
  have hn : f_Mo_nodes s = some ((fl 1 (pr (tLev T) kl r)).length : Int) := nodes_row hrow
  constructor
  · unfold f_Rt_fill
    have e1 := fil_go O (fun x1_10 x2_11 => gd (ck ((kCnt K) * (tCap T))) <| if 0 < ((kCnt K) * (tCap T)) then (gd ((FP.fdiv (FP.i2f (Int32.ofInt x1_10)) (FP.i2f (Int32.ofInt ((kCnt K) * (tCap T))))) &&& (0x7fffffff : UInt32) ≤ (0x7f800000 : UInt32)) <| some ((FP.fdiv (FP.i2f (Int32.ofInt x1_10)) (FP.i2f (Int32.ofInt ((kCnt K) * (tCap T))))))) else (some (FP.fconst0))) (fl 1 (pr (tLev T) kl r)) [] FU 0 rfl (by unfold FU; omega)
    refine Eq.trans e1 ?_
    rw [hc, show ((0 + szs kl (fl 1 (pr (tLev T) kl r)) : Nat) : Int) = ((pr (tLev T) kl r).length : Int) - 1 by omega, gd_p ⟨by omega, by omega⟩, if_pos hb.1]
    exact gd_p hv
  · unfold f_Mo_fill f_Mo_length
    rw [bd1_p (show some (s 4) = some (s 4) from rfl), bd1_p hn, h0, hs.1]
    exact gd_p hv
