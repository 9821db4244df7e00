/-! the nodes, or the boxes, at and below one item, in preorder -/
def fl (b : Int) (L : List Nat) : List Nat := L.filter (fun y => decide (y < 24 ↔ b = 0))
theorem fl_app {b : Int} (L M : List Nat) : fl b (L ++ M) = fl b L ++ fl b M := List.filter_append ..
theorem fl_mem {b : Int} {L : List Nat} {y : Nat} : y ∈ fl b L ↔ y ∈ L ∧ (y < 24 ↔ b = 0) := by simp [fl]
theorem fl_bxs (L : List Nat) : fl 0 L = bxs L := by
  unfold fl bxs
  congr 1
  funext y
  simp
theorem gth_in {T : TV} {kl : Nat → List Nat} {Q : List Nat} {x : Nat} (h : Ar T kl Q) (hx : x ∈ Q) (k : Int → Int → KV → Option KV) : ∀ (j m n : Nat) (K : KV), j ≤ (kl x).length → m + j ≤ kLen K → kLen K ≤ 8192 → j < n → ∃ pen', f_Wk_gather_L95 T (x : Int) k n (m : Int) ((j : Int) - 1) K = k ((m + j : Nat) : Int) (-1) (skPen K pen') ∧ (∀ (i y : Nat), i < j → (kl x)[i]? = some y → pen' (m + (j - 1 - i)) = (y : Int)) ∧ ∀ q, q < m → pen' q = kPen K q
  | 0, m, n + 1, K, hj, hm, hK, hn => by
    refine ⟨kPen K, ?_, fun i y h1 => absurd h1 (by omega), fun _ _ => rfl⟩
    rw [f_Wk_gather_L95, gd_p ⟨by omega, by omega⟩, if_pos (by omega)]
    rfl
  | j + 1, m, n + 1, K, hj, hm, hK, hn => by
    have h6 := (h.siz hx).2
    have hg : (kl x)[j]? = some ((kl x)[j]) := by simp
    obtain ⟨pen', e1, e2, e3⟩ := gth_in h hx k j (m + 1) n (skPen K (up (kPen K) m (((kl x)[j] : Nat) : Int))) (by omega) (by show m + 1 + j ≤ kLen K; omega) hK (by omega)
    refine ⟨pen', ?_, fun i y h1 h2 => ?_, fun q hq => by rw [e3 q (by omega)]; exact up_o (by omega)⟩
    · rw [f_Wk_gather_L95, show ((j + 1 : Nat) : Int) - 1 = (j : Int) by omega, gd_p ⟨by omega, by omega⟩, if_neg (by omega), bd1_p (h.ent hx hg), bd1_p (put_sp (n := kLen K) (f := kPen K) (by omega) (by omega)), show (m : Int) + 1 = ((m + 1 : Nat) : Int) by omega, show (j : Int) + -1 = (j : Int) - 1 by omega, show m + (j + 1) = m + 1 + j by omega]
      exact e1
    · by_cases hij : i = j
      · subst hij
        rw [show m + (i + 1 - 1 - i) = m by omega, e3 m (by omega)]
        rw [hg] at h2
        rw [← Option.some.inj h2]
        exact up_s
      · have := e2 i y (by omega) h2
        rw [show m + 1 + (j - 1 - i) = m + (j + 1 - 1 - i) by omega] at this
        exact this
def Stk (pen : Nat → Int) (S : List Nat) : Prop := ∀ (i y : Nat), S[i]? = some y → pen (S.length - 1 - i) = (y : Int)
def Itm (K : KV) (W : List Nat) : Prop := kCnt K = (W.length : Int) ∧ ∀ (i y : Nat), W[i]? = some y → kItm K i = (y : Int)
theorem gth_go {T : TV} {kl : Nat → List Nat} {Q : List Nat} {b : Int} (h : Ar T kl Q) (hb : b = 0 ∨ b = 1) (k : Int → Int → KV → Option KV) : ∀ (N : Nat) (S W : List Nat) (n st : Nat) (K : KV), (prs (tLev T) kl S).length = N → (∀ y ∈ S, y ∈ Q) → Stk (kPen K) S → Itm K W → W.length + N ≤ kLen K → kLen K ≤ 8192 → N < n → st + N < 1000000 → ∃ (st' : Int) (K' : KV), f_Wk_gather_L20 T b k n (S.length : Int) (st : Int) K = k 0 st' K' ∧ Itm K' (W ++ fl b (prs (tLev T) kl S)) ∧ kLen K' = kLen K := by
  intro N
  induction N with
  | zero =>
    intro S W n st K hN hS hst hW hl hK hn hs
    obtain ⟨n, rfl⟩ : ∃ m, n = m + 1 := ⟨n - 1, by omega⟩
    have hS0 : S = [] := by
      cases S with
      | nil => rfl
      | cons x S =>
        rw [prs_cons, pr_eq (Lk_at h.lk (hS x List.mem_cons_self))] at hN
        simp at hN
    subst hS0
    refine ⟨(st : Int), K, ?_, by rw [prs_nil]; simpa [fl] using hW, rfl⟩
    rw [f_Wk_gather_L20, gd_p ⟨by simp, by simp⟩, if_neg (by simp)]
    rfl
  | succ N ih =>
    intro S W n st K hN hS hst hW hl hK hn hs
    obtain ⟨n, rfl⟩ : ∃ m, n = m + 1 := ⟨n - 1, by omega⟩
    cases S with
    | nil => rw [prs_nil] at hN; simp at hN
    | cons x S =>
      have hx := hS x List.mem_cons_self
      have hlk := h.lk
      have hxl := h.lt hx
      have hR := h.1.2
      have hs6 := h.siz hx
      rw [prs_cons, pr_eq (Lk_at hlk hx)] at hN
      simp only [List.length_append, List.length_cons] at hN
      have hSl := prs_len hlk S (fun y hy => hS y (List.mem_cons_of_mem _ hy))
      have hKl := prs_len hlk (kl x) (fun y hy => (h.kid hx hy).1)
      have htop : kPen K S.length = (x : Int) := by
        have := hst 0 x rfl
        simpa using this
      have hrec : ∃ K1, f_Wk_gather_L20 T b k (n + 1) (((x :: S).length : Nat) : Int) (st : Int) K = f_Wk_gather_L95 T (x : Int) (fun x4_43 x7_44 K_45 => f_Wk_gather_L20 T b k n (x4_43) (((st : Int) + 1)) (K_45)) FU (S.length : Int) (((kl x).length : Int) - 1) K1 ∧ kPen K1 = kPen K ∧ kLen K1 = kLen K ∧ Itm K1 (W ++ fl b [x]) := by
        have hsz : f_Tr_sizeOf T (x : Int) = some ((kl x).length : Int) := by rw [t_siz h.le hxl, hs6.1]
        have p1 : f_Rt_at (kLen K) (kPen K) (((x :: S).length : Int) + -1) = some (x : Int) := by
          rw [show (((x :: S).length : Int) + -1) = ((S.length : Nat) : Int) by simp; omega, at_sp (by omega) (by omega), htop]
        have hlc : (((x :: S).length : Nat) : Int) = (S.length : Int) + 1 := by simp
        have hl1 : ((S.length : Int) + 1 + -1) = (S.length : Int) := by omega
        have hitm : Itm (skCnt (skItm K (up (kItm K) W.length (x : Int))) (kCnt K + 1)) (W ++ [x]) := by
          refine ⟨by show kCnt K + 1 = _; rw [hW.1]; simp, fun i y hi => ?_⟩
          show up (kItm K) W.length (x : Int) i = _
          by_cases hiw : i < W.length
          · rw [List.getElem?_append_left hiw] at hi
            rw [up_o (by omega)]
            exact hW.2 i y hi
          · have := (List.getElem?_eq_some_iff.mp hi).1
            simp at this
            have hiw : i = W.length := by omega
            subst hiw
            rw [List.getElem?_append_right (Nat.le_refl _), Nat.sub_self] at hi
            simp at hi
            rw [up_s, hi]
        have hput : f_Rt_put (kLen K) (kItm K) (kCnt K) (x : Int) = some (up (kItm K) W.length (x : Int)) := by
          rw [hW.1]
          exact put_sp (by omega) (by omega)
        rw [hlc]
        rw [hlc] at p1
        by_cases hx24 : x < 24
        · rcases hb with hb | hb
          · refine ⟨skCnt (skItm K (up (kItm K) W.length (x : Int))) (kCnt K + 1), ?_, rfl, rfl, ?_⟩
            · rw [f_Wk_gather_L20, gd_p ⟨by omega, by omega⟩, if_pos (by omega), gd_p ⟨by omega, by omega⟩, if_pos (by omega), bd1_p p1, gd_p ⟨by omega, by omega⟩, if_pos (by omega), gd_p (by rw [hb]; exact ck_0), if_pos hb.symm, bd1_p hput, bd1_p hsz, hl1]
            · rw [show fl b [x] = [x] by simp [fl, hx24, hb]]
              exact hitm
          · refine ⟨K, ?_, rfl, rfl, ?_⟩
            · rw [f_Wk_gather_L20, gd_p ⟨by omega, by omega⟩, if_pos (by omega), gd_p ⟨by omega, by omega⟩, if_pos (by omega), bd1_p p1, gd_p ⟨by omega, by omega⟩, if_pos (by omega), gd_p (by rw [hb]; exact ⟨by omega, by omega⟩), if_neg (by omega), bd1_p hsz, hl1]
            · rw [show fl b [x] = [] by simp [fl, hx24, hb], List.append_nil]
              exact hW
        · rcases hb with hb | hb
          · refine ⟨K, ?_, rfl, rfl, ?_⟩
            · rw [f_Wk_gather_L20, gd_p ⟨by omega, by omega⟩, if_pos (by omega), gd_p ⟨by omega, by omega⟩, if_pos (by omega), bd1_p p1, gd_p ⟨by omega, by omega⟩, if_neg (by omega), gd_p (by rw [hb]; exact ck_0), if_neg (by omega), bd1_p hsz, hl1]
            · rw [show fl b [x] = [] by simp [fl, hx24, hb], List.append_nil]
              exact hW
          · refine ⟨skCnt (skItm K (up (kItm K) W.length (x : Int))) (kCnt K + 1), ?_, rfl, rfl, ?_⟩
            · rw [f_Wk_gather_L20, gd_p ⟨by omega, by omega⟩, if_pos (by omega), gd_p ⟨by omega, by omega⟩, if_pos (by omega), bd1_p p1, gd_p ⟨by omega, by omega⟩, if_neg (by omega), gd_p (by rw [hb]; exact ⟨by omega, by omega⟩), if_pos hb.symm, bd1_p hput, bd1_p hsz, hl1]
            · rw [show fl b [x] = [x] by simp [fl, hb]; omega]
              exact hitm
      obtain ⟨K1, r1, r2, r3, r4⟩ := hrec
      obtain ⟨pen', e1, e2, e3⟩ := gth_in h hx (fun x4_43 x7_44 K_45 => f_Wk_gather_L20 T b k n (x4_43) (((st : Int) + 1)) (K_45)) (kl x).length S.length FU K1 (Nat.le_refl _) (by omega) (by omega) (by unfold FU; omega)
      have hfl1 : (fl b [x]).length ≤ 1 := by
        have := List.length_filter_le (fun y => decide (y < 24 ↔ b = 0)) [x]
        exact this
      obtain ⟨st', K', f1, f2, f3⟩ := ih (kl x ++ S) (W ++ fl b [x]) n (st + 1) (skPen K1 pen') (by rw [prs_app, List.length_append]; omega) (fun y hy => by
        rcases List.mem_append.mp hy with q | q
        · exact (h.kid hx q).1
        · exact hS y (List.mem_cons_of_mem _ q)) (fun i y hi => by
        show pen' _ = _
        rw [List.length_append]
        by_cases hik : i < (kl x).length
        · rw [List.getElem?_append_left hik] at hi
          have := e2 i y hik hi
          rw [show S.length + ((kl x).length - 1 - i) = (kl x).length + S.length - 1 - i by omega] at this
          exact this
        · rw [List.getElem?_append_right (by omega)] at hi
          have hil := (List.getElem?_eq_some_iff.mp hi).1
          have := hst (i - (kl x).length + 1) y (by rw [List.getElem?_cons_succ]; exact hi)
          rw [e3 _ (by omega), r2, ← this, List.length_cons]
          refine congrArg (kPen K) ?_
          omega) r4 (by show _ ≤ kLen K1; rw [r3, List.length_append]; omega) (by show kLen K1 ≤ 8192; rw [r3]; exact hK) (by omega) (by omega)
      refine ⟨st', K', ?_, ?_, f3.trans r3⟩
      · rw [r1]
        refine Eq.trans e1 ?_
        rw [List.length_append, show (kl x).length + S.length = S.length + (kl x).length by omega] at f1
        rw [show (st : Int) + 1 = ((st + 1 : Nat) : Int) by omega]
        exact f1
      · rw [prs_cons, pr_eq (Lk_at hlk hx)]
        rw [prs_app, List.append_assoc, ← fl_app] at f2
        exact f2
def KR (K : KV) : Prop := kLen K = 157
theorem gather_sp {T : TV} {kl : Nat → List Nat} {Q : List Nat} {b : Int} {x : Nat} {K : KV} (h : Ar T kl Q) (hb : b = 0 ∨ b = 1) (hx : x ∈ Q) (hR3 : R3 T) (hK : KR K) : ∃ K', f_Wk_gather K T (x : Int) b = some K' ∧ Itm K' (fl b (pr (tLev T) kl x)) ∧ KR K' ∧ (pr (tLev T) kl x).length ≤ kLen K' := by
  have hR := h.1
  have hK1 : kLen K = 157 := hK
  have hR1 : tR T = 157 := hR3
  have hpl : (pr (tLev T) kl x).length ≤ tR T := by
    have := sub_len (M := List.range (tR T)) (pr_nodup h x hx) (fun z hz => List.mem_range.mpr (h.lt (pr_in h.lk x hx z hz).1))
    rw [List.length_range] at this
    exact this
  have hxl := h.lt hx
  obtain ⟨st', K', e1, e2, e3⟩ := gth_go h hb (fun x4_66 x5_67 K_68 => some (K_68)) (prs (tLev T) kl [x]).length [x] [] FU 0 (skCnt (skPen K (up (kPen K) 0 (x : Int))) 0) rfl (fun y hy => by rw [List.mem_singleton.mp hy]; exact hx) (fun i y hi => by
    have := (List.getElem?_eq_some_iff.mp hi).1
    simp at this
    subst this
    simp at hi
    show up (kPen K) 0 (x : Int) 0 = _
    rw [up_s, hi]) ⟨rfl, fun i y hi => by simp at hi⟩ (by show _ ≤ kLen K; rw [prs_cons, prs_nil, List.append_nil]; simp; omega) (by show kLen K ≤ 8192; omega) (by rw [prs_cons, prs_nil, List.append_nil]; unfold FU; omega) (by rw [prs_cons, prs_nil, List.append_nil]; omega)
  have e3 : kLen K' = kLen K := e3
  refine ⟨K', ?_, ?_, by unfold KR; rw [e3]; exact hK, by rw [e3]; omega⟩
  · unfold f_Wk_gather
    have hp := put_sp (n := kLen K) (f := kPen K) (x := 0) (v := (x : Int)) (by omega) (by omega)
    have hp : f_Rt_put (kLen K) (kPen K) 0 (x : Int) = _ := hp
    rw [bd1_p hp]
    exact e1
  · rw [prs_cons, prs_nil, List.append_nil, List.nil_append] at e2
    exact e2
