/-! packing: a whole row of groups -/
def flt (cap : Nat) (nc : Int) (cd : Nat → List Int) : Nat → List Nat → List Int
  | _, [] => []
  | i, y :: L => (if i % cap = 0 then [nc] else []) ++ (cd y ++ flt cap nc cd (i + 1) L)
theorem flt_snoc {cap : Nat} {nc : Int} {cd : Nat → List Int} {y : Nat} : ∀ {L : List Nat} {i : Nat}, flt cap nc cd i (L ++ [y]) = flt cap nc cd i L ++ ((if (i + L.length) % cap = 0 then [nc] else []) ++ cd y)
  | [], i => by
    show (if i % cap = 0 then [nc] else []) ++ (cd y ++ []) = [] ++ ((if (i + 0) % cap = 0 then [nc] else []) ++ cd y)
    simp
  | x :: L, i => by
    show (if i % cap = 0 then [nc] else []) ++ (cd x ++ flt cap nc cd (i + 1) (L ++ [y])) = ((if i % cap = 0 then [nc] else []) ++ (cd x ++ flt cap nc cd (i + 1) L)) ++ ((if (i + (L.length + 1)) % cap = 0 then [nc] else []) ++ cd y)
    rw [flt_snoc, show i + 1 + L.length = i + (L.length + 1) by omega]
    simp
def GR (T0 : TV) (kl0 : Nat → List Nat) (Q0 L : List Nat) (l : Int) (cap i : Nat) (T : TV) (kl : Nat → List Nat) (Q G : List Nat) (h row : Nat → Int) (cur : Int) : Prop :=
  GJ T0 kl0 Q0 l T kl Q G h (L.take i) (flt cap (-1 - l) (cdT T0 kl0) 0 (L.take i)) ∧ G.length = (i + cap - 1) / cap ∧ (∀ g ∈ G, 1 ≤ (kl g).length ∧ (kl g).length ≤ cap) ∧ ((i = 0 ∧ G = [] ∧ cur = -1) ∨ ∃ (G0 : List Nat) (x : Nat), 0 < i ∧ G = G0 ++ [x] ∧ cur = (x : Int) ∧ (kl x).length = (i - 1) % cap + 1) ∧ (∀ (j g : Nat), G[j]? = some g → row j = (g : Int)) ∧ ∀ (j y : Nat), i ≤ j → L[j]? = some y → row j = (y : Int)
/-- the row to be grouped -/
def GL (T0 : TV) (kl0 : Nat → List Nat) (Q0 L : List Nat) (l : Int) (cap : Nat) : Prop := Ar T0 kl0 Q0 ∧ (0 ≤ l ∧ l ≤ 20) ∧ (∀ y ∈ L, y ∈ Q0 ∧ tLev T0 y = l - 1 ∧ ∀ z ∈ Q0, y ∉ kl0 z) ∧ L.Nodup ∧ L.length ≤ 24 ∧ Q0.length ≤ 36 ∧ tCap T0 = (cap : Int) ∧ (3 ≤ cap ∧ cap ≤ 5)
theorem cap_a {cap i m G : Nat} (hc : 3 ≤ cap ∧ cap ≤ 5) (hG : G = (i + cap - 1) / cap) (hi : i < m) (hm : m ≤ 24) : G ≤ 8 ∧ G ≤ i := by
  rcases (show cap = 3 ∨ cap = 4 ∨ cap = 5 by omega) with q | q | q <;> subst q <;> omega
theorem cap_b {cap i : Nat} (hc : 3 ≤ cap ∧ cap ≤ 5) (hi : i % cap = 0) : (i + cap - 1) / cap + 1 = (i + 1 + cap - 1) / cap := by
  rcases (show cap = 3 ∨ cap = 4 ∨ cap = 5 by omega) with q | q | q <;> subst q <;> omega
theorem cap_c {cap i : Nat} (hc : 3 ≤ cap ∧ cap ≤ 5) (h0 : 0 < i) (hi : i % cap ≠ 0) : (i - 1) % cap + 1 < cap ∧ i % cap = (i - 1) % cap + 1 ∧ (i + 1 + cap - 1) / cap = (i + cap - 1) / cap := by
  rcases (show cap = 3 ∨ cap = 4 ∨ cap = 5 by omega) with q | q | q <;> subst q <;> omega
theorem cap_d {cap i : Nat} (hc : 3 ≤ cap ∧ cap ≤ 5) (h0 : 0 < i) (hi : i % cap = 0) : ¬ (i - 1) % cap + 1 < cap := by
  rcases (show cap = 3 ∨ cap = 4 ∨ cap = 5 by omega) with q | q | q <;> subst q <;> omega
theorem take_succ2 {L : List Nat} {i y : Nat} (hy : L[i]? = some y) : L.take (i + 1) = L.take i ++ [y] := by
  rw [List.take_add_one, hy]
  rfl
theorem gz_row {G : List Nat} {row : Nat → Int} {x : Nat} (h : ∀ (j g : Nat), G[j]? = some g → row j = (g : Int)) : ∀ (j g : Nat), (G ++ [x])[j]? = some g → up row G.length (x : Int) j = (g : Int) := fun j g hj => by
  by_cases hjl : j < G.length
  · rw [List.getElem?_append_left hjl] at hj
    rw [up_o (by omega)]
    exact h j g hj
  · rw [List.getElem?_append_right (by omega)] at hj
    have h1 := (List.getElem?_eq_some_iff.mp hj).1
    rw [List.length_singleton] at h1
    have h2 : j = G.length := by omega
    subst h2
    rw [Nat.sub_self] at hj
    have h3 : x = g := Option.some.inj hj
    rw [up_s, h3]
theorem gz_new {T0 T : TV} {kl0 kl : Nat → List Nat} {Q0 L Q G : List Nat} {l cur : Int} {cap i y : Nat} {h row : Nat → Int} (H : GL T0 kl0 Q0 L l cap) (J : GR T0 kl0 Q0 L l cap i T kl Q G h row cur) (hy : L[i]? = some y) (hi : i % cap = 0) : ∃ (x : Nat) (T1 T2 : TV) (h2 : Nat → Int), f_Tr_newNode (sHol T h) l = some ((x : Int), T1) ∧ f_Rt_put 24 row (G.length : Int) (x : Int) = some (up row G.length (x : Int)) ∧ f_Tr_sizeOf T1 (x : Int) = some 0 ∧ f_Tr_addAt T1 (x : Int) 0 (y : Int) = some (sHol T2 h2) ∧ ∃ kl2 Q2, GR T0 kl0 Q0 L l cap (i + 1) T2 kl2 Q2 (G ++ [x]) h2 (up row G.length (x : Int)) (x : Int) := by
  obtain ⟨hA0, hl, hL, hLn, hL24, hQ36, hcap, hc35⟩ := H
  obtain ⟨J1, hGl, hsz, -, hr1, hr2⟩ := J
  have hiL := (List.getElem?_eq_some_iff.mp hy).1
  have hG8 := cap_a hc35 hGl hiL hL24
  have hQl := J1.2.1.2
  obtain ⟨x, e1, e2, e3, e4⟩ := gj_new hA0 J1 hl (by omega)
  have hyL := hL y (List.mem_of_getElem? hy)
  have hyF : y ∉ L.take i := fun q => by
    have h1 := (List.take_append_drop i L).symm
    rw [List.drop_eq_getElem_cons hiL, (List.getElem?_eq_some_iff.mp hy).2] at h1
    rw [h1] at hLn
    exact (List.nodup_append.mp hLn).2.2 y q y List.mem_cons_self rfl
  have h0 : (upL kl x [] x).length = 0 := by rw [upL_s]; rfl
  obtain ⟨T2, f1, f2⟩ := gj_add hA0 e4 hyL.1 hyL.2.1 hyL.2.2 hyF (by omega)
  rw [h0] at f1
  have hx := e4.1.1.lt (x := x) List.mem_cons_self
  refine ⟨x, sHol (tk T x l) (up h x (-1)), T2, up (up h x (-1)) y (x : Int), e1, put_sp (by omega) (by omega), ?_, f1, upL (upL kl x []) x (upL kl x [] x ++ [y]), x :: Q, ⟨?_, ?_, fun g hg => ?_, Or.inr ⟨G, x, by omega, rfl, rfl, ?_⟩, gz_row hr1, fun j z hj hz => ?_⟩⟩
  · have := t_siz (T := sHol (tk T x l) (up h x (-1))) (x := x) e4.1.1.le hx
    rw [this]
    exact congrArg some up_s
  · rw [take_succ2 hy, flt_snoc]
    have hlt : (L.take i).length = i := by rw [List.length_take]; omega
    rw [hlt, Nat.zero_add, if_pos hi, ← List.append_assoc]
    exact f2
  · rw [List.length_append, List.length_singleton, hGl]
    exact cap_b hc35 hi
  · by_cases hgx : g = x
    · rw [hgx, upL_s, upL_s]
      show 1 ≤ ([] ++ [y]).length ∧ ([] ++ [y]).length ≤ cap
      rw [List.nil_append, List.length_singleton]
      omega
    · rw [upL_o hgx, upL_o hgx]
      rcases List.mem_append.mp hg with q | q
      · exact hsz g q
      · exact absurd (List.mem_singleton.mp q) hgx
  · rw [upL_s, upL_s]
    show ([] ++ [y]).length = _
    rw [List.nil_append, List.length_singleton, show i + 1 - 1 = i by omega, hi]
  · rw [up_o (by omega)]
    exact hr2 j z (by omega) hz
theorem gz_old {T0 T : TV} {kl0 kl : Nat → List Nat} {Q0 L Q G0 : List Nat} {l cur : Int} {cap i x y : Nat} {h row : Nat → Int} (H : GL T0 kl0 Q0 L l cap) (J : GR T0 kl0 Q0 L l cap i T kl Q (G0 ++ [x]) h row cur) (hi0 : 0 < i) (hk : (kl x).length = (i - 1) % cap + 1) (hy : L[i]? = some y) (hi : i % cap ≠ 0) : ∃ (T2 : TV) (h2 : Nat → Int), f_Tr_addAt (sHol T h) (x : Int) ((kl x).length : Int) (y : Int) = some (sHol T2 h2) ∧ ∃ kl2 Q2, GR T0 kl0 Q0 L l cap (i + 1) T2 kl2 Q2 (G0 ++ [x]) h2 row (x : Int) := by
  obtain ⟨hA0, hl, hL, hLn, hL24, hQ36, hcap, hc35⟩ := H
  obtain ⟨J1, hGl, hsz, -, hr1, hr2⟩ := J
  have hiL := (List.getElem?_eq_some_iff.mp hy).1
  have hyL := hL y (List.mem_of_getElem? hy)
  have hyF : y ∉ L.take i := fun q => by
    have h1 := (List.take_append_drop i L).symm
    rw [List.drop_eq_getElem_cons hiL, (List.getElem?_eq_some_iff.mp hy).2] at h1
    rw [h1] at hLn
    exact (List.nodup_append.mp hLn).2.2 y q y List.mem_cons_self rfl
  have hmod := cap_c hc35 hi0 hi
  obtain ⟨T2, f1, f2⟩ := gj_add hA0 J1 hyL.1 hyL.2.1 hyL.2.2 hyF (by omega)
  refine ⟨T2, up h y (x : Int), f1, upL kl x (kl x ++ [y]), Q, ⟨?_, by rw [hGl, hmod.2.2], fun g hg => ?_, Or.inr ⟨G0, x, by omega, rfl, rfl, ?_⟩, hr1, fun j z hj hz => hr2 j z (by omega) hz⟩⟩
  · rw [take_succ2 hy, flt_snoc]
    have hlt : (L.take i).length = i := by rw [List.length_take]; omega
    rw [hlt, Nat.zero_add, if_neg hi, List.nil_append]
    exact f2
  · by_cases hgx : g = x
    · rw [hgx, upL_s, List.length_append, List.length_singleton]
      omega
    · rw [upL_o hgx]
      exact hsz g hg
  · rw [upL_s, List.length_append, List.length_singleton, hk, show i + 1 - 1 = i by omega, hmod.2.1]
theorem gz_go {T0 : TV} {kl0 : Nat → List Nat} {Q0 L : List Nat} {l : Int} {cap : Nat} (H : GL T0 kl0 Q0 L l cap) (k : Int → Int → Int → (Nat → Int) → TV → Option (Int × (Nat → Int) × TV)) : ∀ (d i n : Nat) (T : TV) (kl : Nat → List Nat) (Q G : List Nat) (h row : Nat → Int) (cur : Int), i + d = L.length → d < n → GR T0 kl0 Q0 L l cap i T kl Q G h row cur → ∃ (T' : TV) (kl' : Nat → List Nat) (Q' G' : List Nat) (h' row' : Nat → Int) (cur' : Int), f_Pk_groupRow_L8 (L.length : Int) l k n (G.length : Int) cur (i : Int) row (sHol T h) = k (G'.length : Int) cur' (L.length : Int) row' (sHol T' h') ∧ GR T0 kl0 Q0 L l cap L.length T' kl' Q' G' h' row' cur' := by
  obtain ⟨hA0, hl, hL, hLn, hL24, hQ36, hcap, hc35⟩ := id H
  intro d
  induction d with
  | zero =>
    intro i n T kl Q G h row cur hi hn J
    obtain ⟨n, rfl⟩ : ∃ z, n = z + 1 := ⟨n - 1, by omega⟩
    have hi : i = L.length := by omega
    subst hi
    refine ⟨T, kl, Q, G, h, row, cur, ?_, J⟩
    rw [f_Pk_groupRow_L8, gd_p ⟨by omega, by omega⟩, gd_p ⟨by omega, by omega⟩, if_neg (by omega)]
  | succ d ih =>
    intro i n T kl Q G h row cur hi hn J
    obtain ⟨n, rfl⟩ : ∃ z, n = z + 1 := ⟨n - 1, by omega⟩
    obtain ⟨y, hy⟩ : ∃ y, L[i]? = some y := ⟨L[i], List.getElem?_eq_getElem (by omega)⟩
    have hat : f_Rt_at 24 row (i : Int) = some (y : Int) := by rw [at_sp (by omega) (by omega), J.2.2.2.2.2 i y (Nat.le_refl _) hy]
    have hl1 : ∀ x : Nat, (G.length : Int) + 1 = ((G ++ [x]).length : Int) := fun x => by rw [List.length_append]; rfl
    rw [f_Pk_groupRow_L8, gd_p ⟨by omega, by omega⟩, gd_p ⟨by omega, by omega⟩, if_pos (by omega), bd1_p hat, show (i : Int) + 1 = ((i + 1 : Nat) : Int) by omega]
    rcases J.2.2.2.1 with ⟨hi0, hG0, hcur⟩ | ⟨G0, x, hi0, hG0, hcur, hk⟩
    · obtain ⟨x, T1, T2, h2, a1, a2, a3, a4, kl2, Q2, a5⟩ := gz_new H J hy (by rw [hi0]; exact Nat.zero_mod _)
      rw [hcur, gd_p ⟨by omega, by omega⟩, if_pos rfl, bd2_p a1, bd1_p a2, bd1_p a3, bd1_p a4, hl1 x]
      exact ih (i + 1) n T2 kl2 Q2 (G ++ [x]) h2 _ _ (by omega) (by omega) a5
    · have hx := J.1.1.1.lt (x := x) ((J.1.2.1.1 x).mpr (Or.inl (by rw [hG0]; simp)))
      have hR := J.1.1.1.1.2
      have hxQ : x ∈ Q := (J.1.2.1.1 x).mpr (Or.inl (by rw [hG0]; simp))
      have hs := J.1.1.1.siz hxQ
      have hsz : f_Tr_sizeOf (sHol T h) (x : Int) = some ((kl x).length : Int) := by
        rw [← hs.1]
        exact t_siz (T := sHol T h) J.1.1.1.le hx
      have hcp : tCap (sHol T h) = (cap : Int) := J.1.2.2.2.2.1.2.1.trans hcap
      rw [hcur, gd_p ⟨by omega, by omega⟩, if_neg (by omega), bd1_p hsz, gd_p ⟨by omega, by omega⟩, hcp, gd_p ⟨by omega, by omega⟩]
      by_cases him : i % cap = 0
      · have hfull : ¬ (kl x).length < cap := by
          rw [hk]
          exact cap_d hc35 hi0 him
        obtain ⟨x2, T1, T2, h2, a1, a2, a3, a4, kl2, Q2, a5⟩ := gz_new H J hy him
        rw [if_neg (by omega), bd2_p a1, bd1_p a2, bd1_p a3, bd1_p a4, hl1 x2]
        exact ih (i + 1) n T2 kl2 Q2 (G ++ [x2]) h2 _ _ (by omega) (by omega) a5
      · subst hG0
        obtain ⟨T2, h2, a1, kl2, Q2, a2⟩ := gz_old H J hi0 hk hy him
        have hlt : (kl x).length < cap := by
          rw [hk]
          exact (cap_c hc35 hi0 him).1
        rw [if_pos (by omega), bd1_p hsz, bd1_p a1]
        exact ih (i + 1) n T2 kl2 Q2 (G0 ++ [x]) h2 _ _ (by omega) (by omega) a2
