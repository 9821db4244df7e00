/-! packing: a row of groups, step by step -/
theorem fm_same {f g : Nat → List Nat} : ∀ {L : List Nat}, (∀ y ∈ L, f y = g y) → L.flatMap f = L.flatMap g
  | [], _ => rfl
  | y :: L, h => by
    rw [List.flatMap_cons, List.flatMap_cons, h y List.mem_cons_self, fm_same (fun z hz => h z (List.mem_cons_of_mem _ hz))]
def cdT (T0 : TV) (kl0 : Nat → List Nat) (y : Nat) : List Int := (pr (tLev T0) kl0 y).map (sg (tLev T0))
def GJ (T0 : TV) (kl0 : Nat → List Nat) (Q0 : List Nat) (l : Int) (T : TV) (kl : Nat → List Nat) (Q G : List Nat) (h : Nat → Int) (F : List Nat) (W : List Int) : Prop :=
  (Ar T kl Q ∧ ∀ z ∈ Q, Cr (tCor T) kl z) ∧ ((∀ z, z ∈ Q ↔ z ∈ G ∨ z ∈ Q0) ∧ Q.length = G.length + Q0.length) ∧ (∀ z ∈ Q0, tLev T z = tLev T0 z ∧ kl z = kl0 z ∧ z ∉ G) ∧ (∀ z t, z < 24 → t < 4 → tCor T (4 * z + t) = tCor T0 (4 * z + t)) ∧ (tR T = tR T0 ∧ tCap T = tCap T0 ∧ tRei T = tRei T0 ∧ tSpl T = tSpl T0 ∧ tRec T = tRec T0) ∧ (∀ z ∈ Q, (24 ≤ z ∨ tHol T0 z ≠ -1) → h z = tHol T z) ∧ (∀ y ∈ F, h y = tHol T y) ∧ (∀ g ∈ G, tLev T g = l ∧ tHol T g = -1 ∧ 24 ≤ g ∧ ∀ y ∈ kl g, y ∈ Q0) ∧ G.flatMap kl = F ∧ (prs (tLev T) kl G).map (sg (tLev T)) = W ∧ G.Nodup
theorem GJ.same {T0 T : TV} {kl0 kl : Nat → List Nat} {Q0 Q G F : List Nat} {l : Int} {h : Nat → Int} {W : List Int} (h0 : Ar T0 kl0 Q0) (J : GJ T0 kl0 Q0 l T kl Q G h F W) : ∀ y ∈ Q0, pr (tLev T) kl y = pr (tLev T0) kl0 y := fun y hy => pr_same h0.lk y hy (fun z hz => ⟨(J.2.2.1 z (pr_in h0.lk y hy z hz).1).2.1, (J.2.2.1 z (pr_in h0.lk y hy z hz).1).1⟩)
theorem GJ.code {T0 T : TV} {kl0 kl : Nat → List Nat} {Q0 Q G F : List Nat} {l : Int} {h : Nat → Int} {W : List Int} (h0 : Ar T0 kl0 Q0) (J : GJ T0 kl0 Q0 l T kl Q G h F W) : ∀ y ∈ Q0, (pr (tLev T) kl y).map (sg (tLev T)) = cdT T0 kl0 y := fun y hy => by
  unfold cdT
  rw [J.same h0 y hy]
  refine List.map_congr_left (fun z hz => ?_)
  unfold sg
  rw [(J.2.2.1 z (pr_in h0.lk y hy z hz).1).1]
theorem gj_new {T0 T : TV} {kl0 kl : Nat → List Nat} {Q0 Q G F : List Nat} {l : Int} {h : Nat → Int} {W : List Int} (h0 : Ar T0 kl0 Q0) (J : GJ T0 kl0 Q0 l T kl Q G h F W) (hl : 0 ≤ l ∧ l ≤ 20) (hQ : Q.length < 48) : ∃ x : Nat, f_Tr_newNode (sHol T h) l = some ((x : Int), sHol (tk T x l) (up h x (-1))) ∧ x ∉ Q ∧ 24 ≤ x ∧ GJ T0 kl0 Q0 l (tk T x l) (upL kl x []) (x :: Q) (G ++ [x]) (up h x (-1)) F (W ++ [-1 - l]) := by
  obtain ⟨⟨hA, hC⟩, ⟨hm, hlen⟩, hQ0, hcor, hf, hn, hF, hG, hfm, hW, hnd⟩ := id J
  obtain ⟨x, e1, e2, e3, e4, e5⟩ := nn_sp (g := h) hA hQ hl
  have hne : ∀ z ∈ Q, z ≠ x := fun z hz q => e2 (q ▸ hz)
  have hGQ : ∀ g ∈ G, g ∈ Q := fun g hg => (hm g).mpr (Or.inl hg)
  have h0Q : ∀ g ∈ Q0, g ∈ Q := fun g hg => (hm g).mpr (Or.inr hg)
  have hFQ : ∀ y ∈ F, y ∈ Q := fun y hy => by
    rw [← hfm] at hy
    obtain ⟨g, hg, hyg⟩ := List.mem_flatMap.mp hy
    exact h0Q y ((hG g hg).2.2.2 y hyg)
  have hlv : ∀ z, z ≠ x → tLev (tk T x l) z = tLev T z := fun z hz => up_o hz
  have hhl : ∀ z, z ≠ x → tHol (tk T x l) z = tHol T z := fun z hz => up_o hz
  have hlx : tLev (tk T x l) x = l := up_s
  have hlk := hA.lk
  have hprs : ∀ L : List Nat, (∀ y ∈ L, y ∈ Q) → prs (tLev (tk T x l)) (upL kl x []) L = prs (tLev T) kl L := fun L hL => prs_same hlk L hL (fun z hz => by
    obtain ⟨y, hy, hzy⟩ := mem_prs.mp hz
    have hzQ := (pr_in hlk y (hL y hy) z hzy).1
    exact ⟨upL_o (hne z hzQ), hlv z (hne z hzQ)⟩)
  have hprx : pr (tLev (tk T x l)) (upL kl x []) x = [x] := by
    rw [pr_eq (Lk_at e5.lk List.mem_cons_self), upL_s]
    rfl
  refine ⟨x, e1, e2, e3, ⟨e5, fun z hz => ?_⟩, ⟨fun z => ?_, ?_⟩, fun z hz => ?_, hcor, hf, fun z hz h24 => ?_, fun y hy => ?_, fun g hg => ?_, ?_, ?_, ?_⟩
  · by_cases hzx : z = x
    · subst hzx
      intro _ q
      rw [upL_s] at q
      exact absurd rfl q
    · have := hC z ((List.mem_cons.mp hz).resolve_left hzx)
      intro q1 q2 t ht
      rw [upL_o hzx] at q2 ⊢
      exact this q1 q2 t ht
  · rw [List.mem_cons, List.mem_append, List.mem_singleton, hm z]
    constructor
    · rintro (q | q | q)
      · exact Or.inl (Or.inr q)
      · exact Or.inl (Or.inl q)
      · exact Or.inr q
    · rintro ((q | q) | q)
      · exact Or.inr (Or.inl q)
      · exact Or.inl q
      · exact Or.inr (Or.inr q)
  · rw [List.length_cons, List.length_append, List.length_singleton]
    omega
  · have hzx := hne z (h0Q z hz)
    refine ⟨(hlv z hzx).trans (hQ0 z hz).1, (upL_o hzx).trans (hQ0 z hz).2.1, fun q => ?_⟩
    rcases List.mem_append.mp q with q | q
    · exact (hQ0 z hz).2.2 q
    · exact hzx (List.mem_singleton.mp q)
  · by_cases hzx : z = x
    · rw [hzx, up_s]
      exact up_s.symm
    · rw [up_o hzx, hhl z hzx]
      exact hn z ((List.mem_cons.mp hz).resolve_left hzx) h24
  · have hyx := hne y (hFQ y hy)
    rw [up_o hyx, hhl y hyx]
    exact hF y hy
  · rcases List.mem_append.mp hg with q | q
    · have hgx := hne g (hGQ g q)
      have := hG g q
      rw [hlv g hgx, hhl g hgx, upL_o hgx]
      exact this
    · have hgx := List.mem_singleton.mp q
      subst hgx
      refine ⟨hlx, up_s, e3, fun y hy => ?_⟩
      rw [upL_s] at hy
      cases hy
  · rw [List.flatMap_append, List.flatMap_cons, List.flatMap_nil, upL_s, List.append_nil, List.append_nil, ← hfm]
    exact fm_same (fun g hg => upL_o (hne g (hGQ g hg)))
  · rw [prs_app, prs_cons, prs_nil, List.append_nil, hprx, hprs G hGQ, List.map_append, ← hW]
    have h1 : (prs (tLev T) kl G).map (sg (tLev (tk T x l))) = (prs (tLev T) kl G).map (sg (tLev T)) := List.map_congr_left (fun z hz => by
      obtain ⟨y, hy, hzy⟩ := mem_prs.mp hz
      have hzQ := (pr_in hlk y (hGQ y hy) z hzy).1
      unfold sg
      rw [hlv z (hne z hzQ)])
    have h2 : sg (tLev (tk T x l)) x = -1 - l := by
      unfold sg
      rw [if_neg (by omega), hlx]
    rw [h1, List.map_cons, List.map_nil, h2]
  · refine List.nodup_append.mpr ⟨hnd, by simp, fun a ha b hb => ?_⟩
    rw [List.mem_singleton.mp hb]
    exact hne a (hGQ a ha)
theorem gj_add {T0 T : TV} {kl0 kl : Nat → List Nat} {Q0 Q G0 F : List Nat} {l : Int} {h : Nat → Int} {W : List Int} {x y : Nat} (h0 : Ar T0 kl0 Q0) (J : GJ T0 kl0 Q0 l T kl Q (G0 ++ [x]) h F W) (hy : y ∈ Q0) (hyl : tLev T0 y = l - 1) (hloose : ∀ z ∈ Q0, y ∉ kl0 z) (hyF : y ∉ F) (h5 : (kl x).length < 5) : ∃ T', f_Tr_addAt (sHol T h) (x : Int) ((kl x).length : Int) (y : Int) = some (sHol T' (up h y (x : Int))) ∧ GJ T0 kl0 Q0 l T' (upL kl x (kl x ++ [y])) Q (G0 ++ [x]) (up h y (x : Int)) (F ++ [y]) (W ++ cdT T0 kl0 y) := by
  obtain ⟨⟨hA, hC⟩, ⟨hm, hlen⟩, hQ0, hcor, hf, hn, hF, hG, hfm, hW, hnd⟩ := id J
  have hxG : x ∈ G0 ++ [x] := by simp
  have hx := hG x hxG
  have hxQ : x ∈ Q := (hm x).mpr (Or.inl hxG)
  have hyQ : y ∈ Q := (hm y).mpr (Or.inr hy)
  have hyx : y ≠ x := fun q => (hQ0 y hy).2.2 (q ▸ hxG)
  have hlo : ∀ z ∈ Q, y ∉ kl z := fun z hz q => by
    rcases (hm z).mp hz with w | w
    · exact hyF (by rw [← hfm]; exact List.mem_flatMap.mpr ⟨z, w, q⟩)
    · rw [(hQ0 z w).2.1] at q
      exact hloose z w q
  obtain ⟨T', e1, e2, e3, e4, e5, e6⟩ := addEnd_sp (g := h) hA (fun z hz _ => hC z hz) hxQ hx.2.2.1 hyQ (by rw [(hQ0 y hy).1, hyl, hx.1]) hlo (by omega) hx.2.1 ((hn x hxQ (Or.inl hx.2.2.1)).trans hx.2.1)
  have hlv : tLev T' = tLev T := e4.1
  have hlk := hA.lk
  have hxn0 : ∀ z ∈ Q0, z ≠ x := fun z hz q => (hQ0 z hz).2.2 (q ▸ hxG)
  have hFQ : ∀ z ∈ F, z ∈ Q0 := fun z hz => by
    rw [← hfm] at hz
    obtain ⟨g, hg, hyg⟩ := List.mem_flatMap.mp hz
    exact (hG g hg).2.2.2 z hyg
  have hG0x : ∀ g ∈ G0, g ≠ x := fun g hg q => by
    subst q
    exact (List.nodup_append.mp hnd).2.2 g hg g List.mem_cons_self rfl
  refine ⟨T', e1, ⟨e2, e3⟩, ⟨hm, hlen⟩, fun z hz => ?_, fun z t hz ht => (e6 z t ht (Or.inl hz)).trans (hcor z t hz ht), ?_, fun z hz h24 => ?_, fun z hz => ?_, fun g hg => ?_, ?_, ?_, hnd⟩
  · rw [hlv, upL_o (hxn0 z hz)]
    exact hQ0 z hz
  · rw [e4.2.1, e4.2.2.2.1, e4.2.2.2.2.1, e4.2.2.2.2.2.1, e4.2.2.2.2.2.2]
    exact hf
  · rw [e5]
    by_cases hzy : z = y
    · rw [hzy, up_s, up_s]
    · rw [up_o hzy, up_o hzy]
      exact hn z hz h24
  · rw [e5]
    by_cases hzy : z = y
    · rw [hzy, up_s, up_s]
    · rw [up_o hzy, up_o hzy]
      rcases List.mem_append.mp hz with q | q
      · exact hF z q
      · exact absurd (List.mem_singleton.mp q) hzy
  · have := hG g hg
    have hgy : g ≠ y := fun q => (hQ0 y hy).2.2 (q ▸ hg)
    rw [hlv, e5, up_o hgy]
    refine ⟨this.1, this.2.1, this.2.2.1, fun z hz => ?_⟩
    by_cases hgx : g = x
    · rw [hgx, upL_s] at hz
      rcases List.mem_append.mp hz with q | q
      · exact hx.2.2.2 z q
      · rw [List.mem_singleton.mp q]
        exact hy
    · rw [upL_o hgx] at hz
      exact this.2.2.2 z hz
  · rw [← hfm, List.flatMap_append, List.flatMap_append, List.flatMap_cons, List.flatMap_cons, List.flatMap_nil, List.flatMap_nil, upL_s, List.append_nil, List.append_nil, List.append_assoc]
    congr 1
    exact fm_same (fun g hg => upL_o (hG0x g hg))
  · have hprs : prs (tLev T) (upL kl x (kl x ++ [y])) G0 = prs (tLev T) kl G0 := prs_same hlk G0 (fun g hg => (hm g).mpr (Or.inl (List.mem_append_left _ hg))) (fun z hz => by
      refine ⟨upL_o (fun q => ?_), rfl⟩
      subst q
      obtain ⟨g, hg, hzg⟩ := mem_prs.mp hz
      have h2 := pr_in hlk g ((hm g).mpr (Or.inl (List.mem_append_left _ hg))) z hzg
      have h3 := (hG g (List.mem_append_left _ hg)).1
      have h4 := h2.2.2 (by rw [h3, hx.1])
      exact hG0x g hg h4.symm)
    have hlk2 := e2.lk
    rw [hlv] at hlk2
    have hk0 : prs (tLev T) (upL kl x (kl x ++ [y])) (kl x ++ [y]) = prs (tLev T) kl (kl x ++ [y]) := prs_same hlk (kl x ++ [y]) (fun z hz => by
      rcases List.mem_append.mp hz with q | q
      · exact (hA.kid hxQ q).1
      · rw [List.mem_singleton.mp q]
        exact hyQ) (fun z hz => by
      refine ⟨upL_o (fun q => ?_), rfl⟩
      subst q
      obtain ⟨g, hg, hzg⟩ := mem_prs.mp hz
      rcases List.mem_append.mp hg with q | q
      · have h2 := hA.kid hxQ q
        have h3 := (pr_in hlk g h2.1 z hzg).2.1
        omega
      · have hgy := List.mem_singleton.mp q
        subst hgy
        have h3 := (pr_in hlk g hyQ z hzg).2.1
        have h4 := (hQ0 g hy).1
        have h5 := hx.1
        omega)
    have hprx : pr (tLev T) (upL kl x (kl x ++ [y])) x = pr (tLev T) kl x ++ pr (tLev T) kl y := by
      rw [pr_eq (Lk_at hlk2 hxQ), upL_s, hk0, prs_app, pr_eq (Lk_at hlk hxQ), prs_cons, prs_nil, List.append_nil]
      rfl
    rw [hlv, prs_app, prs_cons, prs_nil, List.append_nil, hprs, hprx, ← hW, prs_app, prs_cons, prs_nil, List.append_nil, ← J.code h0 y hy]
    simp
