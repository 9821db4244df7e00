/-! packing: a level on top of a level -/
theorem Ar.hol {T : TV} {kl : Nat → List Nat} {Q : List Nat} {h : Nat → Int} (A : Ar T kl Q) (e : ∀ z ∈ Q, h z = tHol T z) : Ar (sHol T h) kl Q := by
  refine ⟨A.1, A.2.1, A.2.2.1, A.2.2.2.1, fun x hx => ?_⟩
  have hi := A.2.2.2.2 x hx
  refine ⟨hi.1, hi.2.1, hi.2.2.1, hi.2.2.2.1, fun y hy => ?_, ?_⟩
  · have := hi.2.2.2.2.1 y hy
    exact ⟨this.1, (e y this.1).trans this.2.1, this.2.2⟩
  · show h x = -1 ∨ ∃ z ∈ Q, 24 ≤ z ∧ h x = (z : Int) ∧ tLev T z = tLev T x + 1
    rw [e x hx]
    exact hi.2.2.2.2.2
/-- a forest whose tops stand in the class's row and in the reference's -/
def PK (cap : Nat) (lx : Int) (T : TV) (kl : Nat → List Nat) (Q G N : List Nat) (row s : Nat → Int) : Prop :=
  (Ar T kl Q ∧ (∀ z ∈ Q, Cr (tCor T) kl z) ∧ tCap T = (cap : Int) ∧ (3 ≤ cap ∧ cap ≤ 5)) ∧ (0 ≤ lx ∧ lx + (G.length : Int) ≤ 9) ∧ (∀ y ∈ G, y ∈ Q ∧ tLev T y = lx ∧ tHol T y = -1 ∧ 24 ≤ y ∧ ∀ z ∈ Q, y ∉ kl z) ∧ (G.Nodup ∧ 1 ≤ G.length ∧ G.length ≤ 8) ∧ (∀ v ∈ Q, v ∈ prs (tLev T) kl G) ∧ (∀ v ∈ Q, (kl v).length ≤ 5 ∧ (24 ≤ v → kl v ≠ [] ∧ v ∈ N)) ∧ (Q.length ≤ 24 + N.length) ∧ (Hs row 0 G ∧ Rw s ((prs (tLev T) kl G).map (sg (tLev T))) ∧ s 0 = (cap : Int)) ∧ (lx = 0 ∨ ∀ x, G = [x] → 2 ≤ (kl x).length)
theorem okI_lvO {lv : Nat → Int} {x : Nat} {lx : Int} (h : okI lv x) (hx : lv x ≠ lx) : lvO (sg lv x) lx := ⟨lv x, levelOf_sg h, (okI_ck h).2.1, hx⟩
theorem pk_up {cap : Nat} {lx : Int} {T : TV} {kl : Nat → List Nat} {Q G N : List Nat} {row s : Nat → Int} (K : PK cap lx T kl Q G N row s) (hG : 1 < G.length) (hN : N.length + (G.length + cap - 1) / cap ≤ 12) : ∃ (T' : TV) (kl' : Nat → List Nat) (Q' G' : List Nat) (row' s' : Nat → Int), f_Pk_groupRow row T (G.length : Int) (lx + 1) = some ((G'.length : Int), row', T') ∧ f_Mo_packsAbove s lx = some ((G'.length : Int), s') ∧ PK cap (lx + 1) T' kl' Q' G' (N ++ G') row' s' ∧ G'.length = (G.length + cap - 1) / cap ∧ Fr s s' ∧ (∀ v ∈ Q, v ∈ Q' ∧ tLev T' v = tLev T v) ∧ (∀ v ∈ Q', v ∈ Q ∨ v ∈ G') ∧ (∀ z t, z < 24 → t < 4 → tCor T' (4 * z + t) = tCor T (4 * z + t)) ∧ (tR T' = tR T ∧ tCap T' = tCap T ∧ tRei T' = tRei T ∧ tSpl T' = tSpl T ∧ tRec T' = tRec T) := by
  obtain ⟨⟨hA, hC, hcap, hc35⟩, hlx, hGm, ⟨hGn, hG1, hG8⟩, hall, hsz, hQN, ⟨hrow, hrw, hs0⟩, hrt⟩ := K
  have hlk := hA.lk
  have hg8 : (G.length + cap - 1) / cap ≤ 8 ∧ 1 ≤ (G.length + cap - 1) / cap ∧ (G.length + cap - 1) / cap < 24 := by
    rcases (show cap = 3 ∨ cap = 4 ∨ cap = 5 by omega) with q | q | q <;> subst q <;> omega
  have hGL : GL T kl Q G (lx + 1) cap := ⟨hA, ⟨by omega, by omega⟩, fun y hy => ⟨(hGm y hy).1, by have := (hGm y hy).2.1; omega, (hGm y hy).2.2.2.2⟩, hGn, by omega, by omega, hcap, hc35⟩
  have hGR0 : GR T kl Q G (lx + 1) cap 0 T kl Q [] (tHol T) row (-1) := by
    refine ⟨⟨⟨hA, hC⟩, ⟨fun z => ⟨fun q => Or.inr q, fun q => q.elim (fun w => by cases w) id⟩, (Nat.zero_add _).symm⟩, fun z _ => ⟨rfl, rfl, (fun w => by cases w)⟩, fun _ _ _ _ => rfl, ⟨rfl, rfl, rfl, rfl, rfl⟩, fun _ _ _ => rfl, (fun y hy => by cases hy), (fun g hg => by cases hg), rfl, rfl, List.nodup_nil⟩, ?_, (fun g hg => by cases hg), Or.inl ⟨rfl, rfl, rfl⟩, (fun j g hj => by cases hj), fun j y _ hy => ?_⟩
    · show 0 = (0 + cap - 1) / cap
      exact (Nat.div_eq_of_lt (by omega)).symm
    · have := hrow j y hy
      rw [Nat.zero_add] at this
      exact this
  obtain ⟨T', kl', Q', G', h', row', cur', e1, J, hGl, hks, hcur, hr1, hr2⟩ := gz_go hGL (fun x3_52 x4_53 x5_54 c_row_55 T_56 => some (x3_52, c_row_55, T_56)) G.length 0 FU T kl Q [] (tHol T) row (-1) (Nat.zero_add _) (by unfold FU; omega) hGR0
  rw [List.take_length] at J
  obtain ⟨⟨jA, jC⟩, ⟨jm, jlen⟩, jQ0, jcor, jf, jn, jF, jG, jfm, jW, jnd⟩ := id J
  have hQ'0 : ∀ v ∈ Q, v ∈ Q' := fun v hv => (jm v).mpr (Or.inr hv)
  -- the reference
  have hcd : ∀ y ∈ G, ∃ t, cdT T kl y = (-1 - lx) :: t ∧ ∀ v ∈ t, lvO v lx := fun y hy => by
    have hyQ := (hGm y hy).1
    refine ⟨(prs (tLev T) kl (kl y)).map (sg (tLev T)), ?_, fun v hv => ?_⟩
    · unfold cdT
      rw [pr_eq (Lk_at hlk hyQ), List.map_cons]
      unfold sg
      rw [if_neg (by have := (hGm y hy).2.2.2.1; omega), (hGm y hy).2.1]
    · obtain ⟨z, hz, rfl⟩ := List.mem_map.mp hv
      obtain ⟨w, hw, hzw⟩ := mem_prs.mp hz
      have hwQ := hA.kid hyQ hw
      have hz2 := pr_in hlk w hwQ.1 z hzw
      have hyl := (hGm y hy).2.1
      exact okI_lvO (hA.oki hz2.1) (by have := hz2.2.1; have := hwQ.2.2; omega)
  have hfm : ∀ L : List Nat, (prs (tLev T) kl L).map (sg (tLev T)) = L.flatMap (cdT T kl) := fun L => by
    unfold prs cdT
    rw [List.map_flatMap]
  rw [hfm] at hrw
  have hlenW : (flt cap (-2 - lx) (cdT T kl) 0 G).length ≤ 360 := by
    have h1 : (-1 - (lx + 1) : Int) = -2 - lx := by omega
    rw [← h1, ← jW, List.length_map]
    have h2 : (prs (tLev T') kl' G').Nodup := by
      have gen : ∀ L : List Nat, L.Nodup → (∀ g ∈ L, g ∈ G') → (prs (tLev T') kl' L).Nodup := fun L => by
        induction L with
        | nil => intro _ _; exact List.nodup_nil
        | cons g L ih =>
          intro hnd hL
          have hgG := hL g List.mem_cons_self
          have hgQ := (jm g).mpr (Or.inl hgG)
          rw [prs_cons]
          refine List.nodup_append.mpr ⟨pr_nodup jA g hgQ, ih (List.nodup_cons.mp hnd).2 (fun x hx => hL x (List.mem_cons_of_mem _ hx)), fun a ha b hb hab => ?_⟩
          subst hab
          obtain ⟨g2, hg2, hag2⟩ := mem_prs.mp hb
          have hg2G := hL g2 (List.mem_cons_of_mem _ hg2)
          have hg2Q := (jm g2).mpr (Or.inl hg2G)
          have top : ∀ x ∈ Q', ∀ g ∈ G', ∀ g2 ∈ G', x ∈ pr (tLev T') kl' g → x ∈ pr (tLev T') kl' g2 → g = g2 := by
            have up : ∀ d : Nat, ∀ x ∈ Q', (lx + 1 - tLev T' x).toNat = d → ∀ g ∈ G', ∀ g2 ∈ G', x ∈ pr (tLev T') kl' g → x ∈ pr (tLev T') kl' g2 → g = g2 := fun d => by
              induction d with
              | zero =>
                intro x hx hd g hg g2 hg2 h1 h2
                have a1 := pr_in jA.lk g ((jm g).mpr (Or.inl hg)) x h1
                have a2 := pr_in jA.lk g2 ((jm g2).mpr (Or.inl hg2)) x h2
                have b1 := (jG g hg).1
                have b2 := (jG g2 hg2).1
                have c1 := a1.2.2 (by have := a1.2.1; omega)
                have c2 := a2.2.2 (by have := a2.2.1; omega)
                exact c1.symm.trans c2
              | succ d ih2 =>
                intro x hx hd g hg g2 hg2 h1 h2
                have b1 := (jG g hg).1
                have b2 := (jG g2 hg2).1
                have n1 : x ≠ g := fun q => by subst q; omega
                have n2 : x ≠ g2 := fun q => by subst q; omega
                obtain ⟨w, hw, hxw⟩ := pr_up jA.lk g ((jm g).mpr (Or.inl hg)) x h1 n1
                obtain ⟨w2, hw2, hxw2⟩ := pr_up jA.lk g2 ((jm g2).mpr (Or.inl hg2)) x h2 n2
                have hwQ := (pr_in jA.lk g ((jm g).mpr (Or.inl hg)) w hw).1
                have hw2Q := (pr_in jA.lk g2 ((jm g2).mpr (Or.inl hg2)) w2 hw2).1
                have hww := jA.one hwQ hw2Q hxw hxw2
                subst hww
                have hkl := jA.kid hwQ hxw
                exact ih2 w hwQ (by omega) g hg g2 hg2 hw hw2
            exact fun x hx => up _ x hx rfl
          have haQ := (pr_in jA.lk g hgQ a ha).1
          have := top a haQ g hgG g2 hg2G ha hag2
          subst this
          exact (List.nodup_cons.mp hnd).1 hg2
      exact gen G' jnd (fun g hg => hg)
    have h3 := sub_len (M := Q') h2 (fun x hx => by
      obtain ⟨g, hg, hxg⟩ := mem_prs.mp hx
      exact (pr_in jA.lk g ((jm g).mpr (Or.inl hg)) x hxg).1)
    omega
  obtain ⟨x2, x4, s', p1, p2, p3⟩ := pa_go (lx := lx) (cap := cap) (cd := cdT T kl) ⟨hlx.1, by omega⟩ hc35 (fun x2_20 x3_21 x4_22 c_s_23 => some (x3_21, c_s_23)) G 0 [] FU s (by omega) hcd (by
    have := hrw.2.1
    unfold FU
    omega) (by rw [List.length_nil]; omega) hs0 hrw
  have hz0 : (0 + cap - 1) / cap = 0 := Nat.div_eq_of_lt (by omega)
  rw [hz0, Nat.zero_add] at p1
  rw [List.nil_append] at p2
  have hbox : ∀ z ∈ Q, z < 24 → tHol T z ≠ -1 := fun z hz h24 => by
    obtain ⟨g, hg, hzg⟩ := mem_prs.mp (hall z hz)
    have hgm := hGm g hg
    have hzg2 : z ≠ g := fun q => by have := hgm.2.2.2.1; omega
    obtain ⟨w, hw, hzw⟩ := pr_up hlk g hgm.1 z hzg hzg2
    have := (hA.kid (pr_in hlk g hgm.1 w hw).1 hzw).2.1
    omega
  have hhl : ∀ z ∈ Q', h' z = tHol T' z := fun z hz => by
    rcases (jm z).mp hz with q | q
    · exact jn z hz (Or.inl (jG z q).2.2.1)
    · by_cases h24 : 24 ≤ z
      · exact jn z hz (Or.inl h24)
      · exact jn z hz (Or.inr (hbox z q (by omega)))
  have hAn : Ar (sHol T' h') kl' Q' := jA.hol hhl
  have hlt : (G.length + cap - 1) / cap < G.length := by
    rcases (show cap = 3 ∨ cap = 4 ∨ cap = 5 by omega) with q | q | q <;> subst q <;> omega
  refine ⟨sHol T' h', kl', Q', G', row', s', ?_, ?_, ⟨⟨hAn, jC, jf.2.1.trans hcap, hc35⟩, ⟨by omega, by omega⟩, fun y hy => ?_, ⟨jnd, by omega, by omega⟩, fun v hv => ?_, fun v hv => ?_, ?_, ⟨fun j y hj => by rw [Nat.zero_add]; exact hr1 j y hj, ?_, (p3 0 (by omega) (by omega)).trans hs0⟩, Or.inr (fun x hx => ?_)⟩, hGl, p3, fun v hv => ⟨hQ'0 v hv, (jQ0 v hv).1⟩, fun v hv => ((jm v).mp hv).symm, jcor, jf⟩
  · unfold f_Pk_groupRow
    exact e1
  · unfold f_Mo_packsAbove
    rw [hGl]
    exact p1
  · have hyQ := (jm y).mpr (Or.inl hy)
    have h1 := jG y hy
    refine ⟨hyQ, h1.1, (jn y hyQ (Or.inl h1.2.2.1)).trans h1.2.1, h1.2.2.1, fun z hz q => ?_⟩
    rcases (jm z).mp hz with w | w
    · exact (jQ0 y ((jG z w).2.2.2 y q)).2.2 hy
    · rw [(jQ0 z w).2.1] at q
      exact (jQ0 y (hA.kid w q).1).2.2 hy
  · show v ∈ prs (tLev T') kl' G'
    rcases (jm v).mp hv with q | q
    · exact mem_prs.mpr ⟨v, q, pr_self (Lk_at jA.lk hv)⟩
    · obtain ⟨g, hg, hvg⟩ := mem_prs.mp (hall v q)
      rw [← jfm] at hg
      obtain ⟨g2, hg2, hgg2⟩ := List.mem_flatMap.mp hg
      have hg2Q := (jm g2).mpr (Or.inl hg2)
      have hgQ := (jG g2 hg2).2.2.2 g hgg2
      refine mem_prs.mpr ⟨g2, hg2, ?_⟩
      rw [pr_eq (Lk_at jA.lk hg2Q)]
      refine List.mem_cons_of_mem _ (mem_prs.mpr ⟨g, hgg2, ?_⟩)
      rw [J.same hA g hgQ]
      exact hvg
  · rcases (jm v).mp hv with q | q
    · have h1 := hks v q
      refine ⟨by omega, fun _ => ⟨fun w => ?_, List.mem_append_right _ q⟩⟩
      rw [w] at h1
      exact absurd h1.1 (by simp)
    · rw [(jQ0 v q).2.1]
      exact ⟨(hsz v q).1, fun h24 => ⟨((hsz v q).2 h24).1, List.mem_append_left _ ((hsz v q).2 h24).2⟩⟩
  · rw [List.length_append]
    omega
  · show Rw s' ((prs (tLev T') kl' G').map (sg (tLev T')))
    rw [jW, show (-1 - (lx + 1) : Int) = -2 - lx by omega]
    exact p2
  · rw [hx, List.flatMap_cons, List.flatMap_nil, List.append_nil] at jfm
    rw [jfm]
    exact hG
