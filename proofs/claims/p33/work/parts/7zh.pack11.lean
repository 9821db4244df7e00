/-! packing: the boxes alone, and the leaves on them -/
def gz0 (h : Nat → Int) : Nat → Int := fun j => if j < 24 then -1 else h j
theorem base_ar {T : TV} {kl : Nat → List Nat} {Q : List Nat} {l h z : Nat → Int} (hA : Ar T kl Q) (h1 : ∀ j, 24 ≤ j → j < tR T → l j = -2 ∧ h j = -1 ∧ z j = 0) (h2 : ∀ j, j < 24 → l j = tLev T j ∧ h j = tHol T j ∧ z j = tSiz T j) : Ar (sSiz (sHol (sLev T l) (gz0 h)) z) (fun _ => []) (bl Q 24) := by
  refine ⟨hA.1, List.nodup_range.filter _, fun x hx hq => ?_, hA.2.2.2.1, fun x hx => ?_⟩
  · show l x = -2
    by_cases h24 : x < 24
    · rw [(h2 x h24).1]
      exact hA.2.2.1 x hx (fun q => hq (bl_mem.mpr ⟨h24, q⟩))
    · exact (h1 x (by omega) hx).1
  · have hm := bl_mem.mp hx
    have hi := hA.2.2.2.2 x hm.2
    have hk0 := hi.2.1 hm.1
    have hs := hi.2.2.1.1
    rw [hk0] at hs
    have hlx : l x = -1 := by rw [(h2 x hm.1).1]; exact hi.1.2.1.mp hm.1
    refine ⟨⟨hi.1.1, ⟨fun _ => hlx, fun _ => hm.1⟩, by show -1 ≤ l x; omega, by show l x ≤ 20; omega⟩, fun _ => rfl, ⟨?_, Nat.zero_le _, List.nodup_nil⟩, (fun j y hj => by cases hj), (fun y hy => by cases hy), Or.inl ?_⟩
    · show z x = 0
      rw [(h2 x hm.1).2.2]
      exact hs
    · show gz0 h x = -1
      exact if_pos hm.1
theorem flt_same {cap : Nat} {nc : Int} {cd cd' : Nat → List Int} : ∀ {L : List Nat} {i : Nat}, (∀ y ∈ L, cd y = cd' y) → flt cap nc cd i L = flt cap nc cd' i L
  | [], _, _ => rfl
  | y :: L, i, h => by
    show (if i % cap = 0 then [nc] else []) ++ (cd y ++ flt cap nc cd (i + 1) L) = (if i % cap = 0 then [nc] else []) ++ (cd' y ++ flt cap nc cd' (i + 1) L)
    rw [h y List.mem_cons_self, flt_same (fun z hz => h z (List.mem_cons_of_mem _ hz))]
theorem lf_pk {T : TV} {kl : Nat → List Nat} {Q L : List Nat} {r cap : Nat} {s l h z row : Nat → Int} (O : St T kl Q r s) (h1 : ∀ j, 24 ≤ j → j < tR T → l j = -2 ∧ h j = -1 ∧ z j = 0) (h2 : ∀ j, j < 24 → l j = tLev T j ∧ h j = tHol T j ∧ z j = tSiz T j) (hcap : tCap T = (cap : Int)) (hL : (bl Q 24).Perm L) (hne : 0 < L.length) (hrow : Hs row 0 L) : ∃ (T1 : TV) (kl1 : Nat → List Nat) (Q1 G1 : List Nat) (row1 : Nat → Int), f_Pk_groupRow row (sSiz (sHol (sLev T l) h) z) (L.length : Int) 0 = some ((G1.length : Int), row1, T1) ∧ G1.length ≤ 8 ∧ (∀ b, b < 24 → (b ∈ Q1 ↔ b ∈ Q)) ∧ Kp2 T T1 ∧ (fl 1 (prs (tLev T1) kl1 G1) = G1) ∧ ∀ s2, Rw s2 (flt cap (-1) (fun y => [(y : Int)]) 0 L) → s2 0 = (cap : Int) → PK cap 0 T1 kl1 Q1 G1 G1 row1 s2 := by
  have hA := O.1.1.1.1
  have hc35 : 3 ≤ cap ∧ cap ≤ 5 := by have := O.1.1.2.2.2.1; omega
  have hA0 := base_ar hA h1 h2
  have hLm : ∀ y ∈ L, y ∈ bl Q 24 := fun y hy => hL.mem_iff.mpr hy
  have hLn : L.Nodup := hL.nodup_iff.mp (List.nodup_range.filter _)
  have hLl : L.length ≤ 24 := by rw [← hL.length_eq]; exact bl_len
  have hlev : ∀ y ∈ bl Q 24, tLev (sSiz (sHol (sLev T l) (gz0 h)) z) y = -1 := fun y hy => (hA0.lev24 hy).mp (bl_mem.mp hy).1
  have hGL : GL (sSiz (sHol (sLev T l) (gz0 h)) z) (fun _ => []) (bl Q 24) L 0 cap := ⟨hA0, ⟨by omega, by omega⟩, fun y hy => ⟨hLm y hy, by rw [hlev y (hLm y hy)]; omega, fun z _ q => by cases q⟩, hLn, hLl, by have := bl_len (Q := Q) (i := 24); omega, hcap, hc35⟩
  have hGR0 : GR (sSiz (sHol (sLev T l) (gz0 h)) z) (fun _ => []) (bl Q 24) L 0 cap 0 (sSiz (sHol (sLev T l) (gz0 h)) z) (fun _ => []) (bl Q 24) [] h row (-1) := by
    refine ⟨⟨⟨hA0, fun v hv h24 => absurd (bl_mem.mp hv).1 (by omega)⟩, ⟨fun v => ⟨fun q => Or.inr q, fun q => q.elim (fun w => by cases w) id⟩, (Nat.zero_add _).symm⟩, fun v _ => ⟨rfl, rfl, (fun w => by cases w)⟩, fun _ _ _ _ => rfl, ⟨rfl, rfl, rfl, rfl, rfl⟩, fun v hv hq => ?_, (fun y hy => by cases hy), (fun g hg => by cases hg), rfl, rfl, List.nodup_nil⟩, ?_, (fun g hg => by cases hg), Or.inl ⟨rfl, rfl, rfl⟩, (fun j g hj => by cases hj), fun j y _ hy => ?_⟩
    · have hv24 := (bl_mem.mp hv).1
      rcases hq with q | q
      · omega
      · exact absurd (show gz0 h v = -1 from if_pos hv24) q
    · show 0 = (0 + cap - 1) / cap
      exact (Nat.div_eq_of_lt (by omega)).symm
    · have := hrow j y hy
      rw [Nat.zero_add] at this
      exact this
  obtain ⟨T', kl', Q', G', h', row', cur', e1, J, hGl, hks, -, hr1, hr2⟩ := gz_go hGL (fun x3_52 x4_53 x5_54 c_row_55 T_56 => some (x3_52, c_row_55, T_56)) L.length 0 FU (sSiz (sHol (sLev T l) (gz0 h)) z) (fun _ => []) (bl Q 24) [] h row (-1) (Nat.zero_add _) (by unfold FU; omega) hGR0
  rw [List.take_length] at J
  obtain ⟨⟨jA, jC⟩, ⟨jm, jlen⟩, jQ0, jcor, jf, jn, jF, jG, jfm, jW, jnd⟩ := id J
  have hg8 : 1 ≤ G'.length ∧ G'.length ≤ 8 := by
    rw [hGl]
    rcases (show cap = 3 ∨ cap = 4 ∨ cap = 5 by omega) with q | q | q <;> subst q <;> omega
  have hhl : ∀ v ∈ Q', h' v = tHol T' v := fun v hv => by
    rcases (jm v).mp hv with q | q
    · exact jn v hv (Or.inl (jG v q).2.2.1)
    · exact jF v (hL.mem_iff.mp q)
  have hAn : Ar (sHol T' h') kl' Q' := jA.hol hhl
  have hkb : ∀ v ∈ bl Q 24, kl' v = [] := fun v hv => (jQ0 v hv).2.1
  have hpb : ∀ v ∈ bl Q 24, pr (tLev T') kl' v = [v] := fun v hv => pr_box jA ((jm v).mpr (Or.inr hv)) (bl_mem.mp hv).1
  refine ⟨sHol T' h', kl', Q', G', row', ?_, hg8.2, fun b hb => ?_, ⟨jcor, jf⟩, ?_, fun s2 hrw hs2 => ⟨⟨hAn, jC, jf.2.1.trans hcap, hc35⟩, ⟨by omega, by omega⟩, fun y hy => ?_, ⟨jnd, hg8⟩, fun v hv => ?_, fun v hv => ?_, ?_, ⟨fun j y hj => by rw [Nat.zero_add]; exact hr1 j y hj, ?_, hs2⟩, Or.inl rfl⟩⟩
  · unfold f_Pk_groupRow
    exact e1
  · rw [jm b]
    constructor
    · rintro (q | q)
      · have := (jG b q).2.2.1
        omega
      · exact (bl_mem.mp q).2
    · intro q
      exact Or.inr (bl_mem.mpr ⟨hb, q⟩)
  · show fl 1 (prs (tLev T') kl' G') = G'
    have gen : ∀ M : List Nat, (∀ g ∈ M, g ∈ G') → fl 1 (prs (tLev T') kl' M) = M := fun M => by
      induction M with
      | nil => intro _; rfl
      | cons g M ih =>
        intro hM
        have hg := hM g List.mem_cons_self
        have hgm := jG g hg
        have hz : fl 1 (prs (tLev T') kl' (kl' g)) = [] := by
          apply List.eq_nil_iff_forall_not_mem.mpr
          intro y hy
          have hy1 := fl_mem.mp hy
          obtain ⟨w, hw, hyw⟩ := mem_prs.mp hy1.1
          have hwb := hgm.2.2.2 w hw
          rw [hpb w hwb] at hyw
          have hyw2 := List.mem_singleton.mp hyw
          subst hyw2
          exact absurd (hy1.2.mp (bl_mem.mp hwb).1) (by omega)
        rw [prs_cons, fl_app, ih (fun x hx => hM x (List.mem_cons_of_mem _ hx)), pr_eq (Lk_at jA.lk ((jm g).mpr (Or.inl hg))), fl_cons, if_pos hgm.2.2.1, hz]
        rfl
    exact gen G' (fun g hg => hg)
  · have hyQ := (jm y).mpr (Or.inl hy)
    have h3 := jG y hy
    refine ⟨hyQ, h3.1, (jn y hyQ (Or.inl h3.2.2.1)).trans h3.2.1, h3.2.2.1, fun v hv q => ?_⟩
    rcases (jm v).mp hv with w | w
    · exact (jQ0 y ((jG v w).2.2.2 y q)).2.2 hy
    · rw [hkb v w] at q
      cases q
  · show v ∈ prs (tLev T') kl' G'
    rcases (jm v).mp hv with q | q
    · exact mem_prs.mpr ⟨v, q, pr_self (Lk_at jA.lk hv)⟩
    · have hvL := hL.mem_iff.mp q
      rw [← jfm] at hvL
      obtain ⟨g, hg, hvg⟩ := List.mem_flatMap.mp hvL
      refine mem_prs.mpr ⟨g, hg, ?_⟩
      rw [pr_eq (Lk_at jA.lk ((jm g).mpr (Or.inl hg)))]
      exact List.mem_cons_of_mem _ (mem_prs.mpr ⟨v, hvg, pr_self (Lk_at jA.lk hv)⟩)
  · rcases (jm v).mp hv with q | q
    · have h3 := hks v q
      refine ⟨by omega, fun _ => ⟨fun w => ?_, q⟩⟩
      rw [w] at h3
      exact absurd h3.1 (by simp)
    · rw [hkb v q]
      exact ⟨Nat.zero_le _, fun h24 => absurd (bl_mem.mp q).1 (by omega)⟩
  · have := bl_len (Q := Q) (i := 24)
    omega
  · show Rw s2 ((prs (tLev T') kl' G').map (sg (tLev T')))
    rw [jW]
    have hcd : ∀ y ∈ L, cdT (sSiz (sHol (sLev T l) (gz0 h)) z) (fun _ => []) y = [(y : Int)] := fun y hy => by
      have hyb := hLm y hy
      have hy24 := (bl_mem.mp hyb).1
      unfold cdT
      rw [pr_box hA0 hyb hy24, List.map_cons, List.map_nil]
      unfold sg
      rw [if_pos hy24]
    rw [flt_same hcd]
    exact hrw
