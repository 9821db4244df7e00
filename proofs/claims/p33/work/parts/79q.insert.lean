/-! an insertion as a whole: the class's insertOwn beside the reference's inserts -/
def un (tr : Nat → Int) (L : List Nat) : Nat := L.countP (fun l => decide (tr l = 0))
theorem un_set {tr : Nat → Int} {l : Nat} (h0 : tr l = 0) : ∀ L : List Nat, L.Nodup → (l ∈ L → un (up tr l 1) L + 1 = un tr L) ∧ (l ∉ L → un (up tr l 1) L = un tr L)
  | [], _ => ⟨fun q => (by cases q), fun _ => rfl⟩
  | a :: L, hn => by
    have hn := List.nodup_cons.mp hn
    have ih := un_set h0 L hn.2
    unfold un at ih ⊢
    rw [List.countP_cons, List.countP_cons]
    by_cases hal : a = l
    · subst hal
      have := ih.2 hn.1
      refine ⟨fun _ => ?_, fun q => absurd List.mem_cons_self q⟩
      rw [this]
      simp [up_s, h0]
    · have h1 : decide (up tr l 1 a = 0) = decide (tr a = 0) := by rw [up_o hal]
      rw [h1]
      refine ⟨fun q => ?_, fun q => ?_⟩
      · have := ih.1 ((List.mem_cons.mp q).resolve_left (fun e => hal e.symm))
        omega
      · rw [ih.2 (fun e => q (List.mem_cons_of_mem _ e))]
theorem un_le {tr : Nat → Int} {L : List Nat} : un tr L ≤ L.length := List.countP_le_length
def Ok (T : TV) (kl : Nat → List Nat) (Q : List Nat) (r : Nat) (s : Nat → Int) : Prop := Jn T kl Q r s ∧ R3 T ∧ Bd (tLev T) Q (tLev T r) ∧ (3 ≤ tCap T ∧ tCap T ≤ 5) ∧ s 0 = tCap T ∧ s 1 = tRei T ∧ (tRei T = 0 ∨ tRei T = 1)
theorem may_sp {T : TV} {kl : Nat → List Nat} {Q : List Nat} {r x : Nat} {s tr : Nat → Int} {cc : Int64} (O : Ok T kl Q r s) (hx : x ∈ Q) (hl0 : 0 ≤ tLev T x) (hb : Tb cc tr) : f_Ch_mayReinsert cc T (x : Int) = some (if tRei T = 1 ∧ x ≠ r ∧ tr (tLev T x).toNat = 0 then 1 else 0) := by
  have h := O.1.1
  have hlx := O.2.2.1.lvl x hx
  have hxl := h.lt hx
  have hrl := h.lt O.1.2.1.1
  have hR := h.1.2
  have ht := (hb (tLev T x).toNat (by omega)).1
  rw [show (((tLev T x).toNat : Nat) : Int) = tLev T x by omega] at ht
  unfold f_Ch_mayReinsert
  rw [bd1_p (t_lev h.le hxl), gd_p (by rcases O.2.2.2.2.2.2 with q | q <;> rw [q] <;> exact ⟨by omega, by omega⟩)]
  by_cases c1 : tRei T = 1
  · rw [if_pos c1, O.1.2.1.2.2.1, gd_p ⟨by omega, by omega⟩, gd_p ⟨by omega, by omega⟩]
    by_cases c2 : x = r
    · rw [if_pos (by omega), if_neg (fun q => q.2.1 c2)]
    · rw [if_neg (by omega)]
      by_cases c3 : tr (tLev T x).toNat = 0
      · rw [if_pos (ht.mpr c3), if_pos ⟨c1, c2, c3⟩]
      · rw [if_neg (fun q => c3 (ht.mp q)), if_neg (fun q => c3 q.2.2)]
  · rw [if_neg c1, if_neg (fun q => c1 q.1)]
abbrev RI : Type := (Nat → Int) × (Nat → Int) × (Nat → Int) × Int × Int × (Nat → Int) × (Nat → Int) × (Nat → Int) × (Nat → Int) × (Nat → Int) × (Nat → Int)
theorem at_root {T : TV} {kl : Nat → List Nat} {Q : List Nat} {r x p : Nat} {s : Nat → Int} (J : Jn T kl Q r s) (hx : x ∈ Q) (hat : At T kl r x p) : (p = 0 ↔ x = r) := by
  have hr := J.2.1.1
  constructor
  · intro q
    subst q
    obtain ⟨B, e1, -⟩ := hat
    have h1 := (drop_pr J.1.lk hx e1).1
    rw [pr_eq (Lk_at J.1.lk hr)] at h1
    simp at h1
    exact h1.symm
  · intro q
    subst q
    exact (at_place (A := []) (B := []) J.1 hx hx hat (by simp)).1
theorem ins_go (kC : Int → Int → (Nat → Int) → Int → Int64 → TV → Option ((Nat → Int) × Int × Int64 × TV)) (kR : Int → (Nat → Int) → (Nat → Int) → (Nat → Int) → Int → Int → (Nat → Int) → (Nat → Int) → (Nat → Int) → (Nat → Int) → (Nat → Int) → (Nat → Int) → Option RI) : ∀ (M : Nat) (T : TV) (kl : Nat → List Nat) (Q : List Nat) (r x p n n1 n2 st : Nat) (cc : Int64) (s pool w it tr fr gr tu si old : Nat → Int) (left items il : Int), Ok T kl Q r s → x ∈ Q → At T kl r x p → (∀ v ∈ Q, v ≠ x → (kl v).length ≤ 5) → Tb cc tr → 0 ≤ tLev T x → 30 * un tr (List.range 24) + (25 - (tLev T x).toNat) ≤ M → M < n → 25 - (tLev T x).toNat < n1 → un tr (List.range 24) < n2 → st + M < 1000000 → ∃ (T' : TV) (kl' : Nat → List Nat) (Q' : List Nat) (r' : Nat) (x' st' left' items' il' : Int) (cc' : Int64) (s' pool' w' it' tr' fr' gr' tu' si' old' : Nat → Int), f_Ch_insertOwn_L30 kC n (x : Int) (st : Int) pool left cc T = kC x' st' pool' left' cc' T' ∧ f_Mo_inserts_L39 (fun x1_76 x2_77 c_s_78 c_rect_79 c_item_80 c_items_81 c_itemLevel_82 c_treated_83 c_from_84 c_group_85 c_turn_86 c_size_87 c_old_88 => f_Mo_inserts_L23 kR n2 x1_76 c_s_78 c_rect_79 c_item_80 c_items_81 c_itemLevel_82 c_treated_83 c_from_84 c_group_85 c_turn_86 c_size_87 c_old_88) n1 0 (p : Int) s w it items il tr fr gr tu si old = kR 0 s' w' it' items' il' tr' fr' gr' tu' si' old' ∧ Ok T' kl' Q' r' s' ∧ (∀ v ∈ Q', (kl' v).length ≤ 5) ∧ Mv T kl Q r s T' kl' Q' r' s' := by
  intro M
  induction M with
  | zero =>
    intro T kl Q r x p n n1 n2 st cc s pool w it tr fr gr tu si old left items il O hx hat hsz hb hl0 hM
    have := O.2.2.1.lvl x hx
    omega
  | succ M ih =>
    intro T kl Q r x p n n1 n2 st cc s pool w it tr fr gr tu si old left items il O hx hat hsz hb hl0 hM hn hn1 hn2 hst
    obtain ⟨n, rfl⟩ : ∃ m, n = m + 1 := ⟨n - 1, by omega⟩
    obtain ⟨n1, rfl⟩ : ∃ m, n1 = m + 1 := ⟨n1 - 1, by omega⟩
    have J := O.1
    have h := J.1
    have hlk := h.lk
    have hr := J.2.1.1
    have hlx := O.2.2.1.lvl x hx
    have hlr := O.2.2.1.rl
    have hQl := O.2.2.1.len h
    have hcap := O.2.2.2.1
    have hs0 := O.2.2.2.2.1
    have hs1 := O.2.2.2.2.2.1
    have hre := O.2.2.2.2.2.2
    have hx6 := h.siz hx
    have hxl := h.lt hx
    have hck := J.ckp hx hat
    have hxpr : x ∈ pr (tLev T) kl r := List.mem_of_getElem? hck.2
    have hpos : 0 < (pr (tLev T) kl x).length := by rw [pr_eq (Lk_at hlk hx)]; simp
    have hroot := at_root J hx hat
    have z1 : f_Tr_sizeOf T (x : Int) = some ((kl x).length : Int) := by rw [t_siz h.le hxl, hx6.1]
    have hmay := may_sp O hx hl0 hb
    have hent : f_Mo_entriesOf s (p : Int) = some ((kl x).length : Int) := by
      obtain ⟨B, e1, e2⟩ := hat
      exact entries_at J.2.2.1 hlk hx e1 e2
    by_cases hfull : tCap T < ((kl x).length : Int)
    · have hne : ∀ v ∈ Q, tLev T v = tLev T x → kl v ≠ [] := fun v hv hl q => by
        have h24 : 24 ≤ v := by
          rcases Nat.lt_or_ge v 24 with q2 | q2
          · have := (h.lev24 hv).mp q2
            omega
          · exact q2
        have h1 := J.2.2.2.2.2 v hv h24 q
        have h2 := pr_in hlk r hr x hxpr
        have h3 := h2.2.2 (by omega)
        rw [h1.1, ← h3] at q
        rw [q] at hfull
        simp at hfull
        omega
      have h4 : 4 ≤ (kl x).length := by omega
      -- a split
      have spl : f_Ch_mayReinsert cc T (x : Int) = some 0 → (f_Mo_inserts_L39 (fun x1_76 x2_77 c_s_78 c_rect_79 c_item_80 c_items_81 c_itemLevel_82 c_treated_83 c_from_84 c_group_85 c_turn_86 c_size_87 c_old_88 => f_Mo_inserts_L23 kR n2 x1_76 c_s_78 c_rect_79 c_item_80 c_items_81 c_itemLevel_82 c_treated_83 c_from_84 c_group_85 c_turn_86 c_size_87 c_old_88) (n1 + 1) 0 (p : Int) s w it items il tr fr gr tu si old = (bd8 (f_Mo_divides s w fr gr tu si old (p : Int)) <| fun r_40 c_s_41 c_rect_42 c_from_43 c_group_44 c_turn_45 c_size_46 c_old_47 => f_Mo_inserts_L39 (fun x1_76 x2_77 c_s_78 c_rect_79 c_item_80 c_items_81 c_itemLevel_82 c_treated_83 c_from_84 c_group_85 c_turn_86 c_size_87 c_old_88 => f_Mo_inserts_L23 kR n2 x1_76 c_s_78 c_rect_79 c_item_80 c_items_81 c_itemLevel_82 c_treated_83 c_from_84 c_group_85 c_turn_86 c_size_87 c_old_88) n1 (0) (r_40) (c_s_41) (c_rect_42) (it) (items) (il) (tr) (c_from_43) (c_group_44) (c_turn_45) (c_size_46) (c_old_47))) → ∃ (T' : TV) (kl' : Nat → List Nat) (Q' : List Nat) (r' : Nat) (x' st' left' items' il' : Int) (cc' : Int64) (s' pool' w' it' tr' fr' gr' tu' si' old' : Nat → Int), f_Ch_insertOwn_L30 kC (n + 1) (x : Int) (st : Int) pool left cc T = kC x' st' pool' left' cc' T' ∧ f_Mo_inserts_L39 (fun x1_76 x2_77 c_s_78 c_rect_79 c_item_80 c_items_81 c_itemLevel_82 c_treated_83 c_from_84 c_group_85 c_turn_86 c_size_87 c_old_88 => f_Mo_inserts_L23 kR n2 x1_76 c_s_78 c_rect_79 c_item_80 c_items_81 c_itemLevel_82 c_treated_83 c_from_84 c_group_85 c_turn_86 c_size_87 c_old_88) (n1 + 1) 0 (p : Int) s w it items il tr fr gr tu si old = kR 0 s' w' it' items' il' tr' fr' gr' tu' si' old' ∧ Ok T' kl' Q' r' s' ∧ (∀ v ∈ Q', (kl' v).length ≤ 5) ∧ Mv T kl Q r s T' kl' Q' r' s' := by
        intro hm0 hR0
        by_cases hxr : x = r
        · have hp0 := hroot.mpr hxr
          subst hp0
          subst hxr
          obtain ⟨a, z, pool', T', kl', s', w', fr', gr', tu', si', old', a1, a2, a3, a4, a5, a6, a7, a8, a9, a10, a11⟩ := split_root (pool := pool) (w := w) (fr := fr) (group := gr) (turn := tu) (size := si) (old := old) (left := left) J O.2.1 (by omega) (O.2.2.1.room_root h hx h4 hne) (by omega) hsz hcap hs0 (by omega)
          have hbd := O.2.2.1.splitr h hx h4 hne (fun v hv => (a4.1 v hv).2) a10 a11
          have haQ : a ∈ z :: a :: Q := by simp
          have hal := a3.1.lt haQ
          have hR := a3.1.1.2
          have hca : tCap T' = tCap T := a4.2.2.2.2.1.1
          have hz2 : f_Tr_sizeOf T' (a : Int) = some 2 := by rw [t_siz a3.1.le hal, (a3.1.siz haQ).1, a8]; rfl
          obtain ⟨n, rfl⟩ : ∃ m, n = m + 1 := ⟨n - 1, by omega⟩
          obtain ⟨n1, rfl⟩ : ∃ m, n1 = m + 1 := ⟨n1 - 1, by omega⟩
          obtain ⟨n2, rfl⟩ : ∃ m, n2 = m + 1 := ⟨n2 - 1, by omega⟩
          refine ⟨T', kl', z :: a :: Q, a, (a : Int), (st : Int) + 1, 0, items, il, cc, s', pool', w', it, tr, fr', gr', tu', si', old', ?_, ?_, ⟨a3, a7, hbd, by rw [hca]; exact hcap, ?_, ?_, by rw [a4.2.2.2.2.1.2]; exact hre⟩, a9, a4⟩
          · rw [f_Ch_insertOwn_L30, bd1_p z1, gd_p ⟨by omega, by omega⟩, gd_p ⟨by omega, by omega⟩, if_pos hfull, gd_p ⟨by omega, by omega⟩, if_pos (by omega), bd1_p hm0, gd_p ck_0, if_pos rfl, bd4_p a1, f_Ch_insertOwn_L30, bd1_p hz2, gd_p ⟨by omega, by omega⟩, gd_p ⟨by omega, by omega⟩, if_neg (by omega)]
          · have a2 : f_Mo_divides s w fr gr tu si old ((0 : Nat) : Int) = _ := a2
            rw [hR0, bd8_p a2, f_Mo_inserts_L39, gd_p ⟨by omega, by omega⟩, if_pos (by omega), f_Mo_inserts_L23, gd_p ck_0, if_pos rfl]
          · rw [a4.2.2.2.2.2.1 0 (by omega) (by omega) (by omega) (by omega), hca]
            exact hs0
          · rw [a4.2.2.2.2.2.1 1 (by omega) (by omega) (by omega) (by omega), a4.2.2.2.2.1.2]
            exact hs1
        · have hxlt : tLev T x < tLev T r := by
            have h2 := pr_in hlk r hr x hxpr
            have h3 : tLev T x ≠ tLev T r := fun q => hxr (h2.2.2 q)
            omega
          obtain ⟨pn, p', z, pool', T', kl', s', w', fr', gr', tu', si', old', a1, a2, a3, a4, a5, a6, a7, a8, a9, a10, a11⟩ := split_in (pool := pool) (w := w) (fr := fr) (group := gr) (turn := tu) (size := si) (old := old) (left := left) J hx hxr hat O.2.1 (by omega) (O.2.2.1.room_in h hx h4 hne hxlt hl0) (by omega) hsz hcap hs0
          have hbd := O.2.2.1.split h hx h4 hne hxlt hl0 (fun v hv => (a4.1 v hv).2) a11
          have hca : tCap T' = tCap T := a4.2.2.2.2.1.1
          have hlr' := (a4.1 r hr).2
          have O' : Ok T' kl' (z :: Q) r s' := by
            refine ⟨a3, a6, by rw [hlr']; exact hbd, by rw [hca]; exact hcap, ?_, ?_, by rw [a4.2.2.2.2.1.2]; exact hre⟩
            · rw [a4.2.2.2.2.2.1 0 (by omega) (by omega) (by omega) (by omega), hca]
              exact hs0
            · rw [a4.2.2.2.2.2.1 1 (by omega) (by omega) (by omega) (by omega), a4.2.2.2.2.1.2]
              exact hs1
          obtain ⟨T2, kl2, Q2, r2, x2, st2, left2, items2, il2, cc2, s2, pool2, w2, it2, tr2, fr2, gr2, tu2, si2, old2, b1, b2, b3, b4, b5⟩ := ih T' kl' (z :: Q) r pn p' n n1 n2 (st + 1) cc s' pool' w' it tr fr' gr' tu' si' old' 0 items il O' (List.mem_cons_of_mem _ a7) a8 a10 hb (by omega) (by omega) (by omega) (by omega) hn2 (by omega)
          refine ⟨T2, kl2, Q2, r2, x2, st2, left2, items2, il2, cc2, s2, pool2, w2, it2, tr2, fr2, gr2, tu2, si2, old2, ?_, ?_, b3, b4, a4.tr b5⟩
          · rw [f_Ch_insertOwn_L30, bd1_p z1, gd_p ⟨by omega, by omega⟩, gd_p ⟨by omega, by omega⟩, if_pos hfull, gd_p ⟨by omega, by omega⟩, if_pos (by omega), bd1_p hm0, gd_p ck_0, if_pos rfl, bd4_p a1, show (st : Int) + 1 = ((st + 1 : Nat) : Int) by omega]
            exact b1
          · rw [hR0, bd8_p a2]
            exact b2
      have hhead : ∀ {X : Option RI}, (gd (ck (s 1)) <| if s 1 = 1 then (if 0 < (p : Int) then (bd1 (f_Mo_levelAt s (p : Int)) <| fun r_50 => gd (0 ≤ r_50 ∧ r_50 < ((24 : Nat) : Int)) <| gd (ck (tr (r_50).toNat)) <| if (tr (r_50).toNat) = 0 then (bd6 (f_Mo_takesFar s w it tr (p : Int)) <| fun c_s_68 c_rect_69 c_item_70 c_items_71 c_itemLevel_72 c_treated_73 => f_Mo_inserts_L39 (fun x1_76 x2_77 c_s_78 c_rect_79 c_item_80 c_items_81 c_itemLevel_82 c_treated_83 c_from_84 c_group_85 c_turn_86 c_size_87 c_old_88 => f_Mo_inserts_L23 kR n2 x1_76 c_s_78 c_rect_79 c_item_80 c_items_81 c_itemLevel_82 c_treated_83 c_from_84 c_group_85 c_turn_86 c_size_87 c_old_88) n1 (1) (p : Int) (c_s_68) (c_rect_69) (c_item_70) (c_items_71) (c_itemLevel_72) (c_treated_73) (fr) (gr) (tu) (si) (old)) else (bd8 (f_Mo_divides s w fr gr tu si old (p : Int)) <| fun r_57 c_s_58 c_rect_59 c_from_60 c_group_61 c_turn_62 c_size_63 c_old_64 => f_Mo_inserts_L39 (fun x1_76 x2_77 c_s_78 c_rect_79 c_item_80 c_items_81 c_itemLevel_82 c_treated_83 c_from_84 c_group_85 c_turn_86 c_size_87 c_old_88 => f_Mo_inserts_L23 kR n2 x1_76 c_s_78 c_rect_79 c_item_80 c_items_81 c_itemLevel_82 c_treated_83 c_from_84 c_group_85 c_turn_86 c_size_87 c_old_88) n1 (0) (r_57) (c_s_58) (c_rect_59) (it) (items) (il) (tr) (c_from_60) (c_group_61) (c_turn_62) (c_size_63) (c_old_64))) else (bd8 (f_Mo_divides s w fr gr tu si old (p : Int)) <| fun r_40 c_s_41 c_rect_42 c_from_43 c_group_44 c_turn_45 c_size_46 c_old_47 => f_Mo_inserts_L39 (fun x1_76 x2_77 c_s_78 c_rect_79 c_item_80 c_items_81 c_itemLevel_82 c_treated_83 c_from_84 c_group_85 c_turn_86 c_size_87 c_old_88 => f_Mo_inserts_L23 kR n2 x1_76 c_s_78 c_rect_79 c_item_80 c_items_81 c_itemLevel_82 c_treated_83 c_from_84 c_group_85 c_turn_86 c_size_87 c_old_88) n1 (0) (r_40) (c_s_41) (c_rect_42) (it) (items) (il) (tr) (c_from_43) (c_group_44) (c_turn_45) (c_size_46) (c_old_47))) else (bd8 (f_Mo_divides s w fr gr tu si old (p : Int)) <| fun r_28 c_s_29 c_rect_30 c_from_31 c_group_32 c_turn_33 c_size_34 c_old_35 => f_Mo_inserts_L39 (fun x1_76 x2_77 c_s_78 c_rect_79 c_item_80 c_items_81 c_itemLevel_82 c_treated_83 c_from_84 c_group_85 c_turn_86 c_size_87 c_old_88 => f_Mo_inserts_L23 kR n2 x1_76 c_s_78 c_rect_79 c_item_80 c_items_81 c_itemLevel_82 c_treated_83 c_from_84 c_group_85 c_turn_86 c_size_87 c_old_88) n1 (0) (r_28) (c_s_29) (c_rect_30) (it) (items) (il) (tr) (c_from_31) (c_group_32) (c_turn_33) (c_size_34) (c_old_35))) = X → f_Mo_inserts_L39 (fun x1_76 x2_77 c_s_78 c_rect_79 c_item_80 c_items_81 c_itemLevel_82 c_treated_83 c_from_84 c_group_85 c_turn_86 c_size_87 c_old_88 => f_Mo_inserts_L23 kR n2 x1_76 c_s_78 c_rect_79 c_item_80 c_items_81 c_itemLevel_82 c_treated_83 c_from_84 c_group_85 c_turn_86 c_size_87 c_old_88) (n1 + 1) 0 (p : Int) s w it items il tr fr gr tu si old = X := by
        intro X hX
        rw [f_Mo_inserts_L39, gd_p ⟨by omega, by omega⟩, if_neg (by omega), gd_p ck_0, if_pos rfl, bd1_p hent, gd_p ⟨by omega, by omega⟩, gd_p ⟨by omega, by omega⟩, if_pos (by rw [hs0]; exact hfull)]
        exact hX
      have hk1 : ck (s 1) := by rw [hs1]; rcases hre with q | q <;> rw [q] <;> exact ⟨by omega, by omega⟩
      have hlev := row_lev J.2.2.1 hck.2
      have htr := (hb (tLev T x).toNat (by omega)).2
      by_cases c1 : tRei T = 1
      · by_cases c2 : x = r
        · rw [if_neg (fun q => q.2.1 c2)] at hmay
          have hp0 := hroot.mpr c2
          refine spl hmay (hhead ?_)
          rw [gd_p hk1, hs1, if_pos c1, if_neg (by omega)]
        · have hp0 : p ≠ 0 := fun q => c2 (hroot.mp q)
          by_cases c3 : tr (tLev T x).toNat = 0
          · -- a reinsertion
            rw [if_pos ⟨c1, c2, c3⟩] at hmay
            obtain ⟨x', p', T', kl', s1, w1, it', s', w', n', a1, a2, a3, a4, a5, a6, a7, a8, a9, a10, a11⟩ := re_sp (w := w) (it := it) (tr := tr) (cc := cc) J hx c2 hat (by omega) hsz (by omega) O.2.1
            have hus := (un_set c3 (List.range 24) List.nodup_range).1 (List.mem_range.mpr (by omega))
            have hca : tCap T' = tCap T := a6.2.2.2.2.1.1
            have hlr' := (a6.1 r hr).2
            have O' : Ok T' kl' Q r s' := by
              refine ⟨a5, a7, by rw [hlr']; exact O.2.2.1.same (fun v hv => (a6.1 v hv).2), by rw [hca]; exact hcap, ?_, ?_, by rw [a6.2.2.2.2.1.2]; exact hre⟩
              · rw [a6.2.2.2.2.2.1 0 (by omega) (by omega) (by omega) (by omega), hca]
                exact hs0
              · rw [a6.2.2.2.2.2.1 1 (by omega) (by omega) (by omega) (by omega), a6.2.2.2.2.1.2]
                exact hs1
            have hb' : Tb (cc ||| lShl 1 (tLev T x)) (up tr (tLev T x).toNat 1) := by
              have := tb_set (l := (tLev T x).toNat) hb (by omega)
              rw [show (((tLev T x).toNat : Nat) : Int) = tLev T x by omega] at this
              exact this
            obtain ⟨n2, rfl⟩ : ∃ m, n2 = m + 1 := ⟨n2 - 1, by omega⟩
            obtain ⟨n1, rfl⟩ : ∃ m, n1 = m + 1 := ⟨n1 - 1, by omega⟩
            obtain ⟨T2, kl2, Q2, r2, x2, st2, left2, items2, il2, cc2, s2, pool2, w2, it2, tr2, fr2, gr2, tu2, si2, old2, b1, b2, b3, b4, b5⟩ := ih T' kl' Q r x' p' n FU n2 (st + 1) (cc ||| lShl 1 (tLev T x)) s' pool w' it' (up tr (tLev T x).toNat 1) fr gr tu si old left n' (tLev T x) O' a8 a9 a11 hb' (by omega) (by omega) (by omega) (by unfold FU; omega) (by omega) (by omega)
            refine ⟨T2, kl2, Q2, r2, x2, st2, left2, items2, il2, cc2, s2, pool2, w2, it2, tr2, fr2, gr2, tu2, si2, old2, ?_, hhead ?_, b3, b4, a6.tr b5⟩
            · rw [f_Ch_insertOwn_L30, bd1_p z1, gd_p ⟨by omega, by omega⟩, gd_p ⟨by omega, by omega⟩, if_pos hfull, gd_p ⟨by omega, by omega⟩, if_pos (by omega), bd1_p hmay, gd_p ⟨by omega, by omega⟩, if_neg (by omega), bd3_p a1, show (st : Int) + 1 = ((st + 1 : Nat) : Int) by omega]
              exact b1
            · rw [gd_p hk1, hs1, if_pos c1, if_pos (by omega), bd1_p hlev, gd_p ⟨by omega, by omega⟩, gd_p htr, if_pos c3, bd6_p a2, f_Mo_inserts_L39, gd_p ⟨by omega, by omega⟩, if_neg (by omega), gd_p ⟨by omega, by omega⟩, if_neg (by omega), f_Mo_inserts_L23, gd_p ⟨by omega, by omega⟩, if_neg (by omega), bd2_p a3, bd1_p a4]
              exact b2
          · rw [if_neg (fun q => c3 q.2.2)] at hmay
            refine spl hmay (hhead ?_)
            rw [gd_p hk1, hs1, if_pos c1, if_pos (by omega), bd1_p hlev, gd_p ⟨by omega, by omega⟩, gd_p htr, if_neg c3]
      · rw [if_neg (fun q => c1 q.1)] at hmay
        refine spl hmay (hhead ?_)
        rw [gd_p hk1, hs1, if_neg c1]
    · obtain ⟨n2, rfl⟩ : ∃ m, n2 = m + 1 := ⟨n2 - 1, by omega⟩
      refine ⟨T, kl, Q, r, (x : Int), (st : Int), left, items, il, cc, s, pool, w, it, tr, fr, gr, tu, si, old, ?_, ?_, O, fun v hv => ?_, ⟨fun v hv => ⟨hv, rfl⟩, fun v hv hn => ⟨rfl, hn, rfl⟩, fun v hv => hv, fun v hv => Or.inl hv, ⟨rfl, rfl⟩, fun j _ _ _ _ => rfl, ⟨rfl, rfl⟩, Int.le_refl _, fun q => q⟩⟩
      · rw [f_Ch_insertOwn_L30, bd1_p z1, gd_p ⟨by omega, by omega⟩, gd_p ⟨by omega, by omega⟩, if_neg hfull]
      · rw [f_Mo_inserts_L39, gd_p ⟨by omega, by omega⟩, if_neg (by omega), gd_p ck_0, if_pos rfl, bd1_p hent, gd_p ⟨by omega, by omega⟩, gd_p ⟨by omega, by omega⟩, if_neg (by rw [hs0]; exact hfull), f_Mo_inserts_L23, gd_p ck_0, if_pos rfl]
      · by_cases hvx : v = x
        · rw [hvx]
          omega
        · exact hsz v hv hvx
