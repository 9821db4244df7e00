/-! the entries of a node kept aside: class and reference -/
theorem keep_cls {T T1 : TV} {kl1 : Nat → List Nat} {Q : List Nat} {x k : Nat} {kept : Nat → Int} (h : Ar T1 kl1 Q) (hx : x ∈ Q) (hto : f_Tr_takeOut T (x : Int) = some T1) (h1 : (kl1 x).length ≤ 1) (hk : k < 24) : ∃ (kept' : Nat → Int) (T3 : TV), f_Ch_keepEntriesOf kept (k : Int) T (x : Int) = some (kept', ((k + (kl1 x).length : Nat) : Int), T3) ∧ (∀ i, i < k → kept' i = kept i) ∧ (∀ y, kl1 x = [y] → kept' k = (y : Int)) ∧ tLev T3 = up (tLev T1) x (-2) ∧ tSiz T3 = up (tSiz T1) x 0 ∧ (∀ v, tHol T3 v = if v = x ∨ v ∈ kl1 x then -1 else tHol T1 v) ∧ (tCor T3 = tCor T1 ∧ tLis T3 = tLis T1 ∧ tR T3 = tR T1 ∧ tRoot T3 = tRoot T1 ∧ tCap T3 = tCap T1 ∧ tRei T3 = tRei T1 ∧ tSpl T3 = tSpl T1 ∧ tRec T3 = tRec T1) := by
  have hle := h.le
  have hxl := h.lt hx
  have hsz : f_Tr_sizeOf T1 (x : Int) = some ((kl1 x).length : Int) := by rw [t_siz hle hxl, (h.siz hx).1]
  cases hkx : kl1 x with
  | nil =>
    rw [hkx] at hsz
    refine ⟨kept, tk T1 x (-2), ?_, fun _ _ => rfl, fun y q => (by cases q), rfl, rfl, fun v => ?_, ⟨rfl, rfl, rfl, rfl, rfl, rfl, rfl, rfl⟩⟩
    · unfold f_Ch_keepEntriesOf f_Tr_release
      have hsz : f_Tr_sizeOf T1 (x : Int) = some 0 := hsz
      rw [bd1_p hto, bd1_p hsz, show FU = 4095 + 1 from rfl, f_Ch_keepEntriesOf_L19, gd_p ck_0, gd_p ck_0, if_neg (by omega), bd1_p (by rw [bd1_p (take_sp hle hxl)])]
      rfl
    · show up (tHol T1) x (-1) v = _
      unfold up
      by_cases hvx : v = x <;> simp [hvx]
  | cons y t =>
    have ht : t = [] := by
      rw [hkx] at h1
      simp at h1
      exact h1
    subst ht
    rw [hkx] at hsz
    have hyk := h.kid hx (y := y) (by rw [hkx]; simp)
    have hyl := h.lt hyk.1
    have hg : f_Tr_entryAt T1 (x : Int) 0 = some (y : Int) := h.ent (j := 0) hx (by rw [hkx]; rfl)
    refine ⟨up kept k (y : Int), tk (sHol T1 (up (tHol T1) y (-1))) x (-2), ?_, fun i hi => up_o (by omega), fun z q => ?_, rfl, rfl, fun v => ?_, ⟨rfl, rfl, rfl, rfl, rfl, rfl, rfl, rfl⟩⟩
    · unfold f_Ch_keepEntriesOf f_Tr_release
      have hsz : f_Tr_sizeOf T1 (x : Int) = some 1 := hsz
      rw [bd1_p hto, bd1_p hsz, show FU = 4094 + 1 + 1 from rfl, f_Ch_keepEntriesOf_L19, gd_p ck_0, gd_p ⟨by omega, by omega⟩, if_pos (by omega), bd1_p hg]
      unfold f_Tr_setLoose
      rw [bd1_p (by rw [bd1_p (put_sp (n := tR T1) (f := tHol T1) (by omega) hyl)]), bd1_p (put_sp (n := 24) (f := kept) (by omega) hk), f_Ch_keepEntriesOf_L19, gd_p ⟨by omega, by omega⟩, gd_p ⟨by omega, by omega⟩, if_neg (by omega), bd1_p (by rw [bd1_p (take_sp (T := sHol T1 (up (tHol T1) y (-1))) hle hxl)])]
      rfl
    · simp at q
      rw [← q]
      exact up_s
    · show up (up (tHol T1) y (-1)) x (-1) v = _
      unfold up
      by_cases hvx : v = x
      · simp [hvx]
      · by_cases hvy : v = y <;> simp [hvx, hvy]
theorem seg_copy {s : Nat → Int} {c len o : Nat} (hc : c + len ≤ 360) (ho : o + len ≤ 360) (k : Int → (Nat → Int) → Option ((Nat → Int) × (Nat → Int) × (Nat → Int) × (Nat → Int) × Int)) : ∀ (d i n : Nat) (a : Nat → Int), i + d = len → d < n → ∃ a', f_Mo_keepsAside_L36 s (c : Int) ((c + len : Nat) : Int) (o : Int) k n ((c + i : Nat) : Int) a = k ((c + len : Nat) : Int) a' ∧ (∀ j, i ≤ j → j < len → a' (o + j) = s (101 + c + j)) ∧ ∀ q, (q < o + i ∨ o + len ≤ q) → a' q = a q
  | 0, i, n + 1, a, hi, hn => by
    refine ⟨a, ?_, fun j h1 h2 => absurd h1 (by omega), fun _ _ => rfl⟩
    rw [f_Mo_keepsAside_L36, gd_p ⟨by omega, by omega⟩, gd_p ⟨by omega, by omega⟩, if_neg (by omega), show ((c + i : Nat) : Int) = ((c + len : Nat) : Int) by omega]
  | d + 1, i, n + 1, a, hi, hn => by
    obtain ⟨a', e1, e2, e3⟩ := seg_copy hc ho k d (i + 1) n (up a (o + i) (s (101 + (c + i)))) (by omega) (by omega)
    refine ⟨a', ?_, fun j h1 h2 => ?_, fun q hq => by rw [e3 q (by omega), up_o (by omega)]⟩
    · rw [f_Mo_keepsAside_L36, gd_p ⟨by omega, by omega⟩, gd_p ⟨by omega, by omega⟩, if_pos (by omega), bd1_p (rw_at (i := c + i) (by omega) rfl), gd_p ⟨by omega, by omega⟩, show ((o : Int) + ((c + i : Nat) : Int) - (c : Int)).toNat = o + i by omega, show (((c + i : Nat) : Int)) + 1 = ((c + (i + 1) : Nat) : Int) by omega]
      exact e1
    · by_cases hji : j = i
      · subst hji
        rw [e3 _ (by omega), up_s, Nat.add_assoc]
      · exact e2 j (by omega) h2
theorem keep_ref {T : TV} {kl : Nat → List Nat} {Q : List Nat} {r x p m o : Nat} {s s1 aside begin level : Nat → Int} (h : Ar T kl Q) (hrow : Row s (tLev T) (pr (tLev T) kl r)) (hx : x ∈ Q) (hat : At T kl r x p) (h1 : (kl x).length ≤ 1) (hb : begin m = (o : Int)) (ho : o + (pr (tLev T) kl x).length ≤ 360) (hm : m < 60) (hcut : f_Mo_cuts s (p : Int) ((p + (pr (tLev T) kl x).length : Nat) : Int) = some s1) : ∃ aside' begin' level' : Nat → Int, f_Mo_keepsAside s aside begin level (m : Int) (p : Int) = some (s1, aside', begin', level', ((m + (kl x).length : Nat) : Int)) ∧ (∀ q, q < o → aside' q = aside q) ∧ (∀ i, i ≤ m → begin' i = begin i) ∧ (∀ i, i < m → level' i = level i) ∧ ∀ y, kl x = [y] → (∀ (j z : Nat), (pr (tLev T) kl y)[j]? = some z → aside' (o + j) = sg (tLev T) z) ∧ begin' (m + 1) = ((o + (pr (tLev T) kl y).length : Nat) : Int) ∧ level' m = tLev T x := by
  have hlk := h.lk
  obtain ⟨B, e1, e2⟩ := hat
  have hend := end_pr hrow hlk hx e1 e2
  have hdp := drop_pr hlk hx e1
  have hP := hrow.2.1
  have hlenP := congrArg List.length e1
  rw [List.length_drop, List.length_append] at hlenP
  have hpx : (pr (tLev T) kl x).length = 1 + (prs (tLev T) kl (kl x)).length := by rw [pr_eq (Lk_at hlk hx)]; simp; omega
  cases hkx : kl x with
  | nil =>
    rw [hkx, prs_nil] at hpx
    simp at hpx
    rw [hpx] at hend hcut
    refine ⟨aside, begin, level, ?_, fun _ _ => rfl, fun _ _ => rfl, fun _ _ => rfl, fun y q => (by cases q)⟩
    unfold f_Mo_keepsAside
    rw [bd1_p hend, show FU = 4095 + 1 from rfl, f_Mo_keepsAside_L10, gd_p ⟨by omega, by omega⟩, gd_p ⟨by omega, by omega⟩, if_neg (by omega), bd1_p hcut]
    rfl
  | cons y t =>
    have ht : t = [] := by
      rw [hkx] at h1
      simp at h1
      exact h1
    subst ht
    have hyk := h.kid hx (y := y) (by rw [hkx]; simp)
    rw [hkx, prs_cons, prs_nil, List.append_nil] at hpx
    have hd2 := hdp.2.1
    rw [hkx, prs_cons, prs_nil, List.append_nil] at hd2
    have hst : stops (tLev T) (tLev T y) B := stops_le e2 (by omega)
    have hendy := end_pr hrow hlk hyk.1 hd2 hst
    have hpos : 0 < (pr (tLev T) kl y).length := by rw [pr_eq (Lk_at hlk hyk.1)]; simp
    have he : p + (pr (tLev T) kl x).length = p + 1 + (pr (tLev T) kl y).length := by omega
    rw [he] at hend hcut
    have hli := (h.2.2.2.2 x hx).1
    obtain ⟨a', c1, c2, c3⟩ := seg_copy (s := s) (c := p + 1) (len := (pr (tLev T) kl y).length) (o := o) (by omega) (by omega) (fun x6_18 c_aside_19 => bd1 (f_Mo_levelAt s (p : Int)) <| fun r_20 => gd (0 ≤ (m : Int) ∧ (m : Int) < ((64 : Nat) : Int)) <| gd (0 ≤ ((m : Int) + 1) ∧ ((m : Int) + 1) < ((65 : Nat) : Int)) <| bd1 (f_Mo_endOf s ((p + 1 : Nat) : Int)) <| fun r_25 => f_Mo_keepsAside_L10 s (p : Int) ((p + 1 + (pr (tLev T) kl y).length : Nat) : Int) (fun x3_28 c_aside_29 c_begin_30 c_level_31 c_asides_32 => bd1 (f_Mo_cuts s (p : Int) ((p + 1 + (pr (tLev T) kl y).length : Nat) : Int)) <| fun c_s_33 => some (c_s_33, c_aside_29, c_begin_30, c_level_31, c_asides_32)) 4095 (r_25) (c_aside_19) ((up begin ((((m : Int) + 1)).toNat) (((begin ((m : Int)).toNat) + ((p + 1 + (pr (tLev T) kl y).length : Nat) : Int)) - ((p + 1 : Nat) : Int)))) ((up level (((m : Int)).toNat) r_20)) ((m : Int) + 1)) (pr (tLev T) kl y).length 0 FU aside (by omega) (by unfold FU; omega)
    refine ⟨a', up begin (m + 1) ((o + (pr (tLev T) kl y).length : Nat) : Int), up level m (tLev T x), ?_, fun q hq => c3 q (by omega), fun i hi => up_o (by omega), fun i hi => up_o (by omega), fun z q => ?_⟩
    · have hmn : ((m : Int)).toNat = m := by omega
      unfold f_Mo_keepsAside
      rw [bd1_p hend, show (p : Int) + 1 = ((p + 1 : Nat) : Int) by omega, show FU = 4095 + 1 from rfl, f_Mo_keepsAside_L10, gd_p ⟨by omega, by omega⟩, gd_p ⟨by omega, by omega⟩, if_pos (by omega), bd1_p hendy, gd_p ⟨by omega, by omega⟩, hmn, hb]
      rw [hmn, hb] at c1
      refine Eq.trans c1 ?_
      rw [bd1_p (row_lev hrow hdp.1), gd_p ⟨by omega, by omega⟩, gd_p ⟨by omega, by omega⟩, bd1_p hendy, show (4095 : Nat) = 4094 + 1 from rfl, f_Mo_keepsAside_L10, gd_p ⟨by omega, by omega⟩, gd_p ⟨by omega, by omega⟩, if_neg (by omega), bd1_p hcut, show ((m : Int) + 1).toNat = m + 1 by omega, show (o : Int) + ((p + 1 + (pr (tLev T) kl y).length : Nat) : Int) - ((p + 1 : Nat) : Int) = ((o + (pr (tLev T) kl y).length : Nat) : Int) by omega]
      rfl
    · simp at q
      subst q
      refine ⟨fun j z hz => ?_, up_s, up_s⟩
      have hjl := (List.getElem?_eq_some_iff.mp hz).1
      rw [c2 j (by omega) hjl, Nat.add_assoc]
      refine hrow.2.2.1 (p + 1 + j) z ?_
      have : ((pr (tLev T) kl r).drop (p + 1))[j]? = some z := by
        rw [hd2, List.getElem?_append_left hjl]
        exact hz
      rw [List.getElem?_drop] at this
      exact this
/-- what is kept aside, in both -/
def Kp (lv : Nat → Int) (kl : Nat → List Nat) (M : List Nat) (kept aside begin level : Nat → Int) : Prop :=
  (∀ (i y : Nat), M[i]? = some y → kept i = (y : Int)) ∧ (∀ i, i ≤ M.length → begin i = ((prs lv kl (M.take i)).length : Int)) ∧ ∀ (i y : Nat), M[i]? = some y → level i = lv y + 1 ∧ ∀ (j z : Nat), (pr lv kl y)[j]? = some z → aside ((prs lv kl (M.take i)).length + j) = sg lv z
theorem prs_eq {lv lv' : Nat → Int} {kl kl' : Nat → List Nat} : ∀ L : List Nat, (∀ y ∈ L, pr lv' kl' y = pr lv kl y) → prs lv' kl' L = prs lv kl L
  | [], _ => rfl
  | a :: L, h => by rw [prs_cons, prs_cons, h a List.mem_cons_self, prs_eq L (fun y hy => h y (List.mem_cons_of_mem _ hy))]
theorem Kp.same {lv lv' : Nat → Int} {kl kl' : Nat → List Nat} {M : List Nat} {kept aside begin level : Nat → Int} (K : Kp lv kl M kept aside begin level) (hs : ∀ y ∈ M, pr lv' kl' y = pr lv kl y ∧ y ∈ pr lv kl y ∧ ∀ v ∈ pr lv kl y, lv' v = lv v) : Kp lv' kl' M kept aside begin level := by
  have hp : ∀ i, prs lv' kl' (M.take i) = prs lv kl (M.take i) := fun i => prs_eq _ (fun y hy => (hs y (List.mem_of_mem_take hy)).1)
  refine ⟨K.1, fun i hi => by rw [hp]; exact K.2.1 i hi, fun i y hi => ?_⟩
  have h1 := hs y (List.mem_of_getElem? hi)
  have h2 := K.2.2 i y hi
  refine ⟨by rw [h1.2.2 y h1.2.1]; exact h2.1, fun j z hz => ?_⟩
  rw [h1.1] at hz
  rw [hp, h2.2 j z hz]
  unfold sg
  rw [h1.2.2 z (List.mem_of_getElem? hz)]
theorem Kp.nil {lv : Nat → Int} {kl : Nat → List Nat} {kept aside begin level : Nat → Int} (h : begin 0 = 0) : Kp lv kl [] kept aside begin level := ⟨fun i y hi => by simp at hi, fun i hi => by
  have : i = 0 := by simpa using hi
  subst this
  exact h, fun i y hi => by simp at hi⟩
theorem Lo.nodup {T : TV} {kl : Nat → List Nat} {Q M : List Nat} {r : Nat} (h : Ar T kl Q) (L : Lo T kl Q r M) : ∀ N : List Nat, N.Nodup → (∀ y ∈ N, y ∈ M) → (prs (tLev T) kl N).Nodup
  | [], _, _ => List.nodup_nil
  | a :: N, hn, hs => by
    have hn := List.nodup_cons.mp hn
    have ha := L.2.1 a (hs a List.mem_cons_self)
    rw [prs_cons]
    refine List.nodup_append.mpr ⟨pr_nodup h a ha.1, Lo.nodup h L N hn.2 (fun y hy => hs y (List.mem_cons_of_mem _ hy)), fun z hz w hw q => ?_⟩
    subst q
    obtain ⟨b, hb, hzb⟩ := mem_prs.mp hw
    have hb2 := L.2.1 b (hs b (List.mem_cons_of_mem _ hb))
    have := tops h ha.1 hb2.1 ha.2.2 hb2.2.2 hz hzb
    exact hn.1 (this ▸ hb)
theorem Lo.len {T : TV} {kl : Nat → List Nat} {Q M : List Nat} {r : Nat} (h : Ar T kl Q) (hr : r ∈ Q) (hhr : tHol T r = -1) (L : Lo T kl Q r M) : (prs (tLev T) kl M).length + (pr (tLev T) kl r).length ≤ Q.length := by
  have := sub_len (L := prs (tLev T) kl M ++ pr (tLev T) kl r) (M := Q) (List.nodup_append.mpr ⟨L.nodup h M L.1 (fun _ q => q), pr_nodup h r hr, fun z hz w hw q => by
    subst q
    obtain ⟨y, hy, hzy⟩ := mem_prs.mp hz
    exact L.out h hr hhr hy hzy hw⟩) (fun z hz => by
    rcases List.mem_append.mp hz with q | q
    · obtain ⟨y, hy, hzy⟩ := mem_prs.mp q
      exact (pr_in h.lk y (L.2.1 y hy).1 z hzy).1
    · exact (pr_in h.lk r hr z q).1)
  rw [List.length_append] at this
  exact this
