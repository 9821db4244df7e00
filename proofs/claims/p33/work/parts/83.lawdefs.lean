/-! the law's methods as functions -/
def f_Lw_cell (n_A0 : Nat) (fA0 : Nat → Int) (x1 : Int) : Option (Int) :=
  gd (ck x1) <| gd (ck ((n_A0 : Nat) : Int)) <| if x1 < ((n_A0 : Nat) : Int) then (gd (0 ≤ x1 ∧ x1 < ((n_A0 : Nat) : Int)) <| some ((fA0 (x1).toNat))) else (some ((40503 * (x1 + 3))))
abbrev rm_Lw_cell : Room := ({ frames := 0, cells := 0, slots := 0, locals := 0 } : Room)
def f_Lw_corner (x0 : Int) (x1 : Int) : Option (Int) :=
  gd (ck x1) <| if x1 = 0 then (gd (ck x0 ∧ (0 : Int) < 100 ∧ (100 : Int) ≤ 2147483647) <| some ((Int.tmod x0 100))) else (if x1 = 1 then (gd (ck x0 ∧ (0 : Int) < 100 ∧ (100 : Int) ≤ 2147483647) <| gd (ck (Int.tdiv x0 100) ∧ (0 : Int) < 100 ∧ (100 : Int) ≤ 2147483647) <| some ((Int.tmod (Int.tdiv x0 100) 100))) else (if x1 = 2 then (gd (ck x0 ∧ (0 : Int) < 10000 ∧ (10000 : Int) ≤ 2147483647) <| gd (ck (Int.tdiv x0 10000) ∧ (0 : Int) < 100 ∧ (100 : Int) ≤ 2147483647) <| some ((Int.tmod (Int.tdiv x0 10000) 100))) else (gd (ck x0 ∧ (0 : Int) < 1000000 ∧ (1000000 : Int) ≤ 2147483647) <| some ((Int.tdiv x0 1000000)))))
abbrev rm_Lw_corner : Room := ({ frames := 0, cells := 0, slots := 0, locals := 0 } : Room)
def f_Lw_many_L4 (n_A0 : Nat) (fA0 : Nat → Int) (k : Int → Int → Option (Int)) : Nat → Int → Int → Option (Int)
  | 0, _, _ => none
  | n + 1, x1, x2 =>
  gd (ck x2) <| if x2 < 24 then (gd (0 ≤ x2 ∧ x2 < ((n_A0 : Nat) : Int)) <| gd (ck (fA0 (x2).toNat)) <| if (fA0 (x2).toNat) < 0 then (f_Lw_many_L4 n_A0 fA0 k n ((x1 + 0)) ((x2 + 1))) else (f_Lw_many_L4 n_A0 fA0 k n ((x1 + 1)) ((x2 + 1)))) else (k (x1) (x2))
def f_Lw_many (n_A0 : Nat) (fA0 : Nat → Int) : Option (Int) :=
  f_Lw_many_L4 (n_A0) (fA0) (fun x1_6 x2_7 => some (x1_6)) FU (0) (0)
abbrev rm_Lw_many : Room := ({ frames := 0, cells := 0, slots := 0, locals := 0 } : Room)
def f_Lw_behind_L5 (T : TV) (K : KV) (x2 : Int) (x3 : Int) (k : Int → Option (Int)) : Nat → Int → Option (Int)
  | 0, _ => none
  | n + 1, x4 =>
  gd (ck x4) <| gd (ck x3) <| if x4 < x3 then (bd1 (f_Rt_level T K x4) <| fun r_4 => gd (ck r_4) <| gd (ck x2) <| if r_4 < x2 then (f_Lw_behind_L5 T K x2 x3 k n ((x4 + 1))) else (k (x4))) else (k (x4))
def f_Lw_behind (T : TV) (K : KV) (x1 : Int) (x2 : Int) (x3 : Int) : Option (Int) :=
  f_Lw_behind_L5 (T) (K) (x2) (x3) (fun x4_10 => some (x4_10)) FU ((x1 + 1))
abbrev rm_Lw_behind : Room := ({ frames := 3, cells := 0, slots := 0, locals := 63 } : Room)
def f_Lw_leaf_L13 (n_A1 : Nat) (T : TV) (K : KV) (fA1 : Nat → Int) (x2 : Int) (x5 : Int) (k : Int → Int → Option (Int)) : Nat → Int → Int → Option (Int)
  | 0, _, _ => none
  | n + 1, x4, x6 =>
  gd (ck x6) <| gd (ck x5) <| if x6 < x5 then (bd1 (f_Rt_entry T K x2 x6) <| fun r_7 => gd (ck r_7) <| if r_7 < 0 then (some ((-1))) else (if 23 < r_7 then (some ((-1))) else (gd (0 ≤ r_7 ∧ r_7 < ((n_A1 : Nat) : Int)) <| gd (ck (fA1 (r_7).toNat)) <| if (fA1 (r_7).toNat) < 0 then (some ((-1))) else (if (iAnd (iShr x4 r_7) 1) = 1 then (some ((-1))) else (bd1 (f_Rt_leafOf T K r_7) <| fun r_17 => gd (ck r_17) <| gd (ck x2) <| if r_17 = x2 then (f_Lw_leaf_L13 n_A1 T K fA1 x2 x5 k n ((iOr x4 (iShl 1 r_7))) ((x6 + 1))) else (some ((-1)))))))) else (k (x4) (x6))
def f_Lw_leaf_L117 (n_A1 : Nat) (T : TV) (K : KV) (fA1 : Nat → Int) (x2 : Int) (x5 : Int) (x6 : Int) (k : Int → Int → Option (Int)) : Nat → Int → Int → Option (Int)
  | 0, _, _ => none
  | n + 1, x7, x8 =>
  gd (ck x8) <| gd (ck x5) <| if x8 < x5 then (bd1 (f_Rt_entry T K x2 x8) <| fun r_33 => gd (0 ≤ r_33 ∧ r_33 < ((n_A1 : Nat) : Int)) <| gd (ck r_33) <| bd1 (f_Lw_corner (fA1 (r_33).toNat) x6) <| fun r_38 => gd (ck x6) <| if x6 < 2 then (gd (ck r_38) <| gd (ck x7) <| if r_38 < x7 then (f_Lw_leaf_L117 n_A1 T K fA1 x2 x5 x6 k n (r_38) ((x8 + 1))) else (f_Lw_leaf_L117 n_A1 T K fA1 x2 x5 x6 k n (x7) ((x8 + 1)))) else (gd (ck r_38) <| gd (ck x7) <| if x7 < r_38 then (f_Lw_leaf_L117 n_A1 T K fA1 x2 x5 x6 k n (r_38) ((x8 + 1))) else (f_Lw_leaf_L117 n_A1 T K fA1 x2 x5 x6 k n (x7) ((x8 + 1))))) else (k (x7) (x8))
def f_Lw_leaf_L89 (n_A1 : Nat) (T : TV) (K : KV) (fA1 : Nat → Int) (x2 : Int) (x5 : Int) (k : Int → Option (Int)) : Nat → Int → Option (Int)
  | 0, _ => none
  | n + 1, x6 =>
  gd (ck x6) <| if x6 < 4 then (gd (ck x5) <| if 0 < x5 then (if x6 < 2 then (f_Lw_leaf_L117 (n_A1) (T) (K) (fA1) (x2) (x5) (x6) (fun x7_57 x8_58 => bd1 (f_Rt_bound T K x2 x6) <| fun r_59 => gd (ck r_59) <| gd (ck x7_57) <| if r_59 = x7_57 then (f_Lw_leaf_L89 n_A1 T K fA1 x2 x5 k n ((x6 + 1))) else (some ((-1)))) FU (100) (0)) else (f_Lw_leaf_L117 (n_A1) (T) (K) (fA1) (x2) (x5) (x6) (fun x7_49 x8_50 => bd1 (f_Rt_bound T K x2 x6) <| fun r_51 => gd (ck r_51) <| gd (ck x7_49) <| if r_51 = x7_49 then (f_Lw_leaf_L89 n_A1 T K fA1 x2 x5 k n ((x6 + 1))) else (some ((-1)))) FU ((-1)) (0))) else (k (x6))) else (k (x6))
def f_Lw_leaf (n_A1 : Nat) (T : TV) (K : KV) (fA1 : Nat → Int) (x2 : Int) (x3 : Int) : Option (Int) :=
  bd1 (f_Rt_entries T K x2) <| fun r_1 => f_Lw_leaf_L13 (n_A1) (T) (K) (fA1) (x2) (r_1) (fun x4_23 x6_24 => f_Lw_leaf_L89 (n_A1) (T) (K) (fA1) (x2) (r_1) (fun x6_65 => some (x4_23)) FU (0)) FU (x3) (0)
abbrev rm_Lw_leaf : Room := ({ frames := 3, cells := 0, slots := 0, locals := 67 } : Room)
def f_Lw_isNode_L15 (T : TV) (K : KV) (x1 : Int) (x2 : Int) (x3 : Int) (x5 : Int) (k : Int → Int → Option (Int)) : Nat → Int → Int → Option (Int)
  | 0, _, _ => none
  | n + 1, x4, x6 =>
  gd (ck x6) <| gd (ck x5) <| if x6 < x5 then (gd (ck x4) <| gd (ck x3) <| if x4 < x3 then (bd1 (f_Rt_entry T K x1 x6) <| fun r_10 => gd (ck r_10) <| if r_10 = x4 then (bd1 (f_Rt_level T K x4) <| fun r_15 => gd (ck r_15) <| gd (ck (x2 - 1)) <| if r_15 = (x2 - 1) then (bd1 (f_Lw_behind T K x4 (x2 - 1) x3) <| fun r_21 => f_Lw_isNode_L15 T K x1 x2 x3 x5 k n (r_21) ((x6 + 1))) else (some (0))) else (some (0))) else (some (0))) else (k (x4) (x6))
def f_Lw_isNode_L98 (T : TV) (K : KV) (x1 : Int) (x5 : Int) (x6 : Int) (k : Int → Int → Option (Int)) : Nat → Int → Int → Option (Int)
  | 0, _, _ => none
  | n + 1, x7, x8 =>
  gd (ck x8) <| gd (ck x5) <| if x8 < x5 then (bd1 (f_Rt_entry T K x1 x8) <| fun r_32 => bd1 (f_Rt_bound T K r_32 x6) <| fun r_35 => gd (ck x6) <| if x6 < 2 then (gd (ck r_35) <| gd (ck x7) <| if r_35 < x7 then (f_Lw_isNode_L98 T K x1 x5 x6 k n (r_35) ((x8 + 1))) else (f_Lw_isNode_L98 T K x1 x5 x6 k n (x7) ((x8 + 1)))) else (gd (ck r_35) <| gd (ck x7) <| if x7 < r_35 then (f_Lw_isNode_L98 T K x1 x5 x6 k n (r_35) ((x8 + 1))) else (f_Lw_isNode_L98 T K x1 x5 x6 k n (x7) ((x8 + 1))))) else (k (x7) (x8))
def f_Lw_isNode_L75 (T : TV) (K : KV) (x1 : Int) (x5 : Int) (k : Int → Option (Int)) : Nat → Int → Option (Int)
  | 0, _ => none
  | n + 1, x6 =>
  gd (ck x6) <| if x6 < 4 then (if x6 < 2 then (f_Lw_isNode_L98 (T) (K) (x1) (x5) (x6) (fun x7_54 x8_55 => bd1 (f_Rt_bound T K x1 x6) <| fun r_56 => gd (ck r_56) <| gd (ck x7_54) <| if r_56 = x7_54 then (f_Lw_isNode_L75 T K x1 x5 k n ((x6 + 1))) else (some (0))) FU (100) (0)) else (f_Lw_isNode_L98 (T) (K) (x1) (x5) (x6) (fun x7_46 x8_47 => bd1 (f_Rt_bound T K x1 x6) <| fun r_48 => gd (ck r_48) <| gd (ck x7_46) <| if r_48 = x7_46 then (f_Lw_isNode_L75 T K x1 x5 k n ((x6 + 1))) else (some (0))) FU ((-1)) (0))) else (k (x6))
def f_Lw_isNode (T : TV) (K : KV) (x1 : Int) (x2 : Int) (x3 : Int) : Option (Int) :=
  bd1 (f_Rt_entries T K x1) <| fun r_1 => f_Lw_isNode_L15 (T) (K) (x1) (x2) (x3) (r_1) (fun x4_24 x6_25 => f_Lw_isNode_L75 (T) (K) (x1) (r_1) (fun x6_62 => gd (ck r_1) <| if 0 < r_1 then (bd1 (f_Lw_behind T K x1 x2 x3) <| fun r_65 => gd (ck x4_24) <| gd (ck r_65) <| if x4_24 = r_65 then (some (1)) else (some (0))) else (some (0))) FU (0)) FU ((x1 + 1)) (0)
abbrev rm_Lw_isNode : Room := ({ frames := 4, cells := 0, slots := 0, locals := 87 } : Room)
def f_Lw_isTree_L112 (T : TV) (x5 : Int) (x6 : Int) (x7 : Int) (k : Int → Option (Int)) : Nat → Int → Option (Int)
  | 0, _ => none
  | n + 1, x8 =>
  gd (ck x5) <| if x5 = 0 then (gd (ck x6) <| if x6 < 0 then (k (0)) else (if x6 = 0 then (k (1)) else (gd (ck x7) <| if 1 < x7 then (k (1)) else (k (0))))) else (gd (ck x6) <| if x6 < 0 then (k (0)) else (bd1 (f_Rt_height T) <| fun r_57 => gd (ck r_57) <| if x6 < r_57 then (gd (ck x7) <| if 0 < x7 then (k (1)) else (k (0))) else (k (0))))
def f_Lw_isTree_L221 (n_A1 : Nat) (T : TV) (K : KV) (fA1 : Nat → Int) (x5 : Int) (x6 : Int) (k : Int → Option (Int)) : Nat → Int → Option (Int)
  | 0, _ => none
  | n + 1, x4 =>
  gd (ck x6) <| if 0 < x6 then (k (x4)) else (bd1 (f_Lw_leaf n_A1 T K fA1 x5 x4) <| fun r_88 => k (r_88))
def f_Lw_isTree_L90 (n_A1 : Nat) (T : TV) (K : KV) (fA1 : Nat → Int) (x2 : Int) (k : Int → Int → Option (Int)) : Nat → Int → Int → Option (Int)
  | 0, _, _ => none
  | n + 1, x4, x5 =>
  gd (ck x5) <| gd (ck x2) <| if x5 < x2 then (bd1 (f_Rt_level T K x5) <| fun r_47 => bd1 (f_Rt_entries T K x5) <| fun r_50 => f_Lw_isTree_L112 (T) (x5) (r_47) (r_50) (fun x8_69 => gd (ck x8_69) <| if x8_69 = 0 then (some (0)) else (gd (ck r_50) <| if 6 < r_50 then (some (0)) else (bd1 (f_Rt_entry T K x5 r_50) <| fun r_74 => gd (ck r_74) <| if r_74 = (-1) then (bd1 (f_Rt_entry T K x5 (-1)) <| fun r_79 => gd (ck r_79) <| if r_79 = (-1) then (gd (ck r_47) <| if 0 < r_47 then (bd1 (f_Lw_isNode T K x5 r_47 x2) <| fun r_94 => gd (ck r_94) <| if r_94 = 0 then (some (0)) else (f_Lw_isTree_L221 (n_A1) (T) (K) (fA1) (x5) (r_47) (fun x4_99 => gd (ck x4_99) <| if x4_99 < 0 then (some (0)) else (f_Lw_isTree_L90 n_A1 T K fA1 x2 k n (x4_99) ((x5 + 1)))) FU (x4))) else (f_Lw_isTree_L221 (n_A1) (T) (K) (fA1) (x5) (r_47) (fun x4_91 => gd (ck x4_91) <| if x4_91 < 0 then (some (0)) else (f_Lw_isTree_L90 n_A1 T K fA1 x2 k n (x4_91) ((x5 + 1)))) FU (x4))) else (some (0))) else (some (0))))) FU (0)) else (k (x4) (x5))
def f_Lw_isTree_L255 (T : TV) (K : KV) (x2 : Int) (x3 : Int) (x4 : Int) (k : Int → Option (Int)) : Nat → Int → Option (Int)
  | 0, _ => none
  | n + 1, x5 =>
  bd1 (f_Rt_boxes T) <| fun r_104 => gd (ck x4) <| gd (ck r_104) <| if x4 = r_104 then (gd (ck x3) <| if 0 < x3 then (k (1)) else (gd (ck x2) <| if x2 = 1 then (bd1 (f_Rt_entries T K 0) <| fun r_114 => gd (ck r_114) <| if r_114 = 0 then (bd1 (f_Rt_bound T K 0 0) <| fun r_119 => gd (ck r_119) <| if r_119 = (-5) then (k (1)) else (k (0))) else (k (0))) else (k (0)))) else (k (0))
def f_Lw_isTree_L314 (n_A1 : Nat) (fA1 : Nat → Int) (x4 : Int) (x6 : Int) (k : Int → Option (Int)) : Nat → Int → Option (Int)
  | 0, _ => none
  | n + 1, x5 =>
  gd (0 ≤ x6 ∧ x6 < ((n_A1 : Nat) : Int)) <| gd (ck x6) <| gd (ck (fA1 (x6).toNat)) <| if (fA1 (x6).toNat) < 0 then (if (iAnd (iShr x4 x6) 1) = 0 then (k (1)) else (k (0))) else (if (iAnd (iShr x4 x6) 1) = 0 then (k (0)) else (k (1)))
def f_Lw_isTree_L365 (n_A1 : Nat) (T : TV) (fA1 : Nat → Int) (x6 : Int) (x7 : Int) (k : Int → Option (Int)) : Nat → Int → Option (Int)
  | 0, _ => none
  | n + 1, x5 =>
  bd1 (f_Rt_side T x6 x7) <| fun r_144 => gd (0 ≤ x6 ∧ x6 < ((n_A1 : Nat) : Int)) <| gd (ck x6) <| gd (ck (fA1 (x6).toNat)) <| if (fA1 (x6).toNat) < 0 then (gd (ck r_144) <| if r_144 = (-1) then (k (1)) else (k (0))) else (bd1 (f_Lw_corner (fA1 (x6).toNat) x7) <| fun r_151 => gd (ck r_144) <| gd (ck r_151) <| if r_144 = r_151 then (k (1)) else (k (0)))
def f_Lw_isTree_L354 (n_A1 : Nat) (T : TV) (fA1 : Nat → Int) (x6 : Int) (k : Int → Int → Option (Int)) : Nat → Int → Int → Option (Int)
  | 0, _, _ => none
  | n + 1, x5, x7 =>
  gd (ck x7) <| if x7 < 4 then (gd (ck x5) <| if x5 = 0 then (k (x5) (x7)) else (f_Lw_isTree_L365 (n_A1) (T) (fA1) (x6) (x7) (fun x5_159 => f_Lw_isTree_L354 n_A1 T fA1 x6 k n (x5_159) ((x7 + 1))) FU (0))) else (k (x5) (x7))
def f_Lw_isTree_L302 (n_A1 : Nat) (T : TV) (fA1 : Nat → Int) (x4 : Int) (k : Int → Int → Option (Int)) : Nat → Int → Int → Option (Int)
  | 0, _, _ => none
  | n + 1, x5, x6 =>
  gd (ck x6) <| if x6 < 24 then (gd (ck x5) <| if x5 = 0 then (k (x5) (x6)) else (f_Lw_isTree_L314 (n_A1) (fA1) (x4) (x6) (fun x5_139 => f_Lw_isTree_L354 (n_A1) (T) (fA1) (x6) (fun x5_160 x7_161 => f_Lw_isTree_L302 n_A1 T fA1 x4 k n (x5_160) ((x6 + 1))) FU (x5_139) (0)) FU (0))) else (k (x5) (x6))
def f_Lw_isTree (n_A1 : Nat) (T : TV) (K : KV) (fA1 : Nat → Int) : Option (Int) :=
  bd1 (f_Rt_nodes K) <| fun r_1 => bd1 (f_Lw_many n_A1 fA1) <| fun r_4 => gd (ck r_1) <| if r_1 < 1 then (some (0)) else (if 400 < r_1 then (some (0)) else (bd1 (f_Rt_level T K 0) <| fun r_10 => bd1 (f_Rt_height T) <| fun r_13 => gd (ck r_10) <| gd (ck r_13) <| if r_10 = r_13 then (bd1 (f_Rt_level T K r_1) <| fun r_19 => gd (ck r_19) <| if r_19 = (-1) then (bd1 (f_Rt_level T K (-1)) <| fun r_24 => gd (ck r_24) <| if r_24 = (-1) then (bd1 (f_Rt_entries T K r_1) <| fun r_29 => gd (ck r_29) <| if r_29 = (-1) then (bd1 (f_Rt_bound T K r_1 4) <| fun r_34 => gd (ck r_34) <| if r_34 = (-1) then (bd1 (f_Rt_bound T K 0 4) <| fun r_39 => gd (ck r_39) <| if r_39 = (-2) then (f_Lw_isTree_L90 (n_A1) (T) (K) (fA1) (r_1) (fun x4_102 x5_103 => f_Lw_isTree_L255 (T) (K) (r_1) (r_4) (x4_102) (fun x5_124 => f_Lw_isTree_L302 (n_A1) (T) (fA1) (x4_102) (fun x5_162 x6_163 => gd (ck x5_162) <| if x5_162 = 0 then (some (0)) else (bd1 (f_Rt_fill T K) <| fun r_166 => bd1 (f_Rt_setting T 0) <| fun r_169 => gd ((FP.fdiv (FP.i2f (Int32.ofInt ((r_1 - 1) + r_4))) (FP.i2f (Int32.ofInt (r_1 * r_169)))) &&& (0x7fffffff : UInt32) ≤ (0x7f800000 : UInt32)) <| if (fCmp r_166 (FP.fdiv (FP.i2f (Int32.ofInt ((r_1 - 1) + r_4))) (FP.i2f (Int32.ofInt (r_1 * r_169))))) = 0 then (some (1)) else (some (0)))) FU (x5_124) (0)) FU (0)) FU (0) (0)) else (some (0))) else (some (0))) else (some (0))) else (some (0))) else (some (0))) else (some (0))))
abbrev rm_Lw_isTree : Room := ({ frames := 5, cells := 0, slots := 0, locals := 116 } : Room)
def f_Lw_common_L0 (T : TV) (K : KV) (x1 : Int) (x2 : Int) (k : Int → Option (Int)) : Nat → Int → Option (Int)
  | 0, _ => none
  | n + 1, x3 =>
  bd1 (f_Rt_bound T K x1 0) <| fun r_1 => bd1 (f_Rt_bound T K x2 0) <| fun r_4 => gd (ck r_1) <| gd (ck r_4) <| if r_4 < r_1 then (bd1 (f_Rt_bound T K x1 0) <| fun r_13 => k (r_13)) else (bd1 (f_Rt_bound T K x2 0) <| fun r_10 => k (r_10))
def f_Lw_common_L31 (T : TV) (K : KV) (x1 : Int) (x2 : Int) (k : Int → Option (Int)) : Nat → Int → Option (Int)
  | 0, _ => none
  | n + 1, x4 =>
  bd1 (f_Rt_bound T K x1 1) <| fun r_17 => bd1 (f_Rt_bound T K x2 1) <| fun r_20 => gd (ck r_17) <| gd (ck r_20) <| if r_20 < r_17 then (bd1 (f_Rt_bound T K x1 1) <| fun r_29 => k (r_29)) else (bd1 (f_Rt_bound T K x2 1) <| fun r_26 => k (r_26))
def f_Lw_common_L63 (T : TV) (K : KV) (x1 : Int) (x2 : Int) (k : Int → Option (Int)) : Nat → Int → Option (Int)
  | 0, _ => none
  | n + 1, x5 =>
  bd1 (f_Rt_bound T K x1 2) <| fun r_33 => bd1 (f_Rt_bound T K x2 2) <| fun r_36 => gd (ck r_33) <| gd (ck r_36) <| if r_33 < r_36 then (bd1 (f_Rt_bound T K x1 2) <| fun r_45 => k (r_45)) else (bd1 (f_Rt_bound T K x2 2) <| fun r_42 => k (r_42))
def f_Lw_common_L95 (T : TV) (K : KV) (x1 : Int) (x2 : Int) (k : Int → Option (Int)) : Nat → Int → Option (Int)
  | 0, _ => none
  | n + 1, x6 =>
  bd1 (f_Rt_bound T K x1 3) <| fun r_49 => bd1 (f_Rt_bound T K x2 3) <| fun r_52 => gd (ck r_49) <| gd (ck r_52) <| if r_49 < r_52 then (bd1 (f_Rt_bound T K x1 3) <| fun r_61 => k (r_61)) else (bd1 (f_Rt_bound T K x2 3) <| fun r_58 => k (r_58))
def f_Lw_common (T : TV) (K : KV) (x1 : Int) (x2 : Int) : Option (Int) :=
  f_Lw_common_L0 (T) (K) (x1) (x2) (fun x3_16 => f_Lw_common_L31 (T) (K) (x1) (x2) (fun x4_32 => f_Lw_common_L63 (T) (K) (x1) (x2) (fun x5_48 => f_Lw_common_L95 (T) (K) (x1) (x2) (fun x6_64 => gd (ck x3_16) <| gd (ck x5_48) <| if x5_48 < x3_16 then (some (0)) else (gd (ck x4_32) <| gd (ck x6_64) <| if x6_64 < x4_32 then (some (0)) else (some ((((x5_48 - x3_16) + 1) * ((x6_64 - x4_32) + 1)))))) FU (0)) FU (0)) FU (0)) FU (0)
abbrev rm_Lw_common : Room := ({ frames := 3, cells := 0, slots := 0, locals := 65 } : Room)
def f_Lw_areMeasures_L0 (T : TV) (K : KV) (k : Int → Option (Int)) : Nat → Int → Option (Int)
  | 0, _ => none
  | n + 1, x1 =>
  bd1 (f_Rt_entries T K 0) <| fun r_1 => gd (ck r_1) <| if 0 < r_1 then (bd1 (f_Rt_nodes K) <| fun r_6 => k (r_6)) else (k (0))
def f_Lw_areMeasures_L41 (T : TV) (K : KV) (x2 : Int) (x5 : Int) (k : Int → Option (Int)) : Nat → Int → Option (Int)
  | 0, _ => none
  | n + 1, x3 =>
  bd1 (f_Rt_level T K x5) <| fun r_19 => gd (ck r_19) <| gd (ck x2) <| if r_19 = x2 then (bd1 (f_Lw_common T K x5 x5) <| fun r_25 => k ((x3 + r_25))) else (k ((x3 + 0)))
def f_Lw_areMeasures_L88 (T : TV) (K : KV) (x2 : Int) (x5 : Int) (x6 : Int) (k : Int → Option (Int)) : Nat → Int → Option (Int)
  | 0, _ => none
  | n + 1, x4 =>
  bd1 (f_Rt_level T K x6) <| fun r_38 => gd (ck r_38) <| gd (ck x2) <| if r_38 = x2 then (bd1 (f_Lw_common T K x5 x6) <| fun r_44 => k ((x4 + r_44))) else (k ((x4 + 0)))
def f_Lw_areMeasures_L72 (T : TV) (K : KV) (x1 : Int) (x2 : Int) (x5 : Int) (k : Int → Int → Option (Int)) : Nat → Int → Int → Option (Int)
  | 0, _, _ => none
  | n + 1, x4, x6 =>
  gd (ck x6) <| gd (ck x1) <| if x6 < x1 then (bd1 (f_Rt_level T K x5) <| fun r_32 => gd (ck r_32) <| gd (ck x2) <| if r_32 = x2 then (f_Lw_areMeasures_L88 (T) (K) (x2) (x5) (x6) (fun x4_47 => f_Lw_areMeasures_L72 T K x1 x2 x5 k n (x4_47) ((x6 + 1))) FU (x4)) else (k (x4) (x6))) else (k (x4) (x6))
def f_Lw_areMeasures_L35 (T : TV) (K : KV) (x1 : Int) (x2 : Int) (k : Int → Int → Int → Option (Int)) : Nat → Int → Int → Int → Option (Int)
  | 0, _, _, _ => none
  | n + 1, x3, x4, x5 =>
  gd (ck x5) <| gd (ck x1) <| if x5 < x1 then (f_Lw_areMeasures_L41 (T) (K) (x2) (x5) (fun x3_28 => f_Lw_areMeasures_L72 (T) (K) (x1) (x2) (x5) (fun x4_48 x6_49 => f_Lw_areMeasures_L35 T K x1 x2 k n (x3_28) (x4_48) ((x5 + 1))) FU (x4) ((x5 + 1))) FU (x3)) else (k (x3) (x4) (x5))
def f_Lw_areMeasures_L19 (T : TV) (K : KV) (x1 : Int) (k : Int → Option (Int)) : Nat → Int → Option (Int)
  | 0, _ => none
  | n + 1, x2 =>
  bd1 (f_Rt_height T) <| fun r_10 => gd (ck x2) <| gd (ck r_10) <| if r_10 < x2 then (k (x2)) else (f_Lw_areMeasures_L35 (T) (K) (x1) (x2) (fun x3_50 x4_51 x5_52 => bd1 (f_Rt_area T K x2) <| fun r_53 => gd (ck r_53) <| gd (ck x3_50) <| if r_53 = x3_50 then (bd1 (f_Rt_overlap T K x2) <| fun r_59 => gd (ck r_59) <| gd (ck x4_51) <| if r_59 = x4_51 then (f_Lw_areMeasures_L19 T K x1 k n ((x2 + 1))) else (some (0))) else (some (0))) FU (0) (0) (0))
def f_Lw_areMeasures (T : TV) (K : KV) : Option (Int) :=
  f_Lw_areMeasures_L0 (T) (K) (fun x1_9 => f_Lw_areMeasures_L19 (T) (K) (x1_9) (fun x2_65 => bd1 (f_Rt_area T K (-1)) <| fun r_66 => gd (ck r_66) <| if r_66 = (-1) then (bd1 (f_Rt_height T) <| fun r_71 => bd1 (f_Rt_overlap T K (r_71 + 1)) <| fun r_74 => gd (ck r_74) <| if r_74 = (-1) then (bd1 (f_Rt_height T) <| fun r_79 => bd1 (f_Rt_area T K (r_79 + 1)) <| fun r_82 => gd (ck r_82) <| if r_82 = (-1) then (some (1)) else (some (0))) else (some (0))) else (some (0))) FU (0)) FU (0)
abbrev rm_Lw_areMeasures : Room := ({ frames := 4, cells := 0, slots := 0, locals := 94 } : Room)
def f_Lw_areFound_L90 (x3 : Int) (x12 : Int) (x14 : Int) (k : Int → Option (Int)) : Nat → Int → Option (Int)
  | 0, _ => none
  | n + 1, x16 =>
  gd (ck x3) <| gd (ck x12) <| if x3 < x12 then (k ((x12 - x3))) else (gd (ck x14) <| if x14 < x3 then (k ((x3 - x14))) else (k (0)))
def f_Lw_areFound_L119 (x4 : Int) (x13 : Int) (x15 : Int) (k : Int → Option (Int)) : Nat → Int → Option (Int)
  | 0, _ => none
  | n + 1, x17 =>
  gd (ck x4) <| gd (ck x13) <| if x4 < x13 then (k ((x13 - x4))) else (gd (ck x15) <| if x15 < x4 then (k ((x4 - x15))) else (k (0)))
def f_Lw_areFound_L159 (x3 : Int) (x4 : Int) (x5 : Int) (x6 : Int) (x12 : Int) (x13 : Int) (x14 : Int) (x15 : Int) (k : Int → Option (Int)) : Nat → Int → Option (Int)
  | 0, _ => none
  | n + 1, x7 =>
  gd (ck x12) <| gd (ck x5) <| if x5 < x12 then (k ((x7 + 0))) else (gd (ck x14) <| gd (ck x3) <| if x14 < x3 then (k ((x7 + 0))) else (gd (ck x13) <| gd (ck x6) <| if x6 < x13 then (k ((x7 + 0))) else (gd (ck x15) <| gd (ck x4) <| if x15 < x4 then (k ((x7 + 0))) else (k ((x7 + 1))))))
def f_Lw_areFound_L196 (x3 : Int) (x4 : Int) (x5 : Int) (x6 : Int) (x11 : Int) (x12 : Int) (x13 : Int) (x14 : Int) (x15 : Int) (k : Int → Option (Int)) : Nat → Int → Option (Int)
  | 0, _ => none
  | n + 1, x8 =>
  gd (ck x12) <| gd (ck x3) <| if x12 < x3 then (k ((iOr x8 0))) else (gd (ck x14) <| gd (ck x5) <| if x5 < x14 then (k ((iOr x8 0))) else (gd (ck x13) <| gd (ck x4) <| if x13 < x4 then (k ((iOr x8 0))) else (gd (ck x15) <| gd (ck x6) <| if x6 < x15 then (k ((iOr x8 0))) else (k ((iOr x8 (iShl 1 x11)))))))
def f_Lw_areFound_L236 (x10 : Int) (x11 : Int) (x16 : Int) (x17 : Int) (k : Int → Option (Int)) : Nat → Int → Option (Int)
  | 0, _ => none
  | n + 1, x9 =>
  gd (ck x9) <| if x9 < 0 then (k (x11)) else (gd (ck ((x16 * x16) + (x17 * x17))) <| gd (ck x10) <| if ((x16 * x16) + (x17 * x17)) < x10 then (k (x11)) else (k (x9)))
def f_Lw_areFound_L266 (x9 : Int) (x11 : Int) (x16 : Int) (x17 : Int) (k : Int → Option (Int)) : Nat → Int → Option (Int)
  | 0, _ => none
  | n + 1, x10 =>
  gd (ck x9) <| gd (ck x11) <| if x9 = x11 then (k (((x16 * x16) + (x17 * x17)))) else (k (x10))
def f_Lw_areFound_L152 (n_A1 : Nat) (fA1 : Nat → Int) (x3 : Int) (x4 : Int) (x5 : Int) (x6 : Int) (x11 : Int) (x12 : Int) (x13 : Int) (x14 : Int) (x15 : Int) (x16 : Int) (x17 : Int) (k : Int → Int → Int → Int → Option (Int)) : Nat → Int → Int → Int → Int → Option (Int)
  | 0, _, _, _, _ => none
  | n + 1, x7, x8, x9, x10 =>
  gd (0 ≤ x11 ∧ x11 < ((n_A1 : Nat) : Int)) <| gd (ck x11) <| gd (ck (fA1 (x11).toNat)) <| if (fA1 (x11).toNat) < 0 then (k (x7) (x8) (x9) (x10)) else (f_Lw_areFound_L159 (x3) (x4) (x5) (x6) (x12) (x13) (x14) (x15) (fun x7_56 => f_Lw_areFound_L196 (x3) (x4) (x5) (x6) (x11) (x12) (x13) (x14) (x15) (fun x8_69 => f_Lw_areFound_L236 (x10) (x11) (x16) (x17) (fun x9_75 => f_Lw_areFound_L266 (x9_75) (x11) (x16) (x17) (fun x10_79 => k (x7_56) (x8_69) (x9_75) (x10_79)) FU (x10)) FU (x9)) FU (x8)) FU (x7))
def f_Lw_areFound_L43 (n_A1 : Nat) (fA1 : Nat → Int) (x3 : Int) (x4 : Int) (x5 : Int) (x6 : Int) (k : Int → Int → Int → Int → Int → Option (Int)) : Nat → Int → Int → Int → Int → Int → Option (Int)
  | 0, _, _, _, _, _ => none
  | n + 1, x7, x8, x9, x10, x11 =>
  gd (ck x11) <| if x11 < 24 then (gd (0 ≤ x11 ∧ x11 < ((n_A1 : Nat) : Int)) <| bd1 (f_Lw_corner (fA1 (x11).toNat) 0) <| fun r_16 => bd1 (f_Lw_corner (fA1 (x11).toNat) 1) <| fun r_19 => bd1 (f_Lw_corner (fA1 (x11).toNat) 2) <| fun r_22 => bd1 (f_Lw_corner (fA1 (x11).toNat) 3) <| fun r_25 => f_Lw_areFound_L90 (x3) (r_16) (r_22) (fun x16_33 => f_Lw_areFound_L119 (x4) (r_19) (r_25) (fun x17_39 => f_Lw_areFound_L152 (n_A1) (fA1) (x3) (x4) (x5) (x6) (x11) (r_16) (r_19) (r_22) (r_25) (x16_33) (x17_39) (fun x7_80 x8_81 x9_82 x10_83 => f_Lw_areFound_L43 n_A1 fA1 x3 x4 x5 x6 k n (x7_80) (x8_81) (x9_82) (x10_83) ((x11 + 1))) FU (x7) (x8) (x9) (x10)) FU (0)) FU (0)) else (k (x7) (x8) (x9) (x10) (x11))
def f_Lw_areFound_L312 (T : TV) (K : KV) (x3 : Int) (x4 : Int) (x5 : Int) (x6 : Int) (x12 : Int) (k : Int → Option (Int)) : Nat → Int → Option (Int)
  | 0, _ => none
  | n + 1, x11 =>
  bd1 (f_Rt_bound T K x12 0) <| fun r_95 => gd (ck r_95) <| gd (ck x5) <| if x5 < r_95 then (k ((x11 + 0))) else (bd1 (f_Rt_bound T K x12 2) <| fun r_101 => gd (ck r_101) <| gd (ck x3) <| if r_101 < x3 then (k ((x11 + 0))) else (bd1 (f_Rt_bound T K x12 1) <| fun r_107 => gd (ck r_107) <| gd (ck x6) <| if x6 < r_107 then (k ((x11 + 0))) else (bd1 (f_Rt_bound T K x12 3) <| fun r_113 => gd (ck r_113) <| gd (ck x4) <| if r_113 < x4 then (k ((x11 + 0))) else (k ((x11 + 1))))))
def f_Lw_areFound_L303 (T : TV) (K : KV) (x3 : Int) (x4 : Int) (x5 : Int) (x6 : Int) (k : Int → Int → Option (Int)) : Nat → Int → Int → Option (Int)
  | 0, _, _ => none
  | n + 1, x11, x12 =>
  bd1 (f_Rt_nodes K) <| fun r_89 => gd (ck x12) <| gd (ck r_89) <| if x12 < r_89 then (f_Lw_areFound_L312 (T) (K) (x3) (x4) (x5) (x6) (x12) (fun x11_119 => f_Lw_areFound_L303 T K x3 x4 x5 x6 k n (x11_119) ((x12 + 1))) FU (x11)) else (k (x11) (x12))
def f_Lw_areFound (n_A1 : Nat) (T : TV) (K : KV) (fA1 : Nat → Int) (x2 : Int) : Option (Int) :=
  bd1 (f_Lw_corner x2 0) <| fun r_1 => bd1 (f_Lw_corner x2 1) <| fun r_4 => bd1 (f_Lw_corner x2 2) <| fun r_7 => bd1 (f_Lw_corner x2 3) <| fun r_10 => f_Lw_areFound_L43 (n_A1) (fA1) (r_1) (r_4) (r_7) (r_10) (fun x7_84 x8_85 x9_86 x10_87 x11_88 => f_Lw_areFound_L303 (T) (K) (r_1) (r_4) (r_7) (r_10) (fun x11_120 x12_121 => bd1 (f_Rt_meeting T r_1 r_4 r_7 r_10) <| fun r_122 => gd (ck r_122) <| gd (ck x7_84) <| if r_122 = x7_84 then (bd1 (f_Rt_inside T r_1 r_4 r_7 r_10) <| fun r_128 => gd (ck r_128) <| gd (ck x8_85) <| if r_128 = x8_85 then (bd1 (f_Rt_visits T K r_1 r_4 r_7 r_10) <| fun r_134 => gd (ck r_134) <| gd (ck x11_120) <| if r_134 = x11_120 then (bd1 (f_Rt_nearest T r_1 r_4) <| fun r_140 => gd (ck r_140) <| gd (ck x9_86) <| if r_140 = x9_86 then (some (1)) else (some (0))) else (some (0))) else (some (0))) else (some (0))) FU (1) (1)) FU (0) (0) ((-5)) (0) (0)
abbrev rm_Lw_areFound : Room := ({ frames := 3, cells := 0, slots := 0, locals := 74 } : Room)
def f_Lw_corners (x0 : Int) : Option (Int) :=
  gd (ck x0 ∧ (0 : Int) < 88 ∧ (88 : Int) ≤ 2147483647) <| gd (ck x0 ∧ (0 : Int) < 88 ∧ (88 : Int) ≤ 2147483647) <| gd (ck (Int.tdiv x0 88) ∧ (0 : Int) < 88 ∧ (88 : Int) ≤ 2147483647) <| gd (ck x0 ∧ (0 : Int) < 7744 ∧ (7744 : Int) ≤ 2147483647) <| gd (ck (Int.tdiv x0 7744) ∧ (0 : Int) < 12 ∧ (12 : Int) ≤ 2147483647) <| gd (ck x0 ∧ (0 : Int) < 92928 ∧ (92928 : Int) ≤ 2147483647) <| gd (ck (Int.tdiv x0 92928) ∧ (0 : Int) < 12 ∧ (12 : Int) ≤ 2147483647) <| some (((((Int.tmod x0 88) + (100 * (Int.tmod (Int.tdiv x0 88) 88))) + (10000 * ((Int.tmod x0 88) + (Int.tmod (Int.tdiv x0 7744) 12)))) + (1000000 * ((Int.tmod (Int.tdiv x0 88) 88) + (Int.tmod (Int.tdiv x0 92928) 12)))))
abbrev rm_Lw_corners : Room := ({ frames := 0, cells := 0, slots := 0, locals := 0 } : Room)
def f_Lw_isInserted_L2 (n_A1 : Nat) (fA1 : Nat → Int) (k : Int → Option (Int × TV × (Nat → Int) × Int × Int64 × KV × Int × TV × TV × TV × TV × (Nat → Int))) : Nat → Int → Option (Int × TV × (Nat → Int) × Int × Int64 × KV × Int × TV × TV × TV × TV × (Nat → Int))
  | 0, _ => none
  | n + 1, x3 =>
  gd (ck x3) <| if x3 < 24 then (gd (0 ≤ x3 ∧ x3 < ((n_A1 : Nat) : Int)) <| gd (ck (fA1 (x3).toNat)) <| if (fA1 (x3).toNat) < 0 then (k (x3)) else (f_Lw_isInserted_L2 n_A1 fA1 k n ((x3 + 1)))) else (k (x3))
def f_Lw_isInserted_L20 (n_A1 : Nat) (x2 : Int) (x3 : Int) (k : (Nat → Int) → Option (Int × TV × (Nat → Int) × Int × Int64 × KV × Int × TV × TV × TV × TV × (Nat → Int))) : Nat → (Nat → Int) → Option (Int × TV × (Nat → Int) × Int × Int64 × KV × Int × TV × TV × TV × TV × (Nat → Int))
  | 0, _ => none
  | n + 1, fA1 =>
  gd (ck x3) <| if x3 < 24 then (gd (0 ≤ x3 ∧ x3 < ((n_A1 : Nat) : Int)) <| k ((up fA1 ((x3).toNat) x2))) else (k (fA1))
def f_Lw_isInserted (n_A1 : Nat) (T : TV) (c_pool : Nat → Int) (c_left : Int) (c_treated : Int64) (K : KV) (c_count : Int) (S0 : TV) (S1 : TV) (S2 : TV) (S3 : TV) (fA1 : Nat → Int) (x2 : Int) : Option (Int × TV × (Nat → Int) × Int × Int64 × KV × Int × TV × TV × TV × TV × (Nat → Int)) :=
  f_Lw_isInserted_L2 (n_A1) (fA1) (fun x3_6 => f_Lw_isInserted_L20 (n_A1) (x2) (x3_6) (fun fA1_10 => bd1 (f_Lw_corner x2 0) <| fun r_11 => bd1 (f_Lw_corner x2 1) <| fun r_14 => bd1 (f_Lw_corner x2 2) <| fun r_17 => bd1 (f_Lw_corner x2 3) <| fun r_20 => bd11 (f_Rt_insert T c_pool c_left c_treated K c_count S0 S1 S2 S3 r_11 r_14 r_17 r_20) <| fun r_23 T_24 c_pool_25 c_left_26 c_treated_27 K_28 c_count_29 S0_30 S1_31 S2_32 S3_33 => gd (ck x3_6) <| if x3_6 < 24 then (gd (ck r_23) <| if r_23 = x3_6 then (some (1, T_24, c_pool_25, c_left_26, c_treated_27, K_28, c_count_29, S0_30, S1_31, S2_32, S3_33, fA1_10)) else (some (0, T_24, c_pool_25, c_left_26, c_treated_27, K_28, c_count_29, S0_30, S1_31, S2_32, S3_33, fA1_10))) else (gd (ck r_23) <| if r_23 = (-3) then (some (1, T_24, c_pool_25, c_left_26, c_treated_27, K_28, c_count_29, S0_30, S1_31, S2_32, S3_33, fA1_10)) else (some (0, T_24, c_pool_25, c_left_26, c_treated_27, K_28, c_count_29, S0_30, S1_31, S2_32, S3_33, fA1_10)))) FU (fA1)) FU (0)
abbrev rm_Lw_isInserted : Room := ({ frames := 7, cells := 0, slots := 0, locals := 179 } : Room)
def f_Lw_isTyped (c_characters : Nat → Int) (c_length : Int) (x1 : Int) : Option (Int × (Nat → Int) × Int) :=
  gd (ck x1) <| if x1 < 10 then (gd (ck x1 ∧ (0 : Int) < 10 ∧ (10 : Int) ≤ 2147483647) <| bd3 (f_Rt_append c_characters c_length (48 + (Int.tmod x1 10))) <| fun r_4 c_characters_5 c_length_6 => gd (ck r_4) <| if 0 < r_4 then (some (1, c_characters_5, c_length_6)) else (some (0, c_characters_5, c_length_6))) else (gd (ck x1 ∧ (0 : Int) < 10 ∧ (10 : Int) ≤ 2147483647) <| bd3 (f_Rt_append c_characters c_length (48 + (Int.tdiv x1 10))) <| fun r_12 c_characters_13 c_length_14 => gd (ck r_12) <| if 0 < r_12 then (gd (ck x1 ∧ (0 : Int) < 10 ∧ (10 : Int) ≤ 2147483647) <| bd3 (f_Rt_append c_characters_13 c_length_14 (48 + (Int.tmod x1 10))) <| fun r_20 c_characters_21 c_length_22 => gd (ck r_20) <| if 0 < r_20 then (some (1, c_characters_21, c_length_22)) else (some (0, c_characters_21, c_length_22))) else (some (0, c_characters_13, c_length_14)))
abbrev rm_Lw_isTyped : Room := ({ frames := 3, cells := 0, slots := 0, locals := 64 } : Room)
def f_Lw_isRead_L0 (k : Int → Int → Option (Int × TV × (Nat → Int) × Int × Int64 × KV × (Nat → Int) × Int × (Nat → Int) × Int × Int × Int × Int × Int × TV × TV × TV × TV × (Nat → Int))) : Nat → Int → Int → Option (Int × TV × (Nat → Int) × Int × Int64 × KV × (Nat → Int) × Int × (Nat → Int) × Int × Int × Int × Int × Int × TV × TV × TV × TV × (Nat → Int))
  | 0, _, _ => none
  | n + 1, x4, c_length =>
  bd2 (f_Rt_clearText c_length) <| fun r_1 c_length_2 => gd (ck r_1) <| if r_1 < 0 then (k (0) (c_length_2)) else (k (1) (c_length_2))
def f_Lw_isRead_L24 (x2 : Int) (x3 : Int) (x5 : Int) (k : Int → (Nat → Int) → Int → Option (Int × TV × (Nat → Int) × Int × Int64 × KV × (Nat → Int) × Int × (Nat → Int) × Int × Int × Int × Int × Int × TV × TV × TV × TV × (Nat → Int))) : Nat → Int → (Nat → Int) → Int → Option (Int × TV × (Nat → Int) × Int × Int64 × KV × (Nat → Int) × Int × (Nat → Int) × Int × Int × Int × Int × Int × TV × TV × TV × TV × (Nat → Int))
  | 0, _, _, _ => none
  | n + 1, x4, c_characters, c_length =>
  gd (ck x4) <| if x4 = 0 then (k (0) (c_characters) (c_length)) else (gd (ck x5) <| if x5 < 4 then (gd (ck x5 ∧ (0 : Int) < 4 ∧ (4 : Int) ≤ 2147483647) <| bd1 (f_Lw_corner x2 (Int.tmod x5 4)) <| fun r_43 => bd3 (f_Lw_isTyped c_characters c_length r_43) <| fun r_46 c_characters_47 c_length_48 => gd (ck r_46) <| if r_46 = 0 then (k (0) (c_characters_47) (c_length_48)) else (if x5 = 7 then (k (1) (c_characters_47) (c_length_48)) else (if x5 = 3 then (bd3 (f_Rt_append c_characters_47 c_length_48 59) <| fun r_62 c_characters_63 c_length_64 => gd (ck r_62) <| if 0 < r_62 then (k (1) (c_characters_63) (c_length_64)) else (k (0) (c_characters_63) (c_length_64))) else (bd3 (f_Rt_append c_characters_47 c_length_48 44) <| fun r_55 c_characters_56 c_length_57 => gd (ck r_55) <| if 0 < r_55 then (k (1) (c_characters_56) (c_length_57)) else (k (0) (c_characters_56) (c_length_57)))))) else (gd (ck x5 ∧ (0 : Int) < 4 ∧ (4 : Int) ≤ 2147483647) <| bd1 (f_Lw_corner x3 (Int.tmod x5 4)) <| fun r_16 => bd3 (f_Lw_isTyped c_characters c_length r_16) <| fun r_19 c_characters_20 c_length_21 => gd (ck r_19) <| if r_19 = 0 then (k (0) (c_characters_20) (c_length_21)) else (if x5 = 7 then (k (1) (c_characters_20) (c_length_21)) else (if x5 = 3 then (bd3 (f_Rt_append c_characters_20 c_length_21 59) <| fun r_35 c_characters_36 c_length_37 => gd (ck r_35) <| if 0 < r_35 then (k (1) (c_characters_36) (c_length_37)) else (k (0) (c_characters_36) (c_length_37))) else (bd3 (f_Rt_append c_characters_20 c_length_21 44) <| fun r_28 c_characters_29 c_length_30 => gd (ck r_28) <| if 0 < r_28 then (k (1) (c_characters_29) (c_length_30)) else (k (0) (c_characters_29) (c_length_30)))))))
def f_Lw_isRead_L17 (x2 : Int) (x3 : Int) (k : Int → Int → (Nat → Int) → Int → Option (Int × TV × (Nat → Int) × Int × Int64 × KV × (Nat → Int) × Int × (Nat → Int) × Int × Int × Int × Int × Int × TV × TV × TV × TV × (Nat → Int))) : Nat → Int → Int → (Nat → Int) → Int → Option (Int × TV × (Nat → Int) × Int × Int64 × KV × (Nat → Int) × Int × (Nat → Int) × Int × Int × Int × Int × Int × TV × TV × TV × TV × (Nat → Int))
  | 0, _, _, _, _ => none
  | n + 1, x4, x5, c_characters, c_length =>
  gd (ck x5) <| if x5 < 8 then (f_Lw_isRead_L24 (x2) (x3) (x5) (fun x4_69 c_characters_70 c_length_71 => f_Lw_isRead_L17 x2 x3 k n (x4_69) ((x5 + 1)) (c_characters_70) (c_length_71)) FU (x4) (c_characters) (c_length)) else (k (x4) (x5) (c_characters) (c_length))
def f_Lw_isRead_L119 (n_A1 : Nat) (fA1 : Nat → Int) (k : Int → Option (Int × TV × (Nat → Int) × Int × Int64 × KV × (Nat → Int) × Int × (Nat → Int) × Int × Int × Int × Int × Int × TV × TV × TV × TV × (Nat → Int))) : Nat → Int → Option (Int × TV × (Nat → Int) × Int × Int64 × KV × (Nat → Int) × Int × (Nat → Int) × Int × Int × Int × Int × Int × TV × TV × TV × TV × (Nat → Int))
  | 0, _ => none
  | n + 1, x7 =>
  gd (0 ≤ x7 ∧ x7 < ((n_A1 : Nat) : Int)) <| gd (ck x7) <| gd (ck (fA1 (x7).toNat)) <| if (fA1 (x7).toNat) < 0 then (k (x7)) else (f_Lw_isRead_L119 n_A1 fA1 k n ((x7 + 1)))
def f_Lw_isRead_L132 (n_A1 : Nat) (x2 : Int) (x3 : Int) (x6 : Int) (x7 : Int) (k : (Nat → Int) → Option (Int × TV × (Nat → Int) × Int × Int64 × KV × (Nat → Int) × Int × (Nat → Int) × Int × Int × Int × Int × Int × TV × TV × TV × TV × (Nat → Int))) : Nat → (Nat → Int) → Option (Int × TV × (Nat → Int) × Int × Int64 × KV × (Nat → Int) × Int × (Nat → Int) × Int × Int × Int × Int × Int × TV × TV × TV × TV × (Nat → Int))
  | 0, _ => none
  | n + 1, fA1 =>
  gd (ck x6) <| if x6 = 0 then (gd (0 ≤ x7 ∧ x7 < ((n_A1 : Nat) : Int)) <| gd (ck x7) <| k ((up fA1 ((x7).toNat) x2))) else (gd (0 ≤ x7 ∧ x7 < ((n_A1 : Nat) : Int)) <| gd (ck x7) <| k ((up fA1 ((x7).toNat) x3)))
def f_Lw_isRead_L103 (n_A1 : Nat) (x2 : Int) (x3 : Int) (x5 : Int) (k : Int → (Nat → Int) → Option (Int × TV × (Nat → Int) × Int × Int64 × KV × (Nat → Int) × Int × (Nat → Int) × Int × Int × Int × Int × Int × TV × TV × TV × TV × (Nat → Int))) : Nat → Int → (Nat → Int) → Option (Int × TV × (Nat → Int) × Int × Int64 × KV × (Nat → Int) × Int × (Nat → Int) × Int × Int × Int × Int × Int × TV × TV × TV × TV × (Nat → Int))
  | 0, _, _ => none
  | n + 1, x6, fA1 =>
  gd (ck x6) <| if x6 < 2 then (gd (ck x5) <| if x5 < 23 then (f_Lw_isRead_L119 (n_A1) (fA1) (fun x7_87 => f_Lw_isRead_L132 (n_A1) (x2) (x3) (x6) (x7_87) (fun fA1_94 => f_Lw_isRead_L103 n_A1 x2 x3 x5 k n ((x6 + 1)) (fA1_94)) FU (fA1)) FU (0)) else (k (x6) (fA1))) else (k (x6) (fA1))
def f_Lw_isRead (n_A1 : Nat) (T : TV) (c_pool : Nat → Int) (c_left : Int) (c_treated : Int64) (K : KV) (c_characters : Nat → Int) (c_length : Int) (c_parts : Nat → Int) (c_rectangles : Int) (c_part : Int) (c_digits : Int) (c_value : Int) (c_count : Int) (S0 : TV) (S1 : TV) (S2 : TV) (S3 : TV) (fA1 : Nat → Int) (x2 : Int) (x3 : Int) : Option (Int × TV × (Nat → Int) × Int × Int64 × KV × (Nat → Int) × Int × (Nat → Int) × Int × Int × Int × Int × Int × TV × TV × TV × TV × (Nat → Int)) :=
  f_Lw_isRead_L0 (fun x4_7 c_length_8 => f_Lw_isRead_L17 (x2) (x3) (fun x4_72 x5_73 c_characters_74 c_length_75 => bd1 (f_Lw_many n_A1 fA1) <| fun r_76 => f_Lw_isRead_L103 (n_A1) (x2) (x3) (r_76) (fun x6_95 fA1_96 => gd (ck x4_72) <| if x4_72 = 0 then (some (0, T, c_pool, c_left, c_treated, K, c_characters_74, c_length_75, c_parts, c_rectangles, c_part, c_digits, c_value, c_count, S0, S1, S2, S3, fA1_96)) else (bd6 (f_Rt_fault c_characters_74 c_length_75 c_parts) <| fun r_99 c_parts_100 c_rectangles_101 c_part_102 c_digits_103 c_value_104 => gd (ck r_99) <| if r_99 = (-5) then (bd16 (f_Rt_read T c_pool c_left c_treated K c_characters_74 c_length_75 c_parts_100 c_count S0 S1 S2 S3) <| fun r_109 T_110 c_pool_111 c_left_112 c_treated_113 K_114 c_parts_115 c_rectangles_116 c_part_117 c_digits_118 c_value_119 c_count_120 S0_121 S1_122 S2_123 S3_124 => gd (ck r_76) <| if r_76 < 23 then (gd (ck r_109) <| if r_109 = 2 then (some (1, T_110, c_pool_111, c_left_112, c_treated_113, K_114, c_characters_74, c_length_75, c_parts_115, c_rectangles_116, c_part_117, c_digits_118, c_value_119, c_count_120, S0_121, S1_122, S2_123, S3_124, fA1_96)) else (some (0, T_110, c_pool_111, c_left_112, c_treated_113, K_114, c_characters_74, c_length_75, c_parts_115, c_rectangles_116, c_part_117, c_digits_118, c_value_119, c_count_120, S0_121, S1_122, S2_123, S3_124, fA1_96))) else (gd (ck r_109) <| if r_109 = (-3) then (some (1, T_110, c_pool_111, c_left_112, c_treated_113, K_114, c_characters_74, c_length_75, c_parts_115, c_rectangles_116, c_part_117, c_digits_118, c_value_119, c_count_120, S0_121, S1_122, S2_123, S3_124, fA1_96)) else (some (0, T_110, c_pool_111, c_left_112, c_treated_113, K_114, c_characters_74, c_length_75, c_parts_115, c_rectangles_116, c_part_117, c_digits_118, c_value_119, c_count_120, S0_121, S1_122, S2_123, S3_124, fA1_96)))) else (some (0, T, c_pool, c_left, c_treated, K, c_characters_74, c_length_75, c_parts_100, c_rectangles_101, c_part_102, c_digits_103, c_value_104, c_count, S0, S1, S2, S3, fA1_96)))) FU (0) (fA1)) FU (x4_7) (0) (c_characters) (c_length_8)) FU (0) (c_length)
abbrev rm_Lw_isRead : Room := ({ frames := 7, cells := 0, slots := 0, locals := 178 } : Room)
def f_Lw_isActed_L153 (x2 : Int) (x3 : Int) (k : Int → Option (Int × TV × (Nat → Int) × Int × (Nat → Int) × Int × Int64 × KV × KV × (Nat → Int) × KV × (Nat → Int) × Int × (Nat → Int) × Int × Int × Int × Int × Int × TV × TV × TV × TV × (Nat → Int))) : Nat → Int → Option (Int × TV × (Nat → Int) × Int × (Nat → Int) × Int × Int64 × KV × KV × (Nat → Int) × KV × (Nat → Int) × Int × (Nat → Int) × Int × Int × Int × Int × Int × TV × TV × TV × TV × (Nat → Int))
  | 0, _ => none
  | n + 1, x5 =>
  gd (ck x2) <| if x2 = 14 then (gd (ck x3 ∧ (0 : Int) < 3 ∧ (3 : Int) ≤ 2147483647) <| k ((3 + (Int.tmod x3 3)))) else (gd (ck x3 ∧ (0 : Int) < 2 ∧ (2 : Int) ≤ 2147483647) <| k ((Int.tmod x3 2)))
def f_Lw_isActed_L28 (n_A1 : Nat) (fA1 : Nat → Int) (x4 : Int) (k : Int → Option (Int × TV × (Nat → Int) × Int × (Nat → Int) × Int × Int64 × KV × KV × (Nat → Int) × KV × (Nat → Int) × Int × (Nat → Int) × Int × Int × Int × Int × Int × TV × TV × TV × TV × (Nat → Int))) : Nat → Int → Option (Int × TV × (Nat → Int) × Int × (Nat → Int) × Int × Int64 × KV × KV × (Nat → Int) × KV × (Nat → Int) × Int × (Nat → Int) × Int × Int × Int × Int × Int × TV × TV × TV × TV × (Nat → Int))
  | 0, _ => none
  | n + 1, x5 =>
  gd (ck x4) <| if x4 < 24 then (if x4 < 24 then (gd (0 ≤ x4 ∧ x4 < ((n_A1 : Nat) : Int)) <| gd (ck (fA1 (x4).toNat)) <| if (fA1 (x4).toNat) < 0 then (k (0)) else (k (1))) else (gd ((0 : Int) ≤ 0 ∧ 0 < ((n_A1 : Nat) : Int)) <| gd (ck (fA1 0)) <| if (fA1 0) < 0 then (k (0)) else (k (1)))) else (k (0))
def f_Lw_isActed_L60 (n_A1 : Nat) (x4 : Int) (x5 : Int) (k : (Nat → Int) → Option (Int × TV × (Nat → Int) × Int × (Nat → Int) × Int × Int64 × KV × KV × (Nat → Int) × KV × (Nat → Int) × Int × (Nat → Int) × Int × Int × Int × Int × Int × TV × TV × TV × TV × (Nat → Int))) : Nat → (Nat → Int) → Option (Int × TV × (Nat → Int) × Int × (Nat → Int) × Int × Int64 × KV × KV × (Nat → Int) × KV × (Nat → Int) × Int × (Nat → Int) × Int × Int × Int × Int × Int × TV × TV × TV × TV × (Nat → Int))
  | 0, _ => none
  | n + 1, fA1 =>
  gd (ck x5) <| if x5 = 0 then (k (fA1)) else (gd (0 ≤ x4 ∧ x4 < ((n_A1 : Nat) : Int)) <| gd (ck x4) <| k ((up fA1 ((x4).toNat) (-1))))
def f_Lw_isActed (n_A1 : Nat) (T : TV) (c_kept : Nat → Int) (c_keptCount : Int) (c_pool : Nat → Int) (c_left : Int) (c_treated : Int64) (LB : KV) (LN : KV) (c_row : Nat → Int) (K : KV) (c_characters : Nat → Int) (c_length : Int) (c_parts : Nat → Int) (c_rectangles : Int) (c_part : Int) (c_digits : Int) (c_value : Int) (c_count : Int) (S0 : TV) (S1 : TV) (S2 : TV) (S3 : TV) (fA1 : Nat → Int) (x2 : Int) (x3 : Int) : Option (Int × TV × (Nat → Int) × Int × (Nat → Int) × Int × Int64 × KV × KV × (Nat → Int) × KV × (Nat → Int) × Int × (Nat → Int) × Int × Int × Int × Int × Int × TV × TV × TV × TV × (Nat → Int)) :=
  gd (ck x2) <| if x2 < 9 then (bd1 (f_Lw_corners x3) <| fun r_125 => bd12 (f_Lw_isInserted n_A1 T c_pool c_left c_treated K c_count S0 S1 S2 S3 fA1 r_125) <| fun r_128 T_129 c_pool_130 c_left_131 c_treated_132 K_133 c_count_134 S0_135 S1_136 S2_137 S3_138 c_f_139 => gd (r_128 = 0 ∨ r_128 = 1) <| some (r_128, T_129, c_kept, c_keptCount, c_pool_130, c_left_131, c_treated_132, LB, LN, c_row, K_133, c_characters, c_length, c_parts, c_rectangles, c_part, c_digits, c_value, c_count_134, S0_135, S1_136, S2_137, S3_138, c_f_139)) else (if x2 < 12 then (gd (ck x3 ∧ (0 : Int) < 25 ∧ (25 : Int) ≤ 2147483647) <| f_Lw_isActed_L28 (n_A1) (fA1) ((Int.tmod x3 25)) (fun x5_91 => f_Lw_isActed_L60 (n_A1) ((Int.tmod x3 25)) (x5_91) (fun fA1_96 => bd15 (f_Rt_remove T c_kept c_keptCount c_pool c_left c_treated LB LN K c_count S0 S1 S2 S3 (Int.tmod x3 25)) <| fun r_97 T_98 c_kept_99 c_keptCount_100 c_pool_101 c_left_102 c_treated_103 LB_104 LN_105 K_106 c_count_107 S0_108 S1_109 S2_110 S3_111 => gd (ck x5_91) <| if x5_91 = 0 then (gd (ck r_97) <| if r_97 = (-1) then (some (1, T_98, c_kept_99, c_keptCount_100, c_pool_101, c_left_102, c_treated_103, LB_104, LN_105, c_row, K_106, c_characters, c_length, c_parts, c_rectangles, c_part, c_digits, c_value, c_count_107, S0_108, S1_109, S2_110, S3_111, fA1_96)) else (some (0, T_98, c_kept_99, c_keptCount_100, c_pool_101, c_left_102, c_treated_103, LB_104, LN_105, c_row, K_106, c_characters, c_length, c_parts, c_rectangles, c_part, c_digits, c_value, c_count_107, S0_108, S1_109, S2_110, S3_111, fA1_96))) else (bd1 (f_Lw_many n_A1 fA1_96) <| fun r_119 => gd (ck r_97) <| gd (ck r_119) <| if r_97 = r_119 then (some (1, T_98, c_kept_99, c_keptCount_100, c_pool_101, c_left_102, c_treated_103, LB_104, LN_105, c_row, K_106, c_characters, c_length, c_parts, c_rectangles, c_part, c_digits, c_value, c_count_107, S0_108, S1_109, S2_110, S3_111, fA1_96)) else (some (0, T_98, c_kept_99, c_keptCount_100, c_pool_101, c_left_102, c_treated_103, LB_104, LN_105, c_row, K_106, c_characters, c_length, c_parts, c_rectangles, c_part, c_digits, c_value, c_count_107, S0_108, S1_109, S2_110, S3_111, fA1_96)))) FU (fA1)) FU (0)) else (if x2 = 12 then (bd9 (f_Rt_pack T c_row K c_count S0 S1 S2 S3) <| fun r_63 T_64 c_row_65 K_66 c_count_67 S0_68 S1_69 S2_70 S3_71 => bd1 (f_Rt_nodes K_66) <| fun r_75 => gd (ck r_63) <| gd (ck r_75) <| if r_63 = r_75 then (some (1, T_64, c_kept, c_keptCount, c_pool, c_left, c_treated, LB, LN, c_row_65, K_66, c_characters, c_length, c_parts, c_rectangles, c_part, c_digits, c_value, c_count_67, S0_68, S1_69, S2_70, S3_71, fA1)) else (some (0, T_64, c_kept, c_keptCount, c_pool, c_left, c_treated, LB, LN, c_row_65, K_66, c_characters, c_length, c_parts, c_rectangles, c_part, c_digits, c_value, c_count_67, S0_68, S1_69, S2_70, S3_71, fA1))) else (if x2 = 13 then (bd1 (f_Lw_corners x3) <| fun r_33 => gd (ck x3 ∧ (0 : Int) < 3 ∧ (3 : Int) ≤ 2147483647) <| bd1 (f_Lw_corners (Int.tdiv x3 3)) <| fun r_37 => bd19 (f_Lw_isRead n_A1 T c_pool c_left c_treated K c_characters c_length c_parts c_rectangles c_part c_digits c_value c_count S0 S1 S2 S3 fA1 r_33 r_37) <| fun r_40 T_41 c_pool_42 c_left_43 c_treated_44 K_45 c_characters_46 c_length_47 c_parts_48 c_rectangles_49 c_part_50 c_digits_51 c_value_52 c_count_53 S0_54 S1_55 S2_56 S3_57 c_f_58 => gd (r_40 = 0 ∨ r_40 = 1) <| some (r_40, T_41, c_kept, c_keptCount, c_pool_42, c_left_43, c_treated_44, LB, LN, c_row, K_45, c_characters_46, c_length_47, c_parts_48, c_rectangles_49, c_part_50, c_digits_51, c_value_52, c_count_53, S0_54, S1_55, S2_56, S3_57, c_f_58)) else (bd1 (f_Rt_setting T (x2 - 14)) <| fun r_6 => f_Lw_isActed_L153 (x2) (x3) (fun x5_13 => bd7 (f_Rt_setSetting T c_count S0 S1 S2 S3 (x2 - 14) x5_13) <| fun r_14 T_15 c_count_16 S0_17 S1_18 S2_19 S3_20 => gd (ck r_14) <| gd (ck r_6) <| if r_14 = r_6 then (bd1 (f_Rt_setting T_15 (x2 - 14)) <| fun r_27 => gd (ck r_27) <| gd (ck x5_13) <| if r_27 = x5_13 then (some (1, T_15, c_kept, c_keptCount, c_pool, c_left, c_treated, LB, LN, c_row, K, c_characters, c_length, c_parts, c_rectangles, c_part, c_digits, c_value, c_count_16, S0_17, S1_18, S2_19, S3_20, fA1)) else (some (0, T_15, c_kept, c_keptCount, c_pool, c_left, c_treated, LB, LN, c_row, K, c_characters, c_length, c_parts, c_rectangles, c_part, c_digits, c_value, c_count_16, S0_17, S1_18, S2_19, S3_20, fA1))) else (some (0, T_15, c_kept, c_keptCount, c_pool, c_left, c_treated, LB, LN, c_row, K, c_characters, c_length, c_parts, c_rectangles, c_part, c_digits, c_value, c_count_16, S0_17, S1_18, S2_19, S3_20, fA1))) FU (0)))))
abbrev rm_Lw_isActed : Room := ({ frames := 8, cells := 0, slots := 0, locals := 205 } : Room)
