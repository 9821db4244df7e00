/-! what the law holds at its first turn -/
theorem ini_ok : ∃ (lv1 lv2 ho1 : Nat → Int) (K1 : KV), f_J_fill_53178 157 (fun _ => 0) (-2) = some lv1 ∧ f_Rt_put 157 lv1 24 0 = some lv2 ∧ f_Rt_put 157 (fun _ => 0) 24 (-1) = some ho1 ∧ f_Rt_numberNodes (lv2, ho1, (fun _ => 0), (fun _ => 0), (fun _ => 0), 157, 24, 4, 1, 0, 0) ((fun _ => 0), (fun _ => 0), 0, 157) = some K1 ∧ kLen K1 = 157 ∧ (∀ bx : Nat → Int, (∀ k, k < 24 → bx k = -1) → LC (lv2, ho1, (fun _ => 0), (fun _ => 0), (fun _ => 0), 157, 24, 4, 1, 0, 0) ((fun _ => 0), (fun _ => 0), 0, 157) ((fun _ => 0), (fun _ => 0), 0, 157) K1 0 0 (lv2, ho1, (fun _ => 0), (fun _ => 0), (fun _ => 0), 157, 24, 4, 1, 0, 0) (lv2, ho1, (fun _ => 0), (fun _ => 0), (fun _ => 0), 157, 24, 4, 1, 0, 0) (lv2, ho1, (fun _ => 0), (fun _ => 0), (fun _ => 0), 157, 24, 4, 1, 0, 0) (lv2, ho1, (fun _ => 0), (fun _ => 0), (fun _ => 0), 157, 24, 4, 1, 0, 0) bx) ∧ Cw 0 (lv2, ho1, (fun _ => 0), (fun _ => 0), (fun _ => 0), 157, 24, 4, 1, 0, 0) := by
  obtain ⟨lv1, a1, a2⟩ := jfl_go (v := -2) (fun x2_5 fA0_6 => some (fA0_6)) 157 0 FU (fun _ => 0) rfl (by unfold FU; omega) (fun j hj => absurd hj (by omega))
  have hV := row0_ok
  have hS : St (up lv1 24 0, up (fun _ => 0) 24 (-1), (fun _ => 0), (fun _ => 0), (fun _ => 0), 157, 24, 4, 1, 0, 0) (fun _ => []) [24] 24 row0 := st0_sp (fun j hj => by
    by_cases hj24 : j = 24
    · rw [hj24, up_s]
      rfl
    · rw [up_o hj24, if_neg hj24]
      exact a2 j hj) up_s rfl rfl rfl rfl rfl rfl (fun b hb => ⟨⟨(hV b hb).1, fun q => absurd q (by have := (hV b hb).2; omega)⟩, (hV b hb).2⟩)
  obtain ⟨K1, k1, k2⟩ := number_sp (K := ((fun _ => 0), (fun _ => 0), 0, 157)) hS rfl
  have hlen : kLen K1 = 157 := by
    have h1 := k1
    unfold f_Rt_numberNodes at h1
    obtain ⟨K2, h2, h3⟩ := bd1_e h1
    rw [← Option.some.inj h3]
    exact gather_len (K := ((fun _ => 0), (fun _ => 0), 0, 157)) hS.1.1.1.1 (Or.inr rfl) hS.1.1.1.2.1.1 hS.1.1.2.1 rfl h2
  have hW : Wr (up lv1 24 0, up (fun _ => 0) 24 (-1), (fun _ => 0), (fun _ => 0), (fun _ => 0), 157, 24, 4, 1, 0, 0) := hS.wr
  refine ⟨lv1, up lv1 24 0, up (fun _ => 0) 24 (-1), K1, a1, put_sp (x := 24) (by omega) (by omega), put_sp (x := 24) (by omega) (by omega), k1, hlen, fun bx hbx => ⟨⟨(fun _ => []), [24], 24, row0, k2, fun b hb => ⟨fun q => ?_, fun _ => hbx b hb⟩⟩, ⟨rfl, rfl⟩, ⟨(fun _ => 0), 0, ⟨hW, hW, hW, hW⟩, 0, by omega, rfl, rfl, fun q => absurd q (by omega), fun q => absurd q (by omega), fun q => absurd q (by omega), fun q => absurd q (by omega)⟩, 0, rfl, by omega⟩, ⟨?_, ?_⟩, ?_, ?_⟩
  · have := List.mem_singleton.mp q
    omega
  · show (0 : Int) ≤ 0
    omega
  · show (0 : Int) ≤ 29491200 * ((0 : Nat) : Int)
    omega
  · show (0 : Int) ≤ 0
    omega
  · show (0 : Int) ≤ 29491200 * ((0 : Nat) : Int)
    omega
