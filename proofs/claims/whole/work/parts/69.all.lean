/-! ===== at the start, and all calls ===== -/
theorem lb_2 : lbS 2 0 = nI 2 ∧ lbS 2 1 = nI 4 ∧ lbS 2 2 = nI 3 ∧ lbS 2 3 = nI 0 := ⟨rfl, rfl, rfl, rfl⟩
theorem lb_o {k : Nat} (h : k ≠ 2) (j : Nat) : lbS k j = 0 := by
  unfold lbS
  rw [if_neg h]
theorem g0_lo {i : Nat} (h : 2 < i) : G0 1 1 i = 0 := by
  show upd (upd (upd (fun _ => 0) 0 2) 1 4) 2 3 i = 0
  rw [pk_un (by omega), pk_un (by omega), pk_un (by omega)]
theorem sim_0 : Sim (G0 1 1) (G0 2) := by
  obtain ⟨s0, s1, s2, s3⟩ := lb_2
  have w : Inv 24 lbS := by
    refine inv_fresh ⟨isN_of (by omega) (by omega) s0, isN_of (by omega) (by omega) s1, ?_, isN_of (by omega) (by omega) s2, ?_, isN_of (by omega) (by omega) s3⟩ (fun n _ => lb_o (by decide) n) (fun n _ => lb_o (by decide) n) (fun n _ => lb_o (by decide) n) (fun n _ => lb_o (by decide) n)
    · rw [nI_len (x := 4) (by omega) s1]; omega
    · rw [nI_len (x := 3) (by omega) s2]; omega
  refine ⟨⟨fun k j hj _ _ => ?_, fun _ _ => rfl⟩, w, ⟨0, 0, by omega, by omega, lb_o (by decide) 3, lb_o (by decide) 4, g0_lo (by omega), fun k hk => absurd hk (Nat.not_lt_zero k)⟩⟩
  show G0 1 1 (pos k j) = lbS k j
  by_cases h2 : k = 2
  · subst h2
    have hj' : j < 4 := hj
    rcases (show j = 0 ∨ j = 1 ∨ j = 2 ∨ j = 3 by omega) with rfl | rfl | rfl | rfl <;> rfl
  · rw [lb_o h2, g0_lo]
    rcases rown_in hj with rfl | rfl | rfl | rfl | rfl | rfl | rfl | rfl | rfl | rfl | rfl | rfl | rfl | rfl | rfl
    · exact absurd rfl h2
    all_goals (simp only [pos]; omega)
theorem rel_0 : Rel G0 := by
  refine ⟨sim_0, ⟨0, 0, by omega, by omega, rfl, rfl, rfl, rfl, fun i hi => absurd hi (Nat.not_lt_zero i)⟩, fun s _ => ⟨⟨fun _ => rfl, fun _ => rfl⟩, fun q => absurd rfl q⟩, ⟨0, by omega, rfl, rfl, fun i hi => absurd hi (Nat.not_lt_zero i)⟩⟩
theorem p2_fin : P2ok Rel := fun G h => ⟨w_set h, w_read h, w_change h, w_putBack h, w_recall h, w_ofNote h, w_onShelf h, w_ofReader h, w_count h, w_costR h, w_costC h, w_cheapest h, w_loudest h, w_with h, w_best h, w_account h, w_put h, w_wipe h, w_fault h, w_carry h, w_undo h, w_save h, w_restore h⟩
