variable {V : VB} {L : St} {M : St} {a : FN}
/-! ===== what is left after calling back ===== -/
theorem cp_clb (w : wfS L) {n i : Nat} {g : Int32} (hi : i < 16) (hn : n < 24) {r' n' : Nat} {v c : Int32} (hr' : r' < 16) (hn' : n' < 24) : cp (clb L n i g) r' n' v c ↔ cp L r' n' v c ∧ ¬ (r' = i ∧ n' = n) := by
  by_cases h : plc L i n < len L i
  · have e : ∀ k, shR k = true → clb L n i g k = rmv L i (plc L i n) k := fun k hk => by rw [clb_rows (Or.inl hk), if_pos h]
    exact (cp_same e).trans (cp_rmv w hi hn h hr' hn')
  · have e : ∀ k, shR k = true → clb L n i g k = L k := fun k hk => by rw [clb_rows (Or.inl hk), if_neg h]
    rw [cp_same e]
    refine ⟨fun q => ⟨q, fun q2 => ?_⟩, fun q => q.1⟩
    rw [q2.1, q2.2] at q
    exact h (hasC_cp.mpr ⟨v, c, q⟩)
theorem cbk_ok {n : Nat} {m x2 g : Int32} (hn : n < 24) : ∀ (d i : Nat), i + d ≤ 16 → ∀ (L : St), wfS L → wfH L → wfS (cbk n m x2 g d i L) ∧ wfH (cbk n m x2 g d i L) ∧ (∀ k, k = 2 ∨ k = 7 ∨ k = 9 → cbk n m x2 g d i L k = L k) ∧ ∀ r' n' v c, r' < 16 → n' < 24 → (cp (cbk n m x2 g d i L) r' n' v c ↔ cp L r' n' v c ∧ ¬ (n' = n ∧ i ≤ r' ∧ r' < i + d ∧ ¬ nI r' = x2 ∧ bt m r' = true))
  | 0, i, _, L, w, wh => ⟨w, wh, fun _ _ => rfl, fun r' n' v c _ _ => ⟨fun q => ⟨q, fun q2 => by omega⟩, fun q => q.1⟩⟩
  | d + 1, i, e, L, w, wh => by
    have hi : i < 16 := by omega
    obtain ⟨w1, wh1⟩ := wf_cbs (m := m) (x2 := x2) (g := g) w wh hi hn
    obtain ⟨j1, j2, j3, j4⟩ := cbk_ok hn (m := m) (x2 := x2) (g := g) d (i + 1) (by omega) (cbs L n m x2 g i) w1 wh1
    rw [cbk]
    refine ⟨j1, j2, fun k hk => ?_, fun r' n' v c hr' hn' => ?_⟩
    · rw [j3 k hk]
      unfold cbs
      split
      · rfl
      · split
        · exact clb_ne hk
        · rfl
    · rw [j4 r' n' v c hr' hn']
      have one : cp (cbs L n m x2 g i) r' n' v c ↔ cp L r' n' v c ∧ ¬ (n' = n ∧ r' = i ∧ ¬ nI r' = x2 ∧ bt m r' = true) := by
        unfold cbs
        by_cases h1 : nI i = x2
        · rw [if_pos h1]
          exact ⟨fun q => ⟨q, fun q2 => by rw [q2.2.1] at q2; exact q2.2.2.1 h1⟩, fun q => q.1⟩
        · rw [if_neg h1]
          by_cases h2 : bt m i = true
          · rw [if_pos h2, cp_clb w hi hn hr' hn']
            refine and_congr_right (fun _ => not_congr ⟨fun q => ⟨q.2, q.1, by rw [q.1]; exact ⟨h1, h2⟩⟩, fun q => ⟨q.2.1, q.1⟩⟩)
          · rw [if_neg h2]
            exact ⟨fun q => ⟨q, fun q2 => by rw [q2.2.1] at q2; exact h2 q2.2.2.2⟩, fun q => q.1⟩
      rw [one]
      constructor
      · rintro ⟨⟨q1, q2⟩, q3⟩
        refine ⟨q1, fun q => ?_⟩
        by_cases hr : r' = i
        · exact q2 ⟨q.1, hr, q.2.2.2⟩
        · exact q3 ⟨q.1, by omega, by omega, q.2.2.2⟩
      · rintro ⟨q1, q2⟩
        exact ⟨⟨q1, fun q => q2 ⟨q.1, by omega, by omega, q.2.2⟩⟩, fun q => q2 ⟨q.1, by omega, by omega, q.2.2.2⟩⟩
