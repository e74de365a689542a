variable {V : VB} {L : St} {M : St} {a : FN}
theorem clb_g {n i : Nat} {g : Int32} : clb L n i g = sp (sp (clb L n i 0) 29 2 (clb L n i 0 29 2 + g)) 33 n (clb L n i 0 33 n + g) := by
  by_cases hc : plc L i n < len L i
  · rw [clb_held hc, clb_held hc, add0, add0]
    have k2 : sp (sp (sp (off L i n) 29 0 (L 29 0 + 1 + 1)) 31 n (L 31 n + 1)) 39 i (L 39 i + 1) 29 2 = L 29 2 := by
      rw [sp_row' _ _ _ (by decide), sp_row' _ _ _ (by decide), sp_at, if_neg (by omega), off_ne rfl (by decide) (by decide) (by decide)]
    have k33 : sp (sp (sp (off L i n) 29 0 (L 29 0 + 1 + 1)) 31 n (L 31 n + 1)) 39 i (L 39 i + 1) 33 n = L 33 n := by
      rw [sp_row' _ _ _ (by decide), sp_row' _ _ _ (by decide), sp_row' _ _ _ (by decide), off_ne rfl (by decide) (by decide) (by decide)]
    rw [sp_idv k2, sp_idv k33, k2, k33]
  · rw [clb_free hc, clb_free hc, add0, add0]
    have k2 : sp (sp (sp L 29 0 (L 29 0 + 1)) 29 1 (L 29 1 + 1)) 41 i (L 41 i + 1) 29 2 = L 29 2 := by
      rw [sp_row' _ _ _ (by decide), sp_at, if_neg (by omega), sp_at, if_neg (by omega)]
    have k33 : sp (sp (sp L 29 0 (L 29 0 + 1)) 29 1 (L 29 1 + 1)) 41 i (L 41 i + 1) 33 n = L 33 n := by
      rw [sp_row' _ _ _ (by decide), sp_row' _ _ _ (by decide), sp_row' _ _ _ (by decide)]
    rw [sp_idv k2, sp_idv k33, k2, k33]
theorem m_but_L {n : Nat} {m x2 g : Int32} (hn : n < 24) : ∀ (d i : Nat), i + d = 16 → ∀ f, d < f → ∀ (L : St) (a : FN), RM V a L → wfS L → wfH L → ∃ a', f_X9_callBackBut_L26 (nI n) x2 m g f (nI i) (mA M a) = some (mA M a') ∧ RM V a' (cbk n m x2 g d i L)
  | 0, i, e, f + 1, _, L, a, h, _, _ => by
    rw [f_X9_callBackBut_L26, if_pos (show (16 : Int32) ≤ nI i from nI_le (a := 16) (by omega) (by omega))]
    exact ⟨a, rfl, h⟩
  | d + 1, i, e, f + 1, hf, L, a, h, w, wh => by
    have hi : i < 16 := by omega
    have ih := fun b hb => m_but_L hn (m := m) (x2 := x2) (g := g) d (i + 1) (by omega) f (by omega) (cbs L n m x2 g i) b hb (wf_cbs w wh hi hn).1 (wf_cbs w wh hi hn).2
    rw [f_X9_callBackBut_L26, if_neg (show ¬ (16 : Int32) ≤ nI i from nI_ge (b := 16) (by omega) (by omega)), jn_e, has_bt (by omega), cbk]
    dsimp only
    rw [nI_1]
    by_cases h1 : nI i = x2
    · have e1 : cbs L n m x2 g i = L := if_pos h1
      rw [if_pos h1]
      rw [e1] at ih ⊢
      exact ih a h
    · rw [if_neg h1]
      by_cases h2 : bt m i = true
      · have e1 : cbs L n m x2 g i = clb L n i g := by unfold cbs; rw [if_neg h1, if_pos h2]
        obtain ⟨a1, q1, q2⟩ := m_callBack (M := M) h w hi hn
        have g1 := rm_add (x := g) q2 (k := 29) (j := 2) (by decide) (by decide) rfl
        have g2 := rm_add (x := g) g1 (k := 33) (j := n) (by decide) (show n < 24 from hn) rfl
        rw [sp_row' _ _ _ (show 33 ≠ 29 by decide), ← clb_g] at g2
        rw [if_pos h2, if_neg (by decide), q1, bd_some, ix_6, ix_6, cl_6, mA_1, mA_sp, bnd_e, ofN_4 hn, bd_some, layN_4 hn, bd_some]
        rw [e1] at ih ⊢
        exact ih _ g2
      · have e1 : cbs L n m x2 g i = L := by unfold cbs; rw [if_neg h1, if_neg h2]
        rw [if_neg h2, if_pos rfl]
        rw [e1] at ih ⊢
        exact ih a h
