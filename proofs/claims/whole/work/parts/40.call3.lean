variable {V : VB} {L : St} {M : St} {a : FN}
/-! ===== calling back, the reference's side ===== -/
theorem off_eq {S : St} {i n : Nat} : rmv (gvV S i (plc S i n)) i (plc S i n) = off S i n := rfl
theorem m_callBack (h : RM V a L) (w : wfS L) {i n : Nat} (hi : i < 16) (hn : n < 24) : ∃ a', f_X9_callBack (mA M a) (nI n) (nI i) = some (mA M a') ∧ RM V a' (clb L n i 0) := by
  have hl := (w i hi).1
  have h8 : len L i ≤ 8 := hl.2
  have g1 : RM V (upd a (pos 29 0) (a (pos 29 0) + 1)) (sp L 29 0 (L 29 0 + 1)) := rm_add h (by decide) (show 0 < rowN 29 by decide) rfl
  have s1 : ∀ k, shR k = true → sp L 29 0 (L 29 0 + 1) k = L k := shR_sp rfl
  have w1 : wfS (sp L 29 0 (L 29 0 + 1)) := wfS_same s1 w
  have p1 := m_placeOf (M := M) (n := n) g1 hi (w1 i hi).1
  rw [plc_same s1, len_same s1] at p1
  unfold f_X9_callBack
  simp only [ix_4, ix_5, cl_4, cl_5, mA_1, mA_sp, bnd_e]
  have p1' : f_X9_placeOf (mA M (upd a 4 (a 4 + 1))) (nI i) (nI n) = _ := p1
  rw [p1', bd_some]
  by_cases hc : plc L i n < len L i
  · rw [if_pos hc, if_pos (nI_pos' (by omega))]
    have hp1 : plc L i n < len (sp L 29 0 (L 29 0 + 1)) i := by rw [len_same s1]; exact hc
    obtain ⟨a2, h2, g2⟩ := rm_gvV (M := M) g1 w1 hi hp1
    have h2' : f_X9_giveBack (mA M (upd a 4 (a 4 + 1))) (nI i) (nI (plc L i n)) = some (mA M a2) := h2
    have s2 : ∀ k, shR k = true → gvV (sp L 29 0 (L 29 0 + 1)) i (plc L i n) k = sp L 29 0 (L 29 0 + 1) k := gvV_sh
    have w2 := wfS_same s2 w1
    have hp2 : plc L i n < len (gvV (sp L 29 0 (L 29 0 + 1)) i (plc L i n)) i := by rw [len_same s2]; exact hp1
    have t3 := m_takeOff (M := M) g2 hi (w2 i hi).1 hp2
    have g3 := rm_rmv g2 hi (w2 i hi).1 hp2
    revert t3 g3
    generalize rmA a2 i (plc L i n) (len (gvV (sp L 29 0 (L 29 0 + 1)) i (plc L i n)) i) = a3
    intro t3 g3
    rw [gvV_sp rfl (by decide), rmv_sp rfl (by decide)] at g3
    have g3' : RM V a3 (sp (off L i n) 29 0 (L 29 0 + 1)) := g3
    have g4 := rm_add (x := 1) g3' (k := 29) (j := 0) (by decide) (by decide) rfl
    rw [sp_eq', sp_sp] at g4
    have g5 := rm_add (x := 1) g4 (k := 31) (j := n) (by decide) (show n < 24 from hn) rfl
    have g6 := rm_add (x := 1) g5 (k := 39) (j := i) (by decide) (show i < 16 from hi) rfl
    rw [h2', bd_some, t3, bd_some, mA_1, mA_sp, ofN_3 hn, bd_some, layN_3 hn, bd_some, moreR_3 hi, bd_some]
    refine ⟨_, rfl, ?_⟩
    have e : clb L n i 0 = sp (sp (sp (off L i n) 29 0 (L 29 0 + 1 + 1)) 31 n (L 31 n + 1)) 39 i (L 39 i + 1) := by
      rw [clb_held hc, add0, add0]
      have k2 : sp (sp (sp (off L i n) 29 0 (L 29 0 + 1 + 1)) 31 n (L 31 n + 1)) 39 i (L 39 i + 1) 29 2 = L 29 2 := by
        rw [sp_row' _ _ _ (by decide), sp_row' _ _ _ (by decide), sp_at, if_neg (by omega), off_ne rfl (by decide) (by decide) (by decide)]
      have k33 : sp (sp (sp (off L i n) 29 0 (L 29 0 + 1 + 1)) 31 n (L 31 n + 1)) 39 i (L 39 i + 1) 33 n = L 33 n := by
        rw [sp_row' _ _ _ (by decide), sp_row' _ _ _ (by decide), sp_row' _ _ _ (by decide), off_ne rfl (by decide) (by decide) (by decide)]
      rw [sp_idv k2, sp_idv k33]
    rw [e]
    have k31 : sp (off L i n) 29 0 (L 29 0 + 1 + 1) 31 n = L 31 n := by rw [sp_row' _ _ _ (by decide), off_ne rfl (by decide) (by decide) (by decide)]
    have k39 : sp (sp (off L i n) 29 0 (L 29 0 + 1 + 1)) 31 n (L 31 n + 1) 39 i = L 39 i := by rw [sp_row' _ _ _ (by decide), sp_row' _ _ _ (by decide), off_ne rfl (by decide) (by decide) (by decide)]
    rw [k31] at g6
    rw [k39] at g6
    exact g6
  · rw [if_neg hc, if_neg (by decide)]
    have g2 := rm_add (x := 1) g1 (k := 29) (j := 1) (by decide) (by decide) rfl
    have g3 := rm_add (x := 1) g2 (k := 41) (j := i) (by decide) (show i < 16 from hi) rfl
    rw [moreR_4 hi, bd_some]
    refine ⟨_, rfl, ?_⟩
    have e : clb L n i 0 = sp (sp (sp L 29 0 (L 29 0 + 1)) 29 1 (L 29 1 + 1)) 41 i (L 41 i + 1) := by
      rw [clb_free hc, add0, add0]
      have k2 : sp (sp (sp L 29 0 (L 29 0 + 1)) 29 1 (L 29 1 + 1)) 41 i (L 41 i + 1) 29 2 = L 29 2 := by
        rw [sp_row' _ _ _ (by decide), sp_at, if_neg (by omega), sp_at, if_neg (by omega)]
      have k33 : sp (sp (sp L 29 0 (L 29 0 + 1)) 29 1 (L 29 1 + 1)) 41 i (L 41 i + 1) 33 n = L 33 n := by
        rw [sp_row' _ _ _ (by decide), sp_row' _ _ _ (by decide), sp_row' _ _ _ (by decide)]
      rw [sp_idv k2, sp_idv k33]
    rw [e]
    have k1 : sp L 29 0 (L 29 0 + 1) 29 1 = L 29 1 := by rw [sp_at, if_neg (by omega)]
    have k41 : sp (sp L 29 0 (L 29 0 + 1)) 29 1 (L 29 1 + 1) 41 i = L 41 i := by rw [sp_row' _ _ _ (by decide), sp_row' _ _ _ (by decide)]
    rw [k1] at g3
    rw [k41] at g3
    exact g3
