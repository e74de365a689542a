variable {V : VB} {L : St} {M : St} {a : FN} {z : Nat}
/-! ===== using a copy, asking for one, reading: the reference ===== -/
theorem lay_sp {r n k j : Nat} {v c x : Int32} (h : shR k = false) (h2 : k ≠ 20) : lay (sp L k j x) r n v c = sp (lay L r n v c) k j x := by
  have q : ∀ k', shR k' = true → k ≠ k' := fun k' h' e => by rw [e, h'] at h; cases h
  unfold lay
  rw [len_same (shR_sp h), shR_sp h 12 rfl, sp_row' L j x (show 20 ≠ k from fun q => h2 q.symm), sp_comm _ (k := k) (k' := 14) (q 14 rfl), sp_comm _ (k := k) (k' := 16) (q 16 rfl), sp_comm _ (k := k) (k' := 18) (q 18 rfl), sp_comm _ (k := k) (k' := 12) (q 12 rfl), sp_comm _ (k := k) (k' := 20) h2]
theorem usd_sp {r n k j : Nat} {v c x : Int32} (h : shR k = false) (h2 : k ≠ 20) : usd (sp L k j x) r n v c = sp (usd L r n v c) k j x := by
  unfold usd
  rw [plc_same (shR_sp h), rmv_sp h h2, lay_sp h h2]
theorem lay_twice {r n : Nat} {v c x y : Int32} : sp (sp (lay L r n v c) 16 (8 * r + len L r) x) 18 (8 * r + len L r) y = lay L r n x y := by
  unfold lay
  rw [sp_comm _ (k := 20) (k' := 16) (by decide), sp_comm _ (k := 12) (k' := 16) (by decide), sp_comm _ (k := 18) (k' := 16) (by decide), sp_sp, sp_comm _ (k := 20) (k' := 18) (by decide), sp_comm _ (k := 12) (k' := 18) (by decide), sp_sp]
theorem usd_last (w : wfS L) {r n : Nat} {v c : Int32} (hr : r < 16) (hc : hasC L r n) : usd L r n v c 16 (8 * r + (len L r - 1)) = v := by
  have e : len (rmv L r (plc L r n)) r = len L r - 1 := by rw [rmv_len (w r hr).1 hc, if_pos rfl]
  unfold usd
  rw [← e]
  exact lay_new (k := 16) rfl
theorem usd_twice (w : wfS L) {r n : Nat} {v c x y : Int32} (hr : r < 16) (hc : hasC L r n) : sp (sp (usd L r n v c) 16 (8 * r + (len L r - 1)) x) 18 (8 * r + (len L r - 1)) y = usd L r n x y := by
  have e : len (rmv L r (plc L r n)) r = len L r - 1 := by rw [rmv_len (w r hr).1 hc, if_pos rfl]
  unfold usd
  rw [← e]
  exact lay_twice
theorem m_use (h : RM V a L) (w : wfS L) {r n : Nat} (hr : r < 16) (hn : n < 24) (hc : hasC L r n) : ∃ a', f_X9_use (mA M a) (nI r) (nI (plc L r n)) = some (mA M a') ∧ RM V a' (usd L r n (L 16 (8 * r + plc L r n)) (L 18 (8 * r + plc L r n))) := by
  have hl := (w r hr).1
  have h8 : len L r ≤ 8 := hl.2
  have hp : plc L r n < len L r := hc
  have wR := (wfS_rmv w hr hc r hr).1
  have e8 : len (rmv L r (plc L r n)) r < 8 := by rw [rmv_len hl hp, if_pos rfl]; omega
  have gR := rm_rmv h hr hl hp
  unfold f_X9_use
  rw [ofC_0 hr (by omega), bd_some, ofC_1 hr (by omega), bd_some, ofC_2 hr (by omega), bd_some, m_takeOff h hr hl hp, bd_some, rm_note h hr hl hp, rm_chg h hr hl hp, hasC_at hc]
  revert gR
  generalize rmA a r (plc L r n) (len L r) = a2
  intro gR
  rw [m_layOn gR hr wR e8, bd_some]
  exact ⟨_, rfl, rm_lay gR hr hn wR e8 (fun v => rm_val h hr hl hp v)⟩
theorem m_ask {S : St} (h : RM V a S) (w : Inv z S) {r n : Nat} (hr : r < 16) (hn : n < 24) (hz : z ≤ 24) (hno : ¬ hasC S r z) : ∃ a', f_X9_ask (mA M a) (nI r) (nI n) = some (mA M a') ∧ RM V a' (lay (sp (mkr S r (len S r + 1 - num S 2 2)) 29 0 (mkr S r (len S r + 1 - num S 2 2) 29 0 + 2)) r n (mkr S r (len S r + 1 - num S 2 2) 4 n) 0) := by
  have h8 : len S r ≤ 8 := (w.2.2.1 r hr).1.2
  have hR1 := w.1.2.2.2.2.1
  obtain ⟨a1, h1, g1⟩ := m_makeRoom (M := M) h w hr hz hno
  obtain ⟨i1, i2, i3, i4, i5⟩ := mkr_ok hr hz (len S r + 1 - num S 2 2) S w hno (by omega)
  have hR2 := w.1.2.2.2.1.2
  revert g1 i1 i2
  generalize mkr S r (len S r + 1 - num S 2 2) = K
  intro g1 i1 i2
  have hl := (i1.2.2.1 r hr).1
  have e8 : len K r < 8 := by omega
  unfold f_X9_ask
  rw [h1, bd_some, ofN_0 hn, bd_some, m_layOn g1 hr hl e8, bd_some, ix_4, ix_4, cl_4, mA_1, mA_sp, bnd_e]
  refine ⟨_, rfl, ?_⟩
  have g2 := rm_lay g1 hr hn hl e8 (v := a1 (pos 4 n)) (v' := K 4 n) (c := 0) (fun v => rm_v g1 (k := 4) hn rfl v)
  have g3 := rm_add (x := 2) g2 (k := 29) (j := 0) (by decide) (by decide) rfl
  rw [lay_ne rfl (by decide) (by decide)] at g3
  rw [lay_sp rfl (by decide)]
  exact g3
theorem m_readsEnd {S : St} (g : RM V a S) (w : wfS S) {r : Nat} (hr : r < 16) (hl : 1 ≤ len S r) : bd (f_X9_ofR (mA M a) (nI r) 0) (fun y4 => bd (f_X9_ofC (mA M a) (nI r) (y4 - 1) 1) (fun y5 => some (y5, mA M a))) = some (a (pos 16 (8 * r + (len S r - 1))), mA M a) ∧ (V.1 → a (pos 16 (8 * r + (len S r - 1))) = S 16 (8 * r + (len S r - 1))) := by
  have hl' := (w r hr).1
  have h8 : len S r ≤ 8 := hl'.2
  refine ⟨?_, fun v => rm_val g hr hl' (by omega) v⟩
  rw [ofR_0 hr, bd_some, rm_len g hr hl', show nI (len S r) - 1 = nI (len S r - 1) from pk_sub (b := 1) hl, ofC_1 hr (by omega), bd_some]
theorem m_reads (h : RM V a L) (w : Inv 24 L) {r n : Nat} (hr : r < 16) (hn : n < 24) : ∃ a' v, f_X9_reads (mA M a) (nI r) (nI n) = some (v, mA M a') ∧ RM V a' (lendS L r n) ∧ (V.1 → v = lendV L r n) := by
  have w' := inv_lendS w hr hn
  unfold f_X9_reads
  rw [moreR_1 hr, bd_some]
  have g1 : RM V (upd a (pos 35 r) (a (pos 35 r) + 1)) (rd1 L r) := rm_add h (by decide) (show r < 16 from hr) rfl
  revert g1
  generalize upd a (pos 35 r) (a (pos 35 r) + 1) = a1
  intro g1
  have w1 := inv_rd1 w (r := r)
  rw [m_placeOf g1 hr (w1.2.2.1 r hr).1, plc_same rd1_sh, len_same rd1_sh, bd_some, jn_e]
  by_cases hc : plc L r n < len L r
  · have h8 : len L r ≤ 8 := (w.2.2.1 r hr).1.2
    have eS : lendS L r n = usd (rdU L r) r n (L 16 (8 * r + plc L r n)) (L 18 (8 * r + plc L r n)) := if_pos hc
    have eV : lendV L r n = L 16 (8 * r + plc L r n) := if_pos hc
    rw [if_pos hc, if_neg (nI_pos (by omega))]
    have hc1 : hasC (rd1 L r) r n := (hasC_same rd1_sh).mpr hc
    have hcU : hasC (rdU L r) r n := (hasC_same rdU_sh).mpr hc
    have wU := inv_rdU w (r := r)
    obtain ⟨a2, h2, g2⟩ := m_use (M := M) g1 w1.2.2.1 hr hn hc1
    rw [plc_same rd1_sh] at h2 g2
    rw [rd1_sh 16 rfl, rd1_sh 18 rfl] at g2
    have g3 := rm_add (x := 1) g2 (k := 37) (j := r) (by decide) hr rfl
    rw [usd_rows rfl (by decide) (by decide), ← usd_sp rfl (by decide), show rd1 L r 37 = L 37 from sp_row' _ _ _ (by decide)] at g3
    have g3' : RM V (upd a2 (pos 37 r) (a2 (pos 37 r) + 1)) (lendS L r n) := by rw [eS]; exact g3
    have el : len (lendS L r n) r = len L r := by rw [eS, usd_len wU.2.2.1 hr hcU, len_same rdU_sh]
    have ev : lendS L r n 16 (8 * r + (len (lendS L r n) r - 1)) = lendV L r n := by
      rw [el, eS, eV, ← len_same (S := rdU L r) rdU_sh r]
      exact usd_last wU.2.2.1 hr hcU
    rw [h2, bd_some, moreR_2 hr, bd_some]
    obtain ⟨q1, q2⟩ := m_readsEnd (M := M) g3' w'.2.2.1 hr (by rw [el]; omega)
    exact ⟨_, _, q1, g3', fun v => (q2 v).trans ev⟩
  · have eS : lendS L r n = rdQ (rdK L r n) r n := if_neg hc
    have eV : lendV L r n = rdK L r n 4 n := if_neg hc
    rw [if_neg hc, if_pos (by decide), ofN_1 hn, bd_some, rm_kind g1 hn, jn_e, rd1_irr 7 rfl]
    obtain ⟨b1, b2, b3⟩ := rdB_ok w hr hn hc
    obtain ⟨k1, k2, k3, k4⟩ := rdK_ok w hr hn hc
    have fin : ∀ b, RM V b (rdB L r n) → ∃ a' v, bd (f_X9_ask (mA M b) (nI r) (nI n)) (fun S8 => bd (f_X9_writeOn S8 (nI n) (nI r)) (fun S9 => bd (f_X9_ofR S9 (nI r) 0) (fun y4 => bd (f_X9_ofC S9 (nI r) (y4 - 1) 1) (fun y5 => some (y5, S9))))) = some (v, mA M a') ∧ RM V a' (lendS L r n) ∧ (V.1 → v = lendV L r n) := by
      intro b gb
      obtain ⟨a2, h2, g2⟩ := m_ask (M := M) gb b1 hr hn (by omega) (no24 b1.2.2.1 hr)
      have g2' : RM V a2 (lay (sp (rdK L r n) 29 0 (rdK L r n 29 0 + 2)) r n (rdK L r n 4 n) 0) := g2
      have e : ∀ k, shR k = true → sp (rdK L r n) 29 0 (rdK L r n 29 0 + 2) k = rdK L r n k := shR_sp rfl
      have wX : Inv 24 (sp (rdK L r n) 29 0 (rdK L r n 29 0 + 2)) := inv_sp rfl k1
      have eX : len (sp (rdK L r n) 29 0 (rdK L r n 29 0 + 2)) r < 8 := by rw [len_same e]; exact k4
      obtain ⟨a3, h3, g3⟩ := m_writeOn (M := M) g2' (r := r) (wfT_same (lay_ne rfl (by decide) (by decide)) wX.1) (wfC_same (lay_ne rfl (by decide) (by decide)) (lay_ne rfl (by decide) (by decide)) wX.2.1) hr hn
      have g3' : RM V a3 (lendS L r n) := by rw [eS]; exact g3
      have el : len (lendS L r n) r = len (sp (rdK L r n) 29 0 (rdK L r n 29 0 + 2)) r + 1 := by
        rw [eS]
        unfold rdQ
        rw [len_same wrt_sh, lay_len (wX.2.2.1 r hr).1, if_pos rfl]
      have ev : lendS L r n 16 (8 * r + (len (lendS L r n) r - 1)) = lendV L r n := by
        rw [el, eS, eV, Nat.add_sub_cancel]
        unfold rdQ
        rw [wrt_ne (by decide) (by decide)]
        exact lay_new (k := 16) rfl
      rw [h2, bd_some, h3, bd_some]
      obtain ⟨q1, q2⟩ := m_readsEnd (M := M) g3' w'.2.2.1 hr (by rw [el]; omega)
      exact ⟨_, _, q1, g3', fun v => (q2 v).trans ev⟩
    by_cases h3 : L 7 n = 3
    · have n2 : ¬ (3 : Int32) = 2 := by decide
      obtain ⟨a2, h2, g2⟩ := m_callBackBut (M := M) g1 w1 hn (nI r)
      rw [cal_rd1, rd1_irr 7 rfl, h3, if_neg n2] at g2
      rw [if_pos h3, h2, bd_some, layCard_a hn, bd_some]
      refine fin _ ?_
      unfold rdB
      rw [if_pos h3]
      exact rm_card g2 hn
    · rw [if_neg h3]
      refine fin _ ?_
      unfold rdB
      rw [if_neg h3]
      exact g1
