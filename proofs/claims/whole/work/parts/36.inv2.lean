variable {V : VB} {L : St} {M : St} {a : FN} {e : Nat}
theorem rmv_same {S : St} (h : ∀ k, shR k = true → S k = L k) (h20 : S 20 = L 20) {r p k : Nat} (hk : shR k = true ∨ k = 20) : rmv S r p k = rmv L r p k := by
  have e : len S r = len L r := by unfold len num; rw [h 12 rfl]
  have e14 : num S 14 (8 * r + p) = num L 14 (8 * r + p) := by unfold num; rw [h 14 rfl]
  rcases hk with hk | rfl
  · by_cases hs : isSh k = true
    · rw [rmv_sh hs, rmv_sh hs, e, h k hk]
    · have : k = 12 := by
        unfold shR at hk
        unfold isSh at hs
        simp at hk hs
        omega
      subst this
      rw [rmv_12, rmv_12, h 12 rfl]
  · rw [rmv_20, rmv_20, e14, h20]
theorem stk_sh {r n k : Nat} (h : shR k = true ∨ k = 20 ∨ k = 2) : stk L r n k = L k := by
  unfold stk
  split
  · rfl
  · refine setC_ne (fun q => ?_) (fun q => ?_) <;> (rw [q] at h; rcases h with h | h | h <;> cases h)
theorem stk_card {r n n' : Nat} (h : n' ≠ n) : stk L r n 7 n' = L 7 n' ∧ stk L r n 9 n' = L 9 n' := by
  unfold stk
  split
  · exact ⟨rfl, rfl⟩
  · rw [setC_7, setC_9, if_neg h, if_neg h]
    exact ⟨rfl, rfl⟩
theorem wfC_stk (w : wfC L) {r n : Nat} (hn : n < 24) : wfC (stk L r n) := by
  unfold stk
  split
  · exact w
  · by_cases hu : L 9 n &&& (only r ^^^ (-1)) = 0
    · rw [if_pos hu, hu]
      exact wfC_set (k := 0) w (by omega) hi_zero (fun _ => rfl)
    · rw [if_neg hu]
      exact wfC_set (k := 1) w (by omega) (hi_and (w n hn).2.1) (fun q => absurd q (by omega))
theorem gvb_rows {r p k : Nat} (h : shR k = true ∨ k = 20 ∨ k = 2) : gvb L r p k = rmv L r p k := by
  have e : rmv (gvV L r p) r p k = rmv L r p k := by
    rcases h with h | h | h
    · exact rmv_same gvV_sh (gvV_ne (by decide)) (Or.inl h)
    · exact rmv_same gvV_sh (gvV_ne (by decide)) (Or.inr h)
    · subst h
      rw [rmv_ne rfl (by decide) (by decide), rmv_ne rfl (by decide) (by decide), gvV_ne (by decide)]
  unfold gvb
  split
  · rw [stk_sh h, sp_row' _ _ _ (fun q => by rw [q] at h; rcases h with h | h | h <;> cases h), e]
  · exact e
theorem gvb_card {r p n' : Nat} (h : n' ≠ num L 14 (8 * r + p)) : gvb L r p 7 n' = L 7 n' ∧ gvb L r p 9 n' = L 9 n' := by
  have e7 : rmv (gvV L r p) r p 7 = L 7 := by rw [rmv_ne rfl (by decide) (by decide), gvV_ne (by decide)]
  have e9 : rmv (gvV L r p) r p 9 = L 9 := by rw [rmv_ne rfl (by decide) (by decide), gvV_ne (by decide)]
  unfold gvb
  split
  · rw [(stk_card h).1, (stk_card h).2, sp_row' _ _ _ (by decide), sp_row' _ _ _ (by decide), e7, e9]
    exact ⟨rfl, rfl⟩
  · rw [e7, e9]
    exact ⟨rfl, rfl⟩
theorem gvb_own {r p : Nat} : gvb L r p 7 (num L 14 (8 * r + p)) = (if (chd L r p || L 2 3 == 1) && !(L 7 (num L 14 (8 * r + p)) == 2) then (if L 9 (num L 14 (8 * r + p)) &&& (only r ^^^ (-1)) = 0 then 0 else 1) else L 7 (num L 14 (8 * r + p))) ∧ gvb L r p 9 (num L 14 (8 * r + p)) = (if (chd L r p || L 2 3 == 1) && !(L 7 (num L 14 (8 * r + p)) == 2) then L 9 (num L 14 (8 * r + p)) &&& (only r ^^^ (-1)) else L 9 (num L 14 (8 * r + p))) := by
  have e7 : rmv (gvV L r p) r p 7 = L 7 := by rw [rmv_ne rfl (by decide) (by decide), gvV_ne (by decide)]
  have e9 : rmv (gvV L r p) r p 9 = L 9 := by rw [rmv_ne rfl (by decide) (by decide), gvV_ne (by decide)]
  unfold gvb
  generalize num L 14 (8 * r + p) = n
  cases hb : (chd L r p || L 2 3 == 1)
  · simp [e7, e9]
  · rw [if_pos rfl]
    unfold stk
    rw [sp_row' _ _ _ (by decide), e7]
    by_cases h2 : L 7 n = 2
    · rw [if_pos h2, sp_row' _ _ _ (by decide), sp_row' _ _ _ (by decide), e7, e9]
      simp [h2]
    · rw [if_neg h2, setC_7, setC_9, if_pos rfl, if_pos rfl, sp_row' _ _ _ (by decide), e9]
      simp [h2]
theorem wfC_gvb (w : wfC L) {r p : Nat} (hn : num L 14 (8 * r + p) < 24) : wfC (gvb L r p) := by
  have e7 : rmv (gvV L r p) r p 7 = L 7 := by rw [rmv_ne rfl (by decide) (by decide), gvV_ne (by decide)]
  have e9 : rmv (gvV L r p) r p 9 = L 9 := by rw [rmv_ne rfl (by decide) (by decide), gvV_ne (by decide)]
  unfold gvb
  split
  · exact wfC_stk (wfC_same (by rw [sp_row' _ _ _ (by decide), e7]) (by rw [sp_row' _ _ _ (by decide), e9]) w) hn
  · exact wfC_same e7 e9 w
theorem inv_gvb (w : Inv e L) {r p : Nat} (hr : r < 16) (hp : p < len L r) (hne : num L 14 (8 * r + p) ≠ e) : Inv e (gvb L r p) := by
  obtain ⟨w1, w2, w3, w4, w5, w6, w7⟩ := id w
  have hN := ((w3 r hr).2.1 p hp).1
  have n24 : num L 14 (8 * r + p) < 24 := by have := hN.2; omega
  have hp' : plc L r (num L 14 (8 * r + p)) = p := plc_of w3 hr hp hN.1
  have hc : hasC L r (num L 14 (8 * r + p)) := hasC_of hp hN.1
  have ow := gvb_own (L := L) (r := r) (p := p)
  have cd : wfC (gvb L r p) := wfC_gvb w2 n24
  have cr : ∀ n', n' ≠ num L 14 (8 * r + p) → gvb L r p 7 n' = L 7 n' ∧ gvb L r p 9 n' = L 9 n' := fun n' h => gvb_card h
  revert ow cd cr
  have h18 : chd L r p = true ↔ L 18 (8 * r + p) = 1 := by unfold chd; simp
  have key : chd L r p = true → L 7 (num L 14 (8 * r + p)) = 3 ∧ L 9 (num L 14 (8 * r + p)) = only r := fun h => w6 _ n24 r hr _ ⟨p, hp, hN.1, rfl, h18.mp h⟩
  have key3 : L 7 (num L 14 (8 * r + p)) = 3 → chd L r p = true := fun h => h18.mpr (by
    have := own_at w3 w5 w7 hr n24 hne hc h
    rwa [hp'] at this)
  have rows : ∀ k, shR k = true ∨ k = 20 ∨ k = 2 → gvb L r p k = rmv L r (plc L r (num L 14 (8 * r + p))) k := fun k h => by rw [hp']; exact gvb_rows h
  revert key key3 rows hc n24 hne
  generalize num L 14 (8 * r + p) = n
  intro hne n24 hc key key3 rows ow cd cr
  have r2 : gvb L r p 2 = L 2 := by rw [rows 2 (Or.inr (Or.inr rfl)), rmv_ne rfl (by decide) (by decide)]
  have k03 : ¬ (0 : Int32) = 3 := by decide
  have k13 : ¬ (1 : Int32) = 3 := by decide
  have k23 : ¬ (2 : Int32) = 3 := by decide
  refine inv_after w hr n24 hc (fun k h => rows k (Or.inl h)) (rows 20 (Or.inr (Or.inl rfl))) r2 (fun n' h => (cr n' h).1) (fun n' h => (cr n' h).2) cd ?_ ?_ ?_
  · intro h3
    exfalso
    rw [ow.1] at h3
    split at h3
    · split at h3
      · exact k03 h3
      · exact k13 h3
    · rename_i hb
      have := key3 h3
      apply hb
      rw [this, h3]; rfl
  · intro r' hr' hrr v hv
    exfalso
    have h := w6 n n24 r' hr' v hv
    have h2 := (key (key3 h.1)).2
    rw [h.2] at h2
    exact hrr (only_inj hr' hr h2)
  · intro r' hr' hrr hh
    have h7 := w7 n n24 r' hr' hh
    by_cases h3 : L 7 n = 3
    · exfalso
      have h1 := own_eq w5 w7 hr' n24 hne hh h3
      have h2 := own_eq w5 w7 hr n24 hne hc h3
      rw [h1] at h2
      exact hrr (only_inj hr' hr h2)
    · by_cases hb : ((chd L r p || L 2 3 == 1) && !(L 7 n == 2)) = true
      · rw [if_pos hb, if_pos hb] at ow
        have n2 : ¬ L 7 n = 2 := by
          intro q
          rw [q] at hb
          simp at hb
        unfold calP at h7 ⊢
        rw [if_neg n2] at h7
        have g2 : ¬ gvb L r p 7 n = 2 := by rw [ow.1]; split <;> decide
        rw [if_neg g2, ow.2, b_and, h7, bt_not _ (by omega), bt_onl (by omega) (by omega), decide_eq_false hrr]
        rfl
      · rw [if_neg hb, if_neg hb] at ow
        rw [calP_same r2 ow.1 ow.2]
        exact h7
