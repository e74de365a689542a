variable {V : VB} {L : St} {M : St} {a : FN}
theorem only_not (r : Nat) : only r &&& (only r ^^^ (-1)) = 0 := by
  refine b_ext (fun i hi => ?_)
  rw [b_and, bt_not _ hi, b_0]
  cases bt (only r) i <;> rfl
theorem zero_and (x : Int32) : 0 &&& x = 0 := by
  refine b_ext (fun i hi => ?_)
  rw [b_and, b_0, Bool.false_and]
def stk (L : St) (r n : Nat) : St := if L 7 n = 2 then L else setC L n (if L 9 n &&& (only r ^^^ (-1)) = 0 then 0 else 1) (L 9 n &&& (only r ^^^ (-1)))
theorem kinds (hc : wfC L) {n : Nat} (hn : n < 24) : L 7 n = 0 ∨ L 7 n = 1 ∨ L 7 n = 2 ∨ L 7 n = 3 := by
  have h := (hc n hn).1
  rw [h.1]
  have : num L 7 n = 0 ∨ num L 7 n = 1 ∨ num L 7 n = 2 ∨ num L 7 n = 3 := by have := h.2; omega
  rcases this with e | e | e | e <;> rw [e]
  · exact Or.inl rfl
  · exact Or.inr (Or.inl rfl)
  · exact Or.inr (Or.inr (Or.inl rfl))
  · exact Or.inr (Or.inr (Or.inr rfl))
theorem c_strike (hc : wfC L) {r n : Nat} (hn : n < 24) (ho : L 7 n = 3 → L 9 n = only r) : f_X1_strike L (nI n) (nI r) = stk L r n := by
  unfold f_X1_strike stk
  rw [rat_nI hn (by omega), rat_nI hn (by omega), only_c, rwr_nI hn (by omega), bnd_e, bnd_e, rwr_nI hn (by omega)]
  have ex : ∀ k v, sp (sp L 9 n v) 7 n k = setC L n k v := fun k v => sp_comm L (by decide)
  rw [ex]
  rcases kinds hc hn with h | h | h | h
  · have n2 : ¬ L 7 n = 2 := by rw [h]; decide
    rw [if_neg n2, if_neg n2, (hc n hn).2.2 h, zero_and, if_pos rfl, if_pos rfl]
  · have n2 : ¬ L 7 n = 2 := by rw [h]; decide
    rw [if_neg n2, if_neg n2]
    by_cases hu : L 9 n &&& (only r ^^^ (-1)) = 0
    · rw [if_pos hu, if_pos hu]
    · rw [if_neg hu, if_neg hu]
      unfold setC
      rw [sp_idv h]
  · rw [if_pos h, if_pos h]
  · have n2 : ¬ L 7 n = 2 := by rw [h]; decide
    rw [if_neg n2, if_neg n2, ho h, only_not, if_pos rfl, if_pos rfl]
theorem m_strike (h : RM V a L) {r n : Nat} (hn : n < 24) (ho : L 7 n = 3 → L 9 n = only r) : ∃ a', f_X9_strike (mA M a) (nI n) (nI r) = some (mA M a') ∧ RM V a' (stk L r n) := by
  unfold f_X9_strike
  rw [ofN_1 hn, bd_some, rm_kind h hn, bd_some, jn_e, ofN_2 hn, bd_some, rm_names h hn]
  unfold stk
  by_cases h2 : L 7 n = 2
  · rw [if_pos h2, if_pos h2]
    exact ⟨a, rfl, h⟩
  · rw [if_neg h2, if_neg h2]
    refine ⟨_, ?_, rm_card h hn⟩
    by_cases h3 : L 7 n = 3
    · rw [if_pos h3]
      dsimp only
      rw [layCard_a hn, bd_some, ho h3, only_not]
    · rw [if_neg h3]
      dsimp only
      rw [layCard_a hn, bd_some]
      by_cases hu : L 9 n &&& (only r ^^^ (-1)) = 0
      · rw [if_pos (show L 9 n &&& ((1 : Int32) <<< (nI r &&& 31) ^^^ -1) = 0 from hu), if_pos hu]
        rfl
      · rw [if_neg (show ¬ L 9 n &&& ((1 : Int32) <<< (nI r &&& 31) ^^^ -1) = 0 from hu), if_neg hu]
        rfl
/-! ===== a copy is put back ===== -/
def chd (L : St) (r p : Nat) : Bool := L 18 (8 * r + p) == 1
def gvV (L : St) (r p : Nat) : St := if chd L r p then sp L 4 (num L 14 (8 * r + p)) (L 16 (8 * r + p)) else L
def gvb (L : St) (r p : Nat) : St := if chd L r p || L 2 3 == 1 then stk (sp (rmv (gvV L r p) r p) 29 0 (rmv (gvV L r p) r p 29 0 + 1)) r (num L 14 (8 * r + p)) else rmv (gvV L r p) r p
theorem gvV_ne {r p k : Nat} (h : k ≠ 4) : gvV L r p k = L k := by
  unfold gvV
  split
  · exact sp_row' _ _ _ h
  · rfl
theorem gvV_sh {r p : Nat} : ∀ k, shR k = true → gvV L r p k = L k := fun k h => gvV_ne (fun q => by rw [q] at h; cases h)
theorem isChd {r p : Nat} (hr : r < 16) (hp : p < 8) : f_X7_isChangedAt L (nI r) (nI p) = if chd L r p then 1 else 0 := by
  unfold f_X7_isChangedAt chd
  rw [i8p, rat_nI (by omega) (by omega)]
  by_cases h : L 18 (8 * r + p) = 1
  · rw [if_pos h, h]; rfl
  · rw [if_neg h, if_neg (by simpa using h)]
theorem rm_gvV (h : RM V a L) (w : wfS L) {r p : Nat} (hr : r < 16) (hp : p < len L r) : ∃ a', f_X9_giveBack (mA M a) (nI r) (nI p) = some (mA M a') ∧ RM V a' (gvV L r p) := by
  have hl := (w r hr).1
  have h8 : len L r ≤ 8 := hl.2
  have hn := ((w r hr).2.1 p hp).1
  unfold f_X9_giveBack gvV chd
  rw [ofC_2 hr (by omega), bd_some, ofC_0 hr (by omega), bd_some, ofC_1 hr (by omega), bd_some, rm_chg h hr hl hp, rm_note h hr hl hp, hn.1]
  by_cases hc : L 18 (8 * r + p) = 1
  · have n24 : num L 14 (8 * r + p) < 24 := by have := hn.2; omega
    rw [if_pos hc, layN_0 n24, bd_some, if_pos (by rw [hc]; rfl)]
    exact ⟨_, rfl, rm_sp h (by decide) (show _ < rowN 4 from n24) (fun hv => by
      rcases hv with hv | hv
      · exact rm_val h hr hl hp hv
      · cases hv)⟩
  · rw [if_neg hc, if_neg (by simpa using hc)]
    exact ⟨a, rfl, h⟩
theorem wfC_same {S : St} (h7 : S 7 = L 7) (h9 : S 9 = L 9) (w : wfC L) : wfC S := by
  intro n hn
  have := w n hn
  unfold isN num at this ⊢
  rw [h7, h9]
  exact this
theorem wfT_same {S : St} (h2 : S 2 = L 2) (w : wfT L) : wfT S := by
  unfold wfT isN num at w ⊢
  rw [h2]
  exact w
theorem c_giveBack (ht : wfT L) (hc : wfC L) (w : wfS L) {r p : Nat} (hr : r < 16) (hp : p < len L r) (ho : L 7 (num L 14 (8 * r + p)) = 3 → L 9 (num L 14 (8 * r + p)) = only r) : f_X3_giveBack L (nI r) (nI p) = some (if chd L r p then 1 else 0, gvb L r p) := by
  have hl := (w r hr).1
  have h8 : len L r ≤ 8 := hl.2
  have hn := ((w r hr).2.1 p hp).1
  have n24 : num L 14 (8 * r + p) < 24 := by have := hn.2; omega
  have w1 : wfS (gvV L r p) := wfS_same gvV_sh w
  have e1 : len (gvV L r p) r = len L r := by unfold len num; rw [gvV_ne (by decide)]
  have e2 : isN (gvV L r p) 14 (8 * r + p) 23 := by unfold isN num; rw [gvV_ne (by decide)]; exact hn
  have rr : f_X7_remove (gvV L r p) (nI r) (nI p) = some (rmv (gvV L r p) r p) := c_remove hr (w1 r hr).1 (by rw [e1]; exact hp) e2
  have k7 : ∀ x, sp (rmv (gvV L r p) r p) 29 0 x 7 = L 7 := fun x => by rw [sp_row' _ _ _ (by decide), rmv_ne rfl (by decide) (by decide), gvV_ne (by decide)]
  have k9 : ∀ x, sp (rmv (gvV L r p) r p) 29 0 x 9 = L 9 := fun x => by rw [sp_row' _ _ _ (by decide), rmv_ne rfl (by decide) (by decide), gvV_ne (by decide)]
  have k2 : rmv (gvV L r p) r p 2 = L 2 := by rw [rmv_ne rfl (by decide) (by decide), gvV_ne (by decide)]
  have st : ∀ x, f_X1_strike (sp (rmv (gvV L r p) r p) 29 0 x) (nI (num L 14 (8 * r + p))) (nI r) = stk (sp (rmv (gvV L r p) r p) 29 0 x) r (num L 14 (8 * r + p)) := fun x => c_strike (wfC_same (k7 x) (k9 x) hc) n24 (by rw [k7, k9]; exact ho)
  have nt : f_X7_noteAt L (nI r) (nI p) = nI (num L 14 (8 * r + p)) := by unfold f_X7_noteAt; rw [i8p, rat_nI (by omega) (by omega)]; exact hn.1
  have vt : f_X7_valueAt L (nI r) (nI p) = L 16 (8 * r + p) := by unfold f_X7_valueAt; rw [i8p, rat_nI (by omega) (by omega)]
  have ad : rad 3 (rmv (gvV L r p) r p) 29 0 1 = sp (rmv (gvV L r p) r p) 29 0 (rmv (gvV L r p) r p 29 0 + 1) := rad_nI (j := 0) (by omega) (by omega)
  unfold f_X3_giveBack
  rw [isChd hr (by omega), nt, vt, jn_e]
  simp only [jn_e, bnd_e]
  cases hch : chd L r p
  · have eV : gvV L r p = L := by unfold gvV; rw [hch]; rfl
    rw [eV] at rr k2 st ad
    unfold gvb
    rw [eV, hch, if_pos (show (if false = true then (1 : Int32) else 0) = 0 from rfl), rr, bd_some]
    simp only [if_pos (show (if false = true then (1 : Int32) else 0) = 0 from rfl)]
    rw [rat_23, k2, ad, st, Bool.false_or]
    by_cases hf : L 2 3 = 1
    · have hfb : (L 2 3 == 1) = true := by rw [hf]; rfl
      rw [if_pos hf, if_pos hfb]; rfl
    · have hfb : ¬ (L 2 3 == 1) = true := by simpa using hf
      rw [if_neg hf, if_neg hfb]; rfl
  · have eV : sp L 4 (num L 14 (8 * r + p)) (L 16 (8 * r + p)) = gvV L r p := by unfold gvV; rw [hch]; rfl
    unfold gvb
    rw [hch, if_neg (by decide), rwr_nI n24 (by omega), eV, rr, bd_some]
    simp only [if_neg (show ¬ (if true = true then (1 : Int32) else 0) = 0 by decide)]
    rw [ad, st, Bool.true_or]; rfl
theorem m_returned (h : RM V a L) (ht : wfT L) (w : wfS L) {r p : Nat} (hr : r < 16) (hp : p < len L r) (ho : L 7 (num L 14 (8 * r + p)) = 3 → L 9 (num L 14 (8 * r + p)) = only r) : ∃ a', f_X9_returned (mA M a) (nI r) (nI p) = some (if chd L r p then 1 else 0, mA M a') ∧ RM V a' (gvb L r p) := by
  have hl := (w r hr).1
  have h8 : len L r ≤ 8 := hl.2
  have hn := ((w r hr).2.1 p hp).1
  have n24 : num L 14 (8 * r + p) < 24 := by have := hn.2; omega
  have c01 : L 18 (8 * r + p) = if chd L r p then 1 else 0 := by
    unfold chd
    have h5 := ((w r hr).2.1 p hp).2
    by_cases e : L 18 (8 * r + p) = 1
    · rw [e]; rfl
    · rw [if_neg (by simpa using e), h5.1]
      have : num L 18 (8 * r + p) = 0 ∨ num L 18 (8 * r + p) = 1 := by have := h5.2; omega
      rcases this with q | q
      · rw [q]; rfl
      · exfalso; apply e; rw [h5.1, q]; rfl
  have w1 : wfS (gvV L r p) := wfS_same gvV_sh w
  have e1 : len (gvV L r p) r = len L r := by unfold len num; rw [gvV_ne (by decide)]
  obtain ⟨a1, h1, h2⟩ := rm_gvV (M := M) h w hr hp
  have t1 : f_X9_takeOff (mA M a1) (nI r) (nI p) = some (mA M (rmA a1 r p (len (gvV L r p) r))) := m_takeOff h2 hr (w1 r hr).1 (by rw [e1]; exact hp)
  have h3 : RM V (rmA a1 r p (len (gvV L r p) r)) (rmv (gvV L r p) r p) := rm_rmv h2 hr (w1 r hr).1 (by rw [e1]; exact hp)
  revert t1 h3
  generalize rmA a1 r p (len (gvV L r p) r) = a2
  intro t1 h3
  have h4 : RM V (upd a2 (pos 29 0) (a2 (pos 29 0) + 1)) (sp (rmv (gvV L r p) r p) 29 0 (rmv (gvV L r p) r p 29 0 + 1)) := rm_add h3 (by decide) (show 0 < rowN 29 by decide) rfl
  have k7 : ∀ x, sp (rmv (gvV L r p) r p) 29 0 x 7 = L 7 := fun x => by rw [sp_row' _ _ _ (by decide), rmv_ne rfl (by decide) (by decide), gvV_ne (by decide)]
  have k9 : ∀ x, sp (rmv (gvV L r p) r p) 29 0 x 9 = L 9 := fun x => by rw [sp_row' _ _ _ (by decide), rmv_ne rfl (by decide) (by decide), gvV_ne (by decide)]
  obtain ⟨a3, h5, h6⟩ := m_strike (M := M) h4 (r := r) n24 (by rw [k7, k9]; exact ho)
  have a3e : a2 3 = L 2 3 := by
    have := rm_at h3 (k := 2) (j := 3) (show 3 < 4 by omega) rfl rfl
    rw [rmv_ne rfl (by decide) (by decide), gvV_ne (by decide)] at this
    exact this
  unfold f_X9_returned
  rw [ofC_0 hr (by omega), bd_some, ofC_2 hr (by omega), bd_some, h1, bd_some, t1, bd_some, rm_chg h hr hl hp, rm_note h hr hl hp, hn.1, c01]
  simp only [ix_4, ix_3, cl_4, cl_3, mA_1, mA_sp, bnd_e]
  have h5' : f_X9_strike (mA M (upd a2 4 (a2 4 + 1))) (nI (num L 14 (8 * r + p))) (nI r) = some (mA M a3) := h5
  rw [h5', bd_some]
  unfold gvb
  cases hch : chd L r p
  · rw [if_neg (by decide), a3e, Bool.false_or]
    by_cases hf : L 2 3 = 1
    · have hfb : (L 2 3 == 1) = true := by rw [hf]; rfl
      rw [if_pos hf, if_pos hfb]
      exact ⟨a3, rfl, h6⟩
    · have hfb : ¬ (L 2 3 == 1) = true := by simpa using hf
      rw [if_neg hf, if_neg hfb]
      exact ⟨a2, rfl, h3⟩
  · rw [if_pos (by decide), Bool.true_or, if_pos rfl]
    exact ⟨a3, rfl, h6⟩
