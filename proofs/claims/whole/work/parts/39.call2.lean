variable {V : VB} {L : St} {M : St} {a : FN}
theorem off_rows {i n k : Nat} (h : shR k = true ∨ k = 20) : off L i n k = rmv L i (plc L i n) k := rmv_same gvV_sh (gvV_ne (by decide)) h
theorem clb_held {n i : Nat} {g : Int32} (h : hasC L i n) : clb L n i g = sp (sp (sp (sp (sp (off L i n) 29 0 (L 29 0 + 1 + 1)) 31 n (L 31 n + 1)) 39 i (L 39 i + 1)) 29 2 (L 29 2 + g)) 33 n (L 33 n + g) := if_pos h
theorem clb_free {n i : Nat} {g : Int32} (h : ¬ hasC L i n) : clb L n i g = sp (sp (sp (sp (sp L 29 0 (L 29 0 + 1)) 29 1 (L 29 1 + 1)) 41 i (L 41 i + 1)) 29 2 (L 29 2 + g)) 33 n (L 33 n + g) := if_neg h
theorem clb_rows {n i k : Nat} {g : Int32} (h : shR k = true ∨ k = 20) : clb L n i g k = if plc L i n < len L i then rmv L i (plc L i n) k else L k := by
  have q : ∀ k', k' = 29 ∨ k' = 31 ∨ k' = 33 ∨ k' = 39 ∨ k' = 41 → k ≠ k' := by
    rintro k' hk' rfl
    rcases hk' with rfl | rfl | rfl | rfl | rfl <;> rcases h with h | h <;> cases h
  unfold clb
  split
  · rw [sp_row' _ _ _ (q 33 (by simp)), sp_row' _ _ _ (q 29 (by simp)), sp_row' _ _ _ (q 39 (by simp)), sp_row' _ _ _ (q 31 (by simp)), sp_row' _ _ _ (q 29 (by simp)), off_rows h]
  · rw [sp_row' _ _ _ (q 33 (by simp)), sp_row' _ _ _ (q 29 (by simp)), sp_row' _ _ _ (q 41 (by simp)), sp_row' _ _ _ (q 29 (by simp)), sp_row' _ _ _ (q 29 (by simp))]
theorem clb_ne {n i k : Nat} {g : Int32} (h : k = 2 ∨ k = 7 ∨ k = 9) : clb L n i g k = L k := by
  have q : ∀ k', k' = 29 ∨ k' = 31 ∨ k' = 33 ∨ k' = 39 ∨ k' = 41 → k ≠ k' := by
    rintro k' hk' rfl
    rcases hk' with rfl | rfl | rfl | rfl | rfl <;> rcases h with h | h | h <;> cases h
  unfold clb
  split
  · rw [sp_row' _ _ _ (q 33 (by simp)), sp_row' _ _ _ (q 29 (by simp)), sp_row' _ _ _ (q 39 (by simp)), sp_row' _ _ _ (q 31 (by simp)), sp_row' _ _ _ (q 29 (by simp)), off_ne (by rcases h with rfl | rfl | rfl <;> rfl) (by omega) (by omega) (by omega)]
  · rw [sp_row' _ _ _ (q 33 (by simp)), sp_row' _ _ _ (q 29 (by simp)), sp_row' _ _ _ (q 41 (by simp)), sp_row' _ _ _ (q 29 (by simp)), sp_row' _ _ _ (q 29 (by simp))]
theorem wf_clb (w : wfS L) (wh : wfH L) {n i : Nat} {g : Int32} (hi : i < 16) (hn : n < 24) : wfS (clb L n i g) ∧ wfH (clb L n i g) := by
  by_cases h : plc L i n < len L i
  · have e : ∀ k, shR k = true ∨ k = 20 → clb L n i g k = rmv L i (plc L i n) k := fun k hk => by rw [clb_rows hk, if_pos h]
    exact ⟨wfS_same (fun k hk => e k (Or.inl hk)) (wfS_rmv w hi h), wfH_same (fun k hk => e k (Or.inl hk)) (e 20 (Or.inr rfl)) (wfH_rmv w wh hi hn h)⟩
  · have e : ∀ k, shR k = true ∨ k = 20 → clb L n i g k = L k := fun k hk => by rw [clb_rows hk, if_neg h]
    exact ⟨wfS_same (fun k hk => e k (Or.inl hk)) w, wfH_same (fun k hk => e k (Or.inl hk)) (e 20 (Or.inr rfl)) wh⟩
theorem holds_n (wh : wfH L) {n i : Nat} (hi : i < 16) (hn : n < 24) : f_X7_holds L (nI i) (nI n) = if plc L i n < len L i then 1 else 0 := by
  unfold f_X7_holds
  rw [rat_nI hn (by omega), isIn_bt (by omega)]
  by_cases h : plc L i n < len L i
  · rw [if_pos ((wh n hn i (by omega)).mpr ⟨hi, h⟩), if_pos h]
  · rw [if_neg (fun q => h ((wh n hn i (by omega)).mp q).2), if_neg h]
/-- one after the other, from i on -/
def cbs (L : St) (n : Nat) (m x2 g : Int32) (i : Nat) : St := if nI i = x2 then L else if bt m i then clb L n i g else L
def cbk (n : Nat) (m x2 g : Int32) : Nat → Nat → St → St
  | 0, _, L => L
  | d + 1, i, L => cbk n m x2 g d (i + 1) (cbs L n m x2 g i)
def cbo (L : St) (n : Nat) (m x2 : Int32) (i : Nat) : Nat := if nI i = x2 then 0 else if bt m i then (if plc L i n < len L i then 1 else 0) else 0
def cbh (n : Nat) (m x2 g : Int32) : Nat → Nat → St → Nat
  | 0, _, _ => 0
  | d + 1, i, L => cbo L n m x2 i + cbh n m x2 g d (i + 1) (cbs L n m x2 g i)
theorem wf_cbs (w : wfS L) (wh : wfH L) {n i : Nat} {m x2 g : Int32} (hi : i < 16) (hn : n < 24) : wfS (cbs L n m x2 g i) ∧ wfH (cbs L n m x2 g i) := by
  unfold cbs
  split
  · exact ⟨w, wh⟩
  · split
    · exact wf_clb w wh hi hn
    · exact ⟨w, wh⟩
theorem add0 (x : Int32) : x + 0 = x := Int32.add_zero x
theorem c_shout {n : Nat} {g : Int32} (hn : n < 24) (hg : g = 0 ∨ g = 1) (K : St → Option (Int32 × St)) (S : St) : jn (fun (k91 : St → Option (Int32 × St)) => if g = 0 then (k91 S) else (bnd (rad 3 S 29 2 1) (fun S8 => bnd (rad 24 S8 33 (nI n) 1) (fun S9 => k91 S9)))) K = K (sp (sp S 29 2 (S 29 2 + g)) 33 n (S 33 n + g)) := by
  rw [jn_e]
  rcases hg with rfl | rfl
  · rw [if_pos rfl, add0, add0, sp_id, sp_id]
  · rw [if_neg (by decide), bnd_e, bnd_e, show rad 3 S 29 2 1 = sp S 29 2 (S 29 2 + 1) from rad_nI (j := 2) (by omega) (by omega), rad_nI hn (by omega), sp_row' _ _ _ (by decide)]
theorem c_call_L {n : Nat} {m x2 g : Int32} (hn : n < 24) (hg : g = 0 ∨ g = 1) : ∀ (d i : Nat), i + d = 16 → ∀ f, d < f → ∀ (L : St) (x5 : Int32), wfS L → wfH L → f_X3_callBack_L34 (nI n) x2 g m f x5 (nI i) L = some (x5 + nI (cbh n m x2 g d i L), cbk n m x2 g d i L)
  | 0, i, e, f + 1, _, L, x5, _, _ => by
    rw [f_X3_callBack_L34, if_pos (show (16 : Int32) ≤ nI i from nI_le (a := 16) (by omega) (by omega)), cbh, cbk, show nI 0 = (0 : Int32) from nI_0, add0]
  | d + 1, i, e, f + 1, hf, L, x5, w, wh => by
    have hi : i < 16 := by omega
    have ih := fun y => c_call_L hn hg (m := m) (x2 := x2) d (i + 1) (by omega) f (by omega) (cbs L n m x2 g i) y (wf_cbs w wh hi hn).1 (wf_cbs w wh hi hn).2
    rw [f_X3_callBack_L34, if_neg (show ¬ (16 : Int32) ≤ nI i from nI_ge (b := 16) (by omega) (by omega)), jn_e, isIn_bt (by omega), cbh, cbk]
    dsimp only
    rw [nI_1]
    by_cases h1 : nI i = x2
    · have e1 : cbs L n m x2 g i = L := if_pos h1
      have e2 : cbo L n m x2 i = 0 := if_pos h1
      rw [if_pos h1, e1, e2, Nat.zero_add]
      rw [e1] at ih
      exact ih x5
    · rw [if_neg h1]
      by_cases h2 : bt m i = true
      · have e1 : cbs L n m x2 g i = clb L n i g := by unfold cbs; rw [if_neg h1, if_pos h2]
        have e2 : cbo L n m x2 i = if plc L i n < len L i then 1 else 0 := by unfold cbo; rw [if_neg h1, if_pos h2]
        have e29 : sp L 29 0 (L 29 0 + 1) 29 2 = L 29 2 := by rw [sp_at, if_neg (by omega)]
        have e33 : sp L 29 0 (L 29 0 + 1) 33 n = L 33 n := by rw [sp_row' _ _ _ (by decide)]
        rw [if_pos h2, if_neg (by decide), bnd_e, show rad 3 L 29 0 1 = sp L 29 0 (L 29 0 + 1) from rad_nI (j := 0) (by omega) (by omega), c_shout hn hg, e29, e33, e1, e2]
        rw [e1] at ih
        have eS : ∀ k, shR k = true ∨ k = 20 → sp (sp (sp L 29 0 (L 29 0 + 1)) 29 2 (L 29 2 + g)) 33 n (L 33 n + g) k = L k := fun k hk => by
          have q : ∀ k', k' = 29 ∨ k' = 33 → k ≠ k' := by
            rintro k' hk' rfl
            rcases hk' with rfl | rfl <;> rcases hk with h | h <;> cases h
          rw [sp_row' _ _ _ (q 33 (by simp)), sp_row' _ _ _ (q 29 (by simp)), sp_row' _ _ _ (q 29 (by simp))]
        rw [holds_n (wfH_same (fun k hk => eS k (Or.inl hk)) (eS 20 (Or.inr rfl)) wh) hi hn, plc_same (fun k hk => eS k (Or.inl hk)), len_same (fun k hk => eS k (Or.inl hk))]
        by_cases h3 : plc L i n < len L i
        · rw [if_pos h3, if_neg (by decide), if_pos h3, c_takeAway (wfS_same (fun k hk => eS k (Or.inl hk)) w) hi hn ((hasC_same (fun k hk => eS k (Or.inl hk))).mpr h3), bd_some]
          have ec : sp (sp (sp (off (sp (sp (sp L 29 0 (L 29 0 + 1)) 29 2 (L 29 2 + g)) 33 n (L 33 n + g)) i n) 29 0 (sp (sp (sp L 29 0 (L 29 0 + 1)) 29 2 (L 29 2 + g)) 33 n (L 33 n + g) 29 0 + 1)) 31 n (sp (sp (sp L 29 0 (L 29 0 + 1)) 29 2 (L 29 2 + g)) 33 n (L 33 n + g) 31 n + 1)) 39 i (sp (sp (sp L 29 0 (L 29 0 + 1)) 29 2 (L 29 2 + g)) 33 n (L 33 n + g) 39 i + 1) = clb L n i g := by
            rw [clb_held h3, off_sp (by decide) (by decide) (by decide), off_sp (by decide) (by decide) (by decide), off_sp (by decide) (by decide) (by decide), ord_held]
            simp only [sp_at]
            simp
          rw [ec]
          rw [ih]
          rw [show x5 + nI (1 + cbh n m x2 g d (i + 1) (clb L n i g)) = x5 + 1 + nI (cbh n m x2 g d (i + 1) (clb L n i g)) by
            rw [← nI_add, ← Int32.add_assoc]; rfl]
        · rw [if_neg h3, if_pos rfl, if_neg h3, bnd_e, bnd_e, show rad 3 (sp (sp (sp L 29 0 (L 29 0 + 1)) 29 2 (L 29 2 + g)) 33 n (L 33 n + g)) 29 1 1 = sp _ 29 1 (_ + 1) from rad_nI (j := 1) (by omega) (by omega), rad_nI hi (by omega)]
          have ec : sp (sp (sp (sp (sp L 29 0 (L 29 0 + 1)) 29 2 (L 29 2 + g)) 33 n (L 33 n + g)) 29 1 (sp (sp (sp L 29 0 (L 29 0 + 1)) 29 2 (L 29 2 + g)) 33 n (L 33 n + g) 29 1 + 1)) 41 i (sp (sp (sp (sp L 29 0 (L 29 0 + 1)) 29 2 (L 29 2 + g)) 33 n (L 33 n + g)) 29 1 (sp (sp (sp L 29 0 (L 29 0 + 1)) 29 2 (L 29 2 + g)) 33 n (L 33 n + g) 29 1 + 1) 41 i + 1) = clb L n i g := by
            rw [clb_free h3, ord_free]
            simp only [sp_at]
            simp
          rw [ec]
          rw [ih, Nat.zero_add]
      · have e1 : cbs L n m x2 g i = L := by unfold cbs; rw [if_neg h1, if_neg h2]
        have e2 : cbo L n m x2 i = 0 := by unfold cbo; rw [if_neg h1, if_neg h2]
        rw [if_neg h2, if_pos rfl, e1, e2, Nat.zero_add]
        rw [e1] at ih
        exact ih x5
