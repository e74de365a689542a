variable {V : VB} {L : St} {M : St} {a : FN} {e : Nat}
/-! ===== what always holds ===== -/
def wfO (e : Nat) (L : St) : Prop := ∀ n, n < 24 → n ≠ e → L 7 n = 3 → ∃ o, o < 16 ∧ L 9 n = only o ∧ ∃ v, cp L o n v 1
def wfX (L : St) : Prop := ∀ n, n < 24 → ∀ r, r < 16 → ∀ v, cp L r n v 1 → L 7 n = 3 ∧ L 9 n = only r
def wfU (L : St) : Prop := ∀ n, n < 24 → ∀ r, r < 16 → hasC L r n → calP L n r = true
/-- but for one note (while it is called back) -/
def Inv (e : Nat) (L : St) : Prop := wfT L ∧ wfC L ∧ wfS L ∧ wfH L ∧ wfO e L ∧ wfX L ∧ wfU L
theorem bt_onl {r i : Nat} (hr : r < 32) (hi : i < 32) : bt (only r) i = decide (i = r) := bt_only hr hi
theorem own_eq (hi : wfO e L) (hu : wfU L) {r n : Nat} (hr : r < 16) (hn : n < 24) (hne : n ≠ e) (hc : hasC L r n) (h3 : L 7 n = 3) : L 9 n = only r := by
  obtain ⟨o, ho, h9, _⟩ := hi n hn hne h3
  have := hu n hn r hr hc
  unfold calP at this
  rw [if_neg (by rw [h3]; decide), h9, bt_onl (by omega) (by omega)] at this
  rw [h9, of_decide_eq_true this]
theorem own_at (hs : wfS L) (hi : wfO e L) (hu : wfU L) {r n : Nat} (hr : r < 16) (hn : n < 24) (hne : n ≠ e) (hc : hasC L r n) (h3 : L 7 n = 3) : L 18 (8 * r + plc L r n) = 1 := by
  obtain ⟨o, ho, h9, v, hv⟩ := hi n hn hne h3
  have e := own_eq hi hu hr hn hne hc h3
  rw [h9] at e
  have : o = r := by
    have h := bt_onl (r := o) (i := o) (by omega) (by omega)
    rw [e, bt_onl (by omega) (by omega)] at h
    have h2 : (decide (o = r)) = true := by rw [h]; exact decide_eq_true rfl
    exact of_decide_eq_true h2
  subst this
  exact (cp_at hs hr hv).2
theorem setC_7 {n : Nat} {k v : Int32} (n' : Nat) : setC L n k v 7 n' = if n' = n then k else L 7 n' := by
  unfold setC
  rw [sp_row' _ _ _ (by decide), sp_row, upd_at]
theorem setC_9 {n : Nat} {k v : Int32} (n' : Nat) : setC L n k v 9 n' = if n' = n then v else L 9 n' := by
  unfold setC
  rw [sp_row, sp_row' _ _ _ (by decide), upd_at]
theorem setC_ne {n j : Nat} {k v : Int32} (h : j ≠ 7) (h2 : j ≠ 9) : setC L n k v j = L j := by
  unfold setC
  rw [sp_row' _ _ _ h2, sp_row' _ _ _ h]
theorem setC_sh {n : Nat} {k v : Int32} : ∀ j, shR j = true → setC L n k v j = L j := fun j h => setC_ne (fun q => by rw [q] at h; cases h) (fun q => by rw [q] at h; cases h)
theorem wfC_set (w : wfC L) {n : Nat} {k : Nat} {v : Int32} (hk : k ≤ 3) (hv : ∀ i, 16 ≤ i → i < 32 → bt v i = false) (h0 : k = 0 → v = 0) : wfC (setC L n (nI k) v) := by
  intro n' hn'
  have := w n' hn'
  refine ⟨?_, ?_, ?_⟩
  · by_cases e : n' = n
    · exact isN_of (x := k) (by omega) hk (by rw [setC_7, if_pos e])
    · unfold isN num
      rw [setC_7, if_neg e]
      exact this.1
  · rw [setC_9]
    by_cases e : n' = n
    · rw [if_pos e]; exact hv
    · rw [if_neg e]; exact this.2.1
  · rw [setC_9, setC_7]
    by_cases e : n' = n
    · rw [if_pos e, if_pos e]
      intro q
      exact h0 ((nI_eq (by omega) (by omega)).mp q)
    · rw [if_neg e, if_neg e]; exact this.2.2
theorem hi_and {x y : Int32} (h : ∀ i, 16 ≤ i → i < 32 → bt x i = false) : ∀ i, 16 ≤ i → i < 32 → bt (x &&& y) i = false := fun i h1 h2 => by rw [b_and, h i h1 h2, Bool.false_and]
theorem hi_only {r : Nat} (hr : r < 16) : ∀ i, 16 ≤ i → i < 32 → bt (only r) i = false := fun i h1 h2 => by rw [bt_onl (by omega) h2]; exact decide_eq_false (by omega)
theorem hi_zero : ∀ i, 16 ≤ i → i < 32 → bt 0 i = false := fun i _ _ => b_0 i
/-- a state that differs from an invariant one in nothing that matters -/
theorem inv_same {S : St} (hR : ∀ k, shR k = true → S k = L k) (h2 : S 2 = L 2) (h7 : S 7 = L 7) (h9 : S 9 = L 9) (h20 : S 20 = L 20) (w : Inv e L) : Inv e S := by
  obtain ⟨w1, w2, w3, w4, w5, w6, w7⟩ := w
  refine ⟨wfT_same h2 w1, wfC_same h7 h9 w2, wfS_same hR w3, wfH_same hR h20 w4, ?_, ?_, ?_⟩
  · intro n hn hne h3
    rw [h7] at h3
    obtain ⟨o, ho, q, v, hv⟩ := w5 n hn hne h3
    exact ⟨o, ho, by rw [h9]; exact q, v, (cp_same hR).mpr hv⟩
  · intro n hn r hr v hv
    rw [h7, h9]
    exact w6 n hn r hr v ((cp_same hR).mp hv)
  · intro n hn r hr hc
    have := w7 n hn r hr ((hasC_same hR).mp hc)
    unfold calP num at this ⊢
    rw [h7, h9, h2]
    exact this
theorem calP_same {S : St} {n : Nat} (h2 : S 2 = L 2) (h7 : S 7 n = L 7 n) (h9 : S 9 n = L 9 n) (i : Nat) : calP S n i = calP L n i := by
  unfold calP num
  rw [h7, h9, h2]
/-- the shelf rows are as after the removal of n from r; the card of n is new; all else as before -/
theorem inv_after {S : St} (w : Inv e L) {r n : Nat} (hr : r < 16) (hn : n < 24) (hc : hasC L r n) (hR : ∀ k, shR k = true → S k = rmv L r (plc L r n) k) (h20 : S 20 = rmv L r (plc L r n) 20) (h2 : S 2 = L 2) (h7 : ∀ n', n' ≠ n → S 7 n' = L 7 n') (h9 : ∀ n', n' ≠ n → S 9 n' = L 9 n') (hC : wfC S)
    (hO : S 7 n = 3 → ∃ o, o < 16 ∧ S 9 n = only o ∧ ∃ v, cp L o n v 1 ∧ o ≠ r) (hX : ∀ r', r' < 16 → r' ≠ r → ∀ v, cp L r' n v 1 → S 7 n = 3 ∧ S 9 n = only r') (hU : ∀ r', r' < 16 → r' ≠ r → hasC L r' n → calP S n r' = true) : Inv e S := by
  obtain ⟨w1, w2, w3, w4, w5, w6, w7⟩ := w
  refine ⟨wfT_same h2 w1, hC, wfS_same hR (wfS_rmv w3 hr hc), wfH_same hR h20 (wfH_rmv w3 w4 hr hn hc), ?_, ?_, ?_⟩
  · intro n' hn' hne' h3
    by_cases en : n' = n
    · subst en
      obtain ⟨o, ho, q, v, hv, hne⟩ := hO h3
      exact ⟨o, ho, q, v, (cp_same hR).mpr ((cp_rmv w3 hr hn hc ho hn).mpr ⟨hv, fun q => hne q.1⟩)⟩
    · rw [h7 n' en] at h3
      obtain ⟨o, ho, q, v, hv⟩ := w5 n' hn' hne' h3
      exact ⟨o, ho, by rw [h9 n' en]; exact q, v, (cp_same hR).mpr ((cp_rmv w3 hr hn hc ho hn').mpr ⟨hv, fun q => en q.2⟩)⟩
  · intro n' hn' r' hr' v hv
    have := (cp_rmv w3 hr hn hc hr' hn').mp ((cp_same hR).mp hv)
    by_cases en : n' = n
    · subst en
      exact hX r' hr' (fun q => this.2 ⟨q, rfl⟩) v this.1
    · rw [h7 n' en, h9 n' en]
      exact w6 n' hn' r' hr' v this.1
  · intro n' hn' r' hr' hh
    have := (hasC_rmv w3 hr hn hc hr' hn').mp ((hasC_same hR).mp hh)
    by_cases en : n' = n
    · subst en
      exact hU r' hr' (fun q => this.2 ⟨q, rfl⟩) this.1
    · rw [calP_same h2 (h7 n' en) (h9 n' en)]
      exact w7 n' hn' r' hr' this.1
theorem only_inj {r o : Nat} (hr : r < 16) (ho : o < 16) (e : only r = only o) : r = o := by
  have h := bt_onl (r := r) (i := r) (by omega) (by omega)
  rw [e, bt_onl (by omega) (by omega)] at h
  have h2 : (decide (r = o)) = true := by rw [h]; exact decide_eq_true rfl
  exact of_decide_eq_true h2
