variable {V : VB} {L : St} {M : St} {a : FN}
theorem lay_sh {r n k : Nat} {v c : Int32} (h : isSh k = true) : lay L r n v c k = upd (L k) (8 * r + len L r) (if k = 14 then nI n else if k = 16 then v else c) := by
  unfold lay
  rw [sp_row' _ _ _ (fun q => by rw [q] at h; cases h), sp_row' _ _ _ (fun q => by rw [q] at h; cases h)]
  rcases sh_cases h with rfl | rfl | rfl
  · rw [sp_row' _ _ _ (by decide), sp_row' _ _ _ (by decide), sp_row]; rfl
  · rw [sp_row' _ _ _ (by decide), sp_row, sp_row' _ _ _ (by decide)]; rfl
  · rw [sp_row, sp_row' _ _ _ (by decide), sp_row' _ _ _ (by decide)]; rfl
theorem lay_12 {r n : Nat} {v c : Int32} : lay L r n v c 12 = upd (L 12) r (L 12 r + 1) := by
  unfold lay
  rw [sp_row' _ _ _ (by decide), sp_row, sp_row' _ _ _ (by decide), sp_row' _ _ _ (by decide), sp_row' _ _ _ (by decide)]
theorem lay_20 {r n : Nat} {v c : Int32} : lay L r n v c 20 = upd (L 20) n (L 20 n ||| only r) := by
  unfold lay
  rw [sp_row, sp_row' _ _ _ (by decide), sp_row' _ _ _ (by decide), sp_row' _ _ _ (by decide), sp_row' _ _ _ (by decide)]
theorem lay_ne {r n k : Nat} {v c : Int32} (h : isSh k = false) (h2 : k ≠ 12) (h3 : k ≠ 20) : lay L r n v c k = L k := by
  unfold lay
  rw [sp_row' _ _ _ h3, sp_row' _ _ _ h2, sp_row' _ _ _ (fun q => by rw [q] at h; cases h), sp_row' _ _ _ (fun q => by rw [q] at h; cases h), sp_row' _ _ _ (fun q => by rw [q] at h; cases h)]
theorem lay_len {r n : Nat} {v c : Int32} (hl : isN L 12 r 8) (r' : Nat) : len (lay L r n v c) r' = if r' = r then len L r + 1 else len L r' := by
  have h8 : len L r ≤ 8 := hl.2
  by_cases h : r' = r
  · subst h
    rw [if_pos rfl]
    refine nI_len (by omega) ?_
    rw [lay_12, upd_at, if_pos rfl, isl hl, nI_1]
  · rw [if_neg h]
    unfold len num
    rw [lay_12, upd_at, if_neg h]
theorem lay_old {r n k r' q : Nat} {v c : Int32} (hk : isSh k = true) (hq : q < 8) (hl : len L r < 8) (h : ¬ (r' = r ∧ q = len L r)) : lay L r n v c k (8 * r' + q) = L k (8 * r' + q) := by
  rw [lay_sh hk, upd_at, if_neg (by omega)]
theorem lay_new {r n k : Nat} {v c : Int32} (hk : isSh k = true) : lay L r n v c k (8 * r + len L r) = if k = 14 then nI n else if k = 16 then v else c := by
  rw [lay_sh hk, upd_at, if_pos rfl]
theorem cp_lay (h : wfS L) {r n : Nat} (hr : r < 16) (hn : n < 24) (h8 : len L r < 8) {x y : Int32} {r' n' : Nat} (hr' : r' < 16) (hn' : n' < 24) {v c : Int32} : cp (lay L r n x y) r' n' v c ↔ cp L r' n' v c ∨ (r' = r ∧ n' = n ∧ v = x ∧ c = y) := by
  have hl := (h r hr).1
  have h8' : len L r' ≤ 8 := (h r' hr').1.2
  unfold cp
  rw [lay_len hl]
  constructor
  · rintro ⟨q, h1, h2⟩
    by_cases e : r' = r ∧ q = len L r
    · obtain ⟨rfl, rfl⟩ := e
      rw [lay_new rfl, lay_new rfl, lay_new rfl] at h2
      exact Or.inr ⟨rfl, ((nI_eq (by omega) (by omega)).mp h2.1).symm, h2.2.1.symm, h2.2.2.symm⟩
    · have hq : q < len L r' := by
        by_cases g : r' = r
        · subst g
          rw [if_pos rfl] at h1
          omega
        · rw [if_neg g] at h1; exact h1
      rw [lay_old rfl (by omega) h8 e, lay_old rfl (by omega) h8 e, lay_old rfl (by omega) h8 e] at h2
      exact Or.inl ⟨q, hq, h2⟩
  · rintro (⟨q, h1, h2⟩ | ⟨rfl, rfl, rfl, rfl⟩)
    · refine ⟨q, by split <;> first | omega | (rename_i g; subst g; omega), ?_⟩
      have e : ¬ (r' = r ∧ q = len L r) := fun w => by rw [w.1] at h1; omega
      rw [lay_old rfl (by omega) h8 e, lay_old rfl (by omega) h8 e, lay_old rfl (by omega) h8 e]
      exact h2
    · refine ⟨len L r', by rw [if_pos rfl]; omega, ?_⟩
      rw [lay_new rfl, lay_new rfl, lay_new rfl]
      exact ⟨rfl, rfl, rfl⟩
theorem hasC_lay (h : wfS L) {r n : Nat} (hr : r < 16) (hn : n < 24) (h8 : len L r < 8) {x y : Int32} {r' n' : Nat} (hr' : r' < 16) (hn' : n' < 24) : hasC (lay L r n x y) r' n' ↔ hasC L r' n' ∨ (r' = r ∧ n' = n) := by
  rw [hasC_cp, hasC_cp]
  constructor
  · rintro ⟨v, c, w⟩
    rcases (cp_lay h hr hn h8 hr' hn').mp w with w | w
    · exact Or.inl ⟨v, c, w⟩
    · exact Or.inr ⟨w.1, w.2.1⟩
  · rintro (⟨v, c, w⟩ | w)
    · exact ⟨v, c, (cp_lay h hr hn h8 hr' hn').mpr (Or.inl w)⟩
    · exact ⟨x, y, (cp_lay h hr hn h8 hr' hn').mpr (Or.inr ⟨w.1, w.2, rfl, rfl⟩)⟩
theorem wfS_lay (h : wfS L) {r n : Nat} (hr : r < 16) (hn : n < 24) (h8 : len L r < 8) {x y : Int32} (hy : y = 0 ∨ y = 1) (hno : ¬ hasC L r n) : wfS (lay L r n x y) := by
  have hl := (h r hr).1
  intro r' hr'
  have h8' : len L r' ≤ 8 := (h r' hr').1.2
  have old : ∀ q, q < len (lay L r n x y) r' → ¬ (r' = r ∧ q = len L r) → q < len L r' ∧ ∀ k, isSh k = true → lay L r n x y k (8 * r' + q) = L k (8 * r' + q) := by
    intro q hq e
    rw [lay_len hl] at hq
    have hq2 : q < len L r' := by
      by_cases g : r' = r
      · subst g; rw [if_pos rfl] at hq; omega
      · rw [if_neg g] at hq; exact hq
    exact ⟨hq2, fun k hk => lay_old hk (by omega) h8 e⟩
  refine ⟨?_, fun p hp' => ?_, fun p q hp' hq' e => ?_⟩
  · by_cases e : r' = r
    · subst e
      refine isN_of (x := len L r' + 1) (by omega) (by omega) ?_
      rw [lay_12, upd_at, if_pos rfl, isl hl, nI_1]
    · refine isN_of (x := len L r') (by omega) (by omega) ?_
      rw [lay_12, upd_at, if_neg e]
      exact isl (h r' hr').1
  · by_cases e : r' = r ∧ p = len L r
    · obtain ⟨rfl, rfl⟩ := e
      refine ⟨isN_of (x := n) (by omega) (by omega) (lay_new rfl), ?_⟩
      have e18 : lay L r' n x y 18 (8 * r' + len L r') = y := lay_new (k := 18) rfl
      rcases hy with rfl | rfl
      · exact isN_of (x := 0) (by omega) (by omega) e18
      · exact isN_of (x := 1) (by omega) (by omega) e18
    · obtain ⟨h1, h2⟩ := old p hp' e
      have := (h r' hr').2.1 p h1
      unfold isN num at this ⊢
      rw [h2 14 rfl, h2 18 rfl]
      exact this
  · have other : ∀ q, q < len (lay L r n x y) r' → ¬ (r' = r ∧ q = len L r) → r' = r → ¬ lay L r n x y 14 (8 * r' + q) = nI n := by
      intro q hq g1 g2 g3
      obtain ⟨h1, h2⟩ := old q hq g1
      rw [h2 14 rfl] at g3
      rw [g2] at h1 g3
      exact hno (hasC_of h1 g3)
    by_cases e1 : r' = r ∧ p = len L r
    · by_cases e2 : r' = r ∧ q = len L r
      · omega
      · obtain ⟨rfl, rfl⟩ := e1
        rw [lay_new rfl] at e
        exact absurd e.symm (other q hq' e2 rfl)
    · by_cases e2 : r' = r ∧ q = len L r
      · obtain ⟨rfl, rfl⟩ := e2
        rw [lay_new (k := 14) rfl] at e
        exact absurd e (other p hp' e1 rfl)
      · obtain ⟨h1, h2⟩ := old p hp' e1
        obtain ⟨g1, g2⟩ := old q hq' e2
        rw [h2 14 rfl, g2 14 rfl] at e
        exact (h r' hr').2.2 p q h1 g1 e
theorem wfH_lay (h : wfS L) (w : wfH L) {r n : Nat} (hr : r < 16) (hn : n < 24) (h8 : len L r < 8) {x y : Int32} : wfH (lay L r n x y) := by
  intro n' hn' i hi
  rw [lay_20, upd_at]
  by_cases e : n' = n
  · subst e
    rw [if_pos rfl, b_or, Bool.or_eq_true, w n' hn' i hi]
    unfold only
    rw [bt_only (by omega) hi]
    by_cases hi16 : i < 16
    · rw [hasC_lay h hr hn h8 (r' := i) (n' := n') hi16 hn']
      simp [hi16]
    · have : ¬ i = r := by omega
      simp [hi16, this]
  · rw [if_neg e, w n' hn' i hi]
    by_cases hi16 : i < 16
    · rw [hasC_lay h hr hn h8 (r' := i) (n' := n') hi16 hn']
      simp [e]
    · simp [hi16]
