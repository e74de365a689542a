variable {V : VB} {L : St} {M : St} {a : FN}
/-! ===== what a shelf holds ===== -/
/-- reader r has a copy of n with value v and mark c -/
def cp (L : St) (r n : Nat) (v c : Int32) : Prop := ∃ q, q < len L r ∧ L 14 (8 * r + q) = nI n ∧ L 16 (8 * r + q) = v ∧ L 18 (8 * r + q) = c
def wfS (L : St) : Prop := ∀ r, r < 16 → isN L 12 r 8 ∧ (∀ p, p < len L r → isN L 14 (8 * r + p) 23 ∧ isN L 18 (8 * r + p) 1) ∧ ∀ p q, p < len L r → q < len L r → L 14 (8 * r + p) = L 14 (8 * r + q) → p = q
def wfH (L : St) : Prop := ∀ n, n < 24 → ∀ i, i < 32 → (bt (L 20 n) i = true ↔ i < 16 ∧ hasC L i n)
theorem hasC_cp {r n : Nat} : hasC L r n ↔ ∃ v c, cp L r n v c := by
  rw [hasC_iff]
  exact ⟨fun ⟨p, h1, h2⟩ => ⟨_, _, p, h1, h2, rfl, rfl⟩, fun ⟨_, _, p, h1, h2, _⟩ => ⟨p, h1, h2⟩⟩
theorem plc_of (h : wfS L) {r n p : Nat} (hr : r < 16) (hp : p < len L r) (e : L 14 (8 * r + p) = nI n) : plc L r n = p := by
  have hc : hasC L r n := hasC_of hp e
  exact (h r hr).2.2 _ _ hc hp (by rw [hasC_at hc, e])
theorem cp_at (h : wfS L) {r n : Nat} (hr : r < 16) {v c : Int32} (hc : cp L r n v c) : L 16 (8 * r + plc L r n) = v ∧ L 18 (8 * r + plc L r n) = c := by
  obtain ⟨q, h1, h2, h3, h4⟩ := hc
  rw [plc_of h hr h1 h2]
  exact ⟨h3, h4⟩
theorem cp_of {r n : Nat} (hc : hasC L r n) : cp L r n (L 16 (8 * r + plc L r n)) (L 18 (8 * r + plc L r n)) := ⟨plc L r n, hc, hasC_at hc, rfl, rfl⟩
theorem cp_c (h : wfS L) {r n : Nat} (hr : r < 16) {v c : Int32} (hc : cp L r n v c) : c = 0 ∨ c = 1 := by
  obtain ⟨q, h1, h2, h3, h4⟩ := hc
  have h5 := ((h r hr).2.1 q h1).2
  rw [← h4, h5.1]
  have : num L 18 (8 * r + q) = 0 ∨ num L 18 (8 * r + q) = 1 := by have := h5.2; omega
  rcases this with e | e <;> rw [e]
  · exact Or.inl rfl
  · exact Or.inr rfl
/-- rows that matter to shelves -/
def shR (k : Nat) : Bool := k == 12 || k == 14 || k == 16 || k == 18
theorem cp_same {S : St} (h : ∀ k, shR k = true → S k = L k) {r n : Nat} {v c : Int32} : cp S r n v c ↔ cp L r n v c := by
  unfold cp len num
  rw [h 12 rfl, h 14 rfl, h 16 rfl, h 18 rfl]
theorem hasC_same {S : St} (h : ∀ k, shR k = true → S k = L k) {r n : Nat} : hasC S r n ↔ hasC L r n := by
  rw [hasC_cp, hasC_cp]
  simp only [cp_same h]
theorem wfS_same {S : St} (h : ∀ k, shR k = true → S k = L k) (w : wfS L) : wfS S := by
  intro r hr
  have e := w r hr
  unfold isN len num at e ⊢
  rw [h 12 rfl, h 14 rfl, h 18 rfl]
  exact e
theorem wfH_same {S : St} (h : ∀ k, shR k = true → S k = L k) (h2 : S 20 = L 20) (w : wfH L) : wfH S := by
  intro n hn i hi
  rw [h2, w n hn i hi]
  simp only [hasC_same h]
theorem shR_sp {k j : Nat} {x : Int32} (hk : shR k = false) : ∀ k', shR k' = true → sp L k j x k' = L k' := fun k' h => sp_row' _ _ _ (fun q => by rw [q] at h; rw [h] at hk; cases hk)
theorem rmv_cell {r p k r' q : Nat} (hk : isSh k = true) (hq : q < 8) (h8 : len L r ≤ 8) (hp : p < len L r) : rmv L r p k (8 * r' + q) = if r' = r ∧ p ≤ q ∧ q < len L r - 1 then L k (8 * r' + (q + 1)) else L k (8 * r' + q) := by
  rw [rmv_sh hk]
  by_cases h : r' = r ∧ p ≤ q ∧ q < len L r - 1
  · rw [if_pos h, shf_in (by omega) (by omega)]; rfl
  · rw [if_neg h, shf_out (by omega)]
/-- a place after is a place before -/
theorem cp_rmv (h : wfS L) {r n : Nat} (hr : r < 16) (hn : n < 24) (hc : hasC L r n) {r' n' : Nat} (hr' : r' < 16) (hn' : n' < 24) {v c : Int32} : cp (rmv L r (plc L r n)) r' n' v c ↔ cp L r' n' v c ∧ ¬ (r' = r ∧ n' = n) := by
  have hl := (h r hr).1
  have h8 : len L r ≤ 8 := hl.2
  have h8' : len L r' ≤ 8 := (h r' hr').1.2
  have hp : plc L r n < len L r := hc
  unfold cp
  rw [rmv_len hl hp]
  constructor
  · rintro ⟨q, h1, h2⟩
    by_cases e : r' = r
    · subst e
      rw [if_pos rfl] at h1
      rw [rmv_cell rfl (by omega) h8 hp, rmv_cell rfl (by omega) h8 hp, rmv_cell rfl (by omega) h8 hp] at h2
      by_cases g : plc L r' n ≤ q
      · rw [if_pos ⟨rfl, g, h1⟩, if_pos ⟨rfl, g, h1⟩, if_pos ⟨rfl, g, h1⟩] at h2
        refine ⟨⟨q + 1, by omega, h2⟩, fun w => ?_⟩
        have := plc_of h hr (p := q + 1) (n := n) (by omega) (by rw [← w.2]; exact h2.1)
        omega
      · rw [if_neg (fun w => g w.2.1), if_neg (fun w => g w.2.1), if_neg (fun w => g w.2.1)] at h2
        refine ⟨⟨q, by omega, h2⟩, fun w => ?_⟩
        have := plc_of h hr (p := q) (n := n) (by omega) (by rw [← w.2]; exact h2.1)
        omega
    · rw [if_neg e] at h1
      rw [rmv_cell rfl (by omega) h8 hp, rmv_cell rfl (by omega) h8 hp, rmv_cell rfl (by omega) h8 hp, if_neg (fun w => e w.1), if_neg (fun w => e w.1), if_neg (fun w => e w.1)] at h2
      exact ⟨⟨q, h1, h2⟩, fun w => e w.1⟩
  · rintro ⟨⟨q, h1, h2⟩, hne⟩
    by_cases e : r' = r
    · subst e
      rw [if_pos rfl]
      have hq : ¬ q = plc L r' n := fun w => by
        apply hne
        refine ⟨rfl, ?_⟩
        have h3 := hasC_at hc
        rw [← w, h2.1] at h3
        exact (nI_eq (by omega) (by omega)).mp h3
      by_cases g : q < plc L r' n
      · refine ⟨q, by omega, ?_⟩
        rw [rmv_cell rfl (by omega) h8 hp, rmv_cell rfl (by omega) h8 hp, rmv_cell rfl (by omega) h8 hp, if_neg (by omega), if_neg (by omega), if_neg (by omega)]
        exact h2
      · refine ⟨q - 1, by omega, ?_⟩
        rw [rmv_cell rfl (by omega) h8 hp, rmv_cell rfl (by omega) h8 hp, rmv_cell rfl (by omega) h8 hp, if_pos (by omega), if_pos (by omega), if_pos (by omega), show q - 1 + 1 = q by omega]
        exact h2
    · rw [if_neg e]
      refine ⟨q, h1, ?_⟩
      rw [rmv_cell rfl (by omega) h8 hp, rmv_cell rfl (by omega) h8 hp, rmv_cell rfl (by omega) h8 hp, if_neg (fun w => e w.1), if_neg (fun w => e w.1), if_neg (fun w => e w.1)]
      exact h2
theorem hasC_rmv (h : wfS L) {r n : Nat} (hr : r < 16) (hn : n < 24) (hc : hasC L r n) {r' n' : Nat} (hr' : r' < 16) (hn' : n' < 24) : hasC (rmv L r (plc L r n)) r' n' ↔ hasC L r' n' ∧ ¬ (r' = r ∧ n' = n) := by
  rw [hasC_cp, hasC_cp]
  constructor
  · rintro ⟨v, c, w⟩
    have := (cp_rmv h hr hn hc hr' hn').mp w
    exact ⟨⟨v, c, this.1⟩, this.2⟩
  · rintro ⟨⟨v, c, w⟩, w2⟩
    exact ⟨v, c, (cp_rmv h hr hn hc hr' hn').mpr ⟨w, w2⟩⟩
theorem wfS_rmv (h : wfS L) {r n : Nat} (hr : r < 16) (hc : hasC L r n) : wfS (rmv L r (plc L r n)) := by
  have hl := (h r hr).1
  have h8 : len L r ≤ 8 := hl.2
  have hp : plc L r n < len L r := hc
  intro r' hr'
  have h8' : len L r' ≤ 8 := (h r' hr').1.2
  have old : ∀ q, q < len (rmv L r (plc L r n)) r' → ∃ q', q' < len L r' ∧ (q' = if r' = r ∧ plc L r n ≤ q then q + 1 else q) ∧ ∀ k, isSh k = true → rmv L r (plc L r n) k (8 * r' + q) = L k (8 * r' + q') := by
    intro q hq
    rw [rmv_len hl hp] at hq
    by_cases e : r' = r
    · subst e
      rw [if_pos rfl] at hq
      by_cases g : plc L r' n ≤ q
      · exact ⟨q + 1, by omega, by rw [if_pos ⟨rfl, g⟩], fun k hk => by rw [rmv_cell hk (by omega) h8 hp, if_pos ⟨rfl, g, hq⟩]⟩
      · exact ⟨q, by omega, by rw [if_neg (fun w => g w.2)], fun k hk => by rw [rmv_cell hk (by omega) h8 hp, if_neg (fun w => g w.2.1)]⟩
    · rw [if_neg e] at hq
      exact ⟨q, hq, by rw [if_neg (fun w => e w.1)], fun k hk => by rw [rmv_cell hk (by omega) h8 hp, if_neg (fun w => e w.1)]⟩
  refine ⟨?_, fun p hp' => ?_, fun p q hp' hq' e => ?_⟩
  · by_cases e : r' = r
    · subst e
      refine isN_of (x := len L r' - 1) (by omega) (by omega) ?_
      rw [rmv_12, upd_at, if_pos rfl, isl hl]
      exact pk_sub (b := 1) (by omega)
    · refine isN_of (x := len L r') (by omega) (by omega) ?_
      rw [rmv_12, upd_at, if_neg e]
      exact isl (h r' hr').1
  · obtain ⟨q', h1, _, h2⟩ := old p hp'
    have := (h r' hr').2.1 q' h1
    unfold isN num at this ⊢
    rw [h2 14 rfl, h2 18 rfl]
    exact this
  · obtain ⟨p2, h1, h2, h3⟩ := old p hp'
    obtain ⟨q2, g1, g2, g3⟩ := old q hq'
    rw [h3 14 rfl, g3 14 rfl] at e
    have := (h r' hr').2.2 p2 q2 h1 g1 e
    split at h2 <;> split at g2 <;> omega
theorem wfH_rmv (h : wfS L) (w : wfH L) {r n : Nat} (hr : r < 16) (hn : n < 24) (hc : hasC L r n) : wfH (rmv L r (plc L r n)) := by
  have hm : num L 14 (8 * r + plc L r n) = n := nI_len (by omega) (hasC_at hc)
  intro n' hn' i hi
  rw [rmv_20, hm, upd_at]
  by_cases e : n' = n
  · subst e
    rw [if_pos rfl, b_and, bt_not _ hi, Bool.and_eq_true, w n' hn' i hi]
    unfold only
    rw [bt_only (by omega) hi]
    by_cases hi16 : i < 16
    · rw [hasC_rmv h hr hn hc (r' := i) (n' := n') hi16 hn']
      by_cases g : i = r
      · simp [g]
      · simp [g]
    · simp [hi16]
  · rw [if_neg e, w n' hn' i hi]
    by_cases hi16 : i < 16
    · rw [hasC_rmv h hr hn hc (r' := i) (n' := n') hi16 hn']
      simp [e]
    · simp [hi16]
