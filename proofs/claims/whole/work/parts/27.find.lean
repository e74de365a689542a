variable {V : VB} {L : St} {M : St} {a : FN}
/-! ===== the first place ===== -/
def fi (q : Nat → Bool) : Nat → Nat → Nat
  | p, 0 => p
  | p, d + 1 => if q p then p else fi q (p + 1) d
theorem fi_le (q : Nat → Bool) : ∀ d p, p ≤ fi q p d ∧ fi q p d ≤ p + d
  | 0, p => ⟨Nat.le_refl _, Nat.le_refl _⟩
  | d + 1, p => by
    rw [fi]
    have := fi_le q d (p + 1)
    split <;> omega
theorem fi_hit {q : Nat → Bool} : ∀ {d p : Nat}, fi q p d < p + d → q (fi q p d) = true
  | 0, p, h => by rw [fi] at h; omega
  | d + 1, p, h => by
    rw [fi] at h ⊢
    by_cases hq : q p = true
    · rw [if_pos hq]; exact hq
    · rw [if_neg hq] at h ⊢
      exact fi_hit (by omega)
theorem fi_first {q : Nat → Bool} : ∀ {d p i : Nat}, p ≤ i → i < fi q p d → q i = false
  | 0, p, i, h1, h2 => by rw [fi] at h2; omega
  | d + 1, p, i, h1, h2 => by
    rw [fi] at h2
    by_cases hq : q p = true
    · rw [if_pos hq] at h2; omega
    · rw [if_neg hq] at h2
      by_cases h : i = p
      · subst h; simpa using hq
      · exact fi_first (d := d) (p := p + 1) (by omega) h2
theorem fi_lt {q : Nat → Bool} {d p i : Nat} (h1 : p ≤ i) (h2 : i < p + d) (h : q i = true) : fi q p d ≤ i := by
  rcases Nat.lt_or_ge i (fi q p d) with h3 | h3
  · rw [fi_first h1 h3] at h; cases h
  · exact h3
theorem fi_cong {q q' : Nat → Bool} : ∀ {d p : Nat}, (∀ i, p ≤ i → i < p + d → q i = q' i) → fi q p d = fi q' p d
  | 0, p, _ => rfl
  | d + 1, p, h => by rw [fi, fi, h p (Nat.le_refl _) (by omega), fi_cong (d := d) (p := p + 1) (fun i h1 h2 => h i (by omega) (by omega))]
/-- where the reader has the note (its length: nowhere) -/
def plc (L : St) (r n : Nat) : Nat := fi (fun p => decide (L 14 (8 * r + p) = nI n)) 0 (len L r)
def hasC (L : St) (r n : Nat) : Prop := plc L r n < len L r
theorem plc_le (L : St) (r n : Nat) : plc L r n ≤ len L r := by have := fi_le (fun p => decide (L 14 (8 * r + p) = nI n)) (len L r) 0; unfold plc; omega
theorem hasC_at {r n : Nat} (h : hasC L r n) : L 14 (8 * r + plc L r n) = nI n := of_decide_eq_true (fi_hit (q := fun p => decide (L 14 (8 * r + p) = nI n)) (d := len L r) (p := 0) (by have : plc L r n < len L r := h; unfold plc at this; omega))
theorem hasC_of {r n p : Nat} (hp : p < len L r) (h : L 14 (8 * r + p) = nI n) : hasC L r n := by
  have := fi_lt (q := fun p => decide (L 14 (8 * r + p) = nI n)) (d := len L r) (p := 0) (i := p) (by omega) (by omega) (by simpa using h)
  show plc L r n < len L r
  unfold plc
  omega
theorem hasC_iff {r n : Nat} : hasC L r n ↔ ∃ p, p < len L r ∧ L 14 (8 * r + p) = nI n := ⟨fun h => ⟨_, h, hasC_at h⟩, fun ⟨_, h1, h2⟩ => hasC_of h1 h2⟩
theorem i8p {r p : Nat} : nI r * 8 + nI p = nI (8 * r + p) := by
  rw [show (8 : Int32) = nI 8 from rfl, pk_mul, nI_add]
  congr 1; omega
theorem c_placeOf_L {r n : Nat} (hr : r < 16) {l : Nat} (hl : l ≤ 8) : ∀ (d p : Nat), p + d = l → ∀ f, d < f → f_X7_placeOf_L18 (nI n) (nI r * 8) (nI l) L f (nI p) = some (if fi (fun p => decide (L 14 (8 * r + p) = nI n)) p d < l then nI (fi (fun p => decide (L 14 (8 * r + p) = nI n)) p d) else -1)
  | 0, p, h, f + 1, _ => by
    rw [f_X7_placeOf_L18, if_pos (nI_le (by omega) (by omega)), fi, if_neg (by omega)]
  | d + 1, p, h, f + 1, hf => by
    rw [f_X7_placeOf_L18, if_neg (nI_ge (by omega) (by omega)), i8p, rat_nI (by omega) (by omega), fi]
    by_cases hq : L 14 (8 * r + p) = nI n
    · rw [if_pos hq, if_pos (decide_eq_true hq), if_pos (by omega)]
    · rw [if_neg hq, if_neg (fun q => hq (of_decide_eq_true q) : ¬ decide (L 14 (8 * r + p) = nI n) = true), nI_1]
      exact c_placeOf_L hr hl d (p + 1) (by omega) f (by omega)
theorem c_placeOf {r n : Nat} (hr : r < 16) (hl : isN L 12 r 8) : f_X7_placeOf L (nI r) (nI n) = some (if plc L r n < len L r then nI (plc L r n) else -1) := by
  unfold f_X7_placeOf
  rw [rat_nI hr (by omega), hl.1]
  exact c_placeOf_L hr hl.2 (len L r) 0 (Nat.zero_add _) 5000 (by have : len L r ≤ 8 := hl.2; omega)
theorem m_placeOf_L {r n l : Nat} (hr : r < 16) (hl : l ≤ 8) (ha : a (pos 12 r) = nI l) (k : Int32 → Option Int32) : ∀ (d p : Nat), p + d = l → ∀ f, d < f → f_X9_placeOf_L2 (nI r) (nI n) (mA M a) k f (nI p) = k (nI (fi (fun p => decide (a (pos 14 (8 * r + p)) = nI n)) p d))
  | 0, p, h, f + 1, _ => by
    rw [f_X9_placeOf_L2, ofR_0 hr, bd_some, ha, if_pos (nI_le (by omega) (by omega)), fi]
  | d + 1, p, h, f + 1, hf => by
    rw [f_X9_placeOf_L2, ofR_0 hr, bd_some, ha, if_neg (nI_ge (by omega) (by omega)), ofC_0 hr (by omega), bd_some, fi]
    by_cases hq : a (pos 14 (8 * r + p)) = nI n
    · rw [if_pos hq, if_pos (decide_eq_true hq)]
    · rw [if_neg hq, if_neg (fun q => hq (of_decide_eq_true q) : ¬ decide (a (pos 14 (8 * r + p)) = nI n) = true), nI_1]
      exact m_placeOf_L hr hl ha k d (p + 1) (by omega) f (by omega)
theorem rm_len (h : RM V a L) {r : Nat} (hr : r < 16) (hl : isN L 12 r 8) : a (pos 12 r) = nI (len L r) := by
  rw [rm_at h (k := 12) hr rfl rfl]; exact hl.1
theorem rm_note (h : RM V a L) {r p : Nat} (hr : r < 16) (hl : isN L 12 r 8) (hp : p < len L r) : a (pos 14 (8 * r + p)) = L 14 (8 * r + p) := by
  have h8 : len L r ≤ 8 := hl.2
  exact h.1 14 (8 * r + p) (show _ < 128 by omega) (Or.inr rfl) (fun _ => by rw [show (8 * r + p) / 8 = r by omega]; omega)
theorem rm_chg (h : RM V a L) {r p : Nat} (hr : r < 16) (hl : isN L 12 r 8) (hp : p < len L r) : a (pos 18 (8 * r + p)) = L 18 (8 * r + p) := by
  have h8 : len L r ≤ 8 := hl.2
  exact h.1 18 (8 * r + p) (show _ < 128 by omega) (Or.inr rfl) (fun _ => by rw [show (8 * r + p) / 8 = r by omega]; omega)
theorem rm_val (h : RM V a L) {r p : Nat} (hr : r < 16) (hl : isN L 12 r 8) (hp : p < len L r) (v : V.1) : a (pos 16 (8 * r + p)) = L 16 (8 * r + p) := by
  have h8 : len L r ≤ 8 := hl.2
  exact h.1 16 (8 * r + p) (show _ < 128 by omega) (Or.inl v) (fun _ => by rw [show (8 * r + p) / 8 = r by omega]; omega)
theorem m_placeOf (h : RM V a L) {r n : Nat} (hr : r < 16) (hl : isN L 12 r 8) : f_X9_placeOf (mA M a) (nI r) (nI n) = some (if plc L r n < len L r then nI (plc L r n) else -6) := by
  have h8 : len L r ≤ 8 := hl.2
  have hle := plc_le L r n
  have e : fi (fun p => decide (a (pos 14 (8 * r + p)) = nI n)) 0 (len L r) = plc L r n := fi_cong (fun i _ hi => by
    show decide (a (pos 14 (8 * r + i)) = nI n) = decide (L 14 (8 * r + i) = nI n)
    rw [rm_note h hr hl (by omega)])
  unfold f_X9_placeOf
  refine (m_placeOf_L hr h8 (rm_len h hr hl) _ (len L r) 0 (by omega) 5000 (by omega)).trans ?_
  rw [e, ofR_0 hr, bd_some, rm_len h hr hl]
  by_cases hp : plc L r n < len L r
  · rw [if_neg (nI_ge hp (by omega)), if_pos hp]
  · rw [if_pos (nI_le (by omega) (by omega)), if_neg hp]
