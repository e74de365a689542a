variable {V : VB} {L : St} {M : St} {a : FN} {z : Nat} {G : Gs}
/-! ===== numbers ===== -/
def sm (c : Nat → Nat) : Nat → Nat
  | 0 => 0
  | n + 1 => sm c n + c n
def cf (q : Nat → Bool) : Nat → Nat → Nat
  | 0, _ => 0
  | d + 1, p => (if q p then 1 else 0) + cf q d (p + 1)
theorem sm_cong {c c' : Nat → Nat} : ∀ {n : Nat}, (∀ k, k < n → c k = c' k) → sm c n = sm c' n
  | 0, _ => rfl
  | n + 1, h => by rw [sm, sm, sm_cong (fun k hk => h k (by omega)), h n (by omega)]
theorem cf_all {q : Nat → Bool} (h : ∀ p, q p = true) : ∀ d p, cf q d p = d
  | 0, _ => rfl
  | d + 1, p => by rw [cf, h, if_pos rfl, cf_all h d]; omega
theorem cf_cong {q q' : Nat → Bool} : ∀ {d p : Nat}, (∀ k, p ≤ k → k < p + d → q k = q' k) → cf q d p = cf q' d p
  | 0, _, _ => rfl
  | d + 1, p, h => by rw [cf, cf, h p (by omega) (by omega), cf_cong (d := d) (p := p + 1) (fun k h1 h2 => h k (by omega) (by omega))]
theorem c_many_L (w : wfS L) : ∀ (d i : Nat), i + d = 16 → ∀ f, d < f → f_X7_howMany_L4 L f (nI (sm (len L) i)) (nI i) = some (nI (sm (len L) 16))
  | 0, i, e, f + 1, _ => by
    rw [f_X7_howMany_L4, if_pos (show (16 : Int32) ≤ nI i from nI_le (a := 16) (by omega) (by omega)), show i = 16 by omega]
  | d + 1, i, e, f + 1, hf => by
    rw [f_X7_howMany_L4, if_neg (show ¬ (16 : Int32) ≤ nI i from nI_ge (b := 16) (by omega) (by omega)), rat_nI (by omega) (by omega), isl (w i (by omega)).1, nI_add, nI_1]
    exact c_many_L w d (i + 1) (by omega) f (by omega)
theorem add_c {x : Int32} {b : Bool} {n : Nat} : x + (if (if b = true then (1 : Int32) else 0) = 0 then 0 else 1) + nI n = x + nI ((if b = true then 1 else 0) + n) := by
  cases b
  · rw [if_neg (show ¬ false = true by decide), if_pos rfl, if_neg (show ¬ false = true by decide), Int32.add_zero, Nat.zero_add]
  · rw [if_pos rfl, if_neg d10, if_pos rfl, ← nI_add, Int32.add_assoc]
    rfl
theorem c_chg_in {r l : Nat} (hr : r < 16) (hl : l ≤ 8) (k : Int32 → Int32 → Option Int32) : ∀ (d p : Nat), p + d = l → ∀ f, d < f → ∀ x, f_X7_howManyChanged_L22 (nI r) (nI l) L k f x (nI p) = k (x + nI (cf (chd L r) d p)) (nI l)
  | 0, p, e, f + 1, _, x => by
    rw [f_X7_howManyChanged_L22, if_pos (nI_le (by omega) (by omega)), show p = l by omega, cf, show nI 0 = (0 : Int32) from rfl, add0]
  | d + 1, p, e, f + 1, hf, x => by
    rw [f_X7_howManyChanged_L22, if_neg (nI_ge (by omega) (by omega)), isChd hr (by omega), nI_1, c_chg_in hr hl k d (p + 1) (by omega) f (by omega), add_c, cf]
def nChg (L : St) (r : Nat) : Nat := cf (chd L r) (len L r) 0
theorem c_chg_L (w : wfS L) : ∀ (d i : Nat), i + d = 16 → ∀ f, d < f → f_X7_howManyChanged_L4 L f (nI (sm (nChg L) i)) (nI i) = some (nI (sm (nChg L) 16))
  | 0, i, e, f + 1, _ => by
    rw [f_X7_howManyChanged_L4, if_pos (show (16 : Int32) ≤ nI i from nI_le (a := 16) (by omega) (by omega)), show i = 16 by omega]
  | d + 1, i, e, f + 1, hf => by
    have h8 : len L i ≤ 8 := (w i (by omega)).1.2
    rw [f_X7_howManyChanged_L4, if_neg (show ¬ (16 : Int32) ≤ nI i from nI_ge (b := 16) (by omega) (by omega)), rat_nI (by omega) (by omega), isl (w i (by omega)).1]
    refine (c_chg_in (L := L) (r := i) (l := len L i) (by omega) h8 _ (len L i) 0 (by omega) 5000 (by omega) _).trans ?_
    rw [nI_add, nI_1]
    exact c_chg_L w d (i + 1) (by omega) f (by omega)
def cpq (L : St) (x : Int32) (r p : Nat) : Bool := x == 0 || chd L r p
theorem m_cop_in (h : RM V a L) (w : wfS L) {r : Nat} {x1 : Int32} (hr : r < 16) (k : Int32 → Int32 → Option Int32) : ∀ (d p : Nat), p + d = len L r → ∀ f, d < f → ∀ x, f_X9_copies_L13 x1 (nI r) (mA M a) k f x (nI p) = k (x + nI (cf (cpq L x1 r) d p)) (nI (len L r))
  | 0, p, e, f + 1, _, x => by
    have hl := (w r hr).1
    have h8 : len L r ≤ 8 := hl.2
    rw [f_X9_copies_L13, ofR_0 hr, bd_some, rm_len h hr hl, if_pos (nI_le (by omega) (by omega)), show p = len L r by omega, cf, show nI 0 = (0 : Int32) from rfl, add0]
  | d + 1, p, e, f + 1, hf, x => by
    have hl := (w r hr).1
    have h8 : len L r ≤ 8 := hl.2
    have ih := fun y => m_cop_in h w (x1 := x1) hr k d (p + 1) (by omega) f (by omega) y
    rw [f_X9_copies_L13, ofR_0 hr, bd_some, rm_len h hr hl, if_neg (nI_ge (by omega) (by omega)), jn_e, nI_1, ofC_2 hr (by omega), bd_some, rm_chg h hr hl (by omega)]
    simp only [ih]
    rw [cf]
    unfold cpq chd
    by_cases h0 : x1 = 0
    · have e0 : (x1 == 0) = true := by simpa using h0
      rw [if_pos h0, e0, Bool.true_or, if_pos rfl, ← nI_add, Int32.add_assoc]
      rfl
    · have e0 : (x1 == 0) = false := by simpa using h0
      rw [if_neg h0, e0, Bool.false_or]
      by_cases h1 : L 18 (8 * r + p) = 1
      · have e1 : (L 18 (8 * r + p) == 1) = true := by simpa using h1
        rw [if_pos h1, e1, if_pos rfl, ← nI_add, Int32.add_assoc]
        rfl
      · have e1 : (L 18 (8 * r + p) == 1) = false := by simpa using h1
        rw [if_neg h1, e1, if_neg (show ¬ false = true by decide), Nat.zero_add, add0]
def nCop (L : St) (x : Int32) (r : Nat) : Nat := cf (cpq L x r) (len L r) 0
theorem m_cop_L (h : RM V a L) (w : wfS L) {x1 : Int32} : ∀ (d i : Nat), i + d = 16 → ∀ f, d < f → f_X9_copies_L4 x1 (mA M a) f (nI (sm (nCop L x1) i)) (nI i) = some (nI (sm (nCop L x1) 16))
  | 0, i, e, f + 1, _ => by
    rw [f_X9_copies_L4, if_pos (show (16 : Int32) ≤ nI i from nI_le (a := 16) (by omega) (by omega)), show i = 16 by omega]
  | d + 1, i, e, f + 1, hf => by
    have h8 : len L i ≤ 8 := (w i (by omega)).1.2
    rw [f_X9_copies_L4, if_neg (show ¬ (16 : Int32) ≤ nI i from nI_ge (b := 16) (by omega) (by omega))]
    refine (m_cop_in (M := M) h w (r := i) (by omega) _ (len L i) 0 (by omega) 5000 (by omega) _).trans ?_
    rw [nI_add, nI_1]
    exact m_cop_L h w d (i + 1) (by omega) f (by omega)
theorem c_many (w : wfS L) : f_X7_howMany L = some (nI (sm (len L) 16)) := c_many_L w 16 0 (by omega) 5000 (by omega)
theorem c_chg (w : wfS L) : f_X7_howManyChanged L = some (nI (sm (nChg L) 16)) := c_chg_L w 16 0 (by omega) 5000 (by omega)
theorem m_cop0 (h : RM V a L) (w : wfS L) : f_X9_copies (mA M a) 0 = some (nI (sm (len L) 16)) := by
  refine (m_cop_L (M := M) h w (x1 := 0) 16 0 (by omega) 5000 (by omega)).trans ?_
  rw [sm_cong (c := nCop L 0) (c' := len L) (fun k _ => cf_all (fun p => rfl) _ _)]
theorem m_cop1 (h : RM V a L) (w : wfS L) : f_X9_copies (mA M a) 1 = some (nI (sm (nChg L) 16)) := by
  refine (m_cop_L (M := M) h w (x1 := 1) 16 0 (by omega) 5000 (by omega)).trans ?_
  rw [sm_cong (c := nCop L 1) (c' := nChg L) (fun k _ => cf_cong (fun p _ _ => rfl))]
theorem w_count (h : Rel G) (x : Int32) : Rop (f_X8_count G x) (f_X9_count (G 1) x) := by
  have r1 := h.1.1
  have w := h.1.2.1
  have k0 := m_cop0 (M := G 1) r1 w.2.2.1
  have k1 := m_cop1 (M := G 1) r1 w.2.2.1
  have k2 := m_inUse (M := G 1) r1 w.2.1
  have k3 := m_inGrp (M := G 1) r1 w.2.1
  rw [mA_id] at k0 k1 k2 k3
  obtain ⟨l, p1, p2, p3, p4⟩ := h.2.2.2
  obtain ⟨f, hl, h1, h2, h3, h4, h5, h6, h7⟩ := h.2.1
  unfold f_X8_count f_X9_count
  by_cases x0 : x = 0
  · subst x0
    have e : G 1 1 4 = G 2 29 0 := rm_v r1 (k := 29) (j := 0) (show 0 < 3 by omega) rfl trivial
    have e2 : rat 3 (G 2 29) 0 = G 2 29 0 := rat_nI (j := 0) (by omega) (by omega)
    rw [show f_X9_in 0 7 10 = 0 by decide, e2, show (4 + 0 : Int32) = nI 4 by decide, ix_l _ (by omega), cl_n (by omega), e]
    first | (simp; exact rop_rfl) | (simp [Rop])
  by_cases x1 : x = 1
  · subst x1
    have e : G 1 1 5 = G 2 29 1 := rm_v r1 (k := 29) (j := 1) (show 1 < 3 by omega) rfl trivial
    have e2 : rat 3 (G 2 29) 1 = G 2 29 1 := rat_nI (j := 1) (by omega) (by omega)
    rw [show f_X9_in 1 7 10 = 0 by decide, e2, show (4 + 1 : Int32) = nI 5 by decide, ix_l _ (by omega), cl_n (by omega), e]
    first | (simp; exact rop_rfl) | (simp [Rop])
  by_cases x2 : x = 2
  · subst x2
    have e : G 1 1 6 = G 2 29 2 := rm_v r1 (k := 29) (j := 2) (show 2 < 3 by omega) rfl trivial
    have e2 : rat 3 (G 2 29) 2 = G 2 29 2 := rat_nI (j := 2) (by omega) (by omega)
    rw [show f_X9_in 2 7 10 = 0 by decide, e2, show (4 + 2 : Int32) = nI 6 by decide, ix_l _ (by omega), cl_n (by omega), e]
    first | (simp; exact rop_rfl) | (simp [Rop])
  by_cases x3 : x = 3
  · subst x3
    rw [show f_X9_in 3 7 10 = 0 by decide]
    simp [Rop, k0, c_many w.2.2.1, bd_some]
  by_cases x4 : x = 4
  · subst x4
    rw [show f_X9_in 4 7 10 = 0 by decide]
    simp [Rop, k1, c_chg w.2.2.1, bd_some]
  by_cases x5 : x = 5
  · subst x5
    rw [show f_X9_in 5 7 10 = 0 by decide]
    simp [Rop, k2, c_inUse, bd_some]
  by_cases x6 : x = 6
  · subst x6
    rw [show f_X9_in 6 7 10 = 0 by decide]
    simp [Rop, k3, c_inGrp, bd_some]
  by_cases x7 : x = 7
  · subst x7
    have e : G 1 1 0 = G 2 2 0 := rm_at r1 (k := 2) (j := 0) (show 0 < 4 by omega) rfl rfl
    have e2 : rat 4 (G 2 2) 0 = G 2 2 0 := rat_nI (j := 0) (by omega) (by omega)
    rw [show f_X9_in 7 7 10 = 1 by decide, if_neg d10, e2, show (7 - 7 : Int32) = nI 0 by decide, ix_l _ (by omega), cl_n (by omega), e]
    simp [Rop]
  by_cases x8 : x = 8
  · subst x8
    have e : G 1 1 1 = G 2 2 1 := rm_at r1 (k := 2) (j := 1) (show 1 < 4 by omega) rfl rfl
    have e2 : rat 4 (G 2 2) 1 = G 2 2 1 := rat_nI (j := 1) (by omega) (by omega)
    rw [show f_X9_in 8 7 10 = 1 by decide, if_neg d10, e2, show (8 - 7 : Int32) = nI 1 by decide, ix_l _ (by omega), cl_n (by omega), e]
    simp [Rop]
  by_cases x9 : x = 9
  · subst x9
    have e : G 1 1 2 = G 2 2 2 := rm_at r1 (k := 2) (j := 2) (show 2 < 4 by omega) rfl rfl
    have e2 : rat 4 (G 2 2) 2 = G 2 2 2 := rat_nI (j := 2) (by omega) (by omega)
    rw [show f_X9_in 9 7 10 = 1 by decide, if_neg d10, e2, show (9 - 7 : Int32) = nI 2 by decide, ix_l _ (by omega), cl_n (by omega), e]
    simp [Rop]
  by_cases x10 : x = 10
  · subst x10
    have e : G 1 1 3 = G 2 2 3 := rm_at r1 (k := 2) (j := 3) (show 3 < 4 by omega) rfl rfl
    have e2 : rat 4 (G 2 2) 3 = G 2 2 3 := rat_nI (j := 3) (by omega) (by omega)
    rw [show f_X9_in 10 7 10 = 1 by decide, if_neg d10, e2, show (10 - 7 : Int32) = nI 3 by decide, ix_l _ (by omega), cl_n (by omega), e]
    simp [Rop]
  by_cases x11 : x = 11
  · subst x11
    rw [show f_X9_in 11 7 10 = 0 by decide]
    simp [Rop, p2, p3, bd_some]
  by_cases x12 : x = 12
  · subst x12
    rw [show f_X9_in 12 7 10 = 0 by decide]
    simp [Rop, h4, h6, bd_some]
  have ix0 : f_X9_in x 7 10 = 0 := by
    rcases in_cases x 7 10 (by omega) with ⟨q, _⟩ | ⟨_, g1, g2⟩
    · exact q
    · exfalso
      obtain ⟨v, hv0, hv, rfl⟩ := in_val (by omega) (by omega) g1 g2
      rcases (show v = 7 ∨ v = 8 ∨ v = 9 ∨ v = 10 by omega) with rfl | rfl | rfl | rfl
      · exact x7 rfl
      · exact x8 rfl
      · exact x9 rfl
      · exact x10 rfl
  rw [ix0, if_pos rfl, if_neg x0, if_neg x1, if_neg x2, if_neg x3, if_neg x4, if_neg x5, if_neg x6, if_neg x7, if_neg x8, if_neg x9, if_neg x10, if_neg x11, if_neg x12, if_neg x0, if_neg x1, if_neg x2, if_neg x3, if_neg x4, if_neg x5, if_neg x6, if_neg x7, if_neg x8, if_neg x9, if_neg x10, if_neg x11, if_neg x12]
  exact rop_rfl
