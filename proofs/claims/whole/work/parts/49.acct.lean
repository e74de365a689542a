variable {V : VB} {L : St} {M : St} {a : FN} {z : Nat}
/-! ===== the account: a ring in the class, a row in the reference ===== -/
def AC (a : FN) (L : St) : Prop := ∃ f l : Nat, f < 60 ∧ l ≤ 60 ∧ L 21 3 = nI f ∧ L 21 4 = nI l ∧ a 7 = nI l ∧ ∀ k, k < l → ∃ c r n : Nat, c < 2 ∧ r < 16 ∧ n < 24 ∧ L 23 ((f + k) % 60) = nI c ∧ L 25 ((f + k) % 60) = nI r ∧ L 27 ((f + k) % 60) = nI n ∧ a (592 + k) = nI (2 * (24 * r + n) + c)
/-- rows of the library, as far as they go -/
def inR (k j : Nat) : Prop := if k = 20 then j < 24 else if k = 21 then 3 ≤ j ∧ j < 5 else if k = 23 then j < 60 else if k = 25 then j < 60 else if k = 27 then j < 60 else j < rowN k
theorem ac_pt {S : St} {b : FN} (h : ∀ k j, ac k = true → inR k j → S k j = L k j) (hb : ∀ i, i = 7 ∨ 592 ≤ i ∧ i < 652 → b i = a i) (w : AC a L) : AC b S := by
  obtain ⟨f, l, h1, h2, h3, h4, h5, h6⟩ := w
  refine ⟨f, l, h1, h2, (h 21 3 rfl (show 3 ≤ 3 ∧ 3 < 5 by omega)).trans h3, (h 21 4 rfl (show 3 ≤ 4 ∧ 4 < 5 by omega)).trans h4, (hb 7 (Or.inl rfl)).trans h5, fun k hk => ?_⟩
  obtain ⟨c, r, n, q1, q2, q3, q4, q5, q6, q7⟩ := h6 k hk
  have hm : (f + k) % 60 < 60 := Nat.mod_lt _ (by omega)
  exact ⟨c, r, n, q1, q2, q3, (h 23 _ rfl hm).trans q4, (h 25 _ rfl hm).trans q5, (h 27 _ rfl hm).trans q6, (hb _ (Or.inr ⟨by omega, by omega⟩)).trans q7⟩
theorem cell_n {f l : Nat} (hf : f < 60) (hl : l ≤ 60) (h : L 21 3 = nI f) : f_X0_cellOf L (nI l) = nI ((f + l) % 60) := by
  unfold f_X0_cellOf
  rw [h, nI_add]
  exact pk_rem (d := 60) (by omega) (by omega) (by omega)
theorem m_enter_L (x1 x2 x3 : Int32) (k : Int32 → St → Option St) : ∀ (d x : Nat), x + d = 651 → 592 ≤ x → ∀ f, d < f → ∀ a : FN, a 7 = nI 59 → f_X9_enter_L28 x1 x2 x3 k f (nI x) (mA M a) = k (nI 651) (mA M (shf a 1 x 651))
  | 0, x, h, _, f + 1, _, a, ha => by
    have e : x = 651 := by omega
    subst e
    rw [f_X9_enter_L28, ix_7, cl_7, mA_1, ha, if_pos (show (592 : Int32) + nI 59 ≤ nI 651 by decide), shf_nil _ _ (Nat.le_refl _)]
  | d + 1, x, h, hx, f + 1, hf, a, ha => by
    rw [f_X9_enter_L28, ix_7, cl_7, mA_1, ha, show (592 : Int32) + nI 59 = nI 651 by decide, if_neg (nI_ge (by omega) (by omega)), nI_1, ix_l _ (by omega), ix_l _ (by omega), cl_n (by omega), cl_n (by omega), mA_sp, bnd_e]
    rw [m_enter_L x1 x2 x3 k d (x + 1) (by omega) (by omega) f (by omega), shf_step _ (by omega) (by omega)]
    rw [upd_at, if_neg (show ¬ 7 = x by omega)]
    exact ha
def apR (L : St) (q c r n : Nat) : St := sp (sp (sp L 23 q (nI c)) 25 q (nI r)) 27 q (nI n)
theorem apR_21 {q c r n : Nat} : apR L q c r n 21 = L 21 := by
  unfold apR
  rw [sp_row' _ _ _ (by decide), sp_row' _ _ _ (by decide), sp_row' _ _ _ (by decide)]
theorem apR_at {q c r n : Nat} (p : Nat) : apR L q c r n 23 p = (if p = q then nI c else L 23 p) ∧ apR L q c r n 25 p = (if p = q then nI r else L 25 p) ∧ apR L q c r n 27 p = (if p = q then nI n else L 27 p) := by
  unfold apR
  refine ⟨?_, ?_, ?_⟩
  · rw [sp_row' _ _ _ (by decide), sp_row' _ _ _ (by decide), sp_row, upd_at]
  · rw [sp_row' _ _ _ (by decide), sp_row, upd_at, sp_row' _ _ _ (by decide)]
  · rw [sp_row, upd_at, sp_row' _ _ _ (by decide), sp_row' _ _ _ (by decide)]
theorem apR_ne {q c r n k : Nat} (h : ac k = false) : apR L q c r n k = L k := by
  have q : ∀ k', ac k' = true → k ≠ k' := fun k' h' e => by rw [e, h'] at h; cases h
  unfold apR
  rw [sp_row' _ _ _ (q 27 rfl), sp_row' _ _ _ (q 25 rfl), sp_row' _ _ _ (q 23 rfl)]
theorem ent_n (r n c : Nat) : (2 * (24 * nI r + nI n) + nI c : Int32) = nI (2 * (24 * r + n) + c) := by
  rw [show (24 : Int32) = nI 24 from rfl, show (2 : Int32) = nI 2 from rfl, pk_mul, nI_add, pk_mul, nI_add]
theorem sp21 {x : Int32} {j k : Nat} (h : k ≠ 21) : sp L 21 j x k = L k := sp_row' _ _ _ h
theorem app_ok (hA : AC a L) {c r n : Nat} (hc : c < 2) (hr : r < 16) (hn : n < 24) (M : St) : ∃ L' a', f_X0_append L (nI c) (nI r) (nI n) = L' ∧ f_X9_enter (mA M a) (nI r) (nI n) (nI c) = some (mA M a') ∧ AC a' L' ∧ (∀ k, ac k = false → L' k = L k) ∧ ∀ i, i < 592 → i ≠ 7 → a' i = a i := by
  obtain ⟨f, l, h1, h2, h3, h4, h5, h6⟩ := hA
  have hq : (f + l) % 60 < 60 := Nat.mod_lt _ (by omega)
  have eC : ∀ S : St, S 21 = L 21 → f_X0_cellOf S (S 21 4) = nI ((f + l) % 60) := fun S hS => by
    rw [hS, h4]
    exact cell_n h1 h2 (by rw [hS]; exact h3)
  have e23 : rwr 60 L 23 (nI ((f + l) % 60)) (nI c) = sp L 23 ((f + l) % 60) (nI c) := rwr_nI hq (by omega)
  have e25 : ∀ S : St, rwr 60 S 25 (nI ((f + l) % 60)) (nI r) = sp S 25 ((f + l) % 60) (nI r) := fun S => rwr_nI hq (by omega)
  have e27 : ∀ S : St, rwr 60 S 27 (nI ((f + l) % 60)) (nI n) = sp S 27 ((f + l) % 60) (nI n) := fun S => rwr_nI hq (by omega)
  have eAp : f_X0_append L (nI c) (nI r) (nI n) = if 60 ≤ nI l then sp (apR L ((f + l) % 60) c r n) 21 3 (f_X0_cellOf (apR L ((f + l) % 60) c r n) 1) else sp (apR L ((f + l) % 60) c r n) 21 4 (nI l + 1) := by
    unfold f_X0_append
    simp only [bnd_e]
    rw [eC L rfl, e23, e25, e27]
    rw [show sp (sp (sp L 23 ((f + l) % 60) (nI c)) 25 ((f + l) % 60) (nI r)) 27 ((f + l) % 60) (nI n) = apR L ((f + l) % 60) c r n from rfl, apR_21, h4]
  by_cases hl : l = 60
  · subst hl
    have q0 : (f + 60) % 60 = f := by omega
    rw [q0] at eAp
    refine ⟨sp (apR L f c r n) 21 3 (nI ((f + 1) % 60)), upd (upd (shf (upd a 7 (nI 59)) 1 592 651) 651 (nI (2 * (24 * r + n) + c))) 7 (nI 60), ?_, ?_, ?_, ?_, ?_⟩
    · rw [eAp, if_pos (by decide), show (1 : Int32) = nI 1 from rfl, cell_n h1 (by omega) (by rw [apR_21]; exact h3)]
    · unfold f_X9_enter
      simp only [ix_7, cl_7, mA_1, mA_sp]
      rw [jn_e, h5, if_pos (by decide), bnd_e, show nI 60 - 1 = nI 59 by decide]
      rw [show (592 : Int32) = nI 592 from rfl]
      rw [m_enter_L _ _ _ _ 59 592 (by omega) (by omega) 5000 (by omega) (upd a 7 (nI 59)) pk_us]
      have e7 : shf (upd a 7 (nI 59)) 1 592 651 7 = nI 59 := by rw [shf_out (by omega)]; exact pk_us
      dsimp only
      rw [mA_1, e7, nI_add, ix_l _ (by omega), cl_n (by omega), mA_sp, bnd_e, ent_n, mA_1, mA_sp, bnd_e, upd_at, if_neg (by decide), e7, nI_1]
    · refine ⟨(f + 1) % 60, 60, Nat.mod_lt _ (by omega), Nat.le_refl _, sp_eq' _ _ _ _, by rw [sp_at, if_neg (by decide), apR_21]; exact h4, pk_us, fun k hk => ?_⟩
      rw [sp21 (by decide), sp21 (by decide), sp21 (by decide), (apR_at _).1, (apR_at _).2.1, (apR_at _).2.2]
      by_cases hk9 : k = 59
      · subst hk9
        refine ⟨c, r, n, hc, hr, hn, if_pos (by omega), if_pos (by omega), if_pos (by omega), ?_⟩
        rw [upd_at, if_neg (by decide), upd_at, if_pos (by decide)]
      · have e : ((f + 1) % 60 + k) % 60 = (f + (k + 1)) % 60 := by omega
        have ne : ¬ (f + (k + 1)) % 60 = f := by omega
        obtain ⟨c', r', n', q1, q2, q3, q4, q5, q6, q7⟩ := h6 (k + 1) (by omega)
        rw [e, if_neg ne, if_neg ne, if_neg ne]
        refine ⟨c', r', n', q1, q2, q3, q4, q5, q6, ?_⟩
        rw [upd_at, if_neg (by omega), upd_at, if_neg (by omega), shf_in (by omega) (by omega), upd_at, if_neg (by omega)]
        exact q7
    · intro k hk
      rw [sp21 (fun q => by rw [q] at hk; cases hk), apR_ne hk]
    · intro i hi h7
      rw [upd_at, if_neg h7, upd_at, if_neg (by omega), shf_out (by omega), upd_at, if_neg h7]
  · refine ⟨sp (apR L ((f + l) % 60) c r n) 21 4 (nI (l + 1)), upd (upd a (592 + l) (nI (2 * (24 * r + n) + c))) 7 (nI (l + 1)), ?_, ?_, ?_, ?_, ?_⟩
    · rw [eAp, if_neg (show ¬ (60 : Int32) ≤ nI l from nI_ge (b := 60) (by omega) (by omega)), nI_1]
    · unfold f_X9_enter
      simp only [ix_7, cl_7, mA_1, mA_sp]
      rw [jn_e, h5, if_neg (show ¬ nI l = (60 : Int32) from fun q => hl ((nI_eq (b := 60) (by omega) (by omega)).mp q))]
      dsimp only
      rw [mA_1, h5, show (592 : Int32) = nI 592 from rfl, nI_add, ix_l _ (by omega), cl_n (by omega), mA_sp, bnd_e, ent_n, mA_1, mA_sp, bnd_e, upd_at, if_neg (by omega), h5, nI_1]
    · refine ⟨f, l + 1, h1, by omega, by rw [sp_at, if_neg (by decide), apR_21]; exact h3, sp_eq' _ _ _ _, pk_us, fun k hk => ?_⟩
      rw [sp21 (by decide), sp21 (by decide), sp21 (by decide), (apR_at _).1, (apR_at _).2.1, (apR_at _).2.2]
      by_cases hk9 : k = l
      · subst hk9
        refine ⟨c, r, n, hc, hr, hn, if_pos rfl, if_pos rfl, if_pos rfl, ?_⟩
        rw [upd_at, if_neg (by omega), upd_at, if_pos rfl]
      · have ne : ¬ (f + k) % 60 = (f + l) % 60 := by omega
        obtain ⟨c', r', n', q1, q2, q3, q4, q5, q6, q7⟩ := h6 k (by omega)
        rw [if_neg ne, if_neg ne, if_neg ne]
        refine ⟨c', r', n', q1, q2, q3, q4, q5, q6, ?_⟩
        rw [upd_at, if_neg (by omega), upd_at, if_neg (by omega)]
        exact q7
    · intro k hk
      rw [sp21 (fun q => by rw [q] at hk; cases hk), apR_ne hk]
    · intro i hi h7
      rw [upd_at, if_neg h7, upd_at, if_neg (by omega)]
