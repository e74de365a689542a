variable {V : VB} {L : St} {M : St} {a : FN} {z : Nat} {G : Gs}
/-! ===== rows copied by the reference ===== -/
def blk (f g : FN) (so dd x : Nat) : FN := fun i => if dd + x ≤ i ∧ i < dd + 652 then f (so + (i - dd)) else g i
theorem blk_nil {f g : FN} {so dd : Nat} : blk f g so dd 652 = g := funext fun i => if_neg (by omega)
theorem blk_in {f g : FN} {so dd i : Nat} (h : i < 652) : blk f g so dd 0 (dd + i) = f (so + i) := by
  unfold blk
  rw [if_pos ⟨by omega, by omega⟩, Nat.add_sub_cancel_left]
theorem blk_in0 {f g : FN} {so i : Nat} (h : i < 652) : blk f g so 0 0 i = f (so + i) := by
  have := blk_in (f := f) (g := g) (so := so) (dd := 0) h
  rwa [Nat.zero_add] at this
theorem blk_out {f g : FN} {so dd x i : Nat} (h : i < dd ∨ dd + 652 ≤ i) : blk f g so dd x i = g i := if_neg (by omega)
theorem blk_step {f g : FN} {so dd x : Nat} (h : x < 652) : blk f (upd g (dd + x) (f (so + x))) so dd (x + 1) = blk f g so dd x := by
  funext i
  unfold blk
  rw [upd_at]
  by_cases h1 : i = dd + x
  · rw [if_neg (by omega), if_pos h1, if_pos ⟨by omega, by omega⟩, h1, Nat.add_sub_cancel_left]
  · by_cases h2 : dd + x ≤ i ∧ i < dd + 652
    · rw [if_pos ⟨by omega, by omega⟩, if_pos h2]
    · rw [if_neg (by omega), if_neg h1, if_neg h2]
theorem sp_up (S : St) (k j : Nat) (x : Int32) : sp S k j x = va_up S k (upd (S k) j x) := rfl
theorem i652 {p x : Nat} : (652 * nI p + nI x : Int32) = nI (652 * p + x) := by
  rw [show (652 : Int32) = nI 652 from rfl, pk_mul, nI_add]
theorem m_keep_L47 {p : Nat} (hp : p < 6) (k : Int32 → St → Option St) : ∀ (d x : Nat), x + d = 652 → ∀ f, d < f → ∀ S, f_X9_keep_L47 (nI p) k f (nI x) S = k (nI 652) (va_up S 2 (blk (S 1) (S 2) (0) (652 * p) x))
  | 0, x, h, f + 1, _, S => by
    have e : x = 652 := by omega
    subst e
    rw [f_X9_keep_L47, if_pos (show (652 : Int32) ≤ nI 652 from nI_le (a := 652) (by omega) (by omega)), blk_nil, up_id]
  | d + 1, x, h, f + 1, hf, S => by
    rw [f_X9_keep_L47, if_neg (show ¬ (652 : Int32) ≤ nI x from nI_ge (b := 652) (by omega) (by omega)), ix_l _ (by omega), i652, ix_ok (show 652 * p + x < 3912 by omega) (by omega), cl_n (by omega), cl_n (by omega), bnd_e, nI_1, m_keep_L47 hp k d (x + 1) (by omega) f (by omega)]
    have e1 : sp S 2 (652 * p + x) (S 1 (x)) 1 = S 1 := sp_row' _ _ _ (by decide)
    have e2 : sp S 2 (652 * p + x) (S 1 (x)) 2 = upd (S 2) (652 * p + x) (S 1 (x)) := sp_row _ _ _ _
    have e4 := blk_step (f := S 1) (g := S 2) (so := 0) (dd := 652 * p) (x := x) (by omega)
    rw [e1, e2, sp_up, up_up]
    rw [Nat.zero_add] at e4
    rw [e4]
theorem m_layAside_L2 : ∀ (d x : Nat), x + d = 652 → ∀ f, d < f → ∀ S, f_X9_layAside_L2 f (nI x) S = some (va_up S 5 (blk (S 1) (S 5) (0) (0) x))
  | 0, x, h, f + 1, _, S => by
    have e : x = 652 := by omega
    subst e
    rw [f_X9_layAside_L2, if_pos (show (652 : Int32) ≤ nI 652 from nI_le (a := 652) (by omega) (by omega)), blk_nil, up_id]
  | d + 1, x, h, f + 1, hf, S => by
    rw [f_X9_layAside_L2, if_neg (show ¬ (652 : Int32) ≤ nI x from nI_ge (b := 652) (by omega) (by omega)), ix_l _ (by omega), ix_l _ (by omega), cl_n (by omega), bnd_e, nI_1, m_layAside_L2 d (x + 1) (by omega) f (by omega)]
    have e1 : sp S 5 (x) (S 1 (x)) 1 = S 1 := sp_row' _ _ _ (by decide)
    have e2 : sp S 5 (x) (S 1 (x)) 5 = upd (S 5) (x) (S 1 (x)) := sp_row _ _ _ _
    have e4 := blk_step (f := S 1) (g := S 5) (so := 0) (dd := 0) (x := x) (by omega)
    rw [e1, e2, sp_up, up_up]
    rw [Nat.zero_add] at e4
    rw [e4]
theorem m_layBack_L2 : ∀ (d x : Nat), x + d = 652 → ∀ f, d < f → ∀ S, f_X9_layBack_L2 f (nI x) S = some (va_up S 1 (blk (S 5) (S 1) (0) (0) x))
  | 0, x, h, f + 1, _, S => by
    have e : x = 652 := by omega
    subst e
    rw [f_X9_layBack_L2, if_pos (show (652 : Int32) ≤ nI 652 from nI_le (a := 652) (by omega) (by omega)), blk_nil, up_id]
  | d + 1, x, h, f + 1, hf, S => by
    rw [f_X9_layBack_L2, if_neg (show ¬ (652 : Int32) ≤ nI x from nI_ge (b := 652) (by omega) (by omega)), ix_l _ (by omega), ix_l _ (by omega), cl_n (by omega), bnd_e, nI_1, m_layBack_L2 d (x + 1) (by omega) f (by omega)]
    have e1 : sp S 1 (x) (S 5 (x)) 5 = S 5 := sp_row' _ _ _ (by decide)
    have e2 : sp S 1 (x) (S 5 (x)) 1 = upd (S 1) (x) (S 5 (x)) := sp_row _ _ _ _
    have e4 := blk_step (f := S 5) (g := S 1) (so := 0) (dd := 0) (x := x) (by omega)
    rw [e1, e2, sp_up, up_up]
    rw [Nat.zero_add] at e4
    rw [e4]
theorem m_undo_L35 {p : Nat} (hp : p < 6) : ∀ (d x : Nat), x + d = 652 → ∀ f, d < f → ∀ S, f_X9_undo_L35 (nI p) f (nI x) S = some (S 0 3, (va_up S 1 (blk (S 2) (S 1) (652 * p) (0) x)))
  | 0, x, h, f + 1, _, S => by
    have e : x = 652 := by omega
    subst e
    rw [f_X9_undo_L35, if_pos (show (652 : Int32) ≤ nI 652 from nI_le (a := 652) (by omega) (by omega)), blk_nil, up_id]
  | d + 1, x, h, f + 1, hf, S => by
    rw [f_X9_undo_L35, if_neg (show ¬ (652 : Int32) ≤ nI x from nI_ge (b := 652) (by omega) (by omega)), i652, ix_ok (show 652 * p + x < 3912 by omega) (by omega), ix_l _ (by omega), cl_n (by omega), cl_n (by omega), bnd_e, nI_1, m_undo_L35 hp d (x + 1) (by omega) f (by omega)]
    have e1 : sp S 1 (x) (S 2 (652 * p + x)) 2 = S 2 := sp_row' _ _ _ (by decide)
    have e2 : sp S 1 (x) (S 2 (652 * p + x)) 1 = upd (S 1) (x) (S 2 (652 * p + x)) := sp_row _ _ _ _
    have e3 : sp S 1 (x) (S 2 (652 * p + x)) 0 = S 0 := sp_row' _ _ _ (by decide)
    rw [e3]
    have e4 := blk_step (f := S 2) (g := S 1) (so := 652 * p) (dd := 0) (x := x) (by omega)
    rw [e1, e2, sp_up, up_up]
    rw [Nat.zero_add] at e4
    rw [e4]
theorem m_save_L14 {p : Nat} (hp : p < 2) (k : Int32 → St → Option (Int32 × St)) : ∀ (d x : Nat), x + d = 652 → ∀ f, d < f → ∀ S, f_X9_save_L14 (nI p) k f (nI x) S = k (nI 652) (va_up S 3 (blk (S 1) (S 3) (0) (652 * p) x))
  | 0, x, h, f + 1, _, S => by
    have e : x = 652 := by omega
    subst e
    rw [f_X9_save_L14, if_pos (show (652 : Int32) ≤ nI 652 from nI_le (a := 652) (by omega) (by omega)), blk_nil, up_id]
  | d + 1, x, h, f + 1, hf, S => by
    rw [f_X9_save_L14, if_neg (show ¬ (652 : Int32) ≤ nI x from nI_ge (b := 652) (by omega) (by omega)), ix_l _ (by omega), i652, ix_ok (show 652 * p + x < 1304 by omega) (by omega), cl_n (by omega), cl_n (by omega), bnd_e, nI_1, m_save_L14 hp k d (x + 1) (by omega) f (by omega)]
    have e1 : sp S 3 (652 * p + x) (S 1 (x)) 1 = S 1 := sp_row' _ _ _ (by decide)
    have e2 : sp S 3 (652 * p + x) (S 1 (x)) 3 = upd (S 3) (652 * p + x) (S 1 (x)) := sp_row _ _ _ _
    have e4 := blk_step (f := S 1) (g := S 3) (so := 0) (dd := 652 * p) (x := x) (by omega)
    rw [e1, e2, sp_up, up_up]
    rw [Nat.zero_add] at e4
    rw [e4]
theorem m_restore_L30 {p : Nat} (hp : p < 2) (k : Int32 → St → Option (Int32 × St)) : ∀ (d x : Nat), x + d = 652 → ∀ f, d < f → ∀ S, f_X9_restore_L30 (nI p) k f (nI x) S = k (nI 652) (va_up S 1 (blk (S 3) (S 1) (652 * p) (0) x))
  | 0, x, h, f + 1, _, S => by
    have e : x = 652 := by omega
    subst e
    rw [f_X9_restore_L30, if_pos (show (652 : Int32) ≤ nI 652 from nI_le (a := 652) (by omega) (by omega)), blk_nil, up_id]
  | d + 1, x, h, f + 1, hf, S => by
    rw [f_X9_restore_L30, if_neg (show ¬ (652 : Int32) ≤ nI x from nI_ge (b := 652) (by omega) (by omega)), i652, ix_ok (show 652 * p + x < 1304 by omega) (by omega), ix_l _ (by omega), cl_n (by omega), cl_n (by omega), bnd_e, nI_1, m_restore_L30 hp k d (x + 1) (by omega) f (by omega)]
    have e1 : sp S 1 (x) (S 3 (652 * p + x)) 3 = S 3 := sp_row' _ _ _ (by decide)
    have e2 : sp S 1 (x) (S 3 (652 * p + x)) 1 = upd (S 1) (x) (S 3 (652 * p + x)) := sp_row _ _ _ _
    have e4 := blk_step (f := S 3) (g := S 1) (so := 652 * p) (dd := 0) (x := x) (by omega)
    rw [e1, e2, sp_up, up_up]
    rw [Nat.zero_add] at e4
    rw [e4]
/-! ===== library, history, slots, pad ===== -/
def HIx (M : St) (G : Gs) (f l : Nat) : Prop := f < 6 ∧ l ≤ 6 ∧ G 0 1 1 = nI f ∧ G 0 1 2 = nI l ∧ M 0 2 = nI f ∧ M 0 3 = nI l ∧ ∀ i, i < l → Sim (fun k => M 2 (652 * ((f + i) % 6) + k)) (G ((f + i) % 6 + 2 + 2))
def HI (M : St) (G : Gs) : Prop := ∃ f l, HIx M G f l
def SL (M : St) (G : Gs) : Prop := ∀ s, s < 2 → (M 4 s = 0 ↔ G 0 3 s = 0) ∧ (¬ M 4 s = 0 → Sim (fun k => M 3 (652 * s + k)) (G (s + 8 + 2)))
def PD (M : St) (G : Gs) : Prop := ∃ l : Nat, l ≤ 80 ∧ G 0 4 1 = nI l ∧ M 0 8 = nI l ∧ ∀ i, i < l → G 0 6 i = M 6 i ∧ ∃ c : Nat, 33 ≤ c ∧ c ≤ 126 ∧ M 6 i = nI c
def RLG (G : Gs) (M : St) : Prop := Sim (M 1) (G 2) ∧ HI M G ∧ SL M G ∧ PD M G
def Rel (G : Gs) : Prop := RLG G (G 1)
theorem hi_same {M' : St} {G' : Gs} (h : HI M G) (g0 : G' 0 1 = G 0 1) (m2 : M' 0 2 = M 0 2) (m3 : M' 0 3 = M 0 3) (mp : M' 2 = M 2) (gh : ∀ p, p < 6 → G' (p + 2 + 2) = G (p + 2 + 2)) : HI M' G' := by
  obtain ⟨f, l, h1, h2, h3, h4, h5, h6, h7⟩ := h
  exact ⟨f, l, h1, h2, by rw [g0]; exact h3, by rw [g0]; exact h4, m2.trans h5, m3.trans h6, fun i hi => by rw [mp, gh _ (Nat.mod_lt _ (by omega))]; exact h7 i hi⟩
theorem sl_same {M' : St} {G' : Gs} (h : SL M G) (g0 : G' 0 3 = G 0 3) (m3 : M' 3 = M 3) (m4 : M' 4 = M 4) (gs : ∀ s, s < 2 → G' (s + 8 + 2) = G (s + 8 + 2)) : SL M' G' := by
  intro s hs
  rw [g0, m3, m4, gs s hs]
  exact h s hs
theorem pd_same {M' : St} {G' : Gs} (h : PD M G) (g4 : G' 0 4 = G 0 4) (g6 : G' 0 6 = G 0 6) (m8 : M' 0 8 = M 0 8) (m6 : M' 6 = M 6) : PD M' G' := by
  obtain ⟨l, h1, h2, h3, h4⟩ := h
  exact ⟨l, h1, by rw [g4]; exact h2, m8.trans h3, fun i hi => by rw [g6, m6]; exact h4 i hi⟩
theorem rel_up {G1 : Gs} (h : RLG G1 M) : Rel (va_up G1 1 M) := by
  have e : ∀ o, o ≠ 1 → va_up G1 1 M o = G1 o := fun o ho => up_ne _ _ ho
  obtain ⟨h1, h2, h3, h4⟩ := h
  unfold Rel
  rw [up_self]
  refine ⟨by rw [e 2 (by omega)]; exact h1, hi_same h2 (by rw [e 0 (by omega)]) rfl rfl rfl (fun p _ => e _ (by omega)), sl_same h3 (by rw [e 0 (by omega)]) rfl rfl (fun s _ => e _ (by omega)), pd_same h4 (by rw [e 0 (by omega)]) (by rw [e 0 (by omega)]) rfl rfl⟩
/-- a new library beside a new row 1 -/
theorem rl_lib {L' : St} {a' : FN} (h : RLG G M) (g : Sim a' L') : RLG (va_up G 2 L') (mA M a') := by
  obtain ⟨h1, h2, h3, h4⟩ := h
  have e : ∀ o, o ≠ 2 → va_up G 2 L' o = G o := fun o ho => up_ne _ _ ho
  have m : ∀ k, k ≠ 1 → mA M a' k = M k := fun k hk => mA_ne M a' hk
  refine ⟨by rw [mA_1, up_self]; exact g, hi_same h2 (by rw [e 0 (by omega)]) (by rw [m 0 (by omega)]) (by rw [m 0 (by omega)]) (m 2 (by omega)) (fun p _ => e _ (by omega)), sl_same h3 (by rw [e 0 (by omega)]) (m 3 (by omega)) (m 4 (by omega)) (fun s _ => e _ (by omega)), pd_same h4 (by rw [e 0 (by omega)]) (by rw [e 0 (by omega)]) (by rw [m 0 (by omega)]) (m 6 (by omega))⟩
theorem stAt_n {β : Type} {j : Nat} {k : Nat → Option β} (hj : j < 6) : stAt (nI j) k = k j := by
  unfold stAt
  rw [if_neg (nI_in hj (by omega)), cl_n (by omega)]
theorem mod6 {x y : Nat} (hx : x < 100) (hy : y < 100) : (nI x + nI y) - (nI x + nI y) / 6 * 6 = nI ((x + y) % 6) := by
  rw [nI_add]
  exact pk_rem (d := 6) (by omega) (by omega) (by omega)
/-! one state more is kept -/
def kpM (M : St) (f l : Nat) : St := sp (va_up M 2 (blk (M 1) (M 2) 0 (652 * ((f + l) % 6)) 0)) 0 3 (nI (l + 1))
def kpG (G : Gs) (f l : Nat) (L' : St) : Gs := va_up (va_up G ((f + l) % 6 + 2 + 2) L') 0 (sp (G 0) 1 2 (nI (l + 1)))
theorem keep_m2 {f l : Nat} (h : HIx M G f l) : f_X9_keep_L47 (((M 0 2) + (M 0 3)) - ((M 0 2) + (M 0 3)) / 6 * 6) (fun (x2_78 : Int32) (S_78 : St) => bnd (sp S_78 0 3 ((S_78 0 3) + 1)) (fun S3 => some S3)) 5000 0 M = some (kpM M f l) := by
  obtain ⟨h1, h2, h3, h4, h5, h6, h7⟩ := h
  rw [h5, h6, mod6 (by omega) (by omega)]
  refine (m_keep_L47 (Nat.mod_lt _ (by omega)) _ 652 0 (by omega) 5000 (by omega) M).trans ?_
  rw [bnd_e, up_ne _ _ (show 0 ≠ 2 by decide), h6, nI_1]
  rfl
theorem keep_c2 {f l : Nat} (h : HIx M G f l) : ∃ L', stAt (((G 0 1 1) + (G 0 1 2)) - ((G 0 1 1) + (G 0 1 2)) / 6 * 6) (fun j2 => bnd (f_X3_copyFrom G (j2 + 2) 0) (fun S3 => bnd (va_up S3 0 (sp (S3 0) 1 2 ((S3 0 1 2) + 1))) (fun S4 => some S4))) = some (kpG G f l L') ∧ ∀ k j, inR k j → L' k j = G 2 k j := by
  obtain ⟨h1, h2, h3, h4, h5, h6, h7⟩ := h
  have hp : (f + l) % 6 < 6 := Nat.mod_lt _ (by omega)
  obtain ⟨L', e1, e2⟩ := copy_ok G (b := (f + l) % 6 + 2) (b' := 0) (by omega)
  refine ⟨L', ?_, e2⟩
  rw [h3, h4, mod6 (by omega) (by omega), stAt_n hp, e1, bnd_e, bnd_e, up_ne _ _ (show 0 ≠ (f + l) % 6 + 2 + 2 by omega), h4, nI_1]
  rfl
theorem keep_h2 {f l : Nat} {L' : St} (h : HIx M G f l) (hl : l < 6) (hs : Sim (M 1) (G 2)) (hL : ∀ k j, inR k j → L' k j = G 2 k j) : HIx (kpM M f l) (kpG G f l L') f (l + 1) := by
  obtain ⟨h1, h2, h3, h4, h5, h6, h7⟩ := h
  have hp : (f + l) % 6 < 6 := Nat.mod_lt _ (by omega)
  unfold kpM kpG
  refine ⟨h1, by omega, ?_, ?_, ?_, sp_eq' _ _ _ _, fun i hi => ?_⟩
  · rw [up_self, sp_at, if_neg (by omega)]; exact h3
  · rw [up_self, sp_eq']
  · rw [sp_at, if_neg (by omega), up_ne _ _ (by decide)]; exact h5
  · rw [sp_row' _ _ _ (show 2 ≠ 0 by decide), up_self, up_ne _ _ (show (f + i) % 6 + 2 + 2 ≠ 0 by omega)]
    by_cases e : i = l
    · subst e
      rw [up_self]
      exact sim_pt hs hL (fun j hj => by rw [blk_in hj, Nat.zero_add])
    · rw [up_ne _ _ (show (f + i) % 6 + 2 + 2 ≠ (f + l) % 6 + 2 + 2 by omega)]
      exact sim_pt (h7 i (by omega)) (fun _ _ _ => rfl) (fun j hj => blk_out (by omega))
theorem keep_ok (h : RLG G M) : ∃ G' M', f_X2_keep G = some G' ∧ f_X9_keep M = some M' ∧ RLG G' M' ∧ M' 1 = M 1 ∧ G' 2 = G 2 ∧ G' 1 = G 1 ∧ (∀ k, 3 ≤ k → M' k = M k) ∧ (∀ j, 4 ≤ j → M' 0 j = M 0 j) ∧ (∀ k, k ≠ 1 → G' 0 k = G 0 k) ∧ ∀ o, 10 ≤ o → G' o = G o := by
  obtain ⟨r1, ⟨f, l, hx⟩, r3, r4⟩ := h
  have fin : ∀ (G1 : Gs) (M1 : St) (f l : Nat), HIx M1 G1 f l → l < 6 → M1 1 = M 1 → G1 2 = G 2 → G1 1 = G 1 → (∀ k, 3 ≤ k → M1 k = M k) → (∀ j, 4 ≤ j → M1 0 j = M 0 j) → (∀ k, k ≠ 1 → G1 0 k = G 0 k) → (∀ o, 10 ≤ o → G1 o = G o) → ∃ G' M', stAt (((G1 0 1 1) + (G1 0 1 2)) - ((G1 0 1 1) + (G1 0 1 2)) / 6 * 6) (fun j2 => bnd (f_X3_copyFrom G1 (j2 + 2) 0) (fun S3 => bnd (va_up S3 0 (sp (S3 0) 1 2 ((S3 0 1 2) + 1))) (fun S4 => some S4))) = some G' ∧ f_X9_keep_L47 (((M1 0 2) + (M1 0 3)) - ((M1 0 2) + (M1 0 3)) / 6 * 6) (fun (x2_78 : Int32) (S_78 : St) => bnd (sp S_78 0 3 ((S_78 0 3) + 1)) (fun S3 => some S3)) 5000 0 M1 = some M' ∧ RLG G' M' ∧ M' 1 = M 1 ∧ G' 2 = G 2 ∧ G' 1 = G 1 ∧ (∀ k, 3 ≤ k → M' k = M k) ∧ (∀ j, 4 ≤ j → M' 0 j = M 0 j) ∧ (∀ k, k ≠ 1 → G' 0 k = G 0 k) ∧ ∀ o, 10 ≤ o → G' o = G o := by
    intro G1 M1 f l hx hl m1 g2 g1 mk mj gk go
    obtain ⟨L', e1, e2⟩ := keep_c2 hx
    have hp : (f + l) % 6 < 6 := Nat.mod_lt _ (by omega)
    have hh := keep_h2 hx hl (by rw [m1, g2]; exact r1) e2
    have a1 : kpM M1 f l 1 = M 1 := by unfold kpM; rw [sp_row' _ _ _ (by decide), up_ne _ _ (by decide)]; exact m1
    have a2 : kpG G1 f l L' 2 = G 2 := by unfold kpG; rw [up_ne _ _ (by decide), up_ne _ _ (by omega)]; exact g2
    have a3 : kpG G1 f l L' 1 = G 1 := by unfold kpG; rw [up_ne _ _ (by decide), up_ne _ _ (by omega)]; exact g1
    have a4 : ∀ k, 3 ≤ k → kpM M1 f l k = M k := fun k hk => by unfold kpM; rw [sp_row' _ _ _ (by omega), up_ne _ _ (by omega)]; exact mk k hk
    have a5 : ∀ j, 4 ≤ j → kpM M1 f l 0 j = M 0 j := fun j hj => by unfold kpM; rw [sp_at, if_neg (by omega), up_ne _ _ (by decide)]; exact mj j hj
    have a6 : ∀ k, k ≠ 1 → kpG G1 f l L' 0 k = G 0 k := fun k hk => by unfold kpG; rw [up_self, sp_row' _ _ _ hk]; exact gk k hk
    have a7 : ∀ o, 10 ≤ o → kpG G1 f l L' o = G o := fun o ho => by unfold kpG; rw [up_ne _ _ (by omega), up_ne _ _ (by omega)]; exact go o ho
    exact ⟨_, _, e1, keep_m2 hx, ⟨by rw [a1, a2]; exact r1, ⟨_, _, hh⟩, sl_same r3 (a6 3 (by decide)) (a4 3 (by omega)) (a4 4 (by omega)) (fun s _ => a7 _ (by omega)), pd_same r4 (a6 4 (by decide)) (a6 6 (by decide)) (a5 8 (by omega)) (a4 6 (by omega))⟩, a1, a2, a3, a4, a5, a6, a7⟩
  obtain ⟨h1, h2, h3, h4, h5, h6, h7⟩ := id hx
  unfold f_X2_keep f_X9_keep
  rw [jn_e, jn_e, h4, h6]
  by_cases hl : l < 6
  · rw [if_pos (show nI l < (6 : Int32) from nI_lt (b := 6) hl (by omega)), if_neg (show ¬ nI l = (6 : Int32) from fun q => by have := (nI_eq (b := 6) (by omega) (by omega)).mp q; omega)]
    exact fin G M f l hx hl rfl rfl rfl (fun _ _ => rfl) (fun _ _ => rfl) (fun _ _ => rfl) (fun _ _ => rfl)
  · have e : l = 6 := by omega
    subst e
    have m6 : (nI f + 1 : Int32) - (nI f + 1) / 6 * 6 = nI ((f + 1) % 6) := mod6 (x := f) (y := 1) (by omega) (by omega)
    rw [if_neg (show ¬ nI 6 < (6 : Int32) by decide), if_pos (show nI 6 = (6 : Int32) from rfl), bnd_e, bnd_e, bnd_e, bnd_e, h3, h5, m6]
    have ge : va_up (va_up G 0 (sp (G 0) 1 1 (nI ((f + 1) % 6)))) 0 (sp (va_up G 0 (sp (G 0) 1 1 (nI ((f + 1) % 6))) 0) 1 2 (va_up G 0 (sp (G 0) 1 1 (nI ((f + 1) % 6))) 0 1 2 - 1)) = va_up G 0 (sp (sp (G 0) 1 1 (nI ((f + 1) % 6))) 1 2 (nI 5)) := by
      rw [up_self, up_up, sp_at, if_neg (by omega), h4]
      rfl
    have me : sp (sp M 0 2 (nI ((f + 1) % 6))) 0 3 (sp M 0 2 (nI ((f + 1) % 6)) 0 3 - 1) = sp (sp M 0 2 (nI ((f + 1) % 6))) 0 3 (nI 5) := by
      rw [sp_at, if_neg (by omega), h6]
      rfl
    rw [ge, me]
    refine fin _ _ ((f + 1) % 6) 5 ⟨Nat.mod_lt _ (by omega), by omega, ?_, ?_, ?_, sp_eq' _ _ _ _, fun i hi => ?_⟩ (by omega) ?_ ?_ ?_ ?_ ?_ ?_ ?_
    · rw [up_self, sp_at, if_neg (by omega), sp_eq']
    · rw [up_self, sp_eq']
    · rw [sp_at, if_neg (by omega), sp_eq']
    · have q := h7 (i + 1) (by omega)
      rw [show ((f + 1) % 6 + i) % 6 = (f + (i + 1)) % 6 by omega, up_ne _ _ (by omega), sp_row' _ _ _ (by decide), sp_row' _ _ _ (by decide)]
      exact q
    · rw [sp_row' _ _ _ (by decide), sp_row' _ _ _ (by decide)]
    · exact up_ne _ _ (by decide)
    · exact up_ne _ _ (by decide)
    · intro k hk
      rw [sp_row' _ _ _ (by omega), sp_row' _ _ _ (by omega)]
    · intro j hj
      rw [sp_at, if_neg (by omega), sp_at, if_neg (by omega)]
    · intro k hk
      rw [up_self, sp_row' _ _ _ hk, sp_row' _ _ _ hk]
    · intro o ho
      exact up_ne _ _ (by omega)
