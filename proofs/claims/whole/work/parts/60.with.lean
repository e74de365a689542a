variable {V : VB} {L : St} {M : St} {a : FN} {z : Nat} {G : Gs}
/-! ===== the account with other settings ===== -/
theorem inv_fresh {T : St} (hT : wfT T) (h7 : ∀ n, n < 24 → T 7 n = 0) (h9 : ∀ n, n < 24 → T 9 n = 0) (h12 : ∀ r, r < 16 → T 12 r = 0) (h20 : ∀ n, n < 24 → T 20 n = 0) : Inv 24 T := by
  have l0 : ∀ r, r < 16 → len T r = 0 := fun r hr => nI_len (x := 0) (by omega) (h12 r hr)
  have no : ∀ r n, r < 16 → ¬ hasC T r n := fun r n hr q => by
    have q' : plc T r n < len T r := q
    rw [l0 r hr] at q'
    exact Nat.not_lt_zero _ q'
  refine ⟨hT, fun n hn => ⟨isN_of (x := 0) (by omega) (by omega) (h7 n hn), fun i _ _ => by rw [h9 n hn, b_0], fun _ => h9 n hn⟩, fun r hr => ⟨isN_of (x := 0) (by omega) (by omega) (h12 r hr), fun p hp => ?_, fun p q hp => ?_⟩, fun n hn i hi => ?_, fun n hn _ h3 => ?_, fun n hn r hr v hv => ?_, fun n hn r hr hc => absurd hc (no r n hr)⟩
  · rw [l0 r hr] at hp; exact absurd hp (Nat.not_lt_zero _)
  · rw [l0 r hr] at hp; exact absurd hp (Nat.not_lt_zero _)
  · rw [h20 n hn, b_0]
    exact ⟨fun q => absurd q (by decide), fun q => absurd q.2 (no i n q.1)⟩
  · rw [h7 n hn] at h3; exact absurd h3 d03
  · exact absurd (hasC_cp.mpr ⟨v, 1, hv⟩) (no r n hr)
def z12 (a : FN) (i : Nat) : FN := fun p => if 128 ≤ p ∧ p < 208 ∧ (p - 128) % 5 = 0 ∧ i ≤ (p - 128) / 5 then 0 else a p
def zC (a : FN) (i : Nat) : FN := fun p => if 8 ≤ p ∧ p < 128 ∧ ((p - 8) % 5 = 1 ∨ (p - 8) % 5 = 2) ∧ i ≤ (p - 8) / 5 then 0 else a p
theorem z12_nil : z12 a 16 = a := funext fun p => if_neg (by omega)
theorem zC_nil : zC a 24 = a := funext fun p => if_neg (by omega)
theorem z12_step {i : Nat} (hi : i < 16) : z12 (upd a (128 + 5 * i) 0) (i + 1) = z12 a i := by
  funext p
  unfold z12
  rw [upd_at]
  by_cases h : p = 128 + 5 * i
  · rw [if_neg (by omega), if_pos h, if_pos (by omega)]
  · by_cases h2 : 128 ≤ p ∧ p < 208 ∧ (p - 128) % 5 = 0 ∧ i ≤ (p - 128) / 5
    · rw [if_pos (by omega), if_pos h2]
    · rw [if_neg (by omega), if_neg h, if_neg h2]
theorem zC_step {i : Nat} (hi : i < 24) : zC (upd (upd a (pos 7 i) 0) (pos 9 i) 0) (i + 1) = zC a i := by
  have e7 : pos 7 i = 9 + 5 * i := rfl
  have e9 : pos 9 i = 10 + 5 * i := rfl
  funext p
  unfold zC
  rw [upd_at, upd_at, e7, e9]
  by_cases h : p = 10 + 5 * i
  · rw [if_neg (by omega), if_pos h, if_pos (by omega)]
  · by_cases h' : p = 9 + 5 * i
    · rw [if_neg (by omega), if_neg h, if_pos h', if_pos (by omega)]
    · by_cases h2 : 8 ≤ p ∧ p < 128 ∧ ((p - 8) % 5 = 1 ∨ (p - 8) % 5 = 2) ∧ i ≤ (p - 8) / 5
      · rw [if_pos (by omega), if_pos h2]
      · rw [if_neg (by omega), if_neg h, if_neg h', if_neg h2]
theorem m_z12_L (x1 x2 : Int32) (k : Int32 → St → Option (Int32 × St)) (S : St) : ∀ (d i : Nat), i + d = 16 → ∀ f, d < f → ∀ a : FN, f_X9_messagesWith_L6 x1 x2 k f (nI i) (mA S a) = k (nI 16) (mA S (z12 a i))
  | 0, i, e, f + 1, _, a => by
    have : i = 16 := by omega
    subst this
    rw [f_X9_messagesWith_L6, if_pos (show (16 : Int32) ≤ nI 16 from nI_le (a := 16) (by omega) (by omega)), z12_nil]
  | d + 1, i, e, f + 1, hf, a => by
    rw [f_X9_messagesWith_L6, if_neg (show ¬ (16 : Int32) ≤ nI i from nI_ge (b := 16) (by omega) (by omega)), show ((128 : Int32) + 5 * nI i) + 0 = nI (128 + 5 * i) from ofR_i (c := 0), ix_l _ (by omega), cl_n (by omega), mA_sp, bnd_e, nI_1, m_z12_L x1 x2 k S d (i + 1) (by omega) f (by omega), z12_step (by omega)]
theorem m_zC_L (x1 x2 : Int32) (k : Int32 → St → Option (Int32 × St)) (S : St) : ∀ (d i : Nat), i + d = 24 → ∀ f, d < f → ∀ a : FN, f_X9_messagesWith_L35 x1 x2 k f (nI i) (mA S a) = k (nI 24) (mA S (zC a i))
  | 0, i, e, f + 1, _, a => by
    have : i = 24 := by omega
    subst this
    rw [f_X9_messagesWith_L35, if_pos (show (24 : Int32) ≤ nI 24 from nI_le (a := 24) (by omega) (by omega)), zC_nil]
  | d + 1, i, e, f + 1, hf, a => by
    rw [f_X9_messagesWith_L35, if_neg (show ¬ (24 : Int32) ≤ nI i from nI_ge (b := 24) (by omega) (by omega)), layCard_a (by omega), bd_some, nI_1, m_zC_L x1 x2 k S d (i + 1) (by omega) f (by omega), zC_step (by omega)]
/-- the array at the beginning of the trial -/
def aT (a : FN) (nm sz : Nat) : FN := upd (upd (upd (zC (z12 a 0) 0) 0 (nI nm)) 1 (nI sz)) 4 0
theorem aT_hi {nm sz i : Nat} (h : i = 7 ∨ 592 ≤ i ∧ i < 652) : aT a nm sz i = a i := by
  unfold aT
  rw [pk_un (by omega), pk_un (by omega), pk_un (by omega)]
  unfold zC z12
  rw [if_neg (by omega), if_neg (by omega)]
/-- the loop over the account -/
theorem acc_L {S : St} (kc : Int32 → Gs → Option (Int32 × Gs)) (km : Int32 → St → Option (Int32 × St)) {f0 l : Nat} (hf0 : f0 < 60) (hl : l ≤ 60) (c3 : G 2 21 3 = nI f0) (c4 : G 2 21 4 = nI l) (h7 : M 1 7 = nI l) (hE : ∀ k, k < l → ∃ c r n : Nat, c < 2 ∧ r < 16 ∧ n < 24 ∧ G 2 23 ((f0 + k) % 60) = nI c ∧ G 2 25 ((f0 + k) % 60) = nI r ∧ G 2 27 ((f0 + k) % 60) = nI n ∧ M 1 (592 + k) = nI (2 * (24 * r + n) + c)) : ∀ (d k : Nat), k + d = l → ∀ f, d < f → ∀ (T : St) (a : FN) (s : Nat), RM (False, M 1) a T → Inv 24 T → T 29 0 = nI s → s ≤ 42 * k → ∃ T' a' s', f_X3_messagesOfAccount_L53 1 0 kc f (nI k) (va_up G (1 + 2) T) = kc (nI l) (va_up G (1 + 2) T') ∧ f_X9_messagesWith_L77 km f (nI k) (mA S a) = km (nI l) (mA S a') ∧ RM (False, M 1) a' T' ∧ T' 29 0 = nI s' ∧ s' ≤ 42 * l
  | 0, k, e, f + 1, _, T, a, s, h1, h2, h3, h4 => by
    have a7 : a 7 = nI l := (h1.2 7 (Or.inl rfl)).trans h7
    have el : k = l := by omega
    subst el
    rw [f_X3_messagesOfAccount_L53, f_X9_messagesWith_L77, up_ne _ _ (show 0 + 2 ≠ 1 + 2 by decide), show G (0 + 2) 21 4 = nI k from c4, if_pos (nI_le (Nat.le_refl _) (by omega)), ix_7, cl_7, mA_1, a7, if_pos (nI_le (Nat.le_refl _) (by omega))]
    exact ⟨T, a, s, rfl, rfl, h1, h3, h4⟩
  | d + 1, k, e, f + 1, hf, T, a, s, h1, h2, h3, h4 => by
    have a7 : a 7 = nI l := (h1.2 7 (Or.inl rfl)).trans h7
    obtain ⟨c, r, n, q1, q2, q3, q4, q5, q6, q7⟩ := hE k (by omega)
    have aE : a (592 + k) = nI (2 * (24 * r + n) + c) := (h1.2 _ (Or.inr ⟨by omega, by omega⟩)).trans q7
    have hm : (f0 + k) % 60 < 60 := Nat.mod_lt _ (by omega)
    have cell : f_X0_cellOf (G (0 + 2)) (nI k) = nI ((f0 + k) % 60) := cell_n hf0 (by omega) c3
    have r23 : rat 60 (G (0 + 2) 23) (nI ((f0 + k) % 60)) = nI c := (rat_nI hm (by omega)).trans q4
    have r25 : rat 60 (G (0 + 2) 25) (nI ((f0 + k) % 60)) = nI r := (rat_nI hm (by omega)).trans q5
    have r27 : rat 60 (G (0 + 2) 27) (nI ((f0 + k) % 60)) = nI n := (rat_nI hm (by omega)).trans q6
    have e2 : (nI (2 * (24 * r + n) + c)) - (nI (2 * (24 * r + n) + c)) / 2 * 2 = nI c := by
      have := pk_rem (a := 2 * (24 * r + n) + c) (d := 2) (by omega) (by omega) (by omega)
      rw [show (2 * (24 * r + n) + c) % 2 = c by omega] at this
      exact this
    have eh : (nI (2 * (24 * r + n) + c)) / 2 = nI (24 * r + n) := by
      have := pk_div (a := 2 * (24 * r + n) + c) (d := 2) (by omega) (by omega) (by omega)
      rw [show (2 * (24 * r + n) + c) / 2 = 24 * r + n by omega] at this
      exact this
    have er : (nI (24 * r + n)) / 24 = nI r := by
      have := pk_div (a := 24 * r + n) (d := 24) (by omega) (by omega) (by omega)
      rw [show (24 * r + n) / 24 = r by omega] at this
      exact this
    have en : (nI (24 * r + n)) - nI r * 24 = nI n := by
      rw [show (24 : Int32) = nI 24 from rfl, pk_mul, pk_sub (by omega)]
      congr 1
      omega
    have ih := fun T a s => acc_L (S := S) kc km hf0 hl c3 c4 h7 hE d (k + 1) (by omega) f (by omega) T a s
    rw [f_X3_messagesOfAccount_L53, f_X9_messagesWith_L77, up_ne _ _ (show 0 + 2 ≠ 1 + 2 by decide), show G (0 + 2) 21 4 = nI l from c4, if_neg (nI_ge (by omega) (by omega)), ix_7, cl_7, mA_1, a7, if_neg (nI_ge (by omega) (by omega)), show (592 : Int32) + nI k = nI (592 + k) from nI_add 592 k, ix_l _ (by omega), cl_n (by omega), aE, e2, eh, er, en, cell, r23, r25, r27, up_self, jn_e, jn_e, nI_1]
    rcases (show c = 0 ∨ c = 1 by omega) with rfl | rfl
    · obtain ⟨a', v, o1, o2, o3⟩ := m_reads (M := S) h1 h2 q2 q3
      rw [if_neg (show ¬ nI 0 = (1 : Int32) by decide), if_pos (show nI 0 = (0 : Int32) from rfl), c_lend h2 q2 q3, bdp_some, o1, bdp_some]
      dsimp only
      rw [up_up]
      have := rdCost_le h2 q2 (n := n)
      exact ih _ a' (s + rdCost T r n) o2 (inv_lendS h2 q2 q3) (by rw [lend_cost h2 q2 q3, h3, nI_add]) (by omega)
    · obtain ⟨a', o1, o2⟩ := m_changes (M := S) (x := 0) h1 h2 q2 q3
      rw [if_pos (show nI 1 = (1 : Int32) from rfl), if_neg (show ¬ nI 1 = (0 : Int32) by decide), c_rewrite h2 q2 q3, bdp_some, o1, bdp_some]
      dsimp only
      rw [up_up]
      have := chCost_le h2 q2 (n := n)
      exact ih _ a' (s + chCost T r n) o2 (inv_rewS h2 q2 q3) (by rw [(rew_cost h2 q2 q3).1, h3, nI_add]) (by omega)
theorem rl_trial {T : St} (h : RLG G M) : RLG (va_up G (1 + 2) T) M := by
  obtain ⟨h1, h2, h3, h4⟩ := h
  have e : ∀ o, o ≠ 1 + 2 → va_up G (1 + 2) T o = G o := fun o ho => up_ne _ _ ho
  exact ⟨by rw [e 2 (by decide)]; exact h1, hi_same h2 (by rw [e 0 (by decide)]) rfl rfl rfl (fun p _ => e _ (by omega)), sl_same h3 (by rw [e 0 (by decide)]) rfl rfl (fun s _ => e _ (by omega)), pd_same h4 (by rw [e 0 (by decide)]) (by rw [e 0 (by decide)]) rfl rfl⟩
/-- the trial library at its beginning -/
def tT (G : Gs) (nm sz : Nat) : St := rcl 3 (rcl 24 (rcl 16 (rcl 24 (rcl 24 (sp (sp (cpR (G (1 + 2)) (G (0 + 2)) 2 4) 2 0 (nI nm)) 2 1 (nI sz)) 7) 9) 12) 20) 29
theorem rcl_at {n k k' j : Nat} {S : St} : rcl n S k k' j = if k' = k ∧ j < n then 0 else S k' j := by
  unfold rcl
  by_cases h : k' = k
  · subst h
    rw [up_self]
    by_cases hj : j < n
    · rw [if_pos hj, if_pos ⟨rfl, hj⟩]
    · rw [if_neg hj, if_neg (fun q => hj q.2)]
  · rw [up_ne _ _ h, if_neg (fun q => h q.1)]
theorem tT_0 {nm sz : Nat} : (∀ n, n < 24 → tT G nm sz 7 n = 0) ∧ (∀ n, n < 24 → tT G nm sz 9 n = 0) ∧ (∀ n, n < 16 → tT G nm sz 12 n = 0) ∧ (∀ n, n < 24 → tT G nm sz 20 n = 0) ∧ tT G nm sz 29 0 = 0 ∧ ∀ j, j < 4 → tT G nm sz 2 j = if j = 1 then nI sz else if j = 0 then nI nm else G 2 2 j := by
  unfold tT
  refine ⟨fun n hn => ?_, fun n hn => ?_, fun n hn => ?_, fun n hn => ?_, ?_, fun j hj => ?_⟩
  · simp [rcl_at, hn]
  · simp [rcl_at, hn]
  · simp [rcl_at, hn]
  · simp [rcl_at, hn]
  · simp [rcl_at]
  · simp only [rcl_at, sp_at, cpR_at]
    simp [hj]
theorem inv_tT (w : wfT (G 2)) {nm sz : Nat} (h1 : nm ≤ 4) (h2 : 1 ≤ sz) (h3 : sz ≤ 8) : Inv 24 (tT G nm sz) := by
  obtain ⟨t1, t2, t3, t4, t5, t6⟩ := tT_0 (G := G) (nm := nm) (sz := sz)
  refine inv_fresh ?_ t1 t2 t3 t4
  have s0 : tT G nm sz 2 0 = nI nm := t6 0 (by omega)
  have s1 : tT G nm sz 2 1 = nI sz := t6 1 (by omega)
  have s2 : tT G nm sz 2 2 = G 2 2 2 := t6 2 (by omega)
  have s3 : tT G nm sz 2 3 = G 2 2 3 := t6 3 (by omega)
  obtain ⟨w0, w1, w1', w2, w2', w3⟩ := w
  refine ⟨isN_of (by omega) h1 s0, isN_of (by omega) h3 s1, by rw [nI_len (by omega) s1]; exact h2, ?_, ?_, ?_⟩
  · unfold isN num at w2 ⊢
    rw [s2]
    exact w2
  · unfold num at w2' ⊢
    rw [s2]
    exact w2'
  · unfold isN num at w3 ⊢
    rw [s3]
    exact w3
theorem rm_tT (g : Sim (M 1) (G 2)) {nm sz : Nat} : RM (False, M 1) (aT (M 1) nm sz) (tT G nm sz) := by
  obtain ⟨t1, t2, t3, t4, t5, t6⟩ := tT_0 (G := G) (nm := nm) (sz := sz)
  refine ⟨fun k j hj hv hs => ?_, fun i hi => aT_hi hi⟩
  have hc : core k j = true := hv.resolve_left (fun q => q)
  have low : ∀ p, 3 < p → p ≠ 4 → aT (M 1) nm sz p = zC (z12 (M 1) 0) 0 p := fun p h1 h2 => by
    unfold aT
    rw [pk_un h2, pk_un (by omega), pk_un (by omega)]
  rcases rown_in hj with rfl | rfl | rfl | rfl | rfl | rfl | rfl | rfl | rfl | rfl | rfl | rfl | rfl | rfl | rfl
  · have hj' : j < 4 := hj
    rw [t6 j hj', show pos 2 j = j from rfl]
    have e : ∀ i, 2 ≤ i → i < 4 → M 1 i = G 2 2 i := fun i _ hi => rm_at g.1 (k := 2) (j := i) (show i < 4 from hi) rfl rfl
    rcases (show j = 0 ∨ j = 1 ∨ j = 2 ∨ j = 3 by omega) with rfl | rfl | rfl | rfl
    · rfl
    · rfl
    · rw [← e 2 (by omega) (by omega)]; rfl
    · rw [← e 3 (by omega) (by omega)]; rfl
  · have hj' : j < 3 := hj
    have : j = 0 := by
      unfold core at hc
      simp at hc
      exact hc
    subst this
    rw [t5]
    exact pk_us
  · cases hc
  · have hj' : j < 24 := hj
    rw [t1 j hj', show pos 7 j = 9 + 5 * j from rfl, low _ (by omega) (by omega)]
    unfold zC
    rw [if_pos (by omega)]
  · have hj' : j < 24 := hj
    rw [t2 j hj', show pos 9 j = 10 + 5 * j from rfl, low _ (by omega) (by omega)]
    unfold zC
    rw [if_pos (by omega)]
  · cases hc
  · cases hc
  · have hj' : j < 16 := hj
    rw [t3 j hj', show pos 12 j = 128 + 5 * j from rfl, low _ (by omega) (by omega)]
    unfold zC z12
    rw [if_neg (by omega), if_pos (by omega)]
  · cases hc
  · cases hc
  · cases hc
  · cases hc
  all_goals
    have hj' : j < 128 := hj
    have := hs rfl
    rw [nI_len (x := 0) (by omega) (show tT G nm sz 12 (j / 8) = nI 0 from t3 (j / 8) (by omega)) |> (fun q => show len (tT G nm sz) (j / 8) = 0 from q)] at this
    exact absurd this (Nat.not_lt_zero _)
theorem with_ok (h : RLG G M) {nm sz : Nat} (h1 : nm ≤ 4) (h2 : 1 ≤ sz) (h3 : sz ≤ 8) : ∃ v T' M', v ≤ 2520 ∧ f_X3_messagesOfAccount G 1 0 (nI nm) (nI sz) = some (nI v, va_up G (1 + 2) T') ∧ f_X9_messagesWith M (nI nm) (nI sz) = some (nI v, M') ∧ eqM M M' := by
  obtain ⟨f0, l, g1, g2, g3, g4, g5, g6⟩ := h.1.2.2
  have wT := inv_tT (G := G) h.1.2.1.1 h1 h2 h3
  have rT := rm_tT (nm := nm) (sz := sz) h.1
  obtain ⟨T', a', s, o1, o2, o3, o4, o5⟩ := acc_L (S := asd M) (fun (x4_148 : Int32) (S_148 : Gs) => some (rat 3 ((S_148 (1 + 2)) 29) 0, S_148)) (fun (x3_153 : Int32) (S_153 : St) => ix 4 652 (bd (f_X9_layBack S_153) (fun S12 => some (S_153 1 (4 : Int32).toNatClampNeg, S12)))) g1 g2 g3 g4 g5 g6 l 0 (by omega) 5000 (by omega) _ _ 0 rT wT (tT_0 (G := G)).2.2.2.2.1 (by omega)
  have e4 : a' 4 = T' 29 0 := rm_at o3 (k := 29) (j := 0) (by decide) rfl rfl
  refine ⟨s, T', _, by omega, ?_, ?_, back_eq (a' := a')⟩
  · have st : f_X3_messagesOfAccount G 1 0 (nI nm) (nI sz) = f_X3_messagesOfAccount_L53 1 0 (fun (x4_148 : Int32) (S_148 : Gs) => some (rat 3 ((S_148 (1 + 2)) 29) 0, S_148)) 5000 0 (va_up G (1 + 2) (tT G nm sz)) := by
      have r0 : ∀ S : St, rwr 4 S 2 0 (nI nm) = sp S 2 0 (nI nm) := fun S => rwr_nI (j := 0) (by omega) (by omega)
      have r1 : ∀ S : St, rwr 4 S 2 1 (nI sz) = sp S 2 1 (nI sz) := fun S => rwr_nI (j := 1) (by omega) (by omega)
      have c0 : rcp G (1 + 2) 2 (0 + 2) 2 4 = va_up G (1 + 2) (cpR (G (1 + 2)) (G (0 + 2)) 2 4) := by
        have := rcp_up (G := G) (b := 1) (b' := 0) (k := 2) (n := 4) (L := G (1 + 2)) (by decide)
        rw [up_id] at this
        exact this
      unfold f_X3_messagesOfAccount f_X1_clear f_X7_clear
      simp only [bnd_e, c0, up_self, up_up, r0, r1]
      rfl
    rw [st]
    refine o1.trans ?_
    rw [up_self, show rat 3 (T' 29) 0 = T' 29 0 from rat_nI (j := 0) (by omega) (by omega), o4]
  · unfold f_X9_messagesWith
    rw [m_aside, bd_some]
    have e0 : asd M = mA (asd M) (M 1) := (ma_row asd_1).symm
    have z1 := m_z12_L (nI nm) (nI sz) (fun (x3_33 : Int32) (S_33 : St) => f_X9_messagesWith_L35 (nI nm) (nI sz) (fun (x3_54 : Int32) (S_54 : St) => ix 0 652 (bnd (sp S_54 1 (0 : Int32).toNatClampNeg (nI nm)) (fun S4 => ix 1 652 (bnd (sp S4 1 (1 : Int32).toNatClampNeg (nI sz)) (fun S5 => ix 4 652 (bnd (sp S5 1 (4 : Int32).toNatClampNeg 0) (fun S6 => f_X9_messagesWith_L77 (fun (x3_153 : Int32) (S_153 : St) => ix 4 652 (bd (f_X9_layBack S_153) (fun S12 => some (S_153 1 (4 : Int32).toNatClampNeg, S12)))) 5000 0 S6))))))) 5000 0 S_33) (asd M) 16 0 (by omega) 5000 (by omega) (M 1)
    rw [← e0] at z1
    refine Eq.trans z1 ?_
    refine Eq.trans (m_zC_L (nI nm) (nI sz) _ (asd M) 24 0 (by omega) 5000 (by omega) (z12 (M 1) 0)) ?_
    rw [ix_0, cl_0, mA_sp, bnd_e, ix_1, cl_1, mA_sp, bnd_e, ix_4, cl_4, mA_sp, bnd_e]
    rw [cl_4] at o2
    refine Eq.trans o2 ?_
    rw [ix_4, m_back, bd_some, mA_1, e4, o4]
