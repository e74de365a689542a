variable {V : VB} {L : St} {M : St} {a : FN} {z : Nat} {G : Gs}
/-! ===== put ===== -/
def vch (x : Nat) : Prop := 33 ≤ x ∧ x ≤ 126
theorem div_byt (n i : Nat) : n / 2 ^ (8 * i) / 2 ^ 8 = n / 2 ^ (8 * (i + 1)) := by
  rw [Nat.div_div_eq_div_mul, ← Nat.pow_add]
  rfl
theorem chars_L {n : Nat} (hn : n < 2 ^ 64) (S : St) (kr : Int32 → Int64 → Option (Int32 × St)) (fin : Nat → Option (Int32 × St)) (hk0 : ∀ x, kr 0 x = some (-2, S)) (hk1 : ∀ j x, ¬ lg_cmp x 0 = 0 → kr j x = some (-2, S)) (hk2 : ∀ j x, 0 < j → j ≤ 8 → lg_cmp x 0 = 0 → kr (nI j) x = fin j) : ∀ (d i : Nat), i + d = 8 → ∀ f, d < f → (∀ k, k < i → vch (byt n k)) → ∃ m, m ≤ 8 ∧ f_X8_howManyCharacters_L2 (lN n) (fun (x2_42 : Int32) => if x2_42 = 8 then (some x2_42) else (if (lg_cmp (((lN n).toUInt64 >>> ((8 * x2_42).toInt64.toUInt64 &&& Int64.toUInt64 63)).toInt64) 0) = 0 then (some x2_42) else (some 0))) f (nI i) = some (nI m) ∧ (m = 0 → f_X9_put_L5 (lN n) S kr f (nI i) (lN (n / 2 ^ (8 * i))) = some (-2, S)) ∧ (0 < m → f_X9_put_L5 (lN n) S kr f (nI i) (lN (n / 2 ^ (8 * i))) = fin m ∧ ∀ k, k < m → vch (byt n k))
  | 0, i, e, f + 1, _, hv => by
    have : i = 8 := by omega
    subst this
    have h0 : n / 2 ^ (8 * 8) = 0 := Nat.div_eq_of_lt hn
    refine ⟨8, by omega, ?_, fun q => absurd q (by omega), fun _ => ⟨?_, hv⟩⟩
    · rw [f_X8_howManyCharacters_L2, if_pos (show (8 : Int32) ≤ nI 8 from nI_le (a := 8) (by omega) (by omega)), if_pos (show nI 8 = (8 : Int32) from rfl)]
    · rw [f_X9_put_L5, if_pos (show (8 : Int32) ≤ nI 8 from nI_le (a := 8) (by omega) (by omega)), h0]
      exact hk2 8 _ (by omega) (by omega) ((lg_cmp_eq _ _).mpr rfl)
  | d + 1, i, e, f + 1, hf, hv => by
    have hi : i < 8 := by omega
    have hq : n / 2 ^ (8 * i) < 2 ^ 64 := Nat.lt_of_le_of_lt (Nat.div_le_self _ _) hn
    have hb := byt_lt n i
    have ea : lN (n / 2 ^ (8 * i)) &&& 255 = lN (byt n i) := and255 hq
    have es : (8 : Int32) * nI i = nI (8 * i) := pk_mul 8 i
    have n8 : ¬ (8 : Int32) ≤ nI i := nI_ge (b := 8) hi (by omega)
    have e8 : ((lN (n / 2 ^ (8 * i))).toUInt64 >>> ((8 : Int32).toInt64.toUInt64 &&& Int64.toUInt64 63)).toInt64 = lN (n / 2 ^ (8 * (i + 1))) := by
      have := wb_shr (n := n / 2 ^ (8 * i)) (k := 8) hq (by omega)
      rw [div_byt] at this
      exact this
    rw [f_X8_howManyCharacters_L2, if_neg n8, c_code hn hi, f_X9_put_L5, if_neg n8, ea]
    by_cases b0 : byt n i = 0
    · have c0 : lg_cmp (lN (byt n i)) 0 = 0 := (lg_cmp_eq _ _).mpr (by rw [b0]; rfl)
      have i8 : ¬ nI i = (8 : Int32) := fun q => by have := (nI_eq (b := 8) (by omega) (by omega)).mp q; omega
      rw [if_pos (show nI (byt n i) = 0 by rw [b0]; rfl), if_pos c0]
      rw [if_neg i8, es, wb_shr hn (by omega)]
      by_cases r0 : lg_cmp (lN (n / 2 ^ (8 * i))) 0 = 0
      · rw [if_pos r0]
        by_cases h0 : i = 0
        · subst h0
          exact ⟨0, by omega, rfl, fun _ => hk0 _, fun q => absurd q (by omega)⟩
        · exact ⟨i, by omega, rfl, fun q => absurd q h0, fun _ => ⟨hk2 i _ (by omega) (by omega) r0, hv⟩⟩
      · rw [if_neg r0]
        exact ⟨0, by omega, rfl, fun _ => hk1 _ _ r0, fun q => absurd q (by omega)⟩
    · have c0 : ¬ lg_cmp (lN (byt n i)) 0 = 0 := fun q => b0 ((lN0 (by omega)).mp ((lg_cmp_eq _ _).mp q))
      rw [if_neg (nI_ne0 (by omega) (by omega)), if_neg c0, l_i32 _ hb]
      by_cases h33 : byt n i < 33
      · rw [if_pos (show nI (byt n i) < (33 : Int32) from nI_lt (b := 33) h33 (by omega))]
        refine ⟨0, by omega, rfl, fun _ => ?_, fun q => absurd q (by omega)⟩
        have : f_X9_in (nI (byt n i)) 33 126 = 0 := by
          unfold f_X9_in
          rw [if_pos (show nI (byt n i) < (33 : Int32) from nI_lt (b := 33) h33 (by omega))]
        rw [this, if_pos rfl]
      · rw [if_neg (show ¬ nI (byt n i) < (33 : Int32) from nI_nlt (b := 33) (by omega) (by omega))]
        by_cases h126 : byt n i ≤ 126
        · have : f_X9_in (nI (byt n i)) 33 126 = 1 := by
            unfold f_X9_in
            rw [if_neg (show ¬ nI (byt n i) < (33 : Int32) from nI_nlt (b := 33) (by omega) (by omega)), if_neg (show ¬ (126 : Int32) < nI (byt n i) from nI_nlt (a := 126) h126 (by omega))]
          rw [if_pos (show nI (byt n i) ≤ (126 : Int32) from nI_le (b := 126) h126 (by omega)), this, if_neg d10, nI_1, e8]
          refine chars_L hn S kr fin hk0 hk1 hk2 d (i + 1) (by omega) f (by omega) (fun k hk => ?_)
          by_cases q : k = i
          · rw [q]; exact ⟨by omega, h126⟩
          · exact hv k (by omega)
        · have : f_X9_in (nI (byt n i)) 33 126 = 0 := by
            unfold f_X9_in
            rw [if_neg (show ¬ nI (byt n i) < (33 : Int32) from nI_nlt (b := 33) (by omega) (by omega)), if_pos (show (126 : Int32) < nI (byt n i) from nI_lt (a := 126) (by omega) (by omega))]
          rw [if_neg (show ¬ nI (byt n i) ≤ (126 : Int32) from nI_ge (b := byt n i) (a := 126) (by omega) (by omega))]
          refine ⟨0, by omega, rfl, fun _ => ?_, fun q => absurd q (by omega)⟩
          rw [this, if_pos rfl]
theorem c_put_L {n : Nat} (hn : n < 2 ^ 64) (k : Int32 → Gs → Option (Int32 × Gs)) : ∀ (j f : Nat), j < f → j ≤ 8 → ∀ (T : St) (p : Nat), T 4 1 = nI p → p + j ≤ 80 → ∃ T', f_X8_put_L34 (lN n) k f (nI j - 1) (va_up G 0 T) = k (-1) (va_up G 0 T') ∧ T' 4 1 = nI (p + j) ∧ (∀ q, q ≠ 4 → q ≠ 6 → T' q = T q) ∧ (∀ i, i < p → T' 6 i = T 6 i) ∧ ∀ i, i < j → T' 6 (p + i) = nI (byt n (j - 1 - i))
  | 0, f + 1, _, _, T, p, h1, h2 => by
    refine ⟨T, ?_, h1, fun _ _ _ => rfl, fun _ _ => rfl, fun i hi => absurd hi (Nat.not_lt_zero i)⟩
    rw [f_X8_put_L34, show nI 0 - 1 = (-1 : Int32) by decide, if_pos (by decide)]
  | j + 1, f + 1, hf, hj, T, p, h1, h2 => by
    have ap : f_X5_append T (f_X8_codeAt (lN n) (nI j)) = sp (sp T 6 p (nI (byt n j))) 4 1 (nI (p + 1)) := by
      unfold f_X5_append
      rw [bnd_e, bnd_e, h1, rwr_nI (by omega) (by omega), sp_row' _ _ _ (by decide), h1, nI_1, c_code hn (by omega)]
    obtain ⟨T', e1, e2, e3, e4, e5⟩ := c_put_L hn k j f (by omega) (by omega) (sp (sp T 6 p (nI (byt n j))) 4 1 (nI (p + 1))) (p + 1) (sp_eq' _ _ _ _) (by omega)
    refine ⟨T', ?_, by rw [e2]; congr 1; omega, fun q h4 h6 => ?_, fun i hi => ?_, fun i hi => ?_⟩
    · rw [f_X8_put_L34, nI_pred, if_neg (nI_pos (by omega)), up_self, bnd_e, ap, up_up, addm1]
      exact e1
    · rw [e3 q h4 h6, sp_row' _ _ _ h4, sp_row' _ _ _ h6]
    · rw [e4 i (by omega), sp_row' _ _ _ (by decide), sp_at, if_neg (by omega)]
    · by_cases h0 : i = 0
      · subst h0
        rw [e4 _ (by omega), sp_row' _ _ _ (by decide), Nat.add_zero, sp_eq', show j + 1 - 1 - 0 = j by omega]
      · have := e5 (i - 1) (by omega)
        rw [show p + 1 + (i - 1) = p + i by omega, show j - 1 - (i - 1) = j + 1 - 1 - i by omega] at this
        exact this
theorem m_put_L {n m p : Nat} (hn : n < 2 ^ 64) (hm : m ≤ 8) (hp : p + m ≤ 80) (k : Int32 → St → Option (Int32 × St)) : ∀ (d i : Nat), i + d = m → ∀ f, d < f → ∀ S : St, S 0 8 = nI p → ∃ S', f_X9_put_L86 (lN n) (nI m) k f (nI i) S = k (nI m) S' ∧ (∀ q, q ≠ 6 → S' q = S q) ∧ (∀ t, t < p + i → S' 6 t = S 6 t) ∧ ∀ t, i ≤ t → t < m → S' 6 (p + t) = nI (byt n (m - 1 - t))
  | 0, i, e, f + 1, _, S, h => by
    have : i = m := by omega
    subst this
    refine ⟨S, ?_, fun _ _ => rfl, fun _ _ => rfl, fun t h1 h2 => absurd h2 (by omega)⟩
    rw [f_X9_put_L86, if_pos (nI_le (Nat.le_refl _) (by omega))]
  | d + 1, i, e, f + 1, hf, S, h => by
    have e8 : (8 : Int32) * ((nI m - 1) - nI i) = nI (8 * (m - 1 - i)) := by
      rw [show nI m - 1 = nI (m - 1) from pk_sub (b := 1) (by omega), pk_sub (by omega)]
      exact pk_mul 8 _
    obtain ⟨S', e1, e2, e3, e4⟩ := m_put_L hn hm hp k d (i + 1) (by omega) f (by omega) (sp S 6 (p + i) (nI (byt n (m - 1 - i)))) (by rw [sp_row' _ _ _ (by decide)]; exact h)
    refine ⟨S', ?_, fun q hq => ?_, fun t ht => ?_, fun t h1 h2 => ?_⟩
    · rw [f_X9_put_L86, if_neg (nI_ge (by omega) (by omega)), h, nI_add, ix_ok (by omega) (by omega), cl_n (by omega), e8, m_code hn (by omega), bnd_e, nI_1]
      exact e1
    · rw [e2 q hq, sp_row' _ _ _ hq]
    · rw [e3 t (by omega), sp_at, if_neg (by omega)]
    · by_cases q : t = i
      · subst q
        rw [e3 _ (by omega), sp_eq']
      · exact e4 t (by omega) h2
theorem w_put (h : Rel G) (x : Int64) : Wop (f_X8_put G x) (f_X9_put (G 1) x) Rel G := by
  obtain ⟨n, hn, rfl⟩ := wb_of x
  obtain ⟨l, p1, p2, p3, p4⟩ := h.2.2.2
  have bad : ∀ r : Int32, Wop (some (r, G)) (some (r, G 1)) Rel G := fun r => wop_of rfl rfl rfl (fun _ => rfl) h
  obtain ⟨m, m8, hc, h0, hpos⟩ := chars_L hn (G 1) (fun (x3_55 : Int32) (x4_55 : Int64) => if x3_55 = 0 then (some ((-2), (G 1))) else (if (lg_cmp x4_55 0) = 0 then (if (((G 1) 0 8) + x3_55) ≤ 80 then (f_X9_put_L86 (lN n) x3_55 (fun (x6_126 : Int32) (S_126 : St) => bnd (sp S_126 0 8 ((S_126 0 8) + x3_55)) (fun S2 => some (S2 0 8, S2))) 5000 0 (G 1)) else (some ((-4), (G 1)))) else (some ((-2), (G 1))))) (fun j => if (((G 1) 0 8) + nI j) ≤ 80 then (f_X9_put_L86 (lN n) (nI j) (fun (x6_126 : Int32) (S_126 : St) => bnd (sp S_126 0 8 ((S_126 0 8) + nI j)) (fun S2 => some (S2 0 8, S2))) 5000 0 (G 1)) else (some ((-4), (G 1)))) (fun x => if_pos rfl) (fun j x hx => by
    by_cases hj : j = 0
    · rw [if_pos hj]
    · rw [if_neg hj, if_neg hx]) (fun j x hj _ hx => by
    rw [if_neg (nI_ne0 hj (by omega)), if_pos hx]) 8 0 (by omega) 5000 (by omega) (fun k hk => absurd hk (Nat.not_lt_zero k))
  have hc' : f_X8_howManyCharacters (lN n) = some (nI m) := hc
  have ez : n / 2 ^ (8 * 0) = n := by rw [Nat.mul_zero, Nat.pow_zero, Nat.div_one]
  rw [ez] at h0 hpos
  unfold f_X8_put
  rw [hc', bd_some]
  by_cases hm : m = 0
  · have h0' : f_X9_put (G 1) (lN n) = some (-2, G 1) := h0 hm
    rw [if_pos (show nI m = 0 by rw [hm]; rfl), h0']
    exact bad _
  · obtain ⟨hr, hv⟩ := hpos (by omega)
    have hr' : f_X9_put (G 1) (lN n) = _ := hr
    rw [if_neg (nI_ne0 (by omega) (by omega)), hr', p2, p3, nI_add]
    by_cases h80 : l + m ≤ 80
    · rw [if_pos (show nI (l + m) ≤ (80 : Int32) from nI_le (b := 80) h80 (by omega)), if_pos (show nI (l + m) ≤ (80 : Int32) from nI_le (b := 80) h80 (by omega))]
      obtain ⟨T', e1, e2, e3, e4, e5⟩ := c_put_L (G := G) hn (fun (x4_58 : Int32) (S_58 : Gs) => some (S_58 0 4 1, S_58)) m 5000 (by omega) m8 (G 0) l p2 h80
      rw [up_id, up_self, e2] at e1
      obtain ⟨S', f1, f2, f3, f4⟩ := m_put_L hn m8 h80 (fun (x6_126 : Int32) (S_126 : St) => bnd (sp S_126 0 8 ((S_126 0 8) + nI m)) (fun S2 => some (S2 0 8, S2))) m 0 (by omega) 5000 (by omega) (G 1) p3
      have g0 : S' 0 8 = nI l := by rw [f2 0 (by decide)]; exact p3
      rw [bnd_e, g0, nI_add, sp_eq'] at f1
      refine wop_of e1 f1 (up_ne _ _ (by decide)) (fun j => by rw [up_self, e3 3 (by decide) (by decide)]) (rl_top h (e3 1 (by decide) (by decide)) (e3 3 (by decide) (by decide)) ?_ ?_ ?_ ?_ ?_ ?_ ⟨l + m, h80, by rw [up_self]; exact e2, sp_eq' _ _ _ _, fun i hi => ?_⟩)
      · rw [sp_row' _ _ _ (by decide)]; exact f2 1 (by decide)
      · rw [sp_row' _ _ _ (by decide)]; exact f2 2 (by decide)
      · rw [sp_row' _ _ _ (by decide)]; exact f2 3 (by decide)
      · rw [sp_row' _ _ _ (by decide)]; exact f2 4 (by decide)
      · rw [sp_at, if_neg (by omega), f2 0 (by decide)]
      · rw [sp_at, if_neg (by omega), f2 0 (by decide)]
      · rw [up_self, sp_row' _ _ _ (by decide)]
        by_cases q : i < l
        · rw [e4 i q, f3 i (by omega)]
          exact p4 i q
        · have a1 := e5 (i - l) (by omega)
          have a2 := f4 (i - l) (by omega) (by omega)
          rw [show l + (i - l) = i by omega] at a1 a2
          rw [a1, a2]
          have := hv (m - 1 - (i - l)) (by omega)
          exact ⟨rfl, _, this.1, this.2, rfl⟩
    · rw [if_neg (show ¬ nI (l + m) ≤ (80 : Int32) from nI_ge (a := 80) (by omega) (by omega)), if_neg (show ¬ nI (l + m) ≤ (80 : Int32) from nI_ge (a := 80) (by omega) (by omega))]
      exact bad _
