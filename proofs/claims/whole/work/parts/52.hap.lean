variable {V : VB} {L : St} {M : St} {a : FN} {z : Nat} {G : Gs}
/-! ===== what happens: the four orders ===== -/
theorem i_lt_of {x : Int32} {n : Nat} (hn : n + 1 < 2 ^ 31) (h : nI (n + 1) ≤ x) : nI n < x := by
  rw [Int32.le_iff_toInt_le, nI_toInt hn] at h
  rw [Int32.lt_iff_toInt_lt, nI_toInt (by omega)]
  omega
theorem rd_cases (x : Int32) : (f_X8_isReader x = 0 ∧ f_X9_isReader x = 0) ∨ ∃ r, r < 16 ∧ x = nI r ∧ f_X8_isReader x = 1 ∧ f_X9_isReader x = 1 := by
  unfold f_X8_isReader f_X9_isReader f_X9_in
  rcases pk_ix x (n := 16) (by omega) with h | h | ⟨r, hr, rfl⟩
  · rw [if_pos h, if_pos h]; exact Or.inl ⟨rfl, rfl⟩
  · have h1 : ¬ x < 0 := fun q => by
      rw [Int32.le_iff_toInt_le] at h
      rw [Int32.lt_iff_toInt_lt] at q
      have : (nI 16).toInt = 16 := by decide
      have : (0 : Int32).toInt = 0 := by decide
      omega
    rw [if_neg h1, if_neg h1, if_pos (show (16 : Int32) ≤ x from h), if_pos (show (15 : Int32) < x from i_lt_of (n := 15) (by omega) h)]
    exact Or.inl ⟨rfl, rfl⟩
  · rw [if_neg (nI_pos (by omega)), if_neg (nI_pos (by omega)), if_neg (show ¬ (16 : Int32) ≤ nI r from nI_ge (b := 16) hr (by omega)), if_neg (show ¬ (15 : Int32) < nI r from nI_nlt (a := 15) (by omega) (by omega))]
    exact Or.inr ⟨r, hr, rfl, rfl, rfl⟩
theorem nt_cases (x : Int32) : (f_X8_isNote x = 0 ∧ f_X9_isNote x = 0) ∨ ∃ n, n < 24 ∧ x = nI n ∧ f_X8_isNote x = 1 ∧ f_X9_isNote x = 1 := by
  unfold f_X8_isNote f_X9_isNote f_X9_in
  rcases pk_ix x (n := 24) (by omega) with h | h | ⟨r, hr, rfl⟩
  · rw [if_pos h, if_pos h]; exact Or.inl ⟨rfl, rfl⟩
  · have h1 : ¬ x < 0 := fun q => by
      rw [Int32.le_iff_toInt_le] at h
      rw [Int32.lt_iff_toInt_lt] at q
      have : (nI 24).toInt = 24 := by decide
      have : (0 : Int32).toInt = 0 := by decide
      omega
    rw [if_neg h1, if_neg h1, if_pos (show (24 : Int32) ≤ x from h), if_pos (show (23 : Int32) < x from i_lt_of (n := 23) (by omega) h)]
    exact Or.inl ⟨rfl, rfl⟩
  · rw [if_neg (nI_pos (by omega)), if_neg (nI_pos (by omega)), if_neg (show ¬ (24 : Int32) ≤ nI r from nI_ge (b := 24) hr (by omega)), if_neg (show ¬ (23 : Int32) < nI r from nI_nlt (a := 23) (by omega) (by omega))]
    exact Or.inr ⟨r, hr, rfl, rfl, rfl⟩
theorem d10 : ¬ (1 : Int32) = 0 := by decide
theorem d03 : ¬ (0 : Int32) = 3 := by decide
theorem d13 : ¬ (1 : Int32) = 3 := by decide
theorem d23 : ¬ (2 : Int32) = 3 := by decide
theorem d01 : ¬ (0 : Int32) = 1 := by decide
theorem d02 : ¬ (0 : Int32) = 2 := by decide
theorem d12 : ¬ (1 : Int32) = 2 := by decide
theorem d21 : ¬ (2 : Int32) = 1 := by decide
theorem d31 : ¬ (3 : Int32) = 1 := by decide
theorem d32 : ¬ (3 : Int32) = 2 := by decide
theorem d20 : ¬ (2 : Int32) = 0 := by decide
theorem d30 : ¬ (3 : Int32) = 0 := by decide
theorem m1_0 : ¬ (-1 : Int32) = 0 := by decide
theorem m2_0 : ¬ (-2 : Int32) = 0 := by decide
theorem m5_0 : ¬ (-5 : Int32) = 0 := by decide
theorem er_0 {b c v : Int32} : f_X3_errorOf L 0 b c v = if f_X8_isReader b = 0 then -1 else if f_X8_isNote c = 0 then -1 else 0 := by
  unfold f_X3_errorOf
  simp only [if_neg d03, if_neg d01, if_neg d02]
theorem er_1 {b c v : Int32} : f_X3_errorOf L 1 b c v = if f_X8_isReader b = 0 then -1 else if f_X8_isNote c = 0 then -1 else if v < 0 then -2 else if v ≤ 9999 then 0 else -2 := by
  unfold f_X3_errorOf
  simp only [if_neg d13, if_true, if_neg d12]
theorem er_2 {b c v : Int32} : f_X3_errorOf L 2 b c v = if f_X8_isReader b = 0 then -1 else if f_X8_isNote c = 0 then -1 else if f_X7_holds L b c = 0 then -5 else 0 := by
  unfold f_X3_errorOf
  simp only [if_neg d23, if_neg d21, if_true]
theorem er_3 {b c v : Int32} : f_X3_errorOf L 3 b c v = if f_X8_isNote c = 0 then -1 else if rat 24 (L 7) c = 0 then -5 else 0 := by
  unfold f_X3_errorOf
  simp only [if_true, if_neg d31, if_neg d32]
/-- what an order leaves alone -/
def Fr (G G' : Gs) (M M' : St) : Prop := G' 1 = G 1 ∧ (∀ k, k ≠ 1 → G' 0 k = G 0 k) ∧ (∀ k, 3 ≤ k → M' k = M k) ∧ ∀ j, 4 ≤ j → M' 0 j = M 0 j
theorem fr_refl : Fr G G M M := ⟨rfl, fun _ _ => rfl, fun _ _ => rfl, fun _ _ => rfl⟩
theorem fr_lib {G G' : Gs} {M M' : St} {L' : St} {a' : FN} (h : Fr G G' M M') : Fr G (va_up G' 2 L') M (mA M' a') := by
  obtain ⟨h1, h2, h3, h4⟩ := h
  refine ⟨(up_ne _ _ (by decide)).trans h1, fun k hk => ?_, fun k hk => ?_, fun j hj => ?_⟩
  · rw [up_ne _ _ (by decide)]; exact h2 k hk
  · rw [mA_ne _ _ (by omega)]; exact h3 k hk
  · rw [mA_ne _ _ (by omega)]; exact h4 j hj
/-- keeping, if wanted -/
theorem kp_ok (h : RLG G M) {kp : Int32} (hk : kp = 0 ∨ kp = 1) : ∃ G' M', (∀ K : Gs → Option (Int32 × Gs), jn (fun (k38 : Gs → Option (Int32 × Gs)) => if kp = 0 then (k38 G) else (bd (f_X2_keep G) (fun S13 => k38 S13))) K = K G') ∧ f_X9_keepIf M kp = some M' ∧ RLG G' M' ∧ M' 1 = M 1 ∧ G' 2 = G 2 ∧ Fr G G' M M' := by
  rcases hk with rfl | rfl
  · refine ⟨G, M, fun K => ?_, ?_, h, rfl, rfl, fr_refl⟩
    · rw [jn_e, if_pos rfl]
    · unfold f_X9_keepIf
      rw [if_pos rfl]
  · obtain ⟨G', M', k1, k2, k3, k4, k5, k6, k7, k8, k9, k10⟩ := keep_ok h
    refine ⟨G', M', fun K => ?_, ?_, k3, k4, k5, k6, k9, k7, k8⟩
    · rw [jn_e, if_neg d10, k1, bd_some]
    · unfold f_X9_keepIf
      rw [if_neg d10, k2, bd_some]
theorem ma_row {M' : St} (h : M' 1 = M 1) : mA M' (M 1) = M' := by rw [← h]; exact mA_id M'
theorem hap_read (h : RLG G M) (b c v : Int32) {kp : Int32} (hk : kp = 0 ∨ kp = 1) : ∃ r G' M', f_X8_happen G 0 b c v kp = some (r, G') ∧ f_X9_tryRead M b c kp = some (r, M') ∧ RLG G' M' ∧ Fr G G' M M' := by
  unfold f_X8_happen f_X9_tryRead
  rw [er_0]
  rcases rd_cases b with ⟨q1, q2⟩ | ⟨r, hr, rfl, q1, q2⟩
  · rw [q1, q2, if_pos rfl, if_pos rfl, if_neg m1_0]
    exact ⟨_, _, _, rfl, rfl, h, fr_refl⟩
  · rw [q1, q2, if_neg d10, if_neg d10]
    rcases nt_cases c with ⟨p1, p2⟩ | ⟨n, hn, rfl, p1, p2⟩
    · rw [p1, p2, if_pos rfl, if_pos rfl, if_neg m1_0]
      exact ⟨_, _, _, rfl, rfl, h, fr_refl⟩
    · rw [p1, p2, if_neg d10, if_neg d10, if_pos rfl]
      obtain ⟨G', M', k1, k2, k3, k4, k5, k6⟩ := kp_ok h hk
      obtain ⟨L1, a1, v1, L2, a2, o1, o2, o3, o4, o5⟩ := op_read h.1 hr hn M'
      rw [ma_row k4] at o2
      rw [k1, k2, bd_some, o2, bd_some, o4, bdp_some, if_pos rfl, k5, o1, bnd_e, up_self, o3, bdp_some, up_up]
      exact ⟨_, _, _, rfl, rfl, rl_lib k3 o5, fr_lib k6⟩
theorem hap_change (h : RLG G M) (b c v : Int32) {kp : Int32} (hk : kp = 0 ∨ kp = 1) : ∃ r G' M', f_X8_happen G 1 b c v kp = some (r, G') ∧ f_X9_tryChange M b c v kp = some (r, M') ∧ RLG G' M' ∧ Fr G G' M M' := by
  unfold f_X8_happen f_X9_tryChange
  rw [er_1]
  rcases rd_cases b with ⟨q1, q2⟩ | ⟨r, hr, rfl, q1, q2⟩
  · rw [q1, q2, if_pos rfl, if_pos rfl, if_neg m1_0]
    exact ⟨_, _, _, rfl, rfl, h, fr_refl⟩
  · rw [q1, q2, if_neg d10, if_neg d10]
    rcases nt_cases c with ⟨p1, p2⟩ | ⟨n, hn, rfl, p1, p2⟩
    · rw [p1, p2, if_pos rfl, if_pos rfl, if_neg m1_0]
      exact ⟨_, _, _, rfl, rfl, h, fr_refl⟩
    · rw [p1, p2, if_neg d10, if_neg d10]
      by_cases h1 : v < 0
      · have i0 : f_X9_in v 0 9999 = 0 := by unfold f_X9_in; rw [if_pos h1]
        rw [if_pos h1, if_neg m2_0, i0, if_pos rfl]
        exact ⟨_, _, _, rfl, rfl, h, fr_refl⟩
      · by_cases h2 : v ≤ 9999
        · have i1 : f_X9_in v 0 9999 = 1 := by unfold f_X9_in; rw [if_neg h1, if_neg (Int32.not_lt.mpr h2)]
          rw [if_neg h1, if_pos h2, if_pos rfl, i1, if_neg d10]
          obtain ⟨G', M', k1, k2, k3, k4, k5, k6⟩ := kp_ok h hk
          obtain ⟨L1, a1, v1, L2, a2, o1, o2, o3, o4, o5⟩ := op_change (x := v) h.1 hr hn M'
          rw [ma_row k4] at o2
          rw [k1, k2, bd_some, o2, bd_some, o4, bdp_some, if_neg d10, if_pos rfl, k5, o1, bnd_e, up_self, o3, bdp_some, up_up]
          exact ⟨_, _, _, rfl, rfl, rl_lib k3 o5, fr_lib k6⟩
        · have i0 : f_X9_in v 0 9999 = 0 := by unfold f_X9_in; rw [if_neg h1, if_pos (Int32.not_le.mp h2)]
          rw [if_neg h1, if_neg h2, if_neg m2_0, i0, if_pos rfl]
          exact ⟨_, _, _, rfl, rfl, h, fr_refl⟩
theorem hap_back (h : RLG G M) (b c v : Int32) {kp : Int32} (hk : kp = 0 ∨ kp = 1) : ∃ r G' M', f_X8_happen G 2 b c v kp = some (r, G') ∧ f_X9_tryPutBack M b c kp = some (r, M') ∧ RLG G' M' ∧ Fr G G' M M' := by
  unfold f_X8_happen f_X9_tryPutBack
  rw [er_2]
  rcases rd_cases b with ⟨q1, q2⟩ | ⟨r, hr, rfl, q1, q2⟩
  · rw [q1, q2, if_pos rfl, if_pos rfl, if_neg m1_0]
    exact ⟨_, _, _, rfl, rfl, h, fr_refl⟩
  · rw [q1, q2, if_neg d10, if_neg d10]
    rcases nt_cases c with ⟨p1, p2⟩ | ⟨n, hn, rfl, p1, p2⟩
    · rw [p1, p2, if_pos rfl, if_pos rfl, if_neg m1_0]
      exact ⟨_, _, _, rfl, rfl, h, fr_refl⟩
    · have w := h.1.2.1
      have hl := (w.2.2.1 r hr).1
      have h8 : len (G 2) r ≤ 8 := hl.2
      have pM := m_placeOf (M := M) (n := n) h.1.1 hr hl
      rw [mA_id] at pM
      rw [p1, p2, if_neg d10, if_neg d10, holds_n w.2.2.2.1 hr hn, pM, bd_some]
      by_cases hc : plc (G 2) r n < len (G 2) r
      · rw [if_pos hc, if_neg d10, if_pos rfl, if_pos hc, if_pos (nI_pos' (by omega))]
        obtain ⟨G', M', k1, k2, k3, k4, k5, k6⟩ := kp_ok h hk
        obtain ⟨v1, L2, a2, o1, o2, o3⟩ := op_back h.1 hr hn hc M'
        rw [ma_row k4] at o2
        rw [k1, k2, bd_some, o2, bdp_some, if_neg d20, if_neg d21, if_pos rfl, k5, c_placeOf hr hl, if_pos hc, bd_some, o1, bdp_some]
        exact ⟨_, _, _, rfl, rfl, rl_lib k3 o3, fr_lib k6⟩
      · rw [if_neg hc, if_pos rfl, if_neg m5_0, if_neg hc, if_neg (by decide)]
        exact ⟨_, _, _, rfl, rfl, h, fr_refl⟩
theorem hap_recall (h : RLG G M) (b c v : Int32) {kp : Int32} (hk : kp = 0 ∨ kp = 1) : ∃ r G' M', f_X8_happen G 3 b c v kp = some (r, G') ∧ f_X9_tryRecall M c kp = some (r, M') ∧ RLG G' M' ∧ Fr G G' M M' := by
  unfold f_X8_happen f_X9_tryRecall
  rw [er_3]
  rcases nt_cases c with ⟨p1, p2⟩ | ⟨n, hn, rfl, p1, p2⟩
  · rw [p1, p2, if_pos rfl, if_pos rfl, if_neg m1_0]
    exact ⟨_, _, _, rfl, rfl, h, fr_refl⟩
  · have o1 := ofN_1 (M := M) (a := M 1) hn
    rw [mA_id] at o1
    rw [p1, p2, if_neg d10, if_neg d10, rat_nI hn (by omega), o1, bd_some, rm_kind h.1.1 hn]
    by_cases h0 : G 2 7 n = 0
    · rw [if_pos h0, if_neg m5_0, if_pos h0]
      exact ⟨_, _, _, rfl, rfl, h, fr_refl⟩
    · rw [if_neg h0, if_pos rfl, if_neg h0]
      obtain ⟨G', M', k1, k2, k3, k4, k5, k6⟩ := kp_ok h hk
      obtain ⟨v1, L2, a2, o1, o2, o3⟩ := op_recall h.1 hn M'
      rw [ma_row k4] at o2
      rw [k1, k2, bd_some, o2, if_neg d30, if_neg d31, if_neg d32, k5, o1, bdp_some]
      exact ⟨_, _, _, rfl, rfl, rl_lib k3 o3, fr_lib k6⟩
/-! the calls -/
theorem wop_of {x : Option (Int32 × Gs)} {m : Option (Int32 × St)} {r : Int32} {G1 : Gs} {M1 : St} (h1 : x = some (r, G1)) (h2 : m = some (r, M1)) (g1 : G1 1 = G 1) (g3 : ∀ j, G1 0 3 j = G 0 3 j) (h3 : RLG G1 M1) : Wop x m Rel G := ⟨r, G1, M1, h1, h2, g1, g3, rel_up h3⟩
theorem wop_fr {x : Option (Int32 × Gs)} {m : Option (Int32 × St)} {r : Int32} {G1 : Gs} {M1 : St} (h1 : x = some (r, G1)) (h2 : m = some (r, M1)) (hf : Fr G G1 M M1) (h3 : RLG G1 M1) : Wop x m Rel G := wop_of h1 h2 hf.1 (fun j => by rw [hf.2.1 3 (by decide)]) h3
theorem w_read (h : Rel G) (b c : Int32) : Wop (f_X8_read G b c) (f_X9_read (G 1) b c) Rel G := by
  obtain ⟨r, G', M', h1, h2, h3, h4⟩ := hap_read h b c 0 (Or.inr rfl)
  refine wop_fr (r := r) (G1 := G') (M1 := M') ?_ ?_ h4 h3
  · unfold f_X8_read
    rw [h1, bdp_some]
  · unfold f_X9_read
    rw [h2, bdp_some]
theorem w_change (h : Rel G) (b c v : Int32) : Wop (f_X8_change G b c v) (f_X9_change (G 1) b c v) Rel G := by
  obtain ⟨r, G', M', h1, h2, h3, h4⟩ := hap_change h b c v (Or.inr rfl)
  refine wop_fr (r := r) (G1 := G') (M1 := M') ?_ ?_ h4 h3
  · unfold f_X8_change
    rw [h1, bdp_some]
  · unfold f_X9_change
    rw [h2, bdp_some]
theorem w_putBack (h : Rel G) (b c : Int32) : Wop (f_X8_putBack G b c) (f_X9_putBack (G 1) b c) Rel G := by
  obtain ⟨r, G', M', h1, h2, h3, h4⟩ := hap_back h b c 0 (Or.inr rfl)
  refine wop_fr (r := r) (G1 := G') (M1 := M') ?_ ?_ h4 h3
  · unfold f_X8_putBack
    rw [h1, bdp_some]
  · unfold f_X9_putBack
    rw [h2, bdp_some]
theorem w_recall (h : Rel G) (c : Int32) : Wop (f_X8_recall G c) (f_X9_recall (G 1) c) Rel G := by
  obtain ⟨r, G', M', h1, h2, h3, h4⟩ := hap_recall h 0 c 0 (Or.inr rfl)
  refine wop_fr (r := r) (G1 := G') (M1 := M') ?_ ?_ h4 h3
  · unfold f_X8_recall
    rw [h1, bdp_some]
  · unfold f_X9_recall
    rw [h2, bdp_some]
