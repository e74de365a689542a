variable {V : VB} {L : St} {M : St} {a : FN} {z : Nat}
/-! ===== what holds after calling back, after writing on the card ===== -/
theorem inv_back (w : Inv 24 L) {n : Nat} {x2 g : Int32} (hn : n < 24) : Inv n (cbk n (cal L n) x2 g 16 0 L) ∧ ∀ r' v c, r' < 16 → (cp (cbk n (cal L n) x2 g 16 0 L) r' n v c ↔ cp L r' n v c ∧ nI r' = x2) := by
  obtain ⟨w1, w2, w3, w4, w5, w6, w7⟩ := w
  obtain ⟨j1, j2, j3, j4⟩ := cbk_ok hn (m := cal L n) (x2 := x2) (g := g) 16 0 (by omega) L w3 w4
  have out : ∀ r' n' v c, r' < 16 → n' < 24 → n' ≠ n → (cp (cbk n (cal L n) x2 g 16 0 L) r' n' v c ↔ cp L r' n' v c) := fun r' n' v c h1 h2 h3 => by
    rw [j4 r' n' v c h1 h2]
    exact ⟨fun q => q.1, fun q => ⟨q, fun q2 => h3 q2.1⟩⟩
  have sub : ∀ r' n' v c, r' < 16 → n' < 24 → cp (cbk n (cal L n) x2 g 16 0 L) r' n' v c → cp L r' n' v c := fun r' n' v c h1 h2 q => ((j4 r' n' v c h1 h2).mp q).1
  refine ⟨⟨wfT_same (j3 2 (by simp)) w1, wfC_same (j3 7 (by simp)) (j3 9 (by simp)) w2, j1, j2, ?_, ?_, ?_⟩, fun r' v c hr' => ?_⟩
  · intro n' hn' hne h3
    rw [j3 7 (by simp)] at h3
    obtain ⟨o, ho, q, v, hv⟩ := w5 n' hn' (by omega) h3
    exact ⟨o, ho, by rw [j3 9 (by simp)]; exact q, v, (out o n' v 1 ho hn' hne).mpr hv⟩
  · intro n' hn' r' hr' v hv
    rw [j3 7 (by simp), j3 9 (by simp)]
    exact w6 n' hn' r' hr' v (sub r' n' v 1 hr' hn' hv)
  · intro n' hn' r' hr' hh
    obtain ⟨v, c, q⟩ := hasC_cp.mp hh
    rw [calP_same (j3 2 (by simp)) (by rw [j3 7 (by simp)]) (by rw [j3 9 (by simp)])]
    exact w7 n' hn' r' hr' (hasC_cp.mpr ⟨v, c, sub r' n' v c hr' hn' q⟩)
  · rw [j4 r' n v c hr' hn]
    constructor
    · rintro ⟨q1, q2⟩
      refine ⟨q1, ?_⟩
      by_cases h : nI r' = x2
      · exact h
      · exfalso
        refine q2 ⟨rfl, by omega, by omega, h, ?_⟩
        rw [bt_cal (by omega), w7 n hn r' hr' (hasC_cp.mpr ⟨v, c, q1⟩), decide_eq_true hr']
        rfl
    · rintro ⟨q1, q2⟩
      exact ⟨q1, fun q => q.2.2.2.1 q2⟩
theorem inv_blank {n : Nat} (w : Inv n L) (hn : n < 24) (hno : ∀ r, r < 16 → ¬ hasC L r n) : Inv 24 (setC L n 0 0) := by
  obtain ⟨w1, w2, w3, w4, w5, w6, w7⟩ := w
  have cs : ∀ {r n' v c}, cp (setC L n 0 0) r n' v c ↔ cp L r n' v c := cp_same setC_sh
  refine ⟨wfT_same (setC_ne (by decide) (by decide)) w1, wfC_set (k := 0) w2 (by omega) hi_zero (fun _ => rfl), wfS_same setC_sh w3, wfH_same setC_sh (setC_ne (by decide) (by decide)) w4, ?_, ?_, ?_⟩
  · intro n' hn' _ h3
    rw [setC_7] at h3
    by_cases e : n' = n
    · rw [if_pos e] at h3; exact absurd h3 (by decide)
    · rw [if_neg e] at h3
      obtain ⟨o, ho, q, v, hv⟩ := w5 n' hn' e h3
      exact ⟨o, ho, by rw [setC_9, if_neg e]; exact q, v, cs.mpr hv⟩
  · intro n' hn' r' hr' v hv
    have hv' := cs.mp hv
    by_cases e : n' = n
    · subst e
      exact absurd (hasC_cp.mpr ⟨v, 1, hv'⟩) (hno r' hr')
    · rw [setC_7, setC_9, if_neg e, if_neg e]
      exact w6 n' hn' r' hr' v hv'
  · intro n' hn' r' hr' hh
    have hh' := (hasC_same setC_sh).mp hh
    by_cases e : n' = n
    · subst e
      exact absurd hh' (hno r' hr')
    · rw [calP_same (setC_ne (by decide) (by decide)) (by rw [setC_7, if_neg e]) (by rw [setC_9, if_neg e])]
      exact w7 n' hn' r' hr' hh'
theorem bt_gm {m : Int32} {z : Nat} {q : Nat} (hq : q < 32) : ∀ k, k ≤ 16 → (bt (gm m z k) q = true ↔ ∃ j, j < k ∧ bt m j = true ∧ j / z = q)
  | 0, _ => by
    rw [gm, b_0]
    exact ⟨fun h => absurd h (by decide), fun ⟨j, h, _⟩ => absurd h (Nat.not_lt_zero j)⟩
  | k + 1, hk => by
    have ih := bt_gm (m := m) (z := z) hq k (by omega)
    have hkz : k / z < 32 := Nat.lt_of_le_of_lt (Nat.div_le_self k z) (by omega)
    rw [gm]
    by_cases hb : bt m k = true
    · rw [if_pos hb, bt_or_only hkz hq, Bool.or_eq_true, ih, decide_eq_true_iff]
      constructor
      · rintro (⟨j, h1, h2⟩ | h)
        · exact ⟨j, by omega, h2⟩
        · exact ⟨k, by omega, hb, h.symm⟩
      · rintro ⟨j, h1, h2, h3⟩
        by_cases e : j = k
        · subst e; exact Or.inr h3.symm
        · exact Or.inl ⟨j, by omega, h2, h3⟩
    · rw [if_neg hb, ih]
      constructor
      · rintro ⟨j, h1, h2⟩
        exact ⟨j, by omega, h2⟩
      · rintro ⟨j, h1, h2, h3⟩
        by_cases e : j = k
        · subst e; exact absurd h2 hb
        · exact ⟨j, by omega, h2, h3⟩
theorem wrt_ne {r n k : Nat} (h : k ≠ 7) (h2 : k ≠ 9) : wrt L r n k = L k := setC_ne h h2
theorem wrt_sh {r n : Nat} : ∀ k, shR k = true → wrt L r n k = L k := setC_sh
theorem wrt_7 {r n : Nat} (n' : Nat) : wrt L r n 7 n' = if n' = n then (if isFull L r n then 2 else 1) else L 7 n' := setC_7 n'
theorem wrt_9 {r n : Nat} (n' : Nat) : wrt L r n 9 n' = if n' = n then newN L r n else L 9 n' := setC_9 n'
theorem hi_gm {m : Int32} {z : Nat} (h : ∀ i, 16 ≤ i → i < 32 → bt m i = false) : ∀ i, 16 ≤ i → i < 32 → bt (gm m z 16) i = false := by
  intro i h1 h2
  cases hb : bt (gm m z 16) i
  · rfl
  · obtain ⟨j, g1, g2, g3⟩ := (bt_gm h2 16 (by omega)).mp hb
    have := Nat.div_le_self j z
    omega
theorem wfC_wrt (ht : wfT L) (hc : wfC L) {r n : Nat} (hr : r < 16) (hn : n < 24) : wfC (wrt L r n) := by
  have hb := (hc n hn).2.1
  have hz : r / num L 2 1 < 16 := Nat.lt_of_le_of_lt (Nat.div_le_self r _) hr
  have hN : ∀ i, 16 ≤ i → i < 32 → bt (newN L r n) i = false := by
    unfold newN
    split
    · exact hi_or hz hb
    · split
      · exact hi_gm (hi_or hr hb)
      · exact hi_or hr hb
  unfold wrt
  cases isFull L r n
  · exact wfC_set (k := 1) hc (by omega) hN (fun q => absurd q (by omega))
  · exact wfC_set (k := 2) hc (by omega) hN (fun q => absurd q (by omega))
theorem cal_wrt {r n i : Nat} (hr : r < 16) (hi : i < 16) (h : calP L n i = true ∨ i = r) : calP (wrt L r n) n i = true := by
  have hz : ∀ j, j < 16 → j / num L 2 1 < 32 := fun j hj => Nat.lt_of_le_of_lt (Nat.div_le_self j _) (by omega)
  have e2 : num (wrt L r n) 2 1 = num L 2 1 := by unfold num; rw [wrt_ne (by decide) (by decide)]
  unfold calP at h ⊢
  rw [wrt_7, wrt_9, if_pos rfl, if_pos rfl, e2]
  unfold newN
  by_cases h2 : L 7 n = 2
  · have hf : isFull L r n = true := by unfold isFull; rw [h2]; rfl
    rw [if_pos h2] at h ⊢
    rw [hf, if_pos rfl, if_pos rfl, bt_or_only (hz r hr) (hz i hi)]
    rcases h with h | rfl
    · rw [h]; rfl
    · simp
  · rw [if_neg h2] at h ⊢
    have hor : bt (L 9 n ||| only r) i = true := by
      rw [bt_or_only (by omega) (by omega)]
      rcases h with h | rfl
      · rw [h]; rfl
      · simp
    cases hf : isFull L r n
    · rw [if_neg (by decide), if_neg (by decide)]
      exact hor
    · rw [if_pos rfl, if_pos rfl, if_pos rfl]
      exact (bt_gm (hz i hi) 16 (by omega)).mpr ⟨i, hi, hor, rfl⟩
