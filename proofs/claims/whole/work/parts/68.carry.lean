variable {V : VB} {L : St} {M : St} {a : FN} {z : Nat} {G : Gs} {S : St} {c : Nat → Nat} {l : Nat}
/-! ===== carrying the orders out ===== -/
theorem cd_eq {S' : St} (h : CD S c l) (h4 : S' 4 = S 4) (h6 : S' 6 = S 6) : CD S' c l := by
  obtain ⟨g1, g2, g3, g4, g5⟩ := h
  exact ⟨g1, by rw [h4]; exact g2, fun i hi => by rw [h6]; exact g3 i hi, g4, g5⟩
theorem nf_eq {M' : St} {k i : Nat} (h8 : M' 8 = M 8) (h : nf M k c i) : nf M' k c i := by
  unfold nf at h ⊢
  rw [h8]
  exact h
theorem sto_eq {M' : St} (h7 : M' 7 = M 7) (h8 : M' 8 = M 8) : ∀ (N k p : Nat), sto c M N k p → sto c M' N k p
  | 0, _, _, _ => trivial
  | N + 1, k, p, h => ⟨by rw [h7]; exact h.1, nf_eq h8 h.2.1, sto_eq h7 h8 N _ _ h.2.2⟩
theorem kdc_of {x : Nat} : (kdc x = 0 ↔ x = 114) ∧ (kdc x = 1 ↔ x = 119) ∧ (kdc x = 2 ↔ x = 98) ∧ (kdc x = 3 ↔ x = 99) := by
  unfold kdc
  by_cases q1 : x = 98
  · subst q1; decide
  by_cases q2 : x = 99
  · subst q2; decide
  by_cases q3 : x = 114
  · subst q3; decide
  by_cases q4 : x = 119
  · subst q4; decide
  rw [if_neg q1, if_neg q2, if_neg q3, if_neg q4]
  refine ⟨⟨fun q => ?_, fun q => absurd q q3⟩, ⟨fun q => ?_, fun q => absurd q q4⟩, ⟨fun q => ?_, fun q => absurd q q1⟩, ⟨fun q => ?_, fun q => absurd q q2⟩⟩ <;> omega
theorem ok_kdc {i : Nat} (h : (ordr c i).1 = true) : kdc (c i) ≤ 3 := by
  have := kdc_le (c i)
  by_cases q : kdc (c i) = 4
  · rw [o_4 q] at h; cases h
  · omega
/-- one order, by both -/
theorem one_order {G1 : Gs} (h : RLG G1 M) {i k : Nat} (ok : (ordr c i).1 = true) (hk : k ≤ 28) (hc : c i ≤ 126) (e7 : M 7 k = nI (c i)) (en : nf M k c i) : ∃ x G2 M2, f_X8_happen G1 (nI (kdc (c i))) (nI (ordr c i).2.2.1) (nI (ordr c i).2.2.2.1) (nI (ordr c i).2.2.2.2) 0 = some (x, G2) ∧ f_X9_carry M (nI k) = some (x, M2) ∧ RLG G2 M2 ∧ Fr G1 G2 M M2 := by
  have k3 := ok_kdc ok
  have eq : ∀ y : Nat, y ≤ 126 → (nI (c i) = nI y ↔ c i = y) := fun y hy => nI_eq (by omega) (by omega)
  have e98 : (nI (c i) = (98 : Int32) ↔ c i = 98) := eq 98 (by omega)
  have e114 : (nI (c i) = (114 : Int32) ↔ c i = 114) := eq 114 (by omega)
  have e119 : (nI (c i) = (119 : Int32) ↔ c i = 119) := eq 119 (by omega)
  have m3 : (3 : Int32) * nI k = nI (3 * k) := pk_mul 3 k
  have m31 : nI (3 * k) + 1 = nI (3 * k + 1) := nI_1 _
  have m32 : nI (3 * k) + 2 = nI (3 * k + 2) := nI_add _ 2
  obtain ⟨n1, n2, n3⟩ := en
  obtain ⟨d0, d1, d2, d3⟩ := kdc_of (x := c i)
  have cr : f_X9_carry M (nI k) = (if nI (c i) = 98 then (bdp (f_X9_tryPutBack M (M 8 (3 * k)) (M 8 (3 * k + 1)) 0) (fun y2 S1 => some (y2, S1))) else (if nI (c i) = 114 then (bdp (f_X9_tryRead M (M 8 (3 * k)) (M 8 (3 * k + 1)) 0) (fun y4 S3 => some (y4, S3))) else (if nI (c i) = 119 then (bdp (f_X9_tryChange M (M 8 (3 * k)) (M 8 (3 * k + 1)) (M 8 (3 * k + 2)) 0) (fun y6 S5 => some (y6, S5))) else (bdp (f_X9_tryRecall M (M 8 (3 * k)) 0) (fun y8 S7 => some (y8, S7)))))) := by
    unfold f_X9_carry
    rw [ix_ok (by omega) (by omega), cl_n (by omega), m3, m31, m32, e7, ix_ok (show 3 * k < 87 by omega) (by omega), ix_ok (show 3 * k + 1 < 87 by omega) (by omega), ix_ok (show 3 * k < 87 by omega) (by omega), ix_ok (show 3 * k + 1 < 87 by omega) (by omega), ix_ok (show 3 * k < 87 by omega) (by omega), ix_ok (show 3 * k + 1 < 87 by omega) (by omega), ix_ok (show 3 * k + 2 < 87 by omega) (by omega), ix_ok (show 3 * k < 87 by omega) (by omega), cl_n (by omega), cl_n (by omega), cl_n (by omega)]
  rw [cr]
  rcases (show kdc (c i) = 0 ∨ kdc (c i) = 1 ∨ kdc (c i) = 2 ∨ kdc (c i) = 3 by omega) with q | q | q | q
  · have hc := d0.mp q
    obtain ⟨v1, v2⟩ := n2 (by omega)
    obtain ⟨x, G2, M2, t1, t2, t3, t4⟩ := hap_read h (nI (ordr c i).2.2.1) (nI (ordr c i).2.2.2.1) (nI (ordr c i).2.2.2.2) (Or.inl rfl)
    rw [q, if_neg (fun g => by have := e98.mp g; omega), if_pos (e114.mpr hc), v1, v2, t2, bdp_some]
    exact ⟨x, G2, M2, t1, rfl, t3, t4⟩
  · have hc := d1.mp q
    obtain ⟨v1, v2⟩ := n2 (by omega)
    have v3 := n3 q
    obtain ⟨x, G2, M2, t1, t2, t3, t4⟩ := hap_change h (nI (ordr c i).2.2.1) (nI (ordr c i).2.2.2.1) (nI (ordr c i).2.2.2.2) (Or.inl rfl)
    rw [q, if_neg (fun g => by have := e98.mp g; omega), if_neg (fun g => by have := e114.mp g; omega), if_pos (e119.mpr hc), v1, v2, v3, t2, bdp_some]
    exact ⟨x, G2, M2, t1, rfl, t3, t4⟩
  · have hc := d2.mp q
    obtain ⟨v1, v2⟩ := n2 (by omega)
    obtain ⟨x, G2, M2, t1, t2, t3, t4⟩ := hap_back h (nI (ordr c i).2.2.1) (nI (ordr c i).2.2.2.1) (nI (ordr c i).2.2.2.2) (Or.inl rfl)
    rw [q, if_pos (e98.mpr hc), v1, v2, t2, bdp_some]
    exact ⟨x, G2, M2, t1, rfl, t3, t4⟩
  · have hc := d3.mp q
    have v1 := n1 q
    obtain ⟨x, G2, M2, t1, t2, t3, t4⟩ := hap_recall h (nI (ordr c i).2.2.1) (nI (ordr c i).2.2.2.1) (nI (ordr c i).2.2.2.2) (Or.inl rfl)
    rw [q, if_neg (fun g => by have := e98.mp g; omega), if_neg (fun g => by have := e114.mp g; omega), if_neg (fun g => by have := e119.mp g; omega), v1, t2, bdp_some]
    exact ⟨x, G2, M2, t1, rfl, t3, t4⟩
/-- one round of both loops, the order at i being read -/
theorem cry_step (kc : Int32 → Gs → Option (Int32 × Gs)) (km : Int32 → St → Option (Int32 × St)) (h : RLG G M) (hc : CD (G 0) c l) {i k f f' N : Nat} {T : St} (kT : Kp (G 0) T) (hT : T 7 1 = nI i) (hi : i ≤ 300) (hn : f_X4_takeNext (G 0) = chn T) (ok : (ordr c i).1 = true) (hk : k ≤ 28) (e7 : M 7 k = nI (c i)) (en : nf M k c i) (h11 : M 0 11 = nI (k + (N + 1))) (hN : N ≤ 100) (hst : sto c M N (k + 1) (ordr c i).2.1)
    (rec : ∀ G2 M2, RLG G2 M2 → G2 1 = G 1 → G2 0 3 = G 0 3 → CD (G2 0) c l → G2 0 7 1 = nI (ordr c i).2.1 → sto c M2 N (k + 1) (ordr c i).2.1 → M2 0 11 = nI (k + 1 + N) → ∃ n G' M', f_X8_carryOut_L36 kc f (nI (k + 1)) G2 = kc (nI n) G' ∧ f_X9_carryOut_L16 km f' (nI (k + 1)) M2 = km (nI n) M' ∧ RLG G' M' ∧ G' 1 = G 1 ∧ G' 0 3 = G 0 3) : ∃ n G' M', f_X8_carryOut_L36 kc (f + 1) (nI k) G = kc (nI n) G' ∧ f_X9_carryOut_L16 km (f' + 1) (nI k) M = km (nI n) M' ∧ RLG G' M' ∧ G' 1 = G 1 ∧ G' 0 3 = G 0 3 := by
  obtain ⟨S2, s1, s2, s3, s4⟩ := c_order (cd_kp hc kT) hT hi
  obtain ⟨t1, t2, t3, t4⟩ := s4 ok
  have kp := kp_trans kT s2
  have r1 : RLG (va_up G 0 S2) M := rl_read (k := 0) h kp ko_refl
  obtain ⟨x, G2, M2, o1, o2, o3, o4, o5, o6, o7⟩ := one_order r1 ok hk (cd_le hc i) e7 en
  have g1 : G2 1 = G 1 := o4.trans (up_ne _ _ (by decide))
  have g0 : ∀ q, q ≠ 1 → G2 0 q = S2 q := fun q hq => by rw [o5 q hq, up_self]
  have g3 : G2 0 3 = G 0 3 := by rw [g0 3 (by decide)]; exact kp 3 (by decide)
  rw [f_X8_carryOut_L36, if_neg (show ¬ (80 : Int32) ≤ nI k from nI_ge (b := 80) (by omega) (by omega)), hn, s1, ok, if_pos rfl, bdp_some, if_neg d10, up_self, t1, t2, t3, t4, o1, bdp_some, f_X9_carryOut_L16, h11, if_neg (nI_ge (by omega) (by omega)), o2, bdp_some]
  by_cases hx : x < 0
  · rw [if_pos hx, if_pos hx]
    exact ⟨k, G2, M2, rfl, rfl, o3, g1, g3⟩
  · rw [if_neg hx, if_neg hx, nI_1]
    exact rec G2 M2 o3 g1 g3 (cd_eq (cd_kp hc kp) (g0 4 (by decide)) (g0 6 (by decide))) (by rw [g0 7 (by decide)]; exact s3) (sto_eq (o6 7 (by omega)) (o6 8 (by omega)) _ _ _ hst) (by rw [o7 11 (by omega), h11]; congr 1; omega)
theorem cry_L (kc : Int32 → Gs → Option (Int32 × Gs)) (km : Int32 → St → Option (Int32 × St)) : ∀ (N k p : Nat) (G : Gs) (M : St) (f f' : Nat), N < f → N < f' → N ≤ 100 → RLG G M → CD (G 0) c l → G 0 7 1 = nI p → 0 < p → p ≤ 120 → 3 * k ≤ p + 1 → sq c l N p → sto c M N k p → M 0 11 = nI (k + N) → ∃ n G' M', f_X8_carryOut_L36 kc f (nI k) G = kc (nI n) G' ∧ f_X9_carryOut_L16 km f' (nI k) M = km (nI n) M' ∧ RLG G' M' ∧ G' 1 = G 1 ∧ G' 0 3 = G 0 3
  | 0, k, p, G, M, f + 1, f' + 1, _, _, _, h, hc, h1, hp, hp2, hk, hs, _, h11 => by
    have hs' : l ≤ p := hs
    have c0 : c p = 0 := hc.2.2.2.1 p hs'
    rw [f_X8_carryOut_L36, if_neg (show ¬ (80 : Int32) ≤ nI k from nI_ge (b := 80) (by omega) (by omega)), c_next1 hc h1 (by omega) hp, if_neg (by omega), bdp_some, if_pos rfl, up_id, f_X9_carryOut_L16, h11, Nat.add_zero, if_pos (nI_le (Nat.le_refl _) (by omega))]
    exact ⟨k, G, M, rfl, rfl, h, rfl, rfl⟩
  | N + 1, k, p, G, M, f + 1, f' + 1, hf, hf', hN, h, hc, h1, hp, hp2, hk, hs, hst, h11 => by
    obtain ⟨p1, p2, p3, p4, p5⟩ := hs
    obtain ⟨e7, en, est⟩ := hst
    have h80 := hc.1
    have ol := ord_le (c := c) (p + 1)
    have ol2 := ol.2.2 p3
    refine cry_step kc km h hc (i := p + 1) (T := sp (G 0) 7 1 (nI (p + 1))) kp_sp (sp_eq' _ _ _ _) (by omega) (by rw [c_next1 hc h1 (by omega) hp, if_pos p2]) p3 (by omega) e7 en h11 (by omega) est ?_
    intro G2 M2 r1 r2 r3 r4 r5 r6 r7
    obtain ⟨n, G', M', q1, q2, q3, q4, q5⟩ := cry_L kc km N (k + 1) (ordr c (p + 1)).2.1 G2 M2 f f' (by omega) (by omega) (by omega) r1 r4 r5 (by omega) (by omega) (by omega) p5 r6 r7
    exact ⟨n, G', M', q1, q2, q3, q4.trans r2, q5.trans r3⟩
theorem sq_le : ∀ (N p : Nat), sq c l N p → N ≤ l
  | 0, _, _ => Nat.zero_le _
  | N + 1, p, h => by
    have key : ∀ (N p : Nat), sq c l N p → 0 < N → p + N ≤ l := by
      intro N
      induction N with
      | zero => intro p _ h; omega
      | succ N ih =>
        intro p h _
        obtain ⟨p1, p2, p3, p4, p5⟩ := h
        have ol := (ord_le (c := c) (p + 1)).2.2 p3
        rcases Nat.eq_zero_or_pos N with e | e
        · omega
        · have := ih _ p5 e
          omega
    have := key (N + 1) p h (by omega)
    omega
theorem w_carry (h : Rel G) : Wop (f_X8_carryOut G) (f_X9_carryOut (G 1)) Rel G := by
  obtain ⟨c, l, hc, hm⟩ := pd_cd h.2.2.2
  obtain ⟨r, S', M', e1, e2, e3, e4, e5⟩ := flt0 hc hm
  have r1 := rl_read h e3 e4
  unfold f_X8_carryOut f_X9_carryOut
  rw [e1, bdp_some, e2, bdp_some]
  rcases e5 with e5 | ⟨rfl, N, o1, o2, o3, o4, o5, o6⟩
  · rw [if_neg (fun q => by rw [q] at e5; exact e5 (by decide)), if_neg e5]
    exact wop_of rfl rfl (up_ne _ _ (by decide)) (fun j => by rw [up_self, e3 3 (by decide)]) r1
  · rw [if_pos rfl, if_pos (show (-6 : Int32) < 0 by decide)]
    obtain ⟨G2, M2, k1, k2, k3, k4, k5, k6, k7, k8, k9, k10⟩ := keep_ok r1
    rw [k1, bd_some, k2, bd_some, bnd_e]
    have kp : Kp (G2 0) (sp (G2 0) 7 1 0) := kp_sp
    have r2 : RLG (va_up G2 0 (sp (G2 0) 7 1 0)) M2 := rl_read (k := 0) k3 kp ko_refl
    have g0 : ∀ q, q ≠ 1 → G2 0 q = S' q := fun q hq => by rw [k9 q hq, up_self]
    have cd2 : CD (va_up G2 0 (sp (G2 0) 7 1 0) 0) c l := by
      rw [up_self]
      refine cd_eq (cd_kp hc e3) ?_ ?_
      · rw [sp_row' _ _ _ (by decide)]; exact g0 4 (by decide)
      · rw [sp_row' _ _ _ (by decide)]; exact g0 6 (by decide)
    have N80 := sq_le N _ o2
    have h80 := hc.1
    have ol := ord_le (c := c) 0
    have ol2 := ol.2.2 o1
    have s71 : va_up G2 0 (sp (G2 0) 7 1 0) 0 7 1 = nI 0 := by rw [up_self, sp_eq']; rfl
    obtain ⟨n, G', M3, q1, q2, q3, q4, q5⟩ := cry_step (fun (x1_94 : Int32) (S_94 : Gs) => bnd (va_up S_94 0 (sp (S_94 0) 4 1 0)) (fun S9 => some (x1_94, S9))) (fun (x1_38 : Int32) (S_38 : St) => bnd (sp S_38 0 8 0) (fun S6 => some (x1_38, S6))) r2 cd2 (i := 0) (k := 0) (f := 4999) (f' := 4999) (N := N) kp_refl s71 (by omega) (c_next0 s71) o1 (by omega) (by rw [k7 7 (by omega)]; exact o3) (nf_eq (k7 8 (by omega)) o4) (by rw [k8 11 (by omega), o6]; congr 1; omega) (by omega) (sto_eq (k7 7 (by omega)) (k7 8 (by omega)) _ _ _ o5) (fun G3 M4 t1 t2 t3 t4 t5 t6 t7 => by
      obtain ⟨n, G', M', u1, u2, u3, u4, u5⟩ := cry_L (c := c) (l := l) (fun (x1_94 : Int32) (S_94 : Gs) => bnd (va_up S_94 0 (sp (S_94 0) 4 1 0)) (fun S9 => some (x1_94, S9))) (fun (x1_38 : Int32) (S_38 : St) => bnd (sp S_38 0 8 0) (fun S6 => some (x1_38, S6))) N 1 (ordr c 0).2.1 G3 M4 4999 4999 (by omega) (by omega) (by omega) t1 t4 t5 (by omega) (by omega) (by omega) o2 t6 t7
      exact ⟨n, G', M', u1, u2, u3, u4.trans t2, u5.trans t3⟩)
    have q1' : f_X8_carryOut_L36 (fun (x1_94 : Int32) (S_94 : Gs) => bnd (va_up S_94 0 (sp (S_94 0) 4 1 0)) (fun S9 => some (x1_94, S9))) 5000 0 (va_up G2 0 (sp (G2 0) 7 1 0)) = some (nI n, va_up G' 0 (sp (G' 0) 4 1 0)) := q1
    have q2' : f_X9_carryOut_L16 (fun (x1_38 : Int32) (S_38 : St) => bnd (sp S_38 0 8 0) (fun S6 => some (x1_38, S6))) 5000 0 M2 = some (nI n, sp M3 0 8 0) := q2
    refine wop_of q1' q2' ?_ (fun j => ?_) (rl_top q3 ?_ ?_ ?_ ?_ ?_ ?_ ?_ ?_ ⟨0, by omega, ?_, ?_, fun i hi => absurd hi (Nat.not_lt_zero i)⟩)
    · rw [up_ne _ _ (by decide), q4, up_ne _ _ (by decide), k6, up_ne _ _ (by decide)]
    · rw [up_self, sp_row' _ _ _ (by decide), q5, up_self, sp_row' _ _ _ (by decide), g0 3 (by decide), e3 3 (by decide)]
    · exact sp_row' _ _ _ (by decide)
    · exact sp_row' _ _ _ (by decide)
    · exact sp_row' _ _ _ (by decide)
    · exact sp_row' _ _ _ (by decide)
    · exact sp_row' _ _ _ (by decide)
    · exact sp_row' _ _ _ (by decide)
    · rw [sp_at, if_neg (by omega)]
    · rw [sp_at, if_neg (by omega)]
    · rw [up_self, sp_eq']
      rfl
    · rw [sp_eq']
      rfl
