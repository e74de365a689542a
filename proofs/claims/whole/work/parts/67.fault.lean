variable {V : VB} {L : St} {M : St} {a : FN} {z : Nat} {G : Gs} {S : St} {c : Nat → Nat} {l : Nat}
/-! ===== the fault ===== -/
theorem ord_le (i : Nat) : i ≤ (ordr c i).2.1 ∧ (ordr c i).2.1 ≤ i + 16 ∧ ((ordr c i).1 = true → i + 2 ≤ (ordr c i).2.1) := by
  have rl := rdr_le (c := c) (kdc (c i)) (i + 1)
  by_cases n4 : kdc (c i) = 4
  · rw [o_4 n4]
    exact ⟨Nat.le_refl _, by show i ≤ i + 16; omega, fun q => by cases q⟩
  · cases hR : (rdr c (kdc (c i)) (i + 1)).1
    · rw [o_F n4 hR]
      exact ⟨by show i ≤ (rdr c (kdc (c i)) (i + 1)).2.1; omega, by show (rdr c (kdc (c i)) (i + 1)).2.1 ≤ i + 16; omega, fun q => by cases q⟩
    · cases hd : dgt (c (rdr c (kdc (c i)) (i + 1)).2.1)
      · rw [o_N n4 hR hd]
        exact ⟨by show i ≤ (rdr c (kdc (c i)) (i + 1)).2.1; omega, by show (rdr c (kdc (c i)) (i + 1)).2.1 ≤ i + 16; omega, fun q => by cases q⟩
      · rw [o_T n4 hR hd]
        have h1 := nE_yes hd
        have h2 := vlu_le (c := c) (kdc (c i)) (nE c (rdr c (kdc (c i)) (i + 1)).2.1)
        exact ⟨by show i ≤ (vlu c (kdc (c i)) (nE c (rdr c (kdc (c i)) (i + 1)).2.1)).2.1; omega, by show (vlu c (kdc (c i)) (nE c (rdr c (kdc (c i)) (i + 1)).2.1)).2.1 ≤ i + 16; omega, fun _ => by show i + 2 ≤ (vlu c (kdc (c i)) (nE c (rdr c (kdc (c i)) (i + 1)).2.1)).2.1; omega⟩
theorem ord_end {i : Nat} (h : (ordr c i).1 = true) : (ordr c i).2.1 = nE c (lst c i) := by
  by_cases n4 : kdc (c i) = 4
  · rw [o_4 n4] at h; cases h
  · cases hR : (rdr c (kdc (c i)) (i + 1)).1
    · rw [o_F n4 hR] at h; cases h
    · cases hd : dgt (c (rdr c (kdc (c i)) (i + 1)).2.1)
      · rw [o_N n4 hR hd] at h; cases h
      · rw [o_T n4 hR hd] at h ⊢
        unfold lst
        by_cases n1 : kdc (c i) = 1
        · rw [if_pos n1]
          rw [n1] at h ⊢
          revert h
          show (vlu c 1 (nE c (rdr c 1 (i + 1)).2.1)).1 = true → (vlu c 1 (nE c (rdr c 1 (i + 1)).2.1)).2.1 = nE c (nE c (rdr c 1 (i + 1)).2.1 + 1)
          unfold vlu
          rw [if_pos rfl]
          by_cases e : c (nE c (rdr c 1 (i + 1)).2.1) = 61
          · rw [if_pos e]
            by_cases d : dgt (c (nE c (rdr c 1 (i + 1)).2.1 + 1)) = true
            · rw [if_pos d]
              exact fun _ => rfl
            · rw [if_neg d]
              exact fun q => by cases q
          · rw [if_neg e]
            exact fun q => by cases q
        · rw [if_neg n1, vlu_o n1]
theorem big_end {i : Nat} (h : (ordr c i).1 = true) (hb : bgo c i = true) : dgt (c (ordr c i).2.1) = true := by
  rw [ord_end h]
  exact big_dg hb
def sq (c : Nat → Nat) (l : Nat) : Nat → Nat → Prop
  | 0, p => l ≤ p
  | N + 1, p => p < l ∧ c p = 59 ∧ (ordr c (p + 1)).1 = true ∧ bgo c (p + 1) = false ∧ sq c l N (ordr c (p + 1)).2.1
def sto (c : Nat → Nat) (M : St) : Nat → Nat → Nat → Prop
  | 0, _, _ => True
  | N + 1, k, p => M 7 k = nI (c (p + 1)) ∧ nf M k c (p + 1) ∧ sto c M N (k + 1) (ordr c (p + 1)).2.1
theorem nf_ko {M' : St} {k k' i : Nat} (g : KO M M' k') (hk : k < k') (h : nf M k c i) : nf M' k c i := by
  unfold nf at h ⊢
  rw [g.2.2.2 (3 * k) (by omega), g.2.2.2 (3 * k + 1) (by omega), g.2.2.2 (3 * k + 2) (by omega)]
  exact h
def kfl (S_57 : St) : Option (Int32 × St) := if (S_57 0 10) = 0 then (some ((-6), S_57)) else (some (S_57 0 9, S_57))
theorem L19_w {f i : Nat} (h10 : M 0 10 = 1) (h9 : M 0 9 = nI i) : f_X9_fault_L19 kfl (f + 1) M = some (nI i, M) := by
  rw [f_X9_fault_L19, h10, if_neg d10]
  unfold kfl
  rw [h10, if_neg d10, h9]
theorem flt : ∀ (d p k : Nat) (S M : St) (f f' : Nat), l - p ≤ d → d + 2 ≤ f → d + 2 ≤ f' → 0 < p → p ≤ 120 → 3 * k ≤ p + 1 → CD S c l → S 7 1 = nI p → CM M c l → M 0 9 = nI p → M 0 10 = 0 → M 0 11 = nI k → ∃ r S' M', (if (S 7 1) < (S 4 1) then f_X4_findFault_L7 f (nI k) S else some (-6, S)) = some (r, S') ∧ f_X9_fault_L19 kfl f' M = some (r, M') ∧ Kp S S' ∧ KO M M' k ∧ (¬ r < 0 ∨ (r = -6 ∧ ∃ N, sq c l N p ∧ sto c M' N k p ∧ M' 0 11 = nI (k + N))) := by
  intro d
  induction d with
  | zero =>
    intro p k S M f f' hd hf hf' hp hp2 hk h h1 hm h9 h10 h11
    obtain ⟨f', rfl⟩ : ∃ g, f' = g + 1 := ⟨f' - 1, by omega⟩
    have h80 := h.1
    rw [h1, h.2.1, if_neg (nI_nlt (by omega) (by omega))]
    refine ⟨-6, S, M, rfl, ?_, kp_refl, ko_refl, Or.inr ⟨rfl, 0, by show l ≤ p; omega, trivial, h11⟩⟩
    rw [f_X9_fault_L19, h10, if_pos rfl, hm.2.1, h9, if_pos (nI_le (by omega) (by omega))]
    unfold kfl
    rw [h10, if_pos rfl]
  | succ d ih =>
    intro p k S M f f' hd hf hf' hp hp2 hk h h1 hm h9 h10 h11
    obtain ⟨f', rfl⟩ : ∃ g, f' = g + 1 := ⟨f' - 1, by omega⟩
    obtain ⟨f, rfl⟩ : ∃ g, f = g + 1 := ⟨f - 1, by omega⟩
    have h80 := h.1
    by_cases hpl : l ≤ p
    · rw [h1, h.2.1, if_neg (nI_nlt (by omega) (by omega))]
      refine ⟨-6, S, M, rfl, ?_, kp_refl, ko_refl, Or.inr ⟨rfl, 0, hpl, trivial, h11⟩⟩
      rw [f_X9_fault_L19, h10, if_pos rfl, hm.2.1, h9, if_pos (nI_le (by omega) (by omega))]
      unfold kfl
      rw [h10, if_pos rfl]
    · have sg : f_X9_takeSign M 59 = _ := m_sign (x := 59) hm h9 h10 (by omega) (by omega)
      rw [h1, h.2.1, if_pos (nI_lt (by omega) (by omega)), f_X4_findFault_L7, if_neg (show ¬ (80 : Int32) ≤ nI k from nI_ge (b := 80) (by omega) (by omega)), c_next1 h h1 (by omega) hp, f_X9_fault_L19, h10, if_pos rfl, hm.2.1, h9, if_neg (nI_ge (by omega) (by omega)), sg, bd_some]
      by_cases q : c p = 59
      · rw [if_pos q, if_pos q]
        have kpS : Kp S (sp S 7 1 (nI (p + 1))) := kp_sp
        have knM : KN M (sp M 0 9 (nI (p + 1))) (3 * k) := kn_sp9
        obtain ⟨S2, s1, s2, s3, s4⟩ := c_order (cd_kp h kpS) (i := p + 1) (sp_eq' _ _ _ _) (by omega)
        obtain ⟨M2, m1, m2, m3, m4⟩ := m_order (cm_kn hm knM) (i := p + 1) (k := k) (sp_eq' _ _ _ _) (by rw [sp_at, if_neg (by omega)]; exact h10) (by rw [sp_at, if_neg (by omega)]; exact h11) (by omega) (by omega)
        have kp2 := kp_trans kpS s2
        have ko2 := ko_trans (ko_kn knM) m2 (Nat.le_refl _)
        have ol := ord_le (c := c) (p + 1)
        rw [s1, bdp_some, sp_at, if_neg (show ¬ (0 = 0 ∧ 10 = 9) by omega), h10, if_pos rfl, m1, bd_some]
        rcases m4 with ⟨o1, b0, w0, k1, e7, en⟩ | ⟨ob, w1⟩
        · rw [o1, if_pos rfl, if_neg d10, nI_1]
          have ol2 := ol.2.2 o1
          obtain ⟨r, S3, M3, t1, t2, t3, t4, t5⟩ := ih (ordr c (p + 1)).2.1 (k + 1) S2 M2 f f' (by omega) (by omega) (by omega) (by omega) (by omega) (by omega) (cd_kp h kp2) s3 (cm_ko hm ko2) m3 w0 k1
          refine ⟨r, S3, M3, t1, t2, kp_trans kp2 t3, ko_trans ko2 t4 (by omega), ?_⟩
          rcases t5 with t5 | ⟨t5, N, t6, t7, t8⟩
          · exact Or.inl t5
          · refine Or.inr ⟨t5, N + 1, ⟨by omega, q, o1, b0, t6⟩, ⟨?_, nf_ko t4 (by omega) en, t7⟩, by rw [t8]; congr 1; omega⟩
            rw [t4.2.2.1 k (by omega)]
            exact e7
        · obtain ⟨f', rfl⟩ : ∃ g, f' = g + 1 := ⟨f' - 1, by omega⟩
          rw [L19_w w1 m3]
          cases ho : (ordr c (p + 1)).1
          · rw [if_neg (show ¬ false = true by decide), if_pos rfl, s3]
            exact ⟨_, S2, M2, rfl, rfl, kp2, ko2, Or.inl (nI_pos (by omega))⟩
          · have hb : bgo c (p + 1) = true := ob.resolve_left (by rw [ho]; decide)
            have hd' := dgt_iff.mp (big_end ho hb)
            have el : (ordr c (p + 1)).2.1 < l := by
              rcases Nat.lt_or_ge (ordr c (p + 1)).2.1 l with g | g
              · exact g
              · have := h.2.2.2.1 _ g; omega
            obtain ⟨f, rfl⟩ : ∃ g, f = g + 1 := ⟨f - 1, by omega⟩
            have cd2 := cd_kp h kp2
            rw [if_pos rfl, if_neg d10, s3, cd2.2.1, if_pos (nI_lt el (by omega)), nI_1, f_X4_findFault_L7, if_neg (show ¬ (80 : Int32) ≤ nI (k + 1) from nI_ge (b := 80) (by omega) (by omega)), c_next1 cd2 s3 (by omega) (by omega), if_neg (by omega), bdp_some, if_pos rfl, s3]
            exact ⟨_, S2, M2, rfl, rfl, kp2, ko2, Or.inl (nI_pos (by omega))⟩
      · rw [if_neg q, if_neg q, bdp_some, if_pos rfl, h1]
        obtain ⟨f', rfl⟩ : ∃ g, f' = g + 1 := ⟨f' - 1, by omega⟩
        have w : sp M 0 10 1 0 10 = 1 := sp_eq' _ _ _ _
        rw [w, if_neg d10, L19_w w (show sp M 0 10 1 0 9 = nI p by rw [sp_at, if_neg (by omega)]; exact h9)]
        exact ⟨_, S, _, rfl, rfl, kp_refl, ko_kn kn_sp10, Or.inl (nI_pos (by omega))⟩
theorem flt0 (h : CD S c l) (hm : CM M c l) : ∃ r S' M', f_X4_findFault S = some (r, S') ∧ f_X9_fault M = some (r, M') ∧ Kp S S' ∧ KO M M' 0 ∧ (¬ r < 0 ∨ (r = -6 ∧ ∃ N, (ordr c 0).1 = true ∧ sq c l N (ordr c 0).2.1 ∧ M' 7 0 = nI (c 0) ∧ nf M' 0 c 0 ∧ sto c M' N 1 (ordr c 0).2.1 ∧ M' 0 11 = nI (1 + N))) := by
  have h80 := h.1
  have kpS : Kp S (sp S 7 1 0) := kp_sp
  have ko0 : KO M (sp (sp (sp M 0 9 0) 0 10 0) 0 11 0) 0 := ⟨fun r h1 _ _ => by rw [sp_row' _ _ _ h1, sp_row' _ _ _ h1, sp_row' _ _ _ h1], fun j h1 h2 h3 => by rw [sp_at, if_neg (fun q => h3 q.2), sp_at, if_neg (fun q => h2 q.2), sp_at, if_neg (fun q => h1 q.2)], fun j hj => absurd hj (Nat.not_lt_zero j), fun j hj => absurd hj (by omega)⟩
  obtain ⟨S2, s1, s2, s3, s4⟩ := c_order (cd_kp h kpS) (i := 0) (sp_eq' _ _ _ _) (by omega)
  obtain ⟨M2, m1, m2, m3, m4⟩ := m_order (cm_ko hm ko0) (i := 0) (k := 0) (by rw [sp_at, if_neg (by omega), sp_at, if_neg (by omega), sp_eq']; rfl) (by rw [sp_at, if_neg (by omega), sp_eq']) (sp_eq' _ _ _ _) (by omega) (by omega)
  have kp2 := kp_trans kpS s2
  have ko2 := ko_trans ko0 m2 (Nat.le_refl _)
  have ol := ord_le (c := c) 0
  have n0 : f_X4_takeNext (sp S 7 1 0) = chn (sp S 7 1 0) := c_next0 (sp_eq' _ _ _ _)
  have ec : f_X4_findFault S = if (if (ordr c 0).1 = true then (1 : Int32) else 0) = 0 then some (S2 7 1, S2) else (if (S2 7 1) < (S2 4 1) then f_X4_findFault_L7 4999 (0 + 1) S2 else some (-6, S2)) := by
    unfold f_X4_findFault
    rw [bnd_e, f_X4_findFault_L7, if_neg (show ¬ (80 : Int32) ≤ 0 by decide), n0, s1, bdp_some]
  have em : f_X9_fault M = f_X9_fault_L19 kfl 5000 M2 := by
    unfold f_X9_fault
    rw [bnd_e, bnd_e, bnd_e, m1, bd_some]
    rfl
  rw [ec, em]
  rcases m4 with ⟨o1, b0, w0, k1, e7, en⟩ | ⟨ob, w1⟩
  · have ol2 := ol.2.2 o1
    rw [o1, if_pos rfl, if_neg d10]
    obtain ⟨r, S3, M3, t1, t2, t3, t4, t5⟩ := flt (l := l) 100 (ordr c 0).2.1 1 S2 M2 4999 5000 (by omega) (by omega) (by omega) (by omega) (by omega) (by omega) (cd_kp h kp2) s3 (cm_ko hm ko2) m3 w0 k1
    refine ⟨r, S3, M3, t1, t2, kp_trans kp2 t3, ko_trans ko2 t4 (by omega), ?_⟩
    rcases t5 with t5 | ⟨t5, N, t6, t7, t8⟩
    · exact Or.inl t5
    · refine Or.inr ⟨t5, N, rfl, t6, ?_, nf_ko t4 (by omega) en, t7, t8⟩
      rw [t4.2.2.1 0 (by omega)]
      exact e7
  · rw [L19_w w1 m3]
    cases ho : (ordr c 0).1
    · rw [if_neg (show ¬ false = true by decide), if_pos rfl, s3]
      exact ⟨_, S2, M2, rfl, rfl, kp2, ko2, Or.inl (nI_pos (by omega))⟩
    · have hb : bgo c 0 = true := ob.resolve_left (by rw [ho]; decide)
      have hd' := dgt_iff.mp (big_end ho hb)
      have ol2 := ol.2.2 ho
      have el : (ordr c 0).2.1 < l := by
        rcases Nat.lt_or_ge (ordr c 0).2.1 l with g | g
        · exact g
        · have := h.2.2.2.1 _ g; omega
      have cd2 := cd_kp h kp2
      rw [if_pos rfl, if_neg d10, s3, cd2.2.1, if_pos (nI_lt el (by omega)), f_X4_findFault_L7, if_neg (show ¬ (80 : Int32) ≤ 0 + 1 by decide), c_next1 cd2 s3 (by omega) (by omega), if_neg (by omega), bdp_some, if_pos rfl, s3]
      exact ⟨_, S2, M2, rfl, rfl, kp2, ko2, Or.inl (nI_pos (by omega))⟩
theorem pd_cd (h : PD M G) : ∃ c l, CD (G 0) c l ∧ CM M c l := by
  obtain ⟨l, p1, p2, p3, p4⟩ := h
  have e : ∀ i, i < l → M 6 i = nI (num M 6 i) ∧ 33 ≤ num M 6 i ∧ num M 6 i ≤ 126 := fun i hi => by
    obtain ⟨_, x, x1, x2, x3⟩ := p4 i hi
    have := nI_len (by omega) x3
    rw [this]
    exact ⟨x3, x1, x2⟩
  refine ⟨fun i => if i < l then num M 6 i else 0, l, ⟨p1, p2, fun i hi => ?_, fun i hi => if_neg (by omega), fun i hi => ?_⟩, ⟨p1, p3, fun i hi => ?_, fun i hi => if_neg (by omega), fun i hi => ?_⟩⟩
  · rw [(p4 i hi).1]
    show M 6 i = nI (if i < l then num M 6 i else 0)
    rw [if_pos hi]; exact (e i hi).1
  · show 33 ≤ (if i < l then num M 6 i else 0) ∧ (if i < l then num M 6 i else 0) ≤ 126
    rw [if_pos hi]; exact (e i hi).2
  · show M 6 i = nI (if i < l then num M 6 i else 0)
    rw [if_pos hi]; exact (e i hi).1
  · show 33 ≤ (if i < l then num M 6 i else 0) ∧ (if i < l then num M 6 i else 0) ≤ 126
    rw [if_pos hi]; exact (e i hi).2
theorem rl_read {S' M' : St} {k : Nat} (h : RLG G M) (k1 : Kp (G 0) S') (k2 : KO M M' k) : RLG (va_up G 0 S') M' :=
  rl_top h (k1 1 (by decide)) (k1 3 (by decide)) (k2.1 1 (by decide) (by decide) (by decide)) (k2.1 2 (by decide) (by decide) (by decide)) (k2.1 3 (by decide) (by decide) (by decide)) (k2.1 4 (by decide) (by decide) (by decide)) (k2.2.1 2 (by decide) (by decide) (by decide)) (k2.2.1 3 (by decide) (by decide) (by decide)) (pd_same h.2.2.2 (by rw [up_self]; exact k1 4 (by decide)) (by rw [up_self]; exact k1 6 (by decide)) (k2.2.1 8 (by decide) (by decide) (by decide)) (k2.1 6 (by decide) (by decide) (by decide)))
theorem w_fault (h : Rel G) : Wop (f_X8_fault G) (f_X9_fault (G 1)) Rel G := by
  obtain ⟨c, l, hc, hm⟩ := pd_cd h.2.2.2
  obtain ⟨r, S', M', e1, e2, e3, e4, _⟩ := flt0 hc hm
  refine wop_of (r := r) (G1 := va_up G 0 S') (M1 := M') ?_ e2 (up_ne _ _ (by decide)) (fun j => by rw [up_self, e3 3 (by decide)]) (rl_read h e3 e4)
  unfold f_X8_fault
  rw [e1, bdp_some]
