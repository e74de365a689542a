variable {V : VB} {L : St} {M : St} {a : FN} {z : Nat} {G : Gs}
/-! ===== undo, saving, restoring, wiping ===== -/
theorem w_undo (h : Rel G) : Wop (f_X8_undo G) (f_X9_undo (G 1)) Rel G := by
  obtain ⟨r1, ⟨f, l, h1, h2, h3, h4, h5, h6, h7⟩, r3, r4⟩ := id h
  unfold f_X8_undo f_X2_takeBack f_X9_undo
  rw [h4, h6]
  by_cases hl : l = 0
  · subst hl
    rw [if_pos (show nI 0 ≤ (0 : Int32) by decide), bdp_some, if_pos rfl, if_pos (show nI 0 = (0 : Int32) from rfl)]
    exact wop_of rfl rfl rfl (fun _ => rfl) h
  · have hp : (f + (l - 1)) % 6 < 6 := Nat.mod_lt _ (by omega)
    obtain ⟨L', e1, e2⟩ := copy_ok G (b := 0) (b' := (f + (l - 1)) % 6 + 2) (by omega)
    have e1' : f_X3_copyFrom G 0 ((f + (l - 1)) % 6 + 2) = va_up G 2 L' := e1
    have s1 : nI l - 1 = nI (l - 1) := pk_sub (b := 1) (by omega)
    have m2 : sp (G 1) 0 3 (nI (l - 1)) 0 2 = nI f := by rw [sp_at, if_neg (by omega)]; exact h5
    have m1 : sp (G 1) 0 3 (nI (l - 1)) 1 = G 1 1 := sp_row' _ _ _ (by decide)
    have m22 : sp (G 1) 0 3 (nI (l - 1)) 2 = G 1 2 := sp_row' _ _ _ (by decide)
    have hu := m_undo_L35 hp 652 0 (by omega) 5000 (by omega) (sp (G 1) 0 3 (nI (l - 1)))
    rw [sp_eq', m1, m22] at hu
    rw [if_neg (nI_nle (by omega) (by omega)), s1, h3, mod6 (by omega) (by omega), stAt_n hp, e1', bnd_e, bnd_e, up_ne _ _ (show 0 ≠ 2 by decide), h4, s1, bdp_some, if_neg d10, if_neg (nI_ne0 (by omega) (by omega)), bnd_e, m2, sp_eq', mod6 (by omega) (by omega)]
    have hsim : Sim (blk (G 1 2) (G 1 1) (652 * ((f + (l - 1)) % 6)) 0 0) L' := sim_pt (h7 (l - 1) (by omega)) e2 (fun i hi => blk_in0 hi)
    refine wop_of (r := nI (l - 1)) (G1 := va_up (va_up G 2 L') 0 (sp (G 0) 1 2 (nI (l - 1)))) (M1 := va_up (sp (G 1) 0 3 (nI (l - 1))) 1 (blk (G 1 2) (G 1 1) (652 * ((f + (l - 1)) % 6)) 0 0)) ?_ hu ?_ ?_ ⟨?_, ⟨f, l - 1, h1, by omega, ?_, ?_, ?_, ?_, fun i hi => ?_⟩, ?_, ?_⟩
    · rw [up_self, sp_eq']
    · rw [up_ne _ _ (by decide), up_ne _ _ (by decide)]
    · intro j
      rw [up_self, sp_row' _ _ _ (by decide)]
    · rw [up_self, up_ne _ _ (by decide), up_self]
      exact hsim
    · rw [up_self, sp_at, if_neg (by omega)]
      exact h3
    · rw [up_self, sp_eq']
    · rw [up_ne _ _ (by decide)]
      exact m2
    · rw [up_ne _ _ (by decide), sp_eq']
    · rw [up_ne _ _ (show 2 ≠ 1 by decide), m22, up_ne _ _ (show (f + i) % 6 + 2 + 2 ≠ 0 by omega), up_ne _ _ (show (f + i) % 6 + 2 + 2 ≠ 2 by omega)]
      exact h7 i (by omega)
    · refine sl_same r3 ?_ ?_ ?_ (fun s _ => ?_)
      · rw [up_self, sp_row' _ _ _ (by decide)]
      · rw [up_ne _ _ (by decide), sp_row' _ _ _ (by decide)]
      · rw [up_ne _ _ (by decide), sp_row' _ _ _ (by decide)]
      · rw [up_ne _ _ (by omega), up_ne _ _ (by omega)]
    · refine pd_same r4 ?_ ?_ ?_ ?_
      · rw [up_self, sp_row' _ _ _ (by decide)]
      · rw [up_self, sp_row' _ _ _ (by decide)]
      · rw [up_ne _ _ (by decide), sp_at, if_neg (by omega)]
      · rw [up_ne _ _ (by decide), sp_row' _ _ _ (by decide)]
theorem tot0 (h : Rel G) : rat 3 (G 2 29) 0 = G 1 1 4 := by
  have e : G 1 1 4 = G 2 29 0 := rm_at h.1.1 (k := 29) (j := 0) (by decide) rfl rfl
  rw [e]
  exact rat_nI (j := 0) (by omega) (by omega)
theorem w_save (h : Rel G) (x : Int32) : Wos (f_X8_save G x) (f_X9_save (G 1) x) Rel G := by
  unfold f_X8_save f_X9_save
  have bad : Wos (some ((-2 : Int32), G)) (some ((-2 : Int32), G 1)) Rel G := ⟨_, _, _, rfl, rfl, rfl, rel_up h⟩
  rcases pk_ix x (n := 2) (by omega) with hx | hx | ⟨s, hs, rfl⟩
  · have i0 : f_X9_in x 0 1 = 0 := by unfold f_X9_in; rw [if_pos hx]
    rw [if_pos hx, i0, if_pos rfl]
    exact bad
  · by_cases h0 : x < 0
    · have i0 : f_X9_in x 0 1 = 0 := by unfold f_X9_in; rw [if_pos h0]
      rw [if_pos h0, i0, if_pos rfl]
      exact bad
    · have i0 : f_X9_in x 0 1 = 0 := by unfold f_X9_in; rw [if_neg h0, if_pos (show (1 : Int32) < x from i_lt_of (n := 1) (by omega) hx)]
      rw [if_neg h0, if_neg (Int32.not_lt.mpr (show (2 : Int32) ≤ x from hx)), i0, if_pos rfl]
      exact bad
  · have i1 : f_X9_in (nI s) 0 1 = 1 := by
      unfold f_X9_in
      rw [if_neg (nI_pos (by omega)), if_neg (show ¬ (1 : Int32) < nI s from nI_nlt (a := 1) (by omega) (by omega))]
    obtain ⟨r1, r2, r3, r4⟩ := id h
    have s0a : ∀ o, o ≠ 0 → o ≠ s + 8 + 2 → (if G 0 3 s = 0 then svG G s else G) o = G o := fun o h1 h2 => by
      split
      · unfold svG
        rw [up_ne _ _ h1, up_ne _ _ (by omega)]
      · rfl
    have s0b : ∀ k, k ≠ 3 → (if G 0 3 s = 0 then svG G s else G) 0 k = G 0 k := fun k hk => by
      split
      · unfold svG
        rw [up_self, sp_row' _ _ _ hk]
      · rfl
    have s0c : ¬ (if G 0 3 s = 0 then svG G s else G) 0 3 s = 0 := by
      split
      · unfold svG
        rw [up_self, sp_eq']
        exact d10
      · assumption
    have s0d : ∀ j, j ≠ s → (if G 0 3 s = 0 then svG G s else G) 0 3 j = G 0 3 j := fun j hj => by
      split
      · unfold svG
        rw [up_self, sp_at, if_neg (fun q => hj q.2)]
      · rfl
    rw [if_neg (nI_pos (by omega)), if_pos (show nI s < (2 : Int32) from nI_lt (b := 2) hs (by omega)), i1, if_neg d10, cl_n (by omega)]
    revert s0a s0b s0c s0d
    generalize (if G 0 3 s = 0 then svG G s else G) = S
    intro s0a s0b s0c s0d
    obtain ⟨L', e1, e2⟩ := copy_ok S (b := s + 8) (b' := 0) (by omega)
    have e2' : ∀ k j, inR k j → L' k j = G 2 k j := fun k j hj => by
      rw [← s0a 2 (by decide) (by omega)]
      exact e2 k j hj
    have g2 : va_up S (s + 8 + 2) L' 2 = G 2 := by rw [up_ne _ _ (by omega)]; exact s0a 2 (by decide) (by omega)
    have hsv := m_save_L14 hs (fun (x2_45 : Int32) (S_45 : St) => ix (nI s) 2 (bnd (sp S_45 4 s 1) (fun S2 => ix 4 652 (some (S2 1 (4 : Int32).toNatClampNeg, S2))))) 652 0 (by omega) 5000 (by omega) (G 1)
    rw [e1, bnd_e, g2, tot0 h]
    refine ⟨G 1 1 4, va_up S (s + 8 + 2) L', sp (va_up (G 1) 3 (blk (G 1 1) (G 1 3) 0 (652 * s) 0)) 4 s 1, rfl, ?_, ?_, rel_up ⟨?_, ?_, ?_, ?_⟩⟩
    · refine hsv.trans ?_
      rw [ix_ok hs (by omega), bnd_e, ix_4, cl_4, sp_row' _ _ _ (show 1 ≠ 4 by decide), up_ne _ _ (show 1 ≠ 3 by decide)]
    · rw [up_ne _ _ (by omega)]
      exact s0a 1 (by decide) (by omega)
    · rw [g2, sp_row' _ _ _ (by decide), up_ne _ _ (by decide)]
      exact r1
    · refine hi_same r2 ?_ ?_ ?_ ?_ (fun p hp => ?_)
      · rw [up_ne _ _ (by omega)]; exact s0b 1 (by decide)
      · rw [sp_row' _ _ _ (by decide), up_ne _ _ (by decide)]
      · rw [sp_row' _ _ _ (by decide), up_ne _ _ (by decide)]
      · rw [sp_row' _ _ _ (by decide), up_ne _ _ (by decide)]
      · rw [up_ne _ _ (by omega)]; exact s0a _ (by omega) (by omega)
    · intro t ht
      rw [up_ne _ _ (show 0 ≠ s + 8 + 2 by omega), sp_row' _ _ _ (show 3 ≠ 4 by decide), up_self]
      by_cases e : t = s
      · subst e
        rw [sp_eq', up_self]
        refine ⟨⟨fun q => absurd q d10, fun q => absurd q s0c⟩, fun _ => ?_⟩
        exact sim_pt r1 e2' (fun i hi => by rw [blk_in hi, Nat.zero_add])
      · rw [sp_at, if_neg (fun q => e q.2), up_ne _ _ (show 4 ≠ 3 by decide), s0d t e, up_ne _ _ (show t + 8 + 2 ≠ s + 8 + 2 by omega), s0a (t + 8 + 2) (by omega) (by omega)]
        refine ⟨(r3 t ht).1, fun q => ?_⟩
        exact sim_pt ((r3 t ht).2 q) (fun _ _ _ => rfl) (fun i hi => blk_out (by omega))
    · refine pd_same r4 ?_ ?_ ?_ ?_
      · rw [up_ne _ _ (by omega)]; exact s0b 4 (by decide)
      · rw [up_ne _ _ (by omega)]; exact s0b 6 (by decide)
      · rw [sp_row' _ _ _ (by decide), up_ne _ _ (by decide)]
      · rw [sp_row' _ _ _ (by decide), up_ne _ _ (by decide)]
theorem w_restore (h : Rel G) (x : Int32) : Wop (f_X8_restore G x) (f_X9_restore (G 1) x) Rel G := by
  unfold f_X8_restore f_X9_restore
  have bad : Wop (some ((-2 : Int32), G)) (some ((-2 : Int32), G 1)) Rel G := wop_of rfl rfl rfl (fun _ => rfl) h
  rcases pk_ix x (n := 2) (by omega) with hx | hx | ⟨s, hs, rfl⟩
  · have i0 : f_X9_in x 0 1 = 0 := by unfold f_X9_in; rw [if_pos hx]
    rw [if_pos hx, i0, if_pos rfl]
    exact bad
  · by_cases h0 : x < 0
    · have i0 : f_X9_in x 0 1 = 0 := by unfold f_X9_in; rw [if_pos h0]
      rw [if_pos h0, i0, if_pos rfl]
      exact bad
    · have i0 : f_X9_in x 0 1 = 0 := by unfold f_X9_in; rw [if_neg h0, if_pos (show (1 : Int32) < x from i_lt_of (n := 1) (by omega) hx)]
      rw [if_neg h0, if_neg (Int32.not_lt.mpr (show (2 : Int32) ≤ x from hx)), i0, if_pos rfl]
      exact bad
  · have i1 : f_X9_in (nI s) 0 1 = 1 := by
      unfold f_X9_in
      rw [if_neg (nI_pos (by omega)), if_neg (show ¬ (1 : Int32) < nI s from nI_nlt (a := 1) (by omega) (by omega))]
    have r3 := h.2.2.1 s hs
    rw [if_neg (nI_pos (by omega)), if_pos (show nI s < (2 : Int32) from nI_lt (b := 2) hs (by omega)), i1, if_neg d10, ix_ok hs (by omega), ix_ok hs (by omega), cl_n (by omega)]
    by_cases q : G 1 4 s = 0
    · rw [if_pos (r3.1.mp q), if_pos q]
      exact wop_of rfl rfl rfl (fun _ => rfl) h
    · obtain ⟨G', M', k1, k2, k3, k4, k5, k6, k7, k8, k9, k10⟩ := keep_ok h
      rw [if_neg (fun g => q (r3.1.mpr g)), if_neg q, k1, bd_some, k2, bd_some]
      obtain ⟨L', e1, e2⟩ := copy_ok G' (b := 0) (b' := s + 8) (by omega)
      have e1' : f_X3_copyFrom G' 0 (s + 8) = va_up G' 2 L' := e1
      have sm : Sim (fun k => M' 3 (652 * s + k)) (G' (s + 8 + 2)) := by
        rw [k7 3 (by omega), k10 _ (by omega)]
        exact r3.2 q
      have sm2 : Sim (blk (M' 3) (M' 1) (652 * s) 0 0) L' := sim_pt sm e2 (fun i hi => blk_in0 hi)
      have hr := m_restore_L30 hs (fun (x2_61 : Int32) (S_61 : St) => ix 4 652 (some (S_61 1 (4 : Int32).toNatClampNeg, S_61))) 652 0 (by omega) 5000 (by omega) M'
      have e4 : blk (M' 3) (M' 1) (652 * s) 0 0 4 = L' 29 0 := rm_at sm2.1 (k := 29) (j := 0) (by decide) rfl rfl
      refine wop_fr (r := L' 29 0) (G1 := va_up G' 2 L') (M1 := mA M' (blk (M' 3) (M' 1) (652 * s) 0 0)) ?_ (hr.trans ?_) (fr_lib ⟨k6, k9, k7, k8⟩) (rl_lib k3 sm2)
      · rw [e1', bnd_e, up_self]
        rw [show rat 3 (L' 29) 0 = L' 29 0 from rat_nI (j := 0) (by omega) (by omega)]
      · rw [ix_4, cl_4, up_self, e4]
        rfl
/-- something beside libraries, history and slots -/
theorem rl_top {T : St} {M' : St} (h : RLG G M) (t1 : T 1 = G 0 1) (t3 : T 3 = G 0 3) (m1 : M' 1 = M 1) (m2 : M' 2 = M 2) (m3 : M' 3 = M 3) (m4 : M' 4 = M 4) (m02 : M' 0 2 = M 0 2) (m03 : M' 0 3 = M 0 3) (hp : PD M' (va_up G 0 T)) : RLG (va_up G 0 T) M' := by
  obtain ⟨h1, h2, h3, h4⟩ := h
  exact ⟨by rw [m1, up_ne _ _ (by decide)]; exact h1, hi_same h2 (by rw [up_self]; exact t1) m02 m03 m2 (fun p _ => up_ne _ _ (by omega)), sl_same h3 (by rw [up_self]; exact t3) m3 m4 (fun s _ => up_ne _ _ (by omega)), hp⟩
theorem w_wipe (h : Rel G) : Wop (some (f_X8_wipe G)) (some (f_X9_wipe (G 1))) Rel G := by
  obtain ⟨l, p1, p2, p3, p4⟩ := h.2.2.2
  refine wop_of (r := nI l) (G1 := va_up G 0 (sp (G 0) 4 1 0)) (M1 := sp (G 1) 0 8 0) ?_ ?_ (up_ne _ _ (by decide)) (fun j => ?_) (rl_top h ?_ ?_ ?_ ?_ ?_ ?_ ?_ ?_ ⟨0, by omega, ?_, ?_, fun i hi => absurd hi (Nat.not_lt_zero i)⟩)
  · unfold f_X8_wipe
    rw [bnd_e, p2]
  · unfold f_X9_wipe
    rw [bnd_e, p3]
  · rw [up_self, sp_row' _ _ _ (by decide)]
  · exact sp_row' _ _ _ (by decide)
  · exact sp_row' _ _ _ (by decide)
  · exact sp_row' _ _ _ (by decide)
  · exact sp_row' _ _ _ (by decide)
  · exact sp_row' _ _ _ (by decide)
  · exact sp_row' _ _ _ (by decide)
  · rw [sp_at, if_neg (by omega)]
  · rw [sp_at, if_neg (by omega)]
  · rw [up_self, sp_eq']
    rfl
  · rw [sp_eq']
    rfl
