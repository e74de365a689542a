variable {V : VB} {L : St} {M : St} {a : FN} {z : Nat} {G : Gs} {S : St} {c : Nat → Nat} {l : Nat}
theorem o_4 {i : Nat} (h : kdc (c i) = 4) : ordr c i = (false, i, 0, 0, 0) := by
  unfold ordr
  rw [if_pos h]
theorem o_F {i : Nat} (h : kdc (c i) ≠ 4) (hR : (rdr c (kdc (c i)) (i + 1)).1 = false) : ordr c i = (false, (rdr c (kdc (c i)) (i + 1)).2.1, 0, 0, 0) := by
  unfold ordr
  rw [if_neg h, hR, if_neg (show ¬ false = true by decide)]
theorem o_N {i : Nat} (h : kdc (c i) ≠ 4) (hR : (rdr c (kdc (c i)) (i + 1)).1 = true) (hd : dgt (c (rdr c (kdc (c i)) (i + 1)).2.1) = false) : ordr c i = (false, (rdr c (kdc (c i)) (i + 1)).2.1, 0, 0, 0) := by
  unfold ordr
  rw [if_neg h, if_pos hR, hd, if_neg (show ¬ false = true by decide)]
theorem o_T {i : Nat} (h : kdc (c i) ≠ 4) (hR : (rdr c (kdc (c i)) (i + 1)).1 = true) (hd : dgt (c (rdr c (kdc (c i)) (i + 1)).2.1) = true) : ordr c i = ((vlu c (kdc (c i)) (nE c (rdr c (kdc (c i)) (i + 1)).2.1)).1, (vlu c (kdc (c i)) (nE c (rdr c (kdc (c i)) (i + 1)).2.1)).2.1, (rdr c (kdc (c i)) (i + 1)).2.2, nV c (rdr c (kdc (c i)) (i + 1)).2.1, (vlu c (kdc (c i)) (nE c (rdr c (kdc (c i)) (i + 1)).2.1)).2.2) := by
  unfold ordr
  rw [if_neg h, if_pos hR, if_pos hd]
theorem vlu_o {k j : Nat} (h : k ≠ 1) : vlu c k j = (true, j, 0) := if_neg h
theorem rdr_3 {j : Nat} : rdr c 3 j = (true, j, 0) := if_pos rfl
def lst (c : Nat → Nat) (i : Nat) : Nat := if kdc (c i) = 1 then nE c (rdr c (kdc (c i)) (i + 1)).2.1 + 1 else (rdr c (kdc (c i)) (i + 1)).2.1
def bgo (c : Nat → Nat) (i : Nat) : Bool := big c (lst c i)
def nf (M : St) (k : Nat) (c : Nat → Nat) (i : Nat) : Prop := (kdc (c i) = 3 → M 8 (3 * k) = nI (ordr c i).2.2.2.1) ∧ (kdc (c i) ≠ 3 → M 8 (3 * k) = nI (ordr c i).2.2.1 ∧ M 8 (3 * k + 1) = nI (ordr c i).2.2.2.1) ∧ (kdc (c i) = 1 → M 8 (3 * k + 2) = nI (ordr c i).2.2.2.2)
theorem rdr_n {k j : Nat} (hk : k ≠ 3) : rdr c k j = if dgt (c j) then (if c (nE c j) = 58 then (true, nE c j + 1, nV c j) else (false, nE c j, 0)) else (false, j, 0) := if_neg hk
theorem big_dg {i : Nat} (h : big c i = true) : dgt (c (nE c i)) = true := by
  unfold big at h
  simp only [Bool.and_eq_true] at h
  exact h.2
theorem m_two (h : CM M c l) {i k kd : Nat} (hkd : kd ≠ 3) (h9 : M 0 9 = nI i) (h10 : M 0 10 = 0) (h11 : M 0 11 = nI k) (hk : k ≤ 28) (hi : i ≤ 400) : ∃ M3, (∀ K : St → Option St, bd (f_X9_takeNumber M 0) (fun S6 => bd (f_X9_takeSign S6 58) (fun S7 => bd (f_X9_takeNumber S7 1) K)) = K M3) ∧ KN M M3 (3 * k) ∧ (((rdr c kd i).1 = false ∧ M3 0 10 = 1 ∧ M3 0 9 = nI (rdr c kd i).2.1) ∨ ((rdr c kd i).1 = true ∧ dgt (c (rdr c kd i).2.1) = false ∧ M3 0 10 = 1 ∧ M3 0 9 = nI (rdr c kd i).2.1) ∨ ((rdr c kd i).1 = true ∧ dgt (c (rdr c kd i).2.1) = true ∧ big c (rdr c kd i).2.1 = true ∧ M3 0 10 = 1 ∧ M3 0 9 = nI (nE c (rdr c kd i).2.1)) ∨ ((rdr c kd i).1 = true ∧ dgt (c (rdr c kd i).2.1) = true ∧ big c (rdr c kd i).2.1 = false ∧ M3 0 10 = 0 ∧ M3 0 9 = nI (nE c (rdr c kd i).2.1) ∧ M3 8 (3 * k) = nI (rdr c kd i).2.2 ∧ M3 8 (3 * k + 1) = nI (nV c (rdr c kd i).2.1))) := by
  rw [rdr_n hkd]
  obtain ⟨M1, n1, n2, n3⟩ := m_num (t := 0) h h9 h10 h11 hk (by omega) (by omega)
  have n1' : f_X9_takeNumber M 0 = some M1 := n1
  have hle := nE_le (c := c) i
  have wr : M1 0 10 = 1 → ∀ K : St → Option St, bd (f_X9_takeNumber M 0) (fun S6 => bd (f_X9_takeSign S6 58) (fun S7 => bd (f_X9_takeNumber S7 1) K)) = K M1 := fun hw K => by
    rw [n1', bd_some, sign_w hw, bd_some, num_w hw, bd_some]
  rcases n3 with ⟨d0, w1, p1⟩ | ⟨d1, b1, w1, p1⟩ | ⟨d1, b0, w0, p1, v1⟩
  · rw [if_neg (show ¬ dgt (c i) = true by rw [d0]; decide)]
    exact ⟨M1, wr w1, n2, Or.inl ⟨rfl, w1, p1⟩⟩
  · have hd := dgt_iff.mp (big_dg b1)
    rw [if_pos d1, if_neg (show ¬ c (nE c i) = 58 by omega)]
    exact ⟨M1, wr w1, n2, Or.inl ⟨rfl, w1, p1⟩⟩
  · have cm1 := cm_kn h n2
    have sg : f_X9_takeSign M1 58 = _ := m_sign (x := 58) cm1 p1 w0 (by omega) (by omega)
    rw [if_pos d1]
    by_cases q : c (nE c i) = 58
    · rw [if_pos q] at sg ⊢
      have kn : KN M1 (sp M1 0 9 (nI (nE c i + 1))) (3 * k + 1) := kn_sp9
      obtain ⟨M3, m1, m2, m3⟩ := m_num (t := 1) (k := k) (cm_kn cm1 kn) (sp_eq' _ _ _ _) (by rw [sp_at, if_neg (by omega)]; exact w0) (by rw [sp_at, if_neg (by omega), n2.2.1 11 (by decide) (by decide)]; exact h11) hk (by omega) (by omega)
      have m1' : f_X9_takeNumber (sp M1 0 9 (nI (nE c i + 1))) 1 = some M3 := m1
      have e8 : M3 8 (3 * k) = nI (nV c i) := by
        rw [m2.2.2 (3 * k) (by omega), sp_row' _ _ _ (by decide)]
        exact v1
      refine ⟨M3, fun K => by rw [n1', bd_some, sg, bd_some, m1', bd_some], kn_trans n2 (kn_trans kn m2 (Nat.le_refl _)) (by omega), Or.inr ?_⟩
      rcases m3 with ⟨d0, w1, p1⟩ | ⟨d1, b1, w1, p1⟩ | ⟨d1, b0, w0, p1, v1⟩
      · exact Or.inl ⟨rfl, d0, w1, p1⟩
      · exact Or.inr (Or.inl ⟨rfl, d1, b1, w1, p1⟩)
      · exact Or.inr (Or.inr ⟨rfl, d1, b0, w0, p1, e8, v1⟩)
    · rw [if_neg q] at sg ⊢
      have w : sp M1 0 10 1 0 10 = 1 := sp_eq' _ _ _ _
      refine ⟨sp M1 0 10 1, fun K => by rw [n1', bd_some, sg, bd_some, num_w w, bd_some], kn_trans n2 kn_sp10 (Nat.le_refl _), Or.inl ⟨rfl, w, ?_⟩⟩
      rw [sp_at, if_neg (by omega)]
      exact p1
theorem m_val (h : CM M c l) {j k : Nat} (h9 : M 0 9 = nI j) (h10 : M 0 10 = 0) (h11 : M 0 11 = nI k) (hk : k ≤ 28) (hj : j ≤ 400) : ∃ M5, (∀ K : St → Option St, bd (f_X9_takeSign M 61) (fun S9 => bd (f_X9_takeNumber S9 2) K) = K M5) ∧ KN M M5 (3 * k + 2) ∧ M5 0 9 = nI (vlu c 1 j).2.1 ∧ ((((vlu c 1 j).1 = false ∨ big c (j + 1) = true) ∧ M5 0 10 = 1) ∨ ((vlu c 1 j).1 = true ∧ big c (j + 1) = false ∧ M5 0 10 = 0 ∧ M5 8 (3 * k + 2) = nI (vlu c 1 j).2.2)) := by
  have sg : f_X9_takeSign M 61 = _ := m_sign (x := 61) h h9 h10 (by omega) (by omega)
  rw [show vlu c 1 j = if c j = 61 then (if dgt (c (j + 1)) then (true, nE c (j + 1), nV c (j + 1)) else (false, j + 1, 0)) else (false, j, 0) from if_pos rfl]
  by_cases q : c j = 61
  · rw [if_pos q] at sg ⊢
    have kn : KN M (sp M 0 9 (nI (j + 1))) (3 * k + 2) := kn_sp9
    obtain ⟨M5, m1, m2, m3⟩ := m_num (t := 2) (k := k) (cm_kn h kn) (sp_eq' _ _ _ _) (by rw [sp_at, if_neg (by omega)]; exact h10) (by rw [sp_at, if_neg (by omega)]; exact h11) hk (by omega) (by omega)
    have m1' : f_X9_takeNumber (sp M 0 9 (nI (j + 1))) 2 = some M5 := m1
    refine ⟨M5, fun K => by rw [sg, bd_some, m1', bd_some], kn_trans kn m2 (Nat.le_refl _), ?_⟩
    rcases m3 with ⟨d0, w1, p1⟩ | ⟨d1, b1, w1, p1⟩ | ⟨d1, b0, w0, p1, v1⟩
    · rw [if_neg (show ¬ dgt (c (j + 1)) = true by rw [d0]; decide)]
      exact ⟨p1, Or.inl ⟨Or.inl rfl, w1⟩⟩
    · rw [if_pos d1]
      exact ⟨p1, Or.inl ⟨Or.inr b1, w1⟩⟩
    · rw [if_pos d1]
      exact ⟨p1, Or.inr ⟨rfl, b0, w0, v1⟩⟩
  · rw [if_neg q] at sg ⊢
    have w : sp M 0 10 1 0 10 = 1 := sp_eq' _ _ _ _
    refine ⟨sp M 0 10 1, fun K => by rw [sg, bd_some, num_w w, bd_some], kn_sp10, ?_, Or.inl ⟨Or.inl rfl, w⟩⟩
    rw [sp_at, if_neg (by omega)]
    exact h9
/-- what reading an order leaves alone -/
def KO (M M' : St) (k : Nat) : Prop := (∀ r, r ≠ 0 → r ≠ 7 → r ≠ 8 → M' r = M r) ∧ (∀ j, j ≠ 9 → j ≠ 10 → j ≠ 11 → M' 0 j = M 0 j) ∧ (∀ j, j < k → M' 7 j = M 7 j) ∧ ∀ j, j < 3 * k → M' 8 j = M 8 j
theorem ko_refl {k : Nat} : KO M M k := ⟨fun _ _ _ _ => rfl, fun _ _ _ _ => rfl, fun _ _ => rfl, fun _ _ => rfl⟩
theorem ko_trans {M1 M2 : St} {k k' : Nat} (h : KO M M1 k) (g : KO M1 M2 k') (hk : k ≤ k') : KO M M2 k := ⟨fun r h1 h2 h3 => (g.1 r h1 h2 h3).trans (h.1 r h1 h2 h3), fun j h1 h2 h3 => (g.2.1 j h1 h2 h3).trans (h.2.1 j h1 h2 h3), fun j hj => (g.2.2.1 j (by omega)).trans (h.2.2.1 j hj), fun j hj => (g.2.2.2 j (by omega)).trans (h.2.2.2 j hj)⟩
theorem ko_kn {M' : St} {k : Nat} (h : KN M M' (3 * k)) : KO M M' k := ⟨fun r h1 _ h3 => h.1 r h1 h3, fun j h1 h2 _ => h.2.1 j h1 h2, fun j _ => by rw [h.1 7 (by decide) (by decide)], h.2.2⟩
theorem cm_ko {M' : St} {k : Nat} (h : CM M c l) (g : KO M M' k) : CM M' c l := by
  obtain ⟨h1, h2, h3, h4, h5⟩ := h
  exact ⟨h1, by rw [g.2.1 8 (by decide) (by decide) (by decide)]; exact h2, fun i hi => by rw [g.1 6 (by decide) (by decide) (by decide)]; exact h3 i hi, h4, h5⟩
def ordE (y1 : Int32) (S_119 : St) : Option St := if (S_119 0 10) = 0 then (ix (S_119 0 11) 29 (bnd (sp S_119 7 (S_119 0 11).toNatClampNeg y1) (fun S4 => bnd (sp S4 0 11 ((S4 0 11) + 1)) (fun S5 => some S5)))) else (some S_119)
theorem ordE_w {y : Int32} (h : S 0 10 = 1) : ordE y S = some S := by
  unfold ordE
  rw [h, if_neg d10]
theorem ordE_ok {y : Int32} {k : Nat} (h : S 0 10 = 0) (h11 : S 0 11 = nI k) (hk : k ≤ 28) : ordE y S = some (sp (sp S 7 k y) 0 11 (nI (k + 1))) := by
  unfold ordE
  rw [h, if_pos rfl, h11, ix_ok (by omega) (by omega), cl_n (by omega), bnd_e, bnd_e, sp_row' _ _ _ (by decide), h11, nI_1]
theorem m_order (h : CM M c l) {i k : Nat} (h9 : M 0 9 = nI i) (h10 : M 0 10 = 0) (h11 : M 0 11 = nI k) (hk : k ≤ 28) (hi : i ≤ 300) : ∃ M', f_X9_takeOrder M = some M' ∧ KO M M' k ∧ M' 0 9 = nI (ordr c i).2.1 ∧ (((ordr c i).1 = true ∧ bgo c i = false ∧ M' 0 10 = 0 ∧ M' 0 11 = nI (k + 1) ∧ M' 7 k = nI (c i) ∧ nf M' k c i) ∨ (((ordr c i).1 = false ∨ bgo c i = true) ∧ M' 0 10 = 1)) := by
  have c126 := cm_le h i
  have rl := rdr_le (c := c) (kdc (c i)) (i + 1)
  have eq : ∀ y : Nat, y ≤ 126 → (nI (c i) = nI y ↔ c i = y) := fun y hy => nI_eq (by omega) (by omega)
  have e98 : (nI (c i) = (98 : Int32) ↔ c i = 98) := eq 98 (by omega)
  have e99 : (nI (c i) = (99 : Int32) ↔ c i = 99) := eq 99 (by omega)
  have e114 : (nI (c i) = (114 : Int32) ↔ c i = 114) := eq 114 (by omega)
  have e119 : (nI (c i) = (119 : Int32) ↔ c i = 119) := eq 119 (by omega)
  have kn1 : KN M (sp M 0 9 (nI (i + 1))) (3 * k) := kn_sp9
  have cm1 := cm_kn h kn1
  have p9 : sp M 0 9 (nI (i + 1)) 0 9 = nI (i + 1) := sp_eq' _ _ _ _
  have p10 : sp M 0 9 (nI (i + 1)) 0 10 = 0 := by rw [sp_at, if_neg (by omega)]; exact h10
  have p11 : sp M 0 9 (nI (i + 1)) 0 11 = nI k := by rw [sp_at, if_neg (by omega)]; exact h11
  have st : f_X9_takeOrder M = (if nI (c i) = 98 then (bd (f_X9_takeNumber (sp M 0 9 (nI (i + 1))) 0) (fun S6 => bd (f_X9_takeSign S6 58) (fun S7 => bd (f_X9_takeNumber S7 1) (fun S8 => if nI (c i) = 119 then (bd (f_X9_takeSign S8 61) (fun S9 => bd (f_X9_takeNumber S9 2) (fun S10 => ordE (nI (c i)) S10))) else (ordE (nI (c i)) S8))))) else (if nI (c i) = 99 then (bd (f_X9_takeNumber (sp M 0 9 (nI (i + 1))) 0) (fun S11 => ordE (nI (c i)) S11)) else (if nI (c i) = 114 then (bd (f_X9_takeNumber (sp M 0 9 (nI (i + 1))) 0) (fun S12 => bd (f_X9_takeSign S12 58) (fun S13 => bd (f_X9_takeNumber S13 1) (fun S14 => if nI (c i) = 119 then (bd (f_X9_takeSign S14 61) (fun S15 => bd (f_X9_takeNumber S15 2) (fun S16 => ordE (nI (c i)) S16))) else (ordE (nI (c i)) S14))))) else (if nI (c i) = 119 then (bd (f_X9_takeNumber (sp M 0 9 (nI (i + 1))) 0) (fun S17 => bd (f_X9_takeSign S17 58) (fun S18 => bd (f_X9_takeNumber S18 1) (fun S19 => if nI (c i) = 119 then (bd (f_X9_takeSign S19 61) (fun S20 => bd (f_X9_takeNumber S20 2) (fun S21 => ordE (nI (c i)) S21))) else (ordE (nI (c i)) S19))))) else (ordE (nI (c i)) (sp (sp (sp M 0 9 (nI (i + 1))) 0 9 ((sp M 0 9 (nI (i + 1)) 0 9) - 1)) 0 10 1)))))) := by
    unfold f_X9_takeOrder
    rw [m_next h h9 (by omega), bd_some, bnd_e, h9, nI_1]
    rfl
  rw [st]
  /- the end of a good order -/
  have good : ∀ M3, KN M M3 (3 * k) → M3 0 10 = 0 → M3 0 9 = nI (ordr c i).2.1 → (ordr c i).1 = true → bgo c i = false → nf M3 k c i → ∃ M', ordE (nI (c i)) M3 = some M' ∧ KO M M' k ∧ M' 0 9 = nI (ordr c i).2.1 ∧ (((ordr c i).1 = true ∧ bgo c i = false ∧ M' 0 10 = 0 ∧ M' 0 11 = nI (k + 1) ∧ M' 7 k = nI (c i) ∧ nf M' k c i) ∨ (((ordr c i).1 = false ∨ bgo c i = true) ∧ M' 0 10 = 1)) := by
    intro M3 k3 w0 q9 ho hb hn
    have q11 : M3 0 11 = nI k := by rw [k3.2.1 11 (by decide) (by decide)]; exact h11
    refine ⟨_, ordE_ok w0 q11 hk, ⟨fun r h1 h2 h3 => ?_, fun j h1 h2 h3 => ?_, fun j hj => ?_, fun j hj => ?_⟩, ?_, Or.inl ⟨ho, hb, ?_, sp_eq' _ _ _ _, ?_, ?_⟩⟩
    · rw [sp_row' _ _ _ h1, sp_row' _ _ _ h2]; exact k3.1 r h1 h3
    · rw [sp_at, if_neg (fun q => h3 q.2), sp_row' _ _ _ (by decide)]; exact k3.2.1 j h1 h2
    · rw [sp_row' _ _ _ (by decide), sp_at, if_neg (by omega), k3.1 7 (by decide) (by decide)]
    · rw [sp_row' _ _ _ (by decide), sp_row' _ _ _ (by decide)]; exact k3.2.2 j hj
    · rw [sp_at, if_neg (by omega), sp_row' _ _ _ (by decide)]; exact q9
    · rw [sp_at, if_neg (by omega), sp_row' _ _ _ (by decide)]; exact w0
    · rw [sp_row' _ _ _ (by decide), sp_eq']
    · unfold nf at hn ⊢
      rw [sp_row' _ _ _ (by decide), sp_row' _ _ _ (by decide)]
      exact hn
  /- the end of a bad one -/
  have bad : ∀ M3, KN M M3 (3 * k) → M3 0 10 = 1 → M3 0 9 = nI (ordr c i).2.1 → ((ordr c i).1 = false ∨ bgo c i = true) → ∃ M', ordE (nI (c i)) M3 = some M' ∧ KO M M' k ∧ M' 0 9 = nI (ordr c i).2.1 ∧ (((ordr c i).1 = true ∧ bgo c i = false ∧ M' 0 10 = 0 ∧ M' 0 11 = nI (k + 1) ∧ M' 7 k = nI (c i) ∧ nf M' k c i) ∨ (((ordr c i).1 = false ∨ bgo c i = true) ∧ M' 0 10 = 1)) := by
    intro M3 k3 w1 q9 hb
    exact ⟨M3, ordE_w w1, ko_kn k3, q9, Or.inr ⟨hb, w1⟩⟩
  /- r and b -/
  have rb : kdc (c i) ≠ 4 → kdc (c i) ≠ 3 → kdc (c i) ≠ 1 → ∀ M3, KN (sp M 0 9 (nI (i + 1))) M3 (3 * k) → (((rdr c (kdc (c i)) (i + 1)).1 = false ∧ M3 0 10 = 1 ∧ M3 0 9 = nI (rdr c (kdc (c i)) (i + 1)).2.1) ∨ ((rdr c (kdc (c i)) (i + 1)).1 = true ∧ dgt (c (rdr c (kdc (c i)) (i + 1)).2.1) = false ∧ M3 0 10 = 1 ∧ M3 0 9 = nI (rdr c (kdc (c i)) (i + 1)).2.1) ∨ ((rdr c (kdc (c i)) (i + 1)).1 = true ∧ dgt (c (rdr c (kdc (c i)) (i + 1)).2.1) = true ∧ big c (rdr c (kdc (c i)) (i + 1)).2.1 = true ∧ M3 0 10 = 1 ∧ M3 0 9 = nI (nE c (rdr c (kdc (c i)) (i + 1)).2.1)) ∨ ((rdr c (kdc (c i)) (i + 1)).1 = true ∧ dgt (c (rdr c (kdc (c i)) (i + 1)).2.1) = true ∧ big c (rdr c (kdc (c i)) (i + 1)).2.1 = false ∧ M3 0 10 = 0 ∧ M3 0 9 = nI (nE c (rdr c (kdc (c i)) (i + 1)).2.1) ∧ M3 8 (3 * k) = nI (rdr c (kdc (c i)) (i + 1)).2.2 ∧ M3 8 (3 * k + 1) = nI (nV c (rdr c (kdc (c i)) (i + 1)).2.1))) → ∃ M', ordE (nI (c i)) M3 = some M' ∧ KO M M' k ∧ M' 0 9 = nI (ordr c i).2.1 ∧ (((ordr c i).1 = true ∧ bgo c i = false ∧ M' 0 10 = 0 ∧ M' 0 11 = nI (k + 1) ∧ M' 7 k = nI (c i) ∧ nf M' k c i) ∨ (((ordr c i).1 = false ∨ bgo c i = true) ∧ M' 0 10 = 1)) := by
    intro n4 n3 n1 M3 k3 hh
    have k3' := kn_trans kn1 k3 (Nat.le_refl _)
    have eb : bgo c i = big c (rdr c (kdc (c i)) (i + 1)).2.1 := by
      unfold bgo lst
      rw [if_neg n1]
    rcases hh with ⟨r0, w1, q9⟩ | ⟨r1, d0, w1, q9⟩ | ⟨r1, d1, b1, w1, q9⟩ | ⟨r1, d1, b0, w0, q9, v0, v1⟩
    · exact bad M3 k3' w1 (by rw [o_F n4 r0]; exact q9) (Or.inl (by rw [o_F n4 r0]))
    · exact bad M3 k3' w1 (by rw [o_N n4 r1 d0]; exact q9) (Or.inl (by rw [o_N n4 r1 d0]))
    · have oT := o_T n4 r1 d1
      rw [vlu_o n1] at oT
      exact bad M3 k3' w1 (by rw [oT]; exact q9) (Or.inr (by rw [eb]; exact b1))
    · have oT := o_T n4 r1 d1
      rw [vlu_o n1] at oT
      exact good M3 k3' w0 (by rw [oT]; exact q9) (by rw [oT]) (by rw [eb]; exact b0) ⟨fun q => absurd q n3, fun _ => by rw [oT]; exact ⟨v0, v1⟩, fun q => absurd q n1⟩
  by_cases q1 : c i = 98
  · have hk2 : kdc (c i) = 2 := by rw [q1]; rfl
    obtain ⟨M3, K3, k3, hh⟩ := m_two (kd := kdc (c i)) cm1 (by omega) p9 p10 p11 hk (by omega)
    rw [if_pos (e98.mpr q1), K3, if_neg (fun g => by have := e119.mp g; omega)]
    exact rb (by omega) (by omega) (by omega) M3 k3 hh
  rw [if_neg (fun g => q1 (e98.mp g))]
  by_cases q2 : c i = 99
  · have hk3 : kdc (c i) = 3 := by rw [q2]; rfl
    have n4 : kdc (c i) ≠ 4 := by omega
    have n1 : kdc (c i) ≠ 1 := by omega
    have eR : rdr c (kdc (c i)) (i + 1) = (true, i + 1, 0) := by rw [hk3]; exact rdr_3
    have eb : bgo c i = big c (i + 1) := by
      unfold bgo lst
      rw [if_neg n1, eR]
    obtain ⟨M3, m1, m2, m3⟩ := m_num (t := 0) cm1 p9 p10 p11 hk (by omega) (by omega)
    have m1' : f_X9_takeNumber (sp M 0 9 (nI (i + 1))) 0 = some M3 := m1
    have k3' : KN M M3 (3 * k) := kn_trans kn1 m2 (by omega)
    rw [if_pos (e99.mpr q2), m1', bd_some]
    have r1 : (rdr c (kdc (c i)) (i + 1)).1 = true := by rw [eR]
    rcases m3 with ⟨d0, w1, q9⟩ | ⟨d1, b1, w1, q9⟩ | ⟨d1, b0, w0, q9, v0⟩
    · have oN := o_N n4 r1 (by rw [eR]; exact d0)
      exact bad M3 k3' w1 (by rw [oN, eR]; exact q9) (Or.inl (by rw [oN]))
    · have oT := o_T n4 r1 (by rw [eR]; exact d1)
      rw [vlu_o n1, eR] at oT
      exact bad M3 k3' w1 (by rw [oT]; exact q9) (Or.inr (by rw [eb]; exact b1))
    · have oT := o_T n4 r1 (by rw [eR]; exact d1)
      rw [vlu_o n1, eR] at oT
      exact good M3 k3' w0 (by rw [oT]; exact q9) (by rw [oT]) (by rw [eb]; exact b0) ⟨fun _ => by rw [oT]; exact v0, fun q => absurd hk3 q, fun q => absurd q n1⟩
  rw [if_neg (fun g => q2 (e99.mp g))]
  by_cases q3 : c i = 114
  · have hk0 : kdc (c i) = 0 := by rw [q3]; rfl
    obtain ⟨M3, K3, k3, hh⟩ := m_two (kd := kdc (c i)) cm1 (by omega) p9 p10 p11 hk (by omega)
    rw [if_pos (e114.mpr q3), K3, if_neg (fun g => by have := e119.mp g; omega)]
    exact rb (by omega) (by omega) (by omega) M3 k3 hh
  rw [if_neg (fun g => q3 (e114.mp g))]
  by_cases q4 : c i = 119
  · have hk1 : kdc (c i) = 1 := by rw [q4]; rfl
    have n4 : kdc (c i) ≠ 4 := by omega
    obtain ⟨M3, K3, k3, hh⟩ := m_two (kd := kdc (c i)) cm1 (by omega) p9 p10 p11 hk (by omega)
    have k3' := kn_trans kn1 k3 (Nat.le_refl _)
    have q11 : M3 0 11 = nI k := by rw [k3'.2.1 11 (by decide) (by decide)]; exact h11
    rw [if_pos (e119.mpr q4), K3, if_pos (e119.mpr q4)]
    have eb : bgo c i = big c (nE c (rdr c (kdc (c i)) (i + 1)).2.1 + 1) := by
      unfold bgo lst
      rw [if_pos hk1]
    rcases hh with ⟨r0, w1, q9⟩ | ⟨r1, d0, w1, q9⟩ | ⟨r1, d1, b1, w1, q9⟩ | ⟨r1, d1, b0, w0, q9, v0, v1⟩
    · rw [sign_w w1, bd_some, num_w w1, bd_some]
      exact bad M3 k3' w1 (by rw [o_F n4 r0]; exact q9) (Or.inl (by rw [o_F n4 r0]))
    · rw [sign_w w1, bd_some, num_w w1, bd_some]
      exact bad M3 k3' w1 (by rw [o_N n4 r1 d0]; exact q9) (Or.inl (by rw [o_N n4 r1 d0]))
    · rw [sign_w w1, bd_some, num_w w1, bd_some]
      have oT := o_T n4 r1 d1
      have hd := dgt_iff.mp (big_dg b1)
      rw [show vlu c (kdc (c i)) (nE c (rdr c (kdc (c i)) (i + 1)).2.1) = (false, nE c (rdr c (kdc (c i)) (i + 1)).2.1, 0) by
        rw [hk1] at hd ⊢
        unfold vlu
        rw [if_pos rfl, if_neg (show ¬ c (nE c (rdr c 1 (i + 1)).2.1) = 61 by omega)]] at oT
      exact bad M3 k3' w1 (by rw [oT]; exact q9) (Or.inl (by rw [oT]))
    · have hle := nE_le (c := c) (rdr c (kdc (c i)) (i + 1)).2.1
      obtain ⟨M5, K5, k5, p5, hh5⟩ := m_val (cm_kn cm1 k3) q9 w0 q11 hk (by omega)
      have k5' : KN M M5 (3 * k) := kn_trans k3' k5 (by omega)
      have oT := o_T n4 r1 d1
      rw [K5]
      have ev : vlu c 1 (nE c (rdr c (kdc (c i)) (i + 1)).2.1) = vlu c (kdc (c i)) (nE c (rdr c (kdc (c i)) (i + 1)).2.1) := by rw [hk1]
      rw [ev] at p5 hh5
      rcases hh5 with ⟨hb, w1⟩ | ⟨u1, b5, w5, v5⟩
      · refine bad M5 k5' w1 (by rw [oT]; exact p5) ?_
        rcases hb with hb | hb
        · exact Or.inl (by rw [oT]; exact hb)
        · exact Or.inr (by rw [eb]; exact hb)
      · refine good M5 k5' w5 (by rw [oT]; exact p5) (by rw [oT]; exact u1) (by rw [eb]; exact b5) ⟨fun q => absurd q (by omega), fun _ => ?_, fun _ => by rw [oT]; exact v5⟩
        rw [oT]
        exact ⟨(k5.2.2 (3 * k) (by omega)).trans v0, (k5.2.2 (3 * k + 1) (by omega)).trans v1⟩
  · rw [if_neg (fun g => q4 (e119.mp g))]
    have hk4 : kdc (c i) = 4 := by
      unfold kdc
      rw [if_neg q1, if_neg q2, if_neg q3, if_neg q4]
    have em : sp (sp (sp M 0 9 (nI (i + 1))) 0 9 ((sp M 0 9 (nI (i + 1)) 0 9) - 1)) 0 10 1 = sp M 0 10 1 := by
      rw [sp_sp, sp_eq', nI_pred, sp_idv h9]
    rw [em]
    exact bad _ kn_sp10 (sp_eq' _ _ _ _) (by rw [o_4 hk4, sp_at, if_neg (by omega)]; exact h9) (Or.inl (by rw [o_4 hk4]))
