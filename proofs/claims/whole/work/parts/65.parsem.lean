variable {V : VB} {L : St} {M : St} {a : FN} {z : Nat} {G : Gs} {S : St} {c : Nat → Nat} {l : Nat}
/-! ===== reading orders: the reference ===== -/
def CM (M : St) (c : Nat → Nat) (l : Nat) : Prop := l ≤ 80 ∧ M 0 8 = nI l ∧ (∀ i, i < l → M 6 i = nI (c i)) ∧ (∀ i, l ≤ i → c i = 0) ∧ ∀ i, i < l → 33 ≤ c i ∧ c i ≤ 126
/-- what reading inside an order leaves alone: the first q numbers, too -/
def KN (M M' : St) (q : Nat) : Prop := (∀ r, r ≠ 0 → r ≠ 8 → M' r = M r) ∧ (∀ j, j ≠ 9 → j ≠ 10 → M' 0 j = M 0 j) ∧ ∀ j, j < q → M' 8 j = M 8 j
theorem kn_refl {q : Nat} : KN M M q := ⟨fun _ _ _ => rfl, fun _ _ _ => rfl, fun _ _ => rfl⟩
theorem kn_trans {M1 M2 : St} {q q' : Nat} (h : KN M M1 q) (g : KN M1 M2 q') (hq : q ≤ q') : KN M M2 q := ⟨fun r h1 h2 => (g.1 r h1 h2).trans (h.1 r h1 h2), fun j h1 h2 => (g.2.1 j h1 h2).trans (h.2.1 j h1 h2), fun j hj => (g.2.2 j (by omega)).trans (h.2.2 j hj)⟩
theorem kn_sp9 {x : Int32} {q : Nat} : KN M (sp M 0 9 x) q := ⟨fun _ h _ => sp_row' _ _ _ h, fun j h1 h2 => by rw [sp_at, if_neg (fun q => h1 q.2)], fun j _ => by rw [sp_row' _ _ _ (by decide)]⟩
theorem kn_sp10 {x : Int32} {q : Nat} : KN M (sp M 0 10 x) q := ⟨fun _ h _ => sp_row' _ _ _ h, fun j h1 h2 => by rw [sp_at, if_neg (fun q => h2 q.2)], fun j _ => by rw [sp_row' _ _ _ (by decide)]⟩
theorem kn_sp8 {x : Int32} {q p : Nat} (h : q ≤ p) : KN M (sp M 8 p x) q := ⟨fun _ _ h => sp_row' _ _ _ h, fun j h1 h2 => by rw [sp_row' _ _ _ (by decide)], fun j hj => by rw [sp_at, if_neg (by omega)]⟩
theorem cm_kn {M' : St} {q : Nat} (h : CM M c l) (k : KN M M' q) : CM M' c l := by
  obtain ⟨h1, h2, h3, h4, h5⟩ := h
  exact ⟨h1, by rw [k.2.1 8 (by decide) (by decide)]; exact h2, fun i hi => by rw [k.1 6 (by decide) (by decide)]; exact h3 i hi, h4, h5⟩
theorem cm_le (h : CM M c l) (i : Nat) : c i ≤ 126 := by
  by_cases hi : i < l
  · exact (h.2.2.2.2 i hi).2
  · rw [h.2.2.2.1 i (by omega)]; omega
theorem m_next (h : CM M c l) {i : Nat} (h9 : M 0 9 = nI i) (hi : i < 2 ^ 30) : f_X9_next M = some (nI (c i)) := by
  have h80 := h.1
  unfold f_X9_next
  rw [h.2.1, h9]
  by_cases q : l ≤ i
  · rw [if_pos (nI_le q (by omega)), h.2.2.2.1 i q]; rfl
  · rw [if_neg (nI_ge (by omega) (by omega)), ix_ok (by omega) (by omega), cl_n (by omega), h.2.2.1 i (by omega)]
theorem in_dg {x : Nat} (hx : x < 2 ^ 30) : f_X9_in (nI x) 48 57 = if dgt x then 1 else 0 := by
  have := isDig (x := x) (by omega)
  unfold f_X4_isDigit at this
  unfold f_X9_in
  exact this
theorem sign_w (h : M 0 10 = 1) (x : Int32) : f_X9_takeSign M x = some M := by
  unfold f_X9_takeSign
  rw [jn_e, h, if_neg d10]
  simp only [bnd_e]
  rw [sp_idv h, h, if_neg d10, add0, sp_id]
theorem num_w (h : M 0 10 = 1) (x : Int32) : f_X9_takeNumber M x = some M := by
  unfold f_X9_takeNumber
  rw [jn_e, h, if_neg d10]
  simp only [bnd_e]
  rw [sp_idv h, h, if_neg d10]
theorem m_sign (h : CM M c l) {i x : Nat} (h9 : M 0 9 = nI i) (h10 : M 0 10 = 0) (hi : i ≤ 500) (hx : x ≤ 200) : f_X9_takeSign M (nI x) = some (if c i = x then sp M 0 9 (nI (i + 1)) else sp M 0 10 1) := by
  have c126 := cm_le h i
  unfold f_X9_takeSign
  rw [jn_e, h10, if_pos rfl, m_next h h9 (by omega), bd_some]
  by_cases q : c i = x
  · rw [if_pos (show nI (c i) = nI x by rw [q]), if_pos q]
    simp only [bnd_e]
    rw [sp_idv h10, h10, if_pos rfl, h9, nI_1]
  · rw [if_neg (fun g => q ((nI_eq (by omega) (by omega)).mp g)), if_neg q]
    simp only [bnd_e]
    rw [sp_eq', if_neg d10, add0, sp_id]
def big (c : Nat → Nat) (i : Nat) : Bool := !(c i == 48) && (nE c i == i + 4) && dgt (c (nE c i))
theorem m_num_L (x1 : Int32) (k : Int32 → St → Option St) : ∀ (d : Nat) (p : Nat), p * 10 ^ d = 1000 → ∀ f, d + 1 < f → ∀ (S : St) (j v : Nat), CM S c l → S 0 9 = nI j → S 0 10 = 0 → p ≤ v → v < 10 * p → j + d ≤ 1000 → f_X9_takeNumber_L56 x1 k f (nI v) S = k (nI (tk c d j v).2) (sp (sp S 0 10 (if (tk c d j v).1 = j + d ∧ dgt (c (tk c d j v).1) = true then 1 else 0)) 0 9 (nI (tk c d j v).1))
  | 0, p, hp, f + 2, _, S, j, v, h, h9, h10, v1, v2, hj => by
    have c126 := cm_le h j
    have p1 : p = 1000 := by rw [Nat.pow_zero, Nat.mul_one] at hp; exact hp
    subst p1
    rw [f_X9_takeNumber_L56, h10, if_pos rfl, if_neg (nI_nle (by omega) (by omega)), m_next h h9 (by omega), bd_some, in_dg (by omega), tk]
    cases hd : dgt (c j)
    · rw [if_neg (show ¬ false = true by decide), if_pos rfl, if_neg (fun q : (j, v).fst = j + 0 ∧ false = true => by cases q.2), sp_idv h10, sp_idv h9]
    · have hd' := dgt_iff.mp hd
      have e : (10 * nI v + nI (c j) - 48 : Int32) = nI (10 * v + c j - 48) := by
        rw [show (10 : Int32) = nI 10 from rfl, pk_mul, nI_add]
        exact pk_sub (b := 48) (by omega)
      rw [if_pos rfl, if_neg d10, if_pos (show (j, v).fst = j + 0 ∧ true = true from ⟨rfl, rfl⟩), bd_some, bnd_e, e, if_neg (show ¬ nI (10 * v + c j - 48) ≤ (9999 : Int32) from nI_ge (a := 9999) (by omega) (by omega)), jn_e, sp_eq', if_neg d10]
      dsimp only
      rw [bnd_e, if_neg d10, add0, sp_id]
      rw [f_X9_takeNumber_L56, sp_eq', if_neg d10, sp_idv (show sp S 0 10 1 0 9 = nI j by rw [sp_at, if_neg (by omega)]; exact h9)]
  | d + 1, p, hp, f + 1, hf, S, j, v, h, h9, h10, v1, v2, hj => by
    have c126 := cm_le h j
    have hp' : 10 * p * 10 ^ d = 1000 := by
      rw [← hp, Nat.pow_succ, Nat.mul_comm 10 p, Nat.mul_assoc, Nat.mul_comm 10 (10 ^ d)]
    have h1 : 1 ≤ 10 ^ d := Nat.one_le_pow _ _ (by decide)
    have pl : 10 * p ≤ 1000 := by
      have := Nat.mul_le_mul_left (10 * p) h1
      omega
    have p1 : 1 ≤ p := by
      rcases Nat.eq_zero_or_pos p with e | e
      · rw [e] at hp; simp at hp
      · exact e
    rw [f_X9_takeNumber_L56, h10, if_pos rfl, if_neg (nI_nle (by omega) (by omega)), m_next h h9 (by omega), bd_some, in_dg (by omega), tk]
    cases hd : dgt (c j)
    · rw [if_neg (show ¬ false = true by decide), if_pos rfl, if_neg (show ¬ false = true by decide), if_neg (fun q => by have := q.1; revert this; show ¬ j = j + (d + 1); omega), sp_idv h10, sp_idv h9]
    · have hd' := dgt_iff.mp hd
      have e : (10 * nI v + nI (c j) - 48 : Int32) = nI (v * 10 + c j - 48) := by
        rw [show (10 : Int32) = nI 10 from rfl, pk_mul, nI_add, Nat.mul_comm 10 v]
        exact pk_sub (b := 48) (by omega)
      rw [if_pos rfl, if_neg d10, bd_some, bnd_e, e, if_pos (show nI (v * 10 + c j - 48) ≤ (9999 : Int32) from nI_le (b := 9999) (by omega) (by omega)), sp_idv h10, jn_e, h10, if_pos rfl, m_next h h9 (by omega), bd_some]
      simp only [bnd_e, if_true]
      rw [e, h9, nI_1]
      have kn : KN S (sp S 0 9 (nI (j + 1))) 0 := kn_sp9
      rw [m_num_L x1 k d (10 * p) hp' f (by omega) _ (j + 1) (v * 10 + c j - 48) (cm_kn h kn) (sp_eq' _ _ _ _) (by rw [sp_at, if_neg (by omega)]; exact h10) (by omega) (by omega) (by omega)]
      rw [sp_comm2 _ (k := 0) (j := 9) (j' := 10) (by decide), sp_sp, show j + 1 + d = j + (d + 1) by omega]
theorem m_num (h : CM M c l) {i t k : Nat} (h9 : M 0 9 = nI i) (h10 : M 0 10 = 0) (h11 : M 0 11 = nI k) (hk : k ≤ 28) (ht : t < 3) (hi : i ≤ 500) : ∃ M', f_X9_takeNumber M (nI t) = some M' ∧ KN M M' (3 * k + t) ∧ ((dgt (c i) = false ∧ M' 0 10 = 1 ∧ M' 0 9 = nI i) ∨ (dgt (c i) = true ∧ big c i = true ∧ M' 0 10 = 1 ∧ M' 0 9 = nI (nE c i)) ∨ (dgt (c i) = true ∧ big c i = false ∧ M' 0 10 = 0 ∧ M' 0 9 = nI (nE c i) ∧ M' 8 (3 * k + t) = nI (nV c i))) := by
  have c126 := cm_le h i
  have hle := nE_le (c := c) i
  cases hd : dgt (c i)
  · have e0 : f_X9_takeNumber M (nI t) = some (sp M 0 10 1) := by
      unfold f_X9_takeNumber
      rw [jn_e, h10, if_pos rfl, m_next h h9 (by omega), bd_some, in_dg (by omega), hd, if_neg (show ¬ false = true by decide), if_pos rfl]
      simp only [bnd_e]
      rw [sp_eq', if_neg d10]
    exact ⟨_, e0, kn_sp10, Or.inl ⟨rfl, sp_eq' _ _ _ _, by rw [sp_at, if_neg (by omega)]; exact h9⟩⟩
  · have hd' := dgt_iff.mp hd
    have e0 : f_X9_takeNumber M (nI t) = f_X9_takeNumber_L56 (nI t) (fun (x2_156 : Int32) (S_156 : St) => ix ((3 * (S_156 0 11)) + nI t) 87 (some (sp S_156 8 ((3 * (S_156 0 11)) + nI t).toNatClampNeg x2_156))) 5000 (nI (c i - 48)) (sp M 0 9 (nI (i + 1))) := by
      unfold f_X9_takeNumber
      rw [jn_e, h10, if_pos rfl, m_next h h9 (by omega), bd_some, in_dg (by omega), hd, if_pos rfl, if_neg d10]
      simp only [bnd_e]
      rw [sp_idv h10, h10, if_pos rfl, m_next h h9 (by omega), bd_some, h9, nI_1, show nI (c i) - 48 = nI (c i - 48) from pk_sub (b := 48) hd'.1]
    rw [e0]
    have kn : KN M (sp M 0 9 (nI (i + 1))) (3 * k + t) := kn_sp9
    have fin : ∀ (x : Int32) (E : Nat), (ix ((3 * (sp (sp (sp M 0 9 (nI (i + 1))) 0 10 x) 0 9 (nI E) 0 11)) + nI t) 87 (some (sp (sp (sp (sp M 0 9 (nI (i + 1))) 0 10 x) 0 9 (nI E)) 8 ((3 * (sp (sp (sp M 0 9 (nI (i + 1))) 0 10 x) 0 9 (nI E) 0 11)) + nI t).toNatClampNeg (nI (nV c i))))) = some (sp (sp (sp M 0 10 x) 0 9 (nI E)) 8 (3 * k + t) (nI (nV c i))) := by
      intro x E
      have e11 : sp (sp (sp M 0 9 (nI (i + 1))) 0 10 x) 0 9 (nI E) 0 11 = nI k := by rw [sp_at, if_neg (by omega), sp_at, if_neg (by omega), sp_at, if_neg (by omega)]; exact h11
      rw [e11, show (3 : Int32) * nI k + nI t = nI (3 * k + t) by rw [show (3 : Int32) = nI 3 from rfl, pk_mul, nI_add], ix_ok (by omega) (by omega), cl_n (by omega), sp_comm2 _ (k := 0) (j := 9) (j' := 10) (by decide), sp_sp]
    have out : ∀ (x : Int32) (E : Nat), KN M (sp (sp (sp M 0 10 x) 0 9 (nI E)) 8 (3 * k + t) (nI (nV c i))) (3 * k + t) ∧ sp (sp (sp M 0 10 x) 0 9 (nI E)) 8 (3 * k + t) (nI (nV c i)) 0 10 = x ∧ sp (sp (sp M 0 10 x) 0 9 (nI E)) 8 (3 * k + t) (nI (nV c i)) 0 9 = nI E ∧ sp (sp (sp M 0 10 x) 0 9 (nI E)) 8 (3 * k + t) (nI (nV c i)) 8 (3 * k + t) = nI (nV c i) := by
      intro x E
      refine ⟨kn_trans (kn_trans kn_sp10 kn_sp9 (Nat.le_refl _)) (kn_sp8 (Nat.le_refl _)) (Nat.le_refl _), ?_, ?_, sp_eq' _ _ _ _⟩
      · rw [sp_row' _ _ _ (by decide), sp_at, if_neg (by omega), sp_eq']
      · rw [sp_row' _ _ _ (by decide), sp_eq']
    by_cases h48 : c i = 48
    · have eE : nE c i = i + 1 := by
        unfold nE nmx
        rw [if_pos h48, tk, if_pos hd, tk]
      have eV : nV c i = 0 := by
        unfold nV nmx
        rw [if_pos h48, tk, if_pos hd, tk]
        show 0 * 10 + c i - 48 = 0
        omega
      have bf : big c i = false := by
        unfold big
        rw [h48]; rfl
      rw [f_X9_takeNumber_L56, show sp M 0 9 (nI (i + 1)) 0 10 = 0 by rw [sp_at, if_neg (by omega)]; exact h10, if_pos rfl, if_pos (show nI (c i - 48) ≤ 0 by rw [h48]; decide)]
      have f0 := fin 0 (nE c i)
      have o := out 0 (nE c i)
      have eM : sp (sp (sp M 0 9 (nI (i + 1))) 0 10 0) 0 9 (nI (nE c i)) = sp M 0 9 (nI (i + 1)) := by
        rw [sp_idv (show sp M 0 9 (nI (i + 1)) 0 10 = 0 by rw [sp_at, if_neg (by omega)]; exact h10), eE, sp_sp]
      rw [eM, eV] at f0
      rw [eV] at o
      rw [show nI (c i - 48) = nI 0 by rw [h48]]
      exact ⟨_, f0, o.1, Or.inr (Or.inr ⟨rfl, bf, o.2.1, o.2.2.1, by rw [eV]; exact o.2.2.2⟩)⟩
    · have eT : tk c 3 (i + 1) (c i - 48) = nmx c i := by
        unfold nmx
        rw [if_neg h48, show tk c 4 i 0 = if dgt (c i) then tk c 3 (i + 1) (0 * 10 + c i - 48) else (i, 0) from rfl, if_pos hd, Nat.zero_mul, Nat.zero_add]
      have key := m_num_L (c := c) (l := l) (nI t) (fun (x2_156 : Int32) (S_156 : St) => ix ((3 * (S_156 0 11)) + nI t) 87 (some (sp S_156 8 ((3 * (S_156 0 11)) + nI t).toNatClampNeg x2_156))) 3 1 (by decide) 5000 (by omega) (sp M 0 9 (nI (i + 1))) (i + 1) (c i - 48) (cm_kn h kn) (sp_eq' _ _ _ _) (by rw [sp_at, if_neg (by omega)]; exact h10) (by omega) (by omega) (by omega)
      rw [eT, show (nmx c i).1 = nE c i from rfl, show (nmx c i).2 = nV c i from rfl, show i + 1 + 3 = i + 4 by omega] at key
      have eb : (if nE c i = i + 4 ∧ dgt (c (nE c i)) = true then (1 : Int32) else 0) = if big c i = true then 1 else 0 := by
        unfold big
        have : (c i == 48) = false := by simpa using h48
        rw [this]
        by_cases q : nE c i = i + 4
        · rw [q]; simp
        · simp [q]
      rw [eb] at key
      have f0 := fin (if big c i = true then 1 else 0) (nE c i)
      have o := out (if big c i = true then 1 else 0) (nE c i)
      refine ⟨_, key.trans f0, o.1, Or.inr ?_⟩
      cases hb : big c i
      · rw [hb, if_neg (show ¬ false = true by decide)] at o
        rw [if_neg (show ¬ false = true by decide)]
        exact Or.inr ⟨rfl, rfl, o.2.1, o.2.2.1, o.2.2.2⟩
      · rw [hb, if_pos rfl] at o
        rw [if_pos rfl]
        exact Or.inl ⟨rfl, rfl, o.2.1, o.2.2.1⟩
