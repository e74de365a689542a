variable {V : VB} {L : St} {M : St} {a : FN} {z : Nat} {G : Gs} {S : St} {c : Nat → Nat} {l : Nat}
/-! ===== reading orders: what is read, and the class ===== -/
def dgt (x : Nat) : Bool := decide (48 ≤ x) && decide (x ≤ 57)
def tk (c : Nat → Nat) : Nat → Nat → Nat → Nat × Nat
  | 0, i, v => (i, v)
  | d + 1, i, v => if dgt (c i) then tk c d (i + 1) (v * 10 + c i - 48) else (i, v)
def nmx (c : Nat → Nat) (i : Nat) : Nat × Nat := tk c (if c i = 48 then 1 else 4) i 0
def nE (c : Nat → Nat) (i : Nat) : Nat := (nmx c i).1
def nV (c : Nat → Nat) (i : Nat) : Nat := (nmx c i).2
theorem dgt_iff {x : Nat} : dgt x = true ↔ 48 ≤ x ∧ x ≤ 57 := by
  unfold dgt
  rw [Bool.and_eq_true, decide_eq_true_iff, decide_eq_true_iff]
theorem tk_le (c : Nat → Nat) : ∀ d i v, i ≤ (tk c d i v).1 ∧ (tk c d i v).1 ≤ i + d
  | 0, i, v => ⟨Nat.le_refl _, Nat.le_refl _⟩
  | d + 1, i, v => by
    have := tk_le c d (i + 1) (v * 10 + c i - 48)
    rw [tk]
    split
    · omega
    · exact ⟨Nat.le_refl _, by show i ≤ i + (d + 1); omega⟩
theorem nE_no {i : Nat} (h : dgt (c i) = false) : nE c i = i ∧ nV c i = 0 := by
  have hf : ¬ dgt (c i) = true := by rw [h]; decide
  unfold nE nV nmx
  by_cases h4 : c i = 48
  · rw [if_pos h4, tk, if_neg hf]
    exact ⟨rfl, rfl⟩
  · rw [if_neg h4, tk, if_neg hf]
    exact ⟨rfl, rfl⟩
theorem nE_yes {i : Nat} (h : dgt (c i) = true) : i + 1 ≤ nE c i ∧ nE c i ≤ i + 4 := by
  unfold nE nmx
  by_cases h4 : c i = 48
  · rw [if_pos h4, tk, if_pos h]
    have := tk_le c 0 (i + 1) (0 * 10 + c i - 48)
    omega
  · rw [if_neg h4, tk, if_pos h]
    have := tk_le c 3 (i + 1) (0 * 10 + c i - 48)
    omega
theorem nE_le (i : Nat) : i ≤ nE c i ∧ nE c i ≤ i + 4 := by
  cases h : dgt (c i)
  · rw [(nE_no h).1]; omega
  · have := nE_yes h; omega
/-- the pad of the class, its codes c and its length l -/
def CD (S : St) (c : Nat → Nat) (l : Nat) : Prop := l ≤ 80 ∧ S 4 1 = nI l ∧ (∀ i, i < l → S 6 i = nI (c i)) ∧ (∀ i, l ≤ i → c i = 0) ∧ ∀ i, i < l → 33 ≤ c i ∧ c i ≤ 126
def Kp (S S' : St) : Prop := ∀ k, k ≠ 7 → S' k = S k
theorem kp_refl : Kp S S := fun _ _ => rfl
theorem kp_trans {S1 S2 : St} (h : Kp S S1) (g : Kp S1 S2) : Kp S S2 := fun k hk => (g k hk).trans (h k hk)
theorem kp_sp {j : Nat} {x : Int32} : Kp S (sp S 7 j x) := fun _ hk => sp_row' _ _ _ hk
theorem cd_kp {S' : St} (h : CD S c l) (k : Kp S S') : CD S' c l := by
  obtain ⟨h1, h2, h3, h4, h5⟩ := h
  exact ⟨h1, by rw [k 4 (by decide)]; exact h2, fun i hi => by rw [k 6 (by decide)]; exact h3 i hi, h4, h5⟩
theorem cd_le (h : CD S c l) (i : Nat) : c i ≤ 126 := by
  by_cases hi : i < l
  · exact (h.2.2.2.2 i hi).2
  · rw [h.2.2.2.1 i (by omega)]; omega
theorem c_at (h : CD S c l) {i : Nat} (hi : i < 2 ^ 30) : f_X5_codeAt S (nI i) = nI (c i) := by
  unfold f_X5_codeAt
  rw [h.2.1]
  have h80 := h.1
  by_cases q : l ≤ i
  · rw [if_pos (nI_le q (by omega)), h.2.2.2.1 i q]; rfl
  · rw [if_neg (nI_ge (by omega) (by omega)), rat_nI (by omega) (by omega), h.2.2.1 i (by omega)]
theorem isDig {x : Nat} (hx : x < 2 ^ 31) : f_X4_isDigit (nI x) = if dgt x then 1 else 0 := by
  unfold f_X4_isDigit
  by_cases h1 : x < 48
  · have : dgt x = false := by
      cases q : dgt x
      · rfl
      · have := dgt_iff.mp q; omega
    rw [if_pos (show nI x < (48 : Int32) from nI_lt (b := 48) h1 (by omega)), this]; rfl
  · rw [if_neg (show ¬ nI x < (48 : Int32) from nI_nlt (b := 48) (by omega) hx)]
    by_cases h2 : x ≤ 57
    · rw [if_neg (show ¬ (57 : Int32) < nI x from nI_nlt (a := 57) h2 (by omega)), dgt_iff.mpr ⟨by omega, h2⟩]; rfl
    · have : dgt x = false := by
        cases q : dgt x
        · rfl
        · have := dgt_iff.mp q; omega
      rw [if_pos (show (57 : Int32) < nI x from nI_lt (a := 57) (by omega) hx), this]; rfl
theorem c_num_L (K : St → Option (Int32 × St)) (x1 : Int32) (k : Int32 → St → Option (Int32 × St)) (hk : ∀ x S, k x S = K S) {mx : Nat} (hmx : mx ≤ 4) : ∀ (d t : Nat), t + d = mx → ∀ f, d < f → ∀ (S : St) (i v : Nat), CD S c l → S 7 1 = nI i → S 7 2 = nI v → i + d ≤ 1000 → f_X4_takeNumber_L34 x1 (nI mx) k f (nI t) S = K (sp (sp S 7 2 (nI (tk c d i v).2)) 7 1 (nI (tk c d i v).1))
  | 0, t, e, f + 1, _, S, i, v, _, h1, h2, _ => by
    rw [f_X4_takeNumber_L34, if_pos (nI_le (by omega) (by omega)), hk, tk, sp_idv h2, sp_idv h1]
  | d + 1, t, e, f + 1, hf, S, i, v, h, h1, h2, hi => by
    have c126 := cd_le h i
    rw [f_X4_takeNumber_L34, if_neg (nI_ge (by omega) (by omega)), h1, c_at h (by omega), isDig (by omega), tk]
    by_cases hd : dgt (c i) = true
    · have hd' := dgt_iff.mp hd
      rw [hd, if_pos rfl, if_neg d10, if_pos rfl, bnd_e, bnd_e, h2, sp_at, if_neg (by omega), h1, nI_1, nI_1, show nI v * 10 + nI (c i) - 48 = nI (v * 10 + c i - 48) by
        rw [show (10 : Int32) = nI 10 from rfl, pk_mul, nI_add]
        exact pk_sub (b := 48) (by omega)]
      have kp : Kp S (sp (sp S 7 2 (nI (v * 10 + c i - 48))) 7 1 (nI (i + 1))) := kp_trans kp_sp kp_sp
      rw [c_num_L K x1 k hk hmx d (t + 1) (by omega) f (by omega) _ (i + 1) (v * 10 + c i - 48) (cd_kp h kp) (sp_eq' _ _ _ _) (by rw [sp_at, if_neg (by omega), sp_eq']) (by omega)]
      rw [sp_comm2 _ (k := 7) (j := 1) (j' := 2) (by decide), sp_sp, sp_sp]
    · have hd0 : dgt (c i) = false := by simpa using hd
      rw [hd0, if_neg (show ¬ false = true by decide), if_pos rfl, hk, if_neg (show ¬ false = true by decide), sp_idv h2, sp_idv h1]
def nbS (S : St) (c : Nat → Nat) (i : Nat) : St := sp (sp S 7 2 (nI (nV c i))) 7 1 (nI (nE c i))
theorem c_num (h : CD S c l) {i : Nat} (h1 : S 7 1 = nI i) (hi : i ≤ 500) : f_X4_takeNumber S = some (if dgt (c i) then 1 else 0, nbS S c i) := by
  have c126 := cd_le h i
  unfold f_X4_takeNumber
  rw [bnd_e, h1, c_at h (by omega)]
  have key : ∀ d, d ≤ 4 → (tk c d i 0).1 = nE c i → (tk c d i 0).2 = nV c i → f_X4_takeNumber_L34 (nI i) (nI d) (fun (x3_98 : Int32) (S_98 : St) => if (S_98 7 1) ≤ (nI i) then (some (0, S_98)) else (some (1, S_98))) 5000 0 (sp S 7 2 0) = some (if dgt (c i) then 1 else 0, nbS S c i) := by
    intro d hd e1 e2
    have kp : Kp S (sp S 7 2 0) := kp_sp
    refine (c_num_L (fun S_98 => if (S_98 7 1) ≤ (nI i) then (some (0, S_98)) else (some (1, S_98))) (nI i) _ (fun _ _ => rfl) hd d 0 (by omega) 5000 (by omega) (sp S 7 2 0) i 0 (cd_kp h kp) (by rw [sp_at, if_neg (by omega)]; exact h1) (sp_eq' _ _ _ _) (by omega)).trans ?_
    rw [e1, e2, sp_sp, show sp (sp S 7 2 (nI (nV c i))) 7 1 (nI (nE c i)) = nbS S c i from rfl]
    have e3 : nbS S c i 7 1 = nI (nE c i) := sp_eq' _ _ _ _
    have hle := nE_le (c := c) i
    rw [e3]
    cases hq : dgt (c i)
    · rw [(nE_no hq).1, if_pos (nI_le (Nat.le_refl _) (by omega)), if_neg (show ¬ false = true by decide)]
    · have := nE_yes hq
      rw [if_neg (nI_ge (by omega) (by omega)), if_pos rfl]
  by_cases h4 : c i = 48
  · rw [if_pos (show nI (c i) = (48 : Int32) by rw [h4]; rfl)]
    refine key 1 (by omega) ?_ ?_
    · unfold nE nmx; rw [if_pos h4]
    · unfold nV nmx; rw [if_pos h4]
  · rw [if_neg (show ¬ nI (c i) = (48 : Int32) from fun q => h4 ((nI_eq (b := 48) (by omega) (by omega)).mp q))]
    refine key 4 (by omega) ?_ ?_
    · unfold nE nmx; rw [if_neg h4]
    · unfold nV nmx; rw [if_neg h4]
theorem nbS_kp {i : Nat} : Kp S (nbS S c i) := kp_trans kp_sp kp_sp
theorem nbS_1 {i : Nat} : nbS S c i 7 1 = nI (nE c i) := sp_eq' _ _ _ _
theorem nbS_2 {i : Nat} : nbS S c i 7 2 = nI (nV c i) := by
  unfold nbS
  rw [sp_at, if_neg (by omega), sp_eq']
theorem nbS_o {i j : Nat} (h1 : j ≠ 1) (h2 : j ≠ 2) : nbS S c i 7 j = S 7 j := by
  unfold nbS
  rw [sp_at, if_neg (by omega), sp_at, if_neg (by omega)]
theorem c_take (h : CD S c l) {i x : Nat} (h1 : S 7 1 = nI i) (hi : i ≤ 500) (hx : x ≤ 200) : f_X4_take S (nI x) = if c i = x then (1, sp S 7 1 (nI (i + 1))) else (0, S) := by
  have c126 := cd_le h i
  unfold f_X4_take
  rw [h1, c_at h (by omega), bnd_e, nI_1]
  by_cases q : c i = x
  · rw [if_pos q, if_pos (by rw [q])]
  · rw [if_neg q, if_neg (fun g => q ((nI_eq (by omega) (by omega)).mp g))]
/-! one order -/
def kdc (x : Nat) : Nat := if x = 98 then 2 else if x = 99 then 3 else if x = 114 then 0 else if x = 119 then 1 else 4
def rdr (c : Nat → Nat) (k i : Nat) : Bool × Nat × Nat := if k = 3 then (true, i, 0) else if dgt (c i) then (if c (nE c i) = 58 then (true, nE c i + 1, nV c i) else (false, nE c i, 0)) else (false, i, 0)
def vlu (c : Nat → Nat) (k i : Nat) : Bool × Nat × Nat := if k = 1 then (if c i = 61 then (if dgt (c (i + 1)) then (true, nE c (i + 1), nV c (i + 1)) else (false, i + 1, 0)) else (false, i, 0)) else (true, i, 0)
def ordr (c : Nat → Nat) (i : Nat) : Bool × Nat × Nat × Nat × Nat :=
  if kdc (c i) = 4 then (false, i, 0, 0, 0)
  else if (rdr c (kdc (c i)) (i + 1)).1 then (if dgt (c (rdr c (kdc (c i)) (i + 1)).2.1) then ((vlu c (kdc (c i)) (nE c (rdr c (kdc (c i)) (i + 1)).2.1)).1, (vlu c (kdc (c i)) (nE c (rdr c (kdc (c i)) (i + 1)).2.1)).2.1, (rdr c (kdc (c i)) (i + 1)).2.2, nV c (rdr c (kdc (c i)) (i + 1)).2.1, (vlu c (kdc (c i)) (nE c (rdr c (kdc (c i)) (i + 1)).2.1)).2.2) else (false, (rdr c (kdc (c i)) (i + 1)).2.1, 0, 0, 0))
  else (false, (rdr c (kdc (c i)) (i + 1)).2.1, 0, 0, 0)
theorem rdr_le (k i : Nat) : i ≤ (rdr c k i).2.1 ∧ (rdr c k i).2.1 ≤ i + 5 := by
  have := nE_le (c := c) i
  unfold rdr
  split
  · exact ⟨Nat.le_refl _, by show i ≤ i + 5; omega⟩
  · split
    · split
      · show i ≤ nE c i + 1 ∧ nE c i + 1 ≤ i + 5; omega
      · show i ≤ nE c i ∧ nE c i ≤ i + 5; omega
    · show i ≤ i ∧ i ≤ i + 5; omega
theorem vlu_le (k i : Nat) : i ≤ (vlu c k i).2.1 ∧ (vlu c k i).2.1 ≤ i + 5 := by
  have := nE_le (c := c) (i + 1)
  unfold vlu
  split
  · split
    · split
      · show i ≤ nE c (i + 1) ∧ nE c (i + 1) ≤ i + 5; omega
      · show i ≤ i + 1 ∧ i + 1 ≤ i + 5; omega
    · show i ≤ i ∧ i ≤ i + 5; omega
  · show i ≤ i ∧ i ≤ i + 5; omega
theorem bnp_e {α σ β : Type} (x : α) (s : σ) (k : α → σ → β) : bnp (x, s) k = k x s := rfl
theorem c_reader (h : CD S c l) {i k : Nat} (h1 : S 7 1 = nI i) (h3 : S 7 3 = nI k) (hk : k ≤ 3) (hi : i ≤ 400) : ∃ S', f_X4_takeReader S = some (if (rdr c k i).1 then 1 else 0, S') ∧ Kp S S' ∧ S' 7 3 = nI k ∧ S' 7 1 = nI (rdr c k i).2.1 ∧ ((rdr c k i).1 = true → S' 7 4 = nI (rdr c k i).2.2) := by
  have kp : Kp S (sp S 7 4 0) := kp_sp
  have s1 : sp S 7 4 0 7 1 = nI i := by rw [sp_at, if_neg (by omega)]; exact h1
  have s3 : sp S 7 4 0 7 3 = nI k := by rw [sp_at, if_neg (by omega)]; exact h3
  unfold f_X4_takeReader rdr
  rw [bnd_e, s3]
  by_cases k3 : k = 3
  · subst k3
    rw [if_pos (show nI 3 = (3 : Int32) from rfl), if_pos rfl]
    exact ⟨_, rfl, kp, s3, s1, fun _ => sp_eq' _ _ _ _⟩
  · rw [if_neg (show ¬ nI k = (3 : Int32) from fun q => k3 ((nI_eq (b := 3) (by omega) (by omega)).mp q)), if_neg k3, c_num (cd_kp h kp) s1 (by omega), bdp_some, bnd_e, nbS_2]
    have hle := nE_le (c := c) i
    have kp2 : Kp S (sp (nbS (sp S 7 4 0) c i) 7 4 (nI (nV c i))) := kp_trans (kp_trans kp nbS_kp) kp_sp
    have t1 : sp (nbS (sp S 7 4 0) c i) 7 4 (nI (nV c i)) 7 1 = nI (nE c i) := by rw [sp_at, if_neg (by omega), nbS_1]
    have t3 : sp (nbS (sp S 7 4 0) c i) 7 4 (nI (nV c i)) 7 3 = nI k := by rw [sp_at, if_neg (by omega), nbS_o (by decide) (by decide), s3]
    cases hd : dgt (c i)
    · rw [if_neg (show ¬ false = true by decide), if_pos rfl, if_neg (show ¬ false = true by decide)]
      exact ⟨_, rfl, kp2, t3, by rw [t1, (nE_no hd).1], fun q => by cases q⟩
    · rw [if_pos rfl, if_neg d10, if_pos rfl, show (58 : Int32) = nI 58 from rfl, c_take (cd_kp h kp2) t1 (by omega) (by omega)]
      by_cases q : c (nE c i) = 58
      · rw [if_pos q, if_pos q, bnp_e, if_neg d10]
        refine ⟨_, rfl, kp_trans kp2 kp_sp, ?_, sp_eq' _ _ _ _, fun _ => ?_⟩
        · rw [sp_at, if_neg (by omega)]; exact t3
        · rw [sp_at, if_neg (by omega), sp_eq']
      · rw [if_neg q, if_neg q, bnp_e, if_pos rfl]
        exact ⟨_, rfl, kp2, t3, t1, fun q => by cases q⟩
theorem c_value (h : CD S c l) {i k : Nat} (h1 : S 7 1 = nI i) (h3 : S 7 3 = nI k) (hk : k ≤ 3) (hi : i ≤ 400) : ∃ S', f_X4_takeValue S = some (if (vlu c k i).1 then 1 else 0, S') ∧ Kp S S' ∧ S' 7 3 = nI k ∧ S' 7 4 = S 7 4 ∧ S' 7 5 = S 7 5 ∧ S' 7 1 = nI (vlu c k i).2.1 ∧ ((vlu c k i).1 = true → S' 7 6 = nI (vlu c k i).2.2) := by
  have kp : Kp S (sp S 7 6 0) := kp_sp
  have s1 : sp S 7 6 0 7 1 = nI i := by rw [sp_at, if_neg (by omega)]; exact h1
  have s3 : sp S 7 6 0 7 3 = nI k := by rw [sp_at, if_neg (by omega)]; exact h3
  have s4 : sp S 7 6 0 7 4 = S 7 4 := by rw [sp_at, if_neg (by omega)]
  have s5 : sp S 7 6 0 7 5 = S 7 5 := by rw [sp_at, if_neg (by omega)]
  unfold f_X4_takeValue vlu
  rw [bnd_e, s3]
  by_cases k1 : k = 1
  · subst k1
    rw [if_pos (show nI 1 = (1 : Int32) from rfl), if_pos rfl, show (61 : Int32) = nI 61 from rfl, c_take (cd_kp h kp) s1 (by omega) (by omega)]
    by_cases q : c i = 61
    · have kp2 : Kp S (sp (sp S 7 6 0) 7 1 (nI (i + 1))) := kp_trans kp kp_sp
      rw [if_pos q, if_pos q, bnp_e, jn_e, if_neg d10, c_num (cd_kp h kp2) (sp_eq' _ _ _ _) (by omega), bdp_some]
      have w : ∀ u : Int32, ∃ S', bnd (sp (nbS (sp (sp S 7 6 0) 7 1 (nI (i + 1))) c (i + 1)) 7 6 (nbS (sp (sp S 7 6 0) 7 1 (nI (i + 1))) c (i + 1) 7 2)) (fun S5 => some (u, S5)) = some (u, S') ∧ Kp S S' ∧ S' 7 3 = nI 1 ∧ S' 7 4 = S 7 4 ∧ S' 7 5 = S 7 5 ∧ S' 7 1 = nI (nE c (i + 1)) ∧ S' 7 6 = nI (nV c (i + 1)) := by
        intro u
        refine ⟨_, rfl, kp_trans (kp_trans kp2 nbS_kp) kp_sp, ?_, ?_, ?_, ?_, ?_⟩
        · rw [sp_at, if_neg (by omega), nbS_o (by decide) (by decide), sp_at, if_neg (by omega)]; exact s3
        · rw [sp_at, if_neg (by omega), nbS_o (by decide) (by decide), sp_at, if_neg (by omega)]; exact s4
        · rw [sp_at, if_neg (by omega), nbS_o (by decide) (by decide), sp_at, if_neg (by omega)]; exact s5
        · rw [sp_at, if_neg (by omega), nbS_1]
        · rw [sp_eq', nbS_2]
      cases hd : dgt (c (i + 1))
      · rw [if_neg (show ¬ false = true by decide), if_pos rfl, if_neg (show ¬ false = true by decide)]
        obtain ⟨S', w1, w2, w3, w4, w5, w6, w7⟩ := w 0
        exact ⟨S', w1, w2, w3, w4, w5, by rw [w6, (nE_no hd).1], fun q => by cases q⟩
      · rw [if_pos rfl, if_neg d10, if_pos rfl]
        obtain ⟨S', w1, w2, w3, w4, w5, w6, w7⟩ := w 1
        exact ⟨S', w1, w2, w3, w4, w5, w6, fun _ => w7⟩
    · rw [if_neg q, if_neg q, bnp_e, jn_e, if_pos rfl]
      refine ⟨_, rfl, kp_trans kp kp_sp, ?_, ?_, ?_, ?_, fun q => by cases q⟩
      · rw [sp_at, if_neg (by omega)]; exact s3
      · rw [sp_at, if_neg (by omega)]; exact s4
      · rw [sp_at, if_neg (by omega)]; exact s5
      · rw [sp_at, if_neg (by omega)]; exact s1
  · rw [if_neg (show ¬ nI k = (1 : Int32) from fun q => k1 ((nI_eq (b := 1) (by omega) (by omega)).mp q)), if_neg k1]
    exact ⟨_, rfl, kp, s3, s4, s5, s1, fun _ => sp_eq' _ _ _ _⟩
def chn (S : St) : Option (Int32 × St) := bnp (f_X4_takeKind S) (fun y2 S1 => if y2 = 0 then (some (0, S1)) else (bdp (f_X4_takeReader S1) (fun y4 S3 => if y4 = 0 then (some (0, S3)) else (bdp (f_X4_takeNote S3) (fun y6 S5 => if y6 = 0 then (some (0, S5)) else (bdp (f_X4_takeValue S5) (fun y8 S7 => if y8 = 0 then (some (0, S7)) else (some (1, S7)))))))))
theorem kindOf_n {x : Nat} (hx : x ≤ 126) : f_X4_kindOf (nI x) = if kdc x = 4 then -1 else nI (kdc x) := by
  have e : ∀ y : Nat, y ≤ 126 → (nI x = nI y ↔ x = y) := fun y hy => nI_eq (by omega) (by omega)
  unfold f_X4_kindOf kdc
  have e1 : (nI x = (98 : Int32) ↔ x = 98) := e 98 (by omega)
  have e2 : (nI x = (99 : Int32) ↔ x = 99) := e 99 (by omega)
  have e3 : (nI x = (114 : Int32) ↔ x = 114) := e 114 (by omega)
  have e4 : (nI x = (119 : Int32) ↔ x = 119) := e 119 (by omega)
  by_cases q1 : x = 98
  · rw [if_pos (e1.mpr q1), if_pos q1]; decide
  rw [if_neg (fun g => q1 (e1.mp g)), if_neg q1]
  by_cases q2 : x = 99
  · rw [if_pos (e2.mpr q2), if_pos q2]; decide
  rw [if_neg (fun g => q2 (e2.mp g)), if_neg q2]
  by_cases q3 : x = 114
  · rw [if_pos (e3.mpr q3), if_pos q3]; decide
  rw [if_neg (fun g => q3 (e3.mp g)), if_neg q3]
  by_cases q4 : x = 119
  · rw [if_pos (e4.mpr q4), if_pos q4]; decide
  rw [if_neg (fun g => q4 (e4.mp g)), if_neg q4]; decide
theorem kdc_le (x : Nat) : kdc x ≤ 4 := by
  unfold kdc
  split
  · omega
  split
  · omega
  split
  · omega
  split <;> omega
theorem c_order (h : CD S c l) {i : Nat} (h1 : S 7 1 = nI i) (hi : i ≤ 300) : ∃ S', chn S = some (if (ordr c i).1 then 1 else 0, S') ∧ Kp S S' ∧ S' 7 1 = nI (ordr c i).2.1 ∧ ((ordr c i).1 = true → S' 7 3 = nI (kdc (c i)) ∧ S' 7 4 = nI (ordr c i).2.2.1 ∧ S' 7 5 = nI (ordr c i).2.2.2.1 ∧ S' 7 6 = nI (ordr c i).2.2.2.2) := by
  have c126 := cd_le h i
  have k4 := kdc_le (c i)
  unfold chn f_X4_takeKind
  rw [h1, c_at h (by omega), kindOf_n c126, bnd_e, sp_eq']
  unfold ordr
  by_cases q : kdc (c i) = 4
  · rw [if_pos q, if_pos rfl, if_pos q, bnp_e, if_pos rfl]
    refine ⟨_, rfl, kp_sp, ?_, fun q => by cases q⟩
    rw [sp_at, if_neg (by omega)]; exact h1
  · rw [if_neg q, if_neg (m1_ne (by omega)), if_neg q, bnd_e, sp_at, if_neg (by omega), h1, nI_1, bnp_e]
    have kp1 : Kp S (sp (sp S 7 3 (nI (kdc (c i)))) 7 1 (nI (i + 1))) := kp_trans kp_sp kp_sp
    have s3 : sp (sp S 7 3 (nI (kdc (c i)))) 7 1 (nI (i + 1)) 7 3 = nI (kdc (c i)) := by rw [sp_at, if_neg (by omega), sp_eq']
    rw [if_neg d10]
    obtain ⟨S2, r1, r2, r3, r4, r5⟩ := c_reader (cd_kp h kp1) (sp_eq' _ _ _ _) s3 (by omega) (by omega)
    rw [r1, bdp_some]
    have rl := rdr_le (c := c) (kdc (c i)) (i + 1)
    have kp2 := kp_trans kp1 r2
    revert r3 r4 r5 rl
    generalize rdr c (kdc (c i)) (i + 1) = R
    intro r3 r4 r5 rl
    cases hR : R.1
    · rw [if_neg (show ¬ false = true by decide), if_pos rfl, if_neg (show ¬ false = true by decide)]
      exact ⟨S2, rfl, kp2, r4, fun q => by cases q⟩
    · rw [if_pos rfl, if_neg d10, if_pos rfl]
      unfold f_X4_takeNote
      rw [c_num (cd_kp h kp2) r4 (by omega), bdp_some, bnd_e, bdp_some, nbS_2]
      have hle := nE_le (c := c) R.2.1
      have kp3 : Kp S (sp (nbS S2 c R.2.1) 7 5 (nI (nV c R.2.1))) := kp_trans (kp_trans kp2 nbS_kp) kp_sp
      have t1 : sp (nbS S2 c R.2.1) 7 5 (nI (nV c R.2.1)) 7 1 = nI (nE c R.2.1) := by rw [sp_at, if_neg (by omega), nbS_1]
      have t3 : sp (nbS S2 c R.2.1) 7 5 (nI (nV c R.2.1)) 7 3 = nI (kdc (c i)) := by rw [sp_at, if_neg (by omega), nbS_o (by decide) (by decide), r3]
      have t4 : sp (nbS S2 c R.2.1) 7 5 (nI (nV c R.2.1)) 7 4 = nI R.2.2 := by rw [sp_at, if_neg (by omega), nbS_o (by decide) (by decide), r5 hR]
      cases hd : dgt (c R.2.1)
      · rw [if_neg (show ¬ false = true by decide), if_pos rfl, if_neg (show ¬ false = true by decide)]
        exact ⟨_, rfl, kp3, by rw [t1, (nE_no hd).1], fun q => by cases q⟩
      · rw [if_pos rfl, if_neg d10, if_pos rfl]
        obtain ⟨S4, v1, v2, v3, v4, v5, v6, v7⟩ := c_value (cd_kp h kp3) t1 t3 (by omega) (by omega)
        rw [v1, bdp_some]
        have kp4 := kp_trans kp3 v2
        cases hv : (vlu c (kdc (c i)) (nE c R.2.1)).1
        · rw [if_neg (show ¬ false = true by decide), if_pos rfl]
          exact ⟨S4, rfl, kp4, v6, fun q => by cases q⟩
        · rw [if_pos rfl, if_neg d10]
          exact ⟨S4, rfl, kp4, v6, fun _ => ⟨v3, v4.trans t4, by rw [v5, sp_eq'], v7 hv⟩⟩
theorem c_next0 (h1 : S 7 1 = nI 0) : f_X4_takeNext S = chn S := by
  unfold f_X4_takeNext
  rw [h1, if_pos (show nI 0 = (0 : Int32) from rfl)]
  rfl
theorem c_next1 (h : CD S c l) {i : Nat} (h1 : S 7 1 = nI i) (hi : i ≤ 300) (h0 : 0 < i) : f_X4_takeNext S = if c i = 59 then chn (sp S 7 1 (nI (i + 1))) else some (0, S) := by
  unfold f_X4_takeNext
  rw [h1, if_neg (nI_ne0 h0 (by omega)), show (59 : Int32) = nI 59 from rfl, c_take h h1 (by omega) (by omega)]
  by_cases q : c i = 59
  · rw [if_pos q, if_pos q, bnp_e, if_neg d10]
    rfl
  · rw [if_neg q, if_neg q, bnp_e, if_pos rfl]
