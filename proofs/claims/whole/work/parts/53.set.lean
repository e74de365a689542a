variable {V : VB} {L : St} {M : St} {a : FN} {z : Nat} {G : Gs}
/-! ===== the account anew, settings, undo, slots ===== -/
theorem op_clear (g : Sim a L) : Sim (upd a 7 0) (sp (sp L 21 3 0) 21 4 0) ∧ L 21 4 = a 7 := by
  have e : ∀ k, ac k = false → sp (sp L 21 3 0) 21 4 0 k = L k := fun k hk => by
    have n : k ≠ 21 := fun q => by rw [q] at hk; cases hk
    rw [sp_row' _ _ _ n, sp_row' _ _ _ n]
  refine ⟨⟨rm_app g.1 e (fun i _ h7 => pk_un h7), inv_irr (fun k hk => e k (irr_ac hk)) g.2.1, ⟨0, 0, by omega, by omega, ?_, sp_eq' _ _ _ _, pk_us, fun k hk => absurd hk (Nat.not_lt_zero k)⟩⟩, ?_⟩
  · rw [sp_at, if_neg (by omega), sp_eq']
    rfl
  · obtain ⟨f, l, h1, h2, h3, h4, h5, h6⟩ := g.2.2
    rw [h4, h5]
theorem w_account (h : Rel G) : Wop (f_X8_account G) (f_X9_account (G 1)) Rel G := by
  obtain ⟨G', M', k1, k2, k3, k4, k5, k6, k7, k8, k9, k10⟩ := keep_ok h
  obtain ⟨c1, c2⟩ := op_clear h.1
  have e : sp M' 1 7 0 = mA M' (upd (G 1 1) 7 0) := by rw [sp_up, k4]; rfl
  refine wop_fr (r := G 2 21 4) (G1 := va_up G' 2 (sp (sp (G 2) 21 3 0) 21 4 0)) (M1 := mA M' (upd (G 1 1) 7 0)) ?_ ?_ (fr_lib ⟨k6, k9, k7, k8⟩) (rl_lib k3 c1)
  · unfold f_X8_account f_X0_clear
    rw [k1, bd_some, k5]
    simp only [bnd_e]
  · unfold f_X9_account
    rw [k2, bd_some, ix_7, ix_7, cl_7, bnd_e, e, k4, c2]
/-! cards in use -/
theorem c_use_L (L : St) : ∀ (d i : Nat), i + d = 24 → ∀ f, d < f → f_X1_howManyInUse_L4 L f (nI (ct (fun n => !(L 7 n == 0)) i)) (nI i) = some (nI (ct (fun n => !(L 7 n == 0)) 24))
  | 0, i, e, f + 1, _ => by
    rw [f_X1_howManyInUse_L4, if_pos (show (24 : Int32) ≤ nI i from nI_le (a := 24) (by omega) (by omega)), show i = 24 by omega]
  | d + 1, i, e, f + 1, hf => by
    rw [f_X1_howManyInUse_L4, if_neg (show ¬ (24 : Int32) ≤ nI i from nI_ge (b := 24) (by omega) (by omega)), rat_nI (by omega) (by omega), nI_1]
    have q : nI (ct (fun n => !(L 7 n == 0)) i) + (if L 7 i = 0 then 0 else 1) = nI (ct (fun n => !(L 7 n == 0)) (i + 1)) := by
      rw [ct]
      by_cases h : L 7 i = 0
      · rw [if_pos h, h, Int32.add_zero]; rfl
      · have : (L 7 i == 0) = false := by simpa using h
        rw [if_neg h, this, nI_1]; rfl
    rw [q]
    exact c_use_L L d (i + 1) (by omega) f (by omega)
theorem c_grp_L (L : St) : ∀ (d i : Nat), i + d = 24 → ∀ f, d < f → f_X1_howManyGrouped_L4 L f (nI (ct (fun n => L 7 n == 2) i)) (nI i) = some (nI (ct (fun n => L 7 n == 2) 24))
  | 0, i, e, f + 1, _ => by
    rw [f_X1_howManyGrouped_L4, if_pos (show (24 : Int32) ≤ nI i from nI_le (a := 24) (by omega) (by omega)), show i = 24 by omega]
  | d + 1, i, e, f + 1, hf => by
    rw [f_X1_howManyGrouped_L4, if_neg (show ¬ (24 : Int32) ≤ nI i from nI_ge (b := 24) (by omega) (by omega)), rat_nI (by omega) (by omega), nI_1]
    have q : nI (ct (fun n => L 7 n == 2) i) + (if L 7 i = 2 then 1 else 0) = nI (ct (fun n => L 7 n == 2) (i + 1)) := by
      rw [ct]
      by_cases h : L 7 i = 2
      · rw [if_pos h, h, nI_1]; rfl
      · have : (L 7 i == 2) = false := by simpa using h
        rw [if_neg h, this, Int32.add_zero]; rfl
    rw [q]
    exact c_grp_L L d (i + 1) (by omega) f (by omega)
theorem m_cards_L (h : RM V a L) (x y : Int32) : ∀ (d i : Nat), i + d = 24 → ∀ f, d < f → f_X9_cardsThat_L5 x y (mA M a) f (nI (ct (fun n => !(f_X9_in (L 7 n) x y == 0)) i)) (nI i) = some (nI (ct (fun n => !(f_X9_in (L 7 n) x y == 0)) 24))
  | 0, i, e, f + 1, _ => by
    rw [f_X9_cardsThat_L5, if_pos (show (24 : Int32) ≤ nI i from nI_le (a := 24) (by omega) (by omega)), show i = 24 by omega]
  | d + 1, i, e, f + 1, hf => by
    rw [f_X9_cardsThat_L5, if_neg (show ¬ (24 : Int32) ≤ nI i from nI_ge (b := 24) (by omega) (by omega)), ofN_1 (by omega), bd_some, rm_kind h (by omega), nI_1]
    have q : nI (ct (fun n => !(f_X9_in (L 7 n) x y == 0)) i) + (if f_X9_in (L 7 i) x y = 0 then 0 else 1) = nI (ct (fun n => !(f_X9_in (L 7 n) x y == 0)) (i + 1)) := by
      rw [ct]
      by_cases h : f_X9_in (L 7 i) x y = 0
      · rw [if_pos h, h, Int32.add_zero]; rfl
      · have : (f_X9_in (L 7 i) x y == 0) = false := by simpa using h
        rw [if_neg h, this, nI_1]; rfl
    rw [q]
    exact m_cards_L h x y d (i + 1) (by omega) f (by omega)
def inUse (L : St) : Nat := ct (fun n => !(L 7 n == 0)) 24
def inGrp (L : St) : Nat := ct (fun n => L 7 n == 2) 24
theorem c_inUse (L : St) : f_X1_howManyInUse L = some (nI (inUse L)) := c_use_L L 24 0 (by omega) 5000 (by omega)
theorem c_inGrp (L : St) : f_X1_howManyGrouped L = some (nI (inGrp L)) := c_grp_L L 24 0 (by omega) 5000 (by omega)
theorem m_inUse (h : RM V a L) (hc : wfC L) : f_X9_cardsThat (mA M a) 1 3 = some (nI (inUse L)) := by
  refine (m_cards_L (M := M) h 1 3 24 0 (by omega) 5000 (by omega)).trans ?_
  have e : ct (fun n => !(f_X9_in (L 7 n) 1 3 == 0)) 24 = inUse L := ct_cong (fun n hn => by
    show (!(f_X9_in (L 7 n) 1 3 == 0)) = (!(L 7 n == 0))
    rcases kinds hc hn with q | q | q | q <;> rw [q] <;> decide)
  rw [e]
theorem m_inGrp (h : RM V a L) (hc : wfC L) : f_X9_cardsThat (mA M a) 2 2 = some (nI (inGrp L)) := by
  refine (m_cards_L (M := M) h 2 2 24 0 (by omega) 5000 (by omega)).trans ?_
  have e : ct (fun n => !(f_X9_in (L 7 n) 2 2 == 0)) 24 = inGrp L := ct_cong (fun n hn => by
    show (!(f_X9_in (L 7 n) 2 2 == 0)) = (L 7 n == 2)
    rcases kinds hc hn with q | q | q | q <;> rw [q] <;> decide)
  rw [e]
theorem ct_none {p : Nat → Bool} : ∀ {n : Nat}, ct p n = 0 → ∀ k, k < n → p k = false
  | 0, _, k, hk => absurd hk (Nat.not_lt_zero k)
  | n + 1, h, k, hk => by
    rw [ct] at h
    by_cases e : k = n
    · subst e
      cases hp : p k
      · rfl
      · rw [hp] at h; simp at h
    · exact ct_none (n := n) (by omega) k (by omega)
theorem inv_set (w : Inv 24 L) {s : Nat} {x : Int32} (hT : wfT (sp L 2 s x)) (hU : s = 1 → ∀ n, n < 24 → L 7 n = 0) : Inv 24 (sp L 2 s x) := by
  obtain ⟨w1, w2, w3, w4, w5, w6, w7⟩ := w
  have hR : ∀ k, shR k = true → sp L 2 s x k = L k := shR_sp rfl
  have e : ∀ k, k ≠ 2 → sp L 2 s x k = L k := fun k hk => sp_row' _ _ _ hk
  refine ⟨hT, wfC_same (e 7 (by decide)) (e 9 (by decide)) w2, wfS_same hR w3, wfH_same hR (e 20 (by decide)) w4, ?_, ?_, ?_⟩
  · intro n hn hne h3
    rw [e 7 (by decide)] at h3
    obtain ⟨o, ho, q, v, hv⟩ := w5 n hn hne h3
    exact ⟨o, ho, by rw [e 9 (by decide)]; exact q, v, (cp_same hR).mpr hv⟩
  · intro n hn r hr v hv
    rw [e 7 (by decide), e 9 (by decide)]
    exact w6 n hn r hr v ((cp_same hR).mp hv)
  · intro n hn r hr hh
    have q := w7 n hn r hr ((hasC_same hR).mp hh)
    by_cases hs : s = 1
    · exfalso
      have h0 := hU hs n hn
      unfold calP at q
      rw [if_neg (by rw [h0]; decide), (w2 n hn).2.2 h0, b_0] at q
      cases q
    · have e21 : sp L 2 s x 2 1 = L 2 1 := by rw [sp_at, if_neg (fun g => hs g.2.symm)]
      unfold calP num at q ⊢
      rw [e 7 (by decide), e 9 (by decide), e21]
      exact q
theorem op_set (g : Sim a L) {s : Nat} {x : Int32} (hs : s < 4) (hT : wfT (sp L 2 s x)) (hU : s = 1 → ∀ n, n < 24 → L 7 n = 0) : Sim (upd a s x) (sp L 2 s x) := by
  have q : RM (True, a) (upd a (pos 2 s) x) (sp L 2 s x) := rm_sp g.1 (by decide) (show s < 4 from hs) (fun _ => rfl)
  exact sim_of g.2.2 q (inv_set g.2.1 hT hU) (fun k hk => sp_row' _ _ _ (ac_n hk).2.2.2.2.2.2.2.2.2.2.2.2.2)
theorem wfT_set (w : wfT L) {s v : Nat} (hs : s < 4) (h : (s = 0 → v ≤ 4) ∧ (s = 1 → 1 ≤ v ∧ v ≤ 8) ∧ (s = 2 → 1 ≤ v ∧ v ≤ 8) ∧ (s = 3 → v ≤ 1)) : wfT (sp L 2 s (nI v)) := by
  have e : ∀ j, sp L 2 s (nI v) 2 j = if j = s then nI v else L 2 j := fun j => by rw [sp_row, upd_at]
  have v8 : v ≤ 8 := by omega
  have key : ∀ j b lo : Nat, isN L 2 j b → lo ≤ num L 2 j → (s = j → v ≤ b ∧ lo ≤ v) → isN (sp L 2 s (nI v)) 2 j b ∧ lo ≤ num (sp L 2 s (nI v)) 2 j := by
    intro j b lo g1 g2 g3
    by_cases q : j = s
    · have ee : sp L 2 s (nI v) 2 j = nI v := by rw [e, if_pos q]
      have := g3 q.symm
      exact ⟨isN_of (by omega) this.1 ee, by rw [nI_len (by omega) ee]; exact this.2⟩
    · unfold isN num at g1 ⊢
      unfold num at g2
      rw [e, if_neg q]
      exact ⟨g1, g2⟩
  obtain ⟨t0, t1, t1', t2, t2', t3⟩ := w
  have k0 := key 0 4 0 t0 (Nat.zero_le _) (fun q => ⟨h.1 q, Nat.zero_le _⟩)
  have k1 := key 1 8 1 t1 t1' (fun q => ⟨(h.2.1 q).2, (h.2.1 q).1⟩)
  have k2 := key 2 8 1 t2 t2' (fun q => ⟨(h.2.2.1 q).2, (h.2.2.1 q).1⟩)
  have k3 := key 3 1 0 t3 (Nat.zero_le _) (fun q => ⟨h.2.2.2 q, Nat.zero_le _⟩)
  exact ⟨k0.1, k1.1, k1.2, k2.1, k2.2, k3.1⟩
/-- a value between two bounds, by both -/
theorem in_cases (x : Int32) (lo hi : Nat) (h : hi < 2 ^ 30) : (f_X9_in x (nI lo) (nI hi) = 0 ∧ (x < nI lo ∨ (¬ x < nI lo ∧ nI hi < x))) ∨ (f_X9_in x (nI lo) (nI hi) = 1 ∧ ¬ x < nI lo ∧ ¬ nI hi < x) := by
  unfold f_X9_in
  by_cases h1 : x < nI lo
  · rw [if_pos h1]; exact Or.inl ⟨rfl, Or.inl h1⟩
  · by_cases h2 : nI hi < x
    · rw [if_neg h1, if_pos h2]; exact Or.inl ⟨rfl, Or.inr ⟨h1, h2⟩⟩
    · rw [if_neg h1, if_neg h2]; exact Or.inr ⟨rfl, h1, h2⟩
theorem in_val {x : Int32} {lo hi : Nat} (h : hi < 2 ^ 30) (hl : lo ≤ hi) (h1 : ¬ x < nI lo) (h2 : ¬ nI hi < x) : ∃ v, lo ≤ v ∧ v ≤ hi ∧ x = nI v := by
  rw [Int32.lt_iff_toInt_lt, nI_toInt (by omega)] at h1 h2
  have h0 : ¬ x < 0 := fun q => by
    rw [Int32.lt_iff_toInt_lt] at q
    have : (0 : Int32).toInt = 0 := by decide
    omega
  obtain ⟨j, hj, rfl⟩ := nI_of h0
  rw [nI_toInt hj] at h1 h2
  exact ⟨j, by omega, by omega, rfl⟩
def lowOf (s : Nat) : Nat := if s = 0 then 0 else if s = 1 then 1 else if s = 2 then 1 else 0
def highOf (s : Nat) : Nat := if s = 0 then 4 else if s = 3 then 1 else 8
theorem c_isValue (x : Int32) {s : Nat} (hs : s < 4) : f_X8_isValueOf (nI s) x = some (if f_X9_in x (nI (lowOf s)) (nI (highOf s)) = 0 then 0 else 1) := by
  unfold f_X8_isValueOf f_X9_in
  rw [if_neg (nI_pos (by omega)), if_neg (show ¬ (4 : Int32) ≤ nI s from nI_ge (b := 4) hs (by omega)), if_neg (show ¬ (4 : Int32) ≤ nI s from nI_ge (b := 4) hs (by omega)), ix_ok hs (by omega), cl_n (by omega), ix_ok hs (by omega)]
  have e1 : fLow s = nI (lowOf s) := by
    rcases (show s = 0 ∨ s = 1 ∨ s = 2 ∨ s = 3 by omega) with rfl | rfl | rfl | rfl <;> rfl
  have e2 : fHigh s = nI (highOf s) := by
    rcases (show s = 0 ∨ s = 1 ∨ s = 2 ∨ s = 3 by omega) with rfl | rfl | rfl | rfl <;> rfl
  rw [e1, e2]
  by_cases h1 : x < nI (lowOf s)
  · rw [if_pos h1, if_pos h1, if_pos rfl]
  · by_cases h2 : nI (highOf s) < x
    · rw [if_neg h1, if_pos h2, if_neg h1, if_pos h2, if_pos rfl]
    · rw [if_neg h1, if_neg h2, if_neg h1, if_neg h2, if_neg d10]
/-- keeping, then writing a setting -/
theorem set_end (h : Rel G) {s v : Nat} (hs : s < 4) (h1 : lowOf s ≤ v) (h2 : v ≤ highOf s) (hU : s = 1 → ∀ n, n < 24 → G 2 7 n = 0) : Wop (bd (f_X2_keep G) (fun S5 => bnd (rwr 4 (S5 2) 2 (nI s) (nI v)) (fun S6 => some (rat 4 ((S5 2) 2) (nI s), va_up S5 2 S6)))) (bd (f_X9_keep (G 1)) (fun S1 => ix (nI s) 652 (ix (nI s) 652 (bnd (sp S1 1 (nI s).toNatClampNeg (nI v)) (fun S2 => some (S1 1 (nI s).toNatClampNeg, S2)))))) Rel G := by
  obtain ⟨G', M', k1, k2, k3, k4, k5, k6, k7, k8, k9, k10⟩ := keep_ok h
  have hT : wfT (sp (G 2) 2 s (nI v)) := by
    refine wfT_set h.1.2.1.1 hs ?_
    unfold lowOf at h1
    unfold highOf at h2
    refine ⟨fun q => ?_, fun q => ?_, fun q => ?_, fun q => ?_⟩ <;> subst q <;> simp at h1 h2 <;> omega
  have o := op_set h.1 hs hT hU
  have e : sp M' 1 s (nI v) = mA M' (upd (G 1 1) s (nI v)) := by rw [sp_up, k4]; rfl
  refine wop_fr (r := G 2 2 s) (G1 := va_up G' 2 (sp (G 2) 2 s (nI v))) (M1 := mA M' (upd (G 1 1) s (nI v))) ?_ ?_ (fr_lib ⟨k6, k9, k7, k8⟩) (rl_lib k3 o)
  · rw [k1, bd_some, k5, bnd_e, rwr_nI hs (by omega), rat_nI hs (by omega)]
  · rw [k2, bd_some, ix_l _ (by omega), ix_l _ (by omega), cl_n (by omega), bnd_e, e, k4]
    have : G 1 1 s = G 2 2 s := rm_at h.1.1 (k := 2) (j := s) (show s < 4 from hs) rfl rfl
    rw [this]
theorem w_set (h : Rel G) (x y : Int32) : Wop (f_X8_set G x y) (f_X9_set (G 1) x y) Rel G := by
  have bad : Wop (some ((-2 : Int32), G)) (some ((-2 : Int32), G 1)) Rel G := wop_of rfl rfl rfl (fun _ => rfl) h
  have bad5 : Wop (some ((-5 : Int32), G)) (some ((-5 : Int32), G 1)) Rel G := wop_of rfl rfl rfl (fun _ => rfl) h
  have out : (x < 0 ∨ nI 4 ≤ x) → Wop (f_X8_set G x y) (f_X9_set (G 1) x y) Rel G := by
    intro hx
    have e1 : f_X8_isValueOf x y = some 0 := by
      unfold f_X8_isValueOf
      by_cases h0 : x < 0
      · rw [if_pos h0]
      · rw [if_neg h0, if_pos (show (4 : Int32) ≤ x from hx.resolve_left h0)]
    have e2 : f_X9_in x 0 3 = 0 := by
      unfold f_X9_in
      by_cases h0 : x < 0
      · rw [if_pos h0]
      · rw [if_neg h0, if_pos (show (3 : Int32) < x from i_lt_of (n := 3) (by omega) (hx.resolve_left h0))]
    unfold f_X8_set f_X9_set
    rw [e1, bd_some, if_pos rfl, e2, if_pos rfl]
    exact bad
  rcases pk_ix x (n := 4) (by omega) with hx | hx | ⟨s, hs, rfl⟩
  · exact out (Or.inl hx)
  · exact out (Or.inr hx)
  · have i1 : f_X9_in (nI s) 0 3 = 1 := by
      unfold f_X9_in
      rw [if_neg (nI_pos (by omega)), if_neg (show ¬ (3 : Int32) < nI s from nI_nlt (a := 3) (by omega) (by omega))]
    have lo : (if nI s = 1 then 1 else (if nI s = 2 then 1 else 0 : Int32) : Int32) = nI (lowOf s) := by
      rcases (show s = 0 ∨ s = 1 ∨ s = 2 ∨ s = 3 by omega) with rfl | rfl | rfl | rfl <;> decide
    have hi : (if nI s = 0 then 4 else (if nI s = 3 then 1 else 8 : Int32) : Int32) = nI (highOf s) := by
      rcases (show s = 0 ∨ s = 1 ∨ s = 2 ∨ s = 3 by omega) with rfl | rfl | rfl | rfl <;> decide
    have hb : lowOf s ≤ highOf s ∧ highOf s < 2 ^ 30 := by
      rcases (show s = 0 ∨ s = 1 ∨ s = 2 ∨ s = 3 by omega) with rfl | rfl | rfl | rfl <;> decide
    have mU := m_inUse (M := G 1) h.1.1 h.1.2.1.2.1
    rw [mA_id] at mU
    have u24 : inUse (G 2) ≤ 24 := ct_le _ _
    unfold f_X8_set f_X9_set
    rw [c_isValue y hs, bd_some, i1, if_neg d10, lo, hi, c_inUse, mU]
    rcases in_cases y (lowOf s) (highOf s) hb.2 with ⟨q1, q2⟩ | ⟨q1, q2, q3⟩
    · rw [q1, if_pos rfl, if_pos rfl]
      exact bad
    · obtain ⟨v, v1, v2, rfl⟩ := in_val hb.2 hb.1 q2 q3
      rw [q1, if_neg d10, if_neg d10, if_neg d10, bd_some, bd_some]
      have nz : inUse (G 2) = 0 → ∀ n, n < 24 → G 2 7 n = 0 := fun q n hn => by
        have := ct_none q n hn
        simpa using this
      have fin := fun hU => set_end h hs v1 v2 hU
      by_cases h0 : s = 0
      · subst h0
        rw [if_pos (show nI 0 = (0 : Int32) from rfl), if_neg (show ¬ (2 : Int32) ≤ nI 0 by decide)]
        by_cases hu : inUse (G 2) = 0
        · rw [hu, if_pos (show nI 0 ≤ (0 : Int32) by decide), if_pos (show nI 0 ≤ (0 : Int32) by decide)]
          exact fin (fun q => absurd q (by omega))
        · rw [if_neg (nI_nle (by omega) (by omega)), if_neg (nI_nle (by omega) (by omega))]
          exact bad5
      · by_cases h1 : s = 1
        · subst h1
          rw [if_neg (show ¬ nI 1 = (0 : Int32) by decide), if_pos (show nI 1 = (1 : Int32) from rfl), if_neg (show ¬ (2 : Int32) ≤ nI 1 by decide)]
          by_cases hu : inUse (G 2) = 0
          · rw [hu, if_pos (show nI 0 ≤ (0 : Int32) by decide), if_pos (show nI 0 ≤ (0 : Int32) by decide)]
            exact fin (fun _ => nz hu)
          · rw [if_neg (nI_nle (by omega) (by omega)), if_neg (nI_nle (by omega) (by omega))]
            exact bad5
        · rw [if_neg (show ¬ nI s = (0 : Int32) from fun q => h0 ((nI_eq (b := 0) (by omega) (by omega)).mp q)), if_neg (show ¬ nI s = (1 : Int32) from fun q => h1 ((nI_eq (b := 1) (by omega) (by omega)).mp q)), if_pos (show (2 : Int32) ≤ nI s from nI_le (a := 2) (by omega) (by omega))]
          exact fin (fun q => absurd q h1)
