variable {V : VB} {L : St} {M : St} {a : FN} {z : Nat} {G : Gs}
/-! ===== the reference tries it out and lays all back ===== -/
def eqM (M M' : St) : Prop := (∀ k, k ≠ 1 → k ≠ 5 → M' k = M k) ∧ ∀ i, i < 652 → M' 1 i = M 1 i
theorem eqM_refl : eqM M M := ⟨fun _ _ _ => rfl, fun _ _ => rfl⟩
theorem eqM_trans {M1 M2 : St} (h : eqM M M1) (g : eqM M1 M2) : eqM M M2 := ⟨fun k h1 h2 => (g.1 k h1 h2).trans (h.1 k h1 h2), fun i hi => (g.2 i hi).trans (h.2 i hi)⟩
theorem eqM_sim {S : St} (h : eqM M S) (g : Sim (M 1) L) : Sim (S 1) L := sim_pt g (fun _ _ _ => rfl) h.2
theorem eqM_rl {S : St} (h : eqM M S) (g : RLG G M) : RLG G S := by
  obtain ⟨h1, h2, h3, h4⟩ := g
  have m : ∀ k, k ≠ 1 → k ≠ 5 → S k = M k := h.1
  exact ⟨eqM_sim h h1, hi_same h2 rfl (by rw [m 0 (by decide) (by decide)]) (by rw [m 0 (by decide) (by decide)]) (m 2 (by decide) (by decide)) (fun _ _ => rfl), sl_same h3 rfl (m 3 (by decide) (by decide)) (m 4 (by decide) (by decide)) (fun _ _ => rfl), pd_same h4 rfl rfl (by rw [m 0 (by decide) (by decide)]) (m 6 (by decide) (by decide))⟩
def asd (M : St) : St := va_up M 5 (blk (M 1) (M 5) 0 0 0)
theorem m_aside (M : St) : f_X9_layAside M = some (asd M) := m_layAside_L2 652 0 (by omega) 5000 (by omega) M
theorem asd_1 : asd M 1 = M 1 := up_ne _ _ (by decide)
theorem m_back (S : St) : f_X9_layBack S = some (va_up S 1 (blk (S 5) (S 1) 0 0 0)) := m_layBack_L2 652 0 (by omega) 5000 (by omega) S
theorem back_eq {a' : FN} : eqM M (va_up (mA (asd M) a') 1 (blk (mA (asd M) a' 5) (mA (asd M) a' 1) 0 0 0)) := by
  refine ⟨fun k h1 h5 => ?_, fun i hi => ?_⟩
  · rw [up_ne _ _ h1, mA_ne _ _ h1]
    exact up_ne _ _ h5
  · rw [up_self, blk_in0 hi, mA_ne _ _ (by decide), Nat.zero_add]
    unfold asd
    rw [up_self, blk_in0 hi, Nat.zero_add]
theorem m_cost (g : Sim (M 1) L) {r n w : Nat} (hr : r < 16) (hn : n < 24) (hw : w < 2) : ∃ M', f_X9_cost M (nI r) (nI n) (nI w) = some (nI (if w = 0 then chCost L r n else waCost L r n), M') ∧ eqM M M' := by
  obtain ⟨a', h1, h2⟩ := m_changes (M := asd M) (x := 0) g.1 g.2.1 hr hn
  rw [ma_row asd_1] at h1
  have e1 : M 1 (4 + w) = L 29 w := rm_v g.1 (k := 29) (j := w) (show w < 3 by omega) rfl trivial
  have e2 : a' (4 + w) = rewS L r n 0 29 w := rm_v h2 (k := 29) (j := w) (show w < 3 by omega) rfl trivial
  obtain ⟨c1, c2⟩ := rew_cost (x := 0) g.2.1 hr hn
  have e3 : rewS L r n 0 29 w - L 29 w = nI (if w = 0 then chCost L r n else waCost L r n) := by
    rcases (show w = 0 ∨ w = 1 by omega) with rfl | rfl
    · rw [c1, add_sub_l]; rfl
    · rw [c2, add_sub_l]; rfl
  refine ⟨_, ?_, back_eq (a' := a')⟩
  unfold f_X9_cost
  rw [m_aside, bd_some, show (4 + nI w : Int32) = nI (4 + w) from nI_add 4 w, ix_l _ (by omega), cl_n (by omega), h1, bdp_some, ix_l _ (by omega), mA_1, asd_1, e1, e2, e3, m_back, bd_some, mA_1]
theorem qop_of {x : Option Int32} {m : Option (Int32 × St)} {r : Int32} {M1 : St} (h : Rel G) (h1 : x = some r) (h2 : m = some (r, M1)) (h3 : eqM (G 1) M1) : Qop x m Rel G := ⟨r, M1, h1, h2, rel_up (eqM_rl h3 h)⟩
theorem w_costR (h : Rel G) (x y : Int32) : Qop (f_X8_costOfReading G x y) (f_X9_costOfReading (G 1) x y) Rel G := by
  unfold f_X8_costOfReading f_X9_costOfReading
  rcases rd_cases x with ⟨q1, q2⟩ | ⟨r, hr, rfl, q1, q2⟩
  · rw [q1, q2, if_pos rfl, if_pos rfl]
    exact qop_of h rfl rfl eqM_refl
  · rw [q1, q2, if_neg d10, if_neg d10]
    rcases nt_cases y with ⟨p1, p2⟩ | ⟨n, hn, rfl, p1, p2⟩
    · rw [p1, p2, if_pos rfl, if_pos rfl]
      exact qop_of h rfl rfl eqM_refl
    · have g := h.1
      obtain ⟨a', v, h1, h2, h3⟩ := m_reads (M := asd (G 1)) g.1 g.2.1 hr hn
      rw [ma_row asd_1] at h1
      have e1 : G 1 1 4 = G 2 29 0 := rm_v g.1 (k := 29) (j := 0) (show 0 < 3 by omega) rfl trivial
      have e2 : a' 4 = lendS (G 2) r n 29 0 := rm_v h2 (k := 29) (j := 0) (show 0 < 3 by omega) rfl trivial
      have e3 : lendS (G 2) r n 29 0 - G 2 29 0 = nI (rdCost (G 2) r n) := by rw [lend_cost g.2.1 hr hn, add_sub_l]
      rw [p1, p2, if_neg d10, if_neg d10, c_mRead g.2.1 hr hn, bd_some]
      refine qop_of h rfl ?_ (back_eq (a' := a'))
      rw [m_aside, bd_some, ix_4, h1, bdp_some, ix_4, cl_4, mA_1, asd_1, e1, e2, e3, m_back, bd_some, mA_1]
theorem w_costC (h : Rel G) (x y u : Int32) : Qop (f_X8_costOfChange G x y u) (f_X9_costOfChange (G 1) x y u) Rel G := by
  unfold f_X8_costOfChange f_X9_costOfChange
  rcases rd_cases x with ⟨q1, q2⟩ | ⟨r, hr, rfl, q1, q2⟩
  · rw [q1, q2, if_pos rfl, if_pos rfl]
    exact qop_of h rfl rfl eqM_refl
  · rw [q1, q2, if_neg d10, if_neg d10]
    rcases nt_cases y with ⟨p1, p2⟩ | ⟨n, hn, rfl, p1, p2⟩
    · rw [p1, p2, if_pos rfl, if_pos rfl]
      exact qop_of h rfl rfl eqM_refl
    · rw [p1, p2, if_neg d10, if_neg d10, c_mChange h.1.2.1 hr hn, c_mWaste h.1.2.1 hr hn, bd_some, bd_some]
      by_cases u0 : u = 0
      · subst u0
        obtain ⟨M', k1, k2⟩ := m_cost (w := 0) h.1 hr hn (by omega)
        have k1' : f_X9_cost (G 1) (nI r) (nI n) 0 = _ := k1
        rw [if_pos rfl, show f_X9_in 0 0 1 = 1 by decide, if_neg d10, k1', bdp_some]
        exact qop_of h rfl rfl k2
      · by_cases u1 : u = 1
        · subst u1
          obtain ⟨M', k1, k2⟩ := m_cost (w := 1) h.1 hr hn (by omega)
          have k1' : f_X9_cost (G 1) (nI r) (nI n) 1 = _ := k1
          rw [if_neg d10, if_pos rfl, show f_X9_in 1 0 1 = 1 by decide, if_neg d10, k1', bdp_some]
          exact qop_of h rfl rfl k2
        · have iu : f_X9_in u 0 1 = 0 := by
            rcases in_cases u 0 1 (by omega) with ⟨q, _⟩ | ⟨_, g1, g2⟩
            · exact q
            · exfalso
              obtain ⟨v, _, hv, rfl⟩ := in_val (by omega) (by omega) g1 g2
              rcases (show v = 0 ∨ v = 1 by omega) with rfl | rfl
              · exact u0 rfl
              · exact u1 rfl
          rw [if_neg u0, if_neg u1, iu, if_pos rfl]
          exact qop_of h rfl rfl eqM_refl
/-! the cheapest -/
theorem cheap_L (h : Rel G) {n : Nat} (hn : n < 24) : ∀ (d i : Nat), i + d = 16 → ∀ f, d < f → ∀ (x2 x3 : Int32) (S : St), eqM (G 1) S → ∃ v S', f_X8_cheapest_L24 (nI n) G f x2 x3 (nI i) = some v ∧ f_X9_cheapest_L22 (nI n) f x2 x3 (nI i) S = some (v, S') ∧ eqM (G 1) S'
  | 0, i, e, f + 1, _, x2, x3, S, hS => by
    rw [f_X8_cheapest_L24, f_X9_cheapest_L22, if_pos (show (16 : Int32) ≤ nI i from nI_le (a := 16) (by omega) (by omega)), if_pos (show (16 : Int32) ≤ nI i from nI_le (a := 16) (by omega) (by omega))]
    exact ⟨_, _, rfl, rfl, hS⟩
  | d + 1, i, e, f + 1, hf, x2, x3, S, hS => by
    obtain ⟨M', k1, k2⟩ := m_cost (w := 0) (r := i) (eqM_sim hS h.1) (by omega) hn (by omega)
    have k1' : f_X9_cost S (nI i) (nI n) 0 = _ := k1
    rw [f_X8_cheapest_L24, f_X9_cheapest_L22, if_neg (show ¬ (16 : Int32) ≤ nI i from nI_ge (b := 16) (by omega) (by omega)), if_neg (show ¬ (16 : Int32) ≤ nI i from nI_ge (b := 16) (by omega) (by omega)), c_mChange h.1.2.1 (by omega) hn, bd_some, k1', bdp_some, nI_1]
    exact cheap_L h hn d (i + 1) (by omega) f (by omega) _ _ M' (eqM_trans hS k2)
theorem w_cheapest (h : Rel G) (x : Int32) : Qop (f_X8_cheapest G x) (f_X9_cheapest (G 1) x) Rel G := by
  unfold f_X8_cheapest f_X9_cheapest
  rcases nt_cases x with ⟨p1, p2⟩ | ⟨n, hn, rfl, p1, p2⟩
  · rw [p1, p2, if_pos rfl, if_pos rfl]
    exact qop_of h rfl rfl eqM_refl
  · obtain ⟨M', k1, k2⟩ := m_cost (w := 0) (r := 0) h.1 (by omega) hn (by omega)
    have k1' : f_X9_cost (G 1) 0 (nI n) 0 = _ := k1
    have c1 : f_X3_messagesToChange (G 2) 0 (nI n) = _ := c_mChange (r := 0) h.1.2.1 (by omega) hn
    rw [p1, p2, if_neg d10, if_neg d10, c1, bd_some, k1', bdp_some]
    obtain ⟨v, S', v1, v2, v3⟩ := cheap_L h hn 15 1 (by omega) 5000 (by omega) 0 (nI (chCost (G 2) 0 n)) M' k2
    exact qop_of h v1 v2 v3
/-! the loudest -/
def sil (L : St) (n : Nat) : Int32 := cal L n &&& (L 20 n ^^^ (-1))
theorem hi_sil {n : Nat} : ∀ i, 16 ≤ i → i < 32 → bt (sil L n) i = false := hi_and hi_cal
theorem wa_sil {r n : Nat} (hr : r < 16) : waCost L r n = if bt (sil L n) r then cnt (sil L n) - 1 else cnt (sil L n) := by
  have e := ct_upd (bt (sil L n)) false (i := r) (n := 16) hr
  have e2 : waCost L r n = ct (fun k => if k = r then false else bt (sil L n) k) 16 := ct_cong (fun k hk => by
    unfold sil
    rw [b_and, bt_oth (by omega) (by omega), b_and]
    by_cases q : k = r
    · simp [q]
    · simp [q])
  rw [e2]
  unfold cnt
  by_cases hb : bt (sil L n) r = true
  · rw [if_pos hb]
    rw [hb, if_pos rfl, if_neg (show ¬ false = true by decide)] at e
    omega
  · rw [if_neg hb]
    have hb' : bt (sil L n) r = false := by simpa using hb
    rw [hb'] at e
    simpa using e
def fwN (L : St) (n : Nat) : Nat := cnt (sil L n) - 1
theorem c_few (w : Inv 24 L) {n : Nat} (hn : n < 24) : f_X3_fewestWasted L (nI n) = some (nI (fwN L n)) := by
  have e1 : f_J6_bitCount_0f7a4 (cal L n &&& (L 20 n ^^^ (-1))) = nI (cnt (sil L n)) := bitCount_cnt hi_sil
  have := cnt_le (sil L n)
  unfold f_X3_fewestWasted
  rw [c_called w.1 w.2.1 hn, bd_some, rat_nI hn (by omega), e1]
  unfold fwN
  by_cases h : cnt (sil L n) = 0
  · rw [h, if_pos (show nI 0 ≤ (0 : Int32) by decide)]; rfl
  · rw [if_neg (nI_nle (by omega) (by omega)), show nI (cnt (sil L n)) - 1 = nI (cnt (sil L n) - 1) from pk_sub (b := 1) (by omega)]
theorem few_L (h : Rel G) {n : Nat} (hn : n < 24) : ∀ (d i : Nat), i + d = 16 → ∀ f, d < f → ∀ (S : St), eqM (G 1) S → ∃ S', f_X9_fewestWasted_L10 (nI n) f (nI (if ct (bt (sil (G 2) n)) i = 0 then cnt (sil (G 2) n) else fwN (G 2) n)) (nI i) S = some (nI (fwN (G 2) n), S') ∧ eqM (G 1) S'
  | 0, i, e, f + 1, _, S, hS => by
    rw [f_X9_fewestWasted_L10, if_pos (show (16 : Int32) ≤ nI i from nI_le (a := 16) (by omega) (by omega))]
    refine ⟨S, ?_, hS⟩
    have : i = 16 := by omega
    subst this
    have e2 : ct (bt (sil (G 2) n)) 16 = cnt (sil (G 2) n) := rfl
    rw [e2]
    by_cases q : cnt (sil (G 2) n) = 0
    · rw [if_pos q]
      unfold fwN
      rw [q]
    · rw [if_neg q]
  | d + 1, i, e, f + 1, hf, S, hS => by
    have c16 := cnt_le (sil (G 2) n)
    rw [f_X9_fewestWasted_L10, if_neg (show ¬ (16 : Int32) ≤ nI i from nI_ge (b := 16) (by omega) (by omega))]
    by_cases hm : (if ct (bt (sil (G 2) n)) i = 0 then cnt (sil (G 2) n) else fwN (G 2) n) = 0
    · rw [hm, if_pos (show nI 0 ≤ (0 : Int32) by decide)]
      refine ⟨S, ?_, hS⟩
      have : fwN (G 2) n = 0 := by
        unfold fwN at hm ⊢
        split at hm <;> omega
      rw [this]
    · have hb : (if ct (bt (sil (G 2) n)) i = 0 then cnt (sil (G 2) n) else fwN (G 2) n) ≤ 16 := by
        unfold fwN
        split <;> omega
      obtain ⟨M', k1, k2⟩ := m_cost (w := 1) (r := i) (eqM_sim hS h.1) (by omega) hn (by omega)
      have k1' : f_X9_cost S (nI i) (nI n) 1 = some (nI (waCost (G 2) i n), M') := k1
      rw [if_neg (nI_nle (by omega) (by omega)), k1', bdp_some, nI_1]
      have st : (if nI (if ct (bt (sil (G 2) n)) i = 0 then cnt (sil (G 2) n) else fwN (G 2) n) ≤ nI (waCost (G 2) i n) then nI (if ct (bt (sil (G 2) n)) i = 0 then cnt (sil (G 2) n) else fwN (G 2) n) else nI (waCost (G 2) i n)) = nI (if ct (bt (sil (G 2) n)) (i + 1) = 0 then cnt (sil (G 2) n) else fwN (G 2) n) := by
        have ei : ct (bt (sil (G 2) n)) (i + 1) = ct (bt (sil (G 2) n)) i + (if bt (sil (G 2) n) i then 1 else 0) := rfl
        have wl : waCost (G 2) i n ≤ 16 := cnt_le _
        rw [ei, wa_sil (by omega)]
        rw [wa_sil (by omega)] at wl
        unfold fwN
        by_cases b : bt (sil (G 2) n) i = true
        · rw [if_pos b, if_pos b, if_neg (show ¬ ct (bt (sil (G 2) n)) i + 1 = 0 by omega)]
          by_cases c0 : ct (bt (sil (G 2) n)) i = 0
          · rw [if_pos c0]
            rw [if_pos c0] at hm
            rw [if_neg (nI_ge (by omega) (by omega))]
          · rw [if_neg c0]
            split <;> rfl
        · rw [if_neg b, if_neg b, Nat.add_zero]
          by_cases c0 : ct (bt (sil (G 2) n)) i = 0
          · rw [if_pos c0]
            split <;> rfl
          · rw [if_neg c0, if_pos (nI_le (by omega) (by omega))]
      rw [st]
      exact few_L h hn d (i + 1) (by omega) f (by omega) M' (eqM_trans hS k2)
theorem m_few (h : Rel G) {n : Nat} (hn : n < 24) {S : St} (hS : eqM (G 1) S) : ∃ S', f_X9_fewestWasted S (nI n) = some (nI (fwN (G 2) n), S') ∧ eqM (G 1) S' := by
  obtain ⟨M', k1, k2⟩ := m_cost (w := 1) (r := 0) (eqM_sim hS h.1) (by omega) hn (by omega)
  have k1' : f_X9_cost S 0 (nI n) 1 = some (nI (waCost (G 2) 0 n), M') := k1
  unfold f_X9_fewestWasted
  rw [k1', bdp_some]
  have e : waCost (G 2) 0 n = if ct (bt (sil (G 2) n)) 1 = 0 then cnt (sil (G 2) n) else fwN (G 2) n := by
    rw [wa_sil (by omega), show ct (bt (sil (G 2) n)) 1 = 0 + (if bt (sil (G 2) n) 0 then 1 else 0) from rfl]
    cases bt (sil (G 2) n) 0 <;> rfl
  rw [e]
  exact few_L h hn 15 1 (by omega) 5000 (by omega) M' (eqM_trans hS k2)
theorem loud_L (h : Rel G) {x1 : Int32} {kc : Int32 → Int32 → Int32 → Option Int32} {km : Int32 → Int32 → Int32 → St → Option (Int32 × St)} (hk : ∀ x2 x3 x4 S, eqM (G 1) S → (x2 = -6 ∨ ∃ j, j < 24 ∧ x2 = nI j) → ∃ v, kc x2 x3 x4 = some v ∧ km x2 x3 x4 S = some (v, S)) : ∀ (d i : Nat), i + d = 24 → ∀ f, d < f → ∀ (x2 x3 : Int32) (S : St), eqM (G 1) S → (x2 = -6 ∨ ∃ j, j < 24 ∧ x2 = nI j) → ∃ v S', f_X8_loudest_L20 x1 G kc f x2 x3 (nI i) = some v ∧ f_X9_loudest_L20 x1 km f x2 x3 (nI i) S = some (v, S') ∧ eqM (G 1) S'
  | 0, i, e, f + 1, _, x2, x3, S, hS, hx => by
    rw [f_X8_loudest_L20, f_X9_loudest_L20, if_pos (show (24 : Int32) ≤ nI i from nI_le (a := 24) (by omega) (by omega)), if_pos (show (24 : Int32) ≤ nI i from nI_le (a := 24) (by omega) (by omega))]
    obtain ⟨v, v1, v2⟩ := hk x2 x3 (nI i) S hS hx
    exact ⟨v, S, v1, v2, hS⟩
  | d + 1, i, e, f + 1, hf, x2, x3, S, hS, hx => by
    obtain ⟨S', k1, k2⟩ := m_few h (n := i) (by omega) hS
    rw [f_X8_loudest_L20, f_X9_loudest_L20, if_neg (show ¬ (24 : Int32) ≤ nI i from nI_ge (b := 24) (by omega) (by omega)), if_neg (show ¬ (24 : Int32) ≤ nI i from nI_ge (b := 24) (by omega) (by omega)), c_few h.1.2.1 (by omega), bd_some, k1, bdp_some, nI_1]
    refine loud_L h hk d (i + 1) (by omega) f (by omega) _ _ S' k2 ?_
    split
    · exact hx
    · exact Or.inr ⟨i, by omega, rfl⟩
theorem w_loudest (h : Rel G) (x : Int32) : Qop (f_X8_loudest G x) (f_X9_loudest (G 1) x) Rel G := by
  unfold f_X8_loudest f_X9_loudest
  have hk : ∀ x2 x3 x4 S, eqM (G 1) S → (x2 = -6 ∨ ∃ j, j < 24 ∧ x2 = nI j) → ∃ v, (fun (x2_56 : Int32) (x3_56 : Int32) (x4_56 : Int32) => if x2_56 = (-6) then (some x2_56) else (if x = 0 then (some x2_56) else (some x3_56))) x2 x3 x4 = some v ∧ (fun (x2_67 : Int32) (x3_67 : Int32) (x4_67 : Int32) (S_67 : St) => if x2_67 < 0 then (some (x2_67, S_67)) else (if x = 0 then (some (x2_67, S_67)) else (some (x3_67, S_67)))) x2 x3 x4 S = some (v, S) := by
    intro x2 x3 x4 S _ hx
    dsimp only
    rcases hx with rfl | ⟨j, hj, rfl⟩
    · rw [if_pos rfl, if_pos (show (-6 : Int32) < 0 by decide)]
      exact ⟨_, rfl, rfl⟩
    · rw [if_neg (m6_ne (by omega)), if_neg (nI_pos (by omega))]
      split
      · exact ⟨_, rfl, rfl⟩
      · exact ⟨_, rfl, rfl⟩
  obtain ⟨v, S', v1, v2, v3⟩ := loud_L h (x1 := x) hk 24 0 (by omega) 5000 (by omega) (-6) 0 (G 1) eqM_refl (Or.inl rfl)
  have v1' : f_X8_loudest_L20 x G (fun (x2_56 : Int32) (x3_56 : Int32) (x4_56 : Int32) => if x2_56 = (-6) then (some x2_56) else (if x = 0 then (some x2_56) else (some x3_56))) 5000 (-6) 0 0 = some v := v1
  by_cases u0 : x = 0
  · rw [if_pos u0, v1', show f_X9_in x 0 1 = 1 by rw [u0]; decide, if_neg d10]
    exact qop_of h rfl v2 v3
  · by_cases u1 : x = 1
    · rw [if_neg u0, if_pos u1, v1', show f_X9_in x 0 1 = 1 by rw [u1]; decide, if_neg d10]
      exact qop_of h rfl v2 v3
    · have iu : f_X9_in x 0 1 = 0 := by
        rcases in_cases x 0 1 (by omega) with ⟨q, _⟩ | ⟨_, g1, g2⟩
        · exact q
        · exfalso
          obtain ⟨v, _, hv, rfl⟩ := in_val (by omega) (by omega) g1 g2
          rcases (show v = 0 ∨ v = 1 by omega) with rfl | rfl
          · exact u0 rfl
          · exact u1 rfl
      rw [if_neg u0, if_neg u1, iu, if_pos rfl]
      exact qop_of h rfl rfl eqM_refl
