variable {V : VB} {L : St} {M : St} {a : FN} {z : Nat}
/-! ===== a reader changes a note ===== -/
def isOwn (L : St) (r n : Nat) : Bool := L 7 n == 3 && bt (L 9 n) r
theorem c_isOwn {r n : Nat} (hr : r < 32) (hn : n < 24) : f_X1_isOwnedBy L (nI n) (nI r) = if isOwn L r n then 1 else 0 := by
  unfold f_X1_isOwnedBy isOwn
  rw [rat_nI hn (by omega), rat_nI hn (by omega), isIn_bt hr]
  by_cases h : L 7 n = 3
  · rw [if_pos h, h]
    cases bt (L 9 n) r <;> rfl
  · have : (L 7 n == 3) = false := by simpa using h
    rw [if_neg h, this]
    rfl
theorem own_of (w : Inv 24 L) {r n : Nat} (hr : r < 16) (hn : n < 24) (h : isOwn L r n = true) : L 7 n = 3 ∧ L 9 n = only r ∧ hasC L r n := by
  unfold isOwn at h
  rw [Bool.and_eq_true] at h
  have h3 : L 7 n = 3 := by simpa using h.1
  obtain ⟨o, ho, q, v, hv⟩ := w.2.2.2.2.1 n hn (by omega) h3
  have h2 := h.2
  rw [q, bt_onl (by omega) (by omega)] at h2
  have : r = o := of_decide_eq_true h2
  subst this
  exact ⟨h3, q, hasC_cp.mpr ⟨v, 1, hv⟩⟩
theorem inv_weak (w : Inv 24 L) : Inv z L := by
  obtain ⟨w1, w2, w3, w4, w5, w6, w7⟩ := w
  exact ⟨w1, w2, w3, w4, fun n hn _ h3 => w5 n hn (by omega) h3, w6, w7⟩
theorem setC_sp {n k j : Nat} {x y v : Int32} (h7 : k ≠ 7) (h9 : k ≠ 9) : sp (setC L n x y) k j v = setC (sp L k j v) n x y := by
  unfold setC
  rw [sp_comm _ (k := 9) (k' := k) h9.symm, sp_comm _ (k := 7) (k' := k) h7.symm]
theorem setC_id {n : Nat} {x y : Int32} (h7 : L 7 n = x) (h9 : L 9 n = y) : setC L n x y = L := by
  unfold setC
  rw [sp_idv h7, sp_idv h9]
theorem stk_sp {r n k j : Nat} {x : Int32} (h7 : k ≠ 7) (h9 : k ≠ 9) : stk (sp L k j x) r n = sp (stk L r n) k j x := by
  unfold stk
  rw [sp_row' _ _ _ h7.symm, sp_row' _ _ _ h9.symm]
  split
  · rfl
  · rw [setC_sp h7 h9]
theorem gvb_add {r p : Nat} {y : Int32} : gvb (sp L 29 0 (L 29 0 + y)) r p = sp (gvb L r p) 29 0 (gvb L r p 29 0 + y) := by
  have e18 : chd (sp L 29 0 (L 29 0 + y)) r p = chd L r p := by unfold chd; rw [shR_sp rfl 18 rfl]
  have e14 : num (sp L 29 0 (L 29 0 + y)) 14 (8 * r + p) = num L 14 (8 * r + p) := by unfold num; rw [shR_sp rfl 14 rfl]
  have e29 : rmv (gvV L r p) r p 29 = L 29 := by rw [rmv_ne rfl (by decide) (by decide), gvV_ne (by decide)]
  unfold gvb
  rw [e18, e14, sp_row' _ _ _ (show 2 ≠ 29 by decide), gvV_sp rfl (by decide), rmv_sp rfl (by decide)]
  split
  · rw [sp_eq', sp_sp, stk_sp (by decide) (by decide), stk_sp (by decide) (by decide), sp_eq', sp_sp, e29]
    congr 1
    rw [Int32.add_assoc, Int32.add_comm y 1, ← Int32.add_assoc]
  · rw [e29]
theorem mkr_add {r : Nat} {y : Int32} : ∀ (d : Nat) (L : St), mkr (sp L 29 0 (L 29 0 + y)) r d = sp (mkr L r d) 29 0 (mkr L r d 29 0 + y)
  | 0, L => rfl
  | d + 1, L => by rw [mkr, mkr, gvb_add, mkr_add d]
/-- the end of a change: the copy comes to the end with its new value, the reader owns -/
def tailS (S : St) (r n : Nat) (x : Int32) : St := if plc S r n < len S r then setC (usd S r n x 1) n 3 (only r) else setC (lay (mkr S r (len S r + 1 - num S 2 2)) r n x 1) n 3 (only r)
theorem inv_chg0 {S T : St} {r n : Nat} {x : Int32} (w : Inv n S) (hr : r < 16) (hn : n < 24) (wS : wfS T) (wH : wfH T) (t2 : T 2 = S 2) (tC : wfC T) (t7 : ∀ n', n' < 24 → n' ≠ n → T 7 n' = S 7 n') (t9 : ∀ n', n' < 24 → n' ≠ n → T 9 n' = S 9 n') (oth : ∀ r', r' < 16 → r' ≠ r → ¬ hasC S r' n) (ec : ∀ r' n' v c, r' < 16 → n' < 24 → (cp T r' n' v c ↔ (cp S r' n' v c ∧ ¬ (r' = r ∧ n' = n)) ∨ (r' = r ∧ n' = n ∧ v = x ∧ c = 1))) : Inv 24 (setC T n 3 (only r)) := by
  obtain ⟨w1, w2, w3, w4, w5, w6, w7⟩ := w
  refine ⟨wfT_same ((setC_ne (by decide) (by decide)).trans t2) w1, wfC_set (k := 3) tC (by omega) (hi_only hr) (fun q => absurd q (by omega)), wfS_same setC_sh wS, wfH_same setC_sh (setC_ne (by decide) (by decide)) wH, ?_, ?_, ?_⟩
  · intro n' hn' _ h3
    by_cases e : n' = n
    · subst e
      exact ⟨r, hr, by rw [setC_9, if_pos rfl], x, (cp_same setC_sh).mpr ((ec r n' x 1 hr hn).mpr (Or.inr ⟨rfl, rfl, rfl, rfl⟩))⟩
    · rw [setC_7, if_neg e, t7 n' hn' e] at h3
      obtain ⟨o, ho, q, v, hv⟩ := w5 n' hn' e h3
      exact ⟨o, ho, by rw [setC_9, if_neg e, t9 n' hn' e]; exact q, v, (cp_same setC_sh).mpr ((ec o n' v 1 ho hn').mpr (Or.inl ⟨hv, fun q => e q.2⟩))⟩
  · intro n' hn' r' hr' v hv
    rw [setC_7, setC_9]
    rcases (ec r' n' v 1 hr' hn').mp ((cp_same setC_sh).mp hv) with q | q
    · by_cases e : n' = n
      · subst e
        exact absurd (hasC_cp.mpr ⟨v, 1, q.1⟩) (oth r' hr' (fun g => q.2 ⟨g, rfl⟩))
      · rw [if_neg e, if_neg e, t7 n' hn' e, t9 n' hn' e]
        exact w6 n' hn' r' hr' v q.1
    · rw [if_pos q.2.1, if_pos q.2.1, q.1]
      exact ⟨rfl, rfl⟩
  · intro n' hn' r' hr' hh
    obtain ⟨v, c, hv⟩ := hasC_cp.mp hh
    rcases (ec r' n' v c hr' hn').mp ((cp_same setC_sh).mp hv) with q | q
    · by_cases e : n' = n
      · subst e
        exact absurd (hasC_cp.mpr ⟨v, c, q.1⟩) (oth r' hr' (fun g => q.2 ⟨g, rfl⟩))
      · rw [calP_same (L := S) ((setC_ne (by decide) (by decide)).trans t2) (by rw [setC_7, if_neg e, t7 n' hn' e]) (by rw [setC_9, if_neg e, t9 n' hn' e])]
        exact w7 n' hn' r' hr' (hasC_cp.mpr ⟨v, c, q.1⟩)
    · unfold calP
      rw [setC_7, setC_9, if_pos q.2.1, if_pos q.2.1, if_neg (by decide), q.1, bt_onl (by omega) (by omega)]
      exact decide_eq_true rfl
theorem tail_room {S : St} {r n : Nat} (w : Inv n S) (hr : r < 16) (hn : n < 24) (hno : ¬ hasC S r n) : Inv n (mkr S r (len S r + 1 - num S 2 2)) ∧ ¬ hasC (mkr S r (len S r + 1 - num S 2 2)) r n ∧ len (mkr S r (len S r + 1 - num S 2 2)) r < 8 ∧ mkr S r (len S r + 1 - num S 2 2) 2 = S 2 ∧ ∀ r' v c, r' < 16 → r' ≠ r → (cp (mkr S r (len S r + 1 - num S 2 2)) r' n v c ↔ cp S r' n v c) := by
  have h8 : len S r ≤ 8 := (w.2.2.1 r hr).1.2
  have hR1 := w.1.2.2.2.2.1
  have hR2 := w.1.2.2.2.1.2
  obtain ⟨i1, i2, i3, i4, i5⟩ := mkr_ok hr (by omega) (len S r + 1 - num S 2 2) S w hno (by omega)
  exact ⟨i1, (i4 n hn hno).1, by omega, i3, fun r' v c h1 h2 => i5 r' n v c h1 hn h2⟩
theorem inv_tailS {S : St} {r n : Nat} {x : Int32} (w : Inv n S) (hr : r < 16) (hn : n < 24) (oth : ∀ r', r' < 16 → r' ≠ r → ¬ hasC S r' n) : Inv 24 (tailS S r n x) := by
  unfold tailS
  by_cases hc : plc S r n < len S r
  · rw [if_pos hc]
    have wu := wf_usd (v := x) (c := 1) w.2.2.1 w.2.2.2.1 hr hn hc (Or.inr rfl)
    have u : ∀ {k}, isSh k = false → k ≠ 12 → k ≠ 20 → usd S r n x 1 k = S k := fun h1 h2 h3 => usd_rows h1 h2 h3
    exact inv_chg0 w hr hn wu.1 wu.2 (u rfl (by decide) (by decide)) (wfC_same (u rfl (by decide) (by decide)) (u rfl (by decide) (by decide)) w.2.1) (fun n' _ _ => by rw [u rfl (by decide) (by decide)]) (fun n' _ _ => by rw [u rfl (by decide) (by decide)]) oth (fun r' n' v c h1 h2 => cp_usd w.2.2.1 hr hn hc h1 h2)
  · rw [if_neg hc]
    obtain ⟨i1, i2, i3, i4, i5⟩ := tail_room w hr hn hc
    have oth' : ∀ r', r' < 16 → r' ≠ r → ¬ hasC (mkr S r (len S r + 1 - num S 2 2)) r' n := fun r' h1 h2 q => by
      obtain ⟨v, c, q⟩ := hasC_cp.mp q
      exact oth r' h1 h2 (hasC_cp.mpr ⟨v, c, (i5 r' v c h1 h2).mp q⟩)
    revert i1 i2 i3 oth'
    generalize mkr S r (len S r + 1 - num S 2 2) = K
    intro i1 i2 i3 oth'
    have u : ∀ {k}, isSh k = false → k ≠ 12 → k ≠ 20 → lay K r n x 1 k = K k := fun h1 h2 h3 => lay_ne h1 h2 h3
    refine inv_chg0 (x := x) i1 hr hn (wfS_lay i1.2.2.1 hr hn i3 (Or.inr rfl) i2) (wfH_lay i1.2.2.1 i1.2.2.2.1 hr hn i3) (u rfl (by decide) (by decide)) (wfC_same (u rfl (by decide) (by decide)) (u rfl (by decide) (by decide)) i1.2.1) (fun n' _ _ => by rw [u rfl (by decide) (by decide)]) (fun n' _ _ => by rw [u rfl (by decide) (by decide)]) oth' (fun r' n' v c h1 h2 => ?_)
    rw [cp_lay i1.2.2.1 hr hn i3 h1 h2]
    constructor
    · rintro (q | q)
      · refine Or.inl ⟨q, fun e => i2 ?_⟩
        rw [← e.1, ← e.2]
        exact hasC_cp.mpr ⟨v, c, q⟩
      · exact Or.inr q
    · rintro (q | q)
      · exact Or.inl q.1
      · exact Or.inr q
theorem c_tail {S : St} {r n : Nat} {x b : Int32} (w : Inv n S) (hr : r < 16) (hn : n < 24) : jn (fun (k86 : St → Option (Int32 × St)) => if (f_X7_holds S (nI r) (nI n)) = 0 then (bd (f_X3_makeRoom S (nI r)) (fun S6 => k86 S6)) else (bd (f_X7_placeOf S (nI r) (nI n)) (fun y7 => bd (f_X7_remove S (nI r) y7) (fun S8 => k86 S8)))) (fun (S_86 : St) => bnd (f_X7_lay S_86 (nI r) (nI n) x 1) (fun S4 => bnd (f_X1_become S4 (nI n) 3 (f_X8_only (nI r))) (fun S5 => some ((rat 3 (S5 29) 0) - b, S5)))) = some (tailS S r n x 29 0 - b, tailS S r n x) := by
  have hl := (w.2.2.1 r hr).1
  have h8 : len S r ≤ 8 := hl.2
  rw [jn_e, holds_n w.2.2.2.1 hr hn]
  unfold tailS
  have r3 : ∀ X : St, rat 3 (X 29) 0 = X 29 0 := fun X => rat_nI (j := 0) (by omega) (by omega)
  by_cases hc : plc S r n < len S r
  · have wR := (wfS_rmv w.2.2.1 hr hc r hr).1
    have e8 : len (rmv S r (plc S r n)) r < 8 := by rw [rmv_len hl hc, if_pos rfl]; omega
    rw [if_pos hc, if_neg (by decide), if_pos hc, c_placeOf hr hl, if_pos hc, bd_some, c_remove hr hl hc ((w.2.2.1 r hr).2.1 _ hc).1, bd_some]
    dsimp only
    rw [bnd_e, c_lay hr hn wR e8, if_neg (by decide), bnd_e, c_become hn, r3, only_c]
    rfl
  · obtain ⟨i1, i2, i3, i4, i5⟩ := tail_room w hr hn hc
    rw [if_neg hc, if_pos rfl, if_neg hc, c_makeRoom w hr (by omega) hc, bd_some]
    dsimp only
    rw [bnd_e, c_lay hr hn (i1.2.2.1 r hr).1 i3, if_neg (by decide), bnd_e, c_become hn, r3, only_c]
/-- after calling the note back from all but the reader -/
def chB (L : St) (r n : Nat) : St := cbk n (cal L n) (nI r) (if L 7 n = 2 then 1 else 0) 16 0 (rd1 L r)
def chC (L : St) (r n : Nat) : St := sp (chB L r n) 29 0 (chB L r n 29 0 + 2)
def rewS (L : St) (r n : Nat) (x : Int32) : St := if isOwn L r n then tailS (rdU L r) r n x else tailS (chC L r n) r n x
theorem chB_ok (w : Inv 24 L) {r n : Nat} (hr : r < 16) (hn : n < 24) : Inv n (chB L r n) ∧ (∀ r', r' < 16 → r' ≠ r → ¬ hasC (chB L r n) r' n) ∧ (hasC (chB L r n) r n ↔ hasC L r n) := by
  have b := inv_back (inv_rd1 w (r := r)) (x2 := nI r) (g := if L 7 n = 2 then 1 else 0) hn
  rw [cal_rd1] at b
  refine ⟨b.1, fun r' hr' hne q => ?_, ?_⟩
  · obtain ⟨v, c, q⟩ := hasC_cp.mp q
    exact hne ((nI_eq (by omega) (by omega)).mp ((b.2 r' v c hr').mp q).2)
  · rw [hasC_cp, hasC_cp]
    constructor
    · rintro ⟨v, c, q⟩
      exact ⟨v, c, (cp_same rd1_sh).mp ((b.2 r v c hr).mp q).1⟩
    · rintro ⟨v, c, q⟩
      exact ⟨v, c, (b.2 r v c hr).mpr ⟨(cp_same rd1_sh).mpr q, rfl⟩⟩
theorem chC_ok (w : Inv 24 L) {r n : Nat} (hr : r < 16) (hn : n < 24) : Inv n (chC L r n) ∧ (∀ r', r' < 16 → r' ≠ r → ¬ hasC (chC L r n) r' n) ∧ (hasC (chC L r n) r n ↔ hasC L r n) := by
  obtain ⟨b1, b2, b3⟩ := chB_ok w hr hn
  have e : ∀ k, shR k = true → chC L r n k = chB L r n k := shR_sp rfl
  exact ⟨inv_sp rfl b1, fun r' h1 h2 q => b2 r' h1 h2 ((hasC_same e).mp q), (hasC_same e).trans b3⟩
theorem rdU_oth (w : Inv 24 L) {r n : Nat} (hr : r < 16) (hn : n < 24) (h : isOwn L r n = true) : ∀ r', r' < 16 → r' ≠ r → ¬ hasC (rdU L r) r' n := fun r' hr' hne q => by
  obtain ⟨o1, o2, o3⟩ := own_of w hr hn h
  have := own_eq w.2.2.2.2.1 w.2.2.2.2.2.2 hr' hn (by omega) ((hasC_same rdU_sh).mp q) o1
  rw [o2] at this
  exact hne (only_inj hr hr' this).symm
theorem inv_rewS (w : Inv 24 L) {r n : Nat} {x : Int32} (hr : r < 16) (hn : n < 24) : Inv 24 (rewS L r n x) := by
  unfold rewS
  cases ho : isOwn L r n
  · obtain ⟨b1, b2, b3⟩ := chC_ok w hr hn
    exact inv_tailS b1 hr hn b2
  · exact inv_tailS (inv_weak (inv_rdU w)) hr hn (rdU_oth w hr hn ho)
theorem c_rewrite (w : Inv 24 L) {r n : Nat} {x : Int32} (hr : r < 16) (hn : n < 24) : f_X3_rewrite L (nI r) (nI n) x = some (rewS L r n x 29 0 - L 29 0, rewS L r n x) := by
  have r3 : ∀ X : St, rat 3 (X 29) 0 = X 29 0 := fun X => rat_nI (j := 0) (by omega) (by omega)
  unfold f_X3_rewrite
  unfold rewS
  cases ho : isOwn L r n
  · have u : f_X1_isOwnedBy L (nI n) (nI r) = 0 := by rw [c_isOwn (by omega) hn, ho]; rfl
    rw [bnd_e, u, c_noteUse hr, jn_e, r3, if_pos (show (0 : Int32) = 0 from rfl), if_pos (show (0 : Int32) = 0 from rfl), if_neg (show ¬ false = true by decide), add0]
    have eU : sp (sp L 35 r (L 35 r + 1)) 37 r (L 37 r) = rd1 L r := by
      rw [sp_idv (by rw [sp_row' _ _ _ (by decide)])]
      rfl
    obtain ⟨b1, b2, b3⟩ := chC_ok w hr hn
    rw [eU, c_callBack (inv_rd1 w) hn, bdp_some, bnd_e, cal_rd1, rd1_irr 7 rfl]
    have e2 : rad 3 (chB L r n) 29 0 2 = chC L r n := rad_nI (j := 0) (by omega) (by omega)
    have e3 : cbk n (cal L n) (nI r) (if L 7 n = 2 then 1 else 0) 16 0 (rd1 L r) = chB L r n := rfl
    rw [e3, e2]
    exact c_tail b1 hr hn
  · have u : f_X1_isOwnedBy L (nI n) (nI r) = 1 := by rw [c_isOwn (by omega) hn, ho]; rfl
    rw [bnd_e, u, c_noteUse hr, jn_e, r3, if_neg (show ¬ (1 : Int32) = 0 by decide), if_neg (show ¬ (1 : Int32) = 0 by decide), if_pos (show true = true from rfl)]
    exact c_tail (inv_weak (inv_rdU w)) hr hn
/-! the reference -/
theorem m_chEnd {S : St} (g : RM V a S) (w : wfS S) {r : Nat} {x b : Int32} (hr : r < 16) (hl : 1 ≤ len S r) : ∃ a', bd (f_X9_ofR (mA M a) (nI r) 0) (fun y4 => bd (f_X9_layC (mA M a) (nI r) (y4 - 1) 1 x) (fun S5 => bd (f_X9_layC S5 (nI r) (y4 - 1) 2 1) (fun S6 => ix 4 652 (some ((S6 1 (4 : Int32).toNatClampNeg) - b, S6))))) = some (S 29 0 - b, mA M a') ∧ RM V a' (sp (sp S 16 (8 * r + (len S r - 1)) x) 18 (8 * r + (len S r - 1)) 1) := by
  have hl' := (w r hr).1
  have h8 : len S r ≤ 8 := hl'.2
  have g1 : RM V (upd a (pos 16 (8 * r + (len S r - 1))) x) (sp S 16 (8 * r + (len S r - 1)) x) := rm_sp g (by decide) (show _ < 128 by omega) (fun _ => rfl)
  have g2 : RM V (upd (upd a (pos 16 (8 * r + (len S r - 1))) x) (pos 18 (8 * r + (len S r - 1))) 1) (sp (sp S 16 (8 * r + (len S r - 1)) x) 18 (8 * r + (len S r - 1)) 1) := rm_sp g1 (by decide) (show _ < 128 by omega) (fun _ => rfl)
  refine ⟨_, ?_, g2⟩
  have e4 := rm_at g2 (k := 29) (j := 0) (by decide) rfl rfl
  rw [sp_row' _ _ _ (by decide), sp_row' _ _ _ (by decide)] at e4
  rw [ofR_0 hr, bd_some, rm_len g hr hl', show nI (len S r) - 1 = nI (len S r - 1) from pk_sub (b := 1) hl, layC_1 hr (by omega), bd_some, layC_2 hr (by omega), bd_some, ix_4, cl_4, mA_1, ← e4]
  rfl
theorem tail_len {S : St} {r n : Nat} {v c : Int32} (w : wfS S) (hr : r < 16) : len (lay S r n v c) r = len S r + 1 := by rw [lay_len (w r hr).1, if_pos rfl]
theorem m_tail {S : St} {r n : Nat} {x b : Int32} (h : RM V a S) (w : Inv n S) (hr : r < 16) (hn : n < 24) : ∃ a', bd (f_X9_placeOf (mA M a) (nI r) (nI n)) (fun y8 => jn (fun (k104 : St → Option (Int32 × St)) => if 0 ≤ y8 then (bd (f_X9_placeOf (mA M a) (nI r) (nI n)) (fun y11 => bd (f_X9_use (mA M a) (nI r) y11) (fun S12 => ix 4 652 (ix 4 652 (bnd (sp S12 1 (4 : Int32).toNatClampNeg ((S12 1 (4 : Int32).toNatClampNeg) + 2)) (fun S13 => k104 S13)))))) else (bd (f_X9_ask (mA M a) (nI r) (nI n)) (fun S14 => k104 S14))) (fun (S_104 : St) => bd (f_X9_layCard S_104 (nI n) 3 ((1 : Int32) <<< (nI r &&& 31))) (fun S10 => bd (f_X9_ofR S10 (nI r) 0) (fun y4 => bd (f_X9_layC S10 (nI r) (y4 - 1) 1 x) (fun S5 => bd (f_X9_layC S5 (nI r) (y4 - 1) 2 1) (fun S6 => ix 4 652 (some ((S6 1 (4 : Int32).toNatClampNeg) - b, S6)))))))) = some (tailS (sp S 29 0 (S 29 0 + 2)) r n x 29 0 - b, mA M a') ∧ RM V a' (tailS (sp S 29 0 (S 29 0 + 2)) r n x) := by
  have hl := (w.2.2.1 r hr).1
  have h8 : len S r ≤ 8 := hl.2
  have s1 : ∀ k, shR k = true → sp S 29 0 (S 29 0 + 2) k = S k := shR_sp rfl
  rw [m_placeOf h hr hl, bd_some, jn_e, show ((1 : Int32) <<< (nI r &&& 31)) = only r from rfl]
  unfold tailS
  rw [plc_same s1, len_same s1]
  by_cases hc : plc S r n < len S r
  · obtain ⟨a2, h2, g2⟩ := m_use (M := M) h w.2.2.1 hr hn hc
    have g3 := rm_add (x := 2) g2 (k := 29) (j := 0) (by decide) (by decide) rfl
    rw [usd_rows rfl (by decide) (by decide), ← usd_sp rfl (by decide)] at g3
    have g4 := rm_card (k := 3) (v := only r) g3 hn
    rw [if_pos hc, if_pos (nI_pos' (by omega)), bd_some, h2, bd_some, ix_4, ix_4, cl_4, mA_1, mA_sp, bnd_e]
    have w1 : wfS (sp S 29 0 (S 29 0 + 2)) := wfS_same s1 w.2.2.1
    have hc1 : hasC (sp S 29 0 (S 29 0 + 2)) r n := (hasC_same s1).mpr hc
    have c01 : S 18 (8 * r + plc S r n) = 0 ∨ S 18 (8 * r + plc S r n) = 1 := cp_c w.2.2.1 hr (cp_of hc)
    have wu := (wf_usd (v := S 16 (8 * r + plc S r n)) w1 (wfH_same s1 (sp_row' _ _ _ (by decide)) w.2.2.2.1) hr hn hc1 c01).1
    have el : len (setC (usd (sp S 29 0 (S 29 0 + 2)) r n (S 16 (8 * r + plc S r n)) (S 18 (8 * r + plc S r n))) n 3 (only r)) r = len (sp S 29 0 (S 29 0 + 2)) r := by rw [len_same setC_sh, usd_len w1 hr hc1]
    obtain ⟨a5, h5, g5⟩ := m_chEnd (M := M) (x := x) (b := b) g4 (wfS_same setC_sh wu) hr (by rw [el, len_same s1]; omega)
    rw [el, setC_sp (by decide) (by decide), setC_sp (by decide) (by decide), usd_twice w1 hr hc1] at g5
    rw [setC_ne (by decide) (by decide), usd_rows rfl (by decide) (by decide)] at h5
    refine ⟨a5, ?_, by rw [if_pos hc]; exact g5⟩
    rw [if_pos hc, setC_ne (by decide) (by decide), usd_rows rfl (by decide) (by decide)]
    rw [cl_4] at h5
    refine Eq.trans ?_ h5
    dsimp only
    rw [show mA M (upd a2 4 (a2 4 + 2)) = mA M (upd a2 (pos 29 0) (a2 (pos 29 0) + 2)) from rfl, layCard_a hn, bd_some]
  · obtain ⟨a2, h2, g2⟩ := m_ask (M := M) h w hr hn (by omega) hc
    obtain ⟨i1, i2, i3, i4, i5⟩ := tail_room w hr hn hc
    have eK : mkr (sp S 29 0 (S 29 0 + 2)) r (len S r + 1 - num (sp S 29 0 (S 29 0 + 2)) 2 2) = sp (mkr S r (len S r + 1 - num S 2 2)) 29 0 (mkr S r (len S r + 1 - num S 2 2) 29 0 + 2) := by
      have : num (sp S 29 0 (S 29 0 + 2)) 2 2 = num S 2 2 := by unfold num; rw [sp_row' _ _ _ (by decide)]
      rw [this, mkr_add]
    rw [eK]
    have s2 : ∀ k, shR k = true → sp (mkr S r (len S r + 1 - num S 2 2)) 29 0 (mkr S r (len S r + 1 - num S 2 2) 29 0 + 2) k = mkr S r (len S r + 1 - num S 2 2) k := shR_sp rfl
    have w2 : Inv n (sp (mkr S r (len S r + 1 - num S 2 2)) 29 0 (mkr S r (len S r + 1 - num S 2 2) 29 0 + 2)) := inv_sp rfl i1
    have i3' : len (sp (mkr S r (len S r + 1 - num S 2 2)) 29 0 (mkr S r (len S r + 1 - num S 2 2) 29 0 + 2)) r < 8 := by rw [len_same s2]; exact i3
    have i2' : ¬ hasC (sp (mkr S r (len S r + 1 - num S 2 2)) 29 0 (mkr S r (len S r + 1 - num S 2 2) 29 0 + 2)) r n := fun q => i2 ((hasC_same s2).mp q)
    revert g2 w2 i3' i2'
    generalize sp (mkr S r (len S r + 1 - num S 2 2)) 29 0 (mkr S r (len S r + 1 - num S 2 2) 29 0 + 2) = K
    generalize mkr S r (len S r + 1 - num S 2 2) 4 n = v
    intro g2 w2 i3' i2'
    have g4 := rm_card (k := 3) (v := only r) g2 hn
    rw [if_neg hc, if_neg (by decide), h2, bd_some]
    have el : len (setC (lay K r n v 0) n 3 (only r)) r = len K r + 1 := by rw [len_same setC_sh, tail_len w2.2.2.1 hr]
    obtain ⟨a5, h5, g5⟩ := m_chEnd (M := M) (x := x) (b := b) g4 (wfS_same setC_sh (wfS_lay w2.2.2.1 hr hn i3' (Or.inl rfl) i2')) hr (by rw [el]; omega)
    rw [el, setC_sp (by decide) (by decide), setC_sp (by decide) (by decide), Nat.add_sub_cancel, lay_twice] at g5
    rw [setC_ne (by decide) (by decide), lay_ne rfl (by decide) (by decide)] at h5
    refine ⟨a5, ?_, by rw [if_neg hc]; exact g5⟩
    rw [if_neg hc, setC_ne (by decide) (by decide), lay_ne rfl (by decide) (by decide)]
    refine Eq.trans ?_ h5
    dsimp only
    rw [layCard_a hn, bd_some]
theorem m_changes (h : RM V a L) (w : Inv 24 L) {r n : Nat} {x : Int32} (hr : r < 16) (hn : n < 24) : ∃ a', f_X9_changes (mA M a) (nI r) (nI n) x = some (rewS L r n x 29 0 - L 29 0, mA M a') ∧ RM V a' (rewS L r n x) := by
  have e4 : a 4 = L 29 0 := rm_at h (k := 29) (j := 0) (by decide) rfl rfl
  unfold f_X9_changes
  rw [ix_4, moreR_1 hr, bd_some, cl_4, mA_1, e4]
  have g1 : RM V (upd a (pos 35 r) (a (pos 35 r) + 1)) (rd1 L r) := rm_add h (by decide) (show r < 16 from hr) rfl
  revert g1
  generalize upd a (pos 35 r) (a (pos 35 r) + 1) = a1
  intro g1
  have w1 := inv_rd1 w (r := r)
  rw [ofN_1 hn, bd_some, rm_kind g1 hn, jn_e, rd1_irr 7 rfl, ofN_2 hn, bd_some, rm_names g1 hn, rd1_irr 9 rfl, has_bt (by omega)]
  unfold rewS
  cases ho : isOwn L r n
  · rw [if_neg (show ¬ false = true by decide)]
    obtain ⟨b1, b2, b3⟩ := chB_ok w hr hn
    obtain ⟨a2, h2, g2⟩ := m_callBackBut (M := M) g1 w1 hn (nI r)
    rw [cal_rd1, rd1_irr 7 rfl] at g2
    have g2' : RM V a2 (chB L r n) := g2
    have key := m_tail (M := M) (x := x) (b := L 29 0) g2' b1 hr hn
    rw [cl_4] at key
    rw [h2, bd_some]
    by_cases h3 : L 7 n = 3
    · have hb : bt (L 9 n) r = false := by
        unfold isOwn at ho
        rw [h3] at ho
        simpa using ho
      rw [if_pos h3, hb, if_pos (by decide)]
      exact key
    · rw [if_neg h3]
      exact key
  · obtain ⟨o1, o2, o3⟩ := own_of w hr hn ho
    have hb : bt (L 9 n) r = true := by
      unfold isOwn at ho
      rw [o1] at ho
      simpa using ho
    have h8 : len L r ≤ 8 := (w.2.2.1 r hr).1.2
    have hc : plc L r n < len L r := o3
    have hc1 : hasC (rd1 L r) r n := (hasC_same rd1_sh).mpr o3
    have hcU : hasC (rdU L r) r n := (hasC_same rdU_sh).mpr o3
    have wU := inv_rdU w (r := r)
    obtain ⟨a2, h2, g2⟩ := m_use (M := M) g1 w1.2.2.1 hr hn hc1
    rw [plc_same rd1_sh] at h2 g2
    rw [rd1_sh 16 rfl, rd1_sh 18 rfl] at g2
    have g3 := rm_add (x := 1) g2 (k := 37) (j := r) (by decide) hr rfl
    rw [usd_rows rfl (by decide) (by decide), ← usd_sp rfl (by decide), show rd1 L r 37 = L 37 from sp_row' _ _ _ (by decide)] at g3
    have g3' : RM V (upd a2 (pos 37 r) (a2 (pos 37 r) + 1)) (usd (rdU L r) r n (L 16 (8 * r + plc L r n)) (L 18 (8 * r + plc L r n))) := g3
    have c01 : L 18 (8 * r + plc L r n) = 0 ∨ L 18 (8 * r + plc L r n) = 1 := cp_c w.2.2.1 hr (cp_of hc)
    have el := usd_len (v := L 16 (8 * r + plc L r n)) (c := L 18 (8 * r + plc L r n)) wU.2.2.1 hr hcU r
    obtain ⟨a5, h5, g5⟩ := m_chEnd (M := M) (x := x) (b := L 29 0) g3' (wf_usd wU.2.2.1 wU.2.2.2.1 hr hn hcU c01).1 hr (by rw [el, len_same rdU_sh]; omega)
    rw [el, usd_twice wU.2.2.1 hr hcU] at g5
    rw [usd_rows rfl (by decide) (by decide)] at h5
    have eT : tailS (rdU L r) r n x = usd (rdU L r) r n x 1 := by
      unfold tailS
      have hcU' : plc (rdU L r) r n < len (rdU L r) r := hcU
      rw [if_pos hcU']
      refine setC_id ?_ ?_
      · rw [usd_rows rfl (by decide) (by decide)]
        exact o1
      · rw [usd_rows rfl (by decide) (by decide)]
        exact o2
    rw [if_pos o1, hb, if_neg (by decide), m_placeOf g1 hr (w1.2.2.1 r hr).1, plc_same rd1_sh, len_same rd1_sh, if_pos hc, bd_some, h2, bd_some, moreR_2 hr, bd_some, if_pos rfl, eT]
    exact ⟨a5, by rw [usd_rows rfl (by decide) (by decide)]; exact h5, g5⟩
