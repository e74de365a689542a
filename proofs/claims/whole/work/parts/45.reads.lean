variable {V : VB} {L : St} {M : St} {a : FN} {z : Nat}
theorem c_callBack (w : Inv z L) {n : Nat} (hn : n < 24) (x2 : Int32) : f_X3_callBack L (nI n) x2 = some (nI (cbh n (cal L n) x2 (if L 7 n = 2 then 1 else 0) 16 0 L), cbk n (cal L n) x2 (if L 7 n = 2 then 1 else 0) 16 0 L) := by
  unfold f_X3_callBack
  rw [c_called w.1 w.2.1 hn, bd_some, rat_nI hn (by omega)]
  refine (c_call_L hn (by split <;> simp) 16 0 (by omega) 5000 (by omega) L 0 w.2.2.1 w.2.2.2.1).trans ?_
  rw [Int32.zero_add]
theorem m_callBackBut (h : RM V a L) (w : Inv z L) {n : Nat} (hn : n < 24) (x2 : Int32) : ∃ a', f_X9_callBackBut (mA M a) (nI n) x2 = some (mA M a') ∧ RM V a' (cbk n (cal L n) x2 (if L 7 n = 2 then 1 else 0) 16 0 L) := by
  unfold f_X9_callBackBut
  rw [m_called h w.1 hn, bd_some, ofN_1 hn, bd_some, rm_kind h hn]
  exact m_but_L hn 16 0 (by omega) 5000 (by omega) L a h w.2.2.1 w.2.2.2.1
theorem c_noteUse {r : Nat} {u : Int32} (hr : r < 16) : f_X3_noteUse L (nI r) u = sp (sp L 35 r (L 35 r + 1)) 37 r (L 37 r + (if u = 0 then 0 else 1)) := by
  unfold f_X3_noteUse
  rw [bnd_e, bnd_e, rad_nI hr (by omega), rad_nI hr (by omega), sp_row' _ _ _ (by decide)]
def rd1 (L : St) (r : Nat) : St := sp L 35 r (L 35 r + 1)
def rdU (L : St) (r : Nat) : St := sp (rd1 L r) 37 r (L 37 r + 1)
def rdB (L : St) (r n : Nat) : St := if L 7 n = 3 then setC (cbk n (cal L n) (nI r) 0 16 0 (rd1 L r)) n 0 0 else rd1 L r
def rdK (L : St) (r n : Nat) : St := mkr (rdB L r n) r (len (rdB L r n) r + 1 - num (rdB L r n) 2 2)
def rdQ (S : St) (r n : Nat) : St := wrt (lay (sp S 29 0 (S 29 0 + 2)) r n (S 4 n) 0) r n
def lendS (L : St) (r n : Nat) : St := if plc L r n < len L r then usd (rdU L r) r n (L 16 (8 * r + plc L r n)) (L 18 (8 * r + plc L r n)) else rdQ (rdK L r n) r n
def lendV (L : St) (r n : Nat) : Int32 := if plc L r n < len L r then L 16 (8 * r + plc L r n) else rdK L r n 4 n
theorem rd1_irr {r : Nat} : ∀ k, irr k = false → rd1 L r k = L k := irr_sp rfl
theorem rd1_sh {r : Nat} : ∀ k, shR k = true → rd1 L r k = L k := shR_sp rfl
theorem rdU_sh {r : Nat} : ∀ k, shR k = true → rdU L r k = L k := fun k hk => by unfold rdU; rw [shR_sp (by decide) k hk, rd1_sh k hk]
theorem inv_rd1 (w : Inv z L) {r : Nat} : Inv z (rd1 L r) := inv_sp rfl w
theorem inv_rdU (w : Inv z L) {r : Nat} : Inv z (rdU L r) := inv_sp rfl (inv_rd1 w)
theorem cal_same {S : St} {n : Nat} (h2 : S 2 = L 2) (h7 : S 7 n = L 7 n) (h9 : S 9 n = L 9 n) : cal S n = cal L n := mk_cong (by omega) (fun i _ => calP_same h2 h7 h9 i)
theorem cal_rd1 {r n : Nat} : cal (rd1 L r) n = cal L n := cal_same (rd1_irr 2 rfl) (by rw [rd1_irr 7 rfl]) (by rw [rd1_irr 9 rfl])
theorem cbk_shR {n : Nat} {m x2 g : Int32} (hn : n < 24) (w : Inv z L) {r : Nat} (hr : r < 16) (h : ¬ hasC L r n) : ¬ hasC (cbk n m x2 g 16 0 L) r n := by
  rw [hasC_cp] at h ⊢
  rintro ⟨v, c, q⟩
  exact h ⟨v, c, (((cbk_ok hn 16 0 (by omega) L w.2.2.1 w.2.2.2.1).2.2.2 r n v c hr hn).mp q).1⟩
/-- after the owner's copy is called back -/
theorem rdB_ok (w : Inv 24 L) {r n : Nat} (hr : r < 16) (hn : n < 24) (hno : ¬ hasC L r n) : Inv 24 (rdB L r n) ∧ ¬ hasC (rdB L r n) r n ∧ ¬ rdB L r n 7 n = 3 := by
  have w1 := inv_rd1 w (r := r)
  have hno1 : ¬ hasC (rd1 L r) r n := fun q => hno ((hasC_same rd1_sh).mp q)
  unfold rdB
  by_cases h3 : L 7 n = 3
  · rw [if_pos h3]
    have b := inv_back w1 (x2 := nI r) (g := 0) hn
    rw [cal_rd1] at b
    have none : ∀ r', r' < 16 → ¬ hasC (cbk n (cal L n) (nI r) 0 16 0 (rd1 L r)) r' n := fun r' hr' q => by
      obtain ⟨v, c, q⟩ := hasC_cp.mp q
      have q2 := (b.2 r' v c hr').mp q
      have : r' = r := (nI_eq (by omega) (by omega)).mp q2.2
      subst this
      exact hno1 (hasC_cp.mpr ⟨v, c, q2.1⟩)
    refine ⟨inv_blank b.1 hn none, fun q => none r hr ((hasC_same setC_sh).mp q), ?_⟩
    rw [setC_7, if_pos rfl]
    decide
  · rw [if_neg h3]
    exact ⟨w1, hno1, by rw [rd1_irr 7 rfl]; exact h3⟩
theorem rdK_ok (w : Inv 24 L) {r n : Nat} (hr : r < 16) (hn : n < 24) (hno : ¬ hasC L r n) : Inv 24 (rdK L r n) ∧ ¬ hasC (rdK L r n) r n ∧ ¬ rdK L r n 7 n = 3 ∧ len (rdK L r n) r < 8 := by
  obtain ⟨b1, b2, b3⟩ := rdB_ok w hr hn hno
  have h8 : len (rdB L r n) r ≤ 8 := (b1.2.2.1 r hr).1.2
  have hR1 := b1.1.2.2.2.2.1
  have hR2 := b1.1.2.2.2.1.2
  obtain ⟨i1, i2, i3, i4, i5⟩ := mkr_ok hr (by omega) (len (rdB L r n) r + 1 - num (rdB L r n) 2 2) (rdB L r n) b1 (no24 b1.2.2.1 hr) (by omega)
  obtain ⟨k1, k2, k3⟩ := i4 n hn b2
  refine ⟨i1, k1, by unfold rdK; rw [k2]; exact b3, ?_⟩
  unfold rdK
  rw [i2]
  omega
theorem rdQ_ok {S : St} (w : Inv 24 S) {r n : Nat} (hr : r < 16) (hn : n < 24) (hno : ¬ hasC S r n) (h3 : ¬ S 7 n = 3) (h8 : len S r < 8) : Inv 24 (rdQ S r n) := by
  have e : ∀ k, shR k = true → sp S 29 0 (S 29 0 + 2) k = S k := shR_sp rfl
  unfold rdQ
  exact inv_lent (inv_sp rfl w) hr hn (fun q => hno ((hasC_same e).mp q)) (by rw [sp_row' _ _ _ (by decide)]; exact h3) (by rw [len_same e]; exact h8)
theorem inv_lendS (w : Inv 24 L) {r n : Nat} (hr : r < 16) (hn : n < 24) : Inv 24 (lendS L r n) := by
  unfold lendS
  by_cases hc : plc L r n < len L r
  · rw [if_pos hc]
    have q : hasC (rdU L r) r n := (hasC_same rdU_sh).mpr hc
    have := inv_used (inv_rdU w (r := r)) hr hn q
    rw [plc_same rdU_sh, rdU_sh 16 rfl, rdU_sh 18 rfl] at this
    exact this
  · rw [if_neg hc]
    obtain ⟨k1, k2, k3, k4⟩ := rdK_ok w hr hn hc
    exact rdQ_ok k1 hr hn k2 k3 k4
theorem c_ask_end {S : St} (w : Inv 24 S) {r n : Nat} (hr : r < 16) (hn : n < 24) (h8 : len S r < 8) : bnd (rad 3 S 29 0 2) (fun S5 => bnd (f_X7_lay S5 (nI r) (nI n) (rat 24 (S5 4) (nI n)) 0) (fun S6 => bd (f_X1_name S6 (nI n) (nI r) (rat 4 (S6 2) 0) (rat 4 (S6 2) 1)) (fun S7 => some (rat 24 (S7 4) (nI n), S7)))) = some (S 4 n, rdQ S r n) := by
  have e : ∀ k, shR k = true → sp S 29 0 (S 29 0 + 2) k = S k := shR_sp rfl
  have w1 : Inv 24 (sp S 29 0 (S 29 0 + 2)) := inv_sp rfl w
  have e8 : len (sp S 29 0 (S 29 0 + 2)) r < 8 := by rw [len_same e]; exact h8
  have l2 : ∀ {X : St} {v : Int32}, lay X r n v 0 2 = X 2 := lay_ne rfl (by decide) (by decide)
  have l7 : ∀ {X : St} {v : Int32}, lay X r n v 0 7 = X 7 := lay_ne rfl (by decide) (by decide)
  have l9 : ∀ {X : St} {v : Int32}, lay X r n v 0 9 = X 9 := lay_ne rfl (by decide) (by decide)
  rw [bnd_e, show rad 3 S 29 0 2 = sp S 29 0 (S 29 0 + 2) from rad_nI (j := 0) (by omega) (by omega), bnd_e, rat_nI hn (by omega), c_lay hr hn (w1.2.2.1 r hr).1 e8, if_pos rfl, c_name (wfT_same l2 w1.1) (wfC_same l7 l9 w1.2.1) hr hn, bd_some, rat_nI hn (by omega), wrt_ne (by decide) (by decide), lay_ne rfl (by decide) (by decide), sp_row' _ _ _ (by decide)]
  rfl
theorem m1_ne {p : Nat} (h : p < 2 ^ 31) : ¬ nI p = -1 := fun q => nI_pos h (by rw [q]; decide)
theorem c_lend (w : Inv 24 L) {r n : Nat} (hr : r < 16) (hn : n < 24) : f_X3_lend L (nI r) (nI n) = some (lendV L r n, lendS L r n) := by
  have hl := (w.2.2.1 r hr).1
  have h8 : len L r ≤ 8 := hl.2
  unfold f_X3_lend
  rw [c_placeOf hr hl, bd_some, bnd_e, c_noteUse hr]
  unfold lendV lendS
  by_cases hc : plc L r n < len L r
  · rw [if_pos hc, if_pos hc, if_pos hc, if_neg (m1_ne (by omega)), if_neg (show ¬ (1 : Int32) = 0 by decide), if_neg (show ¬ (1 : Int32) = 0 by decide)]
    have eU : sp (sp L 35 r (L 35 r + 1)) 37 r (L 37 r + 1) = rdU L r := rfl
    rw [eU]
    have wU := inv_rdU w (r := r)
    have hcU : hasC (rdU L r) r n := (hasC_same rdU_sh).mpr hc
    have ep : plc (rdU L r) r n = plc L r n := plc_same rdU_sh r n
    have hpU : plc L r n < len (rdU L r) r := by rw [len_same rdU_sh]; exact hc
    have wR := wfS_rmv wU.2.2.1 hr hcU
    rw [ep] at wR
    have e8 : len (rmv (rdU L r) r (plc L r n)) r < 8 := by
      rw [rmv_len (wU.2.2.1 r hr).1 hpU, if_pos rfl, len_same rdU_sh]
      omega
    have vt : f_X7_valueAt (rdU L r) (nI r) (nI (plc L r n)) = L 16 (8 * r + plc L r n) := by
      unfold f_X7_valueAt
      rw [i8p, rat_nI (by omega) (by omega), rdU_sh 16 rfl]
    have ct : (if (f_X7_isChangedAt (rdU L r) (nI r) (nI (plc L r n))) = 0 then 0 else 1 : Int32) = L 18 (8 * r + plc L r n) := by
      rw [isChd hr (by omega)]
      unfold chd
      rw [rdU_sh 18 rfl]
      rcases cp_c w.2.2.1 hr (cp_of hc) with q | q <;> rw [q] <;> decide
    rw [c_remove hr (wU.2.2.1 r hr).1 hpU ((wU.2.2.1 r hr).2.1 _ hpU).1, bd_some, bnd_e, c_lay hr hn (wR r hr).1 e8, vt, ct]
    unfold usd
    rw [ep]
  · rw [if_neg hc, if_neg hc, if_neg hc, if_pos rfl, if_pos rfl, if_pos rfl, jn_e, add0]
    have eU : sp (sp L 35 r (L 35 r + 1)) 37 r (L 37 r) = rd1 L r := by
      rw [sp_idv (by rw [sp_row' _ _ _ (by decide)])]
      rfl
    rw [eU, rat_nI hn (by omega), rd1_irr 7 rfl]
    obtain ⟨b1, b2, b3⟩ := rdB_ok w hr hn hc
    obtain ⟨k1, k2, k3, k4⟩ := rdK_ok w hr hn hc
    have fin : ∀ B, B = rdB L r n → bd (f_X3_makeRoom B (nI r)) (fun S4 => bnd (rad 3 S4 29 0 2) (fun S5 => bnd (f_X7_lay S5 (nI r) (nI n) (rat 24 (S5 4) (nI n)) 0) (fun S6 => bd (f_X1_name S6 (nI n) (nI r) (rat 4 (S6 2) 0) (rat 4 (S6 2) 1)) (fun S7 => some (rat 24 (S7 4) (nI n), S7))))) = some (rdK L r n 4 n, rdQ (rdK L r n) r n) := by
      rintro B rfl
      rw [c_makeRoom b1 hr (by omega) (no24 b1.2.2.1 hr), bd_some]
      exact c_ask_end k1 hr hn k4
    by_cases h3 : L 7 n = 3
    · have n2 : ¬ (3 : Int32) = 2 := by decide
      rw [if_pos h3, c_callBack (inv_rd1 w) hn, bdp_some, bnd_e, c_become hn, cal_rd1, rd1_irr 7 rfl, h3, if_neg n2]
      refine fin _ ?_
      unfold rdB
      rw [if_pos h3]
    · rw [if_neg h3]
      refine fin _ ?_
      unfold rdB
      rw [if_neg h3]
