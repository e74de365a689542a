variable {V : VB} {L : St} {M : St} {a : FN} {z : Nat} {G : Gs}
/-! ===== what a reading, a change would take ===== -/
theorem rd1_irr' {r : Nat} (k : Nat) (h : k ≠ 35) : rd1 L r k = L k := sp_row' _ _ _ h
def oth (L : St) (r n : Nat) : Int32 := cal L n &&& (only r ^^^ (-1))
theorem bt_oth {r n i : Nat} (hr : r < 32) (hi : i < 32) : bt (oth L r n) i = (bt (cal L n) i && !decide (i = r)) := by
  unfold oth
  rw [b_and, bt_not _ hi, bt_onl hr hi]
theorem hold_B (wh : wfH L) {n i : Nat} (hn : n < 24) (hi : i < 16) : bt (L 20 n) i = hasB L n i := by
  by_cases hc : hasC L i n
  · rw [hasB_t hc]; exact (wh n hn i (by omega)).mpr ⟨hi, hc⟩
  · rw [hasB_f hc]
    cases q : bt (L 20 n) i
    · rfl
    · exact absurd ((wh n hn i (by omega)).mp q).2 hc
theorem ne_nI {i r : Nat} (hi : i < 16) (hr : r < 16) (h : ¬ i = r) : ¬ nI i = nI r := fun q => h ((nI_eq (by omega) (by omega)).mp q)
theorem sum_q0 (wh : wfH L) {r n : Nat} (hr : r < 16) (hn : n < 24) : sf (q0 L n (cal L n) (nI r)) 16 0 = cnt (oth L r n) + cnt (oth L r n &&& L 20 n) := by
  rw [sf_0]
  unfold cnt
  rw [ct_sm, ct_sm, ← sm_add]
  refine sm_cong (fun i hi => ?_)
  show q0 L n (cal L n) (nI r) i = _
  unfold q0
  rw [b_and, bt_oth (by omega) (by omega), hold_B wh hn hi]
  by_cases h : i = r
  · subst h
    rw [if_pos rfl]
    simp
  · rw [if_neg (ne_nI hi hr h), decide_eq_false h]
    cases bt (cal L n) i <;> cases hasB L n i <;> rfl
theorem sum_q1 (wh : wfH L) {r n : Nat} (hr : r < 16) (hn : n < 24) : sf (q1 L n (cal L n) (nI r)) 16 0 = cnt (oth L r n &&& (L 20 n ^^^ (-1))) := by
  rw [sf_0]
  unfold cnt
  rw [ct_sm]
  refine sm_cong (fun i hi => ?_)
  unfold q1
  rw [b_and, bt_not _ (by omega), bt_oth (by omega) (by omega), hold_B wh hn hi]
  by_cases h : i = r
  · subst h
    rw [if_pos rfl]
    simp
  · rw [if_neg (ne_nI hi hr h), decide_eq_false h]
    cases bt (cal L n) i <;> cases hasB L n i <;> rfl
def rdCost (L : St) (r n : Nat) : Nat := if plc L r n < len L r then 0 else (if L 7 n = 3 then 2 else 0) + rmN L r + 2
def chCost (L : St) (r n : Nat) : Nat := if isOwn L r n then 0 else cnt (oth L r n) + cnt (oth L r n &&& L 20 n) + (if plc L r n < len L r then 0 else rmN L r) + 2
def waCost (L : St) (r n : Nat) : Nat := cnt (oth L r n &&& (L 20 n ^^^ (-1)))
theorem rd1_q {r n : Nat} {m x2 : Int32} : q0 (rd1 L r) n m x2 = q0 L n m x2 ∧ q1 (rd1 L r) n m x2 = q1 L n m x2 := by
  have e : ∀ i, hasB (rd1 L r) n i = hasB L n i := fun i => hasB_iff (hasC_same rd1_sh)
  refine ⟨funext fun i => ?_, funext fun i => ?_⟩
  · unfold q0; rw [e]
  · unfold q1; rw [e]
theorem add_n (x : Int32) (p q : Nat) : x + nI p + nI q = x + nI (p + q) := by rw [Int32.add_assoc, nI_add]
/-- with the owner away: one who answers -/
theorem own_two (w : Inv 24 L) {r n : Nat} (hr : r < 16) (hn : n < 24) (h3 : L 7 n = 3) (hno : ¬ hasC L r n) : sf (q0 L n (cal L n) (nI r)) 16 0 = 2 := by
  obtain ⟨o, ho, q, v, hv⟩ := w.2.2.2.2.1 n hn (by omega) h3
  have hc : hasC L o n := hasC_cp.mpr ⟨v, 1, hv⟩
  have hor : ¬ o = r := fun e => hno (by rw [← e]; exact hc)
  have ec : cal L n = only o := by rw [cal_ne w.2.1 hn (by rw [h3]; decide), q]
  have e : ∀ i, i < 16 → q0 L n (cal L n) (nI r) i = if i = o then 2 else 0 := fun i hi => by
    unfold q0
    rw [ec, bt_onl (by omega) (by omega)]
    by_cases h : i = o
    · subst h
      rw [if_neg (ne_nI hi hr hor), decide_eq_true rfl, if_pos rfl, hasB_t hc, if_pos rfl, if_pos rfl]
    · rw [decide_eq_false h, if_neg (show ¬ false = true by decide), if_neg h]
      split <;> rfl
  have s : ∀ N, N ≤ 16 → sm (q0 L n (cal L n) (nI r)) N = if o < N then 2 else 0 := by
    intro N
    induction N with
    | zero => intro _; rfl
    | succ N ih =>
      intro h
      rw [sm, ih (by omega), e N (by omega)]
      by_cases h1 : o < N
      · rw [if_pos h1, if_neg (by omega), if_pos (by omega)]
      · by_cases h2 : N = o
        · rw [if_neg h1, if_pos h2, if_pos (by omega)]
        · rw [if_neg h1, if_neg h2, if_neg (by omega)]
  rw [sf_0, s 16 (by omega), if_pos ho]
theorem lend_cost (w : Inv 24 L) {r n : Nat} (hr : r < 16) (hn : n < 24) : lendS L r n 29 0 = L 29 0 + nI (rdCost L r n) := by
  unfold lendS rdCost
  by_cases hc : plc L r n < len L r
  · rw [if_pos hc, if_pos hc, usd_rows rfl (by decide) (by decide)]
    unfold rdU rd1
    rw [sp_row' _ _ _ (by decide), sp_row' _ _ _ (by decide)]
    exact (Int32.add_zero _).symm
  · rw [if_neg hc, if_neg hc]
    obtain ⟨b1, b2, b3⟩ := rdB_ok w hr hn hc
    have h8 : len (rdB L r n) r ≤ 8 := (b1.2.2.1 r hr).1.2
    have hR1 := b1.1.2.2.2.2.1
    have k := mkr_29 hr (by omega) (len (rdB L r n) r + 1 - num (rdB L r n) 2 2) (rdB L r n) b1 (no24 b1.2.2.1 hr) (by omega)
    have hB : rdB L r n 29 0 = L 29 0 + nI (if L 7 n = 3 then 2 else 0) ∧ rmN (rdB L r n) r = rmN L r := by
      unfold rdB
      by_cases h3 : L 7 n = 3
      · have w1 := inv_rd1 w (r := r)
        have c := (cbk_29 (m := cal L n) (x2 := nI r) (g := 0) hn 16 0 (by omega) (rd1 L r) w1.2.2.1 w1.2.2.2.1).1
        have c2 := cbk_own (m := cal L n) (g := 0) hn hr 16 0 (by omega) (rd1 L r) w1.2.2.1 w1.2.2.2.1
        have c3 := (cbk_ok hn (m := cal L n) (x2 := nI r) (g := 0) 16 0 (by omega) (rd1 L r) w1.2.2.1 w1.2.2.2.1).2.2.1 2 (by simp)
        rw [rd1_q.1, own_two w hr hn h3 hc, rd1_irr' 29 (by decide)] at c
        rw [if_pos h3, if_pos h3]
        refine ⟨by rw [setC_ne (by decide) (by decide)]; exact c, ?_⟩
        refine (rmN_same (L := L) w.1 ?_ (w.2.2.1 r hr).1.2 (fun q hq => ?_) ?_).2
        · rw [len_same setC_sh, c2.1, len_same rd1_sh]
        · rw [setC_ne (by decide) (by decide), c2.2 18 q rfl hq, rd1_sh 18 rfl]
        · rw [setC_ne (by decide) (by decide), c3, rd1_irr 2 rfl]
      · rw [if_neg h3, if_neg h3]
        refine ⟨by rw [rd1_irr' 29 (by decide)]; exact (Int32.add_zero _).symm, ?_⟩
        exact (rmN_same (L := L) w.1 (len_same rd1_sh r) (w.2.2.1 r hr).1.2 (fun q hq => by rw [rd1_sh 18 rfl]) (rd1_irr 2 rfl)).2
    have k1 : rdK L r n 29 0 = rdB L r n 29 0 + nI (rmN (rdB L r n) r) := k.1
    unfold rdQ
    rw [wrt_ne (by decide) (by decide), lay_ne rfl (by decide) (by decide), sp_eq', k1, hB.1, hB.2, show (2 : Int32) = nI 2 from rfl, add_n, add_n, Nat.add_assoc]
theorem rew_cost (w : Inv 24 L) {r n : Nat} {x : Int32} (hr : r < 16) (hn : n < 24) : rewS L r n x 29 0 = L 29 0 + nI (chCost L r n) ∧ rewS L r n x 29 1 = L 29 1 + nI (waCost L r n) := by
  unfold rewS chCost waCost
  have t : ∀ S j, plc S r n < len S r → tailS S r n x 29 j = S 29 j := fun S j h => by
    unfold tailS
    rw [if_pos h, setC_ne (by decide) (by decide), usd_rows rfl (by decide) (by decide)]
  cases ho : isOwn L r n
  · obtain ⟨b1, b2, b3⟩ := chC_ok w hr hn
    have w1 := inv_rd1 w (r := r)
    have c := cbk_29 (m := cal L n) (x2 := nI r) (g := if L 7 n = 2 then 1 else 0) hn 16 0 (by omega) (rd1 L r) w1.2.2.1 w1.2.2.2.1
    have c2 := cbk_own (m := cal L n) (g := if L 7 n = 2 then 1 else 0) hn hr 16 0 (by omega) (rd1 L r) w1.2.2.1 w1.2.2.2.1
    have c3 := (cbk_ok hn (m := cal L n) (x2 := nI r) (g := if L 7 n = 2 then 1 else 0) 16 0 (by omega) (rd1 L r) w1.2.2.1 w1.2.2.2.1).2.2.1 2 (by simp)
    rw [rd1_q.1, rd1_q.2, rd1_irr' 29 (by decide), sum_q0 w.2.2.2.1 hr hn, sum_q1 w.2.2.2.1 hr hn] at c
    have eC0 : chC L r n 29 0 = L 29 0 + nI (cnt (oth L r n) + cnt (oth L r n &&& L 20 n) + 2) := by
      unfold chC
      rw [sp_eq', ← add_n]
      congr 1
      exact c.1
    have eC1 : chC L r n 29 1 = L 29 1 + nI (cnt (oth L r n &&& (L 20 n ^^^ (-1)))) := by
      unfold chC
      rw [sp_at, if_neg (by omega)]
      exact c.2
    have sC : ∀ k, shR k = true → chC L r n k = chB L r n k := shR_sp rfl
    have rC : need (chC L r n) r = need L r ∧ rmN (chC L r n) r = rmN L r := by
      refine rmN_same (L := L) w.1 ?_ (w.2.2.1 r hr).1.2 (fun q hq => ?_) ?_
      · rw [len_same sC]
        exact c2.1.trans (len_same rd1_sh r)
      · rw [sC 18 rfl]
        exact (c2.2 18 q rfl hq).trans (by rw [rd1_sh 18 rfl])
      · unfold chC
        rw [sp_row' _ _ _ (by decide)]
        exact c3.trans (rd1_irr 2 rfl)
    rw [if_neg (show ¬ false = true by decide), if_neg (show ¬ false = true by decide)]
    by_cases hc : plc L r n < len L r
    · have hC : plc (chC L r n) r n < len (chC L r n) r := b3.mpr hc
      rw [if_pos hc, t _ _ hC, t _ _ hC, eC0, eC1]
      exact ⟨rfl, rfl⟩
    · have hC : ¬ plc (chC L r n) r n < len (chC L r n) r := fun q => hc (b3.mp q)
      have h8 : len (chC L r n) r ≤ 8 := (b1.2.2.1 r hr).1.2
      have hR1 := b1.1.2.2.2.2.1
      have k := mkr_29 hr (show n ≤ 24 by omega) (len (chC L r n) r + 1 - num (chC L r n) 2 2) (chC L r n) b1 hC (by omega)
      have k1 : mkr (chC L r n) r (len (chC L r n) r + 1 - num (chC L r n) 2 2) 29 0 = chC L r n 29 0 + nI (rmN (chC L r n) r) := k.1
      unfold tailS
      rw [if_neg hC, if_neg hc, setC_ne (by decide) (by decide), lay_ne rfl (by decide) (by decide), k1, k.2, eC0, eC1, rC.2, add_n, show cnt (oth L r n) + cnt (oth L r n &&& L 20 n) + 2 + rmN L r = cnt (oth L r n) + cnt (oth L r n &&& L 20 n) + rmN L r + 2 by omega]
      exact ⟨rfl, rfl⟩
  · obtain ⟨o1, o2, o3⟩ := own_of w hr hn ho
    have hU : plc (rdU L r) r n < len (rdU L r) r := (hasC_same rdU_sh).mpr o3
    have e29 : rdU L r 29 = L 29 := by
      unfold rdU rd1
      rw [sp_row' _ _ _ (by decide), sp_row' _ _ _ (by decide)]
    have e0 : cnt (oth L r n &&& (L 20 n ^^^ (-1))) = 0 := ct_zero (fun i hi => by
      rw [b_and, bt_oth (by omega) (by omega), cal_ne w.2.1 hn (by rw [o1]; decide), o2, bt_onl (by omega) (by omega)]
      cases decide (i = r) <;> rfl)
    rw [if_pos rfl, if_pos rfl, t _ _ hU, t _ _ hU, e29, e0]
    exact ⟨(Int32.add_zero _).symm, (Int32.add_zero _).symm⟩
/-! the class -/
theorem c_mRead (w : Inv 24 L) {r n : Nat} (hr : r < 16) (hn : n < 24) : f_X3_messagesToRead L (nI r) (nI n) = some (nI (rdCost L r n)) := by
  unfold f_X3_messagesToRead rdCost
  rw [holds_n w.2.2.2.1 hr hn, c_room_n w hr, bd_some, rat_nI hn (by omega)]
  by_cases hc : plc L r n < len L r
  · rw [if_pos hc, if_neg d10, if_pos hc]; rfl
  · rw [if_neg hc, if_pos rfl, if_neg hc]
    by_cases h3 : L 7 n = 3
    · rw [if_pos h3, if_pos h3, show (2 : Int32) = nI 2 from rfl, nI_add, nI_add]
    · rw [if_neg h3, if_neg h3, Int32.zero_add, show (2 : Int32) = nI 2 from rfl, nI_add, Nat.zero_add]
theorem hi_oth {r n : Nat} (hr : r < 32) : ∀ i, 16 ≤ i → i < 32 → bt (oth L r n) i = false := hi_and hi_cal
theorem c_mChange (w : Inv 24 L) {r n : Nat} (hr : r < 16) (hn : n < 24) : f_X3_messagesToChange L (nI r) (nI n) = some (nI (chCost L r n)) := by
  unfold f_X3_messagesToChange chCost
  rw [c_isOwn (by omega) hn, c_called w.1 w.2.1 hn, bd_some, jn_e, holds_n w.2.2.2.1 hr hn, c_room_n w hr, bd_some, rat_nI hn (by omega), only_c]
  have e1 : f_J6_bitCount_0f7a4 (cal L n &&& (only r ^^^ (-1))) = nI (cnt (oth L r n)) := bitCount_cnt (hi_oth (by omega))
  have e2 : f_J6_bitCount_0f7a4 ((cal L n &&& (only r ^^^ (-1))) &&& L 20 n) = nI (cnt (oth L r n &&& L 20 n)) := bitCount_cnt (hi_and (hi_oth (by omega)))
  rw [e1, e2]
  cases ho : isOwn L r n
  · rw [if_neg (show ¬ false = true by decide), if_pos rfl, if_neg (show ¬ false = true by decide)]
    by_cases hc : plc L r n < len L r
    · rw [if_pos hc, if_neg d10, if_pos hc]
      dsimp only
      rw [Int32.add_zero, nI_add, show (2 : Int32) = nI 2 from rfl, nI_add]
    · rw [if_neg hc, if_pos rfl, if_neg hc]
      dsimp only
      rw [nI_add, nI_add, show (2 : Int32) = nI 2 from rfl, nI_add]
  · rw [if_pos rfl, if_neg d10, if_pos rfl]; rfl
theorem c_mWaste (w : Inv 24 L) {r n : Nat} (hr : r < 16) (hn : n < 24) : f_X3_wastedToChange L (nI r) (nI n) = some (nI (waCost L r n)) := by
  unfold f_X3_wastedToChange waCost
  rw [c_called w.1 w.2.1 hn, bd_some, rat_nI hn (by omega), only_c]
  have e1 : f_J6_bitCount_0f7a4 ((cal L n &&& (only r ^^^ (-1))) &&& (L 20 n ^^^ (-1))) = nI (cnt (oth L r n &&& (L 20 n ^^^ (-1)))) := bitCount_cnt (hi_and (hi_oth (by omega)))
  rw [e1]
theorem chCost_le (w : Inv 24 L) {r n : Nat} (hr : r < 16) : chCost L r n ≤ 42 := by
  have := cnt_le (oth L r n)
  have := cnt_le (oth L r n &&& L 20 n)
  have := rmN_le w hr
  unfold chCost
  split
  · omega
  · split <;> omega
theorem rdCost_le (w : Inv 24 L) {r n : Nat} (hr : r < 16) : rdCost L r n ≤ 42 := by
  have := rmN_le w hr
  unfold rdCost
  split
  · omega
  · split <;> omega
