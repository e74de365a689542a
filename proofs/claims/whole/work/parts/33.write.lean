variable {V : VB} {L : St} {M : St} {a : FN}
/-! ===== writing on a card, striking from it ===== -/
theorem sp_id (L : St) (k j : Nat) : sp L k j (L k j) = L := by
  funext k' j'
  rw [sp_at]
  by_cases h : k' = k ∧ j' = j
  · rw [if_pos h, h.1, h.2]
  · rw [if_neg h]
theorem sp_idv {L : St} {k j : Nat} {x : Int32} (h : L k j = x) : sp L k j x = L := by rw [← h]; exact sp_id L k j
theorem sp_comm (L : St) {k j k' j' : Nat} {x y : Int32} (h : k ≠ k') : sp (sp L k j x) k' j' y = sp (sp L k' j' y) k j x := by
  funext k2 j2
  simp only [sp_at]
  by_cases h1 : k2 = k ∧ j2 = j
  · have : ¬ (k2 = k' ∧ j2 = j') := fun q => h (h1.1.symm.trans q.1)
    simp [h1, this, h]
  · simp [h1]
def setC (L : St) (n : Nat) (k v : Int32) : St := sp (sp L 7 n k) 9 n v
theorem rm_card (h : RM V a L) {n : Nat} (hn : n < 24) {k v : Int32} : RM V (upd (upd a (pos 7 n) k) (pos 9 n) v) (setC L n k v) := rm_sp (rm_sp h (by decide) (show n < rowN 7 from hn) (fun _ => rfl)) (by decide) (show n < rowN 9 from hn) (fun _ => rfl)
theorem c_become {n : Nat} (hn : n < 24) {k v : Int32} : f_X1_become L (nI n) k v = setC L n k v := by
  unfold f_X1_become
  rw [bnd_e, bnd_e, rwr_nI hn (by omega), rwr_nI hn (by omega)]; rfl
def gm (m : Int32) (z : Nat) : Nat → Int32
  | 0 => 0
  | k + 1 => if bt m k then gm m z k ||| only (k / z) else gm m z k
theorem c_groups_L {z : Nat} {m : Int32} (h0 : 1 ≤ z) (h : z ≤ 8) : ∀ (d i : Nat), i + d = 16 → ∀ f, d < f → f_X1_groupsOf_L4 m (nI z) f (gm m z i) (nI i) = some (gm m z 16)
  | 0, i, e, f + 1, _ => by
    rw [f_X1_groupsOf_L4, if_pos (show (16 : Int32) ≤ nI i from nI_le (a := 16) (by omega) (by omega)), show i = 16 by omega]
  | d + 1, i, e, f + 1, hf => by
    rw [f_X1_groupsOf_L4, if_neg (show ¬ (16 : Int32) ≤ nI i from nI_ge (b := 16) (by omega) (by omega)), groupOf_n (by omega) h0 (by omega), isIn_bt (by omega), only_c, nI_1]
    have g := c_groups_L h0 h (m := m) d (i + 1) (by omega) f (by omega)
    rw [gm] at g
    by_cases hb : bt m i = true
    · rw [if_pos hb, if_neg (by decide)]; rw [if_pos hb] at g; exact g
    · rw [if_neg hb, if_pos rfl]; rw [if_neg hb] at g; exact g
theorem m_groups_L (h : RM V a L) (ht : wfT L) {m : Int32} : ∀ (d i : Nat), i + d = 16 → ∀ f, d < f → f_X9_groupsOf_L4 m (mA M a) f (gm m (num L 2 1) i) (nI i) = some (gm m (num L 2 1) 16)
  | 0, i, e, f + 1, _ => by
    rw [f_X9_groupsOf_L4, if_pos (show (16 : Int32) ≤ nI i from nI_le (a := 16) (by omega) (by omega)), show i = 16 by omega]
  | d + 1, i, e, f + 1, hf => by
    rw [f_X9_groupsOf_L4, if_neg (show ¬ (16 : Int32) ≤ nI i from nI_ge (b := 16) (by omega) (by omega)), jn_e, m_group h ht (by omega), has_bt (by omega), nI_1]
    simp only [bd_some]
    have g := m_groups_L h ht (m := m) d (i + 1) (by omega) f (by omega)
    rw [gm] at g
    by_cases hb : bt m i = true
    · rw [if_pos hb, if_neg (by decide)]; rw [if_pos hb] at g; exact g
    · rw [if_neg hb, if_pos rfl, Int32.or_zero]; rw [if_neg hb] at g; exact g
/-- the card, with a reader written on it -/
def isFull (L : St) (r n : Nat) : Bool := L 7 n == 2 || (!bt (L 9 n) r && decide (num L 2 0 ≤ cnt (L 9 n)))
def newN (L : St) (r n : Nat) : Int32 := if L 7 n = 2 then L 9 n ||| only (r / num L 2 1) else if isFull L r n then gm (L 9 n ||| only r) (num L 2 1) 16 else L 9 n ||| only r
def wrt (L : St) (r n : Nat) : St := setC L n (if isFull L r n then 2 else 1) (newN L r n)
theorem cnt_le (x : Int32) : cnt x ≤ 16 := ct_le _ 16
theorem bt_or_only {x : Int32} {r i : Nat} (hr : r < 32) (hi : i < 32) : bt (x ||| only r) i = (bt x i || decide (i = r)) := by
  unfold only
  rw [b_or, bt_only hr hi]
theorem cnt_or {x : Int32} {r : Nat} (hr : r < 16) (h : bt x r = false) : cnt (x ||| only r) = cnt x + 1 := by
  have e := ct_upd (bt x) true (i := r) (n := 16) hr
  rw [h] at e
  have e2 : ct (bt (x ||| only r)) 16 = ct (fun k => if k = r then true else bt x k) 16 := ct_cong (fun k hk => by
    rw [bt_or_only (by omega) (by omega)]
    by_cases q : k = r <;> simp [q])
  unfold cnt
  rw [e2]
  simpa using e
theorem hi_or {x : Int32} {r : Nat} (hr : r < 16) (h : ∀ i, 16 ≤ i → i < 32 → bt x i = false) : ∀ i, 16 ≤ i → i < 32 → bt (x ||| only r) i = false := by
  intro i h1 h2
  rw [bt_or_only (by omega) h2, h i h1 h2]
  simp; omega
theorem c_name (ht : wfT L) (hc : wfC L) {r n : Nat} (hr : r < 16) (hn : n < 24) : f_X1_name L (nI n) (nI r) (rat 4 (L 2) 0) (rat 4 (L 2) 1) = some (wrt L r n) := by
  have hz : r / num L 2 1 < 2 ^ 31 := Nat.lt_of_le_of_lt (Nat.div_le_self r _) (by omega)
  have z8 := ht.2.1.2
  unfold f_X1_name
  rw [rat_20, rat_21, rat_nI hn (by omega), rat_nI hn (by omega), ht.1.1, ht.2.1.1, groupOf_n (by omega) ht.2.2.1 (by omega), isIn_bt (by omega), bitCount_cnt (hc n hn).2.1, only_c, only_c, c_become hn, rwr_nI hn (by omega), show f_X1_groupsOf (L 9 n ||| only r) (nI (num L 2 1)) = some (gm (L 9 n ||| only r) (num L 2 1) 16) from c_groups_L ht.2.2.1 z8 16 0 (by omega) 5000 (by omega), bd_some, c_become hn]
  simp only [bnd_e]
  unfold wrt newN isFull
  by_cases hk : L 7 n = 2
  · rw [if_pos hk, if_pos hk, hk]
    unfold setC
    simp only [BEq.rfl, Bool.true_or, if_true]
    rw [sp_idv hk]
  · have hk' : (L 7 n == 2) = false := by simpa using hk
    rw [if_neg hk, if_neg hk, hk', Bool.false_or]
    cases hb : bt (L 9 n) r
    · rw [if_pos (show (if false = true then (1 : Int32) else 0) = 0 from rfl)]
      by_cases hq : num L 2 0 ≤ cnt (L 9 n)
      · rw [if_pos (nI_le hq (by have := cnt_le (L 9 n); omega))]
        simp [hq]
      · rw [if_neg (nI_ge (by omega) (by have := ht.1.2; omega))]
        simp [hq]
    · rw [if_neg (by decide)]
      simp
theorem m_writeOn (h : RM V a L) (ht : wfT L) (hc : wfC L) {r n : Nat} (hr : r < 16) (hn : n < 24) : ∃ a', f_X9_writeOn (mA M a) (nI n) (nI r) = some (mA M a') ∧ RM V a' (wrt L r n) := by
  have hz : r / num L 2 1 < 2 ^ 31 := Nat.lt_of_le_of_lt (Nat.div_le_self r _) (by omega)
  have z8 := ht.2.1.2
  have e0 : a 0 = nI (num L 2 0) := (rm_at h (k := 2) (j := 0) (show 0 < 4 by omega) rfl rfl).trans ht.1.1
  refine ⟨upd (upd a (pos 7 n) (if isFull L r n then 2 else 1)) (pos 9 n) (newN L r n), ?_, rm_card h hn⟩
  unfold f_X9_writeOn
  rw [ofN_2 hn, bd_some, ofN_1 hn, bd_some, rm_kind h hn, rm_names h hn, m_group h ht (by omega), bd_some, show ((1 : Int32) <<< (nI r &&& 31)) = only r from rfl, m_many (hi_or hr (hc n hn).2.1), bd_some, ix_0, cl_0, mA_1, e0, has_bt (by omega), show f_X9_groupsOf (mA M a) (L 9 n ||| only r) = some (gm (L 9 n ||| only r) (num L 2 1) 16) from m_groups_L h ht 16 0 (by omega) 5000 (by omega), bd_some]
  simp only [layCard_a hn, bd_some]
  unfold newN isFull
  by_cases hk : L 7 n = 2
  · rw [if_pos hk, if_pos hk, hk]
    simp only [BEq.rfl, Bool.true_or, if_true]
    rfl
  · have hk' : (L 7 n == 2) = false := by simpa using hk
    rw [if_neg hk, if_neg hk, hk', Bool.false_or]
    cases hb : bt (L 9 n) r
    · rw [cnt_or hr hb]
      by_cases hq : num L 2 0 ≤ cnt (L 9 n)
      · rw [if_neg (nI_ge (by omega) (by have := cnt_le (L 9 n); omega))]
        simp [hq]
      · rw [if_pos (nI_le (by omega) (by have := ht.1.2; omega))]
        simp [hq]
    · simp
