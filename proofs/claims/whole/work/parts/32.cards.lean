variable {V : VB} {L : St} {M : St} {a : FN}
/-! ===== settings, cards, whom a card calls ===== -/
theorem jn_e {κ β : Type} (body : κ → β) (k : κ) : jn body k = body k := id rfl
def wfT (L : St) : Prop := isN L 2 0 4 ∧ isN L 2 1 8 ∧ 1 ≤ num L 2 1 ∧ isN L 2 2 8 ∧ 1 ≤ num L 2 2 ∧ isN L 2 3 1
def wfC (L : St) : Prop := ∀ n, n < 24 → isN L 7 n 3 ∧ (∀ i, 16 ≤ i → i < 32 → bt (L 9 n) i = false) ∧ (L 7 n = 0 → L 9 n = 0)
def calP (L : St) (n i : Nat) : Bool := if L 7 n = 2 then bt (L 9 n) (i / num L 2 1) else bt (L 9 n) i
def cal (L : St) (n : Nat) : Int32 := mk (calP L n) 16
theorem mk_succ (p : Nat → Bool) (n : Nat) : mk p (n + 1) = if p n then mk p n ||| only n else mk p n := rfl
theorem groupOf_n {i z : Nat} (hi : i < 2 ^ 31) (h0 : 1 ≤ z) (h : z < 2 ^ 31) : f_X8_groupOf (nI i) (nI z) = nI (i / z) := by
  unfold f_X8_groupOf
  rw [if_neg (nI_nle h0 h), pk_div hi h0 h]
theorem c_called_L {z : Nat} {m : Int32} (h0 : 1 ≤ z) (h : z ≤ 8) (S : St) : ∀ (d i : Nat), i + d = 16 → ∀ f, d < f → f_X1_called_L29 (nI z) m S f (mk (fun i => bt m (i / z)) i) (nI i) = some (mk (fun i => bt m (i / z)) 16)
  | 0, i, e, f + 1, _ => by
    rw [f_X1_called_L29, if_pos (show (16 : Int32) ≤ nI i from nI_le (a := 16) (by omega) (by omega))]
    rw [show i = 16 by omega]
  | d + 1, i, e, f + 1, hf => by
    have hz : i / z < 32 := Nat.lt_of_le_of_lt (Nat.div_le_self i z) (by omega)
    rw [f_X1_called_L29, if_neg (show ¬ (16 : Int32) ≤ nI i from nI_ge (b := 16) (by omega) (by omega)), groupOf_n (by omega) h0 (by omega), isIn_bt hz, only_c, nI_1]
    have g := c_called_L h0 h (m := m) S d (i + 1) (by omega) f (by omega)
    rw [mk_succ] at g
    by_cases hb : bt m (i / z) = true
    · rw [if_pos hb, if_neg (by decide)]
      rw [if_pos hb] at g
      exact g
    · rw [if_neg hb, if_pos rfl]
      rw [if_neg hb] at g
      exact g
theorem cal_ne {n : Nat} (hc : wfC L) (hn : n < 24) (h : ¬ L 7 n = 2) : cal L n = L 9 n := by
  refine mk_eq (by omega) (fun i _ => ?_) (hc n hn).2.1
  unfold calP
  rw [if_neg h]
theorem cal_eq {n : Nat} (h : L 7 n = 2) : cal L n = mk (fun i => bt (L 9 n) (i / num L 2 1)) 16 := by
  refine mk_cong (by omega) (fun i _ => ?_)
  unfold calP
  rw [if_pos h]
theorem bt_cal {n i : Nat} (hi : i < 32) : bt (cal L n) i = (decide (i < 16) && calP L n i) := bt_mk _ 16 (by omega) i hi
theorem rat_2 {f : FN} {j : Nat} (hj : j < 4) : rat 4 f (nI j) = f j := rat_nI hj (by omega)
theorem rat_20 {f : FN} : rat 4 f 0 = f 0 := rat_nI (j := 0) (by omega) (by omega)
theorem rat_21 {f : FN} : rat 4 f 1 = f 1 := rat_nI (j := 1) (by omega) (by omega)
theorem rat_22 {f : FN} : rat 4 f 2 = f 2 := rat_nI (j := 2) (by omega) (by omega)
theorem rat_23 {f : FN} : rat 4 f 3 = f 3 := rat_nI (j := 3) (by omega) (by omega)
theorem c_called {n : Nat} (ht : wfT L) (hc : wfC L) (hn : n < 24) : f_X3_called L (nI n) = some (cal L n) := by
  unfold f_X3_called f_X1_called
  rw [rat_21, rat_nI hn (by omega), rat_nI hn (by omega)]
  by_cases h : L 7 n = 2
  · rw [if_pos h, ht.2.1.1, show f_X1_called_L29 (nI (num L 2 1)) (L 9 n) L 5000 0 0 = _ from c_called_L ht.2.2.1 ht.2.1.2 L 16 0 (by omega) 5000 (by omega), bd_some, cal_eq h]
  · rw [if_neg h, bd_some, cal_ne hc hn h]
theorem m_group (h : RM V a L) (ht : wfT L) {i : Nat} (hi : i < 2 ^ 31) : f_X9_group (mA M a) (nI i) = some (nI (i / num L 2 1)) := by
  have e : a 1 = nI (num L 2 1) := (rm_at h (k := 2) (j := 1) (show 1 < 4 by omega) rfl rfl).trans ht.2.1.1
  have h1 := ht.2.2.1
  have h2 := ht.2.1.2
  unfold f_X9_group
  rw [ix_1, cl_1, mA_1, e, nz_ok (nI_ne0 h1 (by omega)), pk_div hi h1 (by omega)]
theorem rm_kind (h : RM V a L) {n : Nat} (hn : n < 24) : a (pos 7 n) = L 7 n := rm_at h (show n < rowN 7 from hn) rfl rfl
theorem rm_names (h : RM V a L) {n : Nat} (hn : n < 24) : a (pos 9 n) = L 9 n := rm_at h (show n < rowN 9 from hn) rfl rfl
theorem or_bit (p : Nat → Bool) (i : Nat) {u : Int32} (hu : u = if p i then 1 else 0) : (mk p i ||| (if u = 0 then 0 else ((1 : Int32) <<< (nI i &&& 31)) : Int32)) = mk p (i + 1) := by
  rw [mk_succ, hu]
  by_cases h : p i = true
  · rw [if_pos h, if_pos h, if_neg (by decide)]; rfl
  · rw [if_neg h, if_neg h, if_pos rfl]
    exact Int32.or_zero
theorem m_called_L (h : RM V a L) (ht : wfT L) {n : Nat} (hn : n < 24) : ∀ (d i : Nat), i + d = 16 → ∀ f, d < f → f_X9_called_L4 (nI n) (mA M a) f (mk (calP L n) i) (nI i) = some (mk (calP L n) 16)
  | 0, i, e, f + 1, _ => by
    rw [f_X9_called_L4, if_pos (show (16 : Int32) ≤ nI i from nI_le (a := 16) (by omega) (by omega))]
    rw [show i = 16 by omega]
  | d + 1, i, e, f + 1, hf => by
    have hz : i / num L 2 1 < 32 := Nat.lt_of_le_of_lt (Nat.div_le_self i _) (by omega)
    rw [f_X9_called_L4, if_neg (show ¬ (16 : Int32) ≤ nI i from nI_ge (b := 16) (by omega) (by omega)), ofN_1 hn, bd_some, jn_e, ofN_2 hn, rm_kind h hn, rm_names h hn, m_group h ht (by omega)]
    simp only [bd_some]
    by_cases hk : L 7 n = 2
    · rw [if_pos hk, or_bit (calP L n) i (by rw [has_bt hz]; unfold calP; rw [if_pos hk]), nI_1]
      exact m_called_L h ht hn d (i + 1) (by omega) f (by omega)
    · rw [if_neg hk, or_bit (calP L n) i (by rw [has_bt (by omega)]; unfold calP; rw [if_neg hk]), nI_1]
      exact m_called_L h ht hn d (i + 1) (by omega) f (by omega)
theorem m_called (h : RM V a L) (ht : wfT L) {n : Nat} (hn : n < 24) : f_X9_called (mA M a) (nI n) = some (cal L n) := m_called_L h ht hn 16 0 (by omega) 5000 (by omega)
/-! how many, by both -/
def cnt (x : Int32) : Nat := ct (bt x) 16
theorem bt_nI {k i : Nat} (hk : k < 2 ^ 31) (hi : i < 32) : bt (nI k) i = k.testBit i := by
  show (BitVec.ofNat 32 k).getLsbD i = _
  rw [BitVec.getLsbD_ofNat]
  simp [hi]
theorem small_nI {x : Int32} (h : ∀ i, 16 ≤ i → i < 32 → bt x i = false) : ∃ k, k < 65536 ∧ x = nI k := by
  refine ⟨x.toUInt32.toNat % 65536, Nat.mod_lt _ (by omega), b_ext (fun i hi => ?_)⟩
  rw [bt_nI (by omega) hi, show (65536 : Nat) = 2 ^ 16 from rfl, Nat.testBit_mod_two_pow]
  by_cases hi16 : i < 16
  · rw [decide_eq_true hi16]
    rfl
  · rw [decide_eq_false hi16, h i (by omega) hi]; rfl
theorem bitCount_cnt {x : Int32} (h : ∀ i, 16 ≤ i → i < 32 → bt x i = false) : f_J6_bitCount_0f7a4 x = nI (cnt x) := by
  obtain ⟨k, hk, rfl⟩ := small_nI h
  rw [bitCount_nI hk]
  congr 1
  exact ct_cong (fun i hi => (bt_nI (by omega) (by omega)).symm)
theorem bit_at {x : Int32} {i : Nat} (hi : i < 32) : ((x >>> (nI i &&& 31)) &&& 1) = nI (if bt x i then 1 else 0) := by
  refine b_ext (fun j hj => ?_)
  rw [b_and, bt_1, b_sshr i hi x hj]
  have e1 : bt (nI 1) j = decide (j = 0) := bt_1 j
  have e0 : bt (nI 0) j = false := b_0 j
  have e : bt (nI (if bt x i then 1 else 0)) j = (bt x i && decide (j = 0)) := by
    cases h : bt x i
    · exact e0
    · exact e1
  rw [e]
  by_cases h0 : j = 0
  · subst h0
    simp [hi]
  · simp [h0]
theorem m_many_L {x : Int32} : ∀ (d i : Nat), i + d = 24 → ∀ f, d < f → f_X9_many_L4 x f (nI (ct (bt x) i)) (nI i) = some (nI (ct (bt x) 24))
  | 0, i, e, f + 1, _ => by
    rw [f_X9_many_L4, if_pos (show (24 : Int32) ≤ nI i from nI_le (a := 24) (by omega) (by omega))]
    rw [show i = 24 by omega]
  | d + 1, i, e, f + 1, hf => by
    rw [f_X9_many_L4, if_neg (show ¬ (24 : Int32) ≤ nI i from nI_ge (b := 24) (by omega) (by omega)), bit_at (by omega), nI_add, nI_1]
    exact m_many_L d (i + 1) (by omega) f (by omega)
theorem m_many {x : Int32} (h : ∀ i, 16 ≤ i → i < 32 → bt x i = false) : f_X9_many x = some (nI (cnt x)) := by
  refine (m_many_L (x := x) 24 0 (by omega) 5000 (by omega)).trans ?_
  rw [ct_out (m := 16) (by omega) (fun k h1 h2 => h k h1 (by omega))]
  rfl
