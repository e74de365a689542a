variable {V : VB} {L : St} {M : St} {a : FN} {z : Nat}
/-! ===== a note is called in ===== -/
theorem m6_ne {p : Nat} (h : p < 2 ^ 31) : ¬ nI p = -6 := fun q => nI_pos h (by rw [q]; decide)
theorem cbk_nob {n : Nat} {m x y g : Int32} (hx : ∀ i, i < 16 → ¬ nI i = x) (hy : ∀ i, i < 16 → ¬ nI i = y) : ∀ (d i : Nat), i + d ≤ 16 → ∀ L, cbk n m x g d i L = cbk n m y g d i L
  | 0, _, _, _ => rfl
  | d + 1, i, h, L => by
    have e : cbs L n m x g i = cbs L n m y g i := by
      unfold cbs
      rw [if_neg (hx i (by omega)), if_neg (hy i (by omega))]
    rw [cbk, cbk, e]
    exact cbk_nob hx hy d (i + 1) (by omega) _
theorem clb_31 {n i : Nat} {g : Int32} : clb L n i g 31 n = L 31 n + nI (if plc L i n < len L i then 1 else 0) := by
  by_cases h : plc L i n < len L i
  · rw [clb_held h, if_pos h, sp_row' _ _ _ (by decide), sp_row' _ _ _ (by decide), sp_row' _ _ _ (by decide), sp_eq']
    rfl
  · rw [clb_free h, if_neg h, sp_row' _ _ _ (by decide), sp_row' _ _ _ (by decide), sp_row' _ _ _ (by decide), sp_row' _ _ _ (by decide), sp_row' _ _ _ (by decide)]
    exact (Int32.add_zero _).symm
theorem cbk_31 {n : Nat} {m x g : Int32} : ∀ (d i : Nat) (L : St), cbk n m x g d i L 31 n = L 31 n + nI (cbh n m x g d i L)
  | 0, i, L => (Int32.add_zero _).symm
  | d + 1, i, L => by
    rw [cbk, cbh, cbk_31 d, ← nI_add, ← Int32.add_assoc]
    congr 1
    unfold cbs cbo
    by_cases h1 : nI i = x
    · rw [if_pos h1, if_pos h1]
      exact (Int32.add_zero _).symm
    · rw [if_neg h1, if_neg h1]
      by_cases h2 : bt m i = true
      · rw [if_pos h2, if_pos h2]
        exact clb_31
      · rw [if_neg h2, if_neg h2]
        exact (Int32.add_zero _).symm
def calG (L : St) (n : Nat) : Int32 := if L 7 n = 2 then 1 else 0
def calK (L : St) (n : Nat) : St := cbk n (cal L n) (-1) (calG L n) 16 0 L
def calS (L : St) (n : Nat) : St := setC (calK L n) n 0 0
def calV (L : St) (n : Nat) : Int32 := nI (cbh n (cal L n) (-1) (calG L n) 16 0 L)
theorem c_callIn (w : Inv 24 L) {n : Nat} (hn : n < 24) : f_X3_callIn L (nI n) = some (calV L n, calS L n) := by
  unfold f_X3_callIn
  rw [c_callBack w hn, bdp_some, bnd_e, c_become hn]
  rfl
theorem inv_calS (w : Inv 24 L) {n : Nat} (hn : n < 24) : Inv 24 (calS L n) := by
  have b := inv_back w (x2 := -1) (g := calG L n) hn
  refine inv_blank b.1 hn (fun r hr q => ?_)
  obtain ⟨v, c, q⟩ := hasC_cp.mp q
  exact m1_ne (by omega) ((b.2 r v c hr).mp q).2
theorem add_sub_l (x y : Int32) : x + y - x = y := by
  rw [Int32.add_comm, Int32.add_sub_cancel]
theorem m_callIn (h : RM V a L) (hV : V.1) (w : Inv 24 L) {n : Nat} (hn : n < 24) : ∃ a', bd (f_X9_ofN (mA M a) (nI n) 3) (fun y3 => bd (f_X9_callBackBut (mA M a) (nI n) (-6)) (fun S4 => bd (f_X9_layCard S4 (nI n) 0 0) (fun S5 => bd (f_X9_ofN S5 (nI n) 3) (fun y6 => some (y6 - y3, S5))))) = some (calV L n, mA M a') ∧ RM V a' (calS L n) := by
  obtain ⟨a1, h1, g1⟩ := m_callBackBut (M := M) h w hn (-6)
  have e : cbk n (cal L n) (-6) (if L 7 n = 2 then 1 else 0) 16 0 L = calK L n := cbk_nob (fun i hi => m6_ne (by omega)) (fun i hi => m1_ne (by omega)) 16 0 (by omega) L
  rw [e] at g1
  have g2 := rm_card (k := 0) (v := 0) g1 hn
  refine ⟨upd (upd a1 (pos 7 n) 0) (pos 9 n) 0, ?_, g2⟩
  have e1 : a (pos 31 n) = L 31 n := rm_v h (k := 31) hn rfl hV
  have e2 : upd (upd a1 (pos 7 n) 0) (pos 9 n) 0 (pos 31 n) = calS L n 31 n := rm_v g2 (k := 31) hn rfl hV
  rw [ofN_3 hn, bd_some, h1, bd_some, layCard_a hn, bd_some, ofN_3 hn, bd_some, e1, e2]
  have e3 : calS L n 31 n = L 31 n + calV L n := by
    unfold calS calK
    rw [setC_ne (by decide) (by decide), cbk_31]
    rfl
  rw [e3, add_sub_l]
/-! ===== rows that all this leaves alone ===== -/
def ac (k : Nat) : Bool := k == 21 || k == 23 || k == 25 || k == 27
theorem ac_n {k : Nat} (h : ac k = true) : isSh k = false ∧ k ≠ 12 ∧ k ≠ 20 ∧ k ≠ 4 ∧ k ≠ 7 ∧ k ≠ 9 ∧ k ≠ 29 ∧ k ≠ 31 ∧ k ≠ 33 ∧ k ≠ 35 ∧ k ≠ 37 ∧ k ≠ 39 ∧ k ≠ 41 ∧ k ≠ 2 := by
  have : k = 21 ∨ k = 23 ∨ k = 25 ∨ k = 27 := by
    unfold ac at h
    simp at h
    omega
  rcases this with rfl | rfl | rfl | rfl <;> decide
theorem rmv_ac {r p k : Nat} (h : ac k = true) : rmv L r p k = L k := rmv_ne (ac_n h).1 (ac_n h).2.1 (ac_n h).2.2.1
theorem lay_ac {r n k : Nat} {v c : Int32} (h : ac k = true) : lay L r n v c k = L k := lay_ne (ac_n h).1 (ac_n h).2.1 (ac_n h).2.2.1
theorem usd_ac {r n k : Nat} {v c : Int32} (h : ac k = true) : usd L r n v c k = L k := usd_rows (ac_n h).1 (ac_n h).2.1 (ac_n h).2.2.1
theorem setC_ac {n k : Nat} {v c : Int32} (h : ac k = true) : setC L n v c k = L k := setC_ne (ac_n h).2.2.2.2.1 (ac_n h).2.2.2.2.2.1
theorem wrt_ac {r n k : Nat} (h : ac k = true) : wrt L r n k = L k := setC_ac h
theorem stk_ac {r n k : Nat} (h : ac k = true) : stk L r n k = L k := by
  unfold stk
  split
  · rfl
  · exact setC_ac h
theorem sp_ac {k j k' : Nat} {x : Int32} (h : ac k = true) (h2 : k ≠ k') : sp L k' j x k = L k := sp_row' _ _ _ h2
theorem gvb_ac {r p k : Nat} (h : ac k = true) : gvb L r p k = L k := by
  have e : rmv (gvV L r p) r p k = L k := by rw [rmv_ac h, gvV_ne (ac_n h).2.2.2.1]
  unfold gvb
  split
  · rw [stk_ac h, sp_ac h (ac_n h).2.2.2.2.2.2.1, e]
  · exact e
theorem mkr_ac {r k : Nat} (h : ac k = true) : ∀ (d : Nat) (L : St), mkr L r d k = L k
  | 0, L => rfl
  | d + 1, L => by rw [mkr, mkr_ac h d, gvb_ac h]
theorem clb_ac {n i k : Nat} {g : Int32} (h : ac k = true) : clb L n i g k = L k := by
  obtain ⟨n1, n2, n3, n4, n5, n6, n7, n8, n9, n10, n11, n12, n13, n14⟩ := ac_n h
  unfold clb
  split
  · rw [sp_ac h n9, sp_ac h n7, sp_ac h n12, sp_ac h n8, sp_ac h n7, off_ne n1 n2 n3 n4]
  · rw [sp_ac h n9, sp_ac h n7, sp_ac h n13, sp_ac h n7, sp_ac h n7]
theorem cbk_ac {n k : Nat} {m x g : Int32} (h : ac k = true) : ∀ (d i : Nat) (L : St), cbk n m x g d i L k = L k
  | 0, i, L => rfl
  | d + 1, i, L => by
    rw [cbk, cbk_ac h d]
    unfold cbs
    split
    · rfl
    · split
      · exact clb_ac h
      · rfl
theorem rd1_ac {r k : Nat} (h : ac k = true) : rd1 L r k = L k := sp_ac h (ac_n h).2.2.2.2.2.2.2.2.2.1
theorem rdU_ac {r k : Nat} (h : ac k = true) : rdU L r k = L k := (sp_ac h (ac_n h).2.2.2.2.2.2.2.2.2.2.1).trans (rd1_ac h)
theorem lendS_ac {r n k : Nat} (h : ac k = true) : lendS L r n k = L k := by
  unfold lendS
  split
  · rw [usd_ac h, rdU_ac h]
  · unfold rdQ rdK
    rw [wrt_ac h, lay_ac h, sp_ac h (ac_n h).2.2.2.2.2.2.1, mkr_ac h]
    unfold rdB
    split
    · rw [setC_ac h, cbk_ac h, rd1_ac h]
    · exact rd1_ac h
theorem tailS_ac {r n k : Nat} {x : Int32} (h : ac k = true) : tailS L r n x k = L k := by
  unfold tailS
  split
  · rw [setC_ac h, usd_ac h]
  · rw [setC_ac h, lay_ac h, mkr_ac h]
theorem rewS_ac {r n k : Nat} {x : Int32} (h : ac k = true) : rewS L r n x k = L k := by
  unfold rewS
  split
  · rw [tailS_ac h, rdU_ac h]
  · rw [tailS_ac h]
    unfold chC chB
    rw [sp_ac h (ac_n h).2.2.2.2.2.2.1, cbk_ac h, rd1_ac h]
theorem calS_ac {n k : Nat} (h : ac k = true) : calS L n k = L k := by
  unfold calS calK
  rw [setC_ac h, cbk_ac h]
