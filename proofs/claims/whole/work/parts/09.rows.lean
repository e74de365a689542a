variable {l : Launch} {D : va_G} {E : En} {A : Nat → Prop}
/-! a row of numbers: reading, writing, adding, clearing, copying -/
def rat (n : Nat) (f : FN) (i : Int32) : Int32 := if i < 0 then 0 else if Int32.ofNat n ≤ i then 0 else f i.toNatClampNeg
def rwr (n : Nat) (S : St) (k : Nat) (i x : Int32) : St := if i < 0 then S else if Int32.ofNat n ≤ i then S else sp S k i.toNatClampNeg x
def rad (n : Nat) (S : St) (k : Nat) (i x : Int32) : St := if i < 0 then S else if Int32.ofNat n ≤ i then S else sp S k i.toNatClampNeg (S k i.toNatClampNeg + x)
def rcl (n : Nat) (S : St) (k : Nat) : St := va_up S k (fun j => if j < n then 0 else S k j)
def rcp (G : Gs) (o k o' k' n : Nat) : Gs := va_up G o (va_up (G o) k (va_cpy (G o' k') (G o k) 0 0 n))
theorem row_in {i : Int32} {n : Nat} (hn : n < 2 ^ 31) (h1 : ¬ i < 0) (h2 : ¬ Int32.ofNat n ≤ i) : vp_in i n := by
  rcases pk_ix i hn with h | h | ⟨j, hj, rfl⟩
  · exact absurd h h1
  · exact absurd h h2
  · exact vp_in_nI hj hn
theorem k_row_at {G : Gs} {S : St} {o k n : Nat} {i r : Int32} (hn : n < 2 ^ 31) (hR : RowAt E o k n) (hf : rat n (S (k + 1)) i = r) : Ctr l D E A yX6_at cX6_at 2 (some .int) (rmD 0) [.ref (eA E o k), .int i] (wl E (va_up G o S)) (some (.int r)) (wl E (va_up G o S)) := by
  refine Ctr.of (own := RX6) pn_X6 rfl (Nat.le_of_ble_eq_true rfl) ?_
  intro p e s m args below meth c K
  refine v_lv (lv' := [(0, .ref (eA E o k)), (1, .int i)]) rfl ?_
  unfold rat at hf
  refine v_iload_n K 1 dX6_at_0 rfl rfl ?_
  refine v_if_lt (tgt := 22) K dX6_at_1 (by decide) (fun h1 => ?_) (fun h1 => ?_)
  · have hf := it_pos h1 hf
    refine v_iconst K dX6_at_22 ki_0 ?_
    exact v_iret K rfl dX6_at_23 (ev_v hf) rfl
  · have hf := it_neg h1 hf
    refine v_iload_n K 1 dX6_at_4 rfl rfl ?_
    refine v_aload_n K 0 dX6_at_5 rfl rfl ?_
    refine g_get K fk_X6_7 dX6_at_6 hR.1 (hR.2.2.1 _) rfl ?_
    refine g_alen K dX6_at_9 hR.2.1 hR.2.2.2 rfl ?_
    refine v_icmp_ge (tgt := 22) K dX6_at_10 (by decide) (fun h2 => ?_) (fun h2 => ?_)
    · have hf := it_pos h2 hf
      refine v_iconst K dX6_at_22 ki_0 ?_
      exact v_iret K rfl dX6_at_23 (ev_v hf) rfl
    · have hf := it_neg h2 hf
      refine v_aload_n K 0 dX6_at_13 rfl rfl ?_
      refine g_get K fk_X6_7 dX6_at_14 hR.1 (hR.2.2.1 _) rfl ?_
      refine v_iload_n K 1 dX6_at_17 rfl rfl ?_
      refine g_iald K dX6_at_18 hR.2.1 (hR.2.2.2 _) (row_in hn h1 h2) ?_
      refine v_goto (tgt := 23) K dX6_at_19 (by decide) ?_
      exact v_iret K rfl dX6_at_23 (ev_v hf) rfl
theorem k_row_write {G : Gs} {S S' : St} {o k n : Nat} {i x : Int32} (hn : n < 2 ^ 31) (hR : RowAt E o k n) (hf : rwr n S (k + 1) i x = S') : Ctr l D E A yX6_write cX6_write 3 none (rmD 0) [.ref (eA E o k), .int i, .int x] (wl E (va_up G o S)) none (wl E (va_up G o S')) := by
  refine Ctr.of (own := RX6) pn_X6 rfl (Nat.le_of_ble_eq_true rfl) ?_
  intro p e s m args below meth c K
  refine v_lv (lv' := [(0, .ref (eA E o k)), (1, .int i), (2, .int x)]) rfl ?_
  unfold rwr at hf
  refine v_iload_n K 1 dX6_write_0 rfl rfl ?_
  refine v_if_lt (tgt := 20) K dX6_write_1 (by decide) (fun h1 => ?_) (fun h1 => ?_)
  · have hf := it_pos h1 hf
    exact v_vret K rfl dX6_write_20 rfl (ew_v hf)
  · have hf := it_neg h1 hf
    refine v_iload_n K 1 dX6_write_4 rfl rfl ?_
    refine v_aload_n K 0 dX6_write_5 rfl rfl ?_
    refine g_get K fk_X6_7 dX6_write_6 hR.1 (hR.2.2.1 _) rfl ?_
    refine g_alen K dX6_write_9 hR.2.1 hR.2.2.2 rfl ?_
    refine v_icmp_ge (tgt := 20) K dX6_write_10 (by decide) (fun h2 => ?_) (fun h2 => ?_)
    · have hf := it_pos h2 hf
      exact v_vret K rfl dX6_write_20 rfl (ew_v hf)
    · have hf := it_neg h2 hf
      refine v_aload_n K 0 dX6_write_13 rfl rfl ?_
      refine g_get K fk_X6_7 dX6_write_14 hR.1 (hR.2.2.1 _) rfl ?_
      refine v_iload_n K 1 dX6_write_17 rfl rfl ?_
      refine v_iload_n K 2 dX6_write_18 rfl rfl ?_
      refine g_iast K dX6_write_19 hR.2.1 hR.2.2.2 (row_in hn h1 h2) hf.symm ?_
      exact v_vret K rfl dX6_write_20 rfl rfl
theorem k_row_add {G : Gs} {S S' : St} {o k n : Nat} {i x : Int32} (hn : n < 2 ^ 31) (hR : RowAt E o k n) (hf : rad n S (k + 1) i x = S') : Ctr l D E A yX6_add cX6_add 3 none (rmD 0) [.ref (eA E o k), .int i, .int x] (wl E (va_up G o S)) none (wl E (va_up G o S')) := by
  refine Ctr.of (own := RX6) pn_X6 rfl (Nat.le_of_ble_eq_true rfl) ?_
  intro p e s m args below meth c K
  refine v_lv (lv' := [(0, .ref (eA E o k)), (1, .int i), (2, .int x)]) rfl ?_
  unfold rad at hf
  refine v_iload_n K 1 dX6_add_0 rfl rfl ?_
  refine v_if_lt (tgt := 23) K dX6_add_1 (by decide) (fun h1 => ?_) (fun h1 => ?_)
  · have hf := it_pos h1 hf
    exact v_vret K rfl dX6_add_23 rfl (ew_v hf)
  · have hf := it_neg h1 hf
    refine v_iload_n K 1 dX6_add_4 rfl rfl ?_
    refine v_aload_n K 0 dX6_add_5 rfl rfl ?_
    refine g_get K fk_X6_7 dX6_add_6 hR.1 (hR.2.2.1 _) rfl ?_
    refine g_alen K dX6_add_9 hR.2.1 hR.2.2.2 rfl ?_
    refine v_icmp_ge (tgt := 23) K dX6_add_10 (by decide) (fun h2 => ?_) (fun h2 => ?_)
    · have hf := it_pos h2 hf
      exact v_vret K rfl dX6_add_23 rfl (ew_v hf)
    · have hf := it_neg h2 hf
      refine v_aload_n K 0 dX6_add_13 rfl rfl ?_
      refine g_get K fk_X6_7 dX6_add_14 hR.1 (hR.2.2.1 _) rfl ?_
      refine v_iload_n K 1 dX6_add_17 rfl rfl ?_
      refine v_dup2 K dX6_add_18 rfl rfl ?_
      refine g_iald K dX6_add_19 hR.2.1 (hR.2.2.2 _) (row_in hn h1 h2) ?_
      refine v_iload_n K 2 dX6_add_20 rfl rfl ?_
      refine v_iadd K dX6_add_21 ?_
      refine g_iast K dX6_add_22 hR.2.1 hR.2.2.2 (row_in hn h1 h2) hf.symm ?_
      exact v_vret K rfl dX6_add_23 rfl rfl
theorem k_fill {G : Gs} {S S' : St} {o k n : Nat} {x : Int32} (hn : n < 2 ^ 31) (hR : RowAt E o k n) (hf : va_up S (k + 1) (fun j => if j < n then x else S (k + 1) j) = S') : Ctr l D E A yJ7_fill_53178 cJ7_fill_53178 4 none (rmD 0) [.ref (eA E o (k + 1)), .int x] (wl E (va_up G o S)) none (wl E (va_up G o S')) := by
  refine Ctr.of (own := RJ7) pn_J7 rfl (Nat.le_of_ble_eq_true rfl) ?_
  intro p e s m args below meth c K
  refine v_lv (lv' := [(0, .ref (eA E o (k + 1))), (1, .int x)]) rfl ?_
  refine v_iconst K dJ7_fill_53178_0 ki_0 ?_
  refine v_istore_n (lv' := [(2, .int 0), (0, .ref (eA E o (k + 1))), (1, .int x)]) K dJ7_fill_53178_1 rfl (by decide) rfl ?_
  refine v_aload_n K 1 dJ7_fill_53178_2 rfl rfl ?_
  refine g_alen K dJ7_fill_53178_3 hR.2.1 hR.2.2.2 rfl ?_
  refine v_istore_n (lv' := [(3, .int (Int32.ofNat n)), (2, .int 0), (0, .ref (eA E o (k + 1))), (1, .int x)]) K dJ7_fill_53178_4 rfl (by decide) rfl ?_
  refine v_lsub (lv' := [(0, .ref (eA E o (k + 1))), (1, .int x), (2, .int 0), (3, .int (Int32.ofNat n))]) [2, 3, 1, 0] rfl ?_
  have L1 : ∀ (t j : Nat), j + t = n → ∀ S1 : St, S1 = va_up S (k + 1) (fun q => if q < j then x else S (k + 1) q) → VV p l e (rmD 0) s m args below meth c (MQ below (CQ D A none (wl E (va_up G o S'))) args s 0 0 A) D A 4 (0, 0) 5 [] [(0, .ref (eA E o (k + 1))), (1, .int x), (2, .int (nI j)), (3, .int (Int32.ofNat n))] (wl E (va_up G o S1)) := by
    intro t
    induction t with
    | zero =>
      intro j hj S1 h1
      obtain rfl : j = n := by omega
      refine v_iload_n K 2 dJ7_fill_53178_5 rfl rfl ?_
      refine v_iload_n K 3 dJ7_fill_53178_6 rfl rfl ?_
      refine v_icmp_ge (tgt := 20) K dJ7_fill_53178_7 (by decide) (fun h2 => ?_) (fun h2 => ?_)
      · exact v_vret K rfl dJ7_fill_53178_20 rfl (ew_v (h1.trans hf))
      · exact absurd (nI_le (Nat.le_refl j) hn) h2
    | succ t ih =>
      intro j hj S1 h1
      have hlt : j < n := by omega
      refine v_iload_n K 2 dJ7_fill_53178_5 rfl rfl ?_
      refine v_iload_n K 3 dJ7_fill_53178_6 rfl rfl ?_
      refine v_icmp_ge (tgt := 20) K dJ7_fill_53178_7 (by decide) (fun h2 => ?_) (fun h2 => ?_)
      · exact absurd h2 (nI_ge hlt hn)
      · refine v_aload_n K 0 dJ7_fill_53178_10 rfl rfl ?_
        refine v_iload_n K 2 dJ7_fill_53178_11 rfl rfl ?_
        refine v_iload_n K 1 dJ7_fill_53178_12 rfl rfl ?_
        refine g_iast K dJ7_fill_53178_13 hR.2.1 hR.2.2.2 (vp_in_nI hlt hn) rfl ?_
        refine v_iinc (v := nI (j + 1)) (lv' := [(2, .int (nI (j + 1))), (0, .ref (eA E o (k + 1))), (1, .int x), (3, .int (Int32.ofNat n))]) K 2 dJ7_fill_53178_14 rfl (nI_1 j) (by decide) rfl ?_
        refine v_goto (tgt := 5) K dJ7_fill_53178_17 (by decide) ?_
        refine v_lsub [1, 2, 0, 3] rfl ?_
        refine ih (j + 1) (by omega) _ ?_
        rw [nI_clamp (by omega), h1]
        unfold sp
        rw [up_up, up_self]
        congr 1
        funext q
        unfold upd
        by_cases hq : q = j
        · subst hq
          simp
        · by_cases hq2 : q < j
          · simp [hq, hq2, show q < j + 1 by omega]
          · simp [hq, hq2, show ¬ q < j + 1 by omega]
  exact L1 n 0 (by omega) S (by funext q; by_cases hq : q = k + 1 <;> simp [va_up, hq])
theorem k_row_clear {G : Gs} {S S' : St} {o k n : Nat} (hn : n < 2 ^ 31) (hR : RowAt E o k n) (hf : rcl n S (k + 1) = S') : Ctr l D E A yX6_clear cX6_clear 1 none (rmD 1) [.ref (eA E o k)] (wl E (va_up G o S)) none (wl E (va_up G o S')) := by
  refine Ctr.of (own := RX6) pn_X6 rfl (Nat.le_of_ble_eq_true rfl) ?_
  intro p e s m args below meth c K
  refine v_lv (lv' := [(0, .ref (eA E o k))]) rfl ?_
  refine v_aload_n K 0 dX6_clear_0 rfl rfl ?_
  refine g_get K fk_X6_7 dX6_clear_1 hR.1 (hR.2.2.1 _) rfl ?_
  refine v_iconst K dX6_clear_4 ki_0 ?_
  refine v_callS (As := [.ref (eA E o (k + 1)), .int 0]) (rest := []) K mk_X6_13 dX6_clear_5 (k_fill hn hR hf) rfl rfl (Nat.le_of_ble_eq_true rfl) ⟨rfl, rfl⟩ ⟨Nat.le_of_ble_eq_true rfl, Nat.le_of_ble_eq_true rfl⟩ ?_
  exact v_vret K rfl dX6_clear_8 rfl rfl
theorem k_row_copy {G : Gs} {o k o' k' n : Nat} (hn : n < 2 ^ 31) (hR : RowAt E o k n) (hR' : RowAt E o' k' n) : Ctr l D E A yX6_copyFrom cX6_copyFrom 2 none (rmD 1) [.ref (eA E o k), .ref (eA E o' k')] (wl E G) none (wl E (rcp G o (k + 1) o' (k' + 1) n)) := by
  refine Ctr.of (own := RX6) pn_X6 rfl (Nat.le_of_ble_eq_true rfl) ?_
  intro p e s m args below meth c K
  refine v_lv (lv' := [(0, .ref (eA E o k)), (1, .ref (eA E o' k'))]) rfl ?_
  refine v_aload_n K 1 dX6_copyFrom_0 rfl rfl ?_
  refine v_get K fk_X6_7 dX6_copyFrom_1 hR'.1 (hR'.2.2.1 _) rfl ?_
  refine v_iconst K dX6_copyFrom_4 ki_0 ?_
  refine v_aload_n K 0 dX6_copyFrom_5 rfl rfl ?_
  refine v_get K fk_X6_7 dX6_copyFrom_6 hR.1 (hR.2.2.1 _) rfl ?_
  refine v_iconst K dX6_copyFrom_9 ki_0 ?_
  refine v_aload_n K 1 dX6_copyFrom_10 rfl rfl ?_
  refine v_get K fk_X6_7 dX6_copyFrom_11 hR'.1 (hR'.2.2.1 _) rfl ?_
  refine v_alen K dX6_copyFrom_14 hR'.2.1 (hR'.2.2.2 _) rfl ?_
  refine v_aload_n K 0 dX6_copyFrom_15 rfl rfl ?_
  refine v_get K fk_X6_7 dX6_copyFrom_16 hR.1 (hR.2.2.1 _) rfl ?_
  refine v_alen K dX6_copyFrom_19 hR.2.1 (hR.2.2.2 _) rfl ?_
  intro H locs ls hcs hP hD hS hl
  refine va_mmin K.1 K.2.1 (K.2.2.1.trans hl.1.symm) K.2.2.2.1 (K.word mlX6_19) (K.word st_ib.Math.min.name) (K.word ini_javalangMath) (K.word co_ib.Math.min.name) (Nat.le_of_ble_eq_true rfl) (Nat.le_of_ble_eq_true rfl) hcs.1 hcs.2 dX6_copyFrom_20 ?_
  rw [if_neg Int32.lt_irrefl]
  obtain ⟨q0, hq0⟩ := wl_at G hR'.2.1
  obtain ⟨q1, hq1⟩ := wl_at G hR.2.1
  have hq1' := hq1
  rw [hR'.2.2.2] at hq0
  rw [hR.2.2.2] at hq1
  have e0 : (0 : Int32).toNatClampNeg = 0 := by decide
  refine va_copyi (ty := .int) K.1 K.2.1 (K.2.2.1.trans hl.1.symm) K.2.2.2.1 (K.word mlX6_25) (K.word nat_arraycopyName) (K.word st_rraycopyName) (K.word ini_javalangSystem) K.2.2.2.2.2.2.1.1 hP hD hS q0 q1 0 0 hq0 hq1 rfl rfl rfl (by decide) (by decide) (nI_pos hn) (by rw [e0]; show 0 + (nI n).toNatClampNeg ≤ n; rw [nI_clamp hn]; omega) (by rw [e0]; show 0 + (nI n).toNatClampNeg ≤ n; rw [nI_clamp hn]; omega) (fun _ _ => rfl) (Nat.le_of_ble_eq_true rfl) (Nat.le_of_ble_eq_true rfl) dX6_copyFrom_23 (fun H1 locs1 hP1 hD1 hS1 => ?_)
  have hset := wl_set (va_cpy (G o' (k' + 1)) (G o (k + 1)) 0 0 n) hD hR.2.1 hq1'
  rw [hR.2.2.2] at hset
  have en : (Int32.ofNat n).toNatClampNeg = n := nI_clamp hn
  rw [e0, en, hset] at hP1 hD1
  exact v_vret K rfl dX6_copyFrom_26 rfl rfl H1 locs1 ls hcs hP1 hD1 hS1 hl
