variable {l : Launch} {D : va_G} {E : En} {A : Nat → Prop}
set_option maxRecDepth 20000 in
theorem c_X0_cellOf {G : Gs} {o b : Nat} (ho : o = b + 2) (hL : LibG E b) {S : St}  {x1 : Int32} {r : Int32} (hf : f_X0_cellOf S x1 = r) : Ctr l D E A yX0_cellOf cX0_cellOf 2 (some .int) (rmD 0) [.ref (eA E o 21), .int x1] (wl E (va_up G o S)) (some (.int r)) (wl E (va_up G o S)) := by
  subst ho
  refine Ctr.of (own := RX0) pn_X0 rfl (Nat.le_of_ble_eq_true rfl) ?_
  intro p e s m args below meth c K
  refine v_lv (lv' := [(0, .ref (eA E (b + 2) 21)), (1, .int x1)]) rfl ?_
  unfold f_X0_cellOf at hf
  refine v_aload_n K 0 dX0_cellOf_0 rfl rfl ?_
  refine g_get K fk_X0_26 dX0_cellOf_1 (hL 21 (by decide)) rfl rfl ?_
  refine v_iload_n K 1 dX0_cellOf_4 rfl rfl ?_
  refine v_iadd K dX0_cellOf_5 ?_
  refine v_bipush K dX0_cellOf_6 kb_60 ?_
  refine v_irem K dX0_cellOf_8 (by decide) ?_
  exact v_iret K rfl dX0_cellOf_9 (ev_v hf) rfl
set_option maxRecDepth 20000 in
theorem c_X0_append {G : Gs} {o b : Nat} (ho : o = b + 2) (hL : LibG E b) {S S' : St}  {x1 : Int32} {x2 : Int32} {x3 : Int32} (hf : f_X0_append S x1 x2 x3 = S') : Ctr l D E A yX0_append cX0_append 5 none (rmD 1) [.ref (eA E o 21), .int x1, .int x2, .int x3] (wl E (va_up G o S)) none (wl E (va_up G o S')) := by
  subst ho
  refine Ctr.of (own := RX0) pn_X0 rfl (Nat.le_of_ble_eq_true rfl) ?_
  intro p e s m args below meth c K
  refine v_lv (lv' := [(0, .ref (eA E (b + 2) 21)), (1, .int x1), (2, .int x2), (3, .int x3)]) rfl ?_
  unfold f_X0_append at hf
  refine v_aload_n K 0 dX0_append_0 rfl rfl ?_
  refine v_aload_n K 0 dX0_append_1 rfl rfl ?_
  refine g_get K fk_X0_30 dX0_append_2 (hL 21 (by decide)) rfl rfl ?_
  refine v_callWi (As := [.int (S 21 4)]) (rest := []) K mk_X0_33 dX0_append_5 (c_X0_cellOf (o := b + 2) rfl hL rfl) (hL 21 (by decide)) rfl rfl rfl rfl rfl (Nat.le_of_ble_eq_true rfl) ⟨rfl, rfl⟩ ⟨Nat.le_of_ble_eq_true rfl, Nat.le_of_ble_eq_true rfl⟩ ?_
  refine v_istore (lv' := [(4, .int (f_X0_cellOf S (S 21 4))), (0, .ref (eA E (b + 2) 21)), (1, .int x1), (2, .int x2), (3, .int x3)]) K dX0_append_8 (by decide) rfl ?_
  refine v_aload_n K 1 dX0_append_10 rfl rfl ?_
  refine g_get K fk_X0_14 dX0_append_11 (hL 21 (by decide)) rfl rfl ?_
  refine v_iload K 0 dX0_append_14 rfl ?_
  refine v_iload_n K 2 dX0_append_16 rfl rfl ?_
  obtain ⟨S1, hS1, hf⟩ := bnd_el hf
  refine v_callWn (As := [.int (f_X0_cellOf S (S 21 4)), .int x1]) (rest := []) K mk_X0_37 dX0_append_17 (k_row_write (Nat.le_of_ble_eq_true rfl) (rl_22 (o := b + 2) rfl hL) hS1.symm) (hL 22 (by decide)) rfl rfl rfl rfl rfl (Nat.le_of_ble_eq_true rfl) ⟨rfl, rfl⟩ ⟨Nat.le_of_ble_eq_true rfl, Nat.le_of_ble_eq_true rfl⟩ ?_
  refine v_aload_n K 1 dX0_append_20 rfl rfl ?_
  refine g_get K fk_X0_20 dX0_append_21 (hL 21 (by decide)) rfl rfl ?_
  refine v_iload K 0 dX0_append_24 rfl ?_
  refine v_iload_n K 3 dX0_append_26 rfl rfl ?_
  obtain ⟨S2, hS2, hf⟩ := bnd_el hf
  refine v_callWn (As := [.int (f_X0_cellOf S (S 21 4)), .int x2]) (rest := []) K mk_X0_37 dX0_append_27 (k_row_write (Nat.le_of_ble_eq_true rfl) (rl_24 (o := b + 2) rfl hL) hS2.symm) (hL 24 (by decide)) rfl rfl rfl rfl rfl (Nat.le_of_ble_eq_true rfl) ⟨rfl, rfl⟩ ⟨Nat.le_of_ble_eq_true rfl, Nat.le_of_ble_eq_true rfl⟩ ?_
  refine v_aload_n K 1 dX0_append_30 rfl rfl ?_
  refine g_get K fk_X0_23 dX0_append_31 (hL 21 (by decide)) rfl rfl ?_
  refine v_iload K 0 dX0_append_34 rfl ?_
  refine v_iload_n K 4 dX0_append_36 rfl rfl ?_
  obtain ⟨S3, hS3, hf⟩ := bnd_el hf
  refine v_callWn (As := [.int (f_X0_cellOf S (S 21 4)), .int x3]) (rest := []) K mk_X0_37 dX0_append_37 (k_row_write (Nat.le_of_ble_eq_true rfl) (rl_26 (o := b + 2) rfl hL) hS3.symm) (hL 26 (by decide)) rfl rfl rfl rfl rfl (Nat.le_of_ble_eq_true rfl) ⟨rfl, rfl⟩ ⟨Nat.le_of_ble_eq_true rfl, Nat.le_of_ble_eq_true rfl⟩ ?_
  refine v_aload_n K 1 dX0_append_40 rfl rfl ?_
  refine g_get K fk_X0_30 dX0_append_41 (hL 21 (by decide)) rfl rfl ?_
  refine v_bipush K dX0_append_44 kb_60 ?_
  refine v_icmp_ge (tgt := 62) K dX0_append_46 (by decide) (fun hc1 => ?_) (fun hc1 => ?_)
  · have hf := it_pos hc1 hf
    refine v_aload_n K 1 dX0_append_62 rfl rfl ?_
    refine v_aload_n K 1 dX0_append_63 rfl rfl ?_
    refine v_iconst K dX0_append_64 ki_1 ?_
    refine v_callWi (As := [.int 1]) (rest := [.ref (eA E (b + 2) 21)]) K mk_X0_33 dX0_append_65 (c_X0_cellOf (o := b + 2) rfl hL rfl) (hL 21 (by decide)) rfl rfl rfl rfl rfl (Nat.le_of_ble_eq_true rfl) ⟨rfl, rfl⟩ ⟨Nat.le_of_ble_eq_true rfl, Nat.le_of_ble_eq_true rfl⟩ ?_
    obtain ⟨S4, hS4, hf⟩ := bnd_el hf
    refine g_put K fp_X0_26 dX0_append_68 (hL 21 (by decide)) rfl 3 (Nat.le_of_ble_eq_true rfl) rfl rfl rfl hS4 ?_
    exact v_vret K rfl dX0_append_71 rfl (ew_v hf)
  · have hf := it_neg hc1 hf
    refine v_aload_n K 1 dX0_append_49 rfl rfl ?_
    refine v_dup K dX0_append_50 rfl ?_
    refine g_get K fk_X0_30 dX0_append_51 (hL 21 (by decide)) rfl rfl ?_
    refine v_iconst K dX0_append_54 ki_1 ?_
    refine v_iadd K dX0_append_55 ?_
    obtain ⟨S5, hS5, hf⟩ := bnd_el hf
    refine g_put K fp_X0_30 dX0_append_56 (hL 21 (by decide)) rfl 4 (Nat.le_of_ble_eq_true rfl) rfl rfl rfl hS5 ?_
    refine v_goto (tgt := 71) K dX0_append_59 (by decide) ?_
    exact v_vret K rfl dX0_append_71 rfl (ew_v hf)
set_option maxRecDepth 20000 in
theorem c_X0_clear {G : Gs} {o b : Nat} (ho : o = b + 2) (hL : LibG E b) {S S' : St}  (hf : f_X0_clear S = S') : Ctr l D E A yX0_clear cX0_clear 1 none (rmD 0) [.ref (eA E o 21)] (wl E (va_up G o S)) none (wl E (va_up G o S')) := by
  subst ho
  refine Ctr.of (own := RX0) pn_X0 rfl (Nat.le_of_ble_eq_true rfl) ?_
  intro p e s m args below meth c K
  refine v_lv (lv' := [(0, .ref (eA E (b + 2) 21))]) rfl ?_
  unfold f_X0_clear at hf
  refine v_aload_n K 0 dX0_clear_0 rfl rfl ?_
  refine v_iconst K dX0_clear_1 ki_0 ?_
  obtain ⟨S1, hS1, hf⟩ := bnd_el hf
  refine g_put K fp_X0_26 dX0_clear_2 (hL 21 (by decide)) rfl 3 (Nat.le_of_ble_eq_true rfl) rfl rfl rfl hS1 ?_
  refine v_aload_n K 0 dX0_clear_5 rfl rfl ?_
  refine v_iconst K dX0_clear_6 ki_0 ?_
  obtain ⟨S2, hS2, hf⟩ := bnd_el hf
  refine g_put K fp_X0_30 dX0_clear_7 (hL 21 (by decide)) rfl 4 (Nat.le_of_ble_eq_true rfl) rfl rfl rfl hS2 ?_
  exact v_vret K rfl dX0_clear_10 rfl (ew_v hf)
set_option maxRecDepth 20000 in
theorem c_X8_isIn {ws : va_W}  {x0 : Int32} {x1 : Int32} {r : Int32} (hf : f_X8_isIn x0 x1 = r) : Ctr l D E A yX8_isIn cX8_isIn 2 (some .boolean) (rmD 0) [.int x0, .int x1] (ws) (some (.int r)) (ws) := by
  refine Ctr.of (own := RX8) pn_X8 rfl (Nat.le_of_ble_eq_true rfl) ?_
  intro p e s m args below meth c K
  refine v_lv (lv' := [(0, .int x0), (1, .int x1)]) rfl ?_
  unfold f_X8_isIn at hf
  refine v_iload_n K 1 dX8_isIn_0 rfl rfl ?_
  refine v_iload_n K 0 dX8_isIn_1 rfl rfl ?_
  refine v_ishr K dX8_isIn_2 ?_
  refine v_iconst K dX8_isIn_3 ki_1 ?_
  refine v_iand K dX8_isIn_4 ?_
  refine v_if_eq (tgt := 12) K dX8_isIn_5 (by decide) (fun hc1 => ?_) (fun hc1 => ?_)
  · have hf := it_pos hc1 hf
    refine v_iconst K dX8_isIn_12 ki_0 ?_
    exact v_zret K rfl dX8_isIn_13 (Or.inl rfl) (ev_v hf) rfl
  · have hf := it_neg hc1 hf
    refine v_iconst K dX8_isIn_8 ki_1 ?_
    refine v_goto (tgt := 13) K dX8_isIn_9 (by decide) ?_
    exact v_zret K rfl dX8_isIn_13 (Or.inr rfl) (ev_v hf) rfl
theorem b_X8_isIn  {x0 : Int32} {x1 : Int32} : f_X8_isIn x0 x1 = 0 ∨ f_X8_isIn x0 x1 = 1 := by
  unfold f_X8_isIn
  repeat' split
  all_goals first | exact Or.inl rfl | exact Or.inr rfl
set_option maxRecDepth 20000 in
theorem c_X1_isOwnedBy {G : Gs} {o b : Nat} (ho : o = b + 2) (hL : LibG E b) {S : St}  {x1 : Int32} {x2 : Int32} {r : Int32} (hf : f_X1_isOwnedBy S x1 x2 = r) : Ctr l D E A yX1_isOwnedBy cX1_isOwnedBy 3 (some .boolean) (rmD 1) [.ref (eA E o 5), .int x1, .int x2] (wl E (va_up G o S)) (some (.int r)) (wl E (va_up G o S)) := by
  subst ho
  refine Ctr.of (own := RX1) pn_X1 rfl (Nat.le_of_ble_eq_true rfl) ?_
  intro p e s m args below meth c K
  refine v_lv (lv' := [(0, .ref (eA E (b + 2) 5)), (1, .int x1), (2, .int x2)]) rfl ?_
  unfold f_X1_isOwnedBy at hf
  refine v_aload_n K 0 dX1_isOwnedBy_0 rfl rfl ?_
  refine g_get K fk_X1_14 dX1_isOwnedBy_1 (hL 5 (by decide)) rfl rfl ?_
  refine v_iload_n K 1 dX1_isOwnedBy_4 rfl rfl ?_
  refine v_callWi (As := [.int x1]) (rest := []) K mk_X1_23 dX1_isOwnedBy_5 (k_row_at (Nat.le_of_ble_eq_true rfl) (rl_6 (o := b + 2) rfl hL) rfl) (hL 6 (by decide)) rfl rfl rfl rfl rfl (Nat.le_of_ble_eq_true rfl) ⟨rfl, rfl⟩ ⟨Nat.le_of_ble_eq_true rfl, Nat.le_of_ble_eq_true rfl⟩ ?_
  refine v_iconst K dX1_isOwnedBy_8 ki_3 ?_
  refine v_icmp_ne (tgt := 31) K dX1_isOwnedBy_9 (by decide) (fun hc1 => ?_) (fun hc1 => ?_)
  · have hf := it_neg hc1 hf
    refine v_iconst K dX1_isOwnedBy_31 ki_0 ?_
    exact v_zret K rfl dX1_isOwnedBy_32 (Or.inl rfl) (ev_v hf) rfl
  · have hf := it_pos hc1 hf
    refine v_iload_n K 2 dX1_isOwnedBy_12 rfl rfl ?_
    refine v_aload_n K 0 dX1_isOwnedBy_13 rfl rfl ?_
    refine g_get K fk_X1_20 dX1_isOwnedBy_14 (hL 5 (by decide)) rfl rfl ?_
    refine v_iload_n K 1 dX1_isOwnedBy_17 rfl rfl ?_
    refine v_callWi (As := [.int x1]) (rest := [.int x2]) K mk_X1_23 dX1_isOwnedBy_18 (k_row_at (Nat.le_of_ble_eq_true rfl) (rl_8 (o := b + 2) rfl hL) rfl) (hL 8 (by decide)) rfl rfl rfl rfl rfl (Nat.le_of_ble_eq_true rfl) ⟨rfl, rfl⟩ ⟨Nat.le_of_ble_eq_true rfl, Nat.le_of_ble_eq_true rfl⟩ ?_
    refine v_callSNi (As := [.int x2, .int (rat 24 (S 9) x1)]) (rest := []) K mk_X1_27 dX1_isOwnedBy_21 (c_X8_isIn  rfl) rfl rfl (Nat.le_of_ble_eq_true rfl) ⟨rfl, rfl⟩ ⟨Nat.le_of_ble_eq_true rfl, Nat.le_of_ble_eq_true rfl⟩ ?_
    refine v_if_eq (tgt := 31) K dX1_isOwnedBy_24 (by decide) (fun hc2 => ?_) (fun hc2 => ?_)
    · have hf := it_pos hc2 hf
      refine v_iconst K dX1_isOwnedBy_31 ki_0 ?_
      exact v_zret K rfl dX1_isOwnedBy_32 (Or.inl rfl) (ev_v hf) rfl
    · have hf := it_neg hc2 hf
      refine v_iconst K dX1_isOwnedBy_27 ki_1 ?_
      refine v_goto (tgt := 32) K dX1_isOwnedBy_28 (by decide) ?_
      exact v_zret K rfl dX1_isOwnedBy_32 (Or.inr rfl) (ev_v hf) rfl
theorem b_X1_isOwnedBy {S : St}  {x1 : Int32} {x2 : Int32} : f_X1_isOwnedBy S x1 x2 = 0 ∨ f_X1_isOwnedBy S x1 x2 = 1 := by
  unfold f_X1_isOwnedBy
  repeat' split
  all_goals first | exact Or.inl rfl | exact Or.inr rfl | exact b_X8_isIn
set_option maxRecDepth 20000 in
theorem c_X8_groupOf {ws : va_W}  {x0 : Int32} {x1 : Int32} {r : Int32} (hf : f_X8_groupOf x0 x1 = r) : Ctr l D E A yX8_groupOf cX8_groupOf 2 (some .int) (rmD 0) [.int x0, .int x1] (ws) (some (.int r)) (ws) := by
  refine Ctr.of (own := RX8) pn_X8 rfl (Nat.le_of_ble_eq_true rfl) ?_
  intro p e s m args below meth c K
  refine v_lv (lv' := [(0, .int x0), (1, .int x1)]) rfl ?_
  unfold f_X8_groupOf at hf
  refine v_iload_n K 1 dX8_groupOf_0 rfl rfl ?_
  refine v_if_le (tgt := 10) K dX8_groupOf_1 (by decide) (fun hc1 => ?_) (fun hc1 => ?_)
  · have hf := it_pos hc1 hf
    refine v_iconst K dX8_groupOf_10 ki_0 ?_
    exact v_iret K rfl dX8_groupOf_11 (ev_v hf) rfl
  · have hf := it_neg hc1 hf
    refine v_iload_n K 0 dX8_groupOf_4 rfl rfl ?_
    refine v_iload_n K 1 dX8_groupOf_5 rfl rfl ?_
    refine v_idiv K dX8_groupOf_6 (fun h0 => absurd hc1 (by rw [h0]; decide)) ?_
    refine v_goto (tgt := 11) K dX8_groupOf_7 (by decide) ?_
    exact v_iret K rfl dX8_groupOf_11 (ev_v hf) rfl
set_option maxRecDepth 20000 in
theorem c_X8_only {ws : va_W}  {x0 : Int32} {r : Int32} (hf : f_X8_only x0 = r) : Ctr l D E A yX8_only cX8_only 1 (some .int) (rmD 0) [.int x0] (ws) (some (.int r)) (ws) := by
  refine Ctr.of (own := RX8) pn_X8 rfl (Nat.le_of_ble_eq_true rfl) ?_
  intro p e s m args below meth c K
  refine v_lv (lv' := [(0, .int x0)]) rfl ?_
  unfold f_X8_only at hf
  refine v_iconst K dX8_only_0 ki_1 ?_
  refine v_iload_n K 0 dX8_only_1 rfl rfl ?_
  refine v_ishl K dX8_only_2 ?_
  exact v_iret K rfl dX8_only_3 (ev_v hf) rfl
set_option maxRecDepth 20000 in
theorem c_X1_called {G : Gs} {o b : Nat} (ho : o = b + 2) (hL : LibG E b) {S : St}  {x1 : Int32} {x2 : Int32} {r : Int32} (hf : f_X1_called S x1 x2 = some r) : Ctr l D E A yX1_called cX1_called 6 (some .int) (rmD 1) [.ref (eA E o 5), .int x1, .int x2] (wl E (va_up G o S)) (some (.int r)) (wl E (va_up G o S)) := by
  subst ho
  refine Ctr.of (own := RX1) pn_X1 rfl (Nat.le_of_ble_eq_true rfl) ?_
  intro p e s m args below meth c K
  refine v_lv (lv' := [(0, .ref (eA E (b + 2) 5)), (1, .int x1), (2, .int x2)]) rfl ?_
  have L29 : ∀ (x2 : Int32) (x3 : Int32) (S : St), ∀ (n : Nat) (x4 : Int32) (x5 : Int32), f_X1_called_L29 x2 x3 S n x4 x5 = some r → VV p l e (rmD 1) s m args below meth c (MQ below (CQ D A (some (.int r)) (wl E (va_up G (b + 2) S))) args s 0 0 A) D A 6 (0, 0) 29 [] [(2, .int x2), (3, .int x3), (4, .int x4), (5, .int x5)] (wl E (va_up G (b + 2) S)) := by
    intro x2 x3 S n
    induction n with
    | zero =>
      intro x4 x5 hf
      rw [f_X1_called_L29] at hf
      cases hf
    | succ n ih =>
      intro x4 x5 hf
      rw [f_X1_called_L29] at hf
      refine v_iload K 3 dX1_called_29 rfl ?_
      refine v_bipush K dX1_called_31 kb_16 ?_
      refine v_icmp_ge (tgt := 65) K dX1_called_33 (by decide) (fun hc2 => ?_) (fun hc2 => ?_)
      · have hf := it_pos hc2 hf
        refine v_iload K 2 dX1_called_65 rfl ?_
        exact v_iret K rfl dX1_called_67 (ev_o hf) rfl
      · have hf := it_neg hc2 hf
        refine v_iload K 3 dX1_called_36 rfl ?_
        refine v_iload_n K 0 dX1_called_38 rfl rfl ?_
        refine v_callSNi (As := [.int x5, .int x2]) (rest := []) K mk_X1_31 dX1_called_39 (c_X8_groupOf  rfl) rfl rfl (Nat.le_of_ble_eq_true rfl) ⟨rfl, rfl⟩ ⟨Nat.le_of_ble_eq_true rfl, Nat.le_of_ble_eq_true rfl⟩ ?_
        refine v_iload_n K 1 dX1_called_42 rfl rfl ?_
        refine v_callSNi (As := [.int (f_X8_groupOf x5 x2), .int x3]) (rest := []) K mk_X1_27 dX1_called_43 (c_X8_isIn  rfl) rfl rfl (Nat.le_of_ble_eq_true rfl) ⟨rfl, rfl⟩ ⟨Nat.le_of_ble_eq_true rfl, Nat.le_of_ble_eq_true rfl⟩ ?_
        have hj1 : ∀ (w1 : Int32), w1 = (if (f_X8_isIn (f_X8_groupOf x5 x2) x3) = 0 then x4 else (x4 ||| (f_X8_only x5)) : Int32) → VV p l e (rmD 1) s m args below meth c (MQ below (CQ D A (some (.int r)) (wl E (va_up G (b + 2) S))) args s 0 0 A) D A 6 (0, 0) 59 [] [(2, .int x2), (3, .int x3), (4, .int w1), (5, .int x5)] (wl E (va_up G (b + 2) S)) := by
          intro w1 ew1
          subst ew1
          refine v_iinc (v := x5 + 1) (lv' := [(5, .int (x5 + 1)), (2, .int x2), (3, .int x3), (4, .int (if (f_X8_isIn (f_X8_groupOf x5 x2) x3) = 0 then x4 else (x4 ||| (f_X8_only x5)) : Int32))]) K 3 dX1_called_59 rfl rfl (by decide) rfl ?_
          refine v_goto (tgt := 29) K dX1_called_62 (by decide) ?_
          exact v_lsub [1, 2, 3, 0] rfl (ih (if (f_X8_isIn (f_X8_groupOf x5 x2) x3) = 0 then x4 else (x4 ||| (f_X8_only x5)) : Int32) (x5 + 1) hf)
        refine v_if_eq (tgt := 59) K dX1_called_46 (by decide) (fun hc3 => ?_) (fun hc3 => ?_)
        · exact v_lsub [0, 1, 2, 3] rfl (hj1 x4 (if_pos hc3).symm)
        · refine v_iload K 2 dX1_called_49 rfl ?_
          refine v_iload K 3 dX1_called_51 rfl ?_
          refine v_callSNi (As := [.int x5]) (rest := [.int x4]) K mk_X1_35 dX1_called_53 (c_X8_only  rfl) rfl rfl (Nat.le_of_ble_eq_true rfl) ⟨rfl, rfl⟩ ⟨Nat.le_of_ble_eq_true rfl, Nat.le_of_ble_eq_true rfl⟩ ?_
          refine v_ior K dX1_called_56 ?_
          refine v_istore (lv' := [(4, .int (x4 ||| (f_X8_only x5))), (2, .int x2), (3, .int x3), (5, .int x5)]) K dX1_called_57 (by decide) rfl ?_
          exact v_lsub [1, 2, 0, 3] rfl (hj1 (x4 ||| (f_X8_only x5)) (if_neg hc3).symm)
  unfold f_X1_called at hf
  refine v_aload_n K 0 dX1_called_0 rfl rfl ?_
  refine g_get K fk_X1_20 dX1_called_1 (hL 5 (by decide)) rfl rfl ?_
  refine v_iload_n K 1 dX1_called_4 rfl rfl ?_
  refine v_callWi (As := [.int x1]) (rest := []) K mk_X1_23 dX1_called_5 (k_row_at (Nat.le_of_ble_eq_true rfl) (rl_8 (o := b + 2) rfl hL) rfl) (hL 8 (by decide)) rfl rfl rfl rfl rfl (Nat.le_of_ble_eq_true rfl) ⟨rfl, rfl⟩ ⟨Nat.le_of_ble_eq_true rfl, Nat.le_of_ble_eq_true rfl⟩ ?_
  refine v_istore_n (lv' := [(3, .int (rat 24 (S 9) x1)), (0, .ref (eA E (b + 2) 5)), (1, .int x1), (2, .int x2)]) K dX1_called_8 rfl (by decide) rfl ?_
  refine v_aload_n K 1 dX1_called_9 rfl rfl ?_
  refine g_get K fk_X1_14 dX1_called_10 (hL 5 (by decide)) rfl rfl ?_
  refine v_iload_n K 2 dX1_called_13 rfl rfl ?_
  refine v_callWi (As := [.int x1]) (rest := []) K mk_X1_23 dX1_called_14 (k_row_at (Nat.le_of_ble_eq_true rfl) (rl_6 (o := b + 2) rfl hL) rfl) (hL 6 (by decide)) rfl rfl rfl rfl rfl (Nat.le_of_ble_eq_true rfl) ⟨rfl, rfl⟩ ⟨Nat.le_of_ble_eq_true rfl, Nat.le_of_ble_eq_true rfl⟩ ?_
  refine v_iconst K dX1_called_17 ki_2 ?_
  refine v_icmp_eq (tgt := 23) K dX1_called_18 (by decide) (fun hc1 => ?_) (fun hc1 => ?_)
  · have hf := it_pos hc1 hf
    refine v_iconst K dX1_called_23 ki_0 ?_
    refine v_istore (lv' := [(4, .int 0), (3, .int (rat 24 (S 9) x1)), (0, .ref (eA E (b + 2) 5)), (1, .int x1), (2, .int x2)]) K dX1_called_24 (by decide) rfl ?_
    refine v_iconst K dX1_called_26 ki_0 ?_
    refine v_istore (lv' := [(5, .int 0), (4, .int 0), (3, .int (rat 24 (S 9) x1)), (0, .ref (eA E (b + 2) 5)), (1, .int x1), (2, .int x2)]) K dX1_called_27 (by decide) rfl ?_
    refine v_lsub [5, 2, 1, 0] rfl ?_
    exact L29 x2 (rat 24 (S 9) x1) S 5000 0 0 hf
  · have hf := it_neg hc1 hf
    refine v_iload_n K 0 dX1_called_21 rfl rfl ?_
    exact v_iret K rfl dX1_called_22 (ev_o hf) rfl
set_option maxRecDepth 20000 in
theorem c_X1_become {G : Gs} {o b : Nat} (ho : o = b + 2) (hL : LibG E b) {S S' : St}  {x1 : Int32} {x2 : Int32} {x3 : Int32} (hf : f_X1_become S x1 x2 x3 = S') : Ctr l D E A yX1_become cX1_become 4 none (rmD 1) [.ref (eA E o 5), .int x1, .int x2, .int x3] (wl E (va_up G o S)) none (wl E (va_up G o S')) := by
  subst ho
  refine Ctr.of (own := RX1) pn_X1 rfl (Nat.le_of_ble_eq_true rfl) ?_
  intro p e s m args below meth c K
  refine v_lv (lv' := [(0, .ref (eA E (b + 2) 5)), (1, .int x1), (2, .int x2), (3, .int x3)]) rfl ?_
  unfold f_X1_become at hf
  refine v_aload_n K 0 dX1_become_0 rfl rfl ?_
  refine g_get K fk_X1_14 dX1_become_1 (hL 5 (by decide)) rfl rfl ?_
  refine v_iload_n K 1 dX1_become_4 rfl rfl ?_
  refine v_iload_n K 2 dX1_become_5 rfl rfl ?_
  obtain ⟨S1, hS1, hf⟩ := bnd_el hf
  refine v_callWn (As := [.int x1, .int x2]) (rest := []) K mk_X1_38 dX1_become_6 (k_row_write (Nat.le_of_ble_eq_true rfl) (rl_6 (o := b + 2) rfl hL) hS1.symm) (hL 6 (by decide)) rfl rfl rfl rfl rfl (Nat.le_of_ble_eq_true rfl) ⟨rfl, rfl⟩ ⟨Nat.le_of_ble_eq_true rfl, Nat.le_of_ble_eq_true rfl⟩ ?_
  refine v_aload_n K 0 dX1_become_9 rfl rfl ?_
  refine g_get K fk_X1_20 dX1_become_10 (hL 5 (by decide)) rfl rfl ?_
  refine v_iload_n K 1 dX1_become_13 rfl rfl ?_
  refine v_iload_n K 3 dX1_become_14 rfl rfl ?_
  obtain ⟨S2, hS2, hf⟩ := bnd_el hf
  refine v_callWn (As := [.int x1, .int x3]) (rest := []) K mk_X1_38 dX1_become_15 (k_row_write (Nat.le_of_ble_eq_true rfl) (rl_8 (o := b + 2) rfl hL) hS2.symm) (hL 8 (by decide)) rfl rfl rfl rfl rfl (Nat.le_of_ble_eq_true rfl) ⟨rfl, rfl⟩ ⟨Nat.le_of_ble_eq_true rfl, Nat.le_of_ble_eq_true rfl⟩ ?_
  exact v_vret K rfl dX1_become_18 rfl (ew_v hf)
set_option maxRecDepth 20000 in
theorem c_J6_bitCount_0f7a4 {ws : va_W}  {x0 : Int32} {r : Int32} (hf : f_J6_bitCount_0f7a4 x0 = r) : Ctr l D E A yJ6_bitCount_0f7a4 cJ6_bitCount_0f7a4 1 (some .int) (rmD 0) [.int x0] (ws) (some (.int r)) (ws) := by
  refine Ctr.of (own := RJ6) pn_J6 rfl (Nat.le_of_ble_eq_true rfl) ?_
  intro p e s m args below meth c K
  refine v_lv (lv' := [(0, .int x0)]) rfl ?_
  unfold f_J6_bitCount_0f7a4 at hf
  refine v_iload_n K 0 dJ6_bitCount_0f7a4_0 rfl rfl ?_
  refine v_iload_n K 0 dJ6_bitCount_0f7a4_1 rfl rfl ?_
  refine v_iconst K dJ6_bitCount_0f7a4_2 ki_1 ?_
  refine v_iushr K dJ6_bitCount_0f7a4_3 ?_
  refine v_ldcw K dJ6_bitCount_0f7a4_4 kcJ6_265 ?_
  refine v_iand K dJ6_bitCount_0f7a4_7 ?_
  refine v_isub K dJ6_bitCount_0f7a4_8 ?_
  refine v_istore_n (lv' := [(0, .int (x0 - (((x0.toUInt32 >>> ((1 : Int32).toUInt32 &&& Int32.toUInt32 31)).toInt32) &&& 1431655765)))]) K dJ6_bitCount_0f7a4_9 rfl (by decide) rfl ?_
  refine v_iload_n K 0 dJ6_bitCount_0f7a4_10 rfl rfl ?_
  refine v_ldcw K dJ6_bitCount_0f7a4_11 kcJ6_266 ?_
  refine v_iand K dJ6_bitCount_0f7a4_14 ?_
  refine v_iload_n K 0 dJ6_bitCount_0f7a4_15 rfl rfl ?_
  refine v_iconst K dJ6_bitCount_0f7a4_16 ki_2 ?_
  refine v_iushr K dJ6_bitCount_0f7a4_17 ?_
  refine v_ldcw K dJ6_bitCount_0f7a4_18 kcJ6_266 ?_
  refine v_iand K dJ6_bitCount_0f7a4_21 ?_
  refine v_iadd K dJ6_bitCount_0f7a4_22 ?_
  refine v_istore_n (lv' := [(0, .int (((x0 - (((x0.toUInt32 >>> ((1 : Int32).toUInt32 &&& Int32.toUInt32 31)).toInt32) &&& 1431655765)) &&& 858993459) + ((((x0 - (((x0.toUInt32 >>> ((1 : Int32).toUInt32 &&& Int32.toUInt32 31)).toInt32) &&& 1431655765)).toUInt32 >>> ((2 : Int32).toUInt32 &&& Int32.toUInt32 31)).toInt32) &&& 858993459)))]) K dJ6_bitCount_0f7a4_23 rfl (by decide) rfl ?_
  refine v_iload_n K 0 dJ6_bitCount_0f7a4_24 rfl rfl ?_
  refine v_iload_n K 0 dJ6_bitCount_0f7a4_25 rfl rfl ?_
  refine v_iconst K dJ6_bitCount_0f7a4_26 ki_4 ?_
  refine v_iushr K dJ6_bitCount_0f7a4_27 ?_
  refine v_iadd K dJ6_bitCount_0f7a4_28 ?_
  refine v_ldcw K dJ6_bitCount_0f7a4_29 kcJ6_267 ?_
  refine v_iand K dJ6_bitCount_0f7a4_32 ?_
  refine v_istore_n (lv' := [(0, .int (((((x0 - (((x0.toUInt32 >>> ((1 : Int32).toUInt32 &&& Int32.toUInt32 31)).toInt32) &&& 1431655765)) &&& 858993459) + ((((x0 - (((x0.toUInt32 >>> ((1 : Int32).toUInt32 &&& Int32.toUInt32 31)).toInt32) &&& 1431655765)).toUInt32 >>> ((2 : Int32).toUInt32 &&& Int32.toUInt32 31)).toInt32) &&& 858993459)) + (((((x0 - (((x0.toUInt32 >>> ((1 : Int32).toUInt32 &&& Int32.toUInt32 31)).toInt32) &&& 1431655765)) &&& 858993459) + ((((x0 - (((x0.toUInt32 >>> ((1 : Int32).toUInt32 &&& Int32.toUInt32 31)).toInt32) &&& 1431655765)).toUInt32 >>> ((2 : Int32).toUInt32 &&& Int32.toUInt32 31)).toInt32) &&& 858993459)).toUInt32 >>> ((4 : Int32).toUInt32 &&& Int32.toUInt32 31)).toInt32)) &&& 252645135))]) K dJ6_bitCount_0f7a4_33 rfl (by decide) rfl ?_
  refine v_iload_n K 0 dJ6_bitCount_0f7a4_34 rfl rfl ?_
  refine v_iload_n K 0 dJ6_bitCount_0f7a4_35 rfl rfl ?_
  refine v_bipush K dJ6_bitCount_0f7a4_36 kb_8 ?_
  refine v_iushr K dJ6_bitCount_0f7a4_38 ?_
  refine v_iadd K dJ6_bitCount_0f7a4_39 ?_
  refine v_istore_n (lv' := [(0, .int ((((((x0 - (((x0.toUInt32 >>> ((1 : Int32).toUInt32 &&& Int32.toUInt32 31)).toInt32) &&& 1431655765)) &&& 858993459) + ((((x0 - (((x0.toUInt32 >>> ((1 : Int32).toUInt32 &&& Int32.toUInt32 31)).toInt32) &&& 1431655765)).toUInt32 >>> ((2 : Int32).toUInt32 &&& Int32.toUInt32 31)).toInt32) &&& 858993459)) + (((((x0 - (((x0.toUInt32 >>> ((1 : Int32).toUInt32 &&& Int32.toUInt32 31)).toInt32) &&& 1431655765)) &&& 858993459) + ((((x0 - (((x0.toUInt32 >>> ((1 : Int32).toUInt32 &&& Int32.toUInt32 31)).toInt32) &&& 1431655765)).toUInt32 >>> ((2 : Int32).toUInt32 &&& Int32.toUInt32 31)).toInt32) &&& 858993459)).toUInt32 >>> ((4 : Int32).toUInt32 &&& Int32.toUInt32 31)).toInt32)) &&& 252645135) + (((((((x0 - (((x0.toUInt32 >>> ((1 : Int32).toUInt32 &&& Int32.toUInt32 31)).toInt32) &&& 1431655765)) &&& 858993459) + ((((x0 - (((x0.toUInt32 >>> ((1 : Int32).toUInt32 &&& Int32.toUInt32 31)).toInt32) &&& 1431655765)).toUInt32 >>> ((2 : Int32).toUInt32 &&& Int32.toUInt32 31)).toInt32) &&& 858993459)) + (((((x0 - (((x0.toUInt32 >>> ((1 : Int32).toUInt32 &&& Int32.toUInt32 31)).toInt32) &&& 1431655765)) &&& 858993459) + ((((x0 - (((x0.toUInt32 >>> ((1 : Int32).toUInt32 &&& Int32.toUInt32 31)).toInt32) &&& 1431655765)).toUInt32 >>> ((2 : Int32).toUInt32 &&& Int32.toUInt32 31)).toInt32) &&& 858993459)).toUInt32 >>> ((4 : Int32).toUInt32 &&& Int32.toUInt32 31)).toInt32)) &&& 252645135).toUInt32 >>> ((8 : Int32).toUInt32 &&& Int32.toUInt32 31)).toInt32)))]) K dJ6_bitCount_0f7a4_40 rfl (by decide) rfl ?_
  refine v_iload_n K 0 dJ6_bitCount_0f7a4_41 rfl rfl ?_
  refine v_iload_n K 0 dJ6_bitCount_0f7a4_42 rfl rfl ?_
  refine v_bipush K dJ6_bitCount_0f7a4_43 kb_16 ?_
  refine v_iushr K dJ6_bitCount_0f7a4_45 ?_
  refine v_iadd K dJ6_bitCount_0f7a4_46 ?_
  refine v_istore_n (lv' := [(0, .int (((((((x0 - (((x0.toUInt32 >>> ((1 : Int32).toUInt32 &&& Int32.toUInt32 31)).toInt32) &&& 1431655765)) &&& 858993459) + ((((x0 - (((x0.toUInt32 >>> ((1 : Int32).toUInt32 &&& Int32.toUInt32 31)).toInt32) &&& 1431655765)).toUInt32 >>> ((2 : Int32).toUInt32 &&& Int32.toUInt32 31)).toInt32) &&& 858993459)) + (((((x0 - (((x0.toUInt32 >>> ((1 : Int32).toUInt32 &&& Int32.toUInt32 31)).toInt32) &&& 1431655765)) &&& 858993459) + ((((x0 - (((x0.toUInt32 >>> ((1 : Int32).toUInt32 &&& Int32.toUInt32 31)).toInt32) &&& 1431655765)).toUInt32 >>> ((2 : Int32).toUInt32 &&& Int32.toUInt32 31)).toInt32) &&& 858993459)).toUInt32 >>> ((4 : Int32).toUInt32 &&& Int32.toUInt32 31)).toInt32)) &&& 252645135) + (((((((x0 - (((x0.toUInt32 >>> ((1 : Int32).toUInt32 &&& Int32.toUInt32 31)).toInt32) &&& 1431655765)) &&& 858993459) + ((((x0 - (((x0.toUInt32 >>> ((1 : Int32).toUInt32 &&& Int32.toUInt32 31)).toInt32) &&& 1431655765)).toUInt32 >>> ((2 : Int32).toUInt32 &&& Int32.toUInt32 31)).toInt32) &&& 858993459)) + (((((x0 - (((x0.toUInt32 >>> ((1 : Int32).toUInt32 &&& Int32.toUInt32 31)).toInt32) &&& 1431655765)) &&& 858993459) + ((((x0 - (((x0.toUInt32 >>> ((1 : Int32).toUInt32 &&& Int32.toUInt32 31)).toInt32) &&& 1431655765)).toUInt32 >>> ((2 : Int32).toUInt32 &&& Int32.toUInt32 31)).toInt32) &&& 858993459)).toUInt32 >>> ((4 : Int32).toUInt32 &&& Int32.toUInt32 31)).toInt32)) &&& 252645135).toUInt32 >>> ((8 : Int32).toUInt32 &&& Int32.toUInt32 31)).toInt32)) + ((((((((x0 - (((x0.toUInt32 >>> ((1 : Int32).toUInt32 &&& Int32.toUInt32 31)).toInt32) &&& 1431655765)) &&& 858993459) + ((((x0 - (((x0.toUInt32 >>> ((1 : Int32).toUInt32 &&& Int32.toUInt32 31)).toInt32) &&& 1431655765)).toUInt32 >>> ((2 : Int32).toUInt32 &&& Int32.toUInt32 31)).toInt32) &&& 858993459)) + (((((x0 - (((x0.toUInt32 >>> ((1 : Int32).toUInt32 &&& Int32.toUInt32 31)).toInt32) &&& 1431655765)) &&& 858993459) + ((((x0 - (((x0.toUInt32 >>> ((1 : Int32).toUInt32 &&& Int32.toUInt32 31)).toInt32) &&& 1431655765)).toUInt32 >>> ((2 : Int32).toUInt32 &&& Int32.toUInt32 31)).toInt32) &&& 858993459)).toUInt32 >>> ((4 : Int32).toUInt32 &&& Int32.toUInt32 31)).toInt32)) &&& 252645135) + (((((((x0 - (((x0.toUInt32 >>> ((1 : Int32).toUInt32 &&& Int32.toUInt32 31)).toInt32) &&& 1431655765)) &&& 858993459) + ((((x0 - (((x0.toUInt32 >>> ((1 : Int32).toUInt32 &&& Int32.toUInt32 31)).toInt32) &&& 1431655765)).toUInt32 >>> ((2 : Int32).toUInt32 &&& Int32.toUInt32 31)).toInt32) &&& 858993459)) + (((((x0 - (((x0.toUInt32 >>> ((1 : Int32).toUInt32 &&& Int32.toUInt32 31)).toInt32) &&& 1431655765)) &&& 858993459) + ((((x0 - (((x0.toUInt32 >>> ((1 : Int32).toUInt32 &&& Int32.toUInt32 31)).toInt32) &&& 1431655765)).toUInt32 >>> ((2 : Int32).toUInt32 &&& Int32.toUInt32 31)).toInt32) &&& 858993459)).toUInt32 >>> ((4 : Int32).toUInt32 &&& Int32.toUInt32 31)).toInt32)) &&& 252645135).toUInt32 >>> ((8 : Int32).toUInt32 &&& Int32.toUInt32 31)).toInt32)).toUInt32 >>> ((16 : Int32).toUInt32 &&& Int32.toUInt32 31)).toInt32)))]) K dJ6_bitCount_0f7a4_47 rfl (by decide) rfl ?_
  refine v_iload_n K 0 dJ6_bitCount_0f7a4_48 rfl rfl ?_
  refine v_bipush K dJ6_bitCount_0f7a4_49 kb_63 ?_
  refine v_iand K dJ6_bitCount_0f7a4_51 ?_
  exact v_iret K rfl dJ6_bitCount_0f7a4_52 (ev_v hf) rfl
set_option maxRecDepth 20000 in
theorem c_X1_groupsOf {ws : va_W}  {x0 : Int32} {x1 : Int32} {r : Int32} (hf : f_X1_groupsOf x0 x1 = some r) : Ctr l D E A yX1_groupsOf cX1_groupsOf 4 (some .int) (rmD 1) [.int x0, .int x1] (ws) (some (.int r)) (ws) := by
  refine Ctr.of (own := RX1) pn_X1 rfl (Nat.le_of_ble_eq_true rfl) ?_
  intro p e s m args below meth c K
  refine v_lv (lv' := [(0, .int x0), (1, .int x1)]) rfl ?_
  have L4 : ∀ (x0 : Int32) (x1 : Int32), ∀ (n : Nat) (x2 : Int32) (x3 : Int32), f_X1_groupsOf_L4 x0 x1 n x2 x3 = some r → VV p l e (rmD 1) s m args below meth c (MQ below (CQ D A (some (.int r)) ws) args s 0 0 A) D A 4 (0, 0) 4 [] [(0, .int x0), (1, .int x1), (2, .int x2), (3, .int x3)] (ws) := by
    intro x0 x1 n
    induction n with
    | zero =>
      intro x2 x3 hf
      rw [f_X1_groupsOf_L4] at hf
      cases hf
    | succ n ih =>
      intro x2 x3 hf
      rw [f_X1_groupsOf_L4] at hf
      refine v_iload_n K 3 dX1_groupsOf_4 rfl rfl ?_
      refine v_bipush K dX1_groupsOf_5 kb_16 ?_
      refine v_icmp_ge (tgt := 35) K dX1_groupsOf_7 (by decide) (fun hc1 => ?_) (fun hc1 => ?_)
      · have hf := it_pos hc1 hf
        refine v_iload_n K 2 dX1_groupsOf_35 rfl rfl ?_
        exact v_iret K rfl dX1_groupsOf_36 (ev_o hf) rfl
      · have hf := it_neg hc1 hf
        refine v_iload_n K 3 dX1_groupsOf_10 rfl rfl ?_
        refine v_iload_n K 0 dX1_groupsOf_11 rfl rfl ?_
        refine v_callSNi (As := [.int x3, .int x0]) (rest := []) K mk_X1_27 dX1_groupsOf_12 (c_X8_isIn  rfl) rfl rfl (Nat.le_of_ble_eq_true rfl) ⟨rfl, rfl⟩ ⟨Nat.le_of_ble_eq_true rfl, Nat.le_of_ble_eq_true rfl⟩ ?_
        have hj1 : ∀ (w1 : Int32), w1 = (if (f_X8_isIn x3 x0) = 0 then x2 else (x2 ||| (f_X8_only (f_X8_groupOf x3 x1))) : Int32) → VV p l e (rmD 1) s m args below meth c (MQ below (CQ D A (some (.int r)) ws) args s 0 0 A) D A 4 (0, 0) 29 [] [(0, .int x0), (1, .int x1), (2, .int w1), (3, .int x3)] (ws) := by
          intro w1 ew1
          subst ew1
          refine v_iinc (v := x3 + 1) (lv' := [(3, .int (x3 + 1)), (0, .int x0), (1, .int x1), (2, .int (if (f_X8_isIn x3 x0) = 0 then x2 else (x2 ||| (f_X8_only (f_X8_groupOf x3 x1))) : Int32))]) K 3 dX1_groupsOf_29 rfl rfl (by decide) rfl ?_
          refine v_goto (tgt := 4) K dX1_groupsOf_32 (by decide) ?_
          exact v_lsub [1, 2, 3, 0] rfl (ih (if (f_X8_isIn x3 x0) = 0 then x2 else (x2 ||| (f_X8_only (f_X8_groupOf x3 x1))) : Int32) (x3 + 1) hf)
        refine v_if_eq (tgt := 29) K dX1_groupsOf_15 (by decide) (fun hc2 => ?_) (fun hc2 => ?_)
        · exact v_lsub [0, 1, 2, 3] rfl (hj1 x2 (if_pos hc2).symm)
        · refine v_iload_n K 2 dX1_groupsOf_18 rfl rfl ?_
          refine v_iload_n K 3 dX1_groupsOf_19 rfl rfl ?_
          refine v_iload_n K 1 dX1_groupsOf_20 rfl rfl ?_
          refine v_callSNi (As := [.int x3, .int x1]) (rest := [.int x2]) K mk_X1_31 dX1_groupsOf_21 (c_X8_groupOf  rfl) rfl rfl (Nat.le_of_ble_eq_true rfl) ⟨rfl, rfl⟩ ⟨Nat.le_of_ble_eq_true rfl, Nat.le_of_ble_eq_true rfl⟩ ?_
          refine v_callSNi (As := [.int (f_X8_groupOf x3 x1)]) (rest := [.int x2]) K mk_X1_35 dX1_groupsOf_24 (c_X8_only  rfl) rfl rfl (Nat.le_of_ble_eq_true rfl) ⟨rfl, rfl⟩ ⟨Nat.le_of_ble_eq_true rfl, Nat.le_of_ble_eq_true rfl⟩ ?_
          refine v_ior K dX1_groupsOf_27 ?_
          refine v_istore_n (lv' := [(2, .int (x2 ||| (f_X8_only (f_X8_groupOf x3 x1)))), (0, .int x0), (1, .int x1), (3, .int x3)]) K dX1_groupsOf_28 rfl (by decide) rfl ?_
          exact v_lsub [1, 2, 0, 3] rfl (hj1 (x2 ||| (f_X8_only (f_X8_groupOf x3 x1))) (if_neg hc2).symm)
  unfold f_X1_groupsOf at hf
  refine v_iconst K dX1_groupsOf_0 ki_0 ?_
  refine v_istore_n (lv' := [(2, .int 0), (0, .int x0), (1, .int x1)]) K dX1_groupsOf_1 rfl (by decide) rfl ?_
  refine v_iconst K dX1_groupsOf_2 ki_0 ?_
  refine v_istore_n (lv' := [(3, .int 0), (2, .int 0), (0, .int x0), (1, .int x1)]) K dX1_groupsOf_3 rfl (by decide) rfl ?_
  refine v_lsub [2, 3, 1, 0] rfl ?_
  exact L4 x0 x1 5000 0 0 hf
set_option maxRecDepth 20000 in
theorem c_X1_name {G : Gs} {o b : Nat} (ho : o = b + 2) (hL : LibG E b) {S S' : St}  {x1 : Int32} {x2 : Int32} {x3 : Int32} {x4 : Int32} (hf : f_X1_name S x1 x2 x3 x4 = some S') : Ctr l D E A yX1_name cX1_name 6 none (rmD 2) [.ref (eA E o 5), .int x1, .int x2, .int x3, .int x4] (wl E (va_up G o S)) none (wl E (va_up G o S')) := by
  subst ho
  refine Ctr.of (own := RX1) pn_X1 rfl (Nat.le_of_ble_eq_true rfl) ?_
  intro p e s m args below meth c K
  refine v_lv (lv' := [(0, .ref (eA E (b + 2) 5)), (1, .int x1), (2, .int x2), (3, .int x3), (4, .int x4)]) rfl ?_
  unfold f_X1_name at hf
  refine v_aload_n K 0 dX1_name_0 rfl rfl ?_
  refine g_get K fk_X1_20 dX1_name_1 (hL 5 (by decide)) rfl rfl ?_
  refine v_iload_n K 1 dX1_name_4 rfl rfl ?_
  refine v_callWi (As := [.int x1]) (rest := []) K mk_X1_23 dX1_name_5 (k_row_at (Nat.le_of_ble_eq_true rfl) (rl_8 (o := b + 2) rfl hL) rfl) (hL 8 (by decide)) rfl rfl rfl rfl rfl (Nat.le_of_ble_eq_true rfl) ⟨rfl, rfl⟩ ⟨Nat.le_of_ble_eq_true rfl, Nat.le_of_ble_eq_true rfl⟩ ?_
  refine v_istore (lv' := [(5, .int (rat 24 (S 9) x1)), (0, .ref (eA E (b + 2) 5)), (1, .int x1), (2, .int x2), (3, .int x3), (4, .int x4)]) K dX1_name_8 (by decide) rfl ?_
  refine v_aload_n K 1 dX1_name_10 rfl rfl ?_
  refine g_get K fk_X1_14 dX1_name_11 (hL 5 (by decide)) rfl rfl ?_
  refine v_iload_n K 2 dX1_name_14 rfl rfl ?_
  refine v_callWi (As := [.int x1]) (rest := []) K mk_X1_23 dX1_name_15 (k_row_at (Nat.le_of_ble_eq_true rfl) (rl_6 (o := b + 2) rfl hL) rfl) (hL 6 (by decide)) rfl rfl rfl rfl rfl (Nat.le_of_ble_eq_true rfl) ⟨rfl, rfl⟩ ⟨Nat.le_of_ble_eq_true rfl, Nat.le_of_ble_eq_true rfl⟩ ?_
  refine v_iconst K dX1_name_18 ki_2 ?_
  refine v_icmp_ne (tgt := 45) K dX1_name_19 (by decide) (fun hc1 => ?_) (fun hc1 => ?_)
  · have hf := it_neg hc1 hf
    refine v_iload_n K 3 dX1_name_45 rfl rfl ?_
    refine v_iload K 0 dX1_name_46 rfl ?_
    refine v_callSNi (As := [.int x2, .int (rat 24 (S 9) x1)]) (rest := []) K mk_X1_27 dX1_name_48 (c_X8_isIn  rfl) rfl rfl (Nat.le_of_ble_eq_true rfl) ⟨rfl, rfl⟩ ⟨Nat.le_of_ble_eq_true rfl, Nat.le_of_ble_eq_true rfl⟩ ?_
    refine v_if_ne (tgt := 63) K dX1_name_51 (by decide) (fun hc2 => ?_) (fun hc2 => ?_)
    · have hf := it_neg hc2 hf
      refine v_aload_n K 1 dX1_name_63 rfl rfl ?_
      refine v_iload_n K 2 dX1_name_64 rfl rfl ?_
      refine v_iconst K dX1_name_65 ki_1 ?_
      refine v_iload K 0 dX1_name_66 rfl ?_
      refine v_iload_n K 3 dX1_name_68 rfl rfl ?_
      refine v_callSNi (As := [.int x2]) (rest := [.int (rat 24 (S 9) x1), .int 1, .int x1, .ref (eA E (b + 2) 5)]) K mk_X1_35 dX1_name_69 (c_X8_only  rfl) rfl rfl (Nat.le_of_ble_eq_true rfl) ⟨rfl, rfl⟩ ⟨Nat.le_of_ble_eq_true rfl, Nat.le_of_ble_eq_true rfl⟩ ?_
      refine v_ior K dX1_name_72 ?_
      obtain ⟨S1, hS1, hf⟩ := bnd_el hf
      refine v_callWn (As := [.int x1, .int 1, .int ((rat 24 (S 9) x1) ||| (f_X8_only x2))]) (rest := []) K mk_X1_47 dX1_name_73 (c_X1_become (o := b + 2) rfl hL hS1.symm) (hL 5 (by decide)) rfl rfl rfl rfl rfl (Nat.le_of_ble_eq_true rfl) ⟨rfl, rfl⟩ ⟨Nat.le_of_ble_eq_true rfl, Nat.le_of_ble_eq_true rfl⟩ ?_
      refine v_goto (tgt := 97) K dX1_name_76 (by decide) ?_
      exact v_vret K rfl dX1_name_97 rfl (ew_o hf)
    · have hf := it_pos hc2 hf
      refine v_iload K 0 dX1_name_54 rfl ?_
      refine v_callSi (As := [.int (rat 24 (S 9) x1)]) (rest := []) K mk_X1_42 dX1_name_56 (c_J6_bitCount_0f7a4  rfl) rfl rfl (Nat.le_of_ble_eq_true rfl) ⟨rfl, rfl⟩ ⟨Nat.le_of_ble_eq_true rfl, Nat.le_of_ble_eq_true rfl⟩ ?_
      refine v_iload_n K 4 dX1_name_59 rfl rfl ?_
      refine v_icmp_ge (tgt := 79) K dX1_name_60 (by decide) (fun hc3 => ?_) (fun hc3 => ?_)
      · have hf := it_pos hc3 hf
        refine v_aload_n K 1 dX1_name_79 rfl rfl ?_
        refine v_iload_n K 2 dX1_name_80 rfl rfl ?_
        refine v_iconst K dX1_name_81 ki_2 ?_
        refine v_iload K 0 dX1_name_82 rfl ?_
        refine v_iload_n K 3 dX1_name_84 rfl rfl ?_
        refine v_callSNi (As := [.int x2]) (rest := [.int (rat 24 (S 9) x1), .int 2, .int x1, .ref (eA E (b + 2) 5)]) K mk_X1_35 dX1_name_85 (c_X8_only  rfl) rfl rfl (Nat.le_of_ble_eq_true rfl) ⟨rfl, rfl⟩ ⟨Nat.le_of_ble_eq_true rfl, Nat.le_of_ble_eq_true rfl⟩ ?_
        refine v_ior K dX1_name_88 ?_
        refine v_iload K 5 dX1_name_89 rfl ?_
        obtain ⟨y2, hy2, hf⟩ := bd_el hf
        refine v_callSi (As := [.int ((rat 24 (S 9) x1) ||| (f_X8_only x2)), .int x4]) (rest := [.int 2, .int x1, .ref (eA E (b + 2) 5)]) K mk_X1_51 dX1_name_91 (c_X1_groupsOf  hy2) rfl rfl (Nat.le_of_ble_eq_true rfl) ⟨rfl, rfl⟩ ⟨Nat.le_of_ble_eq_true rfl, Nat.le_of_ble_eq_true rfl⟩ ?_
        obtain ⟨S3, hS3, hf⟩ := bnd_el hf
        refine v_callWn (As := [.int x1, .int 2, .int y2]) (rest := []) K mk_X1_47 dX1_name_94 (c_X1_become (o := b + 2) rfl hL hS3.symm) (hL 5 (by decide)) rfl rfl rfl rfl rfl (Nat.le_of_ble_eq_true rfl) ⟨rfl, rfl⟩ ⟨Nat.le_of_ble_eq_true rfl, Nat.le_of_ble_eq_true rfl⟩ ?_
        exact v_vret K rfl dX1_name_97 rfl (ew_o hf)
      · have hf := it_neg hc3 hf
        refine v_aload_n K 1 dX1_name_63 rfl rfl ?_
        refine v_iload_n K 2 dX1_name_64 rfl rfl ?_
        refine v_iconst K dX1_name_65 ki_1 ?_
        refine v_iload K 0 dX1_name_66 rfl ?_
        refine v_iload_n K 3 dX1_name_68 rfl rfl ?_
        refine v_callSNi (As := [.int x2]) (rest := [.int (rat 24 (S 9) x1), .int 1, .int x1, .ref (eA E (b + 2) 5)]) K mk_X1_35 dX1_name_69 (c_X8_only  rfl) rfl rfl (Nat.le_of_ble_eq_true rfl) ⟨rfl, rfl⟩ ⟨Nat.le_of_ble_eq_true rfl, Nat.le_of_ble_eq_true rfl⟩ ?_
        refine v_ior K dX1_name_72 ?_
        obtain ⟨S4, hS4, hf⟩ := bnd_el hf
        refine v_callWn (As := [.int x1, .int 1, .int ((rat 24 (S 9) x1) ||| (f_X8_only x2))]) (rest := []) K mk_X1_47 dX1_name_73 (c_X1_become (o := b + 2) rfl hL hS4.symm) (hL 5 (by decide)) rfl rfl rfl rfl rfl (Nat.le_of_ble_eq_true rfl) ⟨rfl, rfl⟩ ⟨Nat.le_of_ble_eq_true rfl, Nat.le_of_ble_eq_true rfl⟩ ?_
        refine v_goto (tgt := 97) K dX1_name_76 (by decide) ?_
        exact v_vret K rfl dX1_name_97 rfl (ew_o hf)
  · have hf := it_pos hc1 hf
    refine v_aload_n K 1 dX1_name_22 rfl rfl ?_
    refine g_get K fk_X1_20 dX1_name_23 (hL 5 (by decide)) rfl rfl ?_
    refine v_iload_n K 2 dX1_name_26 rfl rfl ?_
    refine v_iload K 0 dX1_name_27 rfl ?_
    refine v_iload_n K 3 dX1_name_29 rfl rfl ?_
    refine v_iload K 5 dX1_name_30 rfl ?_
    refine v_callSNi (As := [.int x2, .int x4]) (rest := [.int (rat 24 (S 9) x1), .int x1, .ref (eA E (b + 2) 8)]) K mk_X1_31 dX1_name_32 (c_X8_groupOf  rfl) rfl rfl (Nat.le_of_ble_eq_true rfl) ⟨rfl, rfl⟩ ⟨Nat.le_of_ble_eq_true rfl, Nat.le_of_ble_eq_true rfl⟩ ?_
    refine v_callSNi (As := [.int (f_X8_groupOf x2 x4)]) (rest := [.int (rat 24 (S 9) x1), .int x1, .ref (eA E (b + 2) 8)]) K mk_X1_35 dX1_name_35 (c_X8_only  rfl) rfl rfl (Nat.le_of_ble_eq_true rfl) ⟨rfl, rfl⟩ ⟨Nat.le_of_ble_eq_true rfl, Nat.le_of_ble_eq_true rfl⟩ ?_
    refine v_ior K dX1_name_38 ?_
    obtain ⟨S5, hS5, hf⟩ := bnd_el hf
    refine v_callWn (As := [.int x1, .int ((rat 24 (S 9) x1) ||| (f_X8_only (f_X8_groupOf x2 x4)))]) (rest := []) K mk_X1_38 dX1_name_39 (k_row_write (Nat.le_of_ble_eq_true rfl) (rl_8 (o := b + 2) rfl hL) hS5.symm) (hL 8 (by decide)) rfl rfl rfl rfl rfl (Nat.le_of_ble_eq_true rfl) ⟨rfl, rfl⟩ ⟨Nat.le_of_ble_eq_true rfl, Nat.le_of_ble_eq_true rfl⟩ ?_
    refine v_goto (tgt := 97) K dX1_name_42 (by decide) ?_
    exact v_vret K rfl dX1_name_97 rfl (ew_o hf)
set_option maxRecDepth 20000 in
theorem c_X1_strike {G : Gs} {o b : Nat} (ho : o = b + 2) (hL : LibG E b) {S S' : St}  {x1 : Int32} {x2 : Int32} (hf : f_X1_strike S x1 x2 = S') : Ctr l D E A yX1_strike cX1_strike 4 none (rmD 1) [.ref (eA E o 5), .int x1, .int x2] (wl E (va_up G o S)) none (wl E (va_up G o S')) := by
  subst ho
  refine Ctr.of (own := RX1) pn_X1 rfl (Nat.le_of_ble_eq_true rfl) ?_
  intro p e s m args below meth c K
  refine v_lv (lv' := [(0, .ref (eA E (b + 2) 5)), (1, .int x1), (2, .int x2)]) rfl ?_
  unfold f_X1_strike at hf
  refine v_aload_n K 0 dX1_strike_0 rfl rfl ?_
  refine g_get K fk_X1_14 dX1_strike_1 (hL 5 (by decide)) rfl rfl ?_
  refine v_iload_n K 1 dX1_strike_4 rfl rfl ?_
  refine v_callWi (As := [.int x1]) (rest := []) K mk_X1_23 dX1_strike_5 (k_row_at (Nat.le_of_ble_eq_true rfl) (rl_6 (o := b + 2) rfl hL) rfl) (hL 6 (by decide)) rfl rfl rfl rfl rfl (Nat.le_of_ble_eq_true rfl) ⟨rfl, rfl⟩ ⟨Nat.le_of_ble_eq_true rfl, Nat.le_of_ble_eq_true rfl⟩ ?_
  refine v_iconst K dX1_strike_8 ki_2 ?_
  refine v_icmp_ne (tgt := 13) K dX1_strike_9 (by decide) (fun hc1 => ?_) (fun hc1 => ?_)
  · have hf := it_neg hc1 hf
    refine v_aload_n K 0 dX1_strike_13 rfl rfl ?_
    refine g_get K fk_X1_20 dX1_strike_14 (hL 5 (by decide)) rfl rfl ?_
    refine v_iload_n K 1 dX1_strike_17 rfl rfl ?_
    refine v_callWi (As := [.int x1]) (rest := []) K mk_X1_23 dX1_strike_18 (k_row_at (Nat.le_of_ble_eq_true rfl) (rl_8 (o := b + 2) rfl hL) rfl) (hL 8 (by decide)) rfl rfl rfl rfl rfl (Nat.le_of_ble_eq_true rfl) ⟨rfl, rfl⟩ ⟨Nat.le_of_ble_eq_true rfl, Nat.le_of_ble_eq_true rfl⟩ ?_
    refine v_iload_n K 2 dX1_strike_21 rfl rfl ?_
    refine v_callSNi (As := [.int x2]) (rest := [.int (rat 24 (S 9) x1)]) K mk_X1_35 dX1_strike_22 (c_X8_only  rfl) rfl rfl (Nat.le_of_ble_eq_true rfl) ⟨rfl, rfl⟩ ⟨Nat.le_of_ble_eq_true rfl, Nat.le_of_ble_eq_true rfl⟩ ?_
    refine v_iconst K dX1_strike_25 ki_m1 ?_
    refine v_ixor K dX1_strike_26 ?_
    refine v_iand K dX1_strike_27 ?_
    refine v_istore_n (lv' := [(3, .int ((rat 24 (S 9) x1) &&& ((f_X8_only x2) ^^^ (-1)))), (0, .ref (eA E (b + 2) 5)), (1, .int x1), (2, .int x2)]) K dX1_strike_28 rfl (by decide) rfl ?_
    refine v_aload_n K 1 dX1_strike_29 rfl rfl ?_
    refine g_get K fk_X1_20 dX1_strike_30 (hL 5 (by decide)) rfl rfl ?_
    refine v_iload_n K 2 dX1_strike_33 rfl rfl ?_
    refine v_iload_n K 0 dX1_strike_34 rfl rfl ?_
    obtain ⟨S1, hS1, hf⟩ := bnd_el hf
    refine v_callWn (As := [.int x1, .int ((rat 24 (S 9) x1) &&& ((f_X8_only x2) ^^^ (-1)))]) (rest := []) K mk_X1_38 dX1_strike_35 (k_row_write (Nat.le_of_ble_eq_true rfl) (rl_8 (o := b + 2) rfl hL) hS1.symm) (hL 8 (by decide)) rfl rfl rfl rfl rfl (Nat.le_of_ble_eq_true rfl) ⟨rfl, rfl⟩ ⟨Nat.le_of_ble_eq_true rfl, Nat.le_of_ble_eq_true rfl⟩ ?_
    refine v_iload_n K 0 dX1_strike_38 rfl rfl ?_
    refine v_if_ne (tgt := 51) K dX1_strike_39 (by decide) (fun hc2 => ?_) (fun hc2 => ?_)
    · have hf := it_neg hc2 hf
      exact v_vret K rfl dX1_strike_51 rfl (ew_v hf)
    · have hf := it_pos hc2 hf
      refine v_aload_n K 1 dX1_strike_42 rfl rfl ?_
      refine g_get K fk_X1_14 dX1_strike_43 (hL 5 (by decide)) rfl rfl ?_
      refine v_iload_n K 2 dX1_strike_46 rfl rfl ?_
      refine v_iconst K dX1_strike_47 ki_0 ?_
      obtain ⟨S2, hS2, hf⟩ := bnd_el hf
      refine v_callWn (As := [.int x1, .int 0]) (rest := []) K mk_X1_38 dX1_strike_48 (k_row_write (Nat.le_of_ble_eq_true rfl) (rl_6 (o := b + 2) rfl hL) hS2.symm) (hL 6 (by decide)) rfl rfl rfl rfl rfl (Nat.le_of_ble_eq_true rfl) ⟨rfl, rfl⟩ ⟨Nat.le_of_ble_eq_true rfl, Nat.le_of_ble_eq_true rfl⟩ ?_
      exact v_vret K rfl dX1_strike_51 rfl (ew_v hf)
  · have hf := it_pos hc1 hf
    exact v_vret K rfl dX1_strike_12 rfl (ew_v hf)
set_option maxRecDepth 20000 in
theorem c_X1_howManyInUse {G : Gs} {o b : Nat} (ho : o = b + 2) (hL : LibG E b) {S : St}  {r : Int32} (hf : f_X1_howManyInUse S = some r) : Ctr l D E A yX1_howManyInUse cX1_howManyInUse 3 (some .int) (rmD 1) [.ref (eA E o 5)] (wl E (va_up G o S)) (some (.int r)) (wl E (va_up G o S)) := by
  subst ho
  refine Ctr.of (own := RX1) pn_X1 rfl (Nat.le_of_ble_eq_true rfl) ?_
  intro p e s m args below meth c K
  refine v_lv (lv' := [(0, .ref (eA E (b + 2) 5))]) rfl ?_
  have L4 : ∀  (S : St), ∀ (n : Nat) (x1 : Int32) (x2 : Int32), f_X1_howManyInUse_L4 S n x1 x2 = some r → VV p l e (rmD 1) s m args below meth c (MQ below (CQ D A (some (.int r)) (wl E (va_up G (b + 2) S))) args s 0 0 A) D A 3 (0, 0) 4 [] [(0, .ref (eA E (b + 2) 5)), (1, .int x1), (2, .int x2)] (wl E (va_up G (b + 2) S)) := by
    intro S n
    induction n with
    | zero =>
      intro x1 x2 hf
      rw [f_X1_howManyInUse_L4] at hf
      cases hf
    | succ n ih =>
      intro x1 x2 hf
      rw [f_X1_howManyInUse_L4] at hf
      refine v_iload_n K 2 dX1_howManyInUse_4 rfl rfl ?_
      refine v_bipush K dX1_howManyInUse_5 kb_24 ?_
      refine v_icmp_ge (tgt := 35) K dX1_howManyInUse_7 (by decide) (fun hc1 => ?_) (fun hc1 => ?_)
      · have hf := it_pos hc1 hf
        refine v_iload_n K 1 dX1_howManyInUse_35 rfl rfl ?_
        exact v_iret K rfl dX1_howManyInUse_36 (ev_o hf) rfl
      · have hf := it_neg hc1 hf
        refine v_iload_n K 1 dX1_howManyInUse_10 rfl rfl ?_
        refine v_aload_n K 0 dX1_howManyInUse_11 rfl rfl ?_
        refine g_get K fk_X1_14 dX1_howManyInUse_12 (hL 5 (by decide)) rfl rfl ?_
        refine v_iload_n K 2 dX1_howManyInUse_15 rfl rfl ?_
        refine v_callWi (As := [.int x2]) (rest := [.int x1]) K mk_X1_23 dX1_howManyInUse_16 (k_row_at (Nat.le_of_ble_eq_true rfl) (rl_6 (o := b + 2) rfl hL) rfl) (hL 6 (by decide)) rfl rfl rfl rfl rfl (Nat.le_of_ble_eq_true rfl) ⟨rfl, rfl⟩ ⟨Nat.le_of_ble_eq_true rfl, Nat.le_of_ble_eq_true rfl⟩ ?_
        have hj1 : ∀ (w1 : Int32), w1 = (if (rat 24 (S 7) x2) = 0 then 0 else 1 : Int32) → VV p l e (rmD 1) s m args below meth c (MQ below (CQ D A (some (.int r)) (wl E (va_up G (b + 2) S))) args s 0 0 A) D A 3 (0, 0) 27 [.int w1, .int x1] [(0, .ref (eA E (b + 2) 5)), (2, .int x2)] (wl E (va_up G (b + 2) S)) := by
          intro w1 ew1
          subst ew1
          refine v_iadd K dX1_howManyInUse_27 ?_
          refine v_istore_n (lv' := [(1, .int (x1 + (if (rat 24 (S 7) x2) = 0 then 0 else 1 : Int32))), (0, .ref (eA E (b + 2) 5)), (2, .int x2)]) K dX1_howManyInUse_28 rfl (by decide) rfl ?_
          refine v_iinc (v := x2 + 1) (lv' := [(2, .int (x2 + 1)), (1, .int (x1 + (if (rat 24 (S 7) x2) = 0 then 0 else 1 : Int32))), (0, .ref (eA E (b + 2) 5))]) K 2 dX1_howManyInUse_29 rfl rfl (by decide) rfl ?_
          refine v_goto (tgt := 4) K dX1_howManyInUse_32 (by decide) ?_
          exact v_lsub [2, 1, 0] rfl (ih (x1 + (if (rat 24 (S 7) x2) = 0 then 0 else 1 : Int32)) (x2 + 1) hf)
        refine v_if_ne (tgt := 26) K dX1_howManyInUse_19 (by decide) (fun hc2 => ?_) (fun hc2 => ?_)
        · refine v_iconst K dX1_howManyInUse_26 ki_1 ?_
          exact v_lsub [0, 2] rfl (hj1 1 (if_neg hc2).symm)
        · refine v_iconst K dX1_howManyInUse_22 ki_0 ?_
          refine v_goto (tgt := 27) K dX1_howManyInUse_23 (by decide) ?_
          exact v_lsub [0, 2] rfl (hj1 0 (if_pos hc2).symm)
  unfold f_X1_howManyInUse at hf
  refine v_iconst K dX1_howManyInUse_0 ki_0 ?_
  refine v_istore_n (lv' := [(1, .int 0), (0, .ref (eA E (b + 2) 5))]) K dX1_howManyInUse_1 rfl (by decide) rfl ?_
  refine v_iconst K dX1_howManyInUse_2 ki_0 ?_
  refine v_istore_n (lv' := [(2, .int 0), (1, .int 0), (0, .ref (eA E (b + 2) 5))]) K dX1_howManyInUse_3 rfl (by decide) rfl ?_
  refine v_lsub [2, 1, 0] rfl ?_
  exact L4 S 5000 0 0 hf
set_option maxRecDepth 20000 in
theorem c_X1_howManyGrouped {G : Gs} {o b : Nat} (ho : o = b + 2) (hL : LibG E b) {S : St}  {r : Int32} (hf : f_X1_howManyGrouped S = some r) : Ctr l D E A yX1_howManyGrouped cX1_howManyGrouped 3 (some .int) (rmD 1) [.ref (eA E o 5)] (wl E (va_up G o S)) (some (.int r)) (wl E (va_up G o S)) := by
  subst ho
  refine Ctr.of (own := RX1) pn_X1 rfl (Nat.le_of_ble_eq_true rfl) ?_
  intro p e s m args below meth c K
  refine v_lv (lv' := [(0, .ref (eA E (b + 2) 5))]) rfl ?_
  have L4 : ∀  (S : St), ∀ (n : Nat) (x1 : Int32) (x2 : Int32), f_X1_howManyGrouped_L4 S n x1 x2 = some r → VV p l e (rmD 1) s m args below meth c (MQ below (CQ D A (some (.int r)) (wl E (va_up G (b + 2) S))) args s 0 0 A) D A 3 (0, 0) 4 [] [(0, .ref (eA E (b + 2) 5)), (1, .int x1), (2, .int x2)] (wl E (va_up G (b + 2) S)) := by
    intro S n
    induction n with
    | zero =>
      intro x1 x2 hf
      rw [f_X1_howManyGrouped_L4] at hf
      cases hf
    | succ n ih =>
      intro x1 x2 hf
      rw [f_X1_howManyGrouped_L4] at hf
      refine v_iload_n K 2 dX1_howManyGrouped_4 rfl rfl ?_
      refine v_bipush K dX1_howManyGrouped_5 kb_24 ?_
      refine v_icmp_ge (tgt := 36) K dX1_howManyGrouped_7 (by decide) (fun hc1 => ?_) (fun hc1 => ?_)
      · have hf := it_pos hc1 hf
        refine v_iload_n K 1 dX1_howManyGrouped_36 rfl rfl ?_
        exact v_iret K rfl dX1_howManyGrouped_37 (ev_o hf) rfl
      · have hf := it_neg hc1 hf
        refine v_iload_n K 1 dX1_howManyGrouped_10 rfl rfl ?_
        refine v_aload_n K 0 dX1_howManyGrouped_11 rfl rfl ?_
        refine g_get K fk_X1_14 dX1_howManyGrouped_12 (hL 5 (by decide)) rfl rfl ?_
        refine v_iload_n K 2 dX1_howManyGrouped_15 rfl rfl ?_
        refine v_callWi (As := [.int x2]) (rest := [.int x1]) K mk_X1_23 dX1_howManyGrouped_16 (k_row_at (Nat.le_of_ble_eq_true rfl) (rl_6 (o := b + 2) rfl hL) rfl) (hL 6 (by decide)) rfl rfl rfl rfl rfl (Nat.le_of_ble_eq_true rfl) ⟨rfl, rfl⟩ ⟨Nat.le_of_ble_eq_true rfl, Nat.le_of_ble_eq_true rfl⟩ ?_
        refine v_iconst K dX1_howManyGrouped_19 ki_2 ?_
        have hj1 : ∀ (w1 : Int32), w1 = (if (rat 24 (S 7) x2) = 2 then 1 else 0 : Int32) → VV p l e (rmD 1) s m args below meth c (MQ below (CQ D A (some (.int r)) (wl E (va_up G (b + 2) S))) args s 0 0 A) D A 3 (0, 0) 28 [.int w1, .int x1] [(0, .ref (eA E (b + 2) 5)), (2, .int x2)] (wl E (va_up G (b + 2) S)) := by
          intro w1 ew1
          subst ew1
          refine v_iadd K dX1_howManyGrouped_28 ?_
          refine v_istore_n (lv' := [(1, .int (x1 + (if (rat 24 (S 7) x2) = 2 then 1 else 0 : Int32))), (0, .ref (eA E (b + 2) 5)), (2, .int x2)]) K dX1_howManyGrouped_29 rfl (by decide) rfl ?_
          refine v_iinc (v := x2 + 1) (lv' := [(2, .int (x2 + 1)), (1, .int (x1 + (if (rat 24 (S 7) x2) = 2 then 1 else 0 : Int32))), (0, .ref (eA E (b + 2) 5))]) K 2 dX1_howManyGrouped_30 rfl rfl (by decide) rfl ?_
          refine v_goto (tgt := 4) K dX1_howManyGrouped_33 (by decide) ?_
          exact v_lsub [2, 1, 0] rfl (ih (x1 + (if (rat 24 (S 7) x2) = 2 then 1 else 0 : Int32)) (x2 + 1) hf)
        refine v_icmp_ne (tgt := 27) K dX1_howManyGrouped_20 (by decide) (fun hc2 => ?_) (fun hc2 => ?_)
        · refine v_iconst K dX1_howManyGrouped_27 ki_0 ?_
          exact v_lsub [0, 2] rfl (hj1 0 (if_neg hc2).symm)
        · refine v_iconst K dX1_howManyGrouped_23 ki_1 ?_
          refine v_goto (tgt := 28) K dX1_howManyGrouped_24 (by decide) ?_
          exact v_lsub [0, 2] rfl (hj1 1 (if_pos hc2).symm)
  unfold f_X1_howManyGrouped at hf
  refine v_iconst K dX1_howManyGrouped_0 ki_0 ?_
  refine v_istore_n (lv' := [(1, .int 0), (0, .ref (eA E (b + 2) 5))]) K dX1_howManyGrouped_1 rfl (by decide) rfl ?_
  refine v_iconst K dX1_howManyGrouped_2 ki_0 ?_
  refine v_istore_n (lv' := [(2, .int 0), (1, .int 0), (0, .ref (eA E (b + 2) 5))]) K dX1_howManyGrouped_3 rfl (by decide) rfl ?_
  refine v_lsub [2, 1, 0] rfl ?_
  exact L4 S 5000 0 0 hf
set_option maxRecDepth 20000 in
theorem c_X1_clear {G : Gs} {o b : Nat} (ho : o = b + 2) (hL : LibG E b) {S S' : St}  (hf : f_X1_clear S = S') : Ctr l D E A yX1_clear cX1_clear 1 none (rmD 2) [.ref (eA E o 5)] (wl E (va_up G o S)) none (wl E (va_up G o S')) := by
  subst ho
  refine Ctr.of (own := RX1) pn_X1 rfl (Nat.le_of_ble_eq_true rfl) ?_
  intro p e s m args below meth c K
  refine v_lv (lv' := [(0, .ref (eA E (b + 2) 5))]) rfl ?_
  unfold f_X1_clear at hf
  refine v_aload_n K 0 dX1_clear_0 rfl rfl ?_
  refine g_get K fk_X1_14 dX1_clear_1 (hL 5 (by decide)) rfl rfl ?_
  obtain ⟨S1, hS1, hf⟩ := bnd_el hf
  refine v_callWn (As := []) (rest := []) K mk_X1_54 dX1_clear_4 (k_row_clear (Nat.le_of_ble_eq_true rfl) (rl_6 (o := b + 2) rfl hL) hS1.symm) (hL 6 (by decide)) rfl rfl rfl rfl rfl (Nat.le_of_ble_eq_true rfl) ⟨rfl, rfl⟩ ⟨Nat.le_of_ble_eq_true rfl, Nat.le_of_ble_eq_true rfl⟩ ?_
  refine v_aload_n K 0 dX1_clear_7 rfl rfl ?_
  refine g_get K fk_X1_20 dX1_clear_8 (hL 5 (by decide)) rfl rfl ?_
  obtain ⟨S2, hS2, hf⟩ := bnd_el hf
  refine v_callWn (As := []) (rest := []) K mk_X1_54 dX1_clear_11 (k_row_clear (Nat.le_of_ble_eq_true rfl) (rl_8 (o := b + 2) rfl hL) hS2.symm) (hL 8 (by decide)) rfl rfl rfl rfl rfl (Nat.le_of_ble_eq_true rfl) ⟨rfl, rfl⟩ ⟨Nat.le_of_ble_eq_true rfl, Nat.le_of_ble_eq_true rfl⟩ ?_
  exact v_vret K rfl dX1_clear_14 rfl (ew_v hf)
set_option maxRecDepth 20000 in
theorem c_X8_isReader {ws : va_W}  {x0 : Int32} {r : Int32} (hf : f_X8_isReader x0 = r) : Ctr l D E A yX8_isReader cX8_isReader 1 (some .boolean) (rmD 0) [.int x0] (ws) (some (.int r)) (ws) := by
  refine Ctr.of (own := RX8) pn_X8 rfl (Nat.le_of_ble_eq_true rfl) ?_
  intro p e s m args below meth c K
  refine v_lv (lv' := [(0, .int x0)]) rfl ?_
  unfold f_X8_isReader at hf
  refine v_iload_n K 0 dX8_isReader_0 rfl rfl ?_
  refine v_if_lt (tgt := 14) K dX8_isReader_1 (by decide) (fun hc1 => ?_) (fun hc1 => ?_)
  · have hf := it_pos hc1 hf
    refine v_iconst K dX8_isReader_14 ki_0 ?_
    exact v_zret K rfl dX8_isReader_15 (Or.inl rfl) (ev_v hf) rfl
  · have hf := it_neg hc1 hf
    refine v_iload_n K 0 dX8_isReader_4 rfl rfl ?_
    refine v_bipush K dX8_isReader_5 kb_16 ?_
    refine v_icmp_ge (tgt := 14) K dX8_isReader_7 (by decide) (fun hc2 => ?_) (fun hc2 => ?_)
    · have hf := it_pos hc2 hf
      refine v_iconst K dX8_isReader_14 ki_0 ?_
      exact v_zret K rfl dX8_isReader_15 (Or.inl rfl) (ev_v hf) rfl
    · have hf := it_neg hc2 hf
      refine v_iconst K dX8_isReader_10 ki_1 ?_
      refine v_goto (tgt := 15) K dX8_isReader_11 (by decide) ?_
      exact v_zret K rfl dX8_isReader_15 (Or.inr rfl) (ev_v hf) rfl
theorem b_X8_isReader  {x0 : Int32} : f_X8_isReader x0 = 0 ∨ f_X8_isReader x0 = 1 := by
  unfold f_X8_isReader
  repeat' split
  all_goals first | exact Or.inl rfl | exact Or.inr rfl
set_option maxRecDepth 20000 in
theorem c_X8_isNote {ws : va_W}  {x0 : Int32} {r : Int32} (hf : f_X8_isNote x0 = r) : Ctr l D E A yX8_isNote cX8_isNote 1 (some .boolean) (rmD 0) [.int x0] (ws) (some (.int r)) (ws) := by
  refine Ctr.of (own := RX8) pn_X8 rfl (Nat.le_of_ble_eq_true rfl) ?_
  intro p e s m args below meth c K
  refine v_lv (lv' := [(0, .int x0)]) rfl ?_
  unfold f_X8_isNote at hf
  refine v_iload_n K 0 dX8_isNote_0 rfl rfl ?_
  refine v_if_lt (tgt := 14) K dX8_isNote_1 (by decide) (fun hc1 => ?_) (fun hc1 => ?_)
  · have hf := it_pos hc1 hf
    refine v_iconst K dX8_isNote_14 ki_0 ?_
    exact v_zret K rfl dX8_isNote_15 (Or.inl rfl) (ev_v hf) rfl
  · have hf := it_neg hc1 hf
    refine v_iload_n K 0 dX8_isNote_4 rfl rfl ?_
    refine v_bipush K dX8_isNote_5 kb_24 ?_
    refine v_icmp_ge (tgt := 14) K dX8_isNote_7 (by decide) (fun hc2 => ?_) (fun hc2 => ?_)
    · have hf := it_pos hc2 hf
      refine v_iconst K dX8_isNote_14 ki_0 ?_
      exact v_zret K rfl dX8_isNote_15 (Or.inl rfl) (ev_v hf) rfl
    · have hf := it_neg hc2 hf
      refine v_iconst K dX8_isNote_10 ki_1 ?_
      refine v_goto (tgt := 15) K dX8_isNote_11 (by decide) ?_
      exact v_zret K rfl dX8_isNote_15 (Or.inr rfl) (ev_v hf) rfl
theorem b_X8_isNote  {x0 : Int32} : f_X8_isNote x0 = 0 ∨ f_X8_isNote x0 = 1 := by
  unfold f_X8_isNote
  repeat' split
  all_goals first | exact Or.inl rfl | exact Or.inr rfl
set_option maxRecDepth 20000 in
theorem c_X7_holds {G : Gs} {o b : Nat} (ho : o = b + 2) (hL : LibG E b) {S : St}  {x1 : Int32} {x2 : Int32} {r : Int32} (hf : f_X7_holds S x1 x2 = r) : Ctr l D E A yX7_holds cX7_holds 3 (some .boolean) (rmD 1) [.ref (eA E o 10), .int x1, .int x2] (wl E (va_up G o S)) (some (.int r)) (wl E (va_up G o S)) := by
  subst ho
  refine Ctr.of (own := RX7) pn_X7 rfl (Nat.le_of_ble_eq_true rfl) ?_
  intro p e s m args below meth c K
  refine v_lv (lv' := [(0, .ref (eA E (b + 2) 10)), (1, .int x1), (2, .int x2)]) rfl ?_
  unfold f_X7_holds at hf
  refine v_iload_n K 1 dX7_holds_0 rfl rfl ?_
  refine v_aload_n K 0 dX7_holds_1 rfl rfl ?_
  refine g_get K fk_X7_29 dX7_holds_2 (hL 10 (by decide)) rfl rfl ?_
  refine v_iload_n K 2 dX7_holds_5 rfl rfl ?_
  refine v_callWi (As := [.int x2]) (rest := [.int x1]) K mk_X7_32 dX7_holds_6 (k_row_at (Nat.le_of_ble_eq_true rfl) (rl_19 (o := b + 2) rfl hL) rfl) (hL 19 (by decide)) rfl rfl rfl rfl rfl (Nat.le_of_ble_eq_true rfl) ⟨rfl, rfl⟩ ⟨Nat.le_of_ble_eq_true rfl, Nat.le_of_ble_eq_true rfl⟩ ?_
  refine v_callSNi (As := [.int x1, .int (rat 24 (S 20) x2)]) (rest := []) K mk_X7_36 dX7_holds_9 (c_X8_isIn  rfl) rfl rfl (Nat.le_of_ble_eq_true rfl) ⟨rfl, rfl⟩ ⟨Nat.le_of_ble_eq_true rfl, Nat.le_of_ble_eq_true rfl⟩ ?_
  exact v_zret K rfl dX7_holds_12 (b_X8_isIn) (ev_v hf) rfl
theorem b_X7_holds {S : St}  {x1 : Int32} {x2 : Int32} : f_X7_holds S x1 x2 = 0 ∨ f_X7_holds S x1 x2 = 1 := by
  unfold f_X7_holds
  repeat' split
  all_goals first | exact Or.inl rfl | exact Or.inr rfl | exact b_X8_isIn
set_option maxRecDepth 20000 in
theorem c_X3_errorOf {G : Gs} {o b : Nat} (ho : o = b + 2) (hL : LibG E b) {S : St}  {x1 : Int32} {x2 : Int32} {x3 : Int32} {x4 : Int32} {r : Int32} (hf : f_X3_errorOf S x1 x2 x3 x4 = r) : Ctr l D E A yX3_errorOf cX3_errorOf 5 (some .int) (rmD 2) [.ref (eA E o 0), .int x1, .int x2, .int x3, .int x4] (wl E (va_up G o S)) (some (.int r)) (wl E (va_up G o S)) := by
  subst ho
  refine Ctr.of (own := RX3) pn_X3 rfl (Nat.le_of_ble_eq_true rfl) ?_
  intro p e s m args below meth c K
  refine v_lv (lv' := [(0, .ref (eA E (b + 2) 0)), (1, .int x1), (2, .int x2), (3, .int x3), (4, .int x4)]) rfl ?_
  unfold f_X3_errorOf at hf
  refine v_iload_n K 1 dX3_errorOf_0 rfl rfl ?_
  refine v_iconst K dX3_errorOf_1 ki_3 ?_
  refine v_icmp_eq (tgt := 12) K dX3_errorOf_2 (by decide) (fun hc1 => ?_) (fun hc1 => ?_)
  · have hf := it_pos hc1 hf
    refine v_iload_n K 3 dX3_errorOf_12 rfl rfl ?_
    refine v_callSNi (As := [.int x3]) (rest := []) K mk_X3_90 dX3_errorOf_13 (c_X8_isNote  rfl) rfl rfl (Nat.le_of_ble_eq_true rfl) ⟨rfl, rfl⟩ ⟨Nat.le_of_ble_eq_true rfl, Nat.le_of_ble_eq_true rfl⟩ ?_
    refine v_if_ne (tgt := 21) K dX3_errorOf_16 (by decide) (fun hc2 => ?_) (fun hc2 => ?_)
    · have hf := it_neg hc2 hf
      refine v_iload_n K 1 dX3_errorOf_21 rfl rfl ?_
      refine v_iconst K dX3_errorOf_22 ki_1 ?_
      refine v_icmp_ne (tgt := 42) K dX3_errorOf_23 (by decide) (fun hc3 => ?_) (fun hc3 => ?_)
      · have hf := it_neg hc3 hf
        refine v_iload_n K 1 dX3_errorOf_42 rfl rfl ?_
        refine v_iconst K dX3_errorOf_43 ki_2 ?_
        refine v_icmp_ne (tgt := 59) K dX3_errorOf_44 (by decide) (fun hc4 => ?_) (fun hc4 => ?_)
        · have hf := it_neg hc4 hf
          refine v_iload_n K 1 dX3_errorOf_59 rfl rfl ?_
          refine v_iconst K dX3_errorOf_60 ki_3 ?_
          refine v_icmp_ne (tgt := 81) K dX3_errorOf_61 (by decide) (fun hc5 => ?_) (fun hc5 => ?_)
          · have hf := it_neg hc5 hf
            refine v_iconst K dX3_errorOf_81 ki_0 ?_
            exact v_iret K rfl dX3_errorOf_82 (ev_v hf) rfl
          · have hf := it_pos hc5 hf
            refine v_aload_n K 0 dX3_errorOf_64 rfl rfl ?_
            refine g_get K fk_X3_30 dX3_errorOf_65 (hL 0 (by decide)) rfl rfl ?_
            refine g_getN K fn_X3_97 dX3_errorOf_68 (hL 5 (by decide)) rfl rfl ?_
            refine v_iload_n K 3 dX3_errorOf_71 rfl rfl ?_
            refine v_callWi (As := [.int x3]) (rest := []) K mk_X3_100 dX3_errorOf_72 (k_row_at (Nat.le_of_ble_eq_true rfl) (rl_6 (o := b + 2) rfl hL) rfl) (hL 6 (by decide)) rfl rfl rfl rfl rfl (Nat.le_of_ble_eq_true rfl) ⟨rfl, rfl⟩ ⟨Nat.le_of_ble_eq_true rfl, Nat.le_of_ble_eq_true rfl⟩ ?_
            refine v_if_ne (tgt := 81) K dX3_errorOf_75 (by decide) (fun hc6 => ?_) (fun hc6 => ?_)
            · have hf := it_neg hc6 hf
              refine v_iconst K dX3_errorOf_81 ki_0 ?_
              exact v_iret K rfl dX3_errorOf_82 (ev_v hf) rfl
            · have hf := it_pos hc6 hf
              refine v_bipush K dX3_errorOf_78 kb_m5 ?_
              exact v_iret K rfl dX3_errorOf_80 (ev_v hf) rfl
        · have hf := it_pos hc4 hf
          refine v_aload_n K 0 dX3_errorOf_47 rfl rfl ?_
          refine g_get K fk_X3_37 dX3_errorOf_48 (hL 0 (by decide)) rfl rfl ?_
          refine v_iload_n K 2 dX3_errorOf_51 rfl rfl ?_
          refine v_iload_n K 3 dX3_errorOf_52 rfl rfl ?_
          refine v_callWi (As := [.int x2, .int x3]) (rest := []) K mk_X3_93 dX3_errorOf_53 (c_X7_holds (o := b + 2) rfl hL rfl) (hL 10 (by decide)) rfl rfl rfl rfl rfl (Nat.le_of_ble_eq_true rfl) ⟨rfl, rfl⟩ ⟨Nat.le_of_ble_eq_true rfl, Nat.le_of_ble_eq_true rfl⟩ ?_
          refine v_if_eq (tgt := 78) K dX3_errorOf_56 (by decide) (fun hc7 => ?_) (fun hc7 => ?_)
          · have hf := it_pos hc7 hf
            refine v_bipush K dX3_errorOf_78 kb_m5 ?_
            exact v_iret K rfl dX3_errorOf_80 (ev_v hf) rfl
          · have hf := it_neg hc7 hf
            refine v_iload_n K 1 dX3_errorOf_59 rfl rfl ?_
            refine v_iconst K dX3_errorOf_60 ki_3 ?_
            refine v_icmp_ne (tgt := 81) K dX3_errorOf_61 (by decide) (fun hc8 => ?_) (fun hc8 => ?_)
            · have hf := it_neg hc8 hf
              refine v_iconst K dX3_errorOf_81 ki_0 ?_
              exact v_iret K rfl dX3_errorOf_82 (ev_v hf) rfl
            · have hf := it_pos hc8 hf
              refine v_aload_n K 0 dX3_errorOf_64 rfl rfl ?_
              refine g_get K fk_X3_30 dX3_errorOf_65 (hL 0 (by decide)) rfl rfl ?_
              refine g_getN K fn_X3_97 dX3_errorOf_68 (hL 5 (by decide)) rfl rfl ?_
              refine v_iload_n K 3 dX3_errorOf_71 rfl rfl ?_
              refine v_callWi (As := [.int x3]) (rest := []) K mk_X3_100 dX3_errorOf_72 (k_row_at (Nat.le_of_ble_eq_true rfl) (rl_6 (o := b + 2) rfl hL) rfl) (hL 6 (by decide)) rfl rfl rfl rfl rfl (Nat.le_of_ble_eq_true rfl) ⟨rfl, rfl⟩ ⟨Nat.le_of_ble_eq_true rfl, Nat.le_of_ble_eq_true rfl⟩ ?_
              refine v_if_ne (tgt := 81) K dX3_errorOf_75 (by decide) (fun hc9 => ?_) (fun hc9 => ?_)
              · have hf := it_neg hc9 hf
                refine v_iconst K dX3_errorOf_81 ki_0 ?_
                exact v_iret K rfl dX3_errorOf_82 (ev_v hf) rfl
              · have hf := it_pos hc9 hf
                refine v_bipush K dX3_errorOf_78 kb_m5 ?_
                exact v_iret K rfl dX3_errorOf_80 (ev_v hf) rfl
      · have hf := it_pos hc3 hf
        refine v_iload K 4 dX3_errorOf_26 rfl ?_
        refine v_if_lt (tgt := 39) K dX3_errorOf_28 (by decide) (fun hc10 => ?_) (fun hc10 => ?_)
        · have hf := it_pos hc10 hf
          refine v_bipush K dX3_errorOf_39 kb_m2 ?_
          exact v_iret K rfl dX3_errorOf_41 (ev_v hf) rfl
        · have hf := it_neg hc10 hf
          refine v_iload K 4 dX3_errorOf_31 rfl ?_
          refine v_sipush K dX3_errorOf_33 ks_9999 ?_
          refine v_icmp_le (tgt := 42) K dX3_errorOf_36 (by decide) (fun hc11 => ?_) (fun hc11 => ?_)
          · have hf := it_pos hc11 hf
            refine v_iload_n K 1 dX3_errorOf_42 rfl rfl ?_
            refine v_iconst K dX3_errorOf_43 ki_2 ?_
            refine v_icmp_ne (tgt := 59) K dX3_errorOf_44 (by decide) (fun hc12 => ?_) (fun hc12 => ?_)
            · have hf := it_neg hc12 hf
              refine v_iload_n K 1 dX3_errorOf_59 rfl rfl ?_
              refine v_iconst K dX3_errorOf_60 ki_3 ?_
              refine v_icmp_ne (tgt := 81) K dX3_errorOf_61 (by decide) (fun hc13 => ?_) (fun hc13 => ?_)
              · have hf := it_neg hc13 hf
                refine v_iconst K dX3_errorOf_81 ki_0 ?_
                exact v_iret K rfl dX3_errorOf_82 (ev_v hf) rfl
              · have hf := it_pos hc13 hf
                refine v_aload_n K 0 dX3_errorOf_64 rfl rfl ?_
                refine g_get K fk_X3_30 dX3_errorOf_65 (hL 0 (by decide)) rfl rfl ?_
                refine g_getN K fn_X3_97 dX3_errorOf_68 (hL 5 (by decide)) rfl rfl ?_
                refine v_iload_n K 3 dX3_errorOf_71 rfl rfl ?_
                refine v_callWi (As := [.int x3]) (rest := []) K mk_X3_100 dX3_errorOf_72 (k_row_at (Nat.le_of_ble_eq_true rfl) (rl_6 (o := b + 2) rfl hL) rfl) (hL 6 (by decide)) rfl rfl rfl rfl rfl (Nat.le_of_ble_eq_true rfl) ⟨rfl, rfl⟩ ⟨Nat.le_of_ble_eq_true rfl, Nat.le_of_ble_eq_true rfl⟩ ?_
                refine v_if_ne (tgt := 81) K dX3_errorOf_75 (by decide) (fun hc14 => ?_) (fun hc14 => ?_)
                · have hf := it_neg hc14 hf
                  refine v_iconst K dX3_errorOf_81 ki_0 ?_
                  exact v_iret K rfl dX3_errorOf_82 (ev_v hf) rfl
                · have hf := it_pos hc14 hf
                  refine v_bipush K dX3_errorOf_78 kb_m5 ?_
                  exact v_iret K rfl dX3_errorOf_80 (ev_v hf) rfl
            · have hf := it_pos hc12 hf
              refine v_aload_n K 0 dX3_errorOf_47 rfl rfl ?_
              refine g_get K fk_X3_37 dX3_errorOf_48 (hL 0 (by decide)) rfl rfl ?_
              refine v_iload_n K 2 dX3_errorOf_51 rfl rfl ?_
              refine v_iload_n K 3 dX3_errorOf_52 rfl rfl ?_
              refine v_callWi (As := [.int x2, .int x3]) (rest := []) K mk_X3_93 dX3_errorOf_53 (c_X7_holds (o := b + 2) rfl hL rfl) (hL 10 (by decide)) rfl rfl rfl rfl rfl (Nat.le_of_ble_eq_true rfl) ⟨rfl, rfl⟩ ⟨Nat.le_of_ble_eq_true rfl, Nat.le_of_ble_eq_true rfl⟩ ?_
              refine v_if_eq (tgt := 78) K dX3_errorOf_56 (by decide) (fun hc15 => ?_) (fun hc15 => ?_)
              · have hf := it_pos hc15 hf
                refine v_bipush K dX3_errorOf_78 kb_m5 ?_
                exact v_iret K rfl dX3_errorOf_80 (ev_v hf) rfl
              · have hf := it_neg hc15 hf
                refine v_iload_n K 1 dX3_errorOf_59 rfl rfl ?_
                refine v_iconst K dX3_errorOf_60 ki_3 ?_
                refine v_icmp_ne (tgt := 81) K dX3_errorOf_61 (by decide) (fun hc16 => ?_) (fun hc16 => ?_)
                · have hf := it_neg hc16 hf
                  refine v_iconst K dX3_errorOf_81 ki_0 ?_
                  exact v_iret K rfl dX3_errorOf_82 (ev_v hf) rfl
                · have hf := it_pos hc16 hf
                  refine v_aload_n K 0 dX3_errorOf_64 rfl rfl ?_
                  refine g_get K fk_X3_30 dX3_errorOf_65 (hL 0 (by decide)) rfl rfl ?_
                  refine g_getN K fn_X3_97 dX3_errorOf_68 (hL 5 (by decide)) rfl rfl ?_
                  refine v_iload_n K 3 dX3_errorOf_71 rfl rfl ?_
                  refine v_callWi (As := [.int x3]) (rest := []) K mk_X3_100 dX3_errorOf_72 (k_row_at (Nat.le_of_ble_eq_true rfl) (rl_6 (o := b + 2) rfl hL) rfl) (hL 6 (by decide)) rfl rfl rfl rfl rfl (Nat.le_of_ble_eq_true rfl) ⟨rfl, rfl⟩ ⟨Nat.le_of_ble_eq_true rfl, Nat.le_of_ble_eq_true rfl⟩ ?_
                  refine v_if_ne (tgt := 81) K dX3_errorOf_75 (by decide) (fun hc17 => ?_) (fun hc17 => ?_)
                  · have hf := it_neg hc17 hf
                    refine v_iconst K dX3_errorOf_81 ki_0 ?_
                    exact v_iret K rfl dX3_errorOf_82 (ev_v hf) rfl
                  · have hf := it_pos hc17 hf
                    refine v_bipush K dX3_errorOf_78 kb_m5 ?_
                    exact v_iret K rfl dX3_errorOf_80 (ev_v hf) rfl
          · have hf := it_neg hc11 hf
            refine v_bipush K dX3_errorOf_39 kb_m2 ?_
            exact v_iret K rfl dX3_errorOf_41 (ev_v hf) rfl
    · have hf := it_pos hc2 hf
      refine v_iconst K dX3_errorOf_19 ki_m1 ?_
      exact v_iret K rfl dX3_errorOf_20 (ev_v hf) rfl
  · have hf := it_neg hc1 hf
    refine v_iload_n K 2 dX3_errorOf_5 rfl rfl ?_
    refine v_callSNi (As := [.int x2]) (rest := []) K mk_X3_86 dX3_errorOf_6 (c_X8_isReader  rfl) rfl rfl (Nat.le_of_ble_eq_true rfl) ⟨rfl, rfl⟩ ⟨Nat.le_of_ble_eq_true rfl, Nat.le_of_ble_eq_true rfl⟩ ?_
    refine v_if_eq (tgt := 19) K dX3_errorOf_9 (by decide) (fun hc18 => ?_) (fun hc18 => ?_)
    · have hf := it_pos hc18 hf
      refine v_iconst K dX3_errorOf_19 ki_m1 ?_
      exact v_iret K rfl dX3_errorOf_20 (ev_v hf) rfl
    · have hf := it_neg hc18 hf
      refine v_iload_n K 3 dX3_errorOf_12 rfl rfl ?_
      refine v_callSNi (As := [.int x3]) (rest := []) K mk_X3_90 dX3_errorOf_13 (c_X8_isNote  rfl) rfl rfl (Nat.le_of_ble_eq_true rfl) ⟨rfl, rfl⟩ ⟨Nat.le_of_ble_eq_true rfl, Nat.le_of_ble_eq_true rfl⟩ ?_
      refine v_if_ne (tgt := 21) K dX3_errorOf_16 (by decide) (fun hc19 => ?_) (fun hc19 => ?_)
      · have hf := it_neg hc19 hf
        refine v_iload_n K 1 dX3_errorOf_21 rfl rfl ?_
        refine v_iconst K dX3_errorOf_22 ki_1 ?_
        refine v_icmp_ne (tgt := 42) K dX3_errorOf_23 (by decide) (fun hc20 => ?_) (fun hc20 => ?_)
        · have hf := it_neg hc20 hf
          refine v_iload_n K 1 dX3_errorOf_42 rfl rfl ?_
          refine v_iconst K dX3_errorOf_43 ki_2 ?_
          refine v_icmp_ne (tgt := 59) K dX3_errorOf_44 (by decide) (fun hc21 => ?_) (fun hc21 => ?_)
          · have hf := it_neg hc21 hf
            refine v_iload_n K 1 dX3_errorOf_59 rfl rfl ?_
            refine v_iconst K dX3_errorOf_60 ki_3 ?_
            refine v_icmp_ne (tgt := 81) K dX3_errorOf_61 (by decide) (fun hc22 => ?_) (fun hc22 => ?_)
            · have hf := it_neg hc22 hf
              refine v_iconst K dX3_errorOf_81 ki_0 ?_
              exact v_iret K rfl dX3_errorOf_82 (ev_v hf) rfl
            · have hf := it_pos hc22 hf
              refine v_aload_n K 0 dX3_errorOf_64 rfl rfl ?_
              refine g_get K fk_X3_30 dX3_errorOf_65 (hL 0 (by decide)) rfl rfl ?_
              refine g_getN K fn_X3_97 dX3_errorOf_68 (hL 5 (by decide)) rfl rfl ?_
              refine v_iload_n K 3 dX3_errorOf_71 rfl rfl ?_
              refine v_callWi (As := [.int x3]) (rest := []) K mk_X3_100 dX3_errorOf_72 (k_row_at (Nat.le_of_ble_eq_true rfl) (rl_6 (o := b + 2) rfl hL) rfl) (hL 6 (by decide)) rfl rfl rfl rfl rfl (Nat.le_of_ble_eq_true rfl) ⟨rfl, rfl⟩ ⟨Nat.le_of_ble_eq_true rfl, Nat.le_of_ble_eq_true rfl⟩ ?_
              refine v_if_ne (tgt := 81) K dX3_errorOf_75 (by decide) (fun hc23 => ?_) (fun hc23 => ?_)
              · have hf := it_neg hc23 hf
                refine v_iconst K dX3_errorOf_81 ki_0 ?_
                exact v_iret K rfl dX3_errorOf_82 (ev_v hf) rfl
              · have hf := it_pos hc23 hf
                refine v_bipush K dX3_errorOf_78 kb_m5 ?_
                exact v_iret K rfl dX3_errorOf_80 (ev_v hf) rfl
          · have hf := it_pos hc21 hf
            refine v_aload_n K 0 dX3_errorOf_47 rfl rfl ?_
            refine g_get K fk_X3_37 dX3_errorOf_48 (hL 0 (by decide)) rfl rfl ?_
            refine v_iload_n K 2 dX3_errorOf_51 rfl rfl ?_
            refine v_iload_n K 3 dX3_errorOf_52 rfl rfl ?_
            refine v_callWi (As := [.int x2, .int x3]) (rest := []) K mk_X3_93 dX3_errorOf_53 (c_X7_holds (o := b + 2) rfl hL rfl) (hL 10 (by decide)) rfl rfl rfl rfl rfl (Nat.le_of_ble_eq_true rfl) ⟨rfl, rfl⟩ ⟨Nat.le_of_ble_eq_true rfl, Nat.le_of_ble_eq_true rfl⟩ ?_
            refine v_if_eq (tgt := 78) K dX3_errorOf_56 (by decide) (fun hc24 => ?_) (fun hc24 => ?_)
            · have hf := it_pos hc24 hf
              refine v_bipush K dX3_errorOf_78 kb_m5 ?_
              exact v_iret K rfl dX3_errorOf_80 (ev_v hf) rfl
            · have hf := it_neg hc24 hf
              refine v_iload_n K 1 dX3_errorOf_59 rfl rfl ?_
              refine v_iconst K dX3_errorOf_60 ki_3 ?_
              refine v_icmp_ne (tgt := 81) K dX3_errorOf_61 (by decide) (fun hc25 => ?_) (fun hc25 => ?_)
              · have hf := it_neg hc25 hf
                refine v_iconst K dX3_errorOf_81 ki_0 ?_
                exact v_iret K rfl dX3_errorOf_82 (ev_v hf) rfl
              · have hf := it_pos hc25 hf
                refine v_aload_n K 0 dX3_errorOf_64 rfl rfl ?_
                refine g_get K fk_X3_30 dX3_errorOf_65 (hL 0 (by decide)) rfl rfl ?_
                refine g_getN K fn_X3_97 dX3_errorOf_68 (hL 5 (by decide)) rfl rfl ?_
                refine v_iload_n K 3 dX3_errorOf_71 rfl rfl ?_
                refine v_callWi (As := [.int x3]) (rest := []) K mk_X3_100 dX3_errorOf_72 (k_row_at (Nat.le_of_ble_eq_true rfl) (rl_6 (o := b + 2) rfl hL) rfl) (hL 6 (by decide)) rfl rfl rfl rfl rfl (Nat.le_of_ble_eq_true rfl) ⟨rfl, rfl⟩ ⟨Nat.le_of_ble_eq_true rfl, Nat.le_of_ble_eq_true rfl⟩ ?_
                refine v_if_ne (tgt := 81) K dX3_errorOf_75 (by decide) (fun hc26 => ?_) (fun hc26 => ?_)
                · have hf := it_neg hc26 hf
                  refine v_iconst K dX3_errorOf_81 ki_0 ?_
                  exact v_iret K rfl dX3_errorOf_82 (ev_v hf) rfl
                · have hf := it_pos hc26 hf
                  refine v_bipush K dX3_errorOf_78 kb_m5 ?_
                  exact v_iret K rfl dX3_errorOf_80 (ev_v hf) rfl
        · have hf := it_pos hc20 hf
          refine v_iload K 4 dX3_errorOf_26 rfl ?_
          refine v_if_lt (tgt := 39) K dX3_errorOf_28 (by decide) (fun hc27 => ?_) (fun hc27 => ?_)
          · have hf := it_pos hc27 hf
            refine v_bipush K dX3_errorOf_39 kb_m2 ?_
            exact v_iret K rfl dX3_errorOf_41 (ev_v hf) rfl
          · have hf := it_neg hc27 hf
            refine v_iload K 4 dX3_errorOf_31 rfl ?_
            refine v_sipush K dX3_errorOf_33 ks_9999 ?_
            refine v_icmp_le (tgt := 42) K dX3_errorOf_36 (by decide) (fun hc28 => ?_) (fun hc28 => ?_)
            · have hf := it_pos hc28 hf
              refine v_iload_n K 1 dX3_errorOf_42 rfl rfl ?_
              refine v_iconst K dX3_errorOf_43 ki_2 ?_
              refine v_icmp_ne (tgt := 59) K dX3_errorOf_44 (by decide) (fun hc29 => ?_) (fun hc29 => ?_)
              · have hf := it_neg hc29 hf
                refine v_iload_n K 1 dX3_errorOf_59 rfl rfl ?_
                refine v_iconst K dX3_errorOf_60 ki_3 ?_
                refine v_icmp_ne (tgt := 81) K dX3_errorOf_61 (by decide) (fun hc30 => ?_) (fun hc30 => ?_)
                · have hf := it_neg hc30 hf
                  refine v_iconst K dX3_errorOf_81 ki_0 ?_
                  exact v_iret K rfl dX3_errorOf_82 (ev_v hf) rfl
                · have hf := it_pos hc30 hf
                  refine v_aload_n K 0 dX3_errorOf_64 rfl rfl ?_
                  refine g_get K fk_X3_30 dX3_errorOf_65 (hL 0 (by decide)) rfl rfl ?_
                  refine g_getN K fn_X3_97 dX3_errorOf_68 (hL 5 (by decide)) rfl rfl ?_
                  refine v_iload_n K 3 dX3_errorOf_71 rfl rfl ?_
                  refine v_callWi (As := [.int x3]) (rest := []) K mk_X3_100 dX3_errorOf_72 (k_row_at (Nat.le_of_ble_eq_true rfl) (rl_6 (o := b + 2) rfl hL) rfl) (hL 6 (by decide)) rfl rfl rfl rfl rfl (Nat.le_of_ble_eq_true rfl) ⟨rfl, rfl⟩ ⟨Nat.le_of_ble_eq_true rfl, Nat.le_of_ble_eq_true rfl⟩ ?_
                  refine v_if_ne (tgt := 81) K dX3_errorOf_75 (by decide) (fun hc31 => ?_) (fun hc31 => ?_)
                  · have hf := it_neg hc31 hf
                    refine v_iconst K dX3_errorOf_81 ki_0 ?_
                    exact v_iret K rfl dX3_errorOf_82 (ev_v hf) rfl
                  · have hf := it_pos hc31 hf
                    refine v_bipush K dX3_errorOf_78 kb_m5 ?_
                    exact v_iret K rfl dX3_errorOf_80 (ev_v hf) rfl
              · have hf := it_pos hc29 hf
                refine v_aload_n K 0 dX3_errorOf_47 rfl rfl ?_
                refine g_get K fk_X3_37 dX3_errorOf_48 (hL 0 (by decide)) rfl rfl ?_
                refine v_iload_n K 2 dX3_errorOf_51 rfl rfl ?_
                refine v_iload_n K 3 dX3_errorOf_52 rfl rfl ?_
                refine v_callWi (As := [.int x2, .int x3]) (rest := []) K mk_X3_93 dX3_errorOf_53 (c_X7_holds (o := b + 2) rfl hL rfl) (hL 10 (by decide)) rfl rfl rfl rfl rfl (Nat.le_of_ble_eq_true rfl) ⟨rfl, rfl⟩ ⟨Nat.le_of_ble_eq_true rfl, Nat.le_of_ble_eq_true rfl⟩ ?_
                refine v_if_eq (tgt := 78) K dX3_errorOf_56 (by decide) (fun hc32 => ?_) (fun hc32 => ?_)
                · have hf := it_pos hc32 hf
                  refine v_bipush K dX3_errorOf_78 kb_m5 ?_
                  exact v_iret K rfl dX3_errorOf_80 (ev_v hf) rfl
                · have hf := it_neg hc32 hf
                  refine v_iload_n K 1 dX3_errorOf_59 rfl rfl ?_
                  refine v_iconst K dX3_errorOf_60 ki_3 ?_
                  refine v_icmp_ne (tgt := 81) K dX3_errorOf_61 (by decide) (fun hc33 => ?_) (fun hc33 => ?_)
                  · have hf := it_neg hc33 hf
                    refine v_iconst K dX3_errorOf_81 ki_0 ?_
                    exact v_iret K rfl dX3_errorOf_82 (ev_v hf) rfl
                  · have hf := it_pos hc33 hf
                    refine v_aload_n K 0 dX3_errorOf_64 rfl rfl ?_
                    refine g_get K fk_X3_30 dX3_errorOf_65 (hL 0 (by decide)) rfl rfl ?_
                    refine g_getN K fn_X3_97 dX3_errorOf_68 (hL 5 (by decide)) rfl rfl ?_
                    refine v_iload_n K 3 dX3_errorOf_71 rfl rfl ?_
                    refine v_callWi (As := [.int x3]) (rest := []) K mk_X3_100 dX3_errorOf_72 (k_row_at (Nat.le_of_ble_eq_true rfl) (rl_6 (o := b + 2) rfl hL) rfl) (hL 6 (by decide)) rfl rfl rfl rfl rfl (Nat.le_of_ble_eq_true rfl) ⟨rfl, rfl⟩ ⟨Nat.le_of_ble_eq_true rfl, Nat.le_of_ble_eq_true rfl⟩ ?_
                    refine v_if_ne (tgt := 81) K dX3_errorOf_75 (by decide) (fun hc34 => ?_) (fun hc34 => ?_)
                    · have hf := it_neg hc34 hf
                      refine v_iconst K dX3_errorOf_81 ki_0 ?_
                      exact v_iret K rfl dX3_errorOf_82 (ev_v hf) rfl
                    · have hf := it_pos hc34 hf
                      refine v_bipush K dX3_errorOf_78 kb_m5 ?_
                      exact v_iret K rfl dX3_errorOf_80 (ev_v hf) rfl
            · have hf := it_neg hc28 hf
              refine v_bipush K dX3_errorOf_39 kb_m2 ?_
              exact v_iret K rfl dX3_errorOf_41 (ev_v hf) rfl
      · have hf := it_pos hc19 hf
        refine v_iconst K dX3_errorOf_19 ki_m1 ?_
        exact v_iret K rfl dX3_errorOf_20 (ev_v hf) rfl
set_option maxRecDepth 20000 in
theorem c_X7_placeOf {G : Gs} {o b : Nat} (ho : o = b + 2) (hL : LibG E b) {S : St}  {x1 : Int32} {x2 : Int32} {r : Int32} (hf : f_X7_placeOf S x1 x2 = some r) : Ctr l D E A yX7_placeOf cX7_placeOf 6 (some .int) (rmD 1) [.ref (eA E o 10), .int x1, .int x2] (wl E (va_up G o S)) (some (.int r)) (wl E (va_up G o S)) := by
  subst ho
  refine Ctr.of (own := RX7) pn_X7 rfl (Nat.le_of_ble_eq_true rfl) ?_
  intro p e s m args below meth c K
  refine v_lv (lv' := [(0, .ref (eA E (b + 2) 10)), (1, .int x1), (2, .int x2)]) rfl ?_
  have L18 : ∀ (x2 : Int32) (x3 : Int32) (x4 : Int32) (S : St), ∀ (n : Nat) (x5 : Int32), f_X7_placeOf_L18 x2 x3 x4 S n x5 = some r → VV p l e (rmD 1) s m args below meth c (MQ below (CQ D A (some (.int r)) (wl E (va_up G (b + 2) S))) args s 0 0 A) D A 6 (0, 0) 18 [] [(0, .ref (eA E (b + 2) 10)), (2, .int x2), (3, .int x3), (4, .int x4), (5, .int x5)] (wl E (va_up G (b + 2) S)) := by
    intro x2 x3 x4 S n
    induction n with
    | zero =>
      intro x5 hf
      rw [f_X7_placeOf_L18] at hf
      cases hf
    | succ n ih =>
      intro x5 hf
      rw [f_X7_placeOf_L18] at hf
      refine v_iload K 4 dX7_placeOf_18 rfl ?_
      refine v_iload K 3 dX7_placeOf_20 rfl ?_
      refine v_icmp_ge (tgt := 49) K dX7_placeOf_22 (by decide) (fun hc1 => ?_) (fun hc1 => ?_)
      · have hf := it_pos hc1 hf
        refine v_iconst K dX7_placeOf_49 ki_m1 ?_
        exact v_iret K rfl dX7_placeOf_50 (ev_o hf) rfl
      · have hf := it_neg hc1 hf
        refine v_aload_n K 0 dX7_placeOf_25 rfl rfl ?_
        refine g_get K fk_X7_20 dX7_placeOf_26 (hL 10 (by decide)) rfl rfl ?_
        refine v_iload_n K 2 dX7_placeOf_29 rfl rfl ?_
        refine v_iload K 4 dX7_placeOf_30 rfl ?_
        refine v_iadd K dX7_placeOf_32 ?_
        refine v_callWi (As := [.int (x3 + x5)]) (rest := []) K mk_X7_32 dX7_placeOf_33 (k_row_at (Nat.le_of_ble_eq_true rfl) (rl_13 (o := b + 2) rfl hL) rfl) (hL 13 (by decide)) rfl rfl rfl rfl rfl (Nat.le_of_ble_eq_true rfl) ⟨rfl, rfl⟩ ⟨Nat.le_of_ble_eq_true rfl, Nat.le_of_ble_eq_true rfl⟩ ?_
        refine v_iload_n K 1 dX7_placeOf_36 rfl rfl ?_
        refine v_icmp_ne (tgt := 43) K dX7_placeOf_37 (by decide) (fun hc2 => ?_) (fun hc2 => ?_)
        · have hf := it_neg hc2 hf
          refine v_iinc (v := x5 + 1) (lv' := [(5, .int (x5 + 1)), (0, .ref (eA E (b + 2) 10)), (2, .int x2), (3, .int x3), (4, .int x4)]) K 4 dX7_placeOf_43 rfl rfl (by decide) rfl ?_
          refine v_goto (tgt := 18) K dX7_placeOf_46 (by decide) ?_
          exact v_lsub [1, 2, 3, 4, 0] rfl (ih (x5 + 1) hf)
        · have hf := it_pos hc2 hf
          refine v_iload K 4 dX7_placeOf_40 rfl ?_
          exact v_iret K rfl dX7_placeOf_42 (ev_o hf) rfl
  unfold f_X7_placeOf at hf
  refine v_iload_n K 1 dX7_placeOf_0 rfl rfl ?_
  refine v_bipush K dX7_placeOf_1 kb_8 ?_
  refine v_imul K dX7_placeOf_3 ?_
  refine v_istore_n (lv' := [(3, .int (x1 * 8)), (0, .ref (eA E (b + 2) 10)), (1, .int x1), (2, .int x2)]) K dX7_placeOf_4 rfl (by decide) rfl ?_
  refine v_aload_n K 1 dX7_placeOf_5 rfl rfl ?_
  refine g_get K fk_X7_14 dX7_placeOf_6 (hL 10 (by decide)) rfl rfl ?_
  refine v_iload_n K 2 dX7_placeOf_9 rfl rfl ?_
  refine v_callWi (As := [.int x1]) (rest := []) K mk_X7_32 dX7_placeOf_10 (k_row_at (Nat.le_of_ble_eq_true rfl) (rl_11 (o := b + 2) rfl hL) rfl) (hL 11 (by decide)) rfl rfl rfl rfl rfl (Nat.le_of_ble_eq_true rfl) ⟨rfl, rfl⟩ ⟨Nat.le_of_ble_eq_true rfl, Nat.le_of_ble_eq_true rfl⟩ ?_
  refine v_istore (lv' := [(4, .int (rat 16 (S 12) x1)), (3, .int (x1 * 8)), (0, .ref (eA E (b + 2) 10)), (1, .int x1), (2, .int x2)]) K dX7_placeOf_13 (by decide) rfl ?_
  refine v_iconst K dX7_placeOf_15 ki_0 ?_
  refine v_istore (lv' := [(5, .int 0), (4, .int (rat 16 (S 12) x1)), (3, .int (x1 * 8)), (0, .ref (eA E (b + 2) 10)), (1, .int x1), (2, .int x2)]) K dX7_placeOf_16 (by decide) rfl ?_
  refine v_lsub [3, 5, 2, 1, 0] rfl ?_
  exact L18 x2 (x1 * 8) (rat 16 (S 12) x1) S 5000 0 hf
set_option maxRecDepth 20000 in
theorem c_X3_noteUse {G : Gs} {o b : Nat} (ho : o = b + 2) (hL : LibG E b) {S S' : St}  {x1 : Int32} {x2 : Int32} (hf : f_X3_noteUse S x1 x2 = S') : Ctr l D E A yX3_noteUse cX3_noteUse 3 none (rmD 1) [.ref (eA E o 0), .int x1, .int x2] (wl E (va_up G o S)) none (wl E (va_up G o S')) := by
  subst ho
  refine Ctr.of (own := RX3) pn_X3 rfl (Nat.le_of_ble_eq_true rfl) ?_
  intro p e s m args below meth c K
  refine v_lv (lv' := [(0, .ref (eA E (b + 2) 0)), (1, .int x1), (2, .int x2)]) rfl ?_
  unfold f_X3_noteUse at hf
  refine v_aload_n K 0 dX3_noteUse_0 rfl rfl ?_
  refine g_get K fk_X3_57 dX3_noteUse_1 (hL 0 (by decide)) rfl rfl ?_
  refine v_iload_n K 1 dX3_noteUse_4 rfl rfl ?_
  refine v_iconst K dX3_noteUse_5 ki_1 ?_
  obtain ⟨S1, hS1, hf⟩ := bnd_el hf
  refine v_callWn (As := [.int x1, .int 1]) (rest := []) K mk_X3_135 dX3_noteUse_6 (k_row_add (Nat.le_of_ble_eq_true rfl) (rl_34 (o := b + 2) rfl hL) hS1.symm) (hL 34 (by decide)) rfl rfl rfl rfl rfl (Nat.le_of_ble_eq_true rfl) ⟨rfl, rfl⟩ ⟨Nat.le_of_ble_eq_true rfl, Nat.le_of_ble_eq_true rfl⟩ ?_
  refine v_aload_n K 0 dX3_noteUse_9 rfl rfl ?_
  refine g_get K fk_X3_60 dX3_noteUse_10 (hL 0 (by decide)) rfl rfl ?_
  refine v_iload_n K 1 dX3_noteUse_13 rfl rfl ?_
  refine v_iload_n K 2 dX3_noteUse_14 rfl rfl ?_
  have hj3 : ∀ (w1 : Int32), w1 = (if x2 = 0 then 0 else 1 : Int32) → VV p l e (rmD 1) s m args below meth c (MQ below (CQ D A none (wl E (va_up G (b + 2) S'))) args s 0 0 A) D A 3 (0, 0) 23 [.int w1, .int x1, .ref (eA E (b + 2) 36)] [] (wl E (va_up G (b + 2) S1)) := by
    intro w1 ew1
    subst ew1
    obtain ⟨S2, hS2, hf⟩ := bnd_el hf
    refine v_callWn (As := [.int x1, .int (if x2 = 0 then 0 else 1 : Int32)]) (rest := []) K mk_X3_135 dX3_noteUse_23 (k_row_add (Nat.le_of_ble_eq_true rfl) (rl_36 (o := b + 2) rfl hL) hS2.symm) (hL 36 (by decide)) rfl rfl rfl rfl rfl (Nat.le_of_ble_eq_true rfl) ⟨rfl, rfl⟩ ⟨Nat.le_of_ble_eq_true rfl, Nat.le_of_ble_eq_true rfl⟩ ?_
    exact v_vret K rfl dX3_noteUse_26 rfl (ew_v hf)
  refine v_if_eq (tgt := 22) K dX3_noteUse_15 (by decide) (fun hc1 => ?_) (fun hc1 => ?_)
  · refine v_iconst K dX3_noteUse_22 ki_0 ?_
    exact v_lsub [] rfl (hj3 0 (if_pos hc1).symm)
  · refine v_iconst K dX3_noteUse_18 ki_1 ?_
    refine v_goto (tgt := 23) K dX3_noteUse_19 (by decide) ?_
    exact v_lsub [] rfl (hj3 1 (if_neg hc1).symm)
set_option maxRecDepth 20000 in
theorem c_X7_valueAt {G : Gs} {o b : Nat} (ho : o = b + 2) (hL : LibG E b) {S : St}  {x1 : Int32} {x2 : Int32} {r : Int32} (hf : f_X7_valueAt S x1 x2 = r) : Ctr l D E A yX7_valueAt cX7_valueAt 3 (some .int) (rmD 1) [.ref (eA E o 10), .int x1, .int x2] (wl E (va_up G o S)) (some (.int r)) (wl E (va_up G o S)) := by
  subst ho
  refine Ctr.of (own := RX7) pn_X7 rfl (Nat.le_of_ble_eq_true rfl) ?_
  intro p e s m args below meth c K
  refine v_lv (lv' := [(0, .ref (eA E (b + 2) 10)), (1, .int x1), (2, .int x2)]) rfl ?_
  unfold f_X7_valueAt at hf
  refine v_aload_n K 0 dX7_valueAt_0 rfl rfl ?_
  refine g_get K fk_X7_23 dX7_valueAt_1 (hL 10 (by decide)) rfl rfl ?_
  refine v_iload_n K 1 dX7_valueAt_4 rfl rfl ?_
  refine v_bipush K dX7_valueAt_5 kb_8 ?_
  refine v_imul K dX7_valueAt_7 ?_
  refine v_iload_n K 2 dX7_valueAt_8 rfl rfl ?_
  refine v_iadd K dX7_valueAt_9 ?_
  refine v_callWi (As := [.int ((x1 * 8) + x2)]) (rest := []) K mk_X7_32 dX7_valueAt_10 (k_row_at (Nat.le_of_ble_eq_true rfl) (rl_15 (o := b + 2) rfl hL) rfl) (hL 15 (by decide)) rfl rfl rfl rfl rfl (Nat.le_of_ble_eq_true rfl) ⟨rfl, rfl⟩ ⟨Nat.le_of_ble_eq_true rfl, Nat.le_of_ble_eq_true rfl⟩ ?_
  exact v_iret K rfl dX7_valueAt_13 (ev_v hf) rfl
set_option maxRecDepth 20000 in
theorem c_X7_isChangedAt {G : Gs} {o b : Nat} (ho : o = b + 2) (hL : LibG E b) {S : St}  {x1 : Int32} {x2 : Int32} {r : Int32} (hf : f_X7_isChangedAt S x1 x2 = r) : Ctr l D E A yX7_isChangedAt cX7_isChangedAt 3 (some .boolean) (rmD 1) [.ref (eA E o 10), .int x1, .int x2] (wl E (va_up G o S)) (some (.int r)) (wl E (va_up G o S)) := by
  subst ho
  refine Ctr.of (own := RX7) pn_X7 rfl (Nat.le_of_ble_eq_true rfl) ?_
  intro p e s m args below meth c K
  refine v_lv (lv' := [(0, .ref (eA E (b + 2) 10)), (1, .int x1), (2, .int x2)]) rfl ?_
  unfold f_X7_isChangedAt at hf
  refine v_aload_n K 0 dX7_isChangedAt_0 rfl rfl ?_
  refine g_get K fk_X7_26 dX7_isChangedAt_1 (hL 10 (by decide)) rfl rfl ?_
  refine v_iload_n K 1 dX7_isChangedAt_4 rfl rfl ?_
  refine v_bipush K dX7_isChangedAt_5 kb_8 ?_
  refine v_imul K dX7_isChangedAt_7 ?_
  refine v_iload_n K 2 dX7_isChangedAt_8 rfl rfl ?_
  refine v_iadd K dX7_isChangedAt_9 ?_
  refine v_callWi (As := [.int ((x1 * 8) + x2)]) (rest := []) K mk_X7_32 dX7_isChangedAt_10 (k_row_at (Nat.le_of_ble_eq_true rfl) (rl_17 (o := b + 2) rfl hL) rfl) (hL 17 (by decide)) rfl rfl rfl rfl rfl (Nat.le_of_ble_eq_true rfl) ⟨rfl, rfl⟩ ⟨Nat.le_of_ble_eq_true rfl, Nat.le_of_ble_eq_true rfl⟩ ?_
  refine v_iconst K dX7_isChangedAt_13 ki_1 ?_
  refine v_icmp_ne (tgt := 21) K dX7_isChangedAt_14 (by decide) (fun hc1 => ?_) (fun hc1 => ?_)
  · have hf := it_neg hc1 hf
    refine v_iconst K dX7_isChangedAt_21 ki_0 ?_
    exact v_zret K rfl dX7_isChangedAt_22 (Or.inl rfl) (ev_v hf) rfl
  · have hf := it_pos hc1 hf
    refine v_iconst K dX7_isChangedAt_17 ki_1 ?_
    refine v_goto (tgt := 22) K dX7_isChangedAt_18 (by decide) ?_
    exact v_zret K rfl dX7_isChangedAt_22 (Or.inr rfl) (ev_v hf) rfl
theorem b_X7_isChangedAt {S : St}  {x1 : Int32} {x2 : Int32} : f_X7_isChangedAt S x1 x2 = 0 ∨ f_X7_isChangedAt S x1 x2 = 1 := by
  unfold f_X7_isChangedAt
  repeat' split
  all_goals first | exact Or.inl rfl | exact Or.inr rfl
set_option maxRecDepth 20000 in
theorem c_X7_remove {G : Gs} {o b : Nat} (ho : o = b + 2) (hL : LibG E b) {S S' : St}  {x1 : Int32} {x2 : Int32} (hf : f_X7_remove S x1 x2 = some S') : Ctr l D E A yX7_remove cX7_remove 8 none (rmD 1) [.ref (eA E o 10), .int x1, .int x2] (wl E (va_up G o S)) none (wl E (va_up G o S')) := by
  subst ho
  refine Ctr.of (own := RX7) pn_X7 rfl (Nat.le_of_ble_eq_true rfl) ?_
  intro p e s m args below meth c K
  refine v_lv (lv' := [(0, .ref (eA E (b + 2) 10)), (1, .int x1), (2, .int x2)]) rfl ?_
  have L77 : ∀ (x1 : Int32) (x3 : Int32) (x5 : Int32), ∀ (k : Int32 → St → Option (St)), (∀ (x7 : Int32) (S : St), k x7 S = some S' → VV p l e (rmD 1) s m args below meth c (MQ below (CQ D A none (wl E (va_up G (b + 2) S'))) args s 0 0 A) D A 8 (0, 0) 150 [] [(0, .ref (eA E (b + 2) 10)), (1, .int x1), (3, .int x3)] (wl E (va_up G (b + 2) S))) → ∀ (n : Nat) (x7 : Int32) (S : St), f_X7_remove_L77 x1 x3 x5 k n x7 S = some S' → VV p l e (rmD 1) s m args below meth c (MQ below (CQ D A none (wl E (va_up G (b + 2) S'))) args s 0 0 A) D A 8 (0, 0) 77 [] [(0, .ref (eA E (b + 2) 10)), (1, .int x1), (3, .int x3), (5, .int x5), (7, .int x7)] (wl E (va_up G (b + 2) S)) := by
    intro x1 x3 x5 k hk n
    induction n with
    | zero =>
      intro x7 S hf
      rw [f_X7_remove_L77] at hf
      cases hf
    | succ n ih =>
      intro x7 S hf
      rw [f_X7_remove_L77] at hf
      refine v_iload K 4 dX7_remove_77 rfl ?_
      refine v_iload K 3 dX7_remove_79 rfl ?_
      refine v_icmp_ge (tgt := 150) K dX7_remove_81 (by decide) (fun hc3 => ?_) (fun hc3 => ?_)
      · have hf := it_pos hc3 hf
        exact v_lsub [0, 1, 2] rfl (hk x7 S hf)
      · have hf := it_neg hc3 hf
        refine v_aload_n K 0 dX7_remove_84 rfl rfl ?_
        refine g_get K fk_X7_20 dX7_remove_85 (hL 10 (by decide)) rfl rfl ?_
        refine v_iload K 4 dX7_remove_88 rfl ?_
        refine v_aload_n K 0 dX7_remove_90 rfl rfl ?_
        refine g_get K fk_X7_20 dX7_remove_91 (hL 10 (by decide)) rfl rfl ?_
        refine v_iload K 4 dX7_remove_94 rfl ?_
        refine v_iconst K dX7_remove_96 ki_1 ?_
        refine v_iadd K dX7_remove_97 ?_
        refine v_callWi (As := [.int (x7 + 1)]) (rest := [.int x7, .ref (eA E (b + 2) 13)]) K mk_X7_32 dX7_remove_98 (k_row_at (Nat.le_of_ble_eq_true rfl) (rl_13 (o := b + 2) rfl hL) rfl) (hL 13 (by decide)) rfl rfl rfl rfl rfl (Nat.le_of_ble_eq_true rfl) ⟨rfl, rfl⟩ ⟨Nat.le_of_ble_eq_true rfl, Nat.le_of_ble_eq_true rfl⟩ ?_
        obtain ⟨S2, hS2, hf⟩ := bnd_el hf
        refine v_callWn (As := [.int x7, .int (rat 128 (S 14) (x7 + 1))]) (rest := []) K mk_X7_40 dX7_remove_101 (k_row_write (Nat.le_of_ble_eq_true rfl) (rl_13 (o := b + 2) rfl hL) hS2.symm) (hL 13 (by decide)) rfl rfl rfl rfl rfl (Nat.le_of_ble_eq_true rfl) ⟨rfl, rfl⟩ ⟨Nat.le_of_ble_eq_true rfl, Nat.le_of_ble_eq_true rfl⟩ ?_
        refine v_aload_n K 0 dX7_remove_104 rfl rfl ?_
        refine g_get K fk_X7_23 dX7_remove_105 (hL 10 (by decide)) rfl rfl ?_
        refine v_iload K 4 dX7_remove_108 rfl ?_
        refine v_aload_n K 0 dX7_remove_110 rfl rfl ?_
        refine g_get K fk_X7_23 dX7_remove_111 (hL 10 (by decide)) rfl rfl ?_
        refine v_iload K 4 dX7_remove_114 rfl ?_
        refine v_iconst K dX7_remove_116 ki_1 ?_
        refine v_iadd K dX7_remove_117 ?_
        refine v_callWi (As := [.int (x7 + 1)]) (rest := [.int x7, .ref (eA E (b + 2) 15)]) K mk_X7_32 dX7_remove_118 (k_row_at (Nat.le_of_ble_eq_true rfl) (rl_15 (o := b + 2) rfl hL) rfl) (hL 15 (by decide)) rfl rfl rfl rfl rfl (Nat.le_of_ble_eq_true rfl) ⟨rfl, rfl⟩ ⟨Nat.le_of_ble_eq_true rfl, Nat.le_of_ble_eq_true rfl⟩ ?_
        obtain ⟨S3, hS3, hf⟩ := bnd_el hf
        refine v_callWn (As := [.int x7, .int (rat 128 (S2 16) (x7 + 1))]) (rest := []) K mk_X7_40 dX7_remove_121 (k_row_write (Nat.le_of_ble_eq_true rfl) (rl_15 (o := b + 2) rfl hL) hS3.symm) (hL 15 (by decide)) rfl rfl rfl rfl rfl (Nat.le_of_ble_eq_true rfl) ⟨rfl, rfl⟩ ⟨Nat.le_of_ble_eq_true rfl, Nat.le_of_ble_eq_true rfl⟩ ?_
        refine v_aload_n K 0 dX7_remove_124 rfl rfl ?_
        refine g_get K fk_X7_26 dX7_remove_125 (hL 10 (by decide)) rfl rfl ?_
        refine v_iload K 4 dX7_remove_128 rfl ?_
        refine v_aload_n K 0 dX7_remove_130 rfl rfl ?_
        refine g_get K fk_X7_26 dX7_remove_131 (hL 10 (by decide)) rfl rfl ?_
        refine v_iload K 4 dX7_remove_134 rfl ?_
        refine v_iconst K dX7_remove_136 ki_1 ?_
        refine v_iadd K dX7_remove_137 ?_
        refine v_callWi (As := [.int (x7 + 1)]) (rest := [.int x7, .ref (eA E (b + 2) 17)]) K mk_X7_32 dX7_remove_138 (k_row_at (Nat.le_of_ble_eq_true rfl) (rl_17 (o := b + 2) rfl hL) rfl) (hL 17 (by decide)) rfl rfl rfl rfl rfl (Nat.le_of_ble_eq_true rfl) ⟨rfl, rfl⟩ ⟨Nat.le_of_ble_eq_true rfl, Nat.le_of_ble_eq_true rfl⟩ ?_
        obtain ⟨S4, hS4, hf⟩ := bnd_el hf
        refine v_callWn (As := [.int x7, .int (rat 128 (S3 18) (x7 + 1))]) (rest := []) K mk_X7_40 dX7_remove_141 (k_row_write (Nat.le_of_ble_eq_true rfl) (rl_17 (o := b + 2) rfl hL) hS4.symm) (hL 17 (by decide)) rfl rfl rfl rfl rfl (Nat.le_of_ble_eq_true rfl) ⟨rfl, rfl⟩ ⟨Nat.le_of_ble_eq_true rfl, Nat.le_of_ble_eq_true rfl⟩ ?_
        refine v_iinc (v := x7 + 1) (lv' := [(7, .int (x7 + 1)), (0, .ref (eA E (b + 2) 10)), (1, .int x1), (3, .int x3), (5, .int x5)]) K 4 dX7_remove_144 rfl rfl (by decide) rfl ?_
        refine v_goto (tgt := 77) K dX7_remove_147 (by decide) ?_
        exact v_lsub [1, 2, 3, 4, 0] rfl (ih (x7 + 1) S4 hf)
  unfold f_X7_remove at hf
  refine v_aload_n K 0 dX7_remove_0 rfl rfl ?_
  refine g_get K fk_X7_14 dX7_remove_1 (hL 10 (by decide)) rfl rfl ?_
  refine v_iload_n K 1 dX7_remove_4 rfl rfl ?_
  refine v_callWi (As := [.int x1]) (rest := []) K mk_X7_32 dX7_remove_5 (k_row_at (Nat.le_of_ble_eq_true rfl) (rl_11 (o := b + 2) rfl hL) rfl) (hL 11 (by decide)) rfl rfl rfl rfl rfl (Nat.le_of_ble_eq_true rfl) ⟨rfl, rfl⟩ ⟨Nat.le_of_ble_eq_true rfl, Nat.le_of_ble_eq_true rfl⟩ ?_
  refine v_istore_n (lv' := [(3, .int (rat 16 (S 12) x1)), (0, .ref (eA E (b + 2) 10)), (1, .int x1), (2, .int x2)]) K dX7_remove_8 rfl (by decide) rfl ?_
  refine v_iload_n K 3 dX7_remove_9 rfl rfl ?_
  refine v_if_lt (tgt := 18) K dX7_remove_10 (by decide) (fun hc1 => ?_) (fun hc1 => ?_)
  · have hf := it_pos hc1 hf
    exact v_vret K rfl dX7_remove_18 rfl (ew_o hf)
  · have hf := it_neg hc1 hf
    refine v_iload_n K 3 dX7_remove_13 rfl rfl ?_
    refine v_iload_n K 0 dX7_remove_14 rfl rfl ?_
    refine v_icmp_lt (tgt := 19) K dX7_remove_15 (by decide) (fun hc2 => ?_) (fun hc2 => ?_)
    · have hf := it_pos hc2 hf
      refine v_iload_n K 2 dX7_remove_19 rfl rfl ?_
      refine v_bipush K dX7_remove_20 kb_8 ?_
      refine v_imul K dX7_remove_22 ?_
      refine v_iload_n K 3 dX7_remove_23 rfl rfl ?_
      refine v_iadd K dX7_remove_24 ?_
      refine v_istore (lv' := [(4, .int ((x1 * 8) + x2)), (3, .int (rat 16 (S 12) x1)), (0, .ref (eA E (b + 2) 10)), (1, .int x1), (2, .int x2)]) K dX7_remove_25 (by decide) rfl ?_
      refine v_iload_n K 3 dX7_remove_27 rfl rfl ?_
      refine v_bipush K dX7_remove_28 kb_8 ?_
      refine v_imul K dX7_remove_30 ?_
      refine v_iload_n K 1 dX7_remove_31 rfl rfl ?_
      refine v_iadd K dX7_remove_32 ?_
      refine v_iconst K dX7_remove_33 ki_1 ?_
      refine v_isub K dX7_remove_34 ?_
      refine v_istore (lv' := [(5, .int (((x1 * 8) + (rat 16 (S 12) x1)) - 1)), (4, .int ((x1 * 8) + x2)), (3, .int (rat 16 (S 12) x1)), (0, .ref (eA E (b + 2) 10)), (1, .int x1), (2, .int x2)]) K dX7_remove_35 (by decide) rfl ?_
      refine v_aload_n K 3 dX7_remove_37 rfl rfl ?_
      refine g_get K fk_X7_20 dX7_remove_38 (hL 10 (by decide)) rfl rfl ?_
      refine v_iload K 1 dX7_remove_41 rfl ?_
      refine v_callWi (As := [.int ((x1 * 8) + x2)]) (rest := []) K mk_X7_32 dX7_remove_43 (k_row_at (Nat.le_of_ble_eq_true rfl) (rl_13 (o := b + 2) rfl hL) rfl) (hL 13 (by decide)) rfl rfl rfl rfl rfl (Nat.le_of_ble_eq_true rfl) ⟨rfl, rfl⟩ ⟨Nat.le_of_ble_eq_true rfl, Nat.le_of_ble_eq_true rfl⟩ ?_
      refine v_istore (lv' := [(6, .int (rat 128 (S 14) ((x1 * 8) + x2))), (5, .int (((x1 * 8) + (rat 16 (S 12) x1)) - 1)), (4, .int ((x1 * 8) + x2)), (3, .int (rat 16 (S 12) x1)), (0, .ref (eA E (b + 2) 10)), (1, .int x1), (2, .int x2)]) K dX7_remove_46 (by decide) rfl ?_
      refine v_aload_n K 4 dX7_remove_48 rfl rfl ?_
      refine g_get K fk_X7_29 dX7_remove_49 (hL 10 (by decide)) rfl rfl ?_
      refine v_iload K 0 dX7_remove_52 rfl ?_
      refine v_aload_n K 4 dX7_remove_54 rfl rfl ?_
      refine g_get K fk_X7_29 dX7_remove_55 (hL 10 (by decide)) rfl rfl ?_
      refine v_iload K 0 dX7_remove_58 rfl ?_
      refine v_callWi (As := [.int (rat 128 (S 14) ((x1 * 8) + x2))]) (rest := [.int (rat 128 (S 14) ((x1 * 8) + x2)), .ref (eA E (b + 2) 19)]) K mk_X7_32 dX7_remove_60 (k_row_at (Nat.le_of_ble_eq_true rfl) (rl_19 (o := b + 2) rfl hL) rfl) (hL 19 (by decide)) rfl rfl rfl rfl rfl (Nat.le_of_ble_eq_true rfl) ⟨rfl, rfl⟩ ⟨Nat.le_of_ble_eq_true rfl, Nat.le_of_ble_eq_true rfl⟩ ?_
      refine v_iload_n K 5 dX7_remove_63 rfl rfl ?_
      refine v_callSNi (As := [.int x1]) (rest := [.int (rat 24 (S 20) (rat 128 (S 14) ((x1 * 8) + x2))), .int (rat 128 (S 14) ((x1 * 8) + x2)), .ref (eA E (b + 2) 19)]) K mk_X7_44 dX7_remove_64 (c_X8_only  rfl) rfl rfl (Nat.le_of_ble_eq_true rfl) ⟨rfl, rfl⟩ ⟨Nat.le_of_ble_eq_true rfl, Nat.le_of_ble_eq_true rfl⟩ ?_
      refine v_iconst K dX7_remove_67 ki_m1 ?_
      refine v_ixor K dX7_remove_68 ?_
      refine v_iand K dX7_remove_69 ?_
      obtain ⟨S1, hS1, hf⟩ := bnd_el hf
      refine v_callWn (As := [.int (rat 128 (S 14) ((x1 * 8) + x2)), .int ((rat 24 (S 20) (rat 128 (S 14) ((x1 * 8) + x2))) &&& ((f_X8_only x1) ^^^ (-1)))]) (rest := []) K mk_X7_40 dX7_remove_70 (k_row_write (Nat.le_of_ble_eq_true rfl) (rl_19 (o := b + 2) rfl hL) hS1.symm) (hL 19 (by decide)) rfl rfl rfl rfl rfl (Nat.le_of_ble_eq_true rfl) ⟨rfl, rfl⟩ ⟨Nat.le_of_ble_eq_true rfl, Nat.le_of_ble_eq_true rfl⟩ ?_
      refine v_iload K 2 dX7_remove_73 rfl ?_
      refine v_istore (lv' := [(7, .int ((x1 * 8) + x2)), (6, .int (rat 128 (S 14) ((x1 * 8) + x2))), (5, .int (((x1 * 8) + (rat 16 (S 12) x1)) - 1)), (4, .int ((x1 * 8) + x2)), (3, .int (rat 16 (S 12) x1)), (0, .ref (eA E (b + 2) 10)), (1, .int x1), (2, .int x2)]) K dX7_remove_75 (by decide) rfl ?_
      refine v_lsub [5, 6, 4, 2, 0] rfl ?_
      refine L77 x1 (rat 16 (S 12) x1) (((x1 * 8) + (rat 16 (S 12) x1)) - 1) _ ?_ 5000 ((x1 * 8) + x2) S1 hf
      intro x7_150 S_150 hf
      refine v_aload_n K 0 dX7_remove_150 rfl rfl ?_
      refine g_get K fk_X7_14 dX7_remove_151 (hL 10 (by decide)) rfl rfl ?_
      refine v_iload_n K 1 dX7_remove_154 rfl rfl ?_
      refine v_iload_n K 2 dX7_remove_155 rfl rfl ?_
      refine v_iconst K dX7_remove_156 ki_1 ?_
      refine v_isub K dX7_remove_157 ?_
      obtain ⟨S5, hS5, hf⟩ := bnd_el hf
      refine v_callWn (As := [.int x1, .int ((rat 16 (S 12) x1) - 1)]) (rest := []) K mk_X7_40 dX7_remove_158 (k_row_write (Nat.le_of_ble_eq_true rfl) (rl_11 (o := b + 2) rfl hL) hS5.symm) (hL 11 (by decide)) rfl rfl rfl rfl rfl (Nat.le_of_ble_eq_true rfl) ⟨rfl, rfl⟩ ⟨Nat.le_of_ble_eq_true rfl, Nat.le_of_ble_eq_true rfl⟩ ?_
      exact v_vret K rfl dX7_remove_161 rfl (ew_o hf)
    · have hf := it_neg hc2 hf
      exact v_vret K rfl dX7_remove_18 rfl (ew_o hf)
set_option maxRecDepth 20000 in
theorem c_X7_lay {G : Gs} {o b : Nat} (ho : o = b + 2) (hL : LibG E b) {S S' : St}  {x1 : Int32} {x2 : Int32} {x3 : Int32} {x4 : Int32} (hf : f_X7_lay S x1 x2 x3 x4 = S') : Ctr l D E A yX7_lay cX7_lay 7 none (rmD 1) [.ref (eA E o 10), .int x1, .int x2, .int x3, .int x4] (wl E (va_up G o S)) none (wl E (va_up G o S')) := by
  subst ho
  refine Ctr.of (own := RX7) pn_X7 rfl (Nat.le_of_ble_eq_true rfl) ?_
  intro p e s m args below meth c K
  refine v_lv (lv' := [(0, .ref (eA E (b + 2) 10)), (1, .int x1), (2, .int x2), (3, .int x3), (4, .int x4)]) rfl ?_
  unfold f_X7_lay at hf
  refine v_aload_n K 0 dX7_lay_0 rfl rfl ?_
  refine g_get K fk_X7_14 dX7_lay_1 (hL 10 (by decide)) rfl rfl ?_
  refine v_iload_n K 1 dX7_lay_4 rfl rfl ?_
  refine v_callWi (As := [.int x1]) (rest := []) K mk_X7_32 dX7_lay_5 (k_row_at (Nat.le_of_ble_eq_true rfl) (rl_11 (o := b + 2) rfl hL) rfl) (hL 11 (by decide)) rfl rfl rfl rfl rfl (Nat.le_of_ble_eq_true rfl) ⟨rfl, rfl⟩ ⟨Nat.le_of_ble_eq_true rfl, Nat.le_of_ble_eq_true rfl⟩ ?_
  refine v_istore (lv' := [(5, .int (rat 16 (S 12) x1)), (0, .ref (eA E (b + 2) 10)), (1, .int x1), (2, .int x2), (3, .int x3), (4, .int x4)]) K dX7_lay_8 (by decide) rfl ?_
  refine v_iload K 0 dX7_lay_10 rfl ?_
  refine v_bipush K dX7_lay_12 kb_8 ?_
  refine v_icmp_lt (tgt := 18) K dX7_lay_14 (by decide) (fun hc1 => ?_) (fun hc1 => ?_)
  · have hf := it_pos hc1 hf
    refine v_iload_n K 2 dX7_lay_18 rfl rfl ?_
    refine v_bipush K dX7_lay_19 kb_8 ?_
    refine v_imul K dX7_lay_21 ?_
    refine v_iload K 0 dX7_lay_22 rfl ?_
    refine v_iadd K dX7_lay_24 ?_
    refine v_istore (lv' := [(6, .int ((x1 * 8) + (rat 16 (S 12) x1))), (5, .int (rat 16 (S 12) x1)), (0, .ref (eA E (b + 2) 10)), (1, .int x1), (2, .int x2), (3, .int x3), (4, .int x4)]) K dX7_lay_25 (by decide) rfl ?_
    refine v_aload_n K 2 dX7_lay_27 rfl rfl ?_
    refine g_get K fk_X7_20 dX7_lay_28 (hL 10 (by decide)) rfl rfl ?_
    refine v_iload K 0 dX7_lay_31 rfl ?_
    refine v_iload_n K 4 dX7_lay_33 rfl rfl ?_
    obtain ⟨S1, hS1, hf⟩ := bnd_el hf
    refine v_callWn (As := [.int ((x1 * 8) + (rat 16 (S 12) x1)), .int x2]) (rest := []) K mk_X7_40 dX7_lay_34 (k_row_write (Nat.le_of_ble_eq_true rfl) (rl_13 (o := b + 2) rfl hL) hS1.symm) (hL 13 (by decide)) rfl rfl rfl rfl rfl (Nat.le_of_ble_eq_true rfl) ⟨rfl, rfl⟩ ⟨Nat.le_of_ble_eq_true rfl, Nat.le_of_ble_eq_true rfl⟩ ?_
    refine v_aload_n K 2 dX7_lay_37 rfl rfl ?_
    refine g_get K fk_X7_23 dX7_lay_38 (hL 10 (by decide)) rfl rfl ?_
    refine v_iload K 0 dX7_lay_41 rfl ?_
    refine v_iload_n K 5 dX7_lay_43 rfl rfl ?_
    obtain ⟨S2, hS2, hf⟩ := bnd_el hf
    refine v_callWn (As := [.int ((x1 * 8) + (rat 16 (S 12) x1)), .int x3]) (rest := []) K mk_X7_40 dX7_lay_44 (k_row_write (Nat.le_of_ble_eq_true rfl) (rl_15 (o := b + 2) rfl hL) hS2.symm) (hL 15 (by decide)) rfl rfl rfl rfl rfl (Nat.le_of_ble_eq_true rfl) ⟨rfl, rfl⟩ ⟨Nat.le_of_ble_eq_true rfl, Nat.le_of_ble_eq_true rfl⟩ ?_
    refine v_aload_n K 2 dX7_lay_47 rfl rfl ?_
    refine g_get K fk_X7_26 dX7_lay_48 (hL 10 (by decide)) rfl rfl ?_
    refine v_iload K 0 dX7_lay_51 rfl ?_
    refine v_iload K 6 dX7_lay_53 rfl ?_
    have hj6 : ∀ (w1 : Int32), w1 = (if x4 = 0 then 0 else 1 : Int32) → VV p l e (rmD 1) s m args below meth c (MQ below (CQ D A none (wl E (va_up G (b + 2) S'))) args s 0 0 A) D A 7 (0, 0) 63 [.int w1, .int ((x1 * 8) + (rat 16 (S 12) x1)), .ref (eA E (b + 2) 17)] [(0, .ref (eA E (b + 2) 10)), (1, .int x1), (2, .int x2), (5, .int (rat 16 (S 12) x1))] (wl E (va_up G (b + 2) S2)) := by
      intro w1 ew1
      subst ew1
      obtain ⟨S3, hS3, hf⟩ := bnd_el hf
      refine v_callWn (As := [.int ((x1 * 8) + (rat 16 (S 12) x1)), .int (if x4 = 0 then 0 else 1 : Int32)]) (rest := []) K mk_X7_40 dX7_lay_63 (k_row_write (Nat.le_of_ble_eq_true rfl) (rl_17 (o := b + 2) rfl hL) hS3.symm) (hL 17 (by decide)) rfl rfl rfl rfl rfl (Nat.le_of_ble_eq_true rfl) ⟨rfl, rfl⟩ ⟨Nat.le_of_ble_eq_true rfl, Nat.le_of_ble_eq_true rfl⟩ ?_
      refine v_aload_n K 0 dX7_lay_66 rfl rfl ?_
      refine g_get K fk_X7_14 dX7_lay_67 (hL 10 (by decide)) rfl rfl ?_
      refine v_iload_n K 1 dX7_lay_70 rfl rfl ?_
      refine v_iload K 3 dX7_lay_71 rfl ?_
      refine v_iconst K dX7_lay_73 ki_1 ?_
      refine v_iadd K dX7_lay_74 ?_
      obtain ⟨S4, hS4, hf⟩ := bnd_el hf
      refine v_callWn (As := [.int x1, .int ((rat 16 (S 12) x1) + 1)]) (rest := []) K mk_X7_40 dX7_lay_75 (k_row_write (Nat.le_of_ble_eq_true rfl) (rl_11 (o := b + 2) rfl hL) hS4.symm) (hL 11 (by decide)) rfl rfl rfl rfl rfl (Nat.le_of_ble_eq_true rfl) ⟨rfl, rfl⟩ ⟨Nat.le_of_ble_eq_true rfl, Nat.le_of_ble_eq_true rfl⟩ ?_
      refine v_aload_n K 0 dX7_lay_78 rfl rfl ?_
      refine g_get K fk_X7_29 dX7_lay_79 (hL 10 (by decide)) rfl rfl ?_
      refine v_iload_n K 2 dX7_lay_82 rfl rfl ?_
      refine v_aload_n K 0 dX7_lay_83 rfl rfl ?_
      refine g_get K fk_X7_29 dX7_lay_84 (hL 10 (by decide)) rfl rfl ?_
      refine v_iload_n K 2 dX7_lay_87 rfl rfl ?_
      refine v_callWi (As := [.int x2]) (rest := [.int x2, .ref (eA E (b + 2) 19)]) K mk_X7_32 dX7_lay_88 (k_row_at (Nat.le_of_ble_eq_true rfl) (rl_19 (o := b + 2) rfl hL) rfl) (hL 19 (by decide)) rfl rfl rfl rfl rfl (Nat.le_of_ble_eq_true rfl) ⟨rfl, rfl⟩ ⟨Nat.le_of_ble_eq_true rfl, Nat.le_of_ble_eq_true rfl⟩ ?_
      refine v_iload_n K 1 dX7_lay_91 rfl rfl ?_
      refine v_callSNi (As := [.int x1]) (rest := [.int (rat 24 (S4 20) x2), .int x2, .ref (eA E (b + 2) 19)]) K mk_X7_44 dX7_lay_92 (c_X8_only  rfl) rfl rfl (Nat.le_of_ble_eq_true rfl) ⟨rfl, rfl⟩ ⟨Nat.le_of_ble_eq_true rfl, Nat.le_of_ble_eq_true rfl⟩ ?_
      refine v_ior K dX7_lay_95 ?_
      obtain ⟨S5, hS5, hf⟩ := bnd_el hf
      refine v_callWn (As := [.int x2, .int ((rat 24 (S4 20) x2) ||| (f_X8_only x1))]) (rest := []) K mk_X7_40 dX7_lay_96 (k_row_write (Nat.le_of_ble_eq_true rfl) (rl_19 (o := b + 2) rfl hL) hS5.symm) (hL 19 (by decide)) rfl rfl rfl rfl rfl (Nat.le_of_ble_eq_true rfl) ⟨rfl, rfl⟩ ⟨Nat.le_of_ble_eq_true rfl, Nat.le_of_ble_eq_true rfl⟩ ?_
      exact v_vret K rfl dX7_lay_99 rfl (ew_v hf)
    refine v_if_eq (tgt := 62) K dX7_lay_55 (by decide) (fun hc2 => ?_) (fun hc2 => ?_)
    · refine v_iconst K dX7_lay_62 ki_0 ?_
      exact v_lsub [2, 3, 4, 1] rfl (hj6 0 (if_pos hc2).symm)
    · refine v_iconst K dX7_lay_58 ki_1 ?_
      refine v_goto (tgt := 63) K dX7_lay_59 (by decide) ?_
      exact v_lsub [2, 3, 4, 1] rfl (hj6 1 (if_neg hc2).symm)
  · have hf := it_neg hc1 hf
    exact v_vret K rfl dX7_lay_17 rfl (ew_v hf)
set_option maxRecDepth 20000 in
theorem c_X3_called {G : Gs} {o b : Nat} (ho : o = b + 2) (hL : LibG E b) {S : St}  {x1 : Int32} {r : Int32} (hf : f_X3_called S x1 = some r) : Ctr l D E A yX3_called cX3_called 2 (some .int) (rmD 2) [.ref (eA E o 0), .int x1] (wl E (va_up G o S)) (some (.int r)) (wl E (va_up G o S)) := by
  subst ho
  refine Ctr.of (own := RX3) pn_X3 rfl (Nat.le_of_ble_eq_true rfl) ?_
  intro p e s m args below meth c K
  refine v_lv (lv' := [(0, .ref (eA E (b + 2) 0)), (1, .int x1)]) rfl ?_
  unfold f_X3_called at hf
  refine v_aload_n K 0 dX3_called_0 rfl rfl ?_
  refine g_get K fk_X3_30 dX3_called_1 (hL 0 (by decide)) rfl rfl ?_
  refine v_iload_n K 1 dX3_called_4 rfl rfl ?_
  refine v_aload_n K 0 dX3_called_5 rfl rfl ?_
  refine g_get K fk_X3_18 dX3_called_6 (hL 0 (by decide)) rfl rfl ?_
  refine v_iconst K dX3_called_9 ki_1 ?_
  refine v_callWi (As := [.int 1]) (rest := [.int x1, .ref (eA E (b + 2) 5)]) K mk_X3_100 dX3_called_10 (k_row_at (Nat.le_of_ble_eq_true rfl) (rl_1 (o := b + 2) rfl hL) rfl) (hL 1 (by decide)) rfl rfl rfl rfl rfl (Nat.le_of_ble_eq_true rfl) ⟨rfl, rfl⟩ ⟨Nat.le_of_ble_eq_true rfl, Nat.le_of_ble_eq_true rfl⟩ ?_
  obtain ⟨y1, hy1, hf⟩ := bd_el hf
  refine v_callWi (As := [.int x1, .int (rat 4 (S 2) 1)]) (rest := []) K mk_X3_177 dX3_called_13 (c_X1_called (o := b + 2) rfl hL hy1) (hL 5 (by decide)) rfl rfl rfl rfl rfl (Nat.le_of_ble_eq_true rfl) ⟨rfl, rfl⟩ ⟨Nat.le_of_ble_eq_true rfl, Nat.le_of_ble_eq_true rfl⟩ ?_
  exact v_iret K rfl dX3_called_16 (ev_o hf) rfl
set_option maxRecDepth 20000 in
theorem c_X3_takeAway {G : Gs} {o b : Nat} (ho : o = b + 2) (hL : LibG E b) {S S' : St}  {x1 : Int32} {x2 : Int32} (hf : f_X3_takeAway S x1 x2 = some S') : Ctr l D E A yX3_takeAway cX3_takeAway 4 none (rmD 2) [.ref (eA E o 0), .int x1, .int x2] (wl E (va_up G o S)) none (wl E (va_up G o S')) := by
  subst ho
  refine Ctr.of (own := RX3) pn_X3 rfl (Nat.le_of_ble_eq_true rfl) ?_
  intro p e s m args below meth c K
  refine v_lv (lv' := [(0, .ref (eA E (b + 2) 0)), (1, .int x1), (2, .int x2)]) rfl ?_
  unfold f_X3_takeAway at hf
  refine v_aload_n K 0 dX3_takeAway_0 rfl rfl ?_
  refine g_get K fk_X3_37 dX3_takeAway_1 (hL 0 (by decide)) rfl rfl ?_
  refine v_iload_n K 1 dX3_takeAway_4 rfl rfl ?_
  refine v_iload_n K 2 dX3_takeAway_5 rfl rfl ?_
  obtain ⟨y1, hy1, hf⟩ := bd_el hf
  refine v_callWi (As := [.int x1, .int x2]) (rest := []) K mk_X3_104 dX3_takeAway_6 (c_X7_placeOf (o := b + 2) rfl hL hy1) (hL 10 (by decide)) rfl rfl rfl rfl rfl (Nat.le_of_ble_eq_true rfl) ⟨rfl, rfl⟩ ⟨Nat.le_of_ble_eq_true rfl, Nat.le_of_ble_eq_true rfl⟩ ?_
  refine v_istore_n (lv' := [(3, .int y1), (0, .ref (eA E (b + 2) 0)), (1, .int x1), (2, .int x2)]) K dX3_takeAway_9 rfl (by decide) rfl ?_
  refine v_aload_n K 1 dX3_takeAway_10 rfl rfl ?_
  refine g_get K fk_X3_48 dX3_takeAway_11 (hL 0 (by decide)) rfl rfl ?_
  refine v_iconst K dX3_takeAway_14 ki_0 ?_
  refine v_iconst K dX3_takeAway_15 ki_1 ?_
  obtain ⟨S2, hS2, hf⟩ := bnd_el hf
  refine v_callWn (As := [.int 0, .int 1]) (rest := []) K mk_X3_135 dX3_takeAway_16 (k_row_add (Nat.le_of_ble_eq_true rfl) (rl_28 (o := b + 2) rfl hL) hS2.symm) (hL 28 (by decide)) rfl rfl rfl rfl rfl (Nat.le_of_ble_eq_true rfl) ⟨rfl, rfl⟩ ⟨Nat.le_of_ble_eq_true rfl, Nat.le_of_ble_eq_true rfl⟩ ?_
  refine v_aload_n K 1 dX3_takeAway_19 rfl rfl ?_
  refine g_get K fk_X3_51 dX3_takeAway_20 (hL 0 (by decide)) rfl rfl ?_
  refine v_iload_n K 3 dX3_takeAway_23 rfl rfl ?_
  refine v_iconst K dX3_takeAway_24 ki_1 ?_
  obtain ⟨S3, hS3, hf⟩ := bnd_el hf
  refine v_callWn (As := [.int x2, .int 1]) (rest := []) K mk_X3_135 dX3_takeAway_25 (k_row_add (Nat.le_of_ble_eq_true rfl) (rl_30 (o := b + 2) rfl hL) hS3.symm) (hL 30 (by decide)) rfl rfl rfl rfl rfl (Nat.le_of_ble_eq_true rfl) ⟨rfl, rfl⟩ ⟨Nat.le_of_ble_eq_true rfl, Nat.le_of_ble_eq_true rfl⟩ ?_
  refine v_aload_n K 1 dX3_takeAway_28 rfl rfl ?_
  refine g_get K fk_X3_63 dX3_takeAway_29 (hL 0 (by decide)) rfl rfl ?_
  refine v_iload_n K 2 dX3_takeAway_32 rfl rfl ?_
  refine v_iconst K dX3_takeAway_33 ki_1 ?_
  obtain ⟨S4, hS4, hf⟩ := bnd_el hf
  refine v_callWn (As := [.int x1, .int 1]) (rest := []) K mk_X3_135 dX3_takeAway_34 (k_row_add (Nat.le_of_ble_eq_true rfl) (rl_38 (o := b + 2) rfl hL) hS4.symm) (hL 38 (by decide)) rfl rfl rfl rfl rfl (Nat.le_of_ble_eq_true rfl) ⟨rfl, rfl⟩ ⟨Nat.le_of_ble_eq_true rfl, Nat.le_of_ble_eq_true rfl⟩ ?_
  refine v_aload_n K 1 dX3_takeAway_37 rfl rfl ?_
  refine g_get K fk_X3_37 dX3_takeAway_38 (hL 0 (by decide)) rfl rfl ?_
  refine v_iload_n K 2 dX3_takeAway_41 rfl rfl ?_
  refine v_iload_n K 0 dX3_takeAway_42 rfl rfl ?_
  refine v_callWi (As := [.int x1, .int y1]) (rest := []) K mk_X3_115 dX3_takeAway_43 (c_X7_isChangedAt (o := b + 2) rfl hL rfl) (hL 10 (by decide)) rfl rfl rfl rfl rfl (Nat.le_of_ble_eq_true rfl) ⟨rfl, rfl⟩ ⟨Nat.le_of_ble_eq_true rfl, Nat.le_of_ble_eq_true rfl⟩ ?_
  refine jn_1 (fun (S_66 : St) => VV p l e (rmD 2) s m args below meth c (MQ below (CQ D A none (wl E (va_up G (b + 2) S'))) args s 0 0 A) D A 4 (0, 0) 66 [] [(0, .ref (eA E (b + 2) 0)), (1, .int x1), (3, .int y1)] (wl E (va_up G (b + 2) S_66))) hf (fun S_66 hf => ?_) (fun hj5 hf => ?_)
  · refine v_aload_n K 0 dX3_takeAway_66 rfl rfl ?_
    refine g_get K fk_X3_37 dX3_takeAway_67 (hL 0 (by decide)) rfl rfl ?_
    refine v_iload_n K 1 dX3_takeAway_70 rfl rfl ?_
    refine v_iload_n K 2 dX3_takeAway_71 rfl rfl ?_
    obtain ⟨S6, hS6, hf⟩ := bd_el hf
    refine v_callWn (As := [.int x1, .int y1]) (rest := []) K mk_X3_118 dX3_takeAway_72 (c_X7_remove (o := b + 2) rfl hL hS6) (hL 10 (by decide)) rfl rfl rfl rfl rfl (Nat.le_of_ble_eq_true rfl) ⟨rfl, rfl⟩ ⟨Nat.le_of_ble_eq_true rfl, Nat.le_of_ble_eq_true rfl⟩ ?_
    exact v_vret K rfl dX3_takeAway_75 rfl (ew_o hf)
  · refine v_if_eq (tgt := 66) K dX3_takeAway_46 (by decide) (fun hc1 => ?_) (fun hc1 => ?_)
    · have hf := it_pos hc1 hf
      exact v_lsub [1, 2, 0] rfl (hj5 S4 hf)
    · have hf := it_neg hc1 hf
      refine v_aload_n K 1 dX3_takeAway_49 rfl rfl ?_
      refine g_get K fk_X3_24 dX3_takeAway_50 (hL 0 (by decide)) rfl rfl ?_
      refine v_iload_n K 3 dX3_takeAway_53 rfl rfl ?_
      refine v_aload_n K 1 dX3_takeAway_54 rfl rfl ?_
      refine g_get K fk_X3_37 dX3_takeAway_55 (hL 0 (by decide)) rfl rfl ?_
      refine v_iload_n K 2 dX3_takeAway_58 rfl rfl ?_
      refine v_iload_n K 0 dX3_takeAway_59 rfl rfl ?_
      refine v_callWi (As := [.int x1, .int y1]) (rest := [.int x2, .ref (eA E (b + 2) 3)]) K mk_X3_112 dX3_takeAway_60 (c_X7_valueAt (o := b + 2) rfl hL rfl) (hL 10 (by decide)) rfl rfl rfl rfl rfl (Nat.le_of_ble_eq_true rfl) ⟨rfl, rfl⟩ ⟨Nat.le_of_ble_eq_true rfl, Nat.le_of_ble_eq_true rfl⟩ ?_
      obtain ⟨S7, hS7, hf⟩ := bnd_el hf
      refine v_callWn (As := [.int x2, .int (f_X7_valueAt S4 x1 y1)]) (rest := []) K mk_X3_69 dX3_takeAway_63 (k_row_write (Nat.le_of_ble_eq_true rfl) (rl_3 (o := b + 2) rfl hL) hS7.symm) (hL 3 (by decide)) rfl rfl rfl rfl rfl (Nat.le_of_ble_eq_true rfl) ⟨rfl, rfl⟩ ⟨Nat.le_of_ble_eq_true rfl, Nat.le_of_ble_eq_true rfl⟩ ?_
      exact v_lsub [1, 2, 0] rfl (hj5 S7 hf)
set_option maxRecDepth 20000 in
theorem c_X3_callBack {G : Gs} {o b : Nat} (ho : o = b + 2) (hL : LibG E b) {S S' : St}  {x1 : Int32} {x2 : Int32} {r : Int32} (hf : f_X3_callBack S x1 x2 = some (r, S')) : Ctr l D E A yX3_callBack cX3_callBack 7 (some .int) (rmD 3) [.ref (eA E o 0), .int x1, .int x2] (wl E (va_up G o S)) (some (.int r)) (wl E (va_up G o S')) := by
  subst ho
  refine Ctr.of (own := RX3) pn_X3 rfl (Nat.le_of_ble_eq_true rfl) ?_
  intro p e s m args below meth c K
  refine v_lv (lv' := [(0, .ref (eA E (b + 2) 0)), (1, .int x1), (2, .int x2)]) rfl ?_
  have L34 : ∀ (x1 : Int32) (x2 : Int32) (x3 : Int32) (x4 : Int32), ∀ (n : Nat) (x5 : Int32) (x6 : Int32) (S : St), f_X3_callBack_L34 x1 x2 x3 x4 n x5 x6 S = some (r, S') → VV p l e (rmD 3) s m args below meth c (MQ below (CQ D A (some (.int r)) (wl E (va_up G (b + 2) S'))) args s 0 0 A) D A 7 (0, 0) 34 [] [(0, .ref (eA E (b + 2) 0)), (1, .int x1), (2, .int x2), (3, .int x3), (4, .int x4), (5, .int x5), (6, .int x6)] (wl E (va_up G (b + 2) S)) := by
    intro x1 x2 x3 x4 n
    induction n with
    | zero =>
      intro x5 x6 S hf
      rw [f_X3_callBack_L34] at hf
      cases hf
    | succ n ih =>
      intro x5 x6 S hf
      rw [f_X3_callBack_L34] at hf
      refine v_iload K 6 dX3_callBack_34 rfl ?_
      refine v_bipush K dX3_callBack_36 kb_16 ?_
      refine v_icmp_ge (tgt := 142) K dX3_callBack_38 (by decide) (fun hc2 => ?_) (fun hc2 => ?_)
      · have hf := it_pos hc2 hf
        refine v_iload K 5 dX3_callBack_142 rfl ?_
        exact v_iret K rfl dX3_callBack_144 (ev_q hf) (ew_q hf)
      · have hf := it_neg hc2 hf
        refine v_iload K 6 dX3_callBack_41 rfl ?_
        refine v_iload_n K 2 dX3_callBack_43 rfl rfl ?_
        refine jn_2 (fun (x5_136 : Int32) (S_136 : St) => VV p l e (rmD 3) s m args below meth c (MQ below (CQ D A (some (.int r)) (wl E (va_up G (b + 2) S'))) args s 0 0 A) D A 7 (0, 0) 136 [] [(0, .ref (eA E (b + 2) 0)), (1, .int x1), (2, .int x2), (3, .int x3), (4, .int x4), (5, .int x5_136), (6, .int x6)] (wl E (va_up G (b + 2) S_136))) hf (fun x5_136 S_136 hf => ?_) (fun hj2 hf => ?_)
        · refine v_iinc (v := x6 + 1) (lv' := [(6, .int (x6 + 1)), (0, .ref (eA E (b + 2) 0)), (1, .int x1), (2, .int x2), (3, .int x3), (4, .int x4), (5, .int x5_136)]) K 6 dX3_callBack_136 rfl rfl (by decide) rfl ?_
          refine v_goto (tgt := 34) K dX3_callBack_139 (by decide) ?_
          exact v_lsub [1, 2, 3, 4, 5, 6, 0] rfl (ih x5_136 (x6 + 1) S_136 hf)
        · refine v_icmp_eq (tgt := 136) K dX3_callBack_44 (by decide) (fun hc3 => ?_) (fun hc3 => ?_)
          · have hf := it_pos hc3 hf
            exact v_lsub [0, 1, 2, 3, 4, 5, 6] rfl (hj2 x5 S hf)
          · have hf := it_neg hc3 hf
            refine v_iload K 6 dX3_callBack_47 rfl ?_
            refine v_iload K 4 dX3_callBack_49 rfl ?_
            refine v_callSNi (As := [.int x6, .int x4]) (rest := []) K mk_X3_157 dX3_callBack_51 (c_X8_isIn  rfl) rfl rfl (Nat.le_of_ble_eq_true rfl) ⟨rfl, rfl⟩ ⟨Nat.le_of_ble_eq_true rfl, Nat.le_of_ble_eq_true rfl⟩ ?_
            refine v_if_ne (tgt := 60) K dX3_callBack_54 (by decide) (fun hc5 => ?_) (fun hc5 => ?_)
            · have hf := it_neg hc5 hf
              refine v_aload_n K 0 dX3_callBack_60 rfl rfl ?_
              refine g_get K fk_X3_48 dX3_callBack_61 (hL 0 (by decide)) rfl rfl ?_
              refine v_iconst K dX3_callBack_64 ki_0 ?_
              refine v_iconst K dX3_callBack_65 ki_1 ?_
              obtain ⟨S3, hS3, hf⟩ := bnd_el hf
              refine v_callWn (As := [.int 0, .int 1]) (rest := []) K mk_X3_135 dX3_callBack_66 (k_row_add (Nat.le_of_ble_eq_true rfl) (rl_28 (o := b + 2) rfl hL) hS3.symm) (hL 28 (by decide)) rfl rfl rfl rfl rfl (Nat.le_of_ble_eq_true rfl) ⟨rfl, rfl⟩ ⟨Nat.le_of_ble_eq_true rfl, Nat.le_of_ble_eq_true rfl⟩ ?_
              refine v_iload_n K 3 dX3_callBack_69 rfl rfl ?_
              refine jn_1 (fun (S_91 : St) => VV p l e (rmD 3) s m args below meth c (MQ below (CQ D A (some (.int r)) (wl E (va_up G (b + 2) S'))) args s 0 0 A) D A 7 (0, 0) 91 [] [(0, .ref (eA E (b + 2) 0)), (1, .int x1), (2, .int x2), (3, .int x3), (4, .int x4), (5, .int x5), (6, .int x6)] (wl E (va_up G (b + 2) S_91))) hf (fun S_91 hf => ?_) (fun hj4 hf => ?_)
              · refine v_aload_n K 0 dX3_callBack_91 rfl rfl ?_
                refine g_get K fk_X3_37 dX3_callBack_92 (hL 0 (by decide)) rfl rfl ?_
                refine v_iload K 6 dX3_callBack_95 rfl ?_
                refine v_iload_n K 1 dX3_callBack_97 rfl rfl ?_
                refine v_callWi (As := [.int x6, .int x1]) (rest := []) K mk_X3_93 dX3_callBack_98 (c_X7_holds (o := b + 2) rfl hL rfl) (hL 10 (by decide)) rfl rfl rfl rfl rfl (Nat.le_of_ble_eq_true rfl) ⟨rfl, rfl⟩ ⟨Nat.le_of_ble_eq_true rfl, Nat.le_of_ble_eq_true rfl⟩ ?_
                refine v_if_eq (tgt := 117) K dX3_callBack_101 (by decide) (fun hc7 => ?_) (fun hc7 => ?_)
                · have hf := it_pos hc7 hf
                  refine v_aload_n K 0 dX3_callBack_117 rfl rfl ?_
                  refine g_get K fk_X3_48 dX3_callBack_118 (hL 0 (by decide)) rfl rfl ?_
                  refine v_iconst K dX3_callBack_121 ki_1 ?_
                  refine v_iconst K dX3_callBack_122 ki_1 ?_
                  obtain ⟨S5, hS5, hf⟩ := bnd_el hf
                  refine v_callWn (As := [.int 1, .int 1]) (rest := []) K mk_X3_135 dX3_callBack_123 (k_row_add (Nat.le_of_ble_eq_true rfl) (rl_28 (o := b + 2) rfl hL) hS5.symm) (hL 28 (by decide)) rfl rfl rfl rfl rfl (Nat.le_of_ble_eq_true rfl) ⟨rfl, rfl⟩ ⟨Nat.le_of_ble_eq_true rfl, Nat.le_of_ble_eq_true rfl⟩ ?_
                  refine v_aload_n K 0 dX3_callBack_126 rfl rfl ?_
                  refine g_get K fk_X3_66 dX3_callBack_127 (hL 0 (by decide)) rfl rfl ?_
                  refine v_iload K 6 dX3_callBack_130 rfl ?_
                  refine v_iconst K dX3_callBack_132 ki_1 ?_
                  obtain ⟨S6, hS6, hf⟩ := bnd_el hf
                  refine v_callWn (As := [.int x6, .int 1]) (rest := []) K mk_X3_135 dX3_callBack_133 (k_row_add (Nat.le_of_ble_eq_true rfl) (rl_40 (o := b + 2) rfl hL) hS6.symm) (hL 40 (by decide)) rfl rfl rfl rfl rfl (Nat.le_of_ble_eq_true rfl) ⟨rfl, rfl⟩ ⟨Nat.le_of_ble_eq_true rfl, Nat.le_of_ble_eq_true rfl⟩ ?_
                  exact v_lsub [0, 1, 2, 3, 4, 5, 6] rfl (hj2 x5 S6 hf)
                · have hf := it_neg hc7 hf
                  refine v_iinc (v := x5 + 1) (lv' := [(5, .int (x5 + 1)), (0, .ref (eA E (b + 2) 0)), (1, .int x1), (2, .int x2), (3, .int x3), (4, .int x4), (6, .int x6)]) K 5 dX3_callBack_104 rfl rfl (by decide) rfl ?_
                  refine v_aload_n K 1 dX3_callBack_107 rfl rfl ?_
                  refine v_iload K 6 dX3_callBack_108 rfl ?_
                  refine v_iload_n K 2 dX3_callBack_110 rfl rfl ?_
                  obtain ⟨S7, hS7, hf⟩ := bd_el hf
                  refine v_callWn (As := [.int x6, .int x1]) (rest := []) K mk_X3_160 dX3_callBack_111 (c_X3_takeAway (o := b + 2) rfl hL hS7) (hL 0 (by decide)) rfl rfl rfl rfl rfl (Nat.le_of_ble_eq_true rfl) ⟨rfl, rfl⟩ ⟨Nat.le_of_ble_eq_true rfl, Nat.le_of_ble_eq_true rfl⟩ ?_
                  refine v_goto (tgt := 136) K dX3_callBack_114 (by decide) ?_
                  exact v_lsub [1, 2, 3, 4, 5, 0, 6] rfl (hj2 (x5 + 1) S7 hf)
              · refine v_if_eq (tgt := 91) K dX3_callBack_70 (by decide) (fun hc6 => ?_) (fun hc6 => ?_)
                · have hf := it_pos hc6 hf
                  exact v_lsub [0, 1, 2, 3, 4, 5, 6] rfl (hj4 S3 hf)
                · have hf := it_neg hc6 hf
                  refine v_aload_n K 0 dX3_callBack_73 rfl rfl ?_
                  refine g_get K fk_X3_48 dX3_callBack_74 (hL 0 (by decide)) rfl rfl ?_
                  refine v_iconst K dX3_callBack_77 ki_2 ?_
                  refine v_iconst K dX3_callBack_78 ki_1 ?_
                  obtain ⟨S8, hS8, hf⟩ := bnd_el hf
                  refine v_callWn (As := [.int 2, .int 1]) (rest := []) K mk_X3_135 dX3_callBack_79 (k_row_add (Nat.le_of_ble_eq_true rfl) (rl_28 (o := b + 2) rfl hL) hS8.symm) (hL 28 (by decide)) rfl rfl rfl rfl rfl (Nat.le_of_ble_eq_true rfl) ⟨rfl, rfl⟩ ⟨Nat.le_of_ble_eq_true rfl, Nat.le_of_ble_eq_true rfl⟩ ?_
                  refine v_aload_n K 0 dX3_callBack_82 rfl rfl ?_
                  refine g_get K fk_X3_54 dX3_callBack_83 (hL 0 (by decide)) rfl rfl ?_
                  refine v_iload_n K 1 dX3_callBack_86 rfl rfl ?_
                  refine v_iconst K dX3_callBack_87 ki_1 ?_
                  obtain ⟨S9, hS9, hf⟩ := bnd_el hf
                  refine v_callWn (As := [.int x1, .int 1]) (rest := []) K mk_X3_135 dX3_callBack_88 (k_row_add (Nat.le_of_ble_eq_true rfl) (rl_32 (o := b + 2) rfl hL) hS9.symm) (hL 32 (by decide)) rfl rfl rfl rfl rfl (Nat.le_of_ble_eq_true rfl) ⟨rfl, rfl⟩ ⟨Nat.le_of_ble_eq_true rfl, Nat.le_of_ble_eq_true rfl⟩ ?_
                  exact v_lsub [0, 1, 2, 3, 4, 5, 6] rfl (hj4 S9 hf)
            · have hf := it_pos hc5 hf
              refine v_goto (tgt := 136) K dX3_callBack_57 (by decide) ?_
              exact v_lsub [0, 1, 2, 3, 4, 5, 6] rfl (hj2 x5 S hf)
  unfold f_X3_callBack at hf
  refine v_aload_n K 0 dX3_callBack_0 rfl rfl ?_
  refine g_get K fk_X3_30 dX3_callBack_1 (hL 0 (by decide)) rfl rfl ?_
  refine g_getN K fn_X3_97 dX3_callBack_4 (hL 5 (by decide)) rfl rfl ?_
  refine v_iload_n K 1 dX3_callBack_7 rfl rfl ?_
  refine v_callWi (As := [.int x1]) (rest := []) K mk_X3_100 dX3_callBack_8 (k_row_at (Nat.le_of_ble_eq_true rfl) (rl_6 (o := b + 2) rfl hL) rfl) (hL 6 (by decide)) rfl rfl rfl rfl rfl (Nat.le_of_ble_eq_true rfl) ⟨rfl, rfl⟩ ⟨Nat.le_of_ble_eq_true rfl, Nat.le_of_ble_eq_true rfl⟩ ?_
  refine v_iconst K dX3_callBack_11 ki_2 ?_
  have hj10 : ∀ (w1 : Int32), w1 = (if (rat 24 (S 7) x1) = 2 then 1 else 0 : Int32) → VV p l e (rmD 3) s m args below meth c (MQ below (CQ D A (some (.int r)) (wl E (va_up G (b + 2) S'))) args s 0 0 A) D A 7 (0, 0) 20 [.int w1] [(0, .ref (eA E (b + 2) 0)), (1, .int x1), (2, .int x2)] (wl E (va_up G (b + 2) S)) := by
    intro w1 ew1
    subst ew1
    refine v_istore_n (lv' := [(3, .int (if (rat 24 (S 7) x1) = 2 then 1 else 0 : Int32)), (0, .ref (eA E (b + 2) 0)), (1, .int x1), (2, .int x2)]) K dX3_callBack_20 rfl (by decide) rfl ?_
    refine v_aload_n K 1 dX3_callBack_21 rfl rfl ?_
    refine v_iload_n K 2 dX3_callBack_22 rfl rfl ?_
    obtain ⟨y1, hy1, hf⟩ := bd_el hf
    refine v_callWi (As := [.int x1]) (rest := []) K mk_X3_154 dX3_callBack_23 (c_X3_called (o := b + 2) rfl hL hy1) (hL 0 (by decide)) rfl rfl rfl rfl rfl (Nat.le_of_ble_eq_true rfl) ⟨rfl, rfl⟩ ⟨Nat.le_of_ble_eq_true rfl, Nat.le_of_ble_eq_true rfl⟩ ?_
    refine v_istore (lv' := [(4, .int y1), (3, .int (if (rat 24 (S 7) x1) = 2 then 1 else 0 : Int32)), (0, .ref (eA E (b + 2) 0)), (1, .int x1), (2, .int x2)]) K dX3_callBack_26 (by decide) rfl ?_
    refine v_iconst K dX3_callBack_28 ki_0 ?_
    refine v_istore (lv' := [(5, .int 0), (4, .int y1), (3, .int (if (rat 24 (S 7) x1) = 2 then 1 else 0 : Int32)), (0, .ref (eA E (b + 2) 0)), (1, .int x1), (2, .int x2)]) K dX3_callBack_29 (by decide) rfl ?_
    refine v_iconst K dX3_callBack_31 ki_0 ?_
    refine v_istore (lv' := [(6, .int 0), (5, .int 0), (4, .int y1), (3, .int (if (rat 24 (S 7) x1) = 2 then 1 else 0 : Int32)), (0, .ref (eA E (b + 2) 0)), (1, .int x1), (2, .int x2)]) K dX3_callBack_32 (by decide) rfl ?_
    refine v_lsub [4, 5, 6, 3, 2, 1, 0] rfl ?_
    exact L34 x1 x2 (if (rat 24 (S 7) x1) = 2 then 1 else 0 : Int32) y1 5000 0 0 S hf
  refine v_icmp_ne (tgt := 19) K dX3_callBack_12 (by decide) (fun hc1 => ?_) (fun hc1 => ?_)
  · refine v_iconst K dX3_callBack_19 ki_0 ?_
    exact v_lsub [0, 1, 2] rfl (hj10 0 (if_neg hc1).symm)
  · refine v_iconst K dX3_callBack_15 ki_1 ?_
    refine v_goto (tgt := 20) K dX3_callBack_16 (by decide) ?_
    exact v_lsub [0, 1, 2] rfl (hj10 1 (if_pos hc1).symm)
set_option maxRecDepth 20000 in
theorem c_X3_copiesInTheWay {G : Gs} {o b : Nat} (ho : o = b + 2) (hL : LibG E b) {S : St}  {x1 : Int32} {r : Int32} (hf : f_X3_copiesInTheWay S x1 = r) : Ctr l D E A yX3_copiesInTheWay cX3_copiesInTheWay 2 (some .int) (rmD 1) [.ref (eA E o 0), .int x1] (wl E (va_up G o S)) (some (.int r)) (wl E (va_up G o S)) := by
  subst ho
  refine Ctr.of (own := RX3) pn_X3 rfl (Nat.le_of_ble_eq_true rfl) ?_
  intro p e s m args below meth c K
  refine v_lv (lv' := [(0, .ref (eA E (b + 2) 0)), (1, .int x1)]) rfl ?_
  unfold f_X3_copiesInTheWay at hf
  refine v_iconst K dX3_copiesInTheWay_0 ki_0 ?_
  refine v_aload_n K 0 dX3_copiesInTheWay_1 rfl rfl ?_
  refine g_get K fk_X3_37 dX3_copiesInTheWay_2 (hL 0 (by decide)) rfl rfl ?_
  refine g_getN K fn_X3_169 dX3_copiesInTheWay_5 (hL 10 (by decide)) rfl rfl ?_
  refine v_iload_n K 1 dX3_copiesInTheWay_8 rfl rfl ?_
  refine v_callWi (As := [.int x1]) (rest := [.int 0]) K mk_X3_100 dX3_copiesInTheWay_9 (k_row_at (Nat.le_of_ble_eq_true rfl) (rl_11 (o := b + 2) rfl hL) rfl) (hL 11 (by decide)) rfl rfl rfl rfl rfl (Nat.le_of_ble_eq_true rfl) ⟨rfl, rfl⟩ ⟨Nat.le_of_ble_eq_true rfl, Nat.le_of_ble_eq_true rfl⟩ ?_
  refine v_aload_n K 0 dX3_copiesInTheWay_12 rfl rfl ?_
  refine g_get K fk_X3_18 dX3_copiesInTheWay_13 (hL 0 (by decide)) rfl rfl ?_
  refine v_iconst K dX3_copiesInTheWay_16 ki_2 ?_
  refine v_callWi (As := [.int 2]) (rest := [.int (rat 16 (S 12) x1), .int 0]) K mk_X3_100 dX3_copiesInTheWay_17 (k_row_at (Nat.le_of_ble_eq_true rfl) (rl_1 (o := b + 2) rfl hL) rfl) (hL 1 (by decide)) rfl rfl rfl rfl rfl (Nat.le_of_ble_eq_true rfl) ⟨rfl, rfl⟩ ⟨Nat.le_of_ble_eq_true rfl, Nat.le_of_ble_eq_true rfl⟩ ?_
  refine v_isub K dX3_copiesInTheWay_20 ?_
  refine v_iconst K dX3_copiesInTheWay_21 ki_1 ?_
  refine v_iadd K dX3_copiesInTheWay_22 ?_
  refine v_mmax K mlX3_172 dX3_copiesInTheWay_23 (Nat.le_of_ble_eq_true rfl) (Nat.le_of_ble_eq_true rfl) ?_
  exact v_iret K rfl dX3_copiesInTheWay_26 (ev_v hf) rfl
set_option maxRecDepth 20000 in
theorem c_X7_noteAt {G : Gs} {o b : Nat} (ho : o = b + 2) (hL : LibG E b) {S : St}  {x1 : Int32} {x2 : Int32} {r : Int32} (hf : f_X7_noteAt S x1 x2 = r) : Ctr l D E A yX7_noteAt cX7_noteAt 3 (some .int) (rmD 1) [.ref (eA E o 10), .int x1, .int x2] (wl E (va_up G o S)) (some (.int r)) (wl E (va_up G o S)) := by
  subst ho
  refine Ctr.of (own := RX7) pn_X7 rfl (Nat.le_of_ble_eq_true rfl) ?_
  intro p e s m args below meth c K
  refine v_lv (lv' := [(0, .ref (eA E (b + 2) 10)), (1, .int x1), (2, .int x2)]) rfl ?_
  unfold f_X7_noteAt at hf
  refine v_aload_n K 0 dX7_noteAt_0 rfl rfl ?_
  refine g_get K fk_X7_20 dX7_noteAt_1 (hL 10 (by decide)) rfl rfl ?_
  refine v_iload_n K 1 dX7_noteAt_4 rfl rfl ?_
  refine v_bipush K dX7_noteAt_5 kb_8 ?_
  refine v_imul K dX7_noteAt_7 ?_
  refine v_iload_n K 2 dX7_noteAt_8 rfl rfl ?_
  refine v_iadd K dX7_noteAt_9 ?_
  refine v_callWi (As := [.int ((x1 * 8) + x2)]) (rest := []) K mk_X7_32 dX7_noteAt_10 (k_row_at (Nat.le_of_ble_eq_true rfl) (rl_13 (o := b + 2) rfl hL) rfl) (hL 13 (by decide)) rfl rfl rfl rfl rfl (Nat.le_of_ble_eq_true rfl) ⟨rfl, rfl⟩ ⟨Nat.le_of_ble_eq_true rfl, Nat.le_of_ble_eq_true rfl⟩ ?_
  exact v_iret K rfl dX7_noteAt_13 (ev_v hf) rfl
set_option maxRecDepth 20000 in
theorem c_X3_giveBack {G : Gs} {o b : Nat} (ho : o = b + 2) (hL : LibG E b) {S S' : St}  {x1 : Int32} {x2 : Int32} {r : Int32} (hf : f_X3_giveBack S x1 x2 = some (r, S')) : Ctr l D E A yX3_giveBack cX3_giveBack 5 (some .int) (rmD 2) [.ref (eA E o 0), .int x1, .int x2] (wl E (va_up G o S)) (some (.int r)) (wl E (va_up G o S')) := by
  subst ho
  refine Ctr.of (own := RX3) pn_X3 rfl (Nat.le_of_ble_eq_true rfl) ?_
  intro p e s m args below meth c K
  refine v_lv (lv' := [(0, .ref (eA E (b + 2) 0)), (1, .int x1), (2, .int x2)]) rfl ?_
  unfold f_X3_giveBack at hf
  refine v_aload_n K 0 dX3_giveBack_0 rfl rfl ?_
  refine g_get K fk_X3_37 dX3_giveBack_1 (hL 0 (by decide)) rfl rfl ?_
  refine v_iload_n K 1 dX3_giveBack_4 rfl rfl ?_
  refine v_iload_n K 2 dX3_giveBack_5 rfl rfl ?_
  refine v_callWi (As := [.int x1, .int x2]) (rest := []) K mk_X3_148 dX3_giveBack_6 (c_X7_noteAt (o := b + 2) rfl hL rfl) (hL 10 (by decide)) rfl rfl rfl rfl rfl (Nat.le_of_ble_eq_true rfl) ⟨rfl, rfl⟩ ⟨Nat.le_of_ble_eq_true rfl, Nat.le_of_ble_eq_true rfl⟩ ?_
  refine v_istore_n (lv' := [(3, .int (f_X7_noteAt S x1 x2)), (0, .ref (eA E (b + 2) 0)), (1, .int x1), (2, .int x2)]) K dX3_giveBack_9 rfl (by decide) rfl ?_
  refine v_aload_n K 1 dX3_giveBack_10 rfl rfl ?_
  refine g_get K fk_X3_37 dX3_giveBack_11 (hL 0 (by decide)) rfl rfl ?_
  refine v_iload_n K 2 dX3_giveBack_14 rfl rfl ?_
  refine v_iload_n K 3 dX3_giveBack_15 rfl rfl ?_
  refine v_callWi (As := [.int x1, .int x2]) (rest := []) K mk_X3_115 dX3_giveBack_16 (c_X7_isChangedAt (o := b + 2) rfl hL rfl) (hL 10 (by decide)) rfl rfl rfl rfl rfl (Nat.le_of_ble_eq_true rfl) ⟨rfl, rfl⟩ ⟨Nat.le_of_ble_eq_true rfl, Nat.le_of_ble_eq_true rfl⟩ ?_
  refine v_istore (lv' := [(4, .int (f_X7_isChangedAt S x1 x2)), (3, .int (f_X7_noteAt S x1 x2)), (0, .ref (eA E (b + 2) 0)), (1, .int x1), (2, .int x2)]) K dX3_giveBack_19 (by decide) rfl ?_
  refine v_iload K 0 dX3_giveBack_21 rfl ?_
  refine jn_1 (fun (S_43 : St) => VV p l e (rmD 2) s m args below meth c (MQ below (CQ D A (some (.int r)) (wl E (va_up G (b + 2) S'))) args s 0 0 A) D A 5 (0, 0) 43 [] [(0, .ref (eA E (b + 2) 0)), (1, .int x1), (2, .int x2), (3, .int (f_X7_noteAt S x1 x2)), (4, .int (f_X7_isChangedAt S x1 x2))] (wl E (va_up G (b + 2) S_43))) hf (fun S_43 hf => ?_) (fun hj1 hf => ?_)
  · refine v_aload_n K 0 dX3_giveBack_43 rfl rfl ?_
    refine g_get K fk_X3_37 dX3_giveBack_44 (hL 0 (by decide)) rfl rfl ?_
    refine v_iload_n K 1 dX3_giveBack_47 rfl rfl ?_
    refine v_iload_n K 2 dX3_giveBack_48 rfl rfl ?_
    obtain ⟨S2, hS2, hf⟩ := bd_el hf
    refine v_callWn (As := [.int x1, .int x2]) (rest := []) K mk_X3_118 dX3_giveBack_49 (c_X7_remove (o := b + 2) rfl hL hS2) (hL 10 (by decide)) rfl rfl rfl rfl rfl (Nat.le_of_ble_eq_true rfl) ⟨rfl, rfl⟩ ⟨Nat.le_of_ble_eq_true rfl, Nat.le_of_ble_eq_true rfl⟩ ?_
    refine v_iload K 4 dX3_giveBack_52 rfl ?_
    refine jn_1 (fun (S_87 : St) => VV p l e (rmD 2) s m args below meth c (MQ below (CQ D A (some (.int r)) (wl E (va_up G (b + 2) S'))) args s 0 0 A) D A 5 (0, 0) 87 [] [(4, .int (f_X7_isChangedAt S x1 x2))] (wl E (va_up G (b + 2) S_87))) hf (fun S_87 hf => ?_) (fun hj3 hf => ?_)
    · refine v_iload K 0 dX3_giveBack_87 rfl ?_
      refine v_if_eq (tgt := 96) K dX3_giveBack_89 (by decide) (fun hc4 => ?_) (fun hc4 => ?_)
      · have hf := it_pos hc4 hf
        refine v_iconst K dX3_giveBack_96 ki_0 ?_
        exact v_iret K rfl dX3_giveBack_97 (ev_q hf) (ew_q hf)
      · have hf := it_neg hc4 hf
        refine v_iconst K dX3_giveBack_92 ki_1 ?_
        refine v_goto (tgt := 97) K dX3_giveBack_93 (by decide) ?_
        exact v_iret K rfl dX3_giveBack_97 (ev_q hf) (ew_q hf)
    · refine v_if_ne (tgt := 69) K dX3_giveBack_54 (by decide) (fun hc2 => ?_) (fun hc2 => ?_)
      · have hf := it_neg hc2 hf
        refine v_aload_n K 0 dX3_giveBack_69 rfl rfl ?_
        refine g_get K fk_X3_48 dX3_giveBack_70 (hL 0 (by decide)) rfl rfl ?_
        refine v_iconst K dX3_giveBack_73 ki_0 ?_
        refine v_iconst K dX3_giveBack_74 ki_1 ?_
        obtain ⟨S4, hS4, hf⟩ := bnd_el hf
        refine v_callWn (As := [.int 0, .int 1]) (rest := []) K mk_X3_135 dX3_giveBack_75 (k_row_add (Nat.le_of_ble_eq_true rfl) (rl_28 (o := b + 2) rfl hL) hS4.symm) (hL 28 (by decide)) rfl rfl rfl rfl rfl (Nat.le_of_ble_eq_true rfl) ⟨rfl, rfl⟩ ⟨Nat.le_of_ble_eq_true rfl, Nat.le_of_ble_eq_true rfl⟩ ?_
        refine v_aload_n K 0 dX3_giveBack_78 rfl rfl ?_
        refine g_get K fk_X3_30 dX3_giveBack_79 (hL 0 (by decide)) rfl rfl ?_
        refine v_iload_n K 3 dX3_giveBack_82 rfl rfl ?_
        refine v_iload_n K 1 dX3_giveBack_83 rfl rfl ?_
        obtain ⟨S5, hS5, hf⟩ := bnd_el hf
        refine v_callWn (As := [.int (f_X7_noteAt S x1 x2), .int x1]) (rest := []) K mk_X3_151 dX3_giveBack_84 (c_X1_strike (o := b + 2) rfl hL hS5.symm) (hL 5 (by decide)) rfl rfl rfl rfl rfl (Nat.le_of_ble_eq_true rfl) ⟨rfl, rfl⟩ ⟨Nat.le_of_ble_eq_true rfl, Nat.le_of_ble_eq_true rfl⟩ ?_
        exact v_lsub [4] rfl (hj3 S5 hf)
      · have hf := it_pos hc2 hf
        refine v_aload_n K 0 dX3_giveBack_57 rfl rfl ?_
        refine g_get K fk_X3_18 dX3_giveBack_58 (hL 0 (by decide)) rfl rfl ?_
        refine v_iconst K dX3_giveBack_61 ki_3 ?_
        refine v_callWi (As := [.int 3]) (rest := []) K mk_X3_100 dX3_giveBack_62 (k_row_at (Nat.le_of_ble_eq_true rfl) (rl_1 (o := b + 2) rfl hL) rfl) (hL 1 (by decide)) rfl rfl rfl rfl rfl (Nat.le_of_ble_eq_true rfl) ⟨rfl, rfl⟩ ⟨Nat.le_of_ble_eq_true rfl, Nat.le_of_ble_eq_true rfl⟩ ?_
        refine v_iconst K dX3_giveBack_65 ki_1 ?_
        refine v_icmp_ne (tgt := 87) K dX3_giveBack_66 (by decide) (fun hc5 => ?_) (fun hc5 => ?_)
        · have hf := it_neg hc5 hf
          exact v_lsub [4] rfl (hj3 S2 hf)
        · have hf := it_pos hc5 hf
          refine v_aload_n K 0 dX3_giveBack_69 rfl rfl ?_
          refine g_get K fk_X3_48 dX3_giveBack_70 (hL 0 (by decide)) rfl rfl ?_
          refine v_iconst K dX3_giveBack_73 ki_0 ?_
          refine v_iconst K dX3_giveBack_74 ki_1 ?_
          obtain ⟨S6, hS6, hf⟩ := bnd_el hf
          refine v_callWn (As := [.int 0, .int 1]) (rest := []) K mk_X3_135 dX3_giveBack_75 (k_row_add (Nat.le_of_ble_eq_true rfl) (rl_28 (o := b + 2) rfl hL) hS6.symm) (hL 28 (by decide)) rfl rfl rfl rfl rfl (Nat.le_of_ble_eq_true rfl) ⟨rfl, rfl⟩ ⟨Nat.le_of_ble_eq_true rfl, Nat.le_of_ble_eq_true rfl⟩ ?_
          refine v_aload_n K 0 dX3_giveBack_78 rfl rfl ?_
          refine g_get K fk_X3_30 dX3_giveBack_79 (hL 0 (by decide)) rfl rfl ?_
          refine v_iload_n K 3 dX3_giveBack_82 rfl rfl ?_
          refine v_iload_n K 1 dX3_giveBack_83 rfl rfl ?_
          obtain ⟨S7, hS7, hf⟩ := bnd_el hf
          refine v_callWn (As := [.int (f_X7_noteAt S x1 x2), .int x1]) (rest := []) K mk_X3_151 dX3_giveBack_84 (c_X1_strike (o := b + 2) rfl hL hS7.symm) (hL 5 (by decide)) rfl rfl rfl rfl rfl (Nat.le_of_ble_eq_true rfl) ⟨rfl, rfl⟩ ⟨Nat.le_of_ble_eq_true rfl, Nat.le_of_ble_eq_true rfl⟩ ?_
          exact v_lsub [4] rfl (hj3 S7 hf)
  · refine v_if_eq (tgt := 43) K dX3_giveBack_23 (by decide) (fun hc1 => ?_) (fun hc1 => ?_)
    · have hf := it_pos hc1 hf
      exact v_lsub [2, 3, 4, 1, 0] rfl (hj1 S hf)
    · have hf := it_neg hc1 hf
      refine v_aload_n K 2 dX3_giveBack_26 rfl rfl ?_
      refine g_get K fk_X3_24 dX3_giveBack_27 (hL 0 (by decide)) rfl rfl ?_
      refine v_iload_n K 1 dX3_giveBack_30 rfl rfl ?_
      refine v_aload_n K 2 dX3_giveBack_31 rfl rfl ?_
      refine g_get K fk_X3_37 dX3_giveBack_32 (hL 0 (by decide)) rfl rfl ?_
      refine v_iload_n K 3 dX3_giveBack_35 rfl rfl ?_
      refine v_iload_n K 4 dX3_giveBack_36 rfl rfl ?_
      refine v_callWi (As := [.int x1, .int x2]) (rest := [.int (f_X7_noteAt S x1 x2), .ref (eA E (b + 2) 3)]) K mk_X3_112 dX3_giveBack_37 (c_X7_valueAt (o := b + 2) rfl hL rfl) (hL 10 (by decide)) rfl rfl rfl rfl rfl (Nat.le_of_ble_eq_true rfl) ⟨rfl, rfl⟩ ⟨Nat.le_of_ble_eq_true rfl, Nat.le_of_ble_eq_true rfl⟩ ?_
      obtain ⟨S8, hS8, hf⟩ := bnd_el hf
      refine v_callWn (As := [.int (f_X7_noteAt S x1 x2), .int (f_X7_valueAt S x1 x2)]) (rest := []) K mk_X3_69 dX3_giveBack_40 (k_row_write (Nat.le_of_ble_eq_true rfl) (rl_3 (o := b + 2) rfl hL) hS8.symm) (hL 3 (by decide)) rfl rfl rfl rfl rfl (Nat.le_of_ble_eq_true rfl) ⟨rfl, rfl⟩ ⟨Nat.le_of_ble_eq_true rfl, Nat.le_of_ble_eq_true rfl⟩ ?_
      exact v_lsub [2, 3, 4, 1, 0] rfl (hj1 S8 hf)
set_option maxRecDepth 20000 in
theorem c_X3_makeRoom {G : Gs} {o b : Nat} (ho : o = b + 2) (hL : LibG E b) {S S' : St}  {x1 : Int32} (hf : f_X3_makeRoom S x1 = some S') : Ctr l D E A yX3_makeRoom cX3_makeRoom 4 none (rmD 3) [.ref (eA E o 0), .int x1] (wl E (va_up G o S)) none (wl E (va_up G o S')) := by
  subst ho
  refine Ctr.of (own := RX3) pn_X3 rfl (Nat.le_of_ble_eq_true rfl) ?_
  intro p e s m args below meth c K
  refine v_lv (lv' := [(0, .ref (eA E (b + 2) 0)), (1, .int x1)]) rfl ?_
  have L8 : ∀ (x1 : Int32) (x2 : Int32), ∀ (n : Nat) (x3 : Int32) (S : St), f_X3_makeRoom_L8 x1 x2 n x3 S = some S' → VV p l e (rmD 3) s m args below meth c (MQ below (CQ D A none (wl E (va_up G (b + 2) S'))) args s 0 0 A) D A 4 (0, 0) 8 [] [(0, .ref (eA E (b + 2) 0)), (1, .int x1), (2, .int x2), (3, .int x3)] (wl E (va_up G (b + 2) S)) := by
    intro x1 x2 n
    induction n with
    | zero =>
      intro x3 S hf
      rw [f_X3_makeRoom_L8] at hf
      cases hf
    | succ n ih =>
      intro x3 S hf
      rw [f_X3_makeRoom_L8] at hf
      refine v_iload_n K 3 dX3_makeRoom_8 rfl rfl ?_
      refine v_iload_n K 2 dX3_makeRoom_9 rfl rfl ?_
      refine v_icmp_ge (tgt := 26) K dX3_makeRoom_10 (by decide) (fun hc1 => ?_) (fun hc1 => ?_)
      · have hf := it_pos hc1 hf
        exact v_vret K rfl dX3_makeRoom_26 rfl (ew_o hf)
      · have hf := it_neg hc1 hf
        refine v_aload_n K 0 dX3_makeRoom_13 rfl rfl ?_
        refine v_iload_n K 1 dX3_makeRoom_14 rfl rfl ?_
        refine v_iconst K dX3_makeRoom_15 ki_0 ?_
        obtain ⟨y2, S1, hS1, hf⟩ := bdp_el hf
        refine v_callWi (As := [.int x1, .int 0]) (rest := []) K mk_X3_166 dX3_makeRoom_16 (c_X3_giveBack (o := b + 2) rfl hL hS1) (hL 0 (by decide)) rfl rfl rfl rfl rfl (Nat.le_of_ble_eq_true rfl) ⟨rfl, rfl⟩ ⟨Nat.le_of_ble_eq_true rfl, Nat.le_of_ble_eq_true rfl⟩ ?_
        refine v_pop K dX3_makeRoom_19 rfl ?_
        refine v_iinc (v := x3 + 1) (lv' := [(3, .int (x3 + 1)), (0, .ref (eA E (b + 2) 0)), (1, .int x1), (2, .int x2)]) K 3 dX3_makeRoom_20 rfl rfl (by decide) rfl ?_
        refine v_goto (tgt := 8) K dX3_makeRoom_23 (by decide) ?_
        exact v_lsub [1, 2, 3, 0] rfl (ih (x3 + 1) S1 hf)
  unfold f_X3_makeRoom at hf
  refine v_aload_n K 0 dX3_makeRoom_0 rfl rfl ?_
  refine v_iload_n K 1 dX3_makeRoom_1 rfl rfl ?_
  refine v_callWi (As := [.int x1]) (rest := []) K mk_X3_163 dX3_makeRoom_2 (c_X3_copiesInTheWay (o := b + 2) rfl hL rfl) (hL 0 (by decide)) rfl rfl rfl rfl rfl (Nat.le_of_ble_eq_true rfl) ⟨rfl, rfl⟩ ⟨Nat.le_of_ble_eq_true rfl, Nat.le_of_ble_eq_true rfl⟩ ?_
  refine v_istore_n (lv' := [(2, .int (f_X3_copiesInTheWay S x1)), (0, .ref (eA E (b + 2) 0)), (1, .int x1)]) K dX3_makeRoom_5 rfl (by decide) rfl ?_
  refine v_iconst K dX3_makeRoom_6 ki_0 ?_
  refine v_istore_n (lv' := [(3, .int 0), (2, .int (f_X3_copiesInTheWay S x1)), (0, .ref (eA E (b + 2) 0)), (1, .int x1)]) K dX3_makeRoom_7 rfl (by decide) rfl ?_
  refine v_lsub [2, 3, 1, 0] rfl ?_
  exact L8 x1 (f_X3_copiesInTheWay S x1) 5000 0 S hf
set_option maxRecDepth 20000 in
theorem c_X3_lend {G : Gs} {o b : Nat} (ho : o = b + 2) (hL : LibG E b) {S S' : St}  {x1 : Int32} {x2 : Int32} {r : Int32} (hf : f_X3_lend S x1 x2 = some (r, S')) : Ctr l D E A yX3_lend cX3_lend 7 (some .int) (rmD 4) [.ref (eA E o 0), .int x1, .int x2] (wl E (va_up G o S)) (some (.int r)) (wl E (va_up G o S')) := by
  subst ho
  refine Ctr.of (own := RX3) pn_X3 rfl (Nat.le_of_ble_eq_true rfl) ?_
  intro p e s m args below meth c K
  refine v_lv (lv' := [(0, .ref (eA E (b + 2) 0)), (1, .int x1), (2, .int x2)]) rfl ?_
  unfold f_X3_lend at hf
  refine v_aload_n K 0 dX3_lend_0 rfl rfl ?_
  refine g_get K fk_X3_37 dX3_lend_1 (hL 0 (by decide)) rfl rfl ?_
  refine v_iload_n K 1 dX3_lend_4 rfl rfl ?_
  refine v_iload_n K 2 dX3_lend_5 rfl rfl ?_
  obtain ⟨y1, hy1, hf⟩ := bd_el hf
  refine v_callWi (As := [.int x1, .int x2]) (rest := []) K mk_X3_104 dX3_lend_6 (c_X7_placeOf (o := b + 2) rfl hL hy1) (hL 10 (by decide)) rfl rfl rfl rfl rfl (Nat.le_of_ble_eq_true rfl) ⟨rfl, rfl⟩ ⟨Nat.le_of_ble_eq_true rfl, Nat.le_of_ble_eq_true rfl⟩ ?_
  refine v_istore_n (lv' := [(3, .int y1), (0, .ref (eA E (b + 2) 0)), (1, .int x1), (2, .int x2)]) K dX3_lend_9 rfl (by decide) rfl ?_
  refine v_iload_n K 0 dX3_lend_10 rfl rfl ?_
  refine v_iconst K dX3_lend_11 ki_m1 ?_
  have hj13 : ∀ (w1 : Int32), w1 = (if y1 = (-1) then 0 else 1 : Int32) → VV p l e (rmD 4) s m args below meth c (MQ below (CQ D A (some (.int r)) (wl E (va_up G (b + 2) S'))) args s 0 0 A) D A 7 (0, 0) 20 [.int w1] [(0, .ref (eA E (b + 2) 0)), (1, .int x1), (2, .int x2), (3, .int y1)] (wl E (va_up G (b + 2) S)) := by
    intro w1 ew1
    subst ew1
    refine v_istore (lv' := [(4, .int (if y1 = (-1) then 0 else 1 : Int32)), (0, .ref (eA E (b + 2) 0)), (1, .int x1), (2, .int x2), (3, .int y1)]) K dX3_lend_20 (by decide) rfl ?_
    refine v_aload_n K 1 dX3_lend_22 rfl rfl ?_
    refine v_iload_n K 2 dX3_lend_23 rfl rfl ?_
    refine v_iload K 0 dX3_lend_24 rfl ?_
    obtain ⟨S2, hS2, hf⟩ := bnd_el hf
    refine v_callWn (As := [.int x1, .int (if y1 = (-1) then 0 else 1 : Int32)]) (rest := []) K mk_X3_108 dX3_lend_26 (c_X3_noteUse (o := b + 2) rfl hL hS2.symm) (hL 0 (by decide)) rfl rfl rfl rfl rfl (Nat.le_of_ble_eq_true rfl) ⟨rfl, rfl⟩ ⟨Nat.le_of_ble_eq_true rfl, Nat.le_of_ble_eq_true rfl⟩ ?_
    refine v_iload K 0 dX3_lend_29 rfl ?_
    refine v_if_eq (tgt := 81) K dX3_lend_31 (by decide) (fun hc2 => ?_) (fun hc2 => ?_)
    · have hf := it_pos hc2 hf
      refine v_aload_n K 1 dX3_lend_81 rfl rfl ?_
      refine g_get K fk_X3_30 dX3_lend_82 (hL 0 (by decide)) rfl rfl ?_
      refine g_getN K fn_X3_97 dX3_lend_85 (hL 5 (by decide)) rfl rfl ?_
      refine v_iload_n K 3 dX3_lend_88 rfl rfl ?_
      refine v_callWi (As := [.int x2]) (rest := []) K mk_X3_100 dX3_lend_89 (k_row_at (Nat.le_of_ble_eq_true rfl) (rl_6 (o := b + 2) rfl hL) rfl) (hL 6 (by decide)) rfl rfl rfl rfl rfl (Nat.le_of_ble_eq_true rfl) ⟨rfl, rfl⟩ ⟨Nat.le_of_ble_eq_true rfl, Nat.le_of_ble_eq_true rfl⟩ ?_
      refine v_iconst K dX3_lend_92 ki_3 ?_
      refine jn_1 (fun (S_113 : St) => VV p l e (rmD 4) s m args below meth c (MQ below (CQ D A (some (.int r)) (wl E (va_up G (b + 2) S'))) args s 0 0 A) D A 7 (0, 0) 113 [] [(0, .ref (eA E (b + 2) 0)), (1, .int x1), (2, .int x2)] (wl E (va_up G (b + 2) S_113))) hf (fun S_113 hf => ?_) (fun hj3 hf => ?_)
      · refine v_aload_n K 0 dX3_lend_113 rfl rfl ?_
        refine v_iload_n K 1 dX3_lend_114 rfl rfl ?_
        obtain ⟨S4, hS4, hf⟩ := bd_el hf
        refine v_callWn (As := [.int x1]) (rest := []) K mk_X3_132 dX3_lend_115 (c_X3_makeRoom (o := b + 2) rfl hL hS4) (hL 0 (by decide)) rfl rfl rfl rfl rfl (Nat.le_of_ble_eq_true rfl) ⟨rfl, rfl⟩ ⟨Nat.le_of_ble_eq_true rfl, Nat.le_of_ble_eq_true rfl⟩ ?_
        refine v_aload_n K 0 dX3_lend_118 rfl rfl ?_
        refine g_get K fk_X3_48 dX3_lend_119 (hL 0 (by decide)) rfl rfl ?_
        refine v_iconst K dX3_lend_122 ki_0 ?_
        refine v_iconst K dX3_lend_123 ki_2 ?_
        obtain ⟨S5, hS5, hf⟩ := bnd_el hf
        refine v_callWn (As := [.int 0, .int 2]) (rest := []) K mk_X3_135 dX3_lend_124 (k_row_add (Nat.le_of_ble_eq_true rfl) (rl_28 (o := b + 2) rfl hL) hS5.symm) (hL 28 (by decide)) rfl rfl rfl rfl rfl (Nat.le_of_ble_eq_true rfl) ⟨rfl, rfl⟩ ⟨Nat.le_of_ble_eq_true rfl, Nat.le_of_ble_eq_true rfl⟩ ?_
        refine v_aload_n K 0 dX3_lend_127 rfl rfl ?_
        refine g_get K fk_X3_37 dX3_lend_128 (hL 0 (by decide)) rfl rfl ?_
        refine v_iload_n K 1 dX3_lend_131 rfl rfl ?_
        refine v_iload_n K 2 dX3_lend_132 rfl rfl ?_
        refine v_aload_n K 0 dX3_lend_133 rfl rfl ?_
        refine g_get K fk_X3_24 dX3_lend_134 (hL 0 (by decide)) rfl rfl ?_
        refine v_iload_n K 2 dX3_lend_137 rfl rfl ?_
        refine v_callWi (As := [.int x2]) (rest := [.int x2, .int x1, .ref (eA E (b + 2) 10)]) K mk_X3_100 dX3_lend_138 (k_row_at (Nat.le_of_ble_eq_true rfl) (rl_3 (o := b + 2) rfl hL) rfl) (hL 3 (by decide)) rfl rfl rfl rfl rfl (Nat.le_of_ble_eq_true rfl) ⟨rfl, rfl⟩ ⟨Nat.le_of_ble_eq_true rfl, Nat.le_of_ble_eq_true rfl⟩ ?_
        refine v_iconst K dX3_lend_141 ki_0 ?_
        obtain ⟨S6, hS6, hf⟩ := bnd_el hf
        refine v_callWn (As := [.int x1, .int x2, .int (rat 24 (S5 4) x2), .int 0]) (rest := []) K mk_X3_121 dX3_lend_142 (c_X7_lay (o := b + 2) rfl hL hS6.symm) (hL 10 (by decide)) rfl rfl rfl rfl rfl (Nat.le_of_ble_eq_true rfl) ⟨rfl, rfl⟩ ⟨Nat.le_of_ble_eq_true rfl, Nat.le_of_ble_eq_true rfl⟩ ?_
        refine v_aload_n K 0 dX3_lend_145 rfl rfl ?_
        refine g_get K fk_X3_30 dX3_lend_146 (hL 0 (by decide)) rfl rfl ?_
        refine v_iload_n K 2 dX3_lend_149 rfl rfl ?_
        refine v_iload_n K 1 dX3_lend_150 rfl rfl ?_
        refine v_aload_n K 0 dX3_lend_151 rfl rfl ?_
        refine g_get K fk_X3_18 dX3_lend_152 (hL 0 (by decide)) rfl rfl ?_
        refine v_iconst K dX3_lend_155 ki_0 ?_
        refine v_callWi (As := [.int 0]) (rest := [.int x1, .int x2, .ref (eA E (b + 2) 5)]) K mk_X3_100 dX3_lend_156 (k_row_at (Nat.le_of_ble_eq_true rfl) (rl_1 (o := b + 2) rfl hL) rfl) (hL 1 (by decide)) rfl rfl rfl rfl rfl (Nat.le_of_ble_eq_true rfl) ⟨rfl, rfl⟩ ⟨Nat.le_of_ble_eq_true rfl, Nat.le_of_ble_eq_true rfl⟩ ?_
        refine v_aload_n K 0 dX3_lend_159 rfl rfl ?_
        refine g_get K fk_X3_18 dX3_lend_160 (hL 0 (by decide)) rfl rfl ?_
        refine v_iconst K dX3_lend_163 ki_1 ?_
        refine v_callWi (As := [.int 1]) (rest := [.int (rat 4 (S6 2) 0), .int x1, .int x2, .ref (eA E (b + 2) 5)]) K mk_X3_100 dX3_lend_164 (k_row_at (Nat.le_of_ble_eq_true rfl) (rl_1 (o := b + 2) rfl hL) rfl) (hL 1 (by decide)) rfl rfl rfl rfl rfl (Nat.le_of_ble_eq_true rfl) ⟨rfl, rfl⟩ ⟨Nat.le_of_ble_eq_true rfl, Nat.le_of_ble_eq_true rfl⟩ ?_
        obtain ⟨S7, hS7, hf⟩ := bd_el hf
        refine v_callWn (As := [.int x2, .int x1, .int (rat 4 (S6 2) 0), .int (rat 4 (S6 2) 1)]) (rest := []) K mk_X3_138 dX3_lend_167 (c_X1_name (o := b + 2) rfl hL hS7) (hL 5 (by decide)) rfl rfl rfl rfl rfl (Nat.le_of_ble_eq_true rfl) ⟨rfl, rfl⟩ ⟨Nat.le_of_ble_eq_true rfl, Nat.le_of_ble_eq_true rfl⟩ ?_
        refine v_aload_n K 0 dX3_lend_170 rfl rfl ?_
        refine g_get K fk_X3_24 dX3_lend_171 (hL 0 (by decide)) rfl rfl ?_
        refine v_iload_n K 2 dX3_lend_174 rfl rfl ?_
        refine v_callWi (As := [.int x2]) (rest := []) K mk_X3_100 dX3_lend_175 (k_row_at (Nat.le_of_ble_eq_true rfl) (rl_3 (o := b + 2) rfl hL) rfl) (hL 3 (by decide)) rfl rfl rfl rfl rfl (Nat.le_of_ble_eq_true rfl) ⟨rfl, rfl⟩ ⟨Nat.le_of_ble_eq_true rfl, Nat.le_of_ble_eq_true rfl⟩ ?_
        exact v_iret K rfl dX3_lend_178 (ev_q hf) (ew_q hf)
      · refine v_icmp_ne (tgt := 113) K dX3_lend_93 (by decide) (fun hc3 => ?_) (fun hc3 => ?_)
        · have hf := it_neg hc3 hf
          exact v_lsub [1, 2, 3] rfl (hj3 S2 hf)
        · have hf := it_pos hc3 hf
          refine v_aload_n K 1 dX3_lend_96 rfl rfl ?_
          refine v_iload_n K 3 dX3_lend_97 rfl rfl ?_
          refine v_iload_n K 2 dX3_lend_98 rfl rfl ?_
          obtain ⟨y9, S8, hS8, hf⟩ := bdp_el hf
          refine v_callWi (As := [.int x2, .int x1]) (rest := []) K mk_X3_125 dX3_lend_99 (c_X3_callBack (o := b + 2) rfl hL hS8) (hL 0 (by decide)) rfl rfl rfl rfl rfl (Nat.le_of_ble_eq_true rfl) ⟨rfl, rfl⟩ ⟨Nat.le_of_ble_eq_true rfl, Nat.le_of_ble_eq_true rfl⟩ ?_
          refine v_pop K dX3_lend_102 rfl ?_
          refine v_aload_n K 1 dX3_lend_103 rfl rfl ?_
          refine g_get K fk_X3_30 dX3_lend_104 (hL 0 (by decide)) rfl rfl ?_
          refine v_iload_n K 3 dX3_lend_107 rfl rfl ?_
          refine v_iconst K dX3_lend_108 ki_0 ?_
          refine v_iconst K dX3_lend_109 ki_0 ?_
          obtain ⟨S10, hS10, hf⟩ := bnd_el hf
          refine v_callWn (As := [.int x2, .int 0, .int 0]) (rest := []) K mk_X3_128 dX3_lend_110 (c_X1_become (o := b + 2) rfl hL hS10.symm) (hL 5 (by decide)) rfl rfl rfl rfl rfl (Nat.le_of_ble_eq_true rfl) ⟨rfl, rfl⟩ ⟨Nat.le_of_ble_eq_true rfl, Nat.le_of_ble_eq_true rfl⟩ ?_
          exact v_lsub [1, 2, 3] rfl (hj3 S10 hf)
    · have hf := it_neg hc2 hf
      refine v_aload_n K 1 dX3_lend_34 rfl rfl ?_
      refine g_get K fk_X3_37 dX3_lend_35 (hL 0 (by decide)) rfl rfl ?_
      refine v_iload_n K 2 dX3_lend_38 rfl rfl ?_
      refine v_iload_n K 4 dX3_lend_39 rfl rfl ?_
      refine v_callWi (As := [.int x1, .int y1]) (rest := []) K mk_X3_112 dX3_lend_40 (c_X7_valueAt (o := b + 2) rfl hL rfl) (hL 10 (by decide)) rfl rfl rfl rfl rfl (Nat.le_of_ble_eq_true rfl) ⟨rfl, rfl⟩ ⟨Nat.le_of_ble_eq_true rfl, Nat.le_of_ble_eq_true rfl⟩ ?_
      refine v_istore (lv' := [(5, .int (f_X7_valueAt S2 x1 y1)), (4, .int (if y1 = (-1) then 0 else 1 : Int32)), (0, .ref (eA E (b + 2) 0)), (1, .int x1), (2, .int x2), (3, .int y1)]) K dX3_lend_43 (by decide) rfl ?_
      refine v_aload_n K 2 dX3_lend_45 rfl rfl ?_
      refine g_get K fk_X3_37 dX3_lend_46 (hL 0 (by decide)) rfl rfl ?_
      refine v_iload_n K 3 dX3_lend_49 rfl rfl ?_
      refine v_iload_n K 5 dX3_lend_50 rfl rfl ?_
      refine v_callWi (As := [.int x1, .int y1]) (rest := []) K mk_X3_115 dX3_lend_51 (c_X7_isChangedAt (o := b + 2) rfl hL rfl) (hL 10 (by decide)) rfl rfl rfl rfl rfl (Nat.le_of_ble_eq_true rfl) ⟨rfl, rfl⟩ ⟨Nat.le_of_ble_eq_true rfl, Nat.le_of_ble_eq_true rfl⟩ ?_
      refine v_istore (lv' := [(6, .int (f_X7_isChangedAt S2 x1 y1)), (5, .int (f_X7_valueAt S2 x1 y1)), (4, .int (if y1 = (-1) then 0 else 1 : Int32)), (0, .ref (eA E (b + 2) 0)), (1, .int x1), (2, .int x2), (3, .int y1)]) K dX3_lend_54 (by decide) rfl ?_
      refine v_aload_n K 3 dX3_lend_56 rfl rfl ?_
      refine g_get K fk_X3_37 dX3_lend_57 (hL 0 (by decide)) rfl rfl ?_
      refine v_iload_n K 4 dX3_lend_60 rfl rfl ?_
      refine v_iload_n K 6 dX3_lend_61 rfl rfl ?_
      obtain ⟨S11, hS11, hf⟩ := bd_el hf
      refine v_callWn (As := [.int x1, .int y1]) (rest := []) K mk_X3_118 dX3_lend_62 (c_X7_remove (o := b + 2) rfl hL hS11) (hL 10 (by decide)) rfl rfl rfl rfl rfl (Nat.le_of_ble_eq_true rfl) ⟨rfl, rfl⟩ ⟨Nat.le_of_ble_eq_true rfl, Nat.le_of_ble_eq_true rfl⟩ ?_
      refine v_aload_n K 3 dX3_lend_65 rfl rfl ?_
      refine g_get K fk_X3_37 dX3_lend_66 (hL 0 (by decide)) rfl rfl ?_
      refine v_iload_n K 4 dX3_lend_69 rfl rfl ?_
      refine v_iload_n K 5 dX3_lend_70 rfl rfl ?_
      refine v_iload K 1 dX3_lend_71 rfl ?_
      refine v_iload K 0 dX3_lend_73 rfl ?_
      obtain ⟨S12, hS12, hf⟩ := bnd_el hf
      refine v_callWn (As := [.int x1, .int x2, .int (f_X7_valueAt S2 x1 y1), .int (f_X7_isChangedAt S2 x1 y1)]) (rest := []) K mk_X3_121 dX3_lend_75 (c_X7_lay (o := b + 2) rfl hL hS12.symm) (hL 10 (by decide)) rfl rfl rfl rfl rfl (Nat.le_of_ble_eq_true rfl) ⟨rfl, rfl⟩ ⟨Nat.le_of_ble_eq_true rfl, Nat.le_of_ble_eq_true rfl⟩ ?_
      refine v_iload K 1 dX3_lend_78 rfl ?_
      exact v_iret K rfl dX3_lend_80 (ev_q hf) (ew_q hf)
  refine v_icmp_eq (tgt := 19) K dX3_lend_12 (by decide) (fun hc1 => ?_) (fun hc1 => ?_)
  · refine v_iconst K dX3_lend_19 ki_0 ?_
    exact v_lsub [1, 2, 3, 0] rfl (hj13 0 (if_pos hc1).symm)
  · refine v_iconst K dX3_lend_15 ki_1 ?_
    refine v_goto (tgt := 20) K dX3_lend_16 (by decide) ?_
    exact v_lsub [1, 2, 3, 0] rfl (hj13 1 (if_neg hc1).symm)
set_option maxRecDepth 20000 in
theorem c_X3_rewrite {G : Gs} {o b : Nat} (ho : o = b + 2) (hL : LibG E b) {S S' : St}  {x1 : Int32} {x2 : Int32} {x3 : Int32} {r : Int32} (hf : f_X3_rewrite S x1 x2 x3 = some (r, S')) : Ctr l D E A yX3_rewrite cX3_rewrite 6 (some .int) (rmD 4) [.ref (eA E o 0), .int x1, .int x2, .int x3] (wl E (va_up G o S)) (some (.int r)) (wl E (va_up G o S')) := by
  subst ho
  refine Ctr.of (own := RX3) pn_X3 rfl (Nat.le_of_ble_eq_true rfl) ?_
  intro p e s m args below meth c K
  refine v_lv (lv' := [(0, .ref (eA E (b + 2) 0)), (1, .int x1), (2, .int x2), (3, .int x3)]) rfl ?_
  unfold f_X3_rewrite at hf
  refine v_aload_n K 0 dX3_rewrite_0 rfl rfl ?_
  refine g_get K fk_X3_48 dX3_rewrite_1 (hL 0 (by decide)) rfl rfl ?_
  refine v_iconst K dX3_rewrite_4 ki_0 ?_
  refine v_callWi (As := [.int 0]) (rest := []) K mk_X3_100 dX3_rewrite_5 (k_row_at (Nat.le_of_ble_eq_true rfl) (rl_28 (o := b + 2) rfl hL) rfl) (hL 28 (by decide)) rfl rfl rfl rfl rfl (Nat.le_of_ble_eq_true rfl) ⟨rfl, rfl⟩ ⟨Nat.le_of_ble_eq_true rfl, Nat.le_of_ble_eq_true rfl⟩ ?_
  refine v_istore (lv' := [(4, .int (rat 3 (S 29) 0)), (0, .ref (eA E (b + 2) 0)), (1, .int x1), (2, .int x2), (3, .int x3)]) K dX3_rewrite_8 (by decide) rfl ?_
  refine v_aload_n K 1 dX3_rewrite_10 rfl rfl ?_
  refine g_get K fk_X3_30 dX3_rewrite_11 (hL 0 (by decide)) rfl rfl ?_
  refine v_iload_n K 3 dX3_rewrite_14 rfl rfl ?_
  refine v_iload_n K 2 dX3_rewrite_15 rfl rfl ?_
  refine v_callWi (As := [.int x2, .int x1]) (rest := []) K mk_X3_142 dX3_rewrite_16 (c_X1_isOwnedBy (o := b + 2) rfl hL rfl) (hL 5 (by decide)) rfl rfl rfl rfl rfl (Nat.le_of_ble_eq_true rfl) ⟨rfl, rfl⟩ ⟨Nat.le_of_ble_eq_true rfl, Nat.le_of_ble_eq_true rfl⟩ ?_
  refine v_istore (lv' := [(5, .int (f_X1_isOwnedBy S x2 x1)), (4, .int (rat 3 (S 29) 0)), (0, .ref (eA E (b + 2) 0)), (1, .int x1), (2, .int x2), (3, .int x3)]) K dX3_rewrite_19 (by decide) rfl ?_
  refine v_aload_n K 2 dX3_rewrite_21 rfl rfl ?_
  refine v_iload_n K 3 dX3_rewrite_22 rfl rfl ?_
  refine v_iload K 0 dX3_rewrite_23 rfl ?_
  obtain ⟨S1, hS1, hf⟩ := bnd_el hf
  refine v_callWn (As := [.int x1, .int (f_X1_isOwnedBy S x2 x1)]) (rest := []) K mk_X3_108 dX3_rewrite_25 (c_X3_noteUse (o := b + 2) rfl hL hS1.symm) (hL 0 (by decide)) rfl rfl rfl rfl rfl (Nat.le_of_ble_eq_true rfl) ⟨rfl, rfl⟩ ⟨Nat.le_of_ble_eq_true rfl, Nat.le_of_ble_eq_true rfl⟩ ?_
  refine v_iload K 0 dX3_rewrite_28 rfl ?_
  refine jn_1 (fun (S_49 : St) => VV p l e (rmD 4) s m args below meth c (MQ below (CQ D A (some (.int r)) (wl E (va_up G (b + 2) S'))) args s 0 0 A) D A 6 (0, 0) 49 [] [(0, .ref (eA E (b + 2) 0)), (1, .int x1), (2, .int x2), (3, .int x3), (4, .int (rat 3 (S 29) 0))] (wl E (va_up G (b + 2) S_49))) hf (fun S_49 hf => ?_) (fun hj2 hf => ?_)
  · refine v_aload_n K 0 dX3_rewrite_49 rfl rfl ?_
    refine g_get K fk_X3_37 dX3_rewrite_50 (hL 0 (by decide)) rfl rfl ?_
    refine v_iload_n K 1 dX3_rewrite_53 rfl rfl ?_
    refine v_iload_n K 2 dX3_rewrite_54 rfl rfl ?_
    refine v_callWi (As := [.int x1, .int x2]) (rest := []) K mk_X3_93 dX3_rewrite_55 (c_X7_holds (o := b + 2) rfl hL rfl) (hL 10 (by decide)) rfl rfl rfl rfl rfl (Nat.le_of_ble_eq_true rfl) ⟨rfl, rfl⟩ ⟨Nat.le_of_ble_eq_true rfl, Nat.le_of_ble_eq_true rfl⟩ ?_
    refine jn_1 (fun (S_86 : St) => VV p l e (rmD 4) s m args below meth c (MQ below (CQ D A (some (.int r)) (wl E (va_up G (b + 2) S'))) args s 0 0 A) D A 6 (0, 0) 86 [] [(0, .ref (eA E (b + 2) 0)), (1, .int x1), (2, .int x2), (3, .int x3), (4, .int (rat 3 (S 29) 0))] (wl E (va_up G (b + 2) S_86))) hf (fun S_86 hf => ?_) (fun hj3 hf => ?_)
    · refine v_aload_n K 0 dX3_rewrite_86 rfl rfl ?_
      refine g_get K fk_X3_37 dX3_rewrite_87 (hL 0 (by decide)) rfl rfl ?_
      refine v_iload_n K 1 dX3_rewrite_90 rfl rfl ?_
      refine v_iload_n K 2 dX3_rewrite_91 rfl rfl ?_
      refine v_iload_n K 3 dX3_rewrite_92 rfl rfl ?_
      refine v_iconst K dX3_rewrite_93 ki_1 ?_
      obtain ⟨S4, hS4, hf⟩ := bnd_el hf
      refine v_callWn (As := [.int x1, .int x2, .int x3, .int 1]) (rest := []) K mk_X3_121 dX3_rewrite_94 (c_X7_lay (o := b + 2) rfl hL hS4.symm) (hL 10 (by decide)) rfl rfl rfl rfl rfl (Nat.le_of_ble_eq_true rfl) ⟨rfl, rfl⟩ ⟨Nat.le_of_ble_eq_true rfl, Nat.le_of_ble_eq_true rfl⟩ ?_
      refine v_aload_n K 0 dX3_rewrite_97 rfl rfl ?_
      refine g_get K fk_X3_30 dX3_rewrite_98 (hL 0 (by decide)) rfl rfl ?_
      refine v_iload_n K 2 dX3_rewrite_101 rfl rfl ?_
      refine v_iconst K dX3_rewrite_102 ki_3 ?_
      refine v_iload_n K 1 dX3_rewrite_103 rfl rfl ?_
      refine v_callSNi (As := [.int x1]) (rest := [.int 3, .int x2, .ref (eA E (b + 2) 5)]) K mk_X3_145 dX3_rewrite_104 (c_X8_only  rfl) rfl rfl (Nat.le_of_ble_eq_true rfl) ⟨rfl, rfl⟩ ⟨Nat.le_of_ble_eq_true rfl, Nat.le_of_ble_eq_true rfl⟩ ?_
      obtain ⟨S5, hS5, hf⟩ := bnd_el hf
      refine v_callWn (As := [.int x2, .int 3, .int (f_X8_only x1)]) (rest := []) K mk_X3_128 dX3_rewrite_107 (c_X1_become (o := b + 2) rfl hL hS5.symm) (hL 5 (by decide)) rfl rfl rfl rfl rfl (Nat.le_of_ble_eq_true rfl) ⟨rfl, rfl⟩ ⟨Nat.le_of_ble_eq_true rfl, Nat.le_of_ble_eq_true rfl⟩ ?_
      refine v_aload_n K 0 dX3_rewrite_110 rfl rfl ?_
      refine g_get K fk_X3_48 dX3_rewrite_111 (hL 0 (by decide)) rfl rfl ?_
      refine v_iconst K dX3_rewrite_114 ki_0 ?_
      refine v_callWi (As := [.int 0]) (rest := []) K mk_X3_100 dX3_rewrite_115 (k_row_at (Nat.le_of_ble_eq_true rfl) (rl_28 (o := b + 2) rfl hL) rfl) (hL 28 (by decide)) rfl rfl rfl rfl rfl (Nat.le_of_ble_eq_true rfl) ⟨rfl, rfl⟩ ⟨Nat.le_of_ble_eq_true rfl, Nat.le_of_ble_eq_true rfl⟩ ?_
      refine v_iload K 4 dX3_rewrite_118 rfl ?_
      refine v_isub K dX3_rewrite_120 ?_
      exact v_iret K rfl dX3_rewrite_121 (ev_q hf) (ew_q hf)
    · refine v_if_eq (tgt := 81) K dX3_rewrite_58 (by decide) (fun hc2 => ?_) (fun hc2 => ?_)
      · have hf := it_pos hc2 hf
        refine v_aload_n K 0 dX3_rewrite_81 rfl rfl ?_
        refine v_iload_n K 1 dX3_rewrite_82 rfl rfl ?_
        obtain ⟨S6, hS6, hf⟩ := bd_el hf
        refine v_callWn (As := [.int x1]) (rest := []) K mk_X3_132 dX3_rewrite_83 (c_X3_makeRoom (o := b + 2) rfl hL hS6) (hL 0 (by decide)) rfl rfl rfl rfl rfl (Nat.le_of_ble_eq_true rfl) ⟨rfl, rfl⟩ ⟨Nat.le_of_ble_eq_true rfl, Nat.le_of_ble_eq_true rfl⟩ ?_
        exact v_lsub [0, 1, 2, 3, 4] rfl (hj3 S6 hf)
      · have hf := it_neg hc2 hf
        refine v_aload_n K 0 dX3_rewrite_61 rfl rfl ?_
        refine g_get K fk_X3_37 dX3_rewrite_62 (hL 0 (by decide)) rfl rfl ?_
        refine v_iload_n K 1 dX3_rewrite_65 rfl rfl ?_
        refine v_aload_n K 0 dX3_rewrite_66 rfl rfl ?_
        refine g_get K fk_X3_37 dX3_rewrite_67 (hL 0 (by decide)) rfl rfl ?_
        refine v_iload_n K 1 dX3_rewrite_70 rfl rfl ?_
        refine v_iload_n K 2 dX3_rewrite_71 rfl rfl ?_
        obtain ⟨y7, hy7, hf⟩ := bd_el hf
        refine v_callWi (As := [.int x1, .int x2]) (rest := [.int x1, .ref (eA E (b + 2) 10)]) K mk_X3_104 dX3_rewrite_72 (c_X7_placeOf (o := b + 2) rfl hL hy7) (hL 10 (by decide)) rfl rfl rfl rfl rfl (Nat.le_of_ble_eq_true rfl) ⟨rfl, rfl⟩ ⟨Nat.le_of_ble_eq_true rfl, Nat.le_of_ble_eq_true rfl⟩ ?_
        obtain ⟨S8, hS8, hf⟩ := bd_el hf
        refine v_callWn (As := [.int x1, .int y7]) (rest := []) K mk_X3_118 dX3_rewrite_75 (c_X7_remove (o := b + 2) rfl hL hS8) (hL 10 (by decide)) rfl rfl rfl rfl rfl (Nat.le_of_ble_eq_true rfl) ⟨rfl, rfl⟩ ⟨Nat.le_of_ble_eq_true rfl, Nat.le_of_ble_eq_true rfl⟩ ?_
        refine v_goto (tgt := 86) K dX3_rewrite_78 (by decide) ?_
        exact v_lsub [0, 1, 2, 3, 4] rfl (hj3 S8 hf)
  · refine v_if_ne (tgt := 49) K dX3_rewrite_30 (by decide) (fun hc1 => ?_) (fun hc1 => ?_)
    · have hf := it_neg hc1 hf
      exact v_lsub [2, 3, 4, 5, 1] rfl (hj2 S1 hf)
    · have hf := it_pos hc1 hf
      refine v_aload_n K 2 dX3_rewrite_33 rfl rfl ?_
      refine v_iload_n K 4 dX3_rewrite_34 rfl rfl ?_
      refine v_iload_n K 3 dX3_rewrite_35 rfl rfl ?_
      obtain ⟨y10, S9, hS9, hf⟩ := bdp_el hf
      refine v_callWi (As := [.int x2, .int x1]) (rest := []) K mk_X3_125 dX3_rewrite_36 (c_X3_callBack (o := b + 2) rfl hL hS9) (hL 0 (by decide)) rfl rfl rfl rfl rfl (Nat.le_of_ble_eq_true rfl) ⟨rfl, rfl⟩ ⟨Nat.le_of_ble_eq_true rfl, Nat.le_of_ble_eq_true rfl⟩ ?_
      refine v_pop K dX3_rewrite_39 rfl ?_
      refine v_aload_n K 2 dX3_rewrite_40 rfl rfl ?_
      refine g_get K fk_X3_48 dX3_rewrite_41 (hL 0 (by decide)) rfl rfl ?_
      refine v_iconst K dX3_rewrite_44 ki_0 ?_
      refine v_iconst K dX3_rewrite_45 ki_2 ?_
      obtain ⟨S11, hS11, hf⟩ := bnd_el hf
      refine v_callWn (As := [.int 0, .int 2]) (rest := []) K mk_X3_135 dX3_rewrite_46 (k_row_add (Nat.le_of_ble_eq_true rfl) (rl_28 (o := b + 2) rfl hL) hS11.symm) (hL 28 (by decide)) rfl rfl rfl rfl rfl (Nat.le_of_ble_eq_true rfl) ⟨rfl, rfl⟩ ⟨Nat.le_of_ble_eq_true rfl, Nat.le_of_ble_eq_true rfl⟩ ?_
      exact v_lsub [2, 3, 4, 5, 1] rfl (hj2 S11 hf)
set_option maxRecDepth 20000 in
theorem c_X3_callIn {G : Gs} {o b : Nat} (ho : o = b + 2) (hL : LibG E b) {S S' : St}  {x1 : Int32} {r : Int32} (hf : f_X3_callIn S x1 = some (r, S')) : Ctr l D E A yX3_callIn cX3_callIn 3 (some .int) (rmD 4) [.ref (eA E o 0), .int x1] (wl E (va_up G o S)) (some (.int r)) (wl E (va_up G o S')) := by
  subst ho
  refine Ctr.of (own := RX3) pn_X3 rfl (Nat.le_of_ble_eq_true rfl) ?_
  intro p e s m args below meth c K
  refine v_lv (lv' := [(0, .ref (eA E (b + 2) 0)), (1, .int x1)]) rfl ?_
  unfold f_X3_callIn at hf
  refine v_aload_n K 0 dX3_callIn_0 rfl rfl ?_
  refine v_iload_n K 1 dX3_callIn_1 rfl rfl ?_
  refine v_iconst K dX3_callIn_2 ki_m1 ?_
  obtain ⟨y2, S1, hS1, hf⟩ := bdp_el hf
  refine v_callWi (As := [.int x1, .int (-1)]) (rest := []) K mk_X3_125 dX3_callIn_3 (c_X3_callBack (o := b + 2) rfl hL hS1) (hL 0 (by decide)) rfl rfl rfl rfl rfl (Nat.le_of_ble_eq_true rfl) ⟨rfl, rfl⟩ ⟨Nat.le_of_ble_eq_true rfl, Nat.le_of_ble_eq_true rfl⟩ ?_
  refine v_istore_n (lv' := [(2, .int y2), (0, .ref (eA E (b + 2) 0)), (1, .int x1)]) K dX3_callIn_6 rfl (by decide) rfl ?_
  refine v_aload_n K 1 dX3_callIn_7 rfl rfl ?_
  refine g_get K fk_X3_30 dX3_callIn_8 (hL 0 (by decide)) rfl rfl ?_
  refine v_iload_n K 2 dX3_callIn_11 rfl rfl ?_
  refine v_iconst K dX3_callIn_12 ki_0 ?_
  refine v_iconst K dX3_callIn_13 ki_0 ?_
  obtain ⟨S3, hS3, hf⟩ := bnd_el hf
  refine v_callWn (As := [.int x1, .int 0, .int 0]) (rest := []) K mk_X3_128 dX3_callIn_14 (c_X1_become (o := b + 2) rfl hL hS3.symm) (hL 5 (by decide)) rfl rfl rfl rfl rfl (Nat.le_of_ble_eq_true rfl) ⟨rfl, rfl⟩ ⟨Nat.le_of_ble_eq_true rfl, Nat.le_of_ble_eq_true rfl⟩ ?_
  refine v_iload_n K 0 dX3_callIn_17 rfl rfl ?_
  exact v_iret K rfl dX3_callIn_18 (ev_q hf) (ew_q hf)
set_option maxRecDepth 20000 in
theorem c_X3_notesThatCall {G : Gs} {o b : Nat} (ho : o = b + 2) (hL : LibG E b) {S : St}  {x1 : Int32} {r : Int32} (hf : f_X3_notesThatCall S x1 = some r) : Ctr l D E A yX3_notesThatCall cX3_notesThatCall 4 (some .int) (rmD 3) [.ref (eA E o 0), .int x1] (wl E (va_up G o S)) (some (.int r)) (wl E (va_up G o S)) := by
  subst ho
  refine Ctr.of (own := RX3) pn_X3 rfl (Nat.le_of_ble_eq_true rfl) ?_
  intro p e s m args below meth c K
  refine v_lv (lv' := [(0, .ref (eA E (b + 2) 0)), (1, .int x1)]) rfl ?_
  have L4 : ∀ (x1 : Int32) (S : St), ∀ (n : Nat) (x2 : Int32) (x3 : Int32), f_X3_notesThatCall_L4 x1 S n x2 x3 = some r → VV p l e (rmD 3) s m args below meth c (MQ below (CQ D A (some (.int r)) (wl E (va_up G (b + 2) S))) args s 0 0 A) D A 4 (0, 0) 4 [] [(0, .ref (eA E (b + 2) 0)), (1, .int x1), (2, .int x2), (3, .int x3)] (wl E (va_up G (b + 2) S)) := by
    intro x1 S n
    induction n with
    | zero =>
      intro x2 x3 hf
      rw [f_X3_notesThatCall_L4] at hf
      cases hf
    | succ n ih =>
      intro x2 x3 hf
      rw [f_X3_notesThatCall_L4] at hf
      refine v_iload_n K 3 dX3_notesThatCall_4 rfl rfl ?_
      refine v_bipush K dX3_notesThatCall_5 kb_24 ?_
      refine v_icmp_ge (tgt := 35) K dX3_notesThatCall_7 (by decide) (fun hc1 => ?_) (fun hc1 => ?_)
      · have hf := it_pos hc1 hf
        refine v_iload_n K 2 dX3_notesThatCall_35 rfl rfl ?_
        exact v_iret K rfl dX3_notesThatCall_36 (ev_o hf) rfl
      · have hf := it_neg hc1 hf
        refine v_iload_n K 1 dX3_notesThatCall_10 rfl rfl ?_
        refine v_aload_n K 0 dX3_notesThatCall_11 rfl rfl ?_
        refine v_iload_n K 3 dX3_notesThatCall_12 rfl rfl ?_
        obtain ⟨y1, hy1, hf⟩ := bd_el hf
        refine v_callWi (As := [.int x3]) (rest := [.int x1]) K mk_X3_154 dX3_notesThatCall_13 (c_X3_called (o := b + 2) rfl hL hy1) (hL 0 (by decide)) rfl rfl rfl rfl rfl (Nat.le_of_ble_eq_true rfl) ⟨rfl, rfl⟩ ⟨Nat.le_of_ble_eq_true rfl, Nat.le_of_ble_eq_true rfl⟩ ?_
        refine v_callSNi (As := [.int x1, .int y1]) (rest := []) K mk_X3_157 dX3_notesThatCall_16 (c_X8_isIn  rfl) rfl rfl (Nat.le_of_ble_eq_true rfl) ⟨rfl, rfl⟩ ⟨Nat.le_of_ble_eq_true rfl, Nat.le_of_ble_eq_true rfl⟩ ?_
        have hj2 : ∀ (w1 : Int32), w1 = (if (f_X8_isIn x1 y1) = 0 then x2 else (x2 ||| (f_X8_only x3)) : Int32) → VV p l e (rmD 3) s m args below meth c (MQ below (CQ D A (some (.int r)) (wl E (va_up G (b + 2) S))) args s 0 0 A) D A 4 (0, 0) 29 [] [(0, .ref (eA E (b + 2) 0)), (1, .int x1), (2, .int w1), (3, .int x3)] (wl E (va_up G (b + 2) S)) := by
          intro w1 ew1
          subst ew1
          refine v_iinc (v := x3 + 1) (lv' := [(3, .int (x3 + 1)), (0, .ref (eA E (b + 2) 0)), (1, .int x1), (2, .int (if (f_X8_isIn x1 y1) = 0 then x2 else (x2 ||| (f_X8_only x3)) : Int32))]) K 3 dX3_notesThatCall_29 rfl rfl (by decide) rfl ?_
          refine v_goto (tgt := 4) K dX3_notesThatCall_32 (by decide) ?_
          exact v_lsub [1, 2, 3, 0] rfl (ih (if (f_X8_isIn x1 y1) = 0 then x2 else (x2 ||| (f_X8_only x3)) : Int32) (x3 + 1) hf)
        refine v_if_eq (tgt := 29) K dX3_notesThatCall_19 (by decide) (fun hc2 => ?_) (fun hc2 => ?_)
        · exact v_lsub [0, 1, 2, 3] rfl (hj2 x2 (if_pos hc2).symm)
        · refine v_iload_n K 2 dX3_notesThatCall_22 rfl rfl ?_
          refine v_iload_n K 3 dX3_notesThatCall_23 rfl rfl ?_
          refine v_callSNi (As := [.int x3]) (rest := [.int x2]) K mk_X3_145 dX3_notesThatCall_24 (c_X8_only  rfl) rfl rfl (Nat.le_of_ble_eq_true rfl) ⟨rfl, rfl⟩ ⟨Nat.le_of_ble_eq_true rfl, Nat.le_of_ble_eq_true rfl⟩ ?_
          refine v_ior K dX3_notesThatCall_27 ?_
          refine v_istore_n (lv' := [(2, .int (x2 ||| (f_X8_only x3))), (0, .ref (eA E (b + 2) 0)), (1, .int x1), (3, .int x3)]) K dX3_notesThatCall_28 rfl (by decide) rfl ?_
          exact v_lsub [1, 2, 0, 3] rfl (hj2 (x2 ||| (f_X8_only x3)) (if_neg hc2).symm)
  unfold f_X3_notesThatCall at hf
  refine v_iconst K dX3_notesThatCall_0 ki_0 ?_
  refine v_istore_n (lv' := [(2, .int 0), (0, .ref (eA E (b + 2) 0)), (1, .int x1)]) K dX3_notesThatCall_1 rfl (by decide) rfl ?_
  refine v_iconst K dX3_notesThatCall_2 ki_0 ?_
  refine v_istore_n (lv' := [(3, .int 0), (2, .int 0), (0, .ref (eA E (b + 2) 0)), (1, .int x1)]) K dX3_notesThatCall_3 rfl (by decide) rfl ?_
  refine v_lsub [2, 3, 1, 0] rfl ?_
  exact L4 x1 S 5000 0 0 hf
set_option maxRecDepth 20000 in
theorem c_X3_valueToRead {G : Gs} {o b : Nat} (ho : o = b + 2) (hL : LibG E b) {S : St}  {x1 : Int32} {r : Int32} (hf : f_X3_valueToRead S x1 = some r) : Ctr l D E A yX3_valueToRead cX3_valueToRead 3 (some .int) (rmD 2) [.ref (eA E o 0), .int x1] (wl E (va_up G o S)) (some (.int r)) (wl E (va_up G o S)) := by
  subst ho
  refine Ctr.of (own := RX3) pn_X3 rfl (Nat.le_of_ble_eq_true rfl) ?_
  intro p e s m args below meth c K
  refine v_lv (lv' := [(0, .ref (eA E (b + 2) 0)), (1, .int x1)]) rfl ?_
  have L2 : ∀ (x1 : Int32) (S : St), ∀ (k : Int32 → Option (Int32)), (∀ (x2 : Int32), k x2 = some r → VV p l e (rmD 2) s m args below meth c (MQ below (CQ D A (some (.int r)) (wl E (va_up G (b + 2) S))) args s 0 0 A) D A 3 (0, 0) 44 [] [(0, .ref (eA E (b + 2) 0)), (1, .int x1)] (wl E (va_up G (b + 2) S))) → ∀ (n : Nat) (x2 : Int32), f_X3_valueToRead_L2 x1 S k n x2 = some r → VV p l e (rmD 2) s m args below meth c (MQ below (CQ D A (some (.int r)) (wl E (va_up G (b + 2) S))) args s 0 0 A) D A 3 (0, 0) 2 [] [(0, .ref (eA E (b + 2) 0)), (1, .int x1), (2, .int x2)] (wl E (va_up G (b + 2) S)) := by
    intro x1 S k hk n
    induction n with
    | zero =>
      intro x2 hf
      rw [f_X3_valueToRead_L2] at hf
      cases hf
    | succ n ih =>
      intro x2 hf
      rw [f_X3_valueToRead_L2] at hf
      refine v_iload_n K 2 dX3_valueToRead_2 rfl rfl ?_
      refine v_bipush K dX3_valueToRead_3 kb_16 ?_
      refine v_icmp_ge (tgt := 44) K dX3_valueToRead_5 (by decide) (fun hc1 => ?_) (fun hc1 => ?_)
      · have hf := it_pos hc1 hf
        exact v_lsub [0, 1] rfl (hk x2 hf)
      · have hf := it_neg hc1 hf
        refine v_aload_n K 0 dX3_valueToRead_8 rfl rfl ?_
        refine g_get K fk_X3_30 dX3_valueToRead_9 (hL 0 (by decide)) rfl rfl ?_
        refine v_iload_n K 1 dX3_valueToRead_12 rfl rfl ?_
        refine v_iload_n K 2 dX3_valueToRead_13 rfl rfl ?_
        refine v_callWi (As := [.int x1, .int x2]) (rest := []) K mk_X3_142 dX3_valueToRead_14 (c_X1_isOwnedBy (o := b + 2) rfl hL rfl) (hL 5 (by decide)) rfl rfl rfl rfl rfl (Nat.le_of_ble_eq_true rfl) ⟨rfl, rfl⟩ ⟨Nat.le_of_ble_eq_true rfl, Nat.le_of_ble_eq_true rfl⟩ ?_
        refine v_if_eq (tgt := 38) K dX3_valueToRead_17 (by decide) (fun hc2 => ?_) (fun hc2 => ?_)
        · have hf := it_pos hc2 hf
          refine v_iinc (v := x2 + 1) (lv' := [(2, .int (x2 + 1)), (0, .ref (eA E (b + 2) 0)), (1, .int x1)]) K 2 dX3_valueToRead_38 rfl rfl (by decide) rfl ?_
          refine v_goto (tgt := 2) K dX3_valueToRead_41 (by decide) ?_
          exact v_lsub [1, 2, 0] rfl (ih (x2 + 1) hf)
        · have hf := it_neg hc2 hf
          refine v_aload_n K 0 dX3_valueToRead_20 rfl rfl ?_
          refine g_get K fk_X3_37 dX3_valueToRead_21 (hL 0 (by decide)) rfl rfl ?_
          refine v_iload_n K 2 dX3_valueToRead_24 rfl rfl ?_
          refine v_aload_n K 0 dX3_valueToRead_25 rfl rfl ?_
          refine g_get K fk_X3_37 dX3_valueToRead_26 (hL 0 (by decide)) rfl rfl ?_
          refine v_iload_n K 2 dX3_valueToRead_29 rfl rfl ?_
          refine v_iload_n K 1 dX3_valueToRead_30 rfl rfl ?_
          obtain ⟨y1, hy1, hf⟩ := bd_el hf
          refine v_callWi (As := [.int x2, .int x1]) (rest := [.int x2, .ref (eA E (b + 2) 10)]) K mk_X3_104 dX3_valueToRead_31 (c_X7_placeOf (o := b + 2) rfl hL hy1) (hL 10 (by decide)) rfl rfl rfl rfl rfl (Nat.le_of_ble_eq_true rfl) ⟨rfl, rfl⟩ ⟨Nat.le_of_ble_eq_true rfl, Nat.le_of_ble_eq_true rfl⟩ ?_
          refine v_callWi (As := [.int x2, .int y1]) (rest := []) K mk_X3_112 dX3_valueToRead_34 (c_X7_valueAt (o := b + 2) rfl hL rfl) (hL 10 (by decide)) rfl rfl rfl rfl rfl (Nat.le_of_ble_eq_true rfl) ⟨rfl, rfl⟩ ⟨Nat.le_of_ble_eq_true rfl, Nat.le_of_ble_eq_true rfl⟩ ?_
          exact v_iret K rfl dX3_valueToRead_37 (ev_o hf) rfl
  unfold f_X3_valueToRead at hf
  refine v_iconst K dX3_valueToRead_0 ki_0 ?_
  refine v_istore_n (lv' := [(2, .int 0), (0, .ref (eA E (b + 2) 0)), (1, .int x1)]) K dX3_valueToRead_1 rfl (by decide) rfl ?_
  refine v_lsub [1, 2, 0] rfl ?_
  refine L2 x1 S _ ?_ 5000 0 hf
  intro x2_44 hf
  refine v_aload_n K 0 dX3_valueToRead_44 rfl rfl ?_
  refine g_get K fk_X3_24 dX3_valueToRead_45 (hL 0 (by decide)) rfl rfl ?_
  refine v_iload_n K 1 dX3_valueToRead_48 rfl rfl ?_
  refine v_callWi (As := [.int x1]) (rest := []) K mk_X3_100 dX3_valueToRead_49 (k_row_at (Nat.le_of_ble_eq_true rfl) (rl_3 (o := b + 2) rfl hL) rfl) (hL 3 (by decide)) rfl rfl rfl rfl rfl (Nat.le_of_ble_eq_true rfl) ⟨rfl, rfl⟩ ⟨Nat.le_of_ble_eq_true rfl, Nat.le_of_ble_eq_true rfl⟩ ?_
  exact v_iret K rfl dX3_valueToRead_52 (ev_o hf) rfl
set_option maxRecDepth 20000 in
theorem c_X3_messagesToMakeRoom {G : Gs} {o b : Nat} (ho : o = b + 2) (hL : LibG E b) {S : St}  {x1 : Int32} {r : Int32} (hf : f_X3_messagesToMakeRoom S x1 = some r) : Ctr l D E A yX3_messagesToMakeRoom cX3_messagesToMakeRoom 5 (some .int) (rmD 2) [.ref (eA E o 0), .int x1] (wl E (va_up G o S)) (some (.int r)) (wl E (va_up G o S)) := by
  subst ho
  refine Ctr.of (own := RX3) pn_X3 rfl (Nat.le_of_ble_eq_true rfl) ?_
  intro p e s m args below meth c K
  refine v_lv (lv' := [(0, .ref (eA E (b + 2) 0)), (1, .int x1)]) rfl ?_
  have L25 : ∀ (x1 : Int32) (x2 : Int32) (S : St), ∀ (n : Nat) (x3 : Int32) (x4 : Int32), f_X3_messagesToMakeRoom_L25 x1 x2 S n x3 x4 = some r → VV p l e (rmD 2) s m args below meth c (MQ below (CQ D A (some (.int r)) (wl E (va_up G (b + 2) S))) args s 0 0 A) D A 5 (0, 0) 25 [] [(0, .ref (eA E (b + 2) 0)), (1, .int x1), (2, .int x2), (3, .int x3), (4, .int x4)] (wl E (va_up G (b + 2) S)) := by
    intro x1 x2 S n
    induction n with
    | zero =>
      intro x3 x4 hf
      rw [f_X3_messagesToMakeRoom_L25] at hf
      cases hf
    | succ n ih =>
      intro x3 x4 hf
      rw [f_X3_messagesToMakeRoom_L25] at hf
      refine v_iload K 4 dX3_messagesToMakeRoom_25 rfl ?_
      refine v_iload_n K 2 dX3_messagesToMakeRoom_27 rfl rfl ?_
      refine v_icmp_ge (tgt := 58) K dX3_messagesToMakeRoom_28 (by decide) (fun hc2 => ?_) (fun hc2 => ?_)
      · have hf := it_pos hc2 hf
        refine v_iload_n K 3 dX3_messagesToMakeRoom_58 rfl rfl ?_
        exact v_iret K rfl dX3_messagesToMakeRoom_59 (ev_o hf) rfl
      · have hf := it_neg hc2 hf
        refine v_iload_n K 3 dX3_messagesToMakeRoom_31 rfl rfl ?_
        refine v_aload_n K 0 dX3_messagesToMakeRoom_32 rfl rfl ?_
        refine g_get K fk_X3_37 dX3_messagesToMakeRoom_33 (hL 0 (by decide)) rfl rfl ?_
        refine v_iload_n K 1 dX3_messagesToMakeRoom_36 rfl rfl ?_
        refine v_iload K 4 dX3_messagesToMakeRoom_37 rfl ?_
        refine v_callWi (As := [.int x1, .int x4]) (rest := [.int x3]) K mk_X3_115 dX3_messagesToMakeRoom_39 (c_X7_isChangedAt (o := b + 2) rfl hL rfl) (hL 10 (by decide)) rfl rfl rfl rfl rfl (Nat.le_of_ble_eq_true rfl) ⟨rfl, rfl⟩ ⟨Nat.le_of_ble_eq_true rfl, Nat.le_of_ble_eq_true rfl⟩ ?_
        have hj1 : ∀ (w1 : Int32), w1 = (if (f_X7_isChangedAt S x1 x4) = 0 then 0 else 1 : Int32) → VV p l e (rmD 2) s m args below meth c (MQ below (CQ D A (some (.int r)) (wl E (va_up G (b + 2) S))) args s 0 0 A) D A 5 (0, 0) 50 [.int w1, .int x3] [(0, .ref (eA E (b + 2) 0)), (1, .int x1), (2, .int x2), (4, .int x4)] (wl E (va_up G (b + 2) S)) := by
          intro w1 ew1
          subst ew1
          refine v_iadd K dX3_messagesToMakeRoom_50 ?_
          refine v_istore_n (lv' := [(3, .int (x3 + (if (f_X7_isChangedAt S x1 x4) = 0 then 0 else 1 : Int32))), (0, .ref (eA E (b + 2) 0)), (1, .int x1), (2, .int x2), (4, .int x4)]) K dX3_messagesToMakeRoom_51 rfl (by decide) rfl ?_
          refine v_iinc (v := x4 + 1) (lv' := [(4, .int (x4 + 1)), (3, .int (x3 + (if (f_X7_isChangedAt S x1 x4) = 0 then 0 else 1 : Int32))), (0, .ref (eA E (b + 2) 0)), (1, .int x1), (2, .int x2)]) K 4 dX3_messagesToMakeRoom_52 rfl rfl (by decide) rfl ?_
          refine v_goto (tgt := 25) K dX3_messagesToMakeRoom_55 (by decide) ?_
          exact v_lsub [2, 3, 4, 1, 0] rfl (ih (x3 + (if (f_X7_isChangedAt S x1 x4) = 0 then 0 else 1 : Int32)) (x4 + 1) hf)
        refine v_if_eq (tgt := 49) K dX3_messagesToMakeRoom_42 (by decide) (fun hc3 => ?_) (fun hc3 => ?_)
        · refine v_iconst K dX3_messagesToMakeRoom_49 ki_0 ?_
          exact v_lsub [0, 1, 2, 4] rfl (hj1 0 (if_pos hc3).symm)
        · refine v_iconst K dX3_messagesToMakeRoom_45 ki_1 ?_
          refine v_goto (tgt := 50) K dX3_messagesToMakeRoom_46 (by decide) ?_
          exact v_lsub [0, 1, 2, 4] rfl (hj1 1 (if_neg hc3).symm)
  unfold f_X3_messagesToMakeRoom at hf
  refine v_aload_n K 0 dX3_messagesToMakeRoom_0 rfl rfl ?_
  refine v_iload_n K 1 dX3_messagesToMakeRoom_1 rfl rfl ?_
  refine v_callWi (As := [.int x1]) (rest := []) K mk_X3_163 dX3_messagesToMakeRoom_2 (c_X3_copiesInTheWay (o := b + 2) rfl hL rfl) (hL 0 (by decide)) rfl rfl rfl rfl rfl (Nat.le_of_ble_eq_true rfl) ⟨rfl, rfl⟩ ⟨Nat.le_of_ble_eq_true rfl, Nat.le_of_ble_eq_true rfl⟩ ?_
  refine v_istore_n (lv' := [(2, .int (f_X3_copiesInTheWay S x1)), (0, .ref (eA E (b + 2) 0)), (1, .int x1)]) K dX3_messagesToMakeRoom_5 rfl (by decide) rfl ?_
  refine v_aload_n K 1 dX3_messagesToMakeRoom_6 rfl rfl ?_
  refine g_get K fk_X3_18 dX3_messagesToMakeRoom_7 (hL 0 (by decide)) rfl rfl ?_
  refine v_iconst K dX3_messagesToMakeRoom_10 ki_3 ?_
  refine v_callWi (As := [.int 3]) (rest := []) K mk_X3_100 dX3_messagesToMakeRoom_11 (k_row_at (Nat.le_of_ble_eq_true rfl) (rl_1 (o := b + 2) rfl hL) rfl) (hL 1 (by decide)) rfl rfl rfl rfl rfl (Nat.le_of_ble_eq_true rfl) ⟨rfl, rfl⟩ ⟨Nat.le_of_ble_eq_true rfl, Nat.le_of_ble_eq_true rfl⟩ ?_
  refine v_iconst K dX3_messagesToMakeRoom_14 ki_1 ?_
  refine v_icmp_ne (tgt := 20) K dX3_messagesToMakeRoom_15 (by decide) (fun hc1 => ?_) (fun hc1 => ?_)
  · have hf := it_neg hc1 hf
    refine v_iconst K dX3_messagesToMakeRoom_20 ki_0 ?_
    refine v_istore_n (lv' := [(3, .int 0), (2, .int (f_X3_copiesInTheWay S x1)), (0, .ref (eA E (b + 2) 0)), (1, .int x1)]) K dX3_messagesToMakeRoom_21 rfl (by decide) rfl ?_
    refine v_iconst K dX3_messagesToMakeRoom_22 ki_0 ?_
    refine v_istore (lv' := [(4, .int 0), (3, .int 0), (2, .int (f_X3_copiesInTheWay S x1)), (0, .ref (eA E (b + 2) 0)), (1, .int x1)]) K dX3_messagesToMakeRoom_23 (by decide) rfl ?_
    refine v_lsub [3, 4, 2, 1, 0] rfl ?_
    exact L25 x1 (f_X3_copiesInTheWay S x1) S 5000 0 0 hf
  · have hf := it_pos hc1 hf
    refine v_iload_n K 0 dX3_messagesToMakeRoom_18 rfl rfl ?_
    exact v_iret K rfl dX3_messagesToMakeRoom_19 (ev_o hf) rfl
set_option maxRecDepth 20000 in
theorem c_X3_messagesToRead {G : Gs} {o b : Nat} (ho : o = b + 2) (hL : LibG E b) {S : St}  {x1 : Int32} {x2 : Int32} {r : Int32} (hf : f_X3_messagesToRead S x1 x2 = some r) : Ctr l D E A yX3_messagesToRead cX3_messagesToRead 4 (some .int) (rmD 3) [.ref (eA E o 0), .int x1, .int x2] (wl E (va_up G o S)) (some (.int r)) (wl E (va_up G o S)) := by
  subst ho
  refine Ctr.of (own := RX3) pn_X3 rfl (Nat.le_of_ble_eq_true rfl) ?_
  intro p e s m args below meth c K
  refine v_lv (lv' := [(0, .ref (eA E (b + 2) 0)), (1, .int x1), (2, .int x2)]) rfl ?_
  unfold f_X3_messagesToRead at hf
  refine v_aload_n K 0 dX3_messagesToRead_0 rfl rfl ?_
  refine g_get K fk_X3_37 dX3_messagesToRead_1 (hL 0 (by decide)) rfl rfl ?_
  refine v_iload_n K 1 dX3_messagesToRead_4 rfl rfl ?_
  refine v_iload_n K 2 dX3_messagesToRead_5 rfl rfl ?_
  refine v_callWi (As := [.int x1, .int x2]) (rest := []) K mk_X3_93 dX3_messagesToRead_6 (c_X7_holds (o := b + 2) rfl hL rfl) (hL 10 (by decide)) rfl rfl rfl rfl rfl (Nat.le_of_ble_eq_true rfl) ⟨rfl, rfl⟩ ⟨Nat.le_of_ble_eq_true rfl, Nat.le_of_ble_eq_true rfl⟩ ?_
  refine v_if_eq (tgt := 14) K dX3_messagesToRead_9 (by decide) (fun hc1 => ?_) (fun hc1 => ?_)
  · have hf := it_pos hc1 hf
    refine v_aload_n K 0 dX3_messagesToRead_14 rfl rfl ?_
    refine g_get K fk_X3_30 dX3_messagesToRead_15 (hL 0 (by decide)) rfl rfl ?_
    refine g_getN K fn_X3_97 dX3_messagesToRead_18 (hL 5 (by decide)) rfl rfl ?_
    refine v_iload_n K 2 dX3_messagesToRead_21 rfl rfl ?_
    refine v_callWi (As := [.int x2]) (rest := []) K mk_X3_100 dX3_messagesToRead_22 (k_row_at (Nat.le_of_ble_eq_true rfl) (rl_6 (o := b + 2) rfl hL) rfl) (hL 6 (by decide)) rfl rfl rfl rfl rfl (Nat.le_of_ble_eq_true rfl) ⟨rfl, rfl⟩ ⟨Nat.le_of_ble_eq_true rfl, Nat.le_of_ble_eq_true rfl⟩ ?_
    refine v_iconst K dX3_messagesToRead_25 ki_3 ?_
    have hj2 : ∀ (w1 : Int32), w1 = (if (rat 24 (S 7) x2) = 3 then 2 else 0 : Int32) → VV p l e (rmD 3) s m args below meth c (MQ below (CQ D A (some (.int r)) (wl E (va_up G (b + 2) S))) args s 0 0 A) D A 4 (0, 0) 34 [.int w1] [(0, .ref (eA E (b + 2) 0)), (1, .int x1)] (wl E (va_up G (b + 2) S)) := by
      intro w1 ew1
      subst ew1
      refine v_istore_n (lv' := [(3, .int (if (rat 24 (S 7) x2) = 3 then 2 else 0 : Int32)), (0, .ref (eA E (b + 2) 0)), (1, .int x1)]) K dX3_messagesToRead_34 rfl (by decide) rfl ?_
      refine v_iload_n K 0 dX3_messagesToRead_35 rfl rfl ?_
      refine v_aload_n K 1 dX3_messagesToRead_36 rfl rfl ?_
      refine v_iload_n K 2 dX3_messagesToRead_37 rfl rfl ?_
      obtain ⟨y1, hy1, hf⟩ := bd_el hf
      refine v_callWi (As := [.int x1]) (rest := [.int (if (rat 24 (S 7) x2) = 3 then 2 else 0 : Int32)]) K mk_X3_179 dX3_messagesToRead_38 (c_X3_messagesToMakeRoom (o := b + 2) rfl hL hy1) (hL 0 (by decide)) rfl rfl rfl rfl rfl (Nat.le_of_ble_eq_true rfl) ⟨rfl, rfl⟩ ⟨Nat.le_of_ble_eq_true rfl, Nat.le_of_ble_eq_true rfl⟩ ?_
      refine v_iadd K dX3_messagesToRead_41 ?_
      refine v_iconst K dX3_messagesToRead_42 ki_2 ?_
      refine v_iadd K dX3_messagesToRead_43 ?_
      exact v_iret K rfl dX3_messagesToRead_44 (ev_o hf) rfl
    refine v_icmp_ne (tgt := 33) K dX3_messagesToRead_26 (by decide) (fun hc2 => ?_) (fun hc2 => ?_)
    · refine v_iconst K dX3_messagesToRead_33 ki_0 ?_
      exact v_lsub [0, 1] rfl (hj2 0 (if_neg hc2).symm)
    · refine v_iconst K dX3_messagesToRead_29 ki_2 ?_
      refine v_goto (tgt := 34) K dX3_messagesToRead_30 (by decide) ?_
      exact v_lsub [0, 1] rfl (hj2 2 (if_pos hc2).symm)
  · have hf := it_neg hc1 hf
    refine v_iconst K dX3_messagesToRead_12 ki_0 ?_
    exact v_iret K rfl dX3_messagesToRead_13 (ev_o hf) rfl
set_option maxRecDepth 20000 in
theorem c_X3_messagesToChange {G : Gs} {o b : Nat} (ho : o = b + 2) (hL : LibG E b) {S : St}  {x1 : Int32} {x2 : Int32} {r : Int32} (hf : f_X3_messagesToChange S x1 x2 = some r) : Ctr l D E A yX3_messagesToChange cX3_messagesToChange 6 (some .int) (rmD 3) [.ref (eA E o 0), .int x1, .int x2] (wl E (va_up G o S)) (some (.int r)) (wl E (va_up G o S)) := by
  subst ho
  refine Ctr.of (own := RX3) pn_X3 rfl (Nat.le_of_ble_eq_true rfl) ?_
  intro p e s m args below meth c K
  refine v_lv (lv' := [(0, .ref (eA E (b + 2) 0)), (1, .int x1), (2, .int x2)]) rfl ?_
  unfold f_X3_messagesToChange at hf
  refine v_aload_n K 0 dX3_messagesToChange_0 rfl rfl ?_
  refine g_get K fk_X3_30 dX3_messagesToChange_1 (hL 0 (by decide)) rfl rfl ?_
  refine v_iload_n K 2 dX3_messagesToChange_4 rfl rfl ?_
  refine v_iload_n K 1 dX3_messagesToChange_5 rfl rfl ?_
  refine v_callWi (As := [.int x2, .int x1]) (rest := []) K mk_X3_142 dX3_messagesToChange_6 (c_X1_isOwnedBy (o := b + 2) rfl hL rfl) (hL 5 (by decide)) rfl rfl rfl rfl rfl (Nat.le_of_ble_eq_true rfl) ⟨rfl, rfl⟩ ⟨Nat.le_of_ble_eq_true rfl, Nat.le_of_ble_eq_true rfl⟩ ?_
  refine v_if_eq (tgt := 14) K dX3_messagesToChange_9 (by decide) (fun hc1 => ?_) (fun hc1 => ?_)
  · have hf := it_pos hc1 hf
    refine v_aload_n K 0 dX3_messagesToChange_14 rfl rfl ?_
    refine v_iload_n K 2 dX3_messagesToChange_15 rfl rfl ?_
    obtain ⟨y1, hy1, hf⟩ := bd_el hf
    refine v_callWi (As := [.int x2]) (rest := []) K mk_X3_154 dX3_messagesToChange_16 (c_X3_called (o := b + 2) rfl hL hy1) (hL 0 (by decide)) rfl rfl rfl rfl rfl (Nat.le_of_ble_eq_true rfl) ⟨rfl, rfl⟩ ⟨Nat.le_of_ble_eq_true rfl, Nat.le_of_ble_eq_true rfl⟩ ?_
    refine v_iload_n K 1 dX3_messagesToChange_19 rfl rfl ?_
    refine v_callSNi (As := [.int x1]) (rest := [.int y1]) K mk_X3_145 dX3_messagesToChange_20 (c_X8_only  rfl) rfl rfl (Nat.le_of_ble_eq_true rfl) ⟨rfl, rfl⟩ ⟨Nat.le_of_ble_eq_true rfl, Nat.le_of_ble_eq_true rfl⟩ ?_
    refine v_iconst K dX3_messagesToChange_23 ki_m1 ?_
    refine v_ixor K dX3_messagesToChange_24 ?_
    refine v_iand K dX3_messagesToChange_25 ?_
    refine v_istore_n (lv' := [(3, .int (y1 &&& ((f_X8_only x1) ^^^ (-1)))), (0, .ref (eA E (b + 2) 0)), (1, .int x1), (2, .int x2)]) K dX3_messagesToChange_26 rfl (by decide) rfl ?_
    refine v_iload_n K 0 dX3_messagesToChange_27 rfl rfl ?_
    refine v_aload_n K 1 dX3_messagesToChange_28 rfl rfl ?_
    refine g_get K fk_X3_37 dX3_messagesToChange_29 (hL 0 (by decide)) rfl rfl ?_
    refine g_getN K fn_X3_182 dX3_messagesToChange_32 (hL 10 (by decide)) rfl rfl ?_
    refine v_iload_n K 3 dX3_messagesToChange_35 rfl rfl ?_
    refine v_callWi (As := [.int x2]) (rest := [.int (y1 &&& ((f_X8_only x1) ^^^ (-1)))]) K mk_X3_100 dX3_messagesToChange_36 (k_row_at (Nat.le_of_ble_eq_true rfl) (rl_19 (o := b + 2) rfl hL) rfl) (hL 19 (by decide)) rfl rfl rfl rfl rfl (Nat.le_of_ble_eq_true rfl) ⟨rfl, rfl⟩ ⟨Nat.le_of_ble_eq_true rfl, Nat.le_of_ble_eq_true rfl⟩ ?_
    refine v_iand K dX3_messagesToChange_39 ?_
    refine v_istore (lv' := [(4, .int ((y1 &&& ((f_X8_only x1) ^^^ (-1))) &&& (rat 24 (S 20) x2))), (3, .int (y1 &&& ((f_X8_only x1) ^^^ (-1)))), (0, .ref (eA E (b + 2) 0)), (1, .int x1), (2, .int x2)]) K dX3_messagesToChange_40 (by decide) rfl ?_
    refine v_aload_n K 2 dX3_messagesToChange_42 rfl rfl ?_
    refine g_get K fk_X3_37 dX3_messagesToChange_43 (hL 0 (by decide)) rfl rfl ?_
    refine v_iload_n K 3 dX3_messagesToChange_46 rfl rfl ?_
    refine v_iload_n K 4 dX3_messagesToChange_47 rfl rfl ?_
    refine v_callWi (As := [.int x1, .int x2]) (rest := []) K mk_X3_93 dX3_messagesToChange_48 (c_X7_holds (o := b + 2) rfl hL rfl) (hL 10 (by decide)) rfl rfl rfl rfl rfl (Nat.le_of_ble_eq_true rfl) ⟨rfl, rfl⟩ ⟨Nat.le_of_ble_eq_true rfl, Nat.le_of_ble_eq_true rfl⟩ ?_
    refine jn_1 (fun (u63_0 : Int32) => VV p l e (rmD 3) s m args below meth c (MQ below (CQ D A (some (.int r)) (wl E (va_up G (b + 2) S))) args s 0 0 A) D A 6 (0, 0) 63 [.int u63_0] [(3, .int (y1 &&& ((f_X8_only x1) ^^^ (-1)))), (4, .int ((y1 &&& ((f_X8_only x1) ^^^ (-1))) &&& (rat 24 (S 20) x2)))] (wl E (va_up G (b + 2) S))) hf (fun u63_0 hf => ?_) (fun hj2 hf => ?_)
    · refine v_istore (lv' := [(5, .int u63_0), (3, .int (y1 &&& ((f_X8_only x1) ^^^ (-1)))), (4, .int ((y1 &&& ((f_X8_only x1) ^^^ (-1))) &&& (rat 24 (S 20) x2)))]) K dX3_messagesToChange_63 (by decide) rfl ?_
      refine v_iload_n K 1 dX3_messagesToChange_65 rfl rfl ?_
      refine v_callSi (As := [.int (y1 &&& ((f_X8_only x1) ^^^ (-1)))]) (rest := []) K mk_X3_185 dX3_messagesToChange_66 (c_J6_bitCount_0f7a4  rfl) rfl rfl (Nat.le_of_ble_eq_true rfl) ⟨rfl, rfl⟩ ⟨Nat.le_of_ble_eq_true rfl, Nat.le_of_ble_eq_true rfl⟩ ?_
      refine v_iload K 2 dX3_messagesToChange_69 rfl ?_
      refine v_callSi (As := [.int ((y1 &&& ((f_X8_only x1) ^^^ (-1))) &&& (rat 24 (S 20) x2))]) (rest := [.int (f_J6_bitCount_0f7a4 (y1 &&& ((f_X8_only x1) ^^^ (-1))))]) K mk_X3_185 dX3_messagesToChange_71 (c_J6_bitCount_0f7a4  rfl) rfl rfl (Nat.le_of_ble_eq_true rfl) ⟨rfl, rfl⟩ ⟨Nat.le_of_ble_eq_true rfl, Nat.le_of_ble_eq_true rfl⟩ ?_
      refine v_iadd K dX3_messagesToChange_74 ?_
      refine v_iload K 0 dX3_messagesToChange_75 rfl ?_
      refine v_iadd K dX3_messagesToChange_77 ?_
      refine v_iconst K dX3_messagesToChange_78 ki_2 ?_
      refine v_iadd K dX3_messagesToChange_79 ?_
      exact v_iret K rfl dX3_messagesToChange_80 (ev_o hf) rfl
    · refine v_if_eq (tgt := 58) K dX3_messagesToChange_51 (by decide) (fun hc2 => ?_) (fun hc2 => ?_)
      · have hf := it_pos hc2 hf
        refine v_aload_n K 2 dX3_messagesToChange_58 rfl rfl ?_
        refine v_iload_n K 3 dX3_messagesToChange_59 rfl rfl ?_
        obtain ⟨y3, hy3, hf⟩ := bd_el hf
        refine v_callWi (As := [.int x1]) (rest := []) K mk_X3_179 dX3_messagesToChange_60 (c_X3_messagesToMakeRoom (o := b + 2) rfl hL hy3) (hL 0 (by decide)) rfl rfl rfl rfl rfl (Nat.le_of_ble_eq_true rfl) ⟨rfl, rfl⟩ ⟨Nat.le_of_ble_eq_true rfl, Nat.le_of_ble_eq_true rfl⟩ ?_
        exact v_lsub [1, 0] rfl (hj2 y3 hf)
      · have hf := it_neg hc2 hf
        refine v_iconst K dX3_messagesToChange_54 ki_0 ?_
        refine v_goto (tgt := 63) K dX3_messagesToChange_55 (by decide) ?_
        exact v_lsub [1, 0] rfl (hj2 0 hf)
  · have hf := it_neg hc1 hf
    refine v_iconst K dX3_messagesToChange_12 ki_0 ?_
    exact v_iret K rfl dX3_messagesToChange_13 (ev_o hf) rfl
set_option maxRecDepth 20000 in
theorem c_X3_wastedToChange {G : Gs} {o b : Nat} (ho : o = b + 2) (hL : LibG E b) {S : St}  {x1 : Int32} {x2 : Int32} {r : Int32} (hf : f_X3_wastedToChange S x1 x2 = some r) : Ctr l D E A yX3_wastedToChange cX3_wastedToChange 3 (some .int) (rmD 3) [.ref (eA E o 0), .int x1, .int x2] (wl E (va_up G o S)) (some (.int r)) (wl E (va_up G o S)) := by
  subst ho
  refine Ctr.of (own := RX3) pn_X3 rfl (Nat.le_of_ble_eq_true rfl) ?_
  intro p e s m args below meth c K
  refine v_lv (lv' := [(0, .ref (eA E (b + 2) 0)), (1, .int x1), (2, .int x2)]) rfl ?_
  unfold f_X3_wastedToChange at hf
  refine v_aload_n K 0 dX3_wastedToChange_0 rfl rfl ?_
  refine v_iload_n K 2 dX3_wastedToChange_1 rfl rfl ?_
  obtain ⟨y1, hy1, hf⟩ := bd_el hf
  refine v_callWi (As := [.int x2]) (rest := []) K mk_X3_154 dX3_wastedToChange_2 (c_X3_called (o := b + 2) rfl hL hy1) (hL 0 (by decide)) rfl rfl rfl rfl rfl (Nat.le_of_ble_eq_true rfl) ⟨rfl, rfl⟩ ⟨Nat.le_of_ble_eq_true rfl, Nat.le_of_ble_eq_true rfl⟩ ?_
  refine v_iload_n K 1 dX3_wastedToChange_5 rfl rfl ?_
  refine v_callSNi (As := [.int x1]) (rest := [.int y1]) K mk_X3_145 dX3_wastedToChange_6 (c_X8_only  rfl) rfl rfl (Nat.le_of_ble_eq_true rfl) ⟨rfl, rfl⟩ ⟨Nat.le_of_ble_eq_true rfl, Nat.le_of_ble_eq_true rfl⟩ ?_
  refine v_iconst K dX3_wastedToChange_9 ki_m1 ?_
  refine v_ixor K dX3_wastedToChange_10 ?_
  refine v_iand K dX3_wastedToChange_11 ?_
  refine v_aload_n K 0 dX3_wastedToChange_12 rfl rfl ?_
  refine g_get K fk_X3_37 dX3_wastedToChange_13 (hL 0 (by decide)) rfl rfl ?_
  refine g_getN K fn_X3_182 dX3_wastedToChange_16 (hL 10 (by decide)) rfl rfl ?_
  refine v_iload_n K 2 dX3_wastedToChange_19 rfl rfl ?_
  refine v_callWi (As := [.int x2]) (rest := [.int (y1 &&& ((f_X8_only x1) ^^^ (-1)))]) K mk_X3_100 dX3_wastedToChange_20 (k_row_at (Nat.le_of_ble_eq_true rfl) (rl_19 (o := b + 2) rfl hL) rfl) (hL 19 (by decide)) rfl rfl rfl rfl rfl (Nat.le_of_ble_eq_true rfl) ⟨rfl, rfl⟩ ⟨Nat.le_of_ble_eq_true rfl, Nat.le_of_ble_eq_true rfl⟩ ?_
  refine v_iconst K dX3_wastedToChange_23 ki_m1 ?_
  refine v_ixor K dX3_wastedToChange_24 ?_
  refine v_iand K dX3_wastedToChange_25 ?_
  refine v_callSi (As := [.int ((y1 &&& ((f_X8_only x1) ^^^ (-1))) &&& ((rat 24 (S 20) x2) ^^^ (-1)))]) (rest := []) K mk_X3_185 dX3_wastedToChange_26 (c_J6_bitCount_0f7a4  rfl) rfl rfl (Nat.le_of_ble_eq_true rfl) ⟨rfl, rfl⟩ ⟨Nat.le_of_ble_eq_true rfl, Nat.le_of_ble_eq_true rfl⟩ ?_
  exact v_iret K rfl dX3_wastedToChange_29 (ev_o hf) rfl
set_option maxRecDepth 20000 in
theorem c_X3_fewestWasted {G : Gs} {o b : Nat} (ho : o = b + 2) (hL : LibG E b) {S : St}  {x1 : Int32} {r : Int32} (hf : f_X3_fewestWasted S x1 = some r) : Ctr l D E A yX3_fewestWasted cX3_fewestWasted 4 (some .int) (rmD 3) [.ref (eA E o 0), .int x1] (wl E (va_up G o S)) (some (.int r)) (wl E (va_up G o S)) := by
  subst ho
  refine Ctr.of (own := RX3) pn_X3 rfl (Nat.le_of_ble_eq_true rfl) ?_
  intro p e s m args below meth c K
  refine v_lv (lv' := [(0, .ref (eA E (b + 2) 0)), (1, .int x1)]) rfl ?_
  unfold f_X3_fewestWasted at hf
  refine v_aload_n K 0 dX3_fewestWasted_0 rfl rfl ?_
  refine v_iload_n K 1 dX3_fewestWasted_1 rfl rfl ?_
  obtain ⟨y1, hy1, hf⟩ := bd_el hf
  refine v_callWi (As := [.int x1]) (rest := []) K mk_X3_154 dX3_fewestWasted_2 (c_X3_called (o := b + 2) rfl hL hy1) (hL 0 (by decide)) rfl rfl rfl rfl rfl (Nat.le_of_ble_eq_true rfl) ⟨rfl, rfl⟩ ⟨Nat.le_of_ble_eq_true rfl, Nat.le_of_ble_eq_true rfl⟩ ?_
  refine v_aload_n K 0 dX3_fewestWasted_5 rfl rfl ?_
  refine g_get K fk_X3_37 dX3_fewestWasted_6 (hL 0 (by decide)) rfl rfl ?_
  refine g_getN K fn_X3_182 dX3_fewestWasted_9 (hL 10 (by decide)) rfl rfl ?_
  refine v_iload_n K 1 dX3_fewestWasted_12 rfl rfl ?_
  refine v_callWi (As := [.int x1]) (rest := [.int y1]) K mk_X3_100 dX3_fewestWasted_13 (k_row_at (Nat.le_of_ble_eq_true rfl) (rl_19 (o := b + 2) rfl hL) rfl) (hL 19 (by decide)) rfl rfl rfl rfl rfl (Nat.le_of_ble_eq_true rfl) ⟨rfl, rfl⟩ ⟨Nat.le_of_ble_eq_true rfl, Nat.le_of_ble_eq_true rfl⟩ ?_
  refine v_iconst K dX3_fewestWasted_16 ki_m1 ?_
  refine v_ixor K dX3_fewestWasted_17 ?_
  refine v_iand K dX3_fewestWasted_18 ?_
  refine v_istore_n (lv' := [(2, .int (y1 &&& ((rat 24 (S 20) x1) ^^^ (-1)))), (0, .ref (eA E (b + 2) 0)), (1, .int x1)]) K dX3_fewestWasted_19 rfl (by decide) rfl ?_
  refine v_iload_n K 0 dX3_fewestWasted_20 rfl rfl ?_
  refine v_callSi (As := [.int (y1 &&& ((rat 24 (S 20) x1) ^^^ (-1)))]) (rest := []) K mk_X3_185 dX3_fewestWasted_21 (c_J6_bitCount_0f7a4  rfl) rfl rfl (Nat.le_of_ble_eq_true rfl) ⟨rfl, rfl⟩ ⟨Nat.le_of_ble_eq_true rfl, Nat.le_of_ble_eq_true rfl⟩ ?_
  refine v_istore_n (lv' := [(3, .int (f_J6_bitCount_0f7a4 (y1 &&& ((rat 24 (S 20) x1) ^^^ (-1))))), (2, .int (y1 &&& ((rat 24 (S 20) x1) ^^^ (-1)))), (0, .ref (eA E (b + 2) 0)), (1, .int x1)]) K dX3_fewestWasted_24 rfl (by decide) rfl ?_
  refine v_iload_n K 0 dX3_fewestWasted_25 rfl rfl ?_
  refine v_if_le (tgt := 35) K dX3_fewestWasted_26 (by decide) (fun hc1 => ?_) (fun hc1 => ?_)
  · have hf := it_pos hc1 hf
    refine v_iconst K dX3_fewestWasted_35 ki_0 ?_
    exact v_iret K rfl dX3_fewestWasted_36 (ev_o hf) rfl
  · have hf := it_neg hc1 hf
    refine v_iload_n K 0 dX3_fewestWasted_29 rfl rfl ?_
    refine v_iconst K dX3_fewestWasted_30 ki_1 ?_
    refine v_isub K dX3_fewestWasted_31 ?_
    refine v_goto (tgt := 36) K dX3_fewestWasted_32 (by decide) ?_
    exact v_iret K rfl dX3_fewestWasted_36 (ev_o hf) rfl
set_option maxRecDepth 20000 in
theorem c_X5_codeAt {G : Gs} (hT : TopG E) {S : St}  {x1 : Int32} {r : Int32} (hf : f_X5_codeAt S x1 = r) : Ctr l D E A yX5_codeAt cX5_codeAt 2 (some .int) (rmD 1) [.ref (eA E 0 4), .int x1] (wl E (va_up G 0 S)) (some (.int r)) (wl E (va_up G 0 S)) := by
  refine Ctr.of (own := RX5) pn_X5 rfl (Nat.le_of_ble_eq_true rfl) ?_
  intro p e s m args below meth c K
  refine v_lv (lv' := [(0, .ref (eA E 0 4)), (1, .int x1)]) rfl ?_
  unfold f_X5_codeAt at hf
  refine v_iload_n K 1 dX5_codeAt_0 rfl rfl ?_
  refine v_aload_n K 0 dX5_codeAt_1 rfl rfl ?_
  refine g_get K fk_X5_20 dX5_codeAt_2 (hT 4 (by decide)) rfl rfl ?_
  refine v_icmp_ge (tgt := 19) K dX5_codeAt_5 (by decide) (fun hc1 => ?_) (fun hc1 => ?_)
  · have hf := it_pos hc1 hf
    refine v_iconst K dX5_codeAt_19 ki_0 ?_
    exact v_iret K rfl dX5_codeAt_20 (ev_v hf) rfl
  · have hf := it_neg hc1 hf
    refine v_aload_n K 0 dX5_codeAt_8 rfl rfl ?_
    refine g_get K fk_X5_14 dX5_codeAt_9 (hT 4 (by decide)) rfl rfl ?_
    refine v_iload_n K 1 dX5_codeAt_12 rfl rfl ?_
    refine v_callWi (As := [.int x1]) (rest := []) K mk_X5_24 dX5_codeAt_13 (k_row_at (Nat.le_of_ble_eq_true rfl) (rt_5 hT) rfl) (hT 5 (by decide)) rfl rfl rfl rfl rfl (Nat.le_of_ble_eq_true rfl) ⟨rfl, rfl⟩ ⟨Nat.le_of_ble_eq_true rfl, Nat.le_of_ble_eq_true rfl⟩ ?_
    refine v_goto (tgt := 20) K dX5_codeAt_16 (by decide) ?_
    exact v_iret K rfl dX5_codeAt_20 (ev_v hf) rfl
set_option maxRecDepth 20000 in
theorem c_X4_take {G : Gs} (hT : TopG E) {S S' : St}  {x1 : Int32} {r : Int32} (hf : f_X4_take S x1 = (r, S')) : Ctr l D E A yX4_take cX4_take 2 (some .boolean) (rmD 2) [.ref (eA E 0 7), .int x1] (wl E (va_up G 0 S)) (some (.int r)) (wl E (va_up G 0 S')) := by
  refine Ctr.of (own := RX4) pn_X4 rfl (Nat.le_of_ble_eq_true rfl) ?_
  intro p e s m args below meth c K
  refine v_lv (lv' := [(0, .ref (eA E 0 7)), (1, .int x1)]) rfl ?_
  unfold f_X4_take at hf
  refine v_aload_n K 0 dX4_take_0 rfl rfl ?_
  refine g_get K fk_X4_12 dX4_take_1 (hT 7 (by decide)) rfl rfl ?_
  refine v_aload_n K 0 dX4_take_4 rfl rfl ?_
  refine g_get K fk_X4_18 dX4_take_5 (hT 7 (by decide)) rfl rfl ?_
  refine v_callWi (As := [.int (S 7 1)]) (rest := []) K mk_X4_45 dX4_take_8 (c_X5_codeAt hT rfl) (hT 4 (by decide)) rfl rfl rfl rfl rfl (Nat.le_of_ble_eq_true rfl) ⟨rfl, rfl⟩ ⟨Nat.le_of_ble_eq_true rfl, Nat.le_of_ble_eq_true rfl⟩ ?_
  refine v_iload_n K 1 dX4_take_11 rfl rfl ?_
  refine v_icmp_eq (tgt := 17) K dX4_take_12 (by decide) (fun hc1 => ?_) (fun hc1 => ?_)
  · have hf := it_pos hc1 hf
    refine v_aload_n K 0 dX4_take_17 rfl rfl ?_
    refine v_dup K dX4_take_18 rfl ?_
    refine g_get K fk_X4_18 dX4_take_19 (hT 7 (by decide)) rfl rfl ?_
    refine v_iconst K dX4_take_22 ki_1 ?_
    refine v_iadd K dX4_take_23 ?_
    obtain ⟨S1, hS1, hf⟩ := bnd_el hf
    refine g_put K fp_X4_18 dX4_take_24 (hT 7 (by decide)) rfl 1 (Nat.le_of_ble_eq_true rfl) rfl rfl rfl hS1 ?_
    refine v_iconst K dX4_take_27 ki_1 ?_
    exact v_zret K rfl dX4_take_28 (Or.inr rfl) (ev_p hf) (ew_p hf)
  · have hf := it_neg hc1 hf
    refine v_iconst K dX4_take_15 ki_0 ?_
    exact v_zret K rfl dX4_take_16 (Or.inl rfl) (ev_p hf) (ew_p hf)
set_option maxRecDepth 20000 in
theorem c_X4_kindOf {ws : va_W}  {x0 : Int32} {r : Int32} (hf : f_X4_kindOf x0 = r) : Ctr l D E A yX4_kindOf cX4_kindOf 1 (some .int) (rmD 0) [.int x0] (ws) (some (.int r)) (ws) := by
  refine Ctr.of (own := RX4) pn_X4 rfl (Nat.le_of_ble_eq_true rfl) ?_
  intro p e s m args below meth c K
  refine v_lv (lv' := [(0, .int x0)]) rfl ?_
  unfold f_X4_kindOf at hf
  refine v_iload_n K 0 dX4_kindOf_0 rfl rfl ?_
  by_cases hw1_0 : x0 = 98
  · have hf := it_pos hw1_0 hf
    refine v_lookup (tgt := 48) (off := 47) K dX4_kindOf_1 (by decide) (by rw [hw1_0]; decide) (by decide) ?_
    refine v_iconst K dX4_kindOf_48 ki_2 ?_
    exact v_iret K rfl dX4_kindOf_49 (ev_v hf) rfl
  · have hf := it_neg hw1_0 hf
    by_cases hw1_1 : x0 = 99
    · have hf := it_pos hw1_1 hf
      refine v_lookup (tgt := 50) (off := 49) K dX4_kindOf_1 (by decide) (by rw [hw1_1]; decide) (by decide) ?_
      refine v_iconst K dX4_kindOf_50 ki_3 ?_
      exact v_iret K rfl dX4_kindOf_51 (ev_v hf) rfl
    · have hf := it_neg hw1_1 hf
      by_cases hw1_2 : x0 = 114
      · have hf := it_pos hw1_2 hf
        refine v_lookup (tgt := 44) (off := 43) K dX4_kindOf_1 (by decide) (by rw [hw1_2]; decide) (by decide) ?_
        refine v_iconst K dX4_kindOf_44 ki_0 ?_
        exact v_iret K rfl dX4_kindOf_45 (ev_v hf) rfl
      · have hf := it_neg hw1_2 hf
        by_cases hw1_3 : x0 = 119
        · have hf := it_pos hw1_3 hf
          refine v_lookup (tgt := 46) (off := 45) K dX4_kindOf_1 (by decide) (by rw [hw1_3]; decide) (by decide) ?_
          refine v_iconst K dX4_kindOf_46 ki_1 ?_
          exact v_iret K rfl dX4_kindOf_47 (ev_v hf) rfl
        · have hf := it_neg hw1_3 hf
          refine v_lookup (tgt := 52) (off := 51) K dX4_kindOf_1 (by decide) (by simp [lookupswitch.offset, ne_toInt (z := 98) (by decide) hw1_0, ne_toInt (z := 99) (by decide) hw1_1, ne_toInt (z := 114) (by decide) hw1_2, ne_toInt (z := 119) (by decide) hw1_3]) (by decide) ?_
          refine v_iconst K dX4_kindOf_52 ki_m1 ?_
          exact v_iret K rfl dX4_kindOf_53 (ev_v hf) rfl
set_option maxRecDepth 20000 in
theorem c_X4_takeKind {G : Gs} (hT : TopG E) {S S' : St}  {r : Int32} (hf : f_X4_takeKind S = (r, S')) : Ctr l D E A yX4_takeKind cX4_takeKind 1 (some .boolean) (rmD 2) [.ref (eA E 0 7)] (wl E (va_up G 0 S)) (some (.int r)) (wl E (va_up G 0 S')) := by
  refine Ctr.of (own := RX4) pn_X4 rfl (Nat.le_of_ble_eq_true rfl) ?_
  intro p e s m args below meth c K
  refine v_lv (lv' := [(0, .ref (eA E 0 7))]) rfl ?_
  unfold f_X4_takeKind at hf
  refine v_aload_n K 0 dX4_takeKind_0 rfl rfl ?_
  refine v_aload_n K 0 dX4_takeKind_1 rfl rfl ?_
  refine g_get K fk_X4_12 dX4_takeKind_2 (hT 7 (by decide)) rfl rfl ?_
  refine v_aload_n K 0 dX4_takeKind_5 rfl rfl ?_
  refine g_get K fk_X4_18 dX4_takeKind_6 (hT 7 (by decide)) rfl rfl ?_
  refine v_callWi (As := [.int (S 7 1)]) (rest := [.ref (eA E 0 7)]) K mk_X4_45 dX4_takeKind_9 (c_X5_codeAt hT rfl) (hT 4 (by decide)) rfl rfl rfl rfl rfl (Nat.le_of_ble_eq_true rfl) ⟨rfl, rfl⟩ ⟨Nat.le_of_ble_eq_true rfl, Nat.le_of_ble_eq_true rfl⟩ ?_
  refine v_callSi (As := [.int (f_X5_codeAt S (S 7 1))]) (rest := [.ref (eA E 0 7)]) K mk_X4_49 dX4_takeKind_12 (c_X4_kindOf  rfl) rfl rfl (Nat.le_of_ble_eq_true rfl) ⟨rfl, rfl⟩ ⟨Nat.le_of_ble_eq_true rfl, Nat.le_of_ble_eq_true rfl⟩ ?_
  obtain ⟨S1, hS1, hf⟩ := bnd_el hf
  refine g_put K fp_X4_52 dX4_takeKind_15 (hT 7 (by decide)) rfl 3 (Nat.le_of_ble_eq_true rfl) rfl rfl rfl hS1 ?_
  refine v_aload_n K 0 dX4_takeKind_18 rfl rfl ?_
  refine g_get K fk_X4_52 dX4_takeKind_19 (hT 7 (by decide)) rfl rfl ?_
  refine v_iconst K dX4_takeKind_22 ki_m1 ?_
  refine v_icmp_ne (tgt := 28) K dX4_takeKind_23 (by decide) (fun hc1 => ?_) (fun hc1 => ?_)
  · have hf := it_neg hc1 hf
    refine v_aload_n K 0 dX4_takeKind_28 rfl rfl ?_
    refine v_dup K dX4_takeKind_29 rfl ?_
    refine g_get K fk_X4_18 dX4_takeKind_30 (hT 7 (by decide)) rfl rfl ?_
    refine v_iconst K dX4_takeKind_33 ki_1 ?_
    refine v_iadd K dX4_takeKind_34 ?_
    obtain ⟨S2, hS2, hf⟩ := bnd_el hf
    refine g_put K fp_X4_18 dX4_takeKind_35 (hT 7 (by decide)) rfl 1 (Nat.le_of_ble_eq_true rfl) rfl rfl rfl hS2 ?_
    refine v_iconst K dX4_takeKind_38 ki_1 ?_
    exact v_zret K rfl dX4_takeKind_39 (Or.inr rfl) (ev_p hf) (ew_p hf)
  · have hf := it_pos hc1 hf
    refine v_iconst K dX4_takeKind_26 ki_0 ?_
    exact v_zret K rfl dX4_takeKind_27 (Or.inl rfl) (ev_p hf) (ew_p hf)
set_option maxRecDepth 20000 in
theorem c_X4_isDigit {ws : va_W}  {x0 : Int32} {r : Int32} (hf : f_X4_isDigit x0 = r) : Ctr l D E A yX4_isDigit cX4_isDigit 1 (some .boolean) (rmD 0) [.int x0] (ws) (some (.int r)) (ws) := by
  refine Ctr.of (own := RX4) pn_X4 rfl (Nat.le_of_ble_eq_true rfl) ?_
  intro p e s m args below meth c K
  refine v_lv (lv' := [(0, .int x0)]) rfl ?_
  unfold f_X4_isDigit at hf
  refine v_iload_n K 0 dX4_isDigit_0 rfl rfl ?_
  refine v_bipush K dX4_isDigit_1 kb_48 ?_
  refine v_icmp_lt (tgt := 16) K dX4_isDigit_3 (by decide) (fun hc1 => ?_) (fun hc1 => ?_)
  · have hf := it_pos hc1 hf
    refine v_iconst K dX4_isDigit_16 ki_0 ?_
    exact v_zret K rfl dX4_isDigit_17 (Or.inl rfl) (ev_v hf) rfl
  · have hf := it_neg hc1 hf
    refine v_iload_n K 0 dX4_isDigit_6 rfl rfl ?_
    refine v_bipush K dX4_isDigit_7 kb_57 ?_
    refine v_icmp_gt (tgt := 16) K dX4_isDigit_9 (by decide) (fun hc2 => ?_) (fun hc2 => ?_)
    · have hf := it_pos hc2 hf
      refine v_iconst K dX4_isDigit_16 ki_0 ?_
      exact v_zret K rfl dX4_isDigit_17 (Or.inl rfl) (ev_v hf) rfl
    · have hf := it_neg hc2 hf
      refine v_iconst K dX4_isDigit_12 ki_1 ?_
      refine v_goto (tgt := 17) K dX4_isDigit_13 (by decide) ?_
      exact v_zret K rfl dX4_isDigit_17 (Or.inr rfl) (ev_v hf) rfl
theorem b_X4_isDigit  {x0 : Int32} : f_X4_isDigit x0 = 0 ∨ f_X4_isDigit x0 = 1 := by
  unfold f_X4_isDigit
  repeat' split
  all_goals first | exact Or.inl rfl | exact Or.inr rfl
set_option maxRecDepth 20000 in
theorem c_X4_takeNumber {G : Gs} (hT : TopG E) {S S' : St}  {r : Int32} (hf : f_X4_takeNumber S = some (r, S')) : Ctr l D E A yX4_takeNumber cX4_takeNumber 4 (some .boolean) (rmD 2) [.ref (eA E 0 7)] (wl E (va_up G 0 S)) (some (.int r)) (wl E (va_up G 0 S')) := by
  refine Ctr.of (own := RX4) pn_X4 rfl (Nat.le_of_ble_eq_true rfl) ?_
  intro p e s m args below meth c K
  refine v_lv (lv' := [(0, .ref (eA E 0 7))]) rfl ?_
  have L34 : ∀ (x1 : Int32) (x2 : Int32), ∀ (k : Int32 → St → Option (Int32 × St)), (∀ (x3 : Int32) (S : St), k x3 S = some (r, S') → VV p l e (rmD 2) s m args below meth c (MQ below (CQ D A (some (.int r)) (wl E (va_up G 0 S'))) args s 0 0 A) D A 4 (0, 0) 98 [] [(0, .ref (eA E 0 7)), (1, .int x1)] (wl E (va_up G 0 S))) → ∀ (n : Nat) (x3 : Int32) (S : St), f_X4_takeNumber_L34 x1 x2 k n x3 S = some (r, S') → VV p l e (rmD 2) s m args below meth c (MQ below (CQ D A (some (.int r)) (wl E (va_up G 0 S'))) args s 0 0 A) D A 4 (0, 0) 34 [] [(0, .ref (eA E 0 7)), (1, .int x1), (2, .int x2), (3, .int x3)] (wl E (va_up G 0 S)) := by
    intro x1 x2 k hk n
    induction n with
    | zero =>
      intro x3 S hf
      rw [f_X4_takeNumber_L34] at hf
      cases hf
    | succ n ih =>
      intro x3 S hf
      rw [f_X4_takeNumber_L34] at hf
      refine v_iload_n K 3 dX4_takeNumber_34 rfl rfl ?_
      refine v_iload_n K 2 dX4_takeNumber_35 rfl rfl ?_
      refine v_icmp_ge (tgt := 98) K dX4_takeNumber_36 (by decide) (fun hc2 => ?_) (fun hc2 => ?_)
      · have hf := it_pos hc2 hf
        exact v_lsub [0, 1] rfl (hk x3 S hf)
      · have hf := it_neg hc2 hf
        refine v_aload_n K 0 dX4_takeNumber_39 rfl rfl ?_
        refine g_get K fk_X4_12 dX4_takeNumber_40 (hT 7 (by decide)) rfl rfl ?_
        refine v_aload_n K 0 dX4_takeNumber_43 rfl rfl ?_
        refine g_get K fk_X4_18 dX4_takeNumber_44 (hT 7 (by decide)) rfl rfl ?_
        refine v_callWi (As := [.int (S 7 1)]) (rest := []) K mk_X4_45 dX4_takeNumber_47 (c_X5_codeAt hT rfl) (hT 4 (by decide)) rfl rfl rfl rfl rfl (Nat.le_of_ble_eq_true rfl) ⟨rfl, rfl⟩ ⟨Nat.le_of_ble_eq_true rfl, Nat.le_of_ble_eq_true rfl⟩ ?_
        refine v_callSi (As := [.int (f_X5_codeAt S (S 7 1))]) (rest := []) K mk_X4_70 dX4_takeNumber_50 (c_X4_isDigit  rfl) rfl rfl (Nat.le_of_ble_eq_true rfl) ⟨rfl, rfl⟩ ⟨Nat.le_of_ble_eq_true rfl, Nat.le_of_ble_eq_true rfl⟩ ?_
        refine v_if_eq (tgt := 98) K dX4_takeNumber_53 (by decide) (fun hc3 => ?_) (fun hc3 => ?_)
        · have hf := it_pos hc3 hf
          exact v_lsub [0, 1] rfl (hk x3 S hf)
        · have hf := it_neg hc3 hf
          refine v_aload_n K 0 dX4_takeNumber_56 rfl rfl ?_
          refine v_aload_n K 0 dX4_takeNumber_57 rfl rfl ?_
          refine g_get K fk_X4_61 dX4_takeNumber_58 (hT 7 (by decide)) rfl rfl ?_
          refine v_bipush K dX4_takeNumber_61 kb_10 ?_
          refine v_imul K dX4_takeNumber_63 ?_
          refine v_aload_n K 0 dX4_takeNumber_64 rfl rfl ?_
          refine g_get K fk_X4_12 dX4_takeNumber_65 (hT 7 (by decide)) rfl rfl ?_
          refine v_aload_n K 0 dX4_takeNumber_68 rfl rfl ?_
          refine g_get K fk_X4_18 dX4_takeNumber_69 (hT 7 (by decide)) rfl rfl ?_
          refine v_callWi (As := [.int (S 7 1)]) (rest := [.int ((S 7 2) * 10), .ref (eA E 0 7)]) K mk_X4_45 dX4_takeNumber_72 (c_X5_codeAt hT rfl) (hT 4 (by decide)) rfl rfl rfl rfl rfl (Nat.le_of_ble_eq_true rfl) ⟨rfl, rfl⟩ ⟨Nat.le_of_ble_eq_true rfl, Nat.le_of_ble_eq_true rfl⟩ ?_
          refine v_iadd K dX4_takeNumber_75 ?_
          refine v_bipush K dX4_takeNumber_76 kb_48 ?_
          refine v_isub K dX4_takeNumber_78 ?_
          obtain ⟨S2, hS2, hf⟩ := bnd_el hf
          refine g_put K fp_X4_61 dX4_takeNumber_79 (hT 7 (by decide)) rfl 2 (Nat.le_of_ble_eq_true rfl) rfl rfl rfl hS2 ?_
          refine v_aload_n K 0 dX4_takeNumber_82 rfl rfl ?_
          refine v_dup K dX4_takeNumber_83 rfl ?_
          refine g_get K fk_X4_18 dX4_takeNumber_84 (hT 7 (by decide)) rfl rfl ?_
          refine v_iconst K dX4_takeNumber_87 ki_1 ?_
          refine v_iadd K dX4_takeNumber_88 ?_
          obtain ⟨S3, hS3, hf⟩ := bnd_el hf
          refine g_put K fp_X4_18 dX4_takeNumber_89 (hT 7 (by decide)) rfl 1 (Nat.le_of_ble_eq_true rfl) rfl rfl rfl hS3 ?_
          refine v_iinc (v := x3 + 1) (lv' := [(3, .int (x3 + 1)), (0, .ref (eA E 0 7)), (1, .int x1), (2, .int x2)]) K 3 dX4_takeNumber_92 rfl rfl (by decide) rfl ?_
          refine v_goto (tgt := 34) K dX4_takeNumber_95 (by decide) ?_
          exact v_lsub [1, 2, 3, 0] rfl (ih (x3 + 1) S3 hf)
  unfold f_X4_takeNumber at hf
  refine v_aload_n K 0 dX4_takeNumber_0 rfl rfl ?_
  refine g_get K fk_X4_18 dX4_takeNumber_1 (hT 7 (by decide)) rfl rfl ?_
  refine v_istore_n (lv' := [(1, .int (S 7 1)), (0, .ref (eA E 0 7))]) K dX4_takeNumber_4 rfl (by decide) rfl ?_
  refine v_aload_n K 1 dX4_takeNumber_5 rfl rfl ?_
  refine g_get K fk_X4_12 dX4_takeNumber_6 (hT 7 (by decide)) rfl rfl ?_
  refine v_aload_n K 1 dX4_takeNumber_9 rfl rfl ?_
  refine g_get K fk_X4_18 dX4_takeNumber_10 (hT 7 (by decide)) rfl rfl ?_
  refine v_callWi (As := [.int (S 7 1)]) (rest := []) K mk_X4_45 dX4_takeNumber_13 (c_X5_codeAt hT rfl) (hT 4 (by decide)) rfl rfl rfl rfl rfl (Nat.le_of_ble_eq_true rfl) ⟨rfl, rfl⟩ ⟨Nat.le_of_ble_eq_true rfl, Nat.le_of_ble_eq_true rfl⟩ ?_
  refine v_bipush K dX4_takeNumber_16 kb_48 ?_
  have hj4 : ∀ (w1 : Int32), w1 = (if (f_X5_codeAt S (S 7 1)) = 48 then 1 else 4 : Int32) → VV p l e (rmD 2) s m args below meth c (MQ below (CQ D A (some (.int r)) (wl E (va_up G 0 S'))) args s 0 0 A) D A 4 (0, 0) 26 [.int w1] [(0, .ref (eA E 0 7)), (1, .int (S 7 1))] (wl E (va_up G 0 S)) := by
    intro w1 ew1
    subst ew1
    refine v_istore_n (lv' := [(2, .int (if (f_X5_codeAt S (S 7 1)) = 48 then 1 else 4 : Int32)), (0, .ref (eA E 0 7)), (1, .int (S 7 1))]) K dX4_takeNumber_26 rfl (by decide) rfl ?_
    refine v_aload_n K 1 dX4_takeNumber_27 rfl rfl ?_
    refine v_iconst K dX4_takeNumber_28 ki_0 ?_
    obtain ⟨S1, hS1, hf⟩ := bnd_el hf
    refine g_put K fp_X4_61 dX4_takeNumber_29 (hT 7 (by decide)) rfl 2 (Nat.le_of_ble_eq_true rfl) rfl rfl rfl hS1 ?_
    refine v_iconst K dX4_takeNumber_32 ki_0 ?_
    refine v_istore_n (lv' := [(3, .int 0), (2, .int (if (f_X5_codeAt S (S 7 1)) = 48 then 1 else 4 : Int32)), (0, .ref (eA E 0 7)), (1, .int (S 7 1))]) K dX4_takeNumber_33 rfl (by decide) rfl ?_
    refine v_lsub [2, 3, 1, 0] rfl ?_
    refine L34 (S 7 1) (if (f_X5_codeAt S (S 7 1)) = 48 then 1 else 4 : Int32) _ ?_ 5000 0 S1 hf
    intro x3_98 S_98 hf
    refine v_aload_n K 0 dX4_takeNumber_98 rfl rfl ?_
    refine g_get K fk_X4_18 dX4_takeNumber_99 (hT 7 (by decide)) rfl rfl ?_
    refine v_iload_n K 1 dX4_takeNumber_102 rfl rfl ?_
    refine v_icmp_le (tgt := 110) K dX4_takeNumber_103 (by decide) (fun hc4 => ?_) (fun hc4 => ?_)
    · have hf := it_pos hc4 hf
      refine v_iconst K dX4_takeNumber_110 ki_0 ?_
      exact v_zret K rfl dX4_takeNumber_111 (Or.inl rfl) (ev_q hf) (ew_q hf)
    · have hf := it_neg hc4 hf
      refine v_iconst K dX4_takeNumber_106 ki_1 ?_
      refine v_goto (tgt := 111) K dX4_takeNumber_107 (by decide) ?_
      exact v_zret K rfl dX4_takeNumber_111 (Or.inr rfl) (ev_q hf) (ew_q hf)
  refine v_icmp_ne (tgt := 25) K dX4_takeNumber_18 (by decide) (fun hc1 => ?_) (fun hc1 => ?_)
  · refine v_iconst K dX4_takeNumber_25 ki_4 ?_
    exact v_lsub [1, 0] rfl (hj4 4 (if_neg hc1).symm)
  · refine v_iconst K dX4_takeNumber_21 ki_1 ?_
    refine v_goto (tgt := 26) K dX4_takeNumber_22 (by decide) ?_
    exact v_lsub [1, 0] rfl (hj4 1 (if_pos hc1).symm)
theorem bo_X4_takeNumber {S S' : St} {r : Int32} (h : f_X4_takeNumber S = some (r, S')) : r = 0 ∨ r = 1 := by
  have L : ∀ (x1 x2 : Int32) (k : Int32 → St → Option (Int32 × St)) (_ : ∀ x T, k x T = some (r, S') → r = 0 ∨ r = 1) (n : Nat) (x3 : Int32) (T : St), f_X4_takeNumber_L34 x1 x2 k n x3 T = some (r, S') → r = 0 ∨ r = 1 := by
    intro x1 x2 k hk n
    induction n with
    | zero => intro x3 T h; rw [f_X4_takeNumber_L34] at h; cases h
    | succ n ih =>
      intro x3 T h
      rw [f_X4_takeNumber_L34] at h
      split at h
      · exact hk _ _ h
      · split at h
        · exact hk _ _ h
        · exact ih _ _ h
  unfold f_X4_takeNumber at h
  exact L _ _ _ (fun x T h => by split at h <;> (cases h; simp)) _ _ _ h
set_option maxRecDepth 20000 in
theorem c_X4_takeReader {G : Gs} (hT : TopG E) {S S' : St}  {r : Int32} (hf : f_X4_takeReader S = some (r, S')) : Ctr l D E A yX4_takeReader cX4_takeReader 2 (some .boolean) (rmD 3) [.ref (eA E 0 7)] (wl E (va_up G 0 S)) (some (.int r)) (wl E (va_up G 0 S')) := by
  refine Ctr.of (own := RX4) pn_X4 rfl (Nat.le_of_ble_eq_true rfl) ?_
  intro p e s m args below meth c K
  refine v_lv (lv' := [(0, .ref (eA E 0 7))]) rfl ?_
  unfold f_X4_takeReader at hf
  refine v_aload_n K 0 dX4_takeReader_0 rfl rfl ?_
  refine v_iconst K dX4_takeReader_1 ki_0 ?_
  obtain ⟨S1, hS1, hf⟩ := bnd_el hf
  refine g_put K fp_X4_55 dX4_takeReader_2 (hT 7 (by decide)) rfl 4 (Nat.le_of_ble_eq_true rfl) rfl rfl rfl hS1 ?_
  refine v_aload_n K 0 dX4_takeReader_5 rfl rfl ?_
  refine g_get K fk_X4_52 dX4_takeReader_6 (hT 7 (by decide)) rfl rfl ?_
  refine v_iconst K dX4_takeReader_9 ki_3 ?_
  refine v_icmp_ne (tgt := 15) K dX4_takeReader_10 (by decide) (fun hc1 => ?_) (fun hc1 => ?_)
  · have hf := it_neg hc1 hf
    refine v_aload_n K 0 dX4_takeReader_15 rfl rfl ?_
    obtain ⟨y3, S2, hS2, hf⟩ := bdp_el hf
    refine v_callWi (As := []) (rest := []) K mk_X4_58 dX4_takeReader_16 (c_X4_takeNumber hT hS2) (hT 7 (by decide)) rfl rfl rfl rfl rfl (Nat.le_of_ble_eq_true rfl) ⟨rfl, rfl⟩ ⟨Nat.le_of_ble_eq_true rfl, Nat.le_of_ble_eq_true rfl⟩ ?_
    refine v_istore_n (lv' := [(1, .int y3), (0, .ref (eA E 0 7))]) K dX4_takeReader_19 rfl (by decide) rfl ?_
    refine v_aload_n K 1 dX4_takeReader_20 rfl rfl ?_
    refine v_aload_n K 1 dX4_takeReader_21 rfl rfl ?_
    refine g_get K fk_X4_61 dX4_takeReader_22 (hT 7 (by decide)) rfl rfl ?_
    obtain ⟨S4, hS4, hf⟩ := bnd_el hf
    refine g_put K fp_X4_55 dX4_takeReader_25 (hT 7 (by decide)) rfl 4 (Nat.le_of_ble_eq_true rfl) rfl rfl rfl hS4 ?_
    refine v_iload_n K 0 dX4_takeReader_28 rfl rfl ?_
    refine v_if_eq (tgt := 45) K dX4_takeReader_29 (by decide) (fun hc2 => ?_) (fun hc2 => ?_)
    · have hf := it_pos hc2 hf
      refine v_iconst K dX4_takeReader_45 ki_0 ?_
      exact v_zret K rfl dX4_takeReader_46 (Or.inl rfl) (ev_q hf) (ew_q hf)
    · have hf := it_neg hc2 hf
      refine v_aload_n K 1 dX4_takeReader_32 rfl rfl ?_
      refine v_bipush K dX4_takeReader_33 kb_58 ?_
      obtain ⟨y6, S5, hS5, hf⟩ := bnp_el hf
      refine v_callWi (As := [.int 58]) (rest := []) K mk_X4_29 dX4_takeReader_35 (c_X4_take hT hS5) (hT 7 (by decide)) rfl rfl rfl rfl rfl (Nat.le_of_ble_eq_true rfl) ⟨rfl, rfl⟩ ⟨Nat.le_of_ble_eq_true rfl, Nat.le_of_ble_eq_true rfl⟩ ?_
      refine v_if_eq (tgt := 45) K dX4_takeReader_38 (by decide) (fun hc3 => ?_) (fun hc3 => ?_)
      · have hf := it_pos hc3 hf
        refine v_iconst K dX4_takeReader_45 ki_0 ?_
        exact v_zret K rfl dX4_takeReader_46 (Or.inl rfl) (ev_q hf) (ew_q hf)
      · have hf := it_neg hc3 hf
        refine v_iconst K dX4_takeReader_41 ki_1 ?_
        refine v_goto (tgt := 46) K dX4_takeReader_42 (by decide) ?_
        exact v_zret K rfl dX4_takeReader_46 (Or.inr rfl) (ev_q hf) (ew_q hf)
  · have hf := it_pos hc1 hf
    refine v_iconst K dX4_takeReader_13 ki_1 ?_
    exact v_zret K rfl dX4_takeReader_14 (Or.inr rfl) (ev_q hf) (ew_q hf)
set_option maxRecDepth 20000 in
theorem c_X4_takeNote {G : Gs} (hT : TopG E) {S S' : St}  {r : Int32} (hf : f_X4_takeNote S = some (r, S')) : Ctr l D E A yX4_takeNote cX4_takeNote 2 (some .boolean) (rmD 3) [.ref (eA E 0 7)] (wl E (va_up G 0 S)) (some (.int r)) (wl E (va_up G 0 S')) := by
  refine Ctr.of (own := RX4) pn_X4 rfl (Nat.le_of_ble_eq_true rfl) ?_
  intro p e s m args below meth c K
  refine v_lv (lv' := [(0, .ref (eA E 0 7))]) rfl ?_
  unfold f_X4_takeNote at hf
  refine v_aload_n K 0 dX4_takeNote_0 rfl rfl ?_
  obtain ⟨y2, S1, hS1, hf⟩ := bdp_el hf
  refine v_callWi (As := []) (rest := []) K mk_X4_58 dX4_takeNote_1 (c_X4_takeNumber hT hS1) (hT 7 (by decide)) rfl rfl rfl rfl rfl (Nat.le_of_ble_eq_true rfl) ⟨rfl, rfl⟩ ⟨Nat.le_of_ble_eq_true rfl, Nat.le_of_ble_eq_true rfl⟩ ?_
  refine v_istore_n (lv' := [(1, .int y2), (0, .ref (eA E 0 7))]) K dX4_takeNote_4 rfl (by decide) rfl ?_
  refine v_aload_n K 1 dX4_takeNote_5 rfl rfl ?_
  refine v_aload_n K 1 dX4_takeNote_6 rfl rfl ?_
  refine g_get K fk_X4_61 dX4_takeNote_7 (hT 7 (by decide)) rfl rfl ?_
  obtain ⟨S3, hS3, hf⟩ := bnd_el hf
  refine g_put K fp_X4_64 dX4_takeNote_10 (hT 7 (by decide)) rfl 5 (Nat.le_of_ble_eq_true rfl) rfl rfl rfl hS3 ?_
  refine v_iload_n K 0 dX4_takeNote_13 rfl rfl ?_
  exact v_zret K rfl dX4_takeNote_14 (bo_X4_takeNumber hS1) (ev_q hf) (ew_q hf)
set_option maxRecDepth 20000 in
theorem c_X4_takeValue {G : Gs} (hT : TopG E) {S S' : St}  {r : Int32} (hf : f_X4_takeValue S = some (r, S')) : Ctr l D E A yX4_takeValue cX4_takeValue 2 (some .boolean) (rmD 3) [.ref (eA E 0 7)] (wl E (va_up G 0 S)) (some (.int r)) (wl E (va_up G 0 S')) := by
  refine Ctr.of (own := RX4) pn_X4 rfl (Nat.le_of_ble_eq_true rfl) ?_
  intro p e s m args below meth c K
  refine v_lv (lv' := [(0, .ref (eA E 0 7))]) rfl ?_
  unfold f_X4_takeValue at hf
  refine v_aload_n K 0 dX4_takeValue_0 rfl rfl ?_
  refine v_iconst K dX4_takeValue_1 ki_0 ?_
  obtain ⟨S1, hS1, hf⟩ := bnd_el hf
  refine g_put K fp_X4_67 dX4_takeValue_2 (hT 7 (by decide)) rfl 6 (Nat.le_of_ble_eq_true rfl) rfl rfl rfl hS1 ?_
  refine v_aload_n K 0 dX4_takeValue_5 rfl rfl ?_
  refine g_get K fk_X4_52 dX4_takeValue_6 (hT 7 (by decide)) rfl rfl ?_
  refine v_iconst K dX4_takeValue_9 ki_1 ?_
  refine v_icmp_eq (tgt := 15) K dX4_takeValue_10 (by decide) (fun hc1 => ?_) (fun hc1 => ?_)
  · have hf := it_pos hc1 hf
    refine v_aload_n K 0 dX4_takeValue_15 rfl rfl ?_
    refine v_bipush K dX4_takeValue_16 kb_61 ?_
    obtain ⟨y3, S2, hS2, hf⟩ := bnp_el hf
    refine v_callWi (As := [.int 61]) (rest := []) K mk_X4_29 dX4_takeValue_18 (c_X4_take hT hS2) (hT 7 (by decide)) rfl rfl rfl rfl rfl (Nat.le_of_ble_eq_true rfl) ⟨rfl, rfl⟩ ⟨Nat.le_of_ble_eq_true rfl, Nat.le_of_ble_eq_true rfl⟩ ?_
    refine jn_2 (fun (u36_0 : Int32) (S_36 : St) => (u36_0 = 0 ∨ u36_0 = 1) → VV p l e (rmD 3) s m args below meth c (MQ below (CQ D A (some (.int r)) (wl E (va_up G 0 S'))) args s 0 0 A) D A 2 (0, 0) 36 [.int u36_0] [(0, .ref (eA E 0 7))] (wl E (va_up G 0 S_36))) hf (fun u36_0 S_36 hf hb36 => ?_) (fun hj4 hf => ?_)
    · refine v_istore_n (lv' := [(1, .int u36_0), (0, .ref (eA E 0 7))]) K dX4_takeValue_36 rfl (by decide) rfl ?_
      refine v_aload_n K 1 dX4_takeValue_37 rfl rfl ?_
      refine v_aload_n K 1 dX4_takeValue_38 rfl rfl ?_
      refine g_get K fk_X4_61 dX4_takeValue_39 (hT 7 (by decide)) rfl rfl ?_
      obtain ⟨S5, hS5, hf⟩ := bnd_el hf
      refine g_put K fp_X4_67 dX4_takeValue_42 (hT 7 (by decide)) rfl 6 (Nat.le_of_ble_eq_true rfl) rfl rfl rfl hS5 ?_
      refine v_iload_n K 0 dX4_takeValue_45 rfl rfl ?_
      exact v_zret K rfl dX4_takeValue_46 hb36 (ev_q hf) (ew_q hf)
    · refine v_if_eq (tgt := 35) K dX4_takeValue_21 (by decide) (fun hc2 => ?_) (fun hc2 => ?_)
      · have hf := it_pos hc2 hf
        refine v_iconst K dX4_takeValue_35 ki_0 ?_
        exact v_lsub [0] rfl (hj4 0 S2 hf (Or.inl rfl))
      · have hf := it_neg hc2 hf
        refine v_aload_n K 0 dX4_takeValue_24 rfl rfl ?_
        obtain ⟨y7, S6, hS6, hf⟩ := bdp_el hf
        refine v_callWi (As := []) (rest := []) K mk_X4_58 dX4_takeValue_25 (c_X4_takeNumber hT hS6) (hT 7 (by decide)) rfl rfl rfl rfl rfl (Nat.le_of_ble_eq_true rfl) ⟨rfl, rfl⟩ ⟨Nat.le_of_ble_eq_true rfl, Nat.le_of_ble_eq_true rfl⟩ ?_
        refine v_if_eq (tgt := 35) K dX4_takeValue_28 (by decide) (fun hc3 => ?_) (fun hc3 => ?_)
        · have hf := it_pos hc3 hf
          refine v_iconst K dX4_takeValue_35 ki_0 ?_
          exact v_lsub [0] rfl (hj4 0 S6 hf (Or.inl rfl))
        · have hf := it_neg hc3 hf
          refine v_iconst K dX4_takeValue_31 ki_1 ?_
          refine v_goto (tgt := 36) K dX4_takeValue_32 (by decide) ?_
          exact v_lsub [0] rfl (hj4 1 S6 hf (Or.inr rfl))
  · have hf := it_neg hc1 hf
    refine v_iconst K dX4_takeValue_13 ki_1 ?_
    exact v_zret K rfl dX4_takeValue_14 (Or.inr rfl) (ev_q hf) (ew_q hf)
set_option maxRecDepth 20000 in
theorem c_X4_takeNext {G : Gs} (hT : TopG E) {S S' : St}  {r : Int32} (hf : f_X4_takeNext S = some (r, S')) : Ctr l D E A yX4_takeNext cX4_takeNext 1 (some .boolean) (rmD 4) [.ref (eA E 0 7)] (wl E (va_up G 0 S)) (some (.int r)) (wl E (va_up G 0 S')) := by
  refine Ctr.of (own := RX4) pn_X4 rfl (Nat.le_of_ble_eq_true rfl) ?_
  intro p e s m args below meth c K
  refine v_lv (lv' := [(0, .ref (eA E 0 7))]) rfl ?_
  unfold f_X4_takeNext at hf
  refine v_aload_n K 0 dX4_takeNext_0 rfl rfl ?_
  refine g_get K fk_X4_18 dX4_takeNext_1 (hT 7 (by decide)) rfl rfl ?_
  refine v_if_eq (tgt := 16) K dX4_takeNext_4 (by decide) (fun hc1 => ?_) (fun hc1 => ?_)
  · have hf := it_pos hc1 hf
    refine v_aload_n K 0 dX4_takeNext_16 rfl rfl ?_
    obtain ⟨y2, S1, hS1, hf⟩ := bnp_el hf
    refine v_callWi (As := []) (rest := []) K mk_X4_33 dX4_takeNext_17 (c_X4_takeKind hT hS1) (hT 7 (by decide)) rfl rfl rfl rfl rfl (Nat.le_of_ble_eq_true rfl) ⟨rfl, rfl⟩ ⟨Nat.le_of_ble_eq_true rfl, Nat.le_of_ble_eq_true rfl⟩ ?_
    refine v_if_eq (tgt := 48) K dX4_takeNext_20 (by decide) (fun hc2 => ?_) (fun hc2 => ?_)
    · have hf := it_pos hc2 hf
      refine v_iconst K dX4_takeNext_48 ki_0 ?_
      exact v_zret K rfl dX4_takeNext_49 (Or.inl rfl) (ev_q hf) (ew_q hf)
    · have hf := it_neg hc2 hf
      refine v_aload_n K 0 dX4_takeNext_23 rfl rfl ?_
      obtain ⟨y4, S3, hS3, hf⟩ := bdp_el hf
      refine v_callWi (As := []) (rest := []) K mk_X4_36 dX4_takeNext_24 (c_X4_takeReader hT hS3) (hT 7 (by decide)) rfl rfl rfl rfl rfl (Nat.le_of_ble_eq_true rfl) ⟨rfl, rfl⟩ ⟨Nat.le_of_ble_eq_true rfl, Nat.le_of_ble_eq_true rfl⟩ ?_
      refine v_if_eq (tgt := 48) K dX4_takeNext_27 (by decide) (fun hc3 => ?_) (fun hc3 => ?_)
      · have hf := it_pos hc3 hf
        refine v_iconst K dX4_takeNext_48 ki_0 ?_
        exact v_zret K rfl dX4_takeNext_49 (Or.inl rfl) (ev_q hf) (ew_q hf)
      · have hf := it_neg hc3 hf
        refine v_aload_n K 0 dX4_takeNext_30 rfl rfl ?_
        obtain ⟨y6, S5, hS5, hf⟩ := bdp_el hf
        refine v_callWi (As := []) (rest := []) K mk_X4_39 dX4_takeNext_31 (c_X4_takeNote hT hS5) (hT 7 (by decide)) rfl rfl rfl rfl rfl (Nat.le_of_ble_eq_true rfl) ⟨rfl, rfl⟩ ⟨Nat.le_of_ble_eq_true rfl, Nat.le_of_ble_eq_true rfl⟩ ?_
        refine v_if_eq (tgt := 48) K dX4_takeNext_34 (by decide) (fun hc4 => ?_) (fun hc4 => ?_)
        · have hf := it_pos hc4 hf
          refine v_iconst K dX4_takeNext_48 ki_0 ?_
          exact v_zret K rfl dX4_takeNext_49 (Or.inl rfl) (ev_q hf) (ew_q hf)
        · have hf := it_neg hc4 hf
          refine v_aload_n K 0 dX4_takeNext_37 rfl rfl ?_
          obtain ⟨y8, S7, hS7, hf⟩ := bdp_el hf
          refine v_callWi (As := []) (rest := []) K mk_X4_42 dX4_takeNext_38 (c_X4_takeValue hT hS7) (hT 7 (by decide)) rfl rfl rfl rfl rfl (Nat.le_of_ble_eq_true rfl) ⟨rfl, rfl⟩ ⟨Nat.le_of_ble_eq_true rfl, Nat.le_of_ble_eq_true rfl⟩ ?_
          refine v_if_eq (tgt := 48) K dX4_takeNext_41 (by decide) (fun hc5 => ?_) (fun hc5 => ?_)
          · have hf := it_pos hc5 hf
            refine v_iconst K dX4_takeNext_48 ki_0 ?_
            exact v_zret K rfl dX4_takeNext_49 (Or.inl rfl) (ev_q hf) (ew_q hf)
          · have hf := it_neg hc5 hf
            refine v_iconst K dX4_takeNext_44 ki_1 ?_
            refine v_goto (tgt := 49) K dX4_takeNext_45 (by decide) ?_
            exact v_zret K rfl dX4_takeNext_49 (Or.inr rfl) (ev_q hf) (ew_q hf)
  · have hf := it_neg hc1 hf
    refine v_aload_n K 0 dX4_takeNext_7 rfl rfl ?_
    refine v_bipush K dX4_takeNext_8 kb_59 ?_
    obtain ⟨y10, S9, hS9, hf⟩ := bnp_el hf
    refine v_callWi (As := [.int 59]) (rest := []) K mk_X4_29 dX4_takeNext_10 (c_X4_take hT hS9) (hT 7 (by decide)) rfl rfl rfl rfl rfl (Nat.le_of_ble_eq_true rfl) ⟨rfl, rfl⟩ ⟨Nat.le_of_ble_eq_true rfl, Nat.le_of_ble_eq_true rfl⟩ ?_
    refine v_if_eq (tgt := 48) K dX4_takeNext_13 (by decide) (fun hc6 => ?_) (fun hc6 => ?_)
    · have hf := it_pos hc6 hf
      refine v_iconst K dX4_takeNext_48 ki_0 ?_
      exact v_zret K rfl dX4_takeNext_49 (Or.inl rfl) (ev_q hf) (ew_q hf)
    · have hf := it_neg hc6 hf
      refine v_aload_n K 0 dX4_takeNext_16 rfl rfl ?_
      obtain ⟨y12, S11, hS11, hf⟩ := bnp_el hf
      refine v_callWi (As := []) (rest := []) K mk_X4_33 dX4_takeNext_17 (c_X4_takeKind hT hS11) (hT 7 (by decide)) rfl rfl rfl rfl rfl (Nat.le_of_ble_eq_true rfl) ⟨rfl, rfl⟩ ⟨Nat.le_of_ble_eq_true rfl, Nat.le_of_ble_eq_true rfl⟩ ?_
      refine v_if_eq (tgt := 48) K dX4_takeNext_20 (by decide) (fun hc7 => ?_) (fun hc7 => ?_)
      · have hf := it_pos hc7 hf
        refine v_iconst K dX4_takeNext_48 ki_0 ?_
        exact v_zret K rfl dX4_takeNext_49 (Or.inl rfl) (ev_q hf) (ew_q hf)
      · have hf := it_neg hc7 hf
        refine v_aload_n K 0 dX4_takeNext_23 rfl rfl ?_
        obtain ⟨y14, S13, hS13, hf⟩ := bdp_el hf
        refine v_callWi (As := []) (rest := []) K mk_X4_36 dX4_takeNext_24 (c_X4_takeReader hT hS13) (hT 7 (by decide)) rfl rfl rfl rfl rfl (Nat.le_of_ble_eq_true rfl) ⟨rfl, rfl⟩ ⟨Nat.le_of_ble_eq_true rfl, Nat.le_of_ble_eq_true rfl⟩ ?_
        refine v_if_eq (tgt := 48) K dX4_takeNext_27 (by decide) (fun hc8 => ?_) (fun hc8 => ?_)
        · have hf := it_pos hc8 hf
          refine v_iconst K dX4_takeNext_48 ki_0 ?_
          exact v_zret K rfl dX4_takeNext_49 (Or.inl rfl) (ev_q hf) (ew_q hf)
        · have hf := it_neg hc8 hf
          refine v_aload_n K 0 dX4_takeNext_30 rfl rfl ?_
          obtain ⟨y16, S15, hS15, hf⟩ := bdp_el hf
          refine v_callWi (As := []) (rest := []) K mk_X4_39 dX4_takeNext_31 (c_X4_takeNote hT hS15) (hT 7 (by decide)) rfl rfl rfl rfl rfl (Nat.le_of_ble_eq_true rfl) ⟨rfl, rfl⟩ ⟨Nat.le_of_ble_eq_true rfl, Nat.le_of_ble_eq_true rfl⟩ ?_
          refine v_if_eq (tgt := 48) K dX4_takeNext_34 (by decide) (fun hc9 => ?_) (fun hc9 => ?_)
          · have hf := it_pos hc9 hf
            refine v_iconst K dX4_takeNext_48 ki_0 ?_
            exact v_zret K rfl dX4_takeNext_49 (Or.inl rfl) (ev_q hf) (ew_q hf)
          · have hf := it_neg hc9 hf
            refine v_aload_n K 0 dX4_takeNext_37 rfl rfl ?_
            obtain ⟨y18, S17, hS17, hf⟩ := bdp_el hf
            refine v_callWi (As := []) (rest := []) K mk_X4_42 dX4_takeNext_38 (c_X4_takeValue hT hS17) (hT 7 (by decide)) rfl rfl rfl rfl rfl (Nat.le_of_ble_eq_true rfl) ⟨rfl, rfl⟩ ⟨Nat.le_of_ble_eq_true rfl, Nat.le_of_ble_eq_true rfl⟩ ?_
            refine v_if_eq (tgt := 48) K dX4_takeNext_41 (by decide) (fun hc10 => ?_) (fun hc10 => ?_)
            · have hf := it_pos hc10 hf
              refine v_iconst K dX4_takeNext_48 ki_0 ?_
              exact v_zret K rfl dX4_takeNext_49 (Or.inl rfl) (ev_q hf) (ew_q hf)
            · have hf := it_neg hc10 hf
              refine v_iconst K dX4_takeNext_44 ki_1 ?_
              refine v_goto (tgt := 49) K dX4_takeNext_45 (by decide) ?_
              exact v_zret K rfl dX4_takeNext_49 (Or.inr rfl) (ev_q hf) (ew_q hf)
set_option maxRecDepth 20000 in
theorem c_X4_findFault {G : Gs} (hT : TopG E) {S S' : St}  {r : Int32} (hf : f_X4_findFault S = some (r, S')) : Ctr l D E A yX4_findFault cX4_findFault 2 (some .int) (rmD 5) [.ref (eA E 0 7)] (wl E (va_up G 0 S)) (some (.int r)) (wl E (va_up G 0 S')) := by
  refine Ctr.of (own := RX4) pn_X4 rfl (Nat.le_of_ble_eq_true rfl) ?_
  intro p e s m args below meth c K
  refine v_lv (lv' := [(0, .ref (eA E 0 7))]) rfl ?_
  have L7 : ∀ (n : Nat) (x1 : Int32) (S : St), f_X4_findFault_L7 n x1 S = some (r, S') → VV p l e (rmD 5) s m args below meth c (MQ below (CQ D A (some (.int r)) (wl E (va_up G 0 S'))) args s 0 0 A) D A 2 (0, 0) 7 [] [(0, .ref (eA E 0 7)), (1, .int x1)] (wl E (va_up G 0 S)) := by
    intro n
    induction n with
    | zero =>
      intro x1 S hf
      rw [f_X4_findFault_L7] at hf
      cases hf
    | succ n ih =>
      intro x1 S hf
      rw [f_X4_findFault_L7] at hf
      refine v_iload_n K 1 dX4_findFault_7 rfl rfl ?_
      refine v_bipush K dX4_findFault_8 kb_80 ?_
      refine v_icmp_ge (tgt := 48) K dX4_findFault_10 (by decide) (fun hc1 => ?_) (fun hc1 => ?_)
      · have hf := it_pos hc1 hf
        refine v_bipush K dX4_findFault_48 kb_m6 ?_
        exact v_iret K rfl dX4_findFault_50 (ev_q hf) (ew_q hf)
      · have hf := it_neg hc1 hf
        refine v_aload_n K 0 dX4_findFault_13 rfl rfl ?_
        obtain ⟨y3, S2, hS2, hf⟩ := bdp_el hf
        refine v_callWi (As := []) (rest := []) K mk_X4_22 dX4_findFault_14 (c_X4_takeNext hT hS2) (hT 7 (by decide)) rfl rfl rfl rfl rfl (Nat.le_of_ble_eq_true rfl) ⟨rfl, rfl⟩ ⟨Nat.le_of_ble_eq_true rfl, Nat.le_of_ble_eq_true rfl⟩ ?_
        refine v_if_ne (tgt := 25) K dX4_findFault_17 (by decide) (fun hc2 => ?_) (fun hc2 => ?_)
        · have hf := it_neg hc2 hf
          refine v_aload_n K 0 dX4_findFault_25 rfl rfl ?_
          refine g_get K fk_X4_18 dX4_findFault_26 (hT 7 (by decide)) rfl rfl ?_
          refine v_aload_n K 0 dX4_findFault_29 rfl rfl ?_
          refine g_get K fk_X4_12 dX4_findFault_30 (hT 7 (by decide)) rfl rfl ?_
          refine g_getN K fn_X4_26 dX4_findFault_33 (hT 4 (by decide)) rfl rfl ?_
          refine v_icmp_lt (tgt := 42) K dX4_findFault_36 (by decide) (fun hc3 => ?_) (fun hc3 => ?_)
          · have hf := it_pos hc3 hf
            refine v_iinc (v := x1 + 1) (lv' := [(1, .int (x1 + 1)), (0, .ref (eA E 0 7))]) K 1 dX4_findFault_42 rfl rfl (by decide) rfl ?_
            refine v_goto (tgt := 7) K dX4_findFault_45 (by decide) ?_
            exact v_lsub [1, 0] rfl (ih (x1 + 1) S2 hf)
          · have hf := it_neg hc3 hf
            refine v_bipush K dX4_findFault_39 kb_m6 ?_
            exact v_iret K rfl dX4_findFault_41 (ev_q hf) (ew_q hf)
        · have hf := it_pos hc2 hf
          refine v_aload_n K 0 dX4_findFault_20 rfl rfl ?_
          refine g_get K fk_X4_18 dX4_findFault_21 (hT 7 (by decide)) rfl rfl ?_
          exact v_iret K rfl dX4_findFault_24 (ev_q hf) (ew_q hf)
  unfold f_X4_findFault at hf
  refine v_aload_n K 0 dX4_findFault_0 rfl rfl ?_
  refine v_iconst K dX4_findFault_1 ki_0 ?_
  obtain ⟨S1, hS1, hf⟩ := bnd_el hf
  refine g_put K fp_X4_18 dX4_findFault_2 (hT 7 (by decide)) rfl 1 (Nat.le_of_ble_eq_true rfl) rfl rfl rfl hS1 ?_
  refine v_iconst K dX4_findFault_5 ki_0 ?_
  refine v_istore_n (lv' := [(1, .int 0), (0, .ref (eA E 0 7))]) K dX4_findFault_6 rfl (by decide) rfl ?_
  refine v_lsub [1, 0] rfl ?_
  exact L7  5000 0 S1 hf
set_option maxRecDepth 20000 in
theorem c_X5_append {G : Gs} (hT : TopG E) {S S' : St}  {x1 : Int32} (hf : f_X5_append S x1 = S') : Ctr l D E A yX5_append cX5_append 2 none (rmD 1) [.ref (eA E 0 4), .int x1] (wl E (va_up G 0 S)) none (wl E (va_up G 0 S')) := by
  refine Ctr.of (own := RX5) pn_X5 rfl (Nat.le_of_ble_eq_true rfl) ?_
  intro p e s m args below meth c K
  refine v_lv (lv' := [(0, .ref (eA E 0 4)), (1, .int x1)]) rfl ?_
  unfold f_X5_append at hf
  refine v_aload_n K 0 dX5_append_0 rfl rfl ?_
  refine g_get K fk_X5_14 dX5_append_1 (hT 4 (by decide)) rfl rfl ?_
  refine v_aload_n K 0 dX5_append_4 rfl rfl ?_
  refine g_get K fk_X5_20 dX5_append_5 (hT 4 (by decide)) rfl rfl ?_
  refine v_iload_n K 1 dX5_append_8 rfl rfl ?_
  obtain ⟨S1, hS1, hf⟩ := bnd_el hf
  refine v_callWn (As := [.int (S 4 1), .int x1]) (rest := []) K mk_X5_28 dX5_append_9 (k_row_write (Nat.le_of_ble_eq_true rfl) (rt_5 hT) hS1.symm) (hT 5 (by decide)) rfl rfl rfl rfl rfl (Nat.le_of_ble_eq_true rfl) ⟨rfl, rfl⟩ ⟨Nat.le_of_ble_eq_true rfl, Nat.le_of_ble_eq_true rfl⟩ ?_
  refine v_aload_n K 0 dX5_append_12 rfl rfl ?_
  refine v_dup K dX5_append_13 rfl ?_
  refine g_get K fk_X5_20 dX5_append_14 (hT 4 (by decide)) rfl rfl ?_
  refine v_iconst K dX5_append_17 ki_1 ?_
  refine v_iadd K dX5_append_18 ?_
  obtain ⟨S2, hS2, hf⟩ := bnd_el hf
  refine g_put K fp_X5_20 dX5_append_19 (hT 4 (by decide)) rfl 1 (Nat.le_of_ble_eq_true rfl) rfl rfl rfl hS2 ?_
  exact v_vret K rfl dX5_append_22 rfl (ew_v hf)
set_option maxRecDepth 20000 in
theorem c_X7_howMany {G : Gs} {o b : Nat} (ho : o = b + 2) (hL : LibG E b) {S : St}  {r : Int32} (hf : f_X7_howMany S = some r) : Ctr l D E A yX7_howMany cX7_howMany 3 (some .int) (rmD 1) [.ref (eA E o 10)] (wl E (va_up G o S)) (some (.int r)) (wl E (va_up G o S)) := by
  subst ho
  refine Ctr.of (own := RX7) pn_X7 rfl (Nat.le_of_ble_eq_true rfl) ?_
  intro p e s m args below meth c K
  refine v_lv (lv' := [(0, .ref (eA E (b + 2) 10))]) rfl ?_
  have L4 : ∀  (S : St), ∀ (n : Nat) (x1 : Int32) (x2 : Int32), f_X7_howMany_L4 S n x1 x2 = some r → VV p l e (rmD 1) s m args below meth c (MQ below (CQ D A (some (.int r)) (wl E (va_up G (b + 2) S))) args s 0 0 A) D A 3 (0, 0) 4 [] [(0, .ref (eA E (b + 2) 10)), (1, .int x1), (2, .int x2)] (wl E (va_up G (b + 2) S)) := by
    intro S n
    induction n with
    | zero =>
      intro x1 x2 hf
      rw [f_X7_howMany_L4] at hf
      cases hf
    | succ n ih =>
      intro x1 x2 hf
      rw [f_X7_howMany_L4] at hf
      refine v_iload_n K 2 dX7_howMany_4 rfl rfl ?_
      refine v_bipush K dX7_howMany_5 kb_16 ?_
      refine v_icmp_ge (tgt := 27) K dX7_howMany_7 (by decide) (fun hc1 => ?_) (fun hc1 => ?_)
      · have hf := it_pos hc1 hf
        refine v_iload_n K 1 dX7_howMany_27 rfl rfl ?_
        exact v_iret K rfl dX7_howMany_28 (ev_o hf) rfl
      · have hf := it_neg hc1 hf
        refine v_iload_n K 1 dX7_howMany_10 rfl rfl ?_
        refine v_aload_n K 0 dX7_howMany_11 rfl rfl ?_
        refine g_get K fk_X7_14 dX7_howMany_12 (hL 10 (by decide)) rfl rfl ?_
        refine v_iload_n K 2 dX7_howMany_15 rfl rfl ?_
        refine v_callWi (As := [.int x2]) (rest := [.int x1]) K mk_X7_32 dX7_howMany_16 (k_row_at (Nat.le_of_ble_eq_true rfl) (rl_11 (o := b + 2) rfl hL) rfl) (hL 11 (by decide)) rfl rfl rfl rfl rfl (Nat.le_of_ble_eq_true rfl) ⟨rfl, rfl⟩ ⟨Nat.le_of_ble_eq_true rfl, Nat.le_of_ble_eq_true rfl⟩ ?_
        refine v_iadd K dX7_howMany_19 ?_
        refine v_istore_n (lv' := [(1, .int (x1 + (rat 16 (S 12) x2))), (0, .ref (eA E (b + 2) 10)), (2, .int x2)]) K dX7_howMany_20 rfl (by decide) rfl ?_
        refine v_iinc (v := x2 + 1) (lv' := [(2, .int (x2 + 1)), (1, .int (x1 + (rat 16 (S 12) x2))), (0, .ref (eA E (b + 2) 10))]) K 2 dX7_howMany_21 rfl rfl (by decide) rfl ?_
        refine v_goto (tgt := 4) K dX7_howMany_24 (by decide) ?_
        exact v_lsub [2, 1, 0] rfl (ih (x1 + (rat 16 (S 12) x2)) (x2 + 1) hf)
  unfold f_X7_howMany at hf
  refine v_iconst K dX7_howMany_0 ki_0 ?_
  refine v_istore_n (lv' := [(1, .int 0), (0, .ref (eA E (b + 2) 10))]) K dX7_howMany_1 rfl (by decide) rfl ?_
  refine v_iconst K dX7_howMany_2 ki_0 ?_
  refine v_istore_n (lv' := [(2, .int 0), (1, .int 0), (0, .ref (eA E (b + 2) 10))]) K dX7_howMany_3 rfl (by decide) rfl ?_
  refine v_lsub [2, 1, 0] rfl ?_
  exact L4 S 5000 0 0 hf
set_option maxRecDepth 20000 in
theorem c_X7_howManyChanged {G : Gs} {o b : Nat} (ho : o = b + 2) (hL : LibG E b) {S : St}  {r : Int32} (hf : f_X7_howManyChanged S = some r) : Ctr l D E A yX7_howManyChanged cX7_howManyChanged 5 (some .int) (rmD 2) [.ref (eA E o 10)] (wl E (va_up G o S)) (some (.int r)) (wl E (va_up G o S)) := by
  subst ho
  refine Ctr.of (own := RX7) pn_X7 rfl (Nat.le_of_ble_eq_true rfl) ?_
  intro p e s m args below meth c K
  refine v_lv (lv' := [(0, .ref (eA E (b + 2) 10))]) rfl ?_
  have L22 : ∀ (x2 : Int32) (x3 : Int32) (S : St), ∀ (k : Int32 → Int32 → Option (Int32)), (∀ (x1 : Int32) (x4 : Int32), k x1 x4 = some r → VV p l e (rmD 2) s m args below meth c (MQ below (CQ D A (some (.int r)) (wl E (va_up G (b + 2) S))) args s 0 0 A) D A 5 (0, 0) 52 [] [(0, .ref (eA E (b + 2) 10)), (1, .int x1), (2, .int x2)] (wl E (va_up G (b + 2) S))) → ∀ (n : Nat) (x1 : Int32) (x4 : Int32), f_X7_howManyChanged_L22 x2 x3 S k n x1 x4 = some r → VV p l e (rmD 2) s m args below meth c (MQ below (CQ D A (some (.int r)) (wl E (va_up G (b + 2) S))) args s 0 0 A) D A 5 (0, 0) 22 [] [(0, .ref (eA E (b + 2) 10)), (1, .int x1), (2, .int x2), (3, .int x3), (4, .int x4)] (wl E (va_up G (b + 2) S)) := by
    intro x2 x3 S k hk n
    induction n with
    | zero =>
      intro x1 x4 hf
      rw [f_X7_howManyChanged_L22] at hf
      cases hf
    | succ n ih =>
      intro x1 x4 hf
      rw [f_X7_howManyChanged_L22] at hf
      refine v_iload K 4 dX7_howManyChanged_22 rfl ?_
      refine v_iload_n K 3 dX7_howManyChanged_24 rfl rfl ?_
      refine v_icmp_ge (tgt := 52) K dX7_howManyChanged_25 (by decide) (fun hc2 => ?_) (fun hc2 => ?_)
      · have hf := it_pos hc2 hf
        exact v_lsub [0, 1, 2] rfl (hk x1 x4 hf)
      · have hf := it_neg hc2 hf
        refine v_iload_n K 1 dX7_howManyChanged_28 rfl rfl ?_
        refine v_aload_n K 0 dX7_howManyChanged_29 rfl rfl ?_
        refine v_iload_n K 2 dX7_howManyChanged_30 rfl rfl ?_
        refine v_iload K 4 dX7_howManyChanged_31 rfl ?_
        refine v_callWi (As := [.int x2, .int x4]) (rest := [.int x1]) K mk_X7_47 dX7_howManyChanged_33 (c_X7_isChangedAt (o := b + 2) rfl hL rfl) (hL 10 (by decide)) rfl rfl rfl rfl rfl (Nat.le_of_ble_eq_true rfl) ⟨rfl, rfl⟩ ⟨Nat.le_of_ble_eq_true rfl, Nat.le_of_ble_eq_true rfl⟩ ?_
        have hj1 : ∀ (w1 : Int32), w1 = (if (f_X7_isChangedAt S x2 x4) = 0 then 0 else 1 : Int32) → VV p l e (rmD 2) s m args below meth c (MQ below (CQ D A (some (.int r)) (wl E (va_up G (b + 2) S))) args s 0 0 A) D A 5 (0, 0) 44 [.int w1, .int x1] [(0, .ref (eA E (b + 2) 10)), (2, .int x2), (3, .int x3), (4, .int x4)] (wl E (va_up G (b + 2) S)) := by
          intro w1 ew1
          subst ew1
          refine v_iadd K dX7_howManyChanged_44 ?_
          refine v_istore_n (lv' := [(1, .int (x1 + (if (f_X7_isChangedAt S x2 x4) = 0 then 0 else 1 : Int32))), (0, .ref (eA E (b + 2) 10)), (2, .int x2), (3, .int x3), (4, .int x4)]) K dX7_howManyChanged_45 rfl (by decide) rfl ?_
          refine v_iinc (v := x4 + 1) (lv' := [(4, .int (x4 + 1)), (1, .int (x1 + (if (f_X7_isChangedAt S x2 x4) = 0 then 0 else 1 : Int32))), (0, .ref (eA E (b + 2) 10)), (2, .int x2), (3, .int x3)]) K 4 dX7_howManyChanged_46 rfl rfl (by decide) rfl ?_
          refine v_goto (tgt := 22) K dX7_howManyChanged_49 (by decide) ?_
          exact v_lsub [2, 1, 3, 4, 0] rfl (ih (x1 + (if (f_X7_isChangedAt S x2 x4) = 0 then 0 else 1 : Int32)) (x4 + 1) hf)
        refine v_if_eq (tgt := 43) K dX7_howManyChanged_36 (by decide) (fun hc3 => ?_) (fun hc3 => ?_)
        · refine v_iconst K dX7_howManyChanged_43 ki_0 ?_
          exact v_lsub [0, 2, 3, 4] rfl (hj1 0 (if_pos hc3).symm)
        · refine v_iconst K dX7_howManyChanged_39 ki_1 ?_
          refine v_goto (tgt := 44) K dX7_howManyChanged_40 (by decide) ?_
          exact v_lsub [0, 2, 3, 4] rfl (hj1 1 (if_neg hc3).symm)
  have L4 : ∀  (S : St), ∀ (n : Nat) (x1 : Int32) (x2 : Int32), f_X7_howManyChanged_L4 S n x1 x2 = some r → VV p l e (rmD 2) s m args below meth c (MQ below (CQ D A (some (.int r)) (wl E (va_up G (b + 2) S))) args s 0 0 A) D A 5 (0, 0) 4 [] [(0, .ref (eA E (b + 2) 10)), (1, .int x1), (2, .int x2)] (wl E (va_up G (b + 2) S)) := by
    intro S n
    induction n with
    | zero =>
      intro x1 x2 hf
      rw [f_X7_howManyChanged_L4] at hf
      cases hf
    | succ n ih =>
      intro x1 x2 hf
      rw [f_X7_howManyChanged_L4] at hf
      refine v_iload_n K 2 dX7_howManyChanged_4 rfl rfl ?_
      refine v_bipush K dX7_howManyChanged_5 kb_16 ?_
      refine v_icmp_ge (tgt := 58) K dX7_howManyChanged_7 (by decide) (fun hc1 => ?_) (fun hc1 => ?_)
      · have hf := it_pos hc1 hf
        refine v_iload_n K 1 dX7_howManyChanged_58 rfl rfl ?_
        exact v_iret K rfl dX7_howManyChanged_59 (ev_o hf) rfl
      · have hf := it_neg hc1 hf
        refine v_aload_n K 0 dX7_howManyChanged_10 rfl rfl ?_
        refine g_get K fk_X7_14 dX7_howManyChanged_11 (hL 10 (by decide)) rfl rfl ?_
        refine v_iload_n K 2 dX7_howManyChanged_14 rfl rfl ?_
        refine v_callWi (As := [.int x2]) (rest := []) K mk_X7_32 dX7_howManyChanged_15 (k_row_at (Nat.le_of_ble_eq_true rfl) (rl_11 (o := b + 2) rfl hL) rfl) (hL 11 (by decide)) rfl rfl rfl rfl rfl (Nat.le_of_ble_eq_true rfl) ⟨rfl, rfl⟩ ⟨Nat.le_of_ble_eq_true rfl, Nat.le_of_ble_eq_true rfl⟩ ?_
        refine v_istore_n (lv' := [(3, .int (rat 16 (S 12) x2)), (0, .ref (eA E (b + 2) 10)), (1, .int x1), (2, .int x2)]) K dX7_howManyChanged_18 rfl (by decide) rfl ?_
        refine v_iconst K dX7_howManyChanged_19 ki_0 ?_
        refine v_istore (lv' := [(4, .int 0), (3, .int (rat 16 (S 12) x2)), (0, .ref (eA E (b + 2) 10)), (1, .int x1), (2, .int x2)]) K dX7_howManyChanged_20 (by decide) rfl ?_
        refine v_lsub [2, 3, 4, 1, 0] rfl ?_
        refine L22 x2 (rat 16 (S 12) x2) S _ ?_ 5000 x1 0 hf
        intro x1_52 x4_52 hf
        refine v_iinc (v := x2 + 1) (lv' := [(2, .int (x2 + 1)), (0, .ref (eA E (b + 2) 10)), (1, .int x1_52)]) K 2 dX7_howManyChanged_52 rfl rfl (by decide) rfl ?_
        refine v_goto (tgt := 4) K dX7_howManyChanged_55 (by decide) ?_
        exact v_lsub [1, 2, 0] rfl (ih x1_52 (x2 + 1) hf)
  unfold f_X7_howManyChanged at hf
  refine v_iconst K dX7_howManyChanged_0 ki_0 ?_
  refine v_istore_n (lv' := [(1, .int 0), (0, .ref (eA E (b + 2) 10))]) K dX7_howManyChanged_1 rfl (by decide) rfl ?_
  refine v_iconst K dX7_howManyChanged_2 ki_0 ?_
  refine v_istore_n (lv' := [(2, .int 0), (1, .int 0), (0, .ref (eA E (b + 2) 10))]) K dX7_howManyChanged_3 rfl (by decide) rfl ?_
  refine v_lsub [2, 1, 0] rfl ?_
  exact L4 S 5000 0 0 hf
set_option maxRecDepth 20000 in
theorem c_X7_clear {G : Gs} {o b : Nat} (ho : o = b + 2) (hL : LibG E b) {S S' : St}  (hf : f_X7_clear S = S') : Ctr l D E A yX7_clear cX7_clear 1 none (rmD 2) [.ref (eA E o 10)] (wl E (va_up G o S)) none (wl E (va_up G o S')) := by
  subst ho
  refine Ctr.of (own := RX7) pn_X7 rfl (Nat.le_of_ble_eq_true rfl) ?_
  intro p e s m args below meth c K
  refine v_lv (lv' := [(0, .ref (eA E (b + 2) 10))]) rfl ?_
  unfold f_X7_clear at hf
  refine v_aload_n K 0 dX7_clear_0 rfl rfl ?_
  refine g_get K fk_X7_14 dX7_clear_1 (hL 10 (by decide)) rfl rfl ?_
  obtain ⟨S1, hS1, hf⟩ := bnd_el hf
  refine v_callWn (As := []) (rest := []) K mk_X7_50 dX7_clear_4 (k_row_clear (Nat.le_of_ble_eq_true rfl) (rl_11 (o := b + 2) rfl hL) hS1.symm) (hL 11 (by decide)) rfl rfl rfl rfl rfl (Nat.le_of_ble_eq_true rfl) ⟨rfl, rfl⟩ ⟨Nat.le_of_ble_eq_true rfl, Nat.le_of_ble_eq_true rfl⟩ ?_
  refine v_aload_n K 0 dX7_clear_7 rfl rfl ?_
  refine g_get K fk_X7_29 dX7_clear_8 (hL 10 (by decide)) rfl rfl ?_
  obtain ⟨S2, hS2, hf⟩ := bnd_el hf
  refine v_callWn (As := []) (rest := []) K mk_X7_50 dX7_clear_11 (k_row_clear (Nat.le_of_ble_eq_true rfl) (rl_19 (o := b + 2) rfl hL) hS2.symm) (hL 19 (by decide)) rfl rfl rfl rfl rfl (Nat.le_of_ble_eq_true rfl) ⟨rfl, rfl⟩ ⟨Nat.le_of_ble_eq_true rfl, Nat.le_of_ble_eq_true rfl⟩ ?_
  exact v_vret K rfl dX7_clear_14 rfl (ew_v hf)
set_option maxRecDepth 20000 in
theorem c_X8_codeAt {ws : va_W}  {x0 : Int64} {x2 : Int32} {r : Int32} (hf : f_X8_codeAt x0 x2 = r) : Ctr l D E A yX8_codeAt cX8_codeAt 3 (some .int) (rmD 0) [.long x0, .int x2] (ws) (some (.int r)) (ws) := by
  refine Ctr.of (own := RX8) pn_X8 rfl (Nat.le_of_ble_eq_true rfl) ?_
  intro p e s m args below meth c K
  refine v_lv (lv' := [(0, .long x0), (2, .int x2)]) rfl ?_
  unfold f_X8_codeAt at hf
  refine v_lload_n K 0 dX8_codeAt_0 rfl rfl ?_
  refine v_bipush K dX8_codeAt_1 kb_8 ?_
  refine v_iload_n K 1 dX8_codeAt_3 rfl rfl ?_
  refine v_imul K dX8_codeAt_4 ?_
  refine v_lushr K dX8_codeAt_5 ?_
  refine v_ldc2 K dX8_codeAt_6 klX8_260 ?_
  refine v_land K dX8_codeAt_9 ?_
  refine v_l2i K dX8_codeAt_10 ?_
  exact v_iret K rfl dX8_codeAt_11 (ev_v hf) rfl
set_option maxRecDepth 20000 in
theorem c_X8_howManyCharacters {ws : va_W}  {x0 : Int64} {r : Int32} (hf : f_X8_howManyCharacters x0 = some r) : Ctr l D E A yX8_howManyCharacters cX8_howManyCharacters 4 (some .int) (rmD 1) [.long x0] (ws) (some (.int r)) (ws) := by
  refine Ctr.of (own := RX8) pn_X8 rfl (Nat.le_of_ble_eq_true rfl) ?_
  intro p e s m args below meth c K
  refine v_lv (lv' := [(0, .long x0)]) rfl ?_
  have L2 : ∀ (x0 : Int64), ∀ (k : Int32 → Option (Int32)), (∀ (x2 : Int32), k x2 = some r → VV p l e (rmD 1) s m args below meth c (MQ below (CQ D A (some (.int r)) ws) args s 0 0 A) D A 4 (0, 0) 42 [] [(0, .long x0), (2, .int x2)] (ws)) → ∀ (n : Nat) (x2 : Int32), f_X8_howManyCharacters_L2 x0 k n x2 = some r → VV p l e (rmD 1) s m args below meth c (MQ below (CQ D A (some (.int r)) ws) args s 0 0 A) D A 4 (0, 0) 2 [] [(0, .long x0), (2, .int x2)] (ws) := by
    intro x0 k hk n
    induction n with
    | zero =>
      intro x2 hf
      rw [f_X8_howManyCharacters_L2] at hf
      cases hf
    | succ n ih =>
      intro x2 hf
      rw [f_X8_howManyCharacters_L2] at hf
      refine v_iload_n K 1 dX8_howManyCharacters_2 rfl rfl ?_
      refine v_bipush K dX8_howManyCharacters_3 kb_8 ?_
      refine v_icmp_ge (tgt := 42) K dX8_howManyCharacters_5 (by decide) (fun hc1 => ?_) (fun hc1 => ?_)
      · have hf := it_pos hc1 hf
        exact v_lsub [0, 1] rfl (hk x2 hf)
      · have hf := it_neg hc1 hf
        refine v_lload_n K 0 dX8_howManyCharacters_8 rfl rfl ?_
        refine v_iload_n K 1 dX8_howManyCharacters_9 rfl rfl ?_
        refine v_callSi (As := [.long x0, .int x2]) (rest := []) K mk_X8_231 dX8_howManyCharacters_10 (c_X8_codeAt  rfl) rfl rfl (Nat.le_of_ble_eq_true rfl) ⟨rfl, rfl⟩ ⟨Nat.le_of_ble_eq_true rfl, Nat.le_of_ble_eq_true rfl⟩ ?_
        refine v_if_eq (tgt := 42) K dX8_howManyCharacters_13 (by decide) (fun hc2 => ?_) (fun hc2 => ?_)
        · have hf := it_pos hc2 hf
          exact v_lsub [0, 1] rfl (hk x2 hf)
        · have hf := it_neg hc2 hf
          refine v_lload_n K 0 dX8_howManyCharacters_16 rfl rfl ?_
          refine v_iload_n K 1 dX8_howManyCharacters_17 rfl rfl ?_
          refine v_callSi (As := [.long x0, .int x2]) (rest := []) K mk_X8_231 dX8_howManyCharacters_18 (c_X8_codeAt  rfl) rfl rfl (Nat.le_of_ble_eq_true rfl) ⟨rfl, rfl⟩ ⟨Nat.le_of_ble_eq_true rfl, Nat.le_of_ble_eq_true rfl⟩ ?_
          refine v_istore_n (lv' := [(3, .int (f_X8_codeAt x0 x2)), (0, .long x0), (2, .int x2)]) K dX8_howManyCharacters_21 rfl (by decide) rfl ?_
          refine v_iload_n K 0 dX8_howManyCharacters_22 rfl rfl ?_
          refine v_bipush K dX8_howManyCharacters_23 kb_33 ?_
          refine v_icmp_lt (tgt := 34) K dX8_howManyCharacters_25 (by decide) (fun hc3 => ?_) (fun hc3 => ?_)
          · have hf := it_pos hc3 hf
            refine v_iconst K dX8_howManyCharacters_34 ki_0 ?_
            exact v_iret K rfl dX8_howManyCharacters_35 (ev_o hf) rfl
          · have hf := it_neg hc3 hf
            refine v_iload_n K 0 dX8_howManyCharacters_28 rfl rfl ?_
            refine v_bipush K dX8_howManyCharacters_29 kb_126 ?_
            refine v_icmp_le (tgt := 36) K dX8_howManyCharacters_31 (by decide) (fun hc4 => ?_) (fun hc4 => ?_)
            · have hf := it_pos hc4 hf
              refine v_iinc (v := x2 + 1) (lv' := [(2, .int (x2 + 1)), (3, .int (f_X8_codeAt x0 x2)), (0, .long x0)]) K 2 dX8_howManyCharacters_36 rfl rfl (by decide) rfl ?_
              refine v_goto (tgt := 2) K dX8_howManyCharacters_39 (by decide) ?_
              exact v_lsub [2, 0] rfl (ih (x2 + 1) hf)
            · have hf := it_neg hc4 hf
              refine v_iconst K dX8_howManyCharacters_34 ki_0 ?_
              exact v_iret K rfl dX8_howManyCharacters_35 (ev_o hf) rfl
  unfold f_X8_howManyCharacters at hf
  refine v_iconst K dX8_howManyCharacters_0 ki_0 ?_
  refine v_istore_n (lv' := [(2, .int 0), (0, .long x0)]) K dX8_howManyCharacters_1 rfl (by decide) rfl ?_
  refine v_lsub [1, 0] rfl ?_
  refine L2 x0 _ ?_ 5000 0 hf
  intro x2_42 hf
  refine v_iload_n K 1 dX8_howManyCharacters_42 rfl rfl ?_
  refine v_bipush K dX8_howManyCharacters_43 kb_8 ?_
  refine v_icmp_eq (tgt := 59) K dX8_howManyCharacters_45 (by decide) (fun hc5 => ?_) (fun hc5 => ?_)
  · have hf := it_pos hc5 hf
    refine v_iload_n K 1 dX8_howManyCharacters_59 rfl rfl ?_
    refine v_goto (tgt := 64) K dX8_howManyCharacters_60 (by decide) ?_
    exact v_iret K rfl dX8_howManyCharacters_64 (ev_o hf) rfl
  · have hf := it_neg hc5 hf
    refine v_lload_n K 0 dX8_howManyCharacters_48 rfl rfl ?_
    refine v_bipush K dX8_howManyCharacters_49 kb_8 ?_
    refine v_iload_n K 1 dX8_howManyCharacters_51 rfl rfl ?_
    refine v_imul K dX8_howManyCharacters_52 ?_
    refine v_lushr K dX8_howManyCharacters_53 ?_
    refine v_lconst (v := 0) K dX8_howManyCharacters_54 (by decide) ?_
    refine v_lcmp K dX8_howManyCharacters_55 ?_
    refine v_if_ne (tgt := 63) K dX8_howManyCharacters_56 (by decide) (fun hc6 => ?_) (fun hc6 => ?_)
    · have hf := it_neg hc6 hf
      refine v_iconst K dX8_howManyCharacters_63 ki_0 ?_
      exact v_iret K rfl dX8_howManyCharacters_64 (ev_o hf) rfl
    · have hf := it_pos hc6 hf
      refine v_iload_n K 1 dX8_howManyCharacters_59 rfl rfl ?_
      refine v_goto (tgt := 64) K dX8_howManyCharacters_60 (by decide) ?_
      exact v_iret K rfl dX8_howManyCharacters_64 (ev_o hf) rfl
set_option maxRecDepth 20000 in
theorem c_X8_isValueOf {ws : va_W}  {x0 : Int32} {x1 : Int32} {r : Int32} (hf : f_X8_isValueOf x0 x1 = some r) : Ctr l D E A yX8_isValueOf cX8_isValueOf 2 (some .boolean) (rmD 0) [.int x0, .int x1] (ws) (some (.int r)) (ws) := by
  refine Ctr.of (own := RX8) pn_X8 rfl (Nat.le_of_ble_eq_true rfl) ?_
  intro p e s m args below meth c K
  refine v_lv (lv' := [(0, .int x0), (1, .int x1)]) rfl ?_
  unfold f_X8_isValueOf at hf
  refine v_iload_n K 0 dX8_isValueOf_0 rfl rfl ?_
  refine v_if_lt (tgt := 42) K dX8_isValueOf_1 (by decide) (fun hc1 => ?_) (fun hc1 => ?_)
  · have hf := it_pos hc1 hf
    refine v_iconst K dX8_isValueOf_42 ki_0 ?_
    exact v_zret K rfl dX8_isValueOf_43 (Or.inl rfl) (ev_o hf) rfl
  · have hf := it_neg hc1 hf
    refine v_iload_n K 0 dX8_isValueOf_4 rfl rfl ?_
    refine v_gets_low K flX8_216 dX8_isValueOf_5 (fun t1 ht1 => ?_)
    refine v_tlen K ht1 dX8_isValueOf_8 ?_
    refine v_icmp_ge (tgt := 42) K dX8_isValueOf_9 (by decide) (fun hc2 => ?_) (fun hc2 => ?_)
    · have hf := it_pos hc2 hf
      refine v_iconst K dX8_isValueOf_42 ki_0 ?_
      exact v_zret K rfl dX8_isValueOf_43 (Or.inl rfl) (ev_o hf) rfl
    · have hf := it_neg hc2 hf
      refine v_iload_n K 0 dX8_isValueOf_12 rfl rfl ?_
      refine v_gets_high K flX8_220 dX8_isValueOf_13 (fun t2 ht2 => ?_)
      refine v_tlen K ht2 dX8_isValueOf_16 ?_
      refine v_icmp_ge (tgt := 42) K dX8_isValueOf_17 (by decide) (fun hc3 => ?_) (fun hc3 => ?_)
      · have hf := it_pos hc3 hf
        refine v_iconst K dX8_isValueOf_42 ki_0 ?_
        exact v_zret K rfl dX8_isValueOf_43 (Or.inl rfl) (ev_o hf) rfl
      · have hf := it_neg hc3 hf
        refine v_iload_n K 1 dX8_isValueOf_20 rfl rfl ?_
        refine v_gets_low K flX8_216 dX8_isValueOf_21 (fun t3 ht3 => ?_)
        refine v_iload_n K 0 dX8_isValueOf_24 rfl rfl ?_
        obtain ⟨hi25, hf⟩ := ix_el hf
        refine v_ti K ht3 dX8_isValueOf_25 hi25 ?_
        refine v_icmp_lt (tgt := 42) K dX8_isValueOf_26 (by decide) (fun hc4 => ?_) (fun hc4 => ?_)
        · have hf := it_pos hc4 hf
          refine v_iconst K dX8_isValueOf_42 ki_0 ?_
          exact v_zret K rfl dX8_isValueOf_43 (Or.inl rfl) (ev_o hf) rfl
        · have hf := it_neg hc4 hf
          refine v_iload_n K 1 dX8_isValueOf_29 rfl rfl ?_
          refine v_gets_high K flX8_220 dX8_isValueOf_30 (fun t4 ht4 => ?_)
          refine v_iload_n K 0 dX8_isValueOf_33 rfl rfl ?_
          obtain ⟨hi34, hf⟩ := ix_el hf
          refine v_ti K ht4 dX8_isValueOf_34 hi34 ?_
          refine v_icmp_gt (tgt := 42) K dX8_isValueOf_35 (by decide) (fun hc5 => ?_) (fun hc5 => ?_)
          · have hf := it_pos hc5 hf
            refine v_iconst K dX8_isValueOf_42 ki_0 ?_
            exact v_zret K rfl dX8_isValueOf_43 (Or.inl rfl) (ev_o hf) rfl
          · have hf := it_neg hc5 hf
            refine v_iconst K dX8_isValueOf_38 ki_1 ?_
            refine v_goto (tgt := 43) K dX8_isValueOf_39 (by decide) ?_
            exact v_zret K rfl dX8_isValueOf_43 (Or.inr rfl) (ev_o hf) rfl
