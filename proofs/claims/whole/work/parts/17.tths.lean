variable {l : Launch} {D : va_G} {E : En} {A : Nat → Prop}
set_option maxRecDepth 20000 in
theorem c_X0_copyFrom {b b' : Nat} (hL : LibG E b) (hL' : LibG E b')  {S S' : Gs}  (hf : f_X0_copyFrom S b b' = S') : Ctr l D E A yX0_copyFrom cX0_copyFrom 2 none (rmD 2) [.ref (eA E (b + 2) 21), .ref (eA E (b' + 2) 21)] (wl E S) none (wl E S') := by
  refine Ctr.of (own := RX0) pn_X0 rfl (Nat.le_of_ble_eq_true rfl) ?_
  intro p e s m args below meth c K
  refine v_lv (lv' := [(0, .ref (eA E (b + 2) 21)), (1, .ref (eA E (b' + 2) 21))]) rfl ?_
  unfold f_X0_copyFrom at hf
  refine v_aload_n K 0 dX0_copyFrom_0 rfl rfl ?_
  refine v_get K fk_X0_14 dX0_copyFrom_1 (hL 21 (by decide)) rfl rfl ?_
  refine v_aload_n K 1 dX0_copyFrom_4 rfl rfl ?_
  refine v_get K fk_X0_14 dX0_copyFrom_5 (hL' 21 (by decide)) rfl rfl ?_
  obtain ⟨S1, hS1, hf⟩ := bnd_el hf
  refine v_callWn (As := [.ref (eA E (b' + 2) 22)]) (rest := []) K mk_X0_41 dX0_copyFrom_8 (hS1 ▸ k_row_copy (Nat.le_of_ble_eq_true rfl) (rl_22 (o := b + 2) rfl hL) (rl_22 (o := b' + 2) rfl hL')) (hL 22 (by decide)) rfl rfl rfl rfl rfl (Nat.le_of_ble_eq_true rfl) ⟨rfl, rfl⟩ ⟨Nat.le_of_ble_eq_true rfl, Nat.le_of_ble_eq_true rfl⟩ ?_
  refine v_aload_n K 0 dX0_copyFrom_11 rfl rfl ?_
  refine v_get K fk_X0_20 dX0_copyFrom_12 (hL 21 (by decide)) rfl rfl ?_
  refine v_aload_n K 1 dX0_copyFrom_15 rfl rfl ?_
  refine v_get K fk_X0_20 dX0_copyFrom_16 (hL' 21 (by decide)) rfl rfl ?_
  obtain ⟨S2, hS2, hf⟩ := bnd_el hf
  refine v_callWn (As := [.ref (eA E (b' + 2) 24)]) (rest := []) K mk_X0_41 dX0_copyFrom_19 (hS2 ▸ k_row_copy (Nat.le_of_ble_eq_true rfl) (rl_24 (o := b + 2) rfl hL) (rl_24 (o := b' + 2) rfl hL')) (hL 24 (by decide)) rfl rfl rfl rfl rfl (Nat.le_of_ble_eq_true rfl) ⟨rfl, rfl⟩ ⟨Nat.le_of_ble_eq_true rfl, Nat.le_of_ble_eq_true rfl⟩ ?_
  refine v_aload_n K 0 dX0_copyFrom_22 rfl rfl ?_
  refine v_get K fk_X0_23 dX0_copyFrom_23 (hL 21 (by decide)) rfl rfl ?_
  refine v_aload_n K 1 dX0_copyFrom_26 rfl rfl ?_
  refine v_get K fk_X0_23 dX0_copyFrom_27 (hL' 21 (by decide)) rfl rfl ?_
  obtain ⟨S3, hS3, hf⟩ := bnd_el hf
  refine v_callWn (As := [.ref (eA E (b' + 2) 26)]) (rest := []) K mk_X0_41 dX0_copyFrom_30 (hS3 ▸ k_row_copy (Nat.le_of_ble_eq_true rfl) (rl_26 (o := b + 2) rfl hL) (rl_26 (o := b' + 2) rfl hL')) (hL 26 (by decide)) rfl rfl rfl rfl rfl (Nat.le_of_ble_eq_true rfl) ⟨rfl, rfl⟩ ⟨Nat.le_of_ble_eq_true rfl, Nat.le_of_ble_eq_true rfl⟩ ?_
  refine v_aload_n K 0 dX0_copyFrom_33 rfl rfl ?_
  refine v_aload_n K 1 dX0_copyFrom_34 rfl rfl ?_
  refine v_get K fk_X0_26 dX0_copyFrom_35 (hL' 21 (by decide)) rfl rfl ?_
  obtain ⟨S4, hS4, hf⟩ := bnd_el hf
  refine v_put K (upd (S3 (b + 2) 21) 3 (S3 (b' + 2) 21 3)) fp_X0_26 dX0_copyFrom_38 (hL 21 (by decide)) rfl (Nat.le_of_ble_eq_true rfl) rfl rfl rfl ?_
  rw [show va_up S3 (b + 2) (va_up (S3 (b + 2)) 21 (upd (S3 (b + 2) 21) 3 (S3 (b' + 2) 21 3))) = S4 from hS4.symm]
  refine v_aload_n K 0 dX0_copyFrom_41 rfl rfl ?_
  refine v_aload_n K 1 dX0_copyFrom_42 rfl rfl ?_
  refine v_get K fk_X0_30 dX0_copyFrom_43 (hL' 21 (by decide)) rfl rfl ?_
  obtain ⟨S5, hS5, hf⟩ := bnd_el hf
  refine v_put K (upd (S4 (b + 2) 21) 4 (S4 (b' + 2) 21 4)) fp_X0_30 dX0_copyFrom_46 (hL 21 (by decide)) rfl (Nat.le_of_ble_eq_true rfl) rfl rfl rfl ?_
  rw [show va_up S4 (b + 2) (va_up (S4 (b + 2)) 21 (upd (S4 (b + 2) 21) 4 (S4 (b' + 2) 21 4))) = S5 from hS5.symm]
  exact v_vret K rfl dX0_copyFrom_49 rfl (eg_v hf)
set_option maxRecDepth 20000 in
theorem c_X1_copyFrom {b b' : Nat} (hL : LibG E b) (hL' : LibG E b')  {S S' : Gs}  (hf : f_X1_copyFrom S b b' = S') : Ctr l D E A yX1_copyFrom cX1_copyFrom 2 none (rmD 2) [.ref (eA E (b + 2) 5), .ref (eA E (b' + 2) 5)] (wl E S) none (wl E S') := by
  refine Ctr.of (own := RX1) pn_X1 rfl (Nat.le_of_ble_eq_true rfl) ?_
  intro p e s m args below meth c K
  refine v_lv (lv' := [(0, .ref (eA E (b + 2) 5)), (1, .ref (eA E (b' + 2) 5))]) rfl ?_
  unfold f_X1_copyFrom at hf
  refine v_aload_n K 0 dX1_copyFrom_0 rfl rfl ?_
  refine v_get K fk_X1_14 dX1_copyFrom_1 (hL 5 (by decide)) rfl rfl ?_
  refine v_aload_n K 1 dX1_copyFrom_4 rfl rfl ?_
  refine v_get K fk_X1_14 dX1_copyFrom_5 (hL' 5 (by decide)) rfl rfl ?_
  obtain ⟨S1, hS1, hf⟩ := bnd_el hf
  refine v_callWn (As := [.ref (eA E (b' + 2) 6)]) (rest := []) K mk_X1_57 dX1_copyFrom_8 (hS1 ▸ k_row_copy (Nat.le_of_ble_eq_true rfl) (rl_6 (o := b + 2) rfl hL) (rl_6 (o := b' + 2) rfl hL')) (hL 6 (by decide)) rfl rfl rfl rfl rfl (Nat.le_of_ble_eq_true rfl) ⟨rfl, rfl⟩ ⟨Nat.le_of_ble_eq_true rfl, Nat.le_of_ble_eq_true rfl⟩ ?_
  refine v_aload_n K 0 dX1_copyFrom_11 rfl rfl ?_
  refine v_get K fk_X1_20 dX1_copyFrom_12 (hL 5 (by decide)) rfl rfl ?_
  refine v_aload_n K 1 dX1_copyFrom_15 rfl rfl ?_
  refine v_get K fk_X1_20 dX1_copyFrom_16 (hL' 5 (by decide)) rfl rfl ?_
  obtain ⟨S2, hS2, hf⟩ := bnd_el hf
  refine v_callWn (As := [.ref (eA E (b' + 2) 8)]) (rest := []) K mk_X1_57 dX1_copyFrom_19 (hS2 ▸ k_row_copy (Nat.le_of_ble_eq_true rfl) (rl_8 (o := b + 2) rfl hL) (rl_8 (o := b' + 2) rfl hL')) (hL 8 (by decide)) rfl rfl rfl rfl rfl (Nat.le_of_ble_eq_true rfl) ⟨rfl, rfl⟩ ⟨Nat.le_of_ble_eq_true rfl, Nat.le_of_ble_eq_true rfl⟩ ?_
  exact v_vret K rfl dX1_copyFrom_22 rfl (eg_v hf)
set_option maxRecDepth 20000 in
theorem c_X7_copyFrom {b b' : Nat} (hL : LibG E b) (hL' : LibG E b')  {S S' : Gs}  (hf : f_X7_copyFrom S b b' = S') : Ctr l D E A yX7_copyFrom cX7_copyFrom 2 none (rmD 2) [.ref (eA E (b + 2) 10), .ref (eA E (b' + 2) 10)] (wl E S) none (wl E S') := by
  refine Ctr.of (own := RX7) pn_X7 rfl (Nat.le_of_ble_eq_true rfl) ?_
  intro p e s m args below meth c K
  refine v_lv (lv' := [(0, .ref (eA E (b + 2) 10)), (1, .ref (eA E (b' + 2) 10))]) rfl ?_
  unfold f_X7_copyFrom at hf
  refine v_aload_n K 0 dX7_copyFrom_0 rfl rfl ?_
  refine v_get K fk_X7_14 dX7_copyFrom_1 (hL 10 (by decide)) rfl rfl ?_
  refine v_aload_n K 1 dX7_copyFrom_4 rfl rfl ?_
  refine v_get K fk_X7_14 dX7_copyFrom_5 (hL' 10 (by decide)) rfl rfl ?_
  obtain ⟨S1, hS1, hf⟩ := bnd_el hf
  refine v_callWn (As := [.ref (eA E (b' + 2) 11)]) (rest := []) K mk_X7_53 dX7_copyFrom_8 (hS1 ▸ k_row_copy (Nat.le_of_ble_eq_true rfl) (rl_11 (o := b + 2) rfl hL) (rl_11 (o := b' + 2) rfl hL')) (hL 11 (by decide)) rfl rfl rfl rfl rfl (Nat.le_of_ble_eq_true rfl) ⟨rfl, rfl⟩ ⟨Nat.le_of_ble_eq_true rfl, Nat.le_of_ble_eq_true rfl⟩ ?_
  refine v_aload_n K 0 dX7_copyFrom_11 rfl rfl ?_
  refine v_get K fk_X7_20 dX7_copyFrom_12 (hL 10 (by decide)) rfl rfl ?_
  refine v_aload_n K 1 dX7_copyFrom_15 rfl rfl ?_
  refine v_get K fk_X7_20 dX7_copyFrom_16 (hL' 10 (by decide)) rfl rfl ?_
  obtain ⟨S2, hS2, hf⟩ := bnd_el hf
  refine v_callWn (As := [.ref (eA E (b' + 2) 13)]) (rest := []) K mk_X7_53 dX7_copyFrom_19 (hS2 ▸ k_row_copy (Nat.le_of_ble_eq_true rfl) (rl_13 (o := b + 2) rfl hL) (rl_13 (o := b' + 2) rfl hL')) (hL 13 (by decide)) rfl rfl rfl rfl rfl (Nat.le_of_ble_eq_true rfl) ⟨rfl, rfl⟩ ⟨Nat.le_of_ble_eq_true rfl, Nat.le_of_ble_eq_true rfl⟩ ?_
  refine v_aload_n K 0 dX7_copyFrom_22 rfl rfl ?_
  refine v_get K fk_X7_23 dX7_copyFrom_23 (hL 10 (by decide)) rfl rfl ?_
  refine v_aload_n K 1 dX7_copyFrom_26 rfl rfl ?_
  refine v_get K fk_X7_23 dX7_copyFrom_27 (hL' 10 (by decide)) rfl rfl ?_
  obtain ⟨S3, hS3, hf⟩ := bnd_el hf
  refine v_callWn (As := [.ref (eA E (b' + 2) 15)]) (rest := []) K mk_X7_53 dX7_copyFrom_30 (hS3 ▸ k_row_copy (Nat.le_of_ble_eq_true rfl) (rl_15 (o := b + 2) rfl hL) (rl_15 (o := b' + 2) rfl hL')) (hL 15 (by decide)) rfl rfl rfl rfl rfl (Nat.le_of_ble_eq_true rfl) ⟨rfl, rfl⟩ ⟨Nat.le_of_ble_eq_true rfl, Nat.le_of_ble_eq_true rfl⟩ ?_
  refine v_aload_n K 0 dX7_copyFrom_33 rfl rfl ?_
  refine v_get K fk_X7_26 dX7_copyFrom_34 (hL 10 (by decide)) rfl rfl ?_
  refine v_aload_n K 1 dX7_copyFrom_37 rfl rfl ?_
  refine v_get K fk_X7_26 dX7_copyFrom_38 (hL' 10 (by decide)) rfl rfl ?_
  obtain ⟨S4, hS4, hf⟩ := bnd_el hf
  refine v_callWn (As := [.ref (eA E (b' + 2) 17)]) (rest := []) K mk_X7_53 dX7_copyFrom_41 (hS4 ▸ k_row_copy (Nat.le_of_ble_eq_true rfl) (rl_17 (o := b + 2) rfl hL) (rl_17 (o := b' + 2) rfl hL')) (hL 17 (by decide)) rfl rfl rfl rfl rfl (Nat.le_of_ble_eq_true rfl) ⟨rfl, rfl⟩ ⟨Nat.le_of_ble_eq_true rfl, Nat.le_of_ble_eq_true rfl⟩ ?_
  refine v_aload_n K 0 dX7_copyFrom_44 rfl rfl ?_
  refine v_get K fk_X7_29 dX7_copyFrom_45 (hL 10 (by decide)) rfl rfl ?_
  refine v_aload_n K 1 dX7_copyFrom_48 rfl rfl ?_
  refine v_get K fk_X7_29 dX7_copyFrom_49 (hL' 10 (by decide)) rfl rfl ?_
  obtain ⟨S5, hS5, hf⟩ := bnd_el hf
  refine v_callWn (As := [.ref (eA E (b' + 2) 19)]) (rest := []) K mk_X7_53 dX7_copyFrom_52 (hS5 ▸ k_row_copy (Nat.le_of_ble_eq_true rfl) (rl_19 (o := b + 2) rfl hL) (rl_19 (o := b' + 2) rfl hL')) (hL 19 (by decide)) rfl rfl rfl rfl rfl (Nat.le_of_ble_eq_true rfl) ⟨rfl, rfl⟩ ⟨Nat.le_of_ble_eq_true rfl, Nat.le_of_ble_eq_true rfl⟩ ?_
  exact v_vret K rfl dX7_copyFrom_55 rfl (eg_v hf)
set_option maxRecDepth 20000 in
theorem c_X3_copyFrom {b b' : Nat} (hL : LibG E b) (hL' : LibG E b')  {S S' : Gs}  (hf : f_X3_copyFrom S b b' = S') : Ctr l D E A yX3_copyFrom cX3_copyFrom 2 none (rmD 3) [.ref (eA E (b + 2) 0), .ref (eA E (b' + 2) 0)] (wl E S) none (wl E S') := by
  refine Ctr.of (own := RX3) pn_X3 rfl (Nat.le_of_ble_eq_true rfl) ?_
  intro p e s m args below meth c K
  refine v_lv (lv' := [(0, .ref (eA E (b + 2) 0)), (1, .ref (eA E (b' + 2) 0))]) rfl ?_
  unfold f_X3_copyFrom at hf
  refine v_aload_n K 0 dX3_copyFrom_0 rfl rfl ?_
  refine v_get K fk_X3_18 dX3_copyFrom_1 (hL 0 (by decide)) rfl rfl ?_
  refine v_aload_n K 1 dX3_copyFrom_4 rfl rfl ?_
  refine v_get K fk_X3_18 dX3_copyFrom_5 (hL' 0 (by decide)) rfl rfl ?_
  obtain ⟨S1, hS1, hf⟩ := bnd_el hf
  refine v_callWn (As := [.ref (eA E (b' + 2) 1)]) (rest := []) K mk_X3_73 dX3_copyFrom_8 (hS1 ▸ k_row_copy (Nat.le_of_ble_eq_true rfl) (rl_1 (o := b + 2) rfl hL) (rl_1 (o := b' + 2) rfl hL')) (hL 1 (by decide)) rfl rfl rfl rfl rfl (Nat.le_of_ble_eq_true rfl) ⟨rfl, rfl⟩ ⟨Nat.le_of_ble_eq_true rfl, Nat.le_of_ble_eq_true rfl⟩ ?_
  refine v_aload_n K 0 dX3_copyFrom_11 rfl rfl ?_
  refine v_get K fk_X3_24 dX3_copyFrom_12 (hL 0 (by decide)) rfl rfl ?_
  refine v_aload_n K 1 dX3_copyFrom_15 rfl rfl ?_
  refine v_get K fk_X3_24 dX3_copyFrom_16 (hL' 0 (by decide)) rfl rfl ?_
  obtain ⟨S2, hS2, hf⟩ := bnd_el hf
  refine v_callWn (As := [.ref (eA E (b' + 2) 3)]) (rest := []) K mk_X3_73 dX3_copyFrom_19 (hS2 ▸ k_row_copy (Nat.le_of_ble_eq_true rfl) (rl_3 (o := b + 2) rfl hL) (rl_3 (o := b' + 2) rfl hL')) (hL 3 (by decide)) rfl rfl rfl rfl rfl (Nat.le_of_ble_eq_true rfl) ⟨rfl, rfl⟩ ⟨Nat.le_of_ble_eq_true rfl, Nat.le_of_ble_eq_true rfl⟩ ?_
  refine v_aload_n K 0 dX3_copyFrom_22 rfl rfl ?_
  refine v_get K fk_X3_30 dX3_copyFrom_23 (hL 0 (by decide)) rfl rfl ?_
  refine v_aload_n K 1 dX3_copyFrom_26 rfl rfl ?_
  refine v_get K fk_X3_30 dX3_copyFrom_27 (hL' 0 (by decide)) rfl rfl ?_
  obtain ⟨S3, hS3, hf⟩ := bnd_el hf
  refine v_callWn (As := [.ref (eA E (b' + 2) 5)]) (rest := []) K mk_X3_77 dX3_copyFrom_30 (c_X1_copyFrom hL hL' hS3.symm) (hL 5 (by decide)) rfl rfl rfl rfl rfl (Nat.le_of_ble_eq_true rfl) ⟨rfl, rfl⟩ ⟨Nat.le_of_ble_eq_true rfl, Nat.le_of_ble_eq_true rfl⟩ ?_
  refine v_aload_n K 0 dX3_copyFrom_33 rfl rfl ?_
  refine v_get K fk_X3_37 dX3_copyFrom_34 (hL 0 (by decide)) rfl rfl ?_
  refine v_aload_n K 1 dX3_copyFrom_37 rfl rfl ?_
  refine v_get K fk_X3_37 dX3_copyFrom_38 (hL' 0 (by decide)) rfl rfl ?_
  obtain ⟨S4, hS4, hf⟩ := bnd_el hf
  refine v_callWn (As := [.ref (eA E (b' + 2) 10)]) (rest := []) K mk_X3_80 dX3_copyFrom_41 (c_X7_copyFrom hL hL' hS4.symm) (hL 10 (by decide)) rfl rfl rfl rfl rfl (Nat.le_of_ble_eq_true rfl) ⟨rfl, rfl⟩ ⟨Nat.le_of_ble_eq_true rfl, Nat.le_of_ble_eq_true rfl⟩ ?_
  refine v_aload_n K 0 dX3_copyFrom_44 rfl rfl ?_
  refine v_get K fk_X3_44 dX3_copyFrom_45 (hL 0 (by decide)) rfl rfl ?_
  refine v_aload_n K 1 dX3_copyFrom_48 rfl rfl ?_
  refine v_get K fk_X3_44 dX3_copyFrom_49 (hL' 0 (by decide)) rfl rfl ?_
  obtain ⟨S5, hS5, hf⟩ := bnd_el hf
  refine v_callWn (As := [.ref (eA E (b' + 2) 21)]) (rest := []) K mk_X3_83 dX3_copyFrom_52 (c_X0_copyFrom hL hL' hS5.symm) (hL 21 (by decide)) rfl rfl rfl rfl rfl (Nat.le_of_ble_eq_true rfl) ⟨rfl, rfl⟩ ⟨Nat.le_of_ble_eq_true rfl, Nat.le_of_ble_eq_true rfl⟩ ?_
  refine v_aload_n K 0 dX3_copyFrom_55 rfl rfl ?_
  refine v_get K fk_X3_48 dX3_copyFrom_56 (hL 0 (by decide)) rfl rfl ?_
  refine v_aload_n K 1 dX3_copyFrom_59 rfl rfl ?_
  refine v_get K fk_X3_48 dX3_copyFrom_60 (hL' 0 (by decide)) rfl rfl ?_
  obtain ⟨S6, hS6, hf⟩ := bnd_el hf
  refine v_callWn (As := [.ref (eA E (b' + 2) 28)]) (rest := []) K mk_X3_73 dX3_copyFrom_63 (hS6 ▸ k_row_copy (Nat.le_of_ble_eq_true rfl) (rl_28 (o := b + 2) rfl hL) (rl_28 (o := b' + 2) rfl hL')) (hL 28 (by decide)) rfl rfl rfl rfl rfl (Nat.le_of_ble_eq_true rfl) ⟨rfl, rfl⟩ ⟨Nat.le_of_ble_eq_true rfl, Nat.le_of_ble_eq_true rfl⟩ ?_
  refine v_aload_n K 0 dX3_copyFrom_66 rfl rfl ?_
  refine v_get K fk_X3_51 dX3_copyFrom_67 (hL 0 (by decide)) rfl rfl ?_
  refine v_aload_n K 1 dX3_copyFrom_70 rfl rfl ?_
  refine v_get K fk_X3_51 dX3_copyFrom_71 (hL' 0 (by decide)) rfl rfl ?_
  obtain ⟨S7, hS7, hf⟩ := bnd_el hf
  refine v_callWn (As := [.ref (eA E (b' + 2) 30)]) (rest := []) K mk_X3_73 dX3_copyFrom_74 (hS7 ▸ k_row_copy (Nat.le_of_ble_eq_true rfl) (rl_30 (o := b + 2) rfl hL) (rl_30 (o := b' + 2) rfl hL')) (hL 30 (by decide)) rfl rfl rfl rfl rfl (Nat.le_of_ble_eq_true rfl) ⟨rfl, rfl⟩ ⟨Nat.le_of_ble_eq_true rfl, Nat.le_of_ble_eq_true rfl⟩ ?_
  refine v_aload_n K 0 dX3_copyFrom_77 rfl rfl ?_
  refine v_get K fk_X3_54 dX3_copyFrom_78 (hL 0 (by decide)) rfl rfl ?_
  refine v_aload_n K 1 dX3_copyFrom_81 rfl rfl ?_
  refine v_get K fk_X3_54 dX3_copyFrom_82 (hL' 0 (by decide)) rfl rfl ?_
  obtain ⟨S8, hS8, hf⟩ := bnd_el hf
  refine v_callWn (As := [.ref (eA E (b' + 2) 32)]) (rest := []) K mk_X3_73 dX3_copyFrom_85 (hS8 ▸ k_row_copy (Nat.le_of_ble_eq_true rfl) (rl_32 (o := b + 2) rfl hL) (rl_32 (o := b' + 2) rfl hL')) (hL 32 (by decide)) rfl rfl rfl rfl rfl (Nat.le_of_ble_eq_true rfl) ⟨rfl, rfl⟩ ⟨Nat.le_of_ble_eq_true rfl, Nat.le_of_ble_eq_true rfl⟩ ?_
  refine v_aload_n K 0 dX3_copyFrom_88 rfl rfl ?_
  refine v_get K fk_X3_57 dX3_copyFrom_89 (hL 0 (by decide)) rfl rfl ?_
  refine v_aload_n K 1 dX3_copyFrom_92 rfl rfl ?_
  refine v_get K fk_X3_57 dX3_copyFrom_93 (hL' 0 (by decide)) rfl rfl ?_
  obtain ⟨S9, hS9, hf⟩ := bnd_el hf
  refine v_callWn (As := [.ref (eA E (b' + 2) 34)]) (rest := []) K mk_X3_73 dX3_copyFrom_96 (hS9 ▸ k_row_copy (Nat.le_of_ble_eq_true rfl) (rl_34 (o := b + 2) rfl hL) (rl_34 (o := b' + 2) rfl hL')) (hL 34 (by decide)) rfl rfl rfl rfl rfl (Nat.le_of_ble_eq_true rfl) ⟨rfl, rfl⟩ ⟨Nat.le_of_ble_eq_true rfl, Nat.le_of_ble_eq_true rfl⟩ ?_
  refine v_aload_n K 0 dX3_copyFrom_99 rfl rfl ?_
  refine v_get K fk_X3_60 dX3_copyFrom_100 (hL 0 (by decide)) rfl rfl ?_
  refine v_aload_n K 1 dX3_copyFrom_103 rfl rfl ?_
  refine v_get K fk_X3_60 dX3_copyFrom_104 (hL' 0 (by decide)) rfl rfl ?_
  obtain ⟨S10, hS10, hf⟩ := bnd_el hf
  refine v_callWn (As := [.ref (eA E (b' + 2) 36)]) (rest := []) K mk_X3_73 dX3_copyFrom_107 (hS10 ▸ k_row_copy (Nat.le_of_ble_eq_true rfl) (rl_36 (o := b + 2) rfl hL) (rl_36 (o := b' + 2) rfl hL')) (hL 36 (by decide)) rfl rfl rfl rfl rfl (Nat.le_of_ble_eq_true rfl) ⟨rfl, rfl⟩ ⟨Nat.le_of_ble_eq_true rfl, Nat.le_of_ble_eq_true rfl⟩ ?_
  refine v_aload_n K 0 dX3_copyFrom_110 rfl rfl ?_
  refine v_get K fk_X3_63 dX3_copyFrom_111 (hL 0 (by decide)) rfl rfl ?_
  refine v_aload_n K 1 dX3_copyFrom_114 rfl rfl ?_
  refine v_get K fk_X3_63 dX3_copyFrom_115 (hL' 0 (by decide)) rfl rfl ?_
  obtain ⟨S11, hS11, hf⟩ := bnd_el hf
  refine v_callWn (As := [.ref (eA E (b' + 2) 38)]) (rest := []) K mk_X3_73 dX3_copyFrom_118 (hS11 ▸ k_row_copy (Nat.le_of_ble_eq_true rfl) (rl_38 (o := b + 2) rfl hL) (rl_38 (o := b' + 2) rfl hL')) (hL 38 (by decide)) rfl rfl rfl rfl rfl (Nat.le_of_ble_eq_true rfl) ⟨rfl, rfl⟩ ⟨Nat.le_of_ble_eq_true rfl, Nat.le_of_ble_eq_true rfl⟩ ?_
  refine v_aload_n K 0 dX3_copyFrom_121 rfl rfl ?_
  refine v_get K fk_X3_66 dX3_copyFrom_122 (hL 0 (by decide)) rfl rfl ?_
  refine v_aload_n K 1 dX3_copyFrom_125 rfl rfl ?_
  refine v_get K fk_X3_66 dX3_copyFrom_126 (hL' 0 (by decide)) rfl rfl ?_
  obtain ⟨S12, hS12, hf⟩ := bnd_el hf
  refine v_callWn (As := [.ref (eA E (b' + 2) 40)]) (rest := []) K mk_X3_73 dX3_copyFrom_129 (hS12 ▸ k_row_copy (Nat.le_of_ble_eq_true rfl) (rl_40 (o := b + 2) rfl hL) (rl_40 (o := b' + 2) rfl hL')) (hL 40 (by decide)) rfl rfl rfl rfl rfl (Nat.le_of_ble_eq_true rfl) ⟨rfl, rfl⟩ ⟨Nat.le_of_ble_eq_true rfl, Nat.le_of_ble_eq_true rfl⟩ ?_
  exact v_vret K rfl dX3_copyFrom_132 rfl (eg_v hf)
set_option maxRecDepth 20000 in
theorem c_X3_messagesOfAccount {b b' : Nat} (hL : LibG E b) (hL' : LibG E b')  {S S' : Gs}  {x2 : Int32} {x3 : Int32} {r : Int32} (hf : f_X3_messagesOfAccount S b b' x2 x3 = some (r, S')) : Ctr l D E A yX3_messagesOfAccount cX3_messagesOfAccount 8 (some .int) (rmD 5) [.ref (eA E (b + 2) 0), .ref (eA E (b' + 2) 0), .int x2, .int x3] (wl E S) (some (.int r)) (wl E S') := by
  refine Ctr.of (own := RX3) pn_X3 rfl (Nat.le_of_ble_eq_true rfl) ?_
  intro p e s m args below meth c K
  refine v_lv (lv' := [(0, .ref (eA E (b + 2) 0)), (1, .ref (eA E (b' + 2) 0)), (2, .int x2), (3, .int x3)]) rfl ?_
  have L53 : ∀ (k : Int32 → Gs → Option (Int32 × Gs)), (∀ (x4 : Int32) (S : Gs), k x4 S = some (r, S') → VV p l e (rmD 5) s m args below meth c (MQ below (CQ D A (some (.int r)) (wl E S')) args s 0 0 A) D A 8 (0, 0) 148 [] [(0, .ref (eA E (b + 2) 0))] (wl E S)) → ∀ (n : Nat) (x4 : Int32) (S : Gs), f_X3_messagesOfAccount_L53 b b' k n x4 S = some (r, S') → VV p l e (rmD 5) s m args below meth c (MQ below (CQ D A (some (.int r)) (wl E S')) args s 0 0 A) D A 8 (0, 0) 53 [] [(0, .ref (eA E (b + 2) 0)), (1, .ref (eA E (b' + 2) 0)), (4, .int x4)] (wl E S) := by
    intro k hk n
    induction n with
    | zero =>
      intro x4 S hf
      rw [f_X3_messagesOfAccount_L53] at hf
      cases hf
    | succ n ih =>
      intro x4 S hf
      rw [f_X3_messagesOfAccount_L53] at hf
      refine v_iload K 2 dX3_messagesOfAccount_53 rfl ?_
      refine v_aload_n K 1 dX3_messagesOfAccount_55 rfl rfl ?_
      refine v_get K fk_X3_44 dX3_messagesOfAccount_56 (hL' 0 (by decide)) rfl rfl ?_
      refine v_getN K fn_X3_195 dX3_messagesOfAccount_59 (hL' 21 (by decide)) rfl rfl ?_
      refine v_icmp_ge (tgt := 148) K dX3_messagesOfAccount_62 (by decide) (fun hc1 => ?_) (fun hc1 => ?_)
      · have hf := it_pos hc1 hf
        exact v_lsub [0] rfl (hk x4 S hf)
      · have hf := it_neg hc1 hf
        refine v_aload_n K 1 dX3_messagesOfAccount_65 rfl rfl ?_
        refine v_get K fk_X3_44 dX3_messagesOfAccount_66 (hL' 0 (by decide)) rfl rfl ?_
        refine v_iload K 2 dX3_messagesOfAccount_69 rfl ?_
        refine v_callWi (As := [.int x4]) (rest := []) K mk_X3_199 dX3_messagesOfAccount_71 (Ctr.gidr (o := b' + 2) (c_X0_cellOf (o := b' + 2) rfl hL' rfl)) (hL' 21 (by decide)) rfl rfl rfl rfl rfl (Nat.le_of_ble_eq_true rfl) ⟨rfl, rfl⟩ ⟨Nat.le_of_ble_eq_true rfl, Nat.le_of_ble_eq_true rfl⟩ ?_
        refine v_istore (lv' := [(5, .int (f_X0_cellOf (S (b' + 2)) x4)), (0, .ref (eA E (b + 2) 0)), (1, .ref (eA E (b' + 2) 0)), (4, .int x4)]) K dX3_messagesOfAccount_74 (by decide) rfl ?_
        refine v_aload_n K 2 dX3_messagesOfAccount_76 rfl rfl ?_
        refine v_get K fk_X3_44 dX3_messagesOfAccount_77 (hL' 0 (by decide)) rfl rfl ?_
        refine v_getN K fn_X3_202 dX3_messagesOfAccount_80 (hL' 21 (by decide)) rfl rfl ?_
        refine v_iload K 0 dX3_messagesOfAccount_83 rfl ?_
        refine v_callWi (As := [.int (f_X0_cellOf (S (b' + 2)) x4)]) (rest := []) K mk_X3_100 dX3_messagesOfAccount_85 (Ctr.gidr (o := b' + 2) (k_row_at (Nat.le_of_ble_eq_true rfl) (rl_24 (o := b' + 2) rfl hL') rfl)) (hL' 24 (by decide)) rfl rfl rfl rfl rfl (Nat.le_of_ble_eq_true rfl) ⟨rfl, rfl⟩ ⟨Nat.le_of_ble_eq_true rfl, Nat.le_of_ble_eq_true rfl⟩ ?_
        refine v_istore (lv' := [(6, .int (rat 60 ((S (b' + 2)) 25) (f_X0_cellOf (S (b' + 2)) x4))), (5, .int (f_X0_cellOf (S (b' + 2)) x4)), (0, .ref (eA E (b + 2) 0)), (1, .ref (eA E (b' + 2) 0)), (4, .int x4)]) K dX3_messagesOfAccount_88 (by decide) rfl ?_
        refine v_aload_n K 3 dX3_messagesOfAccount_90 rfl rfl ?_
        refine v_get K fk_X3_44 dX3_messagesOfAccount_91 (hL' 0 (by decide)) rfl rfl ?_
        refine v_getN K fn_X3_205 dX3_messagesOfAccount_94 (hL' 21 (by decide)) rfl rfl ?_
        refine v_iload K 1 dX3_messagesOfAccount_97 rfl ?_
        refine v_callWi (As := [.int (f_X0_cellOf (S (b' + 2)) x4)]) (rest := []) K mk_X3_100 dX3_messagesOfAccount_99 (Ctr.gidr (o := b' + 2) (k_row_at (Nat.le_of_ble_eq_true rfl) (rl_26 (o := b' + 2) rfl hL') rfl)) (hL' 26 (by decide)) rfl rfl rfl rfl rfl (Nat.le_of_ble_eq_true rfl) ⟨rfl, rfl⟩ ⟨Nat.le_of_ble_eq_true rfl, Nat.le_of_ble_eq_true rfl⟩ ?_
        refine v_istore (lv' := [(7, .int (rat 60 ((S (b' + 2)) 27) (f_X0_cellOf (S (b' + 2)) x4))), (6, .int (rat 60 ((S (b' + 2)) 25) (f_X0_cellOf (S (b' + 2)) x4))), (5, .int (f_X0_cellOf (S (b' + 2)) x4)), (0, .ref (eA E (b + 2) 0)), (1, .ref (eA E (b' + 2) 0)), (4, .int x4)]) K dX3_messagesOfAccount_102 (by decide) rfl ?_
        refine v_aload_n K 4 dX3_messagesOfAccount_104 rfl rfl ?_
        refine v_get K fk_X3_44 dX3_messagesOfAccount_105 (hL' 0 (by decide)) rfl rfl ?_
        refine v_getN K fn_X3_208 dX3_messagesOfAccount_108 (hL' 21 (by decide)) rfl rfl ?_
        refine v_iload K 2 dX3_messagesOfAccount_111 rfl ?_
        refine v_callWi (As := [.int (f_X0_cellOf (S (b' + 2)) x4)]) (rest := []) K mk_X3_100 dX3_messagesOfAccount_113 (Ctr.gidr (o := b' + 2) (k_row_at (Nat.le_of_ble_eq_true rfl) (rl_22 (o := b' + 2) rfl hL') rfl)) (hL' 22 (by decide)) rfl rfl rfl rfl rfl (Nat.le_of_ble_eq_true rfl) ⟨rfl, rfl⟩ ⟨Nat.le_of_ble_eq_true rfl, Nat.le_of_ble_eq_true rfl⟩ ?_
        refine v_iconst K dX3_messagesOfAccount_116 ki_1 ?_
        refine jn_1 (fun (S_142 : Gs) => VV p l e (rmD 5) s m args below meth c (MQ below (CQ D A (some (.int r)) (wl E S')) args s 0 0 A) D A 8 (0, 0) 142 [] [(0, .ref (eA E (b + 2) 0)), (1, .ref (eA E (b' + 2) 0)), (4, .int x4)] (wl E S_142)) hf (fun S_142 hf => ?_) (fun hj7 hf => ?_)
        · refine v_iinc (v := x4 + 1) (lv' := [(4, .int (x4 + 1)), (0, .ref (eA E (b + 2) 0)), (1, .ref (eA E (b' + 2) 0))]) K 2 dX3_messagesOfAccount_142 rfl rfl (by decide) rfl ?_
          refine v_goto (tgt := 53) K dX3_messagesOfAccount_145 (by decide) ?_
          exact v_lsub [1, 2, 0] rfl (ih (x4 + 1) S_142 hf)
        · refine v_icmp_ne (tgt := 133) K dX3_messagesOfAccount_117 (by decide) (fun hc2 => ?_) (fun hc2 => ?_)
          · have hf := it_neg hc2 hf
            refine v_aload_n K 3 dX3_messagesOfAccount_133 rfl rfl ?_
            refine v_iload K 1 dX3_messagesOfAccount_134 rfl ?_
            refine v_iload K 0 dX3_messagesOfAccount_136 rfl ?_
            obtain ⟨y9, S8, hS8, hf⟩ := bdp_el hf
            refine v_callWi (As := [.int (rat 60 ((S (b' + 2)) 25) (f_X0_cellOf (S (b' + 2)) x4)), .int (rat 60 ((S (b' + 2)) 27) (f_X0_cellOf (S (b' + 2)) x4))]) (rest := []) K mk_X3_213 dX3_messagesOfAccount_138 (Ctr.gid (o := b + 2) (c_X3_lend (o := b + 2) rfl hL hS8)) (hL 0 (by decide)) rfl rfl rfl rfl rfl (Nat.le_of_ble_eq_true rfl) ⟨rfl, rfl⟩ ⟨Nat.le_of_ble_eq_true rfl, Nat.le_of_ble_eq_true rfl⟩ ?_
            refine v_pop K dX3_messagesOfAccount_141 rfl ?_
            exact v_lsub [3, 4, 5] rfl (hj7 (va_up S (b + 2) S8) hf)
          · have hf := it_pos hc2 hf
            refine v_aload_n K 3 dX3_messagesOfAccount_120 rfl rfl ?_
            refine v_iload K 1 dX3_messagesOfAccount_121 rfl ?_
            refine v_iload K 0 dX3_messagesOfAccount_123 rfl ?_
            refine v_iconst K dX3_messagesOfAccount_125 ki_0 ?_
            obtain ⟨y11, S10, hS10, hf⟩ := bdp_el hf
            refine v_callWi (As := [.int (rat 60 ((S (b' + 2)) 25) (f_X0_cellOf (S (b' + 2)) x4)), .int (rat 60 ((S (b' + 2)) 27) (f_X0_cellOf (S (b' + 2)) x4)), .int 0]) (rest := []) K mk_X3_209 dX3_messagesOfAccount_126 (Ctr.gid (o := b + 2) (c_X3_rewrite (o := b + 2) rfl hL hS10)) (hL 0 (by decide)) rfl rfl rfl rfl rfl (Nat.le_of_ble_eq_true rfl) ⟨rfl, rfl⟩ ⟨Nat.le_of_ble_eq_true rfl, Nat.le_of_ble_eq_true rfl⟩ ?_
            refine v_pop K dX3_messagesOfAccount_129 rfl ?_
            refine v_goto (tgt := 142) K dX3_messagesOfAccount_130 (by decide) ?_
            exact v_lsub [3, 4, 5] rfl (hj7 (va_up S (b + 2) S10) hf)
  unfold f_X3_messagesOfAccount at hf
  refine v_aload_n K 0 dX3_messagesOfAccount_0 rfl rfl ?_
  refine v_get K fk_X3_18 dX3_messagesOfAccount_1 (hL 0 (by decide)) rfl rfl ?_
  refine v_aload_n K 1 dX3_messagesOfAccount_4 rfl rfl ?_
  refine v_get K fk_X3_18 dX3_messagesOfAccount_5 (hL' 0 (by decide)) rfl rfl ?_
  obtain ⟨S1, hS1, hf⟩ := bnd_el hf
  refine v_callWn (As := [.ref (eA E (b' + 2) 1)]) (rest := []) K mk_X3_73 dX3_messagesOfAccount_8 (hS1 ▸ k_row_copy (Nat.le_of_ble_eq_true rfl) (rl_1 (o := b + 2) rfl hL) (rl_1 (o := b' + 2) rfl hL')) (hL 1 (by decide)) rfl rfl rfl rfl rfl (Nat.le_of_ble_eq_true rfl) ⟨rfl, rfl⟩ ⟨Nat.le_of_ble_eq_true rfl, Nat.le_of_ble_eq_true rfl⟩ ?_
  refine v_aload_n K 0 dX3_messagesOfAccount_11 rfl rfl ?_
  refine v_get K fk_X3_18 dX3_messagesOfAccount_12 (hL 0 (by decide)) rfl rfl ?_
  refine v_iconst K dX3_messagesOfAccount_15 ki_0 ?_
  refine v_iload_n K 2 dX3_messagesOfAccount_16 rfl rfl ?_
  obtain ⟨S2, hS2, hf⟩ := bnd_el hf
  refine v_callWn (As := [.int 0, .int x2]) (rest := []) K mk_X3_69 dX3_messagesOfAccount_17 (Ctr.gid (o := b + 2) (k_row_write (Nat.le_of_ble_eq_true rfl) (rl_1 (o := b + 2) rfl hL) hS2.symm)) (hL 1 (by decide)) rfl rfl rfl rfl rfl (Nat.le_of_ble_eq_true rfl) ⟨rfl, rfl⟩ ⟨Nat.le_of_ble_eq_true rfl, Nat.le_of_ble_eq_true rfl⟩ ?_
  refine v_aload_n K 0 dX3_messagesOfAccount_20 rfl rfl ?_
  refine v_get K fk_X3_18 dX3_messagesOfAccount_21 (hL 0 (by decide)) rfl rfl ?_
  refine v_iconst K dX3_messagesOfAccount_24 ki_1 ?_
  refine v_iload_n K 3 dX3_messagesOfAccount_25 rfl rfl ?_
  obtain ⟨S3, hS3, hf⟩ := bnd_el hf
  refine v_callWn (As := [.int 1, .int x3]) (rest := []) K mk_X3_69 dX3_messagesOfAccount_26 (Ctr.gid (o := b + 2) (k_row_write (Nat.le_of_ble_eq_true rfl) (rl_1 (o := b + 2) rfl hL) hS3.symm)) (hL 1 (by decide)) rfl rfl rfl rfl rfl (Nat.le_of_ble_eq_true rfl) ⟨rfl, rfl⟩ ⟨Nat.le_of_ble_eq_true rfl, Nat.le_of_ble_eq_true rfl⟩ ?_
  refine v_aload_n K 0 dX3_messagesOfAccount_29 rfl rfl ?_
  refine v_get K fk_X3_30 dX3_messagesOfAccount_30 (hL 0 (by decide)) rfl rfl ?_
  obtain ⟨S4, hS4, hf⟩ := bnd_el hf
  refine v_callWn (As := []) (rest := []) K mk_X3_190 dX3_messagesOfAccount_33 (Ctr.gid (o := b + 2) (c_X1_clear (o := b + 2) rfl hL hS4.symm)) (hL 5 (by decide)) rfl rfl rfl rfl rfl (Nat.le_of_ble_eq_true rfl) ⟨rfl, rfl⟩ ⟨Nat.le_of_ble_eq_true rfl, Nat.le_of_ble_eq_true rfl⟩ ?_
  refine v_aload_n K 0 dX3_messagesOfAccount_36 rfl rfl ?_
  refine v_get K fk_X3_37 dX3_messagesOfAccount_37 (hL 0 (by decide)) rfl rfl ?_
  obtain ⟨S5, hS5, hf⟩ := bnd_el hf
  refine v_callWn (As := []) (rest := []) K mk_X3_193 dX3_messagesOfAccount_40 (Ctr.gid (o := b + 2) (c_X7_clear (o := b + 2) rfl hL hS5.symm)) (hL 10 (by decide)) rfl rfl rfl rfl rfl (Nat.le_of_ble_eq_true rfl) ⟨rfl, rfl⟩ ⟨Nat.le_of_ble_eq_true rfl, Nat.le_of_ble_eq_true rfl⟩ ?_
  refine v_aload_n K 0 dX3_messagesOfAccount_43 rfl rfl ?_
  refine v_get K fk_X3_48 dX3_messagesOfAccount_44 (hL 0 (by decide)) rfl rfl ?_
  obtain ⟨S6, hS6, hf⟩ := bnd_el hf
  refine v_callWn (As := []) (rest := []) K mk_X3_194 dX3_messagesOfAccount_47 (Ctr.gid (o := b + 2) (k_row_clear (Nat.le_of_ble_eq_true rfl) (rl_28 (o := b + 2) rfl hL) hS6.symm)) (hL 28 (by decide)) rfl rfl rfl rfl rfl (Nat.le_of_ble_eq_true rfl) ⟨rfl, rfl⟩ ⟨Nat.le_of_ble_eq_true rfl, Nat.le_of_ble_eq_true rfl⟩ ?_
  refine v_iconst K dX3_messagesOfAccount_50 ki_0 ?_
  refine v_istore (lv' := [(4, .int 0), (0, .ref (eA E (b + 2) 0)), (1, .ref (eA E (b' + 2) 0)), (2, .int x2), (3, .int x3)]) K dX3_messagesOfAccount_51 (by decide) rfl ?_
  refine v_lsub [1, 2, 0] rfl ?_
  refine L53  _ ?_ 5000 0 (va_up (va_up (va_up (va_up (va_up S1 (b + 2) S2) (b + 2) S3) (b + 2) S4) (b + 2) S5) (b + 2) S6) hf
  intro x4_148 S_148 hf
  refine v_aload_n K 0 dX3_messagesOfAccount_148 rfl rfl ?_
  refine v_get K fk_X3_48 dX3_messagesOfAccount_149 (hL 0 (by decide)) rfl rfl ?_
  refine v_iconst K dX3_messagesOfAccount_152 ki_0 ?_
  refine v_callWi (As := [.int 0]) (rest := []) K mk_X3_100 dX3_messagesOfAccount_153 (Ctr.gidr (o := b + 2) (k_row_at (Nat.le_of_ble_eq_true rfl) (rl_28 (o := b + 2) rfl hL) rfl)) (hL 28 (by decide)) rfl rfl rfl rfl rfl (Nat.le_of_ble_eq_true rfl) ⟨rfl, rfl⟩ ⟨Nat.le_of_ble_eq_true rfl, Nat.le_of_ble_eq_true rfl⟩ ?_
  exact v_iret K rfl dX3_messagesOfAccount_156 (ev_q hf) (eg_q hf)
set_option maxRecDepth 20000 in
theorem c_X2_keep (hT : TopG E) (hLs : ∀ b, b < 8 → LibG E b) {S S' : Gs}  (hf : f_X2_keep S = some S') : Ctr l D E A yX2_keep cX2_keep 3 none (rmD 4) [.ref (eA E 0 1), .ref (eA E 2 0)] (wl E S) none (wl E S') := by
  refine Ctr.of (own := RX2) pn_X2 rfl (Nat.le_of_ble_eq_true rfl) ?_
  intro p e s m args below meth c K
  refine v_lv (lv' := [(0, .ref (eA E 0 1)), (1, .ref (eA E 2 0))]) rfl ?_
  unfold f_X2_keep at hf
  refine v_aload_n K 0 dX2_keep_0 rfl rfl ?_
  refine v_get K fk_X2_18 dX2_keep_1 (hT 1 (by decide)) rfl rfl ?_
  refine v_bipush K dX2_keep_4 kb_6 ?_
  refine jn_1 (fun (S_32 : Gs) => VV p l e (rmD 4) s m args below meth c (MQ below (CQ D A none (wl E S')) args s 0 0 A) D A 3 (0, 0) 32 [] [(0, .ref (eA E 0 1)), (1, .ref (eA E 2 0))] (wl E S_32)) hf (fun S_32 hf => ?_) (fun hj1 hf => ?_)
  · refine v_aload_n K 0 dX2_keep_32 rfl rfl ?_
    refine v_aload_n K 0 dX2_keep_33 rfl rfl ?_
    refine v_get K fk_X2_18 dX2_keep_34 (hT 1 (by decide)) rfl rfl ?_
    obtain ⟨j2, hj2, ej2, hf⟩ := stAt_el hf
    refine v_callWi (As := [.int (S_32 0 1 2)]) (rest := []) K mk_X2_25 dX2_keep_37 (c_X2_stateAt hT hj2 ej2) (hT 1 (by decide)) rfl rfl rfl rfl rfl (Nat.le_of_ble_eq_true rfl) ⟨rfl, rfl⟩ ⟨Nat.le_of_ble_eq_true rfl, Nat.le_of_ble_eq_true rfl⟩ ?_
    refine v_astore_n (lv' := [(2, .ref (eA E (j2 + 4) 0)), (0, .ref (eA E 0 1)), (1, .ref (eA E 2 0))]) K dX2_keep_40 rfl (by decide) rfl ?_
    refine v_aload_n K 0 dX2_keep_41 rfl rfl ?_
    refine v_ifnull K dX2_keep_42 ?_
    refine v_aload_n K 0 dX2_keep_45 rfl rfl ?_
    refine v_aload_n K 2 dX2_keep_46 rfl rfl ?_
    obtain ⟨S3, hS3, hf⟩ := bnd_el hf
    refine v_callWn (As := [.ref (eA E 2 0)]) (rest := []) K mk_X2_29 dX2_keep_47 (c_X3_copyFrom (hLs (j2 + 2) (by omega)) (hLs 0 (by decide)) hS3.symm) ((hLs (j2 + 2) (by omega)) 0 (by decide)) rfl rfl rfl rfl rfl (Nat.le_of_ble_eq_true rfl) ⟨rfl, rfl⟩ ⟨Nat.le_of_ble_eq_true rfl, Nat.le_of_ble_eq_true rfl⟩ ?_
    refine v_aload_n K 1 dX2_keep_50 rfl rfl ?_
    refine v_dup K dX2_keep_51 rfl ?_
    refine v_get K fk_X2_18 dX2_keep_52 (hT 1 (by decide)) rfl rfl ?_
    refine v_iconst K dX2_keep_55 ki_1 ?_
    refine v_iadd K dX2_keep_56 ?_
    obtain ⟨S4, hS4, hf⟩ := bnd_el hf
    refine v_put K (upd (S3 0 1) 2 ((S3 0 1 2) + 1)) fp_X2_18 dX2_keep_57 (hT 1 (by decide)) rfl (Nat.le_of_ble_eq_true rfl) rfl rfl rfl ?_
    rw [show va_up S3 0 (va_up (S3 0) 1 (upd (S3 0 1) 2 ((S3 0 1 2) + 1))) = S4 from hS4.symm]
    exact v_vret K rfl dX2_keep_60 rfl (eg_o hf)
  · refine v_icmp_lt (tgt := 32) K dX2_keep_6 (by decide) (fun hc1 => ?_) (fun hc1 => ?_)
    · have hf := it_pos hc1 hf
      exact v_lsub [0, 1] rfl (hj1 S hf)
    · have hf := it_neg hc1 hf
      refine v_aload_n K 0 dX2_keep_9 rfl rfl ?_
      refine v_aload_n K 0 dX2_keep_10 rfl rfl ?_
      refine v_get K fk_X2_22 dX2_keep_11 (hT 1 (by decide)) rfl rfl ?_
      refine v_iconst K dX2_keep_14 ki_1 ?_
      refine v_iadd K dX2_keep_15 ?_
      refine v_bipush K dX2_keep_16 kb_6 ?_
      refine v_irem K dX2_keep_18 (by decide) ?_
      obtain ⟨S5, hS5, hf⟩ := bnd_el hf
      refine v_put K (upd (S 0 1) 1 (((S 0 1 1) + 1) - ((S 0 1 1) + 1) / 6 * 6)) fp_X2_22 dX2_keep_19 (hT 1 (by decide)) rfl (Nat.le_of_ble_eq_true rfl) rfl rfl rfl ?_
      rw [show va_up S 0 (va_up (S 0) 1 (upd (S 0 1) 1 (((S 0 1 1) + 1) - ((S 0 1 1) + 1) / 6 * 6))) = S5 from hS5.symm]
      refine v_aload_n K 0 dX2_keep_22 rfl rfl ?_
      refine v_dup K dX2_keep_23 rfl ?_
      refine v_get K fk_X2_18 dX2_keep_24 (hT 1 (by decide)) rfl rfl ?_
      refine v_iconst K dX2_keep_27 ki_1 ?_
      refine v_isub K dX2_keep_28 ?_
      obtain ⟨S6, hS6, hf⟩ := bnd_el hf
      refine v_put K (upd (S5 0 1) 2 ((S5 0 1 2) - 1)) fp_X2_18 dX2_keep_29 (hT 1 (by decide)) rfl (Nat.le_of_ble_eq_true rfl) rfl rfl rfl ?_
      rw [show va_up S5 0 (va_up (S5 0) 1 (upd (S5 0 1) 2 ((S5 0 1 2) - 1))) = S6 from hS6.symm]
      exact v_lsub [0, 1] rfl (hj1 S6 hf)
set_option maxRecDepth 20000 in
theorem c_X2_takeBack (hT : TopG E) (hLs : ∀ b, b < 8 → LibG E b) {S S' : Gs}  {r : Int32} (hf : f_X2_takeBack S = some (r, S')) : Ctr l D E A yX2_takeBack cX2_takeBack 3 (some .boolean) (rmD 4) [.ref (eA E 0 1), .ref (eA E 2 0)] (wl E S) (some (.int r)) (wl E S') := by
  refine Ctr.of (own := RX2) pn_X2 rfl (Nat.le_of_ble_eq_true rfl) ?_
  intro p e s m args below meth c K
  refine v_lv (lv' := [(0, .ref (eA E 0 1)), (1, .ref (eA E 2 0))]) rfl ?_
  unfold f_X2_takeBack at hf
  refine v_aload_n K 0 dX2_takeBack_0 rfl rfl ?_
  refine v_get K fk_X2_18 dX2_takeBack_1 (hT 1 (by decide)) rfl rfl ?_
  refine v_if_le (tgt := 20) K dX2_takeBack_4 (by decide) (fun hc1 => ?_) (fun hc1 => ?_)
  · have hf := it_pos hc1 hf
    refine v_null K dX2_takeBack_20 ?_
    refine v_astoreN_n (lv' := [(2, .null), (0, .ref (eA E 0 1)), (1, .ref (eA E 2 0))]) K dX2_takeBack_21 rfl (by decide) rfl ?_
    refine v_aloadN_n K 0 dX2_takeBack_22 rfl rfl ?_
    refine v_ifnonnullN K dX2_takeBack_23 ?_
    refine v_iconst K dX2_takeBack_26 ki_0 ?_
    exact v_zret K rfl dX2_takeBack_27 (Or.inl rfl) (ev_q hf) (eg_q hf)
  · have hf := it_neg hc1 hf
    refine v_aload_n K 0 dX2_takeBack_7 rfl rfl ?_
    refine v_aload_n K 0 dX2_takeBack_8 rfl rfl ?_
    refine v_get K fk_X2_18 dX2_takeBack_9 (hT 1 (by decide)) rfl rfl ?_
    refine v_iconst K dX2_takeBack_12 ki_1 ?_
    refine v_isub K dX2_takeBack_13 ?_
    obtain ⟨j1, hj1, ej1, hf⟩ := stAt_el hf
    refine v_callWi (As := [.int ((S 0 1 2) - 1)]) (rest := []) K mk_X2_25 dX2_takeBack_14 (c_X2_stateAt hT hj1 ej1) (hT 1 (by decide)) rfl rfl rfl rfl rfl (Nat.le_of_ble_eq_true rfl) ⟨rfl, rfl⟩ ⟨Nat.le_of_ble_eq_true rfl, Nat.le_of_ble_eq_true rfl⟩ ?_
    refine v_goto (tgt := 21) K dX2_takeBack_17 (by decide) ?_
    refine v_astore_n (lv' := [(2, .ref (eA E (j1 + 4) 0)), (0, .ref (eA E 0 1)), (1, .ref (eA E 2 0))]) K dX2_takeBack_21 rfl (by decide) rfl ?_
    refine v_aload_n K 0 dX2_takeBack_22 rfl rfl ?_
    refine v_ifnonnull (tgt := 28) K dX2_takeBack_23 (by decide) ?_
    refine v_aload_n K 2 dX2_takeBack_28 rfl rfl ?_
    refine v_aload_n K 0 dX2_takeBack_29 rfl rfl ?_
    obtain ⟨S2, hS2, hf⟩ := bnd_el hf
    refine v_callWn (As := [.ref (eA E (j1 + 4) 0)]) (rest := []) K mk_X2_29 dX2_takeBack_30 (c_X3_copyFrom (hLs 0 (by decide)) (hLs (j1 + 2) (by omega)) hS2.symm) ((hLs 0 (by decide)) 0 (by decide)) rfl rfl rfl rfl rfl (Nat.le_of_ble_eq_true rfl) ⟨rfl, rfl⟩ ⟨Nat.le_of_ble_eq_true rfl, Nat.le_of_ble_eq_true rfl⟩ ?_
    refine v_aload_n K 1 dX2_takeBack_33 rfl rfl ?_
    refine v_dup K dX2_takeBack_34 rfl ?_
    refine v_get K fk_X2_18 dX2_takeBack_35 (hT 1 (by decide)) rfl rfl ?_
    refine v_iconst K dX2_takeBack_38 ki_1 ?_
    refine v_isub K dX2_takeBack_39 ?_
    obtain ⟨S3, hS3, hf⟩ := bnd_el hf
    refine v_put K (upd (S2 0 1) 2 ((S2 0 1 2) - 1)) fp_X2_18 dX2_takeBack_40 (hT 1 (by decide)) rfl (Nat.le_of_ble_eq_true rfl) rfl rfl rfl ?_
    rw [show va_up S2 0 (va_up (S2 0) 1 (upd (S2 0 1) 2 ((S2 0 1 2) - 1))) = S3 from hS3.symm]
    refine v_iconst K dX2_takeBack_43 ki_1 ?_
    exact v_zret K rfl dX2_takeBack_44 (Or.inr rfl) (ev_q hf) (eg_q hf)
set_option maxRecDepth 20000 in
theorem c_X8_set (hT : TopG E) (hLs : ∀ b, b < 8 → LibG E b) {S S' : Gs}  {x1 : Int32} {x2 : Int32} {r : Int32} (hf : f_X8_set S x1 x2 = some (r, S')) : Ctr l D E A yX8_set cX8_set 4 (some .int) (rmD 5) [.ref (eA E 0 0), .int x1, .int x2] (wl E S) (some (.int r)) (wl E S') := by
  refine Ctr.of (own := RX8) pn_X8 rfl (Nat.le_of_ble_eq_true rfl) ?_
  intro p e s m args below meth c K
  refine v_lv (lv' := [(0, .ref (eA E 0 0)), (1, .int x1), (2, .int x2)]) rfl ?_
  unfold f_X8_set at hf
  refine v_iload_n K 1 dX8_set_0 rfl rfl ?_
  refine v_iload_n K 2 dX8_set_1 rfl rfl ?_
  obtain ⟨y1, hy1, hf⟩ := bd_el hf
  refine v_callSi (As := [.int x1, .int x2]) (rest := []) K mk_X8_42 dX8_set_2 (c_X8_isValueOf  hy1) rfl rfl (Nat.le_of_ble_eq_true rfl) ⟨rfl, rfl⟩ ⟨Nat.le_of_ble_eq_true rfl, Nat.le_of_ble_eq_true rfl⟩ ?_
  refine v_if_ne (tgt := 11) K dX8_set_5 (by decide) (fun hc1 => ?_) (fun hc1 => ?_)
  · have hf := it_neg hc1 hf
    refine v_iload_n K 1 dX8_set_11 rfl rfl ?_
    refine v_if_eq (tgt := 20) K dX8_set_12 (by decide) (fun hc2 => ?_) (fun hc2 => ?_)
    · have hf := it_pos hc2 hf
      refine v_aload_n K 0 dX8_set_20 rfl rfl ?_
      refine v_get K fk_X8_10 dX8_set_21 (hT 0 (by decide)) rfl rfl ?_
      refine v_getN K fn_X8_46 dX8_set_24 ((hLs 0 (by decide)) 0 (by decide)) rfl rfl ?_
      obtain ⟨y2, hy2, hf⟩ := bd_el hf
      refine v_callWi (As := []) (rest := []) K mk_X8_50 dX8_set_27 (Ctr.gidr (o := 2) (c_X1_howManyInUse (o := 2) rfl (hLs 0 (by decide)) hy2)) ((hLs 0 (by decide)) 5 (by decide)) rfl rfl rfl rfl rfl (Nat.le_of_ble_eq_true rfl) ⟨rfl, rfl⟩ ⟨Nat.le_of_ble_eq_true rfl, Nat.le_of_ble_eq_true rfl⟩ ?_
      refine v_if_le (tgt := 36) K dX8_set_30 (by decide) (fun hc3 => ?_) (fun hc3 => ?_)
      · have hf := it_pos hc3 hf
        refine v_aload_n K 0 dX8_set_36 rfl rfl ?_
        refine v_get K fk_X8_22 dX8_set_37 (hT 0 (by decide)) rfl rfl ?_
        refine v_aload_n K 0 dX8_set_40 rfl rfl ?_
        refine v_get K fk_X8_10 dX8_set_41 (hT 0 (by decide)) rfl rfl ?_
        obtain ⟨S3, hS3, hf⟩ := bd_el hf
        refine v_callWn (As := [.ref (eA E 2 0)]) (rest := []) K mk_X8_56 dX8_set_44 (c_X2_keep hT hLs hS3) (hT 1 (by decide)) rfl rfl rfl rfl rfl (Nat.le_of_ble_eq_true rfl) ⟨rfl, rfl⟩ ⟨Nat.le_of_ble_eq_true rfl, Nat.le_of_ble_eq_true rfl⟩ ?_
        refine v_aload_n K 0 dX8_set_47 rfl rfl ?_
        refine v_get K fk_X8_10 dX8_set_48 (hT 0 (by decide)) rfl rfl ?_
        refine v_getN K fn_X8_60 dX8_set_51 ((hLs 0 (by decide)) 0 (by decide)) rfl rfl ?_
        refine v_iload_n K 1 dX8_set_54 rfl rfl ?_
        refine v_callWi (As := [.int x1]) (rest := []) K mk_X8_64 dX8_set_55 (Ctr.gidr (o := 2) (k_row_at (Nat.le_of_ble_eq_true rfl) (rl_1 (o := 2) rfl (hLs 0 (by decide))) rfl)) ((hLs 0 (by decide)) 1 (by decide)) rfl rfl rfl rfl rfl (Nat.le_of_ble_eq_true rfl) ⟨rfl, rfl⟩ ⟨Nat.le_of_ble_eq_true rfl, Nat.le_of_ble_eq_true rfl⟩ ?_
        refine v_istore_n (lv' := [(3, .int (rat 4 ((S3 2) 2) x1)), (0, .ref (eA E 0 0)), (1, .int x1), (2, .int x2)]) K dX8_set_58 rfl (by decide) rfl ?_
        refine v_aload_n K 1 dX8_set_59 rfl rfl ?_
        refine v_get K fk_X8_10 dX8_set_60 (hT 0 (by decide)) rfl rfl ?_
        refine v_getN K fn_X8_60 dX8_set_63 ((hLs 0 (by decide)) 0 (by decide)) rfl rfl ?_
        refine v_iload_n K 2 dX8_set_66 rfl rfl ?_
        refine v_iload_n K 3 dX8_set_67 rfl rfl ?_
        obtain ⟨S4, hS4, hf⟩ := bnd_el hf
        refine v_callWn (As := [.int x1, .int x2]) (rest := []) K mk_X8_70 dX8_set_68 (Ctr.gid (o := 2) (k_row_write (Nat.le_of_ble_eq_true rfl) (rl_1 (o := 2) rfl (hLs 0 (by decide))) hS4.symm)) ((hLs 0 (by decide)) 1 (by decide)) rfl rfl rfl rfl rfl (Nat.le_of_ble_eq_true rfl) ⟨rfl, rfl⟩ ⟨Nat.le_of_ble_eq_true rfl, Nat.le_of_ble_eq_true rfl⟩ ?_
        refine v_iload_n K 0 dX8_set_71 rfl rfl ?_
        exact v_iret K rfl dX8_set_72 (ev_q hf) (eg_q hf)
      · have hf := it_neg hc3 hf
        refine v_bipush K dX8_set_33 kb_m5 ?_
        exact v_iret K rfl dX8_set_35 (ev_q hf) (eg_q hf)
    · have hf := it_neg hc2 hf
      refine v_iload_n K 1 dX8_set_15 rfl rfl ?_
      refine v_iconst K dX8_set_16 ki_1 ?_
      refine v_icmp_ne (tgt := 36) K dX8_set_17 (by decide) (fun hc4 => ?_) (fun hc4 => ?_)
      · have hf := it_neg hc4 hf
        refine v_aload_n K 0 dX8_set_36 rfl rfl ?_
        refine v_get K fk_X8_22 dX8_set_37 (hT 0 (by decide)) rfl rfl ?_
        refine v_aload_n K 0 dX8_set_40 rfl rfl ?_
        refine v_get K fk_X8_10 dX8_set_41 (hT 0 (by decide)) rfl rfl ?_
        obtain ⟨S5, hS5, hf⟩ := bd_el hf
        refine v_callWn (As := [.ref (eA E 2 0)]) (rest := []) K mk_X8_56 dX8_set_44 (c_X2_keep hT hLs hS5) (hT 1 (by decide)) rfl rfl rfl rfl rfl (Nat.le_of_ble_eq_true rfl) ⟨rfl, rfl⟩ ⟨Nat.le_of_ble_eq_true rfl, Nat.le_of_ble_eq_true rfl⟩ ?_
        refine v_aload_n K 0 dX8_set_47 rfl rfl ?_
        refine v_get K fk_X8_10 dX8_set_48 (hT 0 (by decide)) rfl rfl ?_
        refine v_getN K fn_X8_60 dX8_set_51 ((hLs 0 (by decide)) 0 (by decide)) rfl rfl ?_
        refine v_iload_n K 1 dX8_set_54 rfl rfl ?_
        refine v_callWi (As := [.int x1]) (rest := []) K mk_X8_64 dX8_set_55 (Ctr.gidr (o := 2) (k_row_at (Nat.le_of_ble_eq_true rfl) (rl_1 (o := 2) rfl (hLs 0 (by decide))) rfl)) ((hLs 0 (by decide)) 1 (by decide)) rfl rfl rfl rfl rfl (Nat.le_of_ble_eq_true rfl) ⟨rfl, rfl⟩ ⟨Nat.le_of_ble_eq_true rfl, Nat.le_of_ble_eq_true rfl⟩ ?_
        refine v_istore_n (lv' := [(3, .int (rat 4 ((S5 2) 2) x1)), (0, .ref (eA E 0 0)), (1, .int x1), (2, .int x2)]) K dX8_set_58 rfl (by decide) rfl ?_
        refine v_aload_n K 1 dX8_set_59 rfl rfl ?_
        refine v_get K fk_X8_10 dX8_set_60 (hT 0 (by decide)) rfl rfl ?_
        refine v_getN K fn_X8_60 dX8_set_63 ((hLs 0 (by decide)) 0 (by decide)) rfl rfl ?_
        refine v_iload_n K 2 dX8_set_66 rfl rfl ?_
        refine v_iload_n K 3 dX8_set_67 rfl rfl ?_
        obtain ⟨S6, hS6, hf⟩ := bnd_el hf
        refine v_callWn (As := [.int x1, .int x2]) (rest := []) K mk_X8_70 dX8_set_68 (Ctr.gid (o := 2) (k_row_write (Nat.le_of_ble_eq_true rfl) (rl_1 (o := 2) rfl (hLs 0 (by decide))) hS6.symm)) ((hLs 0 (by decide)) 1 (by decide)) rfl rfl rfl rfl rfl (Nat.le_of_ble_eq_true rfl) ⟨rfl, rfl⟩ ⟨Nat.le_of_ble_eq_true rfl, Nat.le_of_ble_eq_true rfl⟩ ?_
        refine v_iload_n K 0 dX8_set_71 rfl rfl ?_
        exact v_iret K rfl dX8_set_72 (ev_q hf) (eg_q hf)
      · have hf := it_pos hc4 hf
        refine v_aload_n K 0 dX8_set_20 rfl rfl ?_
        refine v_get K fk_X8_10 dX8_set_21 (hT 0 (by decide)) rfl rfl ?_
        refine v_getN K fn_X8_46 dX8_set_24 ((hLs 0 (by decide)) 0 (by decide)) rfl rfl ?_
        obtain ⟨y7, hy7, hf⟩ := bd_el hf
        refine v_callWi (As := []) (rest := []) K mk_X8_50 dX8_set_27 (Ctr.gidr (o := 2) (c_X1_howManyInUse (o := 2) rfl (hLs 0 (by decide)) hy7)) ((hLs 0 (by decide)) 5 (by decide)) rfl rfl rfl rfl rfl (Nat.le_of_ble_eq_true rfl) ⟨rfl, rfl⟩ ⟨Nat.le_of_ble_eq_true rfl, Nat.le_of_ble_eq_true rfl⟩ ?_
        refine v_if_le (tgt := 36) K dX8_set_30 (by decide) (fun hc5 => ?_) (fun hc5 => ?_)
        · have hf := it_pos hc5 hf
          refine v_aload_n K 0 dX8_set_36 rfl rfl ?_
          refine v_get K fk_X8_22 dX8_set_37 (hT 0 (by decide)) rfl rfl ?_
          refine v_aload_n K 0 dX8_set_40 rfl rfl ?_
          refine v_get K fk_X8_10 dX8_set_41 (hT 0 (by decide)) rfl rfl ?_
          obtain ⟨S8, hS8, hf⟩ := bd_el hf
          refine v_callWn (As := [.ref (eA E 2 0)]) (rest := []) K mk_X8_56 dX8_set_44 (c_X2_keep hT hLs hS8) (hT 1 (by decide)) rfl rfl rfl rfl rfl (Nat.le_of_ble_eq_true rfl) ⟨rfl, rfl⟩ ⟨Nat.le_of_ble_eq_true rfl, Nat.le_of_ble_eq_true rfl⟩ ?_
          refine v_aload_n K 0 dX8_set_47 rfl rfl ?_
          refine v_get K fk_X8_10 dX8_set_48 (hT 0 (by decide)) rfl rfl ?_
          refine v_getN K fn_X8_60 dX8_set_51 ((hLs 0 (by decide)) 0 (by decide)) rfl rfl ?_
          refine v_iload_n K 1 dX8_set_54 rfl rfl ?_
          refine v_callWi (As := [.int x1]) (rest := []) K mk_X8_64 dX8_set_55 (Ctr.gidr (o := 2) (k_row_at (Nat.le_of_ble_eq_true rfl) (rl_1 (o := 2) rfl (hLs 0 (by decide))) rfl)) ((hLs 0 (by decide)) 1 (by decide)) rfl rfl rfl rfl rfl (Nat.le_of_ble_eq_true rfl) ⟨rfl, rfl⟩ ⟨Nat.le_of_ble_eq_true rfl, Nat.le_of_ble_eq_true rfl⟩ ?_
          refine v_istore_n (lv' := [(3, .int (rat 4 ((S8 2) 2) x1)), (0, .ref (eA E 0 0)), (1, .int x1), (2, .int x2)]) K dX8_set_58 rfl (by decide) rfl ?_
          refine v_aload_n K 1 dX8_set_59 rfl rfl ?_
          refine v_get K fk_X8_10 dX8_set_60 (hT 0 (by decide)) rfl rfl ?_
          refine v_getN K fn_X8_60 dX8_set_63 ((hLs 0 (by decide)) 0 (by decide)) rfl rfl ?_
          refine v_iload_n K 2 dX8_set_66 rfl rfl ?_
          refine v_iload_n K 3 dX8_set_67 rfl rfl ?_
          obtain ⟨S9, hS9, hf⟩ := bnd_el hf
          refine v_callWn (As := [.int x1, .int x2]) (rest := []) K mk_X8_70 dX8_set_68 (Ctr.gid (o := 2) (k_row_write (Nat.le_of_ble_eq_true rfl) (rl_1 (o := 2) rfl (hLs 0 (by decide))) hS9.symm)) ((hLs 0 (by decide)) 1 (by decide)) rfl rfl rfl rfl rfl (Nat.le_of_ble_eq_true rfl) ⟨rfl, rfl⟩ ⟨Nat.le_of_ble_eq_true rfl, Nat.le_of_ble_eq_true rfl⟩ ?_
          refine v_iload_n K 0 dX8_set_71 rfl rfl ?_
          exact v_iret K rfl dX8_set_72 (ev_q hf) (eg_q hf)
        · have hf := it_neg hc5 hf
          refine v_bipush K dX8_set_33 kb_m5 ?_
          exact v_iret K rfl dX8_set_35 (ev_q hf) (eg_q hf)
  · have hf := it_pos hc1 hf
    refine v_bipush K dX8_set_8 kb_m2 ?_
    exact v_iret K rfl dX8_set_10 (ev_q hf) (eg_q hf)
set_option maxRecDepth 20000 in
theorem c_X8_happen (hT : TopG E) (hLs : ∀ b, b < 8 → LibG E b) {S S' : Gs}  {x1 : Int32} {x2 : Int32} {x3 : Int32} {x4 : Int32} {x5 : Int32} {r : Int32} (hf : f_X8_happen S x1 x2 x3 x4 x5 = some (r, S')) : Ctr l D E A yX8_happen cX8_happen 7 (some .int) (rmD 5) [.ref (eA E 0 0), .int x1, .int x2, .int x3, .int x4, .int x5] (wl E S) (some (.int r)) (wl E S') := by
  refine Ctr.of (own := RX8) pn_X8 rfl (Nat.le_of_ble_eq_true rfl) ?_
  intro p e s m args below meth c K
  refine v_lv (lv' := [(0, .ref (eA E 0 0)), (1, .int x1), (2, .int x2), (3, .int x3), (4, .int x4), (5, .int x5)]) rfl ?_
  unfold f_X8_happen at hf
  refine v_aload_n K 0 dX8_happen_0 rfl rfl ?_
  refine v_get K fk_X8_10 dX8_happen_1 (hT 0 (by decide)) rfl rfl ?_
  refine v_iload_n K 1 dX8_happen_4 rfl rfl ?_
  refine v_iload_n K 2 dX8_happen_5 rfl rfl ?_
  refine v_iload_n K 3 dX8_happen_6 rfl rfl ?_
  refine v_iload K 4 dX8_happen_7 rfl ?_
  refine v_callWi (As := [.int x1, .int x2, .int x3, .int x4]) (rest := []) K mk_X8_78 dX8_happen_9 (Ctr.gidr (o := 2) (c_X3_errorOf (o := 2) rfl (hLs 0 (by decide)) rfl)) ((hLs 0 (by decide)) 0 (by decide)) rfl rfl rfl rfl rfl (Nat.le_of_ble_eq_true rfl) ⟨rfl, rfl⟩ ⟨Nat.le_of_ble_eq_true rfl, Nat.le_of_ble_eq_true rfl⟩ ?_
  refine v_istore (lv' := [(6, .int (f_X3_errorOf (S 2) x1 x2 x3 x4)), (0, .ref (eA E 0 0)), (1, .int x1), (2, .int x2), (3, .int x3), (4, .int x4), (5, .int x5)]) K dX8_happen_12 (by decide) rfl ?_
  refine v_iload K 0 dX8_happen_14 rfl ?_
  refine v_if_eq (tgt := 22) K dX8_happen_16 (by decide) (fun hc1 => ?_) (fun hc1 => ?_)
  · have hf := it_pos hc1 hf
    refine v_iload K 6 dX8_happen_22 rfl ?_
    refine jn_1 (fun (S_38 : Gs) => VV p l e (rmD 5) s m args below meth c (MQ below (CQ D A (some (.int r)) (wl E S')) args s 0 0 A) D A 7 (0, 0) 38 [] [(0, .ref (eA E 0 0)), (1, .int x1), (2, .int x2), (3, .int x3), (4, .int x4)] (wl E S_38)) hf (fun S_38 hf => ?_) (fun hj1 hf => ?_)
    · refine v_iload_n K 1 dX8_happen_38 rfl rfl ?_
      by_cases hw39_0 : x1 = 0
      · have hf := it_pos hw39_0 hf
        have ht39 := tsi_2 hw39_0 (by decide)
        refine v_tableIn (off := 25) (tgt := 64) K dX8_happen_39 ht39.1 ht39.2 (by rw [hw39_0]; rfl) (by decide) ?_
        refine v_aload_n K 0 dX8_happen_64 rfl rfl ?_
        refine v_get K fk_X8_10 dX8_happen_65 (hT 0 (by decide)) rfl rfl ?_
        refine v_getN K fn_X8_82 dX8_happen_68 ((hLs 0 (by decide)) 0 (by decide)) rfl rfl ?_
        refine v_iload_n K 1 dX8_happen_71 rfl rfl ?_
        refine v_iload_n K 2 dX8_happen_72 rfl rfl ?_
        refine v_iload_n K 3 dX8_happen_73 rfl rfl ?_
        obtain ⟨S2, hS2, hf⟩ := bnd_el hf
        refine v_callWn (As := [.int x1, .int x2, .int x3]) (rest := []) K mk_X8_86 dX8_happen_74 (Ctr.gid (o := 2) (c_X0_append (o := 2) rfl (hLs 0 (by decide)) hS2.symm)) ((hLs 0 (by decide)) 21 (by decide)) rfl rfl rfl rfl rfl (Nat.le_of_ble_eq_true rfl) ⟨rfl, rfl⟩ ⟨Nat.le_of_ble_eq_true rfl, Nat.le_of_ble_eq_true rfl⟩ ?_
        refine v_aload_n K 0 dX8_happen_77 rfl rfl ?_
        refine v_get K fk_X8_10 dX8_happen_78 (hT 0 (by decide)) rfl rfl ?_
        refine v_iload_n K 2 dX8_happen_81 rfl rfl ?_
        refine v_iload_n K 3 dX8_happen_82 rfl rfl ?_
        obtain ⟨y4, S3, hS3, hf⟩ := bdp_el hf
        refine v_callWi (As := [.int x2, .int x3]) (rest := []) K mk_X8_92 dX8_happen_83 (Ctr.gid (o := 2) (c_X3_lend (o := 2) rfl (hLs 0 (by decide)) hS3)) ((hLs 0 (by decide)) 0 (by decide)) rfl rfl rfl rfl rfl (Nat.le_of_ble_eq_true rfl) ⟨rfl, rfl⟩ ⟨Nat.le_of_ble_eq_true rfl, Nat.le_of_ble_eq_true rfl⟩ ?_
        exact v_iret K rfl dX8_happen_86 (ev_q hf) (eg_q hf)
      · have hf := it_neg hw39_0 hf
        by_cases hw39_1 : x1 = 1
        · have hf := it_pos hw39_1 hf
          have ht39 := tsi_2 hw39_1 (by decide)
          refine v_tableIn (off := 48) (tgt := 87) K dX8_happen_39 ht39.1 ht39.2 (by rw [hw39_1]; rfl) (by decide) ?_
          refine v_aload_n K 0 dX8_happen_87 rfl rfl ?_
          refine v_get K fk_X8_10 dX8_happen_88 (hT 0 (by decide)) rfl rfl ?_
          refine v_getN K fn_X8_82 dX8_happen_91 ((hLs 0 (by decide)) 0 (by decide)) rfl rfl ?_
          refine v_iload_n K 1 dX8_happen_94 rfl rfl ?_
          refine v_iload_n K 2 dX8_happen_95 rfl rfl ?_
          refine v_iload_n K 3 dX8_happen_96 rfl rfl ?_
          obtain ⟨S5, hS5, hf⟩ := bnd_el hf
          refine v_callWn (As := [.int x1, .int x2, .int x3]) (rest := []) K mk_X8_86 dX8_happen_97 (Ctr.gid (o := 2) (c_X0_append (o := 2) rfl (hLs 0 (by decide)) hS5.symm)) ((hLs 0 (by decide)) 21 (by decide)) rfl rfl rfl rfl rfl (Nat.le_of_ble_eq_true rfl) ⟨rfl, rfl⟩ ⟨Nat.le_of_ble_eq_true rfl, Nat.le_of_ble_eq_true rfl⟩ ?_
          refine v_aload_n K 0 dX8_happen_100 rfl rfl ?_
          refine v_get K fk_X8_10 dX8_happen_101 (hT 0 (by decide)) rfl rfl ?_
          refine v_iload_n K 2 dX8_happen_104 rfl rfl ?_
          refine v_iload_n K 3 dX8_happen_105 rfl rfl ?_
          refine v_iload K 4 dX8_happen_106 rfl ?_
          obtain ⟨y7, S6, hS6, hf⟩ := bdp_el hf
          refine v_callWi (As := [.int x2, .int x3, .int x4]) (rest := []) K mk_X8_96 dX8_happen_108 (Ctr.gid (o := 2) (c_X3_rewrite (o := 2) rfl (hLs 0 (by decide)) hS6)) ((hLs 0 (by decide)) 0 (by decide)) rfl rfl rfl rfl rfl (Nat.le_of_ble_eq_true rfl) ⟨rfl, rfl⟩ ⟨Nat.le_of_ble_eq_true rfl, Nat.le_of_ble_eq_true rfl⟩ ?_
          exact v_iret K rfl dX8_happen_111 (ev_q hf) (eg_q hf)
        · have hf := it_neg hw39_1 hf
          by_cases hw39_2 : x1 = 2
          · have hf := it_pos hw39_2 hf
            have ht39 := tsi_2 hw39_2 (by decide)
            refine v_tableIn (off := 73) (tgt := 112) K dX8_happen_39 ht39.1 ht39.2 (by rw [hw39_2]; rfl) (by decide) ?_
            refine v_aload_n K 0 dX8_happen_112 rfl rfl ?_
            refine v_get K fk_X8_10 dX8_happen_113 (hT 0 (by decide)) rfl rfl ?_
            refine v_iload_n K 2 dX8_happen_116 rfl rfl ?_
            refine v_aload_n K 0 dX8_happen_117 rfl rfl ?_
            refine v_get K fk_X8_10 dX8_happen_118 (hT 0 (by decide)) rfl rfl ?_
            refine v_getN K fn_X8_100 dX8_happen_121 ((hLs 0 (by decide)) 0 (by decide)) rfl rfl ?_
            refine v_iload_n K 2 dX8_happen_124 rfl rfl ?_
            refine v_iload_n K 3 dX8_happen_125 rfl rfl ?_
            obtain ⟨y8, hy8, hf⟩ := bd_el hf
            refine v_callWi (As := [.int x2, .int x3]) (rest := [.int x2, .ref (eA E 2 0)]) K mk_X8_104 dX8_happen_126 (Ctr.gidr (o := 2) (c_X7_placeOf (o := 2) rfl (hLs 0 (by decide)) hy8)) ((hLs 0 (by decide)) 10 (by decide)) rfl rfl rfl rfl rfl (Nat.le_of_ble_eq_true rfl) ⟨rfl, rfl⟩ ⟨Nat.le_of_ble_eq_true rfl, Nat.le_of_ble_eq_true rfl⟩ ?_
            obtain ⟨y10, S9, hS9, hf⟩ := bdp_el hf
            refine v_callWi (As := [.int x2, .int y8]) (rest := []) K mk_X8_109 dX8_happen_129 (Ctr.gid (o := 2) (c_X3_giveBack (o := 2) rfl (hLs 0 (by decide)) hS9)) ((hLs 0 (by decide)) 0 (by decide)) rfl rfl rfl rfl rfl (Nat.le_of_ble_eq_true rfl) ⟨rfl, rfl⟩ ⟨Nat.le_of_ble_eq_true rfl, Nat.le_of_ble_eq_true rfl⟩ ?_
            exact v_iret K rfl dX8_happen_132 (ev_q hf) (eg_q hf)
          · have hf := it_neg hw39_2 hf
            refine v_tableOut (tgt := 133) K dX8_happen_39 (tso_2 hw39_0 hw39_1 hw39_2) (by decide) ?_
            refine v_aload_n K 0 dX8_happen_133 rfl rfl ?_
            refine v_get K fk_X8_10 dX8_happen_134 (hT 0 (by decide)) rfl rfl ?_
            refine v_iload_n K 3 dX8_happen_137 rfl rfl ?_
            obtain ⟨y12, S11, hS11, hf⟩ := bdp_el hf
            refine v_callWi (As := [.int x3]) (rest := []) K mk_X8_112 dX8_happen_138 (Ctr.gid (o := 2) (c_X3_callIn (o := 2) rfl (hLs 0 (by decide)) hS11)) ((hLs 0 (by decide)) 0 (by decide)) rfl rfl rfl rfl rfl (Nat.le_of_ble_eq_true rfl) ⟨rfl, rfl⟩ ⟨Nat.le_of_ble_eq_true rfl, Nat.le_of_ble_eq_true rfl⟩ ?_
            exact v_iret K rfl dX8_happen_141 (ev_q hf) (eg_q hf)
    · refine v_if_eq (tgt := 38) K dX8_happen_24 (by decide) (fun hc2 => ?_) (fun hc2 => ?_)
      · have hf := it_pos hc2 hf
        exact v_lsub [1, 2, 3, 4, 5] rfl (hj1 S hf)
      · have hf := it_neg hc2 hf
        refine v_aload_n K 1 dX8_happen_27 rfl rfl ?_
        refine v_get K fk_X8_22 dX8_happen_28 (hT 0 (by decide)) rfl rfl ?_
        refine v_aload_n K 1 dX8_happen_31 rfl rfl ?_
        refine v_get K fk_X8_10 dX8_happen_32 (hT 0 (by decide)) rfl rfl ?_
        obtain ⟨S13, hS13, hf⟩ := bd_el hf
        refine v_callWn (As := [.ref (eA E 2 0)]) (rest := []) K mk_X8_56 dX8_happen_35 (c_X2_keep hT hLs hS13) (hT 1 (by decide)) rfl rfl rfl rfl rfl (Nat.le_of_ble_eq_true rfl) ⟨rfl, rfl⟩ ⟨Nat.le_of_ble_eq_true rfl, Nat.le_of_ble_eq_true rfl⟩ ?_
        exact v_lsub [1, 2, 3, 4, 5] rfl (hj1 S13 hf)
  · have hf := it_neg hc1 hf
    refine v_iload K 0 dX8_happen_19 rfl ?_
    exact v_iret K rfl dX8_happen_21 (ev_q hf) (eg_q hf)
set_option maxRecDepth 20000 in
theorem c_X8_read (hT : TopG E) (hLs : ∀ b, b < 8 → LibG E b) {S S' : Gs}  {x1 : Int32} {x2 : Int32} {r : Int32} (hf : f_X8_read S x1 x2 = some (r, S')) : Ctr l D E A yX8_read cX8_read 3 (some .int) (rmD 6) [.ref (eA E 0 0), .int x1, .int x2] (wl E S) (some (.int r)) (wl E S') := by
  refine Ctr.of (own := RX8) pn_X8 rfl (Nat.le_of_ble_eq_true rfl) ?_
  intro p e s m args below meth c K
  refine v_lv (lv' := [(0, .ref (eA E 0 0)), (1, .int x1), (2, .int x2)]) rfl ?_
  unfold f_X8_read at hf
  refine v_aload_n K 0 dX8_read_0 rfl rfl ?_
  refine v_iconst K dX8_read_1 ki_0 ?_
  refine v_iload_n K 1 dX8_read_2 rfl rfl ?_
  refine v_iload_n K 2 dX8_read_3 rfl rfl ?_
  refine v_iconst K dX8_read_4 ki_0 ?_
  refine v_iconst K dX8_read_5 ki_1 ?_
  obtain ⟨y2, S1, hS1, hf⟩ := bdp_el hf
  refine v_callWi (As := [.int 0, .int x1, .int x2, .int 0, .int 1]) (rest := []) K mk_X8_74 dX8_read_6 (c_X8_happen hT hLs hS1) (hT 0 (by decide)) rfl rfl rfl rfl rfl (Nat.le_of_ble_eq_true rfl) ⟨rfl, rfl⟩ ⟨Nat.le_of_ble_eq_true rfl, Nat.le_of_ble_eq_true rfl⟩ ?_
  exact v_iret K rfl dX8_read_9 (ev_q hf) (eg_q hf)
set_option maxRecDepth 20000 in
theorem c_X8_change (hT : TopG E) (hLs : ∀ b, b < 8 → LibG E b) {S S' : Gs}  {x1 : Int32} {x2 : Int32} {x3 : Int32} {r : Int32} (hf : f_X8_change S x1 x2 x3 = some (r, S')) : Ctr l D E A yX8_change cX8_change 4 (some .int) (rmD 6) [.ref (eA E 0 0), .int x1, .int x2, .int x3] (wl E S) (some (.int r)) (wl E S') := by
  refine Ctr.of (own := RX8) pn_X8 rfl (Nat.le_of_ble_eq_true rfl) ?_
  intro p e s m args below meth c K
  refine v_lv (lv' := [(0, .ref (eA E 0 0)), (1, .int x1), (2, .int x2), (3, .int x3)]) rfl ?_
  unfold f_X8_change at hf
  refine v_aload_n K 0 dX8_change_0 rfl rfl ?_
  refine v_iconst K dX8_change_1 ki_1 ?_
  refine v_iload_n K 1 dX8_change_2 rfl rfl ?_
  refine v_iload_n K 2 dX8_change_3 rfl rfl ?_
  refine v_iload_n K 3 dX8_change_4 rfl rfl ?_
  refine v_iconst K dX8_change_5 ki_1 ?_
  obtain ⟨y2, S1, hS1, hf⟩ := bdp_el hf
  refine v_callWi (As := [.int 1, .int x1, .int x2, .int x3, .int 1]) (rest := []) K mk_X8_74 dX8_change_6 (c_X8_happen hT hLs hS1) (hT 0 (by decide)) rfl rfl rfl rfl rfl (Nat.le_of_ble_eq_true rfl) ⟨rfl, rfl⟩ ⟨Nat.le_of_ble_eq_true rfl, Nat.le_of_ble_eq_true rfl⟩ ?_
  exact v_iret K rfl dX8_change_9 (ev_q hf) (eg_q hf)
set_option maxRecDepth 20000 in
theorem c_X8_putBack (hT : TopG E) (hLs : ∀ b, b < 8 → LibG E b) {S S' : Gs}  {x1 : Int32} {x2 : Int32} {r : Int32} (hf : f_X8_putBack S x1 x2 = some (r, S')) : Ctr l D E A yX8_putBack cX8_putBack 3 (some .int) (rmD 6) [.ref (eA E 0 0), .int x1, .int x2] (wl E S) (some (.int r)) (wl E S') := by
  refine Ctr.of (own := RX8) pn_X8 rfl (Nat.le_of_ble_eq_true rfl) ?_
  intro p e s m args below meth c K
  refine v_lv (lv' := [(0, .ref (eA E 0 0)), (1, .int x1), (2, .int x2)]) rfl ?_
  unfold f_X8_putBack at hf
  refine v_aload_n K 0 dX8_putBack_0 rfl rfl ?_
  refine v_iconst K dX8_putBack_1 ki_2 ?_
  refine v_iload_n K 1 dX8_putBack_2 rfl rfl ?_
  refine v_iload_n K 2 dX8_putBack_3 rfl rfl ?_
  refine v_iconst K dX8_putBack_4 ki_0 ?_
  refine v_iconst K dX8_putBack_5 ki_1 ?_
  obtain ⟨y2, S1, hS1, hf⟩ := bdp_el hf
  refine v_callWi (As := [.int 2, .int x1, .int x2, .int 0, .int 1]) (rest := []) K mk_X8_74 dX8_putBack_6 (c_X8_happen hT hLs hS1) (hT 0 (by decide)) rfl rfl rfl rfl rfl (Nat.le_of_ble_eq_true rfl) ⟨rfl, rfl⟩ ⟨Nat.le_of_ble_eq_true rfl, Nat.le_of_ble_eq_true rfl⟩ ?_
  exact v_iret K rfl dX8_putBack_9 (ev_q hf) (eg_q hf)
set_option maxRecDepth 20000 in
theorem c_X8_recall (hT : TopG E) (hLs : ∀ b, b < 8 → LibG E b) {S S' : Gs}  {x1 : Int32} {r : Int32} (hf : f_X8_recall S x1 = some (r, S')) : Ctr l D E A yX8_recall cX8_recall 2 (some .int) (rmD 6) [.ref (eA E 0 0), .int x1] (wl E S) (some (.int r)) (wl E S') := by
  refine Ctr.of (own := RX8) pn_X8 rfl (Nat.le_of_ble_eq_true rfl) ?_
  intro p e s m args below meth c K
  refine v_lv (lv' := [(0, .ref (eA E 0 0)), (1, .int x1)]) rfl ?_
  unfold f_X8_recall at hf
  refine v_aload_n K 0 dX8_recall_0 rfl rfl ?_
  refine v_iconst K dX8_recall_1 ki_3 ?_
  refine v_iconst K dX8_recall_2 ki_0 ?_
  refine v_iload_n K 1 dX8_recall_3 rfl rfl ?_
  refine v_iconst K dX8_recall_4 ki_0 ?_
  refine v_iconst K dX8_recall_5 ki_1 ?_
  obtain ⟨y2, S1, hS1, hf⟩ := bdp_el hf
  refine v_callWi (As := [.int 3, .int 0, .int x1, .int 0, .int 1]) (rest := []) K mk_X8_74 dX8_recall_6 (c_X8_happen hT hLs hS1) (hT 0 (by decide)) rfl rfl rfl rfl rfl (Nat.le_of_ble_eq_true rfl) ⟨rfl, rfl⟩ ⟨Nat.le_of_ble_eq_true rfl, Nat.le_of_ble_eq_true rfl⟩ ?_
  exact v_iret K rfl dX8_recall_9 (ev_q hf) (eg_q hf)
set_option maxRecDepth 20000 in
theorem c_X8_ofNote (hT : TopG E) (hLs : ∀ b, b < 8 → LibG E b) {S : Gs}  {x1 : Int32} {x2 : Int32} {r : Int32} (hf : f_X8_ofNote S x1 x2 = some r) : Ctr l D E A yX8_ofNote cX8_ofNote 5 (some .int) (rmD 3) [.ref (eA E 0 0), .int x1, .int x2] (wl E S) (some (.int r)) (wl E S) := by
  refine Ctr.of (own := RX8) pn_X8 rfl (Nat.le_of_ble_eq_true rfl) ?_
  intro p e s m args below meth c K
  refine v_lv (lv' := [(0, .ref (eA E 0 0)), (1, .int x1), (2, .int x2)]) rfl ?_
  unfold f_X8_ofNote at hf
  refine v_iload_n K 1 dX8_ofNote_0 rfl rfl ?_
  refine v_callSi (As := [.int x1]) (rest := []) K mk_X8_115 dX8_ofNote_1 (c_X8_isNote  rfl) rfl rfl (Nat.le_of_ble_eq_true rfl) ⟨rfl, rfl⟩ ⟨Nat.le_of_ble_eq_true rfl, Nat.le_of_ble_eq_true rfl⟩ ?_
  refine v_if_ne (tgt := 9) K dX8_ofNote_4 (by decide) (fun hc1 => ?_) (fun hc1 => ?_)
  · have hf := it_neg hc1 hf
    refine v_aload_n K 0 dX8_ofNote_9 rfl rfl ?_
    refine v_get K fk_X8_10 dX8_ofNote_10 (hT 0 (by decide)) rfl rfl ?_
    refine v_iload_n K 1 dX8_ofNote_13 rfl rfl ?_
    obtain ⟨y1, hy1, hf⟩ := bd_el hf
    refine v_callWi (As := [.int x1]) (rest := []) K mk_X8_119 dX8_ofNote_14 (Ctr.gidr (o := 2) (c_X3_called (o := 2) rfl (hLs 0 (by decide)) hy1)) ((hLs 0 (by decide)) 0 (by decide)) rfl rfl rfl rfl rfl (Nat.le_of_ble_eq_true rfl) ⟨rfl, rfl⟩ ⟨Nat.le_of_ble_eq_true rfl, Nat.le_of_ble_eq_true rfl⟩ ?_
    refine v_istore_n (lv' := [(3, .int y1), (0, .ref (eA E 0 0)), (1, .int x1), (2, .int x2)]) K dX8_ofNote_17 rfl (by decide) rfl ?_
    refine v_aload_n K 1 dX8_ofNote_18 rfl rfl ?_
    refine v_get K fk_X8_10 dX8_ofNote_19 (hT 0 (by decide)) rfl rfl ?_
    refine v_getN K fn_X8_100 dX8_ofNote_22 ((hLs 0 (by decide)) 0 (by decide)) rfl rfl ?_
    refine v_getN K fn_X8_122 dX8_ofNote_25 ((hLs 0 (by decide)) 10 (by decide)) rfl rfl ?_
    refine v_iload_n K 2 dX8_ofNote_28 rfl rfl ?_
    refine v_callWi (As := [.int x1]) (rest := []) K mk_X8_64 dX8_ofNote_29 (Ctr.gidr (o := 2) (k_row_at (Nat.le_of_ble_eq_true rfl) (rl_19 (o := 2) rfl (hLs 0 (by decide))) rfl)) ((hLs 0 (by decide)) 19 (by decide)) rfl rfl rfl rfl rfl (Nat.le_of_ble_eq_true rfl) ⟨rfl, rfl⟩ ⟨Nat.le_of_ble_eq_true rfl, Nat.le_of_ble_eq_true rfl⟩ ?_
    refine v_istore (lv' := [(4, .int (rat 24 ((S 2) 20) x1)), (3, .int y1), (0, .ref (eA E 0 0)), (1, .int x1), (2, .int x2)]) K dX8_ofNote_32 (by decide) rfl ?_
    refine v_iload_n K 4 dX8_ofNote_34 rfl rfl ?_
    by_cases hw35_0 : x2 = 0
    · have hf := it_pos hw35_0 hf
      have ht35 := tsi_8 hw35_0 (by decide)
      refine v_tableIn (off := 49) (tgt := 84) K dX8_ofNote_35 ht35.1 ht35.2 (by rw [hw35_0]; rfl) (by decide) ?_
      refine v_aload_n K 2 dX8_ofNote_84 rfl rfl ?_
      refine v_get K fk_X8_10 dX8_ofNote_85 (hT 0 (by decide)) rfl rfl ?_
      refine v_getN K fn_X8_125 dX8_ofNote_88 ((hLs 0 (by decide)) 0 (by decide)) rfl rfl ?_
      refine v_iload_n K 3 dX8_ofNote_91 rfl rfl ?_
      refine v_callWi (As := [.int x1]) (rest := []) K mk_X8_64 dX8_ofNote_92 (Ctr.gidr (o := 2) (k_row_at (Nat.le_of_ble_eq_true rfl) (rl_3 (o := 2) rfl (hLs 0 (by decide))) rfl)) ((hLs 0 (by decide)) 3 (by decide)) rfl rfl rfl rfl rfl (Nat.le_of_ble_eq_true rfl) ⟨rfl, rfl⟩ ⟨Nat.le_of_ble_eq_true rfl, Nat.le_of_ble_eq_true rfl⟩ ?_
      exact v_iret K rfl dX8_ofNote_95 (ev_o hf) rfl
    · have hf := it_neg hw35_0 hf
      by_cases hw35_1 : x2 = 1
      · have hf := it_pos hw35_1 hf
        have ht35 := tsi_8 hw35_1 (by decide)
        refine v_tableIn (off := 61) (tgt := 96) K dX8_ofNote_35 ht35.1 ht35.2 (by rw [hw35_1]; rfl) (by decide) ?_
        refine v_aload_n K 2 dX8_ofNote_96 rfl rfl ?_
        refine v_get K fk_X8_10 dX8_ofNote_97 (hT 0 (by decide)) rfl rfl ?_
        refine v_getN K fn_X8_46 dX8_ofNote_100 ((hLs 0 (by decide)) 0 (by decide)) rfl rfl ?_
        refine v_getN K fn_X8_128 dX8_ofNote_103 ((hLs 0 (by decide)) 5 (by decide)) rfl rfl ?_
        refine v_iload_n K 3 dX8_ofNote_106 rfl rfl ?_
        refine v_callWi (As := [.int x1]) (rest := []) K mk_X8_64 dX8_ofNote_107 (Ctr.gidr (o := 2) (k_row_at (Nat.le_of_ble_eq_true rfl) (rl_6 (o := 2) rfl (hLs 0 (by decide))) rfl)) ((hLs 0 (by decide)) 6 (by decide)) rfl rfl rfl rfl rfl (Nat.le_of_ble_eq_true rfl) ⟨rfl, rfl⟩ ⟨Nat.le_of_ble_eq_true rfl, Nat.le_of_ble_eq_true rfl⟩ ?_
        exact v_iret K rfl dX8_ofNote_110 (ev_o hf) rfl
      · have hf := it_neg hw35_1 hf
        by_cases hw35_2 : x2 = 2
        · have hf := it_pos hw35_2 hf
          have ht35 := tsi_8 hw35_2 (by decide)
          refine v_tableIn (off := 76) (tgt := 111) K dX8_ofNote_35 ht35.1 ht35.2 (by rw [hw35_2]; rfl) (by decide) ?_
          refine v_aload_n K 2 dX8_ofNote_111 rfl rfl ?_
          refine v_get K fk_X8_10 dX8_ofNote_112 (hT 0 (by decide)) rfl rfl ?_
          refine v_getN K fn_X8_46 dX8_ofNote_115 ((hLs 0 (by decide)) 0 (by decide)) rfl rfl ?_
          refine v_getN K fn_X8_131 dX8_ofNote_118 ((hLs 0 (by decide)) 5 (by decide)) rfl rfl ?_
          refine v_iload_n K 3 dX8_ofNote_121 rfl rfl ?_
          refine v_callWi (As := [.int x1]) (rest := []) K mk_X8_64 dX8_ofNote_122 (Ctr.gidr (o := 2) (k_row_at (Nat.le_of_ble_eq_true rfl) (rl_8 (o := 2) rfl (hLs 0 (by decide))) rfl)) ((hLs 0 (by decide)) 8 (by decide)) rfl rfl rfl rfl rfl (Nat.le_of_ble_eq_true rfl) ⟨rfl, rfl⟩ ⟨Nat.le_of_ble_eq_true rfl, Nat.le_of_ble_eq_true rfl⟩ ?_
          exact v_iret K rfl dX8_ofNote_125 (ev_o hf) rfl
        · have hf := it_neg hw35_2 hf
          by_cases hw35_3 : x2 = 3
          · have hf := it_pos hw35_3 hf
            have ht35 := tsi_8 hw35_3 (by decide)
            refine v_tableIn (off := 91) (tgt := 126) K dX8_ofNote_35 ht35.1 ht35.2 (by rw [hw35_3]; rfl) (by decide) ?_
            refine v_iload_n K 1 dX8_ofNote_126 rfl rfl ?_
            exact v_iret K rfl dX8_ofNote_127 (ev_o hf) rfl
          · have hf := it_neg hw35_3 hf
            by_cases hw35_4 : x2 = 4
            · have hf := it_pos hw35_4 hf
              have ht35 := tsi_8 hw35_4 (by decide)
              refine v_tableIn (off := 93) (tgt := 128) K dX8_ofNote_35 ht35.1 ht35.2 (by rw [hw35_4]; rfl) (by decide) ?_
              refine v_iload K 0 dX8_ofNote_128 rfl ?_
              exact v_iret K rfl dX8_ofNote_130 (ev_o hf) rfl
            · have hf := it_neg hw35_4 hf
              by_cases hw35_5 : x2 = 5
              · have hf := it_pos hw35_5 hf
                have ht35 := tsi_8 hw35_5 (by decide)
                refine v_tableIn (off := 96) (tgt := 131) K dX8_ofNote_35 ht35.1 ht35.2 (by rw [hw35_5]; rfl) (by decide) ?_
                refine v_iload_n K 1 dX8_ofNote_131 rfl rfl ?_
                refine v_iload K 0 dX8_ofNote_132 rfl ?_
                refine v_iconst K dX8_ofNote_134 ki_m1 ?_
                refine v_ixor K dX8_ofNote_135 ?_
                refine v_iand K dX8_ofNote_136 ?_
                refine v_callSi (As := [.int (y1 &&& ((rat 24 ((S 2) 20) x1) ^^^ (-1)))]) (rest := []) K mk_X8_134 dX8_ofNote_137 (c_J6_bitCount_0f7a4  rfl) rfl rfl (Nat.le_of_ble_eq_true rfl) ⟨rfl, rfl⟩ ⟨Nat.le_of_ble_eq_true rfl, Nat.le_of_ble_eq_true rfl⟩ ?_
                exact v_iret K rfl dX8_ofNote_140 (ev_o hf) rfl
              · have hf := it_neg hw35_5 hf
                by_cases hw35_6 : x2 = 6
                · have hf := it_pos hw35_6 hf
                  have ht35 := tsi_8 hw35_6 (by decide)
                  refine v_tableIn (off := 106) (tgt := 141) K dX8_ofNote_35 ht35.1 ht35.2 (by rw [hw35_6]; rfl) (by decide) ?_
                  refine v_aload_n K 2 dX8_ofNote_141 rfl rfl ?_
                  refine v_get K fk_X8_10 dX8_ofNote_142 (hT 0 (by decide)) rfl rfl ?_
                  refine v_iload_n K 3 dX8_ofNote_145 rfl rfl ?_
                  obtain ⟨y2, hy2, hf⟩ := bd_el hf
                  refine v_callWi (As := [.int x1]) (rest := []) K mk_X8_139 dX8_ofNote_146 (Ctr.gidr (o := 2) (c_X3_valueToRead (o := 2) rfl (hLs 0 (by decide)) hy2)) ((hLs 0 (by decide)) 0 (by decide)) rfl rfl rfl rfl rfl (Nat.le_of_ble_eq_true rfl) ⟨rfl, rfl⟩ ⟨Nat.le_of_ble_eq_true rfl, Nat.le_of_ble_eq_true rfl⟩ ?_
                  exact v_iret K rfl dX8_ofNote_149 (ev_o hf) rfl
                · have hf := it_neg hw35_6 hf
                  by_cases hw35_7 : x2 = 7
                  · have hf := it_pos hw35_7 hf
                    have ht35 := tsi_8 hw35_7 (by decide)
                    refine v_tableIn (off := 115) (tgt := 150) K dX8_ofNote_35 ht35.1 ht35.2 (by rw [hw35_7]; rfl) (by decide) ?_
                    refine v_aload_n K 2 dX8_ofNote_150 rfl rfl ?_
                    refine v_get K fk_X8_10 dX8_ofNote_151 (hT 0 (by decide)) rfl rfl ?_
                    refine v_getN K fn_X8_142 dX8_ofNote_154 ((hLs 0 (by decide)) 0 (by decide)) rfl rfl ?_
                    refine v_iload_n K 3 dX8_ofNote_157 rfl rfl ?_
                    refine v_callWi (As := [.int x1]) (rest := []) K mk_X8_64 dX8_ofNote_158 (Ctr.gidr (o := 2) (k_row_at (Nat.le_of_ble_eq_true rfl) (rl_30 (o := 2) rfl (hLs 0 (by decide))) rfl)) ((hLs 0 (by decide)) 30 (by decide)) rfl rfl rfl rfl rfl (Nat.le_of_ble_eq_true rfl) ⟨rfl, rfl⟩ ⟨Nat.le_of_ble_eq_true rfl, Nat.le_of_ble_eq_true rfl⟩ ?_
                    exact v_iret K rfl dX8_ofNote_161 (ev_o hf) rfl
                  · have hf := it_neg hw35_7 hf
                    by_cases hw35_8 : x2 = 8
                    · have hf := it_pos hw35_8 hf
                      have ht35 := tsi_8 hw35_8 (by decide)
                      refine v_tableIn (off := 127) (tgt := 162) K dX8_ofNote_35 ht35.1 ht35.2 (by rw [hw35_8]; rfl) (by decide) ?_
                      refine v_aload_n K 2 dX8_ofNote_162 rfl rfl ?_
                      refine v_get K fk_X8_10 dX8_ofNote_163 (hT 0 (by decide)) rfl rfl ?_
                      refine v_getN K fn_X8_145 dX8_ofNote_166 ((hLs 0 (by decide)) 0 (by decide)) rfl rfl ?_
                      refine v_iload_n K 3 dX8_ofNote_169 rfl rfl ?_
                      refine v_callWi (As := [.int x1]) (rest := []) K mk_X8_64 dX8_ofNote_170 (Ctr.gidr (o := 2) (k_row_at (Nat.le_of_ble_eq_true rfl) (rl_32 (o := 2) rfl (hLs 0 (by decide))) rfl)) ((hLs 0 (by decide)) 32 (by decide)) rfl rfl rfl rfl rfl (Nat.le_of_ble_eq_true rfl) ⟨rfl, rfl⟩ ⟨Nat.le_of_ble_eq_true rfl, Nat.le_of_ble_eq_true rfl⟩ ?_
                      exact v_iret K rfl dX8_ofNote_173 (ev_o hf) rfl
                    · have hf := it_neg hw35_8 hf
                      refine v_tableOut (tgt := 174) K dX8_ofNote_35 (tso_8 hw35_0 hw35_1 hw35_2 hw35_3 hw35_4 hw35_5 hw35_6 hw35_7 hw35_8) (by decide) ?_
                      refine v_bipush K dX8_ofNote_174 kb_m2 ?_
                      exact v_iret K rfl dX8_ofNote_176 (ev_o hf) rfl
  · have hf := it_pos hc1 hf
    refine v_iconst K dX8_ofNote_7 ki_m1 ?_
    exact v_iret K rfl dX8_ofNote_8 (ev_o hf) rfl
set_option maxRecDepth 20000 in
theorem c_X8_onShelf (hT : TopG E) (hLs : ∀ b, b < 8 → LibG E b) {S : Gs}  {x1 : Int32} {x2 : Int32} {x3 : Int32} {r : Int32} (hf : f_X8_onShelf S x1 x2 x3 = r) : Ctr l D E A yX8_onShelf cX8_onShelf 4 (some .int) (rmD 2) [.ref (eA E 0 0), .int x1, .int x2, .int x3] (wl E S) (some (.int r)) (wl E S) := by
  refine Ctr.of (own := RX8) pn_X8 rfl (Nat.le_of_ble_eq_true rfl) ?_
  intro p e s m args below meth c K
  refine v_lv (lv' := [(0, .ref (eA E 0 0)), (1, .int x1), (2, .int x2), (3, .int x3)]) rfl ?_
  unfold f_X8_onShelf at hf
  refine v_iload_n K 1 dX8_onShelf_0 rfl rfl ?_
  refine v_callSi (As := [.int x1]) (rest := []) K mk_X8_148 dX8_onShelf_1 (c_X8_isReader  rfl) rfl rfl (Nat.le_of_ble_eq_true rfl) ⟨rfl, rfl⟩ ⟨Nat.le_of_ble_eq_true rfl, Nat.le_of_ble_eq_true rfl⟩ ?_
  refine v_if_eq (tgt := 29) K dX8_onShelf_4 (by decide) (fun hc1 => ?_) (fun hc1 => ?_)
  · have hf := it_pos hc1 hf
    refine v_iconst K dX8_onShelf_29 ki_m1 ?_
    exact v_iret K rfl dX8_onShelf_30 (ev_v hf) rfl
  · have hf := it_neg hc1 hf
    refine v_iload_n K 2 dX8_onShelf_7 rfl rfl ?_
    refine v_if_lt (tgt := 29) K dX8_onShelf_8 (by decide) (fun hc2 => ?_) (fun hc2 => ?_)
    · have hf := it_pos hc2 hf
      refine v_iconst K dX8_onShelf_29 ki_m1 ?_
      exact v_iret K rfl dX8_onShelf_30 (ev_v hf) rfl
    · have hf := it_neg hc2 hf
      refine v_iload_n K 2 dX8_onShelf_11 rfl rfl ?_
      refine v_aload_n K 0 dX8_onShelf_12 rfl rfl ?_
      refine v_get K fk_X8_10 dX8_onShelf_13 (hT 0 (by decide)) rfl rfl ?_
      refine v_getN K fn_X8_100 dX8_onShelf_16 ((hLs 0 (by decide)) 0 (by decide)) rfl rfl ?_
      refine v_getN K fn_X8_151 dX8_onShelf_19 ((hLs 0 (by decide)) 10 (by decide)) rfl rfl ?_
      refine v_iload_n K 1 dX8_onShelf_22 rfl rfl ?_
      refine v_callWi (As := [.int x1]) (rest := [.int x2]) K mk_X8_64 dX8_onShelf_23 (Ctr.gidr (o := 2) (k_row_at (Nat.le_of_ble_eq_true rfl) (rl_11 (o := 2) rfl (hLs 0 (by decide))) rfl)) ((hLs 0 (by decide)) 11 (by decide)) rfl rfl rfl rfl rfl (Nat.le_of_ble_eq_true rfl) ⟨rfl, rfl⟩ ⟨Nat.le_of_ble_eq_true rfl, Nat.le_of_ble_eq_true rfl⟩ ?_
      refine v_icmp_lt (tgt := 31) K dX8_onShelf_26 (by decide) (fun hc3 => ?_) (fun hc3 => ?_)
      · have hf := it_pos hc3 hf
        refine v_iload_n K 3 dX8_onShelf_31 rfl rfl ?_
        by_cases hw32_0 : x3 = 0
        · have hf := it_pos hw32_0 hf
          have ht32 := tsi_2 hw32_0 (by decide)
          refine v_tableIn (off := 28) (tgt := 60) K dX8_onShelf_32 ht32.1 ht32.2 (by rw [hw32_0]; rfl) (by decide) ?_
          refine v_aload_n K 0 dX8_onShelf_60 rfl rfl ?_
          refine v_get K fk_X8_10 dX8_onShelf_61 (hT 0 (by decide)) rfl rfl ?_
          refine v_getN K fn_X8_100 dX8_onShelf_64 ((hLs 0 (by decide)) 0 (by decide)) rfl rfl ?_
          refine v_iload_n K 1 dX8_onShelf_67 rfl rfl ?_
          refine v_iload_n K 2 dX8_onShelf_68 rfl rfl ?_
          refine v_callWi (As := [.int x1, .int x2]) (rest := []) K mk_X8_154 dX8_onShelf_69 (Ctr.gidr (o := 2) (c_X7_noteAt (o := 2) rfl (hLs 0 (by decide)) rfl)) ((hLs 0 (by decide)) 10 (by decide)) rfl rfl rfl rfl rfl (Nat.le_of_ble_eq_true rfl) ⟨rfl, rfl⟩ ⟨Nat.le_of_ble_eq_true rfl, Nat.le_of_ble_eq_true rfl⟩ ?_
          exact v_iret K rfl dX8_onShelf_72 (ev_v hf) rfl
        · have hf := it_neg hw32_0 hf
          by_cases hw32_1 : x3 = 1
          · have hf := it_pos hw32_1 hf
            have ht32 := tsi_2 hw32_1 (by decide)
            refine v_tableIn (off := 41) (tgt := 73) K dX8_onShelf_32 ht32.1 ht32.2 (by rw [hw32_1]; rfl) (by decide) ?_
            refine v_aload_n K 0 dX8_onShelf_73 rfl rfl ?_
            refine v_get K fk_X8_10 dX8_onShelf_74 (hT 0 (by decide)) rfl rfl ?_
            refine v_getN K fn_X8_100 dX8_onShelf_77 ((hLs 0 (by decide)) 0 (by decide)) rfl rfl ?_
            refine v_iload_n K 1 dX8_onShelf_80 rfl rfl ?_
            refine v_iload_n K 2 dX8_onShelf_81 rfl rfl ?_
            refine v_callWi (As := [.int x1, .int x2]) (rest := []) K mk_X8_157 dX8_onShelf_82 (Ctr.gidr (o := 2) (c_X7_valueAt (o := 2) rfl (hLs 0 (by decide)) rfl)) ((hLs 0 (by decide)) 10 (by decide)) rfl rfl rfl rfl rfl (Nat.le_of_ble_eq_true rfl) ⟨rfl, rfl⟩ ⟨Nat.le_of_ble_eq_true rfl, Nat.le_of_ble_eq_true rfl⟩ ?_
            exact v_iret K rfl dX8_onShelf_85 (ev_v hf) rfl
          · have hf := it_neg hw32_1 hf
            by_cases hw32_2 : x3 = 2
            · have hf := it_pos hw32_2 hf
              have ht32 := tsi_2 hw32_2 (by decide)
              refine v_tableIn (off := 54) (tgt := 86) K dX8_onShelf_32 ht32.1 ht32.2 (by rw [hw32_2]; rfl) (by decide) ?_
              refine v_aload_n K 0 dX8_onShelf_86 rfl rfl ?_
              refine v_get K fk_X8_10 dX8_onShelf_87 (hT 0 (by decide)) rfl rfl ?_
              refine v_getN K fn_X8_100 dX8_onShelf_90 ((hLs 0 (by decide)) 0 (by decide)) rfl rfl ?_
              refine v_iload_n K 1 dX8_onShelf_93 rfl rfl ?_
              refine v_iload_n K 2 dX8_onShelf_94 rfl rfl ?_
              refine v_callWi (As := [.int x1, .int x2]) (rest := []) K mk_X8_160 dX8_onShelf_95 (Ctr.gidr (o := 2) (c_X7_isChangedAt (o := 2) rfl (hLs 0 (by decide)) rfl)) ((hLs 0 (by decide)) 10 (by decide)) rfl rfl rfl rfl rfl (Nat.le_of_ble_eq_true rfl) ⟨rfl, rfl⟩ ⟨Nat.le_of_ble_eq_true rfl, Nat.le_of_ble_eq_true rfl⟩ ?_
              refine v_if_eq (tgt := 105) K dX8_onShelf_98 (by decide) (fun hc4 => ?_) (fun hc4 => ?_)
              · have hf := it_pos hc4 hf
                refine v_iconst K dX8_onShelf_105 ki_0 ?_
                exact v_iret K rfl dX8_onShelf_106 (ev_v hf) rfl
              · have hf := it_neg hc4 hf
                refine v_iconst K dX8_onShelf_101 ki_1 ?_
                refine v_goto (tgt := 106) K dX8_onShelf_102 (by decide) ?_
                exact v_iret K rfl dX8_onShelf_106 (ev_v hf) rfl
            · have hf := it_neg hw32_2 hf
              refine v_tableOut (tgt := 107) K dX8_onShelf_32 (tso_2 hw32_0 hw32_1 hw32_2) (by decide) ?_
              refine v_bipush K dX8_onShelf_107 kb_m2 ?_
              exact v_iret K rfl dX8_onShelf_109 (ev_v hf) rfl
      · have hf := it_neg hc3 hf
        refine v_iconst K dX8_onShelf_29 ki_m1 ?_
        exact v_iret K rfl dX8_onShelf_30 (ev_v hf) rfl
set_option maxRecDepth 20000 in
theorem c_X8_ofReader (hT : TopG E) (hLs : ∀ b, b < 8 → LibG E b) {S : Gs}  {x1 : Int32} {x2 : Int32} {r : Int32} (hf : f_X8_ofReader S x1 x2 = some r) : Ctr l D E A yX8_ofReader cX8_ofReader 3 (some .int) (rmD 4) [.ref (eA E 0 0), .int x1, .int x2] (wl E S) (some (.int r)) (wl E S) := by
  refine Ctr.of (own := RX8) pn_X8 rfl (Nat.le_of_ble_eq_true rfl) ?_
  intro p e s m args below meth c K
  refine v_lv (lv' := [(0, .ref (eA E 0 0)), (1, .int x1), (2, .int x2)]) rfl ?_
  unfold f_X8_ofReader at hf
  refine v_iload_n K 1 dX8_ofReader_0 rfl rfl ?_
  refine v_callSi (As := [.int x1]) (rest := []) K mk_X8_148 dX8_ofReader_1 (c_X8_isReader  rfl) rfl rfl (Nat.le_of_ble_eq_true rfl) ⟨rfl, rfl⟩ ⟨Nat.le_of_ble_eq_true rfl, Nat.le_of_ble_eq_true rfl⟩ ?_
  refine v_if_ne (tgt := 9) K dX8_ofReader_4 (by decide) (fun hc1 => ?_) (fun hc1 => ?_)
  · have hf := it_neg hc1 hf
    refine v_iload_n K 2 dX8_ofReader_9 rfl rfl ?_
    by_cases hw10_0 : x2 = 0
    · have hf := it_pos hw10_0 hf
      have ht10 := tsi_6 hw10_0 (by decide)
      refine v_tableIn (off := 42) (tgt := 52) K dX8_ofReader_10 ht10.1 ht10.2 (by rw [hw10_0]; rfl) (by decide) ?_
      refine v_aload_n K 0 dX8_ofReader_52 rfl rfl ?_
      refine v_get K fk_X8_10 dX8_ofReader_53 (hT 0 (by decide)) rfl rfl ?_
      refine v_getN K fn_X8_100 dX8_ofReader_56 ((hLs 0 (by decide)) 0 (by decide)) rfl rfl ?_
      refine v_getN K fn_X8_151 dX8_ofReader_59 ((hLs 0 (by decide)) 10 (by decide)) rfl rfl ?_
      refine v_iload_n K 1 dX8_ofReader_62 rfl rfl ?_
      refine v_callWi (As := [.int x1]) (rest := []) K mk_X8_64 dX8_ofReader_63 (Ctr.gidr (o := 2) (k_row_at (Nat.le_of_ble_eq_true rfl) (rl_11 (o := 2) rfl (hLs 0 (by decide))) rfl)) ((hLs 0 (by decide)) 11 (by decide)) rfl rfl rfl rfl rfl (Nat.le_of_ble_eq_true rfl) ⟨rfl, rfl⟩ ⟨Nat.le_of_ble_eq_true rfl, Nat.le_of_ble_eq_true rfl⟩ ?_
      exact v_iret K rfl dX8_ofReader_66 (ev_o hf) rfl
    · have hf := it_neg hw10_0 hf
      by_cases hw10_1 : x2 = 1
      · have hf := it_pos hw10_1 hf
        have ht10 := tsi_6 hw10_1 (by decide)
        refine v_tableIn (off := 57) (tgt := 67) K dX8_ofReader_10 ht10.1 ht10.2 (by rw [hw10_1]; rfl) (by decide) ?_
        refine v_iload_n K 1 dX8_ofReader_67 rfl rfl ?_
        refine v_aload_n K 0 dX8_ofReader_68 rfl rfl ?_
        refine v_get K fk_X8_10 dX8_ofReader_69 (hT 0 (by decide)) rfl rfl ?_
        refine v_getN K fn_X8_60 dX8_ofReader_72 ((hLs 0 (by decide)) 0 (by decide)) rfl rfl ?_
        refine v_iconst K dX8_ofReader_75 ki_1 ?_
        refine v_callWi (As := [.int 1]) (rest := [.int x1]) K mk_X8_64 dX8_ofReader_76 (Ctr.gidr (o := 2) (k_row_at (Nat.le_of_ble_eq_true rfl) (rl_1 (o := 2) rfl (hLs 0 (by decide))) rfl)) ((hLs 0 (by decide)) 1 (by decide)) rfl rfl rfl rfl rfl (Nat.le_of_ble_eq_true rfl) ⟨rfl, rfl⟩ ⟨Nat.le_of_ble_eq_true rfl, Nat.le_of_ble_eq_true rfl⟩ ?_
        refine v_callSi (As := [.int x1, .int (rat 4 ((S 2) 2) 1)]) (rest := []) K mk_X8_163 dX8_ofReader_79 (c_X8_groupOf  rfl) rfl rfl (Nat.le_of_ble_eq_true rfl) ⟨rfl, rfl⟩ ⟨Nat.le_of_ble_eq_true rfl, Nat.le_of_ble_eq_true rfl⟩ ?_
        exact v_iret K rfl dX8_ofReader_82 (ev_o hf) rfl
      · have hf := it_neg hw10_1 hf
        by_cases hw10_2 : x2 = 2
        · have hf := it_pos hw10_2 hf
          have ht10 := tsi_6 hw10_2 (by decide)
          refine v_tableIn (off := 73) (tgt := 83) K dX8_ofReader_10 ht10.1 ht10.2 (by rw [hw10_2]; rfl) (by decide) ?_
          refine v_aload_n K 0 dX8_ofReader_83 rfl rfl ?_
          refine v_get K fk_X8_10 dX8_ofReader_84 (hT 0 (by decide)) rfl rfl ?_
          refine v_getN K fn_X8_166 dX8_ofReader_87 ((hLs 0 (by decide)) 0 (by decide)) rfl rfl ?_
          refine v_iload_n K 1 dX8_ofReader_90 rfl rfl ?_
          refine v_callWi (As := [.int x1]) (rest := []) K mk_X8_64 dX8_ofReader_91 (Ctr.gidr (o := 2) (k_row_at (Nat.le_of_ble_eq_true rfl) (rl_34 (o := 2) rfl (hLs 0 (by decide))) rfl)) ((hLs 0 (by decide)) 34 (by decide)) rfl rfl rfl rfl rfl (Nat.le_of_ble_eq_true rfl) ⟨rfl, rfl⟩ ⟨Nat.le_of_ble_eq_true rfl, Nat.le_of_ble_eq_true rfl⟩ ?_
          exact v_iret K rfl dX8_ofReader_94 (ev_o hf) rfl
        · have hf := it_neg hw10_2 hf
          by_cases hw10_3 : x2 = 3
          · have hf := it_pos hw10_3 hf
            have ht10 := tsi_6 hw10_3 (by decide)
            refine v_tableIn (off := 85) (tgt := 95) K dX8_ofReader_10 ht10.1 ht10.2 (by rw [hw10_3]; rfl) (by decide) ?_
            refine v_aload_n K 0 dX8_ofReader_95 rfl rfl ?_
            refine v_get K fk_X8_10 dX8_ofReader_96 (hT 0 (by decide)) rfl rfl ?_
            refine v_getN K fn_X8_169 dX8_ofReader_99 ((hLs 0 (by decide)) 0 (by decide)) rfl rfl ?_
            refine v_iload_n K 1 dX8_ofReader_102 rfl rfl ?_
            refine v_callWi (As := [.int x1]) (rest := []) K mk_X8_64 dX8_ofReader_103 (Ctr.gidr (o := 2) (k_row_at (Nat.le_of_ble_eq_true rfl) (rl_36 (o := 2) rfl (hLs 0 (by decide))) rfl)) ((hLs 0 (by decide)) 36 (by decide)) rfl rfl rfl rfl rfl (Nat.le_of_ble_eq_true rfl) ⟨rfl, rfl⟩ ⟨Nat.le_of_ble_eq_true rfl, Nat.le_of_ble_eq_true rfl⟩ ?_
            exact v_iret K rfl dX8_ofReader_106 (ev_o hf) rfl
          · have hf := it_neg hw10_3 hf
            by_cases hw10_4 : x2 = 4
            · have hf := it_pos hw10_4 hf
              have ht10 := tsi_6 hw10_4 (by decide)
              refine v_tableIn (off := 97) (tgt := 107) K dX8_ofReader_10 ht10.1 ht10.2 (by rw [hw10_4]; rfl) (by decide) ?_
              refine v_aload_n K 0 dX8_ofReader_107 rfl rfl ?_
              refine v_get K fk_X8_10 dX8_ofReader_108 (hT 0 (by decide)) rfl rfl ?_
              refine v_getN K fn_X8_172 dX8_ofReader_111 ((hLs 0 (by decide)) 0 (by decide)) rfl rfl ?_
              refine v_iload_n K 1 dX8_ofReader_114 rfl rfl ?_
              refine v_callWi (As := [.int x1]) (rest := []) K mk_X8_64 dX8_ofReader_115 (Ctr.gidr (o := 2) (k_row_at (Nat.le_of_ble_eq_true rfl) (rl_38 (o := 2) rfl (hLs 0 (by decide))) rfl)) ((hLs 0 (by decide)) 38 (by decide)) rfl rfl rfl rfl rfl (Nat.le_of_ble_eq_true rfl) ⟨rfl, rfl⟩ ⟨Nat.le_of_ble_eq_true rfl, Nat.le_of_ble_eq_true rfl⟩ ?_
              exact v_iret K rfl dX8_ofReader_118 (ev_o hf) rfl
            · have hf := it_neg hw10_4 hf
              by_cases hw10_5 : x2 = 5
              · have hf := it_pos hw10_5 hf
                have ht10 := tsi_6 hw10_5 (by decide)
                refine v_tableIn (off := 109) (tgt := 119) K dX8_ofReader_10 ht10.1 ht10.2 (by rw [hw10_5]; rfl) (by decide) ?_
                refine v_aload_n K 0 dX8_ofReader_119 rfl rfl ?_
                refine v_get K fk_X8_10 dX8_ofReader_120 (hT 0 (by decide)) rfl rfl ?_
                refine v_getN K fn_X8_175 dX8_ofReader_123 ((hLs 0 (by decide)) 0 (by decide)) rfl rfl ?_
                refine v_iload_n K 1 dX8_ofReader_126 rfl rfl ?_
                refine v_callWi (As := [.int x1]) (rest := []) K mk_X8_64 dX8_ofReader_127 (Ctr.gidr (o := 2) (k_row_at (Nat.le_of_ble_eq_true rfl) (rl_40 (o := 2) rfl (hLs 0 (by decide))) rfl)) ((hLs 0 (by decide)) 40 (by decide)) rfl rfl rfl rfl rfl (Nat.le_of_ble_eq_true rfl) ⟨rfl, rfl⟩ ⟨Nat.le_of_ble_eq_true rfl, Nat.le_of_ble_eq_true rfl⟩ ?_
                exact v_iret K rfl dX8_ofReader_130 (ev_o hf) rfl
              · have hf := it_neg hw10_5 hf
                by_cases hw10_6 : x2 = 6
                · have hf := it_pos hw10_6 hf
                  have ht10 := tsi_6 hw10_6 (by decide)
                  refine v_tableIn (off := 121) (tgt := 131) K dX8_ofReader_10 ht10.1 ht10.2 (by rw [hw10_6]; rfl) (by decide) ?_
                  refine v_aload_n K 0 dX8_ofReader_131 rfl rfl ?_
                  refine v_get K fk_X8_10 dX8_ofReader_132 (hT 0 (by decide)) rfl rfl ?_
                  refine v_iload_n K 1 dX8_ofReader_135 rfl rfl ?_
                  obtain ⟨y1, hy1, hf⟩ := bd_el hf
                  refine v_callWi (As := [.int x1]) (rest := []) K mk_X8_178 dX8_ofReader_136 (Ctr.gidr (o := 2) (c_X3_notesThatCall (o := 2) rfl (hLs 0 (by decide)) hy1)) ((hLs 0 (by decide)) 0 (by decide)) rfl rfl rfl rfl rfl (Nat.le_of_ble_eq_true rfl) ⟨rfl, rfl⟩ ⟨Nat.le_of_ble_eq_true rfl, Nat.le_of_ble_eq_true rfl⟩ ?_
                  exact v_iret K rfl dX8_ofReader_139 (ev_o hf) rfl
                · have hf := it_neg hw10_6 hf
                  refine v_tableOut (tgt := 140) K dX8_ofReader_10 (tso_6 hw10_0 hw10_1 hw10_2 hw10_3 hw10_4 hw10_5 hw10_6) (by decide) ?_
                  refine v_bipush K dX8_ofReader_140 kb_m2 ?_
                  exact v_iret K rfl dX8_ofReader_142 (ev_o hf) rfl
  · have hf := it_pos hc1 hf
    refine v_iconst K dX8_ofReader_7 ki_m1 ?_
    exact v_iret K rfl dX8_ofReader_8 (ev_o hf) rfl
set_option maxRecDepth 20000 in
theorem c_X8_count (hT : TopG E) (hLs : ∀ b, b < 8 → LibG E b) {S : Gs}  {x1 : Int32} {r : Int32} (hf : f_X8_count S x1 = some r) : Ctr l D E A yX8_count cX8_count 2 (some .int) (rmD 3) [.ref (eA E 0 0), .int x1] (wl E S) (some (.int r)) (wl E S) := by
  refine Ctr.of (own := RX8) pn_X8 rfl (Nat.le_of_ble_eq_true rfl) ?_
  intro p e s m args below meth c K
  refine v_lv (lv' := [(0, .ref (eA E 0 0)), (1, .int x1)]) rfl ?_
  unfold f_X8_count at hf
  refine v_iload_n K 1 dX8_count_0 rfl rfl ?_
  by_cases hw1_0 : x1 = 0
  · have hf := it_pos hw1_0 hf
    have ht1 := tsi_12 hw1_0 (by decide)
    refine v_tableIn (off := 67) (tgt := 68) K dX8_count_1 ht1.1 ht1.2 (by rw [hw1_0]; rfl) (by decide) ?_
    refine v_aload_n K 0 dX8_count_68 rfl rfl ?_
    refine v_get K fk_X8_10 dX8_count_69 (hT 0 (by decide)) rfl rfl ?_
    refine v_getN K fn_X8_181 dX8_count_72 ((hLs 0 (by decide)) 0 (by decide)) rfl rfl ?_
    refine v_iconst K dX8_count_75 ki_0 ?_
    refine v_callWi (As := [.int 0]) (rest := []) K mk_X8_64 dX8_count_76 (Ctr.gidr (o := 2) (k_row_at (Nat.le_of_ble_eq_true rfl) (rl_28 (o := 2) rfl (hLs 0 (by decide))) rfl)) ((hLs 0 (by decide)) 28 (by decide)) rfl rfl rfl rfl rfl (Nat.le_of_ble_eq_true rfl) ⟨rfl, rfl⟩ ⟨Nat.le_of_ble_eq_true rfl, Nat.le_of_ble_eq_true rfl⟩ ?_
    exact v_iret K rfl dX8_count_79 (ev_o hf) rfl
  · have hf := it_neg hw1_0 hf
    by_cases hw1_1 : x1 = 1
    · have hf := it_pos hw1_1 hf
      have ht1 := tsi_12 hw1_1 (by decide)
      refine v_tableIn (off := 79) (tgt := 80) K dX8_count_1 ht1.1 ht1.2 (by rw [hw1_1]; rfl) (by decide) ?_
      refine v_aload_n K 0 dX8_count_80 rfl rfl ?_
      refine v_get K fk_X8_10 dX8_count_81 (hT 0 (by decide)) rfl rfl ?_
      refine v_getN K fn_X8_181 dX8_count_84 ((hLs 0 (by decide)) 0 (by decide)) rfl rfl ?_
      refine v_iconst K dX8_count_87 ki_1 ?_
      refine v_callWi (As := [.int 1]) (rest := []) K mk_X8_64 dX8_count_88 (Ctr.gidr (o := 2) (k_row_at (Nat.le_of_ble_eq_true rfl) (rl_28 (o := 2) rfl (hLs 0 (by decide))) rfl)) ((hLs 0 (by decide)) 28 (by decide)) rfl rfl rfl rfl rfl (Nat.le_of_ble_eq_true rfl) ⟨rfl, rfl⟩ ⟨Nat.le_of_ble_eq_true rfl, Nat.le_of_ble_eq_true rfl⟩ ?_
      exact v_iret K rfl dX8_count_91 (ev_o hf) rfl
    · have hf := it_neg hw1_1 hf
      by_cases hw1_2 : x1 = 2
      · have hf := it_pos hw1_2 hf
        have ht1 := tsi_12 hw1_2 (by decide)
        refine v_tableIn (off := 91) (tgt := 92) K dX8_count_1 ht1.1 ht1.2 (by rw [hw1_2]; rfl) (by decide) ?_
        refine v_aload_n K 0 dX8_count_92 rfl rfl ?_
        refine v_get K fk_X8_10 dX8_count_93 (hT 0 (by decide)) rfl rfl ?_
        refine v_getN K fn_X8_181 dX8_count_96 ((hLs 0 (by decide)) 0 (by decide)) rfl rfl ?_
        refine v_iconst K dX8_count_99 ki_2 ?_
        refine v_callWi (As := [.int 2]) (rest := []) K mk_X8_64 dX8_count_100 (Ctr.gidr (o := 2) (k_row_at (Nat.le_of_ble_eq_true rfl) (rl_28 (o := 2) rfl (hLs 0 (by decide))) rfl)) ((hLs 0 (by decide)) 28 (by decide)) rfl rfl rfl rfl rfl (Nat.le_of_ble_eq_true rfl) ⟨rfl, rfl⟩ ⟨Nat.le_of_ble_eq_true rfl, Nat.le_of_ble_eq_true rfl⟩ ?_
        exact v_iret K rfl dX8_count_103 (ev_o hf) rfl
      · have hf := it_neg hw1_2 hf
        by_cases hw1_3 : x1 = 3
        · have hf := it_pos hw1_3 hf
          have ht1 := tsi_12 hw1_3 (by decide)
          refine v_tableIn (off := 103) (tgt := 104) K dX8_count_1 ht1.1 ht1.2 (by rw [hw1_3]; rfl) (by decide) ?_
          refine v_aload_n K 0 dX8_count_104 rfl rfl ?_
          refine v_get K fk_X8_10 dX8_count_105 (hT 0 (by decide)) rfl rfl ?_
          refine v_getN K fn_X8_100 dX8_count_108 ((hLs 0 (by decide)) 0 (by decide)) rfl rfl ?_
          obtain ⟨y1, hy1, hf⟩ := bd_el hf
          refine v_callWi (As := []) (rest := []) K mk_X8_184 dX8_count_111 (Ctr.gidr (o := 2) (c_X7_howMany (o := 2) rfl (hLs 0 (by decide)) hy1)) ((hLs 0 (by decide)) 10 (by decide)) rfl rfl rfl rfl rfl (Nat.le_of_ble_eq_true rfl) ⟨rfl, rfl⟩ ⟨Nat.le_of_ble_eq_true rfl, Nat.le_of_ble_eq_true rfl⟩ ?_
          exact v_iret K rfl dX8_count_114 (ev_o hf) rfl
        · have hf := it_neg hw1_3 hf
          by_cases hw1_4 : x1 = 4
          · have hf := it_pos hw1_4 hf
            have ht1 := tsi_12 hw1_4 (by decide)
            refine v_tableIn (off := 114) (tgt := 115) K dX8_count_1 ht1.1 ht1.2 (by rw [hw1_4]; rfl) (by decide) ?_
            refine v_aload_n K 0 dX8_count_115 rfl rfl ?_
            refine v_get K fk_X8_10 dX8_count_116 (hT 0 (by decide)) rfl rfl ?_
            refine v_getN K fn_X8_100 dX8_count_119 ((hLs 0 (by decide)) 0 (by decide)) rfl rfl ?_
            obtain ⟨y2, hy2, hf⟩ := bd_el hf
            refine v_callWi (As := []) (rest := []) K mk_X8_187 dX8_count_122 (Ctr.gidr (o := 2) (c_X7_howManyChanged (o := 2) rfl (hLs 0 (by decide)) hy2)) ((hLs 0 (by decide)) 10 (by decide)) rfl rfl rfl rfl rfl (Nat.le_of_ble_eq_true rfl) ⟨rfl, rfl⟩ ⟨Nat.le_of_ble_eq_true rfl, Nat.le_of_ble_eq_true rfl⟩ ?_
            exact v_iret K rfl dX8_count_125 (ev_o hf) rfl
          · have hf := it_neg hw1_4 hf
            by_cases hw1_5 : x1 = 5
            · have hf := it_pos hw1_5 hf
              have ht1 := tsi_12 hw1_5 (by decide)
              refine v_tableIn (off := 125) (tgt := 126) K dX8_count_1 ht1.1 ht1.2 (by rw [hw1_5]; rfl) (by decide) ?_
              refine v_aload_n K 0 dX8_count_126 rfl rfl ?_
              refine v_get K fk_X8_10 dX8_count_127 (hT 0 (by decide)) rfl rfl ?_
              refine v_getN K fn_X8_46 dX8_count_130 ((hLs 0 (by decide)) 0 (by decide)) rfl rfl ?_
              obtain ⟨y3, hy3, hf⟩ := bd_el hf
              refine v_callWi (As := []) (rest := []) K mk_X8_50 dX8_count_133 (Ctr.gidr (o := 2) (c_X1_howManyInUse (o := 2) rfl (hLs 0 (by decide)) hy3)) ((hLs 0 (by decide)) 5 (by decide)) rfl rfl rfl rfl rfl (Nat.le_of_ble_eq_true rfl) ⟨rfl, rfl⟩ ⟨Nat.le_of_ble_eq_true rfl, Nat.le_of_ble_eq_true rfl⟩ ?_
              exact v_iret K rfl dX8_count_136 (ev_o hf) rfl
            · have hf := it_neg hw1_5 hf
              by_cases hw1_6 : x1 = 6
              · have hf := it_pos hw1_6 hf
                have ht1 := tsi_12 hw1_6 (by decide)
                refine v_tableIn (off := 136) (tgt := 137) K dX8_count_1 ht1.1 ht1.2 (by rw [hw1_6]; rfl) (by decide) ?_
                refine v_aload_n K 0 dX8_count_137 rfl rfl ?_
                refine v_get K fk_X8_10 dX8_count_138 (hT 0 (by decide)) rfl rfl ?_
                refine v_getN K fn_X8_46 dX8_count_141 ((hLs 0 (by decide)) 0 (by decide)) rfl rfl ?_
                obtain ⟨y4, hy4, hf⟩ := bd_el hf
                refine v_callWi (As := []) (rest := []) K mk_X8_190 dX8_count_144 (Ctr.gidr (o := 2) (c_X1_howManyGrouped (o := 2) rfl (hLs 0 (by decide)) hy4)) ((hLs 0 (by decide)) 5 (by decide)) rfl rfl rfl rfl rfl (Nat.le_of_ble_eq_true rfl) ⟨rfl, rfl⟩ ⟨Nat.le_of_ble_eq_true rfl, Nat.le_of_ble_eq_true rfl⟩ ?_
                exact v_iret K rfl dX8_count_147 (ev_o hf) rfl
              · have hf := it_neg hw1_6 hf
                by_cases hw1_7 : x1 = 7
                · have hf := it_pos hw1_7 hf
                  have ht1 := tsi_12 hw1_7 (by decide)
                  refine v_tableIn (off := 147) (tgt := 148) K dX8_count_1 ht1.1 ht1.2 (by rw [hw1_7]; rfl) (by decide) ?_
                  refine v_aload_n K 0 dX8_count_148 rfl rfl ?_
                  refine v_get K fk_X8_10 dX8_count_149 (hT 0 (by decide)) rfl rfl ?_
                  refine v_getN K fn_X8_60 dX8_count_152 ((hLs 0 (by decide)) 0 (by decide)) rfl rfl ?_
                  refine v_iconst K dX8_count_155 ki_0 ?_
                  refine v_callWi (As := [.int 0]) (rest := []) K mk_X8_64 dX8_count_156 (Ctr.gidr (o := 2) (k_row_at (Nat.le_of_ble_eq_true rfl) (rl_1 (o := 2) rfl (hLs 0 (by decide))) rfl)) ((hLs 0 (by decide)) 1 (by decide)) rfl rfl rfl rfl rfl (Nat.le_of_ble_eq_true rfl) ⟨rfl, rfl⟩ ⟨Nat.le_of_ble_eq_true rfl, Nat.le_of_ble_eq_true rfl⟩ ?_
                  exact v_iret K rfl dX8_count_159 (ev_o hf) rfl
                · have hf := it_neg hw1_7 hf
                  by_cases hw1_8 : x1 = 8
                  · have hf := it_pos hw1_8 hf
                    have ht1 := tsi_12 hw1_8 (by decide)
                    refine v_tableIn (off := 159) (tgt := 160) K dX8_count_1 ht1.1 ht1.2 (by rw [hw1_8]; rfl) (by decide) ?_
                    refine v_aload_n K 0 dX8_count_160 rfl rfl ?_
                    refine v_get K fk_X8_10 dX8_count_161 (hT 0 (by decide)) rfl rfl ?_
                    refine v_getN K fn_X8_60 dX8_count_164 ((hLs 0 (by decide)) 0 (by decide)) rfl rfl ?_
                    refine v_iconst K dX8_count_167 ki_1 ?_
                    refine v_callWi (As := [.int 1]) (rest := []) K mk_X8_64 dX8_count_168 (Ctr.gidr (o := 2) (k_row_at (Nat.le_of_ble_eq_true rfl) (rl_1 (o := 2) rfl (hLs 0 (by decide))) rfl)) ((hLs 0 (by decide)) 1 (by decide)) rfl rfl rfl rfl rfl (Nat.le_of_ble_eq_true rfl) ⟨rfl, rfl⟩ ⟨Nat.le_of_ble_eq_true rfl, Nat.le_of_ble_eq_true rfl⟩ ?_
                    exact v_iret K rfl dX8_count_171 (ev_o hf) rfl
                  · have hf := it_neg hw1_8 hf
                    by_cases hw1_9 : x1 = 9
                    · have hf := it_pos hw1_9 hf
                      have ht1 := tsi_12 hw1_9 (by decide)
                      refine v_tableIn (off := 171) (tgt := 172) K dX8_count_1 ht1.1 ht1.2 (by rw [hw1_9]; rfl) (by decide) ?_
                      refine v_aload_n K 0 dX8_count_172 rfl rfl ?_
                      refine v_get K fk_X8_10 dX8_count_173 (hT 0 (by decide)) rfl rfl ?_
                      refine v_getN K fn_X8_60 dX8_count_176 ((hLs 0 (by decide)) 0 (by decide)) rfl rfl ?_
                      refine v_iconst K dX8_count_179 ki_2 ?_
                      refine v_callWi (As := [.int 2]) (rest := []) K mk_X8_64 dX8_count_180 (Ctr.gidr (o := 2) (k_row_at (Nat.le_of_ble_eq_true rfl) (rl_1 (o := 2) rfl (hLs 0 (by decide))) rfl)) ((hLs 0 (by decide)) 1 (by decide)) rfl rfl rfl rfl rfl (Nat.le_of_ble_eq_true rfl) ⟨rfl, rfl⟩ ⟨Nat.le_of_ble_eq_true rfl, Nat.le_of_ble_eq_true rfl⟩ ?_
                      exact v_iret K rfl dX8_count_183 (ev_o hf) rfl
                    · have hf := it_neg hw1_9 hf
                      by_cases hw1_10 : x1 = 10
                      · have hf := it_pos hw1_10 hf
                        have ht1 := tsi_12 hw1_10 (by decide)
                        refine v_tableIn (off := 183) (tgt := 184) K dX8_count_1 ht1.1 ht1.2 (by rw [hw1_10]; rfl) (by decide) ?_
                        refine v_aload_n K 0 dX8_count_184 rfl rfl ?_
                        refine v_get K fk_X8_10 dX8_count_185 (hT 0 (by decide)) rfl rfl ?_
                        refine v_getN K fn_X8_60 dX8_count_188 ((hLs 0 (by decide)) 0 (by decide)) rfl rfl ?_
                        refine v_iconst K dX8_count_191 ki_3 ?_
                        refine v_callWi (As := [.int 3]) (rest := []) K mk_X8_64 dX8_count_192 (Ctr.gidr (o := 2) (k_row_at (Nat.le_of_ble_eq_true rfl) (rl_1 (o := 2) rfl (hLs 0 (by decide))) rfl)) ((hLs 0 (by decide)) 1 (by decide)) rfl rfl rfl rfl rfl (Nat.le_of_ble_eq_true rfl) ⟨rfl, rfl⟩ ⟨Nat.le_of_ble_eq_true rfl, Nat.le_of_ble_eq_true rfl⟩ ?_
                        exact v_iret K rfl dX8_count_195 (ev_o hf) rfl
                      · have hf := it_neg hw1_10 hf
                        by_cases hw1_11 : x1 = 11
                        · have hf := it_pos hw1_11 hf
                          have ht1 := tsi_12 hw1_11 (by decide)
                          refine v_tableIn (off := 195) (tgt := 196) K dX8_count_1 ht1.1 ht1.2 (by rw [hw1_11]; rfl) (by decide) ?_
                          refine v_aload_n K 0 dX8_count_196 rfl rfl ?_
                          refine v_get K fk_X8_41 dX8_count_197 (hT 0 (by decide)) rfl rfl ?_
                          refine v_getN K fn_X8_193 dX8_count_200 (hT 4 (by decide)) rfl rfl ?_
                          exact v_iret K rfl dX8_count_203 (ev_o hf) rfl
                        · have hf := it_neg hw1_11 hf
                          by_cases hw1_12 : x1 = 12
                          · have hf := it_pos hw1_12 hf
                            have ht1 := tsi_12 hw1_12 (by decide)
                            refine v_tableIn (off := 203) (tgt := 204) K dX8_count_1 ht1.1 ht1.2 (by rw [hw1_12]; rfl) (by decide) ?_
                            refine v_aload_n K 0 dX8_count_204 rfl rfl ?_
                            refine v_get K fk_X8_22 dX8_count_205 (hT 0 (by decide)) rfl rfl ?_
                            refine v_getN K fn_X8_199 dX8_count_208 (hT 1 (by decide)) rfl rfl ?_
                            exact v_iret K rfl dX8_count_211 (ev_o hf) rfl
                          · have hf := it_neg hw1_12 hf
                            refine v_tableOut (tgt := 212) K dX8_count_1 (tso_12 hw1_0 hw1_1 hw1_2 hw1_3 hw1_4 hw1_5 hw1_6 hw1_7 hw1_8 hw1_9 hw1_10 hw1_11 hw1_12) (by decide) ?_
                            refine v_bipush K dX8_count_212 kb_m2 ?_
                            exact v_iret K rfl dX8_count_214 (ev_o hf) rfl
set_option maxRecDepth 20000 in
theorem c_X8_costOfReading (hT : TopG E) (hLs : ∀ b, b < 8 → LibG E b) {S : Gs}  {x1 : Int32} {x2 : Int32} {r : Int32} (hf : f_X8_costOfReading S x1 x2 = some r) : Ctr l D E A yX8_costOfReading cX8_costOfReading 3 (some .int) (rmD 4) [.ref (eA E 0 0), .int x1, .int x2] (wl E S) (some (.int r)) (wl E S) := by
  refine Ctr.of (own := RX8) pn_X8 rfl (Nat.le_of_ble_eq_true rfl) ?_
  intro p e s m args below meth c K
  refine v_lv (lv' := [(0, .ref (eA E 0 0)), (1, .int x1), (2, .int x2)]) rfl ?_
  unfold f_X8_costOfReading at hf
  refine v_iload_n K 1 dX8_costOfReading_0 rfl rfl ?_
  refine v_callSi (As := [.int x1]) (rest := []) K mk_X8_148 dX8_costOfReading_1 (c_X8_isReader  rfl) rfl rfl (Nat.le_of_ble_eq_true rfl) ⟨rfl, rfl⟩ ⟨Nat.le_of_ble_eq_true rfl, Nat.le_of_ble_eq_true rfl⟩ ?_
  refine v_if_eq (tgt := 26) K dX8_costOfReading_4 (by decide) (fun hc1 => ?_) (fun hc1 => ?_)
  · have hf := it_pos hc1 hf
    refine v_iconst K dX8_costOfReading_26 ki_m1 ?_
    exact v_iret K rfl dX8_costOfReading_27 (ev_o hf) rfl
  · have hf := it_neg hc1 hf
    refine v_iload_n K 2 dX8_costOfReading_7 rfl rfl ?_
    refine v_callSi (As := [.int x2]) (rest := []) K mk_X8_115 dX8_costOfReading_8 (c_X8_isNote  rfl) rfl rfl (Nat.le_of_ble_eq_true rfl) ⟨rfl, rfl⟩ ⟨Nat.le_of_ble_eq_true rfl, Nat.le_of_ble_eq_true rfl⟩ ?_
    refine v_if_eq (tgt := 26) K dX8_costOfReading_11 (by decide) (fun hc2 => ?_) (fun hc2 => ?_)
    · have hf := it_pos hc2 hf
      refine v_iconst K dX8_costOfReading_26 ki_m1 ?_
      exact v_iret K rfl dX8_costOfReading_27 (ev_o hf) rfl
    · have hf := it_neg hc2 hf
      refine v_aload_n K 0 dX8_costOfReading_14 rfl rfl ?_
      refine v_get K fk_X8_10 dX8_costOfReading_15 (hT 0 (by decide)) rfl rfl ?_
      refine v_iload_n K 1 dX8_costOfReading_18 rfl rfl ?_
      refine v_iload_n K 2 dX8_costOfReading_19 rfl rfl ?_
      obtain ⟨y1, hy1, hf⟩ := bd_el hf
      refine v_callWi (As := [.int x1, .int x2]) (rest := []) K mk_X8_200 dX8_costOfReading_20 (Ctr.gidr (o := 2) (c_X3_messagesToRead (o := 2) rfl (hLs 0 (by decide)) hy1)) ((hLs 0 (by decide)) 0 (by decide)) rfl rfl rfl rfl rfl (Nat.le_of_ble_eq_true rfl) ⟨rfl, rfl⟩ ⟨Nat.le_of_ble_eq_true rfl, Nat.le_of_ble_eq_true rfl⟩ ?_
      refine v_goto (tgt := 27) K dX8_costOfReading_23 (by decide) ?_
      exact v_iret K rfl dX8_costOfReading_27 (ev_o hf) rfl
set_option maxRecDepth 20000 in
theorem c_X8_costOfChange (hT : TopG E) (hLs : ∀ b, b < 8 → LibG E b) {S : Gs}  {x1 : Int32} {x2 : Int32} {x3 : Int32} {r : Int32} (hf : f_X8_costOfChange S x1 x2 x3 = some r) : Ctr l D E A yX8_costOfChange cX8_costOfChange 4 (some .int) (rmD 4) [.ref (eA E 0 0), .int x1, .int x2, .int x3] (wl E S) (some (.int r)) (wl E S) := by
  refine Ctr.of (own := RX8) pn_X8 rfl (Nat.le_of_ble_eq_true rfl) ?_
  intro p e s m args below meth c K
  refine v_lv (lv' := [(0, .ref (eA E 0 0)), (1, .int x1), (2, .int x2), (3, .int x3)]) rfl ?_
  unfold f_X8_costOfChange at hf
  refine v_iload_n K 1 dX8_costOfChange_0 rfl rfl ?_
  refine v_callSi (As := [.int x1]) (rest := []) K mk_X8_148 dX8_costOfChange_1 (c_X8_isReader  rfl) rfl rfl (Nat.le_of_ble_eq_true rfl) ⟨rfl, rfl⟩ ⟨Nat.le_of_ble_eq_true rfl, Nat.le_of_ble_eq_true rfl⟩ ?_
  refine v_if_eq (tgt := 14) K dX8_costOfChange_4 (by decide) (fun hc1 => ?_) (fun hc1 => ?_)
  · have hf := it_pos hc1 hf
    refine v_iconst K dX8_costOfChange_14 ki_m1 ?_
    exact v_iret K rfl dX8_costOfChange_15 (ev_o hf) rfl
  · have hf := it_neg hc1 hf
    refine v_iload_n K 2 dX8_costOfChange_7 rfl rfl ?_
    refine v_callSi (As := [.int x2]) (rest := []) K mk_X8_115 dX8_costOfChange_8 (c_X8_isNote  rfl) rfl rfl (Nat.le_of_ble_eq_true rfl) ⟨rfl, rfl⟩ ⟨Nat.le_of_ble_eq_true rfl, Nat.le_of_ble_eq_true rfl⟩ ?_
    refine v_if_ne (tgt := 16) K dX8_costOfChange_11 (by decide) (fun hc2 => ?_) (fun hc2 => ?_)
    · have hf := it_neg hc2 hf
      refine v_iload_n K 3 dX8_costOfChange_16 rfl rfl ?_
      by_cases hw17_0 : x3 = 0
      · have hf := it_pos hw17_0 hf
        refine v_lookup (tgt := 44) (off := 27) K dX8_costOfChange_17 (by decide) (by rw [hw17_0]; decide) (by decide) ?_
        refine v_aload_n K 0 dX8_costOfChange_44 rfl rfl ?_
        refine v_get K fk_X8_10 dX8_costOfChange_45 (hT 0 (by decide)) rfl rfl ?_
        refine v_iload_n K 1 dX8_costOfChange_48 rfl rfl ?_
        refine v_iload_n K 2 dX8_costOfChange_49 rfl rfl ?_
        obtain ⟨y1, hy1, hf⟩ := bd_el hf
        refine v_callWi (As := [.int x1, .int x2]) (rest := []) K mk_X8_203 dX8_costOfChange_50 (Ctr.gidr (o := 2) (c_X3_messagesToChange (o := 2) rfl (hLs 0 (by decide)) hy1)) ((hLs 0 (by decide)) 0 (by decide)) rfl rfl rfl rfl rfl (Nat.le_of_ble_eq_true rfl) ⟨rfl, rfl⟩ ⟨Nat.le_of_ble_eq_true rfl, Nat.le_of_ble_eq_true rfl⟩ ?_
        exact v_iret K rfl dX8_costOfChange_53 (ev_o hf) rfl
      · have hf := it_neg hw17_0 hf
        by_cases hw17_1 : x3 = 1
        · have hf := it_pos hw17_1 hf
          refine v_lookup (tgt := 54) (off := 37) K dX8_costOfChange_17 (by decide) (by rw [hw17_1]; decide) (by decide) ?_
          refine v_aload_n K 0 dX8_costOfChange_54 rfl rfl ?_
          refine v_get K fk_X8_10 dX8_costOfChange_55 (hT 0 (by decide)) rfl rfl ?_
          refine v_iload_n K 1 dX8_costOfChange_58 rfl rfl ?_
          refine v_iload_n K 2 dX8_costOfChange_59 rfl rfl ?_
          obtain ⟨y2, hy2, hf⟩ := bd_el hf
          refine v_callWi (As := [.int x1, .int x2]) (rest := []) K mk_X8_206 dX8_costOfChange_60 (Ctr.gidr (o := 2) (c_X3_wastedToChange (o := 2) rfl (hLs 0 (by decide)) hy2)) ((hLs 0 (by decide)) 0 (by decide)) rfl rfl rfl rfl rfl (Nat.le_of_ble_eq_true rfl) ⟨rfl, rfl⟩ ⟨Nat.le_of_ble_eq_true rfl, Nat.le_of_ble_eq_true rfl⟩ ?_
          exact v_iret K rfl dX8_costOfChange_63 (ev_o hf) rfl
        · have hf := it_neg hw17_1 hf
          refine v_lookup (tgt := 64) (off := 47) K dX8_costOfChange_17 (by decide) (by simp [lookupswitch.offset, ne_toInt (z := 0) (by decide) hw17_0, ne_toInt (z := 1) (by decide) hw17_1]) (by decide) ?_
          refine v_bipush K dX8_costOfChange_64 kb_m2 ?_
          exact v_iret K rfl dX8_costOfChange_66 (ev_o hf) rfl
    · have hf := it_pos hc2 hf
      refine v_iconst K dX8_costOfChange_14 ki_m1 ?_
      exact v_iret K rfl dX8_costOfChange_15 (ev_o hf) rfl
set_option maxRecDepth 20000 in
theorem c_X8_cheapest (hT : TopG E) (hLs : ∀ b, b < 8 → LibG E b) {S : Gs}  {x1 : Int32} {r : Int32} (hf : f_X8_cheapest S x1 = some r) : Ctr l D E A yX8_cheapest cX8_cheapest 6 (some .int) (rmD 4) [.ref (eA E 0 0), .int x1] (wl E S) (some (.int r)) (wl E S) := by
  refine Ctr.of (own := RX8) pn_X8 rfl (Nat.le_of_ble_eq_true rfl) ?_
  intro p e s m args below meth c K
  refine v_lv (lv' := [(0, .ref (eA E 0 0)), (1, .int x1)]) rfl ?_
  have L24 : ∀ (x1 : Int32) (S : Gs), ∀ (n : Nat) (x2 : Int32) (x3 : Int32) (x4 : Int32), f_X8_cheapest_L24 x1 S n x2 x3 x4 = some r → VV p l e (rmD 4) s m args below meth c (MQ below (CQ D A (some (.int r)) (wl E S)) args s 0 0 A) D A 6 (0, 0) 24 [] [(0, .ref (eA E 0 0)), (1, .int x1), (2, .int x2), (3, .int x3), (4, .int x4)] (wl E S) := by
    intro x1 S n
    induction n with
    | zero =>
      intro x2 x3 x4 hf
      rw [f_X8_cheapest_L24] at hf
      cases hf
    | succ n ih =>
      intro x2 x3 x4 hf
      rw [f_X8_cheapest_L24] at hf
      refine v_iload K 4 dX8_cheapest_24 rfl ?_
      refine v_bipush K dX8_cheapest_26 kb_16 ?_
      refine v_icmp_ge (tgt := 61) K dX8_cheapest_28 (by decide) (fun hc2 => ?_) (fun hc2 => ?_)
      · have hf := it_pos hc2 hf
        refine v_iload_n K 2 dX8_cheapest_61 rfl rfl ?_
        exact v_iret K rfl dX8_cheapest_62 (ev_o hf) rfl
      · have hf := it_neg hc2 hf
        refine v_aload_n K 0 dX8_cheapest_31 rfl rfl ?_
        refine v_get K fk_X8_10 dX8_cheapest_32 (hT 0 (by decide)) rfl rfl ?_
        refine v_iload K 4 dX8_cheapest_35 rfl ?_
        refine v_iload_n K 1 dX8_cheapest_37 rfl rfl ?_
        obtain ⟨y2, hy2, hf⟩ := bd_el hf
        refine v_callWi (As := [.int x4, .int x1]) (rest := []) K mk_X8_203 dX8_cheapest_38 (Ctr.gidr (o := 2) (c_X3_messagesToChange (o := 2) rfl (hLs 0 (by decide)) hy2)) ((hLs 0 (by decide)) 0 (by decide)) rfl rfl rfl rfl rfl (Nat.le_of_ble_eq_true rfl) ⟨rfl, rfl⟩ ⟨Nat.le_of_ble_eq_true rfl, Nat.le_of_ble_eq_true rfl⟩ ?_
        refine v_istore (lv' := [(5, .int y2), (0, .ref (eA E 0 0)), (1, .int x1), (2, .int x2), (3, .int x3), (4, .int x4)]) K dX8_cheapest_41 (by decide) rfl ?_
        refine v_iload K 0 dX8_cheapest_43 rfl ?_
        refine v_iload_n K 4 dX8_cheapest_45 rfl rfl ?_
        have hj3 : ∀ (w1 : Int32) (w2 : Int32), w1 = (if x3 ≤ y2 then x2 else x4 : Int32) → w2 = (if x3 ≤ y2 then x3 else y2 : Int32) → VV p l e (rmD 4) s m args below meth c (MQ below (CQ D A (some (.int r)) (wl E S)) args s 0 0 A) D A 6 (0, 0) 55 [] [(0, .ref (eA E 0 0)), (1, .int x1), (2, .int w1), (3, .int w2), (4, .int x4)] (wl E S) := by
          intro w1 w2 ew1 ew2
          subst ew1
          subst ew2
          refine v_iinc (v := x4 + 1) (lv' := [(4, .int (x4 + 1)), (0, .ref (eA E 0 0)), (1, .int x1), (2, .int (if x3 ≤ y2 then x2 else x4 : Int32)), (3, .int (if x3 ≤ y2 then x3 else y2 : Int32))]) K 4 dX8_cheapest_55 rfl rfl (by decide) rfl ?_
          refine v_goto (tgt := 24) K dX8_cheapest_58 (by decide) ?_
          exact v_lsub [1, 2, 3, 4, 0] rfl (ih (if x3 ≤ y2 then x2 else x4 : Int32) (if x3 ≤ y2 then x3 else y2 : Int32) (x4 + 1) hf)
        refine v_icmp_ge (tgt := 55) K dX8_cheapest_46 (by decide) (fun hc3 => ?_) (fun hc3 => ?_)
        · exact v_lsub [1, 2, 3, 4, 5] rfl (hj3 x2 x3 (if_pos hc3).symm (if_pos hc3).symm)
        · refine v_iload K 5 dX8_cheapest_49 rfl ?_
          refine v_istore_n (lv' := [(2, .int x4), (5, .int y2), (0, .ref (eA E 0 0)), (1, .int x1), (3, .int x3), (4, .int x4)]) K dX8_cheapest_51 rfl (by decide) rfl ?_
          refine v_iload K 1 dX8_cheapest_52 rfl ?_
          refine v_istore_n (lv' := [(3, .int y2), (2, .int x4), (5, .int y2), (0, .ref (eA E 0 0)), (1, .int x1), (4, .int x4)]) K dX8_cheapest_54 rfl (by decide) rfl ?_
          exact v_lsub [3, 4, 1, 0, 5] rfl (hj3 x4 y2 (if_neg hc3).symm (if_neg hc3).symm)
  unfold f_X8_cheapest at hf
  refine v_iload_n K 1 dX8_cheapest_0 rfl rfl ?_
  refine v_callSi (As := [.int x1]) (rest := []) K mk_X8_115 dX8_cheapest_1 (c_X8_isNote  rfl) rfl rfl (Nat.le_of_ble_eq_true rfl) ⟨rfl, rfl⟩ ⟨Nat.le_of_ble_eq_true rfl, Nat.le_of_ble_eq_true rfl⟩ ?_
  refine v_if_ne (tgt := 9) K dX8_cheapest_4 (by decide) (fun hc1 => ?_) (fun hc1 => ?_)
  · have hf := it_neg hc1 hf
    refine v_iconst K dX8_cheapest_9 ki_0 ?_
    refine v_istore_n (lv' := [(2, .int 0), (0, .ref (eA E 0 0)), (1, .int x1)]) K dX8_cheapest_10 rfl (by decide) rfl ?_
    refine v_aload_n K 1 dX8_cheapest_11 rfl rfl ?_
    refine v_get K fk_X8_10 dX8_cheapest_12 (hT 0 (by decide)) rfl rfl ?_
    refine v_iconst K dX8_cheapest_15 ki_0 ?_
    refine v_iload_n K 2 dX8_cheapest_16 rfl rfl ?_
    obtain ⟨y1, hy1, hf⟩ := bd_el hf
    refine v_callWi (As := [.int 0, .int x1]) (rest := []) K mk_X8_203 dX8_cheapest_17 (Ctr.gidr (o := 2) (c_X3_messagesToChange (o := 2) rfl (hLs 0 (by decide)) hy1)) ((hLs 0 (by decide)) 0 (by decide)) rfl rfl rfl rfl rfl (Nat.le_of_ble_eq_true rfl) ⟨rfl, rfl⟩ ⟨Nat.le_of_ble_eq_true rfl, Nat.le_of_ble_eq_true rfl⟩ ?_
    refine v_istore_n (lv' := [(3, .int y1), (2, .int 0), (0, .ref (eA E 0 0)), (1, .int x1)]) K dX8_cheapest_20 rfl (by decide) rfl ?_
    refine v_iconst K dX8_cheapest_21 ki_1 ?_
    refine v_istore (lv' := [(4, .int 1), (3, .int y1), (2, .int 0), (0, .ref (eA E 0 0)), (1, .int x1)]) K dX8_cheapest_22 (by decide) rfl ?_
    refine v_lsub [3, 4, 2, 1, 0] rfl ?_
    exact L24 x1 S 5000 0 y1 1 hf
  · have hf := it_pos hc1 hf
    refine v_iconst K dX8_cheapest_7 ki_m1 ?_
    exact v_iret K rfl dX8_cheapest_8 (ev_o hf) rfl
set_option maxRecDepth 20000 in
theorem c_X8_loudest (hT : TopG E) (hLs : ∀ b, b < 8 → LibG E b) {S : Gs}  {x1 : Int32} {r : Int32} (hf : f_X8_loudest S x1 = some r) : Ctr l D E A yX8_loudest cX8_loudest 6 (some .int) (rmD 4) [.ref (eA E 0 0), .int x1] (wl E S) (some (.int r)) (wl E S) := by
  refine Ctr.of (own := RX8) pn_X8 rfl (Nat.le_of_ble_eq_true rfl) ?_
  intro p e s m args below meth c K
  refine v_lv (lv' := [(0, .ref (eA E 0 0)), (1, .int x1)]) rfl ?_
  have L20 : ∀ (x1 : Int32) (S : Gs), ∀ (k : Int32 → Int32 → Int32 → Option (Int32)), (∀ (x2 : Int32) (x3 : Int32) (x4 : Int32), k x2 x3 x4 = some r → VV p l e (rmD 4) s m args below meth c (MQ below (CQ D A (some (.int r)) (wl E S)) args s 0 0 A) D A 6 (0, 0) 56 [] [(1, .int x1), (2, .int x2), (3, .int x3)] (wl E S)) → ∀ (n : Nat) (x2 : Int32) (x3 : Int32) (x4 : Int32), f_X8_loudest_L20 x1 S k n x2 x3 x4 = some r → VV p l e (rmD 4) s m args below meth c (MQ below (CQ D A (some (.int r)) (wl E S)) args s 0 0 A) D A 6 (0, 0) 20 [] [(0, .ref (eA E 0 0)), (1, .int x1), (2, .int x2), (3, .int x3), (4, .int x4)] (wl E S) := by
    intro x1 S k hk n
    induction n with
    | zero =>
      intro x2 x3 x4 hf
      rw [f_X8_loudest_L20] at hf
      cases hf
    | succ n ih =>
      intro x2 x3 x4 hf
      rw [f_X8_loudest_L20] at hf
      refine v_iload K 4 dX8_loudest_20 rfl ?_
      refine v_bipush K dX8_loudest_22 kb_24 ?_
      refine v_icmp_ge (tgt := 56) K dX8_loudest_24 (by decide) (fun hc2 => ?_) (fun hc2 => ?_)
      · have hf := it_pos hc2 hf
        exact v_lsub [1, 2, 3] rfl (hk x2 x3 x4 hf)
      · have hf := it_neg hc2 hf
        refine v_aload_n K 0 dX8_loudest_27 rfl rfl ?_
        refine v_get K fk_X8_10 dX8_loudest_28 (hT 0 (by decide)) rfl rfl ?_
        refine v_iload K 4 dX8_loudest_31 rfl ?_
        obtain ⟨y1, hy1, hf⟩ := bd_el hf
        refine v_callWi (As := [.int x4]) (rest := []) K mk_X8_209 dX8_loudest_33 (Ctr.gidr (o := 2) (c_X3_fewestWasted (o := 2) rfl (hLs 0 (by decide)) hy1)) ((hLs 0 (by decide)) 0 (by decide)) rfl rfl rfl rfl rfl (Nat.le_of_ble_eq_true rfl) ⟨rfl, rfl⟩ ⟨Nat.le_of_ble_eq_true rfl, Nat.le_of_ble_eq_true rfl⟩ ?_
        refine v_istore (lv' := [(5, .int y1), (0, .ref (eA E 0 0)), (1, .int x1), (2, .int x2), (3, .int x3), (4, .int x4)]) K dX8_loudest_36 (by decide) rfl ?_
        refine v_iload K 0 dX8_loudest_38 rfl ?_
        refine v_iload_n K 4 dX8_loudest_40 rfl rfl ?_
        have hj2 : ∀ (w1 : Int32) (w2 : Int32), w1 = (if y1 ≤ x3 then x2 else x4 : Int32) → w2 = (if y1 ≤ x3 then x3 else y1 : Int32) → VV p l e (rmD 4) s m args below meth c (MQ below (CQ D A (some (.int r)) (wl E S)) args s 0 0 A) D A 6 (0, 0) 50 [] [(0, .ref (eA E 0 0)), (1, .int x1), (2, .int w1), (3, .int w2), (4, .int x4)] (wl E S) := by
          intro w1 w2 ew1 ew2
          subst ew1
          subst ew2
          refine v_iinc (v := x4 + 1) (lv' := [(4, .int (x4 + 1)), (0, .ref (eA E 0 0)), (1, .int x1), (2, .int (if y1 ≤ x3 then x2 else x4 : Int32)), (3, .int (if y1 ≤ x3 then x3 else y1 : Int32))]) K 4 dX8_loudest_50 rfl rfl (by decide) rfl ?_
          refine v_goto (tgt := 20) K dX8_loudest_53 (by decide) ?_
          exact v_lsub [1, 2, 3, 4, 0] rfl (ih (if y1 ≤ x3 then x2 else x4 : Int32) (if y1 ≤ x3 then x3 else y1 : Int32) (x4 + 1) hf)
        refine v_icmp_le (tgt := 50) K dX8_loudest_41 (by decide) (fun hc3 => ?_) (fun hc3 => ?_)
        · exact v_lsub [1, 2, 3, 4, 5] rfl (hj2 x2 x3 (if_pos hc3).symm (if_pos hc3).symm)
        · refine v_iload K 5 dX8_loudest_44 rfl ?_
          refine v_istore_n (lv' := [(2, .int x4), (5, .int y1), (0, .ref (eA E 0 0)), (1, .int x1), (3, .int x3), (4, .int x4)]) K dX8_loudest_46 rfl (by decide) rfl ?_
          refine v_iload K 1 dX8_loudest_47 rfl ?_
          refine v_istore_n (lv' := [(3, .int y1), (2, .int x4), (5, .int y1), (0, .ref (eA E 0 0)), (1, .int x1), (4, .int x4)]) K dX8_loudest_49 rfl (by decide) rfl ?_
          exact v_lsub [3, 4, 1, 0, 5] rfl (hj2 x4 y1 (if_neg hc3).symm (if_neg hc3).symm)
  unfold f_X8_loudest at hf
  refine v_iload_n K 1 dX8_loudest_0 rfl rfl ?_
  refine v_if_eq (tgt := 12) K dX8_loudest_1 (by decide) (fun hc1 => ?_) (fun hc1 => ?_)
  · have hf := it_pos hc1 hf
    refine v_bipush K dX8_loudest_12 kb_m6 ?_
    refine v_istore_n (lv' := [(2, .int (-6)), (0, .ref (eA E 0 0)), (1, .int x1)]) K dX8_loudest_14 rfl (by decide) rfl ?_
    refine v_iconst K dX8_loudest_15 ki_0 ?_
    refine v_istore_n (lv' := [(3, .int 0), (2, .int (-6)), (0, .ref (eA E 0 0)), (1, .int x1)]) K dX8_loudest_16 rfl (by decide) rfl ?_
    refine v_iconst K dX8_loudest_17 ki_0 ?_
    refine v_istore (lv' := [(4, .int 0), (3, .int 0), (2, .int (-6)), (0, .ref (eA E 0 0)), (1, .int x1)]) K dX8_loudest_18 (by decide) rfl ?_
    refine v_lsub [3, 4, 2, 1, 0] rfl ?_
    refine L20 x1 S _ ?_ 5000 (-6) 0 0 hf
    intro x2_56 x3_56 x4_56 hf
    refine v_iload_n K 1 dX8_loudest_56 rfl rfl ?_
    refine v_bipush K dX8_loudest_57 kb_m6 ?_
    refine v_icmp_eq (tgt := 66) K dX8_loudest_59 (by decide) (fun hc4 => ?_) (fun hc4 => ?_)
    · have hf := it_pos hc4 hf
      refine v_iload_n K 1 dX8_loudest_66 rfl rfl ?_
      refine v_goto (tgt := 71) K dX8_loudest_67 (by decide) ?_
      exact v_iret K rfl dX8_loudest_71 (ev_o hf) rfl
    · have hf := it_neg hc4 hf
      refine v_iload_n K 0 dX8_loudest_62 rfl rfl ?_
      refine v_if_ne (tgt := 70) K dX8_loudest_63 (by decide) (fun hc5 => ?_) (fun hc5 => ?_)
      · have hf := it_neg hc5 hf
        refine v_iload_n K 2 dX8_loudest_70 rfl rfl ?_
        exact v_iret K rfl dX8_loudest_71 (ev_o hf) rfl
      · have hf := it_pos hc5 hf
        refine v_iload_n K 1 dX8_loudest_66 rfl rfl ?_
        refine v_goto (tgt := 71) K dX8_loudest_67 (by decide) ?_
        exact v_iret K rfl dX8_loudest_71 (ev_o hf) rfl
  · have hf := it_neg hc1 hf
    refine v_iload_n K 1 dX8_loudest_4 rfl rfl ?_
    refine v_iconst K dX8_loudest_5 ki_1 ?_
    refine v_icmp_eq (tgt := 12) K dX8_loudest_6 (by decide) (fun hc6 => ?_) (fun hc6 => ?_)
    · have hf := it_pos hc6 hf
      refine v_bipush K dX8_loudest_12 kb_m6 ?_
      refine v_istore_n (lv' := [(2, .int (-6)), (0, .ref (eA E 0 0)), (1, .int x1)]) K dX8_loudest_14 rfl (by decide) rfl ?_
      refine v_iconst K dX8_loudest_15 ki_0 ?_
      refine v_istore_n (lv' := [(3, .int 0), (2, .int (-6)), (0, .ref (eA E 0 0)), (1, .int x1)]) K dX8_loudest_16 rfl (by decide) rfl ?_
      refine v_iconst K dX8_loudest_17 ki_0 ?_
      refine v_istore (lv' := [(4, .int 0), (3, .int 0), (2, .int (-6)), (0, .ref (eA E 0 0)), (1, .int x1)]) K dX8_loudest_18 (by decide) rfl ?_
      refine v_lsub [3, 4, 2, 1, 0] rfl ?_
      refine L20 x1 S _ ?_ 5000 (-6) 0 0 hf
      intro x2_56 x3_56 x4_56 hf
      refine v_iload_n K 1 dX8_loudest_56 rfl rfl ?_
      refine v_bipush K dX8_loudest_57 kb_m6 ?_
      refine v_icmp_eq (tgt := 66) K dX8_loudest_59 (by decide) (fun hc9 => ?_) (fun hc9 => ?_)
      · have hf := it_pos hc9 hf
        refine v_iload_n K 1 dX8_loudest_66 rfl rfl ?_
        refine v_goto (tgt := 71) K dX8_loudest_67 (by decide) ?_
        exact v_iret K rfl dX8_loudest_71 (ev_o hf) rfl
      · have hf := it_neg hc9 hf
        refine v_iload_n K 0 dX8_loudest_62 rfl rfl ?_
        refine v_if_ne (tgt := 70) K dX8_loudest_63 (by decide) (fun hc10 => ?_) (fun hc10 => ?_)
        · have hf := it_neg hc10 hf
          refine v_iload_n K 2 dX8_loudest_70 rfl rfl ?_
          exact v_iret K rfl dX8_loudest_71 (ev_o hf) rfl
        · have hf := it_pos hc10 hf
          refine v_iload_n K 1 dX8_loudest_66 rfl rfl ?_
          refine v_goto (tgt := 71) K dX8_loudest_67 (by decide) ?_
          exact v_iret K rfl dX8_loudest_71 (ev_o hf) rfl
    · have hf := it_neg hc6 hf
      refine v_bipush K dX8_loudest_9 kb_m2 ?_
      exact v_iret K rfl dX8_loudest_11 (ev_o hf) rfl
set_option maxRecDepth 20000 in
theorem c_X8_accountWith (hT : TopG E) (hLs : ∀ b, b < 8 → LibG E b) {S S' : Gs}  {x1 : Int32} {x2 : Int32} {r : Int32} (hf : f_X8_accountWith S x1 x2 = some (r, S')) : Ctr l D E A yX8_accountWith cX8_accountWith 3 (some .int) (rmD 6) [.ref (eA E 0 0), .int x1, .int x2] (wl E S) (some (.int r)) (wl E S') := by
  refine Ctr.of (own := RX8) pn_X8 rfl (Nat.le_of_ble_eq_true rfl) ?_
  intro p e s m args below meth c K
  refine v_lv (lv' := [(0, .ref (eA E 0 0)), (1, .int x1), (2, .int x2)]) rfl ?_
  unfold f_X8_accountWith at hf
  refine v_iconst K dX8_accountWith_0 ki_0 ?_
  refine v_iload_n K 1 dX8_accountWith_1 rfl rfl ?_
  obtain ⟨y1, hy1, hf⟩ := bd_el hf
  refine v_callSi (As := [.int 0, .int x1]) (rest := []) K mk_X8_42 dX8_accountWith_2 (c_X8_isValueOf  hy1) rfl rfl (Nat.le_of_ble_eq_true rfl) ⟨rfl, rfl⟩ ⟨Nat.le_of_ble_eq_true rfl, Nat.le_of_ble_eq_true rfl⟩ ?_
  refine v_if_eq (tgt := 16) K dX8_accountWith_5 (by decide) (fun hc1 => ?_) (fun hc1 => ?_)
  · have hf := it_pos hc1 hf
    refine v_bipush K dX8_accountWith_16 kb_m2 ?_
    exact v_iret K rfl dX8_accountWith_18 (ev_q hf) (eg_q hf)
  · have hf := it_neg hc1 hf
    refine v_iconst K dX8_accountWith_8 ki_1 ?_
    refine v_iload_n K 2 dX8_accountWith_9 rfl rfl ?_
    obtain ⟨y2, hy2, hf⟩ := bd_el hf
    refine v_callSi (As := [.int 1, .int x2]) (rest := []) K mk_X8_42 dX8_accountWith_10 (c_X8_isValueOf  hy2) rfl rfl (Nat.le_of_ble_eq_true rfl) ⟨rfl, rfl⟩ ⟨Nat.le_of_ble_eq_true rfl, Nat.le_of_ble_eq_true rfl⟩ ?_
    refine v_if_ne (tgt := 19) K dX8_accountWith_13 (by decide) (fun hc2 => ?_) (fun hc2 => ?_)
    · have hf := it_neg hc2 hf
      refine v_aload_n K 0 dX8_accountWith_19 rfl rfl ?_
      refine v_get K fk_X8_16 dX8_accountWith_20 (hT 0 (by decide)) rfl rfl ?_
      refine v_aload_n K 0 dX8_accountWith_23 rfl rfl ?_
      refine v_get K fk_X8_10 dX8_accountWith_24 (hT 0 (by decide)) rfl rfl ?_
      refine v_iload_n K 1 dX8_accountWith_27 rfl rfl ?_
      refine v_iload_n K 2 dX8_accountWith_28 rfl rfl ?_
      obtain ⟨y4, S3, hS3, hf⟩ := bdp_el hf
      refine v_callWi (As := [.ref (eA E 2 0), .int x1, .int x2]) (rest := []) K mk_X8_212 dX8_accountWith_29 (c_X3_messagesOfAccount (hLs 1 (by decide)) (hLs 0 (by decide)) hS3) ((hLs 1 (by decide)) 0 (by decide)) rfl rfl rfl rfl rfl (Nat.le_of_ble_eq_true rfl) ⟨rfl, rfl⟩ ⟨Nat.le_of_ble_eq_true rfl, Nat.le_of_ble_eq_true rfl⟩ ?_
      exact v_iret K rfl dX8_accountWith_32 (ev_q hf) (eg_q hf)
    · have hf := it_pos hc2 hf
      refine v_bipush K dX8_accountWith_16 kb_m2 ?_
      exact v_iret K rfl dX8_accountWith_18 (ev_q hf) (eg_q hf)
set_option maxRecDepth 20000 in
theorem c_X8_best (hT : TopG E) (hLs : ∀ b, b < 8 → LibG E b) {S S' : Gs}  {x1 : Int32} {r : Int32} (hf : f_X8_best S x1 = some (r, S')) : Ctr l D E A yX8_best cX8_best 8 (some .int) (rmD 6) [.ref (eA E 0 0), .int x1] (wl E S) (some (.int r)) (wl E S') := by
  refine Ctr.of (own := RX8) pn_X8 rfl (Nat.le_of_ble_eq_true rfl) ?_
  intro p e s m args below meth c K
  refine v_lv (lv' := [(0, .ref (eA E 0 0)), (1, .int x1)]) rfl ?_
  have L44 : ∀ (x1 : Int32) (x5 : Int32), ∀ (k : Int32 → Int32 → Int32 → Int32 → Gs → Option (Int32 × Gs)), (∀ (x2 : Int32) (x3 : Int32) (x4 : Int32) (x6 : Int32) (S : Gs), k x2 x3 x4 x6 S = some (r, S') → VV p l e (rmD 6) s m args below meth c (MQ below (CQ D A (some (.int r)) (wl E S')) args s 0 0 A) D A 8 (0, 0) 101 [] [(0, .ref (eA E 0 0)), (1, .int x1), (2, .int x2), (3, .int x3), (4, .int x4), (5, .int x5)] (wl E S)) → ∀ (n : Nat) (x2 : Int32) (x3 : Int32) (x4 : Int32) (x6 : Int32) (S : Gs), f_X8_best_L44 x1 x5 k n x2 x3 x4 x6 S = some (r, S') → VV p l e (rmD 6) s m args below meth c (MQ below (CQ D A (some (.int r)) (wl E S')) args s 0 0 A) D A 8 (0, 0) 44 [] [(0, .ref (eA E 0 0)), (1, .int x1), (2, .int x2), (3, .int x3), (4, .int x4), (5, .int x5), (6, .int x6)] (wl E S) := by
    intro x1 x5 k hk n
    induction n with
    | zero =>
      intro x2 x3 x4 x6 S hf
      rw [f_X8_best_L44] at hf
      cases hf
    | succ n ih =>
      intro x2 x3 x4 x6 S hf
      rw [f_X8_best_L44] at hf
      refine v_iload K 6 dX8_best_44 rfl ?_
      refine v_gets_high K flX8_220 dX8_best_46 (fun t4 ht4 => ?_)
      refine v_iconst K dX8_best_49 ki_1 ?_
      refine v_ti K ht4 dX8_best_50 (by unfold vp_in; decide) ?_
      refine v_icmp_gt (tgt := 101) K dX8_best_51 (by decide) (fun hc4 => ?_) (fun hc4 => ?_)
      · have hf := it_pos hc4 hf
        exact v_lsub [0, 1, 2, 3, 4, 5] rfl (hk x2 x3 x4 x6 S hf)
      · have hf := it_neg hc4 hf
        refine v_aload_n K 0 dX8_best_54 rfl rfl ?_
        refine v_get K fk_X8_16 dX8_best_55 (hT 0 (by decide)) rfl rfl ?_
        refine v_aload_n K 0 dX8_best_58 rfl rfl ?_
        refine v_get K fk_X8_10 dX8_best_59 (hT 0 (by decide)) rfl rfl ?_
        refine v_iload K 5 dX8_best_62 rfl ?_
        refine v_iload K 6 dX8_best_64 rfl ?_
        obtain ⟨y6, S5, hS5, hf⟩ := bdp_el hf
        refine v_callWi (As := [.ref (eA E 2 0), .int x5, .int x6]) (rest := []) K mk_X8_212 dX8_best_66 (c_X3_messagesOfAccount (hLs 1 (by decide)) (hLs 0 (by decide)) hS5) ((hLs 1 (by decide)) 0 (by decide)) rfl rfl rfl rfl rfl (Nat.le_of_ble_eq_true rfl) ⟨rfl, rfl⟩ ⟨Nat.le_of_ble_eq_true rfl, Nat.le_of_ble_eq_true rfl⟩ ?_
        refine v_istore (lv' := [(7, .int y6), (0, .ref (eA E 0 0)), (1, .int x1), (2, .int x2), (3, .int x3), (4, .int x4), (5, .int x5), (6, .int x6)]) K dX8_best_69 (by decide) rfl ?_
        refine v_iload K 5 dX8_best_71 rfl ?_
        refine v_bipush K dX8_best_73 kb_m6 ?_
        have hj7 : ∀ (w1 : Int32) (w2 : Int32) (w3 : Int32), w1 = (if x4 = (-6) then x5 else (if x4 ≤ y6 then x2 else x5 : Int32) : Int32) → w2 = (if x4 = (-6) then x6 else (if x4 ≤ y6 then x3 else x6 : Int32) : Int32) → w3 = (if x4 = (-6) then y6 else (if x4 ≤ y6 then x4 else y6 : Int32) : Int32) → VV p l e (rmD 6) s m args below meth c (MQ below (CQ D A (some (.int r)) (wl E S')) args s 0 0 A) D A 8 (0, 0) 95 [] [(0, .ref (eA E 0 0)), (1, .int x1), (2, .int w1), (3, .int w2), (4, .int w3), (5, .int x5), (6, .int x6)] (wl E S5) := by
          intro w1 w2 w3 ew1 ew2 ew3
          subst ew1
          subst ew2
          subst ew3
          refine v_iinc (v := x6 + 1) (lv' := [(6, .int (x6 + 1)), (0, .ref (eA E 0 0)), (1, .int x1), (2, .int (if x4 = (-6) then x5 else (if x4 ≤ y6 then x2 else x5 : Int32) : Int32)), (3, .int (if x4 = (-6) then x6 else (if x4 ≤ y6 then x3 else x6 : Int32) : Int32)), (4, .int (if x4 = (-6) then y6 else (if x4 ≤ y6 then x4 else y6 : Int32) : Int32)), (5, .int x5)]) K 6 dX8_best_95 rfl rfl (by decide) rfl ?_
          refine v_goto (tgt := 44) K dX8_best_98 (by decide) ?_
          exact v_lsub [1, 2, 3, 4, 5, 6, 0] rfl (ih (if x4 = (-6) then x5 else (if x4 ≤ y6 then x2 else x5 : Int32) : Int32) (if x4 = (-6) then x6 else (if x4 ≤ y6 then x3 else x6 : Int32) : Int32) (if x4 = (-6) then y6 else (if x4 ≤ y6 then x4 else y6 : Int32) : Int32) (x6 + 1) S5 hf)
        refine v_icmp_eq (tgt := 85) K dX8_best_75 (by decide) (fun hc5 => ?_) (fun hc5 => ?_)
        · refine v_iload K 6 dX8_best_85 rfl ?_
          refine v_istore_n (lv' := [(2, .int x5), (7, .int y6), (0, .ref (eA E 0 0)), (1, .int x1), (3, .int x3), (4, .int x4), (5, .int x5), (6, .int x6)]) K dX8_best_87 rfl (by decide) rfl ?_
          refine v_iload K 7 dX8_best_88 rfl ?_
          refine v_istore_n (lv' := [(3, .int x6), (2, .int x5), (7, .int y6), (0, .ref (eA E 0 0)), (1, .int x1), (4, .int x4), (5, .int x5), (6, .int x6)]) K dX8_best_90 rfl (by decide) rfl ?_
          refine v_iload K 2 dX8_best_91 rfl ?_
          refine v_istore (lv' := [(4, .int y6), (3, .int x6), (2, .int x5), (7, .int y6), (0, .ref (eA E 0 0)), (1, .int x1), (5, .int x5), (6, .int x6)]) K dX8_best_93 (by decide) rfl ?_
          exact v_lsub [4, 5, 2, 1, 0, 6, 7] rfl (hj7 x5 x6 y6 (if_pos hc5).symm (if_pos hc5).symm (if_pos hc5).symm)
        · refine v_iload K 0 dX8_best_78 rfl ?_
          refine v_iload K 5 dX8_best_80 rfl ?_
          refine v_icmp_ge (tgt := 95) K dX8_best_82 (by decide) (fun hc7 => ?_) (fun hc7 => ?_)
          · exact v_lsub [1, 2, 3, 4, 5, 6, 7] rfl (hj7 x2 x3 x4 ((if_neg hc5).trans (if_pos hc7)).symm ((if_neg hc5).trans (if_pos hc7)).symm ((if_neg hc5).trans (if_pos hc7)).symm)
          · refine v_iload K 6 dX8_best_85 rfl ?_
            refine v_istore_n (lv' := [(2, .int x5), (7, .int y6), (0, .ref (eA E 0 0)), (1, .int x1), (3, .int x3), (4, .int x4), (5, .int x5), (6, .int x6)]) K dX8_best_87 rfl (by decide) rfl ?_
            refine v_iload K 7 dX8_best_88 rfl ?_
            refine v_istore_n (lv' := [(3, .int x6), (2, .int x5), (7, .int y6), (0, .ref (eA E 0 0)), (1, .int x1), (4, .int x4), (5, .int x5), (6, .int x6)]) K dX8_best_90 rfl (by decide) rfl ?_
            refine v_iload K 2 dX8_best_91 rfl ?_
            refine v_istore (lv' := [(4, .int y6), (3, .int x6), (2, .int x5), (7, .int y6), (0, .ref (eA E 0 0)), (1, .int x1), (5, .int x5), (6, .int x6)]) K dX8_best_93 (by decide) rfl ?_
            exact v_lsub [4, 5, 2, 1, 0, 6, 7] rfl (hj7 x5 x6 y6 ((if_neg hc5).trans (if_neg hc7)).symm ((if_neg hc5).trans (if_neg hc7)).symm ((if_neg hc5).trans (if_neg hc7)).symm)
  have L27 : ∀ (x1 : Int32), ∀ (k : Int32 → Int32 → Int32 → Int32 → Gs → Option (Int32 × Gs)), (∀ (x2 : Int32) (x3 : Int32) (x4 : Int32) (x5 : Int32) (S : Gs), k x2 x3 x4 x5 S = some (r, S') → VV p l e (rmD 6) s m args below meth c (MQ below (CQ D A (some (.int r)) (wl E S')) args s 0 0 A) D A 8 (0, 0) 107 [] [(1, .int x1), (2, .int x2), (3, .int x3), (4, .int x4)] (wl E S)) → ∀ (n : Nat) (x2 : Int32) (x3 : Int32) (x4 : Int32) (x5 : Int32) (S : Gs), f_X8_best_L27 x1 k n x2 x3 x4 x5 S = some (r, S') → VV p l e (rmD 6) s m args below meth c (MQ below (CQ D A (some (.int r)) (wl E S')) args s 0 0 A) D A 8 (0, 0) 27 [] [(0, .ref (eA E 0 0)), (1, .int x1), (2, .int x2), (3, .int x3), (4, .int x4), (5, .int x5)] (wl E S) := by
    intro x1 k hk n
    induction n with
    | zero =>
      intro x2 x3 x4 x5 S hf
      rw [f_X8_best_L27] at hf
      cases hf
    | succ n ih =>
      intro x2 x3 x4 x5 S hf
      rw [f_X8_best_L27] at hf
      refine v_iload K 5 dX8_best_27 rfl ?_
      refine v_gets_high K flX8_220 dX8_best_29 (fun t2 ht2 => ?_)
      refine v_iconst K dX8_best_32 ki_0 ?_
      refine v_ti K ht2 dX8_best_33 (by unfold vp_in; decide) ?_
      refine v_icmp_gt (tgt := 107) K dX8_best_34 (by decide) (fun hc3 => ?_) (fun hc3 => ?_)
      · have hf := it_pos hc3 hf
        exact v_lsub [1, 2, 3, 4] rfl (hk x2 x3 x4 x5 S hf)
      · have hf := it_neg hc3 hf
        refine v_gets_low K flX8_216 dX8_best_37 (fun t3 ht3 => ?_)
        refine v_iconst K dX8_best_40 ki_1 ?_
        refine v_ti K ht3 dX8_best_41 (by unfold vp_in; decide) ?_
        refine v_istore (lv' := [(6, .int (fLow (1 : Int32).toNatClampNeg)), (0, .ref (eA E 0 0)), (1, .int x1), (2, .int x2), (3, .int x3), (4, .int x4), (5, .int x5)]) K dX8_best_42 (by decide) rfl ?_
        refine v_lsub [1, 2, 3, 4, 5, 6, 0] rfl ?_
        refine L44 x1 x5 _ ?_ 5000 x2 x3 x4 (fLow (1 : Int32).toNatClampNeg) S hf
        intro x2_101 x3_101 x4_101 x6_101 S_101 hf
        refine v_iinc (v := x5 + 1) (lv' := [(5, .int (x5 + 1)), (0, .ref (eA E 0 0)), (1, .int x1), (2, .int x2_101), (3, .int x3_101), (4, .int x4_101)]) K 5 dX8_best_101 rfl rfl (by decide) rfl ?_
        refine v_goto (tgt := 27) K dX8_best_104 (by decide) ?_
        exact v_lsub [1, 2, 3, 4, 5, 0] rfl (ih x2_101 x3_101 x4_101 (x5 + 1) S_101 hf)
  unfold f_X8_best at hf
  refine v_iload_n K 1 dX8_best_0 rfl rfl ?_
  refine v_if_lt (tgt := 9) K dX8_best_1 (by decide) (fun hc1 => ?_) (fun hc1 => ?_)
  · have hf := it_pos hc1 hf
    refine v_bipush K dX8_best_9 kb_m2 ?_
    exact v_iret K rfl dX8_best_11 (ev_q hf) (eg_q hf)
  · have hf := it_neg hc1 hf
    refine v_iload_n K 1 dX8_best_4 rfl rfl ?_
    refine v_iconst K dX8_best_5 ki_2 ?_
    refine v_icmp_le (tgt := 12) K dX8_best_6 (by decide) (fun hc2 => ?_) (fun hc2 => ?_)
    · have hf := it_pos hc2 hf
      refine v_iconst K dX8_best_12 ki_0 ?_
      refine v_istore_n (lv' := [(2, .int 0), (0, .ref (eA E 0 0)), (1, .int x1)]) K dX8_best_13 rfl (by decide) rfl ?_
      refine v_iconst K dX8_best_14 ki_0 ?_
      refine v_istore_n (lv' := [(3, .int 0), (2, .int 0), (0, .ref (eA E 0 0)), (1, .int x1)]) K dX8_best_15 rfl (by decide) rfl ?_
      refine v_bipush K dX8_best_16 kb_m6 ?_
      refine v_istore (lv' := [(4, .int (-6)), (3, .int 0), (2, .int 0), (0, .ref (eA E 0 0)), (1, .int x1)]) K dX8_best_18 (by decide) rfl ?_
      refine v_gets_low K flX8_216 dX8_best_20 (fun t1 ht1 => ?_)
      refine v_iconst K dX8_best_23 ki_0 ?_
      refine v_ti K ht1 dX8_best_24 (by unfold vp_in; decide) ?_
      refine v_istore (lv' := [(5, .int (fLow (0 : Int32).toNatClampNeg)), (4, .int (-6)), (3, .int 0), (2, .int 0), (0, .ref (eA E 0 0)), (1, .int x1)]) K dX8_best_25 (by decide) rfl ?_
      refine v_lsub [4, 5, 3, 2, 1, 0] rfl ?_
      refine L27 x1 _ ?_ 5000 0 0 (-6) (fLow (0 : Int32).toNatClampNeg) S hf
      intro x2_107 x3_107 x4_107 x5_107 S_107 hf
      refine v_iload_n K 0 dX8_best_107 rfl rfl ?_
      refine v_if_ne (tgt := 115) K dX8_best_108 (by decide) (fun hc8 => ?_) (fun hc8 => ?_)
      · have hf := it_neg hc8 hf
        refine v_iload_n K 0 dX8_best_115 rfl rfl ?_
        refine v_iconst K dX8_best_116 ki_1 ?_
        refine v_icmp_ne (tgt := 124) K dX8_best_117 (by decide) (fun hc9 => ?_) (fun hc9 => ?_)
        · have hf := it_neg hc9 hf
          refine v_iload K 3 dX8_best_124 rfl ?_
          exact v_iret K rfl dX8_best_126 (ev_q hf) (eg_q hf)
        · have hf := it_pos hc9 hf
          refine v_iload_n K 2 dX8_best_120 rfl rfl ?_
          refine v_goto (tgt := 126) K dX8_best_121 (by decide) ?_
          exact v_iret K rfl dX8_best_126 (ev_q hf) (eg_q hf)
      · have hf := it_pos hc8 hf
        refine v_iload_n K 1 dX8_best_111 rfl rfl ?_
        refine v_goto (tgt := 126) K dX8_best_112 (by decide) ?_
        exact v_iret K rfl dX8_best_126 (ev_q hf) (eg_q hf)
    · have hf := it_neg hc2 hf
      refine v_bipush K dX8_best_9 kb_m2 ?_
      exact v_iret K rfl dX8_best_11 (ev_q hf) (eg_q hf)
set_option maxRecDepth 20000 in
theorem c_X8_account (hT : TopG E) (hLs : ∀ b, b < 8 → LibG E b) {S S' : Gs}  {r : Int32} (hf : f_X8_account S = some (r, S')) : Ctr l D E A yX8_account cX8_account 2 (some .int) (rmD 5) [.ref (eA E 0 0)] (wl E S) (some (.int r)) (wl E S') := by
  refine Ctr.of (own := RX8) pn_X8 rfl (Nat.le_of_ble_eq_true rfl) ?_
  intro p e s m args below meth c K
  refine v_lv (lv' := [(0, .ref (eA E 0 0))]) rfl ?_
  unfold f_X8_account at hf
  refine v_aload_n K 0 dX8_account_0 rfl rfl ?_
  refine v_get K fk_X8_22 dX8_account_1 (hT 0 (by decide)) rfl rfl ?_
  refine v_aload_n K 0 dX8_account_4 rfl rfl ?_
  refine v_get K fk_X8_10 dX8_account_5 (hT 0 (by decide)) rfl rfl ?_
  obtain ⟨S1, hS1, hf⟩ := bd_el hf
  refine v_callWn (As := [.ref (eA E 2 0)]) (rest := []) K mk_X8_56 dX8_account_8 (c_X2_keep hT hLs hS1) (hT 1 (by decide)) rfl rfl rfl rfl rfl (Nat.le_of_ble_eq_true rfl) ⟨rfl, rfl⟩ ⟨Nat.le_of_ble_eq_true rfl, Nat.le_of_ble_eq_true rfl⟩ ?_
  refine v_aload_n K 0 dX8_account_11 rfl rfl ?_
  refine v_get K fk_X8_10 dX8_account_12 (hT 0 (by decide)) rfl rfl ?_
  refine v_getN K fn_X8_82 dX8_account_15 ((hLs 0 (by decide)) 0 (by decide)) rfl rfl ?_
  refine v_getN K fn_X8_223 dX8_account_18 ((hLs 0 (by decide)) 21 (by decide)) rfl rfl ?_
  refine v_istore_n (lv' := [(1, .int (S1 2 21 4)), (0, .ref (eA E 0 0))]) K dX8_account_21 rfl (by decide) rfl ?_
  refine v_aload_n K 1 dX8_account_22 rfl rfl ?_
  refine v_get K fk_X8_10 dX8_account_23 (hT 0 (by decide)) rfl rfl ?_
  refine v_getN K fn_X8_82 dX8_account_26 ((hLs 0 (by decide)) 0 (by decide)) rfl rfl ?_
  obtain ⟨S2, hS2, hf⟩ := bnd_el hf
  refine v_callWn (As := []) (rest := []) K mk_X8_224 dX8_account_29 (Ctr.gid (o := 2) (c_X0_clear (o := 2) rfl (hLs 0 (by decide)) hS2.symm)) ((hLs 0 (by decide)) 21 (by decide)) rfl rfl rfl rfl rfl (Nat.le_of_ble_eq_true rfl) ⟨rfl, rfl⟩ ⟨Nat.le_of_ble_eq_true rfl, Nat.le_of_ble_eq_true rfl⟩ ?_
  refine v_iload_n K 0 dX8_account_32 rfl rfl ?_
  exact v_iret K rfl dX8_account_33 (ev_q hf) (eg_q hf)
set_option maxRecDepth 20000 in
theorem c_X8_put (hT : TopG E) (hLs : ∀ b, b < 8 → LibG E b) {S S' : Gs}  {x1 : Int64} {r : Int32} (hf : f_X8_put S x1 = some (r, S')) : Ctr l D E A yX8_put cX8_put 5 (some .int) (rmD 2) [.ref (eA E 0 0), .long x1] (wl E S) (some (.int r)) (wl E S') := by
  refine Ctr.of (own := RX8) pn_X8 rfl (Nat.le_of_ble_eq_true rfl) ?_
  intro p e s m args below meth c K
  refine v_lv (lv' := [(0, .ref (eA E 0 0)), (1, .long x1)]) rfl ?_
  have L34 : ∀ (x1 : Int64), ∀ (k : Int32 → Gs → Option (Int32 × Gs)), (∀ (x4 : Int32) (S : Gs), k x4 S = some (r, S') → VV p l e (rmD 2) s m args below meth c (MQ below (CQ D A (some (.int r)) (wl E S')) args s 0 0 A) D A 5 (0, 0) 58 [] [(0, .ref (eA E 0 0))] (wl E S)) → ∀ (n : Nat) (x4 : Int32) (S : Gs), f_X8_put_L34 x1 k n x4 S = some (r, S') → VV p l e (rmD 2) s m args below meth c (MQ below (CQ D A (some (.int r)) (wl E S')) args s 0 0 A) D A 5 (0, 0) 34 [] [(0, .ref (eA E 0 0)), (1, .long x1), (4, .int x4)] (wl E S) := by
    intro x1 k hk n
    induction n with
    | zero =>
      intro x4 S hf
      rw [f_X8_put_L34] at hf
      cases hf
    | succ n ih =>
      intro x4 S hf
      rw [f_X8_put_L34] at hf
      refine v_iload K 2 dX8_put_34 rfl ?_
      refine v_if_lt (tgt := 58) K dX8_put_36 (by decide) (fun hc3 => ?_) (fun hc3 => ?_)
      · have hf := it_pos hc3 hf
        exact v_lsub [0] rfl (hk x4 S hf)
      · have hf := it_neg hc3 hf
        refine v_aload_n K 0 dX8_put_39 rfl rfl ?_
        refine v_get K fk_X8_41 dX8_put_40 (hT 0 (by decide)) rfl rfl ?_
        refine v_lload_n K 1 dX8_put_43 rfl rfl ?_
        refine v_iload K 2 dX8_put_44 rfl ?_
        refine v_callSi (As := [.long x1, .int x4]) (rest := [.ref (eA E 0 4)]) K mk_X8_231 dX8_put_46 (c_X8_codeAt  rfl) rfl rfl (Nat.le_of_ble_eq_true rfl) ⟨rfl, rfl⟩ ⟨Nat.le_of_ble_eq_true rfl, Nat.le_of_ble_eq_true rfl⟩ ?_
        obtain ⟨S2, hS2, hf⟩ := bnd_el hf
        refine v_callWn (As := [.int (f_X8_codeAt x1 x4)]) (rest := []) K mk_X8_235 dX8_put_49 (Ctr.gid (o := 0) (c_X5_append hT hS2.symm)) (hT 4 (by decide)) rfl rfl rfl rfl rfl (Nat.le_of_ble_eq_true rfl) ⟨rfl, rfl⟩ ⟨Nat.le_of_ble_eq_true rfl, Nat.le_of_ble_eq_true rfl⟩ ?_
        refine v_iinc (v := x4 + (-1)) (lv' := [(4, .int (x4 + (-1))), (0, .ref (eA E 0 0)), (1, .long x1)]) K 2 dX8_put_52 rfl rfl (by decide) rfl ?_
        refine v_goto (tgt := 34) K dX8_put_55 (by decide) ?_
        exact v_lsub [1, 2, 0] rfl (ih (x4 + (-1)) (va_up S 0 S2) hf)
  unfold f_X8_put at hf
  refine v_lload_n K 1 dX8_put_0 rfl rfl ?_
  obtain ⟨y1, hy1, hf⟩ := bd_el hf
  refine v_callSi (As := [.long x1]) (rest := []) K mk_X8_227 dX8_put_1 (c_X8_howManyCharacters  hy1) rfl rfl (Nat.le_of_ble_eq_true rfl) ⟨rfl, rfl⟩ ⟨Nat.le_of_ble_eq_true rfl, Nat.le_of_ble_eq_true rfl⟩ ?_
  refine v_istore_n (lv' := [(3, .int y1), (0, .ref (eA E 0 0)), (1, .long x1)]) K dX8_put_4 rfl (by decide) rfl ?_
  refine v_iload_n K 0 dX8_put_5 rfl rfl ?_
  refine v_if_ne (tgt := 12) K dX8_put_6 (by decide) (fun hc1 => ?_) (fun hc1 => ?_)
  · have hf := it_neg hc1 hf
    refine v_aload_n K 1 dX8_put_12 rfl rfl ?_
    refine v_get K fk_X8_41 dX8_put_13 (hT 0 (by decide)) rfl rfl ?_
    refine v_getN K fn_X8_193 dX8_put_16 (hT 4 (by decide)) rfl rfl ?_
    refine v_iload_n K 0 dX8_put_19 rfl rfl ?_
    refine v_iadd K dX8_put_20 ?_
    refine v_bipush K dX8_put_21 kb_80 ?_
    refine v_icmp_le (tgt := 29) K dX8_put_23 (by decide) (fun hc2 => ?_) (fun hc2 => ?_)
    · have hf := it_pos hc2 hf
      refine v_iload_n K 0 dX8_put_29 rfl rfl ?_
      refine v_iconst K dX8_put_30 ki_1 ?_
      refine v_isub K dX8_put_31 ?_
      refine v_istore (lv' := [(4, .int (y1 - 1)), (3, .int y1), (0, .ref (eA E 0 0)), (1, .long x1)]) K dX8_put_32 (by decide) rfl ?_
      refine v_lsub [2, 3, 0] rfl ?_
      refine L34 x1 _ ?_ 5000 (y1 - 1) S hf
      intro x4_58 S_58 hf
      refine v_aload_n K 0 dX8_put_58 rfl rfl ?_
      refine v_get K fk_X8_41 dX8_put_59 (hT 0 (by decide)) rfl rfl ?_
      refine v_getN K fn_X8_193 dX8_put_62 (hT 4 (by decide)) rfl rfl ?_
      exact v_iret K rfl dX8_put_65 (ev_q hf) (eg_q hf)
    · have hf := it_neg hc2 hf
      refine v_bipush K dX8_put_26 kb_m4 ?_
      exact v_iret K rfl dX8_put_28 (ev_q hf) (eg_q hf)
  · have hf := it_pos hc1 hf
    refine v_bipush K dX8_put_9 kb_m2 ?_
    exact v_iret K rfl dX8_put_11 (ev_q hf) (eg_q hf)
set_option maxRecDepth 20000 in
theorem c_X8_wipe (hT : TopG E) (hLs : ∀ b, b < 8 → LibG E b) {S S' : Gs}  {r : Int32} (hf : f_X8_wipe S = (r, S')) : Ctr l D E A yX8_wipe cX8_wipe 2 (some .int) (rmD 0) [.ref (eA E 0 0)] (wl E S) (some (.int r)) (wl E S') := by
  refine Ctr.of (own := RX8) pn_X8 rfl (Nat.le_of_ble_eq_true rfl) ?_
  intro p e s m args below meth c K
  refine v_lv (lv' := [(0, .ref (eA E 0 0))]) rfl ?_
  unfold f_X8_wipe at hf
  refine v_aload_n K 0 dX8_wipe_0 rfl rfl ?_
  refine v_get K fk_X8_41 dX8_wipe_1 (hT 0 (by decide)) rfl rfl ?_
  refine v_getN K fn_X8_193 dX8_wipe_4 (hT 4 (by decide)) rfl rfl ?_
  refine v_istore_n (lv' := [(1, .int (S 0 4 1)), (0, .ref (eA E 0 0))]) K dX8_wipe_7 rfl (by decide) rfl ?_
  refine v_aload_n K 1 dX8_wipe_8 rfl rfl ?_
  refine v_get K fk_X8_41 dX8_wipe_9 (hT 0 (by decide)) rfl rfl ?_
  refine v_iconst K dX8_wipe_12 ki_0 ?_
  obtain ⟨S1, hS1, hf⟩ := bnd_el hf
  refine v_putN K (upd (S 0 4) 1 0) fq_X8_193 dX8_wipe_13 (hT 4 (by decide)) rfl (Nat.le_of_ble_eq_true rfl) rfl rfl rfl ?_
  rw [show va_up S 0 (va_up (S 0) 4 (upd (S 0 4) 1 0)) = S1 from hS1.symm]
  refine v_iload_n K 0 dX8_wipe_16 rfl rfl ?_
  exact v_iret K rfl dX8_wipe_17 (ev_p hf) (eg_p hf)
set_option maxRecDepth 20000 in
theorem c_X8_fault (hT : TopG E) (hLs : ∀ b, b < 8 → LibG E b) {S S' : Gs}  {r : Int32} (hf : f_X8_fault S = some (r, S')) : Ctr l D E A yX8_fault cX8_fault 1 (some .int) (rmD 6) [.ref (eA E 0 0)] (wl E S) (some (.int r)) (wl E S') := by
  refine Ctr.of (own := RX8) pn_X8 rfl (Nat.le_of_ble_eq_true rfl) ?_
  intro p e s m args below meth c K
  refine v_lv (lv' := [(0, .ref (eA E 0 0))]) rfl ?_
  unfold f_X8_fault at hf
  refine v_aload_n K 0 dX8_fault_0 rfl rfl ?_
  refine v_get K fk_X8_33 dX8_fault_1 (hT 0 (by decide)) rfl rfl ?_
  obtain ⟨y2, S1, hS1, hf⟩ := bdp_el hf
  refine v_callWi (As := []) (rest := []) K mk_X8_238 dX8_fault_4 (Ctr.gid (o := 0) (c_X4_findFault hT hS1)) (hT 7 (by decide)) rfl rfl rfl rfl rfl (Nat.le_of_ble_eq_true rfl) ⟨rfl, rfl⟩ ⟨Nat.le_of_ble_eq_true rfl, Nat.le_of_ble_eq_true rfl⟩ ?_
  exact v_iret K rfl dX8_fault_7 (ev_q hf) (eg_q hf)
set_option maxRecDepth 20000 in
theorem c_X8_carryOut (hT : TopG E) (hLs : ∀ b, b < 8 → LibG E b) {S S' : Gs}  {r : Int32} (hf : f_X8_carryOut S = some (r, S')) : Ctr l D E A yX8_carryOut cX8_carryOut 2 (some .int) (rmD 6) [.ref (eA E 0 0)] (wl E S) (some (.int r)) (wl E S') := by
  refine Ctr.of (own := RX8) pn_X8 rfl (Nat.le_of_ble_eq_true rfl) ?_
  intro p e s m args below meth c K
  refine v_lv (lv' := [(0, .ref (eA E 0 0))]) rfl ?_
  have L36 : ∀ (k : Int32 → Gs → Option (Int32 × Gs)), (∀ (x1 : Int32) (S : Gs), k x1 S = some (r, S') → VV p l e (rmD 6) s m args below meth c (MQ below (CQ D A (some (.int r)) (wl E S')) args s 0 0 A) D A 2 (0, 0) 94 [] [(0, .ref (eA E 0 0)), (1, .int x1)] (wl E S)) → ∀ (n : Nat) (x1 : Int32) (S : Gs), f_X8_carryOut_L36 k n x1 S = some (r, S') → VV p l e (rmD 6) s m args below meth c (MQ below (CQ D A (some (.int r)) (wl E S')) args s 0 0 A) D A 2 (0, 0) 36 [] [(0, .ref (eA E 0 0)), (1, .int x1)] (wl E S) := by
    intro k hk n
    induction n with
    | zero =>
      intro x1 S hf
      rw [f_X8_carryOut_L36] at hf
      cases hf
    | succ n ih =>
      intro x1 S hf
      rw [f_X8_carryOut_L36] at hf
      refine v_iload_n K 1 dX8_carryOut_36 rfl rfl ?_
      refine v_bipush K dX8_carryOut_37 kb_80 ?_
      refine v_icmp_ge (tgt := 94) K dX8_carryOut_39 (by decide) (fun hc2 => ?_) (fun hc2 => ?_)
      · have hf := it_pos hc2 hf
        exact v_lsub [0, 1] rfl (hk x1 S hf)
      · have hf := it_neg hc2 hf
        refine v_aload_n K 0 dX8_carryOut_42 rfl rfl ?_
        refine v_get K fk_X8_33 dX8_carryOut_43 (hT 0 (by decide)) rfl rfl ?_
        obtain ⟨y6, S5, hS5, hf⟩ := bdp_el hf
        refine v_callWi (As := []) (rest := []) K mk_X8_244 dX8_carryOut_46 (Ctr.gid (o := 0) (c_X4_takeNext hT hS5)) (hT 7 (by decide)) rfl rfl rfl rfl rfl (Nat.le_of_ble_eq_true rfl) ⟨rfl, rfl⟩ ⟨Nat.le_of_ble_eq_true rfl, Nat.le_of_ble_eq_true rfl⟩ ?_
        refine v_if_eq (tgt := 94) K dX8_carryOut_49 (by decide) (fun hc3 => ?_) (fun hc3 => ?_)
        · have hf := it_pos hc3 hf
          exact v_lsub [0, 1] rfl (hk x1 (va_up S 0 S5) hf)
        · have hf := it_neg hc3 hf
          refine v_aload_n K 0 dX8_carryOut_52 rfl rfl ?_
          refine v_aload_n K 0 dX8_carryOut_53 rfl rfl ?_
          refine v_get K fk_X8_33 dX8_carryOut_54 (hT 0 (by decide)) rfl rfl ?_
          refine v_getN K fn_X8_248 dX8_carryOut_57 (hT 7 (by decide)) rfl rfl ?_
          refine v_aload_n K 0 dX8_carryOut_60 rfl rfl ?_
          refine v_get K fk_X8_33 dX8_carryOut_61 (hT 0 (by decide)) rfl rfl ?_
          refine v_getN K fn_X8_251 dX8_carryOut_64 (hT 7 (by decide)) rfl rfl ?_
          refine v_aload_n K 0 dX8_carryOut_67 rfl rfl ?_
          refine v_get K fk_X8_33 dX8_carryOut_68 (hT 0 (by decide)) rfl rfl ?_
          refine v_getN K fn_X8_254 dX8_carryOut_71 (hT 7 (by decide)) rfl rfl ?_
          refine v_aload_n K 0 dX8_carryOut_74 rfl rfl ?_
          refine v_get K fk_X8_33 dX8_carryOut_75 (hT 0 (by decide)) rfl rfl ?_
          refine v_getN K fn_X8_257 dX8_carryOut_78 (hT 7 (by decide)) rfl rfl ?_
          refine v_iconst K dX8_carryOut_81 ki_0 ?_
          obtain ⟨y8, S7, hS7, hf⟩ := bdp_el hf
          refine v_callWi (As := [.int ((va_up S 0 S5) 0 7 3), .int ((va_up S 0 S5) 0 7 4), .int ((va_up S 0 S5) 0 7 5), .int ((va_up S 0 S5) 0 7 6), .int 0]) (rest := []) K mk_X8_74 dX8_carryOut_82 (c_X8_happen hT hLs hS7) (hT 0 (by decide)) rfl rfl rfl rfl rfl (Nat.le_of_ble_eq_true rfl) ⟨rfl, rfl⟩ ⟨Nat.le_of_ble_eq_true rfl, Nat.le_of_ble_eq_true rfl⟩ ?_
          refine v_if_lt (tgt := 94) K dX8_carryOut_85 (by decide) (fun hc4 => ?_) (fun hc4 => ?_)
          · have hf := it_pos hc4 hf
            exact v_lsub [0, 1] rfl (hk x1 S7 hf)
          · have hf := it_neg hc4 hf
            refine v_iinc (v := x1 + 1) (lv' := [(1, .int (x1 + 1)), (0, .ref (eA E 0 0))]) K 1 dX8_carryOut_88 rfl rfl (by decide) rfl ?_
            refine v_goto (tgt := 36) K dX8_carryOut_91 (by decide) ?_
            exact v_lsub [1, 0] rfl (ih (x1 + 1) S7 hf)
  unfold f_X8_carryOut at hf
  refine v_aload_n K 0 dX8_carryOut_0 rfl rfl ?_
  refine v_get K fk_X8_33 dX8_carryOut_1 (hT 0 (by decide)) rfl rfl ?_
  obtain ⟨y2, S1, hS1, hf⟩ := bdp_el hf
  refine v_callWi (As := []) (rest := []) K mk_X8_238 dX8_carryOut_4 (Ctr.gid (o := 0) (c_X4_findFault hT hS1)) (hT 7 (by decide)) rfl rfl rfl rfl rfl (Nat.le_of_ble_eq_true rfl) ⟨rfl, rfl⟩ ⟨Nat.le_of_ble_eq_true rfl, Nat.le_of_ble_eq_true rfl⟩ ?_
  refine v_bipush K dX8_carryOut_7 kb_m6 ?_
  refine v_icmp_eq (tgt := 15) K dX8_carryOut_9 (by decide) (fun hc1 => ?_) (fun hc1 => ?_)
  · have hf := it_pos hc1 hf
    refine v_aload_n K 0 dX8_carryOut_15 rfl rfl ?_
    refine v_get K fk_X8_22 dX8_carryOut_16 (hT 0 (by decide)) rfl rfl ?_
    refine v_aload_n K 0 dX8_carryOut_19 rfl rfl ?_
    refine v_get K fk_X8_10 dX8_carryOut_20 (hT 0 (by decide)) rfl rfl ?_
    obtain ⟨S3, hS3, hf⟩ := bd_el hf
    refine v_callWn (As := [.ref (eA E 2 0)]) (rest := []) K mk_X8_56 dX8_carryOut_23 (c_X2_keep hT hLs hS3) (hT 1 (by decide)) rfl rfl rfl rfl rfl (Nat.le_of_ble_eq_true rfl) ⟨rfl, rfl⟩ ⟨Nat.le_of_ble_eq_true rfl, Nat.le_of_ble_eq_true rfl⟩ ?_
    refine v_iconst K dX8_carryOut_26 ki_0 ?_
    refine v_istore_n (lv' := [(1, .int 0), (0, .ref (eA E 0 0))]) K dX8_carryOut_27 rfl (by decide) rfl ?_
    refine v_aload_n K 1 dX8_carryOut_28 rfl rfl ?_
    refine v_get K fk_X8_33 dX8_carryOut_29 (hT 0 (by decide)) rfl rfl ?_
    refine v_iconst K dX8_carryOut_32 ki_0 ?_
    obtain ⟨S4, hS4, hf⟩ := bnd_el hf
    refine v_putN K (upd (S3 0 7) 1 0) fq_X8_241 dX8_carryOut_33 (hT 7 (by decide)) rfl (Nat.le_of_ble_eq_true rfl) rfl rfl rfl ?_
    rw [show va_up S3 0 (va_up (S3 0) 7 (upd (S3 0 7) 1 0)) = S4 from hS4.symm]
    refine v_lsub [1, 0] rfl ?_
    refine L36  _ ?_ 5000 0 S4 hf
    intro x1_94 S_94 hf
    refine v_aload_n K 0 dX8_carryOut_94 rfl rfl ?_
    refine v_get K fk_X8_41 dX8_carryOut_95 (hT 0 (by decide)) rfl rfl ?_
    refine v_iconst K dX8_carryOut_98 ki_0 ?_
    obtain ⟨S9, hS9, hf⟩ := bnd_el hf
    refine v_putN K (upd (S_94 0 4) 1 0) fq_X8_193 dX8_carryOut_99 (hT 4 (by decide)) rfl (Nat.le_of_ble_eq_true rfl) rfl rfl rfl ?_
    rw [show va_up S_94 0 (va_up (S_94 0) 4 (upd (S_94 0 4) 1 0)) = S9 from hS9.symm]
    refine v_iload_n K 1 dX8_carryOut_102 rfl rfl ?_
    exact v_iret K rfl dX8_carryOut_103 (ev_q hf) (eg_q hf)
  · have hf := it_neg hc1 hf
    refine v_bipush K dX8_carryOut_12 kb_m3 ?_
    exact v_iret K rfl dX8_carryOut_14 (ev_q hf) (eg_q hf)
set_option maxRecDepth 20000 in
theorem c_X8_undo (hT : TopG E) (hLs : ∀ b, b < 8 → LibG E b) {S S' : Gs}  {r : Int32} (hf : f_X8_undo S = some (r, S')) : Ctr l D E A yX8_undo cX8_undo 1 (some .int) (rmD 5) [.ref (eA E 0 0)] (wl E S) (some (.int r)) (wl E S') := by
  refine Ctr.of (own := RX8) pn_X8 rfl (Nat.le_of_ble_eq_true rfl) ?_
  intro p e s m args below meth c K
  refine v_lv (lv' := [(0, .ref (eA E 0 0))]) rfl ?_
  unfold f_X8_undo at hf
  refine v_aload_n K 0 dX8_undo_0 rfl rfl ?_
  refine v_get K fk_X8_22 dX8_undo_1 (hT 0 (by decide)) rfl rfl ?_
  refine v_aload_n K 0 dX8_undo_4 rfl rfl ?_
  refine v_get K fk_X8_10 dX8_undo_5 (hT 0 (by decide)) rfl rfl ?_
  obtain ⟨y2, S1, hS1, hf⟩ := bdp_el hf
  refine v_callWi (As := [.ref (eA E 2 0)]) (rest := []) K mk_X8_262 dX8_undo_8 (c_X2_takeBack hT hLs hS1) (hT 1 (by decide)) rfl rfl rfl rfl rfl (Nat.le_of_ble_eq_true rfl) ⟨rfl, rfl⟩ ⟨Nat.le_of_ble_eq_true rfl, Nat.le_of_ble_eq_true rfl⟩ ?_
  refine v_if_eq (tgt := 24) K dX8_undo_11 (by decide) (fun hc1 => ?_) (fun hc1 => ?_)
  · have hf := it_pos hc1 hf
    refine v_bipush K dX8_undo_24 kb_m5 ?_
    exact v_iret K rfl dX8_undo_26 (ev_q hf) (eg_q hf)
  · have hf := it_neg hc1 hf
    refine v_aload_n K 0 dX8_undo_14 rfl rfl ?_
    refine v_get K fk_X8_22 dX8_undo_15 (hT 0 (by decide)) rfl rfl ?_
    refine v_getN K fn_X8_199 dX8_undo_18 (hT 1 (by decide)) rfl rfl ?_
    refine v_goto (tgt := 26) K dX8_undo_21 (by decide) ?_
    exact v_iret K rfl dX8_undo_26 (ev_q hf) (eg_q hf)
set_option maxRecDepth 20000 in
theorem c_X8_restore (hT : TopG E) (hLs : ∀ b, b < 8 → LibG E b) {S S' : Gs}  {x1 : Int32} {r : Int32} (hSl : ∀ j, j < 2 → ¬ S 0 3 j = 0 → LibG E (j + 8)) (hf : f_X8_restore S x1 = some (r, S')) : Ctr l D E A yX8_restore cX8_restore 3 (some .int) (rmD 5) [.ref (eA E 0 0), .int x1] (wl E S) (some (.int r)) (wl E S') := by
  refine Ctr.of (own := RX8) pn_X8 rfl (Nat.le_of_ble_eq_true rfl) ?_
  intro p e s m args below meth c K
  refine v_lv (lv' := [(0, .ref (eA E 0 0)), (1, .int x1)]) rfl ?_
  unfold f_X8_restore at hf
  refine v_iload_n K 1 dX8_restore_0 rfl rfl ?_
  refine v_if_lt (tgt := 13) K dX8_restore_1 (by decide) (fun hc1 => ?_) (fun hc1 => ?_)
  · have hf := it_pos hc1 hf
    refine v_bipush K dX8_restore_13 kb_m2 ?_
    exact v_iret K rfl dX8_restore_15 (ev_q hf) (eg_q hf)
  · have hf := it_neg hc1 hf
    refine v_iload_n K 1 dX8_restore_4 rfl rfl ?_
    refine v_aload_n K 0 dX8_restore_5 rfl rfl ?_
    refine v_get K fk_X8_26 dX8_restore_6 (hT 0 (by decide)) rfl rfl ?_
    refine v_alenq K dX8_restore_9 (hT 3 (by decide)) rfl rfl ?_
    refine v_icmp_lt (tgt := 16) K dX8_restore_10 (by decide) (fun hc2 => ?_) (fun hc2 => ?_)
    · have hf := it_pos hc2 hf
      refine v_aload_n K 0 dX8_restore_16 rfl rfl ?_
      refine v_get K fk_X8_26 dX8_restore_17 (hT 0 (by decide)) rfl rfl ?_
      refine v_iload_n K 1 dX8_restore_20 rfl rfl ?_
      obtain ⟨hi21, hf⟩ := ix_el hf
      by_cases hsl21 : S 0 3 x1.toNatClampNeg = 0
      · have hf := it_pos hsl21 hf
        refine v_aldqN K dX8_restore_21 (hT 3 (by decide)) rfl hi21 (if_pos hsl21) ?_
        refine v_astoreN_n (lv' := [(2, .null), (0, .ref (eA E 0 0)), (1, .int x1)]) K dX8_restore_22 rfl (by decide) rfl ?_
        refine v_aloadN_n K 0 dX8_restore_23 rfl rfl ?_
        refine v_ifnonnullN K dX8_restore_24 ?_
        refine v_bipush K dX8_restore_27 kb_m5 ?_
        exact v_iret K rfl dX8_restore_29 (ev_q hf) (eg_q hf)
      · have hf := it_neg hsl21 hf
        refine v_aldqR K dX8_restore_21 (hT 3 (by decide)) rfl hi21 ((if_neg hsl21).trans (if_pos (vp_lt hi21))) ?_
        refine v_astore_n (lv' := [(2, .ref (eA E (x1.toNatClampNeg + 10) 0)), (0, .ref (eA E 0 0)), (1, .int x1)]) K dX8_restore_22 rfl (by decide) rfl ?_
        refine v_aload_n K 0 dX8_restore_23 rfl rfl ?_
        refine v_ifnonnull (tgt := 30) K dX8_restore_24 (by decide) ?_
        refine v_aload_n K 1 dX8_restore_30 rfl rfl ?_
        refine v_get K fk_X8_22 dX8_restore_31 (hT 0 (by decide)) rfl rfl ?_
        refine v_aload_n K 1 dX8_restore_34 rfl rfl ?_
        refine v_get K fk_X8_10 dX8_restore_35 (hT 0 (by decide)) rfl rfl ?_
        obtain ⟨S1, hS1, hf⟩ := bd_el hf
        refine v_callWn (As := [.ref (eA E 2 0)]) (rest := []) K mk_X8_56 dX8_restore_38 (c_X2_keep hT hLs hS1) (hT 1 (by decide)) rfl rfl rfl rfl rfl (Nat.le_of_ble_eq_true rfl) ⟨rfl, rfl⟩ ⟨Nat.le_of_ble_eq_true rfl, Nat.le_of_ble_eq_true rfl⟩ ?_
        refine v_aload_n K 1 dX8_restore_41 rfl rfl ?_
        refine v_get K fk_X8_10 dX8_restore_42 (hT 0 (by decide)) rfl rfl ?_
        refine v_aload_n K 0 dX8_restore_45 rfl rfl ?_
        obtain ⟨S2, hS2, hf⟩ := bnd_el hf
        refine v_callWn (As := [.ref (eA E (x1.toNatClampNeg + 10) 0)]) (rest := []) K mk_X8_266 dX8_restore_46 (c_X3_copyFrom (hLs 0 (by decide)) (hSl x1.toNatClampNeg (vp_lt hi21) hsl21) hS2.symm) ((hLs 0 (by decide)) 0 (by decide)) rfl rfl rfl rfl rfl (Nat.le_of_ble_eq_true rfl) ⟨rfl, rfl⟩ ⟨Nat.le_of_ble_eq_true rfl, Nat.le_of_ble_eq_true rfl⟩ ?_
        refine v_aload_n K 1 dX8_restore_49 rfl rfl ?_
        refine v_get K fk_X8_10 dX8_restore_50 (hT 0 (by decide)) rfl rfl ?_
        refine v_getN K fn_X8_181 dX8_restore_53 ((hLs 0 (by decide)) 0 (by decide)) rfl rfl ?_
        refine v_iconst K dX8_restore_56 ki_0 ?_
        refine v_callWi (As := [.int 0]) (rest := []) K mk_X8_64 dX8_restore_57 (Ctr.gidr (o := 2) (k_row_at (Nat.le_of_ble_eq_true rfl) (rl_28 (o := 2) rfl (hLs 0 (by decide))) rfl)) ((hLs 0 (by decide)) 28 (by decide)) rfl rfl rfl rfl rfl (Nat.le_of_ble_eq_true rfl) ⟨rfl, rfl⟩ ⟨Nat.le_of_ble_eq_true rfl, Nat.le_of_ble_eq_true rfl⟩ ?_
        exact v_iret K rfl dX8_restore_60 (ev_q hf) (eg_q hf)
    · have hf := it_neg hc2 hf
      refine v_bipush K dX8_restore_13 kb_m2 ?_
      exact v_iret K rfl dX8_restore_15 (ev_q hf) (eg_q hf)
