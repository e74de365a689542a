variable {l : Launch} {D : va_G} {E : En} {A : Nat → Prop}
set_option maxRecDepth 20000 in
theorem c_X9_in {ws : va_W}  {x0 : Int32} {x1 : Int32} {x2 : Int32} {r : Int32} (hf : f_X9_in x0 x1 x2 = r) : Ctr l D E A yX9_in cX9_in 3 (some .boolean) (rmD 0) [.int x0, .int x1, .int x2] (ws) (some (.int r)) (ws) := by
  refine Ctr.of (own := RX9) pn_X9 rfl (Nat.le_of_ble_eq_true rfl) ?_
  intro p e s m args below meth c K
  refine v_lv (lv' := [(0, .int x0), (1, .int x1), (2, .int x2)]) rfl ?_
  unfold f_X9_in at hf
  refine v_iload_n K 0 dX9_in_0 rfl rfl ?_
  refine v_iload_n K 1 dX9_in_1 rfl rfl ?_
  refine v_icmp_lt (tgt := 14) K dX9_in_2 (by decide) (fun hc1 => ?_) (fun hc1 => ?_)
  · have hf := it_pos hc1 hf
    refine v_iconst K dX9_in_14 ki_0 ?_
    exact v_zret K rfl dX9_in_15 (Or.inl rfl) (ev_v hf) rfl
  · have hf := it_neg hc1 hf
    refine v_iload_n K 0 dX9_in_5 rfl rfl ?_
    refine v_iload_n K 2 dX9_in_6 rfl rfl ?_
    refine v_icmp_gt (tgt := 14) K dX9_in_7 (by decide) (fun hc2 => ?_) (fun hc2 => ?_)
    · have hf := it_pos hc2 hf
      refine v_iconst K dX9_in_14 ki_0 ?_
      exact v_zret K rfl dX9_in_15 (Or.inl rfl) (ev_v hf) rfl
    · have hf := it_neg hc2 hf
      refine v_iconst K dX9_in_10 ki_1 ?_
      refine v_goto (tgt := 15) K dX9_in_11 (by decide) ?_
      exact v_zret K rfl dX9_in_15 (Or.inr rfl) (ev_v hf) rfl
theorem b_X9_in  {x0 : Int32} {x1 : Int32} {x2 : Int32} : f_X9_in x0 x1 x2 = 0 ∨ f_X9_in x0 x1 x2 = 1 := by
  unfold f_X9_in
  repeat' split
  all_goals first | exact Or.inl rfl | exact Or.inr rfl
set_option maxRecDepth 20000 in
theorem c_X9_has {ws : va_W}  {x0 : Int32} {x1 : Int32} {r : Int32} (hf : f_X9_has x0 x1 = r) : Ctr l D E A yX9_has cX9_has 2 (some .boolean) (rmD 0) [.int x0, .int x1] (ws) (some (.int r)) (ws) := by
  refine Ctr.of (own := RX9) pn_X9 rfl (Nat.le_of_ble_eq_true rfl) ?_
  intro p e s m args below meth c K
  refine v_lv (lv' := [(0, .int x0), (1, .int x1)]) rfl ?_
  unfold f_X9_has at hf
  refine v_iload_n K 0 dX9_has_0 rfl rfl ?_
  refine v_iload_n K 1 dX9_has_1 rfl rfl ?_
  refine v_ishr K dX9_has_2 ?_
  refine v_iconst K dX9_has_3 ki_1 ?_
  refine v_iand K dX9_has_4 ?_
  refine v_iconst K dX9_has_5 ki_1 ?_
  refine v_icmp_ne (tgt := 13) K dX9_has_6 (by decide) (fun hc1 => ?_) (fun hc1 => ?_)
  · have hf := it_neg hc1 hf
    refine v_iconst K dX9_has_13 ki_0 ?_
    exact v_zret K rfl dX9_has_14 (Or.inl rfl) (ev_v hf) rfl
  · have hf := it_pos hc1 hf
    refine v_iconst K dX9_has_9 ki_1 ?_
    refine v_goto (tgt := 14) K dX9_has_10 (by decide) ?_
    exact v_zret K rfl dX9_has_14 (Or.inr rfl) (ev_v hf) rfl
theorem b_X9_has  {x0 : Int32} {x1 : Int32} : f_X9_has x0 x1 = 0 ∨ f_X9_has x0 x1 = 1 := by
  unfold f_X9_has
  repeat' split
  all_goals first | exact Or.inl rfl | exact Or.inr rfl
set_option maxRecDepth 20000 in
theorem c_X9_many {ws : va_W}  {x0 : Int32} {r : Int32} (hf : f_X9_many x0 = some r) : Ctr l D E A yX9_many cX9_many 3 (some .int) (rmD 0) [.int x0] (ws) (some (.int r)) (ws) := by
  refine Ctr.of (own := RX9) pn_X9 rfl (Nat.le_of_ble_eq_true rfl) ?_
  intro p e s m args below meth c K
  refine v_lv (lv' := [(0, .int x0)]) rfl ?_
  have L4 : ∀ (x0 : Int32), ∀ (n : Nat) (x1 : Int32) (x2 : Int32), f_X9_many_L4 x0 n x1 x2 = some r → VV p l e (rmD 0) s m args below meth c (MQ below (CQ D A (some (.int r)) ws) args s 0 0 A) D A 3 (0, 0) 4 [] [(0, .int x0), (1, .int x1), (2, .int x2)] (ws) := by
    intro x0 n
    induction n with
    | zero =>
      intro x1 x2 hf
      rw [f_X9_many_L4] at hf
      cases hf
    | succ n ih =>
      intro x1 x2 hf
      rw [f_X9_many_L4] at hf
      refine v_iload_n K 2 dX9_many_4 rfl rfl ?_
      refine v_bipush K dX9_many_5 kb_24 ?_
      refine v_icmp_ge (tgt := 24) K dX9_many_7 (by decide) (fun hc1 => ?_) (fun hc1 => ?_)
      · have hf := it_pos hc1 hf
        refine v_iload_n K 1 dX9_many_24 rfl rfl ?_
        exact v_iret K rfl dX9_many_25 (ev_o hf) rfl
      · have hf := it_neg hc1 hf
        refine v_iload_n K 1 dX9_many_10 rfl rfl ?_
        refine v_iload_n K 0 dX9_many_11 rfl rfl ?_
        refine v_iload_n K 2 dX9_many_12 rfl rfl ?_
        refine v_ishr K dX9_many_13 ?_
        refine v_iconst K dX9_many_14 ki_1 ?_
        refine v_iand K dX9_many_15 ?_
        refine v_iadd K dX9_many_16 ?_
        refine v_istore_n (lv' := [(1, .int (x1 + ((x0 >>> (x2 &&& 31)) &&& 1))), (0, .int x0), (2, .int x2)]) K dX9_many_17 rfl (by decide) rfl ?_
        refine v_iinc (v := x2 + 1) (lv' := [(2, .int (x2 + 1)), (1, .int (x1 + ((x0 >>> (x2 &&& 31)) &&& 1))), (0, .int x0)]) K 2 dX9_many_18 rfl rfl (by decide) rfl ?_
        refine v_goto (tgt := 4) K dX9_many_21 (by decide) ?_
        exact v_lsub [2, 1, 0] rfl (ih (x1 + ((x0 >>> (x2 &&& 31)) &&& 1)) (x2 + 1) hf)
  unfold f_X9_many at hf
  refine v_iconst K dX9_many_0 ki_0 ?_
  refine v_istore_n (lv' := [(1, .int 0), (0, .int x0)]) K dX9_many_1 rfl (by decide) rfl ?_
  refine v_iconst K dX9_many_2 ki_0 ?_
  refine v_istore_n (lv' := [(2, .int 0), (1, .int 0), (0, .int x0)]) K dX9_many_3 rfl (by decide) rfl ?_
  refine v_lsub [2, 1, 0] rfl ?_
  exact L4 x0 5000 0 0 hf
set_option maxRecDepth 20000 in
theorem c_X9_isReader {ws : va_W}  {x0 : Int32} {r : Int32} (hf : f_X9_isReader x0 = r) : Ctr l D E A yX9_isReader cX9_isReader 1 (some .boolean) (rmD 1) [.int x0] (ws) (some (.int r)) (ws) := by
  refine Ctr.of (own := RX9) pn_X9 rfl (Nat.le_of_ble_eq_true rfl) ?_
  intro p e s m args below meth c K
  refine v_lv (lv' := [(0, .int x0)]) rfl ?_
  unfold f_X9_isReader at hf
  refine v_iload_n K 0 dX9_isReader_0 rfl rfl ?_
  refine v_iconst K dX9_isReader_1 ki_0 ?_
  refine v_bipush K dX9_isReader_2 kb_15 ?_
  refine v_callSi (As := [.int x0, .int 0, .int 15]) (rest := []) K mk_X9_35 dX9_isReader_4 (c_X9_in  rfl) rfl rfl (Nat.le_of_ble_eq_true rfl) ⟨rfl, rfl⟩ ⟨Nat.le_of_ble_eq_true rfl, Nat.le_of_ble_eq_true rfl⟩ ?_
  exact v_zret K rfl dX9_isReader_7 (b_X9_in) (ev_v hf) rfl
theorem b_X9_isReader  {x0 : Int32} : f_X9_isReader x0 = 0 ∨ f_X9_isReader x0 = 1 := by
  unfold f_X9_isReader
  repeat' split
  all_goals first | exact Or.inl rfl | exact Or.inr rfl | exact b_X9_in
set_option maxRecDepth 20000 in
theorem c_X9_isNote {ws : va_W}  {x0 : Int32} {r : Int32} (hf : f_X9_isNote x0 = r) : Ctr l D E A yX9_isNote cX9_isNote 1 (some .boolean) (rmD 1) [.int x0] (ws) (some (.int r)) (ws) := by
  refine Ctr.of (own := RX9) pn_X9 rfl (Nat.le_of_ble_eq_true rfl) ?_
  intro p e s m args below meth c K
  refine v_lv (lv' := [(0, .int x0)]) rfl ?_
  unfold f_X9_isNote at hf
  refine v_iload_n K 0 dX9_isNote_0 rfl rfl ?_
  refine v_iconst K dX9_isNote_1 ki_0 ?_
  refine v_bipush K dX9_isNote_2 kb_23 ?_
  refine v_callSi (As := [.int x0, .int 0, .int 23]) (rest := []) K mk_X9_35 dX9_isNote_4 (c_X9_in  rfl) rfl rfl (Nat.le_of_ble_eq_true rfl) ⟨rfl, rfl⟩ ⟨Nat.le_of_ble_eq_true rfl, Nat.le_of_ble_eq_true rfl⟩ ?_
  exact v_zret K rfl dX9_isNote_7 (b_X9_in) (ev_v hf) rfl
theorem b_X9_isNote  {x0 : Int32} : f_X9_isNote x0 = 0 ∨ f_X9_isNote x0 = 1 := by
  unfold f_X9_isNote
  repeat' split
  all_goals first | exact Or.inl rfl | exact Or.inr rfl | exact b_X9_in
set_option maxRecDepth 20000 in
theorem c_X9_ofN {G : Gs} (hM : ModG E) {S : St}  {x1 : Int32} {x2 : Int32} {r : Int32} (hf : f_X9_ofN S x1 x2 = some r) : Ctr l D E A yX9_ofN cX9_ofN 3 (some .int) (rmD 0) [.ref (eA E 1 0), .int x1, .int x2] (wl E (va_up G 1 S)) (some (.int r)) (wl E (va_up G 1 S)) := by
  refine Ctr.of (own := RX9) pn_X9 rfl (Nat.le_of_ble_eq_true rfl) ?_
  intro p e s m args below meth c K
  refine v_lv (lv' := [(0, .ref (eA E 1 0)), (1, .int x1), (2, .int x2)]) rfl ?_
  unfold f_X9_ofN at hf
  refine v_aload_n K 0 dX9_ofN_0 rfl rfl ?_
  refine g_get K fk_X9_7 dX9_ofN_1 (hM 0 (by decide)) rfl rfl ?_
  refine v_bipush K dX9_ofN_4 kb_8 ?_
  refine v_iconst K dX9_ofN_6 ki_5 ?_
  refine v_iload_n K 1 dX9_ofN_7 rfl rfl ?_
  refine v_imul K dX9_ofN_8 ?_
  refine v_iadd K dX9_ofN_9 ?_
  refine v_iload_n K 2 dX9_ofN_10 rfl rfl ?_
  refine v_iadd K dX9_ofN_11 ?_
  obtain ⟨hi12, hf⟩ := ix_el hf
  refine g_iald K dX9_ofN_12 (hM 1 (by decide)) rfl hi12 ?_
  exact v_iret K rfl dX9_ofN_13 (ev_o hf) rfl
set_option maxRecDepth 20000 in
theorem c_X9_layN {G : Gs} (hM : ModG E) {S S' : St}  {x1 : Int32} {x2 : Int32} {x3 : Int32} (hf : f_X9_layN S x1 x2 x3 = some S') : Ctr l D E A yX9_layN cX9_layN 4 none (rmD 0) [.ref (eA E 1 0), .int x1, .int x2, .int x3] (wl E (va_up G 1 S)) none (wl E (va_up G 1 S')) := by
  refine Ctr.of (own := RX9) pn_X9 rfl (Nat.le_of_ble_eq_true rfl) ?_
  intro p e s m args below meth c K
  refine v_lv (lv' := [(0, .ref (eA E 1 0)), (1, .int x1), (2, .int x2), (3, .int x3)]) rfl ?_
  unfold f_X9_layN at hf
  refine v_aload_n K 0 dX9_layN_0 rfl rfl ?_
  refine g_get K fk_X9_7 dX9_layN_1 (hM 0 (by decide)) rfl rfl ?_
  refine v_bipush K dX9_layN_4 kb_8 ?_
  refine v_iconst K dX9_layN_6 ki_5 ?_
  refine v_iload_n K 1 dX9_layN_7 rfl rfl ?_
  refine v_imul K dX9_layN_8 ?_
  refine v_iadd K dX9_layN_9 ?_
  refine v_iload_n K 2 dX9_layN_10 rfl rfl ?_
  refine v_iadd K dX9_layN_11 ?_
  refine v_iload_n K 3 dX9_layN_12 rfl rfl ?_
  obtain ⟨hi13, hf⟩ := ix_el hf
  obtain ⟨S1, hS1, hf⟩ := bnd_el hf
  refine g_iast K dX9_layN_13 (hM 1 (by decide)) (fun _ => rfl) hi13 hS1 ?_
  exact v_vret K rfl dX9_layN_14 rfl (ew_o hf)
set_option maxRecDepth 20000 in
theorem c_X9_ofR {G : Gs} (hM : ModG E) {S : St}  {x1 : Int32} {x2 : Int32} {r : Int32} (hf : f_X9_ofR S x1 x2 = some r) : Ctr l D E A yX9_ofR cX9_ofR 3 (some .int) (rmD 0) [.ref (eA E 1 0), .int x1, .int x2] (wl E (va_up G 1 S)) (some (.int r)) (wl E (va_up G 1 S)) := by
  refine Ctr.of (own := RX9) pn_X9 rfl (Nat.le_of_ble_eq_true rfl) ?_
  intro p e s m args below meth c K
  refine v_lv (lv' := [(0, .ref (eA E 1 0)), (1, .int x1), (2, .int x2)]) rfl ?_
  unfold f_X9_ofR at hf
  refine v_aload_n K 0 dX9_ofR_0 rfl rfl ?_
  refine g_get K fk_X9_7 dX9_ofR_1 (hM 0 (by decide)) rfl rfl ?_
  refine v_sipush K dX9_ofR_4 ks_128 ?_
  refine v_iconst K dX9_ofR_7 ki_5 ?_
  refine v_iload_n K 1 dX9_ofR_8 rfl rfl ?_
  refine v_imul K dX9_ofR_9 ?_
  refine v_iadd K dX9_ofR_10 ?_
  refine v_iload_n K 2 dX9_ofR_11 rfl rfl ?_
  refine v_iadd K dX9_ofR_12 ?_
  obtain ⟨hi13, hf⟩ := ix_el hf
  refine g_iald K dX9_ofR_13 (hM 1 (by decide)) rfl hi13 ?_
  exact v_iret K rfl dX9_ofR_14 (ev_o hf) rfl
set_option maxRecDepth 20000 in
theorem c_X9_moreR {G : Gs} (hM : ModG E) {S S' : St}  {x1 : Int32} {x2 : Int32} {x3 : Int32} (hf : f_X9_moreR S x1 x2 x3 = some S') : Ctr l D E A yX9_moreR cX9_moreR 4 none (rmD 0) [.ref (eA E 1 0), .int x1, .int x2, .int x3] (wl E (va_up G 1 S)) none (wl E (va_up G 1 S')) := by
  refine Ctr.of (own := RX9) pn_X9 rfl (Nat.le_of_ble_eq_true rfl) ?_
  intro p e s m args below meth c K
  refine v_lv (lv' := [(0, .ref (eA E 1 0)), (1, .int x1), (2, .int x2), (3, .int x3)]) rfl ?_
  unfold f_X9_moreR at hf
  refine v_aload_n K 0 dX9_moreR_0 rfl rfl ?_
  refine g_get K fk_X9_7 dX9_moreR_1 (hM 0 (by decide)) rfl rfl ?_
  refine v_sipush K dX9_moreR_4 ks_128 ?_
  refine v_iconst K dX9_moreR_7 ki_5 ?_
  refine v_iload_n K 1 dX9_moreR_8 rfl rfl ?_
  refine v_imul K dX9_moreR_9 ?_
  refine v_iadd K dX9_moreR_10 ?_
  refine v_iload_n K 2 dX9_moreR_11 rfl rfl ?_
  refine v_iadd K dX9_moreR_12 ?_
  refine v_dup2 K dX9_moreR_13 rfl rfl ?_
  obtain ⟨hi14, hf⟩ := ix_el hf
  refine g_iald K dX9_moreR_14 (hM 1 (by decide)) rfl hi14 ?_
  refine v_iload_n K 3 dX9_moreR_15 rfl rfl ?_
  refine v_iadd K dX9_moreR_16 ?_
  obtain ⟨hi17, hf⟩ := ix_el hf
  obtain ⟨S1, hS1, hf⟩ := bnd_el hf
  refine g_iast K dX9_moreR_17 (hM 1 (by decide)) (fun _ => rfl) hi17 hS1 ?_
  exact v_vret K rfl dX9_moreR_18 rfl (ew_o hf)
set_option maxRecDepth 20000 in
theorem c_X9_ofC {G : Gs} (hM : ModG E) {S : St}  {x1 : Int32} {x2 : Int32} {x3 : Int32} {r : Int32} (hf : f_X9_ofC S x1 x2 x3 = some r) : Ctr l D E A yX9_ofC cX9_ofC 4 (some .int) (rmD 0) [.ref (eA E 1 0), .int x1, .int x2, .int x3] (wl E (va_up G 1 S)) (some (.int r)) (wl E (va_up G 1 S)) := by
  refine Ctr.of (own := RX9) pn_X9 rfl (Nat.le_of_ble_eq_true rfl) ?_
  intro p e s m args below meth c K
  refine v_lv (lv' := [(0, .ref (eA E 1 0)), (1, .int x1), (2, .int x2), (3, .int x3)]) rfl ?_
  unfold f_X9_ofC at hf
  refine v_aload_n K 0 dX9_ofC_0 rfl rfl ?_
  refine g_get K fk_X9_7 dX9_ofC_1 (hM 0 (by decide)) rfl rfl ?_
  refine v_sipush K dX9_ofC_4 ks_208 ?_
  refine v_bipush K dX9_ofC_7 kb_24 ?_
  refine v_iload_n K 1 dX9_ofC_9 rfl rfl ?_
  refine v_imul K dX9_ofC_10 ?_
  refine v_iadd K dX9_ofC_11 ?_
  refine v_iconst K dX9_ofC_12 ki_3 ?_
  refine v_iload_n K 2 dX9_ofC_13 rfl rfl ?_
  refine v_imul K dX9_ofC_14 ?_
  refine v_iadd K dX9_ofC_15 ?_
  refine v_iload_n K 3 dX9_ofC_16 rfl rfl ?_
  refine v_iadd K dX9_ofC_17 ?_
  obtain ⟨hi18, hf⟩ := ix_el hf
  refine g_iald K dX9_ofC_18 (hM 1 (by decide)) rfl hi18 ?_
  exact v_iret K rfl dX9_ofC_19 (ev_o hf) rfl
set_option maxRecDepth 20000 in
theorem c_X9_layC {G : Gs} (hM : ModG E) {S S' : St}  {x1 : Int32} {x2 : Int32} {x3 : Int32} {x4 : Int32} (hf : f_X9_layC S x1 x2 x3 x4 = some S') : Ctr l D E A yX9_layC cX9_layC 5 none (rmD 0) [.ref (eA E 1 0), .int x1, .int x2, .int x3, .int x4] (wl E (va_up G 1 S)) none (wl E (va_up G 1 S')) := by
  refine Ctr.of (own := RX9) pn_X9 rfl (Nat.le_of_ble_eq_true rfl) ?_
  intro p e s m args below meth c K
  refine v_lv (lv' := [(0, .ref (eA E 1 0)), (1, .int x1), (2, .int x2), (3, .int x3), (4, .int x4)]) rfl ?_
  unfold f_X9_layC at hf
  refine v_aload_n K 0 dX9_layC_0 rfl rfl ?_
  refine g_get K fk_X9_7 dX9_layC_1 (hM 0 (by decide)) rfl rfl ?_
  refine v_sipush K dX9_layC_4 ks_208 ?_
  refine v_bipush K dX9_layC_7 kb_24 ?_
  refine v_iload_n K 1 dX9_layC_9 rfl rfl ?_
  refine v_imul K dX9_layC_10 ?_
  refine v_iadd K dX9_layC_11 ?_
  refine v_iconst K dX9_layC_12 ki_3 ?_
  refine v_iload_n K 2 dX9_layC_13 rfl rfl ?_
  refine v_imul K dX9_layC_14 ?_
  refine v_iadd K dX9_layC_15 ?_
  refine v_iload_n K 3 dX9_layC_16 rfl rfl ?_
  refine v_iadd K dX9_layC_17 ?_
  refine v_iload K 4 dX9_layC_18 rfl ?_
  obtain ⟨hi20, hf⟩ := ix_el hf
  obtain ⟨S1, hS1, hf⟩ := bnd_el hf
  refine g_iast K dX9_layC_20 (hM 1 (by decide)) (fun _ => rfl) hi20 hS1 ?_
  exact v_vret K rfl dX9_layC_21 rfl (ew_o hf)
set_option maxRecDepth 20000 in
theorem c_X9_keep {G : Gs} (hM : ModG E) {S S' : St}  (hf : f_X9_keep S = some S') : Ctr l D E A yX9_keep cX9_keep 3 none (rmD 0) [.ref (eA E 1 0)] (wl E (va_up G 1 S)) none (wl E (va_up G 1 S')) := by
  refine Ctr.of (own := RX9) pn_X9 rfl (Nat.le_of_ble_eq_true rfl) ?_
  intro p e s m args below meth c K
  refine v_lv (lv' := [(0, .ref (eA E 1 0))]) rfl ?_
  have L47 : ∀ (x1 : Int32), ∀ (k : Int32 → St → Option (St)), (∀ (x2 : Int32) (S : St), k x2 S = some S' → VV p l e (rmD 0) s m args below meth c (MQ below (CQ D A none (wl E (va_up G 1 S'))) args s 0 0 A) D A 3 (0, 0) 78 [] [(0, .ref (eA E 1 0))] (wl E (va_up G 1 S))) → ∀ (n : Nat) (x2 : Int32) (S : St), f_X9_keep_L47 x1 k n x2 S = some S' → VV p l e (rmD 0) s m args below meth c (MQ below (CQ D A none (wl E (va_up G 1 S'))) args s 0 0 A) D A 3 (0, 0) 47 [] [(0, .ref (eA E 1 0)), (1, .int x1), (2, .int x2)] (wl E (va_up G 1 S)) := by
    intro x1 k hk n
    induction n with
    | zero =>
      intro x2 S hf
      rw [f_X9_keep_L47] at hf
      cases hf
    | succ n ih =>
      intro x2 S hf
      rw [f_X9_keep_L47] at hf
      refine v_iload_n K 2 dX9_keep_47 rfl rfl ?_
      refine v_sipush K dX9_keep_48 ks_652 ?_
      refine v_icmp_ge (tgt := 78) K dX9_keep_51 (by decide) (fun hc2 => ?_) (fun hc2 => ?_)
      · have hf := it_pos hc2 hf
        exact v_lsub [0] rfl (hk x2 S hf)
      · have hf := it_neg hc2 hf
        refine v_aload_n K 0 dX9_keep_54 rfl rfl ?_
        refine g_get K fk_X9_13 dX9_keep_55 (hM 0 (by decide)) rfl rfl ?_
        refine v_sipush K dX9_keep_58 ks_652 ?_
        refine v_iload_n K 1 dX9_keep_61 rfl rfl ?_
        refine v_imul K dX9_keep_62 ?_
        refine v_iload_n K 2 dX9_keep_63 rfl rfl ?_
        refine v_iadd K dX9_keep_64 ?_
        refine v_aload_n K 0 dX9_keep_65 rfl rfl ?_
        refine g_get K fk_X9_7 dX9_keep_66 (hM 0 (by decide)) rfl rfl ?_
        refine v_iload_n K 2 dX9_keep_69 rfl rfl ?_
        obtain ⟨hi70, hf⟩ := ix_el hf
        refine g_iald K dX9_keep_70 (hM 1 (by decide)) rfl hi70 ?_
        obtain ⟨hi71, hf⟩ := ix_el hf
        obtain ⟨S2, hS2, hf⟩ := bnd_el hf
        refine g_iast K dX9_keep_71 (hM 2 (by decide)) (fun _ => rfl) hi71 hS2 ?_
        refine v_iinc (v := x2 + 1) (lv' := [(2, .int (x2 + 1)), (0, .ref (eA E 1 0)), (1, .int x1)]) K 2 dX9_keep_72 rfl rfl (by decide) rfl ?_
        refine v_goto (tgt := 47) K dX9_keep_75 (by decide) ?_
        exact v_lsub [1, 2, 0] rfl (ih (x2 + 1) S2 hf)
  unfold f_X9_keep at hf
  refine v_aload_n K 0 dX9_keep_0 rfl rfl ?_
  refine g_get K fk_X9_39 dX9_keep_1 (hM 0 (by decide)) rfl rfl ?_
  refine v_bipush K dX9_keep_4 kb_6 ?_
  refine jn_1 (fun (S_32 : St) => VV p l e (rmD 0) s m args below meth c (MQ below (CQ D A none (wl E (va_up G 1 S'))) args s 0 0 A) D A 3 (0, 0) 32 [] [(0, .ref (eA E 1 0))] (wl E (va_up G 1 S_32))) hf (fun S_32 hf => ?_) (fun hj1 hf => ?_)
  · refine v_aload_n K 0 dX9_keep_32 rfl rfl ?_
    refine g_get K fk_X9_43 dX9_keep_33 (hM 0 (by decide)) rfl rfl ?_
    refine v_aload_n K 0 dX9_keep_36 rfl rfl ?_
    refine g_get K fk_X9_39 dX9_keep_37 (hM 0 (by decide)) rfl rfl ?_
    refine v_iadd K dX9_keep_40 ?_
    refine v_bipush K dX9_keep_41 kb_6 ?_
    refine v_irem K dX9_keep_43 (by decide) ?_
    refine v_istore_n (lv' := [(1, .int (((S_32 0 2) + (S_32 0 3)) - ((S_32 0 2) + (S_32 0 3)) / 6 * 6)), (0, .ref (eA E 1 0))]) K dX9_keep_44 rfl (by decide) rfl ?_
    refine v_iconst K dX9_keep_45 ki_0 ?_
    refine v_istore_n (lv' := [(2, .int 0), (1, .int (((S_32 0 2) + (S_32 0 3)) - ((S_32 0 2) + (S_32 0 3)) / 6 * 6)), (0, .ref (eA E 1 0))]) K dX9_keep_46 rfl (by decide) rfl ?_
    refine v_lsub [2, 1, 0] rfl ?_
    refine L47 (((S_32 0 2) + (S_32 0 3)) - ((S_32 0 2) + (S_32 0 3)) / 6 * 6) _ ?_ 5000 0 S_32 hf
    intro x2_78 S_78 hf
    refine v_aload_n K 0 dX9_keep_78 rfl rfl ?_
    refine v_dup K dX9_keep_79 rfl ?_
    refine g_get K fk_X9_39 dX9_keep_80 (hM 0 (by decide)) rfl rfl ?_
    refine v_iconst K dX9_keep_83 ki_1 ?_
    refine v_iadd K dX9_keep_84 ?_
    obtain ⟨S3, hS3, hf⟩ := bnd_el hf
    refine g_put K fp_X9_39 dX9_keep_85 (hM 0 (by decide)) rfl 3 (Nat.le_of_ble_eq_true rfl) rfl rfl rfl hS3 ?_
    exact v_vret K rfl dX9_keep_88 rfl (ew_o hf)
  · refine v_icmp_ne (tgt := 32) K dX9_keep_6 (by decide) (fun hc1 => ?_) (fun hc1 => ?_)
    · have hf := it_neg hc1 hf
      exact v_lsub [0] rfl (hj1 S hf)
    · have hf := it_pos hc1 hf
      refine v_aload_n K 0 dX9_keep_9 rfl rfl ?_
      refine v_aload_n K 0 dX9_keep_10 rfl rfl ?_
      refine g_get K fk_X9_43 dX9_keep_11 (hM 0 (by decide)) rfl rfl ?_
      refine v_iconst K dX9_keep_14 ki_1 ?_
      refine v_iadd K dX9_keep_15 ?_
      refine v_bipush K dX9_keep_16 kb_6 ?_
      refine v_irem K dX9_keep_18 (by decide) ?_
      obtain ⟨S4, hS4, hf⟩ := bnd_el hf
      refine g_put K fp_X9_43 dX9_keep_19 (hM 0 (by decide)) rfl 2 (Nat.le_of_ble_eq_true rfl) rfl rfl rfl hS4 ?_
      refine v_aload_n K 0 dX9_keep_22 rfl rfl ?_
      refine v_dup K dX9_keep_23 rfl ?_
      refine g_get K fk_X9_39 dX9_keep_24 (hM 0 (by decide)) rfl rfl ?_
      refine v_iconst K dX9_keep_27 ki_1 ?_
      refine v_isub K dX9_keep_28 ?_
      obtain ⟨S5, hS5, hf⟩ := bnd_el hf
      refine g_put K fp_X9_39 dX9_keep_29 (hM 0 (by decide)) rfl 3 (Nat.le_of_ble_eq_true rfl) rfl rfl rfl hS5 ?_
      exact v_lsub [0] rfl (hj1 S5 hf)
set_option maxRecDepth 20000 in
theorem c_X9_keepIf {G : Gs} (hM : ModG E) {S S' : St}  {x1 : Int32} (hf : f_X9_keepIf S x1 = some S') : Ctr l D E A yX9_keepIf cX9_keepIf 2 none (rmD 1) [.ref (eA E 1 0), .int x1] (wl E (va_up G 1 S)) none (wl E (va_up G 1 S')) := by
  refine Ctr.of (own := RX9) pn_X9 rfl (Nat.le_of_ble_eq_true rfl) ?_
  intro p e s m args below meth c K
  refine v_lv (lv' := [(0, .ref (eA E 1 0)), (1, .int x1)]) rfl ?_
  unfold f_X9_keepIf at hf
  refine v_iload_n K 1 dX9_keepIf_0 rfl rfl ?_
  refine v_if_eq (tgt := 8) K dX9_keepIf_1 (by decide) (fun hc1 => ?_) (fun hc1 => ?_)
  · have hf := it_pos hc1 hf
    exact v_vret K rfl dX9_keepIf_8 rfl (ew_o hf)
  · have hf := it_neg hc1 hf
    refine v_aload_n K 0 dX9_keepIf_4 rfl rfl ?_
    obtain ⟨S1, hS1, hf⟩ := bd_el hf
    refine v_callWn (As := []) (rest := []) K mk_X9_46 dX9_keepIf_5 (c_X9_keep hM hS1) (hM 0 (by decide)) rfl rfl rfl rfl rfl (Nat.le_of_ble_eq_true rfl) ⟨rfl, rfl⟩ ⟨Nat.le_of_ble_eq_true rfl, Nat.le_of_ble_eq_true rfl⟩ ?_
    exact v_vret K rfl dX9_keepIf_8 rfl (ew_o hf)
set_option maxRecDepth 20000 in
theorem c_X9_layAside {G : Gs} (hM : ModG E) {S S' : St}  (hf : f_X9_layAside S = some S') : Ctr l D E A yX9_layAside cX9_layAside 2 none (rmD 0) [.ref (eA E 1 0)] (wl E (va_up G 1 S)) none (wl E (va_up G 1 S')) := by
  refine Ctr.of (own := RX9) pn_X9 rfl (Nat.le_of_ble_eq_true rfl) ?_
  intro p e s m args below meth c K
  refine v_lv (lv' := [(0, .ref (eA E 1 0))]) rfl ?_
  have L2 : ∀ (n : Nat) (x1 : Int32) (S : St), f_X9_layAside_L2 n x1 S = some S' → VV p l e (rmD 0) s m args below meth c (MQ below (CQ D A none (wl E (va_up G 1 S'))) args s 0 0 A) D A 2 (0, 0) 2 [] [(0, .ref (eA E 1 0)), (1, .int x1)] (wl E (va_up G 1 S)) := by
    intro n
    induction n with
    | zero =>
      intro x1 S hf
      rw [f_X9_layAside_L2] at hf
      cases hf
    | succ n ih =>
      intro x1 S hf
      rw [f_X9_layAside_L2] at hf
      refine v_iload_n K 1 dX9_layAside_2 rfl rfl ?_
      refine v_sipush K dX9_layAside_3 ks_652 ?_
      refine v_icmp_ge (tgt := 27) K dX9_layAside_6 (by decide) (fun hc1 => ?_) (fun hc1 => ?_)
      · have hf := it_pos hc1 hf
        exact v_vret K rfl dX9_layAside_27 rfl (ew_o hf)
      · have hf := it_neg hc1 hf
        refine v_aload_n K 0 dX9_layAside_9 rfl rfl ?_
        refine g_get K fk_X9_23 dX9_layAside_10 (hM 0 (by decide)) rfl rfl ?_
        refine v_iload_n K 1 dX9_layAside_13 rfl rfl ?_
        refine v_aload_n K 0 dX9_layAside_14 rfl rfl ?_
        refine g_get K fk_X9_7 dX9_layAside_15 (hM 0 (by decide)) rfl rfl ?_
        refine v_iload_n K 1 dX9_layAside_18 rfl rfl ?_
        obtain ⟨hi19, hf⟩ := ix_el hf
        refine g_iald K dX9_layAside_19 (hM 1 (by decide)) rfl hi19 ?_
        obtain ⟨hi20, hf⟩ := ix_el hf
        obtain ⟨S1, hS1, hf⟩ := bnd_el hf
        refine g_iast K dX9_layAside_20 (hM 5 (by decide)) (fun _ => rfl) hi20 hS1 ?_
        refine v_iinc (v := x1 + 1) (lv' := [(1, .int (x1 + 1)), (0, .ref (eA E 1 0))]) K 1 dX9_layAside_21 rfl rfl (by decide) rfl ?_
        refine v_goto (tgt := 2) K dX9_layAside_24 (by decide) ?_
        exact v_lsub [1, 0] rfl (ih (x1 + 1) S1 hf)
  unfold f_X9_layAside at hf
  refine v_iconst K dX9_layAside_0 ki_0 ?_
  refine v_istore_n (lv' := [(1, .int 0), (0, .ref (eA E 1 0))]) K dX9_layAside_1 rfl (by decide) rfl ?_
  refine v_lsub [1, 0] rfl ?_
  exact L2  5000 0 S hf
set_option maxRecDepth 20000 in
theorem c_X9_layBack {G : Gs} (hM : ModG E) {S S' : St}  (hf : f_X9_layBack S = some S') : Ctr l D E A yX9_layBack cX9_layBack 2 none (rmD 0) [.ref (eA E 1 0)] (wl E (va_up G 1 S)) none (wl E (va_up G 1 S')) := by
  refine Ctr.of (own := RX9) pn_X9 rfl (Nat.le_of_ble_eq_true rfl) ?_
  intro p e s m args below meth c K
  refine v_lv (lv' := [(0, .ref (eA E 1 0))]) rfl ?_
  have L2 : ∀ (n : Nat) (x1 : Int32) (S : St), f_X9_layBack_L2 n x1 S = some S' → VV p l e (rmD 0) s m args below meth c (MQ below (CQ D A none (wl E (va_up G 1 S'))) args s 0 0 A) D A 2 (0, 0) 2 [] [(0, .ref (eA E 1 0)), (1, .int x1)] (wl E (va_up G 1 S)) := by
    intro n
    induction n with
    | zero =>
      intro x1 S hf
      rw [f_X9_layBack_L2] at hf
      cases hf
    | succ n ih =>
      intro x1 S hf
      rw [f_X9_layBack_L2] at hf
      refine v_iload_n K 1 dX9_layBack_2 rfl rfl ?_
      refine v_sipush K dX9_layBack_3 ks_652 ?_
      refine v_icmp_ge (tgt := 27) K dX9_layBack_6 (by decide) (fun hc1 => ?_) (fun hc1 => ?_)
      · have hf := it_pos hc1 hf
        exact v_vret K rfl dX9_layBack_27 rfl (ew_o hf)
      · have hf := it_neg hc1 hf
        refine v_aload_n K 0 dX9_layBack_9 rfl rfl ?_
        refine g_get K fk_X9_7 dX9_layBack_10 (hM 0 (by decide)) rfl rfl ?_
        refine v_iload_n K 1 dX9_layBack_13 rfl rfl ?_
        refine v_aload_n K 0 dX9_layBack_14 rfl rfl ?_
        refine g_get K fk_X9_23 dX9_layBack_15 (hM 0 (by decide)) rfl rfl ?_
        refine v_iload_n K 1 dX9_layBack_18 rfl rfl ?_
        obtain ⟨hi19, hf⟩ := ix_el hf
        refine g_iald K dX9_layBack_19 (hM 5 (by decide)) rfl hi19 ?_
        obtain ⟨hi20, hf⟩ := ix_el hf
        obtain ⟨S1, hS1, hf⟩ := bnd_el hf
        refine g_iast K dX9_layBack_20 (hM 1 (by decide)) (fun _ => rfl) hi20 hS1 ?_
        refine v_iinc (v := x1 + 1) (lv' := [(1, .int (x1 + 1)), (0, .ref (eA E 1 0))]) K 1 dX9_layBack_21 rfl rfl (by decide) rfl ?_
        refine v_goto (tgt := 2) K dX9_layBack_24 (by decide) ?_
        exact v_lsub [1, 0] rfl (ih (x1 + 1) S1 hf)
  unfold f_X9_layBack at hf
  refine v_iconst K dX9_layBack_0 ki_0 ?_
  refine v_istore_n (lv' := [(1, .int 0), (0, .ref (eA E 1 0))]) K dX9_layBack_1 rfl (by decide) rfl ?_
  refine v_lsub [1, 0] rfl ?_
  exact L2  5000 0 S hf
set_option maxRecDepth 20000 in
theorem c_X9_placeOf {G : Gs} (hM : ModG E) {S : St}  {x1 : Int32} {x2 : Int32} {r : Int32} (hf : f_X9_placeOf S x1 x2 = some r) : Ctr l D E A yX9_placeOf cX9_placeOf 4 (some .int) (rmD 1) [.ref (eA E 1 0), .int x1, .int x2] (wl E (va_up G 1 S)) (some (.int r)) (wl E (va_up G 1 S)) := by
  refine Ctr.of (own := RX9) pn_X9 rfl (Nat.le_of_ble_eq_true rfl) ?_
  intro p e s m args below meth c K
  refine v_lv (lv' := [(0, .ref (eA E 1 0)), (1, .int x1), (2, .int x2)]) rfl ?_
  have L2 : ∀ (x1 : Int32) (x2 : Int32) (S : St), ∀ (k : Int32 → Option (Int32)), (∀ (x3 : Int32), k x3 = some r → VV p l e (rmD 1) s m args below meth c (MQ below (CQ D A (some (.int r)) (wl E (va_up G 1 S))) args s 0 0 A) D A 4 (0, 0) 29 [] [(0, .ref (eA E 1 0)), (1, .int x1), (3, .int x3)] (wl E (va_up G 1 S))) → ∀ (n : Nat) (x3 : Int32), f_X9_placeOf_L2 x1 x2 S k n x3 = some r → VV p l e (rmD 1) s m args below meth c (MQ below (CQ D A (some (.int r)) (wl E (va_up G 1 S))) args s 0 0 A) D A 4 (0, 0) 2 [] [(0, .ref (eA E 1 0)), (1, .int x1), (2, .int x2), (3, .int x3)] (wl E (va_up G 1 S)) := by
    intro x1 x2 S k hk n
    induction n with
    | zero =>
      intro x3 hf
      rw [f_X9_placeOf_L2] at hf
      cases hf
    | succ n ih =>
      intro x3 hf
      rw [f_X9_placeOf_L2] at hf
      refine v_iload_n K 3 dX9_placeOf_2 rfl rfl ?_
      refine v_aload_n K 0 dX9_placeOf_3 rfl rfl ?_
      refine v_iload_n K 1 dX9_placeOf_4 rfl rfl ?_
      refine v_iconst K dX9_placeOf_5 ki_0 ?_
      obtain ⟨y1, hy1, hf⟩ := bd_el hf
      refine v_callWi (As := [.int x1, .int 0]) (rest := [.int x3]) K mk_X9_49 dX9_placeOf_6 (c_X9_ofR hM hy1) (hM 0 (by decide)) rfl rfl rfl rfl rfl (Nat.le_of_ble_eq_true rfl) ⟨rfl, rfl⟩ ⟨Nat.le_of_ble_eq_true rfl, Nat.le_of_ble_eq_true rfl⟩ ?_
      refine v_icmp_ge (tgt := 29) K dX9_placeOf_9 (by decide) (fun hc1 => ?_) (fun hc1 => ?_)
      · have hf := it_pos hc1 hf
        exact v_lsub [0, 1, 3] rfl (hk x3 hf)
      · have hf := it_neg hc1 hf
        refine v_aload_n K 0 dX9_placeOf_12 rfl rfl ?_
        refine v_iload_n K 1 dX9_placeOf_13 rfl rfl ?_
        refine v_iload_n K 3 dX9_placeOf_14 rfl rfl ?_
        refine v_iconst K dX9_placeOf_15 ki_0 ?_
        obtain ⟨y2, hy2, hf⟩ := bd_el hf
        refine v_callWi (As := [.int x1, .int x3, .int 0]) (rest := []) K mk_X9_53 dX9_placeOf_16 (c_X9_ofC hM hy2) (hM 0 (by decide)) rfl rfl rfl rfl rfl (Nat.le_of_ble_eq_true rfl) ⟨rfl, rfl⟩ ⟨Nat.le_of_ble_eq_true rfl, Nat.le_of_ble_eq_true rfl⟩ ?_
        refine v_iload_n K 2 dX9_placeOf_19 rfl rfl ?_
        refine v_icmp_eq (tgt := 29) K dX9_placeOf_20 (by decide) (fun hc2 => ?_) (fun hc2 => ?_)
        · have hf := it_pos hc2 hf
          exact v_lsub [0, 1, 3] rfl (hk x3 hf)
        · have hf := it_neg hc2 hf
          refine v_iinc (v := x3 + 1) (lv' := [(3, .int (x3 + 1)), (0, .ref (eA E 1 0)), (1, .int x1), (2, .int x2)]) K 3 dX9_placeOf_23 rfl rfl (by decide) rfl ?_
          refine v_goto (tgt := 2) K dX9_placeOf_26 (by decide) ?_
          exact v_lsub [1, 2, 3, 0] rfl (ih (x3 + 1) hf)
  unfold f_X9_placeOf at hf
  refine v_iconst K dX9_placeOf_0 ki_0 ?_
  refine v_istore_n (lv' := [(3, .int 0), (0, .ref (eA E 1 0)), (1, .int x1), (2, .int x2)]) K dX9_placeOf_1 rfl (by decide) rfl ?_
  refine v_lsub [1, 2, 3, 0] rfl ?_
  refine L2 x1 x2 S _ ?_ 5000 0 hf
  intro x3_29 hf
  refine v_iload_n K 2 dX9_placeOf_29 rfl rfl ?_
  refine v_aload_n K 0 dX9_placeOf_30 rfl rfl ?_
  refine v_iload_n K 1 dX9_placeOf_31 rfl rfl ?_
  refine v_iconst K dX9_placeOf_32 ki_0 ?_
  obtain ⟨y3, hy3, hf⟩ := bd_el hf
  refine v_callWi (As := [.int x1, .int 0]) (rest := [.int x3_29]) K mk_X9_49 dX9_placeOf_33 (c_X9_ofR hM hy3) (hM 0 (by decide)) rfl rfl rfl rfl rfl (Nat.le_of_ble_eq_true rfl) ⟨rfl, rfl⟩ ⟨Nat.le_of_ble_eq_true rfl, Nat.le_of_ble_eq_true rfl⟩ ?_
  refine v_icmp_ge (tgt := 43) K dX9_placeOf_36 (by decide) (fun hc3 => ?_) (fun hc3 => ?_)
  · have hf := it_pos hc3 hf
    refine v_bipush K dX9_placeOf_43 kb_m6 ?_
    exact v_iret K rfl dX9_placeOf_45 (ev_o hf) rfl
  · have hf := it_neg hc3 hf
    refine v_iload_n K 2 dX9_placeOf_39 rfl rfl ?_
    refine v_goto (tgt := 45) K dX9_placeOf_40 (by decide) ?_
    exact v_iret K rfl dX9_placeOf_45 (ev_o hf) rfl
set_option maxRecDepth 20000 in
theorem c_X9_takeOff {G : Gs} (hM : ModG E) {S S' : St}  {x1 : Int32} {x2 : Int32} (hf : f_X9_takeOff S x1 x2 = some S') : Ctr l D E A yX9_takeOff cX9_takeOff 4 none (rmD 1) [.ref (eA E 1 0), .int x1, .int x2] (wl E (va_up G 1 S)) none (wl E (va_up G 1 S')) := by
  refine Ctr.of (own := RX9) pn_X9 rfl (Nat.le_of_ble_eq_true rfl) ?_
  intro p e s m args below meth c K
  refine v_lv (lv' := [(0, .ref (eA E 1 0)), (1, .int x1), (2, .int x2)]) rfl ?_
  have L20 : ∀ (x1 : Int32), ∀ (n : Nat) (x3 : Int32) (S : St), f_X9_takeOff_L20 x1 n x3 S = some S' → VV p l e (rmD 1) s m args below meth c (MQ below (CQ D A none (wl E (va_up G 1 S'))) args s 0 0 A) D A 4 (0, 0) 20 [] [(0, .ref (eA E 1 0)), (1, .int x1), (3, .int x3)] (wl E (va_up G 1 S)) := by
    intro x1 n
    induction n with
    | zero =>
      intro x3 S hf
      rw [f_X9_takeOff_L20] at hf
      cases hf
    | succ n ih =>
      intro x3 S hf
      rw [f_X9_takeOff_L20] at hf
      refine v_iload_n K 2 dX9_takeOff_20 rfl rfl ?_
      refine v_sipush K dX9_takeOff_21 ks_208 ?_
      refine v_bipush K dX9_takeOff_24 kb_24 ?_
      refine v_iload_n K 1 dX9_takeOff_26 rfl rfl ?_
      refine v_imul K dX9_takeOff_27 ?_
      refine v_iadd K dX9_takeOff_28 ?_
      refine v_iconst K dX9_takeOff_29 ki_3 ?_
      refine v_aload_n K 0 dX9_takeOff_30 rfl rfl ?_
      refine v_iload_n K 1 dX9_takeOff_31 rfl rfl ?_
      refine v_iconst K dX9_takeOff_32 ki_0 ?_
      obtain ⟨y2, hy2, hf⟩ := bd_el hf
      refine v_callWi (As := [.int x1, .int 0]) (rest := [.int 3, .int (208 + (24 * x1)), .int x3]) K mk_X9_49 dX9_takeOff_33 (c_X9_ofR hM hy2) (hM 0 (by decide)) rfl rfl rfl rfl rfl (Nat.le_of_ble_eq_true rfl) ⟨rfl, rfl⟩ ⟨Nat.le_of_ble_eq_true rfl, Nat.le_of_ble_eq_true rfl⟩ ?_
      refine v_imul K dX9_takeOff_36 ?_
      refine v_iadd K dX9_takeOff_37 ?_
      refine v_icmp_ge (tgt := 61) K dX9_takeOff_38 (by decide) (fun hc1 => ?_) (fun hc1 => ?_)
      · have hf := it_pos hc1 hf
        exact v_vret K rfl dX9_takeOff_61 rfl (ew_o hf)
      · have hf := it_neg hc1 hf
        refine v_aload_n K 0 dX9_takeOff_41 rfl rfl ?_
        refine g_get K fk_X9_7 dX9_takeOff_42 (hM 0 (by decide)) rfl rfl ?_
        refine v_iload_n K 2 dX9_takeOff_45 rfl rfl ?_
        refine v_aload_n K 0 dX9_takeOff_46 rfl rfl ?_
        refine g_get K fk_X9_7 dX9_takeOff_47 (hM 0 (by decide)) rfl rfl ?_
        refine v_iload_n K 2 dX9_takeOff_50 rfl rfl ?_
        refine v_iconst K dX9_takeOff_51 ki_3 ?_
        refine v_iadd K dX9_takeOff_52 ?_
        obtain ⟨hi53, hf⟩ := ix_el hf
        refine g_iald K dX9_takeOff_53 (hM 1 (by decide)) rfl hi53 ?_
        obtain ⟨hi54, hf⟩ := ix_el hf
        obtain ⟨S3, hS3, hf⟩ := bnd_el hf
        refine g_iast K dX9_takeOff_54 (hM 1 (by decide)) (fun _ => rfl) hi54 hS3 ?_
        refine v_iinc (v := x3 + 1) (lv' := [(3, .int (x3 + 1)), (0, .ref (eA E 1 0)), (1, .int x1)]) K 2 dX9_takeOff_55 rfl rfl (by decide) rfl ?_
        refine v_goto (tgt := 20) K dX9_takeOff_58 (by decide) ?_
        exact v_lsub [1, 2, 0] rfl (ih (x3 + 1) S3 hf)
  unfold f_X9_takeOff at hf
  refine v_aload_n K 0 dX9_takeOff_0 rfl rfl ?_
  refine v_iload_n K 1 dX9_takeOff_1 rfl rfl ?_
  refine v_iconst K dX9_takeOff_2 ki_0 ?_
  refine v_iconst K dX9_takeOff_3 ki_m1 ?_
  obtain ⟨S1, hS1, hf⟩ := bd_el hf
  refine v_callWn (As := [.int x1, .int 0, .int (-1)]) (rest := []) K mk_X9_57 dX9_takeOff_4 (c_X9_moreR hM hS1) (hM 0 (by decide)) rfl rfl rfl rfl rfl (Nat.le_of_ble_eq_true rfl) ⟨rfl, rfl⟩ ⟨Nat.le_of_ble_eq_true rfl, Nat.le_of_ble_eq_true rfl⟩ ?_
  refine v_sipush K dX9_takeOff_7 ks_208 ?_
  refine v_bipush K dX9_takeOff_10 kb_24 ?_
  refine v_iload_n K 1 dX9_takeOff_12 rfl rfl ?_
  refine v_imul K dX9_takeOff_13 ?_
  refine v_iadd K dX9_takeOff_14 ?_
  refine v_iconst K dX9_takeOff_15 ki_3 ?_
  refine v_iload_n K 2 dX9_takeOff_16 rfl rfl ?_
  refine v_imul K dX9_takeOff_17 ?_
  refine v_iadd K dX9_takeOff_18 ?_
  refine v_istore_n (lv' := [(3, .int ((208 + (24 * x1)) + (3 * x2))), (0, .ref (eA E 1 0)), (1, .int x1), (2, .int x2)]) K dX9_takeOff_19 rfl (by decide) rfl ?_
  refine v_lsub [1, 2, 0] rfl ?_
  exact L20 x1 5000 ((208 + (24 * x1)) + (3 * x2)) S1 hf
set_option maxRecDepth 20000 in
theorem c_X9_layOn {G : Gs} (hM : ModG E) {S S' : St}  {x1 : Int32} {x2 : Int32} {x3 : Int32} {x4 : Int32} (hf : f_X9_layOn S x1 x2 x3 x4 = some S') : Ctr l D E A yX9_layOn cX9_layOn 6 none (rmD 1) [.ref (eA E 1 0), .int x1, .int x2, .int x3, .int x4] (wl E (va_up G 1 S)) none (wl E (va_up G 1 S')) := by
  refine Ctr.of (own := RX9) pn_X9 rfl (Nat.le_of_ble_eq_true rfl) ?_
  intro p e s m args below meth c K
  refine v_lv (lv' := [(0, .ref (eA E 1 0)), (1, .int x1), (2, .int x2), (3, .int x3), (4, .int x4)]) rfl ?_
  unfold f_X9_layOn at hf
  refine v_aload_n K 0 dX9_layOn_0 rfl rfl ?_
  refine v_iload_n K 1 dX9_layOn_1 rfl rfl ?_
  refine v_iconst K dX9_layOn_2 ki_0 ?_
  obtain ⟨y1, hy1, hf⟩ := bd_el hf
  refine v_callWi (As := [.int x1, .int 0]) (rest := []) K mk_X9_49 dX9_layOn_3 (c_X9_ofR hM hy1) (hM 0 (by decide)) rfl rfl rfl rfl rfl (Nat.le_of_ble_eq_true rfl) ⟨rfl, rfl⟩ ⟨Nat.le_of_ble_eq_true rfl, Nat.le_of_ble_eq_true rfl⟩ ?_
  refine v_istore (lv' := [(5, .int y1), (0, .ref (eA E 1 0)), (1, .int x1), (2, .int x2), (3, .int x3), (4, .int x4)]) K dX9_layOn_6 (by decide) rfl ?_
  refine v_aload_n K 1 dX9_layOn_8 rfl rfl ?_
  refine v_iload_n K 2 dX9_layOn_9 rfl rfl ?_
  refine v_iload K 0 dX9_layOn_10 rfl ?_
  refine v_iconst K dX9_layOn_12 ki_0 ?_
  refine v_iload_n K 3 dX9_layOn_13 rfl rfl ?_
  obtain ⟨S2, hS2, hf⟩ := bd_el hf
  refine v_callWn (As := [.int x1, .int y1, .int 0, .int x2]) (rest := []) K mk_X9_61 dX9_layOn_14 (c_X9_layC hM hS2) (hM 0 (by decide)) rfl rfl rfl rfl rfl (Nat.le_of_ble_eq_true rfl) ⟨rfl, rfl⟩ ⟨Nat.le_of_ble_eq_true rfl, Nat.le_of_ble_eq_true rfl⟩ ?_
  refine v_aload_n K 1 dX9_layOn_17 rfl rfl ?_
  refine v_iload_n K 2 dX9_layOn_18 rfl rfl ?_
  refine v_iload K 0 dX9_layOn_19 rfl ?_
  refine v_iconst K dX9_layOn_21 ki_1 ?_
  refine v_iload_n K 4 dX9_layOn_22 rfl rfl ?_
  obtain ⟨S3, hS3, hf⟩ := bd_el hf
  refine v_callWn (As := [.int x1, .int y1, .int 1, .int x3]) (rest := []) K mk_X9_61 dX9_layOn_23 (c_X9_layC hM hS3) (hM 0 (by decide)) rfl rfl rfl rfl rfl (Nat.le_of_ble_eq_true rfl) ⟨rfl, rfl⟩ ⟨Nat.le_of_ble_eq_true rfl, Nat.le_of_ble_eq_true rfl⟩ ?_
  refine v_aload_n K 1 dX9_layOn_26 rfl rfl ?_
  refine v_iload_n K 2 dX9_layOn_27 rfl rfl ?_
  refine v_iload K 0 dX9_layOn_28 rfl ?_
  refine v_iconst K dX9_layOn_30 ki_2 ?_
  refine v_iload K 5 dX9_layOn_31 rfl ?_
  obtain ⟨S4, hS4, hf⟩ := bd_el hf
  refine v_callWn (As := [.int x1, .int y1, .int 2, .int x4]) (rest := []) K mk_X9_61 dX9_layOn_33 (c_X9_layC hM hS4) (hM 0 (by decide)) rfl rfl rfl rfl rfl (Nat.le_of_ble_eq_true rfl) ⟨rfl, rfl⟩ ⟨Nat.le_of_ble_eq_true rfl, Nat.le_of_ble_eq_true rfl⟩ ?_
  refine v_aload_n K 1 dX9_layOn_36 rfl rfl ?_
  refine v_iload_n K 2 dX9_layOn_37 rfl rfl ?_
  refine v_iconst K dX9_layOn_38 ki_0 ?_
  refine v_iconst K dX9_layOn_39 ki_1 ?_
  obtain ⟨S5, hS5, hf⟩ := bd_el hf
  refine v_callWn (As := [.int x1, .int 0, .int 1]) (rest := []) K mk_X9_57 dX9_layOn_40 (c_X9_moreR hM hS5) (hM 0 (by decide)) rfl rfl rfl rfl rfl (Nat.le_of_ble_eq_true rfl) ⟨rfl, rfl⟩ ⟨Nat.le_of_ble_eq_true rfl, Nat.le_of_ble_eq_true rfl⟩ ?_
  exact v_vret K rfl dX9_layOn_43 rfl (ew_o hf)
set_option maxRecDepth 20000 in
theorem c_X9_use {G : Gs} (hM : ModG E) {S S' : St}  {x1 : Int32} {x2 : Int32} (hf : f_X9_use S x1 x2 = some S') : Ctr l D E A yX9_use cX9_use 6 none (rmD 2) [.ref (eA E 1 0), .int x1, .int x2] (wl E (va_up G 1 S)) none (wl E (va_up G 1 S')) := by
  refine Ctr.of (own := RX9) pn_X9 rfl (Nat.le_of_ble_eq_true rfl) ?_
  intro p e s m args below meth c K
  refine v_lv (lv' := [(0, .ref (eA E 1 0)), (1, .int x1), (2, .int x2)]) rfl ?_
  unfold f_X9_use at hf
  refine v_aload_n K 0 dX9_use_0 rfl rfl ?_
  refine v_iload_n K 1 dX9_use_1 rfl rfl ?_
  refine v_iload_n K 2 dX9_use_2 rfl rfl ?_
  refine v_iconst K dX9_use_3 ki_0 ?_
  obtain ⟨y1, hy1, hf⟩ := bd_el hf
  refine v_callWi (As := [.int x1, .int x2, .int 0]) (rest := []) K mk_X9_53 dX9_use_4 (c_X9_ofC hM hy1) (hM 0 (by decide)) rfl rfl rfl rfl rfl (Nat.le_of_ble_eq_true rfl) ⟨rfl, rfl⟩ ⟨Nat.le_of_ble_eq_true rfl, Nat.le_of_ble_eq_true rfl⟩ ?_
  refine v_istore_n (lv' := [(3, .int y1), (0, .ref (eA E 1 0)), (1, .int x1), (2, .int x2)]) K dX9_use_7 rfl (by decide) rfl ?_
  refine v_aload_n K 1 dX9_use_8 rfl rfl ?_
  refine v_iload_n K 2 dX9_use_9 rfl rfl ?_
  refine v_iload_n K 3 dX9_use_10 rfl rfl ?_
  refine v_iconst K dX9_use_11 ki_1 ?_
  obtain ⟨y2, hy2, hf⟩ := bd_el hf
  refine v_callWi (As := [.int x1, .int x2, .int 1]) (rest := []) K mk_X9_53 dX9_use_12 (c_X9_ofC hM hy2) (hM 0 (by decide)) rfl rfl rfl rfl rfl (Nat.le_of_ble_eq_true rfl) ⟨rfl, rfl⟩ ⟨Nat.le_of_ble_eq_true rfl, Nat.le_of_ble_eq_true rfl⟩ ?_
  refine v_istore (lv' := [(4, .int y2), (3, .int y1), (0, .ref (eA E 1 0)), (1, .int x1), (2, .int x2)]) K dX9_use_15 (by decide) rfl ?_
  refine v_aload_n K 2 dX9_use_17 rfl rfl ?_
  refine v_iload_n K 3 dX9_use_18 rfl rfl ?_
  refine v_iload_n K 4 dX9_use_19 rfl rfl ?_
  refine v_iconst K dX9_use_20 ki_2 ?_
  obtain ⟨y3, hy3, hf⟩ := bd_el hf
  refine v_callWi (As := [.int x1, .int x2, .int 2]) (rest := []) K mk_X9_53 dX9_use_21 (c_X9_ofC hM hy3) (hM 0 (by decide)) rfl rfl rfl rfl rfl (Nat.le_of_ble_eq_true rfl) ⟨rfl, rfl⟩ ⟨Nat.le_of_ble_eq_true rfl, Nat.le_of_ble_eq_true rfl⟩ ?_
  refine v_istore (lv' := [(5, .int y3), (4, .int y2), (3, .int y1), (0, .ref (eA E 1 0)), (1, .int x1), (2, .int x2)]) K dX9_use_24 (by decide) rfl ?_
  refine v_aload_n K 3 dX9_use_26 rfl rfl ?_
  refine v_iload_n K 4 dX9_use_27 rfl rfl ?_
  refine v_iload_n K 5 dX9_use_28 rfl rfl ?_
  obtain ⟨S4, hS4, hf⟩ := bd_el hf
  refine v_callWn (As := [.int x1, .int x2]) (rest := []) K mk_X9_65 dX9_use_29 (c_X9_takeOff hM hS4) (hM 0 (by decide)) rfl rfl rfl rfl rfl (Nat.le_of_ble_eq_true rfl) ⟨rfl, rfl⟩ ⟨Nat.le_of_ble_eq_true rfl, Nat.le_of_ble_eq_true rfl⟩ ?_
  refine v_aload_n K 3 dX9_use_32 rfl rfl ?_
  refine v_iload_n K 4 dX9_use_33 rfl rfl ?_
  refine v_iload_n K 2 dX9_use_34 rfl rfl ?_
  refine v_iload K 1 dX9_use_35 rfl ?_
  refine v_iload K 0 dX9_use_37 rfl ?_
  obtain ⟨S5, hS5, hf⟩ := bd_el hf
  refine v_callWn (As := [.int x1, .int y1, .int y2, .int y3]) (rest := []) K mk_X9_69 dX9_use_39 (c_X9_layOn hM hS5) (hM 0 (by decide)) rfl rfl rfl rfl rfl (Nat.le_of_ble_eq_true rfl) ⟨rfl, rfl⟩ ⟨Nat.le_of_ble_eq_true rfl, Nat.le_of_ble_eq_true rfl⟩ ?_
  exact v_vret K rfl dX9_use_42 rfl (ew_o hf)
set_option maxRecDepth 20000 in
theorem c_X9_giveBack {G : Gs} (hM : ModG E) {S S' : St}  {x1 : Int32} {x2 : Int32} (hf : f_X9_giveBack S x1 x2 = some S') : Ctr l D E A yX9_giveBack cX9_giveBack 3 none (rmD 1) [.ref (eA E 1 0), .int x1, .int x2] (wl E (va_up G 1 S)) none (wl E (va_up G 1 S')) := by
  refine Ctr.of (own := RX9) pn_X9 rfl (Nat.le_of_ble_eq_true rfl) ?_
  intro p e s m args below meth c K
  refine v_lv (lv' := [(0, .ref (eA E 1 0)), (1, .int x1), (2, .int x2)]) rfl ?_
  unfold f_X9_giveBack at hf
  refine v_aload_n K 0 dX9_giveBack_0 rfl rfl ?_
  refine v_iload_n K 1 dX9_giveBack_1 rfl rfl ?_
  refine v_iload_n K 2 dX9_giveBack_2 rfl rfl ?_
  refine v_iconst K dX9_giveBack_3 ki_2 ?_
  obtain ⟨y1, hy1, hf⟩ := bd_el hf
  refine v_callWi (As := [.int x1, .int x2, .int 2]) (rest := []) K mk_X9_53 dX9_giveBack_4 (c_X9_ofC hM hy1) (hM 0 (by decide)) rfl rfl rfl rfl rfl (Nat.le_of_ble_eq_true rfl) ⟨rfl, rfl⟩ ⟨Nat.le_of_ble_eq_true rfl, Nat.le_of_ble_eq_true rfl⟩ ?_
  refine v_iconst K dX9_giveBack_7 ki_1 ?_
  refine v_icmp_ne (tgt := 30) K dX9_giveBack_8 (by decide) (fun hc1 => ?_) (fun hc1 => ?_)
  · have hf := it_neg hc1 hf
    exact v_vret K rfl dX9_giveBack_30 rfl (ew_o hf)
  · have hf := it_pos hc1 hf
    refine v_aload_n K 0 dX9_giveBack_11 rfl rfl ?_
    refine v_aload_n K 0 dX9_giveBack_12 rfl rfl ?_
    refine v_iload_n K 1 dX9_giveBack_13 rfl rfl ?_
    refine v_iload_n K 2 dX9_giveBack_14 rfl rfl ?_
    refine v_iconst K dX9_giveBack_15 ki_0 ?_
    obtain ⟨y2, hy2, hf⟩ := bd_el hf
    refine v_callWi (As := [.int x1, .int x2, .int 0]) (rest := [.ref (eA E 1 0)]) K mk_X9_53 dX9_giveBack_16 (c_X9_ofC hM hy2) (hM 0 (by decide)) rfl rfl rfl rfl rfl (Nat.le_of_ble_eq_true rfl) ⟨rfl, rfl⟩ ⟨Nat.le_of_ble_eq_true rfl, Nat.le_of_ble_eq_true rfl⟩ ?_
    refine v_iconst K dX9_giveBack_19 ki_0 ?_
    refine v_aload_n K 0 dX9_giveBack_20 rfl rfl ?_
    refine v_iload_n K 1 dX9_giveBack_21 rfl rfl ?_
    refine v_iload_n K 2 dX9_giveBack_22 rfl rfl ?_
    refine v_iconst K dX9_giveBack_23 ki_1 ?_
    obtain ⟨y3, hy3, hf⟩ := bd_el hf
    refine v_callWi (As := [.int x1, .int x2, .int 1]) (rest := [.int 0, .int y2, .ref (eA E 1 0)]) K mk_X9_53 dX9_giveBack_24 (c_X9_ofC hM hy3) (hM 0 (by decide)) rfl rfl rfl rfl rfl (Nat.le_of_ble_eq_true rfl) ⟨rfl, rfl⟩ ⟨Nat.le_of_ble_eq_true rfl, Nat.le_of_ble_eq_true rfl⟩ ?_
    obtain ⟨S4, hS4, hf⟩ := bd_el hf
    refine v_callWn (As := [.int y2, .int 0, .int y3]) (rest := []) K mk_X9_72 dX9_giveBack_27 (c_X9_layN hM hS4) (hM 0 (by decide)) rfl rfl rfl rfl rfl (Nat.le_of_ble_eq_true rfl) ⟨rfl, rfl⟩ ⟨Nat.le_of_ble_eq_true rfl, Nat.le_of_ble_eq_true rfl⟩ ?_
    exact v_vret K rfl dX9_giveBack_30 rfl (ew_o hf)
set_option maxRecDepth 20000 in
theorem c_X9_group {G : Gs} (hM : ModG E) {S : St}  {x1 : Int32} {r : Int32} (hf : f_X9_group S x1 = some r) : Ctr l D E A yX9_group cX9_group 2 (some .int) (rmD 0) [.ref (eA E 1 0), .int x1] (wl E (va_up G 1 S)) (some (.int r)) (wl E (va_up G 1 S)) := by
  refine Ctr.of (own := RX9) pn_X9 rfl (Nat.le_of_ble_eq_true rfl) ?_
  intro p e s m args below meth c K
  refine v_lv (lv' := [(0, .ref (eA E 1 0)), (1, .int x1)]) rfl ?_
  unfold f_X9_group at hf
  refine v_iload_n K 1 dX9_group_0 rfl rfl ?_
  refine v_aload_n K 0 dX9_group_1 rfl rfl ?_
  refine g_get K fk_X9_7 dX9_group_2 (hM 0 (by decide)) rfl rfl ?_
  refine v_iconst K dX9_group_5 ki_1 ?_
  obtain ⟨hi6, hf⟩ := ix_el hf
  refine g_iald K dX9_group_6 (hM 1 (by decide)) rfl hi6 ?_
  obtain ⟨hz7, hf⟩ := nz_el hf
  refine v_idiv K dX9_group_7 hz7 ?_
  exact v_iret K rfl dX9_group_8 (ev_o hf) rfl
set_option maxRecDepth 20000 in
theorem c_X9_called {G : Gs} (hM : ModG E) {S : St}  {x1 : Int32} {r : Int32} (hf : f_X9_called S x1 = some r) : Ctr l D E A yX9_called cX9_called 5 (some .int) (rmD 1) [.ref (eA E 1 0), .int x1] (wl E (va_up G 1 S)) (some (.int r)) (wl E (va_up G 1 S)) := by
  refine Ctr.of (own := RX9) pn_X9 rfl (Nat.le_of_ble_eq_true rfl) ?_
  intro p e s m args below meth c K
  refine v_lv (lv' := [(0, .ref (eA E 1 0)), (1, .int x1)]) rfl ?_
  have L4 : ∀ (x1 : Int32) (S : St), ∀ (n : Nat) (x2 : Int32) (x3 : Int32), f_X9_called_L4 x1 S n x2 x3 = some r → VV p l e (rmD 1) s m args below meth c (MQ below (CQ D A (some (.int r)) (wl E (va_up G 1 S))) args s 0 0 A) D A 5 (0, 0) 4 [] [(0, .ref (eA E 1 0)), (1, .int x1), (2, .int x2), (3, .int x3)] (wl E (va_up G 1 S)) := by
    intro x1 S n
    induction n with
    | zero =>
      intro x2 x3 hf
      rw [f_X9_called_L4] at hf
      cases hf
    | succ n ih =>
      intro x2 x3 hf
      rw [f_X9_called_L4] at hf
      refine v_iload_n K 3 dX9_called_4 rfl rfl ?_
      refine v_bipush K dX9_called_5 kb_16 ?_
      refine v_icmp_ge (tgt := 70) K dX9_called_7 (by decide) (fun hc1 => ?_) (fun hc1 => ?_)
      · have hf := it_pos hc1 hf
        refine v_iload_n K 2 dX9_called_70 rfl rfl ?_
        exact v_iret K rfl dX9_called_71 (ev_o hf) rfl
      · have hf := it_neg hc1 hf
        refine v_aload_n K 0 dX9_called_10 rfl rfl ?_
        refine v_iload_n K 1 dX9_called_11 rfl rfl ?_
        refine v_iconst K dX9_called_12 ki_1 ?_
        obtain ⟨y1, hy1, hf⟩ := bd_el hf
        refine v_callWi (As := [.int x1, .int 1]) (rest := []) K mk_X9_75 dX9_called_13 (c_X9_ofN hM hy1) (hM 0 (by decide)) rfl rfl rfl rfl rfl (Nat.le_of_ble_eq_true rfl) ⟨rfl, rfl⟩ ⟨Nat.le_of_ble_eq_true rfl, Nat.le_of_ble_eq_true rfl⟩ ?_
        refine v_iconst K dX9_called_16 ki_2 ?_
        refine jn_1 (fun (u47_0 : Int32) => (u47_0 = 0 ∨ u47_0 = 1) → VV p l e (rmD 1) s m args below meth c (MQ below (CQ D A (some (.int r)) (wl E (va_up G 1 S))) args s 0 0 A) D A 5 (0, 0) 47 [.int u47_0] [(0, .ref (eA E 1 0)), (1, .int x1), (2, .int x2), (3, .int x3)] (wl E (va_up G 1 S))) hf (fun u47_0 hf hb47 => ?_) (fun hj2 hf => ?_)
        · refine v_istore (lv' := [(4, .int u47_0), (0, .ref (eA E 1 0)), (1, .int x1), (2, .int x2), (3, .int x3)]) K dX9_called_47 (by decide) rfl ?_
          refine v_iload_n K 3 dX9_called_49 rfl rfl ?_
          refine v_iload K 0 dX9_called_50 rfl ?_
          have hj3 : ∀ (w1 : Int32), w1 = (if u47_0 = 0 then 0 else ((1 : Int32) <<< (x3 &&& 31)) : Int32) → VV p l e (rmD 1) s m args below meth c (MQ below (CQ D A (some (.int r)) (wl E (va_up G 1 S))) args s 0 0 A) D A 5 (0, 0) 62 [.int w1, .int x2] [(0, .ref (eA E 1 0)), (1, .int x1), (3, .int x3)] (wl E (va_up G 1 S)) := by
            intro w1 ew1
            subst ew1
            refine v_ior K dX9_called_62 ?_
            refine v_istore_n (lv' := [(2, .int (x2 ||| (if u47_0 = 0 then 0 else ((1 : Int32) <<< (x3 &&& 31)) : Int32))), (0, .ref (eA E 1 0)), (1, .int x1), (3, .int x3)]) K dX9_called_63 rfl (by decide) rfl ?_
            refine v_iinc (v := x3 + 1) (lv' := [(3, .int (x3 + 1)), (2, .int (x2 ||| (if u47_0 = 0 then 0 else ((1 : Int32) <<< (x3 &&& 31)) : Int32))), (0, .ref (eA E 1 0)), (1, .int x1)]) K 3 dX9_called_64 rfl rfl (by decide) rfl ?_
            refine v_goto (tgt := 4) K dX9_called_67 (by decide) ?_
            exact v_lsub [2, 3, 1, 0] rfl (ih (x2 ||| (if u47_0 = 0 then 0 else ((1 : Int32) <<< (x3 &&& 31)) : Int32)) (x3 + 1) hf)
          refine v_if_eq (tgt := 61) K dX9_called_52 (by decide) (fun hc3 => ?_) (fun hc3 => ?_)
          · refine v_iconst K dX9_called_61 ki_0 ?_
            exact v_lsub [1, 2, 4] rfl (hj3 0 (if_pos hc3).symm)
          · refine v_iconst K dX9_called_55 ki_1 ?_
            refine v_iload_n K 4 dX9_called_56 rfl rfl ?_
            refine v_ishl K dX9_called_57 ?_
            refine v_goto (tgt := 62) K dX9_called_58 (by decide) ?_
            exact v_lsub [1, 2, 4] rfl (hj3 ((1 : Int32) <<< (x3 &&& 31)) (if_neg hc3).symm)
        · refine v_icmp_ne (tgt := 37) K dX9_called_17 (by decide) (fun hc2 => ?_) (fun hc2 => ?_)
          · have hf := it_neg hc2 hf
            refine v_aload_n K 0 dX9_called_37 rfl rfl ?_
            refine v_iload_n K 1 dX9_called_38 rfl rfl ?_
            refine v_iconst K dX9_called_39 ki_2 ?_
            obtain ⟨y4, hy4, hf⟩ := bd_el hf
            refine v_callWi (As := [.int x1, .int 2]) (rest := []) K mk_X9_75 dX9_called_40 (c_X9_ofN hM hy4) (hM 0 (by decide)) rfl rfl rfl rfl rfl (Nat.le_of_ble_eq_true rfl) ⟨rfl, rfl⟩ ⟨Nat.le_of_ble_eq_true rfl, Nat.le_of_ble_eq_true rfl⟩ ?_
            refine v_iload_n K 3 dX9_called_43 rfl rfl ?_
            refine v_callSi (As := [.int y4, .int x3]) (rest := []) K mk_X9_82 dX9_called_44 (c_X9_has  rfl) rfl rfl (Nat.le_of_ble_eq_true rfl) ⟨rfl, rfl⟩ ⟨Nat.le_of_ble_eq_true rfl, Nat.le_of_ble_eq_true rfl⟩ ?_
            exact v_lsub [0, 1, 2, 3] rfl (hj2 (f_X9_has y4 x3) hf (b_X9_has))
          · have hf := it_pos hc2 hf
            refine v_aload_n K 0 dX9_called_20 rfl rfl ?_
            refine v_iload_n K 1 dX9_called_21 rfl rfl ?_
            refine v_iconst K dX9_called_22 ki_2 ?_
            obtain ⟨y5, hy5, hf⟩ := bd_el hf
            refine v_callWi (As := [.int x1, .int 2]) (rest := []) K mk_X9_75 dX9_called_23 (c_X9_ofN hM hy5) (hM 0 (by decide)) rfl rfl rfl rfl rfl (Nat.le_of_ble_eq_true rfl) ⟨rfl, rfl⟩ ⟨Nat.le_of_ble_eq_true rfl, Nat.le_of_ble_eq_true rfl⟩ ?_
            refine v_aload_n K 0 dX9_called_26 rfl rfl ?_
            refine v_iload_n K 3 dX9_called_27 rfl rfl ?_
            obtain ⟨y6, hy6, hf⟩ := bd_el hf
            refine v_callWi (As := [.int x3]) (rest := [.int y5]) K mk_X9_78 dX9_called_28 (c_X9_group hM hy6) (hM 0 (by decide)) rfl rfl rfl rfl rfl (Nat.le_of_ble_eq_true rfl) ⟨rfl, rfl⟩ ⟨Nat.le_of_ble_eq_true rfl, Nat.le_of_ble_eq_true rfl⟩ ?_
            refine v_callSi (As := [.int y5, .int y6]) (rest := []) K mk_X9_82 dX9_called_31 (c_X9_has  rfl) rfl rfl (Nat.le_of_ble_eq_true rfl) ⟨rfl, rfl⟩ ⟨Nat.le_of_ble_eq_true rfl, Nat.le_of_ble_eq_true rfl⟩ ?_
            refine v_goto (tgt := 47) K dX9_called_34 (by decide) ?_
            exact v_lsub [0, 1, 2, 3] rfl (hj2 (f_X9_has y5 y6) hf (b_X9_has))
  unfold f_X9_called at hf
  refine v_iconst K dX9_called_0 ki_0 ?_
  refine v_istore_n (lv' := [(2, .int 0), (0, .ref (eA E 1 0)), (1, .int x1)]) K dX9_called_1 rfl (by decide) rfl ?_
  refine v_iconst K dX9_called_2 ki_0 ?_
  refine v_istore_n (lv' := [(3, .int 0), (2, .int 0), (0, .ref (eA E 1 0)), (1, .int x1)]) K dX9_called_3 rfl (by decide) rfl ?_
  refine v_lsub [2, 3, 1, 0] rfl ?_
  exact L4 x1 S 5000 0 0 hf
set_option maxRecDepth 20000 in
theorem c_X9_layCard {G : Gs} (hM : ModG E) {S S' : St}  {x1 : Int32} {x2 : Int32} {x3 : Int32} (hf : f_X9_layCard S x1 x2 x3 = some S') : Ctr l D E A yX9_layCard cX9_layCard 4 none (rmD 1) [.ref (eA E 1 0), .int x1, .int x2, .int x3] (wl E (va_up G 1 S)) none (wl E (va_up G 1 S')) := by
  refine Ctr.of (own := RX9) pn_X9 rfl (Nat.le_of_ble_eq_true rfl) ?_
  intro p e s m args below meth c K
  refine v_lv (lv' := [(0, .ref (eA E 1 0)), (1, .int x1), (2, .int x2), (3, .int x3)]) rfl ?_
  unfold f_X9_layCard at hf
  refine v_aload_n K 0 dX9_layCard_0 rfl rfl ?_
  refine v_iload_n K 1 dX9_layCard_1 rfl rfl ?_
  refine v_iconst K dX9_layCard_2 ki_1 ?_
  refine v_iload_n K 2 dX9_layCard_3 rfl rfl ?_
  obtain ⟨S1, hS1, hf⟩ := bd_el hf
  refine v_callWn (As := [.int x1, .int 1, .int x2]) (rest := []) K mk_X9_72 dX9_layCard_4 (c_X9_layN hM hS1) (hM 0 (by decide)) rfl rfl rfl rfl rfl (Nat.le_of_ble_eq_true rfl) ⟨rfl, rfl⟩ ⟨Nat.le_of_ble_eq_true rfl, Nat.le_of_ble_eq_true rfl⟩ ?_
  refine v_aload_n K 0 dX9_layCard_7 rfl rfl ?_
  refine v_iload_n K 1 dX9_layCard_8 rfl rfl ?_
  refine v_iconst K dX9_layCard_9 ki_2 ?_
  refine v_iload_n K 3 dX9_layCard_10 rfl rfl ?_
  obtain ⟨S2, hS2, hf⟩ := bd_el hf
  refine v_callWn (As := [.int x1, .int 2, .int x3]) (rest := []) K mk_X9_72 dX9_layCard_11 (c_X9_layN hM hS2) (hM 0 (by decide)) rfl rfl rfl rfl rfl (Nat.le_of_ble_eq_true rfl) ⟨rfl, rfl⟩ ⟨Nat.le_of_ble_eq_true rfl, Nat.le_of_ble_eq_true rfl⟩ ?_
  exact v_vret K rfl dX9_layCard_14 rfl (ew_o hf)
set_option maxRecDepth 20000 in
theorem c_X9_groupsOf {G : Gs} (hM : ModG E) {S : St}  {x1 : Int32} {r : Int32} (hf : f_X9_groupsOf S x1 = some r) : Ctr l D E A yX9_groupsOf cX9_groupsOf 4 (some .int) (rmD 1) [.ref (eA E 1 0), .int x1] (wl E (va_up G 1 S)) (some (.int r)) (wl E (va_up G 1 S)) := by
  refine Ctr.of (own := RX9) pn_X9 rfl (Nat.le_of_ble_eq_true rfl) ?_
  intro p e s m args below meth c K
  refine v_lv (lv' := [(0, .ref (eA E 1 0)), (1, .int x1)]) rfl ?_
  have L4 : ∀ (x1 : Int32) (S : St), ∀ (n : Nat) (x2 : Int32) (x3 : Int32), f_X9_groupsOf_L4 x1 S n x2 x3 = some r → VV p l e (rmD 1) s m args below meth c (MQ below (CQ D A (some (.int r)) (wl E (va_up G 1 S))) args s 0 0 A) D A 4 (0, 0) 4 [] [(0, .ref (eA E 1 0)), (1, .int x1), (2, .int x2), (3, .int x3)] (wl E (va_up G 1 S)) := by
    intro x1 S n
    induction n with
    | zero =>
      intro x2 x3 hf
      rw [f_X9_groupsOf_L4] at hf
      cases hf
    | succ n ih =>
      intro x2 x3 hf
      rw [f_X9_groupsOf_L4] at hf
      refine v_iload_n K 3 dX9_groupsOf_4 rfl rfl ?_
      refine v_bipush K dX9_groupsOf_5 kb_16 ?_
      refine v_icmp_ge (tgt := 38) K dX9_groupsOf_7 (by decide) (fun hc1 => ?_) (fun hc1 => ?_)
      · have hf := it_pos hc1 hf
        refine v_iload_n K 2 dX9_groupsOf_38 rfl rfl ?_
        exact v_iret K rfl dX9_groupsOf_39 (ev_o hf) rfl
      · have hf := it_neg hc1 hf
        refine v_iload_n K 2 dX9_groupsOf_10 rfl rfl ?_
        refine v_iload_n K 1 dX9_groupsOf_11 rfl rfl ?_
        refine v_iload_n K 3 dX9_groupsOf_12 rfl rfl ?_
        refine v_callSi (As := [.int x1, .int x3]) (rest := [.int x2]) K mk_X9_82 dX9_groupsOf_13 (c_X9_has  rfl) rfl rfl (Nat.le_of_ble_eq_true rfl) ⟨rfl, rfl⟩ ⟨Nat.le_of_ble_eq_true rfl, Nat.le_of_ble_eq_true rfl⟩ ?_
        refine jn_1 (fun (u30_0 : Int32) => VV p l e (rmD 1) s m args below meth c (MQ below (CQ D A (some (.int r)) (wl E (va_up G 1 S))) args s 0 0 A) D A 4 (0, 0) 30 [.int u30_0, .int x2] [(0, .ref (eA E 1 0)), (1, .int x1), (3, .int x3)] (wl E (va_up G 1 S))) hf (fun u30_0 hf => ?_) (fun hj1 hf => ?_)
        · refine v_ior K dX9_groupsOf_30 ?_
          refine v_istore_n (lv' := [(2, .int (x2 ||| u30_0)), (0, .ref (eA E 1 0)), (1, .int x1), (3, .int x3)]) K dX9_groupsOf_31 rfl (by decide) rfl ?_
          refine v_iinc (v := x3 + 1) (lv' := [(3, .int (x3 + 1)), (2, .int (x2 ||| u30_0)), (0, .ref (eA E 1 0)), (1, .int x1)]) K 3 dX9_groupsOf_32 rfl rfl (by decide) rfl ?_
          refine v_goto (tgt := 4) K dX9_groupsOf_35 (by decide) ?_
          exact v_lsub [2, 3, 1, 0] rfl (ih (x2 ||| u30_0) (x3 + 1) hf)
        · refine v_if_eq (tgt := 29) K dX9_groupsOf_16 (by decide) (fun hc2 => ?_) (fun hc2 => ?_)
          · have hf := it_pos hc2 hf
            refine v_iconst K dX9_groupsOf_29 ki_0 ?_
            exact v_lsub [0, 1, 3] rfl (hj1 0 hf)
          · have hf := it_neg hc2 hf
            refine v_iconst K dX9_groupsOf_19 ki_1 ?_
            refine v_aload_n K 0 dX9_groupsOf_20 rfl rfl ?_
            refine v_iload_n K 3 dX9_groupsOf_21 rfl rfl ?_
            obtain ⟨y2, hy2, hf⟩ := bd_el hf
            refine v_callWi (As := [.int x3]) (rest := [.int 1, .int x2]) K mk_X9_78 dX9_groupsOf_22 (c_X9_group hM hy2) (hM 0 (by decide)) rfl rfl rfl rfl rfl (Nat.le_of_ble_eq_true rfl) ⟨rfl, rfl⟩ ⟨Nat.le_of_ble_eq_true rfl, Nat.le_of_ble_eq_true rfl⟩ ?_
            refine v_ishl K dX9_groupsOf_25 ?_
            refine v_goto (tgt := 30) K dX9_groupsOf_26 (by decide) ?_
            exact v_lsub [0, 1, 3] rfl (hj1 ((1 : Int32) <<< (y2 &&& 31)) hf)
  unfold f_X9_groupsOf at hf
  refine v_iconst K dX9_groupsOf_0 ki_0 ?_
  refine v_istore_n (lv' := [(2, .int 0), (0, .ref (eA E 1 0)), (1, .int x1)]) K dX9_groupsOf_1 rfl (by decide) rfl ?_
  refine v_iconst K dX9_groupsOf_2 ki_0 ?_
  refine v_istore_n (lv' := [(3, .int 0), (2, .int 0), (0, .ref (eA E 1 0)), (1, .int x1)]) K dX9_groupsOf_3 rfl (by decide) rfl ?_
  refine v_lsub [2, 3, 1, 0] rfl ?_
  exact L4 x1 S 5000 0 0 hf
set_option maxRecDepth 20000 in
theorem c_X9_writeOn {G : Gs} (hM : ModG E) {S S' : St}  {x1 : Int32} {x2 : Int32} (hf : f_X9_writeOn S x1 x2 = some S') : Ctr l D E A yX9_writeOn cX9_writeOn 5 none (rmD 2) [.ref (eA E 1 0), .int x1, .int x2] (wl E (va_up G 1 S)) none (wl E (va_up G 1 S')) := by
  refine Ctr.of (own := RX9) pn_X9 rfl (Nat.le_of_ble_eq_true rfl) ?_
  intro p e s m args below meth c K
  refine v_lv (lv' := [(0, .ref (eA E 1 0)), (1, .int x1), (2, .int x2)]) rfl ?_
  unfold f_X9_writeOn at hf
  refine v_aload_n K 0 dX9_writeOn_0 rfl rfl ?_
  refine v_iload_n K 1 dX9_writeOn_1 rfl rfl ?_
  refine v_iconst K dX9_writeOn_2 ki_2 ?_
  obtain ⟨y1, hy1, hf⟩ := bd_el hf
  refine v_callWi (As := [.int x1, .int 2]) (rest := []) K mk_X9_75 dX9_writeOn_3 (c_X9_ofN hM hy1) (hM 0 (by decide)) rfl rfl rfl rfl rfl (Nat.le_of_ble_eq_true rfl) ⟨rfl, rfl⟩ ⟨Nat.le_of_ble_eq_true rfl, Nat.le_of_ble_eq_true rfl⟩ ?_
  refine v_istore_n (lv' := [(3, .int y1), (0, .ref (eA E 1 0)), (1, .int x1), (2, .int x2)]) K dX9_writeOn_6 rfl (by decide) rfl ?_
  refine v_iload_n K 0 dX9_writeOn_7 rfl rfl ?_
  refine v_iconst K dX9_writeOn_8 ki_1 ?_
  refine v_iload_n K 3 dX9_writeOn_9 rfl rfl ?_
  refine v_ishl K dX9_writeOn_10 ?_
  refine v_ior K dX9_writeOn_11 ?_
  refine v_istore (lv' := [(4, .int (y1 ||| ((1 : Int32) <<< (x2 &&& 31)))), (3, .int y1), (0, .ref (eA E 1 0)), (1, .int x1), (2, .int x2)]) K dX9_writeOn_12 (by decide) rfl ?_
  refine v_aload_n K 2 dX9_writeOn_14 rfl rfl ?_
  refine v_iload_n K 3 dX9_writeOn_15 rfl rfl ?_
  refine v_iconst K dX9_writeOn_16 ki_1 ?_
  obtain ⟨y2, hy2, hf⟩ := bd_el hf
  refine v_callWi (As := [.int x1, .int 1]) (rest := []) K mk_X9_75 dX9_writeOn_17 (c_X9_ofN hM hy2) (hM 0 (by decide)) rfl rfl rfl rfl rfl (Nat.le_of_ble_eq_true rfl) ⟨rfl, rfl⟩ ⟨Nat.le_of_ble_eq_true rfl, Nat.le_of_ble_eq_true rfl⟩ ?_
  refine v_iconst K dX9_writeOn_20 ki_2 ?_
  refine v_icmp_ne (tgt := 42) K dX9_writeOn_21 (by decide) (fun hc1 => ?_) (fun hc1 => ?_)
  · have hf := it_neg hc1 hf
    refine v_iload K 0 dX9_writeOn_42 rfl ?_
    obtain ⟨y3, hy3, hf⟩ := bd_el hf
    refine v_callSi (As := [.int (y1 ||| ((1 : Int32) <<< (x2 &&& 31)))]) (rest := []) K mk_X9_89 dX9_writeOn_44 (c_X9_many  hy3) rfl rfl (Nat.le_of_ble_eq_true rfl) ⟨rfl, rfl⟩ ⟨Nat.le_of_ble_eq_true rfl, Nat.le_of_ble_eq_true rfl⟩ ?_
    refine v_aload_n K 2 dX9_writeOn_47 rfl rfl ?_
    refine g_get K fk_X9_7 dX9_writeOn_48 (hM 0 (by decide)) rfl rfl ?_
    refine v_iconst K dX9_writeOn_51 ki_0 ?_
    obtain ⟨hi52, hf⟩ := ix_el hf
    refine g_iald K dX9_writeOn_52 (hM 1 (by decide)) rfl hi52 ?_
    refine v_icmp_le (tgt := 64) K dX9_writeOn_53 (by decide) (fun hc2 => ?_) (fun hc2 => ?_)
    · have hf := it_pos hc2 hf
      refine v_aload_n K 2 dX9_writeOn_64 rfl rfl ?_
      refine v_iload_n K 3 dX9_writeOn_65 rfl rfl ?_
      refine v_iconst K dX9_writeOn_66 ki_1 ?_
      refine v_iload K 0 dX9_writeOn_67 rfl ?_
      obtain ⟨S4, hS4, hf⟩ := bd_el hf
      refine v_callWn (As := [.int x1, .int 1, .int (y1 ||| ((1 : Int32) <<< (x2 &&& 31)))]) (rest := []) K mk_X9_86 dX9_writeOn_69 (c_X9_layCard hM hS4) (hM 0 (by decide)) rfl rfl rfl rfl rfl (Nat.le_of_ble_eq_true rfl) ⟨rfl, rfl⟩ ⟨Nat.le_of_ble_eq_true rfl, Nat.le_of_ble_eq_true rfl⟩ ?_
      refine v_goto (tgt := 87) K dX9_writeOn_72 (by decide) ?_
      exact v_vret K rfl dX9_writeOn_87 rfl (ew_o hf)
    · have hf := it_neg hc2 hf
      refine v_iload_n K 1 dX9_writeOn_56 rfl rfl ?_
      refine v_iload_n K 4 dX9_writeOn_57 rfl rfl ?_
      refine v_callSi (As := [.int y1, .int x2]) (rest := []) K mk_X9_82 dX9_writeOn_58 (c_X9_has  rfl) rfl rfl (Nat.le_of_ble_eq_true rfl) ⟨rfl, rfl⟩ ⟨Nat.le_of_ble_eq_true rfl, Nat.le_of_ble_eq_true rfl⟩ ?_
      refine v_if_eq (tgt := 75) K dX9_writeOn_61 (by decide) (fun hc3 => ?_) (fun hc3 => ?_)
      · have hf := it_pos hc3 hf
        refine v_aload_n K 2 dX9_writeOn_75 rfl rfl ?_
        refine v_iload_n K 3 dX9_writeOn_76 rfl rfl ?_
        refine v_iconst K dX9_writeOn_77 ki_2 ?_
        refine v_aload_n K 2 dX9_writeOn_78 rfl rfl ?_
        refine v_iload K 0 dX9_writeOn_79 rfl ?_
        obtain ⟨y5, hy5, hf⟩ := bd_el hf
        refine v_callWi (As := [.int (y1 ||| ((1 : Int32) <<< (x2 &&& 31)))]) (rest := [.int 2, .int x1, .ref (eA E 1 0)]) K mk_X9_92 dX9_writeOn_81 (c_X9_groupsOf hM hy5) (hM 0 (by decide)) rfl rfl rfl rfl rfl (Nat.le_of_ble_eq_true rfl) ⟨rfl, rfl⟩ ⟨Nat.le_of_ble_eq_true rfl, Nat.le_of_ble_eq_true rfl⟩ ?_
        obtain ⟨S6, hS6, hf⟩ := bd_el hf
        refine v_callWn (As := [.int x1, .int 2, .int y5]) (rest := []) K mk_X9_86 dX9_writeOn_84 (c_X9_layCard hM hS6) (hM 0 (by decide)) rfl rfl rfl rfl rfl (Nat.le_of_ble_eq_true rfl) ⟨rfl, rfl⟩ ⟨Nat.le_of_ble_eq_true rfl, Nat.le_of_ble_eq_true rfl⟩ ?_
        exact v_vret K rfl dX9_writeOn_87 rfl (ew_o hf)
      · have hf := it_neg hc3 hf
        refine v_aload_n K 2 dX9_writeOn_64 rfl rfl ?_
        refine v_iload_n K 3 dX9_writeOn_65 rfl rfl ?_
        refine v_iconst K dX9_writeOn_66 ki_1 ?_
        refine v_iload K 0 dX9_writeOn_67 rfl ?_
        obtain ⟨S7, hS7, hf⟩ := bd_el hf
        refine v_callWn (As := [.int x1, .int 1, .int (y1 ||| ((1 : Int32) <<< (x2 &&& 31)))]) (rest := []) K mk_X9_86 dX9_writeOn_69 (c_X9_layCard hM hS7) (hM 0 (by decide)) rfl rfl rfl rfl rfl (Nat.le_of_ble_eq_true rfl) ⟨rfl, rfl⟩ ⟨Nat.le_of_ble_eq_true rfl, Nat.le_of_ble_eq_true rfl⟩ ?_
        refine v_goto (tgt := 87) K dX9_writeOn_72 (by decide) ?_
        exact v_vret K rfl dX9_writeOn_87 rfl (ew_o hf)
  · have hf := it_pos hc1 hf
    refine v_aload_n K 2 dX9_writeOn_24 rfl rfl ?_
    refine v_iload_n K 3 dX9_writeOn_25 rfl rfl ?_
    refine v_iconst K dX9_writeOn_26 ki_2 ?_
    refine v_iload_n K 1 dX9_writeOn_27 rfl rfl ?_
    refine v_iconst K dX9_writeOn_28 ki_1 ?_
    refine v_aload_n K 2 dX9_writeOn_29 rfl rfl ?_
    refine v_iload_n K 4 dX9_writeOn_30 rfl rfl ?_
    obtain ⟨y8, hy8, hf⟩ := bd_el hf
    refine v_callWi (As := [.int x2]) (rest := [.int 1, .int y1, .int 2, .int x1, .ref (eA E 1 0)]) K mk_X9_78 dX9_writeOn_31 (c_X9_group hM hy8) (hM 0 (by decide)) rfl rfl rfl rfl rfl (Nat.le_of_ble_eq_true rfl) ⟨rfl, rfl⟩ ⟨Nat.le_of_ble_eq_true rfl, Nat.le_of_ble_eq_true rfl⟩ ?_
    refine v_ishl K dX9_writeOn_34 ?_
    refine v_ior K dX9_writeOn_35 ?_
    obtain ⟨S9, hS9, hf⟩ := bd_el hf
    refine v_callWn (As := [.int x1, .int 2, .int (y1 ||| ((1 : Int32) <<< (y8 &&& 31)))]) (rest := []) K mk_X9_86 dX9_writeOn_36 (c_X9_layCard hM hS9) (hM 0 (by decide)) rfl rfl rfl rfl rfl (Nat.le_of_ble_eq_true rfl) ⟨rfl, rfl⟩ ⟨Nat.le_of_ble_eq_true rfl, Nat.le_of_ble_eq_true rfl⟩ ?_
    refine v_goto (tgt := 87) K dX9_writeOn_39 (by decide) ?_
    exact v_vret K rfl dX9_writeOn_87 rfl (ew_o hf)
set_option maxRecDepth 20000 in
theorem c_X9_strike {G : Gs} (hM : ModG E) {S S' : St}  {x1 : Int32} {x2 : Int32} (hf : f_X9_strike S x1 x2 = some S') : Ctr l D E A yX9_strike cX9_strike 4 none (rmD 2) [.ref (eA E 1 0), .int x1, .int x2] (wl E (va_up G 1 S)) none (wl E (va_up G 1 S')) := by
  refine Ctr.of (own := RX9) pn_X9 rfl (Nat.le_of_ble_eq_true rfl) ?_
  intro p e s m args below meth c K
  refine v_lv (lv' := [(0, .ref (eA E 1 0)), (1, .int x1), (2, .int x2)]) rfl ?_
  unfold f_X9_strike at hf
  refine v_aload_n K 0 dX9_strike_0 rfl rfl ?_
  refine v_iload_n K 1 dX9_strike_1 rfl rfl ?_
  refine v_iconst K dX9_strike_2 ki_1 ?_
  obtain ⟨y1, hy1, hf⟩ := bd_el hf
  refine v_callWi (As := [.int x1, .int 1]) (rest := []) K mk_X9_75 dX9_strike_3 (c_X9_ofN hM hy1) (hM 0 (by decide)) rfl rfl rfl rfl rfl (Nat.le_of_ble_eq_true rfl) ⟨rfl, rfl⟩ ⟨Nat.le_of_ble_eq_true rfl, Nat.le_of_ble_eq_true rfl⟩ ?_
  refine v_iconst K dX9_strike_6 ki_2 ?_
  refine v_icmp_ne (tgt := 11) K dX9_strike_7 (by decide) (fun hc1 => ?_) (fun hc1 => ?_)
  · have hf := it_neg hc1 hf
    refine v_aload_n K 0 dX9_strike_11 rfl rfl ?_
    refine v_iload_n K 1 dX9_strike_12 rfl rfl ?_
    refine v_iconst K dX9_strike_13 ki_1 ?_
    obtain ⟨y2, hy2, hf⟩ := bd_el hf
    refine v_callWi (As := [.int x1, .int 1]) (rest := []) K mk_X9_75 dX9_strike_14 (c_X9_ofN hM hy2) (hM 0 (by decide)) rfl rfl rfl rfl rfl (Nat.le_of_ble_eq_true rfl) ⟨rfl, rfl⟩ ⟨Nat.le_of_ble_eq_true rfl, Nat.le_of_ble_eq_true rfl⟩ ?_
    refine v_iconst K dX9_strike_17 ki_3 ?_
    refine jn_1 (fun (u37_0 : Int32) => VV p l e (rmD 2) s m args below meth c (MQ below (CQ D A none (wl E (va_up G 1 S'))) args s 0 0 A) D A 4 (0, 0) 37 [.int u37_0] [(0, .ref (eA E 1 0)), (1, .int x1)] (wl E (va_up G 1 S))) hf (fun u37_0 hf => ?_) (fun hj3 hf => ?_)
    · refine v_istore_n (lv' := [(3, .int u37_0), (0, .ref (eA E 1 0)), (1, .int x1)]) K dX9_strike_37 rfl (by decide) rfl ?_
      refine v_aload_n K 1 dX9_strike_38 rfl rfl ?_
      refine v_iload_n K 2 dX9_strike_39 rfl rfl ?_
      refine v_iload_n K 0 dX9_strike_40 rfl rfl ?_
      have hj5 : ∀ (w1 : Int32), w1 = (if u37_0 = 0 then 0 else 1 : Int32) → VV p l e (rmD 2) s m args below meth c (MQ below (CQ D A none (wl E (va_up G 1 S'))) args s 0 0 A) D A 4 (0, 0) 49 [.int w1, .int x1, .ref (eA E 1 0)] [(3, .int u37_0)] (wl E (va_up G 1 S)) := by
        intro w1 ew1
        subst ew1
        refine v_iload_n K 0 dX9_strike_49 rfl rfl ?_
        obtain ⟨S4, hS4, hf⟩ := bd_el hf
        refine v_callWn (As := [.int x1, .int (if u37_0 = 0 then 0 else 1 : Int32), .int u37_0]) (rest := []) K mk_X9_86 dX9_strike_50 (c_X9_layCard hM hS4) (hM 0 (by decide)) rfl rfl rfl rfl rfl (Nat.le_of_ble_eq_true rfl) ⟨rfl, rfl⟩ ⟨Nat.le_of_ble_eq_true rfl, Nat.le_of_ble_eq_true rfl⟩ ?_
        exact v_vret K rfl dX9_strike_53 rfl (ew_o hf)
      refine v_if_ne (tgt := 48) K dX9_strike_41 (by decide) (fun hc3 => ?_) (fun hc3 => ?_)
      · refine v_iconst K dX9_strike_48 ki_1 ?_
        exact v_lsub [0] rfl (hj5 1 (if_neg hc3).symm)
      · refine v_iconst K dX9_strike_44 ki_0 ?_
        refine v_goto (tgt := 49) K dX9_strike_45 (by decide) ?_
        exact v_lsub [0] rfl (hj5 0 (if_pos hc3).symm)
    · refine v_icmp_ne (tgt := 25) K dX9_strike_18 (by decide) (fun hc2 => ?_) (fun hc2 => ?_)
      · have hf := it_neg hc2 hf
        refine v_aload_n K 0 dX9_strike_25 rfl rfl ?_
        refine v_iload_n K 1 dX9_strike_26 rfl rfl ?_
        refine v_iconst K dX9_strike_27 ki_2 ?_
        obtain ⟨y6, hy6, hf⟩ := bd_el hf
        refine v_callWi (As := [.int x1, .int 2]) (rest := []) K mk_X9_75 dX9_strike_28 (c_X9_ofN hM hy6) (hM 0 (by decide)) rfl rfl rfl rfl rfl (Nat.le_of_ble_eq_true rfl) ⟨rfl, rfl⟩ ⟨Nat.le_of_ble_eq_true rfl, Nat.le_of_ble_eq_true rfl⟩ ?_
        refine v_iconst K dX9_strike_31 ki_1 ?_
        refine v_iload_n K 2 dX9_strike_32 rfl rfl ?_
        refine v_ishl K dX9_strike_33 ?_
        refine v_iconst K dX9_strike_34 ki_m1 ?_
        refine v_ixor K dX9_strike_35 ?_
        refine v_iand K dX9_strike_36 ?_
        exact v_lsub [0, 1] rfl (hj3 (y6 &&& (((1 : Int32) <<< (x2 &&& 31)) ^^^ (-1))) hf)
      · have hf := it_pos hc2 hf
        refine v_iconst K dX9_strike_21 ki_0 ?_
        refine v_goto (tgt := 37) K dX9_strike_22 (by decide) ?_
        exact v_lsub [0, 1] rfl (hj3 0 hf)
  · have hf := it_pos hc1 hf
    exact v_vret K rfl dX9_strike_10 rfl (ew_o hf)
set_option maxRecDepth 20000 in
theorem c_X9_callBack {G : Gs} (hM : ModG E) {S S' : St}  {x1 : Int32} {x2 : Int32} (hf : f_X9_callBack S x1 x2 = some S') : Ctr l D E A yX9_callBack cX9_callBack 4 none (rmD 2) [.ref (eA E 1 0), .int x1, .int x2] (wl E (va_up G 1 S)) none (wl E (va_up G 1 S')) := by
  refine Ctr.of (own := RX9) pn_X9 rfl (Nat.le_of_ble_eq_true rfl) ?_
  intro p e s m args below meth c K
  refine v_lv (lv' := [(0, .ref (eA E 1 0)), (1, .int x1), (2, .int x2)]) rfl ?_
  unfold f_X9_callBack at hf
  refine v_aload_n K 0 dX9_callBack_0 rfl rfl ?_
  refine g_get K fk_X9_7 dX9_callBack_1 (hM 0 (by decide)) rfl rfl ?_
  refine v_iconst K dX9_callBack_4 ki_4 ?_
  refine v_dup2 K dX9_callBack_5 rfl rfl ?_
  obtain ⟨hi6, hf⟩ := ix_el hf
  refine g_iald K dX9_callBack_6 (hM 1 (by decide)) rfl hi6 ?_
  refine v_iconst K dX9_callBack_7 ki_1 ?_
  refine v_iadd K dX9_callBack_8 ?_
  obtain ⟨hi9, hf⟩ := ix_el hf
  obtain ⟨S1, hS1, hf⟩ := bnd_el hf
  refine g_iast K dX9_callBack_9 (hM 1 (by decide)) (fun _ => rfl) hi9 hS1 ?_
  refine v_aload_n K 0 dX9_callBack_10 rfl rfl ?_
  refine v_iload_n K 2 dX9_callBack_11 rfl rfl ?_
  refine v_iload_n K 1 dX9_callBack_12 rfl rfl ?_
  obtain ⟨y2, hy2, hf⟩ := bd_el hf
  refine v_callWi (As := [.int x2, .int x1]) (rest := []) K mk_X9_95 dX9_callBack_13 (c_X9_placeOf hM hy2) (hM 0 (by decide)) rfl rfl rfl rfl rfl (Nat.le_of_ble_eq_true rfl) ⟨rfl, rfl⟩ ⟨Nat.le_of_ble_eq_true rfl, Nat.le_of_ble_eq_true rfl⟩ ?_
  refine v_istore_n (lv' := [(3, .int y2), (0, .ref (eA E 1 0)), (1, .int x1), (2, .int x2)]) K dX9_callBack_16 rfl (by decide) rfl ?_
  refine v_iload_n K 0 dX9_callBack_17 rfl rfl ?_
  refine v_if_ge (tgt := 39) K dX9_callBack_18 (by decide) (fun hc1 => ?_) (fun hc1 => ?_)
  · have hf := it_pos hc1 hf
    refine v_aload_n K 1 dX9_callBack_39 rfl rfl ?_
    refine v_iload_n K 3 dX9_callBack_40 rfl rfl ?_
    refine v_iload_n K 0 dX9_callBack_41 rfl rfl ?_
    obtain ⟨S3, hS3, hf⟩ := bd_el hf
    refine v_callWn (As := [.int x2, .int y2]) (rest := []) K mk_X9_98 dX9_callBack_42 (c_X9_giveBack hM hS3) (hM 0 (by decide)) rfl rfl rfl rfl rfl (Nat.le_of_ble_eq_true rfl) ⟨rfl, rfl⟩ ⟨Nat.le_of_ble_eq_true rfl, Nat.le_of_ble_eq_true rfl⟩ ?_
    refine v_aload_n K 1 dX9_callBack_45 rfl rfl ?_
    refine v_iload_n K 3 dX9_callBack_46 rfl rfl ?_
    refine v_iload_n K 0 dX9_callBack_47 rfl rfl ?_
    obtain ⟨S4, hS4, hf⟩ := bd_el hf
    refine v_callWn (As := [.int x2, .int y2]) (rest := []) K mk_X9_65 dX9_callBack_48 (c_X9_takeOff hM hS4) (hM 0 (by decide)) rfl rfl rfl rfl rfl (Nat.le_of_ble_eq_true rfl) ⟨rfl, rfl⟩ ⟨Nat.le_of_ble_eq_true rfl, Nat.le_of_ble_eq_true rfl⟩ ?_
    refine v_aload_n K 1 dX9_callBack_51 rfl rfl ?_
    refine g_get K fk_X9_7 dX9_callBack_52 (hM 0 (by decide)) rfl rfl ?_
    refine v_iconst K dX9_callBack_55 ki_4 ?_
    refine v_dup2 K dX9_callBack_56 rfl rfl ?_
    obtain ⟨hi57, hf⟩ := ix_el hf
    refine g_iald K dX9_callBack_57 (hM 1 (by decide)) rfl hi57 ?_
    refine v_iconst K dX9_callBack_58 ki_1 ?_
    refine v_iadd K dX9_callBack_59 ?_
    obtain ⟨hi60, hf⟩ := ix_el hf
    obtain ⟨S5, hS5, hf⟩ := bnd_el hf
    refine g_iast K dX9_callBack_60 (hM 1 (by decide)) (fun _ => rfl) hi60 hS5 ?_
    refine v_aload_n K 1 dX9_callBack_61 rfl rfl ?_
    refine v_iload_n K 2 dX9_callBack_62 rfl rfl ?_
    refine v_iconst K dX9_callBack_63 ki_3 ?_
    refine v_aload_n K 1 dX9_callBack_64 rfl rfl ?_
    refine v_iload_n K 2 dX9_callBack_65 rfl rfl ?_
    refine v_iconst K dX9_callBack_66 ki_3 ?_
    obtain ⟨y6, hy6, hf⟩ := bd_el hf
    refine v_callWi (As := [.int x1, .int 3]) (rest := [.int 3, .int x1, .ref (eA E 1 0)]) K mk_X9_75 dX9_callBack_67 (c_X9_ofN hM hy6) (hM 0 (by decide)) rfl rfl rfl rfl rfl (Nat.le_of_ble_eq_true rfl) ⟨rfl, rfl⟩ ⟨Nat.le_of_ble_eq_true rfl, Nat.le_of_ble_eq_true rfl⟩ ?_
    refine v_iconst K dX9_callBack_70 ki_1 ?_
    refine v_iadd K dX9_callBack_71 ?_
    obtain ⟨S7, hS7, hf⟩ := bd_el hf
    refine v_callWn (As := [.int x1, .int 3, .int (y6 + 1)]) (rest := []) K mk_X9_72 dX9_callBack_72 (c_X9_layN hM hS7) (hM 0 (by decide)) rfl rfl rfl rfl rfl (Nat.le_of_ble_eq_true rfl) ⟨rfl, rfl⟩ ⟨Nat.le_of_ble_eq_true rfl, Nat.le_of_ble_eq_true rfl⟩ ?_
    refine v_aload_n K 1 dX9_callBack_75 rfl rfl ?_
    refine v_iload_n K 3 dX9_callBack_76 rfl rfl ?_
    refine v_iconst K dX9_callBack_77 ki_3 ?_
    refine v_iconst K dX9_callBack_78 ki_1 ?_
    obtain ⟨S8, hS8, hf⟩ := bd_el hf
    refine v_callWn (As := [.int x2, .int 3, .int 1]) (rest := []) K mk_X9_57 dX9_callBack_79 (c_X9_moreR hM hS8) (hM 0 (by decide)) rfl rfl rfl rfl rfl (Nat.le_of_ble_eq_true rfl) ⟨rfl, rfl⟩ ⟨Nat.le_of_ble_eq_true rfl, Nat.le_of_ble_eq_true rfl⟩ ?_
    exact v_vret K rfl dX9_callBack_82 rfl (ew_o hf)
  · have hf := it_neg hc1 hf
    refine v_aload_n K 1 dX9_callBack_21 rfl rfl ?_
    refine g_get K fk_X9_7 dX9_callBack_22 (hM 0 (by decide)) rfl rfl ?_
    refine v_iconst K dX9_callBack_25 ki_5 ?_
    refine v_dup2 K dX9_callBack_26 rfl rfl ?_
    obtain ⟨hi27, hf⟩ := ix_el hf
    refine g_iald K dX9_callBack_27 (hM 1 (by decide)) rfl hi27 ?_
    refine v_iconst K dX9_callBack_28 ki_1 ?_
    refine v_iadd K dX9_callBack_29 ?_
    obtain ⟨hi30, hf⟩ := ix_el hf
    obtain ⟨S9, hS9, hf⟩ := bnd_el hf
    refine g_iast K dX9_callBack_30 (hM 1 (by decide)) (fun _ => rfl) hi30 hS9 ?_
    refine v_aload_n K 1 dX9_callBack_31 rfl rfl ?_
    refine v_iload_n K 3 dX9_callBack_32 rfl rfl ?_
    refine v_iconst K dX9_callBack_33 ki_4 ?_
    refine v_iconst K dX9_callBack_34 ki_1 ?_
    obtain ⟨S10, hS10, hf⟩ := bd_el hf
    refine v_callWn (As := [.int x2, .int 4, .int 1]) (rest := []) K mk_X9_57 dX9_callBack_35 (c_X9_moreR hM hS10) (hM 0 (by decide)) rfl rfl rfl rfl rfl (Nat.le_of_ble_eq_true rfl) ⟨rfl, rfl⟩ ⟨Nat.le_of_ble_eq_true rfl, Nat.le_of_ble_eq_true rfl⟩ ?_
    exact v_vret K rfl dX9_callBack_38 rfl (ew_o hf)
set_option maxRecDepth 20000 in
theorem c_X9_callBackBut {G : Gs} (hM : ModG E) {S S' : St}  {x1 : Int32} {x2 : Int32} (hf : f_X9_callBackBut S x1 x2 = some S') : Ctr l D E A yX9_callBackBut cX9_callBackBut 6 none (rmD 3) [.ref (eA E 1 0), .int x1, .int x2] (wl E (va_up G 1 S)) none (wl E (va_up G 1 S')) := by
  refine Ctr.of (own := RX9) pn_X9 rfl (Nat.le_of_ble_eq_true rfl) ?_
  intro p e s m args below meth c K
  refine v_lv (lv' := [(0, .ref (eA E 1 0)), (1, .int x1), (2, .int x2)]) rfl ?_
  have L26 : ∀ (x1 : Int32) (x2 : Int32) (x3 : Int32) (x4 : Int32), ∀ (n : Nat) (x5 : Int32) (S : St), f_X9_callBackBut_L26 x1 x2 x3 x4 n x5 S = some S' → VV p l e (rmD 3) s m args below meth c (MQ below (CQ D A none (wl E (va_up G 1 S'))) args s 0 0 A) D A 6 (0, 0) 26 [] [(0, .ref (eA E 1 0)), (1, .int x1), (2, .int x2), (3, .int x3), (4, .int x4), (5, .int x5)] (wl E (va_up G 1 S)) := by
    intro x1 x2 x3 x4 n
    induction n with
    | zero =>
      intro x5 S hf
      rw [f_X9_callBackBut_L26] at hf
      cases hf
    | succ n ih =>
      intro x5 S hf
      rw [f_X9_callBackBut_L26] at hf
      refine v_iload K 5 dX9_callBackBut_26 rfl ?_
      refine v_bipush K dX9_callBackBut_28 kb_16 ?_
      refine v_icmp_ge (tgt := 88) K dX9_callBackBut_30 (by decide) (fun hc2 => ?_) (fun hc2 => ?_)
      · have hf := it_pos hc2 hf
        exact v_vret K rfl dX9_callBackBut_88 rfl (ew_o hf)
      · have hf := it_neg hc2 hf
        refine v_iload K 5 dX9_callBackBut_33 rfl ?_
        refine v_iload_n K 2 dX9_callBackBut_35 rfl rfl ?_
        refine jn_1 (fun (S_82 : St) => VV p l e (rmD 3) s m args below meth c (MQ below (CQ D A none (wl E (va_up G 1 S'))) args s 0 0 A) D A 6 (0, 0) 82 [] [(0, .ref (eA E 1 0)), (1, .int x1), (2, .int x2), (3, .int x3), (4, .int x4), (5, .int x5)] (wl E (va_up G 1 S_82))) hf (fun S_82 hf => ?_) (fun hj3 hf => ?_)
        · refine v_iinc (v := x5 + 1) (lv' := [(5, .int (x5 + 1)), (0, .ref (eA E 1 0)), (1, .int x1), (2, .int x2), (3, .int x3), (4, .int x4)]) K 5 dX9_callBackBut_82 rfl rfl (by decide) rfl ?_
          refine v_goto (tgt := 26) K dX9_callBackBut_85 (by decide) ?_
          exact v_lsub [1, 2, 3, 4, 5, 0] rfl (ih (x5 + 1) S_82 hf)
        · refine v_icmp_eq (tgt := 82) K dX9_callBackBut_36 (by decide) (fun hc3 => ?_) (fun hc3 => ?_)
          · have hf := it_pos hc3 hf
            exact v_lsub [0, 1, 2, 3, 4, 5] rfl (hj3 S hf)
          · have hf := it_neg hc3 hf
            refine v_iload_n K 3 dX9_callBackBut_39 rfl rfl ?_
            refine v_iload K 5 dX9_callBackBut_40 rfl ?_
            refine v_callSi (As := [.int x3, .int x5]) (rest := []) K mk_X9_82 dX9_callBackBut_42 (c_X9_has  rfl) rfl rfl (Nat.le_of_ble_eq_true rfl) ⟨rfl, rfl⟩ ⟨Nat.le_of_ble_eq_true rfl, Nat.le_of_ble_eq_true rfl⟩ ?_
            refine v_if_eq (tgt := 82) K dX9_callBackBut_45 (by decide) (fun hc5 => ?_) (fun hc5 => ?_)
            · have hf := it_pos hc5 hf
              exact v_lsub [0, 1, 2, 3, 4, 5] rfl (hj3 S hf)
            · have hf := it_neg hc5 hf
              refine v_aload_n K 0 dX9_callBackBut_48 rfl rfl ?_
              refine v_iload_n K 1 dX9_callBackBut_49 rfl rfl ?_
              refine v_iload K 5 dX9_callBackBut_50 rfl ?_
              obtain ⟨S4, hS4, hf⟩ := bd_el hf
              refine v_callWn (As := [.int x1, .int x5]) (rest := []) K mk_X9_104 dX9_callBackBut_52 (c_X9_callBack hM hS4) (hM 0 (by decide)) rfl rfl rfl rfl rfl (Nat.le_of_ble_eq_true rfl) ⟨rfl, rfl⟩ ⟨Nat.le_of_ble_eq_true rfl, Nat.le_of_ble_eq_true rfl⟩ ?_
              refine v_aload_n K 0 dX9_callBackBut_55 rfl rfl ?_
              refine g_get K fk_X9_7 dX9_callBackBut_56 (hM 0 (by decide)) rfl rfl ?_
              refine v_bipush K dX9_callBackBut_59 kb_6 ?_
              refine v_dup2 K dX9_callBackBut_61 rfl rfl ?_
              obtain ⟨hi62, hf⟩ := ix_el hf
              refine g_iald K dX9_callBackBut_62 (hM 1 (by decide)) rfl hi62 ?_
              refine v_iload K 4 dX9_callBackBut_63 rfl ?_
              refine v_iadd K dX9_callBackBut_65 ?_
              obtain ⟨hi66, hf⟩ := ix_el hf
              obtain ⟨S5, hS5, hf⟩ := bnd_el hf
              refine g_iast K dX9_callBackBut_66 (hM 1 (by decide)) (fun _ => rfl) hi66 hS5 ?_
              refine v_aload_n K 0 dX9_callBackBut_67 rfl rfl ?_
              refine v_iload_n K 1 dX9_callBackBut_68 rfl rfl ?_
              refine v_iconst K dX9_callBackBut_69 ki_4 ?_
              refine v_aload_n K 0 dX9_callBackBut_70 rfl rfl ?_
              refine v_iload_n K 1 dX9_callBackBut_71 rfl rfl ?_
              refine v_iconst K dX9_callBackBut_72 ki_4 ?_
              obtain ⟨y6, hy6, hf⟩ := bd_el hf
              refine v_callWi (As := [.int x1, .int 4]) (rest := [.int 4, .int x1, .ref (eA E 1 0)]) K mk_X9_75 dX9_callBackBut_73 (c_X9_ofN hM hy6) (hM 0 (by decide)) rfl rfl rfl rfl rfl (Nat.le_of_ble_eq_true rfl) ⟨rfl, rfl⟩ ⟨Nat.le_of_ble_eq_true rfl, Nat.le_of_ble_eq_true rfl⟩ ?_
              refine v_iload K 4 dX9_callBackBut_76 rfl ?_
              refine v_iadd K dX9_callBackBut_78 ?_
              obtain ⟨S7, hS7, hf⟩ := bd_el hf
              refine v_callWn (As := [.int x1, .int 4, .int (y6 + x4)]) (rest := []) K mk_X9_72 dX9_callBackBut_79 (c_X9_layN hM hS7) (hM 0 (by decide)) rfl rfl rfl rfl rfl (Nat.le_of_ble_eq_true rfl) ⟨rfl, rfl⟩ ⟨Nat.le_of_ble_eq_true rfl, Nat.le_of_ble_eq_true rfl⟩ ?_
              exact v_lsub [0, 1, 2, 3, 4, 5] rfl (hj3 S7 hf)
  unfold f_X9_callBackBut at hf
  refine v_aload_n K 0 dX9_callBackBut_0 rfl rfl ?_
  refine v_iload_n K 1 dX9_callBackBut_1 rfl rfl ?_
  obtain ⟨y1, hy1, hf⟩ := bd_el hf
  refine v_callWi (As := [.int x1]) (rest := []) K mk_X9_101 dX9_callBackBut_2 (c_X9_called hM hy1) (hM 0 (by decide)) rfl rfl rfl rfl rfl (Nat.le_of_ble_eq_true rfl) ⟨rfl, rfl⟩ ⟨Nat.le_of_ble_eq_true rfl, Nat.le_of_ble_eq_true rfl⟩ ?_
  refine v_istore_n (lv' := [(3, .int y1), (0, .ref (eA E 1 0)), (1, .int x1), (2, .int x2)]) K dX9_callBackBut_5 rfl (by decide) rfl ?_
  refine v_aload_n K 1 dX9_callBackBut_6 rfl rfl ?_
  refine v_iload_n K 2 dX9_callBackBut_7 rfl rfl ?_
  refine v_iconst K dX9_callBackBut_8 ki_1 ?_
  obtain ⟨y2, hy2, hf⟩ := bd_el hf
  refine v_callWi (As := [.int x1, .int 1]) (rest := []) K mk_X9_75 dX9_callBackBut_9 (c_X9_ofN hM hy2) (hM 0 (by decide)) rfl rfl rfl rfl rfl (Nat.le_of_ble_eq_true rfl) ⟨rfl, rfl⟩ ⟨Nat.le_of_ble_eq_true rfl, Nat.le_of_ble_eq_true rfl⟩ ?_
  refine v_iconst K dX9_callBackBut_12 ki_2 ?_
  have hj8 : ∀ (w1 : Int32), w1 = (if y2 = 2 then 1 else 0 : Int32) → VV p l e (rmD 3) s m args below meth c (MQ below (CQ D A none (wl E (va_up G 1 S'))) args s 0 0 A) D A 6 (0, 0) 21 [.int w1] [(0, .ref (eA E 1 0)), (1, .int x1), (2, .int x2), (3, .int y1)] (wl E (va_up G 1 S)) := by
    intro w1 ew1
    subst ew1
    refine v_istore (lv' := [(4, .int (if y2 = 2 then 1 else 0 : Int32)), (0, .ref (eA E 1 0)), (1, .int x1), (2, .int x2), (3, .int y1)]) K dX9_callBackBut_21 (by decide) rfl ?_
    refine v_iconst K dX9_callBackBut_23 ki_0 ?_
    refine v_istore (lv' := [(5, .int 0), (4, .int (if y2 = 2 then 1 else 0 : Int32)), (0, .ref (eA E 1 0)), (1, .int x1), (2, .int x2), (3, .int y1)]) K dX9_callBackBut_24 (by decide) rfl ?_
    refine v_lsub [2, 3, 4, 5, 1, 0] rfl ?_
    exact L26 x1 x2 y1 (if y2 = 2 then 1 else 0 : Int32) 5000 0 S hf
  refine v_icmp_ne (tgt := 20) K dX9_callBackBut_13 (by decide) (fun hc1 => ?_) (fun hc1 => ?_)
  · refine v_iconst K dX9_callBackBut_20 ki_0 ?_
    exact v_lsub [1, 2, 3, 0] rfl (hj8 0 (if_neg hc1).symm)
  · refine v_iconst K dX9_callBackBut_16 ki_1 ?_
    refine v_goto (tgt := 21) K dX9_callBackBut_17 (by decide) ?_
    exact v_lsub [1, 2, 3, 0] rfl (hj8 1 (if_pos hc1).symm)
set_option maxRecDepth 20000 in
theorem c_X9_returned {G : Gs} (hM : ModG E) {S S' : St}  {x1 : Int32} {x2 : Int32} {r : Int32} (hf : f_X9_returned S x1 x2 = some (r, S')) : Ctr l D E A yX9_returned cX9_returned 5 (some .int) (rmD 3) [.ref (eA E 1 0), .int x1, .int x2] (wl E (va_up G 1 S)) (some (.int r)) (wl E (va_up G 1 S')) := by
  refine Ctr.of (own := RX9) pn_X9 rfl (Nat.le_of_ble_eq_true rfl) ?_
  intro p e s m args below meth c K
  refine v_lv (lv' := [(0, .ref (eA E 1 0)), (1, .int x1), (2, .int x2)]) rfl ?_
  unfold f_X9_returned at hf
  refine v_aload_n K 0 dX9_returned_0 rfl rfl ?_
  refine v_iload_n K 1 dX9_returned_1 rfl rfl ?_
  refine v_iload_n K 2 dX9_returned_2 rfl rfl ?_
  refine v_iconst K dX9_returned_3 ki_0 ?_
  obtain ⟨y1, hy1, hf⟩ := bd_el hf
  refine v_callWi (As := [.int x1, .int x2, .int 0]) (rest := []) K mk_X9_53 dX9_returned_4 (c_X9_ofC hM hy1) (hM 0 (by decide)) rfl rfl rfl rfl rfl (Nat.le_of_ble_eq_true rfl) ⟨rfl, rfl⟩ ⟨Nat.le_of_ble_eq_true rfl, Nat.le_of_ble_eq_true rfl⟩ ?_
  refine v_istore_n (lv' := [(3, .int y1), (0, .ref (eA E 1 0)), (1, .int x1), (2, .int x2)]) K dX9_returned_7 rfl (by decide) rfl ?_
  refine v_aload_n K 1 dX9_returned_8 rfl rfl ?_
  refine v_iload_n K 2 dX9_returned_9 rfl rfl ?_
  refine v_iload_n K 3 dX9_returned_10 rfl rfl ?_
  refine v_iconst K dX9_returned_11 ki_2 ?_
  obtain ⟨y2, hy2, hf⟩ := bd_el hf
  refine v_callWi (As := [.int x1, .int x2, .int 2]) (rest := []) K mk_X9_53 dX9_returned_12 (c_X9_ofC hM hy2) (hM 0 (by decide)) rfl rfl rfl rfl rfl (Nat.le_of_ble_eq_true rfl) ⟨rfl, rfl⟩ ⟨Nat.le_of_ble_eq_true rfl, Nat.le_of_ble_eq_true rfl⟩ ?_
  refine v_istore (lv' := [(4, .int y2), (3, .int y1), (0, .ref (eA E 1 0)), (1, .int x1), (2, .int x2)]) K dX9_returned_15 (by decide) rfl ?_
  refine v_aload_n K 2 dX9_returned_17 rfl rfl ?_
  refine v_iload_n K 3 dX9_returned_18 rfl rfl ?_
  refine v_iload_n K 4 dX9_returned_19 rfl rfl ?_
  obtain ⟨S3, hS3, hf⟩ := bd_el hf
  refine v_callWn (As := [.int x1, .int x2]) (rest := []) K mk_X9_98 dX9_returned_20 (c_X9_giveBack hM hS3) (hM 0 (by decide)) rfl rfl rfl rfl rfl (Nat.le_of_ble_eq_true rfl) ⟨rfl, rfl⟩ ⟨Nat.le_of_ble_eq_true rfl, Nat.le_of_ble_eq_true rfl⟩ ?_
  refine v_aload_n K 2 dX9_returned_23 rfl rfl ?_
  refine v_iload_n K 3 dX9_returned_24 rfl rfl ?_
  refine v_iload_n K 4 dX9_returned_25 rfl rfl ?_
  obtain ⟨S4, hS4, hf⟩ := bd_el hf
  refine v_callWn (As := [.int x1, .int x2]) (rest := []) K mk_X9_65 dX9_returned_26 (c_X9_takeOff hM hS4) (hM 0 (by decide)) rfl rfl rfl rfl rfl (Nat.le_of_ble_eq_true rfl) ⟨rfl, rfl⟩ ⟨Nat.le_of_ble_eq_true rfl, Nat.le_of_ble_eq_true rfl⟩ ?_
  refine v_iload K 0 dX9_returned_29 rfl ?_
  refine v_iconst K dX9_returned_31 ki_1 ?_
  refine v_icmp_eq (tgt := 45) K dX9_returned_32 (by decide) (fun hc1 => ?_) (fun hc1 => ?_)
  · have hf := it_pos hc1 hf
    refine v_aload_n K 2 dX9_returned_45 rfl rfl ?_
    refine g_get K fk_X9_7 dX9_returned_46 (hM 0 (by decide)) rfl rfl ?_
    refine v_iconst K dX9_returned_49 ki_4 ?_
    refine v_dup2 K dX9_returned_50 rfl rfl ?_
    obtain ⟨hi51, hf⟩ := ix_el hf
    refine g_iald K dX9_returned_51 (hM 1 (by decide)) rfl hi51 ?_
    refine v_iconst K dX9_returned_52 ki_1 ?_
    refine v_iadd K dX9_returned_53 ?_
    obtain ⟨hi54, hf⟩ := ix_el hf
    obtain ⟨S5, hS5, hf⟩ := bnd_el hf
    refine g_iast K dX9_returned_54 (hM 1 (by decide)) (fun _ => rfl) hi54 hS5 ?_
    refine v_aload_n K 2 dX9_returned_55 rfl rfl ?_
    refine v_iload_n K 1 dX9_returned_56 rfl rfl ?_
    refine v_iload_n K 3 dX9_returned_57 rfl rfl ?_
    obtain ⟨S6, hS6, hf⟩ := bd_el hf
    refine v_callWn (As := [.int y1, .int x1]) (rest := []) K mk_X9_107 dX9_returned_58 (c_X9_strike hM hS6) (hM 0 (by decide)) rfl rfl rfl rfl rfl (Nat.le_of_ble_eq_true rfl) ⟨rfl, rfl⟩ ⟨Nat.le_of_ble_eq_true rfl, Nat.le_of_ble_eq_true rfl⟩ ?_
    refine v_iload K 0 dX9_returned_61 rfl ?_
    exact v_iret K rfl dX9_returned_63 (ev_q hf) (ew_q hf)
  · have hf := it_neg hc1 hf
    refine v_aload_n K 2 dX9_returned_35 rfl rfl ?_
    refine g_get K fk_X9_7 dX9_returned_36 (hM 0 (by decide)) rfl rfl ?_
    refine v_iconst K dX9_returned_39 ki_3 ?_
    obtain ⟨hi40, hf⟩ := ix_el hf
    refine g_iald K dX9_returned_40 (hM 1 (by decide)) rfl hi40 ?_
    refine v_iconst K dX9_returned_41 ki_1 ?_
    refine v_icmp_ne (tgt := 61) K dX9_returned_42 (by decide) (fun hc2 => ?_) (fun hc2 => ?_)
    · have hf := it_neg hc2 hf
      refine v_iload K 0 dX9_returned_61 rfl ?_
      exact v_iret K rfl dX9_returned_63 (ev_q hf) (ew_q hf)
    · have hf := it_pos hc2 hf
      refine v_aload_n K 2 dX9_returned_45 rfl rfl ?_
      refine g_get K fk_X9_7 dX9_returned_46 (hM 0 (by decide)) rfl rfl ?_
      refine v_iconst K dX9_returned_49 ki_4 ?_
      refine v_dup2 K dX9_returned_50 rfl rfl ?_
      obtain ⟨hi51, hf⟩ := ix_el hf
      refine g_iald K dX9_returned_51 (hM 1 (by decide)) rfl hi51 ?_
      refine v_iconst K dX9_returned_52 ki_1 ?_
      refine v_iadd K dX9_returned_53 ?_
      obtain ⟨hi54, hf⟩ := ix_el hf
      obtain ⟨S7, hS7, hf⟩ := bnd_el hf
      refine g_iast K dX9_returned_54 (hM 1 (by decide)) (fun _ => rfl) hi54 hS7 ?_
      refine v_aload_n K 2 dX9_returned_55 rfl rfl ?_
      refine v_iload_n K 1 dX9_returned_56 rfl rfl ?_
      refine v_iload_n K 3 dX9_returned_57 rfl rfl ?_
      obtain ⟨S8, hS8, hf⟩ := bd_el hf
      refine v_callWn (As := [.int y1, .int x1]) (rest := []) K mk_X9_107 dX9_returned_58 (c_X9_strike hM hS8) (hM 0 (by decide)) rfl rfl rfl rfl rfl (Nat.le_of_ble_eq_true rfl) ⟨rfl, rfl⟩ ⟨Nat.le_of_ble_eq_true rfl, Nat.le_of_ble_eq_true rfl⟩ ?_
      refine v_iload K 0 dX9_returned_61 rfl ?_
      exact v_iret K rfl dX9_returned_63 (ev_q hf) (ew_q hf)
set_option maxRecDepth 20000 in
theorem c_X9_makeRoom {G : Gs} (hM : ModG E) {S S' : St}  {x1 : Int32} (hf : f_X9_makeRoom S x1 = some S') : Ctr l D E A yX9_makeRoom cX9_makeRoom 2 none (rmD 4) [.ref (eA E 1 0), .int x1] (wl E (va_up G 1 S)) none (wl E (va_up G 1 S')) := by
  refine Ctr.of (own := RX9) pn_X9 rfl (Nat.le_of_ble_eq_true rfl) ?_
  intro p e s m args below meth c K
  refine v_lv (lv' := [(0, .ref (eA E 1 0)), (1, .int x1)]) rfl ?_
  have L0 : ∀ (x1 : Int32), ∀ (n : Nat)  (S : St), f_X9_makeRoom_L0 x1 n S = some S' → VV p l e (rmD 4) s m args below meth c (MQ below (CQ D A none (wl E (va_up G 1 S'))) args s 0 0 A) D A 2 (0, 0) 0 [] [(0, .ref (eA E 1 0)), (1, .int x1)] (wl E (va_up G 1 S)) := by
    intro x1 n
    induction n with
    | zero =>
      intro S hf
      rw [f_X9_makeRoom_L0] at hf
      cases hf
    | succ n ih =>
      intro S hf
      rw [f_X9_makeRoom_L0] at hf
      refine v_aload_n K 0 dX9_makeRoom_0 rfl rfl ?_
      refine v_iload_n K 1 dX9_makeRoom_1 rfl rfl ?_
      refine v_iconst K dX9_makeRoom_2 ki_0 ?_
      obtain ⟨y1, hy1, hf⟩ := bd_el hf
      refine v_callWi (As := [.int x1, .int 0]) (rest := []) K mk_X9_49 dX9_makeRoom_3 (c_X9_ofR hM hy1) (hM 0 (by decide)) rfl rfl rfl rfl rfl (Nat.le_of_ble_eq_true rfl) ⟨rfl, rfl⟩ ⟨Nat.le_of_ble_eq_true rfl, Nat.le_of_ble_eq_true rfl⟩ ?_
      refine v_aload_n K 0 dX9_makeRoom_6 rfl rfl ?_
      refine g_get K fk_X9_7 dX9_makeRoom_7 (hM 0 (by decide)) rfl rfl ?_
      refine v_iconst K dX9_makeRoom_10 ki_2 ?_
      obtain ⟨hi11, hf⟩ := ix_el hf
      refine g_iald K dX9_makeRoom_11 (hM 1 (by decide)) rfl hi11 ?_
      refine v_icmp_lt (tgt := 25) K dX9_makeRoom_12 (by decide) (fun hc1 => ?_) (fun hc1 => ?_)
      · have hf := it_pos hc1 hf
        exact v_vret K rfl dX9_makeRoom_25 rfl (ew_o hf)
      · have hf := it_neg hc1 hf
        refine v_aload_n K 0 dX9_makeRoom_15 rfl rfl ?_
        refine v_iload_n K 1 dX9_makeRoom_16 rfl rfl ?_
        refine v_iconst K dX9_makeRoom_17 ki_0 ?_
        obtain ⟨y3, S2, hS2, hf⟩ := bdp_el hf
        refine v_callWi (As := [.int x1, .int 0]) (rest := []) K mk_X9_110 dX9_makeRoom_18 (c_X9_returned hM hS2) (hM 0 (by decide)) rfl rfl rfl rfl rfl (Nat.le_of_ble_eq_true rfl) ⟨rfl, rfl⟩ ⟨Nat.le_of_ble_eq_true rfl, Nat.le_of_ble_eq_true rfl⟩ ?_
        refine v_pop K dX9_makeRoom_21 rfl ?_
        refine v_goto (tgt := 0) K dX9_makeRoom_22 (by decide) ?_
        exact v_lsub [0, 1] rfl (ih S2 hf)
  unfold f_X9_makeRoom at hf
  refine v_lsub [0, 1] rfl ?_
  exact L0 x1 5000 S hf
set_option maxRecDepth 20000 in
theorem c_X9_ask {G : Gs} (hM : ModG E) {S S' : St}  {x1 : Int32} {x2 : Int32} (hf : f_X9_ask S x1 x2 = some S') : Ctr l D E A yX9_ask cX9_ask 3 none (rmD 5) [.ref (eA E 1 0), .int x1, .int x2] (wl E (va_up G 1 S)) none (wl E (va_up G 1 S')) := by
  refine Ctr.of (own := RX9) pn_X9 rfl (Nat.le_of_ble_eq_true rfl) ?_
  intro p e s m args below meth c K
  refine v_lv (lv' := [(0, .ref (eA E 1 0)), (1, .int x1), (2, .int x2)]) rfl ?_
  unfold f_X9_ask at hf
  refine v_aload_n K 0 dX9_ask_0 rfl rfl ?_
  refine v_iload_n K 1 dX9_ask_1 rfl rfl ?_
  obtain ⟨S1, hS1, hf⟩ := bd_el hf
  refine v_callWn (As := [.int x1]) (rest := []) K mk_X9_113 dX9_ask_2 (c_X9_makeRoom hM hS1) (hM 0 (by decide)) rfl rfl rfl rfl rfl (Nat.le_of_ble_eq_true rfl) ⟨rfl, rfl⟩ ⟨Nat.le_of_ble_eq_true rfl, Nat.le_of_ble_eq_true rfl⟩ ?_
  refine v_aload_n K 0 dX9_ask_5 rfl rfl ?_
  refine v_iload_n K 1 dX9_ask_6 rfl rfl ?_
  refine v_iload_n K 2 dX9_ask_7 rfl rfl ?_
  refine v_aload_n K 0 dX9_ask_8 rfl rfl ?_
  refine v_iload_n K 2 dX9_ask_9 rfl rfl ?_
  refine v_iconst K dX9_ask_10 ki_0 ?_
  obtain ⟨y2, hy2, hf⟩ := bd_el hf
  refine v_callWi (As := [.int x2, .int 0]) (rest := [.int x2, .int x1, .ref (eA E 1 0)]) K mk_X9_75 dX9_ask_11 (c_X9_ofN hM hy2) (hM 0 (by decide)) rfl rfl rfl rfl rfl (Nat.le_of_ble_eq_true rfl) ⟨rfl, rfl⟩ ⟨Nat.le_of_ble_eq_true rfl, Nat.le_of_ble_eq_true rfl⟩ ?_
  refine v_iconst K dX9_ask_14 ki_0 ?_
  obtain ⟨S3, hS3, hf⟩ := bd_el hf
  refine v_callWn (As := [.int x1, .int x2, .int y2, .int 0]) (rest := []) K mk_X9_69 dX9_ask_15 (c_X9_layOn hM hS3) (hM 0 (by decide)) rfl rfl rfl rfl rfl (Nat.le_of_ble_eq_true rfl) ⟨rfl, rfl⟩ ⟨Nat.le_of_ble_eq_true rfl, Nat.le_of_ble_eq_true rfl⟩ ?_
  refine v_aload_n K 0 dX9_ask_18 rfl rfl ?_
  refine g_get K fk_X9_7 dX9_ask_19 (hM 0 (by decide)) rfl rfl ?_
  refine v_iconst K dX9_ask_22 ki_4 ?_
  refine v_dup2 K dX9_ask_23 rfl rfl ?_
  obtain ⟨hi24, hf⟩ := ix_el hf
  refine g_iald K dX9_ask_24 (hM 1 (by decide)) rfl hi24 ?_
  refine v_iconst K dX9_ask_25 ki_2 ?_
  refine v_iadd K dX9_ask_26 ?_
  obtain ⟨hi27, hf⟩ := ix_el hf
  obtain ⟨S4, hS4, hf⟩ := bnd_el hf
  refine g_iast K dX9_ask_27 (hM 1 (by decide)) (fun _ => rfl) hi27 hS4 ?_
  exact v_vret K rfl dX9_ask_28 rfl (ew_o hf)
set_option maxRecDepth 20000 in
theorem c_X9_reads {G : Gs} (hM : ModG E) {S S' : St}  {x1 : Int32} {x2 : Int32} {r : Int32} (hf : f_X9_reads S x1 x2 = some (r, S')) : Ctr l D E A yX9_reads cX9_reads 4 (some .int) (rmD 6) [.ref (eA E 1 0), .int x1, .int x2] (wl E (va_up G 1 S)) (some (.int r)) (wl E (va_up G 1 S')) := by
  refine Ctr.of (own := RX9) pn_X9 rfl (Nat.le_of_ble_eq_true rfl) ?_
  intro p e s m args below meth c K
  refine v_lv (lv' := [(0, .ref (eA E 1 0)), (1, .int x1), (2, .int x2)]) rfl ?_
  unfold f_X9_reads at hf
  refine v_aload_n K 0 dX9_reads_0 rfl rfl ?_
  refine v_iload_n K 1 dX9_reads_1 rfl rfl ?_
  refine v_iconst K dX9_reads_2 ki_1 ?_
  refine v_iconst K dX9_reads_3 ki_1 ?_
  obtain ⟨S1, hS1, hf⟩ := bd_el hf
  refine v_callWn (As := [.int x1, .int 1, .int 1]) (rest := []) K mk_X9_57 dX9_reads_4 (c_X9_moreR hM hS1) (hM 0 (by decide)) rfl rfl rfl rfl rfl (Nat.le_of_ble_eq_true rfl) ⟨rfl, rfl⟩ ⟨Nat.le_of_ble_eq_true rfl, Nat.le_of_ble_eq_true rfl⟩ ?_
  refine v_aload_n K 0 dX9_reads_7 rfl rfl ?_
  refine v_iload_n K 1 dX9_reads_8 rfl rfl ?_
  refine v_iload_n K 2 dX9_reads_9 rfl rfl ?_
  obtain ⟨y2, hy2, hf⟩ := bd_el hf
  refine v_callWi (As := [.int x1, .int x2]) (rest := []) K mk_X9_95 dX9_reads_10 (c_X9_placeOf hM hy2) (hM 0 (by decide)) rfl rfl rfl rfl rfl (Nat.le_of_ble_eq_true rfl) ⟨rfl, rfl⟩ ⟨Nat.le_of_ble_eq_true rfl, Nat.le_of_ble_eq_true rfl⟩ ?_
  refine v_istore_n (lv' := [(3, .int y2), (0, .ref (eA E 1 0)), (1, .int x1), (2, .int x2)]) K dX9_reads_13 rfl (by decide) rfl ?_
  refine v_iload_n K 0 dX9_reads_14 rfl rfl ?_
  refine jn_1 (fun (S_69 : St) => VV p l e (rmD 6) s m args below meth c (MQ below (CQ D A (some (.int r)) (wl E (va_up G 1 S'))) args s 0 0 A) D A 4 (0, 0) 69 [] [(0, .ref (eA E 1 0)), (1, .int x1)] (wl E (va_up G 1 S_69))) hf (fun S_69 hf => ?_) (fun hj3 hf => ?_)
  · refine v_aload_n K 0 dX9_reads_69 rfl rfl ?_
    refine v_iload_n K 1 dX9_reads_70 rfl rfl ?_
    refine v_aload_n K 0 dX9_reads_71 rfl rfl ?_
    refine v_iload_n K 1 dX9_reads_72 rfl rfl ?_
    refine v_iconst K dX9_reads_73 ki_0 ?_
    obtain ⟨y4, hy4, hf⟩ := bd_el hf
    refine v_callWi (As := [.int x1, .int 0]) (rest := [.int x1, .ref (eA E 1 0)]) K mk_X9_49 dX9_reads_74 (c_X9_ofR hM hy4) (hM 0 (by decide)) rfl rfl rfl rfl rfl (Nat.le_of_ble_eq_true rfl) ⟨rfl, rfl⟩ ⟨Nat.le_of_ble_eq_true rfl, Nat.le_of_ble_eq_true rfl⟩ ?_
    refine v_iconst K dX9_reads_77 ki_1 ?_
    refine v_isub K dX9_reads_78 ?_
    refine v_iconst K dX9_reads_79 ki_1 ?_
    obtain ⟨y5, hy5, hf⟩ := bd_el hf
    refine v_callWi (As := [.int x1, .int (y4 - 1), .int 1]) (rest := []) K mk_X9_53 dX9_reads_80 (c_X9_ofC hM hy5) (hM 0 (by decide)) rfl rfl rfl rfl rfl (Nat.le_of_ble_eq_true rfl) ⟨rfl, rfl⟩ ⟨Nat.le_of_ble_eq_true rfl, Nat.le_of_ble_eq_true rfl⟩ ?_
    exact v_iret K rfl dX9_reads_83 (ev_q hf) (ew_q hf)
  · refine v_if_lt (tgt := 34) K dX9_reads_15 (by decide) (fun hc1 => ?_) (fun hc1 => ?_)
    · have hf := it_pos hc1 hf
      refine v_aload_n K 1 dX9_reads_34 rfl rfl ?_
      refine v_iload_n K 3 dX9_reads_35 rfl rfl ?_
      refine v_iconst K dX9_reads_36 ki_1 ?_
      obtain ⟨y6, hy6, hf⟩ := bd_el hf
      refine v_callWi (As := [.int x2, .int 1]) (rest := []) K mk_X9_75 dX9_reads_37 (c_X9_ofN hM hy6) (hM 0 (by decide)) rfl rfl rfl rfl rfl (Nat.le_of_ble_eq_true rfl) ⟨rfl, rfl⟩ ⟨Nat.le_of_ble_eq_true rfl, Nat.le_of_ble_eq_true rfl⟩ ?_
      refine v_iconst K dX9_reads_40 ki_3 ?_
      refine jn_1 (fun (S_57 : St) => VV p l e (rmD 6) s m args below meth c (MQ below (CQ D A (some (.int r)) (wl E (va_up G 1 S'))) args s 0 0 A) D A 4 (0, 0) 57 [] [(0, .ref (eA E 1 0)), (1, .int x1), (2, .int x2)] (wl E (va_up G 1 S_57))) hf (fun S_57 hf => ?_) (fun hj7 hf => ?_)
      · refine v_aload_n K 0 dX9_reads_57 rfl rfl ?_
        refine v_iload_n K 1 dX9_reads_58 rfl rfl ?_
        refine v_iload_n K 2 dX9_reads_59 rfl rfl ?_
        obtain ⟨S8, hS8, hf⟩ := bd_el hf
        refine v_callWn (As := [.int x1, .int x2]) (rest := []) K mk_X9_123 dX9_reads_60 (c_X9_ask hM hS8) (hM 0 (by decide)) rfl rfl rfl rfl rfl (Nat.le_of_ble_eq_true rfl) ⟨rfl, rfl⟩ ⟨Nat.le_of_ble_eq_true rfl, Nat.le_of_ble_eq_true rfl⟩ ?_
        refine v_aload_n K 0 dX9_reads_63 rfl rfl ?_
        refine v_iload_n K 2 dX9_reads_64 rfl rfl ?_
        refine v_iload_n K 1 dX9_reads_65 rfl rfl ?_
        obtain ⟨S9, hS9, hf⟩ := bd_el hf
        refine v_callWn (As := [.int x2, .int x1]) (rest := []) K mk_X9_126 dX9_reads_66 (c_X9_writeOn hM hS9) (hM 0 (by decide)) rfl rfl rfl rfl rfl (Nat.le_of_ble_eq_true rfl) ⟨rfl, rfl⟩ ⟨Nat.le_of_ble_eq_true rfl, Nat.le_of_ble_eq_true rfl⟩ ?_
        exact v_lsub [0, 1] rfl (hj3 S9 hf)
      · refine v_icmp_ne (tgt := 57) K dX9_reads_41 (by decide) (fun hc2 => ?_) (fun hc2 => ?_)
        · have hf := it_neg hc2 hf
          exact v_lsub [1, 2, 3] rfl (hj7 S1 hf)
        · have hf := it_pos hc2 hf
          refine v_aload_n K 1 dX9_reads_44 rfl rfl ?_
          refine v_iload_n K 3 dX9_reads_45 rfl rfl ?_
          refine v_iload_n K 2 dX9_reads_46 rfl rfl ?_
          obtain ⟨S10, hS10, hf⟩ := bd_el hf
          refine v_callWn (As := [.int x2, .int x1]) (rest := []) K mk_X9_120 dX9_reads_47 (c_X9_callBackBut hM hS10) (hM 0 (by decide)) rfl rfl rfl rfl rfl (Nat.le_of_ble_eq_true rfl) ⟨rfl, rfl⟩ ⟨Nat.le_of_ble_eq_true rfl, Nat.le_of_ble_eq_true rfl⟩ ?_
          refine v_aload_n K 1 dX9_reads_50 rfl rfl ?_
          refine v_iload_n K 3 dX9_reads_51 rfl rfl ?_
          refine v_iconst K dX9_reads_52 ki_0 ?_
          refine v_iconst K dX9_reads_53 ki_0 ?_
          obtain ⟨S11, hS11, hf⟩ := bd_el hf
          refine v_callWn (As := [.int x2, .int 0, .int 0]) (rest := []) K mk_X9_86 dX9_reads_54 (c_X9_layCard hM hS11) (hM 0 (by decide)) rfl rfl rfl rfl rfl (Nat.le_of_ble_eq_true rfl) ⟨rfl, rfl⟩ ⟨Nat.le_of_ble_eq_true rfl, Nat.le_of_ble_eq_true rfl⟩ ?_
          exact v_lsub [1, 2, 3] rfl (hj7 S11 hf)
    · have hf := it_neg hc1 hf
      refine v_aload_n K 1 dX9_reads_18 rfl rfl ?_
      refine v_iload_n K 2 dX9_reads_19 rfl rfl ?_
      refine v_iload_n K 0 dX9_reads_20 rfl rfl ?_
      obtain ⟨S12, hS12, hf⟩ := bd_el hf
      refine v_callWn (As := [.int x1, .int y2]) (rest := []) K mk_X9_117 dX9_reads_21 (c_X9_use hM hS12) (hM 0 (by decide)) rfl rfl rfl rfl rfl (Nat.le_of_ble_eq_true rfl) ⟨rfl, rfl⟩ ⟨Nat.le_of_ble_eq_true rfl, Nat.le_of_ble_eq_true rfl⟩ ?_
      refine v_aload_n K 1 dX9_reads_24 rfl rfl ?_
      refine v_iload_n K 2 dX9_reads_25 rfl rfl ?_
      refine v_iconst K dX9_reads_26 ki_2 ?_
      refine v_iconst K dX9_reads_27 ki_1 ?_
      obtain ⟨S13, hS13, hf⟩ := bd_el hf
      refine v_callWn (As := [.int x1, .int 2, .int 1]) (rest := []) K mk_X9_57 dX9_reads_28 (c_X9_moreR hM hS13) (hM 0 (by decide)) rfl rfl rfl rfl rfl (Nat.le_of_ble_eq_true rfl) ⟨rfl, rfl⟩ ⟨Nat.le_of_ble_eq_true rfl, Nat.le_of_ble_eq_true rfl⟩ ?_
      refine v_goto (tgt := 69) K dX9_reads_31 (by decide) ?_
      exact v_lsub [1, 2] rfl (hj3 S13 hf)
set_option maxRecDepth 20000 in
theorem c_X9_changes {G : Gs} (hM : ModG E) {S S' : St}  {x1 : Int32} {x2 : Int32} {x3 : Int32} {r : Int32} (hf : f_X9_changes S x1 x2 x3 = some (r, S')) : Ctr l D E A yX9_changes cX9_changes 6 (some .int) (rmD 6) [.ref (eA E 1 0), .int x1, .int x2, .int x3] (wl E (va_up G 1 S)) (some (.int r)) (wl E (va_up G 1 S')) := by
  refine Ctr.of (own := RX9) pn_X9 rfl (Nat.le_of_ble_eq_true rfl) ?_
  intro p e s m args below meth c K
  refine v_lv (lv' := [(0, .ref (eA E 1 0)), (1, .int x1), (2, .int x2), (3, .int x3)]) rfl ?_
  unfold f_X9_changes at hf
  refine v_aload_n K 0 dX9_changes_0 rfl rfl ?_
  refine g_get K fk_X9_7 dX9_changes_1 (hM 0 (by decide)) rfl rfl ?_
  refine v_iconst K dX9_changes_4 ki_4 ?_
  obtain ⟨hi5, hf⟩ := ix_el hf
  refine g_iald K dX9_changes_5 (hM 1 (by decide)) rfl hi5 ?_
  refine v_istore (lv' := [(4, .int (S 1 (4 : Int32).toNatClampNeg)), (0, .ref (eA E 1 0)), (1, .int x1), (2, .int x2), (3, .int x3)]) K dX9_changes_6 (by decide) rfl ?_
  refine v_aload_n K 1 dX9_changes_8 rfl rfl ?_
  refine v_iload_n K 2 dX9_changes_9 rfl rfl ?_
  refine v_iconst K dX9_changes_10 ki_1 ?_
  refine v_iconst K dX9_changes_11 ki_1 ?_
  obtain ⟨S1, hS1, hf⟩ := bd_el hf
  refine v_callWn (As := [.int x1, .int 1, .int 1]) (rest := []) K mk_X9_57 dX9_changes_12 (c_X9_moreR hM hS1) (hM 0 (by decide)) rfl rfl rfl rfl rfl (Nat.le_of_ble_eq_true rfl) ⟨rfl, rfl⟩ ⟨Nat.le_of_ble_eq_true rfl, Nat.le_of_ble_eq_true rfl⟩ ?_
  refine v_aload_n K 1 dX9_changes_15 rfl rfl ?_
  refine v_iload_n K 3 dX9_changes_16 rfl rfl ?_
  refine v_iconst K dX9_changes_17 ki_1 ?_
  obtain ⟨y2, hy2, hf⟩ := bd_el hf
  refine v_callWi (As := [.int x2, .int 1]) (rest := []) K mk_X9_75 dX9_changes_18 (c_X9_ofN hM hy2) (hM 0 (by decide)) rfl rfl rfl rfl rfl (Nat.le_of_ble_eq_true rfl) ⟨rfl, rfl⟩ ⟨Nat.le_of_ble_eq_true rfl, Nat.le_of_ble_eq_true rfl⟩ ?_
  refine v_iconst K dX9_changes_21 ki_3 ?_
  refine jn_1 (fun (S_113 : St) => VV p l e (rmD 6) s m args below meth c (MQ below (CQ D A (some (.int r)) (wl E (va_up G 1 S'))) args s 0 0 A) D A 6 (0, 0) 113 [] [(0, .ref (eA E 1 0)), (1, .int x1), (3, .int x3), (4, .int (S 1 (4 : Int32).toNatClampNeg))] (wl E (va_up G 1 S_113))) hf (fun S_113 hf => ?_) (fun hj3 hf => ?_)
  · refine v_aload_n K 0 dX9_changes_113 rfl rfl ?_
    refine v_iload_n K 1 dX9_changes_114 rfl rfl ?_
    refine v_iconst K dX9_changes_115 ki_0 ?_
    obtain ⟨y4, hy4, hf⟩ := bd_el hf
    refine v_callWi (As := [.int x1, .int 0]) (rest := []) K mk_X9_49 dX9_changes_116 (c_X9_ofR hM hy4) (hM 0 (by decide)) rfl rfl rfl rfl rfl (Nat.le_of_ble_eq_true rfl) ⟨rfl, rfl⟩ ⟨Nat.le_of_ble_eq_true rfl, Nat.le_of_ble_eq_true rfl⟩ ?_
    refine v_iconst K dX9_changes_119 ki_1 ?_
    refine v_isub K dX9_changes_120 ?_
    refine v_istore (lv' := [(5, .int (y4 - 1)), (0, .ref (eA E 1 0)), (1, .int x1), (3, .int x3), (4, .int (S 1 (4 : Int32).toNatClampNeg))]) K dX9_changes_121 (by decide) rfl ?_
    refine v_aload_n K 1 dX9_changes_123 rfl rfl ?_
    refine v_iload_n K 2 dX9_changes_124 rfl rfl ?_
    refine v_iload K 0 dX9_changes_125 rfl ?_
    refine v_iconst K dX9_changes_127 ki_1 ?_
    refine v_iload_n K 3 dX9_changes_128 rfl rfl ?_
    obtain ⟨S5, hS5, hf⟩ := bd_el hf
    refine v_callWn (As := [.int x1, .int (y4 - 1), .int 1, .int x3]) (rest := []) K mk_X9_61 dX9_changes_129 (c_X9_layC hM hS5) (hM 0 (by decide)) rfl rfl rfl rfl rfl (Nat.le_of_ble_eq_true rfl) ⟨rfl, rfl⟩ ⟨Nat.le_of_ble_eq_true rfl, Nat.le_of_ble_eq_true rfl⟩ ?_
    refine v_aload_n K 1 dX9_changes_132 rfl rfl ?_
    refine v_iload_n K 2 dX9_changes_133 rfl rfl ?_
    refine v_iload K 0 dX9_changes_134 rfl ?_
    refine v_iconst K dX9_changes_136 ki_2 ?_
    refine v_iconst K dX9_changes_137 ki_1 ?_
    obtain ⟨S6, hS6, hf⟩ := bd_el hf
    refine v_callWn (As := [.int x1, .int (y4 - 1), .int 2, .int 1]) (rest := []) K mk_X9_61 dX9_changes_138 (c_X9_layC hM hS6) (hM 0 (by decide)) rfl rfl rfl rfl rfl (Nat.le_of_ble_eq_true rfl) ⟨rfl, rfl⟩ ⟨Nat.le_of_ble_eq_true rfl, Nat.le_of_ble_eq_true rfl⟩ ?_
    refine v_aload_n K 1 dX9_changes_141 rfl rfl ?_
    refine g_get K fk_X9_7 dX9_changes_142 (hM 0 (by decide)) rfl rfl ?_
    refine v_iconst K dX9_changes_145 ki_4 ?_
    obtain ⟨hi146, hf⟩ := ix_el hf
    refine g_iald K dX9_changes_146 (hM 1 (by decide)) rfl hi146 ?_
    refine v_iload K 4 dX9_changes_147 rfl ?_
    refine v_isub K dX9_changes_149 ?_
    exact v_iret K rfl dX9_changes_150 (ev_q hf) (ew_q hf)
  · refine v_icmp_ne (tgt := 59) K dX9_changes_22 (by decide) (fun hc1 => ?_) (fun hc1 => ?_)
    · have hf := it_neg hc1 hf
      refine v_aload_n K 1 dX9_changes_59 rfl rfl ?_
      refine v_iload_n K 3 dX9_changes_60 rfl rfl ?_
      refine v_iload_n K 2 dX9_changes_61 rfl rfl ?_
      obtain ⟨S7, hS7, hf⟩ := bd_el hf
      refine v_callWn (As := [.int x2, .int x1]) (rest := []) K mk_X9_120 dX9_changes_62 (c_X9_callBackBut hM hS7) (hM 0 (by decide)) rfl rfl rfl rfl rfl (Nat.le_of_ble_eq_true rfl) ⟨rfl, rfl⟩ ⟨Nat.le_of_ble_eq_true rfl, Nat.le_of_ble_eq_true rfl⟩ ?_
      refine v_aload_n K 1 dX9_changes_65 rfl rfl ?_
      refine v_iload_n K 2 dX9_changes_66 rfl rfl ?_
      refine v_iload_n K 3 dX9_changes_67 rfl rfl ?_
      obtain ⟨y8, hy8, hf⟩ := bd_el hf
      refine v_callWi (As := [.int x1, .int x2]) (rest := []) K mk_X9_95 dX9_changes_68 (c_X9_placeOf hM hy8) (hM 0 (by decide)) rfl rfl rfl rfl rfl (Nat.le_of_ble_eq_true rfl) ⟨rfl, rfl⟩ ⟨Nat.le_of_ble_eq_true rfl, Nat.le_of_ble_eq_true rfl⟩ ?_
      refine jn_1 (fun (S_104 : St) => VV p l e (rmD 6) s m args below meth c (MQ below (CQ D A (some (.int r)) (wl E (va_up G 1 S'))) args s 0 0 A) D A 6 (0, 0) 104 [] [(0, .ref (eA E 1 0)), (1, .int x1), (2, .int x2), (3, .int x3), (4, .int (S 1 (4 : Int32).toNatClampNeg))] (wl E (va_up G 1 S_104))) hf (fun S_104 hf => ?_) (fun hj9 hf => ?_)
      · refine v_aload_n K 0 dX9_changes_104 rfl rfl ?_
        refine v_iload_n K 2 dX9_changes_105 rfl rfl ?_
        refine v_iconst K dX9_changes_106 ki_3 ?_
        refine v_iconst K dX9_changes_107 ki_1 ?_
        refine v_iload_n K 1 dX9_changes_108 rfl rfl ?_
        refine v_ishl K dX9_changes_109 ?_
        obtain ⟨S10, hS10, hf⟩ := bd_el hf
        refine v_callWn (As := [.int x2, .int 3, .int ((1 : Int32) <<< (x1 &&& 31))]) (rest := []) K mk_X9_86 dX9_changes_110 (c_X9_layCard hM hS10) (hM 0 (by decide)) rfl rfl rfl rfl rfl (Nat.le_of_ble_eq_true rfl) ⟨rfl, rfl⟩ ⟨Nat.le_of_ble_eq_true rfl, Nat.le_of_ble_eq_true rfl⟩ ?_
        exact v_lsub [0, 1, 3, 4] rfl (hj3 S10 hf)
      · refine v_if_ge (tgt := 83) K dX9_changes_71 (by decide) (fun hc2 => ?_) (fun hc2 => ?_)
        · have hf := it_pos hc2 hf
          refine v_aload_n K 1 dX9_changes_83 rfl rfl ?_
          refine v_iload_n K 2 dX9_changes_84 rfl rfl ?_
          refine v_aload_n K 1 dX9_changes_85 rfl rfl ?_
          refine v_iload_n K 2 dX9_changes_86 rfl rfl ?_
          refine v_iload_n K 3 dX9_changes_87 rfl rfl ?_
          obtain ⟨y11, hy11, hf⟩ := bd_el hf
          refine v_callWi (As := [.int x1, .int x2]) (rest := [.int x1, .ref (eA E 1 0)]) K mk_X9_95 dX9_changes_88 (c_X9_placeOf hM hy11) (hM 0 (by decide)) rfl rfl rfl rfl rfl (Nat.le_of_ble_eq_true rfl) ⟨rfl, rfl⟩ ⟨Nat.le_of_ble_eq_true rfl, Nat.le_of_ble_eq_true rfl⟩ ?_
          obtain ⟨S12, hS12, hf⟩ := bd_el hf
          refine v_callWn (As := [.int x1, .int y11]) (rest := []) K mk_X9_117 dX9_changes_91 (c_X9_use hM hS12) (hM 0 (by decide)) rfl rfl rfl rfl rfl (Nat.le_of_ble_eq_true rfl) ⟨rfl, rfl⟩ ⟨Nat.le_of_ble_eq_true rfl, Nat.le_of_ble_eq_true rfl⟩ ?_
          refine v_aload_n K 1 dX9_changes_94 rfl rfl ?_
          refine g_get K fk_X9_7 dX9_changes_95 (hM 0 (by decide)) rfl rfl ?_
          refine v_iconst K dX9_changes_98 ki_4 ?_
          refine v_dup2 K dX9_changes_99 rfl rfl ?_
          obtain ⟨hi100, hf⟩ := ix_el hf
          refine g_iald K dX9_changes_100 (hM 1 (by decide)) rfl hi100 ?_
          refine v_iconst K dX9_changes_101 ki_2 ?_
          refine v_iadd K dX9_changes_102 ?_
          obtain ⟨hi103, hf⟩ := ix_el hf
          obtain ⟨S13, hS13, hf⟩ := bnd_el hf
          refine g_iast K dX9_changes_103 (hM 1 (by decide)) (fun _ => rfl) hi103 hS13 ?_
          exact v_lsub [1, 2, 3, 4, 0] rfl (hj9 S13 hf)
        · have hf := it_neg hc2 hf
          refine v_aload_n K 1 dX9_changes_74 rfl rfl ?_
          refine v_iload_n K 2 dX9_changes_75 rfl rfl ?_
          refine v_iload_n K 3 dX9_changes_76 rfl rfl ?_
          obtain ⟨S14, hS14, hf⟩ := bd_el hf
          refine v_callWn (As := [.int x1, .int x2]) (rest := []) K mk_X9_123 dX9_changes_77 (c_X9_ask hM hS14) (hM 0 (by decide)) rfl rfl rfl rfl rfl (Nat.le_of_ble_eq_true rfl) ⟨rfl, rfl⟩ ⟨Nat.le_of_ble_eq_true rfl, Nat.le_of_ble_eq_true rfl⟩ ?_
          refine v_goto (tgt := 104) K dX9_changes_80 (by decide) ?_
          exact v_lsub [1, 2, 3, 4, 0] rfl (hj9 S14 hf)
    · have hf := it_pos hc1 hf
      refine v_aload_n K 1 dX9_changes_25 rfl rfl ?_
      refine v_iload_n K 3 dX9_changes_26 rfl rfl ?_
      refine v_iconst K dX9_changes_27 ki_2 ?_
      obtain ⟨y15, hy15, hf⟩ := bd_el hf
      refine v_callWi (As := [.int x2, .int 2]) (rest := []) K mk_X9_75 dX9_changes_28 (c_X9_ofN hM hy15) (hM 0 (by decide)) rfl rfl rfl rfl rfl (Nat.le_of_ble_eq_true rfl) ⟨rfl, rfl⟩ ⟨Nat.le_of_ble_eq_true rfl, Nat.le_of_ble_eq_true rfl⟩ ?_
      refine v_iload_n K 2 dX9_changes_31 rfl rfl ?_
      refine v_callSi (As := [.int y15, .int x1]) (rest := []) K mk_X9_82 dX9_changes_32 (c_X9_has  rfl) rfl rfl (Nat.le_of_ble_eq_true rfl) ⟨rfl, rfl⟩ ⟨Nat.le_of_ble_eq_true rfl, Nat.le_of_ble_eq_true rfl⟩ ?_
      refine v_if_eq (tgt := 59) K dX9_changes_35 (by decide) (fun hc3 => ?_) (fun hc3 => ?_)
      · have hf := it_pos hc3 hf
        refine v_aload_n K 1 dX9_changes_59 rfl rfl ?_
        refine v_iload_n K 3 dX9_changes_60 rfl rfl ?_
        refine v_iload_n K 2 dX9_changes_61 rfl rfl ?_
        obtain ⟨S16, hS16, hf⟩ := bd_el hf
        refine v_callWn (As := [.int x2, .int x1]) (rest := []) K mk_X9_120 dX9_changes_62 (c_X9_callBackBut hM hS16) (hM 0 (by decide)) rfl rfl rfl rfl rfl (Nat.le_of_ble_eq_true rfl) ⟨rfl, rfl⟩ ⟨Nat.le_of_ble_eq_true rfl, Nat.le_of_ble_eq_true rfl⟩ ?_
        refine v_aload_n K 1 dX9_changes_65 rfl rfl ?_
        refine v_iload_n K 2 dX9_changes_66 rfl rfl ?_
        refine v_iload_n K 3 dX9_changes_67 rfl rfl ?_
        obtain ⟨y17, hy17, hf⟩ := bd_el hf
        refine v_callWi (As := [.int x1, .int x2]) (rest := []) K mk_X9_95 dX9_changes_68 (c_X9_placeOf hM hy17) (hM 0 (by decide)) rfl rfl rfl rfl rfl (Nat.le_of_ble_eq_true rfl) ⟨rfl, rfl⟩ ⟨Nat.le_of_ble_eq_true rfl, Nat.le_of_ble_eq_true rfl⟩ ?_
        refine jn_1 (fun (S_104 : St) => VV p l e (rmD 6) s m args below meth c (MQ below (CQ D A (some (.int r)) (wl E (va_up G 1 S'))) args s 0 0 A) D A 6 (0, 0) 104 [] [(0, .ref (eA E 1 0)), (1, .int x1), (2, .int x2), (3, .int x3), (4, .int (S 1 (4 : Int32).toNatClampNeg))] (wl E (va_up G 1 S_104))) hf (fun S_104 hf => ?_) (fun hj18 hf => ?_)
        · refine v_aload_n K 0 dX9_changes_104 rfl rfl ?_
          refine v_iload_n K 2 dX9_changes_105 rfl rfl ?_
          refine v_iconst K dX9_changes_106 ki_3 ?_
          refine v_iconst K dX9_changes_107 ki_1 ?_
          refine v_iload_n K 1 dX9_changes_108 rfl rfl ?_
          refine v_ishl K dX9_changes_109 ?_
          obtain ⟨S19, hS19, hf⟩ := bd_el hf
          refine v_callWn (As := [.int x2, .int 3, .int ((1 : Int32) <<< (x1 &&& 31))]) (rest := []) K mk_X9_86 dX9_changes_110 (c_X9_layCard hM hS19) (hM 0 (by decide)) rfl rfl rfl rfl rfl (Nat.le_of_ble_eq_true rfl) ⟨rfl, rfl⟩ ⟨Nat.le_of_ble_eq_true rfl, Nat.le_of_ble_eq_true rfl⟩ ?_
          exact v_lsub [0, 1, 3, 4] rfl (hj3 S19 hf)
        · refine v_if_ge (tgt := 83) K dX9_changes_71 (by decide) (fun hc4 => ?_) (fun hc4 => ?_)
          · have hf := it_pos hc4 hf
            refine v_aload_n K 1 dX9_changes_83 rfl rfl ?_
            refine v_iload_n K 2 dX9_changes_84 rfl rfl ?_
            refine v_aload_n K 1 dX9_changes_85 rfl rfl ?_
            refine v_iload_n K 2 dX9_changes_86 rfl rfl ?_
            refine v_iload_n K 3 dX9_changes_87 rfl rfl ?_
            obtain ⟨y20, hy20, hf⟩ := bd_el hf
            refine v_callWi (As := [.int x1, .int x2]) (rest := [.int x1, .ref (eA E 1 0)]) K mk_X9_95 dX9_changes_88 (c_X9_placeOf hM hy20) (hM 0 (by decide)) rfl rfl rfl rfl rfl (Nat.le_of_ble_eq_true rfl) ⟨rfl, rfl⟩ ⟨Nat.le_of_ble_eq_true rfl, Nat.le_of_ble_eq_true rfl⟩ ?_
            obtain ⟨S21, hS21, hf⟩ := bd_el hf
            refine v_callWn (As := [.int x1, .int y20]) (rest := []) K mk_X9_117 dX9_changes_91 (c_X9_use hM hS21) (hM 0 (by decide)) rfl rfl rfl rfl rfl (Nat.le_of_ble_eq_true rfl) ⟨rfl, rfl⟩ ⟨Nat.le_of_ble_eq_true rfl, Nat.le_of_ble_eq_true rfl⟩ ?_
            refine v_aload_n K 1 dX9_changes_94 rfl rfl ?_
            refine g_get K fk_X9_7 dX9_changes_95 (hM 0 (by decide)) rfl rfl ?_
            refine v_iconst K dX9_changes_98 ki_4 ?_
            refine v_dup2 K dX9_changes_99 rfl rfl ?_
            obtain ⟨hi100, hf⟩ := ix_el hf
            refine g_iald K dX9_changes_100 (hM 1 (by decide)) rfl hi100 ?_
            refine v_iconst K dX9_changes_101 ki_2 ?_
            refine v_iadd K dX9_changes_102 ?_
            obtain ⟨hi103, hf⟩ := ix_el hf
            obtain ⟨S22, hS22, hf⟩ := bnd_el hf
            refine g_iast K dX9_changes_103 (hM 1 (by decide)) (fun _ => rfl) hi103 hS22 ?_
            exact v_lsub [1, 2, 3, 4, 0] rfl (hj18 S22 hf)
          · have hf := it_neg hc4 hf
            refine v_aload_n K 1 dX9_changes_74 rfl rfl ?_
            refine v_iload_n K 2 dX9_changes_75 rfl rfl ?_
            refine v_iload_n K 3 dX9_changes_76 rfl rfl ?_
            obtain ⟨S23, hS23, hf⟩ := bd_el hf
            refine v_callWn (As := [.int x1, .int x2]) (rest := []) K mk_X9_123 dX9_changes_77 (c_X9_ask hM hS23) (hM 0 (by decide)) rfl rfl rfl rfl rfl (Nat.le_of_ble_eq_true rfl) ⟨rfl, rfl⟩ ⟨Nat.le_of_ble_eq_true rfl, Nat.le_of_ble_eq_true rfl⟩ ?_
            refine v_goto (tgt := 104) K dX9_changes_80 (by decide) ?_
            exact v_lsub [1, 2, 3, 4, 0] rfl (hj18 S23 hf)
      · have hf := it_neg hc3 hf
        refine v_aload_n K 1 dX9_changes_38 rfl rfl ?_
        refine v_iload_n K 2 dX9_changes_39 rfl rfl ?_
        refine v_aload_n K 1 dX9_changes_40 rfl rfl ?_
        refine v_iload_n K 2 dX9_changes_41 rfl rfl ?_
        refine v_iload_n K 3 dX9_changes_42 rfl rfl ?_
        obtain ⟨y24, hy24, hf⟩ := bd_el hf
        refine v_callWi (As := [.int x1, .int x2]) (rest := [.int x1, .ref (eA E 1 0)]) K mk_X9_95 dX9_changes_43 (c_X9_placeOf hM hy24) (hM 0 (by decide)) rfl rfl rfl rfl rfl (Nat.le_of_ble_eq_true rfl) ⟨rfl, rfl⟩ ⟨Nat.le_of_ble_eq_true rfl, Nat.le_of_ble_eq_true rfl⟩ ?_
        obtain ⟨S25, hS25, hf⟩ := bd_el hf
        refine v_callWn (As := [.int x1, .int y24]) (rest := []) K mk_X9_117 dX9_changes_46 (c_X9_use hM hS25) (hM 0 (by decide)) rfl rfl rfl rfl rfl (Nat.le_of_ble_eq_true rfl) ⟨rfl, rfl⟩ ⟨Nat.le_of_ble_eq_true rfl, Nat.le_of_ble_eq_true rfl⟩ ?_
        refine v_aload_n K 1 dX9_changes_49 rfl rfl ?_
        refine v_iload_n K 2 dX9_changes_50 rfl rfl ?_
        refine v_iconst K dX9_changes_51 ki_2 ?_
        refine v_iconst K dX9_changes_52 ki_1 ?_
        obtain ⟨S26, hS26, hf⟩ := bd_el hf
        refine v_callWn (As := [.int x1, .int 2, .int 1]) (rest := []) K mk_X9_57 dX9_changes_53 (c_X9_moreR hM hS26) (hM 0 (by decide)) rfl rfl rfl rfl rfl (Nat.le_of_ble_eq_true rfl) ⟨rfl, rfl⟩ ⟨Nat.le_of_ble_eq_true rfl, Nat.le_of_ble_eq_true rfl⟩ ?_
        refine v_goto (tgt := 113) K dX9_changes_56 (by decide) ?_
        exact v_lsub [1, 2, 4, 0] rfl (hj3 S26 hf)
set_option maxRecDepth 20000 in
theorem c_X9_enter {G : Gs} (hM : ModG E) {S S' : St}  {x1 : Int32} {x2 : Int32} {x3 : Int32} (hf : f_X9_enter S x1 x2 x3 = some S') : Ctr l D E A yX9_enter cX9_enter 5 none (rmD 0) [.ref (eA E 1 0), .int x1, .int x2, .int x3] (wl E (va_up G 1 S)) none (wl E (va_up G 1 S')) := by
  refine Ctr.of (own := RX9) pn_X9 rfl (Nat.le_of_ble_eq_true rfl) ?_
  intro p e s m args below meth c K
  refine v_lv (lv' := [(0, .ref (eA E 1 0)), (1, .int x1), (2, .int x2), (3, .int x3)]) rfl ?_
  have L28 : ∀ (x1 : Int32) (x2 : Int32) (x3 : Int32), ∀ (k : Int32 → St → Option (St)), (∀ (x4 : Int32) (S : St), k x4 S = some S' → VV p l e (rmD 0) s m args below meth c (MQ below (CQ D A none (wl E (va_up G 1 S'))) args s 0 0 A) D A 5 (0, 0) 66 [] [(0, .ref (eA E 1 0)), (1, .int x1), (2, .int x2), (3, .int x3)] (wl E (va_up G 1 S))) → ∀ (n : Nat) (x4 : Int32) (S : St), f_X9_enter_L28 x1 x2 x3 k n x4 S = some S' → VV p l e (rmD 0) s m args below meth c (MQ below (CQ D A none (wl E (va_up G 1 S'))) args s 0 0 A) D A 5 (0, 0) 28 [] [(0, .ref (eA E 1 0)), (1, .int x1), (2, .int x2), (3, .int x3), (4, .int x4)] (wl E (va_up G 1 S)) := by
    intro x1 x2 x3 k hk n
    induction n with
    | zero =>
      intro x4 S hf
      rw [f_X9_enter_L28] at hf
      cases hf
    | succ n ih =>
      intro x4 S hf
      rw [f_X9_enter_L28] at hf
      refine v_iload K 4 dX9_enter_28 rfl ?_
      refine v_sipush K dX9_enter_30 ks_592 ?_
      refine v_aload_n K 0 dX9_enter_33 rfl rfl ?_
      refine g_get K fk_X9_7 dX9_enter_34 (hM 0 (by decide)) rfl rfl ?_
      refine v_bipush K dX9_enter_37 kb_7 ?_
      obtain ⟨hi39, hf⟩ := ix_el hf
      refine g_iald K dX9_enter_39 (hM 1 (by decide)) rfl hi39 ?_
      refine v_iadd K dX9_enter_40 ?_
      refine v_icmp_ge (tgt := 66) K dX9_enter_41 (by decide) (fun hc2 => ?_) (fun hc2 => ?_)
      · have hf := it_pos hc2 hf
        exact v_lsub [0, 1, 2, 3] rfl (hk x4 S hf)
      · have hf := it_neg hc2 hf
        refine v_aload_n K 0 dX9_enter_44 rfl rfl ?_
        refine g_get K fk_X9_7 dX9_enter_45 (hM 0 (by decide)) rfl rfl ?_
        refine v_iload K 4 dX9_enter_48 rfl ?_
        refine v_aload_n K 0 dX9_enter_50 rfl rfl ?_
        refine g_get K fk_X9_7 dX9_enter_51 (hM 0 (by decide)) rfl rfl ?_
        refine v_iload K 4 dX9_enter_54 rfl ?_
        refine v_iconst K dX9_enter_56 ki_1 ?_
        refine v_iadd K dX9_enter_57 ?_
        obtain ⟨hi58, hf⟩ := ix_el hf
        refine g_iald K dX9_enter_58 (hM 1 (by decide)) rfl hi58 ?_
        obtain ⟨hi59, hf⟩ := ix_el hf
        obtain ⟨S5, hS5, hf⟩ := bnd_el hf
        refine g_iast K dX9_enter_59 (hM 1 (by decide)) (fun _ => rfl) hi59 hS5 ?_
        refine v_iinc (v := x4 + 1) (lv' := [(4, .int (x4 + 1)), (0, .ref (eA E 1 0)), (1, .int x1), (2, .int x2), (3, .int x3)]) K 4 dX9_enter_60 rfl rfl (by decide) rfl ?_
        refine v_goto (tgt := 28) K dX9_enter_63 (by decide) ?_
        exact v_lsub [1, 2, 3, 4, 0] rfl (ih (x4 + 1) S5 hf)
  unfold f_X9_enter at hf
  refine v_aload_n K 0 dX9_enter_0 rfl rfl ?_
  refine g_get K fk_X9_7 dX9_enter_1 (hM 0 (by decide)) rfl rfl ?_
  refine v_bipush K dX9_enter_4 kb_7 ?_
  obtain ⟨hi6, hf⟩ := ix_el hf
  refine g_iald K dX9_enter_6 (hM 1 (by decide)) rfl hi6 ?_
  refine v_bipush K dX9_enter_7 kb_60 ?_
  refine jn_1 (fun (S_66 : St) => VV p l e (rmD 0) s m args below meth c (MQ below (CQ D A none (wl E (va_up G 1 S'))) args s 0 0 A) D A 5 (0, 0) 66 [] [(0, .ref (eA E 1 0)), (1, .int x1), (2, .int x2), (3, .int x3)] (wl E (va_up G 1 S_66))) hf (fun S_66 hf => ?_) (fun hj1 hf => ?_)
  · refine v_aload_n K 0 dX9_enter_66 rfl rfl ?_
    refine g_get K fk_X9_7 dX9_enter_67 (hM 0 (by decide)) rfl rfl ?_
    refine v_sipush K dX9_enter_70 ks_592 ?_
    refine v_aload_n K 0 dX9_enter_73 rfl rfl ?_
    refine g_get K fk_X9_7 dX9_enter_74 (hM 0 (by decide)) rfl rfl ?_
    refine v_bipush K dX9_enter_77 kb_7 ?_
    obtain ⟨hi79, hf⟩ := ix_el hf
    refine g_iald K dX9_enter_79 (hM 1 (by decide)) rfl hi79 ?_
    refine v_iadd K dX9_enter_80 ?_
    refine v_iconst K dX9_enter_81 ki_2 ?_
    refine v_bipush K dX9_enter_82 kb_24 ?_
    refine v_iload_n K 1 dX9_enter_84 rfl rfl ?_
    refine v_imul K dX9_enter_85 ?_
    refine v_iload_n K 2 dX9_enter_86 rfl rfl ?_
    refine v_iadd K dX9_enter_87 ?_
    refine v_imul K dX9_enter_88 ?_
    refine v_iload_n K 3 dX9_enter_89 rfl rfl ?_
    refine v_iadd K dX9_enter_90 ?_
    obtain ⟨hi91, hf⟩ := ix_el hf
    obtain ⟨S2, hS2, hf⟩ := bnd_el hf
    refine g_iast K dX9_enter_91 (hM 1 (by decide)) (fun _ => rfl) hi91 hS2 ?_
    refine v_aload_n K 0 dX9_enter_92 rfl rfl ?_
    refine g_get K fk_X9_7 dX9_enter_93 (hM 0 (by decide)) rfl rfl ?_
    refine v_bipush K dX9_enter_96 kb_7 ?_
    refine v_dup2 K dX9_enter_98 rfl rfl ?_
    obtain ⟨hi99, hf⟩ := ix_el hf
    refine g_iald K dX9_enter_99 (hM 1 (by decide)) rfl hi99 ?_
    refine v_iconst K dX9_enter_100 ki_1 ?_
    refine v_iadd K dX9_enter_101 ?_
    obtain ⟨hi102, hf⟩ := ix_el hf
    obtain ⟨S3, hS3, hf⟩ := bnd_el hf
    refine g_iast K dX9_enter_102 (hM 1 (by decide)) (fun _ => rfl) hi102 hS3 ?_
    exact v_vret K rfl dX9_enter_103 rfl (ew_o hf)
  · refine v_icmp_ne (tgt := 66) K dX9_enter_9 (by decide) (fun hc1 => ?_) (fun hc1 => ?_)
    · have hf := it_neg hc1 hf
      exact v_lsub [0, 1, 2, 3] rfl (hj1 S hf)
    · have hf := it_pos hc1 hf
      refine v_aload_n K 0 dX9_enter_12 rfl rfl ?_
      refine g_get K fk_X9_7 dX9_enter_13 (hM 0 (by decide)) rfl rfl ?_
      refine v_bipush K dX9_enter_16 kb_7 ?_
      refine v_dup2 K dX9_enter_18 rfl rfl ?_
      obtain ⟨hi19, hf⟩ := ix_el hf
      refine g_iald K dX9_enter_19 (hM 1 (by decide)) rfl hi19 ?_
      refine v_iconst K dX9_enter_20 ki_1 ?_
      refine v_isub K dX9_enter_21 ?_
      obtain ⟨hi22, hf⟩ := ix_el hf
      obtain ⟨S4, hS4, hf⟩ := bnd_el hf
      refine g_iast K dX9_enter_22 (hM 1 (by decide)) (fun _ => rfl) hi22 hS4 ?_
      refine v_sipush K dX9_enter_23 ks_592 ?_
      refine v_istore (lv' := [(4, .int 592), (0, .ref (eA E 1 0)), (1, .int x1), (2, .int x2), (3, .int x3)]) K dX9_enter_26 (by decide) rfl ?_
      refine v_lsub [1, 2, 3, 4, 0] rfl ?_
      refine L28 x1 x2 x3 _ ?_ 5000 592 S4 hf
      intro x4_66 S_66 hf
      exact v_lsub [0, 1, 2, 3] rfl (hj1 S_66 hf)
set_option maxRecDepth 20000 in
theorem c_X9_tryRead {G : Gs} (hM : ModG E) {S S' : St}  {x1 : Int32} {x2 : Int32} {x3 : Int32} {r : Int32} (hf : f_X9_tryRead S x1 x2 x3 = some (r, S')) : Ctr l D E A yX9_tryRead cX9_tryRead 4 (some .int) (rmD 7) [.ref (eA E 1 0), .int x1, .int x2, .int x3] (wl E (va_up G 1 S)) (some (.int r)) (wl E (va_up G 1 S')) := by
  refine Ctr.of (own := RX9) pn_X9 rfl (Nat.le_of_ble_eq_true rfl) ?_
  intro p e s m args below meth c K
  refine v_lv (lv' := [(0, .ref (eA E 1 0)), (1, .int x1), (2, .int x2), (3, .int x3)]) rfl ?_
  unfold f_X9_tryRead at hf
  refine v_iload_n K 1 dX9_tryRead_0 rfl rfl ?_
  refine v_callSi (As := [.int x1]) (rest := []) K mk_X9_129 dX9_tryRead_1 (c_X9_isReader  rfl) rfl rfl (Nat.le_of_ble_eq_true rfl) ⟨rfl, rfl⟩ ⟨Nat.le_of_ble_eq_true rfl, Nat.le_of_ble_eq_true rfl⟩ ?_
  refine v_if_eq (tgt := 14) K dX9_tryRead_4 (by decide) (fun hc1 => ?_) (fun hc1 => ?_)
  · have hf := it_pos hc1 hf
    refine v_iconst K dX9_tryRead_14 ki_m1 ?_
    exact v_iret K rfl dX9_tryRead_15 (ev_q hf) (ew_q hf)
  · have hf := it_neg hc1 hf
    refine v_iload_n K 2 dX9_tryRead_7 rfl rfl ?_
    refine v_callSi (As := [.int x2]) (rest := []) K mk_X9_133 dX9_tryRead_8 (c_X9_isNote  rfl) rfl rfl (Nat.le_of_ble_eq_true rfl) ⟨rfl, rfl⟩ ⟨Nat.le_of_ble_eq_true rfl, Nat.le_of_ble_eq_true rfl⟩ ?_
    refine v_if_ne (tgt := 16) K dX9_tryRead_11 (by decide) (fun hc2 => ?_) (fun hc2 => ?_)
    · have hf := it_neg hc2 hf
      refine v_aload_n K 0 dX9_tryRead_16 rfl rfl ?_
      refine v_iload_n K 3 dX9_tryRead_17 rfl rfl ?_
      obtain ⟨S1, hS1, hf⟩ := bd_el hf
      refine v_callWn (As := [.int x3]) (rest := []) K mk_X9_136 dX9_tryRead_18 (c_X9_keepIf hM hS1) (hM 0 (by decide)) rfl rfl rfl rfl rfl (Nat.le_of_ble_eq_true rfl) ⟨rfl, rfl⟩ ⟨Nat.le_of_ble_eq_true rfl, Nat.le_of_ble_eq_true rfl⟩ ?_
      refine v_aload_n K 0 dX9_tryRead_21 rfl rfl ?_
      refine v_iload_n K 1 dX9_tryRead_22 rfl rfl ?_
      refine v_iload_n K 2 dX9_tryRead_23 rfl rfl ?_
      refine v_iconst K dX9_tryRead_24 ki_0 ?_
      obtain ⟨S2, hS2, hf⟩ := bd_el hf
      refine v_callWn (As := [.int x1, .int x2, .int 0]) (rest := []) K mk_X9_140 dX9_tryRead_25 (c_X9_enter hM hS2) (hM 0 (by decide)) rfl rfl rfl rfl rfl (Nat.le_of_ble_eq_true rfl) ⟨rfl, rfl⟩ ⟨Nat.le_of_ble_eq_true rfl, Nat.le_of_ble_eq_true rfl⟩ ?_
      refine v_aload_n K 0 dX9_tryRead_28 rfl rfl ?_
      refine v_iload_n K 1 dX9_tryRead_29 rfl rfl ?_
      refine v_iload_n K 2 dX9_tryRead_30 rfl rfl ?_
      obtain ⟨y4, S3, hS3, hf⟩ := bdp_el hf
      refine v_callWi (As := [.int x1, .int x2]) (rest := []) K mk_X9_143 dX9_tryRead_31 (c_X9_reads hM hS3) (hM 0 (by decide)) rfl rfl rfl rfl rfl (Nat.le_of_ble_eq_true rfl) ⟨rfl, rfl⟩ ⟨Nat.le_of_ble_eq_true rfl, Nat.le_of_ble_eq_true rfl⟩ ?_
      exact v_iret K rfl dX9_tryRead_34 (ev_q hf) (ew_q hf)
    · have hf := it_pos hc2 hf
      refine v_iconst K dX9_tryRead_14 ki_m1 ?_
      exact v_iret K rfl dX9_tryRead_15 (ev_q hf) (ew_q hf)
set_option maxRecDepth 20000 in
theorem c_X9_read {G : Gs} (hM : ModG E) {S S' : St}  {x1 : Int32} {x2 : Int32} {r : Int32} (hf : f_X9_read S x1 x2 = some (r, S')) : Ctr l D E A yX9_read cX9_read 3 (some .int) (rmD 8) [.ref (eA E 1 0), .int x1, .int x2] (wl E (va_up G 1 S)) (some (.int r)) (wl E (va_up G 1 S')) := by
  refine Ctr.of (own := RX9) pn_X9 rfl (Nat.le_of_ble_eq_true rfl) ?_
  intro p e s m args below meth c K
  refine v_lv (lv' := [(0, .ref (eA E 1 0)), (1, .int x1), (2, .int x2)]) rfl ?_
  unfold f_X9_read at hf
  refine v_aload_n K 0 dX9_read_0 rfl rfl ?_
  refine v_iload_n K 1 dX9_read_1 rfl rfl ?_
  refine v_iload_n K 2 dX9_read_2 rfl rfl ?_
  refine v_iconst K dX9_read_3 ki_1 ?_
  obtain ⟨y2, S1, hS1, hf⟩ := bdp_el hf
  refine v_callWi (As := [.int x1, .int x2, .int 1]) (rest := []) K mk_X9_146 dX9_read_4 (c_X9_tryRead hM hS1) (hM 0 (by decide)) rfl rfl rfl rfl rfl (Nat.le_of_ble_eq_true rfl) ⟨rfl, rfl⟩ ⟨Nat.le_of_ble_eq_true rfl, Nat.le_of_ble_eq_true rfl⟩ ?_
  exact v_iret K rfl dX9_read_7 (ev_q hf) (ew_q hf)
set_option maxRecDepth 20000 in
theorem c_X9_tryChange {G : Gs} (hM : ModG E) {S S' : St}  {x1 : Int32} {x2 : Int32} {x3 : Int32} {x4 : Int32} {r : Int32} (hf : f_X9_tryChange S x1 x2 x3 x4 = some (r, S')) : Ctr l D E A yX9_tryChange cX9_tryChange 5 (some .int) (rmD 7) [.ref (eA E 1 0), .int x1, .int x2, .int x3, .int x4] (wl E (va_up G 1 S)) (some (.int r)) (wl E (va_up G 1 S')) := by
  refine Ctr.of (own := RX9) pn_X9 rfl (Nat.le_of_ble_eq_true rfl) ?_
  intro p e s m args below meth c K
  refine v_lv (lv' := [(0, .ref (eA E 1 0)), (1, .int x1), (2, .int x2), (3, .int x3), (4, .int x4)]) rfl ?_
  unfold f_X9_tryChange at hf
  refine v_iload_n K 1 dX9_tryChange_0 rfl rfl ?_
  refine v_callSi (As := [.int x1]) (rest := []) K mk_X9_129 dX9_tryChange_1 (c_X9_isReader  rfl) rfl rfl (Nat.le_of_ble_eq_true rfl) ⟨rfl, rfl⟩ ⟨Nat.le_of_ble_eq_true rfl, Nat.le_of_ble_eq_true rfl⟩ ?_
  refine v_if_eq (tgt := 14) K dX9_tryChange_4 (by decide) (fun hc1 => ?_) (fun hc1 => ?_)
  · have hf := it_pos hc1 hf
    refine v_iconst K dX9_tryChange_14 ki_m1 ?_
    exact v_iret K rfl dX9_tryChange_15 (ev_q hf) (ew_q hf)
  · have hf := it_neg hc1 hf
    refine v_iload_n K 2 dX9_tryChange_7 rfl rfl ?_
    refine v_callSi (As := [.int x2]) (rest := []) K mk_X9_133 dX9_tryChange_8 (c_X9_isNote  rfl) rfl rfl (Nat.le_of_ble_eq_true rfl) ⟨rfl, rfl⟩ ⟨Nat.le_of_ble_eq_true rfl, Nat.le_of_ble_eq_true rfl⟩ ?_
    refine v_if_ne (tgt := 16) K dX9_tryChange_11 (by decide) (fun hc2 => ?_) (fun hc2 => ?_)
    · have hf := it_neg hc2 hf
      refine v_iload_n K 3 dX9_tryChange_16 rfl rfl ?_
      refine v_iconst K dX9_tryChange_17 ki_0 ?_
      refine v_sipush K dX9_tryChange_18 ks_9999 ?_
      refine v_callSi (As := [.int x3, .int 0, .int 9999]) (rest := []) K mk_X9_35 dX9_tryChange_21 (c_X9_in  rfl) rfl rfl (Nat.le_of_ble_eq_true rfl) ⟨rfl, rfl⟩ ⟨Nat.le_of_ble_eq_true rfl, Nat.le_of_ble_eq_true rfl⟩ ?_
      refine v_if_ne (tgt := 30) K dX9_tryChange_24 (by decide) (fun hc3 => ?_) (fun hc3 => ?_)
      · have hf := it_neg hc3 hf
        refine v_aload_n K 0 dX9_tryChange_30 rfl rfl ?_
        refine v_iload K 4 dX9_tryChange_31 rfl ?_
        obtain ⟨S1, hS1, hf⟩ := bd_el hf
        refine v_callWn (As := [.int x4]) (rest := []) K mk_X9_136 dX9_tryChange_33 (c_X9_keepIf hM hS1) (hM 0 (by decide)) rfl rfl rfl rfl rfl (Nat.le_of_ble_eq_true rfl) ⟨rfl, rfl⟩ ⟨Nat.le_of_ble_eq_true rfl, Nat.le_of_ble_eq_true rfl⟩ ?_
        refine v_aload_n K 0 dX9_tryChange_36 rfl rfl ?_
        refine v_iload_n K 1 dX9_tryChange_37 rfl rfl ?_
        refine v_iload_n K 2 dX9_tryChange_38 rfl rfl ?_
        refine v_iconst K dX9_tryChange_39 ki_1 ?_
        obtain ⟨S2, hS2, hf⟩ := bd_el hf
        refine v_callWn (As := [.int x1, .int x2, .int 1]) (rest := []) K mk_X9_140 dX9_tryChange_40 (c_X9_enter hM hS2) (hM 0 (by decide)) rfl rfl rfl rfl rfl (Nat.le_of_ble_eq_true rfl) ⟨rfl, rfl⟩ ⟨Nat.le_of_ble_eq_true rfl, Nat.le_of_ble_eq_true rfl⟩ ?_
        refine v_aload_n K 0 dX9_tryChange_43 rfl rfl ?_
        refine v_iload_n K 1 dX9_tryChange_44 rfl rfl ?_
        refine v_iload_n K 2 dX9_tryChange_45 rfl rfl ?_
        refine v_iload_n K 3 dX9_tryChange_46 rfl rfl ?_
        obtain ⟨y4, S3, hS3, hf⟩ := bdp_el hf
        refine v_callWi (As := [.int x1, .int x2, .int x3]) (rest := []) K mk_X9_150 dX9_tryChange_47 (c_X9_changes hM hS3) (hM 0 (by decide)) rfl rfl rfl rfl rfl (Nat.le_of_ble_eq_true rfl) ⟨rfl, rfl⟩ ⟨Nat.le_of_ble_eq_true rfl, Nat.le_of_ble_eq_true rfl⟩ ?_
        exact v_iret K rfl dX9_tryChange_50 (ev_q hf) (ew_q hf)
      · have hf := it_pos hc3 hf
        refine v_bipush K dX9_tryChange_27 kb_m2 ?_
        exact v_iret K rfl dX9_tryChange_29 (ev_q hf) (ew_q hf)
    · have hf := it_pos hc2 hf
      refine v_iconst K dX9_tryChange_14 ki_m1 ?_
      exact v_iret K rfl dX9_tryChange_15 (ev_q hf) (ew_q hf)
set_option maxRecDepth 20000 in
theorem c_X9_change {G : Gs} (hM : ModG E) {S S' : St}  {x1 : Int32} {x2 : Int32} {x3 : Int32} {r : Int32} (hf : f_X9_change S x1 x2 x3 = some (r, S')) : Ctr l D E A yX9_change cX9_change 4 (some .int) (rmD 8) [.ref (eA E 1 0), .int x1, .int x2, .int x3] (wl E (va_up G 1 S)) (some (.int r)) (wl E (va_up G 1 S')) := by
  refine Ctr.of (own := RX9) pn_X9 rfl (Nat.le_of_ble_eq_true rfl) ?_
  intro p e s m args below meth c K
  refine v_lv (lv' := [(0, .ref (eA E 1 0)), (1, .int x1), (2, .int x2), (3, .int x3)]) rfl ?_
  unfold f_X9_change at hf
  refine v_aload_n K 0 dX9_change_0 rfl rfl ?_
  refine v_iload_n K 1 dX9_change_1 rfl rfl ?_
  refine v_iload_n K 2 dX9_change_2 rfl rfl ?_
  refine v_iload_n K 3 dX9_change_3 rfl rfl ?_
  refine v_iconst K dX9_change_4 ki_1 ?_
  obtain ⟨y2, S1, hS1, hf⟩ := bdp_el hf
  refine v_callWi (As := [.int x1, .int x2, .int x3, .int 1]) (rest := []) K mk_X9_153 dX9_change_5 (c_X9_tryChange hM hS1) (hM 0 (by decide)) rfl rfl rfl rfl rfl (Nat.le_of_ble_eq_true rfl) ⟨rfl, rfl⟩ ⟨Nat.le_of_ble_eq_true rfl, Nat.le_of_ble_eq_true rfl⟩ ?_
  exact v_iret K rfl dX9_change_8 (ev_q hf) (ew_q hf)
set_option maxRecDepth 20000 in
theorem c_X9_tryPutBack {G : Gs} (hM : ModG E) {S S' : St}  {x1 : Int32} {x2 : Int32} {x3 : Int32} {r : Int32} (hf : f_X9_tryPutBack S x1 x2 x3 = some (r, S')) : Ctr l D E A yX9_tryPutBack cX9_tryPutBack 5 (some .int) (rmD 4) [.ref (eA E 1 0), .int x1, .int x2, .int x3] (wl E (va_up G 1 S)) (some (.int r)) (wl E (va_up G 1 S')) := by
  refine Ctr.of (own := RX9) pn_X9 rfl (Nat.le_of_ble_eq_true rfl) ?_
  intro p e s m args below meth c K
  refine v_lv (lv' := [(0, .ref (eA E 1 0)), (1, .int x1), (2, .int x2), (3, .int x3)]) rfl ?_
  unfold f_X9_tryPutBack at hf
  refine v_iload_n K 1 dX9_tryPutBack_0 rfl rfl ?_
  refine v_callSi (As := [.int x1]) (rest := []) K mk_X9_129 dX9_tryPutBack_1 (c_X9_isReader  rfl) rfl rfl (Nat.le_of_ble_eq_true rfl) ⟨rfl, rfl⟩ ⟨Nat.le_of_ble_eq_true rfl, Nat.le_of_ble_eq_true rfl⟩ ?_
  refine v_if_eq (tgt := 14) K dX9_tryPutBack_4 (by decide) (fun hc1 => ?_) (fun hc1 => ?_)
  · have hf := it_pos hc1 hf
    refine v_iconst K dX9_tryPutBack_14 ki_m1 ?_
    exact v_iret K rfl dX9_tryPutBack_15 (ev_q hf) (ew_q hf)
  · have hf := it_neg hc1 hf
    refine v_iload_n K 2 dX9_tryPutBack_7 rfl rfl ?_
    refine v_callSi (As := [.int x2]) (rest := []) K mk_X9_133 dX9_tryPutBack_8 (c_X9_isNote  rfl) rfl rfl (Nat.le_of_ble_eq_true rfl) ⟨rfl, rfl⟩ ⟨Nat.le_of_ble_eq_true rfl, Nat.le_of_ble_eq_true rfl⟩ ?_
    refine v_if_ne (tgt := 16) K dX9_tryPutBack_11 (by decide) (fun hc2 => ?_) (fun hc2 => ?_)
    · have hf := it_neg hc2 hf
      refine v_aload_n K 0 dX9_tryPutBack_16 rfl rfl ?_
      refine v_iload_n K 1 dX9_tryPutBack_17 rfl rfl ?_
      refine v_iload_n K 2 dX9_tryPutBack_18 rfl rfl ?_
      obtain ⟨y1, hy1, hf⟩ := bd_el hf
      refine v_callWi (As := [.int x1, .int x2]) (rest := []) K mk_X9_95 dX9_tryPutBack_19 (c_X9_placeOf hM hy1) (hM 0 (by decide)) rfl rfl rfl rfl rfl (Nat.le_of_ble_eq_true rfl) ⟨rfl, rfl⟩ ⟨Nat.le_of_ble_eq_true rfl, Nat.le_of_ble_eq_true rfl⟩ ?_
      refine v_istore (lv' := [(4, .int y1), (0, .ref (eA E 1 0)), (1, .int x1), (2, .int x2), (3, .int x3)]) K dX9_tryPutBack_22 (by decide) rfl ?_
      refine v_iload K 0 dX9_tryPutBack_24 rfl ?_
      refine v_if_ge (tgt := 32) K dX9_tryPutBack_26 (by decide) (fun hc3 => ?_) (fun hc3 => ?_)
      · have hf := it_pos hc3 hf
        refine v_aload_n K 1 dX9_tryPutBack_32 rfl rfl ?_
        refine v_iload_n K 4 dX9_tryPutBack_33 rfl rfl ?_
        obtain ⟨S2, hS2, hf⟩ := bd_el hf
        refine v_callWn (As := [.int x3]) (rest := []) K mk_X9_136 dX9_tryPutBack_34 (c_X9_keepIf hM hS2) (hM 0 (by decide)) rfl rfl rfl rfl rfl (Nat.le_of_ble_eq_true rfl) ⟨rfl, rfl⟩ ⟨Nat.le_of_ble_eq_true rfl, Nat.le_of_ble_eq_true rfl⟩ ?_
        refine v_aload_n K 1 dX9_tryPutBack_37 rfl rfl ?_
        refine v_iload_n K 2 dX9_tryPutBack_38 rfl rfl ?_
        refine v_iload K 0 dX9_tryPutBack_39 rfl ?_
        obtain ⟨y4, S3, hS3, hf⟩ := bdp_el hf
        refine v_callWi (As := [.int x1, .int y1]) (rest := []) K mk_X9_110 dX9_tryPutBack_41 (c_X9_returned hM hS3) (hM 0 (by decide)) rfl rfl rfl rfl rfl (Nat.le_of_ble_eq_true rfl) ⟨rfl, rfl⟩ ⟨Nat.le_of_ble_eq_true rfl, Nat.le_of_ble_eq_true rfl⟩ ?_
        exact v_iret K rfl dX9_tryPutBack_44 (ev_q hf) (ew_q hf)
      · have hf := it_neg hc3 hf
        refine v_bipush K dX9_tryPutBack_29 kb_m5 ?_
        exact v_iret K rfl dX9_tryPutBack_31 (ev_q hf) (ew_q hf)
    · have hf := it_pos hc2 hf
      refine v_iconst K dX9_tryPutBack_14 ki_m1 ?_
      exact v_iret K rfl dX9_tryPutBack_15 (ev_q hf) (ew_q hf)
set_option maxRecDepth 20000 in
theorem c_X9_putBack {G : Gs} (hM : ModG E) {S S' : St}  {x1 : Int32} {x2 : Int32} {r : Int32} (hf : f_X9_putBack S x1 x2 = some (r, S')) : Ctr l D E A yX9_putBack cX9_putBack 3 (some .int) (rmD 5) [.ref (eA E 1 0), .int x1, .int x2] (wl E (va_up G 1 S)) (some (.int r)) (wl E (va_up G 1 S')) := by
  refine Ctr.of (own := RX9) pn_X9 rfl (Nat.le_of_ble_eq_true rfl) ?_
  intro p e s m args below meth c K
  refine v_lv (lv' := [(0, .ref (eA E 1 0)), (1, .int x1), (2, .int x2)]) rfl ?_
  unfold f_X9_putBack at hf
  refine v_aload_n K 0 dX9_putBack_0 rfl rfl ?_
  refine v_iload_n K 1 dX9_putBack_1 rfl rfl ?_
  refine v_iload_n K 2 dX9_putBack_2 rfl rfl ?_
  refine v_iconst K dX9_putBack_3 ki_1 ?_
  obtain ⟨y2, S1, hS1, hf⟩ := bdp_el hf
  refine v_callWi (As := [.int x1, .int x2, .int 1]) (rest := []) K mk_X9_157 dX9_putBack_4 (c_X9_tryPutBack hM hS1) (hM 0 (by decide)) rfl rfl rfl rfl rfl (Nat.le_of_ble_eq_true rfl) ⟨rfl, rfl⟩ ⟨Nat.le_of_ble_eq_true rfl, Nat.le_of_ble_eq_true rfl⟩ ?_
  exact v_iret K rfl dX9_putBack_7 (ev_q hf) (ew_q hf)
set_option maxRecDepth 20000 in
theorem c_X9_tryRecall {G : Gs} (hM : ModG E) {S S' : St}  {x1 : Int32} {x2 : Int32} {r : Int32} (hf : f_X9_tryRecall S x1 x2 = some (r, S')) : Ctr l D E A yX9_tryRecall cX9_tryRecall 4 (some .int) (rmD 4) [.ref (eA E 1 0), .int x1, .int x2] (wl E (va_up G 1 S)) (some (.int r)) (wl E (va_up G 1 S')) := by
  refine Ctr.of (own := RX9) pn_X9 rfl (Nat.le_of_ble_eq_true rfl) ?_
  intro p e s m args below meth c K
  refine v_lv (lv' := [(0, .ref (eA E 1 0)), (1, .int x1), (2, .int x2)]) rfl ?_
  unfold f_X9_tryRecall at hf
  refine v_iload_n K 1 dX9_tryRecall_0 rfl rfl ?_
  refine v_callSi (As := [.int x1]) (rest := []) K mk_X9_133 dX9_tryRecall_1 (c_X9_isNote  rfl) rfl rfl (Nat.le_of_ble_eq_true rfl) ⟨rfl, rfl⟩ ⟨Nat.le_of_ble_eq_true rfl, Nat.le_of_ble_eq_true rfl⟩ ?_
  refine v_if_ne (tgt := 9) K dX9_tryRecall_4 (by decide) (fun hc1 => ?_) (fun hc1 => ?_)
  · have hf := it_neg hc1 hf
    refine v_aload_n K 0 dX9_tryRecall_9 rfl rfl ?_
    refine v_iload_n K 1 dX9_tryRecall_10 rfl rfl ?_
    refine v_iconst K dX9_tryRecall_11 ki_1 ?_
    obtain ⟨y1, hy1, hf⟩ := bd_el hf
    refine v_callWi (As := [.int x1, .int 1]) (rest := []) K mk_X9_75 dX9_tryRecall_12 (c_X9_ofN hM hy1) (hM 0 (by decide)) rfl rfl rfl rfl rfl (Nat.le_of_ble_eq_true rfl) ⟨rfl, rfl⟩ ⟨Nat.le_of_ble_eq_true rfl, Nat.le_of_ble_eq_true rfl⟩ ?_
    refine v_if_ne (tgt := 21) K dX9_tryRecall_15 (by decide) (fun hc2 => ?_) (fun hc2 => ?_)
    · have hf := it_neg hc2 hf
      refine v_aload_n K 0 dX9_tryRecall_21 rfl rfl ?_
      refine v_iload_n K 2 dX9_tryRecall_22 rfl rfl ?_
      obtain ⟨S2, hS2, hf⟩ := bd_el hf
      refine v_callWn (As := [.int x2]) (rest := []) K mk_X9_136 dX9_tryRecall_23 (c_X9_keepIf hM hS2) (hM 0 (by decide)) rfl rfl rfl rfl rfl (Nat.le_of_ble_eq_true rfl) ⟨rfl, rfl⟩ ⟨Nat.le_of_ble_eq_true rfl, Nat.le_of_ble_eq_true rfl⟩ ?_
      refine v_aload_n K 0 dX9_tryRecall_26 rfl rfl ?_
      refine v_iload_n K 1 dX9_tryRecall_27 rfl rfl ?_
      refine v_iconst K dX9_tryRecall_28 ki_3 ?_
      obtain ⟨y3, hy3, hf⟩ := bd_el hf
      refine v_callWi (As := [.int x1, .int 3]) (rest := []) K mk_X9_75 dX9_tryRecall_29 (c_X9_ofN hM hy3) (hM 0 (by decide)) rfl rfl rfl rfl rfl (Nat.le_of_ble_eq_true rfl) ⟨rfl, rfl⟩ ⟨Nat.le_of_ble_eq_true rfl, Nat.le_of_ble_eq_true rfl⟩ ?_
      refine v_istore_n (lv' := [(3, .int y3), (0, .ref (eA E 1 0)), (1, .int x1), (2, .int x2)]) K dX9_tryRecall_32 rfl (by decide) rfl ?_
      refine v_aload_n K 1 dX9_tryRecall_33 rfl rfl ?_
      refine v_iload_n K 2 dX9_tryRecall_34 rfl rfl ?_
      refine v_bipush K dX9_tryRecall_35 kb_m6 ?_
      obtain ⟨S4, hS4, hf⟩ := bd_el hf
      refine v_callWn (As := [.int x1, .int (-6)]) (rest := []) K mk_X9_120 dX9_tryRecall_37 (c_X9_callBackBut hM hS4) (hM 0 (by decide)) rfl rfl rfl rfl rfl (Nat.le_of_ble_eq_true rfl) ⟨rfl, rfl⟩ ⟨Nat.le_of_ble_eq_true rfl, Nat.le_of_ble_eq_true rfl⟩ ?_
      refine v_aload_n K 1 dX9_tryRecall_40 rfl rfl ?_
      refine v_iload_n K 2 dX9_tryRecall_41 rfl rfl ?_
      refine v_iconst K dX9_tryRecall_42 ki_0 ?_
      refine v_iconst K dX9_tryRecall_43 ki_0 ?_
      obtain ⟨S5, hS5, hf⟩ := bd_el hf
      refine v_callWn (As := [.int x1, .int 0, .int 0]) (rest := []) K mk_X9_86 dX9_tryRecall_44 (c_X9_layCard hM hS5) (hM 0 (by decide)) rfl rfl rfl rfl rfl (Nat.le_of_ble_eq_true rfl) ⟨rfl, rfl⟩ ⟨Nat.le_of_ble_eq_true rfl, Nat.le_of_ble_eq_true rfl⟩ ?_
      refine v_aload_n K 1 dX9_tryRecall_47 rfl rfl ?_
      refine v_iload_n K 2 dX9_tryRecall_48 rfl rfl ?_
      refine v_iconst K dX9_tryRecall_49 ki_3 ?_
      obtain ⟨y6, hy6, hf⟩ := bd_el hf
      refine v_callWi (As := [.int x1, .int 3]) (rest := []) K mk_X9_75 dX9_tryRecall_50 (c_X9_ofN hM hy6) (hM 0 (by decide)) rfl rfl rfl rfl rfl (Nat.le_of_ble_eq_true rfl) ⟨rfl, rfl⟩ ⟨Nat.le_of_ble_eq_true rfl, Nat.le_of_ble_eq_true rfl⟩ ?_
      refine v_iload_n K 0 dX9_tryRecall_53 rfl rfl ?_
      refine v_isub K dX9_tryRecall_54 ?_
      exact v_iret K rfl dX9_tryRecall_55 (ev_q hf) (ew_q hf)
    · have hf := it_pos hc2 hf
      refine v_bipush K dX9_tryRecall_18 kb_m5 ?_
      exact v_iret K rfl dX9_tryRecall_20 (ev_q hf) (ew_q hf)
  · have hf := it_pos hc1 hf
    refine v_iconst K dX9_tryRecall_7 ki_m1 ?_
    exact v_iret K rfl dX9_tryRecall_8 (ev_q hf) (ew_q hf)
set_option maxRecDepth 20000 in
theorem c_X9_recall {G : Gs} (hM : ModG E) {S S' : St}  {x1 : Int32} {r : Int32} (hf : f_X9_recall S x1 = some (r, S')) : Ctr l D E A yX9_recall cX9_recall 2 (some .int) (rmD 5) [.ref (eA E 1 0), .int x1] (wl E (va_up G 1 S)) (some (.int r)) (wl E (va_up G 1 S')) := by
  refine Ctr.of (own := RX9) pn_X9 rfl (Nat.le_of_ble_eq_true rfl) ?_
  intro p e s m args below meth c K
  refine v_lv (lv' := [(0, .ref (eA E 1 0)), (1, .int x1)]) rfl ?_
  unfold f_X9_recall at hf
  refine v_aload_n K 0 dX9_recall_0 rfl rfl ?_
  refine v_iload_n K 1 dX9_recall_1 rfl rfl ?_
  refine v_iconst K dX9_recall_2 ki_1 ?_
  obtain ⟨y2, S1, hS1, hf⟩ := bdp_el hf
  refine v_callWi (As := [.int x1, .int 1]) (rest := []) K mk_X9_160 dX9_recall_3 (c_X9_tryRecall hM hS1) (hM 0 (by decide)) rfl rfl rfl rfl rfl (Nat.le_of_ble_eq_true rfl) ⟨rfl, rfl⟩ ⟨Nat.le_of_ble_eq_true rfl, Nat.le_of_ble_eq_true rfl⟩ ?_
  exact v_iret K rfl dX9_recall_6 (ev_q hf) (ew_q hf)
set_option maxRecDepth 20000 in
theorem c_X9_cardsThat {G : Gs} (hM : ModG E) {S : St}  {x1 : Int32} {x2 : Int32} {r : Int32} (hf : f_X9_cardsThat S x1 x2 = some r) : Ctr l D E A yX9_cardsThat cX9_cardsThat 5 (some .int) (rmD 1) [.ref (eA E 1 0), .int x1, .int x2] (wl E (va_up G 1 S)) (some (.int r)) (wl E (va_up G 1 S)) := by
  refine Ctr.of (own := RX9) pn_X9 rfl (Nat.le_of_ble_eq_true rfl) ?_
  intro p e s m args below meth c K
  refine v_lv (lv' := [(0, .ref (eA E 1 0)), (1, .int x1), (2, .int x2)]) rfl ?_
  have L5 : ∀ (x1 : Int32) (x2 : Int32) (S : St), ∀ (n : Nat) (x3 : Int32) (x4 : Int32), f_X9_cardsThat_L5 x1 x2 S n x3 x4 = some r → VV p l e (rmD 1) s m args below meth c (MQ below (CQ D A (some (.int r)) (wl E (va_up G 1 S))) args s 0 0 A) D A 5 (0, 0) 5 [] [(0, .ref (eA E 1 0)), (1, .int x1), (2, .int x2), (3, .int x3), (4, .int x4)] (wl E (va_up G 1 S)) := by
    intro x1 x2 S n
    induction n with
    | zero =>
      intro x3 x4 hf
      rw [f_X9_cardsThat_L5] at hf
      cases hf
    | succ n ih =>
      intro x3 x4 hf
      rw [f_X9_cardsThat_L5] at hf
      refine v_iload K 4 dX9_cardsThat_5 rfl ?_
      refine v_bipush K dX9_cardsThat_7 kb_24 ?_
      refine v_icmp_ge (tgt := 41) K dX9_cardsThat_9 (by decide) (fun hc1 => ?_) (fun hc1 => ?_)
      · have hf := it_pos hc1 hf
        refine v_iload_n K 3 dX9_cardsThat_41 rfl rfl ?_
        exact v_iret K rfl dX9_cardsThat_42 (ev_o hf) rfl
      · have hf := it_neg hc1 hf
        refine v_iload_n K 3 dX9_cardsThat_12 rfl rfl ?_
        refine v_aload_n K 0 dX9_cardsThat_13 rfl rfl ?_
        refine v_iload K 4 dX9_cardsThat_14 rfl ?_
        refine v_iconst K dX9_cardsThat_16 ki_1 ?_
        obtain ⟨y1, hy1, hf⟩ := bd_el hf
        refine v_callWi (As := [.int x4, .int 1]) (rest := [.int x3]) K mk_X9_75 dX9_cardsThat_17 (c_X9_ofN hM hy1) (hM 0 (by decide)) rfl rfl rfl rfl rfl (Nat.le_of_ble_eq_true rfl) ⟨rfl, rfl⟩ ⟨Nat.le_of_ble_eq_true rfl, Nat.le_of_ble_eq_true rfl⟩ ?_
        refine v_iload_n K 1 dX9_cardsThat_20 rfl rfl ?_
        refine v_iload_n K 2 dX9_cardsThat_21 rfl rfl ?_
        refine v_callSi (As := [.int y1, .int x1, .int x2]) (rest := [.int x3]) K mk_X9_35 dX9_cardsThat_22 (c_X9_in  rfl) rfl rfl (Nat.le_of_ble_eq_true rfl) ⟨rfl, rfl⟩ ⟨Nat.le_of_ble_eq_true rfl, Nat.le_of_ble_eq_true rfl⟩ ?_
        have hj2 : ∀ (w1 : Int32), w1 = (if (f_X9_in y1 x1 x2) = 0 then 0 else 1 : Int32) → VV p l e (rmD 1) s m args below meth c (MQ below (CQ D A (some (.int r)) (wl E (va_up G 1 S))) args s 0 0 A) D A 5 (0, 0) 33 [.int w1, .int x3] [(0, .ref (eA E 1 0)), (1, .int x1), (2, .int x2), (4, .int x4)] (wl E (va_up G 1 S)) := by
          intro w1 ew1
          subst ew1
          refine v_iadd K dX9_cardsThat_33 ?_
          refine v_istore_n (lv' := [(3, .int (x3 + (if (f_X9_in y1 x1 x2) = 0 then 0 else 1 : Int32))), (0, .ref (eA E 1 0)), (1, .int x1), (2, .int x2), (4, .int x4)]) K dX9_cardsThat_34 rfl (by decide) rfl ?_
          refine v_iinc (v := x4 + 1) (lv' := [(4, .int (x4 + 1)), (3, .int (x3 + (if (f_X9_in y1 x1 x2) = 0 then 0 else 1 : Int32))), (0, .ref (eA E 1 0)), (1, .int x1), (2, .int x2)]) K 4 dX9_cardsThat_35 rfl rfl (by decide) rfl ?_
          refine v_goto (tgt := 5) K dX9_cardsThat_38 (by decide) ?_
          exact v_lsub [2, 3, 4, 1, 0] rfl (ih (x3 + (if (f_X9_in y1 x1 x2) = 0 then 0 else 1 : Int32)) (x4 + 1) hf)
        refine v_if_eq (tgt := 32) K dX9_cardsThat_25 (by decide) (fun hc2 => ?_) (fun hc2 => ?_)
        · refine v_iconst K dX9_cardsThat_32 ki_0 ?_
          exact v_lsub [0, 1, 2, 4] rfl (hj2 0 (if_pos hc2).symm)
        · refine v_iconst K dX9_cardsThat_28 ki_1 ?_
          refine v_goto (tgt := 33) K dX9_cardsThat_29 (by decide) ?_
          exact v_lsub [0, 1, 2, 4] rfl (hj2 1 (if_neg hc2).symm)
  unfold f_X9_cardsThat at hf
  refine v_iconst K dX9_cardsThat_0 ki_0 ?_
  refine v_istore_n (lv' := [(3, .int 0), (0, .ref (eA E 1 0)), (1, .int x1), (2, .int x2)]) K dX9_cardsThat_1 rfl (by decide) rfl ?_
  refine v_iconst K dX9_cardsThat_2 ki_0 ?_
  refine v_istore (lv' := [(4, .int 0), (3, .int 0), (0, .ref (eA E 1 0)), (1, .int x1), (2, .int x2)]) K dX9_cardsThat_3 (by decide) rfl ?_
  refine v_lsub [2, 3, 4, 1, 0] rfl ?_
  exact L5 x1 x2 S 5000 0 0 hf
set_option maxRecDepth 20000 in
theorem c_X9_set {G : Gs} (hM : ModG E) {S S' : St}  {x1 : Int32} {x2 : Int32} {r : Int32} (hf : f_X9_set S x1 x2 = some (r, S')) : Ctr l D E A yX9_set cX9_set 4 (some .int) (rmD 2) [.ref (eA E 1 0), .int x1, .int x2] (wl E (va_up G 1 S)) (some (.int r)) (wl E (va_up G 1 S')) := by
  refine Ctr.of (own := RX9) pn_X9 rfl (Nat.le_of_ble_eq_true rfl) ?_
  intro p e s m args below meth c K
  refine v_lv (lv' := [(0, .ref (eA E 1 0)), (1, .int x1), (2, .int x2)]) rfl ?_
  unfold f_X9_set at hf
  refine v_iload_n K 1 dX9_set_0 rfl rfl ?_
  refine v_iconst K dX9_set_1 ki_0 ?_
  refine v_iconst K dX9_set_2 ki_3 ?_
  refine v_callSi (As := [.int x1, .int 0, .int 3]) (rest := []) K mk_X9_35 dX9_set_3 (c_X9_in  rfl) rfl rfl (Nat.le_of_ble_eq_true rfl) ⟨rfl, rfl⟩ ⟨Nat.le_of_ble_eq_true rfl, Nat.le_of_ble_eq_true rfl⟩ ?_
  refine v_if_eq (tgt := 50) K dX9_set_6 (by decide) (fun hc1 => ?_) (fun hc1 => ?_)
  · have hf := it_pos hc1 hf
    refine v_bipush K dX9_set_50 kb_m2 ?_
    exact v_iret K rfl dX9_set_52 (ev_q hf) (ew_q hf)
  · have hf := it_neg hc1 hf
    refine v_iload_n K 2 dX9_set_9 rfl rfl ?_
    refine v_iload_n K 1 dX9_set_10 rfl rfl ?_
    refine v_iconst K dX9_set_11 ki_1 ?_
    have hj7 : ∀ (w1 : Int32), w1 = (if x1 = 1 then 1 else (if x1 = 2 then 1 else 0 : Int32) : Int32) → VV p l e (rmD 2) s m args below meth c (MQ below (CQ D A (some (.int r)) (wl E (va_up G 1 S'))) args s 0 0 A) D A 4 (0, 0) 25 [.int w1, .int x2] [(0, .ref (eA E 1 0)), (1, .int x1), (2, .int x2)] (wl E (va_up G 1 S)) := by
      intro w1 ew1
      subst ew1
      refine v_iload_n K 1 dX9_set_25 rfl rfl ?_
      have hj6 : ∀ (w1 : Int32), w1 = (if x1 = 0 then 4 else (if x1 = 3 then 1 else 8 : Int32) : Int32) → VV p l e (rmD 2) s m args below meth c (MQ below (CQ D A (some (.int r)) (wl E (va_up G 1 S'))) args s 0 0 A) D A 4 (0, 0) 44 [.int w1, .int (if x1 = 1 then 1 else (if x1 = 2 then 1 else 0 : Int32) : Int32), .int x2] [(0, .ref (eA E 1 0)), (1, .int x1), (2, .int x2)] (wl E (va_up G 1 S)) := by
        intro w1 ew1
        subst ew1
        refine v_callSi (As := [.int x2, .int (if x1 = 1 then 1 else (if x1 = 2 then 1 else 0 : Int32) : Int32), .int (if x1 = 0 then 4 else (if x1 = 3 then 1 else 8 : Int32) : Int32)]) (rest := []) K mk_X9_35 dX9_set_44 (c_X9_in  rfl) rfl rfl (Nat.le_of_ble_eq_true rfl) ⟨rfl, rfl⟩ ⟨Nat.le_of_ble_eq_true rfl, Nat.le_of_ble_eq_true rfl⟩ ?_
        refine v_if_ne (tgt := 53) K dX9_set_47 (by decide) (fun hc6 => ?_) (fun hc6 => ?_)
        · have hf := it_neg hc6 hf
          refine v_iload_n K 1 dX9_set_53 rfl rfl ?_
          refine v_iconst K dX9_set_54 ki_2 ?_
          refine v_icmp_ge (tgt := 70) K dX9_set_55 (by decide) (fun hc7 => ?_) (fun hc7 => ?_)
          · have hf := it_pos hc7 hf
            refine v_aload_n K 0 dX9_set_70 rfl rfl ?_
            obtain ⟨S1, hS1, hf⟩ := bd_el hf
            refine v_callWn (As := []) (rest := []) K mk_X9_46 dX9_set_71 (c_X9_keep hM hS1) (hM 0 (by decide)) rfl rfl rfl rfl rfl (Nat.le_of_ble_eq_true rfl) ⟨rfl, rfl⟩ ⟨Nat.le_of_ble_eq_true rfl, Nat.le_of_ble_eq_true rfl⟩ ?_
            refine v_aload_n K 0 dX9_set_74 rfl rfl ?_
            refine g_get K fk_X9_7 dX9_set_75 (hM 0 (by decide)) rfl rfl ?_
            refine v_iload_n K 1 dX9_set_78 rfl rfl ?_
            obtain ⟨hi79, hf⟩ := ix_el hf
            refine g_iald K dX9_set_79 (hM 1 (by decide)) rfl hi79 ?_
            refine v_istore_n (lv' := [(3, .int (S1 1 x1.toNatClampNeg)), (0, .ref (eA E 1 0)), (1, .int x1), (2, .int x2)]) K dX9_set_80 rfl (by decide) rfl ?_
            refine v_aload_n K 1 dX9_set_81 rfl rfl ?_
            refine g_get K fk_X9_7 dX9_set_82 (hM 0 (by decide)) rfl rfl ?_
            refine v_iload_n K 2 dX9_set_85 rfl rfl ?_
            refine v_iload_n K 3 dX9_set_86 rfl rfl ?_
            obtain ⟨hi87, hf⟩ := ix_el hf
            obtain ⟨S2, hS2, hf⟩ := bnd_el hf
            refine g_iast K dX9_set_87 (hM 1 (by decide)) (fun _ => rfl) hi87 hS2 ?_
            refine v_iload_n K 0 dX9_set_88 rfl rfl ?_
            exact v_iret K rfl dX9_set_89 (ev_q hf) (ew_q hf)
          · have hf := it_neg hc7 hf
            refine v_aload_n K 0 dX9_set_58 rfl rfl ?_
            refine v_iconst K dX9_set_59 ki_1 ?_
            refine v_iconst K dX9_set_60 ki_3 ?_
            obtain ⟨y3, hy3, hf⟩ := bd_el hf
            refine v_callWi (As := [.int 1, .int 3]) (rest := []) K mk_X9_164 dX9_set_61 (c_X9_cardsThat hM hy3) (hM 0 (by decide)) rfl rfl rfl rfl rfl (Nat.le_of_ble_eq_true rfl) ⟨rfl, rfl⟩ ⟨Nat.le_of_ble_eq_true rfl, Nat.le_of_ble_eq_true rfl⟩ ?_
            refine v_if_le (tgt := 70) K dX9_set_64 (by decide) (fun hc8 => ?_) (fun hc8 => ?_)
            · have hf := it_pos hc8 hf
              refine v_aload_n K 0 dX9_set_70 rfl rfl ?_
              obtain ⟨S4, hS4, hf⟩ := bd_el hf
              refine v_callWn (As := []) (rest := []) K mk_X9_46 dX9_set_71 (c_X9_keep hM hS4) (hM 0 (by decide)) rfl rfl rfl rfl rfl (Nat.le_of_ble_eq_true rfl) ⟨rfl, rfl⟩ ⟨Nat.le_of_ble_eq_true rfl, Nat.le_of_ble_eq_true rfl⟩ ?_
              refine v_aload_n K 0 dX9_set_74 rfl rfl ?_
              refine g_get K fk_X9_7 dX9_set_75 (hM 0 (by decide)) rfl rfl ?_
              refine v_iload_n K 1 dX9_set_78 rfl rfl ?_
              obtain ⟨hi79, hf⟩ := ix_el hf
              refine g_iald K dX9_set_79 (hM 1 (by decide)) rfl hi79 ?_
              refine v_istore_n (lv' := [(3, .int (S4 1 x1.toNatClampNeg)), (0, .ref (eA E 1 0)), (1, .int x1), (2, .int x2)]) K dX9_set_80 rfl (by decide) rfl ?_
              refine v_aload_n K 1 dX9_set_81 rfl rfl ?_
              refine g_get K fk_X9_7 dX9_set_82 (hM 0 (by decide)) rfl rfl ?_
              refine v_iload_n K 2 dX9_set_85 rfl rfl ?_
              refine v_iload_n K 3 dX9_set_86 rfl rfl ?_
              obtain ⟨hi87, hf⟩ := ix_el hf
              obtain ⟨S5, hS5, hf⟩ := bnd_el hf
              refine g_iast K dX9_set_87 (hM 1 (by decide)) (fun _ => rfl) hi87 hS5 ?_
              refine v_iload_n K 0 dX9_set_88 rfl rfl ?_
              exact v_iret K rfl dX9_set_89 (ev_q hf) (ew_q hf)
            · have hf := it_neg hc8 hf
              refine v_bipush K dX9_set_67 kb_m5 ?_
              exact v_iret K rfl dX9_set_69 (ev_q hf) (ew_q hf)
        · have hf := it_pos hc6 hf
          refine v_bipush K dX9_set_50 kb_m2 ?_
          exact v_iret K rfl dX9_set_52 (ev_q hf) (ew_q hf)
      refine v_if_ne (tgt := 33) K dX9_set_26 (by decide) (fun hc4 => ?_) (fun hc4 => ?_)
      · refine v_iload_n K 1 dX9_set_33 rfl rfl ?_
        refine v_iconst K dX9_set_34 ki_3 ?_
        refine v_icmp_ne (tgt := 42) K dX9_set_35 (by decide) (fun hc9 => ?_) (fun hc9 => ?_)
        · refine v_bipush K dX9_set_42 kb_8 ?_
          exact v_lsub [0, 1, 2] rfl (hj6 8 ((if_neg hc4).trans (if_neg hc9)).symm)
        · refine v_iconst K dX9_set_38 ki_1 ?_
          refine v_goto (tgt := 44) K dX9_set_39 (by decide) ?_
          exact v_lsub [0, 1, 2] rfl (hj6 1 ((if_neg hc4).trans (if_pos hc9)).symm)
      · refine v_iconst K dX9_set_29 ki_4 ?_
        refine v_goto (tgt := 44) K dX9_set_30 (by decide) ?_
        exact v_lsub [0, 1, 2] rfl (hj6 4 (if_pos hc4).symm)
    refine v_icmp_eq (tgt := 20) K dX9_set_12 (by decide) (fun hc2 => ?_) (fun hc2 => ?_)
    · refine v_iconst K dX9_set_20 ki_1 ?_
      refine v_goto (tgt := 25) K dX9_set_21 (by decide) ?_
      exact v_lsub [0, 1, 2] rfl (hj7 1 (if_pos hc2).symm)
    · refine v_iload_n K 1 dX9_set_15 rfl rfl ?_
      refine v_iconst K dX9_set_16 ki_2 ?_
      refine v_icmp_ne (tgt := 24) K dX9_set_17 (by decide) (fun hc10 => ?_) (fun hc10 => ?_)
      · refine v_iconst K dX9_set_24 ki_0 ?_
        exact v_lsub [0, 1, 2] rfl (hj7 0 ((if_neg hc2).trans (if_neg hc10)).symm)
      · refine v_iconst K dX9_set_20 ki_1 ?_
        refine v_goto (tgt := 25) K dX9_set_21 (by decide) ?_
        exact v_lsub [0, 1, 2] rfl (hj7 1 ((if_neg hc2).trans (if_pos hc10)).symm)
set_option maxRecDepth 20000 in
theorem c_X9_holders {G : Gs} (hM : ModG E) {S : St}  {x1 : Int32} {r : Int32} (hf : f_X9_holders S x1 = some r) : Ctr l D E A yX9_holders cX9_holders 4 (some .int) (rmD 2) [.ref (eA E 1 0), .int x1] (wl E (va_up G 1 S)) (some (.int r)) (wl E (va_up G 1 S)) := by
  refine Ctr.of (own := RX9) pn_X9 rfl (Nat.le_of_ble_eq_true rfl) ?_
  intro p e s m args below meth c K
  refine v_lv (lv' := [(0, .ref (eA E 1 0)), (1, .int x1)]) rfl ?_
  have L4 : ∀ (x1 : Int32) (S : St), ∀ (n : Nat) (x2 : Int32) (x3 : Int32), f_X9_holders_L4 x1 S n x2 x3 = some r → VV p l e (rmD 2) s m args below meth c (MQ below (CQ D A (some (.int r)) (wl E (va_up G 1 S))) args s 0 0 A) D A 4 (0, 0) 4 [] [(0, .ref (eA E 1 0)), (1, .int x1), (2, .int x2), (3, .int x3)] (wl E (va_up G 1 S)) := by
    intro x1 S n
    induction n with
    | zero =>
      intro x2 x3 hf
      rw [f_X9_holders_L4] at hf
      cases hf
    | succ n ih =>
      intro x2 x3 hf
      rw [f_X9_holders_L4] at hf
      refine v_iload_n K 3 dX9_holders_4 rfl rfl ?_
      refine v_bipush K dX9_holders_5 kb_16 ?_
      refine v_icmp_ge (tgt := 35) K dX9_holders_7 (by decide) (fun hc1 => ?_) (fun hc1 => ?_)
      · have hf := it_pos hc1 hf
        refine v_iload_n K 2 dX9_holders_35 rfl rfl ?_
        exact v_iret K rfl dX9_holders_36 (ev_o hf) rfl
      · have hf := it_neg hc1 hf
        refine v_iload_n K 2 dX9_holders_10 rfl rfl ?_
        refine v_aload_n K 0 dX9_holders_11 rfl rfl ?_
        refine v_iload_n K 3 dX9_holders_12 rfl rfl ?_
        refine v_iload_n K 1 dX9_holders_13 rfl rfl ?_
        obtain ⟨y1, hy1, hf⟩ := bd_el hf
        refine v_callWi (As := [.int x3, .int x1]) (rest := [.int x2]) K mk_X9_95 dX9_holders_14 (c_X9_placeOf hM hy1) (hM 0 (by decide)) rfl rfl rfl rfl rfl (Nat.le_of_ble_eq_true rfl) ⟨rfl, rfl⟩ ⟨Nat.le_of_ble_eq_true rfl, Nat.le_of_ble_eq_true rfl⟩ ?_
        have hj2 : ∀ (w1 : Int32), w1 = (if y1 < 0 then 0 else ((1 : Int32) <<< (x3 &&& 31)) : Int32) → VV p l e (rmD 2) s m args below meth c (MQ below (CQ D A (some (.int r)) (wl E (va_up G 1 S))) args s 0 0 A) D A 4 (0, 0) 27 [.int w1, .int x2] [(0, .ref (eA E 1 0)), (1, .int x1), (3, .int x3)] (wl E (va_up G 1 S)) := by
          intro w1 ew1
          subst ew1
          refine v_ior K dX9_holders_27 ?_
          refine v_istore_n (lv' := [(2, .int (x2 ||| (if y1 < 0 then 0 else ((1 : Int32) <<< (x3 &&& 31)) : Int32))), (0, .ref (eA E 1 0)), (1, .int x1), (3, .int x3)]) K dX9_holders_28 rfl (by decide) rfl ?_
          refine v_iinc (v := x3 + 1) (lv' := [(3, .int (x3 + 1)), (2, .int (x2 ||| (if y1 < 0 then 0 else ((1 : Int32) <<< (x3 &&& 31)) : Int32))), (0, .ref (eA E 1 0)), (1, .int x1)]) K 3 dX9_holders_29 rfl rfl (by decide) rfl ?_
          refine v_goto (tgt := 4) K dX9_holders_32 (by decide) ?_
          exact v_lsub [2, 3, 1, 0] rfl (ih (x2 ||| (if y1 < 0 then 0 else ((1 : Int32) <<< (x3 &&& 31)) : Int32)) (x3 + 1) hf)
        refine v_if_lt (tgt := 26) K dX9_holders_17 (by decide) (fun hc2 => ?_) (fun hc2 => ?_)
        · refine v_iconst K dX9_holders_26 ki_0 ?_
          exact v_lsub [0, 1, 3] rfl (hj2 0 (if_pos hc2).symm)
        · refine v_iconst K dX9_holders_20 ki_1 ?_
          refine v_iload_n K 3 dX9_holders_21 rfl rfl ?_
          refine v_ishl K dX9_holders_22 ?_
          refine v_goto (tgt := 27) K dX9_holders_23 (by decide) ?_
          exact v_lsub [0, 1, 3] rfl (hj2 ((1 : Int32) <<< (x3 &&& 31)) (if_neg hc2).symm)
  unfold f_X9_holders at hf
  refine v_iconst K dX9_holders_0 ki_0 ?_
  refine v_istore_n (lv' := [(2, .int 0), (0, .ref (eA E 1 0)), (1, .int x1)]) K dX9_holders_1 rfl (by decide) rfl ?_
  refine v_iconst K dX9_holders_2 ki_0 ?_
  refine v_istore_n (lv' := [(3, .int 0), (2, .int 0), (0, .ref (eA E 1 0)), (1, .int x1)]) K dX9_holders_3 rfl (by decide) rfl ?_
  refine v_lsub [2, 3, 1, 0] rfl ?_
  exact L4 x1 S 5000 0 0 hf
set_option maxRecDepth 20000 in
theorem c_X9_valueNow {G : Gs} (hM : ModG E) {S : St}  {x1 : Int32} {r : Int32} (hf : f_X9_valueNow S x1 = some r) : Ctr l D E A yX9_valueNow cX9_valueNow 5 (some .int) (rmD 2) [.ref (eA E 1 0), .int x1] (wl E (va_up G 1 S)) (some (.int r)) (wl E (va_up G 1 S)) := by
  refine Ctr.of (own := RX9) pn_X9 rfl (Nat.le_of_ble_eq_true rfl) ?_
  intro p e s m args below meth c K
  refine v_lv (lv' := [(0, .ref (eA E 1 0)), (1, .int x1)]) rfl ?_
  have L9 : ∀ (x1 : Int32) (S : St), ∀ (n : Nat) (x2 : Int32) (x3 : Int32), f_X9_valueNow_L9 x1 S n x2 x3 = some r → VV p l e (rmD 2) s m args below meth c (MQ below (CQ D A (some (.int r)) (wl E (va_up G 1 S))) args s 0 0 A) D A 5 (0, 0) 9 [] [(0, .ref (eA E 1 0)), (1, .int x1), (2, .int x2), (3, .int x3)] (wl E (va_up G 1 S)) := by
    intro x1 S n
    induction n with
    | zero =>
      intro x2 x3 hf
      rw [f_X9_valueNow_L9] at hf
      cases hf
    | succ n ih =>
      intro x2 x3 hf
      rw [f_X9_valueNow_L9] at hf
      refine v_iload_n K 3 dX9_valueNow_9 rfl rfl ?_
      refine v_bipush K dX9_valueNow_10 kb_16 ?_
      refine v_icmp_ge (tgt := 59) K dX9_valueNow_12 (by decide) (fun hc1 => ?_) (fun hc1 => ?_)
      · have hf := it_pos hc1 hf
        refine v_iload_n K 2 dX9_valueNow_59 rfl rfl ?_
        exact v_iret K rfl dX9_valueNow_60 (ev_o hf) rfl
      · have hf := it_neg hc1 hf
        refine v_aload_n K 0 dX9_valueNow_15 rfl rfl ?_
        refine v_iload_n K 3 dX9_valueNow_16 rfl rfl ?_
        refine v_iload_n K 1 dX9_valueNow_17 rfl rfl ?_
        obtain ⟨y2, hy2, hf⟩ := bd_el hf
        refine v_callWi (As := [.int x3, .int x1]) (rest := []) K mk_X9_95 dX9_valueNow_18 (c_X9_placeOf hM hy2) (hM 0 (by decide)) rfl rfl rfl rfl rfl (Nat.le_of_ble_eq_true rfl) ⟨rfl, rfl⟩ ⟨Nat.le_of_ble_eq_true rfl, Nat.le_of_ble_eq_true rfl⟩ ?_
        refine v_istore (lv' := [(4, .int y2), (0, .ref (eA E 1 0)), (1, .int x1), (2, .int x2), (3, .int x3)]) K dX9_valueNow_21 (by decide) rfl ?_
        refine v_iload K 0 dX9_valueNow_23 rfl ?_
        refine jn_1 (fun (u52_0 : Int32) => VV p l e (rmD 2) s m args below meth c (MQ below (CQ D A (some (.int r)) (wl E (va_up G 1 S))) args s 0 0 A) D A 5 (0, 0) 52 [.int u52_0] [(0, .ref (eA E 1 0)), (1, .int x1), (3, .int x3)] (wl E (va_up G 1 S))) hf (fun u52_0 hf => ?_) (fun hj3 hf => ?_)
        · refine v_istore_n (lv' := [(2, .int u52_0), (0, .ref (eA E 1 0)), (1, .int x1), (3, .int x3)]) K dX9_valueNow_52 rfl (by decide) rfl ?_
          refine v_iinc (v := x3 + 1) (lv' := [(3, .int (x3 + 1)), (2, .int u52_0), (0, .ref (eA E 1 0)), (1, .int x1)]) K 3 dX9_valueNow_53 rfl rfl (by decide) rfl ?_
          refine v_goto (tgt := 9) K dX9_valueNow_56 (by decide) ?_
          exact v_lsub [2, 3, 1, 0] rfl (ih u52_0 (x3 + 1) hf)
        · refine v_if_lt (tgt := 51) K dX9_valueNow_25 (by decide) (fun hc2 => ?_) (fun hc2 => ?_)
          · have hf := it_pos hc2 hf
            refine v_iload_n K 3 dX9_valueNow_51 rfl rfl ?_
            exact v_lsub [1, 2, 4] rfl (hj3 x2 hf)
          · have hf := it_neg hc2 hf
            refine v_aload_n K 1 dX9_valueNow_28 rfl rfl ?_
            refine v_iload_n K 4 dX9_valueNow_29 rfl rfl ?_
            refine v_iload K 0 dX9_valueNow_30 rfl ?_
            refine v_iconst K dX9_valueNow_32 ki_2 ?_
            obtain ⟨y4, hy4, hf⟩ := bd_el hf
            refine v_callWi (As := [.int x3, .int y2, .int 2]) (rest := []) K mk_X9_53 dX9_valueNow_33 (c_X9_ofC hM hy4) (hM 0 (by decide)) rfl rfl rfl rfl rfl (Nat.le_of_ble_eq_true rfl) ⟨rfl, rfl⟩ ⟨Nat.le_of_ble_eq_true rfl, Nat.le_of_ble_eq_true rfl⟩ ?_
            refine v_iconst K dX9_valueNow_36 ki_1 ?_
            refine v_icmp_ne (tgt := 51) K dX9_valueNow_37 (by decide) (fun hc3 => ?_) (fun hc3 => ?_)
            · have hf := it_neg hc3 hf
              refine v_iload_n K 3 dX9_valueNow_51 rfl rfl ?_
              exact v_lsub [1, 2, 4] rfl (hj3 x2 hf)
            · have hf := it_pos hc3 hf
              refine v_aload_n K 1 dX9_valueNow_40 rfl rfl ?_
              refine v_iload_n K 4 dX9_valueNow_41 rfl rfl ?_
              refine v_iload K 0 dX9_valueNow_42 rfl ?_
              refine v_iconst K dX9_valueNow_44 ki_1 ?_
              obtain ⟨y5, hy5, hf⟩ := bd_el hf
              refine v_callWi (As := [.int x3, .int y2, .int 1]) (rest := []) K mk_X9_53 dX9_valueNow_45 (c_X9_ofC hM hy5) (hM 0 (by decide)) rfl rfl rfl rfl rfl (Nat.le_of_ble_eq_true rfl) ⟨rfl, rfl⟩ ⟨Nat.le_of_ble_eq_true rfl, Nat.le_of_ble_eq_true rfl⟩ ?_
              refine v_goto (tgt := 52) K dX9_valueNow_48 (by decide) ?_
              exact v_lsub [1, 2, 4] rfl (hj3 y5 hf)
  unfold f_X9_valueNow at hf
  refine v_aload_n K 0 dX9_valueNow_0 rfl rfl ?_
  refine v_iload_n K 1 dX9_valueNow_1 rfl rfl ?_
  refine v_iconst K dX9_valueNow_2 ki_0 ?_
  obtain ⟨y1, hy1, hf⟩ := bd_el hf
  refine v_callWi (As := [.int x1, .int 0]) (rest := []) K mk_X9_75 dX9_valueNow_3 (c_X9_ofN hM hy1) (hM 0 (by decide)) rfl rfl rfl rfl rfl (Nat.le_of_ble_eq_true rfl) ⟨rfl, rfl⟩ ⟨Nat.le_of_ble_eq_true rfl, Nat.le_of_ble_eq_true rfl⟩ ?_
  refine v_istore_n (lv' := [(2, .int y1), (0, .ref (eA E 1 0)), (1, .int x1)]) K dX9_valueNow_6 rfl (by decide) rfl ?_
  refine v_iconst K dX9_valueNow_7 ki_0 ?_
  refine v_istore_n (lv' := [(3, .int 0), (2, .int y1), (0, .ref (eA E 1 0)), (1, .int x1)]) K dX9_valueNow_8 rfl (by decide) rfl ?_
  refine v_lsub [2, 3, 1, 0] rfl ?_
  exact L9 x1 S 5000 y1 0 hf
set_option maxRecDepth 20000 in
theorem c_X9_ofNote {G : Gs} (hM : ModG E) {S : St}  {x1 : Int32} {x2 : Int32} {r : Int32} (hf : f_X9_ofNote S x1 x2 = some r) : Ctr l D E A yX9_ofNote cX9_ofNote 3 (some .int) (rmD 3) [.ref (eA E 1 0), .int x1, .int x2] (wl E (va_up G 1 S)) (some (.int r)) (wl E (va_up G 1 S)) := by
  refine Ctr.of (own := RX9) pn_X9 rfl (Nat.le_of_ble_eq_true rfl) ?_
  intro p e s m args below meth c K
  refine v_lv (lv' := [(0, .ref (eA E 1 0)), (1, .int x1), (2, .int x2)]) rfl ?_
  unfold f_X9_ofNote at hf
  refine v_iload_n K 1 dX9_ofNote_0 rfl rfl ?_
  refine v_callSi (As := [.int x1]) (rest := []) K mk_X9_133 dX9_ofNote_1 (c_X9_isNote  rfl) rfl rfl (Nat.le_of_ble_eq_true rfl) ⟨rfl, rfl⟩ ⟨Nat.le_of_ble_eq_true rfl, Nat.le_of_ble_eq_true rfl⟩ ?_
  refine v_if_ne (tgt := 9) K dX9_ofNote_4 (by decide) (fun hc1 => ?_) (fun hc1 => ?_)
  · have hf := it_neg hc1 hf
    refine v_iload_n K 2 dX9_ofNote_9 rfl rfl ?_
    by_cases hw10_0 : x2 = 0
    · have hf := it_pos hw10_0 hf
      have ht10 := tsi_8 hw10_0 (by decide)
      refine v_tableIn (off := 50) (tgt := 60) K dX9_ofNote_10 ht10.1 ht10.2 (by rw [hw10_0]; rfl) (by decide) ?_
      refine v_aload_n K 0 dX9_ofNote_60 rfl rfl ?_
      refine v_iload_n K 1 dX9_ofNote_61 rfl rfl ?_
      refine v_iload_n K 2 dX9_ofNote_62 rfl rfl ?_
      obtain ⟨y1, hy1, hf⟩ := bd_el hf
      refine v_callWi (As := [.int x1, .int x2]) (rest := []) K mk_X9_75 dX9_ofNote_63 (c_X9_ofN hM hy1) (hM 0 (by decide)) rfl rfl rfl rfl rfl (Nat.le_of_ble_eq_true rfl) ⟨rfl, rfl⟩ ⟨Nat.le_of_ble_eq_true rfl, Nat.le_of_ble_eq_true rfl⟩ ?_
      exact v_iret K rfl dX9_ofNote_66 (ev_o hf) rfl
    · have hf := it_neg hw10_0 hf
      by_cases hw10_1 : x2 = 1
      · have hf := it_pos hw10_1 hf
        have ht10 := tsi_8 hw10_1 (by decide)
        refine v_tableIn (off := 50) (tgt := 60) K dX9_ofNote_10 ht10.1 ht10.2 (by rw [hw10_1]; rfl) (by decide) ?_
        refine v_aload_n K 0 dX9_ofNote_60 rfl rfl ?_
        refine v_iload_n K 1 dX9_ofNote_61 rfl rfl ?_
        refine v_iload_n K 2 dX9_ofNote_62 rfl rfl ?_
        obtain ⟨y2, hy2, hf⟩ := bd_el hf
        refine v_callWi (As := [.int x1, .int x2]) (rest := []) K mk_X9_75 dX9_ofNote_63 (c_X9_ofN hM hy2) (hM 0 (by decide)) rfl rfl rfl rfl rfl (Nat.le_of_ble_eq_true rfl) ⟨rfl, rfl⟩ ⟨Nat.le_of_ble_eq_true rfl, Nat.le_of_ble_eq_true rfl⟩ ?_
        exact v_iret K rfl dX9_ofNote_66 (ev_o hf) rfl
      · have hf := it_neg hw10_1 hf
        by_cases hw10_2 : x2 = 2
        · have hf := it_pos hw10_2 hf
          have ht10 := tsi_8 hw10_2 (by decide)
          refine v_tableIn (off := 50) (tgt := 60) K dX9_ofNote_10 ht10.1 ht10.2 (by rw [hw10_2]; rfl) (by decide) ?_
          refine v_aload_n K 0 dX9_ofNote_60 rfl rfl ?_
          refine v_iload_n K 1 dX9_ofNote_61 rfl rfl ?_
          refine v_iload_n K 2 dX9_ofNote_62 rfl rfl ?_
          obtain ⟨y3, hy3, hf⟩ := bd_el hf
          refine v_callWi (As := [.int x1, .int x2]) (rest := []) K mk_X9_75 dX9_ofNote_63 (c_X9_ofN hM hy3) (hM 0 (by decide)) rfl rfl rfl rfl rfl (Nat.le_of_ble_eq_true rfl) ⟨rfl, rfl⟩ ⟨Nat.le_of_ble_eq_true rfl, Nat.le_of_ble_eq_true rfl⟩ ?_
          exact v_iret K rfl dX9_ofNote_66 (ev_o hf) rfl
        · have hf := it_neg hw10_2 hf
          by_cases hw10_3 : x2 = 3
          · have hf := it_pos hw10_3 hf
            have ht10 := tsi_8 hw10_3 (by decide)
            refine v_tableIn (off := 57) (tgt := 67) K dX9_ofNote_10 ht10.1 ht10.2 (by rw [hw10_3]; rfl) (by decide) ?_
            refine v_aload_n K 0 dX9_ofNote_67 rfl rfl ?_
            refine v_iload_n K 1 dX9_ofNote_68 rfl rfl ?_
            obtain ⟨y4, hy4, hf⟩ := bd_el hf
            refine v_callWi (As := [.int x1]) (rest := []) K mk_X9_101 dX9_ofNote_69 (c_X9_called hM hy4) (hM 0 (by decide)) rfl rfl rfl rfl rfl (Nat.le_of_ble_eq_true rfl) ⟨rfl, rfl⟩ ⟨Nat.le_of_ble_eq_true rfl, Nat.le_of_ble_eq_true rfl⟩ ?_
            exact v_iret K rfl dX9_ofNote_72 (ev_o hf) rfl
          · have hf := it_neg hw10_3 hf
            by_cases hw10_4 : x2 = 4
            · have hf := it_pos hw10_4 hf
              have ht10 := tsi_8 hw10_4 (by decide)
              refine v_tableIn (off := 63) (tgt := 73) K dX9_ofNote_10 ht10.1 ht10.2 (by rw [hw10_4]; rfl) (by decide) ?_
              refine v_aload_n K 0 dX9_ofNote_73 rfl rfl ?_
              refine v_iload_n K 1 dX9_ofNote_74 rfl rfl ?_
              obtain ⟨y5, hy5, hf⟩ := bd_el hf
              refine v_callWi (As := [.int x1]) (rest := []) K mk_X9_167 dX9_ofNote_75 (c_X9_holders hM hy5) (hM 0 (by decide)) rfl rfl rfl rfl rfl (Nat.le_of_ble_eq_true rfl) ⟨rfl, rfl⟩ ⟨Nat.le_of_ble_eq_true rfl, Nat.le_of_ble_eq_true rfl⟩ ?_
              exact v_iret K rfl dX9_ofNote_78 (ev_o hf) rfl
            · have hf := it_neg hw10_4 hf
              by_cases hw10_5 : x2 = 5
              · have hf := it_pos hw10_5 hf
                have ht10 := tsi_8 hw10_5 (by decide)
                refine v_tableIn (off := 69) (tgt := 79) K dX9_ofNote_10 ht10.1 ht10.2 (by rw [hw10_5]; rfl) (by decide) ?_
                refine v_aload_n K 0 dX9_ofNote_79 rfl rfl ?_
                refine v_iload_n K 1 dX9_ofNote_80 rfl rfl ?_
                obtain ⟨y6, hy6, hf⟩ := bd_el hf
                refine v_callWi (As := [.int x1]) (rest := []) K mk_X9_101 dX9_ofNote_81 (c_X9_called hM hy6) (hM 0 (by decide)) rfl rfl rfl rfl rfl (Nat.le_of_ble_eq_true rfl) ⟨rfl, rfl⟩ ⟨Nat.le_of_ble_eq_true rfl, Nat.le_of_ble_eq_true rfl⟩ ?_
                refine v_aload_n K 0 dX9_ofNote_84 rfl rfl ?_
                refine v_iload_n K 1 dX9_ofNote_85 rfl rfl ?_
                obtain ⟨y7, hy7, hf⟩ := bd_el hf
                refine v_callWi (As := [.int x1]) (rest := [.int y6]) K mk_X9_167 dX9_ofNote_86 (c_X9_holders hM hy7) (hM 0 (by decide)) rfl rfl rfl rfl rfl (Nat.le_of_ble_eq_true rfl) ⟨rfl, rfl⟩ ⟨Nat.le_of_ble_eq_true rfl, Nat.le_of_ble_eq_true rfl⟩ ?_
                refine v_iconst K dX9_ofNote_89 ki_m1 ?_
                refine v_ixor K dX9_ofNote_90 ?_
                refine v_iand K dX9_ofNote_91 ?_
                obtain ⟨y8, hy8, hf⟩ := bd_el hf
                refine v_callSi (As := [.int (y6 &&& (y7 ^^^ (-1)))]) (rest := []) K mk_X9_89 dX9_ofNote_92 (c_X9_many  hy8) rfl rfl (Nat.le_of_ble_eq_true rfl) ⟨rfl, rfl⟩ ⟨Nat.le_of_ble_eq_true rfl, Nat.le_of_ble_eq_true rfl⟩ ?_
                exact v_iret K rfl dX9_ofNote_95 (ev_o hf) rfl
              · have hf := it_neg hw10_5 hf
                by_cases hw10_6 : x2 = 6
                · have hf := it_pos hw10_6 hf
                  have ht10 := tsi_8 hw10_6 (by decide)
                  refine v_tableIn (off := 86) (tgt := 96) K dX9_ofNote_10 ht10.1 ht10.2 (by rw [hw10_6]; rfl) (by decide) ?_
                  refine v_aload_n K 0 dX9_ofNote_96 rfl rfl ?_
                  refine v_iload_n K 1 dX9_ofNote_97 rfl rfl ?_
                  obtain ⟨y9, hy9, hf⟩ := bd_el hf
                  refine v_callWi (As := [.int x1]) (rest := []) K mk_X9_170 dX9_ofNote_98 (c_X9_valueNow hM hy9) (hM 0 (by decide)) rfl rfl rfl rfl rfl (Nat.le_of_ble_eq_true rfl) ⟨rfl, rfl⟩ ⟨Nat.le_of_ble_eq_true rfl, Nat.le_of_ble_eq_true rfl⟩ ?_
                  exact v_iret K rfl dX9_ofNote_101 (ev_o hf) rfl
                · have hf := it_neg hw10_6 hf
                  by_cases hw10_7 : x2 = 7
                  · have hf := it_pos hw10_7 hf
                    have ht10 := tsi_8 hw10_7 (by decide)
                    refine v_tableIn (off := 92) (tgt := 102) K dX9_ofNote_10 ht10.1 ht10.2 (by rw [hw10_7]; rfl) (by decide) ?_
                    refine v_aload_n K 0 dX9_ofNote_102 rfl rfl ?_
                    refine v_iload_n K 1 dX9_ofNote_103 rfl rfl ?_
                    refine v_iconst K dX9_ofNote_104 ki_3 ?_
                    obtain ⟨y10, hy10, hf⟩ := bd_el hf
                    refine v_callWi (As := [.int x1, .int 3]) (rest := []) K mk_X9_75 dX9_ofNote_105 (c_X9_ofN hM hy10) (hM 0 (by decide)) rfl rfl rfl rfl rfl (Nat.le_of_ble_eq_true rfl) ⟨rfl, rfl⟩ ⟨Nat.le_of_ble_eq_true rfl, Nat.le_of_ble_eq_true rfl⟩ ?_
                    exact v_iret K rfl dX9_ofNote_108 (ev_o hf) rfl
                  · have hf := it_neg hw10_7 hf
                    by_cases hw10_8 : x2 = 8
                    · have hf := it_pos hw10_8 hf
                      have ht10 := tsi_8 hw10_8 (by decide)
                      refine v_tableIn (off := 99) (tgt := 109) K dX9_ofNote_10 ht10.1 ht10.2 (by rw [hw10_8]; rfl) (by decide) ?_
                      refine v_aload_n K 0 dX9_ofNote_109 rfl rfl ?_
                      refine v_iload_n K 1 dX9_ofNote_110 rfl rfl ?_
                      refine v_iconst K dX9_ofNote_111 ki_4 ?_
                      obtain ⟨y11, hy11, hf⟩ := bd_el hf
                      refine v_callWi (As := [.int x1, .int 4]) (rest := []) K mk_X9_75 dX9_ofNote_112 (c_X9_ofN hM hy11) (hM 0 (by decide)) rfl rfl rfl rfl rfl (Nat.le_of_ble_eq_true rfl) ⟨rfl, rfl⟩ ⟨Nat.le_of_ble_eq_true rfl, Nat.le_of_ble_eq_true rfl⟩ ?_
                      exact v_iret K rfl dX9_ofNote_115 (ev_o hf) rfl
                    · have hf := it_neg hw10_8 hf
                      refine v_tableOut (tgt := 116) K dX9_ofNote_10 (tso_8 hw10_0 hw10_1 hw10_2 hw10_3 hw10_4 hw10_5 hw10_6 hw10_7 hw10_8) (by decide) ?_
                      refine v_bipush K dX9_ofNote_116 kb_m2 ?_
                      exact v_iret K rfl dX9_ofNote_118 (ev_o hf) rfl
  · have hf := it_pos hc1 hf
    refine v_iconst K dX9_ofNote_7 ki_m1 ?_
    exact v_iret K rfl dX9_ofNote_8 (ev_o hf) rfl
set_option maxRecDepth 20000 in
theorem c_X9_onShelf {G : Gs} (hM : ModG E) {S : St}  {x1 : Int32} {x2 : Int32} {x3 : Int32} {r : Int32} (hf : f_X9_onShelf S x1 x2 x3 = some r) : Ctr l D E A yX9_onShelf cX9_onShelf 4 (some .int) (rmD 2) [.ref (eA E 1 0), .int x1, .int x2, .int x3] (wl E (va_up G 1 S)) (some (.int r)) (wl E (va_up G 1 S)) := by
  refine Ctr.of (own := RX9) pn_X9 rfl (Nat.le_of_ble_eq_true rfl) ?_
  intro p e s m args below meth c K
  refine v_lv (lv' := [(0, .ref (eA E 1 0)), (1, .int x1), (2, .int x2), (3, .int x3)]) rfl ?_
  unfold f_X9_onShelf at hf
  refine v_iload_n K 1 dX9_onShelf_0 rfl rfl ?_
  refine v_callSi (As := [.int x1]) (rest := []) K mk_X9_129 dX9_onShelf_1 (c_X9_isReader  rfl) rfl rfl (Nat.le_of_ble_eq_true rfl) ⟨rfl, rfl⟩ ⟨Nat.le_of_ble_eq_true rfl, Nat.le_of_ble_eq_true rfl⟩ ?_
  refine v_if_eq (tgt := 23) K dX9_onShelf_4 (by decide) (fun hc1 => ?_) (fun hc1 => ?_)
  · have hf := it_pos hc1 hf
    refine v_iconst K dX9_onShelf_23 ki_m1 ?_
    exact v_iret K rfl dX9_onShelf_24 (ev_o hf) rfl
  · have hf := it_neg hc1 hf
    refine v_iload_n K 2 dX9_onShelf_7 rfl rfl ?_
    refine v_iconst K dX9_onShelf_8 ki_0 ?_
    refine v_aload_n K 0 dX9_onShelf_9 rfl rfl ?_
    refine v_iload_n K 1 dX9_onShelf_10 rfl rfl ?_
    refine v_iconst K dX9_onShelf_11 ki_0 ?_
    obtain ⟨y1, hy1, hf⟩ := bd_el hf
    refine v_callWi (As := [.int x1, .int 0]) (rest := [.int 0, .int x2]) K mk_X9_49 dX9_onShelf_12 (c_X9_ofR hM hy1) (hM 0 (by decide)) rfl rfl rfl rfl rfl (Nat.le_of_ble_eq_true rfl) ⟨rfl, rfl⟩ ⟨Nat.le_of_ble_eq_true rfl, Nat.le_of_ble_eq_true rfl⟩ ?_
    refine v_iconst K dX9_onShelf_15 ki_1 ?_
    refine v_isub K dX9_onShelf_16 ?_
    refine v_callSi (As := [.int x2, .int 0, .int (y1 - 1)]) (rest := []) K mk_X9_35 dX9_onShelf_17 (c_X9_in  rfl) rfl rfl (Nat.le_of_ble_eq_true rfl) ⟨rfl, rfl⟩ ⟨Nat.le_of_ble_eq_true rfl, Nat.le_of_ble_eq_true rfl⟩ ?_
    refine v_if_ne (tgt := 25) K dX9_onShelf_20 (by decide) (fun hc2 => ?_) (fun hc2 => ?_)
    · have hf := it_neg hc2 hf
      refine v_iload_n K 3 dX9_onShelf_25 rfl rfl ?_
      refine v_iconst K dX9_onShelf_26 ki_0 ?_
      refine v_iconst K dX9_onShelf_27 ki_2 ?_
      refine v_callSi (As := [.int x3, .int 0, .int 2]) (rest := []) K mk_X9_35 dX9_onShelf_28 (c_X9_in  rfl) rfl rfl (Nat.le_of_ble_eq_true rfl) ⟨rfl, rfl⟩ ⟨Nat.le_of_ble_eq_true rfl, Nat.le_of_ble_eq_true rfl⟩ ?_
      refine v_if_eq (tgt := 44) K dX9_onShelf_31 (by decide) (fun hc3 => ?_) (fun hc3 => ?_)
      · have hf := it_pos hc3 hf
        refine v_bipush K dX9_onShelf_44 kb_m2 ?_
        exact v_iret K rfl dX9_onShelf_46 (ev_o hf) rfl
      · have hf := it_neg hc3 hf
        refine v_aload_n K 0 dX9_onShelf_34 rfl rfl ?_
        refine v_iload_n K 1 dX9_onShelf_35 rfl rfl ?_
        refine v_iload_n K 2 dX9_onShelf_36 rfl rfl ?_
        refine v_iload_n K 3 dX9_onShelf_37 rfl rfl ?_
        obtain ⟨y2, hy2, hf⟩ := bd_el hf
        refine v_callWi (As := [.int x1, .int x2, .int x3]) (rest := []) K mk_X9_53 dX9_onShelf_38 (c_X9_ofC hM hy2) (hM 0 (by decide)) rfl rfl rfl rfl rfl (Nat.le_of_ble_eq_true rfl) ⟨rfl, rfl⟩ ⟨Nat.le_of_ble_eq_true rfl, Nat.le_of_ble_eq_true rfl⟩ ?_
        refine v_goto (tgt := 46) K dX9_onShelf_41 (by decide) ?_
        exact v_iret K rfl dX9_onShelf_46 (ev_o hf) rfl
    · have hf := it_pos hc2 hf
      refine v_iconst K dX9_onShelf_23 ki_m1 ?_
      exact v_iret K rfl dX9_onShelf_24 (ev_o hf) rfl
set_option maxRecDepth 20000 in
theorem c_X9_callers {G : Gs} (hM : ModG E) {S : St}  {x1 : Int32} {r : Int32} (hf : f_X9_callers S x1 = some r) : Ctr l D E A yX9_callers cX9_callers 4 (some .int) (rmD 2) [.ref (eA E 1 0), .int x1] (wl E (va_up G 1 S)) (some (.int r)) (wl E (va_up G 1 S)) := by
  refine Ctr.of (own := RX9) pn_X9 rfl (Nat.le_of_ble_eq_true rfl) ?_
  intro p e s m args below meth c K
  refine v_lv (lv' := [(0, .ref (eA E 1 0)), (1, .int x1)]) rfl ?_
  have L4 : ∀ (x1 : Int32) (S : St), ∀ (n : Nat) (x2 : Int32) (x3 : Int32), f_X9_callers_L4 x1 S n x2 x3 = some r → VV p l e (rmD 2) s m args below meth c (MQ below (CQ D A (some (.int r)) (wl E (va_up G 1 S))) args s 0 0 A) D A 4 (0, 0) 4 [] [(0, .ref (eA E 1 0)), (1, .int x1), (2, .int x2), (3, .int x3)] (wl E (va_up G 1 S)) := by
    intro x1 S n
    induction n with
    | zero =>
      intro x2 x3 hf
      rw [f_X9_callers_L4] at hf
      cases hf
    | succ n ih =>
      intro x2 x3 hf
      rw [f_X9_callers_L4] at hf
      refine v_iload_n K 3 dX9_callers_4 rfl rfl ?_
      refine v_bipush K dX9_callers_5 kb_24 ?_
      refine v_icmp_ge (tgt := 38) K dX9_callers_7 (by decide) (fun hc1 => ?_) (fun hc1 => ?_)
      · have hf := it_pos hc1 hf
        refine v_iload_n K 2 dX9_callers_38 rfl rfl ?_
        exact v_iret K rfl dX9_callers_39 (ev_o hf) rfl
      · have hf := it_neg hc1 hf
        refine v_iload_n K 2 dX9_callers_10 rfl rfl ?_
        refine v_aload_n K 0 dX9_callers_11 rfl rfl ?_
        refine v_iload_n K 3 dX9_callers_12 rfl rfl ?_
        obtain ⟨y1, hy1, hf⟩ := bd_el hf
        refine v_callWi (As := [.int x3]) (rest := [.int x2]) K mk_X9_101 dX9_callers_13 (c_X9_called hM hy1) (hM 0 (by decide)) rfl rfl rfl rfl rfl (Nat.le_of_ble_eq_true rfl) ⟨rfl, rfl⟩ ⟨Nat.le_of_ble_eq_true rfl, Nat.le_of_ble_eq_true rfl⟩ ?_
        refine v_iload_n K 1 dX9_callers_16 rfl rfl ?_
        refine v_callSi (As := [.int y1, .int x1]) (rest := [.int x2]) K mk_X9_82 dX9_callers_17 (c_X9_has  rfl) rfl rfl (Nat.le_of_ble_eq_true rfl) ⟨rfl, rfl⟩ ⟨Nat.le_of_ble_eq_true rfl, Nat.le_of_ble_eq_true rfl⟩ ?_
        have hj2 : ∀ (w1 : Int32), w1 = (if (f_X9_has y1 x1) = 0 then 0 else ((1 : Int32) <<< (x3 &&& 31)) : Int32) → VV p l e (rmD 2) s m args below meth c (MQ below (CQ D A (some (.int r)) (wl E (va_up G 1 S))) args s 0 0 A) D A 4 (0, 0) 30 [.int w1, .int x2] [(0, .ref (eA E 1 0)), (1, .int x1), (3, .int x3)] (wl E (va_up G 1 S)) := by
          intro w1 ew1
          subst ew1
          refine v_ior K dX9_callers_30 ?_
          refine v_istore_n (lv' := [(2, .int (x2 ||| (if (f_X9_has y1 x1) = 0 then 0 else ((1 : Int32) <<< (x3 &&& 31)) : Int32))), (0, .ref (eA E 1 0)), (1, .int x1), (3, .int x3)]) K dX9_callers_31 rfl (by decide) rfl ?_
          refine v_iinc (v := x3 + 1) (lv' := [(3, .int (x3 + 1)), (2, .int (x2 ||| (if (f_X9_has y1 x1) = 0 then 0 else ((1 : Int32) <<< (x3 &&& 31)) : Int32))), (0, .ref (eA E 1 0)), (1, .int x1)]) K 3 dX9_callers_32 rfl rfl (by decide) rfl ?_
          refine v_goto (tgt := 4) K dX9_callers_35 (by decide) ?_
          exact v_lsub [2, 3, 1, 0] rfl (ih (x2 ||| (if (f_X9_has y1 x1) = 0 then 0 else ((1 : Int32) <<< (x3 &&& 31)) : Int32)) (x3 + 1) hf)
        refine v_if_eq (tgt := 29) K dX9_callers_20 (by decide) (fun hc2 => ?_) (fun hc2 => ?_)
        · refine v_iconst K dX9_callers_29 ki_0 ?_
          exact v_lsub [0, 1, 3] rfl (hj2 0 (if_pos hc2).symm)
        · refine v_iconst K dX9_callers_23 ki_1 ?_
          refine v_iload_n K 3 dX9_callers_24 rfl rfl ?_
          refine v_ishl K dX9_callers_25 ?_
          refine v_goto (tgt := 30) K dX9_callers_26 (by decide) ?_
          exact v_lsub [0, 1, 3] rfl (hj2 ((1 : Int32) <<< (x3 &&& 31)) (if_neg hc2).symm)
  unfold f_X9_callers at hf
  refine v_iconst K dX9_callers_0 ki_0 ?_
  refine v_istore_n (lv' := [(2, .int 0), (0, .ref (eA E 1 0)), (1, .int x1)]) K dX9_callers_1 rfl (by decide) rfl ?_
  refine v_iconst K dX9_callers_2 ki_0 ?_
  refine v_istore_n (lv' := [(3, .int 0), (2, .int 0), (0, .ref (eA E 1 0)), (1, .int x1)]) K dX9_callers_3 rfl (by decide) rfl ?_
  refine v_lsub [2, 3, 1, 0] rfl ?_
  exact L4 x1 S 5000 0 0 hf
set_option maxRecDepth 20000 in
theorem c_X9_ofReader {G : Gs} (hM : ModG E) {S : St}  {x1 : Int32} {x2 : Int32} {r : Int32} (hf : f_X9_ofReader S x1 x2 = some r) : Ctr l D E A yX9_ofReader cX9_ofReader 3 (some .int) (rmD 3) [.ref (eA E 1 0), .int x1, .int x2] (wl E (va_up G 1 S)) (some (.int r)) (wl E (va_up G 1 S)) := by
  refine Ctr.of (own := RX9) pn_X9 rfl (Nat.le_of_ble_eq_true rfl) ?_
  intro p e s m args below meth c K
  refine v_lv (lv' := [(0, .ref (eA E 1 0)), (1, .int x1), (2, .int x2)]) rfl ?_
  unfold f_X9_ofReader at hf
  refine v_iload_n K 1 dX9_ofReader_0 rfl rfl ?_
  refine v_callSi (As := [.int x1]) (rest := []) K mk_X9_129 dX9_ofReader_1 (c_X9_isReader  rfl) rfl rfl (Nat.le_of_ble_eq_true rfl) ⟨rfl, rfl⟩ ⟨Nat.le_of_ble_eq_true rfl, Nat.le_of_ble_eq_true rfl⟩ ?_
  refine v_if_ne (tgt := 9) K dX9_ofReader_4 (by decide) (fun hc1 => ?_) (fun hc1 => ?_)
  · have hf := it_neg hc1 hf
    refine v_iload_n K 2 dX9_ofReader_9 rfl rfl ?_
    by_cases hw10_0 : x2 = 0
    · have hf := it_pos hw10_0 hf
      have ht10 := tsi_6 hw10_0 (by decide)
      refine v_tableIn (off := 42) (tgt := 52) K dX9_ofReader_10 ht10.1 ht10.2 (by rw [hw10_0]; rfl) (by decide) ?_
      refine v_aload_n K 0 dX9_ofReader_52 rfl rfl ?_
      refine v_iload_n K 1 dX9_ofReader_53 rfl rfl ?_
      refine v_iconst K dX9_ofReader_54 ki_0 ?_
      obtain ⟨y1, hy1, hf⟩ := bd_el hf
      refine v_callWi (As := [.int x1, .int 0]) (rest := []) K mk_X9_49 dX9_ofReader_55 (c_X9_ofR hM hy1) (hM 0 (by decide)) rfl rfl rfl rfl rfl (Nat.le_of_ble_eq_true rfl) ⟨rfl, rfl⟩ ⟨Nat.le_of_ble_eq_true rfl, Nat.le_of_ble_eq_true rfl⟩ ?_
      exact v_iret K rfl dX9_ofReader_58 (ev_o hf) rfl
    · have hf := it_neg hw10_0 hf
      by_cases hw10_1 : x2 = 1
      · have hf := it_pos hw10_1 hf
        have ht10 := tsi_6 hw10_1 (by decide)
        refine v_tableIn (off := 49) (tgt := 59) K dX9_ofReader_10 ht10.1 ht10.2 (by rw [hw10_1]; rfl) (by decide) ?_
        refine v_aload_n K 0 dX9_ofReader_59 rfl rfl ?_
        refine v_iload_n K 1 dX9_ofReader_60 rfl rfl ?_
        obtain ⟨y2, hy2, hf⟩ := bd_el hf
        refine v_callWi (As := [.int x1]) (rest := []) K mk_X9_78 dX9_ofReader_61 (c_X9_group hM hy2) (hM 0 (by decide)) rfl rfl rfl rfl rfl (Nat.le_of_ble_eq_true rfl) ⟨rfl, rfl⟩ ⟨Nat.le_of_ble_eq_true rfl, Nat.le_of_ble_eq_true rfl⟩ ?_
        exact v_iret K rfl dX9_ofReader_64 (ev_o hf) rfl
      · have hf := it_neg hw10_1 hf
        by_cases hw10_2 : x2 = 2
        · have hf := it_pos hw10_2 hf
          have ht10 := tsi_6 hw10_2 (by decide)
          refine v_tableIn (off := 55) (tgt := 65) K dX9_ofReader_10 ht10.1 ht10.2 (by rw [hw10_2]; rfl) (by decide) ?_
          refine v_aload_n K 0 dX9_ofReader_65 rfl rfl ?_
          refine v_iload_n K 1 dX9_ofReader_66 rfl rfl ?_
          refine v_iconst K dX9_ofReader_67 ki_1 ?_
          obtain ⟨y3, hy3, hf⟩ := bd_el hf
          refine v_callWi (As := [.int x1, .int 1]) (rest := []) K mk_X9_49 dX9_ofReader_68 (c_X9_ofR hM hy3) (hM 0 (by decide)) rfl rfl rfl rfl rfl (Nat.le_of_ble_eq_true rfl) ⟨rfl, rfl⟩ ⟨Nat.le_of_ble_eq_true rfl, Nat.le_of_ble_eq_true rfl⟩ ?_
          exact v_iret K rfl dX9_ofReader_71 (ev_o hf) rfl
        · have hf := it_neg hw10_2 hf
          by_cases hw10_3 : x2 = 3
          · have hf := it_pos hw10_3 hf
            have ht10 := tsi_6 hw10_3 (by decide)
            refine v_tableIn (off := 62) (tgt := 72) K dX9_ofReader_10 ht10.1 ht10.2 (by rw [hw10_3]; rfl) (by decide) ?_
            refine v_aload_n K 0 dX9_ofReader_72 rfl rfl ?_
            refine v_iload_n K 1 dX9_ofReader_73 rfl rfl ?_
            refine v_iconst K dX9_ofReader_74 ki_2 ?_
            obtain ⟨y4, hy4, hf⟩ := bd_el hf
            refine v_callWi (As := [.int x1, .int 2]) (rest := []) K mk_X9_49 dX9_ofReader_75 (c_X9_ofR hM hy4) (hM 0 (by decide)) rfl rfl rfl rfl rfl (Nat.le_of_ble_eq_true rfl) ⟨rfl, rfl⟩ ⟨Nat.le_of_ble_eq_true rfl, Nat.le_of_ble_eq_true rfl⟩ ?_
            exact v_iret K rfl dX9_ofReader_78 (ev_o hf) rfl
          · have hf := it_neg hw10_3 hf
            by_cases hw10_4 : x2 = 4
            · have hf := it_pos hw10_4 hf
              have ht10 := tsi_6 hw10_4 (by decide)
              refine v_tableIn (off := 69) (tgt := 79) K dX9_ofReader_10 ht10.1 ht10.2 (by rw [hw10_4]; rfl) (by decide) ?_
              refine v_aload_n K 0 dX9_ofReader_79 rfl rfl ?_
              refine v_iload_n K 1 dX9_ofReader_80 rfl rfl ?_
              refine v_iconst K dX9_ofReader_81 ki_3 ?_
              obtain ⟨y5, hy5, hf⟩ := bd_el hf
              refine v_callWi (As := [.int x1, .int 3]) (rest := []) K mk_X9_49 dX9_ofReader_82 (c_X9_ofR hM hy5) (hM 0 (by decide)) rfl rfl rfl rfl rfl (Nat.le_of_ble_eq_true rfl) ⟨rfl, rfl⟩ ⟨Nat.le_of_ble_eq_true rfl, Nat.le_of_ble_eq_true rfl⟩ ?_
              exact v_iret K rfl dX9_ofReader_85 (ev_o hf) rfl
            · have hf := it_neg hw10_4 hf
              by_cases hw10_5 : x2 = 5
              · have hf := it_pos hw10_5 hf
                have ht10 := tsi_6 hw10_5 (by decide)
                refine v_tableIn (off := 76) (tgt := 86) K dX9_ofReader_10 ht10.1 ht10.2 (by rw [hw10_5]; rfl) (by decide) ?_
                refine v_aload_n K 0 dX9_ofReader_86 rfl rfl ?_
                refine v_iload_n K 1 dX9_ofReader_87 rfl rfl ?_
                refine v_iconst K dX9_ofReader_88 ki_4 ?_
                obtain ⟨y6, hy6, hf⟩ := bd_el hf
                refine v_callWi (As := [.int x1, .int 4]) (rest := []) K mk_X9_49 dX9_ofReader_89 (c_X9_ofR hM hy6) (hM 0 (by decide)) rfl rfl rfl rfl rfl (Nat.le_of_ble_eq_true rfl) ⟨rfl, rfl⟩ ⟨Nat.le_of_ble_eq_true rfl, Nat.le_of_ble_eq_true rfl⟩ ?_
                exact v_iret K rfl dX9_ofReader_92 (ev_o hf) rfl
              · have hf := it_neg hw10_5 hf
                by_cases hw10_6 : x2 = 6
                · have hf := it_pos hw10_6 hf
                  have ht10 := tsi_6 hw10_6 (by decide)
                  refine v_tableIn (off := 83) (tgt := 93) K dX9_ofReader_10 ht10.1 ht10.2 (by rw [hw10_6]; rfl) (by decide) ?_
                  refine v_aload_n K 0 dX9_ofReader_93 rfl rfl ?_
                  refine v_iload_n K 1 dX9_ofReader_94 rfl rfl ?_
                  obtain ⟨y7, hy7, hf⟩ := bd_el hf
                  refine v_callWi (As := [.int x1]) (rest := []) K mk_X9_173 dX9_ofReader_95 (c_X9_callers hM hy7) (hM 0 (by decide)) rfl rfl rfl rfl rfl (Nat.le_of_ble_eq_true rfl) ⟨rfl, rfl⟩ ⟨Nat.le_of_ble_eq_true rfl, Nat.le_of_ble_eq_true rfl⟩ ?_
                  exact v_iret K rfl dX9_ofReader_98 (ev_o hf) rfl
                · have hf := it_neg hw10_6 hf
                  refine v_tableOut (tgt := 99) K dX9_ofReader_10 (tso_6 hw10_0 hw10_1 hw10_2 hw10_3 hw10_4 hw10_5 hw10_6) (by decide) ?_
                  refine v_bipush K dX9_ofReader_99 kb_m2 ?_
                  exact v_iret K rfl dX9_ofReader_101 (ev_o hf) rfl
  · have hf := it_pos hc1 hf
    refine v_iconst K dX9_ofReader_7 ki_m1 ?_
    exact v_iret K rfl dX9_ofReader_8 (ev_o hf) rfl
set_option maxRecDepth 20000 in
theorem c_X9_copies {G : Gs} (hM : ModG E) {S : St}  {x1 : Int32} {r : Int32} (hf : f_X9_copies S x1 = some r) : Ctr l D E A yX9_copies cX9_copies 5 (some .int) (rmD 1) [.ref (eA E 1 0), .int x1] (wl E (va_up G 1 S)) (some (.int r)) (wl E (va_up G 1 S)) := by
  refine Ctr.of (own := RX9) pn_X9 rfl (Nat.le_of_ble_eq_true rfl) ?_
  intro p e s m args below meth c K
  refine v_lv (lv' := [(0, .ref (eA E 1 0)), (1, .int x1)]) rfl ?_
  have L13 : ∀ (x1 : Int32) (x3 : Int32) (S : St), ∀ (k : Int32 → Int32 → Option (Int32)), (∀ (x2 : Int32) (x4 : Int32), k x2 x4 = some r → VV p l e (rmD 1) s m args below meth c (MQ below (CQ D A (some (.int r)) (wl E (va_up G 1 S))) args s 0 0 A) D A 5 (0, 0) 54 [] [(0, .ref (eA E 1 0)), (1, .int x1), (2, .int x2), (3, .int x3)] (wl E (va_up G 1 S))) → ∀ (n : Nat) (x2 : Int32) (x4 : Int32), f_X9_copies_L13 x1 x3 S k n x2 x4 = some r → VV p l e (rmD 1) s m args below meth c (MQ below (CQ D A (some (.int r)) (wl E (va_up G 1 S))) args s 0 0 A) D A 5 (0, 0) 13 [] [(0, .ref (eA E 1 0)), (1, .int x1), (2, .int x2), (3, .int x3), (4, .int x4)] (wl E (va_up G 1 S)) := by
    intro x1 x3 S k hk n
    induction n with
    | zero =>
      intro x2 x4 hf
      rw [f_X9_copies_L13] at hf
      cases hf
    | succ n ih =>
      intro x2 x4 hf
      rw [f_X9_copies_L13] at hf
      refine v_iload K 4 dX9_copies_13 rfl ?_
      refine v_aload_n K 0 dX9_copies_15 rfl rfl ?_
      refine v_iload_n K 3 dX9_copies_16 rfl rfl ?_
      refine v_iconst K dX9_copies_17 ki_0 ?_
      obtain ⟨y1, hy1, hf⟩ := bd_el hf
      refine v_callWi (As := [.int x3, .int 0]) (rest := [.int x4]) K mk_X9_49 dX9_copies_18 (c_X9_ofR hM hy1) (hM 0 (by decide)) rfl rfl rfl rfl rfl (Nat.le_of_ble_eq_true rfl) ⟨rfl, rfl⟩ ⟨Nat.le_of_ble_eq_true rfl, Nat.le_of_ble_eq_true rfl⟩ ?_
      refine v_icmp_ge (tgt := 54) K dX9_copies_21 (by decide) (fun hc2 => ?_) (fun hc2 => ?_)
      · have hf := it_pos hc2 hf
        exact v_lsub [0, 1, 2, 3] rfl (hk x2 x4 hf)
      · have hf := it_neg hc2 hf
        refine v_iload_n K 2 dX9_copies_24 rfl rfl ?_
        refine v_iload_n K 1 dX9_copies_25 rfl rfl ?_
        refine jn_1 (fun (u46_0 : Int32) => (u46_0 = 0 ∨ u46_0 = 1) → VV p l e (rmD 1) s m args below meth c (MQ below (CQ D A (some (.int r)) (wl E (va_up G 1 S))) args s 0 0 A) D A 5 (0, 0) 46 [.int u46_0, .int x2] [(0, .ref (eA E 1 0)), (1, .int x1), (3, .int x3), (4, .int x4)] (wl E (va_up G 1 S))) hf (fun u46_0 hf hb46 => ?_) (fun hj2 hf => ?_)
        · refine v_iadd K dX9_copies_46 ?_
          refine v_istore_n (lv' := [(2, .int (x2 + u46_0)), (0, .ref (eA E 1 0)), (1, .int x1), (3, .int x3), (4, .int x4)]) K dX9_copies_47 rfl (by decide) rfl ?_
          refine v_iinc (v := x4 + 1) (lv' := [(4, .int (x4 + 1)), (2, .int (x2 + u46_0)), (0, .ref (eA E 1 0)), (1, .int x1), (3, .int x3)]) K 4 dX9_copies_48 rfl rfl (by decide) rfl ?_
          refine v_goto (tgt := 13) K dX9_copies_51 (by decide) ?_
          exact v_lsub [2, 3, 1, 4, 0] rfl (ih (x2 + u46_0) (x4 + 1) hf)
        · refine v_if_eq (tgt := 41) K dX9_copies_26 (by decide) (fun hc3 => ?_) (fun hc3 => ?_)
          · have hf := it_pos hc3 hf
            refine v_iconst K dX9_copies_41 ki_1 ?_
            refine v_goto (tgt := 46) K dX9_copies_42 (by decide) ?_
            exact v_lsub [0, 1, 3, 4] rfl (hj2 1 hf (Or.inr rfl))
          · have hf := it_neg hc3 hf
            refine v_aload_n K 0 dX9_copies_29 rfl rfl ?_
            refine v_iload_n K 3 dX9_copies_30 rfl rfl ?_
            refine v_iload K 4 dX9_copies_31 rfl ?_
            refine v_iconst K dX9_copies_33 ki_2 ?_
            obtain ⟨y3, hy3, hf⟩ := bd_el hf
            refine v_callWi (As := [.int x3, .int x4, .int 2]) (rest := [.int x2]) K mk_X9_53 dX9_copies_34 (c_X9_ofC hM hy3) (hM 0 (by decide)) rfl rfl rfl rfl rfl (Nat.le_of_ble_eq_true rfl) ⟨rfl, rfl⟩ ⟨Nat.le_of_ble_eq_true rfl, Nat.le_of_ble_eq_true rfl⟩ ?_
            refine v_iconst K dX9_copies_37 ki_1 ?_
            refine v_icmp_ne (tgt := 45) K dX9_copies_38 (by decide) (fun hc4 => ?_) (fun hc4 => ?_)
            · have hf := it_neg hc4 hf
              refine v_iconst K dX9_copies_45 ki_0 ?_
              exact v_lsub [0, 1, 3, 4] rfl (hj2 0 hf (Or.inl rfl))
            · have hf := it_pos hc4 hf
              refine v_iconst K dX9_copies_41 ki_1 ?_
              refine v_goto (tgt := 46) K dX9_copies_42 (by decide) ?_
              exact v_lsub [0, 1, 3, 4] rfl (hj2 1 hf (Or.inr rfl))
  have L4 : ∀ (x1 : Int32) (S : St), ∀ (n : Nat) (x2 : Int32) (x3 : Int32), f_X9_copies_L4 x1 S n x2 x3 = some r → VV p l e (rmD 1) s m args below meth c (MQ below (CQ D A (some (.int r)) (wl E (va_up G 1 S))) args s 0 0 A) D A 5 (0, 0) 4 [] [(0, .ref (eA E 1 0)), (1, .int x1), (2, .int x2), (3, .int x3)] (wl E (va_up G 1 S)) := by
    intro x1 S n
    induction n with
    | zero =>
      intro x2 x3 hf
      rw [f_X9_copies_L4] at hf
      cases hf
    | succ n ih =>
      intro x2 x3 hf
      rw [f_X9_copies_L4] at hf
      refine v_iload_n K 3 dX9_copies_4 rfl rfl ?_
      refine v_bipush K dX9_copies_5 kb_16 ?_
      refine v_icmp_ge (tgt := 60) K dX9_copies_7 (by decide) (fun hc1 => ?_) (fun hc1 => ?_)
      · have hf := it_pos hc1 hf
        refine v_iload_n K 2 dX9_copies_60 rfl rfl ?_
        exact v_iret K rfl dX9_copies_61 (ev_o hf) rfl
      · have hf := it_neg hc1 hf
        refine v_iconst K dX9_copies_10 ki_0 ?_
        refine v_istore (lv' := [(4, .int 0), (0, .ref (eA E 1 0)), (1, .int x1), (2, .int x2), (3, .int x3)]) K dX9_copies_11 (by decide) rfl ?_
        refine v_lsub [1, 2, 3, 4, 0] rfl ?_
        refine L13 x1 x3 S _ ?_ 5000 x2 0 hf
        intro x2_54 x4_54 hf
        refine v_iinc (v := x3 + 1) (lv' := [(3, .int (x3 + 1)), (0, .ref (eA E 1 0)), (1, .int x1), (2, .int x2_54)]) K 3 dX9_copies_54 rfl rfl (by decide) rfl ?_
        refine v_goto (tgt := 4) K dX9_copies_57 (by decide) ?_
        exact v_lsub [1, 2, 3, 0] rfl (ih x2_54 (x3 + 1) hf)
  unfold f_X9_copies at hf
  refine v_iconst K dX9_copies_0 ki_0 ?_
  refine v_istore_n (lv' := [(2, .int 0), (0, .ref (eA E 1 0)), (1, .int x1)]) K dX9_copies_1 rfl (by decide) rfl ?_
  refine v_iconst K dX9_copies_2 ki_0 ?_
  refine v_istore_n (lv' := [(3, .int 0), (2, .int 0), (0, .ref (eA E 1 0)), (1, .int x1)]) K dX9_copies_3 rfl (by decide) rfl ?_
  refine v_lsub [2, 3, 1, 0] rfl ?_
  exact L4 x1 S 5000 0 0 hf
set_option maxRecDepth 20000 in
theorem c_X9_count {G : Gs} (hM : ModG E) {S : St}  {x1 : Int32} {r : Int32} (hf : f_X9_count S x1 = some r) : Ctr l D E A yX9_count cX9_count 2 (some .int) (rmD 2) [.ref (eA E 1 0), .int x1] (wl E (va_up G 1 S)) (some (.int r)) (wl E (va_up G 1 S)) := by
  refine Ctr.of (own := RX9) pn_X9 rfl (Nat.le_of_ble_eq_true rfl) ?_
  intro p e s m args below meth c K
  refine v_lv (lv' := [(0, .ref (eA E 1 0)), (1, .int x1)]) rfl ?_
  unfold f_X9_count at hf
  refine v_iload_n K 1 dX9_count_0 rfl rfl ?_
  refine v_bipush K dX9_count_1 kb_7 ?_
  refine v_bipush K dX9_count_3 kb_10 ?_
  refine v_callSi (As := [.int x1, .int 7, .int 10]) (rest := []) K mk_X9_35 dX9_count_5 (c_X9_in  rfl) rfl rfl (Nat.le_of_ble_eq_true rfl) ⟨rfl, rfl⟩ ⟨Nat.le_of_ble_eq_true rfl, Nat.le_of_ble_eq_true rfl⟩ ?_
  refine v_if_eq (tgt := 21) K dX9_count_8 (by decide) (fun hc1 => ?_) (fun hc1 => ?_)
  · have hf := it_pos hc1 hf
    refine v_iload_n K 1 dX9_count_21 rfl rfl ?_
    by_cases hw22_0 : x1 = 0
    · have hf := it_pos hw22_0 hf
      have ht22 := tsi_12 hw22_0 (by decide)
      refine v_tableIn (off := 66) (tgt := 88) K dX9_count_22 ht22.1 ht22.2 (by rw [hw22_0]; rfl) (by decide) ?_
      refine v_aload_n K 0 dX9_count_88 rfl rfl ?_
      refine g_get K fk_X9_7 dX9_count_89 (hM 0 (by decide)) rfl rfl ?_
      refine v_iconst K dX9_count_92 ki_4 ?_
      refine v_iload_n K 1 dX9_count_93 rfl rfl ?_
      refine v_iadd K dX9_count_94 ?_
      obtain ⟨hi95, hf⟩ := ix_el hf
      refine g_iald K dX9_count_95 (hM 1 (by decide)) rfl hi95 ?_
      exact v_iret K rfl dX9_count_96 (ev_o hf) rfl
    · have hf := it_neg hw22_0 hf
      by_cases hw22_1 : x1 = 1
      · have hf := it_pos hw22_1 hf
        have ht22 := tsi_12 hw22_1 (by decide)
        refine v_tableIn (off := 66) (tgt := 88) K dX9_count_22 ht22.1 ht22.2 (by rw [hw22_1]; rfl) (by decide) ?_
        refine v_aload_n K 0 dX9_count_88 rfl rfl ?_
        refine g_get K fk_X9_7 dX9_count_89 (hM 0 (by decide)) rfl rfl ?_
        refine v_iconst K dX9_count_92 ki_4 ?_
        refine v_iload_n K 1 dX9_count_93 rfl rfl ?_
        refine v_iadd K dX9_count_94 ?_
        obtain ⟨hi95, hf⟩ := ix_el hf
        refine g_iald K dX9_count_95 (hM 1 (by decide)) rfl hi95 ?_
        exact v_iret K rfl dX9_count_96 (ev_o hf) rfl
      · have hf := it_neg hw22_1 hf
        by_cases hw22_2 : x1 = 2
        · have hf := it_pos hw22_2 hf
          have ht22 := tsi_12 hw22_2 (by decide)
          refine v_tableIn (off := 66) (tgt := 88) K dX9_count_22 ht22.1 ht22.2 (by rw [hw22_2]; rfl) (by decide) ?_
          refine v_aload_n K 0 dX9_count_88 rfl rfl ?_
          refine g_get K fk_X9_7 dX9_count_89 (hM 0 (by decide)) rfl rfl ?_
          refine v_iconst K dX9_count_92 ki_4 ?_
          refine v_iload_n K 1 dX9_count_93 rfl rfl ?_
          refine v_iadd K dX9_count_94 ?_
          obtain ⟨hi95, hf⟩ := ix_el hf
          refine g_iald K dX9_count_95 (hM 1 (by decide)) rfl hi95 ?_
          exact v_iret K rfl dX9_count_96 (ev_o hf) rfl
        · have hf := it_neg hw22_2 hf
          by_cases hw22_3 : x1 = 3
          · have hf := it_pos hw22_3 hf
            have ht22 := tsi_12 hw22_3 (by decide)
            refine v_tableIn (off := 75) (tgt := 97) K dX9_count_22 ht22.1 ht22.2 (by rw [hw22_3]; rfl) (by decide) ?_
            refine v_aload_n K 0 dX9_count_97 rfl rfl ?_
            refine v_iload_n K 1 dX9_count_98 rfl rfl ?_
            refine v_iconst K dX9_count_99 ki_4 ?_
            have hj2 : ∀ (w1 : Int32), w1 = (if x1 = 4 then 1 else 0 : Int32) → VV p l e (rmD 2) s m args below meth c (MQ below (CQ D A (some (.int r)) (wl E (va_up G 1 S))) args s 0 0 A) D A 2 (0, 0) 108 [.int w1, .ref (eA E 1 0)] [] (wl E (va_up G 1 S)) := by
              intro w1 ew1
              subst ew1
              obtain ⟨y1, hy1, hf⟩ := bd_el hf
              refine v_callWi (As := [.int (if x1 = 4 then 1 else 0 : Int32)]) (rest := []) K mk_X9_176 dX9_count_108 (c_X9_copies hM hy1) (hM 0 (by decide)) rfl rfl rfl rfl rfl (Nat.le_of_ble_eq_true rfl) ⟨rfl, rfl⟩ ⟨Nat.le_of_ble_eq_true rfl, Nat.le_of_ble_eq_true rfl⟩ ?_
              exact v_iret K rfl dX9_count_111 (ev_o hf) rfl
            refine v_icmp_ne (tgt := 107) K dX9_count_100 (by decide) (fun hc2 => ?_) (fun hc2 => ?_)
            · refine v_iconst K dX9_count_107 ki_0 ?_
              exact v_lsub [] rfl (hj2 0 (if_neg hc2).symm)
            · refine v_iconst K dX9_count_103 ki_1 ?_
              refine v_goto (tgt := 108) K dX9_count_104 (by decide) ?_
              exact v_lsub [] rfl (hj2 1 (if_pos hc2).symm)
          · have hf := it_neg hw22_3 hf
            by_cases hw22_4 : x1 = 4
            · have hf := it_pos hw22_4 hf
              have ht22 := tsi_12 hw22_4 (by decide)
              refine v_tableIn (off := 75) (tgt := 97) K dX9_count_22 ht22.1 ht22.2 (by rw [hw22_4]; rfl) (by decide) ?_
              refine v_aload_n K 0 dX9_count_97 rfl rfl ?_
              refine v_iload_n K 1 dX9_count_98 rfl rfl ?_
              refine v_iconst K dX9_count_99 ki_4 ?_
              have hj4 : ∀ (w1 : Int32), w1 = (if x1 = 4 then 1 else 0 : Int32) → VV p l e (rmD 2) s m args below meth c (MQ below (CQ D A (some (.int r)) (wl E (va_up G 1 S))) args s 0 0 A) D A 2 (0, 0) 108 [.int w1, .ref (eA E 1 0)] [] (wl E (va_up G 1 S)) := by
                intro w1 ew1
                subst ew1
                obtain ⟨y3, hy3, hf⟩ := bd_el hf
                refine v_callWi (As := [.int (if x1 = 4 then 1 else 0 : Int32)]) (rest := []) K mk_X9_176 dX9_count_108 (c_X9_copies hM hy3) (hM 0 (by decide)) rfl rfl rfl rfl rfl (Nat.le_of_ble_eq_true rfl) ⟨rfl, rfl⟩ ⟨Nat.le_of_ble_eq_true rfl, Nat.le_of_ble_eq_true rfl⟩ ?_
                exact v_iret K rfl dX9_count_111 (ev_o hf) rfl
              refine v_icmp_ne (tgt := 107) K dX9_count_100 (by decide) (fun hc3 => ?_) (fun hc3 => ?_)
              · refine v_iconst K dX9_count_107 ki_0 ?_
                exact v_lsub [] rfl (hj4 0 (if_neg hc3).symm)
              · refine v_iconst K dX9_count_103 ki_1 ?_
                refine v_goto (tgt := 108) K dX9_count_104 (by decide) ?_
                exact v_lsub [] rfl (hj4 1 (if_pos hc3).symm)
            · have hf := it_neg hw22_4 hf
              by_cases hw22_5 : x1 = 5
              · have hf := it_pos hw22_5 hf
                have ht22 := tsi_12 hw22_5 (by decide)
                refine v_tableIn (off := 90) (tgt := 112) K dX9_count_22 ht22.1 ht22.2 (by rw [hw22_5]; rfl) (by decide) ?_
                refine v_aload_n K 0 dX9_count_112 rfl rfl ?_
                refine v_iconst K dX9_count_113 ki_1 ?_
                refine v_iconst K dX9_count_114 ki_3 ?_
                obtain ⟨y5, hy5, hf⟩ := bd_el hf
                refine v_callWi (As := [.int 1, .int 3]) (rest := []) K mk_X9_164 dX9_count_115 (c_X9_cardsThat hM hy5) (hM 0 (by decide)) rfl rfl rfl rfl rfl (Nat.le_of_ble_eq_true rfl) ⟨rfl, rfl⟩ ⟨Nat.le_of_ble_eq_true rfl, Nat.le_of_ble_eq_true rfl⟩ ?_
                exact v_iret K rfl dX9_count_118 (ev_o hf) rfl
              · have hf := it_neg hw22_5 hf
                by_cases hw22_6 : x1 = 6
                · have hf := it_pos hw22_6 hf
                  have ht22 := tsi_12 hw22_6 (by decide)
                  refine v_tableIn (off := 97) (tgt := 119) K dX9_count_22 ht22.1 ht22.2 (by rw [hw22_6]; rfl) (by decide) ?_
                  refine v_aload_n K 0 dX9_count_119 rfl rfl ?_
                  refine v_iconst K dX9_count_120 ki_2 ?_
                  refine v_iconst K dX9_count_121 ki_2 ?_
                  obtain ⟨y6, hy6, hf⟩ := bd_el hf
                  refine v_callWi (As := [.int 2, .int 2]) (rest := []) K mk_X9_164 dX9_count_122 (c_X9_cardsThat hM hy6) (hM 0 (by decide)) rfl rfl rfl rfl rfl (Nat.le_of_ble_eq_true rfl) ⟨rfl, rfl⟩ ⟨Nat.le_of_ble_eq_true rfl, Nat.le_of_ble_eq_true rfl⟩ ?_
                  exact v_iret K rfl dX9_count_125 (ev_o hf) rfl
                · have hf := it_neg hw22_6 hf
                  by_cases hw22_7 : x1 = 7
                  · have hf := it_pos hw22_7 hf
                    have ht22 := tsi_12 hw22_7 (by decide)
                    refine v_tableIn (off := 114) (tgt := 136) K dX9_count_22 ht22.1 ht22.2 (by rw [hw22_7]; rfl) (by decide) ?_
                    refine v_bipush K dX9_count_136 kb_m2 ?_
                    exact v_iret K rfl dX9_count_138 (ev_o hf) rfl
                  · have hf := it_neg hw22_7 hf
                    by_cases hw22_8 : x1 = 8
                    · have hf := it_pos hw22_8 hf
                      have ht22 := tsi_12 hw22_8 (by decide)
                      refine v_tableIn (off := 114) (tgt := 136) K dX9_count_22 ht22.1 ht22.2 (by rw [hw22_8]; rfl) (by decide) ?_
                      refine v_bipush K dX9_count_136 kb_m2 ?_
                      exact v_iret K rfl dX9_count_138 (ev_o hf) rfl
                    · have hf := it_neg hw22_8 hf
                      by_cases hw22_9 : x1 = 9
                      · have hf := it_pos hw22_9 hf
                        have ht22 := tsi_12 hw22_9 (by decide)
                        refine v_tableIn (off := 114) (tgt := 136) K dX9_count_22 ht22.1 ht22.2 (by rw [hw22_9]; rfl) (by decide) ?_
                        refine v_bipush K dX9_count_136 kb_m2 ?_
                        exact v_iret K rfl dX9_count_138 (ev_o hf) rfl
                      · have hf := it_neg hw22_9 hf
                        by_cases hw22_10 : x1 = 10
                        · have hf := it_pos hw22_10 hf
                          have ht22 := tsi_12 hw22_10 (by decide)
                          refine v_tableIn (off := 114) (tgt := 136) K dX9_count_22 ht22.1 ht22.2 (by rw [hw22_10]; rfl) (by decide) ?_
                          refine v_bipush K dX9_count_136 kb_m2 ?_
                          exact v_iret K rfl dX9_count_138 (ev_o hf) rfl
                        · have hf := it_neg hw22_10 hf
                          by_cases hw22_11 : x1 = 11
                          · have hf := it_pos hw22_11 hf
                            have ht22 := tsi_12 hw22_11 (by decide)
                            refine v_tableIn (off := 104) (tgt := 126) K dX9_count_22 ht22.1 ht22.2 (by rw [hw22_11]; rfl) (by decide) ?_
                            refine v_aload_n K 0 dX9_count_126 rfl rfl ?_
                            refine g_get K fk_X9_180 dX9_count_127 (hM 0 (by decide)) rfl rfl ?_
                            exact v_iret K rfl dX9_count_130 (ev_o hf) rfl
                          · have hf := it_neg hw22_11 hf
                            by_cases hw22_12 : x1 = 12
                            · have hf := it_pos hw22_12 hf
                              have ht22 := tsi_12 hw22_12 (by decide)
                              refine v_tableIn (off := 109) (tgt := 131) K dX9_count_22 ht22.1 ht22.2 (by rw [hw22_12]; rfl) (by decide) ?_
                              refine v_aload_n K 0 dX9_count_131 rfl rfl ?_
                              refine g_get K fk_X9_39 dX9_count_132 (hM 0 (by decide)) rfl rfl ?_
                              exact v_iret K rfl dX9_count_135 (ev_o hf) rfl
                            · have hf := it_neg hw22_12 hf
                              refine v_tableOut (tgt := 136) K dX9_count_22 (tso_12 hw22_0 hw22_1 hw22_2 hw22_3 hw22_4 hw22_5 hw22_6 hw22_7 hw22_8 hw22_9 hw22_10 hw22_11 hw22_12) (by decide) ?_
                              refine v_bipush K dX9_count_136 kb_m2 ?_
                              exact v_iret K rfl dX9_count_138 (ev_o hf) rfl
  · have hf := it_neg hc1 hf
    refine v_aload_n K 0 dX9_count_11 rfl rfl ?_
    refine g_get K fk_X9_7 dX9_count_12 (hM 0 (by decide)) rfl rfl ?_
    refine v_iload_n K 1 dX9_count_15 rfl rfl ?_
    refine v_bipush K dX9_count_16 kb_7 ?_
    refine v_isub K dX9_count_18 ?_
    obtain ⟨hi19, hf⟩ := ix_el hf
    refine g_iald K dX9_count_19 (hM 1 (by decide)) rfl hi19 ?_
    exact v_iret K rfl dX9_count_20 (ev_o hf) rfl
set_option maxRecDepth 20000 in
theorem c_X9_costOfReading {G : Gs} (hM : ModG E) {S S' : St}  {x1 : Int32} {x2 : Int32} {r : Int32} (hf : f_X9_costOfReading S x1 x2 = some (r, S')) : Ctr l D E A yX9_costOfReading cX9_costOfReading 5 (some .int) (rmD 7) [.ref (eA E 1 0), .int x1, .int x2] (wl E (va_up G 1 S)) (some (.int r)) (wl E (va_up G 1 S')) := by
  refine Ctr.of (own := RX9) pn_X9 rfl (Nat.le_of_ble_eq_true rfl) ?_
  intro p e s m args below meth c K
  refine v_lv (lv' := [(0, .ref (eA E 1 0)), (1, .int x1), (2, .int x2)]) rfl ?_
  unfold f_X9_costOfReading at hf
  refine v_iload_n K 1 dX9_costOfReading_0 rfl rfl ?_
  refine v_callSi (As := [.int x1]) (rest := []) K mk_X9_129 dX9_costOfReading_1 (c_X9_isReader  rfl) rfl rfl (Nat.le_of_ble_eq_true rfl) ⟨rfl, rfl⟩ ⟨Nat.le_of_ble_eq_true rfl, Nat.le_of_ble_eq_true rfl⟩ ?_
  refine v_if_eq (tgt := 14) K dX9_costOfReading_4 (by decide) (fun hc1 => ?_) (fun hc1 => ?_)
  · have hf := it_pos hc1 hf
    refine v_iconst K dX9_costOfReading_14 ki_m1 ?_
    exact v_iret K rfl dX9_costOfReading_15 (ev_q hf) (ew_q hf)
  · have hf := it_neg hc1 hf
    refine v_iload_n K 2 dX9_costOfReading_7 rfl rfl ?_
    refine v_callSi (As := [.int x2]) (rest := []) K mk_X9_133 dX9_costOfReading_8 (c_X9_isNote  rfl) rfl rfl (Nat.le_of_ble_eq_true rfl) ⟨rfl, rfl⟩ ⟨Nat.le_of_ble_eq_true rfl, Nat.le_of_ble_eq_true rfl⟩ ?_
    refine v_if_ne (tgt := 16) K dX9_costOfReading_11 (by decide) (fun hc2 => ?_) (fun hc2 => ?_)
    · have hf := it_neg hc2 hf
      refine v_aload_n K 0 dX9_costOfReading_16 rfl rfl ?_
      obtain ⟨S1, hS1, hf⟩ := bd_el hf
      refine v_callWn (As := []) (rest := []) K mk_X9_183 dX9_costOfReading_17 (c_X9_layAside hM hS1) (hM 0 (by decide)) rfl rfl rfl rfl rfl (Nat.le_of_ble_eq_true rfl) ⟨rfl, rfl⟩ ⟨Nat.le_of_ble_eq_true rfl, Nat.le_of_ble_eq_true rfl⟩ ?_
      refine v_aload_n K 0 dX9_costOfReading_20 rfl rfl ?_
      refine g_get K fk_X9_7 dX9_costOfReading_21 (hM 0 (by decide)) rfl rfl ?_
      refine v_iconst K dX9_costOfReading_24 ki_4 ?_
      obtain ⟨hi25, hf⟩ := ix_el hf
      refine g_iald K dX9_costOfReading_25 (hM 1 (by decide)) rfl hi25 ?_
      refine v_istore_n (lv' := [(3, .int (S1 1 (4 : Int32).toNatClampNeg)), (0, .ref (eA E 1 0)), (1, .int x1), (2, .int x2)]) K dX9_costOfReading_26 rfl (by decide) rfl ?_
      refine v_aload_n K 1 dX9_costOfReading_27 rfl rfl ?_
      refine v_iload_n K 2 dX9_costOfReading_28 rfl rfl ?_
      refine v_iload_n K 3 dX9_costOfReading_29 rfl rfl ?_
      obtain ⟨y3, S2, hS2, hf⟩ := bdp_el hf
      refine v_callWi (As := [.int x1, .int x2]) (rest := []) K mk_X9_143 dX9_costOfReading_30 (c_X9_reads hM hS2) (hM 0 (by decide)) rfl rfl rfl rfl rfl (Nat.le_of_ble_eq_true rfl) ⟨rfl, rfl⟩ ⟨Nat.le_of_ble_eq_true rfl, Nat.le_of_ble_eq_true rfl⟩ ?_
      refine v_pop K dX9_costOfReading_33 rfl ?_
      refine v_aload_n K 1 dX9_costOfReading_34 rfl rfl ?_
      refine g_get K fk_X9_7 dX9_costOfReading_35 (hM 0 (by decide)) rfl rfl ?_
      refine v_iconst K dX9_costOfReading_38 ki_4 ?_
      obtain ⟨hi39, hf⟩ := ix_el hf
      refine g_iald K dX9_costOfReading_39 (hM 1 (by decide)) rfl hi39 ?_
      refine v_iload_n K 0 dX9_costOfReading_40 rfl rfl ?_
      refine v_isub K dX9_costOfReading_41 ?_
      refine v_istore (lv' := [(4, .int ((S2 1 (4 : Int32).toNatClampNeg) - (S1 1 (4 : Int32).toNatClampNeg))), (3, .int (S1 1 (4 : Int32).toNatClampNeg)), (0, .ref (eA E 1 0)), (1, .int x1), (2, .int x2)]) K dX9_costOfReading_42 (by decide) rfl ?_
      refine v_aload_n K 2 dX9_costOfReading_44 rfl rfl ?_
      obtain ⟨S4, hS4, hf⟩ := bd_el hf
      refine v_callWn (As := []) (rest := []) K mk_X9_186 dX9_costOfReading_45 (c_X9_layBack hM hS4) (hM 0 (by decide)) rfl rfl rfl rfl rfl (Nat.le_of_ble_eq_true rfl) ⟨rfl, rfl⟩ ⟨Nat.le_of_ble_eq_true rfl, Nat.le_of_ble_eq_true rfl⟩ ?_
      refine v_iload K 0 dX9_costOfReading_48 rfl ?_
      exact v_iret K rfl dX9_costOfReading_50 (ev_q hf) (ew_q hf)
    · have hf := it_pos hc2 hf
      refine v_iconst K dX9_costOfReading_14 ki_m1 ?_
      exact v_iret K rfl dX9_costOfReading_15 (ev_q hf) (ew_q hf)
set_option maxRecDepth 20000 in
theorem c_X9_cost {G : Gs} (hM : ModG E) {S S' : St}  {x1 : Int32} {x2 : Int32} {x3 : Int32} {r : Int32} (hf : f_X9_cost S x1 x2 x3 = some (r, S')) : Ctr l D E A yX9_cost cX9_cost 6 (some .int) (rmD 7) [.ref (eA E 1 0), .int x1, .int x2, .int x3] (wl E (va_up G 1 S)) (some (.int r)) (wl E (va_up G 1 S')) := by
  refine Ctr.of (own := RX9) pn_X9 rfl (Nat.le_of_ble_eq_true rfl) ?_
  intro p e s m args below meth c K
  refine v_lv (lv' := [(0, .ref (eA E 1 0)), (1, .int x1), (2, .int x2), (3, .int x3)]) rfl ?_
  unfold f_X9_cost at hf
  refine v_aload_n K 0 dX9_cost_0 rfl rfl ?_
  obtain ⟨S1, hS1, hf⟩ := bd_el hf
  refine v_callWn (As := []) (rest := []) K mk_X9_183 dX9_cost_1 (c_X9_layAside hM hS1) (hM 0 (by decide)) rfl rfl rfl rfl rfl (Nat.le_of_ble_eq_true rfl) ⟨rfl, rfl⟩ ⟨Nat.le_of_ble_eq_true rfl, Nat.le_of_ble_eq_true rfl⟩ ?_
  refine v_aload_n K 0 dX9_cost_4 rfl rfl ?_
  refine g_get K fk_X9_7 dX9_cost_5 (hM 0 (by decide)) rfl rfl ?_
  refine v_iconst K dX9_cost_8 ki_4 ?_
  refine v_iload_n K 3 dX9_cost_9 rfl rfl ?_
  refine v_iadd K dX9_cost_10 ?_
  obtain ⟨hi11, hf⟩ := ix_el hf
  refine g_iald K dX9_cost_11 (hM 1 (by decide)) rfl hi11 ?_
  refine v_istore (lv' := [(4, .int (S1 1 (4 + x3).toNatClampNeg)), (0, .ref (eA E 1 0)), (1, .int x1), (2, .int x2), (3, .int x3)]) K dX9_cost_12 (by decide) rfl ?_
  refine v_aload_n K 1 dX9_cost_14 rfl rfl ?_
  refine v_iload_n K 2 dX9_cost_15 rfl rfl ?_
  refine v_iload_n K 3 dX9_cost_16 rfl rfl ?_
  refine v_iconst K dX9_cost_17 ki_0 ?_
  obtain ⟨y3, S2, hS2, hf⟩ := bdp_el hf
  refine v_callWi (As := [.int x1, .int x2, .int 0]) (rest := []) K mk_X9_150 dX9_cost_18 (c_X9_changes hM hS2) (hM 0 (by decide)) rfl rfl rfl rfl rfl (Nat.le_of_ble_eq_true rfl) ⟨rfl, rfl⟩ ⟨Nat.le_of_ble_eq_true rfl, Nat.le_of_ble_eq_true rfl⟩ ?_
  refine v_pop K dX9_cost_21 rfl ?_
  refine v_aload_n K 1 dX9_cost_22 rfl rfl ?_
  refine g_get K fk_X9_7 dX9_cost_23 (hM 0 (by decide)) rfl rfl ?_
  refine v_iconst K dX9_cost_26 ki_4 ?_
  refine v_iload_n K 4 dX9_cost_27 rfl rfl ?_
  refine v_iadd K dX9_cost_28 ?_
  obtain ⟨hi29, hf⟩ := ix_el hf
  refine g_iald K dX9_cost_29 (hM 1 (by decide)) rfl hi29 ?_
  refine v_iload K 0 dX9_cost_30 rfl ?_
  refine v_isub K dX9_cost_32 ?_
  refine v_istore (lv' := [(5, .int ((S2 1 (4 + x3).toNatClampNeg) - (S1 1 (4 + x3).toNatClampNeg))), (4, .int (S1 1 (4 + x3).toNatClampNeg)), (0, .ref (eA E 1 0)), (1, .int x1), (2, .int x2), (3, .int x3)]) K dX9_cost_33 (by decide) rfl ?_
  refine v_aload_n K 2 dX9_cost_35 rfl rfl ?_
  obtain ⟨S4, hS4, hf⟩ := bd_el hf
  refine v_callWn (As := []) (rest := []) K mk_X9_186 dX9_cost_36 (c_X9_layBack hM hS4) (hM 0 (by decide)) rfl rfl rfl rfl rfl (Nat.le_of_ble_eq_true rfl) ⟨rfl, rfl⟩ ⟨Nat.le_of_ble_eq_true rfl, Nat.le_of_ble_eq_true rfl⟩ ?_
  refine v_iload K 0 dX9_cost_39 rfl ?_
  exact v_iret K rfl dX9_cost_41 (ev_q hf) (ew_q hf)
set_option maxRecDepth 20000 in
theorem c_X9_costOfChange {G : Gs} (hM : ModG E) {S S' : St}  {x1 : Int32} {x2 : Int32} {x3 : Int32} {r : Int32} (hf : f_X9_costOfChange S x1 x2 x3 = some (r, S')) : Ctr l D E A yX9_costOfChange cX9_costOfChange 4 (some .int) (rmD 8) [.ref (eA E 1 0), .int x1, .int x2, .int x3] (wl E (va_up G 1 S)) (some (.int r)) (wl E (va_up G 1 S')) := by
  refine Ctr.of (own := RX9) pn_X9 rfl (Nat.le_of_ble_eq_true rfl) ?_
  intro p e s m args below meth c K
  refine v_lv (lv' := [(0, .ref (eA E 1 0)), (1, .int x1), (2, .int x2), (3, .int x3)]) rfl ?_
  unfold f_X9_costOfChange at hf
  refine v_iload_n K 1 dX9_costOfChange_0 rfl rfl ?_
  refine v_callSi (As := [.int x1]) (rest := []) K mk_X9_129 dX9_costOfChange_1 (c_X9_isReader  rfl) rfl rfl (Nat.le_of_ble_eq_true rfl) ⟨rfl, rfl⟩ ⟨Nat.le_of_ble_eq_true rfl, Nat.le_of_ble_eq_true rfl⟩ ?_
  refine v_if_eq (tgt := 14) K dX9_costOfChange_4 (by decide) (fun hc1 => ?_) (fun hc1 => ?_)
  · have hf := it_pos hc1 hf
    refine v_iconst K dX9_costOfChange_14 ki_m1 ?_
    exact v_iret K rfl dX9_costOfChange_15 (ev_q hf) (ew_q hf)
  · have hf := it_neg hc1 hf
    refine v_iload_n K 2 dX9_costOfChange_7 rfl rfl ?_
    refine v_callSi (As := [.int x2]) (rest := []) K mk_X9_133 dX9_costOfChange_8 (c_X9_isNote  rfl) rfl rfl (Nat.le_of_ble_eq_true rfl) ⟨rfl, rfl⟩ ⟨Nat.le_of_ble_eq_true rfl, Nat.le_of_ble_eq_true rfl⟩ ?_
    refine v_if_ne (tgt := 16) K dX9_costOfChange_11 (by decide) (fun hc2 => ?_) (fun hc2 => ?_)
    · have hf := it_neg hc2 hf
      refine v_iload_n K 3 dX9_costOfChange_16 rfl rfl ?_
      refine v_iconst K dX9_costOfChange_17 ki_0 ?_
      refine v_iconst K dX9_costOfChange_18 ki_1 ?_
      refine v_callSi (As := [.int x3, .int 0, .int 1]) (rest := []) K mk_X9_35 dX9_costOfChange_19 (c_X9_in  rfl) rfl rfl (Nat.le_of_ble_eq_true rfl) ⟨rfl, rfl⟩ ⟨Nat.le_of_ble_eq_true rfl, Nat.le_of_ble_eq_true rfl⟩ ?_
      refine v_if_eq (tgt := 35) K dX9_costOfChange_22 (by decide) (fun hc3 => ?_) (fun hc3 => ?_)
      · have hf := it_pos hc3 hf
        refine v_bipush K dX9_costOfChange_35 kb_m2 ?_
        exact v_iret K rfl dX9_costOfChange_37 (ev_q hf) (ew_q hf)
      · have hf := it_neg hc3 hf
        refine v_aload_n K 0 dX9_costOfChange_25 rfl rfl ?_
        refine v_iload_n K 1 dX9_costOfChange_26 rfl rfl ?_
        refine v_iload_n K 2 dX9_costOfChange_27 rfl rfl ?_
        refine v_iload_n K 3 dX9_costOfChange_28 rfl rfl ?_
        obtain ⟨y2, S1, hS1, hf⟩ := bdp_el hf
        refine v_callWi (As := [.int x1, .int x2, .int x3]) (rest := []) K mk_X9_189 dX9_costOfChange_29 (c_X9_cost hM hS1) (hM 0 (by decide)) rfl rfl rfl rfl rfl (Nat.le_of_ble_eq_true rfl) ⟨rfl, rfl⟩ ⟨Nat.le_of_ble_eq_true rfl, Nat.le_of_ble_eq_true rfl⟩ ?_
        refine v_goto (tgt := 37) K dX9_costOfChange_32 (by decide) ?_
        exact v_iret K rfl dX9_costOfChange_37 (ev_q hf) (ew_q hf)
    · have hf := it_pos hc2 hf
      refine v_iconst K dX9_costOfChange_14 ki_m1 ?_
      exact v_iret K rfl dX9_costOfChange_15 (ev_q hf) (ew_q hf)
set_option maxRecDepth 20000 in
theorem c_X9_cheapest {G : Gs} (hM : ModG E) {S S' : St}  {x1 : Int32} {r : Int32} (hf : f_X9_cheapest S x1 = some (r, S')) : Ctr l D E A yX9_cheapest cX9_cheapest 6 (some .int) (rmD 8) [.ref (eA E 1 0), .int x1] (wl E (va_up G 1 S)) (some (.int r)) (wl E (va_up G 1 S')) := by
  refine Ctr.of (own := RX9) pn_X9 rfl (Nat.le_of_ble_eq_true rfl) ?_
  intro p e s m args below meth c K
  refine v_lv (lv' := [(0, .ref (eA E 1 0)), (1, .int x1)]) rfl ?_
  have L22 : ∀ (x1 : Int32), ∀ (n : Nat) (x2 : Int32) (x3 : Int32) (x4 : Int32) (S : St), f_X9_cheapest_L22 x1 n x2 x3 x4 S = some (r, S') → VV p l e (rmD 8) s m args below meth c (MQ below (CQ D A (some (.int r)) (wl E (va_up G 1 S'))) args s 0 0 A) D A 6 (0, 0) 22 [] [(0, .ref (eA E 1 0)), (1, .int x1), (2, .int x2), (3, .int x3), (4, .int x4)] (wl E (va_up G 1 S)) := by
    intro x1 n
    induction n with
    | zero =>
      intro x2 x3 x4 S hf
      rw [f_X9_cheapest_L22] at hf
      cases hf
    | succ n ih =>
      intro x2 x3 x4 S hf
      rw [f_X9_cheapest_L22] at hf
      refine v_iload K 4 dX9_cheapest_22 rfl ?_
      refine v_bipush K dX9_cheapest_24 kb_16 ?_
      refine v_icmp_ge (tgt := 71) K dX9_cheapest_26 (by decide) (fun hc2 => ?_) (fun hc2 => ?_)
      · have hf := it_pos hc2 hf
        refine v_iload_n K 2 dX9_cheapest_71 rfl rfl ?_
        exact v_iret K rfl dX9_cheapest_72 (ev_q hf) (ew_q hf)
      · have hf := it_neg hc2 hf
        refine v_aload_n K 0 dX9_cheapest_29 rfl rfl ?_
        refine v_iload K 4 dX9_cheapest_30 rfl ?_
        refine v_iload_n K 1 dX9_cheapest_32 rfl rfl ?_
        refine v_iconst K dX9_cheapest_33 ki_0 ?_
        obtain ⟨y4, S3, hS3, hf⟩ := bdp_el hf
        refine v_callWi (As := [.int x4, .int x1, .int 0]) (rest := []) K mk_X9_189 dX9_cheapest_34 (c_X9_cost hM hS3) (hM 0 (by decide)) rfl rfl rfl rfl rfl (Nat.le_of_ble_eq_true rfl) ⟨rfl, rfl⟩ ⟨Nat.le_of_ble_eq_true rfl, Nat.le_of_ble_eq_true rfl⟩ ?_
        refine v_istore (lv' := [(5, .int y4), (0, .ref (eA E 1 0)), (1, .int x1), (2, .int x2), (3, .int x3), (4, .int x4)]) K dX9_cheapest_37 (by decide) rfl ?_
        refine v_iload K 0 dX9_cheapest_39 rfl ?_
        refine v_iload_n K 4 dX9_cheapest_41 rfl rfl ?_
        have hj6 : ∀ (w1 : Int32), w1 = (if x3 ≤ y4 then x2 else x4 : Int32) → VV p l e (rmD 8) s m args below meth c (MQ below (CQ D A (some (.int r)) (wl E (va_up G 1 S'))) args s 0 0 A) D A 6 (0, 0) 51 [.int w1] [(0, .ref (eA E 1 0)), (1, .int x1), (3, .int x3), (4, .int x4), (5, .int y4)] (wl E (va_up G 1 S3)) := by
          intro w1 ew1
          subst ew1
          refine v_istore_n (lv' := [(2, .int (if x3 ≤ y4 then x2 else x4 : Int32)), (0, .ref (eA E 1 0)), (1, .int x1), (3, .int x3), (4, .int x4), (5, .int y4)]) K dX9_cheapest_51 rfl (by decide) rfl ?_
          refine v_iload K 5 dX9_cheapest_52 rfl ?_
          refine v_iload_n K 3 dX9_cheapest_54 rfl rfl ?_
          have hj5 : ∀ (w1 : Int32), w1 = (if x3 ≤ y4 then x3 else y4 : Int32) → VV p l e (rmD 8) s m args below meth c (MQ below (CQ D A (some (.int r)) (wl E (va_up G 1 S'))) args s 0 0 A) D A 6 (0, 0) 64 [.int w1] [(0, .ref (eA E 1 0)), (1, .int x1), (2, .int (if x3 ≤ y4 then x2 else x4 : Int32)), (4, .int x4)] (wl E (va_up G 1 S3)) := by
            intro w1 ew1
            subst ew1
            refine v_istore_n (lv' := [(3, .int (if x3 ≤ y4 then x3 else y4 : Int32)), (0, .ref (eA E 1 0)), (1, .int x1), (2, .int (if x3 ≤ y4 then x2 else x4 : Int32)), (4, .int x4)]) K dX9_cheapest_64 rfl (by decide) rfl ?_
            refine v_iinc (v := x4 + 1) (lv' := [(4, .int (x4 + 1)), (3, .int (if x3 ≤ y4 then x3 else y4 : Int32)), (0, .ref (eA E 1 0)), (1, .int x1), (2, .int (if x3 ≤ y4 then x2 else x4 : Int32))]) K 4 dX9_cheapest_65 rfl rfl (by decide) rfl ?_
            refine v_goto (tgt := 22) K dX9_cheapest_68 (by decide) ?_
            exact v_lsub [2, 3, 4, 1, 0] rfl (ih (if x3 ≤ y4 then x2 else x4 : Int32) (if x3 ≤ y4 then x3 else y4 : Int32) (x4 + 1) S3 hf)
          refine v_icmp_ge (tgt := 63) K dX9_cheapest_55 (by decide) (fun hc4 => ?_) (fun hc4 => ?_)
          · refine v_iload_n K 3 dX9_cheapest_63 rfl rfl ?_
            exact v_lsub [1, 2, 0, 4] rfl (hj5 x3 (if_pos hc4).symm)
          · refine v_iload K 5 dX9_cheapest_58 rfl ?_
            refine v_goto (tgt := 64) K dX9_cheapest_60 (by decide) ?_
            exact v_lsub [1, 2, 0, 4] rfl (hj5 y4 (if_neg hc4).symm)
        refine v_icmp_ge (tgt := 50) K dX9_cheapest_42 (by decide) (fun hc3 => ?_) (fun hc3 => ?_)
        · refine v_iload_n K 3 dX9_cheapest_50 rfl rfl ?_
          exact v_lsub [1, 2, 4, 5, 0] rfl (hj6 x2 (if_pos hc3).symm)
        · refine v_iload K 5 dX9_cheapest_45 rfl ?_
          refine v_goto (tgt := 51) K dX9_cheapest_47 (by decide) ?_
          exact v_lsub [1, 2, 4, 5, 0] rfl (hj6 x4 (if_neg hc3).symm)
  unfold f_X9_cheapest at hf
  refine v_iload_n K 1 dX9_cheapest_0 rfl rfl ?_
  refine v_callSi (As := [.int x1]) (rest := []) K mk_X9_133 dX9_cheapest_1 (c_X9_isNote  rfl) rfl rfl (Nat.le_of_ble_eq_true rfl) ⟨rfl, rfl⟩ ⟨Nat.le_of_ble_eq_true rfl, Nat.le_of_ble_eq_true rfl⟩ ?_
  refine v_if_ne (tgt := 9) K dX9_cheapest_4 (by decide) (fun hc1 => ?_) (fun hc1 => ?_)
  · have hf := it_neg hc1 hf
    refine v_iconst K dX9_cheapest_9 ki_0 ?_
    refine v_istore_n (lv' := [(2, .int 0), (0, .ref (eA E 1 0)), (1, .int x1)]) K dX9_cheapest_10 rfl (by decide) rfl ?_
    refine v_aload_n K 1 dX9_cheapest_11 rfl rfl ?_
    refine v_iconst K dX9_cheapest_12 ki_0 ?_
    refine v_iload_n K 2 dX9_cheapest_13 rfl rfl ?_
    refine v_iconst K dX9_cheapest_14 ki_0 ?_
    obtain ⟨y2, S1, hS1, hf⟩ := bdp_el hf
    refine v_callWi (As := [.int 0, .int x1, .int 0]) (rest := []) K mk_X9_189 dX9_cheapest_15 (c_X9_cost hM hS1) (hM 0 (by decide)) rfl rfl rfl rfl rfl (Nat.le_of_ble_eq_true rfl) ⟨rfl, rfl⟩ ⟨Nat.le_of_ble_eq_true rfl, Nat.le_of_ble_eq_true rfl⟩ ?_
    refine v_istore_n (lv' := [(3, .int y2), (2, .int 0), (0, .ref (eA E 1 0)), (1, .int x1)]) K dX9_cheapest_18 rfl (by decide) rfl ?_
    refine v_iconst K dX9_cheapest_19 ki_1 ?_
    refine v_istore (lv' := [(4, .int 1), (3, .int y2), (2, .int 0), (0, .ref (eA E 1 0)), (1, .int x1)]) K dX9_cheapest_20 (by decide) rfl ?_
    refine v_lsub [3, 4, 2, 1, 0] rfl ?_
    exact L22 x1 5000 0 y2 1 S1 hf
  · have hf := it_pos hc1 hf
    refine v_iconst K dX9_cheapest_7 ki_m1 ?_
    exact v_iret K rfl dX9_cheapest_8 (ev_q hf) (ew_q hf)
set_option maxRecDepth 20000 in
theorem c_X9_fewestWasted {G : Gs} (hM : ModG E) {S S' : St}  {x1 : Int32} {r : Int32} (hf : f_X9_fewestWasted S x1 = some (r, S')) : Ctr l D E A yX9_fewestWasted cX9_fewestWasted 5 (some .int) (rmD 8) [.ref (eA E 1 0), .int x1] (wl E (va_up G 1 S)) (some (.int r)) (wl E (va_up G 1 S')) := by
  refine Ctr.of (own := RX9) pn_X9 rfl (Nat.le_of_ble_eq_true rfl) ?_
  intro p e s m args below meth c K
  refine v_lv (lv' := [(0, .ref (eA E 1 0)), (1, .int x1)]) rfl ?_
  have L10 : ∀ (x1 : Int32), ∀ (n : Nat) (x2 : Int32) (x3 : Int32) (S : St), f_X9_fewestWasted_L10 x1 n x2 x3 S = some (r, S') → VV p l e (rmD 8) s m args below meth c (MQ below (CQ D A (some (.int r)) (wl E (va_up G 1 S'))) args s 0 0 A) D A 5 (0, 0) 10 [] [(0, .ref (eA E 1 0)), (1, .int x1), (2, .int x2), (3, .int x3)] (wl E (va_up G 1 S)) := by
    intro x1 n
    induction n with
    | zero =>
      intro x2 x3 S hf
      rw [f_X9_fewestWasted_L10] at hf
      cases hf
    | succ n ih =>
      intro x2 x3 S hf
      rw [f_X9_fewestWasted_L10] at hf
      refine v_iload_n K 3 dX9_fewestWasted_10 rfl rfl ?_
      refine v_bipush K dX9_fewestWasted_11 kb_16 ?_
      refine v_icmp_ge (tgt := 48) K dX9_fewestWasted_13 (by decide) (fun hc1 => ?_) (fun hc1 => ?_)
      · have hf := it_pos hc1 hf
        refine v_iload_n K 2 dX9_fewestWasted_48 rfl rfl ?_
        exact v_iret K rfl dX9_fewestWasted_49 (ev_q hf) (ew_q hf)
      · have hf := it_neg hc1 hf
        refine v_iload_n K 2 dX9_fewestWasted_16 rfl rfl ?_
        refine v_if_le (tgt := 48) K dX9_fewestWasted_17 (by decide) (fun hc2 => ?_) (fun hc2 => ?_)
        · have hf := it_pos hc2 hf
          refine v_iload_n K 2 dX9_fewestWasted_48 rfl rfl ?_
          exact v_iret K rfl dX9_fewestWasted_49 (ev_q hf) (ew_q hf)
        · have hf := it_neg hc2 hf
          refine v_aload_n K 0 dX9_fewestWasted_20 rfl rfl ?_
          refine v_iload_n K 3 dX9_fewestWasted_21 rfl rfl ?_
          refine v_iload_n K 1 dX9_fewestWasted_22 rfl rfl ?_
          refine v_iconst K dX9_fewestWasted_23 ki_1 ?_
          obtain ⟨y4, S3, hS3, hf⟩ := bdp_el hf
          refine v_callWi (As := [.int x3, .int x1, .int 1]) (rest := []) K mk_X9_189 dX9_fewestWasted_24 (c_X9_cost hM hS3) (hM 0 (by decide)) rfl rfl rfl rfl rfl (Nat.le_of_ble_eq_true rfl) ⟨rfl, rfl⟩ ⟨Nat.le_of_ble_eq_true rfl, Nat.le_of_ble_eq_true rfl⟩ ?_
          refine v_istore (lv' := [(4, .int y4), (0, .ref (eA E 1 0)), (1, .int x1), (2, .int x2), (3, .int x3)]) K dX9_fewestWasted_27 (by decide) rfl ?_
          refine v_iload K 0 dX9_fewestWasted_29 rfl ?_
          refine v_iload_n K 3 dX9_fewestWasted_31 rfl rfl ?_
          have hj5 : ∀ (w1 : Int32), w1 = (if x2 ≤ y4 then x2 else y4 : Int32) → VV p l e (rmD 8) s m args below meth c (MQ below (CQ D A (some (.int r)) (wl E (va_up G 1 S'))) args s 0 0 A) D A 5 (0, 0) 41 [.int w1] [(0, .ref (eA E 1 0)), (1, .int x1), (3, .int x3)] (wl E (va_up G 1 S3)) := by
            intro w1 ew1
            subst ew1
            refine v_istore_n (lv' := [(2, .int (if x2 ≤ y4 then x2 else y4 : Int32)), (0, .ref (eA E 1 0)), (1, .int x1), (3, .int x3)]) K dX9_fewestWasted_41 rfl (by decide) rfl ?_
            refine v_iinc (v := x3 + 1) (lv' := [(3, .int (x3 + 1)), (2, .int (if x2 ≤ y4 then x2 else y4 : Int32)), (0, .ref (eA E 1 0)), (1, .int x1)]) K 3 dX9_fewestWasted_42 rfl rfl (by decide) rfl ?_
            refine v_goto (tgt := 10) K dX9_fewestWasted_45 (by decide) ?_
            exact v_lsub [2, 3, 1, 0] rfl (ih (if x2 ≤ y4 then x2 else y4 : Int32) (x3 + 1) S3 hf)
          refine v_icmp_ge (tgt := 40) K dX9_fewestWasted_32 (by decide) (fun hc3 => ?_) (fun hc3 => ?_)
          · refine v_iload_n K 3 dX9_fewestWasted_40 rfl rfl ?_
            exact v_lsub [1, 2, 4] rfl (hj5 x2 (if_pos hc3).symm)
          · refine v_iload K 0 dX9_fewestWasted_35 rfl ?_
            refine v_goto (tgt := 41) K dX9_fewestWasted_37 (by decide) ?_
            exact v_lsub [1, 2, 4] rfl (hj5 y4 (if_neg hc3).symm)
  unfold f_X9_fewestWasted at hf
  refine v_aload_n K 0 dX9_fewestWasted_0 rfl rfl ?_
  refine v_iconst K dX9_fewestWasted_1 ki_0 ?_
  refine v_iload_n K 1 dX9_fewestWasted_2 rfl rfl ?_
  refine v_iconst K dX9_fewestWasted_3 ki_1 ?_
  obtain ⟨y2, S1, hS1, hf⟩ := bdp_el hf
  refine v_callWi (As := [.int 0, .int x1, .int 1]) (rest := []) K mk_X9_189 dX9_fewestWasted_4 (c_X9_cost hM hS1) (hM 0 (by decide)) rfl rfl rfl rfl rfl (Nat.le_of_ble_eq_true rfl) ⟨rfl, rfl⟩ ⟨Nat.le_of_ble_eq_true rfl, Nat.le_of_ble_eq_true rfl⟩ ?_
  refine v_istore_n (lv' := [(2, .int y2), (0, .ref (eA E 1 0)), (1, .int x1)]) K dX9_fewestWasted_7 rfl (by decide) rfl ?_
  refine v_iconst K dX9_fewestWasted_8 ki_1 ?_
  refine v_istore_n (lv' := [(3, .int 1), (2, .int y2), (0, .ref (eA E 1 0)), (1, .int x1)]) K dX9_fewestWasted_9 rfl (by decide) rfl ?_
  refine v_lsub [2, 3, 1, 0] rfl ?_
  exact L10 x1 5000 y2 1 S1 hf
set_option maxRecDepth 20000 in
theorem c_X9_loudest {G : Gs} (hM : ModG E) {S S' : St}  {x1 : Int32} {r : Int32} (hf : f_X9_loudest S x1 = some (r, S')) : Ctr l D E A yX9_loudest cX9_loudest 6 (some .int) (rmD 9) [.ref (eA E 1 0), .int x1] (wl E (va_up G 1 S)) (some (.int r)) (wl E (va_up G 1 S')) := by
  refine Ctr.of (own := RX9) pn_X9 rfl (Nat.le_of_ble_eq_true rfl) ?_
  intro p e s m args below meth c K
  refine v_lv (lv' := [(0, .ref (eA E 1 0)), (1, .int x1)]) rfl ?_
  have L20 : ∀ (x1 : Int32), ∀ (k : Int32 → Int32 → Int32 → St → Option (Int32 × St)), (∀ (x2 : Int32) (x3 : Int32) (x4 : Int32) (S : St), k x2 x3 x4 S = some (r, S') → VV p l e (rmD 9) s m args below meth c (MQ below (CQ D A (some (.int r)) (wl E (va_up G 1 S'))) args s 0 0 A) D A 6 (0, 0) 67 [] [(1, .int x1), (2, .int x2), (3, .int x3)] (wl E (va_up G 1 S))) → ∀ (n : Nat) (x2 : Int32) (x3 : Int32) (x4 : Int32) (S : St), f_X9_loudest_L20 x1 k n x2 x3 x4 S = some (r, S') → VV p l e (rmD 9) s m args below meth c (MQ below (CQ D A (some (.int r)) (wl E (va_up G 1 S'))) args s 0 0 A) D A 6 (0, 0) 20 [] [(0, .ref (eA E 1 0)), (1, .int x1), (2, .int x2), (3, .int x3), (4, .int x4)] (wl E (va_up G 1 S)) := by
    intro x1 k hk n
    induction n with
    | zero =>
      intro x2 x3 x4 S hf
      rw [f_X9_loudest_L20] at hf
      cases hf
    | succ n ih =>
      intro x2 x3 x4 S hf
      rw [f_X9_loudest_L20] at hf
      refine v_iload K 4 dX9_loudest_20 rfl ?_
      refine v_bipush K dX9_loudest_22 kb_24 ?_
      refine v_icmp_ge (tgt := 67) K dX9_loudest_24 (by decide) (fun hc2 => ?_) (fun hc2 => ?_)
      · have hf := it_pos hc2 hf
        exact v_lsub [1, 2, 3] rfl (hk x2 x3 x4 S hf)
      · have hf := it_neg hc2 hf
        refine v_aload_n K 0 dX9_loudest_27 rfl rfl ?_
        refine v_iload K 4 dX9_loudest_28 rfl ?_
        obtain ⟨y2, S1, hS1, hf⟩ := bdp_el hf
        refine v_callWi (As := [.int x4]) (rest := []) K mk_X9_192 dX9_loudest_30 (c_X9_fewestWasted hM hS1) (hM 0 (by decide)) rfl rfl rfl rfl rfl (Nat.le_of_ble_eq_true rfl) ⟨rfl, rfl⟩ ⟨Nat.le_of_ble_eq_true rfl, Nat.le_of_ble_eq_true rfl⟩ ?_
        refine v_istore (lv' := [(5, .int y2), (0, .ref (eA E 1 0)), (1, .int x1), (2, .int x2), (3, .int x3), (4, .int x4)]) K dX9_loudest_33 (by decide) rfl ?_
        refine v_iload K 0 dX9_loudest_35 rfl ?_
        refine v_iload_n K 4 dX9_loudest_37 rfl rfl ?_
        have hj4 : ∀ (w1 : Int32), w1 = (if y2 ≤ x3 then x2 else x4 : Int32) → VV p l e (rmD 9) s m args below meth c (MQ below (CQ D A (some (.int r)) (wl E (va_up G 1 S'))) args s 0 0 A) D A 6 (0, 0) 47 [.int w1] [(0, .ref (eA E 1 0)), (1, .int x1), (3, .int x3), (4, .int x4), (5, .int y2)] (wl E (va_up G 1 S1)) := by
          intro w1 ew1
          subst ew1
          refine v_istore_n (lv' := [(2, .int (if y2 ≤ x3 then x2 else x4 : Int32)), (0, .ref (eA E 1 0)), (1, .int x1), (3, .int x3), (4, .int x4), (5, .int y2)]) K dX9_loudest_47 rfl (by decide) rfl ?_
          refine v_iload K 5 dX9_loudest_48 rfl ?_
          refine v_iload_n K 3 dX9_loudest_50 rfl rfl ?_
          have hj3 : ∀ (w1 : Int32), w1 = (if y2 ≤ x3 then x3 else y2 : Int32) → VV p l e (rmD 9) s m args below meth c (MQ below (CQ D A (some (.int r)) (wl E (va_up G 1 S'))) args s 0 0 A) D A 6 (0, 0) 60 [.int w1] [(0, .ref (eA E 1 0)), (1, .int x1), (2, .int (if y2 ≤ x3 then x2 else x4 : Int32)), (4, .int x4)] (wl E (va_up G 1 S1)) := by
            intro w1 ew1
            subst ew1
            refine v_istore_n (lv' := [(3, .int (if y2 ≤ x3 then x3 else y2 : Int32)), (0, .ref (eA E 1 0)), (1, .int x1), (2, .int (if y2 ≤ x3 then x2 else x4 : Int32)), (4, .int x4)]) K dX9_loudest_60 rfl (by decide) rfl ?_
            refine v_iinc (v := x4 + 1) (lv' := [(4, .int (x4 + 1)), (3, .int (if y2 ≤ x3 then x3 else y2 : Int32)), (0, .ref (eA E 1 0)), (1, .int x1), (2, .int (if y2 ≤ x3 then x2 else x4 : Int32))]) K 4 dX9_loudest_61 rfl rfl (by decide) rfl ?_
            refine v_goto (tgt := 20) K dX9_loudest_64 (by decide) ?_
            exact v_lsub [2, 3, 4, 1, 0] rfl (ih (if y2 ≤ x3 then x2 else x4 : Int32) (if y2 ≤ x3 then x3 else y2 : Int32) (x4 + 1) S1 hf)
          refine v_icmp_le (tgt := 59) K dX9_loudest_51 (by decide) (fun hc4 => ?_) (fun hc4 => ?_)
          · refine v_iload_n K 3 dX9_loudest_59 rfl rfl ?_
            exact v_lsub [1, 2, 0, 4] rfl (hj3 x3 (if_pos hc4).symm)
          · refine v_iload K 5 dX9_loudest_54 rfl ?_
            refine v_goto (tgt := 60) K dX9_loudest_56 (by decide) ?_
            exact v_lsub [1, 2, 0, 4] rfl (hj3 y2 (if_neg hc4).symm)
        refine v_icmp_le (tgt := 46) K dX9_loudest_38 (by decide) (fun hc3 => ?_) (fun hc3 => ?_)
        · refine v_iload_n K 3 dX9_loudest_46 rfl rfl ?_
          exact v_lsub [1, 2, 4, 5, 0] rfl (hj4 x2 (if_pos hc3).symm)
        · refine v_iload K 5 dX9_loudest_41 rfl ?_
          refine v_goto (tgt := 47) K dX9_loudest_43 (by decide) ?_
          exact v_lsub [1, 2, 4, 5, 0] rfl (hj4 x4 (if_neg hc3).symm)
  unfold f_X9_loudest at hf
  refine v_iload_n K 1 dX9_loudest_0 rfl rfl ?_
  refine v_iconst K dX9_loudest_1 ki_0 ?_
  refine v_iconst K dX9_loudest_2 ki_1 ?_
  refine v_callSi (As := [.int x1, .int 0, .int 1]) (rest := []) K mk_X9_35 dX9_loudest_3 (c_X9_in  rfl) rfl rfl (Nat.le_of_ble_eq_true rfl) ⟨rfl, rfl⟩ ⟨Nat.le_of_ble_eq_true rfl, Nat.le_of_ble_eq_true rfl⟩ ?_
  refine v_if_ne (tgt := 12) K dX9_loudest_6 (by decide) (fun hc1 => ?_) (fun hc1 => ?_)
  · have hf := it_neg hc1 hf
    refine v_bipush K dX9_loudest_12 kb_m6 ?_
    refine v_istore_n (lv' := [(2, .int (-6)), (0, .ref (eA E 1 0)), (1, .int x1)]) K dX9_loudest_14 rfl (by decide) rfl ?_
    refine v_iconst K dX9_loudest_15 ki_0 ?_
    refine v_istore_n (lv' := [(3, .int 0), (2, .int (-6)), (0, .ref (eA E 1 0)), (1, .int x1)]) K dX9_loudest_16 rfl (by decide) rfl ?_
    refine v_iconst K dX9_loudest_17 ki_0 ?_
    refine v_istore (lv' := [(4, .int 0), (3, .int 0), (2, .int (-6)), (0, .ref (eA E 1 0)), (1, .int x1)]) K dX9_loudest_18 (by decide) rfl ?_
    refine v_lsub [3, 4, 2, 1, 0] rfl ?_
    refine L20 x1 _ ?_ 5000 (-6) 0 0 S hf
    intro x2_67 x3_67 x4_67 S_67 hf
    refine v_iload_n K 1 dX9_loudest_67 rfl rfl ?_
    refine v_if_lt (tgt := 75) K dX9_loudest_68 (by decide) (fun hc5 => ?_) (fun hc5 => ?_)
    · have hf := it_pos hc5 hf
      refine v_iload_n K 1 dX9_loudest_75 rfl rfl ?_
      refine v_goto (tgt := 80) K dX9_loudest_76 (by decide) ?_
      exact v_iret K rfl dX9_loudest_80 (ev_q hf) (ew_q hf)
    · have hf := it_neg hc5 hf
      refine v_iload_n K 0 dX9_loudest_71 rfl rfl ?_
      refine v_if_ne (tgt := 79) K dX9_loudest_72 (by decide) (fun hc6 => ?_) (fun hc6 => ?_)
      · have hf := it_neg hc6 hf
        refine v_iload_n K 2 dX9_loudest_79 rfl rfl ?_
        exact v_iret K rfl dX9_loudest_80 (ev_q hf) (ew_q hf)
      · have hf := it_pos hc6 hf
        refine v_iload_n K 1 dX9_loudest_75 rfl rfl ?_
        refine v_goto (tgt := 80) K dX9_loudest_76 (by decide) ?_
        exact v_iret K rfl dX9_loudest_80 (ev_q hf) (ew_q hf)
  · have hf := it_pos hc1 hf
    refine v_bipush K dX9_loudest_9 kb_m2 ?_
    exact v_iret K rfl dX9_loudest_11 (ev_q hf) (ew_q hf)
set_option maxRecDepth 20000 in
theorem c_X9_messagesWith {G : Gs} (hM : ModG E) {S S' : St}  {x1 : Int32} {x2 : Int32} {r : Int32} (hf : f_X9_messagesWith S x1 x2 = some (r, S')) : Ctr l D E A yX9_messagesWith cX9_messagesWith 7 (some .int) (rmD 7) [.ref (eA E 1 0), .int x1, .int x2] (wl E (va_up G 1 S)) (some (.int r)) (wl E (va_up G 1 S')) := by
  refine Ctr.of (own := RX9) pn_X9 rfl (Nat.le_of_ble_eq_true rfl) ?_
  intro p e s m args below meth c K
  refine v_lv (lv' := [(0, .ref (eA E 1 0)), (1, .int x1), (2, .int x2)]) rfl ?_
  have L6 : ∀ (x1 : Int32) (x2 : Int32), ∀ (k : Int32 → St → Option (Int32 × St)), (∀ (x3 : Int32) (S : St), k x3 S = some (r, S') → VV p l e (rmD 7) s m args below meth c (MQ below (CQ D A (some (.int r)) (wl E (va_up G 1 S'))) args s 0 0 A) D A 7 (0, 0) 33 [] [(0, .ref (eA E 1 0)), (1, .int x1), (2, .int x2)] (wl E (va_up G 1 S))) → ∀ (n : Nat) (x3 : Int32) (S : St), f_X9_messagesWith_L6 x1 x2 k n x3 S = some (r, S') → VV p l e (rmD 7) s m args below meth c (MQ below (CQ D A (some (.int r)) (wl E (va_up G 1 S'))) args s 0 0 A) D A 7 (0, 0) 6 [] [(0, .ref (eA E 1 0)), (1, .int x1), (2, .int x2), (3, .int x3)] (wl E (va_up G 1 S)) := by
    intro x1 x2 k hk n
    induction n with
    | zero =>
      intro x3 S hf
      rw [f_X9_messagesWith_L6] at hf
      cases hf
    | succ n ih =>
      intro x3 S hf
      rw [f_X9_messagesWith_L6] at hf
      refine v_iload_n K 3 dX9_messagesWith_6 rfl rfl ?_
      refine v_bipush K dX9_messagesWith_7 kb_16 ?_
      refine v_icmp_ge (tgt := 33) K dX9_messagesWith_9 (by decide) (fun hc1 => ?_) (fun hc1 => ?_)
      · have hf := it_pos hc1 hf
        exact v_lsub [0, 1, 2] rfl (hk x3 S hf)
      · have hf := it_neg hc1 hf
        refine v_aload_n K 0 dX9_messagesWith_12 rfl rfl ?_
        refine g_get K fk_X9_7 dX9_messagesWith_13 (hM 0 (by decide)) rfl rfl ?_
        refine v_sipush K dX9_messagesWith_16 ks_128 ?_
        refine v_iconst K dX9_messagesWith_19 ki_5 ?_
        refine v_iload_n K 3 dX9_messagesWith_20 rfl rfl ?_
        refine v_imul K dX9_messagesWith_21 ?_
        refine v_iadd K dX9_messagesWith_22 ?_
        refine v_iconst K dX9_messagesWith_23 ki_0 ?_
        refine v_iadd K dX9_messagesWith_24 ?_
        refine v_iconst K dX9_messagesWith_25 ki_0 ?_
        obtain ⟨hi26, hf⟩ := ix_el hf
        obtain ⟨S2, hS2, hf⟩ := bnd_el hf
        refine g_iast K dX9_messagesWith_26 (hM 1 (by decide)) (fun _ => rfl) hi26 hS2 ?_
        refine v_iinc (v := x3 + 1) (lv' := [(3, .int (x3 + 1)), (0, .ref (eA E 1 0)), (1, .int x1), (2, .int x2)]) K 3 dX9_messagesWith_27 rfl rfl (by decide) rfl ?_
        refine v_goto (tgt := 6) K dX9_messagesWith_30 (by decide) ?_
        exact v_lsub [1, 2, 3, 0] rfl (ih (x3 + 1) S2 hf)
  have L35 : ∀ (x1 : Int32) (x2 : Int32), ∀ (k : Int32 → St → Option (Int32 × St)), (∀ (x3 : Int32) (S : St), k x3 S = some (r, S') → VV p l e (rmD 7) s m args below meth c (MQ below (CQ D A (some (.int r)) (wl E (va_up G 1 S'))) args s 0 0 A) D A 7 (0, 0) 54 [] [(0, .ref (eA E 1 0)), (1, .int x1), (2, .int x2)] (wl E (va_up G 1 S))) → ∀ (n : Nat) (x3 : Int32) (S : St), f_X9_messagesWith_L35 x1 x2 k n x3 S = some (r, S') → VV p l e (rmD 7) s m args below meth c (MQ below (CQ D A (some (.int r)) (wl E (va_up G 1 S'))) args s 0 0 A) D A 7 (0, 0) 35 [] [(0, .ref (eA E 1 0)), (1, .int x1), (2, .int x2), (3, .int x3)] (wl E (va_up G 1 S)) := by
    intro x1 x2 k hk n
    induction n with
    | zero =>
      intro x3 S hf
      rw [f_X9_messagesWith_L35] at hf
      cases hf
    | succ n ih =>
      intro x3 S hf
      rw [f_X9_messagesWith_L35] at hf
      refine v_iload_n K 3 dX9_messagesWith_35 rfl rfl ?_
      refine v_bipush K dX9_messagesWith_36 kb_24 ?_
      refine v_icmp_ge (tgt := 54) K dX9_messagesWith_38 (by decide) (fun hc2 => ?_) (fun hc2 => ?_)
      · have hf := it_pos hc2 hf
        exact v_lsub [0, 1, 2] rfl (hk x3 S hf)
      · have hf := it_neg hc2 hf
        refine v_aload_n K 0 dX9_messagesWith_41 rfl rfl ?_
        refine v_iload_n K 3 dX9_messagesWith_42 rfl rfl ?_
        refine v_iconst K dX9_messagesWith_43 ki_0 ?_
        refine v_iconst K dX9_messagesWith_44 ki_0 ?_
        obtain ⟨S3, hS3, hf⟩ := bd_el hf
        refine v_callWn (As := [.int x3, .int 0, .int 0]) (rest := []) K mk_X9_86 dX9_messagesWith_45 (c_X9_layCard hM hS3) (hM 0 (by decide)) rfl rfl rfl rfl rfl (Nat.le_of_ble_eq_true rfl) ⟨rfl, rfl⟩ ⟨Nat.le_of_ble_eq_true rfl, Nat.le_of_ble_eq_true rfl⟩ ?_
        refine v_iinc (v := x3 + 1) (lv' := [(3, .int (x3 + 1)), (0, .ref (eA E 1 0)), (1, .int x1), (2, .int x2)]) K 3 dX9_messagesWith_48 rfl rfl (by decide) rfl ?_
        refine v_goto (tgt := 35) K dX9_messagesWith_51 (by decide) ?_
        exact v_lsub [1, 2, 3, 0] rfl (ih (x3 + 1) S3 hf)
  have L77 : ∀ (k : Int32 → St → Option (Int32 × St)), (∀ (x3 : Int32) (S : St), k x3 S = some (r, S') → VV p l e (rmD 7) s m args below meth c (MQ below (CQ D A (some (.int r)) (wl E (va_up G 1 S'))) args s 0 0 A) D A 7 (0, 0) 153 [] [(0, .ref (eA E 1 0))] (wl E (va_up G 1 S))) → ∀ (n : Nat) (x3 : Int32) (S : St), f_X9_messagesWith_L77 k n x3 S = some (r, S') → VV p l e (rmD 7) s m args below meth c (MQ below (CQ D A (some (.int r)) (wl E (va_up G 1 S'))) args s 0 0 A) D A 7 (0, 0) 77 [] [(0, .ref (eA E 1 0)), (3, .int x3)] (wl E (va_up G 1 S)) := by
    intro k hk n
    induction n with
    | zero =>
      intro x3 S hf
      rw [f_X9_messagesWith_L77] at hf
      cases hf
    | succ n ih =>
      intro x3 S hf
      rw [f_X9_messagesWith_L77] at hf
      refine v_iload_n K 1 dX9_messagesWith_77 rfl rfl ?_
      refine v_aload_n K 0 dX9_messagesWith_78 rfl rfl ?_
      refine g_get K fk_X9_7 dX9_messagesWith_79 (hM 0 (by decide)) rfl rfl ?_
      refine v_bipush K dX9_messagesWith_82 kb_7 ?_
      obtain ⟨hi84, hf⟩ := ix_el hf
      refine g_iald K dX9_messagesWith_84 (hM 1 (by decide)) rfl hi84 ?_
      refine v_icmp_ge (tgt := 153) K dX9_messagesWith_85 (by decide) (fun hc3 => ?_) (fun hc3 => ?_)
      · have hf := it_pos hc3 hf
        exact v_lsub [0] rfl (hk x3 S hf)
      · have hf := it_neg hc3 hf
        refine v_aload_n K 0 dX9_messagesWith_88 rfl rfl ?_
        refine g_get K fk_X9_7 dX9_messagesWith_89 (hM 0 (by decide)) rfl rfl ?_
        refine v_sipush K dX9_messagesWith_92 ks_592 ?_
        refine v_iload_n K 1 dX9_messagesWith_95 rfl rfl ?_
        refine v_iadd K dX9_messagesWith_96 ?_
        obtain ⟨hi97, hf⟩ := ix_el hf
        refine g_iald K dX9_messagesWith_97 (hM 1 (by decide)) rfl hi97 ?_
        refine v_istore (lv' := [(4, .int (S 1 (592 + x3).toNatClampNeg)), (0, .ref (eA E 1 0)), (3, .int x3)]) K dX9_messagesWith_98 (by decide) rfl ?_
        refine v_iload K 0 dX9_messagesWith_100 rfl ?_
        refine v_iconst K dX9_messagesWith_102 ki_2 ?_
        refine v_idiv K dX9_messagesWith_103 (by decide) ?_
        refine v_bipush K dX9_messagesWith_104 kb_24 ?_
        refine v_idiv K dX9_messagesWith_106 (by decide) ?_
        refine v_istore (lv' := [(5, .int (((S 1 (592 + x3).toNatClampNeg) / 2) / 24)), (4, .int (S 1 (592 + x3).toNatClampNeg)), (0, .ref (eA E 1 0)), (3, .int x3)]) K dX9_messagesWith_107 (by decide) rfl ?_
        refine v_iload K 1 dX9_messagesWith_109 rfl ?_
        refine v_iconst K dX9_messagesWith_111 ki_2 ?_
        refine v_idiv K dX9_messagesWith_112 (by decide) ?_
        refine v_bipush K dX9_messagesWith_113 kb_24 ?_
        refine v_irem K dX9_messagesWith_115 (by decide) ?_
        refine v_istore (lv' := [(6, .int (((S 1 (592 + x3).toNatClampNeg) / 2) - ((S 1 (592 + x3).toNatClampNeg) / 2) / 24 * 24)), (5, .int (((S 1 (592 + x3).toNatClampNeg) / 2) / 24)), (4, .int (S 1 (592 + x3).toNatClampNeg)), (0, .ref (eA E 1 0)), (3, .int x3)]) K dX9_messagesWith_116 (by decide) rfl ?_
        refine v_iload K 2 dX9_messagesWith_118 rfl ?_
        refine v_iconst K dX9_messagesWith_120 ki_2 ?_
        refine v_irem K dX9_messagesWith_121 (by decide) ?_
        refine jn_1 (fun (S_147 : St) => VV p l e (rmD 7) s m args below meth c (MQ below (CQ D A (some (.int r)) (wl E (va_up G 1 S'))) args s 0 0 A) D A 7 (0, 0) 147 [] [(0, .ref (eA E 1 0)), (3, .int x3)] (wl E (va_up G 1 S_147))) hf (fun S_147 hf => ?_) (fun hj7 hf => ?_)
        · refine v_iinc (v := x3 + 1) (lv' := [(3, .int (x3 + 1)), (0, .ref (eA E 1 0))]) K 1 dX9_messagesWith_147 rfl rfl (by decide) rfl ?_
          refine v_goto (tgt := 77) K dX9_messagesWith_150 (by decide) ?_
          exact v_lsub [1, 0] rfl (ih (x3 + 1) S_147 hf)
        · refine v_if_ne (tgt := 137) K dX9_messagesWith_122 (by decide) (fun hc4 => ?_) (fun hc4 => ?_)
          · have hf := it_neg hc4 hf
            refine v_aload_n K 3 dX9_messagesWith_137 rfl rfl ?_
            refine v_iload K 1 dX9_messagesWith_138 rfl ?_
            refine v_iload K 0 dX9_messagesWith_140 rfl ?_
            refine v_iconst K dX9_messagesWith_142 ki_0 ?_
            obtain ⟨y9, S8, hS8, hf⟩ := bdp_el hf
            refine v_callWi (As := [.int (((S 1 (592 + x3).toNatClampNeg) / 2) / 24), .int (((S 1 (592 + x3).toNatClampNeg) / 2) - ((S 1 (592 + x3).toNatClampNeg) / 2) / 24 * 24), .int 0]) (rest := []) K mk_X9_150 dX9_messagesWith_143 (c_X9_changes hM hS8) (hM 0 (by decide)) rfl rfl rfl rfl rfl (Nat.le_of_ble_eq_true rfl) ⟨rfl, rfl⟩ ⟨Nat.le_of_ble_eq_true rfl, Nat.le_of_ble_eq_true rfl⟩ ?_
            refine v_pop K dX9_messagesWith_146 rfl ?_
            exact v_lsub [3, 4] rfl (hj7 S8 hf)
          · have hf := it_pos hc4 hf
            refine v_aload_n K 3 dX9_messagesWith_125 rfl rfl ?_
            refine v_iload K 1 dX9_messagesWith_126 rfl ?_
            refine v_iload K 0 dX9_messagesWith_128 rfl ?_
            obtain ⟨y11, S10, hS10, hf⟩ := bdp_el hf
            refine v_callWi (As := [.int (((S 1 (592 + x3).toNatClampNeg) / 2) / 24), .int (((S 1 (592 + x3).toNatClampNeg) / 2) - ((S 1 (592 + x3).toNatClampNeg) / 2) / 24 * 24)]) (rest := []) K mk_X9_143 dX9_messagesWith_130 (c_X9_reads hM hS10) (hM 0 (by decide)) rfl rfl rfl rfl rfl (Nat.le_of_ble_eq_true rfl) ⟨rfl, rfl⟩ ⟨Nat.le_of_ble_eq_true rfl, Nat.le_of_ble_eq_true rfl⟩ ?_
            refine v_pop K dX9_messagesWith_133 rfl ?_
            refine v_goto (tgt := 147) K dX9_messagesWith_134 (by decide) ?_
            exact v_lsub [3, 4] rfl (hj7 S10 hf)
  unfold f_X9_messagesWith at hf
  refine v_aload_n K 0 dX9_messagesWith_0 rfl rfl ?_
  obtain ⟨S1, hS1, hf⟩ := bd_el hf
  refine v_callWn (As := []) (rest := []) K mk_X9_183 dX9_messagesWith_1 (c_X9_layAside hM hS1) (hM 0 (by decide)) rfl rfl rfl rfl rfl (Nat.le_of_ble_eq_true rfl) ⟨rfl, rfl⟩ ⟨Nat.le_of_ble_eq_true rfl, Nat.le_of_ble_eq_true rfl⟩ ?_
  refine v_iconst K dX9_messagesWith_4 ki_0 ?_
  refine v_istore_n (lv' := [(3, .int 0), (0, .ref (eA E 1 0)), (1, .int x1), (2, .int x2)]) K dX9_messagesWith_5 rfl (by decide) rfl ?_
  refine v_lsub [1, 2, 3, 0] rfl ?_
  refine L6 x1 x2 _ ?_ 5000 0 S1 hf
  intro x3_33 S_33 hf
  refine v_iconst K dX9_messagesWith_33 ki_0 ?_
  refine v_istore_n (lv' := [(3, .int 0), (0, .ref (eA E 1 0)), (1, .int x1), (2, .int x2)]) K dX9_messagesWith_34 rfl (by decide) rfl ?_
  refine v_lsub [1, 2, 3, 0] rfl ?_
  refine L35 x1 x2 _ ?_ 5000 0 S_33 hf
  intro x3_54 S_54 hf
  refine v_aload_n K 0 dX9_messagesWith_54 rfl rfl ?_
  refine g_get K fk_X9_7 dX9_messagesWith_55 (hM 0 (by decide)) rfl rfl ?_
  refine v_iconst K dX9_messagesWith_58 ki_0 ?_
  refine v_iload_n K 1 dX9_messagesWith_59 rfl rfl ?_
  obtain ⟨hi60, hf⟩ := ix_el hf
  obtain ⟨S4, hS4, hf⟩ := bnd_el hf
  refine g_iast K dX9_messagesWith_60 (hM 1 (by decide)) (fun _ => rfl) hi60 hS4 ?_
  refine v_aload_n K 0 dX9_messagesWith_61 rfl rfl ?_
  refine g_get K fk_X9_7 dX9_messagesWith_62 (hM 0 (by decide)) rfl rfl ?_
  refine v_iconst K dX9_messagesWith_65 ki_1 ?_
  refine v_iload_n K 2 dX9_messagesWith_66 rfl rfl ?_
  obtain ⟨hi67, hf⟩ := ix_el hf
  obtain ⟨S5, hS5, hf⟩ := bnd_el hf
  refine g_iast K dX9_messagesWith_67 (hM 1 (by decide)) (fun _ => rfl) hi67 hS5 ?_
  refine v_aload_n K 0 dX9_messagesWith_68 rfl rfl ?_
  refine g_get K fk_X9_7 dX9_messagesWith_69 (hM 0 (by decide)) rfl rfl ?_
  refine v_iconst K dX9_messagesWith_72 ki_4 ?_
  refine v_iconst K dX9_messagesWith_73 ki_0 ?_
  obtain ⟨hi74, hf⟩ := ix_el hf
  obtain ⟨S6, hS6, hf⟩ := bnd_el hf
  refine g_iast K dX9_messagesWith_74 (hM 1 (by decide)) (fun _ => rfl) hi74 hS6 ?_
  refine v_iconst K dX9_messagesWith_75 ki_0 ?_
  refine v_istore_n (lv' := [(3, .int 0), (0, .ref (eA E 1 0)), (1, .int x1), (2, .int x2)]) K dX9_messagesWith_76 rfl (by decide) rfl ?_
  refine v_lsub [1, 0] rfl ?_
  refine L77  _ ?_ 5000 0 S6 hf
  intro x3_153 S_153 hf
  refine v_aload_n K 0 dX9_messagesWith_153 rfl rfl ?_
  refine g_get K fk_X9_7 dX9_messagesWith_154 (hM 0 (by decide)) rfl rfl ?_
  refine v_iconst K dX9_messagesWith_157 ki_4 ?_
  obtain ⟨hi158, hf⟩ := ix_el hf
  refine g_iald K dX9_messagesWith_158 (hM 1 (by decide)) rfl hi158 ?_
  refine v_istore_n (lv' := [(3, .int (S_153 1 (4 : Int32).toNatClampNeg)), (0, .ref (eA E 1 0))]) K dX9_messagesWith_159 rfl (by decide) rfl ?_
  refine v_aload_n K 1 dX9_messagesWith_160 rfl rfl ?_
  obtain ⟨S12, hS12, hf⟩ := bd_el hf
  refine v_callWn (As := []) (rest := []) K mk_X9_186 dX9_messagesWith_161 (c_X9_layBack hM hS12) (hM 0 (by decide)) rfl rfl rfl rfl rfl (Nat.le_of_ble_eq_true rfl) ⟨rfl, rfl⟩ ⟨Nat.le_of_ble_eq_true rfl, Nat.le_of_ble_eq_true rfl⟩ ?_
  refine v_iload_n K 0 dX9_messagesWith_164 rfl rfl ?_
  exact v_iret K rfl dX9_messagesWith_165 (ev_q hf) (ew_q hf)
set_option maxRecDepth 20000 in
theorem c_X9_accountWith {G : Gs} (hM : ModG E) {S S' : St}  {x1 : Int32} {x2 : Int32} {r : Int32} (hf : f_X9_accountWith S x1 x2 = some (r, S')) : Ctr l D E A yX9_accountWith cX9_accountWith 3 (some .int) (rmD 8) [.ref (eA E 1 0), .int x1, .int x2] (wl E (va_up G 1 S)) (some (.int r)) (wl E (va_up G 1 S')) := by
  refine Ctr.of (own := RX9) pn_X9 rfl (Nat.le_of_ble_eq_true rfl) ?_
  intro p e s m args below meth c K
  refine v_lv (lv' := [(0, .ref (eA E 1 0)), (1, .int x1), (2, .int x2)]) rfl ?_
  unfold f_X9_accountWith at hf
  refine v_iload_n K 1 dX9_accountWith_0 rfl rfl ?_
  refine v_iconst K dX9_accountWith_1 ki_0 ?_
  refine v_iconst K dX9_accountWith_2 ki_4 ?_
  refine v_callSi (As := [.int x1, .int 0, .int 4]) (rest := []) K mk_X9_35 dX9_accountWith_3 (c_X9_in  rfl) rfl rfl (Nat.le_of_ble_eq_true rfl) ⟨rfl, rfl⟩ ⟨Nat.le_of_ble_eq_true rfl, Nat.le_of_ble_eq_true rfl⟩ ?_
  refine v_if_eq (tgt := 28) K dX9_accountWith_6 (by decide) (fun hc1 => ?_) (fun hc1 => ?_)
  · have hf := it_pos hc1 hf
    refine v_bipush K dX9_accountWith_28 kb_m2 ?_
    exact v_iret K rfl dX9_accountWith_30 (ev_q hf) (ew_q hf)
  · have hf := it_neg hc1 hf
    refine v_iload_n K 2 dX9_accountWith_9 rfl rfl ?_
    refine v_iconst K dX9_accountWith_10 ki_1 ?_
    refine v_bipush K dX9_accountWith_11 kb_8 ?_
    refine v_callSi (As := [.int x2, .int 1, .int 8]) (rest := []) K mk_X9_35 dX9_accountWith_13 (c_X9_in  rfl) rfl rfl (Nat.le_of_ble_eq_true rfl) ⟨rfl, rfl⟩ ⟨Nat.le_of_ble_eq_true rfl, Nat.le_of_ble_eq_true rfl⟩ ?_
    refine v_if_eq (tgt := 28) K dX9_accountWith_16 (by decide) (fun hc2 => ?_) (fun hc2 => ?_)
    · have hf := it_pos hc2 hf
      refine v_bipush K dX9_accountWith_28 kb_m2 ?_
      exact v_iret K rfl dX9_accountWith_30 (ev_q hf) (ew_q hf)
    · have hf := it_neg hc2 hf
      refine v_aload_n K 0 dX9_accountWith_19 rfl rfl ?_
      refine v_iload_n K 1 dX9_accountWith_20 rfl rfl ?_
      refine v_iload_n K 2 dX9_accountWith_21 rfl rfl ?_
      obtain ⟨y2, S1, hS1, hf⟩ := bdp_el hf
      refine v_callWi (As := [.int x1, .int x2]) (rest := []) K mk_X9_195 dX9_accountWith_22 (c_X9_messagesWith hM hS1) (hM 0 (by decide)) rfl rfl rfl rfl rfl (Nat.le_of_ble_eq_true rfl) ⟨rfl, rfl⟩ ⟨Nat.le_of_ble_eq_true rfl, Nat.le_of_ble_eq_true rfl⟩ ?_
      refine v_goto (tgt := 30) K dX9_accountWith_25 (by decide) ?_
      exact v_iret K rfl dX9_accountWith_30 (ev_q hf) (ew_q hf)
set_option maxRecDepth 20000 in
theorem c_X9_best {G : Gs} (hM : ModG E) {S S' : St}  {x1 : Int32} {r : Int32} (hf : f_X9_best S x1 = some (r, S')) : Ctr l D E A yX9_best cX9_best 8 (some .int) (rmD 8) [.ref (eA E 1 0), .int x1] (wl E (va_up G 1 S)) (some (.int r)) (wl E (va_up G 1 S')) := by
  refine Ctr.of (own := RX9) pn_X9 rfl (Nat.le_of_ble_eq_true rfl) ?_
  intro p e s m args below meth c K
  refine v_lv (lv' := [(0, .ref (eA E 1 0)), (1, .int x1)]) rfl ?_
  have L33 : ∀ (x1 : Int32) (x5 : Int32), ∀ (k : Int32 → Int32 → Int32 → Int32 → St → Option (Int32 × St)), (∀ (x2 : Int32) (x3 : Int32) (x4 : Int32) (x6 : Int32) (S : St), k x2 x3 x4 x6 S = some (r, S') → VV p l e (rmD 8) s m args below meth c (MQ below (CQ D A (some (.int r)) (wl E (va_up G 1 S'))) args s 0 0 A) D A 8 (0, 0) 77 [] [(0, .ref (eA E 1 0)), (1, .int x1), (2, .int x2), (3, .int x3), (4, .int x4), (5, .int x5)] (wl E (va_up G 1 S))) → ∀ (n : Nat) (x2 : Int32) (x3 : Int32) (x4 : Int32) (x6 : Int32) (S : St), f_X9_best_L33 x1 x5 k n x2 x3 x4 x6 S = some (r, S') → VV p l e (rmD 8) s m args below meth c (MQ below (CQ D A (some (.int r)) (wl E (va_up G 1 S'))) args s 0 0 A) D A 8 (0, 0) 33 [] [(0, .ref (eA E 1 0)), (1, .int x1), (2, .int x2), (3, .int x3), (4, .int x4), (5, .int x5), (6, .int x6)] (wl E (va_up G 1 S)) := by
    intro x1 x5 k hk n
    induction n with
    | zero =>
      intro x2 x3 x4 x6 S hf
      rw [f_X9_best_L33] at hf
      cases hf
    | succ n ih =>
      intro x2 x3 x4 x6 S hf
      rw [f_X9_best_L33] at hf
      refine v_iload K 6 dX9_best_33 rfl ?_
      refine v_bipush K dX9_best_35 kb_8 ?_
      refine v_icmp_gt (tgt := 77) K dX9_best_37 (by decide) (fun hc3 => ?_) (fun hc3 => ?_)
      · have hf := it_pos hc3 hf
        exact v_lsub [0, 1, 2, 3, 4, 5] rfl (hk x2 x3 x4 x6 S hf)
      · have hf := it_neg hc3 hf
        refine v_aload_n K 0 dX9_best_40 rfl rfl ?_
        refine v_iload K 5 dX9_best_41 rfl ?_
        refine v_iload K 6 dX9_best_43 rfl ?_
        obtain ⟨y2, S1, hS1, hf⟩ := bdp_el hf
        refine v_callWi (As := [.int x5, .int x6]) (rest := []) K mk_X9_195 dX9_best_45 (c_X9_messagesWith hM hS1) (hM 0 (by decide)) rfl rfl rfl rfl rfl (Nat.le_of_ble_eq_true rfl) ⟨rfl, rfl⟩ ⟨Nat.le_of_ble_eq_true rfl, Nat.le_of_ble_eq_true rfl⟩ ?_
        refine v_istore (lv' := [(7, .int y2), (0, .ref (eA E 1 0)), (1, .int x1), (2, .int x2), (3, .int x3), (4, .int x4), (5, .int x5), (6, .int x6)]) K dX9_best_48 (by decide) rfl ?_
        refine v_iload_n K 3 dX9_best_50 rfl rfl ?_
        have hj3 : ∀ (w1 : Int32) (w2 : Int32) (w3 : Int32), w1 = (if x2 < 0 then x5 else (if x4 ≤ y2 then x2 else x5 : Int32) : Int32) → w2 = (if x2 < 0 then x6 else (if x4 ≤ y2 then x3 else x6 : Int32) : Int32) → w3 = (if x2 < 0 then y2 else (if x4 ≤ y2 then x4 else y2 : Int32) : Int32) → VV p l e (rmD 8) s m args below meth c (MQ below (CQ D A (some (.int r)) (wl E (va_up G 1 S'))) args s 0 0 A) D A 8 (0, 0) 71 [] [(0, .ref (eA E 1 0)), (1, .int x1), (2, .int w1), (3, .int w2), (4, .int w3), (5, .int x5), (6, .int x6)] (wl E (va_up G 1 S1)) := by
          intro w1 w2 w3 ew1 ew2 ew3
          subst ew1
          subst ew2
          subst ew3
          refine v_iinc (v := x6 + 1) (lv' := [(6, .int (x6 + 1)), (0, .ref (eA E 1 0)), (1, .int x1), (2, .int (if x2 < 0 then x5 else (if x4 ≤ y2 then x2 else x5 : Int32) : Int32)), (3, .int (if x2 < 0 then x6 else (if x4 ≤ y2 then x3 else x6 : Int32) : Int32)), (4, .int (if x2 < 0 then y2 else (if x4 ≤ y2 then x4 else y2 : Int32) : Int32)), (5, .int x5)]) K 6 dX9_best_71 rfl rfl (by decide) rfl ?_
          refine v_goto (tgt := 33) K dX9_best_74 (by decide) ?_
          exact v_lsub [1, 2, 3, 4, 5, 6, 0] rfl (ih (if x2 < 0 then x5 else (if x4 ≤ y2 then x2 else x5 : Int32) : Int32) (if x2 < 0 then x6 else (if x4 ≤ y2 then x3 else x6 : Int32) : Int32) (if x2 < 0 then y2 else (if x4 ≤ y2 then x4 else y2 : Int32) : Int32) (x6 + 1) S1 hf)
        refine v_if_lt (tgt := 61) K dX9_best_51 (by decide) (fun hc4 => ?_) (fun hc4 => ?_)
        · refine v_iload K 6 dX9_best_61 rfl ?_
          refine v_istore_n (lv' := [(2, .int x5), (7, .int y2), (0, .ref (eA E 1 0)), (1, .int x1), (3, .int x3), (4, .int x4), (5, .int x5), (6, .int x6)]) K dX9_best_63 rfl (by decide) rfl ?_
          refine v_iload K 7 dX9_best_64 rfl ?_
          refine v_istore_n (lv' := [(3, .int x6), (2, .int x5), (7, .int y2), (0, .ref (eA E 1 0)), (1, .int x1), (4, .int x4), (5, .int x5), (6, .int x6)]) K dX9_best_66 rfl (by decide) rfl ?_
          refine v_iload K 2 dX9_best_67 rfl ?_
          refine v_istore (lv' := [(4, .int y2), (3, .int x6), (2, .int x5), (7, .int y2), (0, .ref (eA E 1 0)), (1, .int x1), (5, .int x5), (6, .int x6)]) K dX9_best_69 (by decide) rfl ?_
          exact v_lsub [4, 5, 2, 1, 0, 6, 7] rfl (hj3 x5 x6 y2 (if_pos hc4).symm (if_pos hc4).symm (if_pos hc4).symm)
        · refine v_iload K 0 dX9_best_54 rfl ?_
          refine v_iload K 5 dX9_best_56 rfl ?_
          refine v_icmp_ge (tgt := 71) K dX9_best_58 (by decide) (fun hc6 => ?_) (fun hc6 => ?_)
          · exact v_lsub [1, 2, 3, 4, 5, 6, 7] rfl (hj3 x2 x3 x4 ((if_neg hc4).trans (if_pos hc6)).symm ((if_neg hc4).trans (if_pos hc6)).symm ((if_neg hc4).trans (if_pos hc6)).symm)
          · refine v_iload K 6 dX9_best_61 rfl ?_
            refine v_istore_n (lv' := [(2, .int x5), (7, .int y2), (0, .ref (eA E 1 0)), (1, .int x1), (3, .int x3), (4, .int x4), (5, .int x5), (6, .int x6)]) K dX9_best_63 rfl (by decide) rfl ?_
            refine v_iload K 7 dX9_best_64 rfl ?_
            refine v_istore_n (lv' := [(3, .int x6), (2, .int x5), (7, .int y2), (0, .ref (eA E 1 0)), (1, .int x1), (4, .int x4), (5, .int x5), (6, .int x6)]) K dX9_best_66 rfl (by decide) rfl ?_
            refine v_iload K 2 dX9_best_67 rfl ?_
            refine v_istore (lv' := [(4, .int y2), (3, .int x6), (2, .int x5), (7, .int y2), (0, .ref (eA E 1 0)), (1, .int x1), (5, .int x5), (6, .int x6)]) K dX9_best_69 (by decide) rfl ?_
            exact v_lsub [4, 5, 2, 1, 0, 6, 7] rfl (hj3 x5 x6 y2 ((if_neg hc4).trans (if_neg hc6)).symm ((if_neg hc4).trans (if_neg hc6)).symm ((if_neg hc4).trans (if_neg hc6)).symm)
  have L24 : ∀ (x1 : Int32), ∀ (k : Int32 → Int32 → Int32 → Int32 → St → Option (Int32 × St)), (∀ (x2 : Int32) (x3 : Int32) (x4 : Int32) (x5 : Int32) (S : St), k x2 x3 x4 x5 S = some (r, S') → VV p l e (rmD 8) s m args below meth c (MQ below (CQ D A (some (.int r)) (wl E (va_up G 1 S'))) args s 0 0 A) D A 8 (0, 0) 83 [] [(1, .int x1), (2, .int x2), (3, .int x3), (4, .int x4)] (wl E (va_up G 1 S))) → ∀ (n : Nat) (x2 : Int32) (x3 : Int32) (x4 : Int32) (x5 : Int32) (S : St), f_X9_best_L24 x1 k n x2 x3 x4 x5 S = some (r, S') → VV p l e (rmD 8) s m args below meth c (MQ below (CQ D A (some (.int r)) (wl E (va_up G 1 S'))) args s 0 0 A) D A 8 (0, 0) 24 [] [(0, .ref (eA E 1 0)), (1, .int x1), (2, .int x2), (3, .int x3), (4, .int x4), (5, .int x5)] (wl E (va_up G 1 S)) := by
    intro x1 k hk n
    induction n with
    | zero =>
      intro x2 x3 x4 x5 S hf
      rw [f_X9_best_L24] at hf
      cases hf
    | succ n ih =>
      intro x2 x3 x4 x5 S hf
      rw [f_X9_best_L24] at hf
      refine v_iload K 5 dX9_best_24 rfl ?_
      refine v_iconst K dX9_best_26 ki_4 ?_
      refine v_icmp_gt (tgt := 83) K dX9_best_27 (by decide) (fun hc2 => ?_) (fun hc2 => ?_)
      · have hf := it_pos hc2 hf
        exact v_lsub [1, 2, 3, 4] rfl (hk x2 x3 x4 x5 S hf)
      · have hf := it_neg hc2 hf
        refine v_iconst K dX9_best_30 ki_1 ?_
        refine v_istore (lv' := [(6, .int 1), (0, .ref (eA E 1 0)), (1, .int x1), (2, .int x2), (3, .int x3), (4, .int x4), (5, .int x5)]) K dX9_best_31 (by decide) rfl ?_
        refine v_lsub [1, 2, 3, 4, 5, 6, 0] rfl ?_
        refine L33 x1 x5 _ ?_ 5000 x2 x3 x4 1 S hf
        intro x2_77 x3_77 x4_77 x6_77 S_77 hf
        refine v_iinc (v := x5 + 1) (lv' := [(5, .int (x5 + 1)), (0, .ref (eA E 1 0)), (1, .int x1), (2, .int x2_77), (3, .int x3_77), (4, .int x4_77)]) K 5 dX9_best_77 rfl rfl (by decide) rfl ?_
        refine v_goto (tgt := 24) K dX9_best_80 (by decide) ?_
        exact v_lsub [1, 2, 3, 4, 5, 0] rfl (ih x2_77 x3_77 x4_77 (x5 + 1) S_77 hf)
  unfold f_X9_best at hf
  refine v_iload_n K 1 dX9_best_0 rfl rfl ?_
  refine v_iconst K dX9_best_1 ki_0 ?_
  refine v_iconst K dX9_best_2 ki_2 ?_
  refine v_callSi (As := [.int x1, .int 0, .int 2]) (rest := []) K mk_X9_35 dX9_best_3 (c_X9_in  rfl) rfl rfl (Nat.le_of_ble_eq_true rfl) ⟨rfl, rfl⟩ ⟨Nat.le_of_ble_eq_true rfl, Nat.le_of_ble_eq_true rfl⟩ ?_
  refine v_if_ne (tgt := 12) K dX9_best_6 (by decide) (fun hc1 => ?_) (fun hc1 => ?_)
  · have hf := it_neg hc1 hf
    refine v_bipush K dX9_best_12 kb_m6 ?_
    refine v_istore_n (lv' := [(2, .int (-6)), (0, .ref (eA E 1 0)), (1, .int x1)]) K dX9_best_14 rfl (by decide) rfl ?_
    refine v_bipush K dX9_best_15 kb_m6 ?_
    refine v_istore_n (lv' := [(3, .int (-6)), (2, .int (-6)), (0, .ref (eA E 1 0)), (1, .int x1)]) K dX9_best_17 rfl (by decide) rfl ?_
    refine v_iconst K dX9_best_18 ki_0 ?_
    refine v_istore (lv' := [(4, .int 0), (3, .int (-6)), (2, .int (-6)), (0, .ref (eA E 1 0)), (1, .int x1)]) K dX9_best_19 (by decide) rfl ?_
    refine v_iconst K dX9_best_21 ki_0 ?_
    refine v_istore (lv' := [(5, .int 0), (4, .int 0), (3, .int (-6)), (2, .int (-6)), (0, .ref (eA E 1 0)), (1, .int x1)]) K dX9_best_22 (by decide) rfl ?_
    refine v_lsub [4, 5, 3, 2, 1, 0] rfl ?_
    refine L24 x1 _ ?_ 5000 (-6) (-6) 0 0 S hf
    intro x2_83 x3_83 x4_83 x5_83 S_83 hf
    refine v_iload_n K 0 dX9_best_83 rfl rfl ?_
    refine v_if_ne (tgt := 91) K dX9_best_84 (by decide) (fun hc7 => ?_) (fun hc7 => ?_)
    · have hf := it_neg hc7 hf
      refine v_iload_n K 0 dX9_best_91 rfl rfl ?_
      refine v_iconst K dX9_best_92 ki_1 ?_
      refine v_icmp_ne (tgt := 100) K dX9_best_93 (by decide) (fun hc8 => ?_) (fun hc8 => ?_)
      · have hf := it_neg hc8 hf
        refine v_iload K 3 dX9_best_100 rfl ?_
        exact v_iret K rfl dX9_best_102 (ev_q hf) (ew_q hf)
      · have hf := it_pos hc8 hf
        refine v_iload_n K 2 dX9_best_96 rfl rfl ?_
        refine v_goto (tgt := 102) K dX9_best_97 (by decide) ?_
        exact v_iret K rfl dX9_best_102 (ev_q hf) (ew_q hf)
    · have hf := it_pos hc7 hf
      refine v_iload_n K 1 dX9_best_87 rfl rfl ?_
      refine v_goto (tgt := 102) K dX9_best_88 (by decide) ?_
      exact v_iret K rfl dX9_best_102 (ev_q hf) (ew_q hf)
  · have hf := it_pos hc1 hf
    refine v_bipush K dX9_best_9 kb_m2 ?_
    exact v_iret K rfl dX9_best_11 (ev_q hf) (ew_q hf)
set_option maxRecDepth 20000 in
theorem c_X9_account {G : Gs} (hM : ModG E) {S S' : St}  {r : Int32} (hf : f_X9_account S = some (r, S')) : Ctr l D E A yX9_account cX9_account 2 (some .int) (rmD 1) [.ref (eA E 1 0)] (wl E (va_up G 1 S)) (some (.int r)) (wl E (va_up G 1 S')) := by
  refine Ctr.of (own := RX9) pn_X9 rfl (Nat.le_of_ble_eq_true rfl) ?_
  intro p e s m args below meth c K
  refine v_lv (lv' := [(0, .ref (eA E 1 0))]) rfl ?_
  unfold f_X9_account at hf
  refine v_aload_n K 0 dX9_account_0 rfl rfl ?_
  obtain ⟨S1, hS1, hf⟩ := bd_el hf
  refine v_callWn (As := []) (rest := []) K mk_X9_46 dX9_account_1 (c_X9_keep hM hS1) (hM 0 (by decide)) rfl rfl rfl rfl rfl (Nat.le_of_ble_eq_true rfl) ⟨rfl, rfl⟩ ⟨Nat.le_of_ble_eq_true rfl, Nat.le_of_ble_eq_true rfl⟩ ?_
  refine v_aload_n K 0 dX9_account_4 rfl rfl ?_
  refine g_get K fk_X9_7 dX9_account_5 (hM 0 (by decide)) rfl rfl ?_
  refine v_bipush K dX9_account_8 kb_7 ?_
  obtain ⟨hi10, hf⟩ := ix_el hf
  refine g_iald K dX9_account_10 (hM 1 (by decide)) rfl hi10 ?_
  refine v_istore_n (lv' := [(1, .int (S1 1 (7 : Int32).toNatClampNeg)), (0, .ref (eA E 1 0))]) K dX9_account_11 rfl (by decide) rfl ?_
  refine v_aload_n K 1 dX9_account_12 rfl rfl ?_
  refine g_get K fk_X9_7 dX9_account_13 (hM 0 (by decide)) rfl rfl ?_
  refine v_bipush K dX9_account_16 kb_7 ?_
  refine v_iconst K dX9_account_18 ki_0 ?_
  obtain ⟨hi19, hf⟩ := ix_el hf
  obtain ⟨S2, hS2, hf⟩ := bnd_el hf
  refine g_iast K dX9_account_19 (hM 1 (by decide)) (fun _ => rfl) hi19 hS2 ?_
  refine v_iload_n K 0 dX9_account_20 rfl rfl ?_
  exact v_iret K rfl dX9_account_21 (ev_q hf) (ew_q hf)
set_option maxRecDepth 20000 in
theorem c_X9_put {G : Gs} (hM : ModG E) {S S' : St}  {x1 : Int64} {r : Int32} (hf : f_X9_put S x1 = some (r, S')) : Ctr l D E A yX9_put cX9_put 7 (some .int) (rmD 1) [.ref (eA E 1 0), .long x1] (wl E (va_up G 1 S)) (some (.int r)) (wl E (va_up G 1 S')) := by
  refine Ctr.of (own := RX9) pn_X9 rfl (Nat.le_of_ble_eq_true rfl) ?_
  intro p e s m args below meth c K
  refine v_lv (lv' := [(0, .ref (eA E 1 0)), (1, .long x1)]) rfl ?_
  have L5 : ∀ (x1 : Int64) (S : St), ∀ (k : Int32 → Int64 → Option (Int32 × St)), (∀ (x3 : Int32) (x4 : Int64), k x3 x4 = some (r, S') → VV p l e (rmD 1) s m args below meth c (MQ below (CQ D A (some (.int r)) (wl E (va_up G 1 S'))) args s 0 0 A) D A 7 (0, 0) 55 [] [(0, .ref (eA E 1 0)), (1, .long x1), (3, .int x3), (4, .long x4)] (wl E (va_up G 1 S))) → ∀ (n : Nat) (x3 : Int32) (x4 : Int64), f_X9_put_L5 x1 S k n x3 x4 = some (r, S') → VV p l e (rmD 1) s m args below meth c (MQ below (CQ D A (some (.int r)) (wl E (va_up G 1 S'))) args s 0 0 A) D A 7 (0, 0) 5 [] [(0, .ref (eA E 1 0)), (1, .long x1), (3, .int x3), (4, .long x4)] (wl E (va_up G 1 S)) := by
    intro x1 S k hk n
    induction n with
    | zero =>
      intro x3 x4 hf
      rw [f_X9_put_L5] at hf
      cases hf
    | succ n ih =>
      intro x3 x4 hf
      rw [f_X9_put_L5] at hf
      refine v_iload_n K 2 dX9_put_5 rfl rfl ?_
      refine v_bipush K dX9_put_6 kb_8 ?_
      refine v_icmp_ge (tgt := 55) K dX9_put_8 (by decide) (fun hc1 => ?_) (fun hc1 => ?_)
      · have hf := it_pos hc1 hf
        exact v_lsub [0, 1, 2, 3] rfl (hk x3 x4 hf)
      · have hf := it_neg hc1 hf
        refine v_lload K 3 dX9_put_11 rfl ?_
        refine v_ldc2 K dX9_put_13 klX9_198 ?_
        refine v_land K dX9_put_16 ?_
        refine v_lconst (v := 0) K dX9_put_17 (by decide) ?_
        refine v_lcmp K dX9_put_18 ?_
        refine v_if_eq (tgt := 55) K dX9_put_19 (by decide) (fun hc2 => ?_) (fun hc2 => ?_)
        · have hf := it_pos hc2 hf
          exact v_lsub [0, 1, 2, 3] rfl (hk x3 x4 hf)
        · have hf := it_neg hc2 hf
          refine v_lload K 3 dX9_put_22 rfl ?_
          refine v_ldc2 K dX9_put_24 klX9_198 ?_
          refine v_land K dX9_put_27 ?_
          refine v_l2i K dX9_put_28 ?_
          refine v_bipush K dX9_put_29 kb_33 ?_
          refine v_bipush K dX9_put_31 kb_126 ?_
          refine v_callSi (As := [.int ((x4 &&& 255).toInt32), .int 33, .int 126]) (rest := []) K mk_X9_35 dX9_put_33 (c_X9_in  rfl) rfl rfl (Nat.le_of_ble_eq_true rfl) ⟨rfl, rfl⟩ ⟨Nat.le_of_ble_eq_true rfl, Nat.le_of_ble_eq_true rfl⟩ ?_
          refine v_if_ne (tgt := 42) K dX9_put_36 (by decide) (fun hc3 => ?_) (fun hc3 => ?_)
          · have hf := it_neg hc3 hf
            refine v_iinc (v := x3 + 1) (lv' := [(3, .int (x3 + 1)), (0, .ref (eA E 1 0)), (1, .long x1), (4, .long x4)]) K 2 dX9_put_42 rfl rfl (by decide) rfl ?_
            refine v_lload K 3 dX9_put_45 rfl ?_
            refine v_bipush K dX9_put_47 kb_8 ?_
            refine v_lushr K dX9_put_49 ?_
            refine v_lstore (lv' := [(4, .long ((x4.toUInt64 >>> ((8 : Int32).toInt64.toUInt64 &&& Int64.toUInt64 63)).toInt64)), (3, .int (x3 + 1)), (0, .ref (eA E 1 0)), (1, .long x1)]) K dX9_put_50 (by decide) rfl ?_
            refine v_goto (tgt := 5) K dX9_put_52 (by decide) ?_
            exact v_lsub [2, 3, 1, 0] rfl (ih (x3 + 1) ((x4.toUInt64 >>> ((8 : Int32).toInt64.toUInt64 &&& Int64.toUInt64 63)).toInt64) hf)
          · have hf := it_pos hc3 hf
            refine v_bipush K dX9_put_39 kb_m2 ?_
            exact v_iret K rfl dX9_put_41 (ev_q hf) (ew_q hf)
  have L86 : ∀ (x1 : Int64) (x3 : Int32), ∀ (k : Int32 → St → Option (Int32 × St)), (∀ (x6 : Int32) (S : St), k x6 S = some (r, S') → VV p l e (rmD 1) s m args below meth c (MQ below (CQ D A (some (.int r)) (wl E (va_up G 1 S'))) args s 0 0 A) D A 7 (0, 0) 126 [] [(0, .ref (eA E 1 0)), (3, .int x3)] (wl E (va_up G 1 S))) → ∀ (n : Nat) (x6 : Int32) (S : St), f_X9_put_L86 x1 x3 k n x6 S = some (r, S') → VV p l e (rmD 1) s m args below meth c (MQ below (CQ D A (some (.int r)) (wl E (va_up G 1 S'))) args s 0 0 A) D A 7 (0, 0) 86 [] [(0, .ref (eA E 1 0)), (1, .long x1), (3, .int x3), (6, .int x6)] (wl E (va_up G 1 S)) := by
    intro x1 x3 k hk n
    induction n with
    | zero =>
      intro x6 S hf
      rw [f_X9_put_L86] at hf
      cases hf
    | succ n ih =>
      intro x6 S hf
      rw [f_X9_put_L86] at hf
      refine v_iload K 3 dX9_put_86 rfl ?_
      refine v_iload_n K 2 dX9_put_88 rfl rfl ?_
      refine v_icmp_ge (tgt := 126) K dX9_put_89 (by decide) (fun hc7 => ?_) (fun hc7 => ?_)
      · have hf := it_pos hc7 hf
        exact v_lsub [0, 2] rfl (hk x6 S hf)
      · have hf := it_neg hc7 hf
        refine v_aload_n K 0 dX9_put_92 rfl rfl ?_
        refine g_get K fk_X9_26 dX9_put_93 (hM 0 (by decide)) rfl rfl ?_
        refine v_aload_n K 0 dX9_put_96 rfl rfl ?_
        refine g_get K fk_X9_180 dX9_put_97 (hM 0 (by decide)) rfl rfl ?_
        refine v_iload K 3 dX9_put_100 rfl ?_
        refine v_iadd K dX9_put_102 ?_
        refine v_lload_n K 1 dX9_put_103 rfl rfl ?_
        refine v_bipush K dX9_put_104 kb_8 ?_
        refine v_iload_n K 2 dX9_put_106 rfl rfl ?_
        refine v_iconst K dX9_put_107 ki_1 ?_
        refine v_isub K dX9_put_108 ?_
        refine v_iload K 3 dX9_put_109 rfl ?_
        refine v_isub K dX9_put_111 ?_
        refine v_imul K dX9_put_112 ?_
        refine v_lshr K dX9_put_113 ?_
        refine v_ldc2 K dX9_put_114 klX9_198 ?_
        refine v_land K dX9_put_117 ?_
        refine v_l2i K dX9_put_118 ?_
        obtain ⟨hi119, hf⟩ := ix_el hf
        obtain ⟨S1, hS1, hf⟩ := bnd_el hf
        refine g_iast K dX9_put_119 (hM 6 (by decide)) (fun _ => rfl) hi119 hS1 ?_
        refine v_iinc (v := x6 + 1) (lv' := [(6, .int (x6 + 1)), (0, .ref (eA E 1 0)), (1, .long x1), (3, .int x3)]) K 3 dX9_put_120 rfl rfl (by decide) rfl ?_
        refine v_goto (tgt := 86) K dX9_put_123 (by decide) ?_
        exact v_lsub [1, 2, 3, 0] rfl (ih (x6 + 1) S1 hf)
  unfold f_X9_put at hf
  refine v_iconst K dX9_put_0 ki_0 ?_
  refine v_istore_n (lv' := [(3, .int 0), (0, .ref (eA E 1 0)), (1, .long x1)]) K dX9_put_1 rfl (by decide) rfl ?_
  refine v_lload_n K 2 dX9_put_2 rfl rfl ?_
  refine v_lstore (lv' := [(4, .long x1), (3, .int 0), (0, .ref (eA E 1 0)), (1, .long x1)]) K dX9_put_3 (by decide) rfl ?_
  refine v_lsub [2, 3, 1, 0] rfl ?_
  refine L5 x1 S _ ?_ 5000 0 x1 hf
  intro x3_55 x4_55 hf
  refine v_iload_n K 2 dX9_put_55 rfl rfl ?_
  refine v_if_eq (tgt := 66) K dX9_put_56 (by decide) (fun hc4 => ?_) (fun hc4 => ?_)
  · have hf := it_pos hc4 hf
    refine v_bipush K dX9_put_66 kb_m2 ?_
    exact v_iret K rfl dX9_put_68 (ev_q hf) (ew_q hf)
  · have hf := it_neg hc4 hf
    refine v_lload K 3 dX9_put_59 rfl ?_
    refine v_lconst (v := 0) K dX9_put_61 (by decide) ?_
    refine v_lcmp K dX9_put_62 ?_
    refine v_if_eq (tgt := 69) K dX9_put_63 (by decide) (fun hc5 => ?_) (fun hc5 => ?_)
    · have hf := it_pos hc5 hf
      refine v_aload_n K 0 dX9_put_69 rfl rfl ?_
      refine g_get K fk_X9_180 dX9_put_70 (hM 0 (by decide)) rfl rfl ?_
      refine v_iload_n K 2 dX9_put_73 rfl rfl ?_
      refine v_iadd K dX9_put_74 ?_
      refine v_bipush K dX9_put_75 kb_80 ?_
      refine v_icmp_le (tgt := 83) K dX9_put_77 (by decide) (fun hc6 => ?_) (fun hc6 => ?_)
      · have hf := it_pos hc6 hf
        refine v_iconst K dX9_put_83 ki_0 ?_
        refine v_istore (lv' := [(6, .int 0), (0, .ref (eA E 1 0)), (1, .long x1), (3, .int x3_55), (4, .long x4_55)]) K dX9_put_84 (by decide) rfl ?_
        refine v_lsub [1, 2, 3, 0] rfl ?_
        refine L86 x1 x3_55 _ ?_ 5000 0 S hf
        intro x6_126 S_126 hf
        refine v_aload_n K 0 dX9_put_126 rfl rfl ?_
        refine v_dup K dX9_put_127 rfl ?_
        refine g_get K fk_X9_180 dX9_put_128 (hM 0 (by decide)) rfl rfl ?_
        refine v_iload_n K 1 dX9_put_131 rfl rfl ?_
        refine v_iadd K dX9_put_132 ?_
        obtain ⟨S2, hS2, hf⟩ := bnd_el hf
        refine g_put K fp_X9_180 dX9_put_133 (hM 0 (by decide)) rfl 8 (Nat.le_of_ble_eq_true rfl) rfl rfl rfl hS2 ?_
        refine v_aload_n K 0 dX9_put_136 rfl rfl ?_
        refine g_get K fk_X9_180 dX9_put_137 (hM 0 (by decide)) rfl rfl ?_
        exact v_iret K rfl dX9_put_140 (ev_q hf) (ew_q hf)
      · have hf := it_neg hc6 hf
        refine v_bipush K dX9_put_80 kb_m4 ?_
        exact v_iret K rfl dX9_put_82 (ev_q hf) (ew_q hf)
    · have hf := it_neg hc5 hf
      refine v_bipush K dX9_put_66 kb_m2 ?_
      exact v_iret K rfl dX9_put_68 (ev_q hf) (ew_q hf)
set_option maxRecDepth 20000 in
theorem c_X9_wipe {G : Gs} (hM : ModG E) {S S' : St}  {r : Int32} (hf : f_X9_wipe S = (r, S')) : Ctr l D E A yX9_wipe cX9_wipe 2 (some .int) (rmD 0) [.ref (eA E 1 0)] (wl E (va_up G 1 S)) (some (.int r)) (wl E (va_up G 1 S')) := by
  refine Ctr.of (own := RX9) pn_X9 rfl (Nat.le_of_ble_eq_true rfl) ?_
  intro p e s m args below meth c K
  refine v_lv (lv' := [(0, .ref (eA E 1 0))]) rfl ?_
  unfold f_X9_wipe at hf
  refine v_aload_n K 0 dX9_wipe_0 rfl rfl ?_
  refine g_get K fk_X9_180 dX9_wipe_1 (hM 0 (by decide)) rfl rfl ?_
  refine v_istore_n (lv' := [(1, .int (S 0 8)), (0, .ref (eA E 1 0))]) K dX9_wipe_4 rfl (by decide) rfl ?_
  refine v_aload_n K 1 dX9_wipe_5 rfl rfl ?_
  refine v_iconst K dX9_wipe_6 ki_0 ?_
  obtain ⟨S1, hS1, hf⟩ := bnd_el hf
  refine g_put K fp_X9_180 dX9_wipe_7 (hM 0 (by decide)) rfl 8 (Nat.le_of_ble_eq_true rfl) rfl rfl rfl hS1 ?_
  refine v_iload_n K 0 dX9_wipe_10 rfl rfl ?_
  exact v_iret K rfl dX9_wipe_11 (ev_p hf) (ew_p hf)
set_option maxRecDepth 20000 in
theorem c_X9_next {G : Gs} (hM : ModG E) {S : St}  {r : Int32} (hf : f_X9_next S = some r) : Ctr l D E A yX9_next cX9_next 1 (some .int) (rmD 0) [.ref (eA E 1 0)] (wl E (va_up G 1 S)) (some (.int r)) (wl E (va_up G 1 S)) := by
  refine Ctr.of (own := RX9) pn_X9 rfl (Nat.le_of_ble_eq_true rfl) ?_
  intro p e s m args below meth c K
  refine v_lv (lv' := [(0, .ref (eA E 1 0))]) rfl ?_
  unfold f_X9_next at hf
  refine v_aload_n K 0 dX9_next_0 rfl rfl ?_
  refine g_get K fk_X9_200 dX9_next_1 (hM 0 (by decide)) rfl rfl ?_
  refine v_aload_n K 0 dX9_next_4 rfl rfl ?_
  refine g_get K fk_X9_180 dX9_next_5 (hM 0 (by decide)) rfl rfl ?_
  refine v_icmp_ge (tgt := 23) K dX9_next_8 (by decide) (fun hc1 => ?_) (fun hc1 => ?_)
  · have hf := it_pos hc1 hf
    refine v_iconst K dX9_next_23 ki_0 ?_
    exact v_iret K rfl dX9_next_24 (ev_o hf) rfl
  · have hf := it_neg hc1 hf
    refine v_aload_n K 0 dX9_next_11 rfl rfl ?_
    refine g_get K fk_X9_26 dX9_next_12 (hM 0 (by decide)) rfl rfl ?_
    refine v_aload_n K 0 dX9_next_15 rfl rfl ?_
    refine g_get K fk_X9_200 dX9_next_16 (hM 0 (by decide)) rfl rfl ?_
    obtain ⟨hi19, hf⟩ := ix_el hf
    refine g_iald K dX9_next_19 (hM 6 (by decide)) rfl hi19 ?_
    refine v_goto (tgt := 24) K dX9_next_20 (by decide) ?_
    exact v_iret K rfl dX9_next_24 (ev_o hf) rfl
set_option maxRecDepth 20000 in
theorem c_X9_takeSign {G : Gs} (hM : ModG E) {S S' : St}  {x1 : Int32} (hf : f_X9_takeSign S x1 = some S') : Ctr l D E A yX9_takeSign cX9_takeSign 2 none (rmD 1) [.ref (eA E 1 0), .int x1] (wl E (va_up G 1 S)) none (wl E (va_up G 1 S')) := by
  refine Ctr.of (own := RX9) pn_X9 rfl (Nat.le_of_ble_eq_true rfl) ?_
  intro p e s m args below meth c K
  refine v_lv (lv' := [(0, .ref (eA E 1 0)), (1, .int x1)]) rfl ?_
  unfold f_X9_takeSign at hf
  refine v_aload_n K 0 dX9_takeSign_0 rfl rfl ?_
  refine v_aload_n K 0 dX9_takeSign_1 rfl rfl ?_
  refine g_get K fk_X9_203 dX9_takeSign_2 (hM 0 (by decide)) rfl rfl ?_
  refine jn_1 (fun (u21_0 : Int32) => (u21_0 = 0 ∨ u21_0 = 1) → VV p l e (rmD 1) s m args below meth c (MQ below (CQ D A none (wl E (va_up G 1 S'))) args s 0 0 A) D A 2 (0, 0) 21 [.int u21_0, .ref (eA E 1 0)] [(0, .ref (eA E 1 0))] (wl E (va_up G 1 S))) hf (fun u21_0 hf hb21 => ?_) (fun hj1 hf => ?_)
  · obtain ⟨S2, hS2, hf⟩ := bnd_el hf
    refine g_put K fp_X9_203 dX9_takeSign_21 (hM 0 (by decide)) rfl 10 (Nat.le_of_ble_eq_true rfl) rfl (bz_nar hb21) (bz_fit hb21) hS2 ?_
    refine v_aload_n K 0 dX9_takeSign_24 rfl rfl ?_
    refine v_dup K dX9_takeSign_25 rfl ?_
    refine g_get K fk_X9_200 dX9_takeSign_26 (hM 0 (by decide)) rfl rfl ?_
    refine v_aload_n K 0 dX9_takeSign_29 rfl rfl ?_
    refine g_get K fk_X9_203 dX9_takeSign_30 (hM 0 (by decide)) rfl rfl ?_
    have hj4 : ∀ (w1 : Int32), w1 = (if (S2 0 10) = 0 then 1 else 0 : Int32) → VV p l e (rmD 1) s m args below meth c (MQ below (CQ D A none (wl E (va_up G 1 S'))) args s 0 0 A) D A 2 (0, 0) 41 [.int w1, .int (S2 0 9), .ref (eA E 1 0)] [] (wl E (va_up G 1 S2)) := by
      intro w1 ew1
      subst ew1
      refine v_iadd K dX9_takeSign_41 ?_
      obtain ⟨S3, hS3, hf⟩ := bnd_el hf
      refine g_put K fp_X9_200 dX9_takeSign_42 (hM 0 (by decide)) rfl 9 (Nat.le_of_ble_eq_true rfl) rfl rfl rfl hS3 ?_
      exact v_vret K rfl dX9_takeSign_45 rfl (ew_o hf)
    refine v_if_eq (tgt := 40) K dX9_takeSign_33 (by decide) (fun hc2 => ?_) (fun hc2 => ?_)
    · refine v_iconst K dX9_takeSign_40 ki_1 ?_
      exact v_lsub [] rfl (hj4 1 (if_pos hc2).symm)
    · refine v_iconst K dX9_takeSign_36 ki_0 ?_
      refine v_goto (tgt := 41) K dX9_takeSign_37 (by decide) ?_
      exact v_lsub [] rfl (hj4 0 (if_neg hc2).symm)
  · refine v_if_ne (tgt := 16) K dX9_takeSign_5 (by decide) (fun hc1 => ?_) (fun hc1 => ?_)
    · have hf := it_neg hc1 hf
      refine v_iconst K dX9_takeSign_16 ki_1 ?_
      refine v_goto (tgt := 21) K dX9_takeSign_17 (by decide) ?_
      exact v_lsub [0] rfl (hj1 1 hf (Or.inr rfl))
    · have hf := it_pos hc1 hf
      refine v_aload_n K 0 dX9_takeSign_8 rfl rfl ?_
      obtain ⟨y5, hy5, hf⟩ := bd_el hf
      refine v_callWi (As := []) (rest := [.ref (eA E 1 0)]) K mk_X9_207 dX9_takeSign_9 (c_X9_next hM hy5) (hM 0 (by decide)) rfl rfl rfl rfl rfl (Nat.le_of_ble_eq_true rfl) ⟨rfl, rfl⟩ ⟨Nat.le_of_ble_eq_true rfl, Nat.le_of_ble_eq_true rfl⟩ ?_
      refine v_iload_n K 1 dX9_takeSign_12 rfl rfl ?_
      refine v_icmp_eq (tgt := 20) K dX9_takeSign_13 (by decide) (fun hc3 => ?_) (fun hc3 => ?_)
      · have hf := it_pos hc3 hf
        refine v_iconst K dX9_takeSign_20 ki_0 ?_
        exact v_lsub [0] rfl (hj1 0 hf (Or.inl rfl))
      · have hf := it_neg hc3 hf
        refine v_iconst K dX9_takeSign_16 ki_1 ?_
        refine v_goto (tgt := 21) K dX9_takeSign_17 (by decide) ?_
        exact v_lsub [0] rfl (hj1 1 hf (Or.inr rfl))
set_option maxRecDepth 20000 in
theorem c_X9_takeNumber {G : Gs} (hM : ModG E) {S S' : St}  {x1 : Int32} (hf : f_X9_takeNumber S x1 = some S') : Ctr l D E A yX9_takeNumber cX9_takeNumber 3 none (rmD 1) [.ref (eA E 1 0), .int x1] (wl E (va_up G 1 S)) none (wl E (va_up G 1 S')) := by
  refine Ctr.of (own := RX9) pn_X9 rfl (Nat.le_of_ble_eq_true rfl) ?_
  intro p e s m args below meth c K
  refine v_lv (lv' := [(0, .ref (eA E 1 0)), (1, .int x1)]) rfl ?_
  have L56 : ∀ (x1 : Int32), ∀ (k : Int32 → St → Option (St)), (∀ (x2 : Int32) (S : St), k x2 S = some S' → VV p l e (rmD 1) s m args below meth c (MQ below (CQ D A none (wl E (va_up G 1 S'))) args s 0 0 A) D A 3 (0, 0) 156 [] [(0, .ref (eA E 1 0)), (1, .int x1), (2, .int x2)] (wl E (va_up G 1 S))) → ∀ (n : Nat) (x2 : Int32) (S : St), f_X9_takeNumber_L56 x1 k n x2 S = some S' → VV p l e (rmD 1) s m args below meth c (MQ below (CQ D A none (wl E (va_up G 1 S'))) args s 0 0 A) D A 3 (0, 0) 56 [] [(0, .ref (eA E 1 0)), (1, .int x1), (2, .int x2)] (wl E (va_up G 1 S)) := by
    intro x1 k hk n
    induction n with
    | zero =>
      intro x2 S hf
      rw [f_X9_takeNumber_L56] at hf
      cases hf
    | succ n ih =>
      intro x2 S hf
      rw [f_X9_takeNumber_L56] at hf
      refine v_aload_n K 0 dX9_takeNumber_56 rfl rfl ?_
      refine g_get K fk_X9_203 dX9_takeNumber_57 (hM 0 (by decide)) rfl rfl ?_
      refine v_if_ne (tgt := 156) K dX9_takeNumber_60 (by decide) (fun hc3 => ?_) (fun hc3 => ?_)
      · have hf := it_neg hc3 hf
        exact v_lsub [0, 1, 2] rfl (hk x2 S hf)
      · have hf := it_pos hc3 hf
        refine v_iload_n K 2 dX9_takeNumber_63 rfl rfl ?_
        refine v_if_le (tgt := 156) K dX9_takeNumber_64 (by decide) (fun hc4 => ?_) (fun hc4 => ?_)
        · have hf := it_pos hc4 hf
          exact v_lsub [0, 1, 2] rfl (hk x2 S hf)
        · have hf := it_neg hc4 hf
          refine v_aload_n K 0 dX9_takeNumber_67 rfl rfl ?_
          obtain ⟨y5, hy5, hf⟩ := bd_el hf
          refine v_callWi (As := []) (rest := []) K mk_X9_207 dX9_takeNumber_68 (c_X9_next hM hy5) (hM 0 (by decide)) rfl rfl rfl rfl rfl (Nat.le_of_ble_eq_true rfl) ⟨rfl, rfl⟩ ⟨Nat.le_of_ble_eq_true rfl, Nat.le_of_ble_eq_true rfl⟩ ?_
          refine v_bipush K dX9_takeNumber_71 kb_48 ?_
          refine v_bipush K dX9_takeNumber_73 kb_57 ?_
          refine v_callSi (As := [.int y5, .int 48, .int 57]) (rest := []) K mk_X9_35 dX9_takeNumber_75 (c_X9_in  rfl) rfl rfl (Nat.le_of_ble_eq_true rfl) ⟨rfl, rfl⟩ ⟨Nat.le_of_ble_eq_true rfl, Nat.le_of_ble_eq_true rfl⟩ ?_
          refine v_if_eq (tgt := 156) K dX9_takeNumber_78 (by decide) (fun hc5 => ?_) (fun hc5 => ?_)
          · have hf := it_pos hc5 hf
            exact v_lsub [0, 1, 2] rfl (hk x2 S hf)
          · have hf := it_neg hc5 hf
            refine v_aload_n K 0 dX9_takeNumber_81 rfl rfl ?_
            refine v_bipush K dX9_takeNumber_82 kb_10 ?_
            refine v_iload_n K 2 dX9_takeNumber_84 rfl rfl ?_
            refine v_imul K dX9_takeNumber_85 ?_
            refine v_aload_n K 0 dX9_takeNumber_86 rfl rfl ?_
            obtain ⟨y6, hy6, hf⟩ := bd_el hf
            refine v_callWi (As := []) (rest := [.int (10 * x2), .ref (eA E 1 0)]) K mk_X9_207 dX9_takeNumber_87 (c_X9_next hM hy6) (hM 0 (by decide)) rfl rfl rfl rfl rfl (Nat.le_of_ble_eq_true rfl) ⟨rfl, rfl⟩ ⟨Nat.le_of_ble_eq_true rfl, Nat.le_of_ble_eq_true rfl⟩ ?_
            refine v_iadd K dX9_takeNumber_90 ?_
            refine v_bipush K dX9_takeNumber_91 kb_48 ?_
            refine v_isub K dX9_takeNumber_93 ?_
            refine v_sipush K dX9_takeNumber_94 ks_9999 ?_
            have hj12 : ∀ (w1 : Int32), w1 = (if (((10 * x2) + y6) - 48) ≤ 9999 then 0 else 1 : Int32) → VV p l e (rmD 1) s m args below meth c (MQ below (CQ D A none (wl E (va_up G 1 S'))) args s 0 0 A) D A 3 (0, 0) 105 [.int w1, .ref (eA E 1 0)] [(0, .ref (eA E 1 0)), (1, .int x1), (2, .int x2)] (wl E (va_up G 1 S)) := by
              intro w1 ew1
              subst ew1
              obtain ⟨S7, hS7, hf⟩ := bnd_el hf
              refine g_put K fp_X9_203 dX9_takeNumber_105 (hM 0 (by decide)) rfl 10 (Nat.le_of_ble_eq_true rfl) rfl (bz_nar (b01 (Or.inl rfl) (Or.inr rfl))) (bz_fit (b01 (Or.inl rfl) (Or.inr rfl))) hS7 ?_
              refine v_aload_n K 0 dX9_takeNumber_108 rfl rfl ?_
              refine g_get K fk_X9_203 dX9_takeNumber_109 (hM 0 (by decide)) rfl rfl ?_
              refine jn_1 (fun (u131_0 : Int32) => VV p l e (rmD 1) s m args below meth c (MQ below (CQ D A none (wl E (va_up G 1 S'))) args s 0 0 A) D A 3 (0, 0) 131 [.int u131_0] [(0, .ref (eA E 1 0)), (1, .int x1)] (wl E (va_up G 1 S7))) hf (fun u131_0 hf => ?_) (fun hj8 hf => ?_)
              · refine v_istore_n (lv' := [(2, .int u131_0), (0, .ref (eA E 1 0)), (1, .int x1)]) K dX9_takeNumber_131 rfl (by decide) rfl ?_
                refine v_aload_n K 1 dX9_takeNumber_132 rfl rfl ?_
                refine v_dup K dX9_takeNumber_133 rfl ?_
                refine g_get K fk_X9_200 dX9_takeNumber_134 (hM 0 (by decide)) rfl rfl ?_
                refine v_aload_n K 1 dX9_takeNumber_137 rfl rfl ?_
                refine g_get K fk_X9_203 dX9_takeNumber_138 (hM 0 (by decide)) rfl rfl ?_
                have hj10 : ∀ (w1 : Int32), w1 = (if (S7 0 10) = 0 then 1 else 0 : Int32) → VV p l e (rmD 1) s m args below meth c (MQ below (CQ D A none (wl E (va_up G 1 S'))) args s 0 0 A) D A 3 (0, 0) 149 [.int w1, .int (S7 0 9), .ref (eA E 1 0)] [(0, .ref (eA E 1 0)), (1, .int x1), (2, .int u131_0)] (wl E (va_up G 1 S7)) := by
                  intro w1 ew1
                  subst ew1
                  refine v_iadd K dX9_takeNumber_149 ?_
                  obtain ⟨S9, hS9, hf⟩ := bnd_el hf
                  refine g_put K fp_X9_200 dX9_takeNumber_150 (hM 0 (by decide)) rfl 9 (Nat.le_of_ble_eq_true rfl) rfl rfl rfl hS9 ?_
                  refine v_goto (tgt := 56) K dX9_takeNumber_153 (by decide) ?_
                  exact v_lsub [0, 1, 2] rfl (ih u131_0 S9 hf)
                refine v_if_eq (tgt := 148) K dX9_takeNumber_141 (by decide) (fun hc8 => ?_) (fun hc8 => ?_)
                · refine v_iconst K dX9_takeNumber_148 ki_1 ?_
                  exact v_lsub [1, 2, 0] rfl (hj10 1 (if_pos hc8).symm)
                · refine v_iconst K dX9_takeNumber_144 ki_0 ?_
                  refine v_goto (tgt := 149) K dX9_takeNumber_145 (by decide) ?_
                  exact v_lsub [1, 2, 0] rfl (hj10 0 (if_neg hc8).symm)
              · refine v_if_eq (tgt := 119) K dX9_takeNumber_112 (by decide) (fun hc7 => ?_) (fun hc7 => ?_)
                · have hf := it_pos hc7 hf
                  refine v_bipush K dX9_takeNumber_119 kb_10 ?_
                  refine v_iload_n K 2 dX9_takeNumber_121 rfl rfl ?_
                  refine v_imul K dX9_takeNumber_122 ?_
                  refine v_aload_n K 0 dX9_takeNumber_123 rfl rfl ?_
                  obtain ⟨y11, hy11, hf⟩ := bd_el hf
                  refine v_callWi (As := []) (rest := [.int (10 * x2)]) K mk_X9_207 dX9_takeNumber_124 (c_X9_next hM hy11) (hM 0 (by decide)) rfl rfl rfl rfl rfl (Nat.le_of_ble_eq_true rfl) ⟨rfl, rfl⟩ ⟨Nat.le_of_ble_eq_true rfl, Nat.le_of_ble_eq_true rfl⟩ ?_
                  refine v_iadd K dX9_takeNumber_127 ?_
                  refine v_bipush K dX9_takeNumber_128 kb_48 ?_
                  refine v_isub K dX9_takeNumber_130 ?_
                  exact v_lsub [0, 1] rfl (hj8 (((10 * x2) + y11) - 48) hf)
                · have hf := it_neg hc7 hf
                  refine v_iload_n K 2 dX9_takeNumber_115 rfl rfl ?_
                  refine v_goto (tgt := 131) K dX9_takeNumber_116 (by decide) ?_
                  exact v_lsub [0, 1] rfl (hj8 x2 hf)
            refine v_icmp_le (tgt := 104) K dX9_takeNumber_97 (by decide) (fun hc6 => ?_) (fun hc6 => ?_)
            · refine v_iconst K dX9_takeNumber_104 ki_0 ?_
              exact v_lsub [0, 1, 2] rfl (hj12 0 (if_pos hc6).symm)
            · refine v_iconst K dX9_takeNumber_100 ki_1 ?_
              refine v_goto (tgt := 105) K dX9_takeNumber_101 (by decide) ?_
              exact v_lsub [0, 1, 2] rfl (hj12 1 (if_neg hc6).symm)
  unfold f_X9_takeNumber at hf
  refine v_aload_n K 0 dX9_takeNumber_0 rfl rfl ?_
  refine v_aload_n K 0 dX9_takeNumber_1 rfl rfl ?_
  refine g_get K fk_X9_203 dX9_takeNumber_2 (hM 0 (by decide)) rfl rfl ?_
  refine jn_1 (fun (u27_0 : Int32) => (u27_0 = 0 ∨ u27_0 = 1) → VV p l e (rmD 1) s m args below meth c (MQ below (CQ D A none (wl E (va_up G 1 S'))) args s 0 0 A) D A 3 (0, 0) 27 [.int u27_0, .ref (eA E 1 0)] [(0, .ref (eA E 1 0)), (1, .int x1)] (wl E (va_up G 1 S))) hf (fun u27_0 hf hb27 => ?_) (fun hj1 hf => ?_)
  · obtain ⟨S2, hS2, hf⟩ := bnd_el hf
    refine g_put K fp_X9_203 dX9_takeNumber_27 (hM 0 (by decide)) rfl 10 (Nat.le_of_ble_eq_true rfl) rfl (bz_nar hb27) (bz_fit hb27) hS2 ?_
    refine v_aload_n K 0 dX9_takeNumber_30 rfl rfl ?_
    refine g_get K fk_X9_203 dX9_takeNumber_31 (hM 0 (by decide)) rfl rfl ?_
    refine v_if_eq (tgt := 38) K dX9_takeNumber_34 (by decide) (fun hc2 => ?_) (fun hc2 => ?_)
    · have hf := it_pos hc2 hf
      refine v_aload_n K 0 dX9_takeNumber_38 rfl rfl ?_
      obtain ⟨y3, hy3, hf⟩ := bd_el hf
      refine v_callWi (As := []) (rest := []) K mk_X9_207 dX9_takeNumber_39 (c_X9_next hM hy3) (hM 0 (by decide)) rfl rfl rfl rfl rfl (Nat.le_of_ble_eq_true rfl) ⟨rfl, rfl⟩ ⟨Nat.le_of_ble_eq_true rfl, Nat.le_of_ble_eq_true rfl⟩ ?_
      refine v_bipush K dX9_takeNumber_42 kb_48 ?_
      refine v_isub K dX9_takeNumber_44 ?_
      refine v_istore_n (lv' := [(2, .int (y3 - 48)), (0, .ref (eA E 1 0)), (1, .int x1)]) K dX9_takeNumber_45 rfl (by decide) rfl ?_
      refine v_aload_n K 1 dX9_takeNumber_46 rfl rfl ?_
      refine v_dup K dX9_takeNumber_47 rfl ?_
      refine g_get K fk_X9_200 dX9_takeNumber_48 (hM 0 (by decide)) rfl rfl ?_
      refine v_iconst K dX9_takeNumber_51 ki_1 ?_
      refine v_iadd K dX9_takeNumber_52 ?_
      obtain ⟨S4, hS4, hf⟩ := bnd_el hf
      refine g_put K fp_X9_200 dX9_takeNumber_53 (hM 0 (by decide)) rfl 9 (Nat.le_of_ble_eq_true rfl) rfl rfl rfl hS4 ?_
      refine v_lsub [1, 2, 0] rfl ?_
      refine L56 x1 _ ?_ 5000 (y3 - 48) S4 hf
      intro x2_156 S_156 hf
      refine v_aload_n K 0 dX9_takeNumber_156 rfl rfl ?_
      refine g_get K fk_X9_32 dX9_takeNumber_157 (hM 0 (by decide)) rfl rfl ?_
      refine v_iconst K dX9_takeNumber_160 ki_3 ?_
      refine v_aload_n K 0 dX9_takeNumber_161 rfl rfl ?_
      refine g_get K fk_X9_211 dX9_takeNumber_162 (hM 0 (by decide)) rfl rfl ?_
      refine v_imul K dX9_takeNumber_165 ?_
      refine v_iload_n K 1 dX9_takeNumber_166 rfl rfl ?_
      refine v_iadd K dX9_takeNumber_167 ?_
      refine v_iload_n K 2 dX9_takeNumber_168 rfl rfl ?_
      obtain ⟨hi169, hf⟩ := ix_el hf
      obtain ⟨S13, hS13, hf⟩ := bnd_el hf
      refine g_iast K dX9_takeNumber_169 (hM 8 (by decide)) (fun _ => rfl) hi169 hS13 ?_
      exact v_vret K rfl dX9_takeNumber_170 rfl (ew_o hf)
    · have hf := it_neg hc2 hf
      exact v_vret K rfl dX9_takeNumber_37 rfl (ew_o hf)
  · refine v_if_ne (tgt := 22) K dX9_takeNumber_5 (by decide) (fun hc1 => ?_) (fun hc1 => ?_)
    · have hf := it_neg hc1 hf
      refine v_iconst K dX9_takeNumber_22 ki_1 ?_
      refine v_goto (tgt := 27) K dX9_takeNumber_23 (by decide) ?_
      exact v_lsub [0, 1] rfl (hj1 1 hf (Or.inr rfl))
    · have hf := it_pos hc1 hf
      refine v_aload_n K 0 dX9_takeNumber_8 rfl rfl ?_
      obtain ⟨y14, hy14, hf⟩ := bd_el hf
      refine v_callWi (As := []) (rest := [.ref (eA E 1 0)]) K mk_X9_207 dX9_takeNumber_9 (c_X9_next hM hy14) (hM 0 (by decide)) rfl rfl rfl rfl rfl (Nat.le_of_ble_eq_true rfl) ⟨rfl, rfl⟩ ⟨Nat.le_of_ble_eq_true rfl, Nat.le_of_ble_eq_true rfl⟩ ?_
      refine v_bipush K dX9_takeNumber_12 kb_48 ?_
      refine v_bipush K dX9_takeNumber_14 kb_57 ?_
      refine v_callSi (As := [.int y14, .int 48, .int 57]) (rest := [.ref (eA E 1 0)]) K mk_X9_35 dX9_takeNumber_16 (c_X9_in  rfl) rfl rfl (Nat.le_of_ble_eq_true rfl) ⟨rfl, rfl⟩ ⟨Nat.le_of_ble_eq_true rfl, Nat.le_of_ble_eq_true rfl⟩ ?_
      refine v_if_ne (tgt := 26) K dX9_takeNumber_19 (by decide) (fun hc9 => ?_) (fun hc9 => ?_)
      · have hf := it_neg hc9 hf
        refine v_iconst K dX9_takeNumber_26 ki_0 ?_
        exact v_lsub [0, 1] rfl (hj1 0 hf (Or.inl rfl))
      · have hf := it_pos hc9 hf
        refine v_iconst K dX9_takeNumber_22 ki_1 ?_
        refine v_goto (tgt := 27) K dX9_takeNumber_23 (by decide) ?_
        exact v_lsub [0, 1] rfl (hj1 1 hf (Or.inr rfl))
set_option maxRecDepth 20000 in
theorem c_X9_takeOrder {G : Gs} (hM : ModG E) {S S' : St}  (hf : f_X9_takeOrder S = some S') : Ctr l D E A yX9_takeOrder cX9_takeOrder 2 none (rmD 2) [.ref (eA E 1 0)] (wl E (va_up G 1 S)) none (wl E (va_up G 1 S')) := by
  refine Ctr.of (own := RX9) pn_X9 rfl (Nat.le_of_ble_eq_true rfl) ?_
  intro p e s m args below meth c K
  refine v_lv (lv' := [(0, .ref (eA E 1 0))]) rfl ?_
  unfold f_X9_takeOrder at hf
  refine v_aload_n K 0 dX9_takeOrder_0 rfl rfl ?_
  obtain ⟨y1, hy1, hf⟩ := bd_el hf
  refine v_callWi (As := []) (rest := []) K mk_X9_207 dX9_takeOrder_1 (c_X9_next hM hy1) (hM 0 (by decide)) rfl rfl rfl rfl rfl (Nat.le_of_ble_eq_true rfl) ⟨rfl, rfl⟩ ⟨Nat.le_of_ble_eq_true rfl, Nat.le_of_ble_eq_true rfl⟩ ?_
  refine v_istore_n (lv' := [(1, .int y1), (0, .ref (eA E 1 0))]) K dX9_takeOrder_4 rfl (by decide) rfl ?_
  refine v_aload_n K 1 dX9_takeOrder_5 rfl rfl ?_
  refine v_dup K dX9_takeOrder_6 rfl ?_
  refine g_get K fk_X9_200 dX9_takeOrder_7 (hM 0 (by decide)) rfl rfl ?_
  refine v_iconst K dX9_takeOrder_10 ki_1 ?_
  refine v_iadd K dX9_takeOrder_11 ?_
  obtain ⟨S2, hS2, hf⟩ := bnd_el hf
  refine g_put K fp_X9_200 dX9_takeOrder_12 (hM 0 (by decide)) rfl 9 (Nat.le_of_ble_eq_true rfl) rfl rfl rfl hS2 ?_
  refine v_iload_n K 0 dX9_takeOrder_15 rfl rfl ?_
  refine jn_1 (fun (S_119 : St) => VV p l e (rmD 2) s m args below meth c (MQ below (CQ D A none (wl E (va_up G 1 S'))) args s 0 0 A) D A 2 (0, 0) 119 [] [(0, .ref (eA E 1 0)), (1, .int y1)] (wl E (va_up G 1 S_119))) hf (fun S_119 hf => ?_) (fun hj3 hf => ?_)
  · refine v_aload_n K 0 dX9_takeOrder_119 rfl rfl ?_
    refine g_get K fk_X9_203 dX9_takeOrder_120 (hM 0 (by decide)) rfl rfl ?_
    refine v_if_ne (tgt := 146) K dX9_takeOrder_123 (by decide) (fun hc1 => ?_) (fun hc1 => ?_)
    · have hf := it_neg hc1 hf
      exact v_vret K rfl dX9_takeOrder_146 rfl (ew_o hf)
    · have hf := it_pos hc1 hf
      refine v_aload_n K 0 dX9_takeOrder_126 rfl rfl ?_
      refine g_get K fk_X9_29 dX9_takeOrder_127 (hM 0 (by decide)) rfl rfl ?_
      refine v_aload_n K 0 dX9_takeOrder_130 rfl rfl ?_
      refine g_get K fk_X9_211 dX9_takeOrder_131 (hM 0 (by decide)) rfl rfl ?_
      refine v_iload_n K 1 dX9_takeOrder_134 rfl rfl ?_
      obtain ⟨hi135, hf⟩ := ix_el hf
      obtain ⟨S4, hS4, hf⟩ := bnd_el hf
      refine g_iast K dX9_takeOrder_135 (hM 7 (by decide)) (fun _ => rfl) hi135 hS4 ?_
      refine v_aload_n K 0 dX9_takeOrder_136 rfl rfl ?_
      refine v_dup K dX9_takeOrder_137 rfl ?_
      refine g_get K fk_X9_211 dX9_takeOrder_138 (hM 0 (by decide)) rfl rfl ?_
      refine v_iconst K dX9_takeOrder_141 ki_1 ?_
      refine v_iadd K dX9_takeOrder_142 ?_
      obtain ⟨S5, hS5, hf⟩ := bnd_el hf
      refine g_put K fp_X9_211 dX9_takeOrder_143 (hM 0 (by decide)) rfl 11 (Nat.le_of_ble_eq_true rfl) rfl rfl rfl hS5 ?_
      exact v_vret K rfl dX9_takeOrder_146 rfl (ew_o hf)
  · by_cases hw16_0 : y1 = 98
    · have hf := it_pos hw16_0 hf
      refine v_lookup (tgt := 60) (off := 44) K dX9_takeOrder_16 (by decide) (by rw [hw16_0]; decide) (by decide) ?_
      refine v_aload_n K 1 dX9_takeOrder_60 rfl rfl ?_
      refine v_iconst K dX9_takeOrder_61 ki_0 ?_
      obtain ⟨S6, hS6, hf⟩ := bd_el hf
      refine v_callWn (As := [.int 0]) (rest := []) K mk_X9_214 dX9_takeOrder_62 (c_X9_takeNumber hM hS6) (hM 0 (by decide)) rfl rfl rfl rfl rfl (Nat.le_of_ble_eq_true rfl) ⟨rfl, rfl⟩ ⟨Nat.le_of_ble_eq_true rfl, Nat.le_of_ble_eq_true rfl⟩ ?_
      refine v_aload_n K 1 dX9_takeOrder_65 rfl rfl ?_
      refine v_bipush K dX9_takeOrder_66 kb_58 ?_
      obtain ⟨S7, hS7, hf⟩ := bd_el hf
      refine v_callWn (As := [.int 58]) (rest := []) K mk_X9_217 dX9_takeOrder_68 (c_X9_takeSign hM hS7) (hM 0 (by decide)) rfl rfl rfl rfl rfl (Nat.le_of_ble_eq_true rfl) ⟨rfl, rfl⟩ ⟨Nat.le_of_ble_eq_true rfl, Nat.le_of_ble_eq_true rfl⟩ ?_
      refine v_aload_n K 1 dX9_takeOrder_71 rfl rfl ?_
      refine v_iconst K dX9_takeOrder_72 ki_1 ?_
      obtain ⟨S8, hS8, hf⟩ := bd_el hf
      refine v_callWn (As := [.int 1]) (rest := []) K mk_X9_214 dX9_takeOrder_73 (c_X9_takeNumber hM hS8) (hM 0 (by decide)) rfl rfl rfl rfl rfl (Nat.le_of_ble_eq_true rfl) ⟨rfl, rfl⟩ ⟨Nat.le_of_ble_eq_true rfl, Nat.le_of_ble_eq_true rfl⟩ ?_
      refine v_iload_n K 0 dX9_takeOrder_76 rfl rfl ?_
      refine v_bipush K dX9_takeOrder_77 kb_119 ?_
      refine v_icmp_ne (tgt := 119) K dX9_takeOrder_79 (by decide) (fun hc2 => ?_) (fun hc2 => ?_)
      · have hf := it_neg hc2 hf
        exact v_lsub [1, 0] rfl (hj3 S8 hf)
      · have hf := it_pos hc2 hf
        refine v_aload_n K 1 dX9_takeOrder_82 rfl rfl ?_
        refine v_bipush K dX9_takeOrder_83 kb_61 ?_
        obtain ⟨S9, hS9, hf⟩ := bd_el hf
        refine v_callWn (As := [.int 61]) (rest := []) K mk_X9_217 dX9_takeOrder_85 (c_X9_takeSign hM hS9) (hM 0 (by decide)) rfl rfl rfl rfl rfl (Nat.le_of_ble_eq_true rfl) ⟨rfl, rfl⟩ ⟨Nat.le_of_ble_eq_true rfl, Nat.le_of_ble_eq_true rfl⟩ ?_
        refine v_aload_n K 1 dX9_takeOrder_88 rfl rfl ?_
        refine v_iconst K dX9_takeOrder_89 ki_2 ?_
        obtain ⟨S10, hS10, hf⟩ := bd_el hf
        refine v_callWn (As := [.int 2]) (rest := []) K mk_X9_214 dX9_takeOrder_90 (c_X9_takeNumber hM hS10) (hM 0 (by decide)) rfl rfl rfl rfl rfl (Nat.le_of_ble_eq_true rfl) ⟨rfl, rfl⟩ ⟨Nat.le_of_ble_eq_true rfl, Nat.le_of_ble_eq_true rfl⟩ ?_
        refine v_goto (tgt := 119) K dX9_takeOrder_93 (by decide) ?_
        exact v_lsub [1, 0] rfl (hj3 S10 hf)
    · have hf := it_neg hw16_0 hf
      by_cases hw16_1 : y1 = 99
      · have hf := it_pos hw16_1 hf
        refine v_lookup (tgt := 96) (off := 80) K dX9_takeOrder_16 (by decide) (by rw [hw16_1]; decide) (by decide) ?_
        refine v_aload_n K 1 dX9_takeOrder_96 rfl rfl ?_
        refine v_iconst K dX9_takeOrder_97 ki_0 ?_
        obtain ⟨S11, hS11, hf⟩ := bd_el hf
        refine v_callWn (As := [.int 0]) (rest := []) K mk_X9_214 dX9_takeOrder_98 (c_X9_takeNumber hM hS11) (hM 0 (by decide)) rfl rfl rfl rfl rfl (Nat.le_of_ble_eq_true rfl) ⟨rfl, rfl⟩ ⟨Nat.le_of_ble_eq_true rfl, Nat.le_of_ble_eq_true rfl⟩ ?_
        refine v_goto (tgt := 119) K dX9_takeOrder_101 (by decide) ?_
        exact v_lsub [1, 0] rfl (hj3 S11 hf)
      · have hf := it_neg hw16_1 hf
        by_cases hw16_2 : y1 = 114
        · have hf := it_pos hw16_2 hf
          refine v_lookup (tgt := 60) (off := 44) K dX9_takeOrder_16 (by decide) (by rw [hw16_2]; decide) (by decide) ?_
          refine v_aload_n K 1 dX9_takeOrder_60 rfl rfl ?_
          refine v_iconst K dX9_takeOrder_61 ki_0 ?_
          obtain ⟨S12, hS12, hf⟩ := bd_el hf
          refine v_callWn (As := [.int 0]) (rest := []) K mk_X9_214 dX9_takeOrder_62 (c_X9_takeNumber hM hS12) (hM 0 (by decide)) rfl rfl rfl rfl rfl (Nat.le_of_ble_eq_true rfl) ⟨rfl, rfl⟩ ⟨Nat.le_of_ble_eq_true rfl, Nat.le_of_ble_eq_true rfl⟩ ?_
          refine v_aload_n K 1 dX9_takeOrder_65 rfl rfl ?_
          refine v_bipush K dX9_takeOrder_66 kb_58 ?_
          obtain ⟨S13, hS13, hf⟩ := bd_el hf
          refine v_callWn (As := [.int 58]) (rest := []) K mk_X9_217 dX9_takeOrder_68 (c_X9_takeSign hM hS13) (hM 0 (by decide)) rfl rfl rfl rfl rfl (Nat.le_of_ble_eq_true rfl) ⟨rfl, rfl⟩ ⟨Nat.le_of_ble_eq_true rfl, Nat.le_of_ble_eq_true rfl⟩ ?_
          refine v_aload_n K 1 dX9_takeOrder_71 rfl rfl ?_
          refine v_iconst K dX9_takeOrder_72 ki_1 ?_
          obtain ⟨S14, hS14, hf⟩ := bd_el hf
          refine v_callWn (As := [.int 1]) (rest := []) K mk_X9_214 dX9_takeOrder_73 (c_X9_takeNumber hM hS14) (hM 0 (by decide)) rfl rfl rfl rfl rfl (Nat.le_of_ble_eq_true rfl) ⟨rfl, rfl⟩ ⟨Nat.le_of_ble_eq_true rfl, Nat.le_of_ble_eq_true rfl⟩ ?_
          refine v_iload_n K 0 dX9_takeOrder_76 rfl rfl ?_
          refine v_bipush K dX9_takeOrder_77 kb_119 ?_
          refine v_icmp_ne (tgt := 119) K dX9_takeOrder_79 (by decide) (fun hc3 => ?_) (fun hc3 => ?_)
          · have hf := it_neg hc3 hf
            exact v_lsub [1, 0] rfl (hj3 S14 hf)
          · have hf := it_pos hc3 hf
            refine v_aload_n K 1 dX9_takeOrder_82 rfl rfl ?_
            refine v_bipush K dX9_takeOrder_83 kb_61 ?_
            obtain ⟨S15, hS15, hf⟩ := bd_el hf
            refine v_callWn (As := [.int 61]) (rest := []) K mk_X9_217 dX9_takeOrder_85 (c_X9_takeSign hM hS15) (hM 0 (by decide)) rfl rfl rfl rfl rfl (Nat.le_of_ble_eq_true rfl) ⟨rfl, rfl⟩ ⟨Nat.le_of_ble_eq_true rfl, Nat.le_of_ble_eq_true rfl⟩ ?_
            refine v_aload_n K 1 dX9_takeOrder_88 rfl rfl ?_
            refine v_iconst K dX9_takeOrder_89 ki_2 ?_
            obtain ⟨S16, hS16, hf⟩ := bd_el hf
            refine v_callWn (As := [.int 2]) (rest := []) K mk_X9_214 dX9_takeOrder_90 (c_X9_takeNumber hM hS16) (hM 0 (by decide)) rfl rfl rfl rfl rfl (Nat.le_of_ble_eq_true rfl) ⟨rfl, rfl⟩ ⟨Nat.le_of_ble_eq_true rfl, Nat.le_of_ble_eq_true rfl⟩ ?_
            refine v_goto (tgt := 119) K dX9_takeOrder_93 (by decide) ?_
            exact v_lsub [1, 0] rfl (hj3 S16 hf)
        · have hf := it_neg hw16_2 hf
          by_cases hw16_3 : y1 = 119
          · have hf := it_pos hw16_3 hf
            refine v_lookup (tgt := 60) (off := 44) K dX9_takeOrder_16 (by decide) (by rw [hw16_3]; decide) (by decide) ?_
            refine v_aload_n K 1 dX9_takeOrder_60 rfl rfl ?_
            refine v_iconst K dX9_takeOrder_61 ki_0 ?_
            obtain ⟨S17, hS17, hf⟩ := bd_el hf
            refine v_callWn (As := [.int 0]) (rest := []) K mk_X9_214 dX9_takeOrder_62 (c_X9_takeNumber hM hS17) (hM 0 (by decide)) rfl rfl rfl rfl rfl (Nat.le_of_ble_eq_true rfl) ⟨rfl, rfl⟩ ⟨Nat.le_of_ble_eq_true rfl, Nat.le_of_ble_eq_true rfl⟩ ?_
            refine v_aload_n K 1 dX9_takeOrder_65 rfl rfl ?_
            refine v_bipush K dX9_takeOrder_66 kb_58 ?_
            obtain ⟨S18, hS18, hf⟩ := bd_el hf
            refine v_callWn (As := [.int 58]) (rest := []) K mk_X9_217 dX9_takeOrder_68 (c_X9_takeSign hM hS18) (hM 0 (by decide)) rfl rfl rfl rfl rfl (Nat.le_of_ble_eq_true rfl) ⟨rfl, rfl⟩ ⟨Nat.le_of_ble_eq_true rfl, Nat.le_of_ble_eq_true rfl⟩ ?_
            refine v_aload_n K 1 dX9_takeOrder_71 rfl rfl ?_
            refine v_iconst K dX9_takeOrder_72 ki_1 ?_
            obtain ⟨S19, hS19, hf⟩ := bd_el hf
            refine v_callWn (As := [.int 1]) (rest := []) K mk_X9_214 dX9_takeOrder_73 (c_X9_takeNumber hM hS19) (hM 0 (by decide)) rfl rfl rfl rfl rfl (Nat.le_of_ble_eq_true rfl) ⟨rfl, rfl⟩ ⟨Nat.le_of_ble_eq_true rfl, Nat.le_of_ble_eq_true rfl⟩ ?_
            refine v_iload_n K 0 dX9_takeOrder_76 rfl rfl ?_
            refine v_bipush K dX9_takeOrder_77 kb_119 ?_
            refine v_icmp_ne (tgt := 119) K dX9_takeOrder_79 (by decide) (fun hc4 => ?_) (fun hc4 => ?_)
            · have hf := it_neg hc4 hf
              exact v_lsub [1, 0] rfl (hj3 S19 hf)
            · have hf := it_pos hc4 hf
              refine v_aload_n K 1 dX9_takeOrder_82 rfl rfl ?_
              refine v_bipush K dX9_takeOrder_83 kb_61 ?_
              obtain ⟨S20, hS20, hf⟩ := bd_el hf
              refine v_callWn (As := [.int 61]) (rest := []) K mk_X9_217 dX9_takeOrder_85 (c_X9_takeSign hM hS20) (hM 0 (by decide)) rfl rfl rfl rfl rfl (Nat.le_of_ble_eq_true rfl) ⟨rfl, rfl⟩ ⟨Nat.le_of_ble_eq_true rfl, Nat.le_of_ble_eq_true rfl⟩ ?_
              refine v_aload_n K 1 dX9_takeOrder_88 rfl rfl ?_
              refine v_iconst K dX9_takeOrder_89 ki_2 ?_
              obtain ⟨S21, hS21, hf⟩ := bd_el hf
              refine v_callWn (As := [.int 2]) (rest := []) K mk_X9_214 dX9_takeOrder_90 (c_X9_takeNumber hM hS21) (hM 0 (by decide)) rfl rfl rfl rfl rfl (Nat.le_of_ble_eq_true rfl) ⟨rfl, rfl⟩ ⟨Nat.le_of_ble_eq_true rfl, Nat.le_of_ble_eq_true rfl⟩ ?_
              refine v_goto (tgt := 119) K dX9_takeOrder_93 (by decide) ?_
              exact v_lsub [1, 0] rfl (hj3 S21 hf)
          · have hf := it_neg hw16_3 hf
            refine v_lookup (tgt := 104) (off := 88) K dX9_takeOrder_16 (by decide) (by simp [lookupswitch.offset, ne_toInt (z := 98) (by decide) hw16_0, ne_toInt (z := 99) (by decide) hw16_1, ne_toInt (z := 114) (by decide) hw16_2, ne_toInt (z := 119) (by decide) hw16_3]) (by decide) ?_
            refine v_aload_n K 1 dX9_takeOrder_104 rfl rfl ?_
            refine v_dup K dX9_takeOrder_105 rfl ?_
            refine g_get K fk_X9_200 dX9_takeOrder_106 (hM 0 (by decide)) rfl rfl ?_
            refine v_iconst K dX9_takeOrder_109 ki_1 ?_
            refine v_isub K dX9_takeOrder_110 ?_
            obtain ⟨S22, hS22, hf⟩ := bnd_el hf
            refine g_put K fp_X9_200 dX9_takeOrder_111 (hM 0 (by decide)) rfl 9 (Nat.le_of_ble_eq_true rfl) rfl rfl rfl hS22 ?_
            refine v_aload_n K 1 dX9_takeOrder_114 rfl rfl ?_
            refine v_iconst K dX9_takeOrder_115 ki_1 ?_
            obtain ⟨S23, hS23, hf⟩ := bnd_el hf
            refine g_put K fp_X9_203 dX9_takeOrder_116 (hM 0 (by decide)) rfl 10 (Nat.le_of_ble_eq_true rfl) rfl rfl rfl hS23 ?_
            exact v_lsub [1, 0] rfl (hj3 S23 hf)
set_option maxRecDepth 20000 in
theorem c_X9_fault {G : Gs} (hM : ModG E) {S S' : St}  {r : Int32} (hf : f_X9_fault S = some (r, S')) : Ctr l D E A yX9_fault cX9_fault 1 (some .int) (rmD 3) [.ref (eA E 1 0)] (wl E (va_up G 1 S)) (some (.int r)) (wl E (va_up G 1 S')) := by
  refine Ctr.of (own := RX9) pn_X9 rfl (Nat.le_of_ble_eq_true rfl) ?_
  intro p e s m args below meth c K
  refine v_lv (lv' := [(0, .ref (eA E 1 0))]) rfl ?_
  have L19 : ∀ (k : St → Option (Int32 × St)), (∀  (S : St), k S = some (r, S') → VV p l e (rmD 3) s m args below meth c (MQ below (CQ D A (some (.int r)) (wl E (va_up G 1 S'))) args s 0 0 A) D A 1 (0, 0) 57 [] [(0, .ref (eA E 1 0))] (wl E (va_up G 1 S))) → ∀ (n : Nat)  (S : St), f_X9_fault_L19 k n S = some (r, S') → VV p l e (rmD 3) s m args below meth c (MQ below (CQ D A (some (.int r)) (wl E (va_up G 1 S'))) args s 0 0 A) D A 1 (0, 0) 19 [] [(0, .ref (eA E 1 0))] (wl E (va_up G 1 S)) := by
    intro k hk n
    induction n with
    | zero =>
      intro S hf
      rw [f_X9_fault_L19] at hf
      cases hf
    | succ n ih =>
      intro S hf
      rw [f_X9_fault_L19] at hf
      refine v_aload_n K 0 dX9_fault_19 rfl rfl ?_
      refine g_get K fk_X9_203 dX9_fault_20 (hM 0 (by decide)) rfl rfl ?_
      refine v_if_ne (tgt := 57) K dX9_fault_23 (by decide) (fun hc1 => ?_) (fun hc1 => ?_)
      · have hf := it_neg hc1 hf
        exact v_lsub [0] rfl (hk S hf)
      · have hf := it_pos hc1 hf
        refine v_aload_n K 0 dX9_fault_26 rfl rfl ?_
        refine g_get K fk_X9_200 dX9_fault_27 (hM 0 (by decide)) rfl rfl ?_
        refine v_aload_n K 0 dX9_fault_30 rfl rfl ?_
        refine g_get K fk_X9_180 dX9_fault_31 (hM 0 (by decide)) rfl rfl ?_
        refine v_icmp_ge (tgt := 57) K dX9_fault_34 (by decide) (fun hc2 => ?_) (fun hc2 => ?_)
        · have hf := it_pos hc2 hf
          exact v_lsub [0] rfl (hk S hf)
        · have hf := it_neg hc2 hf
          refine v_aload_n K 0 dX9_fault_37 rfl rfl ?_
          refine v_bipush K dX9_fault_38 kb_59 ?_
          obtain ⟨S5, hS5, hf⟩ := bd_el hf
          refine v_callWn (As := [.int 59]) (rest := []) K mk_X9_217 dX9_fault_40 (c_X9_takeSign hM hS5) (hM 0 (by decide)) rfl rfl rfl rfl rfl (Nat.le_of_ble_eq_true rfl) ⟨rfl, rfl⟩ ⟨Nat.le_of_ble_eq_true rfl, Nat.le_of_ble_eq_true rfl⟩ ?_
          refine v_aload_n K 0 dX9_fault_43 rfl rfl ?_
          refine g_get K fk_X9_203 dX9_fault_44 (hM 0 (by decide)) rfl rfl ?_
          refine v_if_ne (tgt := 19) K dX9_fault_47 (by decide) (fun hc3 => ?_) (fun hc3 => ?_)
          · have hf := it_neg hc3 hf
            exact v_lsub [0] rfl (ih S5 hf)
          · have hf := it_pos hc3 hf
            refine v_aload_n K 0 dX9_fault_50 rfl rfl ?_
            obtain ⟨S6, hS6, hf⟩ := bd_el hf
            refine v_callWn (As := []) (rest := []) K mk_X9_220 dX9_fault_51 (c_X9_takeOrder hM hS6) (hM 0 (by decide)) rfl rfl rfl rfl rfl (Nat.le_of_ble_eq_true rfl) ⟨rfl, rfl⟩ ⟨Nat.le_of_ble_eq_true rfl, Nat.le_of_ble_eq_true rfl⟩ ?_
            refine v_goto (tgt := 19) K dX9_fault_54 (by decide) ?_
            exact v_lsub [0] rfl (ih S6 hf)
  unfold f_X9_fault at hf
  refine v_aload_n K 0 dX9_fault_0 rfl rfl ?_
  refine v_iconst K dX9_fault_1 ki_0 ?_
  obtain ⟨S1, hS1, hf⟩ := bnd_el hf
  refine g_put K fp_X9_200 dX9_fault_2 (hM 0 (by decide)) rfl 9 (Nat.le_of_ble_eq_true rfl) rfl rfl rfl hS1 ?_
  refine v_aload_n K 0 dX9_fault_5 rfl rfl ?_
  refine v_iconst K dX9_fault_6 ki_0 ?_
  obtain ⟨S2, hS2, hf⟩ := bnd_el hf
  refine g_put K fp_X9_203 dX9_fault_7 (hM 0 (by decide)) rfl 10 (Nat.le_of_ble_eq_true rfl) rfl rfl rfl hS2 ?_
  refine v_aload_n K 0 dX9_fault_10 rfl rfl ?_
  refine v_iconst K dX9_fault_11 ki_0 ?_
  obtain ⟨S3, hS3, hf⟩ := bnd_el hf
  refine g_put K fp_X9_211 dX9_fault_12 (hM 0 (by decide)) rfl 11 (Nat.le_of_ble_eq_true rfl) rfl rfl rfl hS3 ?_
  refine v_aload_n K 0 dX9_fault_15 rfl rfl ?_
  obtain ⟨S4, hS4, hf⟩ := bd_el hf
  refine v_callWn (As := []) (rest := []) K mk_X9_220 dX9_fault_16 (c_X9_takeOrder hM hS4) (hM 0 (by decide)) rfl rfl rfl rfl rfl (Nat.le_of_ble_eq_true rfl) ⟨rfl, rfl⟩ ⟨Nat.le_of_ble_eq_true rfl, Nat.le_of_ble_eq_true rfl⟩ ?_
  refine v_lsub [0] rfl ?_
  refine L19  _ ?_ 5000 S4 hf
  intro S_57 hf
  refine v_aload_n K 0 dX9_fault_57 rfl rfl ?_
  refine g_get K fk_X9_203 dX9_fault_58 (hM 0 (by decide)) rfl rfl ?_
  refine v_if_eq (tgt := 71) K dX9_fault_61 (by decide) (fun hc4 => ?_) (fun hc4 => ?_)
  · have hf := it_pos hc4 hf
    refine v_bipush K dX9_fault_71 kb_m6 ?_
    exact v_iret K rfl dX9_fault_73 (ev_q hf) (ew_q hf)
  · have hf := it_neg hc4 hf
    refine v_aload_n K 0 dX9_fault_64 rfl rfl ?_
    refine g_get K fk_X9_200 dX9_fault_65 (hM 0 (by decide)) rfl rfl ?_
    refine v_goto (tgt := 73) K dX9_fault_68 (by decide) ?_
    exact v_iret K rfl dX9_fault_73 (ev_q hf) (ew_q hf)
set_option maxRecDepth 20000 in
theorem c_X9_carry {G : Gs} (hM : ModG E) {S S' : St}  {x1 : Int32} {r : Int32} (hf : f_X9_carry S x1 = some (r, S')) : Ctr l D E A yX9_carry cX9_carry 3 (some .int) (rmD 8) [.ref (eA E 1 0), .int x1] (wl E (va_up G 1 S)) (some (.int r)) (wl E (va_up G 1 S')) := by
  refine Ctr.of (own := RX9) pn_X9 rfl (Nat.le_of_ble_eq_true rfl) ?_
  intro p e s m args below meth c K
  refine v_lv (lv' := [(0, .ref (eA E 1 0)), (1, .int x1)]) rfl ?_
  unfold f_X9_carry at hf
  refine v_iconst K dX9_carry_0 ki_3 ?_
  refine v_iload_n K 1 dX9_carry_1 rfl rfl ?_
  refine v_imul K dX9_carry_2 ?_
  refine v_istore_n (lv' := [(2, .int (3 * x1)), (0, .ref (eA E 1 0)), (1, .int x1)]) K dX9_carry_3 rfl (by decide) rfl ?_
  refine v_aload_n K 1 dX9_carry_4 rfl rfl ?_
  refine g_get K fk_X9_29 dX9_carry_5 (hM 0 (by decide)) rfl rfl ?_
  refine v_iload_n K 2 dX9_carry_8 rfl rfl ?_
  obtain ⟨hi9, hf⟩ := ix_el hf
  refine g_iald K dX9_carry_9 (hM 7 (by decide)) rfl hi9 ?_
  by_cases hw10_0 : (S 7 x1.toNatClampNeg) = 98
  · have hf := it_pos hw10_0 hf
    refine v_lookup (tgt := 92) (off := 82) K dX9_carry_10 (by decide) (by rw [hw10_0]; decide) (by decide) ?_
    refine v_aload_n K 1 dX9_carry_92 rfl rfl ?_
    refine v_aload_n K 1 dX9_carry_93 rfl rfl ?_
    refine g_get K fk_X9_32 dX9_carry_94 (hM 0 (by decide)) rfl rfl ?_
    refine v_iload_n K 0 dX9_carry_97 rfl rfl ?_
    obtain ⟨hi98, hf⟩ := ix_el hf
    refine g_iald K dX9_carry_98 (hM 8 (by decide)) rfl hi98 ?_
    refine v_aload_n K 1 dX9_carry_99 rfl rfl ?_
    refine g_get K fk_X9_32 dX9_carry_100 (hM 0 (by decide)) rfl rfl ?_
    refine v_iload_n K 0 dX9_carry_103 rfl rfl ?_
    refine v_iconst K dX9_carry_104 ki_1 ?_
    refine v_iadd K dX9_carry_105 ?_
    obtain ⟨hi106, hf⟩ := ix_el hf
    refine g_iald K dX9_carry_106 (hM 8 (by decide)) rfl hi106 ?_
    refine v_iconst K dX9_carry_107 ki_0 ?_
    obtain ⟨y2, S1, hS1, hf⟩ := bdp_el hf
    refine v_callWi (As := [.int (S 8 (3 * x1).toNatClampNeg), .int (S 8 ((3 * x1) + 1).toNatClampNeg), .int 0]) (rest := []) K mk_X9_157 dX9_carry_108 (c_X9_tryPutBack hM hS1) (hM 0 (by decide)) rfl rfl rfl rfl rfl (Nat.le_of_ble_eq_true rfl) ⟨rfl, rfl⟩ ⟨Nat.le_of_ble_eq_true rfl, Nat.le_of_ble_eq_true rfl⟩ ?_
    exact v_iret K rfl dX9_carry_111 (ev_q hf) (ew_q hf)
  · have hf := it_neg hw10_0 hf
    by_cases hw10_1 : (S 7 x1.toNatClampNeg) = 114
    · have hf := it_pos hw10_1 hf
      refine v_lookup (tgt := 44) (off := 34) K dX9_carry_10 (by decide) (by rw [hw10_1]; decide) (by decide) ?_
      refine v_aload_n K 1 dX9_carry_44 rfl rfl ?_
      refine v_aload_n K 1 dX9_carry_45 rfl rfl ?_
      refine g_get K fk_X9_32 dX9_carry_46 (hM 0 (by decide)) rfl rfl ?_
      refine v_iload_n K 0 dX9_carry_49 rfl rfl ?_
      obtain ⟨hi50, hf⟩ := ix_el hf
      refine g_iald K dX9_carry_50 (hM 8 (by decide)) rfl hi50 ?_
      refine v_aload_n K 1 dX9_carry_51 rfl rfl ?_
      refine g_get K fk_X9_32 dX9_carry_52 (hM 0 (by decide)) rfl rfl ?_
      refine v_iload_n K 0 dX9_carry_55 rfl rfl ?_
      refine v_iconst K dX9_carry_56 ki_1 ?_
      refine v_iadd K dX9_carry_57 ?_
      obtain ⟨hi58, hf⟩ := ix_el hf
      refine g_iald K dX9_carry_58 (hM 8 (by decide)) rfl hi58 ?_
      refine v_iconst K dX9_carry_59 ki_0 ?_
      obtain ⟨y4, S3, hS3, hf⟩ := bdp_el hf
      refine v_callWi (As := [.int (S 8 (3 * x1).toNatClampNeg), .int (S 8 ((3 * x1) + 1).toNatClampNeg), .int 0]) (rest := []) K mk_X9_146 dX9_carry_60 (c_X9_tryRead hM hS3) (hM 0 (by decide)) rfl rfl rfl rfl rfl (Nat.le_of_ble_eq_true rfl) ⟨rfl, rfl⟩ ⟨Nat.le_of_ble_eq_true rfl, Nat.le_of_ble_eq_true rfl⟩ ?_
      exact v_iret K rfl dX9_carry_63 (ev_q hf) (ew_q hf)
    · have hf := it_neg hw10_1 hf
      by_cases hw10_2 : (S 7 x1.toNatClampNeg) = 119
      · have hf := it_pos hw10_2 hf
        refine v_lookup (tgt := 64) (off := 54) K dX9_carry_10 (by decide) (by rw [hw10_2]; decide) (by decide) ?_
        refine v_aload_n K 1 dX9_carry_64 rfl rfl ?_
        refine v_aload_n K 1 dX9_carry_65 rfl rfl ?_
        refine g_get K fk_X9_32 dX9_carry_66 (hM 0 (by decide)) rfl rfl ?_
        refine v_iload_n K 0 dX9_carry_69 rfl rfl ?_
        obtain ⟨hi70, hf⟩ := ix_el hf
        refine g_iald K dX9_carry_70 (hM 8 (by decide)) rfl hi70 ?_
        refine v_aload_n K 1 dX9_carry_71 rfl rfl ?_
        refine g_get K fk_X9_32 dX9_carry_72 (hM 0 (by decide)) rfl rfl ?_
        refine v_iload_n K 0 dX9_carry_75 rfl rfl ?_
        refine v_iconst K dX9_carry_76 ki_1 ?_
        refine v_iadd K dX9_carry_77 ?_
        obtain ⟨hi78, hf⟩ := ix_el hf
        refine g_iald K dX9_carry_78 (hM 8 (by decide)) rfl hi78 ?_
        refine v_aload_n K 1 dX9_carry_79 rfl rfl ?_
        refine g_get K fk_X9_32 dX9_carry_80 (hM 0 (by decide)) rfl rfl ?_
        refine v_iload_n K 0 dX9_carry_83 rfl rfl ?_
        refine v_iconst K dX9_carry_84 ki_2 ?_
        refine v_iadd K dX9_carry_85 ?_
        obtain ⟨hi86, hf⟩ := ix_el hf
        refine g_iald K dX9_carry_86 (hM 8 (by decide)) rfl hi86 ?_
        refine v_iconst K dX9_carry_87 ki_0 ?_
        obtain ⟨y6, S5, hS5, hf⟩ := bdp_el hf
        refine v_callWi (As := [.int (S 8 (3 * x1).toNatClampNeg), .int (S 8 ((3 * x1) + 1).toNatClampNeg), .int (S 8 ((3 * x1) + 2).toNatClampNeg), .int 0]) (rest := []) K mk_X9_153 dX9_carry_88 (c_X9_tryChange hM hS5) (hM 0 (by decide)) rfl rfl rfl rfl rfl (Nat.le_of_ble_eq_true rfl) ⟨rfl, rfl⟩ ⟨Nat.le_of_ble_eq_true rfl, Nat.le_of_ble_eq_true rfl⟩ ?_
        exact v_iret K rfl dX9_carry_91 (ev_q hf) (ew_q hf)
      · have hf := it_neg hw10_2 hf
        refine v_lookup (tgt := 112) (off := 102) K dX9_carry_10 (by decide) (by simp [lookupswitch.offset, ne_toInt (z := 98) (by decide) hw10_0, ne_toInt (z := 114) (by decide) hw10_1, ne_toInt (z := 119) (by decide) hw10_2]) (by decide) ?_
        refine v_aload_n K 1 dX9_carry_112 rfl rfl ?_
        refine v_aload_n K 1 dX9_carry_113 rfl rfl ?_
        refine g_get K fk_X9_32 dX9_carry_114 (hM 0 (by decide)) rfl rfl ?_
        refine v_iload_n K 0 dX9_carry_117 rfl rfl ?_
        obtain ⟨hi118, hf⟩ := ix_el hf
        refine g_iald K dX9_carry_118 (hM 8 (by decide)) rfl hi118 ?_
        refine v_iconst K dX9_carry_119 ki_0 ?_
        obtain ⟨y8, S7, hS7, hf⟩ := bdp_el hf
        refine v_callWi (As := [.int (S 8 (3 * x1).toNatClampNeg), .int 0]) (rest := []) K mk_X9_160 dX9_carry_120 (c_X9_tryRecall hM hS7) (hM 0 (by decide)) rfl rfl rfl rfl rfl (Nat.le_of_ble_eq_true rfl) ⟨rfl, rfl⟩ ⟨Nat.le_of_ble_eq_true rfl, Nat.le_of_ble_eq_true rfl⟩ ?_
        exact v_iret K rfl dX9_carry_123 (ev_q hf) (ew_q hf)
set_option maxRecDepth 20000 in
theorem c_X9_carryOut {G : Gs} (hM : ModG E) {S S' : St}  {r : Int32} (hf : f_X9_carryOut S = some (r, S')) : Ctr l D E A yX9_carryOut cX9_carryOut 2 (some .int) (rmD 9) [.ref (eA E 1 0)] (wl E (va_up G 1 S)) (some (.int r)) (wl E (va_up G 1 S')) := by
  refine Ctr.of (own := RX9) pn_X9 rfl (Nat.le_of_ble_eq_true rfl) ?_
  intro p e s m args below meth c K
  refine v_lv (lv' := [(0, .ref (eA E 1 0))]) rfl ?_
  have L16 : ∀ (k : Int32 → St → Option (Int32 × St)), (∀ (x1 : Int32) (S : St), k x1 S = some (r, S') → VV p l e (rmD 9) s m args below meth c (MQ below (CQ D A (some (.int r)) (wl E (va_up G 1 S'))) args s 0 0 A) D A 2 (0, 0) 38 [] [(0, .ref (eA E 1 0)), (1, .int x1)] (wl E (va_up G 1 S))) → ∀ (n : Nat) (x1 : Int32) (S : St), f_X9_carryOut_L16 k n x1 S = some (r, S') → VV p l e (rmD 9) s m args below meth c (MQ below (CQ D A (some (.int r)) (wl E (va_up G 1 S'))) args s 0 0 A) D A 2 (0, 0) 16 [] [(0, .ref (eA E 1 0)), (1, .int x1)] (wl E (va_up G 1 S)) := by
    intro k hk n
    induction n with
    | zero =>
      intro x1 S hf
      rw [f_X9_carryOut_L16] at hf
      cases hf
    | succ n ih =>
      intro x1 S hf
      rw [f_X9_carryOut_L16] at hf
      refine v_iload_n K 1 dX9_carryOut_16 rfl rfl ?_
      refine v_aload_n K 0 dX9_carryOut_17 rfl rfl ?_
      refine g_get K fk_X9_211 dX9_carryOut_18 (hM 0 (by decide)) rfl rfl ?_
      refine v_icmp_ge (tgt := 38) K dX9_carryOut_21 (by decide) (fun hc2 => ?_) (fun hc2 => ?_)
      · have hf := it_pos hc2 hf
        exact v_lsub [0, 1] rfl (hk x1 S hf)
      · have hf := it_neg hc2 hf
        refine v_aload_n K 0 dX9_carryOut_24 rfl rfl ?_
        refine v_iload_n K 1 dX9_carryOut_25 rfl rfl ?_
        obtain ⟨y5, S4, hS4, hf⟩ := bdp_el hf
        refine v_callWi (As := [.int x1]) (rest := []) K mk_X9_226 dX9_carryOut_26 (c_X9_carry hM hS4) (hM 0 (by decide)) rfl rfl rfl rfl rfl (Nat.le_of_ble_eq_true rfl) ⟨rfl, rfl⟩ ⟨Nat.le_of_ble_eq_true rfl, Nat.le_of_ble_eq_true rfl⟩ ?_
        refine v_if_lt (tgt := 38) K dX9_carryOut_29 (by decide) (fun hc3 => ?_) (fun hc3 => ?_)
        · have hf := it_pos hc3 hf
          exact v_lsub [0, 1] rfl (hk x1 S4 hf)
        · have hf := it_neg hc3 hf
          refine v_iinc (v := x1 + 1) (lv' := [(1, .int (x1 + 1)), (0, .ref (eA E 1 0))]) K 1 dX9_carryOut_32 rfl rfl (by decide) rfl ?_
          refine v_goto (tgt := 16) K dX9_carryOut_35 (by decide) ?_
          exact v_lsub [1, 0] rfl (ih (x1 + 1) S4 hf)
  unfold f_X9_carryOut at hf
  refine v_aload_n K 0 dX9_carryOut_0 rfl rfl ?_
  obtain ⟨y2, S1, hS1, hf⟩ := bdp_el hf
  refine v_callWi (As := []) (rest := []) K mk_X9_223 dX9_carryOut_1 (c_X9_fault hM hS1) (hM 0 (by decide)) rfl rfl rfl rfl rfl (Nat.le_of_ble_eq_true rfl) ⟨rfl, rfl⟩ ⟨Nat.le_of_ble_eq_true rfl, Nat.le_of_ble_eq_true rfl⟩ ?_
  refine v_if_lt (tgt := 10) K dX9_carryOut_4 (by decide) (fun hc1 => ?_) (fun hc1 => ?_)
  · have hf := it_pos hc1 hf
    refine v_aload_n K 0 dX9_carryOut_10 rfl rfl ?_
    obtain ⟨S3, hS3, hf⟩ := bd_el hf
    refine v_callWn (As := []) (rest := []) K mk_X9_46 dX9_carryOut_11 (c_X9_keep hM hS3) (hM 0 (by decide)) rfl rfl rfl rfl rfl (Nat.le_of_ble_eq_true rfl) ⟨rfl, rfl⟩ ⟨Nat.le_of_ble_eq_true rfl, Nat.le_of_ble_eq_true rfl⟩ ?_
    refine v_iconst K dX9_carryOut_14 ki_0 ?_
    refine v_istore_n (lv' := [(1, .int 0), (0, .ref (eA E 1 0))]) K dX9_carryOut_15 rfl (by decide) rfl ?_
    refine v_lsub [1, 0] rfl ?_
    refine L16  _ ?_ 5000 0 S3 hf
    intro x1_38 S_38 hf
    refine v_aload_n K 0 dX9_carryOut_38 rfl rfl ?_
    refine v_iconst K dX9_carryOut_39 ki_0 ?_
    obtain ⟨S6, hS6, hf⟩ := bnd_el hf
    refine g_put K fp_X9_180 dX9_carryOut_40 (hM 0 (by decide)) rfl 8 (Nat.le_of_ble_eq_true rfl) rfl rfl rfl hS6 ?_
    refine v_iload_n K 1 dX9_carryOut_43 rfl rfl ?_
    exact v_iret K rfl dX9_carryOut_44 (ev_q hf) (ew_q hf)
  · have hf := it_neg hc1 hf
    refine v_bipush K dX9_carryOut_7 kb_m3 ?_
    exact v_iret K rfl dX9_carryOut_9 (ev_q hf) (ew_q hf)
set_option maxRecDepth 20000 in
theorem c_X9_undo {G : Gs} (hM : ModG E) {S S' : St}  {r : Int32} (hf : f_X9_undo S = some (r, S')) : Ctr l D E A yX9_undo cX9_undo 3 (some .int) (rmD 0) [.ref (eA E 1 0)] (wl E (va_up G 1 S)) (some (.int r)) (wl E (va_up G 1 S')) := by
  refine Ctr.of (own := RX9) pn_X9 rfl (Nat.le_of_ble_eq_true rfl) ?_
  intro p e s m args below meth c K
  refine v_lv (lv' := [(0, .ref (eA E 1 0))]) rfl ?_
  have L35 : ∀ (x1 : Int32), ∀ (n : Nat) (x2 : Int32) (S : St), f_X9_undo_L35 x1 n x2 S = some (r, S') → VV p l e (rmD 0) s m args below meth c (MQ below (CQ D A (some (.int r)) (wl E (va_up G 1 S'))) args s 0 0 A) D A 3 (0, 0) 35 [] [(0, .ref (eA E 1 0)), (1, .int x1), (2, .int x2)] (wl E (va_up G 1 S)) := by
    intro x1 n
    induction n with
    | zero =>
      intro x2 S hf
      rw [f_X9_undo_L35] at hf
      cases hf
    | succ n ih =>
      intro x2 S hf
      rw [f_X9_undo_L35] at hf
      refine v_iload_n K 2 dX9_undo_35 rfl rfl ?_
      refine v_sipush K dX9_undo_36 ks_652 ?_
      refine v_icmp_ge (tgt := 66) K dX9_undo_39 (by decide) (fun hc2 => ?_) (fun hc2 => ?_)
      · have hf := it_pos hc2 hf
        refine v_aload_n K 0 dX9_undo_66 rfl rfl ?_
        refine g_get K fk_X9_39 dX9_undo_67 (hM 0 (by decide)) rfl rfl ?_
        exact v_iret K rfl dX9_undo_70 (ev_q hf) (ew_q hf)
      · have hf := it_neg hc2 hf
        refine v_aload_n K 0 dX9_undo_42 rfl rfl ?_
        refine g_get K fk_X9_7 dX9_undo_43 (hM 0 (by decide)) rfl rfl ?_
        refine v_iload_n K 2 dX9_undo_46 rfl rfl ?_
        refine v_aload_n K 0 dX9_undo_47 rfl rfl ?_
        refine g_get K fk_X9_13 dX9_undo_48 (hM 0 (by decide)) rfl rfl ?_
        refine v_sipush K dX9_undo_51 ks_652 ?_
        refine v_iload_n K 1 dX9_undo_54 rfl rfl ?_
        refine v_imul K dX9_undo_55 ?_
        refine v_iload_n K 2 dX9_undo_56 rfl rfl ?_
        refine v_iadd K dX9_undo_57 ?_
        obtain ⟨hi58, hf⟩ := ix_el hf
        refine g_iald K dX9_undo_58 (hM 2 (by decide)) rfl hi58 ?_
        obtain ⟨hi59, hf⟩ := ix_el hf
        obtain ⟨S2, hS2, hf⟩ := bnd_el hf
        refine g_iast K dX9_undo_59 (hM 1 (by decide)) (fun _ => rfl) hi59 hS2 ?_
        refine v_iinc (v := x2 + 1) (lv' := [(2, .int (x2 + 1)), (0, .ref (eA E 1 0)), (1, .int x1)]) K 2 dX9_undo_60 rfl rfl (by decide) rfl ?_
        refine v_goto (tgt := 35) K dX9_undo_63 (by decide) ?_
        exact v_lsub [1, 2, 0] rfl (ih (x2 + 1) S2 hf)
  unfold f_X9_undo at hf
  refine v_aload_n K 0 dX9_undo_0 rfl rfl ?_
  refine g_get K fk_X9_39 dX9_undo_1 (hM 0 (by decide)) rfl rfl ?_
  refine v_if_ne (tgt := 10) K dX9_undo_4 (by decide) (fun hc1 => ?_) (fun hc1 => ?_)
  · have hf := it_neg hc1 hf
    refine v_aload_n K 0 dX9_undo_10 rfl rfl ?_
    refine v_dup K dX9_undo_11 rfl ?_
    refine g_get K fk_X9_39 dX9_undo_12 (hM 0 (by decide)) rfl rfl ?_
    refine v_iconst K dX9_undo_15 ki_1 ?_
    refine v_isub K dX9_undo_16 ?_
    obtain ⟨S1, hS1, hf⟩ := bnd_el hf
    refine g_put K fp_X9_39 dX9_undo_17 (hM 0 (by decide)) rfl 3 (Nat.le_of_ble_eq_true rfl) rfl rfl rfl hS1 ?_
    refine v_aload_n K 0 dX9_undo_20 rfl rfl ?_
    refine g_get K fk_X9_43 dX9_undo_21 (hM 0 (by decide)) rfl rfl ?_
    refine v_aload_n K 0 dX9_undo_24 rfl rfl ?_
    refine g_get K fk_X9_39 dX9_undo_25 (hM 0 (by decide)) rfl rfl ?_
    refine v_iadd K dX9_undo_28 ?_
    refine v_bipush K dX9_undo_29 kb_6 ?_
    refine v_irem K dX9_undo_31 (by decide) ?_
    refine v_istore_n (lv' := [(1, .int (((S1 0 2) + (S1 0 3)) - ((S1 0 2) + (S1 0 3)) / 6 * 6)), (0, .ref (eA E 1 0))]) K dX9_undo_32 rfl (by decide) rfl ?_
    refine v_iconst K dX9_undo_33 ki_0 ?_
    refine v_istore_n (lv' := [(2, .int 0), (1, .int (((S1 0 2) + (S1 0 3)) - ((S1 0 2) + (S1 0 3)) / 6 * 6)), (0, .ref (eA E 1 0))]) K dX9_undo_34 rfl (by decide) rfl ?_
    refine v_lsub [2, 1, 0] rfl ?_
    exact L35 (((S1 0 2) + (S1 0 3)) - ((S1 0 2) + (S1 0 3)) / 6 * 6) 5000 0 S1 hf
  · have hf := it_pos hc1 hf
    refine v_bipush K dX9_undo_7 kb_m5 ?_
    exact v_iret K rfl dX9_undo_9 (ev_q hf) (ew_q hf)
set_option maxRecDepth 20000 in
theorem c_X9_save {G : Gs} (hM : ModG E) {S S' : St}  {x1 : Int32} {r : Int32} (hf : f_X9_save S x1 = some (r, S')) : Ctr l D E A yX9_save cX9_save 3 (some .int) (rmD 1) [.ref (eA E 1 0), .int x1] (wl E (va_up G 1 S)) (some (.int r)) (wl E (va_up G 1 S')) := by
  refine Ctr.of (own := RX9) pn_X9 rfl (Nat.le_of_ble_eq_true rfl) ?_
  intro p e s m args below meth c K
  refine v_lv (lv' := [(0, .ref (eA E 1 0)), (1, .int x1)]) rfl ?_
  have L14 : ∀ (x1 : Int32), ∀ (k : Int32 → St → Option (Int32 × St)), (∀ (x2 : Int32) (S : St), k x2 S = some (r, S') → VV p l e (rmD 1) s m args below meth c (MQ below (CQ D A (some (.int r)) (wl E (va_up G 1 S'))) args s 0 0 A) D A 3 (0, 0) 45 [] [(0, .ref (eA E 1 0)), (1, .int x1)] (wl E (va_up G 1 S))) → ∀ (n : Nat) (x2 : Int32) (S : St), f_X9_save_L14 x1 k n x2 S = some (r, S') → VV p l e (rmD 1) s m args below meth c (MQ below (CQ D A (some (.int r)) (wl E (va_up G 1 S'))) args s 0 0 A) D A 3 (0, 0) 14 [] [(0, .ref (eA E 1 0)), (1, .int x1), (2, .int x2)] (wl E (va_up G 1 S)) := by
    intro x1 k hk n
    induction n with
    | zero =>
      intro x2 S hf
      rw [f_X9_save_L14] at hf
      cases hf
    | succ n ih =>
      intro x2 S hf
      rw [f_X9_save_L14] at hf
      refine v_iload_n K 2 dX9_save_14 rfl rfl ?_
      refine v_sipush K dX9_save_15 ks_652 ?_
      refine v_icmp_ge (tgt := 45) K dX9_save_18 (by decide) (fun hc2 => ?_) (fun hc2 => ?_)
      · have hf := it_pos hc2 hf
        exact v_lsub [0, 1] rfl (hk x2 S hf)
      · have hf := it_neg hc2 hf
        refine v_aload_n K 0 dX9_save_21 rfl rfl ?_
        refine g_get K fk_X9_16 dX9_save_22 (hM 0 (by decide)) rfl rfl ?_
        refine v_sipush K dX9_save_25 ks_652 ?_
        refine v_iload_n K 1 dX9_save_28 rfl rfl ?_
        refine v_imul K dX9_save_29 ?_
        refine v_iload_n K 2 dX9_save_30 rfl rfl ?_
        refine v_iadd K dX9_save_31 ?_
        refine v_aload_n K 0 dX9_save_32 rfl rfl ?_
        refine g_get K fk_X9_7 dX9_save_33 (hM 0 (by decide)) rfl rfl ?_
        refine v_iload_n K 2 dX9_save_36 rfl rfl ?_
        obtain ⟨hi37, hf⟩ := ix_el hf
        refine g_iald K dX9_save_37 (hM 1 (by decide)) rfl hi37 ?_
        obtain ⟨hi38, hf⟩ := ix_el hf
        obtain ⟨S1, hS1, hf⟩ := bnd_el hf
        refine g_iast K dX9_save_38 (hM 3 (by decide)) (fun _ => rfl) hi38 hS1 ?_
        refine v_iinc (v := x2 + 1) (lv' := [(2, .int (x2 + 1)), (0, .ref (eA E 1 0)), (1, .int x1)]) K 2 dX9_save_39 rfl rfl (by decide) rfl ?_
        refine v_goto (tgt := 14) K dX9_save_42 (by decide) ?_
        exact v_lsub [1, 2, 0] rfl (ih (x2 + 1) S1 hf)
  unfold f_X9_save at hf
  refine v_iload_n K 1 dX9_save_0 rfl rfl ?_
  refine v_iconst K dX9_save_1 ki_0 ?_
  refine v_iconst K dX9_save_2 ki_1 ?_
  refine v_callSi (As := [.int x1, .int 0, .int 1]) (rest := []) K mk_X9_35 dX9_save_3 (c_X9_in  rfl) rfl rfl (Nat.le_of_ble_eq_true rfl) ⟨rfl, rfl⟩ ⟨Nat.le_of_ble_eq_true rfl, Nat.le_of_ble_eq_true rfl⟩ ?_
  refine v_if_ne (tgt := 12) K dX9_save_6 (by decide) (fun hc1 => ?_) (fun hc1 => ?_)
  · have hf := it_neg hc1 hf
    refine v_iconst K dX9_save_12 ki_0 ?_
    refine v_istore_n (lv' := [(2, .int 0), (0, .ref (eA E 1 0)), (1, .int x1)]) K dX9_save_13 rfl (by decide) rfl ?_
    refine v_lsub [1, 2, 0] rfl ?_
    refine L14 x1 _ ?_ 5000 0 S hf
    intro x2_45 S_45 hf
    refine v_aload_n K 0 dX9_save_45 rfl rfl ?_
    refine g_get K fk_X9_19 dX9_save_46 (hM 0 (by decide)) rfl rfl ?_
    refine v_iload_n K 1 dX9_save_49 rfl rfl ?_
    refine v_iconst K dX9_save_50 ki_1 ?_
    obtain ⟨hi51, hf⟩ := ix_el hf
    obtain ⟨S2, hS2, hf⟩ := bnd_el hf
    refine g_zast K dX9_save_51 (hM 4 (by decide)) (fun _ => rfl) hi51 rfl hS2 ?_
    refine v_aload_n K 0 dX9_save_52 rfl rfl ?_
    refine g_get K fk_X9_7 dX9_save_53 (hM 0 (by decide)) rfl rfl ?_
    refine v_iconst K dX9_save_56 ki_4 ?_
    obtain ⟨hi57, hf⟩ := ix_el hf
    refine g_iald K dX9_save_57 (hM 1 (by decide)) rfl hi57 ?_
    exact v_iret K rfl dX9_save_58 (ev_q hf) (ew_q hf)
  · have hf := it_pos hc1 hf
    refine v_bipush K dX9_save_9 kb_m2 ?_
    exact v_iret K rfl dX9_save_11 (ev_q hf) (ew_q hf)
set_option maxRecDepth 20000 in
theorem c_X9_restore {G : Gs} (hM : ModG E) {S S' : St}  {x1 : Int32} {r : Int32} (hf : f_X9_restore S x1 = some (r, S')) : Ctr l D E A yX9_restore cX9_restore 3 (some .int) (rmD 1) [.ref (eA E 1 0), .int x1] (wl E (va_up G 1 S)) (some (.int r)) (wl E (va_up G 1 S')) := by
  refine Ctr.of (own := RX9) pn_X9 rfl (Nat.le_of_ble_eq_true rfl) ?_
  intro p e s m args below meth c K
  refine v_lv (lv' := [(0, .ref (eA E 1 0)), (1, .int x1)]) rfl ?_
  have L30 : ∀ (x1 : Int32), ∀ (k : Int32 → St → Option (Int32 × St)), (∀ (x2 : Int32) (S : St), k x2 S = some (r, S') → VV p l e (rmD 1) s m args below meth c (MQ below (CQ D A (some (.int r)) (wl E (va_up G 1 S'))) args s 0 0 A) D A 3 (0, 0) 61 [] [(0, .ref (eA E 1 0))] (wl E (va_up G 1 S))) → ∀ (n : Nat) (x2 : Int32) (S : St), f_X9_restore_L30 x1 k n x2 S = some (r, S') → VV p l e (rmD 1) s m args below meth c (MQ below (CQ D A (some (.int r)) (wl E (va_up G 1 S'))) args s 0 0 A) D A 3 (0, 0) 30 [] [(0, .ref (eA E 1 0)), (1, .int x1), (2, .int x2)] (wl E (va_up G 1 S)) := by
    intro x1 k hk n
    induction n with
    | zero =>
      intro x2 S hf
      rw [f_X9_restore_L30] at hf
      cases hf
    | succ n ih =>
      intro x2 S hf
      rw [f_X9_restore_L30] at hf
      refine v_iload_n K 2 dX9_restore_30 rfl rfl ?_
      refine v_sipush K dX9_restore_31 ks_652 ?_
      refine v_icmp_ge (tgt := 61) K dX9_restore_34 (by decide) (fun hc3 => ?_) (fun hc3 => ?_)
      · have hf := it_pos hc3 hf
        exact v_lsub [0] rfl (hk x2 S hf)
      · have hf := it_neg hc3 hf
        refine v_aload_n K 0 dX9_restore_37 rfl rfl ?_
        refine g_get K fk_X9_7 dX9_restore_38 (hM 0 (by decide)) rfl rfl ?_
        refine v_iload_n K 2 dX9_restore_41 rfl rfl ?_
        refine v_aload_n K 0 dX9_restore_42 rfl rfl ?_
        refine g_get K fk_X9_16 dX9_restore_43 (hM 0 (by decide)) rfl rfl ?_
        refine v_sipush K dX9_restore_46 ks_652 ?_
        refine v_iload_n K 1 dX9_restore_49 rfl rfl ?_
        refine v_imul K dX9_restore_50 ?_
        refine v_iload_n K 2 dX9_restore_51 rfl rfl ?_
        refine v_iadd K dX9_restore_52 ?_
        obtain ⟨hi53, hf⟩ := ix_el hf
        refine g_iald K dX9_restore_53 (hM 3 (by decide)) rfl hi53 ?_
        obtain ⟨hi54, hf⟩ := ix_el hf
        obtain ⟨S2, hS2, hf⟩ := bnd_el hf
        refine g_iast K dX9_restore_54 (hM 1 (by decide)) (fun _ => rfl) hi54 hS2 ?_
        refine v_iinc (v := x2 + 1) (lv' := [(2, .int (x2 + 1)), (0, .ref (eA E 1 0)), (1, .int x1)]) K 2 dX9_restore_55 rfl rfl (by decide) rfl ?_
        refine v_goto (tgt := 30) K dX9_restore_58 (by decide) ?_
        exact v_lsub [1, 2, 0] rfl (ih (x2 + 1) S2 hf)
  unfold f_X9_restore at hf
  refine v_iload_n K 1 dX9_restore_0 rfl rfl ?_
  refine v_iconst K dX9_restore_1 ki_0 ?_
  refine v_iconst K dX9_restore_2 ki_1 ?_
  refine v_callSi (As := [.int x1, .int 0, .int 1]) (rest := []) K mk_X9_35 dX9_restore_3 (c_X9_in  rfl) rfl rfl (Nat.le_of_ble_eq_true rfl) ⟨rfl, rfl⟩ ⟨Nat.le_of_ble_eq_true rfl, Nat.le_of_ble_eq_true rfl⟩ ?_
  refine v_if_ne (tgt := 12) K dX9_restore_6 (by decide) (fun hc1 => ?_) (fun hc1 => ?_)
  · have hf := it_neg hc1 hf
    refine v_aload_n K 0 dX9_restore_12 rfl rfl ?_
    refine g_get K fk_X9_19 dX9_restore_13 (hM 0 (by decide)) rfl rfl ?_
    refine v_iload_n K 1 dX9_restore_16 rfl rfl ?_
    obtain ⟨hi17, hf⟩ := ix_el hf
    refine g_zald K dX9_restore_17 (hM 4 (by decide)) rfl hi17 ?_
    refine v_if_ne (tgt := 24) K dX9_restore_18 (by decide) (fun hc2 => ?_) (fun hc2 => ?_)
    · have hf := it_neg hc2 hf
      refine v_aload_n K 0 dX9_restore_24 rfl rfl ?_
      obtain ⟨S1, hS1, hf⟩ := bd_el hf
      refine v_callWn (As := []) (rest := []) K mk_X9_46 dX9_restore_25 (c_X9_keep hM hS1) (hM 0 (by decide)) rfl rfl rfl rfl rfl (Nat.le_of_ble_eq_true rfl) ⟨rfl, rfl⟩ ⟨Nat.le_of_ble_eq_true rfl, Nat.le_of_ble_eq_true rfl⟩ ?_
      refine v_iconst K dX9_restore_28 ki_0 ?_
      refine v_istore_n (lv' := [(2, .int 0), (0, .ref (eA E 1 0)), (1, .int x1)]) K dX9_restore_29 rfl (by decide) rfl ?_
      refine v_lsub [1, 2, 0] rfl ?_
      refine L30 x1 _ ?_ 5000 0 S1 hf
      intro x2_61 S_61 hf
      refine v_aload_n K 0 dX9_restore_61 rfl rfl ?_
      refine g_get K fk_X9_7 dX9_restore_62 (hM 0 (by decide)) rfl rfl ?_
      refine v_iconst K dX9_restore_65 ki_4 ?_
      obtain ⟨hi66, hf⟩ := ix_el hf
      refine g_iald K dX9_restore_66 (hM 1 (by decide)) rfl hi66 ?_
      exact v_iret K rfl dX9_restore_67 (ev_q hf) (ew_q hf)
    · have hf := it_pos hc2 hf
      refine v_bipush K dX9_restore_21 kb_m5 ?_
      exact v_iret K rfl dX9_restore_23 (ev_q hf) (ew_q hf)
  · have hf := it_pos hc1 hf
    refine v_bipush K dX9_restore_9 kb_m2 ?_
    exact v_iret K rfl dX9_restore_11 (ev_q hf) (ew_q hf)
