variable {l : Launch} {D : va_G} {E : En} {A : Nat → Prop}
def hsW (E : En) (h0 qs : Nat) (a0 a1 a2 a3 a4 a5 : Nat → Nat) : va_W := [(h0, .inr (2, [.ref qs, .int 0, .int 0])), (qs, .inl (eL E, 6, .inr (.inr (.inr (.inr ((va_up (va_up (va_up (va_up (va_up (va_up (fun _ => none) 0 (some (a0 0))) 1 (some (a1 0))) 2 (some (a2 0))) 3 (some (a3 0))) 4 (some (a4 0))) 5 (some (a5 0)))))))))]
def hsZ (E : En) (a0 a1 a2 a3 a4 a5 : Nat → Nat) : va_W := (((((([] ++ lbW E a0 lbS) ++ lbW E a1 lbS) ++ lbW E a2 lbS) ++ lbW E a3 lbS) ++ lbW E a4 lbS) ++ lbW E a5 lbS)
set_option maxRecDepth 20000 in
theorem c_X2_init {X : va_W} {h0 : Nat} : CtrA l D E A yX2_init cX2_init 2 none ({ frames := 4, cells := 253, slots := 5034, locals := 120 } : Room) [.ref h0] (X ++ [(h0, .inr (2, [.null, .int 0, .int 0]))]) none (fun ws1 => ∃ (qs : Nat) (a0 a1 a2 a3 a4 a5 : Nat → Nat), ws1 = (X ++ hsW E h0 qs a0 a1 a2 a3 a4 a5) ++ hsZ E a0 a1 a2 a3 a4 a5) 253 5034 := by
  refine CtrA.of (own := RX2) pn_X2 rfl (Nat.le_of_ble_eq_true rfl) ?_
  intro p e s m args below meth c K hO hA hin
  refine v_lv (lv' := [(0, .ref h0)]) rfl ?_
  refine v_aload_n K 0 dX2_init_0 rfl rfl ?_
  refine v_objInit K mlX2_3 dX2_init_1 (Nat.le_of_ble_eq_true rfl) (Nat.le_of_ble_eq_true rfl) ?_
  refine v_aload_n K 0 dX2_init_4 rfl rfl ?_
  refine v_bipush K dX2_init_5 kb_6 ?_
  refine v_newq (n := 6) K hO hA clX2_9 dX2_init_7 (by decide) (by decide) (by decide) ⟨Nat.le_of_ble_eq_true rfl, Nat.le_of_ble_eq_true rfl⟩ (fun qs => ?_)
  refine v_ws (List.append_assoc _ _ _) ?_
  refine v_putF (q0 := X.length + 0) (ws1 := X ++ [(h0, .inr (2, [.ref qs, .int 0, .int 0])), (qs, .inl (eL E, 6, .inr (.inr (.inr (.inr ((fun _ => none)))))))]) K hin ff_X2_11 dX2_init_10 (at_X X _ 0) (Nat.le_of_ble_eq_true rfl) rfl rfl (set_X X _ 0 _) ?_
  refine v_ws (ws' := (X ++ [(h0, .inr (2, [.ref qs, .int 0, .int 0])), (qs, .inl (eL E, 6, .inr (.inr (.inr (.inr ((fun _ => none)))))))]) ++ []) (List.append_nil _).symm ?_
  refine v_iconst K dX2_init_13 ki_0 ?_
  refine v_istore_n (lv' := [(1, .int 0), (0, .ref h0)]) K dX2_init_14 rfl (by decide) rfl ?_
  refine v_iload_n K 0 dX2_init_15 rfl rfl ?_
  refine v_aload_n K 1 dX2_init_16 rfl rfl ?_
  refine v_getP (q0 := X.length + 0) K fk_X2_11 dX2_init_17 (at_L (at_X X _ 0)) rfl ?_
  refine v_alenqP (q0 := X.length + 1) K dX2_init_20 (at_L (at_X X _ 1)) rfl ?_
  refine v_icmp_ge (tgt := 43) K dX2_init_21 (by decide) (fun hh => absurd hh (by decide)) (fun _ => ?_)
  refine v_aload_n K 1 dX2_init_24 rfl rfl ?_
  refine v_getP (q0 := X.length + 0) K fk_X2_11 dX2_init_25 (at_L (at_X X _ 0)) rfl ?_
  refine v_iload_n K 0 dX2_init_28 rfl rfl ?_
  refine v_new K hA nw_X2_9 dX2_init_29 ⟨Nat.le_of_ble_eq_true rfl, Nat.le_of_ble_eq_true rfl⟩ (fun q0 => ?_)
  refine v_dup K dX2_init_32 rfl ?_
  refine v_callI (As := []) (rest := [.ref q0, .int 0, .ref qs]) K hO hA mi_X2_17 dX2_init_33 c_X3_init rfl rfl rfl (Nat.le_of_ble_eq_true rfl) ⟨Nat.le_of_ble_eq_true rfl, Nat.le_of_ble_eq_true rfl⟩ ⟨Nat.le_of_ble_eq_true rfl, Nat.le_of_ble_eq_true rfl⟩ (fun ws1 hB => ?_)
  obtain ⟨a0, ha0, rfl⟩ := hB
  subst ha0
  refine v_astqP (q0 := X.length + 1) (ws1 := ((X ++ [(h0, .inr (2, [.ref qs, .int 0, .int 0])), (qs, .inl (eL E, 6, .inr (.inr (.inr (.inr ((va_up (fun _ => none) 0 (some (a0 0)))))))))]) ++ []) ++ lbW E a0 lbS) (r := (RX3, TX3, 12)) (ci := 3) K dX2_init_36 (at_L (at_L (at_X X _ 1))) ((at_X _ _ 0).trans rfl) rfl rfl (by unfold vp_in; decide) ((set_L (at_L (at_X X _ 1))).trans (congrArg (fun w => w ++ lbW E a0 lbS) ((set_L (at_X X _ 1)).trans (congrArg (fun w => w ++ []) (set_X X _ 1 _))))) ?_
  refine v_ws (ws' := (X ++ [(h0, .inr (2, [.ref qs, .int 0, .int 0])), (qs, .inl (eL E, 6, .inr (.inr (.inr (.inr ((va_up (fun _ => none) 0 (some (a0 0)))))))))]) ++ ([] ++ lbW E a0 lbS)) (List.append_assoc _ _ _) ?_
  refine v_iinc (v := 1) (lv' := [(1, .int 1), (0, .ref h0)]) K 0 dX2_init_37 rfl (by decide) (by decide) rfl ?_
  refine v_goto (tgt := 15) K dX2_init_40 (by decide) ?_
  refine v_iload_n K 0 dX2_init_15 rfl rfl ?_
  refine v_aload_n K 1 dX2_init_16 rfl rfl ?_
  refine v_getP (q0 := X.length + 0) K fk_X2_11 dX2_init_17 (at_L (at_X X _ 0)) rfl ?_
  refine v_alenqP (q0 := X.length + 1) K dX2_init_20 (at_L (at_X X _ 1)) rfl ?_
  refine v_icmp_ge (tgt := 43) K dX2_init_21 (by decide) (fun hh => absurd hh (by decide)) (fun _ => ?_)
  refine v_aload_n K 1 dX2_init_24 rfl rfl ?_
  refine v_getP (q0 := X.length + 0) K fk_X2_11 dX2_init_25 (at_L (at_X X _ 0)) rfl ?_
  refine v_iload_n K 0 dX2_init_28 rfl rfl ?_
  refine v_new K hA nw_X2_9 dX2_init_29 ⟨Nat.le_of_ble_eq_true rfl, Nat.le_of_ble_eq_true rfl⟩ (fun q1 => ?_)
  refine v_dup K dX2_init_32 rfl ?_
  refine v_callI (As := []) (rest := [.ref q1, .int 1, .ref qs]) K hO hA mi_X2_17 dX2_init_33 c_X3_init rfl rfl rfl (Nat.le_of_ble_eq_true rfl) ⟨Nat.le_of_ble_eq_true rfl, Nat.le_of_ble_eq_true rfl⟩ ⟨Nat.le_of_ble_eq_true rfl, Nat.le_of_ble_eq_true rfl⟩ (fun ws1 hB => ?_)
  obtain ⟨a1, ha1, rfl⟩ := hB
  subst ha1
  refine v_astqP (q0 := X.length + 1) (ws1 := ((X ++ [(h0, .inr (2, [.ref qs, .int 0, .int 0])), (qs, .inl (eL E, 6, .inr (.inr (.inr (.inr ((va_up (va_up (fun _ => none) 0 (some (a0 0))) 1 (some (a1 0)))))))))]) ++ ([] ++ lbW E a0 lbS)) ++ lbW E a1 lbS) (r := (RX3, TX3, 12)) (ci := 3) K dX2_init_36 (at_L (at_L (at_X X _ 1))) ((at_X _ _ 0).trans rfl) rfl rfl (by unfold vp_in; decide) ((set_L (at_L (at_X X _ 1))).trans (congrArg (fun w => w ++ lbW E a1 lbS) ((set_L (at_X X _ 1)).trans (congrArg (fun w => w ++ ([] ++ lbW E a0 lbS)) (set_X X _ 1 _))))) ?_
  refine v_ws (ws' := (X ++ [(h0, .inr (2, [.ref qs, .int 0, .int 0])), (qs, .inl (eL E, 6, .inr (.inr (.inr (.inr ((va_up (va_up (fun _ => none) 0 (some (a0 0))) 1 (some (a1 0)))))))))]) ++ (([] ++ lbW E a0 lbS) ++ lbW E a1 lbS)) (List.append_assoc _ _ _) ?_
  refine v_iinc (v := 2) (lv' := [(1, .int 2), (0, .ref h0)]) K 0 dX2_init_37 rfl (by decide) (by decide) rfl ?_
  refine v_goto (tgt := 15) K dX2_init_40 (by decide) ?_
  refine v_iload_n K 0 dX2_init_15 rfl rfl ?_
  refine v_aload_n K 1 dX2_init_16 rfl rfl ?_
  refine v_getP (q0 := X.length + 0) K fk_X2_11 dX2_init_17 (at_L (at_X X _ 0)) rfl ?_
  refine v_alenqP (q0 := X.length + 1) K dX2_init_20 (at_L (at_X X _ 1)) rfl ?_
  refine v_icmp_ge (tgt := 43) K dX2_init_21 (by decide) (fun hh => absurd hh (by decide)) (fun _ => ?_)
  refine v_aload_n K 1 dX2_init_24 rfl rfl ?_
  refine v_getP (q0 := X.length + 0) K fk_X2_11 dX2_init_25 (at_L (at_X X _ 0)) rfl ?_
  refine v_iload_n K 0 dX2_init_28 rfl rfl ?_
  refine v_new K hA nw_X2_9 dX2_init_29 ⟨Nat.le_of_ble_eq_true rfl, Nat.le_of_ble_eq_true rfl⟩ (fun q2 => ?_)
  refine v_dup K dX2_init_32 rfl ?_
  refine v_callI (As := []) (rest := [.ref q2, .int 2, .ref qs]) K hO hA mi_X2_17 dX2_init_33 c_X3_init rfl rfl rfl (Nat.le_of_ble_eq_true rfl) ⟨Nat.le_of_ble_eq_true rfl, Nat.le_of_ble_eq_true rfl⟩ ⟨Nat.le_of_ble_eq_true rfl, Nat.le_of_ble_eq_true rfl⟩ (fun ws1 hB => ?_)
  obtain ⟨a2, ha2, rfl⟩ := hB
  subst ha2
  refine v_astqP (q0 := X.length + 1) (ws1 := ((X ++ [(h0, .inr (2, [.ref qs, .int 0, .int 0])), (qs, .inl (eL E, 6, .inr (.inr (.inr (.inr ((va_up (va_up (va_up (fun _ => none) 0 (some (a0 0))) 1 (some (a1 0))) 2 (some (a2 0)))))))))]) ++ (([] ++ lbW E a0 lbS) ++ lbW E a1 lbS)) ++ lbW E a2 lbS) (r := (RX3, TX3, 12)) (ci := 3) K dX2_init_36 (at_L (at_L (at_X X _ 1))) ((at_X _ _ 0).trans rfl) rfl rfl (by unfold vp_in; decide) ((set_L (at_L (at_X X _ 1))).trans (congrArg (fun w => w ++ lbW E a2 lbS) ((set_L (at_X X _ 1)).trans (congrArg (fun w => w ++ (([] ++ lbW E a0 lbS) ++ lbW E a1 lbS)) (set_X X _ 1 _))))) ?_
  refine v_ws (ws' := (X ++ [(h0, .inr (2, [.ref qs, .int 0, .int 0])), (qs, .inl (eL E, 6, .inr (.inr (.inr (.inr ((va_up (va_up (va_up (fun _ => none) 0 (some (a0 0))) 1 (some (a1 0))) 2 (some (a2 0)))))))))]) ++ ((([] ++ lbW E a0 lbS) ++ lbW E a1 lbS) ++ lbW E a2 lbS)) (List.append_assoc _ _ _) ?_
  refine v_iinc (v := 3) (lv' := [(1, .int 3), (0, .ref h0)]) K 0 dX2_init_37 rfl (by decide) (by decide) rfl ?_
  refine v_goto (tgt := 15) K dX2_init_40 (by decide) ?_
  refine v_iload_n K 0 dX2_init_15 rfl rfl ?_
  refine v_aload_n K 1 dX2_init_16 rfl rfl ?_
  refine v_getP (q0 := X.length + 0) K fk_X2_11 dX2_init_17 (at_L (at_X X _ 0)) rfl ?_
  refine v_alenqP (q0 := X.length + 1) K dX2_init_20 (at_L (at_X X _ 1)) rfl ?_
  refine v_icmp_ge (tgt := 43) K dX2_init_21 (by decide) (fun hh => absurd hh (by decide)) (fun _ => ?_)
  refine v_aload_n K 1 dX2_init_24 rfl rfl ?_
  refine v_getP (q0 := X.length + 0) K fk_X2_11 dX2_init_25 (at_L (at_X X _ 0)) rfl ?_
  refine v_iload_n K 0 dX2_init_28 rfl rfl ?_
  refine v_new K hA nw_X2_9 dX2_init_29 ⟨Nat.le_of_ble_eq_true rfl, Nat.le_of_ble_eq_true rfl⟩ (fun q3 => ?_)
  refine v_dup K dX2_init_32 rfl ?_
  refine v_callI (As := []) (rest := [.ref q3, .int 3, .ref qs]) K hO hA mi_X2_17 dX2_init_33 c_X3_init rfl rfl rfl (Nat.le_of_ble_eq_true rfl) ⟨Nat.le_of_ble_eq_true rfl, Nat.le_of_ble_eq_true rfl⟩ ⟨Nat.le_of_ble_eq_true rfl, Nat.le_of_ble_eq_true rfl⟩ (fun ws1 hB => ?_)
  obtain ⟨a3, ha3, rfl⟩ := hB
  subst ha3
  refine v_astqP (q0 := X.length + 1) (ws1 := ((X ++ [(h0, .inr (2, [.ref qs, .int 0, .int 0])), (qs, .inl (eL E, 6, .inr (.inr (.inr (.inr ((va_up (va_up (va_up (va_up (fun _ => none) 0 (some (a0 0))) 1 (some (a1 0))) 2 (some (a2 0))) 3 (some (a3 0)))))))))]) ++ ((([] ++ lbW E a0 lbS) ++ lbW E a1 lbS) ++ lbW E a2 lbS)) ++ lbW E a3 lbS) (r := (RX3, TX3, 12)) (ci := 3) K dX2_init_36 (at_L (at_L (at_X X _ 1))) ((at_X _ _ 0).trans rfl) rfl rfl (by unfold vp_in; decide) ((set_L (at_L (at_X X _ 1))).trans (congrArg (fun w => w ++ lbW E a3 lbS) ((set_L (at_X X _ 1)).trans (congrArg (fun w => w ++ ((([] ++ lbW E a0 lbS) ++ lbW E a1 lbS) ++ lbW E a2 lbS)) (set_X X _ 1 _))))) ?_
  refine v_ws (ws' := (X ++ [(h0, .inr (2, [.ref qs, .int 0, .int 0])), (qs, .inl (eL E, 6, .inr (.inr (.inr (.inr ((va_up (va_up (va_up (va_up (fun _ => none) 0 (some (a0 0))) 1 (some (a1 0))) 2 (some (a2 0))) 3 (some (a3 0)))))))))]) ++ (((([] ++ lbW E a0 lbS) ++ lbW E a1 lbS) ++ lbW E a2 lbS) ++ lbW E a3 lbS)) (List.append_assoc _ _ _) ?_
  refine v_iinc (v := 4) (lv' := [(1, .int 4), (0, .ref h0)]) K 0 dX2_init_37 rfl (by decide) (by decide) rfl ?_
  refine v_goto (tgt := 15) K dX2_init_40 (by decide) ?_
  refine v_iload_n K 0 dX2_init_15 rfl rfl ?_
  refine v_aload_n K 1 dX2_init_16 rfl rfl ?_
  refine v_getP (q0 := X.length + 0) K fk_X2_11 dX2_init_17 (at_L (at_X X _ 0)) rfl ?_
  refine v_alenqP (q0 := X.length + 1) K dX2_init_20 (at_L (at_X X _ 1)) rfl ?_
  refine v_icmp_ge (tgt := 43) K dX2_init_21 (by decide) (fun hh => absurd hh (by decide)) (fun _ => ?_)
  refine v_aload_n K 1 dX2_init_24 rfl rfl ?_
  refine v_getP (q0 := X.length + 0) K fk_X2_11 dX2_init_25 (at_L (at_X X _ 0)) rfl ?_
  refine v_iload_n K 0 dX2_init_28 rfl rfl ?_
  refine v_new K hA nw_X2_9 dX2_init_29 ⟨Nat.le_of_ble_eq_true rfl, Nat.le_of_ble_eq_true rfl⟩ (fun q4 => ?_)
  refine v_dup K dX2_init_32 rfl ?_
  refine v_callI (As := []) (rest := [.ref q4, .int 4, .ref qs]) K hO hA mi_X2_17 dX2_init_33 c_X3_init rfl rfl rfl (Nat.le_of_ble_eq_true rfl) ⟨Nat.le_of_ble_eq_true rfl, Nat.le_of_ble_eq_true rfl⟩ ⟨Nat.le_of_ble_eq_true rfl, Nat.le_of_ble_eq_true rfl⟩ (fun ws1 hB => ?_)
  obtain ⟨a4, ha4, rfl⟩ := hB
  subst ha4
  refine v_astqP (q0 := X.length + 1) (ws1 := ((X ++ [(h0, .inr (2, [.ref qs, .int 0, .int 0])), (qs, .inl (eL E, 6, .inr (.inr (.inr (.inr ((va_up (va_up (va_up (va_up (va_up (fun _ => none) 0 (some (a0 0))) 1 (some (a1 0))) 2 (some (a2 0))) 3 (some (a3 0))) 4 (some (a4 0)))))))))]) ++ (((([] ++ lbW E a0 lbS) ++ lbW E a1 lbS) ++ lbW E a2 lbS) ++ lbW E a3 lbS)) ++ lbW E a4 lbS) (r := (RX3, TX3, 12)) (ci := 3) K dX2_init_36 (at_L (at_L (at_X X _ 1))) ((at_X _ _ 0).trans rfl) rfl rfl (by unfold vp_in; decide) ((set_L (at_L (at_X X _ 1))).trans (congrArg (fun w => w ++ lbW E a4 lbS) ((set_L (at_X X _ 1)).trans (congrArg (fun w => w ++ (((([] ++ lbW E a0 lbS) ++ lbW E a1 lbS) ++ lbW E a2 lbS) ++ lbW E a3 lbS)) (set_X X _ 1 _))))) ?_
  refine v_ws (ws' := (X ++ [(h0, .inr (2, [.ref qs, .int 0, .int 0])), (qs, .inl (eL E, 6, .inr (.inr (.inr (.inr ((va_up (va_up (va_up (va_up (va_up (fun _ => none) 0 (some (a0 0))) 1 (some (a1 0))) 2 (some (a2 0))) 3 (some (a3 0))) 4 (some (a4 0)))))))))]) ++ ((((([] ++ lbW E a0 lbS) ++ lbW E a1 lbS) ++ lbW E a2 lbS) ++ lbW E a3 lbS) ++ lbW E a4 lbS)) (List.append_assoc _ _ _) ?_
  refine v_iinc (v := 5) (lv' := [(1, .int 5), (0, .ref h0)]) K 0 dX2_init_37 rfl (by decide) (by decide) rfl ?_
  refine v_goto (tgt := 15) K dX2_init_40 (by decide) ?_
  refine v_iload_n K 0 dX2_init_15 rfl rfl ?_
  refine v_aload_n K 1 dX2_init_16 rfl rfl ?_
  refine v_getP (q0 := X.length + 0) K fk_X2_11 dX2_init_17 (at_L (at_X X _ 0)) rfl ?_
  refine v_alenqP (q0 := X.length + 1) K dX2_init_20 (at_L (at_X X _ 1)) rfl ?_
  refine v_icmp_ge (tgt := 43) K dX2_init_21 (by decide) (fun hh => absurd hh (by decide)) (fun _ => ?_)
  refine v_aload_n K 1 dX2_init_24 rfl rfl ?_
  refine v_getP (q0 := X.length + 0) K fk_X2_11 dX2_init_25 (at_L (at_X X _ 0)) rfl ?_
  refine v_iload_n K 0 dX2_init_28 rfl rfl ?_
  refine v_new K hA nw_X2_9 dX2_init_29 ⟨Nat.le_of_ble_eq_true rfl, Nat.le_of_ble_eq_true rfl⟩ (fun q5 => ?_)
  refine v_dup K dX2_init_32 rfl ?_
  refine v_callI (As := []) (rest := [.ref q5, .int 5, .ref qs]) K hO hA mi_X2_17 dX2_init_33 c_X3_init rfl rfl rfl (Nat.le_of_ble_eq_true rfl) ⟨Nat.le_of_ble_eq_true rfl, Nat.le_of_ble_eq_true rfl⟩ ⟨Nat.le_of_ble_eq_true rfl, Nat.le_of_ble_eq_true rfl⟩ (fun ws1 hB => ?_)
  obtain ⟨a5, ha5, rfl⟩ := hB
  subst ha5
  refine v_astqP (q0 := X.length + 1) (ws1 := ((X ++ [(h0, .inr (2, [.ref qs, .int 0, .int 0])), (qs, .inl (eL E, 6, .inr (.inr (.inr (.inr ((va_up (va_up (va_up (va_up (va_up (va_up (fun _ => none) 0 (some (a0 0))) 1 (some (a1 0))) 2 (some (a2 0))) 3 (some (a3 0))) 4 (some (a4 0))) 5 (some (a5 0)))))))))]) ++ ((((([] ++ lbW E a0 lbS) ++ lbW E a1 lbS) ++ lbW E a2 lbS) ++ lbW E a3 lbS) ++ lbW E a4 lbS)) ++ lbW E a5 lbS) (r := (RX3, TX3, 12)) (ci := 3) K dX2_init_36 (at_L (at_L (at_X X _ 1))) ((at_X _ _ 0).trans rfl) rfl rfl (by unfold vp_in; decide) ((set_L (at_L (at_X X _ 1))).trans (congrArg (fun w => w ++ lbW E a5 lbS) ((set_L (at_X X _ 1)).trans (congrArg (fun w => w ++ ((((([] ++ lbW E a0 lbS) ++ lbW E a1 lbS) ++ lbW E a2 lbS) ++ lbW E a3 lbS) ++ lbW E a4 lbS)) (set_X X _ 1 _))))) ?_
  refine v_ws (ws' := (X ++ [(h0, .inr (2, [.ref qs, .int 0, .int 0])), (qs, .inl (eL E, 6, .inr (.inr (.inr (.inr ((va_up (va_up (va_up (va_up (va_up (va_up (fun _ => none) 0 (some (a0 0))) 1 (some (a1 0))) 2 (some (a2 0))) 3 (some (a3 0))) 4 (some (a4 0))) 5 (some (a5 0)))))))))]) ++ (((((([] ++ lbW E a0 lbS) ++ lbW E a1 lbS) ++ lbW E a2 lbS) ++ lbW E a3 lbS) ++ lbW E a4 lbS) ++ lbW E a5 lbS)) (List.append_assoc _ _ _) ?_
  refine v_iinc (v := 6) (lv' := [(1, .int 6), (0, .ref h0)]) K 0 dX2_init_37 rfl (by decide) (by decide) rfl ?_
  refine v_goto (tgt := 15) K dX2_init_40 (by decide) ?_
  refine v_iload_n K 0 dX2_init_15 rfl rfl ?_
  refine v_aload_n K 1 dX2_init_16 rfl rfl ?_
  refine v_getP (q0 := X.length + 0) K fk_X2_11 dX2_init_17 (at_L (at_X X _ 0)) rfl ?_
  refine v_alenqP (q0 := X.length + 1) K dX2_init_20 (at_L (at_X X _ 1)) rfl ?_
  refine v_icmp_ge (tgt := 43) K dX2_init_21 (by decide) (fun _ => ?_) (fun hh => absurd (by decide) hh)
  exact v_vretA K rfl dX2_init_43 rfl ⟨qs, a0, a1, a2, a3, a4, a5, rfl⟩ ⟨Nat.le_of_ble_eq_true rfl, Nat.le_of_ble_eq_true rfl⟩
def tpW (E : En) (X : va_W) (h0 : Nat) (l0 l1 : Nat → Nat) (qh qs : Nat) (a0 a1 a2 a3 a4 a5 : Nat → Nat) (qt qp qc qd qo : Nat) : va_W := (X ++ [(h0, .inr (8, [.ref (l0 0), .ref (l1 0), .ref qh, .ref qt, .ref qo, .ref qp]))]) ++ (((((([] ++ lbW E l0 lbS) ++ lbW E l1 lbS) ++ hsW E qh qs a0 a1 a2 a3 a4 a5) ++ hsZ E a0 a1 a2 a3 a4 a5) ++ [(qt, .inl (eL E, 2, .inr (.inr (.inr (.inr (fun _ => none))))))]) ++ [(qo, .inr (4, [.ref qp, .int 0, .int 0, .int 0, .int 0, .int 0, .int 0])), (qp, .inr (5, [.ref qc, .int 0])), (qc, .inr (6, [.ref qd])), (qd, .inl (eI E, 80, .inl (fun _ => 0)))])
set_option maxRecDepth 20000 in
theorem c_X8_init {X : va_W} {h0 : Nat} : CtrA l D E A yX8_init cX8_init 1 none ({ frames := 5, cells := 343, slots := 6805, locals := 150 } : Room) [.ref h0] (X ++ [(h0, .inr (8, [.null, .null, .null, .null, .null, .null]))]) none (fun ws1 => ∃ (l0 l1 : Nat → Nat) (qh qs : Nat) (a0 a1 a2 a3 a4 a5 : Nat → Nat) (qt qp qc qd qo : Nat), ws1 = tpW E X h0 l0 l1 qh qs a0 a1 a2 a3 a4 a5 qt qp qc qd qo) 343 6805 := by
  refine CtrA.of (own := RX8) pn_X8 rfl (Nat.le_of_ble_eq_true rfl) ?_
  intro p e s m args below meth c K hO hA hin
  refine v_lv (lv' := [(0, .ref h0)]) rfl ?_
  refine v_aload_n K 0 dX8_init_0 rfl rfl ?_
  refine v_objInit K mlX8_1 dX8_init_1 (Nat.le_of_ble_eq_true rfl) (Nat.le_of_ble_eq_true rfl) ?_
  refine v_ws (ws' := (X ++ [(h0, .inr (8, [.null, .null, .null, .null, .null, .null]))]) ++ []) (List.append_nil _).symm ?_
  refine v_aload_n K 0 dX8_init_4 rfl rfl ?_
  refine v_new K hA nw_X8_7 dX8_init_5 ⟨Nat.le_of_ble_eq_true rfl, Nat.le_of_ble_eq_true rfl⟩ (fun q0 => ?_)
  refine v_dup K dX8_init_8 rfl ?_
  refine v_callI (As := []) (rest := [.ref q0, .ref h0]) K hO hA mi_X8_9 dX8_init_9 c_X3_init rfl rfl rfl (Nat.le_of_ble_eq_true rfl) ⟨Nat.le_of_ble_eq_true rfl, Nat.le_of_ble_eq_true rfl⟩ ⟨Nat.le_of_ble_eq_true rfl, Nat.le_of_ble_eq_true rfl⟩ (fun ws1 hB => ?_)
  obtain ⟨l0, hl0, rfl⟩ := hB
  subst hl0
  refine v_ws (ws' := (X ++ [(h0, .inr (8, [.null, .null, .null, .null, .null, .null]))]) ++ ([] ++ lbW E l0 lbS)) (List.append_assoc _ _ _) ?_
  refine v_putF (q0 := X.length + 0) (ws1 := (X ++ [(h0, .inr (8, [.ref (l0 0), .null, .null, .null, .null, .null]))]) ++ ([] ++ lbW E l0 lbS)) K hin ff_X8_10 dX8_init_12 (at_L (at_X X _ 0)) (Nat.le_of_ble_eq_true rfl) rfl rfl ((set_L (at_X X _ 0)).trans (congrArg (fun w => w ++ ([] ++ lbW E l0 lbS)) (set_X X _ 0 _))) ?_
  refine v_aload_n K 0 dX8_init_15 rfl rfl ?_
  refine v_new K hA nw_X8_7 dX8_init_16 ⟨Nat.le_of_ble_eq_true rfl, Nat.le_of_ble_eq_true rfl⟩ (fun q1 => ?_)
  refine v_dup K dX8_init_19 rfl ?_
  refine v_callI (As := []) (rest := [.ref q1, .ref h0]) K hO hA mi_X8_9 dX8_init_20 c_X3_init rfl rfl rfl (Nat.le_of_ble_eq_true rfl) ⟨Nat.le_of_ble_eq_true rfl, Nat.le_of_ble_eq_true rfl⟩ ⟨Nat.le_of_ble_eq_true rfl, Nat.le_of_ble_eq_true rfl⟩ (fun ws1 hB => ?_)
  obtain ⟨l1, hl1, rfl⟩ := hB
  subst hl1
  refine v_ws (ws' := (X ++ [(h0, .inr (8, [.ref (l0 0), .null, .null, .null, .null, .null]))]) ++ (([] ++ lbW E l0 lbS) ++ lbW E l1 lbS)) (List.append_assoc _ _ _) ?_
  refine v_putF (q0 := X.length + 0) (ws1 := (X ++ [(h0, .inr (8, [.ref (l0 0), .ref (l1 0), .null, .null, .null, .null]))]) ++ (([] ++ lbW E l0 lbS) ++ lbW E l1 lbS)) K hin ff_X8_16 dX8_init_23 (at_L (at_X X _ 0)) (Nat.le_of_ble_eq_true rfl) rfl rfl ((set_L (at_X X _ 0)).trans (congrArg (fun w => w ++ (([] ++ lbW E l0 lbS) ++ lbW E l1 lbS)) (set_X X _ 0 _))) ?_
  refine v_aload_n K 0 dX8_init_26 rfl rfl ?_
  refine v_new K hA nw_X8_19 dX8_init_27 ⟨Nat.le_of_ble_eq_true rfl, Nat.le_of_ble_eq_true rfl⟩ (fun qh => ?_)
  refine v_dup K dX8_init_30 rfl ?_
  refine v_callI (As := []) (rest := [.ref qh, .ref h0]) K hO hA mi_X8_21 dX8_init_31 c_X2_init rfl rfl rfl (Nat.le_of_ble_eq_true rfl) ⟨Nat.le_of_ble_eq_true rfl, Nat.le_of_ble_eq_true rfl⟩ ⟨Nat.le_of_ble_eq_true rfl, Nat.le_of_ble_eq_true rfl⟩ (fun ws1 hB => ?_)
  obtain ⟨qs, a0, a1, a2, a3, a4, a5, rfl⟩ := hB
  refine v_ws (congrArg (fun w => w ++ hsZ E a0 a1 a2 a3 a4 a5) (List.append_assoc _ _ _)) ?_
  refine v_ws (ws' := (X ++ [(h0, .inr (8, [.ref (l0 0), .ref (l1 0), .null, .null, .null, .null]))]) ++ (((([] ++ lbW E l0 lbS) ++ lbW E l1 lbS) ++ hsW E qh qs a0 a1 a2 a3 a4 a5) ++ hsZ E a0 a1 a2 a3 a4 a5)) (List.append_assoc _ _ _) ?_
  refine v_putF (q0 := X.length + 0) (ws1 := (X ++ [(h0, .inr (8, [.ref (l0 0), .ref (l1 0), .ref qh, .null, .null, .null]))]) ++ (((([] ++ lbW E l0 lbS) ++ lbW E l1 lbS) ++ hsW E qh qs a0 a1 a2 a3 a4 a5) ++ hsZ E a0 a1 a2 a3 a4 a5)) K hin ff_X8_22 dX8_init_34 (at_L (at_X X _ 0)) (Nat.le_of_ble_eq_true rfl) rfl rfl ((set_L (at_X X _ 0)).trans (congrArg (fun w => w ++ (((([] ++ lbW E l0 lbS) ++ lbW E l1 lbS) ++ hsW E qh qs a0 a1 a2 a3 a4 a5) ++ hsZ E a0 a1 a2 a3 a4 a5)) (set_X X _ 0 _))) ?_
  refine v_aload_n K 0 dX8_init_37 rfl rfl ?_
  refine v_iconst K dX8_init_38 ki_2 ?_
  refine v_newq (n := 2) K hO hA clX8_7 dX8_init_39 (by decide) (by decide) (by decide) ⟨Nat.le_of_ble_eq_true rfl, Nat.le_of_ble_eq_true rfl⟩ (fun qt => ?_)
  refine v_ws (ws' := (X ++ [(h0, .inr (8, [.ref (l0 0), .ref (l1 0), .ref qh, .null, .null, .null]))]) ++ ((((([] ++ lbW E l0 lbS) ++ lbW E l1 lbS) ++ hsW E qh qs a0 a1 a2 a3 a4 a5) ++ hsZ E a0 a1 a2 a3 a4 a5) ++ [(qt, .inl (eL E, 2, .inr (.inr (.inr (.inr (fun _ => none))))))])) (List.append_assoc _ _ _) ?_
  refine v_putF (q0 := X.length + 0) (ws1 := (X ++ [(h0, .inr (8, [.ref (l0 0), .ref (l1 0), .ref qh, .ref qt, .null, .null]))]) ++ ((((([] ++ lbW E l0 lbS) ++ lbW E l1 lbS) ++ hsW E qh qs a0 a1 a2 a3 a4 a5) ++ hsZ E a0 a1 a2 a3 a4 a5) ++ [(qt, .inl (eL E, 2, .inr (.inr (.inr (.inr (fun _ => none))))))])) K hin ff_X8_26 dX8_init_42 (at_L (at_X X _ 0)) (Nat.le_of_ble_eq_true rfl) rfl rfl ((set_L (at_X X _ 0)).trans (congrArg (fun w => w ++ ((((([] ++ lbW E l0 lbS) ++ lbW E l1 lbS) ++ hsW E qh qs a0 a1 a2 a3 a4 a5) ++ hsZ E a0 a1 a2 a3 a4 a5) ++ [(qt, .inl (eL E, 2, .inr (.inr (.inr (.inr (fun _ => none))))))])) (set_X X _ 0 _))) ?_
  refine v_aload_n K 0 dX8_init_45 rfl rfl ?_
  refine v_new K hA nw_X8_30 dX8_init_46 ⟨Nat.le_of_ble_eq_true rfl, Nat.le_of_ble_eq_true rfl⟩ (fun qo => ?_)
  refine v_dup K dX8_init_49 rfl ?_
  refine v_callIN (As := []) (rest := [.ref qo, .ref h0]) K hO hA mi_X8_32 dX8_init_50 c_X4_init rfl rfl rfl (Nat.le_of_ble_eq_true rfl) ⟨Nat.le_of_ble_eq_true rfl, Nat.le_of_ble_eq_true rfl⟩ ⟨Nat.le_of_ble_eq_true rfl, Nat.le_of_ble_eq_true rfl⟩ (fun ws1 hB => ?_)
  obtain ⟨qp, qc, qd, rfl⟩ := hB
  refine v_ws (ws' := (X ++ [(h0, .inr (8, [.ref (l0 0), .ref (l1 0), .ref qh, .ref qt, .null, .null]))]) ++ (((((([] ++ lbW E l0 lbS) ++ lbW E l1 lbS) ++ hsW E qh qs a0 a1 a2 a3 a4 a5) ++ hsZ E a0 a1 a2 a3 a4 a5) ++ [(qt, .inl (eL E, 2, .inr (.inr (.inr (.inr (fun _ => none))))))]) ++ [(qo, .inr (4, [.ref qp, .int 0, .int 0, .int 0, .int 0, .int 0, .int 0])), (qp, .inr (5, [.ref qc, .int 0])), (qc, .inr (6, [.ref qd])), (qd, .inl (eI E, 80, .inl (fun _ => 0)))])) (List.append_assoc _ _ _) ?_
  refine v_putF (q0 := X.length + 0) (ws1 := (X ++ [(h0, .inr (8, [.ref (l0 0), .ref (l1 0), .ref qh, .ref qt, .ref qo, .null]))]) ++ (((((([] ++ lbW E l0 lbS) ++ lbW E l1 lbS) ++ hsW E qh qs a0 a1 a2 a3 a4 a5) ++ hsZ E a0 a1 a2 a3 a4 a5) ++ [(qt, .inl (eL E, 2, .inr (.inr (.inr (.inr (fun _ => none))))))]) ++ [(qo, .inr (4, [.ref qp, .int 0, .int 0, .int 0, .int 0, .int 0, .int 0])), (qp, .inr (5, [.ref qc, .int 0])), (qc, .inr (6, [.ref qd])), (qd, .inl (eI E, 80, .inl (fun _ => 0)))])) K hin ff_X8_33 dX8_init_53 (at_L (at_X X _ 0)) (Nat.le_of_ble_eq_true rfl) rfl rfl ((set_L (at_X X _ 0)).trans (congrArg (fun w => w ++ (((((([] ++ lbW E l0 lbS) ++ lbW E l1 lbS) ++ hsW E qh qs a0 a1 a2 a3 a4 a5) ++ hsZ E a0 a1 a2 a3 a4 a5) ++ [(qt, .inl (eL E, 2, .inr (.inr (.inr (.inr (fun _ => none))))))]) ++ [(qo, .inr (4, [.ref qp, .int 0, .int 0, .int 0, .int 0, .int 0, .int 0])), (qp, .inr (5, [.ref qc, .int 0])), (qc, .inr (6, [.ref qd])), (qd, .inl (eI E, 80, .inl (fun _ => 0)))])) (set_X X _ 0 _))) ?_
  refine v_aload_n K 0 dX8_init_56 rfl rfl ?_
  refine v_aload_n K 0 dX8_init_57 rfl rfl ?_
  refine v_getP (q0 := X.length + 0) K fk_X8_33 dX8_init_58 (at_L (at_X X _ 0)) rfl ?_
  refine v_getPN (fs := [.ref qp, .int 0, .int 0, .int 0, .int 0, .int 0, .int 0]) K fn_X8_37 dX8_init_61 (at_RR _ _ _ 0) rfl ?_
  refine v_putF (q0 := X.length + 0) (ws1 := (X ++ [(h0, .inr (8, [.ref (l0 0), .ref (l1 0), .ref qh, .ref qt, .ref qo, .ref qp]))]) ++ (((((([] ++ lbW E l0 lbS) ++ lbW E l1 lbS) ++ hsW E qh qs a0 a1 a2 a3 a4 a5) ++ hsZ E a0 a1 a2 a3 a4 a5) ++ [(qt, .inl (eL E, 2, .inr (.inr (.inr (.inr (fun _ => none))))))]) ++ [(qo, .inr (4, [.ref qp, .int 0, .int 0, .int 0, .int 0, .int 0, .int 0])), (qp, .inr (5, [.ref qc, .int 0])), (qc, .inr (6, [.ref qd])), (qd, .inl (eI E, 80, .inl (fun _ => 0)))])) K hin ff_X8_41 dX8_init_64 (at_L (at_X X _ 0)) (Nat.le_of_ble_eq_true rfl) rfl rfl ((set_L (at_X X _ 0)).trans (congrArg (fun w => w ++ (((((([] ++ lbW E l0 lbS) ++ lbW E l1 lbS) ++ hsW E qh qs a0 a1 a2 a3 a4 a5) ++ hsZ E a0 a1 a2 a3 a4 a5) ++ [(qt, .inl (eL E, 2, .inr (.inr (.inr (.inr (fun _ => none))))))]) ++ [(qo, .inr (4, [.ref qp, .int 0, .int 0, .int 0, .int 0, .int 0, .int 0])), (qp, .inr (5, [.ref qc, .int 0])), (qc, .inr (6, [.ref qd])), (qd, .inl (eI E, 80, .inl (fun _ => 0)))])) (set_X X _ 0 _))) ?_
  exact v_vretA K rfl dX8_init_67 rfl ⟨l0, l1, qh, qs, a0, a1, a2, a3, a4, a5, qt, qp, qc, qd, qo, rfl⟩ ⟨Nat.le_of_ble_eq_true rfl, Nat.le_of_ble_eq_true rfl⟩
