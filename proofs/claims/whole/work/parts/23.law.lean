variable {p : Program} {l : Launch} {e : Env} {R : Room} {s : State} {m : MethodId} {args : Array Value} {below : List Frame} {meth : Method} {c : Code} {Q : State → Prop} {D : va_G} {E : En} {A : Nat → Prop} {own : String} {cc : ByteArray} {nL : Nat} {ret : Option FieldType} {Ts : List Cond} {pc : Nat} {st : List Value} {lv lv' : List (Nat × Value)} {ws X : va_W} {cs : Nat × Nat}
theorem v_sld (K : Cx p s m args meth c D E A own cc nL ret Ts) {b L : Nat} {xs : Nat → Int32} {i : Int32} (hX : va_X b L xs s s.heap) (hbl : b < s.heap.size) (hbA : ¬ A b) (hdg : decode cc pc = .ok (.iaload, 1)) (hin : vp_in i L) (kk : VV p l e R s m args below meth c Q D A nL (cs) (pc + 1) (.int (xs i.toNatClampNeg) :: st) (lv) (ws)) : VV p l e R s m args below meth c Q D A nL (cs) (pc) (.int i :: .ref b :: st) (lv) (ws) := fun H locs ls hcs hP hD hS hl => va_sld K.1 K.2.1 hX hbl hbA hS hin hdg (kk H locs ls hcs hP hD hS hl)
theorem v_slen (K : Cx p s m args meth c D E A own cc nL ret Ts) {b L : Nat} {xs : Nat → Int32} (hX : va_X b L xs s s.heap) (hbl : b < s.heap.size) (hbA : ¬ A b) (hdg : decode cc pc = .ok (.arraylength, 1)) (kk : VV p l e R s m args below meth c Q D A nL (cs) (pc + 1) (.int (Int32.ofNat L) :: st) (lv) (ws)) : VV p l e R s m args below meth c Q D A nL (cs) (pc) (.ref b :: st) (lv) (ws) := fun H locs ls hcs hP hD hS hl => va_slen K.1 K.2.1 hX hbl hbA hS hdg (kk H locs ls hcs hP hD hS hl)
theorem v_widen {cs' : Nat × Nat} (h1 : cs.1 ≤ cs'.1 ∧ cs.2 ≤ cs'.2) (h2 : cs'.1 ≤ R.cells ∧ cs'.2 ≤ R.slots) (kk : VV p l e R s m args below meth c Q D A nL (cs') (pc) (st) (lv) (ws)) : VV p l e R s m args below meth c Q D A nL (cs) (pc) (st) (lv) (ws) := fun H locs ls hcs hP hD hS hl => W.widen h1.1 h1.2 (kk H locs ls h2 hP hD hS hl)
theorem v_callWA (K : Cx p s m args meth c D E A own cc nL ret Ts) {y : MethodName} {bytes : ByteArray} {maxL d lo mc ms : Nat} {rt : Option FieldType} {As rest st0 : List Value} {G : Gs} {B : va_W → Prop} {v : Value} {o k n index ci : Nat} {fs : List Value} {r : vw_C} (hO : va_AO RX3 s) (hA : ∀ q, s.heap.size ≤ q → A q)
    (M : MLk own index y bytes maxL rt n) (hdg : decode cc pc = .ok (.invokevirtual index, 3)) (hM : CtrA l D E A y bytes maxL rt ({ frames := d, cells := mc, slots := ms, locals := lo } : Room) (.ref (eA E o k) :: As) (wl E G) (some v) B mc ms) (hm : (o, k) ∈ eW E) (hc : cel E o k (G o k) = .inr (ci, fs)) (hci : vwCl[ci]? = some r) (hrc : r.1 = y.cls)
    (hst : st0 = As.reverse ++ .ref (eA E o k) :: rest) (hn : As.length = n) (hcat : (rest.map fun v => v.category).sum ≤ 8) (hRm : d + 1 ≤ R.frames ∧ 8 + (maxL + 11) + lo ≤ R.locals) (hR : cs.1 + mc ≤ R.cells ∧ cs.2 + ms ≤ R.slots)
    (kk : ∀ ws1, B ws1 → VV p l e R s m args below meth c Q D A nL (cs.1 + mc, cs.2 + ms) (pc + 3) (v :: rest) (lv) (ws1)) : VV p l e R s m args below meth c Q D A nL (cs) (pc) (st0) (lv) (wl E G) := by
  obtain ⟨q0, hq0⟩ := wl_at G hm
  rw [hc] at hq0
  subst hst
  obtain ⟨m1, m2, m3, m4, m5, m6, m7, m8⟩ := M
  refine v_runA (rv := some v) K (Value.ref (eA E o k) :: As).toArray hR (fun H locs ls hcs hP hD hS hl => ?_) kk
  exact va_runV (As := As) (rest := rest) (n := n) ⟨K.1, K.2.1, K.2.2.1, K.2.2.2.1, K.2.2.2.2.1⟩ hM
    ⟨callB_of n K.2.2.2.2.1 (K.goodCode m5) rfl rfl rfl (K.word m4) (K.word m1) ⟨m6, m7, m8⟩ hRm, K.word m2, K.word m3⟩
    ⟨CPA.blind, by rw [← hrc]; exact va_recv K.2.2.2.2.2.2.1.1 hP hci hq0, fun U hU hW => ⟨rfl, K.2.2.2.2.2.2.1.go hS hU hW, hO.moved hW.alike, fun q hq => hA q (Nat.le_trans hS.1 (by rw [← hU]; exact hq)), by rw [hU]; exact hP, hD⟩⟩ rfl hn hl.1 rfl (lv_room hcat) hdg hR
theorem Cx.env {E' : En} (K : Cx p s m args meth c D E A own cc nL ret Ts) (h : E'.1 = E.1) : Cx p s m args meth c D E' A own cc nL ret Ts := by
  have ht : eT E' = eT E := by
    show [(E'.1.1, _), (E'.1.2.1, _), (E'.1.2.2, _)] = _
    rw [h]
  obtain ⟨k1, k2, k3, k4, k5, k6, k7, k8, k9⟩ := K
  exact ⟨k1, k2, k3, k4, k5, k6, by rw [ht]; exact k7, k8, k9⟩
theorem nI4 (t : Nat) : nI (4 * t) + Int32.ofInt 4 = nI (4 * (t + 1)) := by
  show nI (4 * t) + nI 4 = _
  rw [nI_add]
  congr 1
theorem law_in {t L k : Nat} (h : 4 * t + 4 ≤ L) (hk : k < 4) (hL : L ≤ 2048) : vp_in (nI (4 * t) + nI k) L := by
  rw [nI_add]
  exact vp_in_nI (by omega) (by omega)
set_option maxRecDepth 20000 in
theorem law_loop {Rel : Gs → Prop} (hP2 : P2ok Rel) {b L : Nat} {xs : Nat → Int32} (hL : L ≤ 2048) (hX : va_X b L xs s s.heap) (hbl : b < s.heap.size) (hbA : ¬ A b) (hAs : ∀ q, A q → s.heap.size ≤ q) (hA : ∀ q, s.heap.size ≤ q → A q) (hO : va_AO RX3 s) (hr : meth.sig.returnType = Jvm.Pilot.@@N@@.ret) (cid : ClassId × ClassId × ClassId) :
    ∀ (n t : Nat) (E : En) (G : Gs), L + 4 < 4 * (t + n) → 4 * t ≤ L + 3 → E.1 = cid → EF E G → Rel G → Cx p s m #[Value.ref b] meth c D E A RL cL_law 4 Jvm.Pilot.@@N@@.ret lw_tbl → VV p l e room_1 s m #[Value.ref b] below meth c (lw_Z below #[Value.ref b] s) D A 4 (353 + 42 * t, 13543 + 838 * t) 18 [] [(0, .ref b), (1, .ref (eA E 0 0)), (2, .ref (eA E 1 0)), (3, .int (nI (4 * t)))] (wl E G) := by
  intro n
  induction n with
  | zero => intro t E G h1 h2; exact absurd h1 (by omega)
  | succ n ih =>
    intro t E G hn ht he hE hR K
    refine v_iload_n K 3 dL_law_18 rfl rfl ?_
    refine v_aload_n K 0 dL_law_19 rfl rfl ?_
    refine v_slen K hX hbl hbA dL_law_20 ?_
    refine v_iconst K dL_law_21 ki_4 ?_
    refine v_isub K dL_law_22 ?_
    have hsub : (Int32.ofNat L - 4).toInt = (L : Int) - 4 := pk_sub_toInt (a := L) (b := 4) (by omega) (by omega)
    have hti : (nI (4 * t)).toInt = ((4 * t : Nat) : Int) := nI_toInt (by omega)
    refine v_icmp_gt (tgt := 785) K dL_law_23 (by decide) (fun _ => ?_) (fun h => ?_)
    · refine v_iconst K dL_law_785 ki_1 ?_
      intro H locs ls hcs hP hD hS hl
      refine va_forget (fun q hq => hAs _ (hS.2.2 q hq)) ?_
      refine W.widen (k := 600000) (n := 7302250) hcs.1 hcs.2 ?_
      exact lw_ret K.1 K.2.1 hr K.2.2.2.2.2.2.2.2 dL_law_786
    · have h4 : 4 * t + 4 ≤ L := by
        have h5 : (nI (4 * t)).toInt ≤ (Int32.ofNat L - 4).toInt := by
          rw [Int32.lt_iff_toInt_lt] at h
          omega
        rw [hsub, hti] at h5
        omega
      have hi0 : vp_in (nI (4 * t)) L := vp_in_nI (by omega) (by omega)
      have hi1 : vp_in (nI (4 * t) + 1) L := law_in (k := 1) h4 (by omega) hL
      have hi2 : vp_in (nI (4 * t) + 2) L := law_in (k := 2) h4 (by omega) hL
      have hi3 : vp_in (nI (4 * t) + 3) L := law_in (k := 3) h4 (by omega) hL
      have hroom : (353 + 42 * t) + 42 ≤ room_1.cells ∧ (13543 + 838 * t) + 838 ≤ room_1.slots := ⟨by show _ ≤ 600000; omega, by show _ ≤ 7302250; omega⟩
      have ih : ∀ (t' : Nat) (E : En) (G : Gs), L + 4 < 4 * (t' + n) → 4 * t' ≤ L + 3 → E.1 = cid → EF E G → Rel G → VV p l e room_1 s m #[Value.ref b] below meth c (lw_Z below #[Value.ref b] s) D A 4 (353 + 42 * t', 13543 + 838 * t') 18 [] [(0, .ref b), (1, .ref (eA E 0 0)), (2, .ref (eA E 1 0)), (3, .int (nI (4 * t')))] (wl E G) := fun t' E' G' a1 a2 a3 a4 a5 => ih t' E' G' a1 a2 a3 a4 a5 (Cx.env K (a3.trans he.symm))
      obtain ⟨p_set, p_read, p_change, p_putBack, p_recall, p_ofNote, p_onShelf, p_ofReader, p_count, p_costOfReading, p_costOfChange, p_cheapest, p_loudest, p_accountWith, p_best, p_account, p_put, p_wipe, p_fault, p_carryOut, p_undo, p_save, p_restore⟩ := hP2 G hR
      refine v_aload_n K 0 dL_law_26 rfl rfl ?_
      refine v_iload_n K 3 dL_law_27 rfl rfl ?_
      refine v_sld K hX hbl hbA dL_law_28 hi0 ?_
      refine v_bipush K dL_law_29 kb_31 ?_
      refine v_iand K dL_law_31 ?_
      generalize xs (nI (4 * t)).toNatClampNeg &&& 31 = w
      by_cases hw0 : w = 0
      · have ht := tsi_22 hw0 (by decide)
        refine v_tableIn (off := 108) (tgt := 140) K dL_law_32 ht.1 ht.2 (by rw [hw0]; rfl) (by decide) ?_
        refine v_aload_n K 1 dL_law_140 rfl rfl ?_
        refine v_aload_n K 0 dL_law_141 rfl rfl ?_
        refine v_iload_n K 3 dL_law_142 rfl rfl ?_
        refine v_iconst K dL_law_143 ki_1 ?_
        refine v_iadd K dL_law_144 ?_
        refine v_sld K hX hbl hbA dL_law_145 hi1 ?_
        refine v_aload_n K 0 dL_law_146 rfl rfl ?_
        refine v_iload_n K 3 dL_law_147 rfl rfl ?_
        refine v_iconst K dL_law_148 ki_2 ?_
        refine v_iadd K dL_law_149 ?_
        refine v_sld K hX hbl hbA dL_law_150 hi2 ?_
        obtain ⟨r, G1, M, hx, hm, h1, h3, hR1⟩ := p_set (xs (nI (4 * t) + 1).toNatClampNeg) (xs (nI (4 * t) + 2).toNatClampNeg)
        refine v_callWi (As := [.int (xs (nI (4 * t) + 1).toNatClampNeg), .int (xs (nI (4 * t) + 2).toNatClampNeg)]) (rest := []) K mk_L_13 dL_law_151 (c_X8_set hE.1 hE.2.2.1 hx) (hE.1 0 (by decide)) rfl rfl rfl rfl rfl (Nat.le_of_ble_eq_true rfl) ⟨rfl, rfl⟩ ⟨Nat.le_of_ble_eq_true rfl, Nat.le_of_ble_eq_true rfl⟩ ?_
        have hE1 := hE.keep h3
        refine v_aload_n K 2 dL_law_154 rfl rfl ?_
        refine v_aload_n K 0 dL_law_155 rfl rfl ?_
        refine v_iload_n K 3 dL_law_156 rfl rfl ?_
        refine v_iconst K dL_law_157 ki_1 ?_
        refine v_iadd K dL_law_158 ?_
        refine v_sld K hX hbl hbA dL_law_159 hi1 ?_
        refine v_aload_n K 0 dL_law_160 rfl rfl ?_
        refine v_iload_n K 3 dL_law_161 rfl rfl ?_
        refine v_iconst K dL_law_162 ki_2 ?_
        refine v_iadd K dL_law_163 ?_
        refine v_sld K hX hbl hbA dL_law_164 hi2 ?_
        refine v_callWi (As := [.int (xs (nI (4 * t) + 1).toNatClampNeg), .int (xs (nI (4 * t) + 2).toNatClampNeg)]) (rest := [.int r]) K mk_L_17 dL_law_165 (Ctr.gid (o := 1) (c_X9_set hE1.2.1 (by rw [h1]; exact hm))) (hE1.2.1 0 (by decide)) rfl rfl rfl rfl rfl (Nat.le_of_ble_eq_true rfl) ⟨rfl, rfl⟩ ⟨Nat.le_of_ble_eq_true rfl, Nat.le_of_ble_eq_true rfl⟩ ?_
        refine v_icmp_eq (tgt := 779) K dL_law_168 (by decide) (fun _ => ?_) (fun h => absurd rfl h)
        refine v_iinc (v := nI (4 * (t + 1))) (lv' := [(3, .int (nI (4 * (t + 1)))), (0, .ref b), (1, .ref (eA E 0 0)), (2, .ref (eA E 1 0))]) K 3 dL_law_779 rfl (nI4 t) (by decide) rfl ?_
        refine v_goto (tgt := 18) K dL_law_782 (by decide) ?_
        refine v_lsub [1, 2, 3, 0] rfl ?_
        refine v_widen (cs' := (353 + 42 * (t + 1), 13543 + 838 * (t + 1))) ⟨show 353 + 42 * t ≤ 353 + 42 * (t + 1) by omega, show 13543 + 838 * t ≤ 13543 + 838 * (t + 1) by omega⟩ ⟨show 353 + 42 * (t + 1) ≤ 600000 by omega, show 13543 + 838 * (t + 1) ≤ 7302250 by omega⟩ ?_
        exact ih (t + 1) E (va_up G1 1 M) (by omega) (by omega) he (EF.keep hE1 (fun j => congrFun (congrFun (up_ne _ _ (by decide)) 3) j)) hR1
      by_cases hw1 : w = 1
      · have ht := tsi_22 hw1 (by decide)
        refine v_tableIn (off := 141) (tgt := 173) K dL_law_32 ht.1 ht.2 (by rw [hw1]; rfl) (by decide) ?_
        refine v_aload_n K 1 dL_law_173 rfl rfl ?_
        refine v_aload_n K 0 dL_law_174 rfl rfl ?_
        refine v_iload_n K 3 dL_law_175 rfl rfl ?_
        refine v_iconst K dL_law_176 ki_1 ?_
        refine v_iadd K dL_law_177 ?_
        refine v_sld K hX hbl hbA dL_law_178 hi1 ?_
        refine v_aload_n K 0 dL_law_179 rfl rfl ?_
        refine v_iload_n K 3 dL_law_180 rfl rfl ?_
        refine v_iconst K dL_law_181 ki_2 ?_
        refine v_iadd K dL_law_182 ?_
        refine v_sld K hX hbl hbA dL_law_183 hi2 ?_
        obtain ⟨r, G1, M, hx, hm, h1, h3, hR1⟩ := p_read (xs (nI (4 * t) + 1).toNatClampNeg) (xs (nI (4 * t) + 2).toNatClampNeg)
        refine v_callWi (As := [.int (xs (nI (4 * t) + 1).toNatClampNeg), .int (xs (nI (4 * t) + 2).toNatClampNeg)]) (rest := []) K mk_L_18 dL_law_184 (c_X8_read hE.1 hE.2.2.1 hx) (hE.1 0 (by decide)) rfl rfl rfl rfl rfl (Nat.le_of_ble_eq_true rfl) ⟨rfl, rfl⟩ ⟨Nat.le_of_ble_eq_true rfl, Nat.le_of_ble_eq_true rfl⟩ ?_
        have hE1 := hE.keep h3
        refine v_aload_n K 2 dL_law_187 rfl rfl ?_
        refine v_aload_n K 0 dL_law_188 rfl rfl ?_
        refine v_iload_n K 3 dL_law_189 rfl rfl ?_
        refine v_iconst K dL_law_190 ki_1 ?_
        refine v_iadd K dL_law_191 ?_
        refine v_sld K hX hbl hbA dL_law_192 hi1 ?_
        refine v_aload_n K 0 dL_law_193 rfl rfl ?_
        refine v_iload_n K 3 dL_law_194 rfl rfl ?_
        refine v_iconst K dL_law_195 ki_2 ?_
        refine v_iadd K dL_law_196 ?_
        refine v_sld K hX hbl hbA dL_law_197 hi2 ?_
        refine v_callWi (As := [.int (xs (nI (4 * t) + 1).toNatClampNeg), .int (xs (nI (4 * t) + 2).toNatClampNeg)]) (rest := [.int r]) K mk_L_21 dL_law_198 (Ctr.gid (o := 1) (c_X9_read hE1.2.1 (by rw [h1]; exact hm))) (hE1.2.1 0 (by decide)) rfl rfl rfl rfl rfl (Nat.le_of_ble_eq_true rfl) ⟨rfl, rfl⟩ ⟨Nat.le_of_ble_eq_true rfl, Nat.le_of_ble_eq_true rfl⟩ ?_
        refine v_icmp_eq (tgt := 779) K dL_law_201 (by decide) (fun _ => ?_) (fun h => absurd rfl h)
        refine v_iinc (v := nI (4 * (t + 1))) (lv' := [(3, .int (nI (4 * (t + 1)))), (0, .ref b), (1, .ref (eA E 0 0)), (2, .ref (eA E 1 0))]) K 3 dL_law_779 rfl (nI4 t) (by decide) rfl ?_
        refine v_goto (tgt := 18) K dL_law_782 (by decide) ?_
        refine v_lsub [1, 2, 3, 0] rfl ?_
        refine v_widen (cs' := (353 + 42 * (t + 1), 13543 + 838 * (t + 1))) ⟨show 353 + 42 * t ≤ 353 + 42 * (t + 1) by omega, show 13543 + 838 * t ≤ 13543 + 838 * (t + 1) by omega⟩ ⟨show 353 + 42 * (t + 1) ≤ 600000 by omega, show 13543 + 838 * (t + 1) ≤ 7302250 by omega⟩ ?_
        exact ih (t + 1) E (va_up G1 1 M) (by omega) (by omega) he (EF.keep hE1 (fun j => congrFun (congrFun (up_ne _ _ (by decide)) 3) j)) hR1
      by_cases hw2 : w = 2
      · have ht := tsi_22 hw2 (by decide)
        refine v_tableIn (off := 174) (tgt := 206) K dL_law_32 ht.1 ht.2 (by rw [hw2]; rfl) (by decide) ?_
        refine v_aload_n K 1 dL_law_206 rfl rfl ?_
        refine v_aload_n K 0 dL_law_207 rfl rfl ?_
        refine v_iload_n K 3 dL_law_208 rfl rfl ?_
        refine v_iconst K dL_law_209 ki_1 ?_
        refine v_iadd K dL_law_210 ?_
        refine v_sld K hX hbl hbA dL_law_211 hi1 ?_
        refine v_aload_n K 0 dL_law_212 rfl rfl ?_
        refine v_iload_n K 3 dL_law_213 rfl rfl ?_
        refine v_iconst K dL_law_214 ki_2 ?_
        refine v_iadd K dL_law_215 ?_
        refine v_sld K hX hbl hbA dL_law_216 hi2 ?_
        refine v_aload_n K 0 dL_law_217 rfl rfl ?_
        refine v_iload_n K 3 dL_law_218 rfl rfl ?_
        refine v_iconst K dL_law_219 ki_3 ?_
        refine v_iadd K dL_law_220 ?_
        refine v_sld K hX hbl hbA dL_law_221 hi3 ?_
        obtain ⟨r, G1, M, hx, hm, h1, h3, hR1⟩ := p_change (xs (nI (4 * t) + 1).toNatClampNeg) (xs (nI (4 * t) + 2).toNatClampNeg) (xs (nI (4 * t) + 3).toNatClampNeg)
        refine v_callWi (As := [.int (xs (nI (4 * t) + 1).toNatClampNeg), .int (xs (nI (4 * t) + 2).toNatClampNeg), .int (xs (nI (4 * t) + 3).toNatClampNeg)]) (rest := []) K mk_L_22 dL_law_222 (c_X8_change hE.1 hE.2.2.1 hx) (hE.1 0 (by decide)) rfl rfl rfl rfl rfl (Nat.le_of_ble_eq_true rfl) ⟨rfl, rfl⟩ ⟨Nat.le_of_ble_eq_true rfl, Nat.le_of_ble_eq_true rfl⟩ ?_
        have hE1 := hE.keep h3
        refine v_aload_n K 2 dL_law_225 rfl rfl ?_
        refine v_aload_n K 0 dL_law_226 rfl rfl ?_
        refine v_iload_n K 3 dL_law_227 rfl rfl ?_
        refine v_iconst K dL_law_228 ki_1 ?_
        refine v_iadd K dL_law_229 ?_
        refine v_sld K hX hbl hbA dL_law_230 hi1 ?_
        refine v_aload_n K 0 dL_law_231 rfl rfl ?_
        refine v_iload_n K 3 dL_law_232 rfl rfl ?_
        refine v_iconst K dL_law_233 ki_2 ?_
        refine v_iadd K dL_law_234 ?_
        refine v_sld K hX hbl hbA dL_law_235 hi2 ?_
        refine v_aload_n K 0 dL_law_236 rfl rfl ?_
        refine v_iload_n K 3 dL_law_237 rfl rfl ?_
        refine v_iconst K dL_law_238 ki_3 ?_
        refine v_iadd K dL_law_239 ?_
        refine v_sld K hX hbl hbA dL_law_240 hi3 ?_
        refine v_callWi (As := [.int (xs (nI (4 * t) + 1).toNatClampNeg), .int (xs (nI (4 * t) + 2).toNatClampNeg), .int (xs (nI (4 * t) + 3).toNatClampNeg)]) (rest := [.int r]) K mk_L_26 dL_law_241 (Ctr.gid (o := 1) (c_X9_change hE1.2.1 (by rw [h1]; exact hm))) (hE1.2.1 0 (by decide)) rfl rfl rfl rfl rfl (Nat.le_of_ble_eq_true rfl) ⟨rfl, rfl⟩ ⟨Nat.le_of_ble_eq_true rfl, Nat.le_of_ble_eq_true rfl⟩ ?_
        refine v_icmp_eq (tgt := 779) K dL_law_244 (by decide) (fun _ => ?_) (fun h => absurd rfl h)
        refine v_iinc (v := nI (4 * (t + 1))) (lv' := [(3, .int (nI (4 * (t + 1)))), (0, .ref b), (1, .ref (eA E 0 0)), (2, .ref (eA E 1 0))]) K 3 dL_law_779 rfl (nI4 t) (by decide) rfl ?_
        refine v_goto (tgt := 18) K dL_law_782 (by decide) ?_
        refine v_lsub [1, 2, 3, 0] rfl ?_
        refine v_widen (cs' := (353 + 42 * (t + 1), 13543 + 838 * (t + 1))) ⟨show 353 + 42 * t ≤ 353 + 42 * (t + 1) by omega, show 13543 + 838 * t ≤ 13543 + 838 * (t + 1) by omega⟩ ⟨show 353 + 42 * (t + 1) ≤ 600000 by omega, show 13543 + 838 * (t + 1) ≤ 7302250 by omega⟩ ?_
        exact ih (t + 1) E (va_up G1 1 M) (by omega) (by omega) he (EF.keep hE1 (fun j => congrFun (congrFun (up_ne _ _ (by decide)) 3) j)) hR1
      by_cases hw3 : w = 3
      · have ht := tsi_22 hw3 (by decide)
        refine v_tableIn (off := 217) (tgt := 249) K dL_law_32 ht.1 ht.2 (by rw [hw3]; rfl) (by decide) ?_
        refine v_aload_n K 1 dL_law_249 rfl rfl ?_
        refine v_aload_n K 0 dL_law_250 rfl rfl ?_
        refine v_iload_n K 3 dL_law_251 rfl rfl ?_
        refine v_iconst K dL_law_252 ki_1 ?_
        refine v_iadd K dL_law_253 ?_
        refine v_sld K hX hbl hbA dL_law_254 hi1 ?_
        refine v_aload_n K 0 dL_law_255 rfl rfl ?_
        refine v_iload_n K 3 dL_law_256 rfl rfl ?_
        refine v_iconst K dL_law_257 ki_2 ?_
        refine v_iadd K dL_law_258 ?_
        refine v_sld K hX hbl hbA dL_law_259 hi2 ?_
        obtain ⟨r, G1, M, hx, hm, h1, h3, hR1⟩ := p_putBack (xs (nI (4 * t) + 1).toNatClampNeg) (xs (nI (4 * t) + 2).toNatClampNeg)
        refine v_callWi (As := [.int (xs (nI (4 * t) + 1).toNatClampNeg), .int (xs (nI (4 * t) + 2).toNatClampNeg)]) (rest := []) K mk_L_27 dL_law_260 (c_X8_putBack hE.1 hE.2.2.1 hx) (hE.1 0 (by decide)) rfl rfl rfl rfl rfl (Nat.le_of_ble_eq_true rfl) ⟨rfl, rfl⟩ ⟨Nat.le_of_ble_eq_true rfl, Nat.le_of_ble_eq_true rfl⟩ ?_
        have hE1 := hE.keep h3
        refine v_aload_n K 2 dL_law_263 rfl rfl ?_
        refine v_aload_n K 0 dL_law_264 rfl rfl ?_
        refine v_iload_n K 3 dL_law_265 rfl rfl ?_
        refine v_iconst K dL_law_266 ki_1 ?_
        refine v_iadd K dL_law_267 ?_
        refine v_sld K hX hbl hbA dL_law_268 hi1 ?_
        refine v_aload_n K 0 dL_law_269 rfl rfl ?_
        refine v_iload_n K 3 dL_law_270 rfl rfl ?_
        refine v_iconst K dL_law_271 ki_2 ?_
        refine v_iadd K dL_law_272 ?_
        refine v_sld K hX hbl hbA dL_law_273 hi2 ?_
        refine v_callWi (As := [.int (xs (nI (4 * t) + 1).toNatClampNeg), .int (xs (nI (4 * t) + 2).toNatClampNeg)]) (rest := [.int r]) K mk_L_30 dL_law_274 (Ctr.gid (o := 1) (c_X9_putBack hE1.2.1 (by rw [h1]; exact hm))) (hE1.2.1 0 (by decide)) rfl rfl rfl rfl rfl (Nat.le_of_ble_eq_true rfl) ⟨rfl, rfl⟩ ⟨Nat.le_of_ble_eq_true rfl, Nat.le_of_ble_eq_true rfl⟩ ?_
        refine v_icmp_eq (tgt := 779) K dL_law_277 (by decide) (fun _ => ?_) (fun h => absurd rfl h)
        refine v_iinc (v := nI (4 * (t + 1))) (lv' := [(3, .int (nI (4 * (t + 1)))), (0, .ref b), (1, .ref (eA E 0 0)), (2, .ref (eA E 1 0))]) K 3 dL_law_779 rfl (nI4 t) (by decide) rfl ?_
        refine v_goto (tgt := 18) K dL_law_782 (by decide) ?_
        refine v_lsub [1, 2, 3, 0] rfl ?_
        refine v_widen (cs' := (353 + 42 * (t + 1), 13543 + 838 * (t + 1))) ⟨show 353 + 42 * t ≤ 353 + 42 * (t + 1) by omega, show 13543 + 838 * t ≤ 13543 + 838 * (t + 1) by omega⟩ ⟨show 353 + 42 * (t + 1) ≤ 600000 by omega, show 13543 + 838 * (t + 1) ≤ 7302250 by omega⟩ ?_
        exact ih (t + 1) E (va_up G1 1 M) (by omega) (by omega) he (EF.keep hE1 (fun j => congrFun (congrFun (up_ne _ _ (by decide)) 3) j)) hR1
      by_cases hw4 : w = 4
      · have ht := tsi_22 hw4 (by decide)
        refine v_tableIn (off := 250) (tgt := 282) K dL_law_32 ht.1 ht.2 (by rw [hw4]; rfl) (by decide) ?_
        refine v_aload_n K 1 dL_law_282 rfl rfl ?_
        refine v_aload_n K 0 dL_law_283 rfl rfl ?_
        refine v_iload_n K 3 dL_law_284 rfl rfl ?_
        refine v_iconst K dL_law_285 ki_1 ?_
        refine v_iadd K dL_law_286 ?_
        refine v_sld K hX hbl hbA dL_law_287 hi1 ?_
        obtain ⟨r, G1, M, hx, hm, h1, h3, hR1⟩ := p_recall (xs (nI (4 * t) + 1).toNatClampNeg)
        refine v_callWi (As := [.int (xs (nI (4 * t) + 1).toNatClampNeg)]) (rest := []) K mk_L_31 dL_law_288 (c_X8_recall hE.1 hE.2.2.1 hx) (hE.1 0 (by decide)) rfl rfl rfl rfl rfl (Nat.le_of_ble_eq_true rfl) ⟨rfl, rfl⟩ ⟨Nat.le_of_ble_eq_true rfl, Nat.le_of_ble_eq_true rfl⟩ ?_
        have hE1 := hE.keep h3
        refine v_aload_n K 2 dL_law_291 rfl rfl ?_
        refine v_aload_n K 0 dL_law_292 rfl rfl ?_
        refine v_iload_n K 3 dL_law_293 rfl rfl ?_
        refine v_iconst K dL_law_294 ki_1 ?_
        refine v_iadd K dL_law_295 ?_
        refine v_sld K hX hbl hbA dL_law_296 hi1 ?_
        refine v_callWi (As := [.int (xs (nI (4 * t) + 1).toNatClampNeg)]) (rest := [.int r]) K mk_L_35 dL_law_297 (Ctr.gid (o := 1) (c_X9_recall hE1.2.1 (by rw [h1]; exact hm))) (hE1.2.1 0 (by decide)) rfl rfl rfl rfl rfl (Nat.le_of_ble_eq_true rfl) ⟨rfl, rfl⟩ ⟨Nat.le_of_ble_eq_true rfl, Nat.le_of_ble_eq_true rfl⟩ ?_
        refine v_icmp_eq (tgt := 779) K dL_law_300 (by decide) (fun _ => ?_) (fun h => absurd rfl h)
        refine v_iinc (v := nI (4 * (t + 1))) (lv' := [(3, .int (nI (4 * (t + 1)))), (0, .ref b), (1, .ref (eA E 0 0)), (2, .ref (eA E 1 0))]) K 3 dL_law_779 rfl (nI4 t) (by decide) rfl ?_
        refine v_goto (tgt := 18) K dL_law_782 (by decide) ?_
        refine v_lsub [1, 2, 3, 0] rfl ?_
        refine v_widen (cs' := (353 + 42 * (t + 1), 13543 + 838 * (t + 1))) ⟨show 353 + 42 * t ≤ 353 + 42 * (t + 1) by omega, show 13543 + 838 * t ≤ 13543 + 838 * (t + 1) by omega⟩ ⟨show 353 + 42 * (t + 1) ≤ 600000 by omega, show 13543 + 838 * (t + 1) ≤ 7302250 by omega⟩ ?_
        exact ih (t + 1) E (va_up G1 1 M) (by omega) (by omega) he (EF.keep hE1 (fun j => congrFun (congrFun (up_ne _ _ (by decide)) 3) j)) hR1
      by_cases hw5 : w = 5
      · have ht := tsi_22 hw5 (by decide)
        refine v_tableIn (off := 273) (tgt := 305) K dL_law_32 ht.1 ht.2 (by rw [hw5]; rfl) (by decide) ?_
        refine v_aload_n K 1 dL_law_305 rfl rfl ?_
        refine v_aload_n K 0 dL_law_306 rfl rfl ?_
        refine v_iload_n K 3 dL_law_307 rfl rfl ?_
        refine v_iconst K dL_law_308 ki_1 ?_
        refine v_iadd K dL_law_309 ?_
        refine v_sld K hX hbl hbA dL_law_310 hi1 ?_
        refine v_aload_n K 0 dL_law_311 rfl rfl ?_
        refine v_iload_n K 3 dL_law_312 rfl rfl ?_
        refine v_iconst K dL_law_313 ki_2 ?_
        refine v_iadd K dL_law_314 ?_
        refine v_sld K hX hbl hbA dL_law_315 hi2 ?_
        obtain ⟨r, hx, hm⟩ := p_ofNote (xs (nI (4 * t) + 1).toNatClampNeg) (xs (nI (4 * t) + 2).toNatClampNeg)
        refine v_callWi (As := [.int (xs (nI (4 * t) + 1).toNatClampNeg), .int (xs (nI (4 * t) + 2).toNatClampNeg)]) (rest := []) K mk_L_36 dL_law_316 (c_X8_ofNote hE.1 hE.2.2.1 hx) (hE.1 0 (by decide)) rfl rfl rfl rfl rfl (Nat.le_of_ble_eq_true rfl) ⟨rfl, rfl⟩ ⟨Nat.le_of_ble_eq_true rfl, Nat.le_of_ble_eq_true rfl⟩ ?_
        refine v_aload_n K 2 dL_law_319 rfl rfl ?_
        refine v_aload_n K 0 dL_law_320 rfl rfl ?_
        refine v_iload_n K 3 dL_law_321 rfl rfl ?_
        refine v_iconst K dL_law_322 ki_1 ?_
        refine v_iadd K dL_law_323 ?_
        refine v_sld K hX hbl hbA dL_law_324 hi1 ?_
        refine v_aload_n K 0 dL_law_325 rfl rfl ?_
        refine v_iload_n K 3 dL_law_326 rfl rfl ?_
        refine v_iconst K dL_law_327 ki_2 ?_
        refine v_iadd K dL_law_328 ?_
        refine v_sld K hX hbl hbA dL_law_329 hi2 ?_
        refine v_callWi (As := [.int (xs (nI (4 * t) + 1).toNatClampNeg), .int (xs (nI (4 * t) + 2).toNatClampNeg)]) (rest := [.int r]) K mk_L_39 dL_law_330 (Ctr.gidr (o := 1) (c_X9_ofNote hE.2.1 hm)) (hE.2.1 0 (by decide)) rfl rfl rfl rfl rfl (Nat.le_of_ble_eq_true rfl) ⟨rfl, rfl⟩ ⟨Nat.le_of_ble_eq_true rfl, Nat.le_of_ble_eq_true rfl⟩ ?_
        refine v_icmp_eq (tgt := 779) K dL_law_333 (by decide) (fun _ => ?_) (fun h => absurd rfl h)
        refine v_iinc (v := nI (4 * (t + 1))) (lv' := [(3, .int (nI (4 * (t + 1)))), (0, .ref b), (1, .ref (eA E 0 0)), (2, .ref (eA E 1 0))]) K 3 dL_law_779 rfl (nI4 t) (by decide) rfl ?_
        refine v_goto (tgt := 18) K dL_law_782 (by decide) ?_
        refine v_lsub [1, 2, 3, 0] rfl ?_
        refine v_widen (cs' := (353 + 42 * (t + 1), 13543 + 838 * (t + 1))) ⟨show 353 + 42 * t ≤ 353 + 42 * (t + 1) by omega, show 13543 + 838 * t ≤ 13543 + 838 * (t + 1) by omega⟩ ⟨show 353 + 42 * (t + 1) ≤ 600000 by omega, show 13543 + 838 * (t + 1) ≤ 7302250 by omega⟩ ?_
        exact ih (t + 1) E G (by omega) (by omega) he hE hR
      by_cases hw6 : w = 6
      · have ht := tsi_22 hw6 (by decide)
        refine v_tableIn (off := 306) (tgt := 338) K dL_law_32 ht.1 ht.2 (by rw [hw6]; rfl) (by decide) ?_
        refine v_aload_n K 1 dL_law_338 rfl rfl ?_
        refine v_aload_n K 0 dL_law_339 rfl rfl ?_
        refine v_iload_n K 3 dL_law_340 rfl rfl ?_
        refine v_iconst K dL_law_341 ki_1 ?_
        refine v_iadd K dL_law_342 ?_
        refine v_sld K hX hbl hbA dL_law_343 hi1 ?_
        refine v_aload_n K 0 dL_law_344 rfl rfl ?_
        refine v_iload_n K 3 dL_law_345 rfl rfl ?_
        refine v_iconst K dL_law_346 ki_2 ?_
        refine v_iadd K dL_law_347 ?_
        refine v_sld K hX hbl hbA dL_law_348 hi2 ?_
        refine v_aload_n K 0 dL_law_349 rfl rfl ?_
        refine v_iload_n K 3 dL_law_350 rfl rfl ?_
        refine v_iconst K dL_law_351 ki_3 ?_
        refine v_iadd K dL_law_352 ?_
        refine v_sld K hX hbl hbA dL_law_353 hi3 ?_
        obtain ⟨r, hx⟩ : ∃ r, f_X8_onShelf G (xs (nI (4 * t) + 1).toNatClampNeg) (xs (nI (4 * t) + 2).toNatClampNeg) (xs (nI (4 * t) + 3).toNatClampNeg) = r := ⟨_, rfl⟩
        have hm := p_onShelf (xs (nI (4 * t) + 1).toNatClampNeg) (xs (nI (4 * t) + 2).toNatClampNeg) (xs (nI (4 * t) + 3).toNatClampNeg)
        rw [hx] at hm
        refine v_callWi (As := [.int (xs (nI (4 * t) + 1).toNatClampNeg), .int (xs (nI (4 * t) + 2).toNatClampNeg), .int (xs (nI (4 * t) + 3).toNatClampNeg)]) (rest := []) K mk_L_40 dL_law_354 (c_X8_onShelf hE.1 hE.2.2.1 hx) (hE.1 0 (by decide)) rfl rfl rfl rfl rfl (Nat.le_of_ble_eq_true rfl) ⟨rfl, rfl⟩ ⟨Nat.le_of_ble_eq_true rfl, Nat.le_of_ble_eq_true rfl⟩ ?_
        refine v_aload_n K 2 dL_law_357 rfl rfl ?_
        refine v_aload_n K 0 dL_law_358 rfl rfl ?_
        refine v_iload_n K 3 dL_law_359 rfl rfl ?_
        refine v_iconst K dL_law_360 ki_1 ?_
        refine v_iadd K dL_law_361 ?_
        refine v_sld K hX hbl hbA dL_law_362 hi1 ?_
        refine v_aload_n K 0 dL_law_363 rfl rfl ?_
        refine v_iload_n K 3 dL_law_364 rfl rfl ?_
        refine v_iconst K dL_law_365 ki_2 ?_
        refine v_iadd K dL_law_366 ?_
        refine v_sld K hX hbl hbA dL_law_367 hi2 ?_
        refine v_aload_n K 0 dL_law_368 rfl rfl ?_
        refine v_iload_n K 3 dL_law_369 rfl rfl ?_
        refine v_iconst K dL_law_370 ki_3 ?_
        refine v_iadd K dL_law_371 ?_
        refine v_sld K hX hbl hbA dL_law_372 hi3 ?_
        refine v_callWi (As := [.int (xs (nI (4 * t) + 1).toNatClampNeg), .int (xs (nI (4 * t) + 2).toNatClampNeg), .int (xs (nI (4 * t) + 3).toNatClampNeg)]) (rest := [.int r]) K mk_L_43 dL_law_373 (Ctr.gidr (o := 1) (c_X9_onShelf hE.2.1 hm)) (hE.2.1 0 (by decide)) rfl rfl rfl rfl rfl (Nat.le_of_ble_eq_true rfl) ⟨rfl, rfl⟩ ⟨Nat.le_of_ble_eq_true rfl, Nat.le_of_ble_eq_true rfl⟩ ?_
        refine v_icmp_eq (tgt := 779) K dL_law_376 (by decide) (fun _ => ?_) (fun h => absurd rfl h)
        refine v_iinc (v := nI (4 * (t + 1))) (lv' := [(3, .int (nI (4 * (t + 1)))), (0, .ref b), (1, .ref (eA E 0 0)), (2, .ref (eA E 1 0))]) K 3 dL_law_779 rfl (nI4 t) (by decide) rfl ?_
        refine v_goto (tgt := 18) K dL_law_782 (by decide) ?_
        refine v_lsub [1, 2, 3, 0] rfl ?_
        refine v_widen (cs' := (353 + 42 * (t + 1), 13543 + 838 * (t + 1))) ⟨show 353 + 42 * t ≤ 353 + 42 * (t + 1) by omega, show 13543 + 838 * t ≤ 13543 + 838 * (t + 1) by omega⟩ ⟨show 353 + 42 * (t + 1) ≤ 600000 by omega, show 13543 + 838 * (t + 1) ≤ 7302250 by omega⟩ ?_
        exact ih (t + 1) E G (by omega) (by omega) he hE hR
      by_cases hw7 : w = 7
      · have ht := tsi_22 hw7 (by decide)
        refine v_tableIn (off := 349) (tgt := 381) K dL_law_32 ht.1 ht.2 (by rw [hw7]; rfl) (by decide) ?_
        refine v_aload_n K 1 dL_law_381 rfl rfl ?_
        refine v_aload_n K 0 dL_law_382 rfl rfl ?_
        refine v_iload_n K 3 dL_law_383 rfl rfl ?_
        refine v_iconst K dL_law_384 ki_1 ?_
        refine v_iadd K dL_law_385 ?_
        refine v_sld K hX hbl hbA dL_law_386 hi1 ?_
        refine v_aload_n K 0 dL_law_387 rfl rfl ?_
        refine v_iload_n K 3 dL_law_388 rfl rfl ?_
        refine v_iconst K dL_law_389 ki_2 ?_
        refine v_iadd K dL_law_390 ?_
        refine v_sld K hX hbl hbA dL_law_391 hi2 ?_
        obtain ⟨r, hx, hm⟩ := p_ofReader (xs (nI (4 * t) + 1).toNatClampNeg) (xs (nI (4 * t) + 2).toNatClampNeg)
        refine v_callWi (As := [.int (xs (nI (4 * t) + 1).toNatClampNeg), .int (xs (nI (4 * t) + 2).toNatClampNeg)]) (rest := []) K mk_L_44 dL_law_392 (c_X8_ofReader hE.1 hE.2.2.1 hx) (hE.1 0 (by decide)) rfl rfl rfl rfl rfl (Nat.le_of_ble_eq_true rfl) ⟨rfl, rfl⟩ ⟨Nat.le_of_ble_eq_true rfl, Nat.le_of_ble_eq_true rfl⟩ ?_
        refine v_aload_n K 2 dL_law_395 rfl rfl ?_
        refine v_aload_n K 0 dL_law_396 rfl rfl ?_
        refine v_iload_n K 3 dL_law_397 rfl rfl ?_
        refine v_iconst K dL_law_398 ki_1 ?_
        refine v_iadd K dL_law_399 ?_
        refine v_sld K hX hbl hbA dL_law_400 hi1 ?_
        refine v_aload_n K 0 dL_law_401 rfl rfl ?_
        refine v_iload_n K 3 dL_law_402 rfl rfl ?_
        refine v_iconst K dL_law_403 ki_2 ?_
        refine v_iadd K dL_law_404 ?_
        refine v_sld K hX hbl hbA dL_law_405 hi2 ?_
        refine v_callWi (As := [.int (xs (nI (4 * t) + 1).toNatClampNeg), .int (xs (nI (4 * t) + 2).toNatClampNeg)]) (rest := [.int r]) K mk_L_47 dL_law_406 (Ctr.gidr (o := 1) (c_X9_ofReader hE.2.1 hm)) (hE.2.1 0 (by decide)) rfl rfl rfl rfl rfl (Nat.le_of_ble_eq_true rfl) ⟨rfl, rfl⟩ ⟨Nat.le_of_ble_eq_true rfl, Nat.le_of_ble_eq_true rfl⟩ ?_
        refine v_icmp_eq (tgt := 779) K dL_law_409 (by decide) (fun _ => ?_) (fun h => absurd rfl h)
        refine v_iinc (v := nI (4 * (t + 1))) (lv' := [(3, .int (nI (4 * (t + 1)))), (0, .ref b), (1, .ref (eA E 0 0)), (2, .ref (eA E 1 0))]) K 3 dL_law_779 rfl (nI4 t) (by decide) rfl ?_
        refine v_goto (tgt := 18) K dL_law_782 (by decide) ?_
        refine v_lsub [1, 2, 3, 0] rfl ?_
        refine v_widen (cs' := (353 + 42 * (t + 1), 13543 + 838 * (t + 1))) ⟨show 353 + 42 * t ≤ 353 + 42 * (t + 1) by omega, show 13543 + 838 * t ≤ 13543 + 838 * (t + 1) by omega⟩ ⟨show 353 + 42 * (t + 1) ≤ 600000 by omega, show 13543 + 838 * (t + 1) ≤ 7302250 by omega⟩ ?_
        exact ih (t + 1) E G (by omega) (by omega) he hE hR
      by_cases hw8 : w = 8
      · have ht := tsi_22 hw8 (by decide)
        refine v_tableIn (off := 382) (tgt := 414) K dL_law_32 ht.1 ht.2 (by rw [hw8]; rfl) (by decide) ?_
        refine v_aload_n K 1 dL_law_414 rfl rfl ?_
        refine v_aload_n K 0 dL_law_415 rfl rfl ?_
        refine v_iload_n K 3 dL_law_416 rfl rfl ?_
        refine v_iconst K dL_law_417 ki_1 ?_
        refine v_iadd K dL_law_418 ?_
        refine v_sld K hX hbl hbA dL_law_419 hi1 ?_
        obtain ⟨r, hx, hm⟩ := p_count (xs (nI (4 * t) + 1).toNatClampNeg)
        refine v_callWi (As := [.int (xs (nI (4 * t) + 1).toNatClampNeg)]) (rest := []) K mk_L_48 dL_law_420 (c_X8_count hE.1 hE.2.2.1 hx) (hE.1 0 (by decide)) rfl rfl rfl rfl rfl (Nat.le_of_ble_eq_true rfl) ⟨rfl, rfl⟩ ⟨Nat.le_of_ble_eq_true rfl, Nat.le_of_ble_eq_true rfl⟩ ?_
        refine v_aload_n K 2 dL_law_423 rfl rfl ?_
        refine v_aload_n K 0 dL_law_424 rfl rfl ?_
        refine v_iload_n K 3 dL_law_425 rfl rfl ?_
        refine v_iconst K dL_law_426 ki_1 ?_
        refine v_iadd K dL_law_427 ?_
        refine v_sld K hX hbl hbA dL_law_428 hi1 ?_
        refine v_callWi (As := [.int (xs (nI (4 * t) + 1).toNatClampNeg)]) (rest := [.int r]) K mk_L_51 dL_law_429 (Ctr.gidr (o := 1) (c_X9_count hE.2.1 hm)) (hE.2.1 0 (by decide)) rfl rfl rfl rfl rfl (Nat.le_of_ble_eq_true rfl) ⟨rfl, rfl⟩ ⟨Nat.le_of_ble_eq_true rfl, Nat.le_of_ble_eq_true rfl⟩ ?_
        refine v_icmp_eq (tgt := 779) K dL_law_432 (by decide) (fun _ => ?_) (fun h => absurd rfl h)
        refine v_iinc (v := nI (4 * (t + 1))) (lv' := [(3, .int (nI (4 * (t + 1)))), (0, .ref b), (1, .ref (eA E 0 0)), (2, .ref (eA E 1 0))]) K 3 dL_law_779 rfl (nI4 t) (by decide) rfl ?_
        refine v_goto (tgt := 18) K dL_law_782 (by decide) ?_
        refine v_lsub [1, 2, 3, 0] rfl ?_
        refine v_widen (cs' := (353 + 42 * (t + 1), 13543 + 838 * (t + 1))) ⟨show 353 + 42 * t ≤ 353 + 42 * (t + 1) by omega, show 13543 + 838 * t ≤ 13543 + 838 * (t + 1) by omega⟩ ⟨show 353 + 42 * (t + 1) ≤ 600000 by omega, show 13543 + 838 * (t + 1) ≤ 7302250 by omega⟩ ?_
        exact ih (t + 1) E G (by omega) (by omega) he hE hR
      by_cases hw9 : w = 9
      · have ht := tsi_22 hw9 (by decide)
        refine v_tableIn (off := 405) (tgt := 437) K dL_law_32 ht.1 ht.2 (by rw [hw9]; rfl) (by decide) ?_
        refine v_aload_n K 1 dL_law_437 rfl rfl ?_
        refine v_aload_n K 0 dL_law_438 rfl rfl ?_
        refine v_iload_n K 3 dL_law_439 rfl rfl ?_
        refine v_iconst K dL_law_440 ki_1 ?_
        refine v_iadd K dL_law_441 ?_
        refine v_sld K hX hbl hbA dL_law_442 hi1 ?_
        refine v_aload_n K 0 dL_law_443 rfl rfl ?_
        refine v_iload_n K 3 dL_law_444 rfl rfl ?_
        refine v_iconst K dL_law_445 ki_2 ?_
        refine v_iadd K dL_law_446 ?_
        refine v_sld K hX hbl hbA dL_law_447 hi2 ?_
        obtain ⟨r, M, hx, hm, hR1⟩ := p_costOfReading (xs (nI (4 * t) + 1).toNatClampNeg) (xs (nI (4 * t) + 2).toNatClampNeg)
        refine v_callWi (As := [.int (xs (nI (4 * t) + 1).toNatClampNeg), .int (xs (nI (4 * t) + 2).toNatClampNeg)]) (rest := []) K mk_L_52 dL_law_448 (c_X8_costOfReading hE.1 hE.2.2.1 hx) (hE.1 0 (by decide)) rfl rfl rfl rfl rfl (Nat.le_of_ble_eq_true rfl) ⟨rfl, rfl⟩ ⟨Nat.le_of_ble_eq_true rfl, Nat.le_of_ble_eq_true rfl⟩ ?_
        refine v_aload_n K 2 dL_law_451 rfl rfl ?_
        refine v_aload_n K 0 dL_law_452 rfl rfl ?_
        refine v_iload_n K 3 dL_law_453 rfl rfl ?_
        refine v_iconst K dL_law_454 ki_1 ?_
        refine v_iadd K dL_law_455 ?_
        refine v_sld K hX hbl hbA dL_law_456 hi1 ?_
        refine v_aload_n K 0 dL_law_457 rfl rfl ?_
        refine v_iload_n K 3 dL_law_458 rfl rfl ?_
        refine v_iconst K dL_law_459 ki_2 ?_
        refine v_iadd K dL_law_460 ?_
        refine v_sld K hX hbl hbA dL_law_461 hi2 ?_
        refine v_callWi (As := [.int (xs (nI (4 * t) + 1).toNatClampNeg), .int (xs (nI (4 * t) + 2).toNatClampNeg)]) (rest := [.int r]) K mk_L_55 dL_law_462 (Ctr.gid (o := 1) (c_X9_costOfReading hE.2.1 hm)) (hE.2.1 0 (by decide)) rfl rfl rfl rfl rfl (Nat.le_of_ble_eq_true rfl) ⟨rfl, rfl⟩ ⟨Nat.le_of_ble_eq_true rfl, Nat.le_of_ble_eq_true rfl⟩ ?_
        refine v_icmp_eq (tgt := 779) K dL_law_465 (by decide) (fun _ => ?_) (fun h => absurd rfl h)
        refine v_iinc (v := nI (4 * (t + 1))) (lv' := [(3, .int (nI (4 * (t + 1)))), (0, .ref b), (1, .ref (eA E 0 0)), (2, .ref (eA E 1 0))]) K 3 dL_law_779 rfl (nI4 t) (by decide) rfl ?_
        refine v_goto (tgt := 18) K dL_law_782 (by decide) ?_
        refine v_lsub [1, 2, 3, 0] rfl ?_
        refine v_widen (cs' := (353 + 42 * (t + 1), 13543 + 838 * (t + 1))) ⟨show 353 + 42 * t ≤ 353 + 42 * (t + 1) by omega, show 13543 + 838 * t ≤ 13543 + 838 * (t + 1) by omega⟩ ⟨show 353 + 42 * (t + 1) ≤ 600000 by omega, show 13543 + 838 * (t + 1) ≤ 7302250 by omega⟩ ?_
        exact ih (t + 1) E (va_up G 1 M) (by omega) (by omega) he (EF.keep hE (fun j => congrFun (congrFun (up_ne _ _ (by decide)) 3) j)) hR1
      by_cases hw10 : w = 10
      · have ht := tsi_22 hw10 (by decide)
        refine v_tableIn (off := 438) (tgt := 470) K dL_law_32 ht.1 ht.2 (by rw [hw10]; rfl) (by decide) ?_
        refine v_aload_n K 1 dL_law_470 rfl rfl ?_
        refine v_aload_n K 0 dL_law_471 rfl rfl ?_
        refine v_iload_n K 3 dL_law_472 rfl rfl ?_
        refine v_iconst K dL_law_473 ki_1 ?_
        refine v_iadd K dL_law_474 ?_
        refine v_sld K hX hbl hbA dL_law_475 hi1 ?_
        refine v_aload_n K 0 dL_law_476 rfl rfl ?_
        refine v_iload_n K 3 dL_law_477 rfl rfl ?_
        refine v_iconst K dL_law_478 ki_2 ?_
        refine v_iadd K dL_law_479 ?_
        refine v_sld K hX hbl hbA dL_law_480 hi2 ?_
        refine v_aload_n K 0 dL_law_481 rfl rfl ?_
        refine v_iload_n K 3 dL_law_482 rfl rfl ?_
        refine v_iconst K dL_law_483 ki_3 ?_
        refine v_iadd K dL_law_484 ?_
        refine v_sld K hX hbl hbA dL_law_485 hi3 ?_
        obtain ⟨r, M, hx, hm, hR1⟩ := p_costOfChange (xs (nI (4 * t) + 1).toNatClampNeg) (xs (nI (4 * t) + 2).toNatClampNeg) (xs (nI (4 * t) + 3).toNatClampNeg)
        refine v_callWi (As := [.int (xs (nI (4 * t) + 1).toNatClampNeg), .int (xs (nI (4 * t) + 2).toNatClampNeg), .int (xs (nI (4 * t) + 3).toNatClampNeg)]) (rest := []) K mk_L_56 dL_law_486 (c_X8_costOfChange hE.1 hE.2.2.1 hx) (hE.1 0 (by decide)) rfl rfl rfl rfl rfl (Nat.le_of_ble_eq_true rfl) ⟨rfl, rfl⟩ ⟨Nat.le_of_ble_eq_true rfl, Nat.le_of_ble_eq_true rfl⟩ ?_
        refine v_aload_n K 2 dL_law_489 rfl rfl ?_
        refine v_aload_n K 0 dL_law_490 rfl rfl ?_
        refine v_iload_n K 3 dL_law_491 rfl rfl ?_
        refine v_iconst K dL_law_492 ki_1 ?_
        refine v_iadd K dL_law_493 ?_
        refine v_sld K hX hbl hbA dL_law_494 hi1 ?_
        refine v_aload_n K 0 dL_law_495 rfl rfl ?_
        refine v_iload_n K 3 dL_law_496 rfl rfl ?_
        refine v_iconst K dL_law_497 ki_2 ?_
        refine v_iadd K dL_law_498 ?_
        refine v_sld K hX hbl hbA dL_law_499 hi2 ?_
        refine v_aload_n K 0 dL_law_500 rfl rfl ?_
        refine v_iload_n K 3 dL_law_501 rfl rfl ?_
        refine v_iconst K dL_law_502 ki_3 ?_
        refine v_iadd K dL_law_503 ?_
        refine v_sld K hX hbl hbA dL_law_504 hi3 ?_
        refine v_callWi (As := [.int (xs (nI (4 * t) + 1).toNatClampNeg), .int (xs (nI (4 * t) + 2).toNatClampNeg), .int (xs (nI (4 * t) + 3).toNatClampNeg)]) (rest := [.int r]) K mk_L_59 dL_law_505 (Ctr.gid (o := 1) (c_X9_costOfChange hE.2.1 hm)) (hE.2.1 0 (by decide)) rfl rfl rfl rfl rfl (Nat.le_of_ble_eq_true rfl) ⟨rfl, rfl⟩ ⟨Nat.le_of_ble_eq_true rfl, Nat.le_of_ble_eq_true rfl⟩ ?_
        refine v_icmp_eq (tgt := 779) K dL_law_508 (by decide) (fun _ => ?_) (fun h => absurd rfl h)
        refine v_iinc (v := nI (4 * (t + 1))) (lv' := [(3, .int (nI (4 * (t + 1)))), (0, .ref b), (1, .ref (eA E 0 0)), (2, .ref (eA E 1 0))]) K 3 dL_law_779 rfl (nI4 t) (by decide) rfl ?_
        refine v_goto (tgt := 18) K dL_law_782 (by decide) ?_
        refine v_lsub [1, 2, 3, 0] rfl ?_
        refine v_widen (cs' := (353 + 42 * (t + 1), 13543 + 838 * (t + 1))) ⟨show 353 + 42 * t ≤ 353 + 42 * (t + 1) by omega, show 13543 + 838 * t ≤ 13543 + 838 * (t + 1) by omega⟩ ⟨show 353 + 42 * (t + 1) ≤ 600000 by omega, show 13543 + 838 * (t + 1) ≤ 7302250 by omega⟩ ?_
        exact ih (t + 1) E (va_up G 1 M) (by omega) (by omega) he (EF.keep hE (fun j => congrFun (congrFun (up_ne _ _ (by decide)) 3) j)) hR1
      by_cases hw11 : w = 11
      · have ht := tsi_22 hw11 (by decide)
        refine v_tableIn (off := 481) (tgt := 513) K dL_law_32 ht.1 ht.2 (by rw [hw11]; rfl) (by decide) ?_
        refine v_aload_n K 1 dL_law_513 rfl rfl ?_
        refine v_aload_n K 0 dL_law_514 rfl rfl ?_
        refine v_iload_n K 3 dL_law_515 rfl rfl ?_
        refine v_iconst K dL_law_516 ki_1 ?_
        refine v_iadd K dL_law_517 ?_
        refine v_sld K hX hbl hbA dL_law_518 hi1 ?_
        obtain ⟨r, M, hx, hm, hR1⟩ := p_cheapest (xs (nI (4 * t) + 1).toNatClampNeg)
        refine v_callWi (As := [.int (xs (nI (4 * t) + 1).toNatClampNeg)]) (rest := []) K mk_L_60 dL_law_519 (c_X8_cheapest hE.1 hE.2.2.1 hx) (hE.1 0 (by decide)) rfl rfl rfl rfl rfl (Nat.le_of_ble_eq_true rfl) ⟨rfl, rfl⟩ ⟨Nat.le_of_ble_eq_true rfl, Nat.le_of_ble_eq_true rfl⟩ ?_
        refine v_aload_n K 2 dL_law_522 rfl rfl ?_
        refine v_aload_n K 0 dL_law_523 rfl rfl ?_
        refine v_iload_n K 3 dL_law_524 rfl rfl ?_
        refine v_iconst K dL_law_525 ki_1 ?_
        refine v_iadd K dL_law_526 ?_
        refine v_sld K hX hbl hbA dL_law_527 hi1 ?_
        refine v_callWi (As := [.int (xs (nI (4 * t) + 1).toNatClampNeg)]) (rest := [.int r]) K mk_L_63 dL_law_528 (Ctr.gid (o := 1) (c_X9_cheapest hE.2.1 hm)) (hE.2.1 0 (by decide)) rfl rfl rfl rfl rfl (Nat.le_of_ble_eq_true rfl) ⟨rfl, rfl⟩ ⟨Nat.le_of_ble_eq_true rfl, Nat.le_of_ble_eq_true rfl⟩ ?_
        refine v_icmp_eq (tgt := 779) K dL_law_531 (by decide) (fun _ => ?_) (fun h => absurd rfl h)
        refine v_iinc (v := nI (4 * (t + 1))) (lv' := [(3, .int (nI (4 * (t + 1)))), (0, .ref b), (1, .ref (eA E 0 0)), (2, .ref (eA E 1 0))]) K 3 dL_law_779 rfl (nI4 t) (by decide) rfl ?_
        refine v_goto (tgt := 18) K dL_law_782 (by decide) ?_
        refine v_lsub [1, 2, 3, 0] rfl ?_
        refine v_widen (cs' := (353 + 42 * (t + 1), 13543 + 838 * (t + 1))) ⟨show 353 + 42 * t ≤ 353 + 42 * (t + 1) by omega, show 13543 + 838 * t ≤ 13543 + 838 * (t + 1) by omega⟩ ⟨show 353 + 42 * (t + 1) ≤ 600000 by omega, show 13543 + 838 * (t + 1) ≤ 7302250 by omega⟩ ?_
        exact ih (t + 1) E (va_up G 1 M) (by omega) (by omega) he (EF.keep hE (fun j => congrFun (congrFun (up_ne _ _ (by decide)) 3) j)) hR1
      by_cases hw12 : w = 12
      · have ht := tsi_22 hw12 (by decide)
        refine v_tableIn (off := 504) (tgt := 536) K dL_law_32 ht.1 ht.2 (by rw [hw12]; rfl) (by decide) ?_
        refine v_aload_n K 1 dL_law_536 rfl rfl ?_
        refine v_aload_n K 0 dL_law_537 rfl rfl ?_
        refine v_iload_n K 3 dL_law_538 rfl rfl ?_
        refine v_iconst K dL_law_539 ki_1 ?_
        refine v_iadd K dL_law_540 ?_
        refine v_sld K hX hbl hbA dL_law_541 hi1 ?_
        obtain ⟨r, M, hx, hm, hR1⟩ := p_loudest (xs (nI (4 * t) + 1).toNatClampNeg)
        refine v_callWi (As := [.int (xs (nI (4 * t) + 1).toNatClampNeg)]) (rest := []) K mk_L_64 dL_law_542 (c_X8_loudest hE.1 hE.2.2.1 hx) (hE.1 0 (by decide)) rfl rfl rfl rfl rfl (Nat.le_of_ble_eq_true rfl) ⟨rfl, rfl⟩ ⟨Nat.le_of_ble_eq_true rfl, Nat.le_of_ble_eq_true rfl⟩ ?_
        refine v_aload_n K 2 dL_law_545 rfl rfl ?_
        refine v_aload_n K 0 dL_law_546 rfl rfl ?_
        refine v_iload_n K 3 dL_law_547 rfl rfl ?_
        refine v_iconst K dL_law_548 ki_1 ?_
        refine v_iadd K dL_law_549 ?_
        refine v_sld K hX hbl hbA dL_law_550 hi1 ?_
        refine v_callWi (As := [.int (xs (nI (4 * t) + 1).toNatClampNeg)]) (rest := [.int r]) K mk_L_67 dL_law_551 (Ctr.gid (o := 1) (c_X9_loudest hE.2.1 hm)) (hE.2.1 0 (by decide)) rfl rfl rfl rfl rfl (Nat.le_of_ble_eq_true rfl) ⟨rfl, rfl⟩ ⟨Nat.le_of_ble_eq_true rfl, Nat.le_of_ble_eq_true rfl⟩ ?_
        refine v_icmp_eq (tgt := 779) K dL_law_554 (by decide) (fun _ => ?_) (fun h => absurd rfl h)
        refine v_iinc (v := nI (4 * (t + 1))) (lv' := [(3, .int (nI (4 * (t + 1)))), (0, .ref b), (1, .ref (eA E 0 0)), (2, .ref (eA E 1 0))]) K 3 dL_law_779 rfl (nI4 t) (by decide) rfl ?_
        refine v_goto (tgt := 18) K dL_law_782 (by decide) ?_
        refine v_lsub [1, 2, 3, 0] rfl ?_
        refine v_widen (cs' := (353 + 42 * (t + 1), 13543 + 838 * (t + 1))) ⟨show 353 + 42 * t ≤ 353 + 42 * (t + 1) by omega, show 13543 + 838 * t ≤ 13543 + 838 * (t + 1) by omega⟩ ⟨show 353 + 42 * (t + 1) ≤ 600000 by omega, show 13543 + 838 * (t + 1) ≤ 7302250 by omega⟩ ?_
        exact ih (t + 1) E (va_up G 1 M) (by omega) (by omega) he (EF.keep hE (fun j => congrFun (congrFun (up_ne _ _ (by decide)) 3) j)) hR1
      by_cases hw13 : w = 13
      · have ht := tsi_22 hw13 (by decide)
        refine v_tableIn (off := 527) (tgt := 559) K dL_law_32 ht.1 ht.2 (by rw [hw13]; rfl) (by decide) ?_
        refine v_aload_n K 1 dL_law_559 rfl rfl ?_
        refine v_aload_n K 0 dL_law_560 rfl rfl ?_
        refine v_iload_n K 3 dL_law_561 rfl rfl ?_
        refine v_iconst K dL_law_562 ki_1 ?_
        refine v_iadd K dL_law_563 ?_
        refine v_sld K hX hbl hbA dL_law_564 hi1 ?_
        refine v_aload_n K 0 dL_law_565 rfl rfl ?_
        refine v_iload_n K 3 dL_law_566 rfl rfl ?_
        refine v_iconst K dL_law_567 ki_2 ?_
        refine v_iadd K dL_law_568 ?_
        refine v_sld K hX hbl hbA dL_law_569 hi2 ?_
        obtain ⟨r, G1, M, hx, hm, h1, h3, hR1⟩ := p_accountWith (xs (nI (4 * t) + 1).toNatClampNeg) (xs (nI (4 * t) + 2).toNatClampNeg)
        refine v_callWi (As := [.int (xs (nI (4 * t) + 1).toNatClampNeg), .int (xs (nI (4 * t) + 2).toNatClampNeg)]) (rest := []) K mk_L_68 dL_law_570 (c_X8_accountWith hE.1 hE.2.2.1 hx) (hE.1 0 (by decide)) rfl rfl rfl rfl rfl (Nat.le_of_ble_eq_true rfl) ⟨rfl, rfl⟩ ⟨Nat.le_of_ble_eq_true rfl, Nat.le_of_ble_eq_true rfl⟩ ?_
        have hE1 := hE.keep h3
        refine v_aload_n K 2 dL_law_573 rfl rfl ?_
        refine v_aload_n K 0 dL_law_574 rfl rfl ?_
        refine v_iload_n K 3 dL_law_575 rfl rfl ?_
        refine v_iconst K dL_law_576 ki_1 ?_
        refine v_iadd K dL_law_577 ?_
        refine v_sld K hX hbl hbA dL_law_578 hi1 ?_
        refine v_aload_n K 0 dL_law_579 rfl rfl ?_
        refine v_iload_n K 3 dL_law_580 rfl rfl ?_
        refine v_iconst K dL_law_581 ki_2 ?_
        refine v_iadd K dL_law_582 ?_
        refine v_sld K hX hbl hbA dL_law_583 hi2 ?_
        refine v_callWi (As := [.int (xs (nI (4 * t) + 1).toNatClampNeg), .int (xs (nI (4 * t) + 2).toNatClampNeg)]) (rest := [.int r]) K mk_L_71 dL_law_584 (Ctr.gid (o := 1) (c_X9_accountWith hE1.2.1 (by rw [h1]; exact hm))) (hE1.2.1 0 (by decide)) rfl rfl rfl rfl rfl (Nat.le_of_ble_eq_true rfl) ⟨rfl, rfl⟩ ⟨Nat.le_of_ble_eq_true rfl, Nat.le_of_ble_eq_true rfl⟩ ?_
        refine v_icmp_eq (tgt := 779) K dL_law_587 (by decide) (fun _ => ?_) (fun h => absurd rfl h)
        refine v_iinc (v := nI (4 * (t + 1))) (lv' := [(3, .int (nI (4 * (t + 1)))), (0, .ref b), (1, .ref (eA E 0 0)), (2, .ref (eA E 1 0))]) K 3 dL_law_779 rfl (nI4 t) (by decide) rfl ?_
        refine v_goto (tgt := 18) K dL_law_782 (by decide) ?_
        refine v_lsub [1, 2, 3, 0] rfl ?_
        refine v_widen (cs' := (353 + 42 * (t + 1), 13543 + 838 * (t + 1))) ⟨show 353 + 42 * t ≤ 353 + 42 * (t + 1) by omega, show 13543 + 838 * t ≤ 13543 + 838 * (t + 1) by omega⟩ ⟨show 353 + 42 * (t + 1) ≤ 600000 by omega, show 13543 + 838 * (t + 1) ≤ 7302250 by omega⟩ ?_
        exact ih (t + 1) E (va_up G1 1 M) (by omega) (by omega) he (EF.keep hE1 (fun j => congrFun (congrFun (up_ne _ _ (by decide)) 3) j)) hR1
      by_cases hw14 : w = 14
      · have ht := tsi_22 hw14 (by decide)
        refine v_tableIn (off := 560) (tgt := 592) K dL_law_32 ht.1 ht.2 (by rw [hw14]; rfl) (by decide) ?_
        refine v_aload_n K 1 dL_law_592 rfl rfl ?_
        refine v_aload_n K 0 dL_law_593 rfl rfl ?_
        refine v_iload_n K 3 dL_law_594 rfl rfl ?_
        refine v_iconst K dL_law_595 ki_1 ?_
        refine v_iadd K dL_law_596 ?_
        refine v_sld K hX hbl hbA dL_law_597 hi1 ?_
        obtain ⟨r, G1, M, hx, hm, h1, h3, hR1⟩ := p_best (xs (nI (4 * t) + 1).toNatClampNeg)
        refine v_callWi (As := [.int (xs (nI (4 * t) + 1).toNatClampNeg)]) (rest := []) K mk_L_72 dL_law_598 (c_X8_best hE.1 hE.2.2.1 hx) (hE.1 0 (by decide)) rfl rfl rfl rfl rfl (Nat.le_of_ble_eq_true rfl) ⟨rfl, rfl⟩ ⟨Nat.le_of_ble_eq_true rfl, Nat.le_of_ble_eq_true rfl⟩ ?_
        have hE1 := hE.keep h3
        refine v_aload_n K 2 dL_law_601 rfl rfl ?_
        refine v_aload_n K 0 dL_law_602 rfl rfl ?_
        refine v_iload_n K 3 dL_law_603 rfl rfl ?_
        refine v_iconst K dL_law_604 ki_1 ?_
        refine v_iadd K dL_law_605 ?_
        refine v_sld K hX hbl hbA dL_law_606 hi1 ?_
        refine v_callWi (As := [.int (xs (nI (4 * t) + 1).toNatClampNeg)]) (rest := [.int r]) K mk_L_75 dL_law_607 (Ctr.gid (o := 1) (c_X9_best hE1.2.1 (by rw [h1]; exact hm))) (hE1.2.1 0 (by decide)) rfl rfl rfl rfl rfl (Nat.le_of_ble_eq_true rfl) ⟨rfl, rfl⟩ ⟨Nat.le_of_ble_eq_true rfl, Nat.le_of_ble_eq_true rfl⟩ ?_
        refine v_icmp_eq (tgt := 779) K dL_law_610 (by decide) (fun _ => ?_) (fun h => absurd rfl h)
        refine v_iinc (v := nI (4 * (t + 1))) (lv' := [(3, .int (nI (4 * (t + 1)))), (0, .ref b), (1, .ref (eA E 0 0)), (2, .ref (eA E 1 0))]) K 3 dL_law_779 rfl (nI4 t) (by decide) rfl ?_
        refine v_goto (tgt := 18) K dL_law_782 (by decide) ?_
        refine v_lsub [1, 2, 3, 0] rfl ?_
        refine v_widen (cs' := (353 + 42 * (t + 1), 13543 + 838 * (t + 1))) ⟨show 353 + 42 * t ≤ 353 + 42 * (t + 1) by omega, show 13543 + 838 * t ≤ 13543 + 838 * (t + 1) by omega⟩ ⟨show 353 + 42 * (t + 1) ≤ 600000 by omega, show 13543 + 838 * (t + 1) ≤ 7302250 by omega⟩ ?_
        exact ih (t + 1) E (va_up G1 1 M) (by omega) (by omega) he (EF.keep hE1 (fun j => congrFun (congrFun (up_ne _ _ (by decide)) 3) j)) hR1
      by_cases hw15 : w = 15
      · have ht := tsi_22 hw15 (by decide)
        refine v_tableIn (off := 583) (tgt := 615) K dL_law_32 ht.1 ht.2 (by rw [hw15]; rfl) (by decide) ?_
        refine v_aload_n K 1 dL_law_615 rfl rfl ?_
        obtain ⟨r, G1, M, hx, hm, h1, h3, hR1⟩ := p_account 
        refine v_callWi (As := []) (rest := []) K mk_L_76 dL_law_616 (c_X8_account hE.1 hE.2.2.1 hx) (hE.1 0 (by decide)) rfl rfl rfl rfl rfl (Nat.le_of_ble_eq_true rfl) ⟨rfl, rfl⟩ ⟨Nat.le_of_ble_eq_true rfl, Nat.le_of_ble_eq_true rfl⟩ ?_
        have hE1 := hE.keep h3
        refine v_aload_n K 2 dL_law_619 rfl rfl ?_
        refine v_callWi (As := []) (rest := [.int r]) K mk_L_80 dL_law_620 (Ctr.gid (o := 1) (c_X9_account hE1.2.1 (by rw [h1]; exact hm))) (hE1.2.1 0 (by decide)) rfl rfl rfl rfl rfl (Nat.le_of_ble_eq_true rfl) ⟨rfl, rfl⟩ ⟨Nat.le_of_ble_eq_true rfl, Nat.le_of_ble_eq_true rfl⟩ ?_
        refine v_icmp_eq (tgt := 779) K dL_law_623 (by decide) (fun _ => ?_) (fun h => absurd rfl h)
        refine v_iinc (v := nI (4 * (t + 1))) (lv' := [(3, .int (nI (4 * (t + 1)))), (0, .ref b), (1, .ref (eA E 0 0)), (2, .ref (eA E 1 0))]) K 3 dL_law_779 rfl (nI4 t) (by decide) rfl ?_
        refine v_goto (tgt := 18) K dL_law_782 (by decide) ?_
        refine v_lsub [1, 2, 3, 0] rfl ?_
        refine v_widen (cs' := (353 + 42 * (t + 1), 13543 + 838 * (t + 1))) ⟨show 353 + 42 * t ≤ 353 + 42 * (t + 1) by omega, show 13543 + 838 * t ≤ 13543 + 838 * (t + 1) by omega⟩ ⟨show 353 + 42 * (t + 1) ≤ 600000 by omega, show 13543 + 838 * (t + 1) ≤ 7302250 by omega⟩ ?_
        exact ih (t + 1) E (va_up G1 1 M) (by omega) (by omega) he (EF.keep hE1 (fun j => congrFun (congrFun (up_ne _ _ (by decide)) 3) j)) hR1
      by_cases hw16 : w = 16
      · have ht := tsi_22 hw16 (by decide)
        refine v_tableIn (off := 596) (tgt := 628) K dL_law_32 ht.1 ht.2 (by rw [hw16]; rfl) (by decide) ?_
        refine v_aload_n K 1 dL_law_628 rfl rfl ?_
        refine v_aload_n K 0 dL_law_629 rfl rfl ?_
        refine v_iload_n K 3 dL_law_630 rfl rfl ?_
        refine v_iconst K dL_law_631 ki_1 ?_
        refine v_iadd K dL_law_632 ?_
        refine v_sld K hX hbl hbA dL_law_633 hi1 ?_
        refine v_i2l K dL_law_634 ?_
        refine v_bipush K dL_law_635 kb_32 ?_
        refine v_lshl K dL_law_637 ?_
        refine v_aload_n K 0 dL_law_638 rfl rfl ?_
        refine v_iload_n K 3 dL_law_639 rfl rfl ?_
        refine v_iconst K dL_law_640 ki_2 ?_
        refine v_iadd K dL_law_641 ?_
        refine v_sld K hX hbl hbA dL_law_642 hi2 ?_
        refine v_i2l K dL_law_643 ?_
        refine v_ldc2 K dL_law_644 klL_81 ?_
        refine v_land K dL_law_647 ?_
        refine v_lor K dL_law_648 ?_
        obtain ⟨r, G1, M, hx, hm, h1, h3, hR1⟩ := p_put ((((xs (nI (4 * t) + 1).toNatClampNeg).toInt64 <<< ((32 : Int32).toInt64 &&& 63)) ||| ((xs (nI (4 * t) + 2).toNatClampNeg).toInt64 &&& 4294967295)))
        refine v_callWi (As := [.long ((((xs (nI (4 * t) + 1).toNatClampNeg).toInt64 <<< ((32 : Int32).toInt64 &&& 63)) ||| ((xs (nI (4 * t) + 2).toNatClampNeg).toInt64 &&& 4294967295)))]) (rest := []) K mk_L_83 dL_law_649 (c_X8_put hE.1 hE.2.2.1 hx) (hE.1 0 (by decide)) rfl rfl rfl rfl rfl (Nat.le_of_ble_eq_true rfl) ⟨rfl, rfl⟩ ⟨Nat.le_of_ble_eq_true rfl, Nat.le_of_ble_eq_true rfl⟩ ?_
        have hE1 := hE.keep h3
        refine v_aload_n K 2 dL_law_652 rfl rfl ?_
        refine v_aload_n K 0 dL_law_653 rfl rfl ?_
        refine v_iload_n K 3 dL_law_654 rfl rfl ?_
        refine v_iconst K dL_law_655 ki_1 ?_
        refine v_iadd K dL_law_656 ?_
        refine v_sld K hX hbl hbA dL_law_657 hi1 ?_
        refine v_i2l K dL_law_658 ?_
        refine v_bipush K dL_law_659 kb_32 ?_
        refine v_lshl K dL_law_661 ?_
        refine v_aload_n K 0 dL_law_662 rfl rfl ?_
        refine v_iload_n K 3 dL_law_663 rfl rfl ?_
        refine v_iconst K dL_law_664 ki_2 ?_
        refine v_iadd K dL_law_665 ?_
        refine v_sld K hX hbl hbA dL_law_666 hi2 ?_
        refine v_i2l K dL_law_667 ?_
        refine v_ldc2 K dL_law_668 klL_81 ?_
        refine v_land K dL_law_671 ?_
        refine v_lor K dL_law_672 ?_
        refine v_callWi (As := [.long ((((xs (nI (4 * t) + 1).toNatClampNeg).toInt64 <<< ((32 : Int32).toInt64 &&& 63)) ||| ((xs (nI (4 * t) + 2).toNatClampNeg).toInt64 &&& 4294967295)))]) (rest := [.int r]) K mk_L_87 dL_law_673 (Ctr.gid (o := 1) (c_X9_put hE1.2.1 (by rw [h1]; exact hm))) (hE1.2.1 0 (by decide)) rfl rfl rfl rfl rfl (Nat.le_of_ble_eq_true rfl) ⟨rfl, rfl⟩ ⟨Nat.le_of_ble_eq_true rfl, Nat.le_of_ble_eq_true rfl⟩ ?_
        refine v_icmp_eq (tgt := 779) K dL_law_676 (by decide) (fun _ => ?_) (fun h => absurd rfl h)
        refine v_iinc (v := nI (4 * (t + 1))) (lv' := [(3, .int (nI (4 * (t + 1)))), (0, .ref b), (1, .ref (eA E 0 0)), (2, .ref (eA E 1 0))]) K 3 dL_law_779 rfl (nI4 t) (by decide) rfl ?_
        refine v_goto (tgt := 18) K dL_law_782 (by decide) ?_
        refine v_lsub [1, 2, 3, 0] rfl ?_
        refine v_widen (cs' := (353 + 42 * (t + 1), 13543 + 838 * (t + 1))) ⟨show 353 + 42 * t ≤ 353 + 42 * (t + 1) by omega, show 13543 + 838 * t ≤ 13543 + 838 * (t + 1) by omega⟩ ⟨show 353 + 42 * (t + 1) ≤ 600000 by omega, show 13543 + 838 * (t + 1) ≤ 7302250 by omega⟩ ?_
        exact ih (t + 1) E (va_up G1 1 M) (by omega) (by omega) he (EF.keep hE1 (fun j => congrFun (congrFun (up_ne _ _ (by decide)) 3) j)) hR1
      by_cases hw17 : w = 17
      · have ht := tsi_22 hw17 (by decide)
        refine v_tableIn (off := 649) (tgt := 681) K dL_law_32 ht.1 ht.2 (by rw [hw17]; rfl) (by decide) ?_
        refine v_aload_n K 1 dL_law_681 rfl rfl ?_
        obtain ⟨r, G1, M, hx, hm, h1, h3, hR1⟩ := p_wipe 
        replace hx := Option.some.inj hx
        replace hm := Option.some.inj hm
        refine v_callWi (As := []) (rest := []) K mk_L_88 dL_law_682 (c_X8_wipe hE.1 hE.2.2.1 hx) (hE.1 0 (by decide)) rfl rfl rfl rfl rfl (Nat.le_of_ble_eq_true rfl) ⟨rfl, rfl⟩ ⟨Nat.le_of_ble_eq_true rfl, Nat.le_of_ble_eq_true rfl⟩ ?_
        have hE1 := hE.keep h3
        refine v_aload_n K 2 dL_law_685 rfl rfl ?_
        refine v_callWi (As := []) (rest := [.int r]) K mk_L_91 dL_law_686 (Ctr.gid (o := 1) (c_X9_wipe hE1.2.1 ((congrArg f_X9_wipe h1).trans hm))) (hE1.2.1 0 (by decide)) rfl rfl rfl rfl rfl (Nat.le_of_ble_eq_true rfl) ⟨rfl, rfl⟩ ⟨Nat.le_of_ble_eq_true rfl, Nat.le_of_ble_eq_true rfl⟩ ?_
        refine v_icmp_eq (tgt := 779) K dL_law_689 (by decide) (fun _ => ?_) (fun h => absurd rfl h)
        refine v_iinc (v := nI (4 * (t + 1))) (lv' := [(3, .int (nI (4 * (t + 1)))), (0, .ref b), (1, .ref (eA E 0 0)), (2, .ref (eA E 1 0))]) K 3 dL_law_779 rfl (nI4 t) (by decide) rfl ?_
        refine v_goto (tgt := 18) K dL_law_782 (by decide) ?_
        refine v_lsub [1, 2, 3, 0] rfl ?_
        refine v_widen (cs' := (353 + 42 * (t + 1), 13543 + 838 * (t + 1))) ⟨show 353 + 42 * t ≤ 353 + 42 * (t + 1) by omega, show 13543 + 838 * t ≤ 13543 + 838 * (t + 1) by omega⟩ ⟨show 353 + 42 * (t + 1) ≤ 600000 by omega, show 13543 + 838 * (t + 1) ≤ 7302250 by omega⟩ ?_
        exact ih (t + 1) E (va_up G1 1 M) (by omega) (by omega) he (EF.keep hE1 (fun j => congrFun (congrFun (up_ne _ _ (by decide)) 3) j)) hR1
      by_cases hw18 : w = 18
      · have ht := tsi_22 hw18 (by decide)
        refine v_tableIn (off := 662) (tgt := 694) K dL_law_32 ht.1 ht.2 (by rw [hw18]; rfl) (by decide) ?_
        refine v_aload_n K 1 dL_law_694 rfl rfl ?_
        obtain ⟨r, G1, M, hx, hm, h1, h3, hR1⟩ := p_fault 
        refine v_callWi (As := []) (rest := []) K mk_L_92 dL_law_695 (c_X8_fault hE.1 hE.2.2.1 hx) (hE.1 0 (by decide)) rfl rfl rfl rfl rfl (Nat.le_of_ble_eq_true rfl) ⟨rfl, rfl⟩ ⟨Nat.le_of_ble_eq_true rfl, Nat.le_of_ble_eq_true rfl⟩ ?_
        have hE1 := hE.keep h3
        refine v_aload_n K 2 dL_law_698 rfl rfl ?_
        refine v_callWi (As := []) (rest := [.int r]) K mk_L_95 dL_law_699 (Ctr.gid (o := 1) (c_X9_fault hE1.2.1 (by rw [h1]; exact hm))) (hE1.2.1 0 (by decide)) rfl rfl rfl rfl rfl (Nat.le_of_ble_eq_true rfl) ⟨rfl, rfl⟩ ⟨Nat.le_of_ble_eq_true rfl, Nat.le_of_ble_eq_true rfl⟩ ?_
        refine v_icmp_eq (tgt := 779) K dL_law_702 (by decide) (fun _ => ?_) (fun h => absurd rfl h)
        refine v_iinc (v := nI (4 * (t + 1))) (lv' := [(3, .int (nI (4 * (t + 1)))), (0, .ref b), (1, .ref (eA E 0 0)), (2, .ref (eA E 1 0))]) K 3 dL_law_779 rfl (nI4 t) (by decide) rfl ?_
        refine v_goto (tgt := 18) K dL_law_782 (by decide) ?_
        refine v_lsub [1, 2, 3, 0] rfl ?_
        refine v_widen (cs' := (353 + 42 * (t + 1), 13543 + 838 * (t + 1))) ⟨show 353 + 42 * t ≤ 353 + 42 * (t + 1) by omega, show 13543 + 838 * t ≤ 13543 + 838 * (t + 1) by omega⟩ ⟨show 353 + 42 * (t + 1) ≤ 600000 by omega, show 13543 + 838 * (t + 1) ≤ 7302250 by omega⟩ ?_
        exact ih (t + 1) E (va_up G1 1 M) (by omega) (by omega) he (EF.keep hE1 (fun j => congrFun (congrFun (up_ne _ _ (by decide)) 3) j)) hR1
      by_cases hw19 : w = 19
      · have ht := tsi_22 hw19 (by decide)
        refine v_tableIn (off := 675) (tgt := 707) K dL_law_32 ht.1 ht.2 (by rw [hw19]; rfl) (by decide) ?_
        refine v_aload_n K 1 dL_law_707 rfl rfl ?_
        obtain ⟨r, G1, M, hx, hm, h1, h3, hR1⟩ := p_carryOut 
        refine v_callWi (As := []) (rest := []) K mk_L_96 dL_law_708 (c_X8_carryOut hE.1 hE.2.2.1 hx) (hE.1 0 (by decide)) rfl rfl rfl rfl rfl (Nat.le_of_ble_eq_true rfl) ⟨rfl, rfl⟩ ⟨Nat.le_of_ble_eq_true rfl, Nat.le_of_ble_eq_true rfl⟩ ?_
        have hE1 := hE.keep h3
        refine v_aload_n K 2 dL_law_711 rfl rfl ?_
        refine v_callWi (As := []) (rest := [.int r]) K mk_L_99 dL_law_712 (Ctr.gid (o := 1) (c_X9_carryOut hE1.2.1 (by rw [h1]; exact hm))) (hE1.2.1 0 (by decide)) rfl rfl rfl rfl rfl (Nat.le_of_ble_eq_true rfl) ⟨rfl, rfl⟩ ⟨Nat.le_of_ble_eq_true rfl, Nat.le_of_ble_eq_true rfl⟩ ?_
        refine v_icmp_eq (tgt := 779) K dL_law_715 (by decide) (fun _ => ?_) (fun h => absurd rfl h)
        refine v_iinc (v := nI (4 * (t + 1))) (lv' := [(3, .int (nI (4 * (t + 1)))), (0, .ref b), (1, .ref (eA E 0 0)), (2, .ref (eA E 1 0))]) K 3 dL_law_779 rfl (nI4 t) (by decide) rfl ?_
        refine v_goto (tgt := 18) K dL_law_782 (by decide) ?_
        refine v_lsub [1, 2, 3, 0] rfl ?_
        refine v_widen (cs' := (353 + 42 * (t + 1), 13543 + 838 * (t + 1))) ⟨show 353 + 42 * t ≤ 353 + 42 * (t + 1) by omega, show 13543 + 838 * t ≤ 13543 + 838 * (t + 1) by omega⟩ ⟨show 353 + 42 * (t + 1) ≤ 600000 by omega, show 13543 + 838 * (t + 1) ≤ 7302250 by omega⟩ ?_
        exact ih (t + 1) E (va_up G1 1 M) (by omega) (by omega) he (EF.keep hE1 (fun j => congrFun (congrFun (up_ne _ _ (by decide)) 3) j)) hR1
      by_cases hw20 : w = 20
      · have ht := tsi_22 hw20 (by decide)
        refine v_tableIn (off := 688) (tgt := 720) K dL_law_32 ht.1 ht.2 (by rw [hw20]; rfl) (by decide) ?_
        refine v_aload_n K 1 dL_law_720 rfl rfl ?_
        obtain ⟨r, G1, M, hx, hm, h1, h3, hR1⟩ := p_undo 
        refine v_callWi (As := []) (rest := []) K mk_L_100 dL_law_721 (c_X8_undo hE.1 hE.2.2.1 hx) (hE.1 0 (by decide)) rfl rfl rfl rfl rfl (Nat.le_of_ble_eq_true rfl) ⟨rfl, rfl⟩ ⟨Nat.le_of_ble_eq_true rfl, Nat.le_of_ble_eq_true rfl⟩ ?_
        have hE1 := hE.keep h3
        refine v_aload_n K 2 dL_law_724 rfl rfl ?_
        refine v_callWi (As := []) (rest := [.int r]) K mk_L_103 dL_law_725 (Ctr.gid (o := 1) (c_X9_undo hE1.2.1 (by rw [h1]; exact hm))) (hE1.2.1 0 (by decide)) rfl rfl rfl rfl rfl (Nat.le_of_ble_eq_true rfl) ⟨rfl, rfl⟩ ⟨Nat.le_of_ble_eq_true rfl, Nat.le_of_ble_eq_true rfl⟩ ?_
        refine v_icmp_eq (tgt := 779) K dL_law_728 (by decide) (fun _ => ?_) (fun h => absurd rfl h)
        refine v_iinc (v := nI (4 * (t + 1))) (lv' := [(3, .int (nI (4 * (t + 1)))), (0, .ref b), (1, .ref (eA E 0 0)), (2, .ref (eA E 1 0))]) K 3 dL_law_779 rfl (nI4 t) (by decide) rfl ?_
        refine v_goto (tgt := 18) K dL_law_782 (by decide) ?_
        refine v_lsub [1, 2, 3, 0] rfl ?_
        refine v_widen (cs' := (353 + 42 * (t + 1), 13543 + 838 * (t + 1))) ⟨show 353 + 42 * t ≤ 353 + 42 * (t + 1) by omega, show 13543 + 838 * t ≤ 13543 + 838 * (t + 1) by omega⟩ ⟨show 353 + 42 * (t + 1) ≤ 600000 by omega, show 13543 + 838 * (t + 1) ≤ 7302250 by omega⟩ ?_
        exact ih (t + 1) E (va_up G1 1 M) (by omega) (by omega) he (EF.keep hE1 (fun j => congrFun (congrFun (up_ne _ _ (by decide)) 3) j)) hR1
      by_cases hw21 : w = 21
      · have ht := tsi_22 hw21 (by decide)
        refine v_tableIn (off := 701) (tgt := 733) K dL_law_32 ht.1 ht.2 (by rw [hw21]; rfl) (by decide) ?_
        refine v_aload_n K 1 dL_law_733 rfl rfl ?_
        refine v_aload_n K 0 dL_law_734 rfl rfl ?_
        refine v_iload_n K 3 dL_law_735 rfl rfl ?_
        refine v_iconst K dL_law_736 ki_1 ?_
        refine v_iadd K dL_law_737 ?_
        refine v_sld K hX hbl hbA dL_law_738 hi1 ?_
        obtain ⟨r, G1, M, hx, hm, h1, hR1⟩ := p_save (xs (nI (4 * t) + 1).toNatClampNeg)
        refine v_callWA (As := [.int (xs (nI (4 * t) + 1).toNatClampNeg)]) (rest := []) K hO hA mk_L_104 dL_law_739 (c_X8_save hE hx) (hE.1 0 (by decide)) rfl rfl rfl rfl rfl (Nat.le_of_ble_eq_true rfl) ⟨Nat.le_of_ble_eq_true rfl, Nat.le_of_ble_eq_true rfl⟩ hroom (fun ws1 hB => ?_)
        obtain ⟨E', e1, e2, e3, hE1, rfl⟩ := hB
        have K := Cx.env K e1
        rw [← e2, ← e3]
        refine v_aload_n K 2 dL_law_742 rfl rfl ?_
        refine v_aload_n K 0 dL_law_743 rfl rfl ?_
        refine v_iload_n K 3 dL_law_744 rfl rfl ?_
        refine v_iconst K dL_law_745 ki_1 ?_
        refine v_iadd K dL_law_746 ?_
        refine v_sld K hX hbl hbA dL_law_747 hi1 ?_
        refine v_callWi (As := [.int (xs (nI (4 * t) + 1).toNatClampNeg)]) (rest := [.int r]) K mk_L_107 dL_law_748 (Ctr.gid (o := 1) (c_X9_save hE1.2.1 (by rw [h1]; exact hm))) (hE1.2.1 0 (by decide)) rfl rfl rfl rfl rfl (Nat.le_of_ble_eq_true rfl) ⟨rfl, rfl⟩ ⟨Nat.le_of_ble_eq_true rfl, Nat.le_of_ble_eq_true rfl⟩ ?_
        refine v_icmp_eq (tgt := 779) K dL_law_751 (by decide) (fun _ => ?_) (fun h => absurd rfl h)
        refine v_iinc (v := nI (4 * (t + 1))) (lv' := [(3, .int (nI (4 * (t + 1)))), (0, .ref b), (1, .ref (eA E' 0 0)), (2, .ref (eA E' 1 0))]) K 3 dL_law_779 rfl (nI4 t) (by decide) rfl ?_
        refine v_goto (tgt := 18) K dL_law_782 (by decide) ?_
        refine v_lsub [1, 2, 3, 0] rfl ?_
        refine v_ws (ws' := wl E' (va_up G1 1 M)) rfl ?_
        exact ih (t + 1) E' (va_up G1 1 M) (by omega) (by omega) (e1.trans he) (EF.keep hE1 (fun j => congrFun (congrFun (up_ne _ _ (by decide)) 3) j)) hR1
      by_cases hw22 : w = 22
      · have ht := tsi_22 hw22 (by decide)
        refine v_tableIn (off := 724) (tgt := 756) K dL_law_32 ht.1 ht.2 (by rw [hw22]; rfl) (by decide) ?_
        refine v_aload_n K 1 dL_law_756 rfl rfl ?_
        refine v_aload_n K 0 dL_law_757 rfl rfl ?_
        refine v_iload_n K 3 dL_law_758 rfl rfl ?_
        refine v_iconst K dL_law_759 ki_1 ?_
        refine v_iadd K dL_law_760 ?_
        refine v_sld K hX hbl hbA dL_law_761 hi1 ?_
        obtain ⟨r, G1, M, hx, hm, h1, h3, hR1⟩ := p_restore (xs (nI (4 * t) + 1).toNatClampNeg)
        refine v_callWi (As := [.int (xs (nI (4 * t) + 1).toNatClampNeg)]) (rest := []) K mk_L_108 dL_law_762 (c_X8_restore hE.1 hE.2.2.1 hE.2.2.2.1 hx) (hE.1 0 (by decide)) rfl rfl rfl rfl rfl (Nat.le_of_ble_eq_true rfl) ⟨rfl, rfl⟩ ⟨Nat.le_of_ble_eq_true rfl, Nat.le_of_ble_eq_true rfl⟩ ?_
        have hE1 := hE.keep h3
        refine v_aload_n K 2 dL_law_765 rfl rfl ?_
        refine v_aload_n K 0 dL_law_766 rfl rfl ?_
        refine v_iload_n K 3 dL_law_767 rfl rfl ?_
        refine v_iconst K dL_law_768 ki_1 ?_
        refine v_iadd K dL_law_769 ?_
        refine v_sld K hX hbl hbA dL_law_770 hi1 ?_
        refine v_callWi (As := [.int (xs (nI (4 * t) + 1).toNatClampNeg)]) (rest := [.int r]) K mk_L_111 dL_law_771 (Ctr.gid (o := 1) (c_X9_restore hE1.2.1 (by rw [h1]; exact hm))) (hE1.2.1 0 (by decide)) rfl rfl rfl rfl rfl (Nat.le_of_ble_eq_true rfl) ⟨rfl, rfl⟩ ⟨Nat.le_of_ble_eq_true rfl, Nat.le_of_ble_eq_true rfl⟩ ?_
        refine v_icmp_eq (tgt := 779) K dL_law_774 (by decide) (fun _ => ?_) (fun h => absurd rfl h)
        refine v_iinc (v := nI (4 * (t + 1))) (lv' := [(3, .int (nI (4 * (t + 1)))), (0, .ref b), (1, .ref (eA E 0 0)), (2, .ref (eA E 1 0))]) K 3 dL_law_779 rfl (nI4 t) (by decide) rfl ?_
        refine v_goto (tgt := 18) K dL_law_782 (by decide) ?_
        refine v_lsub [1, 2, 3, 0] rfl ?_
        refine v_widen (cs' := (353 + 42 * (t + 1), 13543 + 838 * (t + 1))) ⟨show 353 + 42 * t ≤ 353 + 42 * (t + 1) by omega, show 13543 + 838 * t ≤ 13543 + 838 * (t + 1) by omega⟩ ⟨show 353 + 42 * (t + 1) ≤ 600000 by omega, show 13543 + 838 * (t + 1) ≤ 7302250 by omega⟩ ?_
        exact ih (t + 1) E (va_up G1 1 M) (by omega) (by omega) he (EF.keep hE1 (fun j => congrFun (congrFun (up_ne _ _ (by decide)) 3) j)) hR1
      refine v_tableOut (tgt := 779) K dL_law_32 (tso_22 hw0 hw1 hw2 hw3 hw4 hw5 hw6 hw7 hw8 hw9 hw10 hw11 hw12 hw13 hw14 hw15 hw16 hw17 hw18 hw19 hw20 hw21 hw22) (by decide) ?_
      refine v_iinc (v := nI (4 * (t + 1))) (lv' := [(3, .int (nI (4 * (t + 1)))), (0, .ref b), (1, .ref (eA E 0 0)), (2, .ref (eA E 1 0))]) K 3 dL_law_779 rfl (nI4 t) (by decide) rfl ?_
      refine v_goto (tgt := 18) K dL_law_782 (by decide) ?_
      refine v_lsub [1, 2, 3, 0] rfl ?_
      refine v_widen (cs' := (353 + 42 * (t + 1), 13543 + 838 * (t + 1))) ⟨show 353 + 42 * t ≤ 353 + 42 * (t + 1) by omega, show 13543 + 838 * t ≤ 13543 + 838 * (t + 1) by omega⟩ ⟨show 353 + 42 * (t + 1) ≤ 600000 by omega, show 13543 + 838 * (t + 1) ≤ 7302250 by omega⟩ ?_
      exact ih (t + 1) E G (by omega) (by omega) he hE hR
