variable {p : Program} {l : Launch} {e : Env} {R : Room} {s : State} {m : MethodId} {args : Array Value} {below : List Frame} {meth : Method} {c : Code} {Q : State → Prop} {D : va_G} {E : En} {A : Nat → Prop} {own : String} {cc : ByteArray} {nL : Nat} {ret : Option FieldType} {Ts : List Cond} {pc : Nat} {st : List Value} {lv lv' : List (Nat × Value)} {ws : va_W} {cs : Nat × Nat}
theorem v_callWi (K : Cx p s m args meth c D E A own cc nL ret Ts) {y : MethodName} {bytes : ByteArray} {maxL : Nat} {rt : Option FieldType} {rm : Room} {As rest st0 : List Value} {G : Gs} {ws1 : va_W} {o k n index ci : Nat} {fs : List Value} {r : vw_C} {v : Value} (M : MLk own index y bytes maxL rt n) (hdg : decode cc pc = .ok (.invokevirtual index, 3)) (hM : Ctr l D E A y bytes maxL rt rm (.ref (eA E o k) :: As) (wl E G) (some v) ws1) (hm : (o, k) ∈ eW E) (hc : cel E o k (G o k) = .inr (ci, fs)) (hci : vwCl[ci]? = some r) (hrc : r.1 = y.cls)
    (hst : st0 = As.reverse ++ .ref (eA E o k) :: rest) (hn : As.length = n) (hcat : (rest.map fun v => v.category).sum ≤ 8) (hr0 : rm.cells = 0 ∧ rm.slots = 0) (hR : rm.frames + 1 ≤ R.frames ∧ 8 + (maxL + 11) + rm.locals ≤ R.locals)
    (kk : VV p l e R s m args below meth c Q D A nL cs (pc + 3) (v :: rest) (lv) (ws1)) : VV p l e R s m args below meth c Q D A nL cs (pc) (st0) (lv) (wl E G) := v_callW K M hdg hM hm hc hci hrc hst hn hcat hr0 hR kk
theorem v_callWn (K : Cx p s m args meth c D E A own cc nL ret Ts) {y : MethodName} {bytes : ByteArray} {maxL : Nat} {rt : Option FieldType} {rm : Room} {As rest st0 : List Value} {G : Gs} {ws1 : va_W} {o k n index ci : Nat} {fs : List Value} {r : vw_C} (M : MLk own index y bytes maxL rt n) (hdg : decode cc pc = .ok (.invokevirtual index, 3)) (hM : Ctr l D E A y bytes maxL rt rm (.ref (eA E o k) :: As) (wl E G) none ws1) (hm : (o, k) ∈ eW E) (hc : cel E o k (G o k) = .inr (ci, fs)) (hci : vwCl[ci]? = some r) (hrc : r.1 = y.cls)
    (hst : st0 = As.reverse ++ .ref (eA E o k) :: rest) (hn : As.length = n) (hcat : (rest.map fun v => v.category).sum ≤ 8) (hr0 : rm.cells = 0 ∧ rm.slots = 0) (hR : rm.frames + 1 ≤ R.frames ∧ 8 + (maxL + 11) + rm.locals ≤ R.locals)
    (kk : VV p l e R s m args below meth c Q D A nL cs (pc + 3) (rest) (lv) (ws1)) : VV p l e R s m args below meth c Q D A nL cs (pc) (st0) (lv) (wl E G) := v_callW K M hdg hM hm hc hci hrc hst hn hcat hr0 hR kk
theorem v_callSi (K : Cx p s m args meth c D E A own cc nL ret Ts) {y : MethodName} {bytes : ByteArray} {maxL : Nat} {rt : Option FieldType} {rm : Room} {As rest st0 : List Value} {ws1 : va_W} {n index : Nat} {v : Value} (M : MSk own index y bytes maxL rt n) (hdg : decode cc pc = .ok (.invokestatic index, 3)) (hM : Ctr l D E A y bytes maxL rt rm As ws (some v) ws1)
    (hst : st0 = As.reverse ++ rest) (hn : As.length = n) (hcat : (rest.map fun v => v.category).sum ≤ 8) (hr0 : rm.cells = 0 ∧ rm.slots = 0) (hR : rm.frames + 1 ≤ R.frames ∧ 8 + (maxL + 11) + rm.locals ≤ R.locals)
    (kk : VV p l e R s m args below meth c Q D A nL cs (pc + 3) (v :: rest) (lv) (ws1)) : VV p l e R s m args below meth c Q D A nL cs (pc) (st0) (lv) (ws) := v_callS K M hdg hM hst hn hcat hr0 hR kk
theorem v_callSNi (K : Cx p s m args meth c D E A own cc nL ret Ts) {y : MethodName} {bytes : ByteArray} {maxL : Nat} {rt : Option FieldType} {rm : Room} {As rest st0 : List Value} {ws1 : va_W} {n index : Nat} {v : Value} (M : MNk own index y bytes maxL rt n) (hdg : decode cc pc = .ok (.invokestatic index, 3)) (hM : Ctr l D E A y bytes maxL rt rm As ws (some v) ws1)
    (hst : st0 = As.reverse ++ rest) (hn : As.length = n) (hcat : (rest.map fun v => v.category).sum ≤ 8) (hr0 : rm.cells = 0 ∧ rm.slots = 0) (hR : rm.frames + 1 ≤ R.frames ∧ 8 + (maxL + 11) + rm.locals ≤ R.locals)
    (kk : VV p l e R s m args below meth c Q D A nL cs (pc + 3) (v :: rest) (lv) (ws1)) : VV p l e R s m args below meth c Q D A nL cs (pc) (st0) (lv) (ws) := v_callSN K M hdg hM hst hn hcat hr0 hR kk
theorem v_mmax (K : Cx p s m args meth c D E A own cc nL ret Ts) {index : Nat} {x y : Int32} (hw : Cond.methodLink own index Lib.Math.max.name ∈ wsL_law) (hdg : decode cc pc = .ok (.invokestatic index, 3)) (hfr : 1 ≤ R.frames) (hlo : (st.map fun v => v.category).sum + 13 ≤ R.locals) (kk : VV p l e R s m args below meth c Q D A nL cs (pc + 3) (.int (if x < y then y else x) :: st) (lv) (ws)) : VV p l e R s m args below meth c Q D A nL cs (pc) (.int y :: .int x :: st) (lv) (ws) := by
  intro H locs ls hcs hP hD hS hl
  exact va_mmax K.1 K.2.1 (K.2.2.1.trans hl.1.symm) K.2.2.2.1 (K.word hw) (K.word st_ib.Math.max.name) (K.word ini_javalangMath) (K.word co_ib.Math.max.name) hfr hlo hcs.1 hcs.2 hdg (kk H locs ls hcs hP hD hS hl)
theorem v_gets_low (K : Cx p s m args meth c D E A own cc nL ret Ts) {index : Nat} (hw : Cond.fieldLink own index RX8 "LOWEST" "[I" ∈ wsL_law) (hdg : decode cc pc = .ok (.getstatic index, 3)) (kk : ∀ t : Nat, va_T .int t 4 (fun j => .int (fLow j)) A s s.heap → VV p l e R s m args below meth c Q D A nL cs (pc + 3) (.ref t :: st) (lv) (ws)) : VV p l e R s m args below meth c Q D A nL cs (pc) (st) (lv) (ws) := by
  intro H locs ls hcs hP hD hS hl
  obtain ⟨t, hZ, hT⟩ := K.2.2.2.2.2.2.1.2.2.2.1
  exact va_gets K.1 K.2.1 hZ hS K.2.2.2.1 (K.word hw) (fun _ h9 => h9) hdg (kk t hT H locs ls hcs hP hD hS hl)
theorem v_gets_high (K : Cx p s m args meth c D E A own cc nL ret Ts) {index : Nat} (hw : Cond.fieldLink own index RX8 "HIGHEST" "[I" ∈ wsL_law) (hdg : decode cc pc = .ok (.getstatic index, 3)) (kk : ∀ t : Nat, va_T .int t 4 (fun j => .int (fHigh j)) A s s.heap → VV p l e R s m args below meth c Q D A nL cs (pc + 3) (.ref t :: st) (lv) (ws)) : VV p l e R s m args below meth c Q D A nL cs (pc) (st) (lv) (ws) := by
  intro H locs ls hcs hP hD hS hl
  obtain ⟨t, hZ, hT⟩ := K.2.2.2.2.2.2.1.2.2.2.2.1
  exact va_gets K.1 K.2.1 hZ hS K.2.2.2.1 (K.word hw) (fun _ h9 => h9) hdg (kk t hT H locs ls hcs hP hD hS hl)
theorem v_ti (K : Cx p s m args meth c D E A own cc nL ret Ts) {t : Nat} {f : FN} (hT : va_T .int t 4 (fun j => .int (f j)) A s s.heap) {i : Int32} (hdg : decode cc pc = .ok (.iaload, 1)) (hin : vp_in i 4) (kk : VV p l e R s m args below meth c Q D A nL cs (pc + 1) (.int (f i.toNatClampNeg) :: st) (lv) (ws)) : VV p l e R s m args below meth c Q D A nL cs (pc) (.int i :: .ref t :: st) (lv) (ws) := fun H locs ls hcs hP hD hS hl => va_ti K.1 K.2.1 hT hS hin rfl hdg (kk H locs ls hcs hP hD hS hl)
theorem v_tlen (K : Cx p s m args meth c D E A own cc nL ret Ts) {t : Nat} {f : FN} (hT : va_T .int t 4 (fun j => .int (f j)) A s s.heap) (hdg : decode cc pc = .ok (.arraylength, 1)) (kk : VV p l e R s m args below meth c Q D A nL cs (pc + 1) (.int 4 :: st) (lv) (ws)) : VV p l e R s m args below meth c Q D A nL cs (pc) (.ref t :: st) (lv) (ws) := fun H locs ls hcs hP hD hS hl => va_tlen K.1 K.2.1 hT hS rfl hdg (kk H locs ls hcs hP hD hS hl)
theorem ne_toInt {x c : Int32} {z : Int} (hz : c.toInt = z) (h : ¬ x = c) : ¬ z = x.toInt := fun q => h (Int32.toInt_inj.mp (q.symm.trans hz.symm))
theorem b01 {P : Prop} {d : Decidable P} {x y : Int32} (hx : x = 0 ∨ x = 1) (hy : y = 0 ∨ y = 1) : (if P then x else y) = 0 ∨ (if P then x else y) = 1 := by
  by_cases h : P
  · rw [if_pos h]; exact hx
  · rw [if_neg h]; exact hy
theorem tso_1 {x : Int32} (h0 : ¬ x = 0) (h1 : ¬ x = 1) : x.toInt < 0 ∨ 1 < x.toInt := by
  have g0 := ne_toInt (z := 0) (by decide) h0
  have g1 := ne_toInt (z := 1) (by decide) h1
  omega
theorem tsi_1 {x : Int32} {j : Int32} (h : x = j) (hj : ¬ j.toInt < 0 ∧ ¬ 1 < j.toInt) : ¬ x.toInt < 0 ∧ ¬ 1 < x.toInt := by rw [h]; exact hj
theorem tso_2 {x : Int32} (h0 : ¬ x = 0) (h1 : ¬ x = 1) (h2 : ¬ x = 2) : x.toInt < 0 ∨ 2 < x.toInt := by
  have g0 := ne_toInt (z := 0) (by decide) h0
  have g1 := ne_toInt (z := 1) (by decide) h1
  have g2 := ne_toInt (z := 2) (by decide) h2
  omega
theorem tsi_2 {x : Int32} {j : Int32} (h : x = j) (hj : ¬ j.toInt < 0 ∧ ¬ 2 < j.toInt) : ¬ x.toInt < 0 ∧ ¬ 2 < x.toInt := by rw [h]; exact hj
theorem tso_6 {x : Int32} (h0 : ¬ x = 0) (h1 : ¬ x = 1) (h2 : ¬ x = 2) (h3 : ¬ x = 3) (h4 : ¬ x = 4) (h5 : ¬ x = 5) (h6 : ¬ x = 6) : x.toInt < 0 ∨ 6 < x.toInt := by
  have g0 := ne_toInt (z := 0) (by decide) h0
  have g1 := ne_toInt (z := 1) (by decide) h1
  have g2 := ne_toInt (z := 2) (by decide) h2
  have g3 := ne_toInt (z := 3) (by decide) h3
  have g4 := ne_toInt (z := 4) (by decide) h4
  have g5 := ne_toInt (z := 5) (by decide) h5
  have g6 := ne_toInt (z := 6) (by decide) h6
  omega
theorem tsi_6 {x : Int32} {j : Int32} (h : x = j) (hj : ¬ j.toInt < 0 ∧ ¬ 6 < j.toInt) : ¬ x.toInt < 0 ∧ ¬ 6 < x.toInt := by rw [h]; exact hj
theorem tso_8 {x : Int32} (h0 : ¬ x = 0) (h1 : ¬ x = 1) (h2 : ¬ x = 2) (h3 : ¬ x = 3) (h4 : ¬ x = 4) (h5 : ¬ x = 5) (h6 : ¬ x = 6) (h7 : ¬ x = 7) (h8 : ¬ x = 8) : x.toInt < 0 ∨ 8 < x.toInt := by
  have g0 := ne_toInt (z := 0) (by decide) h0
  have g1 := ne_toInt (z := 1) (by decide) h1
  have g2 := ne_toInt (z := 2) (by decide) h2
  have g3 := ne_toInt (z := 3) (by decide) h3
  have g4 := ne_toInt (z := 4) (by decide) h4
  have g5 := ne_toInt (z := 5) (by decide) h5
  have g6 := ne_toInt (z := 6) (by decide) h6
  have g7 := ne_toInt (z := 7) (by decide) h7
  have g8 := ne_toInt (z := 8) (by decide) h8
  omega
theorem tsi_8 {x : Int32} {j : Int32} (h : x = j) (hj : ¬ j.toInt < 0 ∧ ¬ 8 < j.toInt) : ¬ x.toInt < 0 ∧ ¬ 8 < x.toInt := by rw [h]; exact hj
theorem tso_12 {x : Int32} (h0 : ¬ x = 0) (h1 : ¬ x = 1) (h2 : ¬ x = 2) (h3 : ¬ x = 3) (h4 : ¬ x = 4) (h5 : ¬ x = 5) (h6 : ¬ x = 6) (h7 : ¬ x = 7) (h8 : ¬ x = 8) (h9 : ¬ x = 9) (h10 : ¬ x = 10) (h11 : ¬ x = 11) (h12 : ¬ x = 12) : x.toInt < 0 ∨ 12 < x.toInt := by
  have g0 := ne_toInt (z := 0) (by decide) h0
  have g1 := ne_toInt (z := 1) (by decide) h1
  have g2 := ne_toInt (z := 2) (by decide) h2
  have g3 := ne_toInt (z := 3) (by decide) h3
  have g4 := ne_toInt (z := 4) (by decide) h4
  have g5 := ne_toInt (z := 5) (by decide) h5
  have g6 := ne_toInt (z := 6) (by decide) h6
  have g7 := ne_toInt (z := 7) (by decide) h7
  have g8 := ne_toInt (z := 8) (by decide) h8
  have g9 := ne_toInt (z := 9) (by decide) h9
  have g10 := ne_toInt (z := 10) (by decide) h10
  have g11 := ne_toInt (z := 11) (by decide) h11
  have g12 := ne_toInt (z := 12) (by decide) h12
  omega
theorem tsi_12 {x : Int32} {j : Int32} (h : x = j) (hj : ¬ j.toInt < 0 ∧ ¬ 12 < j.toInt) : ¬ x.toInt < 0 ∧ ¬ 12 < x.toInt := by rw [h]; exact hj
theorem tso_22 {x : Int32} (h0 : ¬ x = 0) (h1 : ¬ x = 1) (h2 : ¬ x = 2) (h3 : ¬ x = 3) (h4 : ¬ x = 4) (h5 : ¬ x = 5) (h6 : ¬ x = 6) (h7 : ¬ x = 7) (h8 : ¬ x = 8) (h9 : ¬ x = 9) (h10 : ¬ x = 10) (h11 : ¬ x = 11) (h12 : ¬ x = 12) (h13 : ¬ x = 13) (h14 : ¬ x = 14) (h15 : ¬ x = 15) (h16 : ¬ x = 16) (h17 : ¬ x = 17) (h18 : ¬ x = 18) (h19 : ¬ x = 19) (h20 : ¬ x = 20) (h21 : ¬ x = 21) (h22 : ¬ x = 22) : x.toInt < 0 ∨ 22 < x.toInt := by
  have g0 := ne_toInt (z := 0) (by decide) h0
  have g1 := ne_toInt (z := 1) (by decide) h1
  have g2 := ne_toInt (z := 2) (by decide) h2
  have g3 := ne_toInt (z := 3) (by decide) h3
  have g4 := ne_toInt (z := 4) (by decide) h4
  have g5 := ne_toInt (z := 5) (by decide) h5
  have g6 := ne_toInt (z := 6) (by decide) h6
  have g7 := ne_toInt (z := 7) (by decide) h7
  have g8 := ne_toInt (z := 8) (by decide) h8
  have g9 := ne_toInt (z := 9) (by decide) h9
  have g10 := ne_toInt (z := 10) (by decide) h10
  have g11 := ne_toInt (z := 11) (by decide) h11
  have g12 := ne_toInt (z := 12) (by decide) h12
  have g13 := ne_toInt (z := 13) (by decide) h13
  have g14 := ne_toInt (z := 14) (by decide) h14
  have g15 := ne_toInt (z := 15) (by decide) h15
  have g16 := ne_toInt (z := 16) (by decide) h16
  have g17 := ne_toInt (z := 17) (by decide) h17
  have g18 := ne_toInt (z := 18) (by decide) h18
  have g19 := ne_toInt (z := 19) (by decide) h19
  have g20 := ne_toInt (z := 20) (by decide) h20
  have g21 := ne_toInt (z := 21) (by decide) h21
  have g22 := ne_toInt (z := 22) (by decide) h22
  omega
theorem tsi_22 {x : Int32} {j : Int32} (h : x = j) (hj : ¬ j.toInt < 0 ∧ ¬ 22 < j.toInt) : ¬ x.toInt < 0 ∧ ¬ 22 < x.toInt := by rw [h]; exact hj
theorem bz_nar {v : Int32} (h : v = 0 ∨ v = 1) : narrow .boolean (.int v) = .int v := by rcases h with rfl | rfl <;> rfl
theorem bz_fit {v : Int32} (h : v = 0 ∨ v = 1) : fits .boolean (.int v) = true := by rcases h with rfl | rfl <;> rfl
theorem g_zast (K : Cx p s m args meth c D E A own cc nL ret Ts) {G : Gs} {S S1 : St} {o k n : Nat} {i x : Int32} (hdg : decode cc pc = .ok (.bastore, 1)) (hm : (o, k) ∈ eW E) (hc : ∀ f, cel E o k f = .inl (eZ E, n, .inl f)) (hin : vp_in i n) (hx : vp_nar .boolean x = x) (hS1 : S1 = sp S k i.toNatClampNeg x) (kk : VV p l e R s m args below meth c Q D A nL cs (pc + 1) (st) (lv) (wl E (va_up G o S1))) : VV p l e R s m args below meth c Q D A nL cs (pc) (.int x :: .int i :: .ref (eA E o k) :: st) (lv) (wl E (va_up G o S)) := by
  subst hS1
  intro H locs ls hcs hP hD hS hl
  obtain ⟨q0, hq0⟩ := wl_at (va_up G o S) hm
  have hq1 := hq0
  rw [up_self, hc] at hq0
  refine va_zast K.1 K.2.1 K.2.2.2.2.2.2.1.1 hP hD hS q0 1 hq0 rfl hin hdg (fun H1 locs1 hP1 hD1 hS1 => ?_)
  have hset := wl_set (upd (S k) i.toNatClampNeg x) hD hm hq1
  rw [hc, up_self, up_up] at hset
  rw [hx, hset] at hP1 hD1
  exact kk H1 locs1 ls hcs hP1 hD1 hS1 hl
