variable {p : Program} {l : Launch} {e : Env} {R : Room} {s : State} {m : MethodId} {args : Array Value} {below : List Frame} {meth : Method} {c : Code} {Q : State → Prop} {D : va_G} {E : En} {A : Nat → Prop} {own : String} {cc : ByteArray} {nL : Nat} {ret : Option FieldType} {Ts : List Cond} {pc : Nat} {st : List Value} {lv lv' : List (Nat × Value)} {ws X : va_W} {cs : Nat × Nat}
/-! methods that make cells -/
def CPA (D : va_G) (E : En) (A : Nat → Prop) (ws0 : va_W) : State → Prop := fun U => KW D (eT E) A U ∧ va_AO RX3 U ∧ (∀ q, U.heap.size ≤ q → A q) ∧ va_P D vwCl ws0 U.heap ∧ va_D A ws0
def CQA (D : va_G) (A : Nat → Prop) (rv : Option Value) (B : va_W → Prop) : Array Value → State → Outcome → State → Prop := fun _ st oc t => (oc = .returned rv ∧ ∃ ws1, B ws1 ∧ va_P D vwCl ws1 t.heap ∧ va_D A ws1) ∧ va_F A st t
def CtrA (l : Launch) (D : va_G) (E : En) (A : Nat → Prop) (y : MethodName) (bytes : ByteArray) (maxL : Nat) (ret : Option FieldType) (rm : Room) (av : List Value) (ws0 : va_W) (rv : Option Value) (B : va_W → Prop) (mc ms : Nat) : Prop :=
  Met l y (.code y bytes maxL ret :: wsL_law) rm (va_Pc av (CPA D E A ws0)) (CQA D A rv B) mc ms A
theorem CtrA.of {y : MethodName} {bytes : ByteArray} {maxL : Nat} {rm : Room} {av : List Value} {ws0 : va_W} {rv : Option Value} {B : va_W → Prop} {mc ms : Nat} (hy : plainName y.cls = true) (ho : y.cls = own) (hsz : (lg_sl av).length ≤ maxL)
    (body : ∀ (p : Program) (e : Env) (s : State) (m : MethodId) (args : Array Value) (below : List Frame) (meth : Method) (c : Code), Cx p s m args meth c D E A own bytes maxL ret (.code y bytes maxL ret :: wsL_law) → va_AO RX3 s → (∀ q, s.heap.size ≤ q → A q) → meth.name = y.name → VV p l e rm s m args below meth c (MQ below (CQA D A rv B) args s mc ms A) D A maxL (0, 0) 0 [] (lv_args 0 av) ws0) : CtrA l D E A y bytes maxL ret rm av ws0 rv B mc ms := by
  refine Met.ofW (cc := bytes) (maxL := maxL) (ret := ret) hy rfl ?_
  intro p e s m args below meth c s₁ B0 hml hv
  obtain ⟨rfl, hK, hAO, hA, hP, hD⟩ := hv
  have hl := lv_entry av (n := maxL) hsz
  rw [lg_entry_eq]
  exact body p e s m _ below meth c ⟨B0.exec, B0.bytes, hml, ho ▸ findClass_of_methodNamed B0.named, atoms_spec B0.pre, fun _ h => List.mem_cons_of_mem _ h, hK, B0.returns, B0.notSynchronized⟩ hAO hA (name_of_methodNamed B0.named B0.method).1 s.heap [] _ ⟨Nat.zero_le _, Nat.zero_le _⟩ hP hD va_S.rf hl
theorem CPA.blind {ws0 : va_W} {av : List Value} : FrameBlind (va_Pc av (CPA D E A ws0)) := fun a U g mk h => ⟨h.1, h.2.1.blind, va_AO.moved (u := U) (U := U.calling g mk a) (Vm.Alike.refl U.vm) h.2.2.1, h.2.2.2.1, h.2.2.2.2⟩
theorem v_ws {ws' : va_W} (h : ws = ws') (k : VV p l e R s m args below meth c Q D A nL (cs) (pc) (st) (lv) (ws')) : VV p l e R s m args below meth c Q D A nL (cs) (pc) (st) (lv) (ws) := by subst h; exact k
theorem v_vretA (K : Cx p s m args meth c D E A own cc nL ret Ts) {B : va_W → Prop} {mc ms : Nat} {rv : Option Value} (hret : ret = none) (hdg : decode cc pc = .ok (.return_, 1)) (h1 : rv = none) (hB : B ws) (hc : cs.1 ≤ mc ∧ cs.2 ≤ ms) : VV p l e R s m args below meth c (MQ below (CQA D A rv B) args s mc ms A) D A nL cs pc [] lv ws := by
  subst h1
  intro H locs ls hcs hP hD hS hl
  exact W.widen hc.1 hc.2 (W.vret K.1 K.2.1 (by rw [K.2.2.2.2.2.2.2.1]; exact hret) (fun t ht hW => ⟨⟨rfl, ws, hB, by rw [ht]; exact hP, hD⟩, hS.F ht⟩) hS.2.2 hdg K.2.2.2.2.2.2.2.2)
theorem v_iretA (K : Cx p s m args meth c D E A own cc nL ret Ts) {B : va_W → Prop} {mc ms : Nat} {v : Int32} {rv : Option Value} (hret : ret = some .int) (hdg : decode cc pc = .ok (.ireturn, 1)) (h1 : rv = some (.int v)) (hB : B ws) (hc : cs.1 ≤ mc ∧ cs.2 ≤ ms) : VV p l e R s m args below meth c (MQ below (CQA D A rv B) args s mc ms A) D A nL cs pc [.int v] lv ws := by
  subst h1
  intro H locs ls hcs hP hD hS hl
  exact W.widen hc.1 hc.2 (W.iret (v := v) K.1 K.2.1 (by rw [K.2.2.2.2.2.2.2.1]; exact hret) (fun t ht hW => ⟨⟨rfl, ws, hB, by rw [ht]; exact hP, hD⟩, hS.F ht⟩) hS.2.2 hdg K.2.2.2.2.2.2.2.2)
theorem v_objInit (K : Cx p s m args meth c D E A own cc nL ret Ts) {idx a : Nat} (hw : Cond.methodLink own idx objectInit ∈ wsL_law) (hdg : decode cc pc = .ok (.invokespecial idx, 3)) (hcat : (st.map fun v => v.category).sum + 12 ≤ R.locals) (hfr : 1 ≤ R.frames) (kk : VV p l e R s m args below meth c Q D A nL (cs) (pc + 3) (st) (lv) (ws)) : VV p l e R s m args below meth c Q D A nL (cs) (pc) (.ref a :: st) (lv) (ws) := by
  intro H locs ls hcs hP hD hS hl
  refine W.objInit K.1 K.2.1 K.2.2.2.1 (K.word hw) (K.word im_bjectInit) (K.word co_bjectInit) rfl (by rw [K.2.2.1]; exact hl.1) rfl hdg hfr (by simpa [JFrame.monitorRoom] using hcat) ?_
  exact kk H locs ls hcs hP hD hS hl
/-- what 'new' of a class needs -/
def NWk (own : String) (index ci N : Nat) (fs : List Value) : Prop := ∃ (C : String) (T : u_T) (ty : Nat → FieldType), vwCl[ci]? = some (C, T, N) ∧ (∀ w ∈ u_ws C T N, w ∈ wsL_law) ∧ (∀ k, k < N → parseFieldDescriptor (T k).2.2.1 = some (ty k)) ∧ Cond.classLink own index C ∈ wsL_law ∧ Cond.instantiable C N ∈ wsL_law ∧ Cond.initialized C ∈ wsL_law ∧ ∀ j, j < N → defaultValue (ty j) = vp_V fs j
theorem v_new (K : Cx p s m args meth c D E A own cc nL ret Ts) {ci N index : Nat} {fs : List Value} (hA : ∀ q, s.heap.size ≤ q → A q) (F : NWk own index ci N fs) (hdg : decode cc pc = .ok (.new index, 3)) (hR : cs.1 + 1 ≤ R.cells ∧ cs.2 + N ≤ R.slots) (kk : ∀ q : Nat, VV p l e R s m args below meth c Q D A nL (cs.1 + 1, cs.2 + N) (pc + 3) (.ref q :: st) (lv) (ws ++ [(q, .inr (ci, fs))])) : VV p l e R s m args below meth c Q D A nL (cs) (pc) (st) (lv) (ws) := by
  intro H locs ls hcs hP hD hS hl
  obtain ⟨C, T, ty, g1, g2, g3, g4, g5, g6, g7⟩ := F
  exact va_new K.1 K.2.1 K.2.2.2.2.1 (fun w h => K.2.2.2.2.2.1 w (g2 w h)) ty g3 K.2.2.2.1 (K.word g4) (K.word g5) (K.word g6) K.2.2.2.2.2.2.1.1 hP hD hS hA g1 g7 hR.1 hR.2 hdg (fun q H1 hP1 hD1 hS1 => kk q H1 locs ls hR hP1 hD1 hS1 hl)
theorem eT_uniq {cA : ClassId} {ty : FieldType} {t0 : Nat} {c0 : ClassId} {U : State} (hK : va_K D vwCl (eT E) U) (h0 : (eT E)[t0]? = some (c0, ty)) (h1 : va_RA U cA ty) : cA = c0 := by
  have h2 := (hK.2 t0 _ h0).2
  cases ty with
  | object C =>
    obtain ⟨_, _, _, _, _, e1⟩ := h1
    obtain ⟨_, _, _, _, _, e2⟩ := h2
    exact Option.some.inj (e1.symm.trans e2)
  | _ => exact Option.some.inj ((show U.vm.findClass _ = some cA from h1).symm.trans (show U.vm.findClass _ = some c0 from h2))
theorem v_newi (K : Cx p s m args meth c D E A own cc nL ret Ts) {x : Int32} {n : Nat} (hA : ∀ q, s.heap.size ≤ q → A q) (hdg : decode cc pc = .ok (.newarray .int, 2)) (hx : ¬ x < 0) (hn : x.toNatClampNeg = n) (hb : n * 4 ≤ 536870912) (hR : cs.1 + 1 ≤ R.cells ∧ cs.2 + n ≤ R.slots) (kk : ∀ q : Nat, VV p l e R s m args below meth c Q D A nL (cs.1 + 1, cs.2 + n) (pc + 2) (.ref q :: st) (lv) (ws ++ [(q, .inl (eI E, n, .inl (fun _ => 0)))])) : VV p l e R s m args below meth c Q D A nL (cs) (pc) (.int x :: st) (lv) (ws) := by
  intro H locs ls hcs hP hD hS hl
  refine va_newa (atype := .int) (ty := .int) (a0 := (n, .inl (fun _ => 0))) K.1 K.2.1 (K.word ac_int) rfl K.2.2.2.2.2.2.1.1 hP hD hS hA (fun _ => rfl) hx hn (Nat.le_trans (Nat.mul_le_mul_left n (show componentBytes _ ≤ 4 by decide)) hb) hR.1 hR.2 hdg (fun q cA H1 hK1 hP1 hD1 hS1 => ?_)
  have he : cA = eI E := eT_uniq (t0 := 0) K.2.2.2.2.2.2.1.1 rfl ((hK1.2 3 (cA, .int) rfl).2)
  subst he
  exact kk q H1 locs ls hR hP1 hD1 hS1 hl
theorem v_newz (K : Cx p s m args meth c D E A own cc nL ret Ts) {x : Int32} {n : Nat} (hA : ∀ q, s.heap.size ≤ q → A q) (hdg : decode cc pc = .ok (.newarray .boolean, 2)) (hx : ¬ x < 0) (hn : x.toNatClampNeg = n) (hb : n * 4 ≤ 536870912) (hR : cs.1 + 1 ≤ R.cells ∧ cs.2 + n ≤ R.slots) (kk : ∀ q : Nat, VV p l e R s m args below meth c Q D A nL (cs.1 + 1, cs.2 + n) (pc + 2) (.ref q :: st) (lv) (ws ++ [(q, .inl (eZ E, n, .inl (fun _ => 0)))])) : VV p l e R s m args below meth c Q D A nL (cs) (pc) (.int x :: st) (lv) (ws) := by
  intro H locs ls hcs hP hD hS hl
  refine va_newa (atype := .boolean) (ty := .boolean) (a0 := (n, .inl (fun _ => 0))) K.1 K.2.1 (K.word ac_boolean) rfl K.2.2.2.2.2.2.1.1 hP hD hS hA (fun _ => rfl) hx hn (Nat.le_trans (Nat.mul_le_mul_left n (show componentBytes _ ≤ 4 by decide)) hb) hR.1 hR.2 hdg (fun q cA H1 hK1 hP1 hD1 hS1 => ?_)
  have he : cA = eZ E := eT_uniq (t0 := 1) K.2.2.2.2.2.2.1.1 rfl ((hK1.2 3 (cA, .boolean) rfl).2)
  subst he
  exact kk q H1 locs ls hR hP1 hD1 hS1 hl
theorem v_newq (K : Cx p s m args meth c D E A own cc nL ret Ts) {x : Int32} {n index : Nat} (hO : va_AO RX3 s) (hA : ∀ q, s.heap.size ≤ q → A q) (hw : Cond.classLink own index RX3 ∈ wsL_law) (hdg : decode cc pc = .ok (.anewarray index, 3)) (hx : ¬ x < 0) (hn : x.toNatClampNeg = n) (hb : n * 4 ≤ 536870912) (hR : cs.1 + 1 ≤ R.cells ∧ cs.2 + n ≤ R.slots) (kk : ∀ q : Nat, VV p l e R s m args below meth c Q D A nL (cs.1 + 1, cs.2 + n) (pc + 3) (.ref q :: st) (lv) (ws ++ [(q, .inl (eL E, n, .inr (.inr (.inr (.inr (fun _ => none))))))])) : VV p l e R s m args below meth c Q D A nL (cs) (pc) (.int x :: st) (lv) (ws) := by
  intro H locs ls hcs hP hD hS hl
  refine va_newq K.1 K.2.1 K.2.2.2.1 (K.word hw) hO K.2.2.2.2.2.2.1.1 hP hD hS hA hx hn hb hR.1 hR.2 hdg (fun q cA H1 hK1 hP1 hD1 hS1 => ?_)
  have he : cA = eL E := eT_uniq (t0 := 2) K.2.2.2.2.2.2.1.1 rfl ((hK1.2 3 (cA, .object RX3) rfl).2)
  subst he
  exact kk q H1 locs ls hR hP1 hD1 hS1 hl
/-- a final field's link in a constructor -/
def FLf (own : String) (index ci j : Nat) (ty : FieldType) : Prop := ∃ (C : String) (T : u_T) (N : Nat) (ref : String) (tys : Nat → FieldType), vwCl[ci]? = some (C, T, N) ∧ (∀ w ∈ u_ws C T N, w ∈ wsL_law) ∧ j < N ∧ Cond.fieldLink own index ref (T j).2.1 (T j).2.2.1 ∈ wsL_law ∧ ref = (T j).1 ∧ (∀ k, k < N → parseFieldDescriptor (T k).2.2.1 = some (tys k)) ∧ (∀ a, a < N → ∀ b, b < N → a ≠ b → (T a).2.1 ≠ (T b).2.1) ∧ (T j).2.2.2 = true ∧ (T j).1 = own ∧ parseFieldDescriptor (T j).2.2.1 = some ty
theorem v_putF (K : Cx p s m args meth c D E A own cc nL ret Ts) {q0 a ci j index : Nat} {fs : List Value} {v : Value} {ty : FieldType} {ws1 : va_W} (hin : meth.name = "<init>") (F : FLf own index ci j ty) (hdg : decode cc pc = .ok (.putfield index, 3)) (he : ws[q0]? = some (a, .inr (ci, fs))) (hl0 : j < fs.length) (hn : narrow ty v = v) (hfit : fits ty v = true) (hset : ws.set q0 (a, .inr (ci, fs.set j v)) = ws1) (kk : VV p l e R s m args below meth c Q D A nL (cs) (pc + 3) (st) (lv) (ws1)) : VV p l e R s m args below meth c Q D A nL (cs) (pc) (v :: .ref a :: st) (lv) (ws) := by
  intro H locs ls hcs hP hD hS hl
  obtain ⟨C, T, N, ref, tys, g1, g2, g3, g4, rfl, g6, g7, g8, g10, g9⟩ := F
  refine va_putF K.1 K.2.1 K.2.2.2.2.1 (fun w h => K.2.2.2.2.2.1 w (g2 w h)) tys g6 g7 K.2.2.2.1 K.2.2.2.2.2.2.1.1 hP hD hS q0 he g1 j g3 (K.word g4) (fun _ h9 => h9) g8 hin g10 g9 hn hfit hl0 hdg (fun H1 locs1 hP1 hD1 hS1 => ?_)
  rw [hset] at hP1 hD1
  exact kk H1 locs1 ls hcs hP1 hD1 hS1 hl
theorem v_getP (K : Cx p s m args meth c D E A own cc nL ret Ts) {q0 a ci j index : Nat} {fs : List Value} {v : Value} (F : FLk own index ci j) (hdg : decode cc pc = .ok (.getfield index, 3)) (he : ws[q0]? = some (a, .inr (ci, fs))) (hv : fs[j]? = some v) (kk : VV p l e R s m args below meth c Q D A nL (cs) (pc + 3) (v :: st) (lv) (ws)) : VV p l e R s m args below meth c Q D A nL (cs) (pc) (.ref a :: st) (lv) (ws) := by
  intro H locs ls hcs hP hD hS hl
  obtain ⟨C, T, N, ref, g1, g2, g3, g4, rfl⟩ := F
  exact va_get K.1 K.2.1 K.2.2.2.2.1 (fun w h => K.2.2.2.2.2.1 w (g2 w h)) K.2.2.2.1 K.2.2.2.2.2.2.1.1 hP q0 he g1 j g3 (K.word g4) (fun _ h9 => h9) hv hdg (kk H locs ls hcs hP hD hS hl)
theorem v_alenP (K : Cx p s m args meth c D E A own cc nL ret Ts) {q0 a n : Nat} {f : FN} {v : Int32} (hdg : decode cc pc = .ok (.arraylength, 1)) (he : ws[q0]? = some (a, .inl (eI E, n, .inl f))) (hv : Int32.ofNat n = v) (kk : VV p l e R s m args below meth c Q D A nL (cs) (pc + 1) (.int v :: st) (lv) (ws)) : VV p l e R s m args below meth c Q D A nL (cs) (pc) (.ref a :: st) (lv) (ws) := by
  intro H locs ls hcs hP hD hS hl
  exact va_alen K.1 K.2.1 K.2.2.2.2.2.2.1.1 hP q0 0 he rfl hv hdg (kk H locs ls hcs hP hD hS hl)
theorem v_alenqP (K : Cx p s m args meth c D E A own cc nL ret Ts) {q0 a n : Nat} {f : Nat → Option Nat} {v : Int32} (hdg : decode cc pc = .ok (.arraylength, 1)) (he : ws[q0]? = some (a, .inl (eL E, n, .inr (.inr (.inr (.inr f)))))) (hv : Int32.ofNat n = v) (kk : VV p l e R s m args below meth c Q D A nL (cs) (pc + 1) (.int v :: st) (lv) (ws)) : VV p l e R s m args below meth c Q D A nL (cs) (pc) (.ref a :: st) (lv) (ws) := by
  intro H locs ls hcs hP hD hS hl
  exact va_alen K.1 K.2.1 K.2.2.2.2.2.2.1.1 hP q0 2 he rfl hv hdg (kk H locs ls hcs hP hD hS hl)
theorem v_iastP (K : Cx p s m args meth c D E A own cc nL ret Ts) {q0 a n : Nat} {f : FN} {i x : Int32} {ws1 : va_W} (hdg : decode cc pc = .ok (.iastore, 1)) (he : ws[q0]? = some (a, .inl (eI E, n, .inl f))) (hin : vp_in i n) (hset : ws.set q0 (a, .inl (eI E, n, .inl (upd f i.toNatClampNeg x))) = ws1) (kk : VV p l e R s m args below meth c Q D A nL (cs) (pc + 1) (st) (lv) (ws1)) : VV p l e R s m args below meth c Q D A nL (cs) (pc) (.int x :: .int i :: .ref a :: st) (lv) (ws) := by
  intro H locs ls hcs hP hD hS hl
  refine va_iast K.1 K.2.1 K.2.2.2.2.2.2.1.1 hP hD hS q0 0 he rfl hin hdg (fun H1 locs1 hP1 hD1 hS1 => ?_)
  rw [hset] at hP1 hD1
  exact kk H1 locs1 ls hcs hP1 hD1 hS1 hl
theorem v_astqP (K : Cx p s m args meth c D E A own cc nL ret Ts) {q0 qk a b ci n : Nat} {vs : List Value} {r : vw_C} {f : Nat → Option Nat} {i : Int32} {ws1 : va_W} (hdg : decode cc pc = .ok (.aastore, 1)) (he : ws[q0]? = some (a, .inl (eL E, n, .inr (.inr (.inr (.inr f)))))) (hv : ws[qk]? = some (b, .inr (ci, vs))) (hci : vwCl[ci]? = some r) (hr : r.1 = RX3) (hin : vp_in i n) (hset : ws.set q0 (a, .inl (eL E, n, .inr (.inr (.inr (.inr (va_up f i.toNatClampNeg (some b))))))) = ws1) (kk : VV p l e R s m args below meth c Q D A nL (cs) (pc + 1) (st) (lv) (ws1)) : VV p l e R s m args below meth c Q D A nL (cs) (pc) (.ref b :: .int i :: .ref a :: st) (lv) (ws) := by
  intro H locs ls hcs hP hD hS hl
  refine va_astq K.1 K.2.1 K.2.2.2.2.2.2.1.1 hP hD hS q0 2 qk ci (r := r) he (by rw [hr]; rfl) hv hci hin hdg (fun H1 locs1 hP1 hD1 hS1 => ?_)
  rw [hset] at hP1 hD1
  exact kk H1 locs1 ls hcs hP1 hD1 hS1 hl
theorem v_getPN (K : Cx p s m args meth c D E A own cc nL ret Ts) {q0 a ci j index : Nat} {fs : List Value} {v : Value} (F : FLn own index ci j) (hdg : decode cc pc = .ok (.getfield index, 3)) (he : ws[q0]? = some (a, .inr (ci, fs))) (hv : fs[j]? = some v) (kk : VV p l e R s m args below meth c Q D A nL (cs) (pc + 3) (v :: st) (lv) (ws)) : VV p l e R s m args below meth c Q D A nL (cs) (pc) (.ref a :: st) (lv) (ws) := by
  intro H locs ls hcs hP hD hS hl
  obtain ⟨C, T, N, ref, host, g1, g2, g3, g4, rfl⟩ := F
  exact va_getN K.1 K.2.1 K.2.2.2.2.1 (fun w h => K.2.2.2.2.2.1 w (g2 w h)) K.2.2.2.1 K.2.2.2.2.2.2.1.1 hP q0 he g1 j g3 (va_Nw.use rfl (K.2.2.2.2.2.2.1.2.1 _ g4)) (fun _ h9 => h9) hv hdg (kk H locs ls hcs hP hD hS hl)
theorem v_runA (K : Cx p s m args meth c D E A own cc nL ret Ts) {rest st0 : List Value} {rv : Option Value} {B : va_W → Prop} {mc ms : Nat} (a : Array Value) (hR : cs.1 + mc ≤ R.cells ∧ cs.2 + ms ≤ R.slots)
    (hr : ∀ (H : Heap) (locs : List Loc) (ls : Array Slot), cs.1 ≤ R.cells ∧ cs.2 ≤ R.slots → va_P D vwCl ws H → va_D A ws → va_S A s.heap H locs → lv_has ls nL lv → va_Run p l e R s m args below meth c H locs cs.1 cs.2 mc ms (F0 m pc ls st0) rest (CQA D A rv B a) A)
    (kk : ∀ ws1, B ws1 → VV p l e R s m args below meth c Q D A nL (cs.1 + mc, cs.2 + ms) (pc + 3) (rv.toList ++ rest) (lv) (ws1)) : VV p l e R s m args below meth c Q D A nL (cs) (pc) (st0) (lv) (ws) := by
  intro H locs ls hcs hP hD hS hl T hT X
  obtain ⟨v, st₀, t, T', L, h0, X', hL, e1, e2, ⟨⟨hv, ws1, hB, hP1, hD1⟩, hz, hk⟩, stp⟩ := hr H locs ls hcs hP hD hS hl T hT X
  cases hv
  rw [h0] at hz hk
  obtain ⟨t2, a1, b1⟩ := kk ws1 hB T'.heap (locs ++ L) ls hR (by rw [e1]; exact hP1) hD1
    ⟨Nat.le_trans hS.1 (by rw [e1]; exact hz), fun q h1 h2 => by rw [e1, hk q (Nat.lt_of_lt_of_le h1 hS.1) h2]; exact hS.2.1 q h1 h2, fun q hq => by
      rcases List.mem_append.mp hq with h | h
      · exact hS.2.2 q h
      · exact hL q h⟩ hl T' rfl X'
  exact ⟨t2, stp t2 a1, b1⟩
def MIk (own : String) (index : Nat) (y : MethodName) (bytes : ByteArray) (maxL : Nat) (n : Nat) : Prop := Cond.methodLink own index y ∈ wsL_law ∧ Cond.instanceMethod y ∈ wsL_law ∧ Cond.initialized y.cls ∈ wsL_law ∧ Cond.code y bytes maxL none ∈ wsL_law ∧ y.name = "<init>" ∧ (y.cls ≠ "java/lang/invoke/MethodHandle" ∧ y.cls ≠ "java/lang/invoke/VarHandle" ∧ (parseMethodDescriptor y.desc).map (fun d => d.parameters.length) = some n)
def MInk (own : String) (index : Nat) (y : MethodName) (bytes : ByteArray) (maxL : Nat) (n : Nat) : Prop := (∃ host, (own, index, y, host) ∈ nM) ∧ Cond.instanceMethod y ∈ wsL_law ∧ Cond.initialized y.cls ∈ wsL_law ∧ Cond.code y bytes maxL none ∈ wsL_law ∧ y.name = "<init>" ∧ (y.cls ≠ "java/lang/invoke/MethodHandle" ∧ y.cls ≠ "java/lang/invoke/VarHandle" ∧ (parseMethodDescriptor y.desc).map (fun d => d.parameters.length) = some n)
theorem v_callI (K : Cx p s m args meth c D E A own cc nL ret Ts) {y : MethodName} {bytes : ByteArray} {maxL : Nat} {d lo : Nat} {As rest st0 : List Value} {ws0 : va_W} {B : va_W → Prop} {b n index mc ms : Nat} (hO : va_AO RX3 s) (hA : ∀ q, s.heap.size ≤ q → A q)
    (M : MIk own index y bytes maxL n) (hdg : decode cc pc = .ok (.invokespecial index, 3)) (hM : CtrA l D E A y bytes maxL none ({ frames := d, cells := mc, slots := ms, locals := lo } : Room) (.ref b :: As) ws0 none B mc ms) (hw : ws = ws0)
    (hst : st0 = As.reverse ++ .ref b :: rest) (hn : As.length = n) (hcat : (rest.map fun v => v.category).sum ≤ 8) (hRm : d + 1 ≤ R.frames ∧ 8 + (maxL + 11) + lo ≤ R.locals) (hR : cs.1 + mc ≤ R.cells ∧ cs.2 + ms ≤ R.slots)
    (kk : ∀ ws1, B ws1 → VV p l e R s m args below meth c Q D A nL (cs.1 + mc, cs.2 + ms) (pc + 3) (rest) (lv) (ws1)) : VV p l e R s m args below meth c Q D A nL (cs) (pc) (st0) (lv) (ws) := by
  subst hst
  subst hw
  obtain ⟨m1, m2, m4, m5, m0, m6, m7, m8⟩ := M
  refine v_runA (rv := none) K (Value.ref b :: As).toArray hR (fun H locs ls hcs hP hD hS hl => ?_) kk
  exact va_runI (As := As) (rest := rest) (n := n) ⟨K.1, K.2.1, K.2.2.1, K.2.2.2.1, K.2.2.2.2.1⟩ hM
    ⟨callB_of n K.2.2.2.2.1 (K.goodCode m5) rfl rfl rfl (K.word m4) (K.word m1) ⟨m6, m7, m8⟩ hRm, m0, K.word m2⟩
    ⟨CPA.blind, fun U hU hW => ⟨rfl, K.2.2.2.2.2.2.1.go hS hU hW, hO.moved hW.alike, fun q hq => hA q (Nat.le_trans hS.1 (by rw [← hU]; exact hq)), by rw [hU]; exact hP, hD⟩⟩ rfl hn hl.1 rfl (lv_room hcat) hdg hR
theorem v_callIN (K : Cx p s m args meth c D E A own cc nL ret Ts) {y : MethodName} {bytes : ByteArray} {maxL : Nat} {d lo : Nat} {As rest st0 : List Value} {ws0 : va_W} {B : va_W → Prop} {b n index mc ms : Nat} (hO : va_AO RX3 s) (hA : ∀ q, s.heap.size ≤ q → A q)
    (M : MInk own index y bytes maxL n) (hdg : decode cc pc = .ok (.invokespecial index, 3)) (hM : CtrA l D E A y bytes maxL none ({ frames := d, cells := mc, slots := ms, locals := lo } : Room) (.ref b :: As) ws0 none B mc ms) (hw : ws = ws0)
    (hst : st0 = As.reverse ++ .ref b :: rest) (hn : As.length = n) (hcat : (rest.map fun v => v.category).sum ≤ 8) (hRm : d + 1 ≤ R.frames ∧ 8 + (maxL + 11) + lo ≤ R.locals) (hR : cs.1 + mc ≤ R.cells ∧ cs.2 + ms ≤ R.slots)
    (kk : ∀ ws1, B ws1 → VV p l e R s m args below meth c Q D A nL (cs.1 + mc, cs.2 + ms) (pc + 3) (rest) (lv) (ws1)) : VV p l e R s m args below meth c Q D A nL (cs) (pc) (st0) (lv) (ws) := by
  subst hst
  subst hw
  obtain ⟨⟨host, m1⟩, m2, m4, m5, m0, m6, m7, m8⟩ := M
  refine v_runA (rv := none) K (Value.ref b :: As).toArray hR (fun H locs ls hcs hP hD hS hl => ?_) kk
  exact va_runIN (As := As) (rest := rest) (n := n) ⟨K.1, K.2.1, K.2.2.1, K.2.2.2.1, K.2.2.2.2.1⟩ hM
    ⟨va_cnB n K.2.2.2.2.1 (K.goodCode m5) rfl rfl rfl (K.2.2.2.2.2.2.1.2.2.1 _ m1) (K.word m4) ⟨m6, m7, m8⟩ hRm, m0, K.word m2⟩
    ⟨CPA.blind, fun U hU hW => ⟨rfl, K.2.2.2.2.2.2.1.go hS hU hW, hO.moved hW.alike, fun q hq => hA q (Nat.le_trans hS.1 (by rw [← hU]; exact hq)), by rw [hU]; exact hP, hD⟩⟩ rfl hn hl.1 rfl (lv_room hcat) hdg hR
theorem at_X (X Y : va_W) (i : Nat) : (X ++ Y)[X.length + i]? = Y[i]? := by
  rw [List.getElem?_append_right (by omega)]
  congr 1
  omega
theorem set_X (X Y : va_W) (i : Nat) (q : Nat × va_E) : (X ++ Y).set (X.length + i) q = X ++ Y.set i q := by
  rw [List.set_append_right _ _ (by omega)]
  congr 2
  omega
theorem at_RR (X Y Z : va_W) (i : Nat) : (X ++ (Y ++ Z))[X.length + (Y.length + i)]? = Z[i]? := by rw [at_X, at_X]
theorem at_L {X Y : va_W} {i : Nat} {q : Nat × va_E} (h : X[i]? = some q) : (X ++ Y)[i]? = some q := by
  rw [List.getElem?_append_left (List.getElem?_eq_some_iff.mp h).1]
  exact h
theorem set_L {X Y : va_W} {i : Nat} {q0 q : Nat × va_E} (h : X[i]? = some q0) : (X ++ Y).set i q = X.set i q ++ Y := List.set_append_left _ _ (List.getElem?_eq_some_iff.mp h).1
