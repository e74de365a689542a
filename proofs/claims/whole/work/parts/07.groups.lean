variable {p : Program} {l : Launch} {e : Env} {R : Room} {s : State} {m : MethodId} {args : Array Value} {below : List Frame} {meth : Method} {c : Code} {Q : State → Prop} {D : va_G} {E : En} {A : Nat → Prop} {own : String} {cc : ByteArray} {nL : Nat} {ret : Option FieldType} {Ts : List Cond} {pc : Nat} {st : List Value} {lv lv' : List (Nat × Value)} {ws : va_W} {cs : Nat × Nat}
/-! one cell's one slot is written -/
def sp (S : St) (k j : Nat) (x : Int32) : St := va_up S k (upd (S k) j x)
theorem sp_eq (S : St) (k j : Nat) (x : Int32) : va_up S k (upd (S k) j x) = sp S k j x := rfl
theorem v_lv (h : lv = lv') (k : VV p l e R s m args below meth c Q D A nL cs (pc) (st) (lv') (ws)) : VV p l e R s m args below meth c Q D A nL cs (pc) (st) (lv) (ws) := by subst h; exact k
theorem v_lsub (ks : List Nat) (h : lv_pick lv ks = lv') (k : VV p l e R s m args below meth c Q D A nL cs (pc) (st) (lv') (ws)) : VV p l e R s m args below meth c Q D A nL cs (pc) (st) (lv) (ws) := fun H locs ls hcs hP hD hS hl => k H locs ls hcs hP hD hS (lv_sub hl ks h)
theorem g_get (K : Cx p s m args meth c D E A own cc nL ret Ts) {G : Gs} {S : St} {o k ci j index : Nat} {fs : List Value} {v : Value} (F : FLk own index ci j) (hdg : decode cc pc = .ok (.getfield index, 3)) (hm : (o, k) ∈ eW E) (hc : cel E o k (S k) = .inr (ci, fs)) (hv : fs[j]? = some v) (kk : VV p l e R s m args below meth c Q D A nL cs (pc + 3) (v :: st) (lv) (wl E (va_up G o S))) : VV p l e R s m args below meth c Q D A nL cs (pc) (.ref (eA E o k) :: st) (lv) (wl E (va_up G o S)) :=
  v_get K F hdg hm (by rw [up_self]; exact hc) hv kk
theorem g_getN (K : Cx p s m args meth c D E A own cc nL ret Ts) {G : Gs} {S : St} {o k ci j index : Nat} {fs : List Value} {v : Value} (F : FLn own index ci j) (hdg : decode cc pc = .ok (.getfield index, 3)) (hm : (o, k) ∈ eW E) (hc : cel E o k (S k) = .inr (ci, fs)) (hv : fs[j]? = some v) (kk : VV p l e R s m args below meth c Q D A nL cs (pc + 3) (v :: st) (lv) (wl E (va_up G o S))) : VV p l e R s m args below meth c Q D A nL cs (pc) (.ref (eA E o k) :: st) (lv) (wl E (va_up G o S)) :=
  v_getN K F hdg hm (by rw [up_self]; exact hc) hv kk
theorem g_put (K : Cx p s m args meth c D E A own cc nL ret Ts) {G : Gs} {S S1 : St} {o k ci j index : Nat} {fs : List Value} {x : Int32} {ty : FieldType} (F : FLp own index ci j ty) (hdg : decode cc pc = .ok (.putfield index, 3)) (hm : (o, k) ∈ eW E) (hc : cel E o k (S k) = .inr (ci, fs)) (i : Nat) (hl0 : j < fs.length) (hf' : cel E o k (upd (S k) i x) = .inr (ci, fs.set j (.int x))) (hn : narrow ty (.int x) = .int x) (hfit : fits ty (.int x) = true) (hS1 : S1 = sp S k i x) (kk : VV p l e R s m args below meth c Q D A nL cs (pc + 3) (st) (lv) (wl E (va_up G o S1))) : VV p l e R s m args below meth c Q D A nL cs (pc) (.int x :: .ref (eA E o k) :: st) (lv) (wl E (va_up G o S)) := by
  subst hS1
  refine v_put K (upd (S k) i x) F hdg hm (by rw [up_self]; exact hc) hl0 hf' hn hfit ?_
  rw [up_self, up_up]
  exact kk
theorem g_putN (K : Cx p s m args meth c D E A own cc nL ret Ts) {G : Gs} {S S1 : St} {o k ci j index : Nat} {fs : List Value} {x : Int32} {ty : FieldType} (F : FLq own index ci j ty) (hdg : decode cc pc = .ok (.putfield index, 3)) (hm : (o, k) ∈ eW E) (hc : cel E o k (S k) = .inr (ci, fs)) (i : Nat) (hl0 : j < fs.length) (hf' : cel E o k (upd (S k) i x) = .inr (ci, fs.set j (.int x))) (hn : narrow ty (.int x) = .int x) (hfit : fits ty (.int x) = true) (hS1 : S1 = sp S k i x) (kk : VV p l e R s m args below meth c Q D A nL cs (pc + 3) (st) (lv) (wl E (va_up G o S1))) : VV p l e R s m args below meth c Q D A nL cs (pc) (.int x :: .ref (eA E o k) :: st) (lv) (wl E (va_up G o S)) := by
  subst hS1
  refine v_putN K (upd (S k) i x) F hdg hm (by rw [up_self]; exact hc) hl0 hf' hn hfit ?_
  rw [up_self, up_up]
  exact kk
theorem g_iald (K : Cx p s m args meth c D E A own cc nL ret Ts) {G : Gs} {S : St} {o k n : Nat} {i : Int32} (hdg : decode cc pc = .ok (.iaload, 1)) (hm : (o, k) ∈ eW E) (hc : cel E o k (S k) = .inl (eI E, n, .inl (S k))) (hin : vp_in i n) (kk : VV p l e R s m args below meth c Q D A nL cs (pc + 1) (.int (S k i.toNatClampNeg) :: st) (lv) (wl E (va_up G o S))) : VV p l e R s m args below meth c Q D A nL cs (pc) (.int i :: .ref (eA E o k) :: st) (lv) (wl E (va_up G o S)) :=
  v_iald K hdg hm (by rw [up_self]; exact hc) hin kk
theorem g_zald (K : Cx p s m args meth c D E A own cc nL ret Ts) {G : Gs} {S : St} {o k n : Nat} {i : Int32} (hdg : decode cc pc = .ok (.baload, 1)) (hm : (o, k) ∈ eW E) (hc : cel E o k (S k) = .inl (eZ E, n, .inl (S k))) (hin : vp_in i n) (kk : VV p l e R s m args below meth c Q D A nL cs (pc + 1) (.int (S k i.toNatClampNeg) :: st) (lv) (wl E (va_up G o S))) : VV p l e R s m args below meth c Q D A nL cs (pc) (.int i :: .ref (eA E o k) :: st) (lv) (wl E (va_up G o S)) :=
  v_zald K hdg hm (by rw [up_self]; exact hc) hin kk
theorem g_iast (K : Cx p s m args meth c D E A own cc nL ret Ts) {G : Gs} {S S1 : St} {o k n : Nat} {i x : Int32} (hdg : decode cc pc = .ok (.iastore, 1)) (hm : (o, k) ∈ eW E) (hc : ∀ f, cel E o k f = .inl (eI E, n, .inl f)) (hin : vp_in i n) (hS1 : S1 = sp S k i.toNatClampNeg x) (kk : VV p l e R s m args below meth c Q D A nL cs (pc + 1) (st) (lv) (wl E (va_up G o S1))) : VV p l e R s m args below meth c Q D A nL cs (pc) (.int x :: .int i :: .ref (eA E o k) :: st) (lv) (wl E (va_up G o S)) := by
  subst hS1
  refine v_iast K hdg hm (by rw [up_self]; exact hc (S k)) hin (hc _) ?_
  rw [up_self, up_up]
  exact kk
theorem g_alen (K : Cx p s m args meth c D E A own cc nL ret Ts) {G : Gs} {S : St} {o k n : Nat} {v : Int32} (hdg : decode cc pc = .ok (.arraylength, 1)) (hm : (o, k) ∈ eW E) (hc : ∀ f, cel E o k f = .inl (eI E, n, .inl f)) (hv : Int32.ofNat n = v) (kk : VV p l e R s m args below meth c Q D A nL cs (pc + 1) (.int v :: st) (lv) (wl E (va_up G o S))) : VV p l e R s m args below meth c Q D A nL cs (pc) (.ref (eA E o k) :: st) (lv) (wl E (va_up G o S)) :=
  v_alen K hdg hm (hc _) hv kk
theorem v_callW (K : Cx p s m args meth c D E A own cc nL ret Ts) {y : MethodName} {bytes : ByteArray} {maxL : Nat} {rt : Option FieldType} {rm : Room} {As rest st0 : List Value} {G : Gs} {ws1 : va_W} {rv : Option Value} {o k n index ci : Nat} {fs : List Value} {r : vw_C}
    (M : MLk own index y bytes maxL rt n) (hdg : decode cc pc = .ok (.invokevirtual index, 3)) (hM : Ctr l D E A y bytes maxL rt rm (.ref (eA E o k) :: As) (wl E G) rv ws1) (hm : (o, k) ∈ eW E) (hc : cel E o k (G o k) = .inr (ci, fs)) (hci : vwCl[ci]? = some r) (hrc : r.1 = y.cls)
    (hst : st0 = As.reverse ++ .ref (eA E o k) :: rest) (hn : As.length = n) (hcat : (rest.map fun v => v.category).sum ≤ 8) (hr0 : rm.cells = 0 ∧ rm.slots = 0) (hR : rm.frames + 1 ≤ R.frames ∧ 8 + (maxL + 11) + rm.locals ≤ R.locals)
    (kk : VV p l e R s m args below meth c Q D A nL cs (pc + 3) (rv.toList ++ rest) (lv) (ws1)) : VV p l e R s m args below meth c Q D A nL cs (pc) (st0) (lv) (wl E G) := by
  obtain ⟨q0, hq0⟩ := wl_at G hm
  rw [hc] at hq0
  exact v_callV K M hdg hM hq0 hci hrc hst hn hcat hr0 hR kk
theorem Ctr.gid {y : MethodName} {bytes : ByteArray} {maxL : Nat} {rt : Option FieldType} {rm : Room} {av : List Value} {G : Gs} {o : Nat} {rv : Option Value} {ws1 : va_W} (h : Ctr l D E A y bytes maxL rt rm av (wl E (va_up G o (G o))) rv ws1) : Ctr l D E A y bytes maxL rt rm av (wl E G) rv ws1 := by
  rw [up_id] at h
  exact h
theorem Ctr.gidr {y : MethodName} {bytes : ByteArray} {maxL : Nat} {rt : Option FieldType} {rm : Room} {av : List Value} {G : Gs} {o : Nat} {rv : Option Value} (h : Ctr l D E A y bytes maxL rt rm av (wl E (va_up G o (G o))) rv (wl E (va_up G o (G o)))) : Ctr l D E A y bytes maxL rt rm av (wl E G) rv (wl E G) := by
  rw [up_id] at h
  exact h
/-! a pure function's steps -/
def jn {κ β : Type} (body : κ → β) (k : κ) : β := body k
def bnd {α β : Type} (x : α) (k : α → β) : β := k x
def bnp {α σ β : Type} (q : α × σ) (k : α → σ → β) : β := k q.1 q.2
def bd {α β : Type} (x : Option α) (k : α → Option β) : Option β := match x with | none => none | some a => k a
def bdp {α σ β : Type} (x : Option (α × σ)) (k : α → σ → Option β) : Option β := match x with | none => none | some q => k q.1 q.2
def ix {β : Type} (i : Int32) (n : Nat) (k : Option β) : Option β := if i < 0 ∨ n ≤ i.toNatClampNeg then none else k
def nz {β : Type} (y : Int32) (k : Option β) : Option β := if y = 0 then none else k
theorem bnd_el {α β : Type} {x : α} {k : α → β} {r : β} (h : bnd x k = r) : ∃ y, y = x ∧ k y = r := ⟨x, rfl, h⟩
theorem bnp_el {α σ β : Type} {q : α × σ} {k : α → σ → β} {r : β} (h : bnp q k = r) : ∃ x y, q = (x, y) ∧ k x y = r := ⟨q.1, q.2, rfl, h⟩
theorem bd_el {α β : Type} {x : Option α} {k : α → Option β} {r : β} (h : bd x k = some r) : ∃ y, x = some y ∧ k y = some r := by
  cases x with
  | none => cases h
  | some y => exact ⟨y, rfl, h⟩
theorem bdp_el {α σ β : Type} {x : Option (α × σ)} {k : α → σ → Option β} {r : β} (h : bdp x k = some r) : ∃ y z, x = some (y, z) ∧ k y z = some r := by
  cases x with
  | none => cases h
  | some q => exact ⟨q.1, q.2, rfl, h⟩
theorem ix_el {β : Type} {i : Int32} {n : Nat} {k : Option β} {r : β} (h : ix i n k = some r) : vp_in i n ∧ k = some r := by
  unfold ix at h
  split at h
  · cases h
  · rename_i h1
    exact ⟨h1, h⟩
theorem nz_el {β : Type} {y : Int32} {k : Option β} {r : β} (h : nz y k = some r) : ¬ y = 0 ∧ k = some r := by
  unfold nz at h
  split at h
  · cases h
  · rename_i h1
    exact ⟨h1, h⟩
theorem it_pos {P : Prop} {d : Decidable P} {β : Type} {x y r : β} (hc : P) (h : (if P then x else y) = r) : x = r := by rw [if_pos hc] at h; exact h
theorem it_neg {P : Prop} {d : Decidable P} {β : Type} {x y r : β} (hc : ¬ P) (h : (if P then x else y) = r) : y = r := by rw [if_neg hc] at h; exact h
theorem jn_1 {α β : Type} {body : (α → β) → β} {k : α → β} {r : β} {P : Prop} (V : α → Prop) (hf : jn body k = r) (h1 : ∀ a, k a = r → V a) (h2 : (∀ a, k a = r → V a) → body k = r → P) : P := h2 h1 hf
theorem jn_2 {α α2 β : Type} {body : (α → α2 → β) → β} {k : α → α2 → β} {r : β} {P : Prop} (V : α → α2 → Prop) (hf : jn body k = r) (h1 : ∀ a a2, k a a2 = r → V a a2) (h2 : (∀ a a2, k a a2 = r → V a a2) → body k = r → P) : P := h2 h1 hf
theorem jn_3 {α α2 α3 β : Type} {body : (α → α2 → α3 → β) → β} {k : α → α2 → α3 → β} {r : β} {P : Prop} (V : α → α2 → α3 → Prop) (hf : jn body k = r) (h1 : ∀ a a2 a3, k a a2 a3 = r → V a a2 a3) (h2 : (∀ a a2 a3, k a a2 a3 = r → V a a2 a3) → body k = r → P) : P := h2 h1 hf
theorem jn_4 {α α2 α3 α4 β : Type} {body : (α → α2 → α3 → α4 → β) → β} {k : α → α2 → α3 → α4 → β} {r : β} {P : Prop} (V : α → α2 → α3 → α4 → Prop) (hf : jn body k = r) (h1 : ∀ a a2 a3 a4, k a a2 a3 a4 = r → V a a2 a3 a4) (h2 : (∀ a a2 a3 a4, k a a2 a3 a4 = r → V a a2 a3 a4) → body k = r → P) : P := h2 h1 hf
theorem ev_v {v r : Int32} (h : v = r) : some (Value.int r) = some (.int v) := by rw [h]
theorem ev_o {v r : Int32} (h : some v = some r) : some (Value.int r) = some (.int v) := by cases h; rfl
theorem ev_p {σ : Type} {v r : Int32} {S S' : σ} (h : (v, S) = (r, S')) : some (Value.int r) = some (.int v) := by cases h; rfl
theorem ev_q {σ : Type} {v r : Int32} {S S' : σ} (h : some (v, S) = some (r, S')) : some (Value.int r) = some (.int v) := by cases h; rfl
theorem ew_v {E : En} {G : Gs} {o : Nat} {S S' : St} (h : S = S') : wl E (va_up G o S) = wl E (va_up G o S') := by rw [h]
theorem ew_o {E : En} {G : Gs} {o : Nat} {S S' : St} (h : some S = some S') : wl E (va_up G o S) = wl E (va_up G o S') := by cases h; rfl
theorem ew_p {E : En} {G : Gs} {o : Nat} {v r : Int32} {S S' : St} (h : (v, S) = (r, S')) : wl E (va_up G o S) = wl E (va_up G o S') := by cases h; rfl
theorem ew_q {E : En} {G : Gs} {o : Nat} {v r : Int32} {S S' : St} (h : some (v, S) = some (r, S')) : wl E (va_up G o S) = wl E (va_up G o S') := by cases h; rfl
theorem eg_v {E : En} {S S' : Gs} (h : S = S') : wl E S = wl E S' := by rw [h]
theorem eg_o {E : En} {S S' : Gs} (h : some S = some S') : wl E S = wl E S' := by cases h; rfl
theorem eg_p {E : En} {v r : Int32} {S S' : Gs} (h : (v, S) = (r, S')) : wl E S = wl E S' := by cases h; rfl
theorem eg_q {E : En} {v r : Int32} {S S' : Gs} (h : some (v, S) = some (r, S')) : wl E S = wl E S' := by cases h; rfl
/-! which cells there are -/
def LibG (E : En) (b : Nat) : Prop := ∀ k, k < 42 → (b + 2, k) ∈ eW E
def ModG (E : En) : Prop := ∀ k, k < 9 → (1, k) ∈ eW E
def TopG (E : En) : Prop := ∀ k, k < 8 → (0, k) ∈ eW E
def RowAt (E : En) (o k n : Nat) : Prop := (o, k) ∈ eW E ∧ (o, k + 1) ∈ eW E ∧ (∀ f, cel E o k f = .inr (6, [.ref (eA E o (k + 1))])) ∧ ∀ f, cel E o (k + 1) f = .inl (eI E, n, .inl f)
theorem rl_1 {o b : Nat} (ho : o = b + 2) (hL : LibG E b) : RowAt E o 1 4 := by
  subst ho
  exact ⟨hL 1 (by decide), hL 2 (by decide), fun _ => rfl, fun _ => rfl⟩
theorem rl_3 {o b : Nat} (ho : o = b + 2) (hL : LibG E b) : RowAt E o 3 24 := by
  subst ho
  exact ⟨hL 3 (by decide), hL 4 (by decide), fun _ => rfl, fun _ => rfl⟩
theorem rl_6 {o b : Nat} (ho : o = b + 2) (hL : LibG E b) : RowAt E o 6 24 := by
  subst ho
  exact ⟨hL 6 (by decide), hL 7 (by decide), fun _ => rfl, fun _ => rfl⟩
theorem rl_8 {o b : Nat} (ho : o = b + 2) (hL : LibG E b) : RowAt E o 8 24 := by
  subst ho
  exact ⟨hL 8 (by decide), hL 9 (by decide), fun _ => rfl, fun _ => rfl⟩
theorem rl_11 {o b : Nat} (ho : o = b + 2) (hL : LibG E b) : RowAt E o 11 16 := by
  subst ho
  exact ⟨hL 11 (by decide), hL 12 (by decide), fun _ => rfl, fun _ => rfl⟩
theorem rl_13 {o b : Nat} (ho : o = b + 2) (hL : LibG E b) : RowAt E o 13 128 := by
  subst ho
  exact ⟨hL 13 (by decide), hL 14 (by decide), fun _ => rfl, fun _ => rfl⟩
theorem rl_15 {o b : Nat} (ho : o = b + 2) (hL : LibG E b) : RowAt E o 15 128 := by
  subst ho
  exact ⟨hL 15 (by decide), hL 16 (by decide), fun _ => rfl, fun _ => rfl⟩
theorem rl_17 {o b : Nat} (ho : o = b + 2) (hL : LibG E b) : RowAt E o 17 128 := by
  subst ho
  exact ⟨hL 17 (by decide), hL 18 (by decide), fun _ => rfl, fun _ => rfl⟩
theorem rl_19 {o b : Nat} (ho : o = b + 2) (hL : LibG E b) : RowAt E o 19 24 := by
  subst ho
  exact ⟨hL 19 (by decide), hL 20 (by decide), fun _ => rfl, fun _ => rfl⟩
theorem rl_22 {o b : Nat} (ho : o = b + 2) (hL : LibG E b) : RowAt E o 22 60 := by
  subst ho
  exact ⟨hL 22 (by decide), hL 23 (by decide), fun _ => rfl, fun _ => rfl⟩
theorem rl_24 {o b : Nat} (ho : o = b + 2) (hL : LibG E b) : RowAt E o 24 60 := by
  subst ho
  exact ⟨hL 24 (by decide), hL 25 (by decide), fun _ => rfl, fun _ => rfl⟩
theorem rl_26 {o b : Nat} (ho : o = b + 2) (hL : LibG E b) : RowAt E o 26 60 := by
  subst ho
  exact ⟨hL 26 (by decide), hL 27 (by decide), fun _ => rfl, fun _ => rfl⟩
theorem rl_28 {o b : Nat} (ho : o = b + 2) (hL : LibG E b) : RowAt E o 28 3 := by
  subst ho
  exact ⟨hL 28 (by decide), hL 29 (by decide), fun _ => rfl, fun _ => rfl⟩
theorem rl_30 {o b : Nat} (ho : o = b + 2) (hL : LibG E b) : RowAt E o 30 24 := by
  subst ho
  exact ⟨hL 30 (by decide), hL 31 (by decide), fun _ => rfl, fun _ => rfl⟩
theorem rl_32 {o b : Nat} (ho : o = b + 2) (hL : LibG E b) : RowAt E o 32 24 := by
  subst ho
  exact ⟨hL 32 (by decide), hL 33 (by decide), fun _ => rfl, fun _ => rfl⟩
theorem rl_34 {o b : Nat} (ho : o = b + 2) (hL : LibG E b) : RowAt E o 34 16 := by
  subst ho
  exact ⟨hL 34 (by decide), hL 35 (by decide), fun _ => rfl, fun _ => rfl⟩
theorem rl_36 {o b : Nat} (ho : o = b + 2) (hL : LibG E b) : RowAt E o 36 16 := by
  subst ho
  exact ⟨hL 36 (by decide), hL 37 (by decide), fun _ => rfl, fun _ => rfl⟩
theorem rl_38 {o b : Nat} (ho : o = b + 2) (hL : LibG E b) : RowAt E o 38 16 := by
  subst ho
  exact ⟨hL 38 (by decide), hL 39 (by decide), fun _ => rfl, fun _ => rfl⟩
theorem rl_40 {o b : Nat} (ho : o = b + 2) (hL : LibG E b) : RowAt E o 40 16 := by
  subst ho
  exact ⟨hL 40 (by decide), hL 41 (by decide), fun _ => rfl, fun _ => rfl⟩
theorem rt_5 (hT : TopG E) : RowAt E 0 5 80 := ⟨hT 5 (by decide), hT 6 (by decide), fun _ => rfl, fun _ => rfl⟩
