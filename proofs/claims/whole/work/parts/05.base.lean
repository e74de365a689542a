/-! ===== the base layer: nest mates' words, static arrays, the cells of the system, contexts, the judgement VV ===== -/
abbrev FN : Type := Nat → Int32
abbrev St : Type := Nat → FN
abbrev Gs : Type := Nat → St
abbrev nF : List (String × Nat × String × String × String × String) := [("ShoutGroups$Library", 11, "ShoutGroups", "AT_FIRST", "[I", "ShoutGroups"), ("ShoutGroups$Library", 97, "ShoutGroups$Cards", "kinds", "LShoutGroups$Row;", "ShoutGroups"), ("ShoutGroups", 128, "ShoutGroups$Cards", "kinds", "LShoutGroups$Row;", "ShoutGroups"), ("ShoutGroups", 131, "ShoutGroups$Cards", "names", "LShoutGroups$Row;", "ShoutGroups"), ("ShoutGroups", 151, "ShoutGroups$Shelves", "lengths", "LShoutGroups$Row;", "ShoutGroups"), ("ShoutGroups$Library", 169, "ShoutGroups$Shelves", "lengths", "LShoutGroups$Row;", "ShoutGroups"), ("ShoutGroups", 122, "ShoutGroups$Shelves", "holders", "LShoutGroups$Row;", "ShoutGroups"), ("ShoutGroups$Library", 182, "ShoutGroups$Shelves", "holders", "LShoutGroups$Row;", "ShoutGroups"), ("ShoutGroups$Library", 208, "ShoutGroups$Account", "kinds", "LShoutGroups$Row;", "ShoutGroups"), ("ShoutGroups$Library", 202, "ShoutGroups$Account", "readers", "LShoutGroups$Row;", "ShoutGroups"), ("ShoutGroups$Library", 205, "ShoutGroups$Account", "notes", "LShoutGroups$Row;", "ShoutGroups"), ("ShoutGroups", 223, "ShoutGroups$Account", "length", "I", "ShoutGroups"), ("ShoutGroups$Library", 195, "ShoutGroups$Account", "length", "I", "ShoutGroups"), ("ShoutGroups", 60, "ShoutGroups$Library", "settings", "LShoutGroups$Row;", "ShoutGroups"), ("ShoutGroups", 125, "ShoutGroups$Library", "values", "LShoutGroups$Row;", "ShoutGroups"), ("ShoutGroups", 46, "ShoutGroups$Library", "cards", "LShoutGroups$Cards;", "ShoutGroups"), ("ShoutGroups", 100, "ShoutGroups$Library", "shelves", "LShoutGroups$Shelves;", "ShoutGroups"), ("ShoutGroups", 82, "ShoutGroups$Library", "account", "LShoutGroups$Account;", "ShoutGroups"), ("ShoutGroups", 181, "ShoutGroups$Library", "totals", "LShoutGroups$Row;", "ShoutGroups"), ("ShoutGroups", 142, "ShoutGroups$Library", "noteCalledBack", "LShoutGroups$Row;", "ShoutGroups"), ("ShoutGroups", 145, "ShoutGroups$Library", "noteShouts", "LShoutGroups$Row;", "ShoutGroups"), ("ShoutGroups", 166, "ShoutGroups$Library", "readerUses", "LShoutGroups$Row;", "ShoutGroups"), ("ShoutGroups", 169, "ShoutGroups$Library", "readerQuietUses", "LShoutGroups$Row;", "ShoutGroups"), ("ShoutGroups", 172, "ShoutGroups$Library", "readerCalledBack", "LShoutGroups$Row;", "ShoutGroups"), ("ShoutGroups", 175, "ShoutGroups$Library", "readerWasted", "LShoutGroups$Row;", "ShoutGroups"), ("ShoutGroups", 199, "ShoutGroups$History", "length", "I", "ShoutGroups"), ("ShoutGroups$Orders", 26, "ShoutGroups$Pad", "length", "I", "ShoutGroups"), ("ShoutGroups", 193, "ShoutGroups$Pad", "length", "I", "ShoutGroups"), ("ShoutGroups", 37, "ShoutGroups$Orders", "pad", "LShoutGroups$Pad;", "ShoutGroups"), ("ShoutGroups", 241, "ShoutGroups$Orders", "place", "I", "ShoutGroups"), ("ShoutGroups", 248, "ShoutGroups$Orders", "kind", "I", "ShoutGroups"), ("ShoutGroups", 251, "ShoutGroups$Orders", "reader", "I", "ShoutGroups"), ("ShoutGroups", 254, "ShoutGroups$Orders", "note", "I", "ShoutGroups"), ("ShoutGroups", 257, "ShoutGroups$Orders", "value", "I", "ShoutGroups")]
abbrev nM : List (String × Nat × MethodName × String) := [("ShoutGroups$Library", 29, yX1_init, "ShoutGroups"), ("ShoutGroups$Library", 36, yX7_init, "ShoutGroups"), ("ShoutGroups$Library", 43, yX0_init, "ShoutGroups"), ("ShoutGroups", 32, yX4_init, "ShoutGroups"), ("ShoutGroups$Orders", 11, yX5_init, "ShoutGroups"), ("ShoutGroups$Library", 86, yX8_isReader, "ShoutGroups"), ("ShoutGroups$Library", 90, yX8_isNote, "ShoutGroups"), ("ShoutGroups$Shelves", 36, yX8_isIn, "ShoutGroups"), ("ShoutGroups$Shelves", 44, yX8_only, "ShoutGroups"), ("ShoutGroups$Cards", 31, yX8_groupOf, "ShoutGroups"), ("ShoutGroups$Cards", 27, yX8_isIn, "ShoutGroups"), ("ShoutGroups$Cards", 35, yX8_only, "ShoutGroups"), ("ShoutGroups$Library", 157, yX8_isIn, "ShoutGroups"), ("ShoutGroups$Library", 145, yX8_only, "ShoutGroups")]
def nwF (q : String × Nat × String × String × String × String) : Cond := .fieldLinkNest q.1 q.2.1 q.2.2.1 q.2.2.2.1 q.2.2.2.2.1 q.2.2.2.2.2
def nwM (q : String × Nat × MethodName × String) : Cond := .methodLinkNest q.1 q.2.1 q.2.2.1 q.2.2.2
def fLow : FN := fun j => match j with | 0 => 0 | 1 => 1 | 2 => 1 | _ => 0
def fHigh : FN := fun j => match j with | 0 => 4 | 1 => 8 | 2 => 8 | _ => 1
def fFirst : FN := fun j => match j with | 0 => 2 | 1 => 4 | 2 => 3 | _ => 0
def saT (nm : String) (f : FN) (A : Nat → Prop) (U : State) (H : Heap) : Prop := ∃ t : Nat, va_Z RX8 nm "[I" (.ref t) A U H ∧ va_T .int t 4 (fun j => .int (f j)) A U H
theorem saT.moved {nm : String} {f : FN} {A : Nat → Prop} {u U : State} {H : Heap} (hvm : u.vm.Alike U.vm) (h : saT nm f A u H) : saT nm f A U H := by
  obtain ⟨t, h1, h2⟩ := h
  exact ⟨t, h1.moved hvm, h2.moved hvm⟩
theorem saT.kept {nm : String} {f : FN} {A : Nat → Prop} {U : State} {H H1 : Heap} (h : saT nm f A U H) (hq : ∀ a : Nat, a < H.size → ¬ A a → H1[a]? = H[a]?) : saT nm f A U H1 := by
  obtain ⟨t, h1, h2⟩ := h
  exact ⟨t, h1.kept hq, h2.kept hq⟩
def KW (D : va_G) (tys : List (ClassId × FieldType)) (A : Nat → Prop) (U : State) : Prop := va_K D vwCl tys U ∧ (∀ q ∈ nF, va_Nw (nwF q) U) ∧ (∀ q ∈ nM, va_Nw (nwM q) U) ∧ saT "LOWEST" fLow A U U.heap ∧ saT "HIGHEST" fHigh A U U.heap ∧ saT "AT_FIRST" fFirst A U U.heap
theorem KW.go {D : va_G} {tys : List (ClassId × FieldType)} {A : Nat → Prop} {s U : State} {H : Heap} {locs : List Loc} (K : KW D tys A s) (hS : va_S A s.heap H locs) (hU : U.heap = H) (hW : s.WarmedH U.vm) : KW D tys A U := by
  obtain ⟨k1, k2, k3, k4, k5, k6⟩ := K
  have hq : ∀ a : Nat, a < s.heap.size → ¬ A a → U.heap[a]? = s.heap[a]? := fun a h1 h2 => by rw [hU]; exact hS.2.1 a h1 h2
  exact ⟨va_K.moved hW.alike k1, fun q h => va_Nw.warmF hW (k2 q h), fun q h => va_Nw.warmM hW (k3 q h), (k4.kept hq).moved hW.alike, (k5.kept hq).moved hW.alike, (k6.kept hq).moved hW.alike⟩
theorem KW.blind {D : va_G} {tys : List (ClassId × FieldType)} {A : Nat → Prop} {U : State} {g : JFrame} {mk : MethodId} {a : Array Value} (K : KW D tys A U) : KW D tys A (U.calling g mk a) := by
  obtain ⟨k1, k2, k3, k4, k5, k6⟩ := K
  exact ⟨va_K.moved (u := U) (U := U.calling g mk a) (Vm.Alike.refl U.vm) k1, fun q h => va_Nw.same (u := U) (U := U.calling g mk a) rfl rfl (k2 q h), fun q h => va_Nw.same (u := U) (U := U.calling g mk a) rfl rfl (k3 q h), saT.moved (u := U) (U := U.calling g mk a) (Vm.Alike.refl U.vm) k4, saT.moved (u := U) (U := U.calling g mk a) (Vm.Alike.refl U.vm) k5, saT.moved (u := U) (U := U.calling g mk a) (Vm.Alike.refl U.vm) k6⟩
/-! the cells: the classes of arrays, the addresses by group and place, which cells there are -/
abbrev En : Type := (ClassId × ClassId × ClassId) × (Nat → Nat → Nat) × List (Nat × Nat)
abbrev eI (E : En) : ClassId := E.1.1
abbrev eZ (E : En) : ClassId := E.1.2.1
abbrev eL (E : En) : ClassId := E.1.2.2
abbrev eA (E : En) : Nat → Nat → Nat := E.2.1
abbrev eW (E : En) : List (Nat × Nat) := E.2.2
abbrev eT (E : En) : List (ClassId × FieldType) := [(eI E, .int), (eZ E, .boolean), (eL E, .object RX3)]
/-- group 0: the system's own object and what is beside its libraries -/
def topC (E : En) (k : Nat) (f : FN) : va_E := match k with
  | 0 => .inr (8, [.ref (eA E 2 0), .ref (eA E 3 0), .ref (eA E 0 1), .ref (eA E 0 3), .ref (eA E 0 7), .ref (eA E 0 4)])
  | 1 => .inr (2, [.ref (eA E 0 2), .int (f 1), .int (f 2)])
  | 2 => .inl (eL E, 6, .inr (.inr (.inr (.inr (fun j => if j < 6 then some (eA E (j + 4) 0) else none)))))
  | 3 => .inl (eL E, 2, .inr (.inr (.inr (.inr (fun j => if f j = 0 then none else if j < 2 then some (eA E (j + 10) 0) else none)))))
  | 4 => .inr (5, [.ref (eA E 0 5), .int (f 1)])
  | 5 => .inr (6, [.ref (eA E 0 6)])
  | 6 => .inl (eI E, 80, .inl f)
  | _ => .inr (4, [.ref (eA E 0 4), .int (f 1), .int (f 2), .int (f 3), .int (f 4), .int (f 5), .int (f 6)])
/-- group 1: the reference's object and its rows -/
def modC (E : En) (k : Nat) (f : FN) : va_E := match k with
  | 0 => .inr (9, [.ref (eA E 1 1), .ref (eA E 1 2), .int (f 2), .int (f 3), .ref (eA E 1 3), .ref (eA E 1 4), .ref (eA E 1 5), .ref (eA E 1 6), .int (f 8), .int (f 9), .int (f 10), .int (f 11), .ref (eA E 1 7), .ref (eA E 1 8)])
  | 1 => .inl (eI E, 652, .inl f)
  | 2 => .inl (eI E, 3912, .inl f)
  | 3 => .inl (eI E, 1304, .inl f)
  | 4 => .inl (eZ E, 2, .inl f)
  | 5 => .inl (eI E, 652, .inl f)
  | 6 => .inl (eI E, 80, .inl f)
  | 7 => .inl (eI E, 29, .inl f)
  | _ => .inl (eI E, 87, .inl f)
/-- group b + 2: the library b -/
def libC (E : En) (o k : Nat) (f : FN) : va_E := match k with
  | 0 => .inr (3, [.ref (eA E o 1), .ref (eA E o 3), .ref (eA E o 5), .ref (eA E o 10), .ref (eA E o 21), .ref (eA E o 28), .ref (eA E o 30), .ref (eA E o 32), .ref (eA E o 34), .ref (eA E o 36), .ref (eA E o 38), .ref (eA E o 40)])
  | 1 => .inr (6, [.ref (eA E o 2)])
  | 2 => .inl (eI E, 4, .inl f)
  | 3 => .inr (6, [.ref (eA E o 4)])
  | 4 => .inl (eI E, 24, .inl f)
  | 5 => .inr (1, [.ref (eA E o 6), .ref (eA E o 8)])
  | 6 => .inr (6, [.ref (eA E o 7)])
  | 7 => .inl (eI E, 24, .inl f)
  | 8 => .inr (6, [.ref (eA E o 9)])
  | 9 => .inl (eI E, 24, .inl f)
  | 10 => .inr (7, [.ref (eA E o 11), .ref (eA E o 13), .ref (eA E o 15), .ref (eA E o 17), .ref (eA E o 19)])
  | 11 => .inr (6, [.ref (eA E o 12)])
  | 12 => .inl (eI E, 16, .inl f)
  | 13 => .inr (6, [.ref (eA E o 14)])
  | 14 => .inl (eI E, 128, .inl f)
  | 15 => .inr (6, [.ref (eA E o 16)])
  | 16 => .inl (eI E, 128, .inl f)
  | 17 => .inr (6, [.ref (eA E o 18)])
  | 18 => .inl (eI E, 128, .inl f)
  | 19 => .inr (6, [.ref (eA E o 20)])
  | 20 => .inl (eI E, 24, .inl f)
  | 21 => .inr (0, [.ref (eA E o 22), .ref (eA E o 24), .ref (eA E o 26), .int (f 3), .int (f 4)])
  | 22 => .inr (6, [.ref (eA E o 23)])
  | 23 => .inl (eI E, 60, .inl f)
  | 24 => .inr (6, [.ref (eA E o 25)])
  | 25 => .inl (eI E, 60, .inl f)
  | 26 => .inr (6, [.ref (eA E o 27)])
  | 27 => .inl (eI E, 60, .inl f)
  | 28 => .inr (6, [.ref (eA E o 29)])
  | 29 => .inl (eI E, 3, .inl f)
  | 30 => .inr (6, [.ref (eA E o 31)])
  | 31 => .inl (eI E, 24, .inl f)
  | 32 => .inr (6, [.ref (eA E o 33)])
  | 33 => .inl (eI E, 24, .inl f)
  | 34 => .inr (6, [.ref (eA E o 35)])
  | 35 => .inl (eI E, 16, .inl f)
  | 36 => .inr (6, [.ref (eA E o 37)])
  | 37 => .inl (eI E, 16, .inl f)
  | 38 => .inr (6, [.ref (eA E o 39)])
  | 39 => .inl (eI E, 16, .inl f)
  | 40 => .inr (6, [.ref (eA E o 41)])
  | _ => .inl (eI E, 16, .inl f)
def cel (E : En) (o k : Nat) (f : FN) : va_E := match o with
  | 0 => topC E k f
  | 1 => modC E k f
  | b + 2 => libC E (b + 2) k f
def celG (E : En) (G : Gs) (q : Nat × Nat) : va_E := cel E q.1 q.2 (G q.1 q.2)
def wl (E : En) (G : Gs) : va_W := (eW E).map (fun q => (eA E q.1 q.2, celG E G q))
theorem up_self {α : Type} (f : Nat → α) (k : Nat) (v : α) : va_up f k v k = v := by simp [va_up]
theorem up_ne {α : Type} (f : Nat → α) {k j : Nat} (v : α) (h : j ≠ k) : va_up f k v j = f j := by simp [va_up, h]
theorem up_up {α : Type} (f : Nat → α) (k : Nat) (v w : α) : va_up (va_up f k v) k w = va_up f k w := by
  funext j
  by_cases h : j = k <;> simp [va_up, h]
theorem up_id {α : Type} (f : Nat → α) (k : Nat) : va_up f k (f k) = f := by
  funext j
  by_cases h : j = k <;> simp [va_up, h]
theorem up_eta {α : Type} {f : Nat → α} {k : Nat} {v : α} (h : f k = v) : va_up f k v = f := by rw [← h]; exact up_id f k
theorem wl_at {E : En} {o k : Nat} (G : Gs) (hm : (o, k) ∈ eW E) : ∃ q0 : Nat, (wl E G)[q0]? = some (eA E o k, cel E o k (G o k)) := by
  obtain ⟨i, hi⟩ := List.getElem?_of_mem hm
  exact ⟨i, by rw [wl, List.getElem?_map, hi]; rfl⟩
theorem wl_set {E : En} {o k q0 : Nat} {G : Gs} {A : Nat → Prop} {e0 : va_E} (f : FN) (hD : va_D A (wl E G)) (hm : (o, k) ∈ eW E) (h0 : (wl E G)[q0]? = some (eA E o k, e0)) : (wl E G).set q0 (eA E o k, cel E o k f) = wl E (va_up G o (va_up (G o) k f)) := by
  have hl : q0 < (wl E G).length := (List.getElem?_eq_some_iff.mp h0).1
  have hlen : (wl E G).length = (eW E).length := by simp [wl]
  have apart : ∀ (j : Nat) (q : Nat × Nat), (eW E)[j]? = some q → q = (o, k) → j = q0 := by
    intro j q hj hq
    subst hq
    have h1 : (wl E G)[j]? = some (eA E o k, celG E G (o, k)) := by rw [wl, List.getElem?_map, hj]; rfl
    exact hD.1 j q0 _ _ h1 h0 rfl
  obtain ⟨i0, hi0⟩ := List.getElem?_of_mem hm
  have hi : i0 = q0 := apart i0 _ hi0 rfl
  subst hi
  refine List.ext_getElem? (fun j => ?_)
  by_cases hj : j = i0
  · subst hj
    rw [List.getElem?_set_self hl, wl, List.getElem?_map, hi0]
    simp [celG, va_up]
  · rw [List.getElem?_set_ne (Ne.symm hj), wl, wl, List.getElem?_map, List.getElem?_map]
    cases hq : (eW E)[j]? with
    | none => rfl
    | some q =>
      have hne : ¬ q = (o, k) := fun h => hj (apart j q hq h)
      have : celG E (va_up G o (va_up (G o) k f)) q = celG E G q := by
        obtain ⟨o', k'⟩ := q
        show cel E o' k' (va_up G o (va_up (G o) k f) o' k') = cel E o' k' (G o' k')
        by_cases ho : o' = o
        · subst ho
          have hk : k' ≠ k := fun h => hne (by rw [h])
          rw [up_self, up_ne _ _ hk]
        · rw [up_ne _ _ ho]
      simp [this]
theorem wl_D {E : En} {G G' : Gs} {A : Nat → Prop} (hD : va_D A (wl E G)) : va_D A (wl E G') := by
  have key : ∀ (k : Nat) (q : Nat × va_E), (wl E G')[k]? = some q → ∃ q', (wl E G)[k]? = some q' ∧ q'.1 = q.1 := by
    intro k q h
    rw [wl, List.getElem?_map] at h
    cases hq : (eW E)[k]? with
    | none => rw [hq] at h; cases h
    | some r =>
      rw [hq] at h
      cases h
      exact ⟨(eA E r.1 r.2, celG E G r), by rw [wl, List.getElem?_map, hq]; rfl, rfl⟩
  refine ⟨fun i j p q h1 h2 h3 => ?_, fun k q h => ?_⟩
  · obtain ⟨p', a1, a2⟩ := key i p h1
    obtain ⟨q', b1, b2⟩ := key j q h2
    exact hD.1 i j p' q' a1 b1 (a2.trans (h3.trans b2.symm))
  · obtain ⟨q', a1, a2⟩ := key k q h
    rw [← a2]
    exact hD.2 k q' a1
/-! contexts and the judgement -/
def Cx (p : Program) (s : State) (m : MethodId) (args : Array Value) (meth : Method) (c : Code) (D : va_G) (E : En) (A : Nat → Prop) (own : String) (cc : ByteArray) (nL : Nat) (ret : Option FieldType) (Ts : List Cond) : Prop :=
  p.tables.exec = Jvm.exec ∧ c.code = cc ∧ c.maxLocals = nL ∧ s.vm.findClass own = some m.cls ∧ (∀ w ∈ Ts, w.before args s = true) ∧ (∀ w ∈ wsL_law, w ∈ Ts) ∧ KW D (eT E) A s ∧ meth.sig.returnType = ret ∧ meth.locks = false
def VV (p : Program) (l : Launch) (e : Env) (R : Room) (s : State) (m : MethodId) (args : Array Value) (below : List Frame) (meth : Method) (c : Code) (Q : State → Prop) (D : va_G) (A : Nat → Prop) (nL : Nat) (cs : Nat × Nat) (pc : Nat) (st : List Value) (lv : List (Nat × Value)) (ws : va_W) : Prop :=
  ∀ (H : Heap) (locs : List Loc) (ls : Array Slot), cs.1 ≤ R.cells ∧ cs.2 ≤ R.slots → va_P D vwCl ws H → va_D A ws → va_S A s.heap H locs → lv_has ls nL lv → W p l e R s m args below meth c H locs cs.1 cs.2 Q (F0 m pc ls st)
def CQ (D : va_G) (A : Nat → Prop) (rv : Option Value) (ws1 : va_W) : Array Value → State → Outcome → State → Prop := fun _ st oc t => (oc = .returned rv ∧ va_P D vwCl ws1 t.heap ∧ va_D A ws1) ∧ va_F A st t
def CP (D : va_G) (E : En) (A : Nat → Prop) (ws0 : va_W) : State → Prop := fun U => KW D (eT E) A U ∧ va_P D vwCl ws0 U.heap ∧ va_D A ws0
/-- a contract: no cell is made -/
def Ctr (l : Launch) (D : va_G) (E : En) (A : Nat → Prop) (y : MethodName) (bytes : ByteArray) (maxL : Nat) (ret : Option FieldType) (rm : Room) (av : List Value) (ws0 : va_W) (rv : Option Value) (ws1 : va_W) : Prop :=
  Met l y (.code y bytes maxL ret :: wsL_law) rm (va_Pc av (CP D E A ws0)) (CQ D A rv ws1) 0 0 A
theorem Ctr.of {l : Launch} {D : va_G} {E : En} {A : Nat → Prop} {y : MethodName} {own : String} {bytes : ByteArray} {maxL : Nat} {ret : Option FieldType} {rm : Room} {av : List Value} {ws0 : va_W} {rv : Option Value} {ws1 : va_W} (hy : plainName y.cls = true) (ho : y.cls = own) (hsz : (lg_sl av).length ≤ maxL)
    (body : ∀ (p : Program) (e : Env) (s : State) (m : MethodId) (args : Array Value) (below : List Frame) (meth : Method) (c : Code), Cx p s m args meth c D E A own bytes maxL ret (.code y bytes maxL ret :: wsL_law) → VV p l e rm s m args below meth c (MQ below (CQ D A rv ws1) args s 0 0 A) D A maxL (0, 0) 0 [] (lv_args 0 av) ws0) : Ctr l D E A y bytes maxL ret rm av ws0 rv ws1 := by
  refine Met.ofW (cc := bytes) (maxL := maxL) (ret := ret) hy rfl ?_
  intro p e s m args below meth c s₁ B hml hv
  obtain ⟨rfl, hK, hP, hD⟩ := hv
  have hl := lv_entry av (n := maxL) hsz
  rw [lg_entry_eq]
  exact body p e s m _ below meth c ⟨B.exec, B.bytes, hml, ho ▸ findClass_of_methodNamed B.named, atoms_spec B.pre, fun _ h => List.mem_cons_of_mem _ h, hK, B.returns, B.notSynchronized⟩ s.heap [] _ ⟨Nat.zero_le _, Nat.zero_le _⟩ hP hD va_S.rf hl
