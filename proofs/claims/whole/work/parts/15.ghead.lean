variable {p : Program} {l : Launch} {e : Env} {R : Room} {s : State} {m : MethodId} {args : Array Value} {below : List Frame} {meth : Method} {c : Code} {Q : State → Prop} {D : va_G} {E : En} {A : Nat → Prop} {own : String} {cc : ByteArray} {nL : Nat} {ret : Option FieldType} {Ts : List Cond} {pc : Nat} {st : List Value} {lv lv' : List (Nat × Value)} {ws : va_W} {cs : Nat × Nat}
theorem v_aloadN_n (K : Cx p s m args meth c D E A own cc nL ret Ts) (q : Nat) {k0 : Fin 4} {i : Nat} (hdg : decode cc pc = .ok (.aload_n k0, 1)) (hi : (k0 : Nat) = i) (hq : lv[q]? = some (i, .null)) (k : VV p l e R s m args below meth c Q D A nL cs (pc + 1) (.null :: st) (lv) (ws)) : VV p l e R s m args below meth c Q D A nL cs (pc) (st) (lv) (ws) := fun H locs ls hcs hP hD hS hl => lv_aload_nN K.1 K.2.1 hdg hi (lv_at hl q hq) (k H locs ls hcs hP hD hS hl)
theorem v_astoreN_n (K : Cx p s m args meth c D E A own cc nL ret Ts) {k0 : Fin 4} {i : Nat} (hdg : decode cc pc = .ok (.astore_n k0, 1)) (hi : (k0 : Nat) = i) (hn : i < nL) (hl' : (i, Value.null) :: lv.filter (fun q => !(q.1 == i) && !(q.1 + 1 == i && q.2.category == 2)) = lv') (k : VV p l e R s m args below meth c Q D A nL cs (pc + 1) (st) (lv') (ws)) : VV p l e R s m args below meth c Q D A nL cs (pc) (.null :: st) (lv) (ws) := fun H locs ls hcs hP hD hS hl => lv_astore_nN K.1 K.2.1 hdg hi hl hn hl' (fun ls hl => (k H locs ls hcs hP hD hS hl))
theorem v_ifnull (K : Cx p s m args meth c D E A own cc nL ret Ts) {x : Nat} {off : Int} (hdg : decode cc pc = .ok (.ifnull off, 3))  (k : VV p l e R s m args below meth c Q D A nL cs (pc + 3) (st) (lv) (ws)) : VV p l e R s m args below meth c Q D A nL cs (pc) (.ref x :: st) (lv) (ws) := fun H locs ls hcs hP hD hS hl => lv_ifnull K.1 K.2.1 hdg (k H locs ls hcs hP hD hS hl)
theorem v_ifnullN (K : Cx p s m args meth c D E A own cc nL ret Ts) {off : Int} {tgt : Nat} (hdg : decode cc pc = .ok (.ifnull off, 3)) (ht : (pc : Int) + off = (tgt : Int)) (k : VV p l e R s m args below meth c Q D A nL cs (tgt) (st) (lv) (ws)) : VV p l e R s m args below meth c Q D A nL cs (pc) (.null :: st) (lv) (ws) := fun H locs ls hcs hP hD hS hl => lv_ifnullN K.1 K.2.1 hdg ht (k H locs ls hcs hP hD hS hl)
theorem v_ifnonnull (K : Cx p s m args meth c D E A own cc nL ret Ts) {x : Nat} {off : Int} {tgt : Nat} (hdg : decode cc pc = .ok (.ifnonnull off, 3)) (ht : (pc : Int) + off = (tgt : Int)) (k : VV p l e R s m args below meth c Q D A nL cs (tgt) (st) (lv) (ws)) : VV p l e R s m args below meth c Q D A nL cs (pc) (.ref x :: st) (lv) (ws) := fun H locs ls hcs hP hD hS hl => lv_ifnonnull K.1 K.2.1 hdg ht (k H locs ls hcs hP hD hS hl)
theorem v_ifnonnullN (K : Cx p s m args meth c D E A own cc nL ret Ts) {off : Int} (hdg : decode cc pc = .ok (.ifnonnull off, 3))  (k : VV p l e R s m args below meth c Q D A nL cs (pc + 3) (st) (lv) (ws)) : VV p l e R s m args below meth c Q D A nL cs (pc) (.null :: st) (lv) (ws) := fun H locs ls hcs hP hD hS hl => lv_ifnonnullN K.1 K.2.1 hdg (k H locs ls hcs hP hD hS hl)
theorem v_alenq (K : Cx p s m args meth c D E A own cc nL ret Ts) {G : Gs} {o k n : Nat} {f : Nat → Option Nat} {v : Int32} (hdg : decode cc pc = .ok (.arraylength, 1)) (hm : (o, k) ∈ eW E) (hc : cel E o k (G o k) = .inl (eL E, n, .inr (.inr (.inr (.inr f))))) (hv : Int32.ofNat n = v) (kk : VV p l e R s m args below meth c Q D A nL cs (pc + 1) (.int v :: st) (lv) (wl E G)) : VV p l e R s m args below meth c Q D A nL cs (pc) (.ref (eA E o k) :: st) (lv) (wl E G) := by
  intro H locs ls hcs hP hD hS hl
  obtain ⟨q0, hq0⟩ := wl_at G hm
  rw [hc] at hq0
  exact va_alen K.1 K.2.1 K.2.2.2.2.2.2.1.1 hP q0 2 hq0 rfl hv hdg (kk H locs ls hcs hP hD hS hl)
theorem v_aldq (K : Cx p s m args meth c D E A own cc nL ret Ts) {G : Gs} {o k n : Nat} {f : Nat → Option Nat} {i : Int32} (hdg : decode cc pc = .ok (.aaload, 1)) (hm : (o, k) ∈ eW E) (hc : cel E o k (G o k) = .inl (eL E, n, .inr (.inr (.inr (.inr f))))) (hin : vp_in i n) (kk : VV p l e R s m args below meth c Q D A nL cs (pc + 1) (va_rf (f i.toNatClampNeg) :: st) (lv) (wl E G)) : VV p l e R s m args below meth c Q D A nL cs (pc) (.int i :: .ref (eA E o k) :: st) (lv) (wl E G) := by
  intro H locs ls hcs hP hD hS hl
  obtain ⟨q0, hq0⟩ := wl_at G hm
  rw [hc] at hq0
  exact va_aldq K.1 K.2.1 K.2.2.2.2.2.2.1.1 hP q0 2 hq0 rfl hin hdg (kk H locs ls hcs hP hD hS hl)
theorem v_aldqN (K : Cx p s m args meth c D E A own cc nL ret Ts) {G : Gs} {o k n : Nat} {f : Nat → Option Nat} {i : Int32} (hdg : decode cc pc = .ok (.aaload, 1)) (hm : (o, k) ∈ eW E) (hc : cel E o k (G o k) = .inl (eL E, n, .inr (.inr (.inr (.inr f))))) (hin : vp_in i n) (hv : f i.toNatClampNeg = none) (kk : VV p l e R s m args below meth c Q D A nL cs (pc + 1) (.null :: st) (lv) (wl E G)) : VV p l e R s m args below meth c Q D A nL cs (pc) (.int i :: .ref (eA E o k) :: st) (lv) (wl E G) := v_aldq K hdg hm hc hin (by rw [hv]; exact kk)
theorem v_aldqR (K : Cx p s m args meth c D E A own cc nL ret Ts) {G : Gs} {o k n a : Nat} {f : Nat → Option Nat} {i : Int32} (hdg : decode cc pc = .ok (.aaload, 1)) (hm : (o, k) ∈ eW E) (hc : cel E o k (G o k) = .inl (eL E, n, .inr (.inr (.inr (.inr f))))) (hin : vp_in i n) (hv : f i.toNatClampNeg = some a) (kk : VV p l e R s m args below meth c Q D A nL cs (pc + 1) (.ref a :: st) (lv) (wl E G)) : VV p l e R s m args below meth c Q D A nL cs (pc) (.int i :: .ref (eA E o k) :: st) (lv) (wl E G) := v_aldq K hdg hm hc hin (by rw [hv]; exact kk)
theorem vp_lt {i : Int32} {n : Nat} (h : vp_in i n) : i.toNatClampNeg < n := Nat.lt_of_not_le (fun q => h (Or.inr q))
def stAt {β : Type} (x : Int32) (k : Nat → Option β) : Option β := if x < 0 ∨ 6 ≤ x.toNatClampNeg then none else k x.toNatClampNeg
theorem stAt_el {β : Type} {x : Int32} {k : Nat → Option β} {r : β} (h : stAt x k = some r) : ∃ j, j < 6 ∧ x = nI j ∧ k j = some r := by
  unfold stAt at h
  split at h
  · cases h
  · rename_i h1
    obtain ⟨j, hj, rfl⟩ := vp_in_of (n := 6) h1 (by decide)
    rw [nI_clamp (by omega)] at h
    exact ⟨j, hj, rfl, h⟩
theorem c_X2_stateAt {l : Launch} {D : va_G} {E : En} {A : Nat → Prop} {S : Gs} {x1 : Int32} {j : Nat} (hT : TopG E) (hj : j < 6) (hx : (S 0 1 1 + x1) - (S 0 1 1 + x1) / 6 * 6 = nI j) : Ctr l D E A yX2_stateAt cX2_stateAt 3 (some (.object "ShoutGroups$Library")) (rmD 0) [.ref (eA E 0 1), .int x1] (wl E S) (some (.ref (eA E (j + 4) 0))) (wl E S) := by
  refine Ctr.of (own := RX2) pn_X2 rfl (Nat.le_of_ble_eq_true rfl) ?_
  intro p e s m args below meth c K
  refine v_lv (lv' := [(0, .ref (eA E 0 1)), (1, .int x1)]) rfl ?_
  refine v_aload_n K 0 dX2_stateAt_0 rfl rfl ?_
  refine v_get K fk_X2_22 dX2_stateAt_1 (hT 1 (by decide)) rfl rfl ?_
  refine v_iload_n K 1 dX2_stateAt_4 rfl rfl ?_
  refine v_iadd K dX2_stateAt_5 ?_
  refine v_bipush K dX2_stateAt_6 kb_6 ?_
  refine v_irem K dX2_stateAt_8 (by decide) ?_
  rw [hx]
  refine v_istore_n (lv' := [(2, .int (nI j)), (0, .ref (eA E 0 1)), (1, .int x1)]) K dX2_stateAt_9 rfl (by decide) rfl ?_
  refine v_iload_n K 0 dX2_stateAt_10 rfl rfl ?_
  refine v_if_lt (tgt := 32) K dX2_stateAt_11 (by decide) (fun h1 => absurd h1 (nI_pos (by omega))) (fun h1 => ?_)
  refine v_iload_n K 0 dX2_stateAt_14 rfl rfl ?_
  refine v_aload_n K 1 dX2_stateAt_15 rfl rfl ?_
  refine v_get K fk_X2_11 dX2_stateAt_16 (hT 1 (by decide)) rfl rfl ?_
  refine v_alenq K dX2_stateAt_19 (hT 2 (by decide)) rfl rfl ?_
  refine v_icmp_ge (tgt := 32) K dX2_stateAt_20 (by decide) (fun h2 => absurd h2 (nI_ge hj (by decide))) (fun h2 => ?_)
  refine v_aload_n K 1 dX2_stateAt_23 rfl rfl ?_
  refine v_get K fk_X2_11 dX2_stateAt_24 (hT 1 (by decide)) rfl rfl ?_
  refine v_iload_n K 0 dX2_stateAt_27 rfl rfl ?_
  refine v_aldqR K dX2_stateAt_28 (hT 2 (by decide)) rfl (vp_in_nI hj (by decide)) (by rw [nI_clamp (by omega)]; exact if_pos hj) ?_
  refine v_goto (tgt := 33) K dX2_stateAt_29 (by decide) ?_
  intro H locs ls hcs hP hD hS hl
  exact W.aret K.1 K.2.1 K.2.2.2.2.2.2.2.1 (Or.inl ⟨_, rfl⟩) (Or.inr ⟨_, rfl⟩) (fun t ht hW => ⟨⟨rfl, by rw [ht]; exact hP, hD⟩, hS.F ht⟩) hS.2.2 dX2_stateAt_33 K.2.2.2.2.2.2.2.2
