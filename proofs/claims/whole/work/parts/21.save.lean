variable {l : Launch} {D : va_G} {E : En} {A : Nat → Prop}
/-! save: a slot's library is made when it is first saved in -/
def svG (S : Gs) (j : Nat) : Gs := va_up (va_up S (j + 10) lbS) 0 (sp (S 0) 3 j 1)
theorem svG_slots (S : Gs) (j : Nat) : svG S j 0 3 = upd (S 0 3) j 1 := by
  unfold svG
  rw [up_self]
  unfold sp
  rw [up_self]
def f_X8_save (S : Gs) (x1 : Int32) : Option (Int32 × Gs) := if x1 < 0 then some (-2, S) else if x1 < 2 then bnd (f_X3_copyFrom (if S 0 3 x1.toNatClampNeg = 0 then svG S x1.toNatClampNeg else S) (x1.toNatClampNeg + 8) 0) (fun S2 => some (rat 3 (S2 2 29) 0, S2)) else some (-2, S)
def EF (E : En) (G : Gs) : Prop := TopG E ∧ ModG E ∧ (∀ b, b < 8 → LibG E b) ∧ (∀ j, j < 2 → ¬ G 0 3 j = 0 → LibG E (j + 8)) ∧ ∀ j, j < 2 → G 0 3 j = 0 → ∀ k, (j + 10, k) ∉ eW E
theorem EF.keep {G G' : Gs} (h : EF E G) (h3 : ∀ j, G' 0 3 j = G 0 3 j) : EF E G' := ⟨h.1, h.2.1, h.2.2.1, fun j hj hn => h.2.2.2.1 j hj (by rw [← h3 j]; exact hn), fun j hj hn => h.2.2.2.2 j hj (by rw [← h3 j]; exact hn)⟩
theorem libC_congr {E2 : En} {o o2 : Nat} (hA : ∀ t, eA E o t = eA E2 o2 t) (hI : eI E = eI E2) (k : Nat) (f : FN) : libC E o k f = libC E2 o2 k f := by
  unfold libC
  split <;> simp only [hA, hI]
/-- the world with the new slot's library -/
def svE (E : En) (j : Nat) (a : Nat → Nat) : En := (E.1, (fun o k => if o = j + 10 then a k else eA E o k), eW E ++ (List.range 42).map (fun k => (j + 10, k)))
theorem svE_ne {j : Nat} {a : Nat → Nat} {o : Nat} (h : o ≠ j + 10) (k : Nat) : eA (svE E j a) o k = eA E o k := if_neg h
theorem svE_eq {j : Nat} {a : Nat → Nat} (k : Nat) : eA (svE E j a) (j + 10) k = a k := if_pos rfl
theorem svE_cel {j : Nat} {a : Nat → Nat} {o k : Nat} {f : FN} (hj : j < 2) (h : o ≠ j + 10) (h3 : ¬ (o = 0 ∧ k = 3)) : cel (svE E j a) o k f = cel E o k f := by
  have e0 : ∀ t, eA (svE E j a) 0 t = eA E 0 t := fun t => svE_ne (by omega) t
  have e1 : ∀ t, eA (svE E j a) 1 t = eA E 1 t := fun t => svE_ne (by omega) t
  have e2 : eA (svE E j a) 2 0 = eA E 2 0 := svE_ne (by omega) 0
  have e3 : eA (svE E j a) 3 0 = eA E 3 0 := svE_ne (by omega) 0
  match o with
  | 0 =>
    show topC _ k f = topC _ k f
    unfold topC
    split
    · simp only [e0, e2, e3]
    · simp only [e0]
    · refine congrArg (fun g : Nat → Option Nat => (.inl (eL E, 6, .inr (.inr (.inr (.inr g)))) : va_E)) (funext fun t => ?_)
      by_cases ht : t < 6
      · rw [if_pos ht, if_pos ht, svE_ne (by omega)]
      · rw [if_neg ht, if_neg ht]
    · exact absurd ⟨rfl, rfl⟩ h3
    · simp only [e0]
    · simp only [e0]
    · rfl
    · simp only [e0]
  | 1 =>
    show modC _ k f = modC _ k f
    unfold modC
    split <;> first | rfl | simp only [e1]
  | b + 2 => exact libC_congr (fun t => svE_ne h t) rfl k f
theorem svE_slots {j : Nat} {a : Nat → Nat} {f : FN} (hj : j < 2) : cel (svE E j a) 0 3 (upd f j 1) = .inl (eL E, 2, .inr (.inr (.inr (.inr (va_up (fun t => if f t = 0 then none else if t < 2 then some (eA E (t + 10) 0) else none) j (some (a 0))))))) := by
  refine congrArg (fun g : Nat → Option Nat => (.inl (eL E, 2, .inr (.inr (.inr (.inr g)))) : va_E)) (funext fun t => ?_)
  by_cases ht : t = j
  · subst ht
    rw [up_self, svE_eq]
    have : ¬ upd f t 1 t = 0 := by
      show ¬ (if t = t then (1 : Int32) else f t) = 0
      rw [if_pos rfl]; decide
    rw [if_neg this, if_pos hj]
  · rw [up_ne _ _ ht, svE_ne (by omega)]
    have : upd f j 1 t = f t := if_neg ht
    rw [this]
theorem wl_save {S : Gs} {j q0 : Nat} {a : Nat → Nat} (hj : j < 2) (hD : va_D A (wl E S)) (hm : (0, 3) ∈ eW E) (hno : ∀ k, (j + 10, k) ∉ eW E) {e0 : va_E} (h0 : (wl E S)[q0]? = some (eA E 0 3, e0)) :
    (wl E S).set q0 (eA E 0 3, .inl (eL E, 2, .inr (.inr (.inr (.inr (va_up (fun t => if S 0 3 t = 0 then none else if t < 2 then some (eA E (t + 10) 0) else none) j (some (a 0)))))))) ++ lbW E a lbS = wl (svE E j a) (svG S j) := by
  have hl : q0 < (wl E S).length := (List.getElem?_eq_some_iff.mp h0).1
  have apart : ∀ (i : Nat) (q : Nat × Nat), (eW E)[i]? = some q → q = (0, 3) → i = q0 := by
    intro i q hi hq
    subst hq
    have h1 : (wl E S)[i]? = some (eA E 0 3, celG E S (0, 3)) := by rw [wl, List.getElem?_map, hi]; rfl
    exact hD.1 i q0 _ _ h1 h0 rfl
  obtain ⟨i0, hi0⟩ := List.getElem?_of_mem hm
  have hi : i0 = q0 := apart i0 _ hi0 rfl
  subst hi
  have hsplit : wl (svE E j a) (svG S j) = (eW E).map (fun q => (eA (svE E j a) q.1 q.2, celG (svE E j a) (svG S j) q)) ++ ((List.range 42).map (fun k => (j + 10, k))).map (fun q => (eA (svE E j a) q.1 q.2, celG (svE E j a) (svG S j) q)) := by
    show (eW E ++ _).map _ = _
    rw [List.map_append]
  rw [hsplit]
  congr 1
  · refine List.ext_getElem? (fun i => ?_)
    by_cases hii : i = i0
    · subst hii
      rw [List.getElem?_set_self hl, List.getElem?_map, hi0]
      show some _ = some _
      congr 1
      refine Prod.ext (svE_ne (E := E) (j := j) (a := a) (by omega) 3).symm ?_
      show _ = cel (svE E j a) 0 3 (svG S j 0 3)
      rw [svG_slots, svE_slots hj]
    · rw [List.getElem?_set_ne (Ne.symm hii), wl, List.getElem?_map, List.getElem?_map]
      cases hq : (eW E)[i]? with
      | none => rfl
      | some q =>
        obtain ⟨o, k⟩ := q
        have hne : ¬ (o, k) = (0, 3) := fun h => hii (apart i _ hq h)
        have ho : o ≠ j + 10 := fun h => hno k (by rw [← h]; exact List.mem_of_getElem? hq)
        show some _ = some _
        congr 1
        refine Prod.ext (svE_ne (E := E) (a := a) ho k).symm ?_
        show cel E o k (S o k) = cel (svE E j a) o k (svG S j o k)
        rw [svE_cel hj ho (fun h => hne (by rw [h.1, h.2]))]
        congr 1
        unfold svG
        by_cases h0' : o = 0
        · subst h0'
          have hk : k ≠ 3 := fun h => hne (by rw [h])
          rw [up_self]
          unfold sp
          rw [up_ne _ _ hk]
        · rw [up_ne _ _ h0', up_ne _ _ ho]
  · unfold lbW
    rw [List.map_map]
    refine List.map_congr_left (fun k _ => ?_)
    show (a k, _) = (eA (svE E j a) (j + 10) k, cel (svE E j a) (j + 8 + 2) k (svG S j (j + 10) k))
    refine Prod.ext (svE_eq k).symm ?_
    show libC (lbE E a) 0 k (lbS k) = libC (svE E j a) (j + 8 + 2) k (svG S j (j + 10) k)
    have : svG S j (j + 10) k = lbS k := by
      unfold svG
      rw [up_ne _ _ (by omega), up_self]
    rw [this]
    exact libC_congr (E := lbE E a) (E2 := svE E j a) (o := 0) (o2 := j + 8 + 2) (fun t => (svE_eq (E := E) (j := j) (a := a) t).symm) rfl k (lbS k)
theorem svE_EF {S : Gs} {j : Nat} {a : Nat → Nat} (hj : j < 2) (h : EF E S) (h0 : S 0 3 j = 0) : EF (svE E j a) (svG S j) := by
  have inc : ∀ q, q ∈ eW E → q ∈ eW (svE E j a) := fun q hq => List.mem_append_left _ hq
  have s3 : ∀ t, svG S j 0 3 t = upd (S 0 3) j 1 t := fun t => by rw [svG_slots]
  refine ⟨fun k hk => inc _ (h.1 k hk), fun k hk => inc _ (h.2.1 k hk), fun b hb k hk => inc _ (h.2.2.1 b hb k hk), fun t ht hn k hk => ?_, fun t ht hz k hk => ?_⟩
  · by_cases htj : t = j
    · subst htj
      exact List.mem_append_right _ (List.mem_map.mpr ⟨k, List.mem_range.mpr hk, rfl⟩)
    · rw [s3, show upd (S 0 3) j 1 t = S 0 3 t from if_neg htj] at hn
      exact inc _ (h.2.2.2.1 t ht hn k hk)
  · by_cases htj : t = j
    · subst htj
      rw [s3, show upd (S 0 3) t 1 t = 1 from if_pos rfl] at hz
      exact absurd hz (by decide)
    · rw [s3, show upd (S 0 3) j 1 t = S 0 3 t from if_neg htj] at hz
      rcases List.mem_append.mp hk with hk | hk
      · exact h.2.2.2.2 t ht hz k hk
      · obtain ⟨k', -, h2⟩ := List.mem_map.mp hk
        have := congrArg Prod.fst h2
        simp at this
        omega
theorem rcp_3 (G : Gs) (o k o' k' n : Nat) (ho : o ≠ 0) (i j : Nat) : rcp G o k o' k' n 0 i j = G 0 i j := by
  unfold rcp
  rw [up_ne _ _ (Ne.symm ho)]
theorem cf_0 (S : Gs) (b b' i j : Nat) : f_X3_copyFrom S b b' 0 i j = S 0 i j := by
  unfold f_X3_copyFrom f_X1_copyFrom f_X7_copyFrom f_X0_copyFrom bnd
  simp [rcp_3, va_up]
set_option maxRecDepth 20000 in
theorem c_X8_save {S S' : Gs} {x1 r : Int32} (hE : EF E S) (hf : f_X8_save S x1 = some (r, S')) : CtrA l D E A yX8_save cX8_save 3 (some .int) ({ frames := 6, cells := 42, slots := 838, locals := 180 } : Room) [.ref (eA E 0 0), .int x1] (wl E S) (some (.int r)) (fun ws1 => ∃ E' : En, E'.1 = E.1 ∧ eA E' 0 0 = eA E 0 0 ∧ eA E' 1 0 = eA E 1 0 ∧ EF E' S' ∧ ws1 = wl E' S') 42 838 := by
  refine CtrA.of (own := RX8) pn_X8 rfl (Nat.le_of_ble_eq_true rfl) ?_
  intro p e s m args below meth c K hO hA hin
  refine v_lv (lv' := [(0, .ref (eA E 0 0)), (1, .int x1)]) rfl ?_
  obtain ⟨hT, hM, hLs, hSl, hNo⟩ := id hE
  unfold f_X8_save at hf
  refine v_iload_n K 1 dX8_save_0 rfl rfl ?_
  refine v_if_lt (tgt := 13) K dX8_save_1 (by decide) (fun h1 => ?_) (fun h1 => ?_)
  · have hf := it_pos h1 hf
    cases hf
    refine v_bipush K dX8_save_13 kb_m2 ?_
    exact v_iretA K rfl dX8_save_15 rfl ⟨E, rfl, rfl, rfl, hE, rfl⟩ ⟨Nat.zero_le _, Nat.zero_le _⟩
  · have hf := it_neg h1 hf
    refine v_iload_n K 1 dX8_save_4 rfl rfl ?_
    refine v_aload_n K 0 dX8_save_5 rfl rfl ?_
    refine v_get K fk_X8_26 dX8_save_6 (hT 0 (by decide)) rfl rfl ?_
    refine v_alenq K dX8_save_9 (hT 3 (by decide)) rfl rfl ?_
    refine v_icmp_lt (tgt := 16) K dX8_save_10 (by decide) (fun h2 => ?_) (fun h2 => ?_)
    · have hf := it_pos h2 hf
      obtain ⟨S2, hS2, hf⟩ := bnd_el hf
      cases hf
      have hvi : vp_in x1 2 := row_in (by decide) h1 (fun h => absurd h2 (Int32.not_lt.mpr h))
      have hj : x1.toNatClampNeg < 2 := vp_lt hvi
      have tail : ∀ (E' : En) (S1 : Gs) (cs : Nat × Nat), (cs.1 ≤ 42 ∧ cs.2 ≤ 838) → E'.1 = E.1 → eA E' 0 0 = eA E 0 0 → eA E' 1 0 = eA E 1 0 → EF E' S1 → ¬ S1 0 3 x1.toNatClampNeg = 0 → S' = f_X3_copyFrom S1 (x1.toNatClampNeg + 8) 0 → VV p l e ({ frames := 6, cells := 42, slots := 838, locals := 180 } : Room) s m args below meth c (MQ below (CQA D A (some (.int (rat 3 (S' 2 29) 0))) (fun ws1 => ∃ E' : En, E'.1 = E.1 ∧ eA E' 0 0 = eA E 0 0 ∧ eA E' 1 0 = eA E 1 0 ∧ EF E' S' ∧ ws1 = wl E' S')) args s 42 838 A) D A 3 cs 42 [] [(0, .ref (eA E' 0 0)), (1, .int x1), (2, .ref (eA E' (x1.toNatClampNeg + 10) 0))] (wl E' S1) := by
        intro E' S1 cs hcs hE1 hE2 hE3 hEF hnz hS
        have K' : Cx p s m args meth c D E' A RX8 cX8_save 3 (some .int) (.code yX8_save cX8_save 3 (some .int) :: wsL_law) := by
          have ht : eT E' = eT E := by
            show [(E'.1.1, _), (E'.1.2.1, _), (E'.1.2.2, _)] = _
            rw [hE1]
          obtain ⟨k1, k2, k3, k4, k5, k6, k7, k8, k9⟩ := K
          exact ⟨k1, k2, k3, k4, k5, k6, by rw [ht]; exact k7, k8, k9⟩
        have hEF2 : EF E' S' := hEF.keep (fun j => by rw [hS]; exact cf_0 _ _ _ _ _)
        refine v_aload_n K' 2 dX8_save_42 rfl rfl ?_
        refine v_aload_n K' 0 dX8_save_43 rfl rfl ?_
        refine v_get K' fk_X8_10 dX8_save_44 (hEF.1 0 (by decide)) rfl rfl ?_
        refine v_callWn (As := [.ref (eA E' 2 0)]) (rest := []) K' mk_X8_266 dX8_save_47 (c_X3_copyFrom (hEF.2.2.2.1 _ hj hnz) (hEF.2.2.1 0 (by decide)) hS.symm) (hEF.2.2.2.1 _ hj hnz 0 (by decide)) rfl rfl rfl rfl rfl (Nat.le_of_ble_eq_true rfl) ⟨rfl, rfl⟩ ⟨Nat.le_of_ble_eq_true rfl, Nat.le_of_ble_eq_true rfl⟩ ?_
        refine v_aload_n K' 0 dX8_save_50 rfl rfl ?_
        refine v_get K' fk_X8_10 dX8_save_51 (hEF.1 0 (by decide)) rfl rfl ?_
        refine v_getN K' fn_X8_181 dX8_save_54 (hEF.2.2.1 0 (by decide) 0 (by decide)) rfl rfl ?_
        refine v_iconst K' dX8_save_57 ki_0 ?_
        refine v_callWi (As := [.int 0]) (rest := []) K' mk_X8_64 dX8_save_58 (Ctr.gidr (o := 2) (k_row_at (by decide) (rl_28 (o := 2) rfl (hEF.2.2.1 0 (by decide))) rfl)) (hEF.2.2.1 0 (by decide) 28 (by decide)) rfl rfl rfl rfl rfl (Nat.le_of_ble_eq_true rfl) ⟨rfl, rfl⟩ ⟨Nat.le_of_ble_eq_true rfl, Nat.le_of_ble_eq_true rfl⟩ ?_
        exact v_iretA K' rfl dX8_save_61 rfl ⟨E', hE1, hE2, hE3, hEF2, rfl⟩ hcs
      refine v_aload_n K 0 dX8_save_16 rfl rfl ?_
      refine v_get K fk_X8_26 dX8_save_17 (hT 0 (by decide)) rfl rfl ?_
      refine v_iload_n K 1 dX8_save_20 rfl rfl ?_
      by_cases h3 : S 0 3 x1.toNatClampNeg = 0
      · rw [if_pos h3] at hS2
        refine v_aldqN K dX8_save_21 (hT 3 (by decide)) rfl hvi (if_pos h3) ?_
        refine v_astoreN_n (lv' := [(2, .null), (0, .ref (eA E 0 0)), (1, .int x1)]) K dX8_save_22 rfl (by decide) rfl ?_
        refine v_aloadN_n K 0 dX8_save_23 rfl rfl ?_
        refine v_ifnonnullN K dX8_save_24 ?_
        refine v_new K hA nw_X8_7 dX8_save_27 ⟨Nat.le_of_ble_eq_true rfl, Nat.le_of_ble_eq_true rfl⟩ (fun q => ?_)
        refine v_dup K dX8_save_30 rfl ?_
        refine v_callI (As := []) (rest := [.ref q]) K hO hA mi_X8_9 dX8_save_31 c_X3_init rfl rfl rfl (Nat.le_of_ble_eq_true rfl) ⟨Nat.le_of_ble_eq_true rfl, Nat.le_of_ble_eq_true rfl⟩ ⟨Nat.le_of_ble_eq_true rfl, Nat.le_of_ble_eq_true rfl⟩ (fun ws1 hB => ?_)
        obtain ⟨a, ha, rfl⟩ := hB
        subst ha
        refine v_astore_n (lv' := [(2, .ref (a 0)), (0, .ref (eA E 0 0)), (1, .int x1)]) K dX8_save_34 rfl (by decide) rfl ?_
        refine v_aload_n K 1 dX8_save_35 rfl rfl ?_
        intro H locs ls hcs hP hD hS hl
        obtain ⟨qt, hqt⟩ := wl_at S (hT 0 (by decide))
        refine v_getP (q0 := qt) K fk_X8_26 dX8_save_36 (at_L (hqt.trans rfl)) rfl ?_ H locs ls hcs hP hD hS hl
        refine v_iload_n K 2 dX8_save_39 rfl rfl ?_
        refine v_aload_n K 0 dX8_save_40 rfl rfl ?_
        clear hl hS hP hcs
        intro H locs ls hcs hP hD hS hl
        obtain ⟨q0, hq0⟩ := wl_at S (hT 3 (by decide))
        have hD0 : va_D A (wl E S) := ⟨fun i j p q hi hj => hD.1 i j p q (at_L hi) (at_L hj), fun k q hk => hD.2 k q (at_L hk)⟩
        have hset := wl_save (a := a) hj hD0 (hT 3 (by decide)) (hNo _ hj h3) hq0
        refine v_astqP (q0 := q0) (r := (RX3, TX3, 12)) (ci := 3) K dX8_save_41 (at_L (hq0.trans rfl)) ((at_X _ _ 0).trans rfl) rfl rfl hvi ((set_L hq0).trans hset) ?_ H locs ls hcs hP hD hS hl
        refine v_lsub [1, 2, 0] rfl ?_
        have := tail (svE E x1.toNatClampNeg a) (svG S x1.toNatClampNeg) (0 + 1 + 41, 0 + 12 + 826) ⟨Nat.le_of_ble_eq_true rfl, Nat.le_of_ble_eq_true rfl⟩ rfl (svE_ne (by omega) 0) (svE_ne (by omega) 0) (svE_EF hj hE h3) (by
          rw [svG_slots]
          show ¬ (if x1.toNatClampNeg = x1.toNatClampNeg then (1 : Int32) else _) = 0
          rw [if_pos rfl]
          decide) hS2
        rw [svE_eq, svE_ne (by omega) 0] at this
        exact this
      · rw [if_neg h3] at hS2
        refine v_aldqR K dX8_save_21 (hT 3 (by decide)) rfl hvi ((if_neg h3).trans (if_pos hj)) ?_
        refine v_astore_n (lv' := [(2, .ref (eA E (x1.toNatClampNeg + 10) 0)), (0, .ref (eA E 0 0)), (1, .int x1)]) K dX8_save_22 rfl (by decide) rfl ?_
        refine v_aload_n K 0 dX8_save_23 rfl rfl ?_
        refine v_ifnonnull (tgt := 42) K dX8_save_24 (by decide) ?_
        refine v_lsub [1, 2, 0] rfl ?_
        exact tail E S (0, 0) ⟨Nat.zero_le _, Nat.zero_le _⟩ rfl rfl rfl hE h3 hS2
    · have hf := it_neg h2 hf
      cases hf
      refine v_bipush K dX8_save_13 kb_m2 ?_
      exact v_iretA K rfl dX8_save_15 rfl ⟨E, rfl, rfl, rfl, hE, rfl⟩ ⟨Nat.zero_le _, Nat.zero_le _⟩
