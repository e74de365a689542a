theorem tn_0 {w : Cond} (i : Nat) (h : tables_1_1[i]? = some w) : w ∈ lw_tbl := List.mem_append_right _ ((fun h => List.mem_append_left _ h) (List.mem_of_getElem? h))
theorem tn_1 {w : Cond} (i : Nat) (h : tables_1_2[i]? = some w) : w ∈ lw_tbl := List.mem_append_right _ ((fun h => List.mem_append_right _ (List.mem_append_left _ h)) (List.mem_of_getElem? h))
theorem tn_2 {w : Cond} (i : Nat) (h : tables_1_3[i]? = some w) : w ∈ lw_tbl := List.mem_append_right _ ((fun h => List.mem_append_right _ (List.mem_append_right _ (List.mem_append_left _ h))) (List.mem_of_getElem? h))
theorem tn_3 {w : Cond} (i : Nat) (h : tables_1_4[i]? = some w) : w ∈ lw_tbl := List.mem_append_right _ ((fun h => List.mem_append_right _ (List.mem_append_right _ (List.mem_append_right _ (List.mem_append_left _ h)))) (List.mem_of_getElem? h))
theorem tn_4 {w : Cond} (i : Nat) (h : tables_1_5[i]? = some w) : w ∈ lw_tbl := List.mem_append_right _ ((fun h => List.mem_append_right _ (List.mem_append_right _ (List.mem_append_right _ (List.mem_append_right _ (h))))) (List.mem_of_getElem? h))
theorem nF_in : ∀ q ∈ nF, nwF q ∈ lw_tbl := (List.forall_mem_cons.mpr ⟨tn_0 31 rfl, (List.forall_mem_cons.mpr ⟨tn_0 51 rfl, (List.forall_mem_cons.mpr ⟨tn_0 52 rfl, (List.forall_mem_cons.mpr ⟨tn_0 54 rfl, (List.forall_mem_cons.mpr ⟨tn_0 69 rfl, (List.forall_mem_cons.mpr ⟨tn_0 70 rfl, (List.forall_mem_cons.mpr ⟨tn_0 75 rfl, (List.forall_mem_cons.mpr ⟨tn_0 76 rfl, (List.forall_mem_cons.mpr ⟨tn_0 97 rfl, (List.forall_mem_cons.mpr ⟨tn_0 99 rfl, (List.forall_mem_cons.mpr ⟨tn_0 101 rfl, (List.forall_mem_cons.mpr ⟨tn_0 104 rfl, (List.forall_mem_cons.mpr ⟨tn_0 105 rfl, (List.forall_mem_cons.mpr ⟨tn_0 122 rfl, (List.forall_mem_cons.mpr ⟨tn_0 124 rfl, (List.forall_mem_cons.mpr ⟨tn_0 126 rfl, (List.forall_mem_cons.mpr ⟨tn_0 128 rfl, (List.forall_mem_cons.mpr ⟨tn_0 130 rfl, (List.forall_mem_cons.mpr ⟨tn_0 132 rfl, (List.forall_mem_cons.mpr ⟨tn_0 134 rfl, (List.forall_mem_cons.mpr ⟨tn_0 136 rfl, (List.forall_mem_cons.mpr ⟨tn_0 138 rfl, (List.forall_mem_cons.mpr ⟨tn_0 140 rfl, (List.forall_mem_cons.mpr ⟨tn_0 142 rfl, (List.forall_mem_cons.mpr ⟨tn_0 144 rfl, (List.forall_mem_cons.mpr ⟨tn_0 182 rfl, (List.forall_mem_cons.mpr ⟨tn_0 206 rfl, (List.forall_mem_cons.mpr ⟨tn_0 207 rfl, (List.forall_mem_cons.mpr ⟨tn_0 214 rfl, (List.forall_mem_cons.mpr ⟨tn_0 216 rfl, (List.forall_mem_cons.mpr ⟨tn_0 219 rfl, (List.forall_mem_cons.mpr ⟨tn_0 221 rfl, (List.forall_mem_cons.mpr ⟨tn_0 223 rfl, (List.forall_mem_cons.mpr ⟨tn_0 225 rfl, (fun _ h => absurd h List.not_mem_nil)⟩)⟩)⟩)⟩)⟩)⟩)⟩)⟩)⟩)⟩)⟩)⟩)⟩)⟩)⟩)⟩)⟩)⟩)⟩)⟩)⟩)⟩)⟩)⟩)⟩)⟩)⟩)⟩)⟩)⟩)⟩)⟩)⟩)⟩)
theorem nM_in : ∀ q ∈ nM, nwM q ∈ lw_tbl := (List.forall_mem_cons.mpr ⟨tn_0 44 rfl, (List.forall_mem_cons.mpr ⟨tn_0 62 rfl, (List.forall_mem_cons.mpr ⟨tn_0 90 rfl, (List.forall_mem_cons.mpr ⟨tn_0 192 rfl, (List.forall_mem_cons.mpr ⟨tn_0 198 rfl, (List.forall_mem_cons.mpr ⟨tn_1 90 rfl, (List.forall_mem_cons.mpr ⟨tn_1 93 rfl, (List.forall_mem_cons.mpr ⟨tn_1 101 rfl, (List.forall_mem_cons.mpr ⟨tn_1 142 rfl, (List.forall_mem_cons.mpr ⟨tn_1 162 rfl, (List.forall_mem_cons.mpr ⟨tn_1 165 rfl, (List.forall_mem_cons.mpr ⟨tn_1 166 rfl, (List.forall_mem_cons.mpr ⟨tn_1 167 rfl, (List.forall_mem_cons.mpr ⟨tn_1 222 rfl, (fun _ h => absurd h List.not_mem_nil)⟩)⟩)⟩)⟩)⟩)⟩)⟩)⟩)⟩)⟩)⟩)⟩)⟩)⟩)
theorem ao_in : Cond.arrayOver (.object RX3) ∈ lw_tbl := tn_0 177 rfl
theorem ls_LOWEST : Cond.laysStatic RX8 "LOWEST" "[I" ∈ lw_tbl := tn_1 28 rfl
theorem ls_HIGHEST : Cond.laysStatic RX8 "HIGHEST" "[I" ∈ lw_tbl := tn_1 30 rfl
theorem ls_AT_FIRST : Cond.laysStatic RX8 "AT_FIRST" "[I" ∈ lw_tbl := tn_0 32 rfl
theorem start_sa {s : State} {b : Nat} {nm : String} {f : FN} (hts : ∀ w ∈ lw_tbl, w.before #[Value.ref b] s = true) (hl : Cond.laysStatic RX8 nm "[I" ∈ lw_tbl) (harr : (Cond.arrayOf (.static RX8 nm "[I") .int).before #[Value.ref b] s = true) (hlen : (Cond.eq (.length (.static RX8 nm "[I")) (.int 4)).before #[Value.ref b] s = true)
    (he : ∀ j, j < 4 → (Cond.eq (.elem (.static RX8 nm "[I") (.int (Int32.ofNat j))) (.int (f j))).before #[Value.ref b] s = true) : saT nm f (fun q => s.heap.size ≤ q) s s.heap := by
  have hA : ∀ a : Nat, a < s.heap.size → ¬ s.heap.size ≤ a := fun a h => Nat.not_le.mpr h
  obtain ⟨t, ht, hT⟩ := va_Tof (tm := .static RX8 nm "[I") (ty := .int) (N := 4) (f := fun j => .int (f j)) (A := fun q => s.heap.size ≤ q) (by decide) harr (va_eqt hlen) (fun j hj => va_eqt (he j hj)) hA
  exact ⟨t, va_Zof (hts _ hl) (hts _ (wsL_in _ ini_X8)) ht hA, hT⟩
theorem start_LOWEST {s : State} {b : Nat} (hts : ∀ w ∈ lw_tbl, w.before #[Value.ref b] s = true) (hg : (Jvm.Cond.and given_1 narrow_1).before #[Value.ref b] s = true) : saT "LOWEST" fLow (fun q => s.heap.size ≤ q) s s.heap := by
  have hs := flat_of_before _ hg
  refine start_sa hts ls_LOWEST (hs (Cond.arrayOf (.static "ShoutGroups" "LOWEST" "[I") .int) (by decide +kernel)) (hs (Cond.eq (.length (.static "ShoutGroups" "LOWEST" "[I")) (.int 4)) (by decide +kernel)) (fun j hj => ?_)
  match j, hj with
  | 0, _ => exact hs (Cond.eq (.elem (.static "ShoutGroups" "LOWEST" "[I") (.int 0)) (.int 0)) (by decide +kernel)
  | 1, _ => exact hs (Cond.eq (.elem (.static "ShoutGroups" "LOWEST" "[I") (.int 1)) (.int 1)) (by decide +kernel)
  | 2, _ => exact hs (Cond.eq (.elem (.static "ShoutGroups" "LOWEST" "[I") (.int 2)) (.int 1)) (by decide +kernel)
  | 3, _ => exact hs (Cond.eq (.elem (.static "ShoutGroups" "LOWEST" "[I") (.int 3)) (.int 0)) (by decide +kernel)
  | k + 4, h => exact absurd h (by omega)
theorem start_HIGHEST {s : State} {b : Nat} (hts : ∀ w ∈ lw_tbl, w.before #[Value.ref b] s = true) (hg : (Jvm.Cond.and given_1 narrow_1).before #[Value.ref b] s = true) : saT "HIGHEST" fHigh (fun q => s.heap.size ≤ q) s s.heap := by
  have hs := flat_of_before _ hg
  refine start_sa hts ls_HIGHEST (hs (Cond.arrayOf (.static "ShoutGroups" "HIGHEST" "[I") .int) (by decide +kernel)) (hs (Cond.eq (.length (.static "ShoutGroups" "HIGHEST" "[I")) (.int 4)) (by decide +kernel)) (fun j hj => ?_)
  match j, hj with
  | 0, _ => exact hs (Cond.eq (.elem (.static "ShoutGroups" "HIGHEST" "[I") (.int 0)) (.int 4)) (by decide +kernel)
  | 1, _ => exact hs (Cond.eq (.elem (.static "ShoutGroups" "HIGHEST" "[I") (.int 1)) (.int 8)) (by decide +kernel)
  | 2, _ => exact hs (Cond.eq (.elem (.static "ShoutGroups" "HIGHEST" "[I") (.int 2)) (.int 8)) (by decide +kernel)
  | 3, _ => exact hs (Cond.eq (.elem (.static "ShoutGroups" "HIGHEST" "[I") (.int 3)) (.int 1)) (by decide +kernel)
  | k + 4, h => exact absurd h (by omega)
theorem start_AT_FIRST {s : State} {b : Nat} (hts : ∀ w ∈ lw_tbl, w.before #[Value.ref b] s = true) (hg : (Jvm.Cond.and given_1 narrow_1).before #[Value.ref b] s = true) : saT "AT_FIRST" fFirst (fun q => s.heap.size ≤ q) s s.heap := by
  have hs := flat_of_before _ hg
  refine start_sa hts ls_AT_FIRST (hs (Cond.arrayOf (.static "ShoutGroups" "AT_FIRST" "[I") .int) (by decide +kernel)) (hs (Cond.eq (.length (.static "ShoutGroups" "AT_FIRST" "[I")) (.int 4)) (by decide +kernel)) (fun j hj => ?_)
  match j, hj with
  | 0, _ => exact hs (Cond.eq (.elem (.static "ShoutGroups" "AT_FIRST" "[I") (.int 0)) (.int 2)) (by decide +kernel)
  | 1, _ => exact hs (Cond.eq (.elem (.static "ShoutGroups" "AT_FIRST" "[I") (.int 1)) (.int 4)) (by decide +kernel)
  | 2, _ => exact hs (Cond.eq (.elem (.static "ShoutGroups" "AT_FIRST" "[I") (.int 2)) (.int 3)) (by decide +kernel)
  | 3, _ => exact hs (Cond.eq (.elem (.static "ShoutGroups" "AT_FIRST" "[I") (.int 3)) (.int 0)) (by decide +kernel)
  | k + 4, h => exact absurd h (by omega)
theorem start_KW {s : State} {b : Nat} (hts : ∀ w ∈ lw_tbl, w.before #[Value.ref b] s = true) (hg : (Jvm.Cond.and given_1 narrow_1).before #[Value.ref b] s = true) : ∃ (D : va_G) (cid : ClassId × ClassId × ClassId), ∀ E : En, E.1 = cid → KW D (eT E) (fun q => s.heap.size ≤ q) s := by
  have hk : ∀ k : Nat, ∃ (c : ClassId) (i : Nat → Nat), ∀ q : vw_C, vwCl[k]? = some q → u_Kn s q.1 q.2.1 q.2.2 c i := by
    intro k
    match k with
    | 0 => obtain ⟨c, i, h⟩ := u_known (C := RX0) (T := TX0) (N := 5) hts (fun w h => wsL_in w (inlX0 w h)) (hts _ (wsL_in _ ins_X0)); exact ⟨c, i, fun q hq => by cases hq; exact h⟩
    | 1 => obtain ⟨c, i, h⟩ := u_known (C := RX1) (T := TX1) (N := 2) hts (fun w h => wsL_in w (inlX1 w h)) (hts _ (wsL_in _ ins_X1)); exact ⟨c, i, fun q hq => by cases hq; exact h⟩
    | 2 => obtain ⟨c, i, h⟩ := u_known (C := RX2) (T := TX2) (N := 3) hts (fun w h => wsL_in w (inlX2 w h)) (hts _ (wsL_in _ ins_X2)); exact ⟨c, i, fun q hq => by cases hq; exact h⟩
    | 3 => obtain ⟨c, i, h⟩ := u_known (C := RX3) (T := TX3) (N := 12) hts (fun w h => wsL_in w (inlX3 w h)) (hts _ (wsL_in _ ins_X3)); exact ⟨c, i, fun q hq => by cases hq; exact h⟩
    | 4 => obtain ⟨c, i, h⟩ := u_known (C := RX4) (T := TX4) (N := 7) hts (fun w h => wsL_in w (inlX4 w h)) (hts _ (wsL_in _ ins_X4)); exact ⟨c, i, fun q hq => by cases hq; exact h⟩
    | 5 => obtain ⟨c, i, h⟩ := u_known (C := RX5) (T := TX5) (N := 2) hts (fun w h => wsL_in w (inlX5 w h)) (hts _ (wsL_in _ ins_X5)); exact ⟨c, i, fun q hq => by cases hq; exact h⟩
    | 6 => obtain ⟨c, i, h⟩ := u_known (C := RX6) (T := TX6) (N := 1) hts (fun w h => wsL_in w (inlX6 w h)) (hts _ (wsL_in _ ins_X6)); exact ⟨c, i, fun q hq => by cases hq; exact h⟩
    | 7 => obtain ⟨c, i, h⟩ := u_known (C := RX7) (T := TX7) (N := 5) hts (fun w h => wsL_in w (inlX7 w h)) (hts _ (wsL_in _ ins_X7)); exact ⟨c, i, fun q hq => by cases hq; exact h⟩
    | 8 => obtain ⟨c, i, h⟩ := u_known (C := RX8) (T := TX8) (N := 6) hts (fun w h => wsL_in w (inlX8 w h)) (hts _ (wsL_in _ ins_X8)); exact ⟨c, i, fun q hq => by cases hq; exact h⟩
    | 9 => obtain ⟨c, i, h⟩ := u_known (C := RX9) (T := TX9) (N := 14) hts (fun w h => wsL_in w (inlX9 w h)) (hts _ (wsL_in _ ins_X9)); exact ⟨c, i, fun q hq => by cases hq; exact h⟩
    | k + 10 => exact ⟨0, fun _ => 0, fun q hq => by simp [vwCl] at hq⟩
  obtain ⟨cI, kI, pI, i1, i2, i3⟩ := Cond.arrayClass_spec (hts _ (wsL_in _ ac_int))
  obtain ⟨cZ, kZ, pZ, z1, z2, z3⟩ := Cond.arrayClass_spec (hts _ (wsL_in _ ac_boolean))
  obtain ⟨comp, cL, kL, o1, o2, o3, o4, o5⟩ := Cond.arrayOver_spec (hts _ ao_in)
  refine ⟨(fun k => Classical.choose (hk k), fun k => Classical.choose (Classical.choose_spec (hk k))), (cI, cZ, cL), fun E he => ⟨⟨fun k q hq => Classical.choose_spec (Classical.choose_spec (hk k)) q hq, fun k q hq => ?_⟩, fun q h => va_Nw.of rfl (hts _ (nF_in q h)), fun q h => va_Nw.of rfl (hts _ (nM_in q h)), start_LOWEST hts hg, start_HIGHEST hts hg, start_AT_FIRST hts hg⟩⟩
  have hq' : [((cI, .int) : ClassId × FieldType), (cZ, .boolean), (cL, .object RX3)][k]? = some q := by
    have : eT E = [(cI, .int), (cZ, .boolean), (cL, .object RX3)] := by
      show [(E.1.1, _), (E.1.2.1, _), (E.1.2.2, _)] = _
      rw [he]
    rw [← this]
    exact hq
  match k, hq' with
  | 0, h => cases h; exact ⟨fun _ _ => ⟨(fun _ h => by cases h), kI, i2, pI, i3⟩, i1⟩
  | 1, h => cases h; exact ⟨fun _ _ => ⟨(fun _ h => by cases h), kZ, z2, pZ, z3⟩, z1⟩
  | 2, h => cases h; exact ⟨fun _ _ => ⟨(fun _ h => by cases h), kL, o3, comp, o4⟩, kL, comp, o3, o4, o1, o5⟩
  | k + 3, h => simp at h
def stA (h0 : Nat) (l0 l1 : Nat → Nat) (qh qs : Nat) (a0 a1 a2 a3 a4 a5 : Nat → Nat) (qt qp qc qd qo : Nat) (m0 m1 m2 m3 m4 m5 m6 m7 m8 : Nat) : Nat → Nat → Nat := fun o => match o with
  | 0 => fun k => match k with | 0 => h0 | 1 => qh | 2 => qs | 3 => qt | 4 => qp | 5 => qc | 6 => qd | _ => qo
  | 1 => fun k => match k with | 0 => m0 | 1 => m1 | 2 => m2 | 3 => m3 | 4 => m4 | 5 => m5 | 6 => m6 | 7 => m7 | _ => m8
  | 2 => l0 | 3 => l1 | 4 => a0 | 5 => a1 | 6 => a2 | 7 => a3 | 8 => a4 | 9 => a5 | _ => fun _ => 0
def stg (o : Nat) : List (Nat × Nat) := (List.range 42).map (fun k => (o, k))
def stW : List (Nat × Nat) := ([(0, 0)] ++ (((((([] ++ stg 2) ++ stg 3) ++ [(0, 1), (0, 2)]) ++ (((((([] ++ stg 4) ++ stg 5) ++ stg 6) ++ stg 7) ++ stg 8) ++ stg 9)) ++ [(0, 3)]) ++ [(0, 7), (0, 4), (0, 5), (0, 6)])) ++ [(1, 0), (1, 1), (1, 2), (1, 3), (1, 4), (1, 5), (1, 6), (1, 7), (1, 8)]
theorem st_map (F : Nat × Nat → Nat × va_E) : stW.map F = ([F (0, 0)] ++ (((((([] ++ (stg 2).map F) ++ (stg 3).map F) ++ [F (0, 1), F (0, 2)]) ++ (((((([] ++ (stg 4).map F) ++ (stg 5).map F) ++ (stg 6).map F) ++ (stg 7).map F) ++ (stg 8).map F) ++ (stg 9).map F)) ++ [F (0, 3)]) ++ [F (0, 7), F (0, 4), F (0, 5), F (0, 6)])) ++ [F (1, 0), F (1, 1), F (1, 2), F (1, 3), F (1, 4), F (1, 5), F (1, 6), F (1, 7), F (1, 8)] := by
  unfold stW
  simp only [List.map_append, List.map_cons, List.map_nil]
/-- all contents at the start -/
def G0 : Gs := fun o k => match o with
  | 0 => fun _ => 0
  | 1 => if k = 1 then upd (upd (upd (fun _ => 0) 0 2) 1 4) 2 3 else fun _ => 0
  | _ + 2 => lbS k
def stMod (E : En) (m0 m1 m2 m3 m4 m5 m6 m7 m8 : Nat) : va_W := [(m0, .inr (9, [.ref m1, .ref m2, .int 0, .int 0, .ref m3, .ref m4, .ref m5, .ref m6, .int 0, .int 0, .int 0, .int 0, .ref m7, .ref m8])), (m1, .inl (eI E, 652, .inl (upd (upd (upd (fun _ => 0) 0 2) 1 4) 2 3))), (m2, .inl (eI E, 3912, .inl (fun _ => 0))), (m3, .inl (eI E, 1304, .inl (fun _ => 0))), (m4, .inl (eZ E, 2, .inl (fun _ => 0))), (m5, .inl (eI E, 652, .inl (fun _ => 0))), (m6, .inl (eI E, 80, .inl (fun _ => 0))), (m7, .inl (eI E, 29, .inl (fun _ => 0))), (m8, .inl (eI E, 87, .inl (fun _ => 0)))]
theorem st_lib {E E0 : En} {o : Nat} {a : Nat → Nat} (ha : eA E (o + 2) = a) (hI : E.1 = E0.1) : (stg (o + 2)).map (fun q => (eA E q.1 q.2, celG E G0 q)) = lbW E0 a lbS := by
  unfold stg lbW
  rw [List.map_map]
  refine List.map_congr_left (fun k _ => ?_)
  show (eA E (o + 2) k, libC E (o + 2) k (lbS k)) = (a k, libC (lbE E0 a) 0 k (lbS k))
  refine Prod.ext (congrFun ha k) (libC_congr (E := E) (E2 := lbE E0 a) (o := o + 2) (o2 := 0) (fun t => congrFun ha t) ?_ k _)
  show E.1.1 = E0.1.1
  rw [hI]
theorem st_world {E0 : En} (h0 : Nat) (l0 l1 : Nat → Nat) (qh qs : Nat) (a0 a1 a2 a3 a4 a5 : Nat → Nat) (qt qp qc qd qo : Nat) (m0 m1 m2 m3 m4 m5 m6 m7 m8 : Nat) : wl (E0.1, stA h0 l0 l1 qh qs a0 a1 a2 a3 a4 a5 qt qp qc qd qo m0 m1 m2 m3 m4 m5 m6 m7 m8, stW) G0 = tpW E0 [] h0 l0 l1 qh qs a0 a1 a2 a3 a4 a5 qt qp qc qd qo ++ stMod E0 m0 m1 m2 m3 m4 m5 m6 m7 m8 := by
  have hl := fun (o : Nat) (a : Nat → Nat) (ha : stA h0 l0 l1 qh qs a0 a1 a2 a3 a4 a5 qt qp qc qd qo m0 m1 m2 m3 m4 m5 m6 m7 m8 (o + 2) = a) => st_lib (E := (E0.1, stA h0 l0 l1 qh qs a0 a1 a2 a3 a4 a5 qt qp qc qd qo m0 m1 m2 m3 m4 m5 m6 m7 m8, stW)) (E0 := E0) (o := o) (a := a) ha rfl
  unfold wl
  refine (st_map _).trans ?_
  unfold tpW hsZ stMod
  refine congr (congrArg _ ?_) rfl
  refine congr (congrArg _ rfl) ?_
  refine congr (congrArg _ ?_) rfl
  refine congr (congrArg _ ?_) ?_
  · refine congr (congrArg _ ?_) (congr (congrArg _ (congr (congrArg _ (congr (congrArg _ (congr (congrArg _ (congr (congrArg _ (congr (congrArg _ rfl) (hl 2 a0 rfl))) (hl 3 a1 rfl))) (hl 4 a2 rfl))) (hl 5 a3 rfl))) (hl 6 a4 rfl))) (hl 7 a5 rfl))
    refine congr (congrArg _ (congr (congrArg _ (congr (congrArg _ rfl) (hl 0 l0 rfl))) (hl 1 l1 rfl))) ?_
    unfold hsW
    refine congrArg (fun g : Nat → Option Nat => [(qh, .inr (2, [.ref qs, .int 0, .int 0])), (qs, (.inl (eL E0, 6, .inr (.inr (.inr (.inr g)))) : va_E))]) (funext fun j => ?_)
    match j with
    | 0 => rfl
    | 1 => rfl
    | 2 => rfl
    | 3 => rfl
    | 4 => rfl
    | 5 => rfl
    | j + 6 =>
      rw [if_neg (by omega)]
      simp [va_up]
  · refine congrArg (fun g : Nat → Option Nat => [(qt, (.inl (eL E0, 2, .inr (.inr (.inr (.inr g)))) : va_E))]) (funext fun j => ?_)
    exact if_pos rfl
theorem st_EF {cid : ClassId × ClassId × ClassId} {a : Nat → Nat → Nat} : EF (cid, a, stW) G0 := by
  refine ⟨fun k hk => ?_, fun k hk => ?_, fun b hb k hk => ?_, fun j hj hn => absurd rfl hn, fun j hj _ k hk => ?_⟩
  · show (0, k) ∈ stW
    simp [stW, stg]
    try omega
  · show (1, k) ∈ stW
    simp [stW, stg]
    try omega
  · show (b + 2, k) ∈ stW
    simp [stW, stg]
    try omega
  · have hk : (j + 10, k) ∈ stW := hk
    simp [stW, stg] at hk
    try omega
set_option maxRecDepth 20000 in
theorem start_walk {Rel : Gs → Prop} (hP2 : P2ok Rel) (hR0 : Rel G0) {p : Program} {e : Env} {s : State} {m : MethodId} {below : List Frame} {meth : Method} {c : Code} (l : Launch) {b L : Nat} {xs : Nat → Int32} (hL : L ≤ 2048) (C0 : lw_At p s m meth c b L xs) : W p l e room_1 s m #[Value.ref b] below meth c s.heap [] 0 0 (lw_Z below #[Value.ref b] s) (entryFrame m ([Value.ref b] : List Value).toArray 4) := by
  obtain ⟨hx, hb, hr, hml, hown, hts, hX, hbl, hlocks, hgv⟩ := id C0
  obtain ⟨D, cid, hKW⟩ := start_KW hts hgv
  have hA : ∀ q : Nat, s.heap.size ≤ q → (fun q : Nat => s.heap.size ≤ q) q := fun _ h => h
  have hbA : ¬ (fun q : Nat => s.heap.size ≤ q) b := Nat.not_le.mpr hbl
  have hO : va_AO RX3 s := va_AO.of (hts _ ao_in)
  have K0 : ∀ E : En, E.1 = cid → Cx p s m #[Value.ref b] meth c D E (fun q => s.heap.size ≤ q) RL cL_law 4 Jvm.Pilot.@@N@@.ret lw_tbl := fun E he => ⟨hx, hb, hml, hown, hts, wsL_in, hKW E he, hr, hlocks⟩
  have hl := lv_entry ([.ref b]) (n := 4) (Nat.le_of_ble_eq_true rfl)
  rw [lg_entry_eq]
  generalize (lg_sl ([.ref b]) ++ List.replicate (4 - (lg_sl ([.ref b])).length) Slot.unset).toArray = ls at hl ⊢
  have hl : lv_has ls 4 [(0, .ref b)] := hl
  have V0 : VV p l e room_1 s m #[Value.ref b] below meth c (lw_Z below #[Value.ref b] s) D (fun q => s.heap.size ≤ q) 4 (0, 0) 0 [] [(0, .ref b)] ([] : va_W) := by
    have K := K0 (cid, (fun _ _ => 0), []) rfl
    refine v_new K hA nw_L_7 dL_law_0 ⟨Nat.le_of_ble_eq_true rfl, Nat.le_of_ble_eq_true rfl⟩ (fun h0 => ?_)
    refine v_dup K dL_law_3 rfl ?_
    refine v_callI (As := []) (rest := [.ref h0]) K hO hA mi_L_9 dL_law_4 c_X8_init rfl rfl rfl (Nat.le_of_ble_eq_true rfl) ⟨Nat.le_of_ble_eq_true rfl, Nat.le_of_ble_eq_true rfl⟩ ⟨Nat.le_of_ble_eq_true rfl, Nat.le_of_ble_eq_true rfl⟩ (fun ws1 hB => ?_)
    obtain ⟨l0, l1, qh, qs, a0, a1, a2, a3, a4, a5, qt, qp, qc, qd, qo, rfl⟩ := hB
    refine v_astore_n (lv' := [(1, .ref h0), (0, .ref b)]) K dL_law_7 rfl (by decide) rfl ?_
    refine v_new K hA nw_L_10 dL_law_8 ⟨Nat.le_of_ble_eq_true rfl, Nat.le_of_ble_eq_true rfl⟩ (fun m0 => ?_)
    refine v_dup K dL_law_11 rfl ?_
    refine v_callI (As := []) (rest := [.ref m0]) K hO hA mi_L_12 dL_law_12 c_X9_init rfl rfl rfl (Nat.le_of_ble_eq_true rfl) ⟨Nat.le_of_ble_eq_true rfl, Nat.le_of_ble_eq_true rfl⟩ ⟨Nat.le_of_ble_eq_true rfl, Nat.le_of_ble_eq_true rfl⟩ (fun ws1 hB => ?_)
    obtain ⟨m1, m2, m3, m4, m5, m6, m7, m8, rfl⟩ := hB
    refine v_astore_n (lv' := [(2, .ref m0), (1, .ref h0), (0, .ref b)]) K dL_law_15 rfl (by decide) rfl ?_
    refine v_iconst K dL_law_16 ki_0 ?_
    refine v_istore_n (lv' := [(3, .int 0), (2, .ref m0), (1, .ref h0), (0, .ref b)]) K dL_law_17 rfl (by decide) rfl ?_
    refine v_lsub (lv' := [(0, .ref b), (1, .ref h0), (2, .ref m0), (3, .int 0)]) [3, 2, 1, 0] rfl ?_
    refine v_ws (st_world (E0 := (cid, (fun _ _ => 0), [])) h0 l0 l1 qh qs a0 a1 a2 a3 a4 a5 qt qp qc qd qo m0 m1 m2 m3 m4 m5 m6 m7 m8).symm ?_
    refine v_widen (cs' := (353 + 42 * 0, 13543 + 838 * 0)) ⟨Nat.le_of_ble_eq_true rfl, Nat.le_of_ble_eq_true rfl⟩ ⟨Nat.le_of_ble_eq_true rfl, Nat.le_of_ble_eq_true rfl⟩ ?_
    exact law_loop hP2 hL hX hbl hbA (fun q h => h) hA hO hr cid (L + 2) 0 _ G0 (by omega) (by omega) rfl st_EF hR0 (K0 _ rfl)
  exact V0 s.heap [] ls ⟨Nat.zero_le _, Nat.zero_le _⟩ (fun k q h => by simp at h) ⟨fun i j p q h => by simp at h, fun k q h => by simp at h⟩ va_S.rf hl
