variable {V : VB} {L : St} {M : St} {a : FN} {z : Nat}
/-! ===== making room ===== -/
def mkr (L : St) (r : Nat) : Nat → St
  | 0 => L
  | d + 1 => mkr (gvb L r 0) r d
theorem gvb_len {r p : Nat} (hl : isN L 12 r 8) (hp : p < len L r) (r' : Nat) : len (gvb L r p) r' = if r' = r then len L r - 1 else len L r' := by
  rw [← rmv_len hl hp r']
  unfold len num
  rw [gvb_rows (Or.inl rfl)]
theorem no_at {r : Nat} (hz : ¬ hasC L r z) (w : wfS L) (hr : r < 16) {p : Nat} (hp : p < len L r) : num L 14 (8 * r + p) ≠ z := fun q => hz (hasC_of hp (by rw [((w r hr).2.1 p hp).1.1, q]))
theorem no24 {r : Nat} (w : wfS L) (hr : r < 16) : ¬ hasC L r 24 := fun h => by
  have h1 := ((w r hr).2.1 _ h).1
  have h2 := hasC_at h
  have := nI_len (show 24 < 2 ^ 31 by omega) h2
  have := h1.2
  omega
theorem gvb_cp (w3 : wfS L) {r p : Nat} (hr : r < 16) (hp : p < len L r) {r' n : Nat} {v c : Int32} (h1 : r' < 16) (h2 : n < 24) : cp (gvb L r p) r' n v c ↔ cp L r' n v c ∧ ¬ (r' = r ∧ n = num L 14 (8 * r + p)) := by
  have hN := ((w3 r hr).2.1 p hp).1
  have n24 : num L 14 (8 * r + p) < 24 := by have := hN.2; omega
  have hc : hasC L r (num L 14 (8 * r + p)) := hasC_of hp hN.1
  have hp' : plc L r (num L 14 (8 * r + p)) = p := plc_of w3 hr hp hN.1
  have e := cp_rmv w3 hr n24 hc h1 h2 (v := v) (c := c)
  rw [hp'] at e
  exact (cp_same (fun k hk => gvb_rows (Or.inl hk))).trans e
theorem gvb_no (w : Inv z L) {r p : Nat} (hr : r < 16) (hp : p < len L r) (hz : z ≤ 24) (hno : ¬ hasC L r z) : ¬ hasC (gvb L r p) r z := by
  by_cases h : z = 24
  · subst h
    exact no24 (inv_gvb w hr hp (no_at hno w.2.2.1 hr hp)).2.2.1 hr
  · rw [hasC_cp] at hno ⊢
    rintro ⟨v, c, q⟩
    exact hno ⟨v, c, ((gvb_cp w.2.2.1 hr hp hr (by omega)).mp q).1⟩
theorem inv_own (w : Inv z L) {r p : Nat} (hr : r < 16) (hp : p < len L r) (hno : ¬ hasC L r z) : L 7 (num L 14 (8 * r + p)) = 3 → L 9 (num L 14 (8 * r + p)) = only r := by
  obtain ⟨w1, w2, w3, w4, w5, w6, w7⟩ := w
  have hN := ((w3 r hr).2.1 p hp).1
  exact own_eq w5 w7 hr (by have := hN.2; omega) (no_at hno w3 hr hp) (hasC_of hp hN.1)
theorem c_room_L {r c : Nat} (hr : r < 16) (hz : z ≤ 24) (hc : c ≤ 8) : ∀ (d x : Nat), x + d = c → ∀ f, d < f → ∀ L, Inv z L → ¬ hasC L r z → d ≤ len L r → f_X3_makeRoom_L8 (nI r) (nI c) f (nI x) L = some (mkr L r d)
  | 0, x, e, f + 1, _, L, _, _, _ => by
    rw [f_X3_makeRoom_L8, if_pos (nI_le (by omega) (by omega))]; rfl
  | d + 1, x, e, f + 1, hf, L, w, hno, hd => by
    have hl := (w.2.2.1 r hr).1
    have g : f_X3_giveBack L (nI r) 0 = some (if chd L r 0 then 1 else 0, gvb L r 0) := c_giveBack (p := 0) w.1 w.2.1 w.2.2.1 hr (by omega) (inv_own w hr (by omega) hno)
    rw [f_X3_makeRoom_L8, if_neg (nI_ge (by omega) (by omega)), g, bdp_some, nI_1]
    exact c_room_L hr hz hc d (x + 1) (by omega) f (by omega) _ (inv_gvb w hr (by omega) (no_at hno w.2.2.1 hr (by omega))) (gvb_no w hr (by omega) hz hno) (by rw [gvb_len hl (by omega), if_pos rfl]; omega)
theorem c_way (w : Inv z L) {r : Nat} (hr : r < 16) : f_X3_copiesInTheWay L (nI r) = nI (len L r + 1 - num L 2 2) := by
  have hl := (w.2.2.1 r hr).1
  have h8 : len L r ≤ 8 := hl.2
  have hR := w.1.2.2.2.1
  have hR2 := hR.2
  have hR1 := w.1.2.2.2.2.1
  unfold f_X3_copiesInTheWay
  rw [rat_nI hr (by omega), rat_22, isl hl, hR.1]
  have e : (nI (len L r) - nI (num L 2 2) + 1 : Int32) = nI (len L r + 1) - nI (num L 2 2) := by
    rw [nI_succ, Int32.sub_eq_add_neg, Int32.sub_eq_add_neg, Int32.add_assoc, Int32.add_comm (-(nI (num L 2 2))) 1, ← Int32.add_assoc]
  rw [e]
  by_cases h : num L 2 2 < len L r + 1
  · rw [pk_sub (by omega), if_pos (show (0 : Int32) < nI (len L r + 1 - num L 2 2) from nI_lt (a := 0) (by omega) (by omega))]
  · have h2 : ¬ (0 : Int32) < nI (len L r + 1) - nI (num L 2 2) := by
      rw [Int32.lt_iff_toInt_lt, pk_sub_toInt (by omega) (by omega)]
      show ¬ (0 : Int) < _
      omega
    rw [if_neg h2, show len L r + 1 - num L 2 2 = 0 by omega]; rfl
theorem c_makeRoom (w : Inv z L) {r : Nat} (hr : r < 16) (hz : z ≤ 24) (hno : ¬ hasC L r z) : f_X3_makeRoom L (nI r) = some (mkr L r (len L r + 1 - num L 2 2)) := by
  have h8 : len L r ≤ 8 := (w.2.2.1 r hr).1.2
  have hR1 := w.1.2.2.2.2.1
  unfold f_X3_makeRoom
  rw [c_way w hr]
  exact c_room_L hr hz (by omega) (len L r + 1 - num L 2 2) 0 (by omega) 5000 (by omega) L w hno (by omega)
theorem m_room_L {r : Nat} (hr : r < 16) (hz : z ≤ 24) : ∀ (d : Nat) (L : St) (a : FN), RM V a L → Inv z L → ¬ hasC L r z → d = len L r + 1 - num L 2 2 → ∀ f, d < f → ∃ a', f_X9_makeRoom_L0 (nI r) f (mA M a) = some (mA M a') ∧ RM V a' (mkr L r d)
  | 0, L, a, h, w, _, e, f + 1, _ => by
    have hl := (w.2.2.1 r hr).1
    have h8 : len L r ≤ 8 := hl.2
    have a2 : a 2 = nI (num L 2 2) := (rm_at h (k := 2) (j := 2) (show 2 < 4 by omega) rfl rfl).trans w.1.2.2.2.1.1
    have hR2 := w.1.2.2.2.1.2
    rw [f_X9_makeRoom_L0, ofR_0 hr, bd_some, rm_len h hr hl, ix_2, cl_2, mA_1, a2, if_pos (nI_lt (by omega) (by omega))]
    exact ⟨a, rfl, h⟩
  | d + 1, L, a, h, w, hno, e, f + 1, hf => by
    have hl := (w.2.2.1 r hr).1
    have h8 : len L r ≤ 8 := hl.2
    have a2 : a 2 = nI (num L 2 2) := (rm_at h (k := 2) (j := 2) (show 2 < 4 by omega) rfl rfl).trans w.1.2.2.2.1.1
    have hR1 := w.1.2.2.2.2.1
    obtain ⟨a1, h1, h2⟩ := m_returned (M := M) (p := 0) h w.1 w.2.2.1 hr (by omega) (inv_own w hr (by omega) hno)
    have h1' : f_X9_returned (mA M a) (nI r) 0 = some (if chd L r 0 then 1 else 0, mA M a1) := h1
    rw [f_X9_makeRoom_L0, ofR_0 hr, bd_some, rm_len h hr hl, ix_2, cl_2, mA_1, a2, if_neg (nI_nlt (by omega) (by omega)), h1', bdp_some]
    refine m_room_L hr hz d _ a1 h2 (inv_gvb w hr (by omega) (no_at hno w.2.2.1 hr (by omega))) (gvb_no w hr (by omega) hz hno) ?_ f (by omega)
    have e2 : num (gvb L r 0) 2 2 = num L 2 2 := by
      unfold num
      rw [gvb_rows (Or.inr (Or.inr rfl)), rmv_ne rfl (by decide) (by decide)]
    rw [gvb_len hl (by omega), if_pos rfl, e2]
    omega
theorem m_makeRoom (h : RM V a L) (w : Inv z L) {r : Nat} (hr : r < 16) (hz : z ≤ 24) (hno : ¬ hasC L r z) : ∃ a', f_X9_makeRoom (mA M a) (nI r) = some (mA M a') ∧ RM V a' (mkr L r (len L r + 1 - num L 2 2)) := by
  have h8 : len L r ≤ 8 := (w.2.2.1 r hr).1.2
  exact m_room_L hr hz _ L a h w hno rfl 5000 (by omega)
/-- what making room leaves as it was -/
theorem mkr_ok {r : Nat} (hr : r < 16) (hz : z ≤ 24) : ∀ (d : Nat) (L : St), Inv z L → ¬ hasC L r z → d ≤ len L r → Inv z (mkr L r d) ∧ len (mkr L r d) r = len L r - d ∧ mkr L r d 2 = L 2 ∧ (∀ n, n < 24 → ¬ hasC L r n → ¬ hasC (mkr L r d) r n ∧ mkr L r d 7 n = L 7 n ∧ mkr L r d 9 n = L 9 n) ∧ ∀ r' n v c, r' < 16 → n < 24 → r' ≠ r → (cp (mkr L r d) r' n v c ↔ cp L r' n v c)
  | 0, L, w, _, _ => ⟨w, rfl, rfl, fun n _ h => ⟨h, rfl, rfl⟩, fun _ _ _ _ _ _ _ => Iff.rfl⟩
  | d + 1, L, w, hno', hd => by
    have w3 := w.2.2.1
    have hl := (w3 r hr).1
    have hp : 0 < len L r := by omega
    have hN := ((w3 r hr).2.1 0 hp).1
    have hc : hasC L r (num L 14 (8 * r + 0)) := hasC_of hp hN.1
    have ecp : ∀ r' n v c, r' < 16 → n < 24 → (cp (gvb L r 0) r' n v c ↔ cp L r' n v c ∧ ¬ (r' = r ∧ n = num L 14 (8 * r + 0))) := fun r' n v c h1 h2 => gvb_cp w3 hr hp h1 h2
    obtain ⟨i1, i2, i3, i4, i5⟩ := mkr_ok hr hz d (gvb L r 0) (inv_gvb w hr hp (no_at hno' w3 hr hp)) (gvb_no w hr hp hz hno') (by rw [gvb_len hl hp, if_pos rfl]; omega)
    refine ⟨i1, by rw [mkr, i2, gvb_len hl hp, if_pos rfl]; omega, by rw [mkr, i3, gvb_rows (Or.inr (Or.inr rfl)), rmv_ne rfl (by decide) (by decide)], fun n hn hno => ?_, fun r' n v c h1 h2 h3 => ?_⟩
    · have ne : n ≠ num L 14 (8 * r + 0) := fun q => hno (by rw [q]; exact hc)
      have no2 : ¬ hasC (gvb L r 0) r n := by
        rw [hasC_cp] at hno ⊢
        rintro ⟨v, c, q⟩
        exact hno ⟨v, c, ((ecp r n v c hr hn).mp q).1⟩
      obtain ⟨j1, j2, j3⟩ := i4 n hn no2
      exact ⟨j1, j2.trans (gvb_card ne).1, j3.trans (gvb_card ne).2⟩
    · rw [mkr, i5 r' n v c h1 h2 h3, ecp r' n v c h1 h2]
      exact ⟨fun q => q.1, fun q => ⟨q, fun q2 => h3 q2.1⟩⟩
