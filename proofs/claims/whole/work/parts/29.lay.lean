variable {V : VB} {L : St} {M : St} {a : FN}
/-! ===== what is left when a copy is off; laying a copy on ===== -/
theorem rmv_sh {r p k : Nat} (h : isSh k = true) : rmv L r p k = shf (L k) 1 (8 * r + p) (8 * r + len L r - 1) := by
  unfold rmv
  rw [sp_row' _ _ _ (fun q => by rw [q] at h; cases h), shS_sh h, sp_row' _ _ _ (fun q => by rw [q] at h; cases h)]
theorem rmv_12 {r p : Nat} : rmv L r p 12 = upd (L 12) r (L 12 r - 1) := by
  unfold rmv
  rw [sp_row, shS_ne rfl, sp_row' _ _ _ (by decide)]
theorem rmv_20 {r p : Nat} : rmv L r p 20 = upd (L 20) (num L 14 (8 * r + p)) (L 20 (num L 14 (8 * r + p)) &&& (only r ^^^ (-1))) := by
  unfold rmv
  rw [sp_row' _ _ _ (by decide), shS_ne rfl, sp_row]
theorem rmv_ne {r p k : Nat} (h : isSh k = false) (h2 : k ≠ 12) (h3 : k ≠ 20) : rmv L r p k = L k := by
  unfold rmv
  rw [sp_row' _ _ _ h2, shS_ne h, sp_row' _ _ _ h3]
theorem nI_len {x : Nat} (h : x < 2 ^ 31) {S : St} {k j : Nat} (e : S k j = nI x) : num S k j = x := by
  unfold num
  rw [e, nI_clamp h]
theorem isN_of {x b : Nat} (h : x < 2 ^ 31) (hb : x ≤ b) {S : St} {k j : Nat} (e : S k j = nI x) : isN S k j b := by
  unfold isN
  rw [nI_len h e]
  exact ⟨e, hb⟩
theorem rmv_len {r p : Nat} (hl : isN L 12 r 8) (hp : p < len L r) (r' : Nat) : len (rmv L r p) r' = if r' = r then len L r - 1 else len L r' := by
  have h8 : len L r ≤ 8 := hl.2
  by_cases h : r' = r
  · subst h
    rw [if_pos rfl]
    refine nI_len (by omega) ?_
    rw [rmv_12, upd_at, if_pos rfl, isl hl]
    exact pk_sub (b := 1) (by omega)
  · rw [if_neg h]
    unfold len num
    rw [rmv_12, upd_at, if_neg h]
theorem sh_pos {k : Nat} (h : isSh k = true) : ∃ c, c < 3 ∧ ∀ j, pos k j = 208 + c + 3 * j := by
  rcases sh_cases h with rfl | rfl | rfl
  · exact ⟨0, by omega, fun j => rfl⟩
  · exact ⟨1, by omega, fun j => rfl⟩
  · exact ⟨2, by omega, fun j => rfl⟩
theorem sh_rowN {k : Nat} (h : isSh k = true) : rowN k = 128 := by
  rcases sh_cases h with rfl | rfl | rfl <;> rfl
theorem pos_lo {k j : Nat} (h : isSh k = false) (hj : j < rowN k) : pos k j < 208 := by
  rcases rown_in hj with rfl | rfl | rfl | rfl | rfl | rfl | rfl | rfl | rfl | rfl | rfl | rfl | rfl | rfl | rfl <;> first | (cases h; done) | (simp only [rowN, pos] at hj ⊢; omega)
theorem core_sh {k : Nat} (h : isSh k = true) (j j' : Nat) : core k j = core k j' := by
  rcases sh_cases h with rfl | rfl | rfl <;> rfl
theorem rm_rmv (h : RM V a L) {r p : Nat} (hr : r < 16) (hl : isN L 12 r 8) (hp : p < len L r) : RM V (rmA a r p (len L r)) (rmv L r p) := by
  have h8 : len L r ≤ 8 := hl.2
  refine ⟨?_, fun i hi => by
    unfold rmA
    rw [shf_out (by omega), upd_at, if_neg (fun q : i = pos 12 r => by have e : i = 128 + 5 * r := q; omega)]
    exact h.2 i hi⟩
  intro k j hj hv hs
  unfold rmA
  by_cases hk : isSh k = true
  · have hs' := hs hk
    rw [rmv_len hl hp] at hs'
    have hj' : j < 128 := by rw [sh_rowN hk] at hj; exact hj
    obtain ⟨c, hc, hpos⟩ := sh_pos hk
    have n12 : ∀ i, 208 ≤ i → ¬ i = pos 12 r := fun i hi q => by have : pos 12 r = 128 + 5 * r := rfl; omega
    rw [rmv_sh hk, hpos]
    by_cases hin : 8 * r + p ≤ j ∧ j < 8 * r + len L r - 1
    · rw [shf_in (by omega) (by omega), shf_in hin.1 hin.2, upd_at, if_neg (n12 _ (by omega)), show 208 + c + 3 * j + 3 = pos k (j + 1) by rw [hpos]; omega]
      exact h.1 k (j + 1) (by rw [sh_rowN hk]; omega) (by rw [core_sh hk _ j]; exact hv) (fun _ => by rw [show (j + 1) / 8 = r by omega]; omega)
    · rw [shf_out (by omega), shf_out (by omega), upd_at, if_neg (n12 _ (by omega)), ← hpos]
      refine h.1 k j hj hv (fun _ => ?_)
      by_cases hr' : j / 8 = r
      · rw [if_pos hr'] at hs'; rw [hr']; omega
      · rw [if_neg hr'] at hs'; exact hs'
  · have hk' : isSh k = false := by simpa using hk
    have := pos_lo hk' hj
    rw [shf_out (by omega), upd_at]
    by_cases h12 : k = 12
    · subst h12
      rw [rmv_12, upd_at]
      by_cases e : j = r
      · subst e
        rw [if_pos rfl, if_pos rfl, addm1, rm_at h hj rfl rfl]
      · rw [if_neg (fun q => e (pos_inj hj (show r < rowN 12 from hr) q).2), if_neg e]
        exact rm_at h hj rfl rfl
    · rw [if_neg (fun q => h12 (pos_inj hj (show r < rowN 12 from hr) q).1)]
      by_cases h20 : k = 20
      · subst h20; exact absurd hj (Nat.not_lt_zero j)
      · rw [rmv_ne hk' h12 h20]
        exact h.1 k j hj hv (fun q => absurd q hk)
def lay (L : St) (r n : Nat) (v c : Int32) : St := sp (sp (sp (sp (sp L 14 (8 * r + len L r) (nI n)) 16 (8 * r + len L r) v) 18 (8 * r + len L r) c) 12 r (L 12 r + 1)) 20 n (L 20 n ||| only r)
theorem c_lay {r n : Nat} {v c : Int32} (hr : r < 16) (hn : n < 24) (hl : isN L 12 r 8) (h8 : len L r < 8) : f_X7_lay L (nI r) (nI n) v c = lay L r n v (if c = 0 then 0 else 1 : Int32) := by
  unfold f_X7_lay
  rw [rat_nI hr (by omega), isl hl, if_pos (show nI (len L r) < (8 : Int32) from nI_lt (b := 8) h8 (by omega)), i8p]
  simp only [bnd_e]
  rw [rwr_nI (n := 128) (S := L) (by omega) (by omega), rwr_nI (n := 128) (by omega) (by omega), rwr_nI (n := 128) (by omega) (by omega), rwr_nI (n := 16) hr (by omega), rwr_nI (n := 24) hn (by omega), rat_nI hn (by omega), only_c]
  unfold lay
  rw [sp_row' _ _ _ (by decide), sp_row' _ _ _ (by decide), sp_row' _ _ _ (by decide), sp_row' _ _ _ (by decide), isl hl]
def lyA (a : FN) (r n l : Nat) (v c : Int32) : FN := upd (upd (upd (upd a (pos 14 (8 * r + l)) (nI n)) (pos 16 (8 * r + l)) v) (pos 18 (8 * r + l)) c) (pos 12 r) (a (pos 12 r) + 1)
theorem m_layOn (h : RM V a L) {r n : Nat} {v c : Int32} (hr : r < 16) (hl : isN L 12 r 8) (h8 : len L r < 8) : f_X9_layOn (mA M a) (nI r) (nI n) v c = some (mA M (lyA a r n (len L r) v c)) := by
  unfold f_X9_layOn
  rw [ofR_0 hr, bd_some, rm_len h hr hl, layC_0 hr h8, bd_some, layC_1 hr h8, bd_some, layC_2 hr h8, bd_some, moreR_0 hr, bd_some]
  unfold lyA
  have e : ∀ k, isSh k = true → ¬ pos 12 r = pos k (8 * r + len L r) := fun k hk q => by
    have := (pos_inj (show r < rowN 12 from hr) (by rw [sh_rowN hk]; omega) q).1
    subst this
    cases hk
  rw [upd_at, if_neg (e 18 rfl), upd_at, if_neg (e 16 rfl), upd_at, if_neg (e 14 rfl)]
theorem rm_lay (h : RM V a L) {r n : Nat} {v v' c : Int32} (hr : r < 16) (hn : n < 24) (hl : isN L 12 r 8) (h8 : len L r < 8) (hv : V.1 → v = v') : RM V (lyA a r n (len L r) v c) (lay L r n v' c) := by
  have e : a (pos 12 r) + 1 = nI (len L r + 1) := by rw [rm_len h hr hl, nI_1]
  have e12 : L 12 r + 1 = nI (len L r + 1) := by rw [isl hl, nI_1]
  refine ⟨?_, fun i hi => by
    unfold lyA
    rw [upd_at, if_neg (fun q : i = pos 12 r => by have e : i = 128 + 5 * r := q; omega), upd_at, if_neg (fun q : i = pos 18 (8 * r + len L r) => by have e : i = 210 + 3 * (8 * r + len L r) := q; omega), upd_at, if_neg (fun q : i = pos 16 (8 * r + len L r) => by have e : i = 209 + 3 * (8 * r + len L r) := q; omega), upd_at, if_neg (fun q : i = pos 14 (8 * r + len L r) => by have e : i = 208 + 3 * (8 * r + len L r) := q; omega)]
    exact h.2 i hi⟩
  intro k j hj hw hs
  unfold lyA
  have hlen : ∀ r', len (lay L r n v' c) r' = if r' = r then len L r + 1 else len L r' := by
    intro r'
    unfold lay len num
    rw [sp_row' _ _ _ (by decide), sp_row, upd_at]
    by_cases q : r' = r
    · rw [if_pos q, if_pos q, e12, nI_clamp (by omega)]; rfl
    · rw [if_neg q, if_neg q, sp_row' _ _ _ (by decide), sp_row' _ _ _ (by decide), sp_row' _ _ _ (by decide)]
  have hs2 : isSh k = true → j % 8 < (if j / 8 = r then len L r + 1 else len L (j / 8)) := fun q => by have := hs q; rwa [hlen] at this
  have base : (isSh k = true → ¬ j = 8 * r + len L r) → a (pos k j) = L k j := fun q => h.1 k j hj hw (fun hk => by
    have h1 := hs2 hk
    have h2 := q hk
    by_cases h3 : j / 8 = r
    · rw [if_pos h3] at h1; rw [h3]; omega
    · rw [if_neg h3] at h1; exact h1)
  have at_ : ∀ k', k' ∈ [14, 16, 18] → (pos k j = pos k' (8 * r + len L r) ↔ k = k' ∧ j = 8 * r + len L r) := fun k' hk' => by
    have : 8 * r + len L r < rowN k' := by
      simp at hk'
      rcases hk' with rfl | rfl | rfl <;> (show _ < 128; omega)
    exact ⟨fun q => pos_inj hj this q, fun q => by rw [q.1, q.2]⟩
  have at12 : pos k j = pos 12 r ↔ k = 12 ∧ j = r := ⟨fun q => pos_inj hj (show r < rowN 12 from hr) q, fun q => by rw [q.1, q.2]⟩
  unfold lay
  simp only [upd_at, sp_at, at_ 14 (by simp), at_ 16 (by simp), at_ 18 (by simp), at12]
  by_cases k12 : k = 12 ∧ j = r
  · rw [if_pos k12, if_neg (by omega), if_pos k12, e, e12]
  · rw [if_neg k12, if_neg (fun q : k = 20 ∧ j = n => by rw [q.1] at hj; exact absurd hj (Nat.not_lt_zero j)), if_neg k12]
    by_cases k18 : k = 18 ∧ j = 8 * r + len L r
    · rw [if_pos k18, if_pos k18]
    · rw [if_neg k18, if_neg k18]
      by_cases k16 : k = 16 ∧ j = 8 * r + len L r
      · rw [if_pos k16, if_pos k16]
        rcases hw with hw | hw
        · exact hv hw
        · rw [k16.1] at hw; cases hw
      · rw [if_neg k16, if_neg k16]
        by_cases k14 : k = 14 ∧ j = 8 * r + len L r
        · rw [if_pos k14, if_pos k14]
        · rw [if_neg k14, if_neg k14]
          refine base (fun q w => ?_)
          rcases sh_cases q with rfl | rfl | rfl
          · exact k14 ⟨rfl, w⟩
          · exact k16 ⟨rfl, w⟩
          · exact k18 ⟨rfl, w⟩
