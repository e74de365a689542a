variable {V : VB} {L : St} {M : St} {a : FN}
/-! ===== taking a copy off a shelf ===== -/
theorem isl {r : Nat} (h : isN L 12 r 8) : L 12 r = nI (len L r) := h.1
/-- not a definitional step: else the kernel unrolls the fuel -/
theorem bnd_e {α β : Type} (x : α) (k : α → β) : bnd x k = k x := id rfl
theorem addm1 (x : Int32) : x + -1 = x - 1 := (Int32.sub_eq_add_neg x 1).symm
def only (r : Nat) : Int32 := (1 : Int32) <<< (nI r &&& 31)
theorem only_c (r : Nat) : f_X8_only (nI r) = only r := rfl
def shf (f : FN) (d lo hi : Nat) : FN := fun j => if lo ≤ j ∧ j < hi then f (j + d) else f j
theorem shf_nil (f : FN) (d : Nat) {lo hi : Nat} (h : hi ≤ lo) : shf f d lo hi = f := funext fun j => if_neg (by omega)
theorem shf_in {f : FN} {d lo hi j : Nat} (h1 : lo ≤ j) (h2 : j < hi) : shf f d lo hi j = f (j + d) := if_pos ⟨h1, h2⟩
theorem shf_out {f : FN} {d lo hi j : Nat} (h : j < lo ∨ hi ≤ j) : shf f d lo hi j = f j := if_neg (by omega)
theorem shf_step (f : FN) {d lo hi : Nat} (hd : 0 < d) (h : lo < hi) : shf (upd f lo (f (lo + d))) d (lo + 1) hi = shf f d lo hi := by
  funext j
  by_cases h1 : j = lo
  · subst h1
    rw [shf_out (by omega), shf_in (by omega) h, upd_at, if_pos rfl]
  · by_cases h2 : lo ≤ j ∧ j < hi
    · rw [shf_in (by omega) h2.2, shf_in h2.1 h2.2, upd_at, if_neg (by omega)]
    · rw [shf_out (by omega), shf_out (by omega), upd_at, if_neg h1]
def shS (L : St) (lo hi : Nat) : St := fun k => if isSh k then shf (L k) 1 lo hi else L k
theorem shS_sh {k lo hi : Nat} (h : isSh k = true) : shS L lo hi k = shf (L k) 1 lo hi := if_pos h
theorem shS_ne {k lo hi : Nat} (h : isSh k = false) : shS L lo hi k = L k := if_neg (by rw [h]; decide)
theorem sh_cases {k : Nat} (h : isSh k = true) : k = 14 ∨ k = 16 ∨ k = 18 := by
  unfold isSh at h
  simp at h
  omega
theorem c_rem_L (x1 x3 : Int32) (k : Int32 → St → Option St) {hi : Nat} (hh : hi < 128) : ∀ (d x : Nat), x + d = hi → ∀ f, d < f → ∀ L, f_X7_remove_L77 x1 x3 (nI hi) k f (nI x) L = k (nI hi) (shS L x hi)
  | 0, x, h, f + 1, _, L => by
    have e : x = hi := by omega
    subst e
    rw [f_X7_remove_L77, if_pos (nI_le (Nat.le_refl _) (by omega))]
    congr 1
    funext k
    unfold shS
    rw [shf_nil _ _ (Nat.le_refl _)]
    split <;> rfl
  | d + 1, x, h, f + 1, hf, L => by
    rw [f_X7_remove_L77, if_neg (nI_ge (by omega) (by omega))]
    simp only [bnd_e]
    simp only [nI_1]
    rw [rwr_nI (n := 128) (S := L) (by omega) (by omega), rat_nI (by omega) (by omega)]
    rw [rwr_nI (n := 128) (by omega) (by omega), rat_nI (by omega) (by omega)]
    rw [rwr_nI (n := 128) (by omega) (by omega), rat_nI (by omega) (by omega)]
    rw [c_rem_L x1 x3 k hh d (x + 1) (by omega) f (by omega)]
    congr 1
    funext k
    by_cases hk : isSh k = true
    · rw [shS_sh hk, shS_sh hk, ← shf_step (L k) (by omega) (show x < hi by omega)]
      congr 1
      rcases sh_cases hk with rfl | rfl | rfl
      · rw [sp_row' _ _ _ (by decide), sp_row' _ _ _ (by decide), sp_row]
      · rw [sp_row' _ _ _ (by decide), sp_row, sp_row' _ _ _ (by decide)]
      · rw [sp_row, sp_row' _ _ _ (by decide), sp_row' _ _ _ (by decide)]
    · have hk' : isSh k = false := by simpa using hk
      rw [shS_ne hk', shS_ne hk', sp_row' _ _ _ (fun q => hk (by rw [q]; rfl)), sp_row' _ _ _ (fun q => hk (by rw [q]; rfl)), sp_row' _ _ _ (fun q => hk (by rw [q]; rfl))]
/-- without the copy at place p of shelf r -/
def rmv (L : St) (r p : Nat) : St := sp (shS (sp L 20 (num L 14 (8 * r + p)) (L 20 (num L 14 (8 * r + p)) &&& (only r ^^^ (-1)))) (8 * r + p) (8 * r + len L r - 1)) 12 r (L 12 r - 1)
theorem c_rem_i {r p : Nat} (h : 1 ≤ p) : (nI r * 8 + nI p - 1 : Int32) = nI (8 * r + p - 1) := by
  rw [i8p]
  exact pk_sub (b := 1) (show 1 ≤ 8 * r + p by omega)
theorem c_remove {r p : Nat} (hr : r < 16) (hl : isN L 12 r 8) (hp : p < len L r) (hn : isN L 14 (8 * r + p) 23) : f_X7_remove L (nI r) (nI p) = some (rmv L r p) := by
  have h8 : len L r ≤ 8 := hl.2
  have hm : num L 14 (8 * r + p) ≤ 23 := hn.2
  unfold f_X7_remove
  rw [if_neg (nI_pos (by omega)), rat_nI hr (by omega), isl hl, if_pos (nI_lt hp (by omega)), c_rem_i (by omega), i8p, rat_nI (by omega) (by omega), hn.1, bnd_e, rwr_nI (by omega) (by omega), rat_nI (by omega) (by omega), c_rem_L _ _ _ (by omega) (len L r - 1 - p) (8 * r + p) (by omega) 5000 (by omega), bnd_e, rwr_nI hr (by omega), ← isl hl, only_c]
  rfl
theorem m_rem_L {r l' : Nat} (hr : r < 16) (hl : l' < 8) : ∀ (d x : Nat), x + d = 208 + 24 * r + 3 * l' → 208 ≤ x → ∀ f, d < f → ∀ a : FN, a (pos 12 r) = nI l' → f_X9_takeOff_L20 (nI r) f (nI x) (mA M a) = some (mA M (shf a 3 x (208 + 24 * r + 3 * l')))
  | 0, x, h, _, f + 1, _, a, ha => by
    rw [f_X9_takeOff_L20, ofR_0 hr, bd_some, ha, show (208 + 24 * nI r + 3 * nI l' : Int32) = nI (208 + 24 * r + 3 * l') by
      rw [show (208 : Int32) = nI 208 from rfl, show (24 : Int32) = nI 24 from rfl, show (3 : Int32) = nI 3 from rfl, pk_mul, pk_mul, nI_add, nI_add]]
    rw [if_pos (nI_le (by omega) (by omega)), shf_nil _ _ (by omega)]
  | d + 1, x, h, hx, f + 1, hf, a, ha => by
    rw [f_X9_takeOff_L20, ofR_0 hr, bd_some, ha, show (208 + 24 * nI r + 3 * nI l' : Int32) = nI (208 + 24 * r + 3 * l') by
      rw [show (208 : Int32) = nI 208 from rfl, show (24 : Int32) = nI 24 from rfl, show (3 : Int32) = nI 3 from rfl, pk_mul, pk_mul, nI_add, nI_add]]
    rw [if_neg (nI_ge (by omega) (by omega)), show (nI x + 3 : Int32) = nI (x + 3) from nI_add x 3, ix_l _ (by omega), ix_l _ (by omega), cl_n (by omega), cl_n (by omega), mA_1, mA_sp]
    rw [bnd_e]
    rw [nI_1, m_rem_L hr hl d (x + 1) (by omega) (by omega) f (by omega), shf_step _ (by omega) (by omega)]
    rw [upd_at, if_neg (show ¬ pos 12 r = x by show ¬ 128 + 5 * r = x; omega)]
    exact ha
def rmA (a : FN) (r p l : Nat) : FN := shf (upd a (pos 12 r) (a (pos 12 r) + -1)) 3 (208 + 24 * r + 3 * p) (208 + 24 * r + 3 * (l - 1))
theorem m_takeOff (h : RM V a L) {r p : Nat} (hr : r < 16) (hl : isN L 12 r 8) (hp : p < len L r) : f_X9_takeOff (mA M a) (nI r) (nI p) = some (mA M (rmA a r p (len L r))) := by
  have h8 : len L r ≤ 8 := hl.2
  have e : a (pos 12 r) + -1 = nI (len L r - 1) := by
    rw [rm_len h hr hl, addm1]
    exact pk_sub (b := 1) (show 1 ≤ len L r by omega)
  unfold f_X9_takeOff
  rw [moreR_0 hr, bd_some, show (208 + 24 * nI r + 3 * nI p : Int32) = nI (208 + 24 * r + 3 * p) by
      rw [show (208 : Int32) = nI 208 from rfl, show (24 : Int32) = nI 24 from rfl, show (3 : Int32) = nI 3 from rfl, pk_mul, pk_mul, nI_add, nI_add]]
  rw [m_rem_L hr (show len L r - 1 < 8 by omega) (3 * (len L r - 1 - p)) (208 + 24 * r + 3 * p) (by omega) (by omega) 5000 (by omega) _ (by rw [upd_at, if_pos rfl]; exact e)]
  rfl
