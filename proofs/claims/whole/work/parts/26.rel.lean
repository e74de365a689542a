/-! ===== the reference's library is the array a in its row 1 ===== -/
def mA (M : St) (a : FN) : St := va_up M 1 a
theorem mA_1 (M : St) (a : FN) : mA M a 1 = a := up_self _ _ _
theorem mA_id (M : St) : mA M (M 1) = M := up_id _ _
theorem mA_ne (M : St) (a : FN) {k : Nat} (h : k ≠ 1) : mA M a k = M k := up_ne _ _ h
theorem mA_sp (M : St) (a : FN) (i : Nat) (x : Int32) : sp (mA M a) 1 i x = mA M (upd a i x) := by
  unfold sp mA
  rw [up_self, up_up]
theorem mA_mA (M : St) (a b : FN) : mA (mA M a) b = mA M b := up_up _ _ _ _
def rowN : Nat → Nat
  | 2 => 4 | 29 => 3 | 4 => 24 | 7 => 24 | 9 => 24 | 31 => 24 | 33 => 24 | 12 => 16 | 35 => 16 | 37 => 16 | 39 => 16 | 41 => 16 | 14 => 128 | 16 => 128 | 18 => 128 | _ => 0
def pos : Nat → Nat → Nat
  | 2, j => j | 29, j => 4 + j | 4, j => 8 + 5 * j | 7, j => 9 + 5 * j | 9, j => 10 + 5 * j | 31, j => 11 + 5 * j | 33, j => 12 + 5 * j
  | 12, j => 128 + 5 * j | 35, j => 129 + 5 * j | 37, j => 130 + 5 * j | 39, j => 131 + 5 * j | 41, j => 132 + 5 * j
  | 14, j => 208 + 3 * j | 16, j => 209 + 3 * j | 18, j => 210 + 3 * j | _, _ => 652
theorem rown_in {k j : Nat} (h : j < rowN k) : k = 2 ∨ k = 29 ∨ k = 4 ∨ k = 7 ∨ k = 9 ∨ k = 31 ∨ k = 33 ∨ k = 12 ∨ k = 35 ∨ k = 37 ∨ k = 39 ∨ k = 41 ∨ k = 14 ∨ k = 16 ∨ k = 18 := by
  unfold rowN at h
  split at h <;> first | omega | simp
/-- where a row lies: base, step, how far -/
theorem pos_inj {k j k' j' : Nat} (h : j < rowN k) (h' : j' < rowN k') (e : pos k j = pos k' j') : k = k' ∧ j = j' := by
  rcases rown_in h with rfl | rfl | rfl | rfl | rfl | rfl | rfl | rfl | rfl | rfl | rfl | rfl | rfl | rfl | rfl <;>
  rcases rown_in h' with rfl | rfl | rfl | rfl | rfl | rfl | rfl | rfl | rfl | rfl | rfl | rfl | rfl | rfl | rfl <;>
  simp only [rowN, pos] at h h' e <;> first | exact ⟨rfl, by omega⟩ | omega
theorem pos_lt {k j : Nat} (h : j < rowN k) : pos k j < 592 ∧ ¬ pos k j = 7 := by
  rcases rown_in h with rfl | rfl | rfl | rfl | rfl | rfl | rfl | rfl | rfl | rfl | rfl | rfl | rfl | rfl | rfl <;> simp only [rowN, pos] at h ⊢ <;> omega
/-- a number in a row -/
def num (L : St) (k j : Nat) : Nat := (L k j).toNatClampNeg
def isN (L : St) (k j b : Nat) : Prop := L k j = nI (num L k j) ∧ num L k j ≤ b
def len (L : St) (r : Nat) : Nat := num L 12 r
def isSh (k : Nat) : Bool := k == 14 || k == 16 || k == 18
def core (k j : Nat) : Bool := k == 2 || k == 7 || k == 9 || k == 12 || k == 14 || k == 18 || (k == 29 && j == 0)
/-- the array says what the rows say (V: the values, too) -/
abbrev VB : Type := Prop × FN
def RM (V : VB) (a : FN) (L : St) : Prop := (∀ k j, j < rowN k → (V.1 ∨ core k j = true) → (isSh k = true → j % 8 < len L (j / 8)) → a (pos k j) = L k j) ∧ ∀ i, (i = 7 ∨ 592 ≤ i ∧ i < 652) → a i = V.2 i
variable {V : VB} {L : St} {M : St} {a : FN}
theorem rm_at (h : RM V a L) {k j : Nat} (hj : j < rowN k) (hc : core k j = true) (hs : isSh k = false) : a (pos k j) = L k j := h.1 k j hj (Or.inr hc) (fun q => by rw [hs] at q; cases q)
theorem rm_v (h : RM V a L) {k j : Nat} (hj : j < rowN k) (hs : isSh k = false) : V.1 → a (pos k j) = L k j := fun v => h.1 k j hj (Or.inl v) (fun q => by rw [hs] at q; cases q)
theorem upd_at (f : FN) (i : Nat) (x : Int32) (j : Nat) : upd f i x j = if j = i then x else f j := rfl
theorem len_sp {k j : Nat} {x : Int32} (hk : k ≠ 12) (r : Nat) : len (sp L k j x) r = len L r := by
  unfold len num
  rw [sp_row' _ _ _ (fun q => hk q.symm)]
theorem rm_sp (h : RM V a L) {k j : Nat} {x y : Int32} (hk : k ≠ 12) (hj : j < rowN k) (hxy : (V.1 ∨ core k j = true) → x = y) : RM V (upd a (pos k j) x) (sp L k j y) := by
  refine ⟨?_, fun i hi => by rw [upd_at, if_neg (fun q => by have := pos_lt hj; omega)]; exact h.2 i hi⟩
  intro k' j' hj' hv hs
  rw [upd_at, sp_at]
  by_cases e : pos k' j' = pos k j
  · obtain ⟨rfl, rfl⟩ := pos_inj hj' hj e
    rw [if_pos e, if_pos ⟨rfl, rfl⟩]
    exact hxy hv
  · rw [if_neg e, if_neg (fun q => e (by rw [q.1, q.2]))]
    exact h.1 k' j' hj' hv (fun q => by have := hs q; rwa [len_sp hk] at this)
theorem rm_add (h : RM V a L) {k j : Nat} {x : Int32} (hk : k ≠ 12) (hj : j < rowN k) (hs : isSh k = false) : RM V (upd a (pos k j) (a (pos k j) + x)) (sp L k j (L k j + x)) :=
  rm_sp h hk hj (fun hv => by rw [h.1 k j hj hv (fun q => by rw [hs] at q; cases q)])
/-! the reference's accessors -/
theorem cl_n {j : Nat} (hj : j < 2 ^ 31) : (nI j).toNatClampNeg = j := nI_clamp hj
theorem ix_l (j : Nat) (hj : j < 652) {β : Type} (k : Option β) : ix (nI j) 652 k = k := ix_ok hj (by omega)
theorem ix_0 {β : Type} (k : Option β) : ix 0 652 k = k := ix_l 0 (by omega) k
theorem ix_1 {β : Type} (k : Option β) : ix 1 652 k = k := ix_l 1 (by omega) k
theorem ix_2 {β : Type} (k : Option β) : ix 2 652 k = k := ix_l 2 (by omega) k
theorem ix_3 {β : Type} (k : Option β) : ix 3 652 k = k := ix_l 3 (by omega) k
theorem ix_4 {β : Type} (k : Option β) : ix 4 652 k = k := ix_l 4 (by omega) k
theorem ix_5 {β : Type} (k : Option β) : ix 5 652 k = k := ix_l 5 (by omega) k
theorem ix_6 {β : Type} (k : Option β) : ix 6 652 k = k := ix_l 6 (by omega) k
theorem ix_7 {β : Type} (k : Option β) : ix 7 652 k = k := ix_l 7 (by omega) k
theorem cl_0 : (0 : Int32).toNatClampNeg = 0 := by decide
theorem cl_1 : (1 : Int32).toNatClampNeg = 1 := by decide
theorem cl_2 : (2 : Int32).toNatClampNeg = 2 := by decide
theorem cl_3 : (3 : Int32).toNatClampNeg = 3 := by decide
theorem cl_4 : (4 : Int32).toNatClampNeg = 4 := by decide
theorem cl_5 : (5 : Int32).toNatClampNeg = 5 := by decide
theorem cl_6 : (6 : Int32).toNatClampNeg = 6 := by decide
theorem cl_7 : (7 : Int32).toNatClampNeg = 7 := by decide
theorem ofN_i {n c : Nat} : ((8 : Int32) + 5 * nI n) + nI c = nI (8 + 5 * n + c) := by
  rw [show (8 : Int32) = nI 8 from rfl, show (5 : Int32) = nI 5 from rfl, pk_mul, nI_add, nI_add]
theorem ofR_i {n c : Nat} : ((128 : Int32) + 5 * nI n) + nI c = nI (128 + 5 * n + c) := by
  rw [show (128 : Int32) = nI 128 from rfl, show (5 : Int32) = nI 5 from rfl, pk_mul, nI_add, nI_add]
theorem ofC_i {r p c : Nat} : (((208 : Int32) + 24 * nI r) + 3 * nI p) + nI c = nI (208 + 3 * (8 * r + p) + c) := by
  rw [show (208 : Int32) = nI 208 from rfl, show (24 : Int32) = nI 24 from rfl, show (3 : Int32) = nI 3 from rfl, pk_mul, pk_mul, nI_add, nI_add, nI_add]
  congr 1; omega
theorem ofN_c {n c : Nat} (hn : n < 24) (hc : c < 5) : f_X9_ofN (mA M a) (nI n) (nI c) = some (a (8 + 5 * n + c)) := by
  unfold f_X9_ofN
  rw [ofN_i, ix_l _ (by omega), cl_n (by omega), mA_1]
theorem layN_c {n c : Nat} {x : Int32} (hn : n < 24) (hc : c < 5) : f_X9_layN (mA M a) (nI n) (nI c) x = some (mA M (upd a (8 + 5 * n + c) x)) := by
  unfold f_X9_layN
  rw [ofN_i, ix_l _ (by omega), cl_n (by omega), mA_sp]; rfl
theorem ofR_c {n c : Nat} (hn : n < 16) (hc : c < 5) : f_X9_ofR (mA M a) (nI n) (nI c) = some (a (128 + 5 * n + c)) := by
  unfold f_X9_ofR
  rw [ofR_i, ix_l _ (by omega), cl_n (by omega), mA_1]
theorem moreR_c {n c : Nat} {x : Int32} (hn : n < 16) (hc : c < 5) : f_X9_moreR (mA M a) (nI n) (nI c) x = some (mA M (upd a (128 + 5 * n + c) (a (128 + 5 * n + c) + x))) := by
  unfold f_X9_moreR
  rw [ofR_i, ix_l _ (by omega), ix_l _ (by omega), cl_n (by omega), mA_1, mA_sp]; rfl
theorem ofC_c {r p c : Nat} (hr : r < 16) (hp : p < 8) (hc : c < 3) : f_X9_ofC (mA M a) (nI r) (nI p) (nI c) = some (a (208 + 3 * (8 * r + p) + c)) := by
  unfold f_X9_ofC
  rw [ofC_i, ix_l _ (by omega), cl_n (by omega), mA_1]
theorem layC_c {r p c : Nat} {x : Int32} (hr : r < 16) (hp : p < 8) (hc : c < 3) : f_X9_layC (mA M a) (nI r) (nI p) (nI c) x = some (mA M (upd a (208 + 3 * (8 * r + p) + c) x)) := by
  unfold f_X9_layC
  rw [ofC_i, ix_l _ (by omega), cl_n (by omega), mA_sp]; rfl
theorem pos_5 (k b c : Nat) (h : ∀ j, pos k j = b + c + 5 * j) (n : Nat) : b + 5 * n + c = pos k n := by rw [h]; omega
theorem ofN_0 {n : Nat} (hn : n < 24) : f_X9_ofN (mA M a) (nI n) 0 = some (a (pos 4 n)) := ofN_c (c := 0) hn (by omega)
theorem ofN_1 {n : Nat} (hn : n < 24) : f_X9_ofN (mA M a) (nI n) 1 = some (a (pos 7 n)) := by rw [← pos_5 7 8 1 (fun j => rfl) n]; exact ofN_c (c := 1) hn (by omega)
theorem ofN_2 {n : Nat} (hn : n < 24) : f_X9_ofN (mA M a) (nI n) 2 = some (a (pos 9 n)) := by rw [← pos_5 9 8 2 (fun j => rfl) n]; exact ofN_c (c := 2) hn (by omega)
theorem ofN_3 {n : Nat} (hn : n < 24) : f_X9_ofN (mA M a) (nI n) 3 = some (a (pos 31 n)) := by rw [← pos_5 31 8 3 (fun j => rfl) n]; exact ofN_c (c := 3) hn (by omega)
theorem ofN_4 {n : Nat} (hn : n < 24) : f_X9_ofN (mA M a) (nI n) 4 = some (a (pos 33 n)) := by rw [← pos_5 33 8 4 (fun j => rfl) n]; exact ofN_c (c := 4) hn (by omega)
theorem layN_0 {n : Nat} {x : Int32} (hn : n < 24) : f_X9_layN (mA M a) (nI n) 0 x = some (mA M (upd a (pos 4 n) x)) := layN_c (c := 0) hn (by omega)
theorem layN_1 {n : Nat} {x : Int32} (hn : n < 24) : f_X9_layN (mA M a) (nI n) 1 x = some (mA M (upd a (pos 7 n) x)) := by rw [← pos_5 7 8 1 (fun j => rfl) n]; exact layN_c (c := 1) hn (by omega)
theorem layN_2 {n : Nat} {x : Int32} (hn : n < 24) : f_X9_layN (mA M a) (nI n) 2 x = some (mA M (upd a (pos 9 n) x)) := by rw [← pos_5 9 8 2 (fun j => rfl) n]; exact layN_c (c := 2) hn (by omega)
theorem layN_3 {n : Nat} {x : Int32} (hn : n < 24) : f_X9_layN (mA M a) (nI n) 3 x = some (mA M (upd a (pos 31 n) x)) := by rw [← pos_5 31 8 3 (fun j => rfl) n]; exact layN_c (c := 3) hn (by omega)
theorem layN_4 {n : Nat} {x : Int32} (hn : n < 24) : f_X9_layN (mA M a) (nI n) 4 x = some (mA M (upd a (pos 33 n) x)) := by rw [← pos_5 33 8 4 (fun j => rfl) n]; exact layN_c (c := 4) hn (by omega)
theorem layCard_a {n : Nat} {x y : Int32} (hn : n < 24) : f_X9_layCard (mA M a) (nI n) x y = some (mA M (upd (upd a (pos 7 n) x) (pos 9 n) y)) := by
  unfold f_X9_layCard
  rw [layN_1 hn, bd_some, layN_2 hn, bd_some]
theorem ofR_0 {n : Nat} (hn : n < 16) : f_X9_ofR (mA M a) (nI n) 0 = some (a (pos 12 n)) := ofR_c (c := 0) hn (by omega)
theorem ofR_1 {n : Nat} (hn : n < 16) : f_X9_ofR (mA M a) (nI n) 1 = some (a (pos 35 n)) := by rw [← pos_5 35 128 1 (fun j => rfl) n]; exact ofR_c (c := 1) hn (by omega)
theorem ofR_2 {n : Nat} (hn : n < 16) : f_X9_ofR (mA M a) (nI n) 2 = some (a (pos 37 n)) := by rw [← pos_5 37 128 2 (fun j => rfl) n]; exact ofR_c (c := 2) hn (by omega)
theorem ofR_3 {n : Nat} (hn : n < 16) : f_X9_ofR (mA M a) (nI n) 3 = some (a (pos 39 n)) := by rw [← pos_5 39 128 3 (fun j => rfl) n]; exact ofR_c (c := 3) hn (by omega)
theorem ofR_4 {n : Nat} (hn : n < 16) : f_X9_ofR (mA M a) (nI n) 4 = some (a (pos 41 n)) := by rw [← pos_5 41 128 4 (fun j => rfl) n]; exact ofR_c (c := 4) hn (by omega)
theorem moreR_0 {n : Nat} {x : Int32} (hn : n < 16) : f_X9_moreR (mA M a) (nI n) 0 x = some (mA M (upd a (pos 12 n) (a (pos 12 n) + x))) := moreR_c (c := 0) hn (by omega)
theorem moreR_1 {n : Nat} {x : Int32} (hn : n < 16) : f_X9_moreR (mA M a) (nI n) 1 x = some (mA M (upd a (pos 35 n) (a (pos 35 n) + x))) := by rw [← pos_5 35 128 1 (fun j => rfl) n]; exact moreR_c (c := 1) hn (by omega)
theorem moreR_2 {n : Nat} {x : Int32} (hn : n < 16) : f_X9_moreR (mA M a) (nI n) 2 x = some (mA M (upd a (pos 37 n) (a (pos 37 n) + x))) := by rw [← pos_5 37 128 2 (fun j => rfl) n]; exact moreR_c (c := 2) hn (by omega)
theorem moreR_3 {n : Nat} {x : Int32} (hn : n < 16) : f_X9_moreR (mA M a) (nI n) 3 x = some (mA M (upd a (pos 39 n) (a (pos 39 n) + x))) := by rw [← pos_5 39 128 3 (fun j => rfl) n]; exact moreR_c (c := 3) hn (by omega)
theorem moreR_4 {n : Nat} {x : Int32} (hn : n < 16) : f_X9_moreR (mA M a) (nI n) 4 x = some (mA M (upd a (pos 41 n) (a (pos 41 n) + x))) := by rw [← pos_5 41 128 4 (fun j => rfl) n]; exact moreR_c (c := 4) hn (by omega)
theorem pos_3 (k c : Nat) (h : ∀ j, pos k j = 208 + c + 3 * j) (n : Nat) : 208 + 3 * n + c = pos k n := by rw [h]; omega
theorem ofC_0 {r p : Nat} (hr : r < 16) (hp : p < 8) : f_X9_ofC (mA M a) (nI r) (nI p) 0 = some (a (pos 14 (8 * r + p))) := ofC_c (c := 0) hr hp (by omega)
theorem ofC_1 {r p : Nat} (hr : r < 16) (hp : p < 8) : f_X9_ofC (mA M a) (nI r) (nI p) 1 = some (a (pos 16 (8 * r + p))) := by rw [← pos_3 16 1 (fun j => rfl)]; exact ofC_c (c := 1) hr hp (by omega)
theorem ofC_2 {r p : Nat} (hr : r < 16) (hp : p < 8) : f_X9_ofC (mA M a) (nI r) (nI p) 2 = some (a (pos 18 (8 * r + p))) := by rw [← pos_3 18 2 (fun j => rfl)]; exact ofC_c (c := 2) hr hp (by omega)
theorem layC_0 {r p : Nat} {x : Int32} (hr : r < 16) (hp : p < 8) : f_X9_layC (mA M a) (nI r) (nI p) 0 x = some (mA M (upd a (pos 14 (8 * r + p)) x)) := layC_c (c := 0) hr hp (by omega)
theorem layC_1 {r p : Nat} {x : Int32} (hr : r < 16) (hp : p < 8) : f_X9_layC (mA M a) (nI r) (nI p) 1 x = some (mA M (upd a (pos 16 (8 * r + p)) x)) := by rw [← pos_3 16 1 (fun j => rfl)]; exact layC_c (c := 1) hr hp (by omega)
theorem layC_2 {r p : Nat} {x : Int32} (hr : r < 16) (hp : p < 8) : f_X9_layC (mA M a) (nI r) (nI p) 2 x = some (mA M (upd a (pos 18 (8 * r + p)) x)) := by rw [← pos_3 18 2 (fun j => rfl)]; exact layC_c (c := 2) hr hp (by omega)
