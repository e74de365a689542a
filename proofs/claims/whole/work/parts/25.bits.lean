/-! ===== Int32 by its bits: bt x i ===== -/
def bt (x : Int32) (i : Nat) : Bool := x.toBitVec.getLsbD i
theorem b_ext {x y : Int32} (h : ∀ i, i < 32 → bt x i = bt y i) : x = y := Int32.toBitVec_inj.mp (BitVec.eq_of_getLsbD_eq (fun i hi => h i hi))
theorem b_or (x y : Int32) (i : Nat) : bt (x ||| y) i = (bt x i || bt y i) := by unfold bt; rw [Int32.toBitVec_or, BitVec.getLsbD_or]
theorem b_and (x y : Int32) (i : Nat) : bt (x &&& y) i = (bt x i && bt y i) := by unfold bt; rw [Int32.toBitVec_and, BitVec.getLsbD_and]
theorem b_xor (x y : Int32) (i : Nat) : bt (x ^^^ y) i = (bt x i ^^ bt y i) := by unfold bt; rw [Int32.toBitVec_xor, BitVec.getLsbD_xor]
theorem b_big {x : Int32} {i : Nat} (h : 32 ≤ i) : bt x i = false := BitVec.getLsbD_of_ge _ _ h
theorem b_255 (i : Nat) : bt 255 i = decide (i < 8) := by
  rcases Nat.lt_or_ge i 32 with h | h
  · exact (by decide +kernel : ∀ i, i < 32 → bt 255 i = decide (i < 8)) i h
  · rw [b_big h, decide_eq_false (by omega)]
theorem b_65535 (i : Nat) : bt 65535 i = decide (i < 16) := by
  rcases Nat.lt_or_ge i 32 with h | h
  · exact (by decide +kernel : ∀ i, i < 32 → bt 65535 i = decide (i < 16)) i h
  · rw [b_big h, decide_eq_false (by omega)]
theorem b_m1 : ∀ i, i < 32 → bt (-1) i = true := by decide +kernel
theorem b_0 (i : Nat) : bt 0 i = false := BitVec.getLsbD_zero
theorem s_l : ∀ n, n < 32 → ((nI n &&& 31).toBitVec.smod 32).toNat = n := by decide +kernel
theorem s_u : ∀ n, n < 32 → (((nI n).toUInt32 &&& Int32.toUInt32 31).toBitVec % 32).toNat = n := by decide +kernel
theorem b_shl (n : Nat) (hn : n < 32) (x : Int32) {i : Nat} (hi : i < 32) : bt (x <<< (nI n &&& 31)) i = (decide (n ≤ i) && bt x (i - n)) := by
  unfold bt
  rw [Int32.toBitVec_shiftLeft]
  show (x.toBitVec <<< ((nI n &&& 31).toBitVec.smod 32).toNat).getLsbD i = _
  rw [s_l n hn, BitVec.getLsbD_shiftLeft]
  rcases Nat.lt_or_ge i n with h | h
  · simp [h, Nat.not_le.mpr h]
  · simp [hi, h, Nat.not_lt.mpr h]
theorem b_ushr (n : Nat) (hn : n < 32) (x : Int32) (i : Nat) : bt ((x.toUInt32 >>> ((nI n).toUInt32 &&& Int32.toUInt32 31)).toInt32) i = bt x (n + i) := by
  show (x.toUInt32 >>> ((nI n).toUInt32 &&& Int32.toUInt32 31)).toBitVec.getLsbD i = x.toUInt32.toBitVec.getLsbD (n + i)
  rw [UInt32.toBitVec_shiftRight]
  show (x.toUInt32.toBitVec >>> (((nI n).toUInt32 &&& Int32.toUInt32 31).toBitVec % 32).toNat).getLsbD i = _
  rw [s_u n hn, BitVec.getLsbD_ushiftRight]
theorem b_sshr (n : Nat) (hn : n < 32) (x : Int32) {i : Nat} (hi : i < 32) : bt (x >>> (nI n &&& 31)) i = if n + i < 32 then bt x (n + i) else bt x 31 := by
  unfold bt
  rw [Int32.toBitVec_shiftRight]
  show (x.toBitVec.sshiftRight ((nI n &&& 31).toBitVec.smod 32).toNat).getLsbD i = _
  rw [s_l n hn, BitVec.getLsbD_sshiftRight, BitVec.msb_eq_getLsbD_last]
  simp [hi]
theorem b_shl8 (x : Int32) {i : Nat} (hi : i < 32) : bt (x <<< ((8 : Int32) &&& 31)) i = (decide (8 ≤ i) && bt x (i - 8)) := b_shl 8 (by omega) x hi
theorem b_shl16 (x : Int32) {i : Nat} (hi : i < 32) : bt (x <<< ((16 : Int32) &&& 31)) i = (decide (16 ≤ i) && bt x (i - 16)) := b_shl 16 (by omega) x hi
theorem b_shl24 (x : Int32) {i : Nat} (hi : i < 32) : bt (x <<< ((24 : Int32) &&& 31)) i = (decide (24 ≤ i) && bt x (i - 24)) := b_shl 24 (by omega) x hi
theorem b_sshr8 (x : Int32) {i : Nat} (hi : i < 32) : bt (x >>> ((8 : Int32) &&& 31)) i = if 8 + i < 32 then bt x (8 + i) else bt x 31 := b_sshr 8 (by omega) x hi
/-! ===== nI under and, xor, >>>, one bit, 65535 ===== -/
theorem nx_and (a b : Nat) : nI a &&& nI b = nI (a &&& b) := by
  apply Int32.toBitVec_inj.1
  show BitVec.ofNat 32 a &&& BitVec.ofNat 32 b = BitVec.ofNat 32 (a &&& b)
  apply BitVec.eq_of_getLsbD_eq
  intro i hi
  simp [hi]
theorem nx_cnt : ∀ j : Fin 32, (UInt32.ofNat j.val &&& Int32.toUInt32 31).toNat % 32 = j.val := by decide +kernel
theorem nx_ush {k j : Nat} (hk : k < 65536) (hj : j < 32) : ((nI k).toUInt32 >>> ((nI j).toUInt32 &&& Int32.toUInt32 31)).toInt32 = nI (k >>> j) := by
  have hs : k >>> j ≤ k := by
    rw [Nat.shiftRight_eq_div_pow]
    exact Nat.div_le_self _ _
  have e2 : UInt32.ofNat k >>> (UInt32.ofNat j &&& Int32.toUInt32 31) = UInt32.ofNat (k >>> j) := by
    apply UInt32.toNat_inj.1
    have h1 : (UInt32.ofNat k).toNat = k := Nat.mod_eq_of_lt (by omega)
    have h2 : (UInt32.ofNat (k >>> j)).toNat = k >>> j := Nat.mod_eq_of_lt (by omega)
    rw [UInt32.toNat_shiftRight, nx_cnt ⟨j, hj⟩, h1, h2]
  show (UInt32.ofNat k >>> (UInt32.ofNat j &&& Int32.toUInt32 31)).toInt32 = _
  rw [e2]
  rfl
/-! ===== numbers, rows, sets ===== -/
theorem bt_1 (i : Nat) : bt 1 i = decide (i = 0) := by
  rcases Nat.lt_or_ge i 32 with h | h
  · exact (by decide +kernel : ∀ i, i < 32 → bt 1 i = decide (i = 0)) i h
  · rw [b_big h, decide_eq_false (by omega)]
theorem rat_nI {n : Nat} {f : FN} {j : Nat} (hj : j < n) (hn : n < 2 ^ 31) : rat n f (nI j) = f j := by
  unfold rat
  rw [if_neg (nI_pos (by omega)), if_neg (show ¬ Int32.ofNat n ≤ nI j from nI_ge hj hn), nI_clamp (by omega)]
theorem rwr_nI {n : Nat} {S : St} {k j : Nat} {x : Int32} (hj : j < n) (hn : n < 2 ^ 31) : rwr n S k (nI j) x = sp S k j x := by
  unfold rwr
  rw [if_neg (nI_pos (by omega)), if_neg (show ¬ Int32.ofNat n ≤ nI j from nI_ge hj hn), nI_clamp (by omega)]
theorem rad_nI {n : Nat} {S : St} {k j : Nat} {x : Int32} (hj : j < n) (hn : n < 2 ^ 31) : rad n S k (nI j) x = sp S k j (S k j + x) := by
  unfold rad
  rw [if_neg (nI_pos (by omega)), if_neg (show ¬ Int32.ofNat n ≤ nI j from nI_ge hj hn), nI_clamp (by omega)]
theorem sp_row (S : St) (k j : Nat) (x : Int32) : sp S k j x k = upd (S k) j x := up_self _ _ _
theorem sp_row' (S : St) {k k' : Nat} (j : Nat) (x : Int32) (h : k' ≠ k) : sp S k j x k' = S k' := up_ne _ _ h
theorem sp_eq' (S : St) (k j : Nat) (x : Int32) : sp S k j x k j = x := by rw [sp_row]; exact pk_us
theorem sp_at (S : St) (k j : Nat) (x : Int32) (k' j' : Nat) : sp S k j x k' j' = if k' = k ∧ j' = j then x else S k' j' := by
  by_cases h : k' = k
  · subst h
    rw [sp_row]
    unfold upd
    by_cases h2 : j' = j <;> simp [h2]
  · rw [sp_row' _ _ _ h, if_neg (fun q => h q.1)]
theorem ix_ok {β : Type} {j n : Nat} {k : Option β} (hj : j < n) (hn : n < 2 ^ 31) : ix (nI j) n k = k := by
  unfold ix
  rw [if_neg (nI_in hj hn)]
theorem nz_ok {β : Type} {y : Int32} {k : Option β} (h : ¬ y = 0) : nz y k = k := by
  unfold nz
  rw [if_neg h]
theorem bd_some {α β : Type} (x : α) (k : α → Option β) : bd (some x) k = k x := rfl
theorem bdp_some {α σ β : Type} (x : α) (s : σ) (k : α → σ → Option β) : bdp (some (x, s)) k = k x s := rfl
/-- the one bit -/
theorem bt_only {r : Nat} (hr : r < 32) {i : Nat} (hi : i < 32) : bt ((1 : Int32) <<< (nI r &&& 31)) i = decide (i = r) := by
  rw [b_shl r hr 1 hi, bt_1]
  by_cases h : i = r
  · subst h; simp
  · by_cases h2 : r ≤ i
    · simp [h2, h]; omega
    · simp [h2, h]
theorem bt_not (x : Int32) {i : Nat} (hi : i < 32) : bt (x ^^^ (-1)) i = !bt x i := by
  rw [b_xor, b_m1 i hi]
  cases bt x i <;> rfl
theorem isIn_bt {r : Nat} (hr : r < 32) (m : Int32) : f_X8_isIn (nI r) m = if bt m r then 1 else 0 := by
  unfold f_X8_isIn
  have h : ((m >>> (nI r &&& 31)) &&& 1) = if bt m r then 1 else 0 := by
    refine b_ext (fun i hi => ?_)
    rw [b_and, bt_1, b_sshr r hr m hi]
    by_cases h0 : i = 0
    · subst h0
      simp [hr]
      cases bt m r <;> simp [bt_1, b_0]
    · simp [h0]
      cases bt m r <;> simp [bt_1, b_0, h0]
  rw [h]
  cases bt m r <;> simp
theorem has_bt {r : Nat} (hr : r < 32) (m : Int32) : f_X9_has m (nI r) = if bt m r then 1 else 0 := by
  have h := isIn_bt hr m
  unfold f_X8_isIn at h
  unfold f_X9_has
  by_cases h1 : ((m >>> (nI r &&& 31)) &&& 1) = 0
  · rw [if_pos h1] at h
    rw [if_neg (by rw [h1]; decide)]
    exact h
  · rw [if_neg h1] at h
    have : bt m r = true := by
      cases hb : bt m r with
      | true => rfl
      | false => rw [hb] at h; exact absurd h (by decide)
    rw [this]
    have h2 : ((m >>> (nI r &&& 31)) &&& 1) = 1 := by
      refine b_ext (fun i hi => ?_)
      rw [b_and, bt_1, b_sshr r hr m hi]
      by_cases h0 : i = 0
      · subst h0; simp [hr, this]
      · simp [h0]
    rw [if_pos h2]
    rfl
/-- the set of those below N that have p -/
def mk (p : Nat → Bool) : Nat → Int32
  | 0 => 0
  | n + 1 => if p n then mk p n ||| ((1 : Int32) <<< (nI n &&& 31)) else mk p n
theorem bt_mk (p : Nat → Bool) : ∀ N, N ≤ 32 → ∀ i, i < 32 → bt (mk p N) i = (decide (i < N) && p i)
  | 0, _, i, hi => by simp [mk, b_0]
  | N + 1, hN, i, hi => by
    rw [mk]
    have ih := bt_mk p N (by omega) i hi
    by_cases hp : p N
    · rw [if_pos hp, b_or, ih, bt_only (by omega) hi]
      by_cases h : i = N
      · subst h; simp [hp]
      · by_cases h2 : i < N
        · simp [h, h2, show i < N + 1 by omega]
        · simp [h, h2, show ¬ i < N + 1 by omega]
    · rw [if_neg hp, ih]
      by_cases h : i = N
      · subst h; simp [hp]
      · by_cases h2 : i < N
        · simp [h2, show i < N + 1 by omega]
        · simp [h2, show ¬ i < N + 1 by omega]
theorem mk_eq {p : Nat → Bool} {m : Int32} {N : Nat} (hN : N ≤ 32) (h : ∀ i, i < N → bt m i = p i) (h2 : ∀ i, N ≤ i → i < 32 → bt m i = false) : mk p N = m := by
  refine b_ext (fun i hi => ?_)
  rw [bt_mk p N hN i hi]
  by_cases h3 : i < N
  · simp [h3, h i h3]
  · simp [h3, h2 i (by omega) hi]
theorem mk_cong {p q : Nat → Bool} {N : Nat} (hN : N ≤ 32) (h : ∀ i, i < N → p i = q i) : mk p N = mk q N := by
  refine b_ext (fun i hi => ?_)
  rw [bt_mk p N hN i hi, bt_mk q N hN i hi]
  by_cases h3 : i < N
  · simp [h3, h i h3]
  · simp [h3]
/-- how many below n -/
def ct (p : Nat → Bool) : Nat → Nat
  | 0 => 0
  | n + 1 => ct p n + (if p n then 1 else 0)
theorem ct_le (p : Nat → Bool) : ∀ n, ct p n ≤ n
  | 0 => Nat.le_refl _
  | n + 1 => by
    have := ct_le p n
    rw [ct]
    split <;> omega
theorem ct_cong {p q : Nat → Bool} : ∀ {n : Nat}, (∀ k, k < n → p k = q k) → ct p n = ct q n
  | 0, _ => rfl
  | n + 1, h => by rw [ct, ct, ct_cong (fun k hk => h k (by omega)), h n (by omega)]
theorem ct_zero {p : Nat → Bool} : ∀ {n : Nat}, (∀ k, k < n → p k = false) → ct p n = 0
  | 0, _ => rfl
  | n + 1, h => by rw [ct, ct_zero (fun k hk => h k (by omega)), h n (by omega)]; rfl
theorem ct_pos {p : Nat → Bool} : ∀ {n : Nat}, 0 < ct p n → ∃ k, k < n ∧ p k = true
  | 0, h => absurd h (Nat.lt_irrefl 0)
  | n + 1, h => by
    rw [ct] at h
    by_cases hp : p n = true
    · exact ⟨n, by omega, hp⟩
    · rw [if_neg hp] at h
      obtain ⟨k, h1, h2⟩ := ct_pos (p := p) (n := n) (by omega)
      exact ⟨k, by omega, h2⟩
theorem ct_split (p : Nat → Bool) (m : Nat) : ∀ n, ct p (m + n) = ct p m + ct (fun k => p (m + k)) n
  | 0 => rfl
  | n + 1 => by
    show ct p (m + n) + (if p (m + n) = true then 1 else 0) = ct p m + (ct (fun k => p (m + k)) n + (if p (m + n) = true then 1 else 0))
    rw [ct_split p m n]
    omega
theorem ct_out {p : Nat → Bool} {m n : Nat} (hmn : m ≤ n) (h : ∀ k, m ≤ k → k < n → p k = false) : ct p n = ct p m := by
  obtain ⟨d, rfl⟩ := Nat.le.dest hmn
  rw [ct_split, ct_zero (fun k hk => h (m + k) (by omega) (by omega))]
  rfl
theorem ct_upd (p : Nat → Bool) (b : Bool) {i : Nat} : ∀ {n : Nat}, i < n → ct (fun k => if k = i then b else p k) n + (if p i then 1 else 0) = ct p n + (if b then 1 else 0)
  | 0, h => absurd h (Nat.not_lt_zero i)
  | n + 1, h => by
    rw [ct, ct]
    by_cases hi : i = n
    · subst hi
      have : ct (fun k => if k = i then b else p k) i = ct p i := ct_cong (fun k hk => by simp [show ¬ k = i by omega])
      rw [this]
      simp only [if_true]
      omega
    · have ih := ct_upd p b (i := i) (n := n) (by omega)
      simp only [show ¬ n = i by omega, if_false]
      omega
/-- bitCount in numbers, byte by byte -/
def pop (k : Nat) : Nat := ct (fun i => k.testBit i) 16
theorem and_split {l h m M : Nat} (hl : l < 256) (hm : m < 256) : (l + 256 * h) &&& (m + 256 * M) = (l &&& m) + 256 * (h &&& M) := by
  have h1 : ((l + 256 * h) &&& (m + 256 * M)) / 2 ^ 8 = ((l + 256 * h) / 2 ^ 8) &&& ((m + 256 * M) / 2 ^ 8) := by first | exact Nat.and_div_two_pow | exact Nat.and_div_two_pow _ _ _
  have h2 : ((l + 256 * h) &&& (m + 256 * M)) % 2 ^ 8 = ((l + 256 * h) % 2 ^ 8) &&& ((m + 256 * M) % 2 ^ 8) := by first | exact Nat.and_mod_two_pow | exact Nat.and_mod_two_pow _ _ _
  rw [show (l + 256 * h) / 2 ^ 8 = h by omega, show (m + 256 * M) / 2 ^ 8 = M by omega] at h1
  rw [show (l + 256 * h) % 2 ^ 8 = l by omega, show (m + 256 * M) % 2 ^ 8 = m by omega] at h2
  omega
def bA (l : Nat) : Nat := l - ((l / 2) &&& 85)
def bB (l : Nat) : Nat := (bA l &&& 51) + ((bA l / 4) &&& 51)
def bC (l : Nat) : Nat := (bB l + bB l / 16) &&& 15
theorem bA_1 : ∀ l, l < 256 → ∀ t, t < 2 → ((l / 2 + 128 * t) &&& 85) = ((l / 2) &&& 85) ∧ ((l / 2) &&& 85) ≤ l ∧ bA l < 256 := by decide +kernel
theorem bB_1 : ∀ l, l < 256 → ∀ t, t < 4 → ((bA l / 4 + 64 * t) &&& 51) = ((bA l / 4) &&& 51) ∧ bB l ≤ 68 ∧ bB l % 16 ≤ 4 := by decide +kernel
theorem bC_1 : ∀ l, l < 256 → ∀ t, t < 5 → ((bB l + (bB l / 16 + 16 * t)) &&& 15) = bC l ∧ bC l ≤ 8 := by decide +kernel
theorem bC_pop : ∀ l, l < 256 → bC l = ct (fun i => l.testBit i) 8 := by decide +kernel
theorem and63 : ∀ x, x < 64 → x &&& 63 = x := by decide +kernel
theorem pop_split {l h : Nat} (hl : l < 256) : pop (l + 256 * h) = ct (fun i => l.testBit i) 8 + ct (fun i => h.testBit i) 8 := by
  unfold pop
  rw [ct_split _ 8 8]
  congr 1
  · refine ct_cong (fun k hk => ?_)
    rw [Nat.testBit_eq_decide_div_mod_eq, Nat.testBit_eq_decide_div_mod_eq]
    have : (l + 256 * h) / 2 ^ k % 2 = l / 2 ^ k % 2 := by
      match k, hk with
      | 0, _ => omega
      | 1, _ => omega
      | 2, _ => omega
      | 3, _ => omega
      | 4, _ => omega
      | 5, _ => omega
      | 6, _ => omega
      | 7, _ => omega
      | k + 8, h => exact absurd h (by omega)
    rw [this]
  · refine ct_cong (fun k hk => ?_)
    rw [Nat.testBit_eq_decide_div_mod_eq, Nat.testBit_eq_decide_div_mod_eq]
    have : (l + 256 * h) / 2 ^ (8 + k) = h / 2 ^ k := by
      rw [Nat.pow_add, ← Nat.div_div_eq_div_mul]
      congr 1
      omega
    rw [this]
theorem bitCount_nI {k : Nat} (hk : k < 65536) : f_J6_bitCount_0f7a4 (nI k) = nI (pop k) := by
  obtain ⟨l, h, hl, hh, rfl⟩ : ∃ l h, l < 256 ∧ h < 256 ∧ k = l + 256 * h := ⟨k % 256, k / 256, by omega, by omega, by omega⟩
  have s1 := bA_1 l hl (h % 2) (by omega)
  have s2 := bA_1 h hh 0 (by omega)
  have s3 := bB_1 l hl (bA h % 4) (by omega)
  have s4 := bB_1 h hh 0 (by omega)
  have s5 := bC_1 l hl (bB h % 16) (by omega)
  have s6 := bC_1 h hh 0 (by omega)
  have e1 : ((nI (l + 256 * h)).toUInt32 >>> ((1 : Int32).toUInt32 &&& Int32.toUInt32 31)).toInt32 = nI ((l + 256 * h) >>> 1) := nx_ush (j := 1) hk (by omega)
  have e2 : nI ((l + 256 * h) >>> 1) &&& (1431655765 : Int32) = nI (((l + 256 * h) >>> 1) &&& 1431655765) := nx_and _ _
  have g1 : ((l + 256 * h) >>> 1) &&& 1431655765 = ((l / 2) &&& 85) + 256 * ((h / 2) &&& 85) := by
    rw [Nat.shiftRight_eq_div_pow, show (l + 256 * h) / 2 ^ 1 = (l / 2 + 128 * (h % 2)) + 256 * (h / 2 + 256 * 0) by omega, show 1431655765 = 85 + 256 * (85 + 256 * 21845) from rfl, and_split (by omega) (by omega), and_split (by omega) (by omega), s1.1]
    simp
  have e3 : nI (l + 256 * h) - nI (((l + 256 * h) >>> 1) &&& 1431655765) = nI (bA l + 256 * bA h) := by
    rw [g1, pk_sub (by omega)]
    congr 1
    unfold bA
    omega
  have ha : bA l + 256 * bA h < 65536 := by omega
  have e4 : nI (bA l + 256 * bA h) &&& (858993459 : Int32) = nI ((bA l + 256 * bA h) &&& 858993459) := nx_and _ _
  have e5 : ((nI (bA l + 256 * bA h)).toUInt32 >>> ((2 : Int32).toUInt32 &&& Int32.toUInt32 31)).toInt32 = nI ((bA l + 256 * bA h) >>> 2) := nx_ush (j := 2) ha (by omega)
  have e6 : nI ((bA l + 256 * bA h) >>> 2) &&& (858993459 : Int32) = nI (((bA l + 256 * bA h) >>> 2) &&& 858993459) := nx_and _ _
  have e7 : nI ((bA l + 256 * bA h) &&& 858993459) + nI (((bA l + 256 * bA h) >>> 2) &&& 858993459) = nI (bB l + 256 * bB h) := by
    rw [nI_add]
    congr 1
    have g2 : (bA l + 256 * bA h) &&& 858993459 = (bA l &&& 51) + 256 * (bA h &&& 51) := by
      rw [show bA l + 256 * bA h = bA l + 256 * (bA h + 256 * 0) by omega, show 858993459 = 51 + 256 * (51 + 256 * 13107) from rfl, and_split (by omega) (by omega), and_split (by omega) (by omega)]
      simp
    have g3 : ((bA l + 256 * bA h) >>> 2) &&& 858993459 = ((bA l / 4) &&& 51) + 256 * ((bA h / 4) &&& 51) := by
      rw [Nat.shiftRight_eq_div_pow, show (bA l + 256 * bA h) / 2 ^ 2 = (bA l / 4 + 64 * (bA h % 4)) + 256 * (bA h / 4 + 256 * 0) by omega, show 858993459 = 51 + 256 * (51 + 256 * 13107) from rfl, and_split (by omega) (by omega), and_split (by omega) (by omega), s3.1]
      simp
    rw [g2, g3]
    unfold bB
    omega
  have hb : bB l + 256 * bB h < 65536 := by omega
  have e8 : ((nI (bB l + 256 * bB h)).toUInt32 >>> ((4 : Int32).toUInt32 &&& Int32.toUInt32 31)).toInt32 = nI ((bB l + 256 * bB h) >>> 4) := nx_ush (j := 4) hb (by omega)
  have e9 : nI (bB l + 256 * bB h) + nI ((bB l + 256 * bB h) >>> 4) = nI ((bB l + (bB l / 16 + 16 * (bB h % 16))) + 256 * (bB h + bB h / 16)) := by
    rw [nI_add, Nat.shiftRight_eq_div_pow]
    congr 1
    omega
  have e10 : nI ((bB l + (bB l / 16 + 16 * (bB h % 16))) + 256 * (bB h + bB h / 16)) &&& (252645135 : Int32) = nI (bC l + 256 * bC h) := by
    refine (nx_and _ 252645135).trans ?_
    congr 1
    rw [show (bB l + (bB l / 16 + 16 * (bB h % 16))) + 256 * (bB h + bB h / 16) = (bB l + (bB l / 16 + 16 * (bB h % 16))) + 256 * ((bB h + bB h / 16) + 256 * 0) by omega, show 252645135 = 15 + 256 * (15 + 256 * 3855) from rfl, and_split (by omega) (by omega), and_split (by omega) (by omega), s5.1]
    unfold bC
    simp
  have hc : bC l + 256 * bC h < 65536 := by omega
  have e11 : ((nI (bC l + 256 * bC h)).toUInt32 >>> ((8 : Int32).toUInt32 &&& Int32.toUInt32 31)).toInt32 = nI ((bC l + 256 * bC h) >>> 8) := nx_ush (j := 8) hc (by omega)
  have e12 : nI (bC l + 256 * bC h) + nI ((bC l + 256 * bC h) >>> 8) = nI ((bC l + bC h) + 256 * bC h) := by
    rw [nI_add, Nat.shiftRight_eq_div_pow]
    congr 1
    omega
  have hd : (bC l + bC h) + 256 * bC h < 65536 := by omega
  have e13 : ((nI ((bC l + bC h) + 256 * bC h)).toUInt32 >>> ((16 : Int32).toUInt32 &&& Int32.toUInt32 31)).toInt32 = nI (((bC l + bC h) + 256 * bC h) >>> 16) := nx_ush (j := 16) hd (by omega)
  have e14 : nI ((bC l + bC h) + 256 * bC h) + nI (((bC l + bC h) + 256 * bC h) >>> 16) = nI ((bC l + bC h) + 256 * bC h) := by
    rw [nI_add, Nat.shiftRight_eq_div_pow]
    congr 1
    omega
  have e15 : nI ((bC l + bC h) + 256 * bC h) &&& (63 : Int32) = nI (bC l + bC h) := by
    refine (nx_and _ 63).trans ?_
    congr 1
    rw [show (63 : Nat) = 63 + 256 * 0 from rfl, and_split (by omega) (by omega), and63 _ (by omega)]
    simp
  unfold f_J6_bitCount_0f7a4
  simp only [e1, e2, e3, e4, e5, e6, e7, e8, e9, e10, e11, e12, e13, e14, e15]
  rw [pop_split hl, ← bC_pop l hl, ← bC_pop h hh]
