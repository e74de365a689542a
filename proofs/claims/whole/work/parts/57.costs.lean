variable {V : VB} {L : St} {M : St} {a : FN} {z : Nat} {G : Gs}
/-! ===== how many messages: sums ===== -/
def sf (q : Nat → Nat) : Nat → Nat → Nat
  | 0, _ => 0
  | d + 1, i => q i + sf q d (i + 1)
theorem sf_cong {q q' : Nat → Nat} : ∀ {d i : Nat}, (∀ k, i ≤ k → k < i + d → q k = q' k) → sf q d i = sf q' d i
  | 0, _, _ => rfl
  | d + 1, i, h => by rw [sf, sf, h i (by omega) (by omega), sf_cong (d := d) (i := i + 1) (fun k h1 h2 => h k (by omega) (by omega))]
theorem sm_front (f : Nat → Nat) : ∀ n, sm f (n + 1) = f 0 + sm (fun k => f (k + 1)) n
  | 0 => by rw [sm, sm, sm]; omega
  | n + 1 => by rw [sm, sm_front f n, sm]; omega
theorem sf_sm (q : Nat → Nat) : ∀ d i, sf q d i = sm (fun k => q (i + k)) d
  | 0, _ => rfl
  | d + 1, i => by
    rw [sf, sf_sm q d (i + 1), sm_front]
    congr 1
    exact sm_cong (fun k _ => by rw [show i + 1 + k = i + (k + 1) by omega])
theorem sf_0 (q : Nat → Nat) (d : Nat) : sf q d 0 = sm q d := by
  rw [sf_sm]
  exact sm_cong (fun k _ => by rw [Nat.zero_add])
theorem ct_sm (p : Nat → Bool) : ∀ n, ct p n = sm (fun k => if p k then 1 else 0) n
  | 0 => rfl
  | n + 1 => by rw [ct, sm, ct_sm p n]
theorem sm_add (f g : Nat → Nat) : ∀ n, sm (fun k => f k + g k) n = sm f n + sm g n
  | 0 => rfl
  | n + 1 => by rw [sm, sm, sm, sm_add f g n]; omega
theorem clb_290 {n i : Nat} {g : Int32} : clb L n i g 29 0 = L 29 0 + nI (1 + (if hasB L n i then 1 else 0)) := by
  by_cases h : plc L i n < len L i
  · rw [clb_held h, hasB_t h, if_pos rfl, sp_row' _ _ _ (by decide), sp_at, if_neg (by omega), sp_row' _ _ _ (by decide), sp_row' _ _ _ (by decide), sp_eq', Int32.add_assoc]
    rfl
  · rw [clb_free h, hasB_f h, if_neg (by decide), sp_row' _ _ _ (by decide), sp_at, if_neg (by omega), sp_row' _ _ _ (by decide), sp_at, if_neg (by omega), sp_eq']
    rfl
theorem clb_291 {n i : Nat} {g : Int32} : clb L n i g 29 1 = L 29 1 + nI (if hasB L n i then 0 else 1) := by
  by_cases h : plc L i n < len L i
  · rw [clb_held h, hasB_t h, if_pos rfl, sp_row' _ _ _ (by decide), sp_at, if_neg (by omega), sp_row' _ _ _ (by decide), sp_row' _ _ _ (by decide), sp_at, if_neg (by omega), off_ne rfl (by decide) (by decide) (by decide)]
    exact (Int32.add_zero _).symm
  · rw [clb_free h, hasB_f h, if_neg (by decide), sp_row' _ _ _ (by decide), sp_at, if_neg (by omega), sp_row' _ _ _ (by decide), sp_eq']
    rfl
def q0 (L : St) (n : Nat) (m x2 : Int32) (i : Nat) : Nat := if nI i = x2 then 0 else if bt m i then 1 + (if hasB L n i then 1 else 0) else 0
def q1 (L : St) (n : Nat) (m x2 : Int32) (i : Nat) : Nat := if nI i = x2 then 0 else if bt m i then (if hasB L n i then 0 else 1) else 0
theorem hasB_iff {S : St} {n r : Nat} (h : hasC S r n ↔ hasC L r n) : hasB S n r = hasB L n r := by
  by_cases q : hasC L r n
  · rw [hasB_t q, hasB_t (h.mpr q)]
  · rw [hasB_f q, hasB_f (fun g => q (h.mp g))]
theorem hasB_clb (w : wfS L) {n i j : Nat} {g : Int32} (hi : i < 16) (hn : n < 24) (hj : j < 16) (hne : j ≠ i) : hasB (clb L n i g) n j = hasB L n j := by
  refine hasB_iff ?_
  rw [hasC_cp, hasC_cp]
  constructor
  · rintro ⟨v, c, q⟩
    exact ⟨v, c, ((cp_clb w hi hn hj hn).mp q).1⟩
  · rintro ⟨v, c, q⟩
    exact ⟨v, c, (cp_clb w hi hn hj hn).mpr ⟨q, fun e => hne e.1⟩⟩
theorem hasB_cbs (w : wfS L) {n i j : Nat} {m x2 g : Int32} (hi : i < 16) (hn : n < 24) (hj : j < 16) (hne : j ≠ i) : hasB (cbs L n m x2 g i) n j = hasB L n j := by
  unfold cbs
  split
  · rfl
  · split
    · exact hasB_clb w hi hn hj hne
    · rfl
theorem cbk_29 {n : Nat} {m x2 g : Int32} (hn : n < 24) : ∀ (d i : Nat), i + d ≤ 16 → ∀ L, wfS L → wfH L → cbk n m x2 g d i L 29 0 = L 29 0 + nI (sf (q0 L n m x2) d i) ∧ cbk n m x2 g d i L 29 1 = L 29 1 + nI (sf (q1 L n m x2) d i)
  | 0, i, _, L, _, _ => ⟨(Int32.add_zero _).symm, (Int32.add_zero _).symm⟩
  | d + 1, i, h, L, w, wh => by
    have hi : i < 16 := by omega
    obtain ⟨w1, wh1⟩ := wf_cbs (m := m) (x2 := x2) (g := g) w wh hi hn
    obtain ⟨j1, j2⟩ := cbk_29 hn (m := m) (x2 := x2) (g := g) d (i + 1) (by omega) (cbs L n m x2 g i) w1 wh1
    have c0 : sf (q0 (cbs L n m x2 g i) n m x2) d (i + 1) = sf (q0 L n m x2) d (i + 1) := sf_cong (fun k h1 h2 => by unfold q0; rw [hasB_cbs w hi hn (by omega) (by omega)])
    have c1 : sf (q1 (cbs L n m x2 g i) n m x2) d (i + 1) = sf (q1 L n m x2) d (i + 1) := sf_cong (fun k h1 h2 => by unfold q1; rw [hasB_cbs w hi hn (by omega) (by omega)])
    have s0 : cbs L n m x2 g i 29 0 = L 29 0 + nI (q0 L n m x2 i) := by
      unfold cbs q0
      by_cases h1 : nI i = x2
      · rw [if_pos h1, if_pos h1]; exact (Int32.add_zero _).symm
      · rw [if_neg h1, if_neg h1]
        by_cases h2 : bt m i = true
        · rw [if_pos h2, if_pos h2, clb_290]
        · rw [if_neg h2, if_neg h2]; exact (Int32.add_zero _).symm
    have s1 : cbs L n m x2 g i 29 1 = L 29 1 + nI (q1 L n m x2 i) := by
      unfold cbs q1
      by_cases h1 : nI i = x2
      · rw [if_pos h1, if_pos h1]; exact (Int32.add_zero _).symm
      · rw [if_neg h1, if_neg h1]
        by_cases h2 : bt m i = true
        · rw [if_pos h2, if_pos h2, clb_291]
        · rw [if_neg h2, if_neg h2]; exact (Int32.add_zero _).symm
    rw [cbk, j1, j2, c0, c1, s0, s1, sf, sf, ← nI_add, ← nI_add, Int32.add_assoc, Int32.add_assoc]
    exact ⟨rfl, rfl⟩
/-! the shelf of the reader who is left out -/
theorem clb_own (w : wfS L) {n i r : Nat} {g : Int32} (hi : i < 16) (hr : r < 16) (hne : r ≠ i) : len (clb L n i g) r = len L r ∧ ∀ k q, isSh k = true → q < 8 → clb L n i g k (8 * r + q) = L k (8 * r + q) := by
  by_cases h : plc L i n < len L i
  · have e : ∀ k, shR k = true → clb L n i g k = rmv L i (plc L i n) k := fun k hk => by rw [clb_rows (Or.inl hk), if_pos h]
    refine ⟨?_, fun k q hk hq => ?_⟩
    · rw [len_same (L := rmv L i (plc L i n)) e, rmv_len (w i hi).1 h, if_neg hne]
    · rw [e k (by rcases sh_cases hk with rfl | rfl | rfl <;> rfl), rmv_cell hk hq (w i hi).1.2 h, if_neg (fun g => hne g.1)]
  · have e : ∀ k, shR k = true → clb L n i g k = L k := fun k hk => by rw [clb_rows (Or.inl hk), if_neg h]
    exact ⟨len_same e r, fun k q hk hq => by rw [e k (by rcases sh_cases hk with rfl | rfl | rfl <;> rfl)]⟩
theorem cbk_own {n r : Nat} {m g : Int32} (hn : n < 24) (hr : r < 16) : ∀ (d i : Nat), i + d ≤ 16 → ∀ L, wfS L → wfH L → len (cbk n m (nI r) g d i L) r = len L r ∧ ∀ k q, isSh k = true → q < 8 → cbk n m (nI r) g d i L k (8 * r + q) = L k (8 * r + q)
  | 0, i, _, L, _, _ => ⟨rfl, fun _ _ _ _ => rfl⟩
  | d + 1, i, h, L, w, wh => by
    have hi : i < 16 := by omega
    obtain ⟨w1, wh1⟩ := wf_cbs (m := m) (x2 := nI r) (g := g) w wh hi hn
    obtain ⟨j1, j2⟩ := cbk_own hn hr (m := m) (g := g) d (i + 1) (by omega) (cbs L n m (nI r) g i) w1 wh1
    have s : len (cbs L n m (nI r) g i) r = len L r ∧ ∀ k q, isSh k = true → q < 8 → cbs L n m (nI r) g i k (8 * r + q) = L k (8 * r + q) := by
      unfold cbs
      by_cases h1 : nI i = nI r
      · rw [if_pos h1]; exact ⟨rfl, fun _ _ _ _ => rfl⟩
      · rw [if_neg h1]
        by_cases h2 : bt m i = true
        · rw [if_pos h2]; exact clb_own w hi hr (fun q => h1 (by rw [q]))
        · rw [if_neg h2]; exact ⟨rfl, fun _ _ _ _ => rfl⟩
    rw [cbk]
    exact ⟨j1.trans s.1, fun k q hk hq => (j2 k q hk hq).trans (s.2 k q hk hq)⟩
/-! making room -/
def pay (L : St) (r p : Nat) : Bool := chd L r p || L 2 3 == 1
theorem gvb_29 {r p : Nat} : gvb L r p 29 0 = L 29 0 + nI (if pay L r p then 1 else 0) ∧ gvb L r p 29 1 = L 29 1 := by
  have e29 : rmv (gvV L r p) r p 29 = L 29 := by rw [rmv_ne rfl (by decide) (by decide), gvV_ne (by decide)]
  have st : ∀ (S : St) n, stk S r n 29 = S 29 := fun S n => by
    unfold stk
    split
    · rfl
    · exact setC_ne (by decide) (by decide)
  unfold gvb
  cases hb : pay L r p
  · have hb' : (chd L r p || L 2 3 == 1) = false := hb
    rw [hb', if_neg (by decide), e29, if_neg (by decide)]
    exact ⟨(Int32.add_zero _).symm, rfl⟩
  · have hb' : (chd L r p || L 2 3 == 1) = true := hb
    rw [hb', if_pos rfl, st, sp_eq', e29, if_pos rfl, sp_at, if_neg (by omega), e29]
    exact ⟨rfl, rfl⟩
theorem gvb_pay (w : wfS L) {r p : Nat} (hr : r < 16) (h0 : 0 < len L r) (hp : p < len L r - 1) : pay (gvb L r 0) r p = pay L r (p + 1) := by
  have h8 : len L r ≤ 8 := (w r hr).1.2
  unfold pay chd
  rw [gvb_rows (Or.inl rfl), gvb_rows (Or.inr (Or.inr rfl)), rmv_ne (k := 2) rfl (by decide) (by decide), rmv_cell rfl (by omega) h8 h0, if_pos ⟨rfl, Nat.zero_le _, hp⟩]
theorem mkr_29 {r : Nat} (hr : r < 16) (hz : z ≤ 24) : ∀ (d : Nat) (L : St), Inv z L → ¬ hasC L r z → d ≤ len L r → mkr L r d 29 0 = L 29 0 + nI (cf (pay L r) d 0) ∧ mkr L r d 29 1 = L 29 1
  | 0, L, _, _, _ => ⟨(Int32.add_zero _).symm, rfl⟩
  | d + 1, L, w, hno, hd => by
    have w3 := w.2.2.1
    have hl := (w3 r hr).1
    have hp : 0 < len L r := by omega
    obtain ⟨i1, i2⟩ := mkr_29 hr hz d (gvb L r 0) (inv_gvb w hr hp (no_at hno w3 hr hp)) (gvb_no w hr hp hz hno) (by rw [gvb_len hl hp, if_pos rfl]; omega)
    have sh : ∀ d p, p + d ≤ len L r - 1 → cf (pay (gvb L r 0) r) d p = cf (pay L r) d (p + 1) := by
      intro d
      induction d with
      | zero => intro p _; rfl
      | succ d ih =>
        intro p h
        rw [cf, cf, gvb_pay w3 hr hp (by omega), ih (p + 1) (by omega)]
    rw [mkr, i1, i2, sh d 0 (by omega), gvb_29.1, gvb_29.2, cf, ← nI_add, Int32.add_assoc]
    exact ⟨rfl, rfl⟩
def need (L : St) (r : Nat) : Nat := len L r + 1 - num L 2 2
def rmN (L : St) (r : Nat) : Nat := cf (pay L r) (need L r) 0
theorem rmN_same {S : St} {r : Nat} (w : wfT L) (hl : len S r = len L r) (h8 : len L r ≤ 8) (hc : ∀ q, q < 8 → S 18 (8 * r + q) = L 18 (8 * r + q)) (h2 : S 2 = L 2) : need S r = need L r ∧ rmN S r = rmN L r := by
  have hR1 := w.2.2.2.2.1
  have e : need S r = need L r := by
    unfold need num
    rw [hl, h2]
  refine ⟨e, ?_⟩
  unfold rmN
  rw [e]
  refine cf_cong (fun k _ hk => ?_)
  unfold need at hk
  unfold pay chd
  rw [hc k (by omega), h2]
theorem c_room_n (w : Inv z L) {r : Nat} (hr : r < 16) : f_X3_messagesToMakeRoom L (nI r) = some (nI (rmN L r)) := by
  have h8 : len L r ≤ 8 := (w.2.2.1 r hr).1.2
  have hR1 := w.1.2.2.2.2.1
  unfold f_X3_messagesToMakeRoom
  rw [rat_23, c_way w hr]
  have lp : ∀ (d p : Nat), p + d = len L r + 1 - num L 2 2 → ∀ f, d < f → ∀ x, f_X3_messagesToMakeRoom_L25 (nI r) (nI (len L r + 1 - num L 2 2)) L f x (nI p) = some (x + nI (cf (chd L r) d p)) := by
    intro d
    induction d with
    | zero =>
      intro p e f hf x
      obtain ⟨f, rfl⟩ : ∃ g, f = g + 1 := ⟨f - 1, by omega⟩
      rw [f_X3_messagesToMakeRoom_L25, if_pos (nI_le (by omega) (by omega)), cf, show nI 0 = (0 : Int32) from rfl, add0]
    | succ d ih =>
      intro p e f hf x
      obtain ⟨f, rfl⟩ : ∃ g, f = g + 1 := ⟨f - 1, by omega⟩
      rw [f_X3_messagesToMakeRoom_L25, if_neg (nI_ge (by omega) (by omega)), isChd hr (by omega), nI_1, ih (p + 1) (by omega) f (by omega), add_c, cf]
  by_cases hf : L 2 3 = 1
  · rw [if_pos hf]
    have : rmN L r = len L r + 1 - num L 2 2 := cf_all (fun p => by
      unfold pay
      have : (L 2 3 == 1) = true := by simpa using hf
      rw [this, Bool.or_true]) _ _
    rw [this]
  · rw [if_neg hf]
    refine (lp (len L r + 1 - num L 2 2) 0 (by omega) 5000 (by omega) 0).trans ?_
    rw [Int32.zero_add]
    have : rmN L r = cf (chd L r) (len L r + 1 - num L 2 2) 0 := cf_cong (fun p _ _ => by
      unfold pay
      have : (L 2 3 == 1) = false := by simpa using hf
      rw [this, Bool.or_false])
    rw [this]
theorem cf_le (q : Nat → Bool) : ∀ d p, cf q d p ≤ d
  | 0, _ => Nat.le_refl _
  | d + 1, p => by
    have := cf_le q d (p + 1)
    rw [cf]
    split <;> omega
theorem rmN_le (w : Inv z L) {r : Nat} (hr : r < 16) : rmN L r ≤ 8 := by
  have h8 : len L r ≤ 8 := (w.2.2.1 r hr).1.2
  have hR1 := w.1.2.2.2.2.1
  have := cf_le (pay L r) (need L r) 0
  unfold rmN
  unfold need at this ⊢
  omega
