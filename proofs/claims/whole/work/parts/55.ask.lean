variable {V : VB} {L : St} {M : St} {a : FN} {z : Nat} {G : Gs}
/-! ===== what there is ===== -/
theorem bit_or (p : Nat → Bool) (i : Nat) {b : Int32} (h : b = if p i then only i else 0) : (mk p i ||| b) = mk p (i + 1) := by
  rw [mk_succ, h]
  by_cases q : p i = true
  · rw [if_pos q, if_pos q]
  · rw [if_neg q, if_neg q]
    exact Int32.or_zero
def hasB (L : St) (n r : Nat) : Bool := decide (plc L r n < len L r)
theorem hasB_t {n r : Nat} (h : hasC L r n) : hasB L n r = true := decide_eq_true h
theorem hasB_f {n r : Nat} (h : ¬ hasC L r n) : hasB L n r = false := decide_eq_false h
theorem m_holders_L (h : RM V a L) (w : wfS L) {n : Nat} : ∀ (d i : Nat), i + d = 16 → ∀ f, d < f → f_X9_holders_L4 (nI n) (mA M a) f (mk (hasB L n) i) (nI i) = some (mk (hasB L n) 16)
  | 0, i, e, f + 1, _ => by
    rw [f_X9_holders_L4, if_pos (show (16 : Int32) ≤ nI i from nI_le (a := 16) (by omega) (by omega)), show i = 16 by omega]
  | d + 1, i, e, f + 1, hf => by
    have h8 : len L i ≤ 8 := (w i (by omega)).1.2
    rw [f_X9_holders_L4, if_neg (show ¬ (16 : Int32) ≤ nI i from nI_ge (b := 16) (by omega) (by omega)), m_placeOf h (by omega) (w i (by omega)).1, bd_some, bit_or (hasB L n) i, nI_1]
    · exact m_holders_L h w d (i + 1) (by omega) f (by omega)
    · by_cases hc : plc L i n < len L i
      · rw [if_pos hc, hasB_t hc, if_pos rfl, if_neg (nI_pos (by omega))]; rfl
      · rw [if_neg hc, hasB_f hc, if_neg (show ¬ false = true by decide), if_pos (show (-6 : Int32) < 0 by decide)]
theorem hold_mk (w : wfH L) {n : Nat} (hn : n < 24) : mk (hasB L n) 16 = L 20 n := by
  refine mk_eq (by omega) (fun i hi => ?_) (fun i h1 h2 => ?_)
  · by_cases hc : hasC L i n
    · rw [hasB_t hc]; exact (w n hn i (by omega)).mpr ⟨hi, hc⟩
    · rw [hasB_f hc]
      cases q : bt (L 20 n) i
      · rfl
      · exact absurd ((w n hn i (by omega)).mp q).2 hc
  · cases q : bt (L 20 n) i
    · rfl
    · have := ((w n hn i h2).mp q).1; omega
theorem m_holders (h : RM V a L) (w : wfS L) (wh : wfH L) {n : Nat} (hn : n < 24) : f_X9_holders (mA M a) (nI n) = some (L 20 n) := by
  rw [← hold_mk wh hn]
  exact m_holders_L h w 16 0 (by omega) 5000 (by omega)
theorem hi_cal {n : Nat} : ∀ i, 16 ≤ i → i < 32 → bt (cal L n) i = false := fun i h1 h2 => by rw [bt_cal h2, decide_eq_false (by omega)]; rfl
/-! the value that a reader would read -/
def stV (L : St) (n i : Nat) (v : Int32) : Int32 := if hasB L n i && (L 18 (8 * i + plc L i n) == 1) then L 16 (8 * i + plc L i n) else v
def vnw (L : St) (n : Nat) : Nat → Nat → Int32 → Int32
  | 0, _, v => v
  | d + 1, i, v => vnw L n d (i + 1) (stV L n i v)
theorem m_value_L (h : RM V a L) (hV : V.1) (w : wfS L) {n : Nat} : ∀ (d i : Nat), i + d = 16 → ∀ f, d < f → ∀ v, f_X9_valueNow_L9 (nI n) (mA M a) f v (nI i) = some (vnw L n d i v)
  | 0, i, e, f + 1, _, v => by
    rw [f_X9_valueNow_L9, if_pos (show (16 : Int32) ≤ nI i from nI_le (a := 16) (by omega) (by omega))]
    rfl
  | d + 1, i, e, f + 1, hf, v => by
    have hi : i < 16 := by omega
    have hl := (w i hi).1
    have h8 : len L i ≤ 8 := hl.2
    have ih := fun v => m_value_L h hV w (n := n) d (i + 1) (by omega) f (by omega) v
    rw [f_X9_valueNow_L9, if_neg (show ¬ (16 : Int32) ≤ nI i from nI_ge (b := 16) (by omega) (by omega)), m_placeOf h hi hl, bd_some, jn_e, nI_1, vnw]
    unfold stV
    by_cases hc : plc L i n < len L i
    · rw [if_pos hc, if_neg (nI_pos (by omega)), ofC_2 hi (by omega), bd_some, rm_chg h hi hl hc, ofC_1 hi (by omega), bd_some, rm_val h hi hl hc hV, hasB_t hc, Bool.true_and]
      by_cases h1 : L 18 (8 * i + plc L i n) = 1
      · have : (L 18 (8 * i + plc L i n) == 1) = true := by simpa using h1
        rw [if_pos h1, this, if_pos rfl]
        exact ih _
      · have : (L 18 (8 * i + plc L i n) == 1) = false := by simpa using h1
        rw [if_neg h1, this, if_neg (show ¬ false = true by decide)]
        exact ih _
    · rw [if_neg hc, if_pos (show (-6 : Int32) < 0 by decide), hasB_f hc, Bool.false_and, if_neg (show ¬ false = true by decide)]
      exact ih _
theorem vnw_no {n : Nat} (h : ∀ i, i < 16 → ∀ v, stV L n i v = v) : ∀ (d i : Nat), i + d ≤ 16 → ∀ v, vnw L n d i v = v
  | 0, _, _, _ => rfl
  | d + 1, i, e, v => by rw [vnw, h i (by omega), vnw_no h d (i + 1) (by omega)]
theorem vnw_own {n o : Nat} {x : Int32} (h : ∀ i, i < 16 → ∀ v, stV L n i v = if i = o then x else v) : ∀ (d i : Nat), i + d ≤ 16 → ∀ v, vnw L n d i v = if i ≤ o ∧ o < i + d then x else v
  | 0, i, _, v => by rw [if_neg (by omega)]; rfl
  | d + 1, i, e, v => by
    rw [vnw, h i (by omega), vnw_own h d (i + 1) (by omega)]
    by_cases h1 : i = o
    · rw [if_pos h1, if_pos (show i ≤ o ∧ o < i + (d + 1) by omega)]
      split <;> rfl
    · rw [if_neg h1]
      by_cases h2 : i + 1 ≤ o ∧ o < i + 1 + d
      · rw [if_pos h2, if_pos (by omega)]
      · rw [if_neg h2, if_neg (by omega)]
theorem c_value_no {n : Nat} (hn : n < 24) (h : ∀ i, i < 16 → isOwn L i n = false) (k : Int32 → Option Int32) : ∀ (d i : Nat), i + d = 16 → ∀ f, d < f → f_X3_valueToRead_L2 (nI n) L k f (nI i) = k (nI 16)
  | 0, i, e, f + 1, _ => by
    rw [f_X3_valueToRead_L2, if_pos (show (16 : Int32) ≤ nI i from nI_le (a := 16) (by omega) (by omega)), show i = 16 by omega]
  | d + 1, i, e, f + 1, hf => by
    rw [f_X3_valueToRead_L2, if_neg (show ¬ (16 : Int32) ≤ nI i from nI_ge (b := 16) (by omega) (by omega)), c_isOwn (by omega) hn, h i (by omega), if_neg (show ¬ false = true by decide), if_pos rfl, nI_1]
    exact c_value_no hn h k d (i + 1) (by omega) f (by omega)
theorem c_value_own {n o : Nat} (hn : n < 24) (w : wfS L) (ho : o < 16) (hc : hasC L o n) (h : ∀ i, i < 16 → isOwn L i n = decide (i = o)) (k : Int32 → Option Int32) : ∀ (d i : Nat), i + d = o → ∀ f, d < f → f_X3_valueToRead_L2 (nI n) L k f (nI i) = some (L 16 (8 * o + plc L o n))
  | 0, i, e, f + 1, _ => by
    have : i = o := by omega
    subst this
    have h8 : len L i ≤ 8 := (w i ho).1.2
    have hp : plc L i n < len L i := hc
    rw [f_X3_valueToRead_L2, if_neg (show ¬ (16 : Int32) ≤ nI i from nI_ge (b := 16) (by omega) (by omega)), c_isOwn (by omega) hn, h i ho, decide_eq_true (show i = i from rfl), if_pos rfl, if_neg d10, c_placeOf ho (w i ho).1, if_pos hp, bd_some]
    unfold f_X7_valueAt
    rw [i8p, rat_nI (by omega) (by omega)]
  | d + 1, i, e, f + 1, hf => by
    rw [f_X3_valueToRead_L2, if_neg (show ¬ (16 : Int32) ≤ nI i from nI_ge (b := 16) (by omega) (by omega)), c_isOwn (by omega) hn, h i (by omega), decide_eq_false (show ¬ i = o by omega), if_neg (show ¬ false = true by decide), if_pos rfl, nI_1]
    exact c_value_own hn w ho hc h k d (i + 1) (by omega) f (by omega)
theorem value_ok (h : RM V a L) (hV : V.1) (w : Inv 24 L) {n : Nat} (hn : n < 24) : ∃ v, f_X3_valueToRead L (nI n) = some v ∧ f_X9_valueNow (mA M a) (nI n) = some v := by
  obtain ⟨w1, w2, w3, w4, w5, w6, w7⟩ := id w
  have e4 : a (pos 4 n) = L 4 n := rm_v h (k := 4) hn rfl hV
  have hm : f_X9_valueNow (mA M a) (nI n) = some (vnw L n 16 0 (L 4 n)) := by
    unfold f_X9_valueNow
    rw [ofN_0 hn, bd_some, e4]
    exact m_value_L h hV w3 16 0 (by omega) 5000 (by omega) _
  by_cases h3 : L 7 n = 3
  · obtain ⟨o, ho, q, v, hv⟩ := w5 n hn (by omega) h3
    have hc : hasC L o n := hasC_cp.mpr ⟨v, 1, hv⟩
    have hv2 := cp_at w3 ho hv
    refine ⟨L 16 (8 * o + plc L o n), c_value_own hn w3 ho hc (fun i hi => ?_) _ o 0 (by omega) 5000 (by omega), ?_⟩
    · unfold isOwn
      rw [h3, q, bt_onl (by omega) (by omega)]
      rfl
    · rw [hm, vnw_own (o := o) (x := L 16 (8 * o + plc L o n)) (fun i hi v => ?_) 16 0 (by omega), if_pos (by omega)]
      unfold stV
      by_cases e : i = o
      · subst e
        rw [hasB_t hc, hv2.2, show (true && (1 : Int32) == 1) = true from rfl, if_pos rfl, if_pos rfl]
      · have : ¬ hasC L i n := fun g => by
          have := own_eq w5 w7 hi hn (by omega) g h3
          rw [q] at this
          exact e (only_inj ho hi this).symm
        rw [hasB_f this, Bool.false_and, if_neg (show ¬ false = true by decide), if_neg e]
  · refine ⟨L 4 n, ?_, ?_⟩
    · unfold f_X3_valueToRead
      refine (c_value_no hn (fun i hi => ?_) _ 16 0 (by omega) 5000 (by omega)).trans ?_
      · unfold isOwn
        have : (L 7 n == 3) = false := by simpa using h3
        rw [this, Bool.false_and]
      · rw [rat_nI hn (by omega)]
    · rw [hm, vnw_no (fun i hi v => ?_) 16 0 (by omega)]
      unfold stV
      by_cases hc : hasC L i n
      · have : ¬ L 18 (8 * i + plc L i n) = 1 := fun g => by
          have q := cp_of hc
          rw [g] at q
          exact h3 (w6 n hn i hi _ q).1
        have e : (L 18 (8 * i + plc L i n) == 1) = false := by simpa using this
        rw [e, Bool.and_false, if_neg (show ¬ false = true by decide)]
      · rw [hasB_f hc, Bool.false_and, if_neg (show ¬ false = true by decide)]
theorem rop_rfl {r : Int32} : Rop (some r) (some r) := ⟨r, rfl, rfl⟩
theorem rop_eq {r r' : Int32} (h : r = r') : Rop (some r) (some r') := by rw [h]; exact rop_rfl
theorem w_ofNote (h : Rel G) (x y : Int32) : Rop (f_X8_ofNote G x y) (f_X9_ofNote (G 1) x y) := by
  unfold f_X8_ofNote f_X9_ofNote
  rcases nt_cases x with ⟨q1, q2⟩ | ⟨n, hn, rfl, q1, q2⟩
  · rw [q1, q2, if_pos rfl, if_pos rfl]
    exact rop_rfl
  · have r1 := h.1.1
    have w := h.1.2.1
    have cM := m_called (M := G 1) r1 w.1 hn
    have hM := m_holders (M := G 1) r1 w.2.2.1 w.2.2.2.1 hn
    obtain ⟨v, v1, v2⟩ := value_ok (M := G 1) r1 trivial w hn
    have n0 := ofN_0 (M := G 1) (a := G 1 1) hn
    have n1 := ofN_1 (M := G 1) (a := G 1 1) hn
    have n2 := ofN_2 (M := G 1) (a := G 1 1) hn
    have n3 := ofN_3 (M := G 1) (a := G 1 1) hn
    have n4 := ofN_4 (M := G 1) (a := G 1 1) hn
    rw [mA_id] at cM hM v2 n0 n1 n2 n3 n4
    have e4 : G 1 1 (pos 4 n) = G 2 4 n := rm_v r1 (k := 4) hn rfl trivial
    have e31 : G 1 1 (pos 31 n) = G 2 31 n := rm_v r1 (k := 31) hn rfl trivial
    have e33 : G 1 1 (pos 33 n) = G 2 33 n := rm_v r1 (k := 33) hn rfl trivial
    have hz : ∀ i, 16 ≤ i → i < 32 → bt (cal (G 2) n &&& (G 2 20 n ^^^ (-1))) i = false := hi_and hi_cal
    rw [q1, q2, if_neg d10, if_neg d10, c_called w.1 w.2.1 hn, bd_some, cM, hM, v1, v2, n3, n4, rat_nI hn (by omega), rat_nI hn (by omega), rat_nI hn (by omega), rat_nI hn (by omega), rat_nI hn (by omega), rat_nI hn (by omega)]
    simp only [bd_some]
    rw [bitCount_cnt hz, m_many hz, bd_some, e31, e33]
    by_cases y0 : y = 0
    · subst y0
      rw [if_pos rfl, if_pos rfl, n0, bd_some, e4]
      exact rop_rfl
    rw [if_neg y0, if_neg y0]
    by_cases y1 : y = 1
    · subst y1
      rw [if_pos rfl, if_pos rfl, n1, bd_some, rm_kind r1 hn]
      exact rop_rfl
    rw [if_neg y1, if_neg y1]
    by_cases y2 : y = 2
    · subst y2
      rw [if_pos rfl, if_pos rfl, n2, bd_some, rm_names r1 hn]
      exact rop_rfl
    rw [if_neg y2, if_neg y2]
    by_cases y3 : y = 3
    · rw [if_pos y3]
      exact rop_rfl
    rw [if_neg y3]
    by_cases y4 : y = 4
    · rw [if_pos y4]
      exact rop_rfl
    rw [if_neg y4]
    by_cases y5 : y = 5
    · rw [if_pos y5]
      exact rop_rfl
    rw [if_neg y5]
    by_cases y6 : y = 6
    · rw [if_pos y6]
      exact rop_rfl
    rw [if_neg y6]
    by_cases y7 : y = 7
    · rw [if_pos y7]
      exact rop_rfl
    rw [if_neg y7]
    by_cases y8 : y = 8
    · rw [if_pos y8]
      exact rop_rfl
    rw [if_neg y8]
    exact rop_rfl
theorem w_onShelf (h : Rel G) (x y u : Int32) : f_X9_onShelf (G 1) x y u = some (f_X8_onShelf G x y u) := by
  unfold f_X8_onShelf f_X9_onShelf
  rcases rd_cases x with ⟨q1, q2⟩ | ⟨r, hr, rfl, q1, q2⟩
  · rw [q1, q2, if_pos rfl, if_pos rfl]
  · have r1 := h.1.1
    have w := h.1.2.1
    have hl := (w.2.2.1 r hr).1
    have h8 : len (G 2) r ≤ 8 := hl.2
    have n0 := ofR_0 (M := G 1) (a := G 1 1) hr
    rw [mA_id] at n0
    rw [q1, q2, if_neg d10, if_neg d10, n0, bd_some, rm_len r1 hr hl, rat_nI hr (by omega), isl hl]
    by_cases y0 : y < 0
    · have i0 : f_X9_in y 0 (nI (len (G 2) r) - 1) = 0 := by unfold f_X9_in; rw [if_pos y0]
      rw [i0, if_pos rfl, if_pos y0]
    · obtain ⟨p, hp, rfl⟩ := nI_of y0
      rw [if_neg y0]
      by_cases hpl : p < len (G 2) r
      · have i1 : f_X9_in (nI p) 0 (nI (len (G 2) r) - 1) = 1 := by
          unfold f_X9_in
          rw [if_neg y0, show nI (len (G 2) r) - 1 = nI (len (G 2) r - 1) from pk_sub (b := 1) (by omega), if_neg (nI_nlt (by omega) (by omega))]
        rw [i1, if_neg d10, if_pos (nI_lt hpl (by omega))]
        have c0 := ofC_0 (M := G 1) (a := G 1 1) (p := p) hr (by omega)
        have c1 := ofC_1 (M := G 1) (a := G 1 1) (p := p) hr (by omega)
        have c2 := ofC_2 (M := G 1) (a := G 1 1) (p := p) hr (by omega)
        rw [mA_id] at c0 c1 c2
        have t0 : f_X7_noteAt (G 2) (nI r) (nI p) = G 2 14 (8 * r + p) := by unfold f_X7_noteAt; rw [i8p, rat_nI (by omega) (by omega)]
        have t1 : f_X7_valueAt (G 2) (nI r) (nI p) = G 2 16 (8 * r + p) := by unfold f_X7_valueAt; rw [i8p, rat_nI (by omega) (by omega)]
        have t2 : (if f_X7_isChangedAt (G 2) (nI r) (nI p) = 0 then 0 else 1 : Int32) = G 2 18 (8 * r + p) := by
          have hb := ((w.2.2.1 r hr).2.1 p hpl).2
          rw [isChd hr (by omega)]
          unfold chd
          have : num (G 2) 18 (8 * r + p) = 0 ∨ num (G 2) 18 (8 * r + p) = 1 := by have := hb.2; omega
          rcases this with e | e <;> rw [hb.1, e] <;> decide
        rw [t0, t1, t2]
        by_cases u0 : u = 0
        · subst u0
          rw [show f_X9_in 0 0 2 = 1 by decide, if_neg d10, c0, bd_some, if_pos rfl, rm_note r1 hr hl hpl]
        by_cases u1 : u = 1
        · subst u1
          rw [show f_X9_in 1 0 2 = 1 by decide, if_neg d10, c1, bd_some, if_neg d10, if_pos rfl, rm_val r1 hr hl hpl trivial]
        by_cases u2 : u = 2
        · subst u2
          rw [show f_X9_in 2 0 2 = 1 by decide, if_neg d10, c2, bd_some, if_neg d20, if_neg d21, if_pos rfl, rm_chg r1 hr hl hpl]
        · have iu : f_X9_in u 0 2 = 0 := by
            rcases in_cases u 0 2 (by omega) with ⟨q, _⟩ | ⟨_, g1, g2⟩
            · exact q
            · exfalso
              obtain ⟨v, _, hv, rfl⟩ := in_val (by omega) (by omega) g1 g2
              rcases (show v = 0 ∨ v = 1 ∨ v = 2 by omega) with rfl | rfl | rfl
              · exact u0 rfl
              · exact u1 rfl
              · exact u2 rfl
          rw [iu, if_pos rfl, if_neg u0, if_neg u1, if_neg u2]
      · have i0 : f_X9_in (nI p) 0 (nI (len (G 2) r) - 1) = 0 := by
          unfold f_X9_in
          rw [if_neg y0, if_pos]
          rcases Nat.eq_zero_or_pos (len (G 2) r) with e | e
          · rw [e, show nI 0 - 1 = (-1 : Int32) by decide]
            rw [Int32.lt_iff_toInt_lt, nI_toInt hp]
            have : (-1 : Int32).toInt = -1 := by decide
            omega
          · rw [show nI (len (G 2) r) - 1 = nI (len (G 2) r - 1) from pk_sub (b := 1) (by omega)]
            exact nI_lt (by omega) (by omega)
        rw [i0, if_pos rfl, if_neg (nI_nlt (by omega) (by omega))]
/-! a reader -/
theorem c_notes_L {r : Nat} (hr : r < 16) (ht : wfT L) (hc : wfC L) : ∀ (d i : Nat), i + d = 24 → ∀ f, d < f → f_X3_notesThatCall_L4 (nI r) L f (mk (fun n => bt (cal L n) r) i) (nI i) = some (mk (fun n => bt (cal L n) r) 24)
  | 0, i, e, f + 1, _ => by
    rw [f_X3_notesThatCall_L4, if_pos (show (24 : Int32) ≤ nI i from nI_le (a := 24) (by omega) (by omega)), show i = 24 by omega]
  | d + 1, i, e, f + 1, hf => by
    rw [f_X3_notesThatCall_L4, if_neg (show ¬ (24 : Int32) ≤ nI i from nI_ge (b := 24) (by omega) (by omega)), c_called ht hc (by omega), bd_some, isIn_bt (by omega), only_c, nI_1]
    have g := c_notes_L hr ht hc d (i + 1) (by omega) f (by omega)
    rw [mk_succ] at g
    by_cases hb : bt (cal L i) r = true
    · rw [if_pos hb, if_neg d10]
      rw [if_pos hb] at g
      exact g
    · rw [if_neg hb, if_pos rfl]
      rw [if_neg hb] at g
      exact g
theorem m_callers_L (h : RM V a L) (ht : wfT L) {r : Nat} (hr : r < 16) : ∀ (d i : Nat), i + d = 24 → ∀ f, d < f → f_X9_callers_L4 (nI r) (mA M a) f (mk (fun n => bt (cal L n) r) i) (nI i) = some (mk (fun n => bt (cal L n) r) 24)
  | 0, i, e, f + 1, _ => by
    rw [f_X9_callers_L4, if_pos (show (24 : Int32) ≤ nI i from nI_le (a := 24) (by omega) (by omega)), show i = 24 by omega]
  | d + 1, i, e, f + 1, hf => by
    rw [f_X9_callers_L4, if_neg (show ¬ (24 : Int32) ≤ nI i from nI_ge (b := 24) (by omega) (by omega)), m_called h ht (by omega), bd_some, has_bt (by omega), or_bit (fun n => bt (cal L n) r) i rfl, nI_1]
    exact m_callers_L h ht hr d (i + 1) (by omega) f (by omega)
theorem w_ofReader (h : Rel G) (x y : Int32) : Rop (f_X8_ofReader G x y) (f_X9_ofReader (G 1) x y) := by
  unfold f_X8_ofReader f_X9_ofReader
  rcases rd_cases x with ⟨q1, q2⟩ | ⟨r, hr, rfl, q1, q2⟩
  · rw [q1, q2, if_pos rfl, if_pos rfl]
    exact rop_rfl
  · have r1 := h.1.1
    have w := h.1.2.1
    have hl := (w.2.2.1 r hr).1
    have n0 := ofR_0 (M := G 1) (a := G 1 1) hr
    have n1 := ofR_1 (M := G 1) (a := G 1 1) hr
    have n2 := ofR_2 (M := G 1) (a := G 1 1) hr
    have n3 := ofR_3 (M := G 1) (a := G 1 1) hr
    have n4 := ofR_4 (M := G 1) (a := G 1 1) hr
    have gr := m_group (M := G 1) r1 w.1 (i := r) (by omega)
    have cl := m_callers_L (M := G 1) r1 w.1 hr 24 0 (by omega) 5000 (by omega)
    rw [mA_id] at n0 n1 n2 n3 n4 gr cl
    have cl' : f_X9_callers (G 1) (nI r) = some (mk (fun n => bt (cal (G 2) n) r) 24) := cl
    have cc : f_X3_notesThatCall (G 2) (nI r) = some (mk (fun n => bt (cal (G 2) n) r) 24) := c_notes_L hr w.1 w.2.1 24 0 (by omega) 5000 (by omega)
    have e35 : G 1 1 (pos 35 r) = G 2 35 r := rm_v r1 (k := 35) hr rfl trivial
    have e37 : G 1 1 (pos 37 r) = G 2 37 r := rm_v r1 (k := 37) hr rfl trivial
    have e39 : G 1 1 (pos 39 r) = G 2 39 r := rm_v r1 (k := 39) hr rfl trivial
    have e41 : G 1 1 (pos 41 r) = G 2 41 r := rm_v r1 (k := 41) hr rfl trivial
    have eg : f_X8_groupOf (nI r) (rat 4 (G 2 2) 1) = nI (r / num (G 2) 2 1) := by
      rw [rat_21, w.1.2.1.1]
      exact groupOf_n (by omega) w.1.2.2.1 (by have := w.1.2.1.2; omega)
    rw [q1, q2, if_neg d10, if_neg d10, n0, n1, n2, n3, n4, gr, cl', cc, eg, rat_nI hr (by omega), rat_nI hr (by omega), rat_nI hr (by omega), rat_nI hr (by omega), rat_nI hr (by omega), e35, e37, e39, e41, rm_len r1 hr hl, isl hl]
    simp only [bd_some]
    by_cases y0 : y = 0
    · rw [if_pos y0]
      exact rop_rfl
    rw [if_neg y0]
    by_cases y1 : y = 1
    · rw [if_pos y1]
      exact rop_rfl
    rw [if_neg y1]
    by_cases y2 : y = 2
    · rw [if_pos y2]
      exact rop_rfl
    rw [if_neg y2]
    by_cases y3 : y = 3
    · rw [if_pos y3]
      exact rop_rfl
    rw [if_neg y3]
    by_cases y4 : y = 4
    · rw [if_pos y4]
      exact rop_rfl
    rw [if_neg y4]
    by_cases y5 : y = 5
    · rw [if_pos y5]
      exact rop_rfl
    rw [if_neg y5]
    by_cases y6 : y = 6
    · rw [if_pos y6]
      exact rop_rfl
    rw [if_neg y6]
    exact rop_rfl
