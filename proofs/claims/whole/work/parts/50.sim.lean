variable {V : VB} {L : St} {M : St} {a : FN} {z : Nat}
/-! ===== only what lies in the rows matters ===== -/
theorem inR_row {k j : Nat} (h : j < rowN k) : inR k j := by
  rcases rown_in h with rfl | rfl | rfl | rfl | rfl | rfl | rfl | rfl | rfl | rfl | rfl | rfl | rfl | rfl | rfl <;> exact h
theorem inR_in {k j : Nat} (h : inR k j) : k = 20 ∨ k = 21 ∨ k = 23 ∨ k = 25 ∨ k = 27 ∨ k = 2 ∨ k = 29 ∨ k = 4 ∨ k = 7 ∨ k = 9 ∨ k = 31 ∨ k = 33 ∨ k = 12 ∨ k = 35 ∨ k = 37 ∨ k = 39 ∨ k = 41 ∨ k = 14 ∨ k = 16 ∨ k = 18 := by
  unfold inR at h
  split at h
  · exact Or.inl ‹_›
  · split at h
    · exact Or.inr (Or.inl ‹_›)
    · split at h
      · exact Or.inr (Or.inr (Or.inl ‹_›))
      · split at h
        · exact Or.inr (Or.inr (Or.inr (Or.inl ‹_›)))
        · split at h
          · exact Or.inr (Or.inr (Or.inr (Or.inr (Or.inl ‹_›))))
          · exact Or.inr (Or.inr (Or.inr (Or.inr (Or.inr (rown_in h)))))
theorem len_pt {S : St} (h : ∀ k j, inR k j → S k j = L k j) {r : Nat} (hr : r < 16) : len S r = len L r := by
  unfold len num
  rw [h 12 r (inR_row (show r < 16 from hr))]
theorem inv_pt {S : St} (h : ∀ k j, inR k j → S k j = L k j) (w : Inv z L) : Inv z S := by
  obtain ⟨w1, w2, w3, w4, w5, w6, w7⟩ := w
  have h2 : ∀ j, j < 4 → S 2 j = L 2 j := fun j hj => h 2 j (inR_row (show j < 4 from hj))
  have h7 : ∀ n, n < 24 → S 7 n = L 7 n := fun n hn => h 7 n (inR_row (show n < 24 from hn))
  have h9 : ∀ n, n < 24 → S 9 n = L 9 n := fun n hn => h 9 n (inR_row (show n < 24 from hn))
  have h14 : ∀ i, i < 128 → S 14 i = L 14 i := fun i hi => h 14 i (inR_row (show i < 128 from hi))
  have h16 : ∀ i, i < 128 → S 16 i = L 16 i := fun i hi => h 16 i (inR_row (show i < 128 from hi))
  have h18 : ∀ i, i < 128 → S 18 i = L 18 i := fun i hi => h 18 i (inR_row (show i < 128 from hi))
  have el : ∀ r, r < 16 → len S r = len L r := fun r hr => len_pt h hr
  have l8 : ∀ r, r < 16 → len L r ≤ 8 := fun r hr => (w3 r hr).1.2
  have ecp : ∀ r n v c, r < 16 → (cp S r n v c ↔ cp L r n v c) := fun r n v c hr => by
    have := l8 r hr
    unfold cp
    rw [el r hr]
    constructor
    · rintro ⟨q, g1, g2, g3, g4⟩
      exact ⟨q, g1, by rw [← h14 _ (by omega)]; exact g2, by rw [← h16 _ (by omega)]; exact g3, by rw [← h18 _ (by omega)]; exact g4⟩
    · rintro ⟨q, g1, g2, g3, g4⟩
      exact ⟨q, g1, by rw [h14 _ (by omega)]; exact g2, by rw [h16 _ (by omega)]; exact g3, by rw [h18 _ (by omega)]; exact g4⟩
  have ehas : ∀ r n, r < 16 → (hasC S r n ↔ hasC L r n) := fun r n hr => by
    rw [hasC_cp, hasC_cp]
    exact ⟨fun ⟨v, c, q⟩ => ⟨v, c, (ecp r n v c hr).mp q⟩, fun ⟨v, c, q⟩ => ⟨v, c, (ecp r n v c hr).mpr q⟩⟩
  refine ⟨?_, ?_, ?_, ?_, ?_, ?_, ?_⟩
  · unfold wfT isN num at w1 ⊢
    rw [h2 0 (by omega), h2 1 (by omega), h2 2 (by omega), h2 3 (by omega)]
    exact w1
  · intro n hn
    have := w2 n hn
    unfold isN num at this ⊢
    rw [h7 n hn, h9 n hn]
    exact this
  · intro r hr
    have g := w3 r hr
    have := l8 r hr
    refine ⟨?_, fun p hp => ?_, fun p q hp hq e => ?_⟩
    · have g1 := g.1
      unfold isN num at g1 ⊢
      rw [h 12 r (inR_row (show r < 16 from hr))]
      exact g1
    · rw [el r hr] at hp
      have g1 := g.2.1 p hp
      unfold isN num at g1 ⊢
      rw [h14 _ (by omega), h18 _ (by omega)]
      exact g1
    · rw [el r hr] at hp hq
      rw [h14 _ (by omega), h14 _ (by omega)] at e
      exact g.2.2 p q hp hq e
  · intro n hn i hi
    rw [h 20 n (show n < 24 from hn), w4 n hn i hi]
    exact and_congr_right (fun q => (ehas i n q).symm)
  · intro n hn hne h3
    rw [h7 n hn] at h3
    obtain ⟨o, ho, q, v, hv⟩ := w5 n hn hne h3
    exact ⟨o, ho, by rw [h9 n hn]; exact q, v, (ecp o n v 1 ho).mpr hv⟩
  · intro n hn r hr v hv
    rw [h7 n hn, h9 n hn]
    exact w6 n hn r hr v ((ecp r n v 1 hr).mp hv)
  · intro n hn r hr hh
    have := w7 n hn r hr ((ehas r n hr).mp hh)
    unfold calP num at this ⊢
    rw [h7 n hn, h9 n hn, h2 1 (by omega)]
    exact this
theorem rm_pt {S : St} {b : FN} (g : RM V a L) (h : ∀ k j, inR k j → S k j = L k j) (hb : ∀ i, i < 652 → b i = a i) : RM V b S := by
  refine ⟨fun k j hj hv hs => ?_, fun i hi => by rw [hb i (by omega)]; exact g.2 i hi⟩
  have := pos_lt hj
  rw [hb _ (by omega), h k j (inR_row hj)]
  refine g.1 k j hj hv (fun q => ?_)
  have hq := hs q
  have hj' : j < 128 := by rw [sh_rowN q] at hj; exact hj
  rwa [len_pt h (show j / 8 < 16 by omega)] at hq
/-! ===== library and array say the same ===== -/
def Sim (a : FN) (L : St) : Prop := RM (True, a) a L ∧ Inv 24 L ∧ AC a L
theorem sim_pt {S : St} {b : FN} (g : Sim a L) (h : ∀ k j, inR k j → S k j = L k j) (hb : ∀ i, i < 652 → b i = a i) : Sim b S :=
  ⟨⟨(rm_pt g.1 h hb).1, fun _ _ => rfl⟩, inv_pt h g.2.1, ac_pt (fun k j _ q => h k j q) (fun i hi => hb i (by omega)) g.2.2⟩
theorem sim_of {a1 a2 : FN} {L1 L2 : St} (hA : AC a1 L1) (g : RM (True, a1) a2 L2) (w : Inv 24 L2) (e : ∀ k, ac k = true → L2 k = L1 k) : Sim a2 L2 :=
  ⟨⟨g.1, fun _ _ => rfl⟩, w, ac_pt (fun k j hk _ => by rw [e k hk]) (fun i hi => g.2 i hi) hA⟩
theorem irr_ac {k : Nat} (h : irr k = false) : ac k = false := by
  cases hq : ac k
  · rfl
  · exfalso
    unfold ac at hq
    unfold irr at h
    simp at hq h
    omega
theorem row_ac {k j : Nat} (h : j < rowN k) : ac k = false := by
  rcases rown_in h with rfl | rfl | rfl | rfl | rfl | rfl | rfl | rfl | rfl | rfl | rfl | rfl | rfl | rfl | rfl <;> rfl
theorem rm_app {S : St} {b : FN} (g : RM V a L) (h : ∀ k, ac k = false → S k = L k) (hb : ∀ i, i < 592 → i ≠ 7 → b i = a i) : RM (V.1, b) b S := by
  refine ⟨fun k j hj hv hs => ?_, fun _ _ => rfl⟩
  have := pos_lt hj
  rw [hb _ this.1 this.2, h k (row_ac hj)]
  refine g.1 k j hj hv (fun q => ?_)
  have hq := hs q
  unfold len num at hq ⊢
  rwa [h 12 rfl] at hq
theorem op_read (g : Sim a L) {r n : Nat} (hr : r < 16) (hn : n < 24) (M : St) : ∃ L1 a1 v L2 a2, f_X0_append L 0 (nI r) (nI n) = L1 ∧ f_X9_enter (mA M a) (nI r) (nI n) 0 = some (mA M a1) ∧ f_X3_lend L1 (nI r) (nI n) = some (v, L2) ∧ f_X9_reads (mA M a1) (nI r) (nI n) = some (v, mA M a2) ∧ Sim a2 L2 := by
  obtain ⟨L1, a1, e1, e2, hA, hL, ha⟩ := app_ok g.2.2 (c := 0) (by omega) hr hn M
  have g1 : RM (True, a1) a1 L1 := rm_app g.1 hL ha
  have w1 : Inv 24 L1 := inv_irr (fun k hk => hL k (irr_ac hk)) g.2.1
  obtain ⟨a2, v, q1, q2, q3⟩ := m_reads (M := M) g1 w1 hr hn
  rw [q3 trivial] at q1
  exact ⟨L1, a1, _, _, a2, e1, e2, c_lend w1 hr hn, q1, sim_of hA q2 (inv_lendS w1 hr hn) (fun k hk => lendS_ac hk)⟩
theorem op_change (g : Sim a L) {r n : Nat} {x : Int32} (hr : r < 16) (hn : n < 24) (M : St) : ∃ L1 a1 v L2 a2, f_X0_append L 1 (nI r) (nI n) = L1 ∧ f_X9_enter (mA M a) (nI r) (nI n) 1 = some (mA M a1) ∧ f_X3_rewrite L1 (nI r) (nI n) x = some (v, L2) ∧ f_X9_changes (mA M a1) (nI r) (nI n) x = some (v, mA M a2) ∧ Sim a2 L2 := by
  obtain ⟨L1, a1, e1, e2, hA, hL, ha⟩ := app_ok g.2.2 (c := 1) (by omega) hr hn M
  have g1 : RM (True, a1) a1 L1 := rm_app g.1 hL ha
  have w1 : Inv 24 L1 := inv_irr (fun k hk => hL k (irr_ac hk)) g.2.1
  obtain ⟨a2, q1, q2⟩ := m_changes (M := M) (x := x) g1 w1 hr hn
  exact ⟨L1, a1, _, _, a2, e1, e2, c_rewrite w1 hr hn, q1, sim_of hA q2 (inv_rewS w1 hr hn) (fun k hk => rewS_ac hk)⟩
theorem op_back (g : Sim a L) {r n : Nat} (hr : r < 16) (hn : n < 24) (hc : hasC L r n) (M : St) : ∃ v L2 a2, f_X3_giveBack L (nI r) (nI (plc L r n)) = some (v, L2) ∧ f_X9_returned (mA M a) (nI r) (nI (plc L r n)) = some (v, mA M a2) ∧ Sim a2 L2 := by
  have w := g.2.1
  have ho := inv_own w hr hc (no24 w.2.2.1 hr)
  obtain ⟨a2, q1, q2⟩ := m_returned (M := M) g.1 w.1 w.2.2.1 hr hc ho
  exact ⟨_, _, a2, c_giveBack w.1 w.2.1 w.2.2.1 hr hc ho, q1, sim_of g.2.2 q2 (inv_gvb w hr hc (no_at (no24 w.2.2.1 hr) w.2.2.1 hr hc)) (fun k hk => gvb_ac hk)⟩
theorem op_recall (g : Sim a L) {n : Nat} (hn : n < 24) (M : St) : ∃ v L2 a2, f_X3_callIn L (nI n) = some (v, L2) ∧ bd (f_X9_ofN (mA M a) (nI n) 3) (fun y3 => bd (f_X9_callBackBut (mA M a) (nI n) (-6)) (fun S4 => bd (f_X9_layCard S4 (nI n) 0 0) (fun S5 => bd (f_X9_ofN S5 (nI n) 3) (fun y6 => some (y6 - y3, S5))))) = some (v, mA M a2) ∧ Sim a2 L2 := by
  obtain ⟨a2, q1, q2⟩ := m_callIn (M := M) g.1 trivial g.2.1 hn
  exact ⟨_, _, a2, c_callIn g.2.1 hn, q1, sim_of g.2.2 q2 (inv_calS g.2.1 hn) (fun k hk => calS_ac hk)⟩
/-! ===== one library copied into another ===== -/
def cpR (L X : St) (k n : Nat) : St := va_up L k (va_cpy (X k) (L k) 0 0 n)
theorem cpR_at {L X : St} {k n k' j : Nat} : cpR L X k n k' j = if k' = k ∧ j < n then X k j else L k' j := by
  unfold cpR
  by_cases h : k' = k
  · subst h
    rw [up_self]
    unfold va_cpy
    by_cases hj : j < n
    · rw [if_pos ⟨Nat.zero_le _, by omega⟩, if_pos ⟨rfl, hj⟩]
      congr 1
      omega
    · rw [if_neg (by omega), if_neg (fun q => hj q.2)]
  · rw [up_ne _ _ h, if_neg (fun q => h q.1)]
theorem rcp_up {G : Gs} {b b' k n : Nat} {L : St} (hb : b' + 2 ≠ b + 2) : rcp (va_up G (b + 2) L) (b + 2) k (b' + 2) k n = va_up G (b + 2) (cpR L (G (b' + 2)) k n) := by
  unfold rcp cpR
  rw [up_self, up_ne _ _ hb, up_up]
theorem copy_ok (G : Gs) {b b' : Nat} (hb : b' + 2 ≠ b + 2) : ∃ L', f_X3_copyFrom G b b' = va_up G (b + 2) L' ∧ ∀ k j, inR k j → L' k j = G (b' + 2) k j := by
  have key : f_X3_copyFrom (va_up G (b + 2) (G (b + 2))) b b' = va_up G (b + 2) (cpR (cpR (cpR (cpR (cpR (cpR (cpR (sp (sp (cpR (cpR (cpR (cpR (cpR (cpR (cpR (cpR (cpR (cpR (cpR (cpR (G (b + 2)) (G (b' + 2)) 2 4) (G (b' + 2)) 4 24) (G (b' + 2)) 7 24) (G (b' + 2)) 9 24) (G (b' + 2)) 12 16) (G (b' + 2)) 14 128) (G (b' + 2)) 16 128) (G (b' + 2)) 18 128) (G (b' + 2)) 20 24) (G (b' + 2)) 23 60) (G (b' + 2)) 25 60) (G (b' + 2)) 27 60) 21 3 (G (b' + 2) 21 3)) 21 4 (G (b' + 2) 21 4)) (G (b' + 2)) 29 3) (G (b' + 2)) 31 24) (G (b' + 2)) 33 24) (G (b' + 2)) 35 16) (G (b' + 2)) 37 16) (G (b' + 2)) 39 16) (G (b' + 2)) 41 16) := by
    unfold f_X3_copyFrom f_X1_copyFrom f_X7_copyFrom f_X0_copyFrom
    simp only [bnd_e, rcp_up hb, up_self, up_ne _ _ hb, up_up]
  rw [up_id] at key
  refine ⟨_, key, fun k j hj => ?_⟩
  rcases inR_in hj with rfl | rfl | rfl | rfl | rfl | rfl | rfl | rfl | rfl | rfl | rfl | rfl | rfl | rfl | rfl | rfl | rfl | rfl | rfl | rfl
  · have h5 : j < 24 := hj
    simp only [cpR_at, sp_at]
    simp [h5]
  · have h5 : 3 ≤ j ∧ j < 5 := hj
    have : j = 3 ∨ j = 4 := by omega
    simp only [cpR_at, sp_at]
    rcases this with rfl | rfl <;> simp
  · have h5 : j < 60 := hj
    simp only [cpR_at, sp_at]
    simp [h5]
  · have h5 : j < 60 := hj
    simp only [cpR_at, sp_at]
    simp [h5]
  · have h5 : j < 60 := hj
    simp only [cpR_at, sp_at]
    simp [h5]
  · have h5 : j < 4 := hj
    simp only [cpR_at, sp_at]
    simp [h5]
  · have h5 : j < 3 := hj
    simp only [cpR_at, sp_at]
    simp [h5]
  · have h5 : j < 24 := hj
    simp only [cpR_at, sp_at]
    simp [h5]
  · have h5 : j < 24 := hj
    simp only [cpR_at, sp_at]
    simp [h5]
  · have h5 : j < 24 := hj
    simp only [cpR_at, sp_at]
    simp [h5]
  · have h5 : j < 24 := hj
    simp only [cpR_at, sp_at]
    simp [h5]
  · have h5 : j < 24 := hj
    simp only [cpR_at, sp_at]
    simp [h5]
  · have h5 : j < 16 := hj
    simp only [cpR_at, sp_at]
    simp [h5]
  · have h5 : j < 16 := hj
    simp only [cpR_at, sp_at]
    simp [h5]
  · have h5 : j < 16 := hj
    simp only [cpR_at, sp_at]
    simp [h5]
  · have h5 : j < 16 := hj
    simp only [cpR_at, sp_at]
    simp [h5]
  · have h5 : j < 16 := hj
    simp only [cpR_at, sp_at]
    simp [h5]
  · have h5 : j < 128 := hj
    simp only [cpR_at, sp_at]
    simp [h5]
  · have h5 : j < 128 := hj
    simp only [cpR_at, sp_at]
    simp [h5]
  · have h5 : j < 128 := hj
    simp only [cpR_at, sp_at]
    simp [h5]
