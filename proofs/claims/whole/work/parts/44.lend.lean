variable {V : VB} {L : St} {M : St} {a : FN} {z : Nat}
/-! ===== lending and reading ===== -/
def irr (k : Nat) : Bool := !(k == 2 || k == 7 || k == 9 || k == 12 || k == 14 || k == 16 || k == 18 || k == 20)
theorem inv_irr {S : St} (h : ∀ k, irr k = false → S k = L k) (w : Inv z L) : Inv z S :=
  inv_same (fun k hk => h k (by unfold shR at hk; unfold irr; simp at hk ⊢; omega)) (h 2 rfl) (h 7 rfl) (h 9 rfl) (h 20 rfl) w
theorem irr_sp {k j : Nat} {x : Int32} (hk : irr k = true) : ∀ k', irr k' = false → sp L k j x k' = L k' := fun k' h => sp_row' _ _ _ (fun q => by rw [q, hk] at h; cases h)
theorem inv_sp {k j : Nat} {x : Int32} (hk : irr k = true) (w : Inv z L) : Inv z (sp L k j x) := inv_irr (irr_sp hk) w
theorem inv_lent (w : Inv 24 L) {r n : Nat} {v : Int32} (hr : r < 16) (hn : n < 24) (hno : ¬ hasC L r n) (h3 : ¬ L 7 n = 3) (h8 : len L r < 8) : Inv 24 (wrt (lay L r n v 0) r n) := by
  obtain ⟨w1, w2, w3, w4, w5, w6, w7⟩ := w
  have l2 : lay L r n v 0 2 = L 2 := lay_ne rfl (by decide) (by decide)
  have l7 : lay L r n v 0 7 = L 7 := lay_ne rfl (by decide) (by decide)
  have l9 : lay L r n v 0 9 = L 9 := lay_ne rfl (by decide) (by decide)
  have ecp : ∀ {r' n' v' c'}, r' < 16 → n' < 24 → (cp (wrt (lay L r n v 0) r n) r' n' v' c' ↔ cp L r' n' v' c' ∨ (r' = r ∧ n' = n ∧ v' = v ∧ c' = 0)) := fun h1 h2 => (cp_same wrt_sh).trans (cp_lay w3 hr hn h8 h1 h2)
  have ehas : ∀ {r' n'}, r' < 16 → n' < 24 → (hasC (wrt (lay L r n v 0) r n) r' n' ↔ hasC L r' n' ∨ (r' = r ∧ n' = n)) := fun h1 h2 => (hasC_same wrt_sh).trans (hasC_lay w3 hr hn h8 h1 h2)
  have t1 : wfT (lay L r n v 0) := wfT_same l2 w1
  have c1 : wfC (lay L r n v 0) := wfC_same l7 l9 w2
  refine ⟨wfT_same (wrt_ne (by decide) (by decide)) t1, wfC_wrt t1 c1 hr hn, wfS_same wrt_sh (wfS_lay w3 hr hn h8 (Or.inl rfl) hno), wfH_same wrt_sh (wrt_ne (by decide) (by decide)) (wfH_lay w3 w4 hr hn h8), ?_, ?_, ?_⟩
  · intro n' hn' _ k3
    rw [wrt_7] at k3
    by_cases e : n' = n
    · rw [if_pos e] at k3
      split at k3
      · exact absurd k3 (by decide)
      · exact absurd k3 (by decide)
    · rw [if_neg e, l7] at k3
      obtain ⟨o, ho, q, v', hv⟩ := w5 n' hn' (by omega) k3
      exact ⟨o, ho, by rw [wrt_9, if_neg e, l9]; exact q, v', (ecp ho hn').mpr (Or.inl hv)⟩
  · intro n' hn' r' hr' v' hv
    rcases (ecp hr' hn').mp hv with q | q
    · have := w6 n' hn' r' hr' v' q
      by_cases e : n' = n
      · subst e; exact absurd this.1 h3
      · rw [wrt_7, wrt_9, if_neg e, if_neg e, l7, l9]
        exact this
    · exact absurd q.2.2.2 (by decide)
  · intro n' hn' r' hr' hh
    by_cases e : n' = n
    · subst e
      refine cal_wrt hr hr' ?_
      rw [calP_same l2 (by rw [l7]) (by rw [l9])]
      rcases (ehas hr' hn).mp hh with q | q
      · exact Or.inl (w7 n' hn r' hr' q)
      · exact Or.inr q.1
    · rw [calP_same (wrt_ne (by decide) (by decide)) (by rw [wrt_7, if_neg e]) (by rw [wrt_9, if_neg e]), calP_same l2 (by rw [l7]) (by rw [l9])]
      rcases (ehas hr' hn').mp hh with q | q
      · exact w7 n' hn' r' hr' q
      · exact absurd q.2 e
/-- a copy is used: it goes to the end -/
def usd (L : St) (r n : Nat) (v c : Int32) : St := lay (rmv L r (plc L r n)) r n v c
theorem usd_rows {r n k : Nat} {v c : Int32} (h : isSh k = false) (h2 : k ≠ 12) (h3 : k ≠ 20) : usd L r n v c k = L k := by
  unfold usd
  rw [lay_ne h h2 h3, rmv_ne h h2 h3]
theorem usd_len (w : wfS L) {r n : Nat} {v c : Int32} (hr : r < 16) (hc : hasC L r n) (r' : Nat) : len (usd L r n v c) r' = len L r' := by
  have hl := (w r hr).1
  have hp : plc L r n < len L r := hc
  unfold usd
  rw [lay_len (wfS_rmv w hr hc r hr).1, rmv_len hl hp, rmv_len hl hp]
  by_cases e : r' = r
  · rw [if_pos e, if_pos rfl, e]; omega
  · rw [if_neg e, if_neg e]
theorem cp_usd (w : wfS L) {r n : Nat} {v c : Int32} (hr : r < 16) (hn : n < 24) (hc : hasC L r n) {r' n' : Nat} {v' c' : Int32} (hr' : r' < 16) (hn' : n' < 24) : cp (usd L r n v c) r' n' v' c' ↔ (cp L r' n' v' c' ∧ ¬ (r' = r ∧ n' = n)) ∨ (r' = r ∧ n' = n ∧ v' = v ∧ c' = c) := by
  have hp : plc L r n < len L r := hc
  have h8 : len L r ≤ 8 := (w r hr).1.2
  unfold usd
  rw [cp_lay (wfS_rmv w hr hc) hr hn (by rw [rmv_len (w r hr).1 hp, if_pos rfl]; omega) hr' hn', cp_rmv w hr hn hc hr' hn']
theorem hasC_usd (w : wfS L) {r n : Nat} {v c : Int32} (hr : r < 16) (hn : n < 24) (hc : hasC L r n) {r' n' : Nat} (hr' : r' < 16) (hn' : n' < 24) : hasC (usd L r n v c) r' n' ↔ hasC L r' n' := by
  have hp : plc L r n < len L r := hc
  have h8 : len L r ≤ 8 := (w r hr).1.2
  unfold usd
  rw [hasC_lay (wfS_rmv w hr hc) hr hn (by rw [rmv_len (w r hr).1 hp, if_pos rfl]; omega) hr' hn', hasC_rmv w hr hn hc hr' hn']
  by_cases e : r' = r ∧ n' = n
  · rw [e.1, e.2]
    exact ⟨fun _ => hc, fun _ => Or.inr ⟨rfl, rfl⟩⟩
  · exact ⟨fun q => q.elim (fun q => q.1) (fun q => absurd q e), fun q => Or.inl ⟨q, e⟩⟩
theorem wf_usd (w : wfS L) (wh : wfH L) {r n : Nat} {v c : Int32} (hr : r < 16) (hn : n < 24) (hc : hasC L r n) (h01 : c = 0 ∨ c = 1) : wfS (usd L r n v c) ∧ wfH (usd L r n v c) := by
  have hp : plc L r n < len L r := hc
  have h8 : len L r ≤ 8 := (w r hr).1.2
  have h9 : len (rmv L r (plc L r n)) r < 8 := by rw [rmv_len (w r hr).1 hp, if_pos rfl]; omega
  exact ⟨wfS_lay (wfS_rmv w hr hc) hr hn h9 h01 (fun q => ((hasC_rmv w hr hn hc hr hn).mp q).2 ⟨rfl, rfl⟩), wfH_lay (wfS_rmv w hr hc) (wfH_rmv w wh hr hn hc) hr hn h9⟩
theorem inv_used (w : Inv z L) {r n : Nat} (hr : r < 16) (hn : n < 24) (hc : hasC L r n) : Inv z (usd L r n (L 16 (8 * r + plc L r n)) (L 18 (8 * r + plc L r n))) := by
  obtain ⟨w1, w2, w3, w4, w5, w6, w7⟩ := w
  have h01 : L 18 (8 * r + plc L r n) = 0 ∨ L 18 (8 * r + plc L r n) = 1 := cp_c w3 hr (cp_of hc)
  have ecp : ∀ {r' n' v' c'}, r' < 16 → n' < 24 → (cp (usd L r n (L 16 (8 * r + plc L r n)) (L 18 (8 * r + plc L r n))) r' n' v' c' ↔ cp L r' n' v' c') := by
    intro r' n' v' c' hr' hn'
    rw [cp_usd w3 hr hn hc hr' hn']
    by_cases e : r' = r ∧ n' = n
    · obtain ⟨rfl, rfl⟩ := e
      constructor
      · rintro (q | q)
        · exact q.1
        · rw [q.2.2.1, q.2.2.2]; exact cp_of hc
      · intro q
        have := cp_at w3 hr q
        exact Or.inr ⟨rfl, rfl, this.1.symm, this.2.symm⟩
    · exact ⟨fun q => q.elim (fun q => q.1) (fun q => absurd ⟨q.1, q.2.1⟩ e), fun q => Or.inl ⟨q, e⟩⟩
  have l2 : ∀ {v c}, usd L r n v c 2 = L 2 := usd_rows rfl (by decide) (by decide)
  have l7 : ∀ {v c}, usd L r n v c 7 = L 7 := usd_rows rfl (by decide) (by decide)
  have l9 : ∀ {v c}, usd L r n v c 9 = L 9 := usd_rows rfl (by decide) (by decide)
  refine ⟨wfT_same l2 w1, wfC_same l7 l9 w2, (wf_usd w3 w4 hr hn hc h01).1, (wf_usd w3 w4 hr hn hc h01).2, ?_, ?_, ?_⟩
  · intro n' hn' hne k3
    rw [l7] at k3
    obtain ⟨o, ho, q, v', hv⟩ := w5 n' hn' hne k3
    exact ⟨o, ho, by rw [l9]; exact q, v', (ecp ho hn').mpr hv⟩
  · intro n' hn' r' hr' v' hv
    rw [l7, l9]
    exact w6 n' hn' r' hr' v' ((ecp hr' hn').mp hv)
  · intro n' hn' r' hr' hh
    rw [calP_same l2 (by rw [l7]) (by rw [l9])]
    exact w7 n' hn' r' hr' ((hasC_usd w3 hr hn hc hr' hn').mp hh)
