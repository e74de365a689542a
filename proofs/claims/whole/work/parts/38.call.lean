variable {V : VB} {L : St} {M : St} {a : FN}
/-! ===== a copy is called back ===== -/
theorem sp_sp (S : St) (k j : Nat) (x y : Int32) : sp (sp S k j x) k j y = sp S k j y := by
  funext k' j'
  simp only [sp_at]
  by_cases h : k' = k ∧ j' = j
  · simp [h]
  · simp [h]
theorem sp_comm2 (S : St) {k j j' : Nat} {x y : Int32} (h : j ≠ j') : sp (sp S k j x) k j' y = sp (sp S k j' y) k j x := by
  funext k2 j2
  simp only [sp_at]
  by_cases h1 : k2 = k ∧ j2 = j
  · have : ¬ (k2 = k ∧ j2 = j') := fun q => h (h1.2.symm.trans q.2)
    simp [h1, h]
  · simp [h1]
theorem rmv_sp {r p k j : Nat} {x : Int32} (h : shR k = false) (h2 : k ≠ 20) : rmv (sp L k j x) r p = sp (rmv L r p) k j x := by
  funext k'
  by_cases hk : shR k' = true ∨ k' = 20
  · have hne : k' ≠ k := fun q => by
      rw [q] at hk
      rcases hk with hk | hk
      · rw [h] at hk; cases hk
      · exact h2 hk
    rw [sp_row' _ _ _ hne]
    exact rmv_same (shR_sp h) (sp_row' _ _ _ (fun q => h2 q.symm)) hk
  · have h12 : k' ≠ 12 := fun q => hk (Or.inl (by rw [q]; rfl))
    have h20 : k' ≠ 20 := fun q => hk (Or.inr q)
    have hs : isSh k' = false := by
      cases hq : isSh k'
      · rfl
      · exfalso
        rcases sh_cases hq with rfl | rfl | rfl <;> exact hk (Or.inl rfl)
    rw [rmv_ne hs h12 h20]
    by_cases e : k' = k
    · subst e
      rw [sp_row, sp_row, rmv_ne hs h12 h20]
    · rw [sp_row' _ _ _ e, sp_row' _ _ _ e, rmv_ne hs h12 h20]
theorem gvV_sp {r p k j : Nat} {x : Int32} (h : shR k = false) (h2 : k ≠ 4) : gvV (sp L k j x) r p = sp (gvV L r p) k j x := by
  have e18 : chd (sp L k j x) r p = chd L r p := by unfold chd; rw [shR_sp h 18 rfl]
  unfold gvV
  rw [e18]
  unfold num
  rw [shR_sp h 14 rfl, shR_sp h 16 rfl]
  split
  · exact sp_comm L (fun q => h2 q)
  · rfl
theorem plc_same {S : St} (h : ∀ k, shR k = true → S k = L k) (r n : Nat) : plc S r n = plc L r n := by
  unfold plc len num
  rw [h 12 rfl, h 14 rfl]
theorem len_same {S : St} (h : ∀ k, shR k = true → S k = L k) (r : Nat) : len S r = len L r := by
  unfold len num
  rw [h 12 rfl]
/-- without the copy of n at i, its value given to the note -/
def off (L : St) (i n : Nat) : St := rmv (gvV L i (plc L i n)) i (plc L i n)
theorem off_ne {i n k : Nat} (h : isSh k = false) (h2 : k ≠ 12) (h3 : k ≠ 20) (h4 : k ≠ 4) : off L i n k = L k := by
  unfold off
  rw [rmv_ne h h2 h3, gvV_ne h4]
theorem off_sp {i n k j : Nat} {x : Int32} (h : shR k = false) (h2 : k ≠ 20) (h4 : k ≠ 4) : off (sp L k j x) i n = sp (off L i n) k j x := by
  unfold off
  rw [plc_same (shR_sp h), gvV_sp h h4, rmv_sp h h2]
/-- n called back from i; g: with how many shouts -/
def clb (L : St) (n i : Nat) (g : Int32) : St := if plc L i n < len L i then sp (sp (sp (sp (sp (off L i n) 29 0 (L 29 0 + 1 + 1)) 31 n (L 31 n + 1)) 39 i (L 39 i + 1)) 29 2 (L 29 2 + g)) 33 n (L 33 n + g)
  else sp (sp (sp (sp (sp L 29 0 (L 29 0 + 1)) 29 1 (L 29 1 + 1)) 41 i (L 41 i + 1)) 29 2 (L 29 2 + g)) 33 n (L 33 n + g)
theorem ord_held {B : St} {n i : Nat} {x x' y z u v : Int32} : sp (sp (sp (sp (sp (sp B 29 0 x) 29 2 y) 33 n z) 29 0 x') 31 n u) 39 i v = sp (sp (sp (sp (sp B 29 0 x') 31 n u) 39 i v) 29 2 y) 33 n z := by
  rw [sp_comm _ (k := 33) (k' := 29) (by decide), sp_comm2 _ (k := 29) (j := 2) (j' := 0) (by decide), sp_sp, sp_comm _ (k := 33) (k' := 31) (by decide), sp_comm _ (k := 29) (k' := 31) (j := 2) (by decide), sp_comm _ (k := 33) (k' := 39) (by decide), sp_comm _ (k := 29) (k' := 39) (j := 2) (by decide)]
theorem ord_free {B : St} {n i : Nat} {x y z u v : Int32} : sp (sp (sp (sp (sp B 29 0 x) 29 2 y) 33 n z) 29 1 u) 41 i v = sp (sp (sp (sp (sp B 29 0 x) 29 1 u) 41 i v) 29 2 y) 33 n z := by
  rw [sp_comm _ (k := 33) (k' := 29) (by decide), sp_comm2 _ (k := 29) (j := 2) (j' := 1) (by decide), sp_comm _ (k := 33) (k' := 41) (by decide), sp_comm _ (k := 29) (k' := 41) (j := 2) (by decide)]
theorem c_takeAway (w : wfS L) {i n : Nat} (hi : i < 16) (hn : n < 24) (hc : hasC L i n) : f_X3_takeAway L (nI i) (nI n) = some (sp (sp (sp (off L i n) 29 0 (L 29 0 + 1)) 31 n (L 31 n + 1)) 39 i (L 39 i + 1)) := by
  have hl := (w i hi).1
  have h8 : len L i ≤ 8 := hl.2
  have hp : plc L i n < len L i := hc
  unfold f_X3_takeAway
  rw [c_placeOf hi hl, if_pos hp, bd_some, bnd_e, show rad 3 L 29 0 1 = sp L 29 0 (L 29 0 + 1) from rad_nI (j := 0) (by omega) (by omega), bnd_e, rad_nI hn (by omega), bnd_e, rad_nI hi (by omega), sp_row' _ _ _ (by decide), sp_row' _ _ _ (by decide), sp_row' _ _ _ (by decide), jn_e]
  have e : ∀ k, shR k = true → sp (sp (sp L 29 0 (L 29 0 + 1)) 31 n (L 31 n + 1)) 39 i (L 39 i + 1) k = L k := fun k hk => by
    rw [shR_sp (by decide) k hk, shR_sp (by decide) k hk, shR_sp (by decide) k hk]
  have key : off (sp (sp (sp L 29 0 (L 29 0 + 1)) 31 n (L 31 n + 1)) 39 i (L 39 i + 1)) i n = sp (sp (sp (off L i n) 29 0 (L 29 0 + 1)) 31 n (L 31 n + 1)) 39 i (L 39 i + 1) := by
    rw [off_sp (by decide) (by decide) (by decide), off_sp (by decide) (by decide) (by decide), off_sp (by decide) (by decide) (by decide)]
  rw [← key]
  revert e
  generalize sp (sp (sp L 29 0 (L 29 0 + 1)) 31 n (L 31 n + 1)) 39 i (L 39 i + 1) = S
  intro e
  have wS : wfS S := wfS_same e w
  have ep : plc S i n = plc L i n := plc_same e i n
  have el : len S i = len L i := len_same e i
  have eN : num S 14 (8 * i + plc L i n) = n := nI_len (by omega) (by rw [e 14 rfl]; exact hasC_at hc)
  have hp2 : plc L i n < len (gvV S i (plc L i n)) i := by rw [len_same gvV_sh, el]; exact hp
  have w2 : wfS (gvV S i (plc L i n)) := wfS_same gvV_sh wS
  have rr := c_remove (L := gvV S i (plc L i n)) hi (w2 i hi).1 hp2 ((w2 i hi).2.1 _ hp2).1
  rw [isChd hi (by omega)]
  unfold off
  rw [ep]
  cases hch : chd S i (plc L i n)
  · have eV : gvV S i (plc L i n) = S := by unfold gvV; rw [hch]; rfl
    rw [if_pos (show (if false = true then (1 : Int32) else 0) = 0 from rfl)]
    rw [eV] at rr ⊢
    dsimp only
    rw [rr]; rfl
  · have eV : sp S 4 n (S 16 (8 * i + plc L i n)) = gvV S i (plc L i n) := by unfold gvV; rw [hch, eN]; rfl
    rw [if_neg (by decide), bnd_e, rwr_nI hn (by omega), show f_X7_valueAt S (nI i) (nI (plc L i n)) = S 16 (8 * i + plc L i n) by unfold f_X7_valueAt; rw [i8p, rat_nI (by omega) (by omega)], eV]
    dsimp only
    rw [rr]; rfl
