variable {V : VB} {L : St} {M : St} {a : FN} {z : Nat} {G : Gs}
theorem w_with (h : Rel G) (x y : Int32) : Wop (f_X8_accountWith G x y) (f_X9_accountWith (G 1) x y) Rel G := by
  have bad : Wop (some ((-2 : Int32), G)) (some ((-2 : Int32), G 1)) Rel G := wop_of rfl rfl rfl (fun _ => rfl) h
  have c0 : f_X8_isValueOf 0 x = some (if f_X9_in x 0 4 = 0 then 0 else 1) := c_isValue x (s := 0) (by omega)
  have c1 : f_X8_isValueOf 1 y = some (if f_X9_in y 1 8 = 0 then 0 else 1) := c_isValue y (s := 1) (by omega)
  unfold f_X8_accountWith f_X9_accountWith
  rw [c0, bd_some, c1, bd_some]
  rcases in_cases x 0 4 (by omega) with ⟨q1, _⟩ | ⟨q1, g1, g2⟩
  · have q1' : f_X9_in x 0 4 = 0 := q1
    rw [q1', if_pos rfl, if_pos rfl]
    exact bad
  · have q1' : f_X9_in x 0 4 = 1 := q1
    obtain ⟨nm, _, n2, rfl⟩ := in_val (by omega) (by omega) g1 g2
    rw [q1', if_neg d10, if_neg d10, if_neg d10]
    rcases in_cases y 1 8 (by omega) with ⟨p1, _⟩ | ⟨p1, k1, k2⟩
    · have p1' : f_X9_in y 1 8 = 0 := p1
      rw [p1', if_pos rfl, if_pos rfl]
      exact bad
    · have p1' : f_X9_in y 1 8 = 1 := p1
      obtain ⟨sz, s1, s2, rfl⟩ := in_val (by omega) (by omega) k1 k2
      obtain ⟨v, T', M', v0, v1, v2, v3⟩ := with_ok h n2 s1 s2
      rw [p1', if_neg d10, if_neg d10, if_neg d10, v1, bdp_some, v2, bdp_some]
      exact wop_of rfl rfl (up_ne _ _ (by decide)) (fun j => by rw [up_ne _ _ (by decide)]) (rl_trial (eqM_rl v3 h))
/-- where the two loops stand -/
def gd (G G' : Gs) (M' : St) : Prop := RLG G' M' ∧ G' 1 = G 1 ∧ G' 0 = G 0
def J2 (x2 x3 x4 y2 y3 y4 : Int32) : Prop := x2 = y2 ∧ x3 = y3 ∧ x4 = y4 ∧ ¬ y2 < 0 ∧ ¬ x4 = -6
def J1 (x2 x3 x4 y2 y3 y4 : Int32) : Prop := (x4 = -6 ∧ y2 = -6) ∨ J2 x2 x3 x4 y2 y3 y4
theorem best_in {x1 : Int32} {nm : Nat} (hn : nm ≤ 4) (kc : Int32 → Int32 → Int32 → Int32 → Gs → Option (Int32 × Gs)) (km : Int32 → Int32 → Int32 → Int32 → St → Option (Int32 × St)) : ∀ (d i : Nat), i + d = 9 → 1 ≤ i → ∀ f, d < f → ∀ (x2 x3 x4 y2 y3 y4 : Int32) (G' : Gs) (M' : St), gd G G' M' → J1 x2 x3 x4 y2 y3 y4 → (1 ≤ d ∨ J2 x2 x3 x4 y2 y3 y4) → ∃ u2 u3 u4 G1 M1, f_X8_best_L44 x1 (nI nm) kc f x2 x3 x4 (nI i) G' = kc u2 u3 u4 (nI 9) G1 ∧ f_X9_best_L33 x1 (nI nm) km f y2 y3 y4 (nI i) M' = km u2 u3 u4 (nI 9) M1 ∧ gd G G1 M1 ∧ J2 u2 u3 u4 u2 u3 u4
  | 0, i, e, _, f + 1, _, x2, x3, x4, y2, y3, y4, G', M', hg, _, hd => by
    have : i = 9 := by omega
    subst this
    obtain ⟨rfl, rfl, rfl, j1, j2⟩ := hd.resolve_left (by omega)
    rw [f_X8_best_L44, f_X9_best_L33, cl_1, show fHigh 1 = (8 : Int32) from rfl, if_pos (show (8 : Int32) < nI 9 by decide), if_pos (show (8 : Int32) < nI 9 by decide)]
    exact ⟨_, _, _, G', M', rfl, rfl, hg, rfl, rfl, rfl, j1, j2⟩
  | d + 1, i, e, h1, f + 1, hf, x2, x3, x4, y2, y3, y4, G', M', hg, hj, _ => by
    obtain ⟨g1, g2, g3⟩ := hg
    obtain ⟨v, T', M2, v0, v1, v2, v3⟩ := with_ok g1 hn h1 (show i ≤ 8 by omega)
    have hg' : gd G (va_up G' (1 + 2) T') M2 := ⟨rl_trial (eqM_rl v3 g1), by rw [up_ne _ _ (by decide)]; exact g2, by rw [up_ne _ _ (by decide)]; exact g3⟩
    rw [f_X8_best_L44, f_X9_best_L33, cl_1, show fHigh 1 = (8 : Int32) from rfl, if_neg (show ¬ (8 : Int32) < nI i from nI_nlt (a := 8) (by omega) (by omega)), if_neg (show ¬ (8 : Int32) < nI i from nI_nlt (a := 8) (by omega) (by omega)), v1, bdp_some, v2, bdp_some, nI_1]
    have hj2 : J2 (if x4 = (-6) then nI nm else (if x4 ≤ nI v then x2 else nI nm : Int32) : Int32) (if x4 = (-6) then nI i else (if x4 ≤ nI v then x3 else nI i : Int32) : Int32) (if x4 = (-6) then nI v else (if x4 ≤ nI v then x4 else nI v : Int32) : Int32) (if y2 < 0 then nI nm else (if y4 ≤ nI v then y2 else nI nm : Int32) : Int32) (if y2 < 0 then nI i else (if y4 ≤ nI v then y3 else nI i : Int32) : Int32) (if y2 < 0 then nI v else (if y4 ≤ nI v then y4 else nI v : Int32) : Int32) := by
      rcases hj with ⟨rfl, rfl⟩ | ⟨rfl, rfl, rfl, j1, j2⟩
      · have m6 : (-6 : Int32) < 0 := by decide
        rw [if_pos rfl, if_pos rfl, if_pos rfl, if_pos m6, if_pos m6, if_pos m6]
        exact ⟨rfl, rfl, rfl, nI_pos (by omega), m6_ne (by omega)⟩
      · rw [if_neg j2, if_neg j2, if_neg j2, if_neg j1, if_neg j1, if_neg j1]
        refine ⟨rfl, rfl, rfl, ?_, ?_⟩
        · split
          · exact j1
          · exact nI_pos (by omega)
        · split
          · exact j2
          · exact m6_ne (by omega)
    exact best_in hn kc km d (i + 1) (by omega) (by omega) f (by omega) _ _ _ _ _ _ _ _ hg' (Or.inr hj2) (Or.inr hj2)
theorem best_out {x1 : Int32} (kc : Int32 → Int32 → Int32 → Int32 → Gs → Option (Int32 × Gs)) (km : Int32 → Int32 → Int32 → Int32 → St → Option (Int32 × St)) : ∀ (d i : Nat), i + d = 5 → ∀ f, d < f → ∀ (x2 x3 x4 y2 y3 y4 : Int32) (G' : Gs) (M' : St), gd G G' M' → J1 x2 x3 x4 y2 y3 y4 → (1 ≤ d ∨ J2 x2 x3 x4 y2 y3 y4) → ∃ u2 u3 u4 G1 M1, f_X8_best_L27 x1 kc f x2 x3 x4 (nI i) G' = kc u2 u3 u4 (nI 5) G1 ∧ f_X9_best_L24 x1 km f y2 y3 y4 (nI i) M' = km u2 u3 u4 (nI 5) M1 ∧ gd G G1 M1
  | 0, i, e, f + 1, _, x2, x3, x4, y2, y3, y4, G', M', hg, _, hd => by
    have : i = 5 := by omega
    subst this
    obtain ⟨rfl, rfl, rfl, j1, j2⟩ := hd.resolve_left (by omega)
    rw [f_X8_best_L27, f_X9_best_L24, cl_0, show fHigh 0 = (4 : Int32) from rfl, if_pos (show (4 : Int32) < nI 5 by decide), if_pos (show (4 : Int32) < nI 5 by decide)]
    exact ⟨_, _, _, G', M', rfl, rfl, hg⟩
  | d + 1, i, e, f + 1, hf, x2, x3, x4, y2, y3, y4, G', M', hg, hj, _ => by
    rw [f_X8_best_L27, f_X9_best_L24, cl_0, show fHigh 0 = (4 : Int32) from rfl, if_neg (show ¬ (4 : Int32) < nI i from nI_nlt (a := 4) (by omega) (by omega)), if_neg (show ¬ (4 : Int32) < nI i from nI_nlt (a := 4) (by omega) (by omega)), cl_1, show fLow 1 = (1 : Int32) from rfl]
    obtain ⟨u2, u3, u4, G1, M1, k1, k2, k3, k4⟩ := best_in (G := G) (x1 := x1) (nm := i) (by omega) (fun (x2_101 : Int32) (x3_101 : Int32) (x4_101 : Int32) (x6_101 : Int32) (S_101 : Gs) => f_X8_best_L27 x1 kc f x2_101 x3_101 x4_101 (nI i + 1) S_101) (fun (x2_77 : Int32) (x3_77 : Int32) (x4_77 : Int32) (x6_77 : Int32) (S_77 : St) => f_X9_best_L24 x1 km f x2_77 x3_77 x4_77 (nI i + 1) S_77) 8 1 (by omega) (by omega) 5000 (by omega) x2 x3 x4 y2 y3 y4 G' M' hg hj (Or.inl (by omega))
    obtain ⟨w2, w3, w4, G2, M2, r1, r2, r3⟩ := best_out kc km (x1 := x1) d (i + 1) (by omega) f (by omega) u2 u3 u4 u2 u3 u4 G1 M1 k3 (Or.inr k4) (Or.inr k4)
    refine ⟨w2, w3, w4, G2, M2, k1.trans ?_, k2.trans ?_, r3⟩
    · rw [nI_1]; exact r1
    · rw [nI_1]; exact r2
theorem w_best (h : Rel G) (x : Int32) : Wop (f_X8_best G x) (f_X9_best (G 1) x) Rel G := by
  unfold f_X8_best f_X9_best
  have bad : Wop (some ((-2 : Int32), G)) (some ((-2 : Int32), G 1)) Rel G := wop_of rfl rfl rfl (fun _ => rfl) h
  obtain ⟨u2, u3, u4, G1, M1, k1, k2, k3⟩ := best_out (G := G) (x1 := x) (fun (x2_107 : Int32) (x3_107 : Int32) (x4_107 : Int32) (x5_107 : Int32) (S_107 : Gs) => if x = 0 then (some (x2_107, S_107)) else (if x = 1 then (some (x3_107, S_107)) else (some (x4_107, S_107)))) (fun (x2_83 : Int32) (x3_83 : Int32) (x4_83 : Int32) (x5_83 : Int32) (S_83 : St) => if x = 0 then (some (x2_83, S_83)) else (if x = 1 then (some (x3_83, S_83)) else (some (x4_83, S_83)))) 5 0 (by omega) 5000 (by omega) 0 0 (-6) (-6) (-6) 0 G (G 1) ⟨h, rfl, rfl⟩ (Or.inl ⟨rfl, rfl⟩) (Or.inl (by omega))
  have fin : ∀ r : Int32, Wop (some (r, G1)) (some (r, M1)) Rel G := fun r => wop_of rfl rfl k3.2.1 (fun j => by rw [k3.2.2]) k3.1
  rw [cl_0, show fLow 0 = (0 : Int32) from rfl]
  rcases in_cases x 0 2 (by omega) with ⟨q, g⟩ | ⟨q, g1, g2⟩
  · have q' : f_X9_in x 0 2 = 0 := q
    rw [q', if_pos rfl]
    rcases g with g | ⟨g1, g2⟩
    · rw [if_pos (show x < 0 from g)]
      exact bad
    · rw [if_neg (show ¬ x < 0 from g1), if_neg (show ¬ x ≤ 2 from Int32.not_le.mpr (show (2 : Int32) < x from g2))]
      exact bad
  · have q' : f_X9_in x 0 2 = 1 := q
    rw [q', if_neg d10, if_neg (show ¬ x < 0 from g1), if_pos (show x ≤ 2 from Int32.not_lt.mp (show ¬ (2 : Int32) < x from g2))]
    have e1 : f_X8_best_L27 x _ 5000 0 0 (-6) 0 G = _ := k1
    have e2 : f_X9_best_L24 x _ 5000 (-6) (-6) 0 0 (G 1) = _ := k2
    rw [e1, e2]
    by_cases x0 : x = 0
    · rw [if_pos x0, if_pos x0]; exact fin _
    · rw [if_neg x0, if_neg x0]
      by_cases x1 : x = 1
      · rw [if_pos x1, if_pos x1]; exact fin _
      · rw [if_neg x1, if_neg x1]; exact fin _
