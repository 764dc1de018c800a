/-! premises and what rules ask, in the class -/
def askL (r : Nat) : Nat := [0, 0, 2, 1, 1, 1, 1, 2, 1, 3, 2, 1, 0, 1, 2, 1].getD r 0
/-- what the constants hold: ASKED -/
def KA (P : sP) : Prop := P.2.2 0 < P.2.1 ∧ ∃ f : Nat → Int32, P.1 (P.2.2 0) = some (.inl (4, 16, .inl f)) ∧ ∀ j, j < 16 → f j = mI (askL j)
theorem askL_N {D r : Nat} (hr : r < 16) (h : r ≠ 12) : askL r = askN D r := by
  rcases (show r = 0 ∨ r = 1 ∨ r = 2 ∨ r = 3 ∨ r = 4 ∨ r = 5 ∨ r = 6 ∨ r = 7 ∨ r = 8 ∨ r = 9 ∨ r = 10 ∨ r = 11 ∨ r = 13 ∨ r = 14 ∨ r = 15 by omega) with rfl | rfl | rfl | rfl | rfl | rfl | rfl | rfl | rfl | rfl | rfl | rfl | rfl | rfl | rfl <;> rfl
section CH
variable {P : sP} {w : sW} {ex : Nat → Option sC} {n sl : Nat} {D F L U : Nat} {y : sLn} {φ nd : Nat → List Nat} {nf : Nat → Nat}
theorem c_asked {r : Nat} {x : Int32} (hA : KA P) (hC : CW w D F L U y φ nd nf) (hx : x = mI r) (hr : r < 16) : F_X0_asked (P.2.1 + 37) x (hp P w ex n sl) = some (mI (askN D r), hp P w ex n sl) := by
  subst hx
  obtain ⟨ha, f, hf, hv⟩ := hA
  have e12 : (mI r = 12) = (r = 12) := m_eqN (b := 12) (by omega) (by decide)
  have c0 : (hp P w ex n sl).1 (P.2.2 0) = some (.inl (4, 16, .inl f)) := by rw [hp_ro ha]; exact hf
  have e0 : (hp P w ex n sl).2.2.2 0 = P.2.2 0 := rfl
  have l0 : s_len (hp P w ex n sl) (P.2.2 0) = some (mI 16) := by
    unfold s_len
    rw [c0]
    rfl
  have a0 : s_ai (hp P w ex n sl) (P.2.2 0) (mI r) = some (mI (askL r)) := by
    unfold s_ai
    rw [c0]
    dsimp only
    rw [if_pos ⟨Or.inr rfl, mI_out hr (by decide)⟩, mI_nat (by omega), hv r hr]
  have g : ¬ mI 16 ≤ mI r := by rw [mI_le (by decide) (by omega)]; omega
  simp only [E_X0_asked, E_X0_asked_0, z_37, q_37_5, q_9_0, ob, e12, hC.2.2.2.2.1, mI_0 (show r < 2 ^ 31 by omega), if_false, e0, l0, g, a0]
  by_cases h : r = 12
  · rw [if_pos h, h]; rfl
  · rw [if_neg h, askL_N hr h]
theorem thOf_m1 {t : Option Nat} (h : ∀ u, t = some u → u < 2 ^ 31) : (thOf t = -1) = (t = none) := by
  cases t with
  | none => exact propext ⟨fun _ => rfl, fun _ => rfl⟩
  | some u => exact propext ⟨fun g => absurd g (mI_m1 (h u rfl)), fun g => by cases g⟩
theorem prem_ord {l : Nat} (ho : okLn F L y) (hl : l < L) : (prem y l 0 = none → prem y l 1 = none) ∧ (prem y l 1 = none → prem y l 2 = none) := by
  unfold prem
  by_cases g : y.2.2.1 l = 0
  · rw [if_pos g, if_pos g, if_pos g]; exact ⟨fun _ => rfl, fun _ => rfl⟩
  · rw [if_neg g, if_neg g, if_neg g]; exact ((ho l hl).2.2.2.2 g).2
theorem c_premisesOf {l : Nat} {x : Int32} (hC : CW w D F L U y φ nd nf) (hx : x = mI l) (hl : l < L) : F_X0_premisesOf (P.2.1 + 37) x (hp P w ex n sl) = some (mI (prems y l), hp P w ex n sl) := by
  have ho := hC.2.2.2.2.2.2.2.2.1
  have h40 := hC.2.2.2.1
  have hb : ∀ j, j < 3 → ∀ u, prem y l j = some u → u < 2 ^ 31 := fun j hj u hu => by have := prem_lt ho hl hj hu; omega
  have s1 : (0 : Int32) + 1 = 1 := rfl
  have s2 : (1 : Int32) + 1 = 2 := rfl
  have s3 : (2 : Int32) + 1 = 3 := rfl
  have o := prem_ord ho hl
  rw [E_X0_premisesOf, z_37, ob, E_X0_premisesOf_0, E_X0_premisesOf_4, if_neg (by decide), q_37_5, ob, c_premiseOf (v := 0) (j := 0) hC hx rfl hl (by decide), ob]
  simp only [thOf_m1 (hb 0 (by decide)), E_X0_premisesOf_25, s1]
  unfold prems
  have two : ∀ c : Int32, R_X0_premisesOf_4 (P.2.1 + 37) x c 2 (hp P w ex n sl) = some (if prem y l 2 = none then c else c + 1, hp P w ex n sl) := by
    intro c
    rw [E_X0_premisesOf_4, if_neg (by decide), q_37_5, ob, c_premiseOf (v := 2) (j := 2) hC hx rfl hl (by decide), ob]
    simp only [thOf_m1 (hb 2 (by decide)), E_X0_premisesOf_25, s3]
    by_cases h2 : prem y l 2 = none
    · rw [if_pos h2, if_pos h2, E_X0_premisesOf_4, if_pos (by decide)]
    · rw [if_neg h2, if_neg h2, E_X0_premisesOf_4, if_pos (by decide)]
  have one : ∀ c : Int32, R_X0_premisesOf_4 (P.2.1 + 37) x c 1 (hp P w ex n sl) = some (if prem y l 1 = none then c else if prem y l 2 = none then c + 1 else c + 1 + 1, hp P w ex n sl) := by
    intro c
    rw [E_X0_premisesOf_4, if_neg (by decide), q_37_5, ob, c_premiseOf (v := 1) (j := 1) hC hx rfl hl (by decide), ob]
    simp only [thOf_m1 (hb 1 (by decide)), E_X0_premisesOf_25, s2, two]
    by_cases h1 : prem y l 1 = none
    · rw [if_pos h1, if_pos h1, if_pos (o.2 h1)]
    · rw [if_neg h1, if_neg h1]
  simp only [one]
  by_cases h0 : prem y l 0 = none
  · rw [if_pos h0, if_pos h0, if_pos (o.1 h0)]; rfl
  · rw [if_neg h0, if_neg h0]
    by_cases h1 : prem y l 1 = none
    · rw [if_pos h1, if_pos h1]; rfl
    · rw [if_neg h1, if_neg h1]
      by_cases h2 : prem y l 2 = none
      · rw [if_pos h2, if_pos h2]; rfl
      · rw [if_neg h2, if_neg h2]; rfl
theorem c_areEach {l i : Nat} {r : List Nat} {x v : Int32} (hC : CW w D F L U y φ nd nf) (hx : x = mI l) (hv : v = mI i) (hl : l < L) (hi : i < U) (e : nd i = 16 :: r) (hq : ∀ t, t < D → ∃ q, prem y l t = some q) : F_X0_areEach (P.2.1 + 37) x v (hp P w ex n sl) = some (b2 (∀ t, t < D → r.map (ins (some t)) = pfm φ y l t), hp P w ex n sl) := by
  subst hv
  have hN := hC.2.2.2.2.2.2.2.2.2.1
  have hD := hC.2.2.2.2.1
  have hD3 := hC.2.1
  have ho := hC.2.2.2.2.2.2.2.2.1
  have step : ∀ (d k : Nat), k + d = D → R_X0_areEach_2 (P.2.1 + 37) x (mI i) (mI k) (hp P w ex n sl) = some (b2 (∀ t, k ≤ t → t < D → r.map (ins (some t)) = pfm φ y l t), hp P w ex n sl) := by
    intro d
    induction d with
    | zero =>
      intro k hk
      have hk : k = D := by omega
      subst hk
      rw [E_X0_areEach_2, q_37_5, ob, q_9_0, ob, hD, if_pos ((mI_le (by omega) (by omega)).mpr (Nat.le_refl _)), b2_t (fun t h1 h2 => by omega)]
    | succ d ih =>
      intro k hk
      have e3 : mI k + 1 = mI (k + 1) := mI_add k 1
      obtain ⟨q, eq⟩ := hq k (by omega)
      have hql := prem_lt ho hl (by omega) eq
      have hf := (ho q (by omega)).2.1
      have f3 := hC.2.2.2.2.2.2.2.2.2.2 _ hf
      have np := nd_part hN hi f3.1 hD3 (show k < D by omega) (Or.inl rfl : (5 : Nat) = 5 ∨ (5 : Nat) = 6) e
      have pk : pfm φ y l k = φ (y.2.1 q) := by simp only [pfm, eq]
      rw [f3.2.2] at np
      rw [E_X0_areEach_2, q_37_5, ob, q_9_0, ob, hD, if_neg (by rw [mI_le (by omega) (by omega)]; omega), ob, ob, c_premiseOf (v := mI k) (j := k) hC hx rfl hl (by omega), ob, eq, c_nodeOfLine (x := thOf (some q)) (l := q) hC rfl (by omega), ob, q_37_4, ob, c_placedOf (x := mI i) (v := mI k) hN rfl rfl hi (by omega), ob]
      simp only [e3]
      by_cases g : mI (nf (y.2.1 q)) = w.2.2.1 7 (i * 3 + k)
      · rw [if_pos g, ih (k + 1) (by omega)]
        exact congrArg (fun z => some (z, hp P w ex n sl)) (b2_congr ⟨fun z t h1 h2 => by
          by_cases e9 : t = k
          · subst e9; rw [pk]; exact np.mp g.symm
          · exact z t (by omega) h2, fun z t h1 h2 => z t (by omega) h2⟩)
      · have hz : b2 (∀ t, k ≤ t → t < D → r.map (ins (some t)) = pfm φ y l t) = 0 := b2_f (fun z => g (np.mpr (by rw [← pk]; exact z k (Nat.le_refl _) (by omega))).symm)
        rw [if_neg g, hz]
  rw [E_X0_areEach, z_37, ob, E_X0_areEach_0]
  have := step D 0 (by omega)
  rw [b2_congr (p := ∀ t, 0 ≤ t → t < D → r.map (ins (some t)) = pfm φ y l t) (q := ∀ t, t < D → r.map (ins (some t)) = pfm φ y l t) ⟨fun z t h => z t (Nat.zero_le _) h, fun z t _ h => z t h⟩] at this
  exact this
end CH
