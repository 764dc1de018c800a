/-! fits and isHonest of the class: the same proposition as the model's -/
section CFi
variable {P : sP} {w : sW} {ex : Nat → Option sC} {n sl : Nat} {D F L U : Nat} {y : sLn} {φ nd : Nat → List Nat} {nf : Nat → Nat}
theorem thOf_some {a : Nat} : thOf (some a) = mI a := rfl
theorem c_nodeP {l j : Nat} (hC : CW w D F L U y φ nd nf) (hl : l < L) (hj : j < 3) : F_X1_nodeOfLine (P.2.1 + 9) (thOf (prem y l j)) (hp P w ex n sl) = some (thOf ((prem y l j).map fun q => nf (y.2.1 q)), hp P w ex n sl) := by
  cases e : prem y l j with
  | none => exact c_nodeOfLineN hC
  | some q =>
    have := prem_lt hC.2.2.2.2.2.2.2.2.1 hl hj e
    exact c_nodeOfLine (x := thOf (some q)) hC rfl (by omega)
theorem c_fits_0 {l : Nat} {x : Int32} (hC : CW w D F L U y φ nd nf) (hx : x = mI l) (hl : l < L) (hr : y.2.2.1 l = 0) (hc : prems y l = 0) : F_X0_fits (P.2.1 + 37) x (mI 0) (hp P w ex n sl) = some (b2 (amP F φ (fun u => w.2.2.1 12 u) y l), hp P w ex n sl) := by
  have ho := hC.2.2.2.2.2.2.2.2.1
  have hN := hC.2.2.2.2.2.2.2.2.2.1
  have hD3 := hC.2.1
  have h1D := hC.1
  have h40 := hC.2.2.2.1
  have hU : U ≤ 2 ^ 17 := Nat.le_trans hN.2.1 hN.2.2.1
  have hf := (ho l hl).2.1
  have hS : ∀ q, q < l → nf (y.2.1 q) < U ∧ nd (nf (y.2.1 q)) = φ (y.2.1 q) := fun q hq => by
    have z := hC.2.2.2.2.2.2.2.2.2.2 _ (ho q (by omega)).2.1
    exact ⟨z.1, z.2.2⟩
  have s9 : nf (y.2.1 l) < U ∧ nd (nf (y.2.1 l)) = φ (y.2.1 l) := ⟨(hC.2.2.2.2.2.2.2.2.2.2 _ hf).1, (hC.2.2.2.2.2.2.2.2.2.2 _ hf).2.2⟩
  rw [E_X0_fits, z_37, ob, E_X0_fits_0, q_37_5, ob, c_nodeOfLine hC hx hl, ob, q_37_5, ob, c_premiseOf (v := 0) (j := 0) hC hx rfl hl (by decide), ob, q_37_5, ob, c_nodeP (j := 0) hC hl (by decide), ob, q_37_5, ob, ob, c_premiseOf (v := 1) (j := 1) hC hx rfl hl (by decide), ob, c_nodeP (j := 1) hC hl (by decide), ob]
  obtain ⟨⟨u, hu, eu⟩, -, -⟩ := (ho l hl).2.2.2.1 hr
  have a3 : w.2.2.1 17 (0 + 6 * l + 3) = mI u := by have := (hC.2.2.2.2.2.2.2.1 l hl).2.2.2 0 (by decide); rw [eu] at this; exact this
  rw [if_pos (show (mI 0 : Int32) = 0 from rfl)]
  simp only [amP, eu, Option.getD_some]
  simp only [q_37_5, c_line (v := 3) (j := 3) hC hx rfl hl (by decide), a3, ob, c_toldTo (x := mI u) rfl hu, c_isAmong (x := mI (nf (y.2.1 l))) hC rfl s9.1, s9.2]
  rw [if_pos b2_or]
theorem c_fits_1 {l : Nat} {x : Int32} (hC : CW w D F L U y φ nd nf) (hx : x = mI l) (hl : l < L) (hr : y.2.2.1 l = 1) (hc : prems y l = 0) : F_X0_fits (P.2.1 + 37) x (mI 1) (hp P w ex n sl) = some (b2 (True), hp P w ex n sl) := by
  have ho := hC.2.2.2.2.2.2.2.2.1
  have hN := hC.2.2.2.2.2.2.2.2.2.1
  have hD3 := hC.2.1
  have h1D := hC.1
  have h40 := hC.2.2.2.1
  have hU : U ≤ 2 ^ 17 := Nat.le_trans hN.2.1 hN.2.2.1
  have hf := (ho l hl).2.1
  have hS : ∀ q, q < l → nf (y.2.1 q) < U ∧ nd (nf (y.2.1 q)) = φ (y.2.1 q) := fun q hq => by
    have z := hC.2.2.2.2.2.2.2.2.2.2 _ (ho q (by omega)).2.1
    exact ⟨z.1, z.2.2⟩
  have s9 : nf (y.2.1 l) < U ∧ nd (nf (y.2.1 l)) = φ (y.2.1 l) := ⟨(hC.2.2.2.2.2.2.2.2.2.2 _ hf).1, (hC.2.2.2.2.2.2.2.2.2.2 _ hf).2.2⟩
  rw [E_X0_fits, z_37, ob, E_X0_fits_0, q_37_5, ob, c_nodeOfLine hC hx hl, ob, q_37_5, ob, c_premiseOf (v := 0) (j := 0) hC hx rfl hl (by decide), ob, q_37_5, ob, c_nodeP (j := 0) hC hl (by decide), ob, q_37_5, ob, ob, c_premiseOf (v := 1) (j := 1) hC hx rfl hl (by decide), ob, c_nodeP (j := 1) hC hl (by decide), ob]
  rw [if_neg (show ¬ (mI 1 : Int32) = 0 by decide), if_pos (show (mI 1 : Int32) = 1 from rfl)]
  exact congrArg (fun z => some (z, hp P w ex n sl)) (b2_t trivial).symm
theorem c_fits_2 {l : Nat} {x : Int32} (hC : CW w D F L U y φ nd nf) (hx : x = mI l) (hl : l < L) (hr : y.2.2.1 l = 2) (hc : prems y l = 2) : F_X0_fits (P.2.1 + 37) x (mI 2) (hp P w ex n sl) = some (b2 (isL 13 (φ (y.2.1 l)) (pfm φ y l 0) ∧ isR 13 (φ (y.2.1 l)) (pfm φ y l 1)), hp P w ex n sl) := by
  have ho := hC.2.2.2.2.2.2.2.2.1
  have hN := hC.2.2.2.2.2.2.2.2.2.1
  have hD3 := hC.2.1
  have h1D := hC.1
  have h40 := hC.2.2.2.1
  have hU : U ≤ 2 ^ 17 := Nat.le_trans hN.2.1 hN.2.2.1
  have hf := (ho l hl).2.1
  have hS : ∀ q, q < l → nf (y.2.1 q) < U ∧ nd (nf (y.2.1 q)) = φ (y.2.1 q) := fun q hq => by
    have z := hC.2.2.2.2.2.2.2.2.2.2 _ (ho q (by omega)).2.1
    exact ⟨z.1, z.2.2⟩
  have s9 : nf (y.2.1 l) < U ∧ nd (nf (y.2.1 l)) = φ (y.2.1 l) := ⟨(hC.2.2.2.2.2.2.2.2.2.2 _ hf).1, (hC.2.2.2.2.2.2.2.2.2.2 _ hf).2.2⟩
  rw [E_X0_fits, z_37, ob, E_X0_fits_0, q_37_5, ob, c_nodeOfLine hC hx hl, ob, q_37_5, ob, c_premiseOf (v := 0) (j := 0) hC hx rfl hl (by decide), ob, q_37_5, ob, c_nodeP (j := 0) hC hl (by decide), ob, q_37_5, ob, ob, c_premiseOf (v := 1) (j := 1) hC hx rfl hl (by decide), ob, c_nodeP (j := 1) hC hl (by decide), ob]
  obtain ⟨q0, e0⟩ := prems_1 (y := y) (l := l) (by omega)
  have k0 := hS q0 (prem_lt ho hl (by decide) e0)
  obtain ⟨q1, e1⟩ := prems_2 (y := y) (l := l) (by omega)
  have k1 := hS q1 (prem_lt ho hl (by decide) e1)
  rw [if_neg (show ¬ (mI 2 : Int32) = 0 by decide), if_neg (show ¬ (mI 2 : Int32) = 1 by decide), if_pos (show (mI 2 : Int32) = 2 from rfl)]
  simp only [pfm, asmP, othP, e0, e1, Option.map_some, thOf_some]
  rw [E_X0_fits_336, f_plain_2 (v := 0) hN s9.1 k0.1 k1.1, ob, if_pos b2_or]
  rw [s9.2, k0.2, k1.2]
theorem c_fits_3 {l : Nat} {x : Int32} (hC : CW w D F L U y φ nd nf) (hx : x = mI l) (hl : l < L) (hr : y.2.2.1 l = 3) (hc : prems y l = 1) : F_X0_fits (P.2.1 + 37) x (mI 3) (hp P w ex n sl) = some (b2 (isL 13 (pfm φ y l 0) (φ (y.2.1 l))), hp P w ex n sl) := by
  have ho := hC.2.2.2.2.2.2.2.2.1
  have hN := hC.2.2.2.2.2.2.2.2.2.1
  have hD3 := hC.2.1
  have h1D := hC.1
  have h40 := hC.2.2.2.1
  have hU : U ≤ 2 ^ 17 := Nat.le_trans hN.2.1 hN.2.2.1
  have hf := (ho l hl).2.1
  have hS : ∀ q, q < l → nf (y.2.1 q) < U ∧ nd (nf (y.2.1 q)) = φ (y.2.1 q) := fun q hq => by
    have z := hC.2.2.2.2.2.2.2.2.2.2 _ (ho q (by omega)).2.1
    exact ⟨z.1, z.2.2⟩
  have s9 : nf (y.2.1 l) < U ∧ nd (nf (y.2.1 l)) = φ (y.2.1 l) := ⟨(hC.2.2.2.2.2.2.2.2.2.2 _ hf).1, (hC.2.2.2.2.2.2.2.2.2.2 _ hf).2.2⟩
  rw [E_X0_fits, z_37, ob, E_X0_fits_0, q_37_5, ob, c_nodeOfLine hC hx hl, ob, q_37_5, ob, c_premiseOf (v := 0) (j := 0) hC hx rfl hl (by decide), ob, q_37_5, ob, c_nodeP (j := 0) hC hl (by decide), ob, q_37_5, ob, ob, c_premiseOf (v := 1) (j := 1) hC hx rfl hl (by decide), ob, c_nodeP (j := 1) hC hl (by decide), ob]
  obtain ⟨q0, e0⟩ := prems_1 (y := y) (l := l) (by omega)
  have k0 := hS q0 (prem_lt ho hl (by decide) e0)
  rw [if_neg (show ¬ (mI 3 : Int32) = 0 by decide), if_neg (show ¬ (mI 3 : Int32) = 1 by decide), if_neg (show ¬ (mI 3 : Int32) = 2 by decide), if_pos (show (mI 3 : Int32) = 3 from rfl)]
  simp only [pfm, asmP, othP, e0, Option.map_some, thOf_some]
  rw [E_X0_fits_336, f_plain_3 hN s9.1 k0.1, ob, if_pos b2_or]
  rw [s9.2, k0.2]
theorem c_fits_4 {l : Nat} {x : Int32} (hC : CW w D F L U y φ nd nf) (hx : x = mI l) (hl : l < L) (hr : y.2.2.1 l = 4) (hc : prems y l = 1) : F_X0_fits (P.2.1 + 37) x (mI 4) (hp P w ex n sl) = some (b2 (isR 13 (pfm φ y l 0) (φ (y.2.1 l))), hp P w ex n sl) := by
  have ho := hC.2.2.2.2.2.2.2.2.1
  have hN := hC.2.2.2.2.2.2.2.2.2.1
  have hD3 := hC.2.1
  have h1D := hC.1
  have h40 := hC.2.2.2.1
  have hU : U ≤ 2 ^ 17 := Nat.le_trans hN.2.1 hN.2.2.1
  have hf := (ho l hl).2.1
  have hS : ∀ q, q < l → nf (y.2.1 q) < U ∧ nd (nf (y.2.1 q)) = φ (y.2.1 q) := fun q hq => by
    have z := hC.2.2.2.2.2.2.2.2.2.2 _ (ho q (by omega)).2.1
    exact ⟨z.1, z.2.2⟩
  have s9 : nf (y.2.1 l) < U ∧ nd (nf (y.2.1 l)) = φ (y.2.1 l) := ⟨(hC.2.2.2.2.2.2.2.2.2.2 _ hf).1, (hC.2.2.2.2.2.2.2.2.2.2 _ hf).2.2⟩
  rw [E_X0_fits, z_37, ob, E_X0_fits_0, q_37_5, ob, c_nodeOfLine hC hx hl, ob, q_37_5, ob, c_premiseOf (v := 0) (j := 0) hC hx rfl hl (by decide), ob, q_37_5, ob, c_nodeP (j := 0) hC hl (by decide), ob, q_37_5, ob, ob, c_premiseOf (v := 1) (j := 1) hC hx rfl hl (by decide), ob, c_nodeP (j := 1) hC hl (by decide), ob]
  obtain ⟨q0, e0⟩ := prems_1 (y := y) (l := l) (by omega)
  have k0 := hS q0 (prem_lt ho hl (by decide) e0)
  rw [if_neg (show ¬ (mI 4 : Int32) = 0 by decide), if_neg (show ¬ (mI 4 : Int32) = 1 by decide), if_neg (show ¬ (mI 4 : Int32) = 2 by decide), if_neg (show ¬ (mI 4 : Int32) = 3 by decide), if_pos (show (mI 4 : Int32) = 4 from rfl)]
  simp only [pfm, asmP, othP, e0, Option.map_some, thOf_some]
  rw [E_X0_fits_336, f_plain_4 hN s9.1 k0.1, ob, if_pos b2_or]
  rw [s9.2, k0.2]
theorem c_fits_5 {l : Nat} {x : Int32} (hC : CW w D F L U y φ nd nf) (hx : x = mI l) (hl : l < L) (hr : y.2.2.1 l = 5) (hc : prems y l = 1) : F_X0_fits (P.2.1 + 37) x (mI 5) (hp P w ex n sl) = some (b2 (isL 14 (φ (y.2.1 l)) (pfm φ y l 0)), hp P w ex n sl) := by
  have ho := hC.2.2.2.2.2.2.2.2.1
  have hN := hC.2.2.2.2.2.2.2.2.2.1
  have hD3 := hC.2.1
  have h1D := hC.1
  have h40 := hC.2.2.2.1
  have hU : U ≤ 2 ^ 17 := Nat.le_trans hN.2.1 hN.2.2.1
  have hf := (ho l hl).2.1
  have hS : ∀ q, q < l → nf (y.2.1 q) < U ∧ nd (nf (y.2.1 q)) = φ (y.2.1 q) := fun q hq => by
    have z := hC.2.2.2.2.2.2.2.2.2.2 _ (ho q (by omega)).2.1
    exact ⟨z.1, z.2.2⟩
  have s9 : nf (y.2.1 l) < U ∧ nd (nf (y.2.1 l)) = φ (y.2.1 l) := ⟨(hC.2.2.2.2.2.2.2.2.2.2 _ hf).1, (hC.2.2.2.2.2.2.2.2.2.2 _ hf).2.2⟩
  rw [E_X0_fits, z_37, ob, E_X0_fits_0, q_37_5, ob, c_nodeOfLine hC hx hl, ob, q_37_5, ob, c_premiseOf (v := 0) (j := 0) hC hx rfl hl (by decide), ob, q_37_5, ob, c_nodeP (j := 0) hC hl (by decide), ob, q_37_5, ob, ob, c_premiseOf (v := 1) (j := 1) hC hx rfl hl (by decide), ob, c_nodeP (j := 1) hC hl (by decide), ob]
  obtain ⟨q0, e0⟩ := prems_1 (y := y) (l := l) (by omega)
  have k0 := hS q0 (prem_lt ho hl (by decide) e0)
  rw [if_neg (show ¬ (mI 5 : Int32) = 0 by decide), if_neg (show ¬ (mI 5 : Int32) = 1 by decide), if_neg (show ¬ (mI 5 : Int32) = 2 by decide), if_neg (show ¬ (mI 5 : Int32) = 3 by decide), if_neg (show ¬ (mI 5 : Int32) = 4 by decide), if_pos (show (mI 5 : Int32) = 5 from rfl)]
  simp only [pfm, asmP, othP, e0, Option.map_some, thOf_some]
  rw [E_X0_fits_336, f_plain_5 hN s9.1 k0.1, ob, if_pos b2_or]
  rw [s9.2, k0.2]
theorem c_fits_6 {l : Nat} {x : Int32} (hC : CW w D F L U y φ nd nf) (hx : x = mI l) (hl : l < L) (hr : y.2.2.1 l = 6) (hc : prems y l = 1) : F_X0_fits (P.2.1 + 37) x (mI 6) (hp P w ex n sl) = some (b2 (isR 14 (φ (y.2.1 l)) (pfm φ y l 0)), hp P w ex n sl) := by
  have ho := hC.2.2.2.2.2.2.2.2.1
  have hN := hC.2.2.2.2.2.2.2.2.2.1
  have hD3 := hC.2.1
  have h1D := hC.1
  have h40 := hC.2.2.2.1
  have hU : U ≤ 2 ^ 17 := Nat.le_trans hN.2.1 hN.2.2.1
  have hf := (ho l hl).2.1
  have hS : ∀ q, q < l → nf (y.2.1 q) < U ∧ nd (nf (y.2.1 q)) = φ (y.2.1 q) := fun q hq => by
    have z := hC.2.2.2.2.2.2.2.2.2.2 _ (ho q (by omega)).2.1
    exact ⟨z.1, z.2.2⟩
  have s9 : nf (y.2.1 l) < U ∧ nd (nf (y.2.1 l)) = φ (y.2.1 l) := ⟨(hC.2.2.2.2.2.2.2.2.2.2 _ hf).1, (hC.2.2.2.2.2.2.2.2.2.2 _ hf).2.2⟩
  rw [E_X0_fits, z_37, ob, E_X0_fits_0, q_37_5, ob, c_nodeOfLine hC hx hl, ob, q_37_5, ob, c_premiseOf (v := 0) (j := 0) hC hx rfl hl (by decide), ob, q_37_5, ob, c_nodeP (j := 0) hC hl (by decide), ob, q_37_5, ob, ob, c_premiseOf (v := 1) (j := 1) hC hx rfl hl (by decide), ob, c_nodeP (j := 1) hC hl (by decide), ob]
  obtain ⟨q0, e0⟩ := prems_1 (y := y) (l := l) (by omega)
  have k0 := hS q0 (prem_lt ho hl (by decide) e0)
  rw [if_neg (show ¬ (mI 6 : Int32) = 0 by decide), if_neg (show ¬ (mI 6 : Int32) = 1 by decide), if_neg (show ¬ (mI 6 : Int32) = 2 by decide), if_neg (show ¬ (mI 6 : Int32) = 3 by decide), if_neg (show ¬ (mI 6 : Int32) = 4 by decide), if_neg (show ¬ (mI 6 : Int32) = 5 by decide), if_pos (show (mI 6 : Int32) = 6 from rfl)]
  simp only [pfm, asmP, othP, e0, Option.map_some, thOf_some]
  rw [E_X0_fits_336, f_plain_6 hN s9.1 k0.1, ob, if_pos b2_or]
  rw [s9.2, k0.2]
theorem c_fits_7 {l : Nat} {x : Int32} (hC : CW w D F L U y φ nd nf) (hx : x = mI l) (hl : l < L) (hr : y.2.2.1 l = 7) (hc : prems y l = 2) : F_X0_fits (P.2.1 + 37) x (mI 7) (hp P w ex n sl) = some (b2 (isL 15 (pfm φ y l 1) (pfm φ y l 0) ∧ isR 15 (pfm φ y l 1) (φ (y.2.1 l))), hp P w ex n sl) := by
  have ho := hC.2.2.2.2.2.2.2.2.1
  have hN := hC.2.2.2.2.2.2.2.2.2.1
  have hD3 := hC.2.1
  have h1D := hC.1
  have h40 := hC.2.2.2.1
  have hU : U ≤ 2 ^ 17 := Nat.le_trans hN.2.1 hN.2.2.1
  have hf := (ho l hl).2.1
  have hS : ∀ q, q < l → nf (y.2.1 q) < U ∧ nd (nf (y.2.1 q)) = φ (y.2.1 q) := fun q hq => by
    have z := hC.2.2.2.2.2.2.2.2.2.2 _ (ho q (by omega)).2.1
    exact ⟨z.1, z.2.2⟩
  have s9 : nf (y.2.1 l) < U ∧ nd (nf (y.2.1 l)) = φ (y.2.1 l) := ⟨(hC.2.2.2.2.2.2.2.2.2.2 _ hf).1, (hC.2.2.2.2.2.2.2.2.2.2 _ hf).2.2⟩
  rw [E_X0_fits, z_37, ob, E_X0_fits_0, q_37_5, ob, c_nodeOfLine hC hx hl, ob, q_37_5, ob, c_premiseOf (v := 0) (j := 0) hC hx rfl hl (by decide), ob, q_37_5, ob, c_nodeP (j := 0) hC hl (by decide), ob, q_37_5, ob, ob, c_premiseOf (v := 1) (j := 1) hC hx rfl hl (by decide), ob, c_nodeP (j := 1) hC hl (by decide), ob]
  obtain ⟨q0, e0⟩ := prems_1 (y := y) (l := l) (by omega)
  have k0 := hS q0 (prem_lt ho hl (by decide) e0)
  obtain ⟨q1, e1⟩ := prems_2 (y := y) (l := l) (by omega)
  have k1 := hS q1 (prem_lt ho hl (by decide) e1)
  rw [if_neg (show ¬ (mI 7 : Int32) = 0 by decide), if_neg (show ¬ (mI 7 : Int32) = 1 by decide), if_neg (show ¬ (mI 7 : Int32) = 2 by decide), if_neg (show ¬ (mI 7 : Int32) = 3 by decide), if_neg (show ¬ (mI 7 : Int32) = 4 by decide), if_neg (show ¬ (mI 7 : Int32) = 5 by decide), if_neg (show ¬ (mI 7 : Int32) = 6 by decide), if_pos (show (mI 7 : Int32) = 7 from rfl)]
  simp only [pfm, asmP, othP, e0, e1, Option.map_some, thOf_some]
  rw [E_X0_fits_336, f_plain_7 (v := 0) hN s9.1 k0.1 k1.1, ob, if_pos b2_or]
  rw [s9.2, k0.2, k1.2]
theorem c_fits_8 {l : Nat} {x : Int32} (hC : CW w D F L U y φ nd nf) (hx : x = mI l) (hl : l < L) (hr : y.2.2.1 l = 8) (hc : prems y l = 1) : F_X0_fits (P.2.1 + 37) x (mI 8) (hp P w ex n sl) = some (b2 (pfm φ y l 0 = 12 :: 12 :: φ (y.2.1 l)), hp P w ex n sl) := by
  have ho := hC.2.2.2.2.2.2.2.2.1
  have hN := hC.2.2.2.2.2.2.2.2.2.1
  have hD3 := hC.2.1
  have h1D := hC.1
  have h40 := hC.2.2.2.1
  have hU : U ≤ 2 ^ 17 := Nat.le_trans hN.2.1 hN.2.2.1
  have hf := (ho l hl).2.1
  have hS : ∀ q, q < l → nf (y.2.1 q) < U ∧ nd (nf (y.2.1 q)) = φ (y.2.1 q) := fun q hq => by
    have z := hC.2.2.2.2.2.2.2.2.2.2 _ (ho q (by omega)).2.1
    exact ⟨z.1, z.2.2⟩
  have s9 : nf (y.2.1 l) < U ∧ nd (nf (y.2.1 l)) = φ (y.2.1 l) := ⟨(hC.2.2.2.2.2.2.2.2.2.2 _ hf).1, (hC.2.2.2.2.2.2.2.2.2.2 _ hf).2.2⟩
  rw [E_X0_fits, z_37, ob, E_X0_fits_0, q_37_5, ob, c_nodeOfLine hC hx hl, ob, q_37_5, ob, c_premiseOf (v := 0) (j := 0) hC hx rfl hl (by decide), ob, q_37_5, ob, c_nodeP (j := 0) hC hl (by decide), ob, q_37_5, ob, ob, c_premiseOf (v := 1) (j := 1) hC hx rfl hl (by decide), ob, c_nodeP (j := 1) hC hl (by decide), ob]
  obtain ⟨q0, e0⟩ := prems_1 (y := y) (l := l) (by omega)
  have k0 := hS q0 (prem_lt ho hl (by decide) e0)
  rw [if_neg (show ¬ (mI 8 : Int32) = 0 by decide), if_neg (show ¬ (mI 8 : Int32) = 1 by decide), if_neg (show ¬ (mI 8 : Int32) = 2 by decide), if_neg (show ¬ (mI 8 : Int32) = 3 by decide), if_neg (show ¬ (mI 8 : Int32) = 4 by decide), if_neg (show ¬ (mI 8 : Int32) = 5 by decide), if_neg (show ¬ (mI 8 : Int32) = 6 by decide), if_neg (show ¬ (mI 8 : Int32) = 7 by decide), if_pos (show (mI 8 : Int32) = 8 from rfl)]
  simp only [pfm, asmP, othP, e0, Option.map_some, thOf_some]
  rw [E_X0_fits_336, f_plain_8 hN s9.1 k0.1, ob, if_pos b2_or]
  rw [s9.2, k0.2]
theorem c_fits_9 {l : Nat} {x : Int32} (hC : CW w D F L U y φ nd nf) (hx : x = mI l) (hl : l < L) (hr : y.2.2.1 l = 9) (hc : prems y l = 3) : F_X0_fits (P.2.1 + 37) x (mI 9) (hp P w ex n sl) = some (b2 (casesP (pfm φ y l 0) (pfm φ y l 1) (pfm φ y l 2) (φ (y.2.1 l))), hp P w ex n sl) := by
  have ho := hC.2.2.2.2.2.2.2.2.1
  have hN := hC.2.2.2.2.2.2.2.2.2.1
  have hD3 := hC.2.1
  have h1D := hC.1
  have h40 := hC.2.2.2.1
  have hU : U ≤ 2 ^ 17 := Nat.le_trans hN.2.1 hN.2.2.1
  have hf := (ho l hl).2.1
  have hS : ∀ q, q < l → nf (y.2.1 q) < U ∧ nd (nf (y.2.1 q)) = φ (y.2.1 q) := fun q hq => by
    have z := hC.2.2.2.2.2.2.2.2.2.2 _ (ho q (by omega)).2.1
    exact ⟨z.1, z.2.2⟩
  have s9 : nf (y.2.1 l) < U ∧ nd (nf (y.2.1 l)) = φ (y.2.1 l) := ⟨(hC.2.2.2.2.2.2.2.2.2.2 _ hf).1, (hC.2.2.2.2.2.2.2.2.2.2 _ hf).2.2⟩
  rw [E_X0_fits, z_37, ob, E_X0_fits_0, q_37_5, ob, c_nodeOfLine hC hx hl, ob, q_37_5, ob, c_premiseOf (v := 0) (j := 0) hC hx rfl hl (by decide), ob, q_37_5, ob, c_nodeP (j := 0) hC hl (by decide), ob, q_37_5, ob, ob, c_premiseOf (v := 1) (j := 1) hC hx rfl hl (by decide), ob, c_nodeP (j := 1) hC hl (by decide), ob]
  obtain ⟨q0, e0⟩ := prems_1 (y := y) (l := l) (by omega)
  have k0 := hS q0 (prem_lt ho hl (by decide) e0)
  obtain ⟨q1, e1⟩ := prems_2 (y := y) (l := l) (by omega)
  have k1 := hS q1 (prem_lt ho hl (by decide) e1)
  obtain ⟨q2, e2⟩ := prems_3 (y := y) (l := l) (by omega)
  have k2 := hS q2 (prem_lt ho hl (by decide) e2)
  rw [if_neg (show ¬ (mI 9 : Int32) = 0 by decide), if_neg (show ¬ (mI 9 : Int32) = 1 by decide), if_neg (show ¬ (mI 9 : Int32) = 2 by decide), if_neg (show ¬ (mI 9 : Int32) = 3 by decide), if_neg (show ¬ (mI 9 : Int32) = 4 by decide), if_neg (show ¬ (mI 9 : Int32) = 5 by decide), if_neg (show ¬ (mI 9 : Int32) = 6 by decide), if_neg (show ¬ (mI 9 : Int32) = 7 by decide), if_neg (show ¬ (mI 9 : Int32) = 8 by decide), if_pos (show (mI 9 : Int32) = 9 from rfl)]
  simp only [pfm, asmP, othP, e0, e1, e2, Option.map_some, thOf_some]
  simp only [q_37_5, c_premiseOf (v := 2) (j := 2) hC hx rfl hl (by decide), e2, thOf_some, ob, c_nodeOfLine (x := mI q2) (l := q2) hC rfl (show q2 < L by have := prem_lt ho hl (show 2 < 3 by decide) e2; omega)]
  rw [c_fitsCases hN k0.1 k1.1 k2.1 s9.1, ob, if_pos b2_or, s9.2, k0.2, k1.2, k2.2]
theorem c_fits_10 {l : Nat} {x : Int32} (hC : CW w D F L U y φ nd nf) (hx : x = mI l) (hl : l < L) (hr : y.2.2.1 l = 10) (hc : prems y l = 2) : F_X0_fits (P.2.1 + 37) x (mI 10) (hp P w ex n sl) = some (b2 (asmP y l ∧ isL 15 (φ (y.2.1 l)) (pfm φ y l 0) ∧ isR 15 (φ (y.2.1 l)) (pfm φ y l 1)), hp P w ex n sl) := by
  have ho := hC.2.2.2.2.2.2.2.2.1
  have hN := hC.2.2.2.2.2.2.2.2.2.1
  have hD3 := hC.2.1
  have h1D := hC.1
  have h40 := hC.2.2.2.1
  have hU : U ≤ 2 ^ 17 := Nat.le_trans hN.2.1 hN.2.2.1
  have hf := (ho l hl).2.1
  have hS : ∀ q, q < l → nf (y.2.1 q) < U ∧ nd (nf (y.2.1 q)) = φ (y.2.1 q) := fun q hq => by
    have z := hC.2.2.2.2.2.2.2.2.2.2 _ (ho q (by omega)).2.1
    exact ⟨z.1, z.2.2⟩
  have s9 : nf (y.2.1 l) < U ∧ nd (nf (y.2.1 l)) = φ (y.2.1 l) := ⟨(hC.2.2.2.2.2.2.2.2.2.2 _ hf).1, (hC.2.2.2.2.2.2.2.2.2.2 _ hf).2.2⟩
  rw [E_X0_fits, z_37, ob, E_X0_fits_0, q_37_5, ob, c_nodeOfLine hC hx hl, ob, q_37_5, ob, c_premiseOf (v := 0) (j := 0) hC hx rfl hl (by decide), ob, q_37_5, ob, c_nodeP (j := 0) hC hl (by decide), ob, q_37_5, ob, ob, c_premiseOf (v := 1) (j := 1) hC hx rfl hl (by decide), ob, c_nodeP (j := 1) hC hl (by decide), ob]
  obtain ⟨q0, e0⟩ := prems_1 (y := y) (l := l) (by omega)
  have k0 := hS q0 (prem_lt ho hl (by decide) e0)
  obtain ⟨q1, e1⟩ := prems_2 (y := y) (l := l) (by omega)
  have k1 := hS q1 (prem_lt ho hl (by decide) e1)
  rw [if_neg (show ¬ (mI 10 : Int32) = 0 by decide), if_neg (show ¬ (mI 10 : Int32) = 1 by decide), if_neg (show ¬ (mI 10 : Int32) = 2 by decide), if_neg (show ¬ (mI 10 : Int32) = 3 by decide), if_neg (show ¬ (mI 10 : Int32) = 4 by decide), if_neg (show ¬ (mI 10 : Int32) = 5 by decide), if_neg (show ¬ (mI 10 : Int32) = 6 by decide), if_neg (show ¬ (mI 10 : Int32) = 7 by decide), if_neg (show ¬ (mI 10 : Int32) = 8 by decide), if_neg (show ¬ (mI 10 : Int32) = 9 by decide), if_pos (show (mI 10 : Int32) = 10 from rfl)]
  simp only [pfm, asmP, othP, e0, e1, Option.map_some, thOf_some]
  have hr0 := (ho q0 (by have := prem_lt ho hl (show 0 < 3 by decide) e0; omega)).2.2.1
  have e1q : (mI (y.2.2.1 q0) = 1) = (y.2.2.1 q0 = 1) := m_eqN (b := 1) (by omega) (by decide)
  simp only [q_37_5, c_rule (x := mI q0) (l := q0) hC rfl (show q0 < L by have := prem_lt ho hl (show 0 < 3 by decide) e0; omega), ob, e1q, q_37_4, c_isMade (x := mI (nf (y.2.1 l))) hN rfl s9.1, m_bool]
  have z := ((nd_two hN (i := nf (y.2.1 l)) (a := nf (y.2.1 q0)) (b := nf (y.2.1 q1)) (k := 4) s9.1 k0.1 k1.1 (by omega)).trans (isLR (nd_wff hN _ k0.1) (nd_wff hN _ k1.1)).symm)
  rw [s9.2, k0.2, k1.2] at z
  by_cases g : y.2.2.1 q0 = 1
  · rw [if_pos g]
    exact congrArg (fun z => some (z, hp P w ex n sl)) (b2_congr (z.trans ⟨fun m => ⟨g, m⟩, fun m => m.2⟩))
  · rw [if_neg g]
    exact congrArg (fun z => some (z, hp P w ex n sl)) (b2_f (fun m : _ ∧ _ => g m.1)).symm
theorem c_fits_11 {l : Nat} {x : Int32} (hC : CW w D F L U y φ nd nf) (hx : x = mI l) (hl : l < L) (hr : y.2.2.1 l = 11) (hc : prems y l = 1) : F_X0_fits (P.2.1 + 37) x (mI 11) (hp P w ex n sl) = some (b2 (∃ t, t < D ∧ ∃ r, pfm φ y l 0 = 16 :: r ∧ r.map (ins (some t)) = φ (y.2.1 l)), hp P w ex n sl) := by
  have ho := hC.2.2.2.2.2.2.2.2.1
  have hN := hC.2.2.2.2.2.2.2.2.2.1
  have hD3 := hC.2.1
  have h1D := hC.1
  have h40 := hC.2.2.2.1
  have hU : U ≤ 2 ^ 17 := Nat.le_trans hN.2.1 hN.2.2.1
  have hf := (ho l hl).2.1
  have hS : ∀ q, q < l → nf (y.2.1 q) < U ∧ nd (nf (y.2.1 q)) = φ (y.2.1 q) := fun q hq => by
    have z := hC.2.2.2.2.2.2.2.2.2.2 _ (ho q (by omega)).2.1
    exact ⟨z.1, z.2.2⟩
  have s9 : nf (y.2.1 l) < U ∧ nd (nf (y.2.1 l)) = φ (y.2.1 l) := ⟨(hC.2.2.2.2.2.2.2.2.2.2 _ hf).1, (hC.2.2.2.2.2.2.2.2.2.2 _ hf).2.2⟩
  rw [E_X0_fits, z_37, ob, E_X0_fits_0, q_37_5, ob, c_nodeOfLine hC hx hl, ob, q_37_5, ob, c_premiseOf (v := 0) (j := 0) hC hx rfl hl (by decide), ob, q_37_5, ob, c_nodeP (j := 0) hC hl (by decide), ob, q_37_5, ob, ob, c_premiseOf (v := 1) (j := 1) hC hx rfl hl (by decide), ob, c_nodeP (j := 1) hC hl (by decide), ob]
  obtain ⟨q0, e0⟩ := prems_1 (y := y) (l := l) (by omega)
  have k0 := hS q0 (prem_lt ho hl (by decide) e0)
  rw [if_neg (show ¬ (mI 11 : Int32) = 0 by decide), if_neg (show ¬ (mI 11 : Int32) = 1 by decide), if_neg (show ¬ (mI 11 : Int32) = 2 by decide), if_neg (show ¬ (mI 11 : Int32) = 3 by decide), if_neg (show ¬ (mI 11 : Int32) = 4 by decide), if_neg (show ¬ (mI 11 : Int32) = 5 by decide), if_neg (show ¬ (mI 11 : Int32) = 6 by decide), if_neg (show ¬ (mI 11 : Int32) = 7 by decide), if_neg (show ¬ (mI 11 : Int32) = 8 by decide), if_neg (show ¬ (mI 11 : Int32) = 9 by decide), if_neg (show ¬ (mI 11 : Int32) = 10 by decide), if_pos (show (mI 11 : Int32) = 11 from rfl)]
  simp only [pfm, asmP, othP, e0, Option.map_some, thOf_some]
  simp only [q_37_4, ob, c_kindOf (x := mI (nf (y.2.1 q0))) hN rfl k0.1]
  have zb := nd_bind hN (i := nf (y.2.1 q0)) (k := 5) k0.1 (by omega)
  by_cases g : w.2.2.1 2 (nf (y.2.1 q0)) = 5
  · obtain ⟨r, er⟩ := zb.mp g
    rw [if_pos g, c_isPlaced (x := mI (nf (y.2.1 q0))) (v := mI (nf (y.2.1 l))) (k := 5) (r := r) hC rfl rfl k0.1 s9.1 (by omega) er, ob, m_bool]
    rw [s9.2]
    rw [k0.2] at er
    refine congrArg (fun z => some (z, hp P w ex n sl)) (b2_congr ⟨fun ⟨t, h1, h2⟩ => ⟨t, h1, r, er, h2⟩, fun ⟨t, h1, r', e9, h2⟩ => ⟨t, h1, ?_⟩⟩)
    rw [er] at e9
    rw [(List.cons.inj e9).2]
    exact h2
  · rw [if_neg g]
    refine congrArg (fun z => some (z, hp P w ex n sl)) (b2_f ?_).symm
    rintro ⟨t, h1, r, e9, h2⟩
    exact g (zb.mpr ⟨r, by rw [k0.2]; exact e9⟩)
theorem c_fits_12 {l : Nat} {x : Int32} (hC : CW w D F L U y φ nd nf) (hx : x = mI l) (hl : l < L) (hr : y.2.2.1 l = 12) (hc : prems y l = D) : F_X0_fits (P.2.1 + 37) x (mI 12) (hp P w ex n sl) = some (b2 (ofP (φ (y.2.1 l)) (pfm φ y l 0) 0 ∧ (D < 2 ∨ ofP (φ (y.2.1 l)) (pfm φ y l 1) 1) ∧ (D < 3 ∨ ofP (φ (y.2.1 l)) (pfm φ y l 2) 2)), hp P w ex n sl) := by
  have ho := hC.2.2.2.2.2.2.2.2.1
  have hN := hC.2.2.2.2.2.2.2.2.2.1
  have hD3 := hC.2.1
  have h1D := hC.1
  have h40 := hC.2.2.2.1
  have hU : U ≤ 2 ^ 17 := Nat.le_trans hN.2.1 hN.2.2.1
  have hf := (ho l hl).2.1
  have hS : ∀ q, q < l → nf (y.2.1 q) < U ∧ nd (nf (y.2.1 q)) = φ (y.2.1 q) := fun q hq => by
    have z := hC.2.2.2.2.2.2.2.2.2.2 _ (ho q (by omega)).2.1
    exact ⟨z.1, z.2.2⟩
  have s9 : nf (y.2.1 l) < U ∧ nd (nf (y.2.1 l)) = φ (y.2.1 l) := ⟨(hC.2.2.2.2.2.2.2.2.2.2 _ hf).1, (hC.2.2.2.2.2.2.2.2.2.2 _ hf).2.2⟩
  rw [E_X0_fits, z_37, ob, E_X0_fits_0, q_37_5, ob, c_nodeOfLine hC hx hl, ob, q_37_5, ob, c_premiseOf (v := 0) (j := 0) hC hx rfl hl (by decide), ob, q_37_5, ob, c_nodeP (j := 0) hC hl (by decide), ob, q_37_5, ob, ob, c_premiseOf (v := 1) (j := 1) hC hx rfl hl (by decide), ob, c_nodeP (j := 1) hC hl (by decide), ob]
  rw [if_neg (show ¬ (mI 12 : Int32) = 0 by decide), if_neg (show ¬ (mI 12 : Int32) = 1 by decide), if_neg (show ¬ (mI 12 : Int32) = 2 by decide), if_neg (show ¬ (mI 12 : Int32) = 3 by decide), if_neg (show ¬ (mI 12 : Int32) = 4 by decide), if_neg (show ¬ (mI 12 : Int32) = 5 by decide), if_neg (show ¬ (mI 12 : Int32) = 6 by decide), if_neg (show ¬ (mI 12 : Int32) = 7 by decide), if_neg (show ¬ (mI 12 : Int32) = 8 by decide), if_neg (show ¬ (mI 12 : Int32) = 9 by decide), if_neg (show ¬ (mI 12 : Int32) = 10 by decide), if_neg (show ¬ (mI 12 : Int32) = 11 by decide), if_pos (show (mI 12 : Int32) = 12 from rfl)]
  simp only [q_37_4, ob, c_kindOf (x := mI (nf (y.2.1 l))) hN rfl s9.1]
  have zb := nd_bind hN (i := nf (y.2.1 l)) (k := 5) s9.1 (by omega)
  have hq : ∀ t, t < D → ∃ q, prem y l t = some q := fun t ht => by
      rcases (show t = 0 ∨ t = 1 ∨ t = 2 by omega) with rfl | rfl | rfl
      · exact prems_1 (by omega)
      · exact prems_2 (by omega)
      · exact prems_3 (by omega)
  by_cases g : w.2.2.1 2 (nf (y.2.1 l)) = 5
  · obtain ⟨r, er⟩ := zb.mp g
    rw [if_pos g, c_areEach (v := mI (nf (y.2.1 l))) (r := r) hC hx rfl hl s9.1 er hq, ob, m_bool]
    rw [s9.2] at er
    have o : ∀ a t, ofP (φ (y.2.1 l)) a t ↔ r.map (ins (some t)) = a := fun a t => ⟨fun ⟨r', e9, h2⟩ => by rw [er] at e9; rw [(List.cons.inj e9).2]; exact h2, fun h2 => ⟨r, er, h2⟩⟩
    refine congrArg (fun z => some (z, hp P w ex n sl)) (b2_congr ⟨fun z => ⟨(o _ _).mpr (z 0 (by omega)), ?_, ?_⟩, fun z t ht => ?_⟩)
    · by_cases d : D < 2
      · exact Or.inl d
      · exact Or.inr ((o _ _).mpr (z 1 (by omega)))
    · by_cases d : D < 3
      · exact Or.inl d
      · exact Or.inr ((o _ _).mpr (z 2 (by omega)))
    · rcases (show t = 0 ∨ t = 1 ∨ t = 2 by omega) with rfl | rfl | rfl
      · exact (o _ _).mp z.1
      · exact (o _ _).mp (z.2.1.resolve_left (by omega))
      · exact (o _ _).mp (z.2.2.resolve_left (by omega))
  · rw [if_neg g]
    refine congrArg (fun z => some (z, hp P w ex n sl)) (b2_f ?_).symm
    rintro ⟨⟨r, e9, h2⟩, -⟩
    exact g (zb.mpr ⟨r, by rw [s9.2]; exact e9⟩)
theorem c_fits_13 {l : Nat} {x : Int32} (hC : CW w D F L U y φ nd nf) (hx : x = mI l) (hl : l < L) (hr : y.2.2.1 l = 13) (hc : prems y l = 1) : F_X0_fits (P.2.1 + 37) x (mI 13) (hp P w ex n sl) = some (b2 (∃ t, t < D ∧ ∃ r, φ (y.2.1 l) = 17 :: r ∧ r.map (ins (some t)) = pfm φ y l 0), hp P w ex n sl) := by
  have ho := hC.2.2.2.2.2.2.2.2.1
  have hN := hC.2.2.2.2.2.2.2.2.2.1
  have hD3 := hC.2.1
  have h1D := hC.1
  have h40 := hC.2.2.2.1
  have hU : U ≤ 2 ^ 17 := Nat.le_trans hN.2.1 hN.2.2.1
  have hf := (ho l hl).2.1
  have hS : ∀ q, q < l → nf (y.2.1 q) < U ∧ nd (nf (y.2.1 q)) = φ (y.2.1 q) := fun q hq => by
    have z := hC.2.2.2.2.2.2.2.2.2.2 _ (ho q (by omega)).2.1
    exact ⟨z.1, z.2.2⟩
  have s9 : nf (y.2.1 l) < U ∧ nd (nf (y.2.1 l)) = φ (y.2.1 l) := ⟨(hC.2.2.2.2.2.2.2.2.2.2 _ hf).1, (hC.2.2.2.2.2.2.2.2.2.2 _ hf).2.2⟩
  rw [E_X0_fits, z_37, ob, E_X0_fits_0, q_37_5, ob, c_nodeOfLine hC hx hl, ob, q_37_5, ob, c_premiseOf (v := 0) (j := 0) hC hx rfl hl (by decide), ob, q_37_5, ob, c_nodeP (j := 0) hC hl (by decide), ob, q_37_5, ob, ob, c_premiseOf (v := 1) (j := 1) hC hx rfl hl (by decide), ob, c_nodeP (j := 1) hC hl (by decide), ob]
  obtain ⟨q0, e0⟩ := prems_1 (y := y) (l := l) (by omega)
  have k0 := hS q0 (prem_lt ho hl (by decide) e0)
  rw [if_neg (show ¬ (mI 13 : Int32) = 0 by decide), if_neg (show ¬ (mI 13 : Int32) = 1 by decide), if_neg (show ¬ (mI 13 : Int32) = 2 by decide), if_neg (show ¬ (mI 13 : Int32) = 3 by decide), if_neg (show ¬ (mI 13 : Int32) = 4 by decide), if_neg (show ¬ (mI 13 : Int32) = 5 by decide), if_neg (show ¬ (mI 13 : Int32) = 6 by decide), if_neg (show ¬ (mI 13 : Int32) = 7 by decide), if_neg (show ¬ (mI 13 : Int32) = 8 by decide), if_neg (show ¬ (mI 13 : Int32) = 9 by decide), if_neg (show ¬ (mI 13 : Int32) = 10 by decide), if_neg (show ¬ (mI 13 : Int32) = 11 by decide), if_neg (show ¬ (mI 13 : Int32) = 12 by decide), if_pos (show (mI 13 : Int32) = 13 from rfl)]
  simp only [pfm, asmP, othP, e0, Option.map_some, thOf_some]
  simp only [q_37_4, ob, c_kindOf (x := mI (nf (y.2.1 l))) hN rfl s9.1]
  have zb := nd_bind hN (i := nf (y.2.1 l)) (k := 6) s9.1 (by omega)
  by_cases g : w.2.2.1 2 (nf (y.2.1 l)) = 6
  · obtain ⟨r, er⟩ := zb.mp g
    rw [if_pos g, c_isPlaced (x := mI (nf (y.2.1 l))) (v := mI (nf (y.2.1 q0))) (k := 6) (r := r) hC rfl rfl s9.1 k0.1 (by omega) er, ob, m_bool]
    rw [k0.2]
    rw [s9.2] at er
    refine congrArg (fun z => some (z, hp P w ex n sl)) (b2_congr ⟨fun ⟨t, h1, h2⟩ => ⟨t, h1, r, er, h2⟩, fun ⟨t, h1, r', e9, h2⟩ => ⟨t, h1, ?_⟩⟩)
    rw [er] at e9
    rw [(List.cons.inj e9).2]
    exact h2
  · rw [if_neg g]
    refine congrArg (fun z => some (z, hp P w ex n sl)) (b2_f ?_).symm
    rintro ⟨t, h1, r, e9, h2⟩
    exact g (zb.mpr ⟨r, by rw [s9.2]; exact e9⟩)
theorem c_fits_14 {l : Nat} {x : Int32} (hC : CW w D F L U y φ nd nf) (hx : x = mI l) (hl : l < L) (hr : y.2.2.1 l = 14) (hc : prems y l = 2) : F_X0_fits (P.2.1 + 37) x (mI 14) (hp P w ex n sl) = some (b2 (pfm φ y l 1 = 12 :: pfm φ y l 0), hp P w ex n sl) := by
  have ho := hC.2.2.2.2.2.2.2.2.1
  have hN := hC.2.2.2.2.2.2.2.2.2.1
  have hD3 := hC.2.1
  have h1D := hC.1
  have h40 := hC.2.2.2.1
  have hU : U ≤ 2 ^ 17 := Nat.le_trans hN.2.1 hN.2.2.1
  have hf := (ho l hl).2.1
  have hS : ∀ q, q < l → nf (y.2.1 q) < U ∧ nd (nf (y.2.1 q)) = φ (y.2.1 q) := fun q hq => by
    have z := hC.2.2.2.2.2.2.2.2.2.2 _ (ho q (by omega)).2.1
    exact ⟨z.1, z.2.2⟩
  have s9 : nf (y.2.1 l) < U ∧ nd (nf (y.2.1 l)) = φ (y.2.1 l) := ⟨(hC.2.2.2.2.2.2.2.2.2.2 _ hf).1, (hC.2.2.2.2.2.2.2.2.2.2 _ hf).2.2⟩
  rw [E_X0_fits, z_37, ob, E_X0_fits_0, q_37_5, ob, c_nodeOfLine hC hx hl, ob, q_37_5, ob, c_premiseOf (v := 0) (j := 0) hC hx rfl hl (by decide), ob, q_37_5, ob, c_nodeP (j := 0) hC hl (by decide), ob, q_37_5, ob, ob, c_premiseOf (v := 1) (j := 1) hC hx rfl hl (by decide), ob, c_nodeP (j := 1) hC hl (by decide), ob]
  obtain ⟨q0, e0⟩ := prems_1 (y := y) (l := l) (by omega)
  have k0 := hS q0 (prem_lt ho hl (by decide) e0)
  obtain ⟨q1, e1⟩ := prems_2 (y := y) (l := l) (by omega)
  have k1 := hS q1 (prem_lt ho hl (by decide) e1)
  rw [if_neg (show ¬ (mI 14 : Int32) = 0 by decide), if_neg (show ¬ (mI 14 : Int32) = 1 by decide), if_neg (show ¬ (mI 14 : Int32) = 2 by decide), if_neg (show ¬ (mI 14 : Int32) = 3 by decide), if_neg (show ¬ (mI 14 : Int32) = 4 by decide), if_neg (show ¬ (mI 14 : Int32) = 5 by decide), if_neg (show ¬ (mI 14 : Int32) = 6 by decide), if_neg (show ¬ (mI 14 : Int32) = 7 by decide), if_neg (show ¬ (mI 14 : Int32) = 8 by decide), if_neg (show ¬ (mI 14 : Int32) = 9 by decide), if_neg (show ¬ (mI 14 : Int32) = 10 by decide), if_neg (show ¬ (mI 14 : Int32) = 11 by decide), if_neg (show ¬ (mI 14 : Int32) = 12 by decide), if_neg (show ¬ (mI 14 : Int32) = 13 by decide), if_pos (show (mI 14 : Int32) = 14 from rfl)]
  simp only [pfm, asmP, othP, e0, e1, Option.map_some, thOf_some]
  rw [E_X0_fits_336, f_plain_14 (v := 0) hN s9.1 k0.1 k1.1, ob, if_pos b2_or]
  rw [k0.2, k1.2]
theorem c_fits_15 {l : Nat} {x : Int32} (hC : CW w D F L U y φ nd nf) (hx : x = mI l) (hl : l < L) (hr : y.2.2.1 l = 15) (hc : prems y l = 1) : F_X0_fits (P.2.1 + 37) x (mI 15) (hp P w ex n sl) = some (b2 (othP y l ∧ pfm φ y l 0 = φ (y.2.1 l)), hp P w ex n sl) := by
  have ho := hC.2.2.2.2.2.2.2.2.1
  have hN := hC.2.2.2.2.2.2.2.2.2.1
  have hD3 := hC.2.1
  have h1D := hC.1
  have h40 := hC.2.2.2.1
  have hU : U ≤ 2 ^ 17 := Nat.le_trans hN.2.1 hN.2.2.1
  have hf := (ho l hl).2.1
  have hS : ∀ q, q < l → nf (y.2.1 q) < U ∧ nd (nf (y.2.1 q)) = φ (y.2.1 q) := fun q hq => by
    have z := hC.2.2.2.2.2.2.2.2.2.2 _ (ho q (by omega)).2.1
    exact ⟨z.1, z.2.2⟩
  have s9 : nf (y.2.1 l) < U ∧ nd (nf (y.2.1 l)) = φ (y.2.1 l) := ⟨(hC.2.2.2.2.2.2.2.2.2.2 _ hf).1, (hC.2.2.2.2.2.2.2.2.2.2 _ hf).2.2⟩
  rw [E_X0_fits, z_37, ob, E_X0_fits_0, q_37_5, ob, c_nodeOfLine hC hx hl, ob, q_37_5, ob, c_premiseOf (v := 0) (j := 0) hC hx rfl hl (by decide), ob, q_37_5, ob, c_nodeP (j := 0) hC hl (by decide), ob, q_37_5, ob, ob, c_premiseOf (v := 1) (j := 1) hC hx rfl hl (by decide), ob, c_nodeP (j := 1) hC hl (by decide), ob]
  obtain ⟨q0, e0⟩ := prems_1 (y := y) (l := l) (by omega)
  have k0 := hS q0 (prem_lt ho hl (by decide) e0)
  have hql := prem_lt ho hl (show 0 < 3 by decide) e0
  rw [if_neg (show ¬ (mI 15 : Int32) = 0 by decide), if_neg (show ¬ (mI 15 : Int32) = 1 by decide), if_neg (show ¬ (mI 15 : Int32) = 2 by decide), if_neg (show ¬ (mI 15 : Int32) = 3 by decide), if_neg (show ¬ (mI 15 : Int32) = 4 by decide), if_neg (show ¬ (mI 15 : Int32) = 5 by decide), if_neg (show ¬ (mI 15 : Int32) = 6 by decide), if_neg (show ¬ (mI 15 : Int32) = 7 by decide), if_neg (show ¬ (mI 15 : Int32) = 8 by decide), if_neg (show ¬ (mI 15 : Int32) = 9 by decide), if_neg (show ¬ (mI 15 : Int32) = 10 by decide), if_neg (show ¬ (mI 15 : Int32) = 11 by decide), if_neg (show ¬ (mI 15 : Int32) = 12 by decide), if_neg (show ¬ (mI 15 : Int32) = 13 by decide), if_neg (show ¬ (mI 15 : Int32) = 14 by decide), if_pos (show (mI 15 : Int32) = 15 from rfl)]
  simp only [pfm, asmP, othP, e0, Option.map_some, thOf_some]
  have hh0 := (ho q0 (by omega)).1
  have hh1 := (ho l hl).1
  have eh : (mI (y.1 q0) = mI (y.1 l)) = (y.1 q0 = y.1 l) := m_eqN (by omega) (by omega)
  have en : (mI (nf (y.2.1 q0)) = mI (nf (y.2.1 l))) = (φ (y.2.1 q0) = φ (y.2.1 l)) := propext ⟨fun z => by
      have z := (mI_inj (a := nf (y.2.1 q0)) (b := nf (y.2.1 l)) (by have := k0.1; omega) (by have := s9.1; omega)).mp z
      rw [← k0.2, z, s9.2], fun z => by
      rw [← k0.2, ← s9.2] at z
      exact congrArg mI (hN.2.2.2.2 _ _ k0.1 s9.1 z)⟩
  simp only [q_37_5, en, ob, c_house (x := mI q0) (l := q0) hC rfl (show q0 < L by omega), c_house hC hx hl, eh]
  by_cases g : φ (y.2.1 q0) = φ (y.2.1 l)
  · rw [if_pos g]
    by_cases g2 : y.1 q0 = y.1 l
    · rw [if_pos g2]; exact congrArg (fun z => some (z, hp P w ex n sl)) (b2_f (fun m : (y.1 q0 ≠ y.1 l) ∧ (φ (y.2.1 q0) = φ (y.2.1 l)) => m.1 g2)).symm
    · rw [if_neg g2]; exact congrArg (fun z => some (z, hp P w ex n sl)) (b2_t (⟨g2, g⟩ : (y.1 q0 ≠ y.1 l) ∧ (φ (y.2.1 q0) = φ (y.2.1 l)))).symm
  · rw [if_neg g]; exact congrArg (fun z => some (z, hp P w ex n sl)) (b2_f (fun m : (y.1 q0 ≠ y.1 l) ∧ (φ (y.2.1 q0) = φ (y.2.1 l)) => g m.2)).symm
theorem c_fits {l : Nat} {x : Int32} (hC : CW w D F L U y φ nd nf) (hx : x = mI l) (hl : l < L) (hc : prems y l = askN D (y.2.2.1 l)) : F_X0_fits (P.2.1 + 37) x (mI (y.2.2.1 l)) (hp P w ex n sl) = some (b2 (fitP D (y.2.2.1 l) (amP F φ (fun u => w.2.2.1 12 u) y l) (asmP y l) (othP y l) (φ (y.2.1 l)) (pfm φ y l 0) (pfm φ y l 1) (pfm φ y l 2)), hp P w ex n sl) := by
  have hr16 := (hC.2.2.2.2.2.2.2.2.1 l hl).2.2.1
  rcases (show y.2.2.1 l = 0 ∨ y.2.2.1 l = 1 ∨ y.2.2.1 l = 2 ∨ y.2.2.1 l = 3 ∨ y.2.2.1 l = 4 ∨ y.2.2.1 l = 5 ∨ y.2.2.1 l = 6 ∨ y.2.2.1 l = 7 ∨ y.2.2.1 l = 8 ∨ y.2.2.1 l = 9 ∨ y.2.2.1 l = 10 ∨ y.2.2.1 l = 11 ∨ y.2.2.1 l = 12 ∨ y.2.2.1 l = 13 ∨ y.2.2.1 l = 14 ∨ y.2.2.1 l = 15 by omega) with hr | hr | hr | hr | hr | hr | hr | hr | hr | hr | hr | hr | hr | hr | hr | hr
  · have z := c_fits_0 (P := P) (ex := ex) (n := n) (sl := sl) hC hx hl hr (by rw [hc, hr]; rfl)
    rw [hr]; exact z
  · have z := c_fits_1 (P := P) (ex := ex) (n := n) (sl := sl) hC hx hl hr (by rw [hc, hr]; rfl)
    rw [hr]; exact z
  · have z := c_fits_2 (P := P) (ex := ex) (n := n) (sl := sl) hC hx hl hr (by rw [hc, hr]; rfl)
    rw [hr]; exact z
  · have z := c_fits_3 (P := P) (ex := ex) (n := n) (sl := sl) hC hx hl hr (by rw [hc, hr]; rfl)
    rw [hr]; exact z
  · have z := c_fits_4 (P := P) (ex := ex) (n := n) (sl := sl) hC hx hl hr (by rw [hc, hr]; rfl)
    rw [hr]; exact z
  · have z := c_fits_5 (P := P) (ex := ex) (n := n) (sl := sl) hC hx hl hr (by rw [hc, hr]; rfl)
    rw [hr]; exact z
  · have z := c_fits_6 (P := P) (ex := ex) (n := n) (sl := sl) hC hx hl hr (by rw [hc, hr]; rfl)
    rw [hr]; exact z
  · have z := c_fits_7 (P := P) (ex := ex) (n := n) (sl := sl) hC hx hl hr (by rw [hc, hr]; rfl)
    rw [hr]; exact z
  · have z := c_fits_8 (P := P) (ex := ex) (n := n) (sl := sl) hC hx hl hr (by rw [hc, hr]; rfl)
    rw [hr]; exact z
  · have z := c_fits_9 (P := P) (ex := ex) (n := n) (sl := sl) hC hx hl hr (by rw [hc, hr]; rfl)
    rw [hr]; exact z
  · have z := c_fits_10 (P := P) (ex := ex) (n := n) (sl := sl) hC hx hl hr (by rw [hc, hr]; rfl)
    rw [hr]; exact z
  · have z := c_fits_11 (P := P) (ex := ex) (n := n) (sl := sl) hC hx hl hr (by rw [hc, hr]; rfl)
    rw [hr]; exact z
  · have z := c_fits_12 (P := P) (ex := ex) (n := n) (sl := sl) hC hx hl hr (by rw [hc, hr]; rfl)
    rw [hr]; exact z
  · have z := c_fits_13 (P := P) (ex := ex) (n := n) (sl := sl) hC hx hl hr (by rw [hc, hr]; rfl)
    rw [hr]; exact z
  · have z := c_fits_14 (P := P) (ex := ex) (n := n) (sl := sl) hC hx hl hr (by rw [hc, hr]; rfl)
    rw [hr]; exact z
  · have z := c_fits_15 (P := P) (ex := ex) (n := n) (sl := sl) hC hx hl hr (by rw [hc, hr]; rfl)
    rw [hr]; exact z
theorem c_isHonest {l : Nat} {x : Int32} (hA : KA P) (hC : CW w D F L U y φ nd nf) (hx : x = mI l) (hl : l < L) : F_X0_isHonest (P.2.1 + 37) x (hp P w ex n sl) = some (b2 (honP D F φ y (fun h => w.2.2.1 11 h) (fun u => w.2.2.1 12 u) l), hp P w ex n sl) := by
  have ho := hC.2.2.2.2.2.2.2.2.1
  have hh := (ho l hl).1
  have hr16 := (ho l hl).2.2.1
  have hlt := prems_lt (y := y) (l := l)
  have hask : askN D (y.2.2.1 l) ≤ 3 := by
    have := hC.2.1
    unfold askN
    split
    · omega
    · split
      · omega
      · split
        · omega
        · split <;> omega
  rw [E_X0_isHonest, z_37, ob, E_X0_isHonest_0, q_37_5, ob, c_rule hC hx hl, ob, q_37_5, ob, ob, c_house hC hx hl, ob, c_hasRule (x := mI (y.1 l)) (v := mI (y.2.2.1 l)) rfl rfl hh, ob]
  unfold honP
  by_cases hb : bit (w.2.2.1 11 (y.1 l)) (y.2.2.1 l)
  · rw [if_neg (fun z => b2_0.mp z hb), c_premisesOf hC hx hl, ob, c_asked (x := mI (y.2.2.1 l)) hA hC rfl hr16, ob]
    by_cases hc : prems y l = askN D (y.2.2.1 l)
    · rw [if_pos (show (mI (prems y l) : Int32) = mI (askN D (y.2.2.1 l)) by rw [hc]), c_fits hC hx hl hc, ob, m_bool]
      exact congrArg (fun z => some (z, hp P w ex n sl)) (b2_congr ⟨fun z => ⟨hb, hc, z⟩, fun z => z.2.2⟩)
    · rw [if_neg (by rw [mI_inj (by omega) (by omega)]; exact hc)]
      exact congrArg (fun z => some (z, hp P w ex n sl)) (b2_f (fun z => hc z.2.1)).symm
  · rw [if_pos (b2_0.mpr hb)]
    exact congrArg (fun z => some (z, hp P w ex n sl)) (b2_f (fun z => hb z.1)).symm
end CFi
