/-! the class's reader: units, words, if -/
def Bb (b : Bool) : Nat := if b = true then 1 else 4
theorem Bb_le (b : Bool) : 1 ≤ Bb b ∧ Bb b ≤ 4 := by cases b <;> decide
def lof (v0 : Int32) : Int32 := if v0 = 102 then 4 else if v0 = 103 then 5 else if v0 = 104 then -1 else if v0 = 105 then -1 else if v0 = 106 then -1 else if v0 = 107 then -1 else if v0 = 108 then -1 else if v0 = 109 then -1 else if v0 = 110 then -1 else if v0 = 111 then -1 else if v0 = 112 then 0 else if v0 = 113 then 1 else if v0 = 114 then 2 else if v0 = 115 then 3 else -1
theorem c_letterOf {v : Int32} {σ : sS} : F_X5_letterOf v σ = some (lof v, σ) := by
  rw [E_X5_letterOf, E_X5_letterOf_0]
  unfold lof
  have h : ∀ (c : Prop) [Decidable c] (a b : Int32), (if c then some (a, σ) else some (b, σ)) = some (if c then a else b, σ) := by
    intro c _ a b
    split <;> rfl
  simp only [h]
theorem lof_c : ∀ c, c < 256 → lof (mI c) = if 112 ≤ c ∧ c ≤ 115 then mI (c - 112) else if c = 102 then 4 else if c = 103 then 5 else -1 := by decide +kernel
section CUn
variable {P : sP} {S0 e N D : Nat} {t : Nat → Nat}
theorem c_failCO {w : sW} {ex : Nat → Option sC} {n sl U p s x B : Nat} {nd : Nat → List Nat} {v : Int32} (hI : CI P S0 e t N D w n sl U nd p s) : CO P S0 e N D w U nd U B s (some (v, hp P (wI w 29 1 (mI x)) ex n sl)) (.inr x) := by
  obtain ⟨hS, hR, hf, hat, hsg, hp9, hs40⟩ := hI
  exact ⟨v, _, ex, n, sl, U, nd, rfl, hS.wI, XT.rf, FrX.rf.pI (by decide), by show up2 w.1 29 1 (mI x) 29 1 = _; rw [up2_s], ⟨p, hp9, by show up2 w.1 29 1 (mI x) 29 4 = _; rw [up2_j (by decide)]; exact hat⟩, by omega⟩
theorem CI.sg {w : sW} {n sl U p s : Nat} {nd : Nat → List Nat} (hI : CI P S0 e t N D w n sl U nd p s) (hs : s < 40) : CI P S0 e t N D (wI w 29 5 (mI (s + 1))) n sl U nd p (s + 1) := by
  obtain ⟨hS, hR, hf, hat, hsg, hp9, hs40⟩ := hI
  refine ⟨hS.wI, hR.wI (by decide) (by decide), ?_, ?_, ?_, hp9, by omega⟩
  · show up2 w.1 29 5 (mI (s + 1)) 29 1 = _; rw [up2_j (by decide)]; exact hf
  · show up2 w.1 29 5 (mI (s + 1)) 29 4 = _; rw [up2_j (by decide)]; exact hat
  · show up2 w.1 29 5 (mI (s + 1)) 29 5 = _; rw [up2_s]
theorem CI.at {w : sW} {n sl U p s q : Nat} {nd : Nat → List Nat} (hI : CI P S0 e t N D w n sl U nd p s) (hq : q ≤ N) : CI P S0 e t N D (wI w 29 4 (mI q)) n sl U nd q s := by
  obtain ⟨hS, hR, hf, hat, hsg, hp9, hs40⟩ := hI
  refine ⟨hS.wI, hR.wI (by decide) (by decide), ?_, ?_, ?_, hq, hs40⟩
  · show up2 w.1 29 4 (mI q) 29 1 = _; rw [up2_j (by decide)]; exact hf
  · show up2 w.1 29 4 (mI q) 29 4 = _; rw [up2_s]
  · show up2 w.1 29 4 (mI q) 29 5 = _; rw [up2_j (by decide)]; exact hsg
theorem CO.wI {w : sW} {U X B s0 j : Nat} {nd : Nat → List Nat} {v : Int32} {o : Option (Int32 × sS)} {r : pR} (hj : 100 * 29 + j ∈ rdB) (h : CO P S0 e N D (Prod.mk (up2 w.1 29 j v) w.2) U nd X B s0 o r) : CO P S0 e N D w U nd X B s0 o r := CO.lift XT.rf (FrX.rf.pI hj) h
/-- an atom is made -/
theorem c_atomCO {w : sW} {ex : Nat → Option sC} {n sl U p s a τ B x : Nat} {nd : Nat → List Nat} (hB : 1 ≤ B) (hI : CI P S0 e t N D w n sl U nd p (s + 1)) (hU : U ≤ 7500) (ha : a < 6) (hτ : τ ≤ 3) (h4 : a < 4 → τ = 0) (hx : asg a τ = x) : CO P S0 e N D w U nd U B s ((F_X2_makeAtom (P.2.1 + 1) (mI a) (mI τ) (hp P w ex n sl)).bind fun q => some (q.1, q.2)) (.inl (p, [x])) := by
  obtain ⟨hS, hR, hf, hat, hsg, hp9, hs40⟩ := hI
  obtain ⟨i, w', ex', n', sl', U', nd', m1, m2, m3, m4, m5, m6, m7⟩ := c_makeN (ex := ex) (k := 0) (a := mI a) (b := mI τ) (l := [asg a τ]) hS (by omega) (Or.inl ⟨rfl, a, τ, rfl, rfl, ha, hτ, h4, rfl⟩) (by decide) (by simp)
  have m1' : F_X2_make (P.2.1 + 1) 0 (mI a) (mI τ) (hp P w ex n sl) = some (mI i, hp P w' ex' n' sl') := m1
  rw [E_X2_makeAtom, z_1, ob, E_X2_makeAtom_0, m1', ob, ob]
  refine ⟨i, w', ex', n', sl', U', nd', rfl, m2, m3, m4.r1, m5, by rw [m6, hx], ?_, ?_, ?_, ?_⟩
  · rw [m4.2.1 29 1 (by decide)]; exact hf
  · rw [m4.2.1 29 4 (by decide)]; exact hat
  · rw [m4.2.1 29 5 (by decide)]; exact hsg
  · show U' ≤ U + B * 1
    omega
theorem c_short {w : sW} {ex : Nat → Option sC} {n sl U q s B : Nat} {nd : Nat → List Nat} (hB : 1 ≤ B) (h3 : D ≤ 3) (hI : CI P S0 e t N D w n sl U nd q s) (hU : U ≤ 7500) (hq : q < N) : CO P S0 e N D w U nd U B s (F_X5_readShort (P.2.1 + 29) (mI (t q)) (hp P w ex n sl)) (pShort t N D q s) := by
  have hI0 := hI
  obtain ⟨hS, hR, hf, hat, hsg, hp9, hs40⟩ := hI
  have h400 := hR.2.1
  have tb := (hR.2.2.2 q hq).1
  have lc := lof_c (t q) tb
  rw [E_X5_readShort, z_29, ob, E_X5_readShort_0, c_letterOf, ob]
  try dsimp only
  unfold pShort
  by_cases g : 112 ≤ t q ∧ t q ≤ 115
  · rw [if_pos g] at lc
    rw [lc, if_pos g, if_neg (mI_m1 (by omega)), if_neg (by rw [nleR (by omega) (by decide)]; exact Nat.not_le.mpr (by omega)), q_29_4, ob, hat]
    by_cases g40 : 40 ≤ s
    · rw [if_pos g40, c_signF g40 (by omega) hsg hf, ob]
      try dsimp only
      rw [if_pos rfl]
      exact c_failCO hI0
    · have hI1 := hI0.sg (by omega)
      rw [if_neg g40, c_signT (by omega) hsg, ob]
      try dsimp only
      rw [if_neg (by decide), q_29_4, ob, hI1.2.2.2.1, naddL, p_29_4, ob, q_29_2, ob]
      refine CO.wI (j := 5) (v := mI (s + 1)) (by decide) (CO.wI (j := 4) (v := mI (q + 1)) (by decide) ?_)
      exact c_atomCO (τ := 0) hB (hI1.at (show q + 1 ≤ N by omega)) hU (by omega) (by decide) (fun _ => rfl) (by unfold asg; rw [if_pos (by omega)])
  · rw [if_neg g] at lc
    rw [if_neg g]
    by_cases gf : t q = 102 ∨ t q = 103
    · obtain ⟨a, ha, ea, hsel⟩ : ∃ a, (a = 4 ∨ a = 5) ∧ lof (mI (t q)) = mI a ∧ (if t q = 102 then 6 else 9) = (if a = 4 then 6 else 9) := by
        by_cases g2 : t q = 102
        · rw [if_pos g2] at lc; exact ⟨4, Or.inl rfl, lc, by rw [if_pos g2, if_pos rfl]⟩
        · rw [if_neg g2, if_pos (by omega)] at lc; exact ⟨5, Or.inr rfl, lc, by rw [if_neg g2, if_neg (by decide)]⟩
      rw [ea, if_pos gf, if_neg (mI_m1 (by omega)), if_pos (by rw [nleR (by omega) (by decide)]; show 4 ≤ a; omega), q_29_4, ob, hat, naddL, c_byteAt rfl (by omega) hR, ob]
      try dsimp only
      have cb := chr_b hR (q + 1)
      have bad : R_X5_readShort_81 (P.2.1 + 29) (hp P w ex n sl) = some (-1, hp P (wI w 29 1 (mI q)) ex n sl) := by rw [E_X5_readShort_81, q_29_4, ob, hat, c_fail, ob, if_pos hf]
      by_cases g9 : chr t N (q + 1) = 999
      · rw [g9, if_pos (show cv 999 - 48 < 0 by decide), bad, if_neg (show ¬ (48 ≤ 999 ∧ 999 ≤ 57) by omega)]
        exact c_failCO hI0
      · have ecv : cv (chr t N (q + 1)) = mI (chr t N (q + 1)) := if_neg g9
        rw [ecv]
        generalize hc : chr t N (q + 1) = c at *
        have hcb : c < 256 := by omega
        have hq1 : q + 1 < N := chr_lt (t := t) (N := N) (by rw [hc]; exact g9)
        by_cases g48 : c < 48
        · rw [if_pos (by rw [show (48 : Int32) = mI 48 from rfl, nsublt (by omega) (by decide)]; exact g48), bad, if_neg (by omega)]
          exact c_failCO hI0
        · have e48 : mI c - 48 = mI (c - 48) := nsubL (show 48 ≤ c by omega)
          rw [e48, if_neg (mI_0 (by omega))]
          by_cases g57 : c ≤ 57
          · rw [if_pos (by rw [nleL (by omega) (by decide)]; show c - 48 ≤ 9; omega), if_pos (show 48 ≤ c ∧ c ≤ 57 by omega), q_29_4, ob, hat]
            by_cases g40 : 40 ≤ s
            · rw [if_pos g40, c_signF g40 (by omega) hsg hf, ob]
              try dsimp only
              rw [if_pos rfl]
              exact c_failCO hI0
            · have hI1 := hI0.sg (by omega)
              rw [if_neg g40, c_signT (by omega) hsg, ob]
              try dsimp only
              rw [if_neg (by decide), q_29_6, ob, hI1.2.1.2.2.1]
              by_cases gD : c - 48 < D
              · rw [if_pos (by rw [nlt (by omega) (by omega)]; exact gD), if_pos gD, q_29_4, ob, hI1.2.2.2.1, naddL, p_29_4, ob, q_29_2, ob]
                refine CO.wI (j := 5) (v := mI (s + 1)) (by decide) (CO.wI (j := 4) (v := mI (q + 2)) (by decide) ?_)
                refine c_atomCO hB (hI1.at (show q + 2 ≤ N by omega)) hU (by omega) (by omega) (fun z => by omega) ?_
                rw [hsel]
                unfold asg
                rw [if_neg (by omega)]
                rcases ha with rfl | rfl
                · rw [if_pos rfl, if_pos rfl, if_neg (by omega)]
                · rw [if_neg (show ¬ (5 : Nat) = 4 by decide), if_neg (show ¬ c - 48 = 3 by omega), if_neg (show ¬ (5 : Nat) = 4 by decide)]
              · rw [if_neg (by rw [nlt (by omega) (by omega)]; exact gD), if_neg gD, q_29_4, ob, hI1.2.2.2.1, naddL, c_fail, ob, if_pos hI1.2.2.1]
                refine CO.wI (j := 5) (v := mI (s + 1)) (by decide) ?_
                obtain ⟨v, w', ex', n', sl', U', nd', a1, a2, a3, a4, a5, a6, a7⟩ := c_failCO (x := q + 1) (v := -1) (B := B) (ex := ex) hI1
                exact ⟨v, w', ex', n', sl', U', nd', a1, a2, a3, a4, a5, a6, Nat.le_trans a7 (Nat.add_le_add_left (Nat.mul_le_mul_left B (by omega)) _)⟩
          · rw [if_neg (by rw [nleL (by omega) (by decide)]; show ¬ c - 48 ≤ 9; omega), bad, if_neg (by omega)]
            exact c_failCO hI0
    · rw [if_neg (fun z => gf (Or.inl z)), if_neg (fun z => gf (Or.inr z))] at lc
      rw [lc, if_neg gf, if_pos rfl, q_29_4, ob, hat, c_fail, ob, if_pos hf]
      exact c_failCO hI0
end CUn
