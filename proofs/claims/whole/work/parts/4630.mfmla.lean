/-! the model's formula: the whole call -/
abbrev mrC : List Nat := [4600, 4607, 4608, 4609, 4610, 4611, 4612, 4613, 4614]
def FN (w w' : sW) : Prop := (∀ k, k ≠ 49 → k ≠ 50 → w'.2.2.1 k = w.2.2.1 k) ∧ (∀ i, i ≠ 70 → w'.2.2.1 49 i = w.2.2.1 49 i) ∧ (∀ i, i < 2800 ∨ 2840 ≤ i → w'.2.2.1 50 i = w.2.2.1 50 i) ∧ (∀ k j, 100 * k + j ∉ mrC → w'.1 k j = w.1 k j) ∧ w'.2.1 = w.2.1 ∧ w'.2.2.2 = w.2.2.2
theorem FM.fn {w w' : sW} (h : FM w w') : FN w w' := ⟨h.1, h.2.1, h.2.2.1, fun k j a => h.2.2.2.1 k j (fun z => a ((show ∀ x, x ∈ mrB → x ∈ mrC by decide) _ z)), h.2.2.2.2⟩
theorem FN.rf {w : sW} : FN w w := ⟨fun _ _ _ => rfl, fun _ _ => rfl, fun _ _ => rfl, fun _ _ _ => rfl, rfl, rfl⟩
theorem FN.tr {w w' w'' : sW} (h : FN w w') (g : FN w' w'') : FN w w'' := ⟨fun k a b => (g.1 k a b).trans (h.1 k a b), fun i a => (g.2.1 i a).trans (h.2.1 i a), fun i a => (g.2.2.1 i a).trans (h.2.2.1 i a), fun k j a => (g.2.2.2.1 k j a).trans (h.2.2.2.1 k j a), g.2.2.2.2.1.trans h.2.2.2.2.1, g.2.2.2.2.2.trans h.2.2.2.2.2⟩
theorem FN.pI {w w' : sW} {j : Nat} {v : Int32} (h : FN w w') (hj : 100 * 46 + j ∈ mrC) : FN w (Prod.mk (up2 w'.1 46 j v) w'.2) := by
  refine ⟨h.1, h.2.1, h.2.2.1, fun k' j' hk => ?_, h.2.2.2.2⟩
  show up2 w'.1 46 j v k' j' = _
  unfold up2
  split
  · rename_i g; exact absurd hj (by rw [g.1, g.2] at hk; exact hk)
  · exact h.2.2.2.1 k' j' hk
theorem FN.a49 {w w' : sW} {v : Int32} (h : FN w w') : FN w (Prod.mk w'.1 (Prod.mk w'.2.1 (Prod.mk (up2 w'.2.2.1 49 70 v) w'.2.2.2))) := by
  refine ⟨fun k a b => ?_, fun i a => ?_, fun i a => ?_, h.2.2.2.1, h.2.2.2.2⟩
  · show up2 w'.2.2.1 49 70 v k = _; rw [up2_k a]; exact h.1 k a b
  · show up2 w'.2.2.1 49 70 v 49 i = _; rw [up2_j a]; exact h.2.1 i a
  · show up2 w'.2.2.1 49 70 v 50 i = _; rw [up2_k (by decide)]; exact h.2.2.1 i a
section MFm
variable {P : sP} {ex : Nat → Option sC} {n sl F N D : Nat} {t : Nat → Nat} {w : sW}
theorem m_formulaR (hK : KS P) (hD : D ≤ 3) (h7 : w.1 46 7 = mI N) (h400 : N ≤ 400) (h0 : w.2.2.1 47 0 = mI D) (hb : ∀ i, i < N → t i < 256 ∧ w.2.2.1 51 i = sB (t i)) : ∃ v w1, R_X8_formula_0 (P.2.1 + 46) (hp P w ex n sl) = R_X8_formula_76 (P.2.1 + 46) v (hp P w1 ex n sl) ∧ FN w w1 ∧ w1.1 46 0 = 0 ∧ w1.1 46 7 = 0 ∧ (match topR t N D with | .inl l => v = 1 ∧ hasL w1 70 l | .inr x => v = 0 ∧ w1.1 46 10 = mI x ∧ x ≤ N) := by
  rw [E_X8_formula_0, p_46_0, ob, q_46_7, ob, p_46_9, ob, p_46_7, ob, p_46_8, ob, p_46_11, ob, p_46_12, ob, p_46_14, ob, q_46_4, ob]
  have e7 : (wI w 46 0 0).1 46 7 = mI N := (wI_j (by decide)).trans h7
  rw [e7, show ∀ σ : sS, s_si σ (P.2.1 + 49) 70 0 = s_si σ (P.2.1 + 49) (mI 70) 0 from fun _ => rfl, wa_49 (by decide), ob]
  generalize hw0 : wA (wI (wI (wI (wI (wI (wI (wI w 46 0 0) 46 9 (mI N)) 46 7 0) 46 8 0) 46 11 0) 46 12 0) 46 14 0) 49 70 0 = w0
  have f0 : FN w w0 := by
    rw [← hw0]
    exact (((((((FN.rf.pI (by decide)).pI (by decide)).pI (by decide)).pI (by decide)).pI (by decide)).pI (by decide)).pI (by decide)).a49
  have x14 : w0.1 46 14 = 0 := by rw [← hw0]; exact wI_s (w := wI (wI (wI (wI (wI (wI w 46 0 0) 46 9 (mI N)) 46 7 0) 46 8 0) 46 11 0) 46 12 0) (k := 46) (j := 14) (v := 0)
  have y14 : ∀ j, j ≠ 14 → w0.1 46 j = (wI (wI (wI (wI (wI (wI w 46 0 0) 46 9 (mI N)) 46 7 0) 46 8 0) 46 11 0) 46 12 0).1 46 j := fun j hj => by rw [← hw0]; exact wI_j (w := wI (wI (wI (wI (wI (wI w 46 0 0) 46 9 (mI N)) 46 7 0) 46 8 0) 46 11 0) 46 12 0) (k := 46) (j := 14) (v := 0) (k' := 46) hj
  have x12 : w0.1 46 12 = mI 0 := (y14 12 (by decide)).trans wI_s
  have x11 : w0.1 46 11 = mI 0 := (y14 11 (by decide)).trans ((wI_j (by decide)).trans wI_s)
  have x8 : w0.1 46 8 = mI 0 := (y14 8 (by decide)).trans ((wI_j (by decide)).trans ((wI_j (by decide)).trans wI_s))
  have x7 : w0.1 46 7 = 0 := (y14 7 (by decide)).trans ((wI_j (by decide)).trans ((wI_j (by decide)).trans ((wI_j (by decide)).trans wI_s)))
  have x9 : w0.1 46 9 = mI N := (y14 9 (by decide)).trans ((wI_j (by decide)).trans ((wI_j (by decide)).trans ((wI_j (by decide)).trans ((wI_j (by decide)).trans wI_s))))
  have x0 : w0.1 46 0 = 0 := (y14 0 (by decide)).trans ((wI_j (by decide)).trans ((wI_j (by decide)).trans ((wI_j (by decide)).trans ((wI_j (by decide)).trans ((wI_j (by decide)).trans wI_s)))))
  have x49 : w0.2.2.1 49 70 = mI 0 := by rw [← hw0]; show up2 w.2.2.1 49 70 0 49 70 = _; rw [up2_s]; rfl
  have hT : MT w0 t N D := by
    refine ⟨x9, h400, ?_, ?_⟩
    · rw [f0.1 47 (by decide) (by decide)]; exact h0
    · rw [f0.1 51 (by decide) (by decide)]; exact hb
  have hI : MI w0 t N D 0 0 0 false [] := ⟨hT, x8, x12, x11, x14, ⟨x49, by decide, fun _ h => (by cases h), fun k h => absurd h (Nat.not_lt_zero k)⟩, Nat.zero_le _, by decide, Nat.le_refl _⟩
  have cu := (m_lev (P := P) (t := t) (N := N) hK hD 8 0 rfl).2 false 64 (by decide) ex n sl w0 0 0 [] hI
  have keep : ∀ u : sW, FM w0 u → u.1 46 0 = 0 ∧ u.1 46 7 = 0 := fun u h => ⟨(h.2.2.2.1 46 0 (by decide)).trans x0, (h.2.2.2.1 46 7 (by decide)).trans x7⟩
  unfold topR
  match hr : (lev t N D 8).2 false 0 0 with
  | .inr x =>
    rw [hr] at cu
    obtain ⟨w1, c1, c2, c3, c4⟩ := cu
    have k := keep w1 c2
    rw [c1, ob]
    exact ⟨0, w1, if_pos rfl, f0.tr c2.fn, k.1, k.2, rfl, c3, c4⟩
  | .inl (p', l) =>
    rw [hr] at cu
    obtain ⟨w1, c1, c2, c3⟩ := cu
    have hk := sk_le (t := t) c3.2.2.2.2.2.2.1
    obtain ⟨w2, d1, d2, d3, d4⟩ := m_blanks (P := P) (ex := ex) (n := n) (sl := sl) c3
    have k := keep w2 (c2.tr d2)
    rw [c1, ob]
    show ∃ v w1', (if ((1 : Int32) = 0) then _ else _) = _ ∧ _
    rw [if_neg (by decide), d1, ob]
    try dsimp only
    rw [q_46_8, ob, q_46_9, ob, d3.2.1, d3.1.1]
    by_cases g : sk t N p' = N
    · rw [if_pos (by rw [neq (by omega) (by omega)]; exact g), if_pos g, E_X8_formula_75]
      exact ⟨1, w2, rfl, f0.tr (c2.tr d2).fn, k.1, k.2, rfl, d3.2.2.2.2.2.1⟩
    · rw [if_neg (by rw [neq (by omega) (by omega)]; exact g), if_neg g, E_X8_formula_75]
      exact ⟨0, w2, rfl, f0.tr (c2.tr d2).fn, k.1, k.2, rfl, d4, hk.2⟩
theorem m_throwsIf0 {k : Int32} : F_X8_throwsIf (P.2.1 + 46) 0 k (hp P w ex n sl) = some (0, hp P w ex n sl) := by
  rw [E_X8_throwsIf, z_46, ob, E_X8_throwsIf_0, if_pos rfl, if_pos (Or.inl rfl)]
theorem m_throwsIf1 {k : Int32} : F_X8_throwsIf (P.2.1 + 46) 1 k (hp P w ex n sl) = some (1, hp P (wI w 46 0 k) ex n sl) := by
  rw [E_X8_throwsIf, z_46, ob, E_X8_throwsIf_0, if_neg (by decide), p_46_0, ob, if_pos (Or.inr rfl)]
/-- the text is no formula -/
theorem m_formulaX {x : Nat} (hK : KS P) (hD : D ≤ 3) (h7 : w.1 46 7 = mI N) (h400 : N ≤ 400) (h0 : w.2.2.1 47 0 = mI D) (hb : ∀ i, i < N → t i < 256 ∧ w.2.2.1 51 i = sB (t i)) (hr : topR t N D = .inr x) : ∃ w1, F_X8_formula (P.2.1 + 46) (hp P w ex n sl) = some (0, hp P w1 ex n sl) ∧ FN w w1 ∧ w1.1 46 0 = 1 ∧ w1.1 46 7 = 0 ∧ w1.1 46 13 = mI x ∧ x ≤ N := by
  obtain ⟨v, w1, a1, a2, a3, a4, a5⟩ := m_formulaR (ex := ex) (n := n) (sl := sl) hK hD h7 h400 h0 hb
  rw [hr] at a5
  obtain ⟨rfl, a6, a7⟩ := a5
  rw [E_X8_formula, z_46, ob, a1, E_X8_formula_76, if_pos rfl, q_46_10, ob, a6, E_X8_formula_89, p_46_13, ob, if_pos rfl, E_X8_formula_102, m_throwsIf1, ob]
  refine ⟨_, if_neg (show ¬ ((1 : Int32) = 0) by decide), (a2.pI (by decide)).pI (by decide), wI_s, ?_, ?_, a7⟩
  · exact (wI_j (by decide)).trans ((wI_j (by decide)).trans a4)
  · exact (wI_j (by decide)).trans wI_s
/-- the books are full -/
theorem m_formulaF {l : List Nat} (hK : KS P) (hD : D ≤ 3) (h7 : w.1 46 7 = mI N) (h400 : N ≤ 400) (h0 : w.2.2.1 47 0 = mI D) (h1 : w.2.2.1 47 1 = mI 30) (hb : ∀ i, i < N → t i < 256 ∧ w.2.2.1 51 i = sB (t i)) (hr : topR t N D = .inl l) : ∃ w1, F_X8_formula (P.2.1 + 46) (hp P w ex n sl) = some (0, hp P w1 ex n sl) ∧ FN w w1 ∧ w1.1 46 0 = 2 ∧ w1.1 46 7 = 0 ∧ w1.1 46 13 = -1 := by
  obtain ⟨v, w1, a1, a2, a3, a4, a5⟩ := m_formulaR (ex := ex) (n := n) (sl := sl) hK hD h7 h400 h0 hb
  rw [hr] at a5
  obtain ⟨rfl, a6⟩ := a5
  have e47 : (wI w1 46 13 (-1)).2.2.1 47 1 = 30 := by show w1.2.2.1 47 1 = 30; rw [a2.1 47 (by decide) (by decide)]; exact h1
  rw [E_X8_formula, z_46, ob, a1, E_X8_formula_76, if_neg (by decide), E_X8_formula_89, p_46_13, ob, if_neg (by decide), E_X8_formula_102, m_throwsIf0, ob]
  refine ⟨wI (wI w1 46 13 (-1)) 46 0 2, ?_, (a2.pI (by decide)).pI (by decide), wI_s, (wI_j (by decide)).trans ((wI_j (by decide)).trans a4), (wI_j (by decide)).trans wI_s⟩
  refine Eq.trans (if_pos rfl) ?_
  rw [m_formulas, ob, e47]
  refine Eq.trans (if_pos rfl) ?_
  rw [E_X8_formula_124, m_throwsIf1, ob]
  exact if_neg (show ¬ ((1 : Int32) = 0) by decide)
end MFm
