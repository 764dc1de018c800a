/-! the model's formula: the call that adds one -/
/-- what adding formula F changes -/
def FA (F : Nat) (w w' : sW) : Prop := (∀ k, k ≠ 47 → k ≠ 49 → k ≠ 50 → w'.2.2.1 k = w.2.2.1 k) ∧ (∀ j, j ≠ 1 → j < 62 + 41 * F ∨ 62 + 41 * F + 40 < j → w'.2.2.1 47 j = w.2.2.1 47 j) ∧ (∀ i, F + 1 ≤ i → i ≠ 70 → w'.2.2.1 49 i = w.2.2.1 49 i) ∧ (∀ i, 40 * (F + 1) ≤ i → i < 2800 ∨ 2840 ≤ i → w'.2.2.1 50 i = w.2.2.1 50 i) ∧ (∀ k j, 100 * k + j ∉ mrC → w'.1 k j = w.1 k j) ∧ w'.2.1 = w.2.1 ∧ w'.2.2.2 = w.2.2.2
def setF (ls : Nat → List Nat) (F : Nat) (l : List Nat) : Nat → List Nat := fun f => if f = F then l else ls f
section MFb
variable {P : sP} {ex : Nat → Option sC} {n sl F N D : Nat} {t : Nat → Nat} {w : sW} {ls : Nat → List Nat} {l : List Nat}
theorem m_159 (hF : F < 30) (h1 : w.2.2.1 47 1 = mI F) (hW : fwd (w.2.2.1 47) F ls) (hL : hasL w 70 l) : ∀ m i (u : sW), i + m = l.length → (∀ k, k ≠ 47 → u.2.2.1 k = w.2.2.1 k) → (∀ j, j < 62 + 41 * F ∨ 62 + 41 * F + 40 < j → u.2.2.1 47 j = w.2.2.1 47 j) → u.2.2.1 47 (62 + 41 * F) = mI l.length → (∀ j, j < i → u.2.2.1 47 (62 + 41 * F + 1 + j) = mI (l.getD j 0)) → u.1 = w.1 → u.2.1 = w.2.1 → u.2.2.2 = w.2.2.2 → ∃ w', R_X8_formula_159 (P.2.1 + 46) (mI F) (mI i) (hp P u ex n sl) = some (mI F, hp P w' ex n sl) ∧ FA F w w' ∧ w'.1 = w.1 ∧ w'.2.2.1 47 1 = mI (F + 1) ∧ fwd (w'.2.2.1 47) (F + 1) (setF ls F l) ∧ ∀ g, g < F + 1 → hasL w' g (setF ls F l g) := by
  have hl := hL.2.1
  intro m
  induction m with
  | zero =>
    intro i u hi hk hj hlen hwd hu1 hu2 hu3
    have e70 : s_ai (hp P u ex n sl) (P.2.1 + 49) 70 = some (mI l.length) := by
      refine Eq.trans (ra_49 (i := 70) (by decide)) ?_
      rw [hk 49 (by decide), hL.1]
    have e1 : s_ai (hp P u ex n sl) (P.2.1 + 47) 1 = some (mI F) := by
      refine Eq.trans (ra_47 (i := 1) (by decide)) ?_
      rw [hj 1 (by omega), h1]
    have s1 : s_si (hp P u ex n sl) (P.2.1 + 47) 1 (mI (F + 1)) = some (hp P (wA u 47 1 (mI (F + 1))) ex n sl) := wa_47 (i := 1) (by decide)
    have v47 : ∀ j, j ≠ 1 → (wA u 47 1 (mI (F + 1))).2.2.1 47 j = u.2.2.1 47 j := fun j h => up2_j (f := u.2.2.1) (k := 47) (j := 1) (x := mI (F + 1)) h
    have v1 : (wA u 47 1 (mI (F + 1))).2.2.1 47 1 = mI (F + 1) := up2_s (f := u.2.2.1) (k := 47) (j := 1) (x := mI (F + 1))
    have hW' : fwd ((wA u 47 1 (mI (F + 1))).2.2.1 47) (F + 1) (setF ls F l) := by
      intro f hf
      by_cases e : f = F
      · subst e
        have es : setF ls f l f = l := if_pos rfl
        rw [es]
        refine ⟨(v47 _ (by omega)).trans hlen, hl, hL.2.2.1, fun j h => (v47 _ (by omega)).trans (hwd j (by omega))⟩
      · have es : setF ls F l f = ls f := if_neg e
        have hf' := hW f (by omega)
        rw [es]
        refine ⟨(v47 _ (by omega)).trans ((hj _ (by omega)).trans hf'.1), hf'.2.1, hf'.2.2.1, fun j h => (v47 _ (by omega)).trans ((hj _ (by omega)).trans (hf'.2.2.2 j h))⟩
    obtain ⟨w', a1, a2, a3⟩ := m_fills (P := P) (ex := ex) (n := n) (sl := sl) (by omega) v1 hW'
    have k47 : w'.2.2.1 47 = (wA u 47 1 (mI (F + 1))).2.2.1 47 := a2.1 47 (by decide) (by decide)
    have kk : ∀ k, k ≠ 47 → (wA u 47 1 (mI (F + 1))).2.2.1 k = w.2.2.1 k := fun k h => by
      show up2 u.2.2.1 47 1 (mI (F + 1)) k = _; rw [up2_k h]; exact hk k h
    refine ⟨w', ?_, ⟨fun k x y z => (a2.1 k y z).trans (kk k x), fun j x y => ?_, fun i x y => (a2.2.1 i x).trans (congrFun (kk 49 (by decide)) i), fun i x y => (a2.2.2.1 i x).trans (congrFun (kk 50 (by decide)) i), fun k j x => ?_, a2.2.2.2.2.1.trans hu2, a2.2.2.2.2.2.trans hu3⟩, a2.2.2.2.1.trans hu1, ?_, ?_, a3⟩
    · rw [E_X8_formula_159, q_46_4, ob, e70, ob, if_pos (by rw [nle (by omega) (by omega)]; omega), q_46_1, ob, e1, ob, naddL, s1, ob, a1, ob]
    · rw [k47, v47 j x]; exact hj j y
    · rw [a2.2.2.2.1]; show u.1 k j = _; rw [hu1]
    · rw [k47]; exact v1
    · rw [k47]; exact hW'
  | succ m ih =>
    intro i u hi hk hj hlen hwd hu1 hu2 hu3
    have e70 : s_ai (hp P u ex n sl) (P.2.1 + 49) 70 = some (mI l.length) := by
      refine Eq.trans (ra_49 (i := 70) (by decide)) ?_
      rw [hk 49 (by decide), hL.1]
    have eat : F_X8_at (P.2.1 + 46) 70 (mI i) (hp P u ex n sl) = some (mI (l.getD i 0), hp P u ex n sl) := by
      refine Eq.trans (m_at (f := 70) (k := i) rfl rfl (by decide) (by omega)) ?_
      rw [hk 50 (by decide), hL.2.2.2 i (by omega)]
    have st : R_X8_formula_159 (P.2.1 + 46) (mI F) (mI i) (hp P u ex n sl) = R_X8_formula_159 (P.2.1 + 46) (mI F) (mI (i + 1)) (hp P (wA u 47 (62 + 41 * F + 1 + i) (mI (l.getD i 0))) ex n sl) := by
      rw [E_X8_formula_159, q_46_4, ob, e70, ob, if_neg (by rw [nle (by omega) (by omega)]; omega), q_46_1, ob, eat, ob]
      try dsimp only
      rw [nmulR, naddR, naddL, nadd, wa_47 (by omega), ob, naddL]
    rw [st]
    refine ih (i + 1) _ (by omega) (fun k h => ?_) (fun j h => ?_) ?_ (fun j h => ?_) hu1 hu2 hu3
    · show up2 u.2.2.1 47 (62 + 41 * F + 1 + i) (mI (l.getD i 0)) k = _; rw [up2_k h]; exact hk k h
    · show up2 u.2.2.1 47 (62 + 41 * F + 1 + i) (mI (l.getD i 0)) 47 j = _; rw [up2_j (by omega)]; exact hj j h
    · show up2 u.2.2.1 47 (62 + 41 * F + 1 + i) (mI (l.getD i 0)) 47 (62 + 41 * F) = _; rw [up2_j (by omega)]; exact hlen
    · show up2 u.2.2.1 47 (62 + 41 * F + 1 + i) (mI (l.getD i 0)) 47 (62 + 41 * F + 1 + j) = _
      by_cases e : j = i
      · subst e; rw [up2_s]
      · rw [up2_j (by omega)]; exact hwd j (by omega)
theorem m_formulaS (hK : KS P) (hD : D ≤ 3) (h7 : w.1 46 7 = mI N) (h400 : N ≤ 400) (h0 : w.2.2.1 47 0 = mI D) (h1 : w.2.2.1 47 1 = mI F) (hF : F < 30) (hb : ∀ i, i < N → t i < 256 ∧ w.2.2.1 51 i = sB (t i)) (hW : fwd (w.2.2.1 47) F ls) (hr : topR t N D = .inl l) : ∃ w', F_X8_formula (P.2.1 + 46) (hp P w ex n sl) = some (mI F, hp P w' ex n sl) ∧ FA F w w' ∧ w'.1 46 0 = 0 ∧ w'.1 46 7 = 0 ∧ w'.1 46 13 = -1 ∧ w'.2.2.1 47 1 = mI (F + 1) ∧ fwd (w'.2.2.1 47) (F + 1) (setF ls F l) ∧ ∀ g, g < F + 1 → hasL w' g (setF ls F l g) := by
  obtain ⟨v, w1, a1, a2, a3, a4, a5⟩ := m_formulaR (ex := ex) (n := n) (sl := sl) hK hD h7 h400 h0 hb
  rw [hr] at a5
  obtain ⟨rfl, a6⟩ := a5
  have hl := a6.2.1
  have k47 : w1.2.2.1 47 = w.2.2.1 47 := a2.1 47 (by decide) (by decide)
  have e47 : (wI w1 46 13 (-1)).2.2.1 47 1 = mI F := by show w1.2.2.1 47 1 = mI F; rw [k47]; exact h1
  have a6' : hasL (wI w1 46 13 (-1)) 70 l := a6
  have hW1 : fwd ((wI w1 46 13 (-1)).2.2.1 47) F ls := by show fwd (w1.2.2.1 47) F ls; rw [k47]; exact hW
  have e70 : s_ai (hp P (wI w1 46 13 (-1)) ex n sl) (P.2.1 + 49) 70 = some (mI l.length) := by
    refine Eq.trans (ra_49 (i := 70) (by decide)) ?_
    exact congrArg some a6.1
  obtain ⟨w', b1, b2', b3, b4, b5, b6⟩ := m_159 (P := P) (ex := ex) (n := n) (sl := sl) hF e47 hW1 a6' l.length 0 (wA (wI w1 46 13 (-1)) 47 (62 + 41 * F) (mI l.length)) (by omega) (fun k h => up2_k (f := w1.2.2.1) (k := 47) (j := 62 + 41 * F) (x := mI l.length) h) (fun j h => up2_j (f := w1.2.2.1) (k := 47) (j := 62 + 41 * F) (x := mI l.length) (by omega)) (up2_s (f := w1.2.2.1) (k := 47) (j := 62 + 41 * F) (x := mI l.length)) (fun j h => by omega) rfl rfl rfl
  refine ⟨w', ?_, ⟨fun k x y z => (b2'.1 k x y z).trans (a2.1 k y z), fun j x y => (b2'.2.1 j x y).trans (congrFun k47 j), fun i x y => (b2'.2.2.1 i x y).trans (a2.2.1 i y), fun i x y => (b2'.2.2.2.1 i x y).trans (a2.2.2.1 i y), fun k j x => ?_, b2'.2.2.2.2.2.1.trans a2.2.2.2.2.1, b2'.2.2.2.2.2.2.trans a2.2.2.2.2.2⟩, ?_, ?_, ?_, b4, b5, b6⟩
  · rw [E_X8_formula, z_46, ob, a1, E_X8_formula_76, if_neg (by decide), E_X8_formula_89, p_46_13, ob, if_neg (by decide), E_X8_formula_102, m_throwsIf0, ob]
    refine Eq.trans (if_pos rfl) ?_
    rw [m_formulas, ob, e47]
    refine Eq.trans (if_neg (show ¬ (mI F = 30) by rw [neqL (by omega) (by decide)]; omega)) ?_
    rw [E_X8_formula_124, m_throwsIf0, ob]
    refine Eq.trans (if_pos rfl) ?_
    rw [m_formulas, ob, e47]
    try dsimp only
    rw [q_46_1, ob, q_46_4, ob, e70, ob, nmulR, naddR, wa_47 (by omega), ob]
    exact b1
  · rw [b2'.2.2.2.2.1 k j x]
    exact (a2.pI (j := 13) (v := -1) (by decide)).2.2.2.1 k j x
  · rw [b3]; exact (wI_j (by decide)).trans a3
  · rw [b3]; exact (wI_j (by decide)).trans a4
  · rw [b3]; exact wI_s
end MFb
