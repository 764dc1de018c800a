/-! the class's books: a formula comes -/
section CAd
variable {P : sP} {ex : Nat → Option sC} {n sl F D U i : Nat} {nd : Nat → List Nat} {w : sW}
/-- what adding formula F with root i changes -/
def FB (D F i : Nat) (l : List Nat) (w w' : sW) : Prop := Fr [10, 15] [902] w w' ∧ w'.1 9 2 = mI (F + 1) ∧ (∀ j, j ≠ F → w'.2.2.1 15 j = w.2.2.1 15 j) ∧ w'.2.2.1 15 F = mI i ∧ (∀ j, j < F * 16 ∨ F * 16 + 16 ≤ j → w'.2.2.2.1 10 j = w.2.2.2.1 10 j) ∧ ∀ wo, wo < wds D → w'.2.2.2.1 10 (F * 16 + wo) = rowS (fun wd => TR D wd l) wo
theorem c_addL (hK : KC P) (hN : NT w U D nd) (h1 : 1 ≤ D) (h3 : D ≤ 3) (hi : i < U) (hc : clo (nd i)) (h0 : w.1 9 0 = mI D) (h2 : w.1 9 2 = mI F) (hF : F < 30) : ∀ m k (u : sW), k + m = wds D → Fr [10, 15] [902] w u → u.1 9 2 = mI F → (∀ j, j ≠ F → u.2.2.1 15 j = w.2.2.1 15 j) → u.2.2.1 15 F = mI i → (∀ j, j < F * 16 ∨ F * 16 + 16 ≤ j → u.2.2.2.1 10 j = w.2.2.2.1 10 j) → (∀ wo, wo < k → u.2.2.2.1 10 (F * 16 + wo) = rowS (fun wd => TR D wd (nd i)) wo) → ∃ w', R_X1_addFormula_23 (P.2.1 + 9) (mI i) (P.2.1 + 1) (mI k) (hp P u ex n sl) = some (mI F, hp P w' ex n sl) ∧ FB D F i (nd i) w w' := by
  have hw := nW_w h1 h3
  intro m
  induction m with
  | zero =>
    intro k u hk fr e2 a15 b15 a10 b10
    have e0 : u.1 9 0 = mI D := (fr.2.1 9 0 (by decide)).1.trans h0
    refine ⟨wI u 9 2 (mI (F + 1)), ?_, fr.pI (by decide), wI_s, a15, b15, a10, fun wo h => b10 wo (by omega)⟩
    rw [E_X1_addFormula_23, c_words e0 h1 h3, ob, if_pos (by rw [nle (by omega) (by omega)]; omega)]
    try dsimp only
    rw [q_9_2, ob, e2, naddL, p_9_2, ob]
  | succ m ih =>
    intro k u hk fr e2 a15 b15 a10 b10
    have e0 : u.1 9 0 = mI D := (fr.2.1 9 0 (by decide)).1.trans h0
    have hN' : NT u U D nd := hN.fr fr (by decide) (by decide) (by decide) (by decide) (by decide) (by decide)
    have tr := c_truth (P := P) (ex := ex) (n := n) (sl := sl) (x := mI i) (v := mI k) (z := mI D) rfl rfl rfl hK hN' h1 h3 hi hc
    have st : R_X1_addFormula_23 (P.2.1 + 9) (mI i) (P.2.1 + 1) (mI k) (hp P u ex n sl) = R_X1_addFormula_23 (P.2.1 + 9) (mI i) (P.2.1 + 1) (mI (k + 1)) (hp P (wL u 10 (F * 16 + k) (rowS (fun wd => TR D wd (nd i)) k)) ex n sl) := by
      rw [E_X1_addFormula_23, c_words e0 h1 h3, ob, if_neg (by rw [nle (by omega) (by omega)]; omega)]
      try dsimp only
      rw [q_9_3, ob, q_9_2, ob, e2, q_9_0, ob, e0, tr, ob]
      try dsimp only
      rw [nmulL, nadd, wa_10 (by omega), ob, naddL, show row D k (nd i) = rowS (fun wd => TR D wd (nd i)) k from mk64_congr fun b hb => (TR_0 h1 hc).symm]
    rw [st]
    refine ih (k + 1) _ (by omega) (fr.pL (by decide)) e2 a15 b15 (fun j h => ?_) (fun wo h => ?_)
    · show up2 u.2.2.2.1 10 (F * 16 + k) (rowS (fun wd => TR D wd (nd i)) k) 10 j = _
      rw [up2_j (by omega)]; exact a10 j h
    · show up2 u.2.2.2.1 10 (F * 16 + k) (rowS (fun wd => TR D wd (nd i)) k) 10 (F * 16 + wo) = _
      by_cases e : wo = k
      · subst e; rw [up2_s]
      · rw [up2_j (by omega)]; exact b10 wo (by omega)
theorem c_addFormula (hK : KC P) (hN : NT w U D nd) (h1 : 1 ≤ D) (h3 : D ≤ 3) (hi : i < U) (hc : clo (nd i)) (h0 : w.1 9 0 = mI D) (h2 : w.1 9 2 = mI F) (hF : F < 30) : ∃ w', F_X1_addFormula (P.2.1 + 9) (mI i) (P.2.1 + 1) (hp P w ex n sl) = some (mI F, hp P w' ex n sl) ∧ FB D F i (nd i) w w' := by
  have key := c_addL (P := P) (ex := ex) (n := n) (sl := sl) hK hN h1 h3 hi hc h0 h2 hF (wds D) 0 (wA w 15 F (mI i)) (by omega) (Fr.rf.pA (by decide)) h2 (fun j h => up2_j (f := w.2.2.1) (k := 15) (j := F) (x := mI i) h) (up2_s (f := w.2.2.1) (k := 15) (j := F) (x := mI i)) (fun _ _ => rfl) (fun wo h => absurd h (Nat.not_lt_zero wo))
  rw [E_X1_addFormula, z_9, ob, E_X1_addFormula_0, q_9_2, ob, h2, if_pos (by rw [nltL (by omega) (by decide)]; exact hF), q_9_11, ob, ob, wa_15 (by omega), ob]
  exact key
end CAd
