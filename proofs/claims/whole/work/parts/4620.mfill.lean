/-! the model's formula: filling the places, reading the tape -/
def fwd (A : Nat → Int32) (F : Nat) (l : Nat → List Nat) : Prop := ∀ f, f < F → A (62 + 41 * f) = mI (l f).length ∧ (l f).length ≤ 40 ∧ (∀ s ∈ l f, s < 18) ∧ ∀ i, i < (l f).length → A (62 + 41 * f + 1 + i) = mI ((l f).getD i 0)
/-- what filling may change -/
def FL (F : Nat) (w w' : sW) : Prop := (∀ k, k ≠ 49 → k ≠ 50 → w'.2.2.1 k = w.2.2.1 k) ∧ (∀ i, F ≤ i → w'.2.2.1 49 i = w.2.2.1 49 i) ∧ (∀ i, 40 * F ≤ i → w'.2.2.1 50 i = w.2.2.1 50 i) ∧ w'.1 = w.1 ∧ w'.2.1 = w.2.1 ∧ w'.2.2.2 = w.2.2.2
theorem FL.rf {F : Nat} {w : sW} : FL F w w := ⟨fun _ _ _ => rfl, fun _ _ => rfl, fun _ _ => rfl, rfl, rfl, rfl⟩
theorem FL.a49 {F i : Nat} {w w' : sW} {v : Int32} (h : FL F w w') (hi : i < F) : FL F w (Prod.mk w'.1 (Prod.mk w'.2.1 (Prod.mk (up2 w'.2.2.1 49 i v) w'.2.2.2))) := by
  refine ⟨fun k a b => ?_, fun j a => ?_, fun j a => ?_, h.2.2.2⟩
  · show up2 w'.2.2.1 49 i v k = _; rw [up2_k a]; exact h.1 k a b
  · show up2 w'.2.2.1 49 i v 49 j = _; rw [up2_j (by omega)]; exact h.2.1 j a
  · show up2 w'.2.2.1 49 i v 50 j = _; rw [up2_k (by decide)]; exact h.2.2.1 j a
theorem FL.a50 {F i : Nat} {w w' : sW} {v : Int32} (h : FL F w w') (hi : i < 40 * F) : FL F w (Prod.mk w'.1 (Prod.mk w'.2.1 (Prod.mk (up2 w'.2.2.1 50 i v) w'.2.2.2))) := by
  refine ⟨fun k a b => ?_, fun j a => ?_, fun j a => ?_, h.2.2.2⟩
  · show up2 w'.2.2.1 50 i v k = _; rw [up2_k b]; exact h.1 k a b
  · show up2 w'.2.2.1 50 i v 49 j = _; rw [up2_k (by decide)]; exact h.2.1 j a
  · show up2 w'.2.2.1 50 i v 50 j = _; rw [up2_j (by omega)]; exact h.2.2.1 j a
section MFi
variable {P : sP} {ex : Nat → Option sC} {n sl F : Nat} {l : Nat → List Nat} {w : sW}
theorem m_fillsI (hF : F ≤ 30) (hW : fwd (w.2.2.1 47) F l) {f : Nat} (hf : f < F) (next : ∀ u : sW, FL F w u → (∀ g, g < f + 1 → hasL u g (l g)) → ∃ w', R_X8_fills_2 (P.2.1 + 46) (mI (f + 1)) (hp P u ex n sl) = some ((), hp P w' ex n sl) ∧ FL F w w' ∧ ∀ g, g < F → hasL w' g (l g)) : ∀ m i (u : sW), i + m = (l f).length → FL F w u → (∀ g, g < f → hasL u g (l g)) → u.2.2.1 49 f = mI (l f).length → (∀ j, j < i → u.2.2.1 50 (40 * f + j) = mI ((l f).getD j 0)) → ∃ w', R_X8_fills_30 (P.2.1 + 46) (mI f) (mI i) (hp P u ex n sl) = some ((), hp P w' ex n sl) ∧ FL F w w' ∧ ∀ g, g < F → hasL w' g (l g) := by
  have hw := hW f hf
  intro m
  induction m with
  | zero =>
    intro i u hi fl hp1 h49 h50
    obtain ⟨w', a1, a2⟩ := next u fl (fun g hg => by
      by_cases e : g = f
      · subst e; exact ⟨h49, hw.2.1, hw.2.2.1, fun k hk => h50 k (by omega)⟩
      · exact hp1 g (by omega))
    refine ⟨w', ?_, a2⟩
    rw [E_X8_fills_30, q_46_4, ob, ra_49 (by omega), ob, h49, if_pos (by rw [nle (by omega) (by omega)]; omega), naddL]
    exact a1
  | succ m ih =>
    intro i u hi fl hp1 h49 h50
    have h47 : u.2.2.1 47 = w.2.2.1 47 := fl.1 47 (by decide) (by decide)
    have st : R_X8_fills_30 (P.2.1 + 46) (mI f) (mI i) (hp P u ex n sl) = R_X8_fills_30 (P.2.1 + 46) (mI f) (mI (i + 1)) (hp P (wA u 50 (40 * f + i) (mI ((l f).getD i 0))) ex n sl) := by
      rw [E_X8_fills_30, q_46_4, ob, ra_49 (by omega), ob, h49, if_neg (by rw [nle (by omega) (by omega)]; omega), q_46_5, ob, q_46_1, ob, nmulR, naddR, naddL, nadd, ra_47 (by omega), ob, h47, hw.2.2.2 i (by omega), nmulR, nadd, wa_50 (by omega), ob, naddL]
    rw [st]
    refine ih (i + 1) _ (by omega) (fl.a50 (by omega)) (fun g hg => ?_) ?_ (fun j hj => ?_)
    · have hg' := hp1 g hg
      refine ⟨?_, hg'.2.1, hg'.2.2.1, fun k hk => ?_⟩
      · show up2 u.2.2.1 50 (40 * f + i) (mI ((l f).getD i 0)) 49 g = _; rw [up2_k (by decide)]; exact hg'.1
      · show up2 u.2.2.1 50 (40 * f + i) (mI ((l f).getD i 0)) 50 (40 * g + k) = _
        have := hg'.2.1
        rw [up2_j (by omega)]; exact hg'.2.2.2 k hk
    · show up2 u.2.2.1 50 (40 * f + i) (mI ((l f).getD i 0)) 49 f = _; rw [up2_k (by decide)]; exact h49
    · show up2 u.2.2.1 50 (40 * f + i) (mI ((l f).getD i 0)) 50 (40 * f + j) = _
      by_cases e : j = i
      · subst e; rw [up2_s]
      · rw [up2_j (by omega)]; exact h50 j (by omega)
theorem m_fills (hF : F ≤ 30) (h1 : w.2.2.1 47 1 = mI F) (hW : fwd (w.2.2.1 47) F l) : ∃ w', F_X8_fills (P.2.1 + 46) (hp P w ex n sl) = some ((), hp P w' ex n sl) ∧ FL F w w' ∧ ∀ g, g < F → hasL w' g (l g) := by
  have key : ∀ m f (u : sW), f + m = F → FL F w u → (∀ g, g < f → hasL u g (l g)) → ∃ w', R_X8_fills_2 (P.2.1 + 46) (mI f) (hp P u ex n sl) = some ((), hp P w' ex n sl) ∧ FL F w w' ∧ ∀ g, g < F → hasL w' g (l g) := by
    intro m
    induction m with
    | zero =>
      intro f u hf fl hp1
      have h47 : u.2.2.1 47 = w.2.2.1 47 := fl.1 47 (by decide) (by decide)
      refine ⟨u, ?_, fl, fun g hg => hp1 g (by omega)⟩
      rw [E_X8_fills_2, m_formulas, ob, h47, h1, if_pos (by rw [nle (by omega) (by omega)]; omega)]
    | succ m ih =>
      intro f u hf fl hp1
      have h47 : u.2.2.1 47 = w.2.2.1 47 := fl.1 47 (by decide) (by decide)
      have hw := hW f (by omega)
      have st : R_X8_fills_2 (P.2.1 + 46) (mI f) (hp P u ex n sl) = R_X8_fills_30 (P.2.1 + 46) (mI f) (mI 0) (hp P (wA u 49 f (mI (l f).length)) ex n sl) := by
        rw [E_X8_fills_2, m_formulas, ob, h47, h1, if_neg (by rw [nle (by omega) (by omega)]; omega)]
        try dsimp only
        rw [q_46_4, ob, q_46_1, ob, nmulR, naddR, ra_47 (by omega), ob, h47, hw.1, wa_49 (by omega), ob]
        rfl
      rw [st]
      refine m_fillsI hF hW (f := f) (by omega) (fun v fv hv => ih (f + 1) v (by omega) fv hv) (l f).length 0 _ (by omega) (fl.a49 (by omega)) (fun g hg => ?_) ?_ (fun j hj => by omega)
      · have hg' := hp1 g hg
        refine ⟨?_, hg'.2.1, hg'.2.2.1, fun k hk => ?_⟩
        · show up2 u.2.2.1 49 f (mI (l f).length) 49 g = _; rw [up2_j (by omega)]; exact hg'.1
        · show up2 u.2.2.1 49 f (mI (l f).length) 50 (40 * g + k) = _; rw [up2_k (by decide)]; exact hg'.2.2.2 k hk
      · show up2 u.2.2.1 49 f (mI (l f).length) 49 f = _; rw [up2_s]
  rw [E_X8_fills, z_46, ob, E_X8_fills_0]
  exact key F 0 w (by omega) FL.rf (fun g hg => by omega)
end MFi
