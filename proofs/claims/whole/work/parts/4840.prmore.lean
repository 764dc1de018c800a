/-! more: the model's call, the pair -/
section PMO
variable {P : sP} {S0 e : Nat} {w w' w1 w2 z u : sW} {ex : Nat → Option sC} {n sl D F L R U : Nat} {y : sLn} {φ : Nat → List Nat} {nf : Nat → Nat} {ρ : sRc} {nd : Nat → List Nat}
/-- the four searches -/
noncomputable def srcF (D F : Nat) (φ : Nat → List Nat) (g : Nat) (p : Nat → Prop) : Nat → Nat → Option Nat
  | 0, _ => none
  | d + 1, m => match srch D φ g m p F with
    | some v => some v
    | none => srcF D F φ g p d (m + 1)
theorem srcF_T {g : Nat} {p : Nat → Prop} : srcF D F φ g p 4 0 = srcT D F φ g p := by
  unfold srcT srcF srcF srcF srcF srcF
  cases srch D φ g 0 p F with
  | some v => rfl
  | none =>
    cases srch D φ g 1 p F with
    | some v => rfl
    | none =>
      cases srch D φ g 2 p F with
      | some v => rfl
      | none =>
        cases h : srch D φ g 3 p F with
        | some v => simp [h]
        | none => simp [h]
theorem m_121 {g : Nat} {p : Nat → Prop} (hM : MW w D F L y φ) (hg : g < F) : ∀ d m (u : sW), m + d = 4 → Fr [53, 58, 59] [] w u → FW u D F φ → RW u D 0 p → ∃ w', R_X8_more_121 (P.2.1 + 46) (mI g) (mI m) (hp P u ex n sl) = some (oI (srcF D F φ g p d m), hp P w' ex n sl) ∧ Fr [53, 58, 59] [] w w' := by
  have h30 := hM.2.2.1
  have h2p : 2 ^ F ≤ 2 ^ 30 := Nat.pow_le_pow_right (by decide) h30
  intro d
  induction d with
  | zero =>
    intro m u hm hu hW hR
    have hm : m = 4 := by omega
    subst hm
    refine ⟨u, ?_, hu⟩
    rw [E_X8_more_121, if_pos (by decide)]
    rfl
  | succ d ih =>
    intro m u hm hu hW hR
    have e0 : F_X8_leastNamed (P.2.1 + 46) (mI m) (mI g) (hp P u ex n sl) = R_X8_leastNamed_9 (P.2.1 + 46) (mI m) (mI g) (mI 0) (hp P (wA u 59 0 (-1)) ex n sl) := by
      rw [E_X8_leastNamed, z_46, ob, E_X8_leastNamed_0, q_46_22, ob, show s_si (hp P u ex n sl) (P.2.1 + 59) 0 (-1) = some (hp P (wA u 59 0 (-1)) ex n sl) from wa_59 (i := 0) (by decide), ob]
      rfl
    have s58 : ∀ i, (wA u 59 0 (-1)).2.2.1 58 i = u.2.2.1 58 i := fun i => wA_n (w := u) (Or.inl (show 58 ≠ 59 by decide))
    have N := m_named (P := P) (ex := ex) (n := n) (sl := sl) hM hg m 0 m (wA u 59 0 (-1)) p F (fun _ => 0) (by omega) (by omega) (hu.pA (by decide)) (fun f hf j hj => (s58 _).trans (hW f hf j hj)) (fun j hj => (s58 _).trans (hR j hj)) (fun i hi => absurd hi (by omega)) (fun _ => rfl) (fun q => by omega) (fun _ => wA_s)
    rw [E_X8_more_121, if_neg (show ¬ (3 : Int32) < mI m by rw [nltR (by omega) (by decide)]; exact Nat.not_lt.mpr (by omega)), e0]
    unfold srcF
    cases e : srch D φ g m p F with
    | some v =>
      have hv := srch_lt _ _ _ _ e
      rw [e] at N
      obtain ⟨u', a1, a2⟩ := N
      refine ⟨u', ?_, hu.tr (((Fr.rf (A := [53, 58, 59]) (B := [])).pA (k := 59) (by decide)).tr (a2.mo (by decide) (by decide)))⟩
      rw [show mI (v ||| accN (fun _ => 0) 0) = mI v from congrArg mI (Nat.or_zero v)] at a1
      rw [a1, ob]
      exact if_neg (mI_0 (by omega))
    | none =>
      rw [e] at N
      obtain ⟨u', a1, a2, a3, a4⟩ := N
      rw [a1, show mI 0 + (-1) = (-1 : Int32) from rfl, E_X8_leastNamed_9, if_pos (by decide), ob]
      try dsimp only
      rw [if_pos (by decide), mI_s]
      exact ih (m + 1) u' (by omega) (hu.tr (((Fr.rf (A := [53, 58, 59]) (B := [])).pA (k := 59) (by decide)).tr (a2.mo (by decide) (by decide)))) (fun f hf j hj => (a3 _ (by omega)).trans ((s58 _).trans (hW f hf j hj))) (fun j hj => (a3 _ (by omega)).trans ((s58 _).trans (hR j hj)))
theorem m_moreB {c g : Nat} {s : Int32} (hM : MW w D F L y φ) (hg : g < F) (hc : c < 4) (hs : w.2.2.1 47 (58 + c) = s) : ∃ w', R_X8_more_26 (P.2.1 + 46) (mI c) (mI g) 0 (P.2.1 + 46) (hp P w ex n sl) = some (oI (srcT D F φ g (allT D F φ s)), hp P w' ex n sl) ∧ Fr [53, 58, 59] [] w w' := by
  have nl := nW_lt hM.2.1
  obtain ⟨w1, a1, a2, a3⟩ := m_woa (P := P) (ex := ex) (n := n) (sl := sl) hM
  have fill : ∀ d k (u : sW), k + d = nW D → Fr [53, 58, 59] [] w u → FW u D F φ → (∀ j, j < 32 → u.2.2.1 58 (960 + j) = rwp k (allT D F φ s) j) → ∃ w', R_X8_more_66 (P.2.1 + 46) (mI c) (mI g) (mI k) (hp P u ex n sl) = some (oI (srcT D F φ g (allT D F φ s)), hp P w' ex n sl) ∧ Fr [53, 58, 59] [] w w' := by
    have h30 := hM.2.2.1
    intro d
    induction d with
    | zero =>
      intro k u hk hu hW h1
      have hk : k = nW D := by omega
      subst hk
      obtain ⟨w', b1, b2'⟩ := m_121 (P := P) (ex := ex) (n := n) (sl := sl) (p := allT D F φ s) hM hg 4 0 u (by omega) hu hW h1
      refine ⟨w', ?_, b2'⟩
      rw [E_X8_more_66, m_worldsMany (hM.m58 hu), ob]
      try dsimp only
      rw [if_pos (by rw [nle (by omega) (by omega)]; exact Nat.le_refl _), ← srcF_T]
      exact b1
    | succ d ih =>
      intro k u hk hu hW h1
      have hMu := hM.m58 hu
      obtain ⟨d1, d2⟩ := dv32 k (by omega)
      have e1 : (960 : Int32) + mI (k / 32) = mI (960 + k / 32) := naddR
      have es : u.2.2.1 47 (58 + c) = s := by rw [hu.a (k := 47) (by decide)]; exact hs
      obtain ⟨u1, t1, t2⟩ := m_holdAll (P := P) (ex := ex) (n := n) (sl := sl) (wd := k) (s := s) hMu
      have s1 : ∀ i, u1.2.2.1 58 i = u.2.2.1 58 i := fun i => by rw [(t2.1 58 (by decide)).1]
      rw [E_X8_more_66, m_worldsMany hMu, ob]
      try dsimp only
      rw [if_neg (show ¬ mI (nW D) ≤ mI k by rw [nle (by omega) (by omega)]; omega), q_46_21, ob, d2, d1, e1, ra_58 (by omega), ob, h1 (k / 32) (by omega), m_told hc, ob, es]
      try dsimp only
      rw [t1, ob]
      try dsimp only
      have put : ∀ x : Int32, rwp k (allT D F φ s) (k / 32) ||| x = rwp (k + 1) (allT D F φ s) (k / 32) → ∃ w', R_X8_more_111 (P.2.1 + 46) (mI c) (mI g) (mI k) x (rwp k (allT D F φ s) (k / 32)) (mI (960 + k / 32)) (P.2.1 + 58) (hp P u1 ex n sl) = some (oI (srcT D F φ g (allT D F φ s)), hp P w' ex n sl) ∧ Fr [53, 58, 59] [] w w' := by
        intro x hx
        rw [E_X8_more_111, wa_58 (by omega), ob, hx, mI_s]
        refine ih (k + 1) _ (by omega) ((hu.tr (t2.mo (by decide) (by decide))).pA (by decide)) (fun f hf j hj => ?_) (fun j hj => ?_)
        · exact (wA_n (w := u1) (Or.inr (by omega))).trans ((s1 _).trans (hW f hf j hj))
        · by_cases q : j = k / 32
          · subst q; exact wA_s
          · exact (wA_n (w := u1) (Or.inr (by omega))).trans ((s1 _).trans ((h1 j hj).trans (rwp_o q).symm))
      by_cases q : allT D F φ s k
      · rw [if_neg (fun z => b2_0.mp z q)]
        exact put _ (rwp_t1 (p := allT D F φ s) q).symm
      · rw [if_pos (b2_0.mpr q)]
        exact put 0 (by rw [Int32.or_zero]; exact (rwp_t0 (p := allT D F φ s) q).symm)
  have zr : ∀ d k (u : sW), k + d = 32 → Fr [53, 58, 59] [] w u → FW u D F φ → (∀ j, j < k → u.2.2.1 58 (960 + j) = 0) → ∃ w', R_X8_more_41 (P.2.1 + 46) (mI c) (mI g) (mI k) (hp P u ex n sl) = some (oI (srcT D F φ g (allT D F φ s)), hp P w' ex n sl) ∧ Fr [53, 58, 59] [] w w' := by
    have h30 := hM.2.2.1
    intro d
    induction d with
    | zero =>
      intro k u hk hu hW h1
      have hk : k = 32 := by omega
      subst hk
      rw [E_X8_more_41, if_pos (by decide)]
      exact fill (nW D) 0 u (by omega) hu hW (fun j hj => by rw [h1 j hj, rwp_0])
    | succ d ih =>
      intro k u hk hu hW h1
      rw [E_X8_more_41, if_neg (show ¬ (32 : Int32) ≤ mI k by rw [nleR (by omega) (by decide)]; exact Nat.not_le.mpr (by omega)), q_46_21, ob, show (960 : Int32) + mI k = mI (960 + k) from naddR, wa_58 (by omega), ob, mI_s]
      refine ih (k + 1) _ (by omega) (hu.pA (by decide)) (fun f hf j hj => (wA_n (w := u) (Or.inr (by omega))).trans (hW f hf j hj)) (fun j hj => ?_)
      by_cases q : j = k
      · subst q; exact wA_s
      · exact (wA_n (w := u) (Or.inr (by omega))).trans (h1 j (by omega))
  obtain ⟨w', h1, h2⟩ := zr 32 0 w1 (by omega) a2 a3 (fun j hj => absurd hj (by omega))
  refine ⟨w', ?_, h2⟩
  rw [E_X8_more_26, m_throwsIf0, ob]
  try dsimp only
  rw [if_pos rfl, a1, ob]
  exact h1
theorem pr_more (hI : IVa P S0 e w n sl D F L R U y φ nf ρ nd) (v v' : Int32) : PI P S0 e w ex n sl (F_X7_more P.2.1 v v') (F_X8_more (P.2.1 + 46) v v') csX anyI := by
  have hb := hI.b
  have hC := hI.C
  have hQ := hI.Q
  have hM0 := hI.M.t0 (v := 0)
  by_cases h : inN v 4
  · obtain ⟨c, hc, rfl⟩ := inN_to (by omega) h
    by_cases h' : inN v' F
    · obtain ⟨g, hg, rfl⟩ := inN_to (by omega) h'
      obtain ⟨w1, a1, a2⟩ := c_fewestMore (P := P) (ex := ex) (n := n) (sl := sl) (s := w.2.2.1 12 c) hC hQ hg
      refine PI.q trivial hI (x := oI (srcT D F φ g (allT D F φ (w.2.2.1 12 c)))) (w1 := w1) ?_ (a2.fv (by decide) (by decide)) (fun u hu hv => ?_)
      · simp only [E_X7_more, E_X7_more_0, z_0, ob, c_needCT h, c_needFT hC.2.2.2.2.2.1 h', sumL, q_0_4, q_0_1, q_9_5, ra_12 hc, a1]
      · have es : (wI u 46 0 0).2.2.1 47 (58 + c) = w.2.2.1 12 c := by
          show u.2.2.1 47 (58 + c) = _
          rw [← hu.H.2.2 c hc, (hv.1 12 (by decide)).1]
        obtain ⟨w', t1, t2⟩ := m_moreB (P := P) (ex := ex) (n := n) (sl := sl) (hu.M.t0 (v := 0)) hg hc es
        refine ⟨w', ?_, FV.t0.tr (t2.fv (by decide) (by decide)), by rw [(t2.2.1 46 0 (by decide)).1]; exact wI_s⟩
        simp only [E_X8_more, E_X8_more_0, z_46, p_46_0, ob, m_noCustomer, m_noFM (hu.M.t0 (v := 0)), b2_f (not_not_intro h), b2_f (not_not_intro h'), i00, if_true]
        exact t1
    · refine PI.x (E := eIX) (k := 1) (b := 0) (w2 := wI w 46 0 1) hI (by decide) ?_ ?_ FV.t0 wI_s
      · simp only [E_X7_more, E_X7_more_0, z_0, ob, c_needCT h, sumL, c_needFF hC.2.2.2.2.2.1 h', sumR]
      · simp only [E_X8_more, E_X8_more_0, E_X8_more_21, E_X8_more_26, z_46, p_46_0, ob, m_noCustomer, m_noFM hM0, b2_f (not_not_intro h), b2_t h', i00, i10, if_true, if_false, m_throwsIf1, wI_wI]
  · refine PI.x (E := eIX) (k := 1) (b := 0) (w2 := wI w 46 0 1) hI (by decide) ?_ ?_ FV.t0 wI_s
    · simp only [E_X7_more, E_X7_more_0, z_0, ob, c_needCF h, sumR]
    · simp only [E_X8_more, E_X8_more_0, E_X8_more_21, E_X8_more_26, z_46, p_46_0, ob, m_noCustomer, b2_t h, i10, if_false, m_throwsIf1, wI_wI]
end PMO
