/-! pairs of calls: questions on formulas and worlds -/
theorem sumL {α β γ : Type} {x : α} {f : α → γ} {g : β → γ} : s_sum (.inl x) f g = f x := rfl
theorem sumR {α β γ : Type} {x : β} {f : α → γ} {g : β → γ} : s_sum (.inr x) f g = g x := rfl
theorem i10 : ((1 : Int32) = 0) = False := eq_false (by decide)
theorem i00 : ((0 : Int32) = 0) = True := eq_true rfl
theorem mI_s {k : Nat} : mI k + 1 = mI (k + 1) := mI_add k 1
theorem mI_z {k : Nat} : mI k + 0 = mI k := mI_add k 0
theorem in_N {x : Int32} {N : Nat} (h : N + 1 < 2 ^ 31) : (¬ x < 0 ∧ ¬ mI N < x) ↔ inN x (N + 1) := by
  have e := mI_pred (F := N + 1) (x := x) h
  have e2 : mI (N + 1) - 1 = mI N := mI_sub (a := N + 1) (b := 1) (by omega)
  rw [e2] at e
  unfold inN
  rw [e]
theorem inN_lt2 {x : Int32} {F : Nat} (h : inN x F) : (x < mI F) = True := eq_true ((inN_lt h.1).mpr h.2)
theorem inN_ge {x : Int32} {F : Nat} (h : ¬ inN x F) (h0 : ¬ x < 0) : (x < mI F) = False := eq_false (fun z => h ⟨h0, (inN_lt h0).mp z⟩)
theorem bol_b2 {p : Prop} : bolI (b2 p) := b2_or
section QST
variable {P : sP} {S0 e : Nat} {w : sW} {ex : Nat → Option sC} {n sl D F L R U : Nat} {y : sLn} {φ : Nat → List Nat} {nf : Nat → Nat} {ρ : sRc} {nd : Nat → List Nat}
theorem MW.t0 {v : Int32} (h : MW w D F L y φ) : MW (wI w 46 0 v) D F L y φ := h.fr ((Fr.rf (A := []) (B := [4600])).pI (k := 46) (j := 0) (by decide)) (by decide) (by decide) (by decide)
theorem m_formulasM (h : MW w D F L y φ) : F_X8_formulas (P.2.1 + 46) (hp P w ex n sl) = some (mI F, hp P w ex n sl) := by rw [m_formulas, h.2.2.2.2.2.1]
theorem m_linesM (h : MW w D F L y φ) : F_X8_lines (P.2.1 + 46) (hp P w ex n sl) = some (mI L, hp P w ex n sl) := by rw [m_lines, h.2.2.2.2.2.2.1]
theorem m_noFM {x : Int32} (h : MW w D F L y φ) : F_X8_noFormula (P.2.1 + 46) x (hp P w ex n sl) = some (b2 (¬ inN x F), hp P w ex n sl) := m_noFormula h.2.2.2.2.2.1 (by have := h.2.2.1; omega)
theorem m_noLM {x : Int32} (h : MW w D F L y φ) : F_X8_noLine (P.2.1 + 46) x (hp P w ex n sl) = some (b2 (¬ inN x L), hp P w ex n sl) := m_noLine h.2.2.2.2.2.2.1 (by have := h.2.2.2.1; omega)
theorem m_noWM {x : Int32} (h : MW w D F L y φ) : F_X8_noWorld (P.2.1 + 46) x (hp P w ex n sl) = some (b2 (¬ inN x (nW D)), hp P w ex n sl) := by
  have h1 := nW_lt h.2.1
  simp only [E_X8_noWorld, E_X8_noWorld_0, z_46, ob, m_worldsMany h, m_in, m_neg]
  rw [show (¬ (¬ x < 0 ∧ ¬ mI (nW D) - 1 < x)) = ¬ inN x (nW D) by rw [inN, mI_pred (by omega)]]
theorem c_needWoT {x : Int32} (hQ : CQ w D F φ) (h : inN x (nW D)) : F_X7_needWorld P.2.1 x (hp P w ex n sl) = some (.inl (), hp P w ex n sl) := by
  simp only [E_X7_needWorld, E_X7_needWorld_0, z_0, ob, q_0_1, c_worldCount hQ.2.2.2.1 hQ.1 hQ.2.1, inN_lt2 h, h.1, if_true, if_false]
theorem c_needWoF {x : Int32} (hQ : CQ w D F φ) (h : ¬ inN x (nW D)) : F_X7_needWorld P.2.1 x (hp P w ex n sl) = some (.inr eIA, hp P w ex (n + 1) (sl + 6)) := by
  simp only [E_X7_needWorld, E_X7_needWorld_0, z_0, ob, q_0_1, c_worldCount hQ.2.2.2.1 hQ.1 hQ.2.1]
  by_cases h0 : x < 0
  · rw [if_pos h0]; rfl
  · simp only [h0, inN_ge h h0, if_false, hp_ex]
theorem c_nodeF {f : Nat} (hC : CW w D F L U y φ nd nf) (hf : f < F) : F_X1_nodeOf (P.2.1 + 9) (mI f) (hp P w ex n sl) = some (mI (nf f), hp P w ex n sl) := by
  rw [c_nodeOf hC.2.2.2.2.2.1 hC.2.2.1 rfl hf, (hC.2.2.2.2.2.2.2.2.2.2 f hf).2.1]
/-! signs -/
theorem pr_signs (hI : IVa P S0 e w n sl D F L R U y φ nf ρ nd) (v : Int32) : PI P S0 e w ex n sl (F_X7_signs P.2.1 v) (F_X8_signs (P.2.1 + 46) v) csX anyI := by
  have hb := hI.b
  by_cases h : inN v F
  · obtain ⟨f, hf, rfl⟩ := inN_to (by omega) h
    exact PI.q trivial hI (c_signs7 hI.C hf) FV.rf (fun u hu _ => ⟨_, m_signs hu.M.2.2.2.2.2.1 hb.2.2.1 hf (hu.M.2.2.2.2.2.2.2.2.2 f hf).1, FV.t0, wI_s⟩)
  · refine PI.x (E := eIX) (k := 1) hI (by decide) ?_ (m_signsX hI.M.2.2.2.2.2.1 hb.2.2.1 h) FV.t0 wI_s
    simp only [E_X7_signs, E_X7_signs_0, z_0, ob, c_needFF hI.C.2.2.2.2.2.1 h, sumR]
/-! same -/
theorem c_same7 {f g : Nat} (hC : CW w D F L U y φ nd nf) (hf : f < F) (hg : g < F) : F_X7_same P.2.1 (mI f) (mI g) (hp P w ex n sl) = some (.inl (b2 (φ f = φ g)), hp P w ex n sl) := by
  have hb := hC.2.2.1
  simp only [E_X7_same, E_X7_same_0, z_0, ob, c_needFT hC.2.2.2.2.2.1 (inN_of (F := F) (by omega) hf), c_needFT hC.2.2.2.2.2.1 (inN_of (F := F) (by omega) hg), sumL, q_0_1, c_nodeF hC hf, c_nodeF hC hg, c_sameN hC hf hg]
  by_cases h : φ f = φ g
  · rw [if_pos h, b2_t h]
  · rw [if_neg h, b2_f h]
theorem m_same8 {f g : Nat} (hM : MW w D F L y φ) (hf : f < F) (hg : g < F) : F_X8_same (P.2.1 + 46) (mI f) (mI g) (hp P w ex n sl) = some (b2 (φ f = φ g), hp P (wI w 46 0 0) ex n sl) := by
  have hb := hM.2.2.1
  have hM0 := hM.t0 (v := 0)
  simp only [E_X8_same, E_X8_same_0, E_X8_same_27, z_46, p_46_0, ob, m_noFM hM0, b2_f (not_not_intro (inN_of (F := F) (by omega) hf)), b2_f (not_not_intro (inN_of (F := F) (by omega) hg)), i00, if_true, m_throwsIf0]
  rw [m_isSame (l := φ f) (l' := φ g) rfl rfl (by omega) (by omega) (hM0.2.2.2.2.2.2.2.2.2 f hf).1 (hM0.2.2.2.2.2.2.2.2.2 g hg).1, ob]
  exact m_bool
theorem m_same8X {x v : Int32} (hM : MW w D F L y φ) (h : ¬ (inN x F ∧ inN v F)) : F_X8_same (P.2.1 + 46) x v (hp P w ex n sl) = some (0, hp P (wI w 46 0 1) ex n sl) := by
  have hM0 := hM.t0 (v := 0)
  by_cases h1 : inN x F
  · have h2 : ¬ inN v F := fun z => h ⟨h1, z⟩
    simp only [E_X8_same, E_X8_same_0, E_X8_same_22, E_X8_same_27, z_46, p_46_0, ob, m_noFM hM0, b2_f (not_not_intro h1), b2_t h2, i00, i10, if_true, if_false, m_throwsIf1, wI_wI]
  · simp only [E_X8_same, E_X8_same_0, E_X8_same_22, E_X8_same_27, z_46, p_46_0, ob, m_noFM hM0, b2_t h1, i00, i10, if_true, if_false, m_throwsIf1, wI_wI]
theorem pr_same (hI : IVa P S0 e w n sl D F L R U y φ nf ρ nd) (v v' : Int32) : PI P S0 e w ex n sl (F_X7_same P.2.1 v v') (F_X8_same (P.2.1 + 46) v v') csX bolI := by
  have hb := hI.b
  by_cases h : inN v F ∧ inN v' F
  · obtain ⟨f, hf, rfl⟩ := inN_to (by omega) h.1
    obtain ⟨g, hg, rfl⟩ := inN_to (by omega) h.2
    exact PI.q bol_b2 hI (c_same7 hI.C hf hg) FV.rf (fun u hu _ => ⟨_, m_same8 hu.M hf hg, FV.t0, wI_s⟩)
  · refine PI.x (E := eIX) (k := 1) hI (by decide) ?_ (m_same8X hI.M h) FV.t0 wI_s
    by_cases h1 : inN v F
    · simp only [E_X7_same, E_X7_same_0, z_0, ob, c_needFT hI.C.2.2.2.2.2.1 h1, sumL, c_needFF hI.C.2.2.2.2.2.1 (fun z => h ⟨h1, z⟩), sumR]
    · simp only [E_X7_same, E_X7_same_0, z_0, ob, c_needFF hI.C.2.2.2.2.2.1 h1, sumR]
/-! holds -/
theorem m_holds8 {f wd : Nat} (hM : MW w D F L y φ) (hf : f < F) (hw : wd < nW D) : ∃ w', F_X8_holds (P.2.1 + 46) (mI f) (mI wd) (hp P w ex n sl) = some (b2 (TR D wd (φ f)), hp P w' ex n sl) ∧ FV w w' ∧ w'.1 46 0 = 0 := by
  have hb := hM.2.2.1
  have h1 := nW_lt hM.2.1
  have hM0 := hM.t0 (v := 0)
  obtain ⟨w', t1, t2⟩ := m_true (P := P) (ex := ex) (n := n) (sl := sl) (wd := wd) hM0 hf
  refine ⟨w', ?_, FV.t0.tr (t2.fv (by decide) (by decide)), ?_⟩
  · simp only [E_X8_holds, E_X8_holds_0, z_46, p_46_0, ob, m_noFM hM0, m_noWM hM0, b2_f (not_not_intro (inN_of (F := F) (by omega) hf)), b2_f (not_not_intro (inN_of (F := nW D) (by omega) hw)), i00, if_true, m_throwsIf0, t1, m_bool]
  · rw [(t2.2.1 46 0 (by decide)).1]; exact wI_s
theorem pr_holds (hI : IVa P S0 e w n sl D F L R U y φ nf ρ nd) (v v' : Int32) : PI P S0 e w ex n sl (F_X7_holds P.2.1 v v') (F_X8_holds (P.2.1 + 46) v v') csXA bolI := by
  have hb := hI.b
  have hC := hI.C
  have hQ := hI.Q
  have hM0 := hI.M.t0 (v := 0)
  have hw := nW_lt hb.2.1
  by_cases h : inN v F
  · obtain ⟨f, hf, rfl⟩ := inN_to (by omega) h
    by_cases h' : inN v' (nW D)
    · obtain ⟨wd, hwd, rfl⟩ := inN_to (by omega) h'
      refine PI.q bol_b2 hI (x := b2 (TR D wd (φ f))) (w1 := w) ?_ FV.rf (fun u hu _ => m_holds8 hu.M hf hwd)
      simp only [E_X7_holds, E_X7_holds_0, z_0, ob, c_needFT hC.2.2.2.2.2.1 h, sumL, c_needWoT hQ h', q_0_1, c_isTrueC rfl rfl hQ.2.2.2.2.2 hQ.2.2.2.2.1 hQ.2.2.1 hf hQ.1 hQ.2.1 hwd]
      exact if_pos b2_or
    · refine PI.x (E := eIA) (k := 2) (b := 0) (w2 := wI w 46 0 2) hI (by decide) ?_ ?_ FV.t0 wI_s
      · simp only [E_X7_holds, E_X7_holds_0, z_0, ob, c_needFT hC.2.2.2.2.2.1 h, sumL, c_needWoF hQ h', sumR]
      · simp only [E_X8_holds, E_X8_holds_0, z_46, p_46_0, ob, m_noFM hM0, m_noWM hM0, b2_f (not_not_intro h), b2_t h', i00, i10, if_true, if_false, m_throwsIf0, m_throwsIf1, wI_wI]
  · refine PI.x (E := eIX) (k := 1) (b := 0) (w2 := wI w 46 0 1) hI (by decide) ?_ ?_ FV.t0 wI_s
    · simp only [E_X7_holds, E_X7_holds_0, z_0, ob, c_needFF hC.2.2.2.2.2.1 h, sumR]
    · simp only [E_X8_holds, E_X8_holds_0, z_46, p_46_0, ob, m_noFM hM0, b2_t h, i10, if_false, m_throwsIf1, wI_wI]
/-! worlds -/
theorem m_worldsL {f : Nat} (hM : MW w D F L y φ) (hf : f < F) : ∀ d k (u : sW), k + d = nW D → Fr [53] [] w u → ∃ w', R_X8_worlds_24 (P.2.1 + 46) (mI f) (mI (cntP (fun wd => TR D wd (φ f)) k)) (mI k) (hp P u ex n sl) = some (mI (cntP (fun wd => TR D wd (φ f)) (nW D)), hp P w' ex n sl) ∧ Fr [53] [] w w' := by
  have h1 := nW_lt hM.2.1
  intro d
  induction d with
  | zero =>
    intro k u hk hu
    have hk : k = nW D := by omega
    subst hk
    refine ⟨u, ?_, hu⟩
    rw [E_X8_worlds_24, m_worldsMany (hM.f53 hu), ob]
    exact if_pos (by rw [nle (by omega) (by omega)]; exact Nat.le_refl _)
  | succ d ih =>
    intro k u hk hu
    obtain ⟨u1, t1, t2⟩ := m_true (P := P) (ex := ex) (n := n) (sl := sl) (wd := k) (hM.f53 hu) hf
    rw [E_X8_worlds_24, m_worldsMany (hM.f53 hu), ob]
    try dsimp only
    rw [if_neg (show ¬ mI (nW D) ≤ mI k by rw [nle (by omega) (by omega)]; omega), t1, ob]
    try dsimp only
    by_cases g : TR D k (φ f)
    · rw [if_neg (fun z => b2_0.mp z g), E_X8_worlds_47, mI_s, mI_s, ← cntP_t (p := fun wd => TR D wd (φ f)) g]
      exact ih (k + 1) u1 (by omega) (hu.tr t2)
    · rw [if_pos (b2_0.mpr g), E_X8_worlds_47, mI_z, mI_s, ← cntP_f (p := fun wd => TR D wd (φ f)) g]
      exact ih (k + 1) u1 (by omega) (hu.tr t2)
theorem pr_worlds (hI : IVa P S0 e w n sl D F L R U y φ nf ρ nd) (v : Int32) : PI P S0 e w ex n sl (F_X7_worlds P.2.1 v) (F_X8_worlds (P.2.1 + 46) v) csX anyI := by
  have hb := hI.b
  have hC := hI.C
  have hQ := hI.Q
  by_cases h : inN v F
  · obtain ⟨f, hf, rfl⟩ := inN_to (by omega) h
    refine PI.q trivial hI (x := mI (cntP (fun wd => TR D wd (φ f)) (nW D))) (w1 := w) ?_ FV.rf (fun u hu _ => ?_)
    · simp only [E_X7_worlds, E_X7_worlds_0, z_0, ob, c_needFT hC.2.2.2.2.2.1 h, sumL, q_0_4, c_size rfl hQ hf]
    · have hM0 := hu.M.t0 (v := 0)
      obtain ⟨w', t1, t2⟩ := m_worldsL (P := P) (ex := ex) (n := n) (sl := sl) hM0 hf (nW D) 0 _ (by omega) Fr.rf
      refine ⟨w', ?_, FV.t0.tr (t2.fv (by decide) (by decide)), ?_⟩
      · simp only [E_X8_worlds, E_X8_worlds_0, z_46, p_46_0, ob, m_noFM hM0, b2_f (not_not_intro h), i00, if_true, m_throwsIf0]
        exact t1
      · rw [(t2.2.1 46 0 (by decide)).1]; exact wI_s
  · have hM0 := hI.M.t0 (v := 0)
    refine PI.x (E := eIX) (k := 1) (b := 0) (w2 := wI w 46 0 1) hI (by decide) ?_ ?_ FV.t0 wI_s
    · simp only [E_X7_worlds, E_X7_worlds_0, z_0, ob, c_needFF hC.2.2.2.2.2.1 h, sumR]
    · simp only [E_X8_worlds, E_X8_worlds_0, z_46, p_46_0, ob, m_noFM hM0, b2_t h, i10, if_false, m_throwsIf1, wI_wI]
/-! truths -/
theorem m_truthsL {wd : Nat} (hM : MW w D F L y φ) : ∀ d k (u : sW), k + d = F → Fr [53] [] w u → ∃ w', R_X8_truths_24 (P.2.1 + 46) (mI wd) (mI (cntP (fun f => TR D wd (φ f)) k)) (mI k) (hp P u ex n sl) = some (mI (cntP (fun f => TR D wd (φ f)) F), hp P w' ex n sl) ∧ Fr [53] [] w w' := by
  have h1 := hM.2.2.1
  intro d
  induction d with
  | zero =>
    intro k u hk hu
    have hk : k = F := by omega
    subst hk
    refine ⟨u, ?_, hu⟩
    rw [E_X8_truths_24, m_formulasM (hM.f53 hu), ob]
    exact if_pos (by rw [nle (by omega) (by omega)]; exact Nat.le_refl _)
  | succ d ih =>
    intro k u hk hu
    obtain ⟨u1, t1, t2⟩ := m_true (P := P) (ex := ex) (n := n) (sl := sl) (wd := wd) (f := k) (hM.f53 hu) (by omega)
    rw [E_X8_truths_24, m_formulasM (hM.f53 hu), ob]
    try dsimp only
    rw [if_neg (show ¬ mI F ≤ mI k by rw [nle (by omega) (by omega)]; omega), t1, ob]
    try dsimp only
    by_cases g : TR D wd (φ k)
    · rw [if_neg (fun z => b2_0.mp z g), E_X8_truths_47, mI_s, mI_s, ← cntP_t (p := fun f => TR D wd (φ f)) g]
      exact ih (k + 1) u1 (by omega) (hu.tr t2)
    · rw [if_pos (b2_0.mpr g), E_X8_truths_47, mI_z, mI_s, ← cntP_f (p := fun f => TR D wd (φ f)) g]
      exact ih (k + 1) u1 (by omega) (hu.tr t2)
theorem pr_truths (hI : IVa P S0 e w n sl D F L R U y φ nf ρ nd) (v : Int32) : PI P S0 e w ex n sl (F_X7_truths P.2.1 v) (F_X8_truths (P.2.1 + 46) v) csA anyI := by
  have hb := hI.b
  have hQ := hI.Q
  have hw := nW_lt hb.2.1
  by_cases h : inN v (nW D)
  · obtain ⟨wd, hwd, rfl⟩ := inN_to (by omega) h
    refine PI.q trivial hI (x := mI (cntP (fun f => TR D wd (φ f)) F)) (w1 := w) ?_ FV.rf (fun u hu _ => ?_)
    · simp only [E_X7_truths, E_X7_truths_0, z_0, ob, c_needWoT hQ h, sumL, q_0_4, c_truthsIn rfl hQ hwd]
    · have hM0 := hu.M.t0 (v := 0)
      obtain ⟨w', t1, t2⟩ := m_truthsL (P := P) (ex := ex) (n := n) (sl := sl) (wd := wd) hM0 F 0 _ (by omega) Fr.rf
      refine ⟨w', ?_, FV.t0.tr (t2.fv (by decide) (by decide)), ?_⟩
      · simp only [E_X8_truths, E_X8_truths_0, z_46, p_46_0, ob, m_noWM hM0, b2_f (not_not_intro h), i00, if_true, m_throwsIf0]
        exact t1
      · rw [(t2.2.1 46 0 (by decide)).1]; exact wI_s
  · have hM0 := hI.M.t0 (v := 0)
    refine PI.x (E := eIA) (k := 1) (b := 0) (w2 := wI w 46 0 1) hI (by decide) ?_ ?_ FV.t0 wI_s
    · simp only [E_X7_truths, E_X7_truths_0, z_0, ob, c_needWoF hQ h, sumR]
    · simp only [E_X8_truths, E_X8_truths_0, z_46, p_46_0, ob, m_noWM hM0, b2_t h, i10, if_false, m_throwsIf1, wI_wI]
/-! alike -/
theorem m_alikeI {f g : Nat} {v : Int32} (hM : MW w D F L y φ) (hf : f < F) (hg : g < F) : ∀ d k (u : sW), k + d = nW D → Fr [53] [] w u → (∀ i, i < k → (TR D i (φ g) ↔ TR D i (φ f))) → ∃ w', R_X8_alike_38 (P.2.1 + 46) (mI f) v (mI g) 1 (mI k) (hp P u ex n sl) = R_X8_alike_82 (P.2.1 + 46) (mI f) v (mI g) (b2 (aliP D φ f g)) (hp P w' ex n sl) ∧ Fr [53] [] w w' := by
  have h1 := nW_lt hM.2.1
  intro d
  induction d with
  | zero =>
    intro k u hk hu hi
    have hk : k = nW D := by omega
    subst hk
    refine ⟨u, ?_, hu⟩
    rw [E_X8_alike_38, m_worldsMany (hM.f53 hu), ob, b2_t (show aliP D φ f g from hi)]
    exact if_pos (by rw [nle (by omega) (by omega)]; exact Nat.le_refl _)
  | succ d ih =>
    intro k u hk hu hi
    obtain ⟨u1, t1, t2⟩ := m_true (P := P) (ex := ex) (n := n) (sl := sl) (wd := k) (hM.f53 hu) hg
    obtain ⟨u2, t3, t4⟩ := m_true (P := P) (ex := ex) (n := n) (sl := sl) (wd := k) (hM.f53 (hu.tr t2)) hf
    rw [E_X8_alike_38, m_worldsMany (hM.f53 hu), ob]
    try dsimp only
    rw [if_neg (show ¬ mI (nW D) ≤ mI k by rw [nle (by omega) (by omega)]; omega), if_neg (show ¬ (1 : Int32) = 0 by decide), t1, ob]
    try dsimp only
    rw [t3, ob]
    try dsimp only
    by_cases g' : TR D k (φ g) ↔ TR D k (φ f)
    · rw [if_pos (b2_congr g'), E_X8_alike_74, mI_s]
      refine ih (k + 1) u2 (by omega) ((hu.tr t2).tr t4) (fun i hi' => ?_)
      by_cases ei : i = k
      · subst ei; exact g'
      · exact hi i (by omega)
    · rw [if_neg (fun z => g' ?_), E_X8_alike_74, mI_s]
      · refine ⟨u2, ?_, (hu.tr t2).tr t4⟩
        rw [E_X8_alike_38, m_worldsMany (hM.f53 ((hu.tr t2).tr t4)), ob, b2_f (show ¬ aliP D φ f g from fun z => g' (z k (by omega)))]
        by_cases ek : mI (nW D) ≤ mI (k + 1)
        · exact if_pos ek
        · exact (if_neg ek).trans (if_pos rfl)
      · by_cases a : TR D k (φ g)
        · have zz : b2 (TR D k (φ f)) = 1 := by rw [← b2_t a]; exact z.symm
          exact ⟨fun _ => by rw [b2_eq1] at zz; exact zz, fun _ => a⟩
        · have zz : b2 (TR D k (φ f)) = 0 := by rw [← b2_f a]; exact z.symm
          exact ⟨fun q => absurd q a, fun q => absurd q (b2_0.mp zz)⟩
theorem m_alikeL {f : Nat} (hM : MW w D F L y φ) (hf : f < F) : ∀ d k (u : sW), k + d = F → Fr [53] [] w u → ∃ w', R_X8_alike_24 (P.2.1 + 46) (mI f) (mk32 (aliP D φ f) k) (mI k) (hp P u ex n sl) = some (mk32 (aliP D φ f) F, hp P w' ex n sl) ∧ Fr [53] [] w w' := by
  have h1 := hM.2.2.1
  intro d
  induction d with
  | zero =>
    intro k u hk hu
    have hk : k = F := by omega
    subst hk
    refine ⟨u, ?_, hu⟩
    rw [E_X8_alike_24, m_formulasM (hM.f53 hu), ob]
    exact if_pos (by rw [nle (by omega) (by omega)]; exact Nat.le_refl _)
  | succ d ih =>
    intro k u hk hu
    obtain ⟨u1, t1, t2⟩ := m_alikeI (P := P) (ex := ex) (n := n) (sl := sl) (f := f) (g := k) (v := mk32 (aliP D φ f) k) (hM.f53 hu) hf (by omega) (nW D) 0 u (by omega) Fr.rf (fun i hi => absurd hi (by omega))
    rw [E_X8_alike_24, m_formulasM (hM.f53 hu), ob]
    try dsimp only
    rw [if_neg (show ¬ mI F ≤ mI k by rw [nle (by omega) (by omega)]; omega)]
    have t1' : R_X8_alike_38 (P.2.1 + 46) (mI f) (mk32 (aliP D φ f) k) (mI k) 1 0 (hp P u ex n sl) = R_X8_alike_82 (P.2.1 + 46) (mI f) (mk32 (aliP D φ f) k) (mI k) (b2 (aliP D φ f k)) (hp P u1 ex n sl) := t1
    rw [t1', E_X8_alike_82]
    by_cases g : aliP D φ f k
    · rw [if_neg (fun z => b2_0.mp z g), E_X8_alike_95, mI_s, ← mk32_t (p := aliP D φ f) g]
      exact ih (k + 1) u1 (by omega) (hu.tr t2)
    · rw [if_pos (b2_0.mpr g), E_X8_alike_95, mI_s, Int32.or_zero, ← mk32_f (p := aliP D φ f) g]
      exact ih (k + 1) u1 (by omega) (hu.tr t2)
theorem pr_alike (hI : IVa P S0 e w n sl D F L R U y φ nf ρ nd) (v : Int32) : PI P S0 e w ex n sl (F_X7_alike P.2.1 v) (F_X8_alike (P.2.1 + 46) v) csX anyI := by
  have hb := hI.b
  have hC := hI.C
  have hQ := hI.Q
  by_cases h : inN v F
  · obtain ⟨f, hf, rfl⟩ := inN_to (by omega) h
    refine PI.q trivial hI (x := mk32 (aliP D φ f) F) (w1 := w) ?_ FV.rf (fun u hu _ => ?_)
    · simp only [E_X7_alike, E_X7_alike_0, z_0, ob, c_needFT hC.2.2.2.2.2.1 h, sumL, q_0_4, c_alikeTo rfl hQ hf]
    · have hM0 := hu.M.t0 (v := 0)
      obtain ⟨w', t1, t2⟩ := m_alikeL (P := P) (ex := ex) (n := n) (sl := sl) hM0 hf F 0 _ (by omega) Fr.rf
      refine ⟨w', ?_, FV.t0.tr (t2.fv (by decide) (by decide)), ?_⟩
      · simp only [E_X8_alike, E_X8_alike_0, z_46, p_46_0, ob, m_noFM hM0, b2_f (not_not_intro h), i00, if_true, m_throwsIf0]
        exact t1
      · rw [(t2.2.1 46 0 (by decide)).1]; exact wI_s
  · have hM0 := hI.M.t0 (v := 0)
    refine PI.x (E := eIX) (k := 1) (b := 0) (w2 := wI w 46 0 1) hI (by decide) ?_ ?_ FV.t0 wI_s
    · simp only [E_X7_alike, E_X7_alike_0, z_0, ob, c_needFF hC.2.2.2.2.2.1 h, sumR]
    · simp only [E_X8_alike, E_X8_alike_0, z_46, p_46_0, ob, m_noFM hM0, b2_t h, i10, if_false, m_throwsIf1, wI_wI]
/-! follows, counter, agree -/
theorem leastR_neg {Q : Nat → Prop} {N : Nat} {v : Int32} (hN : N < 2 ^ 31) (h : leastR Q N v) : ((0 : Int32) ≤ v) = ¬ v = -1 := by
  rcases h with ⟨k, hk, -, -, rfl⟩ | ⟨-, rfl⟩
  · apply propext
    exact ⟨fun _ => mI_m1 (by omega), fun _ => (mI_le (a := 0) (by decide) (by omega)).mpr (by omega)⟩
  · exact propext ⟨fun z => absurd z (by decide), fun z => absurd rfl z⟩
theorem m_told {u : Nat} (hu : u < 4) : F_X8_beliefsOf (P.2.1 + 46) (mI u) (hp P w ex n sl) = some (w.2.2.1 47 (58 + u), hp P w ex n sl) := m_beliefsOf rfl hu
theorem m_leastW {s : Int32} {f : Nat} (hM : MW w D F L y φ) (hf : f < F) : ∃ v w', F_X8_leastWorld (P.2.1 + 46) s (mI f) (hp P w ex n sl) = some (v, hp P w' ex n sl) ∧ Fr [53] [] w w' ∧ leastR (fun wd => allT D F φ s wd ∧ ¬ TR D wd (φ f)) (nW D) v := by
  obtain ⟨v, w', h1, h2, h3⟩ := m_leastWorld (P := P) (ex := ex) (n := n) (sl := sl) (s := s) (o := some f) hM (fun g hg => by cases hg; exact hf)
  refine ⟨v, w', h1, h2, ?_⟩
  rcases h3 with ⟨k, a1, a2, a3, a4⟩ | ⟨a1, a2⟩
  · exact Or.inl ⟨k, a1, ⟨a2.1, a2.2 f rfl⟩, fun i hi z => a3 i hi ⟨z.1, fun g hg => by cases hg; exact z.2⟩, a4⟩
  · exact Or.inr ⟨fun k hk z => a1 k hk ⟨z.1, fun g hg => by cases hg; exact z.2⟩, a2⟩
theorem m_leastW0 {s : Int32} (hM : MW w D F L y φ) : ∃ v w', F_X8_leastWorld (P.2.1 + 46) s (-1) (hp P w ex n sl) = some (v, hp P w' ex n sl) ∧ Fr [53] [] w w' ∧ leastR (allT D F φ s) (nW D) v := by
  obtain ⟨v, w', h1, h2, h3⟩ := m_leastWorld (P := P) (ex := ex) (n := n) (sl := sl) (s := s) (o := none) hM (fun g hg => by cases hg)
  refine ⟨v, w', h1, h2, ?_⟩
  rcases h3 with ⟨k, a1, a2, a3, a4⟩ | ⟨a1, a2⟩
  · exact Or.inl ⟨k, a1, a2.1, fun i hi z => a3 i hi ⟨z, fun g hg => by cases hg⟩, a4⟩
  · exact Or.inr ⟨fun k hk z => a1 k hk ⟨z, fun g hg => by cases hg⟩, a2⟩
theorem f53v {u : sW} (h : Fr [53] [] (wI w 46 0 0) u) : FV w u ∧ u.1 46 0 = 0 := ⟨FV.t0.tr (h.fv (by decide) (by decide)), by rw [(h.2.1 46 0 (by decide)).1]; exact wI_s⟩
theorem pr_follows (hI : IVa P S0 e w n sl D F L R U y φ nf ρ nd) (v v' : Int32) : PI P S0 e w ex n sl (F_X7_follows P.2.1 v v') (F_X8_follows (P.2.1 + 46) v v') csX bolI := by
  have hb := hI.b
  have hC := hI.C
  have hQ := hI.Q
  have hw := nW_lt hb.2.1
  by_cases h : inN v 4
  · obtain ⟨u, hu, rfl⟩ := inN_to (by omega) h
    by_cases h' : inN v' F
    · obtain ⟨f, hf, rfl⟩ := inN_to (by omega) h'
      obtain ⟨x, w1, a1, a2, a3⟩ := c_leastBreach (P := P) (ex := ex) (n := n) (sl := sl) (x := mI f) (s := w.2.2.1 12 u) rfl hQ hf
      refine PI.q bol_b2 hI (x := b2 (x = -1)) (w1 := w1) ?_ (a2.fv (by decide) (by decide)) (fun z hz hzv => ?_)
      · simp only [E_X7_follows, E_X7_follows_0, z_0, ob, c_needCT h, c_needFT hC.2.2.2.2.2.1 h', sumL, q_0_4, q_0_1, q_9_5, ra_12 hu, a1]
        by_cases g : x = -1
        · rw [if_pos g, b2_t g]
        · rw [if_neg g, b2_f g]
      · have hM0 := hz.M.t0 (v := 0)
        obtain ⟨x', w', t1, t2, t3⟩ := m_leastW (P := P) (ex := ex) (n := n) (sl := sl) (s := z.2.2.1 47 (58 + u)) hM0 hf
        have ex' : x' = x := leastR_uni t3 a3 (fun k _ => by rw [← hz.H.2.2 u hu, (hzv.1 12 (by decide)).1])
        subst ex'
        refine ⟨w', ?_, f53v t2⟩
        simp only [E_X8_follows, E_X8_follows_0, E_X8_follows_26, z_46, p_46_0, ob, m_noCustomer, m_noFM hM0, b2_f (not_not_intro h), b2_f (not_not_intro h'), i00, if_true, m_throwsIf0, m_told hu, t1, leastR_neg (show nW D < 2 ^ 31 by omega) t3]
        by_cases g : x' = -1
        · rw [if_neg (fun z => z g), b2_t g]
        · rw [if_pos g, b2_f g]
    · have hM0 := hI.M.t0 (v := 0)
      refine PI.x (E := eIX) (k := 1) (b := 0) (w2 := wI w 46 0 1) hI (by decide) ?_ ?_ FV.t0 wI_s
      · simp only [E_X7_follows, E_X7_follows_0, z_0, ob, c_needCT h, sumL, c_needFF hC.2.2.2.2.2.1 h', sumR]
      · simp only [E_X8_follows, E_X8_follows_0, E_X8_follows_21, E_X8_follows_26, z_46, p_46_0, ob, m_noCustomer, m_noFM hM0, b2_f (not_not_intro h), b2_t h', i00, i10, if_true, if_false, m_throwsIf1, wI_wI]
  · have hM0 := hI.M.t0 (v := 0)
    refine PI.x (E := eIX) (k := 1) (b := 0) (w2 := wI w 46 0 1) hI (by decide) ?_ ?_ FV.t0 wI_s
    · simp only [E_X7_follows, E_X7_follows_0, z_0, ob, c_needCF h, sumR]
    · simp only [E_X8_follows, E_X8_follows_0, E_X8_follows_21, E_X8_follows_26, z_46, p_46_0, ob, m_noCustomer, b2_t h, i10, if_false, m_throwsIf1, wI_wI]
theorem pr_counter (hI : IVa P S0 e w n sl D F L R U y φ nf ρ nd) (v v' : Int32) : PI P S0 e w ex n sl (F_X7_counter P.2.1 v v') (F_X8_counter (P.2.1 + 46) v v') csX anyI := by
  have hb := hI.b
  have hC := hI.C
  have hQ := hI.Q
  by_cases h : inN v 4
  · obtain ⟨u, hu, rfl⟩ := inN_to (by omega) h
    by_cases h' : inN v' F
    · obtain ⟨f, hf, rfl⟩ := inN_to (by omega) h'
      obtain ⟨x, w1, a1, a2, a3⟩ := c_leastBreach (P := P) (ex := ex) (n := n) (sl := sl) (x := mI f) (s := w.2.2.1 12 u) rfl hQ hf
      refine PI.q trivial hI (x := x) (w1 := w1) ?_ (a2.fv (by decide) (by decide)) (fun z hz hzv => ?_)
      · simp only [E_X7_counter, E_X7_counter_0, z_0, ob, c_needCT h, c_needFT hC.2.2.2.2.2.1 h', sumL, q_0_4, q_0_1, q_9_5, ra_12 hu, a1]
      · have hM0 := hz.M.t0 (v := 0)
        obtain ⟨x', w', t1, t2, t3⟩ := m_leastW (P := P) (ex := ex) (n := n) (sl := sl) (s := z.2.2.1 47 (58 + u)) hM0 hf
        have ex' : x' = x := leastR_uni t3 a3 (fun k _ => by rw [← hz.H.2.2 u hu, (hzv.1 12 (by decide)).1])
        subst ex'
        refine ⟨w', ?_, f53v t2⟩
        simp only [E_X8_counter, E_X8_counter_0, E_X8_counter_26, z_46, p_46_0, ob, m_noCustomer, m_noFM hM0, b2_f (not_not_intro h), b2_f (not_not_intro h'), i00, if_true, m_throwsIf0, m_told hu, t1]
    · have hM0 := hI.M.t0 (v := 0)
      refine PI.x (E := eIX) (k := 1) (b := 0) (w2 := wI w 46 0 1) hI (by decide) ?_ ?_ FV.t0 wI_s
      · simp only [E_X7_counter, E_X7_counter_0, z_0, ob, c_needCT h, sumL, c_needFF hC.2.2.2.2.2.1 h', sumR]
      · simp only [E_X8_counter, E_X8_counter_0, E_X8_counter_21, E_X8_counter_26, z_46, p_46_0, ob, m_noCustomer, m_noFM hM0, b2_f (not_not_intro h), b2_t h', i00, i10, if_true, if_false, m_throwsIf1, wI_wI]
  · have hM0 := hI.M.t0 (v := 0)
    refine PI.x (E := eIX) (k := 1) (b := 0) (w2 := wI w 46 0 1) hI (by decide) ?_ ?_ FV.t0 wI_s
    · simp only [E_X7_counter, E_X7_counter_0, z_0, ob, c_needCF h, sumR]
    · simp only [E_X8_counter, E_X8_counter_0, E_X8_counter_21, E_X8_counter_26, z_46, p_46_0, ob, m_noCustomer, b2_t h, i10, if_false, m_throwsIf1, wI_wI]
theorem pr_agree (hI : IVa P S0 e w n sl D F L R U y φ nf ρ nd) (v v' : Int32) : PI P S0 e w ex n sl (F_X7_agree P.2.1 v v') (F_X8_agree (P.2.1 + 46) v v') csX anyI := by
  have hb := hI.b
  have hQ := hI.Q
  by_cases h : inN v 4
  · obtain ⟨u, hu, rfl⟩ := inN_to (by omega) h
    by_cases h' : inN v' 4
    · obtain ⟨u', hu', rfl⟩ := inN_to (by omega) h'
      obtain ⟨x, w1, a1, a2, a3⟩ := c_leastWorld (P := P) (ex := ex) (n := n) (sl := sl) (s := w.2.2.1 12 u ||| w.2.2.1 12 u') hQ
      refine PI.q trivial hI (x := x) (w1 := w1) ?_ (a2.fv (by decide) (by decide)) (fun z hz hzv => ?_)
      · simp only [E_X7_agree, E_X7_agree_0, z_0, ob, c_needCT h, c_needCT h', sumL, q_0_4, q_0_1, q_9_5, ra_12 hu, ra_12 hu', a1]
      · have hM0 := hz.M.t0 (v := 0)
        obtain ⟨x', w', t1, t2, t3⟩ := m_leastW0 (P := P) (ex := ex) (n := n) (sl := sl) (s := z.2.2.1 47 (58 + u) ||| z.2.2.1 47 (58 + u')) hM0
        have ex' : x' = x := leastR_uni t3 a3 (fun k _ => by rw [← hz.H.2.2 u hu, ← hz.H.2.2 u' hu', (hzv.1 12 (by decide)).1])
        subst ex'
        refine ⟨w', ?_, f53v t2⟩
        simp only [E_X8_agree, E_X8_agree_0, E_X8_agree_25, z_46, p_46_0, ob, m_noCustomer, b2_f (not_not_intro h), b2_f (not_not_intro h'), i00, if_true, m_throwsIf0, m_told hu, m_told hu', t1]
    · refine PI.x (E := eIX) (k := 1) (b := 0) (w2 := wI w 46 0 1) hI (by decide) ?_ ?_ FV.t0 wI_s
      · simp only [E_X7_agree, E_X7_agree_0, z_0, ob, c_needCT h, sumL, c_needCF h', sumR]
      · simp only [E_X8_agree, E_X8_agree_0, E_X8_agree_20, E_X8_agree_25, z_46, p_46_0, ob, m_noCustomer, b2_f (not_not_intro h), b2_t h', i00, i10, if_true, if_false, m_throwsIf1, wI_wI]
  · refine PI.x (E := eIX) (k := 1) (b := 0) (w2 := wI w 46 0 1) hI (by decide) ?_ ?_ FV.t0 wI_s
    · simp only [E_X7_agree, E_X7_agree_0, z_0, ob, c_needCF h, sumR]
    · simp only [E_X8_agree, E_X8_agree_0, E_X8_agree_20, E_X8_agree_25, z_46, p_46_0, ob, m_noCustomer, b2_t h, i10, if_false, m_throwsIf1, wI_wI]
/-! beliefs -/
theorem pr_beliefs (hI : IVa P S0 e w n sl D F L R U y φ nf ρ nd) (v : Int32) : PI P S0 e w ex n sl (F_X7_beliefs P.2.1 v) (F_X8_beliefs (P.2.1 + 46) v) csX anyI := by
  by_cases h : inN v 4
  · obtain ⟨u, hu, rfl⟩ := inN_to (by omega) h
    refine PI.q trivial hI (x := w.2.2.1 12 u) (w1 := w) ?_ FV.rf (fun z hz hzv => ⟨wI z 46 0 0, ?_, FV.t0, wI_s⟩)
    · simp only [E_X7_beliefs, E_X7_beliefs_0, z_0, ob, c_needCT h, sumL, q_0_1, q_9_5, ra_12 hu]
    · have e1 : w.2.2.1 12 u = z.2.2.1 47 (58 + u) := by rw [← hz.H.2.2 u hu, (hzv.1 12 (by decide)).1]
      simp only [E_X8_beliefs, E_X8_beliefs_0, z_46, p_46_0, ob, m_noCustomer, b2_f (not_not_intro h), i00, if_true, m_throwsIf0, m_told hu, e1]
  · refine PI.x (E := eIX) (k := 1) (b := 0) (w2 := wI w 46 0 1) hI (by decide) ?_ ?_ FV.t0 wI_s
    · simp only [E_X7_beliefs, E_X7_beliefs_0, z_0, ob, c_needCF h, sumR]
    · simp only [E_X8_beliefs, E_X8_beliefs_0, z_46, p_46_0, ob, m_noCustomer, b2_t h, i10, if_false, m_throwsIf1, wI_wI]
/-! idle -/
theorem m_idleL {s : Int32} {c : Nat} (hc : c < 4) (hM : MW w D F L y φ) (hs : w.2.2.1 47 (58 + c) = s) : ∀ d k (u : sW), k + d = F → Fr [53] [] w u → ∃ w', R_X8_idle_23 (P.2.1 + 46) (mI c) (mk32 (idlP D F φ s) k) (mI k) (hp P u ex n sl) = some (mk32 (idlP D F φ s) F, hp P w' ex n sl) ∧ Fr [53] [] w w' := by
  have h1 := hM.2.2.1
  have h2 := nW_lt hM.2.1
  intro d
  induction d with
  | zero =>
    intro k u hk hu
    have hk : k = F := by omega
    subst hk
    refine ⟨u, ?_, hu⟩
    rw [E_X8_idle_23, m_formulasM (hM.f53 hu), ob]
    exact if_pos (by rw [nle (by omega) (by omega)]; exact Nat.le_refl _)
  | succ d ih =>
    intro k u hk hu
    have es : u.2.2.1 47 (58 + c) = s := by rw [(hu.1 47 (by decide)).1]; exact hs
    rw [E_X8_idle_23, m_formulasM (hM.f53 hu), ob]
    try dsimp only
    rw [if_neg (show ¬ mI F ≤ mI k by rw [nle (by omega) (by omega)]; omega), m_told hc, ob, es]
    try dsimp only
    have no : ∀ u1, Fr [53] [] w u1 → ¬ idlP D F φ s k → ∃ w', R_X8_idle_70 (P.2.1 + 46) (mI c) (mI k) (mk32 (idlP D F φ s) k) (hp P u1 ex n sl) = some (mk32 (idlP D F φ s) F, hp P w' ex n sl) ∧ Fr [53] [] w w' := by
      intro u1 hu1 g
      rw [E_X8_idle_70, E_X8_idle_71, mI_s, Int32.or_zero, ← mk32_f (p := idlP D F φ s) g]
      exact ih (k + 1) u1 (by omega) hu1
    by_cases hb : bt s k = true
    · rw [if_pos (by rw [t32o (by omega)]; exact hb), m_told hc, ob, es]
      try dsimp only
      obtain ⟨x, u1, t1, t2, t3⟩ := m_leastW (P := P) (ex := ex) (n := n) (sl := sl) (s := s &&& (on32 k ^^^ (-1))) (f := k) (hM.f53 hu) (by omega)
      rw [show F_X8_leastWorld (P.2.1 + 46) (s &&& ((1 <<< (mI k &&& 31)) ^^^ (-1))) (mI k) (hp P u ex n sl) = _ from t1, ob]
      try dsimp only
      have hn : ((0 : Int32) ≤ x) = ¬ x = -1 := leastR_neg (by omega) t3
      by_cases g : x = -1
      · rw [if_neg (by rw [hn]; exact fun z => z g), E_X8_idle_71, mI_s]
        have gi : idlP D F φ s k := ⟨hb, by rw [leastR_m1 (by omega) t3] at g; exact g⟩
        rw [← mk32_t (p := idlP D F φ s) gi]
        exact ih (k + 1) u1 (by omega) (hu.tr t2)
      · rw [if_pos (by rw [hn]; exact g)]
        refine no u1 (hu.tr t2) (fun z => g ?_)
        rw [leastR_m1 (by omega) t3]
        exact z.2
    · rw [if_neg (by rw [t32o (by omega)]; exact hb)]
      exact no u hu (fun z => hb z.1)
theorem pr_idle (hI : IVa P S0 e w n sl D F L R U y φ nf ρ nd) (v : Int32) : PI P S0 e w ex n sl (F_X7_idle P.2.1 v) (F_X8_idle (P.2.1 + 46) v) csX anyI := by
  have hQ := hI.Q
  by_cases h : inN v 4
  · obtain ⟨u, hu, rfl⟩ := inN_to (by omega) h
    obtain ⟨w1, a1, a2⟩ := c_idleIn (P := P) (ex := ex) (n := n) (sl := sl) (s := w.2.2.1 12 u) hQ
    refine PI.q trivial hI (x := mk32 (idlP D F φ (w.2.2.1 12 u)) F) (w1 := w1) ?_ (a2.fv (by decide) (by decide)) (fun z hz hzv => ?_)
    · simp only [E_X7_idle, E_X7_idle_0, z_0, ob, c_needCT h, sumL, q_0_4, q_0_1, q_9_5, ra_12 hu, a1]
    · have hM0 := hz.M.t0 (v := 0)
      have e1 : z.2.2.1 47 (58 + u) = w.2.2.1 12 u := by rw [← hz.H.2.2 u hu, (hzv.1 12 (by decide)).1]
      obtain ⟨w', t1, t2⟩ := m_idleL (P := P) (ex := ex) (n := n) (sl := sl) hu hM0 e1 F 0 _ (by omega) Fr.rf
      refine ⟨w', ?_, f53v t2⟩
      simp only [E_X8_idle, E_X8_idle_0, z_46, p_46_0, ob, m_noCustomer, b2_f (not_not_intro h), i00, if_true, m_throwsIf0]
      exact t1
  · refine PI.x (E := eIX) (k := 1) (b := 0) (w2 := wI w 46 0 1) hI (by decide) ?_ ?_ FV.t0 wI_s
    · simp only [E_X7_idle, E_X7_idle_0, z_0, ob, c_needCF h, sumR]
    · simp only [E_X8_idle, E_X8_idle_0, z_46, p_46_0, ob, m_noCustomer, b2_t h, i10, if_false, m_throwsIf1, wI_wI]
end QST
