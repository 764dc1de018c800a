/-! pairs of calls: what falls; questions on receipts -/
section RCP
variable {P : sP} {S0 e : Nat} {w w' w1 w2 z : sW} {ex : Nat → Option sC} {n sl D F L R U : Nat} {y : sLn} {φ : Nat → List Nat} {nf : Nat → Nat} {ρ : sRc} {nd : Nat → List Nat}
theorem bakP_congr {v : Int32} {H S O T H' S' O' T' : Nat → Prop} (hK : okRc L R y ρ) (hH : ∀ k, k < L → (H k ↔ H' k)) (hS : ∀ k, k < L → (S k ↔ S' k)) (hO : ∀ k, k < L → (O k ↔ O' k)) (hT : ∀ k, k < L → (T k ↔ T' k)) {r : Nat} (hr : r < R) : bakP v L R φ y ρ H S O T r ↔ bakP v L R φ y ρ H' S' O' T' r := by
  have hl := (hK.2 r hr).1
  unfold bakP backP
  rw [hH _ hl, hS _ hl, hT _ hl, hO _ hl, savP_congr (φ := φ) (y := y) hS hO hT hl]
abbrev BQ (w : sW) (v : Int32) (D F L R : Nat) (φ : Nat → List Nat) (y : sLn) (ρ : sRc) : Nat → Prop := bakP v L R φ y ρ (aH w D F φ y) (aS w D F φ y) (aO w L y) (aT w F L φ y)
theorem BQ_o {v : Int32} (f : FVo w z) : BQ z v D F L R φ y ρ = BQ w v D F L R φ y ρ := by
  unfold BQ
  rw [aH_o f, aS_o f, aO_o f, aT_o f]
theorem m_isBackG {r : Nat} {v : Int32} (hI : IVa P S0 e w n sl D F L R U y φ nf ρ nd) (t2 : Fr [54, 55, 56] [] w w') (g : GT w w' D F L φ y) (hr : r < R) : F_X8_isBack (P.2.1 + 46) (mI r) v (hp P w' ex n sl) = some (b2 (BQ w v D F L R φ y ρ r), hp P w' ex n sl) := by
  rw [m_isBack (S := aS w D F φ y) (hI.M.fr t2 (by decide) (by decide) (by decide)) (hI.Rc.2.2.fr t2 (by decide)) hI.Rc.1 rfl hr g.2.1]
  exact congrArg (fun q => some (q, _)) (b2_congr (bakP_congr hI.Rc.1 g.1 (fun _ _ => Iff.rfl) g.2.2.1 g.2.2.2.1 hr))
theorem gt_i (h : IVa P S0 e w n sl D F L R U y φ nf ρ nd) (t2 : Fr [54, 55, 56] [] w w') : IVa P S0 e w' n sl D F L R U y φ nf ρ nd := h.fv (t2.fv (by decide) (by decide))
theorem fvo_t0 {v : Int32} (hv : FVo w z) : FVo w (wI z 46 0 v) := ⟨hv.1, hv.2.1, hv.2.2.1, fun k j hk => ⟨((FV.t0 (w := z) (v := v)).2.2.2.1 k j hk).1.trans (hv.2.2.2.1 k j hk).1, (hv.2.2.2.1 k j hk).2⟩, hv.2.2.2.2⟩
theorem c_aud (hA : KA P) (hC : CW w D F L U y φ nd nf) : F_X0_audit (P.2.1 + 37) (hp P w ex n sl) = some ((), hp P (aU w (mk64 (aH w D F φ y) L) (mk64 (aS w D F φ y) L) (mk64 (aO w L y) L) (mk64 (aT w F L φ y) L)) ex n sl) := c_audit hA hC
noncomputable abbrev aUw (w : sW) (D F L : Nat) (φ : Nat → List Nat) (y : sLn) : sW := aU w (mk64 (aH w D F φ y) L) (mk64 (aS w D F φ y) L) (mk64 (aO w L y) L) (mk64 (aT w F L φ y) L)
theorem in7 {x : Int32} : (¬ x < 0 ∧ ¬ (6 : Int32) < x) ↔ inN x 7 := in_N (N := 6) (by decide)
theorem in9 {x : Int32} : (¬ x < 0 ∧ ¬ (9999 : Int32) < x) ↔ inN x 10000 := in_N (N := 9999) (by decide)
theorem inL {x : Int32} : (¬ x < 0 ∧ ¬ (31 : Int32) < x) ↔ inN x 32 := in_N (N := 31) (by decide)
/-! refunds -/
theorem m_refundsL {v : Int32} (hI : IVa P S0 e w n sl D F L R U y φ nf ρ nd) (t2 : Fr [54, 55, 56] [] w w') (g : GT w w' D F L φ y) : R_X8_refunds_38 (P.2.1 + 46) v 0 0 (hp P w' ex n sl) = some (mk32 (BQ w v D F L R φ y ρ) R, hp P w' ex n sl) := by
  have h30 := hI.b.2.2.2.2.1
  have hR := (gt_i hI t2).Rc.2.2
  refine loopE (f := fun k => R_X8_refunds_38 (P.2.1 + 46) v (mk32 (BQ w v D F L R φ y ρ) k) (mI k) (hp P w' ex n sl)) (N := R) (fun k hk => ?_) ?_
  · try dsimp only
    rw [E_X8_refunds_38, m_receiptsR hR, ob]
    try dsimp only
    rw [if_neg (show ¬ mI R ≤ mI k by rw [nle (by omega) (by omega)]; omega), m_isBackG hI t2 g hk, ob]
    try dsimp only
    by_cases q : BQ w v D F L R φ y ρ k
    · rw [if_neg (fun z => b2_0.mp z q), E_X8_refunds_63, mI_s, mk32_t (p := BQ w v D F L R φ y ρ) q]
    · rw [if_pos (b2_0.mpr q), E_X8_refunds_63, mI_s, Int32.or_zero, mk32_f (p := BQ w v D F L R φ y ρ) q]
  · try dsimp only
    rw [E_X8_refunds_38, m_receiptsR hR, ob]
    exact if_pos (show mI R ≤ mI R by rw [nle (by omega) (by omega)]; omega)
theorem pr_refunds (hA : KA P) (hI : IVa P S0 e w n sl D F L R U y φ nf ρ nd) (v : Int32) : PI P S0 e w ex n sl (F_X7_refunds P.2.1 v) (F_X8_refunds (P.2.1 + 46) v) csA anyI := by
  have hC := hI.C
  by_cases h : inN v 32
  · refine PI.q trivial hI (x := mk32 (BQ w v D F L R φ y ρ) R) (w1 := aUw w D F L φ y) ?_ aU_fv (fun u hu hv => ?_)
    · simp only [E_X7_refunds, E_X7_refunds_0, z_0, ob, c_needWT h, sumL, q_0_5, c_aud hA hC, q_0_7]
      rw [c_refunded (H := aH w D F φ y) (S := aS w D F φ y) (O := aO w L y) (T := aT w F L φ y) (aU_C hC) (hI.Rc.2.1.fr aU_fr (by decide) (by decide) (by decide)) hI.Rc.1 rfl rfl rfl rfl, ob]
    · have hu0 := hu.fv (FV.t0 (v := 0))
      obtain ⟨w', t1, t2, g⟩ := m_goes (P := P) (ex := ex) (n := n) (sl := sl) hu0
      refine ⟨w', ?_, f546v t2⟩
      simp only [E_X8_refunds, E_X8_refunds_0, E_X8_refunds_21, z_46, p_46_0, ob, m_in, b2_t (inL.mpr h), i00, i10, if_true, if_false, m_throwsIf0, t1, m_refundsL hu0 t2 g, BQ_o (fvo_t0 hv)]
  · refine PI.x (E := eIA) (k := 1) (b := 0) (w2 := wI w 46 0 1) hI (by decide) ?_ ?_ FV.t0 wI_s
    · simp only [E_X7_refunds, E_X7_refunds_0, z_0, ob, c_needWF h, sumR]
    · simp only [E_X8_refunds, E_X8_refunds_0, E_X8_refunds_21, z_46, p_46_0, ob, m_in, b2_f (fun q => h (inL.mp q)), i00, i10, if_true, if_false, m_throwsIf1, wI_wI]
/-! gains -/
theorem gan_e {a h : Int32} : (a - 4 = h) = (a = 4 + h) := by
  apply propext
  constructor
  · intro g; rw [← g]; exact (by rw [Int32.add_comm, Int32.sub_add_cancel])
  · intro g; rw [g, Int32.add_comm, Int32.add_sub_cancel]
theorem m_gainsL {h v : Int32} (hI : IVa P S0 e w n sl D F L R U y φ nf ρ nd) (t2 : Fr [54, 55, 56] [] w w') (g : GT w w' D F L φ y) : R_X8_gains_51 (P.2.1 + 46) h v 0 0 (hp P w' ex n sl) = some (sumI (ganT y ρ (BQ w v D F L R φ y ρ) h) R, hp P w' ex n sl) := by
  have h30 := hI.b.2.2.2.2.1
  have hI' := gt_i hI t2
  have hR := hI'.Rc.2.2
  refine loopE (f := fun k => R_X8_gains_51 (P.2.1 + 46) h v (sumI (ganT y ρ (BQ w v D F L R φ y ρ) h) k) (mI k) (hp P w' ex n sl)) (N := R) (fun k hk => ?_) ?_
  · have to : ∀ c : Int32, (((ρ.2.2.2.2 k ∨ BQ w v D F L R φ y ρ k) ∧ c = 0) ∨ (¬ (ρ.2.2.2.2 k ∨ BQ w v D F L R φ y ρ k) ∧ c = mI (ρ.2.2.1 k))) → R_X8_gains_90 (P.2.1 + 46) h v (sumI (ganT y ρ (BQ w v D F L R φ y ρ) h) k) (mI k) c (hp P w' ex n sl) = R_X8_gains_51 (P.2.1 + 46) h v (sumI (ganT y ρ (BQ w v D F L R φ y ρ) h) (k + 1)) (mI (k + 1)) (hp P w' ex n sl) := by
      intro c hc
      have ev : ∀ t : Int32, (t = if mI (y.1 (ρ.1 k)) = h then c else if mI (ρ.2.1 k) = 4 + h then -c else 0) → t = ganT y ρ (BQ w v D F L R φ y ρ) h k := by
        intro t ht
        unfold ganT
        rcases hc with ⟨q, hc⟩ | ⟨q, hc⟩
        · rw [if_pos q, ht, hc]
          by_cases q1 : mI (y.1 (ρ.1 k)) = h
          · rw [if_pos q1]
          · rw [if_neg q1]
            by_cases q2 : mI (ρ.2.1 k) = 4 + h
            · rw [if_pos q2]; rfl
            · rw [if_neg q2]
        · rw [if_neg q, ht, hc]
      rw [E_X8_gains_90, m_seller hI'.M hR hI.Rc.1 rfl hk, ob]
      try dsimp only
      by_cases q1 : mI (y.1 (ρ.1 k)) = h
      · rw [if_pos q1, E_X8_gains_128, mI_s, sumI_s, ← ev c (by rw [if_pos q1])]
      · rw [if_neg q1, m_rc1 hR h30 rfl hk, ob]
        try dsimp only
        by_cases q2 : mI (ρ.2.1 k) = 4 + h
        · rw [if_pos (by rw [gan_e]; exact q2), E_X8_gains_128, mI_s, sumI_s, ← ev (-c) (by rw [if_neg q1, if_pos q2])]
        · rw [if_neg (by rw [gan_e]; exact q2), E_X8_gains_128, mI_s, sumI_s, ← ev 0 (by rw [if_neg q1, if_neg q2])]
    try dsimp only
    rw [E_X8_gains_51, m_receiptsR hR, ob]
    try dsimp only
    rw [if_neg (show ¬ mI R ≤ mI k by rw [nle (by omega) (by omega)]; omega), m_isVoid hR h30 rfl hk, ob]
    try dsimp only
    by_cases q : ρ.2.2.2.2 k
    · rw [if_neg (fun z => b2_0.mp z q), E_X8_gains_79]
      exact to 0 (Or.inl ⟨Or.inl q, rfl⟩)
    · rw [if_pos (b2_0.mpr q), m_isBackG hI t2 g hk, ob]
      try dsimp only
      by_cases q' : BQ w v D F L R φ y ρ k
      · rw [if_neg (fun z => b2_0.mp z q'), E_X8_gains_79]
        exact to 0 (Or.inl ⟨Or.inr q', rfl⟩)
      · rw [if_pos (b2_0.mpr q'), m_rc2 hR h30 rfl hk, ob]
        exact to _ (Or.inr ⟨fun z => z.elim q q', rfl⟩)
  · try dsimp only
    rw [E_X8_gains_51, m_receiptsR hR, ob]
    exact if_pos (show mI R ≤ mI R by rw [nle (by omega) (by omega)]; omega)
theorem pr_gains (hA : KA P) (hI : IVa P S0 e w n sl D F L R U y φ nf ρ nd) (v v' : Int32) : PI P S0 e w ex n sl (F_X7_gains P.2.1 v v') (F_X8_gains (P.2.1 + 46) v v') csXA anyI := by
  have hC := hI.C
  by_cases h : inN v 3
  · by_cases h' : inN v' 32
    · obtain ⟨q, hq, rfl⟩ := inN_to (by omega) h
      refine PI.q trivial hI (x := sumI (ganT y ρ (BQ w v' D F L R φ y ρ) (mI q)) R) (w1 := aUw w D F L φ y) ?_ aU_fv (fun u hu hv => ?_)
      · simp only [E_X7_gains, E_X7_gains_0, z_0, ob, c_needHT h, c_needWT h', sumL, q_0_5, c_aud hA hC, q_0_7]
        rw [c_gainOf (H := aH w D F φ y) (S := aS w D F φ y) (O := aO w L y) (T := aT w F L φ y) hq (aU_C hC) (hI.Rc.2.1.fr aU_fr (by decide) (by decide) (by decide)) hI.Rc.1 rfl rfl rfl rfl, ob]
      · have hu0 := hu.fv (FV.t0 (v := 0))
        obtain ⟨w', t1, t2, g⟩ := m_goes (P := P) (ex := ex) (n := n) (sl := sl) hu0
        refine ⟨w', ?_, f546v t2⟩
        simp only [E_X8_gains, E_X8_gains_0, E_X8_gains_33, z_46, p_46_0, ob, m_noHouse, b2_f (not_not_intro h), m_in, b2_t (inL.mpr h'), i00, i10, if_true, if_false, m_throwsIf0, t1, m_gainsL hu0 t2 g, BQ_o (fvo_t0 hv)]
    · refine PI.x (E := eIA) (k := 2) (b := 0) (w2 := wI w 46 0 2) hI (by decide) ?_ ?_ FV.t0 wI_s
      · simp only [E_X7_gains, E_X7_gains_0, z_0, ob, c_needHT h, c_needWF h', sumL, sumR]
      · simp only [E_X8_gains, E_X8_gains_0, E_X8_gains_33, z_46, p_46_0, ob, m_noHouse, b2_f (not_not_intro h), m_in, b2_f (fun q => h' (inL.mp q)), i00, i10, if_true, if_false, m_throwsIf0, m_throwsIf1, wI_wI]
  · refine PI.x (E := eIX) (k := 1) (b := 0) (w2 := wI w 46 0 1) hI (by decide) ?_ ?_ FV.t0 wI_s
    · simp only [E_X7_gains, E_X7_gains_0, z_0, ob, c_needHF h, sumR]
    · simp only [E_X8_gains, E_X8_gains_0, z_46, p_46_0, ob, m_noHouse, b2_t h, i10, if_false, m_throwsIf1, wI_wI]
/-! owes -/
theorem m_owesL {h b v : Int32} (hI : IVa P S0 e w n sl D F L R U y φ nf ρ nd) (t2 : Fr [54, 55, 56] [] w w') (g : GT w w' D F L φ y) : R_X8_owes_67 (P.2.1 + 46) h b v 0 0 (hp P w' ex n sl) = some (sumI (oweT y ρ (BQ w v D F L R φ y ρ) h b) R, hp P w' ex n sl) := by
  have h30 := hI.b.2.2.2.2.1
  have hI' := gt_i hI t2
  have hR := hI'.Rc.2.2
  refine loopE (f := fun k => R_X8_owes_67 (P.2.1 + 46) h b v (sumI (oweT y ρ (BQ w v D F L R φ y ρ) h b) k) (mI k) (hp P w' ex n sl)) (N := R) (fun k hk => ?_) ?_
  · have no : ¬ (BQ w v D F L R φ y ρ k ∧ (b = -1 ∨ mI (ρ.2.1 k) = b) ∧ mI (y.1 (ρ.1 k)) = h) → R_X8_owes_124 (P.2.1 + 46) h b v (mI k) (sumI (oweT y ρ (BQ w v D F L R φ y ρ) h b) k) (hp P w' ex n sl) = R_X8_owes_67 (P.2.1 + 46) h b v (sumI (oweT y ρ (BQ w v D F L R φ y ρ) h b) (k + 1)) (mI (k + 1)) (hp P w' ex n sl) := by
      intro q
      rw [E_X8_owes_124, E_X8_owes_125, mI_s, sumI_s, show oweT y ρ (BQ w v D F L R φ y ρ) h b k = 0 from if_neg q]
    have yes : (b = -1 ∨ mI (ρ.2.1 k) = b) → mI (y.1 (ρ.1 k)) = h → R_X8_owes_104 (P.2.1 + 46) h b v (mI k) (sumI (oweT y ρ (BQ w v D F L R φ y ρ) h b) k) (hp P w' ex n sl) = R_X8_owes_67 (P.2.1 + 46) h b v (sumI (oweT y ρ (BQ w v D F L R φ y ρ) h b) (k + 1)) (mI (k + 1)) (hp P w' ex n sl) := by
      intro q1 q2
      rw [E_X8_owes_104, m_isBackG hI t2 g hk, ob]
      try dsimp only
      by_cases q : BQ w v D F L R φ y ρ k
      · rw [if_neg (fun z => b2_0.mp z q), m_rc2 hR h30 rfl hk, ob, E_X8_owes_125, mI_s, sumI_s, show oweT y ρ (BQ w v D F L R φ y ρ) h b k = mI (ρ.2.2.1 k) from if_pos ⟨q, q1, q2⟩]
      · rw [if_pos (b2_0.mpr q)]
        exact no (fun z => q z.1)
    try dsimp only
    rw [E_X8_owes_67, m_receiptsR hR, ob]
    try dsimp only
    rw [if_neg (show ¬ mI R ≤ mI k by rw [nle (by omega) (by omega)]; omega), m_seller hI'.M hR hI.Rc.1 rfl hk, ob]
    try dsimp only
    by_cases q2 : mI (y.1 (ρ.1 k)) = h
    · rw [if_pos q2]
      by_cases q1 : b = -1
      · rw [if_pos q1]
        exact yes (Or.inl q1) q2
      · rw [if_neg q1, m_rc1 hR h30 rfl hk, ob]
        try dsimp only
        by_cases q3 : mI (ρ.2.1 k) = b
        · rw [if_pos q3]
          exact yes (Or.inr q3) q2
        · rw [if_neg q3]
          exact no (fun z => z.2.1.elim q1 q3)
    · rw [if_neg q2]
      exact no (fun z => q2 z.2.2)
  · try dsimp only
    rw [E_X8_owes_67, m_receiptsR hR, ob]
    exact if_pos (show mI R ≤ mI R by rw [nle (by omega) (by omega)]; omega)
theorem pr_owes (hA : KA P) (hI : IVa P S0 e w n sl D F L R U y φ nf ρ nd) (v b v' : Int32) : PI P S0 e w ex n sl (F_X7_owes P.2.1 v b v') (F_X8_owes (P.2.1 + 46) v b v') csXA anyI := by
  have hC := hI.C
  by_cases h : inN v 3
  · by_cases h' : inN v' 32 ∧ (b = -1 ∨ inN b 7)
    · refine PI.q trivial hI (x := sumI (oweT y ρ (BQ w v' D F L R φ y ρ) v b) R) (w1 := aUw w D F L φ y) ?_ aU_fv (fun u hu hv => ?_)
      · have e36 : R_X7_owes_36 P.2.1 v b v' (hp P w ex n sl) = some (.inl (sumI (oweT y ρ (BQ w v' D F L R φ y ρ) v b) R), hp P (aUw w D F L φ y) ex n sl) := by
          rw [E_X7_owes_36, q_0_5, ob, c_aud hA hC, ob]
          try dsimp only
          rw [q_0_7, ob, c_owedBy (H := aH w D F φ y) (S := aS w D F φ y) (O := aO w L y) (T := aT w F L φ y) (aU_C hC) (hI.Rc.2.1.fr aU_fr (by decide) (by decide) (by decide)) hI.Rc.1 rfl rfl rfl rfl, ob]
        simp only [E_X7_owes, E_X7_owes_0, z_0, ob, c_needHT h, c_needWT h'.1, sumL]
        by_cases q : b = -1
        · rw [if_pos q]; exact e36
        · have q7 := h'.2.resolve_left q
          rw [if_neg q, if_neg q7.1, if_pos (show b < 7 from (inN_lt q7.1).mpr q7.2)]; exact e36
      · have hu0 := hu.fv (FV.t0 (v := 0))
        obtain ⟨w', t1, t2, g⟩ := m_goes (P := P) (ex := ex) (n := n) (sl := sl) hu0
        refine ⟨w', ?_, f546v t2⟩
        simp only [E_X8_owes, E_X8_owes_0, z_46, p_46_0, ob, m_noHouse, b2_f (not_not_intro h), m_in, b2_t (inL.mpr h'.1), i00, i10, if_true, if_false, m_throwsIf0]
        have e47 : R_X8_owes_47 (P.2.1 + 46) v b v' (P.2.1 + 46) (hp P (wI u 46 0 0) ex n sl) = some (sumI (oweT y ρ (BQ w v' D F L R φ y ρ) v b) R, hp P w' ex n sl) := by
          simp only [E_X8_owes_47, E_X8_owes_48, ob, m_throwsIf0, i00, if_true, t1, m_owesL hu0 t2 g, BQ_o (fvo_t0 hv)]
        by_cases q : b = -1
        · rw [if_pos q]; exact e47
        · have q7 := h'.2.resolve_left q
          rw [if_neg q, if_neg (fun z => b2_0.mp z (in7.mpr q7))]; exact e47
    · refine PI.x (E := eIA) (k := 2) (b := 0) (w2 := wI w 46 0 2) hI (by decide) ?_ ?_ FV.t0 wI_s
      · by_cases q5 : inN v' 32
        · have q6 : ¬ (b = -1 ∨ inN b 7) := fun z => h' ⟨q5, z⟩
          simp only [E_X7_owes, E_X7_owes_0, z_0, ob, c_needHT h, c_needWT q5, sumL]
          rw [if_neg (fun z => q6 (Or.inl z))]
          by_cases g : b < 0
          · rw [if_pos g]; rfl
          · rw [if_neg g, if_neg (fun z : b < 7 => q6 (Or.inr ⟨g, (inN_lt g).mp z⟩))]; rfl
        · simp only [E_X7_owes, E_X7_owes_0, z_0, ob, c_needHT h, c_needWF q5, sumL, sumR]
      · have e43 : R_X8_owes_43 (P.2.1 + 46) v b v' (P.2.1 + 46) (hp P (wI w 46 0 0) ex (n + 1) (sl + 6)) = some (0, hp P (wI w 46 0 2) ex (n + 1) (sl + 6)) := by
          simp only [E_X8_owes_43, E_X8_owes_48, ob, m_throwsIf1, i10, if_false, wI_wI]
        simp only [E_X8_owes, E_X8_owes_0, z_46, p_46_0, ob, m_noHouse, b2_f (not_not_intro h), m_in, i00, i10, if_true, if_false, m_throwsIf0]
        by_cases q5 : inN v' 32
        · have q6 : ¬ (b = -1 ∨ inN b 7) := fun z => h' ⟨q5, z⟩
          rw [if_neg (fun z => b2_0.mp z (inL.mpr q5)), if_neg (fun z => q6 (Or.inl z)), if_pos (b2_0.mpr (fun z => q6 (Or.inr (in7.mp z))))]
          exact e43
        · rw [if_pos (b2_0.mpr (fun z => q5 (inL.mp z)))]
          exact e43
  · refine PI.x (E := eIX) (k := 1) (b := 0) (w2 := wI w 46 0 1) hI (by decide) ?_ ?_ FV.t0 wI_s
    · simp only [E_X7_owes, E_X7_owes_0, z_0, ob, c_needHF h, sumR]
    · simp only [E_X8_owes, E_X8_owes_0, z_46, p_46_0, ob, m_noHouse, b2_t h, i10, if_false, m_throwsIf1, wI_wI]
/-! dearer -/
theorem m_dearerL (hI : IVa P S0 e w n sl D F L R U y φ nf ρ nd) (t2 : Fr [54, 55, 56] [] w w') (g : GT w w' D F L φ y) : R_X8_dearer_13 (P.2.1 + 46) 0 0 (hp P w' ex n sl) = some (mk32 (deaP y ρ (allC w L φ y)) R, hp P w' ex n sl) := by
  have h30 := hI.b.2.2.2.2.1
  have h40 := hI.b.2.2.2.1
  have hI' := gt_i hI t2
  have hR := hI'.Rc.2.2
  have ho : okLn F L y := hI.1.2.1.1
  refine loopE (f := fun k => R_X8_dearer_13 (P.2.1 + 46) (mk32 (deaP y ρ (allC w L φ y)) k) (mI k) (hp P w' ex n sl)) (N := R) (fun k hk => ?_) ?_
  · have hl := (hI.Rc.1.2 k hk).1
    have hr := (ho _ hl).2.2.1
    have e15 : (mI (y.2.2.1 (ρ.1 k)) = 15) = (y.2.2.1 (ρ.1 k) = 15) := neqL (by omega) (by decide)
    have no : ¬ deaP y ρ (allC w L φ y) k → R_X8_dearer_63 (P.2.1 + 46) (mI k) (mk32 (deaP y ρ (allC w L φ y)) k) (hp P w' ex n sl) = R_X8_dearer_13 (P.2.1 + 46) (mk32 (deaP y ρ (allC w L φ y)) (k + 1)) (mI (k + 1)) (hp P w' ex n sl) := by
      intro q
      rw [E_X8_dearer_63, E_X8_dearer_64, mI_s, Int32.or_zero, mk32_f (p := deaP y ρ (allC w L φ y)) q]
    try dsimp only
    rw [E_X8_dearer_13, m_receiptsR hR, ob]
    try dsimp only
    rw [if_neg (show ¬ mI R ≤ mI k by rw [nle (by omega) (by omega)]; omega), m_rc0 hR h30 rfl hk, ob]
    try dsimp only
    rw [m_rule rfl hI'.M.2.2.2.2.2.2.2.1 h40 hl, ob]
    try dsimp only
    by_cases q : y.2.2.1 (ρ.1 k) = 15
    · rw [if_pos (by rw [e15]; exact q), m_rc2 hR h30 rfl hk, ob]
      try dsimp only
      rw [m_rc0 hR h30 rfl hk, ob]
      try dsimp only
      rw [m_spentG hI t2 g hl, ob]
      try dsimp only
      by_cases q' : mI (ρ.2.2.1 k) ≤ allC w L φ y (ρ.1 k)
      · rw [if_pos q']
        exact no (fun z => z.2 q')
      · rw [if_neg q', E_X8_dearer_64, mI_s, mk32_t (p := deaP y ρ (allC w L φ y)) ⟨q, q'⟩]
    · rw [if_neg (by rw [e15]; exact q)]
      exact no (fun z => q z.1)
  · try dsimp only
    rw [E_X8_dearer_13, m_receiptsR hR, ob]
    exact if_pos (show mI R ≤ mI R by rw [nle (by omega) (by omega)]; omega)
theorem pr_dearer (hI : IVa P S0 e w n sl D F L R U y φ nf ρ nd) : PN P S0 e w ex n sl (F_X7_dearer P.2.1) (F_X8_dearer (P.2.1 + 46)) := by
  have hC := hI.C
  refine PN.q hI (x := mk32 (deaP y ρ (allC w L φ y)) R) (w1 := w) ?_ FV.rf (fun u hu hv => ?_)
  · simp only [E_X7_dearer, E_X7_dearer_0, z_0, ob, q_0_7, c_dearerOnes hC hI.Rc.2.1 hI.Rc.1]
    rfl
  · have hu0 := hu.fv (FV.t0 (v := 0))
    obtain ⟨w', t1, t2, g⟩ := m_goes (P := P) (ex := ex) (n := n) (sl := sl) hu0
    refine ⟨w', ?_, (f546v t2).1⟩
    simp only [E_X8_dearer, E_X8_dearer_0, z_46, p_46_0, ob, t1, m_dearerL hu0 t2 g]
    rw [show allC (wI u 46 0 0) L φ y = allC u L φ y from rfl, allC_o hv]
/-! count -/
theorem cntP_none {p : Nat → Prop} : ∀ k, (∀ i, i < k → ¬ p i) → cntP p k = 0 := by
  intro k
  induction k with
  | zero => intro _; rfl
  | succ k ih => intro h; rw [cntP_f (h k (by omega))]; exact ih (fun i hi => h i (by omega))
theorem cntP_lim {p : Nat → Prop} {k N : Nat} (h : k ≤ N) : cntP (fun i => i < k ∧ p i) N = cntP p k := by
  obtain ⟨d, rfl⟩ := Nat.exists_eq_add_of_le h
  rw [cntP_add, cntP_none d (fun i hi z => by have := z.1; omega), Nat.add_zero]
  exact cntP_congr fun i hi => ⟨fun z => z.2, fun z => ⟨hi, z⟩⟩
theorem cntP_not {p : Nat → Prop} : ∀ k, cntP p k + cntP (fun i => ¬ p i) k = k := by
  intro k
  induction k with
  | zero => rfl
  | succ k ih =>
    by_cases h : p k
    · rw [cntP_t h, cntP_f (p := fun i => ¬ p i) (fun z => z h)]; omega
    · rw [cntP_f h, cntP_t (p := fun i => ¬ p i) h]; omega
theorem pr_count (hA : KA P) (hI : IVa P S0 e w n sl D F L R U y φ nf ρ nd) (v : Int32) : PN P S0 e w ex n sl (F_X7_count P.2.1 v) (F_X8_count (P.2.1 + 46) v) := by
  have hC := hI.C
  have hb := hI.b
  have h30 := hI.b.2.2.2.2.1
  have ho : okLn F L y := hI.1.2.1.1
  have nI := hI.1.1.2.1
  rw [show PN P S0 e w ex n sl (F_X7_count P.2.1 v) (F_X8_count (P.2.1 + 46) v) = PN P S0 e w ex n sl (F_X7_count P.2.1 v) (F_X8_count (P.2.1 + 46) v) from rfl]
  have e4 : ((4 : Int32) = 0) = False ∧ ((4 : Int32) = 1) = False ∧ ((4 : Int32) = 2) = False ∧ ((4 : Int32) = 3) = False := ⟨eq_false (by decide), eq_false (by decide), eq_false (by decide), eq_false (by decide)⟩
  by_cases h0 : v = 0
  · subst h0
    refine PN.q hI (x := mI D) (w1 := w) ?_ FV.rf (fun u hu hv => ⟨wI u 46 0 0, ?_, FV.t0⟩)
    · rw [E_X7_count, z_0, ob, E_X7_count_0, if_pos rfl, q_0_1, ob, q_9_0, ob, hC.2.2.2.2.1]
    · rw [E_X8_count, z_46, ob, E_X8_count_0, p_46_0, ob, if_pos rfl, m_d, ob]
      exact congrArg (fun q => some (q, _)) hu.M.2.2.2.2.1
  by_cases h1 : v = 1
  · subst h1
    refine PN.q hI (x := mI F) (w1 := w) ?_ FV.rf (fun u hu hv => ⟨wI u 46 0 0, ?_, FV.t0⟩)
    · rw [E_X7_count, z_0, ob, E_X7_count_0, if_neg (by decide), if_pos rfl, q_0_1, ob, q_9_2, ob, hC.2.2.2.2.2.1]
    · rw [E_X8_count, z_46, ob, E_X8_count_0, p_46_0, ob, if_neg (by decide), if_pos rfl, m_formulasM (hu.M.t0 (v := 0)), ob]
  by_cases h2 : v = 2
  · subst h2
    refine PN.q hI (x := mI L) (w1 := w) ?_ FV.rf (fun u hu hv => ⟨wI u 46 0 0, ?_, FV.t0⟩)
    · rw [E_X7_count, z_0, ob, E_X7_count_0, if_neg (by decide), if_neg (by decide), if_pos rfl, q_0_1, ob, q_9_6, ob, hC.2.2.2.2.2.2.1]
    · rw [E_X8_count, z_46, ob, E_X8_count_0, p_46_0, ob, if_neg (by decide), if_neg (by decide), if_pos rfl, m_linesM (hu.M.t0 (v := 0)), ob]
  by_cases h3 : v = 3
  · subst h3
    refine PN.q hI (x := mI R) (w1 := w) ?_ FV.rf (fun u hu hv => ⟨wI u 46 0 0, ?_, FV.t0⟩)
    · rw [E_X7_count, z_0, ob, E_X7_count_0, if_neg (by decide), if_neg (by decide), if_neg (by decide), if_pos rfl, q_0_1, ob, q_9_9, ob, hI.Rc.2.1.1]
    · rw [E_X8_count, z_46, ob, E_X8_count_0, p_46_0, ob, if_neg (by decide), if_neg (by decide), if_neg (by decide), if_pos rfl, m_receiptsR (hu.fv (FV.t0 (v := 0))).Rc.2.2, ob]
  by_cases h4 : v = 4
  · subst h4
    refine PN.q hI (x := mI (cntP (fun r => ρ.2.2.2.2 r) R)) (w1 := w) ?_ FV.rf (fun u hu hv => ⟨wI u 46 0 0, ?_, FV.t0⟩)
    · rw [E_X7_count, z_0, ob, E_X7_count_0, if_neg (by decide), if_neg (by decide), if_neg (by decide), if_neg (by decide), if_pos rfl, q_0_1, ob, q_9_10, ob, j_bitCount32, ob]
      rw [cntP_cnt (p := fun i => i < R ∧ ρ.2.2.2.2 i) (fun i hi => hI.Rc.2.1.2.2 i hi), cntP_lim (by omega)]
    · have hR := (hu.fv (FV.t0 (v := 0))).Rc.2.2
      rw [E_X8_count, z_46, ob, E_X8_count_0, p_46_0, ob, if_neg (by decide), if_neg (by decide), if_neg (by decide), if_neg (by decide), if_pos rfl]
      refine loopE (f := fun k => R_X8_count_74 (P.2.1 + 46) (mI (cntP (fun r => ρ.2.2.2.2 r) k)) (mI k) (hp P (wI u 46 0 0) ex n sl)) (N := R) (fun k hk => ?_) ?_
      · try dsimp only
        rw [E_X8_count_74, m_receiptsR hR, ob]
        try dsimp only
        rw [if_neg (show ¬ mI R ≤ mI k by rw [nle (by omega) (by omega)]; omega), m_isVoid hR h30 rfl hk, ob]
        try dsimp only
        by_cases q : ρ.2.2.2.2 k
        · rw [if_neg (fun z => b2_0.mp z q), E_X8_count_96, mI_s, mI_s, cntP_t (p := fun r => ρ.2.2.2.2 r) q]
        · rw [if_pos (b2_0.mpr q), E_X8_count_96, mI_z, mI_s, cntP_f (p := fun r => ρ.2.2.2.2 r) q]
      · try dsimp only
        rw [E_X8_count_74, m_receiptsR hR, ob]
        exact if_pos (show mI R ≤ mI R by rw [nle (by omega) (by omega)]; omega)
  by_cases h5 : v = 5
  · subst h5
    refine PN.q hI (x := mI (cntP (fun l => ¬ aH w D F φ y l) L)) (w1 := aUw w D F L φ y) ?_ aU_fv (fun u hu hv => ⟨wI u 46 0 0, ?_, FV.t0⟩)
    · have eL : (aUw w D F L φ y).1 9 6 = mI L := (aU_C hC).2.2.2.2.2.2.1
      have eh : (aUw w D F L φ y).2.1 37 0 = mk64 (aH w D F φ y) L := rfl
      rw [E_X7_count, z_0, ob, E_X7_count_0, if_neg (by decide), if_neg (by decide), if_neg (by decide), if_neg (by decide), if_neg (by decide), if_pos rfl, q_0_5, ob, c_aud hA hC, ob]
      try dsimp only
      rw [q_0_1, ob, q_9_6, ob, q_0_5, ob, q_37_0, ob, eL, eh, j_bitCount64, ob]
      refine congrArg (fun q => some (q, _)) ?_
      rw [cntP_cnt (p := fun i => i < L ∧ aH w D F φ y i) (fun i hi => bl_mk (by omega) hi), cntP_lim (by omega)]
      have := cntP_not (p := aH w D F φ y) L
      show mI L - mI (cntP (aH w D F φ y) L) = _
      rw [nsub (by omega)]
      congr 1
      omega
    · have hM0 := hu.M.t0 (v := 0)
      have eh : ∀ k, k < L → F_X8_isHonest (P.2.1 + 46) (mI k) (hp P (wI u 46 0 0) ex n sl) = some (b2 (aH w D F φ y k), hp P (wI u 46 0 0) ex n sl) := by
        intro k hk
        rw [m_isHonest rfl hM0 hk, ← aH_o hv]
        exact congrArg (fun q => some (q, _)) (b2_congr (honP_congr ho (fun h hh => (hu.H.1 h hh).symm) (fun c hc => (hu.H.2.2 c hc).symm) hk))
      rw [E_X8_count, z_46, ob, E_X8_count_0, p_46_0, ob, if_neg (by decide), if_neg (by decide), if_neg (by decide), if_neg (by decide), if_neg (by decide), if_pos rfl]
      refine loopE (f := fun k => R_X8_count_108 (P.2.1 + 46) (mI (cntP (fun l => ¬ aH w D F φ y l) k)) (mI k) (hp P (wI u 46 0 0) ex n sl)) (N := L) (fun k hk => ?_) ?_
      · try dsimp only
        rw [E_X8_count_108, m_linesM hM0, ob]
        try dsimp only
        rw [if_neg (show ¬ mI L ≤ mI k by rw [nle (by omega) (by omega)]; omega), eh k hk, ob]
        try dsimp only
        by_cases q : aH w D F φ y k
        · rw [if_neg (fun z => b2_0.mp z q), E_X8_count_130, mI_z, mI_s, cntP_f (p := fun l => ¬ aH w D F φ y l) (fun z => z q)]
        · rw [if_pos (b2_0.mpr q), E_X8_count_130, mI_s, mI_s, cntP_t (p := fun l => ¬ aH w D F φ y l) q]
      · try dsimp only
        rw [E_X8_count_108, m_linesM hM0, ob]
        exact if_pos (show mI L ≤ mI L by rw [nle (by omega) (by omega)]; omega)
  by_cases h6 : v = 6
  · subst h6
    refine PN.q hI (x := sumI (coiT ρ) R) (w1 := w) ?_ FV.rf (fun u hu hv => ⟨wI u 46 0 0, ?_, FV.t0⟩)
    · rw [E_X7_count, z_0, ob, E_X7_count_0, if_neg (by decide), if_neg (by decide), if_neg (by decide), if_neg (by decide), if_neg (by decide), if_neg (by decide), if_pos rfl, q_0_7, ob, c_coinsOfAll hI.Rc.2.1 h30, ob]
    · have hR := (hu.fv (FV.t0 (v := 0))).Rc.2.2
      rw [E_X8_count, z_46, ob, E_X8_count_0, p_46_0, ob, if_neg (by decide), if_neg (by decide), if_neg (by decide), if_neg (by decide), if_neg (by decide), if_neg (by decide), if_pos rfl]
      refine loopE (f := fun k => R_X8_count_142 (P.2.1 + 46) (sumI (coiT ρ) k) (mI k) (hp P (wI u 46 0 0) ex n sl)) (N := R) (fun k hk => ?_) ?_
      · try dsimp only
        rw [E_X8_count_142, m_receiptsR hR, ob]
        try dsimp only
        rw [if_neg (show ¬ mI R ≤ mI k by rw [nle (by omega) (by omega)]; omega), m_isVoid hR h30 rfl hk, ob]
        try dsimp only
        by_cases q : ρ.2.2.2.2 k
        · rw [if_neg (fun z => b2_0.mp z q), E_X8_count_169, mI_s, sumI_s, show coiT ρ k = 0 from if_pos q]
        · rw [if_pos (b2_0.mpr q), m_rc2 hR h30 rfl hk, ob, E_X8_count_169, mI_s, sumI_s, show coiT ρ k = mI (ρ.2.2.1 k) from if_neg q]
      · try dsimp only
        rw [E_X8_count_142, m_receiptsR hR, ob]
        exact if_pos (show mI R ≤ mI R by rw [nle (by omega) (by omega)]; omega)
  refine PN.q hI (x := -1) (w1 := w) ?_ FV.rf (fun u hu hv => ⟨wI u 46 0 0, ?_, FV.t0⟩)
  · rw [E_X7_count, z_0, ob, E_X7_count_0, if_neg h0, if_neg h1, if_neg h2, if_neg h3, if_neg h4, if_neg h5, if_neg h6]
  · rw [E_X8_count, z_46, ob, E_X8_count_0, p_46_0, ob, if_neg h0, if_neg h1, if_neg h2, if_neg h3, if_neg h4, if_neg h5, if_neg h6]
end RCP
