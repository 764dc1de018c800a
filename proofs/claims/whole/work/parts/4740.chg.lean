/-! pairs of calls: rules, prices, beliefs, undoing -/
section CHG
variable {P : sP} {S0 e : Nat} {w w' w1 w2 : sW} {ex : Nat → Option sC} {n sl D F L R U : Nat} {y : sLn} {φ : Nat → List Nat} {nf : Nat → Nat} {ρ : sRc} {nd : Nat → List Nat}
/-! rules -/
theorem pr_rules (hI : IVa P S0 e w n sl D F L R U y φ nf ρ nd) (v v' : Int32) : PI P S0 e w ex n sl (F_X7_rules P.2.1 v v') (F_X8_rules (P.2.1 + 46) v v') csXA anyI := by
  have hb := hI.b
  by_cases h : inN v 3
  · obtain ⟨q, hq, rfl⟩ := inN_to (by omega) h
    by_cases h' : inN v' 65536
    · have h'' : ¬ v' < 0 ∧ ¬ (65535 : Int32) < v' := (in_N (N := 65535) (by decide)).mpr h'
      have e1 : (4 : Int32) + 18 * mI q = mI (4 + 18 * q) := by rw [nmulR, naddR]
      have eq0 := hI.H.1 q hq
      obtain ⟨bN, bL, bF, bR, bH⟩ := hI.1
      refine PI.b (L' := L) (R' := R) (y' := y) (ρ' := ρ) trivial hI (x := w.2.2.1 11 q) (w1 := wA w 11 q v') (w2 := wA (wI (wL (wA w 11 q v') 72 0 (w.2.2.1 11 q).toInt64) 46 0 0) 47 (4 + 18 * q) v') ?_ ?_ (by ((try dsimp only [wA, wI, wL, wJ]); (repeat first | rw [up2_n (by omega)] | rw [up2_e (by omega) (by omega)]))) (by ((try dsimp only [wA, wI, wL, wJ]); (repeat first | rw [up2_n (by omega)] | rw [up2_e (by omega) (by omega)]))) ?_ ?_
      · simp only [E_X7_rules, E_X7_rules_0, z_0, ob, c_needHT h, sumL, h''.1, if_false, if_pos (Int32.not_lt.mp h''.2), q_0_1, q_9_4, ra_11 hq, wa_11 hq]
      · simp only [E_X8_rules, E_X8_rules_0, E_X8_rules_33, z_46, p_46_0, ob, m_noHouse, b2_f (not_not_intro h), i00, i10, if_true, if_false, m_throwsIf0, m_in, b2_t h'', q_46_1, e1, ra_47 (show 4 + 18 * q < 1682 by omega), wa_47 (show 4 + 18 * q < 1682 by omega)]
        refine congrArg (fun z => some (z, _)) ?_
        refine Eq.trans ?_ eq0.symm
        ((try dsimp only [wA, wI, wL, wJ]); (repeat first | rw [up2_n (by omega)] | rw [up2_e (by omega) (by omega)]))
      · exact (((((Fr.rf (A := [11, 47, 72]) (B := [4600]) (w := w)).pA (k := 11) (by decide)).pL (k := 72) (by decide)).pI (k := 46) (j := 0) (by decide)).pA (k := 47) (by decide)).fvb (by decide) (by decide)
      · refine ⟨bN.c (fun j hj => ?_) (fun i hi => ?_), bL.c hb.2.2.2.1 (fun i hi => ?_) (fun i hi hi' => ?_) (fun i hi => ?_) (fun i hi => ?_), bF.c hb.1 hb.2.1 hb.2.2.1 (fun i hi => ?_) (fun i hi hi' => ?_) (fun i hi => ?_), bR.c hb.2.2.2.2.1 (fun i hi => ?_) ?_ (fun i hi hi' => ?_), fun h hh => ?_, fun h hh r hr => ?_, fun u hu => ?_⟩
        case refine_13 =>
          by_cases g : h = q
          · subst g
            ((try dsimp only [wA, wI, wL, wJ]); (repeat first | rw [up2_n (by omega)] | rw [up2_e (by omega) (by omega)]))
          · ((try dsimp only [wA, wI, wL, wJ]); (repeat first | rw [up2_n (by omega)] | rw [up2_e (by omega) (by omega)]))
            exact bH.1 h hh
        case refine_14 =>
          obtain ⟨p, p1, p2, p3, p4⟩ := bH.2.1 h hh r hr
          refine ⟨p, p1, p2, ?_, ?_⟩
          · ((try dsimp only [wA, wI, wL, wJ]); (repeat first | rw [up2_n (by omega)] | rw [up2_e (by omega) (by omega)]))
            exact p3
          · ((try dsimp only [wA, wI, wL, wJ]); (repeat first | rw [up2_n (by omega)] | rw [up2_e (by omega) (by omega)]))
            exact p4
        case refine_15 =>
          ((try dsimp only [wA, wI, wL, wJ]); (repeat first | rw [up2_n (by omega)] | rw [up2_e (by omega) (by omega)]))
          exact bH.2.2 u hu
        all_goals ((try dsimp only [wA, wI, wL, wJ]); (repeat first | rw [up2_n (by omega)] | rw [up2_e (by omega) (by omega)]))
    · have h'' : ¬ (¬ v' < 0 ∧ ¬ (65535 : Int32) < v') := fun z => h' ((in_N (N := 65535) (by decide)).mp z)
      refine PI.x (E := eIA) (k := 2) (b := 0) (w2 := wI w 46 0 2) hI (by decide) ?_ ?_ FV.t0 wI_s
      · simp only [E_X7_rules, E_X7_rules_0, z_0, ob, c_needHT h, sumL]
        by_cases g : v' < 0
        · rw [if_pos g]; rfl
        · rw [if_neg g, if_neg (fun q => h'' ⟨g, Int32.not_lt.mpr q⟩)]; rfl
      · simp only [E_X8_rules, E_X8_rules_0, E_X8_rules_33, z_46, p_46_0, ob, m_noHouse, b2_f (not_not_intro h), i00, i10, if_true, if_false, m_throwsIf0, m_throwsIf1, m_in, b2_f h'', wI_wI]
  · refine PI.x (E := eIX) (k := 1) (b := 0) (w2 := wI w 46 0 1) hI (by decide) ?_ ?_ FV.t0 wI_s
    · simp only [E_X7_rules, E_X7_rules_0, z_0, ob, c_needHF h, sumR]
    · simp only [E_X8_rules, E_X8_rules_0, z_46, p_46_0, ob, m_noHouse, b2_t h, i10, if_false, m_throwsIf1, wI_wI]
/-! price -/
theorem pr_price (hI : IVa P S0 e w n sl D F L R U y φ nf ρ nd) (v v' c : Int32) : PI P S0 e w ex n sl (F_X7_price P.2.1 v v' c) (F_X8_price (P.2.1 + 46) v v' c) csXA anyI := by
  have hb := hI.b
  by_cases h : inN v 3
  · obtain ⟨q, hq, rfl⟩ := inN_to (by omega) h
    by_cases h' : inN v' 17
    · obtain ⟨s, hs, rfl⟩ := inN_to (by omega) h'
      have h17 : ¬ mI s < 0 ∧ ¬ (16 : Int32) < mI s := (in_N (N := 16) (by decide)).mpr h'
      have e16 : (mI s = 16) = (s = 16) := neqL (by omega) (by decide)
      have l16 : (mI s ≤ 16) = True := eq_true (Int32.not_lt.mp h17.2)
      have e1 : (4 : Int32) + 18 * mI q + 1 + mI s = mI (4 + 18 * q + 1 + s) := by rw [nmulR, naddR, naddL, nadd]
      generalize hlim : (if s = 16 then 9 else 99) = lim
      have hlim99 : lim ≤ 99 := by rw [← hlim]; split <;> omega
      have hlim9 : s = 16 → lim ≤ 9 := fun z => by rw [← hlim, if_pos z]; exact Nat.le_refl _
      have c43 : R_X7_price_0 P.2.1 (mI q) (mI s) c (hp P w ex n sl) = (if c < 0 then some (.inr eIA, hp P w ex (n + 1) (sl + 6)) else R_X7_price_43 P.2.1 (mI q) (mI s) c (mI lim) c (hp P w ex n sl)) := by
        rw [← hlim]
        simp only [E_X7_price_0, ob, c_needHT h, sumL, h17.1, if_false, l16, if_true, e16, hp_ex]
        by_cases g : s = 16
        · rw [if_pos g, if_pos g]; rfl
        · rw [if_neg g, if_neg g]; rfl
      have m51 : R_X8_price_0 (P.2.1 + 46) (mI q) (mI s) c = fun σ => (s_pf σ (P.2.1 + 46) 8 0 (.int 0)).bind fun σ1 => (F_X8_noHouse (mI q) σ1).bind fun q2 => if q2.1 = 0 then ((F_X8_in (mI s) 0 16 q2.2).bind fun q3 => if q3.1 = 0 then (R_X8_price_23 (P.2.1 + 46) (mI q) (mI s) c (P.2.1 + 46) q3.2) else (R_X8_price_28 (P.2.1 + 46) (mI q) (mI s) c 0 (P.2.1 + 46) q3.2)) else (R_X8_price_23 (P.2.1 + 46) (mI q) (mI s) c (P.2.1 + 46) q2.2) := by
        funext σ
        exact E_X8_price_0
      have m28 : ∀ (u : sW) (n sl : Nat), F_X8_price (P.2.1 + 46) (mI q) (mI s) c (hp P u ex n sl) = R_X8_price_51 (P.2.1 + 46) (mI q) (mI s) c (mI lim) 0 c (P.2.1 + 46) (hp P (wI u 46 0 0) ex n sl) := by
        intro u n sl
        rw [← hlim]
        simp only [E_X8_price, E_X8_price_0, E_X8_price_28, z_46, p_46_0, ob, m_noHouse, b2_f (not_not_intro h), i00, i10, if_true, if_false, m_throwsIf0, m_in, b2_t h17, e16]
        by_cases g : s = 16
        · rw [if_pos g, if_pos g]; rfl
        · rw [if_neg g, if_neg g]; rfl
      by_cases hc : inN c (lim + 1)
      · obtain ⟨p, hp9, rfl⟩ := inN_to (by omega) hc
        have hc' : ¬ mI p < 0 ∧ ¬ mI lim < mI p := (in_N (N := lim) (by omega)).mpr hc
        obtain ⟨bN, bL, bF, bR, bH⟩ := hI.1
        have eq0 := hI.pr q hq s hs
        refine PI.b (L' := L) (R' := R) (y' := y) (ρ' := ρ) trivial hI (x := w.2.2.1 16 (q * 17 + s)) (w1 := wA w 16 (q * 17 + s) (mI p)) (w2 := wA (wI (wL (wA w 16 (q * 17 + s) (mI p)) 72 0 (w.2.2.1 16 (q * 17 + s)).toInt64) 46 0 0) 47 (4 + 18 * q + 1 + s) (mI p)) ?_ ?_ (by ((try dsimp only [wA, wI, wL, wJ]); (repeat first | rw [up2_n (by omega)] | rw [up2_e (by omega) (by omega)]))) (by ((try dsimp only [wA, wI, wL, wJ]); (repeat first | rw [up2_n (by omega)] | rw [up2_e (by omega) (by omega)]))) ?_ ?_
        · rw [E_X7_price, z_0, ob, c43, if_neg hc'.1, E_X7_price_43, if_pos (Int32.not_lt.mp hc'.2)]
          simp only [ob, q_0_1, c_priceOf rfl rfl hq hs, c_setPrice rfl rfl hq hs]
        · rw [m28]
          simp only [E_X8_price_51, E_X8_price_62, ob, m_in, b2_t hc', i00, i10, if_true, if_false, m_throwsIf0, q_46_1, e1, ra_47 (show 4 + 18 * q + 1 + s < 1682 by omega), wa_47 (show 4 + 18 * q + 1 + s < 1682 by omega)]
          refine congrArg (fun z => some (z, _)) ?_
          refine Eq.trans ?_ eq0.symm
          ((try dsimp only [wA, wI, wL, wJ]); (repeat first | rw [up2_n (by omega)] | rw [up2_e (by omega) (by omega)]))
        · exact (((((Fr.rf (A := [16, 47, 72]) (B := [4600]) (w := w)).pA (k := 16) (by decide)).pL (k := 72) (by decide)).pI (k := 46) (j := 0) (by decide)).pA (k := 47) (by decide)).fvb (by decide) (by decide)
        · refine ⟨bN.c (fun j hj => ?_) (fun i hi => ?_), bL.c hb.2.2.2.1 (fun i hi => ?_) (fun i hi hi' => ?_) (fun i hi => ?_) (fun i hi => ?_), bF.c hb.1 hb.2.1 hb.2.2.1 (fun i hi => ?_) (fun i hi hi' => ?_) (fun i hi => ?_), bR.c hb.2.2.2.2.1 (fun i hi => ?_) ?_ (fun i hi hi' => ?_), fun h hh => ?_, fun h hh r hr => ?_, fun u hu => ?_⟩
          case refine_13 =>
            ((try dsimp only [wA, wI, wL, wJ]); (repeat first | rw [up2_n (by omega)] | rw [up2_e (by omega) (by omega)]))
            exact bH.1 h hh
          case refine_14 =>
            by_cases g : h = q ∧ r = s
            · obtain ⟨rfl, rfl⟩ := g
              refine ⟨p, by omega, fun z => by have := hlim9 z; omega, ?_, ?_⟩
              · ((try dsimp only [wA, wI, wL, wJ]); (repeat first | rw [up2_n (by omega)] | rw [up2_e (by omega) (by omega)]))
              · ((try dsimp only [wA, wI, wL, wJ]); (repeat first | rw [up2_n (by omega)] | rw [up2_e (by omega) (by omega)]))
            · have g1 : h * 17 + r ≠ q * 17 + s := by omega
              have g2 : 4 + 18 * h + 1 + r ≠ 4 + 18 * q + 1 + s := by omega
              obtain ⟨p, p1, p2, p3, p4⟩ := bH.2.1 h hh r hr
              refine ⟨p, p1, p2, ?_, ?_⟩
              · ((try dsimp only [wA, wI, wL, wJ]); (repeat first | rw [up2_n (by omega)] | rw [up2_e (by omega) (by omega)]))
                exact p3
              · ((try dsimp only [wA, wI, wL, wJ]); (repeat first | rw [up2_n (by omega)] | rw [up2_e (by omega) (by omega)]))
                exact p4
          case refine_15 =>
            ((try dsimp only [wA, wI, wL, wJ]); (repeat first | rw [up2_n (by omega)] | rw [up2_e (by omega) (by omega)]))
            exact bH.2.2 u hu
          all_goals ((try dsimp only [wA, wI, wL, wJ]); (repeat first | rw [up2_n (by omega)] | rw [up2_e (by omega) (by omega)]))
      · have hc' : ¬ (¬ c < 0 ∧ ¬ mI lim < c) := fun z => hc ((in_N (N := lim) (by omega)).mp z)
        refine PI.x (E := eIA) (k := 2) (b := 0) (w2 := wI w 46 0 2) hI (by decide) ?_ ?_ FV.t0 wI_s
        · rw [E_X7_price, z_0, ob, c43]
          by_cases g : c < 0
          · rw [if_pos g]
          · rw [if_neg g, E_X7_price_43, if_neg (fun q => hc' ⟨g, Int32.not_lt.mpr q⟩)]; rfl
        · rw [m28]
          simp only [E_X8_price_51, E_X8_price_62, ob, m_in, b2_f hc', i00, i10, if_true, if_false, m_throwsIf1, wI_wI]
    · have h17 : ¬ (¬ v' < 0 ∧ ¬ (16 : Int32) < v') := fun z => h' ((in_N (N := 16) (by decide)).mp z)
      refine PI.x (E := eIX) (k := 1) (b := 0) (w2 := wI w 46 0 1) hI (by decide) ?_ ?_ FV.t0 wI_s
      · simp only [E_X7_price, E_X7_price_0, z_0, ob, c_needHT h, sumL]
        by_cases g : v' < 0
        · rw [if_pos g]; rfl
        · rw [if_neg g, if_neg (fun q => h17 ⟨g, Int32.not_lt.mpr q⟩)]; rfl
      · simp only [E_X8_price, E_X8_price_0, E_X8_price_23, E_X8_price_28, z_46, p_46_0, ob, m_noHouse, b2_f (not_not_intro h), i00, i10, if_true, if_false, m_throwsIf1, m_in, b2_f h17, wI_wI]
  · refine PI.x (E := eIX) (k := 1) (b := 0) (w2 := wI w 46 0 1) hI (by decide) ?_ ?_ FV.t0 wI_s
    · simp only [E_X7_price, E_X7_price_0, z_0, ob, c_needHF h, sumR]
    · simp only [E_X8_price, E_X8_price_0, E_X8_price_23, E_X8_price_28, z_46, p_46_0, ob, m_noHouse, b2_t h, i10, if_false, m_throwsIf1, wI_wI]
/-! believe -/
theorem bel_1 {x : Int32} {f : Nat} (hf : f < 32) (h : bt x f = true) : x ||| on32 f = x ∧ x &&& (on32 f ^^^ (-1)) = x ^^^ on32 f ∧ ¬ x ^^^ on32 f = x := by
  refine ⟨bt_ext fun i hi => ?_, bt_ext fun i hi => ?_, fun z => ?_⟩
  · rw [bt_or, bt_on hf hi]
    by_cases g : i = f
    · subst g; rw [h]; simp
    · simp [g]
  · rw [bt_and, bt_not _ hi, bt_xor, bt_on hf hi]
    by_cases g : i = f
    · subst g; rw [h]; simp
    · simp [g]
  · have := congrArg (fun q => bt q f) z
    simp only [bt_xor, bt_on hf hf, h] at this
    simp at this
theorem bel_0 {x : Int32} {f : Nat} (hf : f < 32) (h : ¬ bt x f = true) : x &&& (on32 f ^^^ (-1)) = x ∧ x ||| on32 f = x ^^^ on32 f ∧ ¬ x ^^^ on32 f = x := by
  have h : bt x f = false := by simpa using h
  refine ⟨bt_ext fun i hi => ?_, bt_ext fun i hi => ?_, fun z => ?_⟩
  · rw [bt_and, bt_not _ hi, bt_on hf hi]
    by_cases g : i = f
    · subst g; rw [h]; simp
    · simp [g]
  · rw [bt_or, bt_xor, bt_on hf hi]
    by_cases g : i = f
    · subst g; rw [h]; simp
    · simp [g]
  · have := congrArg (fun q => bt q f) z
    simp only [bt_xor, bt_on hf hf, h] at this
    simp at this
theorem pr_believe (hI : IVa P S0 e w n sl D F L R U y φ nf ρ nd) (v v' c : Int32) (hc : c = 0 ∨ c = 1) : PI P S0 e w ex n sl (F_X7_believe P.2.1 v v' c) (F_X8_believe (P.2.1 + 46) v v' c) csX bolI := by
  have hb := hI.b
  have hC := hI.C
  have hM0 := hI.M.t0 (v := 0)
  by_cases h : inN v 4
  · obtain ⟨u, hu, rfl⟩ := inN_to (by omega) h
    by_cases h' : inN v' F
    · obtain ⟨f, hf, rfl⟩ := inN_to (by omega) h'
      have e1 : (58 : Int32) + mI u = mI (58 + u) := naddR
      have eq0 := hI.H.2.2 u hu
      obtain ⟨bN, bL, bF, bR, bH⟩ := hI.1
      generalize hx : w.2.2.1 12 u = x at *
      have hfr : ∀ a b c, FVb w (wA (wI (wL (wA w 12 u a) 72 0 b) 46 0 0) 47 (58 + u) c) := fun a b c => (((((Fr.rf (A := [12, 47, 72]) (B := [4600]) (w := w)).pA (k := 12) (by decide)).pL (k := 72) (by decide)).pI (k := 46) (j := 0) (by decide)).pA (k := 47) (by decide)).fvb (by decide) (by decide)
      have hbk : ∀ a b, BKo (wA (wI (wL (wA w 12 u a) 72 0 b) 46 0 0) 47 (58 + u) a) D F L R U y φ nf ρ := by
        intro a b
        refine ⟨bN.c (fun j hj => ?_) (fun i hi => ?_), bL.c hb.2.2.2.1 (fun i hi => ?_) (fun i hi hi' => ?_) (fun i hi => ?_) (fun i hi => ?_), bF.c hb.1 hb.2.1 hb.2.2.1 (fun i hi => ?_) (fun i hi hi' => ?_) (fun i hi => ?_), bR.c hb.2.2.2.2.1 (fun i hi => ?_) ?_ (fun i hi hi' => ?_), fun h hh => ?_, fun h hh r hr => ?_, fun u' hu' => ?_⟩
        case refine_13 =>
          ((try dsimp only [wA, wI, wL, wJ]); (repeat first | rw [up2_n (by omega)] | rw [up2_e (by omega) (by omega)]))
          exact bH.1 h hh
        case refine_14 =>
          obtain ⟨p, p1, p2, p3, p4⟩ := bH.2.1 h hh r hr
          refine ⟨p, p1, p2, ?_, ?_⟩
          · ((try dsimp only [wA, wI, wL, wJ]); (repeat first | rw [up2_n (by omega)] | rw [up2_e (by omega) (by omega)]))
            exact p3
          · ((try dsimp only [wA, wI, wL, wJ]); (repeat first | rw [up2_n (by omega)] | rw [up2_e (by omega) (by omega)]))
            exact p4
        case refine_15 =>
          by_cases g : u' = u
          · subst g
            ((try dsimp only [wA, wI, wL, wJ]); (repeat first | rw [up2_n (by omega)] | rw [up2_e (by omega) (by omega)]))
          · ((try dsimp only [wA, wI, wL, wJ]); (repeat first | rw [up2_n (by omega)] | rw [up2_e (by omega) (by omega)]))
            exact bH.2.2 u' hu'
        all_goals ((try dsimp only [wA, wI, wL, wJ]); (repeat first | rw [up2_n (by omega)] | rw [up2_e (by omega) (by omega)]))
      have cc : ∀ a x' : Int32, (a = if c = 0 then x &&& (on32 f ^^^ (-1)) else x ||| on32 f) → (x' = if a = x then 0 else 1) → F_X7_believe P.2.1 (mI u) (mI f) c (hp P w ex n sl) = some (.inl x', hp P (wA w 12 u a) ex n sl) := by
        intro a x' ha hx'
        have e2 : (wA w 12 u a).2.2.1 12 u = a := wA_s
        simp only [E_X7_believe, E_X7_believe_0, E_X7_believe_53, z_0, ob, c_needCT h, c_needFT hC.2.2.2.2.2.1 h', sumL, q_0_1, q_9_5, ra_12 hu, wa_12 hu, hx]
        rcases hc with rfl | rfl
        · rw [if_pos rfl] at ha
          subst ha
          rw [if_pos rfl, up2_s, hx']
          split <;> rfl
        · rw [if_neg (by decide)] at ha
          subst ha
          rw [if_neg (by decide), up2_s, hx']
          split <;> rfl
      have mm : ∀ (z : sW), z.2.2.1 47 = w.2.2.1 47 → MW z D F L y φ → F_X8_believe (P.2.1 + 46) (mI u) (mI f) c (hp P z ex n sl) = R_X8_believe_53 (P.2.1 + 46) (mI u) (mI f) c (b2 (bt x f = true)) (hp P (wI z 46 0 0) ex n sl) := by
        intro z hz hM
        have ez : z.2.2.1 47 (58 + u) = x := (congrFun hz _).trans eq0.symm
        simp only [E_X8_believe, E_X8_believe_0, E_X8_believe_26, z_46, p_46_0, ob, m_noCustomer, m_noFM (hM.t0 (v := 0)), b2_f (not_not_intro h), b2_f (not_not_intro h'), i00, if_true, m_throwsIf0, m_told hu, ez, t32o (show f < 32 by omega)]
        by_cases g : bt x f = true
        · rw [if_pos g, b2_t g]
        · rw [if_neg g, b2_f g]
      have keep : ∀ a : Int32, (a = if c = 0 then x &&& (on32 f ^^^ (-1)) else x ||| on32 f) → a = x → b2 (bt x f = true) = c → PI P S0 e w ex n sl (F_X7_believe P.2.1 (mI u) (mI f) c) (F_X8_believe (P.2.1 + 46) (mI u) (mI f) c) csX bolI := by
        intro a ha hax hbc
        refine PI.b (L' := L) (R' := R) (y' := y) (ρ' := ρ) (Or.inl rfl) hI (x := 0) (w1 := wA w 12 u a) (w2 := wI (wL (wA w 12 u a) 72 0 (0 : Int32).toInt64) 46 0 0) (cc a 0 ha (by rw [if_pos hax])) ?_ (by ((try dsimp only [wA, wI, wL, wJ]); (repeat first | rw [up2_n (by omega)] | rw [up2_e (by omega) (by omega)]))) (by ((try dsimp only [wA, wI, wL, wJ]); (repeat first | rw [up2_n (by omega)] | rw [up2_e (by omega) (by omega)]))) ?_ ?_
        · rw [mm (wL (wA w 12 u a) 72 0 (0 : Int32).toInt64) rfl (hI.M.fr (((Fr.rf (A := [12, 72]) (B := []) (w := w)).pA (k := 12) (by decide)).pL (k := 72) (by decide)) (by decide) (by decide) (by decide)), E_X8_believe_53, if_pos hbc, E_X8_believe_76, if_pos hbc]
        · exact ((((Fr.rf (A := [12, 47, 72]) (B := [4600]) (w := w)).pA (k := 12) (by decide)).pL (k := 72) (by decide)).pI (k := 46) (j := 0) (by decide)).fvb (by decide) (by decide)
        · have hq := hbk a (0 : Int32).toInt64
          have e4 : (wI (wL (wA w 12 u a) 72 0 (0 : Int32).toInt64) 46 0 0).2.2.1 47 (58 + u) = a := by
            refine Eq.trans ?_ (eq0.symm.trans hax.symm)
            ((try dsimp only [wA, wI, wL, wJ]); (repeat first | rw [up2_n (by omega)] | rw [up2_e (by omega) (by omega)]))
          rw [wA_id e4] at hq
          exact hq
      have turn : ∀ a : Int32, (a = if c = 0 then x &&& (on32 f ^^^ (-1)) else x ||| on32 f) → a = x ^^^ on32 f → ¬ a = x → ¬ b2 (bt x f = true) = c → PI P S0 e w ex n sl (F_X7_believe P.2.1 (mI u) (mI f) c) (F_X8_believe (P.2.1 + 46) (mI u) (mI f) c) csX bolI := by
        intro a ha hax hne hbc
        have ez : up2 w.2.2.1 12 u a 47 (58 + u) = x := (up2_n (Or.inl (by decide))).trans eq0.symm
        refine PI.b (L' := L) (R' := R) (y' := y) (ρ' := ρ) (Or.inr rfl) hI (x := 1) (w1 := wA w 12 u a) (w2 := wA (wI (wL (wA w 12 u a) 72 0 (1 : Int32).toInt64) 46 0 0) 47 (58 + u) a) (cc a 1 ha (by rw [if_neg hne])) ?_ (by ((try dsimp only [wA, wI, wL, wJ]); (repeat first | rw [up2_n (by omega)] | rw [up2_e (by omega) (by omega)]))) (by ((try dsimp only [wA, wI, wL, wJ]); (repeat first | rw [up2_n (by omega)] | rw [up2_e (by omega) (by omega)]))) (hfr _ _ _) (hbk _ _)
        rw [mm (wL (wA w 12 u a) 72 0 (1 : Int32).toInt64) rfl (hI.M.fr (((Fr.rf (A := [12, 72]) (B := []) (w := w)).pA (k := 12) (by decide)).pL (k := 72) (by decide)) (by decide) (by decide) (by decide)), E_X8_believe_53, if_neg hbc]
        simp only [q_46_1, ob, e1, ra_47 (show 58 + u < 1682 by omega), wa_47 (show 58 + u < 1682 by omega), ez]
        rw [E_X8_believe_76, if_neg hbc, hax]
      by_cases g : bt x f = true
      · obtain ⟨b1, b2', b3⟩ := bel_1 (show f < 32 by omega) g
        rcases hc with rfl | rfl
        · exact turn _ rfl (by rw [if_pos rfl]; exact b2') (by rw [if_pos rfl, b2']; exact b3) (by rw [b2_t g]; decide)
        · exact keep _ rfl (by rw [if_neg (by decide)]; exact b1) (b2_t g)
      · obtain ⟨b1, b2', b3⟩ := bel_0 (show f < 32 by omega) g
        rcases hc with rfl | rfl
        · exact keep _ rfl (by rw [if_pos rfl]; exact b1) (b2_f g)
        · exact turn _ rfl (by rw [if_neg (by decide)]; exact b2') (by rw [if_neg (by decide), b2']; exact b3) (by rw [b2_f g]; decide)
    · refine PI.x (E := eIX) (k := 1) (b := 0) (w2 := wI w 46 0 1) hI (by decide) ?_ ?_ FV.t0 wI_s
      · simp only [E_X7_believe, E_X7_believe_0, z_0, ob, c_needCT h, sumL, c_needFF hC.2.2.2.2.2.1 h', sumR]
      · simp only [E_X8_believe, E_X8_believe_0, E_X8_believe_21, E_X8_believe_26, z_46, p_46_0, ob, m_noCustomer, m_noFM hM0, b2_f (not_not_intro h), b2_t h', i00, i10, if_true, if_false, m_throwsIf1, wI_wI]
  · refine PI.x (E := eIX) (k := 1) (b := 0) (w2 := wI w 46 0 1) hI (by decide) ?_ ?_ FV.t0 wI_s
    · simp only [E_X7_believe, E_X7_believe_0, z_0, ob, c_needCF h, sumR]
    · simp only [E_X8_believe, E_X8_believe_0, E_X8_believe_21, E_X8_believe_26, z_46, p_46_0, ob, m_noCustomer, b2_t h, i10, if_false, m_throwsIf1, wI_wI]
end CHG
