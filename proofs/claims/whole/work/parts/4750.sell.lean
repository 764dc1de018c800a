/-! pairs of calls: what falls; selling, undoing -/
theorem wA_i {w : sW} {k j : Nat} {v : Int32} : (wA w k j v).1 = w.1 := rfl
theorem wL_i {w : sW} {k j : Nat} {v : Int64} : (wL w k j v).1 = w.1 := rfl
theorem wI_2 {w : sW} {k j : Nat} {v : Int32} : (wI w k j v).2 = w.2 := rfl
section SEL
variable {P : sP} {S0 e : Nat} {w w' w1 w2 z u : sW} {ex : Nat → Option sC} {n sl D F L R U : Nat} {y : sLn} {φ : Nat → List Nat} {nf : Nat → Nat} {ρ : sRc} {nd : Nat → List Nat}
/-! falls -/
theorem MW.w47 {j : Nat} {v : Int32} (h : MW w D F L y φ) (h1 : 4 ≤ j) (h2 : j < 62) : MW (wA w 47 j v) D F L y φ := by
  obtain ⟨g1, g2, g3, g4, g5, g6, g7, g8, g9, g10⟩ := h
  refine ⟨g1, g2, g3, g4, ?_, ?_, ?_, hasLn_congr g8 (fun i hi => ?_), g9, fun k hk => ⟨?_, (g10 k hk).2⟩⟩
  · refine Eq.trans ?_ g5
    ((try dsimp only [wA, wI, wL, wJ]); (repeat first | rw [up2_n (by omega)] | rw [up2_e (by omega) (by omega)]))
  · refine Eq.trans ?_ g6
    ((try dsimp only [wA, wI, wL, wJ]); (repeat first | rw [up2_n (by omega)] | rw [up2_e (by omega) (by omega)]))
  · refine Eq.trans ?_ g7
    ((try dsimp only [wA, wI, wL, wJ]); (repeat first | rw [up2_n (by omega)] | rw [up2_e (by omega) (by omega)]))
  · ((try dsimp only [wA, wI, wL, wJ]); (repeat first | rw [up2_n (by omega)] | rw [up2_e (by omega) (by omega)]))
  · have f : Fr [47] [] w (wA w 47 j v) := (Fr.rf (A := [47]) (B := [])).pA (by decide)
    exact (g10 k hk).1.fr f (by decide) (by decide)
theorem wA_wA {k j : Nat} {a b : Int32} : wA (wA w k j a) k j b = wA w k j b := by
  show (_, _, up2 (up2 w.2.2.1 k j a) k j b, _) = _
  rw [up2_up]
theorem m_fallsL {c f : Nat} (hM : MW w D F L y φ) (hc : c < 4) (hf : f < 30) : R_X8_falls_44 (P.2.1 + 46) (mI c) (mI f) 0 0 (hp P w ex n sl) = some (mk64 (stlP L (w.2.2.2.1 55) (unbP F φ (fun u => if u = c then w.2.2.1 47 (58 + c) &&& (on32 f ^^^ (-1)) else w.2.2.1 47 (58 + u)) y)) L &&& (mk64 (stlP L (w.2.2.2.1 55) (unbP F φ (tolM w) y)) L ^^^ (-1)), hp P w ex n sl) := by
  have h40 := hM.2.2.2.1
  have e1 : (58 : Int32) + mI c = mI (58 + c) := naddR
  have hM2 := hM.w47 (j := 58 + c) (v := w.2.2.1 47 (58 + c) &&& (on32 f ^^^ (-1))) (by omega) (by omega)
  have et : tolM (wA w 47 (58 + c) (w.2.2.1 47 (58 + c) &&& (on32 f ^^^ (-1)))) = fun u => if u = c then w.2.2.1 47 (58 + c) &&& (on32 f ^^^ (-1)) else w.2.2.1 47 (58 + u) := by
    funext u
    unfold tolM
    by_cases g : u = c
    · rw [if_pos g]
      ((try dsimp only [wA, wI, wL, wJ]); (repeat first | rw [up2_n (by omega)] | rw [up2_e (by omega) (by omega)]))
    · rw [if_neg g]
      ((try dsimp only [wA, wI, wL, wJ]); (repeat first | rw [up2_n (by omega)] | rw [up2_e (by omega) (by omega)]))
  generalize hT : (fun u => if u = c then w.2.2.1 47 (58 + c) &&& (on32 f ^^^ (-1)) else w.2.2.1 47 (58 + u)) = T at *
  generalize hU : wA w 47 (58 + c) (w.2.2.1 47 (58 + c) &&& (on32 f ^^^ (-1))) = u at *
  have eu : u.2.2.2.1 55 = w.2.2.2.1 55 := by rw [← hU]
  refine loopE (f := fun k => R_X8_falls_44 (P.2.1 + 46) (mI c) (mI f) (mk64 (stlP L (w.2.2.2.1 55) (unbP F φ (tolM w) y)) k) (mI k) (hp P w ex n sl)) (N := L) (fun k hk => ?_) ?_
  · try dsimp only
    rw [E_X8_falls_44, m_linesM hM, ob]
    try dsimp only
    rw [if_neg (show ¬ mI L ≤ mI k by rw [nle (by omega) (by omega)]; omega), m_isStale hM rfl hk, ob]
    try dsimp only
    by_cases g : stlP L (w.2.2.2.1 55) (unbP F φ (tolM w) y) k
    · rw [if_neg (fun z => b2_0.mp z g), E_X8_falls_71, mI_s, mk64_t (p := stlP L (w.2.2.2.1 55) (unbP F φ (tolM w) y)) g]
    · rw [if_pos (b2_0.mpr g), E_X8_falls_71, mI_s, Int64.or_zero, mk64_f (p := stlP L (w.2.2.2.1 55) (unbP F φ (tolM w) y)) g]
  · try dsimp only
    rw [E_X8_falls_44, m_linesM hM, ob]
    try dsimp only
    rw [if_pos (show mI L ≤ mI L by rw [nle (by omega) (by omega)]; omega), m_told hc, ob]
    try dsimp only
    rw [q_46_1, ob, e1, wa_47 (by omega), ob, show wA w 47 (58 + c) (w.2.2.1 47 (58 + c) &&& ((1 <<< (mI f &&& 31)) ^^^ (-1))) = u from hU]
    refine loopE (f := fun k => R_X8_falls_109 (P.2.1 + 46) (mI c) (mk64 (stlP L (w.2.2.2.1 55) (unbP F φ (tolM w) y)) L) (w.2.2.1 47 (58 + c)) (mk64 (stlP L (w.2.2.2.1 55) (unbP F φ T y)) k) (mI k) (hp P u ex n sl)) (N := L) (fun k hk => ?_) ?_
    · try dsimp only
      rw [E_X8_falls_109, m_linesM hM2, ob]
      try dsimp only
      rw [if_neg (show ¬ mI L ≤ mI k by rw [nle (by omega) (by omega)]; omega), m_isStale hM2 rfl hk, ob, eu, et]
      try dsimp only
      by_cases g : stlP L (w.2.2.2.1 55) (unbP F φ T y) k
      · rw [if_neg (fun z => b2_0.mp z g), E_X8_falls_137, mI_s, mk64_t (p := stlP L (w.2.2.2.1 55) (unbP F φ T y)) g]
      · rw [if_pos (b2_0.mpr g), E_X8_falls_137, mI_s, Int64.or_zero, mk64_f (p := stlP L (w.2.2.2.1 55) (unbP F φ T y)) g]
    · try dsimp only
      rw [E_X8_falls_109, m_linesM hM2, ob]
      try dsimp only
      rw [if_pos (show mI L ≤ mI L by rw [nle (by omega) (by omega)]; omega), q_46_1, ob, e1, wa_47 (by omega), ob, ← hU, wA_wA, wA_id rfl]
theorem pr_falls (hI : IVa P S0 e w n sl D F L R U y φ nf ρ nd) (v v' : Int32) : PJ P S0 e w ex n sl (F_X7_falls P.2.1 v v') (F_X8_falls (P.2.1 + 46) v v') csX := by
  have hb := hI.b
  have hC := hI.C
  have hM0 := hI.M.t0 (v := 0)
  have ho : okLn F L y := hI.1.2.1.1
  by_cases h : inN v 4
  · obtain ⟨c, hc, rfl⟩ := inN_to (by omega) h
    by_cases h' : inN v' F
    · obtain ⟨f, hf, rfl⟩ := inN_to (by omega) h'
      refine PJ.q hI (x := mk64 (stlP L (w.2.2.2.1 13) (unbP F φ (fun u => if mI u = mI c then w.2.2.1 12 c &&& (on32 f ^^^ (-1)) else w.2.2.1 12 u) y)) L &&& (mk64 (stlP L (w.2.2.2.1 13) (unbP F φ (fun u => if mI u = -1 then 0 else w.2.2.1 12 u) y)) L ^^^ (-1))) (w1 := w) ?_ FV.rf (fun u hu hv => ?_)
      · simp only [E_X7_falls, E_X7_falls_0, z_0, ob, c_needCT h, c_needFT hC.2.2.2.2.2.1 h', sumL, q_0_1, q_9_5, ra_12 hc, q_0_5, c_staleIf hC]
      · have hu0 := hu.fv (FV.t0 (v := 0))
        obtain ⟨w', t1, t2, g1, g2, g3, g4, g5, g6⟩ := m_goes (P := P) (ex := ex) (n := n) (sl := sl) hu0
        refine ⟨w', ?_, f546v t2⟩
        have a47 : w'.2.2.1 47 = u.2.2.1 47 := (t2.1 47 (by decide)).1
        have e55 : ∀ l, l < L → w'.2.2.2.1 55 l = w.2.2.2.1 13 l := fun l hl => (g5 l hl).trans (by rw [← (hv.1 13 (by decide)).2])
        have e12 : ∀ q, q < 4 → w'.2.2.1 47 (58 + q) = w.2.2.1 12 q := fun q hq => by rw [a47, ← hu.H.2.2 q hq, (hv.1 12 (by decide)).1]
        simp only [E_X8_falls, E_X8_falls_0, E_X8_falls_26, z_46, p_46_0, ob, m_noCustomer, m_noFM (hu.M.t0 (v := 0)), b2_f (not_not_intro h), b2_f (not_not_intro h'), i00, if_true, m_throwsIf0, t1]
        rw [m_fallsL (hu0.M.fr t2 (by decide) (by decide) (by decide)) hc (by omega)]
        refine congrArg (fun q => some (q, _)) ?_
        rw [mk64_congr (q := stlP L (w.2.2.2.1 13) (unbP F φ (fun u => if mI u = mI c then w.2.2.1 12 c &&& (on32 f ^^^ (-1)) else w.2.2.1 12 u) y)) (fun i hi => stlP_congr (e55 i hi) (fun k hk => unbP_congr ho (fun q hq => ?_) hk)), mk64_congr (p := stlP L (w'.2.2.2.1 55) (unbP F φ (tolM w') y)) (q := stlP L (w.2.2.2.1 13) (unbP F φ (fun u => if mI u = -1 then 0 else w.2.2.1 12 u) y)) (fun i hi => stlP_congr (e55 i hi) (fun k hk => unbP_congr ho (fun q hq => ?_) hk))]
        · rw [if_neg (mI_m1 (show q < 2 ^ 31 by omega))]
          exact e12 q hq
        · by_cases g : q = c
          · rw [if_pos g, if_pos (by rw [g]), e12 c hc]
          · rw [if_neg g, if_neg (fun z => g ((mI_inj (by omega) (by omega)).mp z)), e12 q hq]
    · refine PJ.x (E := eIX) (k := 1) (b := 0) (w2 := wI w 46 0 1) hI (by decide) ?_ ?_ FV.t0 wI_s
      · simp only [E_X7_falls, E_X7_falls_0, z_0, ob, c_needCT h, sumL, c_needFF hC.2.2.2.2.2.1 h', sumR]
      · simp only [E_X8_falls, E_X8_falls_0, E_X8_falls_21, E_X8_falls_26, z_46, p_46_0, ob, m_noCustomer, m_noFM hM0, b2_f (not_not_intro h), b2_t h', i00, i10, if_true, if_false, m_throwsIf1, wI_wI]
  · refine PJ.x (E := eIX) (k := 1) (b := 0) (w2 := wI w 46 0 1) hI (by decide) ?_ ?_ FV.t0 wI_s
    · simp only [E_X7_falls, E_X7_falls_0, z_0, ob, c_needCF h, sumR]
    · simp only [E_X8_falls, E_X8_falls_0, E_X8_falls_21, E_X8_falls_26, z_46, p_46_0, ob, m_noCustomer, b2_t h, i10, if_false, m_throwsIf1, wI_wI]
/-! sell -/
def rcW (u : sW) (R : Nat) (a b c d : Int32) : sW := wA (wA (wA (wA (wA u 47 (1532 + 5 * R) a) 47 (1532 + 5 * R + 1) b) 47 (1532 + 5 * R + 2) c) 47 (1532 + 5 * R + 3) d) 47 (1532 + 5 * R + 4) 0
def rcC (u : sW) (R : Nat) (a b c d : Int32) : sW := wI (wA (wA (wA (wA u 18 (R * 4 + 0) a) 18 (R * 4 + 1) b) 18 (R * 4 + 2) c) 18 (R * 4 + 3) d) 9 9 (mI (R + 1))
theorem m_addR {a b c d : Int32} (h3 : u.2.2.1 47 3 = mI R) (hR : R < 30) : R_X8_sell_91 (P.2.1 + 46) a b c d 0 (P.2.1 + 46) (hp P u ex n sl) = some (mI R, hp P (wA (rcW u R a b c d) 47 3 (mI (R + 1))) ex n sl) := by
  have e0 : (1532 : Int32) + 5 * mI R = mI (1532 + 5 * R) := by rw [nmulR, naddR]
  have r3 : ∀ u : sW, s_ai (hp P u ex n sl) (P.2.1 + 47) 3 = some (u.2.2.1 47 3) := fun u => ra_47 (i := 3) (by decide)
  have s3 : ∀ (u : sW) v, s_si (hp P u ex n sl) (P.2.1 + 47) 3 v = some (hp P (wA u 47 3 v) ex n sl) := fun u v => wa_47 (i := 3) (by decide)
  have e5 : (rcW u R a b c d).2.2.1 47 3 = mI R := by
    refine Eq.trans ?_ h3
    unfold rcW
    ((try dsimp only [wA, wI, wL, wJ]); (repeat first | rw [up2_n (by omega)] | rw [up2_e (by omega) (by omega)]))
  have e6 : (wA (rcW u R a b c d) 47 3 (mI (R + 1))).2.2.1 47 3 = mI (R + 1) := wA_s
  rw [E_X8_sell_91, m_throwsIf0, ob]
  try dsimp only
  rw [if_pos rfl, m_receipts, ob]
  try dsimp only
  rw [h3, e0, q_46_1, ob, wa_47 (by omega), ob, q_46_1, ob, naddL, wa_47 (show 1532 + 5 * R + 1 < 1682 by omega), ob, q_46_1, ob, naddL, wa_47 (show 1532 + 5 * R + 2 < 1682 by omega), ob, q_46_1, ob, naddL, wa_47 (show 1532 + 5 * R + 3 < 1682 by omega), ob, q_46_1, ob, naddL, wa_47 (show 1532 + 5 * R + 4 < 1682 by omega), ob, q_46_1, ob, show wA (wA (wA (wA (wA u 47 (1532 + 5 * R) a) 47 (1532 + 5 * R + 1) b) 47 (1532 + 5 * R + 2) c) 47 (1532 + 5 * R + 3) d) 47 (1532 + 5 * R + 4) 0 = rcW u R a b c d from rfl, r3, ob, e5, s3, ob, mI_s, m_receipts, ob]
  try dsimp only
  rw [up2_s]
  exact congrArg (fun q => some (q, _)) (mI_sub (a := R + 1) (b := 1) (by omega))
theorem c_addR {a b c d : Int32} (h9 : u.1 9 9 = mI R) (hR : R < 30) : F_X1_addReceipt (P.2.1 + 9) a b c d (hp P u ex n sl) = some (mI R, hp P (rcC u R a b c d) ex n sl) := by
  rw [E_X1_addReceipt, z_9, ob, E_X1_addReceipt_0, q_9_9, ob, h9, if_pos (show mI R < 30 by rw [nltL (by omega) (by decide)]; exact hR), ob, q_9_14, ob, nmulL, naddL, wa_18 (show R * 4 + 0 < 120 by omega), ob, q_9_14, ob, naddL, wa_18 (show R * 4 + 1 < 120 by omega), ob, q_9_14, ob, naddL, wa_18 (show R * 4 + 2 < 120 by omega), ob, q_9_14, ob, naddL, wa_18 (show R * 4 + 3 < 120 by omega), ob, q_9_9, ob, p_9_9, ob]
  show some (u.1 9 9, hp P (wI _ 9 9 (u.1 9 9 + 1)) ex n sl) = _
  rw [h9, mI_s]
  rfl
def rcU (ρ : sRc) (R : Nat) (l b c d : Nat) : sRc := (fun r => if r = R then l else ρ.1 r, fun r => if r = R then b else ρ.2.1 r, fun r => if r = R then c else ρ.2.2.1 r, fun r => if r = R then d else ρ.2.2.2.1 r, fun r => r < R ∧ ρ.2.2.2.2 r)
theorem i_buy {v : Int32} {q : Nat} : (v - 4 = mI q) = (v = 4 + mI q) := gan_e
theorem pr_sell (hI : IVa P S0 e w n sl D F L R U y φ nf ρ nd) (v b c d : Int32) : PI P S0 e w ex n sl (F_X7_sell P.2.1 v b c d) (F_X8_sell (P.2.1 + 46) v b c d) csXAU anyI := by
  have hb := hI.b
  have hC := hI.C
  have hM0 := hI.M.t0 (v := 0)
  have ho : okLn F L y := hI.1.2.1.1
  by_cases h : inN v L
  · obtain ⟨l, hl, rfl⟩ := inN_to (by omega) h
    have hy := (ho l hl).1
    by_cases h2 : inN b 7 ∧ inN c 10000 ∧ inN d 10000 ∧ ¬ b = 4 + mI (y.1 l)
    · obtain ⟨hb7, hc9, hd9, hne⟩ := h2
      have gb := (in7 (x := b)).mpr hb7
      have gc := (in9 (x := c)).mpr hc9
      have gd := (in9 (x := d)).mpr hd9
      have cl : F_X7_sell P.2.1 (mI l) b c d (hp P w ex n sl) = (if mI R < 30 then ((F_X1_addReceipt (P.2.1 + 9) (mI l) b c d (hp P w ex n sl)).bind fun q4 => some (.inl q4.1, q4.2)) else some (.inr eUO, hp P w ex (n + 1) (sl + 6))) := by
        rw [E_X7_sell, z_0, ob, E_X7_sell_0, c_needL hC h, ob, sumL, q_0_1, ob, c_house hC rfl hl, ob]
        try dsimp only
        rw [if_neg hne, E_X7_sell_25, if_neg gb.1, if_neg (show ¬ (7 : Int32) ≤ b from hb7.2), if_pos rfl, if_neg gc.1, if_neg gc.2, if_neg gd.1, if_pos (Int32.not_lt.mp gd.2), q_0_1, ob, q_9_9, ob, hI.Rc.2.1.1]
        rfl
      have ml : ∀ (u : sW) (n sl : Nat), MW u D F L y φ → u.2.2.1 47 3 = mI R → F_X8_sell (P.2.1 + 46) (mI l) b c d (hp P u ex n sl) = (if mI R = 30 then R_X8_sell_91 (P.2.1 + 46) (mI l) b c d 1 (P.2.1 + 46) (hp P (wI u 46 0 0) ex n sl) else R_X8_sell_91 (P.2.1 + 46) (mI l) b c d 0 (P.2.1 + 46) (hp P (wI u 46 0 0) ex n sl)) := by
        intro u n sl hu h3
        have hu0 := hu.t0 (v := 0)
        have e3 : (wI u 46 0 0).2.2.1 47 3 = mI R := h3
        simp only [E_X8_sell, E_X8_sell_0, z_46, p_46_0, ob, m_noLM hu0, b2_f (not_not_intro h), i00, i10, if_true, if_false, m_throwsIf0, m_in, b2_t gb, b2_t gc, b2_t gd, m_house rfl hu0.2.2.2.2.2.2.2.1 hb.2.2.2.1 hl, i_buy, hne, E_X8_sell_69, m_receipts, h3]
      by_cases hR : R < 30
      · obtain ⟨b', hb', rfl⟩ := inN_to (by decide) hb7
        obtain ⟨c', hc', rfl⟩ := inN_to (by decide) hc9
        obtain ⟨d', hd', rfl⟩ := inN_to (by decide) hd9
        have hne' : b' ≠ 4 + y.1 l := fun z => hne (by rw [z]; exact (mI_add 4 _).symm)
        obtain ⟨bN, bL, bF, bR, bH⟩ := hI.1
        have nR : ¬ mI R = 30 := by rw [show (30 : Int32) = mI 30 from rfl, mI_inj (by omega) (by decide)]; omega
        have lR : mI R < 30 := by rw [nltL (by omega) (by decide)]; exact hR
        have hfr : Fr [18, 47, 72] [909, 4600] w (wA (rcW (wI (wL (rcC w R (mI l) (mI b') (mI c') (mI d')) 72 0 (mI R).toInt64) 46 0 0) R (mI l) (mI b') (mI c') (mI d')) 47 3 (mI (R + 1))) := by
          unfold rcW rcC
          exact (((((((((((((Fr.rf.pA (k := 18) (by decide)).pA (k := 18) (by decide)).pA (k := 18) (by decide)).pA (k := 18) (by decide)).pI (k := 9) (j := 9) (by decide)).pL (k := 72) (by decide)).pI (k := 46) (j := 0) (by decide)).pA (k := 47) (by decide)).pA (k := 47) (by decide)).pA (k := 47) (by decide)).pA (k := 47) (by decide)).pA (k := 47) (by decide)).pA (k := 47) (by decide))
        refine PI.b (L' := L) (R' := R + 1) (y' := y) (ρ' := rcU ρ R l b' c' d') trivial hI (x := mI R) (w1 := rcC w R (mI l) (mI b') (mI c') (mI d')) (w2 := wA (rcW (wI (wL (rcC w R (mI l) (mI b') (mI c') (mI d')) 72 0 (mI R).toInt64) 46 0 0) R (mI l) (mI b') (mI c') (mI d')) 47 3 (mI (R + 1))) ?_ ?_ ?_ ?_ (hfr.fvb (by decide) (by decide)) ?_
        · rw [cl, if_pos lR, c_addR hI.Rc.2.1.1 hR, ob]
        · have f1 : Fr [18, 72] [909] w (wL (rcC w R (mI l) (mI b') (mI c') (mI d')) 72 0 (mI R).toInt64) := by
            unfold rcC
            exact (((((Fr.rf.pA (k := 18) (by decide)).pA (k := 18) (by decide)).pA (k := 18) (by decide)).pA (k := 18) (by decide)).pI (k := 9) (j := 9) (by decide)).pL (k := 72) (by decide)
          rw [ml _ _ _ (hI.M.fr f1 (by decide) (by decide) (by decide)) ((congrFun (f1.a (k := 47) (by decide)) 3).trans hI.Rc.2.2.1), if_neg nR]
          exact m_addR ((congrFun (f1.a (k := 47) (by decide)) 3).trans hI.Rc.2.2.1) hR
        · unfold rcW
          ((try dsimp only [wA, wI, wL, wJ]); (repeat first | rw [up2_n (by omega)] | rw [up2_e (by omega) (by omega)]))
        · unfold rcW rcC
          ((try dsimp only [wA, wI, wL, wJ]); (repeat first | rw [up2_n (by omega)] | rw [up2_e (by omega) (by omega)]))
        · unfold rcW rcC
          refine ⟨⟨⟨hb.1, hb.2.1, hb.2.2.1, hb.2.2.2.1, by omega, hb.2.2.2.2.2⟩, ⟨?_, ?_, ?_, ?_, ?_⟩, ?_, ?_, ?_, ?_⟩, bL.c hb.2.2.2.1 (fun i hi => ?_) (fun i hi hi' => ?_) (fun i hi => ?_) (fun i hi => ?_), bF.c hb.1 hb.2.1 hb.2.2.1 (fun i hi => ?_) (fun i hi hi' => ?_) (fun i hi => ?_), ⟨⟨by omega, fun r hr => ?_⟩, fun r hr => ?_, fun i hi => ?_, fun r hr => ?_⟩, bH.c (fun i hi => ?_) (fun i hi => ?_) (fun i hi => ?_) (fun i hi hi' => ?_)⟩
          case refine_1 => ((try dsimp only [wA, wI, wL, wJ]); (repeat first | rw [up2_n (by omega)] | rw [up2_e (by omega) (by omega)])); exact bN.2.1.1
          case refine_2 => ((try dsimp only [wA, wI, wL, wJ]); (repeat first | rw [up2_n (by omega)] | rw [up2_e (by omega) (by omega)])); exact bN.2.1.2.1
          case refine_3 => ((try dsimp only [wA, wI, wL, wJ]); (repeat first | rw [up2_n (by omega)] | rw [up2_e (by omega) (by omega)])); exact bN.2.1.2.2.1
          case refine_4 => ((try dsimp only [wA, wI, wL, wJ]); (repeat first | rw [up2_n (by omega)] | rw [up2_e (by omega) (by omega)])); exact bN.2.1.2.2.2.1
          case refine_5 => ((try dsimp only [wA, wI, wL, wJ]); (repeat first | rw [up2_n (by omega)] | rw [up2_e (by omega) (by omega)]))
          case refine_6 => ((try dsimp only [wA, wI, wL, wJ]); (repeat first | rw [up2_n (by omega)] | rw [up2_e (by omega) (by omega)])); exact bN.2.2.1
          case refine_7 => ((try dsimp only [wA, wI, wL, wJ]); (repeat first | rw [up2_n (by omega)] | rw [up2_e (by omega) (by omega)])); exact bN.2.2.2.1
          case refine_8 => ((try dsimp only [wA, wI, wL, wJ]); (repeat first | rw [up2_n (by omega)] | rw [up2_e (by omega) (by omega)])); exact bN.2.2.2.2.1
          case refine_9 => ((try dsimp only [wA, wI, wL, wJ]); (repeat first | rw [up2_n (by omega)] | rw [up2_e (by omega) (by omega)]))
          case refine_17 =>
            unfold rcU
            dsimp only
            by_cases g : r = R
            · rw [if_pos g, if_pos g, if_pos g, if_pos g]
              exact ⟨hl, hb', by omega, by omega, hne'⟩
            · rw [if_neg g, if_neg g, if_neg g, if_neg g]
              exact bR.1.2 r (by omega)
          case refine_18 =>
            unfold rcU
            dsimp only
            by_cases g : r = R
            · subst g
              rw [if_pos rfl, if_pos rfl, if_pos rfl, if_pos rfl]
              refine ⟨?_, ?_, ?_, ?_⟩ <;> ((try dsimp only [wA, wI, wL, wJ]); (repeat first | rw [up2_n (by omega)] | rw [up2_e (by omega) (by omega)]))
            · rw [if_neg g, if_neg g, if_neg g, if_neg g]
              obtain ⟨q0, q1, q2, q3⟩ := bR.2.1 r (by omega)
              refine ⟨?_, ?_, ?_, ?_⟩
              · ((try dsimp only [wA, wI, wL, wJ]); (repeat first | rw [up2_n (by omega)] | rw [up2_e (by omega) (by omega)])); exact q0
              · ((try dsimp only [wA, wI, wL, wJ]); (repeat first | rw [up2_n (by omega)] | rw [up2_e (by omega) (by omega)])); exact q1
              · ((try dsimp only [wA, wI, wL, wJ]); (repeat first | rw [up2_n (by omega)] | rw [up2_e (by omega) (by omega)])); exact q2
              · ((try dsimp only [wA, wI, wL, wJ]); (repeat first | rw [up2_n (by omega)] | rw [up2_e (by omega) (by omega)])); exact q3
          case refine_19 =>
            have q := bR.2.2.1 i hi
            have e10 : ((wA (wA (wA (wA (wA (wA (wI (wL (wI (wA (wA (wA (wA w 18 (R * 4 + 0) (mI l)) 18 (R * 4 + 1) (mI b')) 18 (R * 4 + 2) (mI c')) 18 (R * 4 + 3) (mI d')) 9 9 (mI (R + 1))) 72 0 (mI R).toInt64) 46 0 0) 47 (1532 + 5 * R) (mI l)) 47 (1532 + 5 * R + 1) (mI b')) 47 (1532 + 5 * R + 2) (mI c')) 47 (1532 + 5 * R + 3) (mI d')) 47 (1532 + 5 * R + 4) 0) 47 3 (mI (R + 1))).1 9) 10 = w.1 9 10 := by ((try dsimp only [wA, wI, wL, wJ]); (repeat first | rw [up2_n (by omega)] | rw [up2_e (by omega) (by omega)]))
            rw [e10, q]
            unfold rcU
            dsimp only
            exact ⟨fun ⟨a1, a2⟩ => ⟨by omega, a1, a2⟩, fun ⟨_, a1, a2⟩ => ⟨a1, a2⟩⟩
          case refine_20 =>
            unfold rcU
            dsimp only
            by_cases g : r = R
            · subst g
              rw [if_pos rfl, if_pos rfl, if_pos rfl, if_pos rfl, b2_f (fun z => absurd z.1 (Nat.lt_irrefl _))]
              refine ⟨?_, ?_, ?_, ?_, ?_⟩ <;> ((try dsimp only [wA, wI, wL, wJ]); (repeat first | rw [up2_n (by omega)] | rw [up2_e (by omega) (by omega)]))
            · rw [if_neg g, if_neg g, if_neg g, if_neg g, b2_congr (p := r < R ∧ ρ.2.2.2.2 r) (q := ρ.2.2.2.2 r) ⟨fun z => z.2, fun z => ⟨by omega, z⟩⟩]
              obtain ⟨q0, q1, q2, q3, q4⟩ := bR.2.2.2 r (by omega)
              refine ⟨?_, ?_, ?_, ?_, ?_⟩
              · ((try dsimp only [wA, wI, wL, wJ]); (repeat first | rw [up2_n (by omega)] | rw [up2_e (by omega) (by omega)])); exact q0
              · ((try dsimp only [wA, wI, wL, wJ]); (repeat first | rw [up2_n (by omega)] | rw [up2_e (by omega) (by omega)])); exact q1
              · ((try dsimp only [wA, wI, wL, wJ]); (repeat first | rw [up2_n (by omega)] | rw [up2_e (by omega) (by omega)])); exact q2
              · ((try dsimp only [wA, wI, wL, wJ]); (repeat first | rw [up2_n (by omega)] | rw [up2_e (by omega) (by omega)])); exact q3
              · ((try dsimp only [wA, wI, wL, wJ]); (repeat first | rw [up2_n (by omega)] | rw [up2_e (by omega) (by omega)])); exact q4
          all_goals ((try dsimp only [wA, wI, wL, wJ]); (repeat first | rw [up2_n (by omega)] | rw [up2_e (by omega) (by omega)]))
      · have hR30 : R = 30 := by omega
        subst hR30
        refine PI.x (E := eUO) (k := 3) (b := 0) (w2 := wI w 46 0 3) hI (by decide) ?_ ?_ FV.t0 wI_s
        · rw [cl, if_neg (by decide)]
        · rw [ml _ _ _ hI.M hI.Rc.2.2.1, if_pos (show mI 30 = 30 from rfl), E_X8_sell_91, m_throwsIf1, ob, wI_wI]
          exact if_neg (show ¬ (1 : Int32) = 0 by decide)
    · refine PI.x (E := eIA) (k := 2) (b := 0) (w2 := wI w 46 0 2) hI (by decide) ?_ ?_ FV.t0 wI_s
      · have k25 : ∀ t : Int32, (t = if b = 4 + mI (y.1 l) then 1 else 0) → R_X7_sell_25 P.2.1 (mI l) b c d t (hp P w ex n sl) = some (.inr eIA, hp P w ex (n + 1) (sl + 6)) := by
          intro t ht
          rw [E_X7_sell_25]
          by_cases g1 : b < 0
          · rw [if_pos g1]; rfl
          rw [if_neg g1]
          by_cases g2 : (7 : Int32) ≤ b
          · rw [if_pos g2]; rfl
          rw [if_neg g2]
          by_cases g3 : b = 4 + mI (y.1 l)
          · rw [if_pos g3] at ht
            rw [if_neg (by rw [ht]; decide)]; rfl
          rw [if_neg g3] at ht
          rw [if_pos ht]
          by_cases g4 : c < 0
          · rw [if_pos g4]; rfl
          rw [if_neg g4]
          by_cases g5 : (9999 : Int32) < c
          · rw [if_pos g5]; rfl
          rw [if_neg g5]
          by_cases g6 : d < 0
          · rw [if_pos g6]; rfl
          rw [if_neg g6]
          by_cases g7 : d ≤ 9999
          · exact absurd ⟨⟨g1, g2⟩, in9.mp ⟨g4, g5⟩, in9.mp ⟨g6, Int32.not_lt.mpr g7⟩, g3⟩ h2
          · rw [if_neg g7]; rfl
        rw [E_X7_sell, z_0, ob, E_X7_sell_0, c_needL hC h, ob, sumL, q_0_1, ob, c_house hC rfl hl, ob]
        try dsimp only
        by_cases g3 : b = 4 + mI (y.1 l)
        · rw [if_pos g3]; exact k25 1 (by rw [if_pos g3])
        · rw [if_neg g3]; exact k25 0 (by rw [if_neg g3])
      · have e64 : R_X8_sell_64 (P.2.1 + 46) (mI l) b c d (P.2.1 + 46) (hp P (wI w 46 0 0) ex (n + 1) (sl + 6)) = some (0, hp P (wI w 46 0 2) ex (n + 1) (sl + 6)) := by
          simp only [E_X8_sell_64, E_X8_sell_69, ob, m_throwsIf1, i10, if_false, wI_wI]
        simp only [E_X8_sell, E_X8_sell_0, z_46, p_46_0, ob, m_noLM hM0, b2_f (not_not_intro h), i00, i10, if_true, if_false, m_throwsIf0, m_in]
        by_cases g1 : inN b 7
        · rw [if_neg (fun z => b2_0.mp z (in7.mpr g1))]
          by_cases g2 : inN c 10000
          · rw [if_neg (fun z => b2_0.mp z (in9.mpr g2))]
            by_cases g3 : inN d 10000
            · rw [if_neg (fun z => b2_0.mp z (in9.mpr g3)), m_house rfl hM0.2.2.2.2.2.2.2.1 hb.2.2.2.1 hl, ob]
              try dsimp only
              rw [if_pos (by rw [i_buy]; exact Classical.byContradiction fun z => h2 ⟨g1, g2, g3, z⟩)]
              exact e64
            · rw [if_pos (b2_0.mpr (fun z => g3 (in9.mp z)))]
              exact e64
          · rw [if_pos (b2_0.mpr (fun z => g2 (in9.mp z)))]
            exact e64
        · rw [if_pos (b2_0.mpr (fun z => g1 (in7.mp z)))]
          exact e64
  · refine PI.x (E := eIX) (k := 1) (b := 0) (w2 := wI w 46 0 1) hI (by decide) ?_ ?_ FV.t0 wI_s
    · simp only [E_X7_sell, E_X7_sell_0, z_0, ob, c_needLx hC h, sumR]
    · simp only [E_X8_sell, E_X8_sell_0, z_46, p_46_0, ob, m_noLM hM0, b2_t h, i10, if_false, m_throwsIf1, wI_wI]
/-! undo -/
theorem pr_undo (hI : IVa P S0 e w n sl D F L R U y φ nf ρ nd) (v : Int32) : PI P S0 e w ex n sl (F_X7_undo P.2.1 v) (F_X8_undo (P.2.1 + 46) v) csX bolI := by
  have hb := hI.b
  have h30 := hb.2.2.2.2.1
  have e1 : ∀ q, (1532 : Int32) + 5 * mI q + 4 = mI (1532 + 5 * q + 4) := fun q => by rw [nmulR, naddR, naddL]
  have ein : ∀ x : Int32, (¬ x < 0 ∧ ¬ mI R - 1 < x) ↔ inN x R := fun x => by unfold inN; rw [mI_pred (by omega)]
  by_cases h : inN v R
  · obtain ⟨r, hr, rfl⟩ := inN_to (by omega) h
    obtain ⟨bN, bL, bF, bR, bH⟩ := hI.1
    have hfr : ∀ a b, Fr [47, 72] [910, 4600] w (wA (wI (wL (wI w 9 10 a) 72 0 b) 46 0 0) 47 (1532 + 5 * r + 4) 1) := fun a b => ((((Fr.rf.pI (k := 9) (j := 10) (by decide)).pL (k := 72) (by decide)).pI (k := 46) (j := 0) (by decide)).pA (k := 47) (by decide))
    refine PI.b (L' := L) (R' := R) (y' := y) (ρ' := (ρ.1, ρ.2.1, ρ.2.2.1, ρ.2.2.2.1, fun i => i = r ∨ ρ.2.2.2.2 i)) bol_b2 hI (x := b2 (¬ ρ.2.2.2.2 r)) (w1 := wI w 9 10 (w.1 9 10 ||| on32 r)) (w2 := wA (wI (wL (wI w 9 10 (w.1 9 10 ||| on32 r)) 72 0 (b2 (¬ ρ.2.2.2.2 r)).toInt64) 46 0 0) 47 (1532 + 5 * r + 4) 1) ?_ ?_ ?_ ?_ ((hfr _ _).fvb (by decide) (by decide)) ?_
    · have e42 : ∀ t, (t = 0 ∨ t = 1) → R_X7_undo_42 P.2.1 (mI r) t (hp P w ex n sl) = some (.inl t, hp P (wI w 9 10 (w.1 9 10 ||| on32 r)) ex n sl) := by
        intro t ht
        rw [E_X7_undo_42, q_0_1, ob, q_9_10, ob, p_9_10, ob]
        exact if_pos ht
      rw [E_X7_undo, z_0, ob, E_X7_undo_0, if_neg h.1, q_0_1, ob, q_9_9, ob, hI.Rc.2.1.1, if_pos ((inN_lt h.1).mpr h.2), ob, c_isVoid hI.Rc.2.1 h30 rfl hr, ob]
      try dsimp only
      by_cases g : ρ.2.2.2.2 r
      · rw [if_neg (fun z => b2_0.mp z g), b2_f (fun z => z g)]; exact e42 0 (Or.inl rfl)
      · rw [if_pos (b2_0.mpr g), b2_t g]; exact e42 1 (Or.inr rfl)
    · have f1 : Fr [72] [910, 4600] w (wI (wL (wI w 9 10 (w.1 9 10 ||| on32 r)) 72 0 (b2 (¬ ρ.2.2.2.2 r)).toInt64) 46 0 0) := ((Fr.rf.pI (k := 9) (j := 10) (by decide)).pL (k := 72) (by decide)).pI (k := 46) (j := 0) (by decide)
      have hR' := hI.Rc.2.2.fr f1 (by decide)
      rw [E_X8_undo, z_46, ob, E_X8_undo_0, p_46_0, ob, m_receiptsR hR', ob, m_in, ob]
      try dsimp only
      rw [b2_t ((ein _).mpr h), if_neg (by decide), E_X8_undo_25, m_throwsIf0, ob]
      try dsimp only
      rw [if_pos rfl, m_isVoid hR' h30 rfl hr, ob, q_46_1, ob, e1, wa_47 (by omega), ob]
      try dsimp only
      by_cases g : ρ.2.2.2.2 r
      · rw [if_neg (fun z => b2_0.mp z g), b2_f (fun z => z g)]
      · rw [if_pos (b2_0.mpr g), b2_t g]
    · ((try dsimp only [wA, wI, wL, wJ]); (repeat first | rw [up2_n (by omega)] | rw [up2_e (by omega) (by omega)]))
    · ((try dsimp only [wA, wI, wL, wJ]); (repeat first | rw [up2_n (by omega)] | rw [up2_e (by omega) (by omega)]))
    · refine ⟨bN.c (fun j hj => ?_) (fun i hi => ?_), bL.c hb.2.2.2.1 (fun i hi => ?_) (fun i hi hi' => ?_) (fun i hi => ?_) (fun i hi => ?_), bF.c hb.1 hb.2.1 hb.2.2.1 (fun i hi => ?_) (fun i hi hi' => ?_) (fun i hi => ?_), ⟨bR.1, fun q hq => ?_, fun i hi => ?_, fun q hq => ?_⟩, bH.c (fun i hi => ?_) (fun i hi => ?_) (fun i hi => ?_) (fun i hi hi' => ?_)⟩
      case refine_10 =>
        obtain ⟨q0, q1, q2, q3⟩ := bR.2.1 q hq
        refine ⟨?_, ?_, ?_, ?_⟩
        · ((try dsimp only [wA, wI, wL, wJ]); (repeat first | rw [up2_n (by omega)] | rw [up2_e (by omega) (by omega)])); exact q0
        · ((try dsimp only [wA, wI, wL, wJ]); (repeat first | rw [up2_n (by omega)] | rw [up2_e (by omega) (by omega)])); exact q1
        · ((try dsimp only [wA, wI, wL, wJ]); (repeat first | rw [up2_n (by omega)] | rw [up2_e (by omega) (by omega)])); exact q2
        · ((try dsimp only [wA, wI, wL, wJ]); (repeat first | rw [up2_n (by omega)] | rw [up2_e (by omega) (by omega)])); exact q3
      case refine_11 =>
        have e10 : (wA (wI (wL (wI w 9 10 (w.1 9 10 ||| on32 r)) 72 0 (b2 (¬ ρ.2.2.2.2 r)).toInt64) 46 0 0) 47 (1532 + 5 * r + 4) 1).1 9 10 = w.1 9 10 ||| on32 r := by ((try dsimp only [wA, wI, wL, wJ]); (repeat first | rw [up2_n (by omega)] | rw [up2_e (by omega) (by omega)]))
        rw [e10, bt_or, bt_on (by omega) hi, Bool.or_eq_true, bR.2.2.1 i hi, decide_eq_true_iff]
        constructor
        · rintro (⟨a1, a2⟩ | rfl)
          · exact ⟨a1, Or.inr a2⟩
          · exact ⟨hr, Or.inl rfl⟩
        · rintro ⟨a1, rfl | a2⟩
          · exact Or.inr rfl
          · exact Or.inl ⟨a1, a2⟩
      case refine_12 =>
        obtain ⟨q0, q1, q2, q3, q4⟩ := bR.2.2.2 q hq
        refine ⟨?_, ?_, ?_, ?_, ?_⟩
        · ((try dsimp only [wA, wI, wL, wJ]); (repeat first | rw [up2_n (by omega)] | rw [up2_e (by omega) (by omega)])); exact q0
        · ((try dsimp only [wA, wI, wL, wJ]); (repeat first | rw [up2_n (by omega)] | rw [up2_e (by omega) (by omega)])); exact q1
        · ((try dsimp only [wA, wI, wL, wJ]); (repeat first | rw [up2_n (by omega)] | rw [up2_e (by omega) (by omega)])); exact q2
        · ((try dsimp only [wA, wI, wL, wJ]); (repeat first | rw [up2_n (by omega)] | rw [up2_e (by omega) (by omega)])); exact q3
        · by_cases g : q = r
          · subst g
            rw [b2_t (Or.inl rfl)]
            ((try dsimp only [wA, wI, wL, wJ]); (repeat first | rw [up2_n (by omega)] | rw [up2_e (by omega) (by omega)]))
          · rw [b2_congr (p := q = r ∨ ρ.2.2.2.2 q) (q := ρ.2.2.2.2 q) ⟨fun z => z.resolve_left g, Or.inr⟩]
            ((try dsimp only [wA, wI, wL, wJ]); (repeat first | rw [up2_n (by omega)] | rw [up2_e (by omega) (by omega)])); exact q4
      all_goals ((try dsimp only [wA, wI, wL, wJ]); (repeat first | rw [up2_n (by omega)] | rw [up2_e (by omega) (by omega)]))
  · have hR0 := (hI.fv (FV.t0 (v := 0))).Rc.2.2
    refine PI.x (E := eIX) (k := 1) (b := 0) (w2 := wI w 46 0 1) hI (by decide) ?_ ?_ FV.t0 wI_s
    · rw [E_X7_undo, z_0, ob, E_X7_undo_0]
      by_cases g : v < 0
      · rw [if_pos g]; rfl
      · rw [if_neg g, q_0_1, ob, q_9_9, ob, hI.Rc.2.1.1, if_neg (fun z => h ⟨g, (inN_lt g).mp z⟩)]; rfl
    · rw [E_X8_undo, z_46, ob, E_X8_undo_0, p_46_0, ob, m_receiptsR hR0, ob, m_in, ob]
      try dsimp only
      rw [b2_f (fun z => h ((ein _).mp z)), if_pos rfl, E_X8_undo_25, m_throwsIf1, ob, wI_wI]
      exact if_neg (show ¬ (1 : Int32) = 0 by decide)
end SEL
