/-! pairs of calls: questions on lines -/
section AUD
variable {P : sP} {S0 e : Nat} {w z : sW} {ex : Nat → Option sC} {n sl D F L R U : Nat} {y : sLn} {φ : Nat → List Nat} {nf : Nat → Nat} {ρ : sRc} {nd : Nat → List Nat}
theorem honP_congr {Q Q' T T' : Nat → Int32} (ho : okLn F L y) (hQ : ∀ h, h < 3 → Q h = Q' h) (hT : ∀ u, u < 4 → T u = T' u) {l : Nat} (hl : l < L) : honP D F φ y Q T l ↔ honP D F φ y Q' T' l := by
  have o := ho l hl
  unfold honP
  rw [hQ _ o.1]
  by_cases g : y.2.2.1 l = 0
  · obtain ⟨⟨u, hu, eu⟩, -⟩ := o.2.2.2.1 g
    have ea : amP F φ T y l = amP F φ T' y l := by unfold amP; rw [eu, Option.getD_some, hT u hu]
    rw [ea]
  · have ef : ∀ am am' : Prop, fitP D (y.2.2.1 l) am (asmP y l) (othP y l) (φ (y.2.1 l)) (pfm φ y l 0) (pfm φ y l 1) (pfm φ y l 2) = fitP D (y.2.2.1 l) am' (asmP y l) (othP y l) (φ (y.2.1 l)) (pfm φ y l 0) (pfm φ y l 1) (pfm φ y l 2) := by
      intro am am'
      unfold fitP
      rw [if_neg g, if_neg g]
    rw [ef (amP F φ T y l) (amP F φ T' y l)]
theorem unbP_congr {T T' : Nat → Int32} (ho : okLn F L y) (hT : ∀ u, u < 4 → T u = T' u) {l : Nat} (hl : l < L) : unbP F φ T y l ↔ unbP F φ T' y l := by
  unfold unbP
  refine and_congr_right (fun g => ?_)
  obtain ⟨⟨u, hu, eu⟩, -⟩ := (ho l hl).2.2.2.1 g
  unfold amP
  rw [eu, Option.getD_some, hT u hu]
theorem opnP_congr {A A' : Nat → Int64} {l : Nat} (h : A l = A' l) : opnP L A y l ↔ opnP L A' y l := by unfold opnP; rw [h]
theorem stlP_congr {A A' : Nat → Int64} {B B' : Nat → Prop} {l : Nat} (h : A l = A' l) (hB : ∀ k, k < L → (B k ↔ B' k)) : stlP L A B l ↔ stlP L A' B' l := by
  unfold stlP
  rw [h]
  exact exists_congr fun k => ⟨fun ⟨a, b, c⟩ => ⟨a, b, (hB k a).mp c⟩, fun ⟨a, b, c⟩ => ⟨a, b, (hB k a).mpr c⟩⟩
theorem savP_congr {S O T S' O' T' : Nat → Prop} (hS : ∀ k, k < L → (S k ↔ S' k)) (hO : ∀ k, k < L → (O k ↔ O' k)) (hT : ∀ k, k < L → (T k ↔ T' k)) {l : Nat} (hl : l < L) : savP L φ y S O T l ↔ savP L φ y S' O' T' l := by
  unfold savP
  rw [hT l hl]
  refine and_congr Iff.rfl (exists_congr fun k => ⟨fun ⟨a, b, c, d, f⟩ => ⟨a, b, (hS k a).mp c, fun g => d ((hO k a).mpr g), fun g => f ((hT k a).mpr g)⟩, fun ⟨a, b, c, d, f⟩ => ⟨a, b, (hS k a).mpr c, fun g => d ((hO k a).mp g), fun g => f ((hT k a).mp g)⟩⟩)
/-- what the class's books say of lines -/
abbrev aH (w : sW) (D F : Nat) (φ : Nat → List Nat) (y : sLn) : Nat → Prop := honC w D F φ y
abbrev aS (w : sW) (D F : Nat) (φ : Nat → List Nat) (y : sLn) : Nat → Prop := sndP (honC w D F φ y) y
abbrev aO (w : sW) (L : Nat) (y : sLn) : Nat → Prop := opnP L (w.2.2.2.1 13) y
abbrev aT (w : sW) (F L : Nat) (φ : Nat → List Nat) (y : sLn) : Nat → Prop := stlP L (w.2.2.2.1 13) (unbP F φ (w.2.2.1 12) y)
theorem aH_o (f : FVo w z) : aH z D F φ y = aH w D F φ y := by
  unfold aH honC
  rw [(f.1 11 (by decide)).1, (f.1 12 (by decide)).1]
theorem aS_o (f : FVo w z) : aS z D F φ y = aS w D F φ y := by
  unfold aS honC
  rw [(f.1 11 (by decide)).1, (f.1 12 (by decide)).1]
theorem aO_o (f : FVo w z) : aO z L y = aO w L y := by
  unfold aO
  rw [(f.1 13 (by decide)).2]
theorem aT_o (f : FVo w z) : aT z F L φ y = aT w F L φ y := by
  unfold aT
  rw [(f.1 13 (by decide)).2, (f.1 12 (by decide)).1]
/-- what the model knows when it has gone through its lines -/
def GT (w z : sW) (D F L : Nat) (φ : Nat → List Nat) (y : sLn) : Prop := (∀ l, l < L → (honM z D F φ y l ↔ aH w D F φ y l)) ∧ (∀ l, l < L → z.2.2.1 54 l = b2 (aS w D F φ y l)) ∧ (∀ l, l < L → (opnP L (z.2.2.2.1 55) y l ↔ aO w L y l)) ∧ (∀ l, l < L → (stlP L (z.2.2.2.1 55) (unbP F φ (tolM z) y) l ↔ aT w F L φ y l)) ∧ (∀ l, l < L → z.2.2.2.1 55 l = w.2.2.2.1 13 l) ∧ ∀ l, l < L → z.2.2.2.1 56 l = w.2.2.2.1 14 l
theorem m_goes (hI : IVa P S0 e w n sl D F L R U y φ nf ρ nd) : ∃ w', F_X8_goesThrough (P.2.1 + 46) (hp P w ex n sl) = some ((), hp P w' ex n sl) ∧ Fr [54, 55, 56] [] w w' ∧ GT w w' D F L φ y := by
  obtain ⟨w', t1, t2, t3, t4, S, t5, t6⟩ := m_goesThrough (P := P) (ex := ex) (n := n) (sl := sl) hI.M
  have ho : okLn F L y := hI.1.2.1.1
  have hH := hI.H
  have a47 := (t2.1 47 (by decide)).1
  have eh : ∀ l, l < L → (honM w D F φ y l ↔ aH w D F φ y l) := fun l hl => honP_congr ho (fun h hh => (hH.1 h hh).symm) (fun u hu => (hH.2.2 u hu).symm) hl
  have er : ∀ l, l < L → w'.2.2.2.1 55 l = w.2.2.2.1 13 l := rst_uni ho t3 hI.rs.1
  refine ⟨w', t1, t2, ?_, ?_, ?_, ?_, er, ned_uni ho t4 hI.rs.2⟩
  · intro l hl
    unfold honM
    rw [a47]
    exact eh l hl
  · intro l hl
    rw [t6 l hl]
    exact b2_congr (snd_uni ho eh t5 l hl)
  · intro l hl
    exact opnP_congr (er l hl)
  · intro l hl
    unfold tolM
    rw [a47]
    exact stlP_congr (er l hl) (fun k hk => unbP_congr ho (fun u hu => (hH.2.2 u hu).symm) hk)
theorem f546v {u : sW} (h : Fr [54, 55, 56] [] (wI w 46 0 0) u) : FV w u ∧ u.1 46 0 = 0 := ⟨FV.t0.tr (h.fv (by decide) (by decide)), by rw [(h.2.1 46 0 (by decide)).1]; exact wI_s⟩
theorem aU_fv {a b c d : Int64} : FV w (aU w a b c d) := aU_fr.fv (by decide) (by decide)
theorem c_needL {v : Int32} (hC : CW w D F L U y φ nd nf) (h : inN v L) : F_X7_needLine P.2.1 v (hp P w ex n sl) = some (.inl (), hp P w ex n sl) := c_needLT hC.2.2.2.2.2.2.1 h
theorem c_needLx {v : Int32} (hC : CW w D F L U y φ nd nf) (h : ¬ inN v L) : F_X7_needLine P.2.1 v (hp P w ex n sl) = some (.inr eIX, hp P w ex (n + 1) (sl + 6)) := c_needLF hC.2.2.2.2.2.2.1 h
/-! look -/
theorem hasLn_eq {A A' : Nat → Int32} {b b' : Nat} (h : hasLn A b L y) (h' : hasLn A' b' L y) {l j : Nat} (hl : l < L) (hj : j < 6) : A (b + 6 * l + j) = A' (b' + 6 * l + j) := by
  obtain ⟨a0, a1, a2, a3⟩ := h l hl
  obtain ⟨c0, c1, c2, c3⟩ := h' l hl
  match j, hj with
  | 0, _ => rw [a0, c0]
  | 1, _ => rw [a1, c1]
  | 2, _ => rw [a2, c2]
  | 3, _ => exact (a3 0 (by decide)).trans (c3 0 (by decide)).symm
  | 4, _ => exact (a3 1 (by decide)).trans (c3 1 (by decide)).symm
  | 5, _ => exact (a3 2 (by decide)).trans (c3 2 (by decide)).symm
theorem lcost_eq {Q Q' : Nat → Nat → Int32} (ho : okLn F L y) (h : ∀ h, h < 3 → ∀ r, r < 17 → Q h r = Q' h r) {l : Nat} (hl : l < L) : lcost Q φ y l = lcost Q' φ y l := by
  have o := ho l hl
  unfold lcost
  rw [h _ o.1 _ (by omega), h _ o.1 16 (by decide)]
theorem IVa.pr (hI : IVa P S0 e w n sl D F L R U y φ nf ρ nd) : ∀ h, h < 3 → ∀ r, r < 17 → w.2.2.1 16 (h * 17 + r) = w.2.2.1 47 (4 + 18 * h + 1 + r) := fun h hh r hr => by
  obtain ⟨p, -, -, a, b⟩ := hI.H.2.1 h hh r hr
  rw [a, b]
theorem m_look {l j : Nat} (hM : MW w D F L y φ) (hl : l < L) (hj : j < 7) : F_X8_look (P.2.1 + 46) (mI l) (mI j) (hp P w ex n sl) = some (if j = 6 then lcost (fun h r => w.2.2.1 47 (4 + 18 * h + 1 + r)) φ y l else w.2.2.1 47 (1292 + 6 * l + j), hp P (wI w 46 0 0) ex n sl) := by
  have h40 := hM.2.2.2.1
  have hM0 := hM.t0 (v := 0)
  have hj' : ¬ mI j < 0 ∧ ¬ (6 : Int32) < mI j := (in_N (N := 6) (by decide)).mpr (inN_of (by decide) hj)
  have e6 : (mI j = 6) = (j = 6) := neqL (by omega) (by decide)
  simp only [E_X8_look, E_X8_look_0, E_X8_look_34, z_46, p_46_0, ob, m_noLM hM0, b2_f (not_not_intro (inN_of (F := L) (by omega) hl)), i00, i10, if_true, if_false, m_throwsIf0, m_in, b2_t hj', e6, m_priceOf hM0 rfl hl]
  by_cases g : j = 6
  · rw [if_pos g, if_pos g]
  · rw [if_neg g, if_neg g, m_ofLine (l := l) (j := j) rfl rfl (by omega) (by omega), ob]
theorem pr_look (hI : IVa P S0 e w n sl D F L R U y φ nf ρ nd) (v v' : Int32) : PI P S0 e w ex n sl (F_X7_look P.2.1 v v') (F_X8_look (P.2.1 + 46) v v') csXN anyI := by
  have hb := hI.b
  have hC := hI.C
  have hM0 := hI.M.t0 (v := 0)
  by_cases h : inN v L
  · obtain ⟨l, hl, rfl⟩ := inN_to (by omega) h
    by_cases h' : inN v' 7
    · obtain ⟨j, hj, rfl⟩ := inN_to (by omega) h'
      have e6 : (mI j = 6) = (j = 6) := neqL (by omega) (by decide)
      have e7 : (mI j ≤ 6) = True := eq_true (by rw [nleL (by omega) (by decide)]; exact Nat.le_of_lt_succ hj)
      refine PI.q trivial hI (x := if j = 6 then lcost (fun h r => w.2.2.1 47 (4 + 18 * h + 1 + r)) φ y l else w.2.2.1 47 (1292 + 6 * l + j)) (w1 := w) ?_ FV.rf (fun u hu hv => ⟨wI u 46 0 0, ?_, FV.t0, wI_s⟩)
      · simp only [E_X7_look, E_X7_look_0, z_0, ob, c_needL hC h, sumL, h'.1, if_false, e7, if_true, e6, q_0_5, q_0_1, c_costOf hC rfl hl]
        by_cases g : j = 6
        · rw [if_pos g, if_pos g, lcost_eq hI.1.2.1.1 hI.pr hl]
        · rw [if_neg g, if_neg g, c_line (l := l) (j := j) hC rfl rfl hl (by omega), ob]
          exact congrArg (fun q => some (Sum.inl q, hp P w ex n sl)) (hasLn_eq (A := w.2.2.1 17) (A' := w.2.2.1 47) (b := 0) (b' := 1292) (j := j) hI.1.2.1.2.1 hI.1.2.1.2.2.1 hl (by omega))
      · rw [m_look hu.M hl hj, (hv.1 47 (by decide)).1]
    · have h'' : ¬ (¬ v' < 0 ∧ ¬ (6 : Int32) < v') := fun z => h' ((in_N (N := 6) (by decide)).mp z)
      refine PI.x (E := eNS) (k := 2) (b := 0) (w2 := wI w 46 0 2) hI (by decide) ?_ ?_ FV.t0 wI_s
      · simp only [E_X7_look, E_X7_look_0, z_0, ob, c_needL hC h, sumL]
        by_cases g : v' < 0
        · rw [if_pos g]; rfl
        · rw [if_neg g, if_neg (fun q => h'' ⟨g, Int32.not_lt.mpr q⟩)]; rfl
      · simp only [E_X8_look, E_X8_look_0, E_X8_look_34, z_46, p_46_0, ob, m_noLM hM0, b2_f (not_not_intro h), i00, i10, if_true, if_false, m_throwsIf0, m_throwsIf1, m_in, b2_f h'', wI_wI]
  · refine PI.x (E := eIX) (k := 1) (b := 0) (w2 := wI w 46 0 1) hI (by decide) ?_ ?_ FV.t0 wI_s
    · simp only [E_X7_look, E_X7_look_0, z_0, ob, c_needLx hC h, sumR]
    · simp only [E_X8_look, E_X8_look_0, z_46, p_46_0, ob, m_noLM hM0, b2_t h, i10, if_false, m_throwsIf1, wI_wI]
/-! is -/
theorem pr_is (hA : KA P) (hI : IVa P S0 e w n sl D F L R U y φ nf ρ nd) (v v' : Int32) : PI P S0 e w ex n sl (F_X7_is P.2.1 v v') (F_X8_is (P.2.1 + 46) v v') csXN bolI := by
  have hb := hI.b
  have hC := hI.C
  have hM0 := hI.M.t0 (v := 0)
  by_cases h : inN v L
  · obtain ⟨l, hl, rfl⟩ := inN_to (by omega) h
    by_cases h' : inN v' 5
    · obtain ⟨j, hj, rfl⟩ := inN_to (by omega) h'
      have e7 : (mI j ≤ 4) = True := eq_true (by rw [nleL (by omega) (by decide)]; exact Nat.le_of_lt_succ hj)
      have hj' : ¬ mI j < 0 ∧ ¬ (4 : Int32) < mI j := (in_N (N := 4) (by decide)).mpr h'
      refine PI.q bol_b2 hI (x := b2 (if j = 0 then aH w D F φ y l else if j = 1 then aS w D F φ y l else if j = 2 then aO w L y l else if j = 3 then aT w F L φ y l else savP L φ y (aS w D F φ y) (aO w L y) (aT w F L φ y) l)) (w1 := aU w (mk64 (aH w D F φ y) L) (mk64 (aS w D F φ y) L) (mk64 (aO w L y) L) (mk64 (aT w F L φ y) L)) ?_ aU_fv (fun u hu hv => ?_)
      · simp only [E_X7_is, E_X7_is_0, z_0, ob, c_needL hC h, sumL, h'.1, if_false, e7, if_true, q_0_5, c_audit hA hC]
        rw [c_tells (l := l) (j := j) (H := aH w D F φ y) (S := aS w D F φ y) (O := aO w L y) (T := aT w F L φ y) (aU_C hC) rfl rfl hj hl rfl rfl rfl rfl, ob]
        exact if_pos b2_or
      · have hu0 := hu.fv (FV.t0 (v := 0))
        obtain ⟨w', t1, t2, g1, g2, g3, g4, g5, g6⟩ := m_goes (P := P) (ex := ex) (n := n) (sl := sl) hu0
        have hM' := hu0.M.fr t2 (by decide) (by decide) (by decide)
        have fo : FVo w (wI u 46 0 0) := ⟨hv.1, hv.2.1, hv.2.2.1, fun k j hk => ⟨((FV.t0 (w := u) (v := 0)).2.2.2.1 k j hk).1.trans (hv.2.2.2.1 k j hk).1, (hv.2.2.2.1 k j hk).2⟩, hv.2.2.2.2⟩
        rw [aH_o fo] at g1
        rw [aS_o fo] at g2
        rw [aO_o fo] at g3
        rw [aT_o fo] at g4
        refine ⟨w', ?_, f546v t2⟩
        have es : ∀ p : Prop, (if (b2 p = 0 ∨ b2 p = 1) then some (b2 p, hp P w' ex n sl) else none) = some (b2 p, hp P w' ex n sl) := fun p => if_pos b2_or
        simp only [E_X8_is, E_X8_is_0, E_X8_is_33, z_46, p_46_0, ob, m_noLM (hu.M.t0 (v := 0)), b2_f (not_not_intro h), i00, i10, if_true, if_false, m_throwsIf0, m_in, b2_t hj', t1]
        match j, hj with
        | 0, _ =>
          rw [if_pos rfl, m_isHonest rfl hM' hl, ob, es]
          exact congrArg (fun q => some (q, _)) (b2_congr (g1 l hl))
        | 1, _ =>
          rw [if_neg (by decide), if_pos (by decide), q_46_17, ob, ra_54 (by omega), ob, g2 l hl]
          exact es _
        | 2, _ =>
          rw [if_neg (by decide), if_neg (by decide), if_pos (by decide), m_isOpen hM' rfl hl, ob, es]
          exact congrArg (fun q => some (q, _)) (b2_congr (g3 l hl))
        | 3, _ =>
          rw [if_neg (by decide), if_neg (by decide), if_neg (by decide), if_pos (by decide), m_isStale hM' rfl hl, ob, es]
          exact congrArg (fun q => some (q, _)) (b2_congr (g4 l hl))
        | 4, _ =>
          rw [if_neg (by decide), if_neg (by decide), if_neg (by decide), if_neg (by decide), m_isSaved hM' rfl hl g2, ob, es]
          exact congrArg (fun q => some (q, _)) (b2_congr (savP_congr (fun _ _ => Iff.rfl) g3 g4 hl))
    · have h'' : ¬ (¬ v' < 0 ∧ ¬ (4 : Int32) < v') := fun z => h' ((in_N (N := 4) (by decide)).mp z)
      refine PI.x (E := eNS) (k := 2) (b := 0) (w2 := wI w 46 0 2) hI (by decide) ?_ ?_ FV.t0 wI_s
      · simp only [E_X7_is, E_X7_is_0, z_0, ob, c_needL hC h, sumL]
        by_cases g : v' < 0
        · rw [if_pos g]; rfl
        · rw [if_neg g, if_neg (fun q => h'' ⟨g, Int32.not_lt.mpr q⟩)]; rfl
      · simp only [E_X8_is, E_X8_is_0, E_X8_is_33, z_46, p_46_0, ob, m_noLM hM0, b2_f (not_not_intro h), i00, i10, if_true, if_false, m_throwsIf0, m_throwsIf1, m_in, b2_f h'', wI_wI]
  · refine PI.x (E := eIX) (k := 1) (b := 0) (w2 := wI w 46 0 1) hI (by decide) ?_ ?_ FV.t0 wI_s
    · simp only [E_X7_is, E_X7_is_0, z_0, ob, c_needLx hC h, sumR]
    · simp only [E_X8_is, E_X8_is_0, z_46, p_46_0, ob, m_noLM hM0, b2_t h, i10, if_false, m_throwsIf1, wI_wI]
/-! wrong -/
theorem m_wrong {H : Nat → Prop} (hM : MW w D F L y φ) (hH : ∀ l, l < L → (honM w D F φ y l ↔ H l)) : (∃ k, k < L ∧ ¬ H k ∧ (∀ i, i < k → H i) ∧ F_X8_wrong (P.2.1 + 46) (hp P w ex n sl) = some (mI k, hp P (wI w 46 0 0) ex n sl)) ∨ ((∀ k, k < L → H k) ∧ F_X8_wrong (P.2.1 + 46) (hp P w ex n sl) = some (-1, hp P (wI w 46 0 0) ex n sl)) := by
  have hM0 := hM.t0 (v := 0)
  have h40 := hM.2.2.2.1
  have eh : ∀ k, k < L → F_X8_isHonest (P.2.1 + 46) (mI k) (hp P (wI w 46 0 0) ex n sl) = some (b2 (H k), hp P (wI w 46 0 0) ex n sl) := by
    intro k hk
    rw [m_isHonest rfl hM0 hk]
    exact congrArg (fun q => some (q, _)) (b2_congr (hH k hk))
  have l := loopX (f := fun k => R_X8_wrong_7 (P.2.1 + 46) (mI k) (hp P (wI w 46 0 0) ex n sl)) (N := L) (p := fun k => ¬ H k) (r0 := ((-1 : Int32), hp P (wI w 46 0 0) ex n sl)) (r1 := fun k => (mI k, hp P (wI w 46 0 0) ex n sl)) (fun k hk h => ?_) (fun k hk h => ?_) ?_
  · have e0 : F_X8_wrong (P.2.1 + 46) (hp P w ex n sl) = R_X8_wrong_7 (P.2.1 + 46) (mI 0) (hp P (wI w 46 0 0) ex n sl) := by
      rw [E_X8_wrong, z_46, ob, E_X8_wrong_0, p_46_0, ob]
      rfl
    rw [e0]
    rcases l with ⟨k, a1, a2, a3, a4⟩ | ⟨a1, a2⟩
    · exact Or.inl ⟨k, a1, a2, fun i hi => Classical.not_not.mp (a3 i hi), a4⟩
    · exact Or.inr ⟨fun k hk => Classical.not_not.mp (a1 k hk), a2⟩
  · try dsimp only
    rw [E_X8_wrong_7, m_linesM hM0, ob]
    try dsimp only
    rw [if_neg (show ¬ mI L ≤ mI k by rw [nle (by omega) (by omega)]; omega), eh k hk, ob]
    try dsimp only
    rw [if_neg (fun z => b2_0.mp z (Classical.not_not.mp h)), mI_s]
  · try dsimp only
    rw [E_X8_wrong_7, m_linesM hM0, ob]
    try dsimp only
    rw [if_neg (show ¬ mI L ≤ mI k by rw [nle (by omega) (by omega)]; omega), eh k hk, ob]
    exact if_pos (b2_0.mpr h)
  · try dsimp only
    rw [E_X8_wrong_7, m_linesM hM0, ob]
    exact if_pos (show mI L ≤ mI L by rw [nle (by omega) (by omega)]; omega)
theorem pr_wrong (hA : KA P) (hI : IVa P S0 e w n sl D F L R U y φ nf ρ nd) : PN P S0 e w ex n sl (F_X7_wrong P.2.1) (F_X8_wrong (P.2.1 + 46)) := by
  have hC := hI.C
  have ho : okLn F L y := hI.1.2.1.1
  have hc1 : ∀ x, F_X0_firstWrong (P.2.1 + 37) (hp P (aU w (mk64 (aH w D F φ y) L) (mk64 (aS w D F φ y) L) (mk64 (aO w L y) L) (mk64 (aT w F L φ y) L)) ex n sl) = some (x, hp P (aU w (mk64 (aH w D F φ y) L) (mk64 (aS w D F φ y) L) (mk64 (aO w L y) L) (mk64 (aT w F L φ y) L)) ex n sl) → F_X7_wrong P.2.1 (hp P w ex n sl) = some (x, hp P (aU w (mk64 (aH w D F φ y) L) (mk64 (aS w D F φ y) L) (mk64 (aO w L y) L) (mk64 (aT w F L φ y) L)) ex n sl) := by
    intro x hx
    simp only [E_X7_wrong, E_X7_wrong_0, z_0, ob, q_0_5, c_audit hA hC]
    rw [hx, ob]
  have key : ∀ x, F_X7_wrong P.2.1 (hp P w ex n sl) = some (x, hp P (aU w (mk64 (aH w D F φ y) L) (mk64 (aS w D F φ y) L) (mk64 (aO w L y) L) (mk64 (aT w F L φ y) L)) ex n sl) → (∀ u, IVa P S0 e u n sl D F L R U y φ nf ρ nd → (∀ l, l < L → (honM u D F φ y l ↔ aH w D F φ y l)) → F_X8_wrong (P.2.1 + 46) (hp P u ex n sl) = some (x, hp P (wI u 46 0 0) ex n sl)) → PN P S0 e w ex n sl (F_X7_wrong P.2.1) (F_X8_wrong (P.2.1 + 46)) := by
    intro x h1 h2
    refine PN.q hI h1 aU_fv (fun u hu hv => ⟨wI u 46 0 0, h2 u hu (fun l hl => ?_), FV.t0⟩)
    rw [← aH_o hv]
    exact honP_congr ho (fun h hh => (hu.H.1 h hh).symm) (fun c hc => (hu.H.2.2 c hc).symm) hl
  rcases c_firstWrong (P := P) (ex := ex) (n := n) (sl := sl) (H := aH w D F φ y) (aU_C (a := mk64 (aH w D F φ y) L) (b := mk64 (aS w D F φ y) L) (c := mk64 (aO w L y) L) (d := mk64 (aT w F L φ y) L) hC) rfl with ⟨k, a1, a2, a3, a4⟩ | ⟨a1, a2⟩
  · refine key (mI k) (hc1 _ a4) (fun u hu hh => ?_)
    rcases m_wrong (P := P) (ex := ex) (n := n) (sl := sl) hu.M hh with ⟨k', b1, b2', b3, b4⟩ | ⟨b1, b2'⟩
    · have : k' = k := by
        rcases Nat.lt_trichotomy k' k with g | g | g
        · exact absurd (a3 k' g) b2'
        · exact g
        · exact absurd (b3 k g) a2
      rw [← this]; exact b4
    · exact absurd (b1 k a1) a2
  · refine key (-1) (hc1 _ a2) (fun u hu hh => ?_)
    rcases m_wrong (P := P) (ex := ex) (n := n) (sl := sl) hu.M hh with ⟨k', b1, b2', b3, b4⟩ | ⟨b1, b2'⟩
    · exact absurd (a1 k' b1) b2'
    · exact b2'
/-! rests, needs, spent -/
theorem pr_rests (hI : IVa P S0 e w n sl D F L R U y φ nf ρ nd) (v : Int32) : PJ P S0 e w ex n sl (F_X7_rests P.2.1 v) (F_X8_rests (P.2.1 + 46) v) csX := by
  have hb := hI.b
  have hC := hI.C
  have hM0 := hI.M.t0 (v := 0)
  by_cases h : inN v L
  · obtain ⟨l, hl, rfl⟩ := inN_to (by omega) h
    refine PJ.q hI (x := w.2.2.2.1 13 l) (w1 := w) ?_ FV.rf (fun u hu hv => ?_)
    · simp only [E_X7_rests, E_X7_rests_0, z_0, ob, c_needL hC h, sumL, q_0_1, q_9_7, ra_13 (show l < 40 by omega)]
    · obtain ⟨w', t1, t2, -, -, -, -, g5, -⟩ := m_goes (P := P) (ex := ex) (n := n) (sl := sl) (hu.fv (FV.t0 (v := 0)))
      refine ⟨w', ?_, f546v t2⟩
      simp only [E_X8_rests, E_X8_rests_0, z_46, p_46_0, ob, m_noLM (hu.M.t0 (v := 0)), b2_f (not_not_intro h), i00, if_true, m_throwsIf0, t1, q_46_18, ra_55 (show l < 40 by omega), g5 l hl, (hv.1 13 (by decide)).2]
  · refine PJ.x (E := eIX) (k := 1) (b := 0) (w2 := wI w 46 0 1) hI (by decide) ?_ ?_ FV.t0 wI_s
    · simp only [E_X7_rests, E_X7_rests_0, z_0, ob, c_needLx hC h, sumR]
    · simp only [E_X8_rests, E_X8_rests_0, z_46, p_46_0, ob, m_noLM hM0, b2_t h, i10, if_false, m_throwsIf1, wI_wI]
theorem pr_needs (hI : IVa P S0 e w n sl D F L R U y φ nf ρ nd) (v : Int32) : PJ P S0 e w ex n sl (F_X7_needs P.2.1 v) (F_X8_needs (P.2.1 + 46) v) csX := by
  have hb := hI.b
  have hC := hI.C
  have hM0 := hI.M.t0 (v := 0)
  by_cases h : inN v L
  · obtain ⟨l, hl, rfl⟩ := inN_to (by omega) h
    refine PJ.q hI (x := w.2.2.2.1 14 l) (w1 := w) ?_ FV.rf (fun u hu hv => ?_)
    · simp only [E_X7_needs, E_X7_needs_0, z_0, ob, c_needL hC h, sumL, q_0_1, q_9_8, ra_14 (show l < 40 by omega)]
    · obtain ⟨w', t1, t2, -, -, -, -, -, g6⟩ := m_goes (P := P) (ex := ex) (n := n) (sl := sl) (hu.fv (FV.t0 (v := 0)))
      refine ⟨w', ?_, f546v t2⟩
      simp only [E_X8_needs, E_X8_needs_0, z_46, p_46_0, ob, m_noLM (hu.M.t0 (v := 0)), b2_f (not_not_intro h), i00, if_true, m_throwsIf0, t1, q_46_19, ra_56 (show l < 40 by omega), g6 l hl, (hv.1 14 (by decide)).2]
  · refine PJ.x (E := eIX) (k := 1) (b := 0) (w2 := wI w 46 0 1) hI (by decide) ?_ ?_ FV.t0 wI_s
    · simp only [E_X7_needs, E_X7_needs_0, z_0, ob, c_needLx hC h, sumR]
    · simp only [E_X8_needs, E_X8_needs_0, z_46, p_46_0, ob, m_noLM hM0, b2_t h, i10, if_false, m_throwsIf1, wI_wI]
/-- what all lines under a line cost -/
noncomputable def allC (w : sW) (L : Nat) (φ : Nat → List Nat) (y : sLn) (l : Nat) : Int32 := sumI (fun k => if bl (w.2.2.2.1 14 l) k = true then lcost (fun h r => w.2.2.1 16 (h * 17 + r)) φ y k else 0) L
theorem allC_o (f : FVo w z) : allC z L φ y = allC w L φ y := by
  funext l
  unfold allC
  rw [(f.1 14 (by decide)).2, (f.1 16 (by decide)).1]
theorem m_spentG {l : Nat} {w' : sW} (hI : IVa P S0 e w n sl D F L R U y φ nf ρ nd) (t2 : Fr [54, 55, 56] [] w w') (g : GT w w' D F L φ y) (hl : l < L) : F_X8_spentBy (P.2.1 + 46) (mI l) (hp P w' ex n sl) = some (allC w L φ y l, hp P w' ex n sl) := by
  rw [m_spentBy (hI.M.fr t2 (by decide) (by decide) (by decide)) rfl hl]
  refine congrArg (fun q => some (q, _)) (sumI_congr fun k hk => ?_)
  rw [g.2.2.2.2.2 l hl, (t2.1 47 (by decide)).1, lcost_eq hI.1.2.1.1 hI.pr hk]
theorem pr_spent (hI : IVa P S0 e w n sl D F L R U y φ nf ρ nd) (v : Int32) : PI P S0 e w ex n sl (F_X7_spent P.2.1 v) (F_X8_spent (P.2.1 + 46) v) csX anyI := by
  have hb := hI.b
  have hC := hI.C
  have hM0 := hI.M.t0 (v := 0)
  by_cases h : inN v L
  · obtain ⟨l, hl, rfl⟩ := inN_to (by omega) h
    refine PI.q trivial hI (x := allC w L φ y l) (w1 := w) ?_ FV.rf (fun u hu hv => ?_)
    · simp only [E_X7_spent, E_X7_spent_0, z_0, ob, c_needL hC h, sumL, q_0_5, c_costOfAll hC rfl hl]
      rfl
    · have hu0 := hu.fv (FV.t0 (v := 0))
      obtain ⟨w', t1, t2, g⟩ := m_goes (P := P) (ex := ex) (n := n) (sl := sl) hu0
      refine ⟨w', ?_, f546v t2⟩
      simp only [E_X8_spent, E_X8_spent_0, z_46, p_46_0, ob, m_noLM (hu.M.t0 (v := 0)), b2_f (not_not_intro h), i00, if_true, m_throwsIf0, t1, m_spentG hu0 t2 g hl]
      rw [show allC (wI u 46 0 0) L φ y = allC u L φ y from rfl, allC_o hv]
  · refine PI.x (E := eIX) (k := 1) (b := 0) (w2 := wI w 46 0 1) hI (by decide) ?_ ?_ FV.t0 wI_s
    · simp only [E_X7_spent, E_X7_spent_0, z_0, ob, c_needLx hC h, sumR]
    · simp only [E_X8_spent, E_X8_spent_0, z_46, p_46_0, ob, m_noLM hM0, b2_t h, i10, if_false, m_throwsIf1, wI_wI]
/-! chain -/
theorem chn_s {d l : Nat} : chn y (d + 1) l = chn y (d + 1) l := rfl
theorem pr_chain (hI : IVa P S0 e w n sl D F L R U y φ nf ρ nd) (v : Int32) : PI P S0 e w ex n sl (F_X7_chain P.2.1 v) (F_X8_chain (P.2.1 + 46) v) csX anyI := by
  have hb := hI.b
  have hC := hI.C
  have hM0 := hI.M.t0 (v := 0)
  by_cases h : inN v L
  · obtain ⟨l, hl, rfl⟩ := inN_to (by omega) h
    refine PI.q trivial hI (x := mI (chn y 40 l)) (w1 := w) ?_ FV.rf (fun u hu hv => ⟨wI u 46 0 0, ?_, FV.t0, wI_s⟩)
    · simp only [E_X7_chain, E_X7_chain_0, z_0, ob, c_needL hC h, sumL, q_0_5, c_boughtInRow hC rfl hl]
    · have t := m_chainL (P := P) (ex := ex) (n := n) (sl := sl) (l := l) (hu.M.t0 (v := 0)) 40 l 0 (by omega) hl (by omega)
      rw [Nat.zero_add] at t
      simp only [E_X8_chain, E_X8_chain_0, z_46, p_46_0, ob, m_noLM (hu.M.t0 (v := 0)), b2_f (not_not_intro h), i00, if_true, m_throwsIf0]
      exact t
  · refine PI.x (E := eIX) (k := 1) (b := 0) (w2 := wI w 46 0 1) hI (by decide) ?_ ?_ FV.t0 wI_s
    · simp only [E_X7_chain, E_X7_chain_0, z_0, ob, c_needLx hC h, sumR]
    · simp only [E_X8_chain, E_X8_chain_0, z_46, p_46_0, ob, m_noLM hM0, b2_t h, i10, if_false, m_throwsIf1, wI_wI]
end AUD
