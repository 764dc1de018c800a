/-! the model goes through its lines -/
theorem up2_comm {α : Type} {f : Nat → Nat → α} {k j k' j' : Nat} {x x' : α} (h : k ≠ k') : up2 (up2 f k j x) k' j' x' = up2 (up2 f k' j' x') k j x := by
  funext a b
  unfold up2
  by_cases h1 : a = k ∧ b = j
  · rw [if_neg (fun z => h (h1.1.symm.trans z.1)), if_pos h1, if_pos h1]
  · rw [if_neg h1]
    by_cases h2 : a = k' ∧ b = j'
    · rw [if_pos h2, if_neg h1]
    · rw [if_neg h2, if_neg h1]
def gU (w : sW) (l : Nat) (a : Int32) (b c : Int64) : sW := wL (wL (wA w 54 l a) 55 l b) 56 l c
section GU
variable {w : sW} {l p : Nat} {a a' : Int32} {b b' c c' : Int64}
theorem gU_s : (gU w l a b c).2.2.1 54 l = a := up2_s
theorem gU_sn (h : p ≠ l) : (gU w l a b c).2.2.1 54 p = w.2.2.1 54 p := up2_j h
theorem gU_r : (gU w l a b c).2.2.2.1 55 l = b := by
  show up2 (up2 w.2.2.2.1 55 l b) 56 l c 55 l = b
  rw [up2_k (by decide), up2_s]
theorem gU_rn (h : p ≠ l) : (gU w l a b c).2.2.2.1 55 p = w.2.2.2.1 55 p := by
  show up2 (up2 w.2.2.2.1 55 l b) 56 l c 55 p = _
  rw [up2_j h, up2_j h]
theorem gU_n : (gU w l a b c).2.2.2.1 56 l = c := up2_s
theorem gU_nn (h : p ≠ l) : (gU w l a b c).2.2.2.1 56 p = w.2.2.2.1 56 p := by
  show up2 (up2 w.2.2.2.1 55 l b) 56 l c 56 p = _
  rw [up2_j h, up2_j h]
theorem gU_ws : wA (gU w l a b c) 54 l a' = gU w l a' b c := by
  show (w.1, w.2.1, up2 (up2 w.2.2.1 54 l a) 54 l a', _) = _
  rw [up2_up]
  rfl
theorem gU_wr : wL (gU w l a b c) 55 l b' = gU w l a b' c := by
  show (w.1, w.2.1, up2 w.2.2.1 54 l a, up2 (up2 (up2 w.2.2.2.1 55 l b) 56 l c) 55 l b', w.2.2.2.2) = _
  rw [up2_comm (by decide), up2_up]
  rfl
theorem gU_wn : wL (gU w l a b c) 56 l c' = gU w l a b c' := by
  show (w.1, w.2.1, up2 w.2.2.1 54 l a, up2 (up2 (up2 w.2.2.2.1 55 l b) 56 l c) 56 l c', w.2.2.2.2) = _
  rw [up2_up]
  rfl
theorem gU_fr : Fr [54, 55, 56] [] w (gU w l a b c) := ((Fr.rf.pA (by decide)).pL (by decide)).pL (by decide)
end GU
section GT
variable {P : sP} {w : sW} {ex : Nat → Option sC} {n sl : Nat} {D F L : Nat} {y : sLn} {φ : Nat → List Nat} {l k p : Nat} {a : Int32} {z x : Int64}
theorem gU_M (hM : MW w D F L y φ) : MW (gU w l a z x) D F L y φ := hM.fr gU_fr (by decide) (by decide) (by decide)
theorem gt_99 {v : Int32} (hM : MW w D F L y φ) (hl : l < L) (hpl : p < l) : R_X8_goesThrough_99 (P.2.1 + 46) (mI l) (mI k) (mI p) v (mI l) (P.2.1 + 54) (hp P (gU w l a z x) ex n sl) = R_X8_goesThrough_55 (P.2.1 + 46) (mI l) (mI (k + 1)) (hp P (gU w l (vp_nar .boolean v) (if y.2.2.1 l < 2 then z else z ||| w.2.2.2.1 55 p) (x ||| w.2.2.2.1 56 p)) ex n sl) := by
  have h40 := hM.2.2.2.1
  have hr := (hM.2.2.2.2.2.2.2.2.1 l hl).2.2.1
  have hne : p ≠ l := by omega
  have e2 : ((2 : Int32) ≤ mI (y.2.2.1 l)) = (2 ≤ y.2.2.1 l) := nleR (by omega) (by decide)
  have tl : ∀ u : Int64, R_X8_goesThrough_127 (P.2.1 + 46) (mI l) (mI k) (mI p) u z (mI l) (P.2.1 + 55) (hp P (gU w l (vp_nar .boolean v) z x) ex n sl) = R_X8_goesThrough_55 (P.2.1 + 46) (mI l) (mI (k + 1)) (hp P (gU w l (vp_nar .boolean v) (z ||| u) (x ||| w.2.2.2.1 56 p)) ex n sl) := by
    intro u
    rw [E_X8_goesThrough_127]
    simp only [wa_55 (show l < 40 by omega), ob, q_46_19, gU_wr, ra_56 (show l < 40 by omega), ra_56 (show p < 40 by omega), gU_n, gU_nn hne, wa_56 (show l < 40 by omega), gU_wn, naddL]
  rw [E_X8_goesThrough_99, wa_54 (show l < 40 by omega), ob, gU_ws, q_46_18, ob, ra_55 (show l < 40 by omega), ob, gU_r, m_rule (x := mI l) rfl (gU_M hM).2.2.2.2.2.2.2.1 h40 hl, ob]
  dsimp only
  by_cases g : y.2.2.1 l < 2
  · rw [if_neg (show ¬ (2 : Int32) ≤ mI (y.2.2.1 l) by rw [e2]; omega), if_pos g, tl 0, Int64.or_zero]
  · rw [if_pos (show (2 : Int32) ≤ mI (y.2.2.1 l) by rw [e2]; omega), if_neg g, q_46_18, ob, ra_55 (show p < 40 by omega), ob, gU_rn hne, tl]
theorem gt_step {q s : Prop} (hM : MW w D F L y φ) (hl : l < L) (hk : k < 3) (hkp : k < prems y l) (e : prem y l k = some p) (hs : w.2.2.1 54 p = b2 s) : R_X8_goesThrough_55 (P.2.1 + 46) (mI l) (mI k) (hp P (gU w l (b2 q) z x) ex n sl) = R_X8_goesThrough_55 (P.2.1 + 46) (mI l) (mI (k + 1)) (hp P (gU w l (b2 (q ∧ s)) (if y.2.2.1 l < 2 then z else z ||| w.2.2.2.1 55 p) (x ||| w.2.2.2.1 56 p)) ex n sl) := by
  have h40 := hM.2.2.2.1
  have ho := hM.2.2.2.2.2.2.2.2.1
  have hpl := prem_lt ho hl hk e
  have hne : p ≠ l := by omega
  have hM' := gU_M (l := l) (a := b2 q) (z := z) (x := x) hM
  have hpr := prems_lt (y := y) (l := l)
  rw [E_X8_goesThrough_55, m_premises (x := mI l) rfl hM'.2.2.2.2.2.2.2.1 ho h40 hl, ob, if_neg (show ¬ mI (prems y l) ≤ mI k by rw [nle (by omega) (by omega)]; omega), m_premise (x := mI l) (v := mI k) rfl rfl hM'.2.2.2.2.2.2.2.1 ho h40 hl hk, ob, e, q_46_17, ob, ob, ra_54 (show l < 40 by omega), ob, gU_s]
  by_cases hq : q
  · rw [if_neg (show ¬ b2 q = 0 from fun g => b2_0.mp g hq), ob, thOf_some, ra_54 (show p < 40 by omega), ob, gU_sn hne, hs]
    by_cases hs' : s
    · rw [if_neg (show ¬ b2 s = 0 from fun g => b2_0.mp g hs'), gt_99 hM hl hpl, b2_t (show q ∧ s from ⟨hq, hs'⟩)]
      rfl
    · rw [if_pos (b2_0.mpr hs'), E_X8_goesThrough_98, gt_99 hM hl hpl, b2_f (show ¬ (q ∧ s) from fun g => hs' g.2)]
      rfl
  · rw [if_pos (b2_0.mpr hq), thOf_some, E_X8_goesThrough_98, gt_99 hM hl hpl, b2_f (show ¬ (q ∧ s) from fun g => hq g.1)]
    rfl
theorem gt_end (hM : MW w D F L y φ) (hl : l < L) : R_X8_goesThrough_55 (P.2.1 + 46) (mI l) (mI (prems y l)) (hp P (gU w l a z x) ex n sl) = R_X8_goesThrough_2 (P.2.1 + 46) (mI (l + 1)) (hp P (gU w l a (dis (disG y l) z) x) ex n sl) := by
  have h40 := hM.2.2.2.1
  have ho := hM.2.2.2.2.2.2.2.2.1
  have hM' := gU_M (l := l) (a := a) (z := z) (x := x) hM
  have hpr := prems_lt (y := y) (l := l)
  have hr := (ho l hl).2.2.1
  have e10 : (mI (y.2.2.1 l) = 10) = (y.2.2.1 l = 10) := neqL (by omega) (by decide)
  rw [E_X8_goesThrough_55, m_premises (x := mI l) rfl hM'.2.2.2.2.2.2.2.1 ho h40 hl, ob, if_pos (show mI (prems y l) ≤ mI (prems y l) by rw [nle (by omega) (by omega)]; omega), m_premise (x := mI l) (v := 0) (j := 0) rfl rfl hM'.2.2.2.2.2.2.2.1 ho h40 hl (by decide), ob, m_rule (x := mI l) rfl hM'.2.2.2.2.2.2.2.1 h40 hl, ob]
  dsimp only
  unfold disG
  by_cases g : y.2.2.1 l = 10
  · rw [if_pos (show mI (y.2.2.1 l) = 10 by rw [e10]; exact g), if_pos g]
    cases e : prem y l 0 with
    | none =>
      rw [if_pos (show thOf none < 0 by decide), E_X8_goesThrough_198, naddL]
      rfl
    | some q =>
      have hql := prem_lt ho hl (by decide) e
      have hrp := (ho q (by omega)).2.2.1
      have e1p : (mI (y.2.2.1 q) = 1) = (y.2.2.1 q = 1) := neqL (by omega) (by decide)
      rw [if_neg (show ¬ thOf (some q) < 0 from mI_0 (by omega)), m_rule (x := thOf (some q)) rfl hM'.2.2.2.2.2.2.2.1 h40 (show q < L by omega), ob]
      dsimp only
      by_cases g1 : y.2.2.1 q = 1
      · rw [if_pos (show mI (y.2.2.1 q) = 1 by rw [e1p]; exact g1), if_pos g1]
        simp only [q_46_18, ob, ra_55 (show l < 40 by omega), gU_r, wa_55 (show l < 40 by omega), gU_wr, E_X8_goesThrough_198, naddL]
        rfl
      · rw [if_neg (show ¬ mI (y.2.2.1 q) = 1 by rw [e1p]; exact g1), if_neg g1, E_X8_goesThrough_198, naddL]
        rfl
  · rw [if_neg (show ¬ mI (y.2.2.1 l) = 10 by rw [e10]; exact g), if_neg g, E_X8_goesThrough_198, naddL]
    rfl
def orK (A : Nat → Int64) (y : sLn) (l : Nat) (z : Int64) : Nat → Int64
  | 0 => z
  | k + 1 => orP A (prem y l k) (orK A y l z k)
theorem oR_K {A : Nat → Int64} {y : sLn} {l : Nat} {z : Int64} : oR A y l z = orK A y l z 3 := rfl
theorem prems_k {y : sLn} {l k : Nat} (h : k < prems y l) : ∃ q, prem y l k = some q := by
  have := prems_lt (y := y) (l := l)
  rcases (show k = 0 ∨ k = 1 ∨ k = 2 by omega) with rfl | rfl | rfl
  · exact prems_1 (by omega)
  · exact prems_2 (by omega)
  · exact prems_3 (by omega)
theorem prems_n {F L : Nat} {y : sLn} (ho : okLn F L y) {l k : Nat} (hl : l < L) (h : prems y l ≤ k) (hk : k < 3) : prem y l k = none := by
  have o := prem_ord ho hl
  unfold prems at h
  by_cases e0 : prem y l 0 = none
  · rcases (show k = 0 ∨ k = 1 ∨ k = 2 by omega) with rfl | rfl | rfl
    · exact e0
    · exact o.1 e0
    · exact o.2 (o.1 e0)
  · rw [if_neg e0] at h
    by_cases e1 : prem y l 1 = none
    · rw [if_pos e1] at h
      rcases (show k = 1 ∨ k = 2 by omega) with rfl | rfl
      · exact e1
      · exact o.2 e1
    · rw [if_neg e1] at h
      by_cases e2 : prem y l 2 = none
      · rw [if_pos e2] at h
        have : k = 2 := by omega
        subst this
        exact e2
      · rw [if_neg e2] at h
        omega
theorem orK_p {F L : Nat} {y : sLn} (ho : okLn F L y) {A : Nat → Int64} {l : Nat} {z : Int64} (hl : l < L) : orK A y l z (prems y l) = orK A y l z 3 := by
  have hp9 := prems_lt (y := y) (l := l)
  have key : ∀ d k, k + d = 3 → prems y l ≤ k → orK A y l z (prems y l) = orK A y l z k → orK A y l z (prems y l) = orK A y l z 3 := by
    intro d
    induction d with
    | zero => intro k hk _ h; rw [h, show k = 3 by omega]
    | succ d ih =>
      intro k hk hpk h
      refine ih (k + 1) (by omega) (by omega) ?_
      show _ = orP A (prem y l k) (orK A y l z k)
      rw [prems_n ho hl hpk (by omega), h]
      rfl
  exact key (3 - prems y l) (prems y l) (by omega) (Nat.le_refl _) rfl
def allK (y : sLn) (l : Nat) (S : Nat → Prop) (k : Nat) : Prop := ∀ j, j < k → ∀ p, prem y l j = some p → S p
/-- all premises in a set -/
def allP (y : sLn) (l : Nat) (S : Nat → Prop) : Prop := ∀ j, j < 3 → ∀ p, prem y l j = some p → S p
def honM (w : sW) (D F : Nat) (φ : Nat → List Nat) (y : sLn) (l : Nat) : Prop := honP D F φ y (fun h => w.2.2.1 47 (4 + 18 * h)) (fun u => w.2.2.1 47 (58 + u)) l
theorem gt_line {S : Nat → Prop} (hM : MW w D F L y φ) (hl : l < L) (hS : ∀ p, p < l → w.2.2.1 54 p = b2 (S p)) : R_X8_goesThrough_2 (P.2.1 + 46) (mI l) (hp P w ex n sl) = R_X8_goesThrough_2 (P.2.1 + 46) (mI (l + 1)) (hp P (gU w l (b2 (honM w D F φ y l ∧ allP y l S)) (rstV (w.2.2.2.1 55) y l) (nedV (w.2.2.2.1 56) y l)) ex n sl) := by
  have h40 := hM.2.2.2.1
  have ho := hM.2.2.2.2.2.2.2.2.1
  have hr := (ho l hl).2.2.1
  have hL := hM.2.2.2.2.2.2.1
  have e2 : ((2 : Int32) ≤ mI (y.2.2.1 l)) = (2 ≤ y.2.2.1 l) := nleR (by omega) (by decide)
  have hM1 : MW (wA w 54 l (b2 (honM w D F φ y l))) D F L y φ := hM.fr (Fr.rf.pA (A := [54]) (B := []) (by decide)) (by decide) (by decide) (by decide)
  rw [E_X8_goesThrough_2, m_lines, ob, hL, if_neg (show ¬ mI L ≤ mI l by rw [nle (by omega) (by omega)]; omega), q_46_17, ob, m_isHonest (x := mI l) rfl hM hl, ob, wa_54 (show l < 40 by omega), ob, nar_b2, q_46_18, ob]
  have hr1 := m_rule (P := P) (ex := ex) (n := n) (sl := sl) (x := mI l) rfl hM1.2.2.2.2.2.2.2.1 h40 hl
  refine Eq.trans (congrArg (fun o => Option.bind o _) hr1) ?_
  rw [ob]
  dsimp only
  have mid : ∀ u : Int64, R_X8_goesThrough_43 (P.2.1 + 46) (mI l) u (mI l) (P.2.1 + 55) (hp P (wA w 54 l (b2 (honM w D F φ y l))) ex n sl) = R_X8_goesThrough_55 (P.2.1 + 46) (mI l) (mI 0) (hp P (gU w l (b2 (honM w D F φ y l)) u (on64 l)) ex n sl) := by
    intro u
    rw [E_X8_goesThrough_43]
    simp only [wa_55 (show l < 40 by omega), ob, q_46_19, wa_56 (show l < 40 by omega)]
    rfl
  have start : (if (2 : Int32) ≤ mI (y.2.2.1 l) then R_X8_goesThrough_43 (P.2.1 + 46) (mI l) 0 (mI l) (P.2.1 + 55) (hp P (wA w 54 l (b2 (honM w D F φ y l))) ex n sl) else R_X8_goesThrough_43 (P.2.1 + 46) (mI l) (1 <<< ((mI l).toInt64 &&& 63)) (mI l) (P.2.1 + 55) (hp P (wA w 54 l (b2 (honM w D F φ y l))) ex n sl)) = R_X8_goesThrough_55 (P.2.1 + 46) (mI l) (mI 0) (hp P (gU w l (b2 (honM w D F φ y l)) (if y.2.2.1 l < 2 then on64 l else 0) (on64 l)) ex n sl) := by
    by_cases g : y.2.2.1 l < 2
    · rw [if_neg (show ¬ (2 : Int32) ≤ mI (y.2.2.1 l) by rw [e2]; omega), if_pos g]; exact mid _
    · rw [if_pos (show (2 : Int32) ≤ mI (y.2.2.1 l) by rw [e2]; omega), if_neg g]; exact mid _
  refine Eq.trans start ?_
  have fin : ∀ (q : Prop) (zz xx : Int64), (q ↔ honM w D F φ y l ∧ allP y l S) → zz = (if y.2.2.1 l < 2 then on64 l else oR (w.2.2.2.1 55) y l 0) → xx = nedV (w.2.2.2.1 56) y l → R_X8_goesThrough_55 (P.2.1 + 46) (mI l) (mI (prems y l)) (hp P (gU w l (b2 q) zz xx) ex n sl) = R_X8_goesThrough_2 (P.2.1 + 46) (mI (l + 1)) (hp P (gU w l (b2 (honM w D F φ y l ∧ allP y l S)) (rstV (w.2.2.2.1 55) y l) (nedV (w.2.2.2.1 56) y l)) ex n sl) := by
    intro q zz xx h1 h2 h3
    rw [gt_end hM hl, b2_congr h1, h3]
    have : dis (disG y l) zz = rstV (w.2.2.2.1 55) y l := by
      rw [h2]
      unfold rstV
      by_cases g : y.2.2.1 l < 2
      · rw [if_pos g, if_pos g]
        unfold disG
        rw [if_neg (by omega)]
        rfl
      · rw [if_neg g, if_neg g]
    rw [this]
  have inner : ∀ d k, k + d = prems y l → R_X8_goesThrough_55 (P.2.1 + 46) (mI l) (mI k) (hp P (gU w l (b2 (honM w D F φ y l ∧ allK y l S k)) (if y.2.2.1 l < 2 then on64 l else orK (w.2.2.2.1 55) y l 0 k) (orK (w.2.2.2.1 56) y l (on64 l) k)) ex n sl) = R_X8_goesThrough_55 (P.2.1 + 46) (mI l) (mI (prems y l)) (hp P (gU w l (b2 (honM w D F φ y l ∧ allK y l S (prems y l))) (if y.2.2.1 l < 2 then on64 l else orK (w.2.2.2.1 55) y l 0 (prems y l)) (orK (w.2.2.2.1 56) y l (on64 l) (prems y l))) ex n sl) := by
    intro d
    induction d with
    | zero => intro k hk; rw [show k = prems y l by omega]
    | succ d ih =>
      intro k hk
      have hpr := prems_lt (y := y) (l := l)
      obtain ⟨p, e⟩ := prems_k (y := y) (l := l) (k := k) (by omega)
      rw [gt_step hM hl (by omega) (by omega) e (hS p (prem_lt ho hl (by omega) e)), ← ih (k + 1) (by omega)]
      have t1 : b2 ((honM w D F φ y l ∧ allK y l S k) ∧ S p) = b2 (honM w D F φ y l ∧ allK y l S (k + 1)) := b2_congr ⟨fun h => ⟨h.1.1, fun j hj q hq => by
          by_cases ej : j = k
          · subst ej; rw [e] at hq; cases hq; exact h.2
          · exact h.1.2 j (by omega) q hq⟩, fun h => ⟨⟨h.1, fun j hj q hq => h.2 j (by omega) q hq⟩, h.2 k (by omega) p e⟩⟩
      have t2 : (if y.2.2.1 l < 2 then (if y.2.2.1 l < 2 then on64 l else orK (w.2.2.2.1 55) y l 0 k) else (if y.2.2.1 l < 2 then on64 l else orK (w.2.2.2.1 55) y l 0 k) ||| w.2.2.2.1 55 p) = (if y.2.2.1 l < 2 then on64 l else orK (w.2.2.2.1 55) y l 0 (k + 1)) := by
        by_cases g : y.2.2.1 l < 2
        · rw [if_pos g, if_pos g, if_pos g]
        · rw [if_neg g, if_neg g, if_neg g]
          show _ = orP (w.2.2.2.1 55) (prem y l k) (orK (w.2.2.2.1 55) y l 0 k)
          rw [e]
          rfl
      have t3 : orK (w.2.2.2.1 56) y l (on64 l) k ||| w.2.2.2.1 56 p = orK (w.2.2.2.1 56) y l (on64 l) (k + 1) := by
        show _ = orP (w.2.2.2.1 56) (prem y l k) (orK (w.2.2.2.1 56) y l (on64 l) k)
        rw [e]
        rfl
      rw [t1, t2, t3]
  have i0 := inner (prems y l) 0 (by omega)
  have c0 : b2 (honM w D F φ y l ∧ allK y l S 0) = b2 (honM w D F φ y l) := b2_congr ⟨fun h => h.1, fun h => ⟨h, fun j hj => absurd hj (by omega)⟩⟩
  rw [c0] at i0
  refine Eq.trans i0 (fin _ _ _ ⟨fun h => ⟨h.1, fun j hj p hp => ?_⟩, fun h => ⟨h.1, fun j hj p hp => h.2 j (by have := prems_lt (y := y) (l := l); omega) p hp⟩⟩ ?_ ?_)
  · by_cases g : j < prems y l
    · exact h.2 j g p hp
    · rw [prems_n ho hl (by omega) hj] at hp; cases hp
  · rw [oR_K, orK_p ho hl]
  · unfold nedV; rw [oR_K, orK_p ho hl]
theorem m_goesThrough (hM : MW w D F L y φ) : ∃ w', F_X8_goesThrough (P.2.1 + 46) (hp P w ex n sl) = some ((), hp P w' ex n sl) ∧ Fr [54, 55, 56] [] w w' ∧ (∀ l, l < L → w'.2.2.2.1 55 l = rstV (w'.2.2.2.1 55) y l) ∧ (∀ l, l < L → w'.2.2.2.1 56 l = nedV (w'.2.2.2.1 56) y l) ∧ ∃ S : Nat → Prop, (∀ l, l < L → (S l ↔ honM w D F φ y l ∧ allP y l S)) ∧ ∀ l, l < L → w'.2.2.1 54 l = b2 (S l) := by
  have h40 := hM.2.2.2.1
  have ho := hM.2.2.2.2.2.2.2.2.1
  have hL := hM.2.2.2.2.2.2.1
  have key := loopN (A := sW) (run := fun k u => R_X8_goesThrough_2 (P.2.1 + 46) (mI k) (hp P u ex n sl)) (N := L)
    (fun k u => Fr [54, 55, 56] [] w u ∧ (∀ l, l < k → u.2.2.2.1 55 l = rstV (u.2.2.2.1 55) y l) ∧ (∀ l, l < k → u.2.2.2.1 56 l = nedV (u.2.2.2.1 56) y l) ∧ ∃ S : Nat → Prop, (∀ l, l < k → (S l ↔ honM w D F φ y l ∧ allP y l S)) ∧ ∀ l, l < k → u.2.2.1 54 l = b2 (S l))
    (Q := fun r => ∃ w', r = ((), hp P w' ex n sl) ∧ Fr [54, 55, 56] [] w w' ∧ (∀ l, l < L → w'.2.2.2.1 55 l = rstV (w'.2.2.2.1 55) y l) ∧ (∀ l, l < L → w'.2.2.2.1 56 l = nedV (w'.2.2.2.1 56) y l) ∧ ∃ S : Nat → Prop, (∀ l, l < L → (S l ↔ honM w D F φ y l ∧ allP y l S)) ∧ ∀ l, l < L → w'.2.2.1 54 l = b2 (S l))
    (fun k u hk ⟨i1, i2, i3, S, i4, i5⟩ => Or.inl ⟨_, ?_, gt_line (hM.fr i1 (by decide) (by decide) (by decide)) hk i5⟩)
    (fun u ⟨i1, i2, i3, i4⟩ => ⟨_, ?_, u, rfl, i1, i2, i3, i4⟩) 0 w (by omega) ⟨Fr.rf, fun l h => absurd h (by omega), fun l h => absurd h (by omega), fun _ => True, fun l h => absurd h (by omega), fun l h => absurd h (by omega)⟩
  · obtain ⟨r, h1, w', h2, h3⟩ := key
    refine ⟨w', ?_, h3⟩
    rw [E_X8_goesThrough, z_46, ob, E_X8_goesThrough_0]
    rw [← h2]
    exact h1
  · have hu : honM u D F φ y k ↔ honM w D F φ y k := by unfold honM; rw [i1.a (k := 47) (by decide)]
    refine ⟨i1.tr gU_fr, ?_, ?_, fun l => if l = k then honM w D F φ y k ∧ allP y k S else S l, ?_, ?_⟩
    · intro l hlk
      by_cases e : l = k
      · subst e
        rw [gU_r]
        exact rstV_congr ho hk fun p hp => (gU_rn (by omega)).symm
      · rw [gU_rn e, i2 l (by omega)]
        exact rstV_congr ho (by omega) fun p hp => (gU_rn (by omega)).symm
    · intro l hlk
      by_cases e : l = k
      · subst e
        rw [gU_n]
        exact nedV_congr ho hk fun p hp => (gU_nn (by omega)).symm
      · rw [gU_nn e, i3 l (by omega)]
        exact nedV_congr ho (by omega) fun p hp => (gU_nn (by omega)).symm
    · intro l hlk
      have ea : ∀ l', l' ≤ k → (allP y l' S ↔ allP y l' fun l => if l = k then honM w D F φ y k ∧ allP y k S else S l) := fun l' hl' => by
        constructor
        · intro h j hj p hp
          have := prem_lt ho (show l' < L by omega) hj hp
          show if p = k then _ else S p
          rw [if_neg (by omega)]
          exact h j hj p hp
        · intro h j hj p hp
          have := prem_lt ho (show l' < L by omega) hj hp
          have z : if p = k then honM w D F φ y k ∧ allP y k S else S p := h j hj p hp
          rw [if_neg (by omega)] at z
          exact z
      by_cases e : l = k
      · subst e
        dsimp only
        rw [if_pos rfl, ← ea l (Nat.le_refl _)]
      · dsimp only
        rw [if_neg e, ← ea l (by omega)]
        exact i4 l (by omega)
    · intro l hlk
      by_cases e : l = k
      · subst e
        dsimp only
        rw [gU_s, if_pos rfl]
        exact b2_congr (and_congr hu Iff.rfl)
      · dsimp only
        rw [gU_sn e, if_neg e]
        exact i5 l (by omega)
  · rw [E_X8_goesThrough_2, m_lines, ob, i1.a (k := 47) (by decide), hL, if_pos (show mI L ≤ mI L by rw [nle (by omega) (by omega)]; omega)]
end GT
