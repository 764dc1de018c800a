/-! pairs of calls: a line -/
def toO (x : Int32) : Option Nat := if x = -1 then none else some x.toNatClampNeg
theorem toO_n : toO (-1) = none := if_pos rfl
theorem toO_s {a : Nat} (h : a < 2 ^ 31) : toO (mI a) = some a := by unfold toO; rw [if_neg (mI_m1 h), mI_nat h]
theorem toO_none {x : Int32} : toO x = none ↔ x = -1 := by
  unfold toO
  by_cases h : x = -1
  · rw [if_pos h]; exact ⟨fun _ => h, fun _ => rfl⟩
  · rw [if_neg h]; exact ⟨fun z => (by cases z), fun z => absurd z h⟩
/-- a premise: none, or a line -/
def preP (L : Nat) (x : Int32) : Prop := x = -1 ∨ inN x L
theorem preP_th {L : Nat} {x : Int32} (hL : L ≤ 40) (h : preP L x) : thOf (toO x) = x ∧ ∀ p, toO x = some p → p < L := by
  rcases h with rfl | h
  · rw [toO_n]; exact ⟨rfl, fun p hp => by cases hp⟩
  · obtain ⟨a, ha, rfl⟩ := inN_to (by omega) h
    rw [toO_s (by omega)]; exact ⟨rfl, fun p hp => by cases hp; exact ha⟩
def lnU (y : sLn) (L h f r : Nat) (a b c : Int32) : sLn := (fun l => if l = L then h else y.1 l, fun l => if l = L then f else y.2.1 l, fun l => if l = L then r else y.2.2.1 l, fun l j => if l = L then (if j = 0 then toO a else if j = 1 then toO b else toO c) else y.2.2.2 l j)
section LNU
variable {y : sLn} {F L h f r : Nat} {a b c : Int32}
theorem lnU_1 {l : Nat} (g : l ≠ L) : (lnU y L h f r a b c).1 l = y.1 l := if_neg g
theorem lnU_2 {l : Nat} (g : l ≠ L) : (lnU y L h f r a b c).2.1 l = y.2.1 l := if_neg g
theorem lnU_3 {l : Nat} (g : l ≠ L) : (lnU y L h f r a b c).2.2.1 l = y.2.2.1 l := if_neg g
theorem lnU_4 {l j : Nat} (g : l ≠ L) : (lnU y L h f r a b c).2.2.2 l j = y.2.2.2 l j := if_neg g
theorem lnU_prem {l j : Nat} (g : l ≠ L) : prem (lnU y L h f r a b c) l j = prem y l j := by
  unfold prem
  rw [lnU_3 g, lnU_4 g]
theorem lnU_rst {A : Nat → Int64} {l : Nat} (ho : okLn F L y) (hl : l < L) : rstV A (lnU y L h f r a b c) l = rstV A y l := by
  have g : l ≠ L := by omega
  have e1 : disG (lnU y L h f r a b c) l = disG y l := by
    unfold disG
    rw [lnU_3 g, lnU_prem g]
    cases e : prem y l 0 with
    | none => rfl
    | some p =>
      have := prem_lt ho hl (by decide) e
      dsimp only
      rw [lnU_3 (show p ≠ L by omega)]
  unfold rstV oR
  rw [e1, lnU_3 g, lnU_prem g, lnU_prem g, lnU_prem g]
theorem lnU_ned {A : Nat → Int64} {l : Nat} (hl : l < L) : nedV A (lnU y L h f r a b c) l = nedV A y l := by
  have g : l ≠ L := by omega
  unfold nedV oR
  rw [lnU_prem g, lnU_prem g, lnU_prem g]
theorem lnU_has {A A' : Nat → Int32} {b0 : Nat} (hA : hasLn A b0 L y) (e : ∀ i, i < 6 * L → A' (b0 + i) = A (b0 + i)) (e0 : A' (b0 + 6 * L) = mI h) (e1 : A' (b0 + 6 * L + 1) = mI f) (e2 : A' (b0 + 6 * L + 2) = mI r) (e3 : A' (b0 + 6 * L + 3) = a) (e4 : A' (b0 + 6 * L + 4) = b) (e5 : A' (b0 + 6 * L + 5) = c) (ta : thOf (toO a) = a) (tb : thOf (toO b) = b) (tc : thOf (toO c) = c) : hasLn A' b0 (L + 1) (lnU y L h f r a b c) := by
  intro l hl
  by_cases g : l = L
  · subst g
    refine ⟨?_, ?_, ?_, fun j hj => ?_⟩
    · rw [Nat.add_zero, e0]; exact congrArg mI (if_pos rfl).symm
    · rw [e1]; exact congrArg mI (if_pos rfl).symm
    · rw [e2]; exact congrArg mI (if_pos rfl).symm
    · have ej : (lnU y l h f r a b c).2.2.2 l j = if j = 0 then toO a else if j = 1 then toO b else toO c := if_pos rfl
      rw [ej]
      match j, hj with
      | 0, _ => exact e3.trans ta.symm
      | 1, _ => exact e4.trans tb.symm
      | 2, _ => exact e5.trans tc.symm
  · have h0 := hasLn_congr hA e l (by omega)
    unfold lnU
    dsimp only
    simp only [if_neg g]
    exact h0
theorem lnU_ok (ho : okLn F L y) (h1 : h < 3) (h2 : f < F) (h3 : r < 16) (h4 : r = 0 → (∃ u, u < 4 ∧ toO a = some u) ∧ toO b = none ∧ toO c = none) (h5 : r ≠ 0 → (∀ p, toO a = some p → p < L) ∧ (∀ p, toO b = some p → p < L) ∧ (∀ p, toO c = some p → p < L) ∧ (toO a = none → toO b = none) ∧ (toO b = none → toO c = none)) : okLn F (L + 1) (lnU y L h f r a b c) := by
  intro l hl
  by_cases g : l = L
  · subst g
    unfold lnU
    dsimp only
    simp only [if_pos]
    refine ⟨h1, h2, h3, fun q => ?_, fun q => ?_⟩
    · exact h4 q
    · obtain ⟨z1, z2, z3, z4, z5⟩ := h5 q
      refine ⟨fun j hj p hp => ?_, z4, z5⟩
      match j, hj with
      | 0, _ => exact z1 p hp
      | 1, _ => exact z2 p hp
      | 2, _ => exact z3 p hp
  · have h0 := ho l (by omega)
    unfold lnU
    dsimp only
    simp only [if_neg g]
    exact h0
end LNU
def lnC (u : sW) (L : Nat) (h f r a b c : Int32) : sW := wI (wA (wA (wA (wA (wA (wA u 17 (L * 6 + 0) h) 17 (L * 6 + 1) f) 17 (L * 6 + 2) r) 17 (L * 6 + 3) a) 17 (L * 6 + 3 + 1) b) 17 (L * 6 + 3 + 2) c) 9 6 (mI (L + 1))
def lnM (u : sW) (L : Nat) (h f r a b c : Int32) : sW := wA (wA (wA (wA (wA (wA u 47 (1292 + 6 * L) h) 47 (1292 + 6 * L + 1) f) 47 (1292 + 6 * L + 2) r) 47 (1292 + 6 * L + 3) a) 47 (1292 + 6 * L + 4) b) 47 (1292 + 6 * L + 5) c
/-- in order -/
def ordP (r a b c : Int32) : Prop := if r = 0 then (b = -1 ∧ c = -1) else ((a = -1 → b = -1) ∧ (b = -1 → c = -1))
section LIN
variable {P : sP} {S0 e : Nat} {w w' w1 w2 z u : sW} {ex : Nat → Option sC} {n sl D F L R U : Nat} {y : sLn} {φ : Nat → List Nat} {nf : Nat → Nat} {ρ : sRc} {nd : Nat → List Nat} {σ : sS}
theorem lnC_fr {h f r a b c : Int32} : Fr [17] [906] u (lnC u L h f r a b c) := by
  unfold lnC
  exact ((((((Fr.rf.pA (k := 17) (by decide)).pA (k := 17) (by decide)).pA (k := 17) (by decide)).pA (k := 17) (by decide)).pA (k := 17) (by decide)).pA (k := 17) (by decide)).pI (k := 9) (j := 6) (by decide)
theorem c_order {r a b c : Int32} : F_X7_areInOrder r a b c σ = some (b2 (ordP r a b c), σ) := by
  have e30 : R_X7_areInOrder_30 b c σ = some (b2 (b = -1 → c = -1), σ) := by
    rw [E_X7_areInOrder_30]
    by_cases h1 : b = -1
    · rw [if_pos h1]
      by_cases h2 : c = -1
      · rw [if_pos h2, b2_t (fun _ => h2)]
      · rw [if_neg h2, b2_f (fun z => h2 (z h1))]
    · rw [if_neg h1, b2_t (fun z => absurd z h1)]
  rw [E_X7_areInOrder, E_X7_areInOrder_0]
  unfold ordP
  by_cases h0 : r = 0
  · rw [if_pos h0, if_pos h0]
    by_cases h1 : b = -1
    · rw [if_pos h1]
      by_cases h2 : c = -1
      · rw [if_pos h2, b2_t ⟨h1, h2⟩]
      · rw [if_neg h2, b2_f (fun z => h2 z.2)]
    · rw [if_neg h1, b2_f (fun z => h1 z.1)]
  · rw [if_neg h0, if_neg h0]
    by_cases h1 : a = -1
    · rw [if_pos h1]
      by_cases h2 : b = -1
      · rw [if_pos h2, e30]
        exact congrArg (fun q => some (q, σ)) (b2_congr ⟨fun z => ⟨fun _ => h2, z⟩, fun z => z.2⟩)
      · rw [if_neg h2, b2_f (fun z => h2 (z.1 h1))]
    · rw [if_neg h1, e30]
      exact congrArg (fun q => some (q, σ)) (b2_congr ⟨fun z => ⟨fun q => absurd q h1, z⟩, fun z => z.2⟩)
/-- the model's tests of order -/
theorem m_order {x1 x2 r a b c t : Int32} (ht : (t = 1 ∧ r = 0) ∨ (t = 0 ∧ ¬ r = 0)) : (ordP r a b c → R_X8_line_109 (P.2.1 + 46) x1 x2 r a b c t 0 (hp P u ex n sl) = R_X8_line_172 (P.2.1 + 46) x1 x2 r a b c (P.2.1 + 46) (hp P u ex n sl)) ∧ (¬ ordP r a b c → R_X8_line_109 (P.2.1 + 46) x1 x2 r a b c t 0 (hp P u ex n sl) = R_X8_line_168 (P.2.1 + 46) x1 x2 r a b c (P.2.1 + 46) (hp P u ex n sl)) := by
  have e9 : R_X8_line_109 (P.2.1 + 46) x1 x2 r a b c t 0 (hp P u ex n sl) = (if t = 0 then (if a = (-1) then (if b = (-1) then (R_X8_line_139 (P.2.1 + 46) x1 x2 r a b c t (P.2.1 + 46) (hp P u ex n sl)) else (R_X8_line_168 (P.2.1 + 46) x1 x2 r a b c (P.2.1 + 46) (hp P u ex n sl))) else (R_X8_line_139 (P.2.1 + 46) x1 x2 r a b c t (P.2.1 + 46) (hp P u ex n sl))) else (R_X8_line_139 (P.2.1 + 46) x1 x2 r a b c t (P.2.1 + 46) (hp P u ex n sl))) := by
    rw [E_X8_line_109, m_throwsIf0, ob]
    exact if_pos rfl
  rw [e9]
  unfold ordP
  rcases ht with ⟨rfl, h0⟩ | ⟨rfl, h0⟩
  · rw [if_pos h0, if_neg (show ¬ (1 : Int32) = 0 by decide), E_X8_line_139, E_X8_line_151, if_neg (show ¬ (1 : Int32) = 0 by decide)]
    by_cases h1 : b = -1
    · by_cases h2 : c = -1
      · rw [if_pos h1, if_pos h2, if_pos h1, if_pos h2]
        exact ⟨fun _ => rfl, fun z => absurd ⟨h1, h2⟩ z⟩
      · rw [if_pos h1, if_neg h2]
        exact ⟨fun z => absurd z.2 h2, fun _ => rfl⟩
    · rw [if_neg h1, if_neg h1]
      exact ⟨fun z => absurd z.1 h1, fun _ => rfl⟩
  · have e139 : ((b = -1 → c = -1) → R_X8_line_139 (P.2.1 + 46) x1 x2 r a b c 0 (P.2.1 + 46) (hp P u ex n sl) = R_X8_line_172 (P.2.1 + 46) x1 x2 r a b c (P.2.1 + 46) (hp P u ex n sl)) ∧ (¬ (b = -1 → c = -1) → R_X8_line_139 (P.2.1 + 46) x1 x2 r a b c 0 (P.2.1 + 46) (hp P u ex n sl) = R_X8_line_168 (P.2.1 + 46) x1 x2 r a b c (P.2.1 + 46) (hp P u ex n sl)) := by
      rw [E_X8_line_139, E_X8_line_151, if_pos rfl]
      by_cases h1 : b = -1
      · rw [if_pos h1]
        by_cases h2 : c = -1
        · rw [if_pos h2]; exact ⟨fun _ => rfl, fun z => absurd (fun _ => h2) z⟩
        · rw [if_neg h2]; exact ⟨fun z => absurd (z h1) h2, fun _ => rfl⟩
      · rw [if_neg h1]; exact ⟨fun _ => rfl, fun z => absurd (fun q => absurd q h1) z⟩
    rw [if_neg h0, if_pos rfl]
    by_cases h1 : a = -1
    · rw [if_pos h1]
      by_cases h2 : b = -1
      · rw [if_pos h2]
        exact ⟨fun z => e139.1 z.2, fun z => e139.2 (fun q => z ⟨fun _ => h2, q⟩)⟩
      · rw [if_neg h2]
        exact ⟨fun z => absurd (z.1 h1) h2, fun _ => rfl⟩
    · rw [if_neg h1]
      exact ⟨fun z => e139.1 z.2, fun z => e139.2 (fun q => z ⟨fun k => absurd k h1, q⟩)⟩
theorem m_addL {x1 x2 r a b c : Int32} (h2 : u.2.2.1 47 2 = mI L) (hL : L < 40) : R_X8_line_195 (P.2.1 + 46) x1 x2 r a b c 0 (P.2.1 + 46) (hp P u ex n sl) = some (mI L, hp P (wA (lnM u L x1 x2 r a b c) 47 2 (mI (L + 1))) ex n sl) := by
  have e0 : (1292 : Int32) + 6 * mI L = mI (1292 + 6 * L) := by rw [nmulR, naddR]
  have r3 : ∀ u : sW, s_ai (hp P u ex n sl) (P.2.1 + 47) 2 = some (u.2.2.1 47 2) := fun u => ra_47 (i := 2) (by decide)
  have s3 : ∀ (u : sW) v, s_si (hp P u ex n sl) (P.2.1 + 47) 2 v = some (hp P (wA u 47 2 v) ex n sl) := fun u v => wa_47 (i := 2) (by decide)
  have e5 : (lnM u L x1 x2 r a b c).2.2.1 47 2 = mI L := by
    refine Eq.trans ?_ h2
    unfold lnM
    ((try dsimp only [wA, wI, wL, wJ]); (repeat first | rw [up2_n (by omega)] | rw [up2_e (by omega) (by omega)]))
  rw [E_X8_line_195, m_throwsIf0, ob]
  try dsimp only
  rw [if_pos rfl, m_lines, ob]
  try dsimp only
  rw [h2, e0, q_46_1, ob, wa_47 (by omega), ob, q_46_1, ob, naddL, wa_47 (show 1292 + 6 * L + 1 < 1682 by omega), ob, q_46_1, ob, naddL, wa_47 (show 1292 + 6 * L + 2 < 1682 by omega), ob, q_46_1, ob, naddL, wa_47 (show 1292 + 6 * L + 3 < 1682 by omega), ob, q_46_1, ob, naddL, wa_47 (show 1292 + 6 * L + 4 < 1682 by omega), ob, q_46_1, ob, naddL, wa_47 (show 1292 + 6 * L + 5 < 1682 by omega), ob, q_46_1, ob, show wA (wA (wA (wA (wA (wA u 47 (1292 + 6 * L) x1) 47 (1292 + 6 * L + 1) x2) 47 (1292 + 6 * L + 2) r) 47 (1292 + 6 * L + 3) a) 47 (1292 + 6 * L + 4) b) 47 (1292 + 6 * L + 5) c = lnM u L x1 x2 r a b c from rfl, r3, ob, e5, s3, ob, mI_s, m_lines, ob]
  try dsimp only
  rw [up2_s]
  exact congrArg (fun q => some (q, _)) (mI_sub (a := L + 1) (b := 1) (by omega))
theorem c_addL2 {h f r a b c : Int32} {y' : sLn} (h6 : u.1 9 6 = mI L) (hL : L < 40) (hC : CW (lnC u L h f r a b c) D F (L + 1) U y' φ nd nf) : F_X1_addLine (P.2.1 + 9) h f r a b c (hp P u ex n sl) = some (mI L, hp P (wL (wL (lnC u L h f r a b c) 13 L (rstV (u.2.2.2.1 13) y' L)) 14 L (nedV (u.2.2.2.1 14) y' L)) ex n sl) := by
  have e6 : (lnC u L h f r a b c).1 9 6 = mI (L + 1) := wI_s
  have es := c_standOn (P := P) (ex := ex) (n := n) (sl := sl) (l := L) hC rfl (Nat.lt_succ_self L)
  rw [E_X1_addLine, z_9, ob, E_X1_addLine_0, q_9_6, ob, h6, if_pos (show mI L < 40 by rw [nltL (by omega) (by decide)]; exact hL), ob, q_9_13, ob, nmulL, naddL, wa_17 (show L * 6 + 0 < 240 by omega), ob, q_9_13, ob, naddL, wa_17 (show L * 6 + 1 < 240 by omega), ob, q_9_13, ob, naddL, wa_17 (show L * 6 + 2 < 240 by omega), ob, q_9_13, ob, naddL, wa_17 (show L * 6 + 3 < 240 by omega), ob, q_9_13, ob, naddL, wa_17 (show L * 6 + 3 + 1 < 240 by omega), ob, q_9_13, ob, naddL, wa_17 (show L * 6 + 3 + 2 < 240 by omega), ob, q_9_6, ob, p_9_6, ob]
  have eW : wI (wA (wA (wA (wA (wA (wA u 17 (L * 6 + 0) h) 17 (L * 6 + 1) f) 17 (L * 6 + 2) r) 17 (L * 6 + 3) a) 17 (L * 6 + 3 + 1) b) 17 (L * 6 + 3 + 2) c) 9 6 ((wA (wA (wA (wA (wA (wA u 17 (L * 6 + 0) h) 17 (L * 6 + 1) f) 17 (L * 6 + 2) r) 17 (L * 6 + 3) a) 17 (L * 6 + 3 + 1) b) 17 (L * 6 + 3 + 2) c).1 9 6 + 1) = lnC u L h f r a b c := by
    show wI _ 9 6 (u.1 9 6 + 1) = _
    rw [h6, mI_s]
    rfl
  rw [eW, q_9_6, ob, e6, show mI (L + 1) - 1 = mI L from mI_sub (a := L + 1) (b := 1) (by omega), es, ob]
  try dsimp only
  rw [q_9_6, ob]
  show some ((lnC u L h f r a b c).1 9 6 - 1, _) = _
  rw [e6, show mI (L + 1) - 1 = mI L from mI_sub (a := L + 1) (b := 1) (by omega)]
  rfl
def okL1 (F L : Nat) (x1 x2 r a b c : Int32) : Prop := inN x1 3 ∧ inN x2 F ∧ inN r 16 ∧ (r = 0 → inN a 4) ∧ (¬ r = 0 → preP L a) ∧ preP L b ∧ preP L c
theorem in16 {x : Int32} : (¬ x < 0 ∧ ¬ (15 : Int32) < x) ↔ inN x 16 := in_N (N := 15) (by decide)
theorem c_line1 {x1 x2 r a b c : Int32} (hC : CW w D F L U y φ nd nf) (h : okL1 F L x1 x2 r a b c) : F_X7_line P.2.1 x1 x2 r a b c (hp P w ex n sl) = (if b2 (ordP r a b c) = 0 then some (.inr eIA, hp P w ex (n + 1) (sl + 6)) else (if mI L < 40 then ((F_X1_addLine (P.2.1 + 9) x1 x2 r a b c (hp P w ex n sl)).bind fun q11 => some (.inl q11.1, q11.2)) else some (.inr eUO, hp P w ex (n + 1) (sl + 6)))) := by
  obtain ⟨h1, h2, h3, h4, h5, h6, h7⟩ := h
  have hF := hC.2.2.2.2.2.1
  have hL := hC.2.2.2.2.2.2.1
  have e49 : R_X7_line_49 P.2.1 x1 x2 r a b c (hp P w ex n sl) = (if b2 (ordP r a b c) = 0 then some (.inr eIA, hp P w ex (n + 1) (sl + 6)) else (if mI L < 40 then ((F_X1_addLine (P.2.1 + 9) x1 x2 r a b c (hp P w ex n sl)).bind fun q11 => some (.inl q11.1, q11.2)) else some (.inr eUO, hp P w ex (n + 1) (sl + 6)))) := by
    rw [E_X7_line_49, c_needPT hL h6, ob, sumL, c_needPT hL h7, ob, sumL, c_order, ob]
    try dsimp only
    rw [q_0_1, ob, q_9_6, ob, hL]
    rfl
  rw [E_X7_line, z_0, ob, E_X7_line_0, c_needHT h1, ob, sumL, c_needFT hF h2, ob, sumL, if_neg h3.1, if_pos (show r < 16 from (inN_lt h3.1).mpr h3.2)]
  by_cases g : r = 0
  · rw [if_pos g, c_needCT (h4 g), ob, sumL]
    exact e49
  · rw [if_neg g, c_needPT hL (h5 g), ob, sumL]
    exact e49
theorem c_line0 {x1 x2 r a b c : Int32} (hC : CW w D F L U y φ nd nf) (h : ¬ okL1 F L x1 x2 r a b c) : F_X7_line P.2.1 x1 x2 r a b c (hp P w ex n sl) = some (.inr eIX, hp P w ex (n + 1) (sl + 6)) := by
  have hF := hC.2.2.2.2.2.1
  have hL := hC.2.2.2.2.2.2.1
  rw [E_X7_line, z_0, ob, E_X7_line_0]
  by_cases h1 : inN x1 3
  · rw [c_needHT h1, ob, sumL]
    by_cases h2 : inN x2 F
    · rw [c_needFT hF h2, ob, sumL]
      by_cases h30 : r < 0
      · rw [if_pos h30]; rfl
      rw [if_neg h30]
      by_cases h31 : r < 16
      · have h3 : inN r 16 := ⟨h30, (inN_lt h30).mp h31⟩
        rw [if_pos h31]
        have e49 : ¬ (preP L b ∧ preP L c) → R_X7_line_49 P.2.1 x1 x2 r a b c (hp P w ex n sl) = some (.inr eIX, hp P w ex (n + 1) (sl + 6)) := by
          intro q
          rw [E_X7_line_49]
          by_cases q1 : preP L b
          · rw [c_needPT hL q1, ob, sumL, c_needPF hL (fun z => q ⟨q1, z⟩), ob, sumR]
          · rw [c_needPF hL q1, ob, sumR]
        by_cases g : r = 0
        · rw [if_pos g]
          by_cases q1 : inN a 4
          · rw [c_needCT q1, ob, sumL]
            exact e49 (fun z => h ⟨h1, h2, h3, fun _ => q1, fun k => absurd g k, z.1, z.2⟩)
          · rw [c_needCF q1, ob, sumR]
        · rw [if_neg g]
          by_cases q1 : preP L a
          · rw [c_needPT hL q1, ob, sumL]
            exact e49 (fun z => h ⟨h1, h2, h3, fun k => absurd k g, fun _ => q1, z.1, z.2⟩)
          · rw [c_needPF hL q1, ob, sumR]
      · rw [if_neg h31]; rfl
    · rw [c_needFF hF h2, ob, sumR]
  · rw [c_needHF h1, ob, sumR]
theorem m_line14 {x1 x2 r a b c t : Int32} (hM : MW u D F L y φ) (ht : (t = 1 ∧ r = 0) ∨ (t = 0 ∧ ¬ r = 0)) : (okL1 F L x1 x2 r a b c → R_X8_line_14 (P.2.1 + 46) x1 x2 r a b c t (hp P u ex n sl) = R_X8_line_108 (P.2.1 + 46) x1 x2 r a b c t (hp P u ex n sl)) ∧ (¬ okL1 F L x1 x2 r a b c → R_X8_line_14 (P.2.1 + 46) x1 x2 r a b c t (hp P u ex n sl) = R_X8_line_104 (P.2.1 + 46) x1 x2 r a b c t (hp P u ex n sl)) := by
  have e89 : (preP L c → R_X8_line_89 (P.2.1 + 46) x1 x2 r a b c t (hp P u ex n sl) = R_X8_line_108 (P.2.1 + 46) x1 x2 r a b c t (hp P u ex n sl)) ∧ (¬ preP L c → R_X8_line_89 (P.2.1 + 46) x1 x2 r a b c t (hp P u ex n sl) = R_X8_line_104 (P.2.1 + 46) x1 x2 r a b c t (hp P u ex n sl)) := by
    rw [E_X8_line_89]
    by_cases q : c = -1
    · rw [if_pos q]; exact ⟨fun _ => rfl, fun z => absurd (Or.inl q) z⟩
    · rw [if_neg q, m_noLM hM, ob]
      try dsimp only
      by_cases q1 : inN c L
      · rw [if_pos (b2_0.mpr (not_not_intro q1))]; exact ⟨fun _ => rfl, fun z => absurd (Or.inr q1) z⟩
      · rw [if_neg (fun z => b2_0.mp z q1)]; exact ⟨fun z => z.elim (fun k => absurd k q) (fun k => absurd k q1), fun _ => rfl⟩
  have e74 : (preP L b ∧ preP L c → R_X8_line_74 (P.2.1 + 46) x1 x2 r a b c t (hp P u ex n sl) = R_X8_line_108 (P.2.1 + 46) x1 x2 r a b c t (hp P u ex n sl)) ∧ (¬ (preP L b ∧ preP L c) → R_X8_line_74 (P.2.1 + 46) x1 x2 r a b c t (hp P u ex n sl) = R_X8_line_104 (P.2.1 + 46) x1 x2 r a b c t (hp P u ex n sl)) := by
    rw [E_X8_line_74]
    by_cases q : b = -1
    · rw [if_pos q]; exact ⟨fun z => e89.1 z.2, fun z => e89.2 (fun k => z ⟨Or.inl q, k⟩)⟩
    · rw [if_neg q, m_noLM hM, ob]
      try dsimp only
      by_cases q1 : inN b L
      · rw [if_pos (b2_0.mpr (not_not_intro q1))]; exact ⟨fun z => e89.1 z.2, fun z => e89.2 (fun k => z ⟨Or.inr q1, k⟩)⟩
      · rw [if_neg (fun z => b2_0.mp z q1)]; exact ⟨fun z => z.1.elim (fun k => absurd k q) (fun k => absurd k q1), fun _ => rfl⟩
  rw [E_X8_line_14, m_noHouse, ob]
  try dsimp only
  by_cases h1 : inN x1 3
  · rw [if_pos (b2_0.mpr (not_not_intro h1)), m_noFM hM, ob]
    try dsimp only
    by_cases h2 : inN x2 F
    · rw [if_pos (b2_0.mpr (not_not_intro h2)), m_in, ob]
      try dsimp only
      by_cases h3 : inN r 16
      · rw [if_neg (fun z => b2_0.mp z (in16.mpr h3))]
        rcases ht with ⟨rfl, h0⟩ | ⟨rfl, h0⟩
        · have e54 : R_X8_line_54 (P.2.1 + 46) x1 x2 r a b c 1 (hp P u ex n sl) = R_X8_line_74 (P.2.1 + 46) x1 x2 r a b c 1 (hp P u ex n sl) := by
            rw [E_X8_line_54, if_neg (by decide)]
          rw [if_neg (by decide), m_noCustomer, ob]
          try dsimp only
          by_cases h4 : inN a 4
          · rw [if_pos (b2_0.mpr (not_not_intro h4)), e54]
            exact ⟨fun z => e74.1 ⟨z.2.2.2.2.2.1, z.2.2.2.2.2.2⟩, fun z => e74.2 (fun k => z ⟨h1, h2, h3, fun _ => h4, fun q => absurd h0 q, k.1, k.2⟩)⟩
          · rw [if_neg (fun z => b2_0.mp z h4)]
            exact ⟨fun z => absurd (z.2.2.2.1 h0) h4, fun _ => rfl⟩
        · rw [if_pos rfl, E_X8_line_54, if_pos rfl]
          by_cases h4 : a = -1
          · rw [if_pos h4]
            exact ⟨fun z => e74.1 ⟨z.2.2.2.2.2.1, z.2.2.2.2.2.2⟩, fun z => e74.2 (fun k => z ⟨h1, h2, h3, fun q => absurd q h0, fun _ => Or.inl h4, k.1, k.2⟩)⟩
          · rw [if_neg h4, m_noLM hM, ob]
            try dsimp only
            by_cases h5 : inN a L
            · rw [if_pos (b2_0.mpr (not_not_intro h5))]
              exact ⟨fun z => e74.1 ⟨z.2.2.2.2.2.1, z.2.2.2.2.2.2⟩, fun z => e74.2 (fun k => z ⟨h1, h2, h3, fun q => absurd q h0, fun _ => Or.inr h5, k.1, k.2⟩)⟩
            · rw [if_neg (fun z => b2_0.mp z h5)]
              exact ⟨fun z => (z.2.2.2.2.1 h0).elim (fun k => absurd k h4) (fun k => absurd k h5), fun _ => rfl⟩
      · rw [if_pos (b2_0.mpr (fun z => h3 (in16.mp z)))]
        exact ⟨fun z => absurd z.2.2.1 h3, fun _ => rfl⟩
    · rw [if_neg (fun z => b2_0.mp z h2)]
      exact ⟨fun z => absurd z.2.1 h2, fun _ => rfl⟩
  · rw [if_neg (fun z => b2_0.mp z h1)]
    exact ⟨fun z => absurd z.1 h1, fun _ => rfl⟩
theorem m_lineA {x1 x2 r a b c : Int32} : ∃ t : Int32, ((t = 1 ∧ r = 0) ∨ (t = 0 ∧ ¬ r = 0)) ∧ F_X8_line (P.2.1 + 46) x1 x2 r a b c (hp P u ex n sl) = R_X8_line_14 (P.2.1 + 46) x1 x2 r a b c t (hp P (wI u 46 0 0) ex n sl) := by
  by_cases g : r = 0
  · refine ⟨1, Or.inl ⟨rfl, g⟩, ?_⟩
    rw [E_X8_line, z_46, ob, E_X8_line_0, p_46_0, ob, if_pos g]
  · refine ⟨0, Or.inr ⟨rfl, g⟩, ?_⟩
    rw [E_X8_line, z_46, ob, E_X8_line_0, p_46_0, ob, if_neg g]
theorem pr_line (hI : IVa P S0 e w n sl D F L R U y φ nf ρ nd) (x1 x2 r a b c : Int32) : PI P S0 e w ex n sl (F_X7_line P.2.1 x1 x2 r a b c) (F_X8_line (P.2.1 + 46) x1 x2 r a b c) csXAU anyI := by
  have hb := hI.b
  have hC := hI.C
  have hM0 := hI.M.t0 (v := 0)
  have ho : okLn F L y := hI.1.2.1.1
  by_cases h : okL1 F L x1 x2 r a b c
  · by_cases h' : ordP r a b c
    · have ml : ∀ (u : sW) (n sl : Nat), MW u D F L y φ → F_X8_line (P.2.1 + 46) x1 x2 r a b c (hp P u ex n sl) = (if mI L = 40 then R_X8_line_195 (P.2.1 + 46) x1 x2 r a b c 1 (P.2.1 + 46) (hp P (wI u 46 0 0) ex n sl) else R_X8_line_195 (P.2.1 + 46) x1 x2 r a b c 0 (P.2.1 + 46) (hp P (wI u 46 0 0) ex n sl)) := by
        intro u n sl hu
        obtain ⟨t, ht, et⟩ := m_lineA (P := P) (u := u) (ex := ex) (n := n) (sl := sl) (x1 := x1) (x2 := x2) (r := r) (a := a) (b := b) (c := c)
        rw [et, (m_line14 (hu.t0 (v := 0)) ht).1 h, E_X8_line_108, (m_order ht).1 h', E_X8_line_172, E_X8_line_173, m_throwsIf0, ob]
        try dsimp only
        rw [if_pos rfl, m_linesM (hu.t0 (v := 0)), ob]
      by_cases hL : L < 40
      · obtain ⟨k1, k2, k3, k4, k5, k6, k7⟩ := h
        obtain ⟨ta', pa⟩ : thOf (toO a) = a ∧ (¬ r = 0 → ∀ p, toO a = some p → p < L) := by
          by_cases g : r = 0
          · obtain ⟨q, hq, rfl⟩ := inN_to (by decide) (k4 g)
            exact ⟨by rw [toO_s (by omega)]; rfl, fun z => absurd g z⟩
          · exact ⟨(preP_th hb.2.2.2.1 (k5 g)).1, fun _ => (preP_th hb.2.2.2.1 (k5 g)).2⟩
        obtain ⟨tb, pb⟩ := preP_th hb.2.2.2.1 k6
        obtain ⟨tc, pc⟩ := preP_th hb.2.2.2.1 k7
        obtain ⟨q1, hq1, rfl⟩ := inN_to (by decide) k1
        obtain ⟨q2, hq2, rfl⟩ := inN_to (by omega) k2
        obtain ⟨q3, hq3, rfl⟩ := inN_to (by decide) k3
        have e0 : (mI q3 = 0) = (q3 = 0) := neqL (by omega) (by decide)
        have hok : okLn F (L + 1) (lnU y L q1 q2 q3 a b c) := by
          refine lnU_ok ho hq1 hq2 hq3 (fun g => ?_) (fun g => ?_)
          · have g' : mI q3 = 0 := by rw [g]; rfl
            obtain ⟨q, hq, rfl⟩ := inN_to (by decide) (k4 g')
            unfold ordP at h'
            rw [if_pos g'] at h'
            exact ⟨⟨q, hq, toO_s (by omega)⟩, toO_none.mpr h'.1, toO_none.mpr h'.2⟩
          · have g' : ¬ mI q3 = 0 := by rw [e0]; exact g
            unfold ordP at h'
            rw [if_neg g'] at h'
            exact ⟨pa g', pb, pc, fun z => toO_none.mpr (h'.1 (toO_none.mp z)), fun z => toO_none.mpr (h'.2 (toO_none.mp z))⟩
        obtain ⟨bN, bL, bF, bR, bH⟩ := hI.1
        have hLn : hasLn (w.2.2.1 17) 0 L y := bL.2.1
        have hLm : hasLn (w.2.2.1 47) 1292 L y := bL.2.2.1
        have c17 : hasLn ((lnC w L (mI q1) (mI q2) (mI q3) a b c).2.2.1 17) 0 (L + 1) (lnU y L q1 q2 q3 a b c) := by
          unfold lnC
          refine lnU_has hLn (fun i hi => ?_) ?_ ?_ ?_ ?_ ?_ ?_ ta' tb tc <;> ((try dsimp only [wA, wI, wL, wJ]); (repeat first | rw [up2_n (by omega)] | rw [up2_e (by omega) (by omega)]))
        have hCL : CW (lnC w L (mI q1) (mI q2) (mI q3) a b c) D F (L + 1) U (lnU y L q1 q2 q3 a b c) φ nd nf := by
          obtain ⟨z1, z2, z3, z4, z5, z6, z7, z8, z9, z10, z11⟩ := hC
          refine ⟨z1, z2, z3, by omega, ?_, ?_, wI_s, c17, hok, z10.fr lnC_fr (by decide) (by decide) (by decide) (by decide) (by decide) (by decide), fun f hf => ⟨(z11 f hf).1, ?_, (z11 f hf).2.2⟩⟩
          · rw [(lnC_fr (u := w)).i (k := 9) (j := 0) (by decide)]; exact z5
          · rw [(lnC_fr (u := w)).i (k := 9) (j := 2) (by decide)]; exact z6
          · rw [(lnC_fr (u := w)).a (k := 15) (by decide)]; exact (z11 f hf).2.1
        have nL : ¬ mI L = 40 := by rw [show (40 : Int32) = mI 40 from rfl, mI_inj (by omega) (by decide)]; omega
        have lL : mI L < 40 := by rw [nltL (by omega) (by decide)]; exact hL
        generalize hrv : rstV (w.2.2.2.1 13) (lnU y L q1 q2 q3 a b c) L = rv
        generalize hnv : nedV (w.2.2.2.1 14) (lnU y L q1 q2 q3 a b c) L = nv
        have f1 : Fr [13, 14, 17, 72] [906] w (wL (wL (wL (lnC w L (mI q1) (mI q2) (mI q3) a b c) 13 L rv) 14 L nv) 72 0 (mI L).toInt64) := by
          refine Fr.pL (Fr.pL (Fr.pL (lnC_fr.mo (by decide) (by decide)) (by decide)) (by decide)) (by decide)
        refine PI.b (L' := L + 1) (R' := R) (y' := lnU y L q1 q2 q3 a b c) (ρ' := ρ) trivial hI (x := mI L) (w1 := wL (wL (lnC w L (mI q1) (mI q2) (mI q3) a b c) 13 L rv) 14 L nv) (w2 := wA (lnM (wI (wL (wL (wL (lnC w L (mI q1) (mI q2) (mI q3) a b c) 13 L rv) 14 L nv) 72 0 (mI L).toInt64) 46 0 0) L (mI q1) (mI q2) (mI q3) a b c) 47 2 (mI (L + 1))) ?_ ?_ ?_ ?_ ?_ ?_
        · rw [c_line1 hC ⟨k1, k2, k3, k4, k5, k6, k7⟩, if_neg (fun z => b2_0.mp z h'), if_pos lL, c_addL2 hC.2.2.2.2.2.2.1 hL hCL, ob, hrv, hnv]
        · rw [ml _ _ _ (hI.M.fr f1 (by decide) (by decide) (by decide)), if_neg nL]
          exact m_addL ((congrFun (f1.a (k := 47) (by decide)) 2).trans hI.M.2.2.2.2.2.2.1) hL
        · unfold lnM
          ((try dsimp only [wA, wI, wL, wJ]); (repeat first | rw [up2_n (by omega)] | rw [up2_e (by omega) (by omega)]))
        · unfold lnM
          ((try dsimp only [wA, wI, wL, wJ]); (repeat first | rw [up2_n (by omega)] | rw [up2_e (by omega) (by omega)]))
        · unfold lnM
          refine Fr.fvb (A := [13, 14, 17, 47, 72]) (B := [906, 4600]) ?_ (by decide) (by decide)
          exact (((((((((f1.mo (by decide) (by decide)).pI (k := 46) (j := 0) (by decide)).pA (k := 47) (by decide)).pA (k := 47) (by decide)).pA (k := 47) (by decide)).pA (k := 47) (by decide)).pA (k := 47) (by decide)).pA (k := 47) (by decide)).pA (k := 47) (by decide))
        · unfold lnM lnC
          refine ⟨⟨⟨hb.1, hb.2.1, hb.2.2.1, by omega, hb.2.2.2.2.1, hb.2.2.2.2.2⟩, ⟨?_, ?_, ?_, ?_, ?_⟩, ?_, ?_, ?_, ?_⟩, ⟨hok, ?_, ?_, fun l hl => ?_, fun l hl => ?_⟩, bF.c hb.1 hb.2.1 hb.2.2.1 (fun i hi => ?_) (fun i hi hi' => ?_) (fun i hi => ?_), ⟨⟨bR.1.1, fun q hq => ?_⟩, fun q hq => ?_, ?_, fun q hq => ?_⟩, bH.c (fun i hi => ?_) (fun i hi => ?_) (fun i hi => ?_) (fun i hi hi' => ?_)⟩
          case refine_1 => ((try dsimp only [wA, wI, wL, wJ]); (repeat first | rw [up2_n (by omega)] | rw [up2_e (by omega) (by omega)])); exact bN.2.1.1
          case refine_2 => ((try dsimp only [wA, wI, wL, wJ]); (repeat first | rw [up2_n (by omega)] | rw [up2_e (by omega) (by omega)])); exact bN.2.1.2.1
          case refine_3 => ((try dsimp only [wA, wI, wL, wJ]); (repeat first | rw [up2_n (by omega)] | rw [up2_e (by omega) (by omega)])); exact bN.2.1.2.2.1
          case refine_4 => ((try dsimp only [wA, wI, wL, wJ]); (repeat first | rw [up2_n (by omega)] | rw [up2_e (by omega) (by omega)]))
          case refine_5 => ((try dsimp only [wA, wI, wL, wJ]); (repeat first | rw [up2_n (by omega)] | rw [up2_e (by omega) (by omega)])); exact bN.2.1.2.2.2.2
          case refine_6 => ((try dsimp only [wA, wI, wL, wJ]); (repeat first | rw [up2_n (by omega)] | rw [up2_e (by omega) (by omega)])); exact bN.2.2.1
          case refine_7 => ((try dsimp only [wA, wI, wL, wJ]); (repeat first | rw [up2_n (by omega)] | rw [up2_e (by omega) (by omega)])); exact bN.2.2.2.1
          case refine_8 => ((try dsimp only [wA, wI, wL, wJ]); (repeat first | rw [up2_n (by omega)] | rw [up2_e (by omega) (by omega)]))
          case refine_9 => ((try dsimp only [wA, wI, wL, wJ]); (repeat first | rw [up2_n (by omega)] | rw [up2_e (by omega) (by omega)])); exact bN.2.2.2.2.2
          case refine_10 => exact c17
          case refine_11 => refine lnU_has hLm (fun i hi => ?_) ?_ ?_ ?_ ?_ ?_ ?_ ta' tb tc <;> ((try dsimp only [wA, wI, wL, wJ]); (repeat first | rw [up2_n (by omega)] | rw [up2_e (by omega) (by omega)]))
          case refine_12 =>
            have eq4 : ∀ p, p ≠ L → up2 (up2 w.2.2.2.1 13 L rv) 14 L nv 13 p = w.2.2.2.1 13 p := fun p hp => by rw [up2_n (by omega), up2_n (by omega)]
            have eqL : up2 (up2 w.2.2.2.1 13 L rv) 14 L nv 13 L = rv := by rw [up2_n (by omega), up2_s]
            show up2 (up2 (up2 w.2.2.2.1 13 L rv) 14 L nv) 72 0 (mI L).toInt64 13 l = rstV (up2 (up2 (up2 w.2.2.2.1 13 L rv) 14 L nv) 72 0 (mI L).toInt64 13) (lnU y L q1 q2 q3 a b c) l
            rw [up2_k (show 13 ≠ 72 by decide)]
            rw [rstV_congr (A' := w.2.2.2.1 13) hok hl (fun p hp => eq4 p (by omega))]
            by_cases g : l = L
            · subst g
              rw [eqL, hrv]
            · rw [eq4 l g, lnU_rst ho (by omega)]
              exact bL.2.2.2.1 l (by omega)
          case refine_13 =>
            have eq4 : ∀ p, p ≠ L → up2 (up2 w.2.2.2.1 13 L rv) 14 L nv 14 p = w.2.2.2.1 14 p := fun p hp => by rw [up2_n (by omega), up2_n (by omega)]
            have eqL : up2 (up2 w.2.2.2.1 13 L rv) 14 L nv 14 L = nv := up2_s
            show up2 (up2 (up2 w.2.2.2.1 13 L rv) 14 L nv) 72 0 (mI L).toInt64 14 l = nedV (up2 (up2 (up2 w.2.2.2.1 13 L rv) 14 L nv) 72 0 (mI L).toInt64 14) (lnU y L q1 q2 q3 a b c) l
            rw [up2_k (show 14 ≠ 72 by decide)]
            rw [nedV_congr (A' := w.2.2.2.1 14) hok hl (fun p hp => eq4 p (by omega))]
            by_cases g : l = L
            · subst g
              rw [eqL, hnv]
            · rw [eq4 l g, lnU_ned (by omega)]
              exact bL.2.2.2.2 l (by omega)
          case refine_17 =>
            obtain ⟨r1, r2, r3, r4, r5⟩ := bR.1.2 q hq
            refine ⟨by omega, r2, r3, r4, ?_⟩
            rw [lnU_1 (by omega)]
            exact r5
          case refine_18 =>
            obtain ⟨r0, r1, r2, r3⟩ := bR.2.1 q hq
            refine ⟨?_, ?_, ?_, ?_⟩
            · ((try dsimp only [wA, wI, wL, wJ]); (repeat first | rw [up2_n (by omega)] | rw [up2_e (by omega) (by omega)])); exact r0
            · ((try dsimp only [wA, wI, wL, wJ]); (repeat first | rw [up2_n (by omega)] | rw [up2_e (by omega) (by omega)])); exact r1
            · ((try dsimp only [wA, wI, wL, wJ]); (repeat first | rw [up2_n (by omega)] | rw [up2_e (by omega) (by omega)])); exact r2
            · ((try dsimp only [wA, wI, wL, wJ]); (repeat first | rw [up2_n (by omega)] | rw [up2_e (by omega) (by omega)])); exact r3
          case refine_19 =>
            intro i hi
            have := bR.2.2.1 i hi
            have e10 : (up2 (up2 w.1 9 6 (mI (L + 1))) 46 0 0) 9 10 = w.1 9 10 := by rw [up2_n (by omega), up2_n (by omega)]
            show bt ((up2 (up2 w.1 9 6 (mI (L + 1))) 46 0 0) 9 10) i = true ↔ _
            rw [e10]
            exact this
          case refine_20 =>
            obtain ⟨r0, r1, r2, r3, r4⟩ := bR.2.2.2 q hq
            refine ⟨?_, ?_, ?_, ?_, ?_⟩
            · ((try dsimp only [wA, wI, wL, wJ]); (repeat first | rw [up2_n (by omega)] | rw [up2_e (by omega) (by omega)])); exact r0
            · ((try dsimp only [wA, wI, wL, wJ]); (repeat first | rw [up2_n (by omega)] | rw [up2_e (by omega) (by omega)])); exact r1
            · ((try dsimp only [wA, wI, wL, wJ]); (repeat first | rw [up2_n (by omega)] | rw [up2_e (by omega) (by omega)])); exact r2
            · ((try dsimp only [wA, wI, wL, wJ]); (repeat first | rw [up2_n (by omega)] | rw [up2_e (by omega) (by omega)])); exact r3
            · ((try dsimp only [wA, wI, wL, wJ]); (repeat first | rw [up2_n (by omega)] | rw [up2_e (by omega) (by omega)])); exact r4
          all_goals ((try dsimp only [wA, wI, wL, wJ]); (repeat first | rw [up2_n (by omega)] | rw [up2_e (by omega) (by omega)]))
      · have hL40 : L = 40 := by omega
        subst hL40
        refine PI.x (E := eUO) (k := 3) (b := 0) (w2 := wI w 46 0 3) hI (by decide) ?_ ?_ FV.t0 wI_s
        · rw [c_line1 hC h, if_neg (fun z => b2_0.mp z h'), if_neg (by decide)]
        · rw [ml _ _ _ hI.M, if_pos (show mI 40 = 40 from rfl), E_X8_line_195, m_throwsIf1, ob, wI_wI]
          exact if_neg (show ¬ (1 : Int32) = 0 by decide)
    · refine PI.x (E := eIA) (k := 2) (b := 0) (w2 := wI w 46 0 2) hI (by decide) ?_ ?_ FV.t0 wI_s
      · rw [c_line1 hC h, if_pos (b2_0.mpr h')]
      · obtain ⟨t, ht, et⟩ := m_lineA (P := P) (u := w) (ex := ex) (n := n + 1) (sl := sl + 6) (x1 := x1) (x2 := x2) (r := r) (a := a) (b := b) (c := c)
        rw [et, (m_line14 hM0 ht).1 h, E_X8_line_108, (m_order ht).2 h', E_X8_line_168, E_X8_line_173, m_throwsIf1, ob, wI_wI]
        exact if_neg (show ¬ (1 : Int32) = 0 by decide)
  · refine PI.x (E := eIX) (k := 1) (b := 0) (w2 := wI w 46 0 1) hI (by decide) (c_line0 hC h) ?_ FV.t0 wI_s
    obtain ⟨t, ht, et⟩ := m_lineA (P := P) (u := w) (ex := ex) (n := n + 1) (sl := sl + 6) (x1 := x1) (x2 := x2) (r := r) (a := a) (b := b) (c := c)
    rw [et, (m_line14 hM0 ht).2 h, E_X8_line_104, E_X8_line_109, m_throwsIf1, ob, wI_wI]
    exact if_neg (show ¬ (1 : Int32) = 0 by decide)
end LIN
