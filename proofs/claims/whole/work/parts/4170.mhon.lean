/-! the model's isHonest, rule by rule -/
/-- a place of the store with a formula -/
def sOK (w : sW) (f : Nat) (p : List Nat) : Prop := f < 72 ∧ hasL w f p ∧ wff p
def ofP (p a : List Nat) (t : Nat) : Prop := ∃ r, p = 16 :: r ∧ r.map (ins (some t)) = a
section MH
variable {P : sP} {w : sW} {ex : Nat → Option sC} {n sl : Nat} {σ : sS} {F L D f f0 f1 f2 : Nat} {y : sLn} {p p0 p1 p2 : List Nat}
theorem m_and {p q : Prop} : (if b2 p = 0 then some ((0 : Int32), σ) else some (b2 q, σ)) = some (b2 (p ∧ q), σ) := by
  by_cases h : p
  · rw [if_neg (fun g => b2_0.mp g h), b2_congr (p := q) (q := p ∧ q) ⟨fun g => ⟨h, g⟩, fun g => g.2⟩]
  · rw [if_pos (b2_0.mpr h), b2_f (fun g => h g.1)]
theorem h_fit_1 {x v4 v5 w0 : Int32} : R_X8_isHonest_119 (P.2.1 + 46) x (mI 1) (mI f) v4 v5 w0 (hp P w ex n sl) = some (b2 (True), hp P w ex n sl) := by
  rw [E_X8_isHonest_119, if_neg (show ¬ (mI 1 : Int32) = 0 by decide), if_pos (show (mI 1 : Int32) = 1 from rfl)]
  rw [b2_t trivial]
theorem h_fit_2 {x w0 : Int32} (hf : sOK w f p) (hf0 : sOK w f0 p0) (hf1 : sOK w f1 p1) : R_X8_isHonest_119 (P.2.1 + 46) x (mI 2) (mI f) (mI f0) (mI f1) w0 (hp P w ex n sl) = some (b2 (isL 13 p p0 ∧ isR 13 p p1), hp P w ex n sl) := by
  rw [E_X8_isHonest_119, if_neg (show ¬ (mI 2 : Int32) = 0 by decide), if_neg (show ¬ (mI 2 : Int32) = 1 by decide), if_pos (show (mI 2 : Int32) = 2 from rfl)]
  simp only [m_isLeft (x := mI f) (y := 13) (s := 13) (z := mI f0) rfl rfl rfl hf.1 hf0.1 (by decide) rfl hf.2.1 hf0.2.1 hf.2.2 hf0.2.2, ob, m_isRight (x := mI f) (y := 13) (s := 13) (z := mI f1) rfl rfl rfl hf.1 hf1.1 (by decide) rfl hf.2.1 hf1.2.1 hf.2.2, m_bool, m_and]
theorem h_fit_3 {x v5 w0 : Int32} (hf : sOK w f p) (hf0 : sOK w f0 p0) : R_X8_isHonest_119 (P.2.1 + 46) x (mI 3) (mI f) (mI f0) v5 w0 (hp P w ex n sl) = some (b2 (isL 13 p0 p), hp P w ex n sl) := by
  rw [E_X8_isHonest_119, if_neg (show ¬ (mI 3 : Int32) = 0 by decide), if_neg (show ¬ (mI 3 : Int32) = 1 by decide), if_neg (show ¬ (mI 3 : Int32) = 2 by decide), if_pos (show (mI 3 : Int32) = 3 from rfl)]
  simp only [m_isLeft (x := mI f0) (y := 13) (s := 13) (z := mI f) rfl rfl rfl hf0.1 hf.1 (by decide) rfl hf0.2.1 hf.2.1 hf0.2.2 hf.2.2, ob]
  rw [if_pos b2_or]
theorem h_fit_4 {x v5 w0 : Int32} (hf : sOK w f p) (hf0 : sOK w f0 p0) : R_X8_isHonest_119 (P.2.1 + 46) x (mI 4) (mI f) (mI f0) v5 w0 (hp P w ex n sl) = some (b2 (isR 13 p0 p), hp P w ex n sl) := by
  rw [E_X8_isHonest_119, if_neg (show ¬ (mI 4 : Int32) = 0 by decide), if_neg (show ¬ (mI 4 : Int32) = 1 by decide), if_neg (show ¬ (mI 4 : Int32) = 2 by decide), if_neg (show ¬ (mI 4 : Int32) = 3 by decide), if_pos (show (mI 4 : Int32) = 4 from rfl)]
  simp only [m_isRight (x := mI f0) (y := 13) (s := 13) (z := mI f) rfl rfl rfl hf0.1 hf.1 (by decide) rfl hf0.2.1 hf.2.1 hf0.2.2, ob]
  rw [if_pos b2_or]
theorem h_fit_5 {x v5 w0 : Int32} (hf : sOK w f p) (hf0 : sOK w f0 p0) : R_X8_isHonest_119 (P.2.1 + 46) x (mI 5) (mI f) (mI f0) v5 w0 (hp P w ex n sl) = some (b2 (isL 14 p p0), hp P w ex n sl) := by
  rw [E_X8_isHonest_119, if_neg (show ¬ (mI 5 : Int32) = 0 by decide), if_neg (show ¬ (mI 5 : Int32) = 1 by decide), if_neg (show ¬ (mI 5 : Int32) = 2 by decide), if_neg (show ¬ (mI 5 : Int32) = 3 by decide), if_neg (show ¬ (mI 5 : Int32) = 4 by decide), if_pos (show (mI 5 : Int32) = 5 from rfl)]
  simp only [m_isLeft (x := mI f) (y := 14) (s := 14) (z := mI f0) rfl rfl rfl hf.1 hf0.1 (by decide) rfl hf.2.1 hf0.2.1 hf.2.2 hf0.2.2, ob]
  rw [if_pos b2_or]
theorem h_fit_6 {x v5 w0 : Int32} (hf : sOK w f p) (hf0 : sOK w f0 p0) : R_X8_isHonest_119 (P.2.1 + 46) x (mI 6) (mI f) (mI f0) v5 w0 (hp P w ex n sl) = some (b2 (isR 14 p p0), hp P w ex n sl) := by
  rw [E_X8_isHonest_119, if_neg (show ¬ (mI 6 : Int32) = 0 by decide), if_neg (show ¬ (mI 6 : Int32) = 1 by decide), if_neg (show ¬ (mI 6 : Int32) = 2 by decide), if_neg (show ¬ (mI 6 : Int32) = 3 by decide), if_neg (show ¬ (mI 6 : Int32) = 4 by decide), if_neg (show ¬ (mI 6 : Int32) = 5 by decide), if_pos (show (mI 6 : Int32) = 6 from rfl)]
  simp only [m_isRight (x := mI f) (y := 14) (s := 14) (z := mI f0) rfl rfl rfl hf.1 hf0.1 (by decide) rfl hf.2.1 hf0.2.1 hf.2.2, ob]
  rw [if_pos b2_or]
theorem h_fit_7 {x w0 : Int32} (hf : sOK w f p) (hf0 : sOK w f0 p0) (hf1 : sOK w f1 p1) : R_X8_isHonest_119 (P.2.1 + 46) x (mI 7) (mI f) (mI f0) (mI f1) w0 (hp P w ex n sl) = some (b2 (isL 15 p1 p0 ∧ isR 15 p1 p), hp P w ex n sl) := by
  rw [E_X8_isHonest_119, if_neg (show ¬ (mI 7 : Int32) = 0 by decide), if_neg (show ¬ (mI 7 : Int32) = 1 by decide), if_neg (show ¬ (mI 7 : Int32) = 2 by decide), if_neg (show ¬ (mI 7 : Int32) = 3 by decide), if_neg (show ¬ (mI 7 : Int32) = 4 by decide), if_neg (show ¬ (mI 7 : Int32) = 5 by decide), if_neg (show ¬ (mI 7 : Int32) = 6 by decide), if_pos (show (mI 7 : Int32) = 7 from rfl)]
  simp only [m_isLeft (x := mI f1) (y := 15) (s := 15) (z := mI f0) rfl rfl rfl hf1.1 hf0.1 (by decide) rfl hf1.2.1 hf0.2.1 hf1.2.2 hf0.2.2, ob, m_isRight (x := mI f1) (y := 15) (s := 15) (z := mI f) rfl rfl rfl hf1.1 hf.1 (by decide) rfl hf1.2.1 hf.2.1 hf1.2.2, m_bool, m_and]
theorem h_fit_8 {x v5 w0 : Int32} (hf : sOK w f p) (hf0 : sOK w f0 p0) : R_X8_isHonest_119 (P.2.1 + 46) x (mI 8) (mI f) (mI f0) v5 w0 (hp P w ex n sl) = some (b2 (p0 = 12 :: 12 :: p), hp P w ex n sl) := by
  rw [E_X8_isHonest_119, if_neg (show ¬ (mI 8 : Int32) = 0 by decide), if_neg (show ¬ (mI 8 : Int32) = 1 by decide), if_neg (show ¬ (mI 8 : Int32) = 2 by decide), if_neg (show ¬ (mI 8 : Int32) = 3 by decide), if_neg (show ¬ (mI 8 : Int32) = 4 by decide), if_neg (show ¬ (mI 8 : Int32) = 5 by decide), if_neg (show ¬ (mI 8 : Int32) = 6 by decide), if_neg (show ¬ (mI 8 : Int32) = 7 by decide), if_pos (show (mI 8 : Int32) = 8 from rfl)]
  simp only [m_isTwice (x := mI f0) (z := mI f) rfl rfl hf0.1 hf.1 hf0.2.1 hf.2.1 hf0.2.2, ob]
  rw [if_pos b2_or]
theorem h_fit_9 {x : Int32} (hf : sOK w f p) (hf0 : sOK w f0 p0) (hf1 : sOK w f1 p1) (hf2 : sOK w f2 p2) : R_X8_isHonest_119 (P.2.1 + 46) x (mI 9) (mI f) (mI f0) (mI f1) (mI f2) (hp P w ex n sl) = some (b2 (casesP p0 p1 p2 p), hp P w ex n sl) := by
  rw [E_X8_isHonest_119, if_neg (show ¬ (mI 9 : Int32) = 0 by decide), if_neg (show ¬ (mI 9 : Int32) = 1 by decide), if_neg (show ¬ (mI 9 : Int32) = 2 by decide), if_neg (show ¬ (mI 9 : Int32) = 3 by decide), if_neg (show ¬ (mI 9 : Int32) = 4 by decide), if_neg (show ¬ (mI 9 : Int32) = 5 by decide), if_neg (show ¬ (mI 9 : Int32) = 6 by decide), if_neg (show ¬ (mI 9 : Int32) = 7 by decide), if_neg (show ¬ (mI 9 : Int32) = 8 by decide), if_pos (show (mI 9 : Int32) = 9 from rfl)]
  simp only [m_isCases (x1 := mI f0) (x2 := mI f1) (x3 := mI f2) (x4 := mI f) rfl rfl rfl rfl hf0.1 hf1.1 hf2.1 hf.1 hf0.2.1 hf1.2.1 hf2.2.1 hf.2.1 hf0.2.2 hf1.2.2 hf2.2.2 hf.2.2, ob]
  rw [if_pos b2_or]
theorem h_fit_10 {l q : Nat} {x w0 : Int32} (hx : x = mI l) (hf : sOK w f p) (hf0 : sOK w f0 p0) (hf1 : sOK w f1 p1) (hLn : hasLn (w.2.2.1 47) 1292 L y) (ho : okLn F L y) (h40 : L ≤ 40) (hl : l < L) (hq : prem y l 0 = some q) : R_X8_isHonest_119 (P.2.1 + 46) x (mI 10) (mI f) (mI f0) (mI f1) w0 (hp P w ex n sl) = some (b2 (y.2.2.1 q = 1 ∧ isL 15 p p0 ∧ isR 15 p p1), hp P w ex n sl) := by
  have hql := prem_lt ho hl (by decide) hq
  have hr := (ho q (by omega)).2.2.1
  have e1 : (mI (y.2.2.1 q) = 1) = (y.2.2.1 q = 1) := m_eqN (b := 1) (by omega) (by decide)
  rw [E_X8_isHonest_119, if_neg (show ¬ (mI 10 : Int32) = 0 by decide), if_neg (show ¬ (mI 10 : Int32) = 1 by decide), if_neg (show ¬ (mI 10 : Int32) = 2 by decide), if_neg (show ¬ (mI 10 : Int32) = 3 by decide), if_neg (show ¬ (mI 10 : Int32) = 4 by decide), if_neg (show ¬ (mI 10 : Int32) = 5 by decide), if_neg (show ¬ (mI 10 : Int32) = 6 by decide), if_neg (show ¬ (mI 10 : Int32) = 7 by decide), if_neg (show ¬ (mI 10 : Int32) = 8 by decide), if_neg (show ¬ (mI 10 : Int32) = 9 by decide), if_pos (show (mI 10 : Int32) = 10 from rfl)]
  simp only [m_premise (v := 0) (j := 0) hx rfl hLn ho h40 hl (by decide), hq, ob, m_rule (x := thOf (some q)) (l := q) rfl hLn h40 (show q < L by omega), e1, m_isLeft (x := mI f) (y := 15) (s := 15) (z := mI f0) rfl rfl rfl hf.1 hf0.1 (by decide) rfl hf.2.1 hf0.2.1 hf.2.2 hf0.2.2, m_isRight (x := mI f) (y := 15) (s := 15) (z := mI f1) rfl rfl rfl hf.1 hf1.1 (by decide) rfl hf.2.1 hf1.2.1 hf.2.2, m_bool, m_and]
  by_cases g : y.2.2.1 q = 1
  · rw [if_pos g, b2_congr (p := isL 15 p p0 ∧ isR 15 p p1) (q := y.2.2.1 q = 1 ∧ isL 15 p p0 ∧ isR 15 p p1) ⟨fun z => ⟨g, z⟩, fun z => z.2⟩]
  · rw [if_neg g, b2_f (fun z => g z.1)]
theorem h_fit_11 {x v5 w0 : Int32} (hf : sOK w f p) (hf0 : sOK w f0 p0) (hD : w.2.2.1 47 0 = mI D) (hD3 : D ≤ 3) : R_X8_isHonest_119 (P.2.1 + 46) x (mI 11) (mI f) (mI f0) v5 w0 (hp P w ex n sl) = some (b2 (∃ t, t < D ∧ ∃ r, p0 = 16 :: r ∧ r.map (ins (some t)) = p), hp P w ex n sl) := by
  rw [E_X8_isHonest_119, if_neg (show ¬ (mI 11 : Int32) = 0 by decide), if_neg (show ¬ (mI 11 : Int32) = 1 by decide), if_neg (show ¬ (mI 11 : Int32) = 2 by decide), if_neg (show ¬ (mI 11 : Int32) = 3 by decide), if_neg (show ¬ (mI 11 : Int32) = 4 by decide), if_neg (show ¬ (mI 11 : Int32) = 5 by decide), if_neg (show ¬ (mI 11 : Int32) = 6 by decide), if_neg (show ¬ (mI 11 : Int32) = 7 by decide), if_neg (show ¬ (mI 11 : Int32) = 8 by decide), if_neg (show ¬ (mI 11 : Int32) = 9 by decide), if_neg (show ¬ (mI 11 : Int32) = 10 by decide), if_pos (show (mI 11 : Int32) = 11 from rfl)]
  simp only [m_isOfSome (x := mI f0) (v := 16) (s := 16) (z := mI f) rfl rfl rfl hD hD3 hf0.1 hf.1 (by decide) hf0.2.1 hf.2.1 hf0.2.2, ob]
  rw [if_pos b2_or]
theorem h_fit_12 {x v5 w0 : Int32} (hf : sOK w f p) (hf0 : sOK w f0 p0) (hD : w.2.2.1 47 0 = mI D) (h1 : 1 ≤ D) (hD3 : D ≤ 3) (g1 : ¬ D < 2 → ∃ f1, v5 = mI f1 ∧ sOK w f1 p1) (g2 : ¬ D < 3 → ∃ f2, w0 = mI f2 ∧ sOK w f2 p2) : R_X8_isHonest_119 (P.2.1 + 46) x (mI 12) (mI f) (mI f0) v5 w0 (hp P w ex n sl) = some (b2 (ofP p p0 0 ∧ (D < 2 ∨ ofP p p1 1) ∧ (D < 3 ∨ ofP p p2 2)), hp P w ex n sl) := by
  have c2 : (mI D < 2) = (D < 2) := propext (mI_lt (b := 2) (by omega) (by decide))
  have c3 : (mI D < 3) = (D < 3) := propext (mI_lt (b := 3) (by omega) (by decide))
  have A0 : F_X8_isOf (P.2.1 + 46) (mI f) 16 (mI f0) 0 (hp P w ex n sl) = some (b2 (ofP p p0 0), hp P w ex n sl) := m_isOf (P := P) (w := w) (ex := ex) (n := n) (sl := sl) (x := mI f) (y := 16) (s := 16) (z := mI f0) (v := 0) (t := some 0) rfl rfl rfl rfl (fun u hu => by cases hu; decide) hf.1 hf0.1 (by decide) hf.2.1 hf0.2.1 hf.2.2
  have fin : R_X8_isHonest_424 (P.2.1 + 46) (mI f) w0 (hp P w ex n sl) = some (b2 (D < 3 ∨ ofP p p2 2), hp P w ex n sl) := by
    rw [E_X8_isHonest_424]
    simp only [m_d, ob, hD, c3]
    by_cases k3 : D < 3
    · rw [if_pos k3, b2_t (Or.inl k3)]
    · obtain ⟨f2, rfl, hf2⟩ := g2 k3
      rw [if_neg k3, m_isOf (x := mI f) (y := 16) (s := 16) (z := mI f2) (v := 2) (t := some 2) rfl rfl rfl rfl (fun u hu => by cases hu; decide) hf.1 hf2.1 (by decide) hf.2.1 hf2.2.1 hf.2.2, ob, m_bool]
      exact congrArg (fun z => some (z, hp P w ex n sl)) (b2_congr ⟨Or.inr, fun z => z.resolve_left k3⟩)
  rw [E_X8_isHonest_119, if_neg (show ¬ (mI 12 : Int32) = 0 by decide), if_neg (show ¬ (mI 12 : Int32) = 1 by decide), if_neg (show ¬ (mI 12 : Int32) = 2 by decide), if_neg (show ¬ (mI 12 : Int32) = 3 by decide), if_neg (show ¬ (mI 12 : Int32) = 4 by decide), if_neg (show ¬ (mI 12 : Int32) = 5 by decide), if_neg (show ¬ (mI 12 : Int32) = 6 by decide), if_neg (show ¬ (mI 12 : Int32) = 7 by decide), if_neg (show ¬ (mI 12 : Int32) = 8 by decide), if_neg (show ¬ (mI 12 : Int32) = 9 by decide), if_neg (show ¬ (mI 12 : Int32) = 10 by decide), if_neg (show ¬ (mI 12 : Int32) = 11 by decide), if_pos (show (mI 12 : Int32) = 12 from rfl)]
  simp only [A0, ob, m_d, hD, c2, fin]
  by_cases k0 : ofP p p0 0
  · rw [if_neg (fun z => b2_0.mp z k0)]
    by_cases k2 : D < 2
    · rw [if_pos k2]
      exact congrArg (fun z => some (z, hp P w ex n sl)) (b2_congr ⟨fun z => ⟨k0, Or.inl k2, z⟩, fun z => z.2.2⟩)
    · obtain ⟨f1, rfl, hf1⟩ := g1 k2
      have A1 : F_X8_isOf (P.2.1 + 46) (mI f) 16 (mI f1) 1 (hp P w ex n sl) = some (b2 (ofP p p1 1), hp P w ex n sl) := m_isOf (x := mI f) (y := 16) (s := 16) (z := mI f1) (v := 1) (t := some 1) rfl rfl rfl rfl (fun u hu => by cases hu; decide) hf.1 hf1.1 (by decide) hf.2.1 hf1.2.1 hf.2.2
      rw [if_neg k2]
      simp only [A1, ob, fin]
      by_cases k1 : ofP p p1 1
      · rw [if_neg (fun z => b2_0.mp z k1)]
        exact congrArg (fun z => some (z, hp P w ex n sl)) (b2_congr ⟨fun z => ⟨k0, Or.inr k1, z⟩, fun z => z.2.2⟩)
      · rw [if_pos (b2_0.mpr k1), b2_f (fun z => (z.2.1).elim k2 k1)]
  · rw [if_pos (b2_0.mpr k0), b2_f (fun z => k0 z.1)]
theorem h_fit_13 {x v5 w0 : Int32} (hf : sOK w f p) (hf0 : sOK w f0 p0) (hD : w.2.2.1 47 0 = mI D) (hD3 : D ≤ 3) : R_X8_isHonest_119 (P.2.1 + 46) x (mI 13) (mI f) (mI f0) v5 w0 (hp P w ex n sl) = some (b2 (∃ t, t < D ∧ ∃ r, p = 17 :: r ∧ r.map (ins (some t)) = p0), hp P w ex n sl) := by
  rw [E_X8_isHonest_119, if_neg (show ¬ (mI 13 : Int32) = 0 by decide), if_neg (show ¬ (mI 13 : Int32) = 1 by decide), if_neg (show ¬ (mI 13 : Int32) = 2 by decide), if_neg (show ¬ (mI 13 : Int32) = 3 by decide), if_neg (show ¬ (mI 13 : Int32) = 4 by decide), if_neg (show ¬ (mI 13 : Int32) = 5 by decide), if_neg (show ¬ (mI 13 : Int32) = 6 by decide), if_neg (show ¬ (mI 13 : Int32) = 7 by decide), if_neg (show ¬ (mI 13 : Int32) = 8 by decide), if_neg (show ¬ (mI 13 : Int32) = 9 by decide), if_neg (show ¬ (mI 13 : Int32) = 10 by decide), if_neg (show ¬ (mI 13 : Int32) = 11 by decide), if_neg (show ¬ (mI 13 : Int32) = 12 by decide), if_pos (show (mI 13 : Int32) = 13 from rfl)]
  simp only [m_isOfSome (x := mI f) (v := 17) (s := 17) (z := mI f0) rfl rfl rfl hD hD3 hf.1 hf0.1 (by decide) hf.2.1 hf0.2.1 hf.2.2, ob]
  rw [if_pos b2_or]
theorem h_fit_14 {x w0 : Int32} (hf : sOK w f p) (hf0 : sOK w f0 p0) (hf1 : sOK w f1 p1) : R_X8_isHonest_119 (P.2.1 + 46) x (mI 14) (mI f) (mI f0) (mI f1) w0 (hp P w ex n sl) = some (b2 (p1 = 12 :: p0), hp P w ex n sl) := by
  rw [E_X8_isHonest_119, if_neg (show ¬ (mI 14 : Int32) = 0 by decide), if_neg (show ¬ (mI 14 : Int32) = 1 by decide), if_neg (show ¬ (mI 14 : Int32) = 2 by decide), if_neg (show ¬ (mI 14 : Int32) = 3 by decide), if_neg (show ¬ (mI 14 : Int32) = 4 by decide), if_neg (show ¬ (mI 14 : Int32) = 5 by decide), if_neg (show ¬ (mI 14 : Int32) = 6 by decide), if_neg (show ¬ (mI 14 : Int32) = 7 by decide), if_neg (show ¬ (mI 14 : Int32) = 8 by decide), if_neg (show ¬ (mI 14 : Int32) = 9 by decide), if_neg (show ¬ (mI 14 : Int32) = 10 by decide), if_neg (show ¬ (mI 14 : Int32) = 11 by decide), if_neg (show ¬ (mI 14 : Int32) = 12 by decide), if_neg (show ¬ (mI 14 : Int32) = 13 by decide), if_pos (show (mI 14 : Int32) = 14 from rfl)]
  simp only [m_isMinus (x := mI f1) (z := mI f0) rfl rfl hf1.1 hf0.1 hf1.2.1 hf0.2.1 hf1.2.2, ob]
  rw [if_pos b2_or]
theorem h_fit_15 {l q : Nat} {x v5 w0 : Int32} (hx : x = mI l) (hf : sOK w f p) (hf0 : sOK w f0 p0) (hLn : hasLn (w.2.2.1 47) 1292 L y) (ho : okLn F L y) (h40 : L ≤ 40) (hl : l < L) (hq : prem y l 0 = some q) : R_X8_isHonest_119 (P.2.1 + 46) x (mI 15) (mI f) (mI f0) v5 w0 (hp P w ex n sl) = some (b2 (y.1 q ≠ y.1 l ∧ p0 = p), hp P w ex n sl) := by
  have hql := prem_lt ho hl (by decide) hq
  have hr := (ho q (by omega)).1
  have hr' := (ho l hl).1
  have e1 : (mI (y.1 q) = mI (y.1 l)) = (y.1 q = y.1 l) := m_eqN (by omega) (by omega)
  rw [E_X8_isHonest_119, if_neg (show ¬ (mI 15 : Int32) = 0 by decide), if_neg (show ¬ (mI 15 : Int32) = 1 by decide), if_neg (show ¬ (mI 15 : Int32) = 2 by decide), if_neg (show ¬ (mI 15 : Int32) = 3 by decide), if_neg (show ¬ (mI 15 : Int32) = 4 by decide), if_neg (show ¬ (mI 15 : Int32) = 5 by decide), if_neg (show ¬ (mI 15 : Int32) = 6 by decide), if_neg (show ¬ (mI 15 : Int32) = 7 by decide), if_neg (show ¬ (mI 15 : Int32) = 8 by decide), if_neg (show ¬ (mI 15 : Int32) = 9 by decide), if_neg (show ¬ (mI 15 : Int32) = 10 by decide), if_neg (show ¬ (mI 15 : Int32) = 11 by decide), if_neg (show ¬ (mI 15 : Int32) = 12 by decide), if_neg (show ¬ (mI 15 : Int32) = 13 by decide), if_neg (show ¬ (mI 15 : Int32) = 14 by decide)]
  simp only [m_premise (v := 0) (j := 0) hx rfl hLn ho h40 hl (by decide), hq, ob, m_house (x := thOf (some q)) (l := q) rfl hLn h40 (show q < L by omega), m_house hx hLn h40 hl, e1, m_isSame (x := mI f0) (y := mI f) rfl rfl hf0.1 hf.1 hf0.2.1 hf.2.1, m_bool]
  by_cases g : y.1 q = y.1 l
  · rw [if_pos g, b2_f (fun z => z.1 g)]
  · rw [if_neg g, b2_congr (p := p0 = p) (q := y.1 q ≠ y.1 l ∧ p0 = p) ⟨fun z => ⟨g, z⟩, fun z => z.2⟩]
end MH
