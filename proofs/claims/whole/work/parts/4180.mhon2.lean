/-! the model's isHonest as one proposition -/
def fitP (D r : Nat) (am asm oth : Prop) (p a b c : List Nat) : Prop :=
  if r = 0 then am else if r = 1 then True else if r = 2 then (isL 13 p a ∧ isR 13 p b) else if r = 3 then isL 13 a p else if r = 4 then isR 13 a p else if r = 5 then isL 14 p a else if r = 6 then isR 14 p a
  else if r = 7 then (isL 15 b a ∧ isR 15 b p) else if r = 8 then a = 12 :: 12 :: p else if r = 9 then casesP a b c p else if r = 10 then (asm ∧ isL 15 p a ∧ isR 15 p b)
  else if r = 11 then (∃ t, t < D ∧ ∃ r, a = 16 :: r ∧ r.map (ins (some t)) = p) else if r = 12 then (ofP p a 0 ∧ (D < 2 ∨ ofP p b 1) ∧ (D < 3 ∨ ofP p c 2))
  else if r = 13 then (∃ t, t < D ∧ ∃ r, p = 17 :: r ∧ r.map (ins (some t)) = a) else if r = 14 then b = 12 :: a else (oth ∧ a = p)
def pfm (φ : Nat → List Nat) (y : sLn) (l j : Nat) : List Nat := match prem y l j with
  | none => []
  | some q => φ (y.2.1 q)
def asmP (y : sLn) (l : Nat) : Prop := match prem y l 0 with
  | none => False
  | some q => y.2.2.1 q = 1
def othP (y : sLn) (l : Nat) : Prop := match prem y l 0 with
  | none => False
  | some q => y.1 q ≠ y.1 l
/-- a customer is told a formula that is the same -/
def tol (F : Nat) (φ : Nat → List Nat) (s : Int32) (p : List Nat) : Prop := ∃ k, k < F ∧ bit s k ∧ φ k = p
def amP (F : Nat) (φ : Nat → List Nat) (T : Nat → Int32) (y : sLn) (l : Nat) : Prop := tol F φ (T ((y.2.2.2 l 0).getD 0)) (φ (y.2.1 l))
def honP (D F : Nat) (φ : Nat → List Nat) (y : sLn) (R T : Nat → Int32) (l : Nat) : Prop :=
  bit (R (y.1 l)) (y.2.2.1 l) ∧ prems y l = askN D (y.2.2.1 l) ∧ fitP D (y.2.2.1 l) (amP F φ T y l) (asmP y l) (othP y l) (φ (y.2.1 l)) (pfm φ y l 0) (pfm φ y l 1) (pfm φ y l 2)
/-- the model's world: things, formulas, lines -/
def MW (w : sW) (D F L : Nat) (y : sLn) (φ : Nat → List Nat) : Prop := 1 ≤ D ∧ D ≤ 3 ∧ F ≤ 30 ∧ L ≤ 40 ∧ w.2.2.1 47 0 = mI D ∧ w.2.2.1 47 1 = mI F ∧ w.2.2.1 47 2 = mI L ∧ hasLn (w.2.2.1 47) 1292 L y ∧ okLn F L y ∧ ∀ k, k < F → hasL w k (φ k) ∧ wff (φ k)
theorem prems_1 {y : sLn} {l : Nat} (h : 1 ≤ prems y l) : ∃ q, prem y l 0 = some q := by
  unfold prems at h
  cases e : prem y l 0 with
  | none => rw [e, if_pos rfl] at h; omega
  | some q => exact ⟨q, rfl⟩
theorem prems_2 {y : sLn} {l : Nat} (h : 2 ≤ prems y l) : ∃ q, prem y l 1 = some q := by
  obtain ⟨q, e0⟩ := prems_1 (y := y) (l := l) (by omega)
  unfold prems at h
  cases e : prem y l 1 with
  | none => rw [e0, if_neg (by simp), e, if_pos rfl] at h; omega
  | some q => exact ⟨q, rfl⟩
theorem prems_3 {y : sLn} {l : Nat} (h : 3 ≤ prems y l) : ∃ q, prem y l 2 = some q := by
  obtain ⟨q, e0⟩ := prems_1 (y := y) (l := l) (by omega)
  obtain ⟨q', e1⟩ := prems_2 (y := y) (l := l) (by omega)
  unfold prems at h
  cases e : prem y l 2 with
  | none => rw [e0, if_neg (by simp), e1, if_neg (by simp), e, if_pos rfl] at h; omega
  | some q => exact ⟨q, rfl⟩
theorem prems_lt {y : sLn} {l : Nat} : prems y l ≤ 3 := by
  unfold prems
  split
  · omega
  · split
    · omega
    · split <;> omega
section MH2
variable {P : sP} {w : sW} {ex : Nat → Option sC} {n sl : Nat} {F L D : Nat} {y : sLn} {φ : Nat → List Nat}
theorem m_pf {l j : Nat} {x v : Int32} (K : Int32 → sS → Option (Int32 × sS)) (hx : x = mI l) (hv : v = mI j) (h : hasLn (w.2.2.1 47) 1292 L y) (ho : okLn F L y) (h40 : L ≤ 40) (hl : l < L) (hj : j < 3) : ((F_X8_premise (P.2.1 + 46) x v (hp P w ex n sl)).bind fun q1 => if (0 : Int32) ≤ q1.1 then ((F_X8_premise (P.2.1 + 46) x v q1.2).bind fun q2 => (F_X8_ofLine (P.2.1 + 46) q2.1 1 q2.2).bind fun q3 => K q3.1 q3.2) else K (-1) q1.2) = K (thOf ((prem y l j).map y.2.1)) (hp P w ex n sl) := by
  simp only [m_premise hx hv h ho h40 hl hj, ob]
  cases e : prem y l j with
  | none => rw [if_neg (by decide)]; rfl
  | some q =>
    have hq := prem_lt ho hl hj e
    rw [if_pos (show (0 : Int32) ≤ thOf (some q) from (mI_le (a := 0) (by decide) (by omega)).mpr (by omega)), m_said (x := thOf (some q)) (l := q) rfl h h40 (by omega), ob]
    rfl
set_option maxHeartbeats 1000000 in
theorem m_isHonest {l : Nat} {x : Int32} (hx : x = mI l) (hM : MW w D F L y φ) (hl : l < L) : F_X8_isHonest (P.2.1 + 46) x (hp P w ex n sl) = some (b2 (honP D F φ y (fun h => w.2.2.1 47 (4 + 18 * h)) (fun u => w.2.2.1 47 (58 + u)) l), hp P w ex n sl) := by
  obtain ⟨h1, hD3, h30, h40, hD, hF, hLL, hLn, ho, hφ⟩ := hM
  have hh := (ho l hl).1
  have hf := (ho l hl).2.1
  have hr16 := (ho l hl).2.2.1
  have hS : ∀ q, q < l → sOK w (y.2.1 q) (φ (y.2.1 q)) := fun q hq => by
    have := (ho q (by omega)).2.1
    exact ⟨by omega, (hφ _ this).1, (hφ _ this).2⟩
  have s9 : sOK w (y.2.1 l) (φ (y.2.1 l)) := ⟨by omega, (hφ _ hf).1, (hφ _ hf).2⟩
  have hlt := prems_lt (y := y) (l := l)
  have hask : askN D (y.2.2.1 l) ≤ 3 := by
    unfold askN
    split
    · omega
    · split
      · omega
      · split
        · omega
        · split <;> omega
  rw [E_X8_isHonest, z_46, ob, E_X8_isHonest_0]
  rw [m_rule hx hLn h40 hl, ob, m_said hx hLn h40 hl, ob, m_house hx hLn h40 hl, ob, m_hasRule (x := mI (y.1 l)) (v := mI (y.2.2.1 l)) rfl rfl hh, ob]
  unfold honP
  by_cases hb : bit (w.2.2.1 47 (4 + 18 * y.1 l)) (y.2.2.1 l)
  · rw [if_neg (fun z => b2_0.mp z hb), m_premises hx hLn ho h40 hl, ob, m_asked (x := mI (y.2.2.1 l)) rfl hr16 hD, ob]
    by_cases hc : prems y l = askN D (y.2.2.1 l)
    · rw [if_pos (show (mI (prems y l) : Int32) = mI (askN D (y.2.2.1 l)) by rw [hc])]
      rw [b2_congr (p := _ ∧ _ ∧ fitP D (y.2.2.1 l) (amP F φ (fun u => w.2.2.1 47 (58 + u)) y l) (asmP y l) (othP y l) (φ (y.2.1 l)) (pfm φ y l 0) (pfm φ y l 1) (pfm φ y l 2)) ⟨fun z => z.2.2, fun z => ⟨hb, hc, z⟩⟩]
      have k0 := m_pf (P := P) (w := w) (ex := ex) (n := n) (sl := sl) (v := 0) (j := 0) (fun a s => R_X8_isHonest_67 (P.2.1 + 46) x (mI (y.2.2.1 l)) (mI (y.2.1 l)) a s) hx rfl hLn ho h40 hl (by decide)
      refine Eq.trans k0 ?_
      try dsimp only
      rw [E_X8_isHonest_67]
      have k1 := m_pf (P := P) (w := w) (ex := ex) (n := n) (sl := sl) (v := 1) (j := 1) (fun a s => R_X8_isHonest_93 (P.2.1 + 46) x (mI (y.2.2.1 l)) (mI (y.2.1 l)) (thOf ((prem y l 0).map y.2.1)) a s) hx rfl hLn ho h40 hl (by decide)
      refine Eq.trans k1 ?_
      try dsimp only
      rw [E_X8_isHonest_93]
      have k2 := m_pf (P := P) (w := w) (ex := ex) (n := n) (sl := sl) (v := 2) (j := 2) (fun a s => R_X8_isHonest_119 (P.2.1 + 46) x (mI (y.2.2.1 l)) (mI (y.2.1 l)) (thOf ((prem y l 0).map y.2.1)) (thOf ((prem y l 1).map y.2.1)) a s) hx rfl hLn ho h40 hl (by decide)
      refine Eq.trans k2 ?_
      try dsimp only
      rcases (show y.2.2.1 l = 0 ∨ y.2.2.1 l = 1 ∨ y.2.2.1 l = 2 ∨ y.2.2.1 l = 3 ∨ y.2.2.1 l = 4 ∨ y.2.2.1 l = 5 ∨ y.2.2.1 l = 6 ∨ y.2.2.1 l = 7 ∨ y.2.2.1 l = 8 ∨ y.2.2.1 l = 9 ∨ y.2.2.1 l = 10 ∨ y.2.2.1 l = 11 ∨ y.2.2.1 l = 12 ∨ y.2.2.1 l = 13 ∨ y.2.2.1 l = 14 ∨ y.2.2.1 l = 15 by omega) with hr | hr | hr | hr | hr | hr | hr | hr | hr | hr | hr | hr | hr | hr | hr | hr
      · obtain ⟨⟨u, hu, eu⟩, -, -⟩ := (ho l hl).2.2.2.1 hr
        have a3 : w.2.2.1 47 (1292 + 6 * l + 3) = mI u := by have := (hLn l hl).2.2.2 0 (by decide); rw [eu] at this; exact this
        simp only [hr, amP, eu, Option.getD_some]
        rw [E_X8_isHonest_119, if_pos (show (mI 0 : Int32) = 0 from rfl)]
        simp only [m_ofLine (v := 3) (j := 3) hx rfl (show l < 40 by omega) (by decide), a3, ob, m_beliefsOf (x := mI u) rfl hu, m_isAmong (x := mI (y.2.1 l)) rfl s9.1 hF h30 (fun k hk => (hφ k hk).1) s9.2.1]
        rw [if_pos b2_or]
        rfl
      · rw [hr, (show askN D 1 = 0 from rfl)] at hc
        simp only [hr, pfm, asmP, othP, Option.map_some]
        exact h_fit_1
      · rw [hr, (show askN D 2 = 2 from rfl)] at hc
        obtain ⟨q0, e0⟩ := prems_1 (y := y) (l := l) (by omega)
        have s0 := hS q0 (prem_lt ho hl (by decide) e0)
        obtain ⟨q1, e1⟩ := prems_2 (y := y) (l := l) (by omega)
        have s1 := hS q1 (prem_lt ho hl (by decide) e1)
        simp only [hr, pfm, asmP, othP, e0, e1, Option.map_some]
        exact h_fit_2 s9 s0 s1
      · rw [hr, (show askN D 3 = 1 from rfl)] at hc
        obtain ⟨q0, e0⟩ := prems_1 (y := y) (l := l) (by omega)
        have s0 := hS q0 (prem_lt ho hl (by decide) e0)
        simp only [hr, pfm, asmP, othP, e0, Option.map_some]
        exact h_fit_3 s9 s0
      · rw [hr, (show askN D 4 = 1 from rfl)] at hc
        obtain ⟨q0, e0⟩ := prems_1 (y := y) (l := l) (by omega)
        have s0 := hS q0 (prem_lt ho hl (by decide) e0)
        simp only [hr, pfm, asmP, othP, e0, Option.map_some]
        exact h_fit_4 s9 s0
      · rw [hr, (show askN D 5 = 1 from rfl)] at hc
        obtain ⟨q0, e0⟩ := prems_1 (y := y) (l := l) (by omega)
        have s0 := hS q0 (prem_lt ho hl (by decide) e0)
        simp only [hr, pfm, asmP, othP, e0, Option.map_some]
        exact h_fit_5 s9 s0
      · rw [hr, (show askN D 6 = 1 from rfl)] at hc
        obtain ⟨q0, e0⟩ := prems_1 (y := y) (l := l) (by omega)
        have s0 := hS q0 (prem_lt ho hl (by decide) e0)
        simp only [hr, pfm, asmP, othP, e0, Option.map_some]
        exact h_fit_6 s9 s0
      · rw [hr, (show askN D 7 = 2 from rfl)] at hc
        obtain ⟨q0, e0⟩ := prems_1 (y := y) (l := l) (by omega)
        have s0 := hS q0 (prem_lt ho hl (by decide) e0)
        obtain ⟨q1, e1⟩ := prems_2 (y := y) (l := l) (by omega)
        have s1 := hS q1 (prem_lt ho hl (by decide) e1)
        simp only [hr, pfm, asmP, othP, e0, e1, Option.map_some]
        exact h_fit_7 s9 s0 s1
      · rw [hr, (show askN D 8 = 1 from rfl)] at hc
        obtain ⟨q0, e0⟩ := prems_1 (y := y) (l := l) (by omega)
        have s0 := hS q0 (prem_lt ho hl (by decide) e0)
        simp only [hr, pfm, asmP, othP, e0, Option.map_some]
        exact h_fit_8 s9 s0
      · rw [hr, (show askN D 9 = 3 from rfl)] at hc
        obtain ⟨q0, e0⟩ := prems_1 (y := y) (l := l) (by omega)
        have s0 := hS q0 (prem_lt ho hl (by decide) e0)
        obtain ⟨q1, e1⟩ := prems_2 (y := y) (l := l) (by omega)
        have s1 := hS q1 (prem_lt ho hl (by decide) e1)
        obtain ⟨q2, e2⟩ := prems_3 (y := y) (l := l) (by omega)
        have s2 := hS q2 (prem_lt ho hl (by decide) e2)
        simp only [hr, pfm, asmP, othP, e0, e1, e2, Option.map_some]
        exact h_fit_9 s9 s0 s1 s2
      · rw [hr, (show askN D 10 = 2 from rfl)] at hc
        obtain ⟨q0, e0⟩ := prems_1 (y := y) (l := l) (by omega)
        have s0 := hS q0 (prem_lt ho hl (by decide) e0)
        obtain ⟨q1, e1⟩ := prems_2 (y := y) (l := l) (by omega)
        have s1 := hS q1 (prem_lt ho hl (by decide) e1)
        simp only [hr, pfm, asmP, othP, e0, e1, Option.map_some]
        exact h_fit_10 hx s9 s0 s1 hLn ho h40 hl e0
      · rw [hr, (show askN D 11 = 1 from rfl)] at hc
        obtain ⟨q0, e0⟩ := prems_1 (y := y) (l := l) (by omega)
        have s0 := hS q0 (prem_lt ho hl (by decide) e0)
        simp only [hr, pfm, asmP, othP, e0, Option.map_some]
        exact h_fit_11 s9 s0 hD hD3
      · rw [hr, (show askN D 12 = D from rfl)] at hc
        obtain ⟨q0, e0⟩ := prems_1 (y := y) (l := l) (by omega)
        have s0 := hS q0 (prem_lt ho hl (by decide) e0)
        simp only [hr, e0, Option.map_some]
        have a0 : pfm φ y l 0 = φ (y.2.1 q0) := by simp only [pfm, e0]
        have g1 : ¬ D < 2 → ∃ f1, thOf ((prem y l 1).map y.2.1) = mI f1 ∧ sOK w f1 (pfm φ y l 1) := fun z => by
          obtain ⟨q1, e1⟩ := prems_2 (y := y) (l := l) (by omega)
          exact ⟨y.2.1 q1, by rw [e1]; rfl, by simp only [pfm, e1]; exact hS q1 (prem_lt ho hl (by decide) e1)⟩
        have g2 : ¬ D < 3 → ∃ f2, thOf ((prem y l 2).map y.2.1) = mI f2 ∧ sOK w f2 (pfm φ y l 2) := fun z => by
          obtain ⟨q2, e2⟩ := prems_3 (y := y) (l := l) (by omega)
          exact ⟨y.2.1 q2, by rw [e2]; rfl, by simp only [pfm, e2]; exact hS q2 (prem_lt ho hl (by decide) e2)⟩
        rw [a0]
        exact h_fit_12 s9 s0 hD h1 hD3 g1 g2
      · rw [hr, (show askN D 13 = 1 from rfl)] at hc
        obtain ⟨q0, e0⟩ := prems_1 (y := y) (l := l) (by omega)
        have s0 := hS q0 (prem_lt ho hl (by decide) e0)
        simp only [hr, pfm, asmP, othP, e0, Option.map_some]
        exact h_fit_13 s9 s0 hD hD3
      · rw [hr, (show askN D 14 = 2 from rfl)] at hc
        obtain ⟨q0, e0⟩ := prems_1 (y := y) (l := l) (by omega)
        have s0 := hS q0 (prem_lt ho hl (by decide) e0)
        obtain ⟨q1, e1⟩ := prems_2 (y := y) (l := l) (by omega)
        have s1 := hS q1 (prem_lt ho hl (by decide) e1)
        simp only [hr, pfm, asmP, othP, e0, e1, Option.map_some]
        exact h_fit_14 s9 s0 s1
      · rw [hr, (show askN D 15 = 1 from rfl)] at hc
        obtain ⟨q0, e0⟩ := prems_1 (y := y) (l := l) (by omega)
        have s0 := hS q0 (prem_lt ho hl (by decide) e0)
        simp only [hr, pfm, asmP, othP, e0, Option.map_some]
        exact h_fit_15 hx s9 s0 hLn ho h40 hl e0
    · rw [if_neg (show ¬ (mI (prems y l) : Int32) = mI (askN D (y.2.2.1 l)) by rw [mI_inj (by omega) (by omega)]; exact hc)]
      exact congrArg (fun z => some (z, hp P w ex n sl)) (b2_f (fun z => hc z.2.1)).symm
  · rw [if_pos (b2_0.mpr hb)]
    exact congrArg (fun z => some (z, hp P w ex n sl)) (b2_f (fun z => hb z.1)).symm
end MH2
