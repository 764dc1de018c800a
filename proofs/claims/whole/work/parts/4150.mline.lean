/-! lines, as the model keeps them: house, formula, rule of a line; what stands in its three last places -/
abbrev sLn : Type := (Nat → Nat) × (Nat → Nat) × (Nat → Nat) × (Nat → Nat → Option Nat)
def hasLn (A : Nat → Int32) (b L : Nat) (y : sLn) : Prop := ∀ l, l < L → A (b + 6 * l + 0) = mI (y.1 l) ∧ A (b + 6 * l + 1) = mI (y.2.1 l) ∧ A (b + 6 * l + 2) = mI (y.2.2.1 l) ∧ ∀ j, j < 3 → A (b + 6 * l + (3 + j)) = thOf (y.2.2.2 l j)
def okLn (F L : Nat) (y : sLn) : Prop := ∀ l, l < L → y.1 l < 3 ∧ y.2.1 l < F ∧ y.2.2.1 l < 16 ∧ (y.2.2.1 l = 0 → (∃ u, u < 4 ∧ y.2.2.2 l 0 = some u) ∧ y.2.2.2 l 1 = none ∧ y.2.2.2 l 2 = none) ∧
  (y.2.2.1 l ≠ 0 → (∀ j, j < 3 → ∀ p, y.2.2.2 l j = some p → p < l) ∧ (y.2.2.2 l 0 = none → y.2.2.2 l 1 = none) ∧ (y.2.2.2 l 1 = none → y.2.2.2 l 2 = none))
/-- a premise; the customer of a belief is none -/
def prem (y : sLn) (l j : Nat) : Option Nat := if y.2.2.1 l = 0 then none else y.2.2.2 l j
theorem prem_lt {F L : Nat} {y : sLn} (h : okLn F L y) {l j p : Nat} (hl : l < L) (hj : j < 3) (e : prem y l j = some p) : p < l := by
  unfold prem at e
  split at e
  · cases e
  · rename_i g
    exact ((h l hl).2.2.2.2 g).1 j hj p e
/-- how many premises -/
def prems (y : sLn) (l : Nat) : Nat := if prem y l 0 = none then 0 else if prem y l 1 = none then 1 else if prem y l 2 = none then 2 else 3
section MLn
variable {P : sP} {w : sW} {ex : Nat → Option sC} {n sl : Nat} {σ : sS} {F L : Nat} {y : sLn}
theorem m_ofLine {l j : Nat} {x v : Int32} (hx : x = mI l) (hv : v = mI j) (hl : l < 40) (hj : j < 6) : F_X8_ofLine (P.2.1 + 46) x v (hp P w ex n sl) = some (w.2.2.1 47 (1292 + 6 * l + j), hp P w ex n sl) := by
  subst hx hv
  have e : 1292 + 6 * mI l + mI j = mI (1292 + 6 * l + j) := by
    show mI 1292 + mI 6 * mI l + mI j = _
    rw [mI_mul, mI_add, mI_add]
  simp only [E_X8_ofLine, E_X8_ofLine_0, z_46, q_46_1, ob, e, a_47 (mI_out (show 1292 + 6 * l + j < 1682 by omega) (by decide)), mI_nat (show 1292 + 6 * l + j < 2 ^ 31 by omega)]
theorem m_house {l : Nat} {x : Int32} (hx : x = mI l) (h : hasLn (w.2.2.1 47) 1292 L y) (h40 : L ≤ 40) (hl : l < L) : F_X8_ofLine (P.2.1 + 46) x 0 (hp P w ex n sl) = some (mI (y.1 l), hp P w ex n sl) := by
  rw [m_ofLine (v := 0) (j := 0) hx rfl (by omega) (by decide), (h l hl).1]
theorem m_said {l : Nat} {x : Int32} (hx : x = mI l) (h : hasLn (w.2.2.1 47) 1292 L y) (h40 : L ≤ 40) (hl : l < L) : F_X8_ofLine (P.2.1 + 46) x 1 (hp P w ex n sl) = some (mI (y.2.1 l), hp P w ex n sl) := by
  rw [m_ofLine (v := 1) (j := 1) hx rfl (by omega) (by decide), (h l hl).2.1]
theorem m_rule {l : Nat} {x : Int32} (hx : x = mI l) (h : hasLn (w.2.2.1 47) 1292 L y) (h40 : L ≤ 40) (hl : l < L) : F_X8_ofLine (P.2.1 + 46) x 2 (hp P w ex n sl) = some (mI (y.2.2.1 l), hp P w ex n sl) := by
  rw [m_ofLine (v := 2) (j := 2) hx rfl (by omega) (by decide), (h l hl).2.2.1]
theorem m_premise {l j : Nat} {x v : Int32} (hx : x = mI l) (hv : v = mI j) (h : hasLn (w.2.2.1 47) 1292 L y) (ho : okLn F L y) (h40 : L ≤ 40) (hl : l < L) (hj : j < 3) : F_X8_premise (P.2.1 + 46) x v (hp P w ex n sl) = some (thOf (prem y l j), hp P w ex n sl) := by
  subst hv
  have hr := (ho l hl).2.2.1
  have e : (3 : Int32) + mI j = mI (3 + j) := mI_add 3 j
  have e0 : (mI (y.2.2.1 l) = 0) = (y.2.2.1 l = 0) := m_eqN (b := 0) (by omega) (by decide)
  simp only [E_X8_premise, E_X8_premise_0, z_46, ob, m_rule hx h h40 hl, e0, e, m_ofLine (v := mI (3 + j)) (j := 3 + j) hx rfl (show l < 40 by omega) (show 3 + j < 6 by omega), (h l hl).2.2.2 j hj]
  unfold prem
  by_cases g : y.2.2.1 l = 0
  · rw [if_pos g, if_pos g]; rfl
  · rw [if_neg g, if_neg g]
theorem thOf_neg {t : Option Nat} (h : ∀ u, t = some u → u < 2 ^ 31) : (thOf t < 0) = (t = none) := by
  cases t with
  | none => exact propext ⟨fun _ => rfl, fun _ => by decide⟩
  | some u => exact propext ⟨fun g => absurd g (mI_0 (h u rfl)), fun g => by cases g⟩
theorem thOf_pos {t : Option Nat} (h : ∀ u, t = some u → u < 2 ^ 31) : ((0 : Int32) ≤ thOf t) = (t ≠ none) := by
  cases t with
  | none => exact propext ⟨fun g => absurd g (by decide), fun g => absurd rfl g⟩
  | some u => exact propext ⟨fun _ => by simp, fun _ => (mI_le (a := 0) (by decide) (h u rfl)).mpr (by omega)⟩
theorem m_premises {l : Nat} {x : Int32} (hx : x = mI l) (h : hasLn (w.2.2.1 47) 1292 L y) (ho : okLn F L y) (h40 : L ≤ 40) (hl : l < L) : F_X8_premises (P.2.1 + 46) x (hp P w ex n sl) = some (mI (prems y l), hp P w ex n sl) := by
  have hb : ∀ j, j < 3 → ∀ u, prem y l j = some u → u < 2 ^ 31 := fun j hj u hu => by have := prem_lt ho hl hj hu; omega
  have s1 : (0 : Int32) + 1 = 1 := rfl
  have s2 : (1 : Int32) + 1 = 2 := rfl
  have s3 : (2 : Int32) + 1 = 3 := rfl
  rw [E_X8_premises, z_46, ob, E_X8_premises_0, E_X8_premises_2, if_neg (by decide), m_premise (v := 0) (j := 0) hx rfl h ho h40 hl (by decide), ob]
  simp only [thOf_neg (hb 0 (by decide))]
  unfold prems
  by_cases h0 : prem y l 0 = none
  · rw [if_pos h0, if_pos h0]; rfl
  · rw [if_neg h0, if_neg h0, s1, E_X8_premises_2, if_neg (by decide), m_premise (v := 1) (j := 1) hx rfl h ho h40 hl (by decide), ob]
    simp only [thOf_neg (hb 1 (by decide))]
    by_cases h1 : prem y l 1 = none
    · rw [if_pos h1, if_pos h1]; rfl
    · rw [if_neg h1, if_neg h1, s2, E_X8_premises_2, if_neg (by decide), m_premise (v := 2) (j := 2) hx rfl h ho h40 hl (by decide), ob]
      simp only [thOf_neg (hb 2 (by decide))]
      by_cases h2 : prem y l 2 = none
      · rw [if_pos h2, if_pos h2]; rfl
      · rw [if_neg h2, if_neg h2, s3, E_X8_premises_2, if_pos (by decide)]; rfl
theorem m_beliefsOf {u : Nat} {x : Int32} (hx : x = mI u) (hu : u < 4) : F_X8_beliefsOf (P.2.1 + 46) x (hp P w ex n sl) = some (w.2.2.1 47 (58 + u), hp P w ex n sl) := by
  subst hx
  have e : (58 : Int32) + mI u = mI (58 + u) := mI_add 58 u
  simp only [E_X8_beliefsOf, E_X8_beliefsOf_0, z_46, q_46_1, ob, e, a_47 (mI_out (show 58 + u < 1682 by omega) (by decide)), mI_nat (show 58 + u < 2 ^ 31 by omega)]
/-- a bit of an int -/
def bit (x : Int32) (k : Nat) : Prop := (x >>> (mI k &&& 31)) &&& 1 = 1
theorem m_isOfSome {f g s D : Nat} {l p : List Nat} {x v z : Int32} (hx : x = mI f) (hv : v = mI s) (hz : z = mI g) (hD : w.2.2.1 47 0 = mI D) (hD3 : D ≤ 3) (hf : f < 72) (hg : g < 72) (hs : s < 18) (hl : hasL w f l) (hp9 : hasL w g p) (wl : wff l) : F_X8_isOfSome (P.2.1 + 46) x v z (hp P w ex n sl) = some (b2 (∃ t, t < D ∧ ∃ r, l = s :: r ∧ r.map (ins (some t)) = p), hp P w ex n sl) := by
  have step : ∀ (d k : Nat), k + d = D → ∀ q : Prop, R_X8_isOfSome_6 (P.2.1 + 46) x v z (b2 q) (mI k) (hp P w ex n sl) = some (b2 (q ∨ ∃ t, k ≤ t ∧ t < D ∧ ∃ r, l = s :: r ∧ r.map (ins (some t)) = p), hp P w ex n sl) := by
    intro d
    induction d with
    | zero =>
      intro k hk q
      have hk : k = D := by omega
      subst hk
      rw [E_X8_isOfSome_6, m_d, ob, hD, if_pos ((mI_le (by omega) (by omega)).mpr (Nat.le_refl _)), if_pos b2_or]
      rw [b2_congr (p := q) (q := q ∨ ∃ t, k ≤ t ∧ t < k ∧ ∃ r, l = s :: r ∧ r.map (ins (some t)) = p) ⟨Or.inl, fun g => g.resolve_right (fun ⟨t, h1, h2, _⟩ => by omega)⟩]
    | succ d ih =>
      intro k hk q
      have e3 : mI k + 1 = mI (k + 1) := mI_add k 1
      rw [E_X8_isOfSome_6, m_d, ob, hD, if_neg (by rw [mI_le (by omega) (by omega)]; omega)]
      simp only [E_X8_isOfSome_32, E_X8_isOfSome_37, e3]
      by_cases hq : q
      · rw [if_neg (fun g => b2_0.mp g hq), ← b2_t hq, ih (k + 1) (by omega) q]
        rw [b2_congr (p := q ∨ _) (q := q ∨ ∃ t, k ≤ t ∧ t < D ∧ ∃ r, l = s :: r ∧ r.map (ins (some t)) = p) ⟨fun _ => Or.inl hq, fun _ => Or.inl hq⟩]
      · rw [if_pos (b2_0.mpr hq), m_isOf (v := mI k) (t := some k) hx hv hz rfl (fun u hu => by cases hu; omega) hf hg hs hl hp9 wl, ob]
        by_cases hr : ∃ r, l = s :: r ∧ r.map (ins (some k)) = p
        · rw [if_neg (fun g => b2_0.mp g hr), ← b2_t (p := True) trivial, ih (k + 1) (by omega) True]
          rw [b2_congr (p := True ∨ _) (q := q ∨ ∃ t, k ≤ t ∧ t < D ∧ ∃ r, l = s :: r ∧ r.map (ins (some t)) = p) ⟨fun _ => Or.inr ⟨k, Nat.le_refl _, by omega, hr⟩, fun _ => Or.inl trivial⟩]
        · rw [if_pos (b2_0.mpr hr), ← b2_f hq, ih (k + 1) (by omega) q]
          rw [b2_congr (p := q ∨ ∃ t, k + 1 ≤ t ∧ t < D ∧ ∃ r, l = s :: r ∧ r.map (ins (some t)) = p) (q := q ∨ ∃ t, k ≤ t ∧ t < D ∧ ∃ r, l = s :: r ∧ r.map (ins (some t)) = p) ⟨fun g => g.imp id (fun ⟨t, h1, h2, h3⟩ => ⟨t, by omega, h2, h3⟩), fun g => g.imp id (fun ⟨t, h1, h2, h3⟩ => by
            by_cases e : t = k
            · subst e; exact absurd h3 hr
            · exact ⟨t, by omega, h2, h3⟩)⟩]
  rw [E_X8_isOfSome, z_46, ob, E_X8_isOfSome_0]
  have := step D 0 (by omega) False
  rw [b2_f (fun g : False => g)] at this
  rw [b2_congr (p := ∃ t, t < D ∧ ∃ r, l = s :: r ∧ r.map (ins (some t)) = p) (q := False ∨ ∃ t, 0 ≤ t ∧ t < D ∧ ∃ r, l = s :: r ∧ r.map (ins (some t)) = p) ⟨fun ⟨t, h1, h2⟩ => Or.inr ⟨t, Nat.zero_le _, h1, h2⟩, fun g => by
    rcases g with g | ⟨t, -, h1, h2⟩
    · cases g
    · exact ⟨t, h1, h2⟩⟩]
  exact this
end MLn
