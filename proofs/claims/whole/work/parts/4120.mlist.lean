/-! the model's lists of signs -/
/-- a sign with a thing in place of x -/
def ins (t : Option Nat) (s : Nat) : Nat := match t with
  | none => s
  | some u => if s = 4 then 6 + u else if s = 5 then 9 + u else s
def thOf (t : Option Nat) : Int32 := match t with
  | none => -1
  | some u => mI u
theorem ins_lt {t : Option Nat} {s : Nat} (ht : ∀ u, t = some u → u < 3) (hs : s < 18) : ins t s < 18 := by
  cases t with
  | none => exact hs
  | some u =>
    have := ht u rfl
    show (if s = 4 then 6 + u else if s = 5 then 9 + u else s) < 18
    split
    · omega
    · split <;> omega
section MS
variable {P : sP} {w : sW} {ex : Nat → Option sC} {n sl : Nat} {σ : sS}
theorem m_at {f k : Nat} {x y : Int32} (hx : x = mI f) (hy : y = mI k) (hf : f < 72) (hk : k < 40) : F_X8_at (P.2.1 + 46) x y (hp P w ex n sl) = some (w.2.2.1 50 (40 * f + k), hp P w ex n sl) := by
  subst hx hy
  have e : 40 * mI f + mI k = mI (40 * f + k) := by
    show mI 40 * mI f + mI k = _
    rw [mI_mul, mI_add]
  simp only [E_X8_at, E_X8_at_0, z_46, q_46_5, ob, e, a_50 (mI_out (show 40 * f + k < 2880 by omega) (by decide)), mI_nat (show 40 * f + k < 2 ^ 31 by omega)]
theorem m_eqN {a b : Nat} (ha : a < 2 ^ 31) (hb : b < 2 ^ 31) : (mI a = mI b) = (a = b) := propext (mI_inj ha hb)
theorem m_isJoining {s : Nat} (hs : s < 18) : F_X8_isJoining (mI s) σ = some (b2 (ar s = 2), σ) := by
  have e13 : (mI s = 13) = (s = 13) := m_eqN (b := 13) (by omega) (by decide)
  have e14 : (mI s = 14) = (s = 14) := m_eqN (b := 14) (by omega) (by decide)
  have e15 : (mI s = 15) = (s = 15) := m_eqN (b := 15) (by omega) (by decide)
  simp only [E_X8_isJoining, E_X8_isJoining_0, ob, e13, e14, e15]
  by_cases h : s = 13 ∨ s = 14 ∨ s = 15
  · have e : ar s = 2 := by unfold ar; rw [if_pos h]
    rw [b2_t e]
    rcases h with h | h | h <;> simp [h]
  · have e : ¬ ar s = 2 := by
      unfold ar
      rw [if_neg h]
      split <;> omega
    rw [b2_f e]
    simp only [not_or] at h
    simp [h.1, h.2.1, h.2.2]
theorem m_isLone {s : Nat} (hs : s < 18) : F_X8_isLone (mI s) σ = some (b2 (ar s = 1), σ) := by
  have e13 : (mI s = 12) = (s = 12) := m_eqN (b := 12) (by omega) (by decide)
  have e14 : (mI s = 16) = (s = 16) := m_eqN (b := 16) (by omega) (by decide)
  have e15 : (mI s = 17) = (s = 17) := m_eqN (b := 17) (by omega) (by decide)
  simp only [E_X8_isLone, E_X8_isLone_0, ob, e13, e14, e15]
  by_cases h : s = 12 ∨ s = 16 ∨ s = 17
  · have e : ar s = 1 := by unfold ar; rw [if_neg (by omega), if_pos h]
    rw [b2_t e]
    rcases h with h | h | h <;> simp [h]
  · have e : ¬ ar s = 1 := by
      unfold ar
      rw [if_neg h]
      split <;> omega
    rw [b2_f e]
    simp only [not_or] at h
    simp [h.1, h.2.1, h.2.2]
theorem m_set {t : Option Nat} {s : Nat} (ht : ∀ u, t = some u → u < 3) (hs : s < 18) : F_X8_set (mI s) (thOf t) σ = some (mI (ins t s), σ) := by
  have e4 : (mI s = 4) = (s = 4) := m_eqN (b := 4) (by omega) (by decide)
  have e5 : (mI s = 5) = (s = 5) := m_eqN (b := 5) (by omega) (by decide)
  simp only [E_X8_set, E_X8_set_0, ob, e4, e5]
  cases t with
  | none =>
    rw [if_neg (by decide)]
    rfl
  | some u =>
    have hu := ht u rfl
    have h0 : (0 : Int32) ≤ thOf (some u) := (mI_le (a := 0) (b := u) (by decide) (by omega)).mpr (by omega)
    rw [if_pos h0]
    show _ = some (mI (if s = 4 then 6 + u else if s = 5 then 9 + u else s), σ)
    by_cases h4 : s = 4
    · rw [if_pos h4, if_pos h4]
      exact congrArg (fun z => some (z, σ)) (mI_add 6 u)
    · rw [if_neg h4, if_neg h4]
      by_cases h5 : s = 5
      · rw [if_pos h5, if_pos h5]
        exact congrArg (fun z => some (z, σ)) (mI_add 9 u)
      · rw [if_neg h5, if_neg h5]
/-- place f of the model's store holds a list -/
def hasL (w : sW) (f : Nat) (l : List Nat) : Prop := w.2.2.1 49 f = mI l.length ∧ l.length ≤ 40 ∧ (∀ s ∈ l, s < 18) ∧ ∀ k, k < l.length → w.2.2.1 50 (40 * f + k) = mI (l.getD k 0)
theorem mI_m {k : Nat} : mI (k + 1) + (-1) = mI k := by
  rw [← Int32.sub_eq_add_neg]
  exact mI_sub (a := k + 1) (b := 1) (by omega)
theorem m_endOfL {f : Nat} (hf : f < 72) : ∀ (t : List Nat) (k need : Nat) (b : List Nat), (∀ j, j < t.length → w.2.2.1 50 (40 * f + (k + j)) = mI (t.getD j 0)) → k + t.length ≤ 40 → (∀ s ∈ t, s < 18) → need + t.length ≤ 2000 → rdf t need = some b → R_X8_endOf_5 (P.2.1 + 46) (mI f) (mI need) (mI k) (hp P w ex n sl) = some (mI (k + (t.length - b.length)), hp P w ex n sl) := by
  intro t
  induction t with
  | nil =>
    intro k need b hA hk hs hn h
    cases need with
    | zero =>
      cases h
      rw [E_X8_endOf_5, if_pos (show mI 0 ≤ 0 by decide)]
      rfl
    | succ m => cases h
  | cons s t ih =>
    intro k need b hA hk hs hn h
    cases need with
    | zero =>
      cases h
      rw [E_X8_endOf_5, if_pos (show mI 0 ≤ 0 by decide), Nat.sub_self, Nat.add_zero]
    | succ m =>
      have hs0 : s < 18 := hs s List.mem_cons_self
      simp only [List.length_cons] at hk hn
      have hlen : k < 40 := by omega
      have hA0 : w.2.2.1 50 (40 * f + k) = mI s := hA 0 (by simp)
      rw [rdf_s] at h
      have har := ar_le s
      have hb : b.length ≤ t.length := by
        obtain ⟨a, e⟩ := rdf_end h
        rw [e]; simp
      have ih' := ih (k + 1) (m + ar s) b (fun j hj => by
        have := hA (j + 1) (by simp; omega)
        rw [show k + 1 + j = k + (j + 1) by omega, this]
        rfl) (by omega) (fun s' h' => hs s' (List.mem_cons_of_mem _ h')) (by omega) h
      have hpos : ¬ mI (m + 1) ≤ 0 := by
        intro g
        have := (mI_le (a := m + 1) (b := 0) (by omega) (by decide)).mp g
        omega
      have ek : mI k + 1 = mI (k + 1) := mI_add k 1
      rw [show k + ((s :: t).length - b.length) = k + 1 + (t.length - b.length) by simp only [List.length_cons]; omega, ← ih']
      rw [E_X8_endOf_5, if_neg hpos]
      simp only [m_at (x := mI f) (y := mI k) rfl rfl hf hlen, ob, hA0, m_isJoining hs0, m_isLone hs0, E_X8_endOf_45, ek]
      match hr : ar s with
      | 2 =>
        rw [if_neg (by rw [b2_t (show (2 : Nat) = 2 from rfl)]; decide)]
        exact congrArg (fun z => R_X8_endOf_5 (P.2.1 + 46) (mI f) z (mI (k + 1)) (hp P w ex n sl)) (mI_add (m + 1) 1)
      | 1 =>
        rw [if_pos (b2_0.mpr (show ¬ (1 : Nat) = 2 by decide)), if_neg (by rw [b2_t (show (1 : Nat) = 1 from rfl)]; decide)]
        exact congrArg (fun z => R_X8_endOf_5 (P.2.1 + 46) (mI f) z (mI (k + 1)) (hp P w ex n sl)) (mI_add (m + 1) 0)
      | 0 =>
        rw [if_pos (b2_0.mpr (show ¬ (0 : Nat) = 2 by decide)), if_pos (b2_0.mpr (show ¬ (0 : Nat) = 1 by decide))]
        exact congrArg (fun z => R_X8_endOf_5 (P.2.1 + 46) (mI f) z (mI (k + 1)) (hp P w ex n sl)) mI_m
      | q + 3 => omega
theorem m_endOf {f i : Nat} {l a b : List Nat} {x y : Int32} (hx : x = mI f) (hy : y = mI i) (hf : f < 72) (hL : hasL w f l) (hi : l.drop i = a ++ b) (ha : wff a) : F_X8_endOf (P.2.1 + 46) x y (hp P w ex n sl) = some (mI (i + a.length), hp P w ex n sl) := by
  subst hx hy
  obtain ⟨h1, h2, h3, h4⟩ := hL
  have hp9 := wff_pos ha
  have hlen : l.length - i = a.length + b.length := by
    have := congrArg List.length hi
    simpa using this
  rw [E_X8_endOf, z_46, ob, E_X8_endOf_0]
  have e := m_endOfL (P := P) (w := w) (ex := ex) (n := n) (sl := sl) hf (l.drop i) i 1 b (fun j hj => by
    simp only [List.length_drop] at hj
    rw [h4 (i + j) (by omega)]
    simp [List.getD_eq_getElem?_getD, List.getElem?_drop]) (by simp; omega) (fun s hs => h3 s (List.mem_of_mem_drop hs)) (by simp; omega) (by rw [hi]; have := rdf_app a b 1 0 ha; rw [rdf_0] at this; exact this)
  rw [show i + a.length = i + ((l.drop i).length - b.length) by simp only [List.length_drop]; omega]
  exact e
end MS
