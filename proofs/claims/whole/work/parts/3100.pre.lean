/-! formulas as the model keeps them: lists of signs, the joining sign ahead of its parts -/
/-- how many parts a sign asks: 12 not, 13 and, 14 or, 15 if, 16 all, 17 some; the others are atoms -/
def ar (s : Nat) : Nat := if s = 13 ∨ s = 14 ∨ s = 15 then 2 else if s = 12 ∨ s = 16 ∨ s = 17 then 1 else 0
/-- reads n formulas off a list: what is left -/
def rdf : List Nat → Nat → Option (List Nat)
  | [], n => if n = 0 then some [] else none
  | s :: l, n => if n = 0 then some (s :: l) else rdf l (n - 1 + ar s)
abbrev wff (l : List Nat) : Prop := rdf l 1 = some []
theorem rdf_0 (l : List Nat) : rdf l 0 = some l := by cases l <;> rfl
theorem rdf_s (s : Nat) (l : List Nat) (n : Nat) : rdf (s :: l) (n + 1) = rdf l (n + ar s) := by
  show (if n + 1 = 0 then _ else _) = _
  rw [if_neg (by omega), Nat.add_sub_cancel]
theorem rdf_app : ∀ (a b : List Nat) (n k : Nat), rdf a n = some [] → rdf (a ++ b) (n + k) = rdf b k := by
  intro a b
  induction a with
  | nil =>
    intro n k h
    cases n with
    | zero => rw [Nat.zero_add]; rfl
    | succ n => cases h
  | cons s a ih =>
    intro n k h
    cases n with
    | zero => cases h
    | succ n =>
      rw [rdf_s] at h
      rw [List.cons_append, show n + 1 + k = n + k + 1 by omega, rdf_s, show n + k + ar s = n + ar s + k by omega]
      exact ih _ _ h
/-- unique reading -/
theorem wff_uni {a b a' b' : List Nat} (ha : wff a) (ha' : wff a') (h : a ++ b = a' ++ b') : a = a' ∧ b = b' := by
  have h1 := rdf_app a b 1 0 ha
  have h2 := rdf_app a' b' 1 0 ha'
  rw [h] at h1
  rw [h1, rdf_0, rdf_0] at h2
  have h3 : b = b' := Option.some.inj h2
  subst h3
  exact ⟨List.append_cancel_right h, rfl⟩
theorem rdf_split : ∀ (m : Nat) (l : List Nat) (n : Nat) (r : List Nat), l.length ≤ m → rdf l (n + 1) = some r → ∃ a b, l = a ++ b ∧ wff a ∧ rdf b n = some r := by
  intro m
  induction m with
  | zero =>
    intro l n r hm h
    cases l with
    | nil => cases h
    | cons s l => simp at hm
  | succ m ih =>
    intro l n r hm h
    cases l with
    | nil => cases h
    | cons s l =>
      rw [rdf_s] at h
      have hm' : l.length ≤ m := by simp at hm; omega
      have key : ∀ (k : Nat) (l : List Nat), l.length ≤ m → rdf l (n + k) = some r → ∃ a b, l = a ++ b ∧ rdf a k = some [] ∧ rdf b n = some r := by
        intro k
        induction k with
        | zero => intro l _ h; exact ⟨[], l, rfl, rfl, h⟩
        | succ k ihk =>
          intro l hl h
          obtain ⟨a, b, e, h1, h2⟩ := ih l (n + k) r hl h
          have hb : b.length ≤ m := by
            have := congrArg List.length e
            simp at this
            omega
          obtain ⟨a', b', e', h3, h4⟩ := ihk b hb h2
          refine ⟨a ++ a', b', by rw [e, e', List.append_assoc], ?_, h4⟩
          rw [show k + 1 = 1 + k by omega, rdf_app a a' 1 k h1]
          exact h3
      obtain ⟨a, b, e, h1, h2⟩ := key (ar s) l hm' h
      refine ⟨s :: a, b, by rw [e]; rfl, ?_, h2⟩
      show rdf (s :: a) (0 + 1) = some []
      rw [rdf_s, Nat.zero_add]
      exact h1
theorem ar_le (s : Nat) : ar s ≤ 2 := by
  unfold ar
  split
  · omega
  · split <;> omega
/-- what a formula is -/
theorem wff_cases {l : List Nat} (h : wff l) : ∃ s r, l = s :: r ∧ ((ar s = 0 ∧ r = []) ∨ (ar s = 1 ∧ wff r) ∨ (ar s = 2 ∧ ∃ a b, r = a ++ b ∧ wff a ∧ wff b)) := by
  cases l with
  | nil => cases h
  | cons s r =>
    refine ⟨s, r, rfl, ?_⟩
    have h : rdf (s :: r) (0 + 1) = some [] := h
    rw [rdf_s, Nat.zero_add] at h
    have := ar_le s
    match hs : ar s with
    | 0 =>
      rw [hs, rdf_0] at h
      exact Or.inl ⟨rfl, Option.some.inj h⟩
    | 1 =>
      rw [hs] at h
      exact Or.inr (Or.inl ⟨rfl, h⟩)
    | 2 =>
      rw [hs] at h
      obtain ⟨a, b, e, h1, h2⟩ := rdf_split r.length r 1 [] (Nat.le_refl _) h
      exact Or.inr (Or.inr ⟨rfl, a, b, e, h1, h2⟩)
    | k + 3 => omega
theorem wff_atom {s : Nat} (h : ar s = 0) : wff [s] := by
  show rdf [s] (0 + 1) = some []
  rw [rdf_s, h]
  rfl
theorem wff_one {s : Nat} {a : List Nat} (h : ar s = 1) (ha : wff a) : wff (s :: a) := by
  show rdf (s :: a) (0 + 1) = some []
  rw [rdf_s, h]
  exact ha
theorem wff_two {s : Nat} {a b : List Nat} (h : ar s = 2) (ha : wff a) (hb : wff b) : wff (s :: (a ++ b)) := by
  show rdf (s :: (a ++ b)) (0 + 1) = some []
  rw [rdf_s, h]
  show rdf (a ++ b) (1 + 1) = some []
  rw [rdf_app a b 1 1 ha]
  exact hb
theorem wff_pos {l : List Nat} (h : wff l) : 0 < l.length := by
  cases l with
  | nil => cases h
  | cons s r => simp
/-- induction over formulas -/
theorem wff_ind {M : List Nat → Prop} (h0 : ∀ s, ar s = 0 → M [s]) (h1 : ∀ s a, ar s = 1 → wff a → M a → M (s :: a)) (h2 : ∀ s a b, ar s = 2 → wff a → wff b → M a → M b → M (s :: (a ++ b))) : ∀ l, wff l → M l := by
  have key : ∀ (m : Nat) (l : List Nat), l.length ≤ m → wff l → M l := by
    intro m
    induction m with
    | zero =>
      intro l hm h
      have := wff_pos h
      omega
    | succ m ih =>
      intro l hm h
      obtain ⟨s, r, rfl, hc⟩ := wff_cases h
      have hr : r.length ≤ m := by simp at hm; omega
      rcases hc with ⟨hs, rfl⟩ | ⟨hs, hw⟩ | ⟨hs, a, b, rfl, ha, hb⟩
      · exact h0 s hs
      · exact h1 s r hs hw (ih r hr hw)
      · simp at hr
        exact h2 s a b hs ha hb (ih a (by omega) ha) (ih b (by omega) hb)
  intro l h
  exact key l.length l (Nat.le_refl _) h
/-- where a formula that begins at place i of a list ends: need counts down -/
theorem rdf_end {l : List Nat} {n : Nat} {r : List Nat} (h : rdf l n = some r) : ∃ a, l = a ++ r := by
  induction l generalizing n with
  | nil =>
    cases n with
    | zero => cases h; exact ⟨[], rfl⟩
    | succ n => cases h
  | cons s l ih =>
    cases n with
    | zero => cases h; exact ⟨[], rfl⟩
    | succ n =>
      rw [rdf_s] at h
      obtain ⟨a, e⟩ := ih h
      exact ⟨s :: a, by rw [e]; rfl⟩
