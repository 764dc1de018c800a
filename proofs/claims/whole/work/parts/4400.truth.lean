/-! truth: what a list of signs says in a world, for each thing in place of x -/
def vat (D wd s t : Nat) : Prop := if s < 4 then wd.testBit s = true else if s = 4 then wd.testBit (4 + t) = true else if s = 5 then wd.testBit (4 + D + t) = true else if s < 9 then wd.testBit (4 + (s - 6)) = true else wd.testBit (4 + D + (s - 9)) = true
def op1 (D s : Nat) (p : Nat → Prop) : Nat → Prop := if s = 12 then fun t => ¬ p t else if s = 17 then fun _ => ∃ t, t < D ∧ p t else fun _ => ∀ t, t < D → p t
def op2 (s : Nat) (p q : Nat → Prop) : Nat → Prop := if s = 13 then fun t => p t ∧ q t else if s = 14 then fun t => p t ∨ q t else fun t => ¬ p t ∨ q t
def push2 (s : Nat) (l : List (Nat → Prop)) : List (Nat → Prop) := match l with
  | a :: b :: r => op2 s a b :: r
  | r => r
def push1 (D s : Nat) (l : List (Nat → Prop)) : List (Nat → Prop) := match l with
  | a :: r => op1 D s a :: r
  | r => r
def stk (D wd : Nat) : List Nat → List (Nat → Prop)
  | [] => []
  | s :: l => if ar s = 2 then push2 s (stk D wd l) else if ar s = 1 then push1 D s (stk D wd l) else vat D wd s :: stk D wd l
def val (D wd : Nat) (l : List Nat) : Nat → Prop := (stk D wd l).headD (fun _ => False)
section TV
variable {D wd : Nat}
theorem stk_0 {s : Nat} {l : List Nat} (h : ar s = 0) : stk D wd (s :: l) = vat D wd s :: stk D wd l := by
  show (if ar s = 2 then _ else _) = _
  rw [if_neg (by omega), if_neg (by omega)]
theorem stk_1 {s : Nat} {l : List Nat} (h : ar s = 1) : stk D wd (s :: l) = push1 D s (stk D wd l) := by
  show (if ar s = 2 then _ else _) = _
  rw [if_neg (by omega), if_pos h]
theorem stk_2 {s : Nat} {l : List Nat} (h : ar s = 2) : stk D wd (s :: l) = push2 s (stk D wd l) := by
  show (if ar s = 2 then _ else _) = _
  rw [if_pos h]
theorem stk_app : ∀ a, wff a → ∀ r, stk D wd (a ++ r) = val D wd a :: stk D wd r := by
  refine wff_ind ?_ ?_ ?_
  · intro s hs r
    unfold val
    rw [stk_0 hs]
    exact stk_0 hs
  · intro s a hs ha ih r
    have e0 := ih []
    rw [List.append_nil] at e0
    unfold val
    rw [List.cons_append, stk_1 hs, ih r, stk_1 hs, e0]
    rfl
  · intro s a b hs ha hb iha ihb r
    have e0 := iha (b ++ [])
    rw [ihb [], List.append_nil] at e0
    unfold val
    rw [List.cons_append, stk_2 hs, List.append_assoc, iha (b ++ r), ihb r, stk_2 hs, e0]
    rfl
theorem val_0 {s : Nat} (h : ar s = 0) : val D wd [s] = vat D wd s := by unfold val; rw [stk_0 h]; rfl
theorem val_1 {s : Nat} {a : List Nat} (h : ar s = 1) (ha : wff a) : val D wd (s :: a) = op1 D s (val D wd a) := by
  have e0 := stk_app (D := D) (wd := wd) a ha []
  rw [List.append_nil] at e0
  conv => lhs; unfold val
  rw [stk_1 h, e0]
  rfl
theorem val_2 {s : Nat} {a b : List Nat} (h : ar s = 2) (ha : wff a) (hb : wff b) : val D wd (s :: (a ++ b)) = op2 s (val D wd a) (val D wd b) := by
  have e0 := stk_app (D := D) (wd := wd) b hb []
  rw [List.append_nil] at e0
  conv => lhs; unfold val
  rw [stk_2 h, stk_app a ha, e0]
  rfl
theorem stk_len : ∀ (t : List Nat) (n : Nat), rdf t n = some [] → (stk D wd t).length = n := by
  intro t
  induction t with
  | nil =>
    intro n h
    cases n with
    | zero => rfl
    | succ n => cases h
  | cons s t ih =>
    intro n h
    cases n with
    | zero => cases h
    | succ m =>
      rw [rdf_s] at h
      have e := ih _ h
      have := ar_le s
      match hs : ar s with
      | 0 => rw [stk_0 hs, List.length_cons, e, hs, Nat.add_zero]
      | 1 =>
        rw [stk_1 hs]
        rw [hs] at e
        match hl : stk D wd t with
        | [] => rw [hl] at e; simp at e
        | a :: r => rw [hl] at e; exact e
      | 2 =>
        rw [stk_2 hs]
        rw [hs] at e
        match hl : stk D wd t with
        | [] => rw [hl] at e; simp at e
        | [a] => rw [hl] at e; simp at e
        | a :: b :: r => rw [hl] at e; simp only [List.length_cons] at e; show (r.length + 1) = m + 1; omega
      | q + 3 => omega
theorem rdf_drop {l : List Nat} (h : wff l) : ∀ k, k ≤ l.length → ∃ m, rdf (l.drop k) m = some [] := by
  intro k
  induction k with
  | zero => intro _; exact ⟨1, h⟩
  | succ k ih =>
    intro hk
    obtain ⟨m, hm⟩ := ih (by omega)
    rw [List.drop_eq_getElem_cons (show k < l.length by omega)] at hm
    cases m with
    | zero => cases hm
    | succ m => rw [rdf_s] at hm; exact ⟨_, hm⟩
theorem ar_ins {u : Nat} (hu : u < 3) (s : Nat) : ar (ins (some u) s) = ar s := by
  show ar (if s = 4 then 6 + u else if s = 5 then 9 + u else s) = ar s
  by_cases g4 : s = 4
  · rw [if_pos g4, g4]; unfold ar; rw [if_neg (by omega), if_neg (by omega)]; rfl
  · rw [if_neg g4]
    by_cases g5 : s = 5
    · rw [if_pos g5, g5]; unfold ar; rw [if_neg (by omega), if_neg (by omega)]; rfl
    · rw [if_neg g5]
theorem rdf_map {f : Nat → Nat} (hf : ∀ s, ar (f s) = ar s) : ∀ (l : List Nat) (n : Nat), rdf (l.map f) n = (rdf l n).map (List.map f) := by
  intro l
  induction l with
  | nil =>
    intro n
    cases n with
    | zero => rfl
    | succ n => rfl
  | cons s l ih =>
    intro n
    cases n with
    | zero => rfl
    | succ n => rw [List.map_cons, rdf_s, rdf_s, hf, ih]
theorem wff_ins {u : Nat} (hu : u < 3) {a : List Nat} (h : wff a) : wff (a.map (ins (some u))) := by
  show rdf _ 1 = some []
  rw [rdf_map (ar_ins hu), show rdf a 1 = some [] from h]
  rfl
theorem ar1_cases {s : Nat} (h : ar s = 1) : s = 12 ∨ s = 16 ∨ s = 17 := by
  unfold ar at h
  split at h
  · omega
  · split at h
    · assumption
    · omega
theorem ar2_cases {s : Nat} (h : ar s = 2) : s = 13 ∨ s = 14 ∨ s = 15 := by
  unfold ar at h
  split at h
  · assumption
  · split at h <;> omega
theorem ar0_not {s : Nat} (h : ar s = 0) : s ≠ 12 ∧ s ≠ 13 ∧ s ≠ 14 ∧ s ≠ 15 ∧ s ≠ 16 ∧ s ≠ 17 := by
  refine ⟨?_, ?_, ?_, ?_, ?_, ?_⟩ <;> intro e <;> subst e <;> exact absurd h (by decide)
theorem vat_c {s : Nat} (h4 : s ≠ 4) (h5 : s ≠ 5) (t t' : Nat) : vat D wd s t ↔ vat D wd s t' := by
  unfold vat
  by_cases g : s < 4
  · rw [if_pos g, if_pos g]
  · rw [if_neg g, if_neg h4, if_neg h5, if_neg g, if_neg h4, if_neg h5]
/-- x in place of which a thing stands, in a list without all and some -/
theorem val_ins {u : Nat} (hu : u < 3) : ∀ a, wff a → (∀ s ∈ a, s ≠ 16 ∧ s ≠ 17) → ∀ t, val D wd (a.map (ins (some u))) t ↔ val D wd a u := by
  refine wff_ind ?_ ?_ ?_
  · intro s hs hq t
    show val D wd [ins (some u) s] t ↔ _
    rw [val_0 (by rw [ar_ins hu]; exact hs), val_0 hs]
    show vat D wd (if s = 4 then 6 + u else if s = 5 then 9 + u else s) t ↔ _
    by_cases g4 : s = 4
    · subst g4
      rw [if_pos rfl]
      unfold vat
      rw [if_neg (by omega), if_neg (by omega), if_neg (by omega), if_pos (by omega), if_neg (by omega), if_pos rfl, Nat.add_sub_cancel_left]
    · rw [if_neg g4]
      by_cases g5 : s = 5
      · subst g5
        rw [if_pos rfl]
        unfold vat
        rw [if_neg (by omega), if_neg (by omega), if_neg (by omega), if_neg (by omega), if_neg (by omega), if_neg (by omega), if_pos rfl, Nat.add_sub_cancel_left]
      · rw [if_neg g5]
        exact vat_c g4 g5 t u
  · intro s a hs ha ih hq t
    have e12 : s = 12 := by
      have := hq s List.mem_cons_self
      rcases ar1_cases hs with h | h | h
      · exact h
      · exact absurd h this.1
      · exact absurd h this.2
    subst e12
    show val D wd (12 :: a.map (ins (some u))) t ↔ _
    rw [val_1 rfl (wff_ins hu ha), val_1 rfl ha]
    exact not_congr (ih (fun s hs => hq s (List.mem_cons_of_mem _ hs)) t)
  · intro s a b hs ha hb iha ihb hq t
    have es : ins (some u) s = s := by
      show (if s = 4 then 6 + u else if s = 5 then 9 + u else s) = s
      rcases ar2_cases hs with h | h | h <;> subst h <;> rfl
    have iha := iha (fun s hs => hq s (List.mem_cons_of_mem _ (List.mem_append_left _ hs))) t
    have ihb := ihb (fun s hs => hq s (List.mem_cons_of_mem _ (List.mem_append_right _ hs))) t
    rw [List.map_cons, List.map_append, es, val_2 hs (wff_ins hu ha) (wff_ins hu hb), val_2 hs ha hb]
    unfold op2
    by_cases g : s = 13
    · rw [if_pos g, if_pos g]; exact and_congr iha ihb
    · rw [if_neg g, if_neg g]
      by_cases g1 : s = 14
      · rw [if_pos g1, if_pos g1]; exact or_congr iha ihb
      · rw [if_neg g1, if_neg g1]; exact or_congr (not_congr iha) ihb
/-- without x, all and some -/
def plain (l : List Nat) : Prop := ∀ s ∈ l, s ≠ 4 ∧ s ≠ 5 ∧ s ≠ 16 ∧ s ≠ 17
/-- x stands within all or some alone, and these not within each other -/
def cloF : Nat → List Nat → Prop
  | 0, _ => False
  | d + 1, l => (∃ s, ar s = 0 ∧ s ≠ 4 ∧ s ≠ 5 ∧ l = [s]) ∨ (∃ a, wff a ∧ l = 12 :: a ∧ cloF d a) ∨ (∃ s a b, ar s = 2 ∧ wff a ∧ wff b ∧ l = s :: (a ++ b) ∧ cloF d a ∧ cloF d b) ∨ (∃ s a, (s = 16 ∨ s = 17) ∧ wff a ∧ l = s :: a ∧ ∀ c ∈ a, c ≠ 16 ∧ c ≠ 17)
def clo (l : List Nat) : Prop := ∃ d, cloF d l
theorem cloF_mono : ∀ d e l, d ≤ e → cloF d l → cloF e l := by
  intro d
  induction d with
  | zero => intro e l _ h; cases h
  | succ d ih =>
    intro e l he h
    cases e with
    | zero => omega
    | succ e =>
      rcases h with h | ⟨a, h1, h2, h3⟩ | ⟨s, a, b, h1, h2, h3, h4, h5, h6⟩ | h
      · exact Or.inl h
      · exact Or.inr (Or.inl ⟨a, h1, h2, ih e a (by omega) h3⟩)
      · exact Or.inr (Or.inr (Or.inl ⟨s, a, b, h1, h2, h3, h4, ih e a (by omega) h5, ih e b (by omega) h6⟩))
      · exact Or.inr (Or.inr (Or.inr h))
theorem val_cloF : ∀ d l, cloF d l → ∀ t t', val D wd l t ↔ val D wd l t' := by
  intro d
  induction d with
  | zero => intro l h; cases h
  | succ d ih =>
    intro l h t t'
    rcases h with ⟨s, h1, h2, h3, rfl⟩ | ⟨a, h1, rfl, h3⟩ | ⟨s, a, b, h1, h2, h3, rfl, h5, h6⟩ | ⟨s, a, h1, h2, rfl, -⟩
    · rw [val_0 h1]; exact vat_c h2 h3 t t'
    · rw [val_1 rfl h1]; exact not_congr (ih a h3 t t')
    · rw [val_2 h1 h2 h3]
      have e1 := ih a h5 t t'
      have e2 := ih b h6 t t'
      unfold op2
      by_cases g : s = 13
      · rw [if_pos g]; exact and_congr e1 e2
      · rw [if_neg g]
        by_cases g1 : s = 14
        · rw [if_pos g1]; exact or_congr e1 e2
        · rw [if_neg g1]; exact or_congr (not_congr e1) e2
    · rw [val_1 (by rcases h1 with rfl | rfl <;> rfl) h2]
      unfold op1
      rcases h1 with rfl | rfl
      · exact Iff.rfl
      · exact Iff.rfl
theorem clo_plain : ∀ a, wff a → plain a → clo a := by
  refine wff_ind ?_ ?_ ?_
  · intro s hs h
    have := h s List.mem_cons_self
    exact ⟨1, Or.inl ⟨s, hs, this.1, this.2.1, rfl⟩⟩
  · intro s a hs ha ih h
    have hs9 := h s List.mem_cons_self
    have e12 : s = 12 := by
      rcases ar1_cases hs with z | z | z
      · exact z
      · exact absurd z hs9.2.2.1
      · exact absurd z hs9.2.2.2
    subst e12
    obtain ⟨d, hd⟩ := ih (fun s hs => h s (List.mem_cons_of_mem _ hs))
    exact ⟨d + 1, Or.inr (Or.inl ⟨a, ha, rfl, hd⟩)⟩
  · intro s a b hs ha hb iha ihb h
    obtain ⟨d, hd⟩ := iha (fun s hs => h s (List.mem_cons_of_mem _ (List.mem_append_left _ hs)))
    obtain ⟨e, he⟩ := ihb (fun s hs => h s (List.mem_cons_of_mem _ (List.mem_append_right _ hs)))
    exact ⟨d + e + 1, Or.inr (Or.inr (Or.inl ⟨s, a, b, hs, ha, hb, rfl, cloF_mono d _ a (by omega) hd, cloF_mono e _ b (by omega) he⟩))⟩
end TV
/-- true in a world -/
def TR (D wd : Nat) (l : List Nat) : Prop := ∃ t, t < D ∧ val D wd l t
theorem TR_0 {D wd : Nat} {l : List Nat} (hD : 1 ≤ D) (h : clo l) : TR D wd l ↔ val D wd l 0 := by
  obtain ⟨d, hd⟩ := h
  exact ⟨fun ⟨t, _, z⟩ => (val_cloF d l hd t 0).mp z, fun z => ⟨0, by omega, z⟩⟩
