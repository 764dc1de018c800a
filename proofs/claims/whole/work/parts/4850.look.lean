/-! what is looked at for a proof: parts of formulas, a descent over them -/
noncomputable def spl (r : List Nat) : List Nat × List Nat := @dite _ (∃ a b, wff a ∧ r = a ++ b) (Classical.propDecidable _) (fun h => (Classical.choose h, Classical.choose (Classical.choose_spec h))) (fun _ => ([], r))
theorem spl_app {a b : List Nat} (ha : wff a) : spl (a ++ b) = (a, b) := by
  have h : ∃ a' b', wff a' ∧ a ++ b = a' ++ b' := ⟨a, b, ha, rfl⟩
  unfold spl
  rw [dif_pos h]
  obtain ⟨h1, h2⟩ := Classical.choose_spec (Classical.choose_spec h)
  obtain ⟨e1, e2⟩ := wff_uni ha h1 h2
  exact Prod.ext e1.symm e2.symm
noncomputable def parts (D : Nat) (l : List Nat) : List (List Nat) := match l with
  | [] => []
  | s :: r => if ar s = 2 then [(spl r).1, (spl r).2] else if s = 12 then [r] else if ar s = 1 then (List.range D).map (fun t => r.map (ins (some t))) else []
theorem parts_2 {D s : Nat} {a b : List Nat} (hs : ar s = 2) (ha : wff a) : parts D (s :: (a ++ b)) = [a, b] := by
  unfold parts
  dsimp only
  rw [if_pos hs, spl_app ha]
theorem parts_n {D : Nat} {a : List Nat} : parts D (12 :: a) = [a] := rfl
theorem parts_q {D s : Nat} {a : List Nat} (hs : s = 16 ∨ s = 17) : parts D (s :: a) = (List.range D).map (fun t => a.map (ins (some t))) := by
  rcases hs with rfl | rfl <;> rfl
theorem parts_0 {D s : Nat} (hs : ar s = 0) : parts D [s] = [] := by
  unfold parts
  dsimp only
  rw [if_neg (by omega), if_neg (fun h => by rw [h] at hs; cases hs), if_neg (by omega)]
/-- a formula as the stores hold it -/
def okF (l : List Nat) : Prop := wff l ∧ l.length ≤ 40 ∧ ∀ s ∈ l, s < 18
theorem parts_ok {D : Nat} (hD : D ≤ 3) {l p : List Nat} (h : okF l) (hp : p ∈ parts D l) : okF p ∧ p.length < l.length := by
  obtain ⟨hw, hl, hs⟩ := h
  obtain ⟨s, r, rfl, hc⟩ := wff_cases hw
  rcases hc with ⟨h0, rfl⟩ | ⟨h1, hr⟩ | ⟨h2, a, b, rfl, ha, hb⟩
  · rw [parts_0 h0] at hp; cases hp
  · rcases ar1_cases h1 with q | q
    · subst q
      rw [parts_n] at hp
      simp at hp
      subst hp
      simp at hl ⊢
      exact ⟨hr, by omega, fun s h => hs s (List.mem_cons_of_mem _ h)⟩
    · rw [parts_q q] at hp
      obtain ⟨t, ht, rfl⟩ := List.mem_map.mp hp
      have ht := List.mem_range.mp ht
      simp at hl ⊢
      refine ⟨wff_ins (by omega) hr, by simp; omega, fun s h => ?_⟩
      obtain ⟨s', h', rfl⟩ := List.mem_map.mp h
      exact ins_lt (fun u hu => by cases hu; omega) (hs s' (List.mem_cons_of_mem _ h'))
  · rw [parts_2 h2 ha] at hp
    simp at hp hl ⊢
    rcases hp with rfl | rfl
    · have := wff_pos hb
      exact ⟨⟨ha, by omega, fun s h => hs s (List.mem_cons_of_mem _ (List.mem_append_left _ h))⟩, by omega⟩
    · have := wff_pos ha
      exact ⟨⟨hb, by omega, fun s h => hs s (List.mem_cons_of_mem _ (List.mem_append_right _ h))⟩, by omega⟩
/-- the descent -/
noncomputable def lk (D : Nat) : Nat → List (List Nat) → List Nat → List (List Nat)
  | 0, S, _ => S
  | n + 1, S, a => if 40 ≤ S.length ∨ a ∈ S then S else (parts D a).foldl (lk D n) (S ++ [a])
theorem foldl_congr {α β : Type} {f g : β → α → β} : ∀ (l : List α) (x : β), (∀ y, ∀ a ∈ l, f y a = g y a) → l.foldl f x = l.foldl g x := by
  intro l
  induction l with
  | nil => intro x _; rfl
  | cons a l ih =>
    intro x h
    rw [List.foldl_cons, List.foldl_cons, h x a List.mem_cons_self]
    exact ih _ (fun y b hb => h y b (List.mem_cons_of_mem _ hb))
section LKS
variable {D : Nat}
theorem lk_fuel (hD : D ≤ 3) : ∀ n m (S : List (List Nat)) (a : List Nat), okF a → a.length ≤ n → a.length ≤ m → lk D n S a = lk D m S a := by
  intro n
  induction n with
  | zero => intro m S a h h1; have := wff_pos h.1; omega
  | succ n ih =>
    intro m S a h h1 h2
    have := wff_pos h.1
    cases m with
    | zero => omega
    | succ m =>
      unfold lk
      by_cases g : 40 ≤ S.length ∨ a ∈ S
      · rw [if_pos g, if_pos g]
      · rw [if_neg g, if_neg g]
        refine foldl_congr _ _ (fun y p hp => ?_)
        obtain ⟨q1, q2⟩ := parts_ok hD h hp
        exact ih m y p q1 (by omega) (by omega)
/-- with fuel for all -/
noncomputable abbrev LK (D : Nat) : List (List Nat) → List Nat → List (List Nat) := lk D 40
theorem LK_eq (hD : D ≤ 3) {S : List (List Nat)} {a : List Nat} (h : okF a) : LK D S a = if 40 ≤ S.length ∨ a ∈ S then S else (parts D a).foldl (LK D) (S ++ [a]) := by
  show lk D 40 S a = _
  rw [lk_fuel hD 40 41 S a h h.2.1 (by have := h.2.1; omega)]
  rfl
theorem LK_full {S : List (List Nat)} {a : List Nat} (h : 40 ≤ S.length) : LK D S a = S := if_pos (Or.inl h)
theorem LK_fullF {S : List (List Nat)} : ∀ (T : List (List Nat)), 40 ≤ S.length → T.foldl (LK D) S = S := by
  intro T
  induction T with
  | nil => intro _; rfl
  | cons a T ih => intro h; rw [List.foldl_cons, LK_full h]; exact ih h
/-- what holds of all looked at -/
def okS (S : List (List Nat)) : Prop := S.length ≤ 40 ∧ (∀ a ∈ S, okF a) ∧ S.Nodup
theorem okS_add {S : List (List Nat)} {a : List Nat} (h : okS S) (hl : ¬ 40 ≤ S.length) (ha : okF a) (hn : a ∉ S) : okS (S ++ [a]) := by
  refine ⟨by simp; omega, fun b hb => ?_, ?_⟩
  · rcases List.mem_append.mp hb with q | q
    · exact h.2.1 b q
    · simp at q; rw [q]; exact ha
  · rw [List.nodup_append]
    refine ⟨h.2.2, by simp, fun x hx b hb => ?_⟩
    simp at hb
    intro e
    rw [hb] at e
    rw [e] at hx
    exact hn hx
theorem lk_okS (hD : D ≤ 3) : ∀ n (S : List (List Nat)) (a : List Nat), okS S → okF a → okS (lk D n S a) := by
  intro n
  induction n with
  | zero => intro S a h _; exact h
  | succ n ih =>
    intro S a h ha
    unfold lk
    by_cases g : 40 ≤ S.length ∨ a ∈ S
    · rw [if_pos g]; exact h
    · rw [if_neg g]
      have key : ∀ (T : List (List Nat)) S', okS S' → (∀ p ∈ T, okF p) → okS (T.foldl (lk D n) S') := by
        intro T
        induction T with
        | nil => intro S' h' _; exact h'
        | cons p T ih2 =>
          intro S' h' hT
          rw [List.foldl_cons]
          exact ih2 _ (ih S' p h' (hT p List.mem_cons_self)) (fun q hq => hT q (List.mem_cons_of_mem _ hq))
      exact key _ _ (okS_add h (fun q => g (Or.inl q)) ha (fun q => g (Or.inr q))) (fun p hp => (parts_ok hD ha hp).1)
theorem LK_okF (hD : D ≤ 3) : ∀ (T : List (List Nat)) (S : List (List Nat)), okS S → (∀ p ∈ T, okF p) → okS (T.foldl (LK D) S) := by
  intro T
  induction T with
  | nil => intro S h _; exact h
  | cons p T ih =>
    intro S h hT
    rw [List.foldl_cons]
    exact ih _ (lk_okS hD 40 S p h (hT p List.mem_cons_self)) (fun q hq => hT q (List.mem_cons_of_mem _ hq))
theorem lk_pre : ∀ n (S : List (List Nat)) (a : List Nat), ∃ X, lk D n S a = S ++ X := by
  intro n
  induction n with
  | zero => intro S a; exact ⟨[], (List.append_nil _).symm⟩
  | succ n ih =>
    intro S a
    unfold lk
    by_cases g : 40 ≤ S.length ∨ a ∈ S
    · rw [if_pos g]; exact ⟨[], (List.append_nil _).symm⟩
    · rw [if_neg g]
      have key : ∀ (T : List (List Nat)) S', ∃ X, T.foldl (lk D n) S' = S' ++ X := by
        intro T
        induction T with
        | nil => intro S'; exact ⟨[], (List.append_nil _).symm⟩
        | cons p T ih2 =>
          intro S'
          rw [List.foldl_cons]
          obtain ⟨X, hX⟩ := ih S' p
          obtain ⟨Y, hY⟩ := ih2 (lk D n S' p)
          exact ⟨X ++ Y, by rw [hY, hX, List.append_assoc]⟩
      obtain ⟨X, hX⟩ := key (parts D a) (S ++ [a])
      exact ⟨[a] ++ X, by rw [hX, List.append_assoc]⟩
end LKS
/-- where a formula stands in a list -/
def pos : List (List Nat) → List Nat → Option Nat
  | [], _ => none
  | b :: S, a => if b = a then some 0 else (pos S a).map (· + 1)
abbrev at0 (S : List (List Nat)) (i : Nat) : List Nat := S.getD i []
theorem pos_none {S : List (List Nat)} {a : List Nat} : pos S a = none ↔ a ∉ S := by
  induction S with
  | nil => simp [pos]
  | cons b S ih =>
    unfold pos
    by_cases h : b = a
    · rw [if_pos h]; simp [h]
    · rw [if_neg h, Option.map_eq_none_iff, ih]
      have h' : ¬ a = b := fun z => h z.symm
      simp [h']
theorem pos_some {S : List (List Nat)} {a : List Nat} {i : Nat} : pos S a = some i → i < S.length ∧ at0 S i = a ∧ ∀ j, j < i → at0 S j ≠ a := by
  induction S generalizing i with
  | nil => intro h; cases h
  | cons b S ih =>
    intro h
    unfold pos at h
    by_cases e : b = a
    · rw [if_pos e] at h; cases h
      exact ⟨by simp, e, fun j hj => absurd hj (by omega)⟩
    · rw [if_neg e] at h
      cases q : pos S a with
      | none => rw [q] at h; cases h
      | some k =>
        rw [q] at h; cases h
        obtain ⟨h1, h2, h3⟩ := ih q
        refine ⟨by simp; omega, by simpa using h2, fun j hj => ?_⟩
        cases j with
        | zero => simpa using e
        | succ j =>
          have hj' : j + 1 < k + 1 := hj
          simpa using h3 j (by omega)
theorem at0_get {S : List (List Nat)} {i : Nat} (h : i < S.length) : at0 S i = S[i] := by
  show S[i]?.getD [] = _
  rw [List.getElem?_eq_getElem h]
  rfl
theorem mem_at0 {S : List (List Nat)} {a : List Nat} : a ∈ S ↔ ∃ i, i < S.length ∧ at0 S i = a := by
  rw [List.mem_iff_getElem]
  constructor
  · rintro ⟨i, h, e⟩; exact ⟨i, h, by rw [at0_get h]; exact e⟩
  · rintro ⟨i, h, e⟩; exact ⟨i, h, by rw [at0_get h] at e; exact e⟩
theorem pos_of {S : List (List Nat)} {a : List Nat} {i : Nat} (h1 : i < S.length) (h2 : at0 S i = a) (h3 : ∀ j, j < i → at0 S j ≠ a) : pos S a = some i := by
  cases q : pos S a with
  | none => exact absurd (mem_at0.mpr ⟨i, h1, h2⟩) (pos_none.mp q)
  | some k =>
    obtain ⟨k1, k2, k3⟩ := pos_some q
    rcases Nat.lt_trichotomy i k with g | g | g
    · exact absurd h2 (k3 i g)
    · rw [g]
    · exact absurd k2 (h3 k g)
theorem nodup_at {S : List (List Nat)} (h : S.Nodup) {i j : Nat} (hi : i < S.length) (hj : j < S.length) (e : at0 S i = at0 S j) : i = j := by
  rw [at0_get hi, at0_get hj] at e
  have hp := List.pairwise_iff_getElem.mp h
  rcases Nat.lt_trichotomy i j with g | g | g
  · exact absurd e (hp i j hi hj g)
  · exact g
  · exact absurd e.symm (hp j i hj hi g)
theorem pos_at {S : List (List Nat)} (h : S.Nodup) {i : Nat} (hi : i < S.length) : pos S (at0 S i) = some i :=
  pos_of hi rfl (fun j hj e => by have := nodup_at h (by omega) hi e; omega)
theorem pos_iff {S : List (List Nat)} (h : S.Nodup) {a : List Nat} {i : Nat} : pos S a = some i ↔ i < S.length ∧ at0 S i = a :=
  ⟨fun q => ⟨(pos_some q).1, (pos_some q).2.1⟩, fun q => by rw [← q.2]; exact pos_at h q.1⟩
theorem at0_app {S X : List (List Nat)} {i : Nat} (h : i < S.length) : at0 (S ++ X) i = at0 S i := by
  rw [at0_get (by simp; omega), at0_get h, List.getElem_append_left h]
theorem at0_end {S : List (List Nat)} {a : List Nat} : at0 (S ++ [a]) S.length = a := by
  rw [at0_get (by simp), List.getElem_append_right (Nat.le_refl _)]
  simp
