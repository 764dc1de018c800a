/-! the class lists the steps of a place -/
def GZ (D : Nat) (S : List (List Nat)) (A : List Nat) (k : Nat) (z : zT) : Prop :=
  (∃ t, t < S.length ∧ at0 S k = 12 :: 12 :: at0 S t ∧ z = (8, t, some k, none, none)) ∨
  (opO S k = 13 ∧ ((∃ i j, lfO S k = some i ∧ rtO S k = some j ∧ z = (2, k, some i, some j, none)) ∨ (∃ t, lfO S k = some t ∧ z = (3, t, some k, none, none)) ∨ (∃ t, rtO S k = some t ∧ z = (4, t, some k, none, none)))) ∨
  (opO S k = 14 ∧ ((∃ i, lfO S k = some i ∧ z = (5, k, some i, none, none)) ∨ (∃ i, rtO S k = some i ∧ z = (6, k, some i, none, none)) ∨ (∃ t j m, t < S.length ∧ cFO S k t = some j ∧ cSO S k t = some m ∧ z = (9, t, some k, some j, some m)))) ∨
  (opO S k = 15 ∧ ∃ i j, lfO S k = some i ∧ rtO S k = some j ∧ (z = (7, j, some i, some k, none) ∨ ∃ m, slO A i = some m ∧ z = (10, k, some j, some m, none))) ∨
  (opO S k = 16 ∧ ((∃ t j, t < D ∧ plO S k t = some j ∧ z = (11, j, some k, none, none)) ∨ (∃ f : Nat → Nat, (∀ t, t < D → plO S k t = some (f t)) ∧ z = (12, k, some (f 0), (if 1 < D then some (f 1) else none), (if 2 < D then some (f 2) else none))))) ∨
  (opO S k = 17 ∧ ∃ i t, t < D ∧ plO S k t = some i ∧ z = (13, k, some i, none, none))
section GZS
variable {D k : Nat} {S : List (List Nat)} {A : List Nat} {z : zT}
theorem gz_13 (h : opO S k = 13) : GZ D S A k z ↔ ((∃ i j, lfO S k = some i ∧ rtO S k = some j ∧ z = (2, k, some i, some j, none)) ∨ (∃ t, lfO S k = some t ∧ z = (3, t, some k, none, none)) ∨ (∃ t, rtO S k = some t ∧ z = (4, t, some k, none, none))) := by
  constructor
  · rintro (⟨t, -, e, -⟩ | ⟨e, x⟩ | ⟨e, x⟩ | ⟨e, x⟩ | ⟨e, x⟩ | ⟨e, x⟩)
    · rw [op_c e] at h; exact absurd h (by decide)
    · exact x
    · rw [h] at e; exact absurd e (by decide)
    · rw [h] at e; exact absurd e (by decide)
    · rw [h] at e; exact absurd e (by decide)
    · rw [h] at e; exact absurd e (by decide)
  · intro x; exact Or.inr (Or.inl ⟨h, x⟩)
theorem gz_14 (h : opO S k = 14) : GZ D S A k z ↔ ((∃ i, lfO S k = some i ∧ z = (5, k, some i, none, none)) ∨ (∃ i, rtO S k = some i ∧ z = (6, k, some i, none, none)) ∨ (∃ t j m, t < S.length ∧ cFO S k t = some j ∧ cSO S k t = some m ∧ z = (9, t, some k, some j, some m))) := by
  constructor
  · rintro (⟨t, -, e, -⟩ | ⟨e, x⟩ | ⟨e, x⟩ | ⟨e, x⟩ | ⟨e, x⟩ | ⟨e, x⟩)
    · rw [op_c e] at h; exact absurd h (by decide)
    · rw [h] at e; exact absurd e (by decide)
    · exact x
    · rw [h] at e; exact absurd e (by decide)
    · rw [h] at e; exact absurd e (by decide)
    · rw [h] at e; exact absurd e (by decide)
  · intro x; exact Or.inr (Or.inr (Or.inl ⟨h, x⟩))
theorem gz_15 (h : opO S k = 15) : GZ D S A k z ↔ ∃ i j, lfO S k = some i ∧ rtO S k = some j ∧ (z = (7, j, some i, some k, none) ∨ ∃ m, slO A i = some m ∧ z = (10, k, some j, some m, none)) := by
  constructor
  · rintro (⟨t, -, e, -⟩ | ⟨e, x⟩ | ⟨e, x⟩ | ⟨e, x⟩ | ⟨e, x⟩ | ⟨e, x⟩)
    · rw [op_c e] at h; exact absurd h (by decide)
    · rw [h] at e; exact absurd e (by decide)
    · rw [h] at e; exact absurd e (by decide)
    · exact x
    · rw [h] at e; exact absurd e (by decide)
    · rw [h] at e; exact absurd e (by decide)
  · intro x; exact Or.inr (Or.inr (Or.inr (Or.inl ⟨h, x⟩)))
theorem gz_16 (h : opO S k = 16) : GZ D S A k z ↔ ((∃ t j, t < D ∧ plO S k t = some j ∧ z = (11, j, some k, none, none)) ∨ (∃ f : Nat → Nat, (∀ t, t < D → plO S k t = some (f t)) ∧ z = (12, k, some (f 0), (if 1 < D then some (f 1) else none), (if 2 < D then some (f 2) else none)))) := by
  constructor
  · rintro (⟨t, -, e, -⟩ | ⟨e, x⟩ | ⟨e, x⟩ | ⟨e, x⟩ | ⟨e, x⟩ | ⟨e, x⟩)
    · rw [op_c e] at h; exact absurd h (by decide)
    · rw [h] at e; exact absurd e (by decide)
    · rw [h] at e; exact absurd e (by decide)
    · rw [h] at e; exact absurd e (by decide)
    · exact x
    · rw [h] at e; exact absurd e (by decide)
  · intro x; exact Or.inr (Or.inr (Or.inr (Or.inr (Or.inl ⟨h, x⟩))))
theorem gz_17 (h : opO S k = 17) : GZ D S A k z ↔ ∃ i t, t < D ∧ plO S k t = some i ∧ z = (13, k, some i, none, none) := by
  constructor
  · rintro (⟨t, -, e, -⟩ | ⟨e, x⟩ | ⟨e, x⟩ | ⟨e, x⟩ | ⟨e, x⟩ | ⟨e, x⟩)
    · rw [op_c e] at h; exact absurd h (by decide)
    · rw [h] at e; exact absurd e (by decide)
    · rw [h] at e; exact absurd e (by decide)
    · rw [h] at e; exact absurd e (by decide)
    · rw [h] at e; exact absurd e (by decide)
    · exact x
  · intro x; exact Or.inr (Or.inr (Or.inr (Or.inr (Or.inr ⟨h, x⟩))))
theorem gz_n (h : opO S k ≤ 12) : GZ D S A k z ↔ ∃ t, t < S.length ∧ at0 S k = 12 :: 12 :: at0 S t ∧ z = (8, t, some k, none, none) := by
  constructor
  · rintro (x | ⟨e, x⟩ | ⟨e, x⟩ | ⟨e, x⟩ | ⟨e, x⟩ | ⟨e, x⟩)
    · exact x
    · omega
    · omega
    · omega
    · omega
    · omega
  · intro x; exact Or.inl x
end GZS
section CST
variable {P : sP} {S0 e : Nat} {w w' u u' v : sW} {ex : Nat → Option sC} {n sl D F L R U k : Nat} {y : sLn} {φ : Nat → List Nat} {nf ν : Nat → Nat} {nd : Nat → List Nat} {S : List (List Nat)} {A : List Nat} {Z : List zT}
def EV (u : sW) (U D : Nat) (nd : Nat → List Nat) (S : List (List Nat)) (ν : Nat → Nat) (A : List Nat) : Prop := NT u U D nd ∧ LN u U nd S ν ∧ ASc u A ∧ u.1 9 0 = mI D ∧ 1 ≤ D ∧ D ≤ 3
theorem EV.fr (h : EV u U D nd S ν A) (f : Fr [43] [3810] u u') : EV u' U D nd S ν A := by
  obtain ⟨h1, h2, h3, h4, h5⟩ := h
  refine ⟨h1.fr f (by decide) (by decide) (by decide) (by decide) (by decide) (by decide), h2.fr f (by decide) (by decide) (by decide), ?_, (f.i (k := 9) (j := 0) (by decide)).trans h4, h5⟩
  show AS _ _ _
  rw [f.i (k := 38) (j := 9) (by decide), f.a (k := 42) (by decide)]
  exact h3
/-- what listing the steps of a place must show -/
def LSz (P : sP) (ex : Nat → Option sC) (n sl : Nat) (u : sW) (Z : List zT) (D : Nat) (S : List (List Nat)) (A : List Nat) (k B : Nat) (r : Option (Unit × sS)) : Prop := ∃ u' X, r = some ((), hp P u' ex n sl) ∧ Fr [43] [3810] u u' ∧ SZ u' (Z ++ X) ∧ (∀ z, z ∈ X ↔ GZ D S A k z) ∧ X.length ≤ B
theorem mem_adZ {r : Nat} {o p1 p2 p3 : Option Nat} {z : zT} : z ∈ adZ r o p1 p2 p3 ↔ ∃ t, o = some t ∧ z = (r, t, p1, p2, p3) := by
  cases o with
  | none => simp [adZ]
  | some t => simp [adZ]
theorem adZ_len {r : Nat} {o p1 p2 p3 : Option Nat} : (adZ r o p1 p2 p3).length ≤ 1 := by
  cases o with
  | none => exact Nat.zero_le _
  | some t => exact Nat.le_refl _
theorem c_lsAnd (hZ : SZ u Z) (hl : Z.length + 4 ≤ 560) (hK : S.length ≤ 40) (hk : k < S.length) (ho : opO S k = 13) : LSz P ex n sl u Z D S A k 4 (F_X4_listAndSteps (P.2.1 + 38) (mI k) (thOf (lfO S k)) (thOf (rtO S k)) (hp P u ex n sl)) := by
  have l40 : ∀ i, lfO S k = some i → i < 40 := fun i h => by have := lf_lt h; omega
  have r40 : ∀ i, rtO S k = some i → i < 40 := fun i h => by have := rt_lt h; omega
  have tail : ∀ (v : sW) X1, SZ v (Z ++ X1) → X1.length ≤ 1 → Fr [43] [3810] u v → ∃ u', R_X4_listAndSteps_19 (P.2.1 + 38) (mI k) (thOf (lfO S k)) (thOf (rtO S k)) (hp P v ex n sl) = some ((), hp P u' ex n sl) ∧ Fr [43] [3810] u u' ∧ SZ u' (Z ++ (X1 ++ adZ 3 (lfO S k) (some k) none none ++ adZ 4 (rtO S k) (some k) none none)) := by
    intro v X1 h1 h2 h3
    obtain ⟨v1, a1, a2, a3⟩ := c_addStep (P := P) (ex := ex) (n := n) (sl := sl) (r := 3) (o := lfO S k) (p1 := some k) (p2 := none) (p3 := none) (x1 := 3) (x2 := thOf (lfO S k)) (x3 := mI k) (x4 := -1) (x5 := -1) rfl rfl rfl rfl rfl h1 (by simp; omega) l40
    have q1 := adZ_len (r := 3) (o := lfO S k) (p1 := some k) (p2 := none) (p3 := none)
    obtain ⟨v2, b1, b2', b3⟩ := c_addStep (P := P) (ex := ex) (n := n) (sl := sl) (r := 4) (o := rtO S k) (p1 := some k) (p2 := none) (p3 := none) (x1 := 4) (x2 := thOf (rtO S k)) (x3 := mI k) (x4 := -1) (x5 := -1) rfl rfl rfl rfl rfl a3 (by simp; omega) r40
    refine ⟨v2, ?_, h3.tr (a2.tr b2'), ?_⟩
    · rw [E_X4_listAndSteps_19, a1, ob]
      try dsimp only
      rw [b1, ob]
    · rw [List.append_assoc, List.append_assoc] at b3
      rw [List.append_assoc]
      exact b3
  have q1 := adZ_len (r := 3) (o := lfO S k) (p1 := some k) (p2 := none) (p3 := none)
  have q2 := adZ_len (r := 4) (o := rtO S k) (p1 := some k) (p2 := none) (p3 := none)
  have fin : ∀ X1 : List zT, X1.length ≤ 1 → (∀ z, z ∈ X1 ↔ ∃ i j, lfO S k = some i ∧ rtO S k = some j ∧ z = (2, k, some i, some j, none)) → (∀ z, z ∈ (X1 ++ adZ 3 (lfO S k) (some k) none none ++ adZ 4 (rtO S k) (some k) none none) ↔ GZ D S A k z) := by
    intro X1 _ hX z
    rw [gz_13 ho, List.mem_append, List.mem_append, hX, mem_adZ, mem_adZ, or_assoc]
  rw [E_X4_listAndSteps, z_38, ob, E_X4_listAndSteps_0]
  cases el : lfO S k with
  | none =>
    obtain ⟨u', a1, a2, a3⟩ := tail u [] (by rw [List.append_nil]; exact hZ) (by simp) Fr.rf
    rw [el] at a1
    rw [if_pos (show thOf none = -1 from rfl)]
    exact ⟨u', _, a1, a2, a3, fin [] (by simp) (fun z => by simp [el]), by simp; omega⟩
  | some i =>
    have hi := l40 i el
    rw [if_neg (show ¬ thOf (some i) = -1 from mI_m1 (by omega))]
    cases er : rtO S k with
    | none =>
      obtain ⟨u', a1, a2, a3⟩ := tail u [] (by rw [List.append_nil]; exact hZ) (by simp) Fr.rf
      rw [el, er] at a1
      rw [if_pos (show thOf none = -1 from rfl)]
      exact ⟨u', _, a1, a2, a3, fin [] (by simp) (fun z => by simp [el, er]), by simp; omega⟩
    | some j =>
      have hj := r40 j er
      obtain ⟨v1, b1, b2', b3⟩ := c_addStep (P := P) (ex := ex) (n := n) (sl := sl) (r := 2) (o := some k) (p1 := some i) (p2 := some j) (p3 := none) (x1 := 2) (x2 := mI k) (x3 := thOf (some i)) (x4 := thOf (some j)) (x5 := -1) rfl rfl rfl rfl rfl hZ (by omega) (fun m h => by cases h; omega)
      obtain ⟨u', a1, a2, a3⟩ := tail v1 (adZ 2 (some k) (some i) (some j) none) b3 adZ_len b2'
      rw [el, er] at a1
      rw [if_neg (show ¬ thOf (some j) = -1 from mI_m1 (by omega)), b1, ob]
      try dsimp only
      have q3 := adZ_len (r := 2) (o := some k) (p1 := some i) (p2 := some j) (p3 := none)
      exact ⟨u', _, a1, a2, a3, fin _ adZ_len (fun z => by rw [mem_adZ]; simp [el, er]), by simp; omega⟩
theorem c_lsIf (hE : EV u U D nd S ν A) (hZ : SZ u Z) (hl : Z.length + 4 ≤ 560) (hk : k < S.length) (ho : opO S k = 15) : LSz P ex n sl u Z D S A k 4 (F_X4_listIfSteps (P.2.1 + 38) (mI k) (thOf (lfO S k)) (thOf (rtO S k)) (hp P u ex n sl)) := by
  have hK := hE.2.1.2.1.1
  rw [E_X4_listIfSteps, z_38, ob, E_X4_listIfSteps_0]
  cases el : lfO S k with
  | none =>
    rw [if_pos (show thOf none = -1 from rfl)]
    exact ⟨u, [], rfl, Fr.rf, by rw [List.append_nil]; exact hZ, fun z => by rw [gz_15 ho]; simp [el], by simp⟩
  | some i =>
    have hi := lf_lt el
    rw [if_neg (show ¬ thOf (some i) = -1 from mI_m1 (by omega))]
    cases er : rtO S k with
    | none =>
      rw [if_pos (show thOf none = -1 from rfl)]
      exact ⟨u, [], rfl, Fr.rf, by rw [List.append_nil]; exact hZ, fun z => by rw [gz_15 ho]; simp [er], by simp⟩
    | some j =>
      have hj := rt_lt er
      obtain ⟨v1, b1, b2', b3⟩ := c_addStep (P := P) (ex := ex) (n := n) (sl := sl) (r := 7) (o := some j) (p1 := some i) (p2 := some k) (p3 := none) (x1 := 7) (x2 := thOf (some j)) (x3 := thOf (some i)) (x4 := mI k) (x5 := -1) rfl rfl rfl rfl rfl hZ (by omega) (fun m h => by cases h; omega)
      have hE1 := hE.fr b2'
      rw [if_neg (show ¬ thOf (some j) = -1 from mI_m1 (by omega)), b1, ob]
      try dsimp only
      rw [c_slotOf (i := i) (x := thOf (some i)) rfl hE1.2.2.1 (by omega), ob]
      try dsimp only
      cases es : slO A i with
      | none =>
        rw [if_pos (show thOf none = -1 from rfl)]
        refine ⟨v1, _, rfl, b2', b3, fun z => ?_, Nat.le_trans adZ_len (by decide)⟩
        rw [gz_15 ho, mem_adZ]
        constructor
        · rintro ⟨t, h1, h2⟩; cases h1; exact ⟨i, j, el, er, Or.inl h2⟩
        · rintro ⟨i', j', h1, h2, h3 | ⟨m, h3, -⟩⟩
          · rw [el] at h1; rw [er] at h2; cases h1; cases h2; exact ⟨j, rfl, h3⟩
          · rw [el] at h1; cases h1; rw [es] at h3; cases h3
      | some m =>
        have hm : m < 3 := Nat.lt_of_lt_of_le (slO_some es).1 hE.2.2.1.2.1
        have hl1 : (adZ 7 (some j) (some i) (some k) none).length = 1 := rfl
        obtain ⟨v2, c1, c2, c3⟩ := c_addStep (P := P) (ex := ex) (n := n) (sl := sl) (r := 10) (o := some k) (p1 := some j) (p2 := some m) (p3 := none) (x1 := 10) (x2 := mI k) (x3 := thOf (some j)) (x4 := thOf (some m)) (x5 := -1) rfl rfl rfl rfl rfl b3 (by rw [List.length_append, hl1]; omega) (fun m h => by cases h; omega)
        rw [if_neg (show ¬ thOf (some m) = -1 from mI_m1 (by omega)), c1, ob]
        refine ⟨v2, adZ 7 (some j) (some i) (some k) none ++ adZ 10 (some k) (some j) (some m) none, rfl, b2'.tr c2, by rw [← List.append_assoc]; exact c3, fun z => ?_, by simp [adZ]⟩
        rw [gz_15 ho, List.mem_append, mem_adZ, mem_adZ]
        constructor
        · rintro (⟨t, h1, h2⟩ | ⟨t, h1, h2⟩)
          · cases h1; exact ⟨i, j, el, er, Or.inl h2⟩
          · cases h1; exact ⟨i, j, el, er, Or.inr ⟨m, es, h2⟩⟩
        · rintro ⟨i', j', h1, h2, h3 | ⟨m', h3, h4⟩⟩
          · rw [el] at h1; rw [er] at h2; cases h1; cases h2; exact Or.inl ⟨j, rfl, h3⟩
          · rw [el] at h1; rw [er] at h2; cases h1; cases h2; rw [es] at h3; cases h3; exact Or.inr ⟨k, rfl, h4⟩
end CST
