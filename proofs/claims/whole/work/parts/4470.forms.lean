/-! the table of nodes: what a node is, where it hangs -/
def SH (U : Nat) (nd : Nat → List Nat) (k : Nat) (a b : Int32) (l : List Nat) : Prop :=
  (k = 0 ∧ ∃ a' t, a = mI a' ∧ b = mI t ∧ a' < 6 ∧ t ≤ 3 ∧ (a' < 4 → t = 0) ∧ l = [asg a' t]) ∨
  (k = 1 ∧ ∃ a', a' < U ∧ a = mI a' ∧ b = -1 ∧ l = 12 :: nd a') ∨
  ((k = 2 ∨ k = 3 ∨ k = 4) ∧ ∃ a' b', a' < U ∧ b' < U ∧ a = mI a' ∧ b = mI b' ∧ l = (11 + k) :: (nd a' ++ nd b')) ∨
  ((k = 5 ∨ k = 6) ∧ ∃ a', a' < U ∧ a = mI a' ∧ b = -1 ∧ l = (11 + k) :: nd a')
def PL (w : sW) (U D : Nat) (nd : Nat → List Nat) (i : Nat) : Prop := (w.2.2.1 2 i = mI 5 ∨ w.2.2.1 2 i = mI 6) → ∀ a, a < i → w.2.2.1 3 i = mI a → ∀ t, t < 3 → (t < D → ∃ q, q < U ∧ w.2.2.1 7 (i * 3 + t) = mI q ∧ nd q = (nd a).map (ins (some t))) ∧ (¬ t < D → w.2.2.1 7 (i * 3 + t) = -1)
def FT (w : sW) (U : Nat) (Dz : Nat → Nat) (nd : Nat → List Nat) : Prop := w.1 1 0 = mI U ∧ U ≤ w.2.2.2.2.1 ∧ w.2.2.2.2.1 ≤ 2 ^ 17 ∧ (∀ i, i < U → (∃ k, k < 7 ∧ w.2.2.1 2 i = mI k ∧ SH i nd k (w.2.2.1 3 i) (w.2.2.1 4 i) (nd i)) ∧ w.2.2.1 5 i = mI (nd i).length ∧ (nd i).length ≤ 40 ∧ PL w U (Dz i) nd i) ∧ ∀ i j, i < U → j < U → nd i = nd j → i = j
section FTs
variable {P : sP} {w w' : sW} {ex : Nat → Option sC} {n sl U D : Nat} {Dz : Nat → Nat} {nd : Nat → List Nat}
theorem SH_lt {k : Nat} {a b : Int32} {l : List Nat} (h : SH U nd k a b l) : k < 7 := by
  rcases h with ⟨h, -⟩ | ⟨h, -⟩ | ⟨h, -⟩ | ⟨h, -⟩ <;> omega
theorem SH_mono {U' k : Nat} {nd' : Nat → List Nat} {a b : Int32} {l : List Nat} (h : SH U nd k a b l) (hU : U ≤ U') (hnd : ∀ i, i < U → nd' i = nd i) : SH U' nd' k a b l := by
  rcases h with h | ⟨h, a', h1, h2, h3, h4⟩ | ⟨h, a', b', h1, h2, h3, h4, h5⟩ | ⟨h, a', h1, h2, h3, h4⟩
  · exact Or.inl h
  · exact Or.inr (Or.inl ⟨h, a', by omega, h2, h3, by rw [hnd a' h1]; exact h4⟩)
  · exact Or.inr (Or.inr (Or.inl ⟨h, a', b', by omega, by omega, h3, h4, by rw [hnd a' h1, hnd b' h2]; exact h5⟩))
  · exact Or.inr (Or.inr (Or.inr ⟨h, a', by omega, h2, h3, by rw [hnd a' h1]; exact h4⟩))
theorem FT_NT (h : FT w U (fun _ => D) nd) : NT w U D nd := by
  refine ⟨h.1, h.2.1, h.2.2.1, fun i hi => ?_, h.2.2.2.2⟩
  obtain ⟨⟨k, hk7, hk, hs⟩, h1, h2, h3⟩ := h.2.2.2.1 i hi
  refine ⟨?_, h1, h2⟩
  rcases hs with ⟨rfl, a', t, e1, e2, e3, e4, e5, e6⟩ | ⟨rfl, a', e1, e2, e3, e4⟩ | ⟨hk', a', b', e1, e2, e3, e4, e5⟩ | ⟨hk', a', e1, e2, e3, e4⟩
  · exact Or.inl ⟨a', t, hk, e1, e2, e3, e4, e5, e6⟩
  · exact Or.inr (Or.inl ⟨a', hk, e2, e3, e1, e4⟩)
  · exact Or.inr (Or.inr (Or.inl ⟨k, a', b', hk', hk, e3, e4, e1, e2, e5⟩))
  · refine Or.inr (Or.inr (Or.inr ⟨k, a', hk', hk, e2, e3, e1, e4, fun t ht => h3 ?_ a' e1 e2 t ht⟩))
    rcases hk' with rfl | rfl
    · exact Or.inl hk
    · exact Or.inr hk
theorem NT_FT (h : NT w U D nd) : FT w U (fun _ => D) nd := by
  have hU : U ≤ 2 ^ 17 := Nat.le_trans h.2.1 h.2.2.1
  refine ⟨h.1, h.2.1, h.2.2.1, fun i hi => ?_, h.2.2.2.2⟩
  obtain ⟨hn, h1, h2⟩ := h.2.2.2.1 i hi
  have nb : ∀ k, w.2.2.1 2 i = mI k → k < 5 → PL w U D nd i := fun k hk hk5 hb => by
    exfalso
    rcases hb with hb | hb
    · have := (mI_inj (by omega) (by decide)).mp (hk.symm.trans hb); omega
    · have := (mI_inj (by omega) (by decide)).mp (hk.symm.trans hb); omega
  rcases hn with ⟨a', t, e0, e1, e2, e3, e4, e5, e6⟩ | ⟨a', e0, e2, e3, e1, e4⟩ | ⟨k, a', b', hk', e0, e3, e4, e1, e2, e5⟩ | ⟨k, a', hk', e0, e2, e3, e1, e4, hp⟩
  · exact ⟨⟨0, by decide, e0, Or.inl ⟨rfl, a', t, e1, e2, e3, e4, e5, e6⟩⟩, h1, h2, nb 0 e0 (by decide)⟩
  · exact ⟨⟨1, by decide, e0, Or.inr (Or.inl ⟨rfl, a', e1, e2, e3, e4⟩)⟩, h1, h2, nb 1 e0 (by decide)⟩
  · exact ⟨⟨k, by omega, e0, Or.inr (Or.inr (Or.inl ⟨hk', a', b', e1, e2, e3, e4, e5⟩))⟩, h1, h2, nb k e0 (by omega)⟩
  · refine ⟨⟨k, by omega, e0, Or.inr (Or.inr (Or.inr ⟨hk', a', e1, e2, e3, e4⟩))⟩, h1, h2, fun _ a ha e t ht => ?_⟩
    have : a = a' := (mI_inj (by omega) (by omega)).mp (e.symm.trans e2)
    subst this
    exact hp t ht
theorem FT_wff (h : FT w U Dz nd) : ∀ i, i < U → wff (nd i) := by
  intro i
  induction i using Nat.strongRecOn with
  | _ i ih =>
    intro hi
    obtain ⟨⟨k, hk7, hk, hs⟩, -⟩ := h.2.2.2.1 i hi
    rcases hs with ⟨rfl, a', t, e1, e2, e3, e4, e5, e6⟩ | ⟨rfl, a', e1, e2, e3, e4⟩ | ⟨hk', a', b', e1, e2, e3, e4, e5⟩ | ⟨hk', a', e1, e2, e3, e4⟩
    · rw [e6]; exact wff_atom (asg_ar e3 e4).1
    · rw [e4]; exact wff_one rfl (ih a' e1 (by omega))
    · rw [e5]; exact wff_two (ar_k hk') (ih a' e1 (by omega)) (ih b' e2 (by omega))
    · rw [e4]; exact wff_one (ar_q hk') (ih a' e1 (by omega))
theorem asg_inj {a t a' t' : Nat} (h1 : a < 6) (h2 : t ≤ 3) (h3 : a < 4 → t = 0) (h1' : a' < 6) (h2' : t' ≤ 3) (h3' : a' < 4 → t' = 0) (e : asg a t = asg a' t') : a = a' ∧ t = t' := by
  unfold asg at e
  by_cases g : a < 4
  · rw [if_pos g] at e
    by_cases g' : a' < 4
    · rw [if_pos g'] at e; exact ⟨e, by rw [h3 g, h3' g']⟩
    · rw [if_neg g'] at e
      split at e
      · split at e <;> omega
      · split at e <;> omega
  · rw [if_neg g] at e
    by_cases g' : a' < 4
    · rw [if_pos g'] at e
      split at e
      · split at e <;> omega
      · split at e <;> omega
    · rw [if_neg g'] at e
      split at e
      · split at e
        · split at e
          · split at e <;> omega
          · split at e <;> omega
        · split at e
          · split at e <;> omega
          · split at e <;> omega
      · split at e
        · split at e
          · split at e <;> omega
          · split at e <;> omega
        · split at e
          · split at e <;> omega
          · split at e <;> omega
/-- the list tells the numbers -/
theorem SH_inj {k k' : Nat} {a b a' b' : Int32} {l : List Nat} (hw : ∀ i, i < U → wff (nd i)) (hi : ∀ i j, i < U → j < U → nd i = nd j → i = j) (h : SH U nd k a b l) (h' : SH U nd k' a' b' l) : k = k' ∧ a = a' ∧ b = b' := by
  rcases h with ⟨rfl, p, t, e1, e2, e3, e4, e5, e6⟩ | ⟨rfl, p, e1, e2, e3, e4⟩ | ⟨hk, p, q, e1, e2, e3, e4, e5⟩ | ⟨hk, p, e1, e2, e3, e4⟩
  · rcases h' with ⟨rfl, p', t', f1, f2, f3, f4, f5, f6⟩ | ⟨rfl, p', f1, f2, f3, f4⟩ | ⟨hk', p', q', f1, f2, f3, f4, f5⟩ | ⟨hk', p', f1, f2, f3, f4⟩
    · rw [e6] at f6
      have := asg_inj e3 e4 e5 f3 f4 f5 (List.cons.inj f6).1
      exact ⟨rfl, by rw [e1, f1, this.1], by rw [e2, f2, this.2]⟩
    · rw [e6] at f4; have := (List.cons.inj f4).1; have := (asg_ar e3 e4).2; omega
    · rw [e6] at f5; have := (List.cons.inj f5).1; have := (asg_ar e3 e4).2; omega
    · rw [e6] at f4; have := (List.cons.inj f4).1; have := (asg_ar e3 e4).2; omega
  · rcases h' with ⟨rfl, p', t', f1, f2, f3, f4, f5, f6⟩ | ⟨rfl, p', f1, f2, f3, f4⟩ | ⟨hk', p', q', f1, f2, f3, f4, f5⟩ | ⟨hk', p', f1, f2, f3, f4⟩
    · rw [e4] at f6; have := (List.cons.inj f6).1; have := (asg_ar f3 f4).2; omega
    · rw [e4] at f4
      have := hi p p' e1 f1 (List.cons.inj f4).2
      exact ⟨rfl, by rw [e2, f2, this], by rw [e3, f3]⟩
    · rw [e4] at f5; have := (List.cons.inj f5).1; omega
    · rw [e4] at f4; have := (List.cons.inj f4).1; omega
  · rcases h' with ⟨rfl, p', t', f1, f2, f3, f4, f5, f6⟩ | ⟨rfl, p', f1, f2, f3, f4⟩ | ⟨hk', p', q', f1, f2, f3, f4, f5⟩ | ⟨hk', p', f1, f2, f3, f4⟩
    · rw [e5] at f6; have := (List.cons.inj f6).1; have := (asg_ar f3 f4).2; omega
    · rw [e5] at f4; have := (List.cons.inj f4).1; omega
    · rw [e5] at f5
      have h1 := (List.cons.inj f5).1
      have h2 := wff_uni (hw p e1) (hw p' f1) (List.cons.inj f5).2
      have h3 := hi p p' e1 f1 h2.1
      have h4 := hi q q' e2 f2 h2.2
      exact ⟨by omega, by rw [e3, f3, h3], by rw [e4, f4, h4]⟩
    · rw [e5] at f4; have := (List.cons.inj f4).1; omega
  · rcases h' with ⟨rfl, p', t', f1, f2, f3, f4, f5, f6⟩ | ⟨rfl, p', f1, f2, f3, f4⟩ | ⟨hk', p', q', f1, f2, f3, f4, f5⟩ | ⟨hk', p', f1, f2, f3, f4⟩
    · rw [e4] at f6; have := (List.cons.inj f6).1; have := (asg_ar f3 f4).2; omega
    · rw [e4] at f4; have := (List.cons.inj f4).1; omega
    · rw [e4] at f5; have := (List.cons.inj f5).1; omega
    · rw [e4] at f4
      have h1 := (List.cons.inj f4).1
      have h3 := hi p p' e1 f1 (List.cons.inj f4).2
      exact ⟨by omega, by rw [e2, f2, h3], by rw [e3, f3]⟩
/-- the numbers tell the list -/
theorem SH_fun {k : Nat} {a b : Int32} {l l' : List Nat} (hU : U ≤ 2 ^ 17) (h : SH U nd k a b l) (h' : SH U nd k a b l') : l = l' := by
  have K : ∀ {p q : Nat}, p < 2 ^ 31 → q < 2 ^ 31 → mI p = mI q → p = q := fun hp hq e => (mI_inj hp hq).mp e
  rcases h with ⟨hk, p, t, e1, e2, e3, e4, e5, e6⟩ | ⟨hk, p, e1, e2, e3, e4⟩ | ⟨hk, p, q, e1, e2, e3, e4, e5⟩ | ⟨hk, p, e1, e2, e3, e4⟩
  · rcases h' with ⟨hk', p', t', f1, f2, f3, f4, f5, f6⟩ | ⟨hk', p', f1, f2, f3, f4⟩ | ⟨hk', p', q', f1, f2, f3, f4, f5⟩ | ⟨hk', p', f1, f2, f3, f4⟩
    · rw [e6, f6, K (by omega) (by omega) (e1.symm.trans f1), K (by omega) (by omega) (e2.symm.trans f2)]
    · omega
    · omega
    · omega
  · rcases h' with ⟨hk', p', t', f1, f2, f3, f4, f5, f6⟩ | ⟨hk', p', f1, f2, f3, f4⟩ | ⟨hk', p', q', f1, f2, f3, f4, f5⟩ | ⟨hk', p', f1, f2, f3, f4⟩
    · omega
    · rw [e4, f4, K (by omega) (by omega) (e2.symm.trans f2)]
    · omega
    · omega
  · rcases h' with ⟨hk', p', t', f1, f2, f3, f4, f5, f6⟩ | ⟨hk', p', f1, f2, f3, f4⟩ | ⟨hk', p', q', f1, f2, f3, f4, f5⟩ | ⟨hk', p', f1, f2, f3, f4⟩
    · omega
    · omega
    · rw [e5, f5, K (by omega) (by omega) (e3.symm.trans f3), K (by omega) (by omega) (e4.symm.trans f4)]
    · omega
  · rcases h' with ⟨hk', p', t', f1, f2, f3, f4, f5, f6⟩ | ⟨hk', p', f1, f2, f3, f4⟩ | ⟨hk', p', q', f1, f2, f3, f4, f5⟩ | ⟨hk', p', f1, f2, f3, f4⟩
    · omega
    · omega
    · omega
    · rw [e4, f4, K (by omega) (by omega) (e2.symm.trans f2)]
/-- a node is made so, just if it says so -/
theorem FT_made {i k : Nat} {a b : Int32} {l : List Nat} (h : FT w U Dz nd) (hi : i < U) (hS : SH U nd k a b l) : (w.2.2.1 2 i = mI k ∧ w.2.2.1 3 i = a ∧ w.2.2.1 4 i = b) ↔ nd i = l := by
  have hU : U ≤ 2 ^ 17 := Nat.le_trans h.2.1 h.2.2.1
  obtain ⟨⟨k', hk7, hk, hs⟩, -⟩ := h.2.2.2.1 i hi
  have hs' : SH U nd k' (w.2.2.1 3 i) (w.2.2.1 4 i) (nd i) := SH_mono hs (by omega) fun _ _ => rfl
  constructor
  · rintro ⟨e1, e2, e3⟩
    have : k' = k := (mI_inj (by omega) (by have := SH_lt hS; omega)).mp (hk.symm.trans e1)
    subst this
    rw [e2, e3] at hs'
    exact SH_fun hU hs' hS
  · intro e
    rw [e] at hs'
    obtain ⟨r1, r2, r3⟩ := SH_inj (FT_wff h) h.2.2.2.2 hs' hS
    rw [hk, r1]
    exact ⟨rfl, r2, r3⟩
end FTs
/-! the chains -/
def hsh (k a b : Int32) : Int32 := (((k * 31) + a) * 31 + b) &&& 127
theorem hsh_lt (k a b : Int32) : ∃ h, h < 128 ∧ hsh k a b = mI h := by
  unfold hsh
  obtain ⟨N, hN, e⟩ := mI_of32 (((k * 31) + a) * 31 + b)
  refine ⟨N % 128, Nat.mod_lt _ (by decide), ?_⟩
  rw [e, show (127 : Int32) = mI 127 from rfl, mI_and, show (127 : Nat) = 2 ^ 7 - 1 by decide, Nat.and_two_pow_sub_one_eq_mod]
def topI (H : Nat → Int32) (b : Int32) : Nat → Int32
  | 0 => -1
  | k + 1 => if H k = b then mI k else topI H b k
theorem topI_congr {H H' : Nat → Int32} {b : Int32} {k : Nat} (h : ∀ i, i < k → H i = H' i) : topI H b k = topI H' b k := by
  induction k with
  | zero => rfl
  | succ k ih =>
    show (if H k = b then _ else _) = (if H' k = b then _ else _)
    rw [h k (by omega), ih fun i hi => h i (by omega)]
theorem topI_cases (H : Nat → Int32) (b : Int32) (m : Nat) : (topI H b m = -1 ∧ ∀ i, i < m → H i ≠ b) ∨ ∃ j, j < m ∧ topI H b m = mI j ∧ H j = b ∧ ∀ i, j < i → i < m → H i ≠ b := by
  induction m with
  | zero => exact Or.inl ⟨rfl, fun i hi => absurd hi (by omega)⟩
  | succ m ih =>
    show ((if H m = b then mI m else topI H b m) = -1 ∧ _) ∨ ∃ j, j < m + 1 ∧ (if H m = b then mI m else topI H b m) = mI j ∧ _
    by_cases g : H m = b
    · exact Or.inr ⟨m, by omega, if_pos g, g, fun i h1 h2 => by omega⟩
    · rw [if_neg g]
      rcases ih with ⟨h1, h2⟩ | ⟨j, h1, h2, h3, h4⟩
      · refine Or.inl ⟨h1, fun i hi => ?_⟩
        by_cases e : i = m
        · subst e; exact g
        · exact h2 i (by omega)
      · refine Or.inr ⟨j, by omega, h2, h3, fun i h5 h6 => ?_⟩
        by_cases e : i = m
        · subst e; exact g
        · exact h4 i h5 (by omega)
def Hs (w : sW) (i : Nat) : Int32 := hsh (w.2.2.1 2 i) (w.2.2.1 3 i) (w.2.2.1 4 i)
def HB (w : sW) (U : Nat) : Prop := (∀ b, b < 128 → w.2.2.1 8 b = topI (Hs w) (mI b) U) ∧ ∀ i, i < U → w.2.2.1 6 i = topI (Hs w) (Hs w i) i
