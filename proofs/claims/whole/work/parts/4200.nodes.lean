/-! the class's nodes: each stands for a list of signs -/
def asg (a t : Nat) : Nat := if a < 4 then a else if a = 4 then (if t = 3 then 4 else 6 + t) else (if t = 3 then 5 else 9 + t)
def nodeOK (w : sW) (U D : Nat) (nd : Nat → List Nat) (i : Nat) : Prop :=
  (∃ a t, w.2.2.1 2 i = mI 0 ∧ w.2.2.1 3 i = mI a ∧ w.2.2.1 4 i = mI t ∧ a < 6 ∧ t ≤ 3 ∧ (a < 4 → t = 0) ∧ nd i = [asg a t]) ∨
  (∃ a, w.2.2.1 2 i = mI 1 ∧ w.2.2.1 3 i = mI a ∧ w.2.2.1 4 i = -1 ∧ a < i ∧ nd i = 12 :: nd a) ∨
  (∃ k a b, (k = 2 ∨ k = 3 ∨ k = 4) ∧ w.2.2.1 2 i = mI k ∧ w.2.2.1 3 i = mI a ∧ w.2.2.1 4 i = mI b ∧ a < i ∧ b < i ∧ nd i = (11 + k) :: (nd a ++ nd b)) ∨
  (∃ k a, (k = 5 ∨ k = 6) ∧ w.2.2.1 2 i = mI k ∧ w.2.2.1 3 i = mI a ∧ w.2.2.1 4 i = -1 ∧ a < i ∧ nd i = (11 + k) :: nd a ∧ ∀ t, t < 3 → (t < D → ∃ q, q < U ∧ w.2.2.1 7 (i * 3 + t) = mI q ∧ nd q = (nd a).map (ins (some t))) ∧ (¬ t < D → w.2.2.1 7 (i * 3 + t) = -1))
def NT (w : sW) (U D : Nat) (nd : Nat → List Nat) : Prop := w.1 1 0 = mI U ∧ U ≤ w.2.2.2.2.1 ∧ w.2.2.2.2.1 ≤ 2 ^ 17 ∧ (∀ i, i < U → nodeOK w U D nd i ∧ w.2.2.1 5 i = mI (nd i).length ∧ (nd i).length ≤ 40) ∧ ∀ i j, i < U → j < U → nd i = nd j → i = j
theorem asg_ar {a t : Nat} (ha : a < 6) (ht : t ≤ 3) : ar (asg a t) = 0 ∧ asg a t < 12 := by
  have h : asg a t < 12 := by
    unfold asg
    split
    · omega
    · split
      · split <;> omega
      · split <;> omega
  refine ⟨?_, h⟩
  unfold ar
  rw [if_neg (by omega), if_neg (by omega)]
theorem ar_k {k : Nat} (h : k = 2 ∨ k = 3 ∨ k = 4) : ar (11 + k) = 2 := by rcases h with rfl | rfl | rfl <;> rfl
theorem ar_q {k : Nat} (h : k = 5 ∨ k = 6) : ar (11 + k) = 1 := by rcases h with rfl | rfl <;> rfl
section ND
variable {P : sP} {w : sW} {ex : Nat → Option sC} {n sl : Nat} {U D : Nat} {nd : Nat → List Nat}
theorem nd_wff (h : NT w U D nd) : ∀ i, i < U → wff (nd i) := by
  intro i
  induction i using Nat.strongRecOn with
  | _ i ih =>
    intro hi
    rcases (h.2.2.2.1 i hi).1 with ⟨a, t, -, -, -, h1, h2, -, e⟩ | ⟨a, -, -, -, h1, e⟩ | ⟨k, a, b, hk, -, -, -, h1, h2, e⟩ | ⟨k, a, hk, -, -, -, h1, e, -⟩
    · rw [e]; exact wff_atom (asg_ar h1 h2).1
    · rw [e]; exact wff_one rfl (ih a h1 (by omega))
    · rw [e]; exact wff_two (ar_k hk) (ih a h1 (by omega)) (ih b h2 (by omega))
    · rw [e]; exact wff_one (ar_q hk) (ih a h1 (by omega))
/-- which kind, and what its parts are: the numbers say what the list says -/
theorem nd_two (h : NT w U D nd) {i a b k : Nat} (hi : i < U) (ha : a < U) (hb : b < U) (hk : k = 2 ∨ k = 3 ∨ k = 4) : (w.2.2.1 2 i = mI k ∧ w.2.2.1 3 i = mI a ∧ w.2.2.1 4 i = mI b) ↔ nd i = (11 + k) :: (nd a ++ nd b) := by
  have hc := h.2.2.1
  have hU := h.2.1
  have K : ∀ {p q : Nat}, p < 2 ^ 31 → q < 2 ^ 31 → mI p = mI q → p = q := fun hp hq e => (mI_inj hp hq).mp e
  constructor
  · rintro ⟨e1, e2, e3⟩
    rcases (h.2.2.2.1 i hi).1 with ⟨a', t, g1, -⟩ | ⟨a', g1, -⟩ | ⟨k', a', b', hk', g1, g2, g3, h1, h2, e⟩ | ⟨k', a', hk', g1, -⟩
    · have := K (by omega) (by omega) (g1.symm.trans e1); omega
    · have := K (by omega) (by omega) (g1.symm.trans e1); omega
    · have r1 := K (by omega) (by omega) (g1.symm.trans e1)
      have r2 := K (by omega) (by omega) (g2.symm.trans e2)
      have r3 := K (by omega) (by omega) (g3.symm.trans e3)
      rw [e, r1, r2, r3]
    · have := K (by omega) (by omega) (g1.symm.trans e1); omega
  · intro e
    rcases (h.2.2.2.1 i hi).1 with ⟨a', t, g1, g2, g3, h1, h2, -, e'⟩ | ⟨a', g1, -, -, -, e'⟩ | ⟨k', a', b', hk', g1, g2, g3, h1, h2, e'⟩ | ⟨k', a', hk', g1, -, -, -, e', -⟩
    · rw [e] at e'
      have := (asg_ar h1 h2).2
      have := (List.cons.inj e').1
      omega
    · rw [e] at e'
      have := (List.cons.inj e').1
      omega
    · rw [e] at e'
      have r1 : k = k' := by have := (List.cons.inj e').1; omega
      have r2 := wff_uni (nd_wff h a ha) (nd_wff h a' (by omega)) (List.cons.inj e').2
      have r3 := h.2.2.2.2 a a' ha (by omega) r2.1
      have r4 := h.2.2.2.2 b b' hb (by omega) r2.2
      rw [r1, r3, r4]
      exact ⟨g1, g2, g3⟩
    · rw [e] at e'
      have := (List.cons.inj e').1
      omega
theorem nd_left (h : NT w U D nd) {i a k : Nat} (hi : i < U) (ha : a < U) (hk : k = 2 ∨ k = 3 ∨ k = 4) : (w.2.2.1 2 i = mI k ∧ w.2.2.1 3 i = mI a) ↔ isL (11 + k) (nd i) (nd a) := by
  have hc := h.2.2.1
  have hU := h.2.1
  have K : ∀ {p q : Nat}, p < 2 ^ 31 → q < 2 ^ 31 → mI p = mI q → p = q := fun hp hq e => (mI_inj hp hq).mp e
  constructor
  · rintro ⟨e1, e2⟩
    rcases (h.2.2.2.1 i hi).1 with ⟨a', t, g1, -⟩ | ⟨a', g1, -⟩ | ⟨k', a', b', hk', g1, g2, g3, h1, h2, e⟩ | ⟨k', a', hk', g1, -⟩
    · have := K (by omega) (by omega) (g1.symm.trans e1); omega
    · have := K (by omega) (by omega) (g1.symm.trans e1); omega
    · have r1 := K (by omega) (by omega) (g1.symm.trans e1)
      have r2 := K (by omega) (by omega) (g2.symm.trans e2)
      subst r1 r2
      exact ⟨nd b', nd_wff h b' (by omega), e⟩
    · have := K (by omega) (by omega) (g1.symm.trans e1); omega
  · rintro ⟨b, hb, e⟩
    rcases (h.2.2.2.1 i hi).1 with ⟨a', t, g1, g2, g3, h1, h2, -, e'⟩ | ⟨a', g1, -, -, -, e'⟩ | ⟨k', a', b', hk', g1, g2, g3, h1, h2, e'⟩ | ⟨k', a', hk', g1, -, -, -, e', -⟩
    · rw [e] at e'
      have := (asg_ar h1 h2).2
      have := (List.cons.inj e').1
      omega
    · rw [e] at e'
      have := (List.cons.inj e').1
      omega
    · rw [e] at e'
      have r1 : k = k' := by have := (List.cons.inj e').1; omega
      have r2 := wff_uni (nd_wff h a ha) (nd_wff h a' (by omega)) (List.cons.inj e').2
      have r3 := h.2.2.2.2 a a' ha (by omega) r2.1
      rw [r1, r3]
      exact ⟨g1, g2⟩
    · rw [e] at e'
      have := (List.cons.inj e').1
      omega
theorem nd_right (h : NT w U D nd) {i a k : Nat} (hi : i < U) (ha : a < U) (hk : k = 2 ∨ k = 3 ∨ k = 4) : (w.2.2.1 2 i = mI k ∧ w.2.2.1 4 i = mI a) ↔ isR (11 + k) (nd i) (nd a) := by
  have hc := h.2.2.1
  have hU := h.2.1
  have K : ∀ {p q : Nat}, p < 2 ^ 31 → q < 2 ^ 31 → mI p = mI q → p = q := fun hp hq e => (mI_inj hp hq).mp e
  constructor
  · rintro ⟨e1, e2⟩
    rcases (h.2.2.2.1 i hi).1 with ⟨a', t, g1, -⟩ | ⟨a', g1, -⟩ | ⟨k', a', b', hk', g1, g2, g3, h1, h2, e⟩ | ⟨k', a', hk', g1, -⟩
    · have := K (by omega) (by omega) (g1.symm.trans e1); omega
    · have := K (by omega) (by omega) (g1.symm.trans e1); omega
    · have r1 := K (by omega) (by omega) (g1.symm.trans e1)
      have r2 := K (by omega) (by omega) (g3.symm.trans e2)
      subst r1 r2
      exact ⟨nd a', nd_wff h a' (by omega), e⟩
    · have := K (by omega) (by omega) (g1.symm.trans e1); omega
  · rintro ⟨b, hb, e⟩
    rcases (h.2.2.2.1 i hi).1 with ⟨a', t, g1, g2, g3, h1, h2, -, e'⟩ | ⟨a', g1, -, -, -, e'⟩ | ⟨k', a', b', hk', g1, g2, g3, h1, h2, e'⟩ | ⟨k', a', hk', g1, -, -, -, e', -⟩
    · rw [e] at e'
      have := (asg_ar h1 h2).2
      have := (List.cons.inj e').1
      omega
    · rw [e] at e'
      have := (List.cons.inj e').1
      omega
    · rw [e] at e'
      have r1 : k = k' := by have := (List.cons.inj e').1; omega
      have r2 := wff_uni hb (nd_wff h a' (by omega)) (List.cons.inj e').2
      have r3 := h.2.2.2.2 a b' ha (by omega) r2.2
      rw [r1, r3]
      exact ⟨g1, g3⟩
    · rw [e] at e'
      have := (List.cons.inj e').1
      omega
theorem nd_not (h : NT w U D nd) {i a : Nat} (hi : i < U) (ha : a < U) : (w.2.2.1 2 i = mI 1 ∧ w.2.2.1 3 i = mI a ∧ w.2.2.1 4 i = -1) ↔ nd i = 12 :: nd a := by
  have hc := h.2.2.1
  have hU := h.2.1
  have K : ∀ {p q : Nat}, p < 2 ^ 31 → q < 2 ^ 31 → mI p = mI q → p = q := fun hp hq e => (mI_inj hp hq).mp e
  constructor
  · rintro ⟨e1, e2, e3⟩
    rcases (h.2.2.2.1 i hi).1 with ⟨a', t, g1, -⟩ | ⟨a', g1, g2, g3, h1, e⟩ | ⟨k', a', b', hk', g1, -⟩ | ⟨k', a', hk', g1, -⟩
    · have := K (by omega) (by omega) (g1.symm.trans e1); omega
    · have r2 := K (by omega) (by omega) (g2.symm.trans e2)
      rw [e, r2]
    · have := K (by omega) (by omega) (g1.symm.trans e1); omega
    · have := K (by omega) (by omega) (g1.symm.trans e1); omega
  · intro e
    rcases (h.2.2.2.1 i hi).1 with ⟨a', t, g1, g2, g3, h1, h2, -, e'⟩ | ⟨a', g1, g2, g3, h1, e'⟩ | ⟨k', a', b', hk', g1, g2, g3, h1, h2, e'⟩ | ⟨k', a', hk', g1, -, -, -, e', -⟩
    · rw [e] at e'
      have := (asg_ar h1 h2).2
      have := (List.cons.inj e').1
      omega
    · rw [e] at e'
      have r3 := h.2.2.2.2 a a' ha (by omega) (List.cons.inj e').2
      rw [r3]
      exact ⟨g1, g2, g3⟩
    · rw [e] at e'
      have := (List.cons.inj e').1
      omega
    · rw [e] at e'
      have := (List.cons.inj e').1
      omega
/-- reading the six arrays -/
theorem hp_af {i : Nat} {x : Int32} (hi : i < 6) (hx : s_out x (if i = 5 then 3 * w.2.2.2.2.1 else w.2.2.2.2.1) = false) : s_ai (hp P w ex n sl) (w_fa P w + i) x = some (w.2.2.1 (i + 2) x.toNatClampNeg) := by
  unfold s_ai
  rw [hp_fa hi]
  unfold w_fc
  dsimp only
  rw [if_pos ⟨Or.inl rfl, hx⟩]
theorem hp_af0 {k : Nat} (h : NT w U D nd) (hk : k < U) {i : Nat} (hi : i < 5) : s_ai (hp P w ex n sl) (w_fa P w + i) (mI k) = some (w.2.2.1 (i + 2) k) := by
  have h1 := h.2.1
  have h2 := h.2.2.1
  rw [hp_af (by omega) (by rw [if_neg (by omega)]; exact mI_out (by omega) (by omega)), mI_nat (by omega)]
theorem c_kindOf {x : Int32} {i : Nat} (h : NT w U D nd) (hx : x = mI i) (hi : i < U) : F_X2_kindOf (P.2.1 + 1) x (hp P w ex n sl) = some (w.2.2.1 2 i, hp P w ex n sl) := by
  subst hx
  have h1 := h.2.1
  have h2 := h.2.2.1
  have g : ¬ mI U ≤ mI i := by rw [mI_le (by omega) (by omega)]; omega
  simp only [E_X2_kindOf, E_X2_kindOf_0, z_1, q_1_0, q_1_1, ob, h.1, mI_0 (show i < 2 ^ 31 by omega), g, if_false, hp_af0 h hi (show 0 < 5 by decide)]
theorem c_firstOf {x : Int32} {i : Nat} (h : NT w U D nd) (hx : x = mI i) (hi : i < U) : F_X2_firstOf (P.2.1 + 1) x (hp P w ex n sl) = some (w.2.2.1 3 i, hp P w ex n sl) := by
  subst hx
  have h1 := h.2.1
  have h2 := h.2.2.1
  have g : ¬ mI U ≤ mI i := by rw [mI_le (by omega) (by omega)]; omega
  simp only [E_X2_firstOf, E_X2_firstOf_0, z_1, q_1_0, q_1_2, ob, h.1, mI_0 (show i < 2 ^ 31 by omega), g, if_false, hp_af0 h hi (show 1 < 5 by decide)]
theorem c_secondOf {x : Int32} {i : Nat} (h : NT w U D nd) (hx : x = mI i) (hi : i < U) : F_X2_secondOf (P.2.1 + 1) x (hp P w ex n sl) = some (w.2.2.1 4 i, hp P w ex n sl) := by
  subst hx
  have h1 := h.2.1
  have h2 := h.2.2.1
  have g : ¬ mI U ≤ mI i := by rw [mI_le (by omega) (by omega)]; omega
  simp only [E_X2_secondOf, E_X2_secondOf_0, z_1, q_1_0, q_1_3, ob, h.1, mI_0 (show i < 2 ^ 31 by omega), g, if_false, hp_af0 h hi (show 2 < 5 by decide)]
theorem c_signsOf {x : Int32} {i : Nat} (h : NT w U D nd) (hx : x = mI i) (hi : i < U) : F_X2_signsOf (P.2.1 + 1) x (hp P w ex n sl) = some (mI (nd i).length, hp P w ex n sl) := by
  subst hx
  have h1 := h.2.1
  have h2 := h.2.2.1
  have g : ¬ mI U ≤ mI i := by rw [mI_le (by omega) (by omega)]; omega
  simp only [E_X2_signsOf, E_X2_signsOf_0, z_1, q_1_0, q_1_4, ob, h.1, mI_0 (show i < 2 ^ 31 by omega), g, if_false, hp_af0 h hi (show 3 < 5 by decide), (h.2.2.2.1 i hi).2.1]
theorem c_isMade {x k a b : Int32} {i : Nat} (h : NT w U D nd) (hx : x = mI i) (hi : i < U) : F_X2_isMade (P.2.1 + 1) x k a b (hp P w ex n sl) = some (b2 (w.2.2.1 2 i = k ∧ w.2.2.1 3 i = a ∧ w.2.2.1 4 i = b), hp P w ex n sl) := by
  subst hx
  have h1 := h.2.1
  have h2 := h.2.2.1
  have g : ¬ mI U ≤ mI i := by rw [mI_le (by omega) (by omega)]; omega
  simp only [E_X2_isMade, E_X2_isMade_0, z_1, q_1_0, q_1_1, q_1_2, q_1_3, ob, h.1, mI_0 (show i < 2 ^ 31 by omega), g, if_false, hp_af0 h hi (show 0 < 5 by decide), hp_af0 h hi (show 1 < 5 by decide), hp_af0 h hi (show 2 < 5 by decide)]
  by_cases g1 : w.2.2.1 2 i = k
  · by_cases g2 : w.2.2.1 3 i = a
    · by_cases g3 : w.2.2.1 4 i = b
      · rw [if_pos g1, if_pos g2, if_pos g3, b2_t ⟨g1, g2, g3⟩]
      · rw [if_pos g1, if_pos g2, if_neg g3, b2_f (fun z => g3 z.2.2)]
    · rw [if_pos g1, if_neg g2, b2_f (fun z => g2 z.2.1)]
  · rw [if_neg g1, b2_f (fun z => g1 z.1)]
end ND
