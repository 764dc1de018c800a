/-! all, some and their parts in the class; cases -/
section CF
variable {P : sP} {w : sW} {ex : Nat → Option sC} {n sl : Nat} {D F L U : Nat} {y : sLn} {φ nd : Nat → List Nat} {nf : Nat → Nat}
theorem c_placedOf {i t : Nat} {x v : Int32} (h : NT w U D nd) (hx : x = mI i) (hv : v = mI t) (hi : i < U) (ht : t < 3) : F_X2_placedOf (P.2.1 + 1) x v (hp P w ex n sl) = some (w.2.2.1 7 (i * 3 + t), hp P w ex n sl) := by
  subst hx hv
  have h1 := h.2.1
  have h2 := h.2.2.1
  have g : ¬ mI U ≤ mI i := by rw [mI_le (by omega) (by omega)]; omega
  have g3 : ¬ (3 : Int32) ≤ mI t := fun z => by have := (mI_le (a := 3) (b := t) (by decide) (by omega)).mp z; omega
  have e : mI i * 3 + mI t = mI (i * 3 + t) := mI_ix i 3 t
  have a9 : s_ai (hp P w ex n sl) (w_fa P w + 5) (mI (i * 3 + t)) = some (w.2.2.1 7 (i * 3 + t)) := by
    rw [hp_af (by decide) (by rw [if_pos rfl]; exact mI_out (by omega) (by omega)), mI_nat (by omega)]
  simp only [E_X2_placedOf, E_X2_placedOf_0, E_X2_placedOf_25, E_X2_placedOf_26, z_1, q_1_0, q_1_6, ob, h.1, mI_0 (show i < 2 ^ 31 by omega), mI_0 (show t < 2 ^ 31 by omega), g, g3, if_false, e, a9]
  rfl
/-- a node of kind k (5 all, 6 some): what its list is, and its parts -/
theorem nd_bind (h : NT w U D nd) {i k : Nat} (hi : i < U) (hk : k = 5 ∨ k = 6) : w.2.2.1 2 i = mI k ↔ ∃ r, nd i = (11 + k) :: r := by
  have K : ∀ {p q : Nat}, p < 2 ^ 31 → q < 2 ^ 31 → mI p = mI q → p = q := fun hp hq e => (mI_inj hp hq).mp e
  constructor
  · intro e1
    rcases (h.2.2.2.1 i hi).1 with ⟨a', t, g1, -⟩ | ⟨a', g1, -⟩ | ⟨k', a', b', hk', g1, -⟩ | ⟨k', a', hk', g1, -, -, -, e, -⟩
    · have := K (by omega) (by omega) (g1.symm.trans e1); omega
    · have := K (by omega) (by omega) (g1.symm.trans e1); omega
    · have := K (by omega) (by omega) (g1.symm.trans e1); omega
    · have := K (by omega) (by omega) (g1.symm.trans e1)
      subst this
      exact ⟨_, e⟩
  · rintro ⟨r, e⟩
    rcases (h.2.2.2.1 i hi).1 with ⟨a', t, g1, g2, g3, h1, h2, -, e'⟩ | ⟨a', g1, -, -, -, e'⟩ | ⟨k', a', b', hk', g1, g2, g3, h1, h2, e'⟩ | ⟨k', a', hk', g1, -, -, -, e', -⟩
    · rw [e] at e'
      have := (asg_ar h1 h2).2
      have := (List.cons.inj e').1
      omega
    · rw [e] at e'
      have := (List.cons.inj e').1
      omega
    · rw [e] at e'
      have := (List.cons.inj e').1
      omega
    · rw [e] at e'
      have := (List.cons.inj e').1
      have r1 : k = k' := by omega
      rw [r1]; exact g1
theorem nd_part (h : NT w U D nd) {i j k t : Nat} {r : List Nat} (hi : i < U) (hj : j < U) (hD : D ≤ 3) (ht : t < D) (hk : k = 5 ∨ k = 6) (e : nd i = (11 + k) :: r) : w.2.2.1 7 (i * 3 + t) = mI j ↔ r.map (ins (some t)) = nd j := by
  have hU : U ≤ 2 ^ 17 := Nat.le_trans h.2.1 h.2.2.1
  rcases (h.2.2.2.1 i hi).1 with ⟨a', t', g1, g2, g3, h1, h2, -, e'⟩ | ⟨a', g1, -, -, -, e'⟩ | ⟨k', a', b', hk', g1, g2, g3, h1, h2, e'⟩ | ⟨k', a', hk', g1, -, -, ha, e', hp9⟩
  · rw [e] at e'
    have := (asg_ar h1 h2).2
    have := (List.cons.inj e').1
    omega
  · rw [e] at e'
    have := (List.cons.inj e').1
    omega
  · rw [e] at e'
    have := (List.cons.inj e').1
    omega
  · rw [e] at e'
    have er := (List.cons.inj e').2
    obtain ⟨q, hq, eq1, eq2⟩ := (hp9 t (by omega)).1 ht
    rw [eq1, er, ← eq2]
    constructor
    · intro z
      have := (mI_inj (by omega) (by omega)).mp z
      rw [this]
    · intro z
      rw [h.2.2.2.2 q j hq hj z]
theorem c_isPlaced {i j k : Nat} {r : List Nat} {x v : Int32} (hC : CW w D F L U y φ nd nf) (hx : x = mI i) (hv : v = mI j) (hi : i < U) (hj : j < U) (hk : k = 5 ∨ k = 6) (e : nd i = (11 + k) :: r) : F_X0_isPlaced (P.2.1 + 37) x v (hp P w ex n sl) = some (b2 (∃ t, t < D ∧ r.map (ins (some t)) = nd j), hp P w ex n sl) := by
  subst hx hv
  have hN := hC.2.2.2.2.2.2.2.2.2.1
  have hD := hC.2.2.2.2.1
  have hD3 := hC.2.1
  have step : ∀ (d k' : Nat), k' + d = D → R_X0_isPlaced_2 (P.2.1 + 37) (mI i) (mI j) (mI k') (hp P w ex n sl) = some (b2 (∃ t, k' ≤ t ∧ t < D ∧ r.map (ins (some t)) = nd j), hp P w ex n sl) := by
    intro d
    induction d with
    | zero =>
      intro k' hk'
      have hk' : k' = D := by omega
      subst hk'
      rw [E_X0_isPlaced_2, q_37_5, ob, q_9_0, ob, hD, if_pos ((mI_le (by omega) (by omega)).mpr (Nat.le_refl _)), b2_f (fun ⟨t, h1, h2, _⟩ => by omega)]
    | succ d ih =>
      intro k' hk'
      have e3 : mI k' + 1 = mI (k' + 1) := mI_add k' 1
      have np := nd_part hN hi hj hD3 (show k' < D by omega) hk e
      rw [E_X0_isPlaced_2, q_37_5, ob, q_9_0, ob, hD, if_neg (by rw [mI_le (by omega) (by omega)]; omega), q_37_4, ob, c_placedOf (x := mI i) (v := mI k') hN rfl rfl hi (by omega), ob]
      simp only [e3]
      by_cases g : w.2.2.1 7 (i * 3 + k') = mI j
      · have ht : b2 (∃ t, k' ≤ t ∧ t < D ∧ r.map (ins (some t)) = nd j) = 1 := b2_t ⟨k', Nat.le_refl _, by omega, np.mp g⟩
        rw [if_pos g, ht]
      · rw [if_neg g, ih (k' + 1) (by omega)]
        exact congrArg (fun z => some (z, hp P w ex n sl)) (b2_congr ⟨fun ⟨t, h1, h2⟩ => ⟨t, by omega, h2⟩, fun ⟨t, h1, h2, h3⟩ => ⟨t, by
          by_cases e9 : t = k'
          · subst e9; exact absurd (np.mpr h3) g
          · omega, h2, h3⟩⟩)
  rw [E_X0_isPlaced, z_37, ob, E_X0_isPlaced_0]
  have := step D 0 (by omega)
  rw [b2_congr (p := ∃ t, 0 ≤ t ∧ t < D ∧ r.map (ins (some t)) = nd j) (q := ∃ t, t < D ∧ r.map (ins (some t)) = nd j) ⟨fun ⟨t, _, h⟩ => ⟨t, h⟩, fun ⟨t, h⟩ => ⟨t, Nat.zero_le _, h⟩⟩] at this
  exact this
theorem c_fitsCases {a b c p : Nat} (hN : NT w U D nd) (ha : a < U) (hb : b < U) (hc : c < U) (hp9 : p < U) : F_X0_fitsCases (P.2.1 + 37) (mI a) (mI b) (mI c) (mI p) (hp P w ex n sl) = some (b2 (casesP (nd a) (nd b) (nd c) (nd p)), hp P w ex n sl) := by
  have hU : U ≤ 2 ^ 17 := Nat.le_trans hN.2.1 hN.2.2.1
  simp only [E_X0_fitsCases, E_X0_fitsCases_0, z_37, q_37_4, ob, c_kindOf (x := mI a) hN rfl ha, c_firstOf (x := mI a) hN rfl ha, c_secondOf (x := mI a) hN rfl ha, c_isMade (x := mI b) hN rfl hb, c_isMade (x := mI c) hN rfl hc, m_bool]
  by_cases g : w.2.2.1 2 a = 3
  · rw [if_pos g]
    rcases (hN.2.2.2.1 a ha).1 with ⟨a', t, g1, -⟩ | ⟨a', g1, -⟩ | ⟨k', u, v, hk', g1, g2, g3, h1, h2, e⟩ | ⟨k', a', hk', g1, -⟩
    · exact absurd (g1.symm.trans g) (by decide)
    · exact absurd (g1.symm.trans g) (by decide)
    · have hk3 : k' = 3 := (mI_inj (b := 3) (by omega) (by decide)).mp (g1.symm.trans g)
      subst hk3
      rw [g2, g3]
      have t1 := nd_two hN (i := b) (a := u) (b := p) (k := 4) hb (by omega) hp9 (by omega)
      have t2 := nd_two hN (i := c) (a := v) (b := p) (k := 4) hc (by omega) hp9 (by omega)
      have key : casesP (nd a) (nd b) (nd c) (nd p) ↔ (w.2.2.1 2 b = 4 ∧ w.2.2.1 3 b = mI u ∧ w.2.2.1 4 b = mI p) ∧ (w.2.2.1 2 c = 4 ∧ w.2.2.1 3 c = mI v ∧ w.2.2.1 4 c = mI p) := by
        constructor
        · rintro ⟨u', v', hu', hv', q1, q2, q3⟩
          rw [e] at q1
          have r1 := wff_uni (nd_wff hN u (by omega)) hu' (List.cons.inj q1).2
          exact ⟨t1.mpr (by rw [q2, r1.1]), t2.mpr (by rw [q3, r1.2])⟩
        · rintro ⟨z1, z2⟩
          exact ⟨nd u, nd v, nd_wff hN u (by omega), nd_wff hN v (by omega), e, t1.mp z1, t2.mp z2⟩
      rw [b2_congr key]
      exact m_and
    · have : k' = 3 := (mI_inj (b := 3) (by omega) (by decide)).mp (g1.symm.trans g)
      omega
  · rw [if_neg g]
    refine congrArg (fun z => some (z, hp P w ex n sl)) (b2_f ?_).symm
    rintro ⟨u', v', hu', hv', q1, q2, q3⟩
    rcases (hN.2.2.2.1 a ha).1 with ⟨a', t, g1, g2, g3, h1, h2, -, e'⟩ | ⟨a', g1, -, -, -, e'⟩ | ⟨k', a', b', hk', g1, g2, g3, h1, h2, e'⟩ | ⟨k', a', hk', g1, -, -, -, e', -⟩
    · rw [q1] at e'
      rcases wff_cases hu' with ⟨s, r, rfl, -⟩
      have := congrArg List.length e'
      simp at this
    · rw [q1] at e'
      have := (List.cons.inj e').1
      omega
    · rw [q1] at e'
      have := (List.cons.inj e').1
      have hk3 : k' = 3 := by omega
      subst hk3
      exact g g1
    · rw [q1] at e'
      have := (List.cons.inj e').1
      omega
end CF
