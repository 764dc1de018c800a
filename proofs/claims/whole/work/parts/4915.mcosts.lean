/-! the model's costs as a whole, and its last rule -/
theorem att_ex {I : Nat → nN → List nN → Nat → Prop} {x : nN} (h : mu I x < 268435456) : ∃ r ps b, I r x ps b ∧ b + sumC (mu I) ps = mu I x := by
  obtain ⟨m, z⟩ := mu_dv h
  cases m with
  | zero => exact z.elim
  | succ m =>
    obtain ⟨r, ps, b, c, h1, h2, h3, h4⟩ := z
    have e1 := sumC_le (c := mu I) (c' := c) ps (fun p hp => mu_le ⟨m, h2 p hp⟩)
    have e2 := mu_step h1
    unfold lmt at e2
    rw [if_pos (by omega)] at e2
    exact ⟨r, ps, b, h1, by omega⟩
/-- a rule that is the last of a cheapest derivation -/
def ATT (I : Nat → nN → List nN → Nat → Prop) (r : Nat) : Prop := ∃ ps b, I r (0, 0) ps b ∧ b + sumC (mu I) ps = mu I (0, 0)
theorem bv_att {I : Nat → nN → List nN → Nat → Prop} {r v : Nat} (h : mu I (0, 0) < 268435456) (hv : BV I (mu I) r (0, 0) v) : v = mu I (0, 0) ↔ ATT I r := by
  obtain ⟨h1, h2, h3⟩ := hv
  have hl : mu I (0, 0) ≤ 99999 := by obtain ⟨m, z⟩ := mu_dv h; exact z.lim
  constructor
  · intro e
    obtain ⟨ps, b, i1, i2, i3⟩ := h2 (by omega)
    exact ⟨ps, b, i1, by omega⟩
  · rintro ⟨ps, b, i1, i2⟩
    have e1 := h3 ps b i1
    unfold lmt at e1
    rw [if_pos (by omega)] at e1
    obtain ⟨ps', b', j1, j2, j3⟩ := h2 (by omega)
    have e2 := mu_step j1
    unfold lmt at e2
    rw [if_pos (by omega)] at e2
    omega
section MCS
variable {P : sP} {S0 e : Nat} {w u u' v : sW} {ex : Nat → Option sC} {n sl D F L R U h f cu : Nat} {y : sLn} {φ : Nat → List Nat} {S : List (List Nat)} {A : List Nat} {tl H : Nat → Prop} {q : Nat → Nat} {c : nN → Nat}
theorem m_fill : ∃ u', R_X8_costs_27 (P.2.1 + 46) 0 (hp P u ex n sl) = R_X8_costs_56 (P.2.1 + 46) 1 (hp P u' ex n sl) ∧ Fr [70] [] u u' ∧ ∀ i, i < 320 → u'.2.2.1 70 i = mI 268435456 := by
  have key : ∀ m, m ≤ 320 → ∃ u', R_X8_costs_27 (P.2.1 + 46) 0 (hp P u ex n sl) = R_X8_costs_27 (P.2.1 + 46) (mI m) (hp P u' ex n sl) ∧ Fr [70] [] u u' ∧ ∀ i, i < m → u'.2.2.1 70 i = mI 268435456 := by
    intro m
    induction m with
    | zero => intro _; exact ⟨u, rfl, Fr.rf, fun i hi => absurd hi (Nat.not_lt_zero _)⟩
    | succ m ih =>
      intro hm
      obtain ⟨u1, a1, a2, a3⟩ := ih (by omega)
      refine ⟨wA u1 70 m (mI 268435456), ?_, a2.pA (by decide), fun i hi => ?_⟩
      · rw [a1, E_X8_costs_27, q_46_36, ob, n_70, ob, if_neg (show ¬ mI 320 ≤ mI m by rw [nle (by decide) (by omega)]; omega), ob, wa_70 (by omega), ob, mI_s]
        rfl
      · by_cases g : i = m
        · rw [g]; exact wA_s
        · rw [wA_n (Or.inr g)]; exact a3 i (by omega)
  obtain ⟨u1, a1, a2, a3⟩ := key 320 (Nat.le_refl _)
  refine ⟨u1, ?_, a2, a3⟩
  rw [a1, E_X8_costs_27, q_46_36, ob, n_70, ob, if_pos (show mI 320 ≤ mI 320 by decide)]
abbrev IIo (D F : Nat) (φ : Nat → List Nat) (told : Int32) (f : Nat) (H : Nat → Prop) (q : Nat → Nat) := IIm D (LA D F φ told f) (fun j => tol F φ told (at0 (LA D F φ told f) j)) H q
theorem m_costs {x1 x2 x3 told : Int32} (hx1 : x1 = mI h) (hx2 : x2 = mI cu) (hx3 : x3 = mI f) (hM : MW u D F L y φ) (hok : ∀ f, f < F → okF (φ f)) (hh : h < 3) (hcu : cu < 4) (hf : f < F) (ht : u.2.2.1 47 (58 + cu) = told) (hH : ∀ r, bit (u.2.2.1 47 (4 + 18 * h)) r ↔ H r) (hq : ∀ r, r < 17 → q r ≤ 99 ∧ u.2.2.1 47 (4 + 18 * h + 1 + r) = mI (q r)) (hq9 : q 16 ≤ 9) : ∃ u', F_X8_costs (P.2.1 + 46) x1 x2 x3 (hp P u ex n sl) = some (rsO (mu (IIo D F φ told f H q) (0, 0)), hp P u' ex n sl) ∧ FV u u' ∧ u'.1 46 0 = u.1 46 0 ∧ ME u' D (LA D F φ told f) (fun j => tol F φ told (at0 (LA D F φ told f) j)) H q h (mu (IIo D F φ told f H q)) := by
  subst hx1 hx2 hx3
  have f1 : Fr [] [4635] u (wI u 46 35 (mI h)) := Fr.rf.pI (k := 46) (j := 35) (by decide)
  have v1 : FV u (wI u 46 35 (mI h)) := f1.fv (by decide) (by decide)
  have h35 : (wI u 46 35 (mI h)).1 46 35 = mI h := wI_s
  have h0 : (wI u 46 35 (mI h)).1 46 0 = u.1 46 0 := wI_j (by decide)
  generalize hu1 : wI u 46 35 (mI h) = u1 at *
  have t1 : u1.2.2.1 47 = u.2.2.1 47 := f1.a (by decide)
  obtain ⟨u2, a1, a2, a3⟩ := m_looksAll (P := P) (ex := ex) (n := n) (sl := sl) (told := told) (x1 := mI f) rfl (hM.fv' v1) hok hf
  have v2 := v1.tr a2.2
  have t2 : u2.2.2.1 47 = u.2.2.1 47 := (a2.1.a (by decide)).trans t1
  obtain ⟨u3, b1, b2', b3⟩ := m_relates (P := P) (ex := ex) (n := n) (sl := sl) (told := told) a3 (hM.fv' v2)
  have v3 := v2.tr b2'.fv
  have t3 : u3.2.2.1 47 = u.2.2.1 47 := (b2'.1.a (by decide)).trans t2
  obtain ⟨u4, c1, c2, c3⟩ := m_fill (P := P) (u := u3) (ex := ex) (n := n) (sl := sl)
  have v4 := v3.tr (c2.fv (by decide) (by decide))
  have t4 : u4.2.2.1 47 = u.2.2.1 47 := (c2.a (by decide)).trans t3
  have hM4 := hM.fv' v4
  have me : ME u4 D (LA D F φ told f) (fun j => tol F φ told (at0 (LA D F φ told f) j)) H q h (fun _ => 268435456) := by
    refine ⟨⟨⟨?_, b3.1.2.1, fun i hi => (b3.1.2.2 i hi).fr c2 (by decide) (by decide)⟩, ?_, fun j hj => (b3.2.2.1 j hj).fr c2 (by decide) (by decide) (by decide) (by decide) (by decide), fun k hk j hj => ?_⟩, hM4.2.2.2.2.1, hM.1, hM.2.1, hh, ?_, by rw [t4]; exact hH, by rw [t4]; exact hq, hq9, fun _ => Nat.le_refl _, fun k hk s hs => c3 _ (by omega)⟩
    · exact (c2.i (k := 46) (j := 33) (by decide)).trans b3.1.1
    · show AS _ _ _
      rw [c2.i (k := 46) (j := 34) (by decide), c2.a (k := 69) (by decide)]
      exact b3.2.1
    · unfold RLb
      rw [c2.a (k := 65) (by decide), c2.a (k := 66) (by decide), c2.a (k := 67) (by decide), c2.a (k := 68) (by decide)]
      exact b3.2.2.2 k hk j hj
    · rw [c2.i (k := 46) (j := 35) (by decide), b2'.1.i (k := 46) (j := 35) (by decide), a2.1.i (k := 46) (j := 35) (by decide)]
      exact h35
  obtain ⟨u5, d1, d2, d3⟩ := m_passes (P := P) (ex := ex) (n := n) (sl := sl) _ u4 _ (Nat.le_refl _) me (fun x => ⟨mu_far, Nat.le_refl _⟩)
  refine ⟨u5, ?_, v4.tr (d2.fv (by decide) (by decide)), ?_, d3⟩
  · rw [E_X8_costs, z_46, ob, E_X8_costs_0, p_46_35, ob, hu1, m_beliefsOf rfl hcu, ob]
    try dsimp only
    rw [t1, ht, a1, ob]
    try dsimp only
    rw [m_beliefsOf rfl hcu, ob]
    try dsimp only
    rw [t2, ht, b1, ob]
    try dsimp only
    rw [c1, E_X8_costs_56, if_neg (by decide)]
    exact d1
  · rw [d2.i (k := 46) (j := 0) (by decide), c2.i (k := 46) (j := 0) (by decide), b2'.1.i (k := 46) (j := 0) (by decide), a2.1.i (k := 46) (j := 0) (by decide)]
    exact h0
theorem m_lastly (h' : ME u D S tl H q h (mu (IIm D S tl H q))) (hS : 0 < S.length) (hv : mu (IIm D S tl H q) (0, 0) < 268435456) : ∃ r, r < 15 ∧ ATT (IIm D S tl H q) r ∧ (∀ r', r' < r → ¬ ATT (IIm D S tl H q) r') ∧ R_X8_lastly_41 (P.2.1 + 46) (mI (mu (IIm D S tl H q) (0, 0))) 0 (hp P u ex n sl) = some (mI r, hp P u ex n sl) := by
  have ex1 : ∃ r, ATT (IIm D S tl H q) r := by
    obtain ⟨r, ps, b, i1, i2⟩ := att_ex hv
    exact ⟨r, ps, b, i1, i2⟩
  obtain ⟨r, r1, r2⟩ := least_ex ex1
  have r15 : r < 15 := by
    obtain ⟨ps, b, i1, -⟩ := r1
    have := i1.lt.2.2.1
    omega
  refine ⟨r, r15, r1, fun r' hr' z => by have := r2 r' z; omega, ?_⟩
  have st : ∀ m, m ≤ r → R_X8_lastly_41 (P.2.1 + 46) (mI (mu (IIm D S tl H q) (0, 0))) 0 (hp P u ex n sl) = R_X8_lastly_41 (P.2.1 + 46) (mI (mu (IIm D S tl H q) (0, 0))) (mI m) (hp P u ex n sl) := by
    intro m
    induction m with
    | zero => intro _; rfl
    | succ m ih =>
      intro hm
      obtain ⟨v, a1, a2⟩ := m_byRule (P := P) (ex := ex) (n := n) (sl := sl) h' hS (s := 0) (Nat.two_pow_pos _) (r := m) (by omega)
      have hne : v ≠ mu (IIm D S tl H q) (0, 0) := fun z => by have := r2 m ((bv_att hv a2).mp z); omega
      have a1' : F_X8_byRule (P.2.1 + 46) (mI m) 0 0 (hp P u ex n sl) = some (mI v, hp P u ex n sl) := a1
      rw [ih (by omega), E_X8_lastly_41, a1', ob]
      try dsimp only
      rw [if_neg (neqN (by have := a2.1; omega) (by omega) hne), mI_s]
  rw [st r (Nat.le_refl _)]
  obtain ⟨v, a1, a2⟩ := m_byRule (P := P) (ex := ex) (n := n) (sl := sl) h' hS (s := 0) (Nat.two_pow_pos _) (r := r) r15
  have a1' : F_X8_byRule (P.2.1 + 46) (mI r) 0 0 (hp P u ex n sl) = some (mI v, hp P u ex n sl) := a1
  rw [E_X8_lastly_41, a1', ob]
  try dsimp only
  rw [if_pos (by rw [(bv_att hv a2).mpr r1])]
end MCS
