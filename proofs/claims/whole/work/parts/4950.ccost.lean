/-! what steps cost in the class -/
section CCO
variable {P : sP} {S0 e : Nat} {w w' u u' v : sW} {ex : Nat → Option sC} {n sl D F L R U k s f cu : Nat} {y : sLn} {φ : Nat → List Nat} {nf ν : Nat → Nat} {nd : Nat → List Nat} {S : List (List Nat)} {A : List Nat} {Z : List zT} {told : Int32} {H : Nat → Prop} {q : Nat → Nat} {c : nN → Nat} {kn : Nat → Prop}
/-- what the class holds when it counts costs in a house -/
def CE (u : sW) (D F L U : Nat) (y : sLn) (φ nd : Nat → List Nat) (nf : Nat → Nat) (S : List (List Nat)) (ν : Nat → Nat) (told : Int32) (H : Nat → Prop) (q : Nat → Nat) (Z : List zT) : Prop := CW u D F L U y φ nd nf ∧ EV u U D nd S ν (asm S S.length) ∧ u.1 38 11 = told ∧ SZ u Z ∧ (∀ z, z ∈ Z ↔ ∃ k, k < S.length ∧ GZ D S (asm S S.length) k z) ∧ (∀ r, r < 16 → u.2.2.1 41 r = mI (@ite _ (H r) (Classical.propDecidable _) (q r) 268435456)) ∧ (∀ r, r < 17 → q r ≤ 99) ∧ q 16 ≤ 9 ∧ u.1 38 12 = mI (q 16)
theorem CE.fr (h : CE u D F L U y φ nd nf S ν told H q Z) (g : Fr [44] [] u u') : CE u' D F L U y φ nd nf S ν told H q Z := by
  obtain ⟨h1, h2, h3, h4, h5, h6, h7, h8, h9⟩ := h
  refine ⟨fCW (g.mo (B' := lkB) (fun _ h => h) (by decide)) (by decide) h1, ?_, (g.i (k := 38) (j := 11) (by decide)).trans h3, h4.fr g (by decide) (by decide), h5, by rw [g.a (k := 41) (by decide)]; exact h6, h7, h8, (g.i (k := 38) (j := 12) (by decide)).trans h9⟩
  obtain ⟨a1, a2, a3, a4, a5⟩ := h2
  refine ⟨a1.fr g (by decide) (by decide) (by decide) (by decide) (by decide) (by decide), a2.fr g (by decide) (by decide) (by decide), ?_, (g.i (k := 9) (j := 0) (by decide)).trans a4, a5⟩
  show AS _ _ _
  rw [g.i (k := 38) (j := 9) (by decide), g.a (k := 42) (by decide)]
  exact a3
theorem CE.K (h : CE u D F L U y φ nd nf S ν told H q Z) : S.length ≤ 40 := h.2.1.2.1.2.1.1
theorem CE.ln (h : CE u D F L U y φ nd nf S ν told H q Z) : LN u U nd S ν := h.2.1.2.1
theorem CE.as (h : CE u D F L U y φ nd nf S ν told H q Z) : ASc u (asm S S.length) := h.2.1.2.2.1
abbrev IIc (D F : Nat) (φ : Nat → List Nat) (S : List (List Nat)) (told : Int32) (H : Nat → Prop) (q : Nat → Nat) := IIm D S (fun j => tol F φ told (at0 S j)) H q
noncomputable def lH (S : List (List Nat)) (H : Nat → Prop) (q : Nat → Nat) (r k : Nat) : Nat := @ite _ (H r) (Classical.propDecidable _) (lcO S q (q 16) r k) 268435456
theorem lcC (h : CE u D F L U y φ nd nf S ν told H q Z) {r k : Nat} (hr : r < 17) (hk : k < S.length) : lcO S q (q 16) r k ≤ 459 := by
  have h1 := h.2.2.2.2.2.2.1 r hr
  have h2 := h.2.2.2.2.2.2.2.1
  have h3 := (h.ln.2.1.2.1 _ (mem_at0.mpr ⟨k, hk, rfl⟩)).2.1
  unfold lcO
  have : (at0 S k).length * q 16 ≤ 40 * 9 := Nat.mul_le_mul h3 h2
  omega
theorem lH_le (h : CE u D F L U y φ nd nf S ν told H q Z) {r k : Nat} (hr : r < 17) (hk : k < S.length) : lH S H q r k ≤ 268435456 := by
  have := lcC h hr hk
  unfold lH
  by_cases g : H r
  · rw [if_pos g]; omega
  · rw [if_neg g]; exact Nat.le_refl _
theorem c_lineCost (h : CE u D F L U y φ nd nf S ν told H q Z) {r k : Nat} {x1 x2 : Int32} (hx1 : x1 = mI r) (hx2 : x2 = mI k) (hr : r < 16) (hk : k < S.length) : F_X4_lineCost (P.2.1 + 38) x1 x2 (hp P u ex n sl) = some (mI (lH S H q r k), hp P u ex n sl) := by
  subst hx1 hx2
  have h40 := h.K
  have hq := h.2.2.2.2.2.2.1 r (by omega)
  have e := h.2.2.2.2.2.1 r hr
  rw [E_X4_lineCost, z_38, ob, E_X4_lineCost_0, if_neg (mI_0 (by omega)), if_neg (show ¬ (16 : Int32) ≤ mI r by rw [nleR (by omega) (by decide)]; exact Nat.not_le.mpr hr), if_neg (mI_0 (by omega)), q_38_8, ob, h.ln.1, if_neg (show ¬ mI S.length ≤ mI k by rw [nle (by omega) (by omega)]; omega), E_X4_lineCost_27, if_neg (by decide), q_38_4, ob, ra_41 (by omega), ob, e]
  unfold lH
  by_cases g : H r
  · rw [if_pos g, if_pos g, if_neg (show ¬ mI (q r) = 268435456 from neqN (m := 268435456) (by omega) (by decide) (by omega)), ob, ra_41 (by omega), ob, e, if_pos g, q_38_3, ob, ra_40 (by omega), ob, (h.ln.2.2 k hk).2.2.2, q_38_12, ob, h.2.2.2.2.2.2.2.2, mI_mul, mI_add]
    rfl
  · rw [if_neg g, if_neg g, if_pos (show mI 268435456 = 268435456 from rfl), E_X4_lineCost_43]
    rfl
theorem c_limited {a : Nat} {σ : sS} (ha : a < 2 ^ 31) : F_X4_limited (mI a) σ = some (mI (lmt a), σ) := by
  rw [E_X4_limited, E_X4_limited_0]
  unfold lmt
  by_cases g : a ≤ 99999
  · rw [if_pos g, if_pos (show mI a ≤ 99999 by rw [nleL ha (by decide)]; exact g)]
  · rw [if_neg g, if_neg (show ¬ mI a ≤ 99999 by rw [nleL ha (by decide)]; exact g)]
    rfl
/-- the costs of the sets that are known -/
def CA (u : sW) (K : Nat) (kn : Nat → Prop) (c : nN → Nat) : Prop := ∀ k, k < K → ∀ s, s < 8 → kn s → u.2.2.1 44 (s * 40 + k) = mI (c (k, s))
theorem c_costAt (hA : CA u S.length kn c) (h40 : S.length ≤ 40) {x1 x2 : Int32} (hx1 : x1 = mI s) (hx2 : x2 = mI k) (hs : s < 8) (hk : k < S.length) (hkn : kn s) : F_X4_costAt (P.2.1 + 38) x1 x2 (hp P u ex n sl) = some (mI (c (k, s)), hp P u ex n sl) := by
  subst hx1 hx2
  have e : mI s * 40 + mI k = mI (s * 40 + k) := by
    show mI s * mI 40 + mI k = _
    rw [mI_mul, mI_add]
  rw [E_X4_costAt, z_38, ob, E_X4_costAt_0, e, if_neg (mI_0 (by omega)), q_38_7, ob, n_44, ob, if_neg (show ¬ mI 320 ≤ mI (s * 40 + k) by rw [nle (by decide) (by omega)]; omega), ob, ra_44 (by omega), ob, hA k hk s hs hkn]
theorem c_improve (hA : CA u S.length kn c) (h40 : S.length ≤ 40) {a : Nat} {x1 x2 x3 : Int32} (hx1 : x1 = mI s) (hx2 : x2 = mI k) (hx3 : x3 = mI a) (hs : s < 8) (hk : k < S.length) (hkn : kn s) (ha : a ≤ 268435456) (hc : c (k, s) ≤ 268435456) : ∃ u' c' fl, F_X4_improve (P.2.1 + 38) x1 x2 x3 (hp P u ex n sl) = some (fl, hp P u' ex n sl) ∧ Fr [44] [] u u' ∧ CA u' S.length kn c' ∧ c' (k, s) ≤ a ∧ (c' (k, s) = a ∨ c' (k, s) = c (k, s)) ∧ (∀ x, c' x ≤ c x) ∧ (∀ x, x ≠ (k, s) → c' x = c x) ∧ ((fl = 0 ∧ c' = c) ∨ fl = 1) := by
  subst hx1 hx2 hx3
  have e : mI s * 40 + mI k = mI (s * 40 + k) := by
    show mI s * mI 40 + mI k = _
    rw [mI_mul, mI_add]
  rw [E_X4_improve, z_38, ob, E_X4_improve_0, e, if_neg (mI_0 (by omega)), q_38_7, ob, n_44, ob, if_neg (show ¬ mI 320 ≤ mI (s * 40 + k) by rw [nle (by decide) (by omega)]; omega), ob, ra_44 (by omega), ob, hA k hk s hs hkn]
  by_cases g : a < c (k, s)
  · rw [if_pos (show mI a < mI (c (k, s)) by rw [nlt (by omega) (by omega)]; exact g), ob, wa_44 (by omega), ob]
    have eu : updN c (k, s) a (k, s) = a := by unfold updN; rw [if_pos rfl]
    have en : ∀ x, x ≠ (k, s) → updN c (k, s) a x = c x := fun x hx => by unfold updN; rw [if_neg hx]
    refine ⟨_, updN c (k, s) a, 1, rfl, Fr.rf.pA (by decide), fun k' hk' s' hs' hkn' => ?_, by rw [eu]; exact Nat.le_refl _, Or.inl eu, fun x => ?_, en, Or.inr rfl⟩
    · by_cases g2 : (k', s') = (k, s)
      · cases g2; rw [eu]; exact wA_s
      · rw [en _ g2, wA_n (Or.inr (fun z => g2 (by
          have h1 : s' = s := by omega
          have h2 : k' = k := by omega
          rw [h1, h2])))]
        exact hA k' hk' s' hs' hkn'
    · by_cases g2 : x = (k, s)
      · rw [g2, eu]; omega
      · rw [en x g2]; exact Nat.le_refl _
  · rw [if_neg (show ¬ mI a < mI (c (k, s)) by rw [nlt (by omega) (by omega)]; exact g)]
    exact ⟨u, c, 0, rfl, Fr.rf, hA, by omega, Or.inr rfl, fun _ => Nat.le_refl _, fun _ _ => rfl, Or.inl ⟨rfl, rfl⟩⟩
theorem c_costAlone (h : CE u D F L U y φ nd nf S ν told H q Z) {x1 x2 : Int32} (hx1 : x1 = mI s) (hx2 : x2 = mI k) (hs : s < 2 ^ (asm S S.length).length) (hk : k < S.length) : ∃ a, F_X4_costAlone (P.2.1 + 38) x1 x2 (hp P u ex n sl) = some (mI a, hp P u ex n sl) ∧ a ≤ 268435456 ∧ (a < 268435456 → ∃ r, r < 2 ∧ IIc D F φ S told H q r (k, s) [] a ∧ a ≤ 99999) ∧ ∀ r ps b, r < 2 → IIc D F φ S told H q r (k, s) ps b → a ≤ b + sumC c ps := by
  subst hx1 hx2
  have h40 := h.K
  have hs8 := s_8 hs
  obtain ⟨l1, l2, l3, -⟩ := h.ln.2.2 k hk
  have lc0 := lcC h (r := 0) (by decide) hk
  have lc1 := lcC h (r := 1) (by decide) hk
  have b0 := lH_le h (r := 0) (by decide) hk
  have b1 := lH_le h (r := 1) (by decide) hk
  -- the second half
  have half : ∀ a, a ≤ 268435456 → (a < 268435456 → IIc D F φ S told H q 0 (k, s) [] a ∧ a ≤ 99999) → (∀ ps b, IIc D F φ S told H q 0 (k, s) ps b → a ≤ b + sumC c ps) → ∃ a', R_X4_costAlone_30 (P.2.1 + 38) (mI s) (mI k) (mI a) (hp P u ex n sl) = some (mI a', hp P u ex n sl) ∧ a' ≤ 268435456 ∧ (a' < 268435456 → ∃ r, r < 2 ∧ IIc D F φ S told H q r (k, s) [] a' ∧ a' ≤ 99999) ∧ ∀ r ps b, r < 2 → IIc D F φ S told H q r (k, s) ps b → a' ≤ b + sumC c ps := by
    intro a a1 a2 a3
    have none1 : (¬ ∃ m, m < (asm S S.length).length ∧ (asm S S.length).getD m 0 = k ∧ s.testBit m = true) → a ≤ 268435456 ∧ (a < 268435456 → ∃ r, r < 2 ∧ IIc D F φ S told H q r (k, s) [] a ∧ a ≤ 99999) ∧ ∀ r ps b, r < 2 → IIc D F φ S told H q r (k, s) ps b → a ≤ b + sumC c ps := by
      intro g
      refine ⟨a1, fun z => ⟨0, by decide, a2 z⟩, fun r ps b hr hI => ?_⟩
      have : r = 0 ∨ r = 1 := by omega
      rcases this with rfl | rfl
      · exact a3 ps b hI
      · obtain ⟨-, -, -, ⟨g4, -⟩ | ⟨-, g4, -⟩ | ⟨g4, -⟩ | ⟨g4, -⟩ | ⟨l, g4, -⟩⟩ := hI
        · cases g4
        · exact absurd g4 g
        · cases g4
        · cases g4
        · exact absurd g4.r.1 (by decide)
    rw [E_X4_costAlone_30, c_slotOf rfl h.as (by omega), ob]
    try dsimp only
    cases es : slO (asm S S.length) k with
    | none =>
      rw [if_pos (show thOf none = -1 from rfl)]
      refine ⟨a, rfl, none1 ?_⟩
      rintro ⟨m, m1, m2, -⟩
      rw [slO_of (asm_ok S.length).2.1 m1 m2] at es
      cases es
    | some m =>
      obtain ⟨m1, m2⟩ := slO_some es
      have hm : m < 3 := Nat.lt_of_lt_of_le m1 (asm_ok S.length).1
      rw [if_neg (show ¬ thOf (some m) = -1 from mI_m1 (by omega)), thOf_some]
      by_cases g : s.testBit m = true
      · have gb : ¬ ((mI s >>> (mI m &&& 31)) &&& 1 = 0) := fun z => by
          have := (bit_s s hs8 m hm).mpr g
          rw [z] at this
          exact absurd this (by decide)
        rw [if_neg gb, c_lineCost h (r := 1) (x1 := 1) rfl rfl (by decide) hk, ob]
        try dsimp only
        rw [ite_mI (by omega) (by omega)]
        have eH : H 1 → lH S H q 1 k = lcO S q (q 16) 1 k := fun z => if_pos z
        have eN : ¬ H 1 → lH S H q 1 k = 268435456 := fun z => if_neg z
        refine ⟨_, rfl, ?_, fun z => ?_, fun r ps b hr hI => ?_⟩
        · by_cases g2 : lH S H q 1 k < a
          · rw [if_pos g2]; omega
          · rw [if_neg g2]; exact a1
        · by_cases g2 : lH S H q 1 k < a
          · rw [if_pos g2] at z ⊢
            have h1 : H 1 := Classical.byContradiction fun g3 => by rw [eN g3] at z; exact absurd z (Nat.lt_irrefl _)
            refine ⟨1, by decide, ⟨hk, hs, h1, Or.inr (Or.inl ⟨rfl, ⟨m, m1, m2, g⟩, rfl, eH h1⟩)⟩, by rw [eH h1]; omega⟩
          · rw [if_neg g2] at z ⊢
            exact ⟨0, by decide, a2 z⟩
        · have : r = 0 ∨ r = 1 := by omega
          rcases this with rfl | rfl
          · have := a3 ps b hI
            by_cases g2 : lH S H q 1 k < a
            · rw [if_pos g2]; omega
            · rw [if_neg g2]; exact this
          · have h1 : H 1 := hI.2.2.1
            obtain ⟨-, -, -, ⟨g4, -⟩ | ⟨-, -, rfl, rfl⟩ | ⟨g4, -⟩ | ⟨g4, -⟩ | ⟨l, g4, -⟩⟩ := hI
            · cases g4
            · rw [eH h1]
              by_cases g2 : lcO S q (q 16) 1 k < a
              · rw [if_pos g2]; exact Nat.le_add_right _ _
              · rw [if_neg g2]; exact Nat.le_trans (Nat.not_lt.mp g2) (Nat.le_add_right _ _)
            · cases g4
            · cases g4
            · exact absurd g4.r.1 (by decide)
      · have gb : (mI s >>> (mI m &&& 31)) &&& 1 = 0 := by
          have h1 : ∀ s, s < 8 → ∀ m, m < 3 → s.testBit m = false → (mI s >>> (mI m &&& 31)) &&& 1 = 0 := by decide
          exact h1 s hs8 m hm (by simpa using g)
        rw [if_pos gb]
        refine ⟨a, rfl, none1 ?_⟩
        rintro ⟨m', n1, n2, n3⟩
        rw [slO_of (asm_ok S.length).2.1 n1 n2] at es
        cases es
        exact g n3
  rw [E_X4_costAlone, z_38, ob, E_X4_costAlone_0, q_38_1, ob, q_38_11, ob, h.2.2.1, q_38_2, ob, ra_39 (by omega), ob, l1, c_isAmong h.1 rfl l2, ob, l3]
  try dsimp only
  by_cases g : tol F φ told (at0 S k)
  · rw [if_neg (fun z => b2_0.mp z g), c_lineCost h (r := 0) (x1 := 0) rfl rfl (by decide) hk, ob]
    refine half _ b0 (fun z => ?_) (fun ps b hI => ?_)
    · have h0 : H 0 := Classical.byContradiction fun g3 => by
        unfold lH at z
        rw [if_neg g3] at z
        exact absurd z (Nat.lt_irrefl _)
      have e0 : lH S H q 0 k = lcO S q (q 16) 0 k := if_pos h0
      rw [e0]
      exact ⟨⟨hk, hs, h0, Or.inl ⟨rfl, g, rfl, rfl⟩⟩, by omega⟩
    · have h0 : H 0 := hI.2.2.1
      have e0 : lH S H q 0 k = lcO S q (q 16) 0 k := if_pos h0
      obtain ⟨-, -, -, ⟨-, -, rfl, rfl⟩ | ⟨g4, -⟩ | ⟨g4, -⟩ | ⟨g4, -⟩ | ⟨l, g4, -⟩⟩ := hI
      · rw [e0]; exact Nat.le_add_right _ _
      · cases g4
      · cases g4
      · cases g4
      · exact absurd g4.r.1 (by decide)
  · rw [if_pos (b2_0.mpr g)]
    refine half 268435456 (Nat.le_refl _) (fun z => absurd z (Nat.lt_irrefl _)) (fun ps b hI => ?_)
    obtain ⟨-, -, -, ⟨-, g4, -⟩ | ⟨g4, -⟩ | ⟨g4, -⟩ | ⟨g4, -⟩ | ⟨l, g4, -⟩⟩ := hI
    · exact absurd g4 g
    · cases g4
    · cases g4
    · cases g4
    · exact absurd g4.r.1 (by decide)
end CCO
