/-! the class lists the steps of a place: or, all, some -/
section CSU
variable {P : sP} {S0 e : Nat} {w w' u u' v : sW} {ex : Nat → Option sC} {n sl D F L R U k : Nat} {y : sLn} {φ : Nat → List Nat} {nf ν : Nat → Nat} {nd : Nat → List Nat} {S : List (List Nat)} {A : List Nat} {Z : List zT}
theorem made_4 (hE : EV u U D nd S ν A) {i a b : Nat} (hi : i < S.length) (ha : a < U) (hb : b < U) : (u.2.2.1 2 (ν i) = 4 ∧ u.2.2.1 3 (ν i) = mI a ∧ u.2.2.1 4 (ν i) = mI b) ↔ at0 S i = 15 :: (nd a ++ nd b) := by
  have hN := hE.1
  have hU : U ≤ 2 ^ 17 := Nat.le_trans hN.2.1 hN.2.2.1
  have key : ∀ j, j < 7 → j ≠ 4 → ¬ mI j = 4 := fun j h1 h2 => neqN (m := 4) (by omega) (by decide) h2
  rcases nf_k hN hE.2.1 hi with ⟨e2, e3, -⟩ | ⟨a', e2, e3, ha', en, -⟩ | ⟨j, a', b', hj, e2, e3, e4, ha', hb', en⟩ | ⟨j, a', hj, e2, ha', en, -⟩
  · constructor
    · rintro ⟨z, -⟩; rw [e2] at z; exact absurd z (key 0 (by decide) (by decide))
    · intro z; rw [op_c z] at e3; exact absurd e3 (by decide)
  · constructor
    · rintro ⟨z, -⟩; rw [e2] at z; exact absurd z (key 1 (by decide) (by decide))
    · intro z; rw [en] at z; exact absurd (List.cons.inj z).1 (by decide)
  · constructor
    · rintro ⟨z1, z2, z3⟩
      have j4 : j = 4 := Classical.byContradiction fun g => by rw [e2] at z1; exact key j (by omega) g z1
      rw [e3, mI_inj (by omega) (by omega)] at z2
      rw [e4, mI_inj (by omega) (by omega)] at z3
      rw [en, j4, z2, z3]
    · intro z
      rw [en] at z
      obtain ⟨z1, z2⟩ := List.cons.inj z
      have j4 : j = 4 := by omega
      obtain ⟨z3, z4⟩ := wff_uni (nd_wff hN a' ha') (nd_wff hN a ha) z2
      have h3 := hN.2.2.2.2 _ _ ha' ha z3
      have h4 := hN.2.2.2.2 _ _ hb' hb z4
      refine ⟨?_, ?_, ?_⟩
      · rw [e2, j4]; rfl
      · rw [e3, h3]
      · rw [e4, h4]
  · constructor
    · rintro ⟨z, -⟩; rw [e2] at z; exact absurd z (key j (by omega) (by omega))
    · intro z; rw [en] at z; have := (List.cons.inj z).1; omega
theorem c_placeOfIf (hE : EV u U D nd S ν A) {a b : Nat} (ha : a < U) (hb : b < U) : F_X4_placeOfIf (P.2.1 + 38) (mI a) (mI b) (hp P u ex n sl) = some (thOf (pos S (15 :: (nd a ++ nd b))), hp P u ex n sl) := by
  obtain ⟨h8, hS, hν⟩ := hE.2.1
  have hk40 := hS.1
  rw [E_X4_placeOfIf, z_38, ob, E_X4_placeOfIf_0]
  rcases loopX (f := fun k => R_X4_placeOfIf_2 (P.2.1 + 38) (mI a) (mI b) (mI k) (hp P u ex n sl)) (N := S.length) (p := fun k => at0 S k = 15 :: (nd a ++ nd b)) (r0 := ((-1 : Int32), hp P u ex n sl)) (r1 := fun k => (mI k, hp P u ex n sl)) (fun k hk h => by
      try dsimp only
      rw [E_X4_placeOfIf_2, q_38_8, ob, h8, if_neg (show ¬ mI S.length ≤ mI k by rw [nle (by omega) (by omega)]; omega), q_38_0, ob, q_38_2, ob, ra_39 (by omega), ob, (hν k hk).1, c_isMade hE.1 rfl (hν k hk).2.1, ob]
      try dsimp only
      rw [if_pos (b2_0.mpr (fun z => h ((made_4 hE hk ha hb).mp z))), mI_s]) (fun k hk h => by
      try dsimp only
      rw [E_X4_placeOfIf_2, q_38_8, ob, h8, if_neg (show ¬ mI S.length ≤ mI k by rw [nle (by omega) (by omega)]; omega), q_38_0, ob, q_38_2, ob, ra_39 (by omega), ob, (hν k hk).1, c_isMade hE.1 rfl (hν k hk).2.1, ob]
      try dsimp only
      rw [if_neg (fun z => b2_0.mp z ((made_4 hE hk ha hb).mpr h))]) (by
      try dsimp only
      rw [E_X4_placeOfIf_2, q_38_8, ob, h8, if_pos (by rw [nle (by omega) (by omega)]; exact Nat.le_refl _)]) with ⟨k, h1, h2, h3, h4⟩ | ⟨h1, h2⟩
  · rw [pos_of h1 h2 h3]; exact h4
  · rw [pos_none.mpr (fun z => by obtain ⟨i, i1, i2⟩ := mem_at0.mp z; exact h1 i i1 i2)]; exact h2
/-- the steps by cases, found at one if -/
def Q9 (S : List (List Nat)) (a b : List Nat) (k j : Nat) (z : zT) : Prop := ∃ t m, t < S.length ∧ at0 S j = 15 :: (a ++ at0 S t) ∧ pos S (15 :: (b ++ at0 S t)) = some m ∧ z = (9, t, some k, some j, some m)
theorem c_or9 (hE : EV u U D nd S ν A) {a b : Nat} (ha : a < U) (hb : b < U) (hk : k < S.length) : ∀ d j (v : sW) X0 X, j + d = S.length → Fr [43] [3810] u v → SZ v (Z ++ (X0 ++ X)) → (∀ z, z ∈ X ↔ ∃ j', j' < j ∧ Q9 S (nd a) (nd b) k j' z) → X.length ≤ cntP (fun i => opO S i = 15) j → Z.length + X0.length + cntP (fun i => opO S i = 15) S.length ≤ 560 → ∃ u' X', R_X4_listOrSteps_62 (P.2.1 + 38) (mI k) (mI a) (mI b) (mI j) (hp P v ex n sl) = some ((), hp P u' ex n sl) ∧ Fr [43] [3810] u u' ∧ SZ u' (Z ++ (X0 ++ X')) ∧ (∀ z, z ∈ X' ↔ ∃ j', j' < S.length ∧ Q9 S (nd a) (nd b) k j' z) ∧ X'.length ≤ cntP (fun i => opO S i = 15) S.length := by
  have hU : U ≤ 2 ^ 17 := Nat.le_trans hE.1.2.1 hE.1.2.2.1
  have h40 := hE.2.1.2.1.1
  have hnd := hE.2.1.2.1.2.2
  intro d
  induction d with
  | zero =>
    intro j v X0 X hj hv hZ hX hl _
    have hj' : j = S.length := by omega
    subst hj'
    refine ⟨v, X, ?_, hv, hZ, hX, hl⟩
    rw [E_X4_listOrSteps_62, q_38_8, ob, (hE.fr hv).2.1.1, if_pos (by rw [nle (by omega) (by omega)]; exact Nat.le_refl _)]
  | succ d ih =>
    intro j v X0 X hj hv hZ hX hl hb560
    have hjl : j < S.length := by omega
    have hEv := hE.fr hv
    obtain ⟨hNv, hLv, hAv, -⟩ := hEv
    obtain ⟨l1, l2, l3, -⟩ := hLv.2.2 j hjl
    -- nothing new
    have skip : (∀ z, ¬ Q9 S (nd a) (nd b) k j z) → R_X4_listOrSteps_62 (P.2.1 + 38) (mI k) (mI a) (mI b) (mI j) (hp P v ex n sl) = R_X4_listOrSteps_151 (P.2.1 + 38) (mI k) (mI a) (mI b) (mI j) (hp P v ex n sl) → ∃ u' X', R_X4_listOrSteps_62 (P.2.1 + 38) (mI k) (mI a) (mI b) (mI j) (hp P v ex n sl) = some ((), hp P u' ex n sl) ∧ Fr [43] [3810] u u' ∧ SZ u' (Z ++ (X0 ++ X')) ∧ (∀ z, z ∈ X' ↔ ∃ j', j' < S.length ∧ Q9 S (nd a) (nd b) k j' z) ∧ X'.length ≤ cntP (fun i => opO S i = 15) S.length := by
      intro hn he
      rw [he, E_X4_listOrSteps_151, mI_s]
      refine ih (j + 1) v X0 X (by omega) hv hZ (fun z => ?_) ?_ hb560
      · rw [hX z]
        constructor
        · rintro ⟨j', h1, h2⟩; exact ⟨j', by omega, h2⟩
        · rintro ⟨j', h1, h2⟩
          by_cases g : j' = j
          · rw [g] at h2; exact absurd h2 (hn z)
          · exact ⟨j', by omega, h2⟩
      · by_cases g : opO S j = 15
        · rw [cntP_t (p := fun i => opO S i = 15) g]; omega
        · rw [cntP_f (p := fun i => opO S i = 15) g]; exact hl
    have e0 : R_X4_listOrSteps_62 (P.2.1 + 38) (mI k) (mI a) (mI b) (mI j) (hp P v ex n sl) = (if v.2.2.1 2 (ν j) = 4 then ((F_X2_firstOf (P.2.1 + 1) (mI (ν j)) (hp P v ex n sl)).bind fun q7 => if q7.1 = mI a then ((s_fr q7.2 (P.2.1 + 38) 4 0).bind fun x8 => (F_X2_secondOf x8 (mI (ν j)) q7.2).bind fun q9 => (F_X4_placeOfIf (P.2.1 + 38) (mI b) q9.1 q9.2).bind fun q10 => if q10.1 = (-1) then (R_X4_listOrSteps_151 (P.2.1 + 38) (mI k) (mI a) (mI b) (mI j) q10.2) else ((F_X4_placeOf (P.2.1 + 38) q9.1 q10.2).bind fun q11 => (F_X4_addStep (P.2.1 + 38) 9 q11.1 (mI k) (mI j) q10.1 q11.2).bind fun q12 => R_X4_listOrSteps_151 (P.2.1 + 38) (mI k) (mI a) (mI b) (mI j) q12.2)) else (R_X4_listOrSteps_151 (P.2.1 + 38) (mI k) (mI a) (mI b) (mI j) q7.2)) else (R_X4_listOrSteps_151 (P.2.1 + 38) (mI k) (mI a) (mI b) (mI j) (hp P v ex n sl))) := by
      rw [E_X4_listOrSteps_62, q_38_8, ob, hLv.1, if_neg (show ¬ mI S.length ≤ mI j by rw [nle (by omega) (by omega)]; omega), q_38_2, ob, ra_39 (by omega), ob, l1, q_38_0, ob, c_kindOf hNv rfl l2, ob]
      dsimp only
      rw [q_38_0, ob]
    have no4 : opO S j ≠ 15 → ∀ z, ¬ Q9 S (nd a) (nd b) k j z := fun g z hz => by
      obtain ⟨t, m, -, h2, -⟩ := hz
      exact g (op_c h2)
    have key : ∀ i, i < 7 → i ≠ 4 → ¬ mI i = 4 := fun i h1 h2 => neqN (m := 4) (by omega) (by decide) h2
    rcases nf_k hNv hLv hjl with ⟨e2, e3, -⟩ | ⟨a', e2, e3, ha', en, -⟩ | ⟨i, a', b', hi, e2, e3, e4, ha', hb', en⟩ | ⟨i, a', hi, e2, ha', en, -⟩
    · exact skip (no4 (by omega)) (by rw [e0, e2, if_neg (key 0 (by decide) (by decide))])
    · exact skip (no4 (by rw [op_c en]; decide)) (by rw [e0, e2, if_neg (key 1 (by decide) (by decide))])
    · by_cases g4 : i = 4
      · subst g4
        have ho : opO S j = 15 := op_c en
        rw [e2, if_pos (show mI 4 = 4 from rfl), c_firstOf hNv rfl l2, ob, e3] at e0
        try dsimp only at e0
        by_cases ga : a' = a
        · subst ga
          rw [if_pos rfl, q_38_0, ob, c_secondOf hNv rfl l2, ob, e4] at e0
          try dsimp only at e0
          rw [c_placeOfIf (hE.fr hv) hb hb', ob] at e0
          try dsimp only at e0
          cases ep : pos S (15 :: (nd b ++ nd b')) with
          | none =>
            rw [ep, if_pos (show thOf none = -1 from rfl)] at e0
            refine skip (fun z hz => ?_) e0
            obtain ⟨t, m, h1, h2, h3, -⟩ := hz
            rw [en] at h2
            have := (wff_uni (nd_wff hNv a' ha') (nd_wff hNv a' ha') (List.cons.inj h2).2).2
            rw [← this, ep] at h3
            cases h3
          | some m =>
            have hm := (pos_some ep).1
            rw [ep, if_neg (show ¬ thOf (some m) = -1 from mI_m1 (by omega)), c_placeOf hNv hLv.lc hb', ob] at e0
            try dsimp only at e0
            have hc1 := cntP_t (p := fun i => opO S i = 15) ho
            have hc2 : cntP (fun i => opO S i = 15) (j + 1) ≤ cntP (fun i => opO S i = 15) S.length := by
              obtain ⟨d', hd'⟩ := Nat.exists_eq_add_of_le (show j + 1 ≤ S.length by omega)
              rw [hd']
              clear hd'
              induction d' with
              | zero => exact Nat.le_refl _
              | succ d' ih' =>
                refine Nat.le_trans ih' ?_
                show _ ≤ cntP (fun i => opO S i = 15) (j + 1 + d' + 1)
                by_cases gg : opO S (j + 1 + d') = 15
                · rw [cntP_t (p := fun i => opO S i = 15) gg]; omega
                · rw [cntP_f (p := fun i => opO S i = 15) gg]; exact Nat.le_refl _
            obtain ⟨v1, b1, b2', b3⟩ := c_addStep (P := P) (ex := ex) (n := n) (sl := sl) (r := 9) (o := pos S (nd b')) (p1 := some k) (p2 := some j) (p3 := some m) (x1 := 9) (x2 := thOf (pos S (nd b'))) (x3 := mI k) (x4 := mI j) (x5 := thOf (some m)) rfl rfl rfl rfl rfl hZ (by simp only [List.length_append]; omega) (fun i h => by have := (pos_some h).1; omega)
            rw [b1, ob] at e0
            try dsimp only at e0
            rw [e0, E_X4_listOrSteps_151, mI_s]
            have q1 := adZ_len (r := 9) (o := pos S (nd b')) (p1 := some k) (p2 := some j) (p3 := some m)
            refine ih (j + 1) v1 X0 (X ++ adZ 9 (pos S (nd b')) (some k) (some j) (some m)) (by omega) (hv.tr b2') (by simpa only [List.append_assoc] using b3) (fun z => ?_) (by rw [List.length_append, hc1]; omega) hb560
            rw [List.mem_append, hX z, mem_adZ]
            constructor
            · rintro (⟨j', h1, h2⟩ | ⟨t, h1, h2⟩)
              · exact ⟨j', by omega, h2⟩
              · obtain ⟨t1, t2, -⟩ := pos_some h1
                exact ⟨j, by omega, t, m, t1, by rw [en, t2], by rw [t2]; exact ep, h2⟩
            · rintro ⟨j', h1, h2⟩
              by_cases g : j' = j
              · subst g
                obtain ⟨t, m', t1, t2, t3, t4⟩ := h2
                rw [en] at t2
                have t5 := (wff_uni (nd_wff hNv a' ha') (nd_wff hNv a' ha') (List.cons.inj t2).2).2
                rw [← t5, ep] at t3
                cases t3
                exact Or.inr ⟨t, by rw [t5]; exact pos_at hnd t1, t4⟩
              · exact Or.inl ⟨j', by omega, h2⟩
        · rw [if_neg (neqN (by omega) (by omega) ga)] at e0
          refine skip (fun z hz => ?_) e0
          obtain ⟨t, m, h1, h2, -⟩ := hz
          rw [en] at h2
          exact ga (hNv.2.2.2.2 _ _ ha' ha (wff_uni (nd_wff hNv a' ha') (nd_wff hNv a ha) (List.cons.inj h2).2).1)
      · exact skip (no4 (by rw [op_c en]; omega)) (by rw [e0, e2, if_neg (key i (by omega) g4)])
    · exact skip (no4 (by rw [op_c en]; omega)) (by rw [e0, e2, if_neg (key i (by omega) (by omega))])
theorem c_lsOr (hE : EV u U D nd S ν A) (hZ : SZ u Z) (hl : Z.length + (2 + cntP (fun i => opO S i = 15) S.length) ≤ 560) (hk : k < S.length) (ho : opO S k = 14) : LSz P ex n sl u Z D S A k (2 + cntP (fun i => opO S i = 15) S.length) (F_X4_listOrSteps (P.2.1 + 38) (mI k) (thOf (lfO S k)) (thOf (rtO S k)) (hp P u ex n sl)) := by
  have h40 := hE.2.1.2.1.1
  have hnd := hE.2.1.2.1.2.2
  have l40 : ∀ i, lfO S k = some i → i < 40 := fun i h => by have := lf_lt h; omega
  have r40 : ∀ i, rtO S k = some i → i < 40 := fun i h => by have := rt_lt h; omega
  obtain ⟨l1, l2, l3, -⟩ := hE.2.1.2.2 k hk
  -- the node
  have nk : ∃ a b, a < U ∧ b < U ∧ at0 S k = 14 :: (nd a ++ nd b) ∧ u.2.2.1 3 (ν k) = mI a ∧ u.2.2.1 4 (ν k) = mI b := by
    rcases nf_k hE.1 hE.2.1 hk with ⟨e2, e3, -⟩ | ⟨a', e2, e3, ha', en, -⟩ | ⟨i, a', b', hi, e2, e3, e4, ha', hb', en⟩ | ⟨i, a', hi, e2, ha', en, -⟩
    · omega
    · rw [op_c en] at ho; exact absurd ho (by decide)
    · rw [op_c en] at ho
      have : i = 3 := by omega
      subst this
      exact ⟨a', b', ha', hb', en, e3, e4⟩
    · rw [op_c en] at ho; omega
  obtain ⟨a, b, ha, hb, en, e3, e4⟩ := nk
  have cF := fun t => cF_2 (S := S) (k := k) (j := t) en (nd_wff hE.1 a ha)
  -- the third part
  have third : ∀ (v : sW) X0, Fr [43] [3810] u v → SZ v (Z ++ X0) → X0.length ≤ 2 → (∀ z, z ∈ X0 ↔ (∃ i, lfO S k = some i ∧ z = (5, k, some i, none, none)) ∨ (∃ i, rtO S k = some i ∧ z = (6, k, some i, none, none))) → LSz P ex n sl u Z D S A k (2 + cntP (fun i => opO S i = 15) S.length) (R_X4_listOrSteps_29 (P.2.1 + 38) (mI k) (hp P v ex n sl)) := by
    intro v X0 hv hZ0 h2 hX0
    have hEv := hE.fr hv
    obtain ⟨m1, m2, m3, -⟩ := hEv.2.1.2.2 k hk
    obtain ⟨u', X', r1, r2, r3, r4, r5⟩ := c_or9 (P := P) (ex := ex) (n := n) (sl := sl) (Z := Z) hE ha hb hk S.length 0 v X0 [] (by omega) hv (by rw [List.append_nil]; exact hZ0) (fun z => by simp) (by simp) (by omega)
    refine ⟨u', X0 ++ X', ?_, r2, r3, fun z => ?_, by rw [List.length_append]; omega⟩
    · rw [E_X4_listOrSteps_29, q_38_0, ob, q_38_2, ob, ra_39 (by omega), ob, m1, c_firstOf hEv.1 rfl l2, ob]
      try dsimp only
      rw [q_38_0, ob, q_38_2, ob, ra_39 (by omega), ob, m1, c_secondOf hEv.1 rfl l2, ob]
      try dsimp only
      rw [hv.a (k := 3) (by decide), hv.a (k := 4) (by decide), e3, e4]
      exact r1
    · rw [gz_14 ho, List.mem_append, hX0, r4, or_assoc]
      refine or_congr Iff.rfl (or_congr Iff.rfl ?_)
      constructor
      · rintro ⟨j, h1, t, m, t1, t2, t3, t4⟩
        exact ⟨t, j, m, t1, by rw [(cF t).1, ← t2]; exact pos_at hnd h1, by rw [(cF t).2]; exact t3, t4⟩
      · rintro ⟨t, j, m, t1, t2, t3, t4⟩
        rw [(cF t).1] at t2
        rw [(cF t).2] at t3
        obtain ⟨j1, j2, -⟩ := pos_some t2
        exact ⟨j, j1, t, m, t1, j2, t3, t4⟩
  have second : ∀ (v : sW) X0, Fr [43] [3810] u v → SZ v (Z ++ X0) → X0.length ≤ 1 → (∀ z, z ∈ X0 ↔ ∃ i, lfO S k = some i ∧ z = (5, k, some i, none, none)) → LSz P ex n sl u Z D S A k (2 + cntP (fun i => opO S i = 15) S.length) (R_X4_listOrSteps_14 (P.2.1 + 38) (mI k) (thOf (rtO S k)) (hp P v ex n sl)) := by
    intro v X0 hv hZ0 h2 hX0
    rw [E_X4_listOrSteps_14]
    cases er : rtO S k with
    | none =>
      rw [if_pos (show thOf none = -1 from rfl)]
      exact third v X0 hv hZ0 (by omega) (fun z => by rw [hX0]; simp [er])
    | some j =>
      have hj := r40 j er
      obtain ⟨v1, b1, b2', b3⟩ := c_addStep (P := P) (ex := ex) (n := n) (sl := sl) (r := 6) (o := some k) (p1 := some j) (p2 := none) (p3 := none) (x1 := 6) (x2 := mI k) (x3 := thOf (some j)) (x4 := -1) (x5 := -1) rfl rfl rfl rfl rfl hZ0 (by rw [List.length_append]; omega) (fun m h => by cases h; omega)
      rw [if_neg (show ¬ thOf (some j) = -1 from mI_m1 (by omega)), b1, ob]
      refine third v1 (X0 ++ adZ 6 (some k) (some j) none none) (hv.tr b2') (by rw [← List.append_assoc]; exact b3) (by rw [List.length_append]; exact Nat.add_le_add h2 adZ_len) (fun z => ?_)
      rw [List.mem_append, hX0, mem_adZ]
      simp [er]
  rw [E_X4_listOrSteps, z_38, ob, E_X4_listOrSteps_0]
  cases el : lfO S k with
  | none =>
    rw [if_pos (show thOf none = -1 from rfl)]
    exact second u [] Fr.rf (by rw [List.append_nil]; exact hZ) (by simp) (fun z => by simp [el])
  | some i =>
    have hi := l40 i el
    obtain ⟨v1, b1, b2', b3⟩ := c_addStep (P := P) (ex := ex) (n := n) (sl := sl) (r := 5) (o := some k) (p1 := some i) (p2 := none) (p3 := none) (x1 := 5) (x2 := mI k) (x3 := thOf (some i)) (x4 := -1) (x5 := -1) rfl rfl rfl rfl rfl hZ (by omega) (fun m h => by cases h; omega)
    rw [if_neg (show ¬ thOf (some i) = -1 from mI_m1 (by omega)), b1, ob]
    refine second v1 (adZ 5 (some k) (some i) none none) b2' b3 adZ_len (fun z => ?_)
    rw [mem_adZ]
    simp [el]
/-- an instance's place -/
theorem c_inst (hE : EV u U D nd S ν A) (hk : k < S.length) (ho : opO S k = 16 ∨ opO S k = 17) {t : Nat} (ht : t < 3) : ∃ x, u.2.2.1 7 (ν k * 3 + t) = x ∧ F_X4_placeOf (P.2.1 + 38) x (hp P u ex n sl) = some (thOf (if t < D then plO S k t else none), hp P u ex n sl) := by
  rcases nf_k hE.1 hE.2.1 hk with ⟨e2, e3, -⟩ | ⟨a', e2, e3, ha', en, -⟩ | ⟨i, a', b', hi, e2, e3, e4, ha', hb', en⟩ | ⟨i, a', hi, e2, ha', en, hpl⟩
  · omega
  · rw [op_c en] at ho; omega
  · rw [op_c en] at ho; omega
  · refine ⟨_, rfl, ?_⟩
    by_cases g : t < D
    · obtain ⟨p, p1, p2, p3⟩ := (hpl t ht).1 g
      rw [if_pos g, p2, c_placeOf hE.1 hE.2.1.lc p1, p3, pl_q en (by omega)]
    · rw [if_neg g, (hpl t ht).2 g, c_placeOfN hE.1 hE.2.1.lc]
      rfl
theorem c_lsSome (hE : EV u U D nd S ν A) (hZ : SZ u Z) (hl : Z.length + 4 ≤ 560) (hk : k < S.length) (ho : opO S k = 17) : LSz P ex n sl u Z D S A k 4 (F_X4_listSomeSteps (P.2.1 + 38) (mI k) (hp P u ex n sl)) := by
  have h40 := hE.2.1.2.1.1
  have hD3 := hE.2.2.2.2.2
  rw [E_X4_listSomeSteps, z_38, ob, E_X4_listSomeSteps_0]
  have lp : ∀ d m (v : sW) X, m + d = D → Fr [43] [3810] u v → SZ v (Z ++ X) → X.length ≤ m → (∀ z, z ∈ X ↔ ∃ i t, t < m ∧ plO S k t = some i ∧ z = (13, k, some i, none, none)) → LSz P ex n sl u Z D S A k 4 (R_X4_listSomeSteps_2 (P.2.1 + 38) (mI k) (mI m) (hp P v ex n sl)) := by
    intro d
    induction d with
    | zero =>
      intro m v X hm hv hZ0 hlX hX
      have hm' : m = D := by omega
      subst hm'
      refine ⟨v, X, ?_, hv, hZ0, fun z => by rw [hX, gz_17 ho], by omega⟩
      rw [E_X4_listSomeSteps_2, q_38_1, ob, q_9_0, ob, (hE.fr hv).2.2.2.1, if_pos (by rw [nle (by omega) (by omega)]; exact Nat.le_refl _)]
    | succ d ih =>
      intro m v X hm hv hZ0 hlX hX
      have hEv := hE.fr hv
      obtain ⟨m1, m2, m3, -⟩ := hEv.2.1.2.2 k hk
      obtain ⟨x, x1, x2⟩ := c_inst (P := P) (ex := ex) (n := n) (sl := sl) hEv hk (Or.inr ho) (t := m) (by omega)
      rw [if_pos (by omega)] at x2
      rw [E_X4_listSomeSteps_2, q_38_1, ob, q_9_0, ob, hEv.2.2.2.1, if_neg (show ¬ mI D ≤ mI m by rw [nle (by omega) (by omega)]; omega), q_38_0, ob, q_38_2, ob, ra_39 (by omega), ob, m1, c_placedOf hEv.1 rfl rfl m2 (by omega), ob, x1]
      try dsimp only
      rw [x2, ob]
      try dsimp only
      cases ep : plO S k m with
      | none =>
        rw [if_pos (show thOf none = -1 from rfl), E_X4_listSomeSteps_47, mI_s]
        refine ih (m + 1) v X (by omega) hv hZ0 (by omega) (fun z => ?_)
        rw [hX]
        constructor
        · rintro ⟨i, t, t1, t2⟩; exact ⟨i, t, by omega, t2⟩
        · rintro ⟨i, t, t1, t2, t3⟩
          by_cases g : t = m
          · rw [g, ep] at t2; cases t2
          · exact ⟨i, t, by omega, t2, t3⟩
      | some i =>
        have hi := pl_lt ep
        obtain ⟨v1, b1, b2', b3⟩ := c_addStep (P := P) (ex := ex) (n := n) (sl := sl) (r := 13) (o := some k) (p1 := some i) (p2 := none) (p3 := none) (x1 := 13) (x2 := mI k) (x3 := thOf (some i)) (x4 := -1) (x5 := -1) rfl rfl rfl rfl rfl hZ0 (by rw [List.length_append]; omega) (fun m h => by cases h; omega)
        rw [if_neg (show ¬ thOf (some i) = -1 from mI_m1 (by omega)), b1, ob]
        try dsimp only
        rw [E_X4_listSomeSteps_47, mI_s]
        refine ih (m + 1) v1 (X ++ adZ 13 (some k) (some i) none none) (by omega) (hv.tr b2') (by rw [← List.append_assoc]; exact b3) (by rw [List.length_append]; exact Nat.add_le_add hlX adZ_len) (fun z => ?_)
        rw [List.mem_append, hX, mem_adZ]
        constructor
        · rintro (⟨i', t, t1, t2⟩ | ⟨t, t1, t2⟩)
          · exact ⟨i', t, by omega, t2⟩
          · cases t1; exact ⟨i, m, by omega, ep, t2⟩
        · rintro ⟨i', t, t1, t2, t3⟩
          by_cases g : t = m
          · rw [g, ep] at t2; cases t2; exact Or.inr ⟨k, rfl, t3⟩
          · exact Or.inl ⟨i', t, by omega, t2, t3⟩
  exact lp D 0 u [] (by omega) Fr.rf (by rw [List.append_nil]; exact hZ) (by simp) (fun z => by simp)
end CSU
