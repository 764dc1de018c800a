/-! the class looks at formulas -/
theorem nd_ok {w : sW} {U D : Nat} {nd : Nat → List Nat} (h : NT w U D nd) : ∀ i, i < U → okF (nd i) := by
  have hs : ∀ i, i < U → ∀ s ∈ nd i, s < 18 := by
    intro i
    induction i using Nat.strongRecOn with
    | _ i ih =>
      intro hi s hs
      rcases (h.2.2.2.1 i hi).1 with ⟨a, t, -, -, -, ha, ht, -, e⟩ | ⟨a, -, -, -, ha, e⟩ | ⟨k, a, b, hk, -, -, -, ha, hb, e⟩ | ⟨k, a, hk, -, -, -, ha, e, -⟩
      · rw [e] at hs
        simp at hs
        have := (asg_ar ha ht).2
        omega
      · rw [e] at hs
        rcases List.mem_cons.mp hs with q | q
        · omega
        · exact ih a ha (by omega) s q
      · rw [e] at hs
        rcases List.mem_cons.mp hs with q | q
        · omega
        · rcases List.mem_append.mp q with q | q
          · exact ih a ha (by omega) s q
          · exact ih b hb (by omega) s q
      · rw [e] at hs
        rcases List.mem_cons.mp hs with q | q
        · omega
        · exact ih a ha (by omega) s q
  exact fun i hi => ⟨nd_wff h i hi, (h.2.2.2.1 i hi).2.2, hs i hi⟩
section CLK
variable {P : sP} {S0 e : Nat} {w w' w1 w2 z u : sW} {ex : Nat → Option sC} {n sl D F L R U : Nat} {y : sLn} {φ : Nat → List Nat} {nf : Nat → Nat} {ρ : sRc} {nd : Nat → List Nat} {S : List (List Nat)}
/-- what the class has looked at -/
def LC (u : sW) (U : Nat) (nd : Nat → List Nat) (S : List (List Nat)) : Prop := u.1 38 8 = mI S.length ∧ okS S ∧ ∃ ν : Nat → Nat, ∀ i, i < S.length → u.2.2.1 39 i = mI (ν i) ∧ ν i < U ∧ nd (ν i) = at0 S i ∧ u.2.2.1 40 i = mI (at0 S i).length
theorem LC.fr {A B : List Nat} (h : LC w U nd S) (f : Fr A B w u) (h1 : 39 ∉ A) (h2 : 40 ∉ A) (h3 : 3808 ∉ B) : LC u U nd S := by
  unfold LC
  rw [f.a h1, f.a h2, f.i (k := 38) (j := 8) h3]
  exact h
theorem c_placeOf {q : Nat} (hN : NT w U D nd) (hL : LC w U nd S) (hq : q < U) : F_X4_placeOf (P.2.1 + 38) (mI q) (hp P w ex n sl) = some (thOf (pos S (nd q)), hp P w ex n sl) := by
  have hU : U ≤ 2 ^ 17 := Nat.le_trans hN.2.1 hN.2.2.1
  obtain ⟨h8, hS, ν, hν⟩ := hL
  have hk40 := hS.1
  rw [E_X4_placeOf, z_38, ob, E_X4_placeOf_0]
  have e1 : ∀ k, k < S.length → ((w.2.2.1 39 k = mI q) = (at0 S k = nd q)) := by
    intro k hk
    obtain ⟨a1, a2, a3, -⟩ := hν k hk
    rw [a1, neq (by omega) (by omega), ← a3]
    exact propext ⟨fun z => by rw [z], fun z => hN.2.2.2.2 _ _ a2 hq z⟩
  rcases loopX (f := fun k => R_X4_placeOf_2 (P.2.1 + 38) (mI q) (mI k) (hp P w ex n sl)) (N := S.length) (p := fun k => at0 S k = nd q) (r0 := ((-1 : Int32), hp P w ex n sl)) (r1 := fun k => (mI k, hp P w ex n sl)) (fun k hk h => by
      try dsimp only
      rw [E_X4_placeOf_2, q_38_8, ob, h8, if_neg (show ¬ mI S.length ≤ mI k by rw [nle (by omega) (by omega)]; omega), q_38_2, ob, ra_39 (by omega), ob, if_neg (by rw [e1 k hk]; exact h), mI_s]) (fun k hk h => by
      try dsimp only
      rw [E_X4_placeOf_2, q_38_8, ob, h8, if_neg (show ¬ mI S.length ≤ mI k by rw [nle (by omega) (by omega)]; omega), q_38_2, ob, ra_39 (by omega), ob, if_pos (by rw [e1 k hk]; exact h)]) (by
      try dsimp only
      rw [E_X4_placeOf_2, q_38_8, ob, h8, if_pos (by rw [nle (by omega) (by omega)]; exact Nat.le_refl _)]) with ⟨k, h1, h2, h3, h4⟩ | ⟨h1, h2⟩
  · rw [pos_of h1 h2 h3]; exact h4
  · rw [pos_none.mpr (fun z => by obtain ⟨i, i1, i2⟩ := mem_at0.mp z; exact h1 i i1 i2)]; exact h2
theorem c_placeOfN (hN : NT w U D nd) (hL : LC w U nd S) : F_X4_placeOf (P.2.1 + 38) (-1) (hp P w ex n sl) = some (-1, hp P w ex n sl) := by
  have hU : U ≤ 2 ^ 17 := Nat.le_trans hN.2.1 hN.2.2.1
  obtain ⟨h8, hS, ν, hν⟩ := hL
  have hk40 := hS.1
  rw [E_X4_placeOf, z_38, ob, E_X4_placeOf_0]
  refine loopE (f := fun k => R_X4_placeOf_2 (P.2.1 + 38) (-1) (mI k) (hp P w ex n sl)) (N := S.length) (fun k hk => ?_) ?_
  · try dsimp only
    have hνk := (hν k hk).2.1
    rw [E_X4_placeOf_2, q_38_8, ob, h8, if_neg (show ¬ mI S.length ≤ mI k by rw [nle (by omega) (by omega)]; omega), q_38_2, ob, ra_39 (by omega), ob, (hν k hk).1, if_neg (mI_m1 (by omega)), mI_s]
  · try dsimp only
    rw [E_X4_placeOf_2, q_38_8, ob, h8, if_pos (by rw [nle (by omega) (by omega)]; exact Nat.le_refl _)]
theorem c_lookN {k d : Nat} (hL : LC w U nd S) : F_X4_lookAt (k + 1) (P.2.1 + 38) (-1) (mI d) (hp P w ex n sl) = some ((), hp P w ex n sl) := by
  have h40 := hL.2.1.1
  rw [E_X4_lookAt, z_38, ob, E_X4_lookAt_0, q_38_8, ob]
  by_cases g1 : (40 : Int32) ≤ w.1 38 8
  · rw [if_pos g1]
  · rw [if_neg g1]
    by_cases g2 : (48 : Int32) < mI d
    · rw [if_pos g2]
    · rw [if_neg g2, if_pos rfl]
theorem fCW {A : List Nat} (f : Fr A [3808, 3809, 3810, 3811, 3812] w u) (hA : ∀ k ∈ A, 39 ≤ k) (hC : CW w D F L U y φ nd nf) : CW u D F L U y φ nd nf :=
  hC.fr f (fun q => by have := hA _ q; omega) (fun q => by have := hA _ q; omega) (fun q => by have := hA _ q; omega) (fun q => by have := hA _ q; omega) (fun q => by have := hA _ q; omega) (fun q => by have := hA _ q; omega) (fun q => by have := hA _ q; omega) (by decide) (by decide) (by decide) (by decide)
abbrev lkA : List Nat := [39, 40]
abbrev lkB : List Nat := [3808, 3809, 3810, 3811, 3812]
theorem c_look (hC : CW w D F L U y φ nd nf) : ∀ len q k d (u : sW) S, (nd q).length ≤ len → q < U → len ≤ k → d + len ≤ 49 → Fr lkA lkB w u → LC u U nd S → ∃ u', F_X4_lookAt (k + 1) (P.2.1 + 38) (mI q) (mI d) (hp P u ex n sl) = some ((), hp P u' ex n sl) ∧ Fr lkA lkB w u' ∧ LC u' U nd (LK D S (nd q)) ∧ ∀ j, j ≠ 8 → u'.1 38 j = u.1 38 j := by
  have hD3 := hC.2.1
  intro len
  induction len with
  | zero =>
    intro q k d u S h1 hq
    have := wff_pos (nd_wff hC.2.2.2.2.2.2.2.2.2.1 q hq)
    omega
  | succ len ih =>
    intro q k d u S h1 hq hk hd hu hL
    have hCu := fCW hu (by decide) hC
    have hN := hCu.2.2.2.2.2.2.2.2.2.1
    have hU : U ≤ 2 ^ 17 := Nat.le_trans hN.2.1 hN.2.2.1
    have hokq := nd_ok hN q hq
    have h40 := hL.2.1.1
    have h8 := hL.1
    rw [LK_eq hD3 hokq]
    obtain ⟨k, rfl⟩ : ∃ k', k = k' + 1 := ⟨k - 1, by omega⟩
    rw [E_X4_lookAt, z_38, ob, E_X4_lookAt_0, q_38_8, ob, h8]
    by_cases g1 : 40 ≤ S.length
    · rw [if_pos (show (40 : Int32) ≤ mI S.length by rw [nleR (by omega) (by decide)]; exact g1), if_pos (Or.inl g1)]
      exact ⟨u, rfl, hu, hL, fun _ _ => rfl⟩
    rw [if_neg (show ¬ (40 : Int32) ≤ mI S.length by rw [nleR (by omega) (by decide)]; exact g1), if_neg (show ¬ (48 : Int32) < mI d by rw [nltR (by omega) (by decide)]; exact Nat.not_lt.mpr (by omega)), if_neg (mI_m1 (by omega)), c_placeOf hN hL hq, ob]
    try dsimp only
    by_cases g2 : nd q ∈ S
    · have : pos S (nd q) ≠ none := fun z => pos_none.mp z g2
      cases e : pos S (nd q) with
      | none => exact absurd e this
      | some i =>
        have hi := (pos_some e).1
        rw [if_neg (show ¬ thOf (some i) = -1 from mI_m1 (by omega)), if_pos (Or.inr g2)]
        exact ⟨u, rfl, hu, hL, fun _ _ => rfl⟩
    rw [pos_none.mpr g2, if_pos (show thOf none = -1 from rfl), if_neg (fun z => z.elim g1 g2)]
    -- it is added
    generalize hu1 : wI (wA (wA u 39 S.length (mI q)) 40 S.length (mI (nd q).length)) 38 8 (mI (S.length + 1)) = u1
    have f1 : Fr lkA lkB w u1 := by
      rw [← hu1]
      exact ((hu.pA (k := 39) (by decide)).pA (k := 40) (by decide)).pI (k := 38) (j := 8) (by decide)
    have hC1 := fCW f1 (by decide) hC
    have hN1 := hC1.2.2.2.2.2.2.2.2.2.1
    have o38 : ∀ j, j ≠ 8 → u1.1 38 j = u.1 38 j := fun j hj => by
      rw [← hu1]
      exact wI_j hj
    have L1 : LC u1 U nd (S ++ [nd q]) := by
      obtain ⟨-, hS, ν, hν⟩ := hL
      refine ⟨?_, okS_add hS g1 hokq g2, fun i => if i = S.length then q else ν i, fun i hi => ?_⟩
      · rw [← hu1]
        simp only [List.length_append, List.length_singleton]
        exact up2_s
      · simp at hi
        by_cases e : i = S.length
        · subst e
          rw [← hu1]
          dsimp only
          rw [if_pos rfl, at0_end]
          refine ⟨?_, hq, rfl, ?_⟩ <;> ((try dsimp only [wA, wI, wL, wJ]); (repeat first | rw [up2_n (by omega)] | rw [up2_e (by omega) (by omega)]))
        · rw [← hu1]
          dsimp only
          rw [if_neg e, at0_app (by omega)]
          obtain ⟨b1, b2', b3, b4⟩ := hν i (by omega)
          refine ⟨?_, b2', b3, ?_⟩
          · ((try dsimp only [wA, wI, wL, wJ]); (repeat first | rw [up2_n (by omega)] | rw [up2_e (by omega) (by omega)])); exact b1
          · ((try dsimp only [wA, wI, wL, wJ]); (repeat first | rw [up2_n (by omega)] | rw [up2_e (by omega) (by omega)])); exact b4
    have hC5 : CW (wA u 39 S.length (mI q)) D F L U y φ nd nf := fCW (hu.pA (k := 39) (by decide)) (by decide) hC
    have e8 : (wA u 39 S.length (mI q)).1 38 8 = mI S.length := h8
    have e9 : (wA (wA u 39 S.length (mI q)) 40 S.length (mI (nd q).length)).1 38 8 + 1 = mI (S.length + 1) := by
      show u.1 38 8 + 1 = _
      rw [h8, mI_s]
    rw [q_38_2, ob, q_38_8, ob, h8, wa_39 (by omega), ob, q_38_3, ob, q_38_8, ob, e8, q_38_0, ob, c_signsOf hC5.2.2.2.2.2.2.2.2.2.1 rfl hq, ob]
    try dsimp only
    rw [wa_40 (by omega), ob, q_38_8, ob, p_38_8, ob, e9, hu1]
    rw [q_38_0, ob, c_kindOf hN1 rfl hq, ob]
    try dsimp only
    have twoN : ∀ (v v2 : sW), Fr lkA lkB w v → Fr lkA lkB w v2 → v.2.2.1 3 q = w.2.2.1 3 q ∧ v2.2.2.1 4 q = w.2.2.1 4 q := fun v v2 hv hv2 => ⟨by rw [hv.a (k := 3) (by decide)], by rw [hv2.a (k := 4) (by decide)]⟩
    rcases (hN1.2.2.2.1 q hq).1 with ⟨a, t, e2, e3, e4, ha, ht, -, en⟩ | ⟨a, e2, e3, e4, ha, en⟩ | ⟨kk, a, b, hkk, e2, e3, e4, ha, hb, en⟩ | ⟨kk, a, hkk, e2, e3, e4, ha, en, hpl⟩
    · rw [e2, if_neg (by decide), if_neg (by decide), if_pos (show mI 0 = 0 from rfl), en, parts_0 (asg_ar ha ht).1]
      rw [en] at L1
      exact ⟨u1, rfl, f1, L1, o38⟩
    · have hla : (nd a).length ≤ len := by rw [en] at h1; simp at h1; omega
      obtain ⟨u2, b1, b2', b3, b4⟩ := ih a k (d + 1) u1 _ hla (by omega) (by omega) (by omega) f1 L1
      have hN2 := (fCW b2' (by decide) hC).2.2.2.2.2.2.2.2.2.1
      rw [e2, if_neg (by decide), if_neg (by decide), if_neg (by decide), q_38_0, ob, c_firstOf hN1 rfl hq, ob, e3]
      try dsimp only
      rw [mI_s, b1, ob]
      try dsimp only
      rw [q_38_0, ob, c_secondOf hN2 rfl hq, ob, b2'.a (k := 4) (by decide), ← f1.a (k := 4) (by decide), e4]
      try dsimp only
      rw [c_lookN b3, ob, en, parts_n]
      rw [en] at b3
      exact ⟨u2, rfl, b2', b3, fun j hj => (b4 j hj).trans (o38 j hj)⟩
    · have hla : (nd a).length ≤ len ∧ (nd b).length ≤ len := by rw [en] at h1; simp at h1; omega
      obtain ⟨u2, b1, b2', b3, b4⟩ := ih a k (d + 1) u1 _ hla.1 (by omega) (by omega) (by omega) f1 L1
      have hN2 := (fCW b2' (by decide) hC).2.2.2.2.2.2.2.2.2.1
      obtain ⟨u3, c1, c2, c3, c4⟩ := ih b k (d + 1) u2 _ hla.2 (by omega) (by omega) (by omega) b2' b3
      have k5 : ¬ mI kk = 5 ∧ ¬ mI kk = 6 ∧ ¬ mI kk = 0 := by rcases hkk with q | q | q <;> rw [q] <;> decide
      rw [e2, if_neg k5.1, if_neg k5.2.1, if_neg k5.2.2, q_38_0, ob, c_firstOf hN1 rfl hq, ob, e3]
      try dsimp only
      rw [mI_s, b1, ob]
      try dsimp only
      rw [q_38_0, ob, c_secondOf hN2 rfl hq, ob, b2'.a (k := 4) (by decide), ← f1.a (k := 4) (by decide), e4]
      try dsimp only
      rw [c1, ob, en, parts_2 (ar_k hkk) (nd_wff hN1 a (by omega))]
      rw [en] at c3
      exact ⟨u3, rfl, c2, c3, fun j hj => (c4 j hj).trans ((b4 j hj).trans (o38 j hj))⟩
    · have hla : (nd a).length ≤ len := by rw [en] at h1; simp at h1; omega
      have lp : ∀ m t (v : sW) S', t + m = D → Fr lkA lkB w v → LC v U nd S' → (∀ j, j ≠ 8 → v.1 38 j = u.1 38 j) → ∃ u', R_X4_lookAt_90 (k + 1) (P.2.1 + 38) (mI q) (mI d) (mI t) (hp P v ex n sl) = some ((), hp P u' ex n sl) ∧ Fr lkA lkB w u' ∧ LC u' U nd (((List.range' t m).map (fun t => (nd a).map (ins (some t)))).foldl (LK D) S') ∧ ∀ j, j ≠ 8 → u'.1 38 j = u.1 38 j := by
        intro m
        induction m with
        | zero =>
          intro t v S' ht hv hL' ho
          refine ⟨v, ?_, hv, hL', ho⟩
          rw [E_X4_lookAt_90, q_38_1, ob, q_9_0, ob, (fCW hv (by decide) hC).2.2.2.2.1]
          exact if_pos (by rw [nle (by omega) (by omega)]; omega)
        | succ m ih2 =>
          intro t v S' ht hv hL' ho
          have hCv := fCW hv (by decide) hC
          have hNv := hCv.2.2.2.2.2.2.2.2.2.1
          obtain ⟨p, p1, p2, p3⟩ := (hpl t (by omega)).1 (by omega)
          have p2' : v.2.2.1 7 (q * 3 + t) = mI p := by rw [hv.a (k := 7) (by decide), ← f1.a (k := 7) (by decide)]; exact p2
          obtain ⟨v1, b1, b2', b3, b4⟩ := ih p k (d + 1) v S' (by rw [p3]; simp; exact hla) p1 (by omega) (by omega) hv hL'
          rw [E_X4_lookAt_90, q_38_1, ob, q_9_0, ob, hCv.2.2.2.2.1, if_neg (show ¬ mI D ≤ mI t by rw [nle (by omega) (by omega)]; omega), q_38_0, ob, c_placedOf hNv rfl rfl hq (by omega), ob, p2']
          try dsimp only
          rw [mI_s, b1, ob, mI_s]
          rw [p3] at b3
          rw [List.range'_succ, List.map_cons, List.foldl_cons]
          exact ih2 (t + 1) v1 _ (by omega) b2' b3 (fun j hj => (b4 j hj).trans (ho j hj))
      obtain ⟨u2, b1, b2', b3, b4⟩ := lp D 0 u1 _ (by omega) f1 L1 o38
      have e87 : R_X4_lookAt_87 (k + 1) (P.2.1 + 38) (mI q) (mI d) (hp P u1 ex n sl) = some ((), hp P u2 ex n sl) := by
        rw [E_X4_lookAt_87]
        exact b1
      have eD : (List.range' 0 D) = List.range D := List.range_eq_range'.symm
      rw [eD] at b3
      have hk56 : 11 + kk = 16 ∨ 11 + kk = 17 := by omega
      rw [en, parts_q hk56, e2]
      rw [en] at b3
      refine ⟨u2, ?_, b2', b3, b4⟩
      rcases hkk with rfl | rfl
      · rw [if_pos (show mI 5 = 5 from rfl)]; exact e87
      · rw [if_neg (by decide), if_pos (show mI 6 = 6 from rfl)]; exact e87
end CLK
