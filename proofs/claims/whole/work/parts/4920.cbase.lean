/-! the class prepares: places, slots, steps -/
section CBS
variable {P : sP} {S0 e : Nat} {w w' u u' v : sW} {ex : Nat → Option sC} {n sl D F L R U k : Nat} {y : sLn} {φ : Nat → List Nat} {nf ν : Nat → Nat} {nd : Nat → List Nat} {S : List (List Nat)} {A : List Nat}
/-- what the class has looked at, with the nodes named -/
def LN (u : sW) (U : Nat) (nd : Nat → List Nat) (S : List (List Nat)) (ν : Nat → Nat) : Prop := u.1 38 8 = mI S.length ∧ okS S ∧ ∀ i, i < S.length → u.2.2.1 39 i = mI (ν i) ∧ ν i < U ∧ nd (ν i) = at0 S i ∧ u.2.2.1 40 i = mI (at0 S i).length
theorem LN.lc (h : LN u U nd S ν) : LC u U nd S := ⟨h.1, h.2.1, ν, h.2.2⟩
theorem LN.fr {A B : List Nat} (h : LN w U nd S ν) (f : Fr A B w u) (h1 : 39 ∉ A) (h2 : 40 ∉ A) (h3 : 3808 ∉ B) : LN u U nd S ν := by
  unfold LN
  rw [f.a h1, f.a h2, f.i (k := 38) (j := 8) h3]
  exact h
theorem c_placeOfE (hL : LN u U nd S ν) (x : Int32) : ∃ v, F_X4_placeOf (P.2.1 + 38) x (hp P u ex n sl) = some (v, hp P u ex n sl) := by
  obtain ⟨h8, hS, -⟩ := hL
  have hk40 := hS.1
  rw [E_X4_placeOf, z_38, ob, E_X4_placeOf_0]
  rcases loopX (f := fun k => R_X4_placeOf_2 (P.2.1 + 38) x (mI k) (hp P u ex n sl)) (N := S.length) (p := fun k => u.2.2.1 39 k = x) (r0 := ((-1 : Int32), hp P u ex n sl)) (r1 := fun k => (mI k, hp P u ex n sl)) (fun k hk h => by
      try dsimp only
      rw [E_X4_placeOf_2, q_38_8, ob, h8, if_neg (show ¬ mI S.length ≤ mI k by rw [nle (by omega) (by omega)]; omega), q_38_2, ob, ra_39 (by omega), ob, if_neg h, mI_s]) (fun k hk h => by
      try dsimp only
      rw [E_X4_placeOf_2, q_38_8, ob, h8, if_neg (show ¬ mI S.length ≤ mI k by rw [nle (by omega) (by omega)]; omega), q_38_2, ob, ra_39 (by omega), ob, if_pos h]) (by
      try dsimp only
      rw [E_X4_placeOf_2, q_38_8, ob, h8, if_pos (by rw [nle (by omega) (by omega)]; exact Nat.le_refl _)]) with ⟨k, h1, h2, h3, h4⟩ | ⟨h1, h2⟩
  · exact ⟨_, h4⟩
  · exact ⟨_, h2⟩
/-- a node at a place, by its kind -/
theorem nf_k (hN : NT u U D nd) (hL : LN u U nd S ν) (hk : k < S.length) :
    (u.2.2.1 2 (ν k) = mI 0 ∧ opO S k < 12 ∧ ar (opO S k) = 0) ∨
    (∃ a, u.2.2.1 2 (ν k) = mI 1 ∧ u.2.2.1 3 (ν k) = mI a ∧ a < U ∧ at0 S k = 12 :: nd a ∧ u.2.2.1 4 (ν k) = -1) ∨
    (∃ j a b, (j = 2 ∨ j = 3 ∨ j = 4) ∧ u.2.2.1 2 (ν k) = mI j ∧ u.2.2.1 3 (ν k) = mI a ∧ u.2.2.1 4 (ν k) = mI b ∧ a < U ∧ b < U ∧ at0 S k = (11 + j) :: (nd a ++ nd b)) ∨
    (∃ j a, (j = 5 ∨ j = 6) ∧ u.2.2.1 2 (ν k) = mI j ∧ a < U ∧ at0 S k = (11 + j) :: nd a ∧ ∀ t, t < 3 → (t < D → ∃ q, q < U ∧ u.2.2.1 7 (ν k * 3 + t) = mI q ∧ nd q = (nd a).map (ins (some t))) ∧ (¬ t < D → u.2.2.1 7 (ν k * 3 + t) = -1)) := by
  obtain ⟨-, hq, hnd, -⟩ := hL.2.2 k hk
  rcases (hN.2.2.2.1 _ hq).1 with ⟨a, t, e2, e3, e4, ha, ht, -, en⟩ | ⟨a, e2, e3, e4, ha, en⟩ | ⟨j, a, b, hj, e2, e3, e4, ha, hb, en⟩ | ⟨j, a, hj, e2, e3, e4, ha, en, hpl⟩
  · have e : at0 S k = asg a t :: [] := by rw [← hnd]; exact en
    refine Or.inl ⟨e2, ?_, ?_⟩
    · rw [op_c e]; exact (asg_ar ha ht).2
    · rw [op_c e]; exact (asg_ar ha ht).1
  · exact Or.inr (Or.inl ⟨a, e2, e3, by omega, by rw [← hnd]; exact en, e4⟩)
  · exact Or.inr (Or.inr (Or.inl ⟨j, a, b, hj, e2, e3, e4, by omega, by omega, by rw [← hnd]; exact en⟩))
  · exact Or.inr (Or.inr (Or.inr ⟨j, a, hj, e2, by omega, by rw [← hnd]; exact en, hpl⟩))
abbrev ASc (u : sW) (A : List Nat) : Prop := AS (u.1 38 9) (u.2.2.1 42) A
theorem c_slotOf {i : Nat} {x : Int32} (hx : x = mI i) (hA : ASc u A) (hi : i < 2 ^ 31) : F_X4_slotOf (P.2.1 + 38) x (hp P u ex n sl) = some (thOf (slO A i), hp P u ex n sl) := by
  subst hx
  have hA0 := hA
  obtain ⟨h1, h2, h3, h4⟩ := hA
  rw [E_X4_slotOf, z_38, ob, E_X4_slotOf_0]
  rcases loopX (f := fun k => R_X4_slotOf_2 (P.2.1 + 38) (mI i) (mI k) (hp P u ex n sl)) (N := A.length) (p := fun k => A.getD k 0 = i) (r0 := ((-1 : Int32), hp P u ex n sl)) (r1 := fun k => (mI k, hp P u ex n sl)) (fun k hk h => by
      have := hA0.mem hk
      try dsimp only
      rw [E_X4_slotOf_2, q_38_9, ob, h1, if_neg (show ¬ mI A.length ≤ mI k by rw [nle (by omega) (by omega)]; omega), q_38_5, ob, ra_42 (by omega), ob, h4 k hk, if_neg (by rw [mI_inj (by omega) hi]; exact h), mI_s]) (fun k hk h => by
      have := hA0.mem hk
      try dsimp only
      rw [E_X4_slotOf_2, q_38_9, ob, h1, if_neg (show ¬ mI A.length ≤ mI k by rw [nle (by omega) (by omega)]; omega), q_38_5, ob, ra_42 (by omega), ob, h4 k hk, if_pos (by rw [h])]) (by
      try dsimp only
      rw [E_X4_slotOf_2, q_38_9, ob, h1, if_pos (by rw [nle (by omega) (by omega)]; exact Nat.le_refl _)]) with ⟨k, k1, k2, k3, k4⟩ | ⟨k1, k2⟩
  · have e : slO A i = some k := pos_of (by simpa using k1) (by rw [at_map k1, k2]) (fun j hj => by rw [at_map (by omega)]; intro z; exact k3 j hj (List.head_eq_of_cons_eq z))
    rw [e]; exact k4
  · have e : slO A i = none := slO_none.mpr (fun z => by
      obtain ⟨m, hm, e⟩ := List.mem_iff_getElem.mp z
      refine k1 m hm ?_
      rw [List.getD_eq_getElem?_getD, List.getElem?_eq_getElem hm]
      exact e)
    rw [e]; exact k2
/-- the class lists the assumed -/
theorem c_listAssumed (hN : NT u U D nd) (hL : LN u U nd S ν) (hk : k < S.length) (hA : ASc u (asm S k)) : ∃ u', F_X4_listAssumed (P.2.1 + 38) (mI (ν k)) (hp P u ex n sl) = some ((), hp P u' ex n sl) ∧ Fr [42] [3809] u u' ∧ ASc u' (asm S (k + 1)) := by
  have hU : U ≤ 2 ^ 17 := Nat.le_trans hN.2.1 hN.2.2.1
  have h40 := hL.2.1.1
  have hq := (hL.2.2 k hk).2.1
  have hA3 := hA.2.1
  rw [E_X4_listAssumed, z_38, ob, E_X4_listAssumed_0, q_38_0, ob, c_kindOf hN rfl hq, ob]
  try dsimp only
  have no : opO S k ≠ 15 → ∃ u', (some ((), hp P u ex n sl) : Option (Unit × sS)) = some ((), hp P u' ex n sl) ∧ Fr [42] [3809] u u' ∧ ASc u' (asm S (k + 1)) := fun h => ⟨u, rfl, Fr.rf, by rw [asm_n h]; exact hA⟩
  rcases nf_k hN hL hk with ⟨e2, e3, -⟩ | ⟨a, e2, e3, ha, en, -⟩ | ⟨j, a, b, hj, e2, e3, e4, ha, hb, en⟩ | ⟨j, a, hj, e2, ha, en, -⟩
  · rw [e2, if_neg (by decide)]
    exact no (by omega)
  · rw [e2, if_neg (by decide)]
    exact no (by rw [op_c en]; decide)
  · by_cases g : j = 4
    · subst g
      have lf : lfO S k = pos S (nd a) := lf_2 en rfl (nd_wff hN a ha)
      have ho : opO S k = 15 := op_c en
      rw [e2, if_pos (show mI 4 = 4 from rfl), q_38_9, ob, hA.1]
      by_cases g3 : (asm S k).length < 3
      · rw [if_pos (show mI (asm S k).length < 3 by rw [nltL (by omega) (by decide)]; exact g3), q_38_0, ob, c_firstOf hN rfl hq, ob, e3]
        try dsimp only
        rw [c_placeOf hN hL.lc ha, ob, ← lf]
        try dsimp only
        cases el : lfO S k with
        | none =>
          rw [if_pos (show thOf none = -1 from rfl)]
          exact ⟨u, rfl, Fr.rf, by rw [asm_o el]; exact hA⟩
        | some i =>
          have hi := lf_lt el
          rw [if_neg (show ¬ thOf (some i) = -1 from mI_m1 (by omega)), c_slotOf (i := i) (x := thOf (some i)) rfl hA (by omega), ob]
          try dsimp only
          by_cases gm : i ∈ asm S k
          · cases es : slO (asm S k) i with
            | none => exact absurd gm (slO_none.mp es)
            | some m =>
              have hm := (slO_some es).1
              rw [if_neg (show ¬ thOf (some m) = -1 from mI_m1 (by omega))]
              exact ⟨u, rfl, Fr.rf, by rw [asm_i el gm]; exact hA⟩
          · rw [slO_none.mpr gm, if_pos (show thOf none = -1 from rfl), q_38_5, ob, q_38_9, ob, hA.1, wa_42 (by omega), ob, q_38_9, ob, p_38_9, ob]
            have e1 : (wA u 42 (asm S k).length (thOf (some i))).1 38 9 + 1 = mI ((asm S k).length + 1) := by
              show u.1 38 9 + 1 = _
              rw [hA.1, mI_s]
            rw [e1]
            refine ⟨_, rfl, (Fr.rf.pA (by decide)).pI (k := 38) (j := 9) (by decide), ?_⟩
            rw [asm_a g3 ho el gm]
            have e2 : (wI (wA u 42 (asm S k).length (thOf (some i))) 38 9 (mI ((asm S k).length + 1))).1 38 9 = mI ((asm S k).length + 1) := wI_s
            show AS _ _ _
            rw [e2]
            exact hA.add g3 (by omega) (fun m hm => by show up2 u.2.2.1 42 _ _ 42 m = _; exact up2_j hm) (by show up2 u.2.2.1 42 _ _ 42 _ = _; exact up2_s)
      · rw [if_neg (show ¬ mI (asm S k).length < 3 by rw [nltL (by omega) (by decide)]; exact g3)]
        exact ⟨u, rfl, Fr.rf, by rw [asm_f g3 1]; exact hA⟩
    · rw [e2, if_neg (show ¬ mI j = 4 from neqN (m := 4) (by omega) (by decide) g)]
      exact no (by rw [op_c en]; omega)
  · rw [e2, if_neg (show ¬ mI j = 4 from neqN (m := 4) (by omega) (by decide) (by omega))]
    exact no (by rw [op_c en]; omega)
/-- steps as the array holds them -/
abbrev zT : Type := Nat × Nat × Option Nat × Option Nat × Option Nat
def SZ (u : sW) (Z : List zT) : Prop := u.1 38 10 = mI Z.length ∧ Z.length ≤ 560 ∧ ∀ i, i < Z.length → u.2.2.1 43 (i * 5) = mI (Z.getD i (0, 0, none, none, none)).1 ∧ u.2.2.1 43 (i * 5 + 1) = mI (Z.getD i (0, 0, none, none, none)).2.1 ∧ u.2.2.1 43 (i * 5 + 2) = thOf (Z.getD i (0, 0, none, none, none)).2.2.1 ∧ u.2.2.1 43 (i * 5 + 3) = thOf (Z.getD i (0, 0, none, none, none)).2.2.2.1 ∧ u.2.2.1 43 (i * 5 + 4) = thOf (Z.getD i (0, 0, none, none, none)).2.2.2.2
theorem SZ.fr {A B : List Nat} {Z : List zT} (h : SZ w Z) (f : Fr A B w u) (h1 : 43 ∉ A) (h2 : 3810 ∉ B) : SZ u Z := by
  unfold SZ
  rw [f.a h1, f.i (k := 38) (j := 10) h2]
  exact h
def adZ (r : Nat) (o p1 p2 p3 : Option Nat) : List zT := match o with
  | none => []
  | some k => [(r, k, p1, p2, p3)]
theorem c_addStep {Z : List zT} {r : Nat} {o p1 p2 p3 : Option Nat} {x1 x2 x3 x4 x5 : Int32} (hx1 : x1 = mI r) (hx2 : x2 = thOf o) (hx3 : x3 = thOf p1) (hx4 : x4 = thOf p2) (hx5 : x5 = thOf p3) (hZ : SZ u Z) (hl : Z.length < 560) (ho : ∀ i, o = some i → i < 40) : ∃ u', F_X4_addStep (P.2.1 + 38) x1 x2 x3 x4 x5 (hp P u ex n sl) = some ((), hp P u' ex n sl) ∧ Fr [43] [3810] u u' ∧ SZ u' (Z ++ adZ r o p1 p2 p3) := by
  subst hx1 hx2 hx3 hx4 hx5
  rw [E_X4_addStep, z_38, ob, E_X4_addStep_0]
  cases o with
  | none =>
    rw [if_pos (show thOf none = -1 from rfl)]
    exact ⟨u, rfl, Fr.rf, by rw [show adZ r none p1 p2 p3 = [] from rfl, List.append_nil]; exact hZ⟩
  | some k =>
    have hk := ho k rfl
    have c0 : mI Z.length * 5 = mI (Z.length * 5) := mI_mul _ 5
    have c1 : mI (Z.length * 5) + 1 = mI (Z.length * 5 + 1) := mI_add _ 1
    have c2 : mI (Z.length * 5) + 2 = mI (Z.length * 5 + 2) := mI_add _ 2
    have c3 : mI (Z.length * 5) + 3 = mI (Z.length * 5 + 3) := mI_add _ 3
    have c4 : mI (Z.length * 5) + 4 = mI (Z.length * 5 + 4) := mI_add _ 4
    generalize hu' : wI (wA (wA (wA (wA (wA u 43 (Z.length * 5) (mI r)) 43 (Z.length * 5 + 1) (thOf (some k))) 43 (Z.length * 5 + 2) (thOf p1)) 43 (Z.length * 5 + 3) (thOf p2)) 43 (Z.length * 5 + 4) (thOf p3)) 38 10 (mI (Z.length + 1)) = u'
    have fr : Fr [43] [3810] u u' := by
      rw [← hu']
      exact ((((((Fr.rf).pA (k := 43) (by decide)).pA (k := 43) (by decide)).pA (k := 43) (by decide)).pA (k := 43) (by decide)).pA (k := 43) (by decide)).pI (k := 38) (j := 10) (by decide)
    refine ⟨u', ?_, fr, ?_⟩
    · rw [if_neg (show ¬ thOf (some k) = -1 from mI_m1 (by omega)), q_38_10, ob, hZ.1, if_pos (show mI Z.length < 560 by rw [nltL (by omega) (by decide)]; exact hl), ob, q_38_6, ob, c0, wa_43 (by omega), ob, q_38_6, ob, c1, wa_43 (by omega), ob, q_38_6, ob, c2, wa_43 (by omega), ob, q_38_6, ob, c3, wa_43 (by omega), ob, q_38_6, ob, c4, wa_43 (by omega), ob, q_38_10, ob, p_38_10, ob]
      rw [show (wA (wA (wA (wA (wA u 43 (Z.length * 5) (mI r)) 43 (Z.length * 5 + 1) (thOf (some k))) 43 (Z.length * 5 + 2) (thOf p1)) 43 (Z.length * 5 + 3) (thOf p2)) 43 (Z.length * 5 + 4) (thOf p3)).1 38 10 = u.1 38 10 from rfl, hZ.1, mI_s, hu']
    · refine ⟨?_, ?_, fun i hi => ?_⟩
      · rw [← hu', show (Z ++ adZ r (some k) p1 p2 p3).length = Z.length + 1 by simp [adZ]]; exact wI_s
      · simp [adZ]; omega
      · rw [show (Z ++ adZ r (some k) p1 p2 p3).length = Z.length + 1 by simp [adZ]] at hi
        by_cases g : i = Z.length
        · subst g
          have eg : (Z ++ adZ r (some k) p1 p2 p3).getD Z.length (0, 0, none, none, none) = (r, k, p1, p2, p3) := by simp [adZ]
          rw [eg, ← hu']
          refine ⟨?_, ?_, ?_, ?_, ?_⟩
          · ((try dsimp only [wA, wI, wL, wJ]); (repeat first | rw [up2_n (by omega)] | rw [up2_e (by omega) (by omega)]))
          · ((try dsimp only [wA, wI, wL, wJ]); (repeat first | rw [up2_n (by omega)] | rw [up2_e (by omega) (by omega)])); rfl
          · ((try dsimp only [wA, wI, wL, wJ]); (repeat first | rw [up2_n (by omega)] | rw [up2_e (by omega) (by omega)]))
          · ((try dsimp only [wA, wI, wL, wJ]); (repeat first | rw [up2_n (by omega)] | rw [up2_e (by omega) (by omega)]))
          · ((try dsimp only [wA, wI, wL, wJ]); (repeat first | rw [up2_n (by omega)] | rw [up2_e (by omega) (by omega)]))
        · have eg : (Z ++ adZ r (some k) p1 p2 p3).getD i (0, 0, none, none, none) = Z.getD i (0, 0, none, none, none) := by
            rw [List.getD_eq_getElem?_getD, List.getD_eq_getElem?_getD, List.getElem?_append_left (by omega)]
          obtain ⟨h1, h2, h3, h4, h5⟩ := hZ.2.2 i (by omega)
          rw [eg, ← hu']
          refine ⟨?_, ?_, ?_, ?_, ?_⟩
          · ((try dsimp only [wA, wI, wL, wJ]); (repeat first | rw [up2_n (by omega)] | rw [up2_e (by omega) (by omega)])); exact h1
          · ((try dsimp only [wA, wI, wL, wJ]); (repeat first | rw [up2_n (by omega)] | rw [up2_e (by omega) (by omega)])); exact h2
          · ((try dsimp only [wA, wI, wL, wJ]); (repeat first | rw [up2_n (by omega)] | rw [up2_e (by omega) (by omega)])); exact h3
          · ((try dsimp only [wA, wI, wL, wJ]); (repeat first | rw [up2_n (by omega)] | rw [up2_e (by omega) (by omega)])); exact h4
          · ((try dsimp only [wA, wI, wL, wJ]); (repeat first | rw [up2_n (by omega)] | rw [up2_e (by omega) (by omega)])); exact h5
end CBS
