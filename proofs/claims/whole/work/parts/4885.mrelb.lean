/-! how the model relates what it has looked at: the assumed, pairs -/
/-- the slot of a place among the assumed -/
def slO (A : List Nat) (i : Nat) : Option Nat := pos (A.map (fun a => [a])) [i]
theorem at_map {A : List Nat} {m : Nat} (hm : m < A.length) : at0 (A.map (fun a => [a])) m = [A.getD m 0] := by
  rw [at0_get (by simpa using hm)]
  rw [List.getElem_map, List.getD_eq_getElem?_getD, List.getElem?_eq_getElem hm]
  rfl
theorem slO_some {A : List Nat} {i m : Nat} (h : slO A i = some m) : m < A.length ∧ A.getD m 0 = i := by
  obtain ⟨h1, h2, -⟩ := pos_some h
  have h1' : m < A.length := by simpa using h1
  rw [at_map h1'] at h2
  exact ⟨h1', List.head_eq_of_cons_eq h2⟩
theorem slO_none {A : List Nat} {i : Nat} : slO A i = none ↔ i ∉ A := by
  unfold slO
  rw [pos_none]
  simp
theorem slO_of {A : List Nat} {i m : Nat} (hA : A.Nodup) (h : m < A.length) (e : A.getD m 0 = i) : slO A i = some m := by
  have hm : i ∈ A := by
    rw [← e, List.getD_eq_getElem?_getD, List.getElem?_eq_getElem h]
    exact List.getElem_mem h
  cases q : slO A i with
  | none => exact absurd hm (slO_none.mp q)
  | some m' =>
    obtain ⟨h1, h2⟩ := slO_some q
    have : m' = m := by
      rw [List.getD_eq_getElem?_getD, List.getElem?_eq_getElem h] at e
      rw [List.getD_eq_getElem?_getD, List.getElem?_eq_getElem h1] at h2
      have e' : A[m] = i := e
      have h2' : A[m'] = i := h2
      have hp := List.pairwise_iff_getElem.mp hA
      rcases Nat.lt_trichotomy m m' with g | g | g
      · exact absurd (e'.trans h2'.symm) (hp m m' h h1 g)
      · exact g.symm
      · exact absurd (h2'.trans e'.symm) (hp m' m h1 h g)
    rw [this]
/-- the assumed as an array holds them -/
def AS (c : Int32) (a : Nat → Int32) (A : List Nat) : Prop := c = mI A.length ∧ A.length ≤ 3 ∧ (∀ i ∈ A, i < 40) ∧ ∀ m, m < A.length → a m = mI (A.getD m 0)
theorem AS.add {c : Int32} {a a' : Nat → Int32} {A : List Nat} {i : Nat} (h : AS c a A) (h3 : A.length < 3) (hi : i < 40) (h1 : ∀ m, m ≠ A.length → a' m = a m) (h2 : a' A.length = mI i) : AS (mI (A.length + 1)) a' (A ++ [i]) := by
  obtain ⟨-, -, g3, g4⟩ := h
  refine ⟨by simp, by simp; omega, fun j hj => ?_, fun m hm => ?_⟩
  · rcases List.mem_append.mp hj with q | q
    · exact g3 j q
    · simp at q; omega
  · simp at hm
    by_cases q : m = A.length
    · subst q
      rw [h2]
      simp
    · rw [h1 m q, g4 m (by omega), List.getD_eq_getElem?_getD, List.getD_eq_getElem?_getD, List.getElem?_append_left (by omega)]
theorem AS.mem {c : Int32} {a : Nat → Int32} {A : List Nat} (h : AS c a A) {m : Nat} (hm : m < A.length) : A.getD m 0 < 40 := by
  refine h.2.2.1 _ ?_
  rw [List.getD_eq_getElem?_getD, List.getElem?_eq_getElem hm]
  exact List.getElem_mem hm
theorem asm_f {S : List (List Nat)} {k : Nat} (h : ¬ (asm S k).length < 3) : ∀ j, asm S (k + j) = asm S k := by
  intro j
  induction j with
  | zero => rfl
  | succ j ih =>
    show asm S (k + j + 1) = _
    rw [asm, if_neg (fun z => h (by rw [ih] at z; exact z.1)), ih]
theorem asm_n {S : List (List Nat)} {k : Nat} (h : opO S k ≠ 15) : asm S (k + 1) = asm S k := by
  rw [asm, if_neg (fun z => h z.2)]
theorem asm_o {S : List (List Nat)} {k : Nat} (h : lfO S k = none) : asm S (k + 1) = asm S k := by
  rw [asm, h]
  exact ite_self _
theorem asm_i {S : List (List Nat)} {k i : Nat} (h : lfO S k = some i) (g : i ∈ asm S k) : asm S (k + 1) = asm S k := by
  rw [asm, h]
  dsimp only
  rw [if_pos g]
  exact ite_self _
theorem asm_a {S : List (List Nat)} {k i : Nat} (h3 : (asm S k).length < 3) (ho : opO S k = 15) (h : lfO S k = some i) (g : i ∉ asm S k) : asm S (k + 1) = asm S k ++ [i] := by
  rw [asm, h, if_pos ⟨h3, ho⟩]
  dsimp only
  rw [if_neg g]
/-- by cases: the two ifs -/
noncomputable def cFO (S : List (List Nat)) (k j : Nat) : Option Nat := match at0 S k with
  | [] => none
  | s :: r => if s = 14 then pos S (15 :: ((spl r).1 ++ at0 S j)) else none
noncomputable def cSO (S : List (List Nat)) (k j : Nat) : Option Nat := match at0 S k with
  | [] => none
  | s :: r => if s = 14 then pos S (15 :: ((spl r).2 ++ at0 S j)) else none
theorem cF_2 {S : List (List Nat)} {k j : Nat} {a b : List Nat} (h : at0 S k = 14 :: (a ++ b)) (ha : wff a) : cFO S k j = pos S (15 :: (a ++ at0 S j)) ∧ cSO S k j = pos S (15 :: (b ++ at0 S j)) := by
  unfold cFO cSO
  rw [h]
  dsimp only
  rw [if_pos rfl, if_pos rfl, spl_app ha]
  exact ⟨rfl, rfl⟩
theorem cF_o {S : List (List Nat)} {k j s : Nat} {a : List Nat} (h : at0 S k = s :: a) (hs : s ≠ 14) : cFO S k j = none ∧ cSO S k j = none := by
  unfold cFO cSO
  rw [h]
  dsimp only
  rw [if_neg hs, if_neg hs]
  exact ⟨rfl, rfl⟩
section MRB
variable {P : sP} {S0 e : Nat} {w w' w1 w2 u u' u'' : sW} {ex : Nat → Option sC} {n sl D F L R U : Nat} {y : sLn} {φ : Nat → List Nat} {nf : Nat → Nat} {ρ : sRc} {nd : Nat → List Nat} {S T : List (List Nat)} {A : List Nat}
abbrev ASm (u : sW) (A : List Nat) : Prop := AS (u.1 46 34) (u.2.2.1 69) A
theorem m_assumedAt {i : Nat} {x : Int32} (hx : x = mI i) (hA : ASm u A) (hi : i < 2 ^ 31) : F_X8_assumedAt (P.2.1 + 46) x (hp P u ex n sl) = some (thOf (slO A i), hp P u ex n sl) := by
  subst hx
  have hA0 := hA
  obtain ⟨h1, h2, h3, h4⟩ := hA
  rw [E_X8_assumedAt, z_46, ob, E_X8_assumedAt_0]
  rcases loopX (f := fun k => R_X8_assumedAt_2 (P.2.1 + 46) (mI i) (mI k) (hp P u ex n sl)) (N := A.length) (p := fun k => A.getD k 0 = i) (r0 := ((-1 : Int32), hp P u ex n sl)) (r1 := fun k => (mI k, hp P u ex n sl)) (fun k hk h => by
      have := hA0.mem hk
      try dsimp only
      rw [E_X8_assumedAt_2, q_46_34, ob, h1, if_neg (show ¬ mI A.length ≤ mI k by rw [nle (by omega) (by omega)]; omega), q_46_32, ob, ra_69 (by omega), ob, h4 k hk, if_neg (by rw [mI_inj (by omega) hi]; exact h), mI_s]) (fun k hk h => by
      have := hA0.mem hk
      try dsimp only
      rw [E_X8_assumedAt_2, q_46_34, ob, h1, if_neg (show ¬ mI A.length ≤ mI k by rw [nle (by omega) (by omega)]; omega), q_46_32, ob, ra_69 (by omega), ob, h4 k hk, if_pos (by rw [h])]) (by
      try dsimp only
      rw [E_X8_assumedAt_2, q_46_34, ob, h1, if_pos (by rw [nle (by omega) (by omega)]; exact Nat.le_refl _)]) with ⟨k, k1, k2, k3, k4⟩ | ⟨k1, k2⟩
  · have e : slO A i = some k := pos_of (by simpa using k1) (by rw [at_map k1, k2]) (fun j hj => by rw [at_map (by omega)]; intro z; exact k3 j hj (List.head_eq_of_cons_eq z))
    rw [e]; exact k4
  · have e : slO A i = none := slO_none.mpr (fun z => by
      obtain ⟨m, hm, e⟩ := List.mem_iff_getElem.mp z
      refine k1 m hm ?_
      rw [List.getD_eq_getElem?_getD, List.getElem?_eq_getElem hm]
      exact e)
    rw [e]; exact k2
/-- the loop that lists the assumed -/
theorem m_relA {tl : Nat → Prop} (hL : LMo u S) (hR : ∀ j, j < S.length → RLa u D S tl j) : ∀ d k (v : sW), k + d = S.length → Fr [69] [4634] u v → ASm v (asm S k) → ∃ u', R_X8_relates_221 (P.2.1 + 46) (mI k) (hp P v ex n sl) = R_X8_relates_301 (P.2.1 + 46) (hp P u' ex n sl) ∧ Fr [69] [4634] u u' ∧ ASm u' (asm S S.length) := by
  have h40 := hL.2.1.1
  intro d
  induction d with
  | zero =>
    intro k v hk hv hA
    have hk' : k = S.length := by omega
    subst hk'
    refine ⟨v, ?_, hv, hA⟩
    rw [E_X8_relates_221, q_46_33, ob, hv.i (k := 46) (j := 33) (by decide), hL.1, if_pos (by rw [nle (by omega) (by omega)]; exact Nat.le_refl _)]
  | succ d ih =>
    intro k v hk hv hA
    have hA3 := hA.2.1
    obtain ⟨z1, z2, -, -, -⟩ := hR k (by omega)
    have z1' : v.2.2.1 60 k = mI (opO S k) := by rw [hv.a (k := 60) (by decide)]; exact z1
    have z2' : v.2.2.1 61 k = thOf (lfO S k) := by rw [hv.a (k := 61) (by decide)]; exact z2
    have ho18 : opO S k < 18 := by
      have hok := at0_ok hL (show k < S.length by omega)
      obtain ⟨s, r, e, -⟩ := wff_cases hok.1
      rw [op_c e]
      exact hok.2.2 s (by rw [e]; exact List.mem_cons_self)
    rw [E_X8_relates_221, q_46_33, ob, hv.i (k := 46) (j := 33) (by decide), hL.1, if_neg (show ¬ mI S.length ≤ mI k by rw [nle (by omega) (by omega)]; omega), q_46_34, ob, hA.1]
    by_cases g3 : (asm S k).length < 3
    · rw [if_neg (show ¬ (3 : Int32) ≤ mI (asm S k).length by rw [nleR (by omega) (by decide)]; exact Nat.not_le.mpr g3), q_46_23, ob, ra_60 (by omega), ob, z1']
      by_cases go : opO S k = 15
      · rw [if_pos (by rw [go]; rfl), q_46_24, ob, ra_61 (by omega), ob, z2']
        cases el : lfO S k with
        | none =>
          rw [if_pos (show thOf none < 0 by decide), E_X8_relates_295, mI_s]
          exact ih (k + 1) v (by omega) hv (by rw [asm_o el]; exact hA)
        | some i =>
          have hi := lf_lt el
          rw [if_neg (show ¬ thOf (some i) < 0 from mI_0 (by omega)), ob, ra_61 (by omega), ob, z2', el, m_assumedAt (i := i) (x := thOf (some i)) rfl hA (by omega), ob]
          try dsimp only
          by_cases gm : i ∈ asm S k
          · cases es : slO (asm S k) i with
            | none => exact absurd gm (slO_none.mp es)
            | some m =>
              have hm := (slO_some es).1
              rw [if_pos (show (0 : Int32) ≤ thOf (some m) from (mI_le (a := 0) (b := m) (by decide) (by omega)).mpr (by omega)), E_X8_relates_295, mI_s]
              exact ih (k + 1) v (by omega) hv (by rw [asm_i el gm]; exact hA)
          · rw [slO_none.mpr gm, if_neg (show ¬ (0 : Int32) ≤ thOf none by decide), q_46_32, ob, q_46_34, ob, q_46_24, ob, ra_61 (by omega), ob, z2', el, hA.1, wa_69 (by omega), ob, q_46_34, ob, p_46_34, ob, E_X8_relates_295, mI_s]
            have e1 : (wA v 69 (asm S k).length (thOf (some i))).1 46 34 + 1 = mI ((asm S k).length + 1) := by
              show v.1 46 34 + 1 = _
              rw [hA.1, mI_s]
            rw [e1]
            refine ih (k + 1) _ (by omega) ((hv.pA (by decide)).pI (k := 46) (j := 34) (by decide)) ?_
            rw [asm_a g3 go el gm]
            have e2 : (wI (wA v 69 (asm S k).length (thOf (some i))) 46 34 (mI ((asm S k).length + 1))).1 46 34 = mI ((asm S k).length + 1) := wI_s
            show AS _ _ _
            rw [e2]
            exact hA.add g3 (by omega) (fun m hm => by show up2 v.2.2.1 69 _ _ 69 m = _; exact up2_j hm) (by show up2 v.2.2.1 69 _ _ 69 _ = _; exact up2_s)
      · rw [if_neg (by rw [show (15 : Int32) = mI 15 from rfl, mI_inj (by omega) (by decide)]; exact go), E_X8_relates_295, mI_s]
        exact ih (k + 1) v (by omega) hv (by rw [asm_n go]; exact hA)
    · rw [if_pos (show (3 : Int32) ≤ mI (asm S k).length by rw [nleR (by omega) (by decide)]; exact Nat.not_lt.mp g3)]
      refine ⟨v, rfl, hv, ?_⟩
      rw [← hk, asm_f g3]
      exact hA
/-- an if with a given left part and a given right one -/
theorem m_caseOf {k i i' j : Nat} {x1 x2 x3 x4 : Int32} {a : List Nat} {tl : Nat → Prop} (hx1 : x1 = mI (30 + k)) (hx2 : x2 = mI i) (hx3 : x3 = mI i') (hx4 : x4 = mI j) (hL : LMo u S) (hR : ∀ j, j < S.length → RLa u D S tl j) (hk : k < S.length) (hj : j < S.length) (hi : i ≤ i') (hi' : i' ≤ (at0 S k).length) (ha : seg (at0 S k) i i' = a) (hwa : wff a) : F_X8_caseOf (P.2.1 + 46) x1 x2 x3 x4 (hp P u ex n sl) = some (thOf (pos S (15 :: (a ++ at0 S j))), hp P u ex n sl) := by
  have h40 := hL.2.1.1
  have c30 : ∀ v, 30 + mI v = mI (30 + v) := fun v => mI_add 30 v
  subst hx1 hx2 hx3 hx4
  have hok : ∀ v, v < S.length → okF (at0 S v) := fun v hv => at0_ok hL hv
  -- one place
  have one : ∀ v, v < S.length → R_X8_caseOf_3 (P.2.1 + 46) (mI (30 + k)) (mI i) (mI i') (mI j) (mI v) (hp P u ex n sl) = @ite _ (at0 S v = 15 :: (a ++ at0 S j)) (Classical.propDecidable _) (some (mI v, hp P u ex n sl)) (R_X8_caseOf_3 (P.2.1 + 46) (mI (30 + k)) (mI i) (mI i') (mI j) (mI (v + 1)) (hp P u ex n sl)) := by
    intro v hv
    obtain ⟨s, r, e, hc⟩ := wff_cases (hok v hv).1
    have hs18 : s < 18 := (hok v hv).2.2 s (by rw [e]; exact List.mem_cons_self)
    have hl := hL.2.2 v hv
    rw [E_X8_caseOf_3, q_46_33, ob, hL.1, if_neg (show ¬ mI S.length ≤ mI v by rw [nle (by omega) (by omega)]; omega), q_46_23, ob, ra_60 (by omega), ob, (hR v hv).1, op_c e]
    by_cases gs : s = 15
    · subst gs
      rcases hc with ⟨h0, -⟩ | ⟨h1, -⟩ | ⟨-, b, c, rfl, hb, hcc⟩
      · cases h0
      · cases h1
      · have hl' := hl
        rw [e] at hl'
        have hlen := hl'.2.1
        simp only [List.length_cons, List.length_append] at hlen
        rw [if_pos (show mI 15 = 15 from rfl), c30, m_endOf (y := 1) (i := 1) (b := c) rfl rfl (by omega) hl' rfl hb, ob]
        try dsimp only
        rw [m_isPart (f := 30 + k) (g := 30 + v) (i := i) (i' := i') (j := 1) (j' := 1 + b.length) (t := none) (x4 := -1) (x6 := 1) rfl rfl rfl rfl rfl rfl rfl (by omega) (by omega) (hL.2.2 k hk) hl' hi hi' (by omega) (by simp; omega) (fun u hu => by cases hu), ob, ins_none, ha, seg_a]
        try dsimp only
        by_cases g1 : a = b
        · rw [if_neg (fun z => b2_0.mp z g1), c30, m_isRight (s := 15) (y := 15) rfl rfl rfl (by omega) (by omega) (by decide) rfl hl' (hL.2.2 j hj) (by rw [← e]; exact (hok v hv).1), ob, b2_congr (isR_iff (s := 15) hb hcc)]
          try dsimp only
          by_cases g2 : c = at0 S j
          · rw [if_neg (fun z => b2_0.mp z g2), if_pos (by rw [e, g1, g2])]
          · rw [if_pos (b2_0.mpr g2), E_X8_caseOf_71, mI_s, if_neg (fun z => by
              rw [e] at z
              exact g2 (wff_uni hb hwa (List.cons.inj z).2).2)]
        · rw [if_pos (b2_0.mpr g1), E_X8_caseOf_71, mI_s, if_neg (fun z => by
            rw [e] at z
            exact g1 (wff_uni hb hwa (List.cons.inj z).2).1.symm)]
    · rw [if_neg (by rw [show (15 : Int32) = mI 15 from rfl, mI_inj (by omega) (by decide)]; exact gs), E_X8_caseOf_71, mI_s, if_neg (fun z => by
        rw [e] at z
        exact gs (List.cons.inj z).1)]
  rw [E_X8_caseOf, z_46, ob, E_X8_caseOf_0]
  rcases loopX (f := fun v => R_X8_caseOf_3 (P.2.1 + 46) (mI (30 + k)) (mI i) (mI i') (mI j) (mI v) (hp P u ex n sl)) (N := S.length) (p := fun v => at0 S v = 15 :: (a ++ at0 S j)) (r0 := ((-1 : Int32), hp P u ex n sl)) (r1 := fun k => (mI k, hp P u ex n sl)) (fun v hv h => by
      try dsimp only
      rw [one v hv, if_neg h]) (fun v hv h => by
      try dsimp only
      rw [one v hv, if_pos h]) (by
      try dsimp only
      rw [E_X8_caseOf_3, q_46_33, ob, hL.1, if_pos (by rw [nle (by omega) (by omega)]; exact Nat.le_refl _)]) with ⟨k, h1, h2, h3, h4⟩ | ⟨h1, h2⟩
  · rw [pos_of h1 h2 h3]; exact h4
  · rw [pos_none.mpr (fun z => by obtain ⟨i, i1, i2⟩ := mem_at0.mp z; exact h1 i i1 i2)]; exact h2
end MRB
