/-! worlds in the model; queries on worlds in both -/
section MWo
variable {P : sP} {w : sW} {ex : Nat → Option sC} {n sl : Nat} {D F L : Nat} {y : sLn} {φ : Nat → List Nat}
theorem m_worldsMany (hM : MW w D F L y φ) : F_X8_worldsMany (P.2.1 + 46) (hp P w ex n sl) = some (mI (nW D), hp P w ex n sl) := by
  have h1 := hM.1
  have h3 := hM.2.1
  rw [E_X8_worldsMany, z_46, ob, E_X8_worldsMany_0, m_d, ob, hM.2.2.2.2.1]
  have e : (1 : Int32) <<< ((4 + 2 * mI D) &&& 31) = mI (nW D) := by rcases (show D = 1 ∨ D = 2 ∨ D = 3 by omega) with rfl | rfl | rfl <;> decide
  exact congrArg (fun z => some (z, hp P w ex n sl)) e
theorem MW.f53 {u : sW} (hM : MW w D F L y φ) (h : Fr [53] [] w u) : MW u D F L y φ := hM.fr h (by decide) (by decide) (by decide)
theorem m_true {f wd : Nat} (hM : MW w D F L y φ) (hf : f < F) : ∃ w', F_X8_isTrue (P.2.1 + 46) (mI f) (mI wd) (hp P w ex n sl) = some (b2 (TR D wd (φ f)), hp P w' ex n sl) ∧ Fr [53] [] w w' := by
  obtain ⟨h1, h3, h30, -, hD, -, -, -, -, hφ⟩ := hM
  exact m_isTrue rfl rfl (by omega) hD h1 h3 (hφ f hf).1 (hφ f hf).2
theorem nW_lt {D : Nat} (h3 : D ≤ 3) : nW D ≤ 1024 := by
  rcases (show D = 0 ∨ D = 1 ∨ D = 2 ∨ D = 3 by omega) with rfl | rfl | rfl | rfl <;> decide
theorem m_holdAll {wd : Nat} {s : Int32} (hM : MW w D F L y φ) : ∃ w', F_X8_holdAll (P.2.1 + 46) s (mI wd) (hp P w ex n sl) = some (b2 (allT D F φ s wd), hp P w' ex n sl) ∧ Fr [53] [] w w' := by
  have h30 := hM.2.2.1
  have hF := hM.2.2.2.2.2.1
  have key := loopN (A := sW) (run := fun k u => R_X8_holdAll_5 (P.2.1 + 46) s (mI wd) 1 (mI k) (hp P u ex n sl)) (N := F)
    (fun k u => Fr [53] [] w u ∧ allTk D φ s k wd)
    (Q := fun r => ∃ w', r = (b2 (allT D F φ s wd), hp P w' ex n sl) ∧ Fr [53] [] w w')
    (fun k u hk ⟨i1, i2⟩ => by
      have uM := hM.f53 i1
      have uF := uM.2.2.2.2.2.1
      have sk : (bt s k = true → TR D wd (φ k)) → allTk D φ s (k + 1) wd := fun h f hf hb => by
        by_cases e : f = k
        · subst e; exact h hb
        · exact i2 f (by omega) hb
      by_cases g : bt s k = true
      · obtain ⟨u', e1, e2⟩ := m_true (P := P) (ex := ex) (n := n) (sl := sl) (wd := wd) uM hk
        by_cases g1 : TR D wd (φ k)
        · refine Or.inl ⟨u', ⟨i1.tr e2, sk fun _ => g1⟩, ?_⟩
          rw [E_X8_holdAll_5, m_formulas, ob, uF, if_neg (by rw [nle (by omega) (by omega)]; omega), if_neg (by decide), if_neg (by rw [t32 (by omega), g]; decide), e1, ob]
          try dsimp only
          rw [if_neg (show ¬ b2 _ = 0 from fun z => b2_0.mp z g1), E_X8_holdAll_37, E_X8_holdAll_42, naddL]
        · refine Or.inr ⟨(b2 (allT D F φ s wd), hp P u' ex n sl), ?_, u', rfl, i1.tr e2⟩
          · have uM' := uM.f53 e2
            rw [E_X8_holdAll_5, m_formulas, ob, uF, if_neg (by rw [nle (by omega) (by omega)]; omega), if_neg (by decide), if_neg (by rw [t32 (by omega), g]; decide), e1, ob]
            try dsimp only
            rw [if_pos (b2_0.mpr g1), E_X8_holdAll_42, naddL, E_X8_holdAll_5, m_formulas, ob, uM'.2.2.2.2.2.1, b2_f (show ¬ allT D F φ s wd from fun z => g1 (z k hk g))]
            by_cases g2 : mI F ≤ mI (k + 1)
            · rw [if_pos g2, if_pos (Or.inl rfl)]
            · rw [if_neg g2, if_pos rfl, if_pos (Or.inl rfl)]
      · refine Or.inl ⟨u, ⟨i1, sk fun h => absurd h g⟩, ?_⟩
        rw [E_X8_holdAll_5, m_formulas, ob, uF, if_neg (by rw [nle (by omega) (by omega)]; omega), if_neg (by decide), if_pos (by rw [t32 (by omega)]; exact Bool.not_eq_true _ ▸ g), E_X8_holdAll_37, E_X8_holdAll_42, naddL])
    (fun u ⟨i1, i2⟩ => by
      have uM := hM.f53 i1
      refine ⟨_, ?_, u, rfl, i1⟩
      rw [E_X8_holdAll_5, m_formulas, ob, uM.2.2.2.2.2.1, if_pos (by rw [nle (by omega) (by omega)]; omega), if_pos (Or.inr rfl), b2_t (show allT D F φ s wd from i2)]) 0 w (by omega) ⟨Fr.rf, fun f h => absurd h (by omega)⟩
  obtain ⟨r, h1, w', h2, h3⟩ := key
  refine ⟨w', ?_, h3⟩
  rw [E_X8_holdAll, z_46, ob, E_X8_holdAll_0, ← h2]
  exact h1
theorem m_leastWorld {s : Int32} {o : Option Nat} (hM : MW w D F L y φ) (ho : ∀ g, o = some g → g < F) : ∃ v w', F_X8_leastWorld (P.2.1 + 46) s (thOf o) (hp P w ex n sl) = some (v, hp P w' ex n sl) ∧ Fr [53] [] w w' ∧ leastR (fun wd => allT D F φ s wd ∧ ∀ g, o = some g → ¬ TR D wd (φ g)) (nW D) v := by
  have h30 := hM.2.2.1
  have h3 := nW_lt hM.2.1
  have key := loopN (A := sW) (run := fun k u => R_X8_leastWorld_2 (P.2.1 + 46) s (thOf o) (mI k) (hp P u ex n sl)) (N := nW D)
    (fun k u => Fr [53] [] w u ∧ ∀ i, i < k → ¬ (allT D F φ s i ∧ ∀ g, o = some g → ¬ TR D i (φ g)))
    (Q := fun r => ∃ v w', r = (v, hp P w' ex n sl) ∧ Fr [53] [] w w' ∧ leastR (fun wd => allT D F φ s wd ∧ ∀ g, o = some g → ¬ TR D wd (φ g)) (nW D) v)
    (fun k u hk ⟨i1, i2⟩ => by
      have uM := hM.f53 i1
      obtain ⟨u', e1, e2⟩ := m_holdAll (P := P) (ex := ex) (n := n) (sl := sl) (wd := k) (s := s) uM
      have go : R_X8_leastWorld_2 (P.2.1 + 46) s (thOf o) (mI k) (hp P u ex n sl) = (if b2 (allT D F φ s k) = 0 then R_X8_leastWorld_34 (P.2.1 + 46) s (thOf o) (mI k) (hp P u' ex n sl) else (if thOf o < 0 then some (mI k, hp P u' ex n sl) else ((F_X8_isTrue (P.2.1 + 46) (thOf o) (mI k) (hp P u' ex n sl)).bind fun q3 => if q3.1 = 0 then some (mI k, q3.2) else R_X8_leastWorld_34 (P.2.1 + 46) s (thOf o) (mI k) q3.2))) := by
        rw [E_X8_leastWorld_2, m_worldsMany uM, ob]
        try dsimp only
        rw [if_neg (by rw [nle (by omega) (by omega)]; omega), e1, ob]
      rw [go]
      have st : ∀ j, ¬ (allT D F φ s k ∧ ∀ g, o = some g → ¬ TR D k (φ g)) → j < k + 1 → ¬ (allT D F φ s j ∧ ∀ g, o = some g → ¬ TR D j (φ g)) := fun j h hj => by
        by_cases e : j = k
        · subst e; exact h
        · exact i2 j (by omega)
      by_cases g : allT D F φ s k
      · rw [if_neg (show ¬ b2 _ = 0 from fun z => b2_0.mp z g)]
        cases hoo : o with
        | none =>
          rw [if_pos (show thOf none < 0 by decide)]
          refine Or.inr ⟨_, rfl, _, u', rfl, i1.tr e2, Or.inl ⟨k, hk, ⟨g, fun q hq => by cases hq⟩, ?_, rfl⟩⟩
          rw [hoo] at i2
          exact i2
        | some q =>
          have hq := ho q hoo
          obtain ⟨u2, e3, e4⟩ := m_true (P := P) (ex := ex) (n := n) (sl := sl) (wd := k) (uM.f53 e2) hq
          rw [if_neg (show ¬ thOf (some q) < 0 from mI_0 (by omega)), thOf_some, e3, ob]
          try dsimp only
          rw [hoo] at i2 st
          by_cases g1 : TR D k (φ q)
          · rw [if_neg (show ¬ b2 _ = 0 from fun z => b2_0.mp z g1), E_X8_leastWorld_34, naddL]
            exact Or.inl ⟨u2, ⟨(i1.tr e2).tr e4, fun j hj => st j (fun z => z.2 q rfl g1) hj⟩, rfl⟩
          · rw [if_pos (b2_0.mpr g1)]
            exact Or.inr ⟨_, rfl, _, u2, rfl, (i1.tr e2).tr e4, Or.inl ⟨k, hk, ⟨g, fun q' hq' => by cases hq'; exact g1⟩, i2, rfl⟩⟩
      · rw [if_pos (b2_0.mpr g), E_X8_leastWorld_34, naddL]
        exact Or.inl ⟨u', ⟨i1.tr e2, fun j hj => st j (fun z => g z.1) hj⟩, rfl⟩)
    (fun u ⟨i1, i2⟩ => by
      have uM := hM.f53 i1
      refine ⟨_, ?_, _, u, rfl, i1, Or.inr ⟨i2, rfl⟩⟩
      rw [E_X8_leastWorld_2, m_worldsMany uM, ob]
      try dsimp only
      rw [if_pos (by rw [nle (by omega) (by omega)]; omega)]) 0 w (by omega) ⟨Fr.rf, fun f h => absurd h (by omega)⟩
  obtain ⟨r, h1, v, w', h2, h3⟩ := key
  refine ⟨v, w', ?_, h3⟩
  rw [E_X8_leastWorld, z_46, ob, E_X8_leastWorld_0, ← h2]
  exact h1
end MWo
section CQ
variable {P : sP} {w : sW} {ex : Nat → Option sC} {n sl : Nat} {D F : Nat} {φ : Nat → List Nat}
/-- what the class's questions on worlds rest on -/
def CQ (w : sW) (D F : Nat) (φ : Nat → List Nat) : Prop := 1 ≤ D ∧ D ≤ 3 ∧ F ≤ 30 ∧ w.1 9 0 = mI D ∧ w.1 9 2 = mI F ∧ CT w D F φ
theorem CQ.fr {A B : List Nat} {w' : sW} (h : Fr A B w w') (g : CQ w D F φ) (h1 : 10 ∉ A) (h2 : 900 ∉ B) (h3 : 902 ∉ B) : CQ w' D F φ := by
  unfold CQ CT
  rw [h.l h1, h.i (k := 9) (j := 0) h2, h.i (k := 9) (j := 2) h3]
  exact g
theorem c_leastBreach {f : Nat} {s x : Int32} (hx : x = mI f) (hQ : CQ w D F φ) (hf : f < F) : ∃ v w', F_X3_leastBreach (P.2.1 + 31) s x (hp P w ex n sl) = some (v, hp P w' ex n sl) ∧ Fr [32] [] w w' ∧ leastR (fun wd => allT D F φ s wd ∧ ¬ TR D wd (φ f)) (nW D) v := by
  obtain ⟨h1, h3, h30, hD, hF, hT⟩ := hQ
  obtain ⟨w', e1, e2, e3⟩ := c_gather (P := P) (ex := ex) (n := n) (sl := sl) (R := 32) (s := s) (Or.inl rfl) hD h1 h3 hT hF h30
  have hQ' : CQ w' D F φ := CQ.fr e2 ⟨h1, h3, h30, hD, hF, hT⟩ (by decide) (by decide) (by decide)
  obtain ⟨-, -, -, hD', hF', hT'⟩ := hQ'
  obtain ⟨v, e4, e5⟩ := c_leastOutside (P := P) (ex := ex) (n := n) (sl := sl) (R := 32) hx (Or.inl rfl) hD' h1 h3 hT' hF' h30 hf e3
  refine ⟨v, w', ?_, e2, e5⟩
  rw [E_X3_leastBreach, z_31, ob, E_X3_leastBreach_0, q_31_1, ob, e1, ob, q_31_1, ob, e4, ob]
theorem c_leastWorld {s : Int32} (hQ : CQ w D F φ) : ∃ v w', F_X3_leastWorld (P.2.1 + 31) s (hp P w ex n sl) = some (v, hp P w' ex n sl) ∧ Fr [32] [] w w' ∧ leastR (allT D F φ s) (nW D) v := by
  obtain ⟨h1, h3, h30, hD, hF, hT⟩ := hQ
  obtain ⟨w', e1, e2, e3⟩ := c_gather (P := P) (ex := ex) (n := n) (sl := sl) (R := 32) (s := s) (Or.inl rfl) hD h1 h3 hT hF h30
  have hD' : w'.1 9 0 = mI D := by rw [e2.i (k := 9) (j := 0) (by simp)]; exact hD
  obtain ⟨v, e4, e5⟩ := c_leastOf (P := P) (ex := ex) (n := n) (sl := sl) (R := 32) (Or.inl rfl) hD' h1 h3 e3
  refine ⟨v, w', ?_, e2, e5⟩
  rw [E_X3_leastWorld, z_31, ob, E_X3_leastWorld_0, q_31_1, ob, e1, ob, q_31_1, ob, e4, ob]
/-- formulas told that follow from the others told -/
def idlP (D F : Nat) (φ : Nat → List Nat) (s : Int32) (f : Nat) : Prop := bt s f = true ∧ ∀ wd, wd < nW D → ¬ (allT D F φ (s &&& (on32 f ^^^ (-1))) wd ∧ ¬ TR D wd (φ f))
theorem and_on {s : Int32} {k : Nat} (hk : k < 32) : (s &&& on32 k = 0) = (bt s k = false) := by
  apply propext
  constructor
  · intro h
    have := congrArg (fun z => bt z k) h
    simp only [bt_and, bt_on hk hk, bt_0] at this
    simpa using this
  · intro h
    apply bt_ext
    intro i hi
    rw [bt_and, bt_on hk hi, bt_0]
    by_cases e : i = k
    · subst e; rw [h]; rfl
    · rw [decide_eq_false e, Bool.and_false]
theorem c_idleIn {s : Int32} (hQ : CQ w D F φ) : ∃ w', F_X3_idleIn (P.2.1 + 31) s (hp P w ex n sl) = some (mk32 (idlP D F φ s) F, hp P w' ex n sl) ∧ Fr [32] [] w w' := by
  have h30 := hQ.2.2.1
  have hF := hQ.2.2.2.2.1
  have hW := nW_lt hQ.2.1
  have key := loopN (A := sW) (run := fun k u => R_X3_idleIn_4 (P.2.1 + 31) s (mk32 (idlP D F φ s) k) (mI k) (hp P u ex n sl)) (N := F)
    (fun k u => Fr [32] [] w u) (Q := fun r => ∃ w', r = (mk32 (idlP D F φ s) F, hp P w' ex n sl) ∧ Fr [32] [] w w')
    (fun k u hk i1 => by
      have uQ : CQ u D F φ := hQ.fr i1 (by decide) (by decide) (by decide)
      have uF := uQ.2.2.2.2.1
      by_cases g : bt s k = true
      · obtain ⟨v, u', e1, e2, e3⟩ := c_leastBreach (P := P) (ex := ex) (n := n) (sl := sl) (x := mI k) (s := s &&& (on32 k ^^^ (-1))) rfl uQ hk
        refine Or.inl ⟨u', i1.tr e2, ?_⟩
        rw [E_X3_idleIn_4, q_31_0, ob, q_9_2, ob, uF, if_neg (by rw [nle (by omega) (by omega)]; omega), if_neg (by rw [and_on (by omega), g]; decide), e1, ob]
        try dsimp only
        by_cases g1 : v = -1
        · rw [if_pos g1, mk32_t (p := idlP D F φ s) ⟨g, by rw [leastR_m1 (by omega) e3] at g1; exact g1⟩, E_X3_idleIn_47, naddL]
        · rw [if_neg g1, mk32_f (p := idlP D F φ s) (fun z => g1 (by rw [leastR_m1 (by omega) e3]; exact z.2)), E_X3_idleIn_47, naddL]
      · refine Or.inl ⟨u, i1, ?_⟩
        rw [E_X3_idleIn_4, q_31_0, ob, q_9_2, ob, uF, if_neg (by rw [nle (by omega) (by omega)]; omega), if_pos (by rw [and_on (by omega)]; exact Bool.not_eq_true _ ▸ g), mk32_f (p := idlP D F φ s) (fun z => g z.1), E_X3_idleIn_47, naddL])
    (fun u i1 => by
      have uQ : CQ u D F φ := hQ.fr i1 (by decide) (by decide) (by decide)
      refine ⟨_, ?_, u, rfl, i1⟩
      rw [E_X3_idleIn_4, q_31_0, ob, q_9_2, ob, uQ.2.2.2.2.1, if_pos (by rw [nle (by omega) (by omega)]; omega)]) 0 w (by omega) Fr.rf
  obtain ⟨r, h1, w', h2, h3⟩ := key
  refine ⟨w', ?_, h3⟩
  rw [E_X3_idleIn, z_31, ob, E_X3_idleIn_0, ← h2]
  exact h1
def aliP (D : Nat) (φ : Nat → List Nat) (f g : Nat) : Prop := ∀ wd, wd < nW D → (TR D wd (φ g) ↔ TR D wd (φ f))
theorem row_eq {p q : Nat → Prop} {wo : Nat} : (rowS p wo = rowS q wo) = ∀ b, b < 64 → (p (64 * wo + b) ↔ q (64 * wo + b)) := by
  apply propext
  constructor
  · intro h b hb
    have h1 := bl_mk (p := fun b => p (64 * wo + b)) (k := 64) (i := b) (by omega) hb
    have h2 := bl_mk (p := fun b => q (64 * wo + b)) (k := 64) (i := b) (by omega) hb
    have h3 := congrArg (fun x => bl x b = true) h
    simp only [eq_iff_iff] at h3
    rw [h1, h2] at h3
    exact ⟨fun z => (h3.mp ⟨hb, z⟩).2, fun z => (h3.mpr ⟨hb, z⟩).2⟩
  · intro h
    exact mk64_congr h
theorem c_holdAlike {f g : Nat} {x v : Int32} (hx : x = mI f) (hv : v = mI g) (hQ : CQ w D F φ) (hf : f < F) (hg : g < F) : F_X3_holdAlike (P.2.1 + 31) x v (hp P w ex n sl) = some (b2 (aliP D φ f g), hp P w ex n sl) := by
  subst hx hv
  obtain ⟨h1, h3, h30, hD, hF, hT⟩ := hQ
  obtain ⟨n1, n2, n3⟩ := nW_w h1 h3
  rw [E_X3_holdAlike, z_31, ob, E_X3_holdAlike_0]
  have := loopX (f := fun k => R_X3_holdAlike_2 (P.2.1 + 31) (mI f) (mI g) (mI k) (hp P w ex n sl)) (N := wds D) (p := fun k => ¬ rowS (fun wd => TR D wd (φ f)) k = rowS (fun wd => TR D wd (φ g)) k) (r0 := ((1 : Int32), hp P w ex n sl)) (r1 := fun _ => ((0 : Int32), hp P w ex n sl)) (fun k hk hn => by
      rw [E_X3_holdAlike_2, q_31_0, ob, c_words hD h1 h3, ob]
      try dsimp only
      rw [if_neg (by rw [nle (by omega) (by omega)]; omega), q_31_0, ob, c_truthOf rfl rfl hT hF h30 hf hk n2, ob, q_31_0, ob, c_truthOf rfl rfl hT hF h30 hg hk n2, ob]
      try dsimp only
      rw [if_pos (by rw [lg_cmp_eq]; exact Classical.not_not.mp hn), naddL]) (fun k hk hn => by
      rw [E_X3_holdAlike_2, q_31_0, ob, c_words hD h1 h3, ob]
      try dsimp only
      rw [if_neg (by rw [nle (by omega) (by omega)]; omega), q_31_0, ob, c_truthOf rfl rfl hT hF h30 hf hk n2, ob, q_31_0, ob, c_truthOf rfl rfl hT hF h30 hg hk n2, ob]
      try dsimp only
      rw [if_neg (by rw [lg_cmp_eq]; exact hn)]) (by
      rw [E_X3_holdAlike_2, q_31_0, ob, c_words hD h1 h3, ob]
      try dsimp only
      rw [if_pos (by rw [nle (by omega) (by omega)]; omega)])
  rcases this with ⟨k, g1, g2, g3, g4⟩ | ⟨g1, g2⟩
  · refine Eq.trans g4 ?_
    rw [b2_f]
    intro z
    refine g2 ?_
    rw [row_eq]
    exact fun b hb => (z (64 * k + b) (by omega)).symm
  · refine Eq.trans g2 ?_
    rw [b2_t]
    intro wd hwd
    have z := Classical.not_not.mp (g1 (wd / 64) (by omega))
    rw [row_eq] at z
    have := z (wd % 64) (by omega)
    rw [show 64 * (wd / 64) + wd % 64 = wd by omega] at this
    exact this.symm
theorem c_alikeTo {f : Nat} {x : Int32} (hx : x = mI f) (hQ : CQ w D F φ) (hf : f < F) : F_X3_alikeTo (P.2.1 + 31) x (hp P w ex n sl) = some (mk32 (aliP D φ f) F, hp P w ex n sl) := by
  subst hx
  have h30 := hQ.2.2.1
  have hF := hQ.2.2.2.2.1
  rw [E_X3_alikeTo, z_31, ob, E_X3_alikeTo_0]
  refine loopE (f := fun k => R_X3_alikeTo_4 (P.2.1 + 31) (mI f) (mk32 (aliP D φ f) k) (mI k) (hp P w ex n sl)) (N := F) (fun k hk => ?_) ?_
  · rw [E_X3_alikeTo_4, q_31_0, ob, q_9_2, ob, hF, if_neg (by rw [nle (by omega) (by omega)]; omega), c_holdAlike rfl rfl hQ hf hk, ob]
    try dsimp only
    by_cases g : aliP D φ f k
    · rw [if_neg (show ¬ b2 _ = 0 from fun z => b2_0.mp z g), mk32_t (p := aliP D φ f) g, E_X3_alikeTo_30, naddL]
    · rw [if_pos (b2_0.mpr g), mk32_f (p := aliP D φ f) g, E_X3_alikeTo_30, naddL]
  · rw [E_X3_alikeTo_4, q_31_0, ob, q_9_2, ob, hF, if_pos (by rw [nle (by omega) (by omega)]; omega)]
/-- how many below k -/
noncomputable def cntP (p : Nat → Prop) : Nat → Nat
  | 0 => 0
  | k + 1 => cntP p k + @ite _ (p k) (Classical.propDecidable _) 1 0
theorem cntP_t {p : Nat → Prop} {k : Nat} (h : p k) : cntP p (k + 1) = cntP p k + 1 := by show cntP p k + _ = _; rw [if_pos h]
theorem cntP_f {p : Nat → Prop} {k : Nat} (h : ¬ p k) : cntP p (k + 1) = cntP p k := by show cntP p k + _ = _; rw [if_neg h]; rfl
theorem cntP_congr {p q : Nat → Prop} {k : Nat} (h : ∀ i, i < k → (p i ↔ q i)) : cntP p k = cntP q k := by
  induction k with
  | zero => rfl
  | succ k ih =>
    have ih := ih fun i hi => h i (by omega)
    by_cases g : p k
    · rw [cntP_t g, cntP_t ((h k (by omega)).mp g), ih]
    · rw [cntP_f g, cntP_f (fun z => g ((h k (by omega)).mpr z)), ih]
theorem cntP_le {p : Nat → Prop} {k : Nat} : cntP p k ≤ k := by
  induction k with
  | zero => exact Nat.le_refl _
  | succ k ih =>
    by_cases g : p k
    · rw [cntP_t g]; omega
    · rw [cntP_f g]; omega
theorem cntP_cnt {p : Nat → Prop} {f : Nat → Bool} {k : Nat} (h : ∀ i, i < k → (f i = true ↔ p i)) : cnt f k = cntP p k := by
  induction k with
  | zero => rfl
  | succ k ih =>
    have ih := ih fun i hi => h i (by omega)
    show cnt f k + (f k).toNat = _
    by_cases g : p k
    · rw [cntP_t g, ih, (h k (by omega)).mpr g]; rfl
    · have hf : f k = false := by rw [← Bool.not_eq_true]; exact fun z => g ((h k (by omega)).mp z)
      rw [cntP_f g, ih, hf]; rfl
theorem cntP_add {p : Nat → Prop} {a b : Nat} : cntP p (a + b) = cntP p a + cntP (fun i => p (a + i)) b := by
  induction b with
  | zero => rfl
  | succ b ih =>
    rw [← Nat.add_assoc]
    by_cases g : p (a + b)
    · rw [cntP_t g, cntP_t (p := fun i => p (a + i)) g, ih]; omega
    · rw [cntP_f g, cntP_f (p := fun i => p (a + i)) g, ih]
theorem c_size {f : Nat} {x : Int32} (hx : x = mI f) (hQ : CQ w D F φ) (hf : f < F) : F_X3_size (P.2.1 + 31) x (hp P w ex n sl) = some (mI (cntP (fun wd => TR D wd (φ f)) (nW D)), hp P w ex n sl) := by
  subst hx
  obtain ⟨h1, h3, h30, hD, hF, hT⟩ := hQ
  obtain ⟨n1, n2, n3⟩ := nW_w h1 h3
  rw [E_X3_size, z_31, ob, E_X3_size_0, n1]
  refine loopE (f := fun k => R_X3_size_4 (P.2.1 + 31) (mI f) (mI (cntP (fun wd => TR D wd (φ f)) (64 * k))) (mI k) (hp P w ex n sl)) (N := wds D) (fun k hk => ?_) ?_
  · rw [E_X3_size_4, q_31_0, ob, c_words hD h1 h3, ob]
    try dsimp only
    rw [if_neg (by rw [nle (by omega) (by omega)]; omega), q_31_0, ob, c_truthOf rfl rfl hT hF h30 hf hk n2, ob, j_bitCount64, ob, naddL]
    try dsimp only
    rw [nadd, show 64 * (k + 1) = 64 * k + 64 by omega, cntP_add, cntP_cnt (p := fun b => TR D (64 * k + b) (φ f)) fun i hi => ⟨fun z => ((bl_mk (by omega) hi).mp z).2, fun z => (bl_mk (by omega) hi).mpr ⟨hi, z⟩⟩]
  · rw [E_X3_size_4, q_31_0, ob, c_words hD h1 h3, ob]
    try dsimp only
    rw [if_pos (by rw [nle (by omega) (by omega)]; omega)]
theorem c_truthsIn {wd : Nat} {x : Int32} (hx : x = mI wd) (hQ : CQ w D F φ) (hwd : wd < nW D) : F_X3_truthsIn (P.2.1 + 31) x (hp P w ex n sl) = some (mI (cntP (fun f => TR D wd (φ f)) F), hp P w ex n sl) := by
  subst hx
  obtain ⟨h1, h3, h30, hD, hF, hT⟩ := hQ
  rw [E_X3_truthsIn, z_31, ob, E_X3_truthsIn_0]
  refine loopE (f := fun k => R_X3_truthsIn_4 (P.2.1 + 31) (mI wd) (mI (cntP (fun f => TR D wd (φ f)) k)) (mI k) (hp P w ex n sl)) (N := F) (fun k hk => ?_) ?_
  · rw [E_X3_truthsIn_4, q_31_0, ob, q_9_2, ob, hF, if_neg (by rw [nle (by omega) (by omega)]; omega), ob, c_isTrueC rfl rfl hT hF h30 hk h1 h3 hwd, ob]
    try dsimp only
    by_cases g : TR D wd (φ k)
    · rw [if_neg (show ¬ b2 _ = 0 from fun z => b2_0.mp z g), cntP_t (p := fun f => TR D wd (φ f)) g, E_X3_truthsIn_30, naddL, naddL]
    · rw [if_pos (b2_0.mpr g), cntP_f (p := fun f => TR D wd (φ f)) g, E_X3_truthsIn_30, naddL]
  · rw [E_X3_truthsIn_4, q_31_0, ob, q_9_2, ob, hF, if_pos (by rw [nle (by omega) (by omega)]; omega)]
end CQ
