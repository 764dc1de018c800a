/-! the listed members of a set; withdrawing -/
section WDR
variable {P : sP} {S0 e : Nat} {w w' w1 w2 z u : sW} {ex : Nat → Option sC} {n sl D F L R U : Nat} {y : sLn} {φ : Nat → List Nat} {nf : Nat → Nat} {ρ : sRc} {nd : Nat → List Nat}
/-- the first c places of the list hold the ascending formulas below k of a set -/
def LM (u : sW) (s : Int32) (M : Nat → Nat) (c k : Nat) : Prop := asc M c k ∧ (∀ i, i < c → u.2.2.1 35 i = mI (M i) ∧ bt s (M i) = true) ∧ ∀ f, f < k → bt s f = true → ∃ i, i < c ∧ M i = f
theorem cntP_mono {p : Nat → Prop} {k n : Nat} (h : k ≤ n) : cntP p k ≤ cntP p n := by
  obtain ⟨d, rfl⟩ := Nat.exists_eq_add_of_le h
  rw [cntP_add]; omega
theorem cntP_end {p : Nat → Prop} {k n f : Nat} (h : k ≤ f) (hf : f < n) (hp : p f) : cntP p k < cntP p n := by
  have h1 := cntP_mono (p := p) h
  have h2 := cntP_mono (p := p) (show f + 1 ≤ n by omega)
  rw [cntP_t hp] at h2
  omega
theorem c_listM {s : Int32} (hQ : CQ w D F φ) (hs : cntP (fun f => bt s f = true) F ≤ 14) : ∃ w' M c, F_X3_listMembers (P.2.1 + 31) s (hp P w ex n sl) = some (mI c, hp P w' ex n sl) ∧ Fr [35] [] w w' ∧ c ≤ 14 ∧ LM w' s M c F := by
  have h30 := hQ.2.2.1
  have key : ∀ d k (u : sW) (M : Nat → Nat), k + d = F → Fr [35] [] w u → LM u s M (cntP (fun f => bt s f = true) k) k → ∃ w' M c, R_X3_listMembers_4 (P.2.1 + 31) s (mI (cntP (fun f => bt s f = true) k)) (mI k) (hp P u ex n sl) = some (mI c, hp P w' ex n sl) ∧ Fr [35] [] w w' ∧ c ≤ 14 ∧ LM w' s M c F := by
    intro d
    induction d with
    | zero =>
      intro k u M hk hu hM
      have hk : k = F := by omega
      subst hk
      refine ⟨u, M, _, ?_, hu, hs, hM⟩
      rw [E_X3_listMembers_4, q_31_0, ob, q_9_2, ob, hu.i (k := 9) (j := 2) (by decide), hQ.2.2.2.2.1]
      exact if_pos (by rw [nle (by omega) (by omega)]; exact Nat.le_refl _)
    | succ d ih =>
      intro k u M hk hu hM
      have hle := cntP_le (p := fun f => bt s f = true) (k := k)
      have hm := cntP_mono (p := fun f => bt s f = true) (show k ≤ F by omega)
      rw [E_X3_listMembers_4, q_31_0, ob, q_9_2, ob, hu.i (k := 9) (j := 2) (by decide), hQ.2.2.2.2.1, if_neg (show ¬ mI F ≤ mI k by rw [nle (by omega) (by omega)]; omega)]
      by_cases g14 : 14 ≤ cntP (fun f => bt s f = true) k
      · rw [if_pos (show (14 : Int32) ≤ mI _ by rw [nleR (by omega) (by decide)]; exact g14)]
        refine ⟨u, M, _, rfl, hu, by omega, ⟨fun i hi => by have := hM.1.1 i hi; omega, hM.1.2⟩, hM.2.1, fun f hf hb => ?_⟩
        by_cases g : f < k
        · exact hM.2.2 f g hb
        · have := cntP_end (p := fun f => bt s f = true) (show k ≤ f by omega) hf hb
          omega
      · rw [if_neg (show ¬ (14 : Int32) ≤ mI _ by rw [nleR (by omega) (by decide)]; exact g14)]
        by_cases gb : bt s k = true
        · rw [if_neg (by rw [t32 (by omega), gb]; decide), q_31_4, ob, wa_35 (by omega), ob, E_X3_listMembers_39, mI_s, mI_s, ← cntP_t (p := fun f => bt s f = true) gb]
          generalize hc : cntP (fun f => bt s f = true) k = c at *
          refine ih (k + 1) _ (fun i => if i = c then k else M i) (by omega) (hu.pA (by decide)) ?_
          rw [cntP_t (p := fun f => bt s f = true) gb, hc]
          refine ⟨⟨fun i hi => ?_, fun i j hij hj => ?_⟩, fun i hi => ?_, fun f hf hb => ?_⟩
          · dsimp only
            by_cases q : i = c
            · rw [if_pos q]; omega
            · rw [if_neg q]; have := hM.1.1 i (by omega); omega
          · dsimp only
            by_cases q : j = c
            · rw [if_pos q, if_neg (by omega)]; exact hM.1.1 i (by omega)
            · rw [if_neg q, if_neg (by omega)]; exact hM.1.2 i j hij (by omega)
          · dsimp only
            by_cases q : i = c
            · rw [if_pos q]
              exact ⟨up2_e rfl q, gb⟩
            · rw [if_neg q]
              exact ⟨(up2_n (Or.inr q)).trans (hM.2.1 i (by omega)).1, (hM.2.1 i (by omega)).2⟩
          · by_cases q : f = k
            · exact ⟨c, by omega, by dsimp only; rw [if_pos rfl, q]⟩
            · obtain ⟨i, a, b⟩ := hM.2.2 f (by omega) hb
              exact ⟨i, by omega, by dsimp only; rw [if_neg (by omega)]; exact b⟩
        · rw [if_pos (by rw [t32 (by omega)]; simpa using gb), E_X3_listMembers_39, mI_s]
          have e := cntP_f (p := fun f => bt s f = true) gb
          rw [← e]
          refine ih (k + 1) u M (by omega) hu ?_
          rw [e]
          refine ⟨⟨fun i hi => by have := hM.1.1 i hi; omega, hM.1.2⟩, hM.2.1, fun f hf hb => ?_⟩
          by_cases q : f = k
          · rw [q] at hb; exact absurd hb gb
          · exact hM.2.2 f (by omega) hb
  obtain ⟨w', M, c, h1, h2⟩ := key F 0 w (fun _ => 0) (by omega) Fr.rf ⟨⟨fun i hi => absurd hi (Nat.not_lt_zero _), fun i j _ hj => absurd hj (Nat.not_lt_zero _)⟩, fun i hi => absurd hi (Nat.not_lt_zero _), fun f hf => absurd hf (by omega)⟩
  refine ⟨w', M, c, ?_, h2⟩
  rw [E_X3_listMembers, z_31, ob, E_X3_listMembers_0]
  exact h1
theorem c_membersIn {s : Int32} {M : Nat → Nat} {c wd : Nat} (hQ : CQ w D F φ) (hM : LM w s M c F) (hc : c ≤ 14) (hw : wd < nW D) : F_X3_membersIn (P.2.1 + 31) (mI wd) (mI c) (hp P w ex n sl) = some (mI (nbP (fun i => TR D wd (φ (M i))) c), hp P w ex n sl) := by
  rw [← mk32_mI (by omega), E_X3_membersIn, z_31, ob, E_X3_membersIn_0]
  refine loopE (f := fun k => R_X3_membersIn_5 (P.2.1 + 31) (mI wd) (mI c) (mk32 (fun i => TR D wd (φ (M i))) k) (mI k) (hp P w ex n sl)) (N := c) (fun k hk => ?_) ?_
  · try dsimp only
    rw [E_X3_membersIn_5, if_neg (show ¬ mI c ≤ mI k by rw [nle (by omega) (by omega)]; omega), if_neg (show ¬ (14 : Int32) ≤ mI k by rw [nleR (by omega) (by decide)]; exact Nat.not_le.mpr (by omega)), q_31_0, ob, q_31_4, ob, ra_35 (by omega), ob, (hM.2.1 k hk).1, c_isTrueC rfl rfl hQ.2.2.2.2.2 hQ.2.2.2.2.1 hQ.2.2.1 (hM.1.1 k hk) hQ.1 hQ.2.1 hw, ob]
    try dsimp only
    by_cases g : TR D wd (φ (M k))
    · rw [if_neg (fun z => b2_0.mp z g), E_X3_membersIn_43, mI_s, mk32_t (p := fun i => TR D wd (φ (M i))) g]
    · rw [if_pos (b2_0.mpr g), E_X3_membersIn_43, mI_s, mk32_f (p := fun i => TR D wd (φ (M i))) g]
  · try dsimp only
    rw [E_X3_membersIn_5]
    exact if_pos (by rw [nle (by omega) (by omega)]; exact Nat.le_refl _)
theorem mI_or {a b : Nat} : mI a ||| mI b = mI (a ||| b) := by
  apply bt_ext
  intro i hi
  rw [bt_or, bt_mI hi, bt_mI hi, bt_mI hi, Nat.testBit_or]
theorem c_formulasOf {s : Int32} {M : Nat → Nat} {c p : Nat} (h30 : F ≤ 30) (hM : LM w s M c F) (hc : c ≤ 14) (hp9 : p < 2 ^ c) : F_X3_formulasOf (P.2.1 + 31) (mI p) (hp P w ex n sl) = some (mI (emb M c p), hp P w ex n sl) := by
  have hz : ∀ k, c ≤ k → p.testBit k = false := fun k hk => by
    cases q : p.testBit k
    · rfl
    · have := nat_tb_lt hp9 q; omega
  have e1 : ∀ d, emb M (c + d) p = emb M c p := by
    intro d
    induction d with
    | zero => rfl
    | succ d ih =>
      show emb M (c + d) p ||| (if p.testBit (c + d) = true then 2 ^ (M (c + d)) else 0) = _
      rw [hz _ (by omega), ih]
      simp
  have e14 : emb M 14 p = emb M c p := by
    have := e1 (14 - c)
    rw [show c + (14 - c) = 14 by omega] at this
    exact this
  rw [← e14, E_X3_formulasOf, z_31, ob, E_X3_formulasOf_0]
  refine loopE (f := fun k => R_X3_formulasOf_4 (P.2.1 + 31) (mI p) (mI (emb M k p)) (mI k) (hp P w ex n sl)) (N := 14) (fun k hk => ?_) ?_
  · try dsimp only
    rw [E_X3_formulasOf_4, if_neg (show ¬ (14 : Int32) ≤ mI k by rw [nleR (by omega) (by decide)]; exact Nat.not_le.mpr hk)]
    by_cases g : p.testBit k = true
    · have hk' : k < c := nat_tb_lt hp9 g
      have hMk := hM.1.1 k hk'
      rw [if_neg (by rw [t32 (by omega), bt_mI (by omega), g]; decide), q_31_4, ob, ra_35 (by omega), ob, (hM.2.1 k hk').1, E_X3_formulasOf_29, mI_s, show (1 : Int32) <<< (mI (M k) &&& 31) = mI (2 ^ (M k)) from on32_mI _ (by omega), mI_or]
      show _ = R_X3_formulasOf_4 _ _ (mI (emb M k p ||| (if p.testBit k = true then 2 ^ (M k) else 0))) _ _
      rw [if_pos g]
    · rw [if_pos (by rw [t32 (by omega), bt_mI (by omega)]; simpa using g), E_X3_formulasOf_29, mI_s]
      show _ = R_X3_formulasOf_4 _ _ (mI (emb M k p ||| (if p.testBit k = true then 2 ^ (M k) else 0))) _ _
      rw [if_neg g, Nat.or_zero]
  · try dsimp only
    rw [E_X3_formulasOf_4]
    exact if_pos (by decide)
/-- which places fail in a world -/
noncomputable def flP (D : Nat) (φ : Nat → List Nat) (M : Nat → Nat) (c wd : Nat) : Nat := nbP (fun i => ¬ TR D wd (φ (M i))) c
theorem full_and {D : Nat} {φ : Nat → List Nat} {M : Nat → Nat} {c wd : Nat} (hc : c ≤ 14) : ((1 : Int32) <<< (mI c &&& 31) - 1) &&& (mI (nbP (fun i => TR D wd (φ (M i))) c) ^^^ (-1)) = mI (flP D φ M c wd) := by
  have e1 : (1 : Int32) <<< (mI c &&& 31) - 1 = mI (2 ^ c - 1) := by
    rw [show (1 : Int32) <<< (mI c &&& 31) = mI (2 ^ c) from on32_mI c (by omega)]
    exact mI_sub (Nat.one_le_two_pow)
  rw [e1]
  apply bt_ext
  intro i hi
  rw [bt_and, bt_not _ hi, bt_mI hi, bt_mI hi, bt_mI hi]
  have h1 := nbP_t (p := fun i => TR D wd (φ (M i))) (c := c) (i := i)
  have h2 := nbP_t (p := fun i => ¬ TR D wd (φ (M i))) (c := c) (i := i)
  unfold flP
  rw [Nat.testBit_two_pow_sub_one]
  by_cases g : i < c
  · rw [decide_eq_true g, Bool.true_and]
    by_cases t : TR D wd (φ (M i))
    · rw [h1.mpr ⟨g, t⟩]
      cases q : (nbP (fun i => ¬ TR D wd (φ (M i))) c).testBit i
      · rfl
      · exact absurd t (h2.mp q).2
    · rw [h2.mpr ⟨g, t⟩]
      cases q : (nbP (fun i => TR D wd (φ (M i))) c).testBit i
      · rfl
      · exact absurd (h1.mp q).2 t
  · rw [decide_eq_false g, Bool.false_and]
    cases q : (nbP (fun i => ¬ TR D wd (φ (M i))) c).testBit i
    · rfl
    · exact absurd (h2.mp q).1 g
theorem p14 {c : Nat} (hc : c ≤ 14) : 2 ^ c ≤ 16384 := Nat.le_trans (Nat.pow_le_pow_right (n := 2) (by decide) hc) (by decide)
theorem c_fewest {s : Int32} (hQ : CQ w D F φ) (hs : cntP (fun f => bt s f = true) F ≤ 14) : ∃ w' M c b, F_X3_fewestFailing (P.2.1 + 31) s (hp P w ex n sl) = some (mI (emb M c b), hp P w' ex n sl) ∧ Fr [35] [] w w' ∧ c ≤ 14 ∧ asc M c F ∧ (∀ i, i < c → bt s (M i) = true) ∧ (∀ f, f < F → bt s f = true → ∃ i, i < c ∧ M i = f) ∧ b < 2 ^ c ∧ isLst (fun x => ∃ wd, wd < nW D ∧ x = flP D φ M c wd) b := by
  have h30 := hQ.2.2.1
  obtain ⟨nw1, nw2, nw3⟩ := nW_w hQ.1 hQ.2.1
  have nl := nW_lt hQ.2.1
  obtain ⟨w1, M, c, a1, a2, a3, a4⟩ := c_listM (P := P) (ex := ex) (n := n) (sl := sl) hQ hs
  have hQ1 : CQ w1 D F φ := hQ.fr a2 (by decide) (by decide) (by decide)
  have hpc := p14 a3
  have hfl : ∀ wd, flP D φ M c wd < 2 ^ c := fun wd => nbP_lt
  have e1 : (1 : Int32) <<< (mI c &&& 31) - 1 = mI (2 ^ c - 1) := by
    rw [show (1 : Int32) <<< (mI c &&& 31) = mI (2 ^ c) from on32_mI c (by omega)]
    exact mI_sub (Nat.one_le_two_pow)
  have hp1 : 1 ≤ 2 ^ c := Nat.one_le_two_pow
  have sub : ∀ wd, flP D φ M c wd = 2 ^ c - 1 ∨ bet (flP D φ M c wd) (2 ^ c - 1) := fun wd => by
    have := hfl wd
    exact bet_sub (by omega) (by omega) (fun i hi => full_t.mpr (nat_tb_lt (hfl wd) hi))
  have key : ∀ d k b, k + d = nW D → b < 2 ^ c → (b = 2 ^ c - 1 ∨ ∃ wd, wd < k ∧ b = flP D φ M c wd) → (∀ wd, wd < k → ¬ bet (flP D φ M c wd) b) → ∃ b', R_X3_fewestFailing_18 (P.2.1 + 31) (mI c) ((1 : Int32) <<< (mI c &&& 31) - 1) (mI b) (mI k) (hp P w1 ex n sl) = some (mI (emb M c b'), hp P w1 ex n sl) ∧ b' < 2 ^ c ∧ (b' = 2 ^ c - 1 ∨ ∃ wd, wd < nW D ∧ b' = flP D φ M c wd) ∧ ∀ wd, wd < nW D → ¬ bet (flP D φ M c wd) b' := by
    intro d
    induction d with
    | zero =>
      intro k b hk hb h1 h2
      have hk : k = nW D := by omega
      subst hk
      refine ⟨b, ?_, hb, h1, h2⟩
      rw [E_X3_fewestFailing_18, q_31_0, ob, c_worldCount hQ1.2.2.2.1 hQ1.1 hQ1.2.1, ob]
      try dsimp only
      rw [if_pos (by rw [nle (by omega) (by omega)]; exact Nat.le_refl _), c_formulasOf h30 a4 a3 hb, ob]
    | succ d ih =>
      intro k b hk hb h1 h2
      have hk1 := hfl k
      rw [E_X3_fewestFailing_18, q_31_0, ob, c_worldCount hQ1.2.2.2.1 hQ1.1 hQ1.2.1, ob]
      try dsimp only
      rw [if_neg (show ¬ mI (nW D) ≤ mI k by rw [nle (by omega) (by omega)]; omega), c_membersIn hQ1 a4 a3 (by omega), ob]
      try dsimp only
      rw [full_and a3, c_isBetter (by omega) (by omega), ob]
      try dsimp only
      by_cases g : bet (flP D φ M c k) b
      · rw [if_neg (fun z => b2_0.mp z g), E_X3_fewestFailing_57, mI_s]
        refine ih (k + 1) _ (by omega) hk1 (Or.inr ⟨k, by omega, rfl⟩) (fun wd hwd z => ?_)
        by_cases q : wd = k
        · subst q; exact bet_irr z
        · exact h2 wd (by omega) (bet_tr z g)
      · rw [if_pos (b2_0.mpr g), E_X3_fewestFailing_57, mI_s]
        refine ih (k + 1) b (by omega) hb (h1.imp id (fun ⟨wd, p1, p2⟩ => ⟨wd, by omega, p2⟩)) (fun wd hwd z => ?_)
        by_cases q : wd = k
        · subst q; exact g z
        · exact h2 wd (by omega) z
  obtain ⟨b, k1, k2, k3, k4⟩ := key (nW D) 0 (2 ^ c - 1) (by omega) (by omega) (Or.inl rfl) (fun wd hwd => absurd hwd (by omega))
  refine ⟨w1, M, c, b, ?_, a2, a3, a4.1, fun i hi => (a4.2.1 i hi).2, a4.2.2, k2, ?_, ?_⟩
  · rw [E_X3_fewestFailing, z_31, ob, E_X3_fewestFailing_0, a1, ob]
    try dsimp only
    conv => lhs; arg 4; rw [e1]
    exact k1
  · rcases k3 with k3 | k3
    · refine ⟨0, by omega, ?_⟩
      rcases sub 0 with q | q
      · rw [q, k3]
      · rw [← k3] at q
        exact absurd q (k4 0 (by omega))
    · exact k3
  · rintro x ⟨wd, p1, rfl⟩
    exact k4 wd p1
end WDR
