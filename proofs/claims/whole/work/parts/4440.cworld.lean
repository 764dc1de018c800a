/-! worlds in the class -/
def nW (D : Nat) : Nat := 2 ^ (4 + 2 * D)
def wds (D : Nat) : Nat := nW D / 64
theorem nW_w {D : Nat} (h1 : 1 ≤ D) (h3 : D ≤ 3) : nW D = 64 * wds D ∧ wds D ≤ 16 ∧ 1 ≤ wds D := by
  rcases (show D = 1 ∨ D = 2 ∨ D = 3 by omega) with rfl | rfl | rfl <;> decide
noncomputable abbrev rowS (p : Nat → Prop) (wo : Nat) : Int64 := mk64 (fun b => p (64 * wo + b)) 64
/-- the rows of truth of the formulas -/
def CT (w : sW) (D F : Nat) (φ : Nat → List Nat) : Prop := ∀ f, f < F → ∀ wo, wo < wds D → w.2.2.2.1 10 (f * 16 + wo) = rowS (fun wd => TR D wd (φ f)) wo
/-- a row of worlds -/
def RH (w : sW) (D R : Nat) (p : Nat → Prop) : Prop := ∀ wo, wo < wds D → w.2.2.2.1 R wo = rowS p wo
/-- the least, or none -/
def leastR (Q : Nat → Prop) (N : Nat) (v : Int32) : Prop := (∃ k, k < N ∧ Q k ∧ (∀ i, i < k → ¬ Q i) ∧ v = mI k) ∨ ((∀ k, k < N → ¬ Q k) ∧ v = -1)
theorem leastR_uni {Q Q' : Nat → Prop} {N : Nat} {v v' : Int32} (h : leastR Q N v) (h' : leastR Q' N v') (e : ∀ k, k < N → (Q k ↔ Q' k)) : v = v' := by
  rcases h with ⟨k, a1, a2, a3, a4⟩ | ⟨a1, a2⟩
  · rcases h' with ⟨k', b1, b2, b3, b4⟩ | ⟨b1, b2⟩
    · have : k = k' := by
        rcases Nat.lt_trichotomy k k' with g | g | g
        · exact absurd ((e k a1).mp a2) (b3 k g)
        · exact g
        · exact absurd ((e k' b1).mpr b2) (a3 k' g)
      rw [a4, b4, this]
    · exact absurd ((e k a1).mp a2) (b1 k a1)
  · rcases h' with ⟨k', b1, b2, b3, b4⟩ | ⟨b1, b2⟩
    · exact absurd ((e k' b1).mpr b2) (a1 k' b1)
    · rw [a2, b2]
theorem leastR_m1 {Q : Nat → Prop} {N : Nat} {v : Int32} (hN : N < 2 ^ 31) (h : leastR Q N v) : (v = -1) = ∀ k, k < N → ¬ Q k := by
  apply propext
  rcases h with ⟨k, a1, a2, a3, a4⟩ | ⟨a1, a2⟩
  · exact ⟨fun z => absurd (a4.symm.trans z) (mI_m1 (by omega)), fun z => absurd a2 (z k a1)⟩
  · exact ⟨fun _ => a1, fun _ => a2⟩
theorem least_row {p : Nat → Prop} {wo : Nat} {x : Int64} (hx : x = rowS p wo) (hne : ¬ x = 0) : ∃ b, b < 64 ∧ p (64 * wo + b) ∧ (∀ i, i < b → ¬ p (64 * wo + i)) ∧ ∀ σ : sS, F_J13_numberOfTrailingZeros_95d88 x σ = some (mI b, σ) := by
  have ex : ∃ b, b < 64 ∧ bl x b = true := Classical.byContradiction fun g => hne (bl_ext fun i hi => by
    rw [bl_0, ← Bool.not_eq_true]
    exact fun z => g ⟨i, hi, z⟩)
  have low : ∀ N b, b < N → b < 64 → bl x b = true → ∃ b, b < 64 ∧ bl x b = true ∧ ∀ i, i < b → bl x i = false := by
    intro N
    induction N with
    | zero => intro b h; omega
    | succ N ih =>
      intro b hb hb64 hbit
      by_cases g : ∃ i, i < b ∧ bl x i = true
      · obtain ⟨i, h1, h2⟩ := g
        exact ih i (by omega) (by omega) h2
      · exact ⟨b, hb64, hbit, fun i hi => by rw [← Bool.not_eq_true]; exact fun z => g ⟨i, hi, z⟩⟩
  obtain ⟨b0, h0, h1⟩ := ex
  obtain ⟨b, hb, h2, h3⟩ := low (b0 + 1) b0 (by omega) h0 h1
  have hbl : ∀ i, i < 64 → (bl x i = true ↔ p (64 * wo + i)) := fun i hi => by
    rw [hx, bl_mk (by omega) hi]
    exact ⟨fun z => z.2, fun z => ⟨hi, z⟩⟩
  refine ⟨b, hb, (hbl b hb).mp h2, ?_, fun σ => j_ntz64 hb h2 h3⟩
  intro i hi z
  have := (hbl i (by omega)).mpr z
  rw [h3 i hi] at this
  cases this
theorem row_0 {p : Nat → Prop} {wo : Nat} : (rowS p wo = 0) = ∀ b, b < 64 → ¬ p (64 * wo + b) := by
  apply propext
  constructor
  · intro h b hb z
    have := congrArg (fun x => bl x b) h
    simp only [bl_0] at this
    rw [(bl_mk (by omega) hb).mpr ⟨hb, z⟩] at this
    cases this
  · intro h
    exact m64_F h
section CWo
variable {P : sP} {w : sW} {ex : Nat → Option sC} {n sl : Nat} {D F : Nat} {φ : Nat → List Nat}
theorem c_worldCount (hD : w.1 9 0 = mI D) (h1 : 1 ≤ D) (h3 : D ≤ 3) : F_X1_worldCount (P.2.1 + 9) (hp P w ex n sl) = some (mI (nW D), hp P w ex n sl) := by
  rw [E_X1_worldCount, z_9, ob, E_X1_worldCount_0, q_9_0, ob, hD]
  rcases (show D = 1 ∨ D = 2 ∨ D = 3 by omega) with rfl | rfl | rfl <;> rfl
theorem c_words (hD : w.1 9 0 = mI D) (h1 : 1 ≤ D) (h3 : D ≤ 3) : F_X1_words (P.2.1 + 9) (hp P w ex n sl) = some (mI (wds D), hp P w ex n sl) := by
  rw [E_X1_words, z_9, ob, E_X1_words_0, c_worldCount hD h1 h3, ob]
  have e : mI (nW D) / 64 = mI (wds D) := by rcases (show D = 1 ∨ D = 2 ∨ D = 3 by omega) with rfl | rfl | rfl <;> decide
  exact congrArg (fun z => some (z, hp P w ex n sl)) e
theorem c_truthOf {f wo : Nat} {x v : Int32} (hx : x = mI f) (hv : v = mI wo) (hT : CT w D F φ) (hF : w.1 9 2 = mI F) (h30 : F ≤ 30) (hf : f < F) (hwo : wo < wds D) (h16 : wds D ≤ 16) : F_X1_truthOf (P.2.1 + 9) x v (hp P w ex n sl) = some (rowS (fun wd => TR D wd (φ f)) wo, hp P w ex n sl) := by
  subst hx hv
  rw [E_X1_truthOf, z_9, ob, E_X1_truthOf_0, if_neg (mI_0 (by omega)), q_9_2, ob, hF, if_neg (by rw [nle (by omega) (by omega)]; omega), if_neg (mI_0 (by omega)), if_neg (by rw [nleR (by omega) (by decide)]; exact Nat.not_le.mpr (by omega)), q_9_3, ob, nmulL, nadd, ra_10 (show f * 16 + wo < 480 by omega), ob, hT f hf wo hwo]
theorem c_isTrueC {f wd : Nat} {x v : Int32} (hx : x = mI f) (hv : v = mI wd) (hT : CT w D F φ) (hF : w.1 9 2 = mI F) (h30 : F ≤ 30) (hf : f < F) (h1 : 1 ≤ D) (h3 : D ≤ 3) (hwd : wd < nW D) : F_X1_isTrue (P.2.1 + 9) x v (hp P w ex n sl) = some (b2 (TR D wd (φ f)), hp P w ex n sl) := by
  subst hx hv
  obtain ⟨n1, n2, n3⟩ := nW_w h1 h3
  have e6 : mI wd >>> ((6 : Int32) &&& 31) = mI (wd / 64) := by
    apply bt_ext
    intro i hi
    have := bt_shr (n := 6) (by decide) (mI wd) hi
    rw [show (6 : Int32) = mI 6 from rfl, this, bt_mI hi, show wd / 64 = wd / 2 ^ 6 from rfl, Nat.testBit_div_two_pow]
    have hz : ∀ j, 11 ≤ j → wd.testBit j = false := fun j hj => Nat.testBit_lt_two_pow (Nat.lt_of_lt_of_le (show wd < 2 ^ 11 by omega) (Nat.pow_le_pow_right (by decide) hj))
    by_cases g : 6 + i < 32
    · rw [if_pos g, bt_mI g, Nat.add_comm]
    · rw [if_neg g, bt_mI (by decide), hz 31 (by decide), hz (i + 6) (by omega)]
  have e63 : mI wd &&& 63 = mI (wd % 64) := by
    rw [show (63 : Int32) = mI 63 from rfl, mI_and, show (63 : Nat) = 2 ^ 6 - 1 by decide, Nat.and_two_pow_sub_one_eq_mod]
  rw [E_X1_isTrue, z_9, ob, E_X1_isTrue_0, e6, e63, c_truthOf rfl rfl hT hF h30 hf (by omega) n2, ob]
  try dsimp only
  have eb := bl_mk (p := fun b => TR D (64 * (wd / 64) + b) (φ f)) (k := 64) (i := wd % 64) (by omega) (by omega)
  have ew : 64 * (wd / 64) + wd % 64 = wd := by omega
  rw [ew] at eb
  by_cases g : TR D wd (φ f)
  · rw [if_neg (by rw [t64u (by omega), eb.mpr ⟨by omega, g⟩]; decide), b2_t g]
  · rw [if_pos (by rw [t64u (by omega), ← Bool.not_eq_true]; exact fun z => g (eb.mp z).2), b2_f g]
theorem ra_row {R i : Nat} (hR : R = 32 ∨ R = 33 ∨ R = 34) (hi : i < 16) : s_al (hp P w ex n sl) (P.2.1 + R) (mI i) = some (w.2.2.2.1 R i) := by
  rcases hR with rfl | rfl | rfl
  · exact ra_32 hi
  · exact ra_33 hi
  · exact ra_34 hi
theorem wa_row {R i : Nat} {v : Int64} (hR : R = 32 ∨ R = 33 ∨ R = 34) (hi : i < 16) : s_sl (hp P w ex n sl) (P.2.1 + R) (mI i) v = some (hp P (wL w R i v) ex n sl) := by
  rcases hR with rfl | rfl | rfl
  · exact wa_32 hi
  · exact wa_33 hi
  · exact wa_34 hi
theorem len_row {R : Nat} (hR : R = 32 ∨ R = 33 ∨ R = 34) : s_len (hp P w ex n sl) (P.2.1 + R) = some (mI 16) := by
  rcases hR with rfl | rfl | rfl
  · exact n_32
  · exact n_33
  · exact n_34
abbrev rws : List Nat := [32, 33, 34]
theorem c_narrow {f R R' : Nat} {x : Int32} {p : Nat → Prop} (hx : x = mI f) (hR : R = 32 ∨ R = 33 ∨ R = 34) (hR' : R' = 32 ∨ R' = 33 ∨ R' = 34) (hD : w.1 9 0 = mI D) (h1 : 1 ≤ D) (h3 : D ≤ 3) (hT : CT w D F φ) (hF : w.1 9 2 = mI F) (h30 : F ≤ 30) (hf : f < F) (hp9 : RH w D R p) : ∃ w', F_X3_narrow (P.2.1 + 31) (P.2.1 + R) x (P.2.1 + R') (hp P w ex n sl) = some ((), hp P w' ex n sl) ∧ Fr [R'] [] w w' ∧ RH w' D R' (fun wd => p wd ∧ TR D wd (φ f)) := by
  subst hx
  obtain ⟨n1, n2, n3⟩ := nW_w h1 h3
  have key := loopN (A := sW) (run := fun k u => R_X3_narrow_3 (P.2.1 + 31) (P.2.1 + R) (mI f) (P.2.1 + R') (mI k) (hp P u ex n sl)) (N := wds D)
    (fun k u => Fr [R'] [] w u ∧ (∀ wo, wo < k → u.2.2.2.1 R' wo = rowS (fun wd => p wd ∧ TR D wd (φ f)) wo) ∧ ∀ wo, k ≤ wo → wo < wds D → u.2.2.2.1 R wo = rowS p wo)
    (Q := fun r => ∃ w', r = ((), hp P w' ex n sl) ∧ Fr [R'] [] w w' ∧ RH w' D R' (fun wd => p wd ∧ TR D wd (φ f)))
    (fun k u hk ⟨i1, i2, i3⟩ => by
      have uD : u.1 9 0 = mI D := by rw [i1.i (k := 9) (j := 0) (by simp)]; exact hD
      have uF : u.1 9 2 = mI F := by rw [i1.i (k := 9) (j := 2) (by simp)]; exact hF
      have uT : CT u D F φ := by unfold CT; rw [i1.l (k := 10) (by rcases hR' with rfl | rfl | rfl <;> decide)]; exact hT
      refine Or.inl ⟨wL u R' k (rowS (fun wd => p wd ∧ TR D wd (φ f)) k), ⟨i1.pL (by simp), fun wo hwo => ?_, fun wo h4 h5 => ?_⟩, ?_⟩
      · show up2 u.2.2.2.1 R' k _ R' wo = _
        by_cases e : wo = k
        · subst e; rw [up2_s]
        · rw [up2_j e]; exact i2 wo (by omega)
      · show up2 u.2.2.2.1 R' k _ R wo = _
        rw [up2_j (by omega)]; exact i3 wo (by omega) h5
      · rw [E_X3_narrow_3, q_31_0, ob, c_words uD h1 h3, ob]
        try dsimp only
        rw [if_neg (by rw [nle (by omega) (by omega)]; omega), ra_row hR (by omega), ob, q_31_0, ob, c_truthOf rfl rfl uT uF h30 hf hk n2, ob, wa_row hR' (by omega), ob, naddL, i3 k (Nat.le_refl _) hk]
        try dsimp only
        rw [m64_and])
    (fun u ⟨i1, i2, i3⟩ => by
      have uD : u.1 9 0 = mI D := by rw [i1.i (k := 9) (j := 0) (by simp)]; exact hD
      refine ⟨_, ?_, u, rfl, i1, i2⟩
      rw [E_X3_narrow_3, q_31_0, ob, c_words uD h1 h3, ob]
      try dsimp only
      rw [if_pos (by rw [nle (by omega) (by omega)]; omega)]) 0 w (by omega) ⟨Fr.rf, fun wo h => absurd h (by omega), fun wo _ h => hp9 wo h⟩
  obtain ⟨r, h1, w', h2, h4⟩ := key
  refine ⟨w', ?_, h4⟩
  rw [E_X3_narrow, z_31, ob, E_X3_narrow_0, ← h2]
  exact h1
theorem j_fillRow {R : Nat} {v : Int64} (hR : R = 32 ∨ R = 33 ∨ R = 34) : ∃ w', F_J7_fill_d0a16 (P.2.1 + R) v (hp P w ex n sl) = some ((), hp P w' ex n sl) ∧ Fr [R] [] w w' ∧ ∀ i, i < 16 → w'.2.2.2.1 R i = v := by
  have key := loopN (A := sW) (run := fun k u => R_J7_fill_d0a16_6 (P.2.1 + R) v (mI k) (mI 16) (hp P u ex n sl)) (N := 16)
    (fun k u => Fr [R] [] w u ∧ ∀ i, i < k → u.2.2.2.1 R i = v)
    (Q := fun r => ∃ w', r = ((), hp P w' ex n sl) ∧ Fr [R] [] w w' ∧ ∀ i, i < 16 → w'.2.2.2.1 R i = v)
    (fun k u hk ⟨i1, i2⟩ => by
      refine Or.inl ⟨wL u R k v, ⟨i1.pL (by simp), fun i hi => ?_⟩, ?_⟩
      · show up2 u.2.2.2.1 R k v R i = _
        by_cases e : i = k
        · subst e; rw [up2_s]
        · rw [up2_j e]; exact i2 i (by omega)
      · rw [E_J7_fill_d0a16_6, if_neg (by rw [nle (by omega) (by omega)]; omega), wa_row hR hk, ob, naddL])
    (fun u ⟨i1, i2⟩ => ⟨_, by rw [E_J7_fill_d0a16_6, if_pos (by rw [nle (by omega) (by omega)]; omega)], u, rfl, i1, i2⟩) 0 w (by omega) ⟨Fr.rf, fun i h => absurd h (by omega)⟩
  obtain ⟨r, h1, w', h2, h4⟩ := key
  refine ⟨w', ?_, h4⟩
  rw [E_J7_fill_d0a16, E_J7_fill_d0a16_0, len_row hR, ob, ← h2]
  exact h1
/-- all formulas of a set hold -/
def allT (D F : Nat) (φ : Nat → List Nat) (s : Int32) (wd : Nat) : Prop := ∀ f, f < F → bt s f = true → TR D wd (φ f)
def allTk (D : Nat) (φ : Nat → List Nat) (s : Int32) (k wd : Nat) : Prop := ∀ f, f < k → bt s f = true → TR D wd (φ f)
theorem c_gather {R : Nat} {s : Int32} (hR : R = 32 ∨ R = 33 ∨ R = 34) (hD : w.1 9 0 = mI D) (h1 : 1 ≤ D) (h3 : D ≤ 3) (hT : CT w D F φ) (hF : w.1 9 2 = mI F) (h30 : F ≤ 30) : ∃ w', F_X3_gather (P.2.1 + 31) s (P.2.1 + R) (hp P w ex n sl) = some ((), hp P w' ex n sl) ∧ Fr [R] [] w w' ∧ RH w' D R (allT D F φ s) := by
  obtain ⟨n1, n2, n3⟩ := nW_w h1 h3
  obtain ⟨w0, g1, g2, g3⟩ := j_fillRow (P := P) (w := w) (ex := ex) (n := n) (sl := sl) (v := -1) hR
  have hRne : R ≠ 10 := by omega
  have key := loopN (A := sW) (run := fun k u => R_X3_gather_9 (P.2.1 + 31) s (P.2.1 + R) (mI k) (hp P u ex n sl)) (N := F)
    (fun k u => Fr [R] [] w u ∧ RH u D R (allTk D φ s k))
    (Q := fun r => ∃ w', r = ((), hp P w' ex n sl) ∧ Fr [R] [] w w' ∧ RH w' D R (allT D F φ s))
    (fun k u hk ⟨i1, i2⟩ => by
      have uD : u.1 9 0 = mI D := by rw [i1.i (k := 9) (j := 0) (by simp)]; exact hD
      have uF : u.1 9 2 = mI F := by rw [i1.i (k := 9) (j := 2) (by simp)]; exact hF
      have uT : CT u D F φ := by unfold CT; rw [i1.l (k := 10) (by simp; exact fun z => hRne z.symm)]; exact hT
      by_cases g : bt s k = true
      · obtain ⟨u', e1, e2, e3⟩ := c_narrow (P := P) (ex := ex) (n := n) (sl := sl) (x := mI k) rfl hR hR uD h1 h3 uT uF h30 hk i2
        refine Or.inl ⟨u', ⟨i1.tr e2, fun wo hwo => ?_⟩, ?_⟩
        · rw [e3 wo hwo]
          refine mk64_congr fun b _ => ⟨fun z f hf hb => ?_, fun z => ⟨fun f hf hb => z f (by omega) hb, z k (by omega) g⟩⟩
          by_cases e : f = k
          · subst e; exact z.2
          · exact z.1 f (by omega) hb
        · rw [E_X3_gather_9, q_31_0, ob, q_9_2, ob, uF, if_neg (by rw [nle (by omega) (by omega)]; omega), if_neg (by rw [t32 (by omega), g]; decide), e1, ob, E_X3_gather_35, naddL]
      · refine Or.inl ⟨u, ⟨i1, fun wo hwo => ?_⟩, ?_⟩
        · rw [i2 wo hwo]
          refine mk64_congr fun b _ => ⟨fun z f hf hb => ?_, fun z f hf hb => z f (by omega) hb⟩
          by_cases e : f = k
          · subst e; exact absurd hb g
          · exact z f (by omega) hb
        · rw [E_X3_gather_9, q_31_0, ob, q_9_2, ob, uF, if_neg (by rw [nle (by omega) (by omega)]; omega), if_pos (by rw [t32 (by omega)]; exact Bool.not_eq_true _ ▸ g), E_X3_gather_35, naddL])
    (fun u ⟨i1, i2⟩ => by
      have uF : u.1 9 2 = mI F := by rw [i1.i (k := 9) (j := 2) (by simp)]; exact hF
      refine ⟨_, ?_, u, rfl, i1, i2⟩
      rw [E_X3_gather_9, q_31_0, ob, q_9_2, ob, uF, if_pos (by rw [nle (by omega) (by omega)]; omega)]) 0 w0 (by omega) ⟨g2, fun wo hwo => by
        rw [g3 wo (by omega)]
        exact (m64_T fun b _ f hf => absurd hf (by omega)).symm⟩
  obtain ⟨r, e1, w', e2, e4⟩ := key
  refine ⟨w', ?_, e4⟩
  rw [E_X3_gather, z_31, ob, E_X3_gather_0, g1, ob, ← e2]
  exact e1
theorem c_leastOf {R : Nat} {p : Nat → Prop} (hR : R = 32 ∨ R = 33 ∨ R = 34) (hD : w.1 9 0 = mI D) (h1 : 1 ≤ D) (h3 : D ≤ 3) (hp9 : RH w D R p) : ∃ v, F_X3_leastOf (P.2.1 + 31) (P.2.1 + R) (hp P w ex n sl) = some (v, hp P w ex n sl) ∧ leastR p (nW D) v := by
  obtain ⟨n1, n2, n3⟩ := nW_w h1 h3
  have fl : ∀ wo, wo < wds D → ¬ w.2.2.2.1 R wo = 0 → ∃ b, b < 64 ∧ p (64 * wo + b) ∧ (∀ i, i < b → ¬ p (64 * wo + i)) ∧ ∀ σ : sS, F_J13_numberOfTrailingZeros_95d88 (w.2.2.2.1 R wo) σ = some (mI b, σ) := fun wo hwo hne => least_row (hp9 wo hwo) hne
  have := loopX (f := fun k => R_X3_leastOf_2 (P.2.1 + 31) (P.2.1 + R) (mI k) (hp P w ex n sl)) (N := wds D) (p := fun k => ¬ w.2.2.2.1 R k = 0) (r0 := ((-1 : Int32), hp P w ex n sl)) (r1 := fun k => (mI (k * 64) + (if h : k < wds D ∧ ¬ w.2.2.2.1 R k = 0 then mI (Classical.choose (fl k h.1 h.2)) else 0), hp P w ex n sl)) (fun k hk hn => by
      rw [E_X3_leastOf_2, q_31_0, ob, c_words hD h1 h3, ob]
      try dsimp only
      rw [if_neg (by rw [nle (by omega) (by omega)]; omega), ra_row hR (by omega), ob, if_pos (by rw [z64]; exact Classical.not_not.mp hn), naddL]) (fun k hk hn => by
      rw [E_X3_leastOf_2, q_31_0, ob, c_words hD h1 h3, ob]
      try dsimp only
      rw [if_neg (by rw [nle (by omega) (by omega)]; omega), ra_row hR (by omega), ob, if_neg (by rw [z64]; exact hn), ob, (Classical.choose_spec (fl k hk hn)).2.2.2, ob, nmulL, dif_pos ⟨hk, hn⟩]) (by
      rw [E_X3_leastOf_2, q_31_0, ob, c_words hD h1 h3, ob]
      try dsimp only
      rw [if_pos (by rw [nle (by omega) (by omega)]; omega)])
  rw [E_X3_leastOf, z_31, ob, E_X3_leastOf_0]
  rcases this with ⟨k, g1, g2, g3, g4⟩ | ⟨g1, g2⟩
  · have c := Classical.choose_spec (fl k g1 g2)
    rw [dif_pos ⟨g1, g2⟩] at g4
    generalize Classical.choose (fl k g1 g2) = b at *
    refine ⟨_, g4, Or.inl ⟨64 * k + b, by omega, c.2.1, fun i hi => ?_, by rw [nadd, Nat.mul_comm k]⟩⟩
    by_cases e : i / 64 = k
    · have := c.2.2.1 (i % 64) (by omega)
      rw [show 64 * k + i % 64 = i by omega] at this
      exact this
    · have z := Classical.not_not.mp (g3 (i / 64) (by omega))
      rw [hp9 (i / 64) (by omega), row_0] at z
      have := z (i % 64) (by omega)
      rw [show 64 * (i / 64) + i % 64 = i by omega] at this
      exact this
  · refine ⟨_, g2, Or.inr ⟨fun k hk => ?_, rfl⟩⟩
    have z := Classical.not_not.mp (g1 (k / 64) (by omega))
    rw [hp9 (k / 64) (by omega), row_0] at z
    have := z (k % 64) (by omega)
    rw [show 64 * (k / 64) + k % 64 = k by omega] at this
    exact this
theorem c_leastOutside {f R : Nat} {x : Int32} {p : Nat → Prop} (hx : x = mI f) (hR : R = 32 ∨ R = 33 ∨ R = 34) (hD : w.1 9 0 = mI D) (h1 : 1 ≤ D) (h3 : D ≤ 3) (hT : CT w D F φ) (hF : w.1 9 2 = mI F) (h30 : F ≤ 30) (hf : f < F) (hp9 : RH w D R p) : ∃ v, F_X3_leastOutside (P.2.1 + 31) (P.2.1 + R) x (hp P w ex n sl) = some (v, hp P w ex n sl) ∧ leastR (fun wd => p wd ∧ ¬ TR D wd (φ f)) (nW D) v := by
  subst hx
  obtain ⟨n1, n2, n3⟩ := nW_w h1 h3
  have ro : ∀ wo, wo < wds D → w.2.2.2.1 R wo &&& (rowS (fun wd => TR D wd (φ f)) wo ^^^ (-1)) = rowS (fun wd => p wd ∧ ¬ TR D wd (φ f)) wo := fun wo hwo => by rw [hp9 wo hwo, m64_not, m64_and]
  have fl : ∀ wo, wo < wds D → ¬ rowS (fun wd => p wd ∧ ¬ TR D wd (φ f)) wo = 0 → ∃ b, b < 64 ∧ (p (64 * wo + b) ∧ ¬ TR D (64 * wo + b) (φ f)) ∧ (∀ i, i < b → ¬ (p (64 * wo + i) ∧ ¬ TR D (64 * wo + i) (φ f))) ∧ ∀ σ : sS, F_J13_numberOfTrailingZeros_95d88 (rowS (fun wd => p wd ∧ ¬ TR D wd (φ f)) wo) σ = some (mI b, σ) := fun wo hwo hne => least_row (p := fun wd => p wd ∧ ¬ TR D wd (φ f)) rfl hne
  have := loopX (f := fun k => R_X3_leastOutside_2 (P.2.1 + 31) (P.2.1 + R) (mI f) (mI k) (hp P w ex n sl)) (N := wds D) (p := fun k => ¬ rowS (fun wd => p wd ∧ ¬ TR D wd (φ f)) k = 0) (r0 := ((-1 : Int32), hp P w ex n sl)) (r1 := fun k => (mI (k * 64) + (if h : k < wds D ∧ ¬ rowS (fun wd => p wd ∧ ¬ TR D wd (φ f)) k = 0 then mI (Classical.choose (fl k h.1 h.2)) else 0), hp P w ex n sl)) (fun k hk hn => by
      rw [E_X3_leastOutside_2, q_31_0, ob, c_words hD h1 h3, ob]
      try dsimp only
      rw [if_neg (by rw [nle (by omega) (by omega)]; omega), ra_row hR (by omega), ob, q_31_0, ob, c_truthOf rfl rfl hT hF h30 hf hk n2, ob]
      try dsimp only
      rw [ro k hk, if_pos (by rw [z64]; exact Classical.not_not.mp hn), naddL]) (fun k hk hn => by
      rw [E_X3_leastOutside_2, q_31_0, ob, c_words hD h1 h3, ob]
      try dsimp only
      rw [if_neg (by rw [nle (by omega) (by omega)]; omega), ra_row hR (by omega), ob, q_31_0, ob, c_truthOf rfl rfl hT hF h30 hf hk n2, ob]
      try dsimp only
      rw [ro k hk, if_neg (by rw [z64]; exact hn), (Classical.choose_spec (fl k hk hn)).2.2.2, ob, nmulL, dif_pos ⟨hk, hn⟩]) (by
      rw [E_X3_leastOutside_2, q_31_0, ob, c_words hD h1 h3, ob]
      try dsimp only
      rw [if_pos (by rw [nle (by omega) (by omega)]; omega)])
  rw [E_X3_leastOutside, z_31, ob, E_X3_leastOutside_0]
  rcases this with ⟨k, g1, g2, g3, g4⟩ | ⟨g1, g2⟩
  · have c := Classical.choose_spec (fl k g1 g2)
    rw [dif_pos ⟨g1, g2⟩] at g4
    generalize Classical.choose (fl k g1 g2) = b at *
    refine ⟨_, g4, Or.inl ⟨64 * k + b, by omega, c.2.1, fun i hi => ?_, by rw [nadd, Nat.mul_comm k]⟩⟩
    by_cases e : i / 64 = k
    · have := c.2.2.1 (i % 64) (by omega)
      rw [show 64 * k + i % 64 = i by omega] at this
      exact this
    · have z := Classical.not_not.mp (g3 (i / 64) (by omega))
      rw [row_0] at z
      have := z (i % 64) (by omega)
      rw [show 64 * (i / 64) + i % 64 = i by omega] at this
      exact this
  · refine ⟨_, g2, Or.inr ⟨fun k hk => ?_, rfl⟩⟩
    have z := Classical.not_not.mp (g1 (k / 64) (by omega))
    rw [row_0] at z
    have := z (k % 64) (by omega)
    rw [show 64 * (k / 64) + k % 64 = k by omega] at this
    exact this
end CWo
