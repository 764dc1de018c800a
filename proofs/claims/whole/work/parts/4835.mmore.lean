/-! more in the model -/
theorem wA_n {w : sW} {k j k' j' : Nat} {v : Int32} (h : k' ≠ k ∨ j' ≠ j) : (wA w k j v).2.2.1 k' j' = w.2.2.1 k' j' := by
  show up2 w.2.2.1 k j v k' j' = _
  exact up2_n h
/-- a word of 32 worlds, of those below N -/
noncomputable abbrev rwp (N : Nat) (p : Nat → Prop) (k : Nat) : Int32 := mk32 (fun b => 32 * k + b < N ∧ p (32 * k + b)) 32
section RWP
variable {N k j : Nat} {p q : Nat → Prop}
theorem bt_bool {x : Int32} {i : Nat} {a : Prop} {b : Bool} (h1 : bt x i = true ↔ a) (h2 : b = true ↔ a) : bt x i = b := by
  cases e : bt x i <;> cases f : b
  · rfl
  · rw [h1.mpr (h2.mp f)] at e; cases e
  · rw [h2.mpr (h1.mp e)] at f; cases f
  · rfl
theorem rwp_t {b : Nat} (hb : b < 32) : bt (rwp N p k) b = true ↔ 32 * k + b < N ∧ p (32 * k + b) := by
  rw [bt_mk (by decide) hb]
  exact ⟨fun z => z.2, fun z => ⟨hb, z⟩⟩
theorem rwp_0 : rwp 0 p k = 0 := by
  apply bt_ext
  intro b hb
  exact bt_bool (rwp_t hb) ⟨(fun z => by rw [bt_0] at z; cases z), fun z => absurd z.1 (by omega)⟩
theorem rwp_t1 (hp : p k) : rwp (k + 1) p (k / 32) = rwp k p (k / 32) ||| on32 (k % 32) := by
  apply bt_ext
  intro b hb
  refine bt_bool (rwp_t hb) ?_
  rw [bt_or, Bool.or_eq_true, rwp_t hb, bt_on (by omega) hb, decide_eq_true_iff]
  constructor
  · rintro (z | z)
    · exact ⟨by omega, z.2⟩
    · have : 32 * (k / 32) + b = k := by omega
      rw [this]; exact ⟨by omega, hp⟩
  · intro z
    by_cases e : b = k % 32
    · exact Or.inr e
    · exact Or.inl ⟨by omega, z.2⟩
theorem rwp_t0 (hp : ¬ p k) : rwp (k + 1) p (k / 32) = rwp k p (k / 32) := by
  apply bt_ext
  intro b hb
  refine bt_bool (rwp_t hb) ?_
  rw [rwp_t hb]
  refine ⟨fun z => ⟨by omega, z.2⟩, fun z => ⟨?_, z.2⟩⟩
  have := z.1
  have : 32 * (k / 32) + b ≠ k := fun e => hp (by rw [← e]; exact z.2)
  omega
theorem rwp_o (h : j ≠ k / 32) : rwp (k + 1) p j = rwp k p j := by
  apply bt_ext
  intro b hb
  refine bt_bool (rwp_t hb) ?_
  rw [rwp_t hb]
  exact ⟨fun z => ⟨by omega, z.2⟩, fun z => ⟨by omega, z.2⟩⟩
theorem rwp_and : rwp N p k &&& rwp N q k = rwp N (fun wd => p wd ∧ q wd) k := by
  apply bt_ext
  intro b hb
  symm
  refine bt_bool (rwp_t hb) ?_
  rw [bt_and, Bool.and_eq_true, rwp_t hb, rwp_t hb]
  exact ⟨fun z => ⟨z.1.1, z.1.2, z.2.2⟩, fun z => ⟨⟨z.1, z.2.1⟩, z.1, z.2.2⟩⟩
theorem rwp_z : (rwp N p k = 0) = ∀ b, b < 32 → ¬ (32 * k + b < N ∧ p (32 * k + b)) := by
  apply propext
  constructor
  · intro h b hb z
    have := (rwp_t hb).mpr z
    rw [h, bt_0] at this; cases this
  · intro h
    apply bt_ext
    intro b hb
    exact bt_bool (rwp_t hb) ⟨(fun z => by rw [bt_0] at z; cases z), fun z => absurd z (h b hb)⟩
theorem rwp_sub : (rwp N p k &&& (rwp N q k ^^^ (-1)) = 0) = ∀ b, b < 32 → 32 * k + b < N → p (32 * k + b) → q (32 * k + b) := by
  apply propext
  constructor
  · intro h b hb hN hp
    refine Classical.byContradiction fun hq => ?_
    have := congrArg (fun z => bt z b) h
    simp only [bt_and, bt_not _ hb, bt_0] at this
    rw [(rwp_t hb).mpr ⟨hN, hp⟩, Bool.true_and] at this
    have e : bt (rwp N q k) b = false := by
      cases f : bt (rwp N q k) b
      · rfl
      · exact absurd ((rwp_t hb).mp f).2 hq
    rw [e] at this; cases this
  · intro h
    apply bt_ext
    intro b hb
    rw [bt_and, bt_not _ hb, bt_0]
    cases e : bt (rwp N p k) b
    · rfl
    · have := (rwp_t hb).mp e
      rw [(rwp_t hb).mpr ⟨this.1, h b hb this.1 this.2⟩]; rfl
end RWP
theorem dv32 : ∀ k, k < 1024 → mI k / 32 = mI (k / 32) ∧ mI k - mI k / 32 * 32 = mI (k % 32) := by decide +kernel
section MMO
variable {P : sP} {S0 e : Nat} {w w' w1 w2 z u : sW} {ex : Nat → Option sC} {n sl D F L R U : Nat} {y : sLn} {φ : Nat → List Nat} {nf : Nat → Nat} {ρ : sRc} {nd : Nat → List Nat}
theorem MW.m58 (hM : MW w D F L y φ) (h : Fr [53, 58, 59] [] w u) : MW u D F L y φ := hM.fr h (by decide) (by decide) (by decide)
/-- rows of formulas below f are filled, row f up to world k, the others are empty -/
def IN (u : sW) (D : Nat) (φ : Nat → List Nat) (f k : Nat) : Prop := ∀ f1, f1 < 30 → ∀ j, j < 32 → u.2.2.1 58 (32 * f1 + j) = if f1 < f then rwp (nW D) (fun wd => TR D wd (φ f1)) j else if f1 = f then rwp k (fun wd => TR D wd (φ f)) j else 0
theorem m_woaI {f : Nat} (hM : MW w D F L y φ) (hf : f < F) : ∀ d k (u : sW), k + d = nW D → Fr [53, 58, 59] [] w u → IN u D φ f k → ∃ u', R_X8_worldsOfAll_34 (P.2.1 + 46) (mI f) (mI k) (hp P u ex n sl) = R_X8_worldsOfAll_24 (P.2.1 + 46) (mI (f + 1)) (hp P u' ex n sl) ∧ Fr [53, 58, 59] [] w u' ∧ IN u' D φ (f + 1) 0 := by
  have nl := nW_lt hM.2.1
  have h30 := hM.2.2.1
  intro d
  induction d with
  | zero =>
    intro k u hk hu hi
    have hk : k = nW D := by omega
    subst hk
    refine ⟨u, ?_, hu, fun f1 hf1 j hj => ?_⟩
    · rw [E_X8_worldsOfAll_34, m_worldsMany (hM.m58 hu), ob]
      try dsimp only
      rw [if_pos (by rw [nle (by omega) (by omega)]; exact Nat.le_refl _), mI_s]
    · rw [hi f1 hf1 j hj]
      by_cases q : f1 < f
      · rw [if_pos q, if_pos (by omega)]
      · rw [if_neg q]
        by_cases q2 : f1 = f
        · rw [if_pos q2, if_pos (by omega), q2]
        · rw [if_neg q2, if_neg (by omega)]
          by_cases q3 : f1 = f + 1
          · rw [if_pos q3, rwp_0]
          · rw [if_neg q3]
  | succ d ih =>
    intro k u hk hu hi
    have hMu := hM.m58 hu
    obtain ⟨d1, d2⟩ := dv32 k (by omega)
    obtain ⟨u1, t1, t2⟩ := m_true (P := P) (ex := ex) (n := n) (sl := sl) (wd := k) hMu hf
    have e1 : (32 : Int32) * mI f + mI (k / 32) = mI (32 * f + k / 32) := by rw [nmulR, nadd]
    have hx := hi f (by omega) (k / 32) (by omega)
    rw [if_neg (Nat.lt_irrefl _), if_pos rfl] at hx
    rw [E_X8_worldsOfAll_34, m_worldsMany hMu, ob]
    try dsimp only
    rw [if_neg (show ¬ mI (nW D) ≤ mI k by rw [nle (by omega) (by omega)]; omega), q_46_21, ob, d2, d1, e1, ra_58 (by omega), ob, hx, t1, ob]
    try dsimp only
    have s1 : ∀ i, u1.2.2.1 58 i = u.2.2.1 58 i := fun i => by rw [(t2.1 58 (by decide)).1]
    have put : ∀ x : Int32, rwp k (fun wd => TR D wd (φ f)) (k / 32) ||| x = rwp (k + 1) (fun wd => TR D wd (φ f)) (k / 32) → ∃ u', R_X8_worldsOfAll_76 (P.2.1 + 46) (mI f) (mI k) x (rwp k (fun wd => TR D wd (φ f)) (k / 32)) (mI (32 * f + k / 32)) (P.2.1 + 58) (hp P u1 ex n sl) = R_X8_worldsOfAll_24 (P.2.1 + 46) (mI (f + 1)) (hp P u' ex n sl) ∧ Fr [53, 58, 59] [] w u' ∧ IN u' D φ (f + 1) 0 := by
      intro x hx2
      rw [E_X8_worldsOfAll_76, wa_58 (by omega), ob, hx2, mI_s]
      refine ih (k + 1) _ (by omega) ((hu.tr (t2.mo (by decide) (by decide))).pA (by decide)) (fun f1 hf1 j hj => ?_)
      by_cases q : f1 = f ∧ j = k / 32
      · obtain ⟨rfl, rfl⟩ := q
        rw [if_neg (Nat.lt_irrefl _), if_pos rfl]
        exact wA_s
      · refine Eq.trans (up2_n (Or.inr (by omega))) ?_
        rw [s1, hi f1 hf1 j hj]
        by_cases q1 : f1 < f
        · rw [if_pos q1, if_pos q1]
        · rw [if_neg q1, if_neg q1]
          by_cases q2 : f1 = f
          · rw [if_pos q2, if_pos q2, rwp_o (fun z => q ⟨q2, z⟩)]
          · rw [if_neg q2, if_neg q2]
    by_cases g : TR D k (φ f)
    · rw [if_neg (fun z => b2_0.mp z g)]
      exact put _ (rwp_t1 (p := fun wd => TR D wd (φ f)) g).symm
    · rw [if_pos (b2_0.mpr g)]
      exact put 0 (by rw [Int32.or_zero]; exact (rwp_t0 (p := fun wd => TR D wd (φ f)) g).symm)
/-- rows of all formulas -/
def FW (u : sW) (D F : Nat) (φ : Nat → List Nat) : Prop := ∀ f, f < F → ∀ j, j < 32 → u.2.2.1 58 (32 * f + j) = rwp (nW D) (fun wd => TR D wd (φ f)) j
/-- the row of a level -/
def RW (u : sW) (D l : Nat) (p : Nat → Prop) : Prop := ∀ j, j < 32 → u.2.2.1 58 (32 * (30 + l) + j) = rwp (nW D) p j
theorem m_woa (hM : MW w D F L y φ) : ∃ w', F_X8_worldsOfAll (P.2.1 + 46) (hp P w ex n sl) = some ((), hp P w' ex n sl) ∧ Fr [53, 58, 59] [] w w' ∧ FW w' D F φ := by
  have h30 := hM.2.2.1
  have all : ∀ d f (u : sW), f + d = F → Fr [53, 58, 59] [] w u → IN u D φ f 0 → ∃ w', R_X8_worldsOfAll_24 (P.2.1 + 46) (mI f) (hp P u ex n sl) = some ((), hp P w' ex n sl) ∧ Fr [53, 58, 59] [] w w' ∧ FW w' D F φ := by
    intro d
    induction d with
    | zero =>
      intro f u hf hu hi
      have hf : f = F := by omega
      subst hf
      refine ⟨u, ?_, hu, fun f1 hf1 j hj => ?_⟩
      · rw [E_X8_worldsOfAll_24, m_formulasM (hM.m58 hu), ob]
        exact if_pos (by rw [nle (by omega) (by omega)]; exact Nat.le_refl _)
      · rw [hi f1 (by omega) j hj, if_pos hf1]
    | succ d ih =>
      intro f u hf hu hi
      obtain ⟨u', a1, a2, a3⟩ := m_woaI (P := P) (ex := ex) (n := n) (sl := sl) hM (show f < F by omega) (nW D) 0 u (by omega) hu hi
      rw [E_X8_worldsOfAll_24, m_formulasM (hM.m58 hu), ob]
      try dsimp only
      rw [if_neg (show ¬ mI F ≤ mI f by rw [nle (by omega) (by omega)]; omega), show R_X8_worldsOfAll_34 (P.2.1 + 46) (mI f) 0 (hp P u ex n sl) = _ from a1]
      exact ih (f + 1) u' (by omega) a2 a3
  have zr : ∀ d k (u : sW), k + d = 960 → Fr [53, 58, 59] [] w u → (∀ i, i < k → u.2.2.1 58 i = 0) → ∃ w', R_X8_worldsOfAll_2 (P.2.1 + 46) (mI k) (hp P u ex n sl) = some ((), hp P w' ex n sl) ∧ Fr [53, 58, 59] [] w w' ∧ FW w' D F φ := by
    intro d
    induction d with
    | zero =>
      intro k u hk hu hi
      have hk : k = 960 := by omega
      subst hk
      rw [E_X8_worldsOfAll_2, if_pos (by decide)]
      refine all F 0 u (by omega) hu (fun f1 hf1 j hj => ?_)
      rw [hi _ (by omega), if_neg (by omega)]
      by_cases q : f1 = 0
      · rw [if_pos q, rwp_0]
      · rw [if_neg q]
    | succ d ih =>
      intro k u hk hu hi
      rw [E_X8_worldsOfAll_2, if_neg (show ¬ (960 : Int32) ≤ mI k by rw [nleR (by omega) (by decide)]; exact Nat.not_le.mpr (by omega)), q_46_21, ob, wa_58 (by omega), ob, mI_s]
      refine ih (k + 1) _ (by omega) (hu.pA (by decide)) (fun i hi' => ?_)
      by_cases q : i = k
      · exact up2_e rfl q
      · exact (up2_n (Or.inr q)).trans (hi i (by omega))
  obtain ⟨w', h1, h2⟩ := zr 960 0 w (by omega) Fr.rf (fun i hi => absurd hi (by omega))
  refine ⟨w', ?_, h2⟩
  rw [E_X8_worldsOfAll, z_46, ob, E_X8_worldsOfAll_0]
  exact h1
theorem m_enough {l g : Nat} {p : Nat → Prop} (hF : F ≤ 30) (hl : l ≤ 3) (hD : D ≤ 3) (hg : g < F) (hW : FW w D F φ) (hR : RW w D l p) : F_X8_isEnough (P.2.1 + 46) (mI l) (mI g) (hp P w ex n sl) = some (b2 (EQ D φ g p), hp P w ex n sl) := by
  have nl := nW_lt hD
  have key : ∀ d k, k + d = 32 → R_X8_isEnough_8 (P.2.1 + 46) (mI l) (mI g) (b2 (∃ wd, wd < 32 * k ∧ wd < nW D ∧ p wd)) (b2 (∀ wd, wd < 32 * k → wd < nW D → p wd → TR D wd (φ g))) (mI k) (hp P w ex n sl) = some (b2 (EQ D φ g p), hp P w ex n sl) := by
    intro d
    induction d with
    | zero =>
      intro k hk
      have hk : k = 32 := by omega
      subst hk
      rw [E_X8_isEnough_8, if_pos (by decide)]
      by_cases g1 : ∃ wd, wd < 32 * 32 ∧ wd < nW D ∧ p wd
      · rw [if_neg (fun q => b2_0.mp q g1)]
        by_cases g2 : ∀ wd, wd < 32 * 32 → wd < nW D → p wd → TR D wd (φ g)
        · obtain ⟨wd, q1, q2, q3⟩ := g1
          rw [if_neg (fun q => b2_0.mp q g2), b2_t (show EQ D φ g p from ⟨⟨wd, q2, q3⟩, fun wd q4 q5 => g2 wd (by omega) q4 q5⟩)]
        · rw [if_pos (b2_0.mpr g2), b2_f (show ¬ EQ D φ g p from fun q => g2 fun wd _ q1 q2 => q.2 wd q1 q2)]
      · rw [if_pos (b2_0.mpr g1), b2_f (show ¬ EQ D φ g p from fun q => g1 (by obtain ⟨⟨wd, q1, q2⟩, -⟩ := q; exact ⟨wd, by omega, q1, q2⟩))]
    | succ d ih =>
      intro k hk
      have e1 : (32 : Int32) * (30 + mI l) + mI k = mI (32 * (30 + l) + k) := by rw [naddR, nmulR, nadd]
      have e2 : (32 : Int32) * mI g + mI k = mI (32 * g + k) := by rw [nmulR, nadd]
      have s1 : (∃ wd, wd < 32 * (k + 1) ∧ wd < nW D ∧ p wd) ↔ (∃ wd, wd < 32 * k ∧ wd < nW D ∧ p wd) ∨ ¬ rwp (nW D) p k = 0 := by
        rw [rwp_z]
        constructor
        · rintro ⟨wd, q1, q2, q3⟩
          rcases Nat.lt_or_ge wd (32 * k) with q | q
          · exact Or.inl ⟨wd, q, q2, q3⟩
          · refine Or.inr fun z => z (wd - 32 * k) (by omega) ?_
            rw [show 32 * k + (wd - 32 * k) = wd by omega]; exact ⟨q2, q3⟩
        · rintro (⟨wd, q1, q2, q3⟩ | q)
          · exact ⟨wd, by omega, q2, q3⟩
          · refine Classical.byContradiction fun z => q fun b hb t => z ⟨32 * k + b, by omega, t.1, t.2⟩
      have s2 : (∀ wd, wd < 32 * (k + 1) → wd < nW D → p wd → TR D wd (φ g)) ↔ (∀ wd, wd < 32 * k → wd < nW D → p wd → TR D wd (φ g)) ∧ (rwp (nW D) p k &&& (rwp (nW D) (fun wd => TR D wd (φ g)) k ^^^ (-1)) = 0) := by
        rw [rwp_sub]
        constructor
        · intro h
          exact ⟨fun wd q => h wd (by omega), fun b hb => h _ (by omega)⟩
        · rintro ⟨h1, h2⟩ wd q1 q2 q3
          rcases Nat.lt_or_ge wd (32 * k) with q | q
          · exact h1 wd q q2 q3
          · have := h2 (wd - 32 * k) (by omega)
            rw [show 32 * k + (wd - 32 * k) = wd by omega] at this
            exact this q2 q3
      have to : ∀ t : Int32, t = b2 (∃ wd, wd < 32 * (k + 1) ∧ wd < nW D ∧ p wd) → R_X8_isEnough_46 (P.2.1 + 46) (mI l) (mI g) (b2 (∀ wd, wd < 32 * k → wd < nW D → p wd → TR D wd (φ g))) (mI k) (rwp (nW D) p k) t (hp P w ex n sl) = some (b2 (EQ D φ g p), hp P w ex n sl) := by
        intro t ht
        rw [E_X8_isEnough_46]
        have no : ¬ (∀ wd, wd < 32 * (k + 1) → wd < nW D → p wd → TR D wd (φ g)) → R_X8_isEnough_76 (P.2.1 + 46) (mI l) (mI g) t (mI k) (hp P w ex n sl) = some (b2 (EQ D φ g p), hp P w ex n sl) := by
          intro q
          rw [E_X8_isEnough_76, E_X8_isEnough_77, mI_s, ht]
          have := ih (k + 1) (by omega)
          rw [b2_f q] at this
          exact this
        by_cases g1 : ∀ wd, wd < 32 * k → wd < nW D → p wd → TR D wd (φ g)
        · rw [if_neg (fun q => b2_0.mp q g1), q_46_21, ob, e2, ra_58 (by omega), ob, hW g hg k (by omega)]
          by_cases g2 : rwp (nW D) p k &&& (rwp (nW D) (fun wd => TR D wd (φ g)) k ^^^ (-1)) = 0
          · rw [if_pos g2, E_X8_isEnough_77, mI_s, ht]
            have := ih (k + 1) (by omega)
            rw [b2_t (s2.mpr ⟨g1, g2⟩)] at this
            exact this
          · rw [if_neg g2]
            exact no (fun q => g2 (s2.mp q).2)
        · rw [if_pos (b2_0.mpr g1)]
          exact no (fun q => g1 (s2.mp q).1)
      rw [E_X8_isEnough_8, if_neg (show ¬ (32 : Int32) ≤ mI k by rw [nleR (by omega) (by decide)]; exact Nat.not_le.mpr (by omega)), q_46_21, ob, e1, ra_58 (by omega), ob, hR k (by omega)]
      by_cases g1 : ∃ wd, wd < 32 * k ∧ wd < nW D ∧ p wd
      · rw [if_neg (fun q => b2_0.mp q g1), E_X8_isEnough_41]
        exact to 1 (b2_t (s1.mpr (Or.inl g1))).symm
      · rw [if_pos (b2_0.mpr g1)]
        by_cases g2 : rwp (nW D) p k = 0
        · rw [if_pos g2]
          exact to 0 (b2_f (fun q => (s1.mp q).elim g1 (fun z => z g2))).symm
        · rw [if_neg g2, E_X8_isEnough_41]
          exact to 1 (b2_t (s1.mpr (Or.inr g2))).symm
  rw [E_X8_isEnough, z_46, ob, E_X8_isEnough_0]
  have := key 32 0 (by omega)
  rw [b2_f (show ¬ ∃ wd, wd < 32 * 0 ∧ wd < nW D ∧ p wd from fun ⟨wd, q, _⟩ => by omega), b2_t (show ∀ wd, wd < 32 * 0 → wd < nW D → p wd → TR D wd (φ g) from fun wd q => by omega)] at this
  exact this
theorem m_narrows {l f : Nat} {p : Nat → Prop} (hF : F ≤ 30) (hl : l < 3) (hf : f < F) (hW : FW w D F φ) (hR : RW w D l p) : ∃ w', F_X8_narrows (P.2.1 + 46) (mI l) (mI f) (hp P w ex n sl) = some ((), hp P w' ex n sl) ∧ Fr [58] [] w w' ∧ (∀ i, i < 32 * (31 + l) → w'.2.2.1 58 i = w.2.2.1 58 i) ∧ RW w' D (l + 1) (fun wd => p wd ∧ TR D wd (φ f)) := by
  have key : ∀ d k (u : sW), k + d = 32 → Fr [58] [] w u → (∀ i, i < 32 * (31 + l) → u.2.2.1 58 i = w.2.2.1 58 i) → (∀ j, j < k → u.2.2.1 58 (32 * (30 + (l + 1)) + j) = rwp (nW D) (fun wd => p wd ∧ TR D wd (φ f)) j) → ∃ w', R_X8_narrows_2 (P.2.1 + 46) (mI l) (mI f) (mI k) (hp P u ex n sl) = some ((), hp P w' ex n sl) ∧ Fr [58] [] w w' ∧ (∀ i, i < 32 * (31 + l) → w'.2.2.1 58 i = w.2.2.1 58 i) ∧ RW w' D (l + 1) (fun wd => p wd ∧ TR D wd (φ f)) := by
    intro d
    induction d with
    | zero =>
      intro k u hk hu h1 h2
      have hk : k = 32 := by omega
      subst hk
      refine ⟨u, ?_, hu, h1, h2⟩
      rw [E_X8_narrows_2, if_pos (by decide)]
    | succ d ih =>
      intro k u hk hu h1 h2
      have e1 : (32 : Int32) * (30 + mI l) + mI k = mI (32 * (30 + l) + k) := by rw [naddR, nmulR, nadd]
      have e2 : (32 : Int32) * mI f + mI k = mI (32 * f + k) := by rw [nmulR, nadd]
      have e3 : (32 : Int32) * (30 + mI l + 1) + mI k = mI (32 * (30 + l + 1) + k) := by rw [naddR, naddL, nmulR, nadd]
      rw [E_X8_narrows_2, if_neg (show ¬ (32 : Int32) ≤ mI k by rw [nleR (by omega) (by decide)]; exact Nat.not_le.mpr (by omega)), q_46_21, ob, ob, e1, ra_58 (by omega), ob, ob, e2, ra_58 (by omega), ob, e3, wa_58 (by omega), ob, mI_s, h1 _ (by omega), h1 _ (by omega), hR k (by omega), hW f hf k (by omega), rwp_and]
      refine ih (k + 1) _ (by omega) (hu.pA (by decide)) (fun i hi => (up2_n (Or.inr (by omega))).trans (h1 i hi)) (fun j hj => ?_)
      by_cases q : j = k
      · subst q
        exact up2_e rfl (by omega)
      · exact (up2_n (Or.inr (by omega))).trans (h2 j (by omega))
  obtain ⟨w', h1, h2⟩ := key 32 0 w (by omega) Fr.rf (fun _ _ => rfl) (fun j hj => absurd hj (by omega))
  refine ⟨w', ?_, h2⟩
  rw [E_X8_narrows, z_46, ob, E_X8_narrows_0]
  exact h1
/-- the bits of the named ones -/
def accN (nm : Nat → Nat) : Nat → Nat
  | 0 => 0
  | l + 1 => accN nm l ||| 2 ^ (nm l)
theorem m_bitsOf {nm : Nat → Nat} {l : Nat} (hl : l ≤ 4) (h : ∀ i, i < l → w.2.2.1 59 i = mI (nm i) ∧ nm i < 30) : F_X8_bitsOf (P.2.1 + 46) (mI l) (hp P w ex n sl) = some (mI (accN nm l), hp P w ex n sl) := by
  rw [E_X8_bitsOf, z_46, ob, E_X8_bitsOf_0]
  refine loopE (f := fun k => R_X8_bitsOf_4 (P.2.1 + 46) (mI l) (mI (accN nm k)) (mI k) (hp P w ex n sl)) (N := l) (fun k hk => ?_) ?_
  · try dsimp only
    have := (h k hk).2
    rw [E_X8_bitsOf_4, if_neg (show ¬ mI l ≤ mI k by rw [nle (by omega) (by omega)]; omega), q_46_22, ob, ra_59 (by omega), ob, (h k hk).1, mI_s, show (1 : Int32) <<< (mI (nm k) &&& 31) = mI (2 ^ (nm k)) from on32_mI _ (by omega), mI_or]
    rfl
  · try dsimp only
    rw [E_X8_bitsOf_4]
    exact if_pos (by rw [nle (by omega) (by omega)]; exact Nat.le_refl _)
/-- what a deeper search leaves -/
def kpN (l : Nat) (u u' : sW) : Prop := Fr [58, 59] [] u u' ∧ (∀ i, i < 32 * (31 + l) → u'.2.2.1 58 i = u.2.2.1 58 i) ∧ ∀ i, i < l → u'.2.2.1 59 i = u.2.2.1 59 i
/-- how a search from a level ends -/
def ends (P : sP) (ex : Nat → Option sC) (n sl many g l : Nat) (nm : Nat → Nat) (u : sW) (run : Option (Int32 × sS)) (o : Option Nat) : Prop := match o with
  | some v => ∃ u', run = some (mI (v ||| accN nm l), hp P u' ex n sl) ∧ Fr [58, 59] [] u u'
  | none => ∃ u', run = R_X8_leastNamed_9 (P.2.1 + 46) (mI many) (mI g) (mI l + (-1)) (hp P u' ex n sl) ∧ kpN l u u'
theorem ends.pre {many g l : Nat} {nm : Nat → Nat} {u0 u : sW} {run : Option (Int32 × sS)} {o : Option Nat} (h : ends P ex n sl many g l nm u run o) (f : kpN l u0 u) : ends P ex n sl many g l nm u0 run o := by
  cases o with
  | some v =>
    obtain ⟨u', a, b⟩ := h
    exact ⟨u', a, f.1.tr b⟩
  | none =>
    obtain ⟨u', a, b⟩ := h
    exact ⟨u', a, f.1.tr b.1, fun i hi => (b.2.1 i hi).trans (f.2.1 i hi), fun i hi => (b.2.2 i hi).trans (f.2.2 i hi)⟩
theorem m_named {g : Nat} (hM : MW w D F L y φ) (hg : g < F) : ∀ r l many (u : sW) (p : Nat → Prop) k nm, l + r = many → many ≤ 3 → Fr [53, 58, 59] [] w u → FW u D F φ → RW u D l p → (∀ i, i < l → u.2.2.1 59 i = mI (nm i) ∧ nm i < F) → (l = 0 → k = F) → (0 < l → k = nm (l - 1)) → (r ≠ 0 → u.2.2.1 59 l = -1) → ends P ex n sl many g l nm u (R_X8_leastNamed_9 (P.2.1 + 46) (mI many) (mI g) (mI l) (hp P u ex n sl)) (srch D φ g r p k) := by
  have h30 := hM.2.2.1
  have hD3 := hM.2.1
  intro r
  induction r with
  | zero =>
    intro l many u p k nm hlr hm hu hW hR hn hk0 hk1 h59
    have e : l = many := by omega
    subst e
    have e0 : R_X8_leastNamed_9 (P.2.1 + 46) (mI l) (mI g) (mI l) (hp P u ex n sl) = (if b2 (EQ D φ g p) = 0 then (R_X8_leastNamed_9 (P.2.1 + 46) (mI l) (mI g) (mI l + (-1)) (hp P u ex n sl)) else (some (mI (accN nm l), hp P u ex n sl))) := by
      rw [E_X8_leastNamed_9, if_neg (mI_0 (by omega)), if_pos rfl, m_enough h30 (by omega) hD3 hg hW hR, ob]
      try dsimp only
      rw [m_bitsOf (by omega) (fun i hi => ⟨(hn i hi).1, by have := (hn i hi).2; omega⟩), ob]
    rw [e0]
    unfold srch
    by_cases q : EQ D φ g p
    · rw [if_neg (fun z => b2_0.mp z q), if_pos q]
      exact ⟨u, by rw [Nat.zero_or], Fr.rf⟩
    · rw [if_pos (b2_0.mpr q), if_neg q]
      exact ⟨u, rfl, Fr.rf, fun _ _ => rfl, fun _ _ => rfl⟩
  | succ r ih =>
    intro l many u p k nm hlr hm hu hW hR hn hk0 hk1 h59
    have hkF : k ≤ F := by
      rcases Nat.eq_zero_or_pos l with q | q
      · rw [hk0 q]; exact Nat.le_refl _
      · rw [hk1 q]; have := (hn (l - 1) (by omega)).2; omega
    have ms : (1 : Int32) = mI 1 := rfl
    -- a level begins
    have beg : ∀ (v : sW), Fr [53, 58, 59] [] w v → (∀ i, i < l → v.2.2.1 59 i = mI (nm i)) → R_X8_leastNamed_9 (P.2.1 + 46) (mI many) (mI g) (mI l) (hp P v ex n sl) = R_X8_leastNamed_70 (P.2.1 + 46) (mI many) (mI g) (mI l) (mI k) (hp P (wA v 59 l (v.2.2.1 59 l + 1)) ex n sl) := by
      intro v hv h1
      have e58 : R_X8_leastNamed_58 (P.2.1 + 46) (mI many) (mI g) (mI l) (mI k) (hp P v ex n sl) = R_X8_leastNamed_70 (P.2.1 + 46) (mI many) (mI g) (mI l) (mI k) (hp P (wA v 59 l (v.2.2.1 59 l + 1)) ex n sl) := by
        rw [E_X8_leastNamed_58, q_46_22, ob, ra_59 (by omega), ob, wa_59 (by omega), ob]
      rw [E_X8_leastNamed_9, if_neg (mI_0 (by omega)), if_neg (by rw [neq (by omega) (by omega)]; omega)]
      rcases Nat.eq_zero_or_pos l with q | q
      · rw [if_pos (by rw [q]; rfl), m_formulasM (hM.m58 hv), ob]
        try dsimp only
        rw [← hk0 q]
        exact e58
      · rw [if_neg (show ¬ mI l = 0 by rw [show (0 : Int32) = mI 0 from rfl, neq (by omega) (by decide)]; omega), q_46_22, ob, show mI l - 1 = mI (l - 1) from mI_sub (a := l) (b := 1) (by omega), ra_59 (by omega), ob, h1 (l - 1) (by omega), ← hk1 q]
        exact e58
    have sc : ∀ d x (v : sW), x + d = k → kpN l u v → v.2.2.1 59 l = mI x → ends P ex n sl many g l nm u (R_X8_leastNamed_70 (P.2.1 + 46) (mI many) (mI g) (mI l) (mI k) (hp P v ex n sl)) (scan (fun x => @ite _ (φ x = φ g) (Classical.propDecidable _) none ((srch D φ g r (fun wd => p wd ∧ TR D wd (φ x)) x).map (fun v => v ||| 2 ^ x))) d x) := by
      intro d
      induction d with
      | zero =>
        intro x v hx hv hl
        have hx : x = k := by omega
        subst hx
        refine ⟨v, ?_, hv⟩
        rw [E_X8_leastNamed_70, q_46_22, ob, ra_59 (by omega), ob, hl, if_pos (by rw [nle (by omega) (by omega)]; exact Nat.le_refl _), E_X8_leastNamed_108, q_46_22, ob, ra_59 (by omega), ob, hl]
        exact if_neg (by rw [nlt (by omega) (by omega)]; omega)
      | succ d ih2 =>
        intro x v hx hv hl
        have hvw : Fr [53, 58, 59] [] w v := hu.tr (hv.1.mo (by decide) (by decide))
        have hMv := hM.m58 hvw
        have sv : ∀ i, i < l → v.2.2.1 59 i = mI (nm i) := fun i hi => (hv.2.2 i hi).trans (hn i hi).1
        have hWv : FW v D F φ := fun f hf j hj => (hv.2.1 _ (by omega)).trans (hW f hf j hj)
        have hRv : RW v D l p := fun j hj => (hv.2.1 _ (by omega)).trans (hR j hj)
        have e70 : R_X8_leastNamed_70 (P.2.1 + 46) (mI many) (mI g) (mI l) (mI k) (hp P v ex n sl) = (if b2 (φ x = φ g) = 0 then (R_X8_leastNamed_108 (P.2.1 + 46) (mI many) (mI g) (mI l) (mI k) (hp P v ex n sl)) else (R_X8_leastNamed_70 (P.2.1 + 46) (mI many) (mI g) (mI l) (mI k) (hp P (wA v 59 l (mI (x + 1))) ex n sl))) := by
          rw [E_X8_leastNamed_70, q_46_22, ob, ra_59 (by omega), ob, hl, if_neg (show ¬ mI k ≤ mI x by rw [nle (by omega) (by omega)]; omega), ob, ra_59 (by omega), ob, hl, m_isSame (l := φ x) (l' := φ g) rfl rfl (by omega) (by omega) (hMv.2.2.2.2.2.2.2.2.2 x (by omega)).1 (hMv.2.2.2.2.2.2.2.2.2 g hg).1, ob]
          try dsimp only
          rw [q_46_22, ob, ra_59 (by omega), ob, hl, wa_59 (by omega), ob, mI_s]
        have nxt : ∀ v1 : sW, kpN l u v1 → kpN l u (wA v1 59 l (mI (x + 1))) := fun v1 h1 => ⟨h1.1.pA (by decide), fun i hi => (wA_n (w := v1) (Or.inl (show 58 ≠ 59 by decide))).trans (h1.2.1 i hi), fun i hi => (wA_n (w := v1) (Or.inr (by omega))).trans (h1.2.2 i hi)⟩
        rw [e70]
        unfold scan
        try dsimp only
        by_cases h1 : φ x = φ g
        · rw [if_neg (fun z => b2_0.mp z h1), if_pos h1]
          exact ih2 (x + 1) _ (by omega) (nxt v hv) wA_s
        · rw [if_pos (b2_0.mpr h1), if_neg h1]
          obtain ⟨v1, a1, a2, a3, a4⟩ := m_narrows (P := P) (ex := ex) (n := n) (sl := sl) (l := l) (f := x) h30 (by omega) (by omega) hWv hRv
          -- the next level begins, with nothing named there yet
          have e108 : ∃ v2 : sW, R_X8_leastNamed_108 (P.2.1 + 46) (mI many) (mI g) (mI l) (mI k) (hp P v ex n sl) = R_X8_leastNamed_9 (P.2.1 + 46) (mI many) (mI g) (mI (l + 1)) (hp P v2 ex n sl) ∧ Fr [58, 59] [] v v2 ∧ (∀ i, v2.2.2.1 58 i = v1.2.2.1 58 i) ∧ (∀ i, i < l + 1 → v2.2.2.1 59 i = v.2.2.1 59 i) ∧ (r ≠ 0 → v2.2.2.1 59 (l + 1) = -1) := by
            have b9 : ∀ i, v1.2.2.1 59 i = v.2.2.1 59 i := fun i => by rw [(a2.1 59 (by decide)).1]
            rw [E_X8_leastNamed_108, q_46_22, ob, ra_59 (by omega), ob, hl, if_pos (by rw [nlt (by omega) (by omega)]; omega), ob, ra_59 (by omega), ob, hl, a1, ob]
            try dsimp only
            rw [mI_s]
            by_cases hr : many ≤ l + 1
            · rw [if_pos (by rw [nle (by omega) (by omega)]; exact hr), E_X8_leastNamed_151]
              exact ⟨v1, rfl, a2.mo (by decide) (by decide), fun _ => rfl, fun i _ => b9 i, fun q => absurd q (by omega)⟩
            · rw [if_neg (by rw [nle (by omega) (by omega)]; exact hr), q_46_22, ob, wa_59 (by omega), ob, E_X8_leastNamed_151]
              exact ⟨_, rfl, (a2.mo (by decide) (by decide)).pA (by decide), fun i => wA_n (w := v1) (Or.inl (show 58 ≠ 59 by decide)), fun i hi => (wA_n (w := v1) (Or.inr (by omega))).trans (b9 i), fun _ => wA_s⟩
          obtain ⟨v2, c1, c2, c3, c4, c5⟩ := e108
          have hv2w : Fr [53, 58, 59] [] w v2 := hvw.tr (c2.mo (by decide) (by decide))
          have k2 : kpN l u v2 := ⟨hv.1.tr c2, fun i hi => (c3 i).trans ((a3 i hi).trans (hv.2.1 i hi)), fun i hi => (c4 i (by omega)).trans (hv.2.2 i hi)⟩
          have deep := ih (l + 1) many v2 (fun wd => p wd ∧ TR D wd (φ x)) x (fun i => if i = l then x else nm i) (by omega) hm hv2w (fun f hf j hj => (c3 _).trans ((a3 _ (by omega)).trans (hWv f hf j hj))) (fun j hj => (c3 _).trans (a4 j hj)) (fun i hi => by
            try dsimp only
            by_cases q : i = l
            · rw [if_pos q, q]; exact ⟨(c4 l (by omega)).trans hl, by omega⟩
            · rw [if_neg q]; exact ⟨(c4 i hi).trans (sv i (by omega)), (hn i (by omega)).2⟩) (fun q => by omega) (fun _ => by rw [if_pos (by omega)]) c5
          have eacc : accN (fun i => if i = l then x else nm i) (l + 1) = accN nm l ||| 2 ^ x := by
            have ee : ∀ m, m ≤ l → accN (fun i => if i = l then x else nm i) m = accN nm m := by
              intro m
              induction m with
              | zero => intro _; rfl
              | succ m ihm =>
                intro hm'
                show accN _ m ||| 2 ^ (if m = l then x else nm m) = accN nm m ||| 2 ^ (nm m)
                rw [ihm (by omega), if_neg (by omega)]
            show accN _ l ||| 2 ^ (if l = l then x else nm l) = _
            rw [ee l (Nat.le_refl _), if_pos rfl]
          rw [c1]
          cases e : srch D φ g r (fun wd => p wd ∧ TR D wd (φ x)) x with
          | some v0 =>
            rw [e] at deep
            obtain ⟨u', d1, d2⟩ := deep
            refine ⟨u', ?_, k2.1.tr d2⟩
            rw [d1, eacc]
            show some (mI (v0 ||| (accN nm l ||| 2 ^ x)), _) = some (mI (v0 ||| 2 ^ x ||| accN nm l), _)
            rw [Nat.or_comm (accN nm l), Nat.or_assoc]
          | none =>
            rw [e] at deep
            obtain ⟨u', d1, d2, d3, d4⟩ := deep
            have k3 : kpN l u u' := ⟨k2.1.tr d2, fun i hi => (d3 i (by omega)).trans (k2.2.1 i hi), fun i hi => (d4 i (by omega)).trans (k2.2.2 i hi)⟩
            have u'l : u'.2.2.1 59 l = mI x := (d4 l (by omega)).trans ((c4 l (by omega)).trans hl)
            rw [d1, mI_m, beg u' (hu.tr (k3.1.mo (by decide) (by decide))) (fun i hi => (k3.2.2 i hi).trans (hn i hi).1), u'l, mI_s]
            exact ih2 (x + 1) _ (by omega) (nxt u' k3) wA_s
    rw [beg u hu (fun i hi => (hn i hi).1), h59 (by omega)]
    have := sc k 0 (wA u 59 l (-1 + 1)) (by omega) ⟨Fr.rf.pA (by decide), fun i hi => wA_n (w := u) (Or.inl (show 58 ≠ 59 by decide)), fun i hi => wA_n (w := u) (Or.inr (by omega))⟩ wA_s
    unfold srch
    exact this
end MMO
