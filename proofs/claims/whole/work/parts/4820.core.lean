/-! core: which sets of places hold together -/
theorem tb_addp {p i : Nat} (h : p.testBit i = false) (j : Nat) : (p + 2 ^ i).testBit j = if j = i then true else p.testBit j := by
  have e1 : p % 2 ^ (i + 1) < 2 ^ i := by
    have h2 : (p % 2 ^ (i + 1)) < 2 ^ (i + 1) := Nat.mod_lt _ (Nat.two_pow_pos _)
    refine nat_lt_pow fun k hk => ?_
    have h3 := nat_tb_lt h2 hk
    rw [Nat.testBit_mod_two_pow, Bool.and_eq_true] at hk
    have : k ≠ i := fun q => by rw [q, h] at hk; cases hk.2
    omega
  have hp2 : 2 ^ (i + 1) = 2 * 2 ^ i := by rw [Nat.pow_succ]; omega
  have e2 := Nat.div_add_mod p (2 ^ (i + 1))
  have e3 : p + 2 ^ i = 2 ^ (i + 1) * (p / 2 ^ (i + 1)) + (2 ^ i + p % 2 ^ (i + 1)) := by omega
  rw [e3, Nat.testBit_two_pow_mul_add _ (by omega)]
  conv => rhs; rw [← e2]
  rw [Nat.testBit_two_pow_mul_add _ (Nat.mod_lt _ (Nat.two_pow_pos _))]
  by_cases g : j = i
  · rw [if_pos g, if_pos (by omega), g, Nat.testBit_two_pow_add_eq, Nat.testBit_lt_two_pow e1]; rfl
  · rw [if_neg g]
    by_cases g2 : j < i + 1
    · rw [if_pos g2, if_pos g2, Nat.testBit_two_pow_add_gt (by omega)]
    · rw [if_neg g2, if_neg g2]
theorem mI_sh6 {k : Nat} (h : k < 2 ^ 31) : mI k >>> ((6 : Int32) &&& 31) = mI (k / 64) := by
  apply bt_ext
  intro i hi
  have := bt_shr (n := 6) (by decide) (mI k) hi
  rw [show (6 : Int32) = mI 6 from rfl, this, bt_mI hi, show k / 64 = k / 2 ^ 6 from rfl, Nat.testBit_div_two_pow]
  have hz : ∀ j, 31 ≤ j → k.testBit j = false := fun j hj => Nat.testBit_lt_two_pow (Nat.lt_of_lt_of_le h (Nat.pow_le_pow_right (by decide) hj))
  by_cases g : 6 + i < 32
  · rw [if_pos g, bt_mI g, Nat.add_comm]
  · rw [if_neg g, bt_mI (by decide), hz 31 (by decide), hz (i + 6) (by omega)]
theorem mI_a63 {k : Nat} : mI k &&& 63 = mI (k % 64) := by
  rw [show (63 : Int32) = mI 63 from rfl, mI_and, show (63 : Nat) = 2 ^ 6 - 1 by decide, Nat.and_two_pow_sub_one_eq_mod]
/-- the marks, a bit for each of 16384 sets of places -/
def MA (u : sW) (Q : Nat → Prop) : Prop := ∀ p, p < 16384 → (bl (u.2.2.2.1 36 (p / 64)) (p % 64) = true ↔ Q p)
theorem MA.c {u : sW} {Q Q' : Nat → Prop} (h : MA u Q) (e : ∀ p, p < 16384 → (Q p ↔ Q' p)) : MA u Q' := fun p hp => (h p hp).trans (e p hp)
/-- stage i: what lies below i may be less, what lies from i on is the same -/
def MKQ (D : Nat) (φ : Nat → List Nat) (M : Nat → Nat) (c i p : Nat) : Prop := ∃ wd, wd < nW D ∧ ∀ j, j < 14 → (j < i → p.testBit j = true → j < c ∧ TR D wd (φ (M j))) ∧ (i ≤ j → (p.testBit j = true ↔ j < c ∧ TR D wd (φ (M j))))
theorem MKQ_s {D : Nat} {φ : Nat → List Nat} {M : Nat → Nat} {c i p : Nat} (hi : i < 14) : MKQ D φ M c (i + 1) p ↔ MKQ D φ M c i p ∨ (p.testBit i = false ∧ MKQ D φ M c i (p + 2 ^ i)) := by
  constructor
  · rintro ⟨wd, h1, h2⟩
    by_cases g : p.testBit i = true ↔ i < c ∧ TR D wd (φ (M i))
    · refine Or.inl ⟨wd, h1, fun j hj => ⟨fun q => (h2 j hj).1 (by omega), fun q => ?_⟩⟩
      by_cases e : j = i
      · rw [e]; exact g
      · exact (h2 j hj).2 (by omega)
    · have gi := (h2 i hi).1 (by omega)
      have pf : p.testBit i = false := by
        cases q : p.testBit i
        · rfl
        · exact absurd ⟨fun _ => gi q, fun _ => q⟩ g
      have hh : i < c ∧ TR D wd (φ (M i)) := Classical.byContradiction fun z => g ⟨fun q => (gi q), fun q => absurd q z⟩
      refine Or.inr ⟨pf, wd, h1, fun j hj => ⟨fun q => ?_, fun q => ?_⟩⟩
      · rw [tb_addp pf, if_neg (by omega)]
        exact (h2 j hj).1 (by omega)
      · rw [tb_addp pf]
        by_cases e : j = i
        · rw [if_pos e, e]; exact ⟨fun _ => hh, fun _ => rfl⟩
        · rw [if_neg e]; exact (h2 j hj).2 (by omega)
  · rintro (⟨wd, h1, h2⟩ | ⟨pf, wd, h1, h2⟩)
    · refine ⟨wd, h1, fun j hj => ⟨fun q => ?_, fun q => (h2 j hj).2 (by omega)⟩⟩
      by_cases e : j = i
      · exact ((h2 j hj).2 (by omega)).mp
      · exact (h2 j hj).1 (by omega)
    · refine ⟨wd, h1, fun j hj => ⟨fun q => ?_, fun q => ?_⟩⟩
      · by_cases e : j = i
        · intro z; rw [e, pf] at z; cases z
        · have := (h2 j hj).1 (by omega)
          rw [tb_addp pf, if_neg e] at this
          exact this
      · have := (h2 j hj).2 (by omega)
        rw [tb_addp pf, if_neg (by omega)] at this
        exact this
theorem MKQ_0 {D : Nat} {φ : Nat → List Nat} {M : Nat → Nat} {c p : Nat} (hc : c ≤ 14) (hp : p < 16384) : MKQ D φ M c 0 p ↔ ∃ wd, wd < nW D ∧ p = nbP (fun i => TR D wd (φ (M i))) c := by
  constructor
  · rintro ⟨wd, h1, h2⟩
    refine ⟨wd, h1, nat_ext fun j => ?_⟩
    rw [nbP_t]
    by_cases g : j < 14
    · exact (h2 j g).2 (Nat.zero_le _)
    · exact ⟨fun z => absurd (nat_tb_lt (show p < 2 ^ 14 from hp) z) g, fun z => absurd z.1 (by omega)⟩
  · rintro ⟨wd, h1, rfl⟩
    exact ⟨wd, h1, fun j hj => ⟨fun q => absurd q (by omega), fun _ => nbP_t⟩⟩
section MRK
variable {P : sP} {S0 e : Nat} {w w' w1 w2 z u : sW} {ex : Nat → Option sC} {n sl D F L R U : Nat} {y : sLn} {φ : Nat → List Nat} {nf : Nat → Nat} {ρ : sRc} {nd : Nat → List Nat}
theorem j_fill36 : ∃ w', F_J7_fill_d0a16 (P.2.1 + 36) 0 (hp P w ex n sl) = some ((), hp P w' ex n sl) ∧ Fr [36] [] w w' ∧ ∀ i, i < 256 → w'.2.2.2.1 36 i = 0 := by
  have key : ∀ d k (u : sW), k + d = 256 → Fr [36] [] w u → (∀ i, i < k → u.2.2.2.1 36 i = 0) → ∃ w', R_J7_fill_d0a16_6 (P.2.1 + 36) 0 (mI k) (mI 256) (hp P u ex n sl) = some ((), hp P w' ex n sl) ∧ Fr [36] [] w w' ∧ ∀ i, i < 256 → w'.2.2.2.1 36 i = 0 := by
    intro d
    induction d with
    | zero =>
      intro k u hk hu hi
      have hk : k = 256 := by omega
      subst hk
      exact ⟨u, by rw [E_J7_fill_d0a16_6, if_pos (by decide)], hu, hi⟩
    | succ d ih =>
      intro k u hk hu hi
      rw [E_J7_fill_d0a16_6, if_neg (by rw [nle (by omega) (by omega)]; omega), wa_36 (by omega), ob, mI_s]
      refine ih (k + 1) _ (by omega) (hu.pL (by decide)) (fun i hi' => ?_)
      by_cases q : i = k
      · exact up2_e rfl q
      · exact (up2_n (Or.inr q)).trans (hi i (by omega))
  obtain ⟨w', h1, h2⟩ := key 256 0 w (by omega) Fr.rf (fun i hi => absurd hi (by omega))
  refine ⟨w', ?_, h2⟩
  rw [E_J7_fill_d0a16, E_J7_fill_d0a16_0, n_36, ob]
  exact h1
theorem c_col {i : Nat} (hK : KC P) (hi : i < 6) : s_al (hp P w ex n sl) ((hp P w ex n sl).2.2.2 1) (mI i) = some (colL i) := by
  obtain ⟨h1, f, h2, h3⟩ := hK
  show s_al (hp P w ex n sl) (P.2.2 1) (mI i) = _
  unfold s_al
  rw [hp_ro h1, h2]
  dsimp only
  rw [if_pos ⟨Or.inr rfl, mI_out hi (by decide)⟩, mI_nat (by omega), h3 i hi]
theorem c_within {i : Nat} {Q : Nat → Prop} (hK : KC P) (hi : i < 6) (hQ : MA w Q) : ∃ w', F_X3_markWithin (P.2.1 + 31) (mI i) (hp P w ex n sl) = some ((), hp P w' ex n sl) ∧ Fr [36] [] w w' ∧ MA w' (fun p => Q p ∨ (p.testBit i = false ∧ Q (p + 2 ^ i))) := by
  have h2i : 2 ^ i ≤ 32 := Nat.le_trans (Nat.pow_le_pow_right (n := 2) (by decide) (show i ≤ 5 by omega)) (by decide)
  have hp0 : 0 < 2 ^ i := Nat.two_pow_pos i
  have key : ∀ d k (u : sW), k + d = 256 → Fr [36] [] w u → MA u (fun p => Q p ∨ (p / 64 < k ∧ p.testBit i = false ∧ Q (p + 2 ^ i))) → ∃ w', R_X3_markWithin_13 (P.2.1 + 31) (mI i) (colL i ^^^ (-1)) (mI k) (hp P u ex n sl) = some ((), hp P w' ex n sl) ∧ Fr [36] [] w w' ∧ MA w' (fun p => Q p ∨ (p.testBit i = false ∧ Q (p + 2 ^ i))) := by
    intro d
    induction d with
    | zero =>
      intro k u hk hu hm
      have hk : k = 256 := by omega
      subst hk
      refine ⟨u, ?_, hu, hm.c (fun p hp => ?_)⟩
      · rw [E_X3_markWithin_13, q_31_5, ob, n_36, ob]
        exact if_pos (by decide)
      · exact ⟨fun z => z.imp id (fun q => q.2), fun z => z.imp id (fun q => ⟨by omega, q⟩)⟩
    | succ d ih =>
      intro k u hk hu hm
      rw [E_X3_markWithin_13, q_31_5, ob, n_36, ob, if_neg (show ¬ Int32.ofNat 256 ≤ mI k by rw [show Int32.ofNat 256 = mI 256 from rfl, nle (by omega) (by omega)]; omega), ob, ra_36 (by omega), ob, ob, ra_36 (by omega), ob, wa_36 (by omega), ob, mI_s]
      refine ih (k + 1) _ (by omega) (hu.pL (by decide)) (fun p hp => ?_)
      by_cases g : p / 64 = k
      · have hb : p % 64 < 64 := Nat.mod_lt _ (by decide)
        have pe : p = 64 * (p / 64) + p % 64 := (Nat.div_add_mod p 64).symm
        have tb : p.testBit i = (p % 64).testBit i := by rw [show (64 : Nat) = 2 ^ 6 from rfl, Nat.testBit_mod_two_pow, decide_eq_true hi, Bool.true_and]
        have hmp := hm p hp
        rw [g] at hmp
        show bl (up2 u.2.2.2.1 36 k _ 36 (p / 64)) (p % 64) = true ↔ _
        rw [up2_e rfl g, bl_or, bl_and, bl_not _ hb, colL_b i hi _ hb, show (1 : Int32) <<< (mI i &&& 31) = mI (2 ^ i) from on32_mI i (by omega), bl_ushr (by omega), Bool.or_eq_true, hmp, Bool.and_eq_true, ← tb]
        constructor
        · rintro ((q | ⟨q, -⟩) | ⟨q1, q2⟩)
          · exact Or.inl q
          · omega
          · have pf : p.testBit i = false := by simpa using q2
            have hlt : 2 ^ i + p % 64 < 64 := by
              have : (p % 64 + 2 ^ i) < 2 ^ 6 := nat_lt_pow fun j hj => by
                rw [tb_addp (by rw [← tb]; exact pf)] at hj
                by_cases e : j = i
                · omega
                · rw [if_neg e] at hj; exact nat_tb_lt (show p % 64 < 2 ^ 6 from hb) hj
              omega
            have hm2 := hm (p + 2 ^ i) (by omega)
            rw [show (p + 2 ^ i) / 64 = k by omega, show (p + 2 ^ i) % 64 = 2 ^ i + p % 64 by omega] at hm2
            rcases hm2.mp q1 with z | ⟨z, -⟩
            · exact Or.inr ⟨by omega, pf, z⟩
            · omega
        · rintro (q | ⟨q0, q1, q2⟩)
          · exact Or.inl (Or.inl q)
          · refine Or.inr ⟨?_, by rw [q1]; rfl⟩
            have hlt : 2 ^ i + p % 64 < 64 := by
              have : (p % 64 + 2 ^ i) < 2 ^ 6 := nat_lt_pow fun j hj => by
                rw [tb_addp (by rw [← tb]; exact q1)] at hj
                by_cases e : j = i
                · omega
                · rw [if_neg e] at hj; exact nat_tb_lt (show p % 64 < 2 ^ 6 from hb) hj
              omega
            have hm2 := hm (p + 2 ^ i) (by omega)
            rw [show (p + 2 ^ i) / 64 = k by omega, show (p + 2 ^ i) % 64 = 2 ^ i + p % 64 by omega] at hm2
            exact hm2.mpr (Or.inl q2)
      · show bl (up2 u.2.2.2.1 36 k _ 36 (p / 64)) (p % 64) = true ↔ _
        rw [up2_n (Or.inr g), hm p hp]
        exact ⟨fun z => z.imp id (fun q => ⟨by omega, q.2⟩), fun z => z.imp id (fun q => ⟨by omega, q.2⟩)⟩
  obtain ⟨w', h1, h2⟩ := key 256 0 w (by omega) Fr.rf (hQ.c (fun p hp => ⟨Or.inl, fun z => z.elim id (fun q => absurd q.1 (by omega))⟩))
  refine ⟨w', ?_, h2⟩
  rw [E_X3_markWithin, z_31, ob, E_X3_markWithin_0, c_col hK hi, ob]
  exact h1
theorem and_p2 {a m : Nat} : a &&& 2 ^ m = 0 ↔ a.testBit m = false := by
  constructor
  · intro h
    have := congrArg (fun q => q.testBit m) h
    simp only [Nat.testBit_and, Nat.testBit_two_pow, Nat.zero_testBit] at this
    simpa using this
  · intro h
    refine nat_ext fun j => ?_
    rw [Nat.testBit_and, Nat.testBit_two_pow, Nat.zero_testBit, Bool.and_eq_true, decide_eq_true_iff]
    constructor
    · rintro ⟨a1, rfl⟩; rw [h] at a1; cases a1
    · intro q; cases q
theorem xor_p2 {b m : Nat} (h : b.testBit m = false) : (b + 2 ^ m) ^^^ 2 ^ m = b := by
  refine Nat.eq_of_testBit_eq fun j => ?_
  rw [Nat.testBit_xor, tb_addp h, Nat.testBit_two_pow]
  by_cases g : j = m
  · rw [if_pos g, g, h]; simp
  · rw [if_neg g, decide_eq_false (fun q => g q.symm), Bool.xor_false]
theorem mI_xor {a b : Nat} : mI a ^^^ mI b = mI (a ^^^ b) := by
  apply bt_ext
  intro i hi
  rw [bt_xor, bt_mI hi, bt_mI hi, bt_mI hi, Nat.testBit_xor]
theorem c_across {m : Nat} {Q : Nat → Prop} (hm : m < 8) (hQ : MA w Q) : ∃ w', F_X3_markAcross (P.2.1 + 31) (mI (2 ^ m)) (hp P w ex n sl) = some ((), hp P w' ex n sl) ∧ Fr [36] [] w w' ∧ MA w' (fun p => Q p ∨ (p.testBit (m + 6) = false ∧ Q (p + 2 ^ (m + 6)))) := by
  have h2m : 2 ^ m ≤ 128 := Nat.le_trans (Nat.pow_le_pow_right (n := 2) (by decide) (show m ≤ 7 by omega)) (by decide)
  have hp0 : 0 < 2 ^ m := Nat.two_pow_pos m
  have h6 : 2 ^ (m + 6) = 64 * 2 ^ m := by rw [Nat.pow_add]; omega
  have tbw : ∀ p, p.testBit (m + 6) = (p / 64).testBit m := fun p => by rw [show (64 : Nat) = 2 ^ 6 from rfl, Nat.testBit_div_two_pow]
  have key : ∀ d k (u : sW), k + d = 256 → Fr [36] [] w u → MA u (fun p => Q p ∨ (p / 64 + 2 ^ m < k ∧ p.testBit (m + 6) = false ∧ Q (p + 2 ^ (m + 6)))) → ∃ w', R_X3_markAcross_2 (P.2.1 + 31) (mI (2 ^ m)) (mI k) (hp P u ex n sl) = some ((), hp P w' ex n sl) ∧ Fr [36] [] w w' ∧ MA w' (fun p => Q p ∨ (p.testBit (m + 6) = false ∧ Q (p + 2 ^ (m + 6)))) := by
    intro d
    induction d with
    | zero =>
      intro k u hk hu hma
      have hk : k = 256 := by omega
      subst hk
      refine ⟨u, ?_, hu, hma.c (fun p hp => ?_)⟩
      · rw [E_X3_markAcross_2, q_31_5, ob, n_36, ob]
        exact if_pos (by decide)
      · refine ⟨fun z => z.imp id (fun q => q.2), fun z => z.imp id (fun q => ⟨?_, q⟩)⟩
        have : p / 64 + 2 ^ m < 2 ^ 8 := nat_lt_pow fun j hj => by
          rw [tb_addp (by rw [← tbw]; exact q.1)] at hj
          by_cases e : j = m
          · omega
          · rw [if_neg e] at hj; exact nat_tb_lt (show p / 64 < 2 ^ 8 by omega) hj
        exact this
    | succ d ih =>
      intro k u hk hu hma
      rw [E_X3_markAcross_2, q_31_5, ob, n_36, ob, if_neg (show ¬ Int32.ofNat 256 ≤ mI k by rw [show Int32.ofNat 256 = mI 256 from rfl, nle (by omega) (by omega)]; omega)]
      have eand : (mI k &&& mI (2 ^ m) = 0) = (k.testBit m = false) := by
        rw [mI_and, show (0 : Int32) = mI 0 from rfl, neq (Nat.lt_of_le_of_lt (Nat.and_le_left) (by omega)) (by decide)]
        exact propext and_p2
      by_cases g : k.testBit m = false
      · rw [if_pos (by rw [eand]; exact g), E_X3_markAcross_34, mI_s]
        refine ih (k + 1) u (by omega) hu (hma.c (fun p hp => ⟨fun z => z.imp id (fun q => ⟨by omega, q.2⟩), fun z => z.imp id (fun q => ⟨?_, q.2⟩)⟩))
        rcases Nat.lt_or_ge (p / 64 + 2 ^ m) k with a | a
        · exact a
        · have e : k = p / 64 + 2 ^ m := by omega
          have t := tb_addp (p := p / 64) (i := m) (by rw [← tbw]; exact q.2.1) m
          rw [← e, if_pos rfl, g] at t
          cases t
      · have gt : k.testBit m = true := by simpa using g
        have hge : 2 ^ m ≤ k := Nat.ge_two_pow_of_testBit gt
        have eb : (k - 2 ^ m).testBit m = false := by
          cases q : (k - 2 ^ m).testBit m
          · rfl
          · exfalso
            have e1 : k = 2 ^ m + (k - 2 ^ m) := by omega
            rw [e1, Nat.testBit_two_pow_add_eq, q] at gt
            cases gt
        have ex1 : k ^^^ 2 ^ m = k - 2 ^ m := by
          have := xor_p2 eb
          rw [show k - 2 ^ m + 2 ^ m = k by omega] at this
          exact this
        rw [if_neg (by rw [eand]; exact g), ob, mI_xor, ex1, ra_36 (by omega), ob, ob, ra_36 (by omega), ob, wa_36 (by omega), ob, E_X3_markAcross_34, mI_s]
        refine ih (k + 1) _ (by omega) (hu.pL (by decide)) (fun p hp => ?_)
        have hb : p % 64 < 64 := Nat.mod_lt _ (by decide)
        by_cases gp : p / 64 = k - 2 ^ m
        · have pf : p.testBit (m + 6) = false := by rw [tbw, gp]; exact eb
          have hmp := hma p hp
          rw [gp] at hmp
          have hm2 := hma (p + 2 ^ (m + 6)) (by omega)
          rw [show (p + 2 ^ (m + 6)) / 64 = k by omega, show (p + 2 ^ (m + 6)) % 64 = p % 64 by omega] at hm2
          have pt : (p + 2 ^ (m + 6)).testBit (m + 6) = true := by rw [tb_addp pf, if_pos rfl]
          show bl (up2 u.2.2.2.1 36 (k - 2 ^ m) _ 36 (p / 64)) (p % 64) = true ↔ _
          rw [up2_e rfl gp, bl_or, Bool.or_eq_true, hmp, hm2]
          constructor
          · rintro ((q | q) | (q | q))
            · exact Or.inl q
            · omega
            · exact Or.inr ⟨by omega, pf, q⟩
            · rw [pt] at q; exact absurd q.2.1 (by decide)
          · rintro (q | q)
            · exact Or.inl (Or.inl q)
            · exact Or.inr (Or.inl q.2.2)
        · show bl (up2 u.2.2.2.1 36 (k - 2 ^ m) _ 36 (p / 64)) (p % 64) = true ↔ _
          rw [up2_n (Or.inr gp), hma p hp]
          exact ⟨fun z => z.imp id (fun q => ⟨by omega, q.2⟩), fun z => z.imp id (fun q => ⟨by omega, q.2⟩)⟩
  obtain ⟨w', h1, h2⟩ := key 256 0 w (by omega) Fr.rf (hQ.c (fun p hp => ⟨Or.inl, fun z => z.elim id (fun q => absurd q.1 (by omega))⟩))
  refine ⟨w', ?_, h2⟩
  rw [E_X3_markAcross, z_31, ob, E_X3_markAcross_0]
  exact h1
theorem LM.fr {s : Int32} {M : Nat → Nat} {c k : Nat} {A B : List Nat} (h : LM w s M c k) (f : Fr A B w w') (hA : 35 ∉ A) : LM w' s M c k := by
  refine ⟨h.1, fun i hi => ?_, h.2.2⟩
  rw [f.a hA]
  exact h.2.1 i hi
theorem c_mark {s : Int32} {M : Nat → Nat} {c : Nat} (hK : KC P) (hQ : CQ w D F φ) (hM : LM w s M c F) (hc : c ≤ 14) : ∃ w', F_X3_markTogether (P.2.1 + 31) (mI c) (hp P w ex n sl) = some ((), hp P w' ex n sl) ∧ Fr [36] [] w w' ∧ MA w' (MKQ D φ M c c) := by
  have nl := nW_lt hQ.2.1
  have hp9 := p14 hc
  obtain ⟨w0, f1, f2, f3⟩ := j_fill36 (P := P) (w := w) (ex := ex) (n := n) (sl := sl)
  have stage : ∀ d k (u : sW), k + d = c → Fr [36] [] w u → MA u (MKQ D φ M c k) → ∃ w', R_X3_markTogether_54 (P.2.1 + 31) (mI c) (mI k) (hp P u ex n sl) = some ((), hp P w' ex n sl) ∧ Fr [36] [] w w' ∧ MA w' (MKQ D φ M c c) := by
    intro d
    induction d with
    | zero =>
      intro k u hk hu hm
      have hk : k = c := by omega
      subst hk
      refine ⟨u, ?_, hu, hm⟩
      rw [E_X3_markTogether_54]
      exact if_pos (by rw [nle (by omega) (by omega)]; exact Nat.le_refl _)
    | succ d ih =>
      intro k u hk hu hm
      rw [E_X3_markTogether_54, if_neg (show ¬ mI c ≤ mI k by rw [nle (by omega) (by omega)]; omega)]
      by_cases g : 6 ≤ k
      · rw [if_pos (show (6 : Int32) ≤ mI k by rw [nleR (by omega) (by decide)]; exact g)]
        obtain ⟨u1, a1, a2, a3⟩ := c_across (P := P) (ex := ex) (n := n) (sl := sl) (m := k - 6) (by omega) hm
        rw [show (1 : Int32) <<< ((mI k - 6) &&& 31) = mI (2 ^ (k - 6)) by rw [nsubL g]; exact on32_mI _ (by omega), a1, ob, E_X3_markTogether_83, mI_s]
        refine ih (k + 1) u1 (by omega) (hu.tr a2) (a3.c (fun p hp => ?_))
        rw [show k - 6 + 6 = k by omega]
        exact (MKQ_s (by omega)).symm
      · rw [if_neg (show ¬ (6 : Int32) ≤ mI k by rw [nleR (by omega) (by decide)]; exact g)]
        obtain ⟨u1, a1, a2, a3⟩ := c_within (P := P) (ex := ex) (n := n) (sl := sl) (i := k) hK (by omega) hm
        rw [a1, ob, E_X3_markTogether_83, mI_s]
        exact ih (k + 1) u1 (by omega) (hu.tr a2) (a3.c (fun p hp => (MKQ_s (by omega)).symm))
  have start : ∀ d k (u : sW), k + d = nW D → Fr [36] [] w u → MA u (fun p => ∃ wd, wd < k ∧ p = nbP (fun i => TR D wd (φ (M i))) c) → ∃ w', R_X3_markTogether_10 (P.2.1 + 31) (mI c) (mI k) (hp P u ex n sl) = some ((), hp P w' ex n sl) ∧ Fr [36] [] w w' ∧ MA w' (MKQ D φ M c c) := by
    intro d
    induction d with
    | zero =>
      intro k u hk hu hm
      have hk : k = nW D := by omega
      subst hk
      have hQu : CQ u D F φ := hQ.fr hu (by decide) (by decide) (by decide)
      rw [E_X3_markTogether_10, q_31_0, ob, c_worldCount hQu.2.2.2.1 hQu.1 hQu.2.1, ob]
      try dsimp only
      rw [if_pos (by rw [nle (by omega) (by omega)]; exact Nat.le_refl _)]
      exact stage c 0 u (by omega) hu (hm.c (fun p hp => (MKQ_0 hc hp).symm))
    | succ d ih =>
      intro k u hk hu hm
      have hQu : CQ u D F φ := hQ.fr hu (by decide) (by decide) (by decide)
      have hMu : LM u s M c F := hM.fr hu (by decide)
      have hlt : nbP (fun i => TR D k (φ (M i))) c < 2 ^ c := nbP_lt
      generalize hq : nbP (fun i => TR D k (φ (M i))) c = q at *
      rw [E_X3_markTogether_10, q_31_0, ob, c_worldCount hQu.2.2.2.1 hQu.1 hQu.2.1, ob]
      try dsimp only
      rw [if_neg (show ¬ mI (nW D) ≤ mI k by rw [nle (by omega) (by omega)]; omega), c_membersIn hQu hMu hc (by omega), ob, hq]
      try dsimp only
      rw [q_31_5, ob, mI_sh6 (by omega), mI_a63, ra_36 (by omega), ob, wa_36 (by omega), ob, mI_s]
      refine ih (k + 1) _ (by omega) (hu.pL (by decide)) (fun p hp => ?_)
      have hb : p % 64 < 64 := Nat.mod_lt _ (by decide)
      by_cases g : p / 64 = q / 64
      · have hmp := hm p hp
        rw [g] at hmp
        show bl (up2 u.2.2.2.1 36 (q / 64) _ 36 (p / 64)) (p % 64) = true ↔ _
        rw [up2_e rfl g, bl_or, Bool.or_eq_true, hmp, show (1 : Int64) <<< ((mI (q % 64)).toInt64 &&& 63) = on64 (q % 64) from rfl, bl_on (by omega) hb, decide_eq_true_iff]
        constructor
        · rintro (⟨wd, z1, z2⟩ | z)
          · exact ⟨wd, by omega, z2⟩
          · exact ⟨k, by omega, by rw [hq]; omega⟩
        · rintro ⟨wd, z1, z2⟩
          by_cases e : wd = k
          · rw [e, hq] at z2; exact Or.inr (by rw [z2])
          · exact Or.inl ⟨wd, by omega, z2⟩
      · show bl (up2 u.2.2.2.1 36 (q / 64) _ 36 (p / 64)) (p % 64) = true ↔ _
        rw [up2_n (Or.inr g), hm p hp]
        constructor
        · rintro ⟨wd, z1, z2⟩
          exact ⟨wd, by omega, z2⟩
        · rintro ⟨wd, z1, z2⟩
          by_cases e : wd = k
          · rw [e, hq] at z2; exact absurd (by rw [z2]) g
          · exact ⟨wd, by omega, z2⟩
  obtain ⟨w', h1, h2⟩ := start (nW D) 0 w0 (by omega) f2 (fun p hp => by
    rw [f3 _ (by omega), bl_0]
    exact ⟨(fun z => by cases z), (fun ⟨wd, z, _⟩ => absurd z (by omega))⟩)
  refine ⟨w', ?_, h2⟩
  rw [E_X3_markTogether, z_31, ob, E_X3_markTogether_0, q_31_5, ob, f1, ob]
  exact h1
end MRK
