/-! more: the search as a pure function; the class -/
/-- a row of worlds is not empty, and a goal holds in all of it -/
def EQ (D : Nat) (φ : Nat → List Nat) (g : Nat) (p : Nat → Prop) : Prop := (∃ wd, wd < nW D ∧ p wd) ∧ ∀ wd, wd < nW D → p wd → TR D wd (φ g)
def scan (f : Nat → Option Nat) : Nat → Nat → Option Nat
  | 0, _ => none
  | d + 1, x => match f x with
    | some v => some v
    | none => scan f d (x + 1)
/-- r formulas more, all below k -/
noncomputable def srch (D : Nat) (φ : Nat → List Nat) (g : Nat) : Nat → (Nat → Prop) → Nat → Option Nat
  | 0, p, _ => @ite _ (EQ D φ g p) (Classical.propDecidable _) (some 0) none
  | r + 1, p, k => scan (fun x => @ite _ (φ x = φ g) (Classical.propDecidable _) none ((srch D φ g r (fun wd => p wd ∧ TR D wd (φ x)) x).map (fun v => v ||| 2 ^ x))) k 0
def oI (o : Option Nat) : Int32 := match o with
  | none => -1
  | some v => mI v
theorem scan_lt {f : Nat → Option Nat} {B : Nat} (h : ∀ x v, f x = some v → v < B) : ∀ d x v, scan f d x = some v → v < B := by
  intro d
  induction d with
  | zero => intro x v h'; cases h'
  | succ d ih =>
    intro x v h'
    unfold scan at h'
    cases e : f x with
    | none => rw [e] at h'; exact ih (x + 1) v h'
    | some u => rw [e] at h'; cases h'; exact h x _ e
theorem scan_in {f f' : Nat → Option Nat} : ∀ d x, (∀ i, x ≤ i → i < x + d → f i = f' i) → scan f d x = scan f' d x := by
  intro d
  induction d with
  | zero => intro x h; rfl
  | succ d ih =>
    intro x h
    unfold scan
    rw [h x (Nat.le_refl _) (by omega), ih (x + 1) (fun i h1 h2 => h i (by omega) (by omega))]
theorem scan_bd {f : Nat → Option Nat} {B : Nat} : ∀ d x, (∀ i v, x ≤ i → i < x + d → f i = some v → v < B) → ∀ v, scan f d x = some v → v < B := by
  intro d
  induction d with
  | zero => intro x h v h'; cases h'
  | succ d ih =>
    intro x h v h'
    unfold scan at h'
    cases e : f x with
    | none => rw [e] at h'; exact ih (x + 1) (fun i v h1 h2 => h i v (by omega) (by omega)) v h'
    | some u => rw [e] at h'; cases h'; exact h x _ (Nat.le_refl _) (by omega) e
section SRC
variable {D g : Nat} {φ : Nat → List Nat}
theorem srch_lt : ∀ r p k v, srch D φ g r p k = some v → v < 2 ^ k := by
  intro r
  induction r with
  | zero =>
    intro p k v h
    unfold srch at h
    split at h
    · cases h; exact Nat.two_pow_pos k
    · cases h
  | succ r ih =>
    intro p k v h
    unfold srch at h
    refine scan_bd k 0 (fun i v h1 h2 h3 => ?_) v h
    split at h3
    · cases h3
    · cases e : srch D φ g r (fun wd => p wd ∧ TR D wd (φ i)) i with
      | none => rw [e] at h3; cases h3
      | some u =>
        rw [e] at h3
        cases h3
        have hu := ih _ _ _ e
        refine nat_lt_pow fun j hj => ?_
        rw [Nat.testBit_or, Bool.or_eq_true, Nat.testBit_two_pow, decide_eq_true_iff] at hj
        rcases hj with hj | hj
        · have := nat_tb_lt hu hj; omega
        · omega
theorem srch_e : ∀ r p k, (∀ wd, wd < nW D → ¬ p wd) → srch D φ g r p k = none := by
  intro r
  induction r with
  | zero =>
    intro p k h
    unfold srch
    rw [if_neg]
    rintro ⟨⟨wd, a, b⟩, -⟩
    exact h wd a b
  | succ r ih =>
    intro p k h
    unfold srch
    have e : ∀ d x, scan (fun x => @ite _ (φ x = φ g) (Classical.propDecidable _) none ((srch D φ g r (fun wd => p wd ∧ TR D wd (φ x)) x).map (fun v => v ||| 2 ^ x))) d x = none := by
      intro d
      induction d with
      | zero => intro x; rfl
      | succ d ih2 =>
        intro x
        unfold scan
        rw [ih _ _ (fun wd hw q => h wd hw q.1)]
        split
        · rename_i hx; split at hx <;> cases hx
        · exact ih2 (x + 1)
    exact e k 0
theorem srch_c : ∀ r (p q : Nat → Prop) k, (∀ wd, wd < nW D → (p wd ↔ q wd)) → srch D φ g r p k = srch D φ g r q k := by
  intro r
  induction r with
  | zero =>
    intro p q k h
    unfold srch
    have : EQ D φ g p ↔ EQ D φ g q := by
      unfold EQ
      constructor
      · rintro ⟨⟨wd, a, b⟩, c⟩
        exact ⟨⟨wd, a, (h wd a).mp b⟩, fun wd a b => c wd a ((h wd a).mpr b)⟩
      · rintro ⟨⟨wd, a, b⟩, c⟩
        exact ⟨⟨wd, a, (h wd a).mpr b⟩, fun wd a b => c wd a ((h wd a).mp b)⟩
    by_cases e : EQ D φ g p
    · rw [if_pos e, if_pos (this.mp e)]
    · rw [if_neg e, if_neg (fun z => e (this.mpr z))]
  | succ r ih =>
    intro p q k h
    unfold srch
    refine scan_in k 0 (fun i _ _ => ?_)
    rw [ih _ (fun wd => q wd ∧ TR D wd (φ i)) i (fun wd hw => by rw [h wd hw])]
theorem oI_m1 {r k : Nat} {p : Nat → Prop} (hk : k ≤ 30) : (oI (srch D φ g r p k) = -1) = (srch D φ g r p k = none) := by
  cases e : srch D φ g r p k with
  | none => exact propext ⟨fun _ => rfl, fun _ => rfl⟩
  | some v =>
    have hv := srch_lt _ _ _ _ e
    have : 2 ^ k ≤ 2 ^ 30 := Nat.pow_le_pow_right (by decide) hk
    exact propext ⟨fun z => absurd z (mI_m1 (by omega)), fun z => by cases z⟩
end SRC
section CMO
variable {P : sP} {S0 e : Nat} {w w' w1 w2 z u : sW} {ex : Nat → Option sC} {n sl D F L R U : Nat} {y : sLn} {φ : Nat → List Nat} {nf : Nat → Nat} {ρ : sRc} {nd : Nat → List Nat}
theorem c_proves {R a g : Nat} {p : Nat → Prop} (hR : R = 32 ∨ R = 33 ∨ R = 34) (hQ : CQ w D F φ) (ha : a < F) (hg : g < F) (hp9 : RH w D R p) : F_X3_provesWith (P.2.1 + 31) (P.2.1 + R) (mI a) (mI g) (hp P w ex n sl) = some (b2 (EQ D φ g (fun wd => p wd ∧ TR D wd (φ a))), hp P w ex n sl) := by
  obtain ⟨n1, n2, n3⟩ := nW_w hQ.1 hQ.2.1
  have key : ∀ d k (v : Int64), k + d = wds D → ((v = 0) = ∀ wd, wd < 64 * k → ¬ (p wd ∧ TR D wd (φ a))) → (∀ wd, wd < 64 * k → p wd ∧ TR D wd (φ a) → TR D wd (φ g)) → R_X3_provesWith_6 (P.2.1 + 31) (P.2.1 + R) (mI a) (mI g) v (mI k) (hp P w ex n sl) = some (b2 (EQ D φ g (fun wd => p wd ∧ TR D wd (φ a))), hp P w ex n sl) := by
    intro d
    induction d with
    | zero =>
      intro k v hk hv h2
      have hk : k = wds D := by omega
      subst hk
      rw [E_X3_provesWith_6, q_31_0, ob, c_words hQ.2.2.2.1 hQ.1 hQ.2.1, ob]
      try dsimp only
      rw [if_pos (by rw [nle (by omega) (by omega)]; exact Nat.le_refl _)]
      by_cases g0 : v = 0
      · rw [if_pos (by rw [z64]; exact g0), b2_f]
        rintro ⟨⟨wd, q1, q2⟩, -⟩
        rw [hv] at g0
        exact g0 wd (by omega) q2
      · rw [if_neg (by rw [z64]; exact g0), b2_t]
        rw [hv] at g0
        refine ⟨Classical.byContradiction fun q => g0 fun wd hw z => q ⟨wd, by omega, z⟩, fun wd hw z => h2 wd (by omega) z⟩
    | succ d ih =>
      intro k v hk hv h2
      rw [E_X3_provesWith_6, q_31_0, ob, c_words hQ.2.2.2.1 hQ.1 hQ.2.1, ob]
      try dsimp only
      rw [if_neg (show ¬ mI (wds D) ≤ mI k by rw [nle (by omega) (by omega)]; omega), ra_row hR (by omega), ob, q_31_0, ob, c_truthOf rfl rfl hQ.2.2.2.2.2 hQ.2.2.2.2.1 hQ.2.2.1 ha (by omega) n2, ob]
      try dsimp only
      rw [q_31_0, ob, c_truthOf rfl rfl hQ.2.2.2.2.2 hQ.2.2.2.2.1 hQ.2.2.1 hg (by omega) n2, ob, hp9 k (by omega)]
      try dsimp only
      have e1 : rowS p k &&& rowS (fun wd => TR D wd (φ a)) k = rowS (fun wd => p wd ∧ TR D wd (φ a)) k := m64_and
      have e2 : rowS (fun wd => p wd ∧ TR D wd (φ a)) k &&& (rowS (fun wd => TR D wd (φ g)) k ^^^ (-1)) = rowS (fun wd => (p wd ∧ TR D wd (φ a)) ∧ ¬ TR D wd (φ g)) k := by
        show _ &&& (mk64 (fun b => TR D (64 * k + b) (φ g)) 64 ^^^ (-1)) = _
        rw [m64_not]
        exact m64_and
      rw [e1, e2]
      by_cases g0 : ∀ b, b < 64 → ¬ ((p (64 * k + b) ∧ TR D (64 * k + b) (φ a)) ∧ ¬ TR D (64 * k + b) (φ g))
      · rw [if_pos (by rw [z64, row_0]; exact g0), mI_s]
        refine ih (k + 1) _ (by omega) ?_ (fun wd hw z => ?_)
        · have eor : (v ||| rowS (fun wd => p wd ∧ TR D wd (φ a)) k = 0) = (v = 0 ∧ rowS (fun wd => p wd ∧ TR D wd (φ a)) k = 0) := by
            apply propext
            constructor
            · intro h
              refine ⟨bl_ext fun i hi => ?_, bl_ext fun i hi => ?_⟩
              · have := congrArg (fun q => bl q i) h
                simp only [bl_or, bl_0, Bool.or_eq_false_iff] at this
                rw [this.1, bl_0]
              · have := congrArg (fun q => bl q i) h
                simp only [bl_or, bl_0, Bool.or_eq_false_iff] at this
                rw [this.2, bl_0]
            · rintro ⟨h1, h2⟩; rw [h1, h2]; rfl
          rw [eor, hv, row_0]
          apply propext
          constructor
          · rintro ⟨q1, q2⟩ wd hw
            rcases Nat.lt_or_ge wd (64 * k) with q | q
            · exact q1 wd q
            · have := q2 (wd - 64 * k) (by omega)
              rw [show 64 * k + (wd - 64 * k) = wd by omega] at this
              exact this
          · intro q
            exact ⟨fun wd hw => q wd (by omega), fun b hb => q _ (by omega)⟩
        · rcases Nat.lt_or_ge wd (64 * k) with q | q
          · exact h2 wd q z
          · have := g0 (wd - 64 * k) (by omega)
            rw [show 64 * k + (wd - 64 * k) = wd by omega] at this
            exact Classical.byContradiction fun t => this ⟨z, t⟩
      · rw [if_neg (by rw [z64, row_0]; exact g0), b2_f]
        rintro ⟨-, q⟩
        exact g0 fun b hb z => z.2 (q _ (by omega) z.1)
  rw [E_X3_provesWith, z_31, ob, E_X3_provesWith_0]
  exact key (wds D) 0 0 (by omega) (propext ⟨fun _ wd hw => absurd hw (by omega), fun _ => rfl⟩) (fun wd hw => absurd hw (by omega))
theorem c_isOpen {a g : Nat} (hC : CW w D F L U y φ nd nf) (ha : a < F) (hg : g < F) : F_X3_isOpenTo (P.2.1 + 31) (mI a) (mI g) (hp P w ex n sl) = some (b2 (¬ φ a = φ g), hp P w ex n sl) := by
  rw [E_X3_isOpenTo, z_31, ob, E_X3_isOpenTo_0, q_31_0, ob, c_nodeF hC ha, ob, q_31_0, ob, c_nodeF hC hg, ob]
  try dsimp only
  by_cases h : φ a = φ g
  · rw [if_pos (by rw [c_sameN hC ha hg]; exact h), b2_f (fun q => q h)]
  · rw [if_neg (by rw [c_sameN hC ha hg]; exact h), b2_t h]
theorem c_empty {R : Nat} {p : Nat → Prop} (hR : R = 32 ∨ R = 33 ∨ R = 34) (hQ : CQ w D F φ) (hp9 : RH w D R p) : F_X3_isEmpty (P.2.1 + 31) (P.2.1 + R) (hp P w ex n sl) = some (b2 (∀ wd, wd < nW D → ¬ p wd), hp P w ex n sl) := by
  have nl := nW_lt hQ.2.1
  obtain ⟨v, h1, h2⟩ := c_leastOf (P := P) (ex := ex) (n := n) (sl := sl) hR hQ.2.2.2.1 hQ.1 hQ.2.1 hp9
  rw [E_X3_isEmpty, z_31, ob, E_X3_isEmpty_0, h1, ob]
  try dsimp only
  have e := leastR_m1 (by omega) h2
  by_cases g : v = -1
  · rw [if_pos g, b2_t (by rw [← e]; exact g)]
  · rw [if_neg g, b2_f (by rw [← e]; exact g)]
theorem c_oneMore {R g k : Nat} {p : Nat → Prop} (hR : R = 32 ∨ R = 33 ∨ R = 34) (hC : CW w D F L U y φ nd nf) (hQ : CQ w D F φ) (hg : g < F) (hk : k ≤ F) (hp9 : RH w D R p) : F_X3_oneMore (P.2.1 + 31) (P.2.1 + R) (mI g) (mI k) (hp P w ex n sl) = some (oI (srch D φ g 1 p k), hp P w ex n sl) := by
  have h30 := hQ.2.2.1
  have key : ∀ d x, x + d = k → R_X3_oneMore_3 (P.2.1 + 31) (P.2.1 + R) (mI g) (mI k) (mI x) (hp P w ex n sl) = some (oI (scan (fun x => @ite _ (φ x = φ g) (Classical.propDecidable _) none ((srch D φ g 0 (fun wd => p wd ∧ TR D wd (φ x)) x).map (fun v => v ||| 2 ^ x))) d x), hp P w ex n sl) := by
    intro d
    induction d with
    | zero =>
      intro x hx
      have hx : x = k := by omega
      subst hx
      rw [E_X3_oneMore_3]
      exact if_pos (by rw [nle (by omega) (by omega)]; exact Nat.le_refl _)
    | succ d ih =>
      intro x hx
      rw [E_X3_oneMore_3, if_neg (show ¬ mI k ≤ mI x by rw [nle (by omega) (by omega)]; omega), c_isOpen hC (by omega) hg, ob]
      try dsimp only
      unfold scan
      try dsimp only
      by_cases h1 : φ x = φ g
      · rw [if_pos (b2_0.mpr (fun q => q h1)), if_pos h1, E_X3_oneMore_35, mI_s]
        exact ih (x + 1) (by omega)
      · rw [if_neg (fun q => b2_0.mp q h1), if_neg h1, c_proves hR hQ (by omega) hg hp9, ob]
        try dsimp only
        unfold srch
        by_cases h2 : EQ D φ g (fun wd => p wd ∧ TR D wd (φ x))
        · rw [if_neg (fun q => b2_0.mp q h2), if_pos h2]
          show _ = some (mI (0 ||| 2 ^ x), _)
          rw [Nat.zero_or]
          exact congrArg (fun q => some (q, _)) (on32_mI x (by omega))
        · rw [if_pos (b2_0.mpr h2), if_neg h2, E_X3_oneMore_35, mI_s]
          have := ih (x + 1) (by omega)
          unfold srch at this
          exact this
  rw [E_X3_oneMore, z_31, ob, E_X3_oneMore_0]
  have := key k 0 (by omega)
  unfold srch
  exact this
theorem RH.fr {R : Nat} {p : Nat → Prop} {A B : List Nat} (h : RH w D R p) (f : Fr A B w w') (hR : R ∉ A) : RH w' D R p := by
  unfold RH
  rw [f.l hR]
  exact h
theorem f33c (f : Fr [33] [] w u) (hC : CW w D F L U y φ nd nf) : CW u D F L U y φ nd nf := hC.fr f (by decide) (by decide) (by decide) (by decide) (by decide) (by decide) (by decide) (by decide) (by decide) (by decide) (by decide)
theorem f34c (f : Fr [33, 34] [] w u) (hC : CW w D F L U y φ nd nf) : CW u D F L U y φ nd nf := hC.fr f (by decide) (by decide) (by decide) (by decide) (by decide) (by decide) (by decide) (by decide) (by decide) (by decide) (by decide)
theorem c_twoMore {R g k : Nat} {p : Nat → Prop} (hR : R = 32 ∨ R = 34) (hC : CW w D F L U y φ nd nf) (hQ : CQ w D F φ) (hg : g < F) (hk : k ≤ F) (hp9 : RH w D R p) : ∃ w', F_X3_twoMore (P.2.1 + 31) (P.2.1 + R) (mI g) (mI k) (hp P w ex n sl) = some (oI (srch D φ g 2 p k), hp P w' ex n sl) ∧ Fr [33] [] w w' := by
  have h30 := hQ.2.2.1
  have key : ∀ d x (u : sW), x + d = k → Fr [33] [] w u → ∃ w', R_X3_twoMore_3 (P.2.1 + 31) (P.2.1 + R) (mI g) (mI k) (mI x) (hp P u ex n sl) = some (oI (scan (fun x => @ite _ (φ x = φ g) (Classical.propDecidable _) none ((srch D φ g 1 (fun wd => p wd ∧ TR D wd (φ x)) x).map (fun v => v ||| 2 ^ x))) d x), hp P w' ex n sl) ∧ Fr [33] [] w w' := by
    intro d
    induction d with
    | zero =>
      intro x u hx hu
      have hx : x = k := by omega
      subst hx
      refine ⟨u, ?_, hu⟩
      rw [E_X3_twoMore_3]
      exact if_pos (by rw [nle (by omega) (by omega)]; exact Nat.le_refl _)
    | succ d ih =>
      intro x u hx hu
      have hCu := f33c hu hC
      have hQu : CQ u D F φ := hQ.fr hu (by decide) (by decide) (by decide)
      rw [E_X3_twoMore_3, if_neg (show ¬ mI k ≤ mI x by rw [nle (by omega) (by omega)]; omega), c_isOpen hCu (by omega) hg, ob]
      try dsimp only
      unfold scan
      try dsimp only
      by_cases h1 : φ x = φ g
      · rw [if_pos (b2_0.mpr (fun q => q h1)), if_pos h1, E_X3_twoMore_72, mI_s]
        exact ih (x + 1) u (by omega) hu
      · rw [if_neg (fun q => b2_0.mp q h1), if_neg h1]
        obtain ⟨u1, a1, a2, a3⟩ := c_narrow (P := P) (ex := ex) (n := n) (sl := sl) (w := u) (R := R) (R' := 33) (x := mI x) rfl (by omega) (by omega) hQu.2.2.2.1 hQu.1 hQu.2.1 hQu.2.2.2.2.2 hQu.2.2.2.2.1 hQu.2.2.1 (show x < F by omega) (hp9.fr hu (by rcases hR with q | q <;> rw [q] <;> decide))
        have hu1 := hu.tr a2
        have hCu1 := f33c hu1 hC
        have hQu1 : CQ u1 D F φ := hQ.fr hu1 (by decide) (by decide) (by decide)
        rw [q_31_2, ob, a1, ob]
        try dsimp only
        rw [q_31_2, ob, c_empty (R := 33) (by omega) hQu1 a3, ob]
        try dsimp only
        have fin : ∀ o : Option Nat, o = srch D φ g 1 (fun wd => p wd ∧ TR D wd (φ x)) x → ∃ w', R_X3_twoMore_56 (P.2.1 + 31) (P.2.1 + R) (mI g) (mI k) (mI x) (oI o) (hp P u1 ex n sl) = some (oI (match (srch D φ g 1 (fun wd => p wd ∧ TR D wd (φ x)) x).map (fun v => v ||| 2 ^ x) with | some v => some v | none => scan (fun x => @ite _ (φ x = φ g) (Classical.propDecidable _) none ((srch D φ g 1 (fun wd => p wd ∧ TR D wd (φ x)) x).map (fun v => v ||| 2 ^ x))) d (x + 1)), hp P w' ex n sl) ∧ Fr [33] [] w w' := by
          intro o ho
          rw [← ho, E_X3_twoMore_56]
          cases o with
          | none =>
            rw [if_pos (show oI none = -1 from rfl), E_X3_twoMore_72, mI_s]
            exact ih (x + 1) u1 (by omega) hu1
          | some v =>
            have hv := srch_lt _ _ _ _ ho.symm
            have : 2 ^ x ≤ 2 ^ 30 := Nat.pow_le_pow_right (by decide) (by omega)
            refine ⟨u1, ?_, hu1⟩
            rw [if_neg (show ¬ oI (some v) = -1 from mI_m1 (by omega))]
            show some (mI v ||| on32 x, _) = some (mI (v ||| 2 ^ x), _)
            rw [on32_mI x (by omega), mI_or]
        by_cases h2 : ∀ wd, wd < nW D → ¬ (p wd ∧ TR D wd (φ x))
        · rw [if_neg (fun q => b2_0.mp q h2)]
          exact fin none (srch_e _ _ _ h2).symm
        · rw [if_pos (b2_0.mpr h2), q_31_2, ob, c_oneMore (R := 33) (by omega) hCu1 hQu1 hg (by omega) a3, ob]
          exact fin _ rfl
  obtain ⟨w', h1, h2⟩ := key k 0 w (by omega) Fr.rf
  refine ⟨w', ?_, h2⟩
  rw [E_X3_twoMore, z_31, ob, E_X3_twoMore_0]
  unfold srch
  exact h1
theorem c_threeMore {g : Nat} {p : Nat → Prop} (hC : CW w D F L U y φ nd nf) (hQ : CQ w D F φ) (hg : g < F) (hp9 : RH w D 32 p) : ∃ w', F_X3_threeMore (P.2.1 + 31) (mI g) (hp P w ex n sl) = some (oI (srch D φ g 3 p F), hp P w' ex n sl) ∧ Fr [33, 34] [] w w' := by
  have h30 := hQ.2.2.1
  have key : ∀ d x (u : sW), x + d = F → Fr [33, 34] [] w u → ∃ w', R_X3_threeMore_2 (P.2.1 + 31) (mI g) (mI x) (hp P u ex n sl) = some (oI (scan (fun x => @ite _ (φ x = φ g) (Classical.propDecidable _) none ((srch D φ g 2 (fun wd => p wd ∧ TR D wd (φ x)) x).map (fun v => v ||| 2 ^ x))) d x), hp P w' ex n sl) ∧ Fr [33, 34] [] w w' := by
    intro d
    induction d with
    | zero =>
      intro x u hx hu
      have hx : x = F := by omega
      subst hx
      refine ⟨u, ?_, hu⟩
      rw [E_X3_threeMore_2, q_31_0, ob, q_9_2, ob, hu.i (k := 9) (j := 2) (by decide), hQ.2.2.2.2.1]
      exact if_pos (by rw [nle (by omega) (by omega)]; exact Nat.le_refl _)
    | succ d ih =>
      intro x u hx hu
      have hCu := f34c hu hC
      have hQu : CQ u D F φ := hQ.fr hu (by decide) (by decide) (by decide)
      rw [E_X3_threeMore_2, q_31_0, ob, q_9_2, ob, hQu.2.2.2.2.1, if_neg (show ¬ mI F ≤ mI x by rw [nle (by omega) (by omega)]; omega), c_isOpen hCu (by omega) hg, ob]
      try dsimp only
      unfold scan
      try dsimp only
      by_cases h1 : φ x = φ g
      · rw [if_pos (b2_0.mpr (fun q => q h1)), if_pos h1, E_X3_threeMore_72, mI_s]
        exact ih (x + 1) u (by omega) hu
      · rw [if_neg (fun q => b2_0.mp q h1), if_neg h1]
        obtain ⟨u1, a1, a2, a3⟩ := c_narrow (P := P) (ex := ex) (n := n) (sl := sl) (w := u) (R := 32) (R' := 34) (x := mI x) rfl (by omega) (by omega) hQu.2.2.2.1 hQu.1 hQu.2.1 hQu.2.2.2.2.2 hQu.2.2.2.2.1 hQu.2.2.1 (show x < F by omega) (hp9.fr hu (by decide))
        have hu1 := hu.tr (a2.mo (by decide) (by decide))
        have hCu1 := f34c hu1 hC
        have hQu1 : CQ u1 D F φ := hQ.fr hu1 (by decide) (by decide) (by decide)
        rw [q_31_1, ob, q_31_3, ob, a1, ob]
        try dsimp only
        rw [q_31_3, ob, c_empty (R := 34) (by omega) hQu1 a3, ob]
        try dsimp only
        have fin : ∀ (u2 : sW) (o : Option Nat), Fr [33, 34] [] w u2 → o = srch D φ g 2 (fun wd => p wd ∧ TR D wd (φ x)) x → ∃ w', R_X3_threeMore_60 (P.2.1 + 31) (mI g) (mI x) (oI o) (hp P u2 ex n sl) = some (oI (match (srch D φ g 2 (fun wd => p wd ∧ TR D wd (φ x)) x).map (fun v => v ||| 2 ^ x) with | some v => some v | none => scan (fun x => @ite _ (φ x = φ g) (Classical.propDecidable _) none ((srch D φ g 2 (fun wd => p wd ∧ TR D wd (φ x)) x).map (fun v => v ||| 2 ^ x))) d (x + 1)), hp P w' ex n sl) ∧ Fr [33, 34] [] w w' := by
          intro u2 o hu2 ho
          rw [← ho, E_X3_threeMore_60]
          cases o with
          | none =>
            rw [if_pos (show oI none = -1 from rfl), E_X3_threeMore_72, mI_s]
            exact ih (x + 1) u2 (by omega) hu2
          | some v =>
            have hv := srch_lt _ _ _ _ ho.symm
            have : 2 ^ x ≤ 2 ^ 30 := Nat.pow_le_pow_right (by decide) (by omega)
            refine ⟨u2, ?_, hu2⟩
            rw [if_neg (show ¬ oI (some v) = -1 from mI_m1 (by omega))]
            show some (mI v ||| on32 x, _) = some (mI (v ||| 2 ^ x), _)
            rw [on32_mI x (by omega), mI_or]
        by_cases h2 : ∀ wd, wd < nW D → ¬ (p wd ∧ TR D wd (φ x))
        · rw [if_neg (fun q => b2_0.mp q h2)]
          exact fin u1 none hu1 (srch_e _ _ _ h2).symm
        · obtain ⟨u2, c1, c2⟩ := c_twoMore (P := P) (ex := ex) (n := n) (sl := sl) (R := 34) (k := x) (by omega) hCu1 hQu1 hg (by omega) a3
          rw [if_pos (b2_0.mpr h2), q_31_3, ob, c1, ob]
          exact fin u2 _ (hu1.tr (c2.mo (by decide) (by decide))) rfl
  obtain ⟨w', h1, h2⟩ := key F 0 w (by omega) Fr.rf
  refine ⟨w', ?_, h2⟩
  rw [E_X3_threeMore, z_31, ob, E_X3_threeMore_0]
  unfold srch
  exact h1
/-- none, one, two or three more -/
noncomputable def srcT (D F : Nat) (φ : Nat → List Nat) (g : Nat) (p : Nat → Prop) : Option Nat := match srch D φ g 0 p F with
  | some v => some v
  | none => match srch D φ g 1 p F with
    | some v => some v
    | none => match srch D φ g 2 p F with
      | some v => some v
      | none => srch D φ g 3 p F
theorem c_fewestMore {g : Nat} {s : Int32} (hC : CW w D F L U y φ nd nf) (hQ : CQ w D F φ) (hg : g < F) : ∃ w', F_X3_fewestMore (P.2.1 + 31) s (mI g) (hp P w ex n sl) = some (oI (srcT D F φ g (allT D F φ s)), hp P w' ex n sl) ∧ Fr [32, 33, 34] [] w w' := by
  have h30 := hQ.2.2.1
  have nl := nW_lt hQ.2.1
  obtain ⟨w1, a1, a2, a3⟩ := c_gather (P := P) (ex := ex) (n := n) (sl := sl) (w := w) (R := 32) (s := s) (by omega) hQ.2.2.2.1 hQ.1 hQ.2.1 hQ.2.2.2.2.2 hQ.2.2.2.2.1 hQ.2.2.1
  have f1 : Fr [32, 33, 34] [] w w1 := a2.mo (by decide) (by decide)
  have hC1 : CW w1 D F L U y φ nd nf := hC.fr f1 (by decide) (by decide) (by decide) (by decide) (by decide) (by decide) (by decide) (by decide) (by decide) (by decide) (by decide)
  have hQ1 : CQ w1 D F φ := hQ.fr f1 (by decide) (by decide) (by decide)
  have head : F_X3_fewestMore (P.2.1 + 31) s (mI g) (hp P w ex n sl) = (if b2 (∀ wd, wd < nW D → ¬ allT D F φ s wd) = 0 then ((F_X3_leastOutside (P.2.1 + 31) (P.2.1 + 32) (mI g) (hp P w1 ex n sl)).bind fun q6 => if q6.1 = (-1) then (some (0, q6.2)) else ((s_fr q6.2 (P.2.1 + 31) 3 1).bind fun x7 => (s_fr q6.2 (P.2.1 + 31) 3 0).bind fun x8 => (s_fi q6.2 x8 1 2).bind fun x9 => (F_X3_oneMore (P.2.1 + 31) x7 (mI g) x9 q6.2).bind fun q10 => if q10.1 = (-1) then ((s_fr q10.2 (P.2.1 + 31) 3 1).bind fun x11 => (s_fr q10.2 (P.2.1 + 31) 3 0).bind fun x12 => (s_fi q10.2 x12 1 2).bind fun x13 => (F_X3_twoMore (P.2.1 + 31) x11 (mI g) x13 q10.2).bind fun q14 => R_X3_fewestMore_76 (P.2.1 + 31) (mI g) q14.1 q14.2) else (R_X3_fewestMore_76 (P.2.1 + 31) (mI g) q10.1 q10.2))) else (some ((-1), hp P w1 ex n sl))) := by
    rw [E_X3_fewestMore, z_31, ob, E_X3_fewestMore_0, q_31_1, ob, a1, ob]
    try dsimp only
    rw [q_31_1, ob, c_empty (R := 32) (by omega) hQ1 a3, ob]
    try dsimp only
    rw [q_31_1, ob]
  rw [head]
  by_cases hE : ∀ wd, wd < nW D → ¬ allT D F φ s wd
  · refine ⟨w1, ?_, f1⟩
    rw [if_neg (fun q => b2_0.mp q hE)]
    unfold srcT
    rw [srch_e 0 _ _ hE, srch_e 1 _ _ hE, srch_e 2 _ _ hE, srch_e 3 _ _ hE]
    rfl
  · obtain ⟨v, b1, b2'⟩ := c_leastOutside (P := P) (ex := ex) (n := n) (sl := sl) (w := w1) (R := 32) (x := mI g) (f := g) rfl (by omega) hQ1.2.2.2.1 hQ1.1 hQ1.2.1 hQ1.2.2.2.2.2 hQ1.2.2.2.2.1 hQ1.2.2.1 hg a3
    have ev := leastR_m1 (by omega) b2'
    rw [if_pos (b2_0.mpr hE), b1, ob]
    try dsimp only
    by_cases hv : v = -1
    · refine ⟨w1, ?_, f1⟩
      rw [if_pos hv]
      rw [ev] at hv
      have hEQ : EQ D φ g (allT D F φ s) := ⟨Classical.byContradiction fun q => hE fun wd hw z => q ⟨wd, hw, z⟩, fun wd hw z => Classical.byContradiction fun t => hv wd hw ⟨z, t⟩⟩
      have e0 : srch D φ g 0 (allT D F φ s) F = some 0 := if_pos hEQ
      unfold srcT
      rw [e0]
      rfl
    · rw [if_neg hv]
      rw [ev] at hv
      have e0 : srch D φ g 0 (allT D F φ s) F = none := if_neg (fun q => hv fun wd hw z => z.2 (q.2 wd hw z.1))
      rw [q_31_1, ob, q_31_0, ob, q_9_2, ob, hQ1.2.2.2.2.1, c_oneMore (R := 32) (by omega) hC1 hQ1 hg (Nat.le_refl _) a3, ob]
      try dsimp only
      have done : ∀ (u : sW) (v : Nat), Fr [32, 33, 34] [] w u → v < 2 ^ 30 → srcT D F φ g (allT D F φ s) = some v → ∃ w', R_X3_fewestMore_76 (P.2.1 + 31) (mI g) (mI v) (hp P u ex n sl) = some (oI (srcT D F φ g (allT D F φ s)), hp P w' ex n sl) ∧ Fr [32, 33, 34] [] w w' := by
        intro u v hu hv he
        refine ⟨u, ?_, hu⟩
        rw [E_X3_fewestMore_76, if_neg (mI_m1 (by omega)), he]
        rfl
      have h2p : 2 ^ F ≤ 2 ^ 30 := Nat.pow_le_pow_right (by decide) h30
      cases e1 : srch D φ g 1 (allT D F φ s) F with
      | some v1 =>
        have hv1 := srch_lt _ _ _ _ e1
        rw [if_neg (show ¬ oI (some v1) = -1 from mI_m1 (by omega))]
        exact done w1 v1 f1 (by omega) (by unfold srcT; rw [e0, e1])
      | none =>
        obtain ⟨w2, c1, c2⟩ := c_twoMore (P := P) (ex := ex) (n := n) (sl := sl) (R := 32) (k := F) (by omega) hC1 hQ1 hg (Nat.le_refl _) a3
        have f2 := f1.tr (c2.mo (A' := [32, 33, 34]) (B' := []) (by decide) (by decide))
        rw [if_pos (show oI none = -1 from rfl), q_31_1, ob, q_31_0, ob, q_9_2, ob, hQ1.2.2.2.2.1, c1, ob]
        try dsimp only
        cases e2 : srch D φ g 2 (allT D F φ s) F with
        | some v2 =>
          have hv2 := srch_lt _ _ _ _ e2
          exact done w2 v2 f2 (by omega) (by unfold srcT; rw [e0, e1, e2])
        | none =>
          have hC2 : CW w2 D F L U y φ nd nf := hC.fr f2 (by decide) (by decide) (by decide) (by decide) (by decide) (by decide) (by decide) (by decide) (by decide) (by decide) (by decide)
          have hQ2 : CQ w2 D F φ := hQ.fr f2 (by decide) (by decide) (by decide)
          obtain ⟨w3, d1, d2⟩ := c_threeMore (P := P) (ex := ex) (n := n) (sl := sl) hC2 hQ2 hg (a3.fr c2 (by decide))
          refine ⟨w3, ?_, f2.tr (d2.mo (by decide) (by decide))⟩
          rw [E_X3_fewestMore_76, if_pos (show oI none = -1 from rfl), d1, ob]
          unfold srcT
          rw [e0, e1, e2]
end CMO
