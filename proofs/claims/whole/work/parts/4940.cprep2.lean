/-! the class prepares as a whole -/
theorem cnt_up {p : Nat → Prop} {i : Nat} : ∀ d, cntP p i ≤ cntP p (i + d) := by
  intro d
  induction d with
  | zero => exact Nat.le_refl _
  | succ d ih =>
    refine Nat.le_trans ih ?_
    show _ ≤ cntP p (i + d + 1)
    by_cases g : p (i + d)
    · rw [cntP_t g]; omega
    · rw [cntP_f g]; exact Nat.le_refl _
theorem cnt_two {p q : Nat → Prop} (h : ∀ i, p i → ¬ q i) : ∀ k, cntP p k + cntP q k ≤ k := by
  intro k
  induction k with
  | zero => exact Nat.le_refl _
  | succ k ih =>
    by_cases g : p k
    · rw [cntP_t g, cntP_f (h k g)]; omega
    · rw [cntP_f g]
      by_cases g' : q k
      · rw [cntP_t g']; omega
      · rw [cntP_f g']; omega
theorem mul_400 {a b : Nat} (h : a + b ≤ 40) : a * b ≤ 400 := by
  have h1 : ∀ b, b < 41 → (40 - b) * b ≤ 400 := by decide
  exact Nat.le_trans (Nat.mul_le_mul_right b (show a ≤ 40 - b by omega)) (h1 b (by omega))
section CPP
variable {P : sP} {S0 e : Nat} {w w' u u' v : sW} {ex : Nat → Option sC} {n sl D F L R U k f cu : Nat} {y : sLn} {φ : Nat → List Nat} {nf ν : Nat → Nat} {nd : Nat → List Nat} {S : List (List Nat)} {A : List Nat} {Z : List zT}
/-- the steps of all places -/
theorem c_allSteps (hE : EV u U D nd S ν A) (hZ : SZ u []) : ∃ u' Z, R_X4_prepare_104 (P.2.1 + 38) 0 (hp P u ex n sl) = some ((), hp P u' ex n sl) ∧ Fr [43] [3810] u u' ∧ SZ u' Z ∧ ∀ z, z ∈ Z ↔ ∃ k, k < S.length ∧ GZ D S A k z := by
  have h40 := hE.2.1.2.1.1
  have hAB := mul_400 (Nat.le_trans (cnt_two (p := fun i => opO S i = 14) (q := fun i => opO S i = 15) (fun i h g => by rw [h] at g; exact absurd g (by decide)) S.length) h40)
  have lp : ∀ d k (v : sW) Z, k + d = S.length → Fr [43] [3810] u v → SZ v Z → Z.length ≤ 4 * k + cntP (fun i => opO S i = 14) k * cntP (fun i => opO S i = 15) S.length → (∀ z, z ∈ Z ↔ ∃ k', k' < k ∧ GZ D S A k' z) → ∃ u' Z, R_X4_prepare_104 (P.2.1 + 38) (mI k) (hp P v ex n sl) = some ((), hp P u' ex n sl) ∧ Fr [43] [3810] u u' ∧ SZ u' Z ∧ ∀ z, z ∈ Z ↔ ∃ k, k < S.length ∧ GZ D S A k z := by
    intro d
    induction d with
    | zero =>
      intro k v Z hk hv hZ hl hz
      have hk' : k = S.length := by omega
      subst hk'
      refine ⟨v, Z, ?_, hv, hZ, hz⟩
      rw [E_X4_prepare_104, q_38_8, ob, (hE.fr hv).2.1.1, if_pos (by rw [nle (by omega) (by omega)]; exact Nat.le_refl _)]
    | succ d ih =>
      intro k v Z hk hv hZ hl hz
      have c1 : cntP (fun i => opO S i = 14) (k + 1) ≤ cntP (fun i => opO S i = 14) S.length := by
        have := cnt_up (p := fun i => opO S i = 14) (i := k + 1) d
        rwa [show k + 1 + d = S.length by omega] at this
      have c2 : cntP (fun i => opO S i = 14) (k + 1) * cntP (fun i => opO S i = 15) S.length ≤ 400 := Nat.le_trans (Nat.mul_le_mul_right _ c1) hAB
      have c3 : 4 * k + cntP (fun i => opO S i = 14) k * cntP (fun i => opO S i = 15) S.length + bdZ S k ≤ 4 * (k + 1) + cntP (fun i => opO S i = 14) (k + 1) * cntP (fun i => opO S i = 15) S.length := by
        unfold bdZ
        by_cases g : opO S k = 14
        · rw [if_pos g, cntP_t (p := fun i => opO S i = 14) g, Nat.add_mul, Nat.one_mul]; omega
        · rw [if_neg g, cntP_f (p := fun i => opO S i = 14) g]; omega
      obtain ⟨v1, X, a1, a2, a3, a4, a5⟩ := c_listSteps (P := P) (ex := ex) (n := n) (sl := sl) (hE.fr hv) hZ (k := k) (by omega) (by omega)
      obtain ⟨u', Z', b1, b2', b3, b4⟩ := ih (k + 1) v1 (Z ++ X) (by omega) (hv.tr a2) a3 (by rw [List.length_append]; omega) (fun z => by
        rw [List.mem_append, hz, a4]
        constructor
        · rintro (⟨k', h1, h2⟩ | h)
          · exact ⟨k', by omega, h2⟩
          · exact ⟨k, by omega, h⟩
        · rintro ⟨k', h1, h2⟩
          by_cases g : k' = k
          · rw [g] at h2; exact Or.inr h2
          · exact Or.inl ⟨k', by omega, h2⟩)
      refine ⟨u', Z', ?_, b2', b3, b4⟩
      rw [E_X4_prepare_104, q_38_8, ob, (hE.fr hv).2.1.1, if_neg (show ¬ mI S.length ≤ mI k by rw [nle (by omega) (by omega)]; omega), a1, ob]
      try dsimp only
      rw [mI_s]
      exact b1
  exact lp S.length 0 u [] (by omega) Fr.rf hZ (by simp) (fun z => by simp)
/-- the assumed of all places -/
theorem c_allAssumed (hN : NT u U D nd) (hL : LN u U nd S ν) (hA : ASc u []) : ∃ u', R_X4_prepare_78 (P.2.1 + 38) 0 (hp P u ex n sl) = R_X4_prepare_104 (P.2.1 + 38) 0 (hp P u' ex n sl) ∧ Fr [42] [3809] u u' ∧ ASc u' (asm S S.length) := by
  have h40 := hL.2.1.1
  have lp : ∀ d k (v : sW), k + d = S.length → Fr [42] [3809] u v → ASc v (asm S k) → ∃ u', R_X4_prepare_78 (P.2.1 + 38) (mI k) (hp P v ex n sl) = R_X4_prepare_104 (P.2.1 + 38) 0 (hp P u' ex n sl) ∧ Fr [42] [3809] u u' ∧ ASc u' (asm S S.length) := by
    intro d
    induction d with
    | zero =>
      intro k v hk hv hA
      have hk' : k = S.length := by omega
      subst hk'
      refine ⟨v, ?_, hv, hA⟩
      rw [E_X4_prepare_78, q_38_8, ob, hv.i (k := 38) (j := 8) (by decide), hL.1, if_pos (by rw [nle (by omega) (by omega)]; exact Nat.le_refl _)]
    | succ d ih =>
      intro k v hk hv hA
      have hNv : NT v U D nd := hN.fr hv (by decide) (by decide) (by decide) (by decide) (by decide) (by decide)
      have hLv := hL.fr hv (by decide) (by decide) (by decide)
      obtain ⟨v1, a1, a2, a3⟩ := c_listAssumed (P := P) (ex := ex) (n := n) (sl := sl) hNv hLv (k := k) (by omega) hA
      obtain ⟨u', b1, b2', b3⟩ := ih (k + 1) v1 (by omega) (hv.tr a2) a3
      refine ⟨u', ?_, b2', b3⟩
      rw [E_X4_prepare_78, q_38_8, ob, hLv.1, if_neg (show ¬ mI S.length ≤ mI k by rw [nle (by omega) (by omega)]; omega), q_38_2, ob, ra_39 (by omega), ob, (hLv.2.2 k (by omega)).1, a1, ob]
      try dsimp only
      rw [mI_s]
      exact b1
  exact lp S.length 0 u (by omega) Fr.rf hA
/-- all formulas that are told -/
theorem c_lookTold {told : Int32} (hC : CW w D F L U y φ nd nf) : ∀ d m (v : sW) S, m + d = F → Fr lkA lkB w v → LC v U nd S → v.1 38 11 = told → ∃ v', R_X4_prepare_35 (P.2.1 + 38) (mI m) (hp P v ex n sl) = R_X4_prepare_78 (P.2.1 + 38) 0 (hp P v' ex n sl) ∧ Fr lkA lkB w v' ∧ LC v' U nd ((((List.range' m d).filter (fun f => bt told f)).map φ).foldl (LK D) S) ∧ ∀ j, j ≠ 8 → v'.1 38 j = v.1 38 j := by
  have hF := hC.2.2.1
  have hN := hC.2.2.2.2.2.2.2.2.2.1
  intro d
  induction d with
  | zero =>
    intro m v S hm hv hL ht
    have hCv := fCW hv (by decide) hC
    refine ⟨v, ?_, hv, hL, fun _ _ => rfl⟩
    rw [E_X4_prepare_35, q_38_1, ob, q_9_2, ob, hCv.2.2.2.2.2.1, if_pos (by rw [nle (by omega) (by omega)]; omega)]
  | succ d ih =>
    intro m v S hm hv hL ht
    have hCv := fCW hv (by decide) hC
    obtain ⟨g1, g2, g3⟩ := hC.2.2.2.2.2.2.2.2.2.2 m (by omega)
    rw [E_X4_prepare_35, q_38_1, ob, q_9_2, ob, hCv.2.2.2.2.2.1, if_neg (show ¬ mI F ≤ mI m by rw [nle (by omega) (by omega)]; omega), q_38_11, ob, ht]
    by_cases hb : bt told m = true
    · obtain ⟨v1, a1, a2, a3, a4⟩ := c_look (P := P) (ex := ex) (n := n) (sl := sl) hC 40 (nf m) 63 0 v S (nd_ok hN _ g1).2.1 g1 (by decide) (by decide) hv hL
      rw [g3] at a3
      obtain ⟨v', b1, b2', b3, b4⟩ := ih (m + 1) v1 _ (by omega) a2 a3 ((a4 11 (by decide)).trans ht)
      refine ⟨v', ?_, b2', ?_, fun j hj => (b4 j hj).trans (a4 j hj)⟩
      · rw [if_neg (by rw [t32 (by omega), hb]; decide), ob, c_nodeF hCv (by omega), ob]
        try dsimp only
        have a1' : F_X4_lookAt 64 (P.2.1 + 38) (mI (nf m)) 0 (hp P v ex n sl) = some ((), hp P v1 ex n sl) := a1
        rw [a1', ob, E_X4_prepare_70, mI_s]
        exact b1
      · rw [List.range'_succ, List.filter_cons_of_pos (by simpa using hb), List.map_cons, List.foldl_cons]
        exact b3
    · obtain ⟨v', b1, b2', b3, b4⟩ := ih (m + 1) v S (by omega) hv hL ht
      refine ⟨v', ?_, b2', ?_, b4⟩
      · rw [if_pos (by rw [t32 (by omega)]; simpa using hb), E_X4_prepare_70, mI_s]
        exact b1
      · rw [List.range'_succ, List.filter_cons_of_neg (by simpa using hb)]
        exact b3
theorem c_prepare {told x1 x2 : Int32} (hx1 : x1 = mI cu) (hx2 : x2 = mI (nf f)) (hC : CW u D F L U y φ nd nf) (hcu : cu < 4) (hf : f < F) (ht : u.2.2.1 12 cu = told) : ∃ u' ν Z, F_X4_prepare (P.2.1 + 38) x1 x2 (hp P u ex n sl) = some ((), hp P u' ex n sl) ∧ Fr [39, 40, 42, 43] lkB u u' ∧ u'.1 38 11 = told ∧ EV u' U D nd (LA D F φ told f) ν (asm (LA D F φ told f) (LA D F φ told f).length) ∧ SZ u' Z ∧ ∀ z, z ∈ Z ↔ ∃ k, k < (LA D F φ told f).length ∧ GZ D (LA D F φ told f) (asm (LA D F φ told f) (LA D F φ told f).length) k z := by
  subst hx1 hx2
  have hN := hC.2.2.2.2.2.2.2.2.2.1
  obtain ⟨g1, g2, g3⟩ := hC.2.2.2.2.2.2.2.2.2.2 f hf
  generalize hu1 : wI (wI (wI (wI u 38 11 told) 38 8 0) 38 9 0) 38 10 0 = u1
  have f1 : Fr lkA lkB u u1 := by
    rw [← hu1]
    exact (((Fr.rf.pI (k := 38) (j := 11) (by decide)).pI (k := 38) (j := 8) (by decide)).pI (k := 38) (j := 9) (by decide)).pI (k := 38) (j := 10) (by decide)
  have i10 : u1.1 38 10 = mI 0 := by rw [← hu1]; exact wI_s
  have i9 : u1.1 38 9 = mI 0 := by rw [← hu1, wI_j (by decide)]; exact wI_s
  have i8 : u1.1 38 8 = mI 0 := by rw [← hu1, wI_j (by decide), wI_j (by decide)]; exact wI_s
  have i11 : u1.1 38 11 = told := by rw [← hu1, wI_j (by decide), wI_j (by decide), wI_j (by decide)]; exact wI_s
  have L1 : LC u1 U nd [] := ⟨i8, ⟨by simp, fun a h => (by cases h), List.nodup_nil⟩, id, fun i hi => absurd hi (Nat.not_lt_zero _)⟩
  obtain ⟨u2, a1, a2, a3, a4⟩ := c_look (P := P) (ex := ex) (n := n) (sl := sl) hC 40 (nf f) 63 0 u1 [] (nd_ok hN _ g1).2.1 g1 (by decide) (by decide) f1 L1
  obtain ⟨u3, b1, b2', b3, b4⟩ := c_lookTold (P := P) (ex := ex) (n := n) (sl := sl) (told := told) hC F 0 u2 _ (by omega) a2 a3 ((a4 11 (by decide)).trans i11)
  have eS : ((((List.range' 0 F).filter (fun f => bt told f)).map φ).foldl (LK D) (LK D [] (nd (nf f)))) = LA D F φ told f := by
    rw [← List.range_eq_range', g3]
    rfl
  rw [eS] at b3
  generalize LA D F φ told f = S at *
  obtain ⟨l8, lS, ν, lν⟩ := b3
  have L3 : LN u3 U nd S ν := ⟨l8, lS, lν⟩
  have hN3 := (fCW b2' (by decide) hC).2.2.2.2.2.2.2.2.2.1
  have A3 : ASc u3 [] := ⟨((b4 9 (by decide)).trans (a4 9 (by decide))).trans i9, Nat.zero_le _, (fun i hi => absurd hi List.not_mem_nil), (fun m hm => absurd hm (Nat.not_lt_zero _))⟩
  obtain ⟨u4, c1, c2, c3⟩ := c_allAssumed (P := P) (ex := ex) (n := n) (sl := sl) hN3 L3 A3
  have f4 : Fr [39, 40, 42, 43] lkB u u4 := (b2'.mo (by decide) (by decide)).tr (c2.mo (by decide) (by decide))
  have hC4 := fCW f4 (by decide) hC
  have E4 : EV u4 U D nd S ν (asm S S.length) := ⟨hC4.2.2.2.2.2.2.2.2.2.1, L3.fr c2 (by decide) (by decide) (by decide), c3, hC4.2.2.2.2.1, hC.1, hC.2.1⟩
  have Z4 : SZ u4 [] := ⟨(c2.i (k := 38) (j := 10) (by decide)).trans (((b4 10 (by decide)).trans (a4 10 (by decide))).trans i10), Nat.zero_le _, fun i hi => absurd hi (Nat.not_lt_zero _)⟩
  obtain ⟨u5, Z, d1, d2, d3, d4⟩ := c_allSteps (P := P) (ex := ex) (n := n) (sl := sl) E4 Z4
  refine ⟨u5, ν, Z, ?_, f4.tr (d2.mo (by decide) (by decide)), ?_, E4.fr d2, d3, d4⟩
  · rw [E_X4_prepare, z_38, ob, E_X4_prepare_0, q_38_1, ob, c_toldTo rfl hcu, ob, ht]
    try dsimp only
    rw [p_38_11, ob, p_38_8, ob, p_38_9, ob, p_38_10, ob, hu1]
    have a1' : F_X4_lookAt 64 (P.2.1 + 38) (mI (nf f)) 0 (hp P u1 ex n sl) = some ((), hp P u2 ex n sl) := a1
    rw [a1', ob]
    exact b1.trans (c1.trans d1)
  · rw [d2.i (k := 38) (j := 11) (by decide), c2.i (k := 38) (j := 11) (by decide), b4 11 (by decide), a4 11 (by decide)]
    exact i11
end CPP
