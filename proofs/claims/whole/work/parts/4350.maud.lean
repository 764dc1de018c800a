/-! open, stale, saved, spent in the model; chains in both -/
theorem exS {p : Nat → Prop} {k : Nat} : (∃ i, i < k + 1 ∧ p i) ↔ (∃ i, i < k ∧ p i) ∨ p k := by
  constructor
  · rintro ⟨i, h1, h2⟩
    by_cases e : i = k
    · subst e; exact Or.inr h2
    · exact Or.inl ⟨i, by omega, h2⟩
  · rintro (⟨i, h1, h2⟩ | h)
    · exact ⟨i, by omega, h2⟩
    · exact ⟨k, by omega, h⟩
theorem ex0 {p : Nat → Prop} : b2 (∃ i, i < 0 ∧ p i) = 0 := b2_f (fun ⟨i, h, _⟩ => absurd h (by omega))
section MO
variable {P : sP} {w : sW} {ex : Nat → Option sC} {n sl : Nat} {D F L : Nat} {y : sLn} {φ : Nat → List Nat}
theorem m_isOpen {l : Nat} {x : Int32} (hM : MW w D F L y φ) (hx : x = mI l) (hl : l < L) : F_X8_isOpen (P.2.1 + 46) x (hp P w ex n sl) = some (b2 (opnP L (w.2.2.2.1 55) y l), hp P w ex n sl) := by
  subst hx
  have h40 := hM.2.2.2.1
  have hL := hM.2.2.2.2.2.2.1
  have ho := hM.2.2.2.2.2.2.2.2.1
  have hLn := hM.2.2.2.2.2.2.2.1
  rw [E_X8_isOpen, z_46, ob, E_X8_isOpen_0]
  have h0 : R_X8_isOpen_4 (P.2.1 + 46) (mI l) 0 0 (hp P w ex n sl) = R_X8_isOpen_4 (P.2.1 + 46) (mI l) (b2 (∃ i, i < 0 ∧ (bl (w.2.2.2.1 55 l) i = true ∧ y.2.2.1 i = 1))) (mI 0) (hp P w ex n sl) := by rw [ex0]; rfl
  rw [h0]
  refine loopE (f := fun k => R_X8_isOpen_4 (P.2.1 + 46) (mI l) (b2 (∃ i, i < k ∧ (bl (w.2.2.2.1 55 l) i = true ∧ y.2.2.1 i = 1))) (mI k) (hp P w ex n sl)) (N := L) (fun k hk => ?_) ?_
  · have hrk := (ho k hk).2.2.1
    have e1 : (mI (y.2.2.1 k) = 1) = (y.2.2.1 k = 1) := neqL (by omega) (by decide)
    rw [E_X8_isOpen_4, m_lines, ob, hL, if_neg (show ¬ mI L ≤ mI k by rw [nle (by omega) (by omega)]; omega), b2_congr (exS (p := fun i => bl (w.2.2.2.1 55 l) i = true ∧ y.2.2.1 i = 1) (k := k))]
    by_cases g : ∃ i, i < k ∧ (bl (w.2.2.2.1 55 l) i = true ∧ y.2.2.1 i = 1)
    · rw [if_neg (show ¬ b2 _ = 0 from fun z => b2_0.mp z g), E_X8_isOpen_41, E_X8_isOpen_46, b2_t (Or.inl g), naddL]
    · rw [if_pos (b2_0.mpr g), q_46_18, ob, ra_55 (show l < 40 by omega), ob]
      by_cases g1 : bl (w.2.2.2.1 55 l) k = true
      · rw [if_pos (by rw [t64 (by omega)]; exact g1), m_rule (x := mI k) rfl hLn h40 hk, ob]
        try dsimp only
        by_cases g2 : y.2.2.1 k = 1
        · rw [if_pos (by rw [e1]; exact g2), E_X8_isOpen_41, E_X8_isOpen_46, b2_t (Or.inr ⟨g1, g2⟩), naddL]
        · rw [if_neg (by rw [e1]; exact g2), E_X8_isOpen_45, E_X8_isOpen_46, b2_f (fun z => z.elim g fun m => g2 m.2), naddL]
      · rw [if_neg (by rw [t64 (by omega)]; exact g1), E_X8_isOpen_45, E_X8_isOpen_46, b2_f (fun z => z.elim g fun m => g1 m.1), naddL]
  · rw [E_X8_isOpen_4, m_lines, ob, hL, if_pos (show mI L ≤ mI L by rw [nle (by omega) (by omega)]; omega), if_pos b2_or]
    rfl
abbrev tolM (w : sW) : Nat → Int32 := fun u => w.2.2.1 47 (58 + u)
theorem m_isStale {l : Nat} {x : Int32} (hM : MW w D F L y φ) (hx : x = mI l) (hl : l < L) : F_X8_isStale (P.2.1 + 46) x (hp P w ex n sl) = some (b2 (stlP L (w.2.2.2.1 55) (unbP F φ (tolM w) y) l), hp P w ex n sl) := by
  subst hx
  have h40 := hM.2.2.2.1
  have h30 := hM.2.2.1
  have hL := hM.2.2.2.2.2.2.1
  have hF := hM.2.2.2.2.2.1
  have ho := hM.2.2.2.2.2.2.2.2.1
  have hLn := hM.2.2.2.2.2.2.2.1
  have hφ := hM.2.2.2.2.2.2.2.2.2
  rw [E_X8_isStale, z_46, ob, E_X8_isStale_0]
  have h0 : R_X8_isStale_4 (P.2.1 + 46) (mI l) 0 0 (hp P w ex n sl) = R_X8_isStale_4 (P.2.1 + 46) (mI l) (b2 (∃ i, i < 0 ∧ (bl (w.2.2.2.1 55 l) i = true ∧ unbP F φ (tolM w) y i))) (mI 0) (hp P w ex n sl) := by rw [ex0]; rfl
  rw [h0]
  refine loopE (f := fun k => R_X8_isStale_4 (P.2.1 + 46) (mI l) (b2 (∃ i, i < k ∧ (bl (w.2.2.2.1 55 l) i = true ∧ unbP F φ (tolM w) y i))) (mI k) (hp P w ex n sl)) (N := L) (fun k hk => ?_) ?_
  · have hrk := (ho k hk).2.2.1
    have e0 : (mI (y.2.2.1 k) = 0) = (y.2.2.1 k = 0) := neqL (by omega) (by decide)
    rw [E_X8_isStale_4, m_lines, ob, hL, if_neg (show ¬ mI L ≤ mI k by rw [nle (by omega) (by omega)]; omega), b2_congr (exS (p := fun i => bl (w.2.2.2.1 55 l) i = true ∧ unbP F φ (tolM w) y i) (k := k))]
    by_cases g : ∃ i, i < k ∧ (bl (w.2.2.2.1 55 l) i = true ∧ unbP F φ (tolM w) y i)
    · rw [if_neg (show ¬ b2 _ = 0 from fun z => b2_0.mp z g), E_X8_isStale_63, E_X8_isStale_68, b2_t (Or.inl g), naddL]
    · rw [if_pos (b2_0.mpr g), q_46_18, ob, ra_55 (show l < 40 by omega), ob]
      by_cases g1 : bl (w.2.2.2.1 55 l) k = true
      · rw [if_pos (by rw [t64 (by omega)]; exact g1), m_rule (x := mI k) rfl hLn h40 hk, ob]
        try dsimp only
        by_cases g2 : y.2.2.1 k = 0
        · obtain ⟨⟨u, hu, eu⟩, -, -⟩ := (ho k hk).2.2.2.1 g2
          have hf := (ho k hk).2.1
          have a3 : w.2.2.1 47 (1292 + 6 * k + 3) = mI u := by have := (hLn k hk).2.2.2 0 (by decide); rw [eu] at this; exact this
          rw [if_pos (by rw [e0]; exact g2), m_said (x := mI k) rfl hLn h40 hk, ob, m_ofLine (x := mI k) (v := 3) (j := 3) rfl rfl (show k < 40 by omega) (by decide), ob, a3, m_beliefsOf (x := mI u) rfl hu, ob, m_isAmong (x := mI (y.2.1 k)) (p := φ (y.2.1 k)) rfl (show y.2.1 k < 72 by omega) hF h30 (fun j hj => (hφ j hj).1) (hφ _ hf).1, ob]
          try dsimp only
          have am : amP F φ (tolM w) y k ↔ ∃ j, j < F ∧ bit (w.2.2.1 47 (58 + u)) j ∧ φ j = φ (y.2.1 k) := by
            unfold amP tol
            rw [eu, Option.getD_some]
          by_cases g3 : ∃ j, j < F ∧ bit (w.2.2.1 47 (58 + u)) j ∧ φ j = φ (y.2.1 k)
          · rw [if_neg (show ¬ b2 _ = 0 from fun z => b2_0.mp z g3), E_X8_isStale_67, E_X8_isStale_68, b2_f (fun z => z.elim g fun m => m.2.2 (am.mpr g3)), naddL]
          · rw [if_pos (b2_0.mpr g3), E_X8_isStale_63, E_X8_isStale_68, b2_t (Or.inr ⟨g1, g2, fun z => g3 (am.mp z)⟩), naddL]
        · rw [if_neg (by rw [e0]; exact g2), E_X8_isStale_67, E_X8_isStale_68, b2_f (fun z => z.elim g fun m => g2 m.2.1), naddL]
      · rw [if_neg (by rw [t64 (by omega)]; exact g1), E_X8_isStale_67, E_X8_isStale_68, b2_f (fun z => z.elim g fun m => g1 m.1), naddL]
  · rw [E_X8_isStale_4, m_lines, ob, hL, if_pos (show mI L ≤ mI L by rw [nle (by omega) (by omega)]; omega), if_pos b2_or]
    rfl
theorem m_isSaved {l : Nat} {x : Int32} {S : Nat → Prop} (hM : MW w D F L y φ) (hx : x = mI l) (hl : l < L) (hS : ∀ k, k < L → w.2.2.1 54 k = b2 (S k)) : F_X8_isSaved (P.2.1 + 46) x (hp P w ex n sl) = some (b2 (savP L φ y S (opnP L (w.2.2.2.1 55) y) (stlP L (w.2.2.2.1 55) (unbP F φ (tolM w) y)) l), hp P w ex n sl) := by
  subst hx
  have h40 := hM.2.2.2.1
  have h30 := hM.2.2.1
  have hL := hM.2.2.2.2.2.2.1
  have ho := hM.2.2.2.2.2.2.2.2.1
  have hLn := hM.2.2.2.2.2.2.2.1
  have hφ := hM.2.2.2.2.2.2.2.2.2
  generalize hT : stlP L (w.2.2.2.1 55) (unbP F φ (tolM w) y) = T
  generalize hO : opnP L (w.2.2.2.1 55) y = O
  have iT : ∀ k, k < L → F_X8_isStale (P.2.1 + 46) (mI k) (hp P w ex n sl) = some (b2 (T k), hp P w ex n sl) := fun k hk => by rw [← hT]; exact m_isStale hM rfl hk
  have iO : ∀ k, k < L → F_X8_isOpen (P.2.1 + 46) (mI k) (hp P w ex n sl) = some (b2 (O k), hp P w ex n sl) := fun k hk => by rw [← hO]; exact m_isOpen hM rfl hk
  rw [E_X8_isSaved, z_46, ob, E_X8_isSaved_0]
  unfold savP
  by_cases hTl : T l
  · rw [b2_congr (p := T l ∧ ∃ k, k < L ∧ φ (y.2.1 k) = φ (y.2.1 l) ∧ S k ∧ ¬ O k ∧ ¬ T k) (q := ∃ k, k < L ∧ (k ≠ l ∧ φ (y.2.1 k) = φ (y.2.1 l) ∧ S k ∧ ¬ O k ∧ ¬ T k)) ⟨fun ⟨_, k, h1, h2, h3, h4, h5⟩ => ⟨k, h1, fun e => by subst e; exact h5 hTl, h2, h3, h4, h5⟩, fun ⟨k, h1, _, h2⟩ => ⟨hTl, k, h1, h2⟩⟩]
    have nl : ∀ k, k < L → ((mI k = mI l) = (k = l)) := fun k hk => neq (by omega) (by omega)
    have sm : ∀ k, k < L → F_X8_isSame (P.2.1 + 46) (mI (y.2.1 k)) (mI (y.2.1 l)) (hp P w ex n sl) = some (b2 (φ (y.2.1 k) = φ (y.2.1 l)), hp P w ex n sl) := fun k hk => by
      have f1 := (ho k hk).2.1
      have f2 := (ho l hl).2.1
      exact m_isSame rfl rfl (by omega) (by omega) (hφ _ f1).1 (hφ _ f2).1
    refine loopB (f := fun k => R_X8_isSaved_4 (P.2.1 + 46) (mI l) 0 (mI k) (hp P w ex n sl)) (N := L) (fun k hk hn => ?_) (fun k hk hy => ?_) ?_
    · rw [E_X8_isSaved_4, m_lines, ob, hL, if_neg (show ¬ mI L ≤ mI k by rw [nle (by omega) (by omega)]; omega), iT l hl, ob]
      try dsimp only
      rw [if_neg (show ¬ b2 _ = 0 from fun z => b2_0.mp z hTl), if_pos rfl]
      have go : R_X8_isSaved_77 (P.2.1 + 46) (mI l) (mI k) (hp P w ex n sl) = R_X8_isSaved_4 (P.2.1 + 46) (mI l) 0 (mI (k + 1)) (hp P w ex n sl) := by rw [E_X8_isSaved_77, E_X8_isSaved_78, naddL]
      by_cases g0 : k = l
      · rw [if_pos (by rw [nl k hk]; exact g0), go]
      · rw [if_neg (by rw [nl k hk]; exact g0), m_said (x := mI k) rfl hLn h40 hk, ob, m_said (x := mI l) rfl hLn h40 hl, ob, sm k hk, ob]
        try dsimp only
        by_cases g1 : φ (y.2.1 k) = φ (y.2.1 l)
        · rw [if_neg (show ¬ b2 _ = 0 from fun z => b2_0.mp z g1), q_46_17, ob, ra_54 (show k < 40 by omega), ob, hS k hk]
          by_cases g2 : S k
          · rw [if_neg (show ¬ b2 _ = 0 from fun z => b2_0.mp z g2), iO k hk, ob]
            try dsimp only
            by_cases g3 : O k
            · rw [if_neg (show ¬ b2 _ = 0 from fun z => b2_0.mp z g3), go]
            · rw [if_pos (b2_0.mpr g3), iT k hk, ob]
              try dsimp only
              by_cases g4 : T k
              · rw [if_neg (show ¬ b2 _ = 0 from fun z => b2_0.mp z g4), go]
              · exact absurd ⟨g0, g1, g2, g3, g4⟩ hn
          · rw [if_pos (b2_0.mpr g2), go]
        · rw [if_pos (b2_0.mpr g1), go]
    · obtain ⟨g0, g1, g2, g3, g4⟩ := hy
      rw [E_X8_isSaved_4, m_lines, ob, hL, if_neg (show ¬ mI L ≤ mI k by rw [nle (by omega) (by omega)]; omega), iT l hl, ob]
      try dsimp only
      rw [if_neg (show ¬ b2 _ = 0 from fun z => b2_0.mp z hTl), if_pos rfl, if_neg (by rw [nl k hk]; exact g0), m_said (x := mI k) rfl hLn h40 hk, ob, m_said (x := mI l) rfl hLn h40 hl, ob, sm k hk, ob]
      try dsimp only
      rw [if_neg (show ¬ b2 _ = 0 from fun z => b2_0.mp z g1), q_46_17, ob, ra_54 (show k < 40 by omega), ob, hS k hk, if_neg (show ¬ b2 _ = 0 from fun z => b2_0.mp z g2), iO k hk, ob]
      try dsimp only
      rw [if_pos (b2_0.mpr g3), iT k hk, ob]
      try dsimp only
      rw [if_pos (b2_0.mpr g4), E_X8_isSaved_78, naddL, E_X8_isSaved_4, m_lines, ob, hL]
      try dsimp only
      by_cases g5 : L ≤ k + 1
      · rw [if_pos (by rw [nle (by omega) (by omega)]; exact g5), if_pos (Or.inr rfl)]
      · rw [if_neg (by rw [nle (by omega) (by omega)]; exact g5), iT l hl, ob]
        try dsimp only
        rw [if_neg (show ¬ b2 _ = 0 from fun z => b2_0.mp z hTl), if_neg (by decide), if_pos (Or.inr rfl)]
    · rw [E_X8_isSaved_4, m_lines, ob, hL, if_pos (show mI L ≤ mI L by rw [nle (by omega) (by omega)]; omega), if_pos (Or.inl rfl)]
  · rw [E_X8_isSaved_4, m_lines, ob, hL, if_neg (show ¬ mI L ≤ 0 by rw [nleL (by omega) (by decide)]; exact Nat.not_le.mpr (by omega)), iT l hl, ob]
    try dsimp only
    rw [if_pos (b2_0.mpr hTl), if_pos (Or.inl rfl), b2_f (fun z => hTl z.1)]
theorem m_costOf {h r f : Nat} {x v s : Int32} {p : List Nat} (hx : x = mI h) (hv : v = mI r) (hs : s = mI f) (hh : h < 3) (hr : r < 17) (hf : f < 72) (hp9 : hasL w f p) : F_X8_costOf (P.2.1 + 46) x v s (hp P w ex n sl) = some (w.2.2.1 47 (4 + 18 * h + 1 + r) + mI p.length * w.2.2.1 47 (4 + 18 * h + 1 + 16), hp P w ex n sl) := by
  subst hx hv hs
  simp only [E_X8_costOf, E_X8_costOf_0, z_46, q_46_1, q_46_4, ob, naddL, naddR, nmulR, nadd, ra_47 (show 4 + 18 * h + 1 + r < 1682 by omega), ra_47 (show 4 + 18 * h + 1 + 16 < 1682 by omega), ra_49 hf, hp9.1]
theorem m_priceOf {l : Nat} {x : Int32} (hM : MW w D F L y φ) (hx : x = mI l) (hl : l < L) : F_X8_priceOf (P.2.1 + 46) x (hp P w ex n sl) = some (lcost (fun h r => w.2.2.1 47 (4 + 18 * h + 1 + r)) φ y l, hp P w ex n sl) := by
  have h40 := hM.2.2.2.1
  have h30 := hM.2.2.1
  have ho := hM.2.2.2.2.2.2.2.2.1
  have hLn := hM.2.2.2.2.2.2.2.1
  have hφ := hM.2.2.2.2.2.2.2.2.2
  have hr := (ho l hl).2.2.1
  have hf := (ho l hl).2.1
  rw [E_X8_priceOf, z_46, ob, E_X8_priceOf_0, m_house hx hLn h40 hl, ob, m_rule hx hLn h40 hl, ob, m_said hx hLn h40 hl, ob, m_costOf (x := mI (y.1 l)) (v := mI (y.2.2.1 l)) (s := mI (y.2.1 l)) rfl rfl rfl (ho l hl).1 (by omega) (by omega) (hφ _ hf).1, ob]
  rfl
theorem m_spentBy {l : Nat} {x : Int32} (hM : MW w D F L y φ) (hx : x = mI l) (hl : l < L) : F_X8_spentBy (P.2.1 + 46) x (hp P w ex n sl) = some (sumI (fun k => if bl (w.2.2.2.1 56 l) k = true then lcost (fun h r => w.2.2.1 47 (4 + 18 * h + 1 + r)) φ y k else 0) L, hp P w ex n sl) := by
  subst hx
  have h40 := hM.2.2.2.1
  have hL := hM.2.2.2.2.2.2.1
  rw [E_X8_spentBy, z_46, ob, E_X8_spentBy_0]
  refine loopE (f := fun k => R_X8_spentBy_4 (P.2.1 + 46) (mI l) (sumI (fun k => if bl (w.2.2.2.1 56 l) k = true then lcost (fun h r => w.2.2.1 47 (4 + 18 * h + 1 + r)) φ y k else 0) k) (mI k) (hp P w ex n sl)) (N := L) (fun k hk => ?_) ?_
  · rw [E_X8_spentBy_4, m_lines, ob, hL, if_neg (show ¬ mI L ≤ mI k by rw [nle (by omega) (by omega)]; omega), q_46_19, ob, ra_56 (show l < 40 by omega), ob]
    rw [show sumI (fun k => if bl (w.2.2.2.1 56 l) k = true then lcost (fun h r => w.2.2.1 47 (4 + 18 * h + 1 + r)) φ y k else 0) (k + 1) = sumI (fun k => if bl (w.2.2.2.1 56 l) k = true then lcost (fun h r => w.2.2.1 47 (4 + 18 * h + 1 + r)) φ y k else 0) k + (if bl (w.2.2.2.1 56 l) k = true then lcost (fun h r => w.2.2.1 47 (4 + 18 * h + 1 + r)) φ y k else 0) from rfl]
    by_cases g : bl (w.2.2.2.1 56 l) k = true
    · rw [if_pos (by rw [t64 (by omega)]; exact g), m_priceOf (x := mI k) hM rfl hk, ob, E_X8_spentBy_37, naddL, if_pos g]
    · rw [if_neg (by rw [t64 (by omega)]; exact g), E_X8_spentBy_37, naddL, if_neg g]
  · rw [E_X8_spentBy_4, m_lines, ob, hL, if_pos (show mI L ≤ mI L by rw [nle (by omega) (by omega)]; omega)]
end MO
/-! chains: how many lines bought in a row -/
def chn (y : sLn) : Nat → Nat → Nat
  | 0, _ => 0
  | d + 1, l => if y.2.2.1 l = 15 then (match prem y l 0 with
    | none => 1
    | some p => chn y d p + 1) else 0
section CHN
variable {P : sP} {w : sW} {ex : Nat → Option sC} {n sl : Nat} {D F L U : Nat} {y : sLn} {φ nd : Nat → List Nat} {nf : Nat → Nat}
theorem chn_le (d l : Nat) : chn y d l ≤ d := by
  induction d generalizing l with
  | zero => exact Nat.le_refl _
  | succ d ih =>
    unfold chn
    split
    · split
      · omega
      · have := ih (by assumption)
        rename_i p _
        have := ih p
        omega
    · omega
theorem m_chainL {l : Nat} (hM : MW w D F L y φ) : ∀ d l c, l < d → l < L → c + d ≤ 200 → R_X8_chain_24 (P.2.1 + 46) (mI c) (mI l) (hp P w ex n sl) = some (mI (c + chn y d l), hp P w ex n sl) := by
  have h40 := hM.2.2.2.1
  have ho := hM.2.2.2.2.2.2.2.2.1
  have hLn := hM.2.2.2.2.2.2.2.1
  intro d
  induction d with
  | zero => intro l c h; omega
  | succ d ih =>
    intro l c hd hl hc
    have hr := (ho l hl).2.2.1
    have e15 : (mI (y.2.2.1 l) = 15) = (y.2.2.1 l = 15) := neqL (by omega) (by decide)
    rw [E_X8_chain_24, if_neg (mI_0 (by omega)), m_rule (x := mI l) rfl hLn h40 hl, ob]
    try dsimp only
    unfold chn
    by_cases g : y.2.2.1 l = 15
    · rw [if_pos (by rw [e15]; exact g), if_pos g, m_premise (x := mI l) (v := 0) (j := 0) rfl rfl hLn ho h40 hl (by decide), ob, naddL]
      cases e : prem y l 0 with
      | none =>
        try dsimp only
        rw [E_X8_chain_24, if_pos (show thOf none < 0 by decide)]
      | some p =>
        have hpl := prem_lt ho hl (by decide) e
        try dsimp only
        rw [thOf_some, ih p (c + 1) (by omega) (by omega) (by omega), show c + 1 + chn y d p = c + (chn y d p + 1) by omega]
    · rw [if_neg (by rw [e15]; exact g), if_neg g]
      rfl
theorem c_boughtL (hC : CW w D F L U y φ nd nf) : ∀ d l c, l < d → l < L → c + l < 40 → R_X0_boughtInRow_7 (P.2.1 + 37) (mI c) (mI l) (mI c) (hp P w ex n sl) = some (mI (c + chn y d l), hp P w ex n sl) := by
  have h40 := hC.2.2.2.1
  have ho := hC.2.2.2.2.2.2.2.2.1
  intro d
  induction d with
  | zero => intro l c h; omega
  | succ d ih =>
    intro l c hd hl hc
    have hr := (ho l hl).2.2.1
    have e15 : (mI (y.2.2.1 l) = 15) = (y.2.2.1 l = 15) := neqL (by omega) (by decide)
    rw [E_X0_boughtInRow_7, if_neg (show ¬ (40 : Int32) ≤ mI c by rw [nleR (by omega) (by decide)]; exact Nat.not_le.mpr (by omega)), q_37_5, ob, c_rule (x := mI l) hC rfl hl, ob]
    try dsimp only
    unfold chn
    by_cases g : y.2.2.1 l = 15
    · rw [if_pos (by rw [e15]; exact g), if_pos g, q_37_5, ob, c_premiseOf (x := mI l) (v := 0) (j := 0) hC rfl rfl hl (by decide), ob, naddL]
      cases e : prem y l 0 with
      | none =>
        try dsimp only
        rw [E_X0_boughtInRow_7]
        by_cases g4 : (40 : Int32) ≤ mI (c + 1)
        · rw [if_pos g4]
        · rw [if_neg g4, q_37_5, ob, show thOf none = -1 from rfl, c_ofLineN (x := -1) (v := 2) hC.2.2.2.2.2.2.1 (fun z => z.1 (by decide)), ob, if_neg (show ¬ (-1 : Int32) = 15 by decide)]
      | some p =>
        have hpl := prem_lt ho hl (by decide) e
        try dsimp only
        rw [thOf_some, ih p (c + 1) (by omega) (by omega) (by omega), show c + 1 + chn y d p = c + (chn y d p + 1) by omega]
    · rw [if_neg (by rw [e15]; exact g), if_neg g]
      rfl
theorem c_boughtInRow {l : Nat} {x : Int32} (hC : CW w D F L U y φ nd nf) (hx : x = mI l) (hl : l < L) : F_X0_boughtInRow (P.2.1 + 37) x (hp P w ex n sl) = some (mI (chn y 40 l), hp P w ex n sl) := by
  subst hx
  have h40 := hC.2.2.2.1
  rw [E_X0_boughtInRow, z_37, ob, E_X0_boughtInRow_0]
  have := c_boughtL (P := P) (ex := ex) (n := n) (sl := sl) hC 40 l 0 (by omega) hl (by omega)
  rw [Nat.zero_add] at this
  exact this
end CHN
