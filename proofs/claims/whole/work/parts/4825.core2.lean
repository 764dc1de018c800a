/-! core: the least clash in class and model; the pair -/
section COR
variable {P : sP} {S0 e : Nat} {w w' w1 w2 z u : sW} {ex : Nat → Option sC} {n sl D F L R U : Nat} {y : sLn} {φ : Nat → List Nat} {nf : Nat → Nat} {ρ : sRc} {nd : Nat → List Nat}
/-- a set of places that holds in no world -/
def clP (D : Nat) (φ : Nat → List Nat) (M : Nat → Nat) (c x : Nat) : Prop := ∀ wd, wd < nW D → ∃ i, i < c ∧ x.testBit i = true ∧ ¬ TR D wd (φ (M i))
theorem clP_mk {M : Nat → Nat} {c x : Nat} (hc : c ≤ 14) (hx : x < 2 ^ c) : MKQ D φ M c c x ↔ ¬ clP D φ M c x := by
  constructor
  · rintro ⟨wd, h1, h2⟩ h
    obtain ⟨i, a, b, d⟩ := h wd h1
    exact d ((h2 i (by omega)).1 a b).2
  · intro h
    refine Classical.byContradiction fun g => h fun wd hw => ?_
    refine Classical.byContradiction fun g2 => g ⟨wd, hw, fun j hj => ⟨fun q b => ⟨q, Classical.byContradiction fun t => g2 ⟨j, q, b, t⟩⟩, fun q => ⟨fun b => absurd (nat_tb_lt hx b) (by omega), fun b => absurd b.1 (by omega)⟩⟩⟩
def clS (D : Nat) (φ : Nat → List Nat) (M : Nat → Nat) (c x : Nat) : Prop := 1 ≤ x ∧ x < 2 ^ c ∧ clP D φ M c x
theorem c_clash {s : Int32} (hK : KC P) (hQ : CQ w D F φ) (hs : cntP (fun f => bt s f = true) F ≤ 14) : ∃ w' M c, Fr [35, 36] [] w w' ∧ c ≤ 14 ∧ asc M c F ∧ (∀ i, i < c → bt s (M i) = true) ∧ (∀ f, f < F → bt s f = true → ∃ i, i < c ∧ M i = f) ∧ ((F_X3_leastClash (P.2.1 + 31) s (hp P w ex n sl) = some (0, hp P w' ex n sl) ∧ ∀ x, ¬ clS D φ M c x) ∨ ∃ b, F_X3_leastClash (P.2.1 + 31) s (hp P w ex n sl) = some (mI (emb M c b), hp P w' ex n sl) ∧ isLst (clS D φ M c) b) := by
  have h30 := hQ.2.2.1
  obtain ⟨w1, M, c, a1, a2, a3, a4⟩ := c_listM (P := P) (ex := ex) (n := n) (sl := sl) hQ hs
  have hp9 := p14 a3
  have hp1 : 1 ≤ 2 ^ c := Nat.one_le_two_pow
  have hQ1 : CQ w1 D F φ := hQ.fr a2 (by decide) (by decide) (by decide)
  obtain ⟨w2, b1, b2', b3⟩ := c_mark (P := P) (ex := ex) (n := n) (sl := sl) hK hQ1 a4 a3
  have a4' := a4.fr b2' (by decide)
  have eon : (1 : Int32) <<< (mI c &&& 31) = mI (2 ^ c) := on32_mI c (by omega)
  have key : ∀ d k (v : Int32), k + d = 2 ^ c → 1 ≤ k → ((v = -1 ∧ ∀ x, x < k → ¬ clS D φ M c x) ∨ ∃ b, v = mI b ∧ isLst (fun x => x < k ∧ clS D φ M c x) b) → ((R_X3_leastClash_16 (P.2.1 + 31) (mI c) v (mI k) (hp P w2 ex n sl) = some (0, hp P w2 ex n sl) ∧ ∀ x, ¬ clS D φ M c x) ∨ ∃ b, R_X3_leastClash_16 (P.2.1 + 31) (mI c) v (mI k) (hp P w2 ex n sl) = some (mI (emb M c b), hp P w2 ex n sl) ∧ isLst (clS D φ M c) b) := by
    intro d
    induction d with
    | zero =>
      intro k v hk hk1 hv
      have hk : k = 2 ^ c := by omega
      have e0 : R_X3_leastClash_16 (P.2.1 + 31) (mI c) v (mI k) (hp P w2 ex n sl) = (if v = (-1) then (some (0, hp P w2 ex n sl)) else ((F_X3_formulasOf (P.2.1 + 31) v (hp P w2 ex n sl)).bind fun q1 => some (q1.1, q1.2))) := by
        rw [E_X3_leastClash_16, eon]
        exact if_pos (by rw [nle (by omega) (by omega)]; omega)
      rw [e0]
      rcases hv with ⟨rfl, h⟩ | ⟨b, rfl, h⟩
      · exact Or.inl ⟨if_pos rfl, fun x hx => h x (by rw [hk]; exact hx.2.1) hx⟩
      · refine Or.inr ⟨b, ?_, h.1.2, fun x hx => h.2 x ⟨by rw [hk]; exact hx.2.1, hx⟩⟩
        have := h.1.1
        rw [if_neg (mI_m1 (by omega)), c_formulasOf h30 a4' a3 (by omega), ob]
    | succ d ih =>
      intro k v hk hk1 hv
      have hm := b3 k (by omega)
      rw [clP_mk a3 (by omega)] at hm
      rw [E_X3_leastClash_16, eon, if_neg (by rw [nle (by omega) (by omega)]; omega), q_31_5, ob, mI_sh6 (by omega), ra_36 (by omega), ob, mI_a63]
      have no : ¬ clS D φ M c k → ((v = -1 ∧ ∀ x, x < k + 1 → ¬ clS D φ M c x) ∨ ∃ b, v = mI b ∧ isLst (fun x => x < k + 1 ∧ clS D φ M c x) b) := by
        intro g
        rcases hv with ⟨h1, h2⟩ | ⟨b, h1, h2⟩
        · refine Or.inl ⟨h1, fun x hx z => ?_⟩
          by_cases q : x = k
          · rw [q] at z; exact g z
          · exact h2 x (by omega) z
        · refine Or.inr ⟨b, h1, ⟨by have := h2.1.1; omega, h2.1.2⟩, fun x hx => ?_⟩
          by_cases q : x = k
          · rw [q] at hx; exact absurd hx.2 g
          · exact h2.2 x ⟨by omega, hx.2⟩
      by_cases g : clP D φ M c k
      · have gS : clS D φ M c k := ⟨hk1, by omega, g⟩
        have hbf : bl (w2.2.2.2.1 36 (k / 64)) (k % 64) = false := by
          cases q : bl (w2.2.2.2.1 36 (k / 64)) (k % 64)
          · rfl
          · exact absurd g (hm.mp q)
        rw [if_pos (by rw [t64u (by omega)]; exact hbf), E_X3_leastClash_52, if_neg (by decide)]
        rcases hv with ⟨rfl, h2⟩ | ⟨b, rfl, h2⟩
        · rw [if_pos rfl, E_X3_leastClash_73, E_X3_leastClash_76, mI_s]
          refine ih (k + 1) (mI k) (by omega) (by omega) (Or.inr ⟨k, rfl, ⟨by omega, gS⟩, fun x hx z => ?_⟩)
          by_cases q : x = k
          · rw [q] at z; exact bet_irr z
          · exact h2 x (by omega) hx.2
        · have hbk := h2.1.1
          rw [if_neg (mI_m1 (by omega)), c_isBetter (by omega) (by omega), ob]
          try dsimp only
          by_cases gb : bet k b
          · rw [if_neg (fun z => b2_0.mp z gb), E_X3_leastClash_73, E_X3_leastClash_76, mI_s]
            refine ih (k + 1) (mI k) (by omega) (by omega) (Or.inr ⟨k, rfl, ⟨by omega, gS⟩, fun x hx z => ?_⟩)
            by_cases q : x = k
            · rw [q] at z; exact bet_irr z
            · exact h2.2 x ⟨by omega, hx.2⟩ (bet_tr z gb)
          · rw [if_pos (b2_0.mpr gb), E_X3_leastClash_76, mI_s]
            refine ih (k + 1) (mI b) (by omega) (by omega) (Or.inr ⟨b, rfl, ⟨by omega, h2.1.2⟩, fun x hx z => ?_⟩)
            by_cases q : x = k
            · rw [q] at z; exact gb z
            · exact h2.2 x ⟨by omega, hx.2⟩ z
      · rw [if_neg (by rw [t64u (by omega), hm.mpr g]; decide), E_X3_leastClash_52, if_pos rfl, E_X3_leastClash_76, mI_s]
        exact ih (k + 1) v (by omega) (by omega) (no (fun z => g z.2.2))
  refine ⟨w2, M, c, (a2.mo (by decide) (by decide)).tr (b2'.mo (by decide) (by decide)), a3, a4.1, fun i hi => (a4.2.1 i hi).2, a4.2.2, ?_⟩
  have e0 : F_X3_leastClash (P.2.1 + 31) s (hp P w ex n sl) = R_X3_leastClash_16 (P.2.1 + 31) (mI c) (-1) (mI 1) (hp P w2 ex n sl) := by
    rw [E_X3_leastClash, z_31, ob, E_X3_leastClash_0, a1, ob]
    try dsimp only
    rw [b1, ob]
    rfl
  rw [e0]
  exact key (2 ^ c - 1) 1 (-1) (by omega) (Nat.le_refl _) (Or.inl ⟨rfl, fun x hx z => by have := z.1; omega⟩)
/-! the model -/
theorem m_against {M : Nat → Nat} {c x : Nat} (hM : MW w D F L y φ) (hA : asc M c F) (h57 : ∀ i, i < nW D → w.2.2.1 57 i = mI (emb M c (flP D φ M c i))) : F_X8_isAgainst (P.2.1 + 46) (mI (emb M c x)) (hp P w ex n sl) = some (b2 (clP D φ M c x), hp P w ex n sl) := by
  have nl := nW_lt hM.2.1
  have h30 := hM.2.2.1
  have he : ∀ p, emb M c p < 2 ^ 31 := fun p => Nat.lt_of_lt_of_le (emb_lt hA) (Nat.pow_le_pow_right (by decide) (by omega))
  have zero : ∀ wd, wd < nW D → ((w.2.2.1 57 wd &&& mI (emb M c x) = 0) = ¬ ∃ i, i < c ∧ x.testBit i = true ∧ ¬ TR D wd (φ (M i))) := by
    intro wd hw
    rw [h57 wd hw, mI_and, show (0 : Int32) = mI 0 from rfl, neq (Nat.lt_of_le_of_lt Nat.and_le_left (he _)) (by decide)]
    apply propext
    constructor
    · rintro h ⟨i, a, b, d⟩
      have := congrArg (fun q => q.testBit (M i)) h
      simp only [Nat.testBit_and, Nat.zero_testBit] at this
      rw [emb_at hA a, emb_at hA a, b, show (flP D φ M c wd).testBit i = true from nbP_t.mpr ⟨a, d⟩] at this
      cases this
    · intro h
      refine nat_ext fun f => ?_
      rw [Nat.testBit_and, Nat.zero_testBit, Bool.and_eq_true]
      constructor
      · rintro ⟨a, b⟩
        obtain ⟨i, i1, i2, rfl⟩ := emb_t.mp a
        rw [emb_at hA i1] at b
        exact absurd ⟨i, i1, b, (nbP_t.mp i2).2⟩ h
      · intro q; cases q
  have b01 : ∀ t : Int32, (t = 0 ∨ t = 1) → (if (t = 0 ∨ t = 1) then (some (t, hp P w ex n sl)) else none) = some (t, hp P w ex n sl) := fun t ht => if_pos ht
  have key : ∀ d k, k + d = nW D → (∀ wd, wd < k → ∃ i, i < c ∧ x.testBit i = true ∧ ¬ TR D wd (φ (M i))) → R_X8_isAgainst_4 (P.2.1 + 46) (mI (emb M c x)) 1 (mI k) (hp P w ex n sl) = some (b2 (clP D φ M c x), hp P w ex n sl) := by
    intro d
    induction d with
    | zero =>
      intro k hk h
      have hk : k = nW D := by omega
      subst hk
      rw [E_X8_isAgainst_4, m_worldsMany hM, ob]
      try dsimp only
      rw [if_pos (by rw [nle (by omega) (by omega)]; exact Nat.le_refl _), b2_t (show clP D φ M c x from h)]
      exact b01 1 (Or.inr rfl)
    | succ d ih =>
      intro k hk h
      rw [E_X8_isAgainst_4, m_worldsMany hM, ob]
      try dsimp only
      rw [if_neg (show ¬ mI (nW D) ≤ mI k by rw [nle (by omega) (by omega)]; omega), if_neg (by decide), q_46_20, ob, ra_57 (by omega), ob]
      by_cases g : ∃ i, i < c ∧ x.testBit i = true ∧ ¬ TR D k (φ (M i))
      · rw [if_neg (by rw [zero k (by omega)]; exact fun q => q g), E_X8_isAgainst_32, mI_s]
        refine ih (k + 1) (by omega) (fun wd hwd => ?_)
        by_cases q : wd = k
        · rw [q]; exact g
        · exact h wd (by omega)
      · rw [if_pos (by rw [zero k (by omega)]; exact g), E_X8_isAgainst_32, mI_s, E_X8_isAgainst_4, m_worldsMany hM, ob, b2_f (show ¬ clP D φ M c x from fun q => g (q k (by omega)))]
        try dsimp only
        by_cases q : mI (nW D) ≤ mI (k + 1)
        · rw [if_pos q]; exact b01 0 (Or.inl rfl)
        · rw [if_neg q, if_pos rfl]; exact b01 0 (Or.inl rfl)
  rw [E_X8_isAgainst, z_46, ob, E_X8_isAgainst_0]
  exact key (nW D) 0 (by omega) (fun wd hwd => absurd hwd (by omega))
theorem clP_up {M : Nat → Nat} {c x x' : Nat} (h : clP D φ M c x) (hs : ∀ i, i < c → x.testBit i = true → x'.testBit i = true) : clP D φ M c x' := fun wd hw => by
  obtain ⟨i, a, b, d⟩ := h wd hw
  exact ⟨i, a, hs i a b, d⟩
theorem m_coreL {M : Nat → Nat} {c : Nat} (hM : MW w D F L y φ) (hA : asc M c F) (hc : c ≤ 14) (h57 : ∀ i, i < nW D → w.2.2.1 57 i = mI (emb M c (flP D φ M c i))) : ∀ p b, p < 2 ^ c → clS D φ M c b → (∀ x, p < x → clS D φ M c x → ¬ bet x b) → ∃ b', R_X8_core_48 (P.2.1 + 46) (mI (emb M c (2 ^ c - 1))) (mI (emb M c b)) (mI (emb M c p)) (hp P w ex n sl) = some (mI (emb M c b'), hp P w ex n sl) ∧ isLst (clS D φ M c) b' := by
  have h30 := hM.2.2.1
  have he : ∀ p, emb M c p < 2 ^ 31 := fun p => Nat.lt_of_lt_of_le (emb_lt hA) (Nat.pow_le_pow_right (by decide) (by omega))
  intro p
  induction p with
  | zero =>
    intro b hq hb hx
    refine ⟨b, ?_, hb, fun x h => hx x h.1 h⟩
    rw [E_X8_core_48, emb_0]
    exact if_pos (by decide)
  | succ p ih =>
    intro b hq hb hx
    have hpos : 0 < emb M c (p + 1) := by
      have := emb_mono hA (p := 0) (q := p + 1) (by omega) hq (by omega)
      omega
    have hnx : (mI (emb M c (p + 1)) - 1) &&& mI (emb M c (2 ^ c - 1)) = mI (emb M c p) := by
      rw [show mI (emb M c (p + 1)) - 1 = mI (emb M c (p + 1) - 1) from mI_sub (a := emb M c (p + 1)) (b := 1) (by omega), mI_and, emb_pred hA hq (by omega), Nat.add_sub_cancel]
    have keep : ¬ (bet (p + 1) b ∧ clP D φ M c (p + 1)) → ∃ b', R_X8_core_76 (P.2.1 + 46) (mI (emb M c (2 ^ c - 1))) (mI (emb M c b)) (mI (emb M c (p + 1))) (hp P w ex n sl) = some (mI (emb M c b'), hp P w ex n sl) ∧ isLst (clS D φ M c) b' := by
      intro g
      rw [E_X8_core_76, E_X8_core_77, hnx]
      refine ih b (by omega) hb (fun x hx1 hx2 z => ?_)
      by_cases q : x = p + 1
      · rw [q] at z hx2; exact g ⟨z, hx2.2.2⟩
      · exact hx x (by omega) hx2 z
    rw [E_X8_core_48, if_neg (show ¬ mI (emb M c (p + 1)) ≤ 0 by rw [show (0 : Int32) = mI 0 from rfl, nle (he _) (by decide)]; omega), m_isFewer (he _) (he _), ob]
    try dsimp only
    by_cases g : bet (p + 1) b
    · rw [if_neg (fun z => b2_0.mp z ((emb_bet hA (by omega) (by omega) hq hb.2.1).mpr g)), m_against hM hA h57, ob]
      try dsimp only
      by_cases g2 : clP D φ M c (p + 1)
      · rw [if_neg (fun z => b2_0.mp z g2), E_X8_core_77, hnx]
        refine ih (p + 1) (by omega) ⟨by omega, hq, g2⟩ (fun x hx1 hx2 z => ?_)
        by_cases q : x = p + 1
        · rw [q] at z; exact bet_irr z
        · exact hx x (by omega) hx2 (bet_tr z g)
      · rw [if_pos (b2_0.mpr g2)]
        exact keep (fun z => g2 z.2)
    · rw [if_pos (b2_0.mpr (fun z => g ((emb_bet hA (by omega) (by omega) hq hb.2.1).mp z)))]
      exact keep (fun z => g z.1)
theorem pr_core (hK : KC P) (hI : IVa P S0 e w n sl D F L R U y φ nf ρ nd) (v : Int32) : PI P S0 e w ex n sl (F_X7_core P.2.1 v) (F_X8_core (P.2.1 + 46) v) csA anyI := by
  have hb := hI.b
  have hQ := hI.Q
  have hl := cntP_le (p := fun f => bt (sSet v F) f = true) (k := F)
  by_cases h : cntP (fun f => bt (sSet v F) f = true) F ≤ 14
  · obtain ⟨w1, M, c, a2, a3, a4, a5, a6, a7⟩ := c_clash (P := P) (ex := ex) (n := n) (sl := sl) hK hQ h
    have hp1 : 1 ≤ 2 ^ c := Nat.one_le_two_pow
    have es : sSet v F = mI (emb M c (2 ^ c - 1)) := s_emb hb.2.2.1 a4 a5 a6 (fun i hi q => sSet_hi hb.2.2.1 hi q)
    have md : ∀ u, IVa P S0 e u n sl D F L R U y φ nf ρ nd → ∃ w', F_X8_core (P.2.1 + 46) v (hp P u ex n sl) = (if b2 (clP D φ M c (2 ^ c - 1)) = 0 then (some (0, hp P w' ex n sl)) else (R_X8_core_48 (P.2.1 + 46) (mI (emb M c (2 ^ c - 1))) (mI (emb M c (2 ^ c - 1))) (mI (emb M c (2 ^ c - 1))) (hp P w' ex n sl))) ∧ Fr [53, 57] [] (wI u 46 0 0) w' ∧ MW w' D F L y φ ∧ ∀ i, i < nW D → w'.2.2.1 57 i = mI (emb M c (flP D φ M c i)) := by
      intro u hu
      have hM0 := hu.M.t0 (v := 0)
      obtain ⟨w', t1, t2, t3⟩ := m_fails (P := P) (ex := ex) (n := n) (sl := sl) (v := v) hM0
      have hM' := hM0.fr t2 (by decide) (by decide) (by decide)
      have h57 : ∀ i, i < nW D → w'.2.2.1 57 i = mI (emb M c (flP D φ M c i)) := fun i hi => (t3 i hi).trans (fs_emb hb.2.2.1 a4 a5 a6)
      refine ⟨w', ?_, t2, hM', h57⟩
      rw [E_X8_core, z_46, ob, E_X8_core_0, p_46_0, ob, t1, ob]
      try dsimp only
      rw [j_bitCount32, ob]
      try dsimp only
      rw [show cnt (bt (sSet v F)) 32 = _ from sSet_cnt hb.2.2.1, if_pos (by rw [nleL (by omega) (by decide)]; exact h), E_X8_core_26, m_throwsIf0, ob]
      try dsimp only
      rw [if_pos rfl, es, m_against hM' a4 h57, ob]
    rcases a7 with ⟨a1, a8⟩ | ⟨b, a1, a8⟩
    · refine PI.q trivial hI (x := 0) (w1 := w1) ?_ (a2.fv (by decide) (by decide)) (fun u hu hv => ?_)
      · simp only [E_X7_core, E_X7_core_0, z_0, ob, c_needSetT hQ h, sumL, q_0_4, a1]
      · obtain ⟨w', t1, t2, -⟩ := md u hu
        refine ⟨w', ?_, f537v t2⟩
        rw [t1]
        refine if_pos (b2_0.mpr (fun z => ?_))
        rcases Nat.eq_zero_or_pos c with q | q
        · obtain ⟨i, i1, -⟩ := z 0 (by have := nW_w hb.1 hb.2.1; omega)
          omega
        · have : 2 ≤ 2 ^ c := Nat.le_trans (by decide) (Nat.pow_le_pow_right (n := 2) (by decide) (show 1 ≤ c by omega))
          exact a8 (2 ^ c - 1) ⟨by omega, by omega, z⟩
    · refine PI.q trivial hI (x := mI (emb M c b)) (w1 := w1) ?_ (a2.fv (by decide) (by decide)) (fun u hu hv => ?_)
      · simp only [E_X7_core, E_X7_core_0, z_0, ob, c_needSetT hQ h, sumL, q_0_4, a1]
      · obtain ⟨w', t1, t2, t3, t4⟩ := md u hu
        have hfull : clS D φ M c (2 ^ c - 1) := by
          obtain ⟨c1, c2, c3⟩ := a8.1
          exact ⟨by omega, by omega, clP_up c3 (fun i hi _ => full_t.mpr hi)⟩
        obtain ⟨b', d1, d2⟩ := m_coreL (P := P) (ex := ex) (n := n) (sl := sl) t3 a4 a3 t4 (2 ^ c - 1) (2 ^ c - 1) (by omega) hfull (fun x hx hxs => by have := hxs.2.1; omega)
        rw [isLst_uni d2 a8] at d1
        refine ⟨w', ?_, f537v t2⟩
        rw [t1, if_neg (fun z => b2_0.mp z hfull.2.2)]
        exact d1
  · have hM0 := hI.M.t0 (v := 0)
    obtain ⟨w', t1, t2, t3⟩ := m_fails (P := P) (ex := ex) (n := n + 1) (sl := sl + 6) (v := v) hM0
    refine PI.x (E := eIA) (k := 1) (b := 0) (w2 := wI w' 46 0 1) hI (by decide) ?_ ?_ ((f537v t2).1.tr FV.t0) wI_s
    · simp only [E_X7_core, E_X7_core_0, z_0, ob, c_needSetF hQ h, sumR]
    · rw [E_X8_core, z_46, ob, E_X8_core_0, p_46_0, ob, t1, ob]
      try dsimp only
      rw [j_bitCount32, ob]
      try dsimp only
      rw [show cnt (bt (sSet v F)) 32 = _ from sSet_cnt hb.2.2.1, if_neg (by rw [nleL (by omega) (by decide)]; exact h), E_X8_core_26, m_throwsIf1, ob]
      exact if_neg (show ¬ (1 : Int32) = 0 by decide)
end COR
