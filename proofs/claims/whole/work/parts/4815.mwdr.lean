/-! withdrawing in the model; the pair -/
section MWD
variable {P : sP} {S0 e : Nat} {w w' w1 w2 z u : sW} {ex : Nat → Option sC} {n sl D F L R U : Nat} {y : sLn} {φ : Nat → List Nat} {nf : Nat → Nat} {ρ : sRc} {nd : Nat → List Nat}
/-- the formulas of a set that there are -/
abbrev sSet (v : Int32) (F : Nat) : Int32 := v &&& ((1 <<< (mI F &&& 31)) - 1)
theorem sSet_hi {v : Int32} {i : Nat} (hF : F ≤ 30) (hi : i < 32) (h : bt (sSet v F) i = true) : i < F := by
  have e1 : (1 : Int32) <<< (mI F &&& 31) - 1 = mI (2 ^ F - 1) := by
    rw [show (1 : Int32) <<< (mI F &&& 31) = mI (2 ^ F) from on32_mI F (by omega)]
    exact mI_sub (Nat.one_le_two_pow)
  unfold sSet at h
  rw [e1, bt_and, bt_mI hi, Bool.and_eq_true] at h
  exact full_t.mp h.2
theorem sSet_cnt {v : Int32} (hF : F ≤ 30) : cnt (bt (sSet v F)) 32 = cntP (fun f => bt (sSet v F) f = true) F := by
  rw [cntP_cnt (p := fun i => i < F ∧ bt (sSet v F) i = true) (fun i hi => ⟨fun h => ⟨sSet_hi hF hi h, h⟩, fun h => h.2⟩)]
  exact cntP_lim (p := fun i => bt (sSet v F) i = true) (by omega)
noncomputable abbrev fsM (s : Int32) (D F : Nat) (φ : Nat → List Nat) (wd : Nat) : Int32 := mk32 (fun f => bt s f = true ∧ ¬ TR D wd (φ f)) F
theorem m_failsI {s : Int32} {k : Nat} (hM : MW w D F L y φ) (hk : k < nW D) : ∀ d f (u : sW), f + d = F → Fr [53, 57] [] w u → u.2.2.1 57 k = mk32 (fun f => bt s f = true ∧ ¬ TR D k (φ f)) f → (∀ i, i < k → u.2.2.1 57 i = fsM s D F φ i) → ∃ u', R_X8_fails_31 (P.2.1 + 46) s (mI k) (mI f) (hp P u ex n sl) = R_X8_fails_13 (P.2.1 + 46) s (mI (k + 1)) (hp P u' ex n sl) ∧ Fr [53, 57] [] w u' ∧ ∀ i, i < k + 1 → u'.2.2.1 57 i = fsM s D F φ i := by
  have h30 := hM.2.2.1
  have nl := nW_lt hM.2.1
  intro d
  induction d with
  | zero =>
    intro f u hf hu hk' hi
    have hf : f = F := by omega
    subst hf
    have hMu := hM.fr hu (by decide) (by decide) (by decide)
    refine ⟨u, ?_, hu, fun i hi' => ?_⟩
    · rw [E_X8_fails_31, m_formulasM hMu, ob]
      try dsimp only
      rw [if_pos (by rw [nle (by omega) (by omega)]; exact Nat.le_refl _), mI_s]
    · by_cases q : i = k
      · rw [q]; exact hk'
      · exact hi i (by omega)
  | succ d ih =>
    intro f u hf hu hk' hi
    have hMu := hM.fr hu (by decide) (by decide) (by decide)
    have put : ∀ (u1 : sW) (x : Int32), Fr [53, 57] [] w u1 → (∀ i, u1.2.2.1 57 i = u.2.2.1 57 i) → mk32 (fun f => bt s f = true ∧ ¬ TR D k (φ f)) f ||| x = mk32 (fun f => bt s f = true ∧ ¬ TR D k (φ f)) (f + 1) → ∃ u', R_X8_fails_75 (P.2.1 + 46) s (mI k) (mI f) x (mk32 (fun f => bt s f = true ∧ ¬ TR D k (φ f)) f) (mI k) (P.2.1 + 57) (hp P u1 ex n sl) = R_X8_fails_13 (P.2.1 + 46) s (mI (k + 1)) (hp P u' ex n sl) ∧ Fr [53, 57] [] w u' ∧ ∀ i, i < k + 1 → u'.2.2.1 57 i = fsM s D F φ i := by
      intro u1 x hu1 hsame hx
      rw [E_X8_fails_75, wa_57 (by omega), ob, hx, mI_s]
      refine ih (f + 1) _ (by omega) (hu1.pA (by decide)) wA_s (fun i hi' => ?_)
      exact (up2_n (Or.inr (by omega))).trans ((hsame i).trans (hi i hi'))
    rw [E_X8_fails_31, m_formulasM hMu, ob]
    try dsimp only
    rw [if_neg (show ¬ mI F ≤ mI f by rw [nle (by omega) (by omega)]; omega), q_46_20, ob, ra_57 (by omega), ob, hk']
    by_cases gb : bt s f = true
    · obtain ⟨u1, t1, t2⟩ := m_true (P := P) (ex := ex) (n := n) (sl := sl) (wd := k) hMu (show f < F by omega)
      rw [if_pos (by rw [t32o (by omega)]; exact gb), t1, ob]
      try dsimp only
      have s1 : ∀ i, u1.2.2.1 57 i = u.2.2.1 57 i := fun i => by rw [(t2.1 57 (by decide)).1]
      by_cases g : TR D k (φ f)
      · rw [if_neg (fun z => b2_0.mp z g), E_X8_fails_74]
        exact put u1 0 (hu.tr (t2.mo (by decide) (by decide))) s1 (by rw [Int32.or_zero, mk32_f (fun q => q.2 g)])
      · rw [if_pos (b2_0.mpr g)]
        exact put u1 _ (hu.tr (t2.mo (by decide) (by decide))) s1 (mk32_t (p := fun f => bt s f = true ∧ ¬ TR D k (φ f)) ⟨gb, g⟩).symm
    · rw [if_neg (by rw [t32o (by omega)]; exact gb), E_X8_fails_74]
      exact put u 0 hu (fun _ => rfl) (by rw [Int32.or_zero, mk32_f (fun q => gb q.1)])
theorem m_fails {v : Int32} (hM : MW w D F L y φ) : ∃ w', F_X8_fails (P.2.1 + 46) v (hp P w ex n sl) = some (sSet v F, hp P w' ex n sl) ∧ Fr [53, 57] [] w w' ∧ ∀ i, i < nW D → w'.2.2.1 57 i = fsM (sSet v F) D F φ i := by
  have nl := nW_lt hM.2.1
  have key : ∀ d k (u : sW), k + d = nW D → Fr [53, 57] [] w u → (∀ i, i < k → u.2.2.1 57 i = fsM (sSet v F) D F φ i) → ∃ w', R_X8_fails_13 (P.2.1 + 46) (sSet v F) (mI k) (hp P u ex n sl) = some (sSet v F, hp P w' ex n sl) ∧ Fr [53, 57] [] w w' ∧ ∀ i, i < nW D → w'.2.2.1 57 i = fsM (sSet v F) D F φ i := by
    intro d
    induction d with
    | zero =>
      intro k u hk hu hi
      have hk : k = nW D := by omega
      subst hk
      refine ⟨u, ?_, hu, hi⟩
      rw [E_X8_fails_13, m_worldsMany (hM.fr hu (by decide) (by decide) (by decide)), ob]
      exact if_pos (by rw [nle (by omega) (by omega)]; exact Nat.le_refl _)
    | succ d ih =>
      intro k u hk hu hi
      rw [E_X8_fails_13, m_worldsMany (hM.fr hu (by decide) (by decide) (by decide)), ob]
      try dsimp only
      rw [if_neg (show ¬ mI (nW D) ≤ mI k by rw [nle (by omega) (by omega)]; omega), q_46_20, ob, wa_57 (by omega), ob]
      obtain ⟨u', a1, a2, a3⟩ := m_failsI (P := P) (ex := ex) (n := n) (sl := sl) (s := sSet v F) (k := k) hM (by omega) F 0 (wA u 57 k 0) (by omega) (hu.pA (by decide)) wA_s (fun i hi' => (up2_n (Or.inr (by omega))).trans (hi i hi'))
      rw [show R_X8_fails_31 (P.2.1 + 46) (sSet v F) (mI k) 0 (hp P (wA u 57 k 0) ex n sl) = _ from a1]
      exact ih (k + 1) u' (by omega) a2 a3
  obtain ⟨w', h1, h2⟩ := key (nW D) 0 w (by omega) Fr.rf (fun i hi => absurd hi (by omega))
  refine ⟨w', ?_, h2⟩
  rw [E_X8_fails, z_46, ob, E_X8_fails_0, m_formulasM hM, ob]
  exact h1
theorem fs_emb {s : Int32} {M : Nat → Nat} {c wd : Nat} (hF : F ≤ 30) (hA : asc M c F) (h1 : ∀ i, i < c → bt s (M i) = true) (h2 : ∀ f, f < F → bt s f = true → ∃ i, i < c ∧ M i = f) : fsM s D F φ wd = mI (emb M c (flP D φ M c wd)) := by
  apply bt_ext
  intro i hi
  rw [bt_mI hi]
  have e1 := bt_mk (p := fun f => bt s f = true ∧ ¬ TR D wd (φ f)) (k := F) (by omega) hi
  have e2 := emb_t (M := M) (c := c) (p := flP D φ M c wd) (f := i)
  have e3 : bt (fsM s D F φ wd) i = true ↔ (emb M c (flP D φ M c wd)).testBit i = true := by
    rw [e1, e2]
    constructor
    · rintro ⟨a, b, d⟩
      obtain ⟨j, j1, rfl⟩ := h2 i a b
      exact ⟨j, j1, nbP_t.mpr ⟨j1, d⟩, rfl⟩
    · rintro ⟨j, j1, j2, rfl⟩
      exact ⟨hA.1 j j1, h1 j j1, (nbP_t.mp j2).2⟩
  cases p : bt (fsM s D F φ wd) i <;> cases q : (emb M c (flP D φ M c wd)).testBit i
  · rfl
  · rw [e3.mpr q] at p; cases p
  · rw [e3.mp p] at q; cases q
  · rfl
theorem s_emb {s : Int32} {M : Nat → Nat} {c : Nat} (hF : F ≤ 30) (hA : asc M c F) (h1 : ∀ i, i < c → bt s (M i) = true) (h2 : ∀ f, f < F → bt s f = true → ∃ i, i < c ∧ M i = f) (hs : ∀ i, i < 32 → bt s i = true → i < F) : s = mI (emb M c (2 ^ c - 1)) := by
  apply bt_ext
  intro i hi
  rw [bt_mI hi]
  have e2 := emb_t (M := M) (c := c) (p := 2 ^ c - 1) (f := i)
  have e3 : bt s i = true ↔ (emb M c (2 ^ c - 1)).testBit i = true := by
    rw [e2]
    constructor
    · intro a
      obtain ⟨j, j1, rfl⟩ := h2 i (hs i hi a) a
      exact ⟨j, j1, full_t.mpr j1, rfl⟩
    · rintro ⟨j, j1, j2, rfl⟩
      exact h1 j j1
  cases p : bt s i <;> cases q : (emb M c (2 ^ c - 1)).testBit i
  · rfl
  · rw [e3.mpr q] at p; cases p
  · rw [e3.mp p] at q; cases q
  · rfl
theorem m_withdrawL {M : Nat → Nat} {c : Nat} (hM : MW w D F L y φ) (hA : asc M c F) (hc : c ≤ 14) (h57 : ∀ i, i < nW D → w.2.2.1 57 i = mI (emb M c (flP D φ M c i))) : ∃ b, R_X8_withdraw_45 (P.2.1 + 46) (w.2.2.1 57 0) 1 (hp P w ex n sl) = some (mI (emb M c b), hp P w ex n sl) ∧ isLst (fun x => ∃ wd, wd < nW D ∧ x = flP D φ M c wd) b := by
  have nl := nW_lt hM.2.1
  have h30 := hM.2.2.1
  obtain ⟨nw1, nw2, nw3⟩ := nW_w hM.1 hM.2.1
  have hp9 := p14 hc
  have hfl : ∀ wd, flP D φ M c wd < 2 ^ c := fun wd => nbP_lt
  have he : ∀ p, emb M c p < 2 ^ 31 := fun p => Nat.lt_of_lt_of_le (emb_lt hA) (Nat.pow_le_pow_right (by decide) (by omega))
  have key : ∀ d k b, k + d = nW D → (∃ wd, wd < k ∧ b = flP D φ M c wd) → (∀ wd, wd < k → ¬ bet (flP D φ M c wd) b) → ∃ b', R_X8_withdraw_45 (P.2.1 + 46) (mI (emb M c b)) (mI k) (hp P w ex n sl) = some (mI (emb M c b'), hp P w ex n sl) ∧ isLst (fun x => ∃ wd, wd < nW D ∧ x = flP D φ M c wd) b' := by
    intro d
    induction d with
    | zero =>
      intro k b hk h1 h2
      have hk : k = nW D := by omega
      subst hk
      refine ⟨b, ?_, h1, fun x ⟨wd, q1, q2⟩ => by rw [q2]; exact h2 wd q1⟩
      rw [E_X8_withdraw_45, m_worldsMany hM, ob]
      exact if_pos (by rw [nle (by omega) (by omega)]; exact Nat.le_refl _)
    | succ d ih =>
      intro k b hk h1 h2
      have hb : b < 2 ^ c := by obtain ⟨wd, -, q⟩ := h1; rw [q]; exact hfl wd
      rw [E_X8_withdraw_45, m_worldsMany hM, ob]
      try dsimp only
      rw [if_neg (show ¬ mI (nW D) ≤ mI k by rw [nle (by omega) (by omega)]; omega), q_46_20, ob, ra_57 (by omega), ob, h57 k (by omega), m_isFewer (he _) (he _), ob]
      try dsimp only
      by_cases g : bet (flP D φ M c k) b
      · rw [if_neg (fun z => b2_0.mp z ((emb_bet hA (by omega) (by omega) (hfl k) hb).mpr g)), q_46_20, ob, ra_57 (by omega), ob, h57 k (by omega), E_X8_withdraw_79, mI_s]
        refine ih (k + 1) _ (by omega) ⟨k, by omega, rfl⟩ (fun wd hwd z => ?_)
        by_cases q : wd = k
        · subst q; exact bet_irr z
        · exact h2 wd (by omega) (bet_tr z g)
      · rw [if_pos (b2_0.mpr (fun z => g ((emb_bet hA (by omega) (by omega) (hfl k) hb).mp z))), E_X8_withdraw_79, mI_s]
        obtain ⟨wd0, p1, p2⟩ := h1
        refine ih (k + 1) b (by omega) ⟨wd0, by omega, p2⟩ (fun wd hwd z => ?_)
        by_cases q : wd = k
        · subst q; exact g z
        · exact h2 wd (by omega) z
  rw [h57 0 (by omega)]
  exact key (nW D - 1) 1 _ (by omega) ⟨0, by omega, rfl⟩ (fun wd hwd z => by
    have : wd = 0 := by omega
    subst this; exact bet_irr z)
theorem c_needSetT {v : Int32} (hQ : CQ w D F φ) (h : cntP (fun f => bt (sSet v F) f = true) F ≤ 14) : F_X7_needSet P.2.1 v (hp P w ex n sl) = some (.inl (sSet v F), hp P w ex n sl) := by
  have hF := hQ.2.2.1
  rw [E_X7_needSet, z_0, ob, E_X7_needSet_0, q_0_1, ob, q_9_2, ob, hQ.2.2.2.2.1, j_bitCount32, ob]
  try dsimp only
  rw [show cnt (bt (v &&& ((1 <<< (mI F &&& 31)) - 1))) 32 = _ from sSet_cnt hF]
  exact if_pos (by rw [nleL (by omega) (by decide)]; exact h)
theorem c_needSetF {v : Int32} (hQ : CQ w D F φ) (h : ¬ cntP (fun f => bt (sSet v F) f = true) F ≤ 14) : F_X7_needSet P.2.1 v (hp P w ex n sl) = some (.inr eIA, hp P w ex (n + 1) (sl + 6)) := by
  have hF := hQ.2.2.1
  have hl := cntP_le (p := fun f => bt (sSet v F) f = true) (k := F)
  rw [E_X7_needSet, z_0, ob, E_X7_needSet_0, q_0_1, ob, q_9_2, ob, hQ.2.2.2.2.1, j_bitCount32, ob]
  try dsimp only
  rw [show cnt (bt (v &&& ((1 <<< (mI F &&& 31)) - 1))) 32 = _ from sSet_cnt hF]
  exact if_neg (by rw [nleL (by omega) (by decide)]; exact h)
theorem f537v (h : Fr [53, 57] [] (wI w 46 0 0) u) : FV w u ∧ u.1 46 0 = 0 := ⟨FV.t0.tr (h.fv (by decide) (by decide)), by rw [(h.2.1 46 0 (by decide)).1]; exact wI_s⟩
theorem pr_withdraw (hI : IVa P S0 e w n sl D F L R U y φ nf ρ nd) (v : Int32) : PI P S0 e w ex n sl (F_X7_withdraw P.2.1 v) (F_X8_withdraw (P.2.1 + 46) v) csA anyI := by
  have hb := hI.b
  have hQ := hI.Q
  have hl := cntP_le (p := fun f => bt (sSet v F) f = true) (k := F)
  by_cases h : cntP (fun f => bt (sSet v F) f = true) F ≤ 14
  · obtain ⟨w1, M, c, b, a1, a2, a3, a4, a5, a6, a7, a8⟩ := c_fewest (P := P) (ex := ex) (n := n) (sl := sl) hQ h
    refine PI.q trivial hI (x := mI (emb M c b)) (w1 := w1) ?_ (a2.fv (by decide) (by decide)) (fun u hu hv => ?_)
    · simp only [E_X7_withdraw, E_X7_withdraw_0, z_0, ob, c_needSetT hQ h, sumL, q_0_4, a1]
    · have hM0 := hu.M.t0 (v := 0)
      obtain ⟨w', t1, t2, t3⟩ := m_fails (P := P) (ex := ex) (n := n) (sl := sl) (v := v) hM0
      have hM' := hM0.fr t2 (by decide) (by decide) (by decide)
      obtain ⟨b', d1, d2⟩ := m_withdrawL (P := P) (ex := ex) (n := n) (sl := sl) hM' a4 a3 (fun i hi => (t3 i hi).trans (fs_emb hb.2.2.1 a4 a5 a6))
      rw [isLst_uni d2 a8] at d1
      refine ⟨w', ?_, f537v t2⟩
      rw [E_X8_withdraw, z_46, ob, E_X8_withdraw_0, p_46_0, ob, t1, ob]
      try dsimp only
      rw [j_bitCount32, ob]
      try dsimp only
      rw [show cnt (bt (sSet v F)) 32 = _ from sSet_cnt hb.2.2.1, if_pos (by rw [nleL (by omega) (by decide)]; exact h), E_X8_withdraw_26, m_throwsIf0, ob]
      try dsimp only
      rw [if_pos rfl, q_46_20, ob, show s_ai (hp P w' ex n sl) (P.2.1 + 57) 0 = some (w'.2.2.1 57 0) from ra_57 (i := 0) (by decide), ob]
      exact d1
  · have hM0 := hI.M.t0 (v := 0)
    obtain ⟨w', t1, t2, t3⟩ := m_fails (P := P) (ex := ex) (n := n + 1) (sl := sl + 6) (v := v) hM0
    refine PI.x (E := eIA) (k := 1) (b := 0) (w2 := wI w' 46 0 1) hI (by decide) ?_ ?_ ((f537v t2).1.tr FV.t0) wI_s
    · simp only [E_X7_withdraw, E_X7_withdraw_0, z_0, ob, c_needSetF hQ h, sumR]
    · rw [E_X8_withdraw, z_46, ob, E_X8_withdraw_0, p_46_0, ob, t1, ob]
      try dsimp only
      rw [j_bitCount32, ob]
      try dsimp only
      rw [show cnt (bt (sSet v F)) 32 = _ from sSet_cnt hb.2.2.1, if_neg (by rw [nleL (by omega) (by decide)]; exact h), E_X8_withdraw_26, m_throwsIf1, ob]
      exact if_neg (show ¬ (1 : Int32) = 0 by decide)
end MWD
