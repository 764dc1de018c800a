/-! the model's reader: units, the whole descent -/
section MLv
variable {P : sP} {ex : Nat → Option sC} {n sl N D : Nat} {t : Nat → Nat}
theorem m_unitR {k d : Nat} {b dk : Bool} {su si : pF} (hK : KS P) (hD : D ≤ 3) (hd : if dk = true then d < 8 else d = 8) (hu1 : dk = true → MS P t N D (F_X8_readUnit k (P.2.1 + 46)) (d + 1) b (su b)) (hi1 : dk = true → MS P t N D (F_X8_readFormula k (P.2.1 + 46)) (d + 1) b (si b)) (hu0 : dk = true → MS P t N D (F_X8_readUnit k (P.2.1 + 46)) (d + 1) true (su true)) : MS P t N D (F_X8_readUnit (k + 1) (P.2.1 + 46)) d b (pUnit t N D dk su si b) := by
  intro ex n sl w p s L hI
  have hd8 : d ≤ 8 := by cases dk <;> simp only [Bool.false_eq_true, if_false, if_true] at hd <;> omega
  have hp9 : p ≤ N := hI.2.2.2.2.2.2.1
  have hk := sk_le (t := t) hp9
  obtain ⟨w1, a1, a2, a3, a4⟩ := m_has (P := P) (ex := ex) (n := n) (sl := sl) (c := 45) (by decide) hI
  rw [E_X8_readUnit, z_46, ob, E_X8_readUnit_0, show F_X8_has (P.2.1 + 46) 45 (hp P w ex n sl) = _ from a1, ob]
  unfold pUnit
  refine MO.lift a2 ?_
  by_cases g45 : chr t N (sk t N p) = 45
  · rw [if_pos g45] at a3
    rw [if_neg (fun z => b2_0.mp z g45), if_neg (show ¬ chr t N (sk t N p) = 999 by omega), if_pos g45, m_deeper a3 hd8, ob]
    cases dk with
    | false =>
      have hd8 : d = 8 := hd
      rw [if_neg (show ¬ d < 8 by omega), if_pos (show false = false ∨ 40 ≤ s from Or.inl rfl)]
      exact ⟨_, if_pos rfl, FM.rf.pI (by decide), (wI_j (by decide)).trans a4, hk.2⟩
    | true =>
      have hd8 : d < 8 := hd
      have a5 := a3.dp (d' := d + 1)
      have f5 : FM w1 (wI w1 46 11 (mI (d + 1))) := FM.rf.pI (by decide)
      rw [if_pos hd8]
      show MO P ex n sl t N D _ s d b L (if ((1 : Int32) = 0) then _ else _) _
      rw [if_neg (by decide)]
      refine MO.lift f5 ?_
      by_cases g40 : s < 40
      · obtain ⟨w2, c1, c2, c3, c4⟩ := m_puts (P := P) (ex := ex) (n := n) (sl := sl) (x := 12) a5 g40 (by decide)
        rw [if_neg (show ¬ (true = false ∨ 40 ≤ s) from fun z => z.elim (fun z => by cases z) (fun z => by omega)), show F_X8_puts (P.2.1 + 46) 12 (hp P (wI w1 46 11 (mI (d + 1))) ex n sl) = _ from c1, ob]
        show MO P ex n sl t N D _ s d b L (if ((1 : Int32) = 0) then _ else _) _
        rw [if_neg (by decide)]
        refine MO.lift c2 ?_
        have cu := hu1 rfl ex n sl _ _ _ _ c3
        match hr : su b (sk t N p + 1) (s + 1) with
        | .inr y =>
          rw [hr] at cu
          obtain ⟨w3, d1, d2, d3⟩ := cu
          rw [d1, ob]
          exact ⟨w3, if_pos rfl, d2, d3⟩
        | .inl (p', l) =>
          rw [hr] at cu
          obtain ⟨w3, d1, d2, d3⟩ := cu
          rw [d1, ob]
          show MO P ex n sl t N D _ s d b L (if ((1 : Int32) = 0) then _ else _) _
          rw [if_neg (by decide), q_46_11, ob, d3.2.2.2.1, nsubL (by omega), p_46_11, ob]
          have c5 : MI (wI w3 46 11 (mI d)) t N D p' (s + 1 + l.length) d b (L ++ [12] ++ l) := d3.dp (d' := d)
          refine ⟨_, rfl, d2.pI (by decide), ?_⟩
          rw [show s + (12 :: l).length = s + 1 + l.length by rw [List.length_cons]; omega, show L ++ 12 :: l = L ++ [12] ++ l by rw [List.append_assoc]; rfl]
          exact c5
      · rw [if_pos (show true = false ∨ 40 ≤ s from Or.inr (by omega)), m_putsF a5 g40, ob]
        exact ⟨_, if_pos rfl, FM.rf.pI (by decide), (wI_j (by decide)).trans ((wI_j (by decide)).trans a4), hk.2⟩
  · rw [if_neg g45] at a3
    obtain ⟨w2, c1, c2, c3, c4⟩ := m_has (P := P) (ex := ex) (n := n) (sl := sl) (c := 40) (by decide) a3
    rw [sk_sk hp9] at c1 c3 c4
    rw [if_pos (b2_0.mpr g45), if_neg g45]
    refine Eq.mpr (congrArg (fun z => MO P ex n sl t N D w1 s d b L (Option.bind z _) _) c1) ?_
    rw [ob]
    refine MO.lift c2 ?_
    by_cases g4 : chr t N (sk t N p) = 40
    · rw [if_pos g4] at c3
      rw [if_neg (fun z => b2_0.mp z g4), if_neg (show ¬ chr t N (sk t N p) = 999 by omega), if_pos g4, m_deeper c3 hd8, ob]
      cases dk with
      | false =>
        have hd8 : d = 8 := hd
        rw [if_neg (show ¬ d < 8 by omega), if_pos (show false = false from rfl)]
        exact ⟨_, if_pos rfl, FM.rf.pI (by decide), (wI_j (by decide)).trans c4, hk.2⟩
      | true =>
        have hd8 : d < 8 := hd
        have a5 := c3.dp (d' := d + 1)
        have f5 : FM w2 (wI w2 46 11 (mI (d + 1))) := FM.rf.pI (by decide)
        rw [if_pos hd8]
        show MO P ex n sl t N D _ s d b L (if ((1 : Int32) = 0) then _ else _) _
        rw [if_neg (by decide), if_neg (show ¬ (true = false) by decide)]
        refine MO.lift f5 ?_
        have cu := hi1 rfl ex n sl _ _ _ _ a5
        match hr : si b (sk t N p + 1) s with
        | .inr y =>
          rw [hr] at cu
          obtain ⟨w3, d1, d2, d3⟩ := cu
          rw [d1, ob]
          exact ⟨w3, if_pos rfl, d2, d3⟩
        | .inl (p', l) =>
          rw [hr] at cu
          obtain ⟨w3, d1, d2, d3⟩ := cu
          rw [d1, ob]
          show MO P ex n sl t N D _ s d b L (if ((1 : Int32) = 0) then _ else _) (if chr t N (sk t N p') = 41 then _ else _)
          rw [if_neg (by decide), q_46_11, ob, d3.2.2.2.1, nsubL (by omega), p_46_11, ob]
          have c5 : MI (wI w3 46 11 (mI d)) t N D p' (s + l.length) d b (L ++ l) := d3.dp (d' := d)
          have f6 : FM w3 (wI w3 46 11 (mI d)) := FM.rf.pI (by decide)
          have hk' := sk_le (t := t) c5.2.2.2.2.2.2.1
          obtain ⟨w4, e1, e2, e3, e4⟩ := m_has (P := P) (ex := ex) (n := n) (sl := sl) (c := 41) (by decide) c5
          refine Eq.mpr (congrArg (fun z => MO P ex n sl t N D _ s d b L (Option.bind z _) _) e1) ?_
          rw [ob]
          by_cases g41 : chr t N (sk t N p') = 41
          · rw [if_pos g41] at e3
            rw [if_pos g41, b2_t g41]
            exact ⟨w4, if_pos (Or.inr rfl), (d2.tr f6).tr e2, e3⟩
          · rw [if_neg g41, b2_f g41]
            exact ⟨w4, if_pos (Or.inl rfl), (d2.tr f6).tr e2, e4, hk'.2⟩
    · rw [if_neg g4] at c3
      obtain ⟨w3, d1, d2, d3, d4⟩ := m_letters (P := P) (ex := ex) (n := n) (sl := sl) c3
      rw [sk_sk hp9] at d3 d4
      rw [if_pos (b2_0.mpr g4), if_neg g4]
      refine Eq.mpr (congrArg (fun z => MO P ex n sl t N D w2 s d b L (Option.bind z _) _) d1) ?_
      rw [ob]
      refine MO.lift d2 ?_
      have key := m_word (ex := ex) (n := n) (sl := sl) (su := su) hK hD hd d3 d4 rfl hk.2 hu0
      have er : (if chr t N (sk t N p) = 999 then (.inr (sk t N p) : pR) else if 97 ≤ chr t N (sk t N p) ∧ chr t N (sk t N p) ≤ 122 then pWord t N D dk su b (sk t N p) (we t N (sk t N p)) s else .inr (sk t N p)) = pWord t N D dk su b (sk t N p) (we t N (sk t N p)) s := by
        by_cases gl : 97 ≤ chr t N (sk t N p) ∧ chr t N (sk t N p) ≤ 122
        · rw [if_neg (by omega), if_pos gl]
        · rw [if_neg gl, we_n (fun z => gl (chr97.mpr z)), pWord_q]
          split <;> rfl
      rw [er]
      exact key
/-- the whole descent -/
theorem m_lev (hK : KS P) (hD : D ≤ 3) : ∀ r d, d + r = 8 → (∀ b k, 4 * r + 1 ≤ k → MS P t N D (F_X8_readUnit k (P.2.1 + 46)) d b ((lev t N D r).1 b)) ∧ (∀ b k, 4 * r + 4 ≤ k → MS P t N D (F_X8_readFormula k (P.2.1 + 46)) d b ((lev t N D r).2 b)) := by
  have many : ∀ (d : Nat) (b : Bool) (u : pF) (K : Nat), (∀ k, K ≤ k → MS P t N D (F_X8_readUnit k (P.2.1 + 46)) d b (u b)) → ∀ k, K + 2 ≤ k → MS P t N D (F_X8_readOr k (P.2.1 + 46)) d b (pMany t N 124 14 (pMany t N 38 13 u) b) := by
    intro d b u K hu k hk
    obtain ⟨k', rfl⟩ : ∃ k', k = k' + 1 + 1 := ⟨k - 2, by omega⟩
    exact m_readOr (m_readAnd (hu k' (by omega)))
  intro r
  induction r with
  | zero =>
    intro d hd
    have hd8 : (if (false : Bool) = true then d < 8 else d = 8) := by rw [if_neg (by decide)]; omega
    have hU : ∀ b k, 1 ≤ k → MS P t N D (F_X8_readUnit k (P.2.1 + 46)) d b (pUnit t N D false no0 no0 b) := by
      intro b k hk
      obtain ⟨k', rfl⟩ : ∃ k', k = k' + 1 := ⟨k - 1, by omega⟩
      exact m_unitR hK hD hd8 (fun z => by cases z) (fun z => by cases z) (fun z => by cases z)
    refine ⟨hU, fun b k hk => ?_⟩
    obtain ⟨k', rfl⟩ : ∃ k', k = k' + 1 := ⟨k - 1, by omega⟩
    exact m_ifR (si := no0) hd8 (many d b _ 1 (hU b) k' (by omega)) (fun z => by cases z)
  | succ r ih =>
    intro d hd
    obtain ⟨i1, i2⟩ := ih (d + 1) (by omega)
    have hd8 : (if (true : Bool) = true then d < 8 else d = 8) := by rw [if_pos rfl]; omega
    have hU : ∀ b k, 4 * (r + 1) + 1 ≤ k → MS P t N D (F_X8_readUnit k (P.2.1 + 46)) d b (pUnit t N D true (lev t N D r).1 (lev t N D r).2 b) := by
      intro b k hk
      obtain ⟨k', rfl⟩ : ∃ k', k = k' + 1 := ⟨k - 1, by omega⟩
      exact m_unitR hK hD hd8 (fun _ => i1 b k' (by omega)) (fun _ => i2 b k' (by omega)) (fun _ => i1 true k' (by omega))
    refine ⟨hU, fun b k hk => ?_⟩
    obtain ⟨k', rfl⟩ : ∃ k', k = k' + 1 := ⟨k - 1, by omega⟩
    exact m_ifR hd8 (many d b _ (4 * (r + 1) + 1) (hU b) k' (by omega)) (fun _ => i2 b k' (by omega))
end MLv
