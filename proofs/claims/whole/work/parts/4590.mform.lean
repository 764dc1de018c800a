/-! the model's reader: atoms, many, if, units; the whole descent -/
section MFo
variable {P : sP} {ex : Nat → Option sC} {n sl N D : Nat} {t : Nat → Nat}
/-- after reading: the list appended, or a fault's place -/
def MO (P : sP) (ex : Nat → Option sC) (n sl : Nat) (t : Nat → Nat) (N D : Nat) (w : sW) (s d : Nat) (b : Bool) (L : List Nat) (o : Option (Int32 × sS)) (r : pR) : Prop := match r with
  | .inl (p', l) => ∃ w', o = some (1, hp P w' ex n sl) ∧ FM w w' ∧ MI w' t N D p' (s + l.length) d b (L ++ l)
  | .inr x => ∃ w', o = some (0, hp P w' ex n sl) ∧ FM w w' ∧ w'.1 46 10 = mI x ∧ x ≤ N
theorem MO.lift {w w1 : sW} {s d : Nat} {b : Bool} {L : List Nat} {o : Option (Int32 × sS)} {r : pR} (hf : FM w w1) (h : MO P ex n sl t N D w1 s d b L o r) : MO P ex n sl t N D w s d b L o r := by
  match r, h with
  | .inl (p', l), ⟨w', a1, a2, a3⟩ => exact ⟨w', a1, hf.tr a2, a3⟩
  | .inr x, ⟨w', a1, a2, a3⟩ => exact ⟨w', a1, hf.tr a2, a3⟩
/-- a reading function of the model does as its picture says, from every state -/
def MS (P : sP) (t : Nat → Nat) (N D : Nat) (G : sS → Option (Int32 × sS)) (d : Nat) (b : Bool) (f : Nat → Nat → pR) : Prop := ∀ (ex : Nat → Option sC) (n sl : Nat) (w : sW) (p s : Nat) (L : List Nat), MI w t N D p s d b L → MO P ex n sl t N D w s d b L (G (hp P w ex n sl)) (f p s)
theorem m_many {op sg d : Nat} {b : Bool} {f : Nat → Nat → pR} {G : sS → Option (Int32 × sS)} {G17 : Int32 → sS → Option (Int32 × sS)} (hop : op < 128) (hsg : sg < 18) (hu : MS P t N D G d b f) (E17 : ∀ v σ, G17 v σ = ((F_X8_has (P.2.1 + 46) (mI op) σ).bind fun q1 => if q1.1 = 0 then (some (1, q1.2)) else ((F_X8_counts (P.2.1 + 46) q1.2).bind fun q2 => if q2.1 = 0 then (some (0, q2.2)) else ((G q2.2).bind fun q3 => if q3.1 = 0 then (some (0, q3.2)) else ((F_X8_joins (P.2.1 + 46) v (mI sg) q3.2).bind fun q4 => G17 v q4.2))))) : ∀ k (w : sW) p s0 (L l : List Nat), 41 ≤ s0 + l.length + k → MI w t N D p (s0 + l.length) d b (L ++ l) → MO P ex n sl t N D w s0 d b L (G17 (mI L.length) (hp P w ex n sl)) (pLoop t N op sg f k p (s0 + l.length) l) := by
  intro k
  induction k with
  | zero => intro w p s0 L l h1 hI; have := hI.2.2.2.2.2.2.2.1; omega
  | succ k ih =>
    intro w p s0 L l h1 hI
    have h40 := hI.2.2.2.2.2.2.2.1
    have hLs : (L ++ l).length ≤ s0 + l.length := hI.2.2.2.2.2.2.2.2
    obtain ⟨w1, a1, a2, a3, a4⟩ := m_has (P := P) (ex := ex) (n := n) (sl := sl) hop hI
    have hk := sk_le (t := t) hI.2.2.2.2.2.2.1
    rw [E17, a1, ob]
    unfold pLoop
    by_cases g : chr t N (sk t N p) = op
    · rw [if_pos g] at a3
      rw [if_neg (fun z => b2_0.mp z g), if_pos g, m_counts a3, ob]
      by_cases g40 : s0 + l.length < 40
      · rw [if_pos g40, if_neg (show ¬ 40 ≤ s0 + l.length by omega)]
        have a5 := a3.ct (s' := s0 + l.length + 1) (by omega) (by omega)
        have f5 : FM w (wI w1 46 12 (mI (s0 + l.length + 1))) := a2.pI (by decide)
        refine MO.lift f5 ?_
        have cu := hu ex n sl _ _ _ _ a5
        show MO P ex n sl t N D _ s0 d b L (if ((1 : Int32) = 0) then _ else _) _
        rw [if_neg (by decide)]
        match hr : f (sk t N p + 1) (s0 + l.length + 1) with
        | .inr x =>
          rw [hr] at cu
          obtain ⟨w2, c1, c2, c3, c4⟩ := cu
          rw [c1, ob]
          exact ⟨w2, if_pos rfl, c2, c3, c4⟩
        | .inl (p', l') =>
          rw [hr] at cu
          obtain ⟨w2, c1, c2, c3⟩ := cu
          have c3' : MI w2 t N D p' (s0 + l.length + 1 + l'.length) d b (L ++ (l ++ l')) := by rw [← List.append_assoc]; exact c3
          have hlen : (L ++ (l ++ l')).length < s0 + l.length + 1 + l'.length := by
            rw [← List.append_assoc, List.length_append]; omega
          obtain ⟨w3, d1, d2, d3, d4⟩ := m_joins (P := P) (ex := ex) (n := n) (sl := sl) hsg c3' hlen
          rw [c1, ob]
          show MO P ex n sl t N D _ s0 d b L (if ((1 : Int32) = 0) then _ else _) _
          rw [if_neg (by decide), d1, ob]
          have e1 : s0 + l.length + 1 + l'.length = s0 + (sg :: (l ++ l')).length := by rw [List.length_cons, List.length_append]; omega
          rw [e1] at d3
          show MO P ex n sl t N D _ s0 d b L _ (pLoop t N op sg f k p' (s0 + l.length + 1 + l'.length) (sg :: (l ++ l')))
          rw [e1]
          exact MO.lift (c2.tr d2) (ih w3 p' s0 L (sg :: (l ++ l')) (by rw [← e1]; omega) d3)
      · rw [if_neg g40, if_pos (show 40 ≤ s0 + l.length by omega)]
        exact ⟨_, if_pos rfl, a2.pI (by decide), (wI_j (by decide)).trans a4, hk.2⟩
    · rw [if_neg g] at a3
      rw [if_pos (b2_0.mpr g), if_neg g]
      exact ⟨w1, rfl, a2, a3⟩
theorem m_readAnd {k d : Nat} {b : Bool} {u : pF} (hu : MS P t N D (F_X8_readUnit k (P.2.1 + 46)) d b (u b)) : MS P t N D (F_X8_readAnd (k + 1) (P.2.1 + 46)) d b (pMany t N 38 13 u b) := by
  intro ex n sl w p s L hI
  have cu := hu ex n sl w p s L hI
  have h49 : w.2.2.1 49 70 = mI L.length := hI.2.2.2.2.2.1.1
  rw [E_X8_readAnd, z_46, ob, E_X8_readAnd_0, q_46_4, ob]
  have e70 : s_ai (hp P w ex n sl) (P.2.1 + 49) 70 = some (mI L.length) := by rw [← h49]; exact ra_49 (i := 70) (by decide)
  rw [e70, ob]
  unfold pMany
  match hr : u b p s with
  | .inr x =>
    rw [hr] at cu
    obtain ⟨w2, c1, c2, c3⟩ := cu
    rw [c1, ob]
    exact ⟨w2, if_pos rfl, c2, c3⟩
  | .inl (p', l) =>
    rw [hr] at cu
    obtain ⟨w2, c1, c2, c3⟩ := cu
    rw [c1, ob]
    show MO P ex n sl t N D _ s d b L (if ((1 : Int32) = 0) then _ else _) _
    rw [if_neg (by decide)]
    refine MO.lift c2 ?_
    exact m_many (op := 38) (sg := 13) (G := F_X8_readUnit k (P.2.1 + 46)) (G17 := R_X8_readAnd_17 k (P.2.1 + 46)) (by decide) (by decide) hu (fun v σ => E_X8_readAnd_17) 41 w2 p' s L l (by omega) c3
theorem m_readOr {k d : Nat} {b : Bool} {u : pF} (hu : MS P t N D (F_X8_readAnd k (P.2.1 + 46)) d b (u b)) : MS P t N D (F_X8_readOr (k + 1) (P.2.1 + 46)) d b (pMany t N 124 14 u b) := by
  intro ex n sl w p s L hI
  have cu := hu ex n sl w p s L hI
  have h49 : w.2.2.1 49 70 = mI L.length := hI.2.2.2.2.2.1.1
  rw [E_X8_readOr, z_46, ob, E_X8_readOr_0, q_46_4, ob]
  have e70 : s_ai (hp P w ex n sl) (P.2.1 + 49) 70 = some (mI L.length) := by rw [← h49]; exact ra_49 (i := 70) (by decide)
  rw [e70, ob]
  unfold pMany
  match hr : u b p s with
  | .inr x =>
    rw [hr] at cu
    obtain ⟨w2, c1, c2, c3⟩ := cu
    rw [c1, ob]
    exact ⟨w2, if_pos rfl, c2, c3⟩
  | .inl (p', l) =>
    rw [hr] at cu
    obtain ⟨w2, c1, c2, c3⟩ := cu
    rw [c1, ob]
    show MO P ex n sl t N D _ s d b L (if ((1 : Int32) = 0) then _ else _) _
    rw [if_neg (by decide)]
    refine MO.lift c2 ?_
    exact m_many (op := 124) (sg := 14) (G := F_X8_readAnd k (P.2.1 + 46)) (G17 := R_X8_readOr_17 k (P.2.1 + 46)) (by decide) (by decide) hu (fun v σ => E_X8_readOr_17) 41 w2 p' s L l (by omega) c3
theorem m_ifR {k d : Nat} {b dk : Bool} {o si : pF} (hd : if dk = true then d < 8 else d = 8) (ho : MS P t N D (F_X8_readOr k (P.2.1 + 46)) d b (o b)) (hi : dk = true → MS P t N D (F_X8_readFormula k (P.2.1 + 46)) (d + 1) b (si b)) : MS P t N D (F_X8_readFormula (k + 1) (P.2.1 + 46)) d b (pIf t N dk o si b) := by
  intro ex n sl w p s L hI
  have cu := ho ex n sl w p s L hI
  have h49 : w.2.2.1 49 70 = mI L.length := hI.2.2.2.2.2.1.1
  rw [E_X8_readFormula, z_46, ob, E_X8_readFormula_0, q_46_4, ob]
  have e70 : s_ai (hp P w ex n sl) (P.2.1 + 49) 70 = some (mI L.length) := by rw [← h49]; exact ra_49 (i := 70) (by decide)
  rw [e70, ob]
  unfold pIf
  match hr : o b p s with
  | .inr x =>
    rw [hr] at cu
    obtain ⟨w2, c1, c2, c3⟩ := cu
    rw [c1, ob]
    exact ⟨w2, if_pos rfl, c2, c3⟩
  | .inl (p', l) =>
    rw [hr] at cu
    obtain ⟨w2, c1, c2, c3⟩ := cu
    have h40 := c3.2.2.2.2.2.2.2.1
    have hLs : (L ++ l).length ≤ s + l.length := c3.2.2.2.2.2.2.2.2
    have hk := sk_le (t := t) c3.2.2.2.2.2.2.1
    obtain ⟨w3, a1, a2, a3, a4⟩ := m_has (P := P) (ex := ex) (n := n) (sl := sl) (c := 62) (by decide) c3
    have a1' : F_X8_has (P.2.1 + 46) 62 (hp P w2 ex n sl) = _ := a1
    rw [c1, ob]
    show MO P ex n sl t N D _ s d b L (if ((1 : Int32) = 0) then _ else _) (if chr t N (sk t N p') = 62 then _ else _)
    rw [if_neg (by decide), a1', ob]
    refine MO.lift (c2.tr a2) ?_
    by_cases g : chr t N (sk t N p') = 62
    · rw [if_pos g] at a3
      have hd8 : d ≤ 8 := by cases dk <;> simp only [Bool.false_eq_true, if_false, if_true] at hd <;> omega
      rw [if_neg (fun z => b2_0.mp z g), if_pos g, m_deeper a3 hd8, ob]
      cases dk with
      | false =>
        have hd8 : d = 8 := hd
        rw [if_neg (show ¬ d < 8 by omega), if_pos (Or.inl rfl)]
        exact ⟨_, if_pos rfl, FM.rf.pI (by decide), (wI_j (by decide)).trans a4, hk.2⟩
      | true =>
        have hd8 : d < 8 := hd
        have a5 := a3.dp (d' := d + 1)
        rw [if_pos hd8]
        show MO P ex n sl t N D _ s d b L (if ((1 : Int32) = 0) then _ else _) _
        rw [if_neg (by decide), m_counts a5, ob]
        by_cases g40 : s + l.length < 40
        · rw [if_pos g40, if_neg (show ¬ (true = false ∨ 40 ≤ s + l.length) from fun z => z.elim (fun z => by cases z) (fun z => by omega))]
          have a6 := a5.ct (s' := s + l.length + 1) (by omega) (by omega)
          have f6 : FM w3 (wI (wI w3 46 11 (mI (d + 1))) 46 12 (mI (s + l.length + 1))) := (FM.rf.pI (by decide)).pI (by decide)
          refine MO.lift f6 ?_
          have cu2 := hi rfl ex n sl _ _ _ _ a6
          show MO P ex n sl t N D _ s d b L (if ((1 : Int32) = 0) then _ else _) _
          rw [if_neg (by decide)]
          match hr2 : si b (sk t N p' + 1) (s + l.length + 1) with
          | .inr x =>
            rw [hr2] at cu2
            obtain ⟨w4, d1, d2, d3⟩ := cu2
            rw [d1, ob]
            exact ⟨w4, if_pos rfl, d2, d3⟩
          | .inl (p2, l') =>
            rw [hr2] at cu2
            obtain ⟨w4, d1, d2, d3⟩ := cu2
            rw [d1, ob]
            show MO P ex n sl t N D _ s d b L (if ((1 : Int32) = 0) then _ else _) _
            have d4 := d3.dp (d' := d)
            have d5 : MI (wI w4 46 11 (mI d)) t N D p2 (s + l.length + 1 + l'.length) d b (L ++ (l ++ l')) := by rw [← List.append_assoc]; exact d4
            have hlen : (L ++ (l ++ l')).length < s + l.length + 1 + l'.length := by
              rw [← List.append_assoc, List.length_append]; omega
            obtain ⟨w5, e1, e2, e3, e4⟩ := m_joins (P := P) (ex := ex) (n := n) (sl := sl) (x := 15) (by decide) d5 hlen
            have e1' : F_X8_joins (P.2.1 + 46) (mI L.length) 15 (hp P (wI w4 46 11 (mI d)) ex n sl) = _ := e1
            rw [if_neg (by decide), q_46_11, ob, d3.2.2.2.1, nsubL (by omega), p_46_11, ob]
            have ed : d + 1 - 1 = d := by omega
            refine ⟨w5, ?_, (d2.pI (by decide)).tr e2, ?_⟩
            · show Option.bind (F_X8_joins (P.2.1 + 46) (mI L.length) 15 (hp P (wI w4 46 11 (mI (d + 1 - 1))) ex n sl)) _ = _
              rw [ed, e1', ob]
            · rw [show s + (15 :: (l ++ l')).length = s + l.length + 1 + l'.length by rw [List.length_cons, List.length_append]; omega]
              exact e3
        · rw [if_neg g40, if_pos (show true = false ∨ 40 ≤ s + l.length from Or.inr (by omega))]
          exact ⟨_, if_pos rfl, (FM.rf.pI (by decide)).pI (by decide), (wI_j (by decide)).trans ((wI_j (by decide)).trans a4), hk.2⟩
    · rw [if_neg g] at a3
      rw [if_pos (b2_0.mpr g), if_neg g]
      exact ⟨w3, rfl, FM.rf, a3⟩
end MFo
