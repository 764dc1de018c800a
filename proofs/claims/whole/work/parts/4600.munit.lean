/-! the model's reader: atoms, units, the whole descent -/
section MUn
variable {P : sP} {ex : Nat → Option sC} {n sl N D : Nat} {t : Nat → Nat}
theorem m_putMO {w : sW} {e s d q x : Nat} {b : Bool} {L : List Nat} (hI : MI w t N D e s d b L) (hx : x < 18) (h10 : w.1 46 10 = mI q) (hq : q ≤ N) : MO P ex n sl t N D w s d b L ((F_X8_puts (P.2.1 + 46) (mI x) (hp P w ex n sl)).bind fun q3 => if (q3.1 = 0 ∨ q3.1 = 1) then some (q3.1, q3.2) else none) (if 40 ≤ s then .inr q else .inl (e, [x])) := by
  by_cases g : s < 40
  · obtain ⟨w', a1, a2, a3, a4⟩ := m_puts (P := P) (ex := ex) (n := n) (sl := sl) hI g hx
    rw [if_neg (by omega), a1, ob]
    exact ⟨w', if_pos (Or.inr rfl), a2, a3⟩
  · rw [if_pos (show 40 ≤ s by omega), m_putsF hI g, ob]
    exact ⟨_, if_pos (Or.inl rfl), FM.rf.pI (by decide), (wI_j (by decide)).trans h10, hq⟩
theorem m_putMO2 {w : sW} {e s d q x : Nat} {b : Bool} {L : List Nat} (hI : MI w t N D e s d b L) (hx : x < 18) (h10 : w.1 46 10 = mI q) (hq : q ≤ N) : MO P ex n sl t N D w s d b L ((F_X8_puts (P.2.1 + 46) (mI x) (hp P w ex n sl)).bind fun q1 => if q1.1 = 0 then some (0, q1.2) else some (1, q1.2)) (if 40 ≤ s then .inr q else .inl (e, [x])) := by
  by_cases g : s < 40
  · obtain ⟨w', a1, a2, a3, a4⟩ := m_puts (P := P) (ex := ex) (n := n) (sl := sl) hI g hx
    rw [if_neg (by omega), a1, ob]
    exact ⟨w', if_neg (show ¬ ((1 : Int32) = 0) by decide), a2, a3⟩
  · rw [if_pos (show 40 ≤ s by omega), m_putsF hI g, ob]
    exact ⟨_, if_pos rfl, FM.rf.pI (by decide), (wI_j (by decide)).trans h10, hq⟩
def pAtom (t : Nat → Nat) (N D : Nat) (b : Bool) (q e s : Nat) : pR := if e - q = 1 then pShort t N D q s else if (e - q = 2 ∧ (t q = 102 ∨ t q = 103) ∧ t (q + 1) = 120) ∧ b = true ∧ s < 40 then .inl (e, [if t q = 102 then 4 else 5]) else .inr q
theorem we_let {q : Nat} (h : q < we t N q) : q < N ∧ 97 ≤ t q ∧ t q ≤ 122 := Classical.byContradiction fun g => by rw [we_n g] at h; omega
theorem m_readAtom {w : sW} {e s d q : Nat} {b : Bool} {L : List Nat} (hD : D ≤ 3) (hI : MI w t N D e s d b L) (h10 : w.1 46 10 = mI q) (he : e = we t N q) (hq : q ≤ N) : MO P ex n sl t N D w s d b L (F_X8_readAtom (P.2.1 + 46) (hp P w ex n sl)) (pAtom t N D b q e s) := by
  have hT := hI.1
  have h400 := hT.2.1
  have h8 := hI.2.1
  have hqe : q ≤ e := by rw [he]; exact (we_le hq).1
  have heN : e ≤ N := hI.2.2.2.2.2.2.1
  have h40 := hI.2.2.2.2.2.2.2.1
  have n1 : mI e - mI q = mI (e - q) := nsub hqe
  have fail : MO P ex n sl t N D w s d b L (some (0, hp P w ex n sl)) (.inr q) := ⟨w, rfl, FM.rf, h10, hq⟩
  rw [E_X8_readAtom, z_46, ob, E_X8_readAtom_0, q_46_10, ob, q_46_8, ob, h8, h10]
  unfold pAtom
  by_cases ge : e ≤ q
  · have e0 : e - q = 0 := by omega
    rw [if_pos (by rw [nle (by omega) (by omega)]; exact ge), E_X8_readAtom_24, q_46_8, ob, q_46_10, ob, h8, h10, n1, e0, if_neg (by decide), E_X8_readAtom_59, if_neg (by decide), if_neg (by decide), if_neg (by omega), if_neg (fun z => by omega)]
    exact fail
  · obtain ⟨l1, l2, l3⟩ := we_let (t := t) (N := N) (q := q) (by omega)
    have tb := hT.2.2.2 q l1
    have e59 : R_X8_readAtom_59 (P.2.1 + 46) (mI (t q)) (hp P w ex n sl) = if t q = 102 ∨ t q = 103 then R_X8_readAtom_73 (P.2.1 + 46) (mI (t q)) (hp P w ex n sl) else some (0, hp P w ex n sl) := by
      rw [E_X8_readAtom_59]
      by_cases g2 : t q = 102
      · rw [if_pos (by rw [neqL (by omega) (by decide)]; exact g2), if_pos (Or.inl g2)]
      · rw [if_neg (by rw [neqL (by omega) (by decide)]; exact g2)]
        by_cases g3 : t q = 103
        · rw [if_pos (by rw [neqL (by omega) (by decide)]; exact g3), if_pos (Or.inr g3)]
        · rw [if_neg (by rw [neqL (by omega) (by decide)]; exact g3), if_neg (fun z => z.elim g2 g3)]
    rw [if_neg (by rw [nle (by omega) (by omega)]; exact ge), q_46_6, ob, ob, ra_51 (by omega), ob, tb.2, sB_s (by omega), E_X8_readAtom_24, q_46_8, ob, q_46_10, ob, h8, h10, n1]
    by_cases g1 : e - q = 1
    · have e1 : e = q + 1 := by omega
      rw [if_pos (by rw [neqL (by omega) (by decide)]; exact g1), if_pos g1]
      unfold pShort
      by_cases gp : 112 ≤ t q ∧ t q ≤ 115
      · rw [if_neg (by rw [nltL (by omega) (by decide)]; omega), if_neg (by rw [nltR (by omega) (by decide)]; omega), if_pos gp, nsubL (by omega), ← e1]
        exact m_putMO hI (by omega) h10 hq
      · rw [if_neg gp]
        have e24 : (if mI (t q) < 112 then R_X8_readAtom_59 (P.2.1 + 46) (mI (t q)) (hp P w ex n sl) else if (115 : Int32) < mI (t q) then R_X8_readAtom_59 (P.2.1 + 46) (mI (t q)) (hp P w ex n sl) else (F_X8_puts (P.2.1 + 46) (mI (t q) - 112) (hp P w ex n sl)).bind fun q3 => if (q3.1 = 0 ∨ q3.1 = 1) then some (q3.1, q3.2) else none) = R_X8_readAtom_59 (P.2.1 + 46) (mI (t q)) (hp P w ex n sl) := by
          by_cases gl : t q < 112
          · rw [if_pos (by rw [nltL (by omega) (by decide)]; exact gl)]
          · rw [if_neg (by rw [nltL (by omega) (by decide)]; exact gl), if_pos (by rw [nltR (by omega) (by decide)]; omega)]
        rw [e24, e59]
        by_cases gf : t q = 102 ∨ t q = 103
        · rw [if_pos gf, if_pos gf, E_X8_readAtom_73, q_46_8, ob, q_46_10, ob, h8, h10, n1, if_neg (by rw [neqL (by omega) (by decide)]; omega), E_X8_readAtom_133, q_46_8, ob, q_46_10, ob, h8, h10, n1, if_neg (by rw [nltR (by omega) (by decide)]; omega)]
          have at9 := m_isAt (P := P) (ex := ex) (n := n) (sl := sl) (lo := 48) (hi := 57) hT h8 heN (by decide) (by decide)
          rw [show F_X8_isAt (P.2.1 + 46) 48 57 (hp P w ex n sl) = _ from at9, ob, ← e1]
          by_cases g9 : 48 ≤ chr t N e ∧ chr t N e ≤ 57
          · have hlt : e < N := chr_lt (t := t) (N := N) (by omega)
            have ec : chr t N e = t e := if_pos hlt
            have tb2 := hT.2.2.2 e hlt
            rw [ec] at g9
            rw [if_neg (fun z => b2_0.mp z (by rw [ec]; exact g9)), if_pos (by rw [ec]; exact g9), ec, q_46_6, ob, q_46_8, ob, h8, ra_51 (by omega), ob, tb2.2, sB_s (by omega), q_46_12, ob, hI.2.2.1]
            by_cases gs : s = 40
            · rw [if_pos (by rw [neqL (by omega) (by decide)]; exact gs), if_pos (show 40 ≤ s by omega)]
              exact fail
            · rw [if_neg (by rw [neqL (by omega) (by decide)]; exact gs), if_neg (show ¬ 40 ≤ s by omega), m_d, ob, hT.2.2.1, nsubL (by omega)]
              by_cases gd9 : t e - 48 < D
              · rw [if_pos (by rw [nlt (by omega) (by omega)]; exact gd9), if_pos gd9]
                try dsimp only
                rw [q_46_8, ob, h8, naddL, p_46_8, ob]
                have hI2 := hI.pt (q := e + 1) hlt
                have f2 : FM w (wI w 46 8 (mI (e + 1))) := FM.rf.pI (by decide)
                have h102 : (wI w 46 8 (mI (e + 1))).1 46 10 = mI q := (wI_j (by decide)).trans h10
                refine MO.lift f2 ?_
                by_cases g2 : t q = 102
                · have key := m_putMO (P := P) (ex := ex) (n := n) (sl := sl) (x := 6 + (t e - 48)) hI2 (by omega) h102 hq
                  rw [if_neg (show ¬ 40 ≤ s by omega)] at key
                  rw [if_pos (by rw [neqL (by omega) (by decide)]; exact g2), if_pos g2, E_X8_readAtom_225, naddR, show q + 2 = e + 1 by omega]
                  exact key
                · have key := m_putMO (P := P) (ex := ex) (n := n) (sl := sl) (x := 9 + (t e - 48)) hI2 (by omega) h102 hq
                  rw [if_neg (show ¬ 40 ≤ s by omega)] at key
                  rw [if_neg (by rw [neqL (by omega) (by decide)]; exact g2), if_neg g2, E_X8_readAtom_225, naddR, show q + 2 = e + 1 by omega]
                  exact key
              · rw [if_neg (by rw [nlt (by omega) (by omega)]; exact gd9), if_neg gd9]
                try dsimp only
                rw [q_46_8, ob, h8, p_46_10, ob]
                exact ⟨_, rfl, FM.rf.pI (by decide), wI_s, heN⟩
          · rw [if_pos (b2_0.mpr g9), if_neg g9]
            exact fail
        · rw [if_neg gf, if_neg gf]
          exact fail
    · rw [if_neg (by rw [neqL (by omega) (by decide)]; exact g1), if_neg g1, e59]
      have e133 : R_X8_readAtom_133 (P.2.1 + 46) (mI (t q)) (hp P w ex n sl) = some (0, hp P w ex n sl) := by
        rw [E_X8_readAtom_133, q_46_8, ob, q_46_10, ob, h8, h10, n1, if_pos (by rw [nltR (by omega) (by decide)]; omega)]
      by_cases gf : t q = 102 ∨ t q = 103
      · rw [if_pos gf, E_X8_readAtom_73, q_46_8, ob, q_46_10, ob, h8, h10, n1]
        by_cases g2 : e - q = 2
        · have tb2 := hT.2.2.2 (q + 1) (by omega)
          rw [if_pos (by rw [neqL (by omega) (by decide)]; exact g2), q_46_6, ob, ob, naddL, ra_51 (by omega), ob, tb2.2]
          have e120 : (sB (t (q + 1)) = 120) = (t (q + 1) = 120) := propext (sB_eq _ tb2.1 120 (by decide))
          by_cases gx : t (q + 1) = 120
          · rw [if_pos (by rw [e120]; exact gx), q_46_14, ob, hI.2.2.2.2.1]
            cases b with
            | false =>
              rw [if_pos (show bI false = 0 from rfl), if_neg (fun z => by cases z.2.1)]
              exact fail
            | true =>
              rw [if_neg (show ¬ bI true = 0 by decide)]
              have e121 : (if mI (t q) = 102 then R_X8_readAtom_121 4 (P.2.1 + 46) (hp P w ex n sl) else R_X8_readAtom_121 5 (P.2.1 + 46) (hp P w ex n sl)) = R_X8_readAtom_121 (mI (if t q = 102 then 4 else 5)) (P.2.1 + 46) (hp P w ex n sl) := by
                by_cases g3 : t q = 102
                · rw [if_pos (by rw [neqL (by omega) (by decide)]; exact g3), if_pos g3]; rfl
                · rw [if_neg (by rw [neqL (by omega) (by decide)]; exact g3), if_neg g3]; rfl
              have key := m_putMO2 (P := P) (ex := ex) (n := n) (sl := sl) (x := if t q = 102 then 4 else 5) hI (by split <;> omega) h10 hq
              rw [e121, E_X8_readAtom_121]
              by_cases gs : s < 40
              · rw [if_neg (show ¬ 40 ≤ s by omega)] at key
                rw [if_pos (show (e - q = 2 ∧ (t q = 102 ∨ t q = 103) ∧ t (q + 1) = 120) ∧ true = true ∧ s < 40 from ⟨⟨g2, gf, gx⟩, rfl, gs⟩)]
                exact key
              · rw [if_pos (show 40 ≤ s by omega)] at key
                rw [if_neg (show ¬ ((e - q = 2 ∧ (t q = 102 ∨ t q = 103) ∧ t (q + 1) = 120) ∧ true = true ∧ s < 40) from fun z => gs z.2.2)]
                exact key
          · rw [if_neg (by rw [e120]; exact gx), e133, if_neg (fun z => gx z.1.2.2)]
            exact fail
        · rw [if_neg (by rw [neqL (by omega) (by decide)]; exact g2), e133, if_neg (fun z => g2 z.1.1)]
          exact fail
      · rw [if_neg gf, if_neg (fun z => gf z.1.2.1)]
        exact fail
theorem m_143 {w : sW} {k e s d q x : Nat} {L : List Nat} {su : pF} (hI : MI w t N D e s (d + 1) false L) (hx : x < 18) (h10 : w.1 46 10 = mI q) (hq : q ≤ N) (hu : MS P t N D (F_X8_readUnit k (P.2.1 + 46)) (d + 1) true (su true)) : MO P ex n sl t N D w s d false L (R_X8_readUnit_143 k (P.2.1 + 46) (mI x) (P.2.1 + 46) (hp P w ex n sl)) (if 40 ≤ s then .inr q else mapR x (su true e (s + 1))) := by
  rw [E_X8_readUnit_143]
  by_cases g : s < 40
  · obtain ⟨w1, a1, a2, a3, a4⟩ := m_puts (P := P) (ex := ex) (n := n) (sl := sl) hI g hx
    rw [if_neg (by omega), a1, ob]
    show MO P ex n sl t N D _ s d false L (if ((1 : Int32) = 0) then _ else _) _
    rw [if_neg (by decide)]
    refine MO.lift a2 ?_
    have a5 := a3.wt (b' := true)
    have cu := hu ex n sl _ _ _ _ a5
    rw [p_46_14, ob]
    have cu' : MO P ex n sl t N D (wI w1 46 14 1) (s + 1) (d + 1) true (L ++ [x]) (F_X8_readUnit k (P.2.1 + 46) (hp P (wI w1 46 14 1) ex n sl)) (su true e (s + 1)) := cu
    refine MO.lift (show FM w1 (wI w1 46 14 1) from FM.rf.pI (by decide)) ?_
    match hr : su true e (s + 1) with
    | .inr y =>
      rw [hr] at cu'
      obtain ⟨w2, c1, c2, c3⟩ := cu'
      rw [c1, ob]
      exact ⟨w2, if_pos rfl, c2, c3⟩
    | .inl (p', l) =>
      rw [hr] at cu'
      obtain ⟨w2, c1, c2, c3⟩ := cu'
      rw [c1, ob]
      show MO P ex n sl t N D _ s d false L (if ((1 : Int32) = 0) then _ else _) _
      rw [if_neg (by decide), p_46_14, ob, q_46_11, ob]
      have e11 : (wI w2 46 14 0).1 46 11 = mI (d + 1) := (wI_j (by decide)).trans c3.2.2.2.1
      rw [e11, nsubL (by omega), p_46_11, ob]
      have c4 : MI (wI (wI w2 46 14 (bI false)) 46 11 (mI d)) t N D p' (s + 1 + l.length) d false (L ++ [x] ++ l) := (c3.wt (b' := false)).dp (d' := d)
      refine ⟨_, rfl, (c2.pI (by decide)).pI (by decide), ?_⟩
      rw [show s + (x :: l).length = s + 1 + l.length by rw [List.length_cons]; omega, show L ++ x :: l = L ++ [x] ++ l by rw [List.append_assoc]; rfl]
      exact c4
  · rw [if_pos (show 40 ≤ s by omega), m_putsF hI g, ob]
    exact ⟨_, if_pos rfl, FM.rf.pI (by decide), (wI_j (by decide)).trans h10, hq⟩
theorem m_117 {w : sW} {k e s d q x : Nat} {b dk : Bool} {v : Int32} {L : List Nat} {su : pF} (hd : if dk = true then d < 8 else d = 8) (hI : MI w t N D e s d b L) (hv : (v = 0 ∧ x = 17) ∨ (v ≠ 0 ∧ x = 16)) (h10 : w.1 46 10 = mI q) (hq : q ≤ N) (hu : dk = true → MS P t N D (F_X8_readUnit k (P.2.1 + 46)) (d + 1) true (su true)) : MO P ex n sl t N D w s d b L (R_X8_readUnit_117 k (P.2.1 + 46) v (hp P w ex n sl)) (if b = true ∨ dk = false ∨ 40 ≤ s then .inr q else mapR x (su true e (s + 1))) := by
  rw [E_X8_readUnit_117, q_46_14, ob, hI.2.2.2.2.1]
  cases b with
  | true =>
    rw [if_neg (show ¬ bI true = 0 by decide), if_pos (Or.inl rfl)]
    exact ⟨w, rfl, FM.rf, h10, hq⟩
  | false =>
    have hd8 : d ≤ 8 := by cases dk <;> simp only [Bool.false_eq_true, if_false, if_true] at hd <;> omega
    rw [if_pos (show bI false = 0 from rfl), m_deeper hI hd8, ob]
    cases dk with
    | false =>
      have hd8 : d = 8 := hd
      rw [if_neg (show ¬ d < 8 by omega), if_pos (show false = true ∨ false = false ∨ 40 ≤ s from Or.inr (Or.inl rfl))]
      exact ⟨_, if_pos rfl, FM.rf.pI (by decide), (wI_j (by decide)).trans h10, hq⟩
    | true =>
      have hd8 : d < 8 := hd
      have key := m_143 (ex := ex) (n := n) (sl := sl) (su := su) (x := x) (hI.dp (d' := d + 1)) (by rcases hv with h | h <;> omega) ((wI_j (by decide)).trans h10) hq (hu rfl)
      rw [if_pos hd8]
      show MO P ex n sl t N D _ s d false L (if ((1 : Int32) = 0) then _ else _) _
      rw [if_neg (by decide)]
      refine MO.lift (show FM w (wI w 46 11 (mI (d + 1))) from FM.rf.pI (by decide)) ?_
      have er : (if false = true ∨ true = false ∨ 40 ≤ s then (.inr q : pR) else mapR x (su true e (s + 1))) = (if 40 ≤ s then .inr q else mapR x (su true e (s + 1))) := by
        by_cases g : 40 ≤ s
        · rw [if_pos g, if_pos (Or.inr (Or.inr g))]
        · rw [if_neg g, if_neg (fun z => z.elim (fun z => by cases z) (fun z => z.elim (fun z => by cases z) g))]
      rw [er]
      rcases hv with ⟨h1, h2⟩ | ⟨h1, h2⟩
      · rw [if_pos h1]; subst h2; exact key
      · rw [if_neg h1]; subst h2; exact key
theorem pWord_q {dk b : Bool} {su : pF} {q s : Nat} : pWord t N D dk su b q q s = .inr q := by
  unfold pWord
  rw [if_neg (fun z => by have := z.1; simp at this), if_neg (fun z => by have := z.1; simp at this), if_neg (by omega), if_neg (fun z => by omega)]
theorem m_word {w : sW} {k s d q e : Nat} {b dk : Bool} {L : List Nat} {su : pF} (hK : KS P) (hD : D ≤ 3) (hd : if dk = true then d < 8 else d = 8) (hI : MI w t N D e s d b L) (h10 : w.1 46 10 = mI q) (he : e = we t N q) (hq : q ≤ N) (hu : dk = true → MS P t N D (F_X8_readUnit k (P.2.1 + 46)) (d + 1) true (su true)) : MO P ex n sl t N D w s d b L ((F_X8_isWord (P.2.1 + 46) (P.2.2 2) (hp P w ex n sl)).bind fun q4 => if q4.1 = 0 then ((F_X8_isWord (P.2.1 + 46) (q4.2.2.2.2 3) q4.2).bind fun q5 => if q5.1 = 0 then ((F_X8_readAtom (P.2.1 + 46) q5.2).bind fun q6 => if (q6.1 = 0 ∨ q6.1 = 1) then (some (q6.1, q6.2)) else none) else (R_X8_readUnit_117 k (P.2.1 + 46) q4.1 q5.2)) else (R_X8_readUnit_117 k (P.2.1 + 46) q4.1 q4.2)) (pWord t N D dk su b q e s) := by
  have hqe : q ≤ e := by rw [he]; exact (we_le hq).1
  have heN : e ≤ N := hI.2.2.2.2.2.2.1
  rw [m_isWord hI.1 hK.1 hqe heN hI.2.1 h10, ob]
  unfold pWord
  by_cases g : isW t [97, 108, 108] q e
  · rw [if_neg (fun z => b2_0.mp z g), if_pos g]
    exact m_117 hd hI (Or.inr ⟨fun z => b2_0.mp z g, rfl⟩) h10 hq hu
  · rw [if_pos (b2_0.mpr g), if_neg g]
    have i3 := m_isWord (P := P) (ex := ex) (n := n) (sl := sl) hI.1 hK.2.1 hqe heN hI.2.1 h10
    refine Eq.mpr (congrArg (fun z => MO P ex n sl t N D w s d b L (Option.bind z _) _) i3) ?_
    rw [ob]
    by_cases g2 : isW t [115, 111, 109, 101] q e
    · rw [if_neg (fun z => b2_0.mp z g2), if_pos g2]
      exact m_117 hd hI (Or.inl ⟨b2_0.mpr g, rfl⟩) h10 hq hu
    · rw [if_pos (b2_0.mpr g2), if_neg g2]
      have ra := m_readAtom (P := P) (ex := ex) (n := n) (sl := sl) hD hI h10 he hq
      unfold pAtom at ra
      match hr : (if e - q = 1 then pShort t N D q s else if (e - q = 2 ∧ (t q = 102 ∨ t q = 103) ∧ t (q + 1) = 120) ∧ b = true ∧ s < 40 then (.inl (e, [if t q = 102 then 4 else 5]) : pR) else .inr q) with
      | .inr y =>
        rw [hr] at ra
        obtain ⟨w2, c1, c2, c3⟩ := ra
        rw [c1, ob]
        exact ⟨w2, if_pos (Or.inl rfl), c2, c3⟩
      | .inl (p', l) =>
        rw [hr] at ra
        obtain ⟨w2, c1, c2, c3⟩ := ra
        rw [c1, ob]
        exact ⟨w2, if_pos (Or.inr rfl), c2, c3⟩
end MUn
