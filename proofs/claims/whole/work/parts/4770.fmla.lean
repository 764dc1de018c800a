/-! pairs of calls: formula, image, back -/
section FML
variable {P : sP} {S0 e : Nat} {w w' w1 w2 z u : sW} {ex : Nat → Option sC} {n sl D F L R U : Nat} {y : sLn} {φ : Nat → List Nat} {nf : Nat → Nat} {ρ : sRc} {nd : Nat → List Nat}
theorem BK.congr2 {I M I' M' : Nat → Int32} {A A' : Nat → Nat → Int32} {J J' : Nat → Nat → Int64} (h : BK I M A J D F L R U y φ nf ρ) (eI : I' 0 = I 0 ∧ I' 1 = I 1 ∧ I' 2 = I 2 ∧ I' 6 = I 6 ∧ I' 9 = I 9 ∧ I' 10 = I 10) (eM : ∀ i, i < 1682 → M' i = M i) (e2 : ∀ i, i < 3 → A' 2 i = A 2 i) (e3 : ∀ i, i < 4 → A' 3 i = A 3 i) (e6 : ∀ i, i < 30 → A' 6 i = A 6 i) (e7 : ∀ i, i < 51 → A' 7 i = A 7 i) (e8 : ∀ i, i < 240 → A' 8 i = A 8 i) (e9 : ∀ i, i < 120 → A' 9 i = A 9 i) (f1 : ∀ i, i < 480 → J' 1 i = J 1 i) (f4 : ∀ i, i < 40 → J' 4 i = J 4 i) (f5 : ∀ i, i < 40 → J' 5 i = J 5 i) : BK I' M' A' J' D F L R U y φ nf ρ := by
  obtain ⟨bN, bL, bF, bR, bH⟩ := h
  have hb := bN.1
  refine ⟨bN.c (fun j hj => ?_) (fun i hi => eM i (by omega)), bL.c hb.2.2.2.1 e8 (fun i _ hi => eM i (by omega)) f4 f5, bF.c hb.1 hb.2.1 hb.2.2.1 e6 (fun i _ hi => eM i (by omega)) f1, bR.c hb.2.2.2.2.1 e9 eI.2.2.2.2.2 (fun i _ hi => eM i (by omega)), bH.c e2 e3 e7 (fun i _ hi => eM i (by omega))⟩
  rcases hj with rfl | rfl | rfl | rfl | rfl
  · exact eI.1
  · exact eI.2.1
  · exact eI.2.2.1
  · exact eI.2.2.2.1
  · exact eI.2.2.2.2.1
/-- the open books under frames without the nodes' room -/
theorem BKo.c (h : BKo w D F L R U y φ nf ρ) (eI : ∀ j, j < 11 → w'.1 9 j = w.1 9 j) (eM : w'.2.2.1 47 = w.2.2.1 47) (eo : ∀ k, k < 10 → w'.2.2.1 (9 + k) = w.2.2.1 (9 + k) ∧ w'.2.2.2.1 (9 + k) = w.2.2.2.1 (9 + k)) : BKo w' D F L R U y φ nf ρ := by
  refine BK.congr h eI (fun i _ => by rw [eM]) ?_ ?_ ?_ ?_ ?_ ?_ ?_ ?_ ?_ <;> intro i _
  · rw [(eo 2 (by decide)).1]
  · rw [(eo 3 (by decide)).1]
  · rw [(eo 6 (by decide)).1]
  · rw [(eo 7 (by decide)).1]
  · rw [(eo 8 (by decide)).1]
  · rw [(eo 9 (by decide)).1]
  · rw [(eo 1 (by decide)).2]
  · rw [(eo 4 (by decide)).2]
  · rw [(eo 5 (by decide)).2]
theorem FS.fn {e' n' sl' U' : Nat} {nd' : Nat → List Nat} (h : FS P S0 e' w n' sl' U' (fun _ => D) nd') (ea : ∀ k, k < 9 → w'.2.2.1 k = w.2.2.1 k) (ei : w'.1 1 0 = w.1 1 0) (er : w'.2.2.2.2 = w.2.2.2.2) : FS P S0 e' w' n' sl' U' (fun _ => D) nd' := by
  have e2 := ea 2 (by decide)
  have e3 := ea 3 (by decide)
  have e4 := ea 4 (by decide)
  have e5 := ea 5 (by decide)
  have e6 := ea 6 (by decide)
  have e7 := ea 7 (by decide)
  have e8 := ea 8 (by decide)
  unfold FS FT HB AL PL Hs w_fa at *
  rw [e2, e3, e4, e5, e6, e7, e8, ei, er]
  exact h
/-- the formula failed on both sides -/
theorem fm_fail {n' sl' : Nat} {nd' : Nat → List Nat} (hI : IVa P S0 e w n sl D F L R U y φ nf ρ nd) (fs : FS P S0 e w1 n' sl' U (fun _ => D) nd') (xt : XT U (fun _ => D) nd U (fun _ => D) nd') (f1 : FrY fAr rdC w w1) (f2 : FN w1 w2) (z0 : w2.1 29 0 = mI 0) (z7 : w2.1 46 7 = mI 0) (zf : w2.1 29 1 = w2.1 46 13) : IV P S0 (e + 1) w2 (n' + 1) (sl' + 6) := by
  have hb := hI.b
  obtain ⟨h1, h2, h3, h4, h5, h6, h7⟩ := hI
  have arr : ∀ k, 9 ≤ k → k ≠ 49 → k ≠ 50 → w2.2.2.1 k = w.2.2.1 k := fun k hk g1 g2 => (f2.1 k g1 g2).trans (f1.1 k (by simp; omega)).1
  have arl : ∀ k, 9 ≤ k → w2.2.2.2.1 k = w.2.2.2.1 k := fun k hk => by rw [f2.2.2.2.2.2]; exact (f1.1 k (by simp; omega)).2
  have fld : ∀ k j, 100 * k + j ∉ rdC ++ mrC → w2.1 k j = w.1 k j := fun k j hk => (f2.2.2.2.1 k j (fun q => hk (List.mem_append_right _ q))).trans (f1.2 k j (fun q => hk (List.mem_append_left _ q))).1
  refine ⟨D, F, L, R, U, y, φ, nf, ρ, nd', ?_⟩
  refine ⟨h1.c (fun j hj => fld 9 j (by simp; omega)) (arr 47 (by decide) (by decide) (by decide)) (fun k hk => ⟨arr _ (by omega) (by omega) (by omega), arl _ (by omega)⟩), ?_, fun f hf => ?_, fun k hk => ?_, ⟨0, fun _ => 0, by decide, z0, z7, fun i hi => absurd hi (by omega)⟩, zf, ?_⟩
  · exact (fs.xc).fn (fun k hk => f2.1 k (by omega) (by omega)) (f2.2.2.2.1 1 0 (by decide)) (by rw [f2.2.2.2.2.2])
  · rw [(xt.2 _ (h1.2.2.1.1 f hf).2.2.1).1]
    exact h3 f hf
  · obtain ⟨a1, a2, a3, a4⟩ := h4 k hk
    have c49 : ∀ i, i < 30 → w2.2.2.1 49 i = w.2.2.1 49 i := fun i hi => (f2.2.1 i (by omega)).trans (by rw [(f1.1 49 (by decide)).1])
    have c50 : ∀ i, i < 1200 → w2.2.2.1 50 i = w.2.2.1 50 i := fun i hi => (f2.2.2.1 i (by omega)).trans (by rw [(f1.1 50 (by decide)).1])
    exact ⟨(c49 k (by omega)).trans a1, a2, a3, fun i hi => (c50 _ (by omega)).trans (a4 i hi)⟩
  · refine h7.up ⟨fun k hk => ⟨arr _ (by omega) (by omega) (by omega), arl _ (by omega)⟩, arr 48 (by decide) (by decide) (by decide), fun j hj => fld 19 j (by simp; omega), fld 0 8 (by decide), fld 46 3 (by decide)⟩ (Nat.le_refl _) (fun i hi => (xt.2 i hi).1)
theorem pr_formula (hK : KS P) (hC : KC P) (hI : IVa P S0 e w n sl D F L R U y φ nf ρ nd) : PI P S0 e w ex n sl (F_X7_formula P.2.1) (F_X8_formula (P.2.1 + 46)) csAU anyI := by
  have hb := hI.b
  obtain ⟨N, t, t1, t2, t3, t4⟩ := hI.2.2.2.2.1
  have hS := hI.2.1
  have i1 : w.1 9 1 = mI U := hI.1.1.2.1.2.1
  have i0 : w.1 9 0 = mI D := hI.C.2.2.2.2.1
  have i2 : w.1 9 2 = mI F := hI.C.2.2.2.2.2.1
  have m0 : w.2.2.1 47 0 = mI D := hI.M.2.2.2.2.1
  have m1 : w.2.2.1 47 1 = mI F := hI.M.2.2.2.2.2.1
  have cb : ∀ i, i < N → t i < 256 ∧ w.2.2.1 30 i &&& 255 = mI (t i) := fun i hi => ⟨(t4 i hi).1, (t4 i hi).2.1⟩
  match hr : topR t N D with
  | .inr x =>
    obtain ⟨w1, ex1, n1, sl1, nd1, a1, a2, a3, a4, a5, a6⟩ := c_formulaX (ex := ex) hK hb.1 hb.2.1 hS t2 t1 cb (by omega) i0 i1 hr
    obtain ⟨w2, b1, b2', b3, b4, b5, -⟩ := m_formulaX (ex := ex1) (n := n1 + 1) (sl := sl1 + 6) (w := w1) (t := t) hK hb.2.1 ((a4.2 46 7 (by decide)).1.trans t3) t1 (by rw [(a4.1 47 (by decide)).1]; exact m0) (fun i hi => ⟨(t4 i hi).1, by rw [(a4.1 51 (by decide)).1]; exact (t4 i hi).2.2⟩) hr
    refine Or.inr ⟨eIA, 1, w1, ex1, n1 + 1, sl1 + 6, 0, w2, by decide, a1, b1, b3, fm_fail hI a2 a3 a4 b2' ?_ b4 ?_⟩
    · rw [b2'.2.2.2.1 29 0 (by decide)]; exact a5
    · rw [b2'.2.2.2.1 29 1 (by decide), a6, b5]
  | .inl l =>
    by_cases hF : F < 30
    · obtain ⟨i, w0, w1, ex1, n1, sl1, U1, nd1, a1, a2, a3, a4, a5, a6, a7, a8, a9, a10, a11⟩ := c_formulaS (ex := ex) hK hC hb.1 hb.2.1 hS t2 t1 cb (by omega) i0 i2 hF hr
      obtain ⟨g1, g2, g3, g4, g5, g6⟩ := a8
      have arr : ∀ k, 9 ≤ k → k ≠ 10 → k ≠ 15 → w1.2.2.1 k = w.2.2.1 k ∧ w1.2.2.2.1 k = w.2.2.2.1 k := fun k hk q1 q2 => ⟨(g1.1 k (by simp; omega)).1.trans (a7.1 k (by simp; omega)).1, (g1.1 k (by simp; omega)).2.trans (a7.1 k (by simp; omega)).2⟩
      have fld : ∀ k j, 100 * k + j ∉ 902 :: 901 :: rdC → w1.1 k j = w.1 k j := fun k j hk => (g1.2.1 k j (fun q => hk (by simp at q; simp [q]))).1.trans (a7.2 k j (fun q => hk (List.mem_cons_of_mem _ q))).1
      have fl : Fr [72] [] w1 (wL w1 72 0 (mI F).toInt64) := Fr.rf.pL (by decide)
      obtain ⟨w2, b1, b2', b3, b4, b5, b6, b7, b8⟩ := m_formulaS (P := P) (ex := ex1) (n := n1) (sl := sl1) (w := wL w1 72 0 (mI F).toInt64) (t := t) (ls := φ) (F := F) hK hb.2.1 ((fld 46 7 (by decide)).trans t3) t1 ((congrFun (arr 47 (by decide) (by decide) (by decide)).1 0).trans m0) ((congrFun (arr 47 (by decide) (by decide) (by decide)).1 1).trans m1) hF (fun i hi => ⟨(t4 i hi).1, (congrFun (arr 51 (by decide) (by decide) (by decide)).1 i).trans (t4 i hi).2.2⟩) (by rw [show (wL w1 72 0 (mI F).toInt64).2.2.1 47 = w.2.2.1 47 from (arr 47 (by decide) (by decide) (by decide)).1]; exact hI.1.2.2.1.2.1) hr
      obtain ⟨c1, c2, c3, c4, c5, c6, c7⟩ := b2'
      have tc := topR_clo hb.2.1 hr
      refine Or.inl ⟨mI F, w1, ex1, n1, sl1, w2, trivial, a1, b1, b3, ?_, ?_⟩
      · rw [c7]; exact wL_s
      have A2 : ∀ k, 9 ≤ k → k ≠ 10 → k ≠ 15 → k ≠ 47 → k ≠ 49 → k ≠ 50 → w2.2.2.1 k = w.2.2.1 k := fun k q0 q1 q2 q3 q4 q5 => (c1 k q3 q4 q5).trans (arr k q0 q1 q2).1
      have A15 : w2.2.2.1 15 = w1.2.2.1 15 := c1 15 (by decide) (by decide) (by decide)
      have A47 : ∀ j, j ≠ 1 → j < 62 + 41 * F ∨ 62 + 41 * F + 40 < j → w2.2.2.1 47 j = w.2.2.1 47 j := fun j q1 q2 => (c2 j q1 q2).trans (congrFun (arr 47 (by decide) (by decide) (by decide)).1 j)
      have L2 : ∀ k, 9 ≤ k → k ≠ 10 → k ≠ 15 → k ≠ 72 → w2.2.2.2.1 k = w.2.2.2.1 k := fun k q0 q1 q2 q3 => by
        rw [c7]
        exact (up2_k q3).trans (arr k q0 q1 q2).2
      have L10 : w2.2.2.2.1 10 = w1.2.2.2.1 10 := by
        rw [c7]
        exact up2_k (f := w1.2.2.2.1) (j := 0) (x := (mI F).toInt64) (show 10 ≠ 72 by decide)
      have F2 : ∀ k j, 100 * k + j ∉ (902 :: 901 :: rdC) ++ mrC → w2.1 k j = w.1 k j := fun k j hk => (c5 k j (fun q => hk (List.mem_append_right _ q))).trans (fld k j (fun q => hk (List.mem_append_left _ q)))
      have w10 : ∀ j, j < F * 16 ∨ F * 16 + 16 ≤ j → w1.2.2.2.1 10 j = w.2.2.2.1 10 j := fun j hj => (g5 j hj).trans (by rw [(a7.1 10 (by decide)).2])
      have w15 : ∀ j, j ≠ F → w1.2.2.1 15 j = w.2.2.1 15 j := fun j hj => (g3 j hj).trans (by rw [(a7.1 15 (by decide)).1])
      obtain ⟨⟨bN, bL, bF, bR, bH⟩, k2, k3, k4, k5, k6, k7⟩ := hI
      refine ⟨D, F + 1, L, R, U1, y, setF φ F l, fun f => if f = F then i else nf f, ρ, nd1, ⟨⟨⟨⟨hb.1, hb.2.1, by omega, hb.2.2.2.1, hb.2.2.2.2.1, by omega⟩, ⟨?_, ?_, ?_, ?_, ?_⟩, ?_, b6, ?_, ?_⟩, ⟨fun l' hl' => ?_, hasLn_congr bL.2.1 (fun j hj => ?_), hasLn_congr bL.2.2.1 (fun j hj => ?_), fun l' hl' => ?_, fun l' hl' => ?_⟩, ⟨fun f hf => ?_, b7, fun f hf wo hwo => ?_⟩, bR.c hb.2.2.2.2.1 (fun j hj => ?_) ?_ (fun j hj hj' => ?_), bH.c (fun j hj => ?_) (fun j hj => ?_) (fun j hj => ?_) (fun j hj hj' => ?_)⟩, ?_, fun f hf => ?_, b8, ⟨0, fun _ => 0, by decide, ?_, b4, fun q hq => absurd hq (by omega)⟩, ?_, ?_⟩⟩
      · rw [F2 9 0 (by decide)]; exact i0
      · rw [c5 9 1 (by decide)]; exact a9
      · rw [c5 9 2 (by decide)]; exact g2
      · rw [F2 9 6 (by decide)]; exact bN.2.1.2.2.2.1
      · rw [F2 9 9 (by decide)]; exact bN.2.1.2.2.2.2
      · rw [A47 0 (by decide) (by omega)]; exact m0
      · rw [A47 2 (by decide) (by omega)]; exact bN.2.2.2.2.1
      · rw [A47 3 (by decide) (by omega)]; exact bN.2.2.2.2.2
      · obtain ⟨o1, o2, o3, o4, o5⟩ := bL.1 l' hl'
        exact ⟨o1, by omega, o3, o4, o5⟩
      · try dsimp only
        rw [A2 (9 + 8) (by decide) (by decide) (by decide) (by decide) (by decide) (by decide)]
      · exact A47 _ (by omega) (by omega)
      · try dsimp only
        rw [L2 (9 + 4) (by decide) (by decide) (by decide) (by decide)]
        exact bL.2.2.2.1 l' hl'
      · try dsimp only
        rw [L2 (9 + 5) (by decide) (by decide) (by decide) (by decide)]
        exact bL.2.2.2.2 l' hl'
      · show wff (setF φ F l f) ∧ clo (setF φ F l f) ∧ (if f = F then i else nf f) < U1 ∧ w2.2.2.1 15 f = mI (if f = F then i else nf f)
        unfold setF
        rw [A15]
        by_cases q : f = F
        · rw [if_pos q, if_pos q, q]
          exact ⟨tc.2.1, tc.1, a5, g4⟩
        · rw [if_neg q, if_neg q, w15 f q]
          obtain ⟨p1, p2, p3, p4⟩ := bF.1 f (by omega)
          exact ⟨p1, p2, Nat.lt_of_lt_of_le p3 a3.1, p4⟩
      · have hw := (nW_w hb.1 hb.2.1).2.1
        show w2.2.2.2.1 10 (f * 16 + wo) = rowS (fun wd => TR D wd (setF φ F l f)) wo
        rw [L10]
        unfold setF
        by_cases q : f = F
        · rw [if_pos q, q]
          exact g6 wo hwo
        · rw [if_neg q, w10 _ (by omega)]
          exact bF.2.2 f (by omega) wo hwo
      · try dsimp only
        rw [A2 (9 + 9) (by decide) (by decide) (by decide) (by decide) (by decide) (by decide)]
      · exact F2 9 10 (by decide)
      · exact A47 j (by omega) (by omega)
      · try dsimp only
        rw [A2 (9 + 2) (by decide) (by decide) (by decide) (by decide) (by decide) (by decide)]
      · try dsimp only
        rw [A2 (9 + 3) (by decide) (by decide) (by decide) (by decide) (by decide) (by decide)]
      · try dsimp only
        rw [A2 (9 + 7) (by decide) (by decide) (by decide) (by decide) (by decide) (by decide)]
      · exact A47 j (by omega) (by omega)
      · refine a2.fn (fun k hk => ?_) (c5 1 0 (by decide)) (by rw [c7])
        exact c1 k (by omega) (by omega) (by omega)
      · show nd1 (if f = F then i else nf f) = setF φ F l f
        unfold setF
        by_cases q : f = F
        · rw [if_pos q, if_pos q]; exact a6
        · rw [if_neg q, if_neg q, (a3.2 _ (bF.1 f (by omega)).2.2.1).1]
          exact k3 f (by omega)
      · rw [c5 29 0 (by decide)]; exact a10
      · rw [c5 29 1 (by decide), b5]; exact a11
      · refine k7.up ⟨fun k hk => ⟨A2 _ (by omega) (by omega) (by omega) (by omega) (by omega) (by omega), L2 _ (by omega) (by omega) (by omega) (by omega)⟩, A2 48 (by decide) (by decide) (by decide) (by decide) (by decide) (by decide), fun j hj => F2 19 j (by simp; omega), F2 0 8 (by decide), F2 46 3 (by decide)⟩ a3.1 (fun i hi => (a3.2 i hi).1)
    · have hF30 : F = 30 := by omega
      subst hF30
      obtain ⟨w1, ex1, n1, sl1, nd1, a1, a2, a3, a4, a5, a6⟩ := c_formulaF (ex := ex) hK hb.1 hb.2.1 hS t2 t1 cb (by omega) i0 i1 i2 hr
      obtain ⟨w2, b1, b2', b3, b4, b5⟩ := m_formulaF (ex := ex1) (n := n1 + 1) (sl := sl1 + 6) (w := w1) (t := t) hK hb.2.1 ((a4.2 46 7 (by decide)).1.trans t3) t1 (by rw [(a4.1 47 (by decide)).1]; exact m0) (by rw [(a4.1 47 (by decide)).1]; exact m1) (fun i hi => ⟨(t4 i hi).1, by rw [(a4.1 51 (by decide)).1]; exact (t4 i hi).2.2⟩) hr
      refine Or.inr ⟨eUO, 2, w1, ex1, n1 + 1, sl1 + 6, 0, w2, by decide, a1, b1, b3, fm_fail hI a2 a3 a4 b2' ?_ b4 ?_⟩
      · rw [b2'.2.2.2.1 29 0 (by decide)]; exact a5
      · rw [b2'.2.2.2.1 29 1 (by decide), a6, b5]
/-! image -/
def PU (P : sP) (S0 e : Nat) (w : sW) (ex : Nat → Option sC) (n sl : Nat) : Prop := ∃ w1 w2, F_X7_image P.2.1 (hp P w ex n sl) = some ((), hp P w1 ex n sl) ∧ F_X8_image (P.2.1 + 46) (hp P w1 ex n sl) = some ((), hp P w2 ex n sl) ∧ IV P S0 e w2 n sl
theorem m_imageL : ∀ d k (u : sW), k + d = 1682 → Fr [48] [4600] w u → (∀ i, i < k → u.2.2.1 48 i = w.2.2.1 47 i) → ∃ w', R_X8_image_7 (P.2.1 + 46) (mI k) (hp P u ex n sl) = some ((), hp P (wI w' 46 3 1) ex n sl) ∧ Fr [48] [4600] w w' ∧ ∀ i, i < 1682 → w'.2.2.1 48 i = w.2.2.1 47 i := by
  intro d
  induction d with
  | zero =>
    intro k u hk hu hi
    have hk : k = 1682 := by omega
    subst hk
    refine ⟨u, ?_, hu, hi⟩
    rw [E_X8_image_7, if_pos (by decide), p_46_3, ob]
  | succ d ih =>
    intro k u hk hu hi
    rw [E_X8_image_7, if_neg (show ¬ (1682 : Int32) ≤ mI k by rw [nleR (by omega) (by decide)]; exact Nat.not_le.mpr (by omega)), q_46_2, ob, q_46_1, ob, ra_47 (by omega), ob, wa_48 (by omega), ob, mI_s]
    refine ih (k + 1) _ (by omega) (hu.pA (by decide)) (fun i hi' => ?_)
    by_cases q : i = k
    · subst q
      ((try dsimp only [wA, wI, wL, wJ]); (repeat first | rw [up2_n (by omega)] | rw [up2_e (by omega) (by omega)]))
      rw [hu.a (k := 47) (by decide)]
    · ((try dsimp only [wA, wI, wL, wJ]); (repeat first | rw [up2_n (by omega)] | rw [up2_e (by omega) (by omega)]))
      exact hi i (by omega)
theorem m_backL : ∀ d k (u : sW), k + d = 1682 → Fr [47] [4600] w u → (∀ i, i < k → u.2.2.1 47 i = w.2.2.1 48 i) → ∃ w', R_X8_back_16 (P.2.1 + 46) (mI k) (hp P u ex n sl) = ((F_X8_fills (P.2.1 + 46) (hp P w' ex n sl)).bind fun q1 => some (1, q1.2)) ∧ Fr [47] [4600] w w' ∧ ∀ i, i < 1682 → w'.2.2.1 47 i = w.2.2.1 48 i := by
  intro d
  induction d with
  | zero =>
    intro k u hk hu hi
    have hk : k = 1682 := by omega
    subst hk
    refine ⟨u, ?_, hu, hi⟩
    rw [E_X8_back_16, if_pos (by decide)]
  | succ d ih =>
    intro k u hk hu hi
    rw [E_X8_back_16, if_neg (show ¬ (1682 : Int32) ≤ mI k by rw [nleR (by omega) (by decide)]; exact Nat.not_le.mpr (by omega)), q_46_1, ob, q_46_2, ob, ra_48 (by omega), ob, wa_47 (by omega), ob, mI_s]
    refine ih (k + 1) _ (by omega) (hu.pA (by decide)) (fun i hi' => ?_)
    by_cases q : i = k
    · subst q
      ((try dsimp only [wA, wI, wL, wJ]); (repeat first | rw [up2_n (by omega)] | rw [up2_e (by omega) (by omega)]))
      rw [hu.a (k := 48) (by decide)]
    · ((try dsimp only [wA, wI, wL, wJ]); (repeat first | rw [up2_n (by omega)] | rw [up2_e (by omega) (by omega)]))
      exact hi i (by omega)
theorem pr_image (hI : IVa P S0 e w n sl D F L R U y φ nf ρ nd) : PU P S0 e w ex n sl := by
  have hb := hI.b
  obtain ⟨w1, a1, a2, T0, T1, T2, T6, T9, T10, s2, s3, s6, s7, s8, s9, j1, j4, j5⟩ := c_take1 (P := P) (w := w) (ex := ex) (n := n) (sl := sl)
  obtain ⟨w3, b1, b2', b3⟩ := m_imageL (P := P) (ex := ex) (n := n) (sl := sl) (w := wI w1 0 8 1) 1682 0 (wI (wI w1 0 8 1) 46 0 0) (by omega) (Fr.rf.pI (by decide)) (fun i hi => absurd hi (by omega))
  have f : Fr [20, 21, 22, 23, 24, 25, 26, 27, 28, 48] [1900, 1901, 1902, 1906, 1909, 1910, 8, 4600, 4603] w (wI w3 46 3 1) := ((((a2.mo (by decide) (by decide)).pI (k := 0) (j := 8) (by decide)).tr (b2'.mo (by decide) (by decide))).pI (k := 46) (j := 3) (by decide))
  refine ⟨wI w1 0 8 1, wI w3 46 3 1, ?_, ?_, D, F, L, R, U, y, φ, nf, ρ, nd, ?_⟩
  · rw [E_X7_image, z_0, ob, E_X7_image_0, q_0_2, ob, q_0_1, ob, a1, ob]
    try dsimp only
    rw [p_0_8, ob]
  · rw [E_X8_image, z_46, ob, E_X8_image_0, p_46_0, ob]
    exact b1
  · obtain ⟨h1, h2, h3, h4, h5, h6, h7⟩ := hI
    have g : ∀ k j, 100 * k + j ∉ [4600, 8, 4603] → (wI w3 46 3 1).1 k j = w1.1 k j := fun k j hk => by
      have q1 : ¬ (k = 46 ∧ j = 3) := fun z => hk (by rw [z.1, z.2]; decide)
      have q2 : ¬ (k = 0 ∧ j = 8) := fun z => hk (by rw [z.1, z.2]; decide)
      have e1 : (wI w3 46 3 1).1 k j = w3.1 k j := if_neg q1
      have e2 : (wI w1 0 8 1).1 k j = w1.1 k j := if_neg q2
      rw [e1, (b2'.2.1 k j (fun z => hk (by simp at z; simp [z]))).1, e2]
    have gA : ∀ k, k ≠ 48 → w3.2.2.1 k = w1.2.2.1 k := fun k hk => (b2'.1 k (by simp [hk])).1
    have gL : ∀ k, k ≠ 48 → w3.2.2.2.1 k = w1.2.2.2.1 k := fun k hk => (b2'.1 k (by simp [hk])).2
    refine ⟨h1.c (fun j hj => f.i (by simp; omega)) (f.a (by decide)) (fun k hk => f.1 (9 + k) (by simp; omega)), h2.fr f (by decide) (by decide), h3, fun k hk => (h4 k hk).fr f (by decide) (by decide), ?_, ?_, Or.inr ⟨?_, ?_, D, F, L, R, U, y, φ, nf, ρ, ?_, fun _ => ⟨rfl, Nat.le_refl _, h3, fun i hi r hr t ht => FS_bind h2 hb.2.1 hi hr ht⟩⟩⟩
    · obtain ⟨N, t, t1, t2, t3, t4⟩ := h5
      refine ⟨N, t, t1, ?_, ?_, fun i hi => ?_⟩
      · rw [f.i (k := 29) (j := 0) (by decide)]; exact t2
      · rw [f.i (k := 46) (j := 7) (by decide)]; exact t3
      · rw [f.a (k := 30) (by decide), f.a (k := 51) (by decide)]; exact t4 i hi
    · rw [f.i (k := 29) (j := 1) (by decide), f.i (k := 46) (j := 13) (by decide)]; exact h6
    · have e1 : (wI w3 46 3 1).1 0 8 = w3.1 0 8 := by ((try dsimp only [wA, wI, wL, wJ]); (repeat first | rw [up2_n (by omega)] | rw [up2_e (by omega) (by omega)]))
      rw [e1, (b2'.2.1 0 8 (by decide)).1]
      exact wI_s
    · exact wI_s
    · refine BK.congr2 h1 ⟨?_, ?_, ?_, ?_, ?_, ?_⟩ (fun i hi => ?_) (fun i hi => ?_) (fun i hi => ?_) (fun i hi => ?_) (fun i hi => ?_) (fun i hi => ?_) (fun i hi => ?_) (fun i hi => ?_) (fun i hi => ?_) (fun i hi => ?_)
      · rw [g 19 0 (by decide)]; exact T0
      · rw [g 19 1 (by decide)]; exact T1
      · rw [g 19 2 (by decide)]; exact T2
      · rw [g 19 6 (by decide)]; exact T6
      · rw [g 19 9 (by decide)]; exact T9
      · rw [g 19 10 (by decide)]; exact T10
      · show w3.2.2.1 48 i = w.2.2.1 47 i
        rw [b3 i hi]
        show w1.2.2.1 47 i = _
        rw [a2.a (k := 47) (by decide)]
      · show w3.2.2.1 (19 + 2) i = _
        rw [gA _ (by decide)]; exact s2 i hi
      · show w3.2.2.1 (19 + 3) i = _
        rw [gA _ (by decide)]; exact s3 i hi
      · show w3.2.2.1 (19 + 6) i = _
        rw [gA _ (by decide)]; exact s6 i hi
      · show w3.2.2.1 (19 + 7) i = _
        rw [gA _ (by decide)]; exact s7 i hi
      · show w3.2.2.1 (19 + 8) i = _
        rw [gA _ (by decide)]; exact s8 i hi
      · show w3.2.2.1 (19 + 9) i = _
        rw [gA _ (by decide)]; exact s9 i hi
      · show w3.2.2.2.1 (19 + 1) i = _
        rw [gL _ (by decide)]; exact j1 i hi
      · show w3.2.2.2.1 (19 + 4) i = _
        rw [gL _ (by decide)]; exact j4 i hi
      · show w3.2.2.2.1 (19 + 5) i = _
        rw [gL _ (by decide)]; exact j5 i hi
/-! back -/
theorem pr_back (hI : IVa P S0 e w n sl D F L R U y φ nf ρ nd) : PN P S0 e w ex n sl (F_X7_back P.2.1) (F_X8_back (P.2.1 + 46)) := by
  have hb := hI.b
  have hI0 := hI
  obtain ⟨h1, h2, h3, h4, h5, h6, h7⟩ := hI
  rcases h7 with ⟨z1, z2⟩ | ⟨z1, z2, D', F', L', R', U', y', φ', nf', ρ', z3, z4⟩
  · refine ⟨0, w, ex, n, sl, wI w 46 0 0, ?_, ?_, (hI0.fv FV.t0).iv⟩
    · rw [E_X7_back, z_0, ob, E_X7_back_0, q_0_8, ob, z1, if_pos rfl]
    · have e3 : (wI w 46 0 0).1 46 3 = 0 := by
        refine Eq.trans ?_ z2
        ((try dsimp only [wA, wI, wL, wJ]); (repeat first | rw [up2_n (by omega)] | rw [up2_e (by omega) (by omega)]))
      rw [E_X8_back, z_46, ob, E_X8_back_0, p_46_0, ob, q_46_3, ob, e3, if_pos rfl]
  · have hb' := z3.1.1
    obtain ⟨w1, a1, a2, T0, T1, T2, T6, T9, T10, s2, s3, s6, s7, s8, s9, j1, j4, j5⟩ := c_take2 (P := P) (w := w) (ex := ex) (n := n) (sl := sl)
    have hS1 : FS P S0 e w1 n sl U (fun _ => D) nd := h2.fr a2 (by decide) (by decide)
    have hU' : U' ≤ U ∧ ∀ i, i < U' → ∀ r, (nd i = 16 :: r ∨ nd i = 17 :: r) → ∀ t, t < D → ∃ q, q < U' ∧ nd q = r.map (ins (some t)) := by
      rcases Nat.eq_zero_or_pos F' with q | q
      · have : U' = 0 := by have := hb'.2.2.2.2.2; omega
        subst this
        exact ⟨Nat.zero_le _, fun i hi => absurd hi (by omega)⟩
      · exact ⟨(z4 q).2.1, (z4 q).2.2.2⟩
    obtain ⟨w2, c1, c2, c3⟩ := c_cut (P := P) (ex := ex) hS1 hU'.1 hU'.2
    have e1 : w1.1 9 1 = mI U' := T1.trans z3.1.2.1.2.1
    have e3 : (wI w2 46 0 0).1 46 3 = 1 := by
      refine Eq.trans ?_ z2
      ((try dsimp only [wA, wI, wL, wJ]); (repeat first | rw [up2_n (by omega)] | rw [up2_e (by omega) (by omega)]))
      rw [c3.i (k := 46) (j := 3) (by decide), a2.i (k := 46) (j := 3) (by decide)]
    obtain ⟨w3, b1, b2', b3⟩ := m_backL (P := P) (ex := ex) (n := n) (sl := sl) (w := w2) 1682 0 (wI w2 46 0 0) (by omega) (Fr.rf.pI (by decide)) (fun i hi => absurd hi (by omega))
    have x48 : ∀ i, w2.2.2.1 48 i = w.2.2.1 48 i := fun i => by rw [c3.a (k := 48) (by decide), a2.a (k := 48) (by decide)]
    have x47 : ∀ i, i < 1682 → w3.2.2.1 47 i = w.2.2.1 48 i := fun i hi => (b3 i hi).trans (x48 i)
    have fw : fwd (w3.2.2.1 47) F' φ' := fun f hf => by
      obtain ⟨p1, p2, p3, p4⟩ := z3.2.2.1.2.1 f hf
      have := hb'.2.2.1
      exact ⟨by rw [x47 _ (by omega)]; exact p1, p2, p3, fun i hi => by rw [x47 _ (by omega)]; exact p4 i hi⟩
    obtain ⟨w4, d1, d2, d3⟩ := m_fills (P := P) (ex := ex) (n := n) (sl := sl) (w := w3) (l := φ') hb'.2.2.1 ((x47 1 (by decide)).trans z3.1.2.2.2.1) fw
    refine ⟨1, w2, ex, n, sl, w4, ?_, ?_, D', F', L', R', U', y', φ', nf', ρ', nd, ?_⟩
    · rw [E_X7_back, z_0, ob, E_X7_back_0, q_0_8, ob, z1, if_neg (by decide), q_0_1, ob, q_0_2, ob, a1, ob]
      try dsimp only
      rw [q_0_0, ob, q_0_1, ob, q_9_1, ob, e1, c1, ob]
    · rw [E_X8_back, z_46, ob, E_X8_back_0, p_46_0, ob, q_46_3, ob, e3, if_neg (by decide)]
      refine Eq.trans b1 ?_
      rw [d1, ob]
    · have A4 : ∀ k, k ≠ 8 → k ≠ 47 → k ≠ 49 → k ≠ 50 → w4.2.2.1 k = w1.2.2.1 k := fun k q0 q1 q2 q3 => (d2.1 k q2 q3).trans ((b2'.1 k (by simp [q1])).1.trans (c3.1 k (by simp [q0])).1)
      have L4 : ∀ k, k ≠ 8 → k ≠ 47 → w4.2.2.2.1 k = w1.2.2.2.1 k := fun k q0 q1 => by
        rw [d2.2.2.2.2.2]
        exact (b2'.1 k (by simp [q1])).2.trans (c3.1 k (by simp [q0])).2
      have I4 : ∀ k j, 100 * k + j ∉ [100, 4600] → w4.1 k j = w1.1 k j := fun k j hk => by
        rw [d2.2.2.2.1, (b2'.2.1 k j (fun q => hk (by simp at q; simp [q]))).1]
        exact (c3.2.1 k j (fun q => hk (by simp at q; simp [q]))).1
      have o4 : ∀ k j, 100 * k + j ∉ [100, 4600, 900, 901, 902, 906, 909, 910] → w4.1 k j = w.1 k j := fun k j hk => (I4 k j (fun q => hk (by simp at q; rcases q with q | q <;> simp [q]))).trans (a2.2.1 k j (fun q => hk (by simp at q; simp; omega))).1
      have ks : KS0 w w4 := ⟨fun k hk => ⟨(A4 _ (by omega) (by omega) (by omega) (by omega)).trans (a2.1 (19 + k) (by simp; omega)).1, (L4 _ (by omega) (by omega)).trans (a2.1 (19 + k) (by simp; omega)).2⟩, (A4 48 (by decide) (by decide) (by decide) (by decide)).trans (a2.1 48 (by decide)).1, fun j hj => o4 19 j (by simp; omega), o4 0 8 (by decide), o4 46 3 (by decide)⟩
      have fsD : FS P S0 e w4 n sl U' (fun _ => D') nd := by
        have q0 : FS P S0 e w4 n sl U' (fun _ => D) nd := c2.fn (fun k hk => (d2.1 k (by omega) (by omega)).trans (b2'.1 k (by simp; omega)).1) (by rw [d2.2.2.2.1, (b2'.2.1 1 0 (by decide)).1]) (by rw [d2.2.2.2.2.2]; exact b2'.2.2)
        rcases Nat.eq_zero_or_pos F' with q | q
        · have : U' = 0 := by have := hb'.2.2.2.2.2; omega
          subst this
          exact q0.zero
        · rw [(z4 q).1]; exact q0
      refine ⟨?_, fsD, fun f hf => (z4 (by omega)).2.2.1 f hf, d3, ?_, ?_, Or.inr ⟨?_, ?_, D', F', L', R', U', y', φ', nf', ρ', z3.s ks, fun q => ⟨rfl, Nat.le_refl _, (z4 q).2.2.1, by rw [(z4 q).1]; exact (z4 q).2.2.2⟩⟩⟩
      · refine BK.congr2 z3 ⟨?_, ?_, ?_, ?_, ?_, ?_⟩ (fun i hi => ?_) (fun i hi => ?_) (fun i hi => ?_) (fun i hi => ?_) (fun i hi => ?_) (fun i hi => ?_) (fun i hi => ?_) (fun i hi => ?_) (fun i hi => ?_) (fun i hi => ?_)
        · rw [I4 9 0 (by decide)]; exact T0
        · rw [I4 9 1 (by decide)]; exact T1
        · rw [I4 9 2 (by decide)]; exact T2
        · rw [I4 9 6 (by decide)]; exact T6
        · rw [I4 9 9 (by decide)]; exact T9
        · rw [I4 9 10 (by decide)]; exact T10
        · rw [d2.1 47 (by decide) (by decide)]; exact x47 i hi
        · show w4.2.2.1 (9 + 2) i = _
          rw [A4 _ (by decide) (by decide) (by decide) (by decide)]; exact s2 i hi
        · show w4.2.2.1 (9 + 3) i = _
          rw [A4 _ (by decide) (by decide) (by decide) (by decide)]; exact s3 i hi
        · show w4.2.2.1 (9 + 6) i = _
          rw [A4 _ (by decide) (by decide) (by decide) (by decide)]; exact s6 i hi
        · show w4.2.2.1 (9 + 7) i = _
          rw [A4 _ (by decide) (by decide) (by decide) (by decide)]; exact s7 i hi
        · show w4.2.2.1 (9 + 8) i = _
          rw [A4 _ (by decide) (by decide) (by decide) (by decide)]; exact s8 i hi
        · show w4.2.2.1 (9 + 9) i = _
          rw [A4 _ (by decide) (by decide) (by decide) (by decide)]; exact s9 i hi
        · show w4.2.2.2.1 (9 + 1) i = _
          rw [L4 _ (by decide) (by decide)]; exact j1 i hi
        · show w4.2.2.2.1 (9 + 4) i = _
          rw [L4 _ (by decide) (by decide)]; exact j4 i hi
        · show w4.2.2.2.1 (9 + 5) i = _
          rw [L4 _ (by decide) (by decide)]; exact j5 i hi
      · obtain ⟨N, t, t1, t2, t3, t4⟩ := h5
        refine ⟨N, t, t1, ?_, ?_, fun i hi => ?_⟩
        · rw [o4 29 0 (by decide)]; exact t2
        · rw [o4 46 7 (by decide)]; exact t3
        · rw [A4 30 (by decide) (by decide) (by decide) (by decide), A4 51 (by decide) (by decide) (by decide) (by decide), a2.a (k := 30) (by decide), a2.a (k := 51) (by decide)]; exact t4 i hi
      · rw [o4 29 1 (by decide), o4 46 13 (by decide)]; exact h6
      · rw [o4 0 8 (by decide)]; exact z1
      · rw [o4 46 3 (by decide)]; exact z2
end FML
