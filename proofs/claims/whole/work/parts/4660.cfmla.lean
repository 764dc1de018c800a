/-! the class's formula: the whole call -/
/-- a frame without the nodes' room -/
def FrY (A B : List Nat) (w w' : sW) : Prop := (∀ k, k ∉ A → w'.2.2.1 k = w.2.2.1 k ∧ w'.2.2.2.1 k = w.2.2.2.1 k) ∧ (∀ k j, 100 * k + j ∉ B → w'.1 k j = w.1 k j ∧ w'.2.1 k j = w.2.1 k j)
theorem FrX.fy {A B : List Nat} {w w' : sW} (h : FrX A B w w') : FrY A B w w' := ⟨fun k hk => ⟨h.1 k hk, by rw [h.2.2.2]⟩, fun k j hk => ⟨h.2.1 k j hk, by rw [h.2.2.1]⟩⟩
theorem Fr.fy {A B : List Nat} {w w' : sW} (h : Fr A B w w') : FrY A B w w' := ⟨h.1, h.2.1⟩
theorem FrY.tr {A B : List Nat} {w w' w'' : sW} (h : FrY A B w w') (g : FrY A B w' w'') : FrY A B w w'' := ⟨fun k hk => ⟨(g.1 k hk).1.trans (h.1 k hk).1, (g.1 k hk).2.trans (h.1 k hk).2⟩, fun k j hk => ⟨(g.2 k j hk).1.trans (h.2 k j hk).1, (g.2 k j hk).2.trans (h.2 k j hk).2⟩⟩
theorem FrY.mo {A B A' B' : List Nat} {w w' : sW} (h : FrY A B w w') (hA : ∀ k ∈ A, k ∈ A') (hB : ∀ k ∈ B, k ∈ B') : FrY A' B' w w' := ⟨fun k hk => h.1 k (fun z => hk (hA k z)), fun k j hk => h.2 k j (fun z => hk (hB _ z))⟩
theorem topR_clo {t : Nat → Nat} {N D : Nat} {l : List Nat} (h3 : D ≤ 3) (h : topR t N D = .inl l) : clo l ∧ wff l ∧ (∀ x ∈ l, x < 18) ∧ l.length ≤ 40 := by
  have gl := (g_lev (t := t) (N := N) h3 8).2 false 0 0 (Nat.zero_le _) (by decide)
  unfold topR at h
  match hr : (lev t N D 8).2 false 0 0 with
  | .inr x => rw [hr] at h; cases h
  | .inl (p', l') =>
    rw [hr] at h gl
    obtain ⟨g1, g2, g3, g4, g5, g6, g7⟩ := gl
    by_cases g : sk t N p' = N
    · have h' : (if sk t N p' = N then (.inl l' : List Nat ⊕ Nat) else .inr (sk t N p')) = .inl l := h
      rw [if_pos g] at h'
      cases h'
      exact ⟨g7 rfl, g1, g2, by omega⟩
    · have h' : (if sk t N p' = N then (.inl l' : List Nat ⊕ Nat) else .inr (sk t N p')) = .inl l := h
      rw [if_neg g] at h'
      cases h'
section CFm
variable {P : sP} {ex : Nat → Option sC} {n sl F D U : Nat} {nd : Nat → List Nat} {w : sW} {S0 e N : Nat} {t : Nat → Nat}
theorem wI_k {w : sW} {k j k' j' : Nat} {v : Int32} (h : k' ≠ k) : (wI w k j v).1 k' j' = w.1 k' j' := by
  show up2 w.1 k j v k' j' = _
  rw [up2_k h]
theorem FS.fr {A B : List Nat} {w' : sW} (h : FS P S0 e w n sl U (fun _ => D) nd) (f : Fr A B w w') (hA : ∀ k ∈ fAr, k ∉ A) (hB : 100 ∉ B) : FS P S0 e w' n sl U (fun _ => D) nd := by
  have e2 := (f.1 2 (hA 2 (by decide))).1
  have e3 := (f.1 3 (hA 3 (by decide))).1
  have e4 := (f.1 4 (hA 4 (by decide))).1
  have e5 := (f.1 5 (hA 5 (by decide))).1
  have e6 := (f.1 6 (hA 6 (by decide))).1
  have e7 := (f.1 7 (hA 7 (by decide))).1
  have e8 := (f.1 8 (hA 8 (by decide))).1
  have e10 := (f.2.1 1 0 hB).1
  have er := f.2.2
  unfold FS FT HB AL PL Hs w_fa at *
  rw [e2, e3, e4, e5, e6, e7, e8, e10, er]
  exact h
theorem FS_bind (hS : FS P S0 e w n sl U (fun _ => D) nd) (h3 : D ≤ 3) {i : Nat} (hi : i < U) {r : List Nat} (hr : nd i = 16 :: r ∨ nd i = 17 :: r) {u : Nat} (hu : u < D) : ∃ q, q < U ∧ nd q = r.map (ins (some u)) := by
  obtain ⟨⟨k, k7, k2, ksh⟩, -, -, pl⟩ := hS.1.2.2.2.1 i hi
  have hk := (SH_isB ksh).mp ⟨r, hr⟩
  rcases ksh with ⟨h, -⟩ | ⟨h, -⟩ | ⟨h, -⟩ | ⟨h, a, ha, e1, e2, e3⟩
  · omega
  · omega
  · omega
  · have er : r = nd a := by
      rcases hr with z | z <;> rw [e3] at z <;> exact ((List.cons.inj z).2).symm
    obtain ⟨q, q1, q2, q3⟩ := (pl (by rcases h with h | h <;> rw [k2, h] <;> simp) a ha e1 u (by omega)).1 hu
    exact ⟨q, q1, by rw [er]; exact q3⟩
theorem c_cutB {w1 : sW} {ex1 : Nat → Option sC} {n1 sl1 U1 : Nat} {nd1 : Nat → List Nat} (h3 : D ≤ 3) (hS : FS P S0 e w n sl U (fun _ => D) nd) (a2 : FS P S0 e w1 n1 sl1 U1 (fun _ => D) nd1) (a3 : XT U (fun _ => D) nd U1 (fun _ => D) nd1) : ∃ w', F_X2_cut (P.2.1 + 1) (mI U) (hp P w1 ex1 n1 sl1) = some ((), hp P w' ex1 n1 sl1) ∧ FS P S0 e w' n1 sl1 U (fun _ => D) nd1 ∧ Fr [8] [100] w1 w' := by
  refine c_cut (ex := ex1) a2 a3.1 ?_
  intro i hi r hri u hu
  rw [(a3.2 i hi).1] at hri
  obtain ⟨q, hq1, hq2⟩ := FS_bind hS h3 hi hri hu
  exact ⟨q, hq1, (a3.2 q hq1).1.trans hq2⟩
/-- the text is no formula -/
theorem c_formulaX {x : Nat} (hK : KS P) (h1 : 1 ≤ D) (h3 : D ≤ 3) (hS : FS P S0 e w n sl U (fun _ => D) nd) (h0 : w.1 29 0 = mI N) (h400 : N ≤ 400) (hb : ∀ i, i < N → t i < 256 ∧ w.2.2.1 30 i &&& 255 = mI (t i)) (hU : U + 160 ≤ 7500) (hD : w.1 9 0 = mI D) (hc : w.1 9 1 = mI U) (hr : topR t N D = .inr x) : ∃ w' ex' n' sl' nd', F_X7_formula P.2.1 (hp P w ex n sl) = some (.inr "java/lang/IllegalArgumentException", hp P w' ex' (n' + 1) (sl' + 6)) ∧ FS P S0 e w' n' sl' U (fun _ => D) nd' ∧ XT U (fun _ => D) nd U (fun _ => D) nd' ∧ FrY fAr rdC w w' ∧ w'.1 29 0 = 0 ∧ w'.1 29 1 = mI x := by
  obtain ⟨v, w1, ex1, n1, sl1, U1, nd1, a1, a2, a3, a4, a5, a6, a7⟩ := c_read (ex := ex) hK h1 h3 hS h0 h400 hb hU
  rw [hr] at a7
  obtain ⟨-, rfl, a8⟩ := a7
  have e1 : w1.1 9 1 = mI U := (a4.2.1 9 1 (by decide)).trans hc
  obtain ⟨w2, b1, b2', b3⟩ := c_cutB (ex1 := ex1) h3 hS a2 a3
  refine ⟨w2, ex1, n1, sl1, nd1, ?_, b2', ⟨Nat.le_refl _, a3.2⟩, a4.fy.tr (b3.fy.mo (by decide) (by decide)), ?_, ?_⟩
  · rw [E_X7_formula, z_0, ob, E_X7_formula_0, q_0_3, ob, q_0_1, ob, q_9_0, ob, hD, a1, ob]
    try dsimp only
    rw [if_pos rfl, q_0_0, ob, q_0_1, ob, q_9_1, ob, e1, b1, ob]
    rfl
  · rw [(b3.2.1 29 0 (by decide)).1]; exact a5
  · rw [(b3.2.1 29 1 (by decide)).1]; exact a8
/-- the books are full -/
theorem c_formulaF {l : List Nat} (hK : KS P) (h1 : 1 ≤ D) (h3 : D ≤ 3) (hS : FS P S0 e w n sl U (fun _ => D) nd) (h0 : w.1 29 0 = mI N) (h400 : N ≤ 400) (hb : ∀ i, i < N → t i < 256 ∧ w.2.2.1 30 i &&& 255 = mI (t i)) (hU : U + 160 ≤ 7500) (hD : w.1 9 0 = mI D) (hc : w.1 9 1 = mI U) (hF : w.1 9 2 = mI 30) (hr : topR t N D = .inl l) : ∃ w' ex' n' sl' nd', F_X7_formula P.2.1 (hp P w ex n sl) = some (.inr "java/lang/UnsupportedOperationException", hp P w' ex' (n' + 1) (sl' + 6)) ∧ FS P S0 e w' n' sl' U (fun _ => D) nd' ∧ XT U (fun _ => D) nd U (fun _ => D) nd' ∧ FrY fAr rdC w w' ∧ w'.1 29 0 = 0 ∧ w'.1 29 1 = -1 := by
  obtain ⟨v, w1, ex1, n1, sl1, U1, nd1, a1, a2, a3, a4, a5, a6, a7⟩ := c_read (ex := ex) hK h1 h3 hS h0 h400 hb hU
  rw [hr] at a7
  obtain ⟨i, rfl, a8, a9, a10⟩ := a7
  have e1 : w1.1 9 1 = mI U := (a4.2.1 9 1 (by decide)).trans hc
  have e2 : w1.1 9 2 = mI 30 := (a4.2.1 9 2 (by decide)).trans hF
  obtain ⟨w2, b1, b2', b3⟩ := c_cutB (ex1 := ex1) h3 hS a2 a3
  refine ⟨w2, ex1, n1, sl1, nd1, ?_, b2', ⟨Nat.le_refl _, a3.2⟩, a4.fy.tr (b3.fy.mo (by decide) (by decide)), ?_, ?_⟩
  · rw [E_X7_formula, z_0, ob, E_X7_formula_0, q_0_3, ob, q_0_1, ob, q_9_0, ob, hD, a1, ob]
    try dsimp only
    rw [if_neg (mI_m1 (by omega)), q_0_1, ob, q_9_2, ob, e2, if_neg (by decide), q_0_0, ob, ob, q_9_1, ob, e1, b1, ob]
    rfl
  · rw [(b3.2.1 29 0 (by decide)).1]; exact a5
  · rw [(b3.2.1 29 1 (by decide)).1]; exact a10
/-- a formula comes -/
theorem c_formulaS {l : List Nat} (hK : KS P) (hC : KC P) (h1 : 1 ≤ D) (h3 : D ≤ 3) (hS : FS P S0 e w n sl U (fun _ => D) nd) (h0 : w.1 29 0 = mI N) (h400 : N ≤ 400) (hb : ∀ i, i < N → t i < 256 ∧ w.2.2.1 30 i &&& 255 = mI (t i)) (hU : U + 160 ≤ 7500) (hD : w.1 9 0 = mI D) (h2 : w.1 9 2 = mI F) (hF : F < 30) (hr : topR t N D = .inl l) : ∃ i w1 w' ex' n' sl' U' nd', F_X7_formula P.2.1 (hp P w ex n sl) = some (.inl (mI F), hp P w' ex' n' sl') ∧ FS P S0 e w' n' sl' U' (fun _ => D) nd' ∧ XT U (fun _ => D) nd U' (fun _ => D) nd' ∧ U' ≤ U + 160 ∧ i < U' ∧ nd' i = l ∧ FrY fAr (901 :: rdC) w w1 ∧ FB D F i l w1 w' ∧ w'.1 9 1 = mI U' ∧ w'.1 29 0 = 0 ∧ w'.1 29 1 = -1 := by
  obtain ⟨v, w1, ex1, n1, sl1, U1, nd1, a1, a2, a3, a4, a5, a6, a7⟩ := c_read (ex := ex) hK h1 h3 hS h0 h400 hb hU
  rw [hr] at a7
  obtain ⟨i, rfl, a8, a9, a10⟩ := a7
  have hcl := (topR_clo h3 hr).1
  have hU9 : U1 ≤ 7500 := by omega
  have e0 : w1.1 9 0 = mI D := (a4.2.1 9 0 (by decide)).trans hD
  have e2 : w1.1 9 2 = mI F := (a4.2.1 9 2 (by decide)).trans h2
  have eU : w1.1 1 0 = mI U1 := a2.1.1
  have hN1 : NT w1 U1 D nd1 := FT_NT a2.1
  have fr1 : Fr [] [901] w1 (wI w1 9 1 (mI U1)) := Fr.rf.pI (by decide)
  have hN2 : NT (wI w1 9 1 (mI U1)) U1 D nd1 := hN1.fr fr1 (by decide) (by decide) (by decide) (by decide) (by decide) (by decide)
  obtain ⟨w2, b1, b2'⟩ := c_addFormula (P := P) (ex := ex1) (n := n1) (sl := sl1) (i := i) hC hN2 h1 h3 a8 (by rw [a9]; exact hcl) ((wI_j (by decide)).trans e0) ((wI_j (by decide)).trans e2) hF
  rw [a9] at b2'
  have fs2 : FS P S0 e w2 n1 sl1 U1 (fun _ => D) nd1 := (a2.fr fr1 (by decide) (by decide)).fr b2'.1 (by decide) (by decide)
  refine ⟨i, wI w1 9 1 (mI U1), w2, ex1, n1, sl1, U1, nd1, ?_, fs2, a3, a6, a8, a9, (a4.fy.mo (fun _ z => z) (by decide)).tr (fr1.fy.mo (fun _ z => by cases z) (by decide)), b2', ?_, ?_, ?_⟩
  · rw [E_X7_formula, z_0, ob, E_X7_formula_0, q_0_3, ob, q_0_1, ob, q_9_0, ob, hD, a1, ob]
    try dsimp only
    rw [if_neg (mI_m1 (by omega)), q_0_1, ob, q_9_2, ob, e2, if_pos (by rw [nltL (by omega) (by decide)]; exact hF), ob, q_0_0, ob, q_1_0, ob, eU, p_9_1, ob, q_0_1, ob, q_0_0, ob, b1, ob]
  · rw [(b2'.1.2.1 9 1 (by decide)).1]; exact wI_s
  · rw [(b2'.1.2.1 29 0 (by decide)).1]; exact (wI_k (by decide)).trans a5
  · rw [(b2'.1.2.1 29 1 (by decide)).1]; exact (wI_k (by decide)).trans a10
end CFm
