/-! the class's reader: and, or -/
abbrev rdB : List Nat := [100, 2901, 2904, 2905]
def bI (b : Bool) : Int32 := if b = true then 1 else 0
section CMa
variable {P : sP} {S0 e N D : Nat} {t : Nat → Nat}
/-- before reading -/
def CI (P : sP) (S0 e : Nat) (t : Nat → Nat) (N D : Nat) (w : sW) (n sl U : Nat) (nd : Nat → List Nat) (p s : Nat) : Prop := FS P S0 e w n sl U (fun _ => D) nd ∧ RS w t N D ∧ w.1 29 1 = -1 ∧ w.1 29 4 = mI p ∧ w.1 29 5 = mI s ∧ p ≤ N ∧ s ≤ 40
/-- after reading: a node that says the list, or a fault -/
def CO (P : sP) (S0 e N D : Nat) (w : sW) (U : Nat) (nd : Nat → List Nat) (X B s0 : Nat) (o : Option (Int32 × sS)) (r : pR) : Prop := match r with
  | .inl (p', l) => ∃ i w' ex' n' sl' U' nd', o = some (mI i, hp P w' ex' n' sl') ∧ FS P S0 e w' n' sl' U' (fun _ => D) nd' ∧ XT U (fun _ => D) nd U' (fun _ => D) nd' ∧ FrX fAr rdB w w' ∧ i < U' ∧ nd' i = l ∧ w'.1 29 1 = -1 ∧ w'.1 29 4 = mI p' ∧ w'.1 29 5 = mI (s0 + l.length) ∧ U' ≤ X + B * l.length
  | .inr q => ∃ v w' ex' n' sl' U' nd', o = some (v, hp P w' ex' n' sl') ∧ FS P S0 e w' n' sl' U' (fun _ => D) nd' ∧ XT U (fun _ => D) nd U' (fun _ => D) nd' ∧ FrX fAr rdB w w' ∧ w'.1 29 1 = mI q ∧ (∃ a, a ≤ N ∧ w'.1 29 4 = mI a) ∧ U' ≤ X + B * (40 - s0)
theorem CO.lift {w w1 : sW} {U U1 X B s0 : Nat} {nd nd1 : Nat → List Nat} {o : Option (Int32 × sS)} {r : pR} (hx : XT U (fun _ => D) nd U1 (fun _ => D) nd1) (hf : FrX fAr rdB w w1) (h : CO P S0 e N D w1 U1 nd1 X B s0 o r) : CO P S0 e N D w U nd X B s0 o r := by
  match r, h with
  | .inl (p', l), ⟨i, w', ex', n', sl', U', nd', a1, a2, a3, a4, a5⟩ => exact ⟨i, w', ex', n', sl', U', nd', a1, a2, hx.tr a3, hf.tr a4, a5⟩
  | .inr q, ⟨v, w', ex', n', sl', U', nd', a1, a2, a3, a4, a5⟩ => exact ⟨v, w', ex', n', sl', U', nd', a1, a2, hx.tr a3, hf.tr a4, a5⟩
theorem RS.frx {w w' : sW} (h : RS w t N D) (hf : FrX fAr rdB w w') : RS w' t N D := by
  unfold RS
  rw [hf.1 30 (by decide), hf.2.1 29 0 (by decide), hf.2.1 29 6 (by decide)]
  exact h
theorem FS.wI {w : sW} {n sl U j : Nat} {Dz : Nat → Nat} {nd : Nat → List Nat} {v : Int32} (h : FS P S0 e w n sl U Dz nd) : FS P S0 e (Prod.mk (up2 w.1 29 j v) w.2) n sl U Dz nd := by
  refine ⟨⟨?_, h.1.2⟩, h.2.1, h.2.2⟩
  show up2 w.1 29 j v 1 0 = _
  rw [up2_k (by decide)]
  exact h.1.1
theorem FrX.pI {w w' : sW} {j : Nat} {v : Int32} (h : FrX fAr rdB w w') (hj : 100 * 29 + j ∈ rdB) : FrX fAr rdB w (Prod.mk (up2 w'.1 29 j v) w'.2) := by
  refine ⟨h.1, fun k' j' hk => ?_, h.2.2⟩
  show up2 w'.1 29 j v k' j' = _
  unfold up2
  rw [if_neg (fun z => hk (by rw [z.1, z.2]; exact hj))]
  exact h.2.1 k' j' hk
theorem FrX.r1 {w w' : sW} (h : FrX fAr [100] w w') : FrX fAr rdB w w' := h.mo (fun _ z => z) (fun _ z => by rw [List.mem_singleton.mp z]; decide)
theorem c_join {w : sW} {ex : Nat → Option sC} {n sl U kk i j : Nat} {nd : Nat → List Nat} (hkk : kk = 2 ∨ kk = 3 ∨ kk = 4) (hS : FS P S0 e w n sl U (fun _ => D) nd) (hU : U ≤ 8000) (hf : w.1 29 1 = -1) (hi : i < U) (hj : j < U) (hl : (nd i).length + (nd j).length + 1 ≤ 40) : MKr P S0 e w U (fun _ => D) nd (F_X5_join (P.2.1 + 29) (mI kk) (mI i) (mI j) (hp P w ex n sl)) ((11 + kk) :: (nd i ++ nd j)) 1 := by
  obtain ⟨i', w', ex', n', sl', U', nd', m1, m2⟩ := c_makeN (ex := ex) (k := kk) (a := mI i) (b := mI j) (l := (11 + kk) :: (nd i ++ nd j)) hS hU (Or.inr (Or.inr (Or.inl ⟨hkk, i, j, hi, hj, rfl, rfl, rfl⟩))) (by omega) (by simp only [List.length_cons, List.length_append]; omega)
  refine ⟨i', w', ex', n', sl', U', nd', ?_, m2⟩
  rw [E_X5_join, z_29, ob, E_X5_join_0, q_29_1, ob, hf, if_pos rfl, q_29_2, ob, m1, ob]
theorem c_joinF {w : sW} {ex : Nat → Option sC} {n sl : Nat} {a b c : Int32} (hf : w.1 29 1 ≠ -1) : F_X5_join (P.2.1 + 29) a b c (hp P w ex n sl) = some (-1, hp P w ex n sl) := by
  rw [E_X5_join, z_29, ob, E_X5_join_0, q_29_1, ob, if_neg hf]
theorem c_readAndF {w : sW} {ex : Nat → Option sC} {n sl a k : Nat} {v1 v2 v3 v4 : Int32} (hR : RS w t N D) (hf : w.1 29 1 ≠ -1) (ha : a ≤ N) (hat : w.1 29 4 = mI a) : ∃ w', R_X5_readAnd_10 k (P.2.1 + 29) v1 v2 v3 v4 (hp P w ex n sl) = some (v3, hp P w' ex n sl) ∧ (w' = w ∨ w' = wI w 29 4 (mI (sk t N a))) := by
  rw [E_X5_readAnd_10]
  by_cases g : (400 : Int32) ≤ v4
  · rw [if_pos g]; exact ⟨w, rfl, Or.inl rfl⟩
  · rw [if_neg g, c_peek hR ha hat, ob, if_neg hf]
    try dsimp only
    rw [if_neg (by decide)]
    exact ⟨_, rfl, Or.inr rfl⟩
theorem c_readAndL {k d B : Nat} {b : Bool} {u : pF} (hB : 1 ≤ B) (hB4 : B ≤ 4) (hg : gdF N u) (hu : ∀ (w : sW) (ex : Nat → Option sC) (n sl U : Nat) (nd : Nat → List Nat) (p s : Nat), CI P S0 e t N D w n sl U nd p s → U + 4 * (40 - s) ≤ 7500 → CO P S0 e N D w U nd U B s (F_X5_readUnit k (P.2.1 + 29) (mI d) (bI b) (hp P w ex n sl)) (u b p s)) : ∀ f (w : sW) (ex : Nat → Option sC) (n sl U : Nat) (nd : Nat → List Nat) (p s0 X i v4 : Nat) (l : List Nat), CI P S0 e t N D w n sl U nd p (s0 + l.length) → X + 4 * (40 - s0) ≤ 7500 → U ≤ X + B * l.length → i < U → nd i = l → v4 + f ≤ 400 → 41 ≤ f + (s0 + l.length) → CO P S0 e N D w U nd X B s0 (R_X5_readAnd_10 k (P.2.1 + 29) (mI d) (bI b) (mI i) (mI v4) (hp P w ex n sl)) (pLoop t N 38 13 (u b) f p (s0 + l.length) l) := by
  intro f
  induction f with
  | zero =>
    intro w ex n sl U nd p s0 X i v4 l hI _ _ _ _ _ h41
    have := hI.2.2.2.2.2.2
    omega
  | succ f ih =>
    intro w ex n sl U nd p s0 X i v4 l hI hX hUX hi hnd hv h41
    obtain ⟨hS, hR, hf, hat, hsg, hp9, hs40⟩ := hI
    have hk := sk_le (t := t) hp9
    have h400 := hR.2.1
    have hBl : B * l.length ≤ 4 * l.length := Nat.mul_le_mul_right _ hB4
    rw [E_X5_readAnd_10, if_neg (by rw [nleR (by omega) (by decide)]; exact Nat.not_le.mpr (by omega)), c_peek hR hp9 hat, ob, if_pos hf]
    try dsimp only
    have ec : (cv (chr t N (sk t N p)) = 38) = (chr t N (sk t N p) = 38) := cv_eq (k := 38) (by decide) (chr_b hR _)
    have f0 : FrX fAr rdB w (wI w 29 4 (mI (sk t N p))) := FrX.rf.pI (by decide)
    have w4 : (wI w 29 4 (mI (sk t N p))).1 29 4 = mI (sk t N p) := by show up2 w.1 29 4 (mI (sk t N p)) 29 4 = _; rw [up2_s]
    have w5 : (wI w 29 4 (mI (sk t N p))).1 29 5 = mI (s0 + l.length) := by show up2 w.1 29 4 (mI (sk t N p)) 29 5 = _; rw [up2_j (by decide)]; exact hsg
    have w1 : (wI w 29 4 (mI (sk t N p))).1 29 1 = -1 := by show up2 w.1 29 4 (mI (sk t N p)) 29 1 = _; rw [up2_j (by decide)]; exact hf
    show CO P S0 e N D w U nd X B s0 _ (if chr t N (sk t N p) = 38 then _ else _)
    by_cases g : chr t N (sk t N p) = 38
    · have hq : sk t N p < N := chr_lt (t := t) (N := N) (by rw [g]; decide)
      rw [if_pos (by rw [ec]; exact g), if_pos g, q_29_4, ob, w4]
      by_cases g40 : 40 ≤ s0 + l.length
      · rw [if_pos g40, c_signF g40 (by omega) w5 w1, ob]
        try dsimp only
        rw [if_pos rfl]
        exact ⟨_, _, _, _, _, U, nd, rfl, (hS.wI).wI, XT.rf, (f0.pI (by decide)), by show up2 (wI w 29 4 (mI (sk t N p))).1 29 1 (mI (sk t N p)) 29 1 = _; rw [up2_s], ⟨sk t N p, hk.2, by show up2 (wI w 29 4 (mI (sk t N p))).1 29 1 (mI (sk t N p)) 29 4 = _; rw [up2_j (by decide)]; exact w4⟩, by
          have h1 : l.length ≤ 40 - s0 := by omega
          have := Nat.mul_le_mul_left B h1
          omega⟩
      · rw [if_neg g40, c_signT (by omega) w5, ob]
        try dsimp only
        rw [if_neg (by decide), q_29_4, ob]
        have w4' : (wI (wI w 29 4 (mI (sk t N p))) 29 5 (mI (s0 + l.length + 1))).1 29 4 = mI (sk t N p) := by show up2 (wI w 29 4 (mI (sk t N p))).1 29 5 (mI (s0 + l.length + 1)) 29 4 = _; rw [up2_j (by decide)]; exact w4
        rw [w4', naddL, p_29_4, ob]
        generalize hw2 : wI (wI (wI w 29 4 (mI (sk t N p))) 29 5 (mI (s0 + l.length + 1))) 29 4 (mI (sk t N p + 1)) = w2
        have f2 : FrX fAr rdB w w2 := by rw [← hw2]; exact (f0.pI (by decide)).pI (by decide)
        have hI2 : CI P S0 e t N D w2 n sl U nd (sk t N p + 1) (s0 + l.length + 1) := by
          rw [← hw2]
          refine ⟨((hS.wI).wI).wI, ((hR.wI (by decide) (by decide)).wI (by decide) (by decide)).wI (by decide) (by decide), ?_, ?_, ?_, by omega, by omega⟩
          · show up2 (up2 (up2 w.1 29 4 (mI (sk t N p))) 29 5 (mI (s0 + l.length + 1))) 29 4 (mI (sk t N p + 1)) 29 1 = _
            rw [up2_j (by decide), up2_j (by decide), up2_j (by decide)]; exact hf
          · show up2 (up2 (up2 w.1 29 4 (mI (sk t N p))) 29 5 (mI (s0 + l.length + 1))) 29 4 (mI (sk t N p + 1)) 29 4 = _
            rw [up2_s]
          · show up2 (up2 (up2 w.1 29 4 (mI (sk t N p))) 29 5 (mI (s0 + l.length + 1))) 29 4 (mI (sk t N p + 1)) 29 5 = _
            rw [up2_j (by decide), up2_s]
        have cu := hu w2 ex n sl U nd (sk t N p + 1) (s0 + l.length + 1) hI2 (by omega)
        have gu := hg b (sk t N p + 1) (s0 + l.length + 1) (by omega) (by omega)
        match hr : u b (sk t N p + 1) (s0 + l.length + 1) with
        | .inr q =>
          rw [hr] at cu gu
          obtain ⟨v, w', ex', n', sl', U', nd', a1, a2, a3, a4, a5, ⟨a, a6, a7⟩, a8⟩ := cu
          have hq9 : q ≤ N := gu
          have hf' : w'.1 29 1 ≠ -1 := by rw [a5]; exact mI_m1 (by omega)
          rw [a1, ob, c_joinF hf', ob]
          have hR' : RS w' t N D := (hR.frx f2).frx a4
          obtain ⟨w3, b1, b3⟩ := c_readAndF (P := P) (ex := ex') (n := n') (sl := sl') (k := k) (v1 := mI d) (v2 := bI b) (v3 := -1) (v4 := mI v4 + 1) hR' hf' a6 a7
          refine ⟨_, w3, ex', n', sl', U', nd', b1, ?_, a3, (f2.tr a4).tr ?_, ?_, ?_, ?_⟩
          · rcases b3 with rfl | rfl
            · exact a2
            · exact a2.wI
          · rcases b3 with rfl | rfl
            · exact FrX.rf
            · exact FrX.rf.pI (by decide)
          · rcases b3 with rfl | rfl
            · exact a5
            · show up2 w'.1 29 4 (mI (sk t N a)) 29 1 = _
              rw [up2_j (by decide)]; exact a5
          · rcases b3 with rfl | rfl
            · exact ⟨a, a6, a7⟩
            · exact ⟨sk t N a, (sk_le (t := t) a6).2, by show up2 w'.1 29 4 (mI (sk t N a)) 29 4 = _; rw [up2_s]⟩
          · have h1 : l.length + (40 - (s0 + l.length + 1)) ≤ 40 - s0 := by omega
            have := Nat.mul_le_mul_left B h1
            rw [Nat.mul_add] at this
            omega
        | .inl (p', l') =>
          rw [hr] at cu gu
          obtain ⟨j, w', ex', n', sl', U', nd', a1, a2, a3, a4, a5, a6, a7, a8, a9, a10⟩ := cu
          obtain ⟨g1, g2, g3, g4, g5, -, -⟩ := gu
          have eni : nd' i = l := (a3.2 i hi).1.trans hnd
          have hBl' : B * l'.length ≤ 4 * l'.length := Nat.mul_le_mul_right _ hB4
          obtain ⟨m, w3, ex3, n3, sl3, U3, nd3, c1, c2, c3, c4, c5, c6, c7⟩ := c_join (P := P) (S0 := S0) (e := e) (D := D) (ex := ex') (kk := 2) (i := i) (j := j) (by decide) a2 (by omega) a7 (Nat.lt_of_lt_of_le hi a3.1) a5 (by rw [eni, a6]; omega)
          rw [eni, a6] at c6
          have c4' := c4.r1
          have fr3 : FrX fAr rdB w w3 := (f2.tr a4).tr c4'
          have hlen : (13 :: (l ++ l')).length = l.length + l'.length + 1 := by simp only [List.length_cons, List.length_append]
          have hI3 : CI P S0 e t N D w3 n3 sl3 U3 nd3 p' (s0 + (13 :: (l ++ l')).length) := by
            refine ⟨c2, hR.frx fr3, ?_, ?_, ?_, g5, by rw [hlen]; omega⟩
            · rw [c4.2.1 29 1 (by decide)]; exact a7
            · rw [c4.2.1 29 4 (by decide)]; exact a8
            · rw [c4.2.1 29 5 (by decide), a9, hlen]
              exact congrArg mI (by omega)
          rw [a1, ob]
          have c1' : F_X5_join (P.2.1 + 29) 2 (mI i) (mI j) (hp P w' ex' n' sl') = some (mI m, hp P w3 ex3 n3 sl3) := c1
          rw [c1', ob, naddL]
          try dsimp only
          have es : s0 + l.length + 1 + l'.length = s0 + (13 :: (l ++ l')).length := by rw [hlen]; omega
          rw [es]
          refine CO.lift (a3.tr c3) fr3 (ih w3 ex3 n3 sl3 U3 nd3 p' s0 X m (v4 + 1) _ hI3 hX ?_ c5 c6 (by omega) (by rw [hlen]; omega))
          rw [hlen, Nat.mul_add, Nat.mul_add]
          omega
    · rw [if_neg (by rw [ec]; exact g), if_neg g]
      exact ⟨i, _, _, _, _, U, nd, rfl, hS.wI, XT.rf, f0, hi, hnd, w1, w4, w5, hUX⟩
theorem c_readAnd {k d B : Nat} {b : Bool} {u : pF} (hB : 1 ≤ B) (hB4 : B ≤ 4) (hg : gdF N u) (hu : ∀ (w : sW) (ex : Nat → Option sC) (n sl U : Nat) (nd : Nat → List Nat) (p s : Nat), CI P S0 e t N D w n sl U nd p s → U + 4 * (40 - s) ≤ 7500 → CO P S0 e N D w U nd U B s (F_X5_readUnit k (P.2.1 + 29) (mI d) (bI b) (hp P w ex n sl)) (u b p s)) (w : sW) (ex : Nat → Option sC) (n sl U : Nat) (nd : Nat → List Nat) (p s : Nat) (hI : CI P S0 e t N D w n sl U nd p s) (hX : U + 4 * (40 - s) ≤ 7500) : CO P S0 e N D w U nd U B s (F_X5_readAnd (k + 1) (P.2.1 + 29) (mI d) (bI b) (hp P w ex n sl)) (pMany t N 38 13 u b p s) := by
  have cu := hu w ex n sl U nd p s hI hX
  have gu := hg b p s hI.2.2.2.2.2.1 hI.2.2.2.2.2.2
  rw [E_X5_readAnd, z_29, ob, E_X5_readAnd_0]
  have h400 := hI.2.1.2.1
  unfold pMany
  match hr : u b p s with
  | .inr q =>
    rw [hr] at cu gu
    obtain ⟨v, w', ex', n', sl', U', nd', a1, a2, a3, a4, a5, ⟨a, a6, a7⟩, a8⟩ := cu
    have hq9 : q ≤ N := gu
    have hf' : w'.1 29 1 ≠ -1 := by rw [a5]; exact mI_m1 (by omega)
    rw [a1, ob]
    obtain ⟨w3, b1, b3⟩ := c_readAndF (P := P) (ex := ex') (n := n') (sl := sl') (k := k) (v1 := mI d) (v2 := bI b) (v3 := v) (v4 := 0) (hI.2.1.frx a4) hf' a6 a7
    refine ⟨_, w3, ex', n', sl', U', nd', b1, ?_, a3, a4.tr ?_, ?_, ?_, a8⟩
    · rcases b3 with rfl | rfl
      · exact a2
      · exact a2.wI
    · rcases b3 with rfl | rfl
      · exact FrX.rf
      · exact FrX.rf.pI (by decide)
    · rcases b3 with rfl | rfl
      · exact a5
      · show up2 w'.1 29 4 (mI (sk t N a)) 29 1 = _
        rw [up2_j (by decide)]; exact a5
    · rcases b3 with rfl | rfl
      · exact ⟨a, a6, a7⟩
      · exact ⟨sk t N a, (sk_le (t := t) a6).2, by show up2 w'.1 29 4 (mI (sk t N a)) 29 4 = _; rw [up2_s]⟩
  | .inl (p', l) =>
    rw [hr] at cu gu
    obtain ⟨j, w', ex', n', sl', U', nd', a1, a2, a3, a4, a5, a6, a7, a8, a9, a10⟩ := cu
    obtain ⟨g1, g2, g3, g4, g5, -, -⟩ := gu
    rw [a1, ob]
    refine CO.lift a3 a4 ?_
    exact c_readAndL hB hB4 hg hu 41 w' ex' n' sl' U' nd' p' s U j 0 l ⟨a2, hI.2.1.frx a4, a7, a8, a9, g5, g3⟩ hX a10 a5 a6 (by decide) (by omega)
theorem c_readOrF {w : sW} {ex : Nat → Option sC} {n sl a k : Nat} {v1 v2 v3 v4 : Int32} (hR : RS w t N D) (hf : w.1 29 1 ≠ -1) (ha : a ≤ N) (hat : w.1 29 4 = mI a) : ∃ w', R_X5_readOr_10 k (P.2.1 + 29) v1 v2 v3 v4 (hp P w ex n sl) = some (v3, hp P w' ex n sl) ∧ (w' = w ∨ w' = wI w 29 4 (mI (sk t N a))) := by
  rw [E_X5_readOr_10]
  by_cases g : (400 : Int32) ≤ v4
  · rw [if_pos g]; exact ⟨w, rfl, Or.inl rfl⟩
  · rw [if_neg g, c_peek hR ha hat, ob, if_neg hf]
    try dsimp only
    rw [if_neg (by decide)]
    exact ⟨_, rfl, Or.inr rfl⟩
theorem c_readOrL {k d B : Nat} {b : Bool} {u : pF} (hB : 1 ≤ B) (hB4 : B ≤ 4) (hg : gdF N u) (hu : ∀ (w : sW) (ex : Nat → Option sC) (n sl U : Nat) (nd : Nat → List Nat) (p s : Nat), CI P S0 e t N D w n sl U nd p s → U + 4 * (40 - s) ≤ 7500 → CO P S0 e N D w U nd U B s (F_X5_readAnd k (P.2.1 + 29) (mI d) (bI b) (hp P w ex n sl)) (u b p s)) : ∀ f (w : sW) (ex : Nat → Option sC) (n sl U : Nat) (nd : Nat → List Nat) (p s0 X i v4 : Nat) (l : List Nat), CI P S0 e t N D w n sl U nd p (s0 + l.length) → X + 4 * (40 - s0) ≤ 7500 → U ≤ X + B * l.length → i < U → nd i = l → v4 + f ≤ 400 → 41 ≤ f + (s0 + l.length) → CO P S0 e N D w U nd X B s0 (R_X5_readOr_10 k (P.2.1 + 29) (mI d) (bI b) (mI i) (mI v4) (hp P w ex n sl)) (pLoop t N 124 14 (u b) f p (s0 + l.length) l) := by
  intro f
  induction f with
  | zero =>
    intro w ex n sl U nd p s0 X i v4 l hI _ _ _ _ _ h41
    have := hI.2.2.2.2.2.2
    omega
  | succ f ih =>
    intro w ex n sl U nd p s0 X i v4 l hI hX hUX hi hnd hv h41
    obtain ⟨hS, hR, hf, hat, hsg, hp9, hs40⟩ := hI
    have hk := sk_le (t := t) hp9
    have h400 := hR.2.1
    have hBl : B * l.length ≤ 4 * l.length := Nat.mul_le_mul_right _ hB4
    rw [E_X5_readOr_10, if_neg (by rw [nleR (by omega) (by decide)]; exact Nat.not_le.mpr (by omega)), c_peek hR hp9 hat, ob, if_pos hf]
    try dsimp only
    have ec : (cv (chr t N (sk t N p)) = 124) = (chr t N (sk t N p) = 124) := cv_eq (k := 124) (by decide) (chr_b hR _)
    have f0 : FrX fAr rdB w (wI w 29 4 (mI (sk t N p))) := FrX.rf.pI (by decide)
    have w4 : (wI w 29 4 (mI (sk t N p))).1 29 4 = mI (sk t N p) := by show up2 w.1 29 4 (mI (sk t N p)) 29 4 = _; rw [up2_s]
    have w5 : (wI w 29 4 (mI (sk t N p))).1 29 5 = mI (s0 + l.length) := by show up2 w.1 29 4 (mI (sk t N p)) 29 5 = _; rw [up2_j (by decide)]; exact hsg
    have w1 : (wI w 29 4 (mI (sk t N p))).1 29 1 = -1 := by show up2 w.1 29 4 (mI (sk t N p)) 29 1 = _; rw [up2_j (by decide)]; exact hf
    show CO P S0 e N D w U nd X B s0 _ (if chr t N (sk t N p) = 124 then _ else _)
    by_cases g : chr t N (sk t N p) = 124
    · have hq : sk t N p < N := chr_lt (t := t) (N := N) (by rw [g]; decide)
      rw [if_pos (by rw [ec]; exact g), if_pos g, q_29_4, ob, w4]
      by_cases g40 : 40 ≤ s0 + l.length
      · rw [if_pos g40, c_signF g40 (by omega) w5 w1, ob]
        try dsimp only
        rw [if_pos rfl]
        exact ⟨_, _, _, _, _, U, nd, rfl, (hS.wI).wI, XT.rf, (f0.pI (by decide)), by show up2 (wI w 29 4 (mI (sk t N p))).1 29 1 (mI (sk t N p)) 29 1 = _; rw [up2_s], ⟨sk t N p, hk.2, by show up2 (wI w 29 4 (mI (sk t N p))).1 29 1 (mI (sk t N p)) 29 4 = _; rw [up2_j (by decide)]; exact w4⟩, by
          have h1 : l.length ≤ 40 - s0 := by omega
          have := Nat.mul_le_mul_left B h1
          omega⟩
      · rw [if_neg g40, c_signT (by omega) w5, ob]
        try dsimp only
        rw [if_neg (by decide), q_29_4, ob]
        have w4' : (wI (wI w 29 4 (mI (sk t N p))) 29 5 (mI (s0 + l.length + 1))).1 29 4 = mI (sk t N p) := by show up2 (wI w 29 4 (mI (sk t N p))).1 29 5 (mI (s0 + l.length + 1)) 29 4 = _; rw [up2_j (by decide)]; exact w4
        rw [w4', naddL, p_29_4, ob]
        generalize hw2 : wI (wI (wI w 29 4 (mI (sk t N p))) 29 5 (mI (s0 + l.length + 1))) 29 4 (mI (sk t N p + 1)) = w2
        have f2 : FrX fAr rdB w w2 := by rw [← hw2]; exact (f0.pI (by decide)).pI (by decide)
        have hI2 : CI P S0 e t N D w2 n sl U nd (sk t N p + 1) (s0 + l.length + 1) := by
          rw [← hw2]
          refine ⟨((hS.wI).wI).wI, ((hR.wI (by decide) (by decide)).wI (by decide) (by decide)).wI (by decide) (by decide), ?_, ?_, ?_, by omega, by omega⟩
          · show up2 (up2 (up2 w.1 29 4 (mI (sk t N p))) 29 5 (mI (s0 + l.length + 1))) 29 4 (mI (sk t N p + 1)) 29 1 = _
            rw [up2_j (by decide), up2_j (by decide), up2_j (by decide)]; exact hf
          · show up2 (up2 (up2 w.1 29 4 (mI (sk t N p))) 29 5 (mI (s0 + l.length + 1))) 29 4 (mI (sk t N p + 1)) 29 4 = _
            rw [up2_s]
          · show up2 (up2 (up2 w.1 29 4 (mI (sk t N p))) 29 5 (mI (s0 + l.length + 1))) 29 4 (mI (sk t N p + 1)) 29 5 = _
            rw [up2_j (by decide), up2_s]
        have cu := hu w2 ex n sl U nd (sk t N p + 1) (s0 + l.length + 1) hI2 (by omega)
        have gu := hg b (sk t N p + 1) (s0 + l.length + 1) (by omega) (by omega)
        match hr : u b (sk t N p + 1) (s0 + l.length + 1) with
        | .inr q =>
          rw [hr] at cu gu
          obtain ⟨v, w', ex', n', sl', U', nd', a1, a2, a3, a4, a5, ⟨a, a6, a7⟩, a8⟩ := cu
          have hq9 : q ≤ N := gu
          have hf' : w'.1 29 1 ≠ -1 := by rw [a5]; exact mI_m1 (by omega)
          rw [a1, ob, c_joinF hf', ob]
          have hR' : RS w' t N D := (hR.frx f2).frx a4
          obtain ⟨w3, b1, b3⟩ := c_readOrF (P := P) (ex := ex') (n := n') (sl := sl') (k := k) (v1 := mI d) (v2 := bI b) (v3 := -1) (v4 := mI v4 + 1) hR' hf' a6 a7
          refine ⟨_, w3, ex', n', sl', U', nd', b1, ?_, a3, (f2.tr a4).tr ?_, ?_, ?_, ?_⟩
          · rcases b3 with rfl | rfl
            · exact a2
            · exact a2.wI
          · rcases b3 with rfl | rfl
            · exact FrX.rf
            · exact FrX.rf.pI (by decide)
          · rcases b3 with rfl | rfl
            · exact a5
            · show up2 w'.1 29 4 (mI (sk t N a)) 29 1 = _
              rw [up2_j (by decide)]; exact a5
          · rcases b3 with rfl | rfl
            · exact ⟨a, a6, a7⟩
            · exact ⟨sk t N a, (sk_le (t := t) a6).2, by show up2 w'.1 29 4 (mI (sk t N a)) 29 4 = _; rw [up2_s]⟩
          · have h1 : l.length + (40 - (s0 + l.length + 1)) ≤ 40 - s0 := by omega
            have := Nat.mul_le_mul_left B h1
            rw [Nat.mul_add] at this
            omega
        | .inl (p', l') =>
          rw [hr] at cu gu
          obtain ⟨j, w', ex', n', sl', U', nd', a1, a2, a3, a4, a5, a6, a7, a8, a9, a10⟩ := cu
          obtain ⟨g1, g2, g3, g4, g5, -, -⟩ := gu
          have eni : nd' i = l := (a3.2 i hi).1.trans hnd
          have hBl' : B * l'.length ≤ 4 * l'.length := Nat.mul_le_mul_right _ hB4
          obtain ⟨m, w3, ex3, n3, sl3, U3, nd3, c1, c2, c3, c4, c5, c6, c7⟩ := c_join (P := P) (S0 := S0) (e := e) (D := D) (ex := ex') (kk := 3) (i := i) (j := j) (by decide) a2 (by omega) a7 (Nat.lt_of_lt_of_le hi a3.1) a5 (by rw [eni, a6]; omega)
          rw [eni, a6] at c6
          have c4' := c4.r1
          have fr3 : FrX fAr rdB w w3 := (f2.tr a4).tr c4'
          have hlen : (14 :: (l ++ l')).length = l.length + l'.length + 1 := by simp only [List.length_cons, List.length_append]
          have hI3 : CI P S0 e t N D w3 n3 sl3 U3 nd3 p' (s0 + (14 :: (l ++ l')).length) := by
            refine ⟨c2, hR.frx fr3, ?_, ?_, ?_, g5, by rw [hlen]; omega⟩
            · rw [c4.2.1 29 1 (by decide)]; exact a7
            · rw [c4.2.1 29 4 (by decide)]; exact a8
            · rw [c4.2.1 29 5 (by decide), a9, hlen]
              exact congrArg mI (by omega)
          rw [a1, ob]
          have c1' : F_X5_join (P.2.1 + 29) 3 (mI i) (mI j) (hp P w' ex' n' sl') = some (mI m, hp P w3 ex3 n3 sl3) := c1
          rw [c1', ob, naddL]
          try dsimp only
          have es : s0 + l.length + 1 + l'.length = s0 + (14 :: (l ++ l')).length := by rw [hlen]; omega
          rw [es]
          refine CO.lift (a3.tr c3) fr3 (ih w3 ex3 n3 sl3 U3 nd3 p' s0 X m (v4 + 1) _ hI3 hX ?_ c5 c6 (by omega) (by rw [hlen]; omega))
          rw [hlen, Nat.mul_add, Nat.mul_add]
          omega
    · rw [if_neg (by rw [ec]; exact g), if_neg g]
      exact ⟨i, _, _, _, _, U, nd, rfl, hS.wI, XT.rf, f0, hi, hnd, w1, w4, w5, hUX⟩
theorem c_readOr {k d B : Nat} {b : Bool} {u : pF} (hB : 1 ≤ B) (hB4 : B ≤ 4) (hg : gdF N u) (hu : ∀ (w : sW) (ex : Nat → Option sC) (n sl U : Nat) (nd : Nat → List Nat) (p s : Nat), CI P S0 e t N D w n sl U nd p s → U + 4 * (40 - s) ≤ 7500 → CO P S0 e N D w U nd U B s (F_X5_readAnd k (P.2.1 + 29) (mI d) (bI b) (hp P w ex n sl)) (u b p s)) (w : sW) (ex : Nat → Option sC) (n sl U : Nat) (nd : Nat → List Nat) (p s : Nat) (hI : CI P S0 e t N D w n sl U nd p s) (hX : U + 4 * (40 - s) ≤ 7500) : CO P S0 e N D w U nd U B s (F_X5_readOr (k + 1) (P.2.1 + 29) (mI d) (bI b) (hp P w ex n sl)) (pMany t N 124 14 u b p s) := by
  have cu := hu w ex n sl U nd p s hI hX
  have gu := hg b p s hI.2.2.2.2.2.1 hI.2.2.2.2.2.2
  rw [E_X5_readOr, z_29, ob, E_X5_readOr_0]
  have h400 := hI.2.1.2.1
  unfold pMany
  match hr : u b p s with
  | .inr q =>
    rw [hr] at cu gu
    obtain ⟨v, w', ex', n', sl', U', nd', a1, a2, a3, a4, a5, ⟨a, a6, a7⟩, a8⟩ := cu
    have hq9 : q ≤ N := gu
    have hf' : w'.1 29 1 ≠ -1 := by rw [a5]; exact mI_m1 (by omega)
    rw [a1, ob]
    obtain ⟨w3, b1, b3⟩ := c_readOrF (P := P) (ex := ex') (n := n') (sl := sl') (k := k) (v1 := mI d) (v2 := bI b) (v3 := v) (v4 := 0) (hI.2.1.frx a4) hf' a6 a7
    refine ⟨_, w3, ex', n', sl', U', nd', b1, ?_, a3, a4.tr ?_, ?_, ?_, a8⟩
    · rcases b3 with rfl | rfl
      · exact a2
      · exact a2.wI
    · rcases b3 with rfl | rfl
      · exact FrX.rf
      · exact FrX.rf.pI (by decide)
    · rcases b3 with rfl | rfl
      · exact a5
      · show up2 w'.1 29 4 (mI (sk t N a)) 29 1 = _
        rw [up2_j (by decide)]; exact a5
    · rcases b3 with rfl | rfl
      · exact ⟨a, a6, a7⟩
      · exact ⟨sk t N a, (sk_le (t := t) a6).2, by show up2 w'.1 29 4 (mI (sk t N a)) 29 4 = _; rw [up2_s]⟩
  | .inl (p', l) =>
    rw [hr] at cu gu
    obtain ⟨j, w', ex', n', sl', U', nd', a1, a2, a3, a4, a5, a6, a7, a8, a9, a10⟩ := cu
    obtain ⟨g1, g2, g3, g4, g5, -, -⟩ := gu
    rw [a1, ob]
    refine CO.lift a3 a4 ?_
    exact c_readOrL hB hB4 hg hu 41 w' ex' n' sl' U' nd' p' s U j 0 l ⟨a2, hI.2.1.frx a4, a7, a8, a9, g5, g3⟩ hX a10 a5 a6 (by decide) (by omega)
end CMa
