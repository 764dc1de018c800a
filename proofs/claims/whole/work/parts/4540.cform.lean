/-! the class's reader: not, brackets, all and some, words, units, if; the whole descent -/
section CFo
variable {P : sP} {S0 e N D : Nat} {t : Nat → Nat}
/-- a reading function of the class does as its picture says, from every state -/
def CS (P : sP) (S0 e : Nat) (t : Nat → Nat) (N D B : Nat) (G : sS → Option (Int32 × sS)) (f : Nat → Nat → pR) : Prop := ∀ (w : sW) (ex : Nat → Option sC) (n sl U : Nat) (nd : Nat → List Nat) (p s : Nat), CI P S0 e t N D w n sl U nd p s → U + 4 * (40 - s) ≤ 7500 → CO P S0 e N D w U nd U B s (G (hp P w ex n sl)) (f p s)
theorem c_not {w : sW} {ex : Nat → Option sC} {n sl U q s k d : Nat} {nd : Nat → List Nat} {b dk : Bool} {su : pF} (hd : if dk = true then d < 8 else d = 8) (hg : gdF N su) (hu : dk = true → CS P S0 e t N D (Bb b) (F_X5_readUnit k (P.2.1 + 29) (mI (d + 1)) (bI b)) (su b)) (hI : CI P S0 e t N D w n sl U nd q s) (hX : U + 4 * (40 - s) ≤ 7500) (hq : q < N) : CO P S0 e N D w U nd U (Bb b) s (F_X5_readNot (k + 1) (P.2.1 + 29) (mI d) (bI b) (hp P w ex n sl)) (if dk = false ∨ 40 ≤ s then .inr q else mapR 12 (su b (q + 1) (s + 1))) := by
  have hI0 := hI
  obtain ⟨hS, hR, hf, hat, hsg, hp9, hs40⟩ := hI
  have h400 := hR.2.1
  have hB := Bb_le b
  rw [E_X5_readNot, z_29, ob, E_X5_readNot_0]
  cases dk with
  | false =>
    have hd8 : d = 8 := hd
    rw [if_pos (Or.inl rfl), c_deepF hd8 hf, ob]
    try dsimp only
    rw [if_pos rfl, hat]
    exact c_failCO hI0
  | true =>
    have hd8 : d < 8 := hd
    rw [c_deepT hd8, ob]
    try dsimp only
    rw [if_neg (by decide), q_29_4, ob, hat]
    by_cases g40 : 40 ≤ s
    · rw [if_pos (Or.inr g40), c_signF g40 (by omega) hsg hf, ob]
      try dsimp only
      rw [if_pos rfl]
      exact c_failCO hI0
    · have hI1 := (hI0.sg (by omega)).at (show q + 1 ≤ N by omega)
      rw [if_neg (fun z => z.elim (fun z => by cases z) g40), c_signT (by omega) hsg, ob]
      try dsimp only
      rw [if_neg (by decide), q_29_4, ob, (hI0.sg (by omega)).2.2.2.1, naddL, p_29_4, ob, naddL]
      refine CO.wI (j := 5) (v := mI (s + 1)) (by decide) (CO.wI (j := 4) (v := mI (q + 1)) (by decide) ?_)
      have cu := hu rfl _ ex n sl U nd (q + 1) (s + 1) hI1 (by omega)
      have gu := hg b (q + 1) (s + 1) (by omega) (by omega)
      match hr : su b (q + 1) (s + 1) with
      | .inr x =>
        rw [hr] at cu gu
        obtain ⟨v, w', ex', n', sl', U', nd', a1, a2, a3, a4, a5, a6, a7⟩ := cu
        have hx9 : x ≤ N := gu
        have hf' : w'.1 29 1 ≠ -1 := by rw [a5]; exact mI_m1 (by omega)
        rw [a1, ob, c_joinF hf', ob]
        exact ⟨_, w', ex', n', sl', U', nd', rfl, a2, a3, a4, a5, a6, Nat.le_trans a7 (Nat.add_le_add_left (Nat.mul_le_mul_left _ (by omega)) _)⟩
      | .inl (p', l) =>
        rw [hr] at cu gu
        obtain ⟨j, w', ex', n', sl', U', nd', a1, a2, a3, a4, a5, a6, a7, a8, a9, a10⟩ := cu
        obtain ⟨g1, g2, g3, g4, g5, -, -⟩ := gu
        have hBl : Bb b * l.length ≤ 4 * l.length := Nat.mul_le_mul_right _ hB.2
        obtain ⟨m, w3, ex3, n3, sl3, U3, nd3, c1, c2, c3, c4, c5, c6, c7⟩ := c_makeN (ex := ex') (k := 1) (a := mI j) (b := -1) (l := 12 :: nd' j) a2 (by omega) (Or.inr (Or.inl ⟨rfl, j, a5, rfl, rfl, rfl⟩)) (by decide) (by rw [a6, List.length_cons]; omega)
        have c1' : F_X2_make (P.2.1 + 1) 1 (mI j) (-1) (hp P w' ex' n' sl') = some (mI m, hp P w3 ex3 n3 sl3) := c1
        rw [a1, ob, E_X5_join, z_29, ob, E_X5_join_0, q_29_1, ob]
        try dsimp only
        rw [a7, if_pos rfl, q_29_2, ob, c1', ob, ob]
        refine ⟨m, w3, ex3, n3, sl3, U3, nd3, rfl, c2, a3.tr c3, a4.tr c4.r1, c5, by rw [c6, a6], ?_, ?_, ?_, ?_⟩
        · rw [c4.2.1 29 1 (by decide)]; exact a7
        · rw [c4.2.1 29 4 (by decide)]; exact a8
        · rw [c4.2.1 29 5 (by decide), a9]
          exact congrArg mI (by simp only [List.length_cons]; omega)
        · rw [List.length_cons, Nat.mul_add]; omega
theorem c_inner {w : sW} {ex : Nat → Option sC} {n sl U q s k d : Nat} {nd : Nat → List Nat} {b dk : Bool} {si : pF} (hd : if dk = true then d < 8 else d = 8) (hg : gdF N si) (hu : dk = true → CS P S0 e t N D (Bb b) (F_X5_readIf k (P.2.1 + 29) (mI (d + 1)) (bI b)) (si b)) (hI : CI P S0 e t N D w n sl U nd q s) (hX : U + 4 * (40 - s) ≤ 7500) (hq : q < N) : CO P S0 e N D w U nd U (Bb b) s (F_X5_readInner (k + 1) (P.2.1 + 29) (mI d) (bI b) (hp P w ex n sl)) (if dk = false then .inr q else match si b (q + 1) s with
    | .inl (p', l) => if chr t N (sk t N p') = 41 then .inl (sk t N p' + 1, l) else .inr (sk t N p')
    | .inr e => .inr e) := by
  have hI0 := hI
  obtain ⟨hS, hR, hf, hat, hsg, hp9, hs40⟩ := hI
  have h400 := hR.2.1
  rw [E_X5_readInner, z_29, ob, E_X5_readInner_0]
  cases dk with
  | false =>
    have hd8 : d = 8 := hd
    rw [if_pos rfl, c_deepF hd8 hf, ob]
    try dsimp only
    rw [if_pos rfl, hat]
    exact c_failCO hI0
  | true =>
    have hd8 : d < 8 := hd
    have hI1 := hI0.at (show q + 1 ≤ N by omega)
    rw [if_neg (by decide), c_deepT hd8, ob]
    try dsimp only
    rw [if_neg (by decide), q_29_4, ob, hat, naddL, p_29_4, ob, naddL]
    refine CO.wI (j := 4) (v := mI (q + 1)) (by decide) ?_
    have cu := hu rfl _ ex n sl U nd (q + 1) s hI1 (by omega)
    have gu := hg b (q + 1) s (by omega) hs40
    match hr : si b (q + 1) s with
    | .inr x =>
      rw [hr] at cu gu
      obtain ⟨v, w', ex', n', sl', U', nd', a1, a2, a3, a4, a5, ⟨a, a6, a7⟩, a8⟩ := cu
      have hx9 : x ≤ N := gu
      have hR' : RS w' t N D := hI1.2.1.frx a4
      have hf' : w'.1 29 1 ≠ -1 := by rw [a5]; exact mI_m1 (by omega)
      have hf2 : (wI w' 29 4 (mI (sk t N a))).1 29 1 ≠ -1 := by show up2 w'.1 29 4 (mI (sk t N a)) 29 1 ≠ _; rw [up2_j (by decide)]; exact hf'
      rw [a1, ob, c_peek hR' a6 a7, ob, if_neg hf']
      try dsimp only
      rw [if_pos rfl, q_29_0, ob, c_fail, ob, if_neg hf2]
      exact ⟨_, _, ex', n', sl', U', nd', rfl, a2.wI, a3, a4.pI (by decide), by show up2 w'.1 29 4 (mI (sk t N a)) 29 1 = _; rw [up2_j (by decide)]; exact a5, ⟨sk t N a, (sk_le (t := t) a6).2, by show up2 w'.1 29 4 (mI (sk t N a)) 29 4 = _; rw [up2_s]⟩, a8⟩
    | .inl (p', l) =>
      rw [hr] at cu gu
      obtain ⟨j, w', ex', n', sl', U', nd', a1, a2, a3, a4, a5, a6, a7, a8, a9, a10⟩ := cu
      obtain ⟨g1, g2, g3, g4, g5, -, -⟩ := gu
      have hR' : RS w' t N D := hI1.2.1.frx a4
      have hk := sk_le (t := t) g5
      have hI2 : CI P S0 e t N D w' n' sl' U' nd' p' (s + l.length) := ⟨a2, hR', a7, a8, a9, g5, g3⟩
      have hI3 := hI2.at hk.2
      have cb := chr_b hR' (sk t N p')
      have bound : U' ≤ U + Bb b * (40 - s) := Nat.le_trans a10 (Nat.add_le_add_left (Nat.mul_le_mul_left _ (by omega)) _)
      have failed : ∀ x, x ≤ N → CO P S0 e N D (wI w 29 4 (mI (q + 1))) U nd U (Bb b) s (some ((-1, hp P (wI (wI w' 29 4 (mI (sk t N p'))) 29 1 (mI x)) ex' n' sl') : Int32 × sS)) (.inr x) := fun x _ => ⟨_, _, ex', n', sl', U', nd', rfl, (a2.wI).wI, a3, (a4.pI (by decide)).pI (by decide), by show up2 (wI w' 29 4 (mI (sk t N p'))).1 29 1 (mI x) 29 1 = _; rw [up2_s], ⟨sk t N p', hk.2, by show up2 (wI w' 29 4 (mI (sk t N p'))).1 29 1 (mI x) 29 4 = _; rw [up2_j (by decide)]; exact hI3.2.2.2.1⟩, bound⟩
      rw [a1, ob, c_peek hR' g5 a8, ob, if_pos a7]
      try dsimp only
      by_cases g9 : chr t N (sk t N p') = 999
      · have hN : sk t N p' = N := by
          have : ¬ sk t N p' < N := fun z => by
            have e9 : chr t N (sk t N p') = t (sk t N p') := if_pos z
            have := (hR'.2.2.2 _ z).1
            omega
          omega
        rw [if_pos (by rw [cv_m1 cb]; exact g9), q_29_0, ob, hI3.2.1.1, c_fail, ob, if_pos hI3.2.2.1, if_neg (by omega)]
        have := failed (sk t N p') hk.2
        rw [hN] at this ⊢
        exact this
      · rw [if_neg (by rw [cv_m1 cb]; exact g9)]
        have e41 : (cv (chr t N (sk t N p')) = 41) = (chr t N (sk t N p') = 41) := cv_eq (k := 41) (by decide) cb
        have hlt := chr_lt g9
        by_cases g41 : chr t N (sk t N p') = 41
        · rw [if_pos (by rw [e41]; exact g41), if_pos g41, q_29_4, ob, hI3.2.2.2.1, naddL, p_29_4, ob]
          have hI4 := hI3.at (show sk t N p' + 1 ≤ N by omega)
          exact ⟨j, _, ex', n', sl', U', nd', rfl, hI4.1, a3, (a4.pI (by decide)).pI (by decide), a5, a6, hI4.2.2.1, hI4.2.2.2.1, hI4.2.2.2.2.1, a10⟩
        · rw [if_neg (by rw [e41]; exact g41), if_neg g41, q_29_4, ob, hI3.2.2.2.1, c_fail, ob, if_pos hI3.2.2.1]
          exact failed _ hk.2
theorem c_binderR {w : sW} {ex : Nat → Option sC} {n sl U q s k d e' kk : Nat} {nd : Nat → List Nat} {b dk : Bool} {su : pF} (hkk : kk = 5 ∨ kk = 6) (h1 : 1 ≤ D) (h3 : D ≤ 3) (hd : if dk = true then d < 8 else d = 8) (hg : gdF N su) (hu : dk = true → CS P S0 e t N D 1 (F_X5_readUnit k (P.2.1 + 29) (mI (d + 1)) (bI true)) (su true)) (hI : CI P S0 e t N D w n sl U nd q s) (hX : U + 4 * (40 - s) ≤ 7500) (he : e' ≤ N) : CO P S0 e N D w U nd U (Bb b) s (F_X5_readBinder (k + 1) (P.2.1 + 29) (mI kk) (mI e') (mI d) (bI b) (hp P w ex n sl)) (if b = true ∨ dk = false ∨ 40 ≤ s then .inr q else mapR (11 + kk) (su true e' (s + 1))) := by
  have hI0 := hI
  obtain ⟨hS, hR, hf, hat, hsg, hp9, hs40⟩ := hI
  have h400 := hR.2.1
  rw [E_X5_readBinder, z_29, ob, E_X5_readBinder_0]
  cases b with
  | true =>
    rw [if_neg (show ¬ bI true = 0 by decide), if_pos (Or.inl rfl), q_29_4, ob, hat, c_fail, ob, if_pos hf]
    exact c_failCO hI0
  | false =>
    rw [if_pos (show bI false = 0 from rfl)]
    cases dk with
    | false =>
      have hd8 : d = 8 := hd
      rw [if_pos (Or.inr (Or.inl rfl)), c_deepF hd8 hf, ob]
      try dsimp only
      rw [if_pos rfl, hat]
      exact c_failCO hI0
    | true =>
      have hd8 : d < 8 := hd
      rw [c_deepT hd8, ob]
      try dsimp only
      rw [if_neg (by decide), q_29_4, ob, hat]
      by_cases g40 : 40 ≤ s
      · rw [if_pos (Or.inr (Or.inr g40)), c_signF g40 (by omega) hsg hf, ob]
        try dsimp only
        rw [if_pos rfl]
        exact c_failCO hI0
      · have hI1 := (hI0.sg (by omega)).at he
        rw [if_neg (fun z => z.elim (fun z => by cases z) (fun z => z.elim (fun z => by cases z) g40)), c_signT (by omega) hsg, ob]
        try dsimp only
        rw [if_neg (by decide), p_29_4, ob, naddL]
        refine CO.wI (j := 5) (v := mI (s + 1)) (by decide) (CO.wI (j := 4) (v := mI e') (by decide) ?_)
        have cu := hu rfl _ ex n sl U nd e' (s + 1) hI1 (by omega)
        have gu := hg true e' (s + 1) he (by omega)
        match hr : su true e' (s + 1) with
        | .inr x =>
          rw [hr] at cu gu
          obtain ⟨v, w', ex', n', sl', U', nd', a1, a2, a3, a4, a5, a6, a7⟩ := cu
          have hx9 : x ≤ N := gu
          have hf' : w'.1 29 1 ≠ -1 := by rw [a5]; exact mI_m1 (by omega)
          have a1' : F_X5_readUnit k (P.2.1 + 29) (mI (d + 1)) 1 (hp P (wI (wI w 29 5 (mI (s + 1))) 29 4 (mI e')) ex n sl) = some (v, hp P w' ex' n' sl') := a1
          rw [a1', ob, q_29_1, ob, if_neg hf']
          exact ⟨_, w', ex', n', sl', U', nd', rfl, a2, a3, a4, a5, a6, by show U' ≤ U + 4 * (40 - s); omega⟩
        | .inl (p', l) =>
          rw [hr] at cu gu
          obtain ⟨j, w', ex', n', sl', U', nd', a1, a2, a3, a4, a5, a6, a7, a8, a9, a10⟩ := cu
          obtain ⟨g1, g2, g3, g4, g5, g6, -⟩ := gu
          have a1' : F_X5_readUnit k (P.2.1 + 29) (mI (d + 1)) 1 (hp P (wI (wI w 29 5 (mI (s + 1))) 29 4 (mI e')) ex n sl) = some (mI j, hp P w' ex' n' sl') := a1
          have hR' : RS w' t N D := hI1.2.1.frx a4
          obtain ⟨m, w3, ex3, n3, sl3, U3, nd3, c1, c2, c3, c4, c5, c6, c7⟩ := c_makeBinder (P := P) (S0 := S0) (e := e) (ex := ex') (ib := j) hkk h1 h3 a2 a5 (by rw [a6]; exact g6 rfl) (by rw [a6]; omega) (by rw [a6]; omega)
          rw [a6] at c6 c7
          rw [a1', ob, q_29_1, ob]
          try dsimp only
          rw [a7, if_pos rfl, q_29_2, ob, q_29_6, ob, hR'.2.2.1, c1, ob]
          refine ⟨m, w3, ex3, n3, sl3, U3, nd3, rfl, c2, a3.tr c3, a4.tr c4.r1, c5, c6, ?_, ?_, ?_, ?_⟩
          · rw [c4.2.1 29 1 (by decide)]; exact a7
          · rw [c4.2.1 29 4 (by decide)]; exact a8
          · rw [c4.2.1 29 5 (by decide), a9]
            exact congrArg mI (by simp only [List.length_cons]; omega)
          · show U3 ≤ U + 4 * ((11 + kk) :: l).length
            rw [List.length_cons]; omega
end CFo
