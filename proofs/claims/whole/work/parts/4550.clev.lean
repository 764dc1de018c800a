/-! the class's reader: words, units, if; the whole descent -/
def KS (P : sP) : Prop := KW P 2 [97, 108, 108] ∧ KW P 3 [115, 111, 109, 101] ∧ KW P 4 [102, 120] ∧ KW P 5 [103, 120]
section CLv
variable {P : sP} {S0 e N D : Nat} {t : Nat → Nat}
theorem isW2 {c q e' : Nat} : isW t [c, 120] q e' ↔ e' - q = 2 ∧ t q = c ∧ t (q + 1) = 120 := by
  unfold isW
  constructor
  · rintro ⟨h1, h2⟩
    exact ⟨h1, h2 0 (by simp), h2 1 (by simp)⟩
  · rintro ⟨h1, h2, h3⟩
    refine ⟨h1, fun i hi => ?_⟩
    have hi : i < 2 := hi
    rcases (show i = 0 ∨ i = 1 by omega) with rfl | rfl
    · exact h2
    · exact h3
theorem c_word {w : sW} {ex : Nat → Option sC} {n sl U q s k d : Nat} {nd : Nat → List Nat} {b dk : Bool} {su : pF} (hK : KS P) (h1 : 1 ≤ D) (h3 : D ≤ 3) (hd : if dk = true then d < 8 else d = 8) (hg : gdF N su) (hu : dk = true → CS P S0 e t N D 1 (F_X5_readUnit k (P.2.1 + 29) (mI (d + 1)) (bI true)) (su true)) (hI : CI P S0 e t N D w n sl U nd q s) (hX : U + 4 * (40 - s) ≤ 7500) (hq : q < N) : CO P S0 e N D w U nd U (Bb b) s (F_X5_readWord (k + 1 + 1) (P.2.1 + 29) (mI d) (bI b) (hp P w ex n sl)) (pWord t N D dk su b q (we t N q) s) := by
  have hI0 := hI
  obtain ⟨hS, hR, hf, hat, hsg, hp9, hs40⟩ := hI
  have h400 := hR.2.1
  have hB := Bb_le b
  have hw := we_le (t := t) hp9
  have ev : ∀ c, (hp P w ex n sl).2.2.2 c = P.2.2 c := fun _ => rfl
  rw [E_X5_readWord, z_29, ob, E_X5_readWord_0, q_29_4, ob, hat, c_wordEnd hR hp9 hat, ob]
  try dsimp only
  rw [ev, c_isWord hR hK.1 hw.1 hw.2, ob]
  try dsimp only
  unfold pWord
  by_cases g1 : isW t [97, 108, 108] q (we t N q)
  · rw [if_neg (show ¬ b2 _ = 0 from fun z => b2_0.mp z g1), if_pos g1]
    have cb := c_binderR (ex := ex) (kk := 5) (e' := we t N q) (b := b) (Or.inl rfl) h1 h3 hd hg hu hI0 hX hw.2
    have cb' : CO P S0 e N D w U nd U (Bb b) s (F_X5_readBinder (k + 1) (P.2.1 + 29) 5 (mI (we t N q)) (mI d) (bI b) (hp P w ex n sl)) (if b = true ∨ dk = false ∨ 40 ≤ s then .inr q else mapR 16 (su true (we t N q) (s + 1))) := cb
    generalize F_X5_readBinder (k + 1) (P.2.1 + 29) 5 (mI (we t N q)) (mI d) (bI b) (hp P w ex n sl) = o at cb' ⊢
    cases o with
    | none => exact cb'
    | some z => exact cb'
  · rw [if_pos (b2_0.mpr g1), if_neg g1, ev, c_isWord hR hK.2.1 hw.1 hw.2, ob]
    try dsimp only
    by_cases g2 : isW t [115, 111, 109, 101] q (we t N q)
    · rw [if_neg (show ¬ b2 _ = 0 from fun z => b2_0.mp z g2), if_pos g2]
      have cb := c_binderR (ex := ex) (kk := 6) (e' := we t N q) (b := b) (Or.inr rfl) h1 h3 hd hg hu hI0 hX hw.2
      have cb' : CO P S0 e N D w U nd U (Bb b) s (F_X5_readBinder (k + 1) (P.2.1 + 29) 6 (mI (we t N q)) (mI d) (bI b) (hp P w ex n sl)) (if b = true ∨ dk = false ∨ 40 ≤ s then .inr q else mapR 17 (su true (we t N q) (s + 1))) := cb
      generalize F_X5_readBinder (k + 1) (P.2.1 + 29) 6 (mI (we t N q)) (mI d) (bI b) (hp P w ex n sl) = o at cb' ⊢
      cases o with
      | none => exact cb'
      | some z => exact cb'
    · rw [if_pos (b2_0.mpr g2), if_neg g2, nsub hw.1]
      have ec : chr t N q = t q := if_pos hq
      have tb := (hR.2.2.2 q hq).1
      have ecv : cv (chr t N q) = mI (t q) := by rw [ec]; exact if_neg (by omega)
      by_cases g3 : we t N q - q = 1
      · rw [if_pos (by rw [neqL (by omega) (by decide)]; exact g3), if_pos g3, c_byteAt rfl (by omega) hR, ob, ecv]
        try dsimp only
        have cs := c_short (ex := ex) (B := Bb b) hB.1 h3 hI0 (by omega) hq
        generalize F_X5_readShort (P.2.1 + 29) (mI (t q)) (hp P w ex n sl) = o at cs ⊢
        cases o with
        | none => exact cs
        | some z => exact cs
      · rw [if_neg (by rw [neqL (by omega) (by decide)]; exact g3), if_neg g3, ev, c_isWord hR hK.2.2.1 hw.1 hw.2, ob]
        try dsimp only
        have bad : R_X5_readWord_122 (k + 1) (P.2.1 + 29) (mI q) (hp P w ex n sl) = some (-1, hp P (wI w 29 1 (mI q)) ex n sl) := by rw [E_X5_readWord_122, c_fail, ob, if_pos hf]
        have good : (we t N q - q = 2 ∧ (t q = 102 ∨ t q = 103) ∧ t (q + 1) = 120) → CO P S0 e N D w U nd U (Bb b) s (R_X5_readWord_98 (k + 1) (P.2.1 + 29) (bI b) (mI q) (mI (we t N q)) (hp P w ex n sl)) (if (we t N q - q = 2 ∧ (t q = 102 ∨ t q = 103) ∧ t (q + 1) = 120) ∧ b = true ∧ s < 40 then .inl (we t N q, [if t q = 102 then 4 else 5]) else .inr q) := by
          intro gx
          rw [E_X5_readWord_98, E_X5_readWord_103, if_neg (by decide)]
          cases b with
          | false =>
            rw [if_pos (show bI false = 0 from rfl), bad, if_neg (fun z => by cases z.2.1)]
            exact c_failCO hI0
          | true =>
            rw [if_neg (show ¬ bI true = 0 by decide)]
            by_cases g40 : 40 ≤ s
            · rw [if_neg (fun z => by have := z.2.2; omega), c_signF g40 (by omega) hsg hf, ob]
              try dsimp only
              have hf2 : (wI w 29 1 (mI q)).1 29 1 ≠ -1 := by show up2 w.1 29 1 (mI q) 29 1 ≠ _; rw [up2_s]; exact mI_m1 (by omega)
              rw [if_pos rfl, E_X5_readWord_122, c_fail, ob, if_neg hf2]
              exact c_failCO hI0
            · have hI1 := (hI0.sg (by omega)).at hw.2
              rw [if_pos ⟨gx, rfl, by omega⟩, c_signT (by omega) hsg, ob]
              try dsimp only
              rw [if_neg (by decide), p_29_4, ob, q_29_2, ob, c_byteAt rfl (by omega) hI1.2.1, ob, ecv, c_letterOf, ob]
              try dsimp only
              refine CO.wI (j := 5) (v := mI (s + 1)) (by decide) (CO.wI (j := 4) (v := mI (we t N q)) (by decide) ?_)
              have lc := lof_c (t q) tb
              rw [if_neg (by omega)] at lc
              rcases gx.2.1 with g4 | g5
              · rw [if_pos g4] at lc
                rw [lc, if_pos g4]
                exact c_atomCO (a := 4) (τ := 3) (by decide) hI1 (by omega) (by decide) (by decide) (fun z => absurd z (by decide)) rfl
              · rw [if_neg (by omega), if_pos g5] at lc
                rw [lc, if_neg (by omega)]
                exact c_atomCO (a := 5) (τ := 3) (by decide) hI1 (by omega) (by decide) (by decide) (fun z => absurd z (by decide)) rfl
        by_cases g4 : isW t [102, 120] q (we t N q)
        · have z4 := isW2.mp g4
          rw [if_neg (show ¬ b2 _ = 0 from fun z => b2_0.mp z g4)]
          exact good ⟨z4.1, Or.inl z4.2.1, z4.2.2⟩
        · rw [if_pos (b2_0.mpr g4), ev, c_isWord hR hK.2.2.2 hw.1 hw.2, ob]
          try dsimp only
          by_cases g5 : isW t [103, 120] q (we t N q)
          · have z5 := isW2.mp g5
            rw [if_neg (show ¬ b2 _ = 0 from fun z => b2_0.mp z g5)]
            exact good ⟨z5.1, Or.inr z5.2.1, z5.2.2⟩
          · rw [if_pos (b2_0.mpr g5), E_X5_readWord_103, if_pos rfl, bad, if_neg (fun z => z.1.2.1.elim (fun y => g4 (isW2.mpr ⟨z.1.1, y, z.1.2.2⟩)) (fun y => g5 (isW2.mpr ⟨z.1.1, y, z.1.2.2⟩)))]
            exact c_failCO hI0
theorem CO_bind {w : sW} {U X B s0 : Nat} {nd : Nat → List Nat} {o : Option (Int32 × sS)} {r : pR} (h : CO P S0 e N D w U nd X B s0 o r) : CO P S0 e N D w U nd X B s0 (o.bind fun q => some (q.1, q.2)) r := by
  cases o with
  | none => exact h
  | some z => exact h
theorem c_unitR {k d : Nat} {b dk : Bool} {su si : pF} (hK : KS P) (h1 : 1 ≤ D) (h3 : D ≤ 3) (hd : if dk = true then d < 8 else d = 8) (hgu : gdF N su) (hgi : gdF N si) (hu1 : dk = true → CS P S0 e t N D (Bb b) (F_X5_readUnit (k + 1) (P.2.1 + 29) (mI (d + 1)) (bI b)) (su b)) (hi1 : dk = true → CS P S0 e t N D (Bb b) (F_X5_readIf (k + 1) (P.2.1 + 29) (mI (d + 1)) (bI b)) (si b)) (hu0 : dk = true → CS P S0 e t N D 1 (F_X5_readUnit k (P.2.1 + 29) (mI (d + 1)) (bI true)) (su true)) : CS P S0 e t N D (Bb b) (F_X5_readUnit (k + 3) (P.2.1 + 29) (mI d) (bI b)) (pUnit t N D dk su si b) := by
  intro w ex n sl U nd p s hI hX
  have hI0 := hI
  obtain ⟨hS, hR, hf, hat, hsg, hp9, hs40⟩ := hI
  have h400 := hR.2.1
  have hk := sk_le (t := t) hp9
  have hI1 := hI0.at hk.2
  have cb := chr_b hR (sk t N p)
  rw [E_X5_readUnit, z_29, ob, E_X5_readUnit_0, c_peek hR hp9 hat, ob, if_pos hf]
  try dsimp only
  refine CO.wI (j := 4) (v := mI (sk t N p)) (by decide) ?_
  unfold pUnit
  by_cases g9 : chr t N (sk t N p) = 999
  · have hN : sk t N p = N := by
      have : ¬ sk t N p < N := fun z => by
        have e9 : chr t N (sk t N p) = t (sk t N p) := if_pos z
        have := (hR.2.2.2 _ z).1
        omega
      omega
    rw [if_pos (by rw [cv_m1 cb]; exact g9), if_pos g9, q_29_0, ob, hI1.2.1.1, c_fail, ob, if_pos hI1.2.2.1]
    have := c_failCO (x := N) (v := -1) (B := Bb b) (ex := ex) hI1
    rw [hN] at this ⊢
    exact this
  · have hlt := chr_lt g9
    rw [if_neg (by rw [cv_m1 cb]; exact g9), if_neg g9]
    have e45 : (cv (chr t N (sk t N p)) = 45) = (chr t N (sk t N p) = 45) := cv_eq (k := 45) (by decide) cb
    have e40 : (cv (chr t N (sk t N p)) = 40) = (chr t N (sk t N p) = 40) := cv_eq (k := 40) (by decide) cb
    by_cases g45 : chr t N (sk t N p) = 45
    · rw [if_pos (by rw [e45]; exact g45), if_pos g45]
      exact CO_bind (c_not hd hgu hu1 hI1 hX hlt)
    · rw [if_neg (by rw [e45]; exact g45), if_neg g45]
      by_cases g40 : chr t N (sk t N p) = 40
      · rw [if_pos (by rw [e40]; exact g40), if_pos g40]
        exact CO_bind (c_inner hd hgi hi1 hI1 hX hlt)
      · have ec : chr t N (sk t N p) = t (sk t N p) := if_pos hlt
        rw [if_neg (by rw [e40]; exact g40), if_neg g40, q_29_4, ob, hI1.2.2.2.1, c_isLetter rfl (by omega) hI1.2.1, ob]
        try dsimp only
        by_cases gl : 97 ≤ chr t N (sk t N p) ∧ chr t N (sk t N p) ≤ 122
        · rw [if_neg (show ¬ b2 _ = 0 from fun z => b2_0.mp z ⟨hlt, by rw [← ec]; exact gl.1, by rw [← ec]; exact gl.2⟩), if_pos gl]
          exact CO_bind (c_word hK h1 h3 hd hgu hu0 hI1 hX hlt)
        · rw [if_pos (b2_0.mpr (fun z => gl (by rw [ec]; exact z.2))), if_neg gl, q_29_4, ob, hI1.2.2.2.1, c_fail, ob, if_pos hI1.2.2.1]
          exact c_failCO hI1
theorem c_ifR {k d : Nat} {b dk : Bool} {o si : pF} (hd : if dk = true then d < 8 else d = 8) (hgo : gdF N o) (hgi : gdF N si) (ho : CS P S0 e t N D (Bb b) (F_X5_readOr k (P.2.1 + 29) (mI d) (bI b)) (o b)) (hi1 : dk = true → CS P S0 e t N D (Bb b) (F_X5_readIf k (P.2.1 + 29) (mI (d + 1)) (bI b)) (si b)) : CS P S0 e t N D (Bb b) (F_X5_readIf (k + 1) (P.2.1 + 29) (mI d) (bI b)) (pIf t N dk o si b) := by
  intro w ex n sl U nd p s hI hX
  have hB := Bb_le b
  have cu := ho w ex n sl U nd p s hI hX
  have gu := hgo b p s hI.2.2.2.2.2.1 hI.2.2.2.2.2.2
  have h400 := hI.2.1.2.1
  rw [E_X5_readIf, z_29, ob, E_X5_readIf_0]
  unfold pIf
  match hr : o b p s with
  | .inr x =>
    rw [hr] at cu gu
    obtain ⟨v, w', ex', n', sl', U', nd', a1, a2, a3, a4, a5, ⟨a, a6, a7⟩, a8⟩ := cu
    have hx9 : x ≤ N := gu
    have hR' : RS w' t N D := hI.2.1.frx a4
    have hf' : w'.1 29 1 ≠ -1 := by rw [a5]; exact mI_m1 (by omega)
    rw [a1, ob, c_peek hR' a6 a7, ob, if_neg hf']
    try dsimp only
    rw [if_neg (by decide)]
    exact ⟨_, _, ex', n', sl', U', nd', rfl, a2.wI, a3, a4.pI (by decide), by show up2 w'.1 29 4 (mI (sk t N a)) 29 1 = _; rw [up2_j (by decide)]; exact a5, ⟨sk t N a, (sk_le (t := t) a6).2, by show up2 w'.1 29 4 (mI (sk t N a)) 29 4 = _; rw [up2_s]⟩, a8⟩
  | .inl (p', l) =>
    rw [hr] at cu gu
    obtain ⟨i, w', ex', n', sl', U', nd', a1, a2, a3, a4, a5, a6, a7, a8, a9, a10⟩ := cu
    obtain ⟨g1, g2, g3, g4, g5, -, -⟩ := gu
    have hR' : RS w' t N D := hI.2.1.frx a4
    have hk := sk_le (t := t) g5
    have hI2 : CI P S0 e t N D w' n' sl' U' nd' p' (s + l.length) := ⟨a2, hR', a7, a8, a9, g5, g3⟩
    have hI3 := hI2.at hk.2
    have cb := chr_b hR' (sk t N p')
    have hBl : Bb b * l.length ≤ 4 * l.length := Nat.mul_le_mul_right _ hB.2
    have bound : U' ≤ U + Bb b * (40 - s) := Nat.le_trans a10 (Nat.add_le_add_left (Nat.mul_le_mul_left _ (by omega)) _)
    have f3 : FrX fAr rdB w (wI w' 29 4 (mI (sk t N p'))) := a4.pI (by decide)
    rw [a1, ob, c_peek hR' g5 a8, ob, if_pos a7]
    try dsimp only
    have e62 : (cv (chr t N (sk t N p')) = 62) = (chr t N (sk t N p') = 62) := cv_eq (k := 62) (by decide) cb
    show CO P S0 e N D w U nd U (Bb b) s _ (if chr t N (sk t N p') = 62 then _ else _)
    by_cases g62 : chr t N (sk t N p') = 62
    · have hlt : sk t N p' < N := chr_lt (t := t) (N := N) (by rw [g62]; decide)
      rw [if_pos (by rw [e62]; exact g62), if_pos g62]
      have failed : ∀ v : Int32, CO P S0 e N D w U nd U (Bb b) s (some ((v, hp P (wI (wI w' 29 4 (mI (sk t N p'))) 29 1 (mI (sk t N p'))) ex' n' sl') : Int32 × sS)) (.inr (sk t N p')) := fun v => ⟨_, _, ex', n', sl', U', nd', rfl, (a2.wI).wI, a3, f3.pI (by decide), by show up2 (wI w' 29 4 (mI (sk t N p'))).1 29 1 (mI (sk t N p')) 29 1 = _; rw [up2_s], ⟨sk t N p', hk.2, by show up2 (wI w' 29 4 (mI (sk t N p'))).1 29 1 (mI (sk t N p')) 29 4 = _; rw [up2_j (by decide)]; exact hI3.2.2.2.1⟩, bound⟩
      cases dk with
      | false =>
        have hd8 : d = 8 := hd
        rw [if_pos (Or.inl rfl), c_deepF hd8 hI3.2.2.1, ob]
        try dsimp only
        rw [if_pos rfl, up2_s]
        exact failed _
      | true =>
        have hd8 : d < 8 := hd
        rw [c_deepT hd8, ob]
        try dsimp only
        rw [if_neg (by decide), q_29_4, ob, hI3.2.2.2.1]
        by_cases g40 : 40 ≤ s + l.length
        · rw [if_pos (Or.inr g40), c_signF g40 (by omega) hI3.2.2.2.2.1 hI3.2.2.1, ob]
          try dsimp only
          rw [if_pos rfl]
          exact failed _
        · have hI4 := (hI3.sg (by omega)).at (show sk t N p' + 1 ≤ N by omega)
          rw [if_neg (fun z => z.elim (fun z => by cases z) g40), c_signT (by omega) hI3.2.2.2.2.1, ob]
          try dsimp only
          rw [if_neg (by decide), q_29_4, ob, (hI3.sg (by omega)).2.2.2.1, naddL, p_29_4, ob, naddL]
          have f4 : FrX fAr rdB w (wI (wI (wI w' 29 4 (mI (sk t N p'))) 29 5 (mI (s + l.length + 1))) 29 4 (mI (sk t N p' + 1))) := (f3.pI (by decide)).pI (by decide)
          have cu2 := hi1 rfl _ ex' n' sl' U' nd' (sk t N p' + 1) (s + l.length + 1) hI4 (by omega)
          have gu2 := hgi b (sk t N p' + 1) (s + l.length + 1) (by omega) (by omega)
          match hr2 : si b (sk t N p' + 1) (s + l.length + 1) with
          | .inr x =>
            rw [hr2] at cu2 gu2
            obtain ⟨v, w5, ex5, n5, sl5, U5, nd5, d1, d2, d3, d4, d5, d6, d7⟩ := cu2
            have hx9 : x ≤ N := gu2
            have hf' : w5.1 29 1 ≠ -1 := by rw [d5]; exact mI_m1 (by omega)
            rw [d1, ob, c_joinF hf', ob]
            refine ⟨_, w5, ex5, n5, sl5, U5, nd5, rfl, d2, a3.tr d3, f4.tr d4, d5, d6, ?_⟩
            have h9 : l.length + (40 - (s + l.length + 1)) ≤ 40 - s := by omega
            have := Nat.mul_le_mul_left (Bb b) h9
            rw [Nat.mul_add] at this
            omega
          | .inl (p2, l') =>
            rw [hr2] at cu2 gu2
            obtain ⟨j, w5, ex5, n5, sl5, U5, nd5, d1, d2, d3, d4, d5, d6, d7, d8, d9, d10⟩ := cu2
            obtain ⟨k1, k2, k3, k4, k5, -, -⟩ := gu2
            have eni : nd5 i = l := (d3.2 i a5).1.trans a6
            have hBl' : Bb b * l'.length ≤ 4 * l'.length := Nat.mul_le_mul_right _ hB.2
            obtain ⟨m, w6, ex6, n6, sl6, U6, nd6, c1, c2, c3, c4, c5, c6, c7⟩ := c_join (P := P) (S0 := S0) (e := e) (D := D) (ex := ex5) (kk := 4) (i := i) (j := j) (by decide) d2 (by omega) d7 (Nat.lt_of_lt_of_le a5 d3.1) d5 (by rw [eni, d6]; omega)
            rw [eni, d6] at c6
            have c1' : F_X5_join (P.2.1 + 29) 4 (mI i) (mI j) (hp P w5 ex5 n5 sl5) = some (mI m, hp P w6 ex6 n6 sl6) := c1
            rw [d1, ob, c1', ob]
            refine ⟨m, w6, ex6, n6, sl6, U6, nd6, rfl, c2, (a3.tr d3).tr c3, (f4.tr d4).tr c4.r1, c5, c6, ?_, ?_, ?_, ?_⟩
            · rw [c4.2.1 29 1 (by decide)]; exact d7
            · rw [c4.2.1 29 4 (by decide)]; exact d8
            · rw [c4.2.1 29 5 (by decide), d9]
              exact congrArg mI (by simp only [List.length_cons, List.length_append]; omega)
            · rw [List.length_cons, List.length_append, Nat.mul_add, Nat.mul_add]; omega
    · rw [if_neg (by rw [e62]; exact g62), if_neg g62]
      exact ⟨i, _, ex', n', sl', U', nd', rfl, hI3.1, a3, f3, a5, a6, hI3.2.2.1, hI3.2.2.2.1, hI3.2.2.2.2.1, a10⟩
/-- the whole descent -/
theorem c_lev (hK : KS P) (h1 : 1 ≤ D) (h3 : D ≤ 3) : ∀ r d, d + r = 8 → (∀ b k, 21 + 5 * r ≤ k → CS P S0 e t N D (Bb b) (F_X5_readUnit k (P.2.1 + 29) (mI d) (bI b)) ((lev t N D r).1 b)) ∧ (∀ b k, 24 + 5 * r ≤ k → CS P S0 e t N D (Bb b) (F_X5_readIf k (P.2.1 + 29) (mI d) (bI b)) ((lev t N D r).2 b)) := by
  have many : ∀ (d : Nat) (b : Bool) (u : pF) (K : Nat), gdF N u → (∀ k, K ≤ k → CS P S0 e t N D (Bb b) (F_X5_readUnit k (P.2.1 + 29) (mI d) (bI b)) (u b)) → ∀ k, K + 2 ≤ k → CS P S0 e t N D (Bb b) (F_X5_readOr k (P.2.1 + 29) (mI d) (bI b)) (pMany t N 124 14 (pMany t N 38 13 u) b) := by
    intro d b u K hg hu k hk
    obtain ⟨k', rfl⟩ : ∃ k', k = k' + 1 + 1 := ⟨k - 2, by omega⟩
    have hB := Bb_le b
    exact c_readOr hB.1 hB.2 (g_many (by decide) rfl hg) (c_readAnd hB.1 hB.2 hg (hu k' (by omega)))
  intro r
  induction r with
  | zero =>
    intro d hd
    have hd8 : (if (false : Bool) = true then d < 8 else d = 8) := by rw [if_neg (by decide)]; omega
    have hU : ∀ b k, 21 ≤ k → CS P S0 e t N D (Bb b) (F_X5_readUnit k (P.2.1 + 29) (mI d) (bI b)) (pUnit t N D false no0 no0 b) := by
      intro b k hk
      obtain ⟨k', rfl⟩ : ∃ k', k = k' + 3 := ⟨k - 3, by omega⟩
      exact c_unitR hK h1 h3 hd8 g_no g_no (fun z => by cases z) (fun z => by cases z) (fun z => by cases z)
    have gU := g_unit (t := t) (dk := false) h3 (g_no (N := N)) g_no
    refine ⟨hU, fun b k hk => ?_⟩
    obtain ⟨k', rfl⟩ : ∃ k', k = k' + 1 := ⟨k - 1, by omega⟩
    exact c_ifR hd8 (g_many (by decide) rfl (g_many (by decide) rfl gU)) g_no (many d b _ 21 gU (hU b) k' (by omega)) (fun z => by cases z)
  | succ r ih =>
    intro d hd
    obtain ⟨i1, i2⟩ := ih (d + 1) (by omega)
    have hd8 : (if (true : Bool) = true then d < 8 else d = 8) := by rw [if_pos rfl]; omega
    have gl := g_lev (t := t) (N := N) h3 r
    have hU : ∀ b k, 21 + 5 * (r + 1) ≤ k → CS P S0 e t N D (Bb b) (F_X5_readUnit k (P.2.1 + 29) (mI d) (bI b)) (pUnit t N D true (lev t N D r).1 (lev t N D r).2 b) := by
      intro b k hk
      obtain ⟨k', rfl⟩ : ∃ k', k = k' + 3 := ⟨k - 3, by omega⟩
      exact c_unitR hK h1 h3 hd8 gl.1 gl.2 (fun _ => i1 b (k' + 1) (by omega)) (fun _ => i2 b (k' + 1) (by omega)) (fun _ => i1 true k' (by omega))
    have gU := g_unit (t := t) (dk := true) h3 gl.1 gl.2
    refine ⟨hU, fun b k hk => ?_⟩
    obtain ⟨k', rfl⟩ : ∃ k', k = k' + 1 := ⟨k - 1, by omega⟩
    exact c_ifR hd8 (g_many (by decide) rfl (g_many (by decide) rfl gU)) gl.2 (many d b _ (21 + 5 * (r + 1)) gU (hU b) k' (by omega)) (fun _ => i2 b k' (by omega))
end CLv
