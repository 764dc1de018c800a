/-! the law: its last branches, its round, its loop -/
section LWT
variable {P : sP} {S0 e : Nat} {w : sW} {ex : Nat → Option sC} {n sl D F L R U a N i : Nat} {g : Nat → Int32} {y : sLn} {φ : Nat → List Nat} {nf : Nat → Nat} {ρ : sRc} {nd : Nat → List Nat}
theorem lw_4 (hA : KA P) (hKs : KS P) (hKC : KC P) (hS : KScr P a N g) (hi : i + 7 ≤ N) (hI : IVa P S0 e w n sl D F L R U y φ nf ρ nd) : NX P S0 e a i ((s_ai (hp P w ex n sl) a ((mI i) + 1)).bind fun x25 => (F_L_things P.2.1 x25 (hp P w ex n sl)).bind fun q26 => (s_ai q26.2 a ((mI i) + 1)).bind fun x27 => (F_X8_things (P.2.1 + 46) x27 q26.2).bind fun q28 => (F_X8_thrown (P.2.1 + 46) q28.2).bind fun q29 => if q29.1 = q26.1 then (R_L_law_2927 a P.2.1 (P.2.1 + 46) (P.2.1 + 72) (mI i) q29.2) else (some (0, q29.2))) := by
  obtain ⟨k, w1, n1, sl1, w2, e1, h1, h2, h3, h4, h6⟩ := pr_things (ex := ex) hI (g (i + 1))
  rw [ad_1, ks_ai hS (by omega), ob, h2, ob]
  try dsimp only
  rw [ks_ai hS (by omega), ob, h3, ob]
  try dsimp only
  rw [m_thrown, ob]
  try dsimp only
  rw [if_pos h4]
  exact nx_end h1 h6
theorem lw_42 (hA : KA P) (hKs : KS P) (hKC : KC P) (hS : KScr P a N g) (hi : i + 7 ≤ N) (hI : IVa P S0 e w n sl D F L R U y φ nf ρ nd) : NX P S0 e a i ((F_X7_image P.2.1 (hp P w ex n sl)).bind fun q305 => (F_X8_image (P.2.1 + 46) q305.2).bind fun q306 => R_L_law_2927 a P.2.1 (P.2.1 + 46) (P.2.1 + 72) (mI i) q306.2) := by
  obtain ⟨w1, w2, h2, h3, h6⟩ := pr_image (ex := ex) hI
  rw [h2, ob]
  try dsimp only
  rw [h3, ob]
  exact nx_end (Nat.le_succ e) h6
theorem lw_11c (hA : KA P) (hKs : KS P) (hKC : KC P) (hS : KScr P a N g) (hi : i + 7 ≤ N) (hI : IVa P S0 e w n sl D F L R U y φ nf ρ nd) {c : Int32} (hc : c = 0 ∨ c = 1) (hg : (g (i + 3) = 0 ∧ c = 0) ∨ (¬ g (i + 3) = 0 ∧ c = 1)) : NX P S0 e a i (R_L_law_864 a P.2.1 (P.2.1 + 46) (P.2.1 + 72) (mI i) c (g (i + 2)) (g (i + 1)) P.2.1 (hp P w ex n sl)) := by
  obtain ⟨k, x, ex1, n1, sl1, w1, w2, e1, h1, h2, h3, h4, h5, h6⟩ := lr_believe (ex := ex) hI (g (i + 1)) (g (i + 2)) c hc
  have fin : NX P S0 e a i (R_L_law_897 a P.2.1 (P.2.1 + 46) (P.2.1 + 72) (mI i) k c (g (i + 2)) (g (i + 1)) (P.2.1 + 46) (hp P w1 ex1 n1 sl1)) := by
    rw [E_L_law_897, h3, ob]
    try dsimp only
    rw [m_thrown, ob]
    try dsimp only
    rw [if_pos h4]
    by_cases gk : k = 0
    · obtain ⟨z1, z2⟩ := h5 gk
      rw [if_pos gk, show s_al (hp P w2 ex1 n1 sl1) (P.2.1 + 72) 0 = some (w2.2.2.2.1 72 0) from ra_72 (i := 0) (by decide), ob, z1]
      rcases z2 with rfl | rfl
      · rw [if_pos rfl, E_L_law_931, if_pos (by decide), E_L_law_937]
        exact nx_end h1 h6
      · rw [if_neg (by decide), E_L_law_931, if_pos (by decide), E_L_law_937]
        exact nx_end h1 h6
    · rw [if_neg gk, E_L_law_937]
      exact nx_end h1 h6
  rw [E_L_law_864, h2, ob]
  try dsimp only
  rw [ad_1, ks_ai hS (by omega), ob, ad_2, ks_ai hS (by omega), ob, ad_3, ks_ai hS (by omega), ob]
  rcases hg with ⟨z1, z2⟩ | ⟨z1, z2⟩
  · rw [if_pos z1]; rw [z2] at fin; exact fin
  · rw [if_neg z1]; rw [z2] at fin; exact fin
theorem lw_11 (hA : KA P) (hKs : KS P) (hKC : KC P) (hS : KScr P a N g) (hi : i + 7 ≤ N) (hI : IVa P S0 e w n sl D F L R U y φ nf ρ nd) : NX P S0 e a i ((s_ai (hp P w ex n sl) a ((mI i) + 1)).bind fun x76 => (s_ai (hp P w ex n sl) a ((mI i) + 2)).bind fun x77 => (s_ai (hp P w ex n sl) a ((mI i) + 3)).bind fun x78 => if x78 = 0 then (R_L_law_864 a P.2.1 (P.2.1 + 46) (P.2.1 + 72) (mI i) 0 x77 x76 P.2.1 (hp P w ex n sl)) else (R_L_law_864 a P.2.1 (P.2.1 + 46) (P.2.1 + 72) (mI i) 1 x77 x76 P.2.1 (hp P w ex n sl))) := by
  rw [ad_1, ks_ai hS (by omega), ob, ad_2, ks_ai hS (by omega), ob, ad_3, ks_ai hS (by omega), ob]
  by_cases z : g (i + 3) = 0
  · rw [if_pos z]; exact lw_11c hA hKs hKC hS hi hI (Or.inl rfl) (Or.inl ⟨z, rfl⟩)
  · rw [if_neg z]; exact lw_11c hA hKs hKC hS hi hI (Or.inr rfl) (Or.inr ⟨z, rfl⟩)
theorem lw_round (hA : KA P) (hKs : KS P) (hKC : KC P) (hS : KScr P a N g) (hi : i + 7 ≤ N) (hI : IVa P S0 e w n sl D F L R U y φ nf ρ nd) : NX P S0 e a i (R_L_law_23 a P.2.1 (P.2.1 + 46) (P.2.1 + 72) (mI i) (hp P w ex n sl)) := by
  have hN := hS.2.1
  rw [E_L_law_23, ks_len hS, ob, show mI N - 7 = mI (N - 7) from mI_sub (a := N) (b := 7) (by omega), if_neg (show ¬ mI (N - 7) < mI i by rw [nlt (by omega) (by omega)]; omega), ks_ai hS (by omega), ob]
  by_cases g0 : g i &&& 63 = 0
  · rw [if_pos g0]; exact lw_0 hA hKs hKC hS hi hI
  rw [if_neg g0]
  by_cases g1 : g i &&& 63 = 1
  · rw [if_pos g1]; exact lw_1 hA hKs hKC hS hi hI
  rw [if_neg g1]
  by_cases g2 : g i &&& 63 = 2
  · rw [if_pos g2]; exact lw_2 hA hKs hKC hS hi hI
  rw [if_neg g2]
  by_cases g3 : g i &&& 63 = 3
  · rw [if_pos g3]; exact lw_3 hA hKs hKC hS hi hI
  rw [if_neg g3]
  by_cases g4 : g i &&& 63 = 4
  · rw [if_pos g4]; exact lw_4 hA hKs hKC hS hi hI
  rw [if_neg g4]
  by_cases g5 : g i &&& 63 = 5
  · rw [if_pos g5]; exact lw_5 hA hKs hKC hS hi hI
  rw [if_neg g5]
  by_cases g6 : g i &&& 63 = 6
  · rw [if_pos g6]; exact lw_6 hA hKs hKC hS hi hI
  rw [if_neg g6]
  by_cases g7 : g i &&& 63 = 7
  · rw [if_pos g7]; exact lw_7 hA hKs hKC hS hi hI
  rw [if_neg g7]
  by_cases g8 : g i &&& 63 = 8
  · rw [if_pos g8]; exact lw_8 hA hKs hKC hS hi hI
  rw [if_neg g8]
  by_cases g9 : g i &&& 63 = 9
  · rw [if_pos g9]; exact lw_9 hA hKs hKC hS hi hI
  rw [if_neg g9]
  by_cases g10 : g i &&& 63 = 10
  · rw [if_pos g10]; exact lw_10 hA hKs hKC hS hi hI
  rw [if_neg g10]
  by_cases g11 : g i &&& 63 = 11
  · rw [if_pos g11]; exact lw_11 hA hKs hKC hS hi hI
  rw [if_neg g11]
  by_cases g12 : g i &&& 63 = 12
  · rw [if_pos g12]; exact lw_12 hA hKs hKC hS hi hI
  rw [if_neg g12]
  by_cases g13 : g i &&& 63 = 13
  · rw [if_pos g13]; exact lw_13 hA hKs hKC hS hi hI
  rw [if_neg g13]
  by_cases g14 : g i &&& 63 = 14
  · rw [if_pos g14]; exact lw_14 hA hKs hKC hS hi hI
  rw [if_neg g14]
  by_cases g15 : g i &&& 63 = 15
  · rw [if_pos g15]; exact lw_15 hA hKs hKC hS hi hI
  rw [if_neg g15]
  by_cases g16 : g i &&& 63 = 16
  · rw [if_pos g16]; exact lw_16 hA hKs hKC hS hi hI
  rw [if_neg g16]
  by_cases g17 : g i &&& 63 = 17
  · rw [if_pos g17]; exact lw_17 hA hKs hKC hS hi hI
  rw [if_neg g17]
  by_cases g18 : g i &&& 63 = 18
  · rw [if_pos g18]; exact lw_18 hA hKs hKC hS hi hI
  rw [if_neg g18]
  by_cases g19 : g i &&& 63 = 19
  · rw [if_pos g19]; exact lw_19 hA hKs hKC hS hi hI
  rw [if_neg g19]
  by_cases g20 : g i &&& 63 = 20
  · rw [if_pos g20]; exact lw_20 hA hKs hKC hS hi hI
  rw [if_neg g20]
  by_cases g21 : g i &&& 63 = 21
  · rw [if_pos g21]; exact lw_21 hA hKs hKC hS hi hI
  rw [if_neg g21]
  by_cases g22 : g i &&& 63 = 22
  · rw [if_pos g22]; exact lw_22 hA hKs hKC hS hi hI
  rw [if_neg g22]
  by_cases g23 : g i &&& 63 = 23
  · rw [if_pos g23]; exact lw_23 hA hKs hKC hS hi hI
  rw [if_neg g23]
  by_cases g24 : g i &&& 63 = 24
  · rw [if_pos g24]; exact lw_24 hA hKs hKC hS hi hI
  rw [if_neg g24]
  by_cases g25 : g i &&& 63 = 25
  · rw [if_pos g25]; exact lw_25 hA hKs hKC hS hi hI
  rw [if_neg g25]
  by_cases g26 : g i &&& 63 = 26
  · rw [if_pos g26]; exact lw_26 hA hKs hKC hS hi hI
  rw [if_neg g26]
  by_cases g27 : g i &&& 63 = 27
  · rw [if_pos g27]; exact lw_27 hA hKs hKC hS hi hI
  rw [if_neg g27]
  by_cases g28 : g i &&& 63 = 28
  · rw [if_pos g28]; exact lw_28 hA hKs hKC hS hi hI
  rw [if_neg g28]
  by_cases g29 : g i &&& 63 = 29
  · rw [if_pos g29]; exact lw_29 hA hKs hKC hS hi hI
  rw [if_neg g29]
  by_cases g30 : g i &&& 63 = 30
  · rw [if_pos g30]; exact lw_30 hA hKs hKC hS hi hI
  rw [if_neg g30]
  by_cases g31 : g i &&& 63 = 31
  · rw [if_pos g31]; exact lw_31 hA hKs hKC hS hi hI
  rw [if_neg g31]
  by_cases g32 : g i &&& 63 = 32
  · rw [if_pos g32]; exact lw_32 hA hKs hKC hS hi hI
  rw [if_neg g32]
  by_cases g33 : g i &&& 63 = 33
  · rw [if_pos g33]; exact lw_33 hA hKs hKC hS hi hI
  rw [if_neg g33]
  by_cases g34 : g i &&& 63 = 34
  · rw [if_pos g34]; exact lw_34 hA hKs hKC hS hi hI
  rw [if_neg g34]
  by_cases g35 : g i &&& 63 = 35
  · rw [if_pos g35]; exact lw_35 hA hKs hKC hS hi hI
  rw [if_neg g35]
  by_cases g36 : g i &&& 63 = 36
  · rw [if_pos g36]; exact lw_36 hA hKs hKC hS hi hI
  rw [if_neg g36]
  by_cases g37 : g i &&& 63 = 37
  · rw [if_pos g37]; exact lw_37 hA hKs hKC hS hi hI
  rw [if_neg g37]
  by_cases g38 : g i &&& 63 = 38
  · rw [if_pos g38]; exact lw_38 hA hKs hKC hS hi hI
  rw [if_neg g38]
  by_cases g39 : g i &&& 63 = 39
  · rw [if_pos g39]; exact lw_39 hA hKs hKC hS hi hI
  rw [if_neg g39]
  by_cases g40 : g i &&& 63 = 40
  · rw [if_pos g40]; exact lw_40 hA hKs hKC hS hi hI
  rw [if_neg g40]
  by_cases g41 : g i &&& 63 = 41
  · rw [if_pos g41]; exact lw_41 hA hKs hKC hS hi hI
  rw [if_neg g41]
  by_cases g42 : g i &&& 63 = 42
  · rw [if_pos g42]; exact lw_42 hA hKs hKC hS hi hI
  rw [if_neg g42]
  by_cases g43 : g i &&& 63 = 43
  · rw [if_pos g43]; exact lw_43 hA hKs hKC hS hi hI
  rw [if_neg g43]
  by_cases g44 : g i &&& 63 = 44
  · rw [if_pos g44]; exact lw_44 hA hKs hKC hS hi hI
  rw [if_neg g44]
  exact nx_end (Nat.le_succ e) hI.iv
theorem lw_loop (hA : KA P) (hKs : KS P) (hKC : KC P) (hS : KScr P a N g) : ∀ d i e (w : sW) ex n sl, i + 7 * d ≤ N → N < i + 7 * d + 7 → IV P S0 e w n sl → ∃ w1 ex1 n1 sl1 e1, e1 ≤ e + d ∧ IV P S0 e1 w1 n1 sl1 ∧ R_L_law_23 a P.2.1 (P.2.1 + 46) (P.2.1 + 72) (mI i) (hp P w ex n sl) = some (1, hp P w1 ex1 n1 sl1) := by
  have hN := hS.2.1
  intro d
  induction d with
  | zero =>
    intro i e w ex n sl h1 h2 hI
    refine ⟨w, ex, n, sl, e, Nat.le_refl _, hI, ?_⟩
    rw [E_L_law_23, ks_len hS, ob]
    refine if_pos ?_
    by_cases g7 : 7 ≤ N
    · rw [show mI N - 7 = mI (N - 7) from mI_sub (a := N) (b := 7) g7, nlt (by omega) (by omega)]; omega
    · have key : ∀ N, N < 7 → ∀ i, i < 7 → mI N - 7 < mI i := by decide
      exact key N (by omega) i (by omega)
  | succ d ih =>
    intro i e w ex n sl h1 h2 hI
    obtain ⟨D, F, L, R, U, y, φ, nf, ρ, nd, hI⟩ := hI
    obtain ⟨w1, ex1, n1, sl1, e1, a1, a2, a3⟩ := lw_round (ex := ex) hA hKs hKC hS (i := i) (by omega) hI
    obtain ⟨w2, ex2, n2, sl2, e2, b1, b2', b3⟩ := ih (i + 7) e1 w1 ex1 n1 sl1 (by omega) (by omega) a2
    exact ⟨w2, ex2, n2, sl2, e2, by omega, b2', a3.trans b3⟩
end LWT
