/-! a round of the law -/
section LWR
variable {P : sP} {S0 e : Nat} {w : sW} {ex : Nat → Option sC} {n sl D F L R U a N i : Nat} {g : Nat → Int32} {y : sLn} {φ : Nat → List Nat} {nf : Nat → Nat} {ρ : sRc} {nd : Nat → List Nat}
def NX (P : sP) (S0 e a i : Nat) (r : Option (Int32 × sS)) : Prop := ∃ w1 ex1 n1 sl1 e1, e1 ≤ e + 1 ∧ IV P S0 e1 w1 n1 sl1 ∧ r = R_L_law_23 a P.2.1 (P.2.1 + 46) (P.2.1 + 72) (mI (i + 7)) (hp P w1 ex1 n1 sl1)
theorem ad_7 {i : Nat} : mI i + 7 = mI (i + 7) := mI_add i 7
theorem ad_1 {i : Nat} : mI i + 1 = mI (i + 1) := mI_add i 1
theorem ad_2 {i : Nat} : mI i + 2 = mI (i + 2) := mI_add i 2
theorem ad_3 {i : Nat} : mI i + 3 = mI (i + 3) := mI_add i 3
theorem ad_4 {i : Nat} : mI i + 4 = mI (i + 4) := mI_add i 4
theorem ad_5 {i : Nat} : mI i + 5 = mI (i + 5) := mI_add i 5
theorem ad_6 {i : Nat} : mI i + 6 = mI (i + 6) := mI_add i 6
theorem nx_end {w1 : sW} {ex1 : Nat → Option sC} {n1 sl1 e1 : Nat} (h1 : e1 ≤ e + 1) (h2 : IV P S0 e1 w1 n1 sl1) : NX P S0 e a i (R_L_law_2927 a P.2.1 (P.2.1 + 46) (P.2.1 + 72) (mI i) (hp P w1 ex1 n1 sl1)) := ⟨w1, ex1, n1, sl1, e1, h1, h2, by rw [E_L_law_2927, ad_7]⟩
theorem lw_0 (hA : KA P) (hKs : KS P) (hKC : KC P) (hS : KScr P a N g) (hi : i + 7 ≤ N) (hI : IVa P S0 e w n sl D F L R U y φ nf ρ nd) : NX P S0 e a i ((s_ai (hp P w ex n sl) a ((mI i) + 1)).bind fun x3 => (s_ai (hp P w ex n sl) a ((mI i) + 2)).bind fun x4 => (s_ai (hp P w ex n sl) a ((mI i) + 3)).bind fun x5 => (s_ai (hp P w ex n sl) a ((mI i) + 4)).bind fun x6 => (s_ai (hp P w ex n sl) a ((mI i) + 5)).bind fun x7 => (F_X7_feed P.2.1 x3 x4 x5 x6 x7 (hp P w ex n sl)).bind fun q8 => (s_ai q8.2 a ((mI i) + 1)).bind fun x9 => (s_ai q8.2 a ((mI i) + 2)).bind fun x10 => (s_ai q8.2 a ((mI i) + 3)).bind fun x11 => (s_ai q8.2 a ((mI i) + 4)).bind fun x12 => (s_ai q8.2 a ((mI i) + 5)).bind fun x13 => (F_X8_feed (P.2.1 + 46) x9 x10 x11 x12 x13 q8.2).bind fun q14 => if q8.1 = q14.1 then (R_L_law_2927 a P.2.1 (P.2.1 + 46) (P.2.1 + 72) (mI i) q14.2) else (some (0, q14.2))) := by
  obtain ⟨x, w1, ex1, n1, sl1, w2, h2, h3, h6⟩ := pr_feed (ex := ex) hI (g (i + 1)) (g (i + 2)) (g (i + 3)) (g (i + 4)) (g (i + 5))
  rw [ad_1, ks_ai hS (by omega), ob, ad_2, ks_ai hS (by omega), ob, ad_3, ks_ai hS (by omega), ob, ad_4, ks_ai hS (by omega), ob, ad_5, ks_ai hS (by omega), ob, h2, ob]
  try dsimp only
  rw [ks_ai hS (by omega), ob, ks_ai hS (by omega), ob, ks_ai hS (by omega), ob, ks_ai hS (by omega), ob, ks_ai hS (by omega), ob, h3, ob]
  try dsimp only
  rw [if_pos rfl]
  exact nx_end (Nat.le_succ e) h6
theorem lw_1 (hA : KA P) (hKs : KS P) (hKC : KC P) (hS : KScr P a N g) (hi : i + 7 ≤ N) (hI : IVa P S0 e w n sl D F L R U y φ nf ρ nd) : NX P S0 e a i ((s_ai (hp P w ex n sl) a ((mI i) + 1)).bind fun x15 => (F_X7_end P.2.1 x15 (hp P w ex n sl)).bind fun q16 => (s_ai q16.2 a ((mI i) + 1)).bind fun x17 => (F_X8_end (P.2.1 + 46) x17 q16.2).bind fun q18 => if q16.1 = q18.1 then (R_L_law_2927 a P.2.1 (P.2.1 + 46) (P.2.1 + 72) (mI i) q18.2) else (some (0, q18.2))) := by
  obtain ⟨x, w1, ex1, n1, sl1, w2, h2, h3, h6⟩ := pr_end (ex := ex) hI (g (i + 1))
  rw [ad_1, ks_ai hS (by omega), ob, h2, ob]
  try dsimp only
  rw [ks_ai hS (by omega), ob, h3, ob]
  try dsimp only
  rw [if_pos rfl]
  exact nx_end (Nat.le_succ e) h6
theorem lw_2 (hA : KA P) (hKs : KS P) (hKC : KC P) (hS : KScr P a N g) (hi : i + 7 ≤ N) (hI : IVa P S0 e w n sl D F L R U y φ nf ρ nd) : NX P S0 e a i ((F_L_formula P.2.1 (P.2.1 + 72) (hp P w ex n sl)).bind fun q19 => (F_X8_formula (P.2.1 + 46) q19.2).bind fun q20 => (F_X8_thrown (P.2.1 + 46) q20.2).bind fun q21 => if q21.1 = q19.1 then (if q19.1 = 0 then ((s_al q21.2 (P.2.1 + 72) 0).bind fun x22 => if (lg_cmp x22 ((q20.1 : Int32).toInt64)) = 0 then (R_L_law_375 a P.2.1 (P.2.1 + 46) (P.2.1 + 72) (mI i) q21.2) else (some (0, q21.2))) else (R_L_law_375 a P.2.1 (P.2.1 + 46) (P.2.1 + 72) (mI i) q21.2)) else (some (0, q21.2))) := by
  obtain ⟨k, x, ex1, n1, sl1, w1, w2, e1, h1, h2, h3, h4, h5, h6⟩ := lr_formula (ex := ex) hKs hKC hI 
  rw [h2, ob]
  try dsimp only
  rw [h3, ob]
  try dsimp only
  rw [tl_I (K := R_L_law_375 a P.2.1 (P.2.1 + 46) (P.2.1 + 72) (mI i)) h4 (fun z => (h5 z).1), E_L_law_375]
  exact nx_end h1 h6
theorem lw_3 (hA : KA P) (hKs : KS P) (hKC : KC P) (hS : KScr P a N g) (hi : i + 7 ≤ N) (hI : IVa P S0 e w n sl D F L R U y φ nf ρ nd) : NX P S0 e a i ((F_X7_fault P.2.1 (hp P w ex n sl)).bind fun q23 => (F_X8_fault (P.2.1 + 46) q23.2).bind fun q24 => if q23.1 = q24.1 then (R_L_law_2927 a P.2.1 (P.2.1 + 46) (P.2.1 + 72) (mI i) q24.2) else (some (0, q24.2))) := by
  obtain ⟨x, w1, ex1, n1, sl1, w2, h2, h3, h6⟩ := pr_fault (ex := ex) hI 
  rw [h2, ob]
  try dsimp only
  rw [h3, ob]
  try dsimp only
  rw [if_pos rfl]
  exact nx_end (Nat.le_succ e) h6
theorem lw_5 (hA : KA P) (hKs : KS P) (hKC : KC P) (hS : KScr P a N g) (hi : i + 7 ≤ N) (hI : IVa P S0 e w n sl D F L R U y φ nf ρ nd) : NX P S0 e a i ((s_ai (hp P w ex n sl) a ((mI i) + 1)).bind fun x30 => (F_L_signs P.2.1 x30 (P.2.1 + 72) (hp P w ex n sl)).bind fun q31 => (s_ai q31.2 a ((mI i) + 1)).bind fun x32 => (F_X8_signs (P.2.1 + 46) x32 q31.2).bind fun q33 => (F_X8_thrown (P.2.1 + 46) q33.2).bind fun q34 => if q34.1 = q31.1 then (if q31.1 = 0 then ((s_al q34.2 (P.2.1 + 72) 0).bind fun x35 => if (lg_cmp x35 ((q33.1 : Int32).toInt64)) = 0 then (R_L_law_480 a P.2.1 (P.2.1 + 46) (P.2.1 + 72) (mI i) q34.2) else (some (0, q34.2))) else (R_L_law_480 a P.2.1 (P.2.1 + 46) (P.2.1 + 72) (mI i) q34.2)) else (some (0, q34.2))) := by
  obtain ⟨k, x, ex1, n1, sl1, w1, w2, e1, h1, h2, h3, h4, h5, h6⟩ := lr_signs (ex := ex) hI (g (i + 1))
  rw [ad_1, ks_ai hS (by omega), ob, h2, ob]
  try dsimp only
  rw [ks_ai hS (by omega), ob, h3, ob]
  try dsimp only
  rw [tl_I (K := R_L_law_480 a P.2.1 (P.2.1 + 46) (P.2.1 + 72) (mI i)) h4 (fun z => (h5 z).1), E_L_law_480]
  exact nx_end h1 h6
theorem lw_6 (hA : KA P) (hKs : KS P) (hKC : KC P) (hS : KScr P a N g) (hi : i + 7 ≤ N) (hI : IVa P S0 e w n sl D F L R U y φ nf ρ nd) : NX P S0 e a i ((s_ai (hp P w ex n sl) a ((mI i) + 1)).bind fun x36 => (s_ai (hp P w ex n sl) a ((mI i) + 2)).bind fun x37 => (F_L_same P.2.1 x36 x37 (P.2.1 + 72) (hp P w ex n sl)).bind fun q38 => (s_ai q38.2 a ((mI i) + 1)).bind fun x39 => (s_ai q38.2 a ((mI i) + 2)).bind fun x40 => (F_X8_same (P.2.1 + 46) x39 x40 q38.2).bind fun q41 => (F_X8_thrown (P.2.1 + 46) q41.2).bind fun q42 => if q42.1 = q38.1 then (if q38.1 = 0 then ((s_al q42.2 (P.2.1 + 72) 0).bind fun x43 => if q41.1 = 0 then (R_L_law_549 a P.2.1 (P.2.1 + 46) (P.2.1 + 72) (mI i) 0 x43 q42.2) else (R_L_law_549 a P.2.1 (P.2.1 + 46) (P.2.1 + 72) (mI i) 1 x43 q42.2)) else (R_L_law_555 a P.2.1 (P.2.1 + 46) (P.2.1 + 72) (mI i) q42.2)) else (some (0, q42.2))) := by
  obtain ⟨k, x, ex1, n1, sl1, w1, w2, e1, h1, h2, h3, h4, h5, h6⟩ := lr_same (ex := ex) hI (g (i + 1)) (g (i + 2))
  rw [ad_1, ks_ai hS (by omega), ob, ad_2, ks_ai hS (by omega), ob, h2, ob]
  try dsimp only
  rw [ks_ai hS (by omega), ob, ks_ai hS (by omega), ob, h3, ob]
  try dsimp only
  rw [m_thrown, ob]
  try dsimp only
  rw [if_pos h4]
  by_cases gk : k = 0
  · obtain ⟨z1, z2⟩ := h5 gk
    rw [if_pos gk, show s_al (hp P w2 ex1 n1 sl1) (P.2.1 + 72) 0 = some (w2.2.2.2.1 72 0) from ra_72 (i := 0) (by decide), ob, z1]
    rcases z2 with rfl | rfl
    · rw [if_pos rfl, E_L_law_549, if_pos (by decide), E_L_law_555]
      exact nx_end h1 h6
    · rw [if_neg (by decide), E_L_law_549, if_pos (by decide), E_L_law_555]
      exact nx_end h1 h6
  · rw [if_neg gk, E_L_law_555]
    exact nx_end h1 h6
theorem lw_7 (hA : KA P) (hKs : KS P) (hKC : KC P) (hS : KScr P a N g) (hi : i + 7 ≤ N) (hI : IVa P S0 e w n sl D F L R U y φ nf ρ nd) : NX P S0 e a i ((s_ai (hp P w ex n sl) a ((mI i) + 1)).bind fun x44 => (s_ai (hp P w ex n sl) a ((mI i) + 2)).bind fun x45 => (F_L_holds P.2.1 x44 x45 (P.2.1 + 72) (hp P w ex n sl)).bind fun q46 => (s_ai q46.2 a ((mI i) + 1)).bind fun x47 => (s_ai q46.2 a ((mI i) + 2)).bind fun x48 => (F_X8_holds (P.2.1 + 46) x47 x48 q46.2).bind fun q49 => (F_X8_thrown (P.2.1 + 46) q49.2).bind fun q50 => if q50.1 = q46.1 then (if q46.1 = 0 then ((s_al q50.2 (P.2.1 + 72) 0).bind fun x51 => if q49.1 = 0 then (R_L_law_624 a P.2.1 (P.2.1 + 46) (P.2.1 + 72) (mI i) 0 x51 q50.2) else (R_L_law_624 a P.2.1 (P.2.1 + 46) (P.2.1 + 72) (mI i) 1 x51 q50.2)) else (R_L_law_630 a P.2.1 (P.2.1 + 46) (P.2.1 + 72) (mI i) q50.2)) else (some (0, q50.2))) := by
  obtain ⟨k, x, ex1, n1, sl1, w1, w2, e1, h1, h2, h3, h4, h5, h6⟩ := lr_holds (ex := ex) hI (g (i + 1)) (g (i + 2))
  rw [ad_1, ks_ai hS (by omega), ob, ad_2, ks_ai hS (by omega), ob, h2, ob]
  try dsimp only
  rw [ks_ai hS (by omega), ob, ks_ai hS (by omega), ob, h3, ob]
  try dsimp only
  rw [m_thrown, ob]
  try dsimp only
  rw [if_pos h4]
  by_cases gk : k = 0
  · obtain ⟨z1, z2⟩ := h5 gk
    rw [if_pos gk, show s_al (hp P w2 ex1 n1 sl1) (P.2.1 + 72) 0 = some (w2.2.2.2.1 72 0) from ra_72 (i := 0) (by decide), ob, z1]
    rcases z2 with rfl | rfl
    · rw [if_pos rfl, E_L_law_624, if_pos (by decide), E_L_law_630]
      exact nx_end h1 h6
    · rw [if_neg (by decide), E_L_law_624, if_pos (by decide), E_L_law_630]
      exact nx_end h1 h6
  · rw [if_neg gk, E_L_law_630]
    exact nx_end h1 h6
theorem lw_8 (hA : KA P) (hKs : KS P) (hKC : KC P) (hS : KScr P a N g) (hi : i + 7 ≤ N) (hI : IVa P S0 e w n sl D F L R U y φ nf ρ nd) : NX P S0 e a i ((s_ai (hp P w ex n sl) a ((mI i) + 1)).bind fun x52 => (F_L_worlds P.2.1 x52 (P.2.1 + 72) (hp P w ex n sl)).bind fun q53 => (s_ai q53.2 a ((mI i) + 1)).bind fun x54 => (F_X8_worlds (P.2.1 + 46) x54 q53.2).bind fun q55 => (F_X8_thrown (P.2.1 + 46) q55.2).bind fun q56 => if q56.1 = q53.1 then (if q53.1 = 0 then ((s_al q56.2 (P.2.1 + 72) 0).bind fun x57 => if (lg_cmp x57 ((q55.1 : Int32).toInt64)) = 0 then (R_L_law_686 a P.2.1 (P.2.1 + 46) (P.2.1 + 72) (mI i) q56.2) else (some (0, q56.2))) else (R_L_law_686 a P.2.1 (P.2.1 + 46) (P.2.1 + 72) (mI i) q56.2)) else (some (0, q56.2))) := by
  obtain ⟨k, x, ex1, n1, sl1, w1, w2, e1, h1, h2, h3, h4, h5, h6⟩ := lr_worlds (ex := ex) hI (g (i + 1))
  rw [ad_1, ks_ai hS (by omega), ob, h2, ob]
  try dsimp only
  rw [ks_ai hS (by omega), ob, h3, ob]
  try dsimp only
  rw [tl_I (K := R_L_law_686 a P.2.1 (P.2.1 + 46) (P.2.1 + 72) (mI i)) h4 (fun z => (h5 z).1), E_L_law_686]
  exact nx_end h1 h6
theorem lw_9 (hA : KA P) (hKs : KS P) (hKC : KC P) (hS : KScr P a N g) (hi : i + 7 ≤ N) (hI : IVa P S0 e w n sl D F L R U y φ nf ρ nd) : NX P S0 e a i ((s_ai (hp P w ex n sl) a ((mI i) + 1)).bind fun x58 => (s_ai (hp P w ex n sl) a ((mI i) + 2)).bind fun x59 => (F_L_rules P.2.1 x58 x59 (P.2.1 + 72) (hp P w ex n sl)).bind fun q60 => (s_ai q60.2 a ((mI i) + 1)).bind fun x61 => (s_ai q60.2 a ((mI i) + 2)).bind fun x62 => (F_X8_rules (P.2.1 + 46) x61 x62 q60.2).bind fun q63 => (F_X8_thrown (P.2.1 + 46) q63.2).bind fun q64 => if q64.1 = q60.1 then (if q60.1 = 0 then ((s_al q64.2 (P.2.1 + 72) 0).bind fun x65 => if (lg_cmp x65 ((q63.1 : Int32).toInt64)) = 0 then (R_L_law_754 a P.2.1 (P.2.1 + 46) (P.2.1 + 72) (mI i) q64.2) else (some (0, q64.2))) else (R_L_law_754 a P.2.1 (P.2.1 + 46) (P.2.1 + 72) (mI i) q64.2)) else (some (0, q64.2))) := by
  obtain ⟨k, x, ex1, n1, sl1, w1, w2, e1, h1, h2, h3, h4, h5, h6⟩ := lr_rules (ex := ex) hI (g (i + 1)) (g (i + 2))
  rw [ad_1, ks_ai hS (by omega), ob, ad_2, ks_ai hS (by omega), ob, h2, ob]
  try dsimp only
  rw [ks_ai hS (by omega), ob, ks_ai hS (by omega), ob, h3, ob]
  try dsimp only
  rw [tl_I (K := R_L_law_754 a P.2.1 (P.2.1 + 46) (P.2.1 + 72) (mI i)) h4 (fun z => (h5 z).1), E_L_law_754]
  exact nx_end h1 h6
theorem lw_10 (hA : KA P) (hKs : KS P) (hKC : KC P) (hS : KScr P a N g) (hi : i + 7 ≤ N) (hI : IVa P S0 e w n sl D F L R U y φ nf ρ nd) : NX P S0 e a i ((s_ai (hp P w ex n sl) a ((mI i) + 1)).bind fun x66 => (s_ai (hp P w ex n sl) a ((mI i) + 2)).bind fun x67 => (s_ai (hp P w ex n sl) a ((mI i) + 3)).bind fun x68 => (F_L_price P.2.1 x66 x67 x68 (P.2.1 + 72) (hp P w ex n sl)).bind fun q69 => (s_ai q69.2 a ((mI i) + 1)).bind fun x70 => (s_ai q69.2 a ((mI i) + 2)).bind fun x71 => (s_ai q69.2 a ((mI i) + 3)).bind fun x72 => (F_X8_price (P.2.1 + 46) x70 x71 x72 q69.2).bind fun q73 => (F_X8_thrown (P.2.1 + 46) q73.2).bind fun q74 => if q74.1 = q69.1 then (if q69.1 = 0 then ((s_al q74.2 (P.2.1 + 72) 0).bind fun x75 => if (lg_cmp x75 ((q73.1 : Int32).toInt64)) = 0 then (R_L_law_834 a P.2.1 (P.2.1 + 46) (P.2.1 + 72) (mI i) q74.2) else (some (0, q74.2))) else (R_L_law_834 a P.2.1 (P.2.1 + 46) (P.2.1 + 72) (mI i) q74.2)) else (some (0, q74.2))) := by
  obtain ⟨k, x, ex1, n1, sl1, w1, w2, e1, h1, h2, h3, h4, h5, h6⟩ := lr_price (ex := ex) hI (g (i + 1)) (g (i + 2)) (g (i + 3))
  rw [ad_1, ks_ai hS (by omega), ob, ad_2, ks_ai hS (by omega), ob, ad_3, ks_ai hS (by omega), ob, h2, ob]
  try dsimp only
  rw [ks_ai hS (by omega), ob, ks_ai hS (by omega), ob, ks_ai hS (by omega), ob, h3, ob]
  try dsimp only
  rw [tl_I (K := R_L_law_834 a P.2.1 (P.2.1 + 46) (P.2.1 + 72) (mI i)) h4 (fun z => (h5 z).1), E_L_law_834]
  exact nx_end h1 h6
theorem lw_12 (hA : KA P) (hKs : KS P) (hKC : KC P) (hS : KScr P a N g) (hi : i + 7 ≤ N) (hI : IVa P S0 e w n sl D F L R U y φ nf ρ nd) : NX P S0 e a i ((s_ai (hp P w ex n sl) a ((mI i) + 1)).bind fun x79 => (F_L_beliefs P.2.1 x79 (P.2.1 + 72) (hp P w ex n sl)).bind fun q80 => (s_ai q80.2 a ((mI i) + 1)).bind fun x81 => (F_X8_beliefs (P.2.1 + 46) x81 q80.2).bind fun q82 => (F_X8_thrown (P.2.1 + 46) q82.2).bind fun q83 => if q83.1 = q80.1 then (if q80.1 = 0 then ((s_al q83.2 (P.2.1 + 72) 0).bind fun x84 => if (lg_cmp x84 ((q82.1 : Int32).toInt64)) = 0 then (R_L_law_993 a P.2.1 (P.2.1 + 46) (P.2.1 + 72) (mI i) q83.2) else (some (0, q83.2))) else (R_L_law_993 a P.2.1 (P.2.1 + 46) (P.2.1 + 72) (mI i) q83.2)) else (some (0, q83.2))) := by
  obtain ⟨k, x, ex1, n1, sl1, w1, w2, e1, h1, h2, h3, h4, h5, h6⟩ := lr_beliefs (ex := ex) hI (g (i + 1))
  rw [ad_1, ks_ai hS (by omega), ob, h2, ob]
  try dsimp only
  rw [ks_ai hS (by omega), ob, h3, ob]
  try dsimp only
  rw [tl_I (K := R_L_law_993 a P.2.1 (P.2.1 + 46) (P.2.1 + 72) (mI i)) h4 (fun z => (h5 z).1), E_L_law_993]
  exact nx_end h1 h6
theorem lw_13 (hA : KA P) (hKs : KS P) (hKC : KC P) (hS : KScr P a N g) (hi : i + 7 ≤ N) (hI : IVa P S0 e w n sl D F L R U y φ nf ρ nd) : NX P S0 e a i ((s_ai (hp P w ex n sl) a ((mI i) + 1)).bind fun x85 => (s_ai (hp P w ex n sl) a ((mI i) + 2)).bind fun x86 => (s_ai (hp P w ex n sl) a ((mI i) + 3)).bind fun x87 => (s_ai (hp P w ex n sl) a ((mI i) + 4)).bind fun x88 => (s_ai (hp P w ex n sl) a ((mI i) + 5)).bind fun x89 => (s_ai (hp P w ex n sl) a ((mI i) + 6)).bind fun x90 => (F_L_line P.2.1 x85 x86 x87 x88 x89 x90 (P.2.1 + 72) (hp P w ex n sl)).bind fun q91 => (s_ai q91.2 a ((mI i) + 1)).bind fun x92 => (s_ai q91.2 a ((mI i) + 2)).bind fun x93 => (s_ai q91.2 a ((mI i) + 3)).bind fun x94 => (s_ai q91.2 a ((mI i) + 4)).bind fun x95 => (s_ai q91.2 a ((mI i) + 5)).bind fun x96 => (s_ai q91.2 a ((mI i) + 6)).bind fun x97 => (F_X8_line (P.2.1 + 46) x92 x93 x94 x95 x96 x97 q91.2).bind fun q98 => (F_X8_thrown (P.2.1 + 46) q98.2).bind fun q99 => if q99.1 = q91.1 then (if q91.1 = 0 then ((s_al q99.2 (P.2.1 + 72) 0).bind fun x100 => if (lg_cmp x100 ((q98.1 : Int32).toInt64)) = 0 then (R_L_law_1111 a P.2.1 (P.2.1 + 46) (P.2.1 + 72) (mI i) q99.2) else (some (0, q99.2))) else (R_L_law_1111 a P.2.1 (P.2.1 + 46) (P.2.1 + 72) (mI i) q99.2)) else (some (0, q99.2))) := by
  obtain ⟨k, x, ex1, n1, sl1, w1, w2, e1, h1, h2, h3, h4, h5, h6⟩ := lr_line (ex := ex) hI (g (i + 1)) (g (i + 2)) (g (i + 3)) (g (i + 4)) (g (i + 5)) (g (i + 6))
  rw [ad_1, ks_ai hS (by omega), ob, ad_2, ks_ai hS (by omega), ob, ad_3, ks_ai hS (by omega), ob, ad_4, ks_ai hS (by omega), ob, ad_5, ks_ai hS (by omega), ob, ad_6, ks_ai hS (by omega), ob, h2, ob]
  try dsimp only
  rw [ks_ai hS (by omega), ob, ks_ai hS (by omega), ob, ks_ai hS (by omega), ob, ks_ai hS (by omega), ob, ks_ai hS (by omega), ob, ks_ai hS (by omega), ob, h3, ob]
  try dsimp only
  rw [tl_I (K := R_L_law_1111 a P.2.1 (P.2.1 + 46) (P.2.1 + 72) (mI i)) h4 (fun z => (h5 z).1), E_L_law_1111]
  exact nx_end h1 h6
theorem lw_14 (hA : KA P) (hKs : KS P) (hKC : KC P) (hS : KScr P a N g) (hi : i + 7 ≤ N) (hI : IVa P S0 e w n sl D F L R U y φ nf ρ nd) : NX P S0 e a i ((s_ai (hp P w ex n sl) a ((mI i) + 1)).bind fun x101 => (s_ai (hp P w ex n sl) a ((mI i) + 2)).bind fun x102 => (F_L_look P.2.1 x101 x102 (P.2.1 + 72) (hp P w ex n sl)).bind fun q103 => (s_ai q103.2 a ((mI i) + 1)).bind fun x104 => (s_ai q103.2 a ((mI i) + 2)).bind fun x105 => (F_X8_look (P.2.1 + 46) x104 x105 q103.2).bind fun q106 => (F_X8_thrown (P.2.1 + 46) q106.2).bind fun q107 => if q107.1 = q103.1 then (if q103.1 = 0 then ((s_al q107.2 (P.2.1 + 72) 0).bind fun x108 => if (lg_cmp x108 ((q106.1 : Int32).toInt64)) = 0 then (R_L_law_1179 a P.2.1 (P.2.1 + 46) (P.2.1 + 72) (mI i) q107.2) else (some (0, q107.2))) else (R_L_law_1179 a P.2.1 (P.2.1 + 46) (P.2.1 + 72) (mI i) q107.2)) else (some (0, q107.2))) := by
  obtain ⟨k, x, ex1, n1, sl1, w1, w2, e1, h1, h2, h3, h4, h5, h6⟩ := lr_look (ex := ex) hI (g (i + 1)) (g (i + 2))
  rw [ad_1, ks_ai hS (by omega), ob, ad_2, ks_ai hS (by omega), ob, h2, ob]
  try dsimp only
  rw [ks_ai hS (by omega), ob, ks_ai hS (by omega), ob, h3, ob]
  try dsimp only
  rw [tl_I (K := R_L_law_1179 a P.2.1 (P.2.1 + 46) (P.2.1 + 72) (mI i)) h4 (fun z => (h5 z).1), E_L_law_1179]
  exact nx_end h1 h6
theorem lw_15 (hA : KA P) (hKs : KS P) (hKC : KC P) (hS : KScr P a N g) (hi : i + 7 ≤ N) (hI : IVa P S0 e w n sl D F L R U y φ nf ρ nd) : NX P S0 e a i ((s_ai (hp P w ex n sl) a ((mI i) + 1)).bind fun x109 => (s_ai (hp P w ex n sl) a ((mI i) + 2)).bind fun x110 => (F_L_is P.2.1 x109 x110 (P.2.1 + 72) (hp P w ex n sl)).bind fun q111 => (s_ai q111.2 a ((mI i) + 1)).bind fun x112 => (s_ai q111.2 a ((mI i) + 2)).bind fun x113 => (F_X8_is (P.2.1 + 46) x112 x113 q111.2).bind fun q114 => (F_X8_thrown (P.2.1 + 46) q114.2).bind fun q115 => if q115.1 = q111.1 then (if q111.1 = 0 then ((s_al q115.2 (P.2.1 + 72) 0).bind fun x116 => if q114.1 = 0 then (R_L_law_1248 a P.2.1 (P.2.1 + 46) (P.2.1 + 72) (mI i) 0 x116 q115.2) else (R_L_law_1248 a P.2.1 (P.2.1 + 46) (P.2.1 + 72) (mI i) 1 x116 q115.2)) else (R_L_law_1254 a P.2.1 (P.2.1 + 46) (P.2.1 + 72) (mI i) q115.2)) else (some (0, q115.2))) := by
  obtain ⟨k, x, ex1, n1, sl1, w1, w2, e1, h1, h2, h3, h4, h5, h6⟩ := lr_is (ex := ex) hA hI (g (i + 1)) (g (i + 2))
  rw [ad_1, ks_ai hS (by omega), ob, ad_2, ks_ai hS (by omega), ob, h2, ob]
  try dsimp only
  rw [ks_ai hS (by omega), ob, ks_ai hS (by omega), ob, h3, ob]
  try dsimp only
  rw [m_thrown, ob]
  try dsimp only
  rw [if_pos h4]
  by_cases gk : k = 0
  · obtain ⟨z1, z2⟩ := h5 gk
    rw [if_pos gk, show s_al (hp P w2 ex1 n1 sl1) (P.2.1 + 72) 0 = some (w2.2.2.2.1 72 0) from ra_72 (i := 0) (by decide), ob, z1]
    rcases z2 with rfl | rfl
    · rw [if_pos rfl, E_L_law_1248, if_pos (by decide), E_L_law_1254]
      exact nx_end h1 h6
    · rw [if_neg (by decide), E_L_law_1248, if_pos (by decide), E_L_law_1254]
      exact nx_end h1 h6
  · rw [if_neg gk, E_L_law_1254]
    exact nx_end h1 h6
theorem lw_16 (hA : KA P) (hKs : KS P) (hKC : KC P) (hS : KScr P a N g) (hi : i + 7 ≤ N) (hI : IVa P S0 e w n sl D F L R U y φ nf ρ nd) : NX P S0 e a i ((F_X7_wrong P.2.1 (hp P w ex n sl)).bind fun q117 => (F_X8_wrong (P.2.1 + 46) q117.2).bind fun q118 => if q117.1 = q118.1 then (R_L_law_2927 a P.2.1 (P.2.1 + 46) (P.2.1 + 72) (mI i) q118.2) else (some (0, q118.2))) := by
  obtain ⟨x, w1, ex1, n1, sl1, w2, h2, h3, h6⟩ := pr_wrong (ex := ex) hA hI 
  rw [h2, ob]
  try dsimp only
  rw [h3, ob]
  try dsimp only
  rw [if_pos rfl]
  exact nx_end (Nat.le_succ e) h6
theorem lw_17 (hA : KA P) (hKs : KS P) (hKC : KC P) (hS : KScr P a N g) (hi : i + 7 ≤ N) (hI : IVa P S0 e w n sl D F L R U y φ nf ρ nd) : NX P S0 e a i ((s_ai (hp P w ex n sl) a ((mI i) + 1)).bind fun x119 => (F_L_rests P.2.1 x119 (P.2.1 + 72) (hp P w ex n sl)).bind fun q120 => (s_ai q120.2 a ((mI i) + 1)).bind fun x121 => (F_X8_rests (P.2.1 + 46) x121 q120.2).bind fun q122 => (F_X8_thrown (P.2.1 + 46) q122.2).bind fun q123 => if q123.1 = q120.1 then (if q120.1 = 0 then ((s_al q123.2 (P.2.1 + 72) 0).bind fun x124 => if (lg_cmp x124 q122.1) = 0 then (R_L_law_1322 a P.2.1 (P.2.1 + 46) (P.2.1 + 72) (mI i) q123.2) else (some (0, q123.2))) else (R_L_law_1322 a P.2.1 (P.2.1 + 46) (P.2.1 + 72) (mI i) q123.2)) else (some (0, q123.2))) := by
  obtain ⟨k, x, ex1, n1, sl1, w1, w2, e1, h1, h2, h3, h4, h5, h6⟩ := lr_rests (ex := ex) hI (g (i + 1))
  rw [ad_1, ks_ai hS (by omega), ob, h2, ob]
  try dsimp only
  rw [ks_ai hS (by omega), ob, h3, ob]
  try dsimp only
  rw [tl_J (K := R_L_law_1322 a P.2.1 (P.2.1 + 46) (P.2.1 + 72) (mI i)) h4 h5, E_L_law_1322]
  exact nx_end h1 h6
theorem lw_18 (hA : KA P) (hKs : KS P) (hKC : KC P) (hS : KScr P a N g) (hi : i + 7 ≤ N) (hI : IVa P S0 e w n sl D F L R U y φ nf ρ nd) : NX P S0 e a i ((s_ai (hp P w ex n sl) a ((mI i) + 1)).bind fun x125 => (F_L_needs P.2.1 x125 (P.2.1 + 72) (hp P w ex n sl)).bind fun q126 => (s_ai q126.2 a ((mI i) + 1)).bind fun x127 => (F_X8_needs (P.2.1 + 46) x127 q126.2).bind fun q128 => (F_X8_thrown (P.2.1 + 46) q128.2).bind fun q129 => if q129.1 = q126.1 then (if q126.1 = 0 then ((s_al q129.2 (P.2.1 + 72) 0).bind fun x130 => if (lg_cmp x130 q128.1) = 0 then (R_L_law_1377 a P.2.1 (P.2.1 + 46) (P.2.1 + 72) (mI i) q129.2) else (some (0, q129.2))) else (R_L_law_1377 a P.2.1 (P.2.1 + 46) (P.2.1 + 72) (mI i) q129.2)) else (some (0, q129.2))) := by
  obtain ⟨k, x, ex1, n1, sl1, w1, w2, e1, h1, h2, h3, h4, h5, h6⟩ := lr_needs (ex := ex) hI (g (i + 1))
  rw [ad_1, ks_ai hS (by omega), ob, h2, ob]
  try dsimp only
  rw [ks_ai hS (by omega), ob, h3, ob]
  try dsimp only
  rw [tl_J (K := R_L_law_1377 a P.2.1 (P.2.1 + 46) (P.2.1 + 72) (mI i)) h4 h5, E_L_law_1377]
  exact nx_end h1 h6
theorem lw_19 (hA : KA P) (hKs : KS P) (hKC : KC P) (hS : KScr P a N g) (hi : i + 7 ≤ N) (hI : IVa P S0 e w n sl D F L R U y φ nf ρ nd) : NX P S0 e a i ((s_ai (hp P w ex n sl) a ((mI i) + 1)).bind fun x131 => (F_L_spent P.2.1 x131 (P.2.1 + 72) (hp P w ex n sl)).bind fun q132 => (s_ai q132.2 a ((mI i) + 1)).bind fun x133 => (F_X8_spent (P.2.1 + 46) x133 q132.2).bind fun q134 => (F_X8_thrown (P.2.1 + 46) q134.2).bind fun q135 => if q135.1 = q132.1 then (if q132.1 = 0 then ((s_al q135.2 (P.2.1 + 72) 0).bind fun x136 => if (lg_cmp x136 ((q134.1 : Int32).toInt64)) = 0 then (R_L_law_1433 a P.2.1 (P.2.1 + 46) (P.2.1 + 72) (mI i) q135.2) else (some (0, q135.2))) else (R_L_law_1433 a P.2.1 (P.2.1 + 46) (P.2.1 + 72) (mI i) q135.2)) else (some (0, q135.2))) := by
  obtain ⟨k, x, ex1, n1, sl1, w1, w2, e1, h1, h2, h3, h4, h5, h6⟩ := lr_spent (ex := ex) hI (g (i + 1))
  rw [ad_1, ks_ai hS (by omega), ob, h2, ob]
  try dsimp only
  rw [ks_ai hS (by omega), ob, h3, ob]
  try dsimp only
  rw [tl_I (K := R_L_law_1433 a P.2.1 (P.2.1 + 46) (P.2.1 + 72) (mI i)) h4 (fun z => (h5 z).1), E_L_law_1433]
  exact nx_end h1 h6
theorem lw_20 (hA : KA P) (hKs : KS P) (hKC : KC P) (hS : KScr P a N g) (hi : i + 7 ≤ N) (hI : IVa P S0 e w n sl D F L R U y φ nf ρ nd) : NX P S0 e a i ((s_ai (hp P w ex n sl) a ((mI i) + 1)).bind fun x137 => (s_ai (hp P w ex n sl) a ((mI i) + 2)).bind fun x138 => (F_L_falls P.2.1 x137 x138 (P.2.1 + 72) (hp P w ex n sl)).bind fun q139 => (s_ai q139.2 a ((mI i) + 1)).bind fun x140 => (s_ai q139.2 a ((mI i) + 2)).bind fun x141 => (F_X8_falls (P.2.1 + 46) x140 x141 q139.2).bind fun q142 => (F_X8_thrown (P.2.1 + 46) q142.2).bind fun q143 => if q143.1 = q139.1 then (if q139.1 = 0 then ((s_al q143.2 (P.2.1 + 72) 0).bind fun x144 => if (lg_cmp x144 q142.1) = 0 then (R_L_law_1500 a P.2.1 (P.2.1 + 46) (P.2.1 + 72) (mI i) q143.2) else (some (0, q143.2))) else (R_L_law_1500 a P.2.1 (P.2.1 + 46) (P.2.1 + 72) (mI i) q143.2)) else (some (0, q143.2))) := by
  obtain ⟨k, x, ex1, n1, sl1, w1, w2, e1, h1, h2, h3, h4, h5, h6⟩ := lr_falls (ex := ex) hI (g (i + 1)) (g (i + 2))
  rw [ad_1, ks_ai hS (by omega), ob, ad_2, ks_ai hS (by omega), ob, h2, ob]
  try dsimp only
  rw [ks_ai hS (by omega), ob, ks_ai hS (by omega), ob, h3, ob]
  try dsimp only
  rw [tl_J (K := R_L_law_1500 a P.2.1 (P.2.1 + 46) (P.2.1 + 72) (mI i)) h4 h5, E_L_law_1500]
  exact nx_end h1 h6
theorem lw_21 (hA : KA P) (hKs : KS P) (hKC : KC P) (hS : KScr P a N g) (hi : i + 7 ≤ N) (hI : IVa P S0 e w n sl D F L R U y φ nf ρ nd) : NX P S0 e a i ((s_ai (hp P w ex n sl) a ((mI i) + 1)).bind fun x145 => (s_ai (hp P w ex n sl) a ((mI i) + 2)).bind fun x146 => (F_L_follows P.2.1 x145 x146 (P.2.1 + 72) (hp P w ex n sl)).bind fun q147 => (s_ai q147.2 a ((mI i) + 1)).bind fun x148 => (s_ai q147.2 a ((mI i) + 2)).bind fun x149 => (F_X8_follows (P.2.1 + 46) x148 x149 q147.2).bind fun q150 => (F_X8_thrown (P.2.1 + 46) q150.2).bind fun q151 => if q151.1 = q147.1 then (if q147.1 = 0 then ((s_al q151.2 (P.2.1 + 72) 0).bind fun x152 => if q150.1 = 0 then (R_L_law_1569 a P.2.1 (P.2.1 + 46) (P.2.1 + 72) (mI i) 0 x152 q151.2) else (R_L_law_1569 a P.2.1 (P.2.1 + 46) (P.2.1 + 72) (mI i) 1 x152 q151.2)) else (R_L_law_1575 a P.2.1 (P.2.1 + 46) (P.2.1 + 72) (mI i) q151.2)) else (some (0, q151.2))) := by
  obtain ⟨k, x, ex1, n1, sl1, w1, w2, e1, h1, h2, h3, h4, h5, h6⟩ := lr_follows (ex := ex) hI (g (i + 1)) (g (i + 2))
  rw [ad_1, ks_ai hS (by omega), ob, ad_2, ks_ai hS (by omega), ob, h2, ob]
  try dsimp only
  rw [ks_ai hS (by omega), ob, ks_ai hS (by omega), ob, h3, ob]
  try dsimp only
  rw [m_thrown, ob]
  try dsimp only
  rw [if_pos h4]
  by_cases gk : k = 0
  · obtain ⟨z1, z2⟩ := h5 gk
    rw [if_pos gk, show s_al (hp P w2 ex1 n1 sl1) (P.2.1 + 72) 0 = some (w2.2.2.2.1 72 0) from ra_72 (i := 0) (by decide), ob, z1]
    rcases z2 with rfl | rfl
    · rw [if_pos rfl, E_L_law_1569, if_pos (by decide), E_L_law_1575]
      exact nx_end h1 h6
    · rw [if_neg (by decide), E_L_law_1569, if_pos (by decide), E_L_law_1575]
      exact nx_end h1 h6
  · rw [if_neg gk, E_L_law_1575]
    exact nx_end h1 h6
theorem lw_22 (hA : KA P) (hKs : KS P) (hKC : KC P) (hS : KScr P a N g) (hi : i + 7 ≤ N) (hI : IVa P S0 e w n sl D F L R U y φ nf ρ nd) : NX P S0 e a i ((s_ai (hp P w ex n sl) a ((mI i) + 1)).bind fun x153 => (s_ai (hp P w ex n sl) a ((mI i) + 2)).bind fun x154 => (F_L_counter P.2.1 x153 x154 (P.2.1 + 72) (hp P w ex n sl)).bind fun q155 => (s_ai q155.2 a ((mI i) + 1)).bind fun x156 => (s_ai q155.2 a ((mI i) + 2)).bind fun x157 => (F_X8_counter (P.2.1 + 46) x156 x157 q155.2).bind fun q158 => (F_X8_thrown (P.2.1 + 46) q158.2).bind fun q159 => if q159.1 = q155.1 then (if q155.1 = 0 then ((s_al q159.2 (P.2.1 + 72) 0).bind fun x160 => if (lg_cmp x160 ((q158.1 : Int32).toInt64)) = 0 then (R_L_law_1643 a P.2.1 (P.2.1 + 46) (P.2.1 + 72) (mI i) q159.2) else (some (0, q159.2))) else (R_L_law_1643 a P.2.1 (P.2.1 + 46) (P.2.1 + 72) (mI i) q159.2)) else (some (0, q159.2))) := by
  obtain ⟨k, x, ex1, n1, sl1, w1, w2, e1, h1, h2, h3, h4, h5, h6⟩ := lr_counter (ex := ex) hI (g (i + 1)) (g (i + 2))
  rw [ad_1, ks_ai hS (by omega), ob, ad_2, ks_ai hS (by omega), ob, h2, ob]
  try dsimp only
  rw [ks_ai hS (by omega), ob, ks_ai hS (by omega), ob, h3, ob]
  try dsimp only
  rw [tl_I (K := R_L_law_1643 a P.2.1 (P.2.1 + 46) (P.2.1 + 72) (mI i)) h4 (fun z => (h5 z).1), E_L_law_1643]
  exact nx_end h1 h6
theorem lw_23 (hA : KA P) (hKs : KS P) (hKC : KC P) (hS : KScr P a N g) (hi : i + 7 ≤ N) (hI : IVa P S0 e w n sl D F L R U y φ nf ρ nd) : NX P S0 e a i ((s_ai (hp P w ex n sl) a ((mI i) + 1)).bind fun x161 => (s_ai (hp P w ex n sl) a ((mI i) + 2)).bind fun x162 => (s_ai (hp P w ex n sl) a ((mI i) + 3)).bind fun x163 => (F_L_cheapest P.2.1 x161 x162 x163 (P.2.1 + 72) (hp P w ex n sl)).bind fun q164 => (s_ai q164.2 a ((mI i) + 1)).bind fun x165 => (s_ai q164.2 a ((mI i) + 2)).bind fun x166 => (s_ai q164.2 a ((mI i) + 3)).bind fun x167 => (F_X8_cheapest (P.2.1 + 46) x165 x166 x167 q164.2).bind fun q168 => (F_X8_thrown (P.2.1 + 46) q168.2).bind fun q169 => if q169.1 = q164.1 then (if q164.1 = 0 then ((s_al q169.2 (P.2.1 + 72) 0).bind fun x170 => if (lg_cmp x170 ((q168.1 : Int32).toInt64)) = 0 then (R_L_law_1723 a P.2.1 (P.2.1 + 46) (P.2.1 + 72) (mI i) q169.2) else (some (0, q169.2))) else (R_L_law_1723 a P.2.1 (P.2.1 + 46) (P.2.1 + 72) (mI i) q169.2)) else (some (0, q169.2))) := by
  obtain ⟨k, x, ex1, n1, sl1, w1, w2, e1, h1, h2, h3, h4, h5, h6⟩ := lr_cheapest (ex := ex) hI (g (i + 1)) (g (i + 2)) (g (i + 3))
  rw [ad_1, ks_ai hS (by omega), ob, ad_2, ks_ai hS (by omega), ob, ad_3, ks_ai hS (by omega), ob, h2, ob]
  try dsimp only
  rw [ks_ai hS (by omega), ob, ks_ai hS (by omega), ob, ks_ai hS (by omega), ob, h3, ob]
  try dsimp only
  rw [tl_I (K := R_L_law_1723 a P.2.1 (P.2.1 + 46) (P.2.1 + 72) (mI i)) h4 (fun z => (h5 z).1), E_L_law_1723]
  exact nx_end h1 h6
theorem lw_24 (hA : KA P) (hKs : KS P) (hKC : KC P) (hS : KScr P a N g) (hi : i + 7 ≤ N) (hI : IVa P S0 e w n sl D F L R U y φ nf ρ nd) : NX P S0 e a i ((s_ai (hp P w ex n sl) a ((mI i) + 1)).bind fun x171 => (s_ai (hp P w ex n sl) a ((mI i) + 2)).bind fun x172 => (s_ai (hp P w ex n sl) a ((mI i) + 3)).bind fun x173 => (F_L_lastly P.2.1 x171 x172 x173 (P.2.1 + 72) (hp P w ex n sl)).bind fun q174 => (s_ai q174.2 a ((mI i) + 1)).bind fun x175 => (s_ai q174.2 a ((mI i) + 2)).bind fun x176 => (s_ai q174.2 a ((mI i) + 3)).bind fun x177 => (F_X8_lastly (P.2.1 + 46) x175 x176 x177 q174.2).bind fun q178 => (F_X8_thrown (P.2.1 + 46) q178.2).bind fun q179 => if q179.1 = q174.1 then (if q174.1 = 0 then ((s_al q179.2 (P.2.1 + 72) 0).bind fun x180 => if (lg_cmp x180 ((q178.1 : Int32).toInt64)) = 0 then (R_L_law_1803 a P.2.1 (P.2.1 + 46) (P.2.1 + 72) (mI i) q179.2) else (some (0, q179.2))) else (R_L_law_1803 a P.2.1 (P.2.1 + 46) (P.2.1 + 72) (mI i) q179.2)) else (some (0, q179.2))) := by
  obtain ⟨k, x, ex1, n1, sl1, w1, w2, e1, h1, h2, h3, h4, h5, h6⟩ := lr_lastly (ex := ex) hI (g (i + 1)) (g (i + 2)) (g (i + 3))
  rw [ad_1, ks_ai hS (by omega), ob, ad_2, ks_ai hS (by omega), ob, ad_3, ks_ai hS (by omega), ob, h2, ob]
  try dsimp only
  rw [ks_ai hS (by omega), ob, ks_ai hS (by omega), ob, ks_ai hS (by omega), ob, h3, ob]
  try dsimp only
  rw [tl_I (K := R_L_law_1803 a P.2.1 (P.2.1 + 46) (P.2.1 + 72) (mI i)) h4 (fun z => (h5 z).1), E_L_law_1803]
  exact nx_end h1 h6
theorem lw_25 (hA : KA P) (hKs : KS P) (hKC : KC P) (hS : KScr P a N g) (hi : i + 7 ≤ N) (hI : IVa P S0 e w n sl D F L R U y φ nf ρ nd) : NX P S0 e a i ((s_ai (hp P w ex n sl) a ((mI i) + 1)).bind fun x181 => (s_ai (hp P w ex n sl) a ((mI i) + 2)).bind fun x182 => (F_L_where P.2.1 x181 x182 (P.2.1 + 72) (hp P w ex n sl)).bind fun q183 => (s_ai q183.2 a ((mI i) + 1)).bind fun x184 => (s_ai q183.2 a ((mI i) + 2)).bind fun x185 => (F_X8_where (P.2.1 + 46) x184 x185 q183.2).bind fun q186 => (F_X8_thrown (P.2.1 + 46) q186.2).bind fun q187 => if q187.1 = q183.1 then (if q183.1 = 0 then ((s_al q187.2 (P.2.1 + 72) 0).bind fun x188 => if (lg_cmp x188 ((q186.1 : Int32).toInt64)) = 0 then (R_L_law_1871 a P.2.1 (P.2.1 + 46) (P.2.1 + 72) (mI i) q187.2) else (some (0, q187.2))) else (R_L_law_1871 a P.2.1 (P.2.1 + 46) (P.2.1 + 72) (mI i) q187.2)) else (some (0, q187.2))) := by
  obtain ⟨k, x, ex1, n1, sl1, w1, w2, e1, h1, h2, h3, h4, h5, h6⟩ := lr_where (ex := ex) hI (g (i + 1)) (g (i + 2))
  rw [ad_1, ks_ai hS (by omega), ob, ad_2, ks_ai hS (by omega), ob, h2, ob]
  try dsimp only
  rw [ks_ai hS (by omega), ob, ks_ai hS (by omega), ob, h3, ob]
  try dsimp only
  rw [tl_I (K := R_L_law_1871 a P.2.1 (P.2.1 + 46) (P.2.1 + 72) (mI i)) h4 (fun z => (h5 z).1), E_L_law_1871]
  exact nx_end h1 h6
theorem lw_26 (hA : KA P) (hKs : KS P) (hKC : KC P) (hS : KScr P a N g) (hi : i + 7 ≤ N) (hI : IVa P S0 e w n sl D F L R U y φ nf ρ nd) : NX P S0 e a i ((s_ai (hp P w ex n sl) a ((mI i) + 1)).bind fun x189 => (s_ai (hp P w ex n sl) a ((mI i) + 2)).bind fun x190 => (s_ai (hp P w ex n sl) a ((mI i) + 3)).bind fun x191 => (F_L_resold P.2.1 x189 x190 x191 (P.2.1 + 72) (hp P w ex n sl)).bind fun q192 => (s_ai q192.2 a ((mI i) + 1)).bind fun x193 => (s_ai q192.2 a ((mI i) + 2)).bind fun x194 => (s_ai q192.2 a ((mI i) + 3)).bind fun x195 => (F_X8_resold (P.2.1 + 46) x193 x194 x195 q192.2).bind fun q196 => (F_X8_thrown (P.2.1 + 46) q196.2).bind fun q197 => if q197.1 = q192.1 then (if q192.1 = 0 then ((s_al q197.2 (P.2.1 + 72) 0).bind fun x198 => if (lg_cmp x198 ((q196.1 : Int32).toInt64)) = 0 then (R_L_law_1951 a P.2.1 (P.2.1 + 46) (P.2.1 + 72) (mI i) q197.2) else (some (0, q197.2))) else (R_L_law_1951 a P.2.1 (P.2.1 + 46) (P.2.1 + 72) (mI i) q197.2)) else (some (0, q197.2))) := by
  obtain ⟨k, x, ex1, n1, sl1, w1, w2, e1, h1, h2, h3, h4, h5, h6⟩ := lr_resold (ex := ex) hI (g (i + 1)) (g (i + 2)) (g (i + 3))
  rw [ad_1, ks_ai hS (by omega), ob, ad_2, ks_ai hS (by omega), ob, ad_3, ks_ai hS (by omega), ob, h2, ob]
  try dsimp only
  rw [ks_ai hS (by omega), ob, ks_ai hS (by omega), ob, ks_ai hS (by omega), ob, h3, ob]
  try dsimp only
  rw [tl_I (K := R_L_law_1951 a P.2.1 (P.2.1 + 46) (P.2.1 + 72) (mI i)) h4 (fun z => (h5 z).1), E_L_law_1951]
  exact nx_end h1 h6
theorem lw_27 (hA : KA P) (hKs : KS P) (hKC : KC P) (hS : KScr P a N g) (hi : i + 7 ≤ N) (hI : IVa P S0 e w n sl D F L R U y φ nf ρ nd) : NX P S0 e a i ((s_ai (hp P w ex n sl) a ((mI i) + 1)).bind fun x199 => (s_ai (hp P w ex n sl) a ((mI i) + 2)).bind fun x200 => (s_ai (hp P w ex n sl) a ((mI i) + 3)).bind fun x201 => (F_L_forward P.2.1 x199 x200 x201 (P.2.1 + 72) (hp P w ex n sl)).bind fun q202 => (s_ai q202.2 a ((mI i) + 1)).bind fun x203 => (s_ai q202.2 a ((mI i) + 2)).bind fun x204 => (s_ai q202.2 a ((mI i) + 3)).bind fun x205 => (F_X8_forward (P.2.1 + 46) x203 x204 x205 q202.2).bind fun q206 => (F_X8_thrown (P.2.1 + 46) q206.2).bind fun q207 => if q207.1 = q202.1 then (if q202.1 = 0 then ((s_al q207.2 (P.2.1 + 72) 0).bind fun x208 => if (lg_cmp x208 ((q206.1 : Int32).toInt64)) = 0 then (R_L_law_2031 a P.2.1 (P.2.1 + 46) (P.2.1 + 72) (mI i) q207.2) else (some (0, q207.2))) else (R_L_law_2031 a P.2.1 (P.2.1 + 46) (P.2.1 + 72) (mI i) q207.2)) else (some (0, q207.2))) := by
  obtain ⟨k, x, ex1, n1, sl1, w1, w2, e1, h1, h2, h3, h4, h5, h6⟩ := lr_forward (ex := ex) hI (g (i + 1)) (g (i + 2)) (g (i + 3))
  rw [ad_1, ks_ai hS (by omega), ob, ad_2, ks_ai hS (by omega), ob, ad_3, ks_ai hS (by omega), ob, h2, ob]
  try dsimp only
  rw [ks_ai hS (by omega), ob, ks_ai hS (by omega), ob, ks_ai hS (by omega), ob, h3, ob]
  try dsimp only
  rw [tl_I (K := R_L_law_2031 a P.2.1 (P.2.1 + 46) (P.2.1 + 72) (mI i)) h4 (fun z => (h5 z).1), E_L_law_2031]
  exact nx_end h1 h6
theorem lw_28 (hA : KA P) (hKs : KS P) (hKC : KC P) (hS : KScr P a N g) (hi : i + 7 ≤ N) (hI : IVa P S0 e w n sl D F L R U y φ nf ρ nd) : NX P S0 e a i ((s_ai (hp P w ex n sl) a ((mI i) + 1)).bind fun x209 => (F_L_truths P.2.1 x209 (P.2.1 + 72) (hp P w ex n sl)).bind fun q210 => (s_ai q210.2 a ((mI i) + 1)).bind fun x211 => (F_X8_truths (P.2.1 + 46) x211 q210.2).bind fun q212 => (F_X8_thrown (P.2.1 + 46) q212.2).bind fun q213 => if q213.1 = q210.1 then (if q210.1 = 0 then ((s_al q213.2 (P.2.1 + 72) 0).bind fun x214 => if (lg_cmp x214 ((q212.1 : Int32).toInt64)) = 0 then (R_L_law_2087 a P.2.1 (P.2.1 + 46) (P.2.1 + 72) (mI i) q213.2) else (some (0, q213.2))) else (R_L_law_2087 a P.2.1 (P.2.1 + 46) (P.2.1 + 72) (mI i) q213.2)) else (some (0, q213.2))) := by
  obtain ⟨k, x, ex1, n1, sl1, w1, w2, e1, h1, h2, h3, h4, h5, h6⟩ := lr_truths (ex := ex) hI (g (i + 1))
  rw [ad_1, ks_ai hS (by omega), ob, h2, ob]
  try dsimp only
  rw [ks_ai hS (by omega), ob, h3, ob]
  try dsimp only
  rw [tl_I (K := R_L_law_2087 a P.2.1 (P.2.1 + 46) (P.2.1 + 72) (mI i)) h4 (fun z => (h5 z).1), E_L_law_2087]
  exact nx_end h1 h6
theorem lw_29 (hA : KA P) (hKs : KS P) (hKC : KC P) (hS : KScr P a N g) (hi : i + 7 ≤ N) (hI : IVa P S0 e w n sl D F L R U y φ nf ρ nd) : NX P S0 e a i ((s_ai (hp P w ex n sl) a ((mI i) + 1)).bind fun x215 => (s_ai (hp P w ex n sl) a ((mI i) + 2)).bind fun x216 => (F_L_agree P.2.1 x215 x216 (P.2.1 + 72) (hp P w ex n sl)).bind fun q217 => (s_ai q217.2 a ((mI i) + 1)).bind fun x218 => (s_ai q217.2 a ((mI i) + 2)).bind fun x219 => (F_X8_agree (P.2.1 + 46) x218 x219 q217.2).bind fun q220 => (F_X8_thrown (P.2.1 + 46) q220.2).bind fun q221 => if q221.1 = q217.1 then (if q217.1 = 0 then ((s_al q221.2 (P.2.1 + 72) 0).bind fun x222 => if (lg_cmp x222 ((q220.1 : Int32).toInt64)) = 0 then (R_L_law_2155 a P.2.1 (P.2.1 + 46) (P.2.1 + 72) (mI i) q221.2) else (some (0, q221.2))) else (R_L_law_2155 a P.2.1 (P.2.1 + 46) (P.2.1 + 72) (mI i) q221.2)) else (some (0, q221.2))) := by
  obtain ⟨k, x, ex1, n1, sl1, w1, w2, e1, h1, h2, h3, h4, h5, h6⟩ := lr_agree (ex := ex) hI (g (i + 1)) (g (i + 2))
  rw [ad_1, ks_ai hS (by omega), ob, ad_2, ks_ai hS (by omega), ob, h2, ob]
  try dsimp only
  rw [ks_ai hS (by omega), ob, ks_ai hS (by omega), ob, h3, ob]
  try dsimp only
  rw [tl_I (K := R_L_law_2155 a P.2.1 (P.2.1 + 46) (P.2.1 + 72) (mI i)) h4 (fun z => (h5 z).1), E_L_law_2155]
  exact nx_end h1 h6
theorem lw_30 (hA : KA P) (hKs : KS P) (hKC : KC P) (hS : KScr P a N g) (hi : i + 7 ≤ N) (hI : IVa P S0 e w n sl D F L R U y φ nf ρ nd) : NX P S0 e a i ((s_ai (hp P w ex n sl) a ((mI i) + 1)).bind fun x223 => (F_L_withdraw P.2.1 x223 (P.2.1 + 72) (hp P w ex n sl)).bind fun q224 => (s_ai q224.2 a ((mI i) + 1)).bind fun x225 => (F_X8_withdraw (P.2.1 + 46) x225 q224.2).bind fun q226 => (F_X8_thrown (P.2.1 + 46) q226.2).bind fun q227 => if q227.1 = q224.1 then (if q224.1 = 0 then ((s_al q227.2 (P.2.1 + 72) 0).bind fun x228 => if (lg_cmp x228 ((q226.1 : Int32).toInt64)) = 0 then (R_L_law_2211 a P.2.1 (P.2.1 + 46) (P.2.1 + 72) (mI i) q227.2) else (some (0, q227.2))) else (R_L_law_2211 a P.2.1 (P.2.1 + 46) (P.2.1 + 72) (mI i) q227.2)) else (some (0, q227.2))) := by
  obtain ⟨k, x, ex1, n1, sl1, w1, w2, e1, h1, h2, h3, h4, h5, h6⟩ := lr_withdraw (ex := ex) hI (g (i + 1))
  rw [ad_1, ks_ai hS (by omega), ob, h2, ob]
  try dsimp only
  rw [ks_ai hS (by omega), ob, h3, ob]
  try dsimp only
  rw [tl_I (K := R_L_law_2211 a P.2.1 (P.2.1 + 46) (P.2.1 + 72) (mI i)) h4 (fun z => (h5 z).1), E_L_law_2211]
  exact nx_end h1 h6
theorem lw_31 (hA : KA P) (hKs : KS P) (hKC : KC P) (hS : KScr P a N g) (hi : i + 7 ≤ N) (hI : IVa P S0 e w n sl D F L R U y φ nf ρ nd) : NX P S0 e a i ((s_ai (hp P w ex n sl) a ((mI i) + 1)).bind fun x229 => (F_L_idle P.2.1 x229 (P.2.1 + 72) (hp P w ex n sl)).bind fun q230 => (s_ai q230.2 a ((mI i) + 1)).bind fun x231 => (F_X8_idle (P.2.1 + 46) x231 q230.2).bind fun q232 => (F_X8_thrown (P.2.1 + 46) q232.2).bind fun q233 => if q233.1 = q230.1 then (if q230.1 = 0 then ((s_al q233.2 (P.2.1 + 72) 0).bind fun x234 => if (lg_cmp x234 ((q232.1 : Int32).toInt64)) = 0 then (R_L_law_2267 a P.2.1 (P.2.1 + 46) (P.2.1 + 72) (mI i) q233.2) else (some (0, q233.2))) else (R_L_law_2267 a P.2.1 (P.2.1 + 46) (P.2.1 + 72) (mI i) q233.2)) else (some (0, q233.2))) := by
  obtain ⟨k, x, ex1, n1, sl1, w1, w2, e1, h1, h2, h3, h4, h5, h6⟩ := lr_idle (ex := ex) hI (g (i + 1))
  rw [ad_1, ks_ai hS (by omega), ob, h2, ob]
  try dsimp only
  rw [ks_ai hS (by omega), ob, h3, ob]
  try dsimp only
  rw [tl_I (K := R_L_law_2267 a P.2.1 (P.2.1 + 46) (P.2.1 + 72) (mI i)) h4 (fun z => (h5 z).1), E_L_law_2267]
  exact nx_end h1 h6
theorem lw_32 (hA : KA P) (hKs : KS P) (hKC : KC P) (hS : KScr P a N g) (hi : i + 7 ≤ N) (hI : IVa P S0 e w n sl D F L R U y φ nf ρ nd) : NX P S0 e a i ((s_ai (hp P w ex n sl) a ((mI i) + 1)).bind fun x235 => (F_L_alike P.2.1 x235 (P.2.1 + 72) (hp P w ex n sl)).bind fun q236 => (s_ai q236.2 a ((mI i) + 1)).bind fun x237 => (F_X8_alike (P.2.1 + 46) x237 q236.2).bind fun q238 => (F_X8_thrown (P.2.1 + 46) q238.2).bind fun q239 => if q239.1 = q236.1 then (if q236.1 = 0 then ((s_al q239.2 (P.2.1 + 72) 0).bind fun x240 => if (lg_cmp x240 ((q238.1 : Int32).toInt64)) = 0 then (R_L_law_2323 a P.2.1 (P.2.1 + 46) (P.2.1 + 72) (mI i) q239.2) else (some (0, q239.2))) else (R_L_law_2323 a P.2.1 (P.2.1 + 46) (P.2.1 + 72) (mI i) q239.2)) else (some (0, q239.2))) := by
  obtain ⟨k, x, ex1, n1, sl1, w1, w2, e1, h1, h2, h3, h4, h5, h6⟩ := lr_alike (ex := ex) hI (g (i + 1))
  rw [ad_1, ks_ai hS (by omega), ob, h2, ob]
  try dsimp only
  rw [ks_ai hS (by omega), ob, h3, ob]
  try dsimp only
  rw [tl_I (K := R_L_law_2323 a P.2.1 (P.2.1 + 46) (P.2.1 + 72) (mI i)) h4 (fun z => (h5 z).1), E_L_law_2323]
  exact nx_end h1 h6
theorem lw_33 (hA : KA P) (hKs : KS P) (hKC : KC P) (hS : KScr P a N g) (hi : i + 7 ≤ N) (hI : IVa P S0 e w n sl D F L R U y φ nf ρ nd) : NX P S0 e a i ((s_ai (hp P w ex n sl) a ((mI i) + 1)).bind fun x241 => (F_L_core P.2.1 x241 (P.2.1 + 72) (hp P w ex n sl)).bind fun q242 => (s_ai q242.2 a ((mI i) + 1)).bind fun x243 => (F_X8_core (P.2.1 + 46) x243 q242.2).bind fun q244 => (F_X8_thrown (P.2.1 + 46) q244.2).bind fun q245 => if q245.1 = q242.1 then (if q242.1 = 0 then ((s_al q245.2 (P.2.1 + 72) 0).bind fun x246 => if (lg_cmp x246 ((q244.1 : Int32).toInt64)) = 0 then (R_L_law_2379 a P.2.1 (P.2.1 + 46) (P.2.1 + 72) (mI i) q245.2) else (some (0, q245.2))) else (R_L_law_2379 a P.2.1 (P.2.1 + 46) (P.2.1 + 72) (mI i) q245.2)) else (some (0, q245.2))) := by
  obtain ⟨k, x, ex1, n1, sl1, w1, w2, e1, h1, h2, h3, h4, h5, h6⟩ := lr_core (ex := ex) hKC hI (g (i + 1))
  rw [ad_1, ks_ai hS (by omega), ob, h2, ob]
  try dsimp only
  rw [ks_ai hS (by omega), ob, h3, ob]
  try dsimp only
  rw [tl_I (K := R_L_law_2379 a P.2.1 (P.2.1 + 46) (P.2.1 + 72) (mI i)) h4 (fun z => (h5 z).1), E_L_law_2379]
  exact nx_end h1 h6
theorem lw_34 (hA : KA P) (hKs : KS P) (hKC : KC P) (hS : KScr P a N g) (hi : i + 7 ≤ N) (hI : IVa P S0 e w n sl D F L R U y φ nf ρ nd) : NX P S0 e a i ((s_ai (hp P w ex n sl) a ((mI i) + 1)).bind fun x247 => (s_ai (hp P w ex n sl) a ((mI i) + 2)).bind fun x248 => (F_L_more P.2.1 x247 x248 (P.2.1 + 72) (hp P w ex n sl)).bind fun q249 => (s_ai q249.2 a ((mI i) + 1)).bind fun x250 => (s_ai q249.2 a ((mI i) + 2)).bind fun x251 => (F_X8_more (P.2.1 + 46) x250 x251 q249.2).bind fun q252 => (F_X8_thrown (P.2.1 + 46) q252.2).bind fun q253 => if q253.1 = q249.1 then (if q249.1 = 0 then ((s_al q253.2 (P.2.1 + 72) 0).bind fun x254 => if (lg_cmp x254 ((q252.1 : Int32).toInt64)) = 0 then (R_L_law_2447 a P.2.1 (P.2.1 + 46) (P.2.1 + 72) (mI i) q253.2) else (some (0, q253.2))) else (R_L_law_2447 a P.2.1 (P.2.1 + 46) (P.2.1 + 72) (mI i) q253.2)) else (some (0, q253.2))) := by
  obtain ⟨k, x, ex1, n1, sl1, w1, w2, e1, h1, h2, h3, h4, h5, h6⟩ := lr_more (ex := ex) hI (g (i + 1)) (g (i + 2))
  rw [ad_1, ks_ai hS (by omega), ob, ad_2, ks_ai hS (by omega), ob, h2, ob]
  try dsimp only
  rw [ks_ai hS (by omega), ob, ks_ai hS (by omega), ob, h3, ob]
  try dsimp only
  rw [tl_I (K := R_L_law_2447 a P.2.1 (P.2.1 + 46) (P.2.1 + 72) (mI i)) h4 (fun z => (h5 z).1), E_L_law_2447]
  exact nx_end h1 h6
theorem lw_35 (hA : KA P) (hKs : KS P) (hKC : KC P) (hS : KScr P a N g) (hi : i + 7 ≤ N) (hI : IVa P S0 e w n sl D F L R U y φ nf ρ nd) : NX P S0 e a i ((s_ai (hp P w ex n sl) a ((mI i) + 1)).bind fun x255 => (s_ai (hp P w ex n sl) a ((mI i) + 2)).bind fun x256 => (F_L_gains P.2.1 x255 x256 (P.2.1 + 72) (hp P w ex n sl)).bind fun q257 => (s_ai q257.2 a ((mI i) + 1)).bind fun x258 => (s_ai q257.2 a ((mI i) + 2)).bind fun x259 => (F_X8_gains (P.2.1 + 46) x258 x259 q257.2).bind fun q260 => (F_X8_thrown (P.2.1 + 46) q260.2).bind fun q261 => if q261.1 = q257.1 then (if q257.1 = 0 then ((s_al q261.2 (P.2.1 + 72) 0).bind fun x262 => if (lg_cmp x262 ((q260.1 : Int32).toInt64)) = 0 then (R_L_law_2515 a P.2.1 (P.2.1 + 46) (P.2.1 + 72) (mI i) q261.2) else (some (0, q261.2))) else (R_L_law_2515 a P.2.1 (P.2.1 + 46) (P.2.1 + 72) (mI i) q261.2)) else (some (0, q261.2))) := by
  obtain ⟨k, x, ex1, n1, sl1, w1, w2, e1, h1, h2, h3, h4, h5, h6⟩ := lr_gains (ex := ex) hA hI (g (i + 1)) (g (i + 2))
  rw [ad_1, ks_ai hS (by omega), ob, ad_2, ks_ai hS (by omega), ob, h2, ob]
  try dsimp only
  rw [ks_ai hS (by omega), ob, ks_ai hS (by omega), ob, h3, ob]
  try dsimp only
  rw [tl_I (K := R_L_law_2515 a P.2.1 (P.2.1 + 46) (P.2.1 + 72) (mI i)) h4 (fun z => (h5 z).1), E_L_law_2515]
  exact nx_end h1 h6
theorem lw_36 (hA : KA P) (hKs : KS P) (hKC : KC P) (hS : KScr P a N g) (hi : i + 7 ≤ N) (hI : IVa P S0 e w n sl D F L R U y φ nf ρ nd) : NX P S0 e a i ((s_ai (hp P w ex n sl) a ((mI i) + 1)).bind fun x263 => (s_ai (hp P w ex n sl) a ((mI i) + 2)).bind fun x264 => (s_ai (hp P w ex n sl) a ((mI i) + 3)).bind fun x265 => (s_ai (hp P w ex n sl) a ((mI i) + 4)).bind fun x266 => (F_L_sell P.2.1 x263 x264 x265 x266 (P.2.1 + 72) (hp P w ex n sl)).bind fun q267 => (s_ai q267.2 a ((mI i) + 1)).bind fun x268 => (s_ai q267.2 a ((mI i) + 2)).bind fun x269 => (s_ai q267.2 a ((mI i) + 3)).bind fun x270 => (s_ai q267.2 a ((mI i) + 4)).bind fun x271 => (F_X8_sell (P.2.1 + 46) x268 x269 x270 x271 q267.2).bind fun q272 => (F_X8_thrown (P.2.1 + 46) q272.2).bind fun q273 => if q273.1 = q267.1 then (if q267.1 = 0 then ((s_al q273.2 (P.2.1 + 72) 0).bind fun x274 => if (lg_cmp x274 ((q272.1 : Int32).toInt64)) = 0 then (R_L_law_2607 a P.2.1 (P.2.1 + 46) (P.2.1 + 72) (mI i) q273.2) else (some (0, q273.2))) else (R_L_law_2607 a P.2.1 (P.2.1 + 46) (P.2.1 + 72) (mI i) q273.2)) else (some (0, q273.2))) := by
  obtain ⟨k, x, ex1, n1, sl1, w1, w2, e1, h1, h2, h3, h4, h5, h6⟩ := lr_sell (ex := ex) hI (g (i + 1)) (g (i + 2)) (g (i + 3)) (g (i + 4))
  rw [ad_1, ks_ai hS (by omega), ob, ad_2, ks_ai hS (by omega), ob, ad_3, ks_ai hS (by omega), ob, ad_4, ks_ai hS (by omega), ob, h2, ob]
  try dsimp only
  rw [ks_ai hS (by omega), ob, ks_ai hS (by omega), ob, ks_ai hS (by omega), ob, ks_ai hS (by omega), ob, h3, ob]
  try dsimp only
  rw [tl_I (K := R_L_law_2607 a P.2.1 (P.2.1 + 46) (P.2.1 + 72) (mI i)) h4 (fun z => (h5 z).1), E_L_law_2607]
  exact nx_end h1 h6
theorem lw_37 (hA : KA P) (hKs : KS P) (hKC : KC P) (hS : KScr P a N g) (hi : i + 7 ≤ N) (hI : IVa P S0 e w n sl D F L R U y φ nf ρ nd) : NX P S0 e a i ((s_ai (hp P w ex n sl) a ((mI i) + 1)).bind fun x275 => (F_L_undo P.2.1 x275 (P.2.1 + 72) (hp P w ex n sl)).bind fun q276 => (s_ai q276.2 a ((mI i) + 1)).bind fun x277 => (F_X8_undo (P.2.1 + 46) x277 q276.2).bind fun q278 => (F_X8_thrown (P.2.1 + 46) q278.2).bind fun q279 => if q279.1 = q276.1 then (if q276.1 = 0 then ((s_al q279.2 (P.2.1 + 72) 0).bind fun x280 => if q278.1 = 0 then (R_L_law_2664 a P.2.1 (P.2.1 + 46) (P.2.1 + 72) (mI i) 0 x280 q279.2) else (R_L_law_2664 a P.2.1 (P.2.1 + 46) (P.2.1 + 72) (mI i) 1 x280 q279.2)) else (R_L_law_2670 a P.2.1 (P.2.1 + 46) (P.2.1 + 72) (mI i) q279.2)) else (some (0, q279.2))) := by
  obtain ⟨k, x, ex1, n1, sl1, w1, w2, e1, h1, h2, h3, h4, h5, h6⟩ := lr_undo (ex := ex) hI (g (i + 1))
  rw [ad_1, ks_ai hS (by omega), ob, h2, ob]
  try dsimp only
  rw [ks_ai hS (by omega), ob, h3, ob]
  try dsimp only
  rw [m_thrown, ob]
  try dsimp only
  rw [if_pos h4]
  by_cases gk : k = 0
  · obtain ⟨z1, z2⟩ := h5 gk
    rw [if_pos gk, show s_al (hp P w2 ex1 n1 sl1) (P.2.1 + 72) 0 = some (w2.2.2.2.1 72 0) from ra_72 (i := 0) (by decide), ob, z1]
    rcases z2 with rfl | rfl
    · rw [if_pos rfl, E_L_law_2664, if_pos (by decide), E_L_law_2670]
      exact nx_end h1 h6
    · rw [if_neg (by decide), E_L_law_2664, if_pos (by decide), E_L_law_2670]
      exact nx_end h1 h6
  · rw [if_neg gk, E_L_law_2670]
    exact nx_end h1 h6
theorem lw_38 (hA : KA P) (hKs : KS P) (hKC : KC P) (hS : KScr P a N g) (hi : i + 7 ≤ N) (hI : IVa P S0 e w n sl D F L R U y φ nf ρ nd) : NX P S0 e a i ((s_ai (hp P w ex n sl) a ((mI i) + 1)).bind fun x281 => (s_ai (hp P w ex n sl) a ((mI i) + 2)).bind fun x282 => (s_ai (hp P w ex n sl) a ((mI i) + 3)).bind fun x283 => (F_L_owes P.2.1 x281 x282 x283 (P.2.1 + 72) (hp P w ex n sl)).bind fun q284 => (s_ai q284.2 a ((mI i) + 1)).bind fun x285 => (s_ai q284.2 a ((mI i) + 2)).bind fun x286 => (s_ai q284.2 a ((mI i) + 3)).bind fun x287 => (F_X8_owes (P.2.1 + 46) x285 x286 x287 q284.2).bind fun q288 => (F_X8_thrown (P.2.1 + 46) q288.2).bind fun q289 => if q289.1 = q284.1 then (if q284.1 = 0 then ((s_al q289.2 (P.2.1 + 72) 0).bind fun x290 => if (lg_cmp x290 ((q288.1 : Int32).toInt64)) = 0 then (R_L_law_2750 a P.2.1 (P.2.1 + 46) (P.2.1 + 72) (mI i) q289.2) else (some (0, q289.2))) else (R_L_law_2750 a P.2.1 (P.2.1 + 46) (P.2.1 + 72) (mI i) q289.2)) else (some (0, q289.2))) := by
  obtain ⟨k, x, ex1, n1, sl1, w1, w2, e1, h1, h2, h3, h4, h5, h6⟩ := lr_owes (ex := ex) hA hI (g (i + 1)) (g (i + 2)) (g (i + 3))
  rw [ad_1, ks_ai hS (by omega), ob, ad_2, ks_ai hS (by omega), ob, ad_3, ks_ai hS (by omega), ob, h2, ob]
  try dsimp only
  rw [ks_ai hS (by omega), ob, ks_ai hS (by omega), ob, ks_ai hS (by omega), ob, h3, ob]
  try dsimp only
  rw [tl_I (K := R_L_law_2750 a P.2.1 (P.2.1 + 46) (P.2.1 + 72) (mI i)) h4 (fun z => (h5 z).1), E_L_law_2750]
  exact nx_end h1 h6
theorem lw_39 (hA : KA P) (hKs : KS P) (hKC : KC P) (hS : KScr P a N g) (hi : i + 7 ≤ N) (hI : IVa P S0 e w n sl D F L R U y φ nf ρ nd) : NX P S0 e a i ((s_ai (hp P w ex n sl) a ((mI i) + 1)).bind fun x291 => (F_L_refunds P.2.1 x291 (P.2.1 + 72) (hp P w ex n sl)).bind fun q292 => (s_ai q292.2 a ((mI i) + 1)).bind fun x293 => (F_X8_refunds (P.2.1 + 46) x293 q292.2).bind fun q294 => (F_X8_thrown (P.2.1 + 46) q294.2).bind fun q295 => if q295.1 = q292.1 then (if q292.1 = 0 then ((s_al q295.2 (P.2.1 + 72) 0).bind fun x296 => if (lg_cmp x296 ((q294.1 : Int32).toInt64)) = 0 then (R_L_law_2806 a P.2.1 (P.2.1 + 46) (P.2.1 + 72) (mI i) q295.2) else (some (0, q295.2))) else (R_L_law_2806 a P.2.1 (P.2.1 + 46) (P.2.1 + 72) (mI i) q295.2)) else (some (0, q295.2))) := by
  obtain ⟨k, x, ex1, n1, sl1, w1, w2, e1, h1, h2, h3, h4, h5, h6⟩ := lr_refunds (ex := ex) hA hI (g (i + 1))
  rw [ad_1, ks_ai hS (by omega), ob, h2, ob]
  try dsimp only
  rw [ks_ai hS (by omega), ob, h3, ob]
  try dsimp only
  rw [tl_I (K := R_L_law_2806 a P.2.1 (P.2.1 + 46) (P.2.1 + 72) (mI i)) h4 (fun z => (h5 z).1), E_L_law_2806]
  exact nx_end h1 h6
theorem lw_40 (hA : KA P) (hKs : KS P) (hKC : KC P) (hS : KScr P a N g) (hi : i + 7 ≤ N) (hI : IVa P S0 e w n sl D F L R U y φ nf ρ nd) : NX P S0 e a i ((F_X7_dearer P.2.1 (hp P w ex n sl)).bind fun q297 => (F_X8_dearer (P.2.1 + 46) q297.2).bind fun q298 => if q297.1 = q298.1 then (R_L_law_2927 a P.2.1 (P.2.1 + 46) (P.2.1 + 72) (mI i) q298.2) else (some (0, q298.2))) := by
  obtain ⟨x, w1, ex1, n1, sl1, w2, h2, h3, h6⟩ := pr_dearer (ex := ex) hI 
  rw [h2, ob]
  try dsimp only
  rw [h3, ob]
  try dsimp only
  rw [if_pos rfl]
  exact nx_end (Nat.le_succ e) h6
theorem lw_41 (hA : KA P) (hKs : KS P) (hKC : KC P) (hS : KScr P a N g) (hi : i + 7 ≤ N) (hI : IVa P S0 e w n sl D F L R U y φ nf ρ nd) : NX P S0 e a i ((s_ai (hp P w ex n sl) a ((mI i) + 1)).bind fun x299 => (F_L_chain P.2.1 x299 (P.2.1 + 72) (hp P w ex n sl)).bind fun q300 => (s_ai q300.2 a ((mI i) + 1)).bind fun x301 => (F_X8_chain (P.2.1 + 46) x301 q300.2).bind fun q302 => (F_X8_thrown (P.2.1 + 46) q302.2).bind fun q303 => if q303.1 = q300.1 then (if q300.1 = 0 then ((s_al q303.2 (P.2.1 + 72) 0).bind fun x304 => if (lg_cmp x304 ((q302.1 : Int32).toInt64)) = 0 then (R_L_law_2875 a P.2.1 (P.2.1 + 46) (P.2.1 + 72) (mI i) q303.2) else (some (0, q303.2))) else (R_L_law_2875 a P.2.1 (P.2.1 + 46) (P.2.1 + 72) (mI i) q303.2)) else (some (0, q303.2))) := by
  obtain ⟨k, x, ex1, n1, sl1, w1, w2, e1, h1, h2, h3, h4, h5, h6⟩ := lr_chain (ex := ex) hI (g (i + 1))
  rw [ad_1, ks_ai hS (by omega), ob, h2, ob]
  try dsimp only
  rw [ks_ai hS (by omega), ob, h3, ob]
  try dsimp only
  rw [tl_I (K := R_L_law_2875 a P.2.1 (P.2.1 + 46) (P.2.1 + 72) (mI i)) h4 (fun z => (h5 z).1), E_L_law_2875]
  exact nx_end h1 h6
theorem lw_43 (hA : KA P) (hKs : KS P) (hKC : KC P) (hS : KScr P a N g) (hi : i + 7 ≤ N) (hI : IVa P S0 e w n sl D F L R U y φ nf ρ nd) : NX P S0 e a i ((F_X7_back P.2.1 (hp P w ex n sl)).bind fun q307 => (F_X8_back (P.2.1 + 46) q307.2).bind fun q308 => if q307.1 = q308.1 then (R_L_law_2927 a P.2.1 (P.2.1 + 46) (P.2.1 + 72) (mI i) q308.2) else (some (0, q308.2))) := by
  obtain ⟨x, w1, ex1, n1, sl1, w2, h2, h3, h6⟩ := pr_back (ex := ex) hI 
  rw [h2, ob]
  try dsimp only
  rw [h3, ob]
  try dsimp only
  rw [if_pos rfl]
  exact nx_end (Nat.le_succ e) h6
theorem lw_44 (hA : KA P) (hKs : KS P) (hKC : KC P) (hS : KScr P a N g) (hi : i + 7 ≤ N) (hI : IVa P S0 e w n sl D F L R U y φ nf ρ nd) : NX P S0 e a i ((s_ai (hp P w ex n sl) a ((mI i) + 1)).bind fun x309 => (F_X7_count P.2.1 x309 (hp P w ex n sl)).bind fun q310 => (s_ai q310.2 a ((mI i) + 1)).bind fun x311 => (F_X8_count (P.2.1 + 46) x311 q310.2).bind fun q312 => if q310.1 = q312.1 then (R_L_law_2927 a P.2.1 (P.2.1 + 46) (P.2.1 + 72) (mI i) q312.2) else (some (0, q312.2))) := by
  obtain ⟨x, w1, ex1, n1, sl1, w2, h2, h3, h6⟩ := pr_count (ex := ex) hA hI (g (i + 1))
  rw [ad_1, ks_ai hS (by omega), ob, h2, ob]
  try dsimp only
  rw [ks_ai hS (by omega), ob, h3, ob]
  try dsimp only
  rw [if_pos rfl]
  exact nx_end (Nat.le_succ e) h6
end LWR
