/-! pairs of calls: tape, things, formula, image -/
section KPU
variable {P : sP} {S0 e : Nat} {w w' w1 w2 z u : sW} {ex : Nat → Option sC} {n sl D F L R U : Nat} {y : sLn} {φ : Nat → List Nat} {nf : Nat → Nat} {ρ : sRc} {nd : Nat → List Nat}
/-- what the kept books rest on stays -/
def KS0 (w w' : sW) : Prop := (∀ k, k < 10 → w'.2.2.1 (19 + k) = w.2.2.1 (19 + k) ∧ w'.2.2.2.1 (19 + k) = w.2.2.2.1 (19 + k)) ∧ w'.2.2.1 48 = w.2.2.1 48 ∧ (∀ j, j < 11 → w'.1 19 j = w.1 19 j) ∧ w'.1 0 8 = w.1 0 8 ∧ w'.1 46 3 = w.1 46 3
theorem BKk.s {D' F' L' R' U' : Nat} {y' : sLn} {φ' : Nat → List Nat} {nf' : Nat → Nat} {ρ' : sRc} (h : BKk w D' F' L' R' U' y' φ' nf' ρ') (k : KS0 w w') : BKk w' D' F' L' R' U' y' φ' nf' ρ' := by
  obtain ⟨ek, a48, i19, -, -⟩ := k
  refine BK.congr h i19 (fun i _ => by rw [a48]) ?_ ?_ ?_ ?_ ?_ ?_ ?_ ?_ ?_ <;> intro i _
  · rw [(ek 2 (by decide)).1]
  · rw [(ek 3 (by decide)).1]
  · rw [(ek 6 (by decide)).1]
  · rw [(ek 7 (by decide)).1]
  · rw [(ek 8 (by decide)).1]
  · rw [(ek 9 (by decide)).1]
  · rw [(ek 1 (by decide)).2]
  · rw [(ek 4 (by decide)).2]
  · rw [(ek 5 (by decide)).2]
theorem KP.up {U2 : Nat} {nd' : Nat → List Nat} (h : KP w D U nd) (k : KS0 w w') (hU : U ≤ U2) (hn : ∀ i, i < U → nd' i = nd i) : KP w' D U2 nd' := by
  unfold KP
  rw [k.2.2.2.1, k.2.2.2.2]
  refine h.imp id ?_
  rintro ⟨z1, z2, D', F', L', R', U', y', φ', nf', ρ', z3, z4⟩
  refine ⟨z1, z2, D', F', L', R', U', y', φ', nf', ρ', z3.s k, fun hF => ?_⟩
  obtain ⟨a1, a2, a3, a4⟩ := z4 hF
  refine ⟨a1, by omega, fun f hf => ?_, fun i hi r hr t ht => ?_⟩
  · have := (z3.2.2.1.1 f hf).2.2.1
    rw [hn _ (by omega)]
    exact a3 f hf
  · rw [hn i (by omega)] at hr
    obtain ⟨q, q1, q2⟩ := a4 i hi r hr t ht
    exact ⟨q, q1, by rw [hn q (by omega)]; exact q2⟩
theorem Fr.ks {A B : List Nat} (h : Fr A B w w') (h1 : ∀ k ∈ A, k < 19 ∨ 29 ≤ k) (h2 : 48 ∉ A) (h3 : ∀ b ∈ B, b < 1900 ∨ 1911 ≤ b) (h4 : 8 ∉ B) (h5 : 4603 ∉ B) : KS0 w w' :=
  ⟨fun k hk => h.1 (19 + k) (fun q => by have := h1 _ q; omega), (h.1 48 h2).1, fun j hj => (h.2.1 19 j (fun q => by have := h3 _ q; omega)).1, (h.2.1 0 8 (by exact h4)).1, (h.2.1 46 3 (by exact h5)).1⟩
/-- a frame for the tapes -/
theorem IVa.tp {A B : List Nat} (hI : IVa P S0 e w n sl D F L R U y φ nf ρ nd) (f : Fr A B w w') (hA : ∀ k ∈ A, k ∈ [30, 51, 52]) (hB : ∀ k ∈ B, k ∈ [2900, 4600, 4607]) (ht : TP w') : IVa P S0 e w' n sl D F L R U y φ nf ρ nd := by
  have f' := f.mo hA hB
  obtain ⟨h1, h2, h3, h4, h5, h6, h7⟩ := hI
  refine ⟨?_, h2.fr f' (by decide) (by decide), h3, fun k hk => (h4 k hk).fr f' (by decide) (by decide), ht, ?_, h7.up (f'.ks (by decide) (by decide) (by decide) (by decide) (by decide)) (Nat.le_refl _) (fun _ _ => rfl)⟩
  · have eo : ∀ k, k < 10 → w'.2.2.1 (9 + k) = w.2.2.1 (9 + k) ∧ w'.2.2.2.1 (9 + k) = w.2.2.2.1 (9 + k) := fun k hk => f'.1 (9 + k) (by simp; omega)
    refine BK.congr h1 (fun j hj => (f'.2.1 9 j (by simp; omega)).1) (fun i _ => by rw [f'.a (k := 47) (by decide)]) ?_ ?_ ?_ ?_ ?_ ?_ ?_ ?_ ?_ <;> intro i _
    · rw [(eo 2 (by decide)).1]
    · rw [(eo 3 (by decide)).1]
    · rw [(eo 6 (by decide)).1]
    · rw [(eo 7 (by decide)).1]
    · rw [(eo 8 (by decide)).1]
    · rw [(eo 9 (by decide)).1]
    · rw [(eo 1 (by decide)).2]
    · rw [(eo 4 (by decide)).2]
    · rw [(eo 5 (by decide)).2]
  · rw [f'.i (k := 29) (j := 1) (by decide), f'.i (k := 46) (j := 13) (by decide)]; exact h6
/-! feed -/
theorem pr_feed (hI : IVa P S0 e w n sl D F L R U y φ nf ρ nd) (a b c d g : Int32) : PN P S0 e w ex n sl (F_X7_feed P.2.1 a b c d g) (F_X8_feed (P.2.1 + 46) a b c d g) := by
  obtain ⟨N, t, t1, t2, t3, t4⟩ := hI.2.2.2.2.1
  generalize hx : (fun i : Nat => if i = 0 then a else if i = 1 then b else if i = 2 then c else if i = 3 then d else g) = x
  have ea : x 0 = a := by rw [← hx]; rfl
  have eb : x 1 = b := by rw [← hx]; rfl
  have ec : x 2 = c := by rw [← hx]; rfl
  have ed : x 3 = d := by rw [← hx]; rfl
  have eg : x 4 = g := by rw [← hx]; rfl
  by_cases h : N + 20 ≤ 400
  · obtain ⟨w1, a1, f1, z1, z2, z3⟩ := (c_feed (P := P) (ex := ex) (n := n) (sl := sl) (x := x) t2 t1).1 h
    have e7 : w1.1 46 7 = mI N := by rw [f1.i (k := 46) (j := 7) (by decide)]; exact t3
    obtain ⟨w2, b1, b2', f2, y0, y1, y2, y3⟩ := (m_feed (P := P) (ex := ex) (n := n) (sl := sl) (x := x) e7 t1).1 h
    rw [ea, eb, ec, ed, eg] at a1 b1
    refine ⟨mI (N + 20), w1, ex, n, sl, w2, a1, b1, (hI.tp ((f1.mo (A' := [30, 51, 52]) (B' := [2900, 4600, 4607]) (by decide) (by decide)).tr (f2.mo (by decide) (by decide))) (fun _ h => h) (fun _ h => h) ?_).iv⟩
    refine ⟨N + 20, fun i => if i < N then t i else Classical.choose (bzF_sB (v := x ((i - N) / 4)) (k := (i - N) % 4)), h, ?_, b2', fun i hi => ?_⟩
    · rw [f2.i (k := 29) (j := 0) (by decide)]; exact z1
    · dsimp only
      rw [f2.a (k := 30) (by decide)]
      by_cases q : i < N
      · rw [if_pos q, z2 i q, y1 i q, f1.a (k := 51) (by decide)]
        exact t4 i q
      · rw [if_neg q]
        obtain ⟨c1, c2⟩ := Classical.choose_spec (bzF_sB (v := x ((i - N) / 4)) (k := (i - N) % 4))
        have e1 := z3 (i - N) (by omega)
        have e2 := y3 (i - N) (by omega)
        rw [show N + (i - N) = i by omega] at e1 e2
        exact ⟨c1, (congrArg (fun q => q &&& 255) (e1.trans c2)).trans (sB_and _ c1), e2.trans c2⟩
  · have a1 := (c_feed (P := P) (ex := ex) (n := n) (sl := sl) (x := x) t2 t1).2 h
    have b1 := (m_feed (P := P) (ex := ex) (n := n) (sl := sl) (x := x) t3 t1).2 h
    rw [ea, eb, ec, ed, eg] at a1 b1
    exact ⟨-1, w, ex, n, sl, wI w 46 0 0, a1, b1, (hI.fv FV.t0).iv⟩
/-! end, fault -/
theorem pr_end (hI : IVa P S0 e w n sl D F L R U y φ nf ρ nd) (v : Int32) : PN P S0 e w ex n sl (F_X7_end P.2.1 v) (F_X8_end (P.2.1 + 46) v) := by
  obtain ⟨N, t, t1, t2, t3, t4⟩ := hI.2.2.2.2.1
  have cl : ∀ x w1, F_X5_cut (P.2.1 + 29) v (hp P w ex n sl) = some (x, hp P w1 ex n sl) → (x = 0 ∨ x = 1) → F_X7_end P.2.1 v (hp P w ex n sl) = some (x, hp P w1 ex n sl) := by
    intro x w1 h hx
    rw [E_X7_end, z_0, ob, E_X7_end_0, q_0_3, ob, h, ob]
    exact if_pos hx
  by_cases h : inN v (N + 1)
  · obtain ⟨k, hk, rfl⟩ := inN_to (by omega) h
    have hle : mI k ≤ mI N := by rw [nle (by omega) (by omega)]; omega
    refine ⟨1, wI w 29 0 (mI k), ex, n, sl, wI (wI (wI w 29 0 (mI k)) 46 0 0) 46 7 (mI k), cl _ _ ?_ (Or.inr rfl), ?_, (hI.tp (A := []) (B := [2900, 4600, 4607]) (((Fr.rf.pI (k := 29) (j := 0) (by decide)).pI (k := 46) (j := 0) (by decide)).pI (k := 46) (j := 7) (by decide)) (by decide) (fun _ h => h) ?_).iv⟩
    · rw [E_X5_cut, z_29, ob, E_X5_cut_0, if_neg h.1, q_29_0, ob, t2, if_pos hle, p_29_0, ob]
    · have e7 : (wI (wI w 29 0 (mI k)) 46 0 0).1 46 7 = mI N := by
        refine Eq.trans ?_ t3
        ((try dsimp only [wA, wI, wL, wJ]); (repeat first | rw [up2_n (by omega)] | rw [up2_e (by omega) (by omega)]))
      rw [E_X8_end, z_46, ob, E_X8_end_0, p_46_0, ob, if_neg h.1, q_46_7, ob, e7, if_pos hle, p_46_7, ob]
    · refine ⟨k, t, by omega, ?_, ?_, fun i hi => t4 i (by omega)⟩ <;> ((try dsimp only [wA, wI, wL, wJ]); (repeat first | rw [up2_n (by omega)] | rw [up2_e (by omega) (by omega)]))
  · refine ⟨0, w, ex, n, sl, wI w 46 0 0, cl _ _ ?_ (Or.inl rfl), ?_, (hI.fv FV.t0).iv⟩
    · rw [E_X5_cut, z_29, ob, E_X5_cut_0]
      by_cases g : v < 0
      · rw [if_pos g]
      · rw [if_neg g, q_29_0, ob, t2, if_neg (fun q => h ((in_N (N := N) (by omega)).mp ⟨g, Int32.not_lt.mpr q⟩))]
    · rw [E_X8_end, z_46, ob, E_X8_end_0, p_46_0, ob]
      have e7 : (wI w 46 0 0).1 46 7 = mI N := by
        refine Eq.trans ?_ t3
        ((try dsimp only [wA, wI, wL, wJ]); (repeat first | rw [up2_n (by omega)] | rw [up2_e (by omega) (by omega)]))
      by_cases g : v < 0
      · rw [if_pos g]
      · rw [if_neg g, q_46_7, ob, e7, if_neg (fun q => h ((in_N (N := N) (by omega)).mp ⟨g, Int32.not_lt.mpr q⟩))]
theorem pr_fault (hI : IVa P S0 e w n sl D F L R U y φ nf ρ nd) : PN P S0 e w ex n sl (F_X7_fault P.2.1) (F_X8_fault (P.2.1 + 46)) := by
  refine ⟨w.1 29 1, w, ex, n, sl, wI w 46 0 0, ?_, ?_, (hI.fv FV.t0).iv⟩
  · rw [E_X7_fault, z_0, ob, E_X7_fault_0, q_0_3, ob, q_29_1, ob]
  · rw [E_X8_fault, z_46, ob, E_X8_fault_0, p_46_0, ob, q_46_13, ob, hI.2.2.2.2.2.1]
    refine congrArg (fun q => some (q, _)) ?_
    ((try dsimp only [wA, wI, wL, wJ]); (repeat first | rw [up2_n (by omega)] | rw [up2_e (by omega) (by omega)]))
/-! things -/
def PT (P : sP) (S0 e : Nat) (w : sW) (ex : Nat → Option sC) (n sl : Nat) (v : Int32) : Prop := ∃ k w1 n1 sl1 w2 e1, e1 ≤ e + 1 ∧ F_L_things P.2.1 v (hp P w ex n sl) = some (k, hp P w1 ex n1 sl1) ∧ F_X8_things (P.2.1 + 46) v (hp P w1 ex n1 sl1) = some ((), hp P w2 ex n1 sl1) ∧ w2.1 46 0 = k ∧ IV P S0 e1 w2 n1 sl1
theorem FS.zero {D' : Nat} (h : FS P S0 e w n sl 0 (fun _ => D) nd) : FS P S0 e w n sl 0 (fun _ => D') nd := by
  obtain ⟨⟨a1, a2, a3, a4, a5⟩, b, c⟩ := h
  exact ⟨⟨a1, a2, a3, fun i hi => absurd hi (by omega), a5⟩, b, c⟩
theorem pr_things (hI : IVa P S0 e w n sl D F L R U y φ nf ρ nd) (v : Int32) : PT P S0 e w ex n sl v := by
  have hb := hI.b
  have h2 := hI.C.2.2.2.2.2.1
  have h1 := hI.M.2.2.2.2.2.1
  obtain ⟨cx, c0, cF⟩ := c_things (P := P) (ex := ex) (n := n) (sl := sl) (v := v) h2 hb.2.2.1
  by_cases h : v < 1 ∨ ¬ v ≤ 3
  · exact ⟨1, w, n + 1, sl + 6, wI w 46 0 1, e + 1, Nat.le_refl _, cx h, (m_things (P := P) (ex := ex) (v := v) h1 hb.2.2.1).1 h, wI_s, (hI.xc.fv FV.t0).iv⟩
  · by_cases hF : F = 0
    · have hv : inN v 4 ∧ ¬ v = 0 := by
        have g1 : ¬ v < 1 := fun z => h (Or.inl z)
        have g3 : v ≤ 3 := Classical.byContradiction fun z => h (Or.inr z)
        rw [Int32.lt_iff_toInt_lt, show (1 : Int32).toInt = 1 from rfl] at g1
        rw [Int32.le_iff_toInt_le, show (3 : Int32).toInt = 3 from rfl] at g3
        refine ⟨⟨?_, ?_⟩, ?_⟩
        · rw [Int32.lt_iff_toInt_lt, show (0 : Int32).toInt = 0 from rfl]; omega
        · rw [Int32.le_iff_toInt_le, show (mI 4).toInt = 4 from rfl]; omega
        · intro z; rw [z] at g1; exact absurd g1 (by decide)
      obtain ⟨d, hd, rfl⟩ := inN_to (by decide) hv.1
      have hd0 : 1 ≤ d := by
        rcases Nat.eq_zero_or_pos d with z | z
        · exact absurd (by rw [z]; rfl) hv.2
        · exact z
      have f1 : Fr [47] [900, 4600] w (wA (wI (wI w 9 0 (mI d)) 46 0 0) 47 0 (mI d)) := ((Fr.rf.pI (k := 9) (j := 0) (by decide)).pI (k := 46) (j := 0) (by decide)).pA (k := 47) (by decide)
      refine ⟨0, wI w 9 0 (mI d), n, sl, wA (wI (wI w 9 0 (mI d)) 46 0 0) 47 0 (mI d), e, Nat.le_succ _, c0 h hF, (m_things (P := P) (ex := ex) (v := mI d) (w := wI w 9 0 (mI d)) h1 hb.2.2.1).2.1 h hF, ?_, d, F, L, R, U, y, φ, nf, ρ, nd, ?_⟩
      · ((try dsimp only [wA, wI, wL, wJ]); (repeat first | rw [up2_n (by omega)] | rw [up2_e (by omega) (by omega)]))
      · have hU : U = 0 := by omega
        subst hU
        obtain ⟨⟨bN, bL, bF, bR, bH⟩, k2, k3, k4, k5, k6, k7⟩ := hI
        refine ⟨⟨⟨⟨hd0, by omega, hb.2.2.1, hb.2.2.2.1, hb.2.2.2.2.1, by omega⟩, ⟨?_, ?_, ?_, ?_, ?_⟩, ?_, ?_, ?_, ?_⟩, bL.c hb.2.2.2.1 (fun i hi => ?_) (fun i hi hi' => ?_) (fun i hi => ?_) (fun i hi => ?_), ⟨fun f hf => absurd hf (by omega), fun f hf => absurd hf (by omega), fun f hf => absurd hf (by omega)⟩, bR.c hb.2.2.2.2.1 (fun i hi => ?_) ?_ (fun i hi hi' => ?_), bH.c (fun i hi => ?_) (fun i hi => ?_) (fun i hi => ?_) (fun i hi hi' => ?_)⟩, (k2.fr f1 (by decide) (by decide)).zero, k3, fun k hk => absurd hk (by omega), ?_, ?_, ?_⟩
        case refine_1 => ((try dsimp only [wA, wI, wL, wJ]); (repeat first | rw [up2_n (by omega)] | rw [up2_e (by omega) (by omega)]))
        case refine_2 => ((try dsimp only [wA, wI, wL, wJ]); (repeat first | rw [up2_n (by omega)] | rw [up2_e (by omega) (by omega)])); exact bN.2.1.2.1
        case refine_3 => ((try dsimp only [wA, wI, wL, wJ]); (repeat first | rw [up2_n (by omega)] | rw [up2_e (by omega) (by omega)])); exact bN.2.1.2.2.1
        case refine_4 => ((try dsimp only [wA, wI, wL, wJ]); (repeat first | rw [up2_n (by omega)] | rw [up2_e (by omega) (by omega)])); exact bN.2.1.2.2.2.1
        case refine_5 => ((try dsimp only [wA, wI, wL, wJ]); (repeat first | rw [up2_n (by omega)] | rw [up2_e (by omega) (by omega)])); exact bN.2.1.2.2.2.2
        case refine_6 => ((try dsimp only [wA, wI, wL, wJ]); (repeat first | rw [up2_n (by omega)] | rw [up2_e (by omega) (by omega)]))
        case refine_7 => ((try dsimp only [wA, wI, wL, wJ]); (repeat first | rw [up2_n (by omega)] | rw [up2_e (by omega) (by omega)])); exact bN.2.2.2.1
        case refine_8 => ((try dsimp only [wA, wI, wL, wJ]); (repeat first | rw [up2_n (by omega)] | rw [up2_e (by omega) (by omega)])); exact bN.2.2.2.2.1
        case refine_9 => ((try dsimp only [wA, wI, wL, wJ]); (repeat first | rw [up2_n (by omega)] | rw [up2_e (by omega) (by omega)])); exact bN.2.2.2.2.2
        case refine_21 =>
          obtain ⟨N, t, t1, t2, t3, t4⟩ := k5
          refine ⟨N, t, t1, ?_, ?_, fun i hi => ?_⟩
          · ((try dsimp only [wA, wI, wL, wJ]); (repeat first | rw [up2_n (by omega)] | rw [up2_e (by omega) (by omega)])); exact t2
          · ((try dsimp only [wA, wI, wL, wJ]); (repeat first | rw [up2_n (by omega)] | rw [up2_e (by omega) (by omega)])); exact t3
          · rw [f1.a (k := 30) (by decide), f1.a (k := 51) (by decide)]; exact t4 i hi
        case refine_22 =>
          rw [f1.i (k := 29) (j := 1) (by decide), f1.i (k := 46) (j := 13) (by decide)]; exact k6
        case refine_23 =>
          have ks := f1.ks (by decide) (by decide) (by decide) (by decide) (by decide)
          unfold KP
          rw [ks.2.2.2.1, ks.2.2.2.2]
          refine k7.imp id ?_
          rintro ⟨z1, z2, D', F', L', R', U', y', φ', nf', ρ', z3, z4⟩
          refine ⟨z1, z2, D', F', L', R', U', y', φ', nf', ρ', z3.s ks, fun hF' => ?_⟩
          have a1 := (z4 hF').2.1
          have a2 := (z3.2.2.1.1 0 hF').2.2.1
          omega
        all_goals ((try dsimp only [wA, wI, wL, wJ]); (repeat first | rw [up2_n (by omega)] | rw [up2_e (by omega) (by omega)]))
    · refine ⟨2, w, n + 1, sl + 6, wI w 46 0 2, e + 1, Nat.le_refl _, cF h hF, (m_things (P := P) (ex := ex) (v := v) h1 hb.2.2.1).2.2 h hF, wI_s, (hI.xc.fv FV.t0).iv⟩
end KPU
