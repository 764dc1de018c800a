/-! all and some are made; the table is cut -/
section BND
variable {P : sP} {S0 e D : Nat}
theorem dzU_same {Dz : Nat → Nat} {z : Nat} : dzU Dz z (Dz z) = Dz := by
  funext i
  unfold dzU
  split
  · rename_i h; rw [h]
  · rfl
theorem FT_setp {w : sW} {U z t q k : Nat} {Dz : Nat → Nat} {nd : Nat → List Nat} {lb : List Nat} (hF : FT w U Dz nd) (hz : z < U) (hk : k = 5 ∨ k = 6) (hl : nd z = (11 + k) :: lb) (ht : t < 3) (hq : q < U) (hnq : nd q = lb.map (ins (some t))) (hd : t ≤ Dz z) : FT (wA w 7 (z * 3 + t) (mI q)) U (dzU Dz z (if t < Dz z then Dz z else t + 1)) nd := by
  have r : ∀ c, c ≠ 7 → (wA w 7 (z * 3 + t) (mI q)).2.2.1 c = w.2.2.1 c := fun c hc => up2_k hc
  have r7 : ∀ j, j ≠ z * 3 + t → (wA w 7 (z * 3 + t) (mI q)).2.2.1 7 j = w.2.2.1 7 j := fun j hj => up2_j hj
  have r7t : (wA w 7 (z * 3 + t) (mI q)).2.2.1 7 (z * 3 + t) = mI q := up2_s
  refine ⟨hF.1, hF.2.1, hF.2.2.1, fun i hi => ?_, hF.2.2.2.2⟩
  obtain ⟨⟨k', hk7, hk', hs⟩, h1, h2, h3⟩ := hF.2.2.2.1 i hi
  rw [r 2 (by decide), r 3 (by decide), r 4 (by decide), r 5 (by decide)]
  refine ⟨⟨k', hk7, hk', hs⟩, h1, h2, ?_⟩
  unfold PL
  rw [r 2 (by decide), r 3 (by decide)]
  intro hb a ha ea t' ht'
  have old := h3 hb a ha ea t' ht'
  by_cases ei : i = z
  · subst ei
    have ed : dzU Dz i (if t < Dz i then Dz i else t + 1) i = (if t < Dz i then Dz i else t + 1) := if_pos rfl
    rw [ed]
    have ela : nd a = lb := by
      rcases hs with ⟨hk0, -⟩ | ⟨hk0, -⟩ | ⟨hk0, -⟩ | ⟨hk0, a', e1, e2, e3, e4⟩
      · exfalso; rcases hb with hb | hb <;> have := (mI_inj (by omega) (by decide)).mp (hk'.symm.trans hb) <;> omega
      · exfalso; rcases hb with hb | hb <;> have := (mI_inj (by omega) (by decide)).mp (hk'.symm.trans hb) <;> omega
      · exfalso; rcases hb with hb | hb <;> have := (mI_inj (by omega) (by decide)).mp (hk'.symm.trans hb) <;> omega
      · have hU : U ≤ 2 ^ 17 := Nat.le_trans hF.2.1 hF.2.2.1
        have : a = a' := (mI_inj (by omega) (by omega)).mp (ea.symm.trans e2)
        rw [this]
        rw [hl] at e4
        exact (List.cons.inj e4).2.symm
    by_cases et : t' = t
    · subst et
      rw [r7t]
      refine ⟨fun _ => ⟨q, hq, rfl, by rw [ela]; exact hnq⟩, fun z9 => ?_⟩
      exfalso
      split at z9 <;> omega
    · rw [r7 _ (by omega)]
      refine ⟨fun z9 => old.1 ?_, fun z9 => old.2 ?_⟩
      · split at z9 <;> omega
      · split at z9 <;> omega
  · have ed : dzU Dz z (if t < Dz z then Dz z else t + 1) i = Dz i := if_neg ei
    rw [ed, r7 _ (by omega)]
    exact old
theorem HB_set7 {w : sW} {U j : Nat} {v : Int32} (h : HB w U) : HB (wA w 7 j v) U := by
  have r : ∀ c, c ≠ 7 → (wA w 7 j v).2.2.1 c = w.2.2.1 c := fun c hc => up2_k hc
  have hs : Hs (wA w 7 j v) = Hs w := by funext i; unfold Hs; rw [r 2 (by decide), r 3 (by decide), r 4 (by decide)]
  unfold HB
  rw [hs, r 8 (by decide), r 6 (by decide)]
  exact h
theorem c_bindL {ib k z : Nat} (hk : k = 5 ∨ k = 6) (h1 : 1 ≤ D) (h3 : D ≤ 3) : ∀ m t (w : sW) (ex : Nat → Option sC) (n sl U d : Nat) (nd : Nat → List Nat), t + m = D → (d = D ∨ d = t) → FS P S0 e w n sl U (dzU (fun _ => D) z d) nd → z < U → ib < U → nd z = (11 + k) :: nd ib → (∀ s ∈ nd ib, s ≠ 16 ∧ s ≠ 17) → U + m * (nd ib).length ≤ 8000 → ∃ w' ex' n' sl' U' nd', R_X2_makeBinder_12 (P.2.1 + 1) (mI ib) (mI D) (mI z) (mI t) (hp P w ex n sl) = some (mI z, hp P w' ex' n' sl') ∧ FS P S0 e w' n' sl' U' (fun _ => D) nd' ∧ U ≤ U' ∧ (∀ i, i < U → nd' i = nd i) ∧ FrX fAr [100] w w' ∧ U' ≤ U + m * (nd ib).length := by
  intro m
  induction m with
  | zero =>
    intro t w ex n sl U d nd ht hd hS hz hib hnz hq hUb
    have : d = D := by omega
    subst this
    refine ⟨w, ex, n, sl, U, nd, ?_, ?_, Nat.le_refl _, fun _ _ => rfl, FrX.rf, by omega⟩
    · rw [E_X2_makeBinder_12, if_neg (mI_m1 (by omega)), if_pos (by rw [nle (by omega) (by omega)]; omega)]
    · have : dzU (fun _ => d) z d = fun _ => d := dzU_same (Dz := fun _ => d)
      rw [this] at hS
      exact hS
  | succ m ih =>
    intro t w ex n sl U d nd ht hd hS hz hib hnz hq hUb
    rw [Nat.succ_mul] at hUb
    have hl9 := (hS.1.2.2.2.1 ib hib).2.2.1
    obtain ⟨q, w', ex', n', sl', U', nd', m1, m2, m3, m4, m5, m6, m7⟩ := c_place (P := P) (S0 := S0) (e := e) (u := t) (by omega) (nd ib).length w ex n sl U (dzU (fun _ => D) z d) nd ib 64 0 hS (by omega) hib (Nat.le_refl _) hq (by omega) (by omega)
    have hF' := m2.1
    have hz' : z < U' := Nat.lt_of_lt_of_le hz m3.1
    have hib' : ib < U' := Nat.lt_of_lt_of_le hib m3.1
    have enz : nd' z = (11 + k) :: nd' ib := by rw [(m3.2 z hz).1, (m3.2 ib hib).1]; exact hnz
    have enb : nd' ib = nd ib := (m3.2 ib hib).1
    have edz : dzU (fun _ => D) z d z = d := if_pos rfl
    have hF2 := FT_setp (t := t) (q := q) hF' hz' hk enz (by omega) m5 (by rw [m6, enb]) (by rw [edz]; omega)
    rw [edz] at hF2
    have edd : dzU (dzU (fun _ => D) z d) z (if t < d then d else t + 1) = dzU (fun _ => D) z (if t < d then d else t + 1) := by
      funext i
      unfold dzU
      split <;> rfl
    rw [edd] at hF2
    have al : AL P S0 (wA w' 7 (z * 3 + t) (mI q)) n' sl' e := m2.2.2
    obtain ⟨w2, ex2, n2, sl2, U2, nd2, r1, r2, r3, r4, r5, r6⟩ := ih (t + 1) (wA w' 7 (z * 3 + t) (mI q)) ex' n' sl' U' (if t < d then d else t + 1) nd' (by omega) (by
      rcases hd with rfl | rfl
      · by_cases g : t < d
        · rw [if_pos g]; exact Or.inl rfl
        · rw [if_neg g]; exact Or.inr rfl
      · rw [if_neg (by omega)]; exact Or.inr rfl) ⟨hF2, HB_set7 m2.2.1, al⟩ hz' hib' enz (by rw [enb]; exact hq) (by rw [enb]; omega)
    refine ⟨w2, ex2, n2, sl2, U2, nd2, ?_, r2, Nat.le_trans m3.1 r3, fun i hi => (r4 i (Nat.lt_of_lt_of_le hi m3.1)).trans (m3.2 i hi).1, ?_, by rw [enb] at r6; rw [Nat.succ_mul]; omega⟩
    · have wf := hp_wf (P := P) (w := w') (ex := ex') (n := n') (sl := sl') (i := 5) (k := z * 3 + t) (v := mI q) (by decide) (by rw [if_pos rfl]; have := hF'.2.1; omega) hF'.2.2.1
      rw [E_X2_makeBinder_12, if_neg (mI_m1 (by omega)), if_neg (by rw [nle (by omega) (by omega)]; omega), if_neg (by rw [nleR (by omega) (by decide)]; exact Nat.not_le.mpr (by omega)), show (0 : Int32) = mI 0 from rfl, m1, ob, q_1_6, ob, nmulL, nadd]
      try dsimp only
      rw [wf, ob, naddL]
      exact r1
    · have mid : FrX fAr [100] w' (wA w' 7 (z * 3 + t) (mI q)) := by
        refine ⟨fun c hc => ?_, fun _ _ _ => rfl, rfl, rfl⟩
        show up2 w'.2.2.1 7 (z * 3 + t) (mI q) c = _
        exact up2_k (fun z9 => hc (by rw [z9]; decide))
      exact (m4.tr mid).tr r5
theorem c_makeBinder {w : sW} {ex : Nat → Option sC} {n sl U ib k : Nat} {nd : Nat → List Nat} (hk : k = 5 ∨ k = 6) (h1 : 1 ≤ D) (h3 : D ≤ 3) (hS : FS P S0 e w n sl U (fun _ => D) nd) (hib : ib < U) (hq : ∀ s ∈ nd ib, s ≠ 16 ∧ s ≠ 17) (hl : (nd ib).length + 1 ≤ 40) (hU : U + 1 + 3 * (nd ib).length ≤ 8000) : MKr P S0 e w U (fun _ => D) nd (F_X2_makeBinder (P.2.1 + 1) (mI k) (mI ib) (mI D) (hp P w ex n sl)) ((11 + k) :: nd ib) (1 + 3 * (nd ib).length) := by
  obtain ⟨z, w', ex', n', sl', U', Dz', nd', e1, e2, e3, e4, e5, e6, e7, e8, e9⟩ := c_make (ex := ex) (k := k) (a := mI ib) (b := -1) (l := (11 + k) :: nd ib) hS.1 hS.2.1 hS.2.2 (by omega) (Or.inr (Or.inr (Or.inr ⟨hk, ib, hib, rfl, rfl, rfl⟩))) (by simp; omega)
  have enb : nd' ib = nd ib := (e5.2 ib hib).1
  have hD : D * (nd ib).length ≤ 3 * (nd ib).length := Nat.mul_le_mul_right _ h3
  have st : ∃ d, (d = D ∨ d = 0) ∧ FT w' U' (dzU (fun _ => D) z d) nd' := by
    rcases e9 with ⟨g1, g2⟩ | ⟨g1, g2, g3⟩
    · refine ⟨D, Or.inl rfl, FT_dz e2 fun i hi _ => ?_⟩
      have : dzU (fun _ => D) z D = fun _ => D := dzU_same (Dz := fun _ => D)
      rw [this]
      exact (e5.2 i (by omega)).2.symm
    · refine ⟨0, Or.inr rfl, FT_dz e2 fun i hi _ => ?_⟩
      by_cases g : i = z
      · rw [g, g2, g3]; exact if_pos rfl
      · have : dzU (fun _ => D) z 0 i = D := if_neg g
        rw [this]
        exact (e5.2 i (by omega)).2.symm
  obtain ⟨d, hd, hFd⟩ := st
  obtain ⟨w2, ex2, n2, sl2, U2, nd2, r1, r2, r3, r4, r5, r6⟩ := c_bindL (P := P) (S0 := S0) (e := e) (ib := ib) (z := z) hk h1 h3 D 0 w' ex' n' sl' U' d nd' (by omega) hd ⟨hFd, e3, e4⟩ e7 (Nat.lt_of_lt_of_le hib e5.1) (by rw [e8, enb]) (by rw [enb]; exact hq) (by rw [enb]; omega)
  rw [enb] at r6
  refine ⟨z, w2, ex2, n2, sl2, U2, nd2, ?_, r2, ⟨Nat.le_trans e5.1 r3, fun i hi => ⟨(r4 i (Nat.lt_of_lt_of_le hi e5.1)).trans (e5.2 i hi).1, rfl⟩⟩, e6.tr r5, Nat.lt_of_lt_of_le e7 r3, (r4 z e7).trans e8, by omega⟩
  rw [E_X2_makeBinder, z_1, ob, E_X2_makeBinder_0, e1, ob]
  exact r1
/-! cutting -/
theorem topI_none {H : Nat → Int32} {b : Int32} {c : Nat} (h : ∀ i, i < c → H i ≠ b) : topI H b c = -1 := by
  rcases topI_cases H b c with ⟨h1, -⟩ | ⟨j, h1, h2, h3, h4⟩
  · exact h1
  · exact absurd h3 (h j h1)
theorem topI_is {H : Nat → Int32} {b : Int32} {c j : Nat} (hj : j < c) (hb : H j = b) (h : ∀ i, j < i → i < c → H i ≠ b) : topI H b c = mI j := by
  rcases topI_cases H b c with ⟨h1, h2⟩ | ⟨j', h1, h2, h3, h4⟩
  · exact absurd hb (h2 j hj)
  · rcases Nat.lt_trichotomy j j' with g | g | g
    · exact absurd h3 (h j' g h1)
    · rw [g]; exact h2
    · exact absurd hb (h4 j g hj)
theorem cut_in {w : sW} {ex : Nat → Option sC} {n sl U c b : Nat} {Dz : Nat → Nat} {nd : Nat → List Nat} (hF : FT w U Dz nd) (hN : ∀ i, i < U → w.2.2.1 6 i = topI (Hs w) (Hs w i) i) (hc : c ≤ U) : ∀ m v4, c ≤ m → m ≤ U → v4 + m ≤ U → R_X2_cut_32 (P.2.1 + 1) (mI c) (mI b) (topI (Hs w) (mI b) m) (mI v4) (hp P w ex n sl) = R_X2_cut_67 (P.2.1 + 1) (mI c) (mI b) (topI (Hs w) (mI b) c) (hp P w ex n sl) := by
  have hU : U ≤ 2 ^ 17 := Nat.le_trans hF.2.1 hF.2.2.1
  intro m
  induction m using Nat.strongRecOn with
  | _ m ih =>
    intro v4 hcm hm hv
    rcases topI_cases (Hs w) (mI b) m with ⟨t1, t2⟩ | ⟨j, t1, t2, t3, t4⟩
    · rw [topI_none (c := c) fun i hi => t2 i (by omega), E_X2_cut_32, q_1_0, ob, hF.1, t1]
      by_cases g : mI U ≤ mI v4
      · rw [if_pos g]
      · rw [if_neg g, if_pos (by rw [Int32.lt_iff_toInt_lt, mI_int (by omega)]; show (-1 : Int) < _; omega)]
    · by_cases g : j < c
      · rw [topI_is (c := c) g t3 fun i h1 h2 => t4 i h1 (by omega), E_X2_cut_32, q_1_0, ob, hF.1, t2]
        by_cases g2 : mI U ≤ mI v4
        · rw [if_pos g2]
        · rw [if_neg g2, if_pos (by rw [nlt (by omega) (by omega)]; exact g)]
      · rw [← ih j t1 (v4 + 1) (by omega) (by omega) (by omega), E_X2_cut_32, q_1_0, ob, hF.1, t2, if_neg (by rw [nle (by omega) (by omega)]; omega), if_neg (by rw [nlt (by omega) (by omega)]; exact g), ob, if_neg (by rw [nle (by omega) (by omega)]; omega), q_1_5, ob, hp_rf (i := 4) (by decide) (by have := hF.2.1; omega) hF.2.2.1, ob, naddL]
        have e6 : w.2.2.1 (4 + 2) j = topI (Hs w) (mI b) j := by rw [← t3]; exact hN j (by omega)
        rw [e6]
theorem c_cut {w : sW} {ex : Nat → Option sC} {n sl U c : Nat} {nd : Nat → List Nat} (hS : FS P S0 e w n sl U (fun _ => D) nd) (hc : c ≤ U) (hq : ∀ i, i < c → ∀ r, (nd i = 16 :: r ∨ nd i = 17 :: r) → ∀ t, t < D → ∃ q, q < c ∧ nd q = r.map (ins (some t))) : ∃ w', F_X2_cut (P.2.1 + 1) (mI c) (hp P w ex n sl) = some ((), hp P w' ex n sl) ∧ FS P S0 e w' n sl c (fun _ => D) nd ∧ Fr [8] [100] w w' := by
  obtain ⟨hF, hB, hA⟩ := hS
  have hU : U ≤ 2 ^ 17 := Nat.le_trans hF.2.1 hF.2.2.1
  by_cases g : c = U
  · subst g
    refine ⟨w, ?_, ⟨hF, hB, hA⟩, Fr.rf⟩
    rw [E_X2_cut, z_1, ob, E_X2_cut_0, if_neg (mI_0 (by omega)), q_1_0, ob, hF.1, if_neg (by rw [nlt (by omega) (by omega)]; omega)]
  · have key := loopN (A := sW) (run := fun b u => R_X2_cut_15 (P.2.1 + 1) (mI c) (mI b) (hp P u ex n sl)) (N := 128)
      (fun b u => Fr [8] [] w u ∧ (∀ b', b' < b → u.2.2.1 8 b' = topI (Hs w) (mI b') c) ∧ ∀ b', b ≤ b' → b' < 128 → u.2.2.1 8 b' = topI (Hs w) (mI b') U)
      (Q := fun r => ∃ u, r = ((), hp P (wI u 1 0 (mI c)) ex n sl) ∧ Fr [8] [] w u ∧ ∀ b', b' < 128 → u.2.2.1 8 b' = topI (Hs w) (mI b') c)
      (fun b u hb ⟨i1, i2, i3⟩ => by
        have uF : FT u U (fun _ => D) nd := by
          unfold FT PL
          rw [i1.a (k := 2) (by decide), i1.a (k := 3) (by decide), i1.a (k := 4) (by decide), i1.a (k := 5) (by decide), i1.a (k := 7) (by decide), i1.r, i1.i (k := 1) (j := 0) (by simp)]
          exact hF
        have uH : Hs u = Hs w := by funext i; unfold Hs; rw [i1.a (k := 2) (by decide), i1.a (k := 3) (by decide), i1.a (k := 4) (by decide)]
        refine Or.inl ⟨wA u 8 b (topI (Hs w) (mI b) c), ⟨i1.pA (by decide), fun b' hb' => ?_, fun b' h1 h2 => ?_⟩, ?_⟩
        · show up2 u.2.2.1 8 b _ 8 b' = _
          by_cases eb : b' = b
          · subst eb; rw [up2_s]
          · rw [up2_j eb]; exact i2 b' (by omega)
        · show up2 u.2.2.1 8 b _ 8 b' = _
          rw [up2_j (by omega)]; exact i3 b' (by omega) h2
        · have ci := cut_in (P := P) (ex := ex) (n := n) (sl := sl) (b := b) uF (fun i hi => by rw [uH, i1.a (k := 6) (by decide)]; exact hB.2 i hi) hc U 0 hc (Nat.le_refl _) (by omega)
          rw [uH] at ci
          rw [E_X2_cut_15, if_neg (by rw [nleR (by omega) (by decide)]; exact Nat.not_le.mpr hb), q_1_7, ob, ra_8 hb, ob, i3 b (Nat.le_refl _) hb]
          refine Eq.trans ci ?_
          rw [E_X2_cut_67, q_1_7, ob, wa_8 hb, ob, naddL])
      (fun u ⟨i1, i2, i3⟩ => by
        refine ⟨_, ?_, u, rfl, i1, i2⟩
        rw [E_X2_cut_15, if_pos (by decide), p_1_0, ob]) 0 w (by omega) ⟨Fr.rf, fun b h => absurd h (by omega), fun b _ h => hB.1 b h⟩
    obtain ⟨r, k1, u, k2, k3, k4⟩ := key
    refine ⟨wI u 1 0 (mI c), ?_, ⟨⟨by show up2 u.1 1 0 (mI c) 1 0 = _; rw [up2_s], ?_, ?_, fun i hi => ?_, fun i j hi hj => hF.2.2.2.2 i j (by omega) (by omega)⟩, ⟨fun b hb => ?_, fun i hi => ?_⟩, ?_⟩, ?_⟩
    · rw [E_X2_cut, z_1, ob, E_X2_cut_0, if_neg (mI_0 (by omega)), q_1_0, ob, hF.1, if_pos (by rw [nlt (by omega) (by omega)]; omega), ← k2]
      exact k1
    · show c ≤ u.2.2.2.2.1
      rw [k3.r]; have := hF.2.1; omega
    · show u.2.2.2.2.1 ≤ _
      rw [k3.r]; exact hF.2.2.1
    · obtain ⟨⟨k', hk7, hk', hs⟩, h1, h2, h3⟩ := hF.2.2.2.1 i (by omega)
      show (∃ k, k < 7 ∧ u.2.2.1 2 i = mI k ∧ SH i nd k (u.2.2.1 3 i) (u.2.2.1 4 i) (nd i)) ∧ u.2.2.1 5 i = _ ∧ _ ∧ ((u.2.2.1 2 i = mI 5 ∨ u.2.2.1 2 i = mI 6) → ∀ a, a < i → u.2.2.1 3 i = mI a → ∀ t, t < 3 → (t < D → ∃ q, q < c ∧ u.2.2.1 7 (i * 3 + t) = mI q ∧ nd q = (nd a).map (ins (some t))) ∧ (¬ t < D → u.2.2.1 7 (i * 3 + t) = -1))
      rw [k3.a (k := 2) (by decide), k3.a (k := 3) (by decide), k3.a (k := 4) (by decide), k3.a (k := 5) (by decide), k3.a (k := 7) (by decide)]
      refine ⟨⟨k', hk7, hk', hs⟩, h1, h2, fun hb a ha ea t ht => ⟨fun z => ?_, fun z => (h3 hb a ha ea t ht).2 z⟩⟩
      obtain ⟨q, q1, q2, q3⟩ := (h3 hb a ha ea t ht).1 z
      have enl : nd i = 16 :: nd a ∨ nd i = 17 :: nd a := by
        rcases hs with ⟨hk0, -⟩ | ⟨hk0, -⟩ | ⟨hk0, -⟩ | ⟨hk0, a', e1, e2, e3, e4⟩
        · exfalso; rcases hb with hb | hb <;> have := (mI_inj (by omega) (by decide)).mp (hk'.symm.trans hb) <;> omega
        · exfalso; rcases hb with hb | hb <;> have := (mI_inj (by omega) (by decide)).mp (hk'.symm.trans hb) <;> omega
        · exfalso; rcases hb with hb | hb <;> have := (mI_inj (by omega) (by decide)).mp (hk'.symm.trans hb) <;> omega
        · have : a = a' := (mI_inj (by omega) (by omega)).mp (ea.symm.trans e2)
          subst this
          rcases hk0 with rfl | rfl
          · exact Or.inl e4
          · exact Or.inr e4
      obtain ⟨q', p1, p2⟩ := hq i hi (nd a) enl t z
      have : q = q' := hF.2.2.2.2 q q' q1 (by omega) (by rw [q3, p2])
      exact ⟨q, by omega, q2, q3⟩
    · have uH : Hs (wI u 1 0 (mI c)) = Hs w := by
        funext i
        show hsh (u.2.2.1 2 i) (u.2.2.1 3 i) (u.2.2.1 4 i) = _
        rw [k3.a (k := 2) (by decide), k3.a (k := 3) (by decide), k3.a (k := 4) (by decide)]
        rfl
      rw [uH]
      exact k4 b hb
    · have uH : Hs (wI u 1 0 (mI c)) = Hs w := by
        funext i
        show hsh (u.2.2.1 2 i) (u.2.2.1 3 i) (u.2.2.1 4 i) = _
        rw [k3.a (k := 2) (by decide), k3.a (k := 3) (by decide), k3.a (k := 4) (by decide)]
        rfl
      rw [uH]
      show u.2.2.1 6 i = _
      rw [k3.a (k := 6) (by decide)]
      exact hB.2 i (by omega)
    · obtain ⟨j, a1, a2, a3, a4⟩ := hA
      refine ⟨j, ?_, a2, a3, ?_⟩
      · show u.2.2.2.2.1 = _
        rw [k3.r]; exact a1
      · have : w_fa P (wI u 1 0 (mI c)) = w_fa P w := by
          have e9 : (wI u 1 0 (mI c)).2.2.2.2.2 = w.2.2.2.2.2 := by show u.2.2.2.2.2 = _; rw [k3.r]
          unfold w_fa
          rw [e9]
        rw [this]; exact a4
    · exact (k3.mo (B' := [100]) (fun _ h => h) (fun _ h => absurd h (by simp))).pI (by decide)
end BND
