/-! pairs of calls: proofs in other houses -/
theorem rs_m1 {a : Nat} (ha : a ≤ 268435456) : (rsO a = -1) = (a = 268435456) := by
  unfold rsO
  by_cases g : a < 268435456
  · rw [if_pos g]; exact propext ⟨fun z => absurd z (mI_m1 (by omega)), fun z => by omega⟩
  · rw [if_neg g]; exact propext ⟨fun _ => by omega, fun _ => rfl⟩
theorem rs_lt {a : Nat} (ha : a < 268435456) : rsO a = mI a := if_pos ha
theorem rs_neg {a : Nat} (ha : a ≤ 268435456) : ((0 : Int32) ≤ rsO a) = (a < 268435456) := by
  by_cases g : a < 268435456
  · rw [rs_lt g]; exact propext ⟨fun _ => g, fun _ => (mI_le (a := 0) (b := a) (by decide) (by omega)).mpr (Nat.zero_le _)⟩
  · rw [show rsO a = -1 from if_neg g]; exact propext ⟨fun z => absurd z (by decide), fun z => absurd z g⟩
theorem rs_neg2 {a : Nat} (ha : a ≤ 268435456) : (rsO a < 0) = ¬ (a < 268435456) := by
  by_cases g : a < 268435456
  · rw [rs_lt g]; exact propext ⟨fun z => absurd z (mI_0 (by omega)), fun z => absurd g z⟩
  · rw [show rsO a = -1 from if_neg g]; exact propext ⟨fun _ => g, fun _ => by decide⟩
section PPG
variable {P : sP} {S0 e : Nat} {w w1 u u' v : sW} {ex : Nat → Option sC} {n sl D F L R U f cu h : Nat} {y : sLn} {φ : Nat → List Nat} {nf ν : Nat → Nat} {ρ : sRc} {nd : Nat → List Nat} {told : Int32} {Z : List zT}
theorem vv_far : VV w D F φ told f h ≤ 268435456 := mu_far
/-- the class's costs in any house, in any state that a question about proofs left -/
theorem cq_costs (hI : IVa P S0 e w n sl D F L R U y φ nf ρ nd) (hf : f < F) (a2 : Fr [39, 40, 41, 42, 43, 44] lkB w w1) (a3 : PE w1 D F L U y φ nd nf (LA D F φ told f) ν told Z) (hv : Fr [41, 44] [3812] w1 v) {t : Nat} (ht : t < 3) : ∃ v', F_X4_costIn (P.2.1 + 38) (mI t) (hp P v ex n sl) = some (rsO (VV w D F φ told f t), hp P v' ex n sl) ∧ Fr [41, 44] [3812] w1 v' := by
  have hS := (LA_0 (F := F) (told := told) (f := f) hI.b.2.1 (phi_ok hI f hf)).1
  obtain ⟨v', b1, b2', -⟩ := c_costIn (P := P) (ex := ex) (n := n) (sl := sl) (a3.fr hv) (((hq_c hI ht).fr a2 (by decide) (by decide)).fr hv (by decide) (by decide)) hS (x := mI t) rfl
  exact ⟨v', b1, hv.tr b2'⟩
/-- the least in the other houses -/
noncomputable def gHo (w : sW) (D F : Nat) (φ : Nat → List Nat) (told : Int32) (f h t : Nat) : Nat := if t = h then 268435456 else VV w D F φ told f t
theorem gHo_far {t : Nat} : gHo w D F φ told f h t ≤ 268435456 := by
  unfold gHo
  by_cases g : t = h
  · rw [if_pos g]; exact Nat.le_refl _
  · rw [if_neg g]; exact vv_far
noncomputable def rsV (w : sW) (D F : Nat) (φ : Nat → List Nat) (told : Int32) (f h : Nat) : Int32 := @ite _ (HH w h 15 ∧ mnO (gHo w D F φ told f h) 3 < 268435456) (Classical.propDecidable _) (mI (mnO (gHo w D F φ told f h) 3 + (QQ w h 15 + (φ f).length * QQ w h 16))) (-1)
theorem c_resold (hI : IVa P S0 e w n sl D F L R U y φ nf ρ nd) (hf : f < F) (hh : h < 3) (a2 : Fr [39, 40, 41, 42, 43, 44] lkB w w1) (a3 : PE w1 D F L U y φ nd nf (LA D F φ told f) ν told Z) (hv : Fr [41, 44] [3812] w1 v) : ∃ v', F_X4_costResold (P.2.1 + 38) (mI h) (hp P v ex n sl) = some (rsV w D F φ told f h, hp P v' ex n sl) ∧ Fr [41, 44] [3812] w1 v' := by
  obtain ⟨hS, h0⟩ := (LA_0 (F := F) (told := told) (f := f) hI.b.2.1 (phi_ok hI f hf))
  have hqv : HQ v h (HH w h) (QQ w h) := ((hq_c hI hh).fr a2 (by decide) (by decide)).fr hv (by decide) (by decide)
  have pv := a3.fr hv
  have h40 := pv.2.1.2.1.2.1.1
  rw [E_X4_costResold, z_38, ob, E_X4_costResold_0, q_38_1, ob, c_hasRule (r := 15) (v := 15) rfl rfl hh, ob]
  try dsimp only
  by_cases g15 : HH w h 15
  · rw [if_neg (fun z => b2_0.mp z ((hqv.2.1 15).mpr g15)), q_38_8, ob, pv.2.1.2.1.1, if_neg (show ¬ mI (LA D F φ told f).length = 0 from neqN (m := 0) (by omega) (by decide) (by omega))]
    have key : ∀ m, m ≤ 3 → ∃ v', R_X4_costResold_26 (P.2.1 + 38) (mI h) (-1) 0 (hp P v ex n sl) = R_X4_costResold_26 (P.2.1 + 38) (mI h) (rsO (mnO (gHo w D F φ told f h) m)) (mI m) (hp P v' ex n sl) ∧ Fr [41, 44] [3812] w1 v' := by
      intro m
      induction m with
      | zero => intro _; exact ⟨v, rfl, hv⟩
      | succ m ih =>
        intro hm
        obtain ⟨v1, b1, b2'⟩ := ih (by omega)
        have mle := (mnO_le (g := gHo w D F φ told f h) m).1
        have gle := gHo_far (w := w) (D := D) (F := F) (φ := φ) (told := told) (f := f) (h := h) (t := m)
        have s45 : ∀ v2, R_X4_costResold_45 (P.2.1 + 38) (mI h) (rsO (mnO (gHo w D F φ told f h) m)) (mI m) (rsO (gHo w D F φ told f h m)) (hp P v2 ex n sl) = R_X4_costResold_26 (P.2.1 + 38) (mI h) (rsO (mnO (gHo w D F φ told f h) (m + 1))) (mI (m + 1)) (hp P v2 ex n sl) := by
          intro v2
          have em : mnO (gHo w D F φ told f h) (m + 1) = if gHo w D F φ told f h m < mnO (gHo w D F φ told f h) m then gHo w D F φ told f h m else mnO (gHo w D F φ told f h) m := rfl
          rw [E_X4_costResold_45, em]
          by_cases g1 : gHo w D F φ told f h m = 268435456
          · rw [if_pos (by rw [rs_m1 gle]; exact g1), E_X4_costResold_67, mI_s, if_neg (by omega)]
          · rw [if_neg (by rw [rs_m1 gle]; exact g1)]
            by_cases g2 : mnO (gHo w D F φ told f h) m = 268435456
            · rw [if_pos (by rw [rs_m1 mle]; exact g2), E_X4_costResold_64, E_X4_costResold_67, mI_s, if_pos (by omega)]
            · rw [if_neg (by rw [rs_m1 mle]; exact g2)]
              by_cases g3 : mnO (gHo w D F φ told f h) m ≤ gHo w D F φ told f h m
              · rw [if_pos (by rw [rs_lt (by omega), rs_lt (by omega), nle (by omega) (by omega)]; exact g3), E_X4_costResold_67, mI_s, if_neg (by omega)]
              · rw [if_neg (by rw [rs_lt (by omega), rs_lt (by omega), nle (by omega) (by omega)]; exact g3), E_X4_costResold_64, E_X4_costResold_67, mI_s, if_pos (by omega)]
        by_cases gh : m = h
        · refine ⟨v1, ?_, b2'⟩
          have eg : (-1 : Int32) = rsO (gHo w D F φ told f h m) := by
            unfold gHo
            rw [if_pos gh]
            rfl
          rw [b1, E_X4_costResold_26, if_neg (show ¬ (3 : Int32) ≤ mI m by rw [nleR (by omega) (by decide)]; exact Nat.not_le.mpr (by omega)), if_pos (by rw [gh]), eg]
          exact s45 v1
        · obtain ⟨v2, c1, c2⟩ := cq_costs (P := P) (ex := ex) (n := n) (sl := sl) hI hf a2 a3 b2' (t := m) (by omega)
          refine ⟨v2, ?_, c2⟩
          have eg : VV w D F φ told f m = gHo w D F φ told f h m := by
            unfold gHo
            rw [if_neg gh]
          rw [b1, E_X4_costResold_26, if_neg (show ¬ (3 : Int32) ≤ mI m by rw [nleR (by omega) (by decide)]; exact Nat.not_le.mpr (by omega)), if_neg (neqN (by omega) (by omega) gh), c1, ob, eg]
          exact s45 v2
    obtain ⟨v', b1, b2'⟩ := key 3 (Nat.le_refl _)
    have mle := (mnO_le (g := gHo w D F φ told f h) 3).1
    have qv' : HQ v' h (HH w h) (QQ w h) := ((hq_c hI hh).fr a2 (by decide) (by decide)).fr b2' (by decide) (by decide)
    have pv' := a3.fr b2'
    refine ⟨v', ?_, b2'⟩
    rw [b1, E_X4_costResold_26, if_pos (show (3 : Int32) ≤ mI 3 by decide)]
    unfold rsV
    by_cases g : mnO (gHo w D F φ told f h) 3 < 268435456
    · have e40 : v'.2.2.1 40 0 = mI (φ f).length := by rw [(pv'.2.1.2.1.2.2 0 hS).2.2.2, h0]
      rw [if_neg (by rw [rs_m1 mle]; omega), if_pos ⟨g15, g⟩, q_38_1, ob, q_38_3, ob, show s_ai (hp P v' ex n sl) (P.2.1 + 40) 0 = some (v'.2.2.1 40 0) from ra_40 (i := 0) (by decide), ob, e40, c_costOfB (r := 15) (v := 15) rfl rfl hh (by decide), ob, (qv'.2.2.1 15 (by decide)).2, (qv'.2.2.1 16 (by decide)).2]
      try dsimp only
      rw [rs_lt g, mI_mul, mI_add, mI_add]
    · rw [if_pos (by rw [rs_m1 mle]; omega), if_neg (fun z => g z.2)]
  · rw [if_pos (b2_0.mpr (fun z => g15 ((hqv.2.1 15).mp z)))]
    refine ⟨v, ?_, hv⟩
    unfold rsV
    rw [if_neg (fun z => g15 z.1)]
theorem m_resold (hI : IVa P S0 e w n sl D F L R U y φ nf ρ nd) (hu : IVa P S0 e u n sl D F L R U y φ nf ρ nd) (h47 : u.2.2.1 47 = w.2.2.1 47) (hh : h < 3) (hcu : cu < 4) (hf : f < F) : ∃ u', F_X8_resoldBy (P.2.1 + 46) (mI h) (mI cu) (mI f) (hp P u ex n sl) = some (rsV w D F φ (w.2.2.1 12 cu) f h, hp P u' ex n sl) ∧ FV u u' ∧ u'.1 46 0 = u.1 46 0 := by
  have hF := hI.b.2.2.1
  have eH : bit (u.2.2.1 47 (4 + 18 * h)) 15 ↔ HH w h 15 := by rw [h47, ← hI.H.1 h hh]; exact Iff.rfl
  rw [E_X8_resoldBy, z_46, ob, E_X8_resoldBy_0, m_hasRule (r := 15) (v := 15) rfl rfl hh, ob]
  try dsimp only
  by_cases g15 : HH w h 15
  · rw [if_neg (fun z => b2_0.mp z (eH.mpr g15))]
    have key : ∀ m, m ≤ 3 → ∃ u', R_X8_resoldBy_20 (P.2.1 + 46) (mI h) (mI cu) (mI f) 268435456 0 (hp P u ex n sl) = R_X8_resoldBy_20 (P.2.1 + 46) (mI h) (mI cu) (mI f) (mI (mnO (gHo w D F φ (w.2.2.1 12 cu) f h) m)) (mI m) (hp P u' ex n sl) ∧ FV u u' ∧ u'.1 46 0 = u.1 46 0 := by
      intro m
      induction m with
      | zero => intro _; exact ⟨u, rfl, FV.rf, rfl⟩
      | succ m ih =>
        intro hm
        obtain ⟨u1, b1, b2', b3⟩ := ih (by omega)
        have mle := (mnO_le (g := gHo w D F φ (w.2.2.1 12 cu) f h) m).1
        have gle := gHo_far (w := w) (D := D) (F := F) (φ := φ) (told := w.2.2.1 12 cu) (f := f) (h := h) (t := m)
        have s44 : ∀ u2, R_X8_resoldBy_44 (P.2.1 + 46) (mI h) (mI cu) (mI f) (mI (mnO (gHo w D F φ (w.2.2.1 12 cu) f h) m)) (mI m) (rsO (gHo w D F φ (w.2.2.1 12 cu) f h m)) (hp P u2 ex n sl) = R_X8_resoldBy_20 (P.2.1 + 46) (mI h) (mI cu) (mI f) (mI (mnO (gHo w D F φ (w.2.2.1 12 cu) f h) (m + 1))) (mI (m + 1)) (hp P u2 ex n sl) := by
          intro u2
          have em : mnO (gHo w D F φ (w.2.2.1 12 cu) f h) (m + 1) = if gHo w D F φ (w.2.2.1 12 cu) f h m < mnO (gHo w D F φ (w.2.2.1 12 cu) f h) m then gHo w D F φ (w.2.2.1 12 cu) f h m else mnO (gHo w D F φ (w.2.2.1 12 cu) f h) m := rfl
          rw [E_X8_resoldBy_44, em]
          by_cases g1 : gHo w D F φ (w.2.2.1 12 cu) f h m < 268435456
          · rw [if_pos (by rw [rs_neg gle]; exact g1), rs_lt g1, ite_mI (by omega) (by omega), E_X8_resoldBy_63, mI_s]
          · rw [if_neg (by rw [rs_neg gle]; exact g1), E_X8_resoldBy_63, mI_s, if_neg (by omega)]
        by_cases gh : m = h
        · refine ⟨u1, ?_, b2', b3⟩
          have eg : (-1 : Int32) = rsO (gHo w D F φ (w.2.2.1 12 cu) f h m) := by
            unfold gHo
            rw [if_pos gh]
            rfl
          rw [b1, E_X8_resoldBy_20, if_neg (show ¬ (3 : Int32) ≤ mI m by rw [nleR (by omega) (by decide)]; exact Nat.not_le.mpr (by omega)), if_pos (by rw [gh]), eg]
          exact s44 u1
        · obtain ⟨u2, c1, c2, c3, -⟩ := mq_costs (P := P) (ex := ex) (n := n) (sl := sl) (u := u1) hI (hu.fv b2') ((b2'.1 47 (by decide)).1.trans h47) (h := m) (by omega) hcu hf (x1 := mI m) (x2 := mI cu) (x3 := mI f) rfl rfl rfl
          refine ⟨u2, ?_, b2'.tr c2, c3.trans b3⟩
          have eg : VV w D F φ (w.2.2.1 12 cu) f m = gHo w D F φ (w.2.2.1 12 cu) f h m := by
            unfold gHo
            rw [if_neg gh]
          rw [b1, E_X8_resoldBy_20, if_neg (show ¬ (3 : Int32) ≤ mI m by rw [nleR (by omega) (by decide)]; exact Nat.not_le.mpr (by omega)), if_neg (neqN (by omega) (by omega) gh), c1, ob, eg]
          exact s44 u2
    obtain ⟨u', b1, b2', b3⟩ := key 3 (Nat.le_refl _)
    have mle := (mnO_le (g := gHo w D F φ (w.2.2.1 12 cu) f h) 3).1
    refine ⟨u', ?_, b2', b3⟩
    rw [b1, E_X8_resoldBy_20, if_pos (show (3 : Int32) ≤ mI 3 by decide)]
    unfold rsV
    by_cases g : mnO (gHo w D F φ (w.2.2.1 12 cu) f h) 3 < 268435456
    · have e47 : u'.2.2.1 47 = w.2.2.1 47 := (b2'.1 47 (by decide)).1.trans h47
      rw [if_pos (by rw [nltL (by omega) (by decide)]; exact g), if_pos ⟨g15, g⟩, m_costOf (r := 15) (v := 15) (f := f) rfl rfl rfl hh (by decide) (by omega) ((hu.fv b2').M.2.2.2.2.2.2.2.2.2 f hf).1, ob, e47, (hq_q hI hh (r := 15) (by decide)).2.2.2, (hq_q hI hh (r := 16) (by decide)).2.2.2]
      try dsimp only
      rw [mI_mul, mI_add, mI_add]
    · rw [if_neg (by rw [nltL (by omega) (by decide)]; exact g), if_neg (fun z => g z.2)]
  · rw [if_pos (b2_0.mpr (fun z => g15 (eH.mp z)))]
    refine ⟨u, ?_, FV.rf, rfl⟩
    unfold rsV
    rw [if_neg (fun z => g15 z.1)]
end PPG
