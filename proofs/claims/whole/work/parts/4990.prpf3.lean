/-! pairs of calls: resold, forward, where -/
def wsO (V : Nat → Nat) : Nat → Option Nat × Nat
  | 0 => (none, 268435456)
  | t + 1 => if V t < (wsO V t).2 then (some t, V t) else wsO V t
theorem wsO_ok {V : Nat → Nat} : ∀ t, (wsO V t).2 ≤ 268435456 ∧ ((wsO V t).1 = none ↔ (wsO V t).2 = 268435456) ∧ ∀ i, (wsO V t).1 = some i → i < t := by
  intro t
  induction t with
  | zero => exact ⟨Nat.le_refl _, ⟨(fun _ => rfl), (fun _ => rfl)⟩, fun i hi => by cases hi⟩
  | succ t ih =>
    unfold wsO
    by_cases g : V t < (wsO V t).2
    · rw [if_pos g]
      refine ⟨by omega, ⟨(fun z => by cases z), (fun z => ?_)⟩, fun i hi => by cases hi; omega⟩
      have z' : V t = 268435456 := z
      omega
    · rw [if_neg g]
      exact ⟨ih.1, ih.2.1, fun i hi => by have := ih.2.2 i hi; omega⟩
section PPH
variable {P : sP} {S0 e : Nat} {w w1 u u' v : sW} {ex : Nat → Option sC} {n sl D F L R U f cu h : Nat} {y : sLn} {φ : Nat → List Nat} {nf ν : Nat → Nat} {ρ : sRc} {nd : Nat → List Nat} {told : Int32} {Z : List zT}
theorem pr_resold (hI : IVa P S0 e w n sl D F L R U y φ nf ρ nd) (v1 v2 v3 : Int32) : PI P S0 e w ex n sl (F_X7_resold P.2.1 v1 v2 v3) (F_X8_resold (P.2.1 + 46) v1 v2 v3) csX anyI := by
  have hb := hI.b
  by_cases g : inN v1 3 ∧ inN v2 4 ∧ inN v3 F
  · obtain ⟨h, hh, rfl⟩ := inN_to (by omega) g.1
    obtain ⟨cu, hcu, rfl⟩ := inN_to (by omega) g.2.1
    obtain ⟨f, hf, rfl⟩ := inN_to (by omega) g.2.2
    obtain ⟨w1, ν, Z, a1, a2, a3⟩ := c_ready (P := P) (ex := ex) (n := n) (sl := sl) hI hh hcu hf
    obtain ⟨w2, b1, b2'⟩ := c_resold (P := P) (ex := ex) (n := n) (sl := sl) hI hf hh a2 a3 Fr.rf
    refine PI.q (x := rsV w D F φ (w.2.2.1 12 cu) f h) trivial hI (w1 := w2) ?_ ((pf_fv a2).tr (b2'.fv (by decide) (by decide))) (fun u hu hfu => ?_)
    · rw [E_X7_resold, z_0, ob, E_X7_resold_0, a1, ob]
      try dsimp only
      rw [sumL, q_0_6, ob, b1, ob]
    · obtain ⟨u', m1, m2, m3⟩ := m_resold (P := P) (ex := ex) (n := n) (sl := sl) (u := wI u 46 0 0) hI (hu.fv FV.t0) hfu.a47 hh hcu hf
      refine ⟨u', ?_, FV.t0.tr m2, m3.trans wI_s⟩
      rw [E_X8_resold, z_46, ob, E_X8_resold_0, p_46_0, ob, m_noProof (hu.fv FV.t0).M, ob, b2_f (not_not_intro g)]
      try dsimp only
      rw [m_throwsIf0, ob]
      try dsimp only
      rw [if_pos rfl, m1, ob]
  · refine PI.x (E := eIX) (k := 1) (b := 0) hI (by decide) ?_ ?_ ((FV.t0 (v := 0)).tr (FV.t0 (v := 1))) wI_s
    · rw [E_X7_resold, z_0, ob, E_X7_resold_0, c_notReady hI g, ob]
      try dsimp only
      rw [sumR]
    · rw [E_X8_resold, z_46, ob, E_X8_resold_0, p_46_0, ob, m_noProof (hI.fv FV.t0).M, ob, b2_t g]
      try dsimp only
      rw [m_throwsIf1, ob]
      try dsimp only
      rw [if_neg (by decide)]
theorem rsV_m1 (hI : IVa P S0 e w n sl D F L R U y φ nf ρ nd) (hh : h < 3) (hf : f < F) : (rsV w D F φ told f h = -1 ∧ ¬ (0 : Int32) ≤ rsV w D F φ told f h) ∨ (¬ rsV w D F φ told f h = -1 ∧ (0 : Int32) ≤ rsV w D F φ told f h) := by
  unfold rsV
  by_cases g : HH w h 15 ∧ mnO (gHo w D F φ told f h) 3 < 268435456
  · rw [if_pos g]
    have b1 := (hq_q hI hh (r := 15) (by decide)).1
    have b2' := (hq_q hI hh (r := 16) (by decide)).1
    have b3 := (phi_ok hI f hf).2.1
    have b4 : (φ f).length * QQ w h 16 ≤ 40 * 99 := Nat.mul_le_mul b3 b2'
    exact Or.inr ⟨mI_m1 (by omega), (mI_le (a := 0) (by decide) (by omega)).mpr (Nat.zero_le _)⟩
  · rw [if_neg g]; exact Or.inl ⟨rfl, by decide⟩
theorem pr_forward (hI : IVa P S0 e w n sl D F L R U y φ nf ρ nd) (v1 v2 v3 : Int32) : PI P S0 e w ex n sl (F_X7_forward P.2.1 v1 v2 v3) (F_X8_forward (P.2.1 + 46) v1 v2 v3) csX anyI := by
  have hb := hI.b
  by_cases g : inN v1 3 ∧ inN v2 4 ∧ inN v3 F
  · obtain ⟨h, hh, rfl⟩ := inN_to (by omega) g.1
    obtain ⟨cu, hcu, rfl⟩ := inN_to (by omega) g.2.1
    obtain ⟨f, hf, rfl⟩ := inN_to (by omega) g.2.2
    obtain ⟨w1, ν, Z, a1, a2, a3⟩ := c_ready (P := P) (ex := ex) (n := n) (sl := sl) hI hh hcu hf
    obtain ⟨w2, b1, b2'⟩ := cq_costs (P := P) (ex := ex) (n := n) (sl := sl) hI hf a2 a3 Fr.rf hh
    obtain ⟨w3, c1, c2⟩ := c_resold (P := P) (ex := ex) (n := n) (sl := sl) hI hf hh a2 a3 b2'
    have vf := vv_far (w := w) (D := D) (F := F) (φ := φ) (told := w.2.2.1 12 cu) (f := f) (h := h)
    have cst : F_X7_forward P.2.1 (mI h) (mI cu) (mI f) (hp P w ex n sl) = (if rsO (VV w D F φ (w.2.2.1 12 cu) f h) = (-1) then (some (.inl (-1), hp P w2 ex n sl)) else (if rsV w D F φ (w.2.2.1 12 cu) f h = (-1) then (some (.inl 0, hp P w3 ex n sl)) else (some (.inl (if 0 < (rsO (VV w D F φ (w.2.2.1 12 cu) f h) - rsV w D F φ (w.2.2.1 12 cu) f h) then (rsO (VV w D F φ (w.2.2.1 12 cu) f h) - rsV w D F φ (w.2.2.1 12 cu) f h) else 0), hp P w3 ex n sl)))) := by
      rw [E_X7_forward, z_0, ob, E_X7_forward_0, a1, ob]
      try dsimp only
      rw [sumL, q_0_6, ob, b1, ob]
      try dsimp only
      rw [q_0_6, ob, c1, ob]
    have mst : ∀ u, IVa P S0 e u n sl D F L R U y φ nf ρ nd → FVo w u → ∃ u', F_X8_forward (P.2.1 + 46) (mI h) (mI cu) (mI f) (hp P u ex n sl) = (if (0 : Int32) ≤ rsO (VV w D F φ (w.2.2.1 12 cu) f h) then (if (0 : Int32) ≤ rsV w D F φ (w.2.2.1 12 cu) f h then (some ((if 0 < (rsO (VV w D F φ (w.2.2.1 12 cu) f h) - rsV w D F φ (w.2.2.1 12 cu) f h) then (rsO (VV w D F φ (w.2.2.1 12 cu) f h) - rsV w D F φ (w.2.2.1 12 cu) f h) else 0), hp P u' ex n sl)) else (some (0, hp P u' ex n sl))) else (some ((-1), hp P u' ex n sl))) ∧ FV u u' ∧ u'.1 46 0 = 0 := by
      intro u hu hfu
      obtain ⟨u1, m1, m2, m3, -⟩ := mq_costs (P := P) (ex := ex) (n := n) (sl := sl) (u := wI u 46 0 0) hI (hu.fv FV.t0) hfu.a47 hh hcu hf (x1 := mI h) (x2 := mI cu) (x3 := mI f) rfl rfl rfl
      obtain ⟨u2, k1, k2, k3⟩ := m_resold (P := P) (ex := ex) (n := n) (sl := sl) (u := u1) hI ((hu.fv FV.t0).fv m2) ((m2.1 47 (by decide)).1.trans hfu.a47) hh hcu hf
      refine ⟨u2, ?_, FV.t0.tr (m2.tr k2), k3.trans (m3.trans wI_s)⟩
      rw [E_X8_forward, z_46, ob, E_X8_forward_0, p_46_0, ob, m_noProof (hu.fv FV.t0).M, ob, b2_f (not_not_intro g)]
      try dsimp only
      rw [m_throwsIf0, ob]
      try dsimp only
      rw [if_pos rfl, m1, ob]
      try dsimp only
      rw [k1, ob]
    have f2 : FV w w2 := (pf_fv a2).tr (b2'.fv (by decide) (by decide))
    have f3 : FV w w3 := (pf_fv a2).tr (c2.fv (by decide) (by decide))
    by_cases gv : VV w D F φ (w.2.2.1 12 cu) f h < 268435456
    · have n1 : ¬ rsO (VV w D F φ (w.2.2.1 12 cu) f h) = -1 := by rw [rs_m1 vf]; omega
      have p1 : (0 : Int32) ≤ rsO (VV w D F φ (w.2.2.1 12 cu) f h) := by rw [rs_neg vf]; exact gv
      rcases rsV_m1 (told := w.2.2.1 12 cu) hI hh hf with ⟨z1, z2⟩ | ⟨z1, z2⟩
      · refine PI.q (x := 0) trivial hI (w1 := w3) (by rw [cst, if_neg n1, if_pos z1]) f3 (fun u hu hfu => ?_)
        obtain ⟨u', m1, m2, m3⟩ := mst u hu hfu
        exact ⟨u', by rw [m1, if_pos p1, if_neg z2], m2, m3⟩
      · refine PI.q trivial hI (w1 := w3) (by rw [cst, if_neg n1, if_neg z1]) f3 (fun u hu hfu => ?_)
        obtain ⟨u', m1, m2, m3⟩ := mst u hu hfu
        exact ⟨u', by rw [m1, if_pos p1, if_pos z2], m2, m3⟩
    · refine PI.q (x := -1) trivial hI (w1 := w2) (by rw [cst, if_pos (by rw [rs_m1 vf]; omega)]) f2 (fun u hu hfu => ?_)
      obtain ⟨u', m1, m2, m3⟩ := mst u hu hfu
      exact ⟨u', by rw [m1, if_neg (by rw [rs_neg vf]; exact gv)], m2, m3⟩
  · refine PI.x (E := eIX) (k := 1) (b := 0) hI (by decide) ?_ ?_ ((FV.t0 (v := 0)).tr (FV.t0 (v := 1))) wI_s
    · rw [E_X7_forward, z_0, ob, E_X7_forward_0, c_notReady hI g, ob]
      try dsimp only
      rw [sumR]
    · rw [E_X8_forward, z_46, ob, E_X8_forward_0, p_46_0, ob, m_noProof (hI.fv FV.t0).M, ob, b2_t g]
      try dsimp only
      rw [m_throwsIf1, ob]
      try dsimp only
      rw [if_neg (by decide)]
theorem c_where (hI : IVa P S0 e w n sl D F L R U y φ nf ρ nd) (hf : f < F) (a2 : Fr [39, 40, 41, 42, 43, 44] lkB w w1) (a3 : PE w1 D F L U y φ nd nf (LA D F φ told f) ν told Z) : ∃ v', F_X4_cheapestHouse (P.2.1 + 38) (hp P w1 ex n sl) = some (thOf (wsO (VV w D F φ told f) 3).1, hp P v' ex n sl) ∧ Fr [41, 44] [3812] w1 v' := by
  rw [E_X4_cheapestHouse, z_38, ob, E_X4_cheapestHouse_0]
  have key : ∀ m, m ≤ 3 → ∃ v', R_X4_cheapestHouse_6 (P.2.1 + 38) (-1) (-1) 0 (hp P w1 ex n sl) = R_X4_cheapestHouse_6 (P.2.1 + 38) (thOf (wsO (VV w D F φ told f) m).1) (rsO (wsO (VV w D F φ told f) m).2) (mI m) (hp P v' ex n sl) ∧ Fr [41, 44] [3812] w1 v' := by
    intro m
    induction m with
    | zero => intro _; exact ⟨w1, rfl, Fr.rf⟩
    | succ m ih =>
      intro hm
      obtain ⟨v1, b1, b2'⟩ := ih (by omega)
      obtain ⟨v2, c1, c2⟩ := cq_costs (P := P) (ex := ex) (n := n) (sl := sl) hI hf a2 a3 b2' (t := m) (by omega)
      refine ⟨v2, ?_, c2⟩
      have wle := (wsO_ok (V := VV w D F φ told f) m).1
      have gle := vv_far (w := w) (D := D) (F := F) (φ := φ) (told := told) (f := f) (h := m)
      have em : wsO (VV w D F φ told f) (m + 1) = if VV w D F φ told f m < (wsO (VV w D F φ told f) m).2 then (some m, VV w D F φ told f m) else wsO (VV w D F φ told f) m := rfl
      rw [b1, E_X4_cheapestHouse_6, if_neg (show ¬ (3 : Int32) ≤ mI m by rw [nleR (by omega) (by decide)]; exact Nat.not_le.mpr (by omega)), c1, ob, em]
      try dsimp only
      by_cases g1 : VV w D F φ told f m = 268435456
      · rw [if_pos (by rw [rs_m1 gle]; exact g1), E_X4_cheapestHouse_40, mI_s, if_neg (by omega)]
      · rw [if_neg (by rw [rs_m1 gle]; exact g1)]
        by_cases g2 : (wsO (VV w D F φ told f) m).2 = 268435456
        · rw [if_pos (by rw [rs_m1 wle]; exact g2), E_X4_cheapestHouse_35, E_X4_cheapestHouse_40, mI_s, if_pos (by omega)]
          rfl
        · rw [if_neg (by rw [rs_m1 wle]; exact g2)]
          by_cases g3 : (wsO (VV w D F φ told f) m).2 ≤ VV w D F φ told f m
          · rw [if_pos (by rw [rs_lt (by omega), rs_lt (by omega), nle (by omega) (by omega)]; exact g3), E_X4_cheapestHouse_40, mI_s, if_neg (by omega)]
          · rw [if_neg (by rw [rs_lt (by omega), rs_lt (by omega), nle (by omega) (by omega)]; exact g3), E_X4_cheapestHouse_35, E_X4_cheapestHouse_40, mI_s, if_pos (by omega)]
            rfl
  obtain ⟨v', b1, b2'⟩ := key 3 (Nat.le_refl _)
  refine ⟨v', ?_, b2'⟩
  rw [b1, E_X4_cheapestHouse_6, if_pos (show (3 : Int32) ≤ mI 3 by decide)]
theorem m_where (hI : IVa P S0 e w n sl D F L R U y φ nf ρ nd) (hu : IVa P S0 e u n sl D F L R U y φ nf ρ nd) (h47 : u.2.2.1 47 = w.2.2.1 47) (hcu : cu < 4) (hf : f < F) : ∃ u', R_X8_where_43 (P.2.1 + 46) (mI cu) (mI f) (-1) 0 0 (hp P u ex n sl) = some (thOf (wsO (VV w D F φ (w.2.2.1 12 cu) f) 3).1, hp P u' ex n sl) ∧ FV u u' ∧ u'.1 46 0 = u.1 46 0 := by
  have key : ∀ m, m ≤ 3 → ∃ u', R_X8_where_43 (P.2.1 + 46) (mI cu) (mI f) (-1) 0 0 (hp P u ex n sl) = R_X8_where_43 (P.2.1 + 46) (mI cu) (mI f) (thOf (wsO (VV w D F φ (w.2.2.1 12 cu) f) m).1) (if (wsO (VV w D F φ (w.2.2.1 12 cu) f) m).2 < 268435456 then mI (wsO (VV w D F φ (w.2.2.1 12 cu) f) m).2 else 0) (mI m) (hp P u' ex n sl) ∧ FV u u' ∧ u'.1 46 0 = u.1 46 0 := by
    intro m
    induction m with
    | zero => intro _; exact ⟨u, rfl, FV.rf, rfl⟩
    | succ m ih =>
      intro hm
      obtain ⟨u1, b1, b2', b3⟩ := ih (by omega)
      obtain ⟨u2, c1, c2, c3, -⟩ := mq_costs (P := P) (ex := ex) (n := n) (sl := sl) (u := u1) hI (hu.fv b2') ((b2'.1 47 (by decide)).1.trans h47) (h := m) (by omega) hcu hf (x1 := mI m) (x2 := mI cu) (x3 := mI f) rfl rfl rfl
      refine ⟨u2, ?_, b2'.tr c2, c3.trans b3⟩
      obtain ⟨wle, wn, wi⟩ := wsO_ok (V := VV w D F φ (w.2.2.1 12 cu) f) m
      have gle := vv_far (w := w) (D := D) (F := F) (φ := φ) (told := w.2.2.1 12 cu) (f := f) (h := m)
      have em : wsO (VV w D F φ (w.2.2.1 12 cu) f) (m + 1) = if VV w D F φ (w.2.2.1 12 cu) f m < (wsO (VV w D F φ (w.2.2.1 12 cu) f) m).2 then (some m, VV w D F φ (w.2.2.1 12 cu) f m) else wsO (VV w D F φ (w.2.2.1 12 cu) f) m := rfl
      rw [b1, E_X8_where_43, if_neg (show ¬ (3 : Int32) ≤ mI m by rw [nleR (by omega) (by decide)]; exact Nat.not_le.mpr (by omega)), c1, ob, em]
      try dsimp only
      by_cases g1 : VV w D F φ (w.2.2.1 12 cu) f m < 268435456
      · rw [if_neg (by rw [rs_neg2 gle]; exact not_not_intro g1), rs_lt g1]
        by_cases g2 : (wsO (VV w D F φ (w.2.2.1 12 cu) f) m).2 = 268435456
        · rw [wn.mpr g2, if_pos (show thOf none < 0 by decide), E_X8_where_78, E_X8_where_85, mI_s, if_pos (show VV w D F φ (w.2.2.1 12 cu) f m < (wsO (VV w D F φ (w.2.2.1 12 cu) f) m).2 by omega), if_pos g1]
          rfl
        · cases e1 : (wsO (VV w D F φ (w.2.2.1 12 cu) f) m).1 with
          | none => exact absurd (wn.mp e1) g2
          | some i =>
            have hi := wi i e1
            rw [if_neg (show ¬ thOf (some i) < 0 from mI_0 (by omega)), if_pos (show (wsO (VV w D F φ (w.2.2.1 12 cu) f) m).2 < 268435456 by omega)]
            by_cases g3 : VV w D F φ (w.2.2.1 12 cu) f m < (wsO (VV w D F φ (w.2.2.1 12 cu) f) m).2
            · rw [if_pos (by rw [nlt (by omega) (by omega)]; exact g3), E_X8_where_78, E_X8_where_85, mI_s, if_pos g3, if_pos g1]
              rfl
            · rw [if_neg (by rw [nlt (by omega) (by omega)]; exact g3), E_X8_where_85, mI_s, if_neg g3, if_pos (show (wsO (VV w D F φ (w.2.2.1 12 cu) f) m).2 < 268435456 by omega), e1]
      · rw [if_pos (by rw [rs_neg2 gle]; exact g1), E_X8_where_85, mI_s, if_neg (show ¬ VV w D F φ (w.2.2.1 12 cu) f m < (wsO (VV w D F φ (w.2.2.1 12 cu) f) m).2 by omega)]
  obtain ⟨u', b1, b2', b3⟩ := key 3 (Nat.le_refl _)
  refine ⟨u', ?_, b2', b3⟩
  rw [b1, E_X8_where_43, if_pos (show (3 : Int32) ≤ mI 3 by decide)]
theorem pr_where (hI : IVa P S0 e w n sl D F L R U y φ nf ρ nd) (v1 v2 : Int32) : PI P S0 e w ex n sl (F_X7_where P.2.1 v1 v2) (F_X8_where (P.2.1 + 46) v1 v2) csX anyI := by
  have hb := hI.b
  have mst : ∀ u (b : Int32) n sl, MW u D F L y φ → b = b2 (¬ (inN v1 4 ∧ inN v2 F)) → F_X8_where (P.2.1 + 46) v1 v2 (hp P u ex n sl) = R_X8_where_26 (P.2.1 + 46) v1 v2 b (P.2.1 + 46) (hp P (wI u 46 0 0) ex n sl) := by
    intro u b n sl hM hb'
    rw [E_X8_where, z_46, ob, E_X8_where_0, p_46_0, ob, m_noCustomer, ob, hb']
    try dsimp only
    by_cases g2 : inN v1 4
    · rw [if_pos (b2_0.mpr (fun z => z g2)), m_noFM hM.t0, ob]
      try dsimp only
      by_cases g3 : inN v2 F
      · rw [if_pos (b2_0.mpr (fun z => z g3)), b2_f (fun z => z ⟨g2, g3⟩)]
      · rw [if_neg (fun z => b2_0.mp z g3), b2_t (fun z => g3 z.2), E_X8_where_21]
    · rw [if_neg (fun z => b2_0.mp z g2), b2_t (fun z => g2 z.1), E_X8_where_21]
  by_cases g : inN v1 4 ∧ inN v2 F
  · obtain ⟨cu, hcu, rfl⟩ := inN_to (by omega) g.1
    obtain ⟨f, hf, rfl⟩ := inN_to (by omega) g.2
    obtain ⟨w1, ν, Z, a1, a2, a3⟩ := c_ready (P := P) (ex := ex) (n := n) (sl := sl) hI (h := 0) (by decide) hcu hf
    obtain ⟨w2, b1, b2'⟩ := c_where (P := P) (ex := ex) (n := n) (sl := sl) hI hf a2 a3
    have a1' : F_X7_needProof P.2.1 0 (mI cu) (mI f) (hp P w ex n sl) = some (.inl (), hp P w1 ex n sl) := a1
    refine PI.q (x := thOf (wsO (VV w D F φ (w.2.2.1 12 cu) f) 3).1) trivial hI (w1 := w2) ?_ ((pf_fv a2).tr (b2'.fv (by decide) (by decide))) (fun u hu hfu => ?_)
    · rw [E_X7_where, z_0, ob, E_X7_where_0, a1', ob]
      try dsimp only
      rw [sumL, q_0_6, ob, b1, ob]
    · obtain ⟨u', m1, m2, m3⟩ := m_where (P := P) (ex := ex) (n := n) (sl := sl) (u := wI u 46 0 0) hI (hu.fv FV.t0) hfu.a47 hcu hf
      refine ⟨u', ?_, FV.t0.tr m2, m3.trans wI_s⟩
      rw [mst u 0 n sl hu.M (b2_f (not_not_intro g)).symm, E_X8_where_26, m_throwsIf0, ob]
      try dsimp only
      rw [if_pos rfl, m1]
  · refine PI.x (E := eIX) (k := 1) (b := 0) hI (by decide) ?_ ?_ ((FV.t0 (v := 0)).tr (FV.t0 (v := 1))) wI_s
    · rw [E_X7_where, z_0, ob, E_X7_where_0, c_notReady hI (fun z => g z.2), ob]
      try dsimp only
      rw [sumR]
    · rw [mst w 1 (n + 1) (sl + 6) hI.M (b2_t g).symm, E_X8_where_26, m_throwsIf1, ob]
      try dsimp only
      rw [if_neg (by decide)]
end PPH
