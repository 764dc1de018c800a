/-! pairs of calls: proofs -/
def HH (w : sW) (h r : Nat) : Prop := bit (w.2.2.1 11 h) r
def QQ (w : sW) (h r : Nat) : Nat := (w.2.2.1 16 (h * 17 + r)).toNatClampNeg
section PPF
variable {P : sP} {S0 e : Nat} {w u u' v : sW} {ex : Nat → Option sC} {n sl D F L R U f cu h : Nat} {y : sLn} {φ : Nat → List Nat} {nf ν : Nat → Nat} {ρ : sRc} {nd : Nat → List Nat} {told : Int32}
theorem hq_q (hI : IVa P S0 e w n sl D F L R U y φ nf ρ nd) (hh : h < 3) {r : Nat} (hr : r < 17) : QQ w h r ≤ 99 ∧ (r = 16 → QQ w h r ≤ 9) ∧ w.2.2.1 16 (h * 17 + r) = mI (QQ w h r) ∧ w.2.2.1 47 (4 + 18 * h + 1 + r) = mI (QQ w h r) := by
  obtain ⟨p, p1, p2, p3, p4⟩ := hI.H.2.1 h hh r hr
  have e : QQ w h r = p := by
    unfold QQ
    rw [p3, mI_nat (by omega)]
  rw [e]
  exact ⟨p1, p2, p3, p4⟩
theorem hq_c (hI : IVa P S0 e w n sl D F L R U y φ nf ρ nd) (hh : h < 3) : HQ w h (HH w h) (QQ w h) :=
  ⟨hh, fun r => Iff.rfl, fun r hr => ⟨(hq_q hI hh hr).1, (hq_q hI hh hr).2.2.1⟩, (hq_q hI hh (r := 16) (by decide)).2.1 rfl⟩
/-- the least cost of a proof in a house -/
noncomputable def VV (w : sW) (D F : Nat) (φ : Nat → List Nat) (told : Int32) (f h : Nat) : Nat := mu (IIo D F φ told f (HH w h) (QQ w h)) (0, 0)
theorem phi_ok (hI : IVa P S0 e w n sl D F L R U y φ nf ρ nd) : ∀ f, f < F → okF (φ f) := fun f hf => by
  obtain ⟨g1, -, g3⟩ := hI.C.2.2.2.2.2.2.2.2.2.2 f hf
  rw [← g3]
  exact nd_ok hI.C.2.2.2.2.2.2.2.2.2.1 _ g1
/-- the model's costs, asked in any state that the question left -/
theorem mq_costs (hI : IVa P S0 e w n sl D F L R U y φ nf ρ nd) (hu : IVa P S0 e u n sl D F L R U y φ nf ρ nd) (h47 : u.2.2.1 47 = w.2.2.1 47) (hh : h < 3) (hcu : cu < 4) (hf : f < F) {x1 x2 x3 : Int32} (hx1 : x1 = mI h) (hx2 : x2 = mI cu) (hx3 : x3 = mI f) : ∃ u', F_X8_costs (P.2.1 + 46) x1 x2 x3 (hp P u ex n sl) = some (rsO (VV w D F φ (w.2.2.1 12 cu) f h), hp P u' ex n sl) ∧ FV u u' ∧ u'.1 46 0 = u.1 46 0 ∧ ME u' D (LA D F φ (w.2.2.1 12 cu) f) (fun j => tol F φ (w.2.2.1 12 cu) (at0 (LA D F φ (w.2.2.1 12 cu) f) j)) (HH w h) (QQ w h) h (mu (IIo D F φ (w.2.2.1 12 cu) f (HH w h) (QQ w h))) := by
  refine m_costs hx1 hx2 hx3 hu.M (phi_ok hI) hh hcu hf ?_ (fun r => ?_) (fun r hr => ?_) ((hq_q hI hh (r := 16) (by decide)).2.1 rfl)
  · rw [h47]; exact (hI.H.2.2 cu hcu).symm
  · rw [h47, ← hI.H.1 h hh]; exact Iff.rfl
  · rw [h47]; exact ⟨(hq_q hI hh hr).1, (hq_q hI hh hr).2.2.2⟩
theorem FVo.a47 (f' : FVo w u) : u.2.2.1 47 = w.2.2.1 47 := (f'.1 47 (by decide)).1
/-- the class is ready -/
theorem c_ready (hI : IVa P S0 e w n sl D F L R U y φ nf ρ nd) (hh : h < 3) (hcu : cu < 4) (hf : f < F) : ∃ w1 ν Z, F_X7_needProof P.2.1 (mI h) (mI cu) (mI f) (hp P w ex n sl) = some (.inl (), hp P w1 ex n sl) ∧ Fr [39, 40, 41, 42, 43, 44] lkB w w1 ∧ PE w1 D F L U y φ nd nf (LA D F φ (w.2.2.1 12 cu) f) ν (w.2.2.1 12 cu) Z := by
  have hC := hI.C
  have hF := hC.2.2.1
  obtain ⟨w1, ν, Z, a1, a2, a3, a4, a5, a6⟩ := c_prepare (P := P) (ex := ex) (n := n) (sl := sl) (told := w.2.2.1 12 cu) (x1 := mI cu) (x2 := mI (nf f)) rfl rfl hC hcu hf rfl
  have a2' : Fr [39, 40, 41, 42, 43, 44] lkB w w1 := a2.mo (by decide) (fun _ h => h)
  refine ⟨w1, ν, Z, ?_, a2', fCW a2' (by decide) hC, a4, a3, a5, a6⟩
  rw [E_X7_needProof, z_0, ob, E_X7_needProof_0, c_needHT (inN_of (by omega) hh), ob]
  try dsimp only
  rw [sumL, c_needCT (inN_of (by omega) hcu), ob]
  try dsimp only
  rw [sumL, c_needFT hC.2.2.2.2.2.1 (inN_of (by omega) hf), ob]
  try dsimp only
  rw [sumL, q_0_6, ob, q_0_1, ob, c_nodeF hC hf, ob]
  try dsimp only
  rw [a1, ob]
theorem pf_fv (f' : Fr [39, 40, 41, 42, 43, 44] lkB w u) : FV w u := f'.fv (by decide) (by decide)
theorem c_notReady (hI : IVa P S0 e w n sl D F L R U y φ nf ρ nd) {x1 x2 x3 : Int32} (hn : ¬ (inN x1 3 ∧ inN x2 4 ∧ inN x3 F)) : F_X7_needProof P.2.1 x1 x2 x3 (hp P w ex n sl) = some (.inr eIX, hp P w ex (n + 1) (sl + 6)) := by
  have hC := hI.C
  rw [E_X7_needProof, z_0, ob, E_X7_needProof_0]
  by_cases g1 : inN x1 3
  · rw [c_needHT g1, ob]
    try dsimp only
    rw [sumL]
    by_cases g2 : inN x2 4
    · rw [c_needCT g2, ob]
      try dsimp only
      rw [sumL, c_needFF hC.2.2.2.2.2.1 (fun g3 => hn ⟨g1, g2, g3⟩), ob]
      try dsimp only
      rw [sumR]
    · rw [c_needCF g2, ob]
      try dsimp only
      rw [sumR]
  · rw [c_needHF g1, ob]
    try dsimp only
    rw [sumR]
theorem m_noProof (hM : MW u D F L y φ) {x1 x2 x3 : Int32} : F_X8_noProof (P.2.1 + 46) x1 x2 x3 (hp P u ex n sl) = some (b2 (¬ (inN x1 3 ∧ inN x2 4 ∧ inN x3 F)), hp P u ex n sl) := by
  rw [E_X8_noProof, z_46, ob, E_X8_noProof_0, m_noHouse, ob]
  try dsimp only
  by_cases g1 : inN x1 3
  · rw [if_pos (b2_0.mpr (fun z => z g1)), m_noCustomer, ob]
    try dsimp only
    by_cases g2 : inN x2 4
    · rw [if_pos (b2_0.mpr (fun z => z g2)), m_noFM hM, ob]
      try dsimp only
      by_cases g3 : inN x3 F
      · rw [if_pos (b2_0.mpr (fun z => z g3)), b2_f (fun z => z ⟨g1, g2, g3⟩)]
      · rw [if_neg (fun z => b2_0.mp z g3), b2_t (fun z => g3 z.2.2)]
    · rw [if_neg (fun z => b2_0.mp z g2), b2_t (fun z => g2 z.2.1)]
  · rw [if_neg (fun z => b2_0.mp z g1), b2_t (fun z => g1 z.1)]
theorem pr_cheapest (hI : IVa P S0 e w n sl D F L R U y φ nf ρ nd) (v1 v2 v3 : Int32) : PI P S0 e w ex n sl (F_X7_cheapest P.2.1 v1 v2 v3) (F_X8_cheapest (P.2.1 + 46) v1 v2 v3) csX anyI := by
  have hb := hI.b
  by_cases g : inN v1 3 ∧ inN v2 4 ∧ inN v3 F
  · obtain ⟨h, hh, rfl⟩ := inN_to (by omega) g.1
    obtain ⟨cu, hcu, rfl⟩ := inN_to (by omega) g.2.1
    obtain ⟨f, hf, rfl⟩ := inN_to (by omega) g.2.2
    obtain ⟨w1, ν, Z, a1, a2, a3⟩ := c_ready (P := P) (ex := ex) (n := n) (sl := sl) hI hh hcu hf
    have hS := (LA_0 (F := F) (told := w.2.2.1 12 cu) (f := f) hb.2.1 (phi_ok hI f hf)).1
    obtain ⟨w2, b1, b2', -⟩ := c_costIn (P := P) (ex := ex) (n := n) (sl := sl) a3 ((hq_c hI hh).fr a2 (by decide) (by decide)) hS (x := mI h) rfl
    refine PI.q (x := rsO (VV w D F φ (w.2.2.1 12 cu) f h)) trivial hI (w1 := w2) ?_ ((pf_fv a2).tr (b2'.fv (by decide) (by decide))) (fun u hu hfu => ?_)
    · rw [E_X7_cheapest, z_0, ob, E_X7_cheapest_0, a1, ob]
      try dsimp only
      rw [sumL, q_0_6, ob, b1, ob]
      rfl
    · obtain ⟨u', m1, m2, m3, -⟩ := mq_costs (P := P) (ex := ex) (n := n) (sl := sl) (u := wI u 46 0 0) hI (hu.fv FV.t0) hfu.a47 hh hcu hf (x1 := mI h) (x2 := mI cu) (x3 := mI f) rfl rfl rfl
      refine ⟨u', ?_, FV.t0.tr m2, m3.trans wI_s⟩
      rw [E_X8_cheapest, z_46, ob, E_X8_cheapest_0, p_46_0, ob, m_noProof (hu.fv FV.t0).M, ob, b2_f (not_not_intro g)]
      try dsimp only
      rw [m_throwsIf0, ob]
      try dsimp only
      rw [if_pos rfl, m1, ob]
  · refine PI.x (E := eIX) (k := 1) (b := 0) hI (by decide) ?_ ?_ ((FV.t0 (v := 0)).tr (FV.t0 (v := 1))) wI_s
    · rw [E_X7_cheapest, z_0, ob, E_X7_cheapest_0, c_notReady hI g, ob]
      try dsimp only
      rw [sumR]
    · rw [E_X8_cheapest, z_46, ob, E_X8_cheapest_0, p_46_0, ob, m_noProof (hI.fv FV.t0).M, ob, b2_t g]
      try dsimp only
      rw [m_throwsIf1, ob]
      try dsimp only
      rw [if_neg (by decide)]
theorem pr_lastly (hI : IVa P S0 e w n sl D F L R U y φ nf ρ nd) (v1 v2 v3 : Int32) : PI P S0 e w ex n sl (F_X7_lastly P.2.1 v1 v2 v3) (F_X8_lastly (P.2.1 + 46) v1 v2 v3) csX anyI := by
  have hb := hI.b
  by_cases g : inN v1 3 ∧ inN v2 4 ∧ inN v3 F
  · obtain ⟨h, hh, rfl⟩ := inN_to (by omega) g.1
    obtain ⟨cu, hcu, rfl⟩ := inN_to (by omega) g.2.1
    obtain ⟨f, hf, rfl⟩ := inN_to (by omega) g.2.2
    obtain ⟨w1, ν, Z, a1, a2, a3⟩ := c_ready (P := P) (ex := ex) (n := n) (sl := sl) hI hh hcu hf
    have hS := (LA_0 (F := F) (told := w.2.2.1 12 cu) (f := f) hb.2.1 (phi_ok hI f hf)).1
    obtain ⟨w2, b1, b2', b3, kn, b4, b5, b6⟩ := c_costIn (P := P) (ex := ex) (n := n) (sl := sl) a3 ((hq_c hI hh).fr a2 (by decide) (by decide)) hS (x := mI h) rfl
    have fv2 : FV w w2 := (pf_fv a2).tr (b2'.fv (by decide) (by decide))
    have mst : ∀ u, IVa P S0 e u n sl D F L R U y φ nf ρ nd → FVo w u → ∃ u', F_X8_lastly (P.2.1 + 46) (mI h) (mI cu) (mI f) (hp P u ex n sl) = (if (0 : Int32) ≤ rsO (VV w D F φ (w.2.2.1 12 cu) f h) then (R_X8_lastly_41 (P.2.1 + 46) (rsO (VV w D F φ (w.2.2.1 12 cu) f h)) 0 (hp P u' ex n sl)) else (some ((-1), hp P u' ex n sl))) ∧ FV u u' ∧ u'.1 46 0 = 0 ∧ ME u' D (LA D F φ (w.2.2.1 12 cu) f) (fun j => tol F φ (w.2.2.1 12 cu) (at0 (LA D F φ (w.2.2.1 12 cu) f) j)) (HH w h) (QQ w h) h (mu (IIo D F φ (w.2.2.1 12 cu) f (HH w h) (QQ w h))) := by
      intro u hu hfu
      obtain ⟨u', m1, m2, m3, m4⟩ := mq_costs (P := P) (ex := ex) (n := n) (sl := sl) (u := wI u 46 0 0) hI (hu.fv FV.t0) hfu.a47 hh hcu hf (x1 := mI h) (x2 := mI cu) (x3 := mI f) rfl rfl rfl
      refine ⟨u', ?_, FV.t0.tr m2, m3.trans wI_s, m4⟩
      rw [E_X8_lastly, z_46, ob, E_X8_lastly_0, p_46_0, ob, m_noProof (hu.fv FV.t0).M, ob, b2_f (not_not_intro g)]
      try dsimp only
      rw [m_throwsIf0, ob]
      try dsimp only
      rw [if_pos rfl, m1, ob]
    have cst : F_X7_lastly P.2.1 (mI h) (mI cu) (mI f) (hp P w ex n sl) = ((if rsO (VV w D F φ (w.2.2.1 12 cu) f h) = (-1) then (some ((-1), hp P w2 ex n sl)) else ((F_X4_costAlone (P.2.1 + 38) 0 0 (hp P w2 ex n sl)).bind fun q2 => if q2.1 = rsO (VV w D F φ (w.2.2.1 12 cu) f h) then (some (0, q2.2)) else (R_X4_lastRuleIn_31 (P.2.1 + 38) (rsO (VV w D F φ (w.2.2.1 12 cu) f h)) 14 0 q2.2))) : Option (Int32 × sS)).bind fun q5 => some (.inl q5.1, q5.2) := by
      rw [E_X7_lastly, z_0, ob, E_X7_lastly_0, a1, ob]
      try dsimp only
      rw [sumL, q_0_6, ob, E_X4_lastRuleIn, z_38, ob, E_X4_lastRuleIn_0, b1, ob]
      rfl
    have eV : mu (IIc D F φ (LA D F φ (w.2.2.1 12 cu) f) (w.2.2.1 12 cu) (HH w h) (QQ w h)) (0, 0) = VV w D F φ (w.2.2.1 12 cu) f h := rfl
    by_cases gv : VV w D F φ (w.2.2.1 12 cu) f h < 268435456
    · have er : rsO (VV w D F φ (w.2.2.1 12 cu) f h) = mI (VV w D F φ (w.2.2.1 12 cu) f h) := if_pos gv
      obtain ⟨r, r1, r2, r3, r4⟩ := c_last (P := P) (ex := ex) (n := n) (sl := sl) b3 hS b4 b5 b6 gv
      rw [eV] at r4
      refine PI.q (x := mI r) trivial hI (w1 := w2) ?_ fv2 (fun u hu hfu => ?_)
      · rw [cst, er, if_neg (mI_m1 (by omega)), r4, ob]
      · obtain ⟨u', m1, m2, m3, m4⟩ := mst u hu hfu
        obtain ⟨r', s1, s2, s3, s4⟩ := m_lastly (P := P) (ex := ex) (n := n) (sl := sl) m4 hS gv
        have e : r' = r := by
          rcases Nat.lt_trichotomy r' r with z | z | z
          · exact absurd s2 (r3 r' z)
          · exact z
          · exact absurd r2 (s3 r z)
        refine ⟨u', ?_, m2, m3⟩
        rw [m1, er, if_pos (show (0 : Int32) ≤ mI (VV w D F φ (w.2.2.1 12 cu) f h) from (mI_le (a := 0) (b := VV w D F φ (w.2.2.1 12 cu) f h) (by decide) (by omega)).mpr (Nat.zero_le _)), ← e]
        exact s4
    · have er : rsO (VV w D F φ (w.2.2.1 12 cu) f h) = -1 := if_neg gv
      refine PI.q (x := -1) trivial hI (w1 := w2) ?_ fv2 (fun u hu hfu => ?_)
      · rw [cst, er, if_pos rfl, ob]
      · obtain ⟨u', m1, m2, m3, m4⟩ := mst u hu hfu
        refine ⟨u', ?_, m2, m3⟩
        rw [m1, er, if_neg (by decide)]
  · refine PI.x (E := eIX) (k := 1) (b := 0) hI (by decide) ?_ ?_ ((FV.t0 (v := 0)).tr (FV.t0 (v := 1))) wI_s
    · rw [E_X7_lastly, z_0, ob, E_X7_lastly_0, c_notReady hI g, ob]
      try dsimp only
      rw [sumR]
    · rw [E_X8_lastly, z_46, ob, E_X8_lastly_0, p_46_0, ob, m_noProof (hI.fv FV.t0).M, ob, b2_t g]
      try dsimp only
      rw [m_throwsIf1, ob]
      try dsimp only
      rw [if_neg (by decide)]
end PPF
