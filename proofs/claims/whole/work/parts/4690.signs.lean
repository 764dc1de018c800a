/-! signs: both calls -/
section SGN
variable {P : sP} {w : sW} {ex : Nat → Option sC} {n sl D F L U : Nat} {y : sLn} {φ nd : Nat → List Nat} {nf : Nat → Nat}
theorem m_signs {f : Nat} (h1 : w.2.2.1 47 1 = mI F) (hF : F ≤ 30) (hf : f < F) (hL : hasL w f (φ f)) : F_X8_signs (P.2.1 + 46) (mI f) (hp P w ex n sl) = some (mI (φ f).length, hp P (wI w 46 0 0) ex n sl) := by
  have e1 : (wI w 46 0 0).2.2.1 47 1 = mI F := h1
  have hin : inN (mI f) F := ⟨by rw [nneg (by omega)]; exact fun z => z, by rw [nle (by omega) (by omega)]; omega⟩
  rw [E_X8_signs, z_46, ob, E_X8_signs_0, p_46_0, ob, m_noFormula e1 (by omega), ob, b2_f (fun z => z hin), m_throwsIf0, ob]
  refine Eq.trans (if_pos rfl) ?_
  rw [q_46_4, ob, ra_49 (by omega), ob]
  exact congrArg (fun z => some (z, _)) hL.1
theorem m_signsX {x : Int32} (h1 : w.2.2.1 47 1 = mI F) (hF : F ≤ 30) (hx : ¬ inN x F) : F_X8_signs (P.2.1 + 46) x (hp P w ex n sl) = some (0, hp P (wI w 46 0 1) ex n sl) := by
  have e1 : (wI w 46 0 0).2.2.1 47 1 = mI F := h1
  rw [E_X8_signs, z_46, ob, E_X8_signs_0, p_46_0, ob, m_noFormula e1 (by omega), ob, b2_t hx, m_throwsIf1, ob, wI_wI]
  exact if_neg (show ¬ ((1 : Int32) = 0) by decide)
theorem c_signs7 {f : Nat} (hC : CW w D F L U y φ nd nf) (hf : f < F) : F_X7_signs P.2.1 (mI f) (hp P w ex n sl) = some (.inl (mI (φ f).length), hp P w ex n sl) := by
  obtain ⟨c1, c2, c3, c4, c5, c6, c7, c8, c9, c10, c11⟩ := hC
  obtain ⟨d1, d2, d3⟩ := c11 f hf
  have hin : inN (mI f) F := ⟨by rw [nneg (by omega)]; exact fun z => z, by rw [nle (by omega) (by omega)]; omega⟩
  have hU : U ≤ 2 ^ 17 := Nat.le_trans c10.2.1 c10.2.2.1
  have en : F_X1_nodeOf (P.2.1 + 9) (mI f) (hp P w ex n sl) = some (mI (nf f), hp P w ex n sl) := by
    rw [E_X1_nodeOf, z_9, ob, E_X1_nodeOf_0, if_neg hin.1, q_9_2, ob, c6, if_neg hin.2, q_9_11, ob, ra_15 (by omega), ob, d2]
  have es : F_X2_signsOf (P.2.1 + 1) (mI (nf f)) (hp P w ex n sl) = some (mI (φ f).length, hp P w ex n sl) := by rw [c_signsOf c10 rfl d1, d3]
  rw [E_X7_signs, z_0, ob, E_X7_signs_0, c_needFT c6 hin, ob]
  show Option.bind (s_fr (hp P w ex n sl) P.2.1 7 0) _ = _
  rw [q_0_0, ob, q_0_1, ob, en, ob]
  try dsimp only
  rw [es, ob]
theorem c_signs {f : Nat} (hC : CW w D F L U y φ nd nf) (hf : f < F) : F_L_signs P.2.1 (mI f) (P.2.1 + 72) (hp P w ex n sl) = some (0, hp P (wL w 72 0 (mI (φ f).length).toInt64) ex n sl) := by
  rw [E_L_signs, E_L_signs_0, c_signs7 hC hf, ob]
  show Option.bind (s_sl (hp P w ex n sl) (P.2.1 + 72) (mI 0) (mI (φ f).length).toInt64) _ = _
  rw [wa_72 (by decide), ob]
end SGN
