section T4
variable {P : sP} {w : sW} {ex : Nat → Option sC} {n sl : Nat}
theorem c_nodeOf {F i : Nat} (hF : w.1 9 2 = mI F) (h30 : F ≤ 30) (hi : i < F) : F_X1_nodeOf (P.2.1 + 9) (mI i) (hp P w ex n sl) = some (w.2.2.1 15 i, hp P w ex n sl) := by
  have h0 : ¬ mI i < 0 := mI_0 (by omega)
  have h1 : ¬ mI F ≤ mI i := by rw [mI_le (by omega) (by omega)]; omega
  simp only [E_X1_nodeOf, E_X1_nodeOf_0, z_9, q_9_2, q_9_11, ob, hF, h0, h1, if_false, a_15 (mI_out (show i < 30 by omega) (by decide)), mI_nat (show i < 2 ^ 31 by omega)]
theorem c_needF {F : Nat} {x : Int32} (hF : w.1 9 2 = mI F) (h30 : F ≤ 30) : F_X7_needFormula P.2.1 x (hp P w ex n sl) = if ¬ x < 0 ∧ ¬ mI F ≤ x then some (.inl (), hp P w ex n sl) else some (.inr "java/lang/IndexOutOfBoundsException", hp P w ex (n + 1) (sl + 6)) := by
  simp only [E_X7_needFormula, E_X7_needFormula_0, z_0, q_0_1, q_9_2, ob, hF]
  by_cases h0 : x < 0
  · simp [h0, s_ex, hp]
  · by_cases h1 : mI F ≤ x
    · simp [h0, h1, s_ex, hp]
    · simp [h0, h1]
end T4
