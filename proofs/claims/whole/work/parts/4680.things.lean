/-! things: both calls -/
section THI
variable {P : sP} {w : sW} {ex : Nat → Option sC} {n sl F : Nat} {v : Int32}
theorem c_things (h2 : w.1 9 2 = mI F) (hF : F ≤ 30) : (v < 1 ∨ ¬ v ≤ 3 → F_L_things P.2.1 v (hp P w ex n sl) = some (1, hp P w ex (n + 1) (sl + 6))) ∧ (¬ (v < 1 ∨ ¬ v ≤ 3) → F = 0 → F_L_things P.2.1 v (hp P w ex n sl) = some (0, hp P (wI w 9 0 v) ex n sl)) ∧ (¬ (v < 1 ∨ ¬ v ≤ 3) → F ≠ 0 → F_L_things P.2.1 v (hp P w ex n sl) = some (2, hp P w ex (n + 1) (sl + 6))) := by
  have e0 : (mI F ≤ 0) = (F ≤ 0) := nle (b := 0) (by omega) (by decide)
  refine ⟨fun h => ?_, fun h h0 => ?_, fun h h0 => ?_⟩
  · rw [E_L_things, E_L_things_0, E_X7_things, z_0, ob, E_X7_things_0]
    by_cases g : v < 1
    · rw [if_pos g, ob]
      show (if "java/lang/IllegalArgumentException" = "java/lang/IllegalArgumentException" then some ((1 : Int32), s_ex (hp P w ex n sl)) else if "java/lang/IllegalArgumentException" = "java/lang/IllegalStateException" then some ((2 : Int32), s_ex (hp P w ex n sl)) else none) = _
      exact if_pos rfl
    · rw [if_neg g, if_neg (h.resolve_left g), ob]
      show (if "java/lang/IllegalArgumentException" = "java/lang/IllegalArgumentException" then some ((1 : Int32), s_ex (hp P w ex n sl)) else if "java/lang/IllegalArgumentException" = "java/lang/IllegalStateException" then some ((2 : Int32), s_ex (hp P w ex n sl)) else none) = _
      exact if_pos rfl
  · rw [E_L_things, E_L_things_0, E_X7_things, z_0, ob, E_X7_things_0, if_neg (fun z => h (Or.inl z)), if_pos (Classical.byContradiction fun z => h (Or.inr z)), q_0_1, ob, q_9_2, ob, h2, if_pos (by rw [e0]; omega), ob, p_9_0, ob, ob]
    rfl
  · rw [E_L_things, E_L_things_0, E_X7_things, z_0, ob, E_X7_things_0, if_neg (fun z => h (Or.inl z)), if_pos (Classical.byContradiction fun z => h (Or.inr z)), q_0_1, ob, q_9_2, ob, h2, if_neg (by rw [e0]; omega), ob]
    show (if "java/lang/IllegalStateException" = "java/lang/IllegalArgumentException" then some ((1 : Int32), s_ex (hp P w ex n sl)) else if "java/lang/IllegalStateException" = "java/lang/IllegalStateException" then some ((2 : Int32), s_ex (hp P w ex n sl)) else none) = _
    rw [if_neg (by decide), if_pos rfl]
    rfl
theorem m_things (h1 : w.2.2.1 47 1 = mI F) (hF : F ≤ 30) : (v < 1 ∨ ¬ v ≤ 3 → F_X8_things (P.2.1 + 46) v (hp P w ex n sl) = some ((), hp P (wI w 46 0 1) ex n sl)) ∧ (¬ (v < 1 ∨ ¬ v ≤ 3) → F = 0 → F_X8_things (P.2.1 + 46) v (hp P w ex n sl) = some ((), hp P (wA (wI w 46 0 0) 47 0 v) ex n sl)) ∧ (¬ (v < 1 ∨ ¬ v ≤ 3) → F ≠ 0 → F_X8_things (P.2.1 + 46) v (hp P w ex n sl) = some ((), hp P (wI w 46 0 2) ex n sl)) := by
  have e0 : (mI F ≤ 0) = (F ≤ 0) := nle (b := 0) (by omega) (by decide)
  have e1 : (wI w 46 0 0).2.2.1 47 1 = mI F := h1
  have ein : (¬ v < 1 ∧ ¬ (3 : Int32) < v) ↔ ¬ (v < 1 ∨ ¬ v ≤ 3) := by
    rw [Int32.not_lt (a := 3) (b := v)]
    constructor
    · rintro ⟨a, b⟩ (z | z)
      · exact a z
      · exact z b
    · intro h; exact ⟨fun z => h (Or.inl z), Classical.byContradiction fun z => h (Or.inr z)⟩
  refine ⟨fun h => ?_, fun h h0 => ?_, fun h h0 => ?_⟩
  · rw [E_X8_things, z_46, ob, E_X8_things_0, p_46_0, ob, m_in, ob, if_pos (b2_0.mpr (fun z => ein.mp z h)), E_X8_things_20, m_throwsIf1, ob, wI_wI]
    exact if_neg (show ¬ ((1 : Int32) = 0) by decide)
  · rw [E_X8_things, z_46, ob, E_X8_things_0, p_46_0, ob, m_in, ob, if_neg (fun z => b2_0.mp z (ein.mpr h)), E_X8_things_20, m_throwsIf0, ob]
    refine Eq.trans (if_pos rfl) ?_
    rw [m_formulas, ob, e1]
    refine Eq.trans (if_pos (show mI F ≤ 0 by rw [e0]; omega)) ?_
    rw [E_X8_things_40, m_throwsIf0, ob]
    refine Eq.trans (if_pos rfl) ?_
    rw [q_46_1, ob]
    refine Eq.trans (congrArg (fun z => Option.bind z _) (wa_47 (i := 0) (by decide))) ?_
    rw [ob]
  · rw [E_X8_things, z_46, ob, E_X8_things_0, p_46_0, ob, m_in, ob, if_neg (fun z => b2_0.mp z (ein.mpr h)), E_X8_things_20, m_throwsIf0, ob]
    refine Eq.trans (if_pos rfl) ?_
    rw [m_formulas, ob, e1]
    refine Eq.trans (if_neg (show ¬ mI F ≤ 0 by rw [e0]; omega)) ?_
    rw [E_X8_things_40, m_throwsIf1, ob, wI_wI]
    exact if_neg (show ¬ ((1 : Int32) = 0) by decide)
end THI
