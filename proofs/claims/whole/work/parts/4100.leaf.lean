/-! more of numbers -/
theorem mI_pred {F : Nat} {x : Int32} (hF : F < 2 ^ 31) : mI F - 1 < x ↔ mI F ≤ x := by
  cases F with
  | zero =>
    rw [show mI 0 - 1 = (-1 : Int32) from rfl, Int32.lt_iff_toInt_lt, Int32.le_iff_toInt_le, show (-1 : Int32).toInt = -1 from rfl, show (mI 0).toInt = 0 from rfl]
    omega
  | succ k =>
    rw [show (1 : Int32) = mI 1 from rfl, mI_sub (by omega), Nat.add_sub_cancel, Int32.lt_iff_toInt_lt, Int32.le_iff_toInt_le, mI_int (by omega), mI_int hF]
    omega
/-- within 0 .. F - 1 -/
def inN (x : Int32) (F : Nat) : Prop := ¬ x < 0 ∧ ¬ mI F ≤ x
theorem inN_dec {x : Int32} {F : Nat} : inN x F ∨ ¬ inN x F := Classical.em _
theorem inN_to {x : Int32} {F : Nat} (hF : F < 2 ^ 31) (h : inN x F) : ∃ a, a < F ∧ x = mI a := (mI_in hF).mp h
theorem inN_of {a F : Nat} (hF : F < 2 ^ 31) (h : a < F) : inN (mI a) F := (mI_in hF).mpr ⟨a, h, rfl⟩
noncomputable def b2 (p : Prop) : Int32 := @ite _ p (Classical.propDecidable p) 1 0
theorem b2_t {p : Prop} (h : p) : b2 p = 1 := by unfold b2; rw [if_pos h]
theorem b2_f {p : Prop} (h : ¬ p) : b2 p = 0 := by unfold b2; rw [if_neg h]
theorem b2_0 {p : Prop} : b2 p = 0 ↔ ¬ p := by
  by_cases h : p
  · rw [b2_t h]; simp [h]
  · rw [b2_f h]; simp [h]
theorem b2_or {p : Prop} : b2 p = 0 ∨ b2 p = 1 := by
  by_cases h : p
  · exact Or.inr (b2_t h)
  · exact Or.inl (b2_f h)
/-! the model's leaves -/
section ML
variable {P : sP} {w : sW} {ex : Nat → Option sC} {n sl : Nat} {σ : sS}
theorem m_in {x lo hi : Int32} : F_X8_in x lo hi σ = some (b2 (¬ x < lo ∧ ¬ hi < x), σ) := by
  simp only [E_X8_in, E_X8_in_0, ob]
  by_cases h1 : x < lo
  · rw [if_pos h1, b2_f (fun h => h.1 h1)]
  · rw [if_neg h1]
    by_cases h2 : hi < x
    · rw [if_pos h2, b2_f (fun h => h.2 h2)]
    · rw [if_neg h2, b2_t ⟨h1, h2⟩]
theorem m_neg {p : Prop} : (if b2 p = 0 then some ((1 : Int32), σ) else some (0, σ)) = some (b2 (¬ p), σ) := by
  by_cases h : p
  · rw [if_neg (fun g => b2_0.mp g h), b2_f (fun g => g h)]
  · rw [if_pos (b2_0.mpr h), b2_t h]
theorem m_d : F_X8_d (P.2.1 + 46) (hp P w ex n sl) = some (w.2.2.1 47 0, hp P w ex n sl) := by
  simp only [E_X8_d, E_X8_d_0, z_46, q_46_1, ob, a_47 (show s_out 0 1682 = false from rfl)]
  rfl
theorem m_formulas : F_X8_formulas (P.2.1 + 46) (hp P w ex n sl) = some (w.2.2.1 47 1, hp P w ex n sl) := by
  simp only [E_X8_formulas, E_X8_formulas_0, z_46, q_46_1, ob, a_47 (show s_out 1 1682 = false from rfl)]
  rfl
theorem m_lines : F_X8_lines (P.2.1 + 46) (hp P w ex n sl) = some (w.2.2.1 47 2, hp P w ex n sl) := by
  simp only [E_X8_lines, E_X8_lines_0, z_46, q_46_1, ob, a_47 (show s_out 2 1682 = false from rfl)]
  rfl
theorem m_receipts : F_X8_receipts (P.2.1 + 46) (hp P w ex n sl) = some (w.2.2.1 47 3, hp P w ex n sl) := by
  simp only [E_X8_receipts, E_X8_receipts_0, z_46, q_46_1, ob, a_47 (show s_out 3 1682 = false from rfl)]
  rfl
theorem m_noFormula {F : Nat} {x : Int32} (h : w.2.2.1 47 1 = mI F) (hF : F < 2 ^ 31) : F_X8_noFormula (P.2.1 + 46) x (hp P w ex n sl) = some (b2 (¬ inN x F), hp P w ex n sl) := by
  simp only [E_X8_noFormula, E_X8_noFormula_0, z_46, ob, m_formulas, m_in, h, m_neg]
  rw [show (¬ (¬ x < 0 ∧ ¬ mI F - 1 < x)) = ¬ inN x F by rw [inN, mI_pred hF]]
theorem m_noLine {F : Nat} {x : Int32} (h : w.2.2.1 47 2 = mI F) (hF : F < 2 ^ 31) : F_X8_noLine (P.2.1 + 46) x (hp P w ex n sl) = some (b2 (¬ inN x F), hp P w ex n sl) := by
  simp only [E_X8_noLine, E_X8_noLine_0, z_46, ob, m_lines, m_in, h, m_neg]
  rw [show (¬ (¬ x < 0 ∧ ¬ mI F - 1 < x)) = ¬ inN x F by rw [inN, mI_pred hF]]
theorem m_noHouse {x : Int32} : F_X8_noHouse x σ = some (b2 (¬ inN x 3), σ) := by
  simp only [E_X8_noHouse, E_X8_noHouse_0, ob, m_in, m_neg]
  rw [show (¬ (¬ x < 0 ∧ ¬ 2 < x)) = ¬ inN x 3 by rw [inN, ← mI_pred (F := 3) (by decide)]; rfl]
theorem m_noCustomer {x : Int32} : F_X8_noCustomer x σ = some (b2 (¬ inN x 4), σ) := by
  simp only [E_X8_noCustomer, E_X8_noCustomer_0, ob, m_in, m_neg]
  rw [show (¬ (¬ x < 0 ∧ ¬ 3 < x)) = ¬ inN x 4 by rw [inN, ← mI_pred (F := 4) (by decide)]; rfl]
theorem m_throwsT {p : Prop} {c : Int32} (h : p) : F_X8_throwsIf (P.2.1 + 46) (b2 p) c (hp P w ex n sl) = some (1, hp P (wI w 46 0 c) ex n sl) := by
  simp only [E_X8_throwsIf, E_X8_throwsIf_0, z_46, p_46_0, ob, b2_t h]
  rfl
theorem m_throwsF {p : Prop} {c : Int32} (h : ¬ p) : F_X8_throwsIf (P.2.1 + 46) (b2 p) c (hp P w ex n sl) = some (0, hp P w ex n sl) := by
  simp only [E_X8_throwsIf, E_X8_throwsIf_0, z_46, p_46_0, ob, b2_f h]
  rfl
end ML
