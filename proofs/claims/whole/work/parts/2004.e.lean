/-! X3_threeMore -/
noncomputable def R_X3_threeMore_0 (v0 : Nat) (v1 : Int32) (σ : sS) : Option (Int32 × sS) := s_run (S_X3_threeMore ) (0, [.ref v0, .int v1], σ)
noncomputable def R_X3_threeMore_2 (v0 : Nat) (v1 : Int32) (v2 : Int32) (σ : sS) : Option (Int32 × sS) := s_run (S_X3_threeMore ) (2, [.ref v0, .int v1, .int v2], σ)
noncomputable def R_X3_threeMore_60 (v0 : Nat) (v1 : Int32) (v2 : Int32) (w0 : Int32) (σ : sS) : Option (Int32 × sS) := s_run (S_X3_threeMore ) (60, [.ref v0, .int v1, .int v2, .int w0], σ)
noncomputable def R_X3_threeMore_72 (v0 : Nat) (v1 : Int32) (v2 : Int32) (σ : sS) : Option (Int32 × sS) := s_run (S_X3_threeMore ) (72, [.ref v0, .int v1, .int v2], σ)
theorem E_X3_threeMore_0 {v0 : Nat} {v1 : Int32} {σ : sS} : R_X3_threeMore_0 v0 v1 σ = (R_X3_threeMore_2 v0 v1 0 σ) := by
  unfold R_X3_threeMore_0
  rw [s_run_eq]
  show s_go _ _ (T_X3_threeMore_0 v0 v1 σ) = _
  unfold T_X3_threeMore_0
  simp only [s_go_bind, s_go_ite, s_go_sum, s_go_l, s_go_r, s_go_n]
  try rfl
theorem E_X3_threeMore_2 {v0 : Nat} {v1 : Int32} {v2 : Int32} {σ : sS} : R_X3_threeMore_2 v0 v1 v2 σ = ((s_fr σ v0 3 0).bind fun x1 =>
  (s_fi σ x1 1 2).bind fun x2 =>
  if x2 ≤ v2 then (some ((-1), σ))
  else ((F_X3_isOpenTo v0 v2 v1 σ).bind fun q3 =>
  if q3.1 = 0 then (R_X3_threeMore_72 v0 v1 v2 q3.2)
  else ((s_fr q3.2 v0 3 1).bind fun x4 =>
  (s_fr q3.2 v0 3 3).bind fun x5 =>
  (F_X3_narrow v0 x4 v2 x5 q3.2).bind fun q6 =>
  (s_fr q6.2 v0 3 3).bind fun x7 =>
  (F_X3_isEmpty v0 x7 q6.2).bind fun q8 =>
  if q8.1 = 0 then ((s_fr q8.2 v0 3 3).bind fun x9 =>
  (F_X3_twoMore v0 x9 v1 v2 q8.2).bind fun q10 =>
  R_X3_threeMore_60 v0 v1 v2 q10.1 q10.2)
  else (R_X3_threeMore_60 v0 v1 v2 (-1) q8.2)))) := by
  unfold R_X3_threeMore_2
  rw [s_run_eq]
  show s_go _ _ (T_X3_threeMore_2 v0 v1 v2 σ) = _
  unfold T_X3_threeMore_2
  simp only [s_go_bind, s_go_ite, s_go_sum, s_go_l, s_go_r, s_go_n]
  try rfl
theorem E_X3_threeMore_60 {v0 : Nat} {v1 : Int32} {v2 : Int32} {w0 : Int32} {σ : sS} : R_X3_threeMore_60 v0 v1 v2 w0 σ = (if w0 = (-1) then (R_X3_threeMore_72 v0 v1 v2 σ)
  else (some ((w0 ||| (1 <<< (v2 &&& 31))), σ))) := by
  unfold R_X3_threeMore_60
  rw [s_run_eq]
  show s_go _ _ (T_X3_threeMore_60 v0 v1 v2 w0 σ) = _
  unfold T_X3_threeMore_60
  simp only [s_go_bind, s_go_ite, s_go_sum, s_go_l, s_go_r, s_go_n]
  try rfl
theorem E_X3_threeMore_72 {v0 : Nat} {v1 : Int32} {v2 : Int32} {σ : sS} : R_X3_threeMore_72 v0 v1 v2 σ = (R_X3_threeMore_2 v0 v1 (v2 + 1) σ) := by
  unfold R_X3_threeMore_72
  rw [s_run_eq]
  show s_go _ _ (T_X3_threeMore_72 v0 v1 v2 σ) = _
  unfold T_X3_threeMore_72
  simp only [s_go_bind, s_go_ite, s_go_sum, s_go_l, s_go_r, s_go_n]
  try rfl
theorem E_X3_threeMore {v0 : Nat} {v1 : Int32} {σ : sS} : F_X3_threeMore v0 v1 σ = ((s_is σ v0 3).bind fun _ => R_X3_threeMore_0 v0 v1 σ) := rfl
/-! X3_fewestMore -/
noncomputable def R_X3_fewestMore_0 (v0 : Nat) (v1 : Int32) (v2 : Int32) (σ : sS) : Option (Int32 × sS) := s_run (S_X3_fewestMore ) (0, [.ref v0, .int v1, .int v2], σ)
noncomputable def R_X3_fewestMore_76 (v0 : Nat) (v2 : Int32) (v3 : Int32) (σ : sS) : Option (Int32 × sS) := s_run (S_X3_fewestMore ) (76, [.ref v0, .int v2, .int v3], σ)
theorem E_X3_fewestMore_0 {v0 : Nat} {v1 : Int32} {v2 : Int32} {σ : sS} : R_X3_fewestMore_0 v0 v1 v2 σ = ((s_fr σ v0 3 1).bind fun x1 =>
  (F_X3_gather v0 v1 x1 σ).bind fun q2 =>
  (s_fr q2.2 v0 3 1).bind fun x3 =>
  (F_X3_isEmpty v0 x3 q2.2).bind fun q4 =>
  if q4.1 = 0 then ((s_fr q4.2 v0 3 1).bind fun x5 =>
  (F_X3_leastOutside v0 x5 v2 q4.2).bind fun q6 =>
  if q6.1 = (-1) then (some (0, q6.2))
  else ((s_fr q6.2 v0 3 1).bind fun x7 =>
  (s_fr q6.2 v0 3 0).bind fun x8 =>
  (s_fi q6.2 x8 1 2).bind fun x9 =>
  (F_X3_oneMore v0 x7 v2 x9 q6.2).bind fun q10 =>
  if q10.1 = (-1) then ((s_fr q10.2 v0 3 1).bind fun x11 =>
  (s_fr q10.2 v0 3 0).bind fun x12 =>
  (s_fi q10.2 x12 1 2).bind fun x13 =>
  (F_X3_twoMore v0 x11 v2 x13 q10.2).bind fun q14 =>
  R_X3_fewestMore_76 v0 v2 q14.1 q14.2)
  else (R_X3_fewestMore_76 v0 v2 q10.1 q10.2)))
  else (some ((-1), q4.2))) := by
  unfold R_X3_fewestMore_0
  rw [s_run_eq]
  show s_go _ _ (T_X3_fewestMore_0 v0 v1 v2 σ) = _
  unfold T_X3_fewestMore_0
  simp only [s_go_bind, s_go_ite, s_go_sum, s_go_l, s_go_r, s_go_n]
  try rfl
theorem E_X3_fewestMore_76 {v0 : Nat} {v2 : Int32} {v3 : Int32} {σ : sS} : R_X3_fewestMore_76 v0 v2 v3 σ = (if v3 = (-1) then ((F_X3_threeMore v0 v2 σ).bind fun q1 =>
  some (q1.1, q1.2))
  else (some (v3, σ))) := by
  unfold R_X3_fewestMore_76
  rw [s_run_eq]
  show s_go _ _ (T_X3_fewestMore_76 v0 v2 v3 σ) = _
  unfold T_X3_fewestMore_76
  simp only [s_go_bind, s_go_ite, s_go_sum, s_go_l, s_go_r, s_go_n]
  try rfl
theorem E_X3_fewestMore {v0 : Nat} {v1 : Int32} {v2 : Int32} {σ : sS} : F_X3_fewestMore v0 v1 v2 σ = ((s_is σ v0 3).bind fun _ => R_X3_fewestMore_0 v0 v1 v2 σ) := rfl
/-! X7_more -/
noncomputable def R_X7_more_0 (v0 : Nat) (v1 : Int32) (v2 : Int32) (σ : sS) : Option ((Int32 ⊕ String) × sS) := s_run (S_X7_more ) (0, [.ref v0, .int v1, .int v2], σ)
theorem E_X7_more_0 {v0 : Nat} {v1 : Int32} {v2 : Int32} {σ : sS} : R_X7_more_0 v0 v1 v2 σ = ((F_X7_needCustomer v0 v1 σ).bind fun q1 => s_sum q1.1 (fun x2 => (F_X7_needFormula v0 v2 q1.2).bind fun q4 => s_sum q4.1 (fun x5 => (s_fr q4.2 v0 7 4).bind fun x7 =>
  (s_fr q4.2 v0 7 1).bind fun x8 =>
  (s_fr q4.2 x8 1 5).bind fun x9 =>
  (s_ai q4.2 x9 v1).bind fun x10 =>
  (F_X3_fewestMore x7 x10 v2 q4.2).bind fun q11 =>
  some (.inl q11.1, q11.2)) (fun E6 => some (.inr E6, q4.2))) (fun E3 => some (.inr E3, q1.2))) := by
  unfold R_X7_more_0
  rw [s_run_eq]
  show s_go _ _ (T_X7_more_0 v0 v1 v2 σ) = _
  unfold T_X7_more_0
  simp only [s_go_bind, s_go_ite, s_go_sum, s_go_l, s_go_r, s_go_n]
  try rfl
theorem E_X7_more {v0 : Nat} {v1 : Int32} {v2 : Int32} {σ : sS} : F_X7_more v0 v1 v2 σ = ((s_is σ v0 7).bind fun _ => R_X7_more_0 v0 v1 v2 σ) := rfl
/-! L_more -/
noncomputable def R_L_more_0 (v0 : Nat) (v1 : Int32) (v2 : Int32) (v3 : Nat) (σ : sS) : Option (Int32 × sS) := s_run (S_L_more ) (0, [.ref v0, .int v1, .int v2, .ref v3], σ)
theorem E_L_more_0 {v0 : Nat} {v1 : Int32} {v2 : Int32} {v3 : Nat} {σ : sS} : R_L_more_0 v0 v1 v2 v3 σ = ((F_X7_more v0 v1 v2 σ).bind fun q1 => s_sum q1.1 (fun x2 => (s_sl q1.2 v3 0 ((x2 : Int32).toInt64)).bind fun σ4 =>
  some (0, σ4)) (fun E3 => if E3 = "java/lang/IndexOutOfBoundsException" then (some (1, q1.2)) else none)) := by
  unfold R_L_more_0
  rw [s_run_eq]
  show s_go _ _ (T_L_more_0 v0 v1 v2 v3 σ) = _
  unfold T_L_more_0
  simp only [s_go_bind, s_go_ite, s_go_sum, s_go_l, s_go_r, s_go_n]
  try rfl
theorem E_L_more {v0 : Nat} {v1 : Int32} {v2 : Int32} {v3 : Nat} {σ : sS} : F_L_more v0 v1 v2 v3 σ = (R_L_more_0 v0 v1 v2 v3 σ) := rfl
/-! X8_worldsOfAll -/
noncomputable def R_X8_worldsOfAll_0 (v0 : Nat) (σ : sS) : Option (Unit × sS) := s_run (S_X8_worldsOfAll ) (0, [.ref v0], σ)
noncomputable def R_X8_worldsOfAll_2 (v0 : Nat) (v1 : Int32) (σ : sS) : Option (Unit × sS) := s_run (S_X8_worldsOfAll ) (2, [.ref v0, .int v1], σ)
noncomputable def R_X8_worldsOfAll_24 (v0 : Nat) (v1 : Int32) (σ : sS) : Option (Unit × sS) := s_run (S_X8_worldsOfAll ) (24, [.ref v0, .int v1], σ)
noncomputable def R_X8_worldsOfAll_34 (v0 : Nat) (v1 : Int32) (v2 : Int32) (σ : sS) : Option (Unit × sS) := s_run (S_X8_worldsOfAll ) (34, [.ref v0, .int v1, .int v2], σ)
noncomputable def R_X8_worldsOfAll_76 (v0 : Nat) (v1 : Int32) (v2 : Int32) (w0 : Int32) (w1 : Int32) (w2 : Int32) (w3 : Nat) (σ : sS) : Option (Unit × sS) := s_run (S_X8_worldsOfAll ) (76, [.ref v0, .int v1, .int v2, .int w0, .int w1, .int w2, .ref w3], σ)
theorem E_X8_worldsOfAll_0 {v0 : Nat} {σ : sS} : R_X8_worldsOfAll_0 v0 σ = (R_X8_worldsOfAll_2 v0 0 σ) := by
  unfold R_X8_worldsOfAll_0
  rw [s_run_eq]
  show s_go _ _ (T_X8_worldsOfAll_0 v0 σ) = _
  unfold T_X8_worldsOfAll_0
  simp only [s_go_bind, s_go_ite, s_go_sum, s_go_l, s_go_r, s_go_n]
  try rfl
theorem E_X8_worldsOfAll_2 {v0 : Nat} {v1 : Int32} {σ : sS} : R_X8_worldsOfAll_2 v0 v1 σ = (if (960 : Int32) ≤ v1 then (R_X8_worldsOfAll_24 v0 0 σ)
  else ((s_fr σ v0 8 21).bind fun x1 =>
  (s_si σ x1 v1 0).bind fun σ2 =>
  R_X8_worldsOfAll_2 v0 (v1 + 1) σ2)) := by
  unfold R_X8_worldsOfAll_2
  rw [s_run_eq]
  show s_go _ _ (T_X8_worldsOfAll_2 v0 v1 σ) = _
  unfold T_X8_worldsOfAll_2
  simp only [s_go_bind, s_go_ite, s_go_sum, s_go_l, s_go_r, s_go_n]
  try rfl
theorem E_X8_worldsOfAll_24 {v0 : Nat} {v1 : Int32} {σ : sS} : R_X8_worldsOfAll_24 v0 v1 σ = ((F_X8_formulas v0 σ).bind fun q1 =>
  if q1.1 ≤ v1 then (some ((), q1.2))
  else (R_X8_worldsOfAll_34 v0 v1 0 q1.2)) := by
  unfold R_X8_worldsOfAll_24
  rw [s_run_eq]
  show s_go _ _ (T_X8_worldsOfAll_24 v0 v1 σ) = _
  unfold T_X8_worldsOfAll_24
  simp only [s_go_bind, s_go_ite, s_go_sum, s_go_l, s_go_r, s_go_n]
  try rfl
theorem E_X8_worldsOfAll_34 {v0 : Nat} {v1 : Int32} {v2 : Int32} {σ : sS} : R_X8_worldsOfAll_34 v0 v1 v2 σ = ((F_X8_worldsMany v0 σ).bind fun q1 =>
  if q1.1 ≤ v2 then (R_X8_worldsOfAll_24 v0 (v1 + 1) q1.2)
  else ((s_fr q1.2 v0 8 21).bind fun x2 =>
  (s_ai q1.2 x2 ((32 * v1) + (v2 / 32))).bind fun x3 =>
  (F_X8_isTrue v0 v1 v2 q1.2).bind fun q4 =>
  if q4.1 = 0 then (R_X8_worldsOfAll_76 v0 v1 v2 0 x3 ((32 * v1) + (v2 / 32)) x2 q4.2)
  else (R_X8_worldsOfAll_76 v0 v1 v2 (1 <<< ((v2 - v2 / 32 * 32) &&& 31)) x3 ((32 * v1) + (v2 / 32)) x2 q4.2))) := by
  unfold R_X8_worldsOfAll_34
  rw [s_run_eq]
  show s_go _ _ (T_X8_worldsOfAll_34 v0 v1 v2 σ) = _
  unfold T_X8_worldsOfAll_34
  simp only [s_go_bind, s_go_ite, s_go_sum, s_go_l, s_go_r, s_go_n]
  try rfl
theorem E_X8_worldsOfAll_76 {v0 : Nat} {v1 : Int32} {v2 : Int32} {w0 : Int32} {w1 : Int32} {w2 : Int32} {w3 : Nat} {σ : sS} : R_X8_worldsOfAll_76 v0 v1 v2 w0 w1 w2 w3 σ = ((s_si σ w3 w2 (w1 ||| w0)).bind fun σ1 =>
  R_X8_worldsOfAll_34 v0 v1 (v2 + 1) σ1) := by
  unfold R_X8_worldsOfAll_76
  rw [s_run_eq]
  show s_go _ _ (T_X8_worldsOfAll_76 v0 v1 v2 w0 w1 w2 w3 σ) = _
  unfold T_X8_worldsOfAll_76
  simp only [s_go_bind, s_go_ite, s_go_sum, s_go_l, s_go_r, s_go_n]
  try rfl
theorem E_X8_worldsOfAll {v0 : Nat} {σ : sS} : F_X8_worldsOfAll v0 σ = ((s_is σ v0 8).bind fun _ => R_X8_worldsOfAll_0 v0 σ) := rfl
/-! X8_isEnough -/
noncomputable def R_X8_isEnough_0 (v0 : Nat) (v1 : Int32) (v2 : Int32) (σ : sS) : Option (Int32 × sS) := s_run (S_X8_isEnough ) (0, [.ref v0, .int v1, .int v2], σ)
noncomputable def R_X8_isEnough_8 (v0 : Nat) (v1 : Int32) (v2 : Int32) (v3 : Int32) (v4 : Int32) (v5 : Int32) (σ : sS) : Option (Int32 × sS) := s_run (S_X8_isEnough ) (8, [.ref v0, .int v1, .int v2, .int v3, .int v4, .int v5], σ)
noncomputable def R_X8_isEnough_41 (v0 : Nat) (v1 : Int32) (v2 : Int32) (v4 : Int32) (v5 : Int32) (v6 : Int32) (σ : sS) : Option (Int32 × sS) := s_run (S_X8_isEnough ) (41, [.ref v0, .int v1, .int v2, .int v4, .int v5, .int v6], σ)
noncomputable def R_X8_isEnough_46 (v0 : Nat) (v1 : Int32) (v2 : Int32) (v4 : Int32) (v5 : Int32) (v6 : Int32) (w0 : Int32) (σ : sS) : Option (Int32 × sS) := s_run (S_X8_isEnough ) (46, [.ref v0, .int v1, .int v2, .int v4, .int v5, .int v6, .int w0], σ)
noncomputable def R_X8_isEnough_76 (v0 : Nat) (v1 : Int32) (v2 : Int32) (v3 : Int32) (v5 : Int32) (σ : sS) : Option (Int32 × sS) := s_run (S_X8_isEnough ) (76, [.ref v0, .int v1, .int v2, .int v3, .int v5], σ)
noncomputable def R_X8_isEnough_77 (v0 : Nat) (v1 : Int32) (v2 : Int32) (v3 : Int32) (v5 : Int32) (w0 : Int32) (σ : sS) : Option (Int32 × sS) := s_run (S_X8_isEnough ) (77, [.ref v0, .int v1, .int v2, .int v3, .int v5, .int w0], σ)
theorem E_X8_isEnough_0 {v0 : Nat} {v1 : Int32} {v2 : Int32} {σ : sS} : R_X8_isEnough_0 v0 v1 v2 σ = (R_X8_isEnough_8 v0 v1 v2 0 1 0 σ) := by
  unfold R_X8_isEnough_0
  rw [s_run_eq]
  show s_go _ _ (T_X8_isEnough_0 v0 v1 v2 σ) = _
  unfold T_X8_isEnough_0
  simp only [s_go_bind, s_go_ite, s_go_sum, s_go_l, s_go_r, s_go_n]
  try rfl
theorem E_X8_isEnough_8 {v0 : Nat} {v1 : Int32} {v2 : Int32} {v3 : Int32} {v4 : Int32} {v5 : Int32} {σ : sS} : R_X8_isEnough_8 v0 v1 v2 v3 v4 v5 σ = (if (32 : Int32) ≤ v5 then (if v3 = 0 then (some (0, σ))
  else (if v4 = 0 then (some (0, σ))
  else (some (1, σ))))
  else ((s_fr σ v0 8 21).bind fun x1 =>
  (s_ai σ x1 ((32 * (30 + v1)) + v5)).bind fun x2 =>
  if v3 = 0 then (if x2 = 0 then (R_X8_isEnough_46 v0 v1 v2 v4 v5 x2 0 σ)
  else (R_X8_isEnough_41 v0 v1 v2 v4 v5 x2 σ))
  else (R_X8_isEnough_41 v0 v1 v2 v4 v5 x2 σ))) := by
  unfold R_X8_isEnough_8
  rw [s_run_eq]
  show s_go _ _ (T_X8_isEnough_8 v0 v1 v2 v3 v4 v5 σ) = _
  unfold T_X8_isEnough_8
  simp only [s_go_bind, s_go_ite, s_go_sum, s_go_l, s_go_r, s_go_n]
  try rfl
theorem E_X8_isEnough_41 {v0 : Nat} {v1 : Int32} {v2 : Int32} {v4 : Int32} {v5 : Int32} {v6 : Int32} {σ : sS} : R_X8_isEnough_41 v0 v1 v2 v4 v5 v6 σ = (R_X8_isEnough_46 v0 v1 v2 v4 v5 v6 1 σ) := by
  unfold R_X8_isEnough_41
  rw [s_run_eq]
  show s_go _ _ (T_X8_isEnough_41 v0 v1 v2 v4 v5 v6 σ) = _
  unfold T_X8_isEnough_41
  simp only [s_go_bind, s_go_ite, s_go_sum, s_go_l, s_go_r, s_go_n]
  try rfl
theorem E_X8_isEnough_46 {v0 : Nat} {v1 : Int32} {v2 : Int32} {v4 : Int32} {v5 : Int32} {v6 : Int32} {w0 : Int32} {σ : sS} : R_X8_isEnough_46 v0 v1 v2 v4 v5 v6 w0 σ = (if v4 = 0 then (R_X8_isEnough_76 v0 v1 v2 w0 v5 σ)
  else ((s_fr σ v0 8 21).bind fun x1 =>
  (s_ai σ x1 ((32 * v2) + v5)).bind fun x2 =>
  if (v6 &&& (x2 ^^^ (-1))) = 0 then (R_X8_isEnough_77 v0 v1 v2 w0 v5 1 σ)
  else (R_X8_isEnough_76 v0 v1 v2 w0 v5 σ))) := by
  unfold R_X8_isEnough_46
  rw [s_run_eq]
  show s_go _ _ (T_X8_isEnough_46 v0 v1 v2 v4 v5 v6 w0 σ) = _
  unfold T_X8_isEnough_46
  simp only [s_go_bind, s_go_ite, s_go_sum, s_go_l, s_go_r, s_go_n]
  try rfl
theorem E_X8_isEnough_76 {v0 : Nat} {v1 : Int32} {v2 : Int32} {v3 : Int32} {v5 : Int32} {σ : sS} : R_X8_isEnough_76 v0 v1 v2 v3 v5 σ = (R_X8_isEnough_77 v0 v1 v2 v3 v5 0 σ) := by
  unfold R_X8_isEnough_76
  rw [s_run_eq]
  show s_go _ _ (T_X8_isEnough_76 v0 v1 v2 v3 v5 σ) = _
  unfold T_X8_isEnough_76
  simp only [s_go_bind, s_go_ite, s_go_sum, s_go_l, s_go_r, s_go_n]
  try rfl
theorem E_X8_isEnough_77 {v0 : Nat} {v1 : Int32} {v2 : Int32} {v3 : Int32} {v5 : Int32} {w0 : Int32} {σ : sS} : R_X8_isEnough_77 v0 v1 v2 v3 v5 w0 σ = (R_X8_isEnough_8 v0 v1 v2 v3 w0 (v5 + 1) σ) := by
  unfold R_X8_isEnough_77
  rw [s_run_eq]
  show s_go _ _ (T_X8_isEnough_77 v0 v1 v2 v3 v5 w0 σ) = _
  unfold T_X8_isEnough_77
  simp only [s_go_bind, s_go_ite, s_go_sum, s_go_l, s_go_r, s_go_n]
  try rfl
theorem E_X8_isEnough {v0 : Nat} {v1 : Int32} {v2 : Int32} {σ : sS} : F_X8_isEnough v0 v1 v2 σ = ((s_is σ v0 8).bind fun _ => R_X8_isEnough_0 v0 v1 v2 σ) := rfl
/-! X8_bitsOf -/
noncomputable def R_X8_bitsOf_0 (v0 : Nat) (v1 : Int32) (σ : sS) : Option (Int32 × sS) := s_run (S_X8_bitsOf ) (0, [.ref v0, .int v1], σ)
noncomputable def R_X8_bitsOf_4 (v0 : Nat) (v1 : Int32) (v2 : Int32) (v3 : Int32) (σ : sS) : Option (Int32 × sS) := s_run (S_X8_bitsOf ) (4, [.ref v0, .int v1, .int v2, .int v3], σ)
theorem E_X8_bitsOf_0 {v0 : Nat} {v1 : Int32} {σ : sS} : R_X8_bitsOf_0 v0 v1 σ = (R_X8_bitsOf_4 v0 v1 0 0 σ) := by
  unfold R_X8_bitsOf_0
  rw [s_run_eq]
  show s_go _ _ (T_X8_bitsOf_0 v0 v1 σ) = _
  unfold T_X8_bitsOf_0
  simp only [s_go_bind, s_go_ite, s_go_sum, s_go_l, s_go_r, s_go_n]
  try rfl
theorem E_X8_bitsOf_4 {v0 : Nat} {v1 : Int32} {v2 : Int32} {v3 : Int32} {σ : sS} : R_X8_bitsOf_4 v0 v1 v2 v3 σ = (if v1 ≤ v3 then (some (v2, σ))
  else ((s_fr σ v0 8 22).bind fun x1 =>
  (s_ai σ x1 v3).bind fun x2 =>
  R_X8_bitsOf_4 v0 v1 (v2 ||| (1 <<< (x2 &&& 31))) (v3 + 1) σ)) := by
  unfold R_X8_bitsOf_4
  rw [s_run_eq]
  show s_go _ _ (T_X8_bitsOf_4 v0 v1 v2 v3 σ) = _
  unfold T_X8_bitsOf_4
  simp only [s_go_bind, s_go_ite, s_go_sum, s_go_l, s_go_r, s_go_n]
  try rfl
theorem E_X8_bitsOf {v0 : Nat} {v1 : Int32} {σ : sS} : F_X8_bitsOf v0 v1 σ = ((s_is σ v0 8).bind fun _ => R_X8_bitsOf_0 v0 v1 σ) := rfl
/-! X8_narrows -/
noncomputable def R_X8_narrows_0 (v0 : Nat) (v1 : Int32) (v2 : Int32) (σ : sS) : Option (Unit × sS) := s_run (S_X8_narrows ) (0, [.ref v0, .int v1, .int v2], σ)
noncomputable def R_X8_narrows_2 (v0 : Nat) (v1 : Int32) (v2 : Int32) (v3 : Int32) (σ : sS) : Option (Unit × sS) := s_run (S_X8_narrows ) (2, [.ref v0, .int v1, .int v2, .int v3], σ)
theorem E_X8_narrows_0 {v0 : Nat} {v1 : Int32} {v2 : Int32} {σ : sS} : R_X8_narrows_0 v0 v1 v2 σ = (R_X8_narrows_2 v0 v1 v2 0 σ) := by
  unfold R_X8_narrows_0
  rw [s_run_eq]
  show s_go _ _ (T_X8_narrows_0 v0 v1 v2 σ) = _
  unfold T_X8_narrows_0
  simp only [s_go_bind, s_go_ite, s_go_sum, s_go_l, s_go_r, s_go_n]
  try rfl
theorem E_X8_narrows_2 {v0 : Nat} {v1 : Int32} {v2 : Int32} {v3 : Int32} {σ : sS} : R_X8_narrows_2 v0 v1 v2 v3 σ = (if (32 : Int32) ≤ v3 then (some ((), σ))
  else ((s_fr σ v0 8 21).bind fun x1 =>
  (s_fr σ v0 8 21).bind fun x2 =>
  (s_ai σ x2 ((32 * (30 + v1)) + v3)).bind fun x3 =>
  (s_fr σ v0 8 21).bind fun x4 =>
  (s_ai σ x4 ((32 * v2) + v3)).bind fun x5 =>
  (s_si σ x1 ((32 * ((30 + v1) + 1)) + v3) (x3 &&& x5)).bind fun σ6 =>
  R_X8_narrows_2 v0 v1 v2 (v3 + 1) σ6)) := by
  unfold R_X8_narrows_2
  rw [s_run_eq]
  show s_go _ _ (T_X8_narrows_2 v0 v1 v2 v3 σ) = _
  unfold T_X8_narrows_2
  simp only [s_go_bind, s_go_ite, s_go_sum, s_go_l, s_go_r, s_go_n]
  try rfl
theorem E_X8_narrows {v0 : Nat} {v1 : Int32} {v2 : Int32} {σ : sS} : F_X8_narrows v0 v1 v2 σ = ((s_is σ v0 8).bind fun _ => R_X8_narrows_0 v0 v1 v2 σ) := rfl
/-! X8_leastNamed -/
noncomputable def R_X8_leastNamed_0 (v0 : Nat) (v1 : Int32) (v2 : Int32) (σ : sS) : Option (Int32 × sS) := s_run (S_X8_leastNamed ) (0, [.ref v0, .int v1, .int v2], σ)
noncomputable def R_X8_leastNamed_9 (v0 : Nat) (v1 : Int32) (v2 : Int32) (v3 : Int32) (σ : sS) : Option (Int32 × sS) := s_run (S_X8_leastNamed ) (9, [.ref v0, .int v1, .int v2, .int v3], σ)
noncomputable def R_X8_leastNamed_58 (v0 : Nat) (v1 : Int32) (v2 : Int32) (v3 : Int32) (w0 : Int32) (σ : sS) : Option (Int32 × sS) := s_run (S_X8_leastNamed ) (58, [.ref v0, .int v1, .int v2, .int v3, .int w0], σ)
noncomputable def R_X8_leastNamed_70 (v0 : Nat) (v1 : Int32) (v2 : Int32) (v3 : Int32) (v4 : Int32) (σ : sS) : Option (Int32 × sS) := s_run (S_X8_leastNamed ) (70, [.ref v0, .int v1, .int v2, .int v3, .int v4], σ)
noncomputable def R_X8_leastNamed_108 (v0 : Nat) (v1 : Int32) (v2 : Int32) (v3 : Int32) (v4 : Int32) (σ : sS) : Option (Int32 × sS) := s_run (S_X8_leastNamed ) (108, [.ref v0, .int v1, .int v2, .int v3, .int v4], σ)
noncomputable def R_X8_leastNamed_151 (v0 : Nat) (v1 : Int32) (v2 : Int32) (v3 : Int32) (σ : sS) : Option (Int32 × sS) := s_run (S_X8_leastNamed ) (151, [.ref v0, .int v1, .int v2, .int v3], σ)
theorem E_X8_leastNamed_0 {v0 : Nat} {v1 : Int32} {v2 : Int32} {σ : sS} : R_X8_leastNamed_0 v0 v1 v2 σ = ((s_fr σ v0 8 22).bind fun x1 =>
  (s_si σ x1 0 (-1)).bind fun σ2 =>
  R_X8_leastNamed_9 v0 v1 v2 0 σ2) := by
  unfold R_X8_leastNamed_0
  rw [s_run_eq]
  show s_go _ _ (T_X8_leastNamed_0 v0 v1 v2 σ) = _
  unfold T_X8_leastNamed_0
  simp only [s_go_bind, s_go_ite, s_go_sum, s_go_l, s_go_r, s_go_n]
  try rfl
theorem E_X8_leastNamed_9 {v0 : Nat} {v1 : Int32} {v2 : Int32} {v3 : Int32} {σ : sS} : R_X8_leastNamed_9 v0 v1 v2 v3 σ = (if v3 < 0 then (some ((-1), σ))
  else (if v3 = v1 then ((F_X8_isEnough v0 v3 v2 σ).bind fun q4 =>
  if q4.1 = 0 then (R_X8_leastNamed_9 v0 v1 v2 (v3 + (-1)) q4.2)
  else ((F_X8_bitsOf v0 v1 q4.2).bind fun q5 =>
  some (q5.1, q5.2)))
  else (if v3 = 0 then ((F_X8_formulas v0 σ).bind fun q3 =>
  R_X8_leastNamed_58 v0 v1 v2 v3 q3.1 q3.2)
  else ((s_fr σ v0 8 22).bind fun x1 =>
  (s_ai σ x1 (v3 - 1)).bind fun x2 =>
  R_X8_leastNamed_58 v0 v1 v2 v3 x2 σ)))) := by
  unfold R_X8_leastNamed_9
  rw [s_run_eq]
  show s_go _ _ (T_X8_leastNamed_9 v0 v1 v2 v3 σ) = _
  unfold T_X8_leastNamed_9
  simp only [s_go_bind, s_go_ite, s_go_sum, s_go_l, s_go_r, s_go_n]
  try rfl
theorem E_X8_leastNamed_58 {v0 : Nat} {v1 : Int32} {v2 : Int32} {v3 : Int32} {w0 : Int32} {σ : sS} : R_X8_leastNamed_58 v0 v1 v2 v3 w0 σ = ((s_fr σ v0 8 22).bind fun x1 =>
  (s_ai σ x1 v3).bind fun x2 =>
  (s_si σ x1 v3 (x2 + 1)).bind fun σ3 =>
  R_X8_leastNamed_70 v0 v1 v2 v3 w0 σ3) := by
  unfold R_X8_leastNamed_58
  rw [s_run_eq]
  show s_go _ _ (T_X8_leastNamed_58 v0 v1 v2 v3 w0 σ) = _
  unfold T_X8_leastNamed_58
  simp only [s_go_bind, s_go_ite, s_go_sum, s_go_l, s_go_r, s_go_n]
  try rfl
theorem E_X8_leastNamed_70 {v0 : Nat} {v1 : Int32} {v2 : Int32} {v3 : Int32} {v4 : Int32} {σ : sS} : R_X8_leastNamed_70 v0 v1 v2 v3 v4 σ = ((s_fr σ v0 8 22).bind fun x1 =>
  (s_ai σ x1 v3).bind fun x2 =>
  if v4 ≤ x2 then (R_X8_leastNamed_108 v0 v1 v2 v3 v4 σ)
  else ((s_fr σ v0 8 22).bind fun x3 =>
  (s_ai σ x3 v3).bind fun x4 =>
  (F_X8_isSame v0 x4 v2 σ).bind fun q5 =>
  if q5.1 = 0 then (R_X8_leastNamed_108 v0 v1 v2 v3 v4 q5.2)
  else ((s_fr q5.2 v0 8 22).bind fun x6 =>
  (s_ai q5.2 x6 v3).bind fun x7 =>
  (s_si q5.2 x6 v3 (x7 + 1)).bind fun σ8 =>
  R_X8_leastNamed_70 v0 v1 v2 v3 v4 σ8))) := by
  unfold R_X8_leastNamed_70
  rw [s_run_eq]
  show s_go _ _ (T_X8_leastNamed_70 v0 v1 v2 v3 v4 σ) = _
  unfold T_X8_leastNamed_70
  simp only [s_go_bind, s_go_ite, s_go_sum, s_go_l, s_go_r, s_go_n]
  try rfl
theorem E_X8_leastNamed_108 {v0 : Nat} {v1 : Int32} {v2 : Int32} {v3 : Int32} {v4 : Int32} {σ : sS} : R_X8_leastNamed_108 v0 v1 v2 v3 v4 σ = ((s_fr σ v0 8 22).bind fun x1 =>
  (s_ai σ x1 v3).bind fun x2 =>
  if x2 < v4 then ((s_fr σ v0 8 22).bind fun x3 =>
  (s_ai σ x3 v3).bind fun x4 =>
  (F_X8_narrows v0 v3 x4 σ).bind fun q5 =>
  if v1 ≤ (v3 + 1) then (R_X8_leastNamed_151 v0 v1 v2 (v3 + 1) q5.2)
  else ((s_fr q5.2 v0 8 22).bind fun x6 =>
  (s_si q5.2 x6 (v3 + 1) (-1)).bind fun σ7 =>
  R_X8_leastNamed_151 v0 v1 v2 (v3 + 1) σ7))
  else (R_X8_leastNamed_9 v0 v1 v2 (v3 + (-1)) σ)) := by
  unfold R_X8_leastNamed_108
  rw [s_run_eq]
  show s_go _ _ (T_X8_leastNamed_108 v0 v1 v2 v3 v4 σ) = _
  unfold T_X8_leastNamed_108
  simp only [s_go_bind, s_go_ite, s_go_sum, s_go_l, s_go_r, s_go_n]
  try rfl
theorem E_X8_leastNamed_151 {v0 : Nat} {v1 : Int32} {v2 : Int32} {v3 : Int32} {σ : sS} : R_X8_leastNamed_151 v0 v1 v2 v3 σ = (R_X8_leastNamed_9 v0 v1 v2 v3 σ) := by
  unfold R_X8_leastNamed_151
  rw [s_run_eq]
  show s_go _ _ (T_X8_leastNamed_151 v0 v1 v2 v3 σ) = _
  unfold T_X8_leastNamed_151
  simp only [s_go_bind, s_go_ite, s_go_sum, s_go_l, s_go_r, s_go_n]
  try rfl
theorem E_X8_leastNamed {v0 : Nat} {v1 : Int32} {v2 : Int32} {σ : sS} : F_X8_leastNamed v0 v1 v2 σ = ((s_is σ v0 8).bind fun _ => R_X8_leastNamed_0 v0 v1 v2 σ) := rfl
/-! X8_more -/
noncomputable def R_X8_more_0 (v0 : Nat) (v1 : Int32) (v2 : Int32) (σ : sS) : Option (Int32 × sS) := s_run (S_X8_more ) (0, [.ref v0, .int v1, .int v2], σ)
noncomputable def R_X8_more_21 (v0 : Nat) (v1 : Int32) (v2 : Int32) (w0 : Nat) (σ : sS) : Option (Int32 × sS) := s_run (S_X8_more ) (21, [.ref v0, .int v1, .int v2, .ref w0], σ)
noncomputable def R_X8_more_26 (v0 : Nat) (v1 : Int32) (v2 : Int32) (w0 : Int32) (w1 : Nat) (σ : sS) : Option (Int32 × sS) := s_run (S_X8_more ) (26, [.ref v0, .int v1, .int v2, .int w0, .ref w1], σ)
noncomputable def R_X8_more_41 (v0 : Nat) (v1 : Int32) (v2 : Int32) (v3 : Int32) (σ : sS) : Option (Int32 × sS) := s_run (S_X8_more ) (41, [.ref v0, .int v1, .int v2, .int v3], σ)
noncomputable def R_X8_more_66 (v0 : Nat) (v1 : Int32) (v2 : Int32) (v3 : Int32) (σ : sS) : Option (Int32 × sS) := s_run (S_X8_more ) (66, [.ref v0, .int v1, .int v2, .int v3], σ)
noncomputable def R_X8_more_111 (v0 : Nat) (v1 : Int32) (v2 : Int32) (v3 : Int32) (w0 : Int32) (w1 : Int32) (w2 : Int32) (w3 : Nat) (σ : sS) : Option (Int32 × sS) := s_run (S_X8_more ) (111, [.ref v0, .int v1, .int v2, .int v3, .int w0, .int w1, .int w2, .ref w3], σ)
noncomputable def R_X8_more_121 (v0 : Nat) (v2 : Int32) (v3 : Int32) (σ : sS) : Option (Int32 × sS) := s_run (S_X8_more ) (121, [.ref v0, .int v2, .int v3], σ)
theorem E_X8_more_0 {v0 : Nat} {v1 : Int32} {v2 : Int32} {σ : sS} : R_X8_more_0 v0 v1 v2 σ = ((s_pf σ v0 8 0 (.int 0)).bind fun σ1 =>
  (F_X8_noCustomer v1 σ1).bind fun q2 =>
  if q2.1 = 0 then ((F_X8_noFormula v0 v2 q2.2).bind fun q3 =>
  if q3.1 = 0 then (R_X8_more_26 v0 v1 v2 0 v0 q3.2)
  else (R_X8_more_21 v0 v1 v2 v0 q3.2))
  else (R_X8_more_21 v0 v1 v2 v0 q2.2)) := by
  unfold R_X8_more_0
  rw [s_run_eq]
  show s_go _ _ (T_X8_more_0 v0 v1 v2 σ) = _
  unfold T_X8_more_0
  simp only [s_go_bind, s_go_ite, s_go_sum, s_go_l, s_go_r, s_go_n]
  try rfl
theorem E_X8_more_21 {v0 : Nat} {v1 : Int32} {v2 : Int32} {w0 : Nat} {σ : sS} : R_X8_more_21 v0 v1 v2 w0 σ = (R_X8_more_26 v0 v1 v2 1 w0 σ) := by
  unfold R_X8_more_21
  rw [s_run_eq]
  show s_go _ _ (T_X8_more_21 v0 v1 v2 w0 σ) = _
  unfold T_X8_more_21
  simp only [s_go_bind, s_go_ite, s_go_sum, s_go_l, s_go_r, s_go_n]
  try rfl
theorem E_X8_more_26 {v0 : Nat} {v1 : Int32} {v2 : Int32} {w0 : Int32} {w1 : Nat} {σ : sS} : R_X8_more_26 v0 v1 v2 w0 w1 σ = ((F_X8_throwsIf w1 w0 1 σ).bind fun q1 =>
  if q1.1 = 0 then ((F_X8_worldsOfAll v0 q1.2).bind fun q2 =>
  R_X8_more_41 v0 v1 v2 0 q2.2)
  else (some (0, q1.2))) := by
  unfold R_X8_more_26
  rw [s_run_eq]
  show s_go _ _ (T_X8_more_26 v0 v1 v2 w0 w1 σ) = _
  unfold T_X8_more_26
  simp only [s_go_bind, s_go_ite, s_go_sum, s_go_l, s_go_r, s_go_n]
  try rfl
theorem E_X8_more_41 {v0 : Nat} {v1 : Int32} {v2 : Int32} {v3 : Int32} {σ : sS} : R_X8_more_41 v0 v1 v2 v3 σ = (if (32 : Int32) ≤ v3 then (R_X8_more_66 v0 v1 v2 0 σ)
  else ((s_fr σ v0 8 21).bind fun x1 =>
  (s_si σ x1 (960 + v3) 0).bind fun σ2 =>
  R_X8_more_41 v0 v1 v2 (v3 + 1) σ2)) := by
  unfold R_X8_more_41
  rw [s_run_eq]
  show s_go _ _ (T_X8_more_41 v0 v1 v2 v3 σ) = _
  unfold T_X8_more_41
  simp only [s_go_bind, s_go_ite, s_go_sum, s_go_l, s_go_r, s_go_n]
  try rfl
theorem E_X8_more_66 {v0 : Nat} {v1 : Int32} {v2 : Int32} {v3 : Int32} {σ : sS} : R_X8_more_66 v0 v1 v2 v3 σ = ((F_X8_worldsMany v0 σ).bind fun q1 =>
  if q1.1 ≤ v3 then (R_X8_more_121 v0 v2 0 q1.2)
  else ((s_fr q1.2 v0 8 21).bind fun x2 =>
  (s_ai q1.2 x2 (960 + (v3 / 32))).bind fun x3 =>
  (F_X8_beliefsOf v0 v1 q1.2).bind fun q4 =>
  (F_X8_holdAll v0 q4.1 v3 q4.2).bind fun q5 =>
  if q5.1 = 0 then (R_X8_more_111 v0 v1 v2 v3 0 x3 (960 + (v3 / 32)) x2 q5.2)
  else (R_X8_more_111 v0 v1 v2 v3 (1 <<< ((v3 - v3 / 32 * 32) &&& 31)) x3 (960 + (v3 / 32)) x2 q5.2))) := by
  unfold R_X8_more_66
  rw [s_run_eq]
  show s_go _ _ (T_X8_more_66 v0 v1 v2 v3 σ) = _
  unfold T_X8_more_66
  simp only [s_go_bind, s_go_ite, s_go_sum, s_go_l, s_go_r, s_go_n]
  try rfl
theorem E_X8_more_111 {v0 : Nat} {v1 : Int32} {v2 : Int32} {v3 : Int32} {w0 : Int32} {w1 : Int32} {w2 : Int32} {w3 : Nat} {σ : sS} : R_X8_more_111 v0 v1 v2 v3 w0 w1 w2 w3 σ = ((s_si σ w3 w2 (w1 ||| w0)).bind fun σ1 =>
  R_X8_more_66 v0 v1 v2 (v3 + 1) σ1) := by
  unfold R_X8_more_111
  rw [s_run_eq]
  show s_go _ _ (T_X8_more_111 v0 v1 v2 v3 w0 w1 w2 w3 σ) = _
  unfold T_X8_more_111
  simp only [s_go_bind, s_go_ite, s_go_sum, s_go_l, s_go_r, s_go_n]
  try rfl
theorem E_X8_more_121 {v0 : Nat} {v2 : Int32} {v3 : Int32} {σ : sS} : R_X8_more_121 v0 v2 v3 σ = (if (3 : Int32) < v3 then (some ((-1), σ))
  else ((F_X8_leastNamed v0 v3 v2 σ).bind fun q1 =>
  if q1.1 < 0 then (R_X8_more_121 v0 v2 (v3 + 1) q1.2)
  else (some (q1.1, q1.2)))) := by
  unfold R_X8_more_121
  rw [s_run_eq]
  show s_go _ _ (T_X8_more_121 v0 v2 v3 σ) = _
  unfold T_X8_more_121
  simp only [s_go_bind, s_go_ite, s_go_sum, s_go_l, s_go_r, s_go_n]
  try rfl
theorem E_X8_more {v0 : Nat} {v1 : Int32} {v2 : Int32} {σ : sS} : F_X8_more v0 v1 v2 σ = ((s_is σ v0 8).bind fun _ => R_X8_more_0 v0 v1 v2 σ) := rfl
/-! X8_receipts -/
noncomputable def R_X8_receipts_0 (v0 : Nat) (σ : sS) : Option (Int32 × sS) := s_run (S_X8_receipts ) (0, [.ref v0], σ)
theorem E_X8_receipts_0 {v0 : Nat} {σ : sS} : R_X8_receipts_0 v0 σ = ((s_fr σ v0 8 1).bind fun x1 =>
  (s_ai σ x1 3).bind fun x2 =>
  some (x2, σ)) := by
  unfold R_X8_receipts_0
  rw [s_run_eq]
  show s_go _ _ (T_X8_receipts_0 v0 σ) = _
  unfold T_X8_receipts_0
  simp only [s_go_bind, s_go_ite, s_go_sum, s_go_l, s_go_r, s_go_n]
  try rfl
theorem E_X8_receipts {v0 : Nat} {σ : sS} : F_X8_receipts v0 σ = ((s_is σ v0 8).bind fun _ => R_X8_receipts_0 v0 σ) := rfl
/-! X8_ofReceipt -/
noncomputable def R_X8_ofReceipt_0 (v0 : Nat) (v1 : Int32) (v2 : Int32) (σ : sS) : Option (Int32 × sS) := s_run (S_X8_ofReceipt ) (0, [.ref v0, .int v1, .int v2], σ)
theorem E_X8_ofReceipt_0 {v0 : Nat} {v1 : Int32} {v2 : Int32} {σ : sS} : R_X8_ofReceipt_0 v0 v1 v2 σ = ((s_fr σ v0 8 1).bind fun x1 =>
  (s_ai σ x1 ((1532 + (5 * v1)) + v2)).bind fun x2 =>
  some (x2, σ)) := by
  unfold R_X8_ofReceipt_0
  rw [s_run_eq]
  show s_go _ _ (T_X8_ofReceipt_0 v0 v1 v2 σ) = _
  unfold T_X8_ofReceipt_0
  simp only [s_go_bind, s_go_ite, s_go_sum, s_go_l, s_go_r, s_go_n]
  try rfl
theorem E_X8_ofReceipt {v0 : Nat} {v1 : Int32} {v2 : Int32} {σ : sS} : F_X8_ofReceipt v0 v1 v2 σ = ((s_is σ v0 8).bind fun _ => R_X8_ofReceipt_0 v0 v1 v2 σ) := rfl
/-! X8_isVoid -/
noncomputable def R_X8_isVoid_0 (v0 : Nat) (v1 : Int32) (σ : sS) : Option (Int32 × sS) := s_run (S_X8_isVoid ) (0, [.ref v0, .int v1], σ)
theorem E_X8_isVoid_0 {v0 : Nat} {v1 : Int32} {σ : sS} : R_X8_isVoid_0 v0 v1 σ = ((F_X8_ofReceipt v0 v1 4 σ).bind fun q1 =>
  if q1.1 = 1 then (some (1, q1.2))
  else (some (0, q1.2))) := by
  unfold R_X8_isVoid_0
  rw [s_run_eq]
  show s_go _ _ (T_X8_isVoid_0 v0 v1 σ) = _
  unfold T_X8_isVoid_0
  simp only [s_go_bind, s_go_ite, s_go_sum, s_go_l, s_go_r, s_go_n]
  try rfl
theorem E_X8_isVoid {v0 : Nat} {v1 : Int32} {σ : sS} : F_X8_isVoid v0 v1 σ = ((s_is σ v0 8).bind fun _ => R_X8_isVoid_0 v0 v1 σ) := rfl
/-! X8_isAhead -/
noncomputable def R_X8_isAhead_0 (v0 : Nat) (v1 : Int32) (v2 : Int32) (σ : sS) : Option (Int32 × sS) := s_run (S_X8_isAhead ) (0, [.ref v0, .int v1, .int v2], σ)
theorem E_X8_isAhead_0 {v0 : Nat} {v1 : Int32} {v2 : Int32} {σ : sS} : R_X8_isAhead_0 v0 v1 v2 σ = ((F_X8_ofReceipt v0 v1 3 σ).bind fun q1 =>
  (F_X8_ofReceipt v0 v2 3 q1.2).bind fun q2 =>
  if q1.1 = q2.1 then (if v2 ≤ v1 then (some (0, q2.2))
  else (some (1, q2.2)))
  else ((F_X8_ofReceipt v0 v1 3 q2.2).bind fun q3 =>
  (F_X8_ofReceipt v0 v2 3 q3.2).bind fun q4 =>
  if q4.1 ≤ q3.1 then (some (0, q4.2))
  else (some (1, q4.2)))) := by
  unfold R_X8_isAhead_0
  rw [s_run_eq]
  show s_go _ _ (T_X8_isAhead_0 v0 v1 v2 σ) = _
  unfold T_X8_isAhead_0
  simp only [s_go_bind, s_go_ite, s_go_sum, s_go_l, s_go_r, s_go_n]
  try rfl
theorem E_X8_isAhead {v0 : Nat} {v1 : Int32} {v2 : Int32} {σ : sS} : F_X8_isAhead v0 v1 v2 σ = ((s_is σ v0 8).bind fun _ => R_X8_isAhead_0 v0 v1 v2 σ) := rfl
/-! X8_isAgain -/
noncomputable def R_X8_isAgain_0 (v0 : Nat) (v1 : Int32) (σ : sS) : Option (Int32 × sS) := s_run (S_X8_isAgain ) (0, [.ref v0, .int v1], σ)
noncomputable def R_X8_isAgain_4 (v0 : Nat) (v1 : Int32) (v2 : Int32) (v3 : Int32) (σ : sS) : Option (Int32 × sS) := s_run (S_X8_isAgain ) (4, [.ref v0, .int v1, .int v2, .int v3], σ)
noncomputable def R_X8_isAgain_82 (v0 : Nat) (v1 : Int32) (v3 : Int32) (σ : sS) : Option (Int32 × sS) := s_run (S_X8_isAgain ) (82, [.ref v0, .int v1, .int v3], σ)
noncomputable def R_X8_isAgain_86 (v0 : Nat) (v1 : Int32) (v3 : Int32) (σ : sS) : Option (Int32 × sS) := s_run (S_X8_isAgain ) (86, [.ref v0, .int v1, .int v3], σ)
noncomputable def R_X8_isAgain_87 (v0 : Nat) (v1 : Int32) (v3 : Int32) (w0 : Int32) (σ : sS) : Option (Int32 × sS) := s_run (S_X8_isAgain ) (87, [.ref v0, .int v1, .int v3, .int w0], σ)
theorem E_X8_isAgain_0 {v0 : Nat} {v1 : Int32} {σ : sS} : R_X8_isAgain_0 v0 v1 σ = (R_X8_isAgain_4 v0 v1 0 0 σ) := by
  unfold R_X8_isAgain_0
  rw [s_run_eq]
  show s_go _ _ (T_X8_isAgain_0 v0 v1 σ) = _
  unfold T_X8_isAgain_0
  simp only [s_go_bind, s_go_ite, s_go_sum, s_go_l, s_go_r, s_go_n]
  try rfl
theorem E_X8_isAgain_4 {v0 : Nat} {v1 : Int32} {v2 : Int32} {v3 : Int32} {σ : sS} : R_X8_isAgain_4 v0 v1 v2 v3 σ = ((F_X8_receipts v0 σ).bind fun q1 =>
  if q1.1 ≤ v3 then (if (v2 = 0 ∨ v2 = 1) then (some (v2, q1.2)) else none)
  else (if v2 = 0 then (if v3 = v1 then (R_X8_isAgain_86 v0 v1 v3 q1.2)
  else ((F_X8_isVoid v0 v3 q1.2).bind fun q2 =>
  if q2.1 = 0 then ((F_X8_isAhead v0 v3 v1 q2.2).bind fun q3 =>
  if q3.1 = 0 then (R_X8_isAgain_86 v0 v1 v3 q3.2)
  else ((F_X8_ofReceipt v0 v3 1 q3.2).bind fun q4 =>
  (F_X8_ofReceipt v0 v1 1 q4.2).bind fun q5 =>
  if q4.1 = q5.1 then ((F_X8_ofReceipt v0 v3 0 q5.2).bind fun q6 =>
  (F_X8_ofLine v0 q6.1 1 q6.2).bind fun q7 =>
  (F_X8_ofReceipt v0 v1 0 q7.2).bind fun q8 =>
  (F_X8_ofLine v0 q8.1 1 q8.2).bind fun q9 =>
  (F_X8_isSame v0 q7.1 q9.1 q9.2).bind fun q10 =>
  if q10.1 = 0 then (R_X8_isAgain_86 v0 v1 v3 q10.2)
  else (R_X8_isAgain_82 v0 v1 v3 q10.2))
  else (R_X8_isAgain_86 v0 v1 v3 q5.2)))
  else (R_X8_isAgain_86 v0 v1 v3 q2.2)))
  else (R_X8_isAgain_82 v0 v1 v3 q1.2))) := by
  unfold R_X8_isAgain_4
  rw [s_run_eq]
  show s_go _ _ (T_X8_isAgain_4 v0 v1 v2 v3 σ) = _
  unfold T_X8_isAgain_4
  simp only [s_go_bind, s_go_ite, s_go_sum, s_go_l, s_go_r, s_go_n]
  try rfl
theorem E_X8_isAgain_82 {v0 : Nat} {v1 : Int32} {v3 : Int32} {σ : sS} : R_X8_isAgain_82 v0 v1 v3 σ = (R_X8_isAgain_87 v0 v1 v3 1 σ) := by
  unfold R_X8_isAgain_82
  rw [s_run_eq]
  show s_go _ _ (T_X8_isAgain_82 v0 v1 v3 σ) = _
  unfold T_X8_isAgain_82
  simp only [s_go_bind, s_go_ite, s_go_sum, s_go_l, s_go_r, s_go_n]
  try rfl
theorem E_X8_isAgain_86 {v0 : Nat} {v1 : Int32} {v3 : Int32} {σ : sS} : R_X8_isAgain_86 v0 v1 v3 σ = (R_X8_isAgain_87 v0 v1 v3 0 σ) := by
  unfold R_X8_isAgain_86
  rw [s_run_eq]
  show s_go _ _ (T_X8_isAgain_86 v0 v1 v3 σ) = _
  unfold T_X8_isAgain_86
  simp only [s_go_bind, s_go_ite, s_go_sum, s_go_l, s_go_r, s_go_n]
  try rfl
theorem E_X8_isAgain_87 {v0 : Nat} {v1 : Int32} {v3 : Int32} {w0 : Int32} {σ : sS} : R_X8_isAgain_87 v0 v1 v3 w0 σ = (R_X8_isAgain_4 v0 v1 w0 (v3 + 1) σ) := by
  unfold R_X8_isAgain_87
  rw [s_run_eq]
  show s_go _ _ (T_X8_isAgain_87 v0 v1 v3 w0 σ) = _
  unfold T_X8_isAgain_87
  simp only [s_go_bind, s_go_ite, s_go_sum, s_go_l, s_go_r, s_go_n]
  try rfl
theorem E_X8_isAgain {v0 : Nat} {v1 : Int32} {σ : sS} : F_X8_isAgain v0 v1 σ = ((s_is σ v0 8).bind fun _ => R_X8_isAgain_0 v0 v1 σ) := rfl
/-! X8_isBack -/
noncomputable def R_X8_isBack_0 (v0 : Nat) (v1 : Int32) (v2 : Int32) (σ : sS) : Option (Int32 × sS) := s_run (S_X8_isBack ) (0, [.ref v0, .int v1, .int v2], σ)
noncomputable def R_X8_isBack_31 (v0 : Nat) (v1 : Int32) (v2 : Int32) (v3 : Int32) (σ : sS) : Option (Int32 × sS) := s_run (S_X8_isBack ) (31, [.ref v0, .int v1, .int v2, .int v3], σ)
noncomputable def R_X8_isBack_46 (v0 : Nat) (v1 : Int32) (v2 : Int32) (v3 : Int32) (σ : sS) : Option (Int32 × sS) := s_run (S_X8_isBack ) (46, [.ref v0, .int v1, .int v2, .int v3], σ)
noncomputable def R_X8_isBack_68 (v0 : Nat) (v1 : Int32) (v2 : Int32) (v3 : Int32) (σ : sS) : Option (Int32 × sS) := s_run (S_X8_isBack ) (68, [.ref v0, .int v1, .int v2, .int v3], σ)
noncomputable def R_X8_isBack_83 (v0 : Nat) (v1 : Int32) (v2 : Int32) (σ : sS) : Option (Int32 × sS) := s_run (S_X8_isBack ) (83, [.ref v0, .int v1, .int v2], σ)
theorem E_X8_isBack_0 {v0 : Nat} {v1 : Int32} {v2 : Int32} {σ : sS} : R_X8_isBack_0 v0 v1 v2 σ = ((F_X8_isVoid v0 v1 σ).bind fun q1 =>
  if q1.1 = 0 then ((F_X8_ofReceipt v0 v1 0 q1.2).bind fun q2 =>
  if (v2 &&& 1) = 0 then (R_X8_isBack_31 v0 v1 v2 q2.1 q2.2)
  else ((F_X8_isHonest v0 q2.1 q2.2).bind fun q3 =>
  if q3.1 = 0 then (some (1, q3.2))
  else (R_X8_isBack_31 v0 v1 v2 q2.1 q3.2)))
  else (some (0, q1.2))) := by
  unfold R_X8_isBack_0
  rw [s_run_eq]
  show s_go _ _ (T_X8_isBack_0 v0 v1 v2 σ) = _
  unfold T_X8_isBack_0
  simp only [s_go_bind, s_go_ite, s_go_sum, s_go_l, s_go_r, s_go_n]
  try rfl
theorem E_X8_isBack_31 {v0 : Nat} {v1 : Int32} {v2 : Int32} {v3 : Int32} {σ : sS} : R_X8_isBack_31 v0 v1 v2 v3 σ = (if (v2 &&& 2) = 0 then (R_X8_isBack_46 v0 v1 v2 v3 σ)
  else ((s_fr σ v0 8 17).bind fun x1 =>
  (s_ab σ x1 v3).bind fun x2 =>
  if x2 = 0 then (some (1, σ))
  else (R_X8_isBack_46 v0 v1 v2 v3 σ))) := by
  unfold R_X8_isBack_31
  rw [s_run_eq]
  show s_go _ _ (T_X8_isBack_31 v0 v1 v2 v3 σ) = _
  unfold T_X8_isBack_31
  simp only [s_go_bind, s_go_ite, s_go_sum, s_go_l, s_go_r, s_go_n]
  try rfl
theorem E_X8_isBack_46 {v0 : Nat} {v1 : Int32} {v2 : Int32} {v3 : Int32} {σ : sS} : R_X8_isBack_46 v0 v1 v2 v3 σ = (if (v2 &&& 4) = 0 then (R_X8_isBack_68 v0 v1 v2 v3 σ)
  else ((F_X8_isStale v0 v3 σ).bind fun q1 =>
  if q1.1 = 0 then (R_X8_isBack_68 v0 v1 v2 v3 q1.2)
  else ((F_X8_isSaved v0 v3 q1.2).bind fun q2 =>
  if q2.1 = 0 then (some (1, q2.2))
  else (R_X8_isBack_68 v0 v1 v2 v3 q2.2)))) := by
  unfold R_X8_isBack_46
  rw [s_run_eq]
  show s_go _ _ (T_X8_isBack_46 v0 v1 v2 v3 σ) = _
  unfold T_X8_isBack_46
  simp only [s_go_bind, s_go_ite, s_go_sum, s_go_l, s_go_r, s_go_n]
  try rfl
theorem E_X8_isBack_68 {v0 : Nat} {v1 : Int32} {v2 : Int32} {v3 : Int32} {σ : sS} : R_X8_isBack_68 v0 v1 v2 v3 σ = (if (v2 &&& 8) = 0 then (R_X8_isBack_83 v0 v1 v2 σ)
  else ((F_X8_isOpen v0 v3 σ).bind fun q1 =>
  if q1.1 = 0 then (R_X8_isBack_83 v0 v1 v2 q1.2)
  else (some (1, q1.2)))) := by
  unfold R_X8_isBack_68
  rw [s_run_eq]
  show s_go _ _ (T_X8_isBack_68 v0 v1 v2 v3 σ) = _
  unfold T_X8_isBack_68
  simp only [s_go_bind, s_go_ite, s_go_sum, s_go_l, s_go_r, s_go_n]
  try rfl
theorem E_X8_isBack_83 {v0 : Nat} {v1 : Int32} {v2 : Int32} {σ : sS} : R_X8_isBack_83 v0 v1 v2 σ = (if (v2 &&& 16) = 0 then (some (0, σ))
  else ((F_X8_isAgain v0 v1 σ).bind fun q1 =>
  if q1.1 = 0 then (some (0, q1.2))
  else (some (1, q1.2)))) := by
  unfold R_X8_isBack_83
  rw [s_run_eq]
  show s_go _ _ (T_X8_isBack_83 v0 v1 v2 σ) = _
  unfold T_X8_isBack_83
  simp only [s_go_bind, s_go_ite, s_go_sum, s_go_l, s_go_r, s_go_n]
  try rfl
theorem E_X8_isBack {v0 : Nat} {v1 : Int32} {v2 : Int32} {σ : sS} : F_X8_isBack v0 v1 v2 σ = ((s_is σ v0 8).bind fun _ => R_X8_isBack_0 v0 v1 v2 σ) := rfl
/-! X8_seller -/
noncomputable def R_X8_seller_0 (v0 : Nat) (v1 : Int32) (σ : sS) : Option (Int32 × sS) := s_run (S_X8_seller ) (0, [.ref v0, .int v1], σ)
theorem E_X8_seller_0 {v0 : Nat} {v1 : Int32} {σ : sS} : R_X8_seller_0 v0 v1 σ = ((F_X8_ofReceipt v0 v1 0 σ).bind fun q1 =>
  (F_X8_ofLine v0 q1.1 0 q1.2).bind fun q2 =>
  some (q2.1, q2.2)) := by
  unfold R_X8_seller_0
  rw [s_run_eq]
  show s_go _ _ (T_X8_seller_0 v0 v1 σ) = _
  unfold T_X8_seller_0
  simp only [s_go_bind, s_go_ite, s_go_sum, s_go_l, s_go_r, s_go_n]
  try rfl
theorem E_X8_seller {v0 : Nat} {v1 : Int32} {σ : sS} : F_X8_seller v0 v1 σ = ((s_is σ v0 8).bind fun _ => R_X8_seller_0 v0 v1 σ) := rfl
/-! X8_gains -/
noncomputable def R_X8_gains_0 (v0 : Nat) (v1 : Int32) (v2 : Int32) (σ : sS) : Option (Int32 × sS) := s_run (S_X8_gains ) (0, [.ref v0, .int v1, .int v2], σ)
noncomputable def R_X8_gains_33 (v0 : Nat) (v1 : Int32) (v2 : Int32) (w0 : Int32) (w1 : Nat) (σ : sS) : Option (Int32 × sS) := s_run (S_X8_gains ) (33, [.ref v0, .int v1, .int v2, .int w0, .ref w1], σ)
noncomputable def R_X8_gains_51 (v0 : Nat) (v1 : Int32) (v2 : Int32) (v3 : Int32) (v4 : Int32) (σ : sS) : Option (Int32 × sS) := s_run (S_X8_gains ) (51, [.ref v0, .int v1, .int v2, .int v3, .int v4], σ)
noncomputable def R_X8_gains_79 (v0 : Nat) (v1 : Int32) (v2 : Int32) (v3 : Int32) (v4 : Int32) (σ : sS) : Option (Int32 × sS) := s_run (S_X8_gains ) (79, [.ref v0, .int v1, .int v2, .int v3, .int v4], σ)
noncomputable def R_X8_gains_90 (v0 : Nat) (v1 : Int32) (v2 : Int32) (v3 : Int32) (v4 : Int32) (w0 : Int32) (σ : sS) : Option (Int32 × sS) := s_run (S_X8_gains ) (90, [.ref v0, .int v1, .int v2, .int v3, .int v4, .int w0], σ)
noncomputable def R_X8_gains_128 (v0 : Nat) (v1 : Int32) (v2 : Int32) (v4 : Int32) (w0 : Int32) (w1 : Int32) (σ : sS) : Option (Int32 × sS) := s_run (S_X8_gains ) (128, [.ref v0, .int v1, .int v2, .int v4, .int w0, .int w1], σ)
theorem E_X8_gains_0 {v0 : Nat} {v1 : Int32} {v2 : Int32} {σ : sS} : R_X8_gains_0 v0 v1 v2 σ = ((s_pf σ v0 8 0 (.int 0)).bind fun σ1 =>
  (F_X8_noHouse v1 σ1).bind fun q2 =>
  (F_X8_throwsIf v0 q2.1 1 q2.2).bind fun q3 =>
  if q3.1 = 0 then ((F_X8_in v2 0 31 q3.2).bind fun q4 =>
  if q4.1 = 0 then (R_X8_gains_33 v0 v1 v2 1 v0 q4.2)
  else (R_X8_gains_33 v0 v1 v2 0 v0 q4.2))
  else (some (0, q3.2))) := by
  unfold R_X8_gains_0
  rw [s_run_eq]
  show s_go _ _ (T_X8_gains_0 v0 v1 v2 σ) = _
  unfold T_X8_gains_0
  simp only [s_go_bind, s_go_ite, s_go_sum, s_go_l, s_go_r, s_go_n]
  try rfl
theorem E_X8_gains_33 {v0 : Nat} {v1 : Int32} {v2 : Int32} {w0 : Int32} {w1 : Nat} {σ : sS} : R_X8_gains_33 v0 v1 v2 w0 w1 σ = ((F_X8_throwsIf w1 w0 2 σ).bind fun q1 =>
  if q1.1 = 0 then ((F_X8_goesThrough v0 q1.2).bind fun q2 =>
  R_X8_gains_51 v0 v1 v2 0 0 q2.2)
  else (some (0, q1.2))) := by
  unfold R_X8_gains_33
  rw [s_run_eq]
  show s_go _ _ (T_X8_gains_33 v0 v1 v2 w0 w1 σ) = _
  unfold T_X8_gains_33
  simp only [s_go_bind, s_go_ite, s_go_sum, s_go_l, s_go_r, s_go_n]
  try rfl
theorem E_X8_gains_51 {v0 : Nat} {v1 : Int32} {v2 : Int32} {v3 : Int32} {v4 : Int32} {σ : sS} : R_X8_gains_51 v0 v1 v2 v3 v4 σ = ((F_X8_receipts v0 σ).bind fun q1 =>
  if q1.1 ≤ v4 then (some (v3, q1.2))
  else ((F_X8_isVoid v0 v4 q1.2).bind fun q2 =>
  if q2.1 = 0 then ((F_X8_isBack v0 v4 v2 q2.2).bind fun q3 =>
  if q3.1 = 0 then ((F_X8_ofReceipt v0 v4 2 q3.2).bind fun q4 =>
  R_X8_gains_90 v0 v1 v2 v3 v4 q4.1 q4.2)
  else (R_X8_gains_79 v0 v1 v2 v3 v4 q3.2))
  else (R_X8_gains_79 v0 v1 v2 v3 v4 q2.2))) := by
  unfold R_X8_gains_51
  rw [s_run_eq]
  show s_go _ _ (T_X8_gains_51 v0 v1 v2 v3 v4 σ) = _
  unfold T_X8_gains_51
  simp only [s_go_bind, s_go_ite, s_go_sum, s_go_l, s_go_r, s_go_n]
  try rfl
theorem E_X8_gains_79 {v0 : Nat} {v1 : Int32} {v2 : Int32} {v3 : Int32} {v4 : Int32} {σ : sS} : R_X8_gains_79 v0 v1 v2 v3 v4 σ = (R_X8_gains_90 v0 v1 v2 v3 v4 0 σ) := by
  unfold R_X8_gains_79
  rw [s_run_eq]
  show s_go _ _ (T_X8_gains_79 v0 v1 v2 v3 v4 σ) = _
  unfold T_X8_gains_79
  simp only [s_go_bind, s_go_ite, s_go_sum, s_go_l, s_go_r, s_go_n]
  try rfl
theorem E_X8_gains_90 {v0 : Nat} {v1 : Int32} {v2 : Int32} {v3 : Int32} {v4 : Int32} {w0 : Int32} {σ : sS} : R_X8_gains_90 v0 v1 v2 v3 v4 w0 σ = ((F_X8_seller v0 v4 σ).bind fun q1 =>
  if q1.1 = v1 then (R_X8_gains_128 v0 v1 v2 v4 w0 v3 q1.2)
  else ((F_X8_ofReceipt v0 v4 1 q1.2).bind fun q2 =>
  if (q2.1 - 4) = v1 then (R_X8_gains_128 v0 v1 v2 v4 (-w0) v3 q2.2)
  else (R_X8_gains_128 v0 v1 v2 v4 0 v3 q2.2))) := by
  unfold R_X8_gains_90
  rw [s_run_eq]
  show s_go _ _ (T_X8_gains_90 v0 v1 v2 v3 v4 w0 σ) = _
  unfold T_X8_gains_90
  simp only [s_go_bind, s_go_ite, s_go_sum, s_go_l, s_go_r, s_go_n]
  try rfl
theorem E_X8_gains_128 {v0 : Nat} {v1 : Int32} {v2 : Int32} {v4 : Int32} {w0 : Int32} {w1 : Int32} {σ : sS} : R_X8_gains_128 v0 v1 v2 v4 w0 w1 σ = (R_X8_gains_51 v0 v1 v2 (w1 + w0) (v4 + 1) σ) := by
  unfold R_X8_gains_128
  rw [s_run_eq]
  show s_go _ _ (T_X8_gains_128 v0 v1 v2 v4 w0 w1 σ) = _
  unfold T_X8_gains_128
  simp only [s_go_bind, s_go_ite, s_go_sum, s_go_l, s_go_r, s_go_n]
  try rfl
theorem E_X8_gains {v0 : Nat} {v1 : Int32} {v2 : Int32} {σ : sS} : F_X8_gains v0 v1 v2 σ = ((s_is σ v0 8).bind fun _ => R_X8_gains_0 v0 v1 v2 σ) := rfl
/-! X1_addReceipt -/
noncomputable def R_X1_addReceipt_0 (v0 : Nat) (v1 : Int32) (v2 : Int32) (v3 : Int32) (v4 : Int32) (σ : sS) : Option (Int32 × sS) := s_run (S_X1_addReceipt ) (0, [.ref v0, .int v1, .int v2, .int v3, .int v4], σ)
theorem E_X1_addReceipt_0 {v0 : Nat} {v1 : Int32} {v2 : Int32} {v3 : Int32} {v4 : Int32} {σ : sS} : R_X1_addReceipt_0 v0 v1 v2 v3 v4 σ = ((s_fi σ v0 1 9).bind fun x1 =>
  if x1 < 30 then ((s_fi σ v0 1 9).bind fun x2 =>
  (s_fr σ v0 1 14).bind fun x3 =>
  (s_si σ x3 ((x2 * 4) + 0) v1).bind fun σ4 =>
  (s_fr σ4 v0 1 14).bind fun x5 =>
  (s_si σ4 x5 ((x2 * 4) + 1) v2).bind fun σ6 =>
  (s_fr σ6 v0 1 14).bind fun x7 =>
  (s_si σ6 x7 ((x2 * 4) + 2) v3).bind fun σ8 =>
  (s_fr σ8 v0 1 14).bind fun x9 =>
  (s_si σ8 x9 ((x2 * 4) + 3) v4).bind fun σ10 =>
  (s_fi σ10 v0 1 9).bind fun x11 =>
  (s_pf σ10 v0 1 9 (.int (x11 + 1))).bind fun σ12 =>
  some (x11, σ12))
  else (some ((-1), σ))) := by
  unfold R_X1_addReceipt_0
  rw [s_run_eq]
  show s_go _ _ (T_X1_addReceipt_0 v0 v1 v2 v3 v4 σ) = _
  unfold T_X1_addReceipt_0
  simp only [s_go_bind, s_go_ite, s_go_sum, s_go_l, s_go_r, s_go_n]
  try rfl
theorem E_X1_addReceipt {v0 : Nat} {v1 : Int32} {v2 : Int32} {v3 : Int32} {v4 : Int32} {σ : sS} : F_X1_addReceipt v0 v1 v2 v3 v4 σ = ((s_is σ v0 1).bind fun _ => R_X1_addReceipt_0 v0 v1 v2 v3 v4 σ) := rfl
/-! X7_sell -/
noncomputable def R_X7_sell_0 (v0 : Nat) (v1 : Int32) (v2 : Int32) (v3 : Int32) (v4 : Int32) (σ : sS) : Option ((Int32 ⊕ String) × sS) := s_run (S_X7_sell ) (0, [.ref v0, .int v1, .int v2, .int v3, .int v4], σ)
noncomputable def R_X7_sell_25 (v0 : Nat) (v1 : Int32) (v2 : Int32) (v3 : Int32) (v4 : Int32) (w0 : Int32) (σ : sS) : Option ((Int32 ⊕ String) × sS) := s_run (S_X7_sell ) (25, [.ref v0, .int v1, .int v2, .int v3, .int v4, .int w0], σ)
theorem E_X7_sell_0 {v0 : Nat} {v1 : Int32} {v2 : Int32} {v3 : Int32} {v4 : Int32} {σ : sS} : R_X7_sell_0 v0 v1 v2 v3 v4 σ = ((F_X7_needLine v0 v1 σ).bind fun q1 => s_sum q1.1 (fun x2 => (s_fr q1.2 v0 7 1).bind fun x4 =>
  (F_X1_ofLine x4 v1 0 q1.2).bind fun q5 =>
  if v2 = (4 + q5.1) then (R_X7_sell_25 v0 v1 v2 v3 v4 1 q5.2)
  else (R_X7_sell_25 v0 v1 v2 v3 v4 0 q5.2)) (fun E3 => some (.inr E3, q1.2))) := by
  unfold R_X7_sell_0
  rw [s_run_eq]
  show s_go _ _ (T_X7_sell_0 v0 v1 v2 v3 v4 σ) = _
  unfold T_X7_sell_0
  simp only [s_go_bind, s_go_ite, s_go_sum, s_go_l, s_go_r, s_go_n]
  try rfl
theorem E_X7_sell_25 {v0 : Nat} {v1 : Int32} {v2 : Int32} {v3 : Int32} {v4 : Int32} {w0 : Int32} {σ : sS} : R_X7_sell_25 v0 v1 v2 v3 v4 w0 σ = (if v2 < 0 then (some (.inr "java/lang/IllegalArgumentException", s_ex σ))
  else (if (7 : Int32) ≤ v2 then (some (.inr "java/lang/IllegalArgumentException", s_ex σ))
  else (if w0 = 0 then (if v3 < 0 then (some (.inr "java/lang/IllegalArgumentException", s_ex σ))
  else (if (9999 : Int32) < v3 then (some (.inr "java/lang/IllegalArgumentException", s_ex σ))
  else (if v4 < 0 then (some (.inr "java/lang/IllegalArgumentException", s_ex σ))
  else (if v4 ≤ 9999 then ((s_fr σ v0 7 1).bind fun x1 =>
  (s_fi σ x1 1 9).bind fun x2 =>
  if x2 < 30 then ((s_fr σ v0 7 1).bind fun x3 =>
  (F_X1_addReceipt x3 v1 v2 v3 v4 σ).bind fun q4 =>
  some (.inl q4.1, q4.2))
  else (some (.inr "java/lang/UnsupportedOperationException", s_ex σ)))
  else (some (.inr "java/lang/IllegalArgumentException", s_ex σ))))))
  else (some (.inr "java/lang/IllegalArgumentException", s_ex σ))))) := by
  unfold R_X7_sell_25
  rw [s_run_eq]
  show s_go _ _ (T_X7_sell_25 v0 v1 v2 v3 v4 w0 σ) = _
  unfold T_X7_sell_25
  simp only [s_go_bind, s_go_ite, s_go_sum, s_go_l, s_go_r, s_go_n]
  try rfl
theorem E_X7_sell {v0 : Nat} {v1 : Int32} {v2 : Int32} {v3 : Int32} {v4 : Int32} {σ : sS} : F_X7_sell v0 v1 v2 v3 v4 σ = ((s_is σ v0 7).bind fun _ => R_X7_sell_0 v0 v1 v2 v3 v4 σ) := rfl
/-! L_sell -/
noncomputable def R_L_sell_0 (v0 : Nat) (v1 : Int32) (v2 : Int32) (v3 : Int32) (v4 : Int32) (v5 : Nat) (σ : sS) : Option (Int32 × sS) := s_run (S_L_sell ) (0, [.ref v0, .int v1, .int v2, .int v3, .int v4, .ref v5], σ)
theorem E_L_sell_0 {v0 : Nat} {v1 : Int32} {v2 : Int32} {v3 : Int32} {v4 : Int32} {v5 : Nat} {σ : sS} : R_L_sell_0 v0 v1 v2 v3 v4 v5 σ = ((F_X7_sell v0 v1 v2 v3 v4 σ).bind fun q1 => s_sum q1.1 (fun x2 => (s_sl q1.2 v5 0 ((x2 : Int32).toInt64)).bind fun σ4 =>
  some (0, σ4)) (fun E3 => if E3 = "java/lang/IndexOutOfBoundsException" then (some (1, q1.2)) else if E3 = "java/lang/IllegalArgumentException" then (some (2, q1.2)) else if E3 = "java/lang/UnsupportedOperationException" then (some (3, q1.2)) else none)) := by
  unfold R_L_sell_0
  rw [s_run_eq]
  show s_go _ _ (T_L_sell_0 v0 v1 v2 v3 v4 v5 σ) = _
  unfold T_L_sell_0
  simp only [s_go_bind, s_go_ite, s_go_sum, s_go_l, s_go_r, s_go_n]
  try rfl
theorem E_L_sell {v0 : Nat} {v1 : Int32} {v2 : Int32} {v3 : Int32} {v4 : Int32} {v5 : Nat} {σ : sS} : F_L_sell v0 v1 v2 v3 v4 v5 σ = (R_L_sell_0 v0 v1 v2 v3 v4 v5 σ) := rfl
/-! X8_sell -/
noncomputable def R_X8_sell_0 (v0 : Nat) (v1 : Int32) (v2 : Int32) (v3 : Int32) (v4 : Int32) (σ : sS) : Option (Int32 × sS) := s_run (S_X8_sell ) (0, [.ref v0, .int v1, .int v2, .int v3, .int v4], σ)
noncomputable def R_X8_sell_64 (v0 : Nat) (v1 : Int32) (v2 : Int32) (v3 : Int32) (v4 : Int32) (w0 : Nat) (σ : sS) : Option (Int32 × sS) := s_run (S_X8_sell ) (64, [.ref v0, .int v1, .int v2, .int v3, .int v4, .ref w0], σ)
noncomputable def R_X8_sell_69 (v0 : Nat) (v1 : Int32) (v2 : Int32) (v3 : Int32) (v4 : Int32) (w0 : Int32) (w1 : Nat) (σ : sS) : Option (Int32 × sS) := s_run (S_X8_sell ) (69, [.ref v0, .int v1, .int v2, .int v3, .int v4, .int w0, .ref w1], σ)
noncomputable def R_X8_sell_91 (v0 : Nat) (v1 : Int32) (v2 : Int32) (v3 : Int32) (v4 : Int32) (w0 : Int32) (w1 : Nat) (σ : sS) : Option (Int32 × sS) := s_run (S_X8_sell ) (91, [.ref v0, .int v1, .int v2, .int v3, .int v4, .int w0, .ref w1], σ)
theorem E_X8_sell_0 {v0 : Nat} {v1 : Int32} {v2 : Int32} {v3 : Int32} {v4 : Int32} {σ : sS} : R_X8_sell_0 v0 v1 v2 v3 v4 σ = ((s_pf σ v0 8 0 (.int 0)).bind fun σ1 =>
  (F_X8_noLine v0 v1 σ1).bind fun q2 =>
  (F_X8_throwsIf v0 q2.1 1 q2.2).bind fun q3 =>
  if q3.1 = 0 then ((F_X8_in v2 0 6 q3.2).bind fun q4 =>
  if q4.1 = 0 then (R_X8_sell_64 v0 v1 v2 v3 v4 v0 q4.2)
  else ((F_X8_in v3 0 9999 q4.2).bind fun q5 =>
  if q5.1 = 0 then (R_X8_sell_64 v0 v1 v2 v3 v4 v0 q5.2)
  else ((F_X8_in v4 0 9999 q5.2).bind fun q6 =>
  if q6.1 = 0 then (R_X8_sell_64 v0 v1 v2 v3 v4 v0 q6.2)
  else ((F_X8_ofLine v0 v1 0 q6.2).bind fun q7 =>
  if (v2 - 4) = q7.1 then (R_X8_sell_64 v0 v1 v2 v3 v4 v0 q7.2)
  else (R_X8_sell_69 v0 v1 v2 v3 v4 0 v0 q7.2)))))
  else (some (0, q3.2))) := by
  unfold R_X8_sell_0
  rw [s_run_eq]
  show s_go _ _ (T_X8_sell_0 v0 v1 v2 v3 v4 σ) = _
  unfold T_X8_sell_0
  simp only [s_go_bind, s_go_ite, s_go_sum, s_go_l, s_go_r, s_go_n]
  try rfl
theorem E_X8_sell_64 {v0 : Nat} {v1 : Int32} {v2 : Int32} {v3 : Int32} {v4 : Int32} {w0 : Nat} {σ : sS} : R_X8_sell_64 v0 v1 v2 v3 v4 w0 σ = (R_X8_sell_69 v0 v1 v2 v3 v4 1 w0 σ) := by
  unfold R_X8_sell_64
  rw [s_run_eq]
  show s_go _ _ (T_X8_sell_64 v0 v1 v2 v3 v4 w0 σ) = _
  unfold T_X8_sell_64
  simp only [s_go_bind, s_go_ite, s_go_sum, s_go_l, s_go_r, s_go_n]
  try rfl
theorem E_X8_sell_69 {v0 : Nat} {v1 : Int32} {v2 : Int32} {v3 : Int32} {v4 : Int32} {w0 : Int32} {w1 : Nat} {σ : sS} : R_X8_sell_69 v0 v1 v2 v3 v4 w0 w1 σ = ((F_X8_throwsIf w1 w0 2 σ).bind fun q1 =>
  if q1.1 = 0 then ((F_X8_receipts v0 q1.2).bind fun q2 =>
  if q2.1 = 30 then (R_X8_sell_91 v0 v1 v2 v3 v4 1 v0 q2.2)
  else (R_X8_sell_91 v0 v1 v2 v3 v4 0 v0 q2.2))
  else (some (0, q1.2))) := by
  unfold R_X8_sell_69
  rw [s_run_eq]
  show s_go _ _ (T_X8_sell_69 v0 v1 v2 v3 v4 w0 w1 σ) = _
  unfold T_X8_sell_69
  simp only [s_go_bind, s_go_ite, s_go_sum, s_go_l, s_go_r, s_go_n]
  try rfl
theorem E_X8_sell_91 {v0 : Nat} {v1 : Int32} {v2 : Int32} {v3 : Int32} {v4 : Int32} {w0 : Int32} {w1 : Nat} {σ : sS} : R_X8_sell_91 v0 v1 v2 v3 v4 w0 w1 σ = ((F_X8_throwsIf w1 w0 3 σ).bind fun q1 =>
  if q1.1 = 0 then ((F_X8_receipts v0 q1.2).bind fun q2 =>
  (s_fr q2.2 v0 8 1).bind fun x3 =>
  (s_si q2.2 x3 (1532 + (5 * q2.1)) v1).bind fun σ4 =>
  (s_fr σ4 v0 8 1).bind fun x5 =>
  (s_si σ4 x5 ((1532 + (5 * q2.1)) + 1) v2).bind fun σ6 =>
  (s_fr σ6 v0 8 1).bind fun x7 =>
  (s_si σ6 x7 ((1532 + (5 * q2.1)) + 2) v3).bind fun σ8 =>
  (s_fr σ8 v0 8 1).bind fun x9 =>
  (s_si σ8 x9 ((1532 + (5 * q2.1)) + 3) v4).bind fun σ10 =>
  (s_fr σ10 v0 8 1).bind fun x11 =>
  (s_si σ10 x11 ((1532 + (5 * q2.1)) + 4) 0).bind fun σ12 =>
  (s_fr σ12 v0 8 1).bind fun x13 =>
  (s_ai σ12 x13 3).bind fun x14 =>
  (s_si σ12 x13 3 (x14 + 1)).bind fun σ15 =>
  (F_X8_receipts v0 σ15).bind fun q16 =>
  some ((q16.1 - 1), q16.2))
  else (some (0, q1.2))) := by
  unfold R_X8_sell_91
  rw [s_run_eq]
  show s_go _ _ (T_X8_sell_91 v0 v1 v2 v3 v4 w0 w1 σ) = _
  unfold T_X8_sell_91
  simp only [s_go_bind, s_go_ite, s_go_sum, s_go_l, s_go_r, s_go_n]
  try rfl
theorem E_X8_sell {v0 : Nat} {v1 : Int32} {v2 : Int32} {v3 : Int32} {v4 : Int32} {σ : sS} : F_X8_sell v0 v1 v2 v3 v4 σ = ((s_is σ v0 8).bind fun _ => R_X8_sell_0 v0 v1 v2 v3 v4 σ) := rfl
/-! X7_undo -/
noncomputable def R_X7_undo_0 (v0 : Nat) (v1 : Int32) (σ : sS) : Option ((Int32 ⊕ String) × sS) := s_run (S_X7_undo ) (0, [.ref v0, .int v1], σ)
noncomputable def R_X7_undo_42 (v0 : Nat) (v1 : Int32) (w0 : Int32) (σ : sS) : Option ((Int32 ⊕ String) × sS) := s_run (S_X7_undo ) (42, [.ref v0, .int v1, .int w0], σ)
theorem E_X7_undo_0 {v0 : Nat} {v1 : Int32} {σ : sS} : R_X7_undo_0 v0 v1 σ = (if v1 < 0 then (some (.inr "java/lang/IndexOutOfBoundsException", s_ex σ))
  else ((s_fr σ v0 7 1).bind fun x1 =>
  (s_fi σ x1 1 9).bind fun x2 =>
  if v1 < x2 then ((s_fr σ v0 7 1).bind fun x3 =>
  (F_X1_isVoid x3 v1 σ).bind fun q4 =>
  if q4.1 = 0 then (R_X7_undo_42 v0 v1 1 q4.2)
  else (R_X7_undo_42 v0 v1 0 q4.2))
  else (some (.inr "java/lang/IndexOutOfBoundsException", s_ex σ)))) := by
  unfold R_X7_undo_0
  rw [s_run_eq]
  show s_go _ _ (T_X7_undo_0 v0 v1 σ) = _
  unfold T_X7_undo_0
  simp only [s_go_bind, s_go_ite, s_go_sum, s_go_l, s_go_r, s_go_n]
  try rfl
theorem E_X7_undo_42 {v0 : Nat} {v1 : Int32} {w0 : Int32} {σ : sS} : R_X7_undo_42 v0 v1 w0 σ = ((s_fr σ v0 7 1).bind fun x1 =>
  (s_fi σ x1 1 10).bind fun x2 =>
  (s_pf σ x1 1 10 (.int (x2 ||| (1 <<< (v1 &&& 31))))).bind fun σ3 =>
  if (w0 = 0 ∨ w0 = 1) then (some (.inl w0, σ3)) else none) := by
  unfold R_X7_undo_42
  rw [s_run_eq]
  show s_go _ _ (T_X7_undo_42 v0 v1 w0 σ) = _
  unfold T_X7_undo_42
  simp only [s_go_bind, s_go_ite, s_go_sum, s_go_l, s_go_r, s_go_n]
  try rfl
theorem E_X7_undo {v0 : Nat} {v1 : Int32} {σ : sS} : F_X7_undo v0 v1 σ = ((s_is σ v0 7).bind fun _ => R_X7_undo_0 v0 v1 σ) := rfl
/-! L_undo -/
noncomputable def R_L_undo_0 (v0 : Nat) (v1 : Int32) (v2 : Nat) (σ : sS) : Option (Int32 × sS) := s_run (S_L_undo ) (0, [.ref v0, .int v1, .ref v2], σ)
noncomputable def R_L_undo_15 (w0 : Int64) (w1 : Int32) (w2 : Nat) (σ : sS) : Option (Int32 × sS) := s_run (S_L_undo ) (15, [.long w0, .int w1, .ref w2], σ)
theorem E_L_undo_0 {v0 : Nat} {v1 : Int32} {v2 : Nat} {σ : sS} : R_L_undo_0 v0 v1 v2 σ = ((F_X7_undo v0 v1 σ).bind fun q1 => s_sum q1.1 (fun x2 => if x2 = 0 then (R_L_undo_15 0 0 v2 q1.2)
  else (R_L_undo_15 1 0 v2 q1.2)) (fun E3 => if E3 = "java/lang/IndexOutOfBoundsException" then (some (1, q1.2)) else none)) := by
  unfold R_L_undo_0
  rw [s_run_eq]
  show s_go _ _ (T_L_undo_0 v0 v1 v2 σ) = _
  unfold T_L_undo_0
  simp only [s_go_bind, s_go_ite, s_go_sum, s_go_l, s_go_r, s_go_n]
  try rfl
theorem E_L_undo_15 {w0 : Int64} {w1 : Int32} {w2 : Nat} {σ : sS} : R_L_undo_15 w0 w1 w2 σ = ((s_sl σ w2 w1 w0).bind fun σ1 =>
  some (0, σ1)) := by
  unfold R_L_undo_15
  rw [s_run_eq]
  show s_go _ _ (T_L_undo_15 w0 w1 w2 σ) = _
  unfold T_L_undo_15
  simp only [s_go_bind, s_go_ite, s_go_sum, s_go_l, s_go_r, s_go_n]
  try rfl
theorem E_L_undo {v0 : Nat} {v1 : Int32} {v2 : Nat} {σ : sS} : F_L_undo v0 v1 v2 σ = (R_L_undo_0 v0 v1 v2 σ) := rfl
/-! X8_undo -/
noncomputable def R_X8_undo_0 (v0 : Nat) (v1 : Int32) (σ : sS) : Option (Int32 × sS) := s_run (S_X8_undo ) (0, [.ref v0, .int v1], σ)
noncomputable def R_X8_undo_25 (v0 : Nat) (v1 : Int32) (w0 : Int32) (w1 : Nat) (σ : sS) : Option (Int32 × sS) := s_run (S_X8_undo ) (25, [.ref v0, .int v1, .int w0, .ref w1], σ)
theorem E_X8_undo_0 {v0 : Nat} {v1 : Int32} {σ : sS} : R_X8_undo_0 v0 v1 σ = ((s_pf σ v0 8 0 (.int 0)).bind fun σ1 =>
  (F_X8_receipts v0 σ1).bind fun q2 =>
  (F_X8_in v1 0 (q2.1 - 1) q2.2).bind fun q3 =>
  if q3.1 = 0 then (R_X8_undo_25 v0 v1 1 v0 q3.2)
  else (R_X8_undo_25 v0 v1 0 v0 q3.2)) := by
  unfold R_X8_undo_0
  rw [s_run_eq]
  show s_go _ _ (T_X8_undo_0 v0 v1 σ) = _
  unfold T_X8_undo_0
  simp only [s_go_bind, s_go_ite, s_go_sum, s_go_l, s_go_r, s_go_n]
  try rfl
theorem E_X8_undo_25 {v0 : Nat} {v1 : Int32} {w0 : Int32} {w1 : Nat} {σ : sS} : R_X8_undo_25 v0 v1 w0 w1 σ = ((F_X8_throwsIf w1 w0 1 σ).bind fun q1 =>
  if q1.1 = 0 then ((F_X8_isVoid v0 v1 q1.2).bind fun q2 =>
  (s_fr q2.2 v0 8 1).bind fun x3 =>
  (s_si q2.2 x3 ((1532 + (5 * v1)) + 4) 1).bind fun σ4 =>
  if q2.1 = 0 then (some (1, σ4))
  else (some (0, σ4)))
  else (some (0, q1.2))) := by
  unfold R_X8_undo_25
  rw [s_run_eq]
  show s_go _ _ (T_X8_undo_25 v0 v1 w0 w1 σ) = _
  unfold T_X8_undo_25
  simp only [s_go_bind, s_go_ite, s_go_sum, s_go_l, s_go_r, s_go_n]
  try rfl
theorem E_X8_undo {v0 : Nat} {v1 : Int32} {σ : sS} : F_X8_undo v0 v1 σ = ((s_is σ v0 8).bind fun _ => R_X8_undo_0 v0 v1 σ) := rfl
/-! X6_owedBy -/
noncomputable def R_X6_owedBy_0 (v0 : Nat) (v1 : Int32) (v2 : Int32) (v3 : Int32) (σ : sS) : Option (Int32 × sS) := s_run (S_X6_owedBy ) (0, [.ref v0, .int v1, .int v2, .int v3], σ)
noncomputable def R_X6_owedBy_13 (v0 : Nat) (v1 : Int32) (v2 : Int32) (v4 : Int32) (v5 : Int32) (v6 : Int32) (σ : sS) : Option (Int32 × sS) := s_run (S_X6_owedBy ) (13, [.ref v0, .int v1, .int v2, .int v4, .int v5, .int v6], σ)
noncomputable def R_X6_owedBy_44 (v0 : Nat) (v1 : Int32) (v2 : Int32) (v4 : Int32) (v5 : Int32) (v6 : Int32) (σ : sS) : Option (Int32 × sS) := s_run (S_X6_owedBy ) (44, [.ref v0, .int v1, .int v2, .int v4, .int v5, .int v6], σ)
noncomputable def R_X6_owedBy_49 (v0 : Nat) (v1 : Int32) (v2 : Int32) (v4 : Int32) (v5 : Int32) (v6 : Int32) (w0 : Int32) (σ : sS) : Option (Int32 × sS) := s_run (S_X6_owedBy ) (49, [.ref v0, .int v1, .int v2, .int v4, .int v5, .int v6, .int w0], σ)
noncomputable def R_X6_owedBy_91 (v0 : Nat) (v1 : Int32) (v2 : Int32) (v4 : Int32) (v5 : Int32) (v6 : Int32) (σ : sS) : Option (Int32 × sS) := s_run (S_X6_owedBy ) (91, [.ref v0, .int v1, .int v2, .int v4, .int v5, .int v6], σ)
theorem E_X6_owedBy_0 {v0 : Nat} {v1 : Int32} {v2 : Int32} {v3 : Int32} {σ : sS} : R_X6_owedBy_0 v0 v1 v2 v3 σ = ((F_X6_refunded v0 v3 σ).bind fun q1 =>
  R_X6_owedBy_13 v0 v1 v2 q1.1 0 0 q1.2) := by
  unfold R_X6_owedBy_0
  rw [s_run_eq]
  show s_go _ _ (T_X6_owedBy_0 v0 v1 v2 v3 σ) = _
  unfold T_X6_owedBy_0
  simp only [s_go_bind, s_go_ite, s_go_sum, s_go_l, s_go_r, s_go_n]
  try rfl
theorem E_X6_owedBy_13 {v0 : Nat} {v1 : Int32} {v2 : Int32} {v4 : Int32} {v5 : Int32} {v6 : Int32} {σ : sS} : R_X6_owedBy_13 v0 v1 v2 v4 v5 v6 σ = ((s_fr σ v0 6 0).bind fun x1 =>
  (s_fi σ x1 1 9).bind fun x2 =>
  if x2 ≤ v6 then (some (v5, σ))
  else (if v2 = (-1) then (R_X6_owedBy_44 v0 v1 v2 v4 v5 v6 σ)
  else ((s_fr σ v0 6 0).bind fun x3 =>
  (F_X1_ofReceipt x3 v6 1 σ).bind fun q4 =>
  if q4.1 = v2 then (R_X6_owedBy_44 v0 v1 v2 v4 v5 v6 q4.2)
  else (R_X6_owedBy_49 v0 v1 v2 v4 v5 v6 0 q4.2)))) := by
  unfold R_X6_owedBy_13
  rw [s_run_eq]
  show s_go _ _ (T_X6_owedBy_13 v0 v1 v2 v4 v5 v6 σ) = _
  unfold T_X6_owedBy_13
  simp only [s_go_bind, s_go_ite, s_go_sum, s_go_l, s_go_r, s_go_n]
  try rfl
theorem E_X6_owedBy_44 {v0 : Nat} {v1 : Int32} {v2 : Int32} {v4 : Int32} {v5 : Int32} {v6 : Int32} {σ : sS} : R_X6_owedBy_44 v0 v1 v2 v4 v5 v6 σ = (R_X6_owedBy_49 v0 v1 v2 v4 v5 v6 1 σ) := by
  unfold R_X6_owedBy_44
  rw [s_run_eq]
  show s_go _ _ (T_X6_owedBy_44 v0 v1 v2 v4 v5 v6 σ) = _
  unfold T_X6_owedBy_44
  simp only [s_go_bind, s_go_ite, s_go_sum, s_go_l, s_go_r, s_go_n]
  try rfl
theorem E_X6_owedBy_49 {v0 : Nat} {v1 : Int32} {v2 : Int32} {v4 : Int32} {v5 : Int32} {v6 : Int32} {w0 : Int32} {σ : sS} : R_X6_owedBy_49 v0 v1 v2 v4 v5 v6 w0 σ = (if ((v4 >>> (v6 &&& 31)) &&& 1) = 0 then (R_X6_owedBy_91 v0 v1 v2 v4 v5 v6 σ)
  else (if w0 = 0 then (R_X6_owedBy_91 v0 v1 v2 v4 v5 v6 σ)
  else ((F_X6_sellerOf v0 v6 σ).bind fun q1 =>
  if q1.1 = v1 then ((s_fr q1.2 v0 6 0).bind fun x2 =>
  (F_X1_ofReceipt x2 v6 2 q1.2).bind fun q3 =>
  R_X6_owedBy_91 v0 v1 v2 v4 (v5 + q3.1) v6 q3.2)
  else (R_X6_owedBy_91 v0 v1 v2 v4 v5 v6 q1.2)))) := by
  unfold R_X6_owedBy_49
  rw [s_run_eq]
  show s_go _ _ (T_X6_owedBy_49 v0 v1 v2 v4 v5 v6 w0 σ) = _
  unfold T_X6_owedBy_49
  simp only [s_go_bind, s_go_ite, s_go_sum, s_go_l, s_go_r, s_go_n]
  try rfl
theorem E_X6_owedBy_91 {v0 : Nat} {v1 : Int32} {v2 : Int32} {v4 : Int32} {v5 : Int32} {v6 : Int32} {σ : sS} : R_X6_owedBy_91 v0 v1 v2 v4 v5 v6 σ = (R_X6_owedBy_13 v0 v1 v2 v4 v5 (v6 + 1) σ) := by
  unfold R_X6_owedBy_91
  rw [s_run_eq]
  show s_go _ _ (T_X6_owedBy_91 v0 v1 v2 v4 v5 v6 σ) = _
  unfold T_X6_owedBy_91
  simp only [s_go_bind, s_go_ite, s_go_sum, s_go_l, s_go_r, s_go_n]
  try rfl
theorem E_X6_owedBy {v0 : Nat} {v1 : Int32} {v2 : Int32} {v3 : Int32} {σ : sS} : F_X6_owedBy v0 v1 v2 v3 σ = ((s_is σ v0 6).bind fun _ => R_X6_owedBy_0 v0 v1 v2 v3 σ) := rfl
/-! X7_owes -/
noncomputable def R_X7_owes_0 (v0 : Nat) (v1 : Int32) (v2 : Int32) (v3 : Int32) (σ : sS) : Option ((Int32 ⊕ String) × sS) := s_run (S_X7_owes ) (0, [.ref v0, .int v1, .int v2, .int v3], σ)
noncomputable def R_X7_owes_36 (v0 : Nat) (v1 : Int32) (v2 : Int32) (v3 : Int32) (σ : sS) : Option ((Int32 ⊕ String) × sS) := s_run (S_X7_owes ) (36, [.ref v0, .int v1, .int v2, .int v3], σ)
theorem E_X7_owes_0 {v0 : Nat} {v1 : Int32} {v2 : Int32} {v3 : Int32} {σ : sS} : R_X7_owes_0 v0 v1 v2 v3 σ = ((F_X7_needHouse v0 v1 σ).bind fun q1 => s_sum q1.1 (fun x2 => (F_X7_needLaw v0 v3 q1.2).bind fun q4 => s_sum q4.1 (fun x5 => if v2 = (-1) then (R_X7_owes_36 v0 v1 v2 v3 q4.2)
  else (if v2 < 0 then (some (.inr "java/lang/IllegalArgumentException", s_ex q4.2))
  else (if v2 < 7 then (R_X7_owes_36 v0 v1 v2 v3 q4.2)
  else (some (.inr "java/lang/IllegalArgumentException", s_ex q4.2))))) (fun E6 => some (.inr E6, q4.2))) (fun E3 => some (.inr E3, q1.2))) := by
  unfold R_X7_owes_0
  rw [s_run_eq]
  show s_go _ _ (T_X7_owes_0 v0 v1 v2 v3 σ) = _
  unfold T_X7_owes_0
  simp only [s_go_bind, s_go_ite, s_go_sum, s_go_l, s_go_r, s_go_n]
  try rfl
theorem E_X7_owes_36 {v0 : Nat} {v1 : Int32} {v2 : Int32} {v3 : Int32} {σ : sS} : R_X7_owes_36 v0 v1 v2 v3 σ = ((s_fr σ v0 7 5).bind fun x1 =>
  (F_X0_audit x1 σ).bind fun q2 =>
  (s_fr q2.2 v0 7 7).bind fun x3 =>
  (F_X6_owedBy x3 v1 v2 v3 q2.2).bind fun q4 =>
  some (.inl q4.1, q4.2)) := by
  unfold R_X7_owes_36
  rw [s_run_eq]
  show s_go _ _ (T_X7_owes_36 v0 v1 v2 v3 σ) = _
  unfold T_X7_owes_36
  simp only [s_go_bind, s_go_ite, s_go_sum, s_go_l, s_go_r, s_go_n]
  try rfl
theorem E_X7_owes {v0 : Nat} {v1 : Int32} {v2 : Int32} {v3 : Int32} {σ : sS} : F_X7_owes v0 v1 v2 v3 σ = ((s_is σ v0 7).bind fun _ => R_X7_owes_0 v0 v1 v2 v3 σ) := rfl
/-! L_owes -/
noncomputable def R_L_owes_0 (v0 : Nat) (v1 : Int32) (v2 : Int32) (v3 : Int32) (v4 : Nat) (σ : sS) : Option (Int32 × sS) := s_run (S_L_owes ) (0, [.ref v0, .int v1, .int v2, .int v3, .ref v4], σ)
theorem E_L_owes_0 {v0 : Nat} {v1 : Int32} {v2 : Int32} {v3 : Int32} {v4 : Nat} {σ : sS} : R_L_owes_0 v0 v1 v2 v3 v4 σ = ((F_X7_owes v0 v1 v2 v3 σ).bind fun q1 => s_sum q1.1 (fun x2 => (s_sl q1.2 v4 0 ((x2 : Int32).toInt64)).bind fun σ4 =>
  some (0, σ4)) (fun E3 => if E3 = "java/lang/IndexOutOfBoundsException" then (some (1, q1.2)) else if E3 = "java/lang/IllegalArgumentException" then (some (2, q1.2)) else none)) := by
  unfold R_L_owes_0
  rw [s_run_eq]
  show s_go _ _ (T_L_owes_0 v0 v1 v2 v3 v4 σ) = _
  unfold T_L_owes_0
  simp only [s_go_bind, s_go_ite, s_go_sum, s_go_l, s_go_r, s_go_n]
  try rfl
theorem E_L_owes {v0 : Nat} {v1 : Int32} {v2 : Int32} {v3 : Int32} {v4 : Nat} {σ : sS} : F_L_owes v0 v1 v2 v3 v4 σ = (R_L_owes_0 v0 v1 v2 v3 v4 σ) := rfl
/-! X8_owes -/
noncomputable def R_X8_owes_0 (v0 : Nat) (v1 : Int32) (v2 : Int32) (v3 : Int32) (σ : sS) : Option (Int32 × sS) := s_run (S_X8_owes ) (0, [.ref v0, .int v1, .int v2, .int v3], σ)
noncomputable def R_X8_owes_43 (v0 : Nat) (v1 : Int32) (v2 : Int32) (v3 : Int32) (w0 : Nat) (σ : sS) : Option (Int32 × sS) := s_run (S_X8_owes ) (43, [.ref v0, .int v1, .int v2, .int v3, .ref w0], σ)
noncomputable def R_X8_owes_47 (v0 : Nat) (v1 : Int32) (v2 : Int32) (v3 : Int32) (w0 : Nat) (σ : sS) : Option (Int32 × sS) := s_run (S_X8_owes ) (47, [.ref v0, .int v1, .int v2, .int v3, .ref w0], σ)
noncomputable def R_X8_owes_48 (v0 : Nat) (v1 : Int32) (v2 : Int32) (v3 : Int32) (w0 : Int32) (w1 : Nat) (σ : sS) : Option (Int32 × sS) := s_run (S_X8_owes ) (48, [.ref v0, .int v1, .int v2, .int v3, .int w0, .ref w1], σ)
noncomputable def R_X8_owes_67 (v0 : Nat) (v1 : Int32) (v2 : Int32) (v3 : Int32) (v4 : Int32) (v5 : Int32) (σ : sS) : Option (Int32 × sS) := s_run (S_X8_owes ) (67, [.ref v0, .int v1, .int v2, .int v3, .int v4, .int v5], σ)
noncomputable def R_X8_owes_104 (v0 : Nat) (v1 : Int32) (v2 : Int32) (v3 : Int32) (v5 : Int32) (w0 : Int32) (σ : sS) : Option (Int32 × sS) := s_run (S_X8_owes ) (104, [.ref v0, .int v1, .int v2, .int v3, .int v5, .int w0], σ)
noncomputable def R_X8_owes_124 (v0 : Nat) (v1 : Int32) (v2 : Int32) (v3 : Int32) (v5 : Int32) (w0 : Int32) (σ : sS) : Option (Int32 × sS) := s_run (S_X8_owes ) (124, [.ref v0, .int v1, .int v2, .int v3, .int v5, .int w0], σ)
noncomputable def R_X8_owes_125 (v0 : Nat) (v1 : Int32) (v2 : Int32) (v3 : Int32) (v5 : Int32) (w0 : Int32) (w1 : Int32) (σ : sS) : Option (Int32 × sS) := s_run (S_X8_owes ) (125, [.ref v0, .int v1, .int v2, .int v3, .int v5, .int w0, .int w1], σ)
theorem E_X8_owes_0 {v0 : Nat} {v1 : Int32} {v2 : Int32} {v3 : Int32} {σ : sS} : R_X8_owes_0 v0 v1 v2 v3 σ = ((s_pf σ v0 8 0 (.int 0)).bind fun σ1 =>
  (F_X8_noHouse v1 σ1).bind fun q2 =>
  (F_X8_throwsIf v0 q2.1 1 q2.2).bind fun q3 =>
  if q3.1 = 0 then ((F_X8_in v3 0 31 q3.2).bind fun q4 =>
  if q4.1 = 0 then (R_X8_owes_43 v0 v1 v2 v3 v0 q4.2)
  else (if v2 = (-1) then (R_X8_owes_47 v0 v1 v2 v3 v0 q4.2)
  else ((F_X8_in v2 0 6 q4.2).bind fun q5 =>
  if q5.1 = 0 then (R_X8_owes_43 v0 v1 v2 v3 v0 q5.2)
  else (R_X8_owes_47 v0 v1 v2 v3 v0 q5.2))))
  else (some (0, q3.2))) := by
  unfold R_X8_owes_0
  rw [s_run_eq]
  show s_go _ _ (T_X8_owes_0 v0 v1 v2 v3 σ) = _
  unfold T_X8_owes_0
  simp only [s_go_bind, s_go_ite, s_go_sum, s_go_l, s_go_r, s_go_n]
  try rfl
theorem E_X8_owes_43 {v0 : Nat} {v1 : Int32} {v2 : Int32} {v3 : Int32} {w0 : Nat} {σ : sS} : R_X8_owes_43 v0 v1 v2 v3 w0 σ = (R_X8_owes_48 v0 v1 v2 v3 1 w0 σ) := by
  unfold R_X8_owes_43
  rw [s_run_eq]
  show s_go _ _ (T_X8_owes_43 v0 v1 v2 v3 w0 σ) = _
  unfold T_X8_owes_43
  simp only [s_go_bind, s_go_ite, s_go_sum, s_go_l, s_go_r, s_go_n]
  try rfl
theorem E_X8_owes_47 {v0 : Nat} {v1 : Int32} {v2 : Int32} {v3 : Int32} {w0 : Nat} {σ : sS} : R_X8_owes_47 v0 v1 v2 v3 w0 σ = (R_X8_owes_48 v0 v1 v2 v3 0 w0 σ) := by
  unfold R_X8_owes_47
  rw [s_run_eq]
  show s_go _ _ (T_X8_owes_47 v0 v1 v2 v3 w0 σ) = _
  unfold T_X8_owes_47
  simp only [s_go_bind, s_go_ite, s_go_sum, s_go_l, s_go_r, s_go_n]
  try rfl
theorem E_X8_owes_48 {v0 : Nat} {v1 : Int32} {v2 : Int32} {v3 : Int32} {w0 : Int32} {w1 : Nat} {σ : sS} : R_X8_owes_48 v0 v1 v2 v3 w0 w1 σ = ((F_X8_throwsIf w1 w0 2 σ).bind fun q1 =>
  if q1.1 = 0 then ((F_X8_goesThrough v0 q1.2).bind fun q2 =>
  R_X8_owes_67 v0 v1 v2 v3 0 0 q2.2)
  else (some (0, q1.2))) := by
  unfold R_X8_owes_48
  rw [s_run_eq]
  show s_go _ _ (T_X8_owes_48 v0 v1 v2 v3 w0 w1 σ) = _
  unfold T_X8_owes_48
  simp only [s_go_bind, s_go_ite, s_go_sum, s_go_l, s_go_r, s_go_n]
  try rfl
theorem E_X8_owes_67 {v0 : Nat} {v1 : Int32} {v2 : Int32} {v3 : Int32} {v4 : Int32} {v5 : Int32} {σ : sS} : R_X8_owes_67 v0 v1 v2 v3 v4 v5 σ = ((F_X8_receipts v0 σ).bind fun q1 =>
  if q1.1 ≤ v5 then (some (v4, q1.2))
  else ((F_X8_seller v0 v5 q1.2).bind fun q2 =>
  if q2.1 = v1 then (if v2 = (-1) then (R_X8_owes_104 v0 v1 v2 v3 v5 v4 q2.2)
  else ((F_X8_ofReceipt v0 v5 1 q2.2).bind fun q3 =>
  if q3.1 = v2 then (R_X8_owes_104 v0 v1 v2 v3 v5 v4 q3.2)
  else (R_X8_owes_124 v0 v1 v2 v3 v5 v4 q3.2)))
  else (R_X8_owes_124 v0 v1 v2 v3 v5 v4 q2.2))) := by
  unfold R_X8_owes_67
  rw [s_run_eq]
  show s_go _ _ (T_X8_owes_67 v0 v1 v2 v3 v4 v5 σ) = _
  unfold T_X8_owes_67
  simp only [s_go_bind, s_go_ite, s_go_sum, s_go_l, s_go_r, s_go_n]
  try rfl
theorem E_X8_owes_104 {v0 : Nat} {v1 : Int32} {v2 : Int32} {v3 : Int32} {v5 : Int32} {w0 : Int32} {σ : sS} : R_X8_owes_104 v0 v1 v2 v3 v5 w0 σ = ((F_X8_isBack v0 v5 v3 σ).bind fun q1 =>
  if q1.1 = 0 then (R_X8_owes_124 v0 v1 v2 v3 v5 w0 q1.2)
  else ((F_X8_ofReceipt v0 v5 2 q1.2).bind fun q2 =>
  R_X8_owes_125 v0 v1 v2 v3 v5 q2.1 w0 q2.2)) := by
  unfold R_X8_owes_104
  rw [s_run_eq]
  show s_go _ _ (T_X8_owes_104 v0 v1 v2 v3 v5 w0 σ) = _
  unfold T_X8_owes_104
  simp only [s_go_bind, s_go_ite, s_go_sum, s_go_l, s_go_r, s_go_n]
  try rfl
theorem E_X8_owes_124 {v0 : Nat} {v1 : Int32} {v2 : Int32} {v3 : Int32} {v5 : Int32} {w0 : Int32} {σ : sS} : R_X8_owes_124 v0 v1 v2 v3 v5 w0 σ = (R_X8_owes_125 v0 v1 v2 v3 v5 0 w0 σ) := by
  unfold R_X8_owes_124
  rw [s_run_eq]
  show s_go _ _ (T_X8_owes_124 v0 v1 v2 v3 v5 w0 σ) = _
  unfold T_X8_owes_124
  simp only [s_go_bind, s_go_ite, s_go_sum, s_go_l, s_go_r, s_go_n]
  try rfl
theorem E_X8_owes_125 {v0 : Nat} {v1 : Int32} {v2 : Int32} {v3 : Int32} {v5 : Int32} {w0 : Int32} {w1 : Int32} {σ : sS} : R_X8_owes_125 v0 v1 v2 v3 v5 w0 w1 σ = (R_X8_owes_67 v0 v1 v2 v3 (w1 + w0) (v5 + 1) σ) := by
  unfold R_X8_owes_125
  rw [s_run_eq]
  show s_go _ _ (T_X8_owes_125 v0 v1 v2 v3 v5 w0 w1 σ) = _
  unfold T_X8_owes_125
  simp only [s_go_bind, s_go_ite, s_go_sum, s_go_l, s_go_r, s_go_n]
  try rfl
theorem E_X8_owes {v0 : Nat} {v1 : Int32} {v2 : Int32} {v3 : Int32} {σ : sS} : F_X8_owes v0 v1 v2 v3 σ = ((s_is σ v0 8).bind fun _ => R_X8_owes_0 v0 v1 v2 v3 σ) := rfl
/-! X7_refunds -/
noncomputable def R_X7_refunds_0 (v0 : Nat) (v1 : Int32) (σ : sS) : Option ((Int32 ⊕ String) × sS) := s_run (S_X7_refunds ) (0, [.ref v0, .int v1], σ)
theorem E_X7_refunds_0 {v0 : Nat} {v1 : Int32} {σ : sS} : R_X7_refunds_0 v0 v1 σ = ((F_X7_needLaw v0 v1 σ).bind fun q1 => s_sum q1.1 (fun x2 => (s_fr q1.2 v0 7 5).bind fun x4 =>
  (F_X0_audit x4 q1.2).bind fun q5 =>
  (s_fr q5.2 v0 7 7).bind fun x6 =>
  (F_X6_refunded x6 v1 q5.2).bind fun q7 =>
  some (.inl q7.1, q7.2)) (fun E3 => some (.inr E3, q1.2))) := by
  unfold R_X7_refunds_0
  rw [s_run_eq]
  show s_go _ _ (T_X7_refunds_0 v0 v1 σ) = _
  unfold T_X7_refunds_0
  simp only [s_go_bind, s_go_ite, s_go_sum, s_go_l, s_go_r, s_go_n]
  try rfl
theorem E_X7_refunds {v0 : Nat} {v1 : Int32} {σ : sS} : F_X7_refunds v0 v1 σ = ((s_is σ v0 7).bind fun _ => R_X7_refunds_0 v0 v1 σ) := rfl
/-! L_refunds -/
noncomputable def R_L_refunds_0 (v0 : Nat) (v1 : Int32) (v2 : Nat) (σ : sS) : Option (Int32 × sS) := s_run (S_L_refunds ) (0, [.ref v0, .int v1, .ref v2], σ)
theorem E_L_refunds_0 {v0 : Nat} {v1 : Int32} {v2 : Nat} {σ : sS} : R_L_refunds_0 v0 v1 v2 σ = ((F_X7_refunds v0 v1 σ).bind fun q1 => s_sum q1.1 (fun x2 => (s_sl q1.2 v2 0 ((x2 : Int32).toInt64)).bind fun σ4 =>
  some (0, σ4)) (fun E3 => if E3 = "java/lang/IllegalArgumentException" then (some (1, q1.2)) else none)) := by
  unfold R_L_refunds_0
  rw [s_run_eq]
  show s_go _ _ (T_L_refunds_0 v0 v1 v2 σ) = _
  unfold T_L_refunds_0
  simp only [s_go_bind, s_go_ite, s_go_sum, s_go_l, s_go_r, s_go_n]
  try rfl
theorem E_L_refunds {v0 : Nat} {v1 : Int32} {v2 : Nat} {σ : sS} : F_L_refunds v0 v1 v2 σ = (R_L_refunds_0 v0 v1 v2 σ) := rfl
/-! X8_refunds -/
noncomputable def R_X8_refunds_0 (v0 : Nat) (v1 : Int32) (σ : sS) : Option (Int32 × sS) := s_run (S_X8_refunds ) (0, [.ref v0, .int v1], σ)
noncomputable def R_X8_refunds_21 (v0 : Nat) (v1 : Int32) (w0 : Int32) (w1 : Nat) (σ : sS) : Option (Int32 × sS) := s_run (S_X8_refunds ) (21, [.ref v0, .int v1, .int w0, .ref w1], σ)
noncomputable def R_X8_refunds_38 (v0 : Nat) (v1 : Int32) (v2 : Int32) (v3 : Int32) (σ : sS) : Option (Int32 × sS) := s_run (S_X8_refunds ) (38, [.ref v0, .int v1, .int v2, .int v3], σ)
noncomputable def R_X8_refunds_63 (v0 : Nat) (v1 : Int32) (v3 : Int32) (w0 : Int32) (w1 : Int32) (σ : sS) : Option (Int32 × sS) := s_run (S_X8_refunds ) (63, [.ref v0, .int v1, .int v3, .int w0, .int w1], σ)
theorem E_X8_refunds_0 {v0 : Nat} {v1 : Int32} {σ : sS} : R_X8_refunds_0 v0 v1 σ = ((s_pf σ v0 8 0 (.int 0)).bind fun σ1 =>
  (F_X8_in v1 0 31 σ1).bind fun q2 =>
  if q2.1 = 0 then (R_X8_refunds_21 v0 v1 1 v0 q2.2)
  else (R_X8_refunds_21 v0 v1 0 v0 q2.2)) := by
  unfold R_X8_refunds_0
  rw [s_run_eq]
  show s_go _ _ (T_X8_refunds_0 v0 v1 σ) = _
  unfold T_X8_refunds_0
  simp only [s_go_bind, s_go_ite, s_go_sum, s_go_l, s_go_r, s_go_n]
  try rfl
theorem E_X8_refunds_21 {v0 : Nat} {v1 : Int32} {w0 : Int32} {w1 : Nat} {σ : sS} : R_X8_refunds_21 v0 v1 w0 w1 σ = ((F_X8_throwsIf w1 w0 1 σ).bind fun q1 =>
  if q1.1 = 0 then ((F_X8_goesThrough v0 q1.2).bind fun q2 =>
  R_X8_refunds_38 v0 v1 0 0 q2.2)
  else (some (0, q1.2))) := by
  unfold R_X8_refunds_21
  rw [s_run_eq]
  show s_go _ _ (T_X8_refunds_21 v0 v1 w0 w1 σ) = _
  unfold T_X8_refunds_21
  simp only [s_go_bind, s_go_ite, s_go_sum, s_go_l, s_go_r, s_go_n]
  try rfl
theorem E_X8_refunds_38 {v0 : Nat} {v1 : Int32} {v2 : Int32} {v3 : Int32} {σ : sS} : R_X8_refunds_38 v0 v1 v2 v3 σ = ((F_X8_receipts v0 σ).bind fun q1 =>
  if q1.1 ≤ v3 then (some (v2, q1.2))
  else ((F_X8_isBack v0 v3 v1 q1.2).bind fun q2 =>
  if q2.1 = 0 then (R_X8_refunds_63 v0 v1 v3 0 v2 q2.2)
  else (R_X8_refunds_63 v0 v1 v3 (1 <<< (v3 &&& 31)) v2 q2.2))) := by
  unfold R_X8_refunds_38
  rw [s_run_eq]
  show s_go _ _ (T_X8_refunds_38 v0 v1 v2 v3 σ) = _
  unfold T_X8_refunds_38
  simp only [s_go_bind, s_go_ite, s_go_sum, s_go_l, s_go_r, s_go_n]
  try rfl
theorem E_X8_refunds_63 {v0 : Nat} {v1 : Int32} {v3 : Int32} {w0 : Int32} {w1 : Int32} {σ : sS} : R_X8_refunds_63 v0 v1 v3 w0 w1 σ = (R_X8_refunds_38 v0 v1 (w1 ||| w0) (v3 + 1) σ) := by
  unfold R_X8_refunds_63
  rw [s_run_eq]
  show s_go _ _ (T_X8_refunds_63 v0 v1 v3 w0 w1 σ) = _
  unfold T_X8_refunds_63
  simp only [s_go_bind, s_go_ite, s_go_sum, s_go_l, s_go_r, s_go_n]
  try rfl
theorem E_X8_refunds {v0 : Nat} {v1 : Int32} {σ : sS} : F_X8_refunds v0 v1 σ = ((s_is σ v0 8).bind fun _ => R_X8_refunds_0 v0 v1 σ) := rfl
/-! X6_dearerOnes -/
noncomputable def R_X6_dearerOnes_0 (v0 : Nat) (σ : sS) : Option (Int32 × sS) := s_run (S_X6_dearerOnes ) (0, [.ref v0], σ)
noncomputable def R_X6_dearerOnes_4 (v0 : Nat) (v1 : Int32) (v2 : Int32) (σ : sS) : Option (Int32 × sS) := s_run (S_X6_dearerOnes ) (4, [.ref v0, .int v1, .int v2], σ)
noncomputable def R_X6_dearerOnes_44 (v0 : Nat) (v1 : Int32) (v2 : Int32) (v3 : Int32) (w0 : Int32) (σ : sS) : Option (Int32 × sS) := s_run (S_X6_dearerOnes ) (44, [.ref v0, .int v1, .int v2, .int v3, .int w0], σ)
noncomputable def R_X6_dearerOnes_77 (v0 : Nat) (v1 : Int32) (v2 : Int32) (σ : sS) : Option (Int32 × sS) := s_run (S_X6_dearerOnes ) (77, [.ref v0, .int v1, .int v2], σ)
theorem E_X6_dearerOnes_0 {v0 : Nat} {σ : sS} : R_X6_dearerOnes_0 v0 σ = (R_X6_dearerOnes_4 v0 0 0 σ) := by
  unfold R_X6_dearerOnes_0
  rw [s_run_eq]
  show s_go _ _ (T_X6_dearerOnes_0 v0 σ) = _
  unfold T_X6_dearerOnes_0
  simp only [s_go_bind, s_go_ite, s_go_sum, s_go_l, s_go_r, s_go_n]
  try rfl
theorem E_X6_dearerOnes_4 {v0 : Nat} {v1 : Int32} {v2 : Int32} {σ : sS} : R_X6_dearerOnes_4 v0 v1 v2 σ = ((s_fr σ v0 6 0).bind fun x1 =>
  (s_fi σ x1 1 9).bind fun x2 =>
  if x2 ≤ v2 then (some (v1, σ))
  else ((s_fr σ v0 6 0).bind fun x3 =>
  (F_X1_ofReceipt x3 v2 0 σ).bind fun q4 =>
  (s_fr q4.2 v0 6 0).bind fun x5 =>
  (F_X1_ofLine x5 q4.1 2 q4.2).bind fun q6 =>
  if q6.1 = 15 then (R_X6_dearerOnes_44 v0 v1 v2 q4.1 1 q6.2)
  else (R_X6_dearerOnes_44 v0 v1 v2 q4.1 0 q6.2))) := by
  unfold R_X6_dearerOnes_4
  rw [s_run_eq]
  show s_go _ _ (T_X6_dearerOnes_4 v0 v1 v2 σ) = _
  unfold T_X6_dearerOnes_4
  simp only [s_go_bind, s_go_ite, s_go_sum, s_go_l, s_go_r, s_go_n]
  try rfl
theorem E_X6_dearerOnes_44 {v0 : Nat} {v1 : Int32} {v2 : Int32} {v3 : Int32} {w0 : Int32} {σ : sS} : R_X6_dearerOnes_44 v0 v1 v2 v3 w0 σ = (if w0 = 0 then (R_X6_dearerOnes_77 v0 v1 v2 σ)
  else ((s_fr σ v0 6 0).bind fun x1 =>
  (F_X1_ofReceipt x1 v2 2 σ).bind fun q2 =>
  (s_fr q2.2 v0 6 1).bind fun x3 =>
  (F_X0_costOfAll x3 v3 q2.2).bind fun q4 =>
  if q2.1 ≤ q4.1 then (R_X6_dearerOnes_77 v0 v1 v2 q4.2)
  else (R_X6_dearerOnes_77 v0 (v1 ||| (1 <<< (v2 &&& 31))) v2 q4.2))) := by
  unfold R_X6_dearerOnes_44
  rw [s_run_eq]
  show s_go _ _ (T_X6_dearerOnes_44 v0 v1 v2 v3 w0 σ) = _
  unfold T_X6_dearerOnes_44
  simp only [s_go_bind, s_go_ite, s_go_sum, s_go_l, s_go_r, s_go_n]
  try rfl
theorem E_X6_dearerOnes_77 {v0 : Nat} {v1 : Int32} {v2 : Int32} {σ : sS} : R_X6_dearerOnes_77 v0 v1 v2 σ = (R_X6_dearerOnes_4 v0 v1 (v2 + 1) σ) := by
  unfold R_X6_dearerOnes_77
  rw [s_run_eq]
  show s_go _ _ (T_X6_dearerOnes_77 v0 v1 v2 σ) = _
  unfold T_X6_dearerOnes_77
  simp only [s_go_bind, s_go_ite, s_go_sum, s_go_l, s_go_r, s_go_n]
  try rfl
theorem E_X6_dearerOnes {v0 : Nat} {σ : sS} : F_X6_dearerOnes v0 σ = ((s_is σ v0 6).bind fun _ => R_X6_dearerOnes_0 v0 σ) := rfl
/-! X7_dearer -/
noncomputable def R_X7_dearer_0 (v0 : Nat) (σ : sS) : Option (Int32 × sS) := s_run (S_X7_dearer ) (0, [.ref v0], σ)
theorem E_X7_dearer_0 {v0 : Nat} {σ : sS} : R_X7_dearer_0 v0 σ = ((s_fr σ v0 7 7).bind fun x1 =>
  (F_X6_dearerOnes x1 σ).bind fun q2 =>
  some (q2.1, q2.2)) := by
  unfold R_X7_dearer_0
  rw [s_run_eq]
  show s_go _ _ (T_X7_dearer_0 v0 σ) = _
  unfold T_X7_dearer_0
  simp only [s_go_bind, s_go_ite, s_go_sum, s_go_l, s_go_r, s_go_n]
  try rfl
theorem E_X7_dearer {v0 : Nat} {σ : sS} : F_X7_dearer v0 σ = ((s_is σ v0 7).bind fun _ => R_X7_dearer_0 v0 σ) := rfl
/-! X8_dearer -/
noncomputable def R_X8_dearer_0 (v0 : Nat) (σ : sS) : Option (Int32 × sS) := s_run (S_X8_dearer ) (0, [.ref v0], σ)
noncomputable def R_X8_dearer_13 (v0 : Nat) (v1 : Int32) (v2 : Int32) (σ : sS) : Option (Int32 × sS) := s_run (S_X8_dearer ) (13, [.ref v0, .int v1, .int v2], σ)
noncomputable def R_X8_dearer_63 (v0 : Nat) (v2 : Int32) (w0 : Int32) (σ : sS) : Option (Int32 × sS) := s_run (S_X8_dearer ) (63, [.ref v0, .int v2, .int w0], σ)
noncomputable def R_X8_dearer_64 (v0 : Nat) (v2 : Int32) (w0 : Int32) (w1 : Int32) (σ : sS) : Option (Int32 × sS) := s_run (S_X8_dearer ) (64, [.ref v0, .int v2, .int w0, .int w1], σ)
theorem E_X8_dearer_0 {v0 : Nat} {σ : sS} : R_X8_dearer_0 v0 σ = ((s_pf σ v0 8 0 (.int 0)).bind fun σ1 =>
  (F_X8_goesThrough v0 σ1).bind fun q2 =>
  R_X8_dearer_13 v0 0 0 q2.2) := by
  unfold R_X8_dearer_0
  rw [s_run_eq]
  show s_go _ _ (T_X8_dearer_0 v0 σ) = _
  unfold T_X8_dearer_0
  simp only [s_go_bind, s_go_ite, s_go_sum, s_go_l, s_go_r, s_go_n]
  try rfl
theorem E_X8_dearer_13 {v0 : Nat} {v1 : Int32} {v2 : Int32} {σ : sS} : R_X8_dearer_13 v0 v1 v2 σ = ((F_X8_receipts v0 σ).bind fun q1 =>
  if q1.1 ≤ v2 then (some (v1, q1.2))
  else ((F_X8_ofReceipt v0 v2 0 q1.2).bind fun q2 =>
  (F_X8_ofLine v0 q2.1 2 q2.2).bind fun q3 =>
  if q3.1 = 15 then ((F_X8_ofReceipt v0 v2 2 q3.2).bind fun q4 =>
  (F_X8_ofReceipt v0 v2 0 q4.2).bind fun q5 =>
  (F_X8_spentBy v0 q5.1 q5.2).bind fun q6 =>
  if q4.1 ≤ q6.1 then (R_X8_dearer_63 v0 v2 v1 q6.2)
  else (R_X8_dearer_64 v0 v2 (1 <<< (v2 &&& 31)) v1 q6.2))
  else (R_X8_dearer_63 v0 v2 v1 q3.2))) := by
  unfold R_X8_dearer_13
  rw [s_run_eq]
  show s_go _ _ (T_X8_dearer_13 v0 v1 v2 σ) = _
  unfold T_X8_dearer_13
  simp only [s_go_bind, s_go_ite, s_go_sum, s_go_l, s_go_r, s_go_n]
  try rfl
theorem E_X8_dearer_63 {v0 : Nat} {v2 : Int32} {w0 : Int32} {σ : sS} : R_X8_dearer_63 v0 v2 w0 σ = (R_X8_dearer_64 v0 v2 0 w0 σ) := by
  unfold R_X8_dearer_63
  rw [s_run_eq]
  show s_go _ _ (T_X8_dearer_63 v0 v2 w0 σ) = _
  unfold T_X8_dearer_63
  simp only [s_go_bind, s_go_ite, s_go_sum, s_go_l, s_go_r, s_go_n]
  try rfl
theorem E_X8_dearer_64 {v0 : Nat} {v2 : Int32} {w0 : Int32} {w1 : Int32} {σ : sS} : R_X8_dearer_64 v0 v2 w0 w1 σ = (R_X8_dearer_13 v0 (w1 ||| w0) (v2 + 1) σ) := by
  unfold R_X8_dearer_64
  rw [s_run_eq]
  show s_go _ _ (T_X8_dearer_64 v0 v2 w0 w1 σ) = _
  unfold T_X8_dearer_64
  simp only [s_go_bind, s_go_ite, s_go_sum, s_go_l, s_go_r, s_go_n]
  try rfl
theorem E_X8_dearer {v0 : Nat} {σ : sS} : F_X8_dearer v0 σ = ((s_is σ v0 8).bind fun _ => R_X8_dearer_0 v0 σ) := rfl
/-! X8_chain -/
noncomputable def R_X8_chain_0 (v0 : Nat) (v1 : Int32) (σ : sS) : Option (Int32 × sS) := s_run (S_X8_chain ) (0, [.ref v0, .int v1], σ)
noncomputable def R_X8_chain_24 (v0 : Nat) (v2 : Int32) (v3 : Int32) (σ : sS) : Option (Int32 × sS) := s_run (S_X8_chain ) (24, [.ref v0, .int v2, .int v3], σ)
theorem E_X8_chain_0 {v0 : Nat} {v1 : Int32} {σ : sS} : R_X8_chain_0 v0 v1 σ = ((s_pf σ v0 8 0 (.int 0)).bind fun σ1 =>
  (F_X8_noLine v0 v1 σ1).bind fun q2 =>
  (F_X8_throwsIf v0 q2.1 1 q2.2).bind fun q3 =>
  if q3.1 = 0 then (R_X8_chain_24 v0 0 v1 q3.2)
  else (some (0, q3.2))) := by
  unfold R_X8_chain_0
  rw [s_run_eq]
  show s_go _ _ (T_X8_chain_0 v0 v1 σ) = _
  unfold T_X8_chain_0
  simp only [s_go_bind, s_go_ite, s_go_sum, s_go_l, s_go_r, s_go_n]
  try rfl
theorem E_X8_chain_24 {v0 : Nat} {v2 : Int32} {v3 : Int32} {σ : sS} : R_X8_chain_24 v0 v2 v3 σ = (if v3 < 0 then (some (v2, σ))
  else ((F_X8_ofLine v0 v3 2 σ).bind fun q1 =>
  if q1.1 = 15 then ((F_X8_premise v0 v3 0 q1.2).bind fun q2 =>
  R_X8_chain_24 v0 (v2 + 1) q2.1 q2.2)
  else (some (v2, q1.2)))) := by
  unfold R_X8_chain_24
  rw [s_run_eq]
  show s_go _ _ (T_X8_chain_24 v0 v2 v3 σ) = _
  unfold T_X8_chain_24
  simp only [s_go_bind, s_go_ite, s_go_sum, s_go_l, s_go_r, s_go_n]
  try rfl
theorem E_X8_chain {v0 : Nat} {v1 : Int32} {σ : sS} : F_X8_chain v0 v1 σ = ((s_is σ v0 8).bind fun _ => R_X8_chain_0 v0 v1 σ) := rfl
/-! X1_take -/
noncomputable def R_X1_take_0 (v0 : Nat) (v1 : Nat) (σ : sS) : Option (Unit × sS) := s_run (S_X1_take ) (0, [.ref v0, .ref v1], σ)
theorem E_X1_take_0 {v0 : Nat} {v1 : Nat} {σ : sS} : R_X1_take_0 v0 v1 σ = ((s_fi σ v1 1 0).bind fun x1 =>
  (s_pf σ v0 1 0 (.int x1)).bind fun σ2 =>
  (s_fi σ2 v1 1 1).bind fun x3 =>
  (s_pf σ2 v0 1 1 (.int x3)).bind fun σ4 =>
  (s_fi σ4 v1 1 2).bind fun x5 =>
  (s_pf σ4 v0 1 2 (.int x5)).bind fun σ6 =>
  (s_fi σ6 v1 1 6).bind fun x7 =>
  (s_pf σ6 v0 1 6 (.int x7)).bind fun σ8 =>
  (s_fi σ8 v1 1 9).bind fun x9 =>
  (s_pf σ8 v0 1 9 (.int x9)).bind fun σ10 =>
  (s_fi σ10 v1 1 10).bind fun x11 =>
  (s_pf σ10 v0 1 10 (.int x11)).bind fun σ12 =>
  (s_fr σ12 v1 1 3).bind fun x13 =>
  (s_fr σ12 v0 1 3).bind fun x14 =>
  (s_fr σ12 v0 1 3).bind fun x15 =>
  (s_len σ12 x15).bind fun x16 =>
  (s_cpi σ12 x13 0 x14 0 x16).bind fun σ17 =>
  (s_fr σ17 v1 1 4).bind fun x18 =>
  (s_fr σ17 v0 1 4).bind fun x19 =>
  (s_fr σ17 v0 1 4).bind fun x20 =>
  (s_len σ17 x20).bind fun x21 =>
  (s_cpi σ17 x18 0 x19 0 x21).bind fun σ22 =>
  (s_fr σ22 v1 1 5).bind fun x23 =>
  (s_fr σ22 v0 1 5).bind fun x24 =>
  (s_fr σ22 v0 1 5).bind fun x25 =>
  (s_len σ22 x25).bind fun x26 =>
  (s_cpi σ22 x23 0 x24 0 x26).bind fun σ27 =>
  (s_fr σ27 v1 1 7).bind fun x28 =>
  (s_fr σ27 v0 1 7).bind fun x29 =>
  (s_fr σ27 v0 1 7).bind fun x30 =>
  (s_len σ27 x30).bind fun x31 =>
  (s_cpi σ27 x28 0 x29 0 x31).bind fun σ32 =>
  (s_fr σ32 v1 1 8).bind fun x33 =>
  (s_fr σ32 v0 1 8).bind fun x34 =>
  (s_fr σ32 v0 1 8).bind fun x35 =>
  (s_len σ32 x35).bind fun x36 =>
  (s_cpi σ32 x33 0 x34 0 x36).bind fun σ37 =>
  (s_fr σ37 v1 1 11).bind fun x38 =>
  (s_fr σ37 v0 1 11).bind fun x39 =>
  (s_fr σ37 v0 1 11).bind fun x40 =>
  (s_len σ37 x40).bind fun x41 =>
  (s_cpi σ37 x38 0 x39 0 x41).bind fun σ42 =>
  (s_fr σ42 v1 1 12).bind fun x43 =>
  (s_fr σ42 v0 1 12).bind fun x44 =>
  (s_fr σ42 v0 1 12).bind fun x45 =>
  (s_len σ42 x45).bind fun x46 =>
  (s_cpi σ42 x43 0 x44 0 x46).bind fun σ47 =>
  (s_fr σ47 v1 1 13).bind fun x48 =>
  (s_fr σ47 v0 1 13).bind fun x49 =>
  (s_fr σ47 v0 1 13).bind fun x50 =>
  (s_len σ47 x50).bind fun x51 =>
  (s_cpi σ47 x48 0 x49 0 x51).bind fun σ52 =>
  (s_fr σ52 v1 1 14).bind fun x53 =>
  (s_fr σ52 v0 1 14).bind fun x54 =>
  (s_fr σ52 v0 1 14).bind fun x55 =>
  (s_len σ52 x55).bind fun x56 =>
  (s_cpi σ52 x53 0 x54 0 x56).bind fun σ57 =>
  some ((), σ57)) := by
  unfold R_X1_take_0
  rw [s_run_eq]
  show s_go _ _ (T_X1_take_0 v0 v1 σ) = _
  unfold T_X1_take_0
  simp only [s_go_bind, s_go_ite, s_go_sum, s_go_l, s_go_r, s_go_n]
  try rfl
theorem E_X1_take {v0 : Nat} {v1 : Nat} {σ : sS} : F_X1_take v0 v1 σ = ((s_is σ v0 1).bind fun _ => R_X1_take_0 v0 v1 σ) := rfl
/-! X7_image -/
noncomputable def R_X7_image_0 (v0 : Nat) (σ : sS) : Option (Unit × sS) := s_run (S_X7_image ) (0, [.ref v0], σ)
theorem E_X7_image_0 {v0 : Nat} {σ : sS} : R_X7_image_0 v0 σ = ((s_fr σ v0 7 2).bind fun x1 =>
  (s_fr σ v0 7 1).bind fun x2 =>
  (F_X1_take x1 x2 σ).bind fun q3 =>
  (s_pf q3.2 v0 7 8 (.int 1)).bind fun σ4 =>
  some ((), σ4)) := by
  unfold R_X7_image_0
  rw [s_run_eq]
  show s_go _ _ (T_X7_image_0 v0 σ) = _
  unfold T_X7_image_0
  simp only [s_go_bind, s_go_ite, s_go_sum, s_go_l, s_go_r, s_go_n]
  try rfl
theorem E_X7_image {v0 : Nat} {σ : sS} : F_X7_image v0 σ = ((s_is σ v0 7).bind fun _ => R_X7_image_0 v0 σ) := rfl
/-! X8_image -/
noncomputable def R_X8_image_0 (v0 : Nat) (σ : sS) : Option (Unit × sS) := s_run (S_X8_image ) (0, [.ref v0], σ)
noncomputable def R_X8_image_7 (v0 : Nat) (v1 : Int32) (σ : sS) : Option (Unit × sS) := s_run (S_X8_image ) (7, [.ref v0, .int v1], σ)
theorem E_X8_image_0 {v0 : Nat} {σ : sS} : R_X8_image_0 v0 σ = ((s_pf σ v0 8 0 (.int 0)).bind fun σ1 =>
  R_X8_image_7 v0 0 σ1) := by
  unfold R_X8_image_0
  rw [s_run_eq]
  show s_go _ _ (T_X8_image_0 v0 σ) = _
  unfold T_X8_image_0
  simp only [s_go_bind, s_go_ite, s_go_sum, s_go_l, s_go_r, s_go_n]
  try rfl
theorem E_X8_image_7 {v0 : Nat} {v1 : Int32} {σ : sS} : R_X8_image_7 v0 v1 σ = (if (1682 : Int32) ≤ v1 then ((s_pf σ v0 8 3 (.int 1)).bind fun σ1 =>
  some ((), σ1))
  else ((s_fr σ v0 8 2).bind fun x2 =>
  (s_fr σ v0 8 1).bind fun x3 =>
  (s_ai σ x3 v1).bind fun x4 =>
  (s_si σ x2 v1 x4).bind fun σ5 =>
  R_X8_image_7 v0 (v1 + 1) σ5)) := by
  unfold R_X8_image_7
  rw [s_run_eq]
  show s_go _ _ (T_X8_image_7 v0 v1 σ) = _
  unfold T_X8_image_7
  simp only [s_go_bind, s_go_ite, s_go_sum, s_go_l, s_go_r, s_go_n]
  try rfl
theorem E_X8_image {v0 : Nat} {σ : sS} : F_X8_image v0 σ = ((s_is σ v0 8).bind fun _ => R_X8_image_0 v0 σ) := rfl
/-! X7_back -/
noncomputable def R_X7_back_0 (v0 : Nat) (σ : sS) : Option (Int32 × sS) := s_run (S_X7_back ) (0, [.ref v0], σ)
theorem E_X7_back_0 {v0 : Nat} {σ : sS} : R_X7_back_0 v0 σ = ((s_fi σ v0 7 8).bind fun x1 =>
  if x1 = 0 then (some (0, σ))
  else ((s_fr σ v0 7 1).bind fun x2 =>
  (s_fr σ v0 7 2).bind fun x3 =>
  (F_X1_take x2 x3 σ).bind fun q4 =>
  (s_fr q4.2 v0 7 0).bind fun x5 =>
  (s_fr q4.2 v0 7 1).bind fun x6 =>
  (s_fi q4.2 x6 1 1).bind fun x7 =>
  (F_X2_cut x5 x7 q4.2).bind fun q8 =>
  some (1, q8.2))) := by
  unfold R_X7_back_0
  rw [s_run_eq]
  show s_go _ _ (T_X7_back_0 v0 σ) = _
  unfold T_X7_back_0
  simp only [s_go_bind, s_go_ite, s_go_sum, s_go_l, s_go_r, s_go_n]
  try rfl
theorem E_X7_back {v0 : Nat} {σ : sS} : F_X7_back v0 σ = ((s_is σ v0 7).bind fun _ => R_X7_back_0 v0 σ) := rfl
/-! X8_back -/
noncomputable def R_X8_back_0 (v0 : Nat) (σ : sS) : Option (Int32 × sS) := s_run (S_X8_back ) (0, [.ref v0], σ)
noncomputable def R_X8_back_16 (v0 : Nat) (v1 : Int32) (σ : sS) : Option (Int32 × sS) := s_run (S_X8_back ) (16, [.ref v0, .int v1], σ)
theorem E_X8_back_0 {v0 : Nat} {σ : sS} : R_X8_back_0 v0 σ = ((s_pf σ v0 8 0 (.int 0)).bind fun σ1 =>
  (s_fi σ1 v0 8 3).bind fun x2 =>
  if x2 = 0 then (some (0, σ1))
  else (R_X8_back_16 v0 0 σ1)) := by
  unfold R_X8_back_0
  rw [s_run_eq]
  show s_go _ _ (T_X8_back_0 v0 σ) = _
  unfold T_X8_back_0
  simp only [s_go_bind, s_go_ite, s_go_sum, s_go_l, s_go_r, s_go_n]
  try rfl
theorem E_X8_back_16 {v0 : Nat} {v1 : Int32} {σ : sS} : R_X8_back_16 v0 v1 σ = (if (1682 : Int32) ≤ v1 then ((F_X8_fills v0 σ).bind fun q1 =>
  some (1, q1.2))
  else ((s_fr σ v0 8 1).bind fun x2 =>
  (s_fr σ v0 8 2).bind fun x3 =>
  (s_ai σ x3 v1).bind fun x4 =>
  (s_si σ x2 v1 x4).bind fun σ5 =>
  R_X8_back_16 v0 (v1 + 1) σ5)) := by
  unfold R_X8_back_16
  rw [s_run_eq]
  show s_go _ _ (T_X8_back_16 v0 v1 σ) = _
  unfold T_X8_back_16
  simp only [s_go_bind, s_go_ite, s_go_sum, s_go_l, s_go_r, s_go_n]
  try rfl
theorem E_X8_back {v0 : Nat} {σ : sS} : F_X8_back v0 σ = ((s_is σ v0 8).bind fun _ => R_X8_back_0 v0 σ) := rfl
/-! X6_coinsOfAll -/
noncomputable def R_X6_coinsOfAll_0 (v0 : Nat) (σ : sS) : Option (Int32 × sS) := s_run (S_X6_coinsOfAll ) (0, [.ref v0], σ)
noncomputable def R_X6_coinsOfAll_4 (v0 : Nat) (v1 : Int32) (v2 : Int32) (σ : sS) : Option (Int32 × sS) := s_run (S_X6_coinsOfAll ) (4, [.ref v0, .int v1, .int v2], σ)
noncomputable def R_X6_coinsOfAll_38 (v0 : Nat) (v1 : Int32) (v2 : Int32) (σ : sS) : Option (Int32 × sS) := s_run (S_X6_coinsOfAll ) (38, [.ref v0, .int v1, .int v2], σ)
theorem E_X6_coinsOfAll_0 {v0 : Nat} {σ : sS} : R_X6_coinsOfAll_0 v0 σ = (R_X6_coinsOfAll_4 v0 0 0 σ) := by
  unfold R_X6_coinsOfAll_0
  rw [s_run_eq]
  show s_go _ _ (T_X6_coinsOfAll_0 v0 σ) = _
  unfold T_X6_coinsOfAll_0
  simp only [s_go_bind, s_go_ite, s_go_sum, s_go_l, s_go_r, s_go_n]
  try rfl
theorem E_X6_coinsOfAll_4 {v0 : Nat} {v1 : Int32} {v2 : Int32} {σ : sS} : R_X6_coinsOfAll_4 v0 v1 v2 σ = ((s_fr σ v0 6 0).bind fun x1 =>
  (s_fi σ x1 1 9).bind fun x2 =>
  if x2 ≤ v2 then (some (v1, σ))
  else ((s_fr σ v0 6 0).bind fun x3 =>
  (F_X1_isVoid x3 v2 σ).bind fun q4 =>
  if q4.1 = 0 then ((s_fr q4.2 v0 6 0).bind fun x5 =>
  (F_X1_ofReceipt x5 v2 2 q4.2).bind fun q6 =>
  R_X6_coinsOfAll_38 v0 (v1 + q6.1) v2 q6.2)
  else (R_X6_coinsOfAll_38 v0 v1 v2 q4.2))) := by
  unfold R_X6_coinsOfAll_4
  rw [s_run_eq]
  show s_go _ _ (T_X6_coinsOfAll_4 v0 v1 v2 σ) = _
  unfold T_X6_coinsOfAll_4
  simp only [s_go_bind, s_go_ite, s_go_sum, s_go_l, s_go_r, s_go_n]
  try rfl
theorem E_X6_coinsOfAll_38 {v0 : Nat} {v1 : Int32} {v2 : Int32} {σ : sS} : R_X6_coinsOfAll_38 v0 v1 v2 σ = (R_X6_coinsOfAll_4 v0 v1 (v2 + 1) σ) := by
  unfold R_X6_coinsOfAll_38
  rw [s_run_eq]
  show s_go _ _ (T_X6_coinsOfAll_38 v0 v1 v2 σ) = _
  unfold T_X6_coinsOfAll_38
  simp only [s_go_bind, s_go_ite, s_go_sum, s_go_l, s_go_r, s_go_n]
  try rfl
theorem E_X6_coinsOfAll {v0 : Nat} {σ : sS} : F_X6_coinsOfAll v0 σ = ((s_is σ v0 6).bind fun _ => R_X6_coinsOfAll_0 v0 σ) := rfl
/-! X7_count -/
noncomputable def R_X7_count_0 (v0 : Nat) (v1 : Int32) (σ : sS) : Option (Int32 × sS) := s_run (S_X7_count ) (0, [.ref v0, .int v1], σ)
theorem E_X7_count_0 {v0 : Nat} {v1 : Int32} {σ : sS} : R_X7_count_0 v0 v1 σ = (if v1 = 0 then ((s_fr σ v0 7 1).bind fun x1 =>
  (s_fi σ x1 1 0).bind fun x2 =>
  some (x2, σ))
  else if v1 = 1 then ((s_fr σ v0 7 1).bind fun x3 =>
  (s_fi σ x3 1 2).bind fun x4 =>
  some (x4, σ))
  else if v1 = 2 then ((s_fr σ v0 7 1).bind fun x5 =>
  (s_fi σ x5 1 6).bind fun x6 =>
  some (x6, σ))
  else if v1 = 3 then ((s_fr σ v0 7 1).bind fun x7 =>
  (s_fi σ x7 1 9).bind fun x8 =>
  some (x8, σ))
  else if v1 = 4 then ((s_fr σ v0 7 1).bind fun x9 =>
  (s_fi σ x9 1 10).bind fun x10 =>
  (F_J6_bitCount_0f7a4 x10 σ).bind fun q11 =>
  some (q11.1, q11.2))
  else if v1 = 5 then ((s_fr σ v0 7 5).bind fun x12 =>
  (F_X0_audit x12 σ).bind fun q13 =>
  (s_fr q13.2 v0 7 1).bind fun x14 =>
  (s_fi q13.2 x14 1 6).bind fun x15 =>
  (s_fr q13.2 v0 7 5).bind fun x16 =>
  (s_fl q13.2 x16 0 0).bind fun x17 =>
  (F_J13_bitCount_95d88 x17 q13.2).bind fun q18 =>
  some ((x15 - q18.1), q18.2))
  else if v1 = 6 then ((s_fr σ v0 7 7).bind fun x19 =>
  (F_X6_coinsOfAll x19 σ).bind fun q20 =>
  some (q20.1, q20.2))
  else (some ((-1), σ))) := by
  unfold R_X7_count_0
  rw [s_run_eq]
  show s_go _ _ (T_X7_count_0 v0 v1 σ) = _
  unfold T_X7_count_0
  simp only [s_go_bind, s_go_ite, s_go_sum, s_go_l, s_go_r, s_go_n]
  try rfl
theorem E_X7_count {v0 : Nat} {v1 : Int32} {σ : sS} : F_X7_count v0 v1 σ = ((s_is σ v0 7).bind fun _ => R_X7_count_0 v0 v1 σ) := rfl
/-! X8_count -/
noncomputable def R_X8_count_0 (v0 : Nat) (v1 : Int32) (σ : sS) : Option (Int32 × sS) := s_run (S_X8_count ) (0, [.ref v0, .int v1], σ)
noncomputable def R_X8_count_74 (v0 : Nat) (v2 : Int32) (v3 : Int32) (σ : sS) : Option (Int32 × sS) := s_run (S_X8_count ) (74, [.ref v0, .int v2, .int v3], σ)
noncomputable def R_X8_count_96 (v0 : Nat) (v3 : Int32) (w0 : Int32) (w1 : Int32) (σ : sS) : Option (Int32 × sS) := s_run (S_X8_count ) (96, [.ref v0, .int v3, .int w0, .int w1], σ)
noncomputable def R_X8_count_108 (v0 : Nat) (v2 : Int32) (v3 : Int32) (σ : sS) : Option (Int32 × sS) := s_run (S_X8_count ) (108, [.ref v0, .int v2, .int v3], σ)
noncomputable def R_X8_count_130 (v0 : Nat) (v3 : Int32) (w0 : Int32) (w1 : Int32) (σ : sS) : Option (Int32 × sS) := s_run (S_X8_count ) (130, [.ref v0, .int v3, .int w0, .int w1], σ)
noncomputable def R_X8_count_142 (v0 : Nat) (v2 : Int32) (v3 : Int32) (σ : sS) : Option (Int32 × sS) := s_run (S_X8_count ) (142, [.ref v0, .int v2, .int v3], σ)
noncomputable def R_X8_count_169 (v0 : Nat) (v3 : Int32) (w0 : Int32) (w1 : Int32) (σ : sS) : Option (Int32 × sS) := s_run (S_X8_count ) (169, [.ref v0, .int v3, .int w0, .int w1], σ)
theorem E_X8_count_0 {v0 : Nat} {v1 : Int32} {σ : sS} : R_X8_count_0 v0 v1 σ = ((s_pf σ v0 8 0 (.int 0)).bind fun σ1 =>
  if v1 = 0 then ((F_X8_d v0 σ1).bind fun q2 =>
  some (q2.1, q2.2))
  else if v1 = 1 then ((F_X8_formulas v0 σ1).bind fun q3 =>
  some (q3.1, q3.2))
  else if v1 = 2 then ((F_X8_lines v0 σ1).bind fun q4 =>
  some (q4.1, q4.2))
  else if v1 = 3 then ((F_X8_receipts v0 σ1).bind fun q5 =>
  some (q5.1, q5.2))
  else if v1 = 4 then (R_X8_count_74 v0 0 0 σ1)
  else if v1 = 5 then (R_X8_count_108 v0 0 0 σ1)
  else if v1 = 6 then (R_X8_count_142 v0 0 0 σ1)
  else (some ((-1), σ1))) := by
  unfold R_X8_count_0
  rw [s_run_eq]
  show s_go _ _ (T_X8_count_0 v0 v1 σ) = _
  unfold T_X8_count_0
  simp only [s_go_bind, s_go_ite, s_go_sum, s_go_l, s_go_r, s_go_n]
  try rfl
theorem E_X8_count_74 {v0 : Nat} {v2 : Int32} {v3 : Int32} {σ : sS} : R_X8_count_74 v0 v2 v3 σ = ((F_X8_receipts v0 σ).bind fun q1 =>
  if q1.1 ≤ v3 then (some (v2, q1.2))
  else ((F_X8_isVoid v0 v3 q1.2).bind fun q2 =>
  if q2.1 = 0 then (R_X8_count_96 v0 v3 0 v2 q2.2)
  else (R_X8_count_96 v0 v3 1 v2 q2.2))) := by
  unfold R_X8_count_74
  rw [s_run_eq]
  show s_go _ _ (T_X8_count_74 v0 v2 v3 σ) = _
  unfold T_X8_count_74
  simp only [s_go_bind, s_go_ite, s_go_sum, s_go_l, s_go_r, s_go_n]
  try rfl
theorem E_X8_count_96 {v0 : Nat} {v3 : Int32} {w0 : Int32} {w1 : Int32} {σ : sS} : R_X8_count_96 v0 v3 w0 w1 σ = (R_X8_count_74 v0 (w1 + w0) (v3 + 1) σ) := by
  unfold R_X8_count_96
  rw [s_run_eq]
  show s_go _ _ (T_X8_count_96 v0 v3 w0 w1 σ) = _
  unfold T_X8_count_96
  simp only [s_go_bind, s_go_ite, s_go_sum, s_go_l, s_go_r, s_go_n]
  try rfl
theorem E_X8_count_108 {v0 : Nat} {v2 : Int32} {v3 : Int32} {σ : sS} : R_X8_count_108 v0 v2 v3 σ = ((F_X8_lines v0 σ).bind fun q1 =>
  if q1.1 ≤ v3 then (some (v2, q1.2))
  else ((F_X8_isHonest v0 v3 q1.2).bind fun q2 =>
  if q2.1 = 0 then (R_X8_count_130 v0 v3 1 v2 q2.2)
  else (R_X8_count_130 v0 v3 0 v2 q2.2))) := by
  unfold R_X8_count_108
  rw [s_run_eq]
  show s_go _ _ (T_X8_count_108 v0 v2 v3 σ) = _
  unfold T_X8_count_108
  simp only [s_go_bind, s_go_ite, s_go_sum, s_go_l, s_go_r, s_go_n]
  try rfl
theorem E_X8_count_130 {v0 : Nat} {v3 : Int32} {w0 : Int32} {w1 : Int32} {σ : sS} : R_X8_count_130 v0 v3 w0 w1 σ = (R_X8_count_108 v0 (w1 + w0) (v3 + 1) σ) := by
  unfold R_X8_count_130
  rw [s_run_eq]
  show s_go _ _ (T_X8_count_130 v0 v3 w0 w1 σ) = _
  unfold T_X8_count_130
  simp only [s_go_bind, s_go_ite, s_go_sum, s_go_l, s_go_r, s_go_n]
  try rfl
theorem E_X8_count_142 {v0 : Nat} {v2 : Int32} {v3 : Int32} {σ : sS} : R_X8_count_142 v0 v2 v3 σ = ((F_X8_receipts v0 σ).bind fun q1 =>
  if q1.1 ≤ v3 then (some (v2, q1.2))
  else ((F_X8_isVoid v0 v3 q1.2).bind fun q2 =>
  if q2.1 = 0 then ((F_X8_ofReceipt v0 v3 2 q2.2).bind fun q3 =>
  R_X8_count_169 v0 v3 q3.1 v2 q3.2)
  else (R_X8_count_169 v0 v3 0 v2 q2.2))) := by
  unfold R_X8_count_142
  rw [s_run_eq]
  show s_go _ _ (T_X8_count_142 v0 v2 v3 σ) = _
  unfold T_X8_count_142
  simp only [s_go_bind, s_go_ite, s_go_sum, s_go_l, s_go_r, s_go_n]
  try rfl
theorem E_X8_count_169 {v0 : Nat} {v3 : Int32} {w0 : Int32} {w1 : Int32} {σ : sS} : R_X8_count_169 v0 v3 w0 w1 σ = (R_X8_count_142 v0 (w1 + w0) (v3 + 1) σ) := by
  unfold R_X8_count_169
  rw [s_run_eq]
  show s_go _ _ (T_X8_count_169 v0 v3 w0 w1 σ) = _
  unfold T_X8_count_169
  simp only [s_go_bind, s_go_ite, s_go_sum, s_go_l, s_go_r, s_go_n]
  try rfl
theorem E_X8_count {v0 : Nat} {v1 : Int32} {σ : sS} : F_X8_count v0 v1 σ = ((s_is σ v0 8).bind fun _ => R_X8_count_0 v0 v1 σ) := rfl
/-! L_law -/
noncomputable def R_L_law_0 (v0 : Nat) (v1 : Nat) (σ : sS) : Option (Int32 × sS) := s_run (S_L_law ) (0, [.ref v0, .ref v1], σ)
noncomputable def R_L_law_23 (v0 : Nat) (v1 : Nat) (v2 : Nat) (v3 : Nat) (v4 : Int32) (σ : sS) : Option (Int32 × sS) := s_run (S_L_law ) (23, [.ref v0, .ref v1, .ref v2, .ref v3, .int v4], σ)
noncomputable def R_L_law_375 (v0 : Nat) (v1 : Nat) (v2 : Nat) (v3 : Nat) (v4 : Int32) (σ : sS) : Option (Int32 × sS) := s_run (S_L_law ) (375, [.ref v0, .ref v1, .ref v2, .ref v3, .int v4], σ)
noncomputable def R_L_law_480 (v0 : Nat) (v1 : Nat) (v2 : Nat) (v3 : Nat) (v4 : Int32) (σ : sS) : Option (Int32 × sS) := s_run (S_L_law ) (480, [.ref v0, .ref v1, .ref v2, .ref v3, .int v4], σ)
noncomputable def R_L_law_549 (v0 : Nat) (v1 : Nat) (v2 : Nat) (v3 : Nat) (v4 : Int32) (w0 : Int64) (w1 : Int64) (σ : sS) : Option (Int32 × sS) := s_run (S_L_law ) (549, [.ref v0, .ref v1, .ref v2, .ref v3, .int v4, .long w0, .long w1], σ)
noncomputable def R_L_law_555 (v0 : Nat) (v1 : Nat) (v2 : Nat) (v3 : Nat) (v4 : Int32) (σ : sS) : Option (Int32 × sS) := s_run (S_L_law ) (555, [.ref v0, .ref v1, .ref v2, .ref v3, .int v4], σ)
noncomputable def R_L_law_624 (v0 : Nat) (v1 : Nat) (v2 : Nat) (v3 : Nat) (v4 : Int32) (w0 : Int64) (w1 : Int64) (σ : sS) : Option (Int32 × sS) := s_run (S_L_law ) (624, [.ref v0, .ref v1, .ref v2, .ref v3, .int v4, .long w0, .long w1], σ)
noncomputable def R_L_law_630 (v0 : Nat) (v1 : Nat) (v2 : Nat) (v3 : Nat) (v4 : Int32) (σ : sS) : Option (Int32 × sS) := s_run (S_L_law ) (630, [.ref v0, .ref v1, .ref v2, .ref v3, .int v4], σ)
noncomputable def R_L_law_686 (v0 : Nat) (v1 : Nat) (v2 : Nat) (v3 : Nat) (v4 : Int32) (σ : sS) : Option (Int32 × sS) := s_run (S_L_law ) (686, [.ref v0, .ref v1, .ref v2, .ref v3, .int v4], σ)
noncomputable def R_L_law_754 (v0 : Nat) (v1 : Nat) (v2 : Nat) (v3 : Nat) (v4 : Int32) (σ : sS) : Option (Int32 × sS) := s_run (S_L_law ) (754, [.ref v0, .ref v1, .ref v2, .ref v3, .int v4], σ)
noncomputable def R_L_law_834 (v0 : Nat) (v1 : Nat) (v2 : Nat) (v3 : Nat) (v4 : Int32) (σ : sS) : Option (Int32 × sS) := s_run (S_L_law ) (834, [.ref v0, .ref v1, .ref v2, .ref v3, .int v4], σ)
noncomputable def R_L_law_864 (v0 : Nat) (v1 : Nat) (v2 : Nat) (v3 : Nat) (v4 : Int32) (w0 : Int32) (w1 : Int32) (w2 : Int32) (w3 : Nat) (σ : sS) : Option (Int32 × sS) := s_run (S_L_law ) (864, [.ref v0, .ref v1, .ref v2, .ref v3, .int v4, .int w0, .int w1, .int w2, .ref w3], σ)
noncomputable def R_L_law_897 (v0 : Nat) (v1 : Nat) (v2 : Nat) (v3 : Nat) (v4 : Int32) (v5 : Int32) (w0 : Int32) (w1 : Int32) (w2 : Int32) (w3 : Nat) (σ : sS) : Option (Int32 × sS) := s_run (S_L_law ) (897, [.ref v0, .ref v1, .ref v2, .ref v3, .int v4, .int v5, .int w0, .int w1, .int w2, .ref w3], σ)
noncomputable def R_L_law_931 (v0 : Nat) (v1 : Nat) (v2 : Nat) (v3 : Nat) (v4 : Int32) (w0 : Int64) (w1 : Int64) (σ : sS) : Option (Int32 × sS) := s_run (S_L_law ) (931, [.ref v0, .ref v1, .ref v2, .ref v3, .int v4, .long w0, .long w1], σ)
noncomputable def R_L_law_937 (v0 : Nat) (v1 : Nat) (v2 : Nat) (v3 : Nat) (v4 : Int32) (σ : sS) : Option (Int32 × sS) := s_run (S_L_law ) (937, [.ref v0, .ref v1, .ref v2, .ref v3, .int v4], σ)
noncomputable def R_L_law_993 (v0 : Nat) (v1 : Nat) (v2 : Nat) (v3 : Nat) (v4 : Int32) (σ : sS) : Option (Int32 × sS) := s_run (S_L_law ) (993, [.ref v0, .ref v1, .ref v2, .ref v3, .int v4], σ)
noncomputable def R_L_law_1111 (v0 : Nat) (v1 : Nat) (v2 : Nat) (v3 : Nat) (v4 : Int32) (σ : sS) : Option (Int32 × sS) := s_run (S_L_law ) (1111, [.ref v0, .ref v1, .ref v2, .ref v3, .int v4], σ)
noncomputable def R_L_law_1179 (v0 : Nat) (v1 : Nat) (v2 : Nat) (v3 : Nat) (v4 : Int32) (σ : sS) : Option (Int32 × sS) := s_run (S_L_law ) (1179, [.ref v0, .ref v1, .ref v2, .ref v3, .int v4], σ)
noncomputable def R_L_law_1248 (v0 : Nat) (v1 : Nat) (v2 : Nat) (v3 : Nat) (v4 : Int32) (w0 : Int64) (w1 : Int64) (σ : sS) : Option (Int32 × sS) := s_run (S_L_law ) (1248, [.ref v0, .ref v1, .ref v2, .ref v3, .int v4, .long w0, .long w1], σ)
noncomputable def R_L_law_1254 (v0 : Nat) (v1 : Nat) (v2 : Nat) (v3 : Nat) (v4 : Int32) (σ : sS) : Option (Int32 × sS) := s_run (S_L_law ) (1254, [.ref v0, .ref v1, .ref v2, .ref v3, .int v4], σ)
noncomputable def R_L_law_1322 (v0 : Nat) (v1 : Nat) (v2 : Nat) (v3 : Nat) (v4 : Int32) (σ : sS) : Option (Int32 × sS) := s_run (S_L_law ) (1322, [.ref v0, .ref v1, .ref v2, .ref v3, .int v4], σ)
noncomputable def R_L_law_1377 (v0 : Nat) (v1 : Nat) (v2 : Nat) (v3 : Nat) (v4 : Int32) (σ : sS) : Option (Int32 × sS) := s_run (S_L_law ) (1377, [.ref v0, .ref v1, .ref v2, .ref v3, .int v4], σ)
noncomputable def R_L_law_1433 (v0 : Nat) (v1 : Nat) (v2 : Nat) (v3 : Nat) (v4 : Int32) (σ : sS) : Option (Int32 × sS) := s_run (S_L_law ) (1433, [.ref v0, .ref v1, .ref v2, .ref v3, .int v4], σ)
noncomputable def R_L_law_1500 (v0 : Nat) (v1 : Nat) (v2 : Nat) (v3 : Nat) (v4 : Int32) (σ : sS) : Option (Int32 × sS) := s_run (S_L_law ) (1500, [.ref v0, .ref v1, .ref v2, .ref v3, .int v4], σ)
noncomputable def R_L_law_1569 (v0 : Nat) (v1 : Nat) (v2 : Nat) (v3 : Nat) (v4 : Int32) (w0 : Int64) (w1 : Int64) (σ : sS) : Option (Int32 × sS) := s_run (S_L_law ) (1569, [.ref v0, .ref v1, .ref v2, .ref v3, .int v4, .long w0, .long w1], σ)
noncomputable def R_L_law_1575 (v0 : Nat) (v1 : Nat) (v2 : Nat) (v3 : Nat) (v4 : Int32) (σ : sS) : Option (Int32 × sS) := s_run (S_L_law ) (1575, [.ref v0, .ref v1, .ref v2, .ref v3, .int v4], σ)
noncomputable def R_L_law_1643 (v0 : Nat) (v1 : Nat) (v2 : Nat) (v3 : Nat) (v4 : Int32) (σ : sS) : Option (Int32 × sS) := s_run (S_L_law ) (1643, [.ref v0, .ref v1, .ref v2, .ref v3, .int v4], σ)
noncomputable def R_L_law_1723 (v0 : Nat) (v1 : Nat) (v2 : Nat) (v3 : Nat) (v4 : Int32) (σ : sS) : Option (Int32 × sS) := s_run (S_L_law ) (1723, [.ref v0, .ref v1, .ref v2, .ref v3, .int v4], σ)
noncomputable def R_L_law_1803 (v0 : Nat) (v1 : Nat) (v2 : Nat) (v3 : Nat) (v4 : Int32) (σ : sS) : Option (Int32 × sS) := s_run (S_L_law ) (1803, [.ref v0, .ref v1, .ref v2, .ref v3, .int v4], σ)
noncomputable def R_L_law_1871 (v0 : Nat) (v1 : Nat) (v2 : Nat) (v3 : Nat) (v4 : Int32) (σ : sS) : Option (Int32 × sS) := s_run (S_L_law ) (1871, [.ref v0, .ref v1, .ref v2, .ref v3, .int v4], σ)
noncomputable def R_L_law_1951 (v0 : Nat) (v1 : Nat) (v2 : Nat) (v3 : Nat) (v4 : Int32) (σ : sS) : Option (Int32 × sS) := s_run (S_L_law ) (1951, [.ref v0, .ref v1, .ref v2, .ref v3, .int v4], σ)
noncomputable def R_L_law_2031 (v0 : Nat) (v1 : Nat) (v2 : Nat) (v3 : Nat) (v4 : Int32) (σ : sS) : Option (Int32 × sS) := s_run (S_L_law ) (2031, [.ref v0, .ref v1, .ref v2, .ref v3, .int v4], σ)
noncomputable def R_L_law_2087 (v0 : Nat) (v1 : Nat) (v2 : Nat) (v3 : Nat) (v4 : Int32) (σ : sS) : Option (Int32 × sS) := s_run (S_L_law ) (2087, [.ref v0, .ref v1, .ref v2, .ref v3, .int v4], σ)
noncomputable def R_L_law_2155 (v0 : Nat) (v1 : Nat) (v2 : Nat) (v3 : Nat) (v4 : Int32) (σ : sS) : Option (Int32 × sS) := s_run (S_L_law ) (2155, [.ref v0, .ref v1, .ref v2, .ref v3, .int v4], σ)
noncomputable def R_L_law_2211 (v0 : Nat) (v1 : Nat) (v2 : Nat) (v3 : Nat) (v4 : Int32) (σ : sS) : Option (Int32 × sS) := s_run (S_L_law ) (2211, [.ref v0, .ref v1, .ref v2, .ref v3, .int v4], σ)
noncomputable def R_L_law_2267 (v0 : Nat) (v1 : Nat) (v2 : Nat) (v3 : Nat) (v4 : Int32) (σ : sS) : Option (Int32 × sS) := s_run (S_L_law ) (2267, [.ref v0, .ref v1, .ref v2, .ref v3, .int v4], σ)
noncomputable def R_L_law_2323 (v0 : Nat) (v1 : Nat) (v2 : Nat) (v3 : Nat) (v4 : Int32) (σ : sS) : Option (Int32 × sS) := s_run (S_L_law ) (2323, [.ref v0, .ref v1, .ref v2, .ref v3, .int v4], σ)
noncomputable def R_L_law_2379 (v0 : Nat) (v1 : Nat) (v2 : Nat) (v3 : Nat) (v4 : Int32) (σ : sS) : Option (Int32 × sS) := s_run (S_L_law ) (2379, [.ref v0, .ref v1, .ref v2, .ref v3, .int v4], σ)
noncomputable def R_L_law_2447 (v0 : Nat) (v1 : Nat) (v2 : Nat) (v3 : Nat) (v4 : Int32) (σ : sS) : Option (Int32 × sS) := s_run (S_L_law ) (2447, [.ref v0, .ref v1, .ref v2, .ref v3, .int v4], σ)
noncomputable def R_L_law_2515 (v0 : Nat) (v1 : Nat) (v2 : Nat) (v3 : Nat) (v4 : Int32) (σ : sS) : Option (Int32 × sS) := s_run (S_L_law ) (2515, [.ref v0, .ref v1, .ref v2, .ref v3, .int v4], σ)
noncomputable def R_L_law_2607 (v0 : Nat) (v1 : Nat) (v2 : Nat) (v3 : Nat) (v4 : Int32) (σ : sS) : Option (Int32 × sS) := s_run (S_L_law ) (2607, [.ref v0, .ref v1, .ref v2, .ref v3, .int v4], σ)
noncomputable def R_L_law_2664 (v0 : Nat) (v1 : Nat) (v2 : Nat) (v3 : Nat) (v4 : Int32) (w0 : Int64) (w1 : Int64) (σ : sS) : Option (Int32 × sS) := s_run (S_L_law ) (2664, [.ref v0, .ref v1, .ref v2, .ref v3, .int v4, .long w0, .long w1], σ)
noncomputable def R_L_law_2670 (v0 : Nat) (v1 : Nat) (v2 : Nat) (v3 : Nat) (v4 : Int32) (σ : sS) : Option (Int32 × sS) := s_run (S_L_law ) (2670, [.ref v0, .ref v1, .ref v2, .ref v3, .int v4], σ)
noncomputable def R_L_law_2750 (v0 : Nat) (v1 : Nat) (v2 : Nat) (v3 : Nat) (v4 : Int32) (σ : sS) : Option (Int32 × sS) := s_run (S_L_law ) (2750, [.ref v0, .ref v1, .ref v2, .ref v3, .int v4], σ)
noncomputable def R_L_law_2806 (v0 : Nat) (v1 : Nat) (v2 : Nat) (v3 : Nat) (v4 : Int32) (σ : sS) : Option (Int32 × sS) := s_run (S_L_law ) (2806, [.ref v0, .ref v1, .ref v2, .ref v3, .int v4], σ)
noncomputable def R_L_law_2875 (v0 : Nat) (v1 : Nat) (v2 : Nat) (v3 : Nat) (v4 : Int32) (σ : sS) : Option (Int32 × sS) := s_run (S_L_law ) (2875, [.ref v0, .ref v1, .ref v2, .ref v3, .int v4], σ)
noncomputable def R_L_law_2927 (v0 : Nat) (v1 : Nat) (v2 : Nat) (v3 : Nat) (v4 : Int32) (σ : sS) : Option (Int32 × sS) := s_run (S_L_law ) (2927, [.ref v0, .ref v1, .ref v2, .ref v3, .int v4], σ)
theorem E_L_law_0 {v0 : Nat} {v1 : Nat} {σ : sS} : R_L_law_0 v0 v1 σ = ((some (s_nw σ 7 9 [.null, .null, .null, .null, .null, .null, .null, .null, .int 0])).bind fun σ1 =>
  (F_X7_init σ.2.1 σ1).bind fun q2 =>
  (some (s_nw q2.2 8 39 [.int 0, .null, .null, .int 0, .null, .null, .null, .int 0, .int 0, .int 0, .int 0, .int 0, .int 0, .int 0, .int 0, .null, .null, .null, .null, .null, .null, .null, .null, .null, .null, .null, .null, .null, .null, .null, .null, .null, .null, .int 0, .int 0, .int 0, .null, .null, .int 0])).bind fun σ3 =>
  (F_X8_init q2.2.2.1 σ3).bind fun q4 =>
  (s_na q4.2 1 1).bind fun σ5 =>
  R_L_law_23 v0 σ.2.1 q2.2.2.1 q4.2.2.1 0 σ5) := by
  unfold R_L_law_0
  rw [s_run_eq]
  show s_go _ _ (T_L_law_0 v0 v1 σ) = _
  unfold T_L_law_0
  simp only [s_go_bind, s_go_ite, s_go_sum, s_go_l, s_go_r, s_go_n]
  try rfl
theorem E_L_law_23 {v0 : Nat} {v1 : Nat} {v2 : Nat} {v3 : Nat} {v4 : Int32} {σ : sS} : R_L_law_23 v0 v1 v2 v3 v4 σ = ((s_len σ v0).bind fun x1 =>
  if (x1 - 7) < v4 then (some (1, σ))
  else ((s_ai σ v0 v4).bind fun x2 =>
  if (x2 &&& 63) = 0 then ((s_ai σ v0 (v4 + 1)).bind fun x3 =>
  (s_ai σ v0 (v4 + 2)).bind fun x4 =>
  (s_ai σ v0 (v4 + 3)).bind fun x5 =>
  (s_ai σ v0 (v4 + 4)).bind fun x6 =>
  (s_ai σ v0 (v4 + 5)).bind fun x7 =>
  (F_X7_feed v1 x3 x4 x5 x6 x7 σ).bind fun q8 =>
  (s_ai q8.2 v0 (v4 + 1)).bind fun x9 =>
  (s_ai q8.2 v0 (v4 + 2)).bind fun x10 =>
  (s_ai q8.2 v0 (v4 + 3)).bind fun x11 =>
  (s_ai q8.2 v0 (v4 + 4)).bind fun x12 =>
  (s_ai q8.2 v0 (v4 + 5)).bind fun x13 =>
  (F_X8_feed v2 x9 x10 x11 x12 x13 q8.2).bind fun q14 =>
  if q8.1 = q14.1 then (R_L_law_2927 v0 v1 v2 v3 v4 q14.2)
  else (some (0, q14.2)))
  else if (x2 &&& 63) = 1 then ((s_ai σ v0 (v4 + 1)).bind fun x15 =>
  (F_X7_end v1 x15 σ).bind fun q16 =>
  (s_ai q16.2 v0 (v4 + 1)).bind fun x17 =>
  (F_X8_end v2 x17 q16.2).bind fun q18 =>
  if q16.1 = q18.1 then (R_L_law_2927 v0 v1 v2 v3 v4 q18.2)
  else (some (0, q18.2)))
  else if (x2 &&& 63) = 2 then ((F_L_formula v1 v3 σ).bind fun q19 =>
  (F_X8_formula v2 q19.2).bind fun q20 =>
  (F_X8_thrown v2 q20.2).bind fun q21 =>
  if q21.1 = q19.1 then (if q19.1 = 0 then ((s_al q21.2 v3 0).bind fun x22 =>
  if (lg_cmp x22 ((q20.1 : Int32).toInt64)) = 0 then (R_L_law_375 v0 v1 v2 v3 v4 q21.2)
  else (some (0, q21.2)))
  else (R_L_law_375 v0 v1 v2 v3 v4 q21.2))
  else (some (0, q21.2)))
  else if (x2 &&& 63) = 3 then ((F_X7_fault v1 σ).bind fun q23 =>
  (F_X8_fault v2 q23.2).bind fun q24 =>
  if q23.1 = q24.1 then (R_L_law_2927 v0 v1 v2 v3 v4 q24.2)
  else (some (0, q24.2)))
  else if (x2 &&& 63) = 4 then ((s_ai σ v0 (v4 + 1)).bind fun x25 =>
  (F_L_things v1 x25 σ).bind fun q26 =>
  (s_ai q26.2 v0 (v4 + 1)).bind fun x27 =>
  (F_X8_things v2 x27 q26.2).bind fun q28 =>
  (F_X8_thrown v2 q28.2).bind fun q29 =>
  if q29.1 = q26.1 then (R_L_law_2927 v0 v1 v2 v3 v4 q29.2)
  else (some (0, q29.2)))
  else if (x2 &&& 63) = 5 then ((s_ai σ v0 (v4 + 1)).bind fun x30 =>
  (F_L_signs v1 x30 v3 σ).bind fun q31 =>
  (s_ai q31.2 v0 (v4 + 1)).bind fun x32 =>
  (F_X8_signs v2 x32 q31.2).bind fun q33 =>
  (F_X8_thrown v2 q33.2).bind fun q34 =>
  if q34.1 = q31.1 then (if q31.1 = 0 then ((s_al q34.2 v3 0).bind fun x35 =>
  if (lg_cmp x35 ((q33.1 : Int32).toInt64)) = 0 then (R_L_law_480 v0 v1 v2 v3 v4 q34.2)
  else (some (0, q34.2)))
  else (R_L_law_480 v0 v1 v2 v3 v4 q34.2))
  else (some (0, q34.2)))
  else if (x2 &&& 63) = 6 then ((s_ai σ v0 (v4 + 1)).bind fun x36 =>
  (s_ai σ v0 (v4 + 2)).bind fun x37 =>
  (F_L_same v1 x36 x37 v3 σ).bind fun q38 =>
  (s_ai q38.2 v0 (v4 + 1)).bind fun x39 =>
  (s_ai q38.2 v0 (v4 + 2)).bind fun x40 =>
  (F_X8_same v2 x39 x40 q38.2).bind fun q41 =>
  (F_X8_thrown v2 q41.2).bind fun q42 =>
  if q42.1 = q38.1 then (if q38.1 = 0 then ((s_al q42.2 v3 0).bind fun x43 =>
  if q41.1 = 0 then (R_L_law_549 v0 v1 v2 v3 v4 0 x43 q42.2)
  else (R_L_law_549 v0 v1 v2 v3 v4 1 x43 q42.2))
  else (R_L_law_555 v0 v1 v2 v3 v4 q42.2))
  else (some (0, q42.2)))
  else if (x2 &&& 63) = 7 then ((s_ai σ v0 (v4 + 1)).bind fun x44 =>
  (s_ai σ v0 (v4 + 2)).bind fun x45 =>
  (F_L_holds v1 x44 x45 v3 σ).bind fun q46 =>
  (s_ai q46.2 v0 (v4 + 1)).bind fun x47 =>
  (s_ai q46.2 v0 (v4 + 2)).bind fun x48 =>
  (F_X8_holds v2 x47 x48 q46.2).bind fun q49 =>
  (F_X8_thrown v2 q49.2).bind fun q50 =>
  if q50.1 = q46.1 then (if q46.1 = 0 then ((s_al q50.2 v3 0).bind fun x51 =>
  if q49.1 = 0 then (R_L_law_624 v0 v1 v2 v3 v4 0 x51 q50.2)
  else (R_L_law_624 v0 v1 v2 v3 v4 1 x51 q50.2))
  else (R_L_law_630 v0 v1 v2 v3 v4 q50.2))
  else (some (0, q50.2)))
  else if (x2 &&& 63) = 8 then ((s_ai σ v0 (v4 + 1)).bind fun x52 =>
  (F_L_worlds v1 x52 v3 σ).bind fun q53 =>
  (s_ai q53.2 v0 (v4 + 1)).bind fun x54 =>
  (F_X8_worlds v2 x54 q53.2).bind fun q55 =>
  (F_X8_thrown v2 q55.2).bind fun q56 =>
  if q56.1 = q53.1 then (if q53.1 = 0 then ((s_al q56.2 v3 0).bind fun x57 =>
  if (lg_cmp x57 ((q55.1 : Int32).toInt64)) = 0 then (R_L_law_686 v0 v1 v2 v3 v4 q56.2)
  else (some (0, q56.2)))
  else (R_L_law_686 v0 v1 v2 v3 v4 q56.2))
  else (some (0, q56.2)))
  else if (x2 &&& 63) = 9 then ((s_ai σ v0 (v4 + 1)).bind fun x58 =>
  (s_ai σ v0 (v4 + 2)).bind fun x59 =>
  (F_L_rules v1 x58 x59 v3 σ).bind fun q60 =>
  (s_ai q60.2 v0 (v4 + 1)).bind fun x61 =>
  (s_ai q60.2 v0 (v4 + 2)).bind fun x62 =>
  (F_X8_rules v2 x61 x62 q60.2).bind fun q63 =>
  (F_X8_thrown v2 q63.2).bind fun q64 =>
  if q64.1 = q60.1 then (if q60.1 = 0 then ((s_al q64.2 v3 0).bind fun x65 =>
  if (lg_cmp x65 ((q63.1 : Int32).toInt64)) = 0 then (R_L_law_754 v0 v1 v2 v3 v4 q64.2)
  else (some (0, q64.2)))
  else (R_L_law_754 v0 v1 v2 v3 v4 q64.2))
  else (some (0, q64.2)))
  else if (x2 &&& 63) = 10 then ((s_ai σ v0 (v4 + 1)).bind fun x66 =>
  (s_ai σ v0 (v4 + 2)).bind fun x67 =>
  (s_ai σ v0 (v4 + 3)).bind fun x68 =>
  (F_L_price v1 x66 x67 x68 v3 σ).bind fun q69 =>
  (s_ai q69.2 v0 (v4 + 1)).bind fun x70 =>
  (s_ai q69.2 v0 (v4 + 2)).bind fun x71 =>
  (s_ai q69.2 v0 (v4 + 3)).bind fun x72 =>
  (F_X8_price v2 x70 x71 x72 q69.2).bind fun q73 =>
  (F_X8_thrown v2 q73.2).bind fun q74 =>
  if q74.1 = q69.1 then (if q69.1 = 0 then ((s_al q74.2 v3 0).bind fun x75 =>
  if (lg_cmp x75 ((q73.1 : Int32).toInt64)) = 0 then (R_L_law_834 v0 v1 v2 v3 v4 q74.2)
  else (some (0, q74.2)))
  else (R_L_law_834 v0 v1 v2 v3 v4 q74.2))
  else (some (0, q74.2)))
  else if (x2 &&& 63) = 11 then ((s_ai σ v0 (v4 + 1)).bind fun x76 =>
  (s_ai σ v0 (v4 + 2)).bind fun x77 =>
  (s_ai σ v0 (v4 + 3)).bind fun x78 =>
  if x78 = 0 then (R_L_law_864 v0 v1 v2 v3 v4 0 x77 x76 v1 σ)
  else (R_L_law_864 v0 v1 v2 v3 v4 1 x77 x76 v1 σ))
  else if (x2 &&& 63) = 12 then ((s_ai σ v0 (v4 + 1)).bind fun x79 =>
  (F_L_beliefs v1 x79 v3 σ).bind fun q80 =>
  (s_ai q80.2 v0 (v4 + 1)).bind fun x81 =>
  (F_X8_beliefs v2 x81 q80.2).bind fun q82 =>
  (F_X8_thrown v2 q82.2).bind fun q83 =>
  if q83.1 = q80.1 then (if q80.1 = 0 then ((s_al q83.2 v3 0).bind fun x84 =>
  if (lg_cmp x84 ((q82.1 : Int32).toInt64)) = 0 then (R_L_law_993 v0 v1 v2 v3 v4 q83.2)
  else (some (0, q83.2)))
  else (R_L_law_993 v0 v1 v2 v3 v4 q83.2))
  else (some (0, q83.2)))
  else if (x2 &&& 63) = 13 then ((s_ai σ v0 (v4 + 1)).bind fun x85 =>
  (s_ai σ v0 (v4 + 2)).bind fun x86 =>
  (s_ai σ v0 (v4 + 3)).bind fun x87 =>
  (s_ai σ v0 (v4 + 4)).bind fun x88 =>
  (s_ai σ v0 (v4 + 5)).bind fun x89 =>
  (s_ai σ v0 (v4 + 6)).bind fun x90 =>
  (F_L_line v1 x85 x86 x87 x88 x89 x90 v3 σ).bind fun q91 =>
  (s_ai q91.2 v0 (v4 + 1)).bind fun x92 =>
  (s_ai q91.2 v0 (v4 + 2)).bind fun x93 =>
  (s_ai q91.2 v0 (v4 + 3)).bind fun x94 =>
  (s_ai q91.2 v0 (v4 + 4)).bind fun x95 =>
  (s_ai q91.2 v0 (v4 + 5)).bind fun x96 =>
  (s_ai q91.2 v0 (v4 + 6)).bind fun x97 =>
  (F_X8_line v2 x92 x93 x94 x95 x96 x97 q91.2).bind fun q98 =>
  (F_X8_thrown v2 q98.2).bind fun q99 =>
  if q99.1 = q91.1 then (if q91.1 = 0 then ((s_al q99.2 v3 0).bind fun x100 =>
  if (lg_cmp x100 ((q98.1 : Int32).toInt64)) = 0 then (R_L_law_1111 v0 v1 v2 v3 v4 q99.2)
  else (some (0, q99.2)))
  else (R_L_law_1111 v0 v1 v2 v3 v4 q99.2))
  else (some (0, q99.2)))
  else if (x2 &&& 63) = 14 then ((s_ai σ v0 (v4 + 1)).bind fun x101 =>
  (s_ai σ v0 (v4 + 2)).bind fun x102 =>
  (F_L_look v1 x101 x102 v3 σ).bind fun q103 =>
  (s_ai q103.2 v0 (v4 + 1)).bind fun x104 =>
  (s_ai q103.2 v0 (v4 + 2)).bind fun x105 =>
  (F_X8_look v2 x104 x105 q103.2).bind fun q106 =>
  (F_X8_thrown v2 q106.2).bind fun q107 =>
  if q107.1 = q103.1 then (if q103.1 = 0 then ((s_al q107.2 v3 0).bind fun x108 =>
  if (lg_cmp x108 ((q106.1 : Int32).toInt64)) = 0 then (R_L_law_1179 v0 v1 v2 v3 v4 q107.2)
  else (some (0, q107.2)))
  else (R_L_law_1179 v0 v1 v2 v3 v4 q107.2))
  else (some (0, q107.2)))
  else if (x2 &&& 63) = 15 then ((s_ai σ v0 (v4 + 1)).bind fun x109 =>
  (s_ai σ v0 (v4 + 2)).bind fun x110 =>
  (F_L_is v1 x109 x110 v3 σ).bind fun q111 =>
  (s_ai q111.2 v0 (v4 + 1)).bind fun x112 =>
  (s_ai q111.2 v0 (v4 + 2)).bind fun x113 =>
  (F_X8_is v2 x112 x113 q111.2).bind fun q114 =>
  (F_X8_thrown v2 q114.2).bind fun q115 =>
  if q115.1 = q111.1 then (if q111.1 = 0 then ((s_al q115.2 v3 0).bind fun x116 =>
  if q114.1 = 0 then (R_L_law_1248 v0 v1 v2 v3 v4 0 x116 q115.2)
  else (R_L_law_1248 v0 v1 v2 v3 v4 1 x116 q115.2))
  else (R_L_law_1254 v0 v1 v2 v3 v4 q115.2))
  else (some (0, q115.2)))
  else if (x2 &&& 63) = 16 then ((F_X7_wrong v1 σ).bind fun q117 =>
  (F_X8_wrong v2 q117.2).bind fun q118 =>
  if q117.1 = q118.1 then (R_L_law_2927 v0 v1 v2 v3 v4 q118.2)
  else (some (0, q118.2)))
  else if (x2 &&& 63) = 17 then ((s_ai σ v0 (v4 + 1)).bind fun x119 =>
  (F_L_rests v1 x119 v3 σ).bind fun q120 =>
  (s_ai q120.2 v0 (v4 + 1)).bind fun x121 =>
  (F_X8_rests v2 x121 q120.2).bind fun q122 =>
  (F_X8_thrown v2 q122.2).bind fun q123 =>
  if q123.1 = q120.1 then (if q120.1 = 0 then ((s_al q123.2 v3 0).bind fun x124 =>
  if (lg_cmp x124 q122.1) = 0 then (R_L_law_1322 v0 v1 v2 v3 v4 q123.2)
  else (some (0, q123.2)))
  else (R_L_law_1322 v0 v1 v2 v3 v4 q123.2))
  else (some (0, q123.2)))
  else if (x2 &&& 63) = 18 then ((s_ai σ v0 (v4 + 1)).bind fun x125 =>
  (F_L_needs v1 x125 v3 σ).bind fun q126 =>
  (s_ai q126.2 v0 (v4 + 1)).bind fun x127 =>
  (F_X8_needs v2 x127 q126.2).bind fun q128 =>
  (F_X8_thrown v2 q128.2).bind fun q129 =>
  if q129.1 = q126.1 then (if q126.1 = 0 then ((s_al q129.2 v3 0).bind fun x130 =>
  if (lg_cmp x130 q128.1) = 0 then (R_L_law_1377 v0 v1 v2 v3 v4 q129.2)
  else (some (0, q129.2)))
  else (R_L_law_1377 v0 v1 v2 v3 v4 q129.2))
  else (some (0, q129.2)))
  else if (x2 &&& 63) = 19 then ((s_ai σ v0 (v4 + 1)).bind fun x131 =>
  (F_L_spent v1 x131 v3 σ).bind fun q132 =>
  (s_ai q132.2 v0 (v4 + 1)).bind fun x133 =>
  (F_X8_spent v2 x133 q132.2).bind fun q134 =>
  (F_X8_thrown v2 q134.2).bind fun q135 =>
  if q135.1 = q132.1 then (if q132.1 = 0 then ((s_al q135.2 v3 0).bind fun x136 =>
  if (lg_cmp x136 ((q134.1 : Int32).toInt64)) = 0 then (R_L_law_1433 v0 v1 v2 v3 v4 q135.2)
  else (some (0, q135.2)))
  else (R_L_law_1433 v0 v1 v2 v3 v4 q135.2))
  else (some (0, q135.2)))
  else if (x2 &&& 63) = 20 then ((s_ai σ v0 (v4 + 1)).bind fun x137 =>
  (s_ai σ v0 (v4 + 2)).bind fun x138 =>
  (F_L_falls v1 x137 x138 v3 σ).bind fun q139 =>
  (s_ai q139.2 v0 (v4 + 1)).bind fun x140 =>
  (s_ai q139.2 v0 (v4 + 2)).bind fun x141 =>
  (F_X8_falls v2 x140 x141 q139.2).bind fun q142 =>
  (F_X8_thrown v2 q142.2).bind fun q143 =>
  if q143.1 = q139.1 then (if q139.1 = 0 then ((s_al q143.2 v3 0).bind fun x144 =>
  if (lg_cmp x144 q142.1) = 0 then (R_L_law_1500 v0 v1 v2 v3 v4 q143.2)
  else (some (0, q143.2)))
  else (R_L_law_1500 v0 v1 v2 v3 v4 q143.2))
  else (some (0, q143.2)))
  else if (x2 &&& 63) = 21 then ((s_ai σ v0 (v4 + 1)).bind fun x145 =>
  (s_ai σ v0 (v4 + 2)).bind fun x146 =>
  (F_L_follows v1 x145 x146 v3 σ).bind fun q147 =>
  (s_ai q147.2 v0 (v4 + 1)).bind fun x148 =>
  (s_ai q147.2 v0 (v4 + 2)).bind fun x149 =>
  (F_X8_follows v2 x148 x149 q147.2).bind fun q150 =>
  (F_X8_thrown v2 q150.2).bind fun q151 =>
  if q151.1 = q147.1 then (if q147.1 = 0 then ((s_al q151.2 v3 0).bind fun x152 =>
  if q150.1 = 0 then (R_L_law_1569 v0 v1 v2 v3 v4 0 x152 q151.2)
  else (R_L_law_1569 v0 v1 v2 v3 v4 1 x152 q151.2))
  else (R_L_law_1575 v0 v1 v2 v3 v4 q151.2))
  else (some (0, q151.2)))
  else if (x2 &&& 63) = 22 then ((s_ai σ v0 (v4 + 1)).bind fun x153 =>
  (s_ai σ v0 (v4 + 2)).bind fun x154 =>
  (F_L_counter v1 x153 x154 v3 σ).bind fun q155 =>
  (s_ai q155.2 v0 (v4 + 1)).bind fun x156 =>
  (s_ai q155.2 v0 (v4 + 2)).bind fun x157 =>
  (F_X8_counter v2 x156 x157 q155.2).bind fun q158 =>
  (F_X8_thrown v2 q158.2).bind fun q159 =>
  if q159.1 = q155.1 then (if q155.1 = 0 then ((s_al q159.2 v3 0).bind fun x160 =>
  if (lg_cmp x160 ((q158.1 : Int32).toInt64)) = 0 then (R_L_law_1643 v0 v1 v2 v3 v4 q159.2)
  else (some (0, q159.2)))
  else (R_L_law_1643 v0 v1 v2 v3 v4 q159.2))
  else (some (0, q159.2)))
  else if (x2 &&& 63) = 23 then ((s_ai σ v0 (v4 + 1)).bind fun x161 =>
  (s_ai σ v0 (v4 + 2)).bind fun x162 =>
  (s_ai σ v0 (v4 + 3)).bind fun x163 =>
  (F_L_cheapest v1 x161 x162 x163 v3 σ).bind fun q164 =>
  (s_ai q164.2 v0 (v4 + 1)).bind fun x165 =>
  (s_ai q164.2 v0 (v4 + 2)).bind fun x166 =>
  (s_ai q164.2 v0 (v4 + 3)).bind fun x167 =>
  (F_X8_cheapest v2 x165 x166 x167 q164.2).bind fun q168 =>
  (F_X8_thrown v2 q168.2).bind fun q169 =>
  if q169.1 = q164.1 then (if q164.1 = 0 then ((s_al q169.2 v3 0).bind fun x170 =>
  if (lg_cmp x170 ((q168.1 : Int32).toInt64)) = 0 then (R_L_law_1723 v0 v1 v2 v3 v4 q169.2)
  else (some (0, q169.2)))
  else (R_L_law_1723 v0 v1 v2 v3 v4 q169.2))
  else (some (0, q169.2)))
  else if (x2 &&& 63) = 24 then ((s_ai σ v0 (v4 + 1)).bind fun x171 =>
  (s_ai σ v0 (v4 + 2)).bind fun x172 =>
  (s_ai σ v0 (v4 + 3)).bind fun x173 =>
  (F_L_lastly v1 x171 x172 x173 v3 σ).bind fun q174 =>
  (s_ai q174.2 v0 (v4 + 1)).bind fun x175 =>
  (s_ai q174.2 v0 (v4 + 2)).bind fun x176 =>
  (s_ai q174.2 v0 (v4 + 3)).bind fun x177 =>
  (F_X8_lastly v2 x175 x176 x177 q174.2).bind fun q178 =>
  (F_X8_thrown v2 q178.2).bind fun q179 =>
  if q179.1 = q174.1 then (if q174.1 = 0 then ((s_al q179.2 v3 0).bind fun x180 =>
  if (lg_cmp x180 ((q178.1 : Int32).toInt64)) = 0 then (R_L_law_1803 v0 v1 v2 v3 v4 q179.2)
  else (some (0, q179.2)))
  else (R_L_law_1803 v0 v1 v2 v3 v4 q179.2))
  else (some (0, q179.2)))
  else if (x2 &&& 63) = 25 then ((s_ai σ v0 (v4 + 1)).bind fun x181 =>
  (s_ai σ v0 (v4 + 2)).bind fun x182 =>
  (F_L_where v1 x181 x182 v3 σ).bind fun q183 =>
  (s_ai q183.2 v0 (v4 + 1)).bind fun x184 =>
  (s_ai q183.2 v0 (v4 + 2)).bind fun x185 =>
  (F_X8_where v2 x184 x185 q183.2).bind fun q186 =>
  (F_X8_thrown v2 q186.2).bind fun q187 =>
  if q187.1 = q183.1 then (if q183.1 = 0 then ((s_al q187.2 v3 0).bind fun x188 =>
  if (lg_cmp x188 ((q186.1 : Int32).toInt64)) = 0 then (R_L_law_1871 v0 v1 v2 v3 v4 q187.2)
  else (some (0, q187.2)))
  else (R_L_law_1871 v0 v1 v2 v3 v4 q187.2))
  else (some (0, q187.2)))
  else if (x2 &&& 63) = 26 then ((s_ai σ v0 (v4 + 1)).bind fun x189 =>
  (s_ai σ v0 (v4 + 2)).bind fun x190 =>
  (s_ai σ v0 (v4 + 3)).bind fun x191 =>
  (F_L_resold v1 x189 x190 x191 v3 σ).bind fun q192 =>
  (s_ai q192.2 v0 (v4 + 1)).bind fun x193 =>
  (s_ai q192.2 v0 (v4 + 2)).bind fun x194 =>
  (s_ai q192.2 v0 (v4 + 3)).bind fun x195 =>
  (F_X8_resold v2 x193 x194 x195 q192.2).bind fun q196 =>
  (F_X8_thrown v2 q196.2).bind fun q197 =>
  if q197.1 = q192.1 then (if q192.1 = 0 then ((s_al q197.2 v3 0).bind fun x198 =>
  if (lg_cmp x198 ((q196.1 : Int32).toInt64)) = 0 then (R_L_law_1951 v0 v1 v2 v3 v4 q197.2)
  else (some (0, q197.2)))
  else (R_L_law_1951 v0 v1 v2 v3 v4 q197.2))
  else (some (0, q197.2)))
  else if (x2 &&& 63) = 27 then ((s_ai σ v0 (v4 + 1)).bind fun x199 =>
  (s_ai σ v0 (v4 + 2)).bind fun x200 =>
  (s_ai σ v0 (v4 + 3)).bind fun x201 =>
  (F_L_forward v1 x199 x200 x201 v3 σ).bind fun q202 =>
  (s_ai q202.2 v0 (v4 + 1)).bind fun x203 =>
  (s_ai q202.2 v0 (v4 + 2)).bind fun x204 =>
  (s_ai q202.2 v0 (v4 + 3)).bind fun x205 =>
  (F_X8_forward v2 x203 x204 x205 q202.2).bind fun q206 =>
  (F_X8_thrown v2 q206.2).bind fun q207 =>
  if q207.1 = q202.1 then (if q202.1 = 0 then ((s_al q207.2 v3 0).bind fun x208 =>
  if (lg_cmp x208 ((q206.1 : Int32).toInt64)) = 0 then (R_L_law_2031 v0 v1 v2 v3 v4 q207.2)
  else (some (0, q207.2)))
  else (R_L_law_2031 v0 v1 v2 v3 v4 q207.2))
  else (some (0, q207.2)))
  else if (x2 &&& 63) = 28 then ((s_ai σ v0 (v4 + 1)).bind fun x209 =>
  (F_L_truths v1 x209 v3 σ).bind fun q210 =>
  (s_ai q210.2 v0 (v4 + 1)).bind fun x211 =>
  (F_X8_truths v2 x211 q210.2).bind fun q212 =>
  (F_X8_thrown v2 q212.2).bind fun q213 =>
  if q213.1 = q210.1 then (if q210.1 = 0 then ((s_al q213.2 v3 0).bind fun x214 =>
  if (lg_cmp x214 ((q212.1 : Int32).toInt64)) = 0 then (R_L_law_2087 v0 v1 v2 v3 v4 q213.2)
  else (some (0, q213.2)))
  else (R_L_law_2087 v0 v1 v2 v3 v4 q213.2))
  else (some (0, q213.2)))
  else if (x2 &&& 63) = 29 then ((s_ai σ v0 (v4 + 1)).bind fun x215 =>
  (s_ai σ v0 (v4 + 2)).bind fun x216 =>
  (F_L_agree v1 x215 x216 v3 σ).bind fun q217 =>
  (s_ai q217.2 v0 (v4 + 1)).bind fun x218 =>
  (s_ai q217.2 v0 (v4 + 2)).bind fun x219 =>
  (F_X8_agree v2 x218 x219 q217.2).bind fun q220 =>
  (F_X8_thrown v2 q220.2).bind fun q221 =>
  if q221.1 = q217.1 then (if q217.1 = 0 then ((s_al q221.2 v3 0).bind fun x222 =>
  if (lg_cmp x222 ((q220.1 : Int32).toInt64)) = 0 then (R_L_law_2155 v0 v1 v2 v3 v4 q221.2)
  else (some (0, q221.2)))
  else (R_L_law_2155 v0 v1 v2 v3 v4 q221.2))
  else (some (0, q221.2)))
  else if (x2 &&& 63) = 30 then ((s_ai σ v0 (v4 + 1)).bind fun x223 =>
  (F_L_withdraw v1 x223 v3 σ).bind fun q224 =>
  (s_ai q224.2 v0 (v4 + 1)).bind fun x225 =>
  (F_X8_withdraw v2 x225 q224.2).bind fun q226 =>
  (F_X8_thrown v2 q226.2).bind fun q227 =>
  if q227.1 = q224.1 then (if q224.1 = 0 then ((s_al q227.2 v3 0).bind fun x228 =>
  if (lg_cmp x228 ((q226.1 : Int32).toInt64)) = 0 then (R_L_law_2211 v0 v1 v2 v3 v4 q227.2)
  else (some (0, q227.2)))
  else (R_L_law_2211 v0 v1 v2 v3 v4 q227.2))
  else (some (0, q227.2)))
  else if (x2 &&& 63) = 31 then ((s_ai σ v0 (v4 + 1)).bind fun x229 =>
  (F_L_idle v1 x229 v3 σ).bind fun q230 =>
  (s_ai q230.2 v0 (v4 + 1)).bind fun x231 =>
  (F_X8_idle v2 x231 q230.2).bind fun q232 =>
  (F_X8_thrown v2 q232.2).bind fun q233 =>
  if q233.1 = q230.1 then (if q230.1 = 0 then ((s_al q233.2 v3 0).bind fun x234 =>
  if (lg_cmp x234 ((q232.1 : Int32).toInt64)) = 0 then (R_L_law_2267 v0 v1 v2 v3 v4 q233.2)
  else (some (0, q233.2)))
  else (R_L_law_2267 v0 v1 v2 v3 v4 q233.2))
  else (some (0, q233.2)))
  else if (x2 &&& 63) = 32 then ((s_ai σ v0 (v4 + 1)).bind fun x235 =>
  (F_L_alike v1 x235 v3 σ).bind fun q236 =>
  (s_ai q236.2 v0 (v4 + 1)).bind fun x237 =>
  (F_X8_alike v2 x237 q236.2).bind fun q238 =>
  (F_X8_thrown v2 q238.2).bind fun q239 =>
  if q239.1 = q236.1 then (if q236.1 = 0 then ((s_al q239.2 v3 0).bind fun x240 =>
  if (lg_cmp x240 ((q238.1 : Int32).toInt64)) = 0 then (R_L_law_2323 v0 v1 v2 v3 v4 q239.2)
  else (some (0, q239.2)))
  else (R_L_law_2323 v0 v1 v2 v3 v4 q239.2))
  else (some (0, q239.2)))
  else if (x2 &&& 63) = 33 then ((s_ai σ v0 (v4 + 1)).bind fun x241 =>
  (F_L_core v1 x241 v3 σ).bind fun q242 =>
  (s_ai q242.2 v0 (v4 + 1)).bind fun x243 =>
  (F_X8_core v2 x243 q242.2).bind fun q244 =>
  (F_X8_thrown v2 q244.2).bind fun q245 =>
  if q245.1 = q242.1 then (if q242.1 = 0 then ((s_al q245.2 v3 0).bind fun x246 =>
  if (lg_cmp x246 ((q244.1 : Int32).toInt64)) = 0 then (R_L_law_2379 v0 v1 v2 v3 v4 q245.2)
  else (some (0, q245.2)))
  else (R_L_law_2379 v0 v1 v2 v3 v4 q245.2))
  else (some (0, q245.2)))
  else if (x2 &&& 63) = 34 then ((s_ai σ v0 (v4 + 1)).bind fun x247 =>
  (s_ai σ v0 (v4 + 2)).bind fun x248 =>
  (F_L_more v1 x247 x248 v3 σ).bind fun q249 =>
  (s_ai q249.2 v0 (v4 + 1)).bind fun x250 =>
  (s_ai q249.2 v0 (v4 + 2)).bind fun x251 =>
  (F_X8_more v2 x250 x251 q249.2).bind fun q252 =>
  (F_X8_thrown v2 q252.2).bind fun q253 =>
  if q253.1 = q249.1 then (if q249.1 = 0 then ((s_al q253.2 v3 0).bind fun x254 =>
  if (lg_cmp x254 ((q252.1 : Int32).toInt64)) = 0 then (R_L_law_2447 v0 v1 v2 v3 v4 q253.2)
  else (some (0, q253.2)))
  else (R_L_law_2447 v0 v1 v2 v3 v4 q253.2))
  else (some (0, q253.2)))
  else if (x2 &&& 63) = 35 then ((s_ai σ v0 (v4 + 1)).bind fun x255 =>
  (s_ai σ v0 (v4 + 2)).bind fun x256 =>
  (F_L_gains v1 x255 x256 v3 σ).bind fun q257 =>
  (s_ai q257.2 v0 (v4 + 1)).bind fun x258 =>
  (s_ai q257.2 v0 (v4 + 2)).bind fun x259 =>
  (F_X8_gains v2 x258 x259 q257.2).bind fun q260 =>
  (F_X8_thrown v2 q260.2).bind fun q261 =>
  if q261.1 = q257.1 then (if q257.1 = 0 then ((s_al q261.2 v3 0).bind fun x262 =>
  if (lg_cmp x262 ((q260.1 : Int32).toInt64)) = 0 then (R_L_law_2515 v0 v1 v2 v3 v4 q261.2)
  else (some (0, q261.2)))
  else (R_L_law_2515 v0 v1 v2 v3 v4 q261.2))
  else (some (0, q261.2)))
  else if (x2 &&& 63) = 36 then ((s_ai σ v0 (v4 + 1)).bind fun x263 =>
  (s_ai σ v0 (v4 + 2)).bind fun x264 =>
  (s_ai σ v0 (v4 + 3)).bind fun x265 =>
  (s_ai σ v0 (v4 + 4)).bind fun x266 =>
  (F_L_sell v1 x263 x264 x265 x266 v3 σ).bind fun q267 =>
  (s_ai q267.2 v0 (v4 + 1)).bind fun x268 =>
  (s_ai q267.2 v0 (v4 + 2)).bind fun x269 =>
  (s_ai q267.2 v0 (v4 + 3)).bind fun x270 =>
  (s_ai q267.2 v0 (v4 + 4)).bind fun x271 =>
  (F_X8_sell v2 x268 x269 x270 x271 q267.2).bind fun q272 =>
  (F_X8_thrown v2 q272.2).bind fun q273 =>
  if q273.1 = q267.1 then (if q267.1 = 0 then ((s_al q273.2 v3 0).bind fun x274 =>
  if (lg_cmp x274 ((q272.1 : Int32).toInt64)) = 0 then (R_L_law_2607 v0 v1 v2 v3 v4 q273.2)
  else (some (0, q273.2)))
  else (R_L_law_2607 v0 v1 v2 v3 v4 q273.2))
  else (some (0, q273.2)))
  else if (x2 &&& 63) = 37 then ((s_ai σ v0 (v4 + 1)).bind fun x275 =>
  (F_L_undo v1 x275 v3 σ).bind fun q276 =>
  (s_ai q276.2 v0 (v4 + 1)).bind fun x277 =>
  (F_X8_undo v2 x277 q276.2).bind fun q278 =>
  (F_X8_thrown v2 q278.2).bind fun q279 =>
  if q279.1 = q276.1 then (if q276.1 = 0 then ((s_al q279.2 v3 0).bind fun x280 =>
  if q278.1 = 0 then (R_L_law_2664 v0 v1 v2 v3 v4 0 x280 q279.2)
  else (R_L_law_2664 v0 v1 v2 v3 v4 1 x280 q279.2))
  else (R_L_law_2670 v0 v1 v2 v3 v4 q279.2))
  else (some (0, q279.2)))
  else if (x2 &&& 63) = 38 then ((s_ai σ v0 (v4 + 1)).bind fun x281 =>
  (s_ai σ v0 (v4 + 2)).bind fun x282 =>
  (s_ai σ v0 (v4 + 3)).bind fun x283 =>
  (F_L_owes v1 x281 x282 x283 v3 σ).bind fun q284 =>
  (s_ai q284.2 v0 (v4 + 1)).bind fun x285 =>
  (s_ai q284.2 v0 (v4 + 2)).bind fun x286 =>
  (s_ai q284.2 v0 (v4 + 3)).bind fun x287 =>
  (F_X8_owes v2 x285 x286 x287 q284.2).bind fun q288 =>
  (F_X8_thrown v2 q288.2).bind fun q289 =>
  if q289.1 = q284.1 then (if q284.1 = 0 then ((s_al q289.2 v3 0).bind fun x290 =>
  if (lg_cmp x290 ((q288.1 : Int32).toInt64)) = 0 then (R_L_law_2750 v0 v1 v2 v3 v4 q289.2)
  else (some (0, q289.2)))
  else (R_L_law_2750 v0 v1 v2 v3 v4 q289.2))
  else (some (0, q289.2)))
  else if (x2 &&& 63) = 39 then ((s_ai σ v0 (v4 + 1)).bind fun x291 =>
  (F_L_refunds v1 x291 v3 σ).bind fun q292 =>
  (s_ai q292.2 v0 (v4 + 1)).bind fun x293 =>
  (F_X8_refunds v2 x293 q292.2).bind fun q294 =>
  (F_X8_thrown v2 q294.2).bind fun q295 =>
  if q295.1 = q292.1 then (if q292.1 = 0 then ((s_al q295.2 v3 0).bind fun x296 =>
  if (lg_cmp x296 ((q294.1 : Int32).toInt64)) = 0 then (R_L_law_2806 v0 v1 v2 v3 v4 q295.2)
  else (some (0, q295.2)))
  else (R_L_law_2806 v0 v1 v2 v3 v4 q295.2))
  else (some (0, q295.2)))
  else if (x2 &&& 63) = 40 then ((F_X7_dearer v1 σ).bind fun q297 =>
  (F_X8_dearer v2 q297.2).bind fun q298 =>
  if q297.1 = q298.1 then (R_L_law_2927 v0 v1 v2 v3 v4 q298.2)
  else (some (0, q298.2)))
  else if (x2 &&& 63) = 41 then ((s_ai σ v0 (v4 + 1)).bind fun x299 =>
  (F_L_chain v1 x299 v3 σ).bind fun q300 =>
  (s_ai q300.2 v0 (v4 + 1)).bind fun x301 =>
  (F_X8_chain v2 x301 q300.2).bind fun q302 =>
  (F_X8_thrown v2 q302.2).bind fun q303 =>
  if q303.1 = q300.1 then (if q300.1 = 0 then ((s_al q303.2 v3 0).bind fun x304 =>
  if (lg_cmp x304 ((q302.1 : Int32).toInt64)) = 0 then (R_L_law_2875 v0 v1 v2 v3 v4 q303.2)
  else (some (0, q303.2)))
  else (R_L_law_2875 v0 v1 v2 v3 v4 q303.2))
  else (some (0, q303.2)))
  else if (x2 &&& 63) = 42 then ((F_X7_image v1 σ).bind fun q305 =>
  (F_X8_image v2 q305.2).bind fun q306 =>
  R_L_law_2927 v0 v1 v2 v3 v4 q306.2)
  else if (x2 &&& 63) = 43 then ((F_X7_back v1 σ).bind fun q307 =>
  (F_X8_back v2 q307.2).bind fun q308 =>
  if q307.1 = q308.1 then (R_L_law_2927 v0 v1 v2 v3 v4 q308.2)
  else (some (0, q308.2)))
  else if (x2 &&& 63) = 44 then ((s_ai σ v0 (v4 + 1)).bind fun x309 =>
  (F_X7_count v1 x309 σ).bind fun q310 =>
  (s_ai q310.2 v0 (v4 + 1)).bind fun x311 =>
  (F_X8_count v2 x311 q310.2).bind fun q312 =>
  if q310.1 = q312.1 then (R_L_law_2927 v0 v1 v2 v3 v4 q312.2)
  else (some (0, q312.2)))
  else (R_L_law_2927 v0 v1 v2 v3 v4 σ))) := by
  unfold R_L_law_23
  rw [s_run_eq]
  show s_go _ _ (T_L_law_23 v0 v1 v2 v3 v4 σ) = _
  unfold T_L_law_23
  simp only [s_go_bind, s_go_ite, s_go_sum, s_go_l, s_go_r, s_go_n]
  try rfl
theorem E_L_law_375 {v0 : Nat} {v1 : Nat} {v2 : Nat} {v3 : Nat} {v4 : Int32} {σ : sS} : R_L_law_375 v0 v1 v2 v3 v4 σ = (R_L_law_2927 v0 v1 v2 v3 v4 σ) := by
  unfold R_L_law_375
  rw [s_run_eq]
  show s_go _ _ (T_L_law_375 v0 v1 v2 v3 v4 σ) = _
  unfold T_L_law_375
  simp only [s_go_bind, s_go_ite, s_go_sum, s_go_l, s_go_r, s_go_n]
  try rfl
theorem E_L_law_480 {v0 : Nat} {v1 : Nat} {v2 : Nat} {v3 : Nat} {v4 : Int32} {σ : sS} : R_L_law_480 v0 v1 v2 v3 v4 σ = (R_L_law_2927 v0 v1 v2 v3 v4 σ) := by
  unfold R_L_law_480
  rw [s_run_eq]
  show s_go _ _ (T_L_law_480 v0 v1 v2 v3 v4 σ) = _
  unfold T_L_law_480
  simp only [s_go_bind, s_go_ite, s_go_sum, s_go_l, s_go_r, s_go_n]
  try rfl
theorem E_L_law_549 {v0 : Nat} {v1 : Nat} {v2 : Nat} {v3 : Nat} {v4 : Int32} {w0 : Int64} {w1 : Int64} {σ : sS} : R_L_law_549 v0 v1 v2 v3 v4 w0 w1 σ = (if (lg_cmp w1 w0) = 0 then (R_L_law_555 v0 v1 v2 v3 v4 σ)
  else (some (0, σ))) := by
  unfold R_L_law_549
  rw [s_run_eq]
  show s_go _ _ (T_L_law_549 v0 v1 v2 v3 v4 w0 w1 σ) = _
  unfold T_L_law_549
  simp only [s_go_bind, s_go_ite, s_go_sum, s_go_l, s_go_r, s_go_n]
  try rfl
theorem E_L_law_555 {v0 : Nat} {v1 : Nat} {v2 : Nat} {v3 : Nat} {v4 : Int32} {σ : sS} : R_L_law_555 v0 v1 v2 v3 v4 σ = (R_L_law_2927 v0 v1 v2 v3 v4 σ) := by
  unfold R_L_law_555
  rw [s_run_eq]
  show s_go _ _ (T_L_law_555 v0 v1 v2 v3 v4 σ) = _
  unfold T_L_law_555
  simp only [s_go_bind, s_go_ite, s_go_sum, s_go_l, s_go_r, s_go_n]
  try rfl
theorem E_L_law_624 {v0 : Nat} {v1 : Nat} {v2 : Nat} {v3 : Nat} {v4 : Int32} {w0 : Int64} {w1 : Int64} {σ : sS} : R_L_law_624 v0 v1 v2 v3 v4 w0 w1 σ = (if (lg_cmp w1 w0) = 0 then (R_L_law_630 v0 v1 v2 v3 v4 σ)
  else (some (0, σ))) := by
  unfold R_L_law_624
  rw [s_run_eq]
  show s_go _ _ (T_L_law_624 v0 v1 v2 v3 v4 w0 w1 σ) = _
  unfold T_L_law_624
  simp only [s_go_bind, s_go_ite, s_go_sum, s_go_l, s_go_r, s_go_n]
  try rfl
theorem E_L_law_630 {v0 : Nat} {v1 : Nat} {v2 : Nat} {v3 : Nat} {v4 : Int32} {σ : sS} : R_L_law_630 v0 v1 v2 v3 v4 σ = (R_L_law_2927 v0 v1 v2 v3 v4 σ) := by
  unfold R_L_law_630
  rw [s_run_eq]
  show s_go _ _ (T_L_law_630 v0 v1 v2 v3 v4 σ) = _
  unfold T_L_law_630
  simp only [s_go_bind, s_go_ite, s_go_sum, s_go_l, s_go_r, s_go_n]
  try rfl
theorem E_L_law_686 {v0 : Nat} {v1 : Nat} {v2 : Nat} {v3 : Nat} {v4 : Int32} {σ : sS} : R_L_law_686 v0 v1 v2 v3 v4 σ = (R_L_law_2927 v0 v1 v2 v3 v4 σ) := by
  unfold R_L_law_686
  rw [s_run_eq]
  show s_go _ _ (T_L_law_686 v0 v1 v2 v3 v4 σ) = _
  unfold T_L_law_686
  simp only [s_go_bind, s_go_ite, s_go_sum, s_go_l, s_go_r, s_go_n]
  try rfl
theorem E_L_law_754 {v0 : Nat} {v1 : Nat} {v2 : Nat} {v3 : Nat} {v4 : Int32} {σ : sS} : R_L_law_754 v0 v1 v2 v3 v4 σ = (R_L_law_2927 v0 v1 v2 v3 v4 σ) := by
  unfold R_L_law_754
  rw [s_run_eq]
  show s_go _ _ (T_L_law_754 v0 v1 v2 v3 v4 σ) = _
  unfold T_L_law_754
  simp only [s_go_bind, s_go_ite, s_go_sum, s_go_l, s_go_r, s_go_n]
  try rfl
theorem E_L_law_834 {v0 : Nat} {v1 : Nat} {v2 : Nat} {v3 : Nat} {v4 : Int32} {σ : sS} : R_L_law_834 v0 v1 v2 v3 v4 σ = (R_L_law_2927 v0 v1 v2 v3 v4 σ) := by
  unfold R_L_law_834
  rw [s_run_eq]
  show s_go _ _ (T_L_law_834 v0 v1 v2 v3 v4 σ) = _
  unfold T_L_law_834
  simp only [s_go_bind, s_go_ite, s_go_sum, s_go_l, s_go_r, s_go_n]
  try rfl
theorem E_L_law_864 {v0 : Nat} {v1 : Nat} {v2 : Nat} {v3 : Nat} {v4 : Int32} {w0 : Int32} {w1 : Int32} {w2 : Int32} {w3 : Nat} {σ : sS} : R_L_law_864 v0 v1 v2 v3 v4 w0 w1 w2 w3 σ = ((F_L_believe w3 w2 w1 w0 v3 σ).bind fun q1 =>
  (s_ai q1.2 v0 (v4 + 1)).bind fun x2 =>
  (s_ai q1.2 v0 (v4 + 2)).bind fun x3 =>
  (s_ai q1.2 v0 (v4 + 3)).bind fun x4 =>
  if x4 = 0 then (R_L_law_897 v0 v1 v2 v3 v4 q1.1 0 x3 x2 v2 q1.2)
  else (R_L_law_897 v0 v1 v2 v3 v4 q1.1 1 x3 x2 v2 q1.2)) := by
  unfold R_L_law_864
  rw [s_run_eq]
  show s_go _ _ (T_L_law_864 v0 v1 v2 v3 v4 w0 w1 w2 w3 σ) = _
  unfold T_L_law_864
  simp only [s_go_bind, s_go_ite, s_go_sum, s_go_l, s_go_r, s_go_n]
  try rfl
theorem E_L_law_897 {v0 : Nat} {v1 : Nat} {v2 : Nat} {v3 : Nat} {v4 : Int32} {v5 : Int32} {w0 : Int32} {w1 : Int32} {w2 : Int32} {w3 : Nat} {σ : sS} : R_L_law_897 v0 v1 v2 v3 v4 v5 w0 w1 w2 w3 σ = ((F_X8_believe w3 w2 w1 w0 σ).bind fun q1 =>
  (F_X8_thrown v2 q1.2).bind fun q2 =>
  if q2.1 = v5 then (if v5 = 0 then ((s_al q2.2 v3 0).bind fun x3 =>
  if q1.1 = 0 then (R_L_law_931 v0 v1 v2 v3 v4 0 x3 q2.2)
  else (R_L_law_931 v0 v1 v2 v3 v4 1 x3 q2.2))
  else (R_L_law_937 v0 v1 v2 v3 v4 q2.2))
  else (some (0, q2.2))) := by
  unfold R_L_law_897
  rw [s_run_eq]
  show s_go _ _ (T_L_law_897 v0 v1 v2 v3 v4 v5 w0 w1 w2 w3 σ) = _
  unfold T_L_law_897
  simp only [s_go_bind, s_go_ite, s_go_sum, s_go_l, s_go_r, s_go_n]
  try rfl
theorem E_L_law_931 {v0 : Nat} {v1 : Nat} {v2 : Nat} {v3 : Nat} {v4 : Int32} {w0 : Int64} {w1 : Int64} {σ : sS} : R_L_law_931 v0 v1 v2 v3 v4 w0 w1 σ = (if (lg_cmp w1 w0) = 0 then (R_L_law_937 v0 v1 v2 v3 v4 σ)
  else (some (0, σ))) := by
  unfold R_L_law_931
  rw [s_run_eq]
  show s_go _ _ (T_L_law_931 v0 v1 v2 v3 v4 w0 w1 σ) = _
  unfold T_L_law_931
  simp only [s_go_bind, s_go_ite, s_go_sum, s_go_l, s_go_r, s_go_n]
  try rfl
theorem E_L_law_937 {v0 : Nat} {v1 : Nat} {v2 : Nat} {v3 : Nat} {v4 : Int32} {σ : sS} : R_L_law_937 v0 v1 v2 v3 v4 σ = (R_L_law_2927 v0 v1 v2 v3 v4 σ) := by
  unfold R_L_law_937
  rw [s_run_eq]
  show s_go _ _ (T_L_law_937 v0 v1 v2 v3 v4 σ) = _
  unfold T_L_law_937
  simp only [s_go_bind, s_go_ite, s_go_sum, s_go_l, s_go_r, s_go_n]
  try rfl
theorem E_L_law_993 {v0 : Nat} {v1 : Nat} {v2 : Nat} {v3 : Nat} {v4 : Int32} {σ : sS} : R_L_law_993 v0 v1 v2 v3 v4 σ = (R_L_law_2927 v0 v1 v2 v3 v4 σ) := by
  unfold R_L_law_993
  rw [s_run_eq]
  show s_go _ _ (T_L_law_993 v0 v1 v2 v3 v4 σ) = _
  unfold T_L_law_993
  simp only [s_go_bind, s_go_ite, s_go_sum, s_go_l, s_go_r, s_go_n]
  try rfl
theorem E_L_law_1111 {v0 : Nat} {v1 : Nat} {v2 : Nat} {v3 : Nat} {v4 : Int32} {σ : sS} : R_L_law_1111 v0 v1 v2 v3 v4 σ = (R_L_law_2927 v0 v1 v2 v3 v4 σ) := by
  unfold R_L_law_1111
  rw [s_run_eq]
  show s_go _ _ (T_L_law_1111 v0 v1 v2 v3 v4 σ) = _
  unfold T_L_law_1111
  simp only [s_go_bind, s_go_ite, s_go_sum, s_go_l, s_go_r, s_go_n]
  try rfl
theorem E_L_law_1179 {v0 : Nat} {v1 : Nat} {v2 : Nat} {v3 : Nat} {v4 : Int32} {σ : sS} : R_L_law_1179 v0 v1 v2 v3 v4 σ = (R_L_law_2927 v0 v1 v2 v3 v4 σ) := by
  unfold R_L_law_1179
  rw [s_run_eq]
  show s_go _ _ (T_L_law_1179 v0 v1 v2 v3 v4 σ) = _
  unfold T_L_law_1179
  simp only [s_go_bind, s_go_ite, s_go_sum, s_go_l, s_go_r, s_go_n]
  try rfl
theorem E_L_law_1248 {v0 : Nat} {v1 : Nat} {v2 : Nat} {v3 : Nat} {v4 : Int32} {w0 : Int64} {w1 : Int64} {σ : sS} : R_L_law_1248 v0 v1 v2 v3 v4 w0 w1 σ = (if (lg_cmp w1 w0) = 0 then (R_L_law_1254 v0 v1 v2 v3 v4 σ)
  else (some (0, σ))) := by
  unfold R_L_law_1248
  rw [s_run_eq]
  show s_go _ _ (T_L_law_1248 v0 v1 v2 v3 v4 w0 w1 σ) = _
  unfold T_L_law_1248
  simp only [s_go_bind, s_go_ite, s_go_sum, s_go_l, s_go_r, s_go_n]
  try rfl
theorem E_L_law_1254 {v0 : Nat} {v1 : Nat} {v2 : Nat} {v3 : Nat} {v4 : Int32} {σ : sS} : R_L_law_1254 v0 v1 v2 v3 v4 σ = (R_L_law_2927 v0 v1 v2 v3 v4 σ) := by
  unfold R_L_law_1254
  rw [s_run_eq]
  show s_go _ _ (T_L_law_1254 v0 v1 v2 v3 v4 σ) = _
  unfold T_L_law_1254
  simp only [s_go_bind, s_go_ite, s_go_sum, s_go_l, s_go_r, s_go_n]
  try rfl
theorem E_L_law_1322 {v0 : Nat} {v1 : Nat} {v2 : Nat} {v3 : Nat} {v4 : Int32} {σ : sS} : R_L_law_1322 v0 v1 v2 v3 v4 σ = (R_L_law_2927 v0 v1 v2 v3 v4 σ) := by
  unfold R_L_law_1322
  rw [s_run_eq]
  show s_go _ _ (T_L_law_1322 v0 v1 v2 v3 v4 σ) = _
  unfold T_L_law_1322
  simp only [s_go_bind, s_go_ite, s_go_sum, s_go_l, s_go_r, s_go_n]
  try rfl
theorem E_L_law_1377 {v0 : Nat} {v1 : Nat} {v2 : Nat} {v3 : Nat} {v4 : Int32} {σ : sS} : R_L_law_1377 v0 v1 v2 v3 v4 σ = (R_L_law_2927 v0 v1 v2 v3 v4 σ) := by
  unfold R_L_law_1377
  rw [s_run_eq]
  show s_go _ _ (T_L_law_1377 v0 v1 v2 v3 v4 σ) = _
  unfold T_L_law_1377
  simp only [s_go_bind, s_go_ite, s_go_sum, s_go_l, s_go_r, s_go_n]
  try rfl
theorem E_L_law_1433 {v0 : Nat} {v1 : Nat} {v2 : Nat} {v3 : Nat} {v4 : Int32} {σ : sS} : R_L_law_1433 v0 v1 v2 v3 v4 σ = (R_L_law_2927 v0 v1 v2 v3 v4 σ) := by
  unfold R_L_law_1433
  rw [s_run_eq]
  show s_go _ _ (T_L_law_1433 v0 v1 v2 v3 v4 σ) = _
  unfold T_L_law_1433
  simp only [s_go_bind, s_go_ite, s_go_sum, s_go_l, s_go_r, s_go_n]
  try rfl
theorem E_L_law_1500 {v0 : Nat} {v1 : Nat} {v2 : Nat} {v3 : Nat} {v4 : Int32} {σ : sS} : R_L_law_1500 v0 v1 v2 v3 v4 σ = (R_L_law_2927 v0 v1 v2 v3 v4 σ) := by
  unfold R_L_law_1500
  rw [s_run_eq]
  show s_go _ _ (T_L_law_1500 v0 v1 v2 v3 v4 σ) = _
  unfold T_L_law_1500
  simp only [s_go_bind, s_go_ite, s_go_sum, s_go_l, s_go_r, s_go_n]
  try rfl
theorem E_L_law_1569 {v0 : Nat} {v1 : Nat} {v2 : Nat} {v3 : Nat} {v4 : Int32} {w0 : Int64} {w1 : Int64} {σ : sS} : R_L_law_1569 v0 v1 v2 v3 v4 w0 w1 σ = (if (lg_cmp w1 w0) = 0 then (R_L_law_1575 v0 v1 v2 v3 v4 σ)
  else (some (0, σ))) := by
  unfold R_L_law_1569
  rw [s_run_eq]
  show s_go _ _ (T_L_law_1569 v0 v1 v2 v3 v4 w0 w1 σ) = _
  unfold T_L_law_1569
  simp only [s_go_bind, s_go_ite, s_go_sum, s_go_l, s_go_r, s_go_n]
  try rfl
theorem E_L_law_1575 {v0 : Nat} {v1 : Nat} {v2 : Nat} {v3 : Nat} {v4 : Int32} {σ : sS} : R_L_law_1575 v0 v1 v2 v3 v4 σ = (R_L_law_2927 v0 v1 v2 v3 v4 σ) := by
  unfold R_L_law_1575
  rw [s_run_eq]
  show s_go _ _ (T_L_law_1575 v0 v1 v2 v3 v4 σ) = _
  unfold T_L_law_1575
  simp only [s_go_bind, s_go_ite, s_go_sum, s_go_l, s_go_r, s_go_n]
  try rfl
theorem E_L_law_1643 {v0 : Nat} {v1 : Nat} {v2 : Nat} {v3 : Nat} {v4 : Int32} {σ : sS} : R_L_law_1643 v0 v1 v2 v3 v4 σ = (R_L_law_2927 v0 v1 v2 v3 v4 σ) := by
  unfold R_L_law_1643
  rw [s_run_eq]
  show s_go _ _ (T_L_law_1643 v0 v1 v2 v3 v4 σ) = _
  unfold T_L_law_1643
  simp only [s_go_bind, s_go_ite, s_go_sum, s_go_l, s_go_r, s_go_n]
  try rfl
theorem E_L_law_1723 {v0 : Nat} {v1 : Nat} {v2 : Nat} {v3 : Nat} {v4 : Int32} {σ : sS} : R_L_law_1723 v0 v1 v2 v3 v4 σ = (R_L_law_2927 v0 v1 v2 v3 v4 σ) := by
  unfold R_L_law_1723
  rw [s_run_eq]
  show s_go _ _ (T_L_law_1723 v0 v1 v2 v3 v4 σ) = _
  unfold T_L_law_1723
  simp only [s_go_bind, s_go_ite, s_go_sum, s_go_l, s_go_r, s_go_n]
  try rfl
theorem E_L_law_1803 {v0 : Nat} {v1 : Nat} {v2 : Nat} {v3 : Nat} {v4 : Int32} {σ : sS} : R_L_law_1803 v0 v1 v2 v3 v4 σ = (R_L_law_2927 v0 v1 v2 v3 v4 σ) := by
  unfold R_L_law_1803
  rw [s_run_eq]
  show s_go _ _ (T_L_law_1803 v0 v1 v2 v3 v4 σ) = _
  unfold T_L_law_1803
  simp only [s_go_bind, s_go_ite, s_go_sum, s_go_l, s_go_r, s_go_n]
  try rfl
theorem E_L_law_1871 {v0 : Nat} {v1 : Nat} {v2 : Nat} {v3 : Nat} {v4 : Int32} {σ : sS} : R_L_law_1871 v0 v1 v2 v3 v4 σ = (R_L_law_2927 v0 v1 v2 v3 v4 σ) := by
  unfold R_L_law_1871
  rw [s_run_eq]
  show s_go _ _ (T_L_law_1871 v0 v1 v2 v3 v4 σ) = _
  unfold T_L_law_1871
  simp only [s_go_bind, s_go_ite, s_go_sum, s_go_l, s_go_r, s_go_n]
  try rfl
theorem E_L_law_1951 {v0 : Nat} {v1 : Nat} {v2 : Nat} {v3 : Nat} {v4 : Int32} {σ : sS} : R_L_law_1951 v0 v1 v2 v3 v4 σ = (R_L_law_2927 v0 v1 v2 v3 v4 σ) := by
  unfold R_L_law_1951
  rw [s_run_eq]
  show s_go _ _ (T_L_law_1951 v0 v1 v2 v3 v4 σ) = _
  unfold T_L_law_1951
  simp only [s_go_bind, s_go_ite, s_go_sum, s_go_l, s_go_r, s_go_n]
  try rfl
theorem E_L_law_2031 {v0 : Nat} {v1 : Nat} {v2 : Nat} {v3 : Nat} {v4 : Int32} {σ : sS} : R_L_law_2031 v0 v1 v2 v3 v4 σ = (R_L_law_2927 v0 v1 v2 v3 v4 σ) := by
  unfold R_L_law_2031
  rw [s_run_eq]
  show s_go _ _ (T_L_law_2031 v0 v1 v2 v3 v4 σ) = _
  unfold T_L_law_2031
  simp only [s_go_bind, s_go_ite, s_go_sum, s_go_l, s_go_r, s_go_n]
  try rfl
theorem E_L_law_2087 {v0 : Nat} {v1 : Nat} {v2 : Nat} {v3 : Nat} {v4 : Int32} {σ : sS} : R_L_law_2087 v0 v1 v2 v3 v4 σ = (R_L_law_2927 v0 v1 v2 v3 v4 σ) := by
  unfold R_L_law_2087
  rw [s_run_eq]
  show s_go _ _ (T_L_law_2087 v0 v1 v2 v3 v4 σ) = _
  unfold T_L_law_2087
  simp only [s_go_bind, s_go_ite, s_go_sum, s_go_l, s_go_r, s_go_n]
  try rfl
theorem E_L_law_2155 {v0 : Nat} {v1 : Nat} {v2 : Nat} {v3 : Nat} {v4 : Int32} {σ : sS} : R_L_law_2155 v0 v1 v2 v3 v4 σ = (R_L_law_2927 v0 v1 v2 v3 v4 σ) := by
  unfold R_L_law_2155
  rw [s_run_eq]
  show s_go _ _ (T_L_law_2155 v0 v1 v2 v3 v4 σ) = _
  unfold T_L_law_2155
  simp only [s_go_bind, s_go_ite, s_go_sum, s_go_l, s_go_r, s_go_n]
  try rfl
theorem E_L_law_2211 {v0 : Nat} {v1 : Nat} {v2 : Nat} {v3 : Nat} {v4 : Int32} {σ : sS} : R_L_law_2211 v0 v1 v2 v3 v4 σ = (R_L_law_2927 v0 v1 v2 v3 v4 σ) := by
  unfold R_L_law_2211
  rw [s_run_eq]
  show s_go _ _ (T_L_law_2211 v0 v1 v2 v3 v4 σ) = _
  unfold T_L_law_2211
  simp only [s_go_bind, s_go_ite, s_go_sum, s_go_l, s_go_r, s_go_n]
  try rfl
theorem E_L_law_2267 {v0 : Nat} {v1 : Nat} {v2 : Nat} {v3 : Nat} {v4 : Int32} {σ : sS} : R_L_law_2267 v0 v1 v2 v3 v4 σ = (R_L_law_2927 v0 v1 v2 v3 v4 σ) := by
  unfold R_L_law_2267
  rw [s_run_eq]
  show s_go _ _ (T_L_law_2267 v0 v1 v2 v3 v4 σ) = _
  unfold T_L_law_2267
  simp only [s_go_bind, s_go_ite, s_go_sum, s_go_l, s_go_r, s_go_n]
  try rfl
theorem E_L_law_2323 {v0 : Nat} {v1 : Nat} {v2 : Nat} {v3 : Nat} {v4 : Int32} {σ : sS} : R_L_law_2323 v0 v1 v2 v3 v4 σ = (R_L_law_2927 v0 v1 v2 v3 v4 σ) := by
  unfold R_L_law_2323
  rw [s_run_eq]
  show s_go _ _ (T_L_law_2323 v0 v1 v2 v3 v4 σ) = _
  unfold T_L_law_2323
  simp only [s_go_bind, s_go_ite, s_go_sum, s_go_l, s_go_r, s_go_n]
  try rfl
theorem E_L_law_2379 {v0 : Nat} {v1 : Nat} {v2 : Nat} {v3 : Nat} {v4 : Int32} {σ : sS} : R_L_law_2379 v0 v1 v2 v3 v4 σ = (R_L_law_2927 v0 v1 v2 v3 v4 σ) := by
  unfold R_L_law_2379
  rw [s_run_eq]
  show s_go _ _ (T_L_law_2379 v0 v1 v2 v3 v4 σ) = _
  unfold T_L_law_2379
  simp only [s_go_bind, s_go_ite, s_go_sum, s_go_l, s_go_r, s_go_n]
  try rfl
theorem E_L_law_2447 {v0 : Nat} {v1 : Nat} {v2 : Nat} {v3 : Nat} {v4 : Int32} {σ : sS} : R_L_law_2447 v0 v1 v2 v3 v4 σ = (R_L_law_2927 v0 v1 v2 v3 v4 σ) := by
  unfold R_L_law_2447
  rw [s_run_eq]
  show s_go _ _ (T_L_law_2447 v0 v1 v2 v3 v4 σ) = _
  unfold T_L_law_2447
  simp only [s_go_bind, s_go_ite, s_go_sum, s_go_l, s_go_r, s_go_n]
  try rfl
theorem E_L_law_2515 {v0 : Nat} {v1 : Nat} {v2 : Nat} {v3 : Nat} {v4 : Int32} {σ : sS} : R_L_law_2515 v0 v1 v2 v3 v4 σ = (R_L_law_2927 v0 v1 v2 v3 v4 σ) := by
  unfold R_L_law_2515
  rw [s_run_eq]
  show s_go _ _ (T_L_law_2515 v0 v1 v2 v3 v4 σ) = _
  unfold T_L_law_2515
  simp only [s_go_bind, s_go_ite, s_go_sum, s_go_l, s_go_r, s_go_n]
  try rfl
theorem E_L_law_2607 {v0 : Nat} {v1 : Nat} {v2 : Nat} {v3 : Nat} {v4 : Int32} {σ : sS} : R_L_law_2607 v0 v1 v2 v3 v4 σ = (R_L_law_2927 v0 v1 v2 v3 v4 σ) := by
  unfold R_L_law_2607
  rw [s_run_eq]
  show s_go _ _ (T_L_law_2607 v0 v1 v2 v3 v4 σ) = _
  unfold T_L_law_2607
  simp only [s_go_bind, s_go_ite, s_go_sum, s_go_l, s_go_r, s_go_n]
  try rfl
theorem E_L_law_2664 {v0 : Nat} {v1 : Nat} {v2 : Nat} {v3 : Nat} {v4 : Int32} {w0 : Int64} {w1 : Int64} {σ : sS} : R_L_law_2664 v0 v1 v2 v3 v4 w0 w1 σ = (if (lg_cmp w1 w0) = 0 then (R_L_law_2670 v0 v1 v2 v3 v4 σ)
  else (some (0, σ))) := by
  unfold R_L_law_2664
  rw [s_run_eq]
  show s_go _ _ (T_L_law_2664 v0 v1 v2 v3 v4 w0 w1 σ) = _
  unfold T_L_law_2664
  simp only [s_go_bind, s_go_ite, s_go_sum, s_go_l, s_go_r, s_go_n]
  try rfl
theorem E_L_law_2670 {v0 : Nat} {v1 : Nat} {v2 : Nat} {v3 : Nat} {v4 : Int32} {σ : sS} : R_L_law_2670 v0 v1 v2 v3 v4 σ = (R_L_law_2927 v0 v1 v2 v3 v4 σ) := by
  unfold R_L_law_2670
  rw [s_run_eq]
  show s_go _ _ (T_L_law_2670 v0 v1 v2 v3 v4 σ) = _
  unfold T_L_law_2670
  simp only [s_go_bind, s_go_ite, s_go_sum, s_go_l, s_go_r, s_go_n]
  try rfl
theorem E_L_law_2750 {v0 : Nat} {v1 : Nat} {v2 : Nat} {v3 : Nat} {v4 : Int32} {σ : sS} : R_L_law_2750 v0 v1 v2 v3 v4 σ = (R_L_law_2927 v0 v1 v2 v3 v4 σ) := by
  unfold R_L_law_2750
  rw [s_run_eq]
  show s_go _ _ (T_L_law_2750 v0 v1 v2 v3 v4 σ) = _
  unfold T_L_law_2750
  simp only [s_go_bind, s_go_ite, s_go_sum, s_go_l, s_go_r, s_go_n]
  try rfl
theorem E_L_law_2806 {v0 : Nat} {v1 : Nat} {v2 : Nat} {v3 : Nat} {v4 : Int32} {σ : sS} : R_L_law_2806 v0 v1 v2 v3 v4 σ = (R_L_law_2927 v0 v1 v2 v3 v4 σ) := by
  unfold R_L_law_2806
  rw [s_run_eq]
  show s_go _ _ (T_L_law_2806 v0 v1 v2 v3 v4 σ) = _
  unfold T_L_law_2806
  simp only [s_go_bind, s_go_ite, s_go_sum, s_go_l, s_go_r, s_go_n]
  try rfl
theorem E_L_law_2875 {v0 : Nat} {v1 : Nat} {v2 : Nat} {v3 : Nat} {v4 : Int32} {σ : sS} : R_L_law_2875 v0 v1 v2 v3 v4 σ = (R_L_law_2927 v0 v1 v2 v3 v4 σ) := by
  unfold R_L_law_2875
  rw [s_run_eq]
  show s_go _ _ (T_L_law_2875 v0 v1 v2 v3 v4 σ) = _
  unfold T_L_law_2875
  simp only [s_go_bind, s_go_ite, s_go_sum, s_go_l, s_go_r, s_go_n]
  try rfl
theorem E_L_law_2927 {v0 : Nat} {v1 : Nat} {v2 : Nat} {v3 : Nat} {v4 : Int32} {σ : sS} : R_L_law_2927 v0 v1 v2 v3 v4 σ = (R_L_law_23 v0 v1 v2 v3 (v4 + 7) σ) := by
  unfold R_L_law_2927
  rw [s_run_eq]
  show s_go _ _ (T_L_law_2927 v0 v1 v2 v3 v4 σ) = _
  unfold T_L_law_2927
  simp only [s_go_bind, s_go_ite, s_go_sum, s_go_l, s_go_r, s_go_n]
  try rfl
theorem E_L_law {v0 : Nat} {v1 : Nat} {σ : sS} : F_L_law v0 v1 σ = ((s_is σ v0 100).bind fun _ => R_L_law_0 v0 v1 σ) := rfl
