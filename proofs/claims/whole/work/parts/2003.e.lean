/-! X8_isOpen -/
noncomputable def R_X8_isOpen_0 (v0 : Nat) (v1 : Int32) (σ : sS) : Option (Int32 × sS) := s_run (S_X8_isOpen ) (0, [.ref v0, .int v1], σ)
noncomputable def R_X8_isOpen_4 (v0 : Nat) (v1 : Int32) (v2 : Int32) (v3 : Int32) (σ : sS) : Option (Int32 × sS) := s_run (S_X8_isOpen ) (4, [.ref v0, .int v1, .int v2, .int v3], σ)
noncomputable def R_X8_isOpen_41 (v0 : Nat) (v1 : Int32) (v3 : Int32) (σ : sS) : Option (Int32 × sS) := s_run (S_X8_isOpen ) (41, [.ref v0, .int v1, .int v3], σ)
noncomputable def R_X8_isOpen_45 (v0 : Nat) (v1 : Int32) (v3 : Int32) (σ : sS) : Option (Int32 × sS) := s_run (S_X8_isOpen ) (45, [.ref v0, .int v1, .int v3], σ)
noncomputable def R_X8_isOpen_46 (v0 : Nat) (v1 : Int32) (v3 : Int32) (w0 : Int32) (σ : sS) : Option (Int32 × sS) := s_run (S_X8_isOpen ) (46, [.ref v0, .int v1, .int v3, .int w0], σ)
theorem E_X8_isOpen_0 {v0 : Nat} {v1 : Int32} {σ : sS} : R_X8_isOpen_0 v0 v1 σ = (R_X8_isOpen_4 v0 v1 0 0 σ) := by
  unfold R_X8_isOpen_0
  rw [s_run_eq]
  show s_go _ _ (T_X8_isOpen_0 v0 v1 σ) = _
  unfold T_X8_isOpen_0
  simp only [s_go_bind, s_go_ite, s_go_sum, s_go_l, s_go_r, s_go_n]
  try rfl
theorem E_X8_isOpen_4 {v0 : Nat} {v1 : Int32} {v2 : Int32} {v3 : Int32} {σ : sS} : R_X8_isOpen_4 v0 v1 v2 v3 σ = ((F_X8_lines v0 σ).bind fun q1 =>
  if q1.1 ≤ v3 then (if (v2 = 0 ∨ v2 = 1) then (some (v2, q1.2)) else none)
  else (if v2 = 0 then ((s_fr q1.2 v0 8 18).bind fun x2 =>
  (s_al q1.2 x2 v1).bind fun x3 =>
  if (lg_cmp ((x3 >>> ((v3 : Int32).toInt64 &&& 63)) &&& 1) 1) = 0 then ((F_X8_ofLine v0 v3 2 q1.2).bind fun q4 =>
  if q4.1 = 1 then (R_X8_isOpen_41 v0 v1 v3 q4.2)
  else (R_X8_isOpen_45 v0 v1 v3 q4.2))
  else (R_X8_isOpen_45 v0 v1 v3 q1.2))
  else (R_X8_isOpen_41 v0 v1 v3 q1.2))) := by
  unfold R_X8_isOpen_4
  rw [s_run_eq]
  show s_go _ _ (T_X8_isOpen_4 v0 v1 v2 v3 σ) = _
  unfold T_X8_isOpen_4
  simp only [s_go_bind, s_go_ite, s_go_sum, s_go_l, s_go_r, s_go_n]
  try rfl
theorem E_X8_isOpen_41 {v0 : Nat} {v1 : Int32} {v3 : Int32} {σ : sS} : R_X8_isOpen_41 v0 v1 v3 σ = (R_X8_isOpen_46 v0 v1 v3 1 σ) := by
  unfold R_X8_isOpen_41
  rw [s_run_eq]
  show s_go _ _ (T_X8_isOpen_41 v0 v1 v3 σ) = _
  unfold T_X8_isOpen_41
  simp only [s_go_bind, s_go_ite, s_go_sum, s_go_l, s_go_r, s_go_n]
  try rfl
theorem E_X8_isOpen_45 {v0 : Nat} {v1 : Int32} {v3 : Int32} {σ : sS} : R_X8_isOpen_45 v0 v1 v3 σ = (R_X8_isOpen_46 v0 v1 v3 0 σ) := by
  unfold R_X8_isOpen_45
  rw [s_run_eq]
  show s_go _ _ (T_X8_isOpen_45 v0 v1 v3 σ) = _
  unfold T_X8_isOpen_45
  simp only [s_go_bind, s_go_ite, s_go_sum, s_go_l, s_go_r, s_go_n]
  try rfl
theorem E_X8_isOpen_46 {v0 : Nat} {v1 : Int32} {v3 : Int32} {w0 : Int32} {σ : sS} : R_X8_isOpen_46 v0 v1 v3 w0 σ = (R_X8_isOpen_4 v0 v1 w0 (v3 + 1) σ) := by
  unfold R_X8_isOpen_46
  rw [s_run_eq]
  show s_go _ _ (T_X8_isOpen_46 v0 v1 v3 w0 σ) = _
  unfold T_X8_isOpen_46
  simp only [s_go_bind, s_go_ite, s_go_sum, s_go_l, s_go_r, s_go_n]
  try rfl
theorem E_X8_isOpen {v0 : Nat} {v1 : Int32} {σ : sS} : F_X8_isOpen v0 v1 σ = ((s_is σ v0 8).bind fun _ => R_X8_isOpen_0 v0 v1 σ) := rfl
/-! X8_isStale -/
noncomputable def R_X8_isStale_0 (v0 : Nat) (v1 : Int32) (σ : sS) : Option (Int32 × sS) := s_run (S_X8_isStale ) (0, [.ref v0, .int v1], σ)
noncomputable def R_X8_isStale_4 (v0 : Nat) (v1 : Int32) (v2 : Int32) (v3 : Int32) (σ : sS) : Option (Int32 × sS) := s_run (S_X8_isStale ) (4, [.ref v0, .int v1, .int v2, .int v3], σ)
noncomputable def R_X8_isStale_63 (v0 : Nat) (v1 : Int32) (v3 : Int32) (σ : sS) : Option (Int32 × sS) := s_run (S_X8_isStale ) (63, [.ref v0, .int v1, .int v3], σ)
noncomputable def R_X8_isStale_67 (v0 : Nat) (v1 : Int32) (v3 : Int32) (σ : sS) : Option (Int32 × sS) := s_run (S_X8_isStale ) (67, [.ref v0, .int v1, .int v3], σ)
noncomputable def R_X8_isStale_68 (v0 : Nat) (v1 : Int32) (v3 : Int32) (w0 : Int32) (σ : sS) : Option (Int32 × sS) := s_run (S_X8_isStale ) (68, [.ref v0, .int v1, .int v3, .int w0], σ)
theorem E_X8_isStale_0 {v0 : Nat} {v1 : Int32} {σ : sS} : R_X8_isStale_0 v0 v1 σ = (R_X8_isStale_4 v0 v1 0 0 σ) := by
  unfold R_X8_isStale_0
  rw [s_run_eq]
  show s_go _ _ (T_X8_isStale_0 v0 v1 σ) = _
  unfold T_X8_isStale_0
  simp only [s_go_bind, s_go_ite, s_go_sum, s_go_l, s_go_r, s_go_n]
  try rfl
theorem E_X8_isStale_4 {v0 : Nat} {v1 : Int32} {v2 : Int32} {v3 : Int32} {σ : sS} : R_X8_isStale_4 v0 v1 v2 v3 σ = ((F_X8_lines v0 σ).bind fun q1 =>
  if q1.1 ≤ v3 then (if (v2 = 0 ∨ v2 = 1) then (some (v2, q1.2)) else none)
  else (if v2 = 0 then ((s_fr q1.2 v0 8 18).bind fun x2 =>
  (s_al q1.2 x2 v1).bind fun x3 =>
  if (lg_cmp ((x3 >>> ((v3 : Int32).toInt64 &&& 63)) &&& 1) 1) = 0 then ((F_X8_ofLine v0 v3 2 q1.2).bind fun q4 =>
  if q4.1 = 0 then ((F_X8_ofLine v0 v3 1 q4.2).bind fun q5 =>
  (F_X8_ofLine v0 v3 3 q5.2).bind fun q6 =>
  (F_X8_beliefsOf v0 q6.1 q6.2).bind fun q7 =>
  (F_X8_isAmong v0 q5.1 q7.1 q7.2).bind fun q8 =>
  if q8.1 = 0 then (R_X8_isStale_63 v0 v1 v3 q8.2)
  else (R_X8_isStale_67 v0 v1 v3 q8.2))
  else (R_X8_isStale_67 v0 v1 v3 q4.2))
  else (R_X8_isStale_67 v0 v1 v3 q1.2))
  else (R_X8_isStale_63 v0 v1 v3 q1.2))) := by
  unfold R_X8_isStale_4
  rw [s_run_eq]
  show s_go _ _ (T_X8_isStale_4 v0 v1 v2 v3 σ) = _
  unfold T_X8_isStale_4
  simp only [s_go_bind, s_go_ite, s_go_sum, s_go_l, s_go_r, s_go_n]
  try rfl
theorem E_X8_isStale_63 {v0 : Nat} {v1 : Int32} {v3 : Int32} {σ : sS} : R_X8_isStale_63 v0 v1 v3 σ = (R_X8_isStale_68 v0 v1 v3 1 σ) := by
  unfold R_X8_isStale_63
  rw [s_run_eq]
  show s_go _ _ (T_X8_isStale_63 v0 v1 v3 σ) = _
  unfold T_X8_isStale_63
  simp only [s_go_bind, s_go_ite, s_go_sum, s_go_l, s_go_r, s_go_n]
  try rfl
theorem E_X8_isStale_67 {v0 : Nat} {v1 : Int32} {v3 : Int32} {σ : sS} : R_X8_isStale_67 v0 v1 v3 σ = (R_X8_isStale_68 v0 v1 v3 0 σ) := by
  unfold R_X8_isStale_67
  rw [s_run_eq]
  show s_go _ _ (T_X8_isStale_67 v0 v1 v3 σ) = _
  unfold T_X8_isStale_67
  simp only [s_go_bind, s_go_ite, s_go_sum, s_go_l, s_go_r, s_go_n]
  try rfl
theorem E_X8_isStale_68 {v0 : Nat} {v1 : Int32} {v3 : Int32} {w0 : Int32} {σ : sS} : R_X8_isStale_68 v0 v1 v3 w0 σ = (R_X8_isStale_4 v0 v1 w0 (v3 + 1) σ) := by
  unfold R_X8_isStale_68
  rw [s_run_eq]
  show s_go _ _ (T_X8_isStale_68 v0 v1 v3 w0 σ) = _
  unfold T_X8_isStale_68
  simp only [s_go_bind, s_go_ite, s_go_sum, s_go_l, s_go_r, s_go_n]
  try rfl
theorem E_X8_isStale {v0 : Nat} {v1 : Int32} {σ : sS} : F_X8_isStale v0 v1 σ = ((s_is σ v0 8).bind fun _ => R_X8_isStale_0 v0 v1 σ) := rfl
/-! X8_isSaved -/
noncomputable def R_X8_isSaved_0 (v0 : Nat) (v1 : Int32) (σ : sS) : Option (Int32 × sS) := s_run (S_X8_isSaved ) (0, [.ref v0, .int v1], σ)
noncomputable def R_X8_isSaved_4 (v0 : Nat) (v1 : Int32) (v2 : Int32) (v3 : Int32) (σ : sS) : Option (Int32 × sS) := s_run (S_X8_isSaved ) (4, [.ref v0, .int v1, .int v2, .int v3], σ)
noncomputable def R_X8_isSaved_77 (v0 : Nat) (v1 : Int32) (v3 : Int32) (σ : sS) : Option (Int32 × sS) := s_run (S_X8_isSaved ) (77, [.ref v0, .int v1, .int v3], σ)
noncomputable def R_X8_isSaved_78 (v0 : Nat) (v1 : Int32) (v3 : Int32) (w0 : Int32) (σ : sS) : Option (Int32 × sS) := s_run (S_X8_isSaved ) (78, [.ref v0, .int v1, .int v3, .int w0], σ)
theorem E_X8_isSaved_0 {v0 : Nat} {v1 : Int32} {σ : sS} : R_X8_isSaved_0 v0 v1 σ = (R_X8_isSaved_4 v0 v1 0 0 σ) := by
  unfold R_X8_isSaved_0
  rw [s_run_eq]
  show s_go _ _ (T_X8_isSaved_0 v0 v1 σ) = _
  unfold T_X8_isSaved_0
  simp only [s_go_bind, s_go_ite, s_go_sum, s_go_l, s_go_r, s_go_n]
  try rfl
theorem E_X8_isSaved_4 {v0 : Nat} {v1 : Int32} {v2 : Int32} {v3 : Int32} {σ : sS} : R_X8_isSaved_4 v0 v1 v2 v3 σ = ((F_X8_lines v0 σ).bind fun q1 =>
  if q1.1 ≤ v3 then (if (v2 = 0 ∨ v2 = 1) then (some (v2, q1.2)) else none)
  else ((F_X8_isStale v0 v1 q1.2).bind fun q2 =>
  if q2.1 = 0 then (if (v2 = 0 ∨ v2 = 1) then (some (v2, q2.2)) else none)
  else (if v2 = 0 then (if v3 = v1 then (R_X8_isSaved_77 v0 v1 v3 q2.2)
  else ((F_X8_ofLine v0 v3 1 q2.2).bind fun q3 =>
  (F_X8_ofLine v0 v1 1 q3.2).bind fun q4 =>
  (F_X8_isSame v0 q3.1 q4.1 q4.2).bind fun q5 =>
  if q5.1 = 0 then (R_X8_isSaved_77 v0 v1 v3 q5.2)
  else ((s_fr q5.2 v0 8 17).bind fun x6 =>
  (s_ab q5.2 x6 v3).bind fun x7 =>
  if x7 = 0 then (R_X8_isSaved_77 v0 v1 v3 q5.2)
  else ((F_X8_isOpen v0 v3 q5.2).bind fun q8 =>
  if q8.1 = 0 then ((F_X8_isStale v0 v3 q8.2).bind fun q9 =>
  if q9.1 = 0 then (R_X8_isSaved_78 v0 v1 v3 1 q9.2)
  else (R_X8_isSaved_77 v0 v1 v3 q9.2))
  else (R_X8_isSaved_77 v0 v1 v3 q8.2)))))
  else (if (v2 = 0 ∨ v2 = 1) then (some (v2, q2.2)) else none)))) := by
  unfold R_X8_isSaved_4
  rw [s_run_eq]
  show s_go _ _ (T_X8_isSaved_4 v0 v1 v2 v3 σ) = _
  unfold T_X8_isSaved_4
  simp only [s_go_bind, s_go_ite, s_go_sum, s_go_l, s_go_r, s_go_n]
  try rfl
theorem E_X8_isSaved_77 {v0 : Nat} {v1 : Int32} {v3 : Int32} {σ : sS} : R_X8_isSaved_77 v0 v1 v3 σ = (R_X8_isSaved_78 v0 v1 v3 0 σ) := by
  unfold R_X8_isSaved_77
  rw [s_run_eq]
  show s_go _ _ (T_X8_isSaved_77 v0 v1 v3 σ) = _
  unfold T_X8_isSaved_77
  simp only [s_go_bind, s_go_ite, s_go_sum, s_go_l, s_go_r, s_go_n]
  try rfl
theorem E_X8_isSaved_78 {v0 : Nat} {v1 : Int32} {v3 : Int32} {w0 : Int32} {σ : sS} : R_X8_isSaved_78 v0 v1 v3 w0 σ = (R_X8_isSaved_4 v0 v1 w0 (v3 + 1) σ) := by
  unfold R_X8_isSaved_78
  rw [s_run_eq]
  show s_go _ _ (T_X8_isSaved_78 v0 v1 v3 w0 σ) = _
  unfold T_X8_isSaved_78
  simp only [s_go_bind, s_go_ite, s_go_sum, s_go_l, s_go_r, s_go_n]
  try rfl
theorem E_X8_isSaved {v0 : Nat} {v1 : Int32} {σ : sS} : F_X8_isSaved v0 v1 σ = ((s_is σ v0 8).bind fun _ => R_X8_isSaved_0 v0 v1 σ) := rfl
/-! X8_is -/
noncomputable def R_X8_is_0 (v0 : Nat) (v1 : Int32) (v2 : Int32) (σ : sS) : Option (Int32 × sS) := s_run (S_X8_is ) (0, [.ref v0, .int v1, .int v2], σ)
noncomputable def R_X8_is_33 (v0 : Nat) (v1 : Int32) (v2 : Int32) (w0 : Int32) (w1 : Nat) (σ : sS) : Option (Int32 × sS) := s_run (S_X8_is ) (33, [.ref v0, .int v1, .int v2, .int w0, .ref w1], σ)
theorem E_X8_is_0 {v0 : Nat} {v1 : Int32} {v2 : Int32} {σ : sS} : R_X8_is_0 v0 v1 v2 σ = ((s_pf σ v0 8 0 (.int 0)).bind fun σ1 =>
  (F_X8_noLine v0 v1 σ1).bind fun q2 =>
  (F_X8_throwsIf v0 q2.1 1 q2.2).bind fun q3 =>
  if q3.1 = 0 then ((F_X8_in v2 0 4 q3.2).bind fun q4 =>
  if q4.1 = 0 then (R_X8_is_33 v0 v1 v2 1 v0 q4.2)
  else (R_X8_is_33 v0 v1 v2 0 v0 q4.2))
  else (some (0, q3.2))) := by
  unfold R_X8_is_0
  rw [s_run_eq]
  show s_go _ _ (T_X8_is_0 v0 v1 v2 σ) = _
  unfold T_X8_is_0
  simp only [s_go_bind, s_go_ite, s_go_sum, s_go_l, s_go_r, s_go_n]
  try rfl
theorem E_X8_is_33 {v0 : Nat} {v1 : Int32} {v2 : Int32} {w0 : Int32} {w1 : Nat} {σ : sS} : R_X8_is_33 v0 v1 v2 w0 w1 σ = ((F_X8_throwsIf w1 w0 2 σ).bind fun q1 =>
  if q1.1 = 0 then ((F_X8_goesThrough v0 q1.2).bind fun q2 =>
  if v2 = 0 then ((F_X8_isHonest v0 v1 q2.2).bind fun q8 =>
  if (q8.1 = 0 ∨ q8.1 = 1) then (some (q8.1, q8.2)) else none)
  else (if v2 = 1 then ((s_fr q2.2 v0 8 17).bind fun x6 =>
  (s_ab q2.2 x6 v1).bind fun x7 =>
  if (x7 = 0 ∨ x7 = 1) then (some (x7, q2.2)) else none)
  else (if v2 = 2 then ((F_X8_isOpen v0 v1 q2.2).bind fun q5 =>
  if (q5.1 = 0 ∨ q5.1 = 1) then (some (q5.1, q5.2)) else none)
  else (if v2 = 3 then ((F_X8_isStale v0 v1 q2.2).bind fun q4 =>
  if (q4.1 = 0 ∨ q4.1 = 1) then (some (q4.1, q4.2)) else none)
  else ((F_X8_isSaved v0 v1 q2.2).bind fun q3 =>
  if (q3.1 = 0 ∨ q3.1 = 1) then (some (q3.1, q3.2)) else none)))))
  else (some (0, q1.2))) := by
  unfold R_X8_is_33
  rw [s_run_eq]
  show s_go _ _ (T_X8_is_33 v0 v1 v2 w0 w1 σ) = _
  unfold T_X8_is_33
  simp only [s_go_bind, s_go_ite, s_go_sum, s_go_l, s_go_r, s_go_n]
  try rfl
theorem E_X8_is {v0 : Nat} {v1 : Int32} {v2 : Int32} {σ : sS} : F_X8_is v0 v1 v2 σ = ((s_is σ v0 8).bind fun _ => R_X8_is_0 v0 v1 v2 σ) := rfl
/-! X0_firstWrong -/
noncomputable def R_X0_firstWrong_0 (v0 : Nat) (σ : sS) : Option (Int32 × sS) := s_run (S_X0_firstWrong ) (0, [.ref v0], σ)
noncomputable def R_X0_firstWrong_2 (v0 : Nat) (v1 : Int32) (σ : sS) : Option (Int32 × sS) := s_run (S_X0_firstWrong ) (2, [.ref v0, .int v1], σ)
theorem E_X0_firstWrong_0 {v0 : Nat} {σ : sS} : R_X0_firstWrong_0 v0 σ = (R_X0_firstWrong_2 v0 0 σ) := by
  unfold R_X0_firstWrong_0
  rw [s_run_eq]
  show s_go _ _ (T_X0_firstWrong_0 v0 σ) = _
  unfold T_X0_firstWrong_0
  simp only [s_go_bind, s_go_ite, s_go_sum, s_go_l, s_go_r, s_go_n]
  try rfl
theorem E_X0_firstWrong_2 {v0 : Nat} {v1 : Int32} {σ : sS} : R_X0_firstWrong_2 v0 v1 σ = ((s_fr σ v0 0 5).bind fun x1 =>
  (s_fi σ x1 1 6).bind fun x2 =>
  if x2 ≤ v1 then (some ((-1), σ))
  else ((s_fl σ v0 0 0).bind fun x3 =>
  if (lg_cmp (((x3 : Int64).toUInt64 >>> ((v1 : Int32).toInt64.toUInt64 &&& Int64.toUInt64 63)).toInt64 &&& 1) 0) = 0 then (some (v1, σ))
  else (R_X0_firstWrong_2 v0 (v1 + 1) σ))) := by
  unfold R_X0_firstWrong_2
  rw [s_run_eq]
  show s_go _ _ (T_X0_firstWrong_2 v0 v1 σ) = _
  unfold T_X0_firstWrong_2
  simp only [s_go_bind, s_go_ite, s_go_sum, s_go_l, s_go_r, s_go_n]
  try rfl
theorem E_X0_firstWrong {v0 : Nat} {σ : sS} : F_X0_firstWrong v0 σ = ((s_is σ v0 0).bind fun _ => R_X0_firstWrong_0 v0 σ) := rfl
/-! X7_wrong -/
noncomputable def R_X7_wrong_0 (v0 : Nat) (σ : sS) : Option (Int32 × sS) := s_run (S_X7_wrong ) (0, [.ref v0], σ)
theorem E_X7_wrong_0 {v0 : Nat} {σ : sS} : R_X7_wrong_0 v0 σ = ((s_fr σ v0 7 5).bind fun x1 =>
  (F_X0_audit x1 σ).bind fun q2 =>
  (s_fr q2.2 v0 7 5).bind fun x3 =>
  (F_X0_firstWrong x3 q2.2).bind fun q4 =>
  some (q4.1, q4.2)) := by
  unfold R_X7_wrong_0
  rw [s_run_eq]
  show s_go _ _ (T_X7_wrong_0 v0 σ) = _
  unfold T_X7_wrong_0
  simp only [s_go_bind, s_go_ite, s_go_sum, s_go_l, s_go_r, s_go_n]
  try rfl
theorem E_X7_wrong {v0 : Nat} {σ : sS} : F_X7_wrong v0 σ = ((s_is σ v0 7).bind fun _ => R_X7_wrong_0 v0 σ) := rfl
/-! X8_wrong -/
noncomputable def R_X8_wrong_0 (v0 : Nat) (σ : sS) : Option (Int32 × sS) := s_run (S_X8_wrong ) (0, [.ref v0], σ)
noncomputable def R_X8_wrong_7 (v0 : Nat) (v1 : Int32) (σ : sS) : Option (Int32 × sS) := s_run (S_X8_wrong ) (7, [.ref v0, .int v1], σ)
theorem E_X8_wrong_0 {v0 : Nat} {σ : sS} : R_X8_wrong_0 v0 σ = ((s_pf σ v0 8 0 (.int 0)).bind fun σ1 =>
  R_X8_wrong_7 v0 0 σ1) := by
  unfold R_X8_wrong_0
  rw [s_run_eq]
  show s_go _ _ (T_X8_wrong_0 v0 σ) = _
  unfold T_X8_wrong_0
  simp only [s_go_bind, s_go_ite, s_go_sum, s_go_l, s_go_r, s_go_n]
  try rfl
theorem E_X8_wrong_7 {v0 : Nat} {v1 : Int32} {σ : sS} : R_X8_wrong_7 v0 v1 σ = ((F_X8_lines v0 σ).bind fun q1 =>
  if q1.1 ≤ v1 then (some ((-1), q1.2))
  else ((F_X8_isHonest v0 v1 q1.2).bind fun q2 =>
  if q2.1 = 0 then (some (v1, q2.2))
  else (R_X8_wrong_7 v0 (v1 + 1) q2.2))) := by
  unfold R_X8_wrong_7
  rw [s_run_eq]
  show s_go _ _ (T_X8_wrong_7 v0 v1 σ) = _
  unfold T_X8_wrong_7
  simp only [s_go_bind, s_go_ite, s_go_sum, s_go_l, s_go_r, s_go_n]
  try rfl
theorem E_X8_wrong {v0 : Nat} {σ : sS} : F_X8_wrong v0 σ = ((s_is σ v0 8).bind fun _ => R_X8_wrong_0 v0 σ) := rfl
/-! X7_rests -/
noncomputable def R_X7_rests_0 (v0 : Nat) (v1 : Int32) (σ : sS) : Option ((Int64 ⊕ String) × sS) := s_run (S_X7_rests ) (0, [.ref v0, .int v1], σ)
theorem E_X7_rests_0 {v0 : Nat} {v1 : Int32} {σ : sS} : R_X7_rests_0 v0 v1 σ = ((F_X7_needLine v0 v1 σ).bind fun q1 => s_sum q1.1 (fun x2 => (s_fr q1.2 v0 7 1).bind fun x4 =>
  (s_fr q1.2 x4 1 7).bind fun x5 =>
  (s_al q1.2 x5 v1).bind fun x6 =>
  some (.inl x6, q1.2)) (fun E3 => some (.inr E3, q1.2))) := by
  unfold R_X7_rests_0
  rw [s_run_eq]
  show s_go _ _ (T_X7_rests_0 v0 v1 σ) = _
  unfold T_X7_rests_0
  simp only [s_go_bind, s_go_ite, s_go_sum, s_go_l, s_go_r, s_go_n]
  try rfl
theorem E_X7_rests {v0 : Nat} {v1 : Int32} {σ : sS} : F_X7_rests v0 v1 σ = ((s_is σ v0 7).bind fun _ => R_X7_rests_0 v0 v1 σ) := rfl
/-! L_rests -/
noncomputable def R_L_rests_0 (v0 : Nat) (v1 : Int32) (v2 : Nat) (σ : sS) : Option (Int32 × sS) := s_run (S_L_rests ) (0, [.ref v0, .int v1, .ref v2], σ)
theorem E_L_rests_0 {v0 : Nat} {v1 : Int32} {v2 : Nat} {σ : sS} : R_L_rests_0 v0 v1 v2 σ = ((F_X7_rests v0 v1 σ).bind fun q1 => s_sum q1.1 (fun x2 => (s_sl q1.2 v2 0 x2).bind fun σ4 =>
  some (0, σ4)) (fun E3 => if E3 = "java/lang/IndexOutOfBoundsException" then (some (1, q1.2)) else none)) := by
  unfold R_L_rests_0
  rw [s_run_eq]
  show s_go _ _ (T_L_rests_0 v0 v1 v2 σ) = _
  unfold T_L_rests_0
  simp only [s_go_bind, s_go_ite, s_go_sum, s_go_l, s_go_r, s_go_n]
  try rfl
theorem E_L_rests {v0 : Nat} {v1 : Int32} {v2 : Nat} {σ : sS} : F_L_rests v0 v1 v2 σ = (R_L_rests_0 v0 v1 v2 σ) := rfl
/-! X8_rests -/
noncomputable def R_X8_rests_0 (v0 : Nat) (v1 : Int32) (σ : sS) : Option (Int64 × sS) := s_run (S_X8_rests ) (0, [.ref v0, .int v1], σ)
theorem E_X8_rests_0 {v0 : Nat} {v1 : Int32} {σ : sS} : R_X8_rests_0 v0 v1 σ = ((s_pf σ v0 8 0 (.int 0)).bind fun σ1 =>
  (F_X8_noLine v0 v1 σ1).bind fun q2 =>
  (F_X8_throwsIf v0 q2.1 1 q2.2).bind fun q3 =>
  if q3.1 = 0 then ((F_X8_goesThrough v0 q3.2).bind fun q4 =>
  (s_fr q4.2 v0 8 18).bind fun x5 =>
  (s_al q4.2 x5 v1).bind fun x6 =>
  some (x6, q4.2))
  else (some (0, q3.2))) := by
  unfold R_X8_rests_0
  rw [s_run_eq]
  show s_go _ _ (T_X8_rests_0 v0 v1 σ) = _
  unfold T_X8_rests_0
  simp only [s_go_bind, s_go_ite, s_go_sum, s_go_l, s_go_r, s_go_n]
  try rfl
theorem E_X8_rests {v0 : Nat} {v1 : Int32} {σ : sS} : F_X8_rests v0 v1 σ = ((s_is σ v0 8).bind fun _ => R_X8_rests_0 v0 v1 σ) := rfl
/-! X7_needs -/
noncomputable def R_X7_needs_0 (v0 : Nat) (v1 : Int32) (σ : sS) : Option ((Int64 ⊕ String) × sS) := s_run (S_X7_needs ) (0, [.ref v0, .int v1], σ)
theorem E_X7_needs_0 {v0 : Nat} {v1 : Int32} {σ : sS} : R_X7_needs_0 v0 v1 σ = ((F_X7_needLine v0 v1 σ).bind fun q1 => s_sum q1.1 (fun x2 => (s_fr q1.2 v0 7 1).bind fun x4 =>
  (s_fr q1.2 x4 1 8).bind fun x5 =>
  (s_al q1.2 x5 v1).bind fun x6 =>
  some (.inl x6, q1.2)) (fun E3 => some (.inr E3, q1.2))) := by
  unfold R_X7_needs_0
  rw [s_run_eq]
  show s_go _ _ (T_X7_needs_0 v0 v1 σ) = _
  unfold T_X7_needs_0
  simp only [s_go_bind, s_go_ite, s_go_sum, s_go_l, s_go_r, s_go_n]
  try rfl
theorem E_X7_needs {v0 : Nat} {v1 : Int32} {σ : sS} : F_X7_needs v0 v1 σ = ((s_is σ v0 7).bind fun _ => R_X7_needs_0 v0 v1 σ) := rfl
/-! L_needs -/
noncomputable def R_L_needs_0 (v0 : Nat) (v1 : Int32) (v2 : Nat) (σ : sS) : Option (Int32 × sS) := s_run (S_L_needs ) (0, [.ref v0, .int v1, .ref v2], σ)
theorem E_L_needs_0 {v0 : Nat} {v1 : Int32} {v2 : Nat} {σ : sS} : R_L_needs_0 v0 v1 v2 σ = ((F_X7_needs v0 v1 σ).bind fun q1 => s_sum q1.1 (fun x2 => (s_sl q1.2 v2 0 x2).bind fun σ4 =>
  some (0, σ4)) (fun E3 => if E3 = "java/lang/IndexOutOfBoundsException" then (some (1, q1.2)) else none)) := by
  unfold R_L_needs_0
  rw [s_run_eq]
  show s_go _ _ (T_L_needs_0 v0 v1 v2 σ) = _
  unfold T_L_needs_0
  simp only [s_go_bind, s_go_ite, s_go_sum, s_go_l, s_go_r, s_go_n]
  try rfl
theorem E_L_needs {v0 : Nat} {v1 : Int32} {v2 : Nat} {σ : sS} : F_L_needs v0 v1 v2 σ = (R_L_needs_0 v0 v1 v2 σ) := rfl
/-! X8_needs -/
noncomputable def R_X8_needs_0 (v0 : Nat) (v1 : Int32) (σ : sS) : Option (Int64 × sS) := s_run (S_X8_needs ) (0, [.ref v0, .int v1], σ)
theorem E_X8_needs_0 {v0 : Nat} {v1 : Int32} {σ : sS} : R_X8_needs_0 v0 v1 σ = ((s_pf σ v0 8 0 (.int 0)).bind fun σ1 =>
  (F_X8_noLine v0 v1 σ1).bind fun q2 =>
  (F_X8_throwsIf v0 q2.1 1 q2.2).bind fun q3 =>
  if q3.1 = 0 then ((F_X8_goesThrough v0 q3.2).bind fun q4 =>
  (s_fr q4.2 v0 8 19).bind fun x5 =>
  (s_al q4.2 x5 v1).bind fun x6 =>
  some (x6, q4.2))
  else (some (0, q3.2))) := by
  unfold R_X8_needs_0
  rw [s_run_eq]
  show s_go _ _ (T_X8_needs_0 v0 v1 σ) = _
  unfold T_X8_needs_0
  simp only [s_go_bind, s_go_ite, s_go_sum, s_go_l, s_go_r, s_go_n]
  try rfl
theorem E_X8_needs {v0 : Nat} {v1 : Int32} {σ : sS} : F_X8_needs v0 v1 σ = ((s_is σ v0 8).bind fun _ => R_X8_needs_0 v0 v1 σ) := rfl
/-! X0_costOfAll -/
noncomputable def R_X0_costOfAll_0 (v0 : Nat) (v1 : Int32) (σ : sS) : Option (Int32 × sS) := s_run (S_X0_costOfAll ) (0, [.ref v0, .int v1], σ)
noncomputable def R_X0_costOfAll_27 (v0 : Nat) (σ : sS) : Option (Int32 × sS) := s_run (S_X0_costOfAll ) (27, [.ref v0], σ)
noncomputable def R_X0_costOfAll_28 (v0 : Nat) (w0 : Int64) (σ : sS) : Option (Int32 × sS) := s_run (S_X0_costOfAll ) (28, [.ref v0, .long w0], σ)
noncomputable def R_X0_costOfAll_35 (v0 : Nat) (v2 : Int64) (v4 : Int32) (v5 : Int32) (σ : sS) : Option (Int32 × sS) := s_run (S_X0_costOfAll ) (35, [.ref v0, .long v2, .int v4, .int v5], σ)
noncomputable def R_X0_costOfAll_69 (v0 : Nat) (v2 : Int64) (v4 : Int32) (v5 : Int32) (σ : sS) : Option (Int32 × sS) := s_run (S_X0_costOfAll ) (69, [.ref v0, .long v2, .int v4, .int v5], σ)
theorem E_X0_costOfAll_0 {v0 : Nat} {v1 : Int32} {σ : sS} : R_X0_costOfAll_0 v0 v1 σ = (if v1 < 0 then (R_X0_costOfAll_27 v0 σ)
  else ((s_fr σ v0 0 5).bind fun x1 =>
  (s_fi σ x1 1 6).bind fun x2 =>
  if x2 ≤ v1 then (R_X0_costOfAll_27 v0 σ)
  else ((s_fr σ v0 0 5).bind fun x3 =>
  (s_fr σ x3 1 8).bind fun x4 =>
  (s_al σ x4 v1).bind fun x5 =>
  R_X0_costOfAll_28 v0 x5 σ))) := by
  unfold R_X0_costOfAll_0
  rw [s_run_eq]
  show s_go _ _ (T_X0_costOfAll_0 v0 v1 σ) = _
  unfold T_X0_costOfAll_0
  simp only [s_go_bind, s_go_ite, s_go_sum, s_go_l, s_go_r, s_go_n]
  try rfl
theorem E_X0_costOfAll_27 {v0 : Nat} {σ : sS} : R_X0_costOfAll_27 v0 σ = (R_X0_costOfAll_28 v0 0 σ) := by
  unfold R_X0_costOfAll_27
  rw [s_run_eq]
  show s_go _ _ (T_X0_costOfAll_27 v0 σ) = _
  unfold T_X0_costOfAll_27
  simp only [s_go_bind, s_go_ite, s_go_sum, s_go_l, s_go_r, s_go_n]
  try rfl
theorem E_X0_costOfAll_28 {v0 : Nat} {w0 : Int64} {σ : sS} : R_X0_costOfAll_28 v0 w0 σ = (R_X0_costOfAll_35 v0 w0 0 0 σ) := by
  unfold R_X0_costOfAll_28
  rw [s_run_eq]
  show s_go _ _ (T_X0_costOfAll_28 v0 w0 σ) = _
  unfold T_X0_costOfAll_28
  simp only [s_go_bind, s_go_ite, s_go_sum, s_go_l, s_go_r, s_go_n]
  try rfl
theorem E_X0_costOfAll_35 {v0 : Nat} {v2 : Int64} {v4 : Int32} {v5 : Int32} {σ : sS} : R_X0_costOfAll_35 v0 v2 v4 v5 σ = ((s_fr σ v0 0 5).bind fun x1 =>
  (s_fi σ x1 1 6).bind fun x2 =>
  if x2 ≤ v5 then (some (v4, σ))
  else (if (lg_cmp (((v2 : Int64).toUInt64 >>> ((v5 : Int32).toInt64.toUInt64 &&& Int64.toUInt64 63)).toInt64 &&& 1) 0) = 0 then (R_X0_costOfAll_69 v0 v2 v4 v5 σ)
  else ((F_X0_costOf v0 v5 σ).bind fun q3 =>
  R_X0_costOfAll_69 v0 v2 (v4 + q3.1) v5 q3.2))) := by
  unfold R_X0_costOfAll_35
  rw [s_run_eq]
  show s_go _ _ (T_X0_costOfAll_35 v0 v2 v4 v5 σ) = _
  unfold T_X0_costOfAll_35
  simp only [s_go_bind, s_go_ite, s_go_sum, s_go_l, s_go_r, s_go_n]
  try rfl
theorem E_X0_costOfAll_69 {v0 : Nat} {v2 : Int64} {v4 : Int32} {v5 : Int32} {σ : sS} : R_X0_costOfAll_69 v0 v2 v4 v5 σ = (R_X0_costOfAll_35 v0 v2 v4 (v5 + 1) σ) := by
  unfold R_X0_costOfAll_69
  rw [s_run_eq]
  show s_go _ _ (T_X0_costOfAll_69 v0 v2 v4 v5 σ) = _
  unfold T_X0_costOfAll_69
  simp only [s_go_bind, s_go_ite, s_go_sum, s_go_l, s_go_r, s_go_n]
  try rfl
theorem E_X0_costOfAll {v0 : Nat} {v1 : Int32} {σ : sS} : F_X0_costOfAll v0 v1 σ = ((s_is σ v0 0).bind fun _ => R_X0_costOfAll_0 v0 v1 σ) := rfl
/-! X7_spent -/
noncomputable def R_X7_spent_0 (v0 : Nat) (v1 : Int32) (σ : sS) : Option ((Int32 ⊕ String) × sS) := s_run (S_X7_spent ) (0, [.ref v0, .int v1], σ)
theorem E_X7_spent_0 {v0 : Nat} {v1 : Int32} {σ : sS} : R_X7_spent_0 v0 v1 σ = ((F_X7_needLine v0 v1 σ).bind fun q1 => s_sum q1.1 (fun x2 => (s_fr q1.2 v0 7 5).bind fun x4 =>
  (F_X0_costOfAll x4 v1 q1.2).bind fun q5 =>
  some (.inl q5.1, q5.2)) (fun E3 => some (.inr E3, q1.2))) := by
  unfold R_X7_spent_0
  rw [s_run_eq]
  show s_go _ _ (T_X7_spent_0 v0 v1 σ) = _
  unfold T_X7_spent_0
  simp only [s_go_bind, s_go_ite, s_go_sum, s_go_l, s_go_r, s_go_n]
  try rfl
theorem E_X7_spent {v0 : Nat} {v1 : Int32} {σ : sS} : F_X7_spent v0 v1 σ = ((s_is σ v0 7).bind fun _ => R_X7_spent_0 v0 v1 σ) := rfl
/-! L_spent -/
noncomputable def R_L_spent_0 (v0 : Nat) (v1 : Int32) (v2 : Nat) (σ : sS) : Option (Int32 × sS) := s_run (S_L_spent ) (0, [.ref v0, .int v1, .ref v2], σ)
theorem E_L_spent_0 {v0 : Nat} {v1 : Int32} {v2 : Nat} {σ : sS} : R_L_spent_0 v0 v1 v2 σ = ((F_X7_spent v0 v1 σ).bind fun q1 => s_sum q1.1 (fun x2 => (s_sl q1.2 v2 0 ((x2 : Int32).toInt64)).bind fun σ4 =>
  some (0, σ4)) (fun E3 => if E3 = "java/lang/IndexOutOfBoundsException" then (some (1, q1.2)) else none)) := by
  unfold R_L_spent_0
  rw [s_run_eq]
  show s_go _ _ (T_L_spent_0 v0 v1 v2 σ) = _
  unfold T_L_spent_0
  simp only [s_go_bind, s_go_ite, s_go_sum, s_go_l, s_go_r, s_go_n]
  try rfl
theorem E_L_spent {v0 : Nat} {v1 : Int32} {v2 : Nat} {σ : sS} : F_L_spent v0 v1 v2 σ = (R_L_spent_0 v0 v1 v2 σ) := rfl
/-! X8_spentBy -/
noncomputable def R_X8_spentBy_0 (v0 : Nat) (v1 : Int32) (σ : sS) : Option (Int32 × sS) := s_run (S_X8_spentBy ) (0, [.ref v0, .int v1], σ)
noncomputable def R_X8_spentBy_4 (v0 : Nat) (v1 : Int32) (v2 : Int32) (v3 : Int32) (σ : sS) : Option (Int32 × sS) := s_run (S_X8_spentBy ) (4, [.ref v0, .int v1, .int v2, .int v3], σ)
noncomputable def R_X8_spentBy_37 (v0 : Nat) (v1 : Int32) (v3 : Int32) (w0 : Int32) (w1 : Int32) (σ : sS) : Option (Int32 × sS) := s_run (S_X8_spentBy ) (37, [.ref v0, .int v1, .int v3, .int w0, .int w1], σ)
theorem E_X8_spentBy_0 {v0 : Nat} {v1 : Int32} {σ : sS} : R_X8_spentBy_0 v0 v1 σ = (R_X8_spentBy_4 v0 v1 0 0 σ) := by
  unfold R_X8_spentBy_0
  rw [s_run_eq]
  show s_go _ _ (T_X8_spentBy_0 v0 v1 σ) = _
  unfold T_X8_spentBy_0
  simp only [s_go_bind, s_go_ite, s_go_sum, s_go_l, s_go_r, s_go_n]
  try rfl
theorem E_X8_spentBy_4 {v0 : Nat} {v1 : Int32} {v2 : Int32} {v3 : Int32} {σ : sS} : R_X8_spentBy_4 v0 v1 v2 v3 σ = ((F_X8_lines v0 σ).bind fun q1 =>
  if q1.1 ≤ v3 then (some (v2, q1.2))
  else ((s_fr q1.2 v0 8 19).bind fun x2 =>
  (s_al q1.2 x2 v1).bind fun x3 =>
  if (lg_cmp ((x3 >>> ((v3 : Int32).toInt64 &&& 63)) &&& 1) 1) = 0 then ((F_X8_priceOf v0 v3 q1.2).bind fun q4 =>
  R_X8_spentBy_37 v0 v1 v3 q4.1 v2 q4.2)
  else (R_X8_spentBy_37 v0 v1 v3 0 v2 q1.2))) := by
  unfold R_X8_spentBy_4
  rw [s_run_eq]
  show s_go _ _ (T_X8_spentBy_4 v0 v1 v2 v3 σ) = _
  unfold T_X8_spentBy_4
  simp only [s_go_bind, s_go_ite, s_go_sum, s_go_l, s_go_r, s_go_n]
  try rfl
theorem E_X8_spentBy_37 {v0 : Nat} {v1 : Int32} {v3 : Int32} {w0 : Int32} {w1 : Int32} {σ : sS} : R_X8_spentBy_37 v0 v1 v3 w0 w1 σ = (R_X8_spentBy_4 v0 v1 (w1 + w0) (v3 + 1) σ) := by
  unfold R_X8_spentBy_37
  rw [s_run_eq]
  show s_go _ _ (T_X8_spentBy_37 v0 v1 v3 w0 w1 σ) = _
  unfold T_X8_spentBy_37
  simp only [s_go_bind, s_go_ite, s_go_sum, s_go_l, s_go_r, s_go_n]
  try rfl
theorem E_X8_spentBy {v0 : Nat} {v1 : Int32} {σ : sS} : F_X8_spentBy v0 v1 σ = ((s_is σ v0 8).bind fun _ => R_X8_spentBy_0 v0 v1 σ) := rfl
/-! X8_spent -/
noncomputable def R_X8_spent_0 (v0 : Nat) (v1 : Int32) (σ : sS) : Option (Int32 × sS) := s_run (S_X8_spent ) (0, [.ref v0, .int v1], σ)
theorem E_X8_spent_0 {v0 : Nat} {v1 : Int32} {σ : sS} : R_X8_spent_0 v0 v1 σ = ((s_pf σ v0 8 0 (.int 0)).bind fun σ1 =>
  (F_X8_noLine v0 v1 σ1).bind fun q2 =>
  (F_X8_throwsIf v0 q2.1 1 q2.2).bind fun q3 =>
  if q3.1 = 0 then ((F_X8_goesThrough v0 q3.2).bind fun q4 =>
  (F_X8_spentBy v0 v1 q4.2).bind fun q5 =>
  some (q5.1, q5.2))
  else (some (0, q3.2))) := by
  unfold R_X8_spent_0
  rw [s_run_eq]
  show s_go _ _ (T_X8_spent_0 v0 v1 σ) = _
  unfold T_X8_spent_0
  simp only [s_go_bind, s_go_ite, s_go_sum, s_go_l, s_go_r, s_go_n]
  try rfl
theorem E_X8_spent {v0 : Nat} {v1 : Int32} {σ : sS} : F_X8_spent v0 v1 σ = ((s_is σ v0 8).bind fun _ => R_X8_spent_0 v0 v1 σ) := rfl
/-! X8_falls -/
noncomputable def R_X8_falls_0 (v0 : Nat) (v1 : Int32) (v2 : Int32) (σ : sS) : Option (Int64 × sS) := s_run (S_X8_falls ) (0, [.ref v0, .int v1, .int v2], σ)
noncomputable def R_X8_falls_21 (v0 : Nat) (v1 : Int32) (v2 : Int32) (w0 : Nat) (σ : sS) : Option (Int64 × sS) := s_run (S_X8_falls ) (21, [.ref v0, .int v1, .int v2, .ref w0], σ)
noncomputable def R_X8_falls_26 (v0 : Nat) (v1 : Int32) (v2 : Int32) (w0 : Int32) (w1 : Nat) (σ : sS) : Option (Int64 × sS) := s_run (S_X8_falls ) (26, [.ref v0, .int v1, .int v2, .int w0, .ref w1], σ)
noncomputable def R_X8_falls_44 (v0 : Nat) (v1 : Int32) (v2 : Int32) (v3 : Int64) (v5 : Int32) (σ : sS) : Option (Int64 × sS) := s_run (S_X8_falls ) (44, [.ref v0, .int v1, .int v2, .long v3, .int v5], σ)
noncomputable def R_X8_falls_71 (v0 : Nat) (v1 : Int32) (v2 : Int32) (v5 : Int32) (w0 : Int64) (w1 : Int64) (σ : sS) : Option (Int64 × sS) := s_run (S_X8_falls ) (71, [.ref v0, .int v1, .int v2, .int v5, .long w0, .long w1], σ)
noncomputable def R_X8_falls_109 (v0 : Nat) (v1 : Int32) (v3 : Int64) (v5 : Int32) (v6 : Int64) (v8 : Int32) (σ : sS) : Option (Int64 × sS) := s_run (S_X8_falls ) (109, [.ref v0, .int v1, .long v3, .int v5, .long v6, .int v8], σ)
noncomputable def R_X8_falls_137 (v0 : Nat) (v1 : Int32) (v3 : Int64) (v5 : Int32) (v8 : Int32) (w0 : Int64) (w1 : Int64) (σ : sS) : Option (Int64 × sS) := s_run (S_X8_falls ) (137, [.ref v0, .int v1, .long v3, .int v5, .int v8, .long w0, .long w1], σ)
theorem E_X8_falls_0 {v0 : Nat} {v1 : Int32} {v2 : Int32} {σ : sS} : R_X8_falls_0 v0 v1 v2 σ = ((s_pf σ v0 8 0 (.int 0)).bind fun σ1 =>
  (F_X8_noCustomer v1 σ1).bind fun q2 =>
  if q2.1 = 0 then ((F_X8_noFormula v0 v2 q2.2).bind fun q3 =>
  if q3.1 = 0 then (R_X8_falls_26 v0 v1 v2 0 v0 q3.2)
  else (R_X8_falls_21 v0 v1 v2 v0 q3.2))
  else (R_X8_falls_21 v0 v1 v2 v0 q2.2)) := by
  unfold R_X8_falls_0
  rw [s_run_eq]
  show s_go _ _ (T_X8_falls_0 v0 v1 v2 σ) = _
  unfold T_X8_falls_0
  simp only [s_go_bind, s_go_ite, s_go_sum, s_go_l, s_go_r, s_go_n]
  try rfl
theorem E_X8_falls_21 {v0 : Nat} {v1 : Int32} {v2 : Int32} {w0 : Nat} {σ : sS} : R_X8_falls_21 v0 v1 v2 w0 σ = (R_X8_falls_26 v0 v1 v2 1 w0 σ) := by
  unfold R_X8_falls_21
  rw [s_run_eq]
  show s_go _ _ (T_X8_falls_21 v0 v1 v2 w0 σ) = _
  unfold T_X8_falls_21
  simp only [s_go_bind, s_go_ite, s_go_sum, s_go_l, s_go_r, s_go_n]
  try rfl
theorem E_X8_falls_26 {v0 : Nat} {v1 : Int32} {v2 : Int32} {w0 : Int32} {w1 : Nat} {σ : sS} : R_X8_falls_26 v0 v1 v2 w0 w1 σ = ((F_X8_throwsIf w1 w0 1 σ).bind fun q1 =>
  if q1.1 = 0 then ((F_X8_goesThrough v0 q1.2).bind fun q2 =>
  R_X8_falls_44 v0 v1 v2 0 0 q2.2)
  else (some (0, q1.2))) := by
  unfold R_X8_falls_26
  rw [s_run_eq]
  show s_go _ _ (T_X8_falls_26 v0 v1 v2 w0 w1 σ) = _
  unfold T_X8_falls_26
  simp only [s_go_bind, s_go_ite, s_go_sum, s_go_l, s_go_r, s_go_n]
  try rfl
theorem E_X8_falls_44 {v0 : Nat} {v1 : Int32} {v2 : Int32} {v3 : Int64} {v5 : Int32} {σ : sS} : R_X8_falls_44 v0 v1 v2 v3 v5 σ = ((F_X8_lines v0 σ).bind fun q1 =>
  if q1.1 ≤ v5 then ((F_X8_beliefsOf v0 v1 q1.2).bind fun q2 =>
  (s_fr q2.2 v0 8 1).bind fun x3 =>
  (s_si q2.2 x3 (58 + v1) (q2.1 &&& ((1 <<< (v2 &&& 31)) ^^^ (-1)))).bind fun σ4 =>
  R_X8_falls_109 v0 v1 v3 q2.1 0 0 σ4)
  else ((F_X8_isStale v0 v5 q1.2).bind fun q5 =>
  if q5.1 = 0 then (R_X8_falls_71 v0 v1 v2 v5 0 v3 q5.2)
  else (R_X8_falls_71 v0 v1 v2 v5 (1 <<< ((v5 : Int32).toInt64 &&& 63)) v3 q5.2))) := by
  unfold R_X8_falls_44
  rw [s_run_eq]
  show s_go _ _ (T_X8_falls_44 v0 v1 v2 v3 v5 σ) = _
  unfold T_X8_falls_44
  simp only [s_go_bind, s_go_ite, s_go_sum, s_go_l, s_go_r, s_go_n]
  try rfl
theorem E_X8_falls_71 {v0 : Nat} {v1 : Int32} {v2 : Int32} {v5 : Int32} {w0 : Int64} {w1 : Int64} {σ : sS} : R_X8_falls_71 v0 v1 v2 v5 w0 w1 σ = (R_X8_falls_44 v0 v1 v2 (w1 ||| w0) (v5 + 1) σ) := by
  unfold R_X8_falls_71
  rw [s_run_eq]
  show s_go _ _ (T_X8_falls_71 v0 v1 v2 v5 w0 w1 σ) = _
  unfold T_X8_falls_71
  simp only [s_go_bind, s_go_ite, s_go_sum, s_go_l, s_go_r, s_go_n]
  try rfl
theorem E_X8_falls_109 {v0 : Nat} {v1 : Int32} {v3 : Int64} {v5 : Int32} {v6 : Int64} {v8 : Int32} {σ : sS} : R_X8_falls_109 v0 v1 v3 v5 v6 v8 σ = ((F_X8_lines v0 σ).bind fun q1 =>
  if q1.1 ≤ v8 then ((s_fr q1.2 v0 8 1).bind fun x2 =>
  (s_si q1.2 x2 (58 + v1) v5).bind fun σ3 =>
  some ((v6 &&& (v3 ^^^ (-1))), σ3))
  else ((F_X8_isStale v0 v8 q1.2).bind fun q4 =>
  if q4.1 = 0 then (R_X8_falls_137 v0 v1 v3 v5 v8 0 v6 q4.2)
  else (R_X8_falls_137 v0 v1 v3 v5 v8 (1 <<< ((v8 : Int32).toInt64 &&& 63)) v6 q4.2))) := by
  unfold R_X8_falls_109
  rw [s_run_eq]
  show s_go _ _ (T_X8_falls_109 v0 v1 v3 v5 v6 v8 σ) = _
  unfold T_X8_falls_109
  simp only [s_go_bind, s_go_ite, s_go_sum, s_go_l, s_go_r, s_go_n]
  try rfl
theorem E_X8_falls_137 {v0 : Nat} {v1 : Int32} {v3 : Int64} {v5 : Int32} {v8 : Int32} {w0 : Int64} {w1 : Int64} {σ : sS} : R_X8_falls_137 v0 v1 v3 v5 v8 w0 w1 σ = (R_X8_falls_109 v0 v1 v3 v5 (w1 ||| w0) (v8 + 1) σ) := by
  unfold R_X8_falls_137
  rw [s_run_eq]
  show s_go _ _ (T_X8_falls_137 v0 v1 v3 v5 v8 w0 w1 σ) = _
  unfold T_X8_falls_137
  simp only [s_go_bind, s_go_ite, s_go_sum, s_go_l, s_go_r, s_go_n]
  try rfl
theorem E_X8_falls {v0 : Nat} {v1 : Int32} {v2 : Int32} {σ : sS} : F_X8_falls v0 v1 v2 σ = ((s_is σ v0 8).bind fun _ => R_X8_falls_0 v0 v1 v2 σ) := rfl
/-! X8_holdAll -/
noncomputable def R_X8_holdAll_0 (v0 : Nat) (v1 : Int32) (v2 : Int32) (σ : sS) : Option (Int32 × sS) := s_run (S_X8_holdAll ) (0, [.ref v0, .int v1, .int v2], σ)
noncomputable def R_X8_holdAll_5 (v0 : Nat) (v1 : Int32) (v2 : Int32) (v3 : Int32) (v4 : Int32) (σ : sS) : Option (Int32 × sS) := s_run (S_X8_holdAll ) (5, [.ref v0, .int v1, .int v2, .int v3, .int v4], σ)
noncomputable def R_X8_holdAll_37 (v0 : Nat) (v1 : Int32) (v2 : Int32) (v4 : Int32) (σ : sS) : Option (Int32 × sS) := s_run (S_X8_holdAll ) (37, [.ref v0, .int v1, .int v2, .int v4], σ)
noncomputable def R_X8_holdAll_42 (v0 : Nat) (v1 : Int32) (v2 : Int32) (v4 : Int32) (w0 : Int32) (σ : sS) : Option (Int32 × sS) := s_run (S_X8_holdAll ) (42, [.ref v0, .int v1, .int v2, .int v4, .int w0], σ)
theorem E_X8_holdAll_0 {v0 : Nat} {v1 : Int32} {v2 : Int32} {σ : sS} : R_X8_holdAll_0 v0 v1 v2 σ = (R_X8_holdAll_5 v0 v1 v2 1 0 σ) := by
  unfold R_X8_holdAll_0
  rw [s_run_eq]
  show s_go _ _ (T_X8_holdAll_0 v0 v1 v2 σ) = _
  unfold T_X8_holdAll_0
  simp only [s_go_bind, s_go_ite, s_go_sum, s_go_l, s_go_r, s_go_n]
  try rfl
theorem E_X8_holdAll_5 {v0 : Nat} {v1 : Int32} {v2 : Int32} {v3 : Int32} {v4 : Int32} {σ : sS} : R_X8_holdAll_5 v0 v1 v2 v3 v4 σ = ((F_X8_formulas v0 σ).bind fun q1 =>
  if q1.1 ≤ v4 then (if (v3 = 0 ∨ v3 = 1) then (some (v3, q1.2)) else none)
  else (if v3 = 0 then (if (v3 = 0 ∨ v3 = 1) then (some (v3, q1.2)) else none)
  else (if ((v1 >>> (v4 &&& 31)) &&& 1) = 0 then (R_X8_holdAll_37 v0 v1 v2 v4 q1.2)
  else ((F_X8_isTrue v0 v4 v2 q1.2).bind fun q2 =>
  if q2.1 = 0 then (R_X8_holdAll_42 v0 v1 v2 v4 0 q2.2)
  else (R_X8_holdAll_37 v0 v1 v2 v4 q2.2))))) := by
  unfold R_X8_holdAll_5
  rw [s_run_eq]
  show s_go _ _ (T_X8_holdAll_5 v0 v1 v2 v3 v4 σ) = _
  unfold T_X8_holdAll_5
  simp only [s_go_bind, s_go_ite, s_go_sum, s_go_l, s_go_r, s_go_n]
  try rfl
theorem E_X8_holdAll_37 {v0 : Nat} {v1 : Int32} {v2 : Int32} {v4 : Int32} {σ : sS} : R_X8_holdAll_37 v0 v1 v2 v4 σ = (R_X8_holdAll_42 v0 v1 v2 v4 1 σ) := by
  unfold R_X8_holdAll_37
  rw [s_run_eq]
  show s_go _ _ (T_X8_holdAll_37 v0 v1 v2 v4 σ) = _
  unfold T_X8_holdAll_37
  simp only [s_go_bind, s_go_ite, s_go_sum, s_go_l, s_go_r, s_go_n]
  try rfl
theorem E_X8_holdAll_42 {v0 : Nat} {v1 : Int32} {v2 : Int32} {v4 : Int32} {w0 : Int32} {σ : sS} : R_X8_holdAll_42 v0 v1 v2 v4 w0 σ = (R_X8_holdAll_5 v0 v1 v2 w0 (v4 + 1) σ) := by
  unfold R_X8_holdAll_42
  rw [s_run_eq]
  show s_go _ _ (T_X8_holdAll_42 v0 v1 v2 v4 w0 σ) = _
  unfold T_X8_holdAll_42
  simp only [s_go_bind, s_go_ite, s_go_sum, s_go_l, s_go_r, s_go_n]
  try rfl
theorem E_X8_holdAll {v0 : Nat} {v1 : Int32} {v2 : Int32} {σ : sS} : F_X8_holdAll v0 v1 v2 σ = ((s_is σ v0 8).bind fun _ => R_X8_holdAll_0 v0 v1 v2 σ) := rfl
/-! X8_leastWorld -/
noncomputable def R_X8_leastWorld_0 (v0 : Nat) (v1 : Int32) (v2 : Int32) (σ : sS) : Option (Int32 × sS) := s_run (S_X8_leastWorld ) (0, [.ref v0, .int v1, .int v2], σ)
noncomputable def R_X8_leastWorld_2 (v0 : Nat) (v1 : Int32) (v2 : Int32) (v3 : Int32) (σ : sS) : Option (Int32 × sS) := s_run (S_X8_leastWorld ) (2, [.ref v0, .int v1, .int v2, .int v3], σ)
noncomputable def R_X8_leastWorld_34 (v0 : Nat) (v1 : Int32) (v2 : Int32) (v3 : Int32) (σ : sS) : Option (Int32 × sS) := s_run (S_X8_leastWorld ) (34, [.ref v0, .int v1, .int v2, .int v3], σ)
theorem E_X8_leastWorld_0 {v0 : Nat} {v1 : Int32} {v2 : Int32} {σ : sS} : R_X8_leastWorld_0 v0 v1 v2 σ = (R_X8_leastWorld_2 v0 v1 v2 0 σ) := by
  unfold R_X8_leastWorld_0
  rw [s_run_eq]
  show s_go _ _ (T_X8_leastWorld_0 v0 v1 v2 σ) = _
  unfold T_X8_leastWorld_0
  simp only [s_go_bind, s_go_ite, s_go_sum, s_go_l, s_go_r, s_go_n]
  try rfl
theorem E_X8_leastWorld_2 {v0 : Nat} {v1 : Int32} {v2 : Int32} {v3 : Int32} {σ : sS} : R_X8_leastWorld_2 v0 v1 v2 v3 σ = ((F_X8_worldsMany v0 σ).bind fun q1 =>
  if q1.1 ≤ v3 then (some ((-1), q1.2))
  else ((F_X8_holdAll v0 v1 v3 q1.2).bind fun q2 =>
  if q2.1 = 0 then (R_X8_leastWorld_34 v0 v1 v2 v3 q2.2)
  else (if v2 < 0 then (some (v3, q2.2))
  else ((F_X8_isTrue v0 v2 v3 q2.2).bind fun q3 =>
  if q3.1 = 0 then (some (v3, q3.2))
  else (R_X8_leastWorld_34 v0 v1 v2 v3 q3.2))))) := by
  unfold R_X8_leastWorld_2
  rw [s_run_eq]
  show s_go _ _ (T_X8_leastWorld_2 v0 v1 v2 v3 σ) = _
  unfold T_X8_leastWorld_2
  simp only [s_go_bind, s_go_ite, s_go_sum, s_go_l, s_go_r, s_go_n]
  try rfl
theorem E_X8_leastWorld_34 {v0 : Nat} {v1 : Int32} {v2 : Int32} {v3 : Int32} {σ : sS} : R_X8_leastWorld_34 v0 v1 v2 v3 σ = (R_X8_leastWorld_2 v0 v1 v2 (v3 + 1) σ) := by
  unfold R_X8_leastWorld_34
  rw [s_run_eq]
  show s_go _ _ (T_X8_leastWorld_34 v0 v1 v2 v3 σ) = _
  unfold T_X8_leastWorld_34
  simp only [s_go_bind, s_go_ite, s_go_sum, s_go_l, s_go_r, s_go_n]
  try rfl
theorem E_X8_leastWorld {v0 : Nat} {v1 : Int32} {v2 : Int32} {σ : sS} : F_X8_leastWorld v0 v1 v2 σ = ((s_is σ v0 8).bind fun _ => R_X8_leastWorld_0 v0 v1 v2 σ) := rfl
/-! X8_follows -/
noncomputable def R_X8_follows_0 (v0 : Nat) (v1 : Int32) (v2 : Int32) (σ : sS) : Option (Int32 × sS) := s_run (S_X8_follows ) (0, [.ref v0, .int v1, .int v2], σ)
noncomputable def R_X8_follows_21 (v0 : Nat) (v1 : Int32) (v2 : Int32) (w0 : Nat) (σ : sS) : Option (Int32 × sS) := s_run (S_X8_follows ) (21, [.ref v0, .int v1, .int v2, .ref w0], σ)
noncomputable def R_X8_follows_26 (v0 : Nat) (v1 : Int32) (v2 : Int32) (w0 : Int32) (w1 : Nat) (σ : sS) : Option (Int32 × sS) := s_run (S_X8_follows ) (26, [.ref v0, .int v1, .int v2, .int w0, .ref w1], σ)
theorem E_X8_follows_0 {v0 : Nat} {v1 : Int32} {v2 : Int32} {σ : sS} : R_X8_follows_0 v0 v1 v2 σ = ((s_pf σ v0 8 0 (.int 0)).bind fun σ1 =>
  (F_X8_noCustomer v1 σ1).bind fun q2 =>
  if q2.1 = 0 then ((F_X8_noFormula v0 v2 q2.2).bind fun q3 =>
  if q3.1 = 0 then (R_X8_follows_26 v0 v1 v2 0 v0 q3.2)
  else (R_X8_follows_21 v0 v1 v2 v0 q3.2))
  else (R_X8_follows_21 v0 v1 v2 v0 q2.2)) := by
  unfold R_X8_follows_0
  rw [s_run_eq]
  show s_go _ _ (T_X8_follows_0 v0 v1 v2 σ) = _
  unfold T_X8_follows_0
  simp only [s_go_bind, s_go_ite, s_go_sum, s_go_l, s_go_r, s_go_n]
  try rfl
theorem E_X8_follows_21 {v0 : Nat} {v1 : Int32} {v2 : Int32} {w0 : Nat} {σ : sS} : R_X8_follows_21 v0 v1 v2 w0 σ = (R_X8_follows_26 v0 v1 v2 1 w0 σ) := by
  unfold R_X8_follows_21
  rw [s_run_eq]
  show s_go _ _ (T_X8_follows_21 v0 v1 v2 w0 σ) = _
  unfold T_X8_follows_21
  simp only [s_go_bind, s_go_ite, s_go_sum, s_go_l, s_go_r, s_go_n]
  try rfl
theorem E_X8_follows_26 {v0 : Nat} {v1 : Int32} {v2 : Int32} {w0 : Int32} {w1 : Nat} {σ : sS} : R_X8_follows_26 v0 v1 v2 w0 w1 σ = ((F_X8_throwsIf w1 w0 1 σ).bind fun q1 =>
  if q1.1 = 0 then ((F_X8_beliefsOf v0 v1 q1.2).bind fun q2 =>
  (F_X8_leastWorld v0 q2.1 v2 q2.2).bind fun q3 =>
  if (0 : Int32) ≤ q3.1 then (some (0, q3.2))
  else (some (1, q3.2)))
  else (some (0, q1.2))) := by
  unfold R_X8_follows_26
  rw [s_run_eq]
  show s_go _ _ (T_X8_follows_26 v0 v1 v2 w0 w1 σ) = _
  unfold T_X8_follows_26
  simp only [s_go_bind, s_go_ite, s_go_sum, s_go_l, s_go_r, s_go_n]
  try rfl
theorem E_X8_follows {v0 : Nat} {v1 : Int32} {v2 : Int32} {σ : sS} : F_X8_follows v0 v1 v2 σ = ((s_is σ v0 8).bind fun _ => R_X8_follows_0 v0 v1 v2 σ) := rfl
/-! X8_counter -/
noncomputable def R_X8_counter_0 (v0 : Nat) (v1 : Int32) (v2 : Int32) (σ : sS) : Option (Int32 × sS) := s_run (S_X8_counter ) (0, [.ref v0, .int v1, .int v2], σ)
noncomputable def R_X8_counter_21 (v0 : Nat) (v1 : Int32) (v2 : Int32) (w0 : Nat) (σ : sS) : Option (Int32 × sS) := s_run (S_X8_counter ) (21, [.ref v0, .int v1, .int v2, .ref w0], σ)
noncomputable def R_X8_counter_26 (v0 : Nat) (v1 : Int32) (v2 : Int32) (w0 : Int32) (w1 : Nat) (σ : sS) : Option (Int32 × sS) := s_run (S_X8_counter ) (26, [.ref v0, .int v1, .int v2, .int w0, .ref w1], σ)
theorem E_X8_counter_0 {v0 : Nat} {v1 : Int32} {v2 : Int32} {σ : sS} : R_X8_counter_0 v0 v1 v2 σ = ((s_pf σ v0 8 0 (.int 0)).bind fun σ1 =>
  (F_X8_noCustomer v1 σ1).bind fun q2 =>
  if q2.1 = 0 then ((F_X8_noFormula v0 v2 q2.2).bind fun q3 =>
  if q3.1 = 0 then (R_X8_counter_26 v0 v1 v2 0 v0 q3.2)
  else (R_X8_counter_21 v0 v1 v2 v0 q3.2))
  else (R_X8_counter_21 v0 v1 v2 v0 q2.2)) := by
  unfold R_X8_counter_0
  rw [s_run_eq]
  show s_go _ _ (T_X8_counter_0 v0 v1 v2 σ) = _
  unfold T_X8_counter_0
  simp only [s_go_bind, s_go_ite, s_go_sum, s_go_l, s_go_r, s_go_n]
  try rfl
theorem E_X8_counter_21 {v0 : Nat} {v1 : Int32} {v2 : Int32} {w0 : Nat} {σ : sS} : R_X8_counter_21 v0 v1 v2 w0 σ = (R_X8_counter_26 v0 v1 v2 1 w0 σ) := by
  unfold R_X8_counter_21
  rw [s_run_eq]
  show s_go _ _ (T_X8_counter_21 v0 v1 v2 w0 σ) = _
  unfold T_X8_counter_21
  simp only [s_go_bind, s_go_ite, s_go_sum, s_go_l, s_go_r, s_go_n]
  try rfl
theorem E_X8_counter_26 {v0 : Nat} {v1 : Int32} {v2 : Int32} {w0 : Int32} {w1 : Nat} {σ : sS} : R_X8_counter_26 v0 v1 v2 w0 w1 σ = ((F_X8_throwsIf w1 w0 1 σ).bind fun q1 =>
  if q1.1 = 0 then ((F_X8_beliefsOf v0 v1 q1.2).bind fun q2 =>
  (F_X8_leastWorld v0 q2.1 v2 q2.2).bind fun q3 =>
  some (q3.1, q3.2))
  else (some (0, q1.2))) := by
  unfold R_X8_counter_26
  rw [s_run_eq]
  show s_go _ _ (T_X8_counter_26 v0 v1 v2 w0 w1 σ) = _
  unfold T_X8_counter_26
  simp only [s_go_bind, s_go_ite, s_go_sum, s_go_l, s_go_r, s_go_n]
  try rfl
theorem E_X8_counter {v0 : Nat} {v1 : Int32} {v2 : Int32} {σ : sS} : F_X8_counter v0 v1 v2 σ = ((s_is σ v0 8).bind fun _ => R_X8_counter_0 v0 v1 v2 σ) := rfl
/-! X8_noProof -/
noncomputable def R_X8_noProof_0 (v0 : Nat) (v1 : Int32) (v2 : Int32) (v3 : Int32) (σ : sS) : Option (Int32 × sS) := s_run (S_X8_noProof ) (0, [.ref v0, .int v1, .int v2, .int v3], σ)
theorem E_X8_noProof_0 {v0 : Nat} {v1 : Int32} {v2 : Int32} {v3 : Int32} {σ : sS} : R_X8_noProof_0 v0 v1 v2 v3 σ = ((F_X8_noHouse v1 σ).bind fun q1 =>
  if q1.1 = 0 then ((F_X8_noCustomer v2 q1.2).bind fun q2 =>
  if q2.1 = 0 then ((F_X8_noFormula v0 v3 q2.2).bind fun q3 =>
  if q3.1 = 0 then (some (0, q3.2))
  else (some (1, q3.2)))
  else (some (1, q2.2)))
  else (some (1, q1.2))) := by
  unfold R_X8_noProof_0
  rw [s_run_eq]
  show s_go _ _ (T_X8_noProof_0 v0 v1 v2 v3 σ) = _
  unfold T_X8_noProof_0
  simp only [s_go_bind, s_go_ite, s_go_sum, s_go_l, s_go_r, s_go_n]
  try rfl
theorem E_X8_noProof {v0 : Nat} {v1 : Int32} {v2 : Int32} {v3 : Int32} {σ : sS} : F_X8_noProof v0 v1 v2 v3 σ = ((s_is σ v0 8).bind fun _ => R_X8_noProof_0 v0 v1 v2 v3 σ) := rfl
/-! X8_adds -/
noncomputable def R_X8_adds_0 (v0 : Nat) (v1 : Int32) (v2 : Int32) (v3 : Int32) (v4 : Int32) (σ : sS) : Option (Unit × sS) := s_run (S_X8_adds ) (0, [.ref v0, .int v1, .int v2, .int v3, .int v4], σ)
theorem E_X8_adds_0 {v0 : Nat} {v1 : Int32} {v2 : Int32} {v3 : Int32} {v4 : Int32} {σ : sS} : R_X8_adds_0 v0 v1 v2 v3 v4 σ = ((s_fi σ v0 8 38).bind fun x1 =>
  (s_fr σ v0 8 37).bind fun x2 =>
  (s_si σ x2 (4 * x1) v1).bind fun σ3 =>
  (s_fr σ3 v0 8 37).bind fun x4 =>
  (s_si σ3 x4 ((4 * x1) + 1) v2).bind fun σ5 =>
  (s_fr σ5 v0 8 37).bind fun x6 =>
  (s_si σ5 x6 ((4 * x1) + 2) v3).bind fun σ7 =>
  (s_fr σ7 v0 8 37).bind fun x8 =>
  (s_si σ7 x8 ((4 * x1) + 3) v4).bind fun σ9 =>
  (s_fi σ9 v0 8 38).bind fun x10 =>
  (s_pf σ9 v0 8 38 (.int (x10 + 1))).bind fun σ11 =>
  some ((), σ11)) := by
  unfold R_X8_adds_0
  rw [s_run_eq]
  show s_go _ _ (T_X8_adds_0 v0 v1 v2 v3 v4 σ) = _
  unfold T_X8_adds_0
  simp only [s_go_bind, s_go_ite, s_go_sum, s_go_l, s_go_r, s_go_n]
  try rfl
theorem E_X8_adds {v0 : Nat} {v1 : Int32} {v2 : Int32} {v3 : Int32} {v4 : Int32} {σ : sS} : F_X8_adds v0 v1 v2 v3 v4 σ = ((s_is σ v0 8).bind fun _ => R_X8_adds_0 v0 v1 v2 v3 v4 σ) := rfl
/-! X8_copies -/
noncomputable def R_X8_copies_0 (v0 : Nat) (v1 : Int32) (v2 : Int32) (v3 : Int32) (v4 : Int32) (v5 : Int32) (σ : sS) : Option (Unit × sS) := s_run (S_X8_copies ) (0, [.ref v0, .int v1, .int v2, .int v3, .int v4, .int v5], σ)
noncomputable def R_X8_copies_13 (v0 : Nat) (v1 : Int32) (v2 : Int32) (v3 : Int32) (v4 : Int32) (v5 : Int32) (v6 : Int32) (σ : sS) : Option (Unit × sS) := s_run (S_X8_copies ) (13, [.ref v0, .int v1, .int v2, .int v3, .int v4, .int v5, .int v6], σ)
theorem E_X8_copies_0 {v0 : Nat} {v1 : Int32} {v2 : Int32} {v3 : Int32} {v4 : Int32} {v5 : Int32} {σ : sS} : R_X8_copies_0 v0 v1 v2 v3 v4 v5 σ = ((s_fr σ v0 8 4).bind fun x1 =>
  (s_si σ x1 v5 (v3 - v2)).bind fun σ2 =>
  R_X8_copies_13 v0 v1 v2 v3 v4 v5 v2 σ2) := by
  unfold R_X8_copies_0
  rw [s_run_eq]
  show s_go _ _ (T_X8_copies_0 v0 v1 v2 v3 v4 v5 σ) = _
  unfold T_X8_copies_0
  simp only [s_go_bind, s_go_ite, s_go_sum, s_go_l, s_go_r, s_go_n]
  try rfl
theorem E_X8_copies_13 {v0 : Nat} {v1 : Int32} {v2 : Int32} {v3 : Int32} {v4 : Int32} {v5 : Int32} {v6 : Int32} {σ : sS} : R_X8_copies_13 v0 v1 v2 v3 v4 v5 v6 σ = (if v3 ≤ v6 then (some ((), σ))
  else ((s_fr σ v0 8 5).bind fun x1 =>
  (F_X8_at v0 v1 v6 σ).bind fun q2 =>
  (F_X8_set q2.1 v4 q2.2).bind fun q3 =>
  (s_si q3.2 x1 (((40 * v5) + v6) - v2) q3.1).bind fun σ4 =>
  R_X8_copies_13 v0 v1 v2 v3 v4 v5 (v6 + 1) σ4)) := by
  unfold R_X8_copies_13
  rw [s_run_eq]
  show s_go _ _ (T_X8_copies_13 v0 v1 v2 v3 v4 v5 v6 σ) = _
  unfold T_X8_copies_13
  simp only [s_go_bind, s_go_ite, s_go_sum, s_go_l, s_go_r, s_go_n]
  try rfl
theorem E_X8_copies {v0 : Nat} {v1 : Int32} {v2 : Int32} {v3 : Int32} {v4 : Int32} {v5 : Int32} {σ : sS} : F_X8_copies v0 v1 v2 v3 v4 v5 σ = ((s_is σ v0 8).bind fun _ => R_X8_copies_0 v0 v1 v2 v3 v4 v5 σ) := rfl
/-! X8_seenAt -/
noncomputable def R_X8_seenAt_0 (v0 : Nat) (v1 : Int32) (σ : sS) : Option (Int32 × sS) := s_run (S_X8_seenAt ) (0, [.ref v0, .int v1], σ)
noncomputable def R_X8_seenAt_2 (v0 : Nat) (v1 : Int32) (v2 : Int32) (σ : sS) : Option (Int32 × sS) := s_run (S_X8_seenAt ) (2, [.ref v0, .int v1, .int v2], σ)
theorem E_X8_seenAt_0 {v0 : Nat} {v1 : Int32} {σ : sS} : R_X8_seenAt_0 v0 v1 σ = (R_X8_seenAt_2 v0 v1 0 σ) := by
  unfold R_X8_seenAt_0
  rw [s_run_eq]
  show s_go _ _ (T_X8_seenAt_0 v0 v1 σ) = _
  unfold T_X8_seenAt_0
  simp only [s_go_bind, s_go_ite, s_go_sum, s_go_l, s_go_r, s_go_n]
  try rfl
theorem E_X8_seenAt_2 {v0 : Nat} {v1 : Int32} {v2 : Int32} {σ : sS} : R_X8_seenAt_2 v0 v1 v2 σ = ((s_fi σ v0 8 33).bind fun x1 =>
  if x1 ≤ v2 then (some ((-1), σ))
  else ((F_X8_isSame v0 (30 + v2) v1 σ).bind fun q2 =>
  if q2.1 = 0 then (R_X8_seenAt_2 v0 v1 (v2 + 1) q2.2)
  else (some (v2, q2.2)))) := by
  unfold R_X8_seenAt_2
  rw [s_run_eq]
  show s_go _ _ (T_X8_seenAt_2 v0 v1 v2 σ) = _
  unfold T_X8_seenAt_2
  simp only [s_go_bind, s_go_ite, s_go_sum, s_go_l, s_go_r, s_go_n]
  try rfl
theorem E_X8_seenAt {v0 : Nat} {v1 : Int32} {σ : sS} : F_X8_seenAt v0 v1 σ = ((s_is σ v0 8).bind fun _ => R_X8_seenAt_0 v0 v1 σ) := rfl
/-! X8_partAt -/
noncomputable def R_X8_partAt_0 (v0 : Nat) (v1 : Int32) (v2 : Int32) (v3 : Int32) (v4 : Int32) (σ : sS) : Option (Int32 × sS) := s_run (S_X8_partAt ) (0, [.ref v0, .int v1, .int v2, .int v3, .int v4], σ)
theorem E_X8_partAt_0 {v0 : Nat} {v1 : Int32} {v2 : Int32} {v3 : Int32} {v4 : Int32} {σ : sS} : R_X8_partAt_0 v0 v1 v2 v3 v4 σ = ((F_X8_copies v0 v1 v2 v3 v4 71 σ).bind fun q1 =>
  (F_X8_seenAt v0 71 q1.2).bind fun q2 =>
  some (q2.1, q2.2)) := by
  unfold R_X8_partAt_0
  rw [s_run_eq]
  show s_go _ _ (T_X8_partAt_0 v0 v1 v2 v3 v4 σ) = _
  unfold T_X8_partAt_0
  simp only [s_go_bind, s_go_ite, s_go_sum, s_go_l, s_go_r, s_go_n]
  try rfl
theorem E_X8_partAt {v0 : Nat} {v1 : Int32} {v2 : Int32} {v3 : Int32} {v4 : Int32} {σ : sS} : F_X8_partAt v0 v1 v2 v3 v4 σ = ((s_is σ v0 8).bind fun _ => R_X8_partAt_0 v0 v1 v2 v3 v4 σ) := rfl
/-! X8_looksAll -/
noncomputable def R_X8_looksAll_0 (v0 : Nat) (v1 : Int32) (v2 : Int32) (σ : sS) : Option (Unit × sS) := s_run (S_X8_looksAll ) (0, [.ref v0, .int v1, .int v2], σ)
noncomputable def R_X8_looksAll_17 (v0 : Nat) (v1 : Int32) (v2 : Int32) (v3 : Int32) (σ : sS) : Option (Unit × sS) := s_run (S_X8_looksAll ) (17, [.ref v0, .int v1, .int v2, .int v3], σ)
noncomputable def R_X8_looksAll_43 (v0 : Nat) (v1 : Int32) (v2 : Int32) (v3 : Int32) (σ : sS) : Option (Unit × sS) := s_run (S_X8_looksAll ) (43, [.ref v0, .int v1, .int v2, .int v3], σ)
noncomputable def R_X8_looksAll_62 (v0 : Nat) (σ : sS) : Option (Unit × sS) := s_run (S_X8_looksAll ) (62, [.ref v0], σ)
noncomputable def R_X8_looksAll_268 (v0 : Nat) (v4 : Int32) (v6 : Int32) (σ : sS) : Option (Unit × sS) := s_run (S_X8_looksAll ) (268, [.ref v0, .int v4, .int v6], σ)
noncomputable def R_X8_looksAll_295 (v0 : Nat) (σ : sS) : Option (Unit × sS) := s_run (S_X8_looksAll ) (295, [.ref v0], σ)
theorem E_X8_looksAll_0 {v0 : Nat} {v1 : Int32} {v2 : Int32} {σ : sS} : R_X8_looksAll_0 v0 v1 v2 σ = ((s_pf σ v0 8 33 (.int 0)).bind fun σ1 =>
  (s_pf σ1 v0 8 38 (.int 0)).bind fun σ2 =>
  (F_X8_formulas v0 σ2).bind fun q3 =>
  R_X8_looksAll_17 v0 v1 v2 (q3.1 - 1) q3.2) := by
  unfold R_X8_looksAll_0
  rw [s_run_eq]
  show s_go _ _ (T_X8_looksAll_0 v0 v1 v2 σ) = _
  unfold T_X8_looksAll_0
  simp only [s_go_bind, s_go_ite, s_go_sum, s_go_l, s_go_r, s_go_n]
  try rfl
theorem E_X8_looksAll_17 {v0 : Nat} {v1 : Int32} {v2 : Int32} {v3 : Int32} {σ : sS} : R_X8_looksAll_17 v0 v1 v2 v3 σ = (if v3 < 0 then ((s_fr σ v0 8 4).bind fun x1 =>
  (s_ai σ x1 v1).bind fun x2 =>
  (F_X8_adds v0 v1 0 x2 (-1) σ).bind fun q3 =>
  R_X8_looksAll_62 v0 q3.2)
  else (if ((v2 >>> (v3 &&& 31)) &&& 1) = 1 then ((s_fr σ v0 8 4).bind fun x4 =>
  (s_ai σ x4 v3).bind fun x5 =>
  (F_X8_adds v0 v3 0 x5 (-1) σ).bind fun q6 =>
  R_X8_looksAll_43 v0 v1 v2 v3 q6.2)
  else (R_X8_looksAll_43 v0 v1 v2 v3 σ))) := by
  unfold R_X8_looksAll_17
  rw [s_run_eq]
  show s_go _ _ (T_X8_looksAll_17 v0 v1 v2 v3 σ) = _
  unfold T_X8_looksAll_17
  simp only [s_go_bind, s_go_ite, s_go_sum, s_go_l, s_go_r, s_go_n]
  try rfl
theorem E_X8_looksAll_43 {v0 : Nat} {v1 : Int32} {v2 : Int32} {v3 : Int32} {σ : sS} : R_X8_looksAll_43 v0 v1 v2 v3 σ = (R_X8_looksAll_17 v0 v1 v2 (v3 + (-1)) σ) := by
  unfold R_X8_looksAll_43
  rw [s_run_eq]
  show s_go _ _ (T_X8_looksAll_43 v0 v1 v2 v3 σ) = _
  unfold T_X8_looksAll_43
  simp only [s_go_bind, s_go_ite, s_go_sum, s_go_l, s_go_r, s_go_n]
  try rfl
theorem E_X8_looksAll_62 {v0 : Nat} {σ : sS} : R_X8_looksAll_62 v0 σ = ((s_fi σ v0 8 38).bind fun x1 =>
  if x1 ≤ 0 then (some ((), σ))
  else ((s_fi σ v0 8 33).bind fun x2 =>
  if (40 : Int32) ≤ x2 then (some ((), σ))
  else ((s_fi σ v0 8 38).bind fun x3 =>
  (s_pf σ v0 8 38 (.int (x3 - 1))).bind fun σ4 =>
  (s_fi σ4 v0 8 38).bind fun x5 =>
  (s_fr σ4 v0 8 37).bind fun x6 =>
  (s_ai σ4 x6 (4 * x5)).bind fun x7 =>
  (s_fr σ4 v0 8 37).bind fun x8 =>
  (s_ai σ4 x8 ((4 * x5) + 1)).bind fun x9 =>
  (s_fr σ4 v0 8 37).bind fun x10 =>
  (s_ai σ4 x10 ((4 * x5) + 2)).bind fun x11 =>
  (s_fr σ4 v0 8 37).bind fun x12 =>
  (s_ai σ4 x12 ((4 * x5) + 3)).bind fun x13 =>
  (F_X8_partAt v0 x7 x9 x11 x13 σ4).bind fun q14 =>
  if q14.1 < 0 then ((s_fi q14.2 v0 8 33).bind fun x15 =>
  (s_fr q14.2 v0 8 4).bind fun x16 =>
  (s_ai q14.2 x16 71).bind fun x17 =>
  (F_X8_copies v0 71 0 x17 (-1) (30 + x15) q14.2).bind fun q18 =>
  (s_fi q18.2 v0 8 33).bind fun x19 =>
  (s_pf q18.2 v0 8 33 (.int (x19 + 1))).bind fun σ20 =>
  (F_X8_at v0 (30 + x15) 0 σ20).bind fun q21 =>
  (F_X8_isJoining q21.1 q21.2).bind fun q22 =>
  if q22.1 = 0 then (if q21.1 = 12 then ((s_fr q22.2 v0 8 4).bind fun x25 =>
  (s_ai q22.2 x25 (30 + x15)).bind fun x26 =>
  (F_X8_adds v0 (30 + x15) 1 x26 (-1) q22.2).bind fun q27 =>
  R_X8_looksAll_295 v0 q27.2)
  else ((F_X8_isLone q21.1 q22.2).bind fun q23 =>
  if q23.1 = 0 then (R_X8_looksAll_295 v0 q23.2)
  else ((F_X8_d v0 q23.2).bind fun q24 =>
  R_X8_looksAll_268 v0 (30 + x15) (q24.1 - 1) q24.2)))
  else ((F_X8_endOf v0 (30 + x15) 1 q22.2).bind fun q28 =>
  (s_fr q28.2 v0 8 4).bind fun x29 =>
  (s_ai q28.2 x29 (30 + x15)).bind fun x30 =>
  (F_X8_adds v0 (30 + x15) q28.1 x30 (-1) q28.2).bind fun q31 =>
  (F_X8_endOf v0 (30 + x15) 1 q31.2).bind fun q32 =>
  (F_X8_adds v0 (30 + x15) 1 q32.1 (-1) q32.2).bind fun q33 =>
  R_X8_looksAll_295 v0 q33.2))
  else (R_X8_looksAll_62 v0 q14.2)))) := by
  unfold R_X8_looksAll_62
  rw [s_run_eq]
  show s_go _ _ (T_X8_looksAll_62 v0 σ) = _
  unfold T_X8_looksAll_62
  simp only [s_go_bind, s_go_ite, s_go_sum, s_go_l, s_go_r, s_go_n]
  try rfl
theorem E_X8_looksAll_268 {v0 : Nat} {v4 : Int32} {v6 : Int32} {σ : sS} : R_X8_looksAll_268 v0 v4 v6 σ = (if v6 < 0 then (R_X8_looksAll_295 v0 σ)
  else ((s_fr σ v0 8 4).bind fun x1 =>
  (s_ai σ x1 v4).bind fun x2 =>
  (F_X8_adds v0 v4 1 x2 v6 σ).bind fun q3 =>
  R_X8_looksAll_268 v0 v4 (v6 + (-1)) q3.2)) := by
  unfold R_X8_looksAll_268
  rw [s_run_eq]
  show s_go _ _ (T_X8_looksAll_268 v0 v4 v6 σ) = _
  unfold T_X8_looksAll_268
  simp only [s_go_bind, s_go_ite, s_go_sum, s_go_l, s_go_r, s_go_n]
  try rfl
theorem E_X8_looksAll_295 {v0 : Nat} {σ : sS} : R_X8_looksAll_295 v0 σ = (R_X8_looksAll_62 v0 σ) := by
  unfold R_X8_looksAll_295
  rw [s_run_eq]
  show s_go _ _ (T_X8_looksAll_295 v0 σ) = _
  unfold T_X8_looksAll_295
  simp only [s_go_bind, s_go_ite, s_go_sum, s_go_l, s_go_r, s_go_n]
  try rfl
theorem E_X8_looksAll {v0 : Nat} {v1 : Int32} {v2 : Int32} {σ : sS} : F_X8_looksAll v0 v1 v2 σ = ((s_is σ v0 8).bind fun _ => R_X8_looksAll_0 v0 v1 v2 σ) := rfl
/-! X8_assumedAt -/
noncomputable def R_X8_assumedAt_0 (v0 : Nat) (v1 : Int32) (σ : sS) : Option (Int32 × sS) := s_run (S_X8_assumedAt ) (0, [.ref v0, .int v1], σ)
noncomputable def R_X8_assumedAt_2 (v0 : Nat) (v1 : Int32) (v2 : Int32) (σ : sS) : Option (Int32 × sS) := s_run (S_X8_assumedAt ) (2, [.ref v0, .int v1, .int v2], σ)
theorem E_X8_assumedAt_0 {v0 : Nat} {v1 : Int32} {σ : sS} : R_X8_assumedAt_0 v0 v1 σ = (R_X8_assumedAt_2 v0 v1 0 σ) := by
  unfold R_X8_assumedAt_0
  rw [s_run_eq]
  show s_go _ _ (T_X8_assumedAt_0 v0 v1 σ) = _
  unfold T_X8_assumedAt_0
  simp only [s_go_bind, s_go_ite, s_go_sum, s_go_l, s_go_r, s_go_n]
  try rfl
theorem E_X8_assumedAt_2 {v0 : Nat} {v1 : Int32} {v2 : Int32} {σ : sS} : R_X8_assumedAt_2 v0 v1 v2 σ = ((s_fi σ v0 8 34).bind fun x1 =>
  if x1 ≤ v2 then (some ((-1), σ))
  else ((s_fr σ v0 8 32).bind fun x2 =>
  (s_ai σ x2 v2).bind fun x3 =>
  if x3 = v1 then (some (v2, σ))
  else (R_X8_assumedAt_2 v0 v1 (v2 + 1) σ))) := by
  unfold R_X8_assumedAt_2
  rw [s_run_eq]
  show s_go _ _ (T_X8_assumedAt_2 v0 v1 v2 σ) = _
  unfold T_X8_assumedAt_2
  simp only [s_go_bind, s_go_ite, s_go_sum, s_go_l, s_go_r, s_go_n]
  try rfl
theorem E_X8_assumedAt {v0 : Nat} {v1 : Int32} {σ : sS} : F_X8_assumedAt v0 v1 σ = ((s_is σ v0 8).bind fun _ => R_X8_assumedAt_0 v0 v1 σ) := rfl
/-! X8_caseOf -/
noncomputable def R_X8_caseOf_0 (v0 : Nat) (v1 : Int32) (v2 : Int32) (v3 : Int32) (v4 : Int32) (σ : sS) : Option (Int32 × sS) := s_run (S_X8_caseOf ) (0, [.ref v0, .int v1, .int v2, .int v3, .int v4], σ)
noncomputable def R_X8_caseOf_3 (v0 : Nat) (v1 : Int32) (v2 : Int32) (v3 : Int32) (v4 : Int32) (v5 : Int32) (σ : sS) : Option (Int32 × sS) := s_run (S_X8_caseOf ) (3, [.ref v0, .int v1, .int v2, .int v3, .int v4, .int v5], σ)
noncomputable def R_X8_caseOf_71 (v0 : Nat) (v1 : Int32) (v2 : Int32) (v3 : Int32) (v4 : Int32) (v5 : Int32) (σ : sS) : Option (Int32 × sS) := s_run (S_X8_caseOf ) (71, [.ref v0, .int v1, .int v2, .int v3, .int v4, .int v5], σ)
theorem E_X8_caseOf_0 {v0 : Nat} {v1 : Int32} {v2 : Int32} {v3 : Int32} {v4 : Int32} {σ : sS} : R_X8_caseOf_0 v0 v1 v2 v3 v4 σ = (R_X8_caseOf_3 v0 v1 v2 v3 v4 0 σ) := by
  unfold R_X8_caseOf_0
  rw [s_run_eq]
  show s_go _ _ (T_X8_caseOf_0 v0 v1 v2 v3 v4 σ) = _
  unfold T_X8_caseOf_0
  simp only [s_go_bind, s_go_ite, s_go_sum, s_go_l, s_go_r, s_go_n]
  try rfl
theorem E_X8_caseOf_3 {v0 : Nat} {v1 : Int32} {v2 : Int32} {v3 : Int32} {v4 : Int32} {v5 : Int32} {σ : sS} : R_X8_caseOf_3 v0 v1 v2 v3 v4 v5 σ = ((s_fi σ v0 8 33).bind fun x1 =>
  if x1 ≤ v5 then (some ((-1), σ))
  else ((s_fr σ v0 8 23).bind fun x2 =>
  (s_ai σ x2 v5).bind fun x3 =>
  if x3 = 15 then ((F_X8_endOf v0 (30 + v5) 1 σ).bind fun q4 =>
  (F_X8_isPart v0 v1 v2 v3 (-1) (30 + v5) 1 q4.1 q4.2).bind fun q5 =>
  if q5.1 = 0 then (R_X8_caseOf_71 v0 v1 v2 v3 v4 v5 q5.2)
  else ((F_X8_isRight v0 (30 + v5) 15 (30 + v4) q5.2).bind fun q6 =>
  if q6.1 = 0 then (R_X8_caseOf_71 v0 v1 v2 v3 v4 v5 q6.2)
  else (some (v5, q6.2))))
  else (R_X8_caseOf_71 v0 v1 v2 v3 v4 v5 σ))) := by
  unfold R_X8_caseOf_3
  rw [s_run_eq]
  show s_go _ _ (T_X8_caseOf_3 v0 v1 v2 v3 v4 v5 σ) = _
  unfold T_X8_caseOf_3
  simp only [s_go_bind, s_go_ite, s_go_sum, s_go_l, s_go_r, s_go_n]
  try rfl
theorem E_X8_caseOf_71 {v0 : Nat} {v1 : Int32} {v2 : Int32} {v3 : Int32} {v4 : Int32} {v5 : Int32} {σ : sS} : R_X8_caseOf_71 v0 v1 v2 v3 v4 v5 σ = (R_X8_caseOf_3 v0 v1 v2 v3 v4 (v5 + 1) σ) := by
  unfold R_X8_caseOf_71
  rw [s_run_eq]
  show s_go _ _ (T_X8_caseOf_71 v0 v1 v2 v3 v4 v5 σ) = _
  unfold T_X8_caseOf_71
  simp only [s_go_bind, s_go_ite, s_go_sum, s_go_l, s_go_r, s_go_n]
  try rfl
theorem E_X8_caseOf {v0 : Nat} {v1 : Int32} {v2 : Int32} {v3 : Int32} {v4 : Int32} {σ : sS} : F_X8_caseOf v0 v1 v2 v3 v4 σ = ((s_is σ v0 8).bind fun _ => R_X8_caseOf_0 v0 v1 v2 v3 v4 σ) := rfl
/-! X8_relates -/
noncomputable def R_X8_relates_0 (v0 : Nat) (v1 : Int32) (σ : sS) : Option (Unit × sS) := s_run (S_X8_relates ) (0, [.ref v0, .int v1], σ)
noncomputable def R_X8_relates_7 (v0 : Nat) (v1 : Int32) (v2 : Int32) (σ : sS) : Option (Unit × sS) := s_run (S_X8_relates ) (7, [.ref v0, .int v1, .int v2], σ)
noncomputable def R_X8_relates_97 (v0 : Nat) (v1 : Int32) (v2 : Int32) (v3 : Int32) (v4 : Int32) (w0 : Int32) (w1 : Int32) (w2 : Nat) (σ : sS) : Option (Unit × sS) := s_run (S_X8_relates ) (97, [.ref v0, .int v1, .int v2, .int v3, .int v4, .int w0, .int w1, .ref w2], σ)
noncomputable def R_X8_relates_130 (v0 : Nat) (v1 : Int32) (v2 : Int32) (v3 : Int32) (w0 : Int32) (w1 : Int32) (w2 : Nat) (σ : sS) : Option (Unit × sS) := s_run (S_X8_relates ) (130, [.ref v0, .int v1, .int v2, .int v3, .int w0, .int w1, .ref w2], σ)
noncomputable def R_X8_relates_134 (v0 : Nat) (v1 : Int32) (v2 : Int32) (v3 : Int32) (v5 : Int32) (σ : sS) : Option (Unit × sS) := s_run (S_X8_relates ) (134, [.ref v0, .int v1, .int v2, .int v3, .int v5], σ)
noncomputable def R_X8_relates_193 (v0 : Nat) (v1 : Int32) (v2 : Int32) (v3 : Int32) (v5 : Int32) (w0 : Int32) (w1 : Nat) (σ : sS) : Option (Unit × sS) := s_run (S_X8_relates ) (193, [.ref v0, .int v1, .int v2, .int v3, .int v5, .int w0, .ref w1], σ)
noncomputable def R_X8_relates_194 (v0 : Nat) (v1 : Int32) (v2 : Int32) (v3 : Int32) (v5 : Int32) (w0 : Int32) (w1 : Int32) (w2 : Nat) (σ : sS) : Option (Unit × sS) := s_run (S_X8_relates ) (194, [.ref v0, .int v1, .int v2, .int v3, .int v5, .int w0, .int w1, .ref w2], σ)
noncomputable def R_X8_relates_221 (v0 : Nat) (v2 : Int32) (σ : sS) : Option (Unit × sS) := s_run (S_X8_relates ) (221, [.ref v0, .int v2], σ)
noncomputable def R_X8_relates_295 (v0 : Nat) (v2 : Int32) (σ : sS) : Option (Unit × sS) := s_run (S_X8_relates ) (295, [.ref v0, .int v2], σ)
noncomputable def R_X8_relates_301 (v0 : Nat) (σ : sS) : Option (Unit × sS) := s_run (S_X8_relates ) (301, [.ref v0], σ)
noncomputable def R_X8_relates_303 (v0 : Nat) (v2 : Int32) (σ : sS) : Option (Unit × sS) := s_run (S_X8_relates ) (303, [.ref v0, .int v2], σ)
noncomputable def R_X8_relates_313 (v0 : Nat) (v2 : Int32) (v3 : Int32) (σ : sS) : Option (Unit × sS) := s_run (S_X8_relates ) (313, [.ref v0, .int v2, .int v3], σ)
noncomputable def R_X8_relates_409 (v0 : Nat) (v2 : Int32) (v3 : Int32) (v4 : Int32) (w0 : Int32) (w1 : Int32) (w2 : Nat) (σ : sS) : Option (Unit × sS) := s_run (S_X8_relates ) (409, [.ref v0, .int v2, .int v3, .int v4, .int w0, .int w1, .ref w2], σ)
noncomputable def R_X8_relates_458 (v0 : Nat) (v2 : Int32) (v3 : Int32) (w0 : Int32) (w1 : Int32) (w2 : Nat) (σ : sS) : Option (Unit × sS) := s_run (S_X8_relates ) (458, [.ref v0, .int v2, .int v3, .int w0, .int w1, .ref w2], σ)
theorem E_X8_relates_0 {v0 : Nat} {v1 : Int32} {σ : sS} : R_X8_relates_0 v0 v1 σ = ((s_pf σ v0 8 34 (.int 0)).bind fun σ1 =>
  R_X8_relates_7 v0 v1 0 σ1) := by
  unfold R_X8_relates_0
  rw [s_run_eq]
  show s_go _ _ (T_X8_relates_0 v0 v1 σ) = _
  unfold T_X8_relates_0
  simp only [s_go_bind, s_go_ite, s_go_sum, s_go_l, s_go_r, s_go_n]
  try rfl
theorem E_X8_relates_7 {v0 : Nat} {v1 : Int32} {v2 : Int32} {σ : sS} : R_X8_relates_7 v0 v1 v2 σ = ((s_fi σ v0 8 33).bind fun x1 =>
  if x1 ≤ v2 then (R_X8_relates_221 v0 0 σ)
  else ((s_fr σ v0 8 23).bind fun x2 =>
  (F_X8_at v0 (30 + v2) 0 σ).bind fun q3 =>
  (s_si q3.2 x2 v2 q3.1).bind fun σ4 =>
  (s_fr σ4 v0 8 23).bind fun x5 =>
  (s_ai σ4 x5 v2).bind fun x6 =>
  (F_X8_isJoining x6 σ4).bind fun q7 =>
  (s_fr q7.2 v0 8 24).bind fun x8 =>
  if q7.1 = 0 then ((s_fr q7.2 v0 8 23).bind fun x9 =>
  (s_ai q7.2 x9 v2).bind fun x10 =>
  if x10 = 12 then ((s_fr q7.2 v0 8 4).bind fun x11 =>
  (s_ai q7.2 x11 (30 + v2)).bind fun x12 =>
  (F_X8_partAt v0 (30 + v2) 1 x12 (-1) q7.2).bind fun q13 =>
  R_X8_relates_97 v0 v1 v2 (30 + v2) q7.1 q13.1 v2 x8 q13.2)
  else (R_X8_relates_97 v0 v1 v2 (30 + v2) q7.1 (-1) v2 x8 q7.2))
  else ((F_X8_endOf v0 (30 + v2) 1 q7.2).bind fun q14 =>
  (F_X8_partAt v0 (30 + v2) 1 q14.1 (-1) q14.2).bind fun q15 =>
  R_X8_relates_97 v0 v1 v2 (30 + v2) q7.1 q15.1 v2 x8 q15.2))) := by
  unfold R_X8_relates_7
  rw [s_run_eq]
  show s_go _ _ (T_X8_relates_7 v0 v1 v2 σ) = _
  unfold T_X8_relates_7
  simp only [s_go_bind, s_go_ite, s_go_sum, s_go_l, s_go_r, s_go_n]
  try rfl
theorem E_X8_relates_97 {v0 : Nat} {v1 : Int32} {v2 : Int32} {v3 : Int32} {v4 : Int32} {w0 : Int32} {w1 : Int32} {w2 : Nat} {σ : sS} : R_X8_relates_97 v0 v1 v2 v3 v4 w0 w1 w2 σ = ((s_si σ w2 w1 w0).bind fun σ1 =>
  (s_fr σ1 v0 8 25).bind fun x2 =>
  if v4 = 0 then (R_X8_relates_130 v0 v1 v2 v3 (-1) v2 x2 σ1)
  else ((F_X8_endOf v0 v3 1 σ1).bind fun q3 =>
  (s_fr q3.2 v0 8 4).bind fun x4 =>
  (s_ai q3.2 x4 v3).bind fun x5 =>
  (F_X8_partAt v0 v3 q3.1 x5 (-1) q3.2).bind fun q6 =>
  R_X8_relates_130 v0 v1 v2 v3 q6.1 v2 x2 q6.2)) := by
  unfold R_X8_relates_97
  rw [s_run_eq]
  show s_go _ _ (T_X8_relates_97 v0 v1 v2 v3 v4 w0 w1 w2 σ) = _
  unfold T_X8_relates_97
  simp only [s_go_bind, s_go_ite, s_go_sum, s_go_l, s_go_r, s_go_n]
  try rfl
theorem E_X8_relates_130 {v0 : Nat} {v1 : Int32} {v2 : Int32} {v3 : Int32} {w0 : Int32} {w1 : Int32} {w2 : Nat} {σ : sS} : R_X8_relates_130 v0 v1 v2 v3 w0 w1 w2 σ = ((s_si σ w2 w1 w0).bind fun σ1 =>
  R_X8_relates_134 v0 v1 v2 v3 0 σ1) := by
  unfold R_X8_relates_130
  rw [s_run_eq]
  show s_go _ _ (T_X8_relates_130 v0 v1 v2 v3 w0 w1 w2 σ) = _
  unfold T_X8_relates_130
  simp only [s_go_bind, s_go_ite, s_go_sum, s_go_l, s_go_r, s_go_n]
  try rfl
theorem E_X8_relates_134 {v0 : Nat} {v1 : Int32} {v2 : Int32} {v3 : Int32} {v5 : Int32} {σ : sS} : R_X8_relates_134 v0 v1 v2 v3 v5 σ = ((F_X8_d v0 σ).bind fun q1 =>
  if q1.1 ≤ v5 then ((s_fr q1.2 v0 8 27).bind fun x2 =>
  (F_X8_isAmong v0 v3 v1 q1.2).bind fun q3 =>
  (s_sb q3.2 x2 v2 q3.1).bind fun σ4 =>
  R_X8_relates_7 v0 v1 (v2 + 1) σ4)
  else ((s_fr q1.2 v0 8 26).bind fun x5 =>
  (s_fr q1.2 v0 8 23).bind fun x6 =>
  (s_ai q1.2 x6 v2).bind fun x7 =>
  (F_X8_isLone x7 q1.2).bind fun q8 =>
  if q8.1 = 0 then (R_X8_relates_193 v0 v1 v2 v3 v5 ((3 * v2) + v5) x5 q8.2)
  else ((s_fr q8.2 v0 8 23).bind fun x9 =>
  (s_ai q8.2 x9 v2).bind fun x10 =>
  if x10 = 12 then (R_X8_relates_193 v0 v1 v2 v3 v5 ((3 * v2) + v5) x5 q8.2)
  else ((s_fr q8.2 v0 8 4).bind fun x11 =>
  (s_ai q8.2 x11 v3).bind fun x12 =>
  (F_X8_partAt v0 v3 1 x12 v5 q8.2).bind fun q13 =>
  R_X8_relates_194 v0 v1 v2 v3 v5 q13.1 ((3 * v2) + v5) x5 q13.2)))) := by
  unfold R_X8_relates_134
  rw [s_run_eq]
  show s_go _ _ (T_X8_relates_134 v0 v1 v2 v3 v5 σ) = _
  unfold T_X8_relates_134
  simp only [s_go_bind, s_go_ite, s_go_sum, s_go_l, s_go_r, s_go_n]
  try rfl
theorem E_X8_relates_193 {v0 : Nat} {v1 : Int32} {v2 : Int32} {v3 : Int32} {v5 : Int32} {w0 : Int32} {w1 : Nat} {σ : sS} : R_X8_relates_193 v0 v1 v2 v3 v5 w0 w1 σ = (R_X8_relates_194 v0 v1 v2 v3 v5 (-1) w0 w1 σ) := by
  unfold R_X8_relates_193
  rw [s_run_eq]
  show s_go _ _ (T_X8_relates_193 v0 v1 v2 v3 v5 w0 w1 σ) = _
  unfold T_X8_relates_193
  simp only [s_go_bind, s_go_ite, s_go_sum, s_go_l, s_go_r, s_go_n]
  try rfl
theorem E_X8_relates_194 {v0 : Nat} {v1 : Int32} {v2 : Int32} {v3 : Int32} {v5 : Int32} {w0 : Int32} {w1 : Int32} {w2 : Nat} {σ : sS} : R_X8_relates_194 v0 v1 v2 v3 v5 w0 w1 w2 σ = ((s_si σ w2 w1 w0).bind fun σ1 =>
  R_X8_relates_134 v0 v1 v2 v3 (v5 + 1) σ1) := by
  unfold R_X8_relates_194
  rw [s_run_eq]
  show s_go _ _ (T_X8_relates_194 v0 v1 v2 v3 v5 w0 w1 w2 σ) = _
  unfold T_X8_relates_194
  simp only [s_go_bind, s_go_ite, s_go_sum, s_go_l, s_go_r, s_go_n]
  try rfl
theorem E_X8_relates_221 {v0 : Nat} {v2 : Int32} {σ : sS} : R_X8_relates_221 v0 v2 σ = ((s_fi σ v0 8 33).bind fun x1 =>
  if x1 ≤ v2 then (R_X8_relates_301 v0 σ)
  else ((s_fi σ v0 8 34).bind fun x2 =>
  if (3 : Int32) ≤ x2 then (R_X8_relates_301 v0 σ)
  else ((s_fr σ v0 8 23).bind fun x3 =>
  (s_ai σ x3 v2).bind fun x4 =>
  if x4 = 15 then ((s_fr σ v0 8 24).bind fun x5 =>
  (s_ai σ x5 v2).bind fun x6 =>
  if x6 < 0 then (R_X8_relates_295 v0 v2 σ)
  else ((s_fr σ v0 8 24).bind fun x7 =>
  (s_ai σ x7 v2).bind fun x8 =>
  (F_X8_assumedAt v0 x8 σ).bind fun q9 =>
  if (0 : Int32) ≤ q9.1 then (R_X8_relates_295 v0 v2 q9.2)
  else ((s_fr q9.2 v0 8 32).bind fun x10 =>
  (s_fi q9.2 v0 8 34).bind fun x11 =>
  (s_fr q9.2 v0 8 24).bind fun x12 =>
  (s_ai q9.2 x12 v2).bind fun x13 =>
  (s_si q9.2 x10 x11 x13).bind fun σ14 =>
  (s_fi σ14 v0 8 34).bind fun x15 =>
  (s_pf σ14 v0 8 34 (.int (x15 + 1))).bind fun σ16 =>
  R_X8_relates_295 v0 v2 σ16)))
  else (R_X8_relates_295 v0 v2 σ)))) := by
  unfold R_X8_relates_221
  rw [s_run_eq]
  show s_go _ _ (T_X8_relates_221 v0 v2 σ) = _
  unfold T_X8_relates_221
  simp only [s_go_bind, s_go_ite, s_go_sum, s_go_l, s_go_r, s_go_n]
  try rfl
theorem E_X8_relates_295 {v0 : Nat} {v2 : Int32} {σ : sS} : R_X8_relates_295 v0 v2 σ = (R_X8_relates_221 v0 (v2 + 1) σ) := by
  unfold R_X8_relates_295
  rw [s_run_eq]
  show s_go _ _ (T_X8_relates_295 v0 v2 σ) = _
  unfold T_X8_relates_295
  simp only [s_go_bind, s_go_ite, s_go_sum, s_go_l, s_go_r, s_go_n]
  try rfl
theorem E_X8_relates_301 {v0 : Nat} {σ : sS} : R_X8_relates_301 v0 σ = (R_X8_relates_303 v0 0 σ) := by
  unfold R_X8_relates_301
  rw [s_run_eq]
  show s_go _ _ (T_X8_relates_301 v0 σ) = _
  unfold T_X8_relates_301
  simp only [s_go_bind, s_go_ite, s_go_sum, s_go_l, s_go_r, s_go_n]
  try rfl
theorem E_X8_relates_303 {v0 : Nat} {v2 : Int32} {σ : sS} : R_X8_relates_303 v0 v2 σ = ((s_fi σ v0 8 33).bind fun x1 =>
  if x1 ≤ v2 then (some ((), σ))
  else (R_X8_relates_313 v0 v2 0 σ)) := by
  unfold R_X8_relates_303
  rw [s_run_eq]
  show s_go _ _ (T_X8_relates_303 v0 v2 σ) = _
  unfold T_X8_relates_303
  simp only [s_go_bind, s_go_ite, s_go_sum, s_go_l, s_go_r, s_go_n]
  try rfl
theorem E_X8_relates_313 {v0 : Nat} {v2 : Int32} {v3 : Int32} {σ : sS} : R_X8_relates_313 v0 v2 v3 σ = ((s_fi σ v0 8 33).bind fun x1 =>
  if x1 ≤ v3 then (R_X8_relates_303 v0 (v2 + 1) σ)
  else ((s_fr σ v0 8 28).bind fun x2 =>
  (F_X8_isOfSome v0 (30 + v2) 16 (30 + v3) σ).bind fun q3 =>
  (s_sb q3.2 x2 ((40 * v2) + v3) q3.1).bind fun σ4 =>
  (s_fr σ4 v0 8 29).bind fun x5 =>
  (F_X8_isTwice v0 (30 + v2) (30 + v3) σ4).bind fun q6 =>
  (s_sb q6.2 x5 ((40 * v2) + v3) q6.1).bind fun σ7 =>
  (s_fr σ7 v0 8 30).bind fun x8 =>
  (s_fr σ7 v0 8 23).bind fun x9 =>
  (s_ai σ7 x9 v2).bind fun x10 =>
  if x10 = 14 then ((F_X8_endOf v0 (30 + v2) 1 σ7).bind fun q11 =>
  (F_X8_caseOf v0 (30 + v2) 1 q11.1 v3 q11.2).bind fun q12 =>
  R_X8_relates_409 v0 v2 v3 ((40 * v2) + v3) q12.1 ((40 * v2) + v3) x8 q12.2)
  else (R_X8_relates_409 v0 v2 v3 ((40 * v2) + v3) (-1) ((40 * v2) + v3) x8 σ7))) := by
  unfold R_X8_relates_313
  rw [s_run_eq]
  show s_go _ _ (T_X8_relates_313 v0 v2 v3 σ) = _
  unfold T_X8_relates_313
  simp only [s_go_bind, s_go_ite, s_go_sum, s_go_l, s_go_r, s_go_n]
  try rfl
theorem E_X8_relates_409 {v0 : Nat} {v2 : Int32} {v3 : Int32} {v4 : Int32} {w0 : Int32} {w1 : Int32} {w2 : Nat} {σ : sS} : R_X8_relates_409 v0 v2 v3 v4 w0 w1 w2 σ = ((s_si σ w2 w1 w0).bind fun σ1 =>
  (s_fr σ1 v0 8 31).bind fun x2 =>
  (s_fr σ1 v0 8 23).bind fun x3 =>
  (s_ai σ1 x3 v2).bind fun x4 =>
  if x4 = 14 then ((F_X8_endOf v0 (30 + v2) 1 σ1).bind fun q5 =>
  (s_fr q5.2 v0 8 4).bind fun x6 =>
  (s_ai q5.2 x6 (30 + v2)).bind fun x7 =>
  (F_X8_caseOf v0 (30 + v2) q5.1 x7 v3 q5.2).bind fun q8 =>
  R_X8_relates_458 v0 v2 v3 q8.1 v4 x2 q8.2)
  else (R_X8_relates_458 v0 v2 v3 (-1) v4 x2 σ1)) := by
  unfold R_X8_relates_409
  rw [s_run_eq]
  show s_go _ _ (T_X8_relates_409 v0 v2 v3 v4 w0 w1 w2 σ) = _
  unfold T_X8_relates_409
  simp only [s_go_bind, s_go_ite, s_go_sum, s_go_l, s_go_r, s_go_n]
  try rfl
theorem E_X8_relates_458 {v0 : Nat} {v2 : Int32} {v3 : Int32} {w0 : Int32} {w1 : Int32} {w2 : Nat} {σ : sS} : R_X8_relates_458 v0 v2 v3 w0 w1 w2 σ = ((s_si σ w2 w1 w0).bind fun σ1 =>
  R_X8_relates_313 v0 v2 (v3 + 1) σ1) := by
  unfold R_X8_relates_458
  rw [s_run_eq]
  show s_go _ _ (T_X8_relates_458 v0 v2 v3 w0 w1 w2 σ) = _
  unfold T_X8_relates_458
  simp only [s_go_bind, s_go_ite, s_go_sum, s_go_l, s_go_r, s_go_n]
  try rfl
theorem E_X8_relates {v0 : Nat} {v1 : Int32} {σ : sS} : F_X8_relates v0 v1 σ = ((s_is σ v0 8).bind fun _ => R_X8_relates_0 v0 v1 σ) := rfl
/-! X8_costAt -/
noncomputable def R_X8_costAt_0 (v0 : Nat) (v1 : Int32) (v2 : Int32) (σ : sS) : Option (Int32 × sS) := s_run (S_X8_costAt ) (0, [.ref v0, .int v1, .int v2], σ)
theorem E_X8_costAt_0 {v0 : Nat} {v1 : Int32} {v2 : Int32} {σ : sS} : R_X8_costAt_0 v0 v1 v2 σ = (if (0 : Int32) ≤ v1 then ((s_fr σ v0 8 36).bind fun x1 =>
  (s_ai σ x1 ((8 * v1) + v2)).bind fun x2 =>
  some (x2, σ))
  else (some (268435456, σ))) := by
  unfold R_X8_costAt_0
  rw [s_run_eq]
  show s_go _ _ (T_X8_costAt_0 v0 v1 v2 σ) = _
  unfold T_X8_costAt_0
  simp only [s_go_bind, s_go_ite, s_go_sum, s_go_l, s_go_r, s_go_n]
  try rfl
theorem E_X8_costAt {v0 : Nat} {v1 : Int32} {v2 : Int32} {σ : sS} : F_X8_costAt v0 v1 v2 σ = ((s_is σ v0 8).bind fun _ => R_X8_costAt_0 v0 v1 v2 σ) := rfl
/-! X8_sum -/
noncomputable def R_X8_sum_0 (v0 : Int32) (v1 : Int32) (σ : sS) : Option (Int32 × sS) := s_run (S_X8_sum ) (0, [.int v0, .int v1], σ)
theorem E_X8_sum_0 {v0 : Int32} {v1 : Int32} {σ : sS} : R_X8_sum_0 v0 v1 σ = (some ((if (v0 + v1) < 268435456 then (v0 + v1) else 268435456), σ)) := by
  unfold R_X8_sum_0
  rw [s_run_eq]
  show s_go _ _ (T_X8_sum_0 v0 v1 σ) = _
  unfold T_X8_sum_0
  simp only [s_go_bind, s_go_ite, s_go_sum, s_go_l, s_go_r, s_go_n]
  try rfl
theorem E_X8_sum {v0 : Int32} {v1 : Int32} {σ : sS} : F_X8_sum v0 v1 σ = (R_X8_sum_0 v0 v1 σ) := rfl
/-! X8_givenBy -/
noncomputable def R_X8_givenBy_0 (v0 : Nat) (v1 : Int32) (v2 : Int32) (σ : sS) : Option (Int32 × sS) := s_run (S_X8_givenBy ) (0, [.ref v0, .int v1, .int v2], σ)
noncomputable def R_X8_givenBy_45  (σ : sS) : Option (Int32 × sS) := s_run (S_X8_givenBy ) (45, [], σ)
theorem E_X8_givenBy_0 {v0 : Nat} {v1 : Int32} {v2 : Int32} {σ : sS} : R_X8_givenBy_0 v0 v1 v2 σ = ((s_fr σ v0 8 23).bind fun x1 =>
  (s_ai σ x1 v1).bind fun x2 =>
  if x2 = 15 then ((s_fr σ v0 8 24).bind fun x3 =>
  (s_ai σ x3 v1).bind fun x4 =>
  if x4 < 0 then (R_X8_givenBy_45  σ)
  else ((s_fr σ v0 8 24).bind fun x5 =>
  (s_ai σ x5 v1).bind fun x6 =>
  (F_X8_assumedAt v0 x6 σ).bind fun q7 =>
  if q7.1 < 0 then (R_X8_givenBy_45  q7.2)
  else ((s_fi q7.2 v0 8 35).bind fun x8 =>
  (F_X8_hasRule v0 x8 1 q7.2).bind fun q9 =>
  if q9.1 = 0 then (R_X8_givenBy_45  q9.2)
  else ((s_fr q9.2 v0 8 25).bind fun x10 =>
  (s_ai q9.2 x10 v1).bind fun x11 =>
  (s_fr q9.2 v0 8 24).bind fun x12 =>
  (s_ai q9.2 x12 v1).bind fun x13 =>
  (F_X8_assumedAt v0 x13 q9.2).bind fun q14 =>
  (F_X8_costAt v0 x11 (v2 ||| (1 <<< (q14.1 &&& 31))) q14.2).bind fun q15 =>
  (s_fi q15.2 v0 8 35).bind fun x16 =>
  (s_fr q15.2 v0 8 24).bind fun x17 =>
  (s_ai q15.2 x17 v1).bind fun x18 =>
  (F_X8_costOf v0 x16 1 (30 + x18) q15.2).bind fun q19 =>
  (F_X8_sum q15.1 q19.1 q19.2).bind fun q20 =>
  some (q20.1, q20.2)))))
  else (R_X8_givenBy_45  σ)) := by
  unfold R_X8_givenBy_0
  rw [s_run_eq]
  show s_go _ _ (T_X8_givenBy_0 v0 v1 v2 σ) = _
  unfold T_X8_givenBy_0
  simp only [s_go_bind, s_go_ite, s_go_sum, s_go_l, s_go_r, s_go_n]
  try rfl
theorem E_X8_givenBy_45  {σ : sS} : R_X8_givenBy_45  σ = (some (268435456, σ)) := by
  unfold R_X8_givenBy_45
  rw [s_run_eq]
  show s_go _ _ (T_X8_givenBy_45  σ) = _
  unfold T_X8_givenBy_45
  simp only [s_go_bind, s_go_ite, s_go_sum, s_go_l, s_go_r, s_go_n]
  try rfl
theorem E_X8_givenBy {v0 : Nat} {v1 : Int32} {v2 : Int32} {σ : sS} : F_X8_givenBy v0 v1 v2 σ = ((s_is σ v0 8).bind fun _ => R_X8_givenBy_0 v0 v1 v2 σ) := rfl
/-! X8_premisesBy -/
noncomputable def R_X8_premisesBy_0 (v0 : Nat) (v1 : Int32) (v2 : Int32) (v3 : Int32) (σ : sS) : Option (Int32 × sS) := s_run (S_X8_premisesBy ) (0, [.ref v0, .int v1, .int v2, .int v3], σ)
noncomputable def R_X8_premisesBy_118  (σ : sS) : Option (Int32 × sS) := s_run (S_X8_premisesBy ) (118, [], σ)
noncomputable def R_X8_premisesBy_168 (v0 : Nat) (v2 : Int32) (v3 : Int32) (v4 : Int32) (v5 : Int32) (σ : sS) : Option (Int32 × sS) := s_run (S_X8_premisesBy ) (168, [.ref v0, .int v2, .int v3, .int v4, .int v5], σ)
noncomputable def R_X8_premisesBy_214 (v0 : Nat) (v2 : Int32) (v3 : Int32) (v4 : Int32) (v5 : Int32) (σ : sS) : Option (Int32 × sS) := s_run (S_X8_premisesBy ) (214, [.ref v0, .int v2, .int v3, .int v4, .int v5], σ)
noncomputable def R_X8_premisesBy_226 (v0 : Nat) (v2 : Int32) (v3 : Int32) (v4 : Int32) (v5 : Int32) (σ : sS) : Option (Int32 × sS) := s_run (S_X8_premisesBy ) (226, [.ref v0, .int v2, .int v3, .int v4, .int v5], σ)
noncomputable def R_X8_premisesBy_272 (v0 : Nat) (v2 : Int32) (v3 : Int32) (v4 : Int32) (v5 : Int32) (σ : sS) : Option (Int32 × sS) := s_run (S_X8_premisesBy ) (272, [.ref v0, .int v2, .int v3, .int v4, .int v5], σ)
noncomputable def R_X8_premisesBy_342 (v0 : Nat) (v2 : Int32) (v3 : Int32) (v4 : Int32) (v5 : Int32) (σ : sS) : Option (Int32 × sS) := s_run (S_X8_premisesBy ) (342, [.ref v0, .int v2, .int v3, .int v4, .int v5], σ)
noncomputable def R_X8_premisesBy_403 (v0 : Nat) (v2 : Int32) (v3 : Int32) (v4 : Int32) (v5 : Int32) (σ : sS) : Option (Int32 × sS) := s_run (S_X8_premisesBy ) (403, [.ref v0, .int v2, .int v3, .int v4, .int v5], σ)
noncomputable def R_X8_premisesBy_415 (v0 : Nat) (v2 : Int32) (v3 : Int32) (v4 : Int32) (v5 : Int32) (σ : sS) : Option (Int32 × sS) := s_run (S_X8_premisesBy ) (415, [.ref v0, .int v2, .int v3, .int v4, .int v5], σ)
noncomputable def R_X8_premisesBy_453 (v0 : Nat) (v2 : Int32) (v3 : Int32) (v4 : Int32) (v5 : Int32) (σ : sS) : Option (Int32 × sS) := s_run (S_X8_premisesBy ) (453, [.ref v0, .int v2, .int v3, .int v4, .int v5], σ)
noncomputable def R_X8_premisesBy_465 (v0 : Nat) (v2 : Int32) (v3 : Int32) (v4 : Int32) (v5 : Int32) (σ : sS) : Option (Int32 × sS) := s_run (S_X8_premisesBy ) (465, [.ref v0, .int v2, .int v3, .int v4, .int v5], σ)
noncomputable def R_X8_premisesBy_547 (v0 : Nat) (v2 : Int32) (v3 : Int32) (v4 : Int32) (v5 : Int32) (σ : sS) : Option (Int32 × sS) := s_run (S_X8_premisesBy ) (547, [.ref v0, .int v2, .int v3, .int v4, .int v5], σ)
noncomputable def R_X8_premisesBy_585 (v0 : Nat) (v2 : Int32) (v3 : Int32) (v4 : Int32) (v5 : Int32) (σ : sS) : Option (Int32 × sS) := s_run (S_X8_premisesBy ) (585, [.ref v0, .int v2, .int v3, .int v4, .int v5], σ)
noncomputable def R_X8_premisesBy_615 (v0 : Nat) (v2 : Int32) (v3 : Int32) (v4 : Int32) (v5 : Int32) (σ : sS) : Option (Int32 × sS) := s_run (S_X8_premisesBy ) (615, [.ref v0, .int v2, .int v3, .int v4, .int v5], σ)
noncomputable def R_X8_premisesBy_659 (v0 : Nat) (v2 : Int32) (v3 : Int32) (v4 : Int32) (v5 : Int32) (σ : sS) : Option (Int32 × sS) := s_run (S_X8_premisesBy ) (659, [.ref v0, .int v2, .int v3, .int v4, .int v5], σ)
noncomputable def R_X8_premisesBy_714 (v0 : Nat) (v3 : Int32) (v4 : Int32) (v5 : Int32) (σ : sS) : Option (Int32 × sS) := s_run (S_X8_premisesBy ) (714, [.ref v0, .int v3, .int v4, .int v5], σ)
noncomputable def R_X8_premisesBy_764 (v0 : Nat) (v3 : Int32) (v4 : Int32) (v5 : Int32) (σ : sS) : Option (Int32 × sS) := s_run (S_X8_premisesBy ) (764, [.ref v0, .int v3, .int v4, .int v5], σ)
theorem E_X8_premisesBy_0 {v0 : Nat} {v1 : Int32} {v2 : Int32} {v3 : Int32} {σ : sS} : R_X8_premisesBy_0 v0 v1 v2 v3 σ = (if v1 = 0 then ((s_fr σ v0 8 27).bind fun x1 =>
  (s_ab σ x1 v2).bind fun x2 =>
  if x2 = 0 then (some (268435456, σ))
  else (some (0, σ)))
  else if v1 = 1 then ((F_X8_assumedAt v0 v2 σ).bind fun q3 =>
  if q3.1 < 0 then (R_X8_premisesBy_118  q3.2)
  else ((F_X8_assumedAt v0 v2 q3.2).bind fun q4 =>
  if ((v3 >>> (q4.1 &&& 31)) &&& 1) = 1 then (some (0, q4.2))
  else (R_X8_premisesBy_118  q4.2)))
  else if v1 = 2 then ((s_fr σ v0 8 23).bind fun x5 =>
  (s_ai σ x5 v2).bind fun x6 =>
  if x6 = 13 then ((s_fr σ v0 8 24).bind fun x7 =>
  (s_ai σ x7 v2).bind fun x8 =>
  (F_X8_costAt v0 x8 v3 σ).bind fun q9 =>
  (s_fr q9.2 v0 8 25).bind fun x10 =>
  (s_ai q9.2 x10 v2).bind fun x11 =>
  (F_X8_costAt v0 x11 v3 q9.2).bind fun q12 =>
  (F_X8_sum q9.1 q12.1 q12.2).bind fun q13 =>
  some (q13.1, q13.2))
  else (some (268435456, σ)))
  else if v1 = 3 then (R_X8_premisesBy_168 v0 v2 v3 268435456 0 σ)
  else if v1 = 4 then (R_X8_premisesBy_226 v0 v2 v3 268435456 0 σ)
  else if v1 = 5 then ((s_fr σ v0 8 23).bind fun x14 =>
  (s_ai σ x14 v2).bind fun x15 =>
  if x15 = 14 then ((s_fr σ v0 8 24).bind fun x16 =>
  (s_ai σ x16 v2).bind fun x17 =>
  (F_X8_costAt v0 x17 v3 σ).bind fun q18 =>
  some (q18.1, q18.2))
  else (some (268435456, σ)))
  else if v1 = 6 then ((s_fr σ v0 8 23).bind fun x19 =>
  (s_ai σ x19 v2).bind fun x20 =>
  if x20 = 14 then ((s_fr σ v0 8 25).bind fun x21 =>
  (s_ai σ x21 v2).bind fun x22 =>
  (F_X8_costAt v0 x22 v3 σ).bind fun q23 =>
  some (q23.1, q23.2))
  else (some (268435456, σ)))
  else if v1 = 7 then (R_X8_premisesBy_342 v0 v2 v3 268435456 0 σ)
  else if v1 = 8 then (R_X8_premisesBy_415 v0 v2 v3 268435456 0 σ)
  else if v1 = 9 then (R_X8_premisesBy_465 v0 v2 v3 268435456 0 σ)
  else if v1 = 10 then ((F_X8_givenBy v0 v2 v3 σ).bind fun q24 =>
  some (q24.1, q24.2))
  else if v1 = 11 then (R_X8_premisesBy_547 v0 v2 v3 268435456 0 σ)
  else if v1 = 12 then ((s_fr σ v0 8 23).bind fun x25 =>
  (s_ai σ x25 v2).bind fun x26 =>
  if x26 = 16 then (R_X8_premisesBy_615 v0 v2 v3 0 0 σ)
  else (some (268435456, σ)))
  else if v1 = 13 then (R_X8_premisesBy_659 v0 v2 v3 268435456 0 σ)
  else (R_X8_premisesBy_714 v0 v3 268435456 0 σ)) := by
  unfold R_X8_premisesBy_0
  rw [s_run_eq]
  show s_go _ _ (T_X8_premisesBy_0 v0 v1 v2 v3 σ) = _
  unfold T_X8_premisesBy_0
  simp only [s_go_bind, s_go_ite, s_go_sum, s_go_l, s_go_r, s_go_n]
  try rfl
theorem E_X8_premisesBy_118  {σ : sS} : R_X8_premisesBy_118  σ = (some (268435456, σ)) := by
  unfold R_X8_premisesBy_118
  rw [s_run_eq]
  show s_go _ _ (T_X8_premisesBy_118  σ) = _
  unfold T_X8_premisesBy_118
  simp only [s_go_bind, s_go_ite, s_go_sum, s_go_l, s_go_r, s_go_n]
  try rfl
theorem E_X8_premisesBy_168 {v0 : Nat} {v2 : Int32} {v3 : Int32} {v4 : Int32} {v5 : Int32} {σ : sS} : R_X8_premisesBy_168 v0 v2 v3 v4 v5 σ = ((s_fi σ v0 8 33).bind fun x1 =>
  if x1 ≤ v5 then (some (v4, σ))
  else ((s_fr σ v0 8 23).bind fun x2 =>
  (s_ai σ x2 v5).bind fun x3 =>
  if x3 = 13 then ((s_fr σ v0 8 24).bind fun x4 =>
  (s_ai σ x4 v5).bind fun x5 =>
  if x5 = v2 then ((F_X8_costAt v0 v5 v3 σ).bind fun q6 =>
  R_X8_premisesBy_214 v0 v2 v3 (if q6.1 < v4 then q6.1 else v4) v5 q6.2)
  else (R_X8_premisesBy_214 v0 v2 v3 v4 v5 σ))
  else (R_X8_premisesBy_214 v0 v2 v3 v4 v5 σ))) := by
  unfold R_X8_premisesBy_168
  rw [s_run_eq]
  show s_go _ _ (T_X8_premisesBy_168 v0 v2 v3 v4 v5 σ) = _
  unfold T_X8_premisesBy_168
  simp only [s_go_bind, s_go_ite, s_go_sum, s_go_l, s_go_r, s_go_n]
  try rfl
theorem E_X8_premisesBy_214 {v0 : Nat} {v2 : Int32} {v3 : Int32} {v4 : Int32} {v5 : Int32} {σ : sS} : R_X8_premisesBy_214 v0 v2 v3 v4 v5 σ = (R_X8_premisesBy_168 v0 v2 v3 v4 (v5 + 1) σ) := by
  unfold R_X8_premisesBy_214
  rw [s_run_eq]
  show s_go _ _ (T_X8_premisesBy_214 v0 v2 v3 v4 v5 σ) = _
  unfold T_X8_premisesBy_214
  simp only [s_go_bind, s_go_ite, s_go_sum, s_go_l, s_go_r, s_go_n]
  try rfl
theorem E_X8_premisesBy_226 {v0 : Nat} {v2 : Int32} {v3 : Int32} {v4 : Int32} {v5 : Int32} {σ : sS} : R_X8_premisesBy_226 v0 v2 v3 v4 v5 σ = ((s_fi σ v0 8 33).bind fun x1 =>
  if x1 ≤ v5 then (some (v4, σ))
  else ((s_fr σ v0 8 23).bind fun x2 =>
  (s_ai σ x2 v5).bind fun x3 =>
  if x3 = 13 then ((s_fr σ v0 8 25).bind fun x4 =>
  (s_ai σ x4 v5).bind fun x5 =>
  if x5 = v2 then ((F_X8_costAt v0 v5 v3 σ).bind fun q6 =>
  R_X8_premisesBy_272 v0 v2 v3 (if q6.1 < v4 then q6.1 else v4) v5 q6.2)
  else (R_X8_premisesBy_272 v0 v2 v3 v4 v5 σ))
  else (R_X8_premisesBy_272 v0 v2 v3 v4 v5 σ))) := by
  unfold R_X8_premisesBy_226
  rw [s_run_eq]
  show s_go _ _ (T_X8_premisesBy_226 v0 v2 v3 v4 v5 σ) = _
  unfold T_X8_premisesBy_226
  simp only [s_go_bind, s_go_ite, s_go_sum, s_go_l, s_go_r, s_go_n]
  try rfl
theorem E_X8_premisesBy_272 {v0 : Nat} {v2 : Int32} {v3 : Int32} {v4 : Int32} {v5 : Int32} {σ : sS} : R_X8_premisesBy_272 v0 v2 v3 v4 v5 σ = (R_X8_premisesBy_226 v0 v2 v3 v4 (v5 + 1) σ) := by
  unfold R_X8_premisesBy_272
  rw [s_run_eq]
  show s_go _ _ (T_X8_premisesBy_272 v0 v2 v3 v4 v5 σ) = _
  unfold T_X8_premisesBy_272
  simp only [s_go_bind, s_go_ite, s_go_sum, s_go_l, s_go_r, s_go_n]
  try rfl
theorem E_X8_premisesBy_342 {v0 : Nat} {v2 : Int32} {v3 : Int32} {v4 : Int32} {v5 : Int32} {σ : sS} : R_X8_premisesBy_342 v0 v2 v3 v4 v5 σ = ((s_fi σ v0 8 33).bind fun x1 =>
  if x1 ≤ v5 then (some (v4, σ))
  else ((s_fr σ v0 8 23).bind fun x2 =>
  (s_ai σ x2 v5).bind fun x3 =>
  if x3 = 15 then ((s_fr σ v0 8 25).bind fun x4 =>
  (s_ai σ x4 v5).bind fun x5 =>
  if x5 = v2 then ((s_fr σ v0 8 24).bind fun x6 =>
  (s_ai σ x6 v5).bind fun x7 =>
  (F_X8_costAt v0 x7 v3 σ).bind fun q8 =>
  (F_X8_costAt v0 v5 v3 q8.2).bind fun q9 =>
  (F_X8_sum q8.1 q9.1 q9.2).bind fun q10 =>
  R_X8_premisesBy_403 v0 v2 v3 (if q10.1 < v4 then q10.1 else v4) v5 q10.2)
  else (R_X8_premisesBy_403 v0 v2 v3 v4 v5 σ))
  else (R_X8_premisesBy_403 v0 v2 v3 v4 v5 σ))) := by
  unfold R_X8_premisesBy_342
  rw [s_run_eq]
  show s_go _ _ (T_X8_premisesBy_342 v0 v2 v3 v4 v5 σ) = _
  unfold T_X8_premisesBy_342
  simp only [s_go_bind, s_go_ite, s_go_sum, s_go_l, s_go_r, s_go_n]
  try rfl
theorem E_X8_premisesBy_403 {v0 : Nat} {v2 : Int32} {v3 : Int32} {v4 : Int32} {v5 : Int32} {σ : sS} : R_X8_premisesBy_403 v0 v2 v3 v4 v5 σ = (R_X8_premisesBy_342 v0 v2 v3 v4 (v5 + 1) σ) := by
  unfold R_X8_premisesBy_403
  rw [s_run_eq]
  show s_go _ _ (T_X8_premisesBy_403 v0 v2 v3 v4 v5 σ) = _
  unfold T_X8_premisesBy_403
  simp only [s_go_bind, s_go_ite, s_go_sum, s_go_l, s_go_r, s_go_n]
  try rfl
theorem E_X8_premisesBy_415 {v0 : Nat} {v2 : Int32} {v3 : Int32} {v4 : Int32} {v5 : Int32} {σ : sS} : R_X8_premisesBy_415 v0 v2 v3 v4 v5 σ = ((s_fi σ v0 8 33).bind fun x1 =>
  if x1 ≤ v5 then (some (v4, σ))
  else ((s_fr σ v0 8 29).bind fun x2 =>
  (s_ab σ x2 ((40 * v5) + v2)).bind fun x3 =>
  if x3 = 0 then (R_X8_premisesBy_453 v0 v2 v3 v4 v5 σ)
  else ((F_X8_costAt v0 v5 v3 σ).bind fun q4 =>
  R_X8_premisesBy_453 v0 v2 v3 (if q4.1 < v4 then q4.1 else v4) v5 q4.2))) := by
  unfold R_X8_premisesBy_415
  rw [s_run_eq]
  show s_go _ _ (T_X8_premisesBy_415 v0 v2 v3 v4 v5 σ) = _
  unfold T_X8_premisesBy_415
  simp only [s_go_bind, s_go_ite, s_go_sum, s_go_l, s_go_r, s_go_n]
  try rfl
theorem E_X8_premisesBy_453 {v0 : Nat} {v2 : Int32} {v3 : Int32} {v4 : Int32} {v5 : Int32} {σ : sS} : R_X8_premisesBy_453 v0 v2 v3 v4 v5 σ = (R_X8_premisesBy_415 v0 v2 v3 v4 (v5 + 1) σ) := by
  unfold R_X8_premisesBy_453
  rw [s_run_eq]
  show s_go _ _ (T_X8_premisesBy_453 v0 v2 v3 v4 v5 σ) = _
  unfold T_X8_premisesBy_453
  simp only [s_go_bind, s_go_ite, s_go_sum, s_go_l, s_go_r, s_go_n]
  try rfl
theorem E_X8_premisesBy_465 {v0 : Nat} {v2 : Int32} {v3 : Int32} {v4 : Int32} {v5 : Int32} {σ : sS} : R_X8_premisesBy_465 v0 v2 v3 v4 v5 σ = ((s_fi σ v0 8 33).bind fun x1 =>
  if x1 ≤ v5 then (some (v4, σ))
  else ((F_X8_costAt v0 v5 v3 σ).bind fun q2 =>
  (s_fr q2.2 v0 8 30).bind fun x3 =>
  (s_ai q2.2 x3 ((40 * v5) + v2)).bind fun x4 =>
  (F_X8_costAt v0 x4 v3 q2.2).bind fun q5 =>
  (s_fr q5.2 v0 8 31).bind fun x6 =>
  (s_ai q5.2 x6 ((40 * v5) + v2)).bind fun x7 =>
  (F_X8_costAt v0 x7 v3 q5.2).bind fun q8 =>
  (F_X8_sum q5.1 q8.1 q8.2).bind fun q9 =>
  (F_X8_sum q2.1 q9.1 q9.2).bind fun q10 =>
  R_X8_premisesBy_465 v0 v2 v3 (if q10.1 < v4 then q10.1 else v4) (v5 + 1) q10.2)) := by
  unfold R_X8_premisesBy_465
  rw [s_run_eq]
  show s_go _ _ (T_X8_premisesBy_465 v0 v2 v3 v4 v5 σ) = _
  unfold T_X8_premisesBy_465
  simp only [s_go_bind, s_go_ite, s_go_sum, s_go_l, s_go_r, s_go_n]
  try rfl
theorem E_X8_premisesBy_547 {v0 : Nat} {v2 : Int32} {v3 : Int32} {v4 : Int32} {v5 : Int32} {σ : sS} : R_X8_premisesBy_547 v0 v2 v3 v4 v5 σ = ((s_fi σ v0 8 33).bind fun x1 =>
  if x1 ≤ v5 then (some (v4, σ))
  else ((s_fr σ v0 8 28).bind fun x2 =>
  (s_ab σ x2 ((40 * v5) + v2)).bind fun x3 =>
  if x3 = 0 then (R_X8_premisesBy_585 v0 v2 v3 v4 v5 σ)
  else ((F_X8_costAt v0 v5 v3 σ).bind fun q4 =>
  R_X8_premisesBy_585 v0 v2 v3 (if q4.1 < v4 then q4.1 else v4) v5 q4.2))) := by
  unfold R_X8_premisesBy_547
  rw [s_run_eq]
  show s_go _ _ (T_X8_premisesBy_547 v0 v2 v3 v4 v5 σ) = _
  unfold T_X8_premisesBy_547
  simp only [s_go_bind, s_go_ite, s_go_sum, s_go_l, s_go_r, s_go_n]
  try rfl
theorem E_X8_premisesBy_585 {v0 : Nat} {v2 : Int32} {v3 : Int32} {v4 : Int32} {v5 : Int32} {σ : sS} : R_X8_premisesBy_585 v0 v2 v3 v4 v5 σ = (R_X8_premisesBy_547 v0 v2 v3 v4 (v5 + 1) σ) := by
  unfold R_X8_premisesBy_585
  rw [s_run_eq]
  show s_go _ _ (T_X8_premisesBy_585 v0 v2 v3 v4 v5 σ) = _
  unfold T_X8_premisesBy_585
  simp only [s_go_bind, s_go_ite, s_go_sum, s_go_l, s_go_r, s_go_n]
  try rfl
theorem E_X8_premisesBy_615 {v0 : Nat} {v2 : Int32} {v3 : Int32} {v4 : Int32} {v5 : Int32} {σ : sS} : R_X8_premisesBy_615 v0 v2 v3 v4 v5 σ = ((F_X8_d v0 σ).bind fun q1 =>
  if q1.1 ≤ v5 then (some (v4, q1.2))
  else ((s_fr q1.2 v0 8 26).bind fun x2 =>
  (s_ai q1.2 x2 ((3 * v2) + v5)).bind fun x3 =>
  (F_X8_costAt v0 x3 v3 q1.2).bind fun q4 =>
  (F_X8_sum v4 q4.1 q4.2).bind fun q5 =>
  R_X8_premisesBy_615 v0 v2 v3 q5.1 (v5 + 1) q5.2)) := by
  unfold R_X8_premisesBy_615
  rw [s_run_eq]
  show s_go _ _ (T_X8_premisesBy_615 v0 v2 v3 v4 v5 σ) = _
  unfold T_X8_premisesBy_615
  simp only [s_go_bind, s_go_ite, s_go_sum, s_go_l, s_go_r, s_go_n]
  try rfl
theorem E_X8_premisesBy_659 {v0 : Nat} {v2 : Int32} {v3 : Int32} {v4 : Int32} {v5 : Int32} {σ : sS} : R_X8_premisesBy_659 v0 v2 v3 v4 v5 σ = ((F_X8_d v0 σ).bind fun q1 =>
  if q1.1 ≤ v5 then (some (v4, q1.2))
  else ((s_fr q1.2 v0 8 23).bind fun x2 =>
  (s_ai q1.2 x2 v2).bind fun x3 =>
  if x3 = 17 then ((s_fr q1.2 v0 8 26).bind fun x4 =>
  (s_ai q1.2 x4 ((3 * v2) + v5)).bind fun x5 =>
  (F_X8_costAt v0 x5 v3 q1.2).bind fun q6 =>
  R_X8_premisesBy_659 v0 v2 v3 (if q6.1 < v4 then q6.1 else v4) (v5 + 1) q6.2)
  else (some (v4, q1.2)))) := by
  unfold R_X8_premisesBy_659
  rw [s_run_eq]
  show s_go _ _ (T_X8_premisesBy_659 v0 v2 v3 v4 v5 σ) = _
  unfold T_X8_premisesBy_659
  simp only [s_go_bind, s_go_ite, s_go_sum, s_go_l, s_go_r, s_go_n]
  try rfl
theorem E_X8_premisesBy_714 {v0 : Nat} {v3 : Int32} {v4 : Int32} {v5 : Int32} {σ : sS} : R_X8_premisesBy_714 v0 v3 v4 v5 σ = ((s_fi σ v0 8 33).bind fun x1 =>
  if x1 ≤ v5 then (some (v4, σ))
  else ((s_fr σ v0 8 23).bind fun x2 =>
  (s_ai σ x2 v5).bind fun x3 =>
  if x3 = 12 then ((s_fr σ v0 8 24).bind fun x4 =>
  (s_ai σ x4 v5).bind fun x5 =>
  (F_X8_costAt v0 x5 v3 σ).bind fun q6 =>
  (F_X8_costAt v0 v5 v3 q6.2).bind fun q7 =>
  (F_X8_sum q6.1 q7.1 q7.2).bind fun q8 =>
  R_X8_premisesBy_764 v0 v3 (if q8.1 < v4 then q8.1 else v4) v5 q8.2)
  else (R_X8_premisesBy_764 v0 v3 v4 v5 σ))) := by
  unfold R_X8_premisesBy_714
  rw [s_run_eq]
  show s_go _ _ (T_X8_premisesBy_714 v0 v3 v4 v5 σ) = _
  unfold T_X8_premisesBy_714
  simp only [s_go_bind, s_go_ite, s_go_sum, s_go_l, s_go_r, s_go_n]
  try rfl
theorem E_X8_premisesBy_764 {v0 : Nat} {v3 : Int32} {v4 : Int32} {v5 : Int32} {σ : sS} : R_X8_premisesBy_764 v0 v3 v4 v5 σ = (R_X8_premisesBy_714 v0 v3 v4 (v5 + 1) σ) := by
  unfold R_X8_premisesBy_764
  rw [s_run_eq]
  show s_go _ _ (T_X8_premisesBy_764 v0 v3 v4 v5 σ) = _
  unfold T_X8_premisesBy_764
  simp only [s_go_bind, s_go_ite, s_go_sum, s_go_l, s_go_r, s_go_n]
  try rfl
theorem E_X8_premisesBy {v0 : Nat} {v1 : Int32} {v2 : Int32} {v3 : Int32} {σ : sS} : F_X8_premisesBy v0 v1 v2 v3 σ = ((s_is σ v0 8).bind fun _ => R_X8_premisesBy_0 v0 v1 v2 v3 σ) := rfl
/-! X8_byRule -/
noncomputable def R_X8_byRule_0 (v0 : Nat) (v1 : Int32) (v2 : Int32) (v3 : Int32) (σ : sS) : Option (Int32 × sS) := s_run (S_X8_byRule ) (0, [.ref v0, .int v1, .int v2, .int v3], σ)
noncomputable def R_X8_byRule_41 (w0 : Int32) (σ : sS) : Option (Int32 × sS) := s_run (S_X8_byRule ) (41, [.int w0], σ)
theorem E_X8_byRule_0 {v0 : Nat} {v1 : Int32} {v2 : Int32} {v3 : Int32} {σ : sS} : R_X8_byRule_0 v0 v1 v2 v3 σ = ((s_fi σ v0 8 35).bind fun x1 =>
  (F_X8_hasRule v0 x1 v1 σ).bind fun q2 =>
  if q2.1 = 0 then (R_X8_byRule_41 268435456 q2.2)
  else ((F_X8_premisesBy v0 v1 v2 v3 q2.2).bind fun q3 =>
  (s_fi q3.2 v0 8 35).bind fun x4 =>
  (F_X8_costOf v0 x4 v1 (30 + v2) q3.2).bind fun q5 =>
  (F_X8_sum q3.1 q5.1 q5.2).bind fun q6 =>
  R_X8_byRule_41 q6.1 q6.2)) := by
  unfold R_X8_byRule_0
  rw [s_run_eq]
  show s_go _ _ (T_X8_byRule_0 v0 v1 v2 v3 σ) = _
  unfold T_X8_byRule_0
  simp only [s_go_bind, s_go_ite, s_go_sum, s_go_l, s_go_r, s_go_n]
  try rfl
theorem E_X8_byRule_41 {w0 : Int32} {σ : sS} : R_X8_byRule_41 w0 σ = (if w0 ≤ 99999 then (some (w0, σ))
  else (some (268435456, σ))) := by
  unfold R_X8_byRule_41
  rw [s_run_eq]
  show s_go _ _ (T_X8_byRule_41 w0 σ) = _
  unfold T_X8_byRule_41
  simp only [s_go_bind, s_go_ite, s_go_sum, s_go_l, s_go_r, s_go_n]
  try rfl
theorem E_X8_byRule {v0 : Nat} {v1 : Int32} {v2 : Int32} {v3 : Int32} {σ : sS} : F_X8_byRule v0 v1 v2 v3 σ = ((s_is σ v0 8).bind fun _ => R_X8_byRule_0 v0 v1 v2 v3 σ) := rfl
/-! X8_costs -/
noncomputable def R_X8_costs_0 (v0 : Nat) (v1 : Int32) (v2 : Int32) (v3 : Int32) (σ : sS) : Option (Int32 × sS) := s_run (S_X8_costs ) (0, [.ref v0, .int v1, .int v2, .int v3], σ)
noncomputable def R_X8_costs_27 (v0 : Nat) (v4 : Int32) (σ : sS) : Option (Int32 × sS) := s_run (S_X8_costs ) (27, [.ref v0, .int v4], σ)
noncomputable def R_X8_costs_56 (v0 : Nat) (v4 : Int32) (σ : sS) : Option (Int32 × sS) := s_run (S_X8_costs ) (56, [.ref v0, .int v4], σ)
noncomputable def R_X8_costs_67 (v0 : Nat) (v4 : Int32) (v5 : Int32) (σ : sS) : Option (Int32 × sS) := s_run (S_X8_costs ) (67, [.ref v0, .int v4, .int v5], σ)
noncomputable def R_X8_costs_79 (v0 : Nat) (v4 : Int32) (v5 : Int32) (v6 : Int32) (σ : sS) : Option (Int32 × sS) := s_run (S_X8_costs ) (79, [.ref v0, .int v4, .int v5, .int v6], σ)
noncomputable def R_X8_costs_103 (v0 : Nat) (v4 : Int32) (v5 : Int32) (v6 : Int32) (v7 : Int32) (v8 : Int32) (σ : sS) : Option (Int32 × sS) := s_run (S_X8_costs ) (103, [.ref v0, .int v4, .int v5, .int v6, .int v7, .int v8], σ)
noncomputable def R_X8_costs_151 (v0 : Nat) (v5 : Int32) (v6 : Int32) (v7 : Int32) (σ : sS) : Option (Int32 × sS) := s_run (S_X8_costs ) (151, [.ref v0, .int v5, .int v6, .int v7], σ)
noncomputable def R_X8_costs_156 (v0 : Nat) (v5 : Int32) (v6 : Int32) (v7 : Int32) (w0 : Int32) (σ : sS) : Option (Int32 × sS) := s_run (S_X8_costs ) (156, [.ref v0, .int v5, .int v6, .int v7, .int w0], σ)
theorem E_X8_costs_0 {v0 : Nat} {v1 : Int32} {v2 : Int32} {v3 : Int32} {σ : sS} : R_X8_costs_0 v0 v1 v2 v3 σ = ((s_pf σ v0 8 35 (.int v1)).bind fun σ1 =>
  (F_X8_beliefsOf v0 v2 σ1).bind fun q2 =>
  (F_X8_looksAll v0 v3 q2.1 q2.2).bind fun q3 =>
  (F_X8_beliefsOf v0 v2 q3.2).bind fun q4 =>
  (F_X8_relates v0 q4.1 q4.2).bind fun q5 =>
  R_X8_costs_27 v0 0 q5.2) := by
  unfold R_X8_costs_0
  rw [s_run_eq]
  show s_go _ _ (T_X8_costs_0 v0 v1 v2 v3 σ) = _
  unfold T_X8_costs_0
  simp only [s_go_bind, s_go_ite, s_go_sum, s_go_l, s_go_r, s_go_n]
  try rfl
theorem E_X8_costs_27 {v0 : Nat} {v4 : Int32} {σ : sS} : R_X8_costs_27 v0 v4 σ = ((s_fr σ v0 8 36).bind fun x1 =>
  (s_len σ x1).bind fun x2 =>
  if x2 ≤ v4 then (R_X8_costs_56 v0 1 σ)
  else ((s_fr σ v0 8 36).bind fun x3 =>
  (s_si σ x3 v4 268435456).bind fun σ4 =>
  R_X8_costs_27 v0 (v4 + 1) σ4)) := by
  unfold R_X8_costs_27
  rw [s_run_eq]
  show s_go _ _ (T_X8_costs_27 v0 v4 σ) = _
  unfold T_X8_costs_27
  simp only [s_go_bind, s_go_ite, s_go_sum, s_go_l, s_go_r, s_go_n]
  try rfl
theorem E_X8_costs_56 {v0 : Nat} {v4 : Int32} {σ : sS} : R_X8_costs_56 v0 v4 σ = (if v4 = 0 then ((F_X8_costAt v0 0 0 σ).bind fun q1 =>
  if q1.1 < 268435456 then ((F_X8_costAt v0 0 0 q1.2).bind fun q2 =>
  some (q2.1, q2.2))
  else (some ((-1), q1.2)))
  else (R_X8_costs_67 v0 0 0 σ)) := by
  unfold R_X8_costs_56
  rw [s_run_eq]
  show s_go _ _ (T_X8_costs_56 v0 v4 σ) = _
  unfold T_X8_costs_56
  simp only [s_go_bind, s_go_ite, s_go_sum, s_go_l, s_go_r, s_go_n]
  try rfl
theorem E_X8_costs_67 {v0 : Nat} {v4 : Int32} {v5 : Int32} {σ : sS} : R_X8_costs_67 v0 v4 v5 σ = ((s_fi σ v0 8 33).bind fun x1 =>
  if x1 ≤ v5 then (R_X8_costs_56 v0 v4 σ)
  else (R_X8_costs_79 v0 v4 v5 0 σ)) := by
  unfold R_X8_costs_67
  rw [s_run_eq]
  show s_go _ _ (T_X8_costs_67 v0 v4 v5 σ) = _
  unfold T_X8_costs_67
  simp only [s_go_bind, s_go_ite, s_go_sum, s_go_l, s_go_r, s_go_n]
  try rfl
theorem E_X8_costs_79 {v0 : Nat} {v4 : Int32} {v5 : Int32} {v6 : Int32} {σ : sS} : R_X8_costs_79 v0 v4 v5 v6 σ = ((s_fi σ v0 8 34).bind fun x1 =>
  if (1 <<< (x1 &&& 31)) ≤ v6 then (R_X8_costs_67 v0 v4 (v5 + 1) σ)
  else ((F_X8_costAt v0 v5 v6 σ).bind fun q2 =>
  R_X8_costs_103 v0 v4 v5 v6 q2.1 0 q2.2)) := by
  unfold R_X8_costs_79
  rw [s_run_eq]
  show s_go _ _ (T_X8_costs_79 v0 v4 v5 v6 σ) = _
  unfold T_X8_costs_79
  simp only [s_go_bind, s_go_ite, s_go_sum, s_go_l, s_go_r, s_go_n]
  try rfl
theorem E_X8_costs_103 {v0 : Nat} {v4 : Int32} {v5 : Int32} {v6 : Int32} {v7 : Int32} {v8 : Int32} {σ : sS} : R_X8_costs_103 v0 v4 v5 v6 v7 v8 σ = (if (15 : Int32) ≤ v8 then (if v4 = 0 then ((F_X8_costAt v0 v5 v6 σ).bind fun q1 =>
  if q1.1 ≤ v7 then (R_X8_costs_156 v0 v5 v6 v7 0 q1.2)
  else (R_X8_costs_151 v0 v5 v6 v7 q1.2))
  else (R_X8_costs_151 v0 v5 v6 v7 σ))
  else ((F_X8_byRule v0 v8 v5 v6 σ).bind fun q2 =>
  R_X8_costs_103 v0 v4 v5 v6 (if q2.1 < v7 then q2.1 else v7) (v8 + 1) q2.2)) := by
  unfold R_X8_costs_103
  rw [s_run_eq]
  show s_go _ _ (T_X8_costs_103 v0 v4 v5 v6 v7 v8 σ) = _
  unfold T_X8_costs_103
  simp only [s_go_bind, s_go_ite, s_go_sum, s_go_l, s_go_r, s_go_n]
  try rfl
theorem E_X8_costs_151 {v0 : Nat} {v5 : Int32} {v6 : Int32} {v7 : Int32} {σ : sS} : R_X8_costs_151 v0 v5 v6 v7 σ = (R_X8_costs_156 v0 v5 v6 v7 1 σ) := by
  unfold R_X8_costs_151
  rw [s_run_eq]
  show s_go _ _ (T_X8_costs_151 v0 v5 v6 v7 σ) = _
  unfold T_X8_costs_151
  simp only [s_go_bind, s_go_ite, s_go_sum, s_go_l, s_go_r, s_go_n]
  try rfl
theorem E_X8_costs_156 {v0 : Nat} {v5 : Int32} {v6 : Int32} {v7 : Int32} {w0 : Int32} {σ : sS} : R_X8_costs_156 v0 v5 v6 v7 w0 σ = ((s_fr σ v0 8 36).bind fun x1 =>
  (s_si σ x1 ((8 * v5) + v6) v7).bind fun σ2 =>
  R_X8_costs_79 v0 w0 v5 (v6 + 1) σ2) := by
  unfold R_X8_costs_156
  rw [s_run_eq]
  show s_go _ _ (T_X8_costs_156 v0 v5 v6 v7 w0 σ) = _
  unfold T_X8_costs_156
  simp only [s_go_bind, s_go_ite, s_go_sum, s_go_l, s_go_r, s_go_n]
  try rfl
theorem E_X8_costs {v0 : Nat} {v1 : Int32} {v2 : Int32} {v3 : Int32} {σ : sS} : F_X8_costs v0 v1 v2 v3 σ = ((s_is σ v0 8).bind fun _ => R_X8_costs_0 v0 v1 v2 v3 σ) := rfl
/-! X8_cheapest -/
noncomputable def R_X8_cheapest_0 (v0 : Nat) (v1 : Int32) (v2 : Int32) (v3 : Int32) (σ : sS) : Option (Int32 × sS) := s_run (S_X8_cheapest ) (0, [.ref v0, .int v1, .int v2, .int v3], σ)
theorem E_X8_cheapest_0 {v0 : Nat} {v1 : Int32} {v2 : Int32} {v3 : Int32} {σ : sS} : R_X8_cheapest_0 v0 v1 v2 v3 σ = ((s_pf σ v0 8 0 (.int 0)).bind fun σ1 =>
  (F_X8_noProof v0 v1 v2 v3 σ1).bind fun q2 =>
  (F_X8_throwsIf v0 q2.1 1 q2.2).bind fun q3 =>
  if q3.1 = 0 then ((F_X8_costs v0 v1 v2 v3 q3.2).bind fun q4 =>
  some (q4.1, q4.2))
  else (some (0, q3.2))) := by
  unfold R_X8_cheapest_0
  rw [s_run_eq]
  show s_go _ _ (T_X8_cheapest_0 v0 v1 v2 v3 σ) = _
  unfold T_X8_cheapest_0
  simp only [s_go_bind, s_go_ite, s_go_sum, s_go_l, s_go_r, s_go_n]
  try rfl
theorem E_X8_cheapest {v0 : Nat} {v1 : Int32} {v2 : Int32} {v3 : Int32} {σ : sS} : F_X8_cheapest v0 v1 v2 v3 σ = ((s_is σ v0 8).bind fun _ => R_X8_cheapest_0 v0 v1 v2 v3 σ) := rfl
/-! X8_lastly -/
noncomputable def R_X8_lastly_0 (v0 : Nat) (v1 : Int32) (v2 : Int32) (v3 : Int32) (σ : sS) : Option (Int32 × sS) := s_run (S_X8_lastly ) (0, [.ref v0, .int v1, .int v2, .int v3], σ)
noncomputable def R_X8_lastly_41 (v0 : Nat) (v4 : Int32) (v5 : Int32) (σ : sS) : Option (Int32 × sS) := s_run (S_X8_lastly ) (41, [.ref v0, .int v4, .int v5], σ)
theorem E_X8_lastly_0 {v0 : Nat} {v1 : Int32} {v2 : Int32} {v3 : Int32} {σ : sS} : R_X8_lastly_0 v0 v1 v2 v3 σ = ((s_pf σ v0 8 0 (.int 0)).bind fun σ1 =>
  (F_X8_noProof v0 v1 v2 v3 σ1).bind fun q2 =>
  (F_X8_throwsIf v0 q2.1 1 q2.2).bind fun q3 =>
  if q3.1 = 0 then ((F_X8_costs v0 v1 v2 v3 q3.2).bind fun q4 =>
  if (0 : Int32) ≤ q4.1 then (R_X8_lastly_41 v0 q4.1 0 q4.2)
  else (some ((-1), q4.2)))
  else (some (0, q3.2))) := by
  unfold R_X8_lastly_0
  rw [s_run_eq]
  show s_go _ _ (T_X8_lastly_0 v0 v1 v2 v3 σ) = _
  unfold T_X8_lastly_0
  simp only [s_go_bind, s_go_ite, s_go_sum, s_go_l, s_go_r, s_go_n]
  try rfl
theorem E_X8_lastly_41 {v0 : Nat} {v4 : Int32} {v5 : Int32} {σ : sS} : R_X8_lastly_41 v0 v4 v5 σ = ((F_X8_byRule v0 v5 0 0 σ).bind fun q1 =>
  if q1.1 = v4 then (some (v5, q1.2))
  else (R_X8_lastly_41 v0 v4 (v5 + 1) q1.2)) := by
  unfold R_X8_lastly_41
  rw [s_run_eq]
  show s_go _ _ (T_X8_lastly_41 v0 v4 v5 σ) = _
  unfold T_X8_lastly_41
  simp only [s_go_bind, s_go_ite, s_go_sum, s_go_l, s_go_r, s_go_n]
  try rfl
theorem E_X8_lastly {v0 : Nat} {v1 : Int32} {v2 : Int32} {v3 : Int32} {σ : sS} : F_X8_lastly v0 v1 v2 v3 σ = ((s_is σ v0 8).bind fun _ => R_X8_lastly_0 v0 v1 v2 v3 σ) := rfl
/-! X4_cheapestHouse -/
noncomputable def R_X4_cheapestHouse_0 (v0 : Nat) (σ : sS) : Option (Int32 × sS) := s_run (S_X4_cheapestHouse ) (0, [.ref v0], σ)
noncomputable def R_X4_cheapestHouse_6 (v0 : Nat) (v1 : Int32) (v2 : Int32) (v3 : Int32) (σ : sS) : Option (Int32 × sS) := s_run (S_X4_cheapestHouse ) (6, [.ref v0, .int v1, .int v2, .int v3], σ)
noncomputable def R_X4_cheapestHouse_35 (v0 : Nat) (v3 : Int32) (v4 : Int32) (σ : sS) : Option (Int32 × sS) := s_run (S_X4_cheapestHouse ) (35, [.ref v0, .int v3, .int v4], σ)
noncomputable def R_X4_cheapestHouse_40 (v0 : Nat) (v1 : Int32) (v2 : Int32) (v3 : Int32) (σ : sS) : Option (Int32 × sS) := s_run (S_X4_cheapestHouse ) (40, [.ref v0, .int v1, .int v2, .int v3], σ)
theorem E_X4_cheapestHouse_0 {v0 : Nat} {σ : sS} : R_X4_cheapestHouse_0 v0 σ = (R_X4_cheapestHouse_6 v0 (-1) (-1) 0 σ) := by
  unfold R_X4_cheapestHouse_0
  rw [s_run_eq]
  show s_go _ _ (T_X4_cheapestHouse_0 v0 σ) = _
  unfold T_X4_cheapestHouse_0
  simp only [s_go_bind, s_go_ite, s_go_sum, s_go_l, s_go_r, s_go_n]
  try rfl
theorem E_X4_cheapestHouse_6 {v0 : Nat} {v1 : Int32} {v2 : Int32} {v3 : Int32} {σ : sS} : R_X4_cheapestHouse_6 v0 v1 v2 v3 σ = (if (3 : Int32) ≤ v3 then (some (v1, σ))
  else ((F_X4_costIn v0 v3 σ).bind fun q1 =>
  if q1.1 = (-1) then (R_X4_cheapestHouse_40 v0 v1 v2 v3 q1.2)
  else (if v2 = (-1) then (R_X4_cheapestHouse_35 v0 v3 q1.1 q1.2)
  else (if v2 ≤ q1.1 then (R_X4_cheapestHouse_40 v0 v1 v2 v3 q1.2)
  else (R_X4_cheapestHouse_35 v0 v3 q1.1 q1.2))))) := by
  unfold R_X4_cheapestHouse_6
  rw [s_run_eq]
  show s_go _ _ (T_X4_cheapestHouse_6 v0 v1 v2 v3 σ) = _
  unfold T_X4_cheapestHouse_6
  simp only [s_go_bind, s_go_ite, s_go_sum, s_go_l, s_go_r, s_go_n]
  try rfl
theorem E_X4_cheapestHouse_35 {v0 : Nat} {v3 : Int32} {v4 : Int32} {σ : sS} : R_X4_cheapestHouse_35 v0 v3 v4 σ = (R_X4_cheapestHouse_40 v0 v3 v4 v3 σ) := by
  unfold R_X4_cheapestHouse_35
  rw [s_run_eq]
  show s_go _ _ (T_X4_cheapestHouse_35 v0 v3 v4 σ) = _
  unfold T_X4_cheapestHouse_35
  simp only [s_go_bind, s_go_ite, s_go_sum, s_go_l, s_go_r, s_go_n]
  try rfl
theorem E_X4_cheapestHouse_40 {v0 : Nat} {v1 : Int32} {v2 : Int32} {v3 : Int32} {σ : sS} : R_X4_cheapestHouse_40 v0 v1 v2 v3 σ = (R_X4_cheapestHouse_6 v0 v1 v2 (v3 + 1) σ) := by
  unfold R_X4_cheapestHouse_40
  rw [s_run_eq]
  show s_go _ _ (T_X4_cheapestHouse_40 v0 v1 v2 v3 σ) = _
  unfold T_X4_cheapestHouse_40
  simp only [s_go_bind, s_go_ite, s_go_sum, s_go_l, s_go_r, s_go_n]
  try rfl
theorem E_X4_cheapestHouse {v0 : Nat} {σ : sS} : F_X4_cheapestHouse v0 σ = ((s_is σ v0 4).bind fun _ => R_X4_cheapestHouse_0 v0 σ) := rfl
/-! X7_where -/
noncomputable def R_X7_where_0 (v0 : Nat) (v1 : Int32) (v2 : Int32) (σ : sS) : Option ((Int32 ⊕ String) × sS) := s_run (S_X7_where ) (0, [.ref v0, .int v1, .int v2], σ)
theorem E_X7_where_0 {v0 : Nat} {v1 : Int32} {v2 : Int32} {σ : sS} : R_X7_where_0 v0 v1 v2 σ = ((F_X7_needProof v0 0 v1 v2 σ).bind fun q1 => s_sum q1.1 (fun x2 => (s_fr q1.2 v0 7 6).bind fun x4 =>
  (F_X4_cheapestHouse x4 q1.2).bind fun q5 =>
  some (.inl q5.1, q5.2)) (fun E3 => some (.inr E3, q1.2))) := by
  unfold R_X7_where_0
  rw [s_run_eq]
  show s_go _ _ (T_X7_where_0 v0 v1 v2 σ) = _
  unfold T_X7_where_0
  simp only [s_go_bind, s_go_ite, s_go_sum, s_go_l, s_go_r, s_go_n]
  try rfl
theorem E_X7_where {v0 : Nat} {v1 : Int32} {v2 : Int32} {σ : sS} : F_X7_where v0 v1 v2 σ = ((s_is σ v0 7).bind fun _ => R_X7_where_0 v0 v1 v2 σ) := rfl
/-! L_where -/
noncomputable def R_L_where_0 (v0 : Nat) (v1 : Int32) (v2 : Int32) (v3 : Nat) (σ : sS) : Option (Int32 × sS) := s_run (S_L_where ) (0, [.ref v0, .int v1, .int v2, .ref v3], σ)
theorem E_L_where_0 {v0 : Nat} {v1 : Int32} {v2 : Int32} {v3 : Nat} {σ : sS} : R_L_where_0 v0 v1 v2 v3 σ = ((F_X7_where v0 v1 v2 σ).bind fun q1 => s_sum q1.1 (fun x2 => (s_sl q1.2 v3 0 ((x2 : Int32).toInt64)).bind fun σ4 =>
  some (0, σ4)) (fun E3 => if E3 = "java/lang/IndexOutOfBoundsException" then (some (1, q1.2)) else none)) := by
  unfold R_L_where_0
  rw [s_run_eq]
  show s_go _ _ (T_L_where_0 v0 v1 v2 v3 σ) = _
  unfold T_L_where_0
  simp only [s_go_bind, s_go_ite, s_go_sum, s_go_l, s_go_r, s_go_n]
  try rfl
theorem E_L_where {v0 : Nat} {v1 : Int32} {v2 : Int32} {v3 : Nat} {σ : sS} : F_L_where v0 v1 v2 v3 σ = (R_L_where_0 v0 v1 v2 v3 σ) := rfl
/-! X8_where -/
noncomputable def R_X8_where_0 (v0 : Nat) (v1 : Int32) (v2 : Int32) (σ : sS) : Option (Int32 × sS) := s_run (S_X8_where ) (0, [.ref v0, .int v1, .int v2], σ)
noncomputable def R_X8_where_21 (v0 : Nat) (v1 : Int32) (v2 : Int32) (w0 : Nat) (σ : sS) : Option (Int32 × sS) := s_run (S_X8_where ) (21, [.ref v0, .int v1, .int v2, .ref w0], σ)
noncomputable def R_X8_where_26 (v0 : Nat) (v1 : Int32) (v2 : Int32) (w0 : Int32) (w1 : Nat) (σ : sS) : Option (Int32 × sS) := s_run (S_X8_where ) (26, [.ref v0, .int v1, .int v2, .int w0, .ref w1], σ)
noncomputable def R_X8_where_43 (v0 : Nat) (v1 : Int32) (v2 : Int32) (v3 : Int32) (v4 : Int32) (v5 : Int32) (σ : sS) : Option (Int32 × sS) := s_run (S_X8_where ) (43, [.ref v0, .int v1, .int v2, .int v3, .int v4, .int v5], σ)
noncomputable def R_X8_where_78 (v0 : Nat) (v1 : Int32) (v2 : Int32) (v5 : Int32) (v6 : Int32) (σ : sS) : Option (Int32 × sS) := s_run (S_X8_where ) (78, [.ref v0, .int v1, .int v2, .int v5, .int v6], σ)
noncomputable def R_X8_where_85 (v0 : Nat) (v1 : Int32) (v2 : Int32) (v3 : Int32) (v4 : Int32) (v5 : Int32) (σ : sS) : Option (Int32 × sS) := s_run (S_X8_where ) (85, [.ref v0, .int v1, .int v2, .int v3, .int v4, .int v5], σ)
theorem E_X8_where_0 {v0 : Nat} {v1 : Int32} {v2 : Int32} {σ : sS} : R_X8_where_0 v0 v1 v2 σ = ((s_pf σ v0 8 0 (.int 0)).bind fun σ1 =>
  (F_X8_noCustomer v1 σ1).bind fun q2 =>
  if q2.1 = 0 then ((F_X8_noFormula v0 v2 q2.2).bind fun q3 =>
  if q3.1 = 0 then (R_X8_where_26 v0 v1 v2 0 v0 q3.2)
  else (R_X8_where_21 v0 v1 v2 v0 q3.2))
  else (R_X8_where_21 v0 v1 v2 v0 q2.2)) := by
  unfold R_X8_where_0
  rw [s_run_eq]
  show s_go _ _ (T_X8_where_0 v0 v1 v2 σ) = _
  unfold T_X8_where_0
  simp only [s_go_bind, s_go_ite, s_go_sum, s_go_l, s_go_r, s_go_n]
  try rfl
theorem E_X8_where_21 {v0 : Nat} {v1 : Int32} {v2 : Int32} {w0 : Nat} {σ : sS} : R_X8_where_21 v0 v1 v2 w0 σ = (R_X8_where_26 v0 v1 v2 1 w0 σ) := by
  unfold R_X8_where_21
  rw [s_run_eq]
  show s_go _ _ (T_X8_where_21 v0 v1 v2 w0 σ) = _
  unfold T_X8_where_21
  simp only [s_go_bind, s_go_ite, s_go_sum, s_go_l, s_go_r, s_go_n]
  try rfl
theorem E_X8_where_26 {v0 : Nat} {v1 : Int32} {v2 : Int32} {w0 : Int32} {w1 : Nat} {σ : sS} : R_X8_where_26 v0 v1 v2 w0 w1 σ = ((F_X8_throwsIf w1 w0 1 σ).bind fun q1 =>
  if q1.1 = 0 then (R_X8_where_43 v0 v1 v2 (-1) 0 0 q1.2)
  else (some (0, q1.2))) := by
  unfold R_X8_where_26
  rw [s_run_eq]
  show s_go _ _ (T_X8_where_26 v0 v1 v2 w0 w1 σ) = _
  unfold T_X8_where_26
  simp only [s_go_bind, s_go_ite, s_go_sum, s_go_l, s_go_r, s_go_n]
  try rfl
theorem E_X8_where_43 {v0 : Nat} {v1 : Int32} {v2 : Int32} {v3 : Int32} {v4 : Int32} {v5 : Int32} {σ : sS} : R_X8_where_43 v0 v1 v2 v3 v4 v5 σ = (if (3 : Int32) ≤ v5 then (some (v3, σ))
  else ((F_X8_costs v0 v5 v1 v2 σ).bind fun q1 =>
  if q1.1 < 0 then (R_X8_where_85 v0 v1 v2 v3 v4 v5 q1.2)
  else (if v3 < 0 then (R_X8_where_78 v0 v1 v2 v5 q1.1 q1.2)
  else (if q1.1 < v4 then (R_X8_where_78 v0 v1 v2 v5 q1.1 q1.2)
  else (R_X8_where_85 v0 v1 v2 v3 v4 v5 q1.2))))) := by
  unfold R_X8_where_43
  rw [s_run_eq]
  show s_go _ _ (T_X8_where_43 v0 v1 v2 v3 v4 v5 σ) = _
  unfold T_X8_where_43
  simp only [s_go_bind, s_go_ite, s_go_sum, s_go_l, s_go_r, s_go_n]
  try rfl
theorem E_X8_where_78 {v0 : Nat} {v1 : Int32} {v2 : Int32} {v5 : Int32} {v6 : Int32} {σ : sS} : R_X8_where_78 v0 v1 v2 v5 v6 σ = (R_X8_where_85 v0 v1 v2 v5 v6 v5 σ) := by
  unfold R_X8_where_78
  rw [s_run_eq]
  show s_go _ _ (T_X8_where_78 v0 v1 v2 v5 v6 σ) = _
  unfold T_X8_where_78
  simp only [s_go_bind, s_go_ite, s_go_sum, s_go_l, s_go_r, s_go_n]
  try rfl
theorem E_X8_where_85 {v0 : Nat} {v1 : Int32} {v2 : Int32} {v3 : Int32} {v4 : Int32} {v5 : Int32} {σ : sS} : R_X8_where_85 v0 v1 v2 v3 v4 v5 σ = (R_X8_where_43 v0 v1 v2 v3 v4 (v5 + 1) σ) := by
  unfold R_X8_where_85
  rw [s_run_eq]
  show s_go _ _ (T_X8_where_85 v0 v1 v2 v3 v4 v5 σ) = _
  unfold T_X8_where_85
  simp only [s_go_bind, s_go_ite, s_go_sum, s_go_l, s_go_r, s_go_n]
  try rfl
theorem E_X8_where {v0 : Nat} {v1 : Int32} {v2 : Int32} {σ : sS} : F_X8_where v0 v1 v2 σ = ((s_is σ v0 8).bind fun _ => R_X8_where_0 v0 v1 v2 σ) := rfl
/-! X7_resold -/
noncomputable def R_X7_resold_0 (v0 : Nat) (v1 : Int32) (v2 : Int32) (v3 : Int32) (σ : sS) : Option ((Int32 ⊕ String) × sS) := s_run (S_X7_resold ) (0, [.ref v0, .int v1, .int v2, .int v3], σ)
theorem E_X7_resold_0 {v0 : Nat} {v1 : Int32} {v2 : Int32} {v3 : Int32} {σ : sS} : R_X7_resold_0 v0 v1 v2 v3 σ = ((F_X7_needProof v0 v1 v2 v3 σ).bind fun q1 => s_sum q1.1 (fun x2 => (s_fr q1.2 v0 7 6).bind fun x4 =>
  (F_X4_costResold x4 v1 q1.2).bind fun q5 =>
  some (.inl q5.1, q5.2)) (fun E3 => some (.inr E3, q1.2))) := by
  unfold R_X7_resold_0
  rw [s_run_eq]
  show s_go _ _ (T_X7_resold_0 v0 v1 v2 v3 σ) = _
  unfold T_X7_resold_0
  simp only [s_go_bind, s_go_ite, s_go_sum, s_go_l, s_go_r, s_go_n]
  try rfl
theorem E_X7_resold {v0 : Nat} {v1 : Int32} {v2 : Int32} {v3 : Int32} {σ : sS} : F_X7_resold v0 v1 v2 v3 σ = ((s_is σ v0 7).bind fun _ => R_X7_resold_0 v0 v1 v2 v3 σ) := rfl
/-! L_resold -/
noncomputable def R_L_resold_0 (v0 : Nat) (v1 : Int32) (v2 : Int32) (v3 : Int32) (v4 : Nat) (σ : sS) : Option (Int32 × sS) := s_run (S_L_resold ) (0, [.ref v0, .int v1, .int v2, .int v3, .ref v4], σ)
theorem E_L_resold_0 {v0 : Nat} {v1 : Int32} {v2 : Int32} {v3 : Int32} {v4 : Nat} {σ : sS} : R_L_resold_0 v0 v1 v2 v3 v4 σ = ((F_X7_resold v0 v1 v2 v3 σ).bind fun q1 => s_sum q1.1 (fun x2 => (s_sl q1.2 v4 0 ((x2 : Int32).toInt64)).bind fun σ4 =>
  some (0, σ4)) (fun E3 => if E3 = "java/lang/IndexOutOfBoundsException" then (some (1, q1.2)) else none)) := by
  unfold R_L_resold_0
  rw [s_run_eq]
  show s_go _ _ (T_L_resold_0 v0 v1 v2 v3 v4 σ) = _
  unfold T_L_resold_0
  simp only [s_go_bind, s_go_ite, s_go_sum, s_go_l, s_go_r, s_go_n]
  try rfl
theorem E_L_resold {v0 : Nat} {v1 : Int32} {v2 : Int32} {v3 : Int32} {v4 : Nat} {σ : sS} : F_L_resold v0 v1 v2 v3 v4 σ = (R_L_resold_0 v0 v1 v2 v3 v4 σ) := rfl
/-! X8_resoldBy -/
noncomputable def R_X8_resoldBy_0 (v0 : Nat) (v1 : Int32) (v2 : Int32) (v3 : Int32) (σ : sS) : Option (Int32 × sS) := s_run (S_X8_resoldBy ) (0, [.ref v0, .int v1, .int v2, .int v3], σ)
noncomputable def R_X8_resoldBy_20 (v0 : Nat) (v1 : Int32) (v2 : Int32) (v3 : Int32) (v4 : Int32) (v5 : Int32) (σ : sS) : Option (Int32 × sS) := s_run (S_X8_resoldBy ) (20, [.ref v0, .int v1, .int v2, .int v3, .int v4, .int v5], σ)
noncomputable def R_X8_resoldBy_44 (v0 : Nat) (v1 : Int32) (v2 : Int32) (v3 : Int32) (v4 : Int32) (v5 : Int32) (w0 : Int32) (σ : sS) : Option (Int32 × sS) := s_run (S_X8_resoldBy ) (44, [.ref v0, .int v1, .int v2, .int v3, .int v4, .int v5, .int w0], σ)
noncomputable def R_X8_resoldBy_63 (v0 : Nat) (v1 : Int32) (v2 : Int32) (v3 : Int32) (v5 : Int32) (w0 : Int32) (σ : sS) : Option (Int32 × sS) := s_run (S_X8_resoldBy ) (63, [.ref v0, .int v1, .int v2, .int v3, .int v5, .int w0], σ)
theorem E_X8_resoldBy_0 {v0 : Nat} {v1 : Int32} {v2 : Int32} {v3 : Int32} {σ : sS} : R_X8_resoldBy_0 v0 v1 v2 v3 σ = ((F_X8_hasRule v0 v1 15 σ).bind fun q1 =>
  if q1.1 = 0 then (some ((-1), q1.2))
  else (R_X8_resoldBy_20 v0 v1 v2 v3 268435456 0 q1.2)) := by
  unfold R_X8_resoldBy_0
  rw [s_run_eq]
  show s_go _ _ (T_X8_resoldBy_0 v0 v1 v2 v3 σ) = _
  unfold T_X8_resoldBy_0
  simp only [s_go_bind, s_go_ite, s_go_sum, s_go_l, s_go_r, s_go_n]
  try rfl
theorem E_X8_resoldBy_20 {v0 : Nat} {v1 : Int32} {v2 : Int32} {v3 : Int32} {v4 : Int32} {v5 : Int32} {σ : sS} : R_X8_resoldBy_20 v0 v1 v2 v3 v4 v5 σ = (if (3 : Int32) ≤ v5 then (if v4 < 268435456 then ((F_X8_costOf v0 v1 15 v3 σ).bind fun q1 =>
  some ((v4 + q1.1), q1.2))
  else (some ((-1), σ)))
  else (if v5 = v1 then (R_X8_resoldBy_44 v0 v1 v2 v3 v4 v5 (-1) σ)
  else ((F_X8_costs v0 v5 v2 v3 σ).bind fun q2 =>
  R_X8_resoldBy_44 v0 v1 v2 v3 v4 v5 q2.1 q2.2))) := by
  unfold R_X8_resoldBy_20
  rw [s_run_eq]
  show s_go _ _ (T_X8_resoldBy_20 v0 v1 v2 v3 v4 v5 σ) = _
  unfold T_X8_resoldBy_20
  simp only [s_go_bind, s_go_ite, s_go_sum, s_go_l, s_go_r, s_go_n]
  try rfl
theorem E_X8_resoldBy_44 {v0 : Nat} {v1 : Int32} {v2 : Int32} {v3 : Int32} {v4 : Int32} {v5 : Int32} {w0 : Int32} {σ : sS} : R_X8_resoldBy_44 v0 v1 v2 v3 v4 v5 w0 σ = (if (0 : Int32) ≤ w0 then (R_X8_resoldBy_63 v0 v1 v2 v3 v5 (if w0 < v4 then w0 else v4) σ)
  else (R_X8_resoldBy_63 v0 v1 v2 v3 v5 v4 σ)) := by
  unfold R_X8_resoldBy_44
  rw [s_run_eq]
  show s_go _ _ (T_X8_resoldBy_44 v0 v1 v2 v3 v4 v5 w0 σ) = _
  unfold T_X8_resoldBy_44
  simp only [s_go_bind, s_go_ite, s_go_sum, s_go_l, s_go_r, s_go_n]
  try rfl
theorem E_X8_resoldBy_63 {v0 : Nat} {v1 : Int32} {v2 : Int32} {v3 : Int32} {v5 : Int32} {w0 : Int32} {σ : sS} : R_X8_resoldBy_63 v0 v1 v2 v3 v5 w0 σ = (R_X8_resoldBy_20 v0 v1 v2 v3 w0 (v5 + 1) σ) := by
  unfold R_X8_resoldBy_63
  rw [s_run_eq]
  show s_go _ _ (T_X8_resoldBy_63 v0 v1 v2 v3 v5 w0 σ) = _
  unfold T_X8_resoldBy_63
  simp only [s_go_bind, s_go_ite, s_go_sum, s_go_l, s_go_r, s_go_n]
  try rfl
theorem E_X8_resoldBy {v0 : Nat} {v1 : Int32} {v2 : Int32} {v3 : Int32} {σ : sS} : F_X8_resoldBy v0 v1 v2 v3 σ = ((s_is σ v0 8).bind fun _ => R_X8_resoldBy_0 v0 v1 v2 v3 σ) := rfl
/-! X8_resold -/
noncomputable def R_X8_resold_0 (v0 : Nat) (v1 : Int32) (v2 : Int32) (v3 : Int32) (σ : sS) : Option (Int32 × sS) := s_run (S_X8_resold ) (0, [.ref v0, .int v1, .int v2, .int v3], σ)
theorem E_X8_resold_0 {v0 : Nat} {v1 : Int32} {v2 : Int32} {v3 : Int32} {σ : sS} : R_X8_resold_0 v0 v1 v2 v3 σ = ((s_pf σ v0 8 0 (.int 0)).bind fun σ1 =>
  (F_X8_noProof v0 v1 v2 v3 σ1).bind fun q2 =>
  (F_X8_throwsIf v0 q2.1 1 q2.2).bind fun q3 =>
  if q3.1 = 0 then ((F_X8_resoldBy v0 v1 v2 v3 q3.2).bind fun q4 =>
  some (q4.1, q4.2))
  else (some (0, q3.2))) := by
  unfold R_X8_resold_0
  rw [s_run_eq]
  show s_go _ _ (T_X8_resold_0 v0 v1 v2 v3 σ) = _
  unfold T_X8_resold_0
  simp only [s_go_bind, s_go_ite, s_go_sum, s_go_l, s_go_r, s_go_n]
  try rfl
theorem E_X8_resold {v0 : Nat} {v1 : Int32} {v2 : Int32} {v3 : Int32} {σ : sS} : F_X8_resold v0 v1 v2 v3 σ = ((s_is σ v0 8).bind fun _ => R_X8_resold_0 v0 v1 v2 v3 σ) := rfl
/-! X8_forward -/
noncomputable def R_X8_forward_0 (v0 : Nat) (v1 : Int32) (v2 : Int32) (v3 : Int32) (σ : sS) : Option (Int32 × sS) := s_run (S_X8_forward ) (0, [.ref v0, .int v1, .int v2, .int v3], σ)
theorem E_X8_forward_0 {v0 : Nat} {v1 : Int32} {v2 : Int32} {v3 : Int32} {σ : sS} : R_X8_forward_0 v0 v1 v2 v3 σ = ((s_pf σ v0 8 0 (.int 0)).bind fun σ1 =>
  (F_X8_noProof v0 v1 v2 v3 σ1).bind fun q2 =>
  (F_X8_throwsIf v0 q2.1 1 q2.2).bind fun q3 =>
  if q3.1 = 0 then ((F_X8_costs v0 v1 v2 v3 q3.2).bind fun q4 =>
  (F_X8_resoldBy v0 v1 v2 v3 q4.2).bind fun q5 =>
  if (0 : Int32) ≤ q4.1 then (if (0 : Int32) ≤ q5.1 then (some ((if 0 < (q4.1 - q5.1) then (q4.1 - q5.1) else 0), q5.2))
  else (some (0, q5.2)))
  else (some ((-1), q5.2)))
  else (some (0, q3.2))) := by
  unfold R_X8_forward_0
  rw [s_run_eq]
  show s_go _ _ (T_X8_forward_0 v0 v1 v2 v3 σ) = _
  unfold T_X8_forward_0
  simp only [s_go_bind, s_go_ite, s_go_sum, s_go_l, s_go_r, s_go_n]
  try rfl
theorem E_X8_forward {v0 : Nat} {v1 : Int32} {v2 : Int32} {v3 : Int32} {σ : sS} : F_X8_forward v0 v1 v2 v3 σ = ((s_is σ v0 8).bind fun _ => R_X8_forward_0 v0 v1 v2 v3 σ) := rfl
/-! X3_truthsIn -/
noncomputable def R_X3_truthsIn_0 (v0 : Nat) (v1 : Int32) (σ : sS) : Option (Int32 × sS) := s_run (S_X3_truthsIn ) (0, [.ref v0, .int v1], σ)
noncomputable def R_X3_truthsIn_4 (v0 : Nat) (v1 : Int32) (v2 : Int32) (v3 : Int32) (σ : sS) : Option (Int32 × sS) := s_run (S_X3_truthsIn ) (4, [.ref v0, .int v1, .int v2, .int v3], σ)
noncomputable def R_X3_truthsIn_30 (v0 : Nat) (v1 : Int32) (v2 : Int32) (v3 : Int32) (σ : sS) : Option (Int32 × sS) := s_run (S_X3_truthsIn ) (30, [.ref v0, .int v1, .int v2, .int v3], σ)
theorem E_X3_truthsIn_0 {v0 : Nat} {v1 : Int32} {σ : sS} : R_X3_truthsIn_0 v0 v1 σ = (R_X3_truthsIn_4 v0 v1 0 0 σ) := by
  unfold R_X3_truthsIn_0
  rw [s_run_eq]
  show s_go _ _ (T_X3_truthsIn_0 v0 v1 σ) = _
  unfold T_X3_truthsIn_0
  simp only [s_go_bind, s_go_ite, s_go_sum, s_go_l, s_go_r, s_go_n]
  try rfl
theorem E_X3_truthsIn_4 {v0 : Nat} {v1 : Int32} {v2 : Int32} {v3 : Int32} {σ : sS} : R_X3_truthsIn_4 v0 v1 v2 v3 σ = ((s_fr σ v0 3 0).bind fun x1 =>
  (s_fi σ x1 1 2).bind fun x2 =>
  if x2 ≤ v3 then (some (v2, σ))
  else ((s_fr σ v0 3 0).bind fun x3 =>
  (F_X1_isTrue x3 v3 v1 σ).bind fun q4 =>
  if q4.1 = 0 then (R_X3_truthsIn_30 v0 v1 v2 v3 q4.2)
  else (R_X3_truthsIn_30 v0 v1 (v2 + 1) v3 q4.2))) := by
  unfold R_X3_truthsIn_4
  rw [s_run_eq]
  show s_go _ _ (T_X3_truthsIn_4 v0 v1 v2 v3 σ) = _
  unfold T_X3_truthsIn_4
  simp only [s_go_bind, s_go_ite, s_go_sum, s_go_l, s_go_r, s_go_n]
  try rfl
theorem E_X3_truthsIn_30 {v0 : Nat} {v1 : Int32} {v2 : Int32} {v3 : Int32} {σ : sS} : R_X3_truthsIn_30 v0 v1 v2 v3 σ = (R_X3_truthsIn_4 v0 v1 v2 (v3 + 1) σ) := by
  unfold R_X3_truthsIn_30
  rw [s_run_eq]
  show s_go _ _ (T_X3_truthsIn_30 v0 v1 v2 v3 σ) = _
  unfold T_X3_truthsIn_30
  simp only [s_go_bind, s_go_ite, s_go_sum, s_go_l, s_go_r, s_go_n]
  try rfl
theorem E_X3_truthsIn {v0 : Nat} {v1 : Int32} {σ : sS} : F_X3_truthsIn v0 v1 σ = ((s_is σ v0 3).bind fun _ => R_X3_truthsIn_0 v0 v1 σ) := rfl
/-! X7_truths -/
noncomputable def R_X7_truths_0 (v0 : Nat) (v1 : Int32) (σ : sS) : Option ((Int32 ⊕ String) × sS) := s_run (S_X7_truths ) (0, [.ref v0, .int v1], σ)
theorem E_X7_truths_0 {v0 : Nat} {v1 : Int32} {σ : sS} : R_X7_truths_0 v0 v1 σ = ((F_X7_needWorld v0 v1 σ).bind fun q1 => s_sum q1.1 (fun x2 => (s_fr q1.2 v0 7 4).bind fun x4 =>
  (F_X3_truthsIn x4 v1 q1.2).bind fun q5 =>
  some (.inl q5.1, q5.2)) (fun E3 => some (.inr E3, q1.2))) := by
  unfold R_X7_truths_0
  rw [s_run_eq]
  show s_go _ _ (T_X7_truths_0 v0 v1 σ) = _
  unfold T_X7_truths_0
  simp only [s_go_bind, s_go_ite, s_go_sum, s_go_l, s_go_r, s_go_n]
  try rfl
theorem E_X7_truths {v0 : Nat} {v1 : Int32} {σ : sS} : F_X7_truths v0 v1 σ = ((s_is σ v0 7).bind fun _ => R_X7_truths_0 v0 v1 σ) := rfl
/-! L_truths -/
noncomputable def R_L_truths_0 (v0 : Nat) (v1 : Int32) (v2 : Nat) (σ : sS) : Option (Int32 × sS) := s_run (S_L_truths ) (0, [.ref v0, .int v1, .ref v2], σ)
theorem E_L_truths_0 {v0 : Nat} {v1 : Int32} {v2 : Nat} {σ : sS} : R_L_truths_0 v0 v1 v2 σ = ((F_X7_truths v0 v1 σ).bind fun q1 => s_sum q1.1 (fun x2 => (s_sl q1.2 v2 0 ((x2 : Int32).toInt64)).bind fun σ4 =>
  some (0, σ4)) (fun E3 => if E3 = "java/lang/IllegalArgumentException" then (some (1, q1.2)) else none)) := by
  unfold R_L_truths_0
  rw [s_run_eq]
  show s_go _ _ (T_L_truths_0 v0 v1 v2 σ) = _
  unfold T_L_truths_0
  simp only [s_go_bind, s_go_ite, s_go_sum, s_go_l, s_go_r, s_go_n]
  try rfl
theorem E_L_truths {v0 : Nat} {v1 : Int32} {v2 : Nat} {σ : sS} : F_L_truths v0 v1 v2 σ = (R_L_truths_0 v0 v1 v2 σ) := rfl
/-! X8_truths -/
noncomputable def R_X8_truths_0 (v0 : Nat) (v1 : Int32) (σ : sS) : Option (Int32 × sS) := s_run (S_X8_truths ) (0, [.ref v0, .int v1], σ)
noncomputable def R_X8_truths_24 (v0 : Nat) (v1 : Int32) (v2 : Int32) (v3 : Int32) (σ : sS) : Option (Int32 × sS) := s_run (S_X8_truths ) (24, [.ref v0, .int v1, .int v2, .int v3], σ)
noncomputable def R_X8_truths_47 (v0 : Nat) (v1 : Int32) (v3 : Int32) (w0 : Int32) (w1 : Int32) (σ : sS) : Option (Int32 × sS) := s_run (S_X8_truths ) (47, [.ref v0, .int v1, .int v3, .int w0, .int w1], σ)
theorem E_X8_truths_0 {v0 : Nat} {v1 : Int32} {σ : sS} : R_X8_truths_0 v0 v1 σ = ((s_pf σ v0 8 0 (.int 0)).bind fun σ1 =>
  (F_X8_noWorld v0 v1 σ1).bind fun q2 =>
  (F_X8_throwsIf v0 q2.1 1 q2.2).bind fun q3 =>
  if q3.1 = 0 then (R_X8_truths_24 v0 v1 0 0 q3.2)
  else (some (0, q3.2))) := by
  unfold R_X8_truths_0
  rw [s_run_eq]
  show s_go _ _ (T_X8_truths_0 v0 v1 σ) = _
  unfold T_X8_truths_0
  simp only [s_go_bind, s_go_ite, s_go_sum, s_go_l, s_go_r, s_go_n]
  try rfl
theorem E_X8_truths_24 {v0 : Nat} {v1 : Int32} {v2 : Int32} {v3 : Int32} {σ : sS} : R_X8_truths_24 v0 v1 v2 v3 σ = ((F_X8_formulas v0 σ).bind fun q1 =>
  if q1.1 ≤ v3 then (some (v2, q1.2))
  else ((F_X8_isTrue v0 v3 v1 q1.2).bind fun q2 =>
  if q2.1 = 0 then (R_X8_truths_47 v0 v1 v3 0 v2 q2.2)
  else (R_X8_truths_47 v0 v1 v3 1 v2 q2.2))) := by
  unfold R_X8_truths_24
  rw [s_run_eq]
  show s_go _ _ (T_X8_truths_24 v0 v1 v2 v3 σ) = _
  unfold T_X8_truths_24
  simp only [s_go_bind, s_go_ite, s_go_sum, s_go_l, s_go_r, s_go_n]
  try rfl
theorem E_X8_truths_47 {v0 : Nat} {v1 : Int32} {v3 : Int32} {w0 : Int32} {w1 : Int32} {σ : sS} : R_X8_truths_47 v0 v1 v3 w0 w1 σ = (R_X8_truths_24 v0 v1 (w1 + w0) (v3 + 1) σ) := by
  unfold R_X8_truths_47
  rw [s_run_eq]
  show s_go _ _ (T_X8_truths_47 v0 v1 v3 w0 w1 σ) = _
  unfold T_X8_truths_47
  simp only [s_go_bind, s_go_ite, s_go_sum, s_go_l, s_go_r, s_go_n]
  try rfl
theorem E_X8_truths {v0 : Nat} {v1 : Int32} {σ : sS} : F_X8_truths v0 v1 σ = ((s_is σ v0 8).bind fun _ => R_X8_truths_0 v0 v1 σ) := rfl
/-! X8_agree -/
noncomputable def R_X8_agree_0 (v0 : Nat) (v1 : Int32) (v2 : Int32) (σ : sS) : Option (Int32 × sS) := s_run (S_X8_agree ) (0, [.ref v0, .int v1, .int v2], σ)
noncomputable def R_X8_agree_20 (v0 : Nat) (v1 : Int32) (v2 : Int32) (w0 : Nat) (σ : sS) : Option (Int32 × sS) := s_run (S_X8_agree ) (20, [.ref v0, .int v1, .int v2, .ref w0], σ)
noncomputable def R_X8_agree_25 (v0 : Nat) (v1 : Int32) (v2 : Int32) (w0 : Int32) (w1 : Nat) (σ : sS) : Option (Int32 × sS) := s_run (S_X8_agree ) (25, [.ref v0, .int v1, .int v2, .int w0, .ref w1], σ)
theorem E_X8_agree_0 {v0 : Nat} {v1 : Int32} {v2 : Int32} {σ : sS} : R_X8_agree_0 v0 v1 v2 σ = ((s_pf σ v0 8 0 (.int 0)).bind fun σ1 =>
  (F_X8_noCustomer v1 σ1).bind fun q2 =>
  if q2.1 = 0 then ((F_X8_noCustomer v2 q2.2).bind fun q3 =>
  if q3.1 = 0 then (R_X8_agree_25 v0 v1 v2 0 v0 q3.2)
  else (R_X8_agree_20 v0 v1 v2 v0 q3.2))
  else (R_X8_agree_20 v0 v1 v2 v0 q2.2)) := by
  unfold R_X8_agree_0
  rw [s_run_eq]
  show s_go _ _ (T_X8_agree_0 v0 v1 v2 σ) = _
  unfold T_X8_agree_0
  simp only [s_go_bind, s_go_ite, s_go_sum, s_go_l, s_go_r, s_go_n]
  try rfl
theorem E_X8_agree_20 {v0 : Nat} {v1 : Int32} {v2 : Int32} {w0 : Nat} {σ : sS} : R_X8_agree_20 v0 v1 v2 w0 σ = (R_X8_agree_25 v0 v1 v2 1 w0 σ) := by
  unfold R_X8_agree_20
  rw [s_run_eq]
  show s_go _ _ (T_X8_agree_20 v0 v1 v2 w0 σ) = _
  unfold T_X8_agree_20
  simp only [s_go_bind, s_go_ite, s_go_sum, s_go_l, s_go_r, s_go_n]
  try rfl
theorem E_X8_agree_25 {v0 : Nat} {v1 : Int32} {v2 : Int32} {w0 : Int32} {w1 : Nat} {σ : sS} : R_X8_agree_25 v0 v1 v2 w0 w1 σ = ((F_X8_throwsIf w1 w0 1 σ).bind fun q1 =>
  if q1.1 = 0 then ((F_X8_beliefsOf v0 v1 q1.2).bind fun q2 =>
  (F_X8_beliefsOf v0 v2 q2.2).bind fun q3 =>
  (F_X8_leastWorld v0 (q2.1 ||| q3.1) (-1) q3.2).bind fun q4 =>
  some (q4.1, q4.2))
  else (some (0, q1.2))) := by
  unfold R_X8_agree_25
  rw [s_run_eq]
  show s_go _ _ (T_X8_agree_25 v0 v1 v2 w0 w1 σ) = _
  unfold T_X8_agree_25
  simp only [s_go_bind, s_go_ite, s_go_sum, s_go_l, s_go_r, s_go_n]
  try rfl
theorem E_X8_agree {v0 : Nat} {v1 : Int32} {v2 : Int32} {σ : sS} : F_X8_agree v0 v1 v2 σ = ((s_is σ v0 8).bind fun _ => R_X8_agree_0 v0 v1 v2 σ) := rfl
/-! X3_fewestFailing -/
noncomputable def R_X3_fewestFailing_0 (v0 : Nat) (v1 : Int32) (σ : sS) : Option (Int32 × sS) := s_run (S_X3_fewestFailing ) (0, [.ref v0, .int v1], σ)
noncomputable def R_X3_fewestFailing_18 (v0 : Nat) (v2 : Int32) (v3 : Int32) (v4 : Int32) (v5 : Int32) (σ : sS) : Option (Int32 × sS) := s_run (S_X3_fewestFailing ) (18, [.ref v0, .int v2, .int v3, .int v4, .int v5], σ)
noncomputable def R_X3_fewestFailing_57 (v0 : Nat) (v2 : Int32) (v3 : Int32) (v4 : Int32) (v5 : Int32) (σ : sS) : Option (Int32 × sS) := s_run (S_X3_fewestFailing ) (57, [.ref v0, .int v2, .int v3, .int v4, .int v5], σ)
theorem E_X3_fewestFailing_0 {v0 : Nat} {v1 : Int32} {σ : sS} : R_X3_fewestFailing_0 v0 v1 σ = ((F_X3_listMembers v0 v1 σ).bind fun q1 =>
  R_X3_fewestFailing_18 v0 q1.1 ((1 <<< (q1.1 &&& 31)) - 1) ((1 <<< (q1.1 &&& 31)) - 1) 0 q1.2) := by
  unfold R_X3_fewestFailing_0
  rw [s_run_eq]
  show s_go _ _ (T_X3_fewestFailing_0 v0 v1 σ) = _
  unfold T_X3_fewestFailing_0
  simp only [s_go_bind, s_go_ite, s_go_sum, s_go_l, s_go_r, s_go_n]
  try rfl
theorem E_X3_fewestFailing_18 {v0 : Nat} {v2 : Int32} {v3 : Int32} {v4 : Int32} {v5 : Int32} {σ : sS} : R_X3_fewestFailing_18 v0 v2 v3 v4 v5 σ = ((s_fr σ v0 3 0).bind fun x1 =>
  (F_X1_worldCount x1 σ).bind fun q2 =>
  if q2.1 ≤ v5 then ((F_X3_formulasOf v0 v4 q2.2).bind fun q3 =>
  some (q3.1, q3.2))
  else ((F_X3_membersIn v0 v5 v2 q2.2).bind fun q4 =>
  (F_X3_isBetter (v3 &&& (q4.1 ^^^ (-1))) v4 q4.2).bind fun q5 =>
  if q5.1 = 0 then (R_X3_fewestFailing_57 v0 v2 v3 v4 v5 q5.2)
  else (R_X3_fewestFailing_57 v0 v2 v3 (v3 &&& (q4.1 ^^^ (-1))) v5 q5.2))) := by
  unfold R_X3_fewestFailing_18
  rw [s_run_eq]
  show s_go _ _ (T_X3_fewestFailing_18 v0 v2 v3 v4 v5 σ) = _
  unfold T_X3_fewestFailing_18
  simp only [s_go_bind, s_go_ite, s_go_sum, s_go_l, s_go_r, s_go_n]
  try rfl
theorem E_X3_fewestFailing_57 {v0 : Nat} {v2 : Int32} {v3 : Int32} {v4 : Int32} {v5 : Int32} {σ : sS} : R_X3_fewestFailing_57 v0 v2 v3 v4 v5 σ = (R_X3_fewestFailing_18 v0 v2 v3 v4 (v5 + 1) σ) := by
  unfold R_X3_fewestFailing_57
  rw [s_run_eq]
  show s_go _ _ (T_X3_fewestFailing_57 v0 v2 v3 v4 v5 σ) = _
  unfold T_X3_fewestFailing_57
  simp only [s_go_bind, s_go_ite, s_go_sum, s_go_l, s_go_r, s_go_n]
  try rfl
theorem E_X3_fewestFailing {v0 : Nat} {v1 : Int32} {σ : sS} : F_X3_fewestFailing v0 v1 σ = ((s_is σ v0 3).bind fun _ => R_X3_fewestFailing_0 v0 v1 σ) := rfl
/-! X7_withdraw -/
noncomputable def R_X7_withdraw_0 (v0 : Nat) (v1 : Int32) (σ : sS) : Option ((Int32 ⊕ String) × sS) := s_run (S_X7_withdraw ) (0, [.ref v0, .int v1], σ)
theorem E_X7_withdraw_0 {v0 : Nat} {v1 : Int32} {σ : sS} : R_X7_withdraw_0 v0 v1 σ = ((F_X7_needSet v0 v1 σ).bind fun q1 => s_sum q1.1 (fun x2 => (s_fr q1.2 v0 7 4).bind fun x4 =>
  (F_X3_fewestFailing x4 x2 q1.2).bind fun q5 =>
  some (.inl q5.1, q5.2)) (fun E3 => some (.inr E3, q1.2))) := by
  unfold R_X7_withdraw_0
  rw [s_run_eq]
  show s_go _ _ (T_X7_withdraw_0 v0 v1 σ) = _
  unfold T_X7_withdraw_0
  simp only [s_go_bind, s_go_ite, s_go_sum, s_go_l, s_go_r, s_go_n]
  try rfl
theorem E_X7_withdraw {v0 : Nat} {v1 : Int32} {σ : sS} : F_X7_withdraw v0 v1 σ = ((s_is σ v0 7).bind fun _ => R_X7_withdraw_0 v0 v1 σ) := rfl
/-! L_withdraw -/
noncomputable def R_L_withdraw_0 (v0 : Nat) (v1 : Int32) (v2 : Nat) (σ : sS) : Option (Int32 × sS) := s_run (S_L_withdraw ) (0, [.ref v0, .int v1, .ref v2], σ)
theorem E_L_withdraw_0 {v0 : Nat} {v1 : Int32} {v2 : Nat} {σ : sS} : R_L_withdraw_0 v0 v1 v2 σ = ((F_X7_withdraw v0 v1 σ).bind fun q1 => s_sum q1.1 (fun x2 => (s_sl q1.2 v2 0 ((x2 : Int32).toInt64)).bind fun σ4 =>
  some (0, σ4)) (fun E3 => if E3 = "java/lang/IllegalArgumentException" then (some (1, q1.2)) else none)) := by
  unfold R_L_withdraw_0
  rw [s_run_eq]
  show s_go _ _ (T_L_withdraw_0 v0 v1 v2 σ) = _
  unfold T_L_withdraw_0
  simp only [s_go_bind, s_go_ite, s_go_sum, s_go_l, s_go_r, s_go_n]
  try rfl
theorem E_L_withdraw {v0 : Nat} {v1 : Int32} {v2 : Nat} {σ : sS} : F_L_withdraw v0 v1 v2 σ = (R_L_withdraw_0 v0 v1 v2 σ) := rfl
/-! X8_fails -/
noncomputable def R_X8_fails_0 (v0 : Nat) (v1 : Int32) (σ : sS) : Option (Int32 × sS) := s_run (S_X8_fails ) (0, [.ref v0, .int v1], σ)
noncomputable def R_X8_fails_13 (v0 : Nat) (v2 : Int32) (v3 : Int32) (σ : sS) : Option (Int32 × sS) := s_run (S_X8_fails ) (13, [.ref v0, .int v2, .int v3], σ)
noncomputable def R_X8_fails_31 (v0 : Nat) (v2 : Int32) (v3 : Int32) (v4 : Int32) (σ : sS) : Option (Int32 × sS) := s_run (S_X8_fails ) (31, [.ref v0, .int v2, .int v3, .int v4], σ)
noncomputable def R_X8_fails_74 (v0 : Nat) (v2 : Int32) (v3 : Int32) (v4 : Int32) (w0 : Int32) (w1 : Int32) (w2 : Nat) (σ : sS) : Option (Int32 × sS) := s_run (S_X8_fails ) (74, [.ref v0, .int v2, .int v3, .int v4, .int w0, .int w1, .ref w2], σ)
noncomputable def R_X8_fails_75 (v0 : Nat) (v2 : Int32) (v3 : Int32) (v4 : Int32) (w0 : Int32) (w1 : Int32) (w2 : Int32) (w3 : Nat) (σ : sS) : Option (Int32 × sS) := s_run (S_X8_fails ) (75, [.ref v0, .int v2, .int v3, .int v4, .int w0, .int w1, .int w2, .ref w3], σ)
theorem E_X8_fails_0 {v0 : Nat} {v1 : Int32} {σ : sS} : R_X8_fails_0 v0 v1 σ = ((F_X8_formulas v0 σ).bind fun q1 =>
  R_X8_fails_13 v0 (v1 &&& ((1 <<< (q1.1 &&& 31)) - 1)) 0 q1.2) := by
  unfold R_X8_fails_0
  rw [s_run_eq]
  show s_go _ _ (T_X8_fails_0 v0 v1 σ) = _
  unfold T_X8_fails_0
  simp only [s_go_bind, s_go_ite, s_go_sum, s_go_l, s_go_r, s_go_n]
  try rfl
theorem E_X8_fails_13 {v0 : Nat} {v2 : Int32} {v3 : Int32} {σ : sS} : R_X8_fails_13 v0 v2 v3 σ = ((F_X8_worldsMany v0 σ).bind fun q1 =>
  if q1.1 ≤ v3 then (some (v2, q1.2))
  else ((s_fr q1.2 v0 8 20).bind fun x2 =>
  (s_si q1.2 x2 v3 0).bind fun σ3 =>
  R_X8_fails_31 v0 v2 v3 0 σ3)) := by
  unfold R_X8_fails_13
  rw [s_run_eq]
  show s_go _ _ (T_X8_fails_13 v0 v2 v3 σ) = _
  unfold T_X8_fails_13
  simp only [s_go_bind, s_go_ite, s_go_sum, s_go_l, s_go_r, s_go_n]
  try rfl
theorem E_X8_fails_31 {v0 : Nat} {v2 : Int32} {v3 : Int32} {v4 : Int32} {σ : sS} : R_X8_fails_31 v0 v2 v3 v4 σ = ((F_X8_formulas v0 σ).bind fun q1 =>
  if q1.1 ≤ v4 then (R_X8_fails_13 v0 v2 (v3 + 1) q1.2)
  else ((s_fr q1.2 v0 8 20).bind fun x2 =>
  (s_ai q1.2 x2 v3).bind fun x3 =>
  if ((v2 >>> (v4 &&& 31)) &&& 1) = 1 then ((F_X8_isTrue v0 v4 v3 q1.2).bind fun q4 =>
  if q4.1 = 0 then (R_X8_fails_75 v0 v2 v3 v4 (1 <<< (v4 &&& 31)) x3 v3 x2 q4.2)
  else (R_X8_fails_74 v0 v2 v3 v4 x3 v3 x2 q4.2))
  else (R_X8_fails_74 v0 v2 v3 v4 x3 v3 x2 q1.2))) := by
  unfold R_X8_fails_31
  rw [s_run_eq]
  show s_go _ _ (T_X8_fails_31 v0 v2 v3 v4 σ) = _
  unfold T_X8_fails_31
  simp only [s_go_bind, s_go_ite, s_go_sum, s_go_l, s_go_r, s_go_n]
  try rfl
theorem E_X8_fails_74 {v0 : Nat} {v2 : Int32} {v3 : Int32} {v4 : Int32} {w0 : Int32} {w1 : Int32} {w2 : Nat} {σ : sS} : R_X8_fails_74 v0 v2 v3 v4 w0 w1 w2 σ = (R_X8_fails_75 v0 v2 v3 v4 0 w0 w1 w2 σ) := by
  unfold R_X8_fails_74
  rw [s_run_eq]
  show s_go _ _ (T_X8_fails_74 v0 v2 v3 v4 w0 w1 w2 σ) = _
  unfold T_X8_fails_74
  simp only [s_go_bind, s_go_ite, s_go_sum, s_go_l, s_go_r, s_go_n]
  try rfl
theorem E_X8_fails_75 {v0 : Nat} {v2 : Int32} {v3 : Int32} {v4 : Int32} {w0 : Int32} {w1 : Int32} {w2 : Int32} {w3 : Nat} {σ : sS} : R_X8_fails_75 v0 v2 v3 v4 w0 w1 w2 w3 σ = ((s_si σ w3 w2 (w1 ||| w0)).bind fun σ1 =>
  R_X8_fails_31 v0 v2 v3 (v4 + 1) σ1) := by
  unfold R_X8_fails_75
  rw [s_run_eq]
  show s_go _ _ (T_X8_fails_75 v0 v2 v3 v4 w0 w1 w2 w3 σ) = _
  unfold T_X8_fails_75
  simp only [s_go_bind, s_go_ite, s_go_sum, s_go_l, s_go_r, s_go_n]
  try rfl
theorem E_X8_fails {v0 : Nat} {v1 : Int32} {σ : sS} : F_X8_fails v0 v1 σ = ((s_is σ v0 8).bind fun _ => R_X8_fails_0 v0 v1 σ) := rfl
/-! X8_isFewer -/
noncomputable def R_X8_isFewer_0 (v0 : Int32) (v1 : Int32) (σ : sS) : Option (Int32 × sS) := s_run (S_X8_isFewer ) (0, [.int v0, .int v1], σ)
theorem E_X8_isFewer_0 {v0 : Int32} {v1 : Int32} {σ : sS} : R_X8_isFewer_0 v0 v1 σ = ((F_J6_bitCount_0f7a4 v0 σ).bind fun q1 =>
  (F_J6_bitCount_0f7a4 v1 q1.2).bind fun q2 =>
  if q1.1 = q2.1 then (if v1 ≤ v0 then (some (0, q2.2))
  else (some (1, q2.2)))
  else ((F_J6_bitCount_0f7a4 v0 q2.2).bind fun q3 =>
  (F_J6_bitCount_0f7a4 v1 q3.2).bind fun q4 =>
  if q4.1 ≤ q3.1 then (some (0, q4.2))
  else (some (1, q4.2)))) := by
  unfold R_X8_isFewer_0
  rw [s_run_eq]
  show s_go _ _ (T_X8_isFewer_0 v0 v1 σ) = _
  unfold T_X8_isFewer_0
  simp only [s_go_bind, s_go_ite, s_go_sum, s_go_l, s_go_r, s_go_n]
  try rfl
theorem E_X8_isFewer {v0 : Int32} {v1 : Int32} {σ : sS} : F_X8_isFewer v0 v1 σ = (R_X8_isFewer_0 v0 v1 σ) := rfl
/-! X8_withdraw -/
noncomputable def R_X8_withdraw_0 (v0 : Nat) (v1 : Int32) (σ : sS) : Option (Int32 × sS) := s_run (S_X8_withdraw ) (0, [.ref v0, .int v1], σ)
noncomputable def R_X8_withdraw_26 (v0 : Nat) (w0 : Int32) (w1 : Nat) (σ : sS) : Option (Int32 × sS) := s_run (S_X8_withdraw ) (26, [.ref v0, .int w0, .ref w1], σ)
noncomputable def R_X8_withdraw_45 (v0 : Nat) (v3 : Int32) (v4 : Int32) (σ : sS) : Option (Int32 × sS) := s_run (S_X8_withdraw ) (45, [.ref v0, .int v3, .int v4], σ)
noncomputable def R_X8_withdraw_79 (v0 : Nat) (v4 : Int32) (w0 : Int32) (σ : sS) : Option (Int32 × sS) := s_run (S_X8_withdraw ) (79, [.ref v0, .int v4, .int w0], σ)
theorem E_X8_withdraw_0 {v0 : Nat} {v1 : Int32} {σ : sS} : R_X8_withdraw_0 v0 v1 σ = ((s_pf σ v0 8 0 (.int 0)).bind fun σ1 =>
  (F_X8_fails v0 v1 σ1).bind fun q2 =>
  (F_J6_bitCount_0f7a4 q2.1 q2.2).bind fun q3 =>
  if q3.1 ≤ 14 then (R_X8_withdraw_26 v0 0 v0 q3.2)
  else (R_X8_withdraw_26 v0 1 v0 q3.2)) := by
  unfold R_X8_withdraw_0
  rw [s_run_eq]
  show s_go _ _ (T_X8_withdraw_0 v0 v1 σ) = _
  unfold T_X8_withdraw_0
  simp only [s_go_bind, s_go_ite, s_go_sum, s_go_l, s_go_r, s_go_n]
  try rfl
theorem E_X8_withdraw_26 {v0 : Nat} {w0 : Int32} {w1 : Nat} {σ : sS} : R_X8_withdraw_26 v0 w0 w1 σ = ((F_X8_throwsIf w1 w0 1 σ).bind fun q1 =>
  if q1.1 = 0 then ((s_fr q1.2 v0 8 20).bind fun x2 =>
  (s_ai q1.2 x2 0).bind fun x3 =>
  R_X8_withdraw_45 v0 x3 1 q1.2)
  else (some (0, q1.2))) := by
  unfold R_X8_withdraw_26
  rw [s_run_eq]
  show s_go _ _ (T_X8_withdraw_26 v0 w0 w1 σ) = _
  unfold T_X8_withdraw_26
  simp only [s_go_bind, s_go_ite, s_go_sum, s_go_l, s_go_r, s_go_n]
  try rfl
theorem E_X8_withdraw_45 {v0 : Nat} {v3 : Int32} {v4 : Int32} {σ : sS} : R_X8_withdraw_45 v0 v3 v4 σ = ((F_X8_worldsMany v0 σ).bind fun q1 =>
  if q1.1 ≤ v4 then (some (v3, q1.2))
  else ((s_fr q1.2 v0 8 20).bind fun x2 =>
  (s_ai q1.2 x2 v4).bind fun x3 =>
  (F_X8_isFewer x3 v3 q1.2).bind fun q4 =>
  if q4.1 = 0 then (R_X8_withdraw_79 v0 v4 v3 q4.2)
  else ((s_fr q4.2 v0 8 20).bind fun x5 =>
  (s_ai q4.2 x5 v4).bind fun x6 =>
  R_X8_withdraw_79 v0 v4 x6 q4.2))) := by
  unfold R_X8_withdraw_45
  rw [s_run_eq]
  show s_go _ _ (T_X8_withdraw_45 v0 v3 v4 σ) = _
  unfold T_X8_withdraw_45
  simp only [s_go_bind, s_go_ite, s_go_sum, s_go_l, s_go_r, s_go_n]
  try rfl
theorem E_X8_withdraw_79 {v0 : Nat} {v4 : Int32} {w0 : Int32} {σ : sS} : R_X8_withdraw_79 v0 v4 w0 σ = (R_X8_withdraw_45 v0 w0 (v4 + 1) σ) := by
  unfold R_X8_withdraw_79
  rw [s_run_eq]
  show s_go _ _ (T_X8_withdraw_79 v0 v4 w0 σ) = _
  unfold T_X8_withdraw_79
  simp only [s_go_bind, s_go_ite, s_go_sum, s_go_l, s_go_r, s_go_n]
  try rfl
theorem E_X8_withdraw {v0 : Nat} {v1 : Int32} {σ : sS} : F_X8_withdraw v0 v1 σ = ((s_is σ v0 8).bind fun _ => R_X8_withdraw_0 v0 v1 σ) := rfl
/-! X8_idle -/
noncomputable def R_X8_idle_0 (v0 : Nat) (v1 : Int32) (σ : sS) : Option (Int32 × sS) := s_run (S_X8_idle ) (0, [.ref v0, .int v1], σ)
noncomputable def R_X8_idle_23 (v0 : Nat) (v1 : Int32) (v2 : Int32) (v3 : Int32) (σ : sS) : Option (Int32 × sS) := s_run (S_X8_idle ) (23, [.ref v0, .int v1, .int v2, .int v3], σ)
noncomputable def R_X8_idle_70 (v0 : Nat) (v1 : Int32) (v3 : Int32) (w0 : Int32) (σ : sS) : Option (Int32 × sS) := s_run (S_X8_idle ) (70, [.ref v0, .int v1, .int v3, .int w0], σ)
noncomputable def R_X8_idle_71 (v0 : Nat) (v1 : Int32) (v3 : Int32) (w0 : Int32) (w1 : Int32) (σ : sS) : Option (Int32 × sS) := s_run (S_X8_idle ) (71, [.ref v0, .int v1, .int v3, .int w0, .int w1], σ)
theorem E_X8_idle_0 {v0 : Nat} {v1 : Int32} {σ : sS} : R_X8_idle_0 v0 v1 σ = ((s_pf σ v0 8 0 (.int 0)).bind fun σ1 =>
  (F_X8_noCustomer v1 σ1).bind fun q2 =>
  (F_X8_throwsIf v0 q2.1 1 q2.2).bind fun q3 =>
  if q3.1 = 0 then (R_X8_idle_23 v0 v1 0 0 q3.2)
  else (some (0, q3.2))) := by
  unfold R_X8_idle_0
  rw [s_run_eq]
  show s_go _ _ (T_X8_idle_0 v0 v1 σ) = _
  unfold T_X8_idle_0
  simp only [s_go_bind, s_go_ite, s_go_sum, s_go_l, s_go_r, s_go_n]
  try rfl
theorem E_X8_idle_23 {v0 : Nat} {v1 : Int32} {v2 : Int32} {v3 : Int32} {σ : sS} : R_X8_idle_23 v0 v1 v2 v3 σ = ((F_X8_formulas v0 σ).bind fun q1 =>
  if q1.1 ≤ v3 then (some (v2, q1.2))
  else ((F_X8_beliefsOf v0 v1 q1.2).bind fun q2 =>
  if ((q2.1 >>> (v3 &&& 31)) &&& 1) = 1 then ((F_X8_beliefsOf v0 v1 q2.2).bind fun q3 =>
  (F_X8_leastWorld v0 (q3.1 &&& ((1 <<< (v3 &&& 31)) ^^^ (-1))) v3 q3.2).bind fun q4 =>
  if (0 : Int32) ≤ q4.1 then (R_X8_idle_70 v0 v1 v3 v2 q4.2)
  else (R_X8_idle_71 v0 v1 v3 (1 <<< (v3 &&& 31)) v2 q4.2))
  else (R_X8_idle_70 v0 v1 v3 v2 q2.2))) := by
  unfold R_X8_idle_23
  rw [s_run_eq]
  show s_go _ _ (T_X8_idle_23 v0 v1 v2 v3 σ) = _
  unfold T_X8_idle_23
  simp only [s_go_bind, s_go_ite, s_go_sum, s_go_l, s_go_r, s_go_n]
  try rfl
theorem E_X8_idle_70 {v0 : Nat} {v1 : Int32} {v3 : Int32} {w0 : Int32} {σ : sS} : R_X8_idle_70 v0 v1 v3 w0 σ = (R_X8_idle_71 v0 v1 v3 0 w0 σ) := by
  unfold R_X8_idle_70
  rw [s_run_eq]
  show s_go _ _ (T_X8_idle_70 v0 v1 v3 w0 σ) = _
  unfold T_X8_idle_70
  simp only [s_go_bind, s_go_ite, s_go_sum, s_go_l, s_go_r, s_go_n]
  try rfl
theorem E_X8_idle_71 {v0 : Nat} {v1 : Int32} {v3 : Int32} {w0 : Int32} {w1 : Int32} {σ : sS} : R_X8_idle_71 v0 v1 v3 w0 w1 σ = (R_X8_idle_23 v0 v1 (w1 ||| w0) (v3 + 1) σ) := by
  unfold R_X8_idle_71
  rw [s_run_eq]
  show s_go _ _ (T_X8_idle_71 v0 v1 v3 w0 w1 σ) = _
  unfold T_X8_idle_71
  simp only [s_go_bind, s_go_ite, s_go_sum, s_go_l, s_go_r, s_go_n]
  try rfl
theorem E_X8_idle {v0 : Nat} {v1 : Int32} {σ : sS} : F_X8_idle v0 v1 σ = ((s_is σ v0 8).bind fun _ => R_X8_idle_0 v0 v1 σ) := rfl
/-! X8_alike -/
noncomputable def R_X8_alike_0 (v0 : Nat) (v1 : Int32) (σ : sS) : Option (Int32 × sS) := s_run (S_X8_alike ) (0, [.ref v0, .int v1], σ)
noncomputable def R_X8_alike_24 (v0 : Nat) (v1 : Int32) (v2 : Int32) (v3 : Int32) (σ : sS) : Option (Int32 × sS) := s_run (S_X8_alike ) (24, [.ref v0, .int v1, .int v2, .int v3], σ)
noncomputable def R_X8_alike_38 (v0 : Nat) (v1 : Int32) (v2 : Int32) (v3 : Int32) (v4 : Int32) (v5 : Int32) (σ : sS) : Option (Int32 × sS) := s_run (S_X8_alike ) (38, [.ref v0, .int v1, .int v2, .int v3, .int v4, .int v5], σ)
noncomputable def R_X8_alike_74 (v0 : Nat) (v1 : Int32) (v2 : Int32) (v3 : Int32) (v5 : Int32) (w0 : Int32) (σ : sS) : Option (Int32 × sS) := s_run (S_X8_alike ) (74, [.ref v0, .int v1, .int v2, .int v3, .int v5, .int w0], σ)
noncomputable def R_X8_alike_82 (v0 : Nat) (v1 : Int32) (v2 : Int32) (v3 : Int32) (v4 : Int32) (σ : sS) : Option (Int32 × sS) := s_run (S_X8_alike ) (82, [.ref v0, .int v1, .int v2, .int v3, .int v4], σ)
noncomputable def R_X8_alike_95 (v0 : Nat) (v1 : Int32) (v3 : Int32) (w0 : Int32) (w1 : Int32) (σ : sS) : Option (Int32 × sS) := s_run (S_X8_alike ) (95, [.ref v0, .int v1, .int v3, .int w0, .int w1], σ)
theorem E_X8_alike_0 {v0 : Nat} {v1 : Int32} {σ : sS} : R_X8_alike_0 v0 v1 σ = ((s_pf σ v0 8 0 (.int 0)).bind fun σ1 =>
  (F_X8_noFormula v0 v1 σ1).bind fun q2 =>
  (F_X8_throwsIf v0 q2.1 1 q2.2).bind fun q3 =>
  if q3.1 = 0 then (R_X8_alike_24 v0 v1 0 0 q3.2)
  else (some (0, q3.2))) := by
  unfold R_X8_alike_0
  rw [s_run_eq]
  show s_go _ _ (T_X8_alike_0 v0 v1 σ) = _
  unfold T_X8_alike_0
  simp only [s_go_bind, s_go_ite, s_go_sum, s_go_l, s_go_r, s_go_n]
  try rfl
theorem E_X8_alike_24 {v0 : Nat} {v1 : Int32} {v2 : Int32} {v3 : Int32} {σ : sS} : R_X8_alike_24 v0 v1 v2 v3 σ = ((F_X8_formulas v0 σ).bind fun q1 =>
  if q1.1 ≤ v3 then (some (v2, q1.2))
  else (R_X8_alike_38 v0 v1 v2 v3 1 0 q1.2)) := by
  unfold R_X8_alike_24
  rw [s_run_eq]
  show s_go _ _ (T_X8_alike_24 v0 v1 v2 v3 σ) = _
  unfold T_X8_alike_24
  simp only [s_go_bind, s_go_ite, s_go_sum, s_go_l, s_go_r, s_go_n]
  try rfl
theorem E_X8_alike_38 {v0 : Nat} {v1 : Int32} {v2 : Int32} {v3 : Int32} {v4 : Int32} {v5 : Int32} {σ : sS} : R_X8_alike_38 v0 v1 v2 v3 v4 v5 σ = ((F_X8_worldsMany v0 σ).bind fun q1 =>
  if q1.1 ≤ v5 then (R_X8_alike_82 v0 v1 v2 v3 v4 q1.2)
  else (if v4 = 0 then (R_X8_alike_82 v0 v1 v2 v3 v4 q1.2)
  else ((F_X8_isTrue v0 v3 v5 q1.2).bind fun q2 =>
  (F_X8_isTrue v0 v1 v5 q2.2).bind fun q3 =>
  if q2.1 = q3.1 then (R_X8_alike_74 v0 v1 v2 v3 v5 1 q3.2)
  else (R_X8_alike_74 v0 v1 v2 v3 v5 0 q3.2)))) := by
  unfold R_X8_alike_38
  rw [s_run_eq]
  show s_go _ _ (T_X8_alike_38 v0 v1 v2 v3 v4 v5 σ) = _
  unfold T_X8_alike_38
  simp only [s_go_bind, s_go_ite, s_go_sum, s_go_l, s_go_r, s_go_n]
  try rfl
theorem E_X8_alike_74 {v0 : Nat} {v1 : Int32} {v2 : Int32} {v3 : Int32} {v5 : Int32} {w0 : Int32} {σ : sS} : R_X8_alike_74 v0 v1 v2 v3 v5 w0 σ = (R_X8_alike_38 v0 v1 v2 v3 w0 (v5 + 1) σ) := by
  unfold R_X8_alike_74
  rw [s_run_eq]
  show s_go _ _ (T_X8_alike_74 v0 v1 v2 v3 v5 w0 σ) = _
  unfold T_X8_alike_74
  simp only [s_go_bind, s_go_ite, s_go_sum, s_go_l, s_go_r, s_go_n]
  try rfl
theorem E_X8_alike_82 {v0 : Nat} {v1 : Int32} {v2 : Int32} {v3 : Int32} {v4 : Int32} {σ : sS} : R_X8_alike_82 v0 v1 v2 v3 v4 σ = (if v4 = 0 then (R_X8_alike_95 v0 v1 v3 0 v2 σ)
  else (R_X8_alike_95 v0 v1 v3 (1 <<< (v3 &&& 31)) v2 σ)) := by
  unfold R_X8_alike_82
  rw [s_run_eq]
  show s_go _ _ (T_X8_alike_82 v0 v1 v2 v3 v4 σ) = _
  unfold T_X8_alike_82
  simp only [s_go_bind, s_go_ite, s_go_sum, s_go_l, s_go_r, s_go_n]
  try rfl
theorem E_X8_alike_95 {v0 : Nat} {v1 : Int32} {v3 : Int32} {w0 : Int32} {w1 : Int32} {σ : sS} : R_X8_alike_95 v0 v1 v3 w0 w1 σ = (R_X8_alike_24 v0 v1 (w1 ||| w0) (v3 + 1) σ) := by
  unfold R_X8_alike_95
  rw [s_run_eq]
  show s_go _ _ (T_X8_alike_95 v0 v1 v3 w0 w1 σ) = _
  unfold T_X8_alike_95
  simp only [s_go_bind, s_go_ite, s_go_sum, s_go_l, s_go_r, s_go_n]
  try rfl
theorem E_X8_alike {v0 : Nat} {v1 : Int32} {σ : sS} : F_X8_alike v0 v1 σ = ((s_is σ v0 8).bind fun _ => R_X8_alike_0 v0 v1 σ) := rfl
/-! X8_isAgainst -/
noncomputable def R_X8_isAgainst_0 (v0 : Nat) (v1 : Int32) (σ : sS) : Option (Int32 × sS) := s_run (S_X8_isAgainst ) (0, [.ref v0, .int v1], σ)
noncomputable def R_X8_isAgainst_4 (v0 : Nat) (v1 : Int32) (v2 : Int32) (v3 : Int32) (σ : sS) : Option (Int32 × sS) := s_run (S_X8_isAgainst ) (4, [.ref v0, .int v1, .int v2, .int v3], σ)
noncomputable def R_X8_isAgainst_32 (v0 : Nat) (v1 : Int32) (v3 : Int32) (w0 : Int32) (σ : sS) : Option (Int32 × sS) := s_run (S_X8_isAgainst ) (32, [.ref v0, .int v1, .int v3, .int w0], σ)
theorem E_X8_isAgainst_0 {v0 : Nat} {v1 : Int32} {σ : sS} : R_X8_isAgainst_0 v0 v1 σ = (R_X8_isAgainst_4 v0 v1 1 0 σ) := by
  unfold R_X8_isAgainst_0
  rw [s_run_eq]
  show s_go _ _ (T_X8_isAgainst_0 v0 v1 σ) = _
  unfold T_X8_isAgainst_0
  simp only [s_go_bind, s_go_ite, s_go_sum, s_go_l, s_go_r, s_go_n]
  try rfl
theorem E_X8_isAgainst_4 {v0 : Nat} {v1 : Int32} {v2 : Int32} {v3 : Int32} {σ : sS} : R_X8_isAgainst_4 v0 v1 v2 v3 σ = ((F_X8_worldsMany v0 σ).bind fun q1 =>
  if q1.1 ≤ v3 then (if (v2 = 0 ∨ v2 = 1) then (some (v2, q1.2)) else none)
  else (if v2 = 0 then (if (v2 = 0 ∨ v2 = 1) then (some (v2, q1.2)) else none)
  else ((s_fr q1.2 v0 8 20).bind fun x2 =>
  (s_ai q1.2 x2 v3).bind fun x3 =>
  if (x3 &&& v1) = 0 then (R_X8_isAgainst_32 v0 v1 v3 0 q1.2)
  else (R_X8_isAgainst_32 v0 v1 v3 1 q1.2)))) := by
  unfold R_X8_isAgainst_4
  rw [s_run_eq]
  show s_go _ _ (T_X8_isAgainst_4 v0 v1 v2 v3 σ) = _
  unfold T_X8_isAgainst_4
  simp only [s_go_bind, s_go_ite, s_go_sum, s_go_l, s_go_r, s_go_n]
  try rfl
theorem E_X8_isAgainst_32 {v0 : Nat} {v1 : Int32} {v3 : Int32} {w0 : Int32} {σ : sS} : R_X8_isAgainst_32 v0 v1 v3 w0 σ = (R_X8_isAgainst_4 v0 v1 w0 (v3 + 1) σ) := by
  unfold R_X8_isAgainst_32
  rw [s_run_eq]
  show s_go _ _ (T_X8_isAgainst_32 v0 v1 v3 w0 σ) = _
  unfold T_X8_isAgainst_32
  simp only [s_go_bind, s_go_ite, s_go_sum, s_go_l, s_go_r, s_go_n]
  try rfl
theorem E_X8_isAgainst {v0 : Nat} {v1 : Int32} {σ : sS} : F_X8_isAgainst v0 v1 σ = ((s_is σ v0 8).bind fun _ => R_X8_isAgainst_0 v0 v1 σ) := rfl
/-! X8_core -/
noncomputable def R_X8_core_0 (v0 : Nat) (v1 : Int32) (σ : sS) : Option (Int32 × sS) := s_run (S_X8_core ) (0, [.ref v0, .int v1], σ)
noncomputable def R_X8_core_26 (v0 : Nat) (v2 : Int32) (w0 : Int32) (w1 : Nat) (σ : sS) : Option (Int32 × sS) := s_run (S_X8_core ) (26, [.ref v0, .int v2, .int w0, .ref w1], σ)
noncomputable def R_X8_core_48 (v0 : Nat) (v2 : Int32) (v3 : Int32) (v4 : Int32) (σ : sS) : Option (Int32 × sS) := s_run (S_X8_core ) (48, [.ref v0, .int v2, .int v3, .int v4], σ)
noncomputable def R_X8_core_76 (v0 : Nat) (v2 : Int32) (v3 : Int32) (v4 : Int32) (σ : sS) : Option (Int32 × sS) := s_run (S_X8_core ) (76, [.ref v0, .int v2, .int v3, .int v4], σ)
noncomputable def R_X8_core_77 (v0 : Nat) (v2 : Int32) (v4 : Int32) (w0 : Int32) (σ : sS) : Option (Int32 × sS) := s_run (S_X8_core ) (77, [.ref v0, .int v2, .int v4, .int w0], σ)
theorem E_X8_core_0 {v0 : Nat} {v1 : Int32} {σ : sS} : R_X8_core_0 v0 v1 σ = ((s_pf σ v0 8 0 (.int 0)).bind fun σ1 =>
  (F_X8_fails v0 v1 σ1).bind fun q2 =>
  (F_J6_bitCount_0f7a4 q2.1 q2.2).bind fun q3 =>
  if q3.1 ≤ 14 then (R_X8_core_26 v0 q2.1 0 v0 q3.2)
  else (R_X8_core_26 v0 q2.1 1 v0 q3.2)) := by
  unfold R_X8_core_0
  rw [s_run_eq]
  show s_go _ _ (T_X8_core_0 v0 v1 σ) = _
  unfold T_X8_core_0
  simp only [s_go_bind, s_go_ite, s_go_sum, s_go_l, s_go_r, s_go_n]
  try rfl
theorem E_X8_core_26 {v0 : Nat} {v2 : Int32} {w0 : Int32} {w1 : Nat} {σ : sS} : R_X8_core_26 v0 v2 w0 w1 σ = ((F_X8_throwsIf w1 w0 1 σ).bind fun q1 =>
  if q1.1 = 0 then ((F_X8_isAgainst v0 v2 q1.2).bind fun q2 =>
  if q2.1 = 0 then (some (0, q2.2))
  else (R_X8_core_48 v0 v2 v2 v2 q2.2))
  else (some (0, q1.2))) := by
  unfold R_X8_core_26
  rw [s_run_eq]
  show s_go _ _ (T_X8_core_26 v0 v2 w0 w1 σ) = _
  unfold T_X8_core_26
  simp only [s_go_bind, s_go_ite, s_go_sum, s_go_l, s_go_r, s_go_n]
  try rfl
theorem E_X8_core_48 {v0 : Nat} {v2 : Int32} {v3 : Int32} {v4 : Int32} {σ : sS} : R_X8_core_48 v0 v2 v3 v4 σ = (if v4 ≤ 0 then (some (v3, σ))
  else ((F_X8_isFewer v4 v3 σ).bind fun q1 =>
  if q1.1 = 0 then (R_X8_core_76 v0 v2 v3 v4 q1.2)
  else ((F_X8_isAgainst v0 v4 q1.2).bind fun q2 =>
  if q2.1 = 0 then (R_X8_core_76 v0 v2 v3 v4 q2.2)
  else (R_X8_core_77 v0 v2 v4 v4 q2.2)))) := by
  unfold R_X8_core_48
  rw [s_run_eq]
  show s_go _ _ (T_X8_core_48 v0 v2 v3 v4 σ) = _
  unfold T_X8_core_48
  simp only [s_go_bind, s_go_ite, s_go_sum, s_go_l, s_go_r, s_go_n]
  try rfl
theorem E_X8_core_76 {v0 : Nat} {v2 : Int32} {v3 : Int32} {v4 : Int32} {σ : sS} : R_X8_core_76 v0 v2 v3 v4 σ = (R_X8_core_77 v0 v2 v4 v3 σ) := by
  unfold R_X8_core_76
  rw [s_run_eq]
  show s_go _ _ (T_X8_core_76 v0 v2 v3 v4 σ) = _
  unfold T_X8_core_76
  simp only [s_go_bind, s_go_ite, s_go_sum, s_go_l, s_go_r, s_go_n]
  try rfl
theorem E_X8_core_77 {v0 : Nat} {v2 : Int32} {v4 : Int32} {w0 : Int32} {σ : sS} : R_X8_core_77 v0 v2 v4 w0 σ = (R_X8_core_48 v0 v2 w0 ((v4 - 1) &&& v2) σ) := by
  unfold R_X8_core_77
  rw [s_run_eq]
  show s_go _ _ (T_X8_core_77 v0 v2 v4 w0 σ) = _
  unfold T_X8_core_77
  simp only [s_go_bind, s_go_ite, s_go_sum, s_go_l, s_go_r, s_go_n]
  try rfl
theorem E_X8_core {v0 : Nat} {v1 : Int32} {σ : sS} : F_X8_core v0 v1 σ = ((s_is σ v0 8).bind fun _ => R_X8_core_0 v0 v1 σ) := rfl
/-! X3_isEmpty -/
noncomputable def R_X3_isEmpty_0 (v0 : Nat) (v1 : Nat) (σ : sS) : Option (Int32 × sS) := s_run (S_X3_isEmpty ) (0, [.ref v0, .ref v1], σ)
theorem E_X3_isEmpty_0 {v0 : Nat} {v1 : Nat} {σ : sS} : R_X3_isEmpty_0 v0 v1 σ = ((F_X3_leastOf v0 v1 σ).bind fun q1 =>
  if q1.1 = (-1) then (some (1, q1.2))
  else (some (0, q1.2))) := by
  unfold R_X3_isEmpty_0
  rw [s_run_eq]
  show s_go _ _ (T_X3_isEmpty_0 v0 v1 σ) = _
  unfold T_X3_isEmpty_0
  simp only [s_go_bind, s_go_ite, s_go_sum, s_go_l, s_go_r, s_go_n]
  try rfl
theorem E_X3_isEmpty {v0 : Nat} {v1 : Nat} {σ : sS} : F_X3_isEmpty v0 v1 σ = ((s_is σ v0 3).bind fun _ => R_X3_isEmpty_0 v0 v1 σ) := rfl
/-! X3_isOpenTo -/
noncomputable def R_X3_isOpenTo_0 (v0 : Nat) (v1 : Int32) (v2 : Int32) (σ : sS) : Option (Int32 × sS) := s_run (S_X3_isOpenTo ) (0, [.ref v0, .int v1, .int v2], σ)
theorem E_X3_isOpenTo_0 {v0 : Nat} {v1 : Int32} {v2 : Int32} {σ : sS} : R_X3_isOpenTo_0 v0 v1 v2 σ = ((s_fr σ v0 3 0).bind fun x1 =>
  (F_X1_nodeOf x1 v1 σ).bind fun q2 =>
  (s_fr q2.2 v0 3 0).bind fun x3 =>
  (F_X1_nodeOf x3 v2 q2.2).bind fun q4 =>
  if q2.1 = q4.1 then (some (0, q4.2))
  else (some (1, q4.2))) := by
  unfold R_X3_isOpenTo_0
  rw [s_run_eq]
  show s_go _ _ (T_X3_isOpenTo_0 v0 v1 v2 σ) = _
  unfold T_X3_isOpenTo_0
  simp only [s_go_bind, s_go_ite, s_go_sum, s_go_l, s_go_r, s_go_n]
  try rfl
theorem E_X3_isOpenTo {v0 : Nat} {v1 : Int32} {v2 : Int32} {σ : sS} : F_X3_isOpenTo v0 v1 v2 σ = ((s_is σ v0 3).bind fun _ => R_X3_isOpenTo_0 v0 v1 v2 σ) := rfl
/-! X3_provesWith -/
noncomputable def R_X3_provesWith_0 (v0 : Nat) (v1 : Nat) (v2 : Int32) (v3 : Int32) (σ : sS) : Option (Int32 × sS) := s_run (S_X3_provesWith ) (0, [.ref v0, .ref v1, .int v2, .int v3], σ)
noncomputable def R_X3_provesWith_6 (v0 : Nat) (v1 : Nat) (v2 : Int32) (v3 : Int32) (v4 : Int64) (v6 : Int32) (σ : sS) : Option (Int32 × sS) := s_run (S_X3_provesWith ) (6, [.ref v0, .ref v1, .int v2, .int v3, .long v4, .int v6], σ)
theorem E_X3_provesWith_0 {v0 : Nat} {v1 : Nat} {v2 : Int32} {v3 : Int32} {σ : sS} : R_X3_provesWith_0 v0 v1 v2 v3 σ = (R_X3_provesWith_6 v0 v1 v2 v3 0 0 σ) := by
  unfold R_X3_provesWith_0
  rw [s_run_eq]
  show s_go _ _ (T_X3_provesWith_0 v0 v1 v2 v3 σ) = _
  unfold T_X3_provesWith_0
  simp only [s_go_bind, s_go_ite, s_go_sum, s_go_l, s_go_r, s_go_n]
  try rfl
theorem E_X3_provesWith_6 {v0 : Nat} {v1 : Nat} {v2 : Int32} {v3 : Int32} {v4 : Int64} {v6 : Int32} {σ : sS} : R_X3_provesWith_6 v0 v1 v2 v3 v4 v6 σ = ((s_fr σ v0 3 0).bind fun x1 =>
  (F_X1_words x1 σ).bind fun q2 =>
  if q2.1 ≤ v6 then (if (lg_cmp v4 0) = 0 then (some (0, q2.2))
  else (some (1, q2.2)))
  else ((s_al q2.2 v1 v6).bind fun x3 =>
  (s_fr q2.2 v0 3 0).bind fun x4 =>
  (F_X1_truthOf x4 v2 v6 q2.2).bind fun q5 =>
  (s_fr q5.2 v0 3 0).bind fun x6 =>
  (F_X1_truthOf x6 v3 v6 q5.2).bind fun q7 =>
  if (lg_cmp ((x3 &&& q5.1) &&& (q7.1 ^^^ (-1))) 0) = 0 then (R_X3_provesWith_6 v0 v1 v2 v3 (v4 ||| (x3 &&& q5.1)) (v6 + 1) q7.2)
  else (some (0, q7.2)))) := by
  unfold R_X3_provesWith_6
  rw [s_run_eq]
  show s_go _ _ (T_X3_provesWith_6 v0 v1 v2 v3 v4 v6 σ) = _
  unfold T_X3_provesWith_6
  simp only [s_go_bind, s_go_ite, s_go_sum, s_go_l, s_go_r, s_go_n]
  try rfl
theorem E_X3_provesWith {v0 : Nat} {v1 : Nat} {v2 : Int32} {v3 : Int32} {σ : sS} : F_X3_provesWith v0 v1 v2 v3 σ = ((s_is σ v0 3).bind fun _ => R_X3_provesWith_0 v0 v1 v2 v3 σ) := rfl
/-! X3_oneMore -/
noncomputable def R_X3_oneMore_0 (v0 : Nat) (v1 : Nat) (v2 : Int32) (v3 : Int32) (σ : sS) : Option (Int32 × sS) := s_run (S_X3_oneMore ) (0, [.ref v0, .ref v1, .int v2, .int v3], σ)
noncomputable def R_X3_oneMore_3 (v0 : Nat) (v1 : Nat) (v2 : Int32) (v3 : Int32) (v4 : Int32) (σ : sS) : Option (Int32 × sS) := s_run (S_X3_oneMore ) (3, [.ref v0, .ref v1, .int v2, .int v3, .int v4], σ)
noncomputable def R_X3_oneMore_35 (v0 : Nat) (v1 : Nat) (v2 : Int32) (v3 : Int32) (v4 : Int32) (σ : sS) : Option (Int32 × sS) := s_run (S_X3_oneMore ) (35, [.ref v0, .ref v1, .int v2, .int v3, .int v4], σ)
theorem E_X3_oneMore_0 {v0 : Nat} {v1 : Nat} {v2 : Int32} {v3 : Int32} {σ : sS} : R_X3_oneMore_0 v0 v1 v2 v3 σ = (R_X3_oneMore_3 v0 v1 v2 v3 0 σ) := by
  unfold R_X3_oneMore_0
  rw [s_run_eq]
  show s_go _ _ (T_X3_oneMore_0 v0 v1 v2 v3 σ) = _
  unfold T_X3_oneMore_0
  simp only [s_go_bind, s_go_ite, s_go_sum, s_go_l, s_go_r, s_go_n]
  try rfl
theorem E_X3_oneMore_3 {v0 : Nat} {v1 : Nat} {v2 : Int32} {v3 : Int32} {v4 : Int32} {σ : sS} : R_X3_oneMore_3 v0 v1 v2 v3 v4 σ = (if v3 ≤ v4 then (some ((-1), σ))
  else ((F_X3_isOpenTo v0 v4 v2 σ).bind fun q1 =>
  if q1.1 = 0 then (R_X3_oneMore_35 v0 v1 v2 v3 v4 q1.2)
  else ((F_X3_provesWith v0 v1 v4 v2 q1.2).bind fun q2 =>
  if q2.1 = 0 then (R_X3_oneMore_35 v0 v1 v2 v3 v4 q2.2)
  else (some ((1 <<< (v4 &&& 31)), q2.2))))) := by
  unfold R_X3_oneMore_3
  rw [s_run_eq]
  show s_go _ _ (T_X3_oneMore_3 v0 v1 v2 v3 v4 σ) = _
  unfold T_X3_oneMore_3
  simp only [s_go_bind, s_go_ite, s_go_sum, s_go_l, s_go_r, s_go_n]
  try rfl
theorem E_X3_oneMore_35 {v0 : Nat} {v1 : Nat} {v2 : Int32} {v3 : Int32} {v4 : Int32} {σ : sS} : R_X3_oneMore_35 v0 v1 v2 v3 v4 σ = (R_X3_oneMore_3 v0 v1 v2 v3 (v4 + 1) σ) := by
  unfold R_X3_oneMore_35
  rw [s_run_eq]
  show s_go _ _ (T_X3_oneMore_35 v0 v1 v2 v3 v4 σ) = _
  unfold T_X3_oneMore_35
  simp only [s_go_bind, s_go_ite, s_go_sum, s_go_l, s_go_r, s_go_n]
  try rfl
theorem E_X3_oneMore {v0 : Nat} {v1 : Nat} {v2 : Int32} {v3 : Int32} {σ : sS} : F_X3_oneMore v0 v1 v2 v3 σ = ((s_is σ v0 3).bind fun _ => R_X3_oneMore_0 v0 v1 v2 v3 σ) := rfl
/-! X3_twoMore -/
noncomputable def R_X3_twoMore_0 (v0 : Nat) (v1 : Nat) (v2 : Int32) (v3 : Int32) (σ : sS) : Option (Int32 × sS) := s_run (S_X3_twoMore ) (0, [.ref v0, .ref v1, .int v2, .int v3], σ)
noncomputable def R_X3_twoMore_3 (v0 : Nat) (v1 : Nat) (v2 : Int32) (v3 : Int32) (v4 : Int32) (σ : sS) : Option (Int32 × sS) := s_run (S_X3_twoMore ) (3, [.ref v0, .ref v1, .int v2, .int v3, .int v4], σ)
noncomputable def R_X3_twoMore_56 (v0 : Nat) (v1 : Nat) (v2 : Int32) (v3 : Int32) (v4 : Int32) (w0 : Int32) (σ : sS) : Option (Int32 × sS) := s_run (S_X3_twoMore ) (56, [.ref v0, .ref v1, .int v2, .int v3, .int v4, .int w0], σ)
noncomputable def R_X3_twoMore_72 (v0 : Nat) (v1 : Nat) (v2 : Int32) (v3 : Int32) (v4 : Int32) (σ : sS) : Option (Int32 × sS) := s_run (S_X3_twoMore ) (72, [.ref v0, .ref v1, .int v2, .int v3, .int v4], σ)
theorem E_X3_twoMore_0 {v0 : Nat} {v1 : Nat} {v2 : Int32} {v3 : Int32} {σ : sS} : R_X3_twoMore_0 v0 v1 v2 v3 σ = (R_X3_twoMore_3 v0 v1 v2 v3 0 σ) := by
  unfold R_X3_twoMore_0
  rw [s_run_eq]
  show s_go _ _ (T_X3_twoMore_0 v0 v1 v2 v3 σ) = _
  unfold T_X3_twoMore_0
  simp only [s_go_bind, s_go_ite, s_go_sum, s_go_l, s_go_r, s_go_n]
  try rfl
theorem E_X3_twoMore_3 {v0 : Nat} {v1 : Nat} {v2 : Int32} {v3 : Int32} {v4 : Int32} {σ : sS} : R_X3_twoMore_3 v0 v1 v2 v3 v4 σ = (if v3 ≤ v4 then (some ((-1), σ))
  else ((F_X3_isOpenTo v0 v4 v2 σ).bind fun q1 =>
  if q1.1 = 0 then (R_X3_twoMore_72 v0 v1 v2 v3 v4 q1.2)
  else ((s_fr q1.2 v0 3 2).bind fun x2 =>
  (F_X3_narrow v0 v1 v4 x2 q1.2).bind fun q3 =>
  (s_fr q3.2 v0 3 2).bind fun x4 =>
  (F_X3_isEmpty v0 x4 q3.2).bind fun q5 =>
  if q5.1 = 0 then ((s_fr q5.2 v0 3 2).bind fun x6 =>
  (F_X3_oneMore v0 x6 v2 v4 q5.2).bind fun q7 =>
  R_X3_twoMore_56 v0 v1 v2 v3 v4 q7.1 q7.2)
  else (R_X3_twoMore_56 v0 v1 v2 v3 v4 (-1) q5.2)))) := by
  unfold R_X3_twoMore_3
  rw [s_run_eq]
  show s_go _ _ (T_X3_twoMore_3 v0 v1 v2 v3 v4 σ) = _
  unfold T_X3_twoMore_3
  simp only [s_go_bind, s_go_ite, s_go_sum, s_go_l, s_go_r, s_go_n]
  try rfl
theorem E_X3_twoMore_56 {v0 : Nat} {v1 : Nat} {v2 : Int32} {v3 : Int32} {v4 : Int32} {w0 : Int32} {σ : sS} : R_X3_twoMore_56 v0 v1 v2 v3 v4 w0 σ = (if w0 = (-1) then (R_X3_twoMore_72 v0 v1 v2 v3 v4 σ)
  else (some ((w0 ||| (1 <<< (v4 &&& 31))), σ))) := by
  unfold R_X3_twoMore_56
  rw [s_run_eq]
  show s_go _ _ (T_X3_twoMore_56 v0 v1 v2 v3 v4 w0 σ) = _
  unfold T_X3_twoMore_56
  simp only [s_go_bind, s_go_ite, s_go_sum, s_go_l, s_go_r, s_go_n]
  try rfl
theorem E_X3_twoMore_72 {v0 : Nat} {v1 : Nat} {v2 : Int32} {v3 : Int32} {v4 : Int32} {σ : sS} : R_X3_twoMore_72 v0 v1 v2 v3 v4 σ = (R_X3_twoMore_3 v0 v1 v2 v3 (v4 + 1) σ) := by
  unfold R_X3_twoMore_72
  rw [s_run_eq]
  show s_go _ _ (T_X3_twoMore_72 v0 v1 v2 v3 v4 σ) = _
  unfold T_X3_twoMore_72
  simp only [s_go_bind, s_go_ite, s_go_sum, s_go_l, s_go_r, s_go_n]
  try rfl
theorem E_X3_twoMore {v0 : Nat} {v1 : Nat} {v2 : Int32} {v3 : Int32} {σ : sS} : F_X3_twoMore v0 v1 v2 v3 σ = ((s_is σ v0 3).bind fun _ => R_X3_twoMore_0 v0 v1 v2 v3 σ) := rfl
