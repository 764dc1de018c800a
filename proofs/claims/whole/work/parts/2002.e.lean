/-! X5_cut -/
noncomputable def R_X5_cut_0 (v0 : Nat) (v1 : Int32) (σ : sS) : Option (Int32 × sS) := s_run (S_X5_cut ) (0, [.ref v0, .int v1], σ)
theorem E_X5_cut_0 {v0 : Nat} {v1 : Int32} {σ : sS} : R_X5_cut_0 v0 v1 σ = (if v1 < 0 then (some (0, σ))
  else ((s_fi σ v0 5 0).bind fun x1 =>
  if v1 ≤ x1 then ((s_pf σ v0 5 0 (.int v1)).bind fun σ2 =>
  some (1, σ2))
  else (some (0, σ)))) := by
  unfold R_X5_cut_0
  rw [s_run_eq]
  show s_go _ _ (T_X5_cut_0 v0 v1 σ) = _
  unfold T_X5_cut_0
  simp only [s_go_bind, s_go_ite, s_go_sum, s_go_l, s_go_r, s_go_n]
  try rfl
theorem E_X5_cut {v0 : Nat} {v1 : Int32} {σ : sS} : F_X5_cut v0 v1 σ = ((s_is σ v0 5).bind fun _ => R_X5_cut_0 v0 v1 σ) := rfl
/-! X7_end -/
noncomputable def R_X7_end_0 (v0 : Nat) (v1 : Int32) (σ : sS) : Option (Int32 × sS) := s_run (S_X7_end ) (0, [.ref v0, .int v1], σ)
theorem E_X7_end_0 {v0 : Nat} {v1 : Int32} {σ : sS} : R_X7_end_0 v0 v1 σ = ((s_fr σ v0 7 3).bind fun x1 =>
  (F_X5_cut x1 v1 σ).bind fun q2 =>
  if (q2.1 = 0 ∨ q2.1 = 1) then (some (q2.1, q2.2)) else none) := by
  unfold R_X7_end_0
  rw [s_run_eq]
  show s_go _ _ (T_X7_end_0 v0 v1 σ) = _
  unfold T_X7_end_0
  simp only [s_go_bind, s_go_ite, s_go_sum, s_go_l, s_go_r, s_go_n]
  try rfl
theorem E_X7_end {v0 : Nat} {v1 : Int32} {σ : sS} : F_X7_end v0 v1 σ = ((s_is σ v0 7).bind fun _ => R_X7_end_0 v0 v1 σ) := rfl
/-! X8_end -/
noncomputable def R_X8_end_0 (v0 : Nat) (v1 : Int32) (σ : sS) : Option (Int32 × sS) := s_run (S_X8_end ) (0, [.ref v0, .int v1], σ)
theorem E_X8_end_0 {v0 : Nat} {v1 : Int32} {σ : sS} : R_X8_end_0 v0 v1 σ = ((s_pf σ v0 8 0 (.int 0)).bind fun σ1 =>
  if v1 < 0 then (some (0, σ1))
  else ((s_fi σ1 v0 8 7).bind fun x2 =>
  if v1 ≤ x2 then ((s_pf σ1 v0 8 7 (.int v1)).bind fun σ3 =>
  some (1, σ3))
  else (some (0, σ1)))) := by
  unfold R_X8_end_0
  rw [s_run_eq]
  show s_go _ _ (T_X8_end_0 v0 v1 σ) = _
  unfold T_X8_end_0
  simp only [s_go_bind, s_go_ite, s_go_sum, s_go_l, s_go_r, s_go_n]
  try rfl
theorem E_X8_end {v0 : Nat} {v1 : Int32} {σ : sS} : F_X8_end v0 v1 σ = ((s_is σ v0 8).bind fun _ => R_X8_end_0 v0 v1 σ) := rfl
/-! X8_isAt -/
noncomputable def R_X8_isAt_0 (v0 : Nat) (v1 : Int32) (v2 : Int32) (σ : sS) : Option (Int32 × sS) := s_run (S_X8_isAt ) (0, [.ref v0, .int v1, .int v2], σ)
theorem E_X8_isAt_0 {v0 : Nat} {v1 : Int32} {v2 : Int32} {σ : sS} : R_X8_isAt_0 v0 v1 v2 σ = ((s_fi σ v0 8 8).bind fun x1 =>
  (s_fi σ v0 8 9).bind fun x2 =>
  if x2 ≤ x1 then (some (0, σ))
  else ((s_fr σ v0 8 6).bind fun x3 =>
  (s_fi σ v0 8 8).bind fun x4 =>
  (s_ab σ x3 x4).bind fun x5 =>
  if x5 < v1 then (some (0, σ))
  else ((s_fr σ v0 8 6).bind fun x6 =>
  (s_fi σ v0 8 8).bind fun x7 =>
  (s_ab σ x6 x7).bind fun x8 =>
  if v2 < x8 then (some (0, σ))
  else (some (1, σ))))) := by
  unfold R_X8_isAt_0
  rw [s_run_eq]
  show s_go _ _ (T_X8_isAt_0 v0 v1 v2 σ) = _
  unfold T_X8_isAt_0
  simp only [s_go_bind, s_go_ite, s_go_sum, s_go_l, s_go_r, s_go_n]
  try rfl
theorem E_X8_isAt {v0 : Nat} {v1 : Int32} {v2 : Int32} {σ : sS} : F_X8_isAt v0 v1 v2 σ = ((s_is σ v0 8).bind fun _ => R_X8_isAt_0 v0 v1 v2 σ) := rfl
/-! X8_blanks -/
noncomputable def R_X8_blanks_0 (v0 : Nat) (σ : sS) : Option (Unit × sS) := s_run (S_X8_blanks ) (0, [.ref v0], σ)
theorem E_X8_blanks_0 {v0 : Nat} {σ : sS} : R_X8_blanks_0 v0 σ = ((F_X8_isAt v0 32 32 σ).bind fun q1 =>
  if q1.1 = 0 then ((s_fi q1.2 v0 8 8).bind fun x2 =>
  (s_pf q1.2 v0 8 10 (.int x2)).bind fun σ3 =>
  some ((), σ3))
  else ((s_fi q1.2 v0 8 8).bind fun x4 =>
  (s_pf q1.2 v0 8 8 (.int (x4 + 1))).bind fun σ5 =>
  R_X8_blanks_0 v0 σ5)) := by
  unfold R_X8_blanks_0
  rw [s_run_eq]
  show s_go _ _ (T_X8_blanks_0 v0 σ) = _
  unfold T_X8_blanks_0
  simp only [s_go_bind, s_go_ite, s_go_sum, s_go_l, s_go_r, s_go_n]
  try rfl
theorem E_X8_blanks {v0 : Nat} {σ : sS} : F_X8_blanks v0 σ = ((s_is σ v0 8).bind fun _ => R_X8_blanks_0 v0 σ) := rfl
/-! X8_has -/
noncomputable def R_X8_has_0 (v0 : Nat) (v1 : Int32) (σ : sS) : Option (Int32 × sS) := s_run (S_X8_has ) (0, [.ref v0, .int v1], σ)
theorem E_X8_has_0 {v0 : Nat} {v1 : Int32} {σ : sS} : R_X8_has_0 v0 v1 σ = ((F_X8_blanks v0 σ).bind fun q1 =>
  (F_X8_isAt v0 v1 v1 q1.2).bind fun q2 =>
  if q2.1 = 0 then (some (0, q2.2))
  else ((s_fi q2.2 v0 8 8).bind fun x3 =>
  (s_pf q2.2 v0 8 8 (.int (x3 + 1))).bind fun σ4 =>
  some (1, σ4))) := by
  unfold R_X8_has_0
  rw [s_run_eq]
  show s_go _ _ (T_X8_has_0 v0 v1 σ) = _
  unfold T_X8_has_0
  simp only [s_go_bind, s_go_ite, s_go_sum, s_go_l, s_go_r, s_go_n]
  try rfl
theorem E_X8_has {v0 : Nat} {v1 : Int32} {σ : sS} : F_X8_has v0 v1 σ = ((s_is σ v0 8).bind fun _ => R_X8_has_0 v0 v1 σ) := rfl
/-! X8_deeper -/
noncomputable def R_X8_deeper_0 (v0 : Nat) (σ : sS) : Option (Int32 × sS) := s_run (S_X8_deeper ) (0, [.ref v0], σ)
theorem E_X8_deeper_0 {v0 : Nat} {σ : sS} : R_X8_deeper_0 v0 σ = ((s_fi σ v0 8 11).bind fun x1 =>
  (s_pf σ v0 8 11 (.int (x1 + 1))).bind fun σ2 =>
  (s_fi σ2 v0 8 11).bind fun x3 =>
  if (8 : Int32) < x3 then (some (0, σ2))
  else (some (1, σ2))) := by
  unfold R_X8_deeper_0
  rw [s_run_eq]
  show s_go _ _ (T_X8_deeper_0 v0 σ) = _
  unfold T_X8_deeper_0
  simp only [s_go_bind, s_go_ite, s_go_sum, s_go_l, s_go_r, s_go_n]
  try rfl
theorem E_X8_deeper {v0 : Nat} {σ : sS} : F_X8_deeper v0 σ = ((s_is σ v0 8).bind fun _ => R_X8_deeper_0 v0 σ) := rfl
/-! X8_counts -/
noncomputable def R_X8_counts_0 (v0 : Nat) (σ : sS) : Option (Int32 × sS) := s_run (S_X8_counts ) (0, [.ref v0], σ)
theorem E_X8_counts_0 {v0 : Nat} {σ : sS} : R_X8_counts_0 v0 σ = ((s_fi σ v0 8 12).bind fun x1 =>
  (s_pf σ v0 8 12 (.int (x1 + 1))).bind fun σ2 =>
  (s_fi σ2 v0 8 12).bind fun x3 =>
  if (40 : Int32) < x3 then (some (0, σ2))
  else (some (1, σ2))) := by
  unfold R_X8_counts_0
  rw [s_run_eq]
  show s_go _ _ (T_X8_counts_0 v0 σ) = _
  unfold T_X8_counts_0
  simp only [s_go_bind, s_go_ite, s_go_sum, s_go_l, s_go_r, s_go_n]
  try rfl
theorem E_X8_counts {v0 : Nat} {σ : sS} : F_X8_counts v0 σ = ((s_is σ v0 8).bind fun _ => R_X8_counts_0 v0 σ) := rfl
/-! X8_puts -/
noncomputable def R_X8_puts_0 (v0 : Nat) (v1 : Int32) (σ : sS) : Option (Int32 × sS) := s_run (S_X8_puts ) (0, [.ref v0, .int v1], σ)
theorem E_X8_puts_0 {v0 : Nat} {v1 : Int32} {σ : sS} : R_X8_puts_0 v0 v1 σ = ((F_X8_counts v0 σ).bind fun q1 =>
  if q1.1 = 0 then (some (0, q1.2))
  else ((s_fr q1.2 v0 8 5).bind fun x2 =>
  (s_fr q1.2 v0 8 4).bind fun x3 =>
  (s_ai q1.2 x3 70).bind fun x4 =>
  (s_si q1.2 x2 (2800 + x4) v1).bind fun σ5 =>
  (s_fr σ5 v0 8 4).bind fun x6 =>
  (s_ai σ5 x6 70).bind fun x7 =>
  (s_si σ5 x6 70 (x7 + 1)).bind fun σ8 =>
  some (1, σ8))) := by
  unfold R_X8_puts_0
  rw [s_run_eq]
  show s_go _ _ (T_X8_puts_0 v0 v1 σ) = _
  unfold T_X8_puts_0
  simp only [s_go_bind, s_go_ite, s_go_sum, s_go_l, s_go_r, s_go_n]
  try rfl
theorem E_X8_puts {v0 : Nat} {v1 : Int32} {σ : sS} : F_X8_puts v0 v1 σ = ((s_is σ v0 8).bind fun _ => R_X8_puts_0 v0 v1 σ) := rfl
/-! X8_letters -/
noncomputable def R_X8_letters_0 (v0 : Nat) (σ : sS) : Option (Unit × sS) := s_run (S_X8_letters ) (0, [.ref v0], σ)
noncomputable def R_X8_letters_4 (v0 : Nat) (σ : sS) : Option (Unit × sS) := s_run (S_X8_letters ) (4, [.ref v0], σ)
theorem E_X8_letters_0 {v0 : Nat} {σ : sS} : R_X8_letters_0 v0 σ = ((F_X8_blanks v0 σ).bind fun q1 =>
  R_X8_letters_4 v0 q1.2) := by
  unfold R_X8_letters_0
  rw [s_run_eq]
  show s_go _ _ (T_X8_letters_0 v0 σ) = _
  unfold T_X8_letters_0
  simp only [s_go_bind, s_go_ite, s_go_sum, s_go_l, s_go_r, s_go_n]
  try rfl
theorem E_X8_letters_4 {v0 : Nat} {σ : sS} : R_X8_letters_4 v0 σ = ((F_X8_isAt v0 97 122 σ).bind fun q1 =>
  if q1.1 = 0 then (some ((), q1.2))
  else ((s_fi q1.2 v0 8 8).bind fun x2 =>
  (s_pf q1.2 v0 8 8 (.int (x2 + 1))).bind fun σ3 =>
  R_X8_letters_4 v0 σ3)) := by
  unfold R_X8_letters_4
  rw [s_run_eq]
  show s_go _ _ (T_X8_letters_4 v0 σ) = _
  unfold T_X8_letters_4
  simp only [s_go_bind, s_go_ite, s_go_sum, s_go_l, s_go_r, s_go_n]
  try rfl
theorem E_X8_letters {v0 : Nat} {σ : sS} : F_X8_letters v0 σ = ((s_is σ v0 8).bind fun _ => R_X8_letters_0 v0 σ) := rfl
/-! X8_isWord -/
noncomputable def R_X8_isWord_0 (v0 : Nat) (v1 : Nat) (σ : sS) : Option (Int32 × sS) := s_run (S_X8_isWord ) (0, [.ref v0, .ref v1], σ)
noncomputable def R_X8_isWord_21 (v0 : Nat) (v1 : Nat) (w0 : Int32) (σ : sS) : Option (Int32 × sS) := s_run (S_X8_isWord ) (21, [.ref v0, .ref v1, .int w0], σ)
noncomputable def R_X8_isWord_24 (v0 : Nat) (v1 : Nat) (v2 : Int32) (v3 : Int32) (σ : sS) : Option (Int32 × sS) := s_run (S_X8_isWord ) (24, [.ref v0, .ref v1, .int v2, .int v3], σ)
noncomputable def R_X8_isWord_60 (v0 : Nat) (v1 : Nat) (v3 : Int32) (w0 : Int32) (σ : sS) : Option (Int32 × sS) := s_run (S_X8_isWord ) (60, [.ref v0, .ref v1, .int v3, .int w0], σ)
theorem E_X8_isWord_0 {v0 : Nat} {v1 : Nat} {σ : sS} : R_X8_isWord_0 v0 v1 σ = ((s_fi σ v0 8 8).bind fun x1 =>
  (s_fi σ v0 8 10).bind fun x2 =>
  (F_J0_length_8abf5 v1 σ).bind fun q3 =>
  if (x1 - x2) = q3.1 then (R_X8_isWord_21 v0 v1 1 q3.2)
  else (R_X8_isWord_21 v0 v1 0 q3.2)) := by
  unfold R_X8_isWord_0
  rw [s_run_eq]
  show s_go _ _ (T_X8_isWord_0 v0 v1 σ) = _
  unfold T_X8_isWord_0
  simp only [s_go_bind, s_go_ite, s_go_sum, s_go_l, s_go_r, s_go_n]
  try rfl
theorem E_X8_isWord_21 {v0 : Nat} {v1 : Nat} {w0 : Int32} {σ : sS} : R_X8_isWord_21 v0 v1 w0 σ = (R_X8_isWord_24 v0 v1 w0 0 σ) := by
  unfold R_X8_isWord_21
  rw [s_run_eq]
  show s_go _ _ (T_X8_isWord_21 v0 v1 w0 σ) = _
  unfold T_X8_isWord_21
  simp only [s_go_bind, s_go_ite, s_go_sum, s_go_l, s_go_r, s_go_n]
  try rfl
theorem E_X8_isWord_24 {v0 : Nat} {v1 : Nat} {v2 : Int32} {v3 : Int32} {σ : sS} : R_X8_isWord_24 v0 v1 v2 v3 σ = (if v2 = 0 then (if (v2 = 0 ∨ v2 = 1) then (some (v2, σ)) else none)
  else ((F_J0_length_8abf5 v1 σ).bind fun q1 =>
  if q1.1 ≤ v3 then (if (v2 = 0 ∨ v2 = 1) then (some (v2, q1.2)) else none)
  else ((s_fr q1.2 v0 8 6).bind fun x2 =>
  (s_fi q1.2 v0 8 10).bind fun x3 =>
  (s_ab q1.2 x2 (x3 + v3)).bind fun x4 =>
  (F_J0_charAt_5068e v1 v3 q1.2).bind fun q5 =>
  if x4 = q5.1 then (R_X8_isWord_60 v0 v1 v3 1 q5.2)
  else (R_X8_isWord_60 v0 v1 v3 0 q5.2)))) := by
  unfold R_X8_isWord_24
  rw [s_run_eq]
  show s_go _ _ (T_X8_isWord_24 v0 v1 v2 v3 σ) = _
  unfold T_X8_isWord_24
  simp only [s_go_bind, s_go_ite, s_go_sum, s_go_l, s_go_r, s_go_n]
  try rfl
theorem E_X8_isWord_60 {v0 : Nat} {v1 : Nat} {v3 : Int32} {w0 : Int32} {σ : sS} : R_X8_isWord_60 v0 v1 v3 w0 σ = (R_X8_isWord_24 v0 v1 w0 (v3 + 1) σ) := by
  unfold R_X8_isWord_60
  rw [s_run_eq]
  show s_go _ _ (T_X8_isWord_60 v0 v1 v3 w0 σ) = _
  unfold T_X8_isWord_60
  simp only [s_go_bind, s_go_ite, s_go_sum, s_go_l, s_go_r, s_go_n]
  try rfl
theorem E_X8_isWord {v0 : Nat} {v1 : Nat} {σ : sS} : F_X8_isWord v0 v1 σ = ((s_is σ v0 8).bind fun _ => R_X8_isWord_0 v0 v1 σ) := rfl
/-! X8_d -/
noncomputable def R_X8_d_0 (v0 : Nat) (σ : sS) : Option (Int32 × sS) := s_run (S_X8_d ) (0, [.ref v0], σ)
theorem E_X8_d_0 {v0 : Nat} {σ : sS} : R_X8_d_0 v0 σ = ((s_fr σ v0 8 1).bind fun x1 =>
  (s_ai σ x1 0).bind fun x2 =>
  some (x2, σ)) := by
  unfold R_X8_d_0
  rw [s_run_eq]
  show s_go _ _ (T_X8_d_0 v0 σ) = _
  unfold T_X8_d_0
  simp only [s_go_bind, s_go_ite, s_go_sum, s_go_l, s_go_r, s_go_n]
  try rfl
theorem E_X8_d {v0 : Nat} {σ : sS} : F_X8_d v0 σ = ((s_is σ v0 8).bind fun _ => R_X8_d_0 v0 σ) := rfl
/-! X8_readAtom -/
noncomputable def R_X8_readAtom_0 (v0 : Nat) (σ : sS) : Option (Int32 × sS) := s_run (S_X8_readAtom ) (0, [.ref v0], σ)
noncomputable def R_X8_readAtom_24 (v0 : Nat) (w0 : Int32) (σ : sS) : Option (Int32 × sS) := s_run (S_X8_readAtom ) (24, [.ref v0, .int w0], σ)
noncomputable def R_X8_readAtom_59 (v0 : Nat) (v1 : Int32) (σ : sS) : Option (Int32 × sS) := s_run (S_X8_readAtom ) (59, [.ref v0, .int v1], σ)
noncomputable def R_X8_readAtom_73 (v0 : Nat) (v1 : Int32) (σ : sS) : Option (Int32 × sS) := s_run (S_X8_readAtom ) (73, [.ref v0, .int v1], σ)
noncomputable def R_X8_readAtom_121 (w0 : Int32) (w1 : Nat) (σ : sS) : Option (Int32 × sS) := s_run (S_X8_readAtom ) (121, [.int w0, .ref w1], σ)
noncomputable def R_X8_readAtom_133 (v0 : Nat) (v1 : Int32) (σ : sS) : Option (Int32 × sS) := s_run (S_X8_readAtom ) (133, [.ref v0, .int v1], σ)
noncomputable def R_X8_readAtom_225 (v2 : Int32) (w0 : Int32) (w1 : Nat) (σ : sS) : Option (Int32 × sS) := s_run (S_X8_readAtom ) (225, [.int v2, .int w0, .ref w1], σ)
theorem E_X8_readAtom_0 {v0 : Nat} {σ : sS} : R_X8_readAtom_0 v0 σ = ((s_fi σ v0 8 10).bind fun x1 =>
  (s_fi σ v0 8 8).bind fun x2 =>
  if x2 ≤ x1 then (R_X8_readAtom_24 v0 0 σ)
  else ((s_fr σ v0 8 6).bind fun x3 =>
  (s_fi σ v0 8 10).bind fun x4 =>
  (s_ab σ x3 x4).bind fun x5 =>
  R_X8_readAtom_24 v0 x5 σ)) := by
  unfold R_X8_readAtom_0
  rw [s_run_eq]
  show s_go _ _ (T_X8_readAtom_0 v0 σ) = _
  unfold T_X8_readAtom_0
  simp only [s_go_bind, s_go_ite, s_go_sum, s_go_l, s_go_r, s_go_n]
  try rfl
theorem E_X8_readAtom_24 {v0 : Nat} {w0 : Int32} {σ : sS} : R_X8_readAtom_24 v0 w0 σ = ((s_fi σ v0 8 8).bind fun x1 =>
  (s_fi σ v0 8 10).bind fun x2 =>
  if (x1 - x2) = 1 then (if w0 < 112 then (R_X8_readAtom_59 v0 w0 σ)
  else (if (115 : Int32) < w0 then (R_X8_readAtom_59 v0 w0 σ)
  else ((F_X8_puts v0 (w0 - 112) σ).bind fun q3 =>
  if (q3.1 = 0 ∨ q3.1 = 1) then (some (q3.1, q3.2)) else none)))
  else (R_X8_readAtom_59 v0 w0 σ)) := by
  unfold R_X8_readAtom_24
  rw [s_run_eq]
  show s_go _ _ (T_X8_readAtom_24 v0 w0 σ) = _
  unfold T_X8_readAtom_24
  simp only [s_go_bind, s_go_ite, s_go_sum, s_go_l, s_go_r, s_go_n]
  try rfl
theorem E_X8_readAtom_59 {v0 : Nat} {v1 : Int32} {σ : sS} : R_X8_readAtom_59 v0 v1 σ = (if v1 = 102 then (R_X8_readAtom_73 v0 v1 σ)
  else (if v1 = 103 then (R_X8_readAtom_73 v0 v1 σ)
  else (some (0, σ)))) := by
  unfold R_X8_readAtom_59
  rw [s_run_eq]
  show s_go _ _ (T_X8_readAtom_59 v0 v1 σ) = _
  unfold T_X8_readAtom_59
  simp only [s_go_bind, s_go_ite, s_go_sum, s_go_l, s_go_r, s_go_n]
  try rfl
theorem E_X8_readAtom_73 {v0 : Nat} {v1 : Int32} {σ : sS} : R_X8_readAtom_73 v0 v1 σ = ((s_fi σ v0 8 8).bind fun x1 =>
  (s_fi σ v0 8 10).bind fun x2 =>
  if (x1 - x2) = 2 then ((s_fr σ v0 8 6).bind fun x3 =>
  (s_fi σ v0 8 10).bind fun x4 =>
  (s_ab σ x3 (x4 + 1)).bind fun x5 =>
  if x5 = 120 then ((s_fi σ v0 8 14).bind fun x6 =>
  if x6 = 0 then (some (0, σ))
  else (if v1 = 102 then (R_X8_readAtom_121 4 v0 σ)
  else (R_X8_readAtom_121 5 v0 σ)))
  else (R_X8_readAtom_133 v0 v1 σ))
  else (R_X8_readAtom_133 v0 v1 σ)) := by
  unfold R_X8_readAtom_73
  rw [s_run_eq]
  show s_go _ _ (T_X8_readAtom_73 v0 v1 σ) = _
  unfold T_X8_readAtom_73
  simp only [s_go_bind, s_go_ite, s_go_sum, s_go_l, s_go_r, s_go_n]
  try rfl
theorem E_X8_readAtom_121 {w0 : Int32} {w1 : Nat} {σ : sS} : R_X8_readAtom_121 w0 w1 σ = ((F_X8_puts w1 w0 σ).bind fun q1 =>
  if q1.1 = 0 then (some (0, q1.2))
  else (some (1, q1.2))) := by
  unfold R_X8_readAtom_121
  rw [s_run_eq]
  show s_go _ _ (T_X8_readAtom_121 w0 w1 σ) = _
  unfold T_X8_readAtom_121
  simp only [s_go_bind, s_go_ite, s_go_sum, s_go_l, s_go_r, s_go_n]
  try rfl
theorem E_X8_readAtom_133 {v0 : Nat} {v1 : Int32} {σ : sS} : R_X8_readAtom_133 v0 v1 σ = ((s_fi σ v0 8 8).bind fun x1 =>
  (s_fi σ v0 8 10).bind fun x2 =>
  if (1 : Int32) < (x1 - x2) then (some (0, σ))
  else ((F_X8_isAt v0 48 57 σ).bind fun q3 =>
  if q3.1 = 0 then (some (0, q3.2))
  else ((s_fr q3.2 v0 8 6).bind fun x4 =>
  (s_fi q3.2 v0 8 8).bind fun x5 =>
  (s_ab q3.2 x4 x5).bind fun x6 =>
  (s_fi q3.2 v0 8 12).bind fun x7 =>
  if x7 = 40 then (some (0, q3.2))
  else ((F_X8_d v0 q3.2).bind fun q8 =>
  if (x6 - 48) < q8.1 then ((s_fi q8.2 v0 8 8).bind fun x9 =>
  (s_pf q8.2 v0 8 8 (.int (x9 + 1))).bind fun σ10 =>
  if v1 = 102 then (R_X8_readAtom_225 (x6 - 48) 6 v0 σ10)
  else (R_X8_readAtom_225 (x6 - 48) 9 v0 σ10))
  else ((s_fi q8.2 v0 8 8).bind fun x11 =>
  (s_pf q8.2 v0 8 10 (.int x11)).bind fun σ12 =>
  some (0, σ12)))))) := by
  unfold R_X8_readAtom_133
  rw [s_run_eq]
  show s_go _ _ (T_X8_readAtom_133 v0 v1 σ) = _
  unfold T_X8_readAtom_133
  simp only [s_go_bind, s_go_ite, s_go_sum, s_go_l, s_go_r, s_go_n]
  try rfl
theorem E_X8_readAtom_225 {v2 : Int32} {w0 : Int32} {w1 : Nat} {σ : sS} : R_X8_readAtom_225 v2 w0 w1 σ = ((F_X8_puts w1 (w0 + v2) σ).bind fun q1 =>
  if (q1.1 = 0 ∨ q1.1 = 1) then (some (q1.1, q1.2)) else none) := by
  unfold R_X8_readAtom_225
  rw [s_run_eq]
  show s_go _ _ (T_X8_readAtom_225 v2 w0 w1 σ) = _
  unfold T_X8_readAtom_225
  simp only [s_go_bind, s_go_ite, s_go_sum, s_go_l, s_go_r, s_go_n]
  try rfl
theorem E_X8_readAtom {v0 : Nat} {σ : sS} : F_X8_readAtom v0 σ = ((s_is σ v0 8).bind fun _ => R_X8_readAtom_0 v0 σ) := rfl
/-! X8_joins -/
noncomputable def R_X8_joins_0 (v0 : Nat) (v1 : Int32) (v2 : Int32) (σ : sS) : Option (Unit × sS) := s_run (S_X8_joins ) (0, [.ref v0, .int v1, .int v2], σ)
noncomputable def R_X8_joins_8 (v0 : Nat) (v1 : Int32) (v2 : Int32) (v3 : Int32) (σ : sS) : Option (Unit × sS) := s_run (S_X8_joins ) (8, [.ref v0, .int v1, .int v2, .int v3], σ)
theorem E_X8_joins_0 {v0 : Nat} {v1 : Int32} {v2 : Int32} {σ : sS} : R_X8_joins_0 v0 v1 v2 σ = ((s_fr σ v0 8 4).bind fun x1 =>
  (s_ai σ x1 70).bind fun x2 =>
  R_X8_joins_8 v0 v1 v2 x2 σ) := by
  unfold R_X8_joins_0
  rw [s_run_eq]
  show s_go _ _ (T_X8_joins_0 v0 v1 v2 σ) = _
  unfold T_X8_joins_0
  simp only [s_go_bind, s_go_ite, s_go_sum, s_go_l, s_go_r, s_go_n]
  try rfl
theorem E_X8_joins_8 {v0 : Nat} {v1 : Int32} {v2 : Int32} {v3 : Int32} {σ : sS} : R_X8_joins_8 v0 v1 v2 v3 σ = (if v3 ≤ v1 then ((s_fr σ v0 8 5).bind fun x1 =>
  (s_si σ x1 (2800 + v1) v2).bind fun σ2 =>
  (s_fr σ2 v0 8 4).bind fun x3 =>
  (s_ai σ2 x3 70).bind fun x4 =>
  (s_si σ2 x3 70 (x4 + 1)).bind fun σ5 =>
  some ((), σ5))
  else ((s_fr σ v0 8 5).bind fun x6 =>
  (s_fr σ v0 8 5).bind fun x7 =>
  (s_ai σ x7 ((2800 + v3) - 1)).bind fun x8 =>
  (s_si σ x6 (2800 + v3) x8).bind fun σ9 =>
  R_X8_joins_8 v0 v1 v2 (v3 + (-1)) σ9)) := by
  unfold R_X8_joins_8
  rw [s_run_eq]
  show s_go _ _ (T_X8_joins_8 v0 v1 v2 v3 σ) = _
  unfold T_X8_joins_8
  simp only [s_go_bind, s_go_ite, s_go_sum, s_go_l, s_go_r, s_go_n]
  try rfl
theorem E_X8_joins {v0 : Nat} {v1 : Int32} {v2 : Int32} {σ : sS} : F_X8_joins v0 v1 v2 σ = ((s_is σ v0 8).bind fun _ => R_X8_joins_0 v0 v1 v2 σ) := rfl
/-! X8_readAnd X8_readFormula X8_readOr X8_readUnit -/
noncomputable def R_X8_readAnd_0 (k9 : Nat) (v0 : Nat) (σ : sS) : Option (Int32 × sS) := s_run (S_X8_readAnd (F_X8_readAnd k9) (F_X8_readFormula k9) (F_X8_readOr k9) (F_X8_readUnit k9) ) (0, [.ref v0], σ)
noncomputable def R_X8_readAnd_17 (k9 : Nat) (v0 : Nat) (v1 : Int32) (σ : sS) : Option (Int32 × sS) := s_run (S_X8_readAnd (F_X8_readAnd k9) (F_X8_readFormula k9) (F_X8_readOr k9) (F_X8_readUnit k9) ) (17, [.ref v0, .int v1], σ)
noncomputable def R_X8_readFormula_0 (k9 : Nat) (v0 : Nat) (σ : sS) : Option (Int32 × sS) := s_run (S_X8_readFormula (F_X8_readAnd k9) (F_X8_readFormula k9) (F_X8_readOr k9) (F_X8_readUnit k9) ) (0, [.ref v0], σ)
noncomputable def R_X8_readOr_0 (k9 : Nat) (v0 : Nat) (σ : sS) : Option (Int32 × sS) := s_run (S_X8_readOr (F_X8_readAnd k9) (F_X8_readFormula k9) (F_X8_readOr k9) (F_X8_readUnit k9) ) (0, [.ref v0], σ)
noncomputable def R_X8_readOr_17 (k9 : Nat) (v0 : Nat) (v1 : Int32) (σ : sS) : Option (Int32 × sS) := s_run (S_X8_readOr (F_X8_readAnd k9) (F_X8_readFormula k9) (F_X8_readOr k9) (F_X8_readUnit k9) ) (17, [.ref v0, .int v1], σ)
noncomputable def R_X8_readUnit_0 (k9 : Nat) (v0 : Nat) (σ : sS) : Option (Int32 × sS) := s_run (S_X8_readUnit (F_X8_readAnd k9) (F_X8_readFormula k9) (F_X8_readOr k9) (F_X8_readUnit k9) ) (0, [.ref v0], σ)
noncomputable def R_X8_readUnit_117 (k9 : Nat) (v0 : Nat) (v1 : Int32) (σ : sS) : Option (Int32 × sS) := s_run (S_X8_readUnit (F_X8_readAnd k9) (F_X8_readFormula k9) (F_X8_readOr k9) (F_X8_readUnit k9) ) (117, [.ref v0, .int v1], σ)
noncomputable def R_X8_readUnit_143 (k9 : Nat) (v0 : Nat) (w0 : Int32) (w1 : Nat) (σ : sS) : Option (Int32 × sS) := s_run (S_X8_readUnit (F_X8_readAnd k9) (F_X8_readFormula k9) (F_X8_readOr k9) (F_X8_readUnit k9) ) (143, [.ref v0, .int w0, .ref w1], σ)
theorem E_X8_readAnd_0 {k9 : Nat} {v0 : Nat} {σ : sS} : R_X8_readAnd_0 k9 v0 σ = ((s_fr σ v0 8 4).bind fun x1 =>
  (s_ai σ x1 70).bind fun x2 =>
  (F_X8_readUnit k9 v0 σ).bind fun q3 =>
  if q3.1 = 0 then (some (0, q3.2))
  else (R_X8_readAnd_17 k9 v0 x2 q3.2)) := by
  unfold R_X8_readAnd_0
  rw [s_run_eq]
  show s_go _ _ (T_X8_readAnd_0 (F_X8_readAnd k9) (F_X8_readFormula k9) (F_X8_readOr k9) (F_X8_readUnit k9) v0 σ) = _
  unfold T_X8_readAnd_0
  simp only [s_go_bind, s_go_ite, s_go_sum, s_go_l, s_go_r, s_go_n]
  try rfl
theorem E_X8_readAnd_17 {k9 : Nat} {v0 : Nat} {v1 : Int32} {σ : sS} : R_X8_readAnd_17 k9 v0 v1 σ = ((F_X8_has v0 38 σ).bind fun q1 =>
  if q1.1 = 0 then (some (1, q1.2))
  else ((F_X8_counts v0 q1.2).bind fun q2 =>
  if q2.1 = 0 then (some (0, q2.2))
  else ((F_X8_readUnit k9 v0 q2.2).bind fun q3 =>
  if q3.1 = 0 then (some (0, q3.2))
  else ((F_X8_joins v0 v1 13 q3.2).bind fun q4 =>
  R_X8_readAnd_17 k9 v0 v1 q4.2)))) := by
  unfold R_X8_readAnd_17
  rw [s_run_eq]
  show s_go _ _ (T_X8_readAnd_17 (F_X8_readAnd k9) (F_X8_readFormula k9) (F_X8_readOr k9) (F_X8_readUnit k9) v0 v1 σ) = _
  unfold T_X8_readAnd_17
  simp only [s_go_bind, s_go_ite, s_go_sum, s_go_l, s_go_r, s_go_n]
  try rfl
theorem E_X8_readAnd {k9 : Nat}  {v0 : Nat} {σ : sS} : F_X8_readAnd (k9 + 1) v0 σ = ((s_is σ v0 8).bind fun _ => R_X8_readAnd_0 k9 v0 σ) := rfl
theorem E_X8_readFormula_0 {k9 : Nat} {v0 : Nat} {σ : sS} : R_X8_readFormula_0 k9 v0 σ = ((s_fr σ v0 8 4).bind fun x1 =>
  (s_ai σ x1 70).bind fun x2 =>
  (F_X8_readOr k9 v0 σ).bind fun q3 =>
  if q3.1 = 0 then (some (0, q3.2))
  else ((F_X8_has v0 62 q3.2).bind fun q4 =>
  if q4.1 = 0 then (some (1, q4.2))
  else ((F_X8_deeper v0 q4.2).bind fun q5 =>
  if q5.1 = 0 then (some (0, q5.2))
  else ((F_X8_counts v0 q5.2).bind fun q6 =>
  if q6.1 = 0 then (some (0, q6.2))
  else ((F_X8_readFormula k9 v0 q6.2).bind fun q7 =>
  if q7.1 = 0 then (some (0, q7.2))
  else ((s_fi q7.2 v0 8 11).bind fun x8 =>
  (s_pf q7.2 v0 8 11 (.int (x8 - 1))).bind fun σ9 =>
  (F_X8_joins v0 x2 15 σ9).bind fun q10 =>
  some (1, q10.2))))))) := by
  unfold R_X8_readFormula_0
  rw [s_run_eq]
  show s_go _ _ (T_X8_readFormula_0 (F_X8_readAnd k9) (F_X8_readFormula k9) (F_X8_readOr k9) (F_X8_readUnit k9) v0 σ) = _
  unfold T_X8_readFormula_0
  simp only [s_go_bind, s_go_ite, s_go_sum, s_go_l, s_go_r, s_go_n]
  try rfl
theorem E_X8_readFormula {k9 : Nat}  {v0 : Nat} {σ : sS} : F_X8_readFormula (k9 + 1) v0 σ = ((s_is σ v0 8).bind fun _ => R_X8_readFormula_0 k9 v0 σ) := rfl
theorem E_X8_readOr_0 {k9 : Nat} {v0 : Nat} {σ : sS} : R_X8_readOr_0 k9 v0 σ = ((s_fr σ v0 8 4).bind fun x1 =>
  (s_ai σ x1 70).bind fun x2 =>
  (F_X8_readAnd k9 v0 σ).bind fun q3 =>
  if q3.1 = 0 then (some (0, q3.2))
  else (R_X8_readOr_17 k9 v0 x2 q3.2)) := by
  unfold R_X8_readOr_0
  rw [s_run_eq]
  show s_go _ _ (T_X8_readOr_0 (F_X8_readAnd k9) (F_X8_readFormula k9) (F_X8_readOr k9) (F_X8_readUnit k9) v0 σ) = _
  unfold T_X8_readOr_0
  simp only [s_go_bind, s_go_ite, s_go_sum, s_go_l, s_go_r, s_go_n]
  try rfl
theorem E_X8_readOr_17 {k9 : Nat} {v0 : Nat} {v1 : Int32} {σ : sS} : R_X8_readOr_17 k9 v0 v1 σ = ((F_X8_has v0 124 σ).bind fun q1 =>
  if q1.1 = 0 then (some (1, q1.2))
  else ((F_X8_counts v0 q1.2).bind fun q2 =>
  if q2.1 = 0 then (some (0, q2.2))
  else ((F_X8_readAnd k9 v0 q2.2).bind fun q3 =>
  if q3.1 = 0 then (some (0, q3.2))
  else ((F_X8_joins v0 v1 14 q3.2).bind fun q4 =>
  R_X8_readOr_17 k9 v0 v1 q4.2)))) := by
  unfold R_X8_readOr_17
  rw [s_run_eq]
  show s_go _ _ (T_X8_readOr_17 (F_X8_readAnd k9) (F_X8_readFormula k9) (F_X8_readOr k9) (F_X8_readUnit k9) v0 v1 σ) = _
  unfold T_X8_readOr_17
  simp only [s_go_bind, s_go_ite, s_go_sum, s_go_l, s_go_r, s_go_n]
  try rfl
theorem E_X8_readOr {k9 : Nat}  {v0 : Nat} {σ : sS} : F_X8_readOr (k9 + 1) v0 σ = ((s_is σ v0 8).bind fun _ => R_X8_readOr_0 k9 v0 σ) := rfl
theorem E_X8_readUnit_0 {k9 : Nat} {v0 : Nat} {σ : sS} : R_X8_readUnit_0 k9 v0 σ = ((F_X8_has v0 45 σ).bind fun q1 =>
  if q1.1 = 0 then ((F_X8_has v0 40 q1.2).bind fun q2 =>
  if q2.1 = 0 then ((F_X8_letters v0 q2.2).bind fun q3 =>
  (F_X8_isWord v0 (q3.2.2.2.2 2) q3.2).bind fun q4 =>
  if q4.1 = 0 then ((F_X8_isWord v0 (q4.2.2.2.2 3) q4.2).bind fun q5 =>
  if q5.1 = 0 then ((F_X8_readAtom v0 q5.2).bind fun q6 =>
  if (q6.1 = 0 ∨ q6.1 = 1) then (some (q6.1, q6.2)) else none)
  else (R_X8_readUnit_117 k9 v0 q4.1 q5.2))
  else (R_X8_readUnit_117 k9 v0 q4.1 q4.2))
  else ((F_X8_deeper v0 q2.2).bind fun q7 =>
  if q7.1 = 0 then (some (0, q7.2))
  else ((F_X8_readFormula k9 v0 q7.2).bind fun q8 =>
  if q8.1 = 0 then (some (0, q8.2))
  else ((s_fi q8.2 v0 8 11).bind fun x9 =>
  (s_pf q8.2 v0 8 11 (.int (x9 - 1))).bind fun σ10 =>
  (F_X8_has v0 41 σ10).bind fun q11 =>
  if (q11.1 = 0 ∨ q11.1 = 1) then (some (q11.1, q11.2)) else none))))
  else ((F_X8_deeper v0 q1.2).bind fun q12 =>
  if q12.1 = 0 then (some (0, q12.2))
  else ((F_X8_puts v0 12 q12.2).bind fun q13 =>
  if q13.1 = 0 then (some (0, q13.2))
  else ((F_X8_readUnit k9 v0 q13.2).bind fun q14 =>
  if q14.1 = 0 then (some (0, q14.2))
  else ((s_fi q14.2 v0 8 11).bind fun x15 =>
  (s_pf q14.2 v0 8 11 (.int (x15 - 1))).bind fun σ16 =>
  some (1, σ16)))))) := by
  unfold R_X8_readUnit_0
  rw [s_run_eq]
  show s_go _ _ (T_X8_readUnit_0 (F_X8_readAnd k9) (F_X8_readFormula k9) (F_X8_readOr k9) (F_X8_readUnit k9) v0 σ) = _
  unfold T_X8_readUnit_0
  simp only [s_go_bind, s_go_ite, s_go_sum, s_go_l, s_go_r, s_go_n]
  try rfl
theorem E_X8_readUnit_117 {k9 : Nat} {v0 : Nat} {v1 : Int32} {σ : sS} : R_X8_readUnit_117 k9 v0 v1 σ = ((s_fi σ v0 8 14).bind fun x1 =>
  if x1 = 0 then ((F_X8_deeper v0 σ).bind fun q2 =>
  if q2.1 = 0 then (some (0, q2.2))
  else (if v1 = 0 then (R_X8_readUnit_143 k9 v0 17 v0 q2.2)
  else (R_X8_readUnit_143 k9 v0 16 v0 q2.2)))
  else (some (0, σ))) := by
  unfold R_X8_readUnit_117
  rw [s_run_eq]
  show s_go _ _ (T_X8_readUnit_117 (F_X8_readAnd k9) (F_X8_readFormula k9) (F_X8_readOr k9) (F_X8_readUnit k9) v0 v1 σ) = _
  unfold T_X8_readUnit_117
  simp only [s_go_bind, s_go_ite, s_go_sum, s_go_l, s_go_r, s_go_n]
  try rfl
theorem E_X8_readUnit_143 {k9 : Nat} {v0 : Nat} {w0 : Int32} {w1 : Nat} {σ : sS} : R_X8_readUnit_143 k9 v0 w0 w1 σ = ((F_X8_puts w1 w0 σ).bind fun q1 =>
  if q1.1 = 0 then (some (0, q1.2))
  else ((s_pf q1.2 v0 8 14 (.int 1)).bind fun σ2 =>
  (F_X8_readUnit k9 v0 σ2).bind fun q3 =>
  if q3.1 = 0 then (some (0, q3.2))
  else ((s_pf q3.2 v0 8 14 (.int 0)).bind fun σ4 =>
  (s_fi σ4 v0 8 11).bind fun x5 =>
  (s_pf σ4 v0 8 11 (.int (x5 - 1))).bind fun σ6 =>
  some (1, σ6)))) := by
  unfold R_X8_readUnit_143
  rw [s_run_eq]
  show s_go _ _ (T_X8_readUnit_143 (F_X8_readAnd k9) (F_X8_readFormula k9) (F_X8_readOr k9) (F_X8_readUnit k9) v0 w0 w1 σ) = _
  unfold T_X8_readUnit_143
  simp only [s_go_bind, s_go_ite, s_go_sum, s_go_l, s_go_r, s_go_n]
  try rfl
theorem E_X8_readUnit {k9 : Nat}  {v0 : Nat} {σ : sS} : F_X8_readUnit (k9 + 1) v0 σ = ((s_is σ v0 8).bind fun _ => R_X8_readUnit_0 k9 v0 σ) := rfl
/-! X8_throwsIf -/
noncomputable def R_X8_throwsIf_0 (v0 : Nat) (v1 : Int32) (v2 : Int32) (σ : sS) : Option (Int32 × sS) := s_run (S_X8_throwsIf ) (0, [.ref v0, .int v1, .int v2], σ)
theorem E_X8_throwsIf_0 {v0 : Nat} {v1 : Int32} {v2 : Int32} {σ : sS} : R_X8_throwsIf_0 v0 v1 v2 σ = (if v1 = 0 then (if (v1 = 0 ∨ v1 = 1) then (some (v1, σ)) else none)
  else ((s_pf σ v0 8 0 (.int v2)).bind fun σ1 =>
  if (v1 = 0 ∨ v1 = 1) then (some (v1, σ1)) else none)) := by
  unfold R_X8_throwsIf_0
  rw [s_run_eq]
  show s_go _ _ (T_X8_throwsIf_0 v0 v1 v2 σ) = _
  unfold T_X8_throwsIf_0
  simp only [s_go_bind, s_go_ite, s_go_sum, s_go_l, s_go_r, s_go_n]
  try rfl
theorem E_X8_throwsIf {v0 : Nat} {v1 : Int32} {v2 : Int32} {σ : sS} : F_X8_throwsIf v0 v1 v2 σ = ((s_is σ v0 8).bind fun _ => R_X8_throwsIf_0 v0 v1 v2 σ) := rfl
/-! X8_formulas -/
noncomputable def R_X8_formulas_0 (v0 : Nat) (σ : sS) : Option (Int32 × sS) := s_run (S_X8_formulas ) (0, [.ref v0], σ)
theorem E_X8_formulas_0 {v0 : Nat} {σ : sS} : R_X8_formulas_0 v0 σ = ((s_fr σ v0 8 1).bind fun x1 =>
  (s_ai σ x1 1).bind fun x2 =>
  some (x2, σ)) := by
  unfold R_X8_formulas_0
  rw [s_run_eq]
  show s_go _ _ (T_X8_formulas_0 v0 σ) = _
  unfold T_X8_formulas_0
  simp only [s_go_bind, s_go_ite, s_go_sum, s_go_l, s_go_r, s_go_n]
  try rfl
theorem E_X8_formulas {v0 : Nat} {σ : sS} : F_X8_formulas v0 σ = ((s_is σ v0 8).bind fun _ => R_X8_formulas_0 v0 σ) := rfl
/-! X8_at -/
noncomputable def R_X8_at_0 (v0 : Nat) (v1 : Int32) (v2 : Int32) (σ : sS) : Option (Int32 × sS) := s_run (S_X8_at ) (0, [.ref v0, .int v1, .int v2], σ)
theorem E_X8_at_0 {v0 : Nat} {v1 : Int32} {v2 : Int32} {σ : sS} : R_X8_at_0 v0 v1 v2 σ = ((s_fr σ v0 8 5).bind fun x1 =>
  (s_ai σ x1 ((40 * v1) + v2)).bind fun x2 =>
  some (x2, σ)) := by
  unfold R_X8_at_0
  rw [s_run_eq]
  show s_go _ _ (T_X8_at_0 v0 v1 v2 σ) = _
  unfold T_X8_at_0
  simp only [s_go_bind, s_go_ite, s_go_sum, s_go_l, s_go_r, s_go_n]
  try rfl
theorem E_X8_at {v0 : Nat} {v1 : Int32} {v2 : Int32} {σ : sS} : F_X8_at v0 v1 v2 σ = ((s_is σ v0 8).bind fun _ => R_X8_at_0 v0 v1 v2 σ) := rfl
/-! X8_fills -/
noncomputable def R_X8_fills_0 (v0 : Nat) (σ : sS) : Option (Unit × sS) := s_run (S_X8_fills ) (0, [.ref v0], σ)
noncomputable def R_X8_fills_2 (v0 : Nat) (v1 : Int32) (σ : sS) : Option (Unit × sS) := s_run (S_X8_fills ) (2, [.ref v0, .int v1], σ)
noncomputable def R_X8_fills_30 (v0 : Nat) (v1 : Int32) (v2 : Int32) (σ : sS) : Option (Unit × sS) := s_run (S_X8_fills ) (30, [.ref v0, .int v1, .int v2], σ)
theorem E_X8_fills_0 {v0 : Nat} {σ : sS} : R_X8_fills_0 v0 σ = (R_X8_fills_2 v0 0 σ) := by
  unfold R_X8_fills_0
  rw [s_run_eq]
  show s_go _ _ (T_X8_fills_0 v0 σ) = _
  unfold T_X8_fills_0
  simp only [s_go_bind, s_go_ite, s_go_sum, s_go_l, s_go_r, s_go_n]
  try rfl
theorem E_X8_fills_2 {v0 : Nat} {v1 : Int32} {σ : sS} : R_X8_fills_2 v0 v1 σ = ((F_X8_formulas v0 σ).bind fun q1 =>
  if q1.1 ≤ v1 then (some ((), q1.2))
  else ((s_fr q1.2 v0 8 4).bind fun x2 =>
  (s_fr q1.2 v0 8 1).bind fun x3 =>
  (s_ai q1.2 x3 (62 + (41 * v1))).bind fun x4 =>
  (s_si q1.2 x2 v1 x4).bind fun σ5 =>
  R_X8_fills_30 v0 v1 0 σ5)) := by
  unfold R_X8_fills_2
  rw [s_run_eq]
  show s_go _ _ (T_X8_fills_2 v0 v1 σ) = _
  unfold T_X8_fills_2
  simp only [s_go_bind, s_go_ite, s_go_sum, s_go_l, s_go_r, s_go_n]
  try rfl
theorem E_X8_fills_30 {v0 : Nat} {v1 : Int32} {v2 : Int32} {σ : sS} : R_X8_fills_30 v0 v1 v2 σ = ((s_fr σ v0 8 4).bind fun x1 =>
  (s_ai σ x1 v1).bind fun x2 =>
  if x2 ≤ v2 then (R_X8_fills_2 v0 (v1 + 1) σ)
  else ((s_fr σ v0 8 5).bind fun x3 =>
  (s_fr σ v0 8 1).bind fun x4 =>
  (s_ai σ x4 (((62 + (41 * v1)) + 1) + v2)).bind fun x5 =>
  (s_si σ x3 ((40 * v1) + v2) x5).bind fun σ6 =>
  R_X8_fills_30 v0 v1 (v2 + 1) σ6)) := by
  unfold R_X8_fills_30
  rw [s_run_eq]
  show s_go _ _ (T_X8_fills_30 v0 v1 v2 σ) = _
  unfold T_X8_fills_30
  simp only [s_go_bind, s_go_ite, s_go_sum, s_go_l, s_go_r, s_go_n]
  try rfl
theorem E_X8_fills {v0 : Nat} {σ : sS} : F_X8_fills v0 σ = ((s_is σ v0 8).bind fun _ => R_X8_fills_0 v0 σ) := rfl
/-! X8_formula -/
noncomputable def R_X8_formula_0 (v0 : Nat) (σ : sS) : Option (Int32 × sS) := s_run (S_X8_formula ) (0, [.ref v0], σ)
noncomputable def R_X8_formula_75 (v0 : Nat) (w0 : Int32) (σ : sS) : Option (Int32 × sS) := s_run (S_X8_formula ) (75, [.ref v0, .int w0], σ)
noncomputable def R_X8_formula_76 (v0 : Nat) (v1 : Int32) (σ : sS) : Option (Int32 × sS) := s_run (S_X8_formula ) (76, [.ref v0, .int v1], σ)
noncomputable def R_X8_formula_89 (v0 : Nat) (v1 : Int32) (w0 : Int32) (w1 : Nat) (σ : sS) : Option (Int32 × sS) := s_run (S_X8_formula ) (89, [.ref v0, .int v1, .int w0, .ref w1], σ)
noncomputable def R_X8_formula_102 (v0 : Nat) (w0 : Int32) (w1 : Nat) (σ : sS) : Option (Int32 × sS) := s_run (S_X8_formula ) (102, [.ref v0, .int w0, .ref w1], σ)
noncomputable def R_X8_formula_124 (v0 : Nat) (w0 : Int32) (w1 : Nat) (σ : sS) : Option (Int32 × sS) := s_run (S_X8_formula ) (124, [.ref v0, .int w0, .ref w1], σ)
noncomputable def R_X8_formula_159 (v0 : Nat) (v2 : Int32) (v3 : Int32) (σ : sS) : Option (Int32 × sS) := s_run (S_X8_formula ) (159, [.ref v0, .int v2, .int v3], σ)
theorem E_X8_formula_0 {v0 : Nat} {σ : sS} : R_X8_formula_0 v0 σ = ((s_pf σ v0 8 0 (.int 0)).bind fun σ1 =>
  (s_fi σ1 v0 8 7).bind fun x2 =>
  (s_pf σ1 v0 8 9 (.int x2)).bind fun σ3 =>
  (s_pf σ3 v0 8 7 (.int 0)).bind fun σ4 =>
  (s_pf σ4 v0 8 8 (.int 0)).bind fun σ5 =>
  (s_pf σ5 v0 8 11 (.int 0)).bind fun σ6 =>
  (s_pf σ6 v0 8 12 (.int 0)).bind fun σ7 =>
  (s_pf σ7 v0 8 14 (.int 0)).bind fun σ8 =>
  (s_fr σ8 v0 8 4).bind fun x9 =>
  (s_si σ8 x9 70 0).bind fun σ10 =>
  (F_X8_readFormula 64 v0 σ10).bind fun q11 =>
  if q11.1 = 0 then (R_X8_formula_76 v0 q11.1 q11.2)
  else ((F_X8_blanks v0 q11.2).bind fun q12 =>
  (s_fi q12.2 v0 8 8).bind fun x13 =>
  (s_fi q12.2 v0 8 9).bind fun x14 =>
  if x13 = x14 then (R_X8_formula_75 v0 1 q12.2)
  else (R_X8_formula_75 v0 0 q12.2))) := by
  unfold R_X8_formula_0
  rw [s_run_eq]
  show s_go _ _ (T_X8_formula_0 v0 σ) = _
  unfold T_X8_formula_0
  simp only [s_go_bind, s_go_ite, s_go_sum, s_go_l, s_go_r, s_go_n]
  try rfl
theorem E_X8_formula_75 {v0 : Nat} {w0 : Int32} {σ : sS} : R_X8_formula_75 v0 w0 σ = (R_X8_formula_76 v0 w0 σ) := by
  unfold R_X8_formula_75
  rw [s_run_eq]
  show s_go _ _ (T_X8_formula_75 v0 w0 σ) = _
  unfold T_X8_formula_75
  simp only [s_go_bind, s_go_ite, s_go_sum, s_go_l, s_go_r, s_go_n]
  try rfl
theorem E_X8_formula_76 {v0 : Nat} {v1 : Int32} {σ : sS} : R_X8_formula_76 v0 v1 σ = (if v1 = 0 then ((s_fi σ v0 8 10).bind fun x1 =>
  R_X8_formula_89 v0 v1 x1 v0 σ)
  else (R_X8_formula_89 v0 v1 (-1) v0 σ)) := by
  unfold R_X8_formula_76
  rw [s_run_eq]
  show s_go _ _ (T_X8_formula_76 v0 v1 σ) = _
  unfold T_X8_formula_76
  simp only [s_go_bind, s_go_ite, s_go_sum, s_go_l, s_go_r, s_go_n]
  try rfl
theorem E_X8_formula_89 {v0 : Nat} {v1 : Int32} {w0 : Int32} {w1 : Nat} {σ : sS} : R_X8_formula_89 v0 v1 w0 w1 σ = ((s_pf σ w1 8 13 (.int w0)).bind fun σ1 =>
  if v1 = 0 then (R_X8_formula_102 v0 1 v0 σ1)
  else (R_X8_formula_102 v0 0 v0 σ1)) := by
  unfold R_X8_formula_89
  rw [s_run_eq]
  show s_go _ _ (T_X8_formula_89 v0 v1 w0 w1 σ) = _
  unfold T_X8_formula_89
  simp only [s_go_bind, s_go_ite, s_go_sum, s_go_l, s_go_r, s_go_n]
  try rfl
theorem E_X8_formula_102 {v0 : Nat} {w0 : Int32} {w1 : Nat} {σ : sS} : R_X8_formula_102 v0 w0 w1 σ = ((F_X8_throwsIf w1 w0 1 σ).bind fun q1 =>
  if q1.1 = 0 then ((F_X8_formulas v0 q1.2).bind fun q2 =>
  if q2.1 = 30 then (R_X8_formula_124 v0 1 v0 q2.2)
  else (R_X8_formula_124 v0 0 v0 q2.2))
  else (some (0, q1.2))) := by
  unfold R_X8_formula_102
  rw [s_run_eq]
  show s_go _ _ (T_X8_formula_102 v0 w0 w1 σ) = _
  unfold T_X8_formula_102
  simp only [s_go_bind, s_go_ite, s_go_sum, s_go_l, s_go_r, s_go_n]
  try rfl
theorem E_X8_formula_124 {v0 : Nat} {w0 : Int32} {w1 : Nat} {σ : sS} : R_X8_formula_124 v0 w0 w1 σ = ((F_X8_throwsIf w1 w0 2 σ).bind fun q1 =>
  if q1.1 = 0 then ((F_X8_formulas v0 q1.2).bind fun q2 =>
  (s_fr q2.2 v0 8 1).bind fun x3 =>
  (s_fr q2.2 v0 8 4).bind fun x4 =>
  (s_ai q2.2 x4 70).bind fun x5 =>
  (s_si q2.2 x3 (62 + (41 * q2.1)) x5).bind fun σ6 =>
  R_X8_formula_159 v0 q2.1 0 σ6)
  else (some (0, q1.2))) := by
  unfold R_X8_formula_124
  rw [s_run_eq]
  show s_go _ _ (T_X8_formula_124 v0 w0 w1 σ) = _
  unfold T_X8_formula_124
  simp only [s_go_bind, s_go_ite, s_go_sum, s_go_l, s_go_r, s_go_n]
  try rfl
theorem E_X8_formula_159 {v0 : Nat} {v2 : Int32} {v3 : Int32} {σ : sS} : R_X8_formula_159 v0 v2 v3 σ = ((s_fr σ v0 8 4).bind fun x1 =>
  (s_ai σ x1 70).bind fun x2 =>
  if x2 ≤ v3 then ((s_fr σ v0 8 1).bind fun x3 =>
  (s_ai σ x3 1).bind fun x4 =>
  (s_si σ x3 1 (x4 + 1)).bind fun σ5 =>
  (F_X8_fills v0 σ5).bind fun q6 =>
  some (v2, q6.2))
  else ((s_fr σ v0 8 1).bind fun x7 =>
  (F_X8_at v0 70 v3 σ).bind fun q8 =>
  (s_si q8.2 x7 (((62 + (41 * v2)) + 1) + v3) q8.1).bind fun σ9 =>
  R_X8_formula_159 v0 v2 (v3 + 1) σ9)) := by
  unfold R_X8_formula_159
  rw [s_run_eq]
  show s_go _ _ (T_X8_formula_159 v0 v2 v3 σ) = _
  unfold T_X8_formula_159
  simp only [s_go_bind, s_go_ite, s_go_sum, s_go_l, s_go_r, s_go_n]
  try rfl
theorem E_X8_formula {v0 : Nat} {σ : sS} : F_X8_formula v0 σ = ((s_is σ v0 8).bind fun _ => R_X8_formula_0 v0 σ) := rfl
/-! X8_thrown -/
noncomputable def R_X8_thrown_0 (v0 : Nat) (σ : sS) : Option (Int32 × sS) := s_run (S_X8_thrown ) (0, [.ref v0], σ)
theorem E_X8_thrown_0 {v0 : Nat} {σ : sS} : R_X8_thrown_0 v0 σ = ((s_fi σ v0 8 0).bind fun x1 =>
  some (x1, σ)) := by
  unfold R_X8_thrown_0
  rw [s_run_eq]
  show s_go _ _ (T_X8_thrown_0 v0 σ) = _
  unfold T_X8_thrown_0
  simp only [s_go_bind, s_go_ite, s_go_sum, s_go_l, s_go_r, s_go_n]
  try rfl
theorem E_X8_thrown {v0 : Nat} {σ : sS} : F_X8_thrown v0 σ = ((s_is σ v0 8).bind fun _ => R_X8_thrown_0 v0 σ) := rfl
/-! X7_fault -/
noncomputable def R_X7_fault_0 (v0 : Nat) (σ : sS) : Option (Int32 × sS) := s_run (S_X7_fault ) (0, [.ref v0], σ)
theorem E_X7_fault_0 {v0 : Nat} {σ : sS} : R_X7_fault_0 v0 σ = ((s_fr σ v0 7 3).bind fun x1 =>
  (s_fi σ x1 5 1).bind fun x2 =>
  some (x2, σ)) := by
  unfold R_X7_fault_0
  rw [s_run_eq]
  show s_go _ _ (T_X7_fault_0 v0 σ) = _
  unfold T_X7_fault_0
  simp only [s_go_bind, s_go_ite, s_go_sum, s_go_l, s_go_r, s_go_n]
  try rfl
theorem E_X7_fault {v0 : Nat} {σ : sS} : F_X7_fault v0 σ = ((s_is σ v0 7).bind fun _ => R_X7_fault_0 v0 σ) := rfl
/-! X8_fault -/
noncomputable def R_X8_fault_0 (v0 : Nat) (σ : sS) : Option (Int32 × sS) := s_run (S_X8_fault ) (0, [.ref v0], σ)
theorem E_X8_fault_0 {v0 : Nat} {σ : sS} : R_X8_fault_0 v0 σ = ((s_pf σ v0 8 0 (.int 0)).bind fun σ1 =>
  (s_fi σ1 v0 8 13).bind fun x2 =>
  some (x2, σ1)) := by
  unfold R_X8_fault_0
  rw [s_run_eq]
  show s_go _ _ (T_X8_fault_0 v0 σ) = _
  unfold T_X8_fault_0
  simp only [s_go_bind, s_go_ite, s_go_sum, s_go_l, s_go_r, s_go_n]
  try rfl
theorem E_X8_fault {v0 : Nat} {σ : sS} : F_X8_fault v0 σ = ((s_is σ v0 8).bind fun _ => R_X8_fault_0 v0 σ) := rfl
/-! X7_things -/
noncomputable def R_X7_things_0 (v0 : Nat) (v1 : Int32) (σ : sS) : Option ((Unit ⊕ String) × sS) := s_run (S_X7_things ) (0, [.ref v0, .int v1], σ)
theorem E_X7_things_0 {v0 : Nat} {v1 : Int32} {σ : sS} : R_X7_things_0 v0 v1 σ = (if v1 < 1 then (some (.inr "java/lang/IllegalArgumentException", s_ex σ))
  else (if v1 ≤ 3 then ((s_fr σ v0 7 1).bind fun x1 =>
  (s_fi σ x1 1 2).bind fun x2 =>
  if x2 ≤ 0 then ((s_fr σ v0 7 1).bind fun x3 =>
  (s_pf σ x3 1 0 (.int v1)).bind fun σ4 =>
  some (.inl (), σ4))
  else (some (.inr "java/lang/IllegalStateException", s_ex σ)))
  else (some (.inr "java/lang/IllegalArgumentException", s_ex σ)))) := by
  unfold R_X7_things_0
  rw [s_run_eq]
  show s_go _ _ (T_X7_things_0 v0 v1 σ) = _
  unfold T_X7_things_0
  simp only [s_go_bind, s_go_ite, s_go_sum, s_go_l, s_go_r, s_go_n]
  try rfl
theorem E_X7_things {v0 : Nat} {v1 : Int32} {σ : sS} : F_X7_things v0 v1 σ = ((s_is σ v0 7).bind fun _ => R_X7_things_0 v0 v1 σ) := rfl
/-! L_things -/
noncomputable def R_L_things_0 (v0 : Nat) (v1 : Int32) (σ : sS) : Option (Int32 × sS) := s_run (S_L_things ) (0, [.ref v0, .int v1], σ)
theorem E_L_things_0 {v0 : Nat} {v1 : Int32} {σ : sS} : R_L_things_0 v0 v1 σ = ((F_X7_things v0 v1 σ).bind fun q1 => s_sum q1.1 (fun x2 => some (0, q1.2)) (fun E3 => if E3 = "java/lang/IllegalArgumentException" then (some (1, q1.2)) else if E3 = "java/lang/IllegalStateException" then (some (2, q1.2)) else none)) := by
  unfold R_L_things_0
  rw [s_run_eq]
  show s_go _ _ (T_L_things_0 v0 v1 σ) = _
  unfold T_L_things_0
  simp only [s_go_bind, s_go_ite, s_go_sum, s_go_l, s_go_r, s_go_n]
  try rfl
theorem E_L_things {v0 : Nat} {v1 : Int32} {σ : sS} : F_L_things v0 v1 σ = (R_L_things_0 v0 v1 σ) := rfl
/-! X8_in -/
noncomputable def R_X8_in_0 (v0 : Int32) (v1 : Int32) (v2 : Int32) (σ : sS) : Option (Int32 × sS) := s_run (S_X8_in ) (0, [.int v0, .int v1, .int v2], σ)
theorem E_X8_in_0 {v0 : Int32} {v1 : Int32} {v2 : Int32} {σ : sS} : R_X8_in_0 v0 v1 v2 σ = (if v0 < v1 then (some (0, σ))
  else (if v2 < v0 then (some (0, σ))
  else (some (1, σ)))) := by
  unfold R_X8_in_0
  rw [s_run_eq]
  show s_go _ _ (T_X8_in_0 v0 v1 v2 σ) = _
  unfold T_X8_in_0
  simp only [s_go_bind, s_go_ite, s_go_sum, s_go_l, s_go_r, s_go_n]
  try rfl
theorem E_X8_in {v0 : Int32} {v1 : Int32} {v2 : Int32} {σ : sS} : F_X8_in v0 v1 v2 σ = (R_X8_in_0 v0 v1 v2 σ) := rfl
/-! X8_things -/
noncomputable def R_X8_things_0 (v0 : Nat) (v1 : Int32) (σ : sS) : Option (Unit × sS) := s_run (S_X8_things ) (0, [.ref v0, .int v1], σ)
noncomputable def R_X8_things_20 (v0 : Nat) (v1 : Int32) (w0 : Int32) (w1 : Nat) (σ : sS) : Option (Unit × sS) := s_run (S_X8_things ) (20, [.ref v0, .int v1, .int w0, .ref w1], σ)
noncomputable def R_X8_things_40 (v0 : Nat) (v1 : Int32) (w0 : Int32) (w1 : Nat) (σ : sS) : Option (Unit × sS) := s_run (S_X8_things ) (40, [.ref v0, .int v1, .int w0, .ref w1], σ)
theorem E_X8_things_0 {v0 : Nat} {v1 : Int32} {σ : sS} : R_X8_things_0 v0 v1 σ = ((s_pf σ v0 8 0 (.int 0)).bind fun σ1 =>
  (F_X8_in v1 1 3 σ1).bind fun q2 =>
  if q2.1 = 0 then (R_X8_things_20 v0 v1 1 v0 q2.2)
  else (R_X8_things_20 v0 v1 0 v0 q2.2)) := by
  unfold R_X8_things_0
  rw [s_run_eq]
  show s_go _ _ (T_X8_things_0 v0 v1 σ) = _
  unfold T_X8_things_0
  simp only [s_go_bind, s_go_ite, s_go_sum, s_go_l, s_go_r, s_go_n]
  try rfl
theorem E_X8_things_20 {v0 : Nat} {v1 : Int32} {w0 : Int32} {w1 : Nat} {σ : sS} : R_X8_things_20 v0 v1 w0 w1 σ = ((F_X8_throwsIf w1 w0 1 σ).bind fun q1 =>
  if q1.1 = 0 then ((F_X8_formulas v0 q1.2).bind fun q2 =>
  if q2.1 ≤ 0 then (R_X8_things_40 v0 v1 0 v0 q2.2)
  else (R_X8_things_40 v0 v1 1 v0 q2.2))
  else (some ((), q1.2))) := by
  unfold R_X8_things_20
  rw [s_run_eq]
  show s_go _ _ (T_X8_things_20 v0 v1 w0 w1 σ) = _
  unfold T_X8_things_20
  simp only [s_go_bind, s_go_ite, s_go_sum, s_go_l, s_go_r, s_go_n]
  try rfl
theorem E_X8_things_40 {v0 : Nat} {v1 : Int32} {w0 : Int32} {w1 : Nat} {σ : sS} : R_X8_things_40 v0 v1 w0 w1 σ = ((F_X8_throwsIf w1 w0 2 σ).bind fun q1 =>
  if q1.1 = 0 then ((s_fr q1.2 v0 8 1).bind fun x2 =>
  (s_si q1.2 x2 0 v1).bind fun σ3 =>
  some ((), σ3))
  else (some ((), q1.2))) := by
  unfold R_X8_things_40
  rw [s_run_eq]
  show s_go _ _ (T_X8_things_40 v0 v1 w0 w1 σ) = _
  unfold T_X8_things_40
  simp only [s_go_bind, s_go_ite, s_go_sum, s_go_l, s_go_r, s_go_n]
  try rfl
theorem E_X8_things {v0 : Nat} {v1 : Int32} {σ : sS} : F_X8_things v0 v1 σ = ((s_is σ v0 8).bind fun _ => R_X8_things_0 v0 v1 σ) := rfl
/-! X7_signs -/
noncomputable def R_X7_signs_0 (v0 : Nat) (v1 : Int32) (σ : sS) : Option ((Int32 ⊕ String) × sS) := s_run (S_X7_signs ) (0, [.ref v0, .int v1], σ)
theorem E_X7_signs_0 {v0 : Nat} {v1 : Int32} {σ : sS} : R_X7_signs_0 v0 v1 σ = ((F_X7_needFormula v0 v1 σ).bind fun q1 => s_sum q1.1 (fun x2 => (s_fr q1.2 v0 7 0).bind fun x4 =>
  (s_fr q1.2 v0 7 1).bind fun x5 =>
  (F_X1_nodeOf x5 v1 q1.2).bind fun q6 =>
  (F_X2_signsOf x4 q6.1 q6.2).bind fun q7 =>
  some (.inl q7.1, q7.2)) (fun E3 => some (.inr E3, q1.2))) := by
  unfold R_X7_signs_0
  rw [s_run_eq]
  show s_go _ _ (T_X7_signs_0 v0 v1 σ) = _
  unfold T_X7_signs_0
  simp only [s_go_bind, s_go_ite, s_go_sum, s_go_l, s_go_r, s_go_n]
  try rfl
theorem E_X7_signs {v0 : Nat} {v1 : Int32} {σ : sS} : F_X7_signs v0 v1 σ = ((s_is σ v0 7).bind fun _ => R_X7_signs_0 v0 v1 σ) := rfl
/-! L_signs -/
noncomputable def R_L_signs_0 (v0 : Nat) (v1 : Int32) (v2 : Nat) (σ : sS) : Option (Int32 × sS) := s_run (S_L_signs ) (0, [.ref v0, .int v1, .ref v2], σ)
theorem E_L_signs_0 {v0 : Nat} {v1 : Int32} {v2 : Nat} {σ : sS} : R_L_signs_0 v0 v1 v2 σ = ((F_X7_signs v0 v1 σ).bind fun q1 => s_sum q1.1 (fun x2 => (s_sl q1.2 v2 0 ((x2 : Int32).toInt64)).bind fun σ4 =>
  some (0, σ4)) (fun E3 => if E3 = "java/lang/IndexOutOfBoundsException" then (some (1, q1.2)) else none)) := by
  unfold R_L_signs_0
  rw [s_run_eq]
  show s_go _ _ (T_L_signs_0 v0 v1 v2 σ) = _
  unfold T_L_signs_0
  simp only [s_go_bind, s_go_ite, s_go_sum, s_go_l, s_go_r, s_go_n]
  try rfl
theorem E_L_signs {v0 : Nat} {v1 : Int32} {v2 : Nat} {σ : sS} : F_L_signs v0 v1 v2 σ = (R_L_signs_0 v0 v1 v2 σ) := rfl
/-! X8_noFormula -/
noncomputable def R_X8_noFormula_0 (v0 : Nat) (v1 : Int32) (σ : sS) : Option (Int32 × sS) := s_run (S_X8_noFormula ) (0, [.ref v0, .int v1], σ)
theorem E_X8_noFormula_0 {v0 : Nat} {v1 : Int32} {σ : sS} : R_X8_noFormula_0 v0 v1 σ = ((F_X8_formulas v0 σ).bind fun q1 =>
  (F_X8_in v1 0 (q1.1 - 1) q1.2).bind fun q2 =>
  if q2.1 = 0 then (some (1, q2.2))
  else (some (0, q2.2))) := by
  unfold R_X8_noFormula_0
  rw [s_run_eq]
  show s_go _ _ (T_X8_noFormula_0 v0 v1 σ) = _
  unfold T_X8_noFormula_0
  simp only [s_go_bind, s_go_ite, s_go_sum, s_go_l, s_go_r, s_go_n]
  try rfl
theorem E_X8_noFormula {v0 : Nat} {v1 : Int32} {σ : sS} : F_X8_noFormula v0 v1 σ = ((s_is σ v0 8).bind fun _ => R_X8_noFormula_0 v0 v1 σ) := rfl
/-! X8_signs -/
noncomputable def R_X8_signs_0 (v0 : Nat) (v1 : Int32) (σ : sS) : Option (Int32 × sS) := s_run (S_X8_signs ) (0, [.ref v0, .int v1], σ)
theorem E_X8_signs_0 {v0 : Nat} {v1 : Int32} {σ : sS} : R_X8_signs_0 v0 v1 σ = ((s_pf σ v0 8 0 (.int 0)).bind fun σ1 =>
  (F_X8_noFormula v0 v1 σ1).bind fun q2 =>
  (F_X8_throwsIf v0 q2.1 1 q2.2).bind fun q3 =>
  if q3.1 = 0 then ((s_fr q3.2 v0 8 4).bind fun x4 =>
  (s_ai q3.2 x4 v1).bind fun x5 =>
  some (x5, q3.2))
  else (some (0, q3.2))) := by
  unfold R_X8_signs_0
  rw [s_run_eq]
  show s_go _ _ (T_X8_signs_0 v0 v1 σ) = _
  unfold T_X8_signs_0
  simp only [s_go_bind, s_go_ite, s_go_sum, s_go_l, s_go_r, s_go_n]
  try rfl
theorem E_X8_signs {v0 : Nat} {v1 : Int32} {σ : sS} : F_X8_signs v0 v1 σ = ((s_is σ v0 8).bind fun _ => R_X8_signs_0 v0 v1 σ) := rfl
/-! X7_same -/
noncomputable def R_X7_same_0 (v0 : Nat) (v1 : Int32) (v2 : Int32) (σ : sS) : Option ((Int32 ⊕ String) × sS) := s_run (S_X7_same ) (0, [.ref v0, .int v1, .int v2], σ)
theorem E_X7_same_0 {v0 : Nat} {v1 : Int32} {v2 : Int32} {σ : sS} : R_X7_same_0 v0 v1 v2 σ = ((F_X7_needFormula v0 v1 σ).bind fun q1 => s_sum q1.1 (fun x2 => (F_X7_needFormula v0 v2 q1.2).bind fun q4 => s_sum q4.1 (fun x5 => (s_fr q4.2 v0 7 1).bind fun x7 =>
  (F_X1_nodeOf x7 v1 q4.2).bind fun q8 =>
  (s_fr q8.2 v0 7 1).bind fun x9 =>
  (F_X1_nodeOf x9 v2 q8.2).bind fun q10 =>
  if q8.1 = q10.1 then (some (.inl 1, q10.2))
  else (some (.inl 0, q10.2))) (fun E6 => some (.inr E6, q4.2))) (fun E3 => some (.inr E3, q1.2))) := by
  unfold R_X7_same_0
  rw [s_run_eq]
  show s_go _ _ (T_X7_same_0 v0 v1 v2 σ) = _
  unfold T_X7_same_0
  simp only [s_go_bind, s_go_ite, s_go_sum, s_go_l, s_go_r, s_go_n]
  try rfl
theorem E_X7_same {v0 : Nat} {v1 : Int32} {v2 : Int32} {σ : sS} : F_X7_same v0 v1 v2 σ = ((s_is σ v0 7).bind fun _ => R_X7_same_0 v0 v1 v2 σ) := rfl
/-! L_same -/
noncomputable def R_L_same_0 (v0 : Nat) (v1 : Int32) (v2 : Int32) (v3 : Nat) (σ : sS) : Option (Int32 × sS) := s_run (S_L_same ) (0, [.ref v0, .int v1, .int v2, .ref v3], σ)
noncomputable def R_L_same_16 (w0 : Int64) (w1 : Int32) (w2 : Nat) (σ : sS) : Option (Int32 × sS) := s_run (S_L_same ) (16, [.long w0, .int w1, .ref w2], σ)
theorem E_L_same_0 {v0 : Nat} {v1 : Int32} {v2 : Int32} {v3 : Nat} {σ : sS} : R_L_same_0 v0 v1 v2 v3 σ = ((F_X7_same v0 v1 v2 σ).bind fun q1 => s_sum q1.1 (fun x2 => if x2 = 0 then (R_L_same_16 0 0 v3 q1.2)
  else (R_L_same_16 1 0 v3 q1.2)) (fun E3 => if E3 = "java/lang/IndexOutOfBoundsException" then (some (1, q1.2)) else none)) := by
  unfold R_L_same_0
  rw [s_run_eq]
  show s_go _ _ (T_L_same_0 v0 v1 v2 v3 σ) = _
  unfold T_L_same_0
  simp only [s_go_bind, s_go_ite, s_go_sum, s_go_l, s_go_r, s_go_n]
  try rfl
theorem E_L_same_16 {w0 : Int64} {w1 : Int32} {w2 : Nat} {σ : sS} : R_L_same_16 w0 w1 w2 σ = ((s_sl σ w2 w1 w0).bind fun σ1 =>
  some (0, σ1)) := by
  unfold R_L_same_16
  rw [s_run_eq]
  show s_go _ _ (T_L_same_16 w0 w1 w2 σ) = _
  unfold T_L_same_16
  simp only [s_go_bind, s_go_ite, s_go_sum, s_go_l, s_go_r, s_go_n]
  try rfl
theorem E_L_same {v0 : Nat} {v1 : Int32} {v2 : Int32} {v3 : Nat} {σ : sS} : F_L_same v0 v1 v2 v3 σ = (R_L_same_0 v0 v1 v2 v3 σ) := rfl
/-! X8_set -/
noncomputable def R_X8_set_0 (v0 : Int32) (v1 : Int32) (σ : sS) : Option (Int32 × sS) := s_run (S_X8_set ) (0, [.int v0, .int v1], σ)
theorem E_X8_set_0 {v0 : Int32} {v1 : Int32} {σ : sS} : R_X8_set_0 v0 v1 σ = (if (0 : Int32) ≤ v1 then (if v0 = 4 then (some ((6 + v1), σ))
  else (if v0 = 5 then (some ((9 + v1), σ))
  else (some (v0, σ))))
  else (some (v0, σ))) := by
  unfold R_X8_set_0
  rw [s_run_eq]
  show s_go _ _ (T_X8_set_0 v0 v1 σ) = _
  unfold T_X8_set_0
  simp only [s_go_bind, s_go_ite, s_go_sum, s_go_l, s_go_r, s_go_n]
  try rfl
theorem E_X8_set {v0 : Int32} {v1 : Int32} {σ : sS} : F_X8_set v0 v1 σ = (R_X8_set_0 v0 v1 σ) := rfl
/-! X8_isPart -/
noncomputable def R_X8_isPart_0 (v0 : Nat) (v1 : Int32) (v2 : Int32) (v3 : Int32) (v4 : Int32) (v5 : Int32) (v6 : Int32) (v7 : Int32) (σ : sS) : Option (Int32 × sS) := s_run (S_X8_isPart ) (0, [.ref v0, .int v1, .int v2, .int v3, .int v4, .int v5, .int v6, .int v7], σ)
noncomputable def R_X8_isPart_16 (v0 : Nat) (v1 : Int32) (v2 : Int32) (v3 : Int32) (v4 : Int32) (v5 : Int32) (v6 : Int32) (w0 : Int32) (σ : sS) : Option (Int32 × sS) := s_run (S_X8_isPart ) (16, [.ref v0, .int v1, .int v2, .int v3, .int v4, .int v5, .int v6, .int w0], σ)
noncomputable def R_X8_isPart_21 (v0 : Nat) (v1 : Int32) (v2 : Int32) (v3 : Int32) (v4 : Int32) (v5 : Int32) (v6 : Int32) (v8 : Int32) (v9 : Int32) (σ : sS) : Option (Int32 × sS) := s_run (S_X8_isPart ) (21, [.ref v0, .int v1, .int v2, .int v3, .int v4, .int v5, .int v6, .int v8, .int v9], σ)
noncomputable def R_X8_isPart_67 (v0 : Nat) (v1 : Int32) (v2 : Int32) (v3 : Int32) (v4 : Int32) (v5 : Int32) (v6 : Int32) (v9 : Int32) (w0 : Int32) (σ : sS) : Option (Int32 × sS) := s_run (S_X8_isPart ) (67, [.ref v0, .int v1, .int v2, .int v3, .int v4, .int v5, .int v6, .int v9, .int w0], σ)
theorem E_X8_isPart_0 {v0 : Nat} {v1 : Int32} {v2 : Int32} {v3 : Int32} {v4 : Int32} {v5 : Int32} {v6 : Int32} {v7 : Int32} {σ : sS} : R_X8_isPart_0 v0 v1 v2 v3 v4 v5 v6 v7 σ = (if (v3 - v2) = (v7 - v6) then (R_X8_isPart_16 v0 v1 v2 v3 v4 v5 v6 1 σ)
  else (R_X8_isPart_16 v0 v1 v2 v3 v4 v5 v6 0 σ)) := by
  unfold R_X8_isPart_0
  rw [s_run_eq]
  show s_go _ _ (T_X8_isPart_0 v0 v1 v2 v3 v4 v5 v6 v7 σ) = _
  unfold T_X8_isPart_0
  simp only [s_go_bind, s_go_ite, s_go_sum, s_go_l, s_go_r, s_go_n]
  try rfl
theorem E_X8_isPart_16 {v0 : Nat} {v1 : Int32} {v2 : Int32} {v3 : Int32} {v4 : Int32} {v5 : Int32} {v6 : Int32} {w0 : Int32} {σ : sS} : R_X8_isPart_16 v0 v1 v2 v3 v4 v5 v6 w0 σ = (R_X8_isPart_21 v0 v1 v2 v3 v4 v5 v6 w0 0 σ) := by
  unfold R_X8_isPart_16
  rw [s_run_eq]
  show s_go _ _ (T_X8_isPart_16 v0 v1 v2 v3 v4 v5 v6 w0 σ) = _
  unfold T_X8_isPart_16
  simp only [s_go_bind, s_go_ite, s_go_sum, s_go_l, s_go_r, s_go_n]
  try rfl
theorem E_X8_isPart_21 {v0 : Nat} {v1 : Int32} {v2 : Int32} {v3 : Int32} {v4 : Int32} {v5 : Int32} {v6 : Int32} {v8 : Int32} {v9 : Int32} {σ : sS} : R_X8_isPart_21 v0 v1 v2 v3 v4 v5 v6 v8 v9 σ = (if v8 = 0 then (if (v8 = 0 ∨ v8 = 1) then (some (v8, σ)) else none)
  else (if (v3 - v2) ≤ v9 then (if (v8 = 0 ∨ v8 = 1) then (some (v8, σ)) else none)
  else ((F_X8_at v0 v1 (v2 + v9) σ).bind fun q1 =>
  (F_X8_set q1.1 v4 q1.2).bind fun q2 =>
  (F_X8_at v0 v5 (v6 + v9) q2.2).bind fun q3 =>
  if q2.1 = q3.1 then (R_X8_isPart_67 v0 v1 v2 v3 v4 v5 v6 v9 1 q3.2)
  else (R_X8_isPart_67 v0 v1 v2 v3 v4 v5 v6 v9 0 q3.2)))) := by
  unfold R_X8_isPart_21
  rw [s_run_eq]
  show s_go _ _ (T_X8_isPart_21 v0 v1 v2 v3 v4 v5 v6 v8 v9 σ) = _
  unfold T_X8_isPart_21
  simp only [s_go_bind, s_go_ite, s_go_sum, s_go_l, s_go_r, s_go_n]
  try rfl
theorem E_X8_isPart_67 {v0 : Nat} {v1 : Int32} {v2 : Int32} {v3 : Int32} {v4 : Int32} {v5 : Int32} {v6 : Int32} {v9 : Int32} {w0 : Int32} {σ : sS} : R_X8_isPart_67 v0 v1 v2 v3 v4 v5 v6 v9 w0 σ = (R_X8_isPart_21 v0 v1 v2 v3 v4 v5 v6 w0 (v9 + 1) σ) := by
  unfold R_X8_isPart_67
  rw [s_run_eq]
  show s_go _ _ (T_X8_isPart_67 v0 v1 v2 v3 v4 v5 v6 v9 w0 σ) = _
  unfold T_X8_isPart_67
  simp only [s_go_bind, s_go_ite, s_go_sum, s_go_l, s_go_r, s_go_n]
  try rfl
theorem E_X8_isPart {v0 : Nat} {v1 : Int32} {v2 : Int32} {v3 : Int32} {v4 : Int32} {v5 : Int32} {v6 : Int32} {v7 : Int32} {σ : sS} : F_X8_isPart v0 v1 v2 v3 v4 v5 v6 v7 σ = ((s_is σ v0 8).bind fun _ => R_X8_isPart_0 v0 v1 v2 v3 v4 v5 v6 v7 σ) := rfl
/-! X8_isSame -/
noncomputable def R_X8_isSame_0 (v0 : Nat) (v1 : Int32) (v2 : Int32) (σ : sS) : Option (Int32 × sS) := s_run (S_X8_isSame ) (0, [.ref v0, .int v1, .int v2], σ)
theorem E_X8_isSame_0 {v0 : Nat} {v1 : Int32} {v2 : Int32} {σ : sS} : R_X8_isSame_0 v0 v1 v2 σ = ((s_fr σ v0 8 4).bind fun x1 =>
  (s_ai σ x1 v1).bind fun x2 =>
  (s_fr σ v0 8 4).bind fun x3 =>
  (s_ai σ x3 v2).bind fun x4 =>
  (F_X8_isPart v0 v1 0 x2 (-1) v2 0 x4 σ).bind fun q5 =>
  if (q5.1 = 0 ∨ q5.1 = 1) then (some (q5.1, q5.2)) else none) := by
  unfold R_X8_isSame_0
  rw [s_run_eq]
  show s_go _ _ (T_X8_isSame_0 v0 v1 v2 σ) = _
  unfold T_X8_isSame_0
  simp only [s_go_bind, s_go_ite, s_go_sum, s_go_l, s_go_r, s_go_n]
  try rfl
theorem E_X8_isSame {v0 : Nat} {v1 : Int32} {v2 : Int32} {σ : sS} : F_X8_isSame v0 v1 v2 σ = ((s_is σ v0 8).bind fun _ => R_X8_isSame_0 v0 v1 v2 σ) := rfl
/-! X8_same -/
noncomputable def R_X8_same_0 (v0 : Nat) (v1 : Int32) (v2 : Int32) (σ : sS) : Option (Int32 × sS) := s_run (S_X8_same ) (0, [.ref v0, .int v1, .int v2], σ)
noncomputable def R_X8_same_22 (v0 : Nat) (v1 : Int32) (v2 : Int32) (w0 : Nat) (σ : sS) : Option (Int32 × sS) := s_run (S_X8_same ) (22, [.ref v0, .int v1, .int v2, .ref w0], σ)
noncomputable def R_X8_same_27 (v0 : Nat) (v1 : Int32) (v2 : Int32) (w0 : Int32) (w1 : Nat) (σ : sS) : Option (Int32 × sS) := s_run (S_X8_same ) (27, [.ref v0, .int v1, .int v2, .int w0, .ref w1], σ)
theorem E_X8_same_0 {v0 : Nat} {v1 : Int32} {v2 : Int32} {σ : sS} : R_X8_same_0 v0 v1 v2 σ = ((s_pf σ v0 8 0 (.int 0)).bind fun σ1 =>
  (F_X8_noFormula v0 v1 σ1).bind fun q2 =>
  if q2.1 = 0 then ((F_X8_noFormula v0 v2 q2.2).bind fun q3 =>
  if q3.1 = 0 then (R_X8_same_27 v0 v1 v2 0 v0 q3.2)
  else (R_X8_same_22 v0 v1 v2 v0 q3.2))
  else (R_X8_same_22 v0 v1 v2 v0 q2.2)) := by
  unfold R_X8_same_0
  rw [s_run_eq]
  show s_go _ _ (T_X8_same_0 v0 v1 v2 σ) = _
  unfold T_X8_same_0
  simp only [s_go_bind, s_go_ite, s_go_sum, s_go_l, s_go_r, s_go_n]
  try rfl
theorem E_X8_same_22 {v0 : Nat} {v1 : Int32} {v2 : Int32} {w0 : Nat} {σ : sS} : R_X8_same_22 v0 v1 v2 w0 σ = (R_X8_same_27 v0 v1 v2 1 w0 σ) := by
  unfold R_X8_same_22
  rw [s_run_eq]
  show s_go _ _ (T_X8_same_22 v0 v1 v2 w0 σ) = _
  unfold T_X8_same_22
  simp only [s_go_bind, s_go_ite, s_go_sum, s_go_l, s_go_r, s_go_n]
  try rfl
theorem E_X8_same_27 {v0 : Nat} {v1 : Int32} {v2 : Int32} {w0 : Int32} {w1 : Nat} {σ : sS} : R_X8_same_27 v0 v1 v2 w0 w1 σ = ((F_X8_throwsIf w1 w0 1 σ).bind fun q1 =>
  if q1.1 = 0 then ((F_X8_isSame v0 v1 v2 q1.2).bind fun q2 =>
  if q2.1 = 0 then (some (0, q2.2))
  else (some (1, q2.2)))
  else (some (0, q1.2))) := by
  unfold R_X8_same_27
  rw [s_run_eq]
  show s_go _ _ (T_X8_same_27 v0 v1 v2 w0 w1 σ) = _
  unfold T_X8_same_27
  simp only [s_go_bind, s_go_ite, s_go_sum, s_go_l, s_go_r, s_go_n]
  try rfl
theorem E_X8_same {v0 : Nat} {v1 : Int32} {v2 : Int32} {σ : sS} : F_X8_same v0 v1 v2 σ = ((s_is σ v0 8).bind fun _ => R_X8_same_0 v0 v1 v2 σ) := rfl
/-! X8_worldsMany -/
noncomputable def R_X8_worldsMany_0 (v0 : Nat) (σ : sS) : Option (Int32 × sS) := s_run (S_X8_worldsMany ) (0, [.ref v0], σ)
theorem E_X8_worldsMany_0 {v0 : Nat} {σ : sS} : R_X8_worldsMany_0 v0 σ = ((F_X8_d v0 σ).bind fun q1 =>
  some ((1 <<< ((4 + (2 * q1.1)) &&& 31)), q1.2)) := by
  unfold R_X8_worldsMany_0
  rw [s_run_eq]
  show s_go _ _ (T_X8_worldsMany_0 v0 σ) = _
  unfold T_X8_worldsMany_0
  simp only [s_go_bind, s_go_ite, s_go_sum, s_go_l, s_go_r, s_go_n]
  try rfl
theorem E_X8_worldsMany {v0 : Nat} {σ : sS} : F_X8_worldsMany v0 σ = ((s_is σ v0 8).bind fun _ => R_X8_worldsMany_0 v0 σ) := rfl
/-! X8_noWorld -/
noncomputable def R_X8_noWorld_0 (v0 : Nat) (v1 : Int32) (σ : sS) : Option (Int32 × sS) := s_run (S_X8_noWorld ) (0, [.ref v0, .int v1], σ)
theorem E_X8_noWorld_0 {v0 : Nat} {v1 : Int32} {σ : sS} : R_X8_noWorld_0 v0 v1 σ = ((F_X8_worldsMany v0 σ).bind fun q1 =>
  (F_X8_in v1 0 (q1.1 - 1) q1.2).bind fun q2 =>
  if q2.1 = 0 then (some (1, q2.2))
  else (some (0, q2.2))) := by
  unfold R_X8_noWorld_0
  rw [s_run_eq]
  show s_go _ _ (T_X8_noWorld_0 v0 v1 σ) = _
  unfold T_X8_noWorld_0
  simp only [s_go_bind, s_go_ite, s_go_sum, s_go_l, s_go_r, s_go_n]
  try rfl
theorem E_X8_noWorld {v0 : Nat} {v1 : Int32} {σ : sS} : F_X8_noWorld v0 v1 σ = ((s_is σ v0 8).bind fun _ => R_X8_noWorld_0 v0 v1 σ) := rfl
/-! X8_isJoining -/
noncomputable def R_X8_isJoining_0 (v0 : Int32) (σ : sS) : Option (Int32 × sS) := s_run (S_X8_isJoining ) (0, [.int v0], σ)
theorem E_X8_isJoining_0 {v0 : Int32} {σ : sS} : R_X8_isJoining_0 v0 σ = (if v0 = 13 then (some (1, σ))
  else (if v0 = 14 then (some (1, σ))
  else (if v0 = 15 then (some (1, σ))
  else (some (0, σ))))) := by
  unfold R_X8_isJoining_0
  rw [s_run_eq]
  show s_go _ _ (T_X8_isJoining_0 v0 σ) = _
  unfold T_X8_isJoining_0
  simp only [s_go_bind, s_go_ite, s_go_sum, s_go_l, s_go_r, s_go_n]
  try rfl
theorem E_X8_isJoining {v0 : Int32} {σ : sS} : F_X8_isJoining v0 σ = (R_X8_isJoining_0 v0 σ) := rfl
/-! X8_isLone -/
noncomputable def R_X8_isLone_0 (v0 : Int32) (σ : sS) : Option (Int32 × sS) := s_run (S_X8_isLone ) (0, [.int v0], σ)
theorem E_X8_isLone_0 {v0 : Int32} {σ : sS} : R_X8_isLone_0 v0 σ = (if v0 = 12 then (some (1, σ))
  else (if v0 = 16 then (some (1, σ))
  else (if v0 = 17 then (some (1, σ))
  else (some (0, σ))))) := by
  unfold R_X8_isLone_0
  rw [s_run_eq]
  show s_go _ _ (T_X8_isLone_0 v0 σ) = _
  unfold T_X8_isLone_0
  simp only [s_go_bind, s_go_ite, s_go_sum, s_go_l, s_go_r, s_go_n]
  try rfl
theorem E_X8_isLone {v0 : Int32} {σ : sS} : F_X8_isLone v0 σ = (R_X8_isLone_0 v0 σ) := rfl
/-! X8_ofSign -/
noncomputable def R_X8_ofSign_0 (v0 : Nat) (v1 : Int32) (v2 : Int32) (σ : sS) : Option (Int32 × sS) := s_run (S_X8_ofSign ) (0, [.ref v0, .int v1, .int v2], σ)
noncomputable def R_X8_ofSign_82 (v2 : Int32) (v3 : Int32) (w0 : Int32) (σ : sS) : Option (Int32 × sS) := s_run (S_X8_ofSign ) (82, [.int v2, .int v3, .int w0], σ)
theorem E_X8_ofSign_0 {v0 : Nat} {v1 : Int32} {v2 : Int32} {σ : sS} : R_X8_ofSign_0 v0 v1 v2 σ = ((F_X8_d v0 σ).bind fun q1 =>
  if (4 : Int32) ≤ v1 then (if v1 = 4 then (some (((v2 >>> (4 &&& 31)) &&& ((1 <<< (q1.1 &&& 31)) - 1)), q1.2))
  else (if v1 = 5 then ((F_X8_d v0 q1.2).bind fun q3 =>
  some (((v2 >>> ((4 + q3.1) &&& 31)) &&& ((1 <<< (q1.1 &&& 31)) - 1)), q3.2))
  else (if (9 : Int32) ≤ v1 then ((F_X8_d v0 q1.2).bind fun q2 =>
  R_X8_ofSign_82 v2 ((1 <<< (q1.1 &&& 31)) - 1) (((4 + q2.1) + v1) - 9) q2.2)
  else (R_X8_ofSign_82 v2 ((1 <<< (q1.1 &&& 31)) - 1) ((4 + v1) - 6) q1.2))))
  else (if ((v2 >>> (v1 &&& 31)) &&& 1) = 1 then (some (((1 <<< (q1.1 &&& 31)) - 1), q1.2))
  else (some (0, q1.2)))) := by
  unfold R_X8_ofSign_0
  rw [s_run_eq]
  show s_go _ _ (T_X8_ofSign_0 v0 v1 v2 σ) = _
  unfold T_X8_ofSign_0
  simp only [s_go_bind, s_go_ite, s_go_sum, s_go_l, s_go_r, s_go_n]
  try rfl
theorem E_X8_ofSign_82 {v2 : Int32} {v3 : Int32} {w0 : Int32} {σ : sS} : R_X8_ofSign_82 v2 v3 w0 σ = (if ((v2 >>> (w0 &&& 31)) &&& 1) = 1 then (some (v3, σ))
  else (some (0, σ))) := by
  unfold R_X8_ofSign_82
  rw [s_run_eq]
  show s_go _ _ (T_X8_ofSign_82 v2 v3 w0 σ) = _
  unfold T_X8_ofSign_82
  simp only [s_go_bind, s_go_ite, s_go_sum, s_go_l, s_go_r, s_go_n]
  try rfl
theorem E_X8_ofSign {v0 : Nat} {v1 : Int32} {v2 : Int32} {σ : sS} : F_X8_ofSign v0 v1 v2 σ = ((s_is σ v0 8).bind fun _ => R_X8_ofSign_0 v0 v1 v2 σ) := rfl
/-! X8_isTrue -/
noncomputable def R_X8_isTrue_0 (v0 : Nat) (v1 : Int32) (v2 : Int32) (σ : sS) : Option (Int32 × sS) := s_run (S_X8_isTrue ) (0, [.ref v0, .int v1, .int v2], σ)
noncomputable def R_X8_isTrue_22 (v0 : Nat) (v1 : Int32) (v2 : Int32) (v3 : Int32) (v4 : Int32) (v5 : Int32) (σ : sS) : Option (Int32 × sS) := s_run (S_X8_isTrue ) (22, [.ref v0, .int v1, .int v2, .int v3, .int v4, .int v5], σ)
noncomputable def R_X8_isTrue_116 (v0 : Nat) (v1 : Int32) (v2 : Int32) (v3 : Int32) (v4 : Int32) (v5 : Int32) (w0 : Int32) (w1 : Int32) (w2 : Nat) (σ : sS) : Option (Int32 × sS) := s_run (S_X8_isTrue ) (116, [.ref v0, .int v1, .int v2, .int v3, .int v4, .int v5, .int w0, .int w1, .ref w2], σ)
noncomputable def R_X8_isTrue_184 (v0 : Nat) (v1 : Int32) (v2 : Int32) (v3 : Int32) (v4 : Int32) (v5 : Int32) (w0 : Int32) (w1 : Nat) (σ : sS) : Option (Int32 × sS) := s_run (S_X8_isTrue ) (184, [.ref v0, .int v1, .int v2, .int v3, .int v4, .int v5, .int w0, .ref w1], σ)
noncomputable def R_X8_isTrue_188 (v0 : Nat) (v1 : Int32) (v2 : Int32) (v3 : Int32) (v4 : Int32) (v5 : Int32) (w0 : Int32) (w1 : Nat) (σ : sS) : Option (Int32 × sS) := s_run (S_X8_isTrue ) (188, [.ref v0, .int v1, .int v2, .int v3, .int v4, .int v5, .int w0, .ref w1], σ)
noncomputable def R_X8_isTrue_189 (v0 : Nat) (v1 : Int32) (v2 : Int32) (v3 : Int32) (v4 : Int32) (v5 : Int32) (w0 : Int32) (w1 : Int32) (w2 : Nat) (σ : sS) : Option (Int32 × sS) := s_run (S_X8_isTrue ) (189, [.ref v0, .int v1, .int v2, .int v3, .int v4, .int v5, .int w0, .int w1, .ref w2], σ)
noncomputable def R_X8_isTrue_210 (v0 : Nat) (v1 : Int32) (v2 : Int32) (v3 : Int32) (v4 : Int32) (v5 : Int32) (σ : sS) : Option (Int32 × sS) := s_run (S_X8_isTrue ) (210, [.ref v0, .int v1, .int v2, .int v3, .int v4, .int v5], σ)
theorem E_X8_isTrue_0 {v0 : Nat} {v1 : Int32} {v2 : Int32} {σ : sS} : R_X8_isTrue_0 v0 v1 v2 σ = ((F_X8_d v0 σ).bind fun q1 =>
  (s_fr q1.2 v0 8 4).bind fun x2 =>
  (s_ai q1.2 x2 v1).bind fun x3 =>
  R_X8_isTrue_22 v0 v1 v2 ((1 <<< (q1.1 &&& 31)) - 1) 0 (x3 - 1) q1.2) := by
  unfold R_X8_isTrue_0
  rw [s_run_eq]
  show s_go _ _ (T_X8_isTrue_0 v0 v1 v2 σ) = _
  unfold T_X8_isTrue_0
  simp only [s_go_bind, s_go_ite, s_go_sum, s_go_l, s_go_r, s_go_n]
  try rfl
theorem E_X8_isTrue_22 {v0 : Nat} {v1 : Int32} {v2 : Int32} {v3 : Int32} {v4 : Int32} {v5 : Int32} {σ : sS} : R_X8_isTrue_22 v0 v1 v2 v3 v4 v5 σ = (if v5 < 0 then ((s_fr σ v0 8 16).bind fun x1 =>
  (s_ai σ x1 0).bind fun x2 =>
  if x2 = 0 then (some (0, σ))
  else (some (1, σ)))
  else ((F_X8_at v0 v1 v5 σ).bind fun q3 =>
  (F_X8_isJoining q3.1 q3.2).bind fun q4 =>
  if q4.1 = 0 then ((F_X8_isLone q3.1 q4.2).bind fun q5 =>
  if q5.1 = 0 then ((s_fr q5.2 v0 8 16).bind fun x6 =>
  (F_X8_ofSign v0 q3.1 v2 q5.2).bind fun q7 =>
  (s_si q7.2 x6 v4 q7.1).bind fun σ8 =>
  R_X8_isTrue_210 v0 v1 v2 v3 (v4 + 1) v5 σ8)
  else ((s_fr q5.2 v0 8 16).bind fun x9 =>
  (s_ai q5.2 x9 (v4 - 1)).bind fun x10 =>
  (s_fr q5.2 v0 8 16).bind fun x11 =>
  if q3.1 = 12 then (R_X8_isTrue_189 v0 v1 v2 v3 v4 v5 ((x10 ^^^ (-1)) &&& v3) (v4 - 1) x11 q5.2)
  else (if q3.1 = 17 then (if x10 = 0 then (R_X8_isTrue_188 v0 v1 v2 v3 v4 v5 (v4 - 1) x11 q5.2)
  else (R_X8_isTrue_184 v0 v1 v2 v3 v4 v5 (v4 - 1) x11 q5.2))
  else (if x10 = v3 then (R_X8_isTrue_184 v0 v1 v2 v3 v4 v5 (v4 - 1) x11 q5.2)
  else (R_X8_isTrue_188 v0 v1 v2 v3 v4 v5 (v4 - 1) x11 q5.2)))))
  else ((s_fr q4.2 v0 8 16).bind fun x12 =>
  (s_ai q4.2 x12 (v4 - 1)).bind fun x13 =>
  (s_fr q4.2 v0 8 16).bind fun x14 =>
  (s_ai q4.2 x14 (v4 - 2)).bind fun x15 =>
  (s_fr q4.2 v0 8 16).bind fun x16 =>
  if q3.1 = 13 then (R_X8_isTrue_116 v0 v1 v2 v3 (v4 + (-1)) v5 (x13 &&& x15) ((v4 + (-1)) - 1) x16 q4.2)
  else (if q3.1 = 14 then (R_X8_isTrue_116 v0 v1 v2 v3 (v4 + (-1)) v5 (x13 ||| x15) ((v4 + (-1)) - 1) x16 q4.2)
  else (R_X8_isTrue_116 v0 v1 v2 v3 (v4 + (-1)) v5 (((x13 ^^^ (-1)) &&& v3) ||| x15) ((v4 + (-1)) - 1) x16 q4.2))))) := by
  unfold R_X8_isTrue_22
  rw [s_run_eq]
  show s_go _ _ (T_X8_isTrue_22 v0 v1 v2 v3 v4 v5 σ) = _
  unfold T_X8_isTrue_22
  simp only [s_go_bind, s_go_ite, s_go_sum, s_go_l, s_go_r, s_go_n]
  try rfl
theorem E_X8_isTrue_116 {v0 : Nat} {v1 : Int32} {v2 : Int32} {v3 : Int32} {v4 : Int32} {v5 : Int32} {w0 : Int32} {w1 : Int32} {w2 : Nat} {σ : sS} : R_X8_isTrue_116 v0 v1 v2 v3 v4 v5 w0 w1 w2 σ = ((s_si σ w2 w1 w0).bind fun σ1 =>
  R_X8_isTrue_210 v0 v1 v2 v3 v4 v5 σ1) := by
  unfold R_X8_isTrue_116
  rw [s_run_eq]
  show s_go _ _ (T_X8_isTrue_116 v0 v1 v2 v3 v4 v5 w0 w1 w2 σ) = _
  unfold T_X8_isTrue_116
  simp only [s_go_bind, s_go_ite, s_go_sum, s_go_l, s_go_r, s_go_n]
  try rfl
theorem E_X8_isTrue_184 {v0 : Nat} {v1 : Int32} {v2 : Int32} {v3 : Int32} {v4 : Int32} {v5 : Int32} {w0 : Int32} {w1 : Nat} {σ : sS} : R_X8_isTrue_184 v0 v1 v2 v3 v4 v5 w0 w1 σ = (R_X8_isTrue_189 v0 v1 v2 v3 v4 v5 v3 w0 w1 σ) := by
  unfold R_X8_isTrue_184
  rw [s_run_eq]
  show s_go _ _ (T_X8_isTrue_184 v0 v1 v2 v3 v4 v5 w0 w1 σ) = _
  unfold T_X8_isTrue_184
  simp only [s_go_bind, s_go_ite, s_go_sum, s_go_l, s_go_r, s_go_n]
  try rfl
theorem E_X8_isTrue_188 {v0 : Nat} {v1 : Int32} {v2 : Int32} {v3 : Int32} {v4 : Int32} {v5 : Int32} {w0 : Int32} {w1 : Nat} {σ : sS} : R_X8_isTrue_188 v0 v1 v2 v3 v4 v5 w0 w1 σ = (R_X8_isTrue_189 v0 v1 v2 v3 v4 v5 0 w0 w1 σ) := by
  unfold R_X8_isTrue_188
  rw [s_run_eq]
  show s_go _ _ (T_X8_isTrue_188 v0 v1 v2 v3 v4 v5 w0 w1 σ) = _
  unfold T_X8_isTrue_188
  simp only [s_go_bind, s_go_ite, s_go_sum, s_go_l, s_go_r, s_go_n]
  try rfl
theorem E_X8_isTrue_189 {v0 : Nat} {v1 : Int32} {v2 : Int32} {v3 : Int32} {v4 : Int32} {v5 : Int32} {w0 : Int32} {w1 : Int32} {w2 : Nat} {σ : sS} : R_X8_isTrue_189 v0 v1 v2 v3 v4 v5 w0 w1 w2 σ = ((s_si σ w2 w1 w0).bind fun σ1 =>
  R_X8_isTrue_210 v0 v1 v2 v3 v4 v5 σ1) := by
  unfold R_X8_isTrue_189
  rw [s_run_eq]
  show s_go _ _ (T_X8_isTrue_189 v0 v1 v2 v3 v4 v5 w0 w1 w2 σ) = _
  unfold T_X8_isTrue_189
  simp only [s_go_bind, s_go_ite, s_go_sum, s_go_l, s_go_r, s_go_n]
  try rfl
theorem E_X8_isTrue_210 {v0 : Nat} {v1 : Int32} {v2 : Int32} {v3 : Int32} {v4 : Int32} {v5 : Int32} {σ : sS} : R_X8_isTrue_210 v0 v1 v2 v3 v4 v5 σ = (R_X8_isTrue_22 v0 v1 v2 v3 v4 (v5 + (-1)) σ) := by
  unfold R_X8_isTrue_210
  rw [s_run_eq]
  show s_go _ _ (T_X8_isTrue_210 v0 v1 v2 v3 v4 v5 σ) = _
  unfold T_X8_isTrue_210
  simp only [s_go_bind, s_go_ite, s_go_sum, s_go_l, s_go_r, s_go_n]
  try rfl
theorem E_X8_isTrue {v0 : Nat} {v1 : Int32} {v2 : Int32} {σ : sS} : F_X8_isTrue v0 v1 v2 σ = ((s_is σ v0 8).bind fun _ => R_X8_isTrue_0 v0 v1 v2 σ) := rfl
/-! X8_holds -/
noncomputable def R_X8_holds_0 (v0 : Nat) (v1 : Int32) (v2 : Int32) (σ : sS) : Option (Int32 × sS) := s_run (S_X8_holds ) (0, [.ref v0, .int v1, .int v2], σ)
theorem E_X8_holds_0 {v0 : Nat} {v1 : Int32} {v2 : Int32} {σ : sS} : R_X8_holds_0 v0 v1 v2 σ = ((s_pf σ v0 8 0 (.int 0)).bind fun σ1 =>
  (F_X8_noFormula v0 v1 σ1).bind fun q2 =>
  (F_X8_throwsIf v0 q2.1 1 q2.2).bind fun q3 =>
  if q3.1 = 0 then ((F_X8_noWorld v0 v2 q3.2).bind fun q4 =>
  (F_X8_throwsIf v0 q4.1 2 q4.2).bind fun q5 =>
  if q5.1 = 0 then ((F_X8_isTrue v0 v1 v2 q5.2).bind fun q6 =>
  if q6.1 = 0 then (some (0, q6.2))
  else (some (1, q6.2)))
  else (some (0, q5.2)))
  else (some (0, q3.2))) := by
  unfold R_X8_holds_0
  rw [s_run_eq]
  show s_go _ _ (T_X8_holds_0 v0 v1 v2 σ) = _
  unfold T_X8_holds_0
  simp only [s_go_bind, s_go_ite, s_go_sum, s_go_l, s_go_r, s_go_n]
  try rfl
theorem E_X8_holds {v0 : Nat} {v1 : Int32} {v2 : Int32} {σ : sS} : F_X8_holds v0 v1 v2 σ = ((s_is σ v0 8).bind fun _ => R_X8_holds_0 v0 v1 v2 σ) := rfl
/-! X3_size -/
noncomputable def R_X3_size_0 (v0 : Nat) (v1 : Int32) (σ : sS) : Option (Int32 × sS) := s_run (S_X3_size ) (0, [.ref v0, .int v1], σ)
noncomputable def R_X3_size_4 (v0 : Nat) (v1 : Int32) (v2 : Int32) (v3 : Int32) (σ : sS) : Option (Int32 × sS) := s_run (S_X3_size ) (4, [.ref v0, .int v1, .int v2, .int v3], σ)
theorem E_X3_size_0 {v0 : Nat} {v1 : Int32} {σ : sS} : R_X3_size_0 v0 v1 σ = (R_X3_size_4 v0 v1 0 0 σ) := by
  unfold R_X3_size_0
  rw [s_run_eq]
  show s_go _ _ (T_X3_size_0 v0 v1 σ) = _
  unfold T_X3_size_0
  simp only [s_go_bind, s_go_ite, s_go_sum, s_go_l, s_go_r, s_go_n]
  try rfl
theorem E_X3_size_4 {v0 : Nat} {v1 : Int32} {v2 : Int32} {v3 : Int32} {σ : sS} : R_X3_size_4 v0 v1 v2 v3 σ = ((s_fr σ v0 3 0).bind fun x1 =>
  (F_X1_words x1 σ).bind fun q2 =>
  if q2.1 ≤ v3 then (some (v2, q2.2))
  else ((s_fr q2.2 v0 3 0).bind fun x3 =>
  (F_X1_truthOf x3 v1 v3 q2.2).bind fun q4 =>
  (F_J13_bitCount_95d88 q4.1 q4.2).bind fun q5 =>
  R_X3_size_4 v0 v1 (v2 + q5.1) (v3 + 1) q5.2)) := by
  unfold R_X3_size_4
  rw [s_run_eq]
  show s_go _ _ (T_X3_size_4 v0 v1 v2 v3 σ) = _
  unfold T_X3_size_4
  simp only [s_go_bind, s_go_ite, s_go_sum, s_go_l, s_go_r, s_go_n]
  try rfl
theorem E_X3_size {v0 : Nat} {v1 : Int32} {σ : sS} : F_X3_size v0 v1 σ = ((s_is σ v0 3).bind fun _ => R_X3_size_0 v0 v1 σ) := rfl
/-! X7_worlds -/
noncomputable def R_X7_worlds_0 (v0 : Nat) (v1 : Int32) (σ : sS) : Option ((Int32 ⊕ String) × sS) := s_run (S_X7_worlds ) (0, [.ref v0, .int v1], σ)
theorem E_X7_worlds_0 {v0 : Nat} {v1 : Int32} {σ : sS} : R_X7_worlds_0 v0 v1 σ = ((F_X7_needFormula v0 v1 σ).bind fun q1 => s_sum q1.1 (fun x2 => (s_fr q1.2 v0 7 4).bind fun x4 =>
  (F_X3_size x4 v1 q1.2).bind fun q5 =>
  some (.inl q5.1, q5.2)) (fun E3 => some (.inr E3, q1.2))) := by
  unfold R_X7_worlds_0
  rw [s_run_eq]
  show s_go _ _ (T_X7_worlds_0 v0 v1 σ) = _
  unfold T_X7_worlds_0
  simp only [s_go_bind, s_go_ite, s_go_sum, s_go_l, s_go_r, s_go_n]
  try rfl
theorem E_X7_worlds {v0 : Nat} {v1 : Int32} {σ : sS} : F_X7_worlds v0 v1 σ = ((s_is σ v0 7).bind fun _ => R_X7_worlds_0 v0 v1 σ) := rfl
/-! L_worlds -/
noncomputable def R_L_worlds_0 (v0 : Nat) (v1 : Int32) (v2 : Nat) (σ : sS) : Option (Int32 × sS) := s_run (S_L_worlds ) (0, [.ref v0, .int v1, .ref v2], σ)
theorem E_L_worlds_0 {v0 : Nat} {v1 : Int32} {v2 : Nat} {σ : sS} : R_L_worlds_0 v0 v1 v2 σ = ((F_X7_worlds v0 v1 σ).bind fun q1 => s_sum q1.1 (fun x2 => (s_sl q1.2 v2 0 ((x2 : Int32).toInt64)).bind fun σ4 =>
  some (0, σ4)) (fun E3 => if E3 = "java/lang/IndexOutOfBoundsException" then (some (1, q1.2)) else none)) := by
  unfold R_L_worlds_0
  rw [s_run_eq]
  show s_go _ _ (T_L_worlds_0 v0 v1 v2 σ) = _
  unfold T_L_worlds_0
  simp only [s_go_bind, s_go_ite, s_go_sum, s_go_l, s_go_r, s_go_n]
  try rfl
theorem E_L_worlds {v0 : Nat} {v1 : Int32} {v2 : Nat} {σ : sS} : F_L_worlds v0 v1 v2 σ = (R_L_worlds_0 v0 v1 v2 σ) := rfl
/-! X8_worlds -/
noncomputable def R_X8_worlds_0 (v0 : Nat) (v1 : Int32) (σ : sS) : Option (Int32 × sS) := s_run (S_X8_worlds ) (0, [.ref v0, .int v1], σ)
noncomputable def R_X8_worlds_24 (v0 : Nat) (v1 : Int32) (v2 : Int32) (v3 : Int32) (σ : sS) : Option (Int32 × sS) := s_run (S_X8_worlds ) (24, [.ref v0, .int v1, .int v2, .int v3], σ)
noncomputable def R_X8_worlds_47 (v0 : Nat) (v1 : Int32) (v3 : Int32) (w0 : Int32) (w1 : Int32) (σ : sS) : Option (Int32 × sS) := s_run (S_X8_worlds ) (47, [.ref v0, .int v1, .int v3, .int w0, .int w1], σ)
theorem E_X8_worlds_0 {v0 : Nat} {v1 : Int32} {σ : sS} : R_X8_worlds_0 v0 v1 σ = ((s_pf σ v0 8 0 (.int 0)).bind fun σ1 =>
  (F_X8_noFormula v0 v1 σ1).bind fun q2 =>
  (F_X8_throwsIf v0 q2.1 1 q2.2).bind fun q3 =>
  if q3.1 = 0 then (R_X8_worlds_24 v0 v1 0 0 q3.2)
  else (some (0, q3.2))) := by
  unfold R_X8_worlds_0
  rw [s_run_eq]
  show s_go _ _ (T_X8_worlds_0 v0 v1 σ) = _
  unfold T_X8_worlds_0
  simp only [s_go_bind, s_go_ite, s_go_sum, s_go_l, s_go_r, s_go_n]
  try rfl
theorem E_X8_worlds_24 {v0 : Nat} {v1 : Int32} {v2 : Int32} {v3 : Int32} {σ : sS} : R_X8_worlds_24 v0 v1 v2 v3 σ = ((F_X8_worldsMany v0 σ).bind fun q1 =>
  if q1.1 ≤ v3 then (some (v2, q1.2))
  else ((F_X8_isTrue v0 v1 v3 q1.2).bind fun q2 =>
  if q2.1 = 0 then (R_X8_worlds_47 v0 v1 v3 0 v2 q2.2)
  else (R_X8_worlds_47 v0 v1 v3 1 v2 q2.2))) := by
  unfold R_X8_worlds_24
  rw [s_run_eq]
  show s_go _ _ (T_X8_worlds_24 v0 v1 v2 v3 σ) = _
  unfold T_X8_worlds_24
  simp only [s_go_bind, s_go_ite, s_go_sum, s_go_l, s_go_r, s_go_n]
  try rfl
theorem E_X8_worlds_47 {v0 : Nat} {v1 : Int32} {v3 : Int32} {w0 : Int32} {w1 : Int32} {σ : sS} : R_X8_worlds_47 v0 v1 v3 w0 w1 σ = (R_X8_worlds_24 v0 v1 (w1 + w0) (v3 + 1) σ) := by
  unfold R_X8_worlds_47
  rw [s_run_eq]
  show s_go _ _ (T_X8_worlds_47 v0 v1 v3 w0 w1 σ) = _
  unfold T_X8_worlds_47
  simp only [s_go_bind, s_go_ite, s_go_sum, s_go_l, s_go_r, s_go_n]
  try rfl
theorem E_X8_worlds {v0 : Nat} {v1 : Int32} {σ : sS} : F_X8_worlds v0 v1 σ = ((s_is σ v0 8).bind fun _ => R_X8_worlds_0 v0 v1 σ) := rfl
/-! X7_rules -/
noncomputable def R_X7_rules_0 (v0 : Nat) (v1 : Int32) (v2 : Int32) (σ : sS) : Option ((Int32 ⊕ String) × sS) := s_run (S_X7_rules ) (0, [.ref v0, .int v1, .int v2], σ)
theorem E_X7_rules_0 {v0 : Nat} {v1 : Int32} {v2 : Int32} {σ : sS} : R_X7_rules_0 v0 v1 v2 σ = ((F_X7_needHouse v0 v1 σ).bind fun q1 => s_sum q1.1 (fun x2 => if v2 < 0 then (some (.inr "java/lang/IllegalArgumentException", s_ex q1.2))
  else (if v2 ≤ 65535 then ((s_fr q1.2 v0 7 1).bind fun x4 =>
  (s_fr q1.2 x4 1 4).bind fun x5 =>
  (s_ai q1.2 x5 v1).bind fun x6 =>
  (s_fr q1.2 v0 7 1).bind fun x7 =>
  (s_fr q1.2 x7 1 4).bind fun x8 =>
  (s_si q1.2 x8 v1 v2).bind fun σ9 =>
  some (.inl x6, σ9))
  else (some (.inr "java/lang/IllegalArgumentException", s_ex q1.2)))) (fun E3 => some (.inr E3, q1.2))) := by
  unfold R_X7_rules_0
  rw [s_run_eq]
  show s_go _ _ (T_X7_rules_0 v0 v1 v2 σ) = _
  unfold T_X7_rules_0
  simp only [s_go_bind, s_go_ite, s_go_sum, s_go_l, s_go_r, s_go_n]
  try rfl
theorem E_X7_rules {v0 : Nat} {v1 : Int32} {v2 : Int32} {σ : sS} : F_X7_rules v0 v1 v2 σ = ((s_is σ v0 7).bind fun _ => R_X7_rules_0 v0 v1 v2 σ) := rfl
/-! L_rules -/
noncomputable def R_L_rules_0 (v0 : Nat) (v1 : Int32) (v2 : Int32) (v3 : Nat) (σ : sS) : Option (Int32 × sS) := s_run (S_L_rules ) (0, [.ref v0, .int v1, .int v2, .ref v3], σ)
theorem E_L_rules_0 {v0 : Nat} {v1 : Int32} {v2 : Int32} {v3 : Nat} {σ : sS} : R_L_rules_0 v0 v1 v2 v3 σ = ((F_X7_rules v0 v1 v2 σ).bind fun q1 => s_sum q1.1 (fun x2 => (s_sl q1.2 v3 0 ((x2 : Int32).toInt64)).bind fun σ4 =>
  some (0, σ4)) (fun E3 => if E3 = "java/lang/IndexOutOfBoundsException" then (some (1, q1.2)) else if E3 = "java/lang/IllegalArgumentException" then (some (2, q1.2)) else none)) := by
  unfold R_L_rules_0
  rw [s_run_eq]
  show s_go _ _ (T_L_rules_0 v0 v1 v2 v3 σ) = _
  unfold T_L_rules_0
  simp only [s_go_bind, s_go_ite, s_go_sum, s_go_l, s_go_r, s_go_n]
  try rfl
theorem E_L_rules {v0 : Nat} {v1 : Int32} {v2 : Int32} {v3 : Nat} {σ : sS} : F_L_rules v0 v1 v2 v3 σ = (R_L_rules_0 v0 v1 v2 v3 σ) := rfl
/-! X8_noHouse -/
noncomputable def R_X8_noHouse_0 (v0 : Int32) (σ : sS) : Option (Int32 × sS) := s_run (S_X8_noHouse ) (0, [.int v0], σ)
theorem E_X8_noHouse_0 {v0 : Int32} {σ : sS} : R_X8_noHouse_0 v0 σ = ((F_X8_in v0 0 2 σ).bind fun q1 =>
  if q1.1 = 0 then (some (1, q1.2))
  else (some (0, q1.2))) := by
  unfold R_X8_noHouse_0
  rw [s_run_eq]
  show s_go _ _ (T_X8_noHouse_0 v0 σ) = _
  unfold T_X8_noHouse_0
  simp only [s_go_bind, s_go_ite, s_go_sum, s_go_l, s_go_r, s_go_n]
  try rfl
theorem E_X8_noHouse {v0 : Int32} {σ : sS} : F_X8_noHouse v0 σ = (R_X8_noHouse_0 v0 σ) := rfl
/-! X8_rules -/
noncomputable def R_X8_rules_0 (v0 : Nat) (v1 : Int32) (v2 : Int32) (σ : sS) : Option (Int32 × sS) := s_run (S_X8_rules ) (0, [.ref v0, .int v1, .int v2], σ)
noncomputable def R_X8_rules_33 (v0 : Nat) (v1 : Int32) (v2 : Int32) (w0 : Int32) (w1 : Nat) (σ : sS) : Option (Int32 × sS) := s_run (S_X8_rules ) (33, [.ref v0, .int v1, .int v2, .int w0, .ref w1], σ)
theorem E_X8_rules_0 {v0 : Nat} {v1 : Int32} {v2 : Int32} {σ : sS} : R_X8_rules_0 v0 v1 v2 σ = ((s_pf σ v0 8 0 (.int 0)).bind fun σ1 =>
  (F_X8_noHouse v1 σ1).bind fun q2 =>
  (F_X8_throwsIf v0 q2.1 1 q2.2).bind fun q3 =>
  if q3.1 = 0 then ((F_X8_in v2 0 65535 q3.2).bind fun q4 =>
  if q4.1 = 0 then (R_X8_rules_33 v0 v1 v2 1 v0 q4.2)
  else (R_X8_rules_33 v0 v1 v2 0 v0 q4.2))
  else (some (0, q3.2))) := by
  unfold R_X8_rules_0
  rw [s_run_eq]
  show s_go _ _ (T_X8_rules_0 v0 v1 v2 σ) = _
  unfold T_X8_rules_0
  simp only [s_go_bind, s_go_ite, s_go_sum, s_go_l, s_go_r, s_go_n]
  try rfl
theorem E_X8_rules_33 {v0 : Nat} {v1 : Int32} {v2 : Int32} {w0 : Int32} {w1 : Nat} {σ : sS} : R_X8_rules_33 v0 v1 v2 w0 w1 σ = ((F_X8_throwsIf w1 w0 2 σ).bind fun q1 =>
  if q1.1 = 0 then ((s_fr q1.2 v0 8 1).bind fun x2 =>
  (s_ai q1.2 x2 (4 + (18 * v1))).bind fun x3 =>
  (s_fr q1.2 v0 8 1).bind fun x4 =>
  (s_si q1.2 x4 (4 + (18 * v1)) v2).bind fun σ5 =>
  some (x3, σ5))
  else (some (0, q1.2))) := by
  unfold R_X8_rules_33
  rw [s_run_eq]
  show s_go _ _ (T_X8_rules_33 v0 v1 v2 w0 w1 σ) = _
  unfold T_X8_rules_33
  simp only [s_go_bind, s_go_ite, s_go_sum, s_go_l, s_go_r, s_go_n]
  try rfl
theorem E_X8_rules {v0 : Nat} {v1 : Int32} {v2 : Int32} {σ : sS} : F_X8_rules v0 v1 v2 σ = ((s_is σ v0 8).bind fun _ => R_X8_rules_0 v0 v1 v2 σ) := rfl
/-! X1_setPrice -/
noncomputable def R_X1_setPrice_0 (v0 : Nat) (v1 : Int32) (v2 : Int32) (v3 : Int32) (σ : sS) : Option (Unit × sS) := s_run (S_X1_setPrice ) (0, [.ref v0, .int v1, .int v2, .int v3], σ)
theorem E_X1_setPrice_0 {v0 : Nat} {v1 : Int32} {v2 : Int32} {v3 : Int32} {σ : sS} : R_X1_setPrice_0 v0 v1 v2 v3 σ = (if v1 < 0 then (some ((), σ))
  else (if (3 : Int32) ≤ v1 then (some ((), σ))
  else (if v2 < 0 then (some ((), σ))
  else (if (17 : Int32) ≤ v2 then (some ((), σ))
  else ((s_fr σ v0 1 12).bind fun x1 =>
  (s_si σ x1 ((v1 * 17) + v2) v3).bind fun σ2 =>
  some ((), σ2)))))) := by
  unfold R_X1_setPrice_0
  rw [s_run_eq]
  show s_go _ _ (T_X1_setPrice_0 v0 v1 v2 v3 σ) = _
  unfold T_X1_setPrice_0
  simp only [s_go_bind, s_go_ite, s_go_sum, s_go_l, s_go_r, s_go_n]
  try rfl
theorem E_X1_setPrice {v0 : Nat} {v1 : Int32} {v2 : Int32} {v3 : Int32} {σ : sS} : F_X1_setPrice v0 v1 v2 v3 σ = ((s_is σ v0 1).bind fun _ => R_X1_setPrice_0 v0 v1 v2 v3 σ) := rfl
/-! X7_price -/
noncomputable def R_X7_price_0 (v0 : Nat) (v1 : Int32) (v2 : Int32) (v3 : Int32) (σ : sS) : Option ((Int32 ⊕ String) × sS) := s_run (S_X7_price ) (0, [.ref v0, .int v1, .int v2, .int v3], σ)
noncomputable def R_X7_price_43 (v0 : Nat) (v1 : Int32) (v2 : Int32) (v3 : Int32) (w0 : Int32) (w1 : Int32) (σ : sS) : Option ((Int32 ⊕ String) × sS) := s_run (S_X7_price ) (43, [.ref v0, .int v1, .int v2, .int v3, .int w0, .int w1], σ)
theorem E_X7_price_0 {v0 : Nat} {v1 : Int32} {v2 : Int32} {v3 : Int32} {σ : sS} : R_X7_price_0 v0 v1 v2 v3 σ = ((F_X7_needHouse v0 v1 σ).bind fun q1 => s_sum q1.1 (fun x2 => if v2 < 0 then (some (.inr "java/lang/IndexOutOfBoundsException", s_ex q1.2))
  else (if v2 ≤ 16 then (if v3 < 0 then (some (.inr "java/lang/IllegalArgumentException", s_ex q1.2))
  else (if v2 = 16 then (R_X7_price_43 v0 v1 v2 v3 9 v3 q1.2)
  else (R_X7_price_43 v0 v1 v2 v3 99 v3 q1.2)))
  else (some (.inr "java/lang/IndexOutOfBoundsException", s_ex q1.2)))) (fun E3 => some (.inr E3, q1.2))) := by
  unfold R_X7_price_0
  rw [s_run_eq]
  show s_go _ _ (T_X7_price_0 v0 v1 v2 v3 σ) = _
  unfold T_X7_price_0
  simp only [s_go_bind, s_go_ite, s_go_sum, s_go_l, s_go_r, s_go_n]
  try rfl
theorem E_X7_price_43 {v0 : Nat} {v1 : Int32} {v2 : Int32} {v3 : Int32} {w0 : Int32} {w1 : Int32} {σ : sS} : R_X7_price_43 v0 v1 v2 v3 w0 w1 σ = (if w1 ≤ w0 then ((s_fr σ v0 7 1).bind fun x1 =>
  (F_X1_priceOf x1 v1 v2 σ).bind fun q2 =>
  (s_fr q2.2 v0 7 1).bind fun x3 =>
  (F_X1_setPrice x3 v1 v2 v3 q2.2).bind fun q4 =>
  some (.inl q2.1, q4.2))
  else (some (.inr "java/lang/IllegalArgumentException", s_ex σ))) := by
  unfold R_X7_price_43
  rw [s_run_eq]
  show s_go _ _ (T_X7_price_43 v0 v1 v2 v3 w0 w1 σ) = _
  unfold T_X7_price_43
  simp only [s_go_bind, s_go_ite, s_go_sum, s_go_l, s_go_r, s_go_n]
  try rfl
theorem E_X7_price {v0 : Nat} {v1 : Int32} {v2 : Int32} {v3 : Int32} {σ : sS} : F_X7_price v0 v1 v2 v3 σ = ((s_is σ v0 7).bind fun _ => R_X7_price_0 v0 v1 v2 v3 σ) := rfl
/-! L_price -/
noncomputable def R_L_price_0 (v0 : Nat) (v1 : Int32) (v2 : Int32) (v3 : Int32) (v4 : Nat) (σ : sS) : Option (Int32 × sS) := s_run (S_L_price ) (0, [.ref v0, .int v1, .int v2, .int v3, .ref v4], σ)
theorem E_L_price_0 {v0 : Nat} {v1 : Int32} {v2 : Int32} {v3 : Int32} {v4 : Nat} {σ : sS} : R_L_price_0 v0 v1 v2 v3 v4 σ = ((F_X7_price v0 v1 v2 v3 σ).bind fun q1 => s_sum q1.1 (fun x2 => (s_sl q1.2 v4 0 ((x2 : Int32).toInt64)).bind fun σ4 =>
  some (0, σ4)) (fun E3 => if E3 = "java/lang/IndexOutOfBoundsException" then (some (1, q1.2)) else if E3 = "java/lang/IllegalArgumentException" then (some (2, q1.2)) else none)) := by
  unfold R_L_price_0
  rw [s_run_eq]
  show s_go _ _ (T_L_price_0 v0 v1 v2 v3 v4 σ) = _
  unfold T_L_price_0
  simp only [s_go_bind, s_go_ite, s_go_sum, s_go_l, s_go_r, s_go_n]
  try rfl
theorem E_L_price {v0 : Nat} {v1 : Int32} {v2 : Int32} {v3 : Int32} {v4 : Nat} {σ : sS} : F_L_price v0 v1 v2 v3 v4 σ = (R_L_price_0 v0 v1 v2 v3 v4 σ) := rfl
/-! X8_price -/
noncomputable def R_X8_price_0 (v0 : Nat) (v1 : Int32) (v2 : Int32) (v3 : Int32) (σ : sS) : Option (Int32 × sS) := s_run (S_X8_price ) (0, [.ref v0, .int v1, .int v2, .int v3], σ)
noncomputable def R_X8_price_23 (v0 : Nat) (v1 : Int32) (v2 : Int32) (v3 : Int32) (w0 : Nat) (σ : sS) : Option (Int32 × sS) := s_run (S_X8_price ) (23, [.ref v0, .int v1, .int v2, .int v3, .ref w0], σ)
noncomputable def R_X8_price_28 (v0 : Nat) (v1 : Int32) (v2 : Int32) (v3 : Int32) (w0 : Int32) (w1 : Nat) (σ : sS) : Option (Int32 × sS) := s_run (S_X8_price ) (28, [.ref v0, .int v1, .int v2, .int v3, .int w0, .ref w1], σ)
noncomputable def R_X8_price_51 (v0 : Nat) (v1 : Int32) (v2 : Int32) (v3 : Int32) (w0 : Int32) (w1 : Int32) (w2 : Int32) (w3 : Nat) (σ : sS) : Option (Int32 × sS) := s_run (S_X8_price ) (51, [.ref v0, .int v1, .int v2, .int v3, .int w0, .int w1, .int w2, .ref w3], σ)
noncomputable def R_X8_price_62 (v0 : Nat) (v1 : Int32) (v2 : Int32) (v3 : Int32) (w0 : Int32) (w1 : Nat) (σ : sS) : Option (Int32 × sS) := s_run (S_X8_price ) (62, [.ref v0, .int v1, .int v2, .int v3, .int w0, .ref w1], σ)
theorem E_X8_price_0 {v0 : Nat} {v1 : Int32} {v2 : Int32} {v3 : Int32} {σ : sS} : R_X8_price_0 v0 v1 v2 v3 σ = ((s_pf σ v0 8 0 (.int 0)).bind fun σ1 =>
  (F_X8_noHouse v1 σ1).bind fun q2 =>
  if q2.1 = 0 then ((F_X8_in v2 0 16 q2.2).bind fun q3 =>
  if q3.1 = 0 then (R_X8_price_23 v0 v1 v2 v3 v0 q3.2)
  else (R_X8_price_28 v0 v1 v2 v3 0 v0 q3.2))
  else (R_X8_price_23 v0 v1 v2 v3 v0 q2.2)) := by
  unfold R_X8_price_0
  rw [s_run_eq]
  show s_go _ _ (T_X8_price_0 v0 v1 v2 v3 σ) = _
  unfold T_X8_price_0
  simp only [s_go_bind, s_go_ite, s_go_sum, s_go_l, s_go_r, s_go_n]
  try rfl
theorem E_X8_price_23 {v0 : Nat} {v1 : Int32} {v2 : Int32} {v3 : Int32} {w0 : Nat} {σ : sS} : R_X8_price_23 v0 v1 v2 v3 w0 σ = (R_X8_price_28 v0 v1 v2 v3 1 w0 σ) := by
  unfold R_X8_price_23
  rw [s_run_eq]
  show s_go _ _ (T_X8_price_23 v0 v1 v2 v3 w0 σ) = _
  unfold T_X8_price_23
  simp only [s_go_bind, s_go_ite, s_go_sum, s_go_l, s_go_r, s_go_n]
  try rfl
theorem E_X8_price_28 {v0 : Nat} {v1 : Int32} {v2 : Int32} {v3 : Int32} {w0 : Int32} {w1 : Nat} {σ : sS} : R_X8_price_28 v0 v1 v2 v3 w0 w1 σ = ((F_X8_throwsIf w1 w0 1 σ).bind fun q1 =>
  if q1.1 = 0 then (if v2 = 16 then (R_X8_price_51 v0 v1 v2 v3 9 0 v3 v0 q1.2)
  else (R_X8_price_51 v0 v1 v2 v3 99 0 v3 v0 q1.2))
  else (some (0, q1.2))) := by
  unfold R_X8_price_28
  rw [s_run_eq]
  show s_go _ _ (T_X8_price_28 v0 v1 v2 v3 w0 w1 σ) = _
  unfold T_X8_price_28
  simp only [s_go_bind, s_go_ite, s_go_sum, s_go_l, s_go_r, s_go_n]
  try rfl
theorem E_X8_price_51 {v0 : Nat} {v1 : Int32} {v2 : Int32} {v3 : Int32} {w0 : Int32} {w1 : Int32} {w2 : Int32} {w3 : Nat} {σ : sS} : R_X8_price_51 v0 v1 v2 v3 w0 w1 w2 w3 σ = ((F_X8_in w2 w1 w0 σ).bind fun q1 =>
  if q1.1 = 0 then (R_X8_price_62 v0 v1 v2 v3 1 w3 q1.2)
  else (R_X8_price_62 v0 v1 v2 v3 0 w3 q1.2)) := by
  unfold R_X8_price_51
  rw [s_run_eq]
  show s_go _ _ (T_X8_price_51 v0 v1 v2 v3 w0 w1 w2 w3 σ) = _
  unfold T_X8_price_51
  simp only [s_go_bind, s_go_ite, s_go_sum, s_go_l, s_go_r, s_go_n]
  try rfl
theorem E_X8_price_62 {v0 : Nat} {v1 : Int32} {v2 : Int32} {v3 : Int32} {w0 : Int32} {w1 : Nat} {σ : sS} : R_X8_price_62 v0 v1 v2 v3 w0 w1 σ = ((F_X8_throwsIf w1 w0 2 σ).bind fun q1 =>
  if q1.1 = 0 then ((s_fr q1.2 v0 8 1).bind fun x2 =>
  (s_ai q1.2 x2 (((4 + (18 * v1)) + 1) + v2)).bind fun x3 =>
  (s_fr q1.2 v0 8 1).bind fun x4 =>
  (s_si q1.2 x4 (((4 + (18 * v1)) + 1) + v2) v3).bind fun σ5 =>
  some (x3, σ5))
  else (some (0, q1.2))) := by
  unfold R_X8_price_62
  rw [s_run_eq]
  show s_go _ _ (T_X8_price_62 v0 v1 v2 v3 w0 w1 σ) = _
  unfold T_X8_price_62
  simp only [s_go_bind, s_go_ite, s_go_sum, s_go_l, s_go_r, s_go_n]
  try rfl
theorem E_X8_price {v0 : Nat} {v1 : Int32} {v2 : Int32} {v3 : Int32} {σ : sS} : F_X8_price v0 v1 v2 v3 σ = ((s_is σ v0 8).bind fun _ => R_X8_price_0 v0 v1 v2 v3 σ) := rfl
/-! X8_noCustomer -/
noncomputable def R_X8_noCustomer_0 (v0 : Int32) (σ : sS) : Option (Int32 × sS) := s_run (S_X8_noCustomer ) (0, [.int v0], σ)
theorem E_X8_noCustomer_0 {v0 : Int32} {σ : sS} : R_X8_noCustomer_0 v0 σ = ((F_X8_in v0 0 3 σ).bind fun q1 =>
  if q1.1 = 0 then (some (1, q1.2))
  else (some (0, q1.2))) := by
  unfold R_X8_noCustomer_0
  rw [s_run_eq]
  show s_go _ _ (T_X8_noCustomer_0 v0 σ) = _
  unfold T_X8_noCustomer_0
  simp only [s_go_bind, s_go_ite, s_go_sum, s_go_l, s_go_r, s_go_n]
  try rfl
theorem E_X8_noCustomer {v0 : Int32} {σ : sS} : F_X8_noCustomer v0 σ = (R_X8_noCustomer_0 v0 σ) := rfl
/-! X8_beliefsOf -/
noncomputable def R_X8_beliefsOf_0 (v0 : Nat) (v1 : Int32) (σ : sS) : Option (Int32 × sS) := s_run (S_X8_beliefsOf ) (0, [.ref v0, .int v1], σ)
theorem E_X8_beliefsOf_0 {v0 : Nat} {v1 : Int32} {σ : sS} : R_X8_beliefsOf_0 v0 v1 σ = ((s_fr σ v0 8 1).bind fun x1 =>
  (s_ai σ x1 (58 + v1)).bind fun x2 =>
  some (x2, σ)) := by
  unfold R_X8_beliefsOf_0
  rw [s_run_eq]
  show s_go _ _ (T_X8_beliefsOf_0 v0 v1 σ) = _
  unfold T_X8_beliefsOf_0
  simp only [s_go_bind, s_go_ite, s_go_sum, s_go_l, s_go_r, s_go_n]
  try rfl
theorem E_X8_beliefsOf {v0 : Nat} {v1 : Int32} {σ : sS} : F_X8_beliefsOf v0 v1 σ = ((s_is σ v0 8).bind fun _ => R_X8_beliefsOf_0 v0 v1 σ) := rfl
/-! X8_believe -/
noncomputable def R_X8_believe_0 (v0 : Nat) (v1 : Int32) (v2 : Int32) (v3 : Int32) (σ : sS) : Option (Int32 × sS) := s_run (S_X8_believe ) (0, [.ref v0, .int v1, .int v2, .int v3], σ)
noncomputable def R_X8_believe_21 (v0 : Nat) (v1 : Int32) (v2 : Int32) (v3 : Int32) (w0 : Nat) (σ : sS) : Option (Int32 × sS) := s_run (S_X8_believe ) (21, [.ref v0, .int v1, .int v2, .int v3, .ref w0], σ)
noncomputable def R_X8_believe_26 (v0 : Nat) (v1 : Int32) (v2 : Int32) (v3 : Int32) (w0 : Int32) (w1 : Nat) (σ : sS) : Option (Int32 × sS) := s_run (S_X8_believe ) (26, [.ref v0, .int v1, .int v2, .int v3, .int w0, .ref w1], σ)
noncomputable def R_X8_believe_53 (v0 : Nat) (v1 : Int32) (v2 : Int32) (v3 : Int32) (w0 : Int32) (σ : sS) : Option (Int32 × sS) := s_run (S_X8_believe ) (53, [.ref v0, .int v1, .int v2, .int v3, .int w0], σ)
noncomputable def R_X8_believe_76 (v3 : Int32) (v4 : Int32) (σ : sS) : Option (Int32 × sS) := s_run (S_X8_believe ) (76, [.int v3, .int v4], σ)
theorem E_X8_believe_0 {v0 : Nat} {v1 : Int32} {v2 : Int32} {v3 : Int32} {σ : sS} : R_X8_believe_0 v0 v1 v2 v3 σ = ((s_pf σ v0 8 0 (.int 0)).bind fun σ1 =>
  (F_X8_noCustomer v1 σ1).bind fun q2 =>
  if q2.1 = 0 then ((F_X8_noFormula v0 v2 q2.2).bind fun q3 =>
  if q3.1 = 0 then (R_X8_believe_26 v0 v1 v2 v3 0 v0 q3.2)
  else (R_X8_believe_21 v0 v1 v2 v3 v0 q3.2))
  else (R_X8_believe_21 v0 v1 v2 v3 v0 q2.2)) := by
  unfold R_X8_believe_0
  rw [s_run_eq]
  show s_go _ _ (T_X8_believe_0 v0 v1 v2 v3 σ) = _
  unfold T_X8_believe_0
  simp only [s_go_bind, s_go_ite, s_go_sum, s_go_l, s_go_r, s_go_n]
  try rfl
theorem E_X8_believe_21 {v0 : Nat} {v1 : Int32} {v2 : Int32} {v3 : Int32} {w0 : Nat} {σ : sS} : R_X8_believe_21 v0 v1 v2 v3 w0 σ = (R_X8_believe_26 v0 v1 v2 v3 1 w0 σ) := by
  unfold R_X8_believe_21
  rw [s_run_eq]
  show s_go _ _ (T_X8_believe_21 v0 v1 v2 v3 w0 σ) = _
  unfold T_X8_believe_21
  simp only [s_go_bind, s_go_ite, s_go_sum, s_go_l, s_go_r, s_go_n]
  try rfl
theorem E_X8_believe_26 {v0 : Nat} {v1 : Int32} {v2 : Int32} {v3 : Int32} {w0 : Int32} {w1 : Nat} {σ : sS} : R_X8_believe_26 v0 v1 v2 v3 w0 w1 σ = ((F_X8_throwsIf w1 w0 1 σ).bind fun q1 =>
  if q1.1 = 0 then ((F_X8_beliefsOf v0 v1 q1.2).bind fun q2 =>
  if ((q2.1 >>> (v2 &&& 31)) &&& 1) = 1 then (R_X8_believe_53 v0 v1 v2 v3 1 q2.2)
  else (R_X8_believe_53 v0 v1 v2 v3 0 q2.2))
  else (some (0, q1.2))) := by
  unfold R_X8_believe_26
  rw [s_run_eq]
  show s_go _ _ (T_X8_believe_26 v0 v1 v2 v3 w0 w1 σ) = _
  unfold T_X8_believe_26
  simp only [s_go_bind, s_go_ite, s_go_sum, s_go_l, s_go_r, s_go_n]
  try rfl
theorem E_X8_believe_53 {v0 : Nat} {v1 : Int32} {v2 : Int32} {v3 : Int32} {w0 : Int32} {σ : sS} : R_X8_believe_53 v0 v1 v2 v3 w0 σ = (if w0 = v3 then (R_X8_believe_76 v3 w0 σ)
  else ((s_fr σ v0 8 1).bind fun x1 =>
  (s_ai σ x1 (58 + v1)).bind fun x2 =>
  (s_si σ x1 (58 + v1) (x2 ^^^ (1 <<< (v2 &&& 31)))).bind fun σ3 =>
  R_X8_believe_76 v3 w0 σ3)) := by
  unfold R_X8_believe_53
  rw [s_run_eq]
  show s_go _ _ (T_X8_believe_53 v0 v1 v2 v3 w0 σ) = _
  unfold T_X8_believe_53
  simp only [s_go_bind, s_go_ite, s_go_sum, s_go_l, s_go_r, s_go_n]
  try rfl
theorem E_X8_believe_76 {v3 : Int32} {v4 : Int32} {σ : sS} : R_X8_believe_76 v3 v4 σ = (if v4 = v3 then (some (0, σ))
  else (some (1, σ))) := by
  unfold R_X8_believe_76
  rw [s_run_eq]
  show s_go _ _ (T_X8_believe_76 v3 v4 σ) = _
  unfold T_X8_believe_76
  simp only [s_go_bind, s_go_ite, s_go_sum, s_go_l, s_go_r, s_go_n]
  try rfl
theorem E_X8_believe {v0 : Nat} {v1 : Int32} {v2 : Int32} {v3 : Int32} {σ : sS} : F_X8_believe v0 v1 v2 v3 σ = ((s_is σ v0 8).bind fun _ => R_X8_believe_0 v0 v1 v2 v3 σ) := rfl
/-! X8_beliefs -/
noncomputable def R_X8_beliefs_0 (v0 : Nat) (v1 : Int32) (σ : sS) : Option (Int32 × sS) := s_run (S_X8_beliefs ) (0, [.ref v0, .int v1], σ)
theorem E_X8_beliefs_0 {v0 : Nat} {v1 : Int32} {σ : sS} : R_X8_beliefs_0 v0 v1 σ = ((s_pf σ v0 8 0 (.int 0)).bind fun σ1 =>
  (F_X8_noCustomer v1 σ1).bind fun q2 =>
  (F_X8_throwsIf v0 q2.1 1 q2.2).bind fun q3 =>
  if q3.1 = 0 then ((F_X8_beliefsOf v0 v1 q3.2).bind fun q4 =>
  some (q4.1, q4.2))
  else (some (0, q3.2))) := by
  unfold R_X8_beliefs_0
  rw [s_run_eq]
  show s_go _ _ (T_X8_beliefs_0 v0 v1 σ) = _
  unfold T_X8_beliefs_0
  simp only [s_go_bind, s_go_ite, s_go_sum, s_go_l, s_go_r, s_go_n]
  try rfl
theorem E_X8_beliefs {v0 : Nat} {v1 : Int32} {σ : sS} : F_X8_beliefs v0 v1 σ = ((s_is σ v0 8).bind fun _ => R_X8_beliefs_0 v0 v1 σ) := rfl
/-! X7_needPremise -/
noncomputable def R_X7_needPremise_0 (v0 : Nat) (v1 : Int32) (σ : sS) : Option ((Unit ⊕ String) × sS) := s_run (S_X7_needPremise ) (0, [.ref v0, .int v1], σ)
theorem E_X7_needPremise_0 {v0 : Nat} {v1 : Int32} {σ : sS} : R_X7_needPremise_0 v0 v1 σ = (if v1 = (-1) then (some (.inl (), σ))
  else ((F_X7_needLine v0 v1 σ).bind fun q1 => s_sum q1.1 (fun x2 => some (.inl (), q1.2)) (fun E3 => some (.inr E3, q1.2)))) := by
  unfold R_X7_needPremise_0
  rw [s_run_eq]
  show s_go _ _ (T_X7_needPremise_0 v0 v1 σ) = _
  unfold T_X7_needPremise_0
  simp only [s_go_bind, s_go_ite, s_go_sum, s_go_l, s_go_r, s_go_n]
  try rfl
theorem E_X7_needPremise {v0 : Nat} {v1 : Int32} {σ : sS} : F_X7_needPremise v0 v1 σ = ((s_is σ v0 7).bind fun _ => R_X7_needPremise_0 v0 v1 σ) := rfl
/-! X7_areInOrder -/
noncomputable def R_X7_areInOrder_0 (v0 : Int32) (v1 : Int32) (v2 : Int32) (v3 : Int32) (σ : sS) : Option (Int32 × sS) := s_run (S_X7_areInOrder ) (0, [.int v0, .int v1, .int v2, .int v3], σ)
noncomputable def R_X7_areInOrder_30 (v2 : Int32) (v3 : Int32) (σ : sS) : Option (Int32 × sS) := s_run (S_X7_areInOrder ) (30, [.int v2, .int v3], σ)
theorem E_X7_areInOrder_0 {v0 : Int32} {v1 : Int32} {v2 : Int32} {v3 : Int32} {σ : sS} : R_X7_areInOrder_0 v0 v1 v2 v3 σ = (if v0 = 0 then (if v2 = (-1) then (if v3 = (-1) then (some (1, σ))
  else (some (0, σ)))
  else (some (0, σ)))
  else (if v1 = (-1) then (if v2 = (-1) then (R_X7_areInOrder_30 v2 v3 σ)
  else (some (0, σ)))
  else (R_X7_areInOrder_30 v2 v3 σ))) := by
  unfold R_X7_areInOrder_0
  rw [s_run_eq]
  show s_go _ _ (T_X7_areInOrder_0 v0 v1 v2 v3 σ) = _
  unfold T_X7_areInOrder_0
  simp only [s_go_bind, s_go_ite, s_go_sum, s_go_l, s_go_r, s_go_n]
  try rfl
theorem E_X7_areInOrder_30 {v2 : Int32} {v3 : Int32} {σ : sS} : R_X7_areInOrder_30 v2 v3 σ = (if v2 = (-1) then (if v3 = (-1) then (some (1, σ))
  else (some (0, σ)))
  else (some (1, σ))) := by
  unfold R_X7_areInOrder_30
  rw [s_run_eq]
  show s_go _ _ (T_X7_areInOrder_30 v2 v3 σ) = _
  unfold T_X7_areInOrder_30
  simp only [s_go_bind, s_go_ite, s_go_sum, s_go_l, s_go_r, s_go_n]
  try rfl
theorem E_X7_areInOrder {v0 : Int32} {v1 : Int32} {v2 : Int32} {v3 : Int32} {σ : sS} : F_X7_areInOrder v0 v1 v2 v3 σ = (R_X7_areInOrder_0 v0 v1 v2 v3 σ) := rfl
/-! X1_standOn -/
noncomputable def R_X1_standOn_0 (v0 : Nat) (v1 : Int32) (σ : sS) : Option (Unit × sS) := s_run (S_X1_standOn ) (0, [.ref v0, .int v1], σ)
noncomputable def R_X1_standOn_13 (v0 : Nat) (v1 : Int32) (v2 : Int64) (v4 : Int64) (v6 : Int64) (v8 : Int32) (σ : sS) : Option (Unit × sS) := s_run (S_X1_standOn ) (13, [.ref v0, .int v1, .long v2, .long v4, .long v6, .int v8], σ)
noncomputable def R_X1_standOn_63 (v0 : Nat) (v1 : Int32) (v2 : Int64) (v4 : Int64) (v6 : Int64) (v8 : Int32) (σ : sS) : Option (Unit × sS) := s_run (S_X1_standOn ) (63, [.ref v0, .int v1, .long v2, .long v4, .long v6, .int v8], σ)
noncomputable def R_X1_standOn_121 (v0 : Nat) (v1 : Int32) (v2 : Int64) (v4 : Int64) (v6 : Int64) (v8 : Int32) (σ : sS) : Option (Unit × sS) := s_run (S_X1_standOn ) (121, [.ref v0, .int v1, .long v2, .long v4, .long v6, .int v8], σ)
noncomputable def R_X1_standOn_137 (v0 : Nat) (v1 : Int32) (v2 : Int64) (v6 : Int64) (w0 : Int32) (w1 : Nat) (σ : sS) : Option (Unit × sS) := s_run (S_X1_standOn ) (137, [.ref v0, .int v1, .long v2, .long v6, .int w0, .ref w1], σ)
noncomputable def R_X1_standOn_143 (v0 : Nat) (v1 : Int32) (v6 : Int64) (w0 : Int64) (w1 : Int32) (w2 : Nat) (σ : sS) : Option (Unit × sS) := s_run (S_X1_standOn ) (143, [.ref v0, .int v1, .long v6, .long w0, .int w1, .ref w2], σ)
theorem E_X1_standOn_0 {v0 : Nat} {v1 : Int32} {σ : sS} : R_X1_standOn_0 v0 v1 σ = (R_X1_standOn_13 v0 v1 (1 <<< ((v1 : Int32).toInt64 &&& 63)) 0 (1 <<< ((v1 : Int32).toInt64 &&& 63)) 0 σ) := by
  unfold R_X1_standOn_0
  rw [s_run_eq]
  show s_go _ _ (T_X1_standOn_0 v0 v1 σ) = _
  unfold T_X1_standOn_0
  simp only [s_go_bind, s_go_ite, s_go_sum, s_go_l, s_go_r, s_go_n]
  try rfl
theorem E_X1_standOn_13 {v0 : Nat} {v1 : Int32} {v2 : Int64} {v4 : Int64} {v6 : Int64} {v8 : Int32} {σ : sS} : R_X1_standOn_13 v0 v1 v2 v4 v6 v8 σ = (if (3 : Int32) ≤ v8 then ((F_X1_ofLine v0 v1 2 σ).bind fun q1 =>
  (F_X1_premiseOf v0 v1 0 q1.2).bind fun q2 =>
  if q1.1 = 10 then (if q2.1 < 0 then (R_X1_standOn_121 v0 v1 v2 v4 v6 q1.1 q2.2)
  else ((F_X1_ofLine v0 q2.1 2 q2.2).bind fun q3 =>
  if q3.1 = 1 then (R_X1_standOn_121 v0 v1 v2 (v4 &&& ((1 <<< ((q2.1 : Int32).toInt64 &&& 63)) ^^^ (-1))) v6 q1.1 q3.2)
  else (R_X1_standOn_121 v0 v1 v2 v4 v6 q1.1 q3.2)))
  else (R_X1_standOn_121 v0 v1 v2 v4 v6 q1.1 q2.2))
  else ((F_X1_premiseOf v0 v1 v8 σ).bind fun q4 =>
  if q4.1 < 0 then (R_X1_standOn_63 v0 v1 v2 v4 v6 v8 q4.2)
  else (if v1 ≤ q4.1 then (R_X1_standOn_63 v0 v1 v2 v4 v6 v8 q4.2)
  else ((s_fr q4.2 v0 1 7).bind fun x5 =>
  (s_al q4.2 x5 q4.1).bind fun x6 =>
  (s_fr q4.2 v0 1 8).bind fun x7 =>
  (s_al q4.2 x7 q4.1).bind fun x8 =>
  R_X1_standOn_63 v0 v1 v2 (v4 ||| x6) (v6 ||| x8) v8 q4.2)))) := by
  unfold R_X1_standOn_13
  rw [s_run_eq]
  show s_go _ _ (T_X1_standOn_13 v0 v1 v2 v4 v6 v8 σ) = _
  unfold T_X1_standOn_13
  simp only [s_go_bind, s_go_ite, s_go_sum, s_go_l, s_go_r, s_go_n]
  try rfl
theorem E_X1_standOn_63 {v0 : Nat} {v1 : Int32} {v2 : Int64} {v4 : Int64} {v6 : Int64} {v8 : Int32} {σ : sS} : R_X1_standOn_63 v0 v1 v2 v4 v6 v8 σ = (R_X1_standOn_13 v0 v1 v2 v4 v6 (v8 + 1) σ) := by
  unfold R_X1_standOn_63
  rw [s_run_eq]
  show s_go _ _ (T_X1_standOn_63 v0 v1 v2 v4 v6 v8 σ) = _
  unfold T_X1_standOn_63
  simp only [s_go_bind, s_go_ite, s_go_sum, s_go_l, s_go_r, s_go_n]
  try rfl
theorem E_X1_standOn_121 {v0 : Nat} {v1 : Int32} {v2 : Int64} {v4 : Int64} {v6 : Int64} {v8 : Int32} {σ : sS} : R_X1_standOn_121 v0 v1 v2 v4 v6 v8 σ = ((s_fr σ v0 1 7).bind fun x1 =>
  if v8 = 0 then (R_X1_standOn_137 v0 v1 v2 v6 v1 x1 σ)
  else (if v8 = 1 then (R_X1_standOn_137 v0 v1 v2 v6 v1 x1 σ)
  else (R_X1_standOn_143 v0 v1 v6 v4 v1 x1 σ))) := by
  unfold R_X1_standOn_121
  rw [s_run_eq]
  show s_go _ _ (T_X1_standOn_121 v0 v1 v2 v4 v6 v8 σ) = _
  unfold T_X1_standOn_121
  simp only [s_go_bind, s_go_ite, s_go_sum, s_go_l, s_go_r, s_go_n]
  try rfl
theorem E_X1_standOn_137 {v0 : Nat} {v1 : Int32} {v2 : Int64} {v6 : Int64} {w0 : Int32} {w1 : Nat} {σ : sS} : R_X1_standOn_137 v0 v1 v2 v6 w0 w1 σ = (R_X1_standOn_143 v0 v1 v6 v2 w0 w1 σ) := by
  unfold R_X1_standOn_137
  rw [s_run_eq]
  show s_go _ _ (T_X1_standOn_137 v0 v1 v2 v6 w0 w1 σ) = _
  unfold T_X1_standOn_137
  simp only [s_go_bind, s_go_ite, s_go_sum, s_go_l, s_go_r, s_go_n]
  try rfl
theorem E_X1_standOn_143 {v0 : Nat} {v1 : Int32} {v6 : Int64} {w0 : Int64} {w1 : Int32} {w2 : Nat} {σ : sS} : R_X1_standOn_143 v0 v1 v6 w0 w1 w2 σ = ((s_sl σ w2 w1 w0).bind fun σ1 =>
  (s_fr σ1 v0 1 8).bind fun x2 =>
  (s_sl σ1 x2 v1 v6).bind fun σ3 =>
  some ((), σ3)) := by
  unfold R_X1_standOn_143
  rw [s_run_eq]
  show s_go _ _ (T_X1_standOn_143 v0 v1 v6 w0 w1 w2 σ) = _
  unfold T_X1_standOn_143
  simp only [s_go_bind, s_go_ite, s_go_sum, s_go_l, s_go_r, s_go_n]
  try rfl
theorem E_X1_standOn {v0 : Nat} {v1 : Int32} {σ : sS} : F_X1_standOn v0 v1 σ = ((s_is σ v0 1).bind fun _ => R_X1_standOn_0 v0 v1 σ) := rfl
/-! X1_addLine -/
noncomputable def R_X1_addLine_0 (v0 : Nat) (v1 : Int32) (v2 : Int32) (v3 : Int32) (v4 : Int32) (v5 : Int32) (v6 : Int32) (σ : sS) : Option (Int32 × sS) := s_run (S_X1_addLine ) (0, [.ref v0, .int v1, .int v2, .int v3, .int v4, .int v5, .int v6], σ)
theorem E_X1_addLine_0 {v0 : Nat} {v1 : Int32} {v2 : Int32} {v3 : Int32} {v4 : Int32} {v5 : Int32} {v6 : Int32} {σ : sS} : R_X1_addLine_0 v0 v1 v2 v3 v4 v5 v6 σ = ((s_fi σ v0 1 6).bind fun x1 =>
  if x1 < 40 then ((s_fi σ v0 1 6).bind fun x2 =>
  (s_fr σ v0 1 13).bind fun x3 =>
  (s_si σ x3 ((x2 * 6) + 0) v1).bind fun σ4 =>
  (s_fr σ4 v0 1 13).bind fun x5 =>
  (s_si σ4 x5 ((x2 * 6) + 1) v2).bind fun σ6 =>
  (s_fr σ6 v0 1 13).bind fun x7 =>
  (s_si σ6 x7 ((x2 * 6) + 2) v3).bind fun σ8 =>
  (s_fr σ8 v0 1 13).bind fun x9 =>
  (s_si σ8 x9 ((x2 * 6) + 3) v4).bind fun σ10 =>
  (s_fr σ10 v0 1 13).bind fun x11 =>
  (s_si σ10 x11 (((x2 * 6) + 3) + 1) v5).bind fun σ12 =>
  (s_fr σ12 v0 1 13).bind fun x13 =>
  (s_si σ12 x13 (((x2 * 6) + 3) + 2) v6).bind fun σ14 =>
  (s_fi σ14 v0 1 6).bind fun x15 =>
  (s_pf σ14 v0 1 6 (.int (x15 + 1))).bind fun σ16 =>
  (s_fi σ16 v0 1 6).bind fun x17 =>
  (F_X1_standOn v0 (x17 - 1) σ16).bind fun q18 =>
  (s_fi q18.2 v0 1 6).bind fun x19 =>
  some ((x19 - 1), q18.2))
  else (some ((-1), σ))) := by
  unfold R_X1_addLine_0
  rw [s_run_eq]
  show s_go _ _ (T_X1_addLine_0 v0 v1 v2 v3 v4 v5 v6 σ) = _
  unfold T_X1_addLine_0
  simp only [s_go_bind, s_go_ite, s_go_sum, s_go_l, s_go_r, s_go_n]
  try rfl
theorem E_X1_addLine {v0 : Nat} {v1 : Int32} {v2 : Int32} {v3 : Int32} {v4 : Int32} {v5 : Int32} {v6 : Int32} {σ : sS} : F_X1_addLine v0 v1 v2 v3 v4 v5 v6 σ = ((s_is σ v0 1).bind fun _ => R_X1_addLine_0 v0 v1 v2 v3 v4 v5 v6 σ) := rfl
/-! X7_line -/
noncomputable def R_X7_line_0 (v0 : Nat) (v1 : Int32) (v2 : Int32) (v3 : Int32) (v4 : Int32) (v5 : Int32) (v6 : Int32) (σ : sS) : Option ((Int32 ⊕ String) × sS) := s_run (S_X7_line ) (0, [.ref v0, .int v1, .int v2, .int v3, .int v4, .int v5, .int v6], σ)
noncomputable def R_X7_line_49 (v0 : Nat) (v1 : Int32) (v2 : Int32) (v3 : Int32) (v4 : Int32) (v5 : Int32) (v6 : Int32) (σ : sS) : Option ((Int32 ⊕ String) × sS) := s_run (S_X7_line ) (49, [.ref v0, .int v1, .int v2, .int v3, .int v4, .int v5, .int v6], σ)
theorem E_X7_line_0 {v0 : Nat} {v1 : Int32} {v2 : Int32} {v3 : Int32} {v4 : Int32} {v5 : Int32} {v6 : Int32} {σ : sS} : R_X7_line_0 v0 v1 v2 v3 v4 v5 v6 σ = ((F_X7_needHouse v0 v1 σ).bind fun q1 => s_sum q1.1 (fun x2 => (F_X7_needFormula v0 v2 q1.2).bind fun q4 => s_sum q4.1 (fun x5 => if v3 < 0 then (some (.inr "java/lang/IndexOutOfBoundsException", s_ex q4.2))
  else (if v3 < 16 then (if v3 = 0 then ((F_X7_needCustomer v0 v4 q4.2).bind fun q10 => s_sum q10.1 (fun x11 => R_X7_line_49 v0 v1 v2 v3 v4 v5 v6 q10.2) (fun E12 => some (.inr E12, q10.2)))
  else ((F_X7_needPremise v0 v4 q4.2).bind fun q7 => s_sum q7.1 (fun x8 => R_X7_line_49 v0 v1 v2 v3 v4 v5 v6 q7.2) (fun E9 => some (.inr E9, q7.2))))
  else (some (.inr "java/lang/IndexOutOfBoundsException", s_ex q4.2)))) (fun E6 => some (.inr E6, q4.2))) (fun E3 => some (.inr E3, q1.2))) := by
  unfold R_X7_line_0
  rw [s_run_eq]
  show s_go _ _ (T_X7_line_0 v0 v1 v2 v3 v4 v5 v6 σ) = _
  unfold T_X7_line_0
  simp only [s_go_bind, s_go_ite, s_go_sum, s_go_l, s_go_r, s_go_n]
  try rfl
theorem E_X7_line_49 {v0 : Nat} {v1 : Int32} {v2 : Int32} {v3 : Int32} {v4 : Int32} {v5 : Int32} {v6 : Int32} {σ : sS} : R_X7_line_49 v0 v1 v2 v3 v4 v5 v6 σ = ((F_X7_needPremise v0 v5 σ).bind fun q1 => s_sum q1.1 (fun x2 => (F_X7_needPremise v0 v6 q1.2).bind fun q4 => s_sum q4.1 (fun x5 => (F_X7_areInOrder v3 v4 v5 v6 q4.2).bind fun q7 =>
  if q7.1 = 0 then (some (.inr "java/lang/IllegalArgumentException", s_ex q7.2))
  else ((s_fr q7.2 v0 7 1).bind fun x8 =>
  (s_fi q7.2 x8 1 6).bind fun x9 =>
  if x9 < 40 then ((s_fr q7.2 v0 7 1).bind fun x10 =>
  (F_X1_addLine x10 v1 v2 v3 v4 v5 v6 q7.2).bind fun q11 =>
  some (.inl q11.1, q11.2))
  else (some (.inr "java/lang/UnsupportedOperationException", s_ex q7.2)))) (fun E6 => some (.inr E6, q4.2))) (fun E3 => some (.inr E3, q1.2))) := by
  unfold R_X7_line_49
  rw [s_run_eq]
  show s_go _ _ (T_X7_line_49 v0 v1 v2 v3 v4 v5 v6 σ) = _
  unfold T_X7_line_49
  simp only [s_go_bind, s_go_ite, s_go_sum, s_go_l, s_go_r, s_go_n]
  try rfl
theorem E_X7_line {v0 : Nat} {v1 : Int32} {v2 : Int32} {v3 : Int32} {v4 : Int32} {v5 : Int32} {v6 : Int32} {σ : sS} : F_X7_line v0 v1 v2 v3 v4 v5 v6 σ = ((s_is σ v0 7).bind fun _ => R_X7_line_0 v0 v1 v2 v3 v4 v5 v6 σ) := rfl
/-! L_line -/
noncomputable def R_L_line_0 (v0 : Nat) (v1 : Int32) (v2 : Int32) (v3 : Int32) (v4 : Int32) (v5 : Int32) (v6 : Int32) (v7 : Nat) (σ : sS) : Option (Int32 × sS) := s_run (S_L_line ) (0, [.ref v0, .int v1, .int v2, .int v3, .int v4, .int v5, .int v6, .ref v7], σ)
theorem E_L_line_0 {v0 : Nat} {v1 : Int32} {v2 : Int32} {v3 : Int32} {v4 : Int32} {v5 : Int32} {v6 : Int32} {v7 : Nat} {σ : sS} : R_L_line_0 v0 v1 v2 v3 v4 v5 v6 v7 σ = ((F_X7_line v0 v1 v2 v3 v4 v5 v6 σ).bind fun q1 => s_sum q1.1 (fun x2 => (s_sl q1.2 v7 0 ((x2 : Int32).toInt64)).bind fun σ4 =>
  some (0, σ4)) (fun E3 => if E3 = "java/lang/IndexOutOfBoundsException" then (some (1, q1.2)) else if E3 = "java/lang/IllegalArgumentException" then (some (2, q1.2)) else if E3 = "java/lang/UnsupportedOperationException" then (some (3, q1.2)) else none)) := by
  unfold R_L_line_0
  rw [s_run_eq]
  show s_go _ _ (T_L_line_0 v0 v1 v2 v3 v4 v5 v6 v7 σ) = _
  unfold T_L_line_0
  simp only [s_go_bind, s_go_ite, s_go_sum, s_go_l, s_go_r, s_go_n]
  try rfl
theorem E_L_line {v0 : Nat} {v1 : Int32} {v2 : Int32} {v3 : Int32} {v4 : Int32} {v5 : Int32} {v6 : Int32} {v7 : Nat} {σ : sS} : F_L_line v0 v1 v2 v3 v4 v5 v6 v7 σ = (R_L_line_0 v0 v1 v2 v3 v4 v5 v6 v7 σ) := rfl
/-! X8_lines -/
noncomputable def R_X8_lines_0 (v0 : Nat) (σ : sS) : Option (Int32 × sS) := s_run (S_X8_lines ) (0, [.ref v0], σ)
theorem E_X8_lines_0 {v0 : Nat} {σ : sS} : R_X8_lines_0 v0 σ = ((s_fr σ v0 8 1).bind fun x1 =>
  (s_ai σ x1 2).bind fun x2 =>
  some (x2, σ)) := by
  unfold R_X8_lines_0
  rw [s_run_eq]
  show s_go _ _ (T_X8_lines_0 v0 σ) = _
  unfold T_X8_lines_0
  simp only [s_go_bind, s_go_ite, s_go_sum, s_go_l, s_go_r, s_go_n]
  try rfl
theorem E_X8_lines {v0 : Nat} {σ : sS} : F_X8_lines v0 σ = ((s_is σ v0 8).bind fun _ => R_X8_lines_0 v0 σ) := rfl
/-! X8_noLine -/
noncomputable def R_X8_noLine_0 (v0 : Nat) (v1 : Int32) (σ : sS) : Option (Int32 × sS) := s_run (S_X8_noLine ) (0, [.ref v0, .int v1], σ)
theorem E_X8_noLine_0 {v0 : Nat} {v1 : Int32} {σ : sS} : R_X8_noLine_0 v0 v1 σ = ((F_X8_lines v0 σ).bind fun q1 =>
  (F_X8_in v1 0 (q1.1 - 1) q1.2).bind fun q2 =>
  if q2.1 = 0 then (some (1, q2.2))
  else (some (0, q2.2))) := by
  unfold R_X8_noLine_0
  rw [s_run_eq]
  show s_go _ _ (T_X8_noLine_0 v0 v1 σ) = _
  unfold T_X8_noLine_0
  simp only [s_go_bind, s_go_ite, s_go_sum, s_go_l, s_go_r, s_go_n]
  try rfl
theorem E_X8_noLine {v0 : Nat} {v1 : Int32} {σ : sS} : F_X8_noLine v0 v1 σ = ((s_is σ v0 8).bind fun _ => R_X8_noLine_0 v0 v1 σ) := rfl
/-! X8_line -/
noncomputable def R_X8_line_0 (v0 : Nat) (v1 : Int32) (v2 : Int32) (v3 : Int32) (v4 : Int32) (v5 : Int32) (v6 : Int32) (σ : sS) : Option (Int32 × sS) := s_run (S_X8_line ) (0, [.ref v0, .int v1, .int v2, .int v3, .int v4, .int v5, .int v6], σ)
noncomputable def R_X8_line_14 (v0 : Nat) (v1 : Int32) (v2 : Int32) (v3 : Int32) (v4 : Int32) (v5 : Int32) (v6 : Int32) (w0 : Int32) (σ : sS) : Option (Int32 × sS) := s_run (S_X8_line ) (14, [.ref v0, .int v1, .int v2, .int v3, .int v4, .int v5, .int v6, .int w0], σ)
noncomputable def R_X8_line_54 (v0 : Nat) (v1 : Int32) (v2 : Int32) (v3 : Int32) (v4 : Int32) (v5 : Int32) (v6 : Int32) (v7 : Int32) (σ : sS) : Option (Int32 × sS) := s_run (S_X8_line ) (54, [.ref v0, .int v1, .int v2, .int v3, .int v4, .int v5, .int v6, .int v7], σ)
noncomputable def R_X8_line_74 (v0 : Nat) (v1 : Int32) (v2 : Int32) (v3 : Int32) (v4 : Int32) (v5 : Int32) (v6 : Int32) (v7 : Int32) (σ : sS) : Option (Int32 × sS) := s_run (S_X8_line ) (74, [.ref v0, .int v1, .int v2, .int v3, .int v4, .int v5, .int v6, .int v7], σ)
noncomputable def R_X8_line_89 (v0 : Nat) (v1 : Int32) (v2 : Int32) (v3 : Int32) (v4 : Int32) (v5 : Int32) (v6 : Int32) (v7 : Int32) (σ : sS) : Option (Int32 × sS) := s_run (S_X8_line ) (89, [.ref v0, .int v1, .int v2, .int v3, .int v4, .int v5, .int v6, .int v7], σ)
noncomputable def R_X8_line_104 (v0 : Nat) (v1 : Int32) (v2 : Int32) (v3 : Int32) (v4 : Int32) (v5 : Int32) (v6 : Int32) (v7 : Int32) (σ : sS) : Option (Int32 × sS) := s_run (S_X8_line ) (104, [.ref v0, .int v1, .int v2, .int v3, .int v4, .int v5, .int v6, .int v7], σ)
noncomputable def R_X8_line_108 (v0 : Nat) (v1 : Int32) (v2 : Int32) (v3 : Int32) (v4 : Int32) (v5 : Int32) (v6 : Int32) (v7 : Int32) (σ : sS) : Option (Int32 × sS) := s_run (S_X8_line ) (108, [.ref v0, .int v1, .int v2, .int v3, .int v4, .int v5, .int v6, .int v7], σ)
noncomputable def R_X8_line_109 (v0 : Nat) (v1 : Int32) (v2 : Int32) (v3 : Int32) (v4 : Int32) (v5 : Int32) (v6 : Int32) (v7 : Int32) (w0 : Int32) (σ : sS) : Option (Int32 × sS) := s_run (S_X8_line ) (109, [.ref v0, .int v1, .int v2, .int v3, .int v4, .int v5, .int v6, .int v7, .int w0], σ)
noncomputable def R_X8_line_139 (v0 : Nat) (v1 : Int32) (v2 : Int32) (v3 : Int32) (v4 : Int32) (v5 : Int32) (v6 : Int32) (v7 : Int32) (w0 : Nat) (σ : sS) : Option (Int32 × sS) := s_run (S_X8_line ) (139, [.ref v0, .int v1, .int v2, .int v3, .int v4, .int v5, .int v6, .int v7, .ref w0], σ)
noncomputable def R_X8_line_151 (v0 : Nat) (v1 : Int32) (v2 : Int32) (v3 : Int32) (v4 : Int32) (v5 : Int32) (v6 : Int32) (v7 : Int32) (w0 : Nat) (σ : sS) : Option (Int32 × sS) := s_run (S_X8_line ) (151, [.ref v0, .int v1, .int v2, .int v3, .int v4, .int v5, .int v6, .int v7, .ref w0], σ)
noncomputable def R_X8_line_168 (v0 : Nat) (v1 : Int32) (v2 : Int32) (v3 : Int32) (v4 : Int32) (v5 : Int32) (v6 : Int32) (w0 : Nat) (σ : sS) : Option (Int32 × sS) := s_run (S_X8_line ) (168, [.ref v0, .int v1, .int v2, .int v3, .int v4, .int v5, .int v6, .ref w0], σ)
noncomputable def R_X8_line_172 (v0 : Nat) (v1 : Int32) (v2 : Int32) (v3 : Int32) (v4 : Int32) (v5 : Int32) (v6 : Int32) (w0 : Nat) (σ : sS) : Option (Int32 × sS) := s_run (S_X8_line ) (172, [.ref v0, .int v1, .int v2, .int v3, .int v4, .int v5, .int v6, .ref w0], σ)
noncomputable def R_X8_line_173 (v0 : Nat) (v1 : Int32) (v2 : Int32) (v3 : Int32) (v4 : Int32) (v5 : Int32) (v6 : Int32) (w0 : Int32) (w1 : Nat) (σ : sS) : Option (Int32 × sS) := s_run (S_X8_line ) (173, [.ref v0, .int v1, .int v2, .int v3, .int v4, .int v5, .int v6, .int w0, .ref w1], σ)
noncomputable def R_X8_line_195 (v0 : Nat) (v1 : Int32) (v2 : Int32) (v3 : Int32) (v4 : Int32) (v5 : Int32) (v6 : Int32) (w0 : Int32) (w1 : Nat) (σ : sS) : Option (Int32 × sS) := s_run (S_X8_line ) (195, [.ref v0, .int v1, .int v2, .int v3, .int v4, .int v5, .int v6, .int w0, .ref w1], σ)
theorem E_X8_line_0 {v0 : Nat} {v1 : Int32} {v2 : Int32} {v3 : Int32} {v4 : Int32} {v5 : Int32} {v6 : Int32} {σ : sS} : R_X8_line_0 v0 v1 v2 v3 v4 v5 v6 σ = ((s_pf σ v0 8 0 (.int 0)).bind fun σ1 =>
  if v3 = 0 then (R_X8_line_14 v0 v1 v2 v3 v4 v5 v6 1 σ1)
  else (R_X8_line_14 v0 v1 v2 v3 v4 v5 v6 0 σ1)) := by
  unfold R_X8_line_0
  rw [s_run_eq]
  show s_go _ _ (T_X8_line_0 v0 v1 v2 v3 v4 v5 v6 σ) = _
  unfold T_X8_line_0
  simp only [s_go_bind, s_go_ite, s_go_sum, s_go_l, s_go_r, s_go_n]
  try rfl
theorem E_X8_line_14 {v0 : Nat} {v1 : Int32} {v2 : Int32} {v3 : Int32} {v4 : Int32} {v5 : Int32} {v6 : Int32} {w0 : Int32} {σ : sS} : R_X8_line_14 v0 v1 v2 v3 v4 v5 v6 w0 σ = ((F_X8_noHouse v1 σ).bind fun q1 =>
  if q1.1 = 0 then ((F_X8_noFormula v0 v2 q1.2).bind fun q2 =>
  if q2.1 = 0 then ((F_X8_in v3 0 15 q2.2).bind fun q3 =>
  if q3.1 = 0 then (R_X8_line_104 v0 v1 v2 v3 v4 v5 v6 w0 q3.2)
  else (if w0 = 0 then (R_X8_line_54 v0 v1 v2 v3 v4 v5 v6 w0 q3.2)
  else ((F_X8_noCustomer v4 q3.2).bind fun q4 =>
  if q4.1 = 0 then (R_X8_line_54 v0 v1 v2 v3 v4 v5 v6 w0 q4.2)
  else (R_X8_line_104 v0 v1 v2 v3 v4 v5 v6 w0 q4.2))))
  else (R_X8_line_104 v0 v1 v2 v3 v4 v5 v6 w0 q2.2))
  else (R_X8_line_104 v0 v1 v2 v3 v4 v5 v6 w0 q1.2)) := by
  unfold R_X8_line_14
  rw [s_run_eq]
  show s_go _ _ (T_X8_line_14 v0 v1 v2 v3 v4 v5 v6 w0 σ) = _
  unfold T_X8_line_14
  simp only [s_go_bind, s_go_ite, s_go_sum, s_go_l, s_go_r, s_go_n]
  try rfl
theorem E_X8_line_54 {v0 : Nat} {v1 : Int32} {v2 : Int32} {v3 : Int32} {v4 : Int32} {v5 : Int32} {v6 : Int32} {v7 : Int32} {σ : sS} : R_X8_line_54 v0 v1 v2 v3 v4 v5 v6 v7 σ = (if v7 = 0 then (if v4 = (-1) then (R_X8_line_74 v0 v1 v2 v3 v4 v5 v6 v7 σ)
  else ((F_X8_noLine v0 v4 σ).bind fun q1 =>
  if q1.1 = 0 then (R_X8_line_74 v0 v1 v2 v3 v4 v5 v6 v7 q1.2)
  else (R_X8_line_104 v0 v1 v2 v3 v4 v5 v6 v7 q1.2)))
  else (R_X8_line_74 v0 v1 v2 v3 v4 v5 v6 v7 σ)) := by
  unfold R_X8_line_54
  rw [s_run_eq]
  show s_go _ _ (T_X8_line_54 v0 v1 v2 v3 v4 v5 v6 v7 σ) = _
  unfold T_X8_line_54
  simp only [s_go_bind, s_go_ite, s_go_sum, s_go_l, s_go_r, s_go_n]
  try rfl
theorem E_X8_line_74 {v0 : Nat} {v1 : Int32} {v2 : Int32} {v3 : Int32} {v4 : Int32} {v5 : Int32} {v6 : Int32} {v7 : Int32} {σ : sS} : R_X8_line_74 v0 v1 v2 v3 v4 v5 v6 v7 σ = (if v5 = (-1) then (R_X8_line_89 v0 v1 v2 v3 v4 v5 v6 v7 σ)
  else ((F_X8_noLine v0 v5 σ).bind fun q1 =>
  if q1.1 = 0 then (R_X8_line_89 v0 v1 v2 v3 v4 v5 v6 v7 q1.2)
  else (R_X8_line_104 v0 v1 v2 v3 v4 v5 v6 v7 q1.2))) := by
  unfold R_X8_line_74
  rw [s_run_eq]
  show s_go _ _ (T_X8_line_74 v0 v1 v2 v3 v4 v5 v6 v7 σ) = _
  unfold T_X8_line_74
  simp only [s_go_bind, s_go_ite, s_go_sum, s_go_l, s_go_r, s_go_n]
  try rfl
theorem E_X8_line_89 {v0 : Nat} {v1 : Int32} {v2 : Int32} {v3 : Int32} {v4 : Int32} {v5 : Int32} {v6 : Int32} {v7 : Int32} {σ : sS} : R_X8_line_89 v0 v1 v2 v3 v4 v5 v6 v7 σ = (if v6 = (-1) then (R_X8_line_108 v0 v1 v2 v3 v4 v5 v6 v7 σ)
  else ((F_X8_noLine v0 v6 σ).bind fun q1 =>
  if q1.1 = 0 then (R_X8_line_108 v0 v1 v2 v3 v4 v5 v6 v7 q1.2)
  else (R_X8_line_104 v0 v1 v2 v3 v4 v5 v6 v7 q1.2))) := by
  unfold R_X8_line_89
  rw [s_run_eq]
  show s_go _ _ (T_X8_line_89 v0 v1 v2 v3 v4 v5 v6 v7 σ) = _
  unfold T_X8_line_89
  simp only [s_go_bind, s_go_ite, s_go_sum, s_go_l, s_go_r, s_go_n]
  try rfl
theorem E_X8_line_104 {v0 : Nat} {v1 : Int32} {v2 : Int32} {v3 : Int32} {v4 : Int32} {v5 : Int32} {v6 : Int32} {v7 : Int32} {σ : sS} : R_X8_line_104 v0 v1 v2 v3 v4 v5 v6 v7 σ = (R_X8_line_109 v0 v1 v2 v3 v4 v5 v6 v7 1 σ) := by
  unfold R_X8_line_104
  rw [s_run_eq]
  show s_go _ _ (T_X8_line_104 v0 v1 v2 v3 v4 v5 v6 v7 σ) = _
  unfold T_X8_line_104
  simp only [s_go_bind, s_go_ite, s_go_sum, s_go_l, s_go_r, s_go_n]
  try rfl
theorem E_X8_line_108 {v0 : Nat} {v1 : Int32} {v2 : Int32} {v3 : Int32} {v4 : Int32} {v5 : Int32} {v6 : Int32} {v7 : Int32} {σ : sS} : R_X8_line_108 v0 v1 v2 v3 v4 v5 v6 v7 σ = (R_X8_line_109 v0 v1 v2 v3 v4 v5 v6 v7 0 σ) := by
  unfold R_X8_line_108
  rw [s_run_eq]
  show s_go _ _ (T_X8_line_108 v0 v1 v2 v3 v4 v5 v6 v7 σ) = _
  unfold T_X8_line_108
  simp only [s_go_bind, s_go_ite, s_go_sum, s_go_l, s_go_r, s_go_n]
  try rfl
theorem E_X8_line_109 {v0 : Nat} {v1 : Int32} {v2 : Int32} {v3 : Int32} {v4 : Int32} {v5 : Int32} {v6 : Int32} {v7 : Int32} {w0 : Int32} {σ : sS} : R_X8_line_109 v0 v1 v2 v3 v4 v5 v6 v7 w0 σ = ((F_X8_throwsIf v0 w0 1 σ).bind fun q1 =>
  if q1.1 = 0 then (if v7 = 0 then (if v4 = (-1) then (if v5 = (-1) then (R_X8_line_139 v0 v1 v2 v3 v4 v5 v6 v7 v0 q1.2)
  else (R_X8_line_168 v0 v1 v2 v3 v4 v5 v6 v0 q1.2))
  else (R_X8_line_139 v0 v1 v2 v3 v4 v5 v6 v7 v0 q1.2))
  else (R_X8_line_139 v0 v1 v2 v3 v4 v5 v6 v7 v0 q1.2))
  else (some (0, q1.2))) := by
  unfold R_X8_line_109
  rw [s_run_eq]
  show s_go _ _ (T_X8_line_109 v0 v1 v2 v3 v4 v5 v6 v7 w0 σ) = _
  unfold T_X8_line_109
  simp only [s_go_bind, s_go_ite, s_go_sum, s_go_l, s_go_r, s_go_n]
  try rfl
theorem E_X8_line_139 {v0 : Nat} {v1 : Int32} {v2 : Int32} {v3 : Int32} {v4 : Int32} {v5 : Int32} {v6 : Int32} {v7 : Int32} {w0 : Nat} {σ : sS} : R_X8_line_139 v0 v1 v2 v3 v4 v5 v6 v7 w0 σ = (if v5 = (-1) then (if v6 = (-1) then (R_X8_line_151 v0 v1 v2 v3 v4 v5 v6 v7 w0 σ)
  else (R_X8_line_168 v0 v1 v2 v3 v4 v5 v6 w0 σ))
  else (R_X8_line_151 v0 v1 v2 v3 v4 v5 v6 v7 w0 σ)) := by
  unfold R_X8_line_139
  rw [s_run_eq]
  show s_go _ _ (T_X8_line_139 v0 v1 v2 v3 v4 v5 v6 v7 w0 σ) = _
  unfold T_X8_line_139
  simp only [s_go_bind, s_go_ite, s_go_sum, s_go_l, s_go_r, s_go_n]
  try rfl
theorem E_X8_line_151 {v0 : Nat} {v1 : Int32} {v2 : Int32} {v3 : Int32} {v4 : Int32} {v5 : Int32} {v6 : Int32} {v7 : Int32} {w0 : Nat} {σ : sS} : R_X8_line_151 v0 v1 v2 v3 v4 v5 v6 v7 w0 σ = (if v7 = 0 then (R_X8_line_172 v0 v1 v2 v3 v4 v5 v6 w0 σ)
  else (if v5 = (-1) then (if v6 = (-1) then (R_X8_line_172 v0 v1 v2 v3 v4 v5 v6 w0 σ)
  else (R_X8_line_168 v0 v1 v2 v3 v4 v5 v6 w0 σ))
  else (R_X8_line_168 v0 v1 v2 v3 v4 v5 v6 w0 σ))) := by
  unfold R_X8_line_151
  rw [s_run_eq]
  show s_go _ _ (T_X8_line_151 v0 v1 v2 v3 v4 v5 v6 v7 w0 σ) = _
  unfold T_X8_line_151
  simp only [s_go_bind, s_go_ite, s_go_sum, s_go_l, s_go_r, s_go_n]
  try rfl
theorem E_X8_line_168 {v0 : Nat} {v1 : Int32} {v2 : Int32} {v3 : Int32} {v4 : Int32} {v5 : Int32} {v6 : Int32} {w0 : Nat} {σ : sS} : R_X8_line_168 v0 v1 v2 v3 v4 v5 v6 w0 σ = (R_X8_line_173 v0 v1 v2 v3 v4 v5 v6 1 w0 σ) := by
  unfold R_X8_line_168
  rw [s_run_eq]
  show s_go _ _ (T_X8_line_168 v0 v1 v2 v3 v4 v5 v6 w0 σ) = _
  unfold T_X8_line_168
  simp only [s_go_bind, s_go_ite, s_go_sum, s_go_l, s_go_r, s_go_n]
  try rfl
theorem E_X8_line_172 {v0 : Nat} {v1 : Int32} {v2 : Int32} {v3 : Int32} {v4 : Int32} {v5 : Int32} {v6 : Int32} {w0 : Nat} {σ : sS} : R_X8_line_172 v0 v1 v2 v3 v4 v5 v6 w0 σ = (R_X8_line_173 v0 v1 v2 v3 v4 v5 v6 0 w0 σ) := by
  unfold R_X8_line_172
  rw [s_run_eq]
  show s_go _ _ (T_X8_line_172 v0 v1 v2 v3 v4 v5 v6 w0 σ) = _
  unfold T_X8_line_172
  simp only [s_go_bind, s_go_ite, s_go_sum, s_go_l, s_go_r, s_go_n]
  try rfl
theorem E_X8_line_173 {v0 : Nat} {v1 : Int32} {v2 : Int32} {v3 : Int32} {v4 : Int32} {v5 : Int32} {v6 : Int32} {w0 : Int32} {w1 : Nat} {σ : sS} : R_X8_line_173 v0 v1 v2 v3 v4 v5 v6 w0 w1 σ = ((F_X8_throwsIf w1 w0 2 σ).bind fun q1 =>
  if q1.1 = 0 then ((F_X8_lines v0 q1.2).bind fun q2 =>
  if q2.1 = 40 then (R_X8_line_195 v0 v1 v2 v3 v4 v5 v6 1 v0 q2.2)
  else (R_X8_line_195 v0 v1 v2 v3 v4 v5 v6 0 v0 q2.2))
  else (some (0, q1.2))) := by
  unfold R_X8_line_173
  rw [s_run_eq]
  show s_go _ _ (T_X8_line_173 v0 v1 v2 v3 v4 v5 v6 w0 w1 σ) = _
  unfold T_X8_line_173
  simp only [s_go_bind, s_go_ite, s_go_sum, s_go_l, s_go_r, s_go_n]
  try rfl
theorem E_X8_line_195 {v0 : Nat} {v1 : Int32} {v2 : Int32} {v3 : Int32} {v4 : Int32} {v5 : Int32} {v6 : Int32} {w0 : Int32} {w1 : Nat} {σ : sS} : R_X8_line_195 v0 v1 v2 v3 v4 v5 v6 w0 w1 σ = ((F_X8_throwsIf w1 w0 3 σ).bind fun q1 =>
  if q1.1 = 0 then ((F_X8_lines v0 q1.2).bind fun q2 =>
  (s_fr q2.2 v0 8 1).bind fun x3 =>
  (s_si q2.2 x3 (1292 + (6 * q2.1)) v1).bind fun σ4 =>
  (s_fr σ4 v0 8 1).bind fun x5 =>
  (s_si σ4 x5 ((1292 + (6 * q2.1)) + 1) v2).bind fun σ6 =>
  (s_fr σ6 v0 8 1).bind fun x7 =>
  (s_si σ6 x7 ((1292 + (6 * q2.1)) + 2) v3).bind fun σ8 =>
  (s_fr σ8 v0 8 1).bind fun x9 =>
  (s_si σ8 x9 ((1292 + (6 * q2.1)) + 3) v4).bind fun σ10 =>
  (s_fr σ10 v0 8 1).bind fun x11 =>
  (s_si σ10 x11 ((1292 + (6 * q2.1)) + 4) v5).bind fun σ12 =>
  (s_fr σ12 v0 8 1).bind fun x13 =>
  (s_si σ12 x13 ((1292 + (6 * q2.1)) + 5) v6).bind fun σ14 =>
  (s_fr σ14 v0 8 1).bind fun x15 =>
  (s_ai σ14 x15 2).bind fun x16 =>
  (s_si σ14 x15 2 (x16 + 1)).bind fun σ17 =>
  (F_X8_lines v0 σ17).bind fun q18 =>
  some ((q18.1 - 1), q18.2))
  else (some (0, q1.2))) := by
  unfold R_X8_line_195
  rw [s_run_eq]
  show s_go _ _ (T_X8_line_195 v0 v1 v2 v3 v4 v5 v6 w0 w1 σ) = _
  unfold T_X8_line_195
  simp only [s_go_bind, s_go_ite, s_go_sum, s_go_l, s_go_r, s_go_n]
  try rfl
theorem E_X8_line {v0 : Nat} {v1 : Int32} {v2 : Int32} {v3 : Int32} {v4 : Int32} {v5 : Int32} {v6 : Int32} {σ : sS} : F_X8_line v0 v1 v2 v3 v4 v5 v6 σ = ((s_is σ v0 8).bind fun _ => R_X8_line_0 v0 v1 v2 v3 v4 v5 v6 σ) := rfl
/-! X0_costOf -/
noncomputable def R_X0_costOf_0 (v0 : Nat) (v1 : Int32) (σ : sS) : Option (Int32 × sS) := s_run (S_X0_costOf ) (0, [.ref v0, .int v1], σ)
theorem E_X0_costOf_0 {v0 : Nat} {v1 : Int32} {σ : sS} : R_X0_costOf_0 v0 v1 σ = ((s_fr σ v0 0 4).bind fun x1 =>
  (s_fr σ v0 0 5).bind fun x2 =>
  (F_X1_nodeOfLine x2 v1 σ).bind fun q3 =>
  (F_X2_signsOf x1 q3.1 q3.2).bind fun q4 =>
  (s_fr q4.2 v0 0 5).bind fun x5 =>
  (s_fr q4.2 v0 0 5).bind fun x6 =>
  (F_X1_ofLine x6 v1 0 q4.2).bind fun q7 =>
  (s_fr q7.2 v0 0 5).bind fun x8 =>
  (F_X1_ofLine x8 v1 2 q7.2).bind fun q9 =>
  (F_X1_costOf x5 q7.1 q9.1 q4.1 q9.2).bind fun q10 =>
  some (q10.1, q10.2)) := by
  unfold R_X0_costOf_0
  rw [s_run_eq]
  show s_go _ _ (T_X0_costOf_0 v0 v1 σ) = _
  unfold T_X0_costOf_0
  simp only [s_go_bind, s_go_ite, s_go_sum, s_go_l, s_go_r, s_go_n]
  try rfl
theorem E_X0_costOf {v0 : Nat} {v1 : Int32} {σ : sS} : F_X0_costOf v0 v1 σ = ((s_is σ v0 0).bind fun _ => R_X0_costOf_0 v0 v1 σ) := rfl
/-! X7_look -/
noncomputable def R_X7_look_0 (v0 : Nat) (v1 : Int32) (v2 : Int32) (σ : sS) : Option ((Int32 ⊕ String) × sS) := s_run (S_X7_look ) (0, [.ref v0, .int v1, .int v2], σ)
theorem E_X7_look_0 {v0 : Nat} {v1 : Int32} {v2 : Int32} {σ : sS} : R_X7_look_0 v0 v1 v2 σ = ((F_X7_needLine v0 v1 σ).bind fun q1 => s_sum q1.1 (fun x2 => if v2 < 0 then (some (.inr "java/util/NoSuchElementException", s_ex q1.2))
  else (if v2 ≤ 6 then (if v2 = 6 then ((s_fr q1.2 v0 7 5).bind fun x6 =>
  (F_X0_costOf x6 v1 q1.2).bind fun q7 =>
  some (.inl q7.1, q7.2))
  else ((s_fr q1.2 v0 7 1).bind fun x4 =>
  (F_X1_ofLine x4 v1 v2 q1.2).bind fun q5 =>
  some (.inl q5.1, q5.2)))
  else (some (.inr "java/util/NoSuchElementException", s_ex q1.2)))) (fun E3 => some (.inr E3, q1.2))) := by
  unfold R_X7_look_0
  rw [s_run_eq]
  show s_go _ _ (T_X7_look_0 v0 v1 v2 σ) = _
  unfold T_X7_look_0
  simp only [s_go_bind, s_go_ite, s_go_sum, s_go_l, s_go_r, s_go_n]
  try rfl
theorem E_X7_look {v0 : Nat} {v1 : Int32} {v2 : Int32} {σ : sS} : F_X7_look v0 v1 v2 σ = ((s_is σ v0 7).bind fun _ => R_X7_look_0 v0 v1 v2 σ) := rfl
/-! L_look -/
noncomputable def R_L_look_0 (v0 : Nat) (v1 : Int32) (v2 : Int32) (v3 : Nat) (σ : sS) : Option (Int32 × sS) := s_run (S_L_look ) (0, [.ref v0, .int v1, .int v2, .ref v3], σ)
theorem E_L_look_0 {v0 : Nat} {v1 : Int32} {v2 : Int32} {v3 : Nat} {σ : sS} : R_L_look_0 v0 v1 v2 v3 σ = ((F_X7_look v0 v1 v2 σ).bind fun q1 => s_sum q1.1 (fun x2 => (s_sl q1.2 v3 0 ((x2 : Int32).toInt64)).bind fun σ4 =>
  some (0, σ4)) (fun E3 => if E3 = "java/lang/IndexOutOfBoundsException" then (some (1, q1.2)) else if E3 = "java/util/NoSuchElementException" then (some (2, q1.2)) else none)) := by
  unfold R_L_look_0
  rw [s_run_eq]
  show s_go _ _ (T_L_look_0 v0 v1 v2 v3 σ) = _
  unfold T_L_look_0
  simp only [s_go_bind, s_go_ite, s_go_sum, s_go_l, s_go_r, s_go_n]
  try rfl
theorem E_L_look {v0 : Nat} {v1 : Int32} {v2 : Int32} {v3 : Nat} {σ : sS} : F_L_look v0 v1 v2 v3 σ = (R_L_look_0 v0 v1 v2 v3 σ) := rfl
/-! X8_ofLine -/
noncomputable def R_X8_ofLine_0 (v0 : Nat) (v1 : Int32) (v2 : Int32) (σ : sS) : Option (Int32 × sS) := s_run (S_X8_ofLine ) (0, [.ref v0, .int v1, .int v2], σ)
theorem E_X8_ofLine_0 {v0 : Nat} {v1 : Int32} {v2 : Int32} {σ : sS} : R_X8_ofLine_0 v0 v1 v2 σ = ((s_fr σ v0 8 1).bind fun x1 =>
  (s_ai σ x1 ((1292 + (6 * v1)) + v2)).bind fun x2 =>
  some (x2, σ)) := by
  unfold R_X8_ofLine_0
  rw [s_run_eq]
  show s_go _ _ (T_X8_ofLine_0 v0 v1 v2 σ) = _
  unfold T_X8_ofLine_0
  simp only [s_go_bind, s_go_ite, s_go_sum, s_go_l, s_go_r, s_go_n]
  try rfl
theorem E_X8_ofLine {v0 : Nat} {v1 : Int32} {v2 : Int32} {σ : sS} : F_X8_ofLine v0 v1 v2 σ = ((s_is σ v0 8).bind fun _ => R_X8_ofLine_0 v0 v1 v2 σ) := rfl
/-! X8_costOf -/
noncomputable def R_X8_costOf_0 (v0 : Nat) (v1 : Int32) (v2 : Int32) (v3 : Int32) (σ : sS) : Option (Int32 × sS) := s_run (S_X8_costOf ) (0, [.ref v0, .int v1, .int v2, .int v3], σ)
theorem E_X8_costOf_0 {v0 : Nat} {v1 : Int32} {v2 : Int32} {v3 : Int32} {σ : sS} : R_X8_costOf_0 v0 v1 v2 v3 σ = ((s_fr σ v0 8 1).bind fun x1 =>
  (s_ai σ x1 (((4 + (18 * v1)) + 1) + v2)).bind fun x2 =>
  (s_fr σ v0 8 4).bind fun x3 =>
  (s_ai σ x3 v3).bind fun x4 =>
  (s_fr σ v0 8 1).bind fun x5 =>
  (s_ai σ x5 (((4 + (18 * v1)) + 1) + 16)).bind fun x6 =>
  some ((x2 + (x4 * x6)), σ)) := by
  unfold R_X8_costOf_0
  rw [s_run_eq]
  show s_go _ _ (T_X8_costOf_0 v0 v1 v2 v3 σ) = _
  unfold T_X8_costOf_0
  simp only [s_go_bind, s_go_ite, s_go_sum, s_go_l, s_go_r, s_go_n]
  try rfl
theorem E_X8_costOf {v0 : Nat} {v1 : Int32} {v2 : Int32} {v3 : Int32} {σ : sS} : F_X8_costOf v0 v1 v2 v3 σ = ((s_is σ v0 8).bind fun _ => R_X8_costOf_0 v0 v1 v2 v3 σ) := rfl
/-! X8_priceOf -/
noncomputable def R_X8_priceOf_0 (v0 : Nat) (v1 : Int32) (σ : sS) : Option (Int32 × sS) := s_run (S_X8_priceOf ) (0, [.ref v0, .int v1], σ)
theorem E_X8_priceOf_0 {v0 : Nat} {v1 : Int32} {σ : sS} : R_X8_priceOf_0 v0 v1 σ = ((F_X8_ofLine v0 v1 0 σ).bind fun q1 =>
  (F_X8_ofLine v0 v1 2 q1.2).bind fun q2 =>
  (F_X8_ofLine v0 v1 1 q2.2).bind fun q3 =>
  (F_X8_costOf v0 q1.1 q2.1 q3.1 q3.2).bind fun q4 =>
  some (q4.1, q4.2)) := by
  unfold R_X8_priceOf_0
  rw [s_run_eq]
  show s_go _ _ (T_X8_priceOf_0 v0 v1 σ) = _
  unfold T_X8_priceOf_0
  simp only [s_go_bind, s_go_ite, s_go_sum, s_go_l, s_go_r, s_go_n]
  try rfl
theorem E_X8_priceOf {v0 : Nat} {v1 : Int32} {σ : sS} : F_X8_priceOf v0 v1 σ = ((s_is σ v0 8).bind fun _ => R_X8_priceOf_0 v0 v1 σ) := rfl
/-! X8_look -/
noncomputable def R_X8_look_0 (v0 : Nat) (v1 : Int32) (v2 : Int32) (σ : sS) : Option (Int32 × sS) := s_run (S_X8_look ) (0, [.ref v0, .int v1, .int v2], σ)
noncomputable def R_X8_look_34 (v0 : Nat) (v1 : Int32) (v2 : Int32) (w0 : Int32) (w1 : Nat) (σ : sS) : Option (Int32 × sS) := s_run (S_X8_look ) (34, [.ref v0, .int v1, .int v2, .int w0, .ref w1], σ)
theorem E_X8_look_0 {v0 : Nat} {v1 : Int32} {v2 : Int32} {σ : sS} : R_X8_look_0 v0 v1 v2 σ = ((s_pf σ v0 8 0 (.int 0)).bind fun σ1 =>
  (F_X8_noLine v0 v1 σ1).bind fun q2 =>
  (F_X8_throwsIf v0 q2.1 1 q2.2).bind fun q3 =>
  if q3.1 = 0 then ((F_X8_in v2 0 6 q3.2).bind fun q4 =>
  if q4.1 = 0 then (R_X8_look_34 v0 v1 v2 1 v0 q4.2)
  else (R_X8_look_34 v0 v1 v2 0 v0 q4.2))
  else (some (0, q3.2))) := by
  unfold R_X8_look_0
  rw [s_run_eq]
  show s_go _ _ (T_X8_look_0 v0 v1 v2 σ) = _
  unfold T_X8_look_0
  simp only [s_go_bind, s_go_ite, s_go_sum, s_go_l, s_go_r, s_go_n]
  try rfl
theorem E_X8_look_34 {v0 : Nat} {v1 : Int32} {v2 : Int32} {w0 : Int32} {w1 : Nat} {σ : sS} : R_X8_look_34 v0 v1 v2 w0 w1 σ = ((F_X8_throwsIf w1 w0 2 σ).bind fun q1 =>
  if q1.1 = 0 then (if v2 = 6 then ((F_X8_priceOf v0 v1 q1.2).bind fun q3 =>
  some (q3.1, q3.2))
  else ((F_X8_ofLine v0 v1 v2 q1.2).bind fun q2 =>
  some (q2.1, q2.2)))
  else (some (0, q1.2))) := by
  unfold R_X8_look_34
  rw [s_run_eq]
  show s_go _ _ (T_X8_look_34 v0 v1 v2 w0 w1 σ) = _
  unfold T_X8_look_34
  simp only [s_go_bind, s_go_ite, s_go_sum, s_go_l, s_go_r, s_go_n]
  try rfl
theorem E_X8_look {v0 : Nat} {v1 : Int32} {v2 : Int32} {σ : sS} : F_X8_look v0 v1 v2 σ = ((s_is σ v0 8).bind fun _ => R_X8_look_0 v0 v1 v2 σ) := rfl
/-! X8_hasRule -/
noncomputable def R_X8_hasRule_0 (v0 : Nat) (v1 : Int32) (v2 : Int32) (σ : sS) : Option (Int32 × sS) := s_run (S_X8_hasRule ) (0, [.ref v0, .int v1, .int v2], σ)
theorem E_X8_hasRule_0 {v0 : Nat} {v1 : Int32} {v2 : Int32} {σ : sS} : R_X8_hasRule_0 v0 v1 v2 σ = ((s_fr σ v0 8 1).bind fun x1 =>
  (s_ai σ x1 (4 + (18 * v1))).bind fun x2 =>
  if ((x2 >>> (v2 &&& 31)) &&& 1) = 1 then (some (1, σ))
  else (some (0, σ))) := by
  unfold R_X8_hasRule_0
  rw [s_run_eq]
  show s_go _ _ (T_X8_hasRule_0 v0 v1 v2 σ) = _
  unfold T_X8_hasRule_0
  simp only [s_go_bind, s_go_ite, s_go_sum, s_go_l, s_go_r, s_go_n]
  try rfl
theorem E_X8_hasRule {v0 : Nat} {v1 : Int32} {v2 : Int32} {σ : sS} : F_X8_hasRule v0 v1 v2 σ = ((s_is σ v0 8).bind fun _ => R_X8_hasRule_0 v0 v1 v2 σ) := rfl
/-! X8_premise -/
noncomputable def R_X8_premise_0 (v0 : Nat) (v1 : Int32) (v2 : Int32) (σ : sS) : Option (Int32 × sS) := s_run (S_X8_premise ) (0, [.ref v0, .int v1, .int v2], σ)
theorem E_X8_premise_0 {v0 : Nat} {v1 : Int32} {v2 : Int32} {σ : sS} : R_X8_premise_0 v0 v1 v2 σ = ((F_X8_ofLine v0 v1 2 σ).bind fun q1 =>
  if q1.1 = 0 then (some ((-1), q1.2))
  else ((F_X8_ofLine v0 v1 (3 + v2) q1.2).bind fun q2 =>
  some (q2.1, q2.2))) := by
  unfold R_X8_premise_0
  rw [s_run_eq]
  show s_go _ _ (T_X8_premise_0 v0 v1 v2 σ) = _
  unfold T_X8_premise_0
  simp only [s_go_bind, s_go_ite, s_go_sum, s_go_l, s_go_r, s_go_n]
  try rfl
theorem E_X8_premise {v0 : Nat} {v1 : Int32} {v2 : Int32} {σ : sS} : F_X8_premise v0 v1 v2 σ = ((s_is σ v0 8).bind fun _ => R_X8_premise_0 v0 v1 v2 σ) := rfl
/-! X8_premises -/
noncomputable def R_X8_premises_0 (v0 : Nat) (v1 : Int32) (σ : sS) : Option (Int32 × sS) := s_run (S_X8_premises ) (0, [.ref v0, .int v1], σ)
noncomputable def R_X8_premises_2 (v0 : Nat) (v1 : Int32) (v2 : Int32) (σ : sS) : Option (Int32 × sS) := s_run (S_X8_premises ) (2, [.ref v0, .int v1, .int v2], σ)
theorem E_X8_premises_0 {v0 : Nat} {v1 : Int32} {σ : sS} : R_X8_premises_0 v0 v1 σ = (R_X8_premises_2 v0 v1 0 σ) := by
  unfold R_X8_premises_0
  rw [s_run_eq]
  show s_go _ _ (T_X8_premises_0 v0 v1 σ) = _
  unfold T_X8_premises_0
  simp only [s_go_bind, s_go_ite, s_go_sum, s_go_l, s_go_r, s_go_n]
  try rfl
theorem E_X8_premises_2 {v0 : Nat} {v1 : Int32} {v2 : Int32} {σ : sS} : R_X8_premises_2 v0 v1 v2 σ = (if (3 : Int32) ≤ v2 then (some (v2, σ))
  else ((F_X8_premise v0 v1 v2 σ).bind fun q1 =>
  if q1.1 < 0 then (some (v2, q1.2))
  else (R_X8_premises_2 v0 v1 (v2 + 1) q1.2))) := by
  unfold R_X8_premises_2
  rw [s_run_eq]
  show s_go _ _ (T_X8_premises_2 v0 v1 v2 σ) = _
  unfold T_X8_premises_2
  simp only [s_go_bind, s_go_ite, s_go_sum, s_go_l, s_go_r, s_go_n]
  try rfl
theorem E_X8_premises {v0 : Nat} {v1 : Int32} {σ : sS} : F_X8_premises v0 v1 σ = ((s_is σ v0 8).bind fun _ => R_X8_premises_0 v0 v1 σ) := rfl
/-! X8_asked -/
noncomputable def R_X8_asked_0 (v0 : Nat) (v1 : Int32) (σ : sS) : Option (Int32 × sS) := s_run (S_X8_asked ) (0, [.ref v0, .int v1], σ)
theorem E_X8_asked_0 {v0 : Nat} {v1 : Int32} {σ : sS} : R_X8_asked_0 v0 v1 σ = (if (2 : Int32) ≤ v1 then (if v1 = 2 then (some (2, σ))
  else (if v1 = 7 then (some (2, σ))
  else (if v1 = 10 then (some (2, σ))
  else (if v1 = 14 then (some (2, σ))
  else (if v1 = 9 then (some (3, σ))
  else (if v1 = 12 then ((F_X8_d v0 σ).bind fun q1 =>
  some (q1.1, q1.2))
  else (some (1, σ))))))))
  else (some (0, σ))) := by
  unfold R_X8_asked_0
  rw [s_run_eq]
  show s_go _ _ (T_X8_asked_0 v0 v1 σ) = _
  unfold T_X8_asked_0
  simp only [s_go_bind, s_go_ite, s_go_sum, s_go_l, s_go_r, s_go_n]
  try rfl
theorem E_X8_asked {v0 : Nat} {v1 : Int32} {σ : sS} : F_X8_asked v0 v1 σ = ((s_is σ v0 8).bind fun _ => R_X8_asked_0 v0 v1 σ) := rfl
/-! X8_isAmong -/
noncomputable def R_X8_isAmong_0 (v0 : Nat) (v1 : Int32) (v2 : Int32) (σ : sS) : Option (Int32 × sS) := s_run (S_X8_isAmong ) (0, [.ref v0, .int v1, .int v2], σ)
noncomputable def R_X8_isAmong_5 (v0 : Nat) (v1 : Int32) (v2 : Int32) (v3 : Int32) (v4 : Int32) (σ : sS) : Option (Int32 × sS) := s_run (S_X8_isAmong ) (5, [.ref v0, .int v1, .int v2, .int v3, .int v4], σ)
noncomputable def R_X8_isAmong_42 (v0 : Nat) (v1 : Int32) (v2 : Int32) (v4 : Int32) (σ : sS) : Option (Int32 × sS) := s_run (S_X8_isAmong ) (42, [.ref v0, .int v1, .int v2, .int v4], σ)
noncomputable def R_X8_isAmong_43 (v0 : Nat) (v1 : Int32) (v2 : Int32) (v4 : Int32) (w0 : Int32) (σ : sS) : Option (Int32 × sS) := s_run (S_X8_isAmong ) (43, [.ref v0, .int v1, .int v2, .int v4, .int w0], σ)
theorem E_X8_isAmong_0 {v0 : Nat} {v1 : Int32} {v2 : Int32} {σ : sS} : R_X8_isAmong_0 v0 v1 v2 σ = (R_X8_isAmong_5 v0 v1 v2 0 0 σ) := by
  unfold R_X8_isAmong_0
  rw [s_run_eq]
  show s_go _ _ (T_X8_isAmong_0 v0 v1 v2 σ) = _
  unfold T_X8_isAmong_0
  simp only [s_go_bind, s_go_ite, s_go_sum, s_go_l, s_go_r, s_go_n]
  try rfl
theorem E_X8_isAmong_5 {v0 : Nat} {v1 : Int32} {v2 : Int32} {v3 : Int32} {v4 : Int32} {σ : sS} : R_X8_isAmong_5 v0 v1 v2 v3 v4 σ = ((F_X8_formulas v0 σ).bind fun q1 =>
  if q1.1 ≤ v4 then (if (v3 = 0 ∨ v3 = 1) then (some (v3, q1.2)) else none)
  else (if v3 = 0 then (if ((v2 >>> (v4 &&& 31)) &&& 1) = 1 then ((F_X8_isSame v0 v4 v1 q1.2).bind fun q2 =>
  if q2.1 = 0 then (R_X8_isAmong_42 v0 v1 v2 v4 q2.2)
  else (R_X8_isAmong_43 v0 v1 v2 v4 1 q2.2))
  else (R_X8_isAmong_42 v0 v1 v2 v4 q1.2))
  else (if (v3 = 0 ∨ v3 = 1) then (some (v3, q1.2)) else none))) := by
  unfold R_X8_isAmong_5
  rw [s_run_eq]
  show s_go _ _ (T_X8_isAmong_5 v0 v1 v2 v3 v4 σ) = _
  unfold T_X8_isAmong_5
  simp only [s_go_bind, s_go_ite, s_go_sum, s_go_l, s_go_r, s_go_n]
  try rfl
theorem E_X8_isAmong_42 {v0 : Nat} {v1 : Int32} {v2 : Int32} {v4 : Int32} {σ : sS} : R_X8_isAmong_42 v0 v1 v2 v4 σ = (R_X8_isAmong_43 v0 v1 v2 v4 0 σ) := by
  unfold R_X8_isAmong_42
  rw [s_run_eq]
  show s_go _ _ (T_X8_isAmong_42 v0 v1 v2 v4 σ) = _
  unfold T_X8_isAmong_42
  simp only [s_go_bind, s_go_ite, s_go_sum, s_go_l, s_go_r, s_go_n]
  try rfl
theorem E_X8_isAmong_43 {v0 : Nat} {v1 : Int32} {v2 : Int32} {v4 : Int32} {w0 : Int32} {σ : sS} : R_X8_isAmong_43 v0 v1 v2 v4 w0 σ = (R_X8_isAmong_5 v0 v1 v2 w0 (v4 + 1) σ) := by
  unfold R_X8_isAmong_43
  rw [s_run_eq]
  show s_go _ _ (T_X8_isAmong_43 v0 v1 v2 v4 w0 σ) = _
  unfold T_X8_isAmong_43
  simp only [s_go_bind, s_go_ite, s_go_sum, s_go_l, s_go_r, s_go_n]
  try rfl
theorem E_X8_isAmong {v0 : Nat} {v1 : Int32} {v2 : Int32} {σ : sS} : F_X8_isAmong v0 v1 v2 σ = ((s_is σ v0 8).bind fun _ => R_X8_isAmong_0 v0 v1 v2 σ) := rfl
/-! X8_endOf -/
noncomputable def R_X8_endOf_0 (v0 : Nat) (v1 : Int32) (v2 : Int32) (σ : sS) : Option (Int32 × sS) := s_run (S_X8_endOf ) (0, [.ref v0, .int v1, .int v2], σ)
noncomputable def R_X8_endOf_5 (v0 : Nat) (v1 : Int32) (v3 : Int32) (v4 : Int32) (σ : sS) : Option (Int32 × sS) := s_run (S_X8_endOf ) (5, [.ref v0, .int v1, .int v3, .int v4], σ)
noncomputable def R_X8_endOf_45 (v0 : Nat) (v1 : Int32) (v4 : Int32) (w0 : Int32) (w1 : Int32) (σ : sS) : Option (Int32 × sS) := s_run (S_X8_endOf ) (45, [.ref v0, .int v1, .int v4, .int w0, .int w1], σ)
theorem E_X8_endOf_0 {v0 : Nat} {v1 : Int32} {v2 : Int32} {σ : sS} : R_X8_endOf_0 v0 v1 v2 σ = (R_X8_endOf_5 v0 v1 1 v2 σ) := by
  unfold R_X8_endOf_0
  rw [s_run_eq]
  show s_go _ _ (T_X8_endOf_0 v0 v1 v2 σ) = _
  unfold T_X8_endOf_0
  simp only [s_go_bind, s_go_ite, s_go_sum, s_go_l, s_go_r, s_go_n]
  try rfl
theorem E_X8_endOf_5 {v0 : Nat} {v1 : Int32} {v3 : Int32} {v4 : Int32} {σ : sS} : R_X8_endOf_5 v0 v1 v3 v4 σ = (if v3 ≤ 0 then (some (v4, σ))
  else ((F_X8_at v0 v1 v4 σ).bind fun q1 =>
  (F_X8_isJoining q1.1 q1.2).bind fun q2 =>
  if q2.1 = 0 then ((F_X8_at v0 v1 v4 q2.2).bind fun q3 =>
  (F_X8_isLone q3.1 q3.2).bind fun q4 =>
  if q4.1 = 0 then (R_X8_endOf_45 v0 v1 v4 (-1) v3 q4.2)
  else (R_X8_endOf_45 v0 v1 v4 0 v3 q4.2))
  else (R_X8_endOf_45 v0 v1 v4 1 v3 q2.2))) := by
  unfold R_X8_endOf_5
  rw [s_run_eq]
  show s_go _ _ (T_X8_endOf_5 v0 v1 v3 v4 σ) = _
  unfold T_X8_endOf_5
  simp only [s_go_bind, s_go_ite, s_go_sum, s_go_l, s_go_r, s_go_n]
  try rfl
theorem E_X8_endOf_45 {v0 : Nat} {v1 : Int32} {v4 : Int32} {w0 : Int32} {w1 : Int32} {σ : sS} : R_X8_endOf_45 v0 v1 v4 w0 w1 σ = (R_X8_endOf_5 v0 v1 (w1 + w0) (v4 + 1) σ) := by
  unfold R_X8_endOf_45
  rw [s_run_eq]
  show s_go _ _ (T_X8_endOf_45 v0 v1 v4 w0 w1 σ) = _
  unfold T_X8_endOf_45
  simp only [s_go_bind, s_go_ite, s_go_sum, s_go_l, s_go_r, s_go_n]
  try rfl
theorem E_X8_endOf {v0 : Nat} {v1 : Int32} {v2 : Int32} {σ : sS} : F_X8_endOf v0 v1 v2 σ = ((s_is σ v0 8).bind fun _ => R_X8_endOf_0 v0 v1 v2 σ) := rfl
/-! X8_cutBy -/
noncomputable def R_X8_cutBy_0 (v0 : Nat) (v1 : Int32) (v2 : Int32) (σ : sS) : Option (Int32 × sS) := s_run (S_X8_cutBy ) (0, [.ref v0, .int v1, .int v2], σ)
theorem E_X8_cutBy_0 {v0 : Nat} {v1 : Int32} {v2 : Int32} {σ : sS} : R_X8_cutBy_0 v0 v1 v2 σ = ((F_X8_at v0 v1 0 σ).bind fun q1 =>
  if q1.1 = v2 then ((F_X8_endOf v0 v1 1 q1.2).bind fun q2 =>
  some (q2.1, q2.2))
  else (some ((-1), q1.2))) := by
  unfold R_X8_cutBy_0
  rw [s_run_eq]
  show s_go _ _ (T_X8_cutBy_0 v0 v1 v2 σ) = _
  unfold T_X8_cutBy_0
  simp only [s_go_bind, s_go_ite, s_go_sum, s_go_l, s_go_r, s_go_n]
  try rfl
theorem E_X8_cutBy {v0 : Nat} {v1 : Int32} {v2 : Int32} {σ : sS} : F_X8_cutBy v0 v1 v2 σ = ((s_is σ v0 8).bind fun _ => R_X8_cutBy_0 v0 v1 v2 σ) := rfl
/-! X8_isLeft -/
noncomputable def R_X8_isLeft_0 (v0 : Nat) (v1 : Int32) (v2 : Int32) (v3 : Int32) (σ : sS) : Option (Int32 × sS) := s_run (S_X8_isLeft ) (0, [.ref v0, .int v1, .int v2, .int v3], σ)
theorem E_X8_isLeft_0 {v0 : Nat} {v1 : Int32} {v2 : Int32} {v3 : Int32} {σ : sS} : R_X8_isLeft_0 v0 v1 v2 v3 σ = ((F_X8_cutBy v0 v1 v2 σ).bind fun q1 =>
  if q1.1 < 0 then (some (0, q1.2))
  else ((s_fr q1.2 v0 8 4).bind fun x2 =>
  (s_ai q1.2 x2 v3).bind fun x3 =>
  (F_X8_isPart v0 v1 1 q1.1 (-1) v3 0 x3 q1.2).bind fun q4 =>
  if q4.1 = 0 then (some (0, q4.2))
  else (some (1, q4.2)))) := by
  unfold R_X8_isLeft_0
  rw [s_run_eq]
  show s_go _ _ (T_X8_isLeft_0 v0 v1 v2 v3 σ) = _
  unfold T_X8_isLeft_0
  simp only [s_go_bind, s_go_ite, s_go_sum, s_go_l, s_go_r, s_go_n]
  try rfl
theorem E_X8_isLeft {v0 : Nat} {v1 : Int32} {v2 : Int32} {v3 : Int32} {σ : sS} : F_X8_isLeft v0 v1 v2 v3 σ = ((s_is σ v0 8).bind fun _ => R_X8_isLeft_0 v0 v1 v2 v3 σ) := rfl
/-! X8_isRight -/
noncomputable def R_X8_isRight_0 (v0 : Nat) (v1 : Int32) (v2 : Int32) (v3 : Int32) (σ : sS) : Option (Int32 × sS) := s_run (S_X8_isRight ) (0, [.ref v0, .int v1, .int v2, .int v3], σ)
theorem E_X8_isRight_0 {v0 : Nat} {v1 : Int32} {v2 : Int32} {v3 : Int32} {σ : sS} : R_X8_isRight_0 v0 v1 v2 v3 σ = ((F_X8_cutBy v0 v1 v2 σ).bind fun q1 =>
  if q1.1 < 0 then (some (0, q1.2))
  else ((s_fr q1.2 v0 8 4).bind fun x2 =>
  (s_ai q1.2 x2 v1).bind fun x3 =>
  (s_fr q1.2 v0 8 4).bind fun x4 =>
  (s_ai q1.2 x4 v3).bind fun x5 =>
  (F_X8_isPart v0 v1 q1.1 x3 (-1) v3 0 x5 q1.2).bind fun q6 =>
  if q6.1 = 0 then (some (0, q6.2))
  else (some (1, q6.2)))) := by
  unfold R_X8_isRight_0
  rw [s_run_eq]
  show s_go _ _ (T_X8_isRight_0 v0 v1 v2 v3 σ) = _
  unfold T_X8_isRight_0
  simp only [s_go_bind, s_go_ite, s_go_sum, s_go_l, s_go_r, s_go_n]
  try rfl
theorem E_X8_isRight {v0 : Nat} {v1 : Int32} {v2 : Int32} {v3 : Int32} {σ : sS} : F_X8_isRight v0 v1 v2 v3 σ = ((s_is σ v0 8).bind fun _ => R_X8_isRight_0 v0 v1 v2 v3 σ) := rfl
/-! X8_isTwice -/
noncomputable def R_X8_isTwice_0 (v0 : Nat) (v1 : Int32) (v2 : Int32) (σ : sS) : Option (Int32 × sS) := s_run (S_X8_isTwice ) (0, [.ref v0, .int v1, .int v2], σ)
theorem E_X8_isTwice_0 {v0 : Nat} {v1 : Int32} {v2 : Int32} {σ : sS} : R_X8_isTwice_0 v0 v1 v2 σ = ((F_X8_at v0 v1 0 σ).bind fun q1 =>
  if q1.1 = 12 then ((F_X8_at v0 v1 1 q1.2).bind fun q2 =>
  if q2.1 = 12 then ((s_fr q2.2 v0 8 4).bind fun x3 =>
  (s_ai q2.2 x3 v1).bind fun x4 =>
  (s_fr q2.2 v0 8 4).bind fun x5 =>
  (s_ai q2.2 x5 v2).bind fun x6 =>
  (F_X8_isPart v0 v1 2 x4 (-1) v2 0 x6 q2.2).bind fun q7 =>
  if q7.1 = 0 then (some (0, q7.2))
  else (some (1, q7.2)))
  else (some (0, q2.2)))
  else (some (0, q1.2))) := by
  unfold R_X8_isTwice_0
  rw [s_run_eq]
  show s_go _ _ (T_X8_isTwice_0 v0 v1 v2 σ) = _
  unfold T_X8_isTwice_0
  simp only [s_go_bind, s_go_ite, s_go_sum, s_go_l, s_go_r, s_go_n]
  try rfl
theorem E_X8_isTwice {v0 : Nat} {v1 : Int32} {v2 : Int32} {σ : sS} : F_X8_isTwice v0 v1 v2 σ = ((s_is σ v0 8).bind fun _ => R_X8_isTwice_0 v0 v1 v2 σ) := rfl
/-! X8_isCases -/
noncomputable def R_X8_isCases_0 (v0 : Nat) (v1 : Int32) (v2 : Int32) (v3 : Int32) (v4 : Int32) (σ : sS) : Option (Int32 × sS) := s_run (S_X8_isCases ) (0, [.ref v0, .int v1, .int v2, .int v3, .int v4], σ)
theorem E_X8_isCases_0 {v0 : Nat} {v1 : Int32} {v2 : Int32} {v3 : Int32} {v4 : Int32} {σ : sS} : R_X8_isCases_0 v0 v1 v2 v3 v4 σ = ((F_X8_cutBy v0 v1 14 σ).bind fun q1 =>
  (F_X8_cutBy v0 v2 15 q1.2).bind fun q2 =>
  (F_X8_cutBy v0 v3 15 q2.2).bind fun q3 =>
  if q1.1 < 0 then (some (0, q3.2))
  else (if q2.1 < 0 then (some (0, q3.2))
  else (if q3.1 < 0 then (some (0, q3.2))
  else ((F_X8_isRight v0 v2 15 v4 q3.2).bind fun q4 =>
  if q4.1 = 0 then (some (0, q4.2))
  else ((F_X8_isRight v0 v3 15 v4 q4.2).bind fun q5 =>
  if q5.1 = 0 then (some (0, q5.2))
  else ((F_X8_isPart v0 v1 1 q1.1 (-1) v2 1 q2.1 q5.2).bind fun q6 =>
  if q6.1 = 0 then (some (0, q6.2))
  else ((s_fr q6.2 v0 8 4).bind fun x7 =>
  (s_ai q6.2 x7 v1).bind fun x8 =>
  (F_X8_isPart v0 v1 q1.1 x8 (-1) v3 1 q3.1 q6.2).bind fun q9 =>
  if q9.1 = 0 then (some (0, q9.2))
  else (some (1, q9.2))))))))) := by
  unfold R_X8_isCases_0
  rw [s_run_eq]
  show s_go _ _ (T_X8_isCases_0 v0 v1 v2 v3 v4 σ) = _
  unfold T_X8_isCases_0
  simp only [s_go_bind, s_go_ite, s_go_sum, s_go_l, s_go_r, s_go_n]
  try rfl
theorem E_X8_isCases {v0 : Nat} {v1 : Int32} {v2 : Int32} {v3 : Int32} {v4 : Int32} {σ : sS} : F_X8_isCases v0 v1 v2 v3 v4 σ = ((s_is σ v0 8).bind fun _ => R_X8_isCases_0 v0 v1 v2 v3 v4 σ) := rfl
/-! X8_isOf -/
noncomputable def R_X8_isOf_0 (v0 : Nat) (v1 : Int32) (v2 : Int32) (v3 : Int32) (v4 : Int32) (σ : sS) : Option (Int32 × sS) := s_run (S_X8_isOf ) (0, [.ref v0, .int v1, .int v2, .int v3, .int v4], σ)
theorem E_X8_isOf_0 {v0 : Nat} {v1 : Int32} {v2 : Int32} {v3 : Int32} {v4 : Int32} {σ : sS} : R_X8_isOf_0 v0 v1 v2 v3 v4 σ = ((F_X8_at v0 v1 0 σ).bind fun q1 =>
  if q1.1 = v2 then ((s_fr q1.2 v0 8 4).bind fun x2 =>
  (s_ai q1.2 x2 v1).bind fun x3 =>
  (s_fr q1.2 v0 8 4).bind fun x4 =>
  (s_ai q1.2 x4 v3).bind fun x5 =>
  (F_X8_isPart v0 v1 1 x3 v4 v3 0 x5 q1.2).bind fun q6 =>
  if q6.1 = 0 then (some (0, q6.2))
  else (some (1, q6.2)))
  else (some (0, q1.2))) := by
  unfold R_X8_isOf_0
  rw [s_run_eq]
  show s_go _ _ (T_X8_isOf_0 v0 v1 v2 v3 v4 σ) = _
  unfold T_X8_isOf_0
  simp only [s_go_bind, s_go_ite, s_go_sum, s_go_l, s_go_r, s_go_n]
  try rfl
theorem E_X8_isOf {v0 : Nat} {v1 : Int32} {v2 : Int32} {v3 : Int32} {v4 : Int32} {σ : sS} : F_X8_isOf v0 v1 v2 v3 v4 σ = ((s_is σ v0 8).bind fun _ => R_X8_isOf_0 v0 v1 v2 v3 v4 σ) := rfl
/-! X8_isOfSome -/
noncomputable def R_X8_isOfSome_0 (v0 : Nat) (v1 : Int32) (v2 : Int32) (v3 : Int32) (σ : sS) : Option (Int32 × sS) := s_run (S_X8_isOfSome ) (0, [.ref v0, .int v1, .int v2, .int v3], σ)
noncomputable def R_X8_isOfSome_6 (v0 : Nat) (v1 : Int32) (v2 : Int32) (v3 : Int32) (v4 : Int32) (v5 : Int32) (σ : sS) : Option (Int32 × sS) := s_run (S_X8_isOfSome ) (6, [.ref v0, .int v1, .int v2, .int v3, .int v4, .int v5], σ)
noncomputable def R_X8_isOfSome_32 (v0 : Nat) (v1 : Int32) (v2 : Int32) (v3 : Int32) (v5 : Int32) (σ : sS) : Option (Int32 × sS) := s_run (S_X8_isOfSome ) (32, [.ref v0, .int v1, .int v2, .int v3, .int v5], σ)
noncomputable def R_X8_isOfSome_37 (v0 : Nat) (v1 : Int32) (v2 : Int32) (v3 : Int32) (v5 : Int32) (w0 : Int32) (σ : sS) : Option (Int32 × sS) := s_run (S_X8_isOfSome ) (37, [.ref v0, .int v1, .int v2, .int v3, .int v5, .int w0], σ)
theorem E_X8_isOfSome_0 {v0 : Nat} {v1 : Int32} {v2 : Int32} {v3 : Int32} {σ : sS} : R_X8_isOfSome_0 v0 v1 v2 v3 σ = (R_X8_isOfSome_6 v0 v1 v2 v3 0 0 σ) := by
  unfold R_X8_isOfSome_0
  rw [s_run_eq]
  show s_go _ _ (T_X8_isOfSome_0 v0 v1 v2 v3 σ) = _
  unfold T_X8_isOfSome_0
  simp only [s_go_bind, s_go_ite, s_go_sum, s_go_l, s_go_r, s_go_n]
  try rfl
theorem E_X8_isOfSome_6 {v0 : Nat} {v1 : Int32} {v2 : Int32} {v3 : Int32} {v4 : Int32} {v5 : Int32} {σ : sS} : R_X8_isOfSome_6 v0 v1 v2 v3 v4 v5 σ = ((F_X8_d v0 σ).bind fun q1 =>
  if q1.1 ≤ v5 then (if (v4 = 0 ∨ v4 = 1) then (some (v4, q1.2)) else none)
  else (if v4 = 0 then ((F_X8_isOf v0 v1 v2 v3 v5 q1.2).bind fun q2 =>
  if q2.1 = 0 then (R_X8_isOfSome_37 v0 v1 v2 v3 v5 0 q2.2)
  else (R_X8_isOfSome_32 v0 v1 v2 v3 v5 q2.2))
  else (R_X8_isOfSome_32 v0 v1 v2 v3 v5 q1.2))) := by
  unfold R_X8_isOfSome_6
  rw [s_run_eq]
  show s_go _ _ (T_X8_isOfSome_6 v0 v1 v2 v3 v4 v5 σ) = _
  unfold T_X8_isOfSome_6
  simp only [s_go_bind, s_go_ite, s_go_sum, s_go_l, s_go_r, s_go_n]
  try rfl
theorem E_X8_isOfSome_32 {v0 : Nat} {v1 : Int32} {v2 : Int32} {v3 : Int32} {v5 : Int32} {σ : sS} : R_X8_isOfSome_32 v0 v1 v2 v3 v5 σ = (R_X8_isOfSome_37 v0 v1 v2 v3 v5 1 σ) := by
  unfold R_X8_isOfSome_32
  rw [s_run_eq]
  show s_go _ _ (T_X8_isOfSome_32 v0 v1 v2 v3 v5 σ) = _
  unfold T_X8_isOfSome_32
  simp only [s_go_bind, s_go_ite, s_go_sum, s_go_l, s_go_r, s_go_n]
  try rfl
theorem E_X8_isOfSome_37 {v0 : Nat} {v1 : Int32} {v2 : Int32} {v3 : Int32} {v5 : Int32} {w0 : Int32} {σ : sS} : R_X8_isOfSome_37 v0 v1 v2 v3 v5 w0 σ = (R_X8_isOfSome_6 v0 v1 v2 v3 w0 (v5 + 1) σ) := by
  unfold R_X8_isOfSome_37
  rw [s_run_eq]
  show s_go _ _ (T_X8_isOfSome_37 v0 v1 v2 v3 v5 w0 σ) = _
  unfold T_X8_isOfSome_37
  simp only [s_go_bind, s_go_ite, s_go_sum, s_go_l, s_go_r, s_go_n]
  try rfl
theorem E_X8_isOfSome {v0 : Nat} {v1 : Int32} {v2 : Int32} {v3 : Int32} {σ : sS} : F_X8_isOfSome v0 v1 v2 v3 σ = ((s_is σ v0 8).bind fun _ => R_X8_isOfSome_0 v0 v1 v2 v3 σ) := rfl
/-! X8_isMinus -/
noncomputable def R_X8_isMinus_0 (v0 : Nat) (v1 : Int32) (v2 : Int32) (σ : sS) : Option (Int32 × sS) := s_run (S_X8_isMinus ) (0, [.ref v0, .int v1, .int v2], σ)
theorem E_X8_isMinus_0 {v0 : Nat} {v1 : Int32} {v2 : Int32} {σ : sS} : R_X8_isMinus_0 v0 v1 v2 σ = ((F_X8_at v0 v1 0 σ).bind fun q1 =>
  if q1.1 = 12 then ((s_fr q1.2 v0 8 4).bind fun x2 =>
  (s_ai q1.2 x2 v1).bind fun x3 =>
  (s_fr q1.2 v0 8 4).bind fun x4 =>
  (s_ai q1.2 x4 v2).bind fun x5 =>
  (F_X8_isPart v0 v1 1 x3 (-1) v2 0 x5 q1.2).bind fun q6 =>
  if q6.1 = 0 then (some (0, q6.2))
  else (some (1, q6.2)))
  else (some (0, q1.2))) := by
  unfold R_X8_isMinus_0
  rw [s_run_eq]
  show s_go _ _ (T_X8_isMinus_0 v0 v1 v2 σ) = _
  unfold T_X8_isMinus_0
  simp only [s_go_bind, s_go_ite, s_go_sum, s_go_l, s_go_r, s_go_n]
  try rfl
theorem E_X8_isMinus {v0 : Nat} {v1 : Int32} {v2 : Int32} {σ : sS} : F_X8_isMinus v0 v1 v2 σ = ((s_is σ v0 8).bind fun _ => R_X8_isMinus_0 v0 v1 v2 σ) := rfl
/-! X8_isHonest -/
noncomputable def R_X8_isHonest_0 (v0 : Nat) (v1 : Int32) (σ : sS) : Option (Int32 × sS) := s_run (S_X8_isHonest ) (0, [.ref v0, .int v1], σ)
noncomputable def R_X8_isHonest_67 (v0 : Nat) (v1 : Int32) (v2 : Int32) (v3 : Int32) (w0 : Int32) (σ : sS) : Option (Int32 × sS) := s_run (S_X8_isHonest ) (67, [.ref v0, .int v1, .int v2, .int v3, .int w0], σ)
noncomputable def R_X8_isHonest_93 (v0 : Nat) (v1 : Int32) (v2 : Int32) (v3 : Int32) (v4 : Int32) (w0 : Int32) (σ : sS) : Option (Int32 × sS) := s_run (S_X8_isHonest ) (93, [.ref v0, .int v1, .int v2, .int v3, .int v4, .int w0], σ)
noncomputable def R_X8_isHonest_119 (v0 : Nat) (v1 : Int32) (v2 : Int32) (v3 : Int32) (v4 : Int32) (v5 : Int32) (w0 : Int32) (σ : sS) : Option (Int32 × sS) := s_run (S_X8_isHonest ) (119, [.ref v0, .int v1, .int v2, .int v3, .int v4, .int v5, .int w0], σ)
noncomputable def R_X8_isHonest_424 (v0 : Nat) (v3 : Int32) (v6 : Int32) (σ : sS) : Option (Int32 × sS) := s_run (S_X8_isHonest ) (424, [.ref v0, .int v3, .int v6], σ)
theorem E_X8_isHonest_0 {v0 : Nat} {v1 : Int32} {σ : sS} : R_X8_isHonest_0 v0 v1 σ = ((F_X8_ofLine v0 v1 2 σ).bind fun q1 =>
  (F_X8_ofLine v0 v1 1 q1.2).bind fun q2 =>
  (F_X8_ofLine v0 v1 0 q2.2).bind fun q3 =>
  (F_X8_hasRule v0 q3.1 q1.1 q3.2).bind fun q4 =>
  if q4.1 = 0 then (some (0, q4.2))
  else ((F_X8_premises v0 v1 q4.2).bind fun q5 =>
  (F_X8_asked v0 q1.1 q5.2).bind fun q6 =>
  if q5.1 = q6.1 then ((F_X8_premise v0 v1 0 q6.2).bind fun q7 =>
  if (0 : Int32) ≤ q7.1 then ((F_X8_premise v0 v1 0 q7.2).bind fun q8 =>
  (F_X8_ofLine v0 q8.1 1 q8.2).bind fun q9 =>
  R_X8_isHonest_67 v0 v1 q1.1 q2.1 q9.1 q9.2)
  else (R_X8_isHonest_67 v0 v1 q1.1 q2.1 (-1) q7.2))
  else (some (0, q6.2)))) := by
  unfold R_X8_isHonest_0
  rw [s_run_eq]
  show s_go _ _ (T_X8_isHonest_0 v0 v1 σ) = _
  unfold T_X8_isHonest_0
  simp only [s_go_bind, s_go_ite, s_go_sum, s_go_l, s_go_r, s_go_n]
  try rfl
theorem E_X8_isHonest_67 {v0 : Nat} {v1 : Int32} {v2 : Int32} {v3 : Int32} {w0 : Int32} {σ : sS} : R_X8_isHonest_67 v0 v1 v2 v3 w0 σ = ((F_X8_premise v0 v1 1 σ).bind fun q1 =>
  if (0 : Int32) ≤ q1.1 then ((F_X8_premise v0 v1 1 q1.2).bind fun q2 =>
  (F_X8_ofLine v0 q2.1 1 q2.2).bind fun q3 =>
  R_X8_isHonest_93 v0 v1 v2 v3 w0 q3.1 q3.2)
  else (R_X8_isHonest_93 v0 v1 v2 v3 w0 (-1) q1.2)) := by
  unfold R_X8_isHonest_67
  rw [s_run_eq]
  show s_go _ _ (T_X8_isHonest_67 v0 v1 v2 v3 w0 σ) = _
  unfold T_X8_isHonest_67
  simp only [s_go_bind, s_go_ite, s_go_sum, s_go_l, s_go_r, s_go_n]
  try rfl
theorem E_X8_isHonest_93 {v0 : Nat} {v1 : Int32} {v2 : Int32} {v3 : Int32} {v4 : Int32} {w0 : Int32} {σ : sS} : R_X8_isHonest_93 v0 v1 v2 v3 v4 w0 σ = ((F_X8_premise v0 v1 2 σ).bind fun q1 =>
  if (0 : Int32) ≤ q1.1 then ((F_X8_premise v0 v1 2 q1.2).bind fun q2 =>
  (F_X8_ofLine v0 q2.1 1 q2.2).bind fun q3 =>
  R_X8_isHonest_119 v0 v1 v2 v3 v4 w0 q3.1 q3.2)
  else (R_X8_isHonest_119 v0 v1 v2 v3 v4 w0 (-1) q1.2)) := by
  unfold R_X8_isHonest_93
  rw [s_run_eq]
  show s_go _ _ (T_X8_isHonest_93 v0 v1 v2 v3 v4 w0 σ) = _
  unfold T_X8_isHonest_93
  simp only [s_go_bind, s_go_ite, s_go_sum, s_go_l, s_go_r, s_go_n]
  try rfl
theorem E_X8_isHonest_119 {v0 : Nat} {v1 : Int32} {v2 : Int32} {v3 : Int32} {v4 : Int32} {v5 : Int32} {w0 : Int32} {σ : sS} : R_X8_isHonest_119 v0 v1 v2 v3 v4 v5 w0 σ = (if v2 = 0 then ((F_X8_ofLine v0 v1 3 σ).bind fun q1 =>
  (F_X8_beliefsOf v0 q1.1 q1.2).bind fun q2 =>
  (F_X8_isAmong v0 v3 q2.1 q2.2).bind fun q3 =>
  if (q3.1 = 0 ∨ q3.1 = 1) then (some (q3.1, q3.2)) else none)
  else if v2 = 1 then (some (1, σ))
  else if v2 = 2 then ((F_X8_isLeft v0 v3 13 v4 σ).bind fun q4 =>
  if q4.1 = 0 then (some (0, q4.2))
  else ((F_X8_isRight v0 v3 13 v5 q4.2).bind fun q5 =>
  if q5.1 = 0 then (some (0, q5.2))
  else (some (1, q5.2))))
  else if v2 = 3 then ((F_X8_isLeft v0 v4 13 v3 σ).bind fun q6 =>
  if (q6.1 = 0 ∨ q6.1 = 1) then (some (q6.1, q6.2)) else none)
  else if v2 = 4 then ((F_X8_isRight v0 v4 13 v3 σ).bind fun q7 =>
  if (q7.1 = 0 ∨ q7.1 = 1) then (some (q7.1, q7.2)) else none)
  else if v2 = 5 then ((F_X8_isLeft v0 v3 14 v4 σ).bind fun q8 =>
  if (q8.1 = 0 ∨ q8.1 = 1) then (some (q8.1, q8.2)) else none)
  else if v2 = 6 then ((F_X8_isRight v0 v3 14 v4 σ).bind fun q9 =>
  if (q9.1 = 0 ∨ q9.1 = 1) then (some (q9.1, q9.2)) else none)
  else if v2 = 7 then ((F_X8_isLeft v0 v5 15 v4 σ).bind fun q10 =>
  if q10.1 = 0 then (some (0, q10.2))
  else ((F_X8_isRight v0 v5 15 v3 q10.2).bind fun q11 =>
  if q11.1 = 0 then (some (0, q11.2))
  else (some (1, q11.2))))
  else if v2 = 8 then ((F_X8_isTwice v0 v4 v3 σ).bind fun q12 =>
  if (q12.1 = 0 ∨ q12.1 = 1) then (some (q12.1, q12.2)) else none)
  else if v2 = 9 then ((F_X8_isCases v0 v4 v5 w0 v3 σ).bind fun q13 =>
  if (q13.1 = 0 ∨ q13.1 = 1) then (some (q13.1, q13.2)) else none)
  else if v2 = 10 then ((F_X8_premise v0 v1 0 σ).bind fun q14 =>
  (F_X8_ofLine v0 q14.1 2 q14.2).bind fun q15 =>
  if q15.1 = 1 then ((F_X8_isLeft v0 v3 15 v4 q15.2).bind fun q16 =>
  if q16.1 = 0 then (some (0, q16.2))
  else ((F_X8_isRight v0 v3 15 v5 q16.2).bind fun q17 =>
  if q17.1 = 0 then (some (0, q17.2))
  else (some (1, q17.2))))
  else (some (0, q15.2)))
  else if v2 = 11 then ((F_X8_isOfSome v0 v4 16 v3 σ).bind fun q18 =>
  if (q18.1 = 0 ∨ q18.1 = 1) then (some (q18.1, q18.2)) else none)
  else if v2 = 12 then ((F_X8_isOf v0 v3 16 v4 0 σ).bind fun q19 =>
  if q19.1 = 0 then (some (0, q19.2))
  else ((F_X8_d v0 q19.2).bind fun q20 =>
  if q20.1 < 2 then (R_X8_isHonest_424 v0 v3 w0 q20.2)
  else ((F_X8_isOf v0 v3 16 v5 1 q20.2).bind fun q21 =>
  if q21.1 = 0 then (some (0, q21.2))
  else (R_X8_isHonest_424 v0 v3 w0 q21.2))))
  else if v2 = 13 then ((F_X8_isOfSome v0 v3 17 v4 σ).bind fun q22 =>
  if (q22.1 = 0 ∨ q22.1 = 1) then (some (q22.1, q22.2)) else none)
  else if v2 = 14 then ((F_X8_isMinus v0 v5 v4 σ).bind fun q23 =>
  if (q23.1 = 0 ∨ q23.1 = 1) then (some (q23.1, q23.2)) else none)
  else ((F_X8_premise v0 v1 0 σ).bind fun q24 =>
  (F_X8_ofLine v0 q24.1 0 q24.2).bind fun q25 =>
  (F_X8_ofLine v0 v1 0 q25.2).bind fun q26 =>
  if q25.1 = q26.1 then (some (0, q26.2))
  else ((F_X8_isSame v0 v4 v3 q26.2).bind fun q27 =>
  if q27.1 = 0 then (some (0, q27.2))
  else (some (1, q27.2))))) := by
  unfold R_X8_isHonest_119
  rw [s_run_eq]
  show s_go _ _ (T_X8_isHonest_119 v0 v1 v2 v3 v4 v5 w0 σ) = _
  unfold T_X8_isHonest_119
  simp only [s_go_bind, s_go_ite, s_go_sum, s_go_l, s_go_r, s_go_n]
  try rfl
theorem E_X8_isHonest_424 {v0 : Nat} {v3 : Int32} {v6 : Int32} {σ : sS} : R_X8_isHonest_424 v0 v3 v6 σ = ((F_X8_d v0 σ).bind fun q1 =>
  if q1.1 < 3 then (some (1, q1.2))
  else ((F_X8_isOf v0 v3 16 v6 2 q1.2).bind fun q2 =>
  if q2.1 = 0 then (some (0, q2.2))
  else (some (1, q2.2)))) := by
  unfold R_X8_isHonest_424
  rw [s_run_eq]
  show s_go _ _ (T_X8_isHonest_424 v0 v3 v6 σ) = _
  unfold T_X8_isHonest_424
  simp only [s_go_bind, s_go_ite, s_go_sum, s_go_l, s_go_r, s_go_n]
  try rfl
theorem E_X8_isHonest {v0 : Nat} {v1 : Int32} {σ : sS} : F_X8_isHonest v0 v1 σ = ((s_is σ v0 8).bind fun _ => R_X8_isHonest_0 v0 v1 σ) := rfl
/-! X8_goesThrough -/
noncomputable def R_X8_goesThrough_0 (v0 : Nat) (σ : sS) : Option (Unit × sS) := s_run (S_X8_goesThrough ) (0, [.ref v0], σ)
noncomputable def R_X8_goesThrough_2 (v0 : Nat) (v1 : Int32) (σ : sS) : Option (Unit × sS) := s_run (S_X8_goesThrough ) (2, [.ref v0, .int v1], σ)
noncomputable def R_X8_goesThrough_43 (v0 : Nat) (v1 : Int32) (w0 : Int64) (w1 : Int32) (w2 : Nat) (σ : sS) : Option (Unit × sS) := s_run (S_X8_goesThrough ) (43, [.ref v0, .int v1, .long w0, .int w1, .ref w2], σ)
noncomputable def R_X8_goesThrough_55 (v0 : Nat) (v1 : Int32) (v2 : Int32) (σ : sS) : Option (Unit × sS) := s_run (S_X8_goesThrough ) (55, [.ref v0, .int v1, .int v2], σ)
noncomputable def R_X8_goesThrough_98 (v0 : Nat) (v1 : Int32) (v2 : Int32) (v3 : Int32) (w0 : Int32) (w1 : Nat) (σ : sS) : Option (Unit × sS) := s_run (S_X8_goesThrough ) (98, [.ref v0, .int v1, .int v2, .int v3, .int w0, .ref w1], σ)
noncomputable def R_X8_goesThrough_99 (v0 : Nat) (v1 : Int32) (v2 : Int32) (v3 : Int32) (w0 : Int32) (w1 : Int32) (w2 : Nat) (σ : sS) : Option (Unit × sS) := s_run (S_X8_goesThrough ) (99, [.ref v0, .int v1, .int v2, .int v3, .int w0, .int w1, .ref w2], σ)
noncomputable def R_X8_goesThrough_127 (v0 : Nat) (v1 : Int32) (v2 : Int32) (v3 : Int32) (w0 : Int64) (w1 : Int64) (w2 : Int32) (w3 : Nat) (σ : sS) : Option (Unit × sS) := s_run (S_X8_goesThrough ) (127, [.ref v0, .int v1, .int v2, .int v3, .long w0, .long w1, .int w2, .ref w3], σ)
noncomputable def R_X8_goesThrough_198 (v0 : Nat) (v1 : Int32) (σ : sS) : Option (Unit × sS) := s_run (S_X8_goesThrough ) (198, [.ref v0, .int v1], σ)
theorem E_X8_goesThrough_0 {v0 : Nat} {σ : sS} : R_X8_goesThrough_0 v0 σ = (R_X8_goesThrough_2 v0 0 σ) := by
  unfold R_X8_goesThrough_0
  rw [s_run_eq]
  show s_go _ _ (T_X8_goesThrough_0 v0 σ) = _
  unfold T_X8_goesThrough_0
  simp only [s_go_bind, s_go_ite, s_go_sum, s_go_l, s_go_r, s_go_n]
  try rfl
theorem E_X8_goesThrough_2 {v0 : Nat} {v1 : Int32} {σ : sS} : R_X8_goesThrough_2 v0 v1 σ = ((F_X8_lines v0 σ).bind fun q1 =>
  if q1.1 ≤ v1 then (some ((), q1.2))
  else ((s_fr q1.2 v0 8 17).bind fun x2 =>
  (F_X8_isHonest v0 v1 q1.2).bind fun q3 =>
  (s_sb q3.2 x2 v1 q3.1).bind fun σ4 =>
  (s_fr σ4 v0 8 18).bind fun x5 =>
  (F_X8_ofLine v0 v1 2 σ4).bind fun q6 =>
  if (2 : Int32) ≤ q6.1 then (R_X8_goesThrough_43 v0 v1 0 v1 x5 q6.2)
  else (R_X8_goesThrough_43 v0 v1 (1 <<< ((v1 : Int32).toInt64 &&& 63)) v1 x5 q6.2))) := by
  unfold R_X8_goesThrough_2
  rw [s_run_eq]
  show s_go _ _ (T_X8_goesThrough_2 v0 v1 σ) = _
  unfold T_X8_goesThrough_2
  simp only [s_go_bind, s_go_ite, s_go_sum, s_go_l, s_go_r, s_go_n]
  try rfl
theorem E_X8_goesThrough_43 {v0 : Nat} {v1 : Int32} {w0 : Int64} {w1 : Int32} {w2 : Nat} {σ : sS} : R_X8_goesThrough_43 v0 v1 w0 w1 w2 σ = ((s_sl σ w2 w1 w0).bind fun σ1 =>
  (s_fr σ1 v0 8 19).bind fun x2 =>
  (s_sl σ1 x2 v1 (1 <<< ((v1 : Int32).toInt64 &&& 63))).bind fun σ3 =>
  R_X8_goesThrough_55 v0 v1 0 σ3) := by
  unfold R_X8_goesThrough_43
  rw [s_run_eq]
  show s_go _ _ (T_X8_goesThrough_43 v0 v1 w0 w1 w2 σ) = _
  unfold T_X8_goesThrough_43
  simp only [s_go_bind, s_go_ite, s_go_sum, s_go_l, s_go_r, s_go_n]
  try rfl
theorem E_X8_goesThrough_55 {v0 : Nat} {v1 : Int32} {v2 : Int32} {σ : sS} : R_X8_goesThrough_55 v0 v1 v2 σ = ((F_X8_premises v0 v1 σ).bind fun q1 =>
  if q1.1 ≤ v2 then ((F_X8_premise v0 v1 0 q1.2).bind fun q2 =>
  (F_X8_ofLine v0 v1 2 q2.2).bind fun q3 =>
  if q3.1 = 10 then (if q2.1 < 0 then (R_X8_goesThrough_198 v0 v1 q3.2)
  else ((F_X8_ofLine v0 q2.1 2 q3.2).bind fun q4 =>
  if q4.1 = 1 then ((s_fr q4.2 v0 8 18).bind fun x5 =>
  (s_al q4.2 x5 v1).bind fun x6 =>
  (s_sl q4.2 x5 v1 (x6 &&& ((1 <<< ((q2.1 : Int32).toInt64 &&& 63)) ^^^ (-1)))).bind fun σ7 =>
  R_X8_goesThrough_198 v0 v1 σ7)
  else (R_X8_goesThrough_198 v0 v1 q4.2)))
  else (R_X8_goesThrough_198 v0 v1 q3.2))
  else ((F_X8_premise v0 v1 v2 q1.2).bind fun q8 =>
  (s_fr q8.2 v0 8 17).bind fun x9 =>
  (s_fr q8.2 v0 8 17).bind fun x10 =>
  (s_ab q8.2 x10 v1).bind fun x11 =>
  if x11 = 0 then (R_X8_goesThrough_98 v0 v1 v2 q8.1 v1 x9 q8.2)
  else ((s_fr q8.2 v0 8 17).bind fun x12 =>
  (s_ab q8.2 x12 q8.1).bind fun x13 =>
  if x13 = 0 then (R_X8_goesThrough_98 v0 v1 v2 q8.1 v1 x9 q8.2)
  else (R_X8_goesThrough_99 v0 v1 v2 q8.1 1 v1 x9 q8.2)))) := by
  unfold R_X8_goesThrough_55
  rw [s_run_eq]
  show s_go _ _ (T_X8_goesThrough_55 v0 v1 v2 σ) = _
  unfold T_X8_goesThrough_55
  simp only [s_go_bind, s_go_ite, s_go_sum, s_go_l, s_go_r, s_go_n]
  try rfl
theorem E_X8_goesThrough_98 {v0 : Nat} {v1 : Int32} {v2 : Int32} {v3 : Int32} {w0 : Int32} {w1 : Nat} {σ : sS} : R_X8_goesThrough_98 v0 v1 v2 v3 w0 w1 σ = (R_X8_goesThrough_99 v0 v1 v2 v3 0 w0 w1 σ) := by
  unfold R_X8_goesThrough_98
  rw [s_run_eq]
  show s_go _ _ (T_X8_goesThrough_98 v0 v1 v2 v3 w0 w1 σ) = _
  unfold T_X8_goesThrough_98
  simp only [s_go_bind, s_go_ite, s_go_sum, s_go_l, s_go_r, s_go_n]
  try rfl
theorem E_X8_goesThrough_99 {v0 : Nat} {v1 : Int32} {v2 : Int32} {v3 : Int32} {w0 : Int32} {w1 : Int32} {w2 : Nat} {σ : sS} : R_X8_goesThrough_99 v0 v1 v2 v3 w0 w1 w2 σ = ((s_sb σ w2 w1 w0).bind fun σ1 =>
  (s_fr σ1 v0 8 18).bind fun x2 =>
  (s_al σ1 x2 v1).bind fun x3 =>
  (F_X8_ofLine v0 v1 2 σ1).bind fun q4 =>
  if (2 : Int32) ≤ q4.1 then ((s_fr q4.2 v0 8 18).bind fun x5 =>
  (s_al q4.2 x5 v3).bind fun x6 =>
  R_X8_goesThrough_127 v0 v1 v2 v3 x6 x3 v1 x2 q4.2)
  else (R_X8_goesThrough_127 v0 v1 v2 v3 0 x3 v1 x2 q4.2)) := by
  unfold R_X8_goesThrough_99
  rw [s_run_eq]
  show s_go _ _ (T_X8_goesThrough_99 v0 v1 v2 v3 w0 w1 w2 σ) = _
  unfold T_X8_goesThrough_99
  simp only [s_go_bind, s_go_ite, s_go_sum, s_go_l, s_go_r, s_go_n]
  try rfl
theorem E_X8_goesThrough_127 {v0 : Nat} {v1 : Int32} {v2 : Int32} {v3 : Int32} {w0 : Int64} {w1 : Int64} {w2 : Int32} {w3 : Nat} {σ : sS} : R_X8_goesThrough_127 v0 v1 v2 v3 w0 w1 w2 w3 σ = ((s_sl σ w3 w2 (w1 ||| w0)).bind fun σ1 =>
  (s_fr σ1 v0 8 19).bind fun x2 =>
  (s_al σ1 x2 v1).bind fun x3 =>
  (s_fr σ1 v0 8 19).bind fun x4 =>
  (s_al σ1 x4 v3).bind fun x5 =>
  (s_sl σ1 x2 v1 (x3 ||| x5)).bind fun σ6 =>
  R_X8_goesThrough_55 v0 v1 (v2 + 1) σ6) := by
  unfold R_X8_goesThrough_127
  rw [s_run_eq]
  show s_go _ _ (T_X8_goesThrough_127 v0 v1 v2 v3 w0 w1 w2 w3 σ) = _
  unfold T_X8_goesThrough_127
  simp only [s_go_bind, s_go_ite, s_go_sum, s_go_l, s_go_r, s_go_n]
  try rfl
theorem E_X8_goesThrough_198 {v0 : Nat} {v1 : Int32} {σ : sS} : R_X8_goesThrough_198 v0 v1 σ = (R_X8_goesThrough_2 v0 (v1 + 1) σ) := by
  unfold R_X8_goesThrough_198
  rw [s_run_eq]
  show s_go _ _ (T_X8_goesThrough_198 v0 v1 σ) = _
  unfold T_X8_goesThrough_198
  simp only [s_go_bind, s_go_ite, s_go_sum, s_go_l, s_go_r, s_go_n]
  try rfl
theorem E_X8_goesThrough {v0 : Nat} {σ : sS} : F_X8_goesThrough v0 σ = ((s_is σ v0 8).bind fun _ => R_X8_goesThrough_0 v0 σ) := rfl
