/-! X7_falls -/
noncomputable def R_X7_falls_0 (v0 : Nat) (v1 : Int32) (v2 : Int32) (σ : sS) : Option ((Int64 ⊕ String) × sS) := s_run (S_X7_falls ) (0, [.ref v0, .int v1, .int v2], σ)
theorem E_X7_falls_0 {v0 : Nat} {v1 : Int32} {v2 : Int32} {σ : sS} : R_X7_falls_0 v0 v1 v2 σ = ((F_X7_needCustomer v0 v1 σ).bind fun q1 => s_sum q1.1 (fun x2 => (F_X7_needFormula v0 v2 q1.2).bind fun q4 => s_sum q4.1 (fun x5 => (s_fr q4.2 v0 7 1).bind fun x7 =>
  (s_fr q4.2 x7 1 5).bind fun x8 =>
  (s_ai q4.2 x8 v1).bind fun x9 =>
  (s_fr q4.2 v0 7 5).bind fun x10 =>
  (F_X0_staleIf x10 v1 (x9 &&& ((1 <<< (v2 &&& 31)) ^^^ (-1))) q4.2).bind fun q11 =>
  (s_fr q11.2 v0 7 5).bind fun x12 =>
  (F_X0_staleIf x12 (-1) 0 q11.2).bind fun q13 =>
  some (.inl (q11.1 &&& (q13.1 ^^^ (-1))), q13.2)) (fun E6 => some (.inr E6, q4.2))) (fun E3 => some (.inr E3, q1.2))) := by
  unfold R_X7_falls_0
  rw [s_run_eq]
  show s_go _ _ (T_X7_falls_0 v0 v1 v2 σ) = _
  unfold T_X7_falls_0
  simp only [s_go_bind, s_go_ite, s_go_sum, s_go_l, s_go_r, s_go_n]
  try rfl
theorem E_X7_falls {v0 : Nat} {v1 : Int32} {v2 : Int32} {σ : sS} : F_X7_falls v0 v1 v2 σ = ((s_is σ v0 7).bind fun _ => R_X7_falls_0 v0 v1 v2 σ) := rfl
/-! L_falls -/
noncomputable def R_L_falls_0 (v0 : Nat) (v1 : Int32) (v2 : Int32) (v3 : Nat) (σ : sS) : Option (Int32 × sS) := s_run (S_L_falls ) (0, [.ref v0, .int v1, .int v2, .ref v3], σ)
theorem E_L_falls_0 {v0 : Nat} {v1 : Int32} {v2 : Int32} {v3 : Nat} {σ : sS} : R_L_falls_0 v0 v1 v2 v3 σ = ((F_X7_falls v0 v1 v2 σ).bind fun q1 => s_sum q1.1 (fun x2 => (s_sl q1.2 v3 0 x2).bind fun σ4 =>
  some (0, σ4)) (fun E3 => if E3 = "java/lang/IndexOutOfBoundsException" then (some (1, q1.2)) else none)) := by
  unfold R_L_falls_0
  rw [s_run_eq]
  show s_go _ _ (T_L_falls_0 v0 v1 v2 v3 σ) = _
  unfold T_L_falls_0
  simp only [s_go_bind, s_go_ite, s_go_sum, s_go_l, s_go_r, s_go_n]
  try rfl
theorem E_L_falls {v0 : Nat} {v1 : Int32} {v2 : Int32} {v3 : Nat} {σ : sS} : F_L_falls v0 v1 v2 v3 σ = (R_L_falls_0 v0 v1 v2 v3 σ) := rfl
/-! X7_follows -/
noncomputable def R_X7_follows_0 (v0 : Nat) (v1 : Int32) (v2 : Int32) (σ : sS) : Option ((Int32 ⊕ String) × sS) := s_run (S_X7_follows ) (0, [.ref v0, .int v1, .int v2], σ)
theorem E_X7_follows_0 {v0 : Nat} {v1 : Int32} {v2 : Int32} {σ : sS} : R_X7_follows_0 v0 v1 v2 σ = ((F_X7_needCustomer v0 v1 σ).bind fun q1 => s_sum q1.1 (fun x2 => (F_X7_needFormula v0 v2 q1.2).bind fun q4 => s_sum q4.1 (fun x5 => (s_fr q4.2 v0 7 4).bind fun x7 =>
  (s_fr q4.2 v0 7 1).bind fun x8 =>
  (s_fr q4.2 x8 1 5).bind fun x9 =>
  (s_ai q4.2 x9 v1).bind fun x10 =>
  (F_X3_leastBreach x7 x10 v2 q4.2).bind fun q11 =>
  if q11.1 = (-1) then (some (.inl 1, q11.2))
  else (some (.inl 0, q11.2))) (fun E6 => some (.inr E6, q4.2))) (fun E3 => some (.inr E3, q1.2))) := by
  unfold R_X7_follows_0
  rw [s_run_eq]
  show s_go _ _ (T_X7_follows_0 v0 v1 v2 σ) = _
  unfold T_X7_follows_0
  simp only [s_go_bind, s_go_ite, s_go_sum, s_go_l, s_go_r, s_go_n]
  try rfl
theorem E_X7_follows {v0 : Nat} {v1 : Int32} {v2 : Int32} {σ : sS} : F_X7_follows v0 v1 v2 σ = ((s_is σ v0 7).bind fun _ => R_X7_follows_0 v0 v1 v2 σ) := rfl
/-! L_follows -/
noncomputable def R_L_follows_0 (v0 : Nat) (v1 : Int32) (v2 : Int32) (v3 : Nat) (σ : sS) : Option (Int32 × sS) := s_run (S_L_follows ) (0, [.ref v0, .int v1, .int v2, .ref v3], σ)
noncomputable def R_L_follows_16 (w0 : Int64) (w1 : Int32) (w2 : Nat) (σ : sS) : Option (Int32 × sS) := s_run (S_L_follows ) (16, [.long w0, .int w1, .ref w2], σ)
theorem E_L_follows_0 {v0 : Nat} {v1 : Int32} {v2 : Int32} {v3 : Nat} {σ : sS} : R_L_follows_0 v0 v1 v2 v3 σ = ((F_X7_follows v0 v1 v2 σ).bind fun q1 => s_sum q1.1 (fun x2 => if x2 = 0 then (R_L_follows_16 0 0 v3 q1.2)
  else (R_L_follows_16 1 0 v3 q1.2)) (fun E3 => if E3 = "java/lang/IndexOutOfBoundsException" then (some (1, q1.2)) else none)) := by
  unfold R_L_follows_0
  rw [s_run_eq]
  show s_go _ _ (T_L_follows_0 v0 v1 v2 v3 σ) = _
  unfold T_L_follows_0
  simp only [s_go_bind, s_go_ite, s_go_sum, s_go_l, s_go_r, s_go_n]
  try rfl
theorem E_L_follows_16 {w0 : Int64} {w1 : Int32} {w2 : Nat} {σ : sS} : R_L_follows_16 w0 w1 w2 σ = ((s_sl σ w2 w1 w0).bind fun σ1 =>
  some (0, σ1)) := by
  unfold R_L_follows_16
  rw [s_run_eq]
  show s_go _ _ (T_L_follows_16 w0 w1 w2 σ) = _
  unfold T_L_follows_16
  simp only [s_go_bind, s_go_ite, s_go_sum, s_go_l, s_go_r, s_go_n]
  try rfl
theorem E_L_follows {v0 : Nat} {v1 : Int32} {v2 : Int32} {v3 : Nat} {σ : sS} : F_L_follows v0 v1 v2 v3 σ = (R_L_follows_0 v0 v1 v2 v3 σ) := rfl
/-! X5_byteAt -/
noncomputable def R_X5_byteAt_0 (v0 : Nat) (v1 : Int32) (σ : sS) : Option (Int32 × sS) := s_run (S_X5_byteAt ) (0, [.ref v0, .int v1], σ)
theorem E_X5_byteAt_0 {v0 : Nat} {v1 : Int32} {σ : sS} : R_X5_byteAt_0 v0 v1 σ = (if v1 < 0 then (some ((-1), σ))
  else ((s_fi σ v0 5 0).bind fun x1 =>
  if x1 ≤ v1 then (some ((-1), σ))
  else (if (400 : Int32) ≤ v1 then (some ((-1), σ))
  else ((s_fr σ v0 5 3).bind fun x2 =>
  (s_ab σ x2 v1).bind fun x3 =>
  some ((x3 &&& 255), σ))))) := by
  unfold R_X5_byteAt_0
  rw [s_run_eq]
  show s_go _ _ (T_X5_byteAt_0 v0 v1 σ) = _
  unfold T_X5_byteAt_0
  simp only [s_go_bind, s_go_ite, s_go_sum, s_go_l, s_go_r, s_go_n]
  try rfl
theorem E_X5_byteAt {v0 : Nat} {v1 : Int32} {σ : sS} : F_X5_byteAt v0 v1 σ = ((s_is σ v0 5).bind fun _ => R_X5_byteAt_0 v0 v1 σ) := rfl
/-! X5_peek -/
noncomputable def R_X5_peek_0 (v0 : Nat) (σ : sS) : Option (Int32 × sS) := s_run (S_X5_peek ) (0, [.ref v0], σ)
noncomputable def R_X5_peek_2 (v0 : Nat) (v1 : Int32) (σ : sS) : Option (Int32 × sS) := s_run (S_X5_peek ) (2, [.ref v0, .int v1], σ)
noncomputable def R_X5_peek_38 (v0 : Nat) (σ : sS) : Option (Int32 × sS) := s_run (S_X5_peek ) (38, [.ref v0], σ)
theorem E_X5_peek_0 {v0 : Nat} {σ : sS} : R_X5_peek_0 v0 σ = (R_X5_peek_2 v0 0 σ) := by
  unfold R_X5_peek_0
  rw [s_run_eq]
  show s_go _ _ (T_X5_peek_0 v0 σ) = _
  unfold T_X5_peek_0
  simp only [s_go_bind, s_go_ite, s_go_sum, s_go_l, s_go_r, s_go_n]
  try rfl
theorem E_X5_peek_2 {v0 : Nat} {v1 : Int32} {σ : sS} : R_X5_peek_2 v0 v1 σ = (if (400 : Int32) ≤ v1 then (R_X5_peek_38 v0 σ)
  else ((s_fi σ v0 5 4).bind fun x1 =>
  (F_X5_byteAt v0 x1 σ).bind fun q2 =>
  if q2.1 = 32 then ((s_fi q2.2 v0 5 4).bind fun x3 =>
  (s_pf q2.2 v0 5 4 (.int (x3 + 1))).bind fun σ4 =>
  R_X5_peek_2 v0 (v1 + 1) σ4)
  else (R_X5_peek_38 v0 q2.2))) := by
  unfold R_X5_peek_2
  rw [s_run_eq]
  show s_go _ _ (T_X5_peek_2 v0 v1 σ) = _
  unfold T_X5_peek_2
  simp only [s_go_bind, s_go_ite, s_go_sum, s_go_l, s_go_r, s_go_n]
  try rfl
theorem E_X5_peek_38 {v0 : Nat} {σ : sS} : R_X5_peek_38 v0 σ = ((s_fi σ v0 5 1).bind fun x1 =>
  if x1 = (-1) then ((s_fi σ v0 5 4).bind fun x2 =>
  (F_X5_byteAt v0 x2 σ).bind fun q3 =>
  some (q3.1, q3.2))
  else (some ((-1), σ))) := by
  unfold R_X5_peek_38
  rw [s_run_eq]
  show s_go _ _ (T_X5_peek_38 v0 σ) = _
  unfold T_X5_peek_38
  simp only [s_go_bind, s_go_ite, s_go_sum, s_go_l, s_go_r, s_go_n]
  try rfl
theorem E_X5_peek {v0 : Nat} {σ : sS} : F_X5_peek v0 σ = ((s_is σ v0 5).bind fun _ => R_X5_peek_0 v0 σ) := rfl
/-! X5_fail -/
noncomputable def R_X5_fail_0 (v0 : Nat) (v1 : Int32) (σ : sS) : Option (Int32 × sS) := s_run (S_X5_fail ) (0, [.ref v0, .int v1], σ)
theorem E_X5_fail_0 {v0 : Nat} {v1 : Int32} {σ : sS} : R_X5_fail_0 v0 v1 σ = ((s_fi σ v0 5 1).bind fun x1 =>
  if x1 = (-1) then ((s_pf σ v0 5 1 (.int v1)).bind fun σ2 =>
  some ((-1), σ2))
  else (some ((-1), σ))) := by
  unfold R_X5_fail_0
  rw [s_run_eq]
  show s_go _ _ (T_X5_fail_0 v0 v1 σ) = _
  unfold T_X5_fail_0
  simp only [s_go_bind, s_go_ite, s_go_sum, s_go_l, s_go_r, s_go_n]
  try rfl
theorem E_X5_fail {v0 : Nat} {v1 : Int32} {σ : sS} : F_X5_fail v0 v1 σ = ((s_is σ v0 5).bind fun _ => R_X5_fail_0 v0 v1 σ) := rfl
/-! X5_mayGoDeeper -/
noncomputable def R_X5_mayGoDeeper_0 (v0 : Nat) (v1 : Int32) (σ : sS) : Option (Int32 × sS) := s_run (S_X5_mayGoDeeper ) (0, [.ref v0, .int v1], σ)
theorem E_X5_mayGoDeeper_0 {v0 : Nat} {v1 : Int32} {σ : sS} : R_X5_mayGoDeeper_0 v0 v1 σ = (if v1 < 8 then (some (1, σ))
  else ((s_fi σ v0 5 4).bind fun x1 =>
  (F_X5_fail v0 x1 σ).bind fun q2 =>
  some (0, q2.2))) := by
  unfold R_X5_mayGoDeeper_0
  rw [s_run_eq]
  show s_go _ _ (T_X5_mayGoDeeper_0 v0 v1 σ) = _
  unfold T_X5_mayGoDeeper_0
  simp only [s_go_bind, s_go_ite, s_go_sum, s_go_l, s_go_r, s_go_n]
  try rfl
theorem E_X5_mayGoDeeper {v0 : Nat} {v1 : Int32} {σ : sS} : F_X5_mayGoDeeper v0 v1 σ = ((s_is σ v0 5).bind fun _ => R_X5_mayGoDeeper_0 v0 v1 σ) := rfl
/-! X5_mayTakeSign -/
noncomputable def R_X5_mayTakeSign_0 (v0 : Nat) (v1 : Int32) (σ : sS) : Option (Int32 × sS) := s_run (S_X5_mayTakeSign ) (0, [.ref v0, .int v1], σ)
theorem E_X5_mayTakeSign_0 {v0 : Nat} {v1 : Int32} {σ : sS} : R_X5_mayTakeSign_0 v0 v1 σ = ((s_fi σ v0 5 5).bind fun x1 =>
  if x1 < 40 then ((s_fi σ v0 5 5).bind fun x2 =>
  (s_pf σ v0 5 5 (.int (x2 + 1))).bind fun σ3 =>
  some (1, σ3))
  else ((F_X5_fail v0 v1 σ).bind fun q4 =>
  some (0, q4.2))) := by
  unfold R_X5_mayTakeSign_0
  rw [s_run_eq]
  show s_go _ _ (T_X5_mayTakeSign_0 v0 v1 σ) = _
  unfold T_X5_mayTakeSign_0
  simp only [s_go_bind, s_go_ite, s_go_sum, s_go_l, s_go_r, s_go_n]
  try rfl
theorem E_X5_mayTakeSign {v0 : Nat} {v1 : Int32} {σ : sS} : F_X5_mayTakeSign v0 v1 σ = ((s_is σ v0 5).bind fun _ => R_X5_mayTakeSign_0 v0 v1 σ) := rfl
/-! X2_hasRoom -/
noncomputable def R_X2_hasRoom_0 (v0 : Nat) (σ : sS) : Option (Int32 × sS) := s_run (S_X2_hasRoom ) (0, [.ref v0], σ)
theorem E_X2_hasRoom_0 {v0 : Nat} {σ : sS} : R_X2_hasRoom_0 v0 σ = ((s_fi σ v0 2 0).bind fun x1 =>
  (s_fr σ v0 2 1).bind fun x2 =>
  (s_len σ x2).bind fun x3 =>
  if x3 ≤ x1 then ((s_fr σ v0 2 1).bind fun x4 =>
  (s_len σ x4).bind fun x5 =>
  if (x5 * 2) < 128 then (some (0, σ))
  else (if (x5 * 2) ≤ 8192 then ((s_fr σ v0 2 1).bind fun x6 =>
  (F_J7_copyOf_59c91 x6 (x5 * 2) σ).bind fun q7 =>
  (s_pf q7.2 v0 2 1 (.ref q7.1)).bind fun σ8 =>
  (s_fr σ8 v0 2 2).bind fun x9 =>
  (F_J7_copyOf_59c91 x9 (x5 * 2) σ8).bind fun q10 =>
  (s_pf q10.2 v0 2 2 (.ref q10.1)).bind fun σ11 =>
  (s_fr σ11 v0 2 3).bind fun x12 =>
  (F_J7_copyOf_59c91 x12 (x5 * 2) σ11).bind fun q13 =>
  (s_pf q13.2 v0 2 3 (.ref q13.1)).bind fun σ14 =>
  (s_fr σ14 v0 2 4).bind fun x15 =>
  (F_J7_copyOf_59c91 x15 (x5 * 2) σ14).bind fun q16 =>
  (s_pf q16.2 v0 2 4 (.ref q16.1)).bind fun σ17 =>
  (s_fr σ17 v0 2 5).bind fun x18 =>
  (F_J7_copyOf_59c91 x18 (x5 * 2) σ17).bind fun q19 =>
  (s_pf q19.2 v0 2 5 (.ref q19.1)).bind fun σ20 =>
  (s_fr σ20 v0 2 6).bind fun x21 =>
  (F_J7_copyOf_59c91 x21 ((x5 * 2) * 3) σ20).bind fun q22 =>
  (s_pf q22.2 v0 2 6 (.ref q22.1)).bind fun σ23 =>
  some (1, σ23))
  else (some (0, σ))))
  else (some (1, σ))) := by
  unfold R_X2_hasRoom_0
  rw [s_run_eq]
  show s_go _ _ (T_X2_hasRoom_0 v0 σ) = _
  unfold T_X2_hasRoom_0
  simp only [s_go_bind, s_go_ite, s_go_sum, s_go_l, s_go_r, s_go_n]
  try rfl
theorem E_X2_hasRoom {v0 : Nat} {σ : sS} : F_X2_hasRoom v0 σ = ((s_is σ v0 2).bind fun _ => R_X2_hasRoom_0 v0 σ) := rfl
/-! X2_make -/
noncomputable def R_X2_make_0 (v0 : Nat) (v1 : Int32) (v2 : Int32) (v3 : Int32) (σ : sS) : Option (Int32 × sS) := s_run (S_X2_make ) (0, [.ref v0, .int v1, .int v2, .int v3], σ)
noncomputable def R_X2_make_28 (v0 : Nat) (v1 : Int32) (v2 : Int32) (v3 : Int32) (v4 : Int32) (v5 : Int32) (v6 : Int32) (σ : sS) : Option (Int32 × sS) := s_run (S_X2_make ) (28, [.ref v0, .int v1, .int v2, .int v3, .int v4, .int v5, .int v6], σ)
noncomputable def R_X2_make_81 (v0 : Nat) (v1 : Int32) (v2 : Int32) (v3 : Int32) (v4 : Int32) (σ : sS) : Option (Int32 × sS) := s_run (S_X2_make ) (81, [.ref v0, .int v1, .int v2, .int v3, .int v4], σ)
noncomputable def R_X2_make_147 (v0 : Nat) (v4 : Int32) (v6 : Int32) (w0 : Int32) (w1 : Int32) (w2 : Nat) (σ : sS) : Option (Int32 × sS) := s_run (S_X2_make ) (147, [.ref v0, .int v4, .int v6, .int w0, .int w1, .ref w2], σ)
noncomputable def R_X2_make_174 (v0 : Nat) (v6 : Int32) (v7 : Int32) (σ : sS) : Option (Int32 × sS) := s_run (S_X2_make ) (174, [.ref v0, .int v6, .int v7], σ)
theorem E_X2_make_0 {v0 : Nat} {v1 : Int32} {v2 : Int32} {v3 : Int32} {σ : sS} : R_X2_make_0 v0 v1 v2 v3 σ = ((s_fr σ v0 2 7).bind fun x1 =>
  (s_ai σ x1 (((((v1 * 31) + v2) * 31) + v3) &&& 127)).bind fun x2 =>
  R_X2_make_28 v0 v1 v2 v3 (((((v1 * 31) + v2) * 31) + v3) &&& 127) x2 0 σ) := by
  unfold R_X2_make_0
  rw [s_run_eq]
  show s_go _ _ (T_X2_make_0 v0 v1 v2 v3 σ) = _
  unfold T_X2_make_0
  simp only [s_go_bind, s_go_ite, s_go_sum, s_go_l, s_go_r, s_go_n]
  try rfl
theorem E_X2_make_28 {v0 : Nat} {v1 : Int32} {v2 : Int32} {v3 : Int32} {v4 : Int32} {v5 : Int32} {v6 : Int32} {σ : sS} : R_X2_make_28 v0 v1 v2 v3 v4 v5 v6 σ = ((s_fi σ v0 2 0).bind fun x1 =>
  if x1 ≤ v6 then (R_X2_make_81 v0 v1 v2 v3 v4 σ)
  else (if v5 < 0 then (R_X2_make_81 v0 v1 v2 v3 v4 σ)
  else ((s_fi σ v0 2 0).bind fun x2 =>
  if x2 ≤ v5 then (R_X2_make_81 v0 v1 v2 v3 v4 σ)
  else ((F_X2_isMade v0 v5 v1 v2 v3 σ).bind fun q3 =>
  if q3.1 = 0 then ((s_fr q3.2 v0 2 5).bind fun x4 =>
  (s_ai q3.2 x4 v5).bind fun x5 =>
  R_X2_make_28 v0 v1 v2 v3 v4 x5 (v6 + 1) q3.2)
  else (some (v5, q3.2)))))) := by
  unfold R_X2_make_28
  rw [s_run_eq]
  show s_go _ _ (T_X2_make_28 v0 v1 v2 v3 v4 v5 v6 σ) = _
  unfold T_X2_make_28
  simp only [s_go_bind, s_go_ite, s_go_sum, s_go_l, s_go_r, s_go_n]
  try rfl
theorem E_X2_make_81 {v0 : Nat} {v1 : Int32} {v2 : Int32} {v3 : Int32} {v4 : Int32} {σ : sS} : R_X2_make_81 v0 v1 v2 v3 v4 σ = ((F_X2_hasRoom v0 σ).bind fun q1 =>
  if q1.1 = 0 then (some ((-1), q1.2))
  else ((s_fi q1.2 v0 2 0).bind fun x2 =>
  (s_fr q1.2 v0 2 1).bind fun x3 =>
  (s_si q1.2 x3 x2 v1).bind fun σ4 =>
  (s_fr σ4 v0 2 2).bind fun x5 =>
  (s_si σ4 x5 x2 v2).bind fun σ6 =>
  (s_fr σ6 v0 2 3).bind fun x7 =>
  (s_si σ6 x7 x2 v3).bind fun σ8 =>
  (s_fr σ8 v0 2 4).bind fun x9 =>
  if v1 = 0 then (R_X2_make_147 v0 v4 x2 1 x2 x9 σ8)
  else ((F_X2_signsOf v0 v2 σ8).bind fun q10 =>
  (F_X2_signsOf v0 v3 q10.2).bind fun q11 =>
  R_X2_make_147 v0 v4 x2 ((1 + q10.1) + q11.1) x2 x9 q11.2))) := by
  unfold R_X2_make_81
  rw [s_run_eq]
  show s_go _ _ (T_X2_make_81 v0 v1 v2 v3 v4 σ) = _
  unfold T_X2_make_81
  simp only [s_go_bind, s_go_ite, s_go_sum, s_go_l, s_go_r, s_go_n]
  try rfl
theorem E_X2_make_147 {v0 : Nat} {v4 : Int32} {v6 : Int32} {w0 : Int32} {w1 : Int32} {w2 : Nat} {σ : sS} : R_X2_make_147 v0 v4 v6 w0 w1 w2 σ = ((s_si σ w2 w1 w0).bind fun σ1 =>
  (s_fr σ1 v0 2 5).bind fun x2 =>
  (s_fr σ1 v0 2 7).bind fun x3 =>
  (s_ai σ1 x3 v4).bind fun x4 =>
  (s_si σ1 x2 v6 x4).bind fun σ5 =>
  (s_fr σ5 v0 2 7).bind fun x6 =>
  (s_si σ5 x6 v4 v6).bind fun σ7 =>
  R_X2_make_174 v0 v6 0 σ7) := by
  unfold R_X2_make_147
  rw [s_run_eq]
  show s_go _ _ (T_X2_make_147 v0 v4 v6 w0 w1 w2 σ) = _
  unfold T_X2_make_147
  simp only [s_go_bind, s_go_ite, s_go_sum, s_go_l, s_go_r, s_go_n]
  try rfl
theorem E_X2_make_174 {v0 : Nat} {v6 : Int32} {v7 : Int32} {σ : sS} : R_X2_make_174 v0 v6 v7 σ = (if (3 : Int32) ≤ v7 then ((s_fi σ v0 2 0).bind fun x1 =>
  (s_pf σ v0 2 0 (.int (x1 + 1))).bind fun σ2 =>
  some (v6, σ2))
  else ((s_fr σ v0 2 6).bind fun x3 =>
  (s_si σ x3 ((v6 * 3) + v7) (-1)).bind fun σ4 =>
  R_X2_make_174 v0 v6 (v7 + 1) σ4)) := by
  unfold R_X2_make_174
  rw [s_run_eq]
  show s_go _ _ (T_X2_make_174 v0 v6 v7 σ) = _
  unfold T_X2_make_174
  simp only [s_go_bind, s_go_ite, s_go_sum, s_go_l, s_go_r, s_go_n]
  try rfl
theorem E_X2_make {v0 : Nat} {v1 : Int32} {v2 : Int32} {v3 : Int32} {σ : sS} : F_X2_make v0 v1 v2 v3 σ = ((s_is σ v0 2).bind fun _ => R_X2_make_0 v0 v1 v2 v3 σ) := rfl
/-! X5_join -/
noncomputable def R_X5_join_0 (v0 : Nat) (v1 : Int32) (v2 : Int32) (v3 : Int32) (σ : sS) : Option (Int32 × sS) := s_run (S_X5_join ) (0, [.ref v0, .int v1, .int v2, .int v3], σ)
theorem E_X5_join_0 {v0 : Nat} {v1 : Int32} {v2 : Int32} {v3 : Int32} {σ : sS} : R_X5_join_0 v0 v1 v2 v3 σ = ((s_fi σ v0 5 1).bind fun x1 =>
  if x1 = (-1) then ((s_fr σ v0 5 2).bind fun x2 =>
  (F_X2_make x2 v1 v2 v3 σ).bind fun q3 =>
  some (q3.1, q3.2))
  else (some ((-1), σ))) := by
  unfold R_X5_join_0
  rw [s_run_eq]
  show s_go _ _ (T_X5_join_0 v0 v1 v2 v3 σ) = _
  unfold T_X5_join_0
  simp only [s_go_bind, s_go_ite, s_go_sum, s_go_l, s_go_r, s_go_n]
  try rfl
theorem E_X5_join {v0 : Nat} {v1 : Int32} {v2 : Int32} {v3 : Int32} {σ : sS} : F_X5_join v0 v1 v2 v3 σ = ((s_is σ v0 5).bind fun _ => R_X5_join_0 v0 v1 v2 v3 σ) := rfl
/-! X5_isLetter -/
noncomputable def R_X5_isLetter_0 (v0 : Nat) (v1 : Int32) (σ : sS) : Option (Int32 × sS) := s_run (S_X5_isLetter ) (0, [.ref v0, .int v1], σ)
theorem E_X5_isLetter_0 {v0 : Nat} {v1 : Int32} {σ : sS} : R_X5_isLetter_0 v0 v1 σ = ((F_X5_byteAt v0 v1 σ).bind fun q1 =>
  if q1.1 < 97 then (some (0, q1.2))
  else (if (122 : Int32) < q1.1 then (some (0, q1.2))
  else (some (1, q1.2)))) := by
  unfold R_X5_isLetter_0
  rw [s_run_eq]
  show s_go _ _ (T_X5_isLetter_0 v0 v1 σ) = _
  unfold T_X5_isLetter_0
  simp only [s_go_bind, s_go_ite, s_go_sum, s_go_l, s_go_r, s_go_n]
  try rfl
theorem E_X5_isLetter {v0 : Nat} {v1 : Int32} {σ : sS} : F_X5_isLetter v0 v1 σ = ((s_is σ v0 5).bind fun _ => R_X5_isLetter_0 v0 v1 σ) := rfl
/-! X5_wordEnd -/
noncomputable def R_X5_wordEnd_0 (v0 : Nat) (σ : sS) : Option (Int32 × sS) := s_run (S_X5_wordEnd ) (0, [.ref v0], σ)
noncomputable def R_X5_wordEnd_7 (v0 : Nat) (v1 : Int32) (v2 : Int32) (σ : sS) : Option (Int32 × sS) := s_run (S_X5_wordEnd ) (7, [.ref v0, .int v1, .int v2], σ)
theorem E_X5_wordEnd_0 {v0 : Nat} {σ : sS} : R_X5_wordEnd_0 v0 σ = ((s_fi σ v0 5 4).bind fun x1 =>
  R_X5_wordEnd_7 v0 x1 0 σ) := by
  unfold R_X5_wordEnd_0
  rw [s_run_eq]
  show s_go _ _ (T_X5_wordEnd_0 v0 σ) = _
  unfold T_X5_wordEnd_0
  simp only [s_go_bind, s_go_ite, s_go_sum, s_go_l, s_go_r, s_go_n]
  try rfl
theorem E_X5_wordEnd_7 {v0 : Nat} {v1 : Int32} {v2 : Int32} {σ : sS} : R_X5_wordEnd_7 v0 v1 v2 σ = (if (400 : Int32) ≤ v2 then (some (v1, σ))
  else ((F_X5_isLetter v0 v1 σ).bind fun q1 =>
  if q1.1 = 0 then (some (v1, q1.2))
  else (R_X5_wordEnd_7 v0 (v1 + 1) (v2 + 1) q1.2))) := by
  unfold R_X5_wordEnd_7
  rw [s_run_eq]
  show s_go _ _ (T_X5_wordEnd_7 v0 v1 v2 σ) = _
  unfold T_X5_wordEnd_7
  simp only [s_go_bind, s_go_ite, s_go_sum, s_go_l, s_go_r, s_go_n]
  try rfl
theorem E_X5_wordEnd {v0 : Nat} {σ : sS} : F_X5_wordEnd v0 σ = ((s_is σ v0 5).bind fun _ => R_X5_wordEnd_0 v0 σ) := rfl
/-! X5_isWord -/
noncomputable def R_X5_isWord_0 (v0 : Nat) (v1 : Int32) (v2 : Int32) (v3 : Nat) (σ : sS) : Option (Int32 × sS) := s_run (S_X5_isWord ) (0, [.ref v0, .int v1, .int v2, .ref v3], σ)
noncomputable def R_X5_isWord_15 (v0 : Nat) (v1 : Int32) (v3 : Nat) (v4 : Int32) (σ : sS) : Option (Int32 × sS) := s_run (S_X5_isWord ) (15, [.ref v0, .int v1, .ref v3, .int v4], σ)
theorem E_X5_isWord_0 {v0 : Nat} {v1 : Int32} {v2 : Int32} {v3 : Nat} {σ : sS} : R_X5_isWord_0 v0 v1 v2 v3 σ = ((F_J0_length_8abf5 v3 σ).bind fun q1 =>
  if (v2 - v1) = q1.1 then (R_X5_isWord_15 v0 v1 v3 0 q1.2)
  else (some (0, q1.2))) := by
  unfold R_X5_isWord_0
  rw [s_run_eq]
  show s_go _ _ (T_X5_isWord_0 v0 v1 v2 v3 σ) = _
  unfold T_X5_isWord_0
  simp only [s_go_bind, s_go_ite, s_go_sum, s_go_l, s_go_r, s_go_n]
  try rfl
theorem E_X5_isWord_15 {v0 : Nat} {v1 : Int32} {v3 : Nat} {v4 : Int32} {σ : sS} : R_X5_isWord_15 v0 v1 v3 v4 σ = ((F_J0_length_8abf5 v3 σ).bind fun q1 =>
  if q1.1 ≤ v4 then (some (1, q1.2))
  else ((F_X5_byteAt v0 (v1 + v4) q1.2).bind fun q2 =>
  (F_J0_charAt_5068e v3 v4 q2.2).bind fun q3 =>
  if q2.1 = q3.1 then (R_X5_isWord_15 v0 v1 v3 (v4 + 1) q3.2)
  else (some (0, q3.2)))) := by
  unfold R_X5_isWord_15
  rw [s_run_eq]
  show s_go _ _ (T_X5_isWord_15 v0 v1 v3 v4 σ) = _
  unfold T_X5_isWord_15
  simp only [s_go_bind, s_go_ite, s_go_sum, s_go_l, s_go_r, s_go_n]
  try rfl
theorem E_X5_isWord {v0 : Nat} {v1 : Int32} {v2 : Int32} {v3 : Nat} {σ : sS} : F_X5_isWord v0 v1 v2 v3 σ = ((s_is σ v0 5).bind fun _ => R_X5_isWord_0 v0 v1 v2 v3 σ) := rfl
/-! X2_makeAtom -/
noncomputable def R_X2_makeAtom_0 (v0 : Nat) (v1 : Int32) (v2 : Int32) (σ : sS) : Option (Int32 × sS) := s_run (S_X2_makeAtom ) (0, [.ref v0, .int v1, .int v2], σ)
theorem E_X2_makeAtom_0 {v0 : Nat} {v1 : Int32} {v2 : Int32} {σ : sS} : R_X2_makeAtom_0 v0 v1 v2 σ = ((F_X2_make v0 0 v1 v2 σ).bind fun q1 =>
  some (q1.1, q1.2)) := by
  unfold R_X2_makeAtom_0
  rw [s_run_eq]
  show s_go _ _ (T_X2_makeAtom_0 v0 v1 v2 σ) = _
  unfold T_X2_makeAtom_0
  simp only [s_go_bind, s_go_ite, s_go_sum, s_go_l, s_go_r, s_go_n]
  try rfl
theorem E_X2_makeAtom {v0 : Nat} {v1 : Int32} {v2 : Int32} {σ : sS} : F_X2_makeAtom v0 v1 v2 σ = ((s_is σ v0 2).bind fun _ => R_X2_makeAtom_0 v0 v1 v2 σ) := rfl
/-! X2_place -/
noncomputable def R_X2_place_0 (k9 : Nat) (v0 : Nat) (v1 : Int32) (v2 : Int32) (v3 : Int32) (σ : sS) : Option (Int32 × sS) := s_run (S_X2_place (F_X2_place k9) ) (0, [.ref v0, .int v1, .int v2, .int v3], σ)
noncomputable def R_X2_place_107 (k9 : Nat) (v0 : Nat) (v1 : Int32) (v2 : Int32) (v3 : Int32) (σ : sS) : Option (Int32 × sS) := s_run (S_X2_place (F_X2_place k9) ) (107, [.ref v0, .int v1, .int v2, .int v3], σ)
theorem E_X2_place_0 {k9 : Nat} {v0 : Nat} {v1 : Int32} {v2 : Int32} {v3 : Int32} {σ : sS} : R_X2_place_0 k9 v0 v1 v2 v3 σ = (if v1 < 0 then (some ((-1), σ))
  else ((s_fi σ v0 2 0).bind fun x1 =>
  if x1 ≤ v1 then (some ((-1), σ))
  else (if v3 ≤ 48 then ((s_fr σ v0 2 1).bind fun x2 =>
  (s_ai σ x2 v1).bind fun x3 =>
  if x3 = 0 then ((s_fr σ v0 2 3).bind fun x4 =>
  (s_ai σ x4 v1).bind fun x5 =>
  if x5 = 3 then ((s_fr σ v0 2 2).bind fun x6 =>
  (s_ai σ x6 v1).bind fun x7 =>
  (F_X2_makeAtom v0 x7 v2 σ).bind fun q8 =>
  some (q8.1, q8.2))
  else (some (v1, σ)))
  else if x3 = 1 then ((s_fr σ v0 2 2).bind fun x9 =>
  (s_ai σ x9 v1).bind fun x10 =>
  (F_X2_place k9 v0 x10 v2 (v3 + 1) σ).bind fun q11 =>
  (F_X2_make v0 1 q11.1 (-1) q11.2).bind fun q12 =>
  some (q12.1, q12.2))
  else if x3 = 2 then (R_X2_place_107 k9 v0 v1 v2 v3 σ)
  else if x3 = 3 then (R_X2_place_107 k9 v0 v1 v2 v3 σ)
  else if x3 = 4 then (R_X2_place_107 k9 v0 v1 v2 v3 σ)
  else (some (v1, σ)))
  else (some ((-1), σ))))) := by
  unfold R_X2_place_0
  rw [s_run_eq]
  show s_go _ _ (T_X2_place_0 (F_X2_place k9) v0 v1 v2 v3 σ) = _
  unfold T_X2_place_0
  simp only [s_go_bind, s_go_ite, s_go_sum, s_go_l, s_go_r, s_go_n]
  try rfl
theorem E_X2_place_107 {k9 : Nat} {v0 : Nat} {v1 : Int32} {v2 : Int32} {v3 : Int32} {σ : sS} : R_X2_place_107 k9 v0 v1 v2 v3 σ = ((s_fr σ v0 2 2).bind fun x1 =>
  (s_ai σ x1 v1).bind fun x2 =>
  (F_X2_place k9 v0 x2 v2 (v3 + 1) σ).bind fun q3 =>
  (s_fr q3.2 v0 2 3).bind fun x4 =>
  (s_ai q3.2 x4 v1).bind fun x5 =>
  (F_X2_place k9 v0 x5 v2 (v3 + 1) q3.2).bind fun q6 =>
  (s_fr q6.2 v0 2 1).bind fun x7 =>
  (s_ai q6.2 x7 v1).bind fun x8 =>
  (F_X2_make v0 x8 q3.1 q6.1 q6.2).bind fun q9 =>
  some (q9.1, q9.2)) := by
  unfold R_X2_place_107
  rw [s_run_eq]
  show s_go _ _ (T_X2_place_107 (F_X2_place k9) v0 v1 v2 v3 σ) = _
  unfold T_X2_place_107
  simp only [s_go_bind, s_go_ite, s_go_sum, s_go_l, s_go_r, s_go_n]
  try rfl
theorem E_X2_place {k9 : Nat}  {v0 : Nat} {v1 : Int32} {v2 : Int32} {v3 : Int32} {σ : sS} : F_X2_place (k9 + 1) v0 v1 v2 v3 σ = ((s_is σ v0 2).bind fun _ => R_X2_place_0 k9 v0 v1 v2 v3 σ) := rfl
/-! X2_makeBinder -/
noncomputable def R_X2_makeBinder_0 (v0 : Nat) (v1 : Int32) (v2 : Int32) (v3 : Int32) (σ : sS) : Option (Int32 × sS) := s_run (S_X2_makeBinder ) (0, [.ref v0, .int v1, .int v2, .int v3], σ)
noncomputable def R_X2_makeBinder_12 (v0 : Nat) (v2 : Int32) (v3 : Int32) (v4 : Int32) (v5 : Int32) (σ : sS) : Option (Int32 × sS) := s_run (S_X2_makeBinder ) (12, [.ref v0, .int v2, .int v3, .int v4, .int v5], σ)
theorem E_X2_makeBinder_0 {v0 : Nat} {v1 : Int32} {v2 : Int32} {v3 : Int32} {σ : sS} : R_X2_makeBinder_0 v0 v1 v2 v3 σ = ((F_X2_make v0 v1 v2 (-1) σ).bind fun q1 =>
  R_X2_makeBinder_12 v0 v2 v3 q1.1 0 q1.2) := by
  unfold R_X2_makeBinder_0
  rw [s_run_eq]
  show s_go _ _ (T_X2_makeBinder_0 v0 v1 v2 v3 σ) = _
  unfold T_X2_makeBinder_0
  simp only [s_go_bind, s_go_ite, s_go_sum, s_go_l, s_go_r, s_go_n]
  try rfl
theorem E_X2_makeBinder_12 {v0 : Nat} {v2 : Int32} {v3 : Int32} {v4 : Int32} {v5 : Int32} {σ : sS} : R_X2_makeBinder_12 v0 v2 v3 v4 v5 σ = (if v4 = (-1) then (some (v4, σ))
  else (if v3 ≤ v5 then (some (v4, σ))
  else (if (3 : Int32) ≤ v5 then (some (v4, σ))
  else ((F_X2_place 64 v0 v2 v5 0 σ).bind fun q1 =>
  (s_fr q1.2 v0 2 6).bind fun x2 =>
  (s_si q1.2 x2 ((v4 * 3) + v5) q1.1).bind fun σ3 =>
  R_X2_makeBinder_12 v0 v2 v3 v4 (v5 + 1) σ3)))) := by
  unfold R_X2_makeBinder_12
  rw [s_run_eq]
  show s_go _ _ (T_X2_makeBinder_12 v0 v2 v3 v4 v5 σ) = _
  unfold T_X2_makeBinder_12
  simp only [s_go_bind, s_go_ite, s_go_sum, s_go_l, s_go_r, s_go_n]
  try rfl
theorem E_X2_makeBinder {v0 : Nat} {v1 : Int32} {v2 : Int32} {v3 : Int32} {σ : sS} : F_X2_makeBinder v0 v1 v2 v3 σ = ((s_is σ v0 2).bind fun _ => R_X2_makeBinder_0 v0 v1 v2 v3 σ) := rfl
/-! X5_letterOf -/
noncomputable def R_X5_letterOf_0 (v0 : Int32) (σ : sS) : Option (Int32 × sS) := s_run (S_X5_letterOf ) (0, [.int v0], σ)
theorem E_X5_letterOf_0 {v0 : Int32} {σ : sS} : R_X5_letterOf_0 v0 σ = (if v0 = 102 then (some (4, σ))
  else if v0 = 103 then (some (5, σ))
  else if v0 = 104 then (some ((-1), σ))
  else if v0 = 105 then (some ((-1), σ))
  else if v0 = 106 then (some ((-1), σ))
  else if v0 = 107 then (some ((-1), σ))
  else if v0 = 108 then (some ((-1), σ))
  else if v0 = 109 then (some ((-1), σ))
  else if v0 = 110 then (some ((-1), σ))
  else if v0 = 111 then (some ((-1), σ))
  else if v0 = 112 then (some (0, σ))
  else if v0 = 113 then (some (1, σ))
  else if v0 = 114 then (some (2, σ))
  else if v0 = 115 then (some (3, σ))
  else (some ((-1), σ))) := by
  unfold R_X5_letterOf_0
  rw [s_run_eq]
  show s_go _ _ (T_X5_letterOf_0 v0 σ) = _
  unfold T_X5_letterOf_0
  simp only [s_go_bind, s_go_ite, s_go_sum, s_go_l, s_go_r, s_go_n]
  try rfl
theorem E_X5_letterOf {v0 : Int32} {σ : sS} : F_X5_letterOf v0 σ = (R_X5_letterOf_0 v0 σ) := rfl
/-! X5_readShort -/
noncomputable def R_X5_readShort_0 (v0 : Nat) (v1 : Int32) (σ : sS) : Option (Int32 × sS) := s_run (S_X5_readShort ) (0, [.ref v0, .int v1], σ)
noncomputable def R_X5_readShort_81 (v0 : Nat) (σ : sS) : Option (Int32 × sS) := s_run (S_X5_readShort ) (81, [.ref v0], σ)
theorem E_X5_readShort_0 {v0 : Nat} {v1 : Int32} {σ : sS} : R_X5_readShort_0 v0 v1 σ = ((F_X5_letterOf v1 σ).bind fun q1 =>
  if q1.1 = (-1) then ((s_fi q1.2 v0 5 4).bind fun x19 =>
  (F_X5_fail v0 x19 q1.2).bind fun q20 =>
  some (q20.1, q20.2))
  else (if (4 : Int32) ≤ q1.1 then ((s_fi q1.2 v0 5 4).bind fun x2 =>
  (F_X5_byteAt v0 (x2 + 1) q1.2).bind fun q3 =>
  if (q3.1 - 48) < 0 then (R_X5_readShort_81 v0 q3.2)
  else (if (q3.1 - 48) ≤ 9 then ((s_fi q3.2 v0 5 4).bind fun x4 =>
  (F_X5_mayTakeSign v0 x4 q3.2).bind fun q5 =>
  if q5.1 = 0 then (some ((-1), q5.2))
  else ((s_fi q5.2 v0 5 6).bind fun x6 =>
  if (q3.1 - 48) < x6 then ((s_fi q5.2 v0 5 4).bind fun x7 =>
  (s_pf q5.2 v0 5 4 (.int (x7 + 2))).bind fun σ8 =>
  (s_fr σ8 v0 5 2).bind fun x9 =>
  (F_X2_makeAtom x9 q1.1 (q3.1 - 48) σ8).bind fun q10 =>
  some (q10.1, q10.2))
  else ((s_fi q5.2 v0 5 4).bind fun x11 =>
  (F_X5_fail v0 (x11 + 1) q5.2).bind fun q12 =>
  some (q12.1, q12.2))))
  else (R_X5_readShort_81 v0 q3.2)))
  else ((s_fi q1.2 v0 5 4).bind fun x13 =>
  (F_X5_mayTakeSign v0 x13 q1.2).bind fun q14 =>
  if q14.1 = 0 then (some ((-1), q14.2))
  else ((s_fi q14.2 v0 5 4).bind fun x15 =>
  (s_pf q14.2 v0 5 4 (.int (x15 + 1))).bind fun σ16 =>
  (s_fr σ16 v0 5 2).bind fun x17 =>
  (F_X2_makeAtom x17 q1.1 0 σ16).bind fun q18 =>
  some (q18.1, q18.2))))) := by
  unfold R_X5_readShort_0
  rw [s_run_eq]
  show s_go _ _ (T_X5_readShort_0 v0 v1 σ) = _
  unfold T_X5_readShort_0
  simp only [s_go_bind, s_go_ite, s_go_sum, s_go_l, s_go_r, s_go_n]
  try rfl
theorem E_X5_readShort_81 {v0 : Nat} {σ : sS} : R_X5_readShort_81 v0 σ = ((s_fi σ v0 5 4).bind fun x1 =>
  (F_X5_fail v0 x1 σ).bind fun q2 =>
  some (q2.1, q2.2)) := by
  unfold R_X5_readShort_81
  rw [s_run_eq]
  show s_go _ _ (T_X5_readShort_81 v0 σ) = _
  unfold T_X5_readShort_81
  simp only [s_go_bind, s_go_ite, s_go_sum, s_go_l, s_go_r, s_go_n]
  try rfl
theorem E_X5_readShort {v0 : Nat} {v1 : Int32} {σ : sS} : F_X5_readShort v0 v1 σ = ((s_is σ v0 5).bind fun _ => R_X5_readShort_0 v0 v1 σ) := rfl
/-! X5_readAnd X5_readBinder X5_readIf X5_readInner X5_readNot X5_readOr X5_readUnit X5_readWord -/
noncomputable def R_X5_readAnd_0 (k9 : Nat) (v0 : Nat) (v1 : Int32) (v2 : Int32) (σ : sS) : Option (Int32 × sS) := s_run (S_X5_readAnd (F_X5_readAnd k9) (F_X5_readBinder k9) (F_X5_readIf k9) (F_X5_readInner k9) (F_X5_readNot k9) (F_X5_readOr k9) (F_X5_readUnit k9) (F_X5_readWord k9) ) (0, [.ref v0, .int v1, .int v2], σ)
noncomputable def R_X5_readAnd_10 (k9 : Nat) (v0 : Nat) (v1 : Int32) (v2 : Int32) (v3 : Int32) (v4 : Int32) (σ : sS) : Option (Int32 × sS) := s_run (S_X5_readAnd (F_X5_readAnd k9) (F_X5_readBinder k9) (F_X5_readIf k9) (F_X5_readInner k9) (F_X5_readNot k9) (F_X5_readOr k9) (F_X5_readUnit k9) (F_X5_readWord k9) ) (10, [.ref v0, .int v1, .int v2, .int v3, .int v4], σ)
noncomputable def R_X5_readBinder_0 (k9 : Nat) (v0 : Nat) (v1 : Int32) (v2 : Int32) (v3 : Int32) (v4 : Int32) (σ : sS) : Option (Int32 × sS) := s_run (S_X5_readBinder (F_X5_readAnd k9) (F_X5_readBinder k9) (F_X5_readIf k9) (F_X5_readInner k9) (F_X5_readNot k9) (F_X5_readOr k9) (F_X5_readUnit k9) (F_X5_readWord k9) ) (0, [.ref v0, .int v1, .int v2, .int v3, .int v4], σ)
noncomputable def R_X5_readIf_0 (k9 : Nat) (v0 : Nat) (v1 : Int32) (v2 : Int32) (σ : sS) : Option (Int32 × sS) := s_run (S_X5_readIf (F_X5_readAnd k9) (F_X5_readBinder k9) (F_X5_readIf k9) (F_X5_readInner k9) (F_X5_readNot k9) (F_X5_readOr k9) (F_X5_readUnit k9) (F_X5_readWord k9) ) (0, [.ref v0, .int v1, .int v2], σ)
noncomputable def R_X5_readInner_0 (k9 : Nat) (v0 : Nat) (v1 : Int32) (v2 : Int32) (σ : sS) : Option (Int32 × sS) := s_run (S_X5_readInner (F_X5_readAnd k9) (F_X5_readBinder k9) (F_X5_readIf k9) (F_X5_readInner k9) (F_X5_readNot k9) (F_X5_readOr k9) (F_X5_readUnit k9) (F_X5_readWord k9) ) (0, [.ref v0, .int v1, .int v2], σ)
noncomputable def R_X5_readNot_0 (k9 : Nat) (v0 : Nat) (v1 : Int32) (v2 : Int32) (σ : sS) : Option (Int32 × sS) := s_run (S_X5_readNot (F_X5_readAnd k9) (F_X5_readBinder k9) (F_X5_readIf k9) (F_X5_readInner k9) (F_X5_readNot k9) (F_X5_readOr k9) (F_X5_readUnit k9) (F_X5_readWord k9) ) (0, [.ref v0, .int v1, .int v2], σ)
noncomputable def R_X5_readOr_0 (k9 : Nat) (v0 : Nat) (v1 : Int32) (v2 : Int32) (σ : sS) : Option (Int32 × sS) := s_run (S_X5_readOr (F_X5_readAnd k9) (F_X5_readBinder k9) (F_X5_readIf k9) (F_X5_readInner k9) (F_X5_readNot k9) (F_X5_readOr k9) (F_X5_readUnit k9) (F_X5_readWord k9) ) (0, [.ref v0, .int v1, .int v2], σ)
noncomputable def R_X5_readOr_10 (k9 : Nat) (v0 : Nat) (v1 : Int32) (v2 : Int32) (v3 : Int32) (v4 : Int32) (σ : sS) : Option (Int32 × sS) := s_run (S_X5_readOr (F_X5_readAnd k9) (F_X5_readBinder k9) (F_X5_readIf k9) (F_X5_readInner k9) (F_X5_readNot k9) (F_X5_readOr k9) (F_X5_readUnit k9) (F_X5_readWord k9) ) (10, [.ref v0, .int v1, .int v2, .int v3, .int v4], σ)
noncomputable def R_X5_readUnit_0 (k9 : Nat) (v0 : Nat) (v1 : Int32) (v2 : Int32) (σ : sS) : Option (Int32 × sS) := s_run (S_X5_readUnit (F_X5_readAnd k9) (F_X5_readBinder k9) (F_X5_readIf k9) (F_X5_readInner k9) (F_X5_readNot k9) (F_X5_readOr k9) (F_X5_readUnit k9) (F_X5_readWord k9) ) (0, [.ref v0, .int v1, .int v2], σ)
noncomputable def R_X5_readWord_0 (k9 : Nat) (v0 : Nat) (v1 : Int32) (v2 : Int32) (σ : sS) : Option (Int32 × sS) := s_run (S_X5_readWord (F_X5_readAnd k9) (F_X5_readBinder k9) (F_X5_readIf k9) (F_X5_readInner k9) (F_X5_readNot k9) (F_X5_readOr k9) (F_X5_readUnit k9) (F_X5_readWord k9) ) (0, [.ref v0, .int v1, .int v2], σ)
noncomputable def R_X5_readWord_98 (k9 : Nat) (v0 : Nat) (v2 : Int32) (v3 : Int32) (v4 : Int32) (σ : sS) : Option (Int32 × sS) := s_run (S_X5_readWord (F_X5_readAnd k9) (F_X5_readBinder k9) (F_X5_readIf k9) (F_X5_readInner k9) (F_X5_readNot k9) (F_X5_readOr k9) (F_X5_readUnit k9) (F_X5_readWord k9) ) (98, [.ref v0, .int v2, .int v3, .int v4], σ)
noncomputable def R_X5_readWord_103 (k9 : Nat) (v0 : Nat) (v2 : Int32) (v3 : Int32) (v4 : Int32) (w0 : Int32) (σ : sS) : Option (Int32 × sS) := s_run (S_X5_readWord (F_X5_readAnd k9) (F_X5_readBinder k9) (F_X5_readIf k9) (F_X5_readInner k9) (F_X5_readNot k9) (F_X5_readOr k9) (F_X5_readUnit k9) (F_X5_readWord k9) ) (103, [.ref v0, .int v2, .int v3, .int v4, .int w0], σ)
noncomputable def R_X5_readWord_122 (k9 : Nat) (v0 : Nat) (v3 : Int32) (σ : sS) : Option (Int32 × sS) := s_run (S_X5_readWord (F_X5_readAnd k9) (F_X5_readBinder k9) (F_X5_readIf k9) (F_X5_readInner k9) (F_X5_readNot k9) (F_X5_readOr k9) (F_X5_readUnit k9) (F_X5_readWord k9) ) (122, [.ref v0, .int v3], σ)
theorem E_X5_readAnd_0 {k9 : Nat} {v0 : Nat} {v1 : Int32} {v2 : Int32} {σ : sS} : R_X5_readAnd_0 k9 v0 v1 v2 σ = ((F_X5_readUnit k9 v0 v1 v2 σ).bind fun q1 =>
  R_X5_readAnd_10 k9 v0 v1 v2 q1.1 0 q1.2) := by
  unfold R_X5_readAnd_0
  rw [s_run_eq]
  show s_go _ _ (T_X5_readAnd_0 (F_X5_readAnd k9) (F_X5_readBinder k9) (F_X5_readIf k9) (F_X5_readInner k9) (F_X5_readNot k9) (F_X5_readOr k9) (F_X5_readUnit k9) (F_X5_readWord k9) v0 v1 v2 σ) = _
  unfold T_X5_readAnd_0
  simp only [s_go_bind, s_go_ite, s_go_sum, s_go_l, s_go_r, s_go_n]
  try rfl
theorem E_X5_readAnd_10 {k9 : Nat} {v0 : Nat} {v1 : Int32} {v2 : Int32} {v3 : Int32} {v4 : Int32} {σ : sS} : R_X5_readAnd_10 k9 v0 v1 v2 v3 v4 σ = (if (400 : Int32) ≤ v4 then (some (v3, σ))
  else ((F_X5_peek v0 σ).bind fun q1 =>
  if q1.1 = 38 then ((s_fi q1.2 v0 5 4).bind fun x2 =>
  (F_X5_mayTakeSign v0 x2 q1.2).bind fun q3 =>
  if q3.1 = 0 then (some (v3, q3.2))
  else ((s_fi q3.2 v0 5 4).bind fun x4 =>
  (s_pf q3.2 v0 5 4 (.int (x4 + 1))).bind fun σ5 =>
  (F_X5_readUnit k9 v0 v1 v2 σ5).bind fun q6 =>
  (F_X5_join v0 2 v3 q6.1 q6.2).bind fun q7 =>
  R_X5_readAnd_10 k9 v0 v1 v2 q7.1 (v4 + 1) q7.2))
  else (some (v3, q1.2)))) := by
  unfold R_X5_readAnd_10
  rw [s_run_eq]
  show s_go _ _ (T_X5_readAnd_10 (F_X5_readAnd k9) (F_X5_readBinder k9) (F_X5_readIf k9) (F_X5_readInner k9) (F_X5_readNot k9) (F_X5_readOr k9) (F_X5_readUnit k9) (F_X5_readWord k9) v0 v1 v2 v3 v4 σ) = _
  unfold T_X5_readAnd_10
  simp only [s_go_bind, s_go_ite, s_go_sum, s_go_l, s_go_r, s_go_n]
  try rfl
theorem E_X5_readAnd {k9 : Nat}  {v0 : Nat} {v1 : Int32} {v2 : Int32} {σ : sS} : F_X5_readAnd (k9 + 1) v0 v1 v2 σ = ((s_is σ v0 5).bind fun _ => R_X5_readAnd_0 k9 v0 v1 v2 σ) := rfl
theorem E_X5_readBinder_0 {k9 : Nat} {v0 : Nat} {v1 : Int32} {v2 : Int32} {v3 : Int32} {v4 : Int32} {σ : sS} : R_X5_readBinder_0 k9 v0 v1 v2 v3 v4 σ = (if v4 = 0 then ((F_X5_mayGoDeeper v0 v3 σ).bind fun q1 =>
  if q1.1 = 0 then (some ((-1), q1.2))
  else ((s_fi q1.2 v0 5 4).bind fun x2 =>
  (F_X5_mayTakeSign v0 x2 q1.2).bind fun q3 =>
  if q3.1 = 0 then (some ((-1), q3.2))
  else ((s_pf q3.2 v0 5 4 (.int v2)).bind fun σ4 =>
  (F_X5_readUnit k9 v0 (v3 + 1) 1 σ4).bind fun q5 =>
  (s_fi q5.2 v0 5 1).bind fun x6 =>
  if x6 = (-1) then ((s_fr q5.2 v0 5 2).bind fun x7 =>
  (s_fi q5.2 v0 5 6).bind fun x8 =>
  (F_X2_makeBinder x7 v1 q5.1 x8 q5.2).bind fun q9 =>
  some (q9.1, q9.2))
  else (some ((-1), q5.2)))))
  else ((s_fi σ v0 5 4).bind fun x10 =>
  (F_X5_fail v0 x10 σ).bind fun q11 =>
  some (q11.1, q11.2))) := by
  unfold R_X5_readBinder_0
  rw [s_run_eq]
  show s_go _ _ (T_X5_readBinder_0 (F_X5_readAnd k9) (F_X5_readBinder k9) (F_X5_readIf k9) (F_X5_readInner k9) (F_X5_readNot k9) (F_X5_readOr k9) (F_X5_readUnit k9) (F_X5_readWord k9) v0 v1 v2 v3 v4 σ) = _
  unfold T_X5_readBinder_0
  simp only [s_go_bind, s_go_ite, s_go_sum, s_go_l, s_go_r, s_go_n]
  try rfl
theorem E_X5_readBinder {k9 : Nat}  {v0 : Nat} {v1 : Int32} {v2 : Int32} {v3 : Int32} {v4 : Int32} {σ : sS} : F_X5_readBinder (k9 + 1) v0 v1 v2 v3 v4 σ = ((s_is σ v0 5).bind fun _ => R_X5_readBinder_0 k9 v0 v1 v2 v3 v4 σ) := rfl
theorem E_X5_readIf_0 {k9 : Nat} {v0 : Nat} {v1 : Int32} {v2 : Int32} {σ : sS} : R_X5_readIf_0 k9 v0 v1 v2 σ = ((F_X5_readOr k9 v0 v1 v2 σ).bind fun q1 =>
  (F_X5_peek v0 q1.2).bind fun q2 =>
  if q2.1 = 62 then ((F_X5_mayGoDeeper v0 v1 q2.2).bind fun q3 =>
  if q3.1 = 0 then (some (q1.1, q3.2))
  else ((s_fi q3.2 v0 5 4).bind fun x4 =>
  (F_X5_mayTakeSign v0 x4 q3.2).bind fun q5 =>
  if q5.1 = 0 then (some (q1.1, q5.2))
  else ((s_fi q5.2 v0 5 4).bind fun x6 =>
  (s_pf q5.2 v0 5 4 (.int (x6 + 1))).bind fun σ7 =>
  (F_X5_readIf k9 v0 (v1 + 1) v2 σ7).bind fun q8 =>
  (F_X5_join v0 4 q1.1 q8.1 q8.2).bind fun q9 =>
  some (q9.1, q9.2))))
  else (some (q1.1, q2.2))) := by
  unfold R_X5_readIf_0
  rw [s_run_eq]
  show s_go _ _ (T_X5_readIf_0 (F_X5_readAnd k9) (F_X5_readBinder k9) (F_X5_readIf k9) (F_X5_readInner k9) (F_X5_readNot k9) (F_X5_readOr k9) (F_X5_readUnit k9) (F_X5_readWord k9) v0 v1 v2 σ) = _
  unfold T_X5_readIf_0
  simp only [s_go_bind, s_go_ite, s_go_sum, s_go_l, s_go_r, s_go_n]
  try rfl
theorem E_X5_readIf {k9 : Nat}  {v0 : Nat} {v1 : Int32} {v2 : Int32} {σ : sS} : F_X5_readIf (k9 + 1) v0 v1 v2 σ = ((s_is σ v0 5).bind fun _ => R_X5_readIf_0 k9 v0 v1 v2 σ) := rfl
theorem E_X5_readInner_0 {k9 : Nat} {v0 : Nat} {v1 : Int32} {v2 : Int32} {σ : sS} : R_X5_readInner_0 k9 v0 v1 v2 σ = ((F_X5_mayGoDeeper v0 v1 σ).bind fun q1 =>
  if q1.1 = 0 then (some ((-1), q1.2))
  else ((s_fi q1.2 v0 5 4).bind fun x2 =>
  (s_pf q1.2 v0 5 4 (.int (x2 + 1))).bind fun σ3 =>
  (F_X5_readIf k9 v0 (v1 + 1) v2 σ3).bind fun q4 =>
  (F_X5_peek v0 q4.2).bind fun q5 =>
  if q5.1 = (-1) then ((s_fi q5.2 v0 5 0).bind fun x10 =>
  (F_X5_fail v0 x10 q5.2).bind fun q11 =>
  some (q11.1, q11.2))
  else (if q5.1 = 41 then ((s_fi q5.2 v0 5 4).bind fun x6 =>
  (s_pf q5.2 v0 5 4 (.int (x6 + 1))).bind fun σ7 =>
  some (q4.1, σ7))
  else ((s_fi q5.2 v0 5 4).bind fun x8 =>
  (F_X5_fail v0 x8 q5.2).bind fun q9 =>
  some (q9.1, q9.2))))) := by
  unfold R_X5_readInner_0
  rw [s_run_eq]
  show s_go _ _ (T_X5_readInner_0 (F_X5_readAnd k9) (F_X5_readBinder k9) (F_X5_readIf k9) (F_X5_readInner k9) (F_X5_readNot k9) (F_X5_readOr k9) (F_X5_readUnit k9) (F_X5_readWord k9) v0 v1 v2 σ) = _
  unfold T_X5_readInner_0
  simp only [s_go_bind, s_go_ite, s_go_sum, s_go_l, s_go_r, s_go_n]
  try rfl
theorem E_X5_readInner {k9 : Nat}  {v0 : Nat} {v1 : Int32} {v2 : Int32} {σ : sS} : F_X5_readInner (k9 + 1) v0 v1 v2 σ = ((s_is σ v0 5).bind fun _ => R_X5_readInner_0 k9 v0 v1 v2 σ) := rfl
theorem E_X5_readNot_0 {k9 : Nat} {v0 : Nat} {v1 : Int32} {v2 : Int32} {σ : sS} : R_X5_readNot_0 k9 v0 v1 v2 σ = ((F_X5_mayGoDeeper v0 v1 σ).bind fun q1 =>
  if q1.1 = 0 then (some ((-1), q1.2))
  else ((s_fi q1.2 v0 5 4).bind fun x2 =>
  (F_X5_mayTakeSign v0 x2 q1.2).bind fun q3 =>
  if q3.1 = 0 then (some ((-1), q3.2))
  else ((s_fi q3.2 v0 5 4).bind fun x4 =>
  (s_pf q3.2 v0 5 4 (.int (x4 + 1))).bind fun σ5 =>
  (F_X5_readUnit k9 v0 (v1 + 1) v2 σ5).bind fun q6 =>
  (F_X5_join v0 1 q6.1 (-1) q6.2).bind fun q7 =>
  some (q7.1, q7.2)))) := by
  unfold R_X5_readNot_0
  rw [s_run_eq]
  show s_go _ _ (T_X5_readNot_0 (F_X5_readAnd k9) (F_X5_readBinder k9) (F_X5_readIf k9) (F_X5_readInner k9) (F_X5_readNot k9) (F_X5_readOr k9) (F_X5_readUnit k9) (F_X5_readWord k9) v0 v1 v2 σ) = _
  unfold T_X5_readNot_0
  simp only [s_go_bind, s_go_ite, s_go_sum, s_go_l, s_go_r, s_go_n]
  try rfl
theorem E_X5_readNot {k9 : Nat}  {v0 : Nat} {v1 : Int32} {v2 : Int32} {σ : sS} : F_X5_readNot (k9 + 1) v0 v1 v2 σ = ((s_is σ v0 5).bind fun _ => R_X5_readNot_0 k9 v0 v1 v2 σ) := rfl
theorem E_X5_readOr_0 {k9 : Nat} {v0 : Nat} {v1 : Int32} {v2 : Int32} {σ : sS} : R_X5_readOr_0 k9 v0 v1 v2 σ = ((F_X5_readAnd k9 v0 v1 v2 σ).bind fun q1 =>
  R_X5_readOr_10 k9 v0 v1 v2 q1.1 0 q1.2) := by
  unfold R_X5_readOr_0
  rw [s_run_eq]
  show s_go _ _ (T_X5_readOr_0 (F_X5_readAnd k9) (F_X5_readBinder k9) (F_X5_readIf k9) (F_X5_readInner k9) (F_X5_readNot k9) (F_X5_readOr k9) (F_X5_readUnit k9) (F_X5_readWord k9) v0 v1 v2 σ) = _
  unfold T_X5_readOr_0
  simp only [s_go_bind, s_go_ite, s_go_sum, s_go_l, s_go_r, s_go_n]
  try rfl
theorem E_X5_readOr_10 {k9 : Nat} {v0 : Nat} {v1 : Int32} {v2 : Int32} {v3 : Int32} {v4 : Int32} {σ : sS} : R_X5_readOr_10 k9 v0 v1 v2 v3 v4 σ = (if (400 : Int32) ≤ v4 then (some (v3, σ))
  else ((F_X5_peek v0 σ).bind fun q1 =>
  if q1.1 = 124 then ((s_fi q1.2 v0 5 4).bind fun x2 =>
  (F_X5_mayTakeSign v0 x2 q1.2).bind fun q3 =>
  if q3.1 = 0 then (some (v3, q3.2))
  else ((s_fi q3.2 v0 5 4).bind fun x4 =>
  (s_pf q3.2 v0 5 4 (.int (x4 + 1))).bind fun σ5 =>
  (F_X5_readAnd k9 v0 v1 v2 σ5).bind fun q6 =>
  (F_X5_join v0 3 v3 q6.1 q6.2).bind fun q7 =>
  R_X5_readOr_10 k9 v0 v1 v2 q7.1 (v4 + 1) q7.2))
  else (some (v3, q1.2)))) := by
  unfold R_X5_readOr_10
  rw [s_run_eq]
  show s_go _ _ (T_X5_readOr_10 (F_X5_readAnd k9) (F_X5_readBinder k9) (F_X5_readIf k9) (F_X5_readInner k9) (F_X5_readNot k9) (F_X5_readOr k9) (F_X5_readUnit k9) (F_X5_readWord k9) v0 v1 v2 v3 v4 σ) = _
  unfold T_X5_readOr_10
  simp only [s_go_bind, s_go_ite, s_go_sum, s_go_l, s_go_r, s_go_n]
  try rfl
theorem E_X5_readOr {k9 : Nat}  {v0 : Nat} {v1 : Int32} {v2 : Int32} {σ : sS} : F_X5_readOr (k9 + 1) v0 v1 v2 σ = ((s_is σ v0 5).bind fun _ => R_X5_readOr_0 k9 v0 v1 v2 σ) := rfl
theorem E_X5_readUnit_0 {k9 : Nat} {v0 : Nat} {v1 : Int32} {v2 : Int32} {σ : sS} : R_X5_readUnit_0 k9 v0 v1 v2 σ = ((F_X5_peek v0 σ).bind fun q1 =>
  if q1.1 = (-1) then ((s_fi q1.2 v0 5 0).bind fun x9 =>
  (F_X5_fail v0 x9 q1.2).bind fun q10 =>
  some (q10.1, q10.2))
  else (if q1.1 = 45 then ((F_X5_readNot k9 v0 v1 v2 q1.2).bind fun q8 =>
  some (q8.1, q8.2))
  else (if q1.1 = 40 then ((F_X5_readInner k9 v0 v1 v2 q1.2).bind fun q7 =>
  some (q7.1, q7.2))
  else ((s_fi q1.2 v0 5 4).bind fun x2 =>
  (F_X5_isLetter v0 x2 q1.2).bind fun q3 =>
  if q3.1 = 0 then ((s_fi q3.2 v0 5 4).bind fun x4 =>
  (F_X5_fail v0 x4 q3.2).bind fun q5 =>
  some (q5.1, q5.2))
  else ((F_X5_readWord k9 v0 v1 v2 q3.2).bind fun q6 =>
  some (q6.1, q6.2)))))) := by
  unfold R_X5_readUnit_0
  rw [s_run_eq]
  show s_go _ _ (T_X5_readUnit_0 (F_X5_readAnd k9) (F_X5_readBinder k9) (F_X5_readIf k9) (F_X5_readInner k9) (F_X5_readNot k9) (F_X5_readOr k9) (F_X5_readUnit k9) (F_X5_readWord k9) v0 v1 v2 σ) = _
  unfold T_X5_readUnit_0
  simp only [s_go_bind, s_go_ite, s_go_sum, s_go_l, s_go_r, s_go_n]
  try rfl
theorem E_X5_readUnit {k9 : Nat}  {v0 : Nat} {v1 : Int32} {v2 : Int32} {σ : sS} : F_X5_readUnit (k9 + 1) v0 v1 v2 σ = ((s_is σ v0 5).bind fun _ => R_X5_readUnit_0 k9 v0 v1 v2 σ) := rfl
theorem E_X5_readWord_0 {k9 : Nat} {v0 : Nat} {v1 : Int32} {v2 : Int32} {σ : sS} : R_X5_readWord_0 k9 v0 v1 v2 σ = ((s_fi σ v0 5 4).bind fun x1 =>
  (F_X5_wordEnd v0 σ).bind fun q2 =>
  (F_X5_isWord v0 x1 q2.1 (q2.2.2.2.2 2) q2.2).bind fun q3 =>
  if q3.1 = 0 then ((F_X5_isWord v0 x1 q2.1 (q3.2.2.2.2 3) q3.2).bind fun q4 =>
  if q4.1 = 0 then (if (q2.1 - x1) = 1 then ((F_X5_byteAt v0 x1 q4.2).bind fun q7 =>
  (F_X5_readShort v0 q7.1 q7.2).bind fun q8 =>
  some (q8.1, q8.2))
  else ((F_X5_isWord v0 x1 q2.1 (q4.2.2.2.2 4) q4.2).bind fun q5 =>
  if q5.1 = 0 then ((F_X5_isWord v0 x1 q2.1 (q5.2.2.2.2 5) q5.2).bind fun q6 =>
  if q6.1 = 0 then (R_X5_readWord_103 k9 v0 v2 x1 q2.1 0 q6.2)
  else (R_X5_readWord_98 k9 v0 v2 x1 q2.1 q6.2))
  else (R_X5_readWord_98 k9 v0 v2 x1 q2.1 q5.2)))
  else ((F_X5_readBinder k9 v0 6 q2.1 v1 v2 q4.2).bind fun q9 =>
  some (q9.1, q9.2)))
  else ((F_X5_readBinder k9 v0 5 q2.1 v1 v2 q3.2).bind fun q10 =>
  some (q10.1, q10.2))) := by
  unfold R_X5_readWord_0
  rw [s_run_eq]
  show s_go _ _ (T_X5_readWord_0 (F_X5_readAnd k9) (F_X5_readBinder k9) (F_X5_readIf k9) (F_X5_readInner k9) (F_X5_readNot k9) (F_X5_readOr k9) (F_X5_readUnit k9) (F_X5_readWord k9) v0 v1 v2 σ) = _
  unfold T_X5_readWord_0
  simp only [s_go_bind, s_go_ite, s_go_sum, s_go_l, s_go_r, s_go_n]
  try rfl
theorem E_X5_readWord_98 {k9 : Nat} {v0 : Nat} {v2 : Int32} {v3 : Int32} {v4 : Int32} {σ : sS} : R_X5_readWord_98 k9 v0 v2 v3 v4 σ = (R_X5_readWord_103 k9 v0 v2 v3 v4 1 σ) := by
  unfold R_X5_readWord_98
  rw [s_run_eq]
  show s_go _ _ (T_X5_readWord_98 (F_X5_readAnd k9) (F_X5_readBinder k9) (F_X5_readIf k9) (F_X5_readInner k9) (F_X5_readNot k9) (F_X5_readOr k9) (F_X5_readUnit k9) (F_X5_readWord k9) v0 v2 v3 v4 σ) = _
  unfold T_X5_readWord_98
  simp only [s_go_bind, s_go_ite, s_go_sum, s_go_l, s_go_r, s_go_n]
  try rfl
theorem E_X5_readWord_103 {k9 : Nat} {v0 : Nat} {v2 : Int32} {v3 : Int32} {v4 : Int32} {w0 : Int32} {σ : sS} : R_X5_readWord_103 k9 v0 v2 v3 v4 w0 σ = (if w0 = 0 then (R_X5_readWord_122 k9 v0 v3 σ)
  else (if v2 = 0 then (R_X5_readWord_122 k9 v0 v3 σ)
  else ((F_X5_mayTakeSign v0 v3 σ).bind fun q1 =>
  if q1.1 = 0 then (R_X5_readWord_122 k9 v0 v3 q1.2)
  else ((s_pf q1.2 v0 5 4 (.int v4)).bind fun σ2 =>
  (s_fr σ2 v0 5 2).bind fun x3 =>
  (F_X5_byteAt v0 v3 σ2).bind fun q4 =>
  (F_X5_letterOf q4.1 q4.2).bind fun q5 =>
  (F_X2_makeAtom x3 q5.1 3 q5.2).bind fun q6 =>
  some (q6.1, q6.2))))) := by
  unfold R_X5_readWord_103
  rw [s_run_eq]
  show s_go _ _ (T_X5_readWord_103 (F_X5_readAnd k9) (F_X5_readBinder k9) (F_X5_readIf k9) (F_X5_readInner k9) (F_X5_readNot k9) (F_X5_readOr k9) (F_X5_readUnit k9) (F_X5_readWord k9) v0 v2 v3 v4 w0 σ) = _
  unfold T_X5_readWord_103
  simp only [s_go_bind, s_go_ite, s_go_sum, s_go_l, s_go_r, s_go_n]
  try rfl
theorem E_X5_readWord_122 {k9 : Nat} {v0 : Nat} {v3 : Int32} {σ : sS} : R_X5_readWord_122 k9 v0 v3 σ = ((F_X5_fail v0 v3 σ).bind fun q1 =>
  some (q1.1, q1.2)) := by
  unfold R_X5_readWord_122
  rw [s_run_eq]
  show s_go _ _ (T_X5_readWord_122 (F_X5_readAnd k9) (F_X5_readBinder k9) (F_X5_readIf k9) (F_X5_readInner k9) (F_X5_readNot k9) (F_X5_readOr k9) (F_X5_readUnit k9) (F_X5_readWord k9) v0 v3 σ) = _
  unfold T_X5_readWord_122
  simp only [s_go_bind, s_go_ite, s_go_sum, s_go_l, s_go_r, s_go_n]
  try rfl
theorem E_X5_readWord {k9 : Nat}  {v0 : Nat} {v1 : Int32} {v2 : Int32} {σ : sS} : F_X5_readWord (k9 + 1) v0 v1 v2 σ = ((s_is σ v0 5).bind fun _ => R_X5_readWord_0 k9 v0 v1 v2 σ) := rfl
/-! X5_read -/
noncomputable def R_X5_read_0 (v0 : Nat) (v1 : Int32) (σ : sS) : Option (Int32 × sS) := s_run (S_X5_read ) (0, [.ref v0, .int v1], σ)
noncomputable def R_X5_read_44 (v0 : Nat) (v2 : Int32) (σ : sS) : Option (Int32 × sS) := s_run (S_X5_read ) (44, [.ref v0, .int v2], σ)
theorem E_X5_read_0 {v0 : Nat} {v1 : Int32} {σ : sS} : R_X5_read_0 v0 v1 σ = ((s_pf σ v0 5 6 (.int v1)).bind fun σ1 =>
  (s_pf σ1 v0 5 4 (.int 0)).bind fun σ2 =>
  (s_pf σ2 v0 5 5 (.int 0)).bind fun σ3 =>
  (s_pf σ3 v0 5 1 (.int (-1))).bind fun σ4 =>
  (F_X5_readIf 64 v0 0 0 σ4).bind fun q5 =>
  (F_X5_peek v0 q5.2).bind fun q6 =>
  if q6.1 = (-1) then (R_X5_read_44 v0 q5.1 q6.2)
  else ((s_fi q6.2 v0 5 4).bind fun x7 =>
  (F_X5_fail v0 x7 q6.2).bind fun q8 =>
  R_X5_read_44 v0 q5.1 q8.2)) := by
  unfold R_X5_read_0
  rw [s_run_eq]
  show s_go _ _ (T_X5_read_0 v0 v1 σ) = _
  unfold T_X5_read_0
  simp only [s_go_bind, s_go_ite, s_go_sum, s_go_l, s_go_r, s_go_n]
  try rfl
theorem E_X5_read_44 {v0 : Nat} {v2 : Int32} {σ : sS} : R_X5_read_44 v0 v2 σ = ((s_pf σ v0 5 0 (.int 0)).bind fun σ1 =>
  (s_fi σ1 v0 5 1).bind fun x2 =>
  if x2 = (-1) then (some (v2, σ1))
  else (some ((-1), σ1))) := by
  unfold R_X5_read_44
  rw [s_run_eq]
  show s_go _ _ (T_X5_read_44 v0 v2 σ) = _
  unfold T_X5_read_44
  simp only [s_go_bind, s_go_ite, s_go_sum, s_go_l, s_go_r, s_go_n]
  try rfl
theorem E_X5_read {v0 : Nat} {v1 : Int32} {σ : sS} : F_X5_read v0 v1 σ = ((s_is σ v0 5).bind fun _ => R_X5_read_0 v0 v1 σ) := rfl
/-! X2_cut -/
noncomputable def R_X2_cut_0 (v0 : Nat) (v1 : Int32) (σ : sS) : Option (Unit × sS) := s_run (S_X2_cut ) (0, [.ref v0, .int v1], σ)
noncomputable def R_X2_cut_15 (v0 : Nat) (v1 : Int32) (v2 : Int32) (σ : sS) : Option (Unit × sS) := s_run (S_X2_cut ) (15, [.ref v0, .int v1, .int v2], σ)
noncomputable def R_X2_cut_32 (v0 : Nat) (v1 : Int32) (v2 : Int32) (v3 : Int32) (v4 : Int32) (σ : sS) : Option (Unit × sS) := s_run (S_X2_cut ) (32, [.ref v0, .int v1, .int v2, .int v3, .int v4], σ)
noncomputable def R_X2_cut_67 (v0 : Nat) (v1 : Int32) (v2 : Int32) (v3 : Int32) (σ : sS) : Option (Unit × sS) := s_run (S_X2_cut ) (67, [.ref v0, .int v1, .int v2, .int v3], σ)
theorem E_X2_cut_0 {v0 : Nat} {v1 : Int32} {σ : sS} : R_X2_cut_0 v0 v1 σ = (if v1 < 0 then (some ((), σ))
  else ((s_fi σ v0 2 0).bind fun x1 =>
  if v1 < x1 then (R_X2_cut_15 v0 v1 0 σ)
  else (some ((), σ)))) := by
  unfold R_X2_cut_0
  rw [s_run_eq]
  show s_go _ _ (T_X2_cut_0 v0 v1 σ) = _
  unfold T_X2_cut_0
  simp only [s_go_bind, s_go_ite, s_go_sum, s_go_l, s_go_r, s_go_n]
  try rfl
theorem E_X2_cut_15 {v0 : Nat} {v1 : Int32} {v2 : Int32} {σ : sS} : R_X2_cut_15 v0 v1 v2 σ = (if (128 : Int32) ≤ v2 then ((s_pf σ v0 2 0 (.int v1)).bind fun σ1 =>
  some ((), σ1))
  else ((s_fr σ v0 2 7).bind fun x2 =>
  (s_ai σ x2 v2).bind fun x3 =>
  R_X2_cut_32 v0 v1 v2 x3 0 σ)) := by
  unfold R_X2_cut_15
  rw [s_run_eq]
  show s_go _ _ (T_X2_cut_15 v0 v1 v2 σ) = _
  unfold T_X2_cut_15
  simp only [s_go_bind, s_go_ite, s_go_sum, s_go_l, s_go_r, s_go_n]
  try rfl
theorem E_X2_cut_32 {v0 : Nat} {v1 : Int32} {v2 : Int32} {v3 : Int32} {v4 : Int32} {σ : sS} : R_X2_cut_32 v0 v1 v2 v3 v4 σ = ((s_fi σ v0 2 0).bind fun x1 =>
  if x1 ≤ v4 then (R_X2_cut_67 v0 v1 v2 v3 σ)
  else (if v3 < v1 then (R_X2_cut_67 v0 v1 v2 v3 σ)
  else ((s_fi σ v0 2 0).bind fun x2 =>
  if x2 ≤ v3 then (R_X2_cut_67 v0 v1 v2 v3 σ)
  else ((s_fr σ v0 2 5).bind fun x3 =>
  (s_ai σ x3 v3).bind fun x4 =>
  R_X2_cut_32 v0 v1 v2 x4 (v4 + 1) σ)))) := by
  unfold R_X2_cut_32
  rw [s_run_eq]
  show s_go _ _ (T_X2_cut_32 v0 v1 v2 v3 v4 σ) = _
  unfold T_X2_cut_32
  simp only [s_go_bind, s_go_ite, s_go_sum, s_go_l, s_go_r, s_go_n]
  try rfl
theorem E_X2_cut_67 {v0 : Nat} {v1 : Int32} {v2 : Int32} {v3 : Int32} {σ : sS} : R_X2_cut_67 v0 v1 v2 v3 σ = ((s_fr σ v0 2 7).bind fun x1 =>
  (s_si σ x1 v2 v3).bind fun σ2 =>
  R_X2_cut_15 v0 v1 (v2 + 1) σ2) := by
  unfold R_X2_cut_67
  rw [s_run_eq]
  show s_go _ _ (T_X2_cut_67 v0 v1 v2 v3 σ) = _
  unfold T_X2_cut_67
  simp only [s_go_bind, s_go_ite, s_go_sum, s_go_l, s_go_r, s_go_n]
  try rfl
theorem E_X2_cut {v0 : Nat} {v1 : Int32} {σ : sS} : F_X2_cut v0 v1 σ = ((s_is σ v0 2).bind fun _ => R_X2_cut_0 v0 v1 σ) := rfl
/-! X2_column -/
noncomputable def R_X2_column_0 (v0 : Int32) (v1 : Int32) (σ : sS) : Option (Int64 × sS) := s_run (S_X2_column ) (0, [.int v0, .int v1], σ)
noncomputable def R_X2_column_18 (v0 : Int32) (v1 : Int32) (σ : sS) : Option (Int64 × sS) := s_run (S_X2_column ) (18, [.int v0, .int v1], σ)
theorem E_X2_column_0 {v0 : Int32} {v1 : Int32} {σ : sS} : R_X2_column_0 v0 v1 σ = (if v0 < 0 then (R_X2_column_18 v0 v1 σ)
  else ((s_len σ (σ.2.2.2 1)).bind fun x1 =>
  if x1 ≤ v0 then (R_X2_column_18 v0 v1 σ)
  else ((s_al σ (σ.2.2.2 1) v0).bind fun x2 =>
  some (x2, σ)))) := by
  unfold R_X2_column_0
  rw [s_run_eq]
  show s_go _ _ (T_X2_column_0 v0 v1 σ) = _
  unfold T_X2_column_0
  simp only [s_go_bind, s_go_ite, s_go_sum, s_go_l, s_go_r, s_go_n]
  try rfl
theorem E_X2_column_18 {v0 : Int32} {v1 : Int32} {σ : sS} : R_X2_column_18 v0 v1 σ = ((s_len σ (σ.2.2.2 1)).bind fun x1 =>
  if ((v1 >>> ((v0 - x1) &&& 31)) &&& 1) = 0 then (some (0, σ))
  else (some ((-1), σ))) := by
  unfold R_X2_column_18
  rw [s_run_eq]
  show s_go _ _ (T_X2_column_18 v0 v1 σ) = _
  unfold T_X2_column_18
  simp only [s_go_bind, s_go_ite, s_go_sum, s_go_l, s_go_r, s_go_n]
  try rfl
theorem E_X2_column {v0 : Int32} {v1 : Int32} {σ : sS} : F_X2_column v0 v1 σ = (R_X2_column_0 v0 v1 σ) := rfl
/-! X2_truthAt X2_truthOfBinder -/
noncomputable def R_X2_truthAt_0 (k9 : Nat) (v0 : Nat) (v1 : Int32) (v2 : Int32) (v3 : Int32) (v4 : Int32) (σ : sS) : Option (Int64 × sS) := s_run (S_X2_truthAt (F_X2_truthAt k9) (F_X2_truthOfBinder k9) ) (0, [.ref v0, .int v1, .int v2, .int v3, .int v4], σ)
noncomputable def R_X2_truthAt_98 (k9 : Nat) (v2 : Int32) (w0 : Int32) (σ : sS) : Option (Int64 × sS) := s_run (S_X2_truthAt (F_X2_truthAt k9) (F_X2_truthOfBinder k9) ) (98, [.int v2, .int w0], σ)
noncomputable def R_X2_truthOfBinder_0 (k9 : Nat) (v0 : Nat) (v1 : Int32) (v2 : Int32) (v3 : Int32) (v4 : Int32) (σ : sS) : Option (Int64 × sS) := s_run (S_X2_truthOfBinder (F_X2_truthAt k9) (F_X2_truthOfBinder k9) ) (0, [.ref v0, .int v1, .int v2, .int v3, .int v4], σ)
noncomputable def R_X2_truthOfBinder_14 (k9 : Nat) (v0 : Nat) (v1 : Int32) (v2 : Int32) (v3 : Int32) (v4 : Int32) (w0 : Int32) (σ : sS) : Option (Int64 × sS) := s_run (S_X2_truthOfBinder (F_X2_truthAt k9) (F_X2_truthOfBinder k9) ) (14, [.ref v0, .int v1, .int v2, .int v3, .int v4, .int w0], σ)
noncomputable def R_X2_truthOfBinder_28 (k9 : Nat) (v0 : Nat) (v1 : Int32) (v2 : Int32) (v3 : Int32) (v4 : Int32) (v5 : Int32) (w0 : Int64) (σ : sS) : Option (Int64 × sS) := s_run (S_X2_truthOfBinder (F_X2_truthAt k9) (F_X2_truthOfBinder k9) ) (28, [.ref v0, .int v1, .int v2, .int v3, .int v4, .int v5, .long w0], σ)
noncomputable def R_X2_truthOfBinder_33 (k9 : Nat) (v0 : Nat) (v1 : Int32) (v2 : Int32) (v3 : Int32) (v4 : Int32) (v5 : Int32) (v6 : Int64) (v8 : Int32) (σ : sS) : Option (Int64 × sS) := s_run (S_X2_truthOfBinder (F_X2_truthAt k9) (F_X2_truthOfBinder k9) ) (33, [.ref v0, .int v1, .int v2, .int v3, .int v4, .int v5, .long v6, .int v8], σ)
noncomputable def R_X2_truthOfBinder_76 (k9 : Nat) (v0 : Nat) (v1 : Int32) (v2 : Int32) (v3 : Int32) (v4 : Int32) (v5 : Int32) (v8 : Int32) (w0 : Int64) (σ : sS) : Option (Int64 × sS) := s_run (S_X2_truthOfBinder (F_X2_truthAt k9) (F_X2_truthOfBinder k9) ) (76, [.ref v0, .int v1, .int v2, .int v3, .int v4, .int v5, .int v8, .long w0], σ)
theorem E_X2_truthAt_0 {k9 : Nat} {v0 : Nat} {v1 : Int32} {v2 : Int32} {v3 : Int32} {v4 : Int32} {σ : sS} : R_X2_truthAt_0 k9 v0 v1 v2 v3 v4 σ = (if v1 < 0 then (some (0, σ))
  else ((s_fi σ v0 2 0).bind fun x1 =>
  if x1 ≤ v1 then (some (0, σ))
  else (if v4 ≤ 48 then ((s_fr σ v0 2 2).bind fun x2 =>
  (s_ai σ x2 v1).bind fun x3 =>
  (s_fr σ v0 2 3).bind fun x4 =>
  (s_ai σ x4 v1).bind fun x5 =>
  (s_fr σ v0 2 1).bind fun x6 =>
  (s_ai σ x6 v1).bind fun x7 =>
  if x7 = 0 then (if (4 : Int32) ≤ x3 then (R_X2_truthAt_98 k9 v2 ((4 + ((x3 - 4) * v3)) + x5) σ)
  else (R_X2_truthAt_98 k9 v2 x3 σ))
  else if x7 = 1 then ((F_X2_truthAt k9 v0 x3 v2 v3 (v4 + 1) σ).bind fun q8 =>
  some ((q8.1 ^^^ (-1)), q8.2))
  else if x7 = 2 then ((F_X2_truthAt k9 v0 x3 v2 v3 (v4 + 1) σ).bind fun q9 =>
  (F_X2_truthAt k9 v0 x5 v2 v3 (v4 + 1) q9.2).bind fun q10 =>
  some ((q9.1 &&& q10.1), q10.2))
  else if x7 = 3 then ((F_X2_truthAt k9 v0 x3 v2 v3 (v4 + 1) σ).bind fun q11 =>
  (F_X2_truthAt k9 v0 x5 v2 v3 (v4 + 1) q11.2).bind fun q12 =>
  some ((q11.1 ||| q12.1), q12.2))
  else if x7 = 4 then ((F_X2_truthAt k9 v0 x3 v2 v3 (v4 + 1) σ).bind fun q13 =>
  (F_X2_truthAt k9 v0 x5 v2 v3 (v4 + 1) q13.2).bind fun q14 =>
  some (((q13.1 ^^^ (-1)) ||| q14.1), q14.2))
  else ((F_X2_truthOfBinder k9 v0 v1 v2 v3 v4 σ).bind fun q15 =>
  some (q15.1, q15.2)))
  else (some (0, σ))))) := by
  unfold R_X2_truthAt_0
  rw [s_run_eq]
  show s_go _ _ (T_X2_truthAt_0 (F_X2_truthAt k9) (F_X2_truthOfBinder k9) v0 v1 v2 v3 v4 σ) = _
  unfold T_X2_truthAt_0
  simp only [s_go_bind, s_go_ite, s_go_sum, s_go_l, s_go_r, s_go_n]
  try rfl
theorem E_X2_truthAt_98 {k9 : Nat} {v2 : Int32} {w0 : Int32} {σ : sS} : R_X2_truthAt_98 k9 v2 w0 σ = ((F_X2_column w0 v2 σ).bind fun q1 =>
  some (q1.1, q1.2)) := by
  unfold R_X2_truthAt_98
  rw [s_run_eq]
  show s_go _ _ (T_X2_truthAt_98 (F_X2_truthAt k9) (F_X2_truthOfBinder k9) v2 w0 σ) = _
  unfold T_X2_truthAt_98
  simp only [s_go_bind, s_go_ite, s_go_sum, s_go_l, s_go_r, s_go_n]
  try rfl
theorem E_X2_truthAt {k9 : Nat}  {v0 : Nat} {v1 : Int32} {v2 : Int32} {v3 : Int32} {v4 : Int32} {σ : sS} : F_X2_truthAt (k9 + 1) v0 v1 v2 v3 v4 σ = ((s_is σ v0 2).bind fun _ => R_X2_truthAt_0 k9 v0 v1 v2 v3 v4 σ) := rfl
theorem E_X2_truthOfBinder_0 {k9 : Nat} {v0 : Nat} {v1 : Int32} {v2 : Int32} {v3 : Int32} {v4 : Int32} {σ : sS} : R_X2_truthOfBinder_0 k9 v0 v1 v2 v3 v4 σ = ((F_X2_kindOf v0 v1 σ).bind fun q1 =>
  if q1.1 = 5 then (R_X2_truthOfBinder_14 k9 v0 v1 v2 v3 v4 1 q1.2)
  else (R_X2_truthOfBinder_14 k9 v0 v1 v2 v3 v4 0 q1.2)) := by
  unfold R_X2_truthOfBinder_0
  rw [s_run_eq]
  show s_go _ _ (T_X2_truthOfBinder_0 (F_X2_truthAt k9) (F_X2_truthOfBinder k9) v0 v1 v2 v3 v4 σ) = _
  unfold T_X2_truthOfBinder_0
  simp only [s_go_bind, s_go_ite, s_go_sum, s_go_l, s_go_r, s_go_n]
  try rfl
theorem E_X2_truthOfBinder_14 {k9 : Nat} {v0 : Nat} {v1 : Int32} {v2 : Int32} {v3 : Int32} {v4 : Int32} {w0 : Int32} {σ : sS} : R_X2_truthOfBinder_14 k9 v0 v1 v2 v3 v4 w0 σ = (if w0 = 0 then (R_X2_truthOfBinder_28 k9 v0 v1 v2 v3 v4 w0 0 σ)
  else (R_X2_truthOfBinder_28 k9 v0 v1 v2 v3 v4 w0 (-1) σ)) := by
  unfold R_X2_truthOfBinder_14
  rw [s_run_eq]
  show s_go _ _ (T_X2_truthOfBinder_14 (F_X2_truthAt k9) (F_X2_truthOfBinder k9) v0 v1 v2 v3 v4 w0 σ) = _
  unfold T_X2_truthOfBinder_14
  simp only [s_go_bind, s_go_ite, s_go_sum, s_go_l, s_go_r, s_go_n]
  try rfl
theorem E_X2_truthOfBinder_28 {k9 : Nat} {v0 : Nat} {v1 : Int32} {v2 : Int32} {v3 : Int32} {v4 : Int32} {v5 : Int32} {w0 : Int64} {σ : sS} : R_X2_truthOfBinder_28 k9 v0 v1 v2 v3 v4 v5 w0 σ = (R_X2_truthOfBinder_33 k9 v0 v1 v2 v3 v4 v5 w0 0 σ) := by
  unfold R_X2_truthOfBinder_28
  rw [s_run_eq]
  show s_go _ _ (T_X2_truthOfBinder_28 (F_X2_truthAt k9) (F_X2_truthOfBinder k9) v0 v1 v2 v3 v4 v5 w0 σ) = _
  unfold T_X2_truthOfBinder_28
  simp only [s_go_bind, s_go_ite, s_go_sum, s_go_l, s_go_r, s_go_n]
  try rfl
theorem E_X2_truthOfBinder_33 {k9 : Nat} {v0 : Nat} {v1 : Int32} {v2 : Int32} {v3 : Int32} {v4 : Int32} {v5 : Int32} {v6 : Int64} {v8 : Int32} {σ : sS} : R_X2_truthOfBinder_33 k9 v0 v1 v2 v3 v4 v5 v6 v8 σ = (if v3 ≤ v8 then (some (v6, σ))
  else ((F_X2_placedOf v0 v1 v8 σ).bind fun q1 =>
  (F_X2_truthAt k9 v0 q1.1 v2 v3 (v4 + 1) q1.2).bind fun q2 =>
  if v5 = 0 then (R_X2_truthOfBinder_76 k9 v0 v1 v2 v3 v4 v5 v8 (v6 ||| q2.1) q2.2)
  else (R_X2_truthOfBinder_76 k9 v0 v1 v2 v3 v4 v5 v8 (v6 &&& q2.1) q2.2))) := by
  unfold R_X2_truthOfBinder_33
  rw [s_run_eq]
  show s_go _ _ (T_X2_truthOfBinder_33 (F_X2_truthAt k9) (F_X2_truthOfBinder k9) v0 v1 v2 v3 v4 v5 v6 v8 σ) = _
  unfold T_X2_truthOfBinder_33
  simp only [s_go_bind, s_go_ite, s_go_sum, s_go_l, s_go_r, s_go_n]
  try rfl
theorem E_X2_truthOfBinder_76 {k9 : Nat} {v0 : Nat} {v1 : Int32} {v2 : Int32} {v3 : Int32} {v4 : Int32} {v5 : Int32} {v8 : Int32} {w0 : Int64} {σ : sS} : R_X2_truthOfBinder_76 k9 v0 v1 v2 v3 v4 v5 v8 w0 σ = (R_X2_truthOfBinder_33 k9 v0 v1 v2 v3 v4 v5 w0 (v8 + 1) σ) := by
  unfold R_X2_truthOfBinder_76
  rw [s_run_eq]
  show s_go _ _ (T_X2_truthOfBinder_76 (F_X2_truthAt k9) (F_X2_truthOfBinder k9) v0 v1 v2 v3 v4 v5 v8 w0 σ) = _
  unfold T_X2_truthOfBinder_76
  simp only [s_go_bind, s_go_ite, s_go_sum, s_go_l, s_go_r, s_go_n]
  try rfl
theorem E_X2_truthOfBinder {k9 : Nat}  {v0 : Nat} {v1 : Int32} {v2 : Int32} {v3 : Int32} {v4 : Int32} {σ : sS} : F_X2_truthOfBinder (k9 + 1) v0 v1 v2 v3 v4 σ = ((s_is σ v0 2).bind fun _ => R_X2_truthOfBinder_0 k9 v0 v1 v2 v3 v4 σ) := rfl
/-! X2_truth -/
noncomputable def R_X2_truth_0 (v0 : Nat) (v1 : Int32) (v2 : Int32) (v3 : Int32) (σ : sS) : Option (Int64 × sS) := s_run (S_X2_truth ) (0, [.ref v0, .int v1, .int v2, .int v3], σ)
theorem E_X2_truth_0 {v0 : Nat} {v1 : Int32} {v2 : Int32} {v3 : Int32} {σ : sS} : R_X2_truth_0 v0 v1 v2 v3 σ = ((F_X2_truthAt 64 v0 v1 v2 v3 0 σ).bind fun q1 =>
  some (q1.1, q1.2)) := by
  unfold R_X2_truth_0
  rw [s_run_eq]
  show s_go _ _ (T_X2_truth_0 v0 v1 v2 v3 σ) = _
  unfold T_X2_truth_0
  simp only [s_go_bind, s_go_ite, s_go_sum, s_go_l, s_go_r, s_go_n]
  try rfl
theorem E_X2_truth {v0 : Nat} {v1 : Int32} {v2 : Int32} {v3 : Int32} {σ : sS} : F_X2_truth v0 v1 v2 v3 σ = ((s_is σ v0 2).bind fun _ => R_X2_truth_0 v0 v1 v2 v3 σ) := rfl
/-! X1_addFormula -/
noncomputable def R_X1_addFormula_0 (v0 : Nat) (v1 : Int32) (v2 : Nat) (σ : sS) : Option (Int32 × sS) := s_run (S_X1_addFormula ) (0, [.ref v0, .int v1, .ref v2], σ)
noncomputable def R_X1_addFormula_23 (v0 : Nat) (v1 : Int32) (v2 : Nat) (v3 : Int32) (σ : sS) : Option (Int32 × sS) := s_run (S_X1_addFormula ) (23, [.ref v0, .int v1, .ref v2, .int v3], σ)
theorem E_X1_addFormula_0 {v0 : Nat} {v1 : Int32} {v2 : Nat} {σ : sS} : R_X1_addFormula_0 v0 v1 v2 σ = ((s_fi σ v0 1 2).bind fun x1 =>
  if x1 < 30 then ((s_fr σ v0 1 11).bind fun x2 =>
  (s_fi σ v0 1 2).bind fun x3 =>
  (s_si σ x2 x3 v1).bind fun σ4 =>
  R_X1_addFormula_23 v0 v1 v2 0 σ4)
  else (some ((-1), σ))) := by
  unfold R_X1_addFormula_0
  rw [s_run_eq]
  show s_go _ _ (T_X1_addFormula_0 v0 v1 v2 σ) = _
  unfold T_X1_addFormula_0
  simp only [s_go_bind, s_go_ite, s_go_sum, s_go_l, s_go_r, s_go_n]
  try rfl
theorem E_X1_addFormula_23 {v0 : Nat} {v1 : Int32} {v2 : Nat} {v3 : Int32} {σ : sS} : R_X1_addFormula_23 v0 v1 v2 v3 σ = ((F_X1_words v0 σ).bind fun q1 =>
  if q1.1 ≤ v3 then ((s_fi q1.2 v0 1 2).bind fun x2 =>
  (s_pf q1.2 v0 1 2 (.int (x2 + 1))).bind fun σ3 =>
  some (x2, σ3))
  else ((s_fr q1.2 v0 1 3).bind fun x4 =>
  (s_fi q1.2 v0 1 2).bind fun x5 =>
  (s_fi q1.2 v0 1 0).bind fun x6 =>
  (F_X2_truth v2 v1 v3 x6 q1.2).bind fun q7 =>
  (s_sl q7.2 x4 ((x5 * 16) + v3) q7.1).bind fun σ8 =>
  R_X1_addFormula_23 v0 v1 v2 (v3 + 1) σ8)) := by
  unfold R_X1_addFormula_23
  rw [s_run_eq]
  show s_go _ _ (T_X1_addFormula_23 v0 v1 v2 v3 σ) = _
  unfold T_X1_addFormula_23
  simp only [s_go_bind, s_go_ite, s_go_sum, s_go_l, s_go_r, s_go_n]
  try rfl
theorem E_X1_addFormula {v0 : Nat} {v1 : Int32} {v2 : Nat} {σ : sS} : F_X1_addFormula v0 v1 v2 σ = ((s_is σ v0 1).bind fun _ => R_X1_addFormula_0 v0 v1 v2 σ) := rfl
/-! X7_formula -/
noncomputable def R_X7_formula_0 (v0 : Nat) (σ : sS) : Option ((Int32 ⊕ String) × sS) := s_run (S_X7_formula ) (0, [.ref v0], σ)
theorem E_X7_formula_0 {v0 : Nat} {σ : sS} : R_X7_formula_0 v0 σ = ((s_fr σ v0 7 3).bind fun x1 =>
  (s_fr σ v0 7 1).bind fun x2 =>
  (s_fi σ x2 1 0).bind fun x3 =>
  (F_X5_read x1 x3 σ).bind fun q4 =>
  if q4.1 = (-1) then ((s_fr q4.2 v0 7 0).bind fun x18 =>
  (s_fr q4.2 v0 7 1).bind fun x19 =>
  (s_fi q4.2 x19 1 1).bind fun x20 =>
  (F_X2_cut x18 x20 q4.2).bind fun q21 =>
  some (.inr "java/lang/IllegalArgumentException", s_ex q21.2))
  else ((s_fr q4.2 v0 7 1).bind fun x5 =>
  (s_fi q4.2 x5 1 2).bind fun x6 =>
  if x6 < 30 then ((s_fr q4.2 v0 7 1).bind fun x7 =>
  (s_fr q4.2 v0 7 0).bind fun x8 =>
  (s_fi q4.2 x8 2 0).bind fun x9 =>
  (s_pf q4.2 x7 1 1 (.int x9)).bind fun σ10 =>
  (s_fr σ10 v0 7 1).bind fun x11 =>
  (s_fr σ10 v0 7 0).bind fun x12 =>
  (F_X1_addFormula x11 q4.1 x12 σ10).bind fun q13 =>
  some (.inl q13.1, q13.2))
  else ((s_fr q4.2 v0 7 0).bind fun x14 =>
  (s_fr q4.2 v0 7 1).bind fun x15 =>
  (s_fi q4.2 x15 1 1).bind fun x16 =>
  (F_X2_cut x14 x16 q4.2).bind fun q17 =>
  some (.inr "java/lang/UnsupportedOperationException", s_ex q17.2)))) := by
  unfold R_X7_formula_0
  rw [s_run_eq]
  show s_go _ _ (T_X7_formula_0 v0 σ) = _
  unfold T_X7_formula_0
  simp only [s_go_bind, s_go_ite, s_go_sum, s_go_l, s_go_r, s_go_n]
  try rfl
theorem E_X7_formula {v0 : Nat} {σ : sS} : F_X7_formula v0 σ = ((s_is σ v0 7).bind fun _ => R_X7_formula_0 v0 σ) := rfl
/-! L_formula -/
noncomputable def R_L_formula_0 (v0 : Nat) (v1 : Nat) (σ : sS) : Option (Int32 × sS) := s_run (S_L_formula ) (0, [.ref v0, .ref v1], σ)
theorem E_L_formula_0 {v0 : Nat} {v1 : Nat} {σ : sS} : R_L_formula_0 v0 v1 σ = ((F_X7_formula v0 σ).bind fun q1 => s_sum q1.1 (fun x2 => (s_sl q1.2 v1 0 ((x2 : Int32).toInt64)).bind fun σ4 =>
  some (0, σ4)) (fun E3 => if E3 = "java/lang/IllegalArgumentException" then (some (1, q1.2)) else if E3 = "java/lang/UnsupportedOperationException" then (some (2, q1.2)) else none)) := by
  unfold R_L_formula_0
  rw [s_run_eq]
  show s_go _ _ (T_L_formula_0 v0 v1 σ) = _
  unfold T_L_formula_0
  simp only [s_go_bind, s_go_ite, s_go_sum, s_go_l, s_go_r, s_go_n]
  try rfl
theorem E_L_formula {v0 : Nat} {v1 : Nat} {σ : sS} : F_L_formula v0 v1 σ = (R_L_formula_0 v0 v1 σ) := rfl
/-! X1_costOf -/
noncomputable def R_X1_costOf_0 (v0 : Nat) (v1 : Int32) (v2 : Int32) (v3 : Int32) (σ : sS) : Option (Int32 × sS) := s_run (S_X1_costOf ) (0, [.ref v0, .int v1, .int v2, .int v3], σ)
theorem E_X1_costOf_0 {v0 : Nat} {v1 : Int32} {v2 : Int32} {v3 : Int32} {σ : sS} : R_X1_costOf_0 v0 v1 v2 v3 σ = ((F_X1_priceOf v0 v1 v2 σ).bind fun q1 =>
  (F_X1_priceOf v0 v1 16 q1.2).bind fun q2 =>
  some ((q1.1 + (v3 * q2.1)), q2.2)) := by
  unfold R_X1_costOf_0
  rw [s_run_eq]
  show s_go _ _ (T_X1_costOf_0 v0 v1 v2 v3 σ) = _
  unfold T_X1_costOf_0
  simp only [s_go_bind, s_go_ite, s_go_sum, s_go_l, s_go_r, s_go_n]
  try rfl
theorem E_X1_costOf {v0 : Nat} {v1 : Int32} {v2 : Int32} {v3 : Int32} {σ : sS} : F_X1_costOf v0 v1 v2 v3 σ = ((s_is σ v0 1).bind fun _ => R_X1_costOf_0 v0 v1 v2 v3 σ) := rfl
/-! X4_costResold -/
noncomputable def R_X4_costResold_0 (v0 : Nat) (v1 : Int32) (σ : sS) : Option (Int32 × sS) := s_run (S_X4_costResold ) (0, [.ref v0, .int v1], σ)
noncomputable def R_X4_costResold_26 (v0 : Nat) (v1 : Int32) (v2 : Int32) (v3 : Int32) (σ : sS) : Option (Int32 × sS) := s_run (S_X4_costResold ) (26, [.ref v0, .int v1, .int v2, .int v3], σ)
noncomputable def R_X4_costResold_45 (v0 : Nat) (v1 : Int32) (v2 : Int32) (v3 : Int32) (w0 : Int32) (σ : sS) : Option (Int32 × sS) := s_run (S_X4_costResold ) (45, [.ref v0, .int v1, .int v2, .int v3, .int w0], σ)
noncomputable def R_X4_costResold_64 (v0 : Nat) (v1 : Int32) (v3 : Int32) (v4 : Int32) (σ : sS) : Option (Int32 × sS) := s_run (S_X4_costResold ) (64, [.ref v0, .int v1, .int v3, .int v4], σ)
noncomputable def R_X4_costResold_67 (v0 : Nat) (v1 : Int32) (v2 : Int32) (v3 : Int32) (σ : sS) : Option (Int32 × sS) := s_run (S_X4_costResold ) (67, [.ref v0, .int v1, .int v2, .int v3], σ)
theorem E_X4_costResold_0 {v0 : Nat} {v1 : Int32} {σ : sS} : R_X4_costResold_0 v0 v1 σ = ((s_fr σ v0 4 1).bind fun x1 =>
  (F_X1_hasRule x1 v1 15 σ).bind fun q2 =>
  if q2.1 = 0 then (some ((-1), q2.2))
  else ((s_fi q2.2 v0 4 8).bind fun x3 =>
  if x3 = 0 then (some ((-1), q2.2))
  else (R_X4_costResold_26 v0 v1 (-1) 0 q2.2))) := by
  unfold R_X4_costResold_0
  rw [s_run_eq]
  show s_go _ _ (T_X4_costResold_0 v0 v1 σ) = _
  unfold T_X4_costResold_0
  simp only [s_go_bind, s_go_ite, s_go_sum, s_go_l, s_go_r, s_go_n]
  try rfl
theorem E_X4_costResold_26 {v0 : Nat} {v1 : Int32} {v2 : Int32} {v3 : Int32} {σ : sS} : R_X4_costResold_26 v0 v1 v2 v3 σ = (if (3 : Int32) ≤ v3 then (if v2 = (-1) then (some ((-1), σ))
  else ((s_fr σ v0 4 1).bind fun x1 =>
  (s_fr σ v0 4 3).bind fun x2 =>
  (s_ai σ x2 0).bind fun x3 =>
  (F_X1_costOf x1 v1 15 x3 σ).bind fun q4 =>
  some ((v2 + q4.1), q4.2)))
  else (if v3 = v1 then (R_X4_costResold_45 v0 v1 v2 v3 (-1) σ)
  else ((F_X4_costIn v0 v3 σ).bind fun q5 =>
  R_X4_costResold_45 v0 v1 v2 v3 q5.1 q5.2))) := by
  unfold R_X4_costResold_26
  rw [s_run_eq]
  show s_go _ _ (T_X4_costResold_26 v0 v1 v2 v3 σ) = _
  unfold T_X4_costResold_26
  simp only [s_go_bind, s_go_ite, s_go_sum, s_go_l, s_go_r, s_go_n]
  try rfl
theorem E_X4_costResold_45 {v0 : Nat} {v1 : Int32} {v2 : Int32} {v3 : Int32} {w0 : Int32} {σ : sS} : R_X4_costResold_45 v0 v1 v2 v3 w0 σ = (if w0 = (-1) then (R_X4_costResold_67 v0 v1 v2 v3 σ)
  else (if v2 = (-1) then (R_X4_costResold_64 v0 v1 v3 w0 σ)
  else (if v2 ≤ w0 then (R_X4_costResold_67 v0 v1 v2 v3 σ)
  else (R_X4_costResold_64 v0 v1 v3 w0 σ)))) := by
  unfold R_X4_costResold_45
  rw [s_run_eq]
  show s_go _ _ (T_X4_costResold_45 v0 v1 v2 v3 w0 σ) = _
  unfold T_X4_costResold_45
  simp only [s_go_bind, s_go_ite, s_go_sum, s_go_l, s_go_r, s_go_n]
  try rfl
theorem E_X4_costResold_64 {v0 : Nat} {v1 : Int32} {v3 : Int32} {v4 : Int32} {σ : sS} : R_X4_costResold_64 v0 v1 v3 v4 σ = (R_X4_costResold_67 v0 v1 v4 v3 σ) := by
  unfold R_X4_costResold_64
  rw [s_run_eq]
  show s_go _ _ (T_X4_costResold_64 v0 v1 v3 v4 σ) = _
  unfold T_X4_costResold_64
  simp only [s_go_bind, s_go_ite, s_go_sum, s_go_l, s_go_r, s_go_n]
  try rfl
theorem E_X4_costResold_67 {v0 : Nat} {v1 : Int32} {v2 : Int32} {v3 : Int32} {σ : sS} : R_X4_costResold_67 v0 v1 v2 v3 σ = (R_X4_costResold_26 v0 v1 v2 (v3 + 1) σ) := by
  unfold R_X4_costResold_67
  rw [s_run_eq]
  show s_go _ _ (T_X4_costResold_67 v0 v1 v2 v3 σ) = _
  unfold T_X4_costResold_67
  simp only [s_go_bind, s_go_ite, s_go_sum, s_go_l, s_go_r, s_go_n]
  try rfl
theorem E_X4_costResold {v0 : Nat} {v1 : Int32} {σ : sS} : F_X4_costResold v0 v1 σ = ((s_is σ v0 4).bind fun _ => R_X4_costResold_0 v0 v1 σ) := rfl
/-! X7_forward -/
noncomputable def R_X7_forward_0 (v0 : Nat) (v1 : Int32) (v2 : Int32) (v3 : Int32) (σ : sS) : Option ((Int32 ⊕ String) × sS) := s_run (S_X7_forward ) (0, [.ref v0, .int v1, .int v2, .int v3], σ)
theorem E_X7_forward_0 {v0 : Nat} {v1 : Int32} {v2 : Int32} {v3 : Int32} {σ : sS} : R_X7_forward_0 v0 v1 v2 v3 σ = ((F_X7_needProof v0 v1 v2 v3 σ).bind fun q1 => s_sum q1.1 (fun x2 => (s_fr q1.2 v0 7 6).bind fun x4 =>
  (F_X4_costIn x4 v1 q1.2).bind fun q5 =>
  if q5.1 = (-1) then (some (.inl (-1), q5.2))
  else ((s_fr q5.2 v0 7 6).bind fun x6 =>
  (F_X4_costResold x6 v1 q5.2).bind fun q7 =>
  if q7.1 = (-1) then (some (.inl 0, q7.2))
  else (some (.inl (if 0 < (q5.1 - q7.1) then (q5.1 - q7.1) else 0), q7.2)))) (fun E3 => some (.inr E3, q1.2))) := by
  unfold R_X7_forward_0
  rw [s_run_eq]
  show s_go _ _ (T_X7_forward_0 v0 v1 v2 v3 σ) = _
  unfold T_X7_forward_0
  simp only [s_go_bind, s_go_ite, s_go_sum, s_go_l, s_go_r, s_go_n]
  try rfl
theorem E_X7_forward {v0 : Nat} {v1 : Int32} {v2 : Int32} {v3 : Int32} {σ : sS} : F_X7_forward v0 v1 v2 v3 σ = ((s_is σ v0 7).bind fun _ => R_X7_forward_0 v0 v1 v2 v3 σ) := rfl
/-! L_forward -/
noncomputable def R_L_forward_0 (v0 : Nat) (v1 : Int32) (v2 : Int32) (v3 : Int32) (v4 : Nat) (σ : sS) : Option (Int32 × sS) := s_run (S_L_forward ) (0, [.ref v0, .int v1, .int v2, .int v3, .ref v4], σ)
theorem E_L_forward_0 {v0 : Nat} {v1 : Int32} {v2 : Int32} {v3 : Int32} {v4 : Nat} {σ : sS} : R_L_forward_0 v0 v1 v2 v3 v4 σ = ((F_X7_forward v0 v1 v2 v3 σ).bind fun q1 => s_sum q1.1 (fun x2 => (s_sl q1.2 v4 0 ((x2 : Int32).toInt64)).bind fun σ4 =>
  some (0, σ4)) (fun E3 => if E3 = "java/lang/IndexOutOfBoundsException" then (some (1, q1.2)) else none)) := by
  unfold R_L_forward_0
  rw [s_run_eq]
  show s_go _ _ (T_L_forward_0 v0 v1 v2 v3 v4 σ) = _
  unfold T_L_forward_0
  simp only [s_go_bind, s_go_ite, s_go_sum, s_go_l, s_go_r, s_go_n]
  try rfl
theorem E_L_forward {v0 : Nat} {v1 : Int32} {v2 : Int32} {v3 : Int32} {v4 : Nat} {σ : sS} : F_L_forward v0 v1 v2 v3 v4 σ = (R_L_forward_0 v0 v1 v2 v3 v4 σ) := rfl
/-! X7_needLaw -/
noncomputable def R_X7_needLaw_0 (v0 : Nat) (v1 : Int32) (σ : sS) : Option ((Unit ⊕ String) × sS) := s_run (S_X7_needLaw ) (0, [.ref v0, .int v1], σ)
theorem E_X7_needLaw_0 {v0 : Nat} {v1 : Int32} {σ : sS} : R_X7_needLaw_0 v0 v1 σ = (if v1 < 0 then (some (.inr "java/lang/IllegalArgumentException", s_ex σ))
  else (if v1 ≤ 31 then (some (.inl (), σ))
  else (some (.inr "java/lang/IllegalArgumentException", s_ex σ)))) := by
  unfold R_X7_needLaw_0
  rw [s_run_eq]
  show s_go _ _ (T_X7_needLaw_0 v0 v1 σ) = _
  unfold T_X7_needLaw_0
  simp only [s_go_bind, s_go_ite, s_go_sum, s_go_l, s_go_r, s_go_n]
  try rfl
theorem E_X7_needLaw {v0 : Nat} {v1 : Int32} {σ : sS} : F_X7_needLaw v0 v1 σ = ((s_is σ v0 7).bind fun _ => R_X7_needLaw_0 v0 v1 σ) := rfl
/-! X0_linesOf -/
noncomputable def R_X0_linesOf_0 (v0 : Nat) (v1 : Int32) (σ : sS) : Option (Int64 × sS) := s_run (S_X0_linesOf ) (0, [.ref v0, .int v1], σ)
noncomputable def R_X0_linesOf_5 (v0 : Nat) (v1 : Int32) (v2 : Int64) (v4 : Int32) (σ : sS) : Option (Int64 × sS) := s_run (S_X0_linesOf ) (5, [.ref v0, .int v1, .long v2, .int v4], σ)
noncomputable def R_X0_linesOf_38 (v0 : Nat) (v1 : Int32) (v2 : Int64) (v4 : Int32) (σ : sS) : Option (Int64 × sS) := s_run (S_X0_linesOf ) (38, [.ref v0, .int v1, .long v2, .int v4], σ)
theorem E_X0_linesOf_0 {v0 : Nat} {v1 : Int32} {σ : sS} : R_X0_linesOf_0 v0 v1 σ = (R_X0_linesOf_5 v0 v1 0 0 σ) := by
  unfold R_X0_linesOf_0
  rw [s_run_eq]
  show s_go _ _ (T_X0_linesOf_0 v0 v1 σ) = _
  unfold T_X0_linesOf_0
  simp only [s_go_bind, s_go_ite, s_go_sum, s_go_l, s_go_r, s_go_n]
  try rfl
theorem E_X0_linesOf_5 {v0 : Nat} {v1 : Int32} {v2 : Int64} {v4 : Int32} {σ : sS} : R_X0_linesOf_5 v0 v1 v2 v4 σ = ((s_fr σ v0 0 5).bind fun x1 =>
  (s_fi σ x1 1 6).bind fun x2 =>
  if x2 ≤ v4 then (some (v2, σ))
  else ((s_fr σ v0 0 5).bind fun x3 =>
  (F_X1_ofLine x3 v4 2 σ).bind fun q4 =>
  if q4.1 = v1 then (R_X0_linesOf_38 v0 v1 (v2 ||| (1 <<< ((v4 : Int32).toInt64 &&& 63))) v4 q4.2)
  else (R_X0_linesOf_38 v0 v1 v2 v4 q4.2))) := by
  unfold R_X0_linesOf_5
  rw [s_run_eq]
  show s_go _ _ (T_X0_linesOf_5 v0 v1 v2 v4 σ) = _
  unfold T_X0_linesOf_5
  simp only [s_go_bind, s_go_ite, s_go_sum, s_go_l, s_go_r, s_go_n]
  try rfl
theorem E_X0_linesOf_38 {v0 : Nat} {v1 : Int32} {v2 : Int64} {v4 : Int32} {σ : sS} : R_X0_linesOf_38 v0 v1 v2 v4 σ = (R_X0_linesOf_5 v0 v1 v2 (v4 + 1) σ) := by
  unfold R_X0_linesOf_38
  rw [s_run_eq]
  show s_go _ _ (T_X0_linesOf_38 v0 v1 v2 v4 σ) = _
  unfold T_X0_linesOf_38
  simp only [s_go_bind, s_go_ite, s_go_sum, s_go_l, s_go_r, s_go_n]
  try rfl
theorem E_X0_linesOf {v0 : Nat} {v1 : Int32} {σ : sS} : F_X0_linesOf v0 v1 σ = ((s_is σ v0 0).bind fun _ => R_X0_linesOf_0 v0 v1 σ) := rfl
/-! X0_premisesOf -/
noncomputable def R_X0_premisesOf_0 (v0 : Nat) (v1 : Int32) (σ : sS) : Option (Int32 × sS) := s_run (S_X0_premisesOf ) (0, [.ref v0, .int v1], σ)
noncomputable def R_X0_premisesOf_4 (v0 : Nat) (v1 : Int32) (v2 : Int32) (v3 : Int32) (σ : sS) : Option (Int32 × sS) := s_run (S_X0_premisesOf ) (4, [.ref v0, .int v1, .int v2, .int v3], σ)
noncomputable def R_X0_premisesOf_25 (v0 : Nat) (v1 : Int32) (v2 : Int32) (v3 : Int32) (σ : sS) : Option (Int32 × sS) := s_run (S_X0_premisesOf ) (25, [.ref v0, .int v1, .int v2, .int v3], σ)
theorem E_X0_premisesOf_0 {v0 : Nat} {v1 : Int32} {σ : sS} : R_X0_premisesOf_0 v0 v1 σ = (R_X0_premisesOf_4 v0 v1 0 0 σ) := by
  unfold R_X0_premisesOf_0
  rw [s_run_eq]
  show s_go _ _ (T_X0_premisesOf_0 v0 v1 σ) = _
  unfold T_X0_premisesOf_0
  simp only [s_go_bind, s_go_ite, s_go_sum, s_go_l, s_go_r, s_go_n]
  try rfl
theorem E_X0_premisesOf_4 {v0 : Nat} {v1 : Int32} {v2 : Int32} {v3 : Int32} {σ : sS} : R_X0_premisesOf_4 v0 v1 v2 v3 σ = (if (3 : Int32) ≤ v3 then (some (v2, σ))
  else ((s_fr σ v0 0 5).bind fun x1 =>
  (F_X1_premiseOf x1 v1 v3 σ).bind fun q2 =>
  if q2.1 = (-1) then (R_X0_premisesOf_25 v0 v1 v2 v3 q2.2)
  else (R_X0_premisesOf_25 v0 v1 (v2 + 1) v3 q2.2))) := by
  unfold R_X0_premisesOf_4
  rw [s_run_eq]
  show s_go _ _ (T_X0_premisesOf_4 v0 v1 v2 v3 σ) = _
  unfold T_X0_premisesOf_4
  simp only [s_go_bind, s_go_ite, s_go_sum, s_go_l, s_go_r, s_go_n]
  try rfl
theorem E_X0_premisesOf_25 {v0 : Nat} {v1 : Int32} {v2 : Int32} {v3 : Int32} {σ : sS} : R_X0_premisesOf_25 v0 v1 v2 v3 σ = (R_X0_premisesOf_4 v0 v1 v2 (v3 + 1) σ) := by
  unfold R_X0_premisesOf_25
  rw [s_run_eq]
  show s_go _ _ (T_X0_premisesOf_25 v0 v1 v2 v3 σ) = _
  unfold T_X0_premisesOf_25
  simp only [s_go_bind, s_go_ite, s_go_sum, s_go_l, s_go_r, s_go_n]
  try rfl
theorem E_X0_premisesOf {v0 : Nat} {v1 : Int32} {σ : sS} : F_X0_premisesOf v0 v1 σ = ((s_is σ v0 0).bind fun _ => R_X0_premisesOf_0 v0 v1 σ) := rfl
/-! X0_asked -/
noncomputable def R_X0_asked_0 (v0 : Nat) (v1 : Int32) (σ : sS) : Option (Int32 × sS) := s_run (S_X0_asked ) (0, [.ref v0, .int v1], σ)
theorem E_X0_asked_0 {v0 : Nat} {v1 : Int32} {σ : sS} : R_X0_asked_0 v0 v1 σ = (if v1 = 12 then ((s_fr σ v0 0 5).bind fun x3 =>
  (s_fi σ x3 1 0).bind fun x4 =>
  some (x4, σ))
  else (if v1 < 0 then (some ((-1), σ))
  else ((s_len σ (σ.2.2.2 0)).bind fun x1 =>
  if x1 ≤ v1 then (some ((-1), σ))
  else ((s_ai σ (σ.2.2.2 0) v1).bind fun x2 =>
  some (x2, σ))))) := by
  unfold R_X0_asked_0
  rw [s_run_eq]
  show s_go _ _ (T_X0_asked_0 v0 v1 σ) = _
  unfold T_X0_asked_0
  simp only [s_go_bind, s_go_ite, s_go_sum, s_go_l, s_go_r, s_go_n]
  try rfl
theorem E_X0_asked {v0 : Nat} {v1 : Int32} {σ : sS} : F_X0_asked v0 v1 σ = ((s_is σ v0 0).bind fun _ => R_X0_asked_0 v0 v1 σ) := rfl
/-! X0_fitsCases -/
noncomputable def R_X0_fitsCases_0 (v0 : Nat) (v1 : Int32) (v2 : Int32) (v3 : Int32) (v4 : Int32) (σ : sS) : Option (Int32 × sS) := s_run (S_X0_fitsCases ) (0, [.ref v0, .int v1, .int v2, .int v3, .int v4], σ)
theorem E_X0_fitsCases_0 {v0 : Nat} {v1 : Int32} {v2 : Int32} {v3 : Int32} {v4 : Int32} {σ : sS} : R_X0_fitsCases_0 v0 v1 v2 v3 v4 σ = ((s_fr σ v0 0 4).bind fun x1 =>
  (F_X2_kindOf x1 v1 σ).bind fun q2 =>
  if q2.1 = 3 then ((s_fr q2.2 v0 0 4).bind fun x3 =>
  (s_fr q2.2 v0 0 4).bind fun x4 =>
  (F_X2_firstOf x4 v1 q2.2).bind fun q5 =>
  (F_X2_isMade x3 v2 4 q5.1 v4 q5.2).bind fun q6 =>
  if q6.1 = 0 then (some (0, q6.2))
  else ((s_fr q6.2 v0 0 4).bind fun x7 =>
  (s_fr q6.2 v0 0 4).bind fun x8 =>
  (F_X2_secondOf x8 v1 q6.2).bind fun q9 =>
  (F_X2_isMade x7 v3 4 q9.1 v4 q9.2).bind fun q10 =>
  if q10.1 = 0 then (some (0, q10.2))
  else (some (1, q10.2))))
  else (some (0, q2.2))) := by
  unfold R_X0_fitsCases_0
  rw [s_run_eq]
  show s_go _ _ (T_X0_fitsCases_0 v0 v1 v2 v3 v4 σ) = _
  unfold T_X0_fitsCases_0
  simp only [s_go_bind, s_go_ite, s_go_sum, s_go_l, s_go_r, s_go_n]
  try rfl
theorem E_X0_fitsCases {v0 : Nat} {v1 : Int32} {v2 : Int32} {v3 : Int32} {v4 : Int32} {σ : sS} : F_X0_fitsCases v0 v1 v2 v3 v4 σ = ((s_is σ v0 0).bind fun _ => R_X0_fitsCases_0 v0 v1 v2 v3 v4 σ) := rfl
/-! X0_isPlaced -/
noncomputable def R_X0_isPlaced_0 (v0 : Nat) (v1 : Int32) (v2 : Int32) (σ : sS) : Option (Int32 × sS) := s_run (S_X0_isPlaced ) (0, [.ref v0, .int v1, .int v2], σ)
noncomputable def R_X0_isPlaced_2 (v0 : Nat) (v1 : Int32) (v2 : Int32) (v3 : Int32) (σ : sS) : Option (Int32 × sS) := s_run (S_X0_isPlaced ) (2, [.ref v0, .int v1, .int v2, .int v3], σ)
theorem E_X0_isPlaced_0 {v0 : Nat} {v1 : Int32} {v2 : Int32} {σ : sS} : R_X0_isPlaced_0 v0 v1 v2 σ = (R_X0_isPlaced_2 v0 v1 v2 0 σ) := by
  unfold R_X0_isPlaced_0
  rw [s_run_eq]
  show s_go _ _ (T_X0_isPlaced_0 v0 v1 v2 σ) = _
  unfold T_X0_isPlaced_0
  simp only [s_go_bind, s_go_ite, s_go_sum, s_go_l, s_go_r, s_go_n]
  try rfl
theorem E_X0_isPlaced_2 {v0 : Nat} {v1 : Int32} {v2 : Int32} {v3 : Int32} {σ : sS} : R_X0_isPlaced_2 v0 v1 v2 v3 σ = ((s_fr σ v0 0 5).bind fun x1 =>
  (s_fi σ x1 1 0).bind fun x2 =>
  if x2 ≤ v3 then (some (0, σ))
  else ((s_fr σ v0 0 4).bind fun x3 =>
  (F_X2_placedOf x3 v1 v3 σ).bind fun q4 =>
  if q4.1 = v2 then (some (1, q4.2))
  else (R_X0_isPlaced_2 v0 v1 v2 (v3 + 1) q4.2))) := by
  unfold R_X0_isPlaced_2
  rw [s_run_eq]
  show s_go _ _ (T_X0_isPlaced_2 v0 v1 v2 v3 σ) = _
  unfold T_X0_isPlaced_2
  simp only [s_go_bind, s_go_ite, s_go_sum, s_go_l, s_go_r, s_go_n]
  try rfl
theorem E_X0_isPlaced {v0 : Nat} {v1 : Int32} {v2 : Int32} {σ : sS} : F_X0_isPlaced v0 v1 v2 σ = ((s_is σ v0 0).bind fun _ => R_X0_isPlaced_0 v0 v1 v2 σ) := rfl
/-! X0_areEach -/
noncomputable def R_X0_areEach_0 (v0 : Nat) (v1 : Int32) (v2 : Int32) (σ : sS) : Option (Int32 × sS) := s_run (S_X0_areEach ) (0, [.ref v0, .int v1, .int v2], σ)
noncomputable def R_X0_areEach_2 (v0 : Nat) (v1 : Int32) (v2 : Int32) (v3 : Int32) (σ : sS) : Option (Int32 × sS) := s_run (S_X0_areEach ) (2, [.ref v0, .int v1, .int v2, .int v3], σ)
theorem E_X0_areEach_0 {v0 : Nat} {v1 : Int32} {v2 : Int32} {σ : sS} : R_X0_areEach_0 v0 v1 v2 σ = (R_X0_areEach_2 v0 v1 v2 0 σ) := by
  unfold R_X0_areEach_0
  rw [s_run_eq]
  show s_go _ _ (T_X0_areEach_0 v0 v1 v2 σ) = _
  unfold T_X0_areEach_0
  simp only [s_go_bind, s_go_ite, s_go_sum, s_go_l, s_go_r, s_go_n]
  try rfl
theorem E_X0_areEach_2 {v0 : Nat} {v1 : Int32} {v2 : Int32} {v3 : Int32} {σ : sS} : R_X0_areEach_2 v0 v1 v2 v3 σ = ((s_fr σ v0 0 5).bind fun x1 =>
  (s_fi σ x1 1 0).bind fun x2 =>
  if x2 ≤ v3 then (some (1, σ))
  else ((s_fr σ v0 0 5).bind fun x3 =>
  (s_fr σ v0 0 5).bind fun x4 =>
  (F_X1_premiseOf x4 v1 v3 σ).bind fun q5 =>
  (F_X1_nodeOfLine x3 q5.1 q5.2).bind fun q6 =>
  (s_fr q6.2 v0 0 4).bind fun x7 =>
  (F_X2_placedOf x7 v2 v3 q6.2).bind fun q8 =>
  if q6.1 = q8.1 then (R_X0_areEach_2 v0 v1 v2 (v3 + 1) q8.2)
  else (some (0, q8.2)))) := by
  unfold R_X0_areEach_2
  rw [s_run_eq]
  show s_go _ _ (T_X0_areEach_2 v0 v1 v2 v3 σ) = _
  unfold T_X0_areEach_2
  simp only [s_go_bind, s_go_ite, s_go_sum, s_go_l, s_go_r, s_go_n]
  try rfl
theorem E_X0_areEach {v0 : Nat} {v1 : Int32} {v2 : Int32} {σ : sS} : F_X0_areEach v0 v1 v2 σ = ((s_is σ v0 0).bind fun _ => R_X0_areEach_0 v0 v1 v2 σ) := rfl
/-! X0_fitsPlain -/
noncomputable def R_X0_fitsPlain_0 (v0 : Nat) (v1 : Int32) (v2 : Int32) (v3 : Int32) (v4 : Int32) (σ : sS) : Option (Int32 × sS) := s_run (S_X0_fitsPlain ) (0, [.ref v0, .int v1, .int v2, .int v3, .int v4], σ)
theorem E_X0_fitsPlain_0 {v0 : Nat} {v1 : Int32} {v2 : Int32} {v3 : Int32} {v4 : Int32} {σ : sS} : R_X0_fitsPlain_0 v0 v1 v2 v3 v4 σ = (if v1 = 2 then ((s_fr σ v0 0 4).bind fun x1 =>
  (F_X2_isMade x1 v4 2 v2 v3 σ).bind fun q2 =>
  if (q2.1 = 0 ∨ q2.1 = 1) then (some (q2.1, q2.2)) else none)
  else if v1 = 3 then ((s_fr σ v0 0 4).bind fun x3 =>
  (F_X2_kindOf x3 v2 σ).bind fun q4 =>
  if q4.1 = 2 then ((s_fr q4.2 v0 0 4).bind fun x5 =>
  (F_X2_firstOf x5 v2 q4.2).bind fun q6 =>
  if q6.1 = v4 then (some (1, q6.2))
  else (some (0, q6.2)))
  else (some (0, q4.2)))
  else if v1 = 4 then ((s_fr σ v0 0 4).bind fun x7 =>
  (F_X2_kindOf x7 v2 σ).bind fun q8 =>
  if q8.1 = 2 then ((s_fr q8.2 v0 0 4).bind fun x9 =>
  (F_X2_secondOf x9 v2 q8.2).bind fun q10 =>
  if q10.1 = v4 then (some (1, q10.2))
  else (some (0, q10.2)))
  else (some (0, q8.2)))
  else if v1 = 5 then ((s_fr σ v0 0 4).bind fun x11 =>
  (F_X2_kindOf x11 v4 σ).bind fun q12 =>
  if q12.1 = 3 then ((s_fr q12.2 v0 0 4).bind fun x13 =>
  (F_X2_firstOf x13 v4 q12.2).bind fun q14 =>
  if q14.1 = v2 then (some (1, q14.2))
  else (some (0, q14.2)))
  else (some (0, q12.2)))
  else if v1 = 6 then ((s_fr σ v0 0 4).bind fun x15 =>
  (F_X2_kindOf x15 v4 σ).bind fun q16 =>
  if q16.1 = 3 then ((s_fr q16.2 v0 0 4).bind fun x17 =>
  (F_X2_secondOf x17 v4 q16.2).bind fun q18 =>
  if q18.1 = v2 then (some (1, q18.2))
  else (some (0, q18.2)))
  else (some (0, q16.2)))
  else if v1 = 7 then ((s_fr σ v0 0 4).bind fun x19 =>
  (F_X2_isMade x19 v3 4 v2 v4 σ).bind fun q20 =>
  if (q20.1 = 0 ∨ q20.1 = 1) then (some (q20.1, q20.2)) else none)
  else if v1 = 8 then ((s_fr σ v0 0 4).bind fun x21 =>
  (F_X2_kindOf x21 v2 σ).bind fun q22 =>
  if q22.1 = 1 then ((s_fr q22.2 v0 0 4).bind fun x23 =>
  (s_fr q22.2 v0 0 4).bind fun x24 =>
  (F_X2_firstOf x24 v2 q22.2).bind fun q25 =>
  (F_X2_isMade x23 q25.1 1 v4 (-1) q25.2).bind fun q26 =>
  if q26.1 = 0 then (some (0, q26.2))
  else (some (1, q26.2)))
  else (some (0, q22.2)))
  else if v1 = 9 then (some (0, σ))
  else if v1 = 10 then (some (0, σ))
  else if v1 = 11 then (some (0, σ))
  else if v1 = 12 then (some (0, σ))
  else if v1 = 13 then (some (0, σ))
  else if v1 = 14 then ((s_fr σ v0 0 4).bind fun x27 =>
  (F_X2_isMade x27 v3 1 v2 (-1) σ).bind fun q28 =>
  if (q28.1 = 0 ∨ q28.1 = 1) then (some (q28.1, q28.2)) else none)
  else (some (0, σ))) := by
  unfold R_X0_fitsPlain_0
  rw [s_run_eq]
  show s_go _ _ (T_X0_fitsPlain_0 v0 v1 v2 v3 v4 σ) = _
  unfold T_X0_fitsPlain_0
  simp only [s_go_bind, s_go_ite, s_go_sum, s_go_l, s_go_r, s_go_n]
  try rfl
theorem E_X0_fitsPlain {v0 : Nat} {v1 : Int32} {v2 : Int32} {v3 : Int32} {v4 : Int32} {σ : sS} : F_X0_fitsPlain v0 v1 v2 v3 v4 σ = ((s_is σ v0 0).bind fun _ => R_X0_fitsPlain_0 v0 v1 v2 v3 v4 σ) := rfl
/-! X0_fits -/
noncomputable def R_X0_fits_0 (v0 : Nat) (v1 : Int32) (v2 : Int32) (σ : sS) : Option (Int32 × sS) := s_run (S_X0_fits ) (0, [.ref v0, .int v1, .int v2], σ)
noncomputable def R_X0_fits_336 (v0 : Nat) (v2 : Int32) (v3 : Int32) (v5 : Int32) (v6 : Int32) (σ : sS) : Option (Int32 × sS) := s_run (S_X0_fits ) (336, [.ref v0, .int v2, .int v3, .int v5, .int v6], σ)
theorem E_X0_fits_0 {v0 : Nat} {v1 : Int32} {v2 : Int32} {σ : sS} : R_X0_fits_0 v0 v1 v2 σ = ((s_fr σ v0 0 5).bind fun x1 =>
  (F_X1_nodeOfLine x1 v1 σ).bind fun q2 =>
  (s_fr q2.2 v0 0 5).bind fun x3 =>
  (F_X1_premiseOf x3 v1 0 q2.2).bind fun q4 =>
  (s_fr q4.2 v0 0 5).bind fun x5 =>
  (F_X1_nodeOfLine x5 q4.1 q4.2).bind fun q6 =>
  (s_fr q6.2 v0 0 5).bind fun x7 =>
  (s_fr q6.2 v0 0 5).bind fun x8 =>
  (F_X1_premiseOf x8 v1 1 q6.2).bind fun q9 =>
  (F_X1_nodeOfLine x7 q9.1 q9.2).bind fun q10 =>
  if v2 = 0 then ((s_fr q10.2 v0 0 5).bind fun x11 =>
  (s_fr q10.2 v0 0 5).bind fun x12 =>
  (s_fr q10.2 v0 0 5).bind fun x13 =>
  (F_X1_ofLine x13 v1 3 q10.2).bind fun q14 =>
  (F_X1_toldTo x12 q14.1 q14.2).bind fun q15 =>
  (F_X1_isAmong x11 q15.1 q2.1 q15.2).bind fun q16 =>
  if (q16.1 = 0 ∨ q16.1 = 1) then (some (q16.1, q16.2)) else none)
  else if v2 = 1 then (some (1, q10.2))
  else if v2 = 2 then (R_X0_fits_336 v0 v2 q2.1 q6.1 q10.1 q10.2)
  else if v2 = 3 then (R_X0_fits_336 v0 v2 q2.1 q6.1 q10.1 q10.2)
  else if v2 = 4 then (R_X0_fits_336 v0 v2 q2.1 q6.1 q10.1 q10.2)
  else if v2 = 5 then (R_X0_fits_336 v0 v2 q2.1 q6.1 q10.1 q10.2)
  else if v2 = 6 then (R_X0_fits_336 v0 v2 q2.1 q6.1 q10.1 q10.2)
  else if v2 = 7 then (R_X0_fits_336 v0 v2 q2.1 q6.1 q10.1 q10.2)
  else if v2 = 8 then (R_X0_fits_336 v0 v2 q2.1 q6.1 q10.1 q10.2)
  else if v2 = 9 then ((s_fr q10.2 v0 0 5).bind fun x17 =>
  (s_fr q10.2 v0 0 5).bind fun x18 =>
  (F_X1_premiseOf x18 v1 2 q10.2).bind fun q19 =>
  (F_X1_nodeOfLine x17 q19.1 q19.2).bind fun q20 =>
  (F_X0_fitsCases v0 q6.1 q10.1 q20.1 q2.1 q20.2).bind fun q21 =>
  if (q21.1 = 0 ∨ q21.1 = 1) then (some (q21.1, q21.2)) else none)
  else if v2 = 10 then ((s_fr q10.2 v0 0 5).bind fun x22 =>
  (F_X1_ofLine x22 q4.1 2 q10.2).bind fun q23 =>
  if q23.1 = 1 then ((s_fr q23.2 v0 0 4).bind fun x24 =>
  (F_X2_isMade x24 q2.1 4 q6.1 q10.1 q23.2).bind fun q25 =>
  if q25.1 = 0 then (some (0, q25.2))
  else (some (1, q25.2)))
  else (some (0, q23.2)))
  else if v2 = 11 then ((s_fr q10.2 v0 0 4).bind fun x26 =>
  (F_X2_kindOf x26 q6.1 q10.2).bind fun q27 =>
  if q27.1 = 5 then ((F_X0_isPlaced v0 q6.1 q2.1 q27.2).bind fun q28 =>
  if q28.1 = 0 then (some (0, q28.2))
  else (some (1, q28.2)))
  else (some (0, q27.2)))
  else if v2 = 12 then ((s_fr q10.2 v0 0 4).bind fun x29 =>
  (F_X2_kindOf x29 q2.1 q10.2).bind fun q30 =>
  if q30.1 = 5 then ((F_X0_areEach v0 v1 q2.1 q30.2).bind fun q31 =>
  if q31.1 = 0 then (some (0, q31.2))
  else (some (1, q31.2)))
  else (some (0, q30.2)))
  else if v2 = 13 then ((s_fr q10.2 v0 0 4).bind fun x32 =>
  (F_X2_kindOf x32 q2.1 q10.2).bind fun q33 =>
  if q33.1 = 6 then ((F_X0_isPlaced v0 q2.1 q6.1 q33.2).bind fun q34 =>
  if q34.1 = 0 then (some (0, q34.2))
  else (some (1, q34.2)))
  else (some (0, q33.2)))
  else if v2 = 14 then (R_X0_fits_336 v0 v2 q2.1 q6.1 q10.1 q10.2)
  else if v2 = 15 then (if q6.1 = q2.1 then ((s_fr q10.2 v0 0 5).bind fun x35 =>
  (F_X1_ofLine x35 q4.1 0 q10.2).bind fun q36 =>
  (s_fr q36.2 v0 0 5).bind fun x37 =>
  (F_X1_ofLine x37 v1 0 q36.2).bind fun q38 =>
  if q36.1 = q38.1 then (some (0, q38.2))
  else (some (1, q38.2)))
  else (some (0, q10.2)))
  else (R_X0_fits_336 v0 v2 q2.1 q6.1 q10.1 q10.2)) := by
  unfold R_X0_fits_0
  rw [s_run_eq]
  show s_go _ _ (T_X0_fits_0 v0 v1 v2 σ) = _
  unfold T_X0_fits_0
  simp only [s_go_bind, s_go_ite, s_go_sum, s_go_l, s_go_r, s_go_n]
  try rfl
theorem E_X0_fits_336 {v0 : Nat} {v2 : Int32} {v3 : Int32} {v5 : Int32} {v6 : Int32} {σ : sS} : R_X0_fits_336 v0 v2 v3 v5 v6 σ = ((F_X0_fitsPlain v0 v2 v5 v6 v3 σ).bind fun q1 =>
  if (q1.1 = 0 ∨ q1.1 = 1) then (some (q1.1, q1.2)) else none) := by
  unfold R_X0_fits_336
  rw [s_run_eq]
  show s_go _ _ (T_X0_fits_336 v0 v2 v3 v5 v6 σ) = _
  unfold T_X0_fits_336
  simp only [s_go_bind, s_go_ite, s_go_sum, s_go_l, s_go_r, s_go_n]
  try rfl
theorem E_X0_fits {v0 : Nat} {v1 : Int32} {v2 : Int32} {σ : sS} : F_X0_fits v0 v1 v2 σ = ((s_is σ v0 0).bind fun _ => R_X0_fits_0 v0 v1 v2 σ) := rfl
/-! X0_isHonest -/
noncomputable def R_X0_isHonest_0 (v0 : Nat) (v1 : Int32) (σ : sS) : Option (Int32 × sS) := s_run (S_X0_isHonest ) (0, [.ref v0, .int v1], σ)
theorem E_X0_isHonest_0 {v0 : Nat} {v1 : Int32} {σ : sS} : R_X0_isHonest_0 v0 v1 σ = ((s_fr σ v0 0 5).bind fun x1 =>
  (F_X1_ofLine x1 v1 2 σ).bind fun q2 =>
  (s_fr q2.2 v0 0 5).bind fun x3 =>
  (s_fr q2.2 v0 0 5).bind fun x4 =>
  (F_X1_ofLine x4 v1 0 q2.2).bind fun q5 =>
  (F_X1_hasRule x3 q5.1 q2.1 q5.2).bind fun q6 =>
  if q6.1 = 0 then (some (0, q6.2))
  else ((F_X0_premisesOf v0 v1 q6.2).bind fun q7 =>
  (F_X0_asked v0 q2.1 q7.2).bind fun q8 =>
  if q7.1 = q8.1 then ((F_X0_fits v0 v1 q2.1 q8.2).bind fun q9 =>
  if q9.1 = 0 then (some (0, q9.2))
  else (some (1, q9.2)))
  else (some (0, q8.2)))) := by
  unfold R_X0_isHonest_0
  rw [s_run_eq]
  show s_go _ _ (T_X0_isHonest_0 v0 v1 σ) = _
  unfold T_X0_isHonest_0
  simp only [s_go_bind, s_go_ite, s_go_sum, s_go_l, s_go_r, s_go_n]
  try rfl
theorem E_X0_isHonest {v0 : Nat} {v1 : Int32} {σ : sS} : F_X0_isHonest v0 v1 σ = ((s_is σ v0 0).bind fun _ => R_X0_isHonest_0 v0 v1 σ) := rfl
/-! X0_standsOnSound -/
noncomputable def R_X0_standsOnSound_0 (v0 : Nat) (v1 : Int32) (σ : sS) : Option (Int32 × sS) := s_run (S_X0_standsOnSound ) (0, [.ref v0, .int v1], σ)
noncomputable def R_X0_standsOnSound_2 (v0 : Nat) (v1 : Int32) (v2 : Int32) (σ : sS) : Option (Int32 × sS) := s_run (S_X0_standsOnSound ) (2, [.ref v0, .int v1, .int v2], σ)
noncomputable def R_X0_standsOnSound_37 (v0 : Nat) (v1 : Int32) (v2 : Int32) (σ : sS) : Option (Int32 × sS) := s_run (S_X0_standsOnSound ) (37, [.ref v0, .int v1, .int v2], σ)
theorem E_X0_standsOnSound_0 {v0 : Nat} {v1 : Int32} {σ : sS} : R_X0_standsOnSound_0 v0 v1 σ = (R_X0_standsOnSound_2 v0 v1 0 σ) := by
  unfold R_X0_standsOnSound_0
  rw [s_run_eq]
  show s_go _ _ (T_X0_standsOnSound_0 v0 v1 σ) = _
  unfold T_X0_standsOnSound_0
  simp only [s_go_bind, s_go_ite, s_go_sum, s_go_l, s_go_r, s_go_n]
  try rfl
theorem E_X0_standsOnSound_2 {v0 : Nat} {v1 : Int32} {v2 : Int32} {σ : sS} : R_X0_standsOnSound_2 v0 v1 v2 σ = (if (3 : Int32) ≤ v2 then (some (1, σ))
  else ((s_fr σ v0 0 5).bind fun x1 =>
  (F_X1_premiseOf x1 v1 v2 σ).bind fun q2 =>
  if q2.1 = (-1) then (R_X0_standsOnSound_37 v0 v1 v2 q2.2)
  else ((s_fl q2.2 v0 0 1).bind fun x3 =>
  if (lg_cmp (((x3 : Int64).toUInt64 >>> ((q2.1 : Int32).toInt64.toUInt64 &&& Int64.toUInt64 63)).toInt64 &&& 1) 0) = 0 then (some (0, q2.2))
  else (R_X0_standsOnSound_37 v0 v1 v2 q2.2)))) := by
  unfold R_X0_standsOnSound_2
  rw [s_run_eq]
  show s_go _ _ (T_X0_standsOnSound_2 v0 v1 v2 σ) = _
  unfold T_X0_standsOnSound_2
  simp only [s_go_bind, s_go_ite, s_go_sum, s_go_l, s_go_r, s_go_n]
  try rfl
theorem E_X0_standsOnSound_37 {v0 : Nat} {v1 : Int32} {v2 : Int32} {σ : sS} : R_X0_standsOnSound_37 v0 v1 v2 σ = (R_X0_standsOnSound_2 v0 v1 (v2 + 1) σ) := by
  unfold R_X0_standsOnSound_37
  rw [s_run_eq]
  show s_go _ _ (T_X0_standsOnSound_37 v0 v1 v2 σ) = _
  unfold T_X0_standsOnSound_37
  simp only [s_go_bind, s_go_ite, s_go_sum, s_go_l, s_go_r, s_go_n]
  try rfl
theorem E_X0_standsOnSound {v0 : Nat} {v1 : Int32} {σ : sS} : F_X0_standsOnSound v0 v1 σ = ((s_is σ v0 0).bind fun _ => R_X0_standsOnSound_0 v0 v1 σ) := rfl
/-! X0_audit -/
noncomputable def R_X0_audit_0 (v0 : Nat) (σ : sS) : Option (Unit × sS) := s_run (S_X0_audit ) (0, [.ref v0], σ)
noncomputable def R_X0_audit_33 (v0 : Nat) (v1 : Int64) (v3 : Int32) (σ : sS) : Option (Unit × sS) := s_run (S_X0_audit ) (33, [.ref v0, .long v1, .int v3], σ)
noncomputable def R_X0_audit_87 (v0 : Nat) (v1 : Int64) (v3 : Int32) (v4 : Int64) (w0 : Int64) (w1 : Int64) (w2 : Nat) (σ : sS) : Option (Unit × sS) := s_run (S_X0_audit ) (87, [.ref v0, .long v1, .int v3, .long v4, .long w0, .long w1, .ref w2], σ)
noncomputable def R_X0_audit_91 (v0 : Nat) (v1 : Int64) (v3 : Int32) (v4 : Int64) (σ : sS) : Option (Unit × sS) := s_run (S_X0_audit ) (91, [.ref v0, .long v1, .int v3, .long v4], σ)
noncomputable def R_X0_audit_118 (v0 : Nat) (v1 : Int64) (v3 : Int32) (σ : sS) : Option (Unit × sS) := s_run (S_X0_audit ) (118, [.ref v0, .long v1, .int v3], σ)
theorem E_X0_audit_0 {v0 : Nat} {σ : sS} : R_X0_audit_0 v0 σ = ((s_pf σ v0 0 0 (.long 0)).bind fun σ1 =>
  (s_pf σ1 v0 0 1 (.long 0)).bind fun σ2 =>
  (s_pf σ2 v0 0 2 (.long 0)).bind fun σ3 =>
  (F_X0_staleIf v0 (-1) 0 σ3).bind fun q4 =>
  (s_pf q4.2 v0 0 3 (.long q4.1)).bind fun σ5 =>
  (F_X0_linesOf v0 1 σ5).bind fun q6 =>
  R_X0_audit_33 v0 q6.1 0 q6.2) := by
  unfold R_X0_audit_0
  rw [s_run_eq]
  show s_go _ _ (T_X0_audit_0 v0 σ) = _
  unfold T_X0_audit_0
  simp only [s_go_bind, s_go_ite, s_go_sum, s_go_l, s_go_r, s_go_n]
  try rfl
theorem E_X0_audit_33 {v0 : Nat} {v1 : Int64} {v3 : Int32} {σ : sS} : R_X0_audit_33 v0 v1 v3 σ = ((s_fr σ v0 0 5).bind fun x1 =>
  (s_fi σ x1 1 6).bind fun x2 =>
  if x2 ≤ v3 then (some ((), σ))
  else ((F_X0_isHonest v0 v3 σ).bind fun q3 =>
  if q3.1 = 0 then (R_X0_audit_91 v0 v1 v3 (1 <<< ((v3 : Int32).toInt64 &&& 63)) q3.2)
  else ((s_fl q3.2 v0 0 0).bind fun x4 =>
  (s_pf q3.2 v0 0 0 (.long (x4 ||| (1 <<< ((v3 : Int32).toInt64 &&& 63))))).bind fun σ5 =>
  (s_fl σ5 v0 0 1).bind fun x6 =>
  (F_X0_standsOnSound v0 v3 σ5).bind fun q7 =>
  if q7.1 = 0 then (R_X0_audit_87 v0 v1 v3 (1 <<< ((v3 : Int32).toInt64 &&& 63)) 0 x6 v0 q7.2)
  else (R_X0_audit_87 v0 v1 v3 (1 <<< ((v3 : Int32).toInt64 &&& 63)) (1 <<< ((v3 : Int32).toInt64 &&& 63)) x6 v0 q7.2)))) := by
  unfold R_X0_audit_33
  rw [s_run_eq]
  show s_go _ _ (T_X0_audit_33 v0 v1 v3 σ) = _
  unfold T_X0_audit_33
  simp only [s_go_bind, s_go_ite, s_go_sum, s_go_l, s_go_r, s_go_n]
  try rfl
theorem E_X0_audit_87 {v0 : Nat} {v1 : Int64} {v3 : Int32} {v4 : Int64} {w0 : Int64} {w1 : Int64} {w2 : Nat} {σ : sS} : R_X0_audit_87 v0 v1 v3 v4 w0 w1 w2 σ = ((s_pf σ w2 0 1 (.long (w1 ||| w0))).bind fun σ1 =>
  R_X0_audit_91 v0 v1 v3 v4 σ1) := by
  unfold R_X0_audit_87
  rw [s_run_eq]
  show s_go _ _ (T_X0_audit_87 v0 v1 v3 v4 w0 w1 w2 σ) = _
  unfold T_X0_audit_87
  simp only [s_go_bind, s_go_ite, s_go_sum, s_go_l, s_go_r, s_go_n]
  try rfl
theorem E_X0_audit_91 {v0 : Nat} {v1 : Int64} {v3 : Int32} {v4 : Int64} {σ : sS} : R_X0_audit_91 v0 v1 v3 v4 σ = ((s_fr σ v0 0 5).bind fun x1 =>
  (s_fr σ x1 1 7).bind fun x2 =>
  (s_al σ x2 v3).bind fun x3 =>
  if (lg_cmp (x3 &&& v1) 0) = 0 then (R_X0_audit_118 v0 v1 v3 σ)
  else ((s_fl σ v0 0 2).bind fun x4 =>
  (s_pf σ v0 0 2 (.long (x4 ||| v4))).bind fun σ5 =>
  R_X0_audit_118 v0 v1 v3 σ5)) := by
  unfold R_X0_audit_91
  rw [s_run_eq]
  show s_go _ _ (T_X0_audit_91 v0 v1 v3 v4 σ) = _
  unfold T_X0_audit_91
  simp only [s_go_bind, s_go_ite, s_go_sum, s_go_l, s_go_r, s_go_n]
  try rfl
theorem E_X0_audit_118 {v0 : Nat} {v1 : Int64} {v3 : Int32} {σ : sS} : R_X0_audit_118 v0 v1 v3 σ = (R_X0_audit_33 v0 v1 (v3 + 1) σ) := by
  unfold R_X0_audit_118
  rw [s_run_eq]
  show s_go _ _ (T_X0_audit_118 v0 v1 v3 σ) = _
  unfold T_X0_audit_118
  simp only [s_go_bind, s_go_ite, s_go_sum, s_go_l, s_go_r, s_go_n]
  try rfl
theorem E_X0_audit {v0 : Nat} {σ : sS} : F_X0_audit v0 σ = ((s_is σ v0 0).bind fun _ => R_X0_audit_0 v0 σ) := rfl
/-! X1_isVoid -/
noncomputable def R_X1_isVoid_0 (v0 : Nat) (v1 : Int32) (σ : sS) : Option (Int32 × sS) := s_run (S_X1_isVoid ) (0, [.ref v0, .int v1], σ)
theorem E_X1_isVoid_0 {v0 : Nat} {v1 : Int32} {σ : sS} : R_X1_isVoid_0 v0 v1 σ = ((s_fi σ v0 1 10).bind fun x1 =>
  if ((x1 >>> (v1 &&& 31)) &&& 1) = 0 then (some (0, σ))
  else (some (1, σ))) := by
  unfold R_X1_isVoid_0
  rw [s_run_eq]
  show s_go _ _ (T_X1_isVoid_0 v0 v1 σ) = _
  unfold T_X1_isVoid_0
  simp only [s_go_bind, s_go_ite, s_go_sum, s_go_l, s_go_r, s_go_n]
  try rfl
theorem E_X1_isVoid {v0 : Nat} {v1 : Int32} {σ : sS} : F_X1_isVoid v0 v1 σ = ((s_is σ v0 1).bind fun _ => R_X1_isVoid_0 v0 v1 σ) := rfl
/-! X1_ofReceipt -/
noncomputable def R_X1_ofReceipt_0 (v0 : Nat) (v1 : Int32) (v2 : Int32) (σ : sS) : Option (Int32 × sS) := s_run (S_X1_ofReceipt ) (0, [.ref v0, .int v1, .int v2], σ)
noncomputable def R_X1_ofReceipt_25 (v0 : Nat) (v1 : Int32) (v2 : Int32) (σ : sS) : Option (Int32 × sS) := s_run (S_X1_ofReceipt ) (25, [.ref v0, .int v1, .int v2], σ)
noncomputable def R_X1_ofReceipt_26 (v0 : Nat) (v1 : Int32) (v2 : Int32) (w0 : Int32) (σ : sS) : Option (Int32 × sS) := s_run (S_X1_ofReceipt ) (26, [.ref v0, .int v1, .int v2, .int w0], σ)
theorem E_X1_ofReceipt_0 {v0 : Nat} {v1 : Int32} {v2 : Int32} {σ : sS} : R_X1_ofReceipt_0 v0 v1 v2 σ = (if v1 < 0 then (R_X1_ofReceipt_25 v0 v1 v2 σ)
  else ((s_fi σ v0 1 9).bind fun x1 =>
  if x1 ≤ v1 then (R_X1_ofReceipt_25 v0 v1 v2 σ)
  else (if v2 < 0 then (R_X1_ofReceipt_25 v0 v1 v2 σ)
  else (if (4 : Int32) ≤ v2 then (R_X1_ofReceipt_25 v0 v1 v2 σ)
  else (R_X1_ofReceipt_26 v0 v1 v2 1 σ))))) := by
  unfold R_X1_ofReceipt_0
  rw [s_run_eq]
  show s_go _ _ (T_X1_ofReceipt_0 v0 v1 v2 σ) = _
  unfold T_X1_ofReceipt_0
  simp only [s_go_bind, s_go_ite, s_go_sum, s_go_l, s_go_r, s_go_n]
  try rfl
theorem E_X1_ofReceipt_25 {v0 : Nat} {v1 : Int32} {v2 : Int32} {σ : sS} : R_X1_ofReceipt_25 v0 v1 v2 σ = (R_X1_ofReceipt_26 v0 v1 v2 0 σ) := by
  unfold R_X1_ofReceipt_25
  rw [s_run_eq]
  show s_go _ _ (T_X1_ofReceipt_25 v0 v1 v2 σ) = _
  unfold T_X1_ofReceipt_25
  simp only [s_go_bind, s_go_ite, s_go_sum, s_go_l, s_go_r, s_go_n]
  try rfl
theorem E_X1_ofReceipt_26 {v0 : Nat} {v1 : Int32} {v2 : Int32} {w0 : Int32} {σ : sS} : R_X1_ofReceipt_26 v0 v1 v2 w0 σ = (if w0 = 0 then (some ((-1), σ))
  else ((s_fr σ v0 1 14).bind fun x1 =>
  (s_ai σ x1 ((v1 * 4) + v2)).bind fun x2 =>
  some (x2, σ))) := by
  unfold R_X1_ofReceipt_26
  rw [s_run_eq]
  show s_go _ _ (T_X1_ofReceipt_26 v0 v1 v2 w0 σ) = _
  unfold T_X1_ofReceipt_26
  simp only [s_go_bind, s_go_ite, s_go_sum, s_go_l, s_go_r, s_go_n]
  try rfl
theorem E_X1_ofReceipt {v0 : Nat} {v1 : Int32} {v2 : Int32} {σ : sS} : F_X1_ofReceipt v0 v1 v2 σ = ((s_is σ v0 1).bind fun _ => R_X1_ofReceipt_0 v0 v1 v2 σ) := rfl
/-! X0_isSaved -/
noncomputable def R_X0_isSaved_0 (v0 : Nat) (v1 : Int32) (σ : sS) : Option (Int32 × sS) := s_run (S_X0_isSaved ) (0, [.ref v0, .int v1], σ)
noncomputable def R_X0_isSaved_26 (v0 : Nat) (v1 : Int32) (v2 : Int64) (v4 : Int32) (σ : sS) : Option (Int32 × sS) := s_run (S_X0_isSaved ) (26, [.ref v0, .int v1, .long v2, .int v4], σ)
noncomputable def R_X0_isSaved_71 (v0 : Nat) (v1 : Int32) (v2 : Int64) (v4 : Int32) (σ : sS) : Option (Int32 × sS) := s_run (S_X0_isSaved ) (71, [.ref v0, .int v1, .long v2, .int v4], σ)
theorem E_X0_isSaved_0 {v0 : Nat} {v1 : Int32} {σ : sS} : R_X0_isSaved_0 v0 v1 σ = ((s_fl σ v0 0 1).bind fun x1 =>
  (s_fl σ v0 0 2).bind fun x2 =>
  (s_fl σ v0 0 3).bind fun x3 =>
  R_X0_isSaved_26 v0 v1 ((x1 &&& (x2 ^^^ (-1))) &&& (x3 ^^^ (-1))) 0 σ) := by
  unfold R_X0_isSaved_0
  rw [s_run_eq]
  show s_go _ _ (T_X0_isSaved_0 v0 v1 σ) = _
  unfold T_X0_isSaved_0
  simp only [s_go_bind, s_go_ite, s_go_sum, s_go_l, s_go_r, s_go_n]
  try rfl
theorem E_X0_isSaved_26 {v0 : Nat} {v1 : Int32} {v2 : Int64} {v4 : Int32} {σ : sS} : R_X0_isSaved_26 v0 v1 v2 v4 σ = ((s_fr σ v0 0 5).bind fun x1 =>
  (s_fi σ x1 1 6).bind fun x2 =>
  if x2 ≤ v4 then (some (0, σ))
  else (if (lg_cmp (((v2 : Int64).toUInt64 >>> ((v4 : Int32).toInt64.toUInt64 &&& Int64.toUInt64 63)).toInt64 &&& 1) 0) = 0 then (R_X0_isSaved_71 v0 v1 v2 v4 σ)
  else ((s_fr σ v0 0 5).bind fun x3 =>
  (F_X1_nodeOfLine x3 v4 σ).bind fun q4 =>
  (s_fr q4.2 v0 0 5).bind fun x5 =>
  (F_X1_nodeOfLine x5 v1 q4.2).bind fun q6 =>
  if q4.1 = q6.1 then (some (1, q6.2))
  else (R_X0_isSaved_71 v0 v1 v2 v4 q6.2)))) := by
  unfold R_X0_isSaved_26
  rw [s_run_eq]
  show s_go _ _ (T_X0_isSaved_26 v0 v1 v2 v4 σ) = _
  unfold T_X0_isSaved_26
  simp only [s_go_bind, s_go_ite, s_go_sum, s_go_l, s_go_r, s_go_n]
  try rfl
theorem E_X0_isSaved_71 {v0 : Nat} {v1 : Int32} {v2 : Int64} {v4 : Int32} {σ : sS} : R_X0_isSaved_71 v0 v1 v2 v4 σ = (R_X0_isSaved_26 v0 v1 v2 (v4 + 1) σ) := by
  unfold R_X0_isSaved_71
  rw [s_run_eq]
  show s_go _ _ (T_X0_isSaved_71 v0 v1 v2 v4 σ) = _
  unfold T_X0_isSaved_71
  simp only [s_go_bind, s_go_ite, s_go_sum, s_go_l, s_go_r, s_go_n]
  try rfl
theorem E_X0_isSaved {v0 : Nat} {v1 : Int32} {σ : sS} : F_X0_isSaved v0 v1 σ = ((s_is σ v0 0).bind fun _ => R_X0_isSaved_0 v0 v1 σ) := rfl
/-! X0_tells -/
noncomputable def R_X0_tells_0 (v0 : Nat) (v1 : Int32) (v2 : Int32) (σ : sS) : Option (Int32 × sS) := s_run (S_X0_tells ) (0, [.ref v0, .int v1, .int v2], σ)
theorem E_X0_tells_0 {v0 : Nat} {v1 : Int32} {v2 : Int32} {σ : sS} : R_X0_tells_0 v0 v1 v2 σ = (if v2 = 0 then ((s_fl σ v0 0 0).bind fun x1 =>
  if (lg_cmp (((x1 : Int64).toUInt64 >>> ((v1 : Int32).toInt64.toUInt64 &&& Int64.toUInt64 63)).toInt64 &&& 1) 0) = 0 then (some (0, σ))
  else (some (1, σ)))
  else if v2 = 1 then ((s_fl σ v0 0 1).bind fun x2 =>
  if (lg_cmp (((x2 : Int64).toUInt64 >>> ((v1 : Int32).toInt64.toUInt64 &&& Int64.toUInt64 63)).toInt64 &&& 1) 0) = 0 then (some (0, σ))
  else (some (1, σ)))
  else if v2 = 2 then ((s_fl σ v0 0 2).bind fun x3 =>
  if (lg_cmp (((x3 : Int64).toUInt64 >>> ((v1 : Int32).toInt64.toUInt64 &&& Int64.toUInt64 63)).toInt64 &&& 1) 0) = 0 then (some (0, σ))
  else (some (1, σ)))
  else if v2 = 3 then ((s_fl σ v0 0 3).bind fun x4 =>
  if (lg_cmp (((x4 : Int64).toUInt64 >>> ((v1 : Int32).toInt64.toUInt64 &&& Int64.toUInt64 63)).toInt64 &&& 1) 0) = 0 then (some (0, σ))
  else (some (1, σ)))
  else ((s_fl σ v0 0 3).bind fun x5 =>
  if (lg_cmp (((x5 : Int64).toUInt64 >>> ((v1 : Int32).toInt64.toUInt64 &&& Int64.toUInt64 63)).toInt64 &&& 1) 0) = 0 then (some (0, σ))
  else ((F_X0_isSaved v0 v1 σ).bind fun q6 =>
  if q6.1 = 0 then (some (0, q6.2))
  else (some (1, q6.2))))) := by
  unfold R_X0_tells_0
  rw [s_run_eq]
  show s_go _ _ (T_X0_tells_0 v0 v1 v2 σ) = _
  unfold T_X0_tells_0
  simp only [s_go_bind, s_go_ite, s_go_sum, s_go_l, s_go_r, s_go_n]
  try rfl
theorem E_X0_tells {v0 : Nat} {v1 : Int32} {v2 : Int32} {σ : sS} : F_X0_tells v0 v1 v2 σ = ((s_is σ v0 0).bind fun _ => R_X0_tells_0 v0 v1 v2 σ) := rfl
/-! X6_isBefore -/
noncomputable def R_X6_isBefore_0 (v0 : Nat) (v1 : Int32) (v2 : Int32) (σ : sS) : Option (Int32 × sS) := s_run (S_X6_isBefore ) (0, [.ref v0, .int v1, .int v2], σ)
theorem E_X6_isBefore_0 {v0 : Nat} {v1 : Int32} {v2 : Int32} {σ : sS} : R_X6_isBefore_0 v0 v1 v2 σ = ((s_fr σ v0 6 0).bind fun x1 =>
  (F_X1_ofReceipt x1 v1 3 σ).bind fun q2 =>
  (s_fr q2.2 v0 6 0).bind fun x3 =>
  (F_X1_ofReceipt x3 v2 3 q2.2).bind fun q4 =>
  if (q2.1 - q4.1) < 0 then (some (1, q4.2))
  else (if (q2.1 - q4.1) = 0 then (if v2 ≤ v1 then (some (0, q4.2))
  else (some (1, q4.2)))
  else (some (0, q4.2)))) := by
  unfold R_X6_isBefore_0
  rw [s_run_eq]
  show s_go _ _ (T_X6_isBefore_0 v0 v1 v2 σ) = _
  unfold T_X6_isBefore_0
  simp only [s_go_bind, s_go_ite, s_go_sum, s_go_l, s_go_r, s_go_n]
  try rfl
theorem E_X6_isBefore {v0 : Nat} {v1 : Int32} {v2 : Int32} {σ : sS} : F_X6_isBefore v0 v1 v2 σ = ((s_is σ v0 6).bind fun _ => R_X6_isBefore_0 v0 v1 v2 σ) := rfl
/-! X6_wasSoldBefore -/
noncomputable def R_X6_wasSoldBefore_0 (v0 : Nat) (v1 : Int32) (σ : sS) : Option (Int32 × sS) := s_run (S_X6_wasSoldBefore ) (0, [.ref v0, .int v1], σ)
noncomputable def R_X6_wasSoldBefore_30 (v0 : Nat) (v1 : Int32) (v2 : Int32) (v3 : Int32) (v4 : Int32) (σ : sS) : Option (Int32 × sS) := s_run (S_X6_wasSoldBefore ) (30, [.ref v0, .int v1, .int v2, .int v3, .int v4], σ)
noncomputable def R_X6_wasSoldBefore_101 (v0 : Nat) (v1 : Int32) (v2 : Int32) (v3 : Int32) (v4 : Int32) (σ : sS) : Option (Int32 × sS) := s_run (S_X6_wasSoldBefore ) (101, [.ref v0, .int v1, .int v2, .int v3, .int v4], σ)
theorem E_X6_wasSoldBefore_0 {v0 : Nat} {v1 : Int32} {σ : sS} : R_X6_wasSoldBefore_0 v0 v1 σ = ((s_fr σ v0 6 0).bind fun x1 =>
  (s_fr σ v0 6 0).bind fun x2 =>
  (F_X1_ofReceipt x2 v1 0 σ).bind fun q3 =>
  (F_X1_nodeOfLine x1 q3.1 q3.2).bind fun q4 =>
  (s_fr q4.2 v0 6 0).bind fun x5 =>
  (F_X1_ofReceipt x5 v1 1 q4.2).bind fun q6 =>
  R_X6_wasSoldBefore_30 v0 v1 q4.1 q6.1 0 q6.2) := by
  unfold R_X6_wasSoldBefore_0
  rw [s_run_eq]
  show s_go _ _ (T_X6_wasSoldBefore_0 v0 v1 σ) = _
  unfold T_X6_wasSoldBefore_0
  simp only [s_go_bind, s_go_ite, s_go_sum, s_go_l, s_go_r, s_go_n]
  try rfl
theorem E_X6_wasSoldBefore_30 {v0 : Nat} {v1 : Int32} {v2 : Int32} {v3 : Int32} {v4 : Int32} {σ : sS} : R_X6_wasSoldBefore_30 v0 v1 v2 v3 v4 σ = ((s_fr σ v0 6 0).bind fun x1 =>
  (s_fi σ x1 1 9).bind fun x2 =>
  if x2 ≤ v4 then (some (0, σ))
  else ((s_fr σ v0 6 0).bind fun x3 =>
  (F_X1_isVoid x3 v4 σ).bind fun q4 =>
  if q4.1 = 0 then ((F_X6_isBefore v0 v4 v1 q4.2).bind fun q5 =>
  if q5.1 = 0 then (R_X6_wasSoldBefore_101 v0 v1 v2 v3 v4 q5.2)
  else ((s_fr q5.2 v0 6 0).bind fun x6 =>
  (F_X1_ofReceipt x6 v4 1 q5.2).bind fun q7 =>
  if q7.1 = v3 then ((s_fr q7.2 v0 6 0).bind fun x8 =>
  (s_fr q7.2 v0 6 0).bind fun x9 =>
  (F_X1_ofReceipt x9 v4 0 q7.2).bind fun q10 =>
  (F_X1_nodeOfLine x8 q10.1 q10.2).bind fun q11 =>
  if q11.1 = v2 then (some (1, q11.2))
  else (R_X6_wasSoldBefore_101 v0 v1 v2 v3 v4 q11.2))
  else (R_X6_wasSoldBefore_101 v0 v1 v2 v3 v4 q7.2)))
  else (R_X6_wasSoldBefore_101 v0 v1 v2 v3 v4 q4.2))) := by
  unfold R_X6_wasSoldBefore_30
  rw [s_run_eq]
  show s_go _ _ (T_X6_wasSoldBefore_30 v0 v1 v2 v3 v4 σ) = _
  unfold T_X6_wasSoldBefore_30
  simp only [s_go_bind, s_go_ite, s_go_sum, s_go_l, s_go_r, s_go_n]
  try rfl
theorem E_X6_wasSoldBefore_101 {v0 : Nat} {v1 : Int32} {v2 : Int32} {v3 : Int32} {v4 : Int32} {σ : sS} : R_X6_wasSoldBefore_101 v0 v1 v2 v3 v4 σ = (R_X6_wasSoldBefore_30 v0 v1 v2 v3 (v4 + 1) σ) := by
  unfold R_X6_wasSoldBefore_101
  rw [s_run_eq]
  show s_go _ _ (T_X6_wasSoldBefore_101 v0 v1 v2 v3 v4 σ) = _
  unfold T_X6_wasSoldBefore_101
  simp only [s_go_bind, s_go_ite, s_go_sum, s_go_l, s_go_r, s_go_n]
  try rfl
theorem E_X6_wasSoldBefore {v0 : Nat} {v1 : Int32} {σ : sS} : F_X6_wasSoldBefore v0 v1 σ = ((s_is σ v0 6).bind fun _ => R_X6_wasSoldBefore_0 v0 v1 σ) := rfl
/-! X6_isRefunded -/
noncomputable def R_X6_isRefunded_0 (v0 : Nat) (v1 : Int32) (v2 : Int32) (σ : sS) : Option (Int32 × sS) := s_run (S_X6_isRefunded ) (0, [.ref v0, .int v1, .int v2], σ)
noncomputable def R_X6_isRefunded_28 (v0 : Nat) (v1 : Int32) (v2 : Int32) (v3 : Int32) (σ : sS) : Option (Int32 × sS) := s_run (S_X6_isRefunded ) (28, [.ref v0, .int v1, .int v2, .int v3], σ)
noncomputable def R_X6_isRefunded_46 (v0 : Nat) (v1 : Int32) (v2 : Int32) (v3 : Int32) (σ : sS) : Option (Int32 × sS) := s_run (S_X6_isRefunded ) (46, [.ref v0, .int v1, .int v2, .int v3], σ)
noncomputable def R_X6_isRefunded_76 (v0 : Nat) (v1 : Int32) (v2 : Int32) (v3 : Int32) (σ : sS) : Option (Int32 × sS) := s_run (S_X6_isRefunded ) (76, [.ref v0, .int v1, .int v2, .int v3], σ)
noncomputable def R_X6_isRefunded_95 (v0 : Nat) (v1 : Int32) (v2 : Int32) (σ : sS) : Option (Int32 × sS) := s_run (S_X6_isRefunded ) (95, [.ref v0, .int v1, .int v2], σ)
theorem E_X6_isRefunded_0 {v0 : Nat} {v1 : Int32} {v2 : Int32} {σ : sS} : R_X6_isRefunded_0 v0 v1 v2 σ = ((s_fr σ v0 6 0).bind fun x1 =>
  (F_X1_ofReceipt x1 v1 0 σ).bind fun q2 =>
  if (v2 &&& 1) = 0 then (R_X6_isRefunded_28 v0 v1 v2 q2.1 q2.2)
  else ((s_fr q2.2 v0 6 1).bind fun x3 =>
  (F_X0_tells x3 q2.1 0 q2.2).bind fun q4 =>
  if q4.1 = 0 then (some (1, q4.2))
  else (R_X6_isRefunded_28 v0 v1 v2 q2.1 q4.2))) := by
  unfold R_X6_isRefunded_0
  rw [s_run_eq]
  show s_go _ _ (T_X6_isRefunded_0 v0 v1 v2 σ) = _
  unfold T_X6_isRefunded_0
  simp only [s_go_bind, s_go_ite, s_go_sum, s_go_l, s_go_r, s_go_n]
  try rfl
theorem E_X6_isRefunded_28 {v0 : Nat} {v1 : Int32} {v2 : Int32} {v3 : Int32} {σ : sS} : R_X6_isRefunded_28 v0 v1 v2 v3 σ = (if (v2 &&& 2) = 0 then (R_X6_isRefunded_46 v0 v1 v2 v3 σ)
  else ((s_fr σ v0 6 1).bind fun x1 =>
  (F_X0_tells x1 v3 1 σ).bind fun q2 =>
  if q2.1 = 0 then (some (1, q2.2))
  else (R_X6_isRefunded_46 v0 v1 v2 v3 q2.2))) := by
  unfold R_X6_isRefunded_28
  rw [s_run_eq]
  show s_go _ _ (T_X6_isRefunded_28 v0 v1 v2 v3 σ) = _
  unfold T_X6_isRefunded_28
  simp only [s_go_bind, s_go_ite, s_go_sum, s_go_l, s_go_r, s_go_n]
  try rfl
theorem E_X6_isRefunded_46 {v0 : Nat} {v1 : Int32} {v2 : Int32} {v3 : Int32} {σ : sS} : R_X6_isRefunded_46 v0 v1 v2 v3 σ = (if (v2 &&& 4) = 0 then (R_X6_isRefunded_76 v0 v1 v2 v3 σ)
  else ((s_fr σ v0 6 1).bind fun x1 =>
  (F_X0_tells x1 v3 3 σ).bind fun q2 =>
  if q2.1 = 0 then (R_X6_isRefunded_76 v0 v1 v2 v3 q2.2)
  else ((s_fr q2.2 v0 6 1).bind fun x3 =>
  (F_X0_tells x3 v3 4 q2.2).bind fun q4 =>
  if q4.1 = 0 then (some (1, q4.2))
  else (R_X6_isRefunded_76 v0 v1 v2 v3 q4.2)))) := by
  unfold R_X6_isRefunded_46
  rw [s_run_eq]
  show s_go _ _ (T_X6_isRefunded_46 v0 v1 v2 v3 σ) = _
  unfold T_X6_isRefunded_46
  simp only [s_go_bind, s_go_ite, s_go_sum, s_go_l, s_go_r, s_go_n]
  try rfl
theorem E_X6_isRefunded_76 {v0 : Nat} {v1 : Int32} {v2 : Int32} {v3 : Int32} {σ : sS} : R_X6_isRefunded_76 v0 v1 v2 v3 σ = (if (v2 &&& 8) = 0 then (R_X6_isRefunded_95 v0 v1 v2 σ)
  else ((s_fr σ v0 6 1).bind fun x1 =>
  (F_X0_tells x1 v3 2 σ).bind fun q2 =>
  if q2.1 = 0 then (R_X6_isRefunded_95 v0 v1 v2 q2.2)
  else (some (1, q2.2)))) := by
  unfold R_X6_isRefunded_76
  rw [s_run_eq]
  show s_go _ _ (T_X6_isRefunded_76 v0 v1 v2 v3 σ) = _
  unfold T_X6_isRefunded_76
  simp only [s_go_bind, s_go_ite, s_go_sum, s_go_l, s_go_r, s_go_n]
  try rfl
theorem E_X6_isRefunded_95 {v0 : Nat} {v1 : Int32} {v2 : Int32} {σ : sS} : R_X6_isRefunded_95 v0 v1 v2 σ = (if (v2 &&& 16) = 0 then (some (0, σ))
  else ((F_X6_wasSoldBefore v0 v1 σ).bind fun q1 =>
  if q1.1 = 0 then (some (0, q1.2))
  else (some (1, q1.2)))) := by
  unfold R_X6_isRefunded_95
  rw [s_run_eq]
  show s_go _ _ (T_X6_isRefunded_95 v0 v1 v2 σ) = _
  unfold T_X6_isRefunded_95
  simp only [s_go_bind, s_go_ite, s_go_sum, s_go_l, s_go_r, s_go_n]
  try rfl
theorem E_X6_isRefunded {v0 : Nat} {v1 : Int32} {v2 : Int32} {σ : sS} : F_X6_isRefunded v0 v1 v2 σ = ((s_is σ v0 6).bind fun _ => R_X6_isRefunded_0 v0 v1 v2 σ) := rfl
/-! X6_refunded -/
noncomputable def R_X6_refunded_0 (v0 : Nat) (v1 : Int32) (σ : sS) : Option (Int32 × sS) := s_run (S_X6_refunded ) (0, [.ref v0, .int v1], σ)
noncomputable def R_X6_refunded_4 (v0 : Nat) (v1 : Int32) (v2 : Int32) (v3 : Int32) (σ : sS) : Option (Int32 × sS) := s_run (S_X6_refunded ) (4, [.ref v0, .int v1, .int v2, .int v3], σ)
noncomputable def R_X6_refunded_41 (v0 : Nat) (v1 : Int32) (v2 : Int32) (v3 : Int32) (σ : sS) : Option (Int32 × sS) := s_run (S_X6_refunded ) (41, [.ref v0, .int v1, .int v2, .int v3], σ)
theorem E_X6_refunded_0 {v0 : Nat} {v1 : Int32} {σ : sS} : R_X6_refunded_0 v0 v1 σ = (R_X6_refunded_4 v0 v1 0 0 σ) := by
  unfold R_X6_refunded_0
  rw [s_run_eq]
  show s_go _ _ (T_X6_refunded_0 v0 v1 σ) = _
  unfold T_X6_refunded_0
  simp only [s_go_bind, s_go_ite, s_go_sum, s_go_l, s_go_r, s_go_n]
  try rfl
theorem E_X6_refunded_4 {v0 : Nat} {v1 : Int32} {v2 : Int32} {v3 : Int32} {σ : sS} : R_X6_refunded_4 v0 v1 v2 v3 σ = ((s_fr σ v0 6 0).bind fun x1 =>
  (s_fi σ x1 1 9).bind fun x2 =>
  if x2 ≤ v3 then (some (v2, σ))
  else ((s_fr σ v0 6 0).bind fun x3 =>
  (F_X1_isVoid x3 v3 σ).bind fun q4 =>
  if q4.1 = 0 then ((F_X6_isRefunded v0 v3 v1 q4.2).bind fun q5 =>
  if q5.1 = 0 then (R_X6_refunded_41 v0 v1 v2 v3 q5.2)
  else (R_X6_refunded_41 v0 v1 (v2 ||| (1 <<< (v3 &&& 31))) v3 q5.2))
  else (R_X6_refunded_41 v0 v1 v2 v3 q4.2))) := by
  unfold R_X6_refunded_4
  rw [s_run_eq]
  show s_go _ _ (T_X6_refunded_4 v0 v1 v2 v3 σ) = _
  unfold T_X6_refunded_4
  simp only [s_go_bind, s_go_ite, s_go_sum, s_go_l, s_go_r, s_go_n]
  try rfl
theorem E_X6_refunded_41 {v0 : Nat} {v1 : Int32} {v2 : Int32} {v3 : Int32} {σ : sS} : R_X6_refunded_41 v0 v1 v2 v3 σ = (R_X6_refunded_4 v0 v1 v2 (v3 + 1) σ) := by
  unfold R_X6_refunded_41
  rw [s_run_eq]
  show s_go _ _ (T_X6_refunded_41 v0 v1 v2 v3 σ) = _
  unfold T_X6_refunded_41
  simp only [s_go_bind, s_go_ite, s_go_sum, s_go_l, s_go_r, s_go_n]
  try rfl
theorem E_X6_refunded {v0 : Nat} {v1 : Int32} {σ : sS} : F_X6_refunded v0 v1 σ = ((s_is σ v0 6).bind fun _ => R_X6_refunded_0 v0 v1 σ) := rfl
/-! X6_sellerOf -/
noncomputable def R_X6_sellerOf_0 (v0 : Nat) (v1 : Int32) (σ : sS) : Option (Int32 × sS) := s_run (S_X6_sellerOf ) (0, [.ref v0, .int v1], σ)
theorem E_X6_sellerOf_0 {v0 : Nat} {v1 : Int32} {σ : sS} : R_X6_sellerOf_0 v0 v1 σ = ((s_fr σ v0 6 0).bind fun x1 =>
  (s_fr σ v0 6 0).bind fun x2 =>
  (F_X1_ofReceipt x2 v1 0 σ).bind fun q3 =>
  (F_X1_ofLine x1 q3.1 0 q3.2).bind fun q4 =>
  some (q4.1, q4.2)) := by
  unfold R_X6_sellerOf_0
  rw [s_run_eq]
  show s_go _ _ (T_X6_sellerOf_0 v0 v1 σ) = _
  unfold T_X6_sellerOf_0
  simp only [s_go_bind, s_go_ite, s_go_sum, s_go_l, s_go_r, s_go_n]
  try rfl
theorem E_X6_sellerOf {v0 : Nat} {v1 : Int32} {σ : sS} : F_X6_sellerOf v0 v1 σ = ((s_is σ v0 6).bind fun _ => R_X6_sellerOf_0 v0 v1 σ) := rfl
/-! X6_gainOf -/
noncomputable def R_X6_gainOf_0 (v0 : Nat) (v1 : Int32) (v2 : Int32) (σ : sS) : Option (Int32 × sS) := s_run (S_X6_gainOf ) (0, [.ref v0, .int v1, .int v2], σ)
noncomputable def R_X6_gainOf_12 (v0 : Nat) (v1 : Int32) (v3 : Int32) (v4 : Int32) (v5 : Int32) (σ : sS) : Option (Int32 × sS) := s_run (S_X6_gainOf ) (12, [.ref v0, .int v1, .int v3, .int v4, .int v5], σ)
noncomputable def R_X6_gainOf_74 (v0 : Nat) (v1 : Int32) (v3 : Int32) (v4 : Int32) (v5 : Int32) (v6 : Int32) (σ : sS) : Option (Int32 × sS) := s_run (S_X6_gainOf ) (74, [.ref v0, .int v1, .int v3, .int v4, .int v5, .int v6], σ)
noncomputable def R_X6_gainOf_97 (v0 : Nat) (v1 : Int32) (v3 : Int32) (v4 : Int32) (v5 : Int32) (σ : sS) : Option (Int32 × sS) := s_run (S_X6_gainOf ) (97, [.ref v0, .int v1, .int v3, .int v4, .int v5], σ)
theorem E_X6_gainOf_0 {v0 : Nat} {v1 : Int32} {v2 : Int32} {σ : sS} : R_X6_gainOf_0 v0 v1 v2 σ = ((F_X6_refunded v0 v2 σ).bind fun q1 =>
  R_X6_gainOf_12 v0 v1 q1.1 0 0 q1.2) := by
  unfold R_X6_gainOf_0
  rw [s_run_eq]
  show s_go _ _ (T_X6_gainOf_0 v0 v1 v2 σ) = _
  unfold T_X6_gainOf_0
  simp only [s_go_bind, s_go_ite, s_go_sum, s_go_l, s_go_r, s_go_n]
  try rfl
theorem E_X6_gainOf_12 {v0 : Nat} {v1 : Int32} {v3 : Int32} {v4 : Int32} {v5 : Int32} {σ : sS} : R_X6_gainOf_12 v0 v1 v3 v4 v5 σ = ((s_fr σ v0 6 0).bind fun x1 =>
  (s_fi σ x1 1 9).bind fun x2 =>
  if x2 ≤ v5 then (some (v4, σ))
  else ((s_fr σ v0 6 0).bind fun x3 =>
  (F_X1_isVoid x3 v5 σ).bind fun q4 =>
  if q4.1 = 0 then (if ((v3 >>> (v5 &&& 31)) &&& 1) = 0 then ((s_fr q4.2 v0 6 0).bind fun x5 =>
  (F_X1_ofReceipt x5 v5 2 q4.2).bind fun q6 =>
  (F_X6_sellerOf v0 v5 q6.2).bind fun q7 =>
  if q7.1 = v1 then (R_X6_gainOf_74 v0 v1 v3 (v4 + q6.1) v5 q6.1 q7.2)
  else (R_X6_gainOf_74 v0 v1 v3 v4 v5 q6.1 q7.2))
  else (R_X6_gainOf_97 v0 v1 v3 v4 v5 q4.2))
  else (R_X6_gainOf_97 v0 v1 v3 v4 v5 q4.2))) := by
  unfold R_X6_gainOf_12
  rw [s_run_eq]
  show s_go _ _ (T_X6_gainOf_12 v0 v1 v3 v4 v5 σ) = _
  unfold T_X6_gainOf_12
  simp only [s_go_bind, s_go_ite, s_go_sum, s_go_l, s_go_r, s_go_n]
  try rfl
theorem E_X6_gainOf_74 {v0 : Nat} {v1 : Int32} {v3 : Int32} {v4 : Int32} {v5 : Int32} {v6 : Int32} {σ : sS} : R_X6_gainOf_74 v0 v1 v3 v4 v5 v6 σ = ((s_fr σ v0 6 0).bind fun x1 =>
  (F_X1_ofReceipt x1 v5 1 σ).bind fun q2 =>
  if q2.1 = (4 + v1) then (R_X6_gainOf_97 v0 v1 v3 (v4 - v6) v5 q2.2)
  else (R_X6_gainOf_97 v0 v1 v3 v4 v5 q2.2)) := by
  unfold R_X6_gainOf_74
  rw [s_run_eq]
  show s_go _ _ (T_X6_gainOf_74 v0 v1 v3 v4 v5 v6 σ) = _
  unfold T_X6_gainOf_74
  simp only [s_go_bind, s_go_ite, s_go_sum, s_go_l, s_go_r, s_go_n]
  try rfl
theorem E_X6_gainOf_97 {v0 : Nat} {v1 : Int32} {v3 : Int32} {v4 : Int32} {v5 : Int32} {σ : sS} : R_X6_gainOf_97 v0 v1 v3 v4 v5 σ = (R_X6_gainOf_12 v0 v1 v3 v4 (v5 + 1) σ) := by
  unfold R_X6_gainOf_97
  rw [s_run_eq]
  show s_go _ _ (T_X6_gainOf_97 v0 v1 v3 v4 v5 σ) = _
  unfold T_X6_gainOf_97
  simp only [s_go_bind, s_go_ite, s_go_sum, s_go_l, s_go_r, s_go_n]
  try rfl
theorem E_X6_gainOf {v0 : Nat} {v1 : Int32} {v2 : Int32} {σ : sS} : F_X6_gainOf v0 v1 v2 σ = ((s_is σ v0 6).bind fun _ => R_X6_gainOf_0 v0 v1 v2 σ) := rfl
/-! X7_gains -/
noncomputable def R_X7_gains_0 (v0 : Nat) (v1 : Int32) (v2 : Int32) (σ : sS) : Option ((Int32 ⊕ String) × sS) := s_run (S_X7_gains ) (0, [.ref v0, .int v1, .int v2], σ)
theorem E_X7_gains_0 {v0 : Nat} {v1 : Int32} {v2 : Int32} {σ : sS} : R_X7_gains_0 v0 v1 v2 σ = ((F_X7_needHouse v0 v1 σ).bind fun q1 => s_sum q1.1 (fun x2 => (F_X7_needLaw v0 v2 q1.2).bind fun q4 => s_sum q4.1 (fun x5 => (s_fr q4.2 v0 7 5).bind fun x7 =>
  (F_X0_audit x7 q4.2).bind fun q8 =>
  (s_fr q8.2 v0 7 7).bind fun x9 =>
  (F_X6_gainOf x9 v1 v2 q8.2).bind fun q10 =>
  some (.inl q10.1, q10.2)) (fun E6 => some (.inr E6, q4.2))) (fun E3 => some (.inr E3, q1.2))) := by
  unfold R_X7_gains_0
  rw [s_run_eq]
  show s_go _ _ (T_X7_gains_0 v0 v1 v2 σ) = _
  unfold T_X7_gains_0
  simp only [s_go_bind, s_go_ite, s_go_sum, s_go_l, s_go_r, s_go_n]
  try rfl
theorem E_X7_gains {v0 : Nat} {v1 : Int32} {v2 : Int32} {σ : sS} : F_X7_gains v0 v1 v2 σ = ((s_is σ v0 7).bind fun _ => R_X7_gains_0 v0 v1 v2 σ) := rfl
/-! L_gains -/
noncomputable def R_L_gains_0 (v0 : Nat) (v1 : Int32) (v2 : Int32) (v3 : Nat) (σ : sS) : Option (Int32 × sS) := s_run (S_L_gains ) (0, [.ref v0, .int v1, .int v2, .ref v3], σ)
theorem E_L_gains_0 {v0 : Nat} {v1 : Int32} {v2 : Int32} {v3 : Nat} {σ : sS} : R_L_gains_0 v0 v1 v2 v3 σ = ((F_X7_gains v0 v1 v2 σ).bind fun q1 => s_sum q1.1 (fun x2 => (s_sl q1.2 v3 0 ((x2 : Int32).toInt64)).bind fun σ4 =>
  some (0, σ4)) (fun E3 => if E3 = "java/lang/IndexOutOfBoundsException" then (some (1, q1.2)) else if E3 = "java/lang/IllegalArgumentException" then (some (2, q1.2)) else none)) := by
  unfold R_L_gains_0
  rw [s_run_eq]
  show s_go _ _ (T_L_gains_0 v0 v1 v2 v3 σ) = _
  unfold T_L_gains_0
  simp only [s_go_bind, s_go_ite, s_go_sum, s_go_l, s_go_r, s_go_n]
  try rfl
theorem E_L_gains {v0 : Nat} {v1 : Int32} {v2 : Int32} {v3 : Nat} {σ : sS} : F_L_gains v0 v1 v2 v3 σ = (R_L_gains_0 v0 v1 v2 v3 σ) := rfl
/-! X7_needWorld -/
noncomputable def R_X7_needWorld_0 (v0 : Nat) (v1 : Int32) (σ : sS) : Option ((Unit ⊕ String) × sS) := s_run (S_X7_needWorld ) (0, [.ref v0, .int v1], σ)
theorem E_X7_needWorld_0 {v0 : Nat} {v1 : Int32} {σ : sS} : R_X7_needWorld_0 v0 v1 σ = (if v1 < 0 then (some (.inr "java/lang/IllegalArgumentException", s_ex σ))
  else ((s_fr σ v0 7 1).bind fun x1 =>
  (F_X1_worldCount x1 σ).bind fun q2 =>
  if v1 < q2.1 then (some (.inl (), q2.2))
  else (some (.inr "java/lang/IllegalArgumentException", s_ex q2.2)))) := by
  unfold R_X7_needWorld_0
  rw [s_run_eq]
  show s_go _ _ (T_X7_needWorld_0 v0 v1 σ) = _
  unfold T_X7_needWorld_0
  simp only [s_go_bind, s_go_ite, s_go_sum, s_go_l, s_go_r, s_go_n]
  try rfl
theorem E_X7_needWorld {v0 : Nat} {v1 : Int32} {σ : sS} : F_X7_needWorld v0 v1 σ = ((s_is σ v0 7).bind fun _ => R_X7_needWorld_0 v0 v1 σ) := rfl
/-! X7_holds -/
noncomputable def R_X7_holds_0 (v0 : Nat) (v1 : Int32) (v2 : Int32) (σ : sS) : Option ((Int32 ⊕ String) × sS) := s_run (S_X7_holds ) (0, [.ref v0, .int v1, .int v2], σ)
theorem E_X7_holds_0 {v0 : Nat} {v1 : Int32} {v2 : Int32} {σ : sS} : R_X7_holds_0 v0 v1 v2 σ = ((F_X7_needFormula v0 v1 σ).bind fun q1 => s_sum q1.1 (fun x2 => (F_X7_needWorld v0 v2 q1.2).bind fun q4 => s_sum q4.1 (fun x5 => (s_fr q4.2 v0 7 1).bind fun x7 =>
  (F_X1_isTrue x7 v1 v2 q4.2).bind fun q8 =>
  if (q8.1 = 0 ∨ q8.1 = 1) then (some (.inl q8.1, q8.2)) else none) (fun E6 => some (.inr E6, q4.2))) (fun E3 => some (.inr E3, q1.2))) := by
  unfold R_X7_holds_0
  rw [s_run_eq]
  show s_go _ _ (T_X7_holds_0 v0 v1 v2 σ) = _
  unfold T_X7_holds_0
  simp only [s_go_bind, s_go_ite, s_go_sum, s_go_l, s_go_r, s_go_n]
  try rfl
theorem E_X7_holds {v0 : Nat} {v1 : Int32} {v2 : Int32} {σ : sS} : F_X7_holds v0 v1 v2 σ = ((s_is σ v0 7).bind fun _ => R_X7_holds_0 v0 v1 v2 σ) := rfl
/-! L_holds -/
noncomputable def R_L_holds_0 (v0 : Nat) (v1 : Int32) (v2 : Int32) (v3 : Nat) (σ : sS) : Option (Int32 × sS) := s_run (S_L_holds ) (0, [.ref v0, .int v1, .int v2, .ref v3], σ)
noncomputable def R_L_holds_16 (w0 : Int64) (w1 : Int32) (w2 : Nat) (σ : sS) : Option (Int32 × sS) := s_run (S_L_holds ) (16, [.long w0, .int w1, .ref w2], σ)
theorem E_L_holds_0 {v0 : Nat} {v1 : Int32} {v2 : Int32} {v3 : Nat} {σ : sS} : R_L_holds_0 v0 v1 v2 v3 σ = ((F_X7_holds v0 v1 v2 σ).bind fun q1 => s_sum q1.1 (fun x2 => if x2 = 0 then (R_L_holds_16 0 0 v3 q1.2)
  else (R_L_holds_16 1 0 v3 q1.2)) (fun E3 => if E3 = "java/lang/IndexOutOfBoundsException" then (some (1, q1.2)) else if E3 = "java/lang/IllegalArgumentException" then (some (2, q1.2)) else none)) := by
  unfold R_L_holds_0
  rw [s_run_eq]
  show s_go _ _ (T_L_holds_0 v0 v1 v2 v3 σ) = _
  unfold T_L_holds_0
  simp only [s_go_bind, s_go_ite, s_go_sum, s_go_l, s_go_r, s_go_n]
  try rfl
theorem E_L_holds_16 {w0 : Int64} {w1 : Int32} {w2 : Nat} {σ : sS} : R_L_holds_16 w0 w1 w2 σ = ((s_sl σ w2 w1 w0).bind fun σ1 =>
  some (0, σ1)) := by
  unfold R_L_holds_16
  rw [s_run_eq]
  show s_go _ _ (T_L_holds_16 w0 w1 w2 σ) = _
  unfold T_L_holds_16
  simp only [s_go_bind, s_go_ite, s_go_sum, s_go_l, s_go_r, s_go_n]
  try rfl
theorem E_L_holds {v0 : Nat} {v1 : Int32} {v2 : Int32} {v3 : Nat} {σ : sS} : F_L_holds v0 v1 v2 v3 σ = (R_L_holds_0 v0 v1 v2 v3 σ) := rfl
/-! X3_idleIn -/
noncomputable def R_X3_idleIn_0 (v0 : Nat) (v1 : Int32) (σ : sS) : Option (Int32 × sS) := s_run (S_X3_idleIn ) (0, [.ref v0, .int v1], σ)
noncomputable def R_X3_idleIn_4 (v0 : Nat) (v1 : Int32) (v2 : Int32) (v3 : Int32) (σ : sS) : Option (Int32 × sS) := s_run (S_X3_idleIn ) (4, [.ref v0, .int v1, .int v2, .int v3], σ)
noncomputable def R_X3_idleIn_47 (v0 : Nat) (v1 : Int32) (v2 : Int32) (v3 : Int32) (σ : sS) : Option (Int32 × sS) := s_run (S_X3_idleIn ) (47, [.ref v0, .int v1, .int v2, .int v3], σ)
theorem E_X3_idleIn_0 {v0 : Nat} {v1 : Int32} {σ : sS} : R_X3_idleIn_0 v0 v1 σ = (R_X3_idleIn_4 v0 v1 0 0 σ) := by
  unfold R_X3_idleIn_0
  rw [s_run_eq]
  show s_go _ _ (T_X3_idleIn_0 v0 v1 σ) = _
  unfold T_X3_idleIn_0
  simp only [s_go_bind, s_go_ite, s_go_sum, s_go_l, s_go_r, s_go_n]
  try rfl
theorem E_X3_idleIn_4 {v0 : Nat} {v1 : Int32} {v2 : Int32} {v3 : Int32} {σ : sS} : R_X3_idleIn_4 v0 v1 v2 v3 σ = ((s_fr σ v0 3 0).bind fun x1 =>
  (s_fi σ x1 1 2).bind fun x2 =>
  if x2 ≤ v3 then (some (v2, σ))
  else (if (v1 &&& (1 <<< (v3 &&& 31))) = 0 then (R_X3_idleIn_47 v0 v1 v2 v3 σ)
  else ((F_X3_leastBreach v0 (v1 &&& ((1 <<< (v3 &&& 31)) ^^^ (-1))) v3 σ).bind fun q3 =>
  if q3.1 = (-1) then (R_X3_idleIn_47 v0 v1 (v2 ||| (1 <<< (v3 &&& 31))) v3 q3.2)
  else (R_X3_idleIn_47 v0 v1 v2 v3 q3.2)))) := by
  unfold R_X3_idleIn_4
  rw [s_run_eq]
  show s_go _ _ (T_X3_idleIn_4 v0 v1 v2 v3 σ) = _
  unfold T_X3_idleIn_4
  simp only [s_go_bind, s_go_ite, s_go_sum, s_go_l, s_go_r, s_go_n]
  try rfl
theorem E_X3_idleIn_47 {v0 : Nat} {v1 : Int32} {v2 : Int32} {v3 : Int32} {σ : sS} : R_X3_idleIn_47 v0 v1 v2 v3 σ = (R_X3_idleIn_4 v0 v1 v2 (v3 + 1) σ) := by
  unfold R_X3_idleIn_47
  rw [s_run_eq]
  show s_go _ _ (T_X3_idleIn_47 v0 v1 v2 v3 σ) = _
  unfold T_X3_idleIn_47
  simp only [s_go_bind, s_go_ite, s_go_sum, s_go_l, s_go_r, s_go_n]
  try rfl
theorem E_X3_idleIn {v0 : Nat} {v1 : Int32} {σ : sS} : F_X3_idleIn v0 v1 σ = ((s_is σ v0 3).bind fun _ => R_X3_idleIn_0 v0 v1 σ) := rfl
/-! X7_idle -/
noncomputable def R_X7_idle_0 (v0 : Nat) (v1 : Int32) (σ : sS) : Option ((Int32 ⊕ String) × sS) := s_run (S_X7_idle ) (0, [.ref v0, .int v1], σ)
theorem E_X7_idle_0 {v0 : Nat} {v1 : Int32} {σ : sS} : R_X7_idle_0 v0 v1 σ = ((F_X7_needCustomer v0 v1 σ).bind fun q1 => s_sum q1.1 (fun x2 => (s_fr q1.2 v0 7 4).bind fun x4 =>
  (s_fr q1.2 v0 7 1).bind fun x5 =>
  (s_fr q1.2 x5 1 5).bind fun x6 =>
  (s_ai q1.2 x6 v1).bind fun x7 =>
  (F_X3_idleIn x4 x7 q1.2).bind fun q8 =>
  some (.inl q8.1, q8.2)) (fun E3 => some (.inr E3, q1.2))) := by
  unfold R_X7_idle_0
  rw [s_run_eq]
  show s_go _ _ (T_X7_idle_0 v0 v1 σ) = _
  unfold T_X7_idle_0
  simp only [s_go_bind, s_go_ite, s_go_sum, s_go_l, s_go_r, s_go_n]
  try rfl
theorem E_X7_idle {v0 : Nat} {v1 : Int32} {σ : sS} : F_X7_idle v0 v1 σ = ((s_is σ v0 7).bind fun _ => R_X7_idle_0 v0 v1 σ) := rfl
/-! L_idle -/
noncomputable def R_L_idle_0 (v0 : Nat) (v1 : Int32) (v2 : Nat) (σ : sS) : Option (Int32 × sS) := s_run (S_L_idle ) (0, [.ref v0, .int v1, .ref v2], σ)
theorem E_L_idle_0 {v0 : Nat} {v1 : Int32} {v2 : Nat} {σ : sS} : R_L_idle_0 v0 v1 v2 σ = ((F_X7_idle v0 v1 σ).bind fun q1 => s_sum q1.1 (fun x2 => (s_sl q1.2 v2 0 ((x2 : Int32).toInt64)).bind fun σ4 =>
  some (0, σ4)) (fun E3 => if E3 = "java/lang/IndexOutOfBoundsException" then (some (1, q1.2)) else none)) := by
  unfold R_L_idle_0
  rw [s_run_eq]
  show s_go _ _ (T_L_idle_0 v0 v1 v2 σ) = _
  unfold T_L_idle_0
  simp only [s_go_bind, s_go_ite, s_go_sum, s_go_l, s_go_r, s_go_n]
  try rfl
theorem E_L_idle {v0 : Nat} {v1 : Int32} {v2 : Nat} {σ : sS} : F_L_idle v0 v1 v2 σ = (R_L_idle_0 v0 v1 v2 σ) := rfl
/-! X7_is -/
noncomputable def R_X7_is_0 (v0 : Nat) (v1 : Int32) (v2 : Int32) (σ : sS) : Option ((Int32 ⊕ String) × sS) := s_run (S_X7_is ) (0, [.ref v0, .int v1, .int v2], σ)
theorem E_X7_is_0 {v0 : Nat} {v1 : Int32} {v2 : Int32} {σ : sS} : R_X7_is_0 v0 v1 v2 σ = ((F_X7_needLine v0 v1 σ).bind fun q1 => s_sum q1.1 (fun x2 => if v2 < 0 then (some (.inr "java/util/NoSuchElementException", s_ex q1.2))
  else (if v2 ≤ 4 then ((s_fr q1.2 v0 7 5).bind fun x4 =>
  (F_X0_audit x4 q1.2).bind fun q5 =>
  (s_fr q5.2 v0 7 5).bind fun x6 =>
  (F_X0_tells x6 v1 v2 q5.2).bind fun q7 =>
  if (q7.1 = 0 ∨ q7.1 = 1) then (some (.inl q7.1, q7.2)) else none)
  else (some (.inr "java/util/NoSuchElementException", s_ex q1.2)))) (fun E3 => some (.inr E3, q1.2))) := by
  unfold R_X7_is_0
  rw [s_run_eq]
  show s_go _ _ (T_X7_is_0 v0 v1 v2 σ) = _
  unfold T_X7_is_0
  simp only [s_go_bind, s_go_ite, s_go_sum, s_go_l, s_go_r, s_go_n]
  try rfl
theorem E_X7_is {v0 : Nat} {v1 : Int32} {v2 : Int32} {σ : sS} : F_X7_is v0 v1 v2 σ = ((s_is σ v0 7).bind fun _ => R_X7_is_0 v0 v1 v2 σ) := rfl
/-! L_is -/
noncomputable def R_L_is_0 (v0 : Nat) (v1 : Int32) (v2 : Int32) (v3 : Nat) (σ : sS) : Option (Int32 × sS) := s_run (S_L_is ) (0, [.ref v0, .int v1, .int v2, .ref v3], σ)
noncomputable def R_L_is_16 (w0 : Int64) (w1 : Int32) (w2 : Nat) (σ : sS) : Option (Int32 × sS) := s_run (S_L_is ) (16, [.long w0, .int w1, .ref w2], σ)
theorem E_L_is_0 {v0 : Nat} {v1 : Int32} {v2 : Int32} {v3 : Nat} {σ : sS} : R_L_is_0 v0 v1 v2 v3 σ = ((F_X7_is v0 v1 v2 σ).bind fun q1 => s_sum q1.1 (fun x2 => if x2 = 0 then (R_L_is_16 0 0 v3 q1.2)
  else (R_L_is_16 1 0 v3 q1.2)) (fun E3 => if E3 = "java/lang/IndexOutOfBoundsException" then (some (1, q1.2)) else if E3 = "java/util/NoSuchElementException" then (some (2, q1.2)) else none)) := by
  unfold R_L_is_0
  rw [s_run_eq]
  show s_go _ _ (T_L_is_0 v0 v1 v2 v3 σ) = _
  unfold T_L_is_0
  simp only [s_go_bind, s_go_ite, s_go_sum, s_go_l, s_go_r, s_go_n]
  try rfl
theorem E_L_is_16 {w0 : Int64} {w1 : Int32} {w2 : Nat} {σ : sS} : R_L_is_16 w0 w1 w2 σ = ((s_sl σ w2 w1 w0).bind fun σ1 =>
  some (0, σ1)) := by
  unfold R_L_is_16
  rw [s_run_eq]
  show s_go _ _ (T_L_is_16 w0 w1 w2 σ) = _
  unfold T_L_is_16
  simp only [s_go_bind, s_go_ite, s_go_sum, s_go_l, s_go_r, s_go_n]
  try rfl
theorem E_L_is {v0 : Nat} {v1 : Int32} {v2 : Int32} {v3 : Nat} {σ : sS} : F_L_is v0 v1 v2 v3 σ = (R_L_is_0 v0 v1 v2 v3 σ) := rfl
/-! X4_lastRuleIn -/
noncomputable def R_X4_lastRuleIn_0 (v0 : Nat) (v1 : Int32) (σ : sS) : Option (Int32 × sS) := s_run (S_X4_lastRuleIn ) (0, [.ref v0, .int v1], σ)
noncomputable def R_X4_lastRuleIn_31 (v0 : Nat) (v2 : Int32) (v3 : Int32) (v4 : Int32) (σ : sS) : Option (Int32 × sS) := s_run (S_X4_lastRuleIn ) (31, [.ref v0, .int v2, .int v3, .int v4], σ)
noncomputable def R_X4_lastRuleIn_59 (v0 : Nat) (v2 : Int32) (v3 : Int32) (v4 : Int32) (w0 : Int32) (σ : sS) : Option (Int32 × sS) := s_run (S_X4_lastRuleIn ) (59, [.ref v0, .int v2, .int v3, .int v4, .int w0], σ)
noncomputable def R_X4_lastRuleIn_91 (v0 : Nat) (v2 : Int32) (v3 : Int32) (v4 : Int32) (σ : sS) : Option (Int32 × sS) := s_run (S_X4_lastRuleIn ) (91, [.ref v0, .int v2, .int v3, .int v4], σ)
theorem E_X4_lastRuleIn_0 {v0 : Nat} {v1 : Int32} {σ : sS} : R_X4_lastRuleIn_0 v0 v1 σ = ((F_X4_costIn v0 v1 σ).bind fun q1 =>
  if q1.1 = (-1) then (some ((-1), q1.2))
  else ((F_X4_costAlone v0 0 0 q1.2).bind fun q2 =>
  if q2.1 = q1.1 then (some (0, q2.2))
  else (R_X4_lastRuleIn_31 v0 q1.1 14 0 q2.2))) := by
  unfold R_X4_lastRuleIn_0
  rw [s_run_eq]
  show s_go _ _ (T_X4_lastRuleIn_0 v0 v1 σ) = _
  unfold T_X4_lastRuleIn_0
  simp only [s_go_bind, s_go_ite, s_go_sum, s_go_l, s_go_r, s_go_n]
  try rfl
theorem E_X4_lastRuleIn_31 {v0 : Nat} {v2 : Int32} {v3 : Int32} {v4 : Int32} {σ : sS} : R_X4_lastRuleIn_31 v0 v2 v3 v4 σ = ((s_fi σ v0 4 10).bind fun x1 =>
  if x1 ≤ v4 then (some (v3, σ))
  else ((s_fr σ v0 4 6).bind fun x2 =>
  (s_ai σ x2 ((v4 * 5) + 1)).bind fun x3 =>
  if x3 = 0 then (R_X4_lastRuleIn_59 v0 v2 v3 v4 1 σ)
  else (R_X4_lastRuleIn_59 v0 v2 v3 v4 0 σ))) := by
  unfold R_X4_lastRuleIn_31
  rw [s_run_eq]
  show s_go _ _ (T_X4_lastRuleIn_31 v0 v2 v3 v4 σ) = _
  unfold T_X4_lastRuleIn_31
  simp only [s_go_bind, s_go_ite, s_go_sum, s_go_l, s_go_r, s_go_n]
  try rfl
theorem E_X4_lastRuleIn_59 {v0 : Nat} {v2 : Int32} {v3 : Int32} {v4 : Int32} {w0 : Int32} {σ : sS} : R_X4_lastRuleIn_59 v0 v2 v3 v4 w0 σ = (if w0 = 0 then (R_X4_lastRuleIn_91 v0 v2 v3 v4 σ)
  else ((F_X4_costOfStep v0 0 v4 σ).bind fun q1 =>
  if q1.1 = v2 then ((s_fr q1.2 v0 4 6).bind fun x2 =>
  (s_ai q1.2 x2 (v4 * 5)).bind fun x3 =>
  R_X4_lastRuleIn_91 v0 v2 (if x3 < v3 then x3 else v3) v4 q1.2)
  else (R_X4_lastRuleIn_91 v0 v2 v3 v4 q1.2))) := by
  unfold R_X4_lastRuleIn_59
  rw [s_run_eq]
  show s_go _ _ (T_X4_lastRuleIn_59 v0 v2 v3 v4 w0 σ) = _
  unfold T_X4_lastRuleIn_59
  simp only [s_go_bind, s_go_ite, s_go_sum, s_go_l, s_go_r, s_go_n]
  try rfl
theorem E_X4_lastRuleIn_91 {v0 : Nat} {v2 : Int32} {v3 : Int32} {v4 : Int32} {σ : sS} : R_X4_lastRuleIn_91 v0 v2 v3 v4 σ = (R_X4_lastRuleIn_31 v0 v2 v3 (v4 + 1) σ) := by
  unfold R_X4_lastRuleIn_91
  rw [s_run_eq]
  show s_go _ _ (T_X4_lastRuleIn_91 v0 v2 v3 v4 σ) = _
  unfold T_X4_lastRuleIn_91
  simp only [s_go_bind, s_go_ite, s_go_sum, s_go_l, s_go_r, s_go_n]
  try rfl
theorem E_X4_lastRuleIn {v0 : Nat} {v1 : Int32} {σ : sS} : F_X4_lastRuleIn v0 v1 σ = ((s_is σ v0 4).bind fun _ => R_X4_lastRuleIn_0 v0 v1 σ) := rfl
/-! X7_lastly -/
noncomputable def R_X7_lastly_0 (v0 : Nat) (v1 : Int32) (v2 : Int32) (v3 : Int32) (σ : sS) : Option ((Int32 ⊕ String) × sS) := s_run (S_X7_lastly ) (0, [.ref v0, .int v1, .int v2, .int v3], σ)
theorem E_X7_lastly_0 {v0 : Nat} {v1 : Int32} {v2 : Int32} {v3 : Int32} {σ : sS} : R_X7_lastly_0 v0 v1 v2 v3 σ = ((F_X7_needProof v0 v1 v2 v3 σ).bind fun q1 => s_sum q1.1 (fun x2 => (s_fr q1.2 v0 7 6).bind fun x4 =>
  (F_X4_lastRuleIn x4 v1 q1.2).bind fun q5 =>
  some (.inl q5.1, q5.2)) (fun E3 => some (.inr E3, q1.2))) := by
  unfold R_X7_lastly_0
  rw [s_run_eq]
  show s_go _ _ (T_X7_lastly_0 v0 v1 v2 v3 σ) = _
  unfold T_X7_lastly_0
  simp only [s_go_bind, s_go_ite, s_go_sum, s_go_l, s_go_r, s_go_n]
  try rfl
theorem E_X7_lastly {v0 : Nat} {v1 : Int32} {v2 : Int32} {v3 : Int32} {σ : sS} : F_X7_lastly v0 v1 v2 v3 σ = ((s_is σ v0 7).bind fun _ => R_X7_lastly_0 v0 v1 v2 v3 σ) := rfl
/-! L_lastly -/
noncomputable def R_L_lastly_0 (v0 : Nat) (v1 : Int32) (v2 : Int32) (v3 : Int32) (v4 : Nat) (σ : sS) : Option (Int32 × sS) := s_run (S_L_lastly ) (0, [.ref v0, .int v1, .int v2, .int v3, .ref v4], σ)
theorem E_L_lastly_0 {v0 : Nat} {v1 : Int32} {v2 : Int32} {v3 : Int32} {v4 : Nat} {σ : sS} : R_L_lastly_0 v0 v1 v2 v3 v4 σ = ((F_X7_lastly v0 v1 v2 v3 σ).bind fun q1 => s_sum q1.1 (fun x2 => (s_sl q1.2 v4 0 ((x2 : Int32).toInt64)).bind fun σ4 =>
  some (0, σ4)) (fun E3 => if E3 = "java/lang/IndexOutOfBoundsException" then (some (1, q1.2)) else none)) := by
  unfold R_L_lastly_0
  rw [s_run_eq]
  show s_go _ _ (T_L_lastly_0 v0 v1 v2 v3 v4 σ) = _
  unfold T_L_lastly_0
  simp only [s_go_bind, s_go_ite, s_go_sum, s_go_l, s_go_r, s_go_n]
  try rfl
theorem E_L_lastly {v0 : Nat} {v1 : Int32} {v2 : Int32} {v3 : Int32} {v4 : Nat} {σ : sS} : F_L_lastly v0 v1 v2 v3 v4 σ = (R_L_lastly_0 v0 v1 v2 v3 v4 σ) := rfl
/-! X2_init -/
noncomputable def R_X2_init_0 (v0 : Nat) (σ : sS) : Option (Unit × sS) := s_run (S_X2_init ) (0, [.ref v0], σ)
theorem E_X2_init_0 {v0 : Nat} {σ : sS} : R_X2_init_0 v0 σ = ((s_na σ 0 128).bind fun σ1 =>
  (s_pf σ1 v0 2 1 (.ref σ.2.1)).bind fun σ2 =>
  (s_na σ2 0 128).bind fun σ3 =>
  (s_pf σ3 v0 2 2 (.ref σ2.2.1)).bind fun σ4 =>
  (s_na σ4 0 128).bind fun σ5 =>
  (s_pf σ5 v0 2 3 (.ref σ4.2.1)).bind fun σ6 =>
  (s_na σ6 0 128).bind fun σ7 =>
  (s_pf σ7 v0 2 4 (.ref σ6.2.1)).bind fun σ8 =>
  (s_na σ8 0 128).bind fun σ9 =>
  (s_pf σ9 v0 2 5 (.ref σ8.2.1)).bind fun σ10 =>
  (s_na σ10 0 384).bind fun σ11 =>
  (s_pf σ11 v0 2 6 (.ref σ10.2.1)).bind fun σ12 =>
  (s_na σ12 0 128).bind fun σ13 =>
  (s_pf σ13 v0 2 7 (.ref σ12.2.1)).bind fun σ14 =>
  (s_fr σ14 v0 2 7).bind fun x15 =>
  (F_J7_fill_53178 x15 (-1) σ14).bind fun q16 =>
  some ((), q16.2)) := by
  unfold R_X2_init_0
  rw [s_run_eq]
  show s_go _ _ (T_X2_init_0 v0 σ) = _
  unfold T_X2_init_0
  simp only [s_go_bind, s_go_ite, s_go_sum, s_go_l, s_go_r, s_go_n]
  try rfl
theorem E_X2_init {v0 : Nat} {σ : sS} : F_X2_init v0 σ = (R_X2_init_0 v0 σ) := rfl
/-! X1_init -/
noncomputable def R_X1_init_0 (v0 : Nat) (σ : sS) : Option (Unit × sS) := s_run (S_X1_init ) (0, [.ref v0], σ)
noncomputable def R_X1_init_83 (v0 : Nat) (v1 : Int32) (σ : sS) : Option (Unit × sS) := s_run (S_X1_init ) (83, [.ref v0, .int v1], σ)
noncomputable def R_X1_init_98 (v0 : Nat) (v1 : Int32) (v2 : Int32) (σ : sS) : Option (Unit × sS) := s_run (S_X1_init ) (98, [.ref v0, .int v1, .int v2], σ)
noncomputable def R_X1_init_126 (v0 : Nat) (v1 : Int32) (v2 : Int32) (w0 : Int32) (w1 : Int32) (w2 : Nat) (σ : sS) : Option (Unit × sS) := s_run (S_X1_init ) (126, [.ref v0, .int v1, .int v2, .int w0, .int w1, .ref w2], σ)
theorem E_X1_init_0 {v0 : Nat} {σ : sS} : R_X1_init_0 v0 σ = ((s_pf σ v0 1 0 (.int 2)).bind fun σ1 =>
  (s_na σ1 1 480).bind fun σ2 =>
  (s_pf σ2 v0 1 3 (.ref σ1.2.1)).bind fun σ3 =>
  (s_na σ3 0 3).bind fun σ4 =>
  (s_pf σ4 v0 1 4 (.ref σ3.2.1)).bind fun σ5 =>
  (s_na σ5 0 4).bind fun σ6 =>
  (s_pf σ6 v0 1 5 (.ref σ5.2.1)).bind fun σ7 =>
  (s_na σ7 1 40).bind fun σ8 =>
  (s_pf σ8 v0 1 7 (.ref σ7.2.1)).bind fun σ9 =>
  (s_na σ9 1 40).bind fun σ10 =>
  (s_pf σ10 v0 1 8 (.ref σ9.2.1)).bind fun σ11 =>
  (s_na σ11 0 30).bind fun σ12 =>
  (s_pf σ12 v0 1 11 (.ref σ11.2.1)).bind fun σ13 =>
  (s_na σ13 0 51).bind fun σ14 =>
  (s_pf σ14 v0 1 12 (.ref σ13.2.1)).bind fun σ15 =>
  (s_na σ15 0 240).bind fun σ16 =>
  (s_pf σ16 v0 1 13 (.ref σ15.2.1)).bind fun σ17 =>
  (s_na σ17 0 120).bind fun σ18 =>
  (s_pf σ18 v0 1 14 (.ref σ17.2.1)).bind fun σ19 =>
  R_X1_init_83 v0 0 σ19) := by
  unfold R_X1_init_0
  rw [s_run_eq]
  show s_go _ _ (T_X1_init_0 v0 σ) = _
  unfold T_X1_init_0
  simp only [s_go_bind, s_go_ite, s_go_sum, s_go_l, s_go_r, s_go_n]
  try rfl
theorem E_X1_init_83 {v0 : Nat} {v1 : Int32} {σ : sS} : R_X1_init_83 v0 v1 σ = (if (3 : Int32) ≤ v1 then (some ((), σ))
  else ((s_fr σ v0 1 4).bind fun x1 =>
  (s_si σ x1 v1 65535).bind fun σ2 =>
  R_X1_init_98 v0 v1 0 σ2)) := by
  unfold R_X1_init_83
  rw [s_run_eq]
  show s_go _ _ (T_X1_init_83 v0 v1 σ) = _
  unfold T_X1_init_83
  simp only [s_go_bind, s_go_ite, s_go_sum, s_go_l, s_go_r, s_go_n]
  try rfl
theorem E_X1_init_98 {v0 : Nat} {v1 : Int32} {v2 : Int32} {σ : sS} : R_X1_init_98 v0 v1 v2 σ = (if (17 : Int32) ≤ v2 then (R_X1_init_83 v0 (v1 + 1) σ)
  else ((s_fr σ v0 1 12).bind fun x1 =>
  if v2 = 16 then (R_X1_init_126 v0 v1 v2 1 ((v1 * 17) + v2) x1 σ)
  else (R_X1_init_126 v0 v1 v2 10 ((v1 * 17) + v2) x1 σ))) := by
  unfold R_X1_init_98
  rw [s_run_eq]
  show s_go _ _ (T_X1_init_98 v0 v1 v2 σ) = _
  unfold T_X1_init_98
  simp only [s_go_bind, s_go_ite, s_go_sum, s_go_l, s_go_r, s_go_n]
  try rfl
theorem E_X1_init_126 {v0 : Nat} {v1 : Int32} {v2 : Int32} {w0 : Int32} {w1 : Int32} {w2 : Nat} {σ : sS} : R_X1_init_126 v0 v1 v2 w0 w1 w2 σ = ((s_si σ w2 w1 w0).bind fun σ1 =>
  R_X1_init_98 v0 v1 (v2 + 1) σ1) := by
  unfold R_X1_init_126
  rw [s_run_eq]
  show s_go _ _ (T_X1_init_126 v0 v1 v2 w0 w1 w2 σ) = _
  unfold T_X1_init_126
  simp only [s_go_bind, s_go_ite, s_go_sum, s_go_l, s_go_r, s_go_n]
  try rfl
theorem E_X1_init {v0 : Nat} {σ : sS} : F_X1_init v0 σ = (R_X1_init_0 v0 σ) := rfl
/-! X5_init -/
noncomputable def R_X5_init_0 (v0 : Nat) (v1 : Nat) (σ : sS) : Option (Unit × sS) := s_run (S_X5_init ) (0, [.ref v0, .ref v1], σ)
theorem E_X5_init_0 {v0 : Nat} {v1 : Nat} {σ : sS} : R_X5_init_0 v0 v1 σ = ((s_pf σ v0 5 1 (.int (-1))).bind fun σ1 =>
  (s_na σ1 2 400).bind fun σ2 =>
  (s_pf σ2 v0 5 3 (.ref σ1.2.1)).bind fun σ3 =>
  (s_pf σ3 v0 5 2 (.ref v1)).bind fun σ4 =>
  some ((), σ4)) := by
  unfold R_X5_init_0
  rw [s_run_eq]
  show s_go _ _ (T_X5_init_0 v0 v1 σ) = _
  unfold T_X5_init_0
  simp only [s_go_bind, s_go_ite, s_go_sum, s_go_l, s_go_r, s_go_n]
  try rfl
theorem E_X5_init {v0 : Nat} {v1 : Nat} {σ : sS} : F_X5_init v0 v1 σ = (R_X5_init_0 v0 v1 σ) := rfl
/-! X3_init -/
noncomputable def R_X3_init_0 (v0 : Nat) (v1 : Nat) (σ : sS) : Option (Unit × sS) := s_run (S_X3_init ) (0, [.ref v0, .ref v1], σ)
theorem E_X3_init_0 {v0 : Nat} {v1 : Nat} {σ : sS} : R_X3_init_0 v0 v1 σ = ((s_na σ 1 16).bind fun σ1 =>
  (s_pf σ1 v0 3 1 (.ref σ.2.1)).bind fun σ2 =>
  (s_na σ2 1 16).bind fun σ3 =>
  (s_pf σ3 v0 3 2 (.ref σ2.2.1)).bind fun σ4 =>
  (s_na σ4 1 16).bind fun σ5 =>
  (s_pf σ5 v0 3 3 (.ref σ4.2.1)).bind fun σ6 =>
  (s_na σ6 0 14).bind fun σ7 =>
  (s_pf σ7 v0 3 4 (.ref σ6.2.1)).bind fun σ8 =>
  (s_na σ8 1 256).bind fun σ9 =>
  (s_pf σ9 v0 3 5 (.ref σ8.2.1)).bind fun σ10 =>
  (s_pf σ10 v0 3 0 (.ref v1)).bind fun σ11 =>
  some ((), σ11)) := by
  unfold R_X3_init_0
  rw [s_run_eq]
  show s_go _ _ (T_X3_init_0 v0 v1 σ) = _
  unfold T_X3_init_0
  simp only [s_go_bind, s_go_ite, s_go_sum, s_go_l, s_go_r, s_go_n]
  try rfl
theorem E_X3_init {v0 : Nat} {v1 : Nat} {σ : sS} : F_X3_init v0 v1 σ = (R_X3_init_0 v0 v1 σ) := rfl
/-! X0_init -/
noncomputable def R_X0_init_0 (v0 : Nat) (v1 : Nat) (v2 : Nat) (σ : sS) : Option (Unit × sS) := s_run (S_X0_init ) (0, [.ref v0, .ref v1, .ref v2], σ)
theorem E_X0_init_0 {v0 : Nat} {v1 : Nat} {v2 : Nat} {σ : sS} : R_X0_init_0 v0 v1 v2 σ = ((s_pf σ v0 0 4 (.ref v1)).bind fun σ1 =>
  (s_pf σ1 v0 0 5 (.ref v2)).bind fun σ2 =>
  some ((), σ2)) := by
  unfold R_X0_init_0
  rw [s_run_eq]
  show s_go _ _ (T_X0_init_0 v0 v1 v2 σ) = _
  unfold T_X0_init_0
  simp only [s_go_bind, s_go_ite, s_go_sum, s_go_l, s_go_r, s_go_n]
  try rfl
theorem E_X0_init {v0 : Nat} {v1 : Nat} {v2 : Nat} {σ : sS} : F_X0_init v0 v1 v2 σ = (R_X0_init_0 v0 v1 v2 σ) := rfl
/-! X4_init -/
noncomputable def R_X4_init_0 (v0 : Nat) (v1 : Nat) (v2 : Nat) (σ : sS) : Option (Unit × sS) := s_run (S_X4_init ) (0, [.ref v0, .ref v1, .ref v2], σ)
theorem E_X4_init_0 {v0 : Nat} {v1 : Nat} {v2 : Nat} {σ : sS} : R_X4_init_0 v0 v1 v2 σ = ((s_na σ 0 40).bind fun σ1 =>
  (s_pf σ1 v0 4 2 (.ref σ.2.1)).bind fun σ2 =>
  (s_na σ2 0 40).bind fun σ3 =>
  (s_pf σ3 v0 4 3 (.ref σ2.2.1)).bind fun σ4 =>
  (s_na σ4 0 16).bind fun σ5 =>
  (s_pf σ5 v0 4 4 (.ref σ4.2.1)).bind fun σ6 =>
  (s_na σ6 0 3).bind fun σ7 =>
  (s_pf σ7 v0 4 5 (.ref σ6.2.1)).bind fun σ8 =>
  (s_na σ8 0 2800).bind fun σ9 =>
  (s_pf σ9 v0 4 6 (.ref σ8.2.1)).bind fun σ10 =>
  (s_na σ10 0 320).bind fun σ11 =>
  (s_pf σ11 v0 4 7 (.ref σ10.2.1)).bind fun σ12 =>
  (s_pf σ12 v0 4 0 (.ref v1)).bind fun σ13 =>
  (s_pf σ13 v0 4 1 (.ref v2)).bind fun σ14 =>
  some ((), σ14)) := by
  unfold R_X4_init_0
  rw [s_run_eq]
  show s_go _ _ (T_X4_init_0 v0 v1 v2 σ) = _
  unfold T_X4_init_0
  simp only [s_go_bind, s_go_ite, s_go_sum, s_go_l, s_go_r, s_go_n]
  try rfl
theorem E_X4_init {v0 : Nat} {v1 : Nat} {v2 : Nat} {σ : sS} : F_X4_init v0 v1 v2 σ = (R_X4_init_0 v0 v1 v2 σ) := rfl
/-! X6_init -/
noncomputable def R_X6_init_0 (v0 : Nat) (v1 : Nat) (v2 : Nat) (σ : sS) : Option (Unit × sS) := s_run (S_X6_init ) (0, [.ref v0, .ref v1, .ref v2], σ)
theorem E_X6_init_0 {v0 : Nat} {v1 : Nat} {v2 : Nat} {σ : sS} : R_X6_init_0 v0 v1 v2 σ = ((s_pf σ v0 6 0 (.ref v1)).bind fun σ1 =>
  (s_pf σ1 v0 6 1 (.ref v2)).bind fun σ2 =>
  some ((), σ2)) := by
  unfold R_X6_init_0
  rw [s_run_eq]
  show s_go _ _ (T_X6_init_0 v0 v1 v2 σ) = _
  unfold T_X6_init_0
  simp only [s_go_bind, s_go_ite, s_go_sum, s_go_l, s_go_r, s_go_n]
  try rfl
theorem E_X6_init {v0 : Nat} {v1 : Nat} {v2 : Nat} {σ : sS} : F_X6_init v0 v1 v2 σ = (R_X6_init_0 v0 v1 v2 σ) := rfl
/-! X7_init -/
noncomputable def R_X7_init_0 (v0 : Nat) (σ : sS) : Option (Unit × sS) := s_run (S_X7_init ) (0, [.ref v0], σ)
theorem E_X7_init_0 {v0 : Nat} {σ : sS} : R_X7_init_0 v0 σ = ((some (s_nw σ 2 8 [.int 0, .null, .null, .null, .null, .null, .null, .null])).bind fun σ1 =>
  (F_X2_init σ.2.1 σ1).bind fun q2 =>
  (s_pf q2.2 v0 7 0 (.ref σ.2.1)).bind fun σ3 =>
  (some (s_nw σ3 1 15 [.int 0, .int 0, .int 0, .null, .null, .null, .int 0, .null, .null, .int 0, .int 0, .null, .null, .null, .null])).bind fun σ4 =>
  (F_X1_init σ3.2.1 σ4).bind fun q5 =>
  (s_pf q5.2 v0 7 1 (.ref σ3.2.1)).bind fun σ6 =>
  (some (s_nw σ6 1 15 [.int 0, .int 0, .int 0, .null, .null, .null, .int 0, .null, .null, .int 0, .int 0, .null, .null, .null, .null])).bind fun σ7 =>
  (F_X1_init σ6.2.1 σ7).bind fun q8 =>
  (s_pf q8.2 v0 7 2 (.ref σ6.2.1)).bind fun σ9 =>
  (some (s_nw σ9 5 7 [.int 0, .int 0, .null, .null, .int 0, .int 0, .int 0])).bind fun σ10 =>
  (s_fr σ10 v0 7 0).bind fun x11 =>
  (F_X5_init σ9.2.1 x11 σ10).bind fun q12 =>
  (s_pf q12.2 v0 7 3 (.ref σ9.2.1)).bind fun σ13 =>
  (some (s_nw σ13 3 6 [.null, .null, .null, .null, .null, .null])).bind fun σ14 =>
  (s_fr σ14 v0 7 1).bind fun x15 =>
  (F_X3_init σ13.2.1 x15 σ14).bind fun q16 =>
  (s_pf q16.2 v0 7 4 (.ref σ13.2.1)).bind fun σ17 =>
  (some (s_nw σ17 0 6 [.long 0, .long 0, .long 0, .long 0, .null, .null])).bind fun σ18 =>
  (s_fr σ18 v0 7 0).bind fun x19 =>
  (s_fr σ18 v0 7 1).bind fun x20 =>
  (F_X0_init σ17.2.1 x19 x20 σ18).bind fun q21 =>
  (s_pf q21.2 v0 7 5 (.ref σ17.2.1)).bind fun σ22 =>
  (some (s_nw σ22 4 13 [.null, .null, .null, .null, .null, .null, .null, .null, .int 0, .int 0, .int 0, .int 0, .int 0])).bind fun σ23 =>
  (s_fr σ23 v0 7 0).bind fun x24 =>
  (s_fr σ23 v0 7 1).bind fun x25 =>
  (F_X4_init σ22.2.1 x24 x25 σ23).bind fun q26 =>
  (s_pf q26.2 v0 7 6 (.ref σ22.2.1)).bind fun σ27 =>
  (some (s_nw σ27 6 2 [.null, .null])).bind fun σ28 =>
  (s_fr σ28 v0 7 1).bind fun x29 =>
  (s_fr σ28 v0 7 5).bind fun x30 =>
  (F_X6_init σ27.2.1 x29 x30 σ28).bind fun q31 =>
  (s_pf q31.2 v0 7 7 (.ref σ27.2.1)).bind fun σ32 =>
  some ((), σ32)) := by
  unfold R_X7_init_0
  rw [s_run_eq]
  show s_go _ _ (T_X7_init_0 v0 σ) = _
  unfold T_X7_init_0
  simp only [s_go_bind, s_go_ite, s_go_sum, s_go_l, s_go_r, s_go_n]
  try rfl
theorem E_X7_init {v0 : Nat} {σ : sS} : F_X7_init v0 σ = (R_X7_init_0 v0 σ) := rfl
/-! X8_init -/
noncomputable def R_X8_init_0 (v0 : Nat) (σ : sS) : Option (Unit × sS) := s_run (S_X8_init ) (0, [.ref v0], σ)
noncomputable def R_X8_init_227 (v0 : Nat) (v1 : Int32) (σ : sS) : Option (Unit × sS) := s_run (S_X8_init ) (227, [.ref v0, .int v1], σ)
noncomputable def R_X8_init_249 (v0 : Nat) (v1 : Int32) (v2 : Int32) (v3 : Int32) (σ : sS) : Option (Unit × sS) := s_run (S_X8_init ) (249, [.ref v0, .int v1, .int v2, .int v3], σ)
theorem E_X8_init_0 {v0 : Nat} {σ : sS} : R_X8_init_0 v0 σ = ((s_na σ 0 1682).bind fun σ1 =>
  (s_pf σ1 v0 8 1 (.ref σ.2.1)).bind fun σ2 =>
  (s_na σ2 0 1682).bind fun σ3 =>
  (s_pf σ3 v0 8 2 (.ref σ2.2.1)).bind fun σ4 =>
  (s_na σ4 0 72).bind fun σ5 =>
  (s_pf σ5 v0 8 4 (.ref σ4.2.1)).bind fun σ6 =>
  (s_na σ6 0 2880).bind fun σ7 =>
  (s_pf σ7 v0 8 5 (.ref σ6.2.1)).bind fun σ8 =>
  (s_na σ8 2 400).bind fun σ9 =>
  (s_pf σ9 v0 8 6 (.ref σ8.2.1)).bind fun σ10 =>
  (s_pf σ10 v0 8 13 (.int (-1))).bind fun σ11 =>
  (s_na σ11 0 5).bind fun σ12 =>
  (s_pf σ12 v0 8 15 (.ref σ11.2.1)).bind fun σ13 =>
  (s_na σ13 0 40).bind fun σ14 =>
  (s_pf σ14 v0 8 16 (.ref σ13.2.1)).bind fun σ15 =>
  (s_na σ15 3 40).bind fun σ16 =>
  (s_pf σ16 v0 8 17 (.ref σ15.2.1)).bind fun σ17 =>
  (s_na σ17 1 40).bind fun σ18 =>
  (s_pf σ18 v0 8 18 (.ref σ17.2.1)).bind fun σ19 =>
  (s_na σ19 1 40).bind fun σ20 =>
  (s_pf σ20 v0 8 19 (.ref σ19.2.1)).bind fun σ21 =>
  (s_na σ21 0 1024).bind fun σ22 =>
  (s_pf σ22 v0 8 20 (.ref σ21.2.1)).bind fun σ23 =>
  (s_na σ23 0 1088).bind fun σ24 =>
  (s_pf σ24 v0 8 21 (.ref σ23.2.1)).bind fun σ25 =>
  (s_na σ25 0 4).bind fun σ26 =>
  (s_pf σ26 v0 8 22 (.ref σ25.2.1)).bind fun σ27 =>
  (s_na σ27 0 40).bind fun σ28 =>
  (s_pf σ28 v0 8 23 (.ref σ27.2.1)).bind fun σ29 =>
  (s_na σ29 0 40).bind fun σ30 =>
  (s_pf σ30 v0 8 24 (.ref σ29.2.1)).bind fun σ31 =>
  (s_na σ31 0 40).bind fun σ32 =>
  (s_pf σ32 v0 8 25 (.ref σ31.2.1)).bind fun σ33 =>
  (s_na σ33 0 120).bind fun σ34 =>
  (s_pf σ34 v0 8 26 (.ref σ33.2.1)).bind fun σ35 =>
  (s_na σ35 3 40).bind fun σ36 =>
  (s_pf σ36 v0 8 27 (.ref σ35.2.1)).bind fun σ37 =>
  (s_na σ37 3 1600).bind fun σ38 =>
  (s_pf σ38 v0 8 28 (.ref σ37.2.1)).bind fun σ39 =>
  (s_na σ39 3 1600).bind fun σ40 =>
  (s_pf σ40 v0 8 29 (.ref σ39.2.1)).bind fun σ41 =>
  (s_na σ41 0 1600).bind fun σ42 =>
  (s_pf σ42 v0 8 30 (.ref σ41.2.1)).bind fun σ43 =>
  (s_na σ43 0 1600).bind fun σ44 =>
  (s_pf σ44 v0 8 31 (.ref σ43.2.1)).bind fun σ45 =>
  (s_na σ45 0 3).bind fun σ46 =>
  (s_pf σ46 v0 8 32 (.ref σ45.2.1)).bind fun σ47 =>
  (s_na σ47 0 320).bind fun σ48 =>
  (s_pf σ48 v0 8 36 (.ref σ47.2.1)).bind fun σ49 =>
  (s_na σ49 0 608).bind fun σ50 =>
  (s_pf σ50 v0 8 37 (.ref σ49.2.1)).bind fun σ51 =>
  (s_fr σ51 v0 8 1).bind fun x52 =>
  (s_si σ51 x52 0 2).bind fun σ53 =>
  R_X8_init_227 v0 0 σ53) := by
  unfold R_X8_init_0
  rw [s_run_eq]
  show s_go _ _ (T_X8_init_0 v0 σ) = _
  unfold T_X8_init_0
  simp only [s_go_bind, s_go_ite, s_go_sum, s_go_l, s_go_r, s_go_n]
  try rfl
theorem E_X8_init_227 {v0 : Nat} {v1 : Int32} {σ : sS} : R_X8_init_227 v0 v1 σ = (if (3 : Int32) ≤ v1 then (some ((), σ))
  else ((s_fr σ v0 8 1).bind fun x1 =>
  (s_si σ x1 (4 + (18 * v1)) 65535).bind fun σ2 =>
  R_X8_init_249 v0 v1 (4 + (18 * v1)) 0 σ2)) := by
  unfold R_X8_init_227
  rw [s_run_eq]
  show s_go _ _ (T_X8_init_227 v0 v1 σ) = _
  unfold T_X8_init_227
  simp only [s_go_bind, s_go_ite, s_go_sum, s_go_l, s_go_r, s_go_n]
  try rfl
theorem E_X8_init_249 {v0 : Nat} {v1 : Int32} {v2 : Int32} {v3 : Int32} {σ : sS} : R_X8_init_249 v0 v1 v2 v3 σ = (if (16 : Int32) ≤ v3 then ((s_fr σ v0 8 1).bind fun x1 =>
  (s_si σ x1 ((v2 + 1) + 16) 1).bind fun σ2 =>
  R_X8_init_227 v0 (v1 + 1) σ2)
  else ((s_fr σ v0 8 1).bind fun x3 =>
  (s_si σ x3 ((v2 + 1) + v3) 10).bind fun σ4 =>
  R_X8_init_249 v0 v1 v2 (v3 + 1) σ4)) := by
  unfold R_X8_init_249
  rw [s_run_eq]
  show s_go _ _ (T_X8_init_249 v0 v1 v2 v3 σ) = _
  unfold T_X8_init_249
  simp only [s_go_bind, s_go_ite, s_go_sum, s_go_l, s_go_r, s_go_n]
  try rfl
theorem E_X8_init {v0 : Nat} {σ : sS} : F_X8_init v0 σ = (R_X8_init_0 v0 σ) := rfl
/-! X5_hasRoom -/
noncomputable def R_X5_hasRoom_0 (v0 : Nat) (v1 : Int32) (σ : sS) : Option (Int32 × sS) := s_run (S_X5_hasRoom ) (0, [.ref v0, .int v1], σ)
theorem E_X5_hasRoom_0 {v0 : Nat} {v1 : Int32} {σ : sS} : R_X5_hasRoom_0 v0 v1 σ = ((s_fi σ v0 5 0).bind fun x1 =>
  if (400 : Int32) < (x1 + v1) then (some (0, σ))
  else (some (1, σ))) := by
  unfold R_X5_hasRoom_0
  rw [s_run_eq]
  show s_go _ _ (T_X5_hasRoom_0 v0 v1 σ) = _
  unfold T_X5_hasRoom_0
  simp only [s_go_bind, s_go_ite, s_go_sum, s_go_l, s_go_r, s_go_n]
  try rfl
theorem E_X5_hasRoom {v0 : Nat} {v1 : Int32} {σ : sS} : F_X5_hasRoom v0 v1 σ = ((s_is σ v0 5).bind fun _ => R_X5_hasRoom_0 v0 v1 σ) := rfl
/-! X5_put -/
noncomputable def R_X5_put_0 (v0 : Nat) (v1 : Int32) (σ : sS) : Option (Unit × sS) := s_run (S_X5_put ) (0, [.ref v0, .int v1], σ)
noncomputable def R_X5_put_3 (v0 : Nat) (v1 : Int32) (v2 : Int32) (σ : sS) : Option (Unit × sS) := s_run (S_X5_put ) (3, [.ref v0, .int v1, .int v2], σ)
theorem E_X5_put_0 {v0 : Nat} {v1 : Int32} {σ : sS} : R_X5_put_0 v0 v1 σ = (R_X5_put_3 v0 v1 24 σ) := by
  unfold R_X5_put_0
  rw [s_run_eq]
  show s_go _ _ (T_X5_put_0 v0 v1 σ) = _
  unfold T_X5_put_0
  simp only [s_go_bind, s_go_ite, s_go_sum, s_go_l, s_go_r, s_go_n]
  try rfl
theorem E_X5_put_3 {v0 : Nat} {v1 : Int32} {v2 : Int32} {σ : sS} : R_X5_put_3 v0 v1 v2 σ = (if v2 < 0 then (some ((), σ))
  else ((s_fi σ v0 5 0).bind fun x1 =>
  if (400 : Int32) ≤ x1 then (some ((), σ))
  else ((s_fr σ v0 5 3).bind fun x2 =>
  (s_fi σ v0 5 0).bind fun x3 =>
  (s_sb σ x2 x3 (((v1 >>> (v2 &&& 31)) : Int32).toInt8.toInt32)).bind fun σ4 =>
  (s_fi σ4 v0 5 0).bind fun x5 =>
  (s_pf σ4 v0 5 0 (.int (x5 + 1))).bind fun σ6 =>
  R_X5_put_3 v0 v1 (v2 + (-8)) σ6))) := by
  unfold R_X5_put_3
  rw [s_run_eq]
  show s_go _ _ (T_X5_put_3 v0 v1 v2 σ) = _
  unfold T_X5_put_3
  simp only [s_go_bind, s_go_ite, s_go_sum, s_go_l, s_go_r, s_go_n]
  try rfl
theorem E_X5_put {v0 : Nat} {v1 : Int32} {σ : sS} : F_X5_put v0 v1 σ = ((s_is σ v0 5).bind fun _ => R_X5_put_0 v0 v1 σ) := rfl
/-! X7_feed -/
noncomputable def R_X7_feed_0 (v0 : Nat) (v1 : Int32) (v2 : Int32) (v3 : Int32) (v4 : Int32) (v5 : Int32) (σ : sS) : Option (Int32 × sS) := s_run (S_X7_feed ) (0, [.ref v0, .int v1, .int v2, .int v3, .int v4, .int v5], σ)
theorem E_X7_feed_0 {v0 : Nat} {v1 : Int32} {v2 : Int32} {v3 : Int32} {v4 : Int32} {v5 : Int32} {σ : sS} : R_X7_feed_0 v0 v1 v2 v3 v4 v5 σ = ((s_fr σ v0 7 3).bind fun x1 =>
  (F_X5_hasRoom x1 20 σ).bind fun q2 =>
  if q2.1 = 0 then (some ((-1), q2.2))
  else ((s_fr q2.2 v0 7 3).bind fun x3 =>
  (F_X5_put x3 v1 q2.2).bind fun q4 =>
  (s_fr q4.2 v0 7 3).bind fun x5 =>
  (F_X5_put x5 v2 q4.2).bind fun q6 =>
  (s_fr q6.2 v0 7 3).bind fun x7 =>
  (F_X5_put x7 v3 q6.2).bind fun q8 =>
  (s_fr q8.2 v0 7 3).bind fun x9 =>
  (F_X5_put x9 v4 q8.2).bind fun q10 =>
  (s_fr q10.2 v0 7 3).bind fun x11 =>
  (F_X5_put x11 v5 q10.2).bind fun q12 =>
  (s_fr q12.2 v0 7 3).bind fun x13 =>
  (s_fi q12.2 x13 5 0).bind fun x14 =>
  some (x14, q12.2))) := by
  unfold R_X7_feed_0
  rw [s_run_eq]
  show s_go _ _ (T_X7_feed_0 v0 v1 v2 v3 v4 v5 σ) = _
  unfold T_X7_feed_0
  simp only [s_go_bind, s_go_ite, s_go_sum, s_go_l, s_go_r, s_go_n]
  try rfl
theorem E_X7_feed {v0 : Nat} {v1 : Int32} {v2 : Int32} {v3 : Int32} {v4 : Int32} {v5 : Int32} {σ : sS} : F_X7_feed v0 v1 v2 v3 v4 v5 σ = ((s_is σ v0 7).bind fun _ => R_X7_feed_0 v0 v1 v2 v3 v4 v5 σ) := rfl
/-! X8_feed -/
noncomputable def R_X8_feed_0 (v0 : Nat) (v1 : Int32) (v2 : Int32) (v3 : Int32) (v4 : Int32) (v5 : Int32) (σ : sS) : Option (Int32 × sS) := s_run (S_X8_feed ) (0, [.ref v0, .int v1, .int v2, .int v3, .int v4, .int v5], σ)
noncomputable def R_X8_feed_60 (v0 : Nat) (v6 : Int32) (σ : sS) : Option (Int32 × sS) := s_run (S_X8_feed ) (60, [.ref v0, .int v6], σ)
theorem E_X8_feed_0 {v0 : Nat} {v1 : Int32} {v2 : Int32} {v3 : Int32} {v4 : Int32} {v5 : Int32} {σ : sS} : R_X8_feed_0 v0 v1 v2 v3 v4 v5 σ = ((s_pf σ v0 8 0 (.int 0)).bind fun σ1 =>
  (s_fi σ1 v0 8 7).bind fun x2 =>
  if (x2 + 20) ≤ 400 then ((s_fr σ1 v0 8 15).bind fun x3 =>
  (s_si σ1 x3 0 v1).bind fun σ4 =>
  (s_fr σ4 v0 8 15).bind fun x5 =>
  (s_si σ4 x5 1 v2).bind fun σ6 =>
  (s_fr σ6 v0 8 15).bind fun x7 =>
  (s_si σ6 x7 2 v3).bind fun σ8 =>
  (s_fr σ8 v0 8 15).bind fun x9 =>
  (s_si σ8 x9 3 v4).bind fun σ10 =>
  (s_fr σ10 v0 8 15).bind fun x11 =>
  (s_si σ10 x11 4 v5).bind fun σ12 =>
  R_X8_feed_60 v0 0 σ12)
  else (some ((-1), σ1))) := by
  unfold R_X8_feed_0
  rw [s_run_eq]
  show s_go _ _ (T_X8_feed_0 v0 v1 v2 v3 v4 v5 σ) = _
  unfold T_X8_feed_0
  simp only [s_go_bind, s_go_ite, s_go_sum, s_go_l, s_go_r, s_go_n]
  try rfl
theorem E_X8_feed_60 {v0 : Nat} {v6 : Int32} {σ : sS} : R_X8_feed_60 v0 v6 σ = (if (20 : Int32) ≤ v6 then ((s_fi σ v0 8 7).bind fun x1 =>
  (s_pf σ v0 8 7 (.int (x1 + 20))).bind fun σ2 =>
  (s_fi σ2 v0 8 7).bind fun x3 =>
  some (x3, σ2))
  else ((s_fr σ v0 8 6).bind fun x4 =>
  (s_fi σ v0 8 7).bind fun x5 =>
  (s_fr σ v0 8 15).bind fun x6 =>
  (s_ai σ x6 (v6 / 4)).bind fun x7 =>
  (s_sb σ x4 (x5 + v6) (((x7 >>> ((24 - (8 * (v6 - v6 / 4 * 4))) &&& 31)) : Int32).toInt8.toInt32)).bind fun σ8 =>
  R_X8_feed_60 v0 (v6 + 1) σ8)) := by
  unfold R_X8_feed_60
  rw [s_run_eq]
  show s_go _ _ (T_X8_feed_60 v0 v6 σ) = _
  unfold T_X8_feed_60
  simp only [s_go_bind, s_go_ite, s_go_sum, s_go_l, s_go_r, s_go_n]
  try rfl
theorem E_X8_feed {v0 : Nat} {v1 : Int32} {v2 : Int32} {v3 : Int32} {v4 : Int32} {v5 : Int32} {σ : sS} : F_X8_feed v0 v1 v2 v3 v4 v5 σ = ((s_is σ v0 8).bind fun _ => R_X8_feed_0 v0 v1 v2 v3 v4 v5 σ) := rfl
