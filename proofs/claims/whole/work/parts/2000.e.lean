/-! runs from labels, and their equations -/
theorem s_go_bind {L R β : Type} {step : L → Option (L ⊕ R)} {run : L → Option R} {o : Option β} {f : β → Option (L ⊕ R)} : s_go step run (o.bind f) = o.bind fun x => s_go step run (f x) := by cases o <;> rfl
theorem s_go_ite {L R : Type} {step : L → Option (L ⊕ R)} {run : L → Option R} {c : Prop} {_ : Decidable c} {a b : Option (L ⊕ R)} : s_go step run (if c then a else b) = if c then s_go step run a else s_go step run b := by split <;> rfl
theorem s_go_sum {L R α β : Type} {step : L → Option (L ⊕ R)} {run : L → Option R} {x : α ⊕ β} {f : α → Option (L ⊕ R)} {g : β → Option (L ⊕ R)} : s_go step run (s_sum x f g) = s_sum x (fun a => s_go step run (f a)) (fun b => s_go step run (g b)) := by cases x <;> rfl
theorem s_go_l {L R : Type} {step : L → Option (L ⊕ R)} {run : L → Option R} {y : L} : s_go step run (some (.inl y)) = run y := rfl
theorem s_go_r {L R : Type} {step : L → Option (L ⊕ R)} {run : L → Option R} {r : R} : s_go step run (some (.inr r)) = some r := rfl
theorem s_go_n {L R : Type} {step : L → Option (L ⊕ R)} {run : L → Option R} : s_go step run none = none := rfl

/-! J0_isLatin1_aae02 -/
noncomputable def R_J0_isLatin1_aae02_0 (v0 : Nat) (σ : sS) : Option (Int32 × sS) := s_run (S_J0_isLatin1_aae02 ) (0, [.ref v0], σ)
theorem E_J0_isLatin1_aae02_0 {v0 : Nat} {σ : sS} : R_J0_isLatin1_aae02_0 v0 σ = (if (1 : Int32) = 0 then (some (0, σ))
  else ((s_fi σ v0 100 1).bind fun x1 =>
  if x1 = 0 then (some (1, σ))
  else (some (0, σ)))) := by
  unfold R_J0_isLatin1_aae02_0
  rw [s_run_eq]
  show s_go _ _ (T_J0_isLatin1_aae02_0 v0 σ) = _
  unfold T_J0_isLatin1_aae02_0
  simp only [s_go_bind, s_go_ite, s_go_sum, s_go_l, s_go_r, s_go_n]
  try rfl
theorem E_J0_isLatin1_aae02 {v0 : Nat} {σ : sS} : F_J0_isLatin1_aae02 v0 σ = ((s_is σ v0 100).bind fun _ => R_J0_isLatin1_aae02_0 v0 σ) := rfl
/-! J1_charAt_3b067 -/
noncomputable def R_J1_charAt_3b067_0 (v0 : Nat) (v1 : Int32) (σ : sS) : Option (Int32 × sS) := s_run (S_J1_charAt_3b067 ) (0, [.ref v0, .int v1], σ)
theorem E_J1_charAt_3b067_0 {v0 : Nat} {v1 : Int32} {σ : sS} : R_J1_charAt_3b067_0 v0 v1 σ = ((s_len σ v0).bind fun x1 =>
  (F_J0_checkIndex_df160 v1 x1 σ).bind fun q2 =>
  (s_ab q2.2 v0 v1).bind fun x3 =>
  if vp_nar .char ((((x3 &&& 255) : Int32).toUInt32 % 65536).toInt32) = ((((x3 &&& 255) : Int32).toUInt32 % 65536).toInt32) then (some (((((x3 &&& 255) : Int32).toUInt32 % 65536).toInt32), q2.2)) else none) := by
  unfold R_J1_charAt_3b067_0
  rw [s_run_eq]
  show s_go _ _ (T_J1_charAt_3b067_0 v0 v1 σ) = _
  unfold T_J1_charAt_3b067_0
  simp only [s_go_bind, s_go_ite, s_go_sum, s_go_l, s_go_r, s_go_n]
  try rfl
theorem E_J1_charAt_3b067 {v0 : Nat} {v1 : Int32} {σ : sS} : F_J1_charAt_3b067 v0 v1 σ = (R_J1_charAt_3b067_0 v0 v1 σ) := rfl
/-! J2_length_9d52b -/
noncomputable def R_J2_length_9d52b_0 (v0 : Nat) (σ : sS) : Option (Int32 × sS) := s_run (S_J2_length_9d52b ) (0, [.ref v0], σ)
theorem E_J2_length_9d52b_0 {v0 : Nat} {σ : sS} : R_J2_length_9d52b_0 v0 σ = ((s_len σ v0).bind fun x1 =>
  some ((x1 >>> (1 &&& 31)), σ)) := by
  unfold R_J2_length_9d52b_0
  rw [s_run_eq]
  show s_go _ _ (T_J2_length_9d52b_0 v0 σ) = _
  unfold T_J2_length_9d52b_0
  simp only [s_go_bind, s_go_ite, s_go_sum, s_go_l, s_go_r, s_go_n]
  try rfl
theorem E_J2_length_9d52b {v0 : Nat} {σ : sS} : F_J2_length_9d52b v0 σ = (R_J2_length_9d52b_0 v0 σ) := rfl
/-! J2_checkIndex_2214a -/
noncomputable def R_J2_checkIndex_2214a_0 (v0 : Int32) (v1 : Nat) (σ : sS) : Option (Unit × sS) := s_run (S_J2_checkIndex_2214a ) (0, [.int v0, .ref v1], σ)
theorem E_J2_checkIndex_2214a_0 {v0 : Int32} {v1 : Nat} {σ : sS} : R_J2_checkIndex_2214a_0 v0 v1 σ = ((F_J2_length_9d52b v1 σ).bind fun q1 =>
  (F_J0_checkIndex_df160 v0 q1.1 q1.2).bind fun q2 =>
  some ((), q2.2)) := by
  unfold R_J2_checkIndex_2214a_0
  rw [s_run_eq]
  show s_go _ _ (T_J2_checkIndex_2214a_0 v0 v1 σ) = _
  unfold T_J2_checkIndex_2214a_0
  simp only [s_go_bind, s_go_ite, s_go_sum, s_go_l, s_go_r, s_go_n]
  try rfl
theorem E_J2_checkIndex_2214a {v0 : Int32} {v1 : Nat} {σ : sS} : F_J2_checkIndex_2214a v0 v1 σ = (R_J2_checkIndex_2214a_0 v0 v1 σ) := rfl
/-! J2_getChar_3b067 -/
noncomputable def R_J2_getChar_3b067_0 (v0 : Nat) (v1 : Int32) (σ : sS) : Option (Int32 × sS) := s_run (S_J2_getChar_3b067 ) (0, [.ref v0, .int v1], σ)
theorem E_J2_getChar_3b067_0 {v0 : Nat} {v1 : Int32} {σ : sS} : R_J2_getChar_3b067_0 v0 v1 σ = (none) := by
  unfold R_J2_getChar_3b067_0
  rw [s_run_eq]
  show s_go _ _ (T_J2_getChar_3b067_0 v0 v1 σ) = _
  unfold T_J2_getChar_3b067_0
  simp only [s_go_bind, s_go_ite, s_go_sum, s_go_l, s_go_r, s_go_n]
  try rfl
theorem E_J2_getChar_3b067 {v0 : Nat} {v1 : Int32} {σ : sS} : F_J2_getChar_3b067 v0 v1 σ = (R_J2_getChar_3b067_0 v0 v1 σ) := rfl
/-! J2_charAt_3b067 -/
noncomputable def R_J2_charAt_3b067_0 (v0 : Nat) (v1 : Int32) (σ : sS) : Option (Int32 × sS) := s_run (S_J2_charAt_3b067 ) (0, [.ref v0, .int v1], σ)
theorem E_J2_charAt_3b067_0 {v0 : Nat} {v1 : Int32} {σ : sS} : R_J2_charAt_3b067_0 v0 v1 σ = ((F_J2_checkIndex_2214a v1 v0 σ).bind fun q1 =>
  (F_J2_getChar_3b067 v0 v1 q1.2).bind fun q2 =>
  if vp_nar .char q2.1 = q2.1 then (some (q2.1, q2.2)) else none) := by
  unfold R_J2_charAt_3b067_0
  rw [s_run_eq]
  show s_go _ _ (T_J2_charAt_3b067_0 v0 v1 σ) = _
  unfold T_J2_charAt_3b067_0
  simp only [s_go_bind, s_go_ite, s_go_sum, s_go_l, s_go_r, s_go_n]
  try rfl
theorem E_J2_charAt_3b067 {v0 : Nat} {v1 : Int32} {σ : sS} : F_J2_charAt_3b067 v0 v1 σ = (R_J2_charAt_3b067_0 v0 v1 σ) := rfl
/-! J0_charAt_5068e -/
noncomputable def R_J0_charAt_5068e_0 (v0 : Nat) (v1 : Int32) (σ : sS) : Option (Int32 × sS) := s_run (S_J0_charAt_5068e ) (0, [.ref v0, .int v1], σ)
theorem E_J0_charAt_5068e_0 {v0 : Nat} {v1 : Int32} {σ : sS} : R_J0_charAt_5068e_0 v0 v1 σ = ((F_J0_isLatin1_aae02 v0 σ).bind fun q1 =>
  if q1.1 = 0 then ((s_fr q1.2 v0 100 0).bind fun x2 =>
  (F_J2_charAt_3b067 x2 v1 q1.2).bind fun q3 =>
  if vp_nar .char q3.1 = q3.1 then (some (q3.1, q3.2)) else none)
  else ((s_fr q1.2 v0 100 0).bind fun x4 =>
  (F_J1_charAt_3b067 x4 v1 q1.2).bind fun q5 =>
  if vp_nar .char q5.1 = q5.1 then (some (q5.1, q5.2)) else none)) := by
  unfold R_J0_charAt_5068e_0
  rw [s_run_eq]
  show s_go _ _ (T_J0_charAt_5068e_0 v0 v1 σ) = _
  unfold T_J0_charAt_5068e_0
  simp only [s_go_bind, s_go_ite, s_go_sum, s_go_l, s_go_r, s_go_n]
  try rfl
theorem E_J0_charAt_5068e {v0 : Nat} {v1 : Int32} {σ : sS} : F_J0_charAt_5068e v0 v1 σ = ((s_is σ v0 100).bind fun _ => R_J0_charAt_5068e_0 v0 v1 σ) := rfl
/-! J0_coder_7d493 -/
noncomputable def R_J0_coder_7d493_0 (v0 : Nat) (σ : sS) : Option (Int32 × sS) := s_run (S_J0_coder_7d493 ) (0, [.ref v0], σ)
theorem E_J0_coder_7d493_0 {v0 : Nat} {σ : sS} : R_J0_coder_7d493_0 v0 σ = (if (1 : Int32) = 0 then (if vp_nar .byte 1 = 1 then (some (1, σ)) else none)
  else ((s_fi σ v0 100 1).bind fun x1 =>
  if vp_nar .byte x1 = x1 then (some (x1, σ)) else none)) := by
  unfold R_J0_coder_7d493_0
  rw [s_run_eq]
  show s_go _ _ (T_J0_coder_7d493_0 v0 σ) = _
  unfold T_J0_coder_7d493_0
  simp only [s_go_bind, s_go_ite, s_go_sum, s_go_l, s_go_r, s_go_n]
  try rfl
theorem E_J0_coder_7d493 {v0 : Nat} {σ : sS} : F_J0_coder_7d493 v0 σ = ((s_is σ v0 100).bind fun _ => R_J0_coder_7d493_0 v0 σ) := rfl
/-! J0_length_8abf5 -/
noncomputable def R_J0_length_8abf5_0 (v0 : Nat) (σ : sS) : Option (Int32 × sS) := s_run (S_J0_length_8abf5 ) (0, [.ref v0], σ)
theorem E_J0_length_8abf5_0 {v0 : Nat} {σ : sS} : R_J0_length_8abf5_0 v0 σ = ((s_fr σ v0 100 0).bind fun x1 =>
  (s_len σ x1).bind fun x2 =>
  (F_J0_coder_7d493 v0 σ).bind fun q3 =>
  some ((x2 >>> (q3.1 &&& 31)), q3.2)) := by
  unfold R_J0_length_8abf5_0
  rw [s_run_eq]
  show s_go _ _ (T_J0_length_8abf5_0 v0 σ) = _
  unfold T_J0_length_8abf5_0
  simp only [s_go_bind, s_go_ite, s_go_sum, s_go_l, s_go_r, s_go_n]
  try rfl
theorem E_J0_length_8abf5 {v0 : Nat} {σ : sS} : F_J0_length_8abf5 v0 σ = ((s_is σ v0 100).bind fun _ => R_J0_length_8abf5_0 v0 σ) := rfl
/-! J13_bitCount_95d88 -/
noncomputable def R_J13_bitCount_95d88_0 (v0 : Int64) (σ : sS) : Option (Int32 × sS) := s_run (S_J13_bitCount_95d88 ) (0, [.long v0], σ)
theorem E_J13_bitCount_95d88_0 {v0 : Int64} {σ : sS} : R_J13_bitCount_95d88_0 v0 σ = (some ((((((((((((v0 - (((v0 : Int64).toUInt64 >>> ((1 : Int32).toInt64.toUInt64 &&& Int64.toUInt64 63)).toInt64 &&& 6148914691236517205)) &&& 3689348814741910323) + ((((v0 - (((v0 : Int64).toUInt64 >>> ((1 : Int32).toInt64.toUInt64 &&& Int64.toUInt64 63)).toInt64 &&& 6148914691236517205)) : Int64).toUInt64 >>> ((2 : Int32).toInt64.toUInt64 &&& Int64.toUInt64 63)).toInt64 &&& 3689348814741910323)) + (((((v0 - (((v0 : Int64).toUInt64 >>> ((1 : Int32).toInt64.toUInt64 &&& Int64.toUInt64 63)).toInt64 &&& 6148914691236517205)) &&& 3689348814741910323) + ((((v0 - (((v0 : Int64).toUInt64 >>> ((1 : Int32).toInt64.toUInt64 &&& Int64.toUInt64 63)).toInt64 &&& 6148914691236517205)) : Int64).toUInt64 >>> ((2 : Int32).toInt64.toUInt64 &&& Int64.toUInt64 63)).toInt64 &&& 3689348814741910323)) : Int64).toUInt64 >>> ((4 : Int32).toInt64.toUInt64 &&& Int64.toUInt64 63)).toInt64) &&& 1085102592571150095) + (((((((v0 - (((v0 : Int64).toUInt64 >>> ((1 : Int32).toInt64.toUInt64 &&& Int64.toUInt64 63)).toInt64 &&& 6148914691236517205)) &&& 3689348814741910323) + ((((v0 - (((v0 : Int64).toUInt64 >>> ((1 : Int32).toInt64.toUInt64 &&& Int64.toUInt64 63)).toInt64 &&& 6148914691236517205)) : Int64).toUInt64 >>> ((2 : Int32).toInt64.toUInt64 &&& Int64.toUInt64 63)).toInt64 &&& 3689348814741910323)) + (((((v0 - (((v0 : Int64).toUInt64 >>> ((1 : Int32).toInt64.toUInt64 &&& Int64.toUInt64 63)).toInt64 &&& 6148914691236517205)) &&& 3689348814741910323) + ((((v0 - (((v0 : Int64).toUInt64 >>> ((1 : Int32).toInt64.toUInt64 &&& Int64.toUInt64 63)).toInt64 &&& 6148914691236517205)) : Int64).toUInt64 >>> ((2 : Int32).toInt64.toUInt64 &&& Int64.toUInt64 63)).toInt64 &&& 3689348814741910323)) : Int64).toUInt64 >>> ((4 : Int32).toInt64.toUInt64 &&& Int64.toUInt64 63)).toInt64) &&& 1085102592571150095) : Int64).toUInt64 >>> ((8 : Int32).toInt64.toUInt64 &&& Int64.toUInt64 63)).toInt64) + ((((((((v0 - (((v0 : Int64).toUInt64 >>> ((1 : Int32).toInt64.toUInt64 &&& Int64.toUInt64 63)).toInt64 &&& 6148914691236517205)) &&& 3689348814741910323) + ((((v0 - (((v0 : Int64).toUInt64 >>> ((1 : Int32).toInt64.toUInt64 &&& Int64.toUInt64 63)).toInt64 &&& 6148914691236517205)) : Int64).toUInt64 >>> ((2 : Int32).toInt64.toUInt64 &&& Int64.toUInt64 63)).toInt64 &&& 3689348814741910323)) + (((((v0 - (((v0 : Int64).toUInt64 >>> ((1 : Int32).toInt64.toUInt64 &&& Int64.toUInt64 63)).toInt64 &&& 6148914691236517205)) &&& 3689348814741910323) + ((((v0 - (((v0 : Int64).toUInt64 >>> ((1 : Int32).toInt64.toUInt64 &&& Int64.toUInt64 63)).toInt64 &&& 6148914691236517205)) : Int64).toUInt64 >>> ((2 : Int32).toInt64.toUInt64 &&& Int64.toUInt64 63)).toInt64 &&& 3689348814741910323)) : Int64).toUInt64 >>> ((4 : Int32).toInt64.toUInt64 &&& Int64.toUInt64 63)).toInt64) &&& 1085102592571150095) + (((((((v0 - (((v0 : Int64).toUInt64 >>> ((1 : Int32).toInt64.toUInt64 &&& Int64.toUInt64 63)).toInt64 &&& 6148914691236517205)) &&& 3689348814741910323) + ((((v0 - (((v0 : Int64).toUInt64 >>> ((1 : Int32).toInt64.toUInt64 &&& Int64.toUInt64 63)).toInt64 &&& 6148914691236517205)) : Int64).toUInt64 >>> ((2 : Int32).toInt64.toUInt64 &&& Int64.toUInt64 63)).toInt64 &&& 3689348814741910323)) + (((((v0 - (((v0 : Int64).toUInt64 >>> ((1 : Int32).toInt64.toUInt64 &&& Int64.toUInt64 63)).toInt64 &&& 6148914691236517205)) &&& 3689348814741910323) + ((((v0 - (((v0 : Int64).toUInt64 >>> ((1 : Int32).toInt64.toUInt64 &&& Int64.toUInt64 63)).toInt64 &&& 6148914691236517205)) : Int64).toUInt64 >>> ((2 : Int32).toInt64.toUInt64 &&& Int64.toUInt64 63)).toInt64 &&& 3689348814741910323)) : Int64).toUInt64 >>> ((4 : Int32).toInt64.toUInt64 &&& Int64.toUInt64 63)).toInt64) &&& 1085102592571150095) : Int64).toUInt64 >>> ((8 : Int32).toInt64.toUInt64 &&& Int64.toUInt64 63)).toInt64) : Int64).toUInt64 >>> ((16 : Int32).toInt64.toUInt64 &&& Int64.toUInt64 63)).toInt64) + (((((((((v0 - (((v0 : Int64).toUInt64 >>> ((1 : Int32).toInt64.toUInt64 &&& Int64.toUInt64 63)).toInt64 &&& 6148914691236517205)) &&& 3689348814741910323) + ((((v0 - (((v0 : Int64).toUInt64 >>> ((1 : Int32).toInt64.toUInt64 &&& Int64.toUInt64 63)).toInt64 &&& 6148914691236517205)) : Int64).toUInt64 >>> ((2 : Int32).toInt64.toUInt64 &&& Int64.toUInt64 63)).toInt64 &&& 3689348814741910323)) + (((((v0 - (((v0 : Int64).toUInt64 >>> ((1 : Int32).toInt64.toUInt64 &&& Int64.toUInt64 63)).toInt64 &&& 6148914691236517205)) &&& 3689348814741910323) + ((((v0 - (((v0 : Int64).toUInt64 >>> ((1 : Int32).toInt64.toUInt64 &&& Int64.toUInt64 63)).toInt64 &&& 6148914691236517205)) : Int64).toUInt64 >>> ((2 : Int32).toInt64.toUInt64 &&& Int64.toUInt64 63)).toInt64 &&& 3689348814741910323)) : Int64).toUInt64 >>> ((4 : Int32).toInt64.toUInt64 &&& Int64.toUInt64 63)).toInt64) &&& 1085102592571150095) + (((((((v0 - (((v0 : Int64).toUInt64 >>> ((1 : Int32).toInt64.toUInt64 &&& Int64.toUInt64 63)).toInt64 &&& 6148914691236517205)) &&& 3689348814741910323) + ((((v0 - (((v0 : Int64).toUInt64 >>> ((1 : Int32).toInt64.toUInt64 &&& Int64.toUInt64 63)).toInt64 &&& 6148914691236517205)) : Int64).toUInt64 >>> ((2 : Int32).toInt64.toUInt64 &&& Int64.toUInt64 63)).toInt64 &&& 3689348814741910323)) + (((((v0 - (((v0 : Int64).toUInt64 >>> ((1 : Int32).toInt64.toUInt64 &&& Int64.toUInt64 63)).toInt64 &&& 6148914691236517205)) &&& 3689348814741910323) + ((((v0 - (((v0 : Int64).toUInt64 >>> ((1 : Int32).toInt64.toUInt64 &&& Int64.toUInt64 63)).toInt64 &&& 6148914691236517205)) : Int64).toUInt64 >>> ((2 : Int32).toInt64.toUInt64 &&& Int64.toUInt64 63)).toInt64 &&& 3689348814741910323)) : Int64).toUInt64 >>> ((4 : Int32).toInt64.toUInt64 &&& Int64.toUInt64 63)).toInt64) &&& 1085102592571150095) : Int64).toUInt64 >>> ((8 : Int32).toInt64.toUInt64 &&& Int64.toUInt64 63)).toInt64) + ((((((((v0 - (((v0 : Int64).toUInt64 >>> ((1 : Int32).toInt64.toUInt64 &&& Int64.toUInt64 63)).toInt64 &&& 6148914691236517205)) &&& 3689348814741910323) + ((((v0 - (((v0 : Int64).toUInt64 >>> ((1 : Int32).toInt64.toUInt64 &&& Int64.toUInt64 63)).toInt64 &&& 6148914691236517205)) : Int64).toUInt64 >>> ((2 : Int32).toInt64.toUInt64 &&& Int64.toUInt64 63)).toInt64 &&& 3689348814741910323)) + (((((v0 - (((v0 : Int64).toUInt64 >>> ((1 : Int32).toInt64.toUInt64 &&& Int64.toUInt64 63)).toInt64 &&& 6148914691236517205)) &&& 3689348814741910323) + ((((v0 - (((v0 : Int64).toUInt64 >>> ((1 : Int32).toInt64.toUInt64 &&& Int64.toUInt64 63)).toInt64 &&& 6148914691236517205)) : Int64).toUInt64 >>> ((2 : Int32).toInt64.toUInt64 &&& Int64.toUInt64 63)).toInt64 &&& 3689348814741910323)) : Int64).toUInt64 >>> ((4 : Int32).toInt64.toUInt64 &&& Int64.toUInt64 63)).toInt64) &&& 1085102592571150095) + (((((((v0 - (((v0 : Int64).toUInt64 >>> ((1 : Int32).toInt64.toUInt64 &&& Int64.toUInt64 63)).toInt64 &&& 6148914691236517205)) &&& 3689348814741910323) + ((((v0 - (((v0 : Int64).toUInt64 >>> ((1 : Int32).toInt64.toUInt64 &&& Int64.toUInt64 63)).toInt64 &&& 6148914691236517205)) : Int64).toUInt64 >>> ((2 : Int32).toInt64.toUInt64 &&& Int64.toUInt64 63)).toInt64 &&& 3689348814741910323)) + (((((v0 - (((v0 : Int64).toUInt64 >>> ((1 : Int32).toInt64.toUInt64 &&& Int64.toUInt64 63)).toInt64 &&& 6148914691236517205)) &&& 3689348814741910323) + ((((v0 - (((v0 : Int64).toUInt64 >>> ((1 : Int32).toInt64.toUInt64 &&& Int64.toUInt64 63)).toInt64 &&& 6148914691236517205)) : Int64).toUInt64 >>> ((2 : Int32).toInt64.toUInt64 &&& Int64.toUInt64 63)).toInt64 &&& 3689348814741910323)) : Int64).toUInt64 >>> ((4 : Int32).toInt64.toUInt64 &&& Int64.toUInt64 63)).toInt64) &&& 1085102592571150095) : Int64).toUInt64 >>> ((8 : Int32).toInt64.toUInt64 &&& Int64.toUInt64 63)).toInt64) : Int64).toUInt64 >>> ((16 : Int32).toInt64.toUInt64 &&& Int64.toUInt64 63)).toInt64) : Int64).toUInt64 >>> ((32 : Int32).toInt64.toUInt64 &&& Int64.toUInt64 63)).toInt64) : Int64).toInt32) &&& 127), σ)) := by
  unfold R_J13_bitCount_95d88_0
  rw [s_run_eq]
  show s_go _ _ (T_J13_bitCount_95d88_0 v0 σ) = _
  unfold T_J13_bitCount_95d88_0
  simp only [s_go_bind, s_go_ite, s_go_sum, s_go_l, s_go_r, s_go_n]
  try rfl
theorem E_J13_bitCount_95d88 {v0 : Int64} {σ : sS} : F_J13_bitCount_95d88 v0 σ = (R_J13_bitCount_95d88_0 v0 σ) := rfl
/-! J6_numberOfTrailingZeros_0f7a4 -/
noncomputable def R_J6_numberOfTrailingZeros_0f7a4_0 (v0 : Int32) (σ : sS) : Option (Int32 × sS) := s_run (S_J6_numberOfTrailingZeros_0f7a4 ) (0, [.int v0], σ)
noncomputable def R_J6_numberOfTrailingZeros_0f7a4_34 (v0 : Int32) (v1 : Int32) (σ : sS) : Option (Int32 × sS) := s_run (S_J6_numberOfTrailingZeros_0f7a4 ) (34, [.int v0, .int v1], σ)
noncomputable def R_J6_numberOfTrailingZeros_0f7a4_49 (v0 : Int32) (v1 : Int32) (σ : sS) : Option (Int32 × sS) := s_run (S_J6_numberOfTrailingZeros_0f7a4 ) (49, [.int v0, .int v1], σ)
noncomputable def R_J6_numberOfTrailingZeros_0f7a4_62 (v0 : Int32) (v1 : Int32) (σ : sS) : Option (Int32 × sS) := s_run (S_J6_numberOfTrailingZeros_0f7a4 ) (62, [.int v0, .int v1], σ)
noncomputable def R_J6_numberOfTrailingZeros_0f7a4_74 (v0 : Int32) (v1 : Int32) (σ : sS) : Option (Int32 × sS) := s_run (S_J6_numberOfTrailingZeros_0f7a4 ) (74, [.int v0, .int v1], σ)
theorem E_J6_numberOfTrailingZeros_0f7a4_0 {v0 : Int32} {σ : sS} : R_J6_numberOfTrailingZeros_0f7a4_0 v0 σ = (if (0 : Int32) < ((v0 ^^^ (-1)) &&& (v0 - 1)) then (if ((v0 ^^^ (-1)) &&& (v0 - 1)) ≤ 65536 then (R_J6_numberOfTrailingZeros_0f7a4_34 ((v0 ^^^ (-1)) &&& (v0 - 1)) 1 σ)
  else (R_J6_numberOfTrailingZeros_0f7a4_34 (((((v0 ^^^ (-1)) &&& (v0 - 1)) : Int32).toUInt32 >>> ((16 : Int32).toUInt32 &&& Int32.toUInt32 31)).toInt32) (1 + 16) σ))
  else (some ((((v0 ^^^ (-1)) &&& (v0 - 1)) &&& 32), σ))) := by
  unfold R_J6_numberOfTrailingZeros_0f7a4_0
  rw [s_run_eq]
  show s_go _ _ (T_J6_numberOfTrailingZeros_0f7a4_0 v0 σ) = _
  unfold T_J6_numberOfTrailingZeros_0f7a4_0
  simp only [s_go_bind, s_go_ite, s_go_sum, s_go_l, s_go_r, s_go_n]
  try rfl
theorem E_J6_numberOfTrailingZeros_0f7a4_34 {v0 : Int32} {v1 : Int32} {σ : sS} : R_J6_numberOfTrailingZeros_0f7a4_34 v0 v1 σ = (if v0 ≤ 256 then (R_J6_numberOfTrailingZeros_0f7a4_49 v0 v1 σ)
  else (R_J6_numberOfTrailingZeros_0f7a4_49 (((v0 : Int32).toUInt32 >>> ((8 : Int32).toUInt32 &&& Int32.toUInt32 31)).toInt32) (v1 + 8) σ)) := by
  unfold R_J6_numberOfTrailingZeros_0f7a4_34
  rw [s_run_eq]
  show s_go _ _ (T_J6_numberOfTrailingZeros_0f7a4_34 v0 v1 σ) = _
  unfold T_J6_numberOfTrailingZeros_0f7a4_34
  simp only [s_go_bind, s_go_ite, s_go_sum, s_go_l, s_go_r, s_go_n]
  try rfl
theorem E_J6_numberOfTrailingZeros_0f7a4_49 {v0 : Int32} {v1 : Int32} {σ : sS} : R_J6_numberOfTrailingZeros_0f7a4_49 v0 v1 σ = (if v0 ≤ 16 then (R_J6_numberOfTrailingZeros_0f7a4_62 v0 v1 σ)
  else (R_J6_numberOfTrailingZeros_0f7a4_62 (((v0 : Int32).toUInt32 >>> ((4 : Int32).toUInt32 &&& Int32.toUInt32 31)).toInt32) (v1 + 4) σ)) := by
  unfold R_J6_numberOfTrailingZeros_0f7a4_49
  rw [s_run_eq]
  show s_go _ _ (T_J6_numberOfTrailingZeros_0f7a4_49 v0 v1 σ) = _
  unfold T_J6_numberOfTrailingZeros_0f7a4_49
  simp only [s_go_bind, s_go_ite, s_go_sum, s_go_l, s_go_r, s_go_n]
  try rfl
theorem E_J6_numberOfTrailingZeros_0f7a4_62 {v0 : Int32} {v1 : Int32} {σ : sS} : R_J6_numberOfTrailingZeros_0f7a4_62 v0 v1 σ = (if v0 ≤ 4 then (R_J6_numberOfTrailingZeros_0f7a4_74 v0 v1 σ)
  else (R_J6_numberOfTrailingZeros_0f7a4_74 (((v0 : Int32).toUInt32 >>> ((2 : Int32).toUInt32 &&& Int32.toUInt32 31)).toInt32) (v1 + 2) σ)) := by
  unfold R_J6_numberOfTrailingZeros_0f7a4_62
  rw [s_run_eq]
  show s_go _ _ (T_J6_numberOfTrailingZeros_0f7a4_62 v0 v1 σ) = _
  unfold T_J6_numberOfTrailingZeros_0f7a4_62
  simp only [s_go_bind, s_go_ite, s_go_sum, s_go_l, s_go_r, s_go_n]
  try rfl
theorem E_J6_numberOfTrailingZeros_0f7a4_74 {v0 : Int32} {v1 : Int32} {σ : sS} : R_J6_numberOfTrailingZeros_0f7a4_74 v0 v1 σ = (some ((v1 + ((v0 : Int32).toUInt32 >>> ((1 : Int32).toUInt32 &&& Int32.toUInt32 31)).toInt32), σ)) := by
  unfold R_J6_numberOfTrailingZeros_0f7a4_74
  rw [s_run_eq]
  show s_go _ _ (T_J6_numberOfTrailingZeros_0f7a4_74 v0 v1 σ) = _
  unfold T_J6_numberOfTrailingZeros_0f7a4_74
  simp only [s_go_bind, s_go_ite, s_go_sum, s_go_l, s_go_r, s_go_n]
  try rfl
theorem E_J6_numberOfTrailingZeros_0f7a4 {v0 : Int32} {σ : sS} : F_J6_numberOfTrailingZeros_0f7a4 v0 σ = (R_J6_numberOfTrailingZeros_0f7a4_0 v0 σ) := rfl
/-! J13_numberOfTrailingZeros_95d88 -/
noncomputable def R_J13_numberOfTrailingZeros_95d88_0 (v0 : Int64) (σ : sS) : Option (Int32 × sS) := s_run (S_J13_numberOfTrailingZeros_95d88 ) (0, [.long v0], σ)
theorem E_J13_numberOfTrailingZeros_95d88_0 {v0 : Int64} {σ : sS} : R_J13_numberOfTrailingZeros_95d88_0 v0 σ = (if ((v0 : Int64).toInt32) = 0 then ((F_J6_numberOfTrailingZeros_0f7a4 ((((v0 : Int64).toUInt64 >>> ((32 : Int32).toInt64.toUInt64 &&& Int64.toUInt64 63)).toInt64 : Int64).toInt32) σ).bind fun q2 =>
  some ((32 + q2.1), q2.2))
  else ((F_J6_numberOfTrailingZeros_0f7a4 ((v0 : Int64).toInt32) σ).bind fun q1 =>
  some (q1.1, q1.2))) := by
  unfold R_J13_numberOfTrailingZeros_95d88_0
  rw [s_run_eq]
  show s_go _ _ (T_J13_numberOfTrailingZeros_95d88_0 v0 σ) = _
  unfold T_J13_numberOfTrailingZeros_95d88_0
  simp only [s_go_bind, s_go_ite, s_go_sum, s_go_l, s_go_r, s_go_n]
  try rfl
theorem E_J13_numberOfTrailingZeros_95d88 {v0 : Int64} {σ : sS} : F_J13_numberOfTrailingZeros_95d88 v0 σ = (R_J13_numberOfTrailingZeros_95d88_0 v0 σ) := rfl
/-! J6_bitCount_0f7a4 -/
noncomputable def R_J6_bitCount_0f7a4_0 (v0 : Int32) (σ : sS) : Option (Int32 × sS) := s_run (S_J6_bitCount_0f7a4 ) (0, [.int v0], σ)
theorem E_J6_bitCount_0f7a4_0 {v0 : Int32} {σ : sS} : R_J6_bitCount_0f7a4_0 v0 σ = (some (((((((((v0 - (((v0 : Int32).toUInt32 >>> ((1 : Int32).toUInt32 &&& Int32.toUInt32 31)).toInt32 &&& 1431655765)) &&& 858993459) + ((((v0 - (((v0 : Int32).toUInt32 >>> ((1 : Int32).toUInt32 &&& Int32.toUInt32 31)).toInt32 &&& 1431655765)) : Int32).toUInt32 >>> ((2 : Int32).toUInt32 &&& Int32.toUInt32 31)).toInt32 &&& 858993459)) + (((((v0 - (((v0 : Int32).toUInt32 >>> ((1 : Int32).toUInt32 &&& Int32.toUInt32 31)).toInt32 &&& 1431655765)) &&& 858993459) + ((((v0 - (((v0 : Int32).toUInt32 >>> ((1 : Int32).toUInt32 &&& Int32.toUInt32 31)).toInt32 &&& 1431655765)) : Int32).toUInt32 >>> ((2 : Int32).toUInt32 &&& Int32.toUInt32 31)).toInt32 &&& 858993459)) : Int32).toUInt32 >>> ((4 : Int32).toUInt32 &&& Int32.toUInt32 31)).toInt32) &&& 252645135) + (((((((v0 - (((v0 : Int32).toUInt32 >>> ((1 : Int32).toUInt32 &&& Int32.toUInt32 31)).toInt32 &&& 1431655765)) &&& 858993459) + ((((v0 - (((v0 : Int32).toUInt32 >>> ((1 : Int32).toUInt32 &&& Int32.toUInt32 31)).toInt32 &&& 1431655765)) : Int32).toUInt32 >>> ((2 : Int32).toUInt32 &&& Int32.toUInt32 31)).toInt32 &&& 858993459)) + (((((v0 - (((v0 : Int32).toUInt32 >>> ((1 : Int32).toUInt32 &&& Int32.toUInt32 31)).toInt32 &&& 1431655765)) &&& 858993459) + ((((v0 - (((v0 : Int32).toUInt32 >>> ((1 : Int32).toUInt32 &&& Int32.toUInt32 31)).toInt32 &&& 1431655765)) : Int32).toUInt32 >>> ((2 : Int32).toUInt32 &&& Int32.toUInt32 31)).toInt32 &&& 858993459)) : Int32).toUInt32 >>> ((4 : Int32).toUInt32 &&& Int32.toUInt32 31)).toInt32) &&& 252645135) : Int32).toUInt32 >>> ((8 : Int32).toUInt32 &&& Int32.toUInt32 31)).toInt32) + ((((((((v0 - (((v0 : Int32).toUInt32 >>> ((1 : Int32).toUInt32 &&& Int32.toUInt32 31)).toInt32 &&& 1431655765)) &&& 858993459) + ((((v0 - (((v0 : Int32).toUInt32 >>> ((1 : Int32).toUInt32 &&& Int32.toUInt32 31)).toInt32 &&& 1431655765)) : Int32).toUInt32 >>> ((2 : Int32).toUInt32 &&& Int32.toUInt32 31)).toInt32 &&& 858993459)) + (((((v0 - (((v0 : Int32).toUInt32 >>> ((1 : Int32).toUInt32 &&& Int32.toUInt32 31)).toInt32 &&& 1431655765)) &&& 858993459) + ((((v0 - (((v0 : Int32).toUInt32 >>> ((1 : Int32).toUInt32 &&& Int32.toUInt32 31)).toInt32 &&& 1431655765)) : Int32).toUInt32 >>> ((2 : Int32).toUInt32 &&& Int32.toUInt32 31)).toInt32 &&& 858993459)) : Int32).toUInt32 >>> ((4 : Int32).toUInt32 &&& Int32.toUInt32 31)).toInt32) &&& 252645135) + (((((((v0 - (((v0 : Int32).toUInt32 >>> ((1 : Int32).toUInt32 &&& Int32.toUInt32 31)).toInt32 &&& 1431655765)) &&& 858993459) + ((((v0 - (((v0 : Int32).toUInt32 >>> ((1 : Int32).toUInt32 &&& Int32.toUInt32 31)).toInt32 &&& 1431655765)) : Int32).toUInt32 >>> ((2 : Int32).toUInt32 &&& Int32.toUInt32 31)).toInt32 &&& 858993459)) + (((((v0 - (((v0 : Int32).toUInt32 >>> ((1 : Int32).toUInt32 &&& Int32.toUInt32 31)).toInt32 &&& 1431655765)) &&& 858993459) + ((((v0 - (((v0 : Int32).toUInt32 >>> ((1 : Int32).toUInt32 &&& Int32.toUInt32 31)).toInt32 &&& 1431655765)) : Int32).toUInt32 >>> ((2 : Int32).toUInt32 &&& Int32.toUInt32 31)).toInt32 &&& 858993459)) : Int32).toUInt32 >>> ((4 : Int32).toUInt32 &&& Int32.toUInt32 31)).toInt32) &&& 252645135) : Int32).toUInt32 >>> ((8 : Int32).toUInt32 &&& Int32.toUInt32 31)).toInt32) : Int32).toUInt32 >>> ((16 : Int32).toUInt32 &&& Int32.toUInt32 31)).toInt32) &&& 63), σ)) := by
  unfold R_J6_bitCount_0f7a4_0
  rw [s_run_eq]
  show s_go _ _ (T_J6_bitCount_0f7a4_0 v0 σ) = _
  unfold T_J6_bitCount_0f7a4_0
  simp only [s_go_bind, s_go_ite, s_go_sum, s_go_l, s_go_r, s_go_n]
  try rfl
theorem E_J6_bitCount_0f7a4 {v0 : Int32} {σ : sS} : F_J6_bitCount_0f7a4 v0 σ = (R_J6_bitCount_0f7a4_0 v0 σ) := rfl
/-! J7_copyOf_59c91 -/
noncomputable def R_J7_copyOf_59c91_0 (v0 : Nat) (v1 : Int32) (σ : sS) : Option (Nat × sS) := s_run (S_J7_copyOf_59c91 ) (0, [.ref v0, .int v1], σ)
theorem E_J7_copyOf_59c91_0 {v0 : Nat} {v1 : Int32} {σ : sS} : R_J7_copyOf_59c91_0 v0 v1 σ = ((s_len σ v0).bind fun x1 =>
  if v1 = x1 then (none)
  else ((s_na σ 0 v1).bind fun σ2 =>
  (s_len σ2 v0).bind fun x3 =>
  (s_cpi σ2 v0 0 σ.2.1 0 (if v1 < x3 then v1 else x3)).bind fun σ4 =>
  some (σ.2.1, σ4))) := by
  unfold R_J7_copyOf_59c91_0
  rw [s_run_eq]
  show s_go _ _ (T_J7_copyOf_59c91_0 v0 v1 σ) = _
  unfold T_J7_copyOf_59c91_0
  simp only [s_go_bind, s_go_ite, s_go_sum, s_go_l, s_go_r, s_go_n]
  try rfl
theorem E_J7_copyOf_59c91 {v0 : Nat} {v1 : Int32} {σ : sS} : F_J7_copyOf_59c91 v0 v1 σ = (R_J7_copyOf_59c91_0 v0 v1 σ) := rfl
/-! J7_fill_53178 -/
noncomputable def R_J7_fill_53178_0 (v0 : Nat) (v1 : Int32) (σ : sS) : Option (Unit × sS) := s_run (S_J7_fill_53178 ) (0, [.ref v0, .int v1], σ)
noncomputable def R_J7_fill_53178_5 (v0 : Nat) (v1 : Int32) (v2 : Int32) (v3 : Int32) (σ : sS) : Option (Unit × sS) := s_run (S_J7_fill_53178 ) (5, [.ref v0, .int v1, .int v2, .int v3], σ)
theorem E_J7_fill_53178_0 {v0 : Nat} {v1 : Int32} {σ : sS} : R_J7_fill_53178_0 v0 v1 σ = ((s_len σ v0).bind fun x1 =>
  R_J7_fill_53178_5 v0 v1 0 x1 σ) := by
  unfold R_J7_fill_53178_0
  rw [s_run_eq]
  show s_go _ _ (T_J7_fill_53178_0 v0 v1 σ) = _
  unfold T_J7_fill_53178_0
  simp only [s_go_bind, s_go_ite, s_go_sum, s_go_l, s_go_r, s_go_n]
  try rfl
theorem E_J7_fill_53178_5 {v0 : Nat} {v1 : Int32} {v2 : Int32} {v3 : Int32} {σ : sS} : R_J7_fill_53178_5 v0 v1 v2 v3 σ = (if v3 ≤ v2 then (some ((), σ))
  else ((s_si σ v0 v2 v1).bind fun σ1 =>
  R_J7_fill_53178_5 v0 v1 (v2 + 1) v3 σ1)) := by
  unfold R_J7_fill_53178_5
  rw [s_run_eq]
  show s_go _ _ (T_J7_fill_53178_5 v0 v1 v2 v3 σ) = _
  unfold T_J7_fill_53178_5
  simp only [s_go_bind, s_go_ite, s_go_sum, s_go_l, s_go_r, s_go_n]
  try rfl
theorem E_J7_fill_53178 {v0 : Nat} {v1 : Int32} {σ : sS} : F_J7_fill_53178 v0 v1 σ = (R_J7_fill_53178_0 v0 v1 σ) := rfl
/-! J7_fill_d0a16 -/
noncomputable def R_J7_fill_d0a16_0 (v0 : Nat) (v1 : Int64) (σ : sS) : Option (Unit × sS) := s_run (S_J7_fill_d0a16 ) (0, [.ref v0, .long v1], σ)
noncomputable def R_J7_fill_d0a16_6 (v0 : Nat) (v1 : Int64) (v3 : Int32) (v4 : Int32) (σ : sS) : Option (Unit × sS) := s_run (S_J7_fill_d0a16 ) (6, [.ref v0, .long v1, .int v3, .int v4], σ)
theorem E_J7_fill_d0a16_0 {v0 : Nat} {v1 : Int64} {σ : sS} : R_J7_fill_d0a16_0 v0 v1 σ = ((s_len σ v0).bind fun x1 =>
  R_J7_fill_d0a16_6 v0 v1 0 x1 σ) := by
  unfold R_J7_fill_d0a16_0
  rw [s_run_eq]
  show s_go _ _ (T_J7_fill_d0a16_0 v0 v1 σ) = _
  unfold T_J7_fill_d0a16_0
  simp only [s_go_bind, s_go_ite, s_go_sum, s_go_l, s_go_r, s_go_n]
  try rfl
theorem E_J7_fill_d0a16_6 {v0 : Nat} {v1 : Int64} {v3 : Int32} {v4 : Int32} {σ : sS} : R_J7_fill_d0a16_6 v0 v1 v3 v4 σ = (if v4 ≤ v3 then (some ((), σ))
  else ((s_sl σ v0 v3 v1).bind fun σ1 =>
  R_J7_fill_d0a16_6 v0 v1 (v3 + 1) v4 σ1)) := by
  unfold R_J7_fill_d0a16_6
  rw [s_run_eq]
  show s_go _ _ (T_J7_fill_d0a16_6 v0 v1 v3 v4 σ) = _
  unfold T_J7_fill_d0a16_6
  simp only [s_go_bind, s_go_ite, s_go_sum, s_go_l, s_go_r, s_go_n]
  try rfl
theorem E_J7_fill_d0a16 {v0 : Nat} {v1 : Int64} {σ : sS} : F_J7_fill_d0a16 v0 v1 σ = (R_J7_fill_d0a16_0 v0 v1 σ) := rfl
/-! X7_needCustomer -/
noncomputable def R_X7_needCustomer_0 (v0 : Nat) (v1 : Int32) (σ : sS) : Option ((Unit ⊕ String) × sS) := s_run (S_X7_needCustomer ) (0, [.ref v0, .int v1], σ)
theorem E_X7_needCustomer_0 {v0 : Nat} {v1 : Int32} {σ : sS} : R_X7_needCustomer_0 v0 v1 σ = (if v1 < 0 then (some (.inr "java/lang/IndexOutOfBoundsException", s_ex σ))
  else (if v1 < 4 then (some (.inl (), σ))
  else (some (.inr "java/lang/IndexOutOfBoundsException", s_ex σ)))) := by
  unfold R_X7_needCustomer_0
  rw [s_run_eq]
  show s_go _ _ (T_X7_needCustomer_0 v0 v1 σ) = _
  unfold T_X7_needCustomer_0
  simp only [s_go_bind, s_go_ite, s_go_sum, s_go_l, s_go_r, s_go_n]
  try rfl
theorem E_X7_needCustomer {v0 : Nat} {v1 : Int32} {σ : sS} : F_X7_needCustomer v0 v1 σ = ((s_is σ v0 7).bind fun _ => R_X7_needCustomer_0 v0 v1 σ) := rfl
/-! X1_worldCount -/
noncomputable def R_X1_worldCount_0 (v0 : Nat) (σ : sS) : Option (Int32 × sS) := s_run (S_X1_worldCount ) (0, [.ref v0], σ)
theorem E_X1_worldCount_0 {v0 : Nat} {σ : sS} : R_X1_worldCount_0 v0 σ = ((s_fi σ v0 1 0).bind fun x1 =>
  some ((1 <<< ((4 + (2 * x1)) &&& 31)), σ)) := by
  unfold R_X1_worldCount_0
  rw [s_run_eq]
  show s_go _ _ (T_X1_worldCount_0 v0 σ) = _
  unfold T_X1_worldCount_0
  simp only [s_go_bind, s_go_ite, s_go_sum, s_go_l, s_go_r, s_go_n]
  try rfl
theorem E_X1_worldCount {v0 : Nat} {σ : sS} : F_X1_worldCount v0 σ = ((s_is σ v0 1).bind fun _ => R_X1_worldCount_0 v0 σ) := rfl
/-! X1_words -/
noncomputable def R_X1_words_0 (v0 : Nat) (σ : sS) : Option (Int32 × sS) := s_run (S_X1_words ) (0, [.ref v0], σ)
theorem E_X1_words_0 {v0 : Nat} {σ : sS} : R_X1_words_0 v0 σ = ((F_X1_worldCount v0 σ).bind fun q1 =>
  some ((q1.1 / 64), q1.2)) := by
  unfold R_X1_words_0
  rw [s_run_eq]
  show s_go _ _ (T_X1_words_0 v0 σ) = _
  unfold T_X1_words_0
  simp only [s_go_bind, s_go_ite, s_go_sum, s_go_l, s_go_r, s_go_n]
  try rfl
theorem E_X1_words {v0 : Nat} {σ : sS} : F_X1_words v0 σ = ((s_is σ v0 1).bind fun _ => R_X1_words_0 v0 σ) := rfl
/-! X1_truthOf -/
noncomputable def R_X1_truthOf_0 (v0 : Nat) (v1 : Int32) (v2 : Int32) (σ : sS) : Option (Int64 × sS) := s_run (S_X1_truthOf ) (0, [.ref v0, .int v1, .int v2], σ)
theorem E_X1_truthOf_0 {v0 : Nat} {v1 : Int32} {v2 : Int32} {σ : sS} : R_X1_truthOf_0 v0 v1 v2 σ = (if v1 < 0 then (some (0, σ))
  else ((s_fi σ v0 1 2).bind fun x1 =>
  if x1 ≤ v1 then (some (0, σ))
  else (if v2 < 0 then (some (0, σ))
  else (if (16 : Int32) ≤ v2 then (some (0, σ))
  else ((s_fr σ v0 1 3).bind fun x2 =>
  (s_al σ x2 ((v1 * 16) + v2)).bind fun x3 =>
  some (x3, σ)))))) := by
  unfold R_X1_truthOf_0
  rw [s_run_eq]
  show s_go _ _ (T_X1_truthOf_0 v0 v1 v2 σ) = _
  unfold T_X1_truthOf_0
  simp only [s_go_bind, s_go_ite, s_go_sum, s_go_l, s_go_r, s_go_n]
  try rfl
theorem E_X1_truthOf {v0 : Nat} {v1 : Int32} {v2 : Int32} {σ : sS} : F_X1_truthOf v0 v1 v2 σ = ((s_is σ v0 1).bind fun _ => R_X1_truthOf_0 v0 v1 v2 σ) := rfl
/-! X3_narrow -/
noncomputable def R_X3_narrow_0 (v0 : Nat) (v1 : Nat) (v2 : Int32) (v3 : Nat) (σ : sS) : Option (Unit × sS) := s_run (S_X3_narrow ) (0, [.ref v0, .ref v1, .int v2, .ref v3], σ)
noncomputable def R_X3_narrow_3 (v0 : Nat) (v1 : Nat) (v2 : Int32) (v3 : Nat) (v4 : Int32) (σ : sS) : Option (Unit × sS) := s_run (S_X3_narrow ) (3, [.ref v0, .ref v1, .int v2, .ref v3, .int v4], σ)
theorem E_X3_narrow_0 {v0 : Nat} {v1 : Nat} {v2 : Int32} {v3 : Nat} {σ : sS} : R_X3_narrow_0 v0 v1 v2 v3 σ = (R_X3_narrow_3 v0 v1 v2 v3 0 σ) := by
  unfold R_X3_narrow_0
  rw [s_run_eq]
  show s_go _ _ (T_X3_narrow_0 v0 v1 v2 v3 σ) = _
  unfold T_X3_narrow_0
  simp only [s_go_bind, s_go_ite, s_go_sum, s_go_l, s_go_r, s_go_n]
  try rfl
theorem E_X3_narrow_3 {v0 : Nat} {v1 : Nat} {v2 : Int32} {v3 : Nat} {v4 : Int32} {σ : sS} : R_X3_narrow_3 v0 v1 v2 v3 v4 σ = ((s_fr σ v0 3 0).bind fun x1 =>
  (F_X1_words x1 σ).bind fun q2 =>
  if q2.1 ≤ v4 then (some ((), q2.2))
  else ((s_al q2.2 v1 v4).bind fun x3 =>
  (s_fr q2.2 v0 3 0).bind fun x4 =>
  (F_X1_truthOf x4 v2 v4 q2.2).bind fun q5 =>
  (s_sl q5.2 v3 v4 (x3 &&& q5.1)).bind fun σ6 =>
  R_X3_narrow_3 v0 v1 v2 v3 (v4 + 1) σ6)) := by
  unfold R_X3_narrow_3
  rw [s_run_eq]
  show s_go _ _ (T_X3_narrow_3 v0 v1 v2 v3 v4 σ) = _
  unfold T_X3_narrow_3
  simp only [s_go_bind, s_go_ite, s_go_sum, s_go_l, s_go_r, s_go_n]
  try rfl
theorem E_X3_narrow {v0 : Nat} {v1 : Nat} {v2 : Int32} {v3 : Nat} {σ : sS} : F_X3_narrow v0 v1 v2 v3 σ = ((s_is σ v0 3).bind fun _ => R_X3_narrow_0 v0 v1 v2 v3 σ) := rfl
/-! X3_gather -/
noncomputable def R_X3_gather_0 (v0 : Nat) (v1 : Int32) (v2 : Nat) (σ : sS) : Option (Unit × sS) := s_run (S_X3_gather ) (0, [.ref v0, .int v1, .ref v2], σ)
noncomputable def R_X3_gather_9 (v0 : Nat) (v1 : Int32) (v2 : Nat) (v3 : Int32) (σ : sS) : Option (Unit × sS) := s_run (S_X3_gather ) (9, [.ref v0, .int v1, .ref v2, .int v3], σ)
noncomputable def R_X3_gather_35 (v0 : Nat) (v1 : Int32) (v2 : Nat) (v3 : Int32) (σ : sS) : Option (Unit × sS) := s_run (S_X3_gather ) (35, [.ref v0, .int v1, .ref v2, .int v3], σ)
theorem E_X3_gather_0 {v0 : Nat} {v1 : Int32} {v2 : Nat} {σ : sS} : R_X3_gather_0 v0 v1 v2 σ = ((F_J7_fill_d0a16 v2 (-1) σ).bind fun q1 =>
  R_X3_gather_9 v0 v1 v2 0 q1.2) := by
  unfold R_X3_gather_0
  rw [s_run_eq]
  show s_go _ _ (T_X3_gather_0 v0 v1 v2 σ) = _
  unfold T_X3_gather_0
  simp only [s_go_bind, s_go_ite, s_go_sum, s_go_l, s_go_r, s_go_n]
  try rfl
theorem E_X3_gather_9 {v0 : Nat} {v1 : Int32} {v2 : Nat} {v3 : Int32} {σ : sS} : R_X3_gather_9 v0 v1 v2 v3 σ = ((s_fr σ v0 3 0).bind fun x1 =>
  (s_fi σ x1 1 2).bind fun x2 =>
  if x2 ≤ v3 then (some ((), σ))
  else (if ((v1 >>> (v3 &&& 31)) &&& 1) = 0 then (R_X3_gather_35 v0 v1 v2 v3 σ)
  else ((F_X3_narrow v0 v2 v3 v2 σ).bind fun q3 =>
  R_X3_gather_35 v0 v1 v2 v3 q3.2))) := by
  unfold R_X3_gather_9
  rw [s_run_eq]
  show s_go _ _ (T_X3_gather_9 v0 v1 v2 v3 σ) = _
  unfold T_X3_gather_9
  simp only [s_go_bind, s_go_ite, s_go_sum, s_go_l, s_go_r, s_go_n]
  try rfl
theorem E_X3_gather_35 {v0 : Nat} {v1 : Int32} {v2 : Nat} {v3 : Int32} {σ : sS} : R_X3_gather_35 v0 v1 v2 v3 σ = (R_X3_gather_9 v0 v1 v2 (v3 + 1) σ) := by
  unfold R_X3_gather_35
  rw [s_run_eq]
  show s_go _ _ (T_X3_gather_35 v0 v1 v2 v3 σ) = _
  unfold T_X3_gather_35
  simp only [s_go_bind, s_go_ite, s_go_sum, s_go_l, s_go_r, s_go_n]
  try rfl
theorem E_X3_gather {v0 : Nat} {v1 : Int32} {v2 : Nat} {σ : sS} : F_X3_gather v0 v1 v2 σ = ((s_is σ v0 3).bind fun _ => R_X3_gather_0 v0 v1 v2 σ) := rfl
/-! X3_leastOf -/
noncomputable def R_X3_leastOf_0 (v0 : Nat) (v1 : Nat) (σ : sS) : Option (Int32 × sS) := s_run (S_X3_leastOf ) (0, [.ref v0, .ref v1], σ)
noncomputable def R_X3_leastOf_2 (v0 : Nat) (v1 : Nat) (v2 : Int32) (σ : sS) : Option (Int32 × sS) := s_run (S_X3_leastOf ) (2, [.ref v0, .ref v1, .int v2], σ)
theorem E_X3_leastOf_0 {v0 : Nat} {v1 : Nat} {σ : sS} : R_X3_leastOf_0 v0 v1 σ = (R_X3_leastOf_2 v0 v1 0 σ) := by
  unfold R_X3_leastOf_0
  rw [s_run_eq]
  show s_go _ _ (T_X3_leastOf_0 v0 v1 σ) = _
  unfold T_X3_leastOf_0
  simp only [s_go_bind, s_go_ite, s_go_sum, s_go_l, s_go_r, s_go_n]
  try rfl
theorem E_X3_leastOf_2 {v0 : Nat} {v1 : Nat} {v2 : Int32} {σ : sS} : R_X3_leastOf_2 v0 v1 v2 σ = ((s_fr σ v0 3 0).bind fun x1 =>
  (F_X1_words x1 σ).bind fun q2 =>
  if q2.1 ≤ v2 then (some ((-1), q2.2))
  else ((s_al q2.2 v1 v2).bind fun x3 =>
  if (lg_cmp x3 0) = 0 then (R_X3_leastOf_2 v0 v1 (v2 + 1) q2.2)
  else ((s_al q2.2 v1 v2).bind fun x4 =>
  (F_J13_numberOfTrailingZeros_95d88 x4 q2.2).bind fun q5 =>
  some (((v2 * 64) + q5.1), q5.2)))) := by
  unfold R_X3_leastOf_2
  rw [s_run_eq]
  show s_go _ _ (T_X3_leastOf_2 v0 v1 v2 σ) = _
  unfold T_X3_leastOf_2
  simp only [s_go_bind, s_go_ite, s_go_sum, s_go_l, s_go_r, s_go_n]
  try rfl
theorem E_X3_leastOf {v0 : Nat} {v1 : Nat} {σ : sS} : F_X3_leastOf v0 v1 σ = ((s_is σ v0 3).bind fun _ => R_X3_leastOf_0 v0 v1 σ) := rfl
/-! X3_leastWorld -/
noncomputable def R_X3_leastWorld_0 (v0 : Nat) (v1 : Int32) (σ : sS) : Option (Int32 × sS) := s_run (S_X3_leastWorld ) (0, [.ref v0, .int v1], σ)
theorem E_X3_leastWorld_0 {v0 : Nat} {v1 : Int32} {σ : sS} : R_X3_leastWorld_0 v0 v1 σ = ((s_fr σ v0 3 1).bind fun x1 =>
  (F_X3_gather v0 v1 x1 σ).bind fun q2 =>
  (s_fr q2.2 v0 3 1).bind fun x3 =>
  (F_X3_leastOf v0 x3 q2.2).bind fun q4 =>
  some (q4.1, q4.2)) := by
  unfold R_X3_leastWorld_0
  rw [s_run_eq]
  show s_go _ _ (T_X3_leastWorld_0 v0 v1 σ) = _
  unfold T_X3_leastWorld_0
  simp only [s_go_bind, s_go_ite, s_go_sum, s_go_l, s_go_r, s_go_n]
  try rfl
theorem E_X3_leastWorld {v0 : Nat} {v1 : Int32} {σ : sS} : F_X3_leastWorld v0 v1 σ = ((s_is σ v0 3).bind fun _ => R_X3_leastWorld_0 v0 v1 σ) := rfl
/-! X7_agree -/
noncomputable def R_X7_agree_0 (v0 : Nat) (v1 : Int32) (v2 : Int32) (σ : sS) : Option ((Int32 ⊕ String) × sS) := s_run (S_X7_agree ) (0, [.ref v0, .int v1, .int v2], σ)
theorem E_X7_agree_0 {v0 : Nat} {v1 : Int32} {v2 : Int32} {σ : sS} : R_X7_agree_0 v0 v1 v2 σ = ((F_X7_needCustomer v0 v1 σ).bind fun q1 => s_sum q1.1 (fun x2 => (F_X7_needCustomer v0 v2 q1.2).bind fun q4 => s_sum q4.1 (fun x5 => (s_fr q4.2 v0 7 4).bind fun x7 =>
  (s_fr q4.2 v0 7 1).bind fun x8 =>
  (s_fr q4.2 x8 1 5).bind fun x9 =>
  (s_ai q4.2 x9 v1).bind fun x10 =>
  (s_fr q4.2 v0 7 1).bind fun x11 =>
  (s_fr q4.2 x11 1 5).bind fun x12 =>
  (s_ai q4.2 x12 v2).bind fun x13 =>
  (F_X3_leastWorld x7 (x10 ||| x13) q4.2).bind fun q14 =>
  some (.inl q14.1, q14.2)) (fun E6 => some (.inr E6, q4.2))) (fun E3 => some (.inr E3, q1.2))) := by
  unfold R_X7_agree_0
  rw [s_run_eq]
  show s_go _ _ (T_X7_agree_0 v0 v1 v2 σ) = _
  unfold T_X7_agree_0
  simp only [s_go_bind, s_go_ite, s_go_sum, s_go_l, s_go_r, s_go_n]
  try rfl
theorem E_X7_agree {v0 : Nat} {v1 : Int32} {v2 : Int32} {σ : sS} : F_X7_agree v0 v1 v2 σ = ((s_is σ v0 7).bind fun _ => R_X7_agree_0 v0 v1 v2 σ) := rfl
/-! L_agree -/
noncomputable def R_L_agree_0 (v0 : Nat) (v1 : Int32) (v2 : Int32) (v3 : Nat) (σ : sS) : Option (Int32 × sS) := s_run (S_L_agree ) (0, [.ref v0, .int v1, .int v2, .ref v3], σ)
theorem E_L_agree_0 {v0 : Nat} {v1 : Int32} {v2 : Int32} {v3 : Nat} {σ : sS} : R_L_agree_0 v0 v1 v2 v3 σ = ((F_X7_agree v0 v1 v2 σ).bind fun q1 => s_sum q1.1 (fun x2 => (s_sl q1.2 v3 0 ((x2 : Int32).toInt64)).bind fun σ4 =>
  some (0, σ4)) (fun E3 => if E3 = "java/lang/IndexOutOfBoundsException" then (some (1, q1.2)) else none)) := by
  unfold R_L_agree_0
  rw [s_run_eq]
  show s_go _ _ (T_L_agree_0 v0 v1 v2 v3 σ) = _
  unfold T_L_agree_0
  simp only [s_go_bind, s_go_ite, s_go_sum, s_go_l, s_go_r, s_go_n]
  try rfl
theorem E_L_agree {v0 : Nat} {v1 : Int32} {v2 : Int32} {v3 : Nat} {σ : sS} : F_L_agree v0 v1 v2 v3 σ = (R_L_agree_0 v0 v1 v2 v3 σ) := rfl
/-! X7_needFormula -/
noncomputable def R_X7_needFormula_0 (v0 : Nat) (v1 : Int32) (σ : sS) : Option ((Unit ⊕ String) × sS) := s_run (S_X7_needFormula ) (0, [.ref v0, .int v1], σ)
theorem E_X7_needFormula_0 {v0 : Nat} {v1 : Int32} {σ : sS} : R_X7_needFormula_0 v0 v1 σ = (if v1 < 0 then (some (.inr "java/lang/IndexOutOfBoundsException", s_ex σ))
  else ((s_fr σ v0 7 1).bind fun x1 =>
  (s_fi σ x1 1 2).bind fun x2 =>
  if v1 < x2 then (some (.inl (), σ))
  else (some (.inr "java/lang/IndexOutOfBoundsException", s_ex σ)))) := by
  unfold R_X7_needFormula_0
  rw [s_run_eq]
  show s_go _ _ (T_X7_needFormula_0 v0 v1 σ) = _
  unfold T_X7_needFormula_0
  simp only [s_go_bind, s_go_ite, s_go_sum, s_go_l, s_go_r, s_go_n]
  try rfl
theorem E_X7_needFormula {v0 : Nat} {v1 : Int32} {σ : sS} : F_X7_needFormula v0 v1 σ = ((s_is σ v0 7).bind fun _ => R_X7_needFormula_0 v0 v1 σ) := rfl
/-! X3_holdAlike -/
noncomputable def R_X3_holdAlike_0 (v0 : Nat) (v1 : Int32) (v2 : Int32) (σ : sS) : Option (Int32 × sS) := s_run (S_X3_holdAlike ) (0, [.ref v0, .int v1, .int v2], σ)
noncomputable def R_X3_holdAlike_2 (v0 : Nat) (v1 : Int32) (v2 : Int32) (v3 : Int32) (σ : sS) : Option (Int32 × sS) := s_run (S_X3_holdAlike ) (2, [.ref v0, .int v1, .int v2, .int v3], σ)
theorem E_X3_holdAlike_0 {v0 : Nat} {v1 : Int32} {v2 : Int32} {σ : sS} : R_X3_holdAlike_0 v0 v1 v2 σ = (R_X3_holdAlike_2 v0 v1 v2 0 σ) := by
  unfold R_X3_holdAlike_0
  rw [s_run_eq]
  show s_go _ _ (T_X3_holdAlike_0 v0 v1 v2 σ) = _
  unfold T_X3_holdAlike_0
  simp only [s_go_bind, s_go_ite, s_go_sum, s_go_l, s_go_r, s_go_n]
  try rfl
theorem E_X3_holdAlike_2 {v0 : Nat} {v1 : Int32} {v2 : Int32} {v3 : Int32} {σ : sS} : R_X3_holdAlike_2 v0 v1 v2 v3 σ = ((s_fr σ v0 3 0).bind fun x1 =>
  (F_X1_words x1 σ).bind fun q2 =>
  if q2.1 ≤ v3 then (some (1, q2.2))
  else ((s_fr q2.2 v0 3 0).bind fun x3 =>
  (F_X1_truthOf x3 v1 v3 q2.2).bind fun q4 =>
  (s_fr q4.2 v0 3 0).bind fun x5 =>
  (F_X1_truthOf x5 v2 v3 q4.2).bind fun q6 =>
  if (lg_cmp q4.1 q6.1) = 0 then (R_X3_holdAlike_2 v0 v1 v2 (v3 + 1) q6.2)
  else (some (0, q6.2)))) := by
  unfold R_X3_holdAlike_2
  rw [s_run_eq]
  show s_go _ _ (T_X3_holdAlike_2 v0 v1 v2 v3 σ) = _
  unfold T_X3_holdAlike_2
  simp only [s_go_bind, s_go_ite, s_go_sum, s_go_l, s_go_r, s_go_n]
  try rfl
theorem E_X3_holdAlike {v0 : Nat} {v1 : Int32} {v2 : Int32} {σ : sS} : F_X3_holdAlike v0 v1 v2 σ = ((s_is σ v0 3).bind fun _ => R_X3_holdAlike_0 v0 v1 v2 σ) := rfl
/-! X3_alikeTo -/
noncomputable def R_X3_alikeTo_0 (v0 : Nat) (v1 : Int32) (σ : sS) : Option (Int32 × sS) := s_run (S_X3_alikeTo ) (0, [.ref v0, .int v1], σ)
noncomputable def R_X3_alikeTo_4 (v0 : Nat) (v1 : Int32) (v2 : Int32) (v3 : Int32) (σ : sS) : Option (Int32 × sS) := s_run (S_X3_alikeTo ) (4, [.ref v0, .int v1, .int v2, .int v3], σ)
noncomputable def R_X3_alikeTo_30 (v0 : Nat) (v1 : Int32) (v2 : Int32) (v3 : Int32) (σ : sS) : Option (Int32 × sS) := s_run (S_X3_alikeTo ) (30, [.ref v0, .int v1, .int v2, .int v3], σ)
theorem E_X3_alikeTo_0 {v0 : Nat} {v1 : Int32} {σ : sS} : R_X3_alikeTo_0 v0 v1 σ = (R_X3_alikeTo_4 v0 v1 0 0 σ) := by
  unfold R_X3_alikeTo_0
  rw [s_run_eq]
  show s_go _ _ (T_X3_alikeTo_0 v0 v1 σ) = _
  unfold T_X3_alikeTo_0
  simp only [s_go_bind, s_go_ite, s_go_sum, s_go_l, s_go_r, s_go_n]
  try rfl
theorem E_X3_alikeTo_4 {v0 : Nat} {v1 : Int32} {v2 : Int32} {v3 : Int32} {σ : sS} : R_X3_alikeTo_4 v0 v1 v2 v3 σ = ((s_fr σ v0 3 0).bind fun x1 =>
  (s_fi σ x1 1 2).bind fun x2 =>
  if x2 ≤ v3 then (some (v2, σ))
  else ((F_X3_holdAlike v0 v1 v3 σ).bind fun q3 =>
  if q3.1 = 0 then (R_X3_alikeTo_30 v0 v1 v2 v3 q3.2)
  else (R_X3_alikeTo_30 v0 v1 (v2 ||| (1 <<< (v3 &&& 31))) v3 q3.2))) := by
  unfold R_X3_alikeTo_4
  rw [s_run_eq]
  show s_go _ _ (T_X3_alikeTo_4 v0 v1 v2 v3 σ) = _
  unfold T_X3_alikeTo_4
  simp only [s_go_bind, s_go_ite, s_go_sum, s_go_l, s_go_r, s_go_n]
  try rfl
theorem E_X3_alikeTo_30 {v0 : Nat} {v1 : Int32} {v2 : Int32} {v3 : Int32} {σ : sS} : R_X3_alikeTo_30 v0 v1 v2 v3 σ = (R_X3_alikeTo_4 v0 v1 v2 (v3 + 1) σ) := by
  unfold R_X3_alikeTo_30
  rw [s_run_eq]
  show s_go _ _ (T_X3_alikeTo_30 v0 v1 v2 v3 σ) = _
  unfold T_X3_alikeTo_30
  simp only [s_go_bind, s_go_ite, s_go_sum, s_go_l, s_go_r, s_go_n]
  try rfl
theorem E_X3_alikeTo {v0 : Nat} {v1 : Int32} {σ : sS} : F_X3_alikeTo v0 v1 σ = ((s_is σ v0 3).bind fun _ => R_X3_alikeTo_0 v0 v1 σ) := rfl
/-! X7_alike -/
noncomputable def R_X7_alike_0 (v0 : Nat) (v1 : Int32) (σ : sS) : Option ((Int32 ⊕ String) × sS) := s_run (S_X7_alike ) (0, [.ref v0, .int v1], σ)
theorem E_X7_alike_0 {v0 : Nat} {v1 : Int32} {σ : sS} : R_X7_alike_0 v0 v1 σ = ((F_X7_needFormula v0 v1 σ).bind fun q1 => s_sum q1.1 (fun x2 => (s_fr q1.2 v0 7 4).bind fun x4 =>
  (F_X3_alikeTo x4 v1 q1.2).bind fun q5 =>
  some (.inl q5.1, q5.2)) (fun E3 => some (.inr E3, q1.2))) := by
  unfold R_X7_alike_0
  rw [s_run_eq]
  show s_go _ _ (T_X7_alike_0 v0 v1 σ) = _
  unfold T_X7_alike_0
  simp only [s_go_bind, s_go_ite, s_go_sum, s_go_l, s_go_r, s_go_n]
  try rfl
theorem E_X7_alike {v0 : Nat} {v1 : Int32} {σ : sS} : F_X7_alike v0 v1 σ = ((s_is σ v0 7).bind fun _ => R_X7_alike_0 v0 v1 σ) := rfl
/-! L_alike -/
noncomputable def R_L_alike_0 (v0 : Nat) (v1 : Int32) (v2 : Nat) (σ : sS) : Option (Int32 × sS) := s_run (S_L_alike ) (0, [.ref v0, .int v1, .ref v2], σ)
theorem E_L_alike_0 {v0 : Nat} {v1 : Int32} {v2 : Nat} {σ : sS} : R_L_alike_0 v0 v1 v2 σ = ((F_X7_alike v0 v1 σ).bind fun q1 => s_sum q1.1 (fun x2 => (s_sl q1.2 v2 0 ((x2 : Int32).toInt64)).bind fun σ4 =>
  some (0, σ4)) (fun E3 => if E3 = "java/lang/IndexOutOfBoundsException" then (some (1, q1.2)) else none)) := by
  unfold R_L_alike_0
  rw [s_run_eq]
  show s_go _ _ (T_L_alike_0 v0 v1 v2 σ) = _
  unfold T_L_alike_0
  simp only [s_go_bind, s_go_ite, s_go_sum, s_go_l, s_go_r, s_go_n]
  try rfl
theorem E_L_alike {v0 : Nat} {v1 : Int32} {v2 : Nat} {σ : sS} : F_L_alike v0 v1 v2 σ = (R_L_alike_0 v0 v1 v2 σ) := rfl
/-! X7_beliefs -/
noncomputable def R_X7_beliefs_0 (v0 : Nat) (v1 : Int32) (σ : sS) : Option ((Int32 ⊕ String) × sS) := s_run (S_X7_beliefs ) (0, [.ref v0, .int v1], σ)
theorem E_X7_beliefs_0 {v0 : Nat} {v1 : Int32} {σ : sS} : R_X7_beliefs_0 v0 v1 σ = ((F_X7_needCustomer v0 v1 σ).bind fun q1 => s_sum q1.1 (fun x2 => (s_fr q1.2 v0 7 1).bind fun x4 =>
  (s_fr q1.2 x4 1 5).bind fun x5 =>
  (s_ai q1.2 x5 v1).bind fun x6 =>
  some (.inl x6, q1.2)) (fun E3 => some (.inr E3, q1.2))) := by
  unfold R_X7_beliefs_0
  rw [s_run_eq]
  show s_go _ _ (T_X7_beliefs_0 v0 v1 σ) = _
  unfold T_X7_beliefs_0
  simp only [s_go_bind, s_go_ite, s_go_sum, s_go_l, s_go_r, s_go_n]
  try rfl
theorem E_X7_beliefs {v0 : Nat} {v1 : Int32} {σ : sS} : F_X7_beliefs v0 v1 σ = ((s_is σ v0 7).bind fun _ => R_X7_beliefs_0 v0 v1 σ) := rfl
/-! L_beliefs -/
noncomputable def R_L_beliefs_0 (v0 : Nat) (v1 : Int32) (v2 : Nat) (σ : sS) : Option (Int32 × sS) := s_run (S_L_beliefs ) (0, [.ref v0, .int v1, .ref v2], σ)
theorem E_L_beliefs_0 {v0 : Nat} {v1 : Int32} {v2 : Nat} {σ : sS} : R_L_beliefs_0 v0 v1 v2 σ = ((F_X7_beliefs v0 v1 σ).bind fun q1 => s_sum q1.1 (fun x2 => (s_sl q1.2 v2 0 ((x2 : Int32).toInt64)).bind fun σ4 =>
  some (0, σ4)) (fun E3 => if E3 = "java/lang/IndexOutOfBoundsException" then (some (1, q1.2)) else none)) := by
  unfold R_L_beliefs_0
  rw [s_run_eq]
  show s_go _ _ (T_L_beliefs_0 v0 v1 v2 σ) = _
  unfold T_L_beliefs_0
  simp only [s_go_bind, s_go_ite, s_go_sum, s_go_l, s_go_r, s_go_n]
  try rfl
theorem E_L_beliefs {v0 : Nat} {v1 : Int32} {v2 : Nat} {σ : sS} : F_L_beliefs v0 v1 v2 σ = (R_L_beliefs_0 v0 v1 v2 σ) := rfl
/-! X7_believe -/
noncomputable def R_X7_believe_0 (v0 : Nat) (v1 : Int32) (v2 : Int32) (v3 : Int32) (σ : sS) : Option ((Int32 ⊕ String) × sS) := s_run (S_X7_believe ) (0, [.ref v0, .int v1, .int v2, .int v3], σ)
noncomputable def R_X7_believe_53 (v0 : Nat) (v1 : Int32) (v4 : Int32) (w0 : Int32) (w1 : Int32) (w2 : Nat) (σ : sS) : Option ((Int32 ⊕ String) × sS) := s_run (S_X7_believe ) (53, [.ref v0, .int v1, .int v4, .int w0, .int w1, .ref w2], σ)
theorem E_X7_believe_0 {v0 : Nat} {v1 : Int32} {v2 : Int32} {v3 : Int32} {σ : sS} : R_X7_believe_0 v0 v1 v2 v3 σ = ((F_X7_needCustomer v0 v1 σ).bind fun q1 => s_sum q1.1 (fun x2 => (F_X7_needFormula v0 v2 q1.2).bind fun q4 => s_sum q4.1 (fun x5 => (s_fr q4.2 v0 7 1).bind fun x7 =>
  (s_fr q4.2 x7 1 5).bind fun x8 =>
  (s_ai q4.2 x8 v1).bind fun x9 =>
  (s_fr q4.2 v0 7 1).bind fun x10 =>
  (s_fr q4.2 x10 1 5).bind fun x11 =>
  if v3 = 0 then (R_X7_believe_53 v0 v1 x9 (x9 &&& ((1 <<< (v2 &&& 31)) ^^^ (-1))) v1 x11 q4.2)
  else (R_X7_believe_53 v0 v1 x9 (x9 ||| (1 <<< (v2 &&& 31))) v1 x11 q4.2)) (fun E6 => some (.inr E6, q4.2))) (fun E3 => some (.inr E3, q1.2))) := by
  unfold R_X7_believe_0
  rw [s_run_eq]
  show s_go _ _ (T_X7_believe_0 v0 v1 v2 v3 σ) = _
  unfold T_X7_believe_0
  simp only [s_go_bind, s_go_ite, s_go_sum, s_go_l, s_go_r, s_go_n]
  try rfl
theorem E_X7_believe_53 {v0 : Nat} {v1 : Int32} {v4 : Int32} {w0 : Int32} {w1 : Int32} {w2 : Nat} {σ : sS} : R_X7_believe_53 v0 v1 v4 w0 w1 w2 σ = ((s_si σ w2 w1 w0).bind fun σ1 =>
  (s_fr σ1 v0 7 1).bind fun x2 =>
  (s_fr σ1 x2 1 5).bind fun x3 =>
  (s_ai σ1 x3 v1).bind fun x4 =>
  if x4 = v4 then (some (.inl 0, σ1))
  else (some (.inl 1, σ1))) := by
  unfold R_X7_believe_53
  rw [s_run_eq]
  show s_go _ _ (T_X7_believe_53 v0 v1 v4 w0 w1 w2 σ) = _
  unfold T_X7_believe_53
  simp only [s_go_bind, s_go_ite, s_go_sum, s_go_l, s_go_r, s_go_n]
  try rfl
theorem E_X7_believe {v0 : Nat} {v1 : Int32} {v2 : Int32} {v3 : Int32} {σ : sS} : F_X7_believe v0 v1 v2 v3 σ = ((s_is σ v0 7).bind fun _ => R_X7_believe_0 v0 v1 v2 v3 σ) := rfl
/-! L_believe -/
noncomputable def R_L_believe_0 (v0 : Nat) (v1 : Int32) (v2 : Int32) (v3 : Int32) (v4 : Nat) (σ : sS) : Option (Int32 × sS) := s_run (S_L_believe ) (0, [.ref v0, .int v1, .int v2, .int v3, .ref v4], σ)
noncomputable def R_L_believe_18 (w0 : Int64) (w1 : Int32) (w2 : Nat) (σ : sS) : Option (Int32 × sS) := s_run (S_L_believe ) (18, [.long w0, .int w1, .ref w2], σ)
theorem E_L_believe_0 {v0 : Nat} {v1 : Int32} {v2 : Int32} {v3 : Int32} {v4 : Nat} {σ : sS} : R_L_believe_0 v0 v1 v2 v3 v4 σ = ((F_X7_believe v0 v1 v2 v3 σ).bind fun q1 => s_sum q1.1 (fun x2 => if x2 = 0 then (R_L_believe_18 0 0 v4 q1.2)
  else (R_L_believe_18 1 0 v4 q1.2)) (fun E3 => if E3 = "java/lang/IndexOutOfBoundsException" then (some (1, q1.2)) else none)) := by
  unfold R_L_believe_0
  rw [s_run_eq]
  show s_go _ _ (T_L_believe_0 v0 v1 v2 v3 v4 σ) = _
  unfold T_L_believe_0
  simp only [s_go_bind, s_go_ite, s_go_sum, s_go_l, s_go_r, s_go_n]
  try rfl
theorem E_L_believe_18 {w0 : Int64} {w1 : Int32} {w2 : Nat} {σ : sS} : R_L_believe_18 w0 w1 w2 σ = ((s_sl σ w2 w1 w0).bind fun σ1 =>
  some (0, σ1)) := by
  unfold R_L_believe_18
  rw [s_run_eq]
  show s_go _ _ (T_L_believe_18 w0 w1 w2 σ) = _
  unfold T_L_believe_18
  simp only [s_go_bind, s_go_ite, s_go_sum, s_go_l, s_go_r, s_go_n]
  try rfl
theorem E_L_believe {v0 : Nat} {v1 : Int32} {v2 : Int32} {v3 : Int32} {v4 : Nat} {σ : sS} : F_L_believe v0 v1 v2 v3 v4 σ = (R_L_believe_0 v0 v1 v2 v3 v4 σ) := rfl
/-! X7_needLine -/
noncomputable def R_X7_needLine_0 (v0 : Nat) (v1 : Int32) (σ : sS) : Option ((Unit ⊕ String) × sS) := s_run (S_X7_needLine ) (0, [.ref v0, .int v1], σ)
theorem E_X7_needLine_0 {v0 : Nat} {v1 : Int32} {σ : sS} : R_X7_needLine_0 v0 v1 σ = (if v1 < 0 then (some (.inr "java/lang/IndexOutOfBoundsException", s_ex σ))
  else ((s_fr σ v0 7 1).bind fun x1 =>
  (s_fi σ x1 1 6).bind fun x2 =>
  if v1 < x2 then (some (.inl (), σ))
  else (some (.inr "java/lang/IndexOutOfBoundsException", s_ex σ)))) := by
  unfold R_X7_needLine_0
  rw [s_run_eq]
  show s_go _ _ (T_X7_needLine_0 v0 v1 σ) = _
  unfold T_X7_needLine_0
  simp only [s_go_bind, s_go_ite, s_go_sum, s_go_l, s_go_r, s_go_n]
  try rfl
theorem E_X7_needLine {v0 : Nat} {v1 : Int32} {σ : sS} : F_X7_needLine v0 v1 σ = ((s_is σ v0 7).bind fun _ => R_X7_needLine_0 v0 v1 σ) := rfl
/-! X1_ofLine -/
noncomputable def R_X1_ofLine_0 (v0 : Nat) (v1 : Int32) (v2 : Int32) (σ : sS) : Option (Int32 × sS) := s_run (S_X1_ofLine ) (0, [.ref v0, .int v1, .int v2], σ)
noncomputable def R_X1_ofLine_26 (v0 : Nat) (v1 : Int32) (v2 : Int32) (σ : sS) : Option (Int32 × sS) := s_run (S_X1_ofLine ) (26, [.ref v0, .int v1, .int v2], σ)
noncomputable def R_X1_ofLine_27 (v0 : Nat) (v1 : Int32) (v2 : Int32) (w0 : Int32) (σ : sS) : Option (Int32 × sS) := s_run (S_X1_ofLine ) (27, [.ref v0, .int v1, .int v2, .int w0], σ)
theorem E_X1_ofLine_0 {v0 : Nat} {v1 : Int32} {v2 : Int32} {σ : sS} : R_X1_ofLine_0 v0 v1 v2 σ = (if v1 < 0 then (R_X1_ofLine_26 v0 v1 v2 σ)
  else ((s_fi σ v0 1 6).bind fun x1 =>
  if x1 ≤ v1 then (R_X1_ofLine_26 v0 v1 v2 σ)
  else (if v2 < 0 then (R_X1_ofLine_26 v0 v1 v2 σ)
  else (if (6 : Int32) ≤ v2 then (R_X1_ofLine_26 v0 v1 v2 σ)
  else (R_X1_ofLine_27 v0 v1 v2 1 σ))))) := by
  unfold R_X1_ofLine_0
  rw [s_run_eq]
  show s_go _ _ (T_X1_ofLine_0 v0 v1 v2 σ) = _
  unfold T_X1_ofLine_0
  simp only [s_go_bind, s_go_ite, s_go_sum, s_go_l, s_go_r, s_go_n]
  try rfl
theorem E_X1_ofLine_26 {v0 : Nat} {v1 : Int32} {v2 : Int32} {σ : sS} : R_X1_ofLine_26 v0 v1 v2 σ = (R_X1_ofLine_27 v0 v1 v2 0 σ) := by
  unfold R_X1_ofLine_26
  rw [s_run_eq]
  show s_go _ _ (T_X1_ofLine_26 v0 v1 v2 σ) = _
  unfold T_X1_ofLine_26
  simp only [s_go_bind, s_go_ite, s_go_sum, s_go_l, s_go_r, s_go_n]
  try rfl
theorem E_X1_ofLine_27 {v0 : Nat} {v1 : Int32} {v2 : Int32} {w0 : Int32} {σ : sS} : R_X1_ofLine_27 v0 v1 v2 w0 σ = (if w0 = 0 then (some ((-1), σ))
  else ((s_fr σ v0 1 13).bind fun x1 =>
  (s_ai σ x1 ((v1 * 6) + v2)).bind fun x2 =>
  some (x2, σ))) := by
  unfold R_X1_ofLine_27
  rw [s_run_eq]
  show s_go _ _ (T_X1_ofLine_27 v0 v1 v2 w0 σ) = _
  unfold T_X1_ofLine_27
  simp only [s_go_bind, s_go_ite, s_go_sum, s_go_l, s_go_r, s_go_n]
  try rfl
theorem E_X1_ofLine {v0 : Nat} {v1 : Int32} {v2 : Int32} {σ : sS} : F_X1_ofLine v0 v1 v2 σ = ((s_is σ v0 1).bind fun _ => R_X1_ofLine_0 v0 v1 v2 σ) := rfl
/-! X1_premiseOf -/
noncomputable def R_X1_premiseOf_0 (v0 : Nat) (v1 : Int32) (v2 : Int32) (σ : sS) : Option (Int32 × sS) := s_run (S_X1_premiseOf ) (0, [.ref v0, .int v1, .int v2], σ)
theorem E_X1_premiseOf_0 {v0 : Nat} {v1 : Int32} {v2 : Int32} {σ : sS} : R_X1_premiseOf_0 v0 v1 v2 σ = ((F_X1_ofLine v0 v1 2 σ).bind fun q1 =>
  if q1.1 = 0 then (some ((-1), q1.2))
  else ((F_X1_ofLine v0 v1 (3 + v2) q1.2).bind fun q2 =>
  some (q2.1, q2.2))) := by
  unfold R_X1_premiseOf_0
  rw [s_run_eq]
  show s_go _ _ (T_X1_premiseOf_0 v0 v1 v2 σ) = _
  unfold T_X1_premiseOf_0
  simp only [s_go_bind, s_go_ite, s_go_sum, s_go_l, s_go_r, s_go_n]
  try rfl
theorem E_X1_premiseOf {v0 : Nat} {v1 : Int32} {v2 : Int32} {σ : sS} : F_X1_premiseOf v0 v1 v2 σ = ((s_is σ v0 1).bind fun _ => R_X1_premiseOf_0 v0 v1 v2 σ) := rfl
/-! X0_boughtInRow -/
noncomputable def R_X0_boughtInRow_0 (v0 : Nat) (v1 : Int32) (σ : sS) : Option (Int32 × sS) := s_run (S_X0_boughtInRow ) (0, [.ref v0, .int v1], σ)
noncomputable def R_X0_boughtInRow_7 (v0 : Nat) (v2 : Int32) (v3 : Int32) (v4 : Int32) (σ : sS) : Option (Int32 × sS) := s_run (S_X0_boughtInRow ) (7, [.ref v0, .int v2, .int v3, .int v4], σ)
theorem E_X0_boughtInRow_0 {v0 : Nat} {v1 : Int32} {σ : sS} : R_X0_boughtInRow_0 v0 v1 σ = (R_X0_boughtInRow_7 v0 0 v1 0 σ) := by
  unfold R_X0_boughtInRow_0
  rw [s_run_eq]
  show s_go _ _ (T_X0_boughtInRow_0 v0 v1 σ) = _
  unfold T_X0_boughtInRow_0
  simp only [s_go_bind, s_go_ite, s_go_sum, s_go_l, s_go_r, s_go_n]
  try rfl
theorem E_X0_boughtInRow_7 {v0 : Nat} {v2 : Int32} {v3 : Int32} {v4 : Int32} {σ : sS} : R_X0_boughtInRow_7 v0 v2 v3 v4 σ = (if (40 : Int32) ≤ v4 then (some (v2, σ))
  else ((s_fr σ v0 0 5).bind fun x1 =>
  (F_X1_ofLine x1 v3 2 σ).bind fun q2 =>
  if q2.1 = 15 then ((s_fr q2.2 v0 0 5).bind fun x3 =>
  (F_X1_premiseOf x3 v3 0 q2.2).bind fun q4 =>
  R_X0_boughtInRow_7 v0 (v2 + 1) q4.1 (v4 + 1) q4.2)
  else (some (v2, q2.2)))) := by
  unfold R_X0_boughtInRow_7
  rw [s_run_eq]
  show s_go _ _ (T_X0_boughtInRow_7 v0 v2 v3 v4 σ) = _
  unfold T_X0_boughtInRow_7
  simp only [s_go_bind, s_go_ite, s_go_sum, s_go_l, s_go_r, s_go_n]
  try rfl
theorem E_X0_boughtInRow {v0 : Nat} {v1 : Int32} {σ : sS} : F_X0_boughtInRow v0 v1 σ = ((s_is σ v0 0).bind fun _ => R_X0_boughtInRow_0 v0 v1 σ) := rfl
/-! X7_chain -/
noncomputable def R_X7_chain_0 (v0 : Nat) (v1 : Int32) (σ : sS) : Option ((Int32 ⊕ String) × sS) := s_run (S_X7_chain ) (0, [.ref v0, .int v1], σ)
theorem E_X7_chain_0 {v0 : Nat} {v1 : Int32} {σ : sS} : R_X7_chain_0 v0 v1 σ = ((F_X7_needLine v0 v1 σ).bind fun q1 => s_sum q1.1 (fun x2 => (s_fr q1.2 v0 7 5).bind fun x4 =>
  (F_X0_boughtInRow x4 v1 q1.2).bind fun q5 =>
  some (.inl q5.1, q5.2)) (fun E3 => some (.inr E3, q1.2))) := by
  unfold R_X7_chain_0
  rw [s_run_eq]
  show s_go _ _ (T_X7_chain_0 v0 v1 σ) = _
  unfold T_X7_chain_0
  simp only [s_go_bind, s_go_ite, s_go_sum, s_go_l, s_go_r, s_go_n]
  try rfl
theorem E_X7_chain {v0 : Nat} {v1 : Int32} {σ : sS} : F_X7_chain v0 v1 σ = ((s_is σ v0 7).bind fun _ => R_X7_chain_0 v0 v1 σ) := rfl
/-! L_chain -/
noncomputable def R_L_chain_0 (v0 : Nat) (v1 : Int32) (v2 : Nat) (σ : sS) : Option (Int32 × sS) := s_run (S_L_chain ) (0, [.ref v0, .int v1, .ref v2], σ)
theorem E_L_chain_0 {v0 : Nat} {v1 : Int32} {v2 : Nat} {σ : sS} : R_L_chain_0 v0 v1 v2 σ = ((F_X7_chain v0 v1 σ).bind fun q1 => s_sum q1.1 (fun x2 => (s_sl q1.2 v2 0 ((x2 : Int32).toInt64)).bind fun σ4 =>
  some (0, σ4)) (fun E3 => if E3 = "java/lang/IndexOutOfBoundsException" then (some (1, q1.2)) else none)) := by
  unfold R_L_chain_0
  rw [s_run_eq]
  show s_go _ _ (T_L_chain_0 v0 v1 v2 σ) = _
  unfold T_L_chain_0
  simp only [s_go_bind, s_go_ite, s_go_sum, s_go_l, s_go_r, s_go_n]
  try rfl
theorem E_L_chain {v0 : Nat} {v1 : Int32} {v2 : Nat} {σ : sS} : F_L_chain v0 v1 v2 σ = (R_L_chain_0 v0 v1 v2 σ) := rfl
/-! X7_needHouse -/
noncomputable def R_X7_needHouse_0 (v0 : Nat) (v1 : Int32) (σ : sS) : Option ((Unit ⊕ String) × sS) := s_run (S_X7_needHouse ) (0, [.ref v0, .int v1], σ)
theorem E_X7_needHouse_0 {v0 : Nat} {v1 : Int32} {σ : sS} : R_X7_needHouse_0 v0 v1 σ = (if v1 < 0 then (some (.inr "java/lang/IndexOutOfBoundsException", s_ex σ))
  else (if v1 < 3 then (some (.inl (), σ))
  else (some (.inr "java/lang/IndexOutOfBoundsException", s_ex σ)))) := by
  unfold R_X7_needHouse_0
  rw [s_run_eq]
  show s_go _ _ (T_X7_needHouse_0 v0 v1 σ) = _
  unfold T_X7_needHouse_0
  simp only [s_go_bind, s_go_ite, s_go_sum, s_go_l, s_go_r, s_go_n]
  try rfl
theorem E_X7_needHouse {v0 : Nat} {v1 : Int32} {σ : sS} : F_X7_needHouse v0 v1 σ = ((s_is σ v0 7).bind fun _ => R_X7_needHouse_0 v0 v1 σ) := rfl
/-! X1_nodeOf -/
noncomputable def R_X1_nodeOf_0 (v0 : Nat) (v1 : Int32) (σ : sS) : Option (Int32 × sS) := s_run (S_X1_nodeOf ) (0, [.ref v0, .int v1], σ)
theorem E_X1_nodeOf_0 {v0 : Nat} {v1 : Int32} {σ : sS} : R_X1_nodeOf_0 v0 v1 σ = (if v1 < 0 then (some ((-1), σ))
  else ((s_fi σ v0 1 2).bind fun x1 =>
  if x1 ≤ v1 then (some ((-1), σ))
  else ((s_fr σ v0 1 11).bind fun x2 =>
  (s_ai σ x2 v1).bind fun x3 =>
  some (x3, σ)))) := by
  unfold R_X1_nodeOf_0
  rw [s_run_eq]
  show s_go _ _ (T_X1_nodeOf_0 v0 v1 σ) = _
  unfold T_X1_nodeOf_0
  simp only [s_go_bind, s_go_ite, s_go_sum, s_go_l, s_go_r, s_go_n]
  try rfl
theorem E_X1_nodeOf {v0 : Nat} {v1 : Int32} {σ : sS} : F_X1_nodeOf v0 v1 σ = ((s_is σ v0 1).bind fun _ => R_X1_nodeOf_0 v0 v1 σ) := rfl
/-! X1_toldTo -/
noncomputable def R_X1_toldTo_0 (v0 : Nat) (v1 : Int32) (σ : sS) : Option (Int32 × sS) := s_run (S_X1_toldTo ) (0, [.ref v0, .int v1], σ)
theorem E_X1_toldTo_0 {v0 : Nat} {v1 : Int32} {σ : sS} : R_X1_toldTo_0 v0 v1 σ = (if v1 < 0 then (some (0, σ))
  else (if (4 : Int32) ≤ v1 then (some (0, σ))
  else ((s_fr σ v0 1 5).bind fun x1 =>
  (s_ai σ x1 v1).bind fun x2 =>
  some (x2, σ)))) := by
  unfold R_X1_toldTo_0
  rw [s_run_eq]
  show s_go _ _ (T_X1_toldTo_0 v0 v1 σ) = _
  unfold T_X1_toldTo_0
  simp only [s_go_bind, s_go_ite, s_go_sum, s_go_l, s_go_r, s_go_n]
  try rfl
theorem E_X1_toldTo {v0 : Nat} {v1 : Int32} {σ : sS} : F_X1_toldTo v0 v1 σ = ((s_is σ v0 1).bind fun _ => R_X1_toldTo_0 v0 v1 σ) := rfl
/-! X4_placeOf -/
noncomputable def R_X4_placeOf_0 (v0 : Nat) (v1 : Int32) (σ : sS) : Option (Int32 × sS) := s_run (S_X4_placeOf ) (0, [.ref v0, .int v1], σ)
noncomputable def R_X4_placeOf_2 (v0 : Nat) (v1 : Int32) (v2 : Int32) (σ : sS) : Option (Int32 × sS) := s_run (S_X4_placeOf ) (2, [.ref v0, .int v1, .int v2], σ)
theorem E_X4_placeOf_0 {v0 : Nat} {v1 : Int32} {σ : sS} : R_X4_placeOf_0 v0 v1 σ = (R_X4_placeOf_2 v0 v1 0 σ) := by
  unfold R_X4_placeOf_0
  rw [s_run_eq]
  show s_go _ _ (T_X4_placeOf_0 v0 v1 σ) = _
  unfold T_X4_placeOf_0
  simp only [s_go_bind, s_go_ite, s_go_sum, s_go_l, s_go_r, s_go_n]
  try rfl
theorem E_X4_placeOf_2 {v0 : Nat} {v1 : Int32} {v2 : Int32} {σ : sS} : R_X4_placeOf_2 v0 v1 v2 σ = ((s_fi σ v0 4 8).bind fun x1 =>
  if x1 ≤ v2 then (some ((-1), σ))
  else ((s_fr σ v0 4 2).bind fun x2 =>
  (s_ai σ x2 v2).bind fun x3 =>
  if x3 = v1 then (some (v2, σ))
  else (R_X4_placeOf_2 v0 v1 (v2 + 1) σ))) := by
  unfold R_X4_placeOf_2
  rw [s_run_eq]
  show s_go _ _ (T_X4_placeOf_2 v0 v1 v2 σ) = _
  unfold T_X4_placeOf_2
  simp only [s_go_bind, s_go_ite, s_go_sum, s_go_l, s_go_r, s_go_n]
  try rfl
theorem E_X4_placeOf {v0 : Nat} {v1 : Int32} {σ : sS} : F_X4_placeOf v0 v1 σ = ((s_is σ v0 4).bind fun _ => R_X4_placeOf_0 v0 v1 σ) := rfl
/-! X2_signsOf -/
noncomputable def R_X2_signsOf_0 (v0 : Nat) (v1 : Int32) (σ : sS) : Option (Int32 × sS) := s_run (S_X2_signsOf ) (0, [.ref v0, .int v1], σ)
theorem E_X2_signsOf_0 {v0 : Nat} {v1 : Int32} {σ : sS} : R_X2_signsOf_0 v0 v1 σ = (if v1 < 0 then (some (0, σ))
  else ((s_fi σ v0 2 0).bind fun x1 =>
  if x1 ≤ v1 then (some (0, σ))
  else ((s_fr σ v0 2 4).bind fun x2 =>
  (s_ai σ x2 v1).bind fun x3 =>
  some (x3, σ)))) := by
  unfold R_X2_signsOf_0
  rw [s_run_eq]
  show s_go _ _ (T_X2_signsOf_0 v0 v1 σ) = _
  unfold T_X2_signsOf_0
  simp only [s_go_bind, s_go_ite, s_go_sum, s_go_l, s_go_r, s_go_n]
  try rfl
theorem E_X2_signsOf {v0 : Nat} {v1 : Int32} {σ : sS} : F_X2_signsOf v0 v1 σ = ((s_is σ v0 2).bind fun _ => R_X2_signsOf_0 v0 v1 σ) := rfl
/-! X2_kindOf -/
noncomputable def R_X2_kindOf_0 (v0 : Nat) (v1 : Int32) (σ : sS) : Option (Int32 × sS) := s_run (S_X2_kindOf ) (0, [.ref v0, .int v1], σ)
theorem E_X2_kindOf_0 {v0 : Nat} {v1 : Int32} {σ : sS} : R_X2_kindOf_0 v0 v1 σ = (if v1 < 0 then (some ((-1), σ))
  else ((s_fi σ v0 2 0).bind fun x1 =>
  if x1 ≤ v1 then (some ((-1), σ))
  else ((s_fr σ v0 2 1).bind fun x2 =>
  (s_ai σ x2 v1).bind fun x3 =>
  some (x3, σ)))) := by
  unfold R_X2_kindOf_0
  rw [s_run_eq]
  show s_go _ _ (T_X2_kindOf_0 v0 v1 σ) = _
  unfold T_X2_kindOf_0
  simp only [s_go_bind, s_go_ite, s_go_sum, s_go_l, s_go_r, s_go_n]
  try rfl
theorem E_X2_kindOf {v0 : Nat} {v1 : Int32} {σ : sS} : F_X2_kindOf v0 v1 σ = ((s_is σ v0 2).bind fun _ => R_X2_kindOf_0 v0 v1 σ) := rfl
/-! X2_placedOf -/
noncomputable def R_X2_placedOf_0 (v0 : Nat) (v1 : Int32) (v2 : Int32) (σ : sS) : Option (Int32 × sS) := s_run (S_X2_placedOf ) (0, [.ref v0, .int v1, .int v2], σ)
noncomputable def R_X2_placedOf_25 (v0 : Nat) (v1 : Int32) (v2 : Int32) (σ : sS) : Option (Int32 × sS) := s_run (S_X2_placedOf ) (25, [.ref v0, .int v1, .int v2], σ)
noncomputable def R_X2_placedOf_26 (v0 : Nat) (v1 : Int32) (v2 : Int32) (w0 : Int32) (σ : sS) : Option (Int32 × sS) := s_run (S_X2_placedOf ) (26, [.ref v0, .int v1, .int v2, .int w0], σ)
theorem E_X2_placedOf_0 {v0 : Nat} {v1 : Int32} {v2 : Int32} {σ : sS} : R_X2_placedOf_0 v0 v1 v2 σ = (if v1 < 0 then (R_X2_placedOf_25 v0 v1 v2 σ)
  else ((s_fi σ v0 2 0).bind fun x1 =>
  if x1 ≤ v1 then (R_X2_placedOf_25 v0 v1 v2 σ)
  else (if v2 < 0 then (R_X2_placedOf_25 v0 v1 v2 σ)
  else (if (3 : Int32) ≤ v2 then (R_X2_placedOf_25 v0 v1 v2 σ)
  else (R_X2_placedOf_26 v0 v1 v2 1 σ))))) := by
  unfold R_X2_placedOf_0
  rw [s_run_eq]
  show s_go _ _ (T_X2_placedOf_0 v0 v1 v2 σ) = _
  unfold T_X2_placedOf_0
  simp only [s_go_bind, s_go_ite, s_go_sum, s_go_l, s_go_r, s_go_n]
  try rfl
theorem E_X2_placedOf_25 {v0 : Nat} {v1 : Int32} {v2 : Int32} {σ : sS} : R_X2_placedOf_25 v0 v1 v2 σ = (R_X2_placedOf_26 v0 v1 v2 0 σ) := by
  unfold R_X2_placedOf_25
  rw [s_run_eq]
  show s_go _ _ (T_X2_placedOf_25 v0 v1 v2 σ) = _
  unfold T_X2_placedOf_25
  simp only [s_go_bind, s_go_ite, s_go_sum, s_go_l, s_go_r, s_go_n]
  try rfl
theorem E_X2_placedOf_26 {v0 : Nat} {v1 : Int32} {v2 : Int32} {w0 : Int32} {σ : sS} : R_X2_placedOf_26 v0 v1 v2 w0 σ = (if w0 = 0 then (some ((-1), σ))
  else ((s_fr σ v0 2 6).bind fun x1 =>
  (s_ai σ x1 ((v1 * 3) + v2)).bind fun x2 =>
  some (x2, σ))) := by
  unfold R_X2_placedOf_26
  rw [s_run_eq]
  show s_go _ _ (T_X2_placedOf_26 v0 v1 v2 w0 σ) = _
  unfold T_X2_placedOf_26
  simp only [s_go_bind, s_go_ite, s_go_sum, s_go_l, s_go_r, s_go_n]
  try rfl
theorem E_X2_placedOf {v0 : Nat} {v1 : Int32} {v2 : Int32} {σ : sS} : F_X2_placedOf v0 v1 v2 σ = ((s_is σ v0 2).bind fun _ => R_X2_placedOf_0 v0 v1 v2 σ) := rfl
/-! X2_firstOf -/
noncomputable def R_X2_firstOf_0 (v0 : Nat) (v1 : Int32) (σ : sS) : Option (Int32 × sS) := s_run (S_X2_firstOf ) (0, [.ref v0, .int v1], σ)
theorem E_X2_firstOf_0 {v0 : Nat} {v1 : Int32} {σ : sS} : R_X2_firstOf_0 v0 v1 σ = (if v1 < 0 then (some ((-1), σ))
  else ((s_fi σ v0 2 0).bind fun x1 =>
  if x1 ≤ v1 then (some ((-1), σ))
  else ((s_fr σ v0 2 2).bind fun x2 =>
  (s_ai σ x2 v1).bind fun x3 =>
  some (x3, σ)))) := by
  unfold R_X2_firstOf_0
  rw [s_run_eq]
  show s_go _ _ (T_X2_firstOf_0 v0 v1 σ) = _
  unfold T_X2_firstOf_0
  simp only [s_go_bind, s_go_ite, s_go_sum, s_go_l, s_go_r, s_go_n]
  try rfl
theorem E_X2_firstOf {v0 : Nat} {v1 : Int32} {σ : sS} : F_X2_firstOf v0 v1 σ = ((s_is σ v0 2).bind fun _ => R_X2_firstOf_0 v0 v1 σ) := rfl
/-! X2_secondOf -/
noncomputable def R_X2_secondOf_0 (v0 : Nat) (v1 : Int32) (σ : sS) : Option (Int32 × sS) := s_run (S_X2_secondOf ) (0, [.ref v0, .int v1], σ)
theorem E_X2_secondOf_0 {v0 : Nat} {v1 : Int32} {σ : sS} : R_X2_secondOf_0 v0 v1 σ = (if v1 < 0 then (some ((-1), σ))
  else ((s_fi σ v0 2 0).bind fun x1 =>
  if x1 ≤ v1 then (some ((-1), σ))
  else ((s_fr σ v0 2 3).bind fun x2 =>
  (s_ai σ x2 v1).bind fun x3 =>
  some (x3, σ)))) := by
  unfold R_X2_secondOf_0
  rw [s_run_eq]
  show s_go _ _ (T_X2_secondOf_0 v0 v1 σ) = _
  unfold T_X2_secondOf_0
  simp only [s_go_bind, s_go_ite, s_go_sum, s_go_l, s_go_r, s_go_n]
  try rfl
theorem E_X2_secondOf {v0 : Nat} {v1 : Int32} {σ : sS} : F_X2_secondOf v0 v1 σ = ((s_is σ v0 2).bind fun _ => R_X2_secondOf_0 v0 v1 σ) := rfl
/-! X4_lookAt -/
noncomputable def R_X4_lookAt_0 (k9 : Nat) (v0 : Nat) (v1 : Int32) (v2 : Int32) (σ : sS) : Option (Unit × sS) := s_run (S_X4_lookAt (F_X4_lookAt k9) ) (0, [.ref v0, .int v1, .int v2], σ)
noncomputable def R_X4_lookAt_87 (k9 : Nat) (v0 : Nat) (v1 : Int32) (v2 : Int32) (σ : sS) : Option (Unit × sS) := s_run (S_X4_lookAt (F_X4_lookAt k9) ) (87, [.ref v0, .int v1, .int v2], σ)
noncomputable def R_X4_lookAt_90 (k9 : Nat) (v0 : Nat) (v1 : Int32) (v2 : Int32) (v4 : Int32) (σ : sS) : Option (Unit × sS) := s_run (S_X4_lookAt (F_X4_lookAt k9) ) (90, [.ref v0, .int v1, .int v2, .int v4], σ)
theorem E_X4_lookAt_0 {k9 : Nat} {v0 : Nat} {v1 : Int32} {v2 : Int32} {σ : sS} : R_X4_lookAt_0 k9 v0 v1 v2 σ = ((s_fi σ v0 4 8).bind fun x1 =>
  if (40 : Int32) ≤ x1 then (some ((), σ))
  else (if (48 : Int32) < v2 then (some ((), σ))
  else (if v1 = (-1) then (some ((), σ))
  else ((F_X4_placeOf v0 v1 σ).bind fun q2 =>
  if q2.1 = (-1) then ((s_fr q2.2 v0 4 2).bind fun x3 =>
  (s_fi q2.2 v0 4 8).bind fun x4 =>
  (s_si q2.2 x3 x4 v1).bind fun σ5 =>
  (s_fr σ5 v0 4 3).bind fun x6 =>
  (s_fi σ5 v0 4 8).bind fun x7 =>
  (s_fr σ5 v0 4 0).bind fun x8 =>
  (F_X2_signsOf x8 v1 σ5).bind fun q9 =>
  (s_si q9.2 x6 x7 q9.1).bind fun σ10 =>
  (s_fi σ10 v0 4 8).bind fun x11 =>
  (s_pf σ10 v0 4 8 (.int (x11 + 1))).bind fun σ12 =>
  (s_fr σ12 v0 4 0).bind fun x13 =>
  (F_X2_kindOf x13 v1 σ12).bind fun q14 =>
  if q14.1 = 5 then (R_X4_lookAt_87 k9 v0 v1 v2 q14.2)
  else (if q14.1 = 6 then (R_X4_lookAt_87 k9 v0 v1 v2 q14.2)
  else (if q14.1 = 0 then (some ((), q14.2))
  else ((s_fr q14.2 v0 4 0).bind fun x15 =>
  (F_X2_firstOf x15 v1 q14.2).bind fun q16 =>
  (F_X4_lookAt k9 v0 q16.1 (v2 + 1) q16.2).bind fun q17 =>
  (s_fr q17.2 v0 4 0).bind fun x18 =>
  (F_X2_secondOf x18 v1 q17.2).bind fun q19 =>
  (F_X4_lookAt k9 v0 q19.1 (v2 + 1) q19.2).bind fun q20 =>
  some ((), q20.2)))))
  else (some ((), q2.2)))))) := by
  unfold R_X4_lookAt_0
  rw [s_run_eq]
  show s_go _ _ (T_X4_lookAt_0 (F_X4_lookAt k9) v0 v1 v2 σ) = _
  unfold T_X4_lookAt_0
  simp only [s_go_bind, s_go_ite, s_go_sum, s_go_l, s_go_r, s_go_n]
  try rfl
theorem E_X4_lookAt_87 {k9 : Nat} {v0 : Nat} {v1 : Int32} {v2 : Int32} {σ : sS} : R_X4_lookAt_87 k9 v0 v1 v2 σ = (R_X4_lookAt_90 k9 v0 v1 v2 0 σ) := by
  unfold R_X4_lookAt_87
  rw [s_run_eq]
  show s_go _ _ (T_X4_lookAt_87 (F_X4_lookAt k9) v0 v1 v2 σ) = _
  unfold T_X4_lookAt_87
  simp only [s_go_bind, s_go_ite, s_go_sum, s_go_l, s_go_r, s_go_n]
  try rfl
theorem E_X4_lookAt_90 {k9 : Nat} {v0 : Nat} {v1 : Int32} {v2 : Int32} {v4 : Int32} {σ : sS} : R_X4_lookAt_90 k9 v0 v1 v2 v4 σ = ((s_fr σ v0 4 1).bind fun x1 =>
  (s_fi σ x1 1 0).bind fun x2 =>
  if x2 ≤ v4 then (some ((), σ))
  else ((s_fr σ v0 4 0).bind fun x3 =>
  (F_X2_placedOf x3 v1 v4 σ).bind fun q4 =>
  (F_X4_lookAt k9 v0 q4.1 (v2 + 1) q4.2).bind fun q5 =>
  R_X4_lookAt_90 k9 v0 v1 v2 (v4 + 1) q5.2)) := by
  unfold R_X4_lookAt_90
  rw [s_run_eq]
  show s_go _ _ (T_X4_lookAt_90 (F_X4_lookAt k9) v0 v1 v2 v4 σ) = _
  unfold T_X4_lookAt_90
  simp only [s_go_bind, s_go_ite, s_go_sum, s_go_l, s_go_r, s_go_n]
  try rfl
theorem E_X4_lookAt {k9 : Nat}  {v0 : Nat} {v1 : Int32} {v2 : Int32} {σ : sS} : F_X4_lookAt (k9 + 1) v0 v1 v2 σ = ((s_is σ v0 4).bind fun _ => R_X4_lookAt_0 k9 v0 v1 v2 σ) := rfl
/-! X4_slotOf -/
noncomputable def R_X4_slotOf_0 (v0 : Nat) (v1 : Int32) (σ : sS) : Option (Int32 × sS) := s_run (S_X4_slotOf ) (0, [.ref v0, .int v1], σ)
noncomputable def R_X4_slotOf_2 (v0 : Nat) (v1 : Int32) (v2 : Int32) (σ : sS) : Option (Int32 × sS) := s_run (S_X4_slotOf ) (2, [.ref v0, .int v1, .int v2], σ)
theorem E_X4_slotOf_0 {v0 : Nat} {v1 : Int32} {σ : sS} : R_X4_slotOf_0 v0 v1 σ = (R_X4_slotOf_2 v0 v1 0 σ) := by
  unfold R_X4_slotOf_0
  rw [s_run_eq]
  show s_go _ _ (T_X4_slotOf_0 v0 v1 σ) = _
  unfold T_X4_slotOf_0
  simp only [s_go_bind, s_go_ite, s_go_sum, s_go_l, s_go_r, s_go_n]
  try rfl
theorem E_X4_slotOf_2 {v0 : Nat} {v1 : Int32} {v2 : Int32} {σ : sS} : R_X4_slotOf_2 v0 v1 v2 σ = ((s_fi σ v0 4 9).bind fun x1 =>
  if x1 ≤ v2 then (some ((-1), σ))
  else ((s_fr σ v0 4 5).bind fun x2 =>
  (s_ai σ x2 v2).bind fun x3 =>
  if x3 = v1 then (some (v2, σ))
  else (R_X4_slotOf_2 v0 v1 (v2 + 1) σ))) := by
  unfold R_X4_slotOf_2
  rw [s_run_eq]
  show s_go _ _ (T_X4_slotOf_2 v0 v1 v2 σ) = _
  unfold T_X4_slotOf_2
  simp only [s_go_bind, s_go_ite, s_go_sum, s_go_l, s_go_r, s_go_n]
  try rfl
theorem E_X4_slotOf {v0 : Nat} {v1 : Int32} {σ : sS} : F_X4_slotOf v0 v1 σ = ((s_is σ v0 4).bind fun _ => R_X4_slotOf_0 v0 v1 σ) := rfl
/-! X4_listAssumed -/
noncomputable def R_X4_listAssumed_0 (v0 : Nat) (v1 : Int32) (σ : sS) : Option (Unit × sS) := s_run (S_X4_listAssumed ) (0, [.ref v0, .int v1], σ)
theorem E_X4_listAssumed_0 {v0 : Nat} {v1 : Int32} {σ : sS} : R_X4_listAssumed_0 v0 v1 σ = ((s_fr σ v0 4 0).bind fun x1 =>
  (F_X2_kindOf x1 v1 σ).bind fun q2 =>
  if q2.1 = 4 then ((s_fi q2.2 v0 4 9).bind fun x3 =>
  if x3 < 3 then ((s_fr q2.2 v0 4 0).bind fun x4 =>
  (F_X2_firstOf x4 v1 q2.2).bind fun q5 =>
  (F_X4_placeOf v0 q5.1 q5.2).bind fun q6 =>
  if q6.1 = (-1) then (some ((), q6.2))
  else ((F_X4_slotOf v0 q6.1 q6.2).bind fun q7 =>
  if q7.1 = (-1) then ((s_fr q7.2 v0 4 5).bind fun x8 =>
  (s_fi q7.2 v0 4 9).bind fun x9 =>
  (s_si q7.2 x8 x9 q6.1).bind fun σ10 =>
  (s_fi σ10 v0 4 9).bind fun x11 =>
  (s_pf σ10 v0 4 9 (.int (x11 + 1))).bind fun σ12 =>
  some ((), σ12))
  else (some ((), q7.2))))
  else (some ((), q2.2)))
  else (some ((), q2.2))) := by
  unfold R_X4_listAssumed_0
  rw [s_run_eq]
  show s_go _ _ (T_X4_listAssumed_0 v0 v1 σ) = _
  unfold T_X4_listAssumed_0
  simp only [s_go_bind, s_go_ite, s_go_sum, s_go_l, s_go_r, s_go_n]
  try rfl
theorem E_X4_listAssumed {v0 : Nat} {v1 : Int32} {σ : sS} : F_X4_listAssumed v0 v1 σ = ((s_is σ v0 4).bind fun _ => R_X4_listAssumed_0 v0 v1 σ) := rfl
/-! X4_addStep -/
noncomputable def R_X4_addStep_0 (v0 : Nat) (v1 : Int32) (v2 : Int32) (v3 : Int32) (v4 : Int32) (v5 : Int32) (σ : sS) : Option (Unit × sS) := s_run (S_X4_addStep ) (0, [.ref v0, .int v1, .int v2, .int v3, .int v4, .int v5], σ)
theorem E_X4_addStep_0 {v0 : Nat} {v1 : Int32} {v2 : Int32} {v3 : Int32} {v4 : Int32} {v5 : Int32} {σ : sS} : R_X4_addStep_0 v0 v1 v2 v3 v4 v5 σ = (if v2 = (-1) then (some ((), σ))
  else ((s_fi σ v0 4 10).bind fun x1 =>
  if x1 < 560 then ((s_fi σ v0 4 10).bind fun x2 =>
  (s_fr σ v0 4 6).bind fun x3 =>
  (s_si σ x3 (x2 * 5) v1).bind fun σ4 =>
  (s_fr σ4 v0 4 6).bind fun x5 =>
  (s_si σ4 x5 ((x2 * 5) + 1) v2).bind fun σ6 =>
  (s_fr σ6 v0 4 6).bind fun x7 =>
  (s_si σ6 x7 ((x2 * 5) + 2) v3).bind fun σ8 =>
  (s_fr σ8 v0 4 6).bind fun x9 =>
  (s_si σ8 x9 ((x2 * 5) + 3) v4).bind fun σ10 =>
  (s_fr σ10 v0 4 6).bind fun x11 =>
  (s_si σ10 x11 ((x2 * 5) + 4) v5).bind fun σ12 =>
  (s_fi σ12 v0 4 10).bind fun x13 =>
  (s_pf σ12 v0 4 10 (.int (x13 + 1))).bind fun σ14 =>
  some ((), σ14))
  else (some ((), σ)))) := by
  unfold R_X4_addStep_0
  rw [s_run_eq]
  show s_go _ _ (T_X4_addStep_0 v0 v1 v2 v3 v4 v5 σ) = _
  unfold T_X4_addStep_0
  simp only [s_go_bind, s_go_ite, s_go_sum, s_go_l, s_go_r, s_go_n]
  try rfl
theorem E_X4_addStep {v0 : Nat} {v1 : Int32} {v2 : Int32} {v3 : Int32} {v4 : Int32} {v5 : Int32} {σ : sS} : F_X4_addStep v0 v1 v2 v3 v4 v5 σ = ((s_is σ v0 4).bind fun _ => R_X4_addStep_0 v0 v1 v2 v3 v4 v5 σ) := rfl
/-! X2_isMade -/
noncomputable def R_X2_isMade_0 (v0 : Nat) (v1 : Int32) (v2 : Int32) (v3 : Int32) (v4 : Int32) (σ : sS) : Option (Int32 × sS) := s_run (S_X2_isMade ) (0, [.ref v0, .int v1, .int v2, .int v3, .int v4], σ)
theorem E_X2_isMade_0 {v0 : Nat} {v1 : Int32} {v2 : Int32} {v3 : Int32} {v4 : Int32} {σ : sS} : R_X2_isMade_0 v0 v1 v2 v3 v4 σ = (if v1 < 0 then (some (0, σ))
  else ((s_fi σ v0 2 0).bind fun x1 =>
  if x1 ≤ v1 then (some (0, σ))
  else ((s_fr σ v0 2 1).bind fun x2 =>
  (s_ai σ x2 v1).bind fun x3 =>
  if x3 = v2 then ((s_fr σ v0 2 2).bind fun x4 =>
  (s_ai σ x4 v1).bind fun x5 =>
  if x5 = v3 then ((s_fr σ v0 2 3).bind fun x6 =>
  (s_ai σ x6 v1).bind fun x7 =>
  if x7 = v4 then (some (1, σ))
  else (some (0, σ)))
  else (some (0, σ)))
  else (some (0, σ))))) := by
  unfold R_X2_isMade_0
  rw [s_run_eq]
  show s_go _ _ (T_X2_isMade_0 v0 v1 v2 v3 v4 σ) = _
  unfold T_X2_isMade_0
  simp only [s_go_bind, s_go_ite, s_go_sum, s_go_l, s_go_r, s_go_n]
  try rfl
theorem E_X2_isMade {v0 : Nat} {v1 : Int32} {v2 : Int32} {v3 : Int32} {v4 : Int32} {σ : sS} : F_X2_isMade v0 v1 v2 v3 v4 σ = ((s_is σ v0 2).bind fun _ => R_X2_isMade_0 v0 v1 v2 v3 v4 σ) := rfl
/-! X4_placeOfIf -/
noncomputable def R_X4_placeOfIf_0 (v0 : Nat) (v1 : Int32) (v2 : Int32) (σ : sS) : Option (Int32 × sS) := s_run (S_X4_placeOfIf ) (0, [.ref v0, .int v1, .int v2], σ)
noncomputable def R_X4_placeOfIf_2 (v0 : Nat) (v1 : Int32) (v2 : Int32) (v3 : Int32) (σ : sS) : Option (Int32 × sS) := s_run (S_X4_placeOfIf ) (2, [.ref v0, .int v1, .int v2, .int v3], σ)
theorem E_X4_placeOfIf_0 {v0 : Nat} {v1 : Int32} {v2 : Int32} {σ : sS} : R_X4_placeOfIf_0 v0 v1 v2 σ = (R_X4_placeOfIf_2 v0 v1 v2 0 σ) := by
  unfold R_X4_placeOfIf_0
  rw [s_run_eq]
  show s_go _ _ (T_X4_placeOfIf_0 v0 v1 v2 σ) = _
  unfold T_X4_placeOfIf_0
  simp only [s_go_bind, s_go_ite, s_go_sum, s_go_l, s_go_r, s_go_n]
  try rfl
theorem E_X4_placeOfIf_2 {v0 : Nat} {v1 : Int32} {v2 : Int32} {v3 : Int32} {σ : sS} : R_X4_placeOfIf_2 v0 v1 v2 v3 σ = ((s_fi σ v0 4 8).bind fun x1 =>
  if x1 ≤ v3 then (some ((-1), σ))
  else ((s_fr σ v0 4 0).bind fun x2 =>
  (s_fr σ v0 4 2).bind fun x3 =>
  (s_ai σ x3 v3).bind fun x4 =>
  (F_X2_isMade x2 x4 4 v1 v2 σ).bind fun q5 =>
  if q5.1 = 0 then (R_X4_placeOfIf_2 v0 v1 v2 (v3 + 1) q5.2)
  else (some (v3, q5.2)))) := by
  unfold R_X4_placeOfIf_2
  rw [s_run_eq]
  show s_go _ _ (T_X4_placeOfIf_2 v0 v1 v2 v3 σ) = _
  unfold T_X4_placeOfIf_2
  simp only [s_go_bind, s_go_ite, s_go_sum, s_go_l, s_go_r, s_go_n]
  try rfl
theorem E_X4_placeOfIf {v0 : Nat} {v1 : Int32} {v2 : Int32} {σ : sS} : F_X4_placeOfIf v0 v1 v2 σ = ((s_is σ v0 4).bind fun _ => R_X4_placeOfIf_0 v0 v1 v2 σ) := rfl
/-! X4_listOrSteps -/
noncomputable def R_X4_listOrSteps_0 (v0 : Nat) (v1 : Int32) (v2 : Int32) (v3 : Int32) (σ : sS) : Option (Unit × sS) := s_run (S_X4_listOrSteps ) (0, [.ref v0, .int v1, .int v2, .int v3], σ)
noncomputable def R_X4_listOrSteps_14 (v0 : Nat) (v1 : Int32) (v3 : Int32) (σ : sS) : Option (Unit × sS) := s_run (S_X4_listOrSteps ) (14, [.ref v0, .int v1, .int v3], σ)
noncomputable def R_X4_listOrSteps_29 (v0 : Nat) (v1 : Int32) (σ : sS) : Option (Unit × sS) := s_run (S_X4_listOrSteps ) (29, [.ref v0, .int v1], σ)
noncomputable def R_X4_listOrSteps_62 (v0 : Nat) (v1 : Int32) (v4 : Int32) (v5 : Int32) (v6 : Int32) (σ : sS) : Option (Unit × sS) := s_run (S_X4_listOrSteps ) (62, [.ref v0, .int v1, .int v4, .int v5, .int v6], σ)
noncomputable def R_X4_listOrSteps_151 (v0 : Nat) (v1 : Int32) (v4 : Int32) (v5 : Int32) (v6 : Int32) (σ : sS) : Option (Unit × sS) := s_run (S_X4_listOrSteps ) (151, [.ref v0, .int v1, .int v4, .int v5, .int v6], σ)
theorem E_X4_listOrSteps_0 {v0 : Nat} {v1 : Int32} {v2 : Int32} {v3 : Int32} {σ : sS} : R_X4_listOrSteps_0 v0 v1 v2 v3 σ = (if v2 = (-1) then (R_X4_listOrSteps_14 v0 v1 v3 σ)
  else ((F_X4_addStep v0 5 v1 v2 (-1) (-1) σ).bind fun q1 =>
  R_X4_listOrSteps_14 v0 v1 v3 q1.2)) := by
  unfold R_X4_listOrSteps_0
  rw [s_run_eq]
  show s_go _ _ (T_X4_listOrSteps_0 v0 v1 v2 v3 σ) = _
  unfold T_X4_listOrSteps_0
  simp only [s_go_bind, s_go_ite, s_go_sum, s_go_l, s_go_r, s_go_n]
  try rfl
theorem E_X4_listOrSteps_14 {v0 : Nat} {v1 : Int32} {v3 : Int32} {σ : sS} : R_X4_listOrSteps_14 v0 v1 v3 σ = (if v3 = (-1) then (R_X4_listOrSteps_29 v0 v1 σ)
  else ((F_X4_addStep v0 6 v1 v3 (-1) (-1) σ).bind fun q1 =>
  R_X4_listOrSteps_29 v0 v1 q1.2)) := by
  unfold R_X4_listOrSteps_14
  rw [s_run_eq]
  show s_go _ _ (T_X4_listOrSteps_14 v0 v1 v3 σ) = _
  unfold T_X4_listOrSteps_14
  simp only [s_go_bind, s_go_ite, s_go_sum, s_go_l, s_go_r, s_go_n]
  try rfl
theorem E_X4_listOrSteps_29 {v0 : Nat} {v1 : Int32} {σ : sS} : R_X4_listOrSteps_29 v0 v1 σ = ((s_fr σ v0 4 0).bind fun x1 =>
  (s_fr σ v0 4 2).bind fun x2 =>
  (s_ai σ x2 v1).bind fun x3 =>
  (F_X2_firstOf x1 x3 σ).bind fun q4 =>
  (s_fr q4.2 v0 4 0).bind fun x5 =>
  (s_fr q4.2 v0 4 2).bind fun x6 =>
  (s_ai q4.2 x6 v1).bind fun x7 =>
  (F_X2_secondOf x5 x7 q4.2).bind fun q8 =>
  R_X4_listOrSteps_62 v0 v1 q4.1 q8.1 0 q8.2) := by
  unfold R_X4_listOrSteps_29
  rw [s_run_eq]
  show s_go _ _ (T_X4_listOrSteps_29 v0 v1 σ) = _
  unfold T_X4_listOrSteps_29
  simp only [s_go_bind, s_go_ite, s_go_sum, s_go_l, s_go_r, s_go_n]
  try rfl
theorem E_X4_listOrSteps_62 {v0 : Nat} {v1 : Int32} {v4 : Int32} {v5 : Int32} {v6 : Int32} {σ : sS} : R_X4_listOrSteps_62 v0 v1 v4 v5 v6 σ = ((s_fi σ v0 4 8).bind fun x1 =>
  if x1 ≤ v6 then (some ((), σ))
  else ((s_fr σ v0 4 2).bind fun x2 =>
  (s_ai σ x2 v6).bind fun x3 =>
  (s_fr σ v0 4 0).bind fun x4 =>
  (F_X2_kindOf x4 x3 σ).bind fun q5 =>
  if q5.1 = 4 then ((s_fr q5.2 v0 4 0).bind fun x6 =>
  (F_X2_firstOf x6 x3 q5.2).bind fun q7 =>
  if q7.1 = v4 then ((s_fr q7.2 v0 4 0).bind fun x8 =>
  (F_X2_secondOf x8 x3 q7.2).bind fun q9 =>
  (F_X4_placeOfIf v0 v5 q9.1 q9.2).bind fun q10 =>
  if q10.1 = (-1) then (R_X4_listOrSteps_151 v0 v1 v4 v5 v6 q10.2)
  else ((F_X4_placeOf v0 q9.1 q10.2).bind fun q11 =>
  (F_X4_addStep v0 9 q11.1 v1 v6 q10.1 q11.2).bind fun q12 =>
  R_X4_listOrSteps_151 v0 v1 v4 v5 v6 q12.2))
  else (R_X4_listOrSteps_151 v0 v1 v4 v5 v6 q7.2))
  else (R_X4_listOrSteps_151 v0 v1 v4 v5 v6 q5.2))) := by
  unfold R_X4_listOrSteps_62
  rw [s_run_eq]
  show s_go _ _ (T_X4_listOrSteps_62 v0 v1 v4 v5 v6 σ) = _
  unfold T_X4_listOrSteps_62
  simp only [s_go_bind, s_go_ite, s_go_sum, s_go_l, s_go_r, s_go_n]
  try rfl
theorem E_X4_listOrSteps_151 {v0 : Nat} {v1 : Int32} {v4 : Int32} {v5 : Int32} {v6 : Int32} {σ : sS} : R_X4_listOrSteps_151 v0 v1 v4 v5 v6 σ = (R_X4_listOrSteps_62 v0 v1 v4 v5 (v6 + 1) σ) := by
  unfold R_X4_listOrSteps_151
  rw [s_run_eq]
  show s_go _ _ (T_X4_listOrSteps_151 v0 v1 v4 v5 v6 σ) = _
  unfold T_X4_listOrSteps_151
  simp only [s_go_bind, s_go_ite, s_go_sum, s_go_l, s_go_r, s_go_n]
  try rfl
theorem E_X4_listOrSteps {v0 : Nat} {v1 : Int32} {v2 : Int32} {v3 : Int32} {σ : sS} : F_X4_listOrSteps v0 v1 v2 v3 σ = ((s_is σ v0 4).bind fun _ => R_X4_listOrSteps_0 v0 v1 v2 v3 σ) := rfl
/-! X4_listIfSteps -/
noncomputable def R_X4_listIfSteps_0 (v0 : Nat) (v1 : Int32) (v2 : Int32) (v3 : Int32) (σ : sS) : Option (Unit × sS) := s_run (S_X4_listIfSteps ) (0, [.ref v0, .int v1, .int v2, .int v3], σ)
theorem E_X4_listIfSteps_0 {v0 : Nat} {v1 : Int32} {v2 : Int32} {v3 : Int32} {σ : sS} : R_X4_listIfSteps_0 v0 v1 v2 v3 σ = (if v2 = (-1) then (some ((), σ))
  else (if v3 = (-1) then (some ((), σ))
  else ((F_X4_addStep v0 7 v3 v2 v1 (-1) σ).bind fun q1 =>
  (F_X4_slotOf v0 v2 q1.2).bind fun q2 =>
  if q2.1 = (-1) then (some ((), q2.2))
  else ((F_X4_addStep v0 10 v1 v3 q2.1 (-1) q2.2).bind fun q3 =>
  some ((), q3.2))))) := by
  unfold R_X4_listIfSteps_0
  rw [s_run_eq]
  show s_go _ _ (T_X4_listIfSteps_0 v0 v1 v2 v3 σ) = _
  unfold T_X4_listIfSteps_0
  simp only [s_go_bind, s_go_ite, s_go_sum, s_go_l, s_go_r, s_go_n]
  try rfl
theorem E_X4_listIfSteps {v0 : Nat} {v1 : Int32} {v2 : Int32} {v3 : Int32} {σ : sS} : F_X4_listIfSteps v0 v1 v2 v3 σ = ((s_is σ v0 4).bind fun _ => R_X4_listIfSteps_0 v0 v1 v2 v3 σ) := rfl
/-! X4_listAllSteps -/
noncomputable def R_X4_listAllSteps_0 (v0 : Nat) (v1 : Int32) (σ : sS) : Option (Unit × sS) := s_run (S_X4_listAllSteps ) (0, [.ref v0, .int v1], σ)
noncomputable def R_X4_listAllSteps_110 (v0 : Nat) (v1 : Int32) (v2 : Int32) (v3 : Int32) (v4 : Int32) (σ : sS) : Option (Unit × sS) := s_run (S_X4_listAllSteps ) (110, [.ref v0, .int v1, .int v2, .int v3, .int v4], σ)
noncomputable def R_X4_listAllSteps_127 (v0 : Nat) (v1 : Int32) (v2 : Int32) (v3 : Int32) (v4 : Int32) (σ : sS) : Option (Unit × sS) := s_run (S_X4_listAllSteps ) (127, [.ref v0, .int v1, .int v2, .int v3, .int v4], σ)
noncomputable def R_X4_listAllSteps_131 (v0 : Nat) (v1 : Int32) (v2 : Int32) (v3 : Int32) (v4 : Int32) (σ : sS) : Option (Unit × sS) := s_run (S_X4_listAllSteps ) (131, [.ref v0, .int v1, .int v2, .int v3, .int v4], σ)
noncomputable def R_X4_listAllSteps_132 (v0 : Nat) (v1 : Int32) (v2 : Int32) (v3 : Int32) (v4 : Int32) (w0 : Int32) (σ : sS) : Option (Unit × sS) := s_run (S_X4_listAllSteps ) (132, [.ref v0, .int v1, .int v2, .int v3, .int v4, .int w0], σ)
theorem E_X4_listAllSteps_0 {v0 : Nat} {v1 : Int32} {σ : sS} : R_X4_listAllSteps_0 v0 v1 σ = ((s_fr σ v0 4 0).bind fun x1 =>
  (s_fr σ v0 4 2).bind fun x2 =>
  (s_ai σ x2 v1).bind fun x3 =>
  (F_X2_placedOf x1 x3 0 σ).bind fun q4 =>
  (F_X4_placeOf v0 q4.1 q4.2).bind fun q5 =>
  (s_fr q5.2 v0 4 0).bind fun x6 =>
  (s_fr q5.2 v0 4 2).bind fun x7 =>
  (s_ai q5.2 x7 v1).bind fun x8 =>
  (F_X2_placedOf x6 x8 1 q5.2).bind fun q9 =>
  (F_X4_placeOf v0 q9.1 q9.2).bind fun q10 =>
  (s_fr q10.2 v0 4 0).bind fun x11 =>
  (s_fr q10.2 v0 4 2).bind fun x12 =>
  (s_ai q10.2 x12 v1).bind fun x13 =>
  (F_X2_placedOf x11 x13 2 q10.2).bind fun q14 =>
  (F_X4_placeOf v0 q14.1 q14.2).bind fun q15 =>
  (F_X4_addStep v0 11 q5.1 v1 (-1) (-1) q15.2).bind fun q16 =>
  (F_X4_addStep v0 11 q10.1 v1 (-1) (-1) q16.2).bind fun q17 =>
  (F_X4_addStep v0 11 q15.1 v1 (-1) (-1) q17.2).bind fun q18 =>
  if q5.1 = (-1) then (R_X4_listAllSteps_131 v0 v1 q5.1 q10.1 q15.1 q18.2)
  else ((s_fr q18.2 v0 4 1).bind fun x19 =>
  (s_fi q18.2 x19 1 0).bind fun x20 =>
  if x20 < 2 then (R_X4_listAllSteps_110 v0 v1 q5.1 q10.1 q15.1 q18.2)
  else (if q10.1 = (-1) then (R_X4_listAllSteps_131 v0 v1 q5.1 q10.1 q15.1 q18.2)
  else (R_X4_listAllSteps_110 v0 v1 q5.1 q10.1 q15.1 q18.2)))) := by
  unfold R_X4_listAllSteps_0
  rw [s_run_eq]
  show s_go _ _ (T_X4_listAllSteps_0 v0 v1 σ) = _
  unfold T_X4_listAllSteps_0
  simp only [s_go_bind, s_go_ite, s_go_sum, s_go_l, s_go_r, s_go_n]
  try rfl
theorem E_X4_listAllSteps_110 {v0 : Nat} {v1 : Int32} {v2 : Int32} {v3 : Int32} {v4 : Int32} {σ : sS} : R_X4_listAllSteps_110 v0 v1 v2 v3 v4 σ = ((s_fr σ v0 4 1).bind fun x1 =>
  (s_fi σ x1 1 0).bind fun x2 =>
  if x2 < 3 then (R_X4_listAllSteps_127 v0 v1 v2 v3 v4 σ)
  else (if v4 = (-1) then (R_X4_listAllSteps_131 v0 v1 v2 v3 v4 σ)
  else (R_X4_listAllSteps_127 v0 v1 v2 v3 v4 σ))) := by
  unfold R_X4_listAllSteps_110
  rw [s_run_eq]
  show s_go _ _ (T_X4_listAllSteps_110 v0 v1 v2 v3 v4 σ) = _
  unfold T_X4_listAllSteps_110
  simp only [s_go_bind, s_go_ite, s_go_sum, s_go_l, s_go_r, s_go_n]
  try rfl
theorem E_X4_listAllSteps_127 {v0 : Nat} {v1 : Int32} {v2 : Int32} {v3 : Int32} {v4 : Int32} {σ : sS} : R_X4_listAllSteps_127 v0 v1 v2 v3 v4 σ = (R_X4_listAllSteps_132 v0 v1 v2 v3 v4 1 σ) := by
  unfold R_X4_listAllSteps_127
  rw [s_run_eq]
  show s_go _ _ (T_X4_listAllSteps_127 v0 v1 v2 v3 v4 σ) = _
  unfold T_X4_listAllSteps_127
  simp only [s_go_bind, s_go_ite, s_go_sum, s_go_l, s_go_r, s_go_n]
  try rfl
theorem E_X4_listAllSteps_131 {v0 : Nat} {v1 : Int32} {v2 : Int32} {v3 : Int32} {v4 : Int32} {σ : sS} : R_X4_listAllSteps_131 v0 v1 v2 v3 v4 σ = (R_X4_listAllSteps_132 v0 v1 v2 v3 v4 0 σ) := by
  unfold R_X4_listAllSteps_131
  rw [s_run_eq]
  show s_go _ _ (T_X4_listAllSteps_131 v0 v1 v2 v3 v4 σ) = _
  unfold T_X4_listAllSteps_131
  simp only [s_go_bind, s_go_ite, s_go_sum, s_go_l, s_go_r, s_go_n]
  try rfl
theorem E_X4_listAllSteps_132 {v0 : Nat} {v1 : Int32} {v2 : Int32} {v3 : Int32} {v4 : Int32} {w0 : Int32} {σ : sS} : R_X4_listAllSteps_132 v0 v1 v2 v3 v4 w0 σ = (if w0 = 0 then (some ((), σ))
  else ((F_X4_addStep v0 12 v1 v2 v3 v4 σ).bind fun q1 =>
  some ((), q1.2))) := by
  unfold R_X4_listAllSteps_132
  rw [s_run_eq]
  show s_go _ _ (T_X4_listAllSteps_132 v0 v1 v2 v3 v4 w0 σ) = _
  unfold T_X4_listAllSteps_132
  simp only [s_go_bind, s_go_ite, s_go_sum, s_go_l, s_go_r, s_go_n]
  try rfl
theorem E_X4_listAllSteps {v0 : Nat} {v1 : Int32} {σ : sS} : F_X4_listAllSteps v0 v1 σ = ((s_is σ v0 4).bind fun _ => R_X4_listAllSteps_0 v0 v1 σ) := rfl
/-! X4_listSomeSteps -/
noncomputable def R_X4_listSomeSteps_0 (v0 : Nat) (v1 : Int32) (σ : sS) : Option (Unit × sS) := s_run (S_X4_listSomeSteps ) (0, [.ref v0, .int v1], σ)
noncomputable def R_X4_listSomeSteps_2 (v0 : Nat) (v1 : Int32) (v2 : Int32) (σ : sS) : Option (Unit × sS) := s_run (S_X4_listSomeSteps ) (2, [.ref v0, .int v1, .int v2], σ)
noncomputable def R_X4_listSomeSteps_47 (v0 : Nat) (v1 : Int32) (v2 : Int32) (σ : sS) : Option (Unit × sS) := s_run (S_X4_listSomeSteps ) (47, [.ref v0, .int v1, .int v2], σ)
theorem E_X4_listSomeSteps_0 {v0 : Nat} {v1 : Int32} {σ : sS} : R_X4_listSomeSteps_0 v0 v1 σ = (R_X4_listSomeSteps_2 v0 v1 0 σ) := by
  unfold R_X4_listSomeSteps_0
  rw [s_run_eq]
  show s_go _ _ (T_X4_listSomeSteps_0 v0 v1 σ) = _
  unfold T_X4_listSomeSteps_0
  simp only [s_go_bind, s_go_ite, s_go_sum, s_go_l, s_go_r, s_go_n]
  try rfl
theorem E_X4_listSomeSteps_2 {v0 : Nat} {v1 : Int32} {v2 : Int32} {σ : sS} : R_X4_listSomeSteps_2 v0 v1 v2 σ = ((s_fr σ v0 4 1).bind fun x1 =>
  (s_fi σ x1 1 0).bind fun x2 =>
  if x2 ≤ v2 then (some ((), σ))
  else ((s_fr σ v0 4 0).bind fun x3 =>
  (s_fr σ v0 4 2).bind fun x4 =>
  (s_ai σ x4 v1).bind fun x5 =>
  (F_X2_placedOf x3 x5 v2 σ).bind fun q6 =>
  (F_X4_placeOf v0 q6.1 q6.2).bind fun q7 =>
  if q7.1 = (-1) then (R_X4_listSomeSteps_47 v0 v1 v2 q7.2)
  else ((F_X4_addStep v0 13 v1 q7.1 (-1) (-1) q7.2).bind fun q8 =>
  R_X4_listSomeSteps_47 v0 v1 v2 q8.2))) := by
  unfold R_X4_listSomeSteps_2
  rw [s_run_eq]
  show s_go _ _ (T_X4_listSomeSteps_2 v0 v1 v2 σ) = _
  unfold T_X4_listSomeSteps_2
  simp only [s_go_bind, s_go_ite, s_go_sum, s_go_l, s_go_r, s_go_n]
  try rfl
theorem E_X4_listSomeSteps_47 {v0 : Nat} {v1 : Int32} {v2 : Int32} {σ : sS} : R_X4_listSomeSteps_47 v0 v1 v2 σ = (R_X4_listSomeSteps_2 v0 v1 (v2 + 1) σ) := by
  unfold R_X4_listSomeSteps_47
  rw [s_run_eq]
  show s_go _ _ (T_X4_listSomeSteps_47 v0 v1 v2 σ) = _
  unfold T_X4_listSomeSteps_47
  simp only [s_go_bind, s_go_ite, s_go_sum, s_go_l, s_go_r, s_go_n]
  try rfl
theorem E_X4_listSomeSteps {v0 : Nat} {v1 : Int32} {σ : sS} : F_X4_listSomeSteps v0 v1 σ = ((s_is σ v0 4).bind fun _ => R_X4_listSomeSteps_0 v0 v1 σ) := rfl
/-! X4_listAndSteps -/
noncomputable def R_X4_listAndSteps_0 (v0 : Nat) (v1 : Int32) (v2 : Int32) (v3 : Int32) (σ : sS) : Option (Unit × sS) := s_run (S_X4_listAndSteps ) (0, [.ref v0, .int v1, .int v2, .int v3], σ)
noncomputable def R_X4_listAndSteps_19 (v0 : Nat) (v1 : Int32) (v2 : Int32) (v3 : Int32) (σ : sS) : Option (Unit × sS) := s_run (S_X4_listAndSteps ) (19, [.ref v0, .int v1, .int v2, .int v3], σ)
theorem E_X4_listAndSteps_0 {v0 : Nat} {v1 : Int32} {v2 : Int32} {v3 : Int32} {σ : sS} : R_X4_listAndSteps_0 v0 v1 v2 v3 σ = (if v2 = (-1) then (R_X4_listAndSteps_19 v0 v1 v2 v3 σ)
  else (if v3 = (-1) then (R_X4_listAndSteps_19 v0 v1 v2 v3 σ)
  else ((F_X4_addStep v0 2 v1 v2 v3 (-1) σ).bind fun q1 =>
  R_X4_listAndSteps_19 v0 v1 v2 v3 q1.2))) := by
  unfold R_X4_listAndSteps_0
  rw [s_run_eq]
  show s_go _ _ (T_X4_listAndSteps_0 v0 v1 v2 v3 σ) = _
  unfold T_X4_listAndSteps_0
  simp only [s_go_bind, s_go_ite, s_go_sum, s_go_l, s_go_r, s_go_n]
  try rfl
theorem E_X4_listAndSteps_19 {v0 : Nat} {v1 : Int32} {v2 : Int32} {v3 : Int32} {σ : sS} : R_X4_listAndSteps_19 v0 v1 v2 v3 σ = ((F_X4_addStep v0 3 v2 v1 (-1) (-1) σ).bind fun q1 =>
  (F_X4_addStep v0 4 v3 v1 (-1) (-1) q1.2).bind fun q2 =>
  some ((), q2.2)) := by
  unfold R_X4_listAndSteps_19
  rw [s_run_eq]
  show s_go _ _ (T_X4_listAndSteps_19 v0 v1 v2 v3 σ) = _
  unfold T_X4_listAndSteps_19
  simp only [s_go_bind, s_go_ite, s_go_sum, s_go_l, s_go_r, s_go_n]
  try rfl
theorem E_X4_listAndSteps {v0 : Nat} {v1 : Int32} {v2 : Int32} {v3 : Int32} {σ : sS} : F_X4_listAndSteps v0 v1 v2 v3 σ = ((s_is σ v0 4).bind fun _ => R_X4_listAndSteps_0 v0 v1 v2 v3 σ) := rfl
/-! X4_listSteps -/
noncomputable def R_X4_listSteps_0 (v0 : Nat) (v1 : Int32) (σ : sS) : Option (Unit × sS) := s_run (S_X4_listSteps ) (0, [.ref v0, .int v1], σ)
theorem E_X4_listSteps_0 {v0 : Nat} {v1 : Int32} {σ : sS} : R_X4_listSteps_0 v0 v1 σ = ((s_fr σ v0 4 2).bind fun x1 =>
  (s_ai σ x1 v1).bind fun x2 =>
  (s_fr σ v0 4 0).bind fun x3 =>
  (F_X2_firstOf x3 x2 σ).bind fun q4 =>
  (F_X4_placeOf v0 q4.1 q4.2).bind fun q5 =>
  (s_fr q5.2 v0 4 0).bind fun x6 =>
  (F_X2_secondOf x6 x2 q5.2).bind fun q7 =>
  (F_X4_placeOf v0 q7.1 q7.2).bind fun q8 =>
  (s_fr q8.2 v0 4 0).bind fun x9 =>
  (F_X2_kindOf x9 x2 q8.2).bind fun q10 =>
  if q10.1 = 1 then ((s_fr q10.2 v0 4 0).bind fun x11 =>
  (F_X2_firstOf x11 x2 q10.2).bind fun q12 =>
  (s_fr q12.2 v0 4 0).bind fun x13 =>
  (F_X2_kindOf x13 q12.1 q12.2).bind fun q14 =>
  if q14.1 = 1 then ((s_fr q14.2 v0 4 0).bind fun x15 =>
  (F_X2_firstOf x15 q12.1 q14.2).bind fun q16 =>
  (F_X4_placeOf v0 q16.1 q16.2).bind fun q17 =>
  (F_X4_addStep v0 8 q17.1 v1 (-1) (-1) q17.2).bind fun q18 =>
  some ((), q18.2))
  else (some ((), q14.2)))
  else if q10.1 = 2 then ((F_X4_listAndSteps v0 v1 q5.1 q8.1 q10.2).bind fun q19 =>
  some ((), q19.2))
  else if q10.1 = 3 then ((F_X4_listOrSteps v0 v1 q5.1 q8.1 q10.2).bind fun q20 =>
  some ((), q20.2))
  else if q10.1 = 4 then ((F_X4_listIfSteps v0 v1 q5.1 q8.1 q10.2).bind fun q21 =>
  some ((), q21.2))
  else if q10.1 = 5 then ((F_X4_listAllSteps v0 v1 q10.2).bind fun q22 =>
  some ((), q22.2))
  else if q10.1 = 6 then ((F_X4_listSomeSteps v0 v1 q10.2).bind fun q23 =>
  some ((), q23.2))
  else (some ((), q10.2))) := by
  unfold R_X4_listSteps_0
  rw [s_run_eq]
  show s_go _ _ (T_X4_listSteps_0 v0 v1 σ) = _
  unfold T_X4_listSteps_0
  simp only [s_go_bind, s_go_ite, s_go_sum, s_go_l, s_go_r, s_go_n]
  try rfl
theorem E_X4_listSteps {v0 : Nat} {v1 : Int32} {σ : sS} : F_X4_listSteps v0 v1 σ = ((s_is σ v0 4).bind fun _ => R_X4_listSteps_0 v0 v1 σ) := rfl
/-! X4_prepare -/
noncomputable def R_X4_prepare_0 (v0 : Nat) (v1 : Int32) (v2 : Int32) (σ : sS) : Option (Unit × sS) := s_run (S_X4_prepare ) (0, [.ref v0, .int v1, .int v2], σ)
noncomputable def R_X4_prepare_35 (v0 : Nat) (v3 : Int32) (σ : sS) : Option (Unit × sS) := s_run (S_X4_prepare ) (35, [.ref v0, .int v3], σ)
noncomputable def R_X4_prepare_70 (v0 : Nat) (v3 : Int32) (σ : sS) : Option (Unit × sS) := s_run (S_X4_prepare ) (70, [.ref v0, .int v3], σ)
noncomputable def R_X4_prepare_78 (v0 : Nat) (v3 : Int32) (σ : sS) : Option (Unit × sS) := s_run (S_X4_prepare ) (78, [.ref v0, .int v3], σ)
noncomputable def R_X4_prepare_104 (v0 : Nat) (v3 : Int32) (σ : sS) : Option (Unit × sS) := s_run (S_X4_prepare ) (104, [.ref v0, .int v3], σ)
theorem E_X4_prepare_0 {v0 : Nat} {v1 : Int32} {v2 : Int32} {σ : sS} : R_X4_prepare_0 v0 v1 v2 σ = ((s_fr σ v0 4 1).bind fun x1 =>
  (F_X1_toldTo x1 v1 σ).bind fun q2 =>
  (s_pf q2.2 v0 4 11 (.int q2.1)).bind fun σ3 =>
  (s_pf σ3 v0 4 8 (.int 0)).bind fun σ4 =>
  (s_pf σ4 v0 4 9 (.int 0)).bind fun σ5 =>
  (s_pf σ5 v0 4 10 (.int 0)).bind fun σ6 =>
  (F_X4_lookAt 64 v0 v2 0 σ6).bind fun q7 =>
  R_X4_prepare_35 v0 0 q7.2) := by
  unfold R_X4_prepare_0
  rw [s_run_eq]
  show s_go _ _ (T_X4_prepare_0 v0 v1 v2 σ) = _
  unfold T_X4_prepare_0
  simp only [s_go_bind, s_go_ite, s_go_sum, s_go_l, s_go_r, s_go_n]
  try rfl
theorem E_X4_prepare_35 {v0 : Nat} {v3 : Int32} {σ : sS} : R_X4_prepare_35 v0 v3 σ = ((s_fr σ v0 4 1).bind fun x1 =>
  (s_fi σ x1 1 2).bind fun x2 =>
  if x2 ≤ v3 then (R_X4_prepare_78 v0 0 σ)
  else ((s_fi σ v0 4 11).bind fun x3 =>
  if ((x3 >>> (v3 &&& 31)) &&& 1) = 0 then (R_X4_prepare_70 v0 v3 σ)
  else ((s_fr σ v0 4 1).bind fun x4 =>
  (F_X1_nodeOf x4 v3 σ).bind fun q5 =>
  (F_X4_lookAt 64 v0 q5.1 0 q5.2).bind fun q6 =>
  R_X4_prepare_70 v0 v3 q6.2))) := by
  unfold R_X4_prepare_35
  rw [s_run_eq]
  show s_go _ _ (T_X4_prepare_35 v0 v3 σ) = _
  unfold T_X4_prepare_35
  simp only [s_go_bind, s_go_ite, s_go_sum, s_go_l, s_go_r, s_go_n]
  try rfl
theorem E_X4_prepare_70 {v0 : Nat} {v3 : Int32} {σ : sS} : R_X4_prepare_70 v0 v3 σ = (R_X4_prepare_35 v0 (v3 + 1) σ) := by
  unfold R_X4_prepare_70
  rw [s_run_eq]
  show s_go _ _ (T_X4_prepare_70 v0 v3 σ) = _
  unfold T_X4_prepare_70
  simp only [s_go_bind, s_go_ite, s_go_sum, s_go_l, s_go_r, s_go_n]
  try rfl
theorem E_X4_prepare_78 {v0 : Nat} {v3 : Int32} {σ : sS} : R_X4_prepare_78 v0 v3 σ = ((s_fi σ v0 4 8).bind fun x1 =>
  if x1 ≤ v3 then (R_X4_prepare_104 v0 0 σ)
  else ((s_fr σ v0 4 2).bind fun x2 =>
  (s_ai σ x2 v3).bind fun x3 =>
  (F_X4_listAssumed v0 x3 σ).bind fun q4 =>
  R_X4_prepare_78 v0 (v3 + 1) q4.2)) := by
  unfold R_X4_prepare_78
  rw [s_run_eq]
  show s_go _ _ (T_X4_prepare_78 v0 v3 σ) = _
  unfold T_X4_prepare_78
  simp only [s_go_bind, s_go_ite, s_go_sum, s_go_l, s_go_r, s_go_n]
  try rfl
theorem E_X4_prepare_104 {v0 : Nat} {v3 : Int32} {σ : sS} : R_X4_prepare_104 v0 v3 σ = ((s_fi σ v0 4 8).bind fun x1 =>
  if x1 ≤ v3 then (some ((), σ))
  else ((F_X4_listSteps v0 v3 σ).bind fun q2 =>
  R_X4_prepare_104 v0 (v3 + 1) q2.2)) := by
  unfold R_X4_prepare_104
  rw [s_run_eq]
  show s_go _ _ (T_X4_prepare_104 v0 v3 σ) = _
  unfold T_X4_prepare_104
  simp only [s_go_bind, s_go_ite, s_go_sum, s_go_l, s_go_r, s_go_n]
  try rfl
theorem E_X4_prepare {v0 : Nat} {v1 : Int32} {v2 : Int32} {σ : sS} : F_X4_prepare v0 v1 v2 σ = ((s_is σ v0 4).bind fun _ => R_X4_prepare_0 v0 v1 v2 σ) := rfl
/-! X7_needProof -/
noncomputable def R_X7_needProof_0 (v0 : Nat) (v1 : Int32) (v2 : Int32) (v3 : Int32) (σ : sS) : Option ((Unit ⊕ String) × sS) := s_run (S_X7_needProof ) (0, [.ref v0, .int v1, .int v2, .int v3], σ)
theorem E_X7_needProof_0 {v0 : Nat} {v1 : Int32} {v2 : Int32} {v3 : Int32} {σ : sS} : R_X7_needProof_0 v0 v1 v2 v3 σ = ((F_X7_needHouse v0 v1 σ).bind fun q1 => s_sum q1.1 (fun x2 => (F_X7_needCustomer v0 v2 q1.2).bind fun q4 => s_sum q4.1 (fun x5 => (F_X7_needFormula v0 v3 q4.2).bind fun q7 => s_sum q7.1 (fun x8 => (s_fr q7.2 v0 7 6).bind fun x10 =>
  (s_fr q7.2 v0 7 1).bind fun x11 =>
  (F_X1_nodeOf x11 v3 q7.2).bind fun q12 =>
  (F_X4_prepare x10 v2 q12.1 q12.2).bind fun q13 =>
  some (.inl (), q13.2)) (fun E9 => some (.inr E9, q7.2))) (fun E6 => some (.inr E6, q4.2))) (fun E3 => some (.inr E3, q1.2))) := by
  unfold R_X7_needProof_0
  rw [s_run_eq]
  show s_go _ _ (T_X7_needProof_0 v0 v1 v2 v3 σ) = _
  unfold T_X7_needProof_0
  simp only [s_go_bind, s_go_ite, s_go_sum, s_go_l, s_go_r, s_go_n]
  try rfl
theorem E_X7_needProof {v0 : Nat} {v1 : Int32} {v2 : Int32} {v3 : Int32} {σ : sS} : F_X7_needProof v0 v1 v2 v3 σ = ((s_is σ v0 7).bind fun _ => R_X7_needProof_0 v0 v1 v2 v3 σ) := rfl
/-! X1_hasRule -/
noncomputable def R_X1_hasRule_0 (v0 : Nat) (v1 : Int32) (v2 : Int32) (σ : sS) : Option (Int32 × sS) := s_run (S_X1_hasRule ) (0, [.ref v0, .int v1, .int v2], σ)
theorem E_X1_hasRule_0 {v0 : Nat} {v1 : Int32} {v2 : Int32} {σ : sS} : R_X1_hasRule_0 v0 v1 v2 σ = (if v1 < 0 then (some (0, σ))
  else (if (3 : Int32) ≤ v1 then (some (0, σ))
  else ((s_fr σ v0 1 4).bind fun x1 =>
  (s_ai σ x1 v1).bind fun x2 =>
  if ((x2 >>> (v2 &&& 31)) &&& 1) = 0 then (some (0, σ))
  else (some (1, σ))))) := by
  unfold R_X1_hasRule_0
  rw [s_run_eq]
  show s_go _ _ (T_X1_hasRule_0 v0 v1 v2 σ) = _
  unfold T_X1_hasRule_0
  simp only [s_go_bind, s_go_ite, s_go_sum, s_go_l, s_go_r, s_go_n]
  try rfl
theorem E_X1_hasRule {v0 : Nat} {v1 : Int32} {v2 : Int32} {σ : sS} : F_X1_hasRule v0 v1 v2 σ = ((s_is σ v0 1).bind fun _ => R_X1_hasRule_0 v0 v1 v2 σ) := rfl
/-! X1_priceOf -/
noncomputable def R_X1_priceOf_0 (v0 : Nat) (v1 : Int32) (v2 : Int32) (σ : sS) : Option (Int32 × sS) := s_run (S_X1_priceOf ) (0, [.ref v0, .int v1, .int v2], σ)
noncomputable def R_X1_priceOf_23 (v0 : Nat) (v1 : Int32) (v2 : Int32) (σ : sS) : Option (Int32 × sS) := s_run (S_X1_priceOf ) (23, [.ref v0, .int v1, .int v2], σ)
noncomputable def R_X1_priceOf_24 (v0 : Nat) (v1 : Int32) (v2 : Int32) (w0 : Int32) (σ : sS) : Option (Int32 × sS) := s_run (S_X1_priceOf ) (24, [.ref v0, .int v1, .int v2, .int w0], σ)
theorem E_X1_priceOf_0 {v0 : Nat} {v1 : Int32} {v2 : Int32} {σ : sS} : R_X1_priceOf_0 v0 v1 v2 σ = (if v1 < 0 then (R_X1_priceOf_23 v0 v1 v2 σ)
  else (if (3 : Int32) ≤ v1 then (R_X1_priceOf_23 v0 v1 v2 σ)
  else (if v2 < 0 then (R_X1_priceOf_23 v0 v1 v2 σ)
  else (if (17 : Int32) ≤ v2 then (R_X1_priceOf_23 v0 v1 v2 σ)
  else (R_X1_priceOf_24 v0 v1 v2 1 σ))))) := by
  unfold R_X1_priceOf_0
  rw [s_run_eq]
  show s_go _ _ (T_X1_priceOf_0 v0 v1 v2 σ) = _
  unfold T_X1_priceOf_0
  simp only [s_go_bind, s_go_ite, s_go_sum, s_go_l, s_go_r, s_go_n]
  try rfl
theorem E_X1_priceOf_23 {v0 : Nat} {v1 : Int32} {v2 : Int32} {σ : sS} : R_X1_priceOf_23 v0 v1 v2 σ = (R_X1_priceOf_24 v0 v1 v2 0 σ) := by
  unfold R_X1_priceOf_23
  rw [s_run_eq]
  show s_go _ _ (T_X1_priceOf_23 v0 v1 v2 σ) = _
  unfold T_X1_priceOf_23
  simp only [s_go_bind, s_go_ite, s_go_sum, s_go_l, s_go_r, s_go_n]
  try rfl
theorem E_X1_priceOf_24 {v0 : Nat} {v1 : Int32} {v2 : Int32} {w0 : Int32} {σ : sS} : R_X1_priceOf_24 v0 v1 v2 w0 σ = (if w0 = 0 then (some (0, σ))
  else ((s_fr σ v0 1 12).bind fun x1 =>
  (s_ai σ x1 ((v1 * 17) + v2)).bind fun x2 =>
  some (x2, σ))) := by
  unfold R_X1_priceOf_24
  rw [s_run_eq]
  show s_go _ _ (T_X1_priceOf_24 v0 v1 v2 w0 σ) = _
  unfold T_X1_priceOf_24
  simp only [s_go_bind, s_go_ite, s_go_sum, s_go_l, s_go_r, s_go_n]
  try rfl
theorem E_X1_priceOf {v0 : Nat} {v1 : Int32} {v2 : Int32} {σ : sS} : F_X1_priceOf v0 v1 v2 σ = ((s_is σ v0 1).bind fun _ => R_X1_priceOf_0 v0 v1 v2 σ) := rfl
/-! X1_isAmong -/
noncomputable def R_X1_isAmong_0 (v0 : Nat) (v1 : Int32) (v2 : Int32) (σ : sS) : Option (Int32 × sS) := s_run (S_X1_isAmong ) (0, [.ref v0, .int v1, .int v2], σ)
noncomputable def R_X1_isAmong_2 (v0 : Nat) (v1 : Int32) (v2 : Int32) (v3 : Int32) (σ : sS) : Option (Int32 × sS) := s_run (S_X1_isAmong ) (2, [.ref v0, .int v1, .int v2, .int v3], σ)
noncomputable def R_X1_isAmong_30 (v0 : Nat) (v1 : Int32) (v2 : Int32) (v3 : Int32) (σ : sS) : Option (Int32 × sS) := s_run (S_X1_isAmong ) (30, [.ref v0, .int v1, .int v2, .int v3], σ)
theorem E_X1_isAmong_0 {v0 : Nat} {v1 : Int32} {v2 : Int32} {σ : sS} : R_X1_isAmong_0 v0 v1 v2 σ = (R_X1_isAmong_2 v0 v1 v2 0 σ) := by
  unfold R_X1_isAmong_0
  rw [s_run_eq]
  show s_go _ _ (T_X1_isAmong_0 v0 v1 v2 σ) = _
  unfold T_X1_isAmong_0
  simp only [s_go_bind, s_go_ite, s_go_sum, s_go_l, s_go_r, s_go_n]
  try rfl
theorem E_X1_isAmong_2 {v0 : Nat} {v1 : Int32} {v2 : Int32} {v3 : Int32} {σ : sS} : R_X1_isAmong_2 v0 v1 v2 v3 σ = ((s_fi σ v0 1 2).bind fun x1 =>
  if x1 ≤ v3 then (some (0, σ))
  else (if ((v1 >>> (v3 &&& 31)) &&& 1) = 0 then (R_X1_isAmong_30 v0 v1 v2 v3 σ)
  else ((s_fr σ v0 1 11).bind fun x2 =>
  (s_ai σ x2 v3).bind fun x3 =>
  if x3 = v2 then (some (1, σ))
  else (R_X1_isAmong_30 v0 v1 v2 v3 σ)))) := by
  unfold R_X1_isAmong_2
  rw [s_run_eq]
  show s_go _ _ (T_X1_isAmong_2 v0 v1 v2 v3 σ) = _
  unfold T_X1_isAmong_2
  simp only [s_go_bind, s_go_ite, s_go_sum, s_go_l, s_go_r, s_go_n]
  try rfl
theorem E_X1_isAmong_30 {v0 : Nat} {v1 : Int32} {v2 : Int32} {v3 : Int32} {σ : sS} : R_X1_isAmong_30 v0 v1 v2 v3 σ = (R_X1_isAmong_2 v0 v1 v2 (v3 + 1) σ) := by
  unfold R_X1_isAmong_30
  rw [s_run_eq]
  show s_go _ _ (T_X1_isAmong_30 v0 v1 v2 v3 σ) = _
  unfold T_X1_isAmong_30
  simp only [s_go_bind, s_go_ite, s_go_sum, s_go_l, s_go_r, s_go_n]
  try rfl
theorem E_X1_isAmong {v0 : Nat} {v1 : Int32} {v2 : Int32} {σ : sS} : F_X1_isAmong v0 v1 v2 σ = ((s_is σ v0 1).bind fun _ => R_X1_isAmong_0 v0 v1 v2 σ) := rfl
/-! X4_lineCost -/
noncomputable def R_X4_lineCost_0 (v0 : Nat) (v1 : Int32) (v2 : Int32) (σ : sS) : Option (Int32 × sS) := s_run (S_X4_lineCost ) (0, [.ref v0, .int v1, .int v2], σ)
noncomputable def R_X4_lineCost_26 (v0 : Nat) (v1 : Int32) (v2 : Int32) (σ : sS) : Option (Int32 × sS) := s_run (S_X4_lineCost ) (26, [.ref v0, .int v1, .int v2], σ)
noncomputable def R_X4_lineCost_27 (v0 : Nat) (v1 : Int32) (v2 : Int32) (w0 : Int32) (σ : sS) : Option (Int32 × sS) := s_run (S_X4_lineCost ) (27, [.ref v0, .int v1, .int v2, .int w0], σ)
noncomputable def R_X4_lineCost_43  (σ : sS) : Option (Int32 × sS) := s_run (S_X4_lineCost ) (43, [], σ)
theorem E_X4_lineCost_0 {v0 : Nat} {v1 : Int32} {v2 : Int32} {σ : sS} : R_X4_lineCost_0 v0 v1 v2 σ = (if v1 < 0 then (R_X4_lineCost_26 v0 v1 v2 σ)
  else (if (16 : Int32) ≤ v1 then (R_X4_lineCost_26 v0 v1 v2 σ)
  else (if v2 < 0 then (R_X4_lineCost_26 v0 v1 v2 σ)
  else ((s_fi σ v0 4 8).bind fun x1 =>
  if x1 ≤ v2 then (R_X4_lineCost_26 v0 v1 v2 σ)
  else (R_X4_lineCost_27 v0 v1 v2 1 σ))))) := by
  unfold R_X4_lineCost_0
  rw [s_run_eq]
  show s_go _ _ (T_X4_lineCost_0 v0 v1 v2 σ) = _
  unfold T_X4_lineCost_0
  simp only [s_go_bind, s_go_ite, s_go_sum, s_go_l, s_go_r, s_go_n]
  try rfl
theorem E_X4_lineCost_26 {v0 : Nat} {v1 : Int32} {v2 : Int32} {σ : sS} : R_X4_lineCost_26 v0 v1 v2 σ = (R_X4_lineCost_27 v0 v1 v2 0 σ) := by
  unfold R_X4_lineCost_26
  rw [s_run_eq]
  show s_go _ _ (T_X4_lineCost_26 v0 v1 v2 σ) = _
  unfold T_X4_lineCost_26
  simp only [s_go_bind, s_go_ite, s_go_sum, s_go_l, s_go_r, s_go_n]
  try rfl
theorem E_X4_lineCost_27 {v0 : Nat} {v1 : Int32} {v2 : Int32} {w0 : Int32} {σ : sS} : R_X4_lineCost_27 v0 v1 v2 w0 σ = (if w0 = 0 then (R_X4_lineCost_43  σ)
  else ((s_fr σ v0 4 4).bind fun x1 =>
  (s_ai σ x1 v1).bind fun x2 =>
  if x2 = 268435456 then (R_X4_lineCost_43  σ)
  else ((s_fr σ v0 4 4).bind fun x3 =>
  (s_ai σ x3 v1).bind fun x4 =>
  (s_fr σ v0 4 3).bind fun x5 =>
  (s_ai σ x5 v2).bind fun x6 =>
  (s_fi σ v0 4 12).bind fun x7 =>
  some ((x4 + (x6 * x7)), σ)))) := by
  unfold R_X4_lineCost_27
  rw [s_run_eq]
  show s_go _ _ (T_X4_lineCost_27 v0 v1 v2 w0 σ) = _
  unfold T_X4_lineCost_27
  simp only [s_go_bind, s_go_ite, s_go_sum, s_go_l, s_go_r, s_go_n]
  try rfl
theorem E_X4_lineCost_43  {σ : sS} : R_X4_lineCost_43  σ = (some (268435456, σ)) := by
  unfold R_X4_lineCost_43
  rw [s_run_eq]
  show s_go _ _ (T_X4_lineCost_43  σ) = _
  unfold T_X4_lineCost_43
  simp only [s_go_bind, s_go_ite, s_go_sum, s_go_l, s_go_r, s_go_n]
  try rfl
theorem E_X4_lineCost {v0 : Nat} {v1 : Int32} {v2 : Int32} {σ : sS} : F_X4_lineCost v0 v1 v2 σ = ((s_is σ v0 4).bind fun _ => R_X4_lineCost_0 v0 v1 v2 σ) := rfl
/-! X4_costAlone -/
noncomputable def R_X4_costAlone_0 (v0 : Nat) (v1 : Int32) (v2 : Int32) (σ : sS) : Option (Int32 × sS) := s_run (S_X4_costAlone ) (0, [.ref v0, .int v1, .int v2], σ)
noncomputable def R_X4_costAlone_30 (v0 : Nat) (v1 : Int32) (v2 : Int32) (v3 : Int32) (σ : sS) : Option (Int32 × sS) := s_run (S_X4_costAlone ) (30, [.ref v0, .int v1, .int v2, .int v3], σ)
theorem E_X4_costAlone_0 {v0 : Nat} {v1 : Int32} {v2 : Int32} {σ : sS} : R_X4_costAlone_0 v0 v1 v2 σ = ((s_fr σ v0 4 1).bind fun x1 =>
  (s_fi σ v0 4 11).bind fun x2 =>
  (s_fr σ v0 4 2).bind fun x3 =>
  (s_ai σ x3 v2).bind fun x4 =>
  (F_X1_isAmong x1 x2 x4 σ).bind fun q5 =>
  if q5.1 = 0 then (R_X4_costAlone_30 v0 v1 v2 268435456 q5.2)
  else ((F_X4_lineCost v0 0 v2 q5.2).bind fun q6 =>
  R_X4_costAlone_30 v0 v1 v2 q6.1 q6.2)) := by
  unfold R_X4_costAlone_0
  rw [s_run_eq]
  show s_go _ _ (T_X4_costAlone_0 v0 v1 v2 σ) = _
  unfold T_X4_costAlone_0
  simp only [s_go_bind, s_go_ite, s_go_sum, s_go_l, s_go_r, s_go_n]
  try rfl
theorem E_X4_costAlone_30 {v0 : Nat} {v1 : Int32} {v2 : Int32} {v3 : Int32} {σ : sS} : R_X4_costAlone_30 v0 v1 v2 v3 σ = ((F_X4_slotOf v0 v2 σ).bind fun q1 =>
  if q1.1 = (-1) then (some (v3, q1.2))
  else (if ((v1 >>> (q1.1 &&& 31)) &&& 1) = 0 then (some (v3, q1.2))
  else ((F_X4_lineCost v0 1 v2 q1.2).bind fun q2 =>
  some ((if q2.1 < v3 then q2.1 else v3), q2.2)))) := by
  unfold R_X4_costAlone_30
  rw [s_run_eq]
  show s_go _ _ (T_X4_costAlone_30 v0 v1 v2 v3 σ) = _
  unfold T_X4_costAlone_30
  simp only [s_go_bind, s_go_ite, s_go_sum, s_go_l, s_go_r, s_go_n]
  try rfl
theorem E_X4_costAlone {v0 : Nat} {v1 : Int32} {v2 : Int32} {σ : sS} : F_X4_costAlone v0 v1 v2 σ = ((s_is σ v0 4).bind fun _ => R_X4_costAlone_0 v0 v1 v2 σ) := rfl
/-! X4_costAt -/
noncomputable def R_X4_costAt_0 (v0 : Nat) (v1 : Int32) (v2 : Int32) (σ : sS) : Option (Int32 × sS) := s_run (S_X4_costAt ) (0, [.ref v0, .int v1, .int v2], σ)
noncomputable def R_X4_costAt_29  (σ : sS) : Option (Int32 × sS) := s_run (S_X4_costAt ) (29, [], σ)
theorem E_X4_costAt_0 {v0 : Nat} {v1 : Int32} {v2 : Int32} {σ : sS} : R_X4_costAt_0 v0 v1 v2 σ = (if ((v1 * 40) + v2) < 0 then (R_X4_costAt_29  σ)
  else ((s_fr σ v0 4 7).bind fun x1 =>
  (s_len σ x1).bind fun x2 =>
  if x2 ≤ ((v1 * 40) + v2) then (R_X4_costAt_29  σ)
  else ((s_fr σ v0 4 7).bind fun x3 =>
  (s_ai σ x3 ((v1 * 40) + v2)).bind fun x4 =>
  some (x4, σ)))) := by
  unfold R_X4_costAt_0
  rw [s_run_eq]
  show s_go _ _ (T_X4_costAt_0 v0 v1 v2 σ) = _
  unfold T_X4_costAt_0
  simp only [s_go_bind, s_go_ite, s_go_sum, s_go_l, s_go_r, s_go_n]
  try rfl
theorem E_X4_costAt_29  {σ : sS} : R_X4_costAt_29  σ = (some (268435456, σ)) := by
  unfold R_X4_costAt_29
  rw [s_run_eq]
  show s_go _ _ (T_X4_costAt_29  σ) = _
  unfold T_X4_costAt_29
  simp only [s_go_bind, s_go_ite, s_go_sum, s_go_l, s_go_r, s_go_n]
  try rfl
theorem E_X4_costAt {v0 : Nat} {v1 : Int32} {v2 : Int32} {σ : sS} : F_X4_costAt v0 v1 v2 σ = ((s_is σ v0 4).bind fun _ => R_X4_costAt_0 v0 v1 v2 σ) := rfl
/-! X4_limited -/
noncomputable def R_X4_limited_0 (v0 : Int32) (σ : sS) : Option (Int32 × sS) := s_run (S_X4_limited ) (0, [.int v0], σ)
theorem E_X4_limited_0 {v0 : Int32} {σ : sS} : R_X4_limited_0 v0 σ = (if v0 ≤ 99999 then (some (v0, σ))
  else (some (268435456, σ))) := by
  unfold R_X4_limited_0
  rw [s_run_eq]
  show s_go _ _ (T_X4_limited_0 v0 σ) = _
  unfold T_X4_limited_0
  simp only [s_go_bind, s_go_ite, s_go_sum, s_go_l, s_go_r, s_go_n]
  try rfl
theorem E_X4_limited {v0 : Int32} {σ : sS} : F_X4_limited v0 σ = (R_X4_limited_0 v0 σ) := rfl
/-! X4_costOfGiven -/
noncomputable def R_X4_costOfGiven_0 (v0 : Nat) (v1 : Int32) (v2 : Int32) (v3 : Int32) (v4 : Int32) (σ : sS) : Option (Int32 × sS) := s_run (S_X4_costOfGiven ) (0, [.ref v0, .int v1, .int v2, .int v3, .int v4], σ)
noncomputable def R_X4_costOfGiven_25  (σ : sS) : Option (Int32 × sS) := s_run (S_X4_costOfGiven ) (25, [], σ)
theorem E_X4_costOfGiven_0 {v0 : Nat} {v1 : Int32} {v2 : Int32} {v3 : Int32} {v4 : Int32} {σ : sS} : R_X4_costOfGiven_0 v0 v1 v2 v3 v4 σ = (if v4 < 0 then (R_X4_costOfGiven_25  σ)
  else ((s_fi σ v0 4 9).bind fun x1 =>
  if x1 ≤ v4 then (R_X4_costOfGiven_25  σ)
  else ((s_fr σ v0 4 4).bind fun x2 =>
  (s_ai σ x2 1).bind fun x3 =>
  if x3 = 268435456 then (R_X4_costOfGiven_25  σ)
  else ((s_fr σ v0 4 5).bind fun x4 =>
  (s_ai σ x4 v4).bind fun x5 =>
  (F_X4_lineCost v0 1 x5 σ).bind fun q6 =>
  (F_X4_costAt v0 (v1 ||| (1 <<< (v4 &&& 31))) v3 q6.2).bind fun q7 =>
  (F_X4_limited ((v2 + q6.1) + q7.1) q7.2).bind fun q8 =>
  some (q8.1, q8.2))))) := by
  unfold R_X4_costOfGiven_0
  rw [s_run_eq]
  show s_go _ _ (T_X4_costOfGiven_0 v0 v1 v2 v3 v4 σ) = _
  unfold T_X4_costOfGiven_0
  simp only [s_go_bind, s_go_ite, s_go_sum, s_go_l, s_go_r, s_go_n]
  try rfl
theorem E_X4_costOfGiven_25  {σ : sS} : R_X4_costOfGiven_25  σ = (some (268435456, σ)) := by
  unfold R_X4_costOfGiven_25
  rw [s_run_eq]
  show s_go _ _ (T_X4_costOfGiven_25  σ) = _
  unfold T_X4_costOfGiven_25
  simp only [s_go_bind, s_go_ite, s_go_sum, s_go_l, s_go_r, s_go_n]
  try rfl
theorem E_X4_costOfGiven {v0 : Nat} {v1 : Int32} {v2 : Int32} {v3 : Int32} {v4 : Int32} {σ : sS} : F_X4_costOfGiven v0 v1 v2 v3 v4 σ = ((s_is σ v0 4).bind fun _ => R_X4_costOfGiven_0 v0 v1 v2 v3 v4 σ) := rfl
/-! X4_costOfStep -/
noncomputable def R_X4_costOfStep_0 (v0 : Nat) (v1 : Int32) (v2 : Int32) (σ : sS) : Option (Int32 × sS) := s_run (S_X4_costOfStep ) (0, [.ref v0, .int v1, .int v2], σ)
noncomputable def R_X4_costOfStep_76 (v0 : Nat) (v1 : Int32) (v3 : Int32) (v6 : Int32) (v7 : Int32) (σ : sS) : Option (Int32 × sS) := s_run (S_X4_costOfStep ) (76, [.ref v0, .int v1, .int v3, .int v6, .int v7], σ)
noncomputable def R_X4_costOfStep_114 (v0 : Nat) (v1 : Int32) (v3 : Int32) (v6 : Int32) (v7 : Int32) (σ : sS) : Option (Int32 × sS) := s_run (S_X4_costOfStep ) (114, [.ref v0, .int v1, .int v3, .int v6, .int v7], σ)
theorem E_X4_costOfStep_0 {v0 : Nat} {v1 : Int32} {v2 : Int32} {σ : sS} : R_X4_costOfStep_0 v0 v1 v2 σ = ((s_fr σ v0 4 6).bind fun x1 =>
  (s_ai σ x1 (v2 * 5)).bind fun x2 =>
  (s_fr σ v0 4 6).bind fun x3 =>
  (s_ai σ x3 ((v2 * 5) + 1)).bind fun x4 =>
  (F_X4_lineCost v0 x2 x4 σ).bind fun q5 =>
  if q5.1 = 268435456 then (some (268435456, q5.2))
  else (if x2 = 10 then ((s_fr q5.2 v0 4 6).bind fun x6 =>
  (s_ai q5.2 x6 ((v2 * 5) + 2)).bind fun x7 =>
  (s_fr q5.2 v0 4 6).bind fun x8 =>
  (s_ai q5.2 x8 ((v2 * 5) + 3)).bind fun x9 =>
  (F_X4_costOfGiven v0 v1 q5.1 x7 x9 q5.2).bind fun q10 =>
  some (q10.1, q10.2))
  else (R_X4_costOfStep_76 v0 v1 (v2 * 5) q5.1 2 q5.2))) := by
  unfold R_X4_costOfStep_0
  rw [s_run_eq]
  show s_go _ _ (T_X4_costOfStep_0 v0 v1 v2 σ) = _
  unfold T_X4_costOfStep_0
  simp only [s_go_bind, s_go_ite, s_go_sum, s_go_l, s_go_r, s_go_n]
  try rfl
theorem E_X4_costOfStep_76 {v0 : Nat} {v1 : Int32} {v3 : Int32} {v6 : Int32} {v7 : Int32} {σ : sS} : R_X4_costOfStep_76 v0 v1 v3 v6 v7 σ = (if (5 : Int32) ≤ v7 then ((F_X4_limited v6 σ).bind fun q1 =>
  some (q1.1, q1.2))
  else ((s_fr σ v0 4 6).bind fun x2 =>
  (s_ai σ x2 (v3 + v7)).bind fun x3 =>
  if x3 = (-1) then (R_X4_costOfStep_114 v0 v1 v3 v6 v7 σ)
  else ((s_fr σ v0 4 6).bind fun x4 =>
  (s_ai σ x4 (v3 + v7)).bind fun x5 =>
  (F_X4_costAt v0 v1 x5 σ).bind fun q6 =>
  R_X4_costOfStep_114 v0 v1 v3 (v6 + q6.1) v7 q6.2))) := by
  unfold R_X4_costOfStep_76
  rw [s_run_eq]
  show s_go _ _ (T_X4_costOfStep_76 v0 v1 v3 v6 v7 σ) = _
  unfold T_X4_costOfStep_76
  simp only [s_go_bind, s_go_ite, s_go_sum, s_go_l, s_go_r, s_go_n]
  try rfl
theorem E_X4_costOfStep_114 {v0 : Nat} {v1 : Int32} {v3 : Int32} {v6 : Int32} {v7 : Int32} {σ : sS} : R_X4_costOfStep_114 v0 v1 v3 v6 v7 σ = (R_X4_costOfStep_76 v0 v1 v3 v6 (v7 + 1) σ) := by
  unfold R_X4_costOfStep_114
  rw [s_run_eq]
  show s_go _ _ (T_X4_costOfStep_114 v0 v1 v3 v6 v7 σ) = _
  unfold T_X4_costOfStep_114
  simp only [s_go_bind, s_go_ite, s_go_sum, s_go_l, s_go_r, s_go_n]
  try rfl
theorem E_X4_costOfStep {v0 : Nat} {v1 : Int32} {v2 : Int32} {σ : sS} : F_X4_costOfStep v0 v1 v2 σ = ((s_is σ v0 4).bind fun _ => R_X4_costOfStep_0 v0 v1 v2 σ) := rfl
/-! X4_improve -/
noncomputable def R_X4_improve_0 (v0 : Nat) (v1 : Int32) (v2 : Int32) (v3 : Int32) (σ : sS) : Option (Int32 × sS) := s_run (S_X4_improve ) (0, [.ref v0, .int v1, .int v2, .int v3], σ)
theorem E_X4_improve_0 {v0 : Nat} {v1 : Int32} {v2 : Int32} {v3 : Int32} {σ : sS} : R_X4_improve_0 v0 v1 v2 v3 σ = (if ((v1 * 40) + v2) < 0 then (some (0, σ))
  else ((s_fr σ v0 4 7).bind fun x1 =>
  (s_len σ x1).bind fun x2 =>
  if x2 ≤ ((v1 * 40) + v2) then (some (0, σ))
  else ((s_fr σ v0 4 7).bind fun x3 =>
  (s_ai σ x3 ((v1 * 40) + v2)).bind fun x4 =>
  if v3 < x4 then ((s_fr σ v0 4 7).bind fun x5 =>
  (s_si σ x5 ((v1 * 40) + v2) v3).bind fun σ6 =>
  some (1, σ6))
  else (some (0, σ))))) := by
  unfold R_X4_improve_0
  rw [s_run_eq]
  show s_go _ _ (T_X4_improve_0 v0 v1 v2 v3 σ) = _
  unfold T_X4_improve_0
  simp only [s_go_bind, s_go_ite, s_go_sum, s_go_l, s_go_r, s_go_n]
  try rfl
theorem E_X4_improve {v0 : Nat} {v1 : Int32} {v2 : Int32} {v3 : Int32} {σ : sS} : F_X4_improve v0 v1 v2 v3 σ = ((s_is σ v0 4).bind fun _ => R_X4_improve_0 v0 v1 v2 v3 σ) := rfl
/-! X4_costOfAbsurd -/
noncomputable def R_X4_costOfAbsurd_0 (v0 : Nat) (v1 : Int32) (σ : sS) : Option (Int32 × sS) := s_run (S_X4_costOfAbsurd ) (0, [.ref v0, .int v1], σ)
noncomputable def R_X4_costOfAbsurd_5 (v0 : Nat) (v1 : Int32) (v2 : Int32) (v3 : Int32) (σ : sS) : Option (Int32 × sS) := s_run (S_X4_costOfAbsurd ) (5, [.ref v0, .int v1, .int v2, .int v3], σ)
noncomputable def R_X4_costOfAbsurd_74 (v0 : Nat) (v1 : Int32) (v2 : Int32) (v3 : Int32) (σ : sS) : Option (Int32 × sS) := s_run (S_X4_costOfAbsurd ) (74, [.ref v0, .int v1, .int v2, .int v3], σ)
theorem E_X4_costOfAbsurd_0 {v0 : Nat} {v1 : Int32} {σ : sS} : R_X4_costOfAbsurd_0 v0 v1 σ = (R_X4_costOfAbsurd_5 v0 v1 268435456 0 σ) := by
  unfold R_X4_costOfAbsurd_0
  rw [s_run_eq]
  show s_go _ _ (T_X4_costOfAbsurd_0 v0 v1 σ) = _
  unfold T_X4_costOfAbsurd_0
  simp only [s_go_bind, s_go_ite, s_go_sum, s_go_l, s_go_r, s_go_n]
  try rfl
theorem E_X4_costOfAbsurd_5 {v0 : Nat} {v1 : Int32} {v2 : Int32} {v3 : Int32} {σ : sS} : R_X4_costOfAbsurd_5 v0 v1 v2 v3 σ = ((s_fi σ v0 4 8).bind fun x1 =>
  if x1 ≤ v3 then (some (v2, σ))
  else ((s_fr σ v0 4 0).bind fun x2 =>
  (s_fr σ v0 4 2).bind fun x3 =>
  (s_ai σ x3 v3).bind fun x4 =>
  (F_X2_kindOf x2 x4 σ).bind fun q5 =>
  if q5.1 = 1 then ((s_fr q5.2 v0 4 0).bind fun x6 =>
  (s_fr q5.2 v0 4 2).bind fun x7 =>
  (s_ai q5.2 x7 v3).bind fun x8 =>
  (F_X2_firstOf x6 x8 q5.2).bind fun q9 =>
  (F_X4_placeOf v0 q9.1 q9.2).bind fun q10 =>
  if q10.1 = (-1) then (R_X4_costOfAbsurd_74 v0 v1 v2 v3 q10.2)
  else ((F_X4_costAt v0 v1 v3 q10.2).bind fun q11 =>
  (F_X4_costAt v0 v1 q10.1 q11.2).bind fun q12 =>
  R_X4_costOfAbsurd_74 v0 v1 (if (q11.1 + q12.1) < v2 then (q11.1 + q12.1) else v2) v3 q12.2))
  else (R_X4_costOfAbsurd_74 v0 v1 v2 v3 q5.2))) := by
  unfold R_X4_costOfAbsurd_5
  rw [s_run_eq]
  show s_go _ _ (T_X4_costOfAbsurd_5 v0 v1 v2 v3 σ) = _
  unfold T_X4_costOfAbsurd_5
  simp only [s_go_bind, s_go_ite, s_go_sum, s_go_l, s_go_r, s_go_n]
  try rfl
theorem E_X4_costOfAbsurd_74 {v0 : Nat} {v1 : Int32} {v2 : Int32} {v3 : Int32} {σ : sS} : R_X4_costOfAbsurd_74 v0 v1 v2 v3 σ = (R_X4_costOfAbsurd_5 v0 v1 v2 (v3 + 1) σ) := by
  unfold R_X4_costOfAbsurd_74
  rw [s_run_eq]
  show s_go _ _ (T_X4_costOfAbsurd_74 v0 v1 v2 v3 σ) = _
  unfold T_X4_costOfAbsurd_74
  simp only [s_go_bind, s_go_ite, s_go_sum, s_go_l, s_go_r, s_go_n]
  try rfl
theorem E_X4_costOfAbsurd {v0 : Nat} {v1 : Int32} {σ : sS} : F_X4_costOfAbsurd v0 v1 σ = ((s_is σ v0 4).bind fun _ => R_X4_costOfAbsurd_0 v0 v1 σ) := rfl
/-! X4_settle -/
noncomputable def R_X4_settle_0 (v0 : Nat) (v1 : Int32) (σ : sS) : Option (Unit × sS) := s_run (S_X4_settle ) (0, [.ref v0, .int v1], σ)
noncomputable def R_X4_settle_2 (v0 : Nat) (v1 : Int32) (v2 : Int32) (σ : sS) : Option (Unit × sS) := s_run (S_X4_settle ) (2, [.ref v0, .int v1, .int v2], σ)
noncomputable def R_X4_settle_37 (v0 : Nat) (v1 : Int32) (v2 : Int32) (v3 : Int32) (σ : sS) : Option (Unit × sS) := s_run (S_X4_settle ) (37, [.ref v0, .int v1, .int v2, .int v3], σ)
noncomputable def R_X4_settle_52 (v0 : Nat) (v1 : Int32) (v2 : Int32) (v3 : Int32) (v4 : Int32) (σ : sS) : Option (Unit × sS) := s_run (S_X4_settle ) (52, [.ref v0, .int v1, .int v2, .int v3, .int v4], σ)
noncomputable def R_X4_settle_89 (v0 : Nat) (v1 : Int32) (v2 : Int32) (v3 : Int32) (v4 : Int32) (σ : sS) : Option (Unit × sS) := s_run (S_X4_settle ) (89, [.ref v0, .int v1, .int v2, .int v3, .int v4], σ)
noncomputable def R_X4_settle_105 (v0 : Nat) (v1 : Int32) (v2 : Int32) (v3 : Int32) (v4 : Int32) (v5 : Int32) (σ : sS) : Option (Unit × sS) := s_run (S_X4_settle ) (105, [.ref v0, .int v1, .int v2, .int v3, .int v4, .int v5], σ)
noncomputable def R_X4_settle_140 (v0 : Nat) (v1 : Int32) (v2 : Int32) (v3 : Int32) (v4 : Int32) (v5 : Int32) (σ : sS) : Option (Unit × sS) := s_run (S_X4_settle ) (140, [.ref v0, .int v1, .int v2, .int v3, .int v4, .int v5], σ)
theorem E_X4_settle_0 {v0 : Nat} {v1 : Int32} {σ : sS} : R_X4_settle_0 v0 v1 σ = (R_X4_settle_2 v0 v1 0 σ) := by
  unfold R_X4_settle_0
  rw [s_run_eq]
  show s_go _ _ (T_X4_settle_0 v0 v1 σ) = _
  unfold T_X4_settle_0
  simp only [s_go_bind, s_go_ite, s_go_sum, s_go_l, s_go_r, s_go_n]
  try rfl
theorem E_X4_settle_2 {v0 : Nat} {v1 : Int32} {v2 : Int32} {σ : sS} : R_X4_settle_2 v0 v1 v2 σ = ((s_fi σ v0 4 8).bind fun x1 =>
  if x1 ≤ v2 then (R_X4_settle_37 v0 v1 1 0 σ)
  else ((s_fr σ v0 4 7).bind fun x2 =>
  (F_X4_costAlone v0 v1 v2 σ).bind fun q3 =>
  (s_si q3.2 x2 ((v1 * 40) + v2) q3.1).bind fun σ4 =>
  R_X4_settle_2 v0 v1 (v2 + 1) σ4)) := by
  unfold R_X4_settle_2
  rw [s_run_eq]
  show s_go _ _ (T_X4_settle_2 v0 v1 v2 σ) = _
  unfold T_X4_settle_2
  simp only [s_go_bind, s_go_ite, s_go_sum, s_go_l, s_go_r, s_go_n]
  try rfl
theorem E_X4_settle_37 {v0 : Nat} {v1 : Int32} {v2 : Int32} {v3 : Int32} {σ : sS} : R_X4_settle_37 v0 v1 v2 v3 σ = (if (40 : Int32) < v3 then (some ((), σ))
  else (if v2 = 0 then (some ((), σ))
  else (R_X4_settle_52 v0 v1 0 v3 0 σ))) := by
  unfold R_X4_settle_37
  rw [s_run_eq]
  show s_go _ _ (T_X4_settle_37 v0 v1 v2 v3 σ) = _
  unfold T_X4_settle_37
  simp only [s_go_bind, s_go_ite, s_go_sum, s_go_l, s_go_r, s_go_n]
  try rfl
theorem E_X4_settle_52 {v0 : Nat} {v1 : Int32} {v2 : Int32} {v3 : Int32} {v4 : Int32} {σ : sS} : R_X4_settle_52 v0 v1 v2 v3 v4 σ = ((s_fi σ v0 4 10).bind fun x1 =>
  if x1 ≤ v4 then ((F_X4_costOfAbsurd v0 v1 σ).bind fun q2 =>
  R_X4_settle_105 v0 v1 v2 v3 q2.1 0 q2.2)
  else ((s_fr σ v0 4 6).bind fun x3 =>
  (s_ai σ x3 ((v4 * 5) + 1)).bind fun x4 =>
  (F_X4_costOfStep v0 v1 v4 σ).bind fun q5 =>
  (F_X4_improve v0 v1 x4 q5.1 q5.2).bind fun q6 =>
  if q6.1 = 0 then (R_X4_settle_89 v0 v1 v2 v3 v4 q6.2)
  else (R_X4_settle_89 v0 v1 1 v3 v4 q6.2))) := by
  unfold R_X4_settle_52
  rw [s_run_eq]
  show s_go _ _ (T_X4_settle_52 v0 v1 v2 v3 v4 σ) = _
  unfold T_X4_settle_52
  simp only [s_go_bind, s_go_ite, s_go_sum, s_go_l, s_go_r, s_go_n]
  try rfl
theorem E_X4_settle_89 {v0 : Nat} {v1 : Int32} {v2 : Int32} {v3 : Int32} {v4 : Int32} {σ : sS} : R_X4_settle_89 v0 v1 v2 v3 v4 σ = (R_X4_settle_52 v0 v1 v2 v3 (v4 + 1) σ) := by
  unfold R_X4_settle_89
  rw [s_run_eq]
  show s_go _ _ (T_X4_settle_89 v0 v1 v2 v3 v4 σ) = _
  unfold T_X4_settle_89
  simp only [s_go_bind, s_go_ite, s_go_sum, s_go_l, s_go_r, s_go_n]
  try rfl
theorem E_X4_settle_105 {v0 : Nat} {v1 : Int32} {v2 : Int32} {v3 : Int32} {v4 : Int32} {v5 : Int32} {σ : sS} : R_X4_settle_105 v0 v1 v2 v3 v4 v5 σ = ((s_fi σ v0 4 8).bind fun x1 =>
  if x1 ≤ v5 then (R_X4_settle_37 v0 v1 v2 (v3 + 1) σ)
  else ((F_X4_lineCost v0 14 v5 σ).bind fun q2 =>
  (F_X4_limited (q2.1 + v4) q2.2).bind fun q3 =>
  (F_X4_improve v0 v1 v5 q3.1 q3.2).bind fun q4 =>
  if q4.1 = 0 then (R_X4_settle_140 v0 v1 v2 v3 v4 v5 q4.2)
  else (R_X4_settle_140 v0 v1 1 v3 v4 v5 q4.2))) := by
  unfold R_X4_settle_105
  rw [s_run_eq]
  show s_go _ _ (T_X4_settle_105 v0 v1 v2 v3 v4 v5 σ) = _
  unfold T_X4_settle_105
  simp only [s_go_bind, s_go_ite, s_go_sum, s_go_l, s_go_r, s_go_n]
  try rfl
theorem E_X4_settle_140 {v0 : Nat} {v1 : Int32} {v2 : Int32} {v3 : Int32} {v4 : Int32} {v5 : Int32} {σ : sS} : R_X4_settle_140 v0 v1 v2 v3 v4 v5 σ = (R_X4_settle_105 v0 v1 v2 v3 v4 (v5 + 1) σ) := by
  unfold R_X4_settle_140
  rw [s_run_eq]
  show s_go _ _ (T_X4_settle_140 v0 v1 v2 v3 v4 v5 σ) = _
  unfold T_X4_settle_140
  simp only [s_go_bind, s_go_ite, s_go_sum, s_go_l, s_go_r, s_go_n]
  try rfl
theorem E_X4_settle {v0 : Nat} {v1 : Int32} {σ : sS} : F_X4_settle v0 v1 σ = ((s_is σ v0 4).bind fun _ => R_X4_settle_0 v0 v1 σ) := rfl
/-! X4_costIn -/
noncomputable def R_X4_costIn_0 (v0 : Nat) (v1 : Int32) (σ : sS) : Option (Int32 × sS) := s_run (S_X4_costIn ) (0, [.ref v0, .int v1], σ)
noncomputable def R_X4_costIn_2 (v0 : Nat) (v1 : Int32) (v2 : Int32) (σ : sS) : Option (Int32 × sS) := s_run (S_X4_costIn ) (2, [.ref v0, .int v1, .int v2], σ)
noncomputable def R_X4_costIn_39 (v0 : Nat) (v1 : Int32) (v2 : Int32) (w0 : Int32) (w1 : Int32) (w2 : Nat) (σ : sS) : Option (Int32 × sS) := s_run (S_X4_costIn ) (39, [.ref v0, .int v1, .int v2, .int w0, .int w1, .ref w2], σ)
noncomputable def R_X4_costIn_87 (v0 : Nat) (σ : sS) : Option (Int32 × sS) := s_run (S_X4_costIn ) (87, [.ref v0], σ)
noncomputable def R_X4_costIn_88 (v0 : Nat) (w0 : Int32) (σ : sS) : Option (Int32 × sS) := s_run (S_X4_costIn ) (88, [.ref v0, .int w0], σ)
noncomputable def R_X4_costIn_103 (v0 : Nat) (w0 : Int32) (σ : sS) : Option (Int32 × sS) := s_run (S_X4_costIn ) (103, [.ref v0, .int w0], σ)
noncomputable def R_X4_costIn_109 (v0 : Nat) (v4 : Int32) (σ : sS) : Option (Int32 × sS) := s_run (S_X4_costIn ) (109, [.ref v0, .int v4], σ)
theorem E_X4_costIn_0 {v0 : Nat} {v1 : Int32} {σ : sS} : R_X4_costIn_0 v0 v1 σ = (R_X4_costIn_2 v0 v1 0 σ) := by
  unfold R_X4_costIn_0
  rw [s_run_eq]
  show s_go _ _ (T_X4_costIn_0 v0 v1 σ) = _
  unfold T_X4_costIn_0
  simp only [s_go_bind, s_go_ite, s_go_sum, s_go_l, s_go_r, s_go_n]
  try rfl
theorem E_X4_costIn_2 {v0 : Nat} {v1 : Int32} {v2 : Int32} {σ : sS} : R_X4_costIn_2 v0 v1 v2 σ = (if (16 : Int32) ≤ v2 then ((s_fr σ v0 4 1).bind fun x1 =>
  (F_X1_priceOf x1 v1 16 σ).bind fun q2 =>
  (s_pf q2.2 v0 4 12 (.int q2.1)).bind fun σ3 =>
  (s_fr σ3 v0 4 4).bind fun x4 =>
  (s_ai σ3 x4 10).bind fun x5 =>
  if x5 = 268435456 then (R_X4_costIn_87 v0 σ3)
  else ((s_fr σ3 v0 4 4).bind fun x6 =>
  (s_ai σ3 x6 1).bind fun x7 =>
  if x7 = 268435456 then (R_X4_costIn_87 v0 σ3)
  else (R_X4_costIn_88 v0 1 σ3)))
  else ((s_fr σ v0 4 4).bind fun x8 =>
  (s_fr σ v0 4 1).bind fun x9 =>
  (F_X1_hasRule x9 v1 v2 σ).bind fun q10 =>
  if q10.1 = 0 then (R_X4_costIn_39 v0 v1 v2 268435456 v2 x8 q10.2)
  else ((s_fr q10.2 v0 4 1).bind fun x11 =>
  (F_X1_priceOf x11 v1 v2 q10.2).bind fun q12 =>
  R_X4_costIn_39 v0 v1 v2 q12.1 v2 x8 q12.2))) := by
  unfold R_X4_costIn_2
  rw [s_run_eq]
  show s_go _ _ (T_X4_costIn_2 v0 v1 v2 σ) = _
  unfold T_X4_costIn_2
  simp only [s_go_bind, s_go_ite, s_go_sum, s_go_l, s_go_r, s_go_n]
  try rfl
theorem E_X4_costIn_39 {v0 : Nat} {v1 : Int32} {v2 : Int32} {w0 : Int32} {w1 : Int32} {w2 : Nat} {σ : sS} : R_X4_costIn_39 v0 v1 v2 w0 w1 w2 σ = ((s_si σ w2 w1 w0).bind fun σ1 =>
  R_X4_costIn_2 v0 v1 (v2 + 1) σ1) := by
  unfold R_X4_costIn_39
  rw [s_run_eq]
  show s_go _ _ (T_X4_costIn_39 v0 v1 v2 w0 w1 w2 σ) = _
  unfold T_X4_costIn_39
  simp only [s_go_bind, s_go_ite, s_go_sum, s_go_l, s_go_r, s_go_n]
  try rfl
theorem E_X4_costIn_87 {v0 : Nat} {σ : sS} : R_X4_costIn_87 v0 σ = (R_X4_costIn_88 v0 0 σ) := by
  unfold R_X4_costIn_87
  rw [s_run_eq]
  show s_go _ _ (T_X4_costIn_87 v0 σ) = _
  unfold T_X4_costIn_87
  simp only [s_go_bind, s_go_ite, s_go_sum, s_go_l, s_go_r, s_go_n]
  try rfl
theorem E_X4_costIn_88 {v0 : Nat} {w0 : Int32} {σ : sS} : R_X4_costIn_88 v0 w0 σ = (if w0 = 0 then (R_X4_costIn_103 v0 1 σ)
  else ((s_fi σ v0 4 9).bind fun x1 =>
  R_X4_costIn_103 v0 (1 <<< (x1 &&& 31)) σ)) := by
  unfold R_X4_costIn_88
  rw [s_run_eq]
  show s_go _ _ (T_X4_costIn_88 v0 w0 σ) = _
  unfold T_X4_costIn_88
  simp only [s_go_bind, s_go_ite, s_go_sum, s_go_l, s_go_r, s_go_n]
  try rfl
theorem E_X4_costIn_103 {v0 : Nat} {w0 : Int32} {σ : sS} : R_X4_costIn_103 v0 w0 σ = (R_X4_costIn_109 v0 (w0 - 1) σ) := by
  unfold R_X4_costIn_103
  rw [s_run_eq]
  show s_go _ _ (T_X4_costIn_103 v0 w0 σ) = _
  unfold T_X4_costIn_103
  simp only [s_go_bind, s_go_ite, s_go_sum, s_go_l, s_go_r, s_go_n]
  try rfl
theorem E_X4_costIn_109 {v0 : Nat} {v4 : Int32} {σ : sS} : R_X4_costIn_109 v0 v4 σ = (if v4 < 0 then ((s_fr σ v0 4 7).bind fun x1 =>
  (s_ai σ x1 0).bind fun x2 =>
  if x2 = 268435456 then (some ((-1), σ))
  else ((s_fr σ v0 4 7).bind fun x3 =>
  (s_ai σ x3 0).bind fun x4 =>
  some (x4, σ)))
  else ((F_X4_settle v0 v4 σ).bind fun q5 =>
  R_X4_costIn_109 v0 (v4 + (-1)) q5.2)) := by
  unfold R_X4_costIn_109
  rw [s_run_eq]
  show s_go _ _ (T_X4_costIn_109 v0 v4 σ) = _
  unfold T_X4_costIn_109
  simp only [s_go_bind, s_go_ite, s_go_sum, s_go_l, s_go_r, s_go_n]
  try rfl
theorem E_X4_costIn {v0 : Nat} {v1 : Int32} {σ : sS} : F_X4_costIn v0 v1 σ = ((s_is σ v0 4).bind fun _ => R_X4_costIn_0 v0 v1 σ) := rfl
/-! X7_cheapest -/
noncomputable def R_X7_cheapest_0 (v0 : Nat) (v1 : Int32) (v2 : Int32) (v3 : Int32) (σ : sS) : Option ((Int32 ⊕ String) × sS) := s_run (S_X7_cheapest ) (0, [.ref v0, .int v1, .int v2, .int v3], σ)
theorem E_X7_cheapest_0 {v0 : Nat} {v1 : Int32} {v2 : Int32} {v3 : Int32} {σ : sS} : R_X7_cheapest_0 v0 v1 v2 v3 σ = ((F_X7_needProof v0 v1 v2 v3 σ).bind fun q1 => s_sum q1.1 (fun x2 => (s_fr q1.2 v0 7 6).bind fun x4 =>
  (F_X4_costIn x4 v1 q1.2).bind fun q5 =>
  some (.inl q5.1, q5.2)) (fun E3 => some (.inr E3, q1.2))) := by
  unfold R_X7_cheapest_0
  rw [s_run_eq]
  show s_go _ _ (T_X7_cheapest_0 v0 v1 v2 v3 σ) = _
  unfold T_X7_cheapest_0
  simp only [s_go_bind, s_go_ite, s_go_sum, s_go_l, s_go_r, s_go_n]
  try rfl
theorem E_X7_cheapest {v0 : Nat} {v1 : Int32} {v2 : Int32} {v3 : Int32} {σ : sS} : F_X7_cheapest v0 v1 v2 v3 σ = ((s_is σ v0 7).bind fun _ => R_X7_cheapest_0 v0 v1 v2 v3 σ) := rfl
/-! L_cheapest -/
noncomputable def R_L_cheapest_0 (v0 : Nat) (v1 : Int32) (v2 : Int32) (v3 : Int32) (v4 : Nat) (σ : sS) : Option (Int32 × sS) := s_run (S_L_cheapest ) (0, [.ref v0, .int v1, .int v2, .int v3, .ref v4], σ)
theorem E_L_cheapest_0 {v0 : Nat} {v1 : Int32} {v2 : Int32} {v3 : Int32} {v4 : Nat} {σ : sS} : R_L_cheapest_0 v0 v1 v2 v3 v4 σ = ((F_X7_cheapest v0 v1 v2 v3 σ).bind fun q1 => s_sum q1.1 (fun x2 => (s_sl q1.2 v4 0 ((x2 : Int32).toInt64)).bind fun σ4 =>
  some (0, σ4)) (fun E3 => if E3 = "java/lang/IndexOutOfBoundsException" then (some (1, q1.2)) else none)) := by
  unfold R_L_cheapest_0
  rw [s_run_eq]
  show s_go _ _ (T_L_cheapest_0 v0 v1 v2 v3 v4 σ) = _
  unfold T_L_cheapest_0
  simp only [s_go_bind, s_go_ite, s_go_sum, s_go_l, s_go_r, s_go_n]
  try rfl
theorem E_L_cheapest {v0 : Nat} {v1 : Int32} {v2 : Int32} {v3 : Int32} {v4 : Nat} {σ : sS} : F_L_cheapest v0 v1 v2 v3 v4 σ = (R_L_cheapest_0 v0 v1 v2 v3 v4 σ) := rfl
/-! X7_needSet -/
noncomputable def R_X7_needSet_0 (v0 : Nat) (v1 : Int32) (σ : sS) : Option ((Int32 ⊕ String) × sS) := s_run (S_X7_needSet ) (0, [.ref v0, .int v1], σ)
theorem E_X7_needSet_0 {v0 : Nat} {v1 : Int32} {σ : sS} : R_X7_needSet_0 v0 v1 σ = ((s_fr σ v0 7 1).bind fun x1 =>
  (s_fi σ x1 1 2).bind fun x2 =>
  (F_J6_bitCount_0f7a4 (v1 &&& ((1 <<< (x2 &&& 31)) - 1)) σ).bind fun q3 =>
  if q3.1 ≤ 14 then (some (.inl (v1 &&& ((1 <<< (x2 &&& 31)) - 1)), q3.2))
  else (some (.inr "java/lang/IllegalArgumentException", s_ex q3.2))) := by
  unfold R_X7_needSet_0
  rw [s_run_eq]
  show s_go _ _ (T_X7_needSet_0 v0 v1 σ) = _
  unfold T_X7_needSet_0
  simp only [s_go_bind, s_go_ite, s_go_sum, s_go_l, s_go_r, s_go_n]
  try rfl
theorem E_X7_needSet {v0 : Nat} {v1 : Int32} {σ : sS} : F_X7_needSet v0 v1 σ = ((s_is σ v0 7).bind fun _ => R_X7_needSet_0 v0 v1 σ) := rfl
/-! X3_listMembers -/
noncomputable def R_X3_listMembers_0 (v0 : Nat) (v1 : Int32) (σ : sS) : Option (Int32 × sS) := s_run (S_X3_listMembers ) (0, [.ref v0, .int v1], σ)
noncomputable def R_X3_listMembers_4 (v0 : Nat) (v1 : Int32) (v2 : Int32) (v3 : Int32) (σ : sS) : Option (Int32 × sS) := s_run (S_X3_listMembers ) (4, [.ref v0, .int v1, .int v2, .int v3], σ)
noncomputable def R_X3_listMembers_39 (v0 : Nat) (v1 : Int32) (v2 : Int32) (v3 : Int32) (σ : sS) : Option (Int32 × sS) := s_run (S_X3_listMembers ) (39, [.ref v0, .int v1, .int v2, .int v3], σ)
theorem E_X3_listMembers_0 {v0 : Nat} {v1 : Int32} {σ : sS} : R_X3_listMembers_0 v0 v1 σ = (R_X3_listMembers_4 v0 v1 0 0 σ) := by
  unfold R_X3_listMembers_0
  rw [s_run_eq]
  show s_go _ _ (T_X3_listMembers_0 v0 v1 σ) = _
  unfold T_X3_listMembers_0
  simp only [s_go_bind, s_go_ite, s_go_sum, s_go_l, s_go_r, s_go_n]
  try rfl
theorem E_X3_listMembers_4 {v0 : Nat} {v1 : Int32} {v2 : Int32} {v3 : Int32} {σ : sS} : R_X3_listMembers_4 v0 v1 v2 v3 σ = ((s_fr σ v0 3 0).bind fun x1 =>
  (s_fi σ x1 1 2).bind fun x2 =>
  if x2 ≤ v3 then (some (v2, σ))
  else (if (14 : Int32) ≤ v2 then (some (v2, σ))
  else (if ((v1 >>> (v3 &&& 31)) &&& 1) = 0 then (R_X3_listMembers_39 v0 v1 v2 v3 σ)
  else ((s_fr σ v0 3 4).bind fun x3 =>
  (s_si σ x3 v2 v3).bind fun σ4 =>
  R_X3_listMembers_39 v0 v1 (v2 + 1) v3 σ4)))) := by
  unfold R_X3_listMembers_4
  rw [s_run_eq]
  show s_go _ _ (T_X3_listMembers_4 v0 v1 v2 v3 σ) = _
  unfold T_X3_listMembers_4
  simp only [s_go_bind, s_go_ite, s_go_sum, s_go_l, s_go_r, s_go_n]
  try rfl
theorem E_X3_listMembers_39 {v0 : Nat} {v1 : Int32} {v2 : Int32} {v3 : Int32} {σ : sS} : R_X3_listMembers_39 v0 v1 v2 v3 σ = (R_X3_listMembers_4 v0 v1 v2 (v3 + 1) σ) := by
  unfold R_X3_listMembers_39
  rw [s_run_eq]
  show s_go _ _ (T_X3_listMembers_39 v0 v1 v2 v3 σ) = _
  unfold T_X3_listMembers_39
  simp only [s_go_bind, s_go_ite, s_go_sum, s_go_l, s_go_r, s_go_n]
  try rfl
theorem E_X3_listMembers {v0 : Nat} {v1 : Int32} {σ : sS} : F_X3_listMembers v0 v1 σ = ((s_is σ v0 3).bind fun _ => R_X3_listMembers_0 v0 v1 σ) := rfl
/-! X1_isTrue -/
noncomputable def R_X1_isTrue_0 (v0 : Nat) (v1 : Int32) (v2 : Int32) (σ : sS) : Option (Int32 × sS) := s_run (S_X1_isTrue ) (0, [.ref v0, .int v1, .int v2], σ)
theorem E_X1_isTrue_0 {v0 : Nat} {v1 : Int32} {v2 : Int32} {σ : sS} : R_X1_isTrue_0 v0 v1 v2 σ = ((F_X1_truthOf v0 v1 (v2 >>> (6 &&& 31)) σ).bind fun q1 =>
  if (lg_cmp (((q1.1 : Int64).toUInt64 >>> (((v2 &&& 63) : Int32).toInt64.toUInt64 &&& Int64.toUInt64 63)).toInt64 &&& 1) 0) = 0 then (some (0, q1.2))
  else (some (1, q1.2))) := by
  unfold R_X1_isTrue_0
  rw [s_run_eq]
  show s_go _ _ (T_X1_isTrue_0 v0 v1 v2 σ) = _
  unfold T_X1_isTrue_0
  simp only [s_go_bind, s_go_ite, s_go_sum, s_go_l, s_go_r, s_go_n]
  try rfl
theorem E_X1_isTrue {v0 : Nat} {v1 : Int32} {v2 : Int32} {σ : sS} : F_X1_isTrue v0 v1 v2 σ = ((s_is σ v0 1).bind fun _ => R_X1_isTrue_0 v0 v1 v2 σ) := rfl
/-! X3_membersIn -/
noncomputable def R_X3_membersIn_0 (v0 : Nat) (v1 : Int32) (v2 : Int32) (σ : sS) : Option (Int32 × sS) := s_run (S_X3_membersIn ) (0, [.ref v0, .int v1, .int v2], σ)
noncomputable def R_X3_membersIn_5 (v0 : Nat) (v1 : Int32) (v2 : Int32) (v3 : Int32) (v4 : Int32) (σ : sS) : Option (Int32 × sS) := s_run (S_X3_membersIn ) (5, [.ref v0, .int v1, .int v2, .int v3, .int v4], σ)
noncomputable def R_X3_membersIn_43 (v0 : Nat) (v1 : Int32) (v2 : Int32) (v3 : Int32) (v4 : Int32) (σ : sS) : Option (Int32 × sS) := s_run (S_X3_membersIn ) (43, [.ref v0, .int v1, .int v2, .int v3, .int v4], σ)
theorem E_X3_membersIn_0 {v0 : Nat} {v1 : Int32} {v2 : Int32} {σ : sS} : R_X3_membersIn_0 v0 v1 v2 σ = (R_X3_membersIn_5 v0 v1 v2 0 0 σ) := by
  unfold R_X3_membersIn_0
  rw [s_run_eq]
  show s_go _ _ (T_X3_membersIn_0 v0 v1 v2 σ) = _
  unfold T_X3_membersIn_0
  simp only [s_go_bind, s_go_ite, s_go_sum, s_go_l, s_go_r, s_go_n]
  try rfl
theorem E_X3_membersIn_5 {v0 : Nat} {v1 : Int32} {v2 : Int32} {v3 : Int32} {v4 : Int32} {σ : sS} : R_X3_membersIn_5 v0 v1 v2 v3 v4 σ = (if v2 ≤ v4 then (some (v3, σ))
  else (if (14 : Int32) ≤ v4 then (some (v3, σ))
  else ((s_fr σ v0 3 0).bind fun x1 =>
  (s_fr σ v0 3 4).bind fun x2 =>
  (s_ai σ x2 v4).bind fun x3 =>
  (F_X1_isTrue x1 x3 v1 σ).bind fun q4 =>
  if q4.1 = 0 then (R_X3_membersIn_43 v0 v1 v2 v3 v4 q4.2)
  else (R_X3_membersIn_43 v0 v1 v2 (v3 ||| (1 <<< (v4 &&& 31))) v4 q4.2)))) := by
  unfold R_X3_membersIn_5
  rw [s_run_eq]
  show s_go _ _ (T_X3_membersIn_5 v0 v1 v2 v3 v4 σ) = _
  unfold T_X3_membersIn_5
  simp only [s_go_bind, s_go_ite, s_go_sum, s_go_l, s_go_r, s_go_n]
  try rfl
theorem E_X3_membersIn_43 {v0 : Nat} {v1 : Int32} {v2 : Int32} {v3 : Int32} {v4 : Int32} {σ : sS} : R_X3_membersIn_43 v0 v1 v2 v3 v4 σ = (R_X3_membersIn_5 v0 v1 v2 v3 (v4 + 1) σ) := by
  unfold R_X3_membersIn_43
  rw [s_run_eq]
  show s_go _ _ (T_X3_membersIn_43 v0 v1 v2 v3 v4 σ) = _
  unfold T_X3_membersIn_43
  simp only [s_go_bind, s_go_ite, s_go_sum, s_go_l, s_go_r, s_go_n]
  try rfl
theorem E_X3_membersIn {v0 : Nat} {v1 : Int32} {v2 : Int32} {σ : sS} : F_X3_membersIn v0 v1 v2 σ = ((s_is σ v0 3).bind fun _ => R_X3_membersIn_0 v0 v1 v2 σ) := rfl
/-! X3_markWithin -/
noncomputable def R_X3_markWithin_0 (v0 : Nat) (v1 : Int32) (σ : sS) : Option (Unit × sS) := s_run (S_X3_markWithin ) (0, [.ref v0, .int v1], σ)
noncomputable def R_X3_markWithin_13 (v0 : Nat) (v1 : Int32) (v2 : Int64) (v4 : Int32) (σ : sS) : Option (Unit × sS) := s_run (S_X3_markWithin ) (13, [.ref v0, .int v1, .long v2, .int v4], σ)
theorem E_X3_markWithin_0 {v0 : Nat} {v1 : Int32} {σ : sS} : R_X3_markWithin_0 v0 v1 σ = ((s_al σ (σ.2.2.2 1) v1).bind fun x1 =>
  R_X3_markWithin_13 v0 v1 (x1 ^^^ (-1)) 0 σ) := by
  unfold R_X3_markWithin_0
  rw [s_run_eq]
  show s_go _ _ (T_X3_markWithin_0 v0 v1 σ) = _
  unfold T_X3_markWithin_0
  simp only [s_go_bind, s_go_ite, s_go_sum, s_go_l, s_go_r, s_go_n]
  try rfl
theorem E_X3_markWithin_13 {v0 : Nat} {v1 : Int32} {v2 : Int64} {v4 : Int32} {σ : sS} : R_X3_markWithin_13 v0 v1 v2 v4 σ = ((s_fr σ v0 3 5).bind fun x1 =>
  (s_len σ x1).bind fun x2 =>
  if x2 ≤ v4 then (some ((), σ))
  else ((s_fr σ v0 3 5).bind fun x3 =>
  (s_al σ x3 v4).bind fun x4 =>
  (s_fr σ v0 3 5).bind fun x5 =>
  (s_al σ x5 v4).bind fun x6 =>
  (s_sl σ x3 v4 (x4 ||| (((x6 : Int64).toUInt64 >>> (((1 <<< (v1 &&& 31)) : Int32).toInt64.toUInt64 &&& Int64.toUInt64 63)).toInt64 &&& v2))).bind fun σ7 =>
  R_X3_markWithin_13 v0 v1 v2 (v4 + 1) σ7)) := by
  unfold R_X3_markWithin_13
  rw [s_run_eq]
  show s_go _ _ (T_X3_markWithin_13 v0 v1 v2 v4 σ) = _
  unfold T_X3_markWithin_13
  simp only [s_go_bind, s_go_ite, s_go_sum, s_go_l, s_go_r, s_go_n]
  try rfl
theorem E_X3_markWithin {v0 : Nat} {v1 : Int32} {σ : sS} : F_X3_markWithin v0 v1 σ = ((s_is σ v0 3).bind fun _ => R_X3_markWithin_0 v0 v1 σ) := rfl
/-! X3_markAcross -/
noncomputable def R_X3_markAcross_0 (v0 : Nat) (v1 : Int32) (σ : sS) : Option (Unit × sS) := s_run (S_X3_markAcross ) (0, [.ref v0, .int v1], σ)
noncomputable def R_X3_markAcross_2 (v0 : Nat) (v1 : Int32) (v2 : Int32) (σ : sS) : Option (Unit × sS) := s_run (S_X3_markAcross ) (2, [.ref v0, .int v1, .int v2], σ)
noncomputable def R_X3_markAcross_34 (v0 : Nat) (v1 : Int32) (v2 : Int32) (σ : sS) : Option (Unit × sS) := s_run (S_X3_markAcross ) (34, [.ref v0, .int v1, .int v2], σ)
theorem E_X3_markAcross_0 {v0 : Nat} {v1 : Int32} {σ : sS} : R_X3_markAcross_0 v0 v1 σ = (R_X3_markAcross_2 v0 v1 0 σ) := by
  unfold R_X3_markAcross_0
  rw [s_run_eq]
  show s_go _ _ (T_X3_markAcross_0 v0 v1 σ) = _
  unfold T_X3_markAcross_0
  simp only [s_go_bind, s_go_ite, s_go_sum, s_go_l, s_go_r, s_go_n]
  try rfl
theorem E_X3_markAcross_2 {v0 : Nat} {v1 : Int32} {v2 : Int32} {σ : sS} : R_X3_markAcross_2 v0 v1 v2 σ = ((s_fr σ v0 3 5).bind fun x1 =>
  (s_len σ x1).bind fun x2 =>
  if x2 ≤ v2 then (some ((), σ))
  else (if (v2 &&& v1) = 0 then (R_X3_markAcross_34 v0 v1 v2 σ)
  else ((s_fr σ v0 3 5).bind fun x3 =>
  (s_al σ x3 (v2 ^^^ v1)).bind fun x4 =>
  (s_fr σ v0 3 5).bind fun x5 =>
  (s_al σ x5 v2).bind fun x6 =>
  (s_sl σ x3 (v2 ^^^ v1) (x4 ||| x6)).bind fun σ7 =>
  R_X3_markAcross_34 v0 v1 v2 σ7))) := by
  unfold R_X3_markAcross_2
  rw [s_run_eq]
  show s_go _ _ (T_X3_markAcross_2 v0 v1 v2 σ) = _
  unfold T_X3_markAcross_2
  simp only [s_go_bind, s_go_ite, s_go_sum, s_go_l, s_go_r, s_go_n]
  try rfl
theorem E_X3_markAcross_34 {v0 : Nat} {v1 : Int32} {v2 : Int32} {σ : sS} : R_X3_markAcross_34 v0 v1 v2 σ = (R_X3_markAcross_2 v0 v1 (v2 + 1) σ) := by
  unfold R_X3_markAcross_34
  rw [s_run_eq]
  show s_go _ _ (T_X3_markAcross_34 v0 v1 v2 σ) = _
  unfold T_X3_markAcross_34
  simp only [s_go_bind, s_go_ite, s_go_sum, s_go_l, s_go_r, s_go_n]
  try rfl
theorem E_X3_markAcross {v0 : Nat} {v1 : Int32} {σ : sS} : F_X3_markAcross v0 v1 σ = ((s_is σ v0 3).bind fun _ => R_X3_markAcross_0 v0 v1 σ) := rfl
/-! X3_markTogether -/
noncomputable def R_X3_markTogether_0 (v0 : Nat) (v1 : Int32) (σ : sS) : Option (Unit × sS) := s_run (S_X3_markTogether ) (0, [.ref v0, .int v1], σ)
noncomputable def R_X3_markTogether_10 (v0 : Nat) (v1 : Int32) (v2 : Int32) (σ : sS) : Option (Unit × sS) := s_run (S_X3_markTogether ) (10, [.ref v0, .int v1, .int v2], σ)
noncomputable def R_X3_markTogether_54 (v0 : Nat) (v1 : Int32) (v2 : Int32) (σ : sS) : Option (Unit × sS) := s_run (S_X3_markTogether ) (54, [.ref v0, .int v1, .int v2], σ)
noncomputable def R_X3_markTogether_83 (v0 : Nat) (v1 : Int32) (v2 : Int32) (σ : sS) : Option (Unit × sS) := s_run (S_X3_markTogether ) (83, [.ref v0, .int v1, .int v2], σ)
theorem E_X3_markTogether_0 {v0 : Nat} {v1 : Int32} {σ : sS} : R_X3_markTogether_0 v0 v1 σ = ((s_fr σ v0 3 5).bind fun x1 =>
  (F_J7_fill_d0a16 x1 0 σ).bind fun q2 =>
  R_X3_markTogether_10 v0 v1 0 q2.2) := by
  unfold R_X3_markTogether_0
  rw [s_run_eq]
  show s_go _ _ (T_X3_markTogether_0 v0 v1 σ) = _
  unfold T_X3_markTogether_0
  simp only [s_go_bind, s_go_ite, s_go_sum, s_go_l, s_go_r, s_go_n]
  try rfl
theorem E_X3_markTogether_10 {v0 : Nat} {v1 : Int32} {v2 : Int32} {σ : sS} : R_X3_markTogether_10 v0 v1 v2 σ = ((s_fr σ v0 3 0).bind fun x1 =>
  (F_X1_worldCount x1 σ).bind fun q2 =>
  if q2.1 ≤ v2 then (R_X3_markTogether_54 v0 v1 0 q2.2)
  else ((F_X3_membersIn v0 v2 v1 q2.2).bind fun q3 =>
  (s_fr q3.2 v0 3 5).bind fun x4 =>
  (s_al q3.2 x4 (q3.1 >>> (6 &&& 31))).bind fun x5 =>
  (s_sl q3.2 x4 (q3.1 >>> (6 &&& 31)) (x5 ||| (1 <<< (((q3.1 &&& 63) : Int32).toInt64 &&& 63)))).bind fun σ6 =>
  R_X3_markTogether_10 v0 v1 (v2 + 1) σ6)) := by
  unfold R_X3_markTogether_10
  rw [s_run_eq]
  show s_go _ _ (T_X3_markTogether_10 v0 v1 v2 σ) = _
  unfold T_X3_markTogether_10
  simp only [s_go_bind, s_go_ite, s_go_sum, s_go_l, s_go_r, s_go_n]
  try rfl
theorem E_X3_markTogether_54 {v0 : Nat} {v1 : Int32} {v2 : Int32} {σ : sS} : R_X3_markTogether_54 v0 v1 v2 σ = (if v1 ≤ v2 then (some ((), σ))
  else (if (6 : Int32) ≤ v2 then ((F_X3_markAcross v0 (1 <<< ((v2 - 6) &&& 31)) σ).bind fun q1 =>
  R_X3_markTogether_83 v0 v1 v2 q1.2)
  else ((F_X3_markWithin v0 v2 σ).bind fun q2 =>
  R_X3_markTogether_83 v0 v1 v2 q2.2))) := by
  unfold R_X3_markTogether_54
  rw [s_run_eq]
  show s_go _ _ (T_X3_markTogether_54 v0 v1 v2 σ) = _
  unfold T_X3_markTogether_54
  simp only [s_go_bind, s_go_ite, s_go_sum, s_go_l, s_go_r, s_go_n]
  try rfl
theorem E_X3_markTogether_83 {v0 : Nat} {v1 : Int32} {v2 : Int32} {σ : sS} : R_X3_markTogether_83 v0 v1 v2 σ = (R_X3_markTogether_54 v0 v1 (v2 + 1) σ) := by
  unfold R_X3_markTogether_83
  rw [s_run_eq]
  show s_go _ _ (T_X3_markTogether_83 v0 v1 v2 σ) = _
  unfold T_X3_markTogether_83
  simp only [s_go_bind, s_go_ite, s_go_sum, s_go_l, s_go_r, s_go_n]
  try rfl
theorem E_X3_markTogether {v0 : Nat} {v1 : Int32} {σ : sS} : F_X3_markTogether v0 v1 σ = ((s_is σ v0 3).bind fun _ => R_X3_markTogether_0 v0 v1 σ) := rfl
/-! X3_isBetter -/
noncomputable def R_X3_isBetter_0 (v0 : Int32) (v1 : Int32) (σ : sS) : Option (Int32 × sS) := s_run (S_X3_isBetter ) (0, [.int v0, .int v1], σ)
theorem E_X3_isBetter_0 {v0 : Int32} {v1 : Int32} {σ : sS} : R_X3_isBetter_0 v0 v1 σ = ((F_J6_bitCount_0f7a4 v0 σ).bind fun q1 =>
  (F_J6_bitCount_0f7a4 v1 q1.2).bind fun q2 =>
  if (q1.1 - q2.1) < 0 then (some (1, q2.2))
  else (if (q1.1 - q2.1) = 0 then (if v1 ≤ v0 then (some (0, q2.2))
  else (some (1, q2.2)))
  else (some (0, q2.2)))) := by
  unfold R_X3_isBetter_0
  rw [s_run_eq]
  show s_go _ _ (T_X3_isBetter_0 v0 v1 σ) = _
  unfold T_X3_isBetter_0
  simp only [s_go_bind, s_go_ite, s_go_sum, s_go_l, s_go_r, s_go_n]
  try rfl
theorem E_X3_isBetter {v0 : Int32} {v1 : Int32} {σ : sS} : F_X3_isBetter v0 v1 σ = (R_X3_isBetter_0 v0 v1 σ) := rfl
/-! X3_formulasOf -/
noncomputable def R_X3_formulasOf_0 (v0 : Nat) (v1 : Int32) (σ : sS) : Option (Int32 × sS) := s_run (S_X3_formulasOf ) (0, [.ref v0, .int v1], σ)
noncomputable def R_X3_formulasOf_4 (v0 : Nat) (v1 : Int32) (v2 : Int32) (v3 : Int32) (σ : sS) : Option (Int32 × sS) := s_run (S_X3_formulasOf ) (4, [.ref v0, .int v1, .int v2, .int v3], σ)
noncomputable def R_X3_formulasOf_29 (v0 : Nat) (v1 : Int32) (v2 : Int32) (v3 : Int32) (σ : sS) : Option (Int32 × sS) := s_run (S_X3_formulasOf ) (29, [.ref v0, .int v1, .int v2, .int v3], σ)
theorem E_X3_formulasOf_0 {v0 : Nat} {v1 : Int32} {σ : sS} : R_X3_formulasOf_0 v0 v1 σ = (R_X3_formulasOf_4 v0 v1 0 0 σ) := by
  unfold R_X3_formulasOf_0
  rw [s_run_eq]
  show s_go _ _ (T_X3_formulasOf_0 v0 v1 σ) = _
  unfold T_X3_formulasOf_0
  simp only [s_go_bind, s_go_ite, s_go_sum, s_go_l, s_go_r, s_go_n]
  try rfl
theorem E_X3_formulasOf_4 {v0 : Nat} {v1 : Int32} {v2 : Int32} {v3 : Int32} {σ : sS} : R_X3_formulasOf_4 v0 v1 v2 v3 σ = (if (14 : Int32) ≤ v3 then (some (v2, σ))
  else (if ((v1 >>> (v3 &&& 31)) &&& 1) = 0 then (R_X3_formulasOf_29 v0 v1 v2 v3 σ)
  else ((s_fr σ v0 3 4).bind fun x1 =>
  (s_ai σ x1 v3).bind fun x2 =>
  R_X3_formulasOf_29 v0 v1 (v2 ||| (1 <<< (x2 &&& 31))) v3 σ))) := by
  unfold R_X3_formulasOf_4
  rw [s_run_eq]
  show s_go _ _ (T_X3_formulasOf_4 v0 v1 v2 v3 σ) = _
  unfold T_X3_formulasOf_4
  simp only [s_go_bind, s_go_ite, s_go_sum, s_go_l, s_go_r, s_go_n]
  try rfl
theorem E_X3_formulasOf_29 {v0 : Nat} {v1 : Int32} {v2 : Int32} {v3 : Int32} {σ : sS} : R_X3_formulasOf_29 v0 v1 v2 v3 σ = (R_X3_formulasOf_4 v0 v1 v2 (v3 + 1) σ) := by
  unfold R_X3_formulasOf_29
  rw [s_run_eq]
  show s_go _ _ (T_X3_formulasOf_29 v0 v1 v2 v3 σ) = _
  unfold T_X3_formulasOf_29
  simp only [s_go_bind, s_go_ite, s_go_sum, s_go_l, s_go_r, s_go_n]
  try rfl
theorem E_X3_formulasOf {v0 : Nat} {v1 : Int32} {σ : sS} : F_X3_formulasOf v0 v1 σ = ((s_is σ v0 3).bind fun _ => R_X3_formulasOf_0 v0 v1 σ) := rfl
/-! X3_leastClash -/
noncomputable def R_X3_leastClash_0 (v0 : Nat) (v1 : Int32) (σ : sS) : Option (Int32 × sS) := s_run (S_X3_leastClash ) (0, [.ref v0, .int v1], σ)
noncomputable def R_X3_leastClash_16 (v0 : Nat) (v2 : Int32) (v3 : Int32) (v4 : Int32) (σ : sS) : Option (Int32 × sS) := s_run (S_X3_leastClash ) (16, [.ref v0, .int v2, .int v3, .int v4], σ)
noncomputable def R_X3_leastClash_52 (v0 : Nat) (v2 : Int32) (v3 : Int32) (v4 : Int32) (w0 : Int32) (σ : sS) : Option (Int32 × sS) := s_run (S_X3_leastClash ) (52, [.ref v0, .int v2, .int v3, .int v4, .int w0], σ)
noncomputable def R_X3_leastClash_73 (v0 : Nat) (v2 : Int32) (v4 : Int32) (σ : sS) : Option (Int32 × sS) := s_run (S_X3_leastClash ) (73, [.ref v0, .int v2, .int v4], σ)
noncomputable def R_X3_leastClash_76 (v0 : Nat) (v2 : Int32) (v3 : Int32) (v4 : Int32) (σ : sS) : Option (Int32 × sS) := s_run (S_X3_leastClash ) (76, [.ref v0, .int v2, .int v3, .int v4], σ)
theorem E_X3_leastClash_0 {v0 : Nat} {v1 : Int32} {σ : sS} : R_X3_leastClash_0 v0 v1 σ = ((F_X3_listMembers v0 v1 σ).bind fun q1 =>
  (F_X3_markTogether v0 q1.1 q1.2).bind fun q2 =>
  R_X3_leastClash_16 v0 q1.1 (-1) 1 q2.2) := by
  unfold R_X3_leastClash_0
  rw [s_run_eq]
  show s_go _ _ (T_X3_leastClash_0 v0 v1 σ) = _
  unfold T_X3_leastClash_0
  simp only [s_go_bind, s_go_ite, s_go_sum, s_go_l, s_go_r, s_go_n]
  try rfl
theorem E_X3_leastClash_16 {v0 : Nat} {v2 : Int32} {v3 : Int32} {v4 : Int32} {σ : sS} : R_X3_leastClash_16 v0 v2 v3 v4 σ = (if (1 <<< (v2 &&& 31)) ≤ v4 then (if v3 = (-1) then (some (0, σ))
  else ((F_X3_formulasOf v0 v3 σ).bind fun q1 =>
  some (q1.1, q1.2)))
  else ((s_fr σ v0 3 5).bind fun x2 =>
  (s_al σ x2 (v4 >>> (6 &&& 31))).bind fun x3 =>
  if (lg_cmp (((x3 : Int64).toUInt64 >>> (((v4 &&& 63) : Int32).toInt64.toUInt64 &&& Int64.toUInt64 63)).toInt64 &&& 1) 0) = 0 then (R_X3_leastClash_52 v0 v2 v3 v4 1 σ)
  else (R_X3_leastClash_52 v0 v2 v3 v4 0 σ))) := by
  unfold R_X3_leastClash_16
  rw [s_run_eq]
  show s_go _ _ (T_X3_leastClash_16 v0 v2 v3 v4 σ) = _
  unfold T_X3_leastClash_16
  simp only [s_go_bind, s_go_ite, s_go_sum, s_go_l, s_go_r, s_go_n]
  try rfl
theorem E_X3_leastClash_52 {v0 : Nat} {v2 : Int32} {v3 : Int32} {v4 : Int32} {w0 : Int32} {σ : sS} : R_X3_leastClash_52 v0 v2 v3 v4 w0 σ = (if w0 = 0 then (R_X3_leastClash_76 v0 v2 v3 v4 σ)
  else (if v3 = (-1) then (R_X3_leastClash_73 v0 v2 v4 σ)
  else ((F_X3_isBetter v4 v3 σ).bind fun q1 =>
  if q1.1 = 0 then (R_X3_leastClash_76 v0 v2 v3 v4 q1.2)
  else (R_X3_leastClash_73 v0 v2 v4 q1.2)))) := by
  unfold R_X3_leastClash_52
  rw [s_run_eq]
  show s_go _ _ (T_X3_leastClash_52 v0 v2 v3 v4 w0 σ) = _
  unfold T_X3_leastClash_52
  simp only [s_go_bind, s_go_ite, s_go_sum, s_go_l, s_go_r, s_go_n]
  try rfl
theorem E_X3_leastClash_73 {v0 : Nat} {v2 : Int32} {v4 : Int32} {σ : sS} : R_X3_leastClash_73 v0 v2 v4 σ = (R_X3_leastClash_76 v0 v2 v4 v4 σ) := by
  unfold R_X3_leastClash_73
  rw [s_run_eq]
  show s_go _ _ (T_X3_leastClash_73 v0 v2 v4 σ) = _
  unfold T_X3_leastClash_73
  simp only [s_go_bind, s_go_ite, s_go_sum, s_go_l, s_go_r, s_go_n]
  try rfl
theorem E_X3_leastClash_76 {v0 : Nat} {v2 : Int32} {v3 : Int32} {v4 : Int32} {σ : sS} : R_X3_leastClash_76 v0 v2 v3 v4 σ = (R_X3_leastClash_16 v0 v2 v3 (v4 + 1) σ) := by
  unfold R_X3_leastClash_76
  rw [s_run_eq]
  show s_go _ _ (T_X3_leastClash_76 v0 v2 v3 v4 σ) = _
  unfold T_X3_leastClash_76
  simp only [s_go_bind, s_go_ite, s_go_sum, s_go_l, s_go_r, s_go_n]
  try rfl
theorem E_X3_leastClash {v0 : Nat} {v1 : Int32} {σ : sS} : F_X3_leastClash v0 v1 σ = ((s_is σ v0 3).bind fun _ => R_X3_leastClash_0 v0 v1 σ) := rfl
/-! X7_core -/
noncomputable def R_X7_core_0 (v0 : Nat) (v1 : Int32) (σ : sS) : Option ((Int32 ⊕ String) × sS) := s_run (S_X7_core ) (0, [.ref v0, .int v1], σ)
theorem E_X7_core_0 {v0 : Nat} {v1 : Int32} {σ : sS} : R_X7_core_0 v0 v1 σ = ((F_X7_needSet v0 v1 σ).bind fun q1 => s_sum q1.1 (fun x2 => (s_fr q1.2 v0 7 4).bind fun x4 =>
  (F_X3_leastClash x4 x2 q1.2).bind fun q5 =>
  some (.inl q5.1, q5.2)) (fun E3 => some (.inr E3, q1.2))) := by
  unfold R_X7_core_0
  rw [s_run_eq]
  show s_go _ _ (T_X7_core_0 v0 v1 σ) = _
  unfold T_X7_core_0
  simp only [s_go_bind, s_go_ite, s_go_sum, s_go_l, s_go_r, s_go_n]
  try rfl
theorem E_X7_core {v0 : Nat} {v1 : Int32} {σ : sS} : F_X7_core v0 v1 σ = ((s_is σ v0 7).bind fun _ => R_X7_core_0 v0 v1 σ) := rfl
/-! L_core -/
noncomputable def R_L_core_0 (v0 : Nat) (v1 : Int32) (v2 : Nat) (σ : sS) : Option (Int32 × sS) := s_run (S_L_core ) (0, [.ref v0, .int v1, .ref v2], σ)
theorem E_L_core_0 {v0 : Nat} {v1 : Int32} {v2 : Nat} {σ : sS} : R_L_core_0 v0 v1 v2 σ = ((F_X7_core v0 v1 σ).bind fun q1 => s_sum q1.1 (fun x2 => (s_sl q1.2 v2 0 ((x2 : Int32).toInt64)).bind fun σ4 =>
  some (0, σ4)) (fun E3 => if E3 = "java/lang/IllegalArgumentException" then (some (1, q1.2)) else none)) := by
  unfold R_L_core_0
  rw [s_run_eq]
  show s_go _ _ (T_L_core_0 v0 v1 v2 σ) = _
  unfold T_L_core_0
  simp only [s_go_bind, s_go_ite, s_go_sum, s_go_l, s_go_r, s_go_n]
  try rfl
theorem E_L_core {v0 : Nat} {v1 : Int32} {v2 : Nat} {σ : sS} : F_L_core v0 v1 v2 σ = (R_L_core_0 v0 v1 v2 σ) := rfl
/-! X3_leastOutside -/
noncomputable def R_X3_leastOutside_0 (v0 : Nat) (v1 : Nat) (v2 : Int32) (σ : sS) : Option (Int32 × sS) := s_run (S_X3_leastOutside ) (0, [.ref v0, .ref v1, .int v2], σ)
noncomputable def R_X3_leastOutside_2 (v0 : Nat) (v1 : Nat) (v2 : Int32) (v3 : Int32) (σ : sS) : Option (Int32 × sS) := s_run (S_X3_leastOutside ) (2, [.ref v0, .ref v1, .int v2, .int v3], σ)
theorem E_X3_leastOutside_0 {v0 : Nat} {v1 : Nat} {v2 : Int32} {σ : sS} : R_X3_leastOutside_0 v0 v1 v2 σ = (R_X3_leastOutside_2 v0 v1 v2 0 σ) := by
  unfold R_X3_leastOutside_0
  rw [s_run_eq]
  show s_go _ _ (T_X3_leastOutside_0 v0 v1 v2 σ) = _
  unfold T_X3_leastOutside_0
  simp only [s_go_bind, s_go_ite, s_go_sum, s_go_l, s_go_r, s_go_n]
  try rfl
theorem E_X3_leastOutside_2 {v0 : Nat} {v1 : Nat} {v2 : Int32} {v3 : Int32} {σ : sS} : R_X3_leastOutside_2 v0 v1 v2 v3 σ = ((s_fr σ v0 3 0).bind fun x1 =>
  (F_X1_words x1 σ).bind fun q2 =>
  if q2.1 ≤ v3 then (some ((-1), q2.2))
  else ((s_al q2.2 v1 v3).bind fun x3 =>
  (s_fr q2.2 v0 3 0).bind fun x4 =>
  (F_X1_truthOf x4 v2 v3 q2.2).bind fun q5 =>
  if (lg_cmp (x3 &&& (q5.1 ^^^ (-1))) 0) = 0 then (R_X3_leastOutside_2 v0 v1 v2 (v3 + 1) q5.2)
  else ((F_J13_numberOfTrailingZeros_95d88 (x3 &&& (q5.1 ^^^ (-1))) q5.2).bind fun q6 =>
  some (((v3 * 64) + q6.1), q6.2)))) := by
  unfold R_X3_leastOutside_2
  rw [s_run_eq]
  show s_go _ _ (T_X3_leastOutside_2 v0 v1 v2 v3 σ) = _
  unfold T_X3_leastOutside_2
  simp only [s_go_bind, s_go_ite, s_go_sum, s_go_l, s_go_r, s_go_n]
  try rfl
theorem E_X3_leastOutside {v0 : Nat} {v1 : Nat} {v2 : Int32} {σ : sS} : F_X3_leastOutside v0 v1 v2 σ = ((s_is σ v0 3).bind fun _ => R_X3_leastOutside_0 v0 v1 v2 σ) := rfl
/-! X3_leastBreach -/
noncomputable def R_X3_leastBreach_0 (v0 : Nat) (v1 : Int32) (v2 : Int32) (σ : sS) : Option (Int32 × sS) := s_run (S_X3_leastBreach ) (0, [.ref v0, .int v1, .int v2], σ)
theorem E_X3_leastBreach_0 {v0 : Nat} {v1 : Int32} {v2 : Int32} {σ : sS} : R_X3_leastBreach_0 v0 v1 v2 σ = ((s_fr σ v0 3 1).bind fun x1 =>
  (F_X3_gather v0 v1 x1 σ).bind fun q2 =>
  (s_fr q2.2 v0 3 1).bind fun x3 =>
  (F_X3_leastOutside v0 x3 v2 q2.2).bind fun q4 =>
  some (q4.1, q4.2)) := by
  unfold R_X3_leastBreach_0
  rw [s_run_eq]
  show s_go _ _ (T_X3_leastBreach_0 v0 v1 v2 σ) = _
  unfold T_X3_leastBreach_0
  simp only [s_go_bind, s_go_ite, s_go_sum, s_go_l, s_go_r, s_go_n]
  try rfl
theorem E_X3_leastBreach {v0 : Nat} {v1 : Int32} {v2 : Int32} {σ : sS} : F_X3_leastBreach v0 v1 v2 σ = ((s_is σ v0 3).bind fun _ => R_X3_leastBreach_0 v0 v1 v2 σ) := rfl
/-! X7_counter -/
noncomputable def R_X7_counter_0 (v0 : Nat) (v1 : Int32) (v2 : Int32) (σ : sS) : Option ((Int32 ⊕ String) × sS) := s_run (S_X7_counter ) (0, [.ref v0, .int v1, .int v2], σ)
theorem E_X7_counter_0 {v0 : Nat} {v1 : Int32} {v2 : Int32} {σ : sS} : R_X7_counter_0 v0 v1 v2 σ = ((F_X7_needCustomer v0 v1 σ).bind fun q1 => s_sum q1.1 (fun x2 => (F_X7_needFormula v0 v2 q1.2).bind fun q4 => s_sum q4.1 (fun x5 => (s_fr q4.2 v0 7 4).bind fun x7 =>
  (s_fr q4.2 v0 7 1).bind fun x8 =>
  (s_fr q4.2 x8 1 5).bind fun x9 =>
  (s_ai q4.2 x9 v1).bind fun x10 =>
  (F_X3_leastBreach x7 x10 v2 q4.2).bind fun q11 =>
  some (.inl q11.1, q11.2)) (fun E6 => some (.inr E6, q4.2))) (fun E3 => some (.inr E3, q1.2))) := by
  unfold R_X7_counter_0
  rw [s_run_eq]
  show s_go _ _ (T_X7_counter_0 v0 v1 v2 σ) = _
  unfold T_X7_counter_0
  simp only [s_go_bind, s_go_ite, s_go_sum, s_go_l, s_go_r, s_go_n]
  try rfl
theorem E_X7_counter {v0 : Nat} {v1 : Int32} {v2 : Int32} {σ : sS} : F_X7_counter v0 v1 v2 σ = ((s_is σ v0 7).bind fun _ => R_X7_counter_0 v0 v1 v2 σ) := rfl
/-! L_counter -/
noncomputable def R_L_counter_0 (v0 : Nat) (v1 : Int32) (v2 : Int32) (v3 : Nat) (σ : sS) : Option (Int32 × sS) := s_run (S_L_counter ) (0, [.ref v0, .int v1, .int v2, .ref v3], σ)
theorem E_L_counter_0 {v0 : Nat} {v1 : Int32} {v2 : Int32} {v3 : Nat} {σ : sS} : R_L_counter_0 v0 v1 v2 v3 σ = ((F_X7_counter v0 v1 v2 σ).bind fun q1 => s_sum q1.1 (fun x2 => (s_sl q1.2 v3 0 ((x2 : Int32).toInt64)).bind fun σ4 =>
  some (0, σ4)) (fun E3 => if E3 = "java/lang/IndexOutOfBoundsException" then (some (1, q1.2)) else none)) := by
  unfold R_L_counter_0
  rw [s_run_eq]
  show s_go _ _ (T_L_counter_0 v0 v1 v2 v3 σ) = _
  unfold T_L_counter_0
  simp only [s_go_bind, s_go_ite, s_go_sum, s_go_l, s_go_r, s_go_n]
  try rfl
theorem E_L_counter {v0 : Nat} {v1 : Int32} {v2 : Int32} {v3 : Nat} {σ : sS} : F_L_counter v0 v1 v2 v3 σ = (R_L_counter_0 v0 v1 v2 v3 σ) := rfl
/-! X1_nodeOfLine -/
noncomputable def R_X1_nodeOfLine_0 (v0 : Nat) (v1 : Int32) (σ : sS) : Option (Int32 × sS) := s_run (S_X1_nodeOfLine ) (0, [.ref v0, .int v1], σ)
theorem E_X1_nodeOfLine_0 {v0 : Nat} {v1 : Int32} {σ : sS} : R_X1_nodeOfLine_0 v0 v1 σ = ((F_X1_ofLine v0 v1 1 σ).bind fun q1 =>
  (F_X1_nodeOf v0 q1.1 q1.2).bind fun q2 =>
  some (q2.1, q2.2)) := by
  unfold R_X1_nodeOfLine_0
  rw [s_run_eq]
  show s_go _ _ (T_X1_nodeOfLine_0 v0 v1 σ) = _
  unfold T_X1_nodeOfLine_0
  simp only [s_go_bind, s_go_ite, s_go_sum, s_go_l, s_go_r, s_go_n]
  try rfl
theorem E_X1_nodeOfLine {v0 : Nat} {v1 : Int32} {σ : sS} : F_X1_nodeOfLine v0 v1 σ = ((s_is σ v0 1).bind fun _ => R_X1_nodeOfLine_0 v0 v1 σ) := rfl
/-! X0_staleIf -/
noncomputable def R_X0_staleIf_0 (v0 : Nat) (v1 : Int32) (v2 : Int32) (σ : sS) : Option (Int64 × sS) := s_run (S_X0_staleIf ) (0, [.ref v0, .int v1, .int v2], σ)
noncomputable def R_X0_staleIf_5 (v0 : Nat) (v1 : Int32) (v2 : Int32) (v3 : Int64) (v5 : Int32) (σ : sS) : Option (Int64 × sS) := s_run (S_X0_staleIf ) (5, [.ref v0, .int v1, .int v2, .long v3, .int v5], σ)
noncomputable def R_X0_staleIf_48 (v0 : Nat) (v1 : Int32) (v2 : Int32) (v3 : Int64) (v5 : Int32) (w0 : Int32) (σ : sS) : Option (Int64 × sS) := s_run (S_X0_staleIf ) (48, [.ref v0, .int v1, .int v2, .long v3, .int v5, .int w0], σ)
noncomputable def R_X0_staleIf_68 (v0 : Nat) (v1 : Int32) (v2 : Int32) (v3 : Int64) (v5 : Int32) (v7 : Int32) (w0 : Int32) (σ : sS) : Option (Int64 × sS) := s_run (S_X0_staleIf ) (68, [.ref v0, .int v1, .int v2, .long v3, .int v5, .int v7, .int w0], σ)
noncomputable def R_X0_staleIf_103 (v0 : Nat) (v1 : Int32) (v2 : Int32) (v3 : Int64) (v5 : Int32) (σ : sS) : Option (Int64 × sS) := s_run (S_X0_staleIf ) (103, [.ref v0, .int v1, .int v2, .long v3, .int v5], σ)
noncomputable def R_X0_staleIf_115 (v0 : Nat) (v3 : Int64) (v5 : Int64) (v7 : Int32) (σ : sS) : Option (Int64 × sS) := s_run (S_X0_staleIf ) (115, [.ref v0, .long v3, .long v5, .int v7], σ)
noncomputable def R_X0_staleIf_153 (v0 : Nat) (v3 : Int64) (v5 : Int64) (v7 : Int32) (σ : sS) : Option (Int64 × sS) := s_run (S_X0_staleIf ) (153, [.ref v0, .long v3, .long v5, .int v7], σ)
theorem E_X0_staleIf_0 {v0 : Nat} {v1 : Int32} {v2 : Int32} {σ : sS} : R_X0_staleIf_0 v0 v1 v2 σ = (R_X0_staleIf_5 v0 v1 v2 0 0 σ) := by
  unfold R_X0_staleIf_0
  rw [s_run_eq]
  show s_go _ _ (T_X0_staleIf_0 v0 v1 v2 σ) = _
  unfold T_X0_staleIf_0
  simp only [s_go_bind, s_go_ite, s_go_sum, s_go_l, s_go_r, s_go_n]
  try rfl
theorem E_X0_staleIf_5 {v0 : Nat} {v1 : Int32} {v2 : Int32} {v3 : Int64} {v5 : Int32} {σ : sS} : R_X0_staleIf_5 v0 v1 v2 v3 v5 σ = ((s_fr σ v0 0 5).bind fun x1 =>
  (s_fi σ x1 1 6).bind fun x2 =>
  if x2 ≤ v5 then (R_X0_staleIf_115 v0 v3 0 0 σ)
  else ((s_fr σ v0 0 5).bind fun x3 =>
  (F_X1_ofLine x3 v5 3 σ).bind fun q4 =>
  if q4.1 = v1 then (R_X0_staleIf_48 v0 v1 v2 v3 v5 v2 q4.2)
  else ((s_fr q4.2 v0 0 5).bind fun x5 =>
  (F_X1_toldTo x5 q4.1 q4.2).bind fun q6 =>
  R_X0_staleIf_48 v0 v1 v2 v3 v5 q6.1 q6.2))) := by
  unfold R_X0_staleIf_5
  rw [s_run_eq]
  show s_go _ _ (T_X0_staleIf_5 v0 v1 v2 v3 v5 σ) = _
  unfold T_X0_staleIf_5
  simp only [s_go_bind, s_go_ite, s_go_sum, s_go_l, s_go_r, s_go_n]
  try rfl
theorem E_X0_staleIf_48 {v0 : Nat} {v1 : Int32} {v2 : Int32} {v3 : Int64} {v5 : Int32} {w0 : Int32} {σ : sS} : R_X0_staleIf_48 v0 v1 v2 v3 v5 w0 σ = ((s_fr σ v0 0 5).bind fun x1 =>
  (F_X1_ofLine x1 v5 2 σ).bind fun q2 =>
  if q2.1 = 0 then (R_X0_staleIf_68 v0 v1 v2 v3 v5 w0 1 q2.2)
  else (R_X0_staleIf_68 v0 v1 v2 v3 v5 w0 0 q2.2)) := by
  unfold R_X0_staleIf_48
  rw [s_run_eq]
  show s_go _ _ (T_X0_staleIf_48 v0 v1 v2 v3 v5 w0 σ) = _
  unfold T_X0_staleIf_48
  simp only [s_go_bind, s_go_ite, s_go_sum, s_go_l, s_go_r, s_go_n]
  try rfl
theorem E_X0_staleIf_68 {v0 : Nat} {v1 : Int32} {v2 : Int32} {v3 : Int64} {v5 : Int32} {v7 : Int32} {w0 : Int32} {σ : sS} : R_X0_staleIf_68 v0 v1 v2 v3 v5 v7 w0 σ = (if w0 = 0 then (R_X0_staleIf_103 v0 v1 v2 v3 v5 σ)
  else ((s_fr σ v0 0 5).bind fun x1 =>
  (s_fr σ v0 0 5).bind fun x2 =>
  (F_X1_nodeOfLine x2 v5 σ).bind fun q3 =>
  (F_X1_isAmong x1 v7 q3.1 q3.2).bind fun q4 =>
  if q4.1 = 0 then (R_X0_staleIf_103 v0 v1 v2 (v3 ||| (1 <<< ((v5 : Int32).toInt64 &&& 63))) v5 q4.2)
  else (R_X0_staleIf_103 v0 v1 v2 v3 v5 q4.2))) := by
  unfold R_X0_staleIf_68
  rw [s_run_eq]
  show s_go _ _ (T_X0_staleIf_68 v0 v1 v2 v3 v5 v7 w0 σ) = _
  unfold T_X0_staleIf_68
  simp only [s_go_bind, s_go_ite, s_go_sum, s_go_l, s_go_r, s_go_n]
  try rfl
theorem E_X0_staleIf_103 {v0 : Nat} {v1 : Int32} {v2 : Int32} {v3 : Int64} {v5 : Int32} {σ : sS} : R_X0_staleIf_103 v0 v1 v2 v3 v5 σ = (R_X0_staleIf_5 v0 v1 v2 v3 (v5 + 1) σ) := by
  unfold R_X0_staleIf_103
  rw [s_run_eq]
  show s_go _ _ (T_X0_staleIf_103 v0 v1 v2 v3 v5 σ) = _
  unfold T_X0_staleIf_103
  simp only [s_go_bind, s_go_ite, s_go_sum, s_go_l, s_go_r, s_go_n]
  try rfl
theorem E_X0_staleIf_115 {v0 : Nat} {v3 : Int64} {v5 : Int64} {v7 : Int32} {σ : sS} : R_X0_staleIf_115 v0 v3 v5 v7 σ = ((s_fr σ v0 0 5).bind fun x1 =>
  (s_fi σ x1 1 6).bind fun x2 =>
  if x2 ≤ v7 then (some (v5, σ))
  else ((s_fr σ v0 0 5).bind fun x3 =>
  (s_fr σ x3 1 7).bind fun x4 =>
  (s_al σ x4 v7).bind fun x5 =>
  if (lg_cmp (x5 &&& v3) 0) = 0 then (R_X0_staleIf_153 v0 v3 v5 v7 σ)
  else (R_X0_staleIf_153 v0 v3 (v5 ||| (1 <<< ((v7 : Int32).toInt64 &&& 63))) v7 σ))) := by
  unfold R_X0_staleIf_115
  rw [s_run_eq]
  show s_go _ _ (T_X0_staleIf_115 v0 v3 v5 v7 σ) = _
  unfold T_X0_staleIf_115
  simp only [s_go_bind, s_go_ite, s_go_sum, s_go_l, s_go_r, s_go_n]
  try rfl
theorem E_X0_staleIf_153 {v0 : Nat} {v3 : Int64} {v5 : Int64} {v7 : Int32} {σ : sS} : R_X0_staleIf_153 v0 v3 v5 v7 σ = (R_X0_staleIf_115 v0 v3 v5 (v7 + 1) σ) := by
  unfold R_X0_staleIf_153
  rw [s_run_eq]
  show s_go _ _ (T_X0_staleIf_153 v0 v3 v5 v7 σ) = _
  unfold T_X0_staleIf_153
  simp only [s_go_bind, s_go_ite, s_go_sum, s_go_l, s_go_r, s_go_n]
  try rfl
theorem E_X0_staleIf {v0 : Nat} {v1 : Int32} {v2 : Int32} {σ : sS} : F_X0_staleIf v0 v1 v2 σ = ((s_is σ v0 0).bind fun _ => R_X0_staleIf_0 v0 v1 v2 σ) := rfl
