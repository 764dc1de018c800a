/-! X8_relates -/
noncomputable def T_X8_relates_0 (v0 : Nat) (v1 : Int32) (σ : sS) : Option (sZ Unit) :=
  (s_pf σ v0 8 34 (.int 0)).bind fun σ1 =>
  some (.inl (7, [.ref v0, .int v1, .int 0], σ1))
noncomputable def U_X8_relates_0 (vs : List Value) (σ : sS) : Option (sZ Unit) := (g_r vs).bind fun a0 => (g_i a0.2).bind fun a1 => (g_e a1.2).bind fun _ => T_X8_relates_0 a0.1 a1.1 σ
noncomputable def T_X8_relates_7 (v0 : Nat) (v1 : Int32) (v2 : Int32) (σ : sS) : Option (sZ Unit) :=
  (s_fi σ v0 8 33).bind fun x1 =>
  if x1 ≤ v2 then (some (.inl (221, [.ref v0, .int 0], σ)))
  else ((s_fr σ v0 8 23).bind fun x2 =>
  (F_X8_at v0 (30 + v2) 0 σ).bind fun q3 =>
  (s_si q3.2 x2 v2 q3.1).bind fun σ4 =>
  (s_fr σ4 v0 8 23).bind fun x5 =>
  (s_ai σ4 x5 v2).bind fun x6 =>
  (F_X8_isJoining x6 σ4).bind fun q7 =>
  (s_fr q7.2 v0 8 24).bind fun x8 =>
  if q7.1 = 0 then ((s_fr q7.2 v0 8 23).bind fun x9 =>
  (s_ai q7.2 x9 v2).bind fun x10 =>
  if x10 = 12 then ((s_fr q7.2 v0 8 4).bind fun x11 =>
  (s_ai q7.2 x11 (30 + v2)).bind fun x12 =>
  (F_X8_partAt v0 (30 + v2) 1 x12 (-1) q7.2).bind fun q13 =>
  some (.inl (97, [.ref v0, .int v1, .int v2, .int (30 + v2), .int q7.1, .int q13.1, .int v2, .ref x8], q13.2)))
  else (some (.inl (97, [.ref v0, .int v1, .int v2, .int (30 + v2), .int q7.1, .int (-1), .int v2, .ref x8], q7.2))))
  else ((F_X8_endOf v0 (30 + v2) 1 q7.2).bind fun q14 =>
  (F_X8_partAt v0 (30 + v2) 1 q14.1 (-1) q14.2).bind fun q15 =>
  some (.inl (97, [.ref v0, .int v1, .int v2, .int (30 + v2), .int q7.1, .int q15.1, .int v2, .ref x8], q15.2))))
noncomputable def U_X8_relates_7 (vs : List Value) (σ : sS) : Option (sZ Unit) := (g_r vs).bind fun a0 => (g_i a0.2).bind fun a1 => (g_i a1.2).bind fun a2 => (g_e a2.2).bind fun _ => T_X8_relates_7 a0.1 a1.1 a2.1 σ
noncomputable def T_X8_relates_97 (v0 : Nat) (v1 : Int32) (v2 : Int32) (v3 : Int32) (v4 : Int32) (w0 : Int32) (w1 : Int32) (w2 : Nat) (σ : sS) : Option (sZ Unit) :=
  (s_si σ w2 w1 w0).bind fun σ1 =>
  (s_fr σ1 v0 8 25).bind fun x2 =>
  if v4 = 0 then (some (.inl (130, [.ref v0, .int v1, .int v2, .int v3, .int (-1), .int v2, .ref x2], σ1)))
  else ((F_X8_endOf v0 v3 1 σ1).bind fun q3 =>
  (s_fr q3.2 v0 8 4).bind fun x4 =>
  (s_ai q3.2 x4 v3).bind fun x5 =>
  (F_X8_partAt v0 v3 q3.1 x5 (-1) q3.2).bind fun q6 =>
  some (.inl (130, [.ref v0, .int v1, .int v2, .int v3, .int q6.1, .int v2, .ref x2], q6.2)))
noncomputable def U_X8_relates_97 (vs : List Value) (σ : sS) : Option (sZ Unit) := (g_r vs).bind fun a0 => (g_i a0.2).bind fun a1 => (g_i a1.2).bind fun a2 => (g_i a2.2).bind fun a3 => (g_i a3.2).bind fun a4 => (g_i a4.2).bind fun a5 => (g_i a5.2).bind fun a6 => (g_r a6.2).bind fun a7 => (g_e a7.2).bind fun _ => T_X8_relates_97 a0.1 a1.1 a2.1 a3.1 a4.1 a5.1 a6.1 a7.1 σ
noncomputable def T_X8_relates_130 (v0 : Nat) (v1 : Int32) (v2 : Int32) (v3 : Int32) (w0 : Int32) (w1 : Int32) (w2 : Nat) (σ : sS) : Option (sZ Unit) :=
  (s_si σ w2 w1 w0).bind fun σ1 =>
  some (.inl (134, [.ref v0, .int v1, .int v2, .int v3, .int 0], σ1))
noncomputable def U_X8_relates_130 (vs : List Value) (σ : sS) : Option (sZ Unit) := (g_r vs).bind fun a0 => (g_i a0.2).bind fun a1 => (g_i a1.2).bind fun a2 => (g_i a2.2).bind fun a3 => (g_i a3.2).bind fun a4 => (g_i a4.2).bind fun a5 => (g_r a5.2).bind fun a6 => (g_e a6.2).bind fun _ => T_X8_relates_130 a0.1 a1.1 a2.1 a3.1 a4.1 a5.1 a6.1 σ
noncomputable def T_X8_relates_134 (v0 : Nat) (v1 : Int32) (v2 : Int32) (v3 : Int32) (v5 : Int32) (σ : sS) : Option (sZ Unit) :=
  (F_X8_d v0 σ).bind fun q1 =>
  if q1.1 ≤ v5 then ((s_fr q1.2 v0 8 27).bind fun x2 =>
  (F_X8_isAmong v0 v3 v1 q1.2).bind fun q3 =>
  (s_sb q3.2 x2 v2 q3.1).bind fun σ4 =>
  some (.inl (7, [.ref v0, .int v1, .int (v2 + 1)], σ4)))
  else ((s_fr q1.2 v0 8 26).bind fun x5 =>
  (s_fr q1.2 v0 8 23).bind fun x6 =>
  (s_ai q1.2 x6 v2).bind fun x7 =>
  (F_X8_isLone x7 q1.2).bind fun q8 =>
  if q8.1 = 0 then (some (.inl (193, [.ref v0, .int v1, .int v2, .int v3, .int v5, .int ((3 * v2) + v5), .ref x5], q8.2)))
  else ((s_fr q8.2 v0 8 23).bind fun x9 =>
  (s_ai q8.2 x9 v2).bind fun x10 =>
  if x10 = 12 then (some (.inl (193, [.ref v0, .int v1, .int v2, .int v3, .int v5, .int ((3 * v2) + v5), .ref x5], q8.2)))
  else ((s_fr q8.2 v0 8 4).bind fun x11 =>
  (s_ai q8.2 x11 v3).bind fun x12 =>
  (F_X8_partAt v0 v3 1 x12 v5 q8.2).bind fun q13 =>
  some (.inl (194, [.ref v0, .int v1, .int v2, .int v3, .int v5, .int q13.1, .int ((3 * v2) + v5), .ref x5], q13.2)))))
noncomputable def U_X8_relates_134 (vs : List Value) (σ : sS) : Option (sZ Unit) := (g_r vs).bind fun a0 => (g_i a0.2).bind fun a1 => (g_i a1.2).bind fun a2 => (g_i a2.2).bind fun a3 => (g_i a3.2).bind fun a4 => (g_e a4.2).bind fun _ => T_X8_relates_134 a0.1 a1.1 a2.1 a3.1 a4.1 σ
noncomputable def T_X8_relates_193 (v0 : Nat) (v1 : Int32) (v2 : Int32) (v3 : Int32) (v5 : Int32) (w0 : Int32) (w1 : Nat) (σ : sS) : Option (sZ Unit) :=
  some (.inl (194, [.ref v0, .int v1, .int v2, .int v3, .int v5, .int (-1), .int w0, .ref w1], σ))
noncomputable def U_X8_relates_193 (vs : List Value) (σ : sS) : Option (sZ Unit) := (g_r vs).bind fun a0 => (g_i a0.2).bind fun a1 => (g_i a1.2).bind fun a2 => (g_i a2.2).bind fun a3 => (g_i a3.2).bind fun a4 => (g_i a4.2).bind fun a5 => (g_r a5.2).bind fun a6 => (g_e a6.2).bind fun _ => T_X8_relates_193 a0.1 a1.1 a2.1 a3.1 a4.1 a5.1 a6.1 σ
noncomputable def T_X8_relates_194 (v0 : Nat) (v1 : Int32) (v2 : Int32) (v3 : Int32) (v5 : Int32) (w0 : Int32) (w1 : Int32) (w2 : Nat) (σ : sS) : Option (sZ Unit) :=
  (s_si σ w2 w1 w0).bind fun σ1 =>
  some (.inl (134, [.ref v0, .int v1, .int v2, .int v3, .int (v5 + 1)], σ1))
noncomputable def U_X8_relates_194 (vs : List Value) (σ : sS) : Option (sZ Unit) := (g_r vs).bind fun a0 => (g_i a0.2).bind fun a1 => (g_i a1.2).bind fun a2 => (g_i a2.2).bind fun a3 => (g_i a3.2).bind fun a4 => (g_i a4.2).bind fun a5 => (g_i a5.2).bind fun a6 => (g_r a6.2).bind fun a7 => (g_e a7.2).bind fun _ => T_X8_relates_194 a0.1 a1.1 a2.1 a3.1 a4.1 a5.1 a6.1 a7.1 σ
noncomputable def T_X8_relates_221 (v0 : Nat) (v2 : Int32) (σ : sS) : Option (sZ Unit) :=
  (s_fi σ v0 8 33).bind fun x1 =>
  if x1 ≤ v2 then (some (.inl (301, [.ref v0], σ)))
  else ((s_fi σ v0 8 34).bind fun x2 =>
  if (3 : Int32) ≤ x2 then (some (.inl (301, [.ref v0], σ)))
  else ((s_fr σ v0 8 23).bind fun x3 =>
  (s_ai σ x3 v2).bind fun x4 =>
  if x4 = 15 then ((s_fr σ v0 8 24).bind fun x5 =>
  (s_ai σ x5 v2).bind fun x6 =>
  if x6 < 0 then (some (.inl (295, [.ref v0, .int v2], σ)))
  else ((s_fr σ v0 8 24).bind fun x7 =>
  (s_ai σ x7 v2).bind fun x8 =>
  (F_X8_assumedAt v0 x8 σ).bind fun q9 =>
  if (0 : Int32) ≤ q9.1 then (some (.inl (295, [.ref v0, .int v2], q9.2)))
  else ((s_fr q9.2 v0 8 32).bind fun x10 =>
  (s_fi q9.2 v0 8 34).bind fun x11 =>
  (s_fr q9.2 v0 8 24).bind fun x12 =>
  (s_ai q9.2 x12 v2).bind fun x13 =>
  (s_si q9.2 x10 x11 x13).bind fun σ14 =>
  (s_fi σ14 v0 8 34).bind fun x15 =>
  (s_pf σ14 v0 8 34 (.int (x15 + 1))).bind fun σ16 =>
  some (.inl (295, [.ref v0, .int v2], σ16)))))
  else (some (.inl (295, [.ref v0, .int v2], σ)))))
noncomputable def U_X8_relates_221 (vs : List Value) (σ : sS) : Option (sZ Unit) := (g_r vs).bind fun a0 => (g_i a0.2).bind fun a1 => (g_e a1.2).bind fun _ => T_X8_relates_221 a0.1 a1.1 σ
noncomputable def T_X8_relates_295 (v0 : Nat) (v2 : Int32) (σ : sS) : Option (sZ Unit) :=
  some (.inl (221, [.ref v0, .int (v2 + 1)], σ))
noncomputable def U_X8_relates_295 (vs : List Value) (σ : sS) : Option (sZ Unit) := (g_r vs).bind fun a0 => (g_i a0.2).bind fun a1 => (g_e a1.2).bind fun _ => T_X8_relates_295 a0.1 a1.1 σ
noncomputable def T_X8_relates_301 (v0 : Nat) (σ : sS) : Option (sZ Unit) :=
  some (.inl (303, [.ref v0, .int 0], σ))
noncomputable def U_X8_relates_301 (vs : List Value) (σ : sS) : Option (sZ Unit) := (g_r vs).bind fun a0 => (g_e a0.2).bind fun _ => T_X8_relates_301 a0.1 σ
noncomputable def T_X8_relates_303 (v0 : Nat) (v2 : Int32) (σ : sS) : Option (sZ Unit) :=
  (s_fi σ v0 8 33).bind fun x1 =>
  if x1 ≤ v2 then (some (.inr ((), σ)))
  else (some (.inl (313, [.ref v0, .int v2, .int 0], σ)))
noncomputable def U_X8_relates_303 (vs : List Value) (σ : sS) : Option (sZ Unit) := (g_r vs).bind fun a0 => (g_i a0.2).bind fun a1 => (g_e a1.2).bind fun _ => T_X8_relates_303 a0.1 a1.1 σ
noncomputable def T_X8_relates_313 (v0 : Nat) (v2 : Int32) (v3 : Int32) (σ : sS) : Option (sZ Unit) :=
  (s_fi σ v0 8 33).bind fun x1 =>
  if x1 ≤ v3 then (some (.inl (303, [.ref v0, .int (v2 + 1)], σ)))
  else ((s_fr σ v0 8 28).bind fun x2 =>
  (F_X8_isOfSome v0 (30 + v2) 16 (30 + v3) σ).bind fun q3 =>
  (s_sb q3.2 x2 ((40 * v2) + v3) q3.1).bind fun σ4 =>
  (s_fr σ4 v0 8 29).bind fun x5 =>
  (F_X8_isTwice v0 (30 + v2) (30 + v3) σ4).bind fun q6 =>
  (s_sb q6.2 x5 ((40 * v2) + v3) q6.1).bind fun σ7 =>
  (s_fr σ7 v0 8 30).bind fun x8 =>
  (s_fr σ7 v0 8 23).bind fun x9 =>
  (s_ai σ7 x9 v2).bind fun x10 =>
  if x10 = 14 then ((F_X8_endOf v0 (30 + v2) 1 σ7).bind fun q11 =>
  (F_X8_caseOf v0 (30 + v2) 1 q11.1 v3 q11.2).bind fun q12 =>
  some (.inl (409, [.ref v0, .int v2, .int v3, .int ((40 * v2) + v3), .int q12.1, .int ((40 * v2) + v3), .ref x8], q12.2)))
  else (some (.inl (409, [.ref v0, .int v2, .int v3, .int ((40 * v2) + v3), .int (-1), .int ((40 * v2) + v3), .ref x8], σ7))))
noncomputable def U_X8_relates_313 (vs : List Value) (σ : sS) : Option (sZ Unit) := (g_r vs).bind fun a0 => (g_i a0.2).bind fun a1 => (g_i a1.2).bind fun a2 => (g_e a2.2).bind fun _ => T_X8_relates_313 a0.1 a1.1 a2.1 σ
noncomputable def T_X8_relates_409 (v0 : Nat) (v2 : Int32) (v3 : Int32) (v4 : Int32) (w0 : Int32) (w1 : Int32) (w2 : Nat) (σ : sS) : Option (sZ Unit) :=
  (s_si σ w2 w1 w0).bind fun σ1 =>
  (s_fr σ1 v0 8 31).bind fun x2 =>
  (s_fr σ1 v0 8 23).bind fun x3 =>
  (s_ai σ1 x3 v2).bind fun x4 =>
  if x4 = 14 then ((F_X8_endOf v0 (30 + v2) 1 σ1).bind fun q5 =>
  (s_fr q5.2 v0 8 4).bind fun x6 =>
  (s_ai q5.2 x6 (30 + v2)).bind fun x7 =>
  (F_X8_caseOf v0 (30 + v2) q5.1 x7 v3 q5.2).bind fun q8 =>
  some (.inl (458, [.ref v0, .int v2, .int v3, .int q8.1, .int v4, .ref x2], q8.2)))
  else (some (.inl (458, [.ref v0, .int v2, .int v3, .int (-1), .int v4, .ref x2], σ1)))
noncomputable def U_X8_relates_409 (vs : List Value) (σ : sS) : Option (sZ Unit) := (g_r vs).bind fun a0 => (g_i a0.2).bind fun a1 => (g_i a1.2).bind fun a2 => (g_i a2.2).bind fun a3 => (g_i a3.2).bind fun a4 => (g_i a4.2).bind fun a5 => (g_r a5.2).bind fun a6 => (g_e a6.2).bind fun _ => T_X8_relates_409 a0.1 a1.1 a2.1 a3.1 a4.1 a5.1 a6.1 σ
noncomputable def T_X8_relates_458 (v0 : Nat) (v2 : Int32) (v3 : Int32) (w0 : Int32) (w1 : Int32) (w2 : Nat) (σ : sS) : Option (sZ Unit) :=
  (s_si σ w2 w1 w0).bind fun σ1 =>
  some (.inl (313, [.ref v0, .int v2, .int (v3 + 1)], σ1))
noncomputable def U_X8_relates_458 (vs : List Value) (σ : sS) : Option (sZ Unit) := (g_r vs).bind fun a0 => (g_i a0.2).bind fun a1 => (g_i a1.2).bind fun a2 => (g_i a2.2).bind fun a3 => (g_i a3.2).bind fun a4 => (g_r a4.2).bind fun a5 => (g_e a5.2).bind fun _ => T_X8_relates_458 a0.1 a1.1 a2.1 a3.1 a4.1 a5.1 σ
noncomputable def S_X8_relates (x : sL) : Option (sZ Unit) := if x.1 = 0 then U_X8_relates_0 x.2.1 x.2.2 else if x.1 = 7 then U_X8_relates_7 x.2.1 x.2.2 else if x.1 = 97 then U_X8_relates_97 x.2.1 x.2.2 else if x.1 = 130 then U_X8_relates_130 x.2.1 x.2.2 else if x.1 = 134 then U_X8_relates_134 x.2.1 x.2.2 else if x.1 = 193 then U_X8_relates_193 x.2.1 x.2.2 else if x.1 = 194 then U_X8_relates_194 x.2.1 x.2.2 else if x.1 = 221 then U_X8_relates_221 x.2.1 x.2.2 else if x.1 = 295 then U_X8_relates_295 x.2.1 x.2.2 else if x.1 = 301 then U_X8_relates_301 x.2.1 x.2.2 else if x.1 = 303 then U_X8_relates_303 x.2.1 x.2.2 else if x.1 = 313 then U_X8_relates_313 x.2.1 x.2.2 else if x.1 = 409 then U_X8_relates_409 x.2.1 x.2.2 else if x.1 = 458 then U_X8_relates_458 x.2.1 x.2.2 else none
def Y_X8_relates (pc : Nat) : List Nat := if pc = 0 then [0, 1] else if pc = 7 then [0, 1, 2] else if pc = 97 then [0, 1, 2, 3, 4] else if pc = 130 then [0, 1, 2, 3] else if pc = 134 then [0, 1, 2, 3, 5] else if pc = 193 then [0, 1, 2, 3, 5] else if pc = 194 then [0, 1, 2, 3, 5] else if pc = 221 then [0, 2] else if pc = 295 then [0, 2] else if pc = 301 then [0] else if pc = 303 then [0, 2] else if pc = 313 then [0, 2, 3] else if pc = 409 then [0, 2, 3, 4] else if pc = 458 then [0, 2, 3] else []
noncomputable def F_X8_relates (v0 : Nat) (v1 : Int32) (σ : sS) : Option (Unit × sS) := (s_is σ v0 8).bind fun _ => s_run S_X8_relates (0, [.ref v0, .int v1], σ)
theorem l_X8_relates_0 {v0 : Nat} {v1 : Int32} {σ : sS} {z : sZ Unit} (hf : T_X8_relates_0 v0 v1 σ = some z) : s_lz σ z := by
  unfold T_X8_relates_0 at hf
  obtain ⟨σ1, hh, hf⟩ := s_bind hf
  refine s_lz.tr (s_le2 (s_pf_2 hh)) ?_
  cases hf
  exact s_le.rf
theorem l_X8_relates_7 {v0 : Nat} {v1 : Int32} {v2 : Int32} {σ : sS} {z : sZ Unit} (hf : T_X8_relates_7 v0 v1 v2 σ = some z) : s_lz σ z := by
  unfold T_X8_relates_7 at hf
  obtain ⟨x1, -, hf⟩ := s_bind hf
  rcases s_ite hf with ⟨-, hf⟩ | ⟨-, hf⟩
  · cases hf
    exact s_le.rf
  · obtain ⟨x2, -, hf⟩ := s_bind hf
    obtain ⟨q3, hh, hf⟩ := s_bind hf
    refine s_lz.tr (l_X8_at hh) ?_
    obtain ⟨σ4, hh, hf⟩ := s_bind hf
    refine s_lz.tr (s_le2 (s_si_2 hh)) ?_
    obtain ⟨x5, -, hf⟩ := s_bind hf
    obtain ⟨x6, -, hf⟩ := s_bind hf
    obtain ⟨q7, hh, hf⟩ := s_bind hf
    refine s_lz.tr (l_X8_isJoining hh) ?_
    obtain ⟨x8, -, hf⟩ := s_bind hf
    rcases s_ite hf with ⟨-, hf⟩ | ⟨-, hf⟩
    · obtain ⟨x9, -, hf⟩ := s_bind hf
      obtain ⟨x10, -, hf⟩ := s_bind hf
      rcases s_ite hf with ⟨-, hf⟩ | ⟨-, hf⟩
      · obtain ⟨x11, -, hf⟩ := s_bind hf
        obtain ⟨x12, -, hf⟩ := s_bind hf
        obtain ⟨q13, hh, hf⟩ := s_bind hf
        refine s_lz.tr (l_X8_partAt hh) ?_
        cases hf
        exact s_le.rf
      · cases hf
        exact s_le.rf
    · obtain ⟨q14, hh, hf⟩ := s_bind hf
      refine s_lz.tr (l_X8_endOf hh) ?_
      obtain ⟨q15, hh, hf⟩ := s_bind hf
      refine s_lz.tr (l_X8_partAt hh) ?_
      cases hf
      exact s_le.rf
theorem l_X8_relates_97 {v0 : Nat} {v1 : Int32} {v2 : Int32} {v3 : Int32} {v4 : Int32} {w0 : Int32} {w1 : Int32} {w2 : Nat} {σ : sS} {z : sZ Unit} (hf : T_X8_relates_97 v0 v1 v2 v3 v4 w0 w1 w2 σ = some z) : s_lz σ z := by
  unfold T_X8_relates_97 at hf
  obtain ⟨σ1, hh, hf⟩ := s_bind hf
  refine s_lz.tr (s_le2 (s_si_2 hh)) ?_
  obtain ⟨x2, -, hf⟩ := s_bind hf
  rcases s_ite hf with ⟨-, hf⟩ | ⟨-, hf⟩
  · cases hf
    exact s_le.rf
  · obtain ⟨q3, hh, hf⟩ := s_bind hf
    refine s_lz.tr (l_X8_endOf hh) ?_
    obtain ⟨x4, -, hf⟩ := s_bind hf
    obtain ⟨x5, -, hf⟩ := s_bind hf
    obtain ⟨q6, hh, hf⟩ := s_bind hf
    refine s_lz.tr (l_X8_partAt hh) ?_
    cases hf
    exact s_le.rf
theorem l_X8_relates_130 {v0 : Nat} {v1 : Int32} {v2 : Int32} {v3 : Int32} {w0 : Int32} {w1 : Int32} {w2 : Nat} {σ : sS} {z : sZ Unit} (hf : T_X8_relates_130 v0 v1 v2 v3 w0 w1 w2 σ = some z) : s_lz σ z := by
  unfold T_X8_relates_130 at hf
  obtain ⟨σ1, hh, hf⟩ := s_bind hf
  refine s_lz.tr (s_le2 (s_si_2 hh)) ?_
  cases hf
  exact s_le.rf
theorem l_X8_relates_134 {v0 : Nat} {v1 : Int32} {v2 : Int32} {v3 : Int32} {v5 : Int32} {σ : sS} {z : sZ Unit} (hf : T_X8_relates_134 v0 v1 v2 v3 v5 σ = some z) : s_lz σ z := by
  unfold T_X8_relates_134 at hf
  obtain ⟨q1, hh, hf⟩ := s_bind hf
  refine s_lz.tr (l_X8_d hh) ?_
  rcases s_ite hf with ⟨-, hf⟩ | ⟨-, hf⟩
  · obtain ⟨x2, -, hf⟩ := s_bind hf
    obtain ⟨q3, hh, hf⟩ := s_bind hf
    refine s_lz.tr (l_X8_isAmong hh) ?_
    obtain ⟨σ4, hh, hf⟩ := s_bind hf
    refine s_lz.tr (s_le2 (s_sb_2 hh)) ?_
    cases hf
    exact s_le.rf
  · obtain ⟨x5, -, hf⟩ := s_bind hf
    obtain ⟨x6, -, hf⟩ := s_bind hf
    obtain ⟨x7, -, hf⟩ := s_bind hf
    obtain ⟨q8, hh, hf⟩ := s_bind hf
    refine s_lz.tr (l_X8_isLone hh) ?_
    rcases s_ite hf with ⟨-, hf⟩ | ⟨-, hf⟩
    · cases hf
      exact s_le.rf
    · obtain ⟨x9, -, hf⟩ := s_bind hf
      obtain ⟨x10, -, hf⟩ := s_bind hf
      rcases s_ite hf with ⟨-, hf⟩ | ⟨-, hf⟩
      · cases hf
        exact s_le.rf
      · obtain ⟨x11, -, hf⟩ := s_bind hf
        obtain ⟨x12, -, hf⟩ := s_bind hf
        obtain ⟨q13, hh, hf⟩ := s_bind hf
        refine s_lz.tr (l_X8_partAt hh) ?_
        cases hf
        exact s_le.rf
theorem l_X8_relates_193 {v0 : Nat} {v1 : Int32} {v2 : Int32} {v3 : Int32} {v5 : Int32} {w0 : Int32} {w1 : Nat} {σ : sS} {z : sZ Unit} (hf : T_X8_relates_193 v0 v1 v2 v3 v5 w0 w1 σ = some z) : s_lz σ z := by
  unfold T_X8_relates_193 at hf
  cases hf
  exact s_le.rf
theorem l_X8_relates_194 {v0 : Nat} {v1 : Int32} {v2 : Int32} {v3 : Int32} {v5 : Int32} {w0 : Int32} {w1 : Int32} {w2 : Nat} {σ : sS} {z : sZ Unit} (hf : T_X8_relates_194 v0 v1 v2 v3 v5 w0 w1 w2 σ = some z) : s_lz σ z := by
  unfold T_X8_relates_194 at hf
  obtain ⟨σ1, hh, hf⟩ := s_bind hf
  refine s_lz.tr (s_le2 (s_si_2 hh)) ?_
  cases hf
  exact s_le.rf
theorem l_X8_relates_221 {v0 : Nat} {v2 : Int32} {σ : sS} {z : sZ Unit} (hf : T_X8_relates_221 v0 v2 σ = some z) : s_lz σ z := by
  unfold T_X8_relates_221 at hf
  obtain ⟨x1, -, hf⟩ := s_bind hf
  rcases s_ite hf with ⟨-, hf⟩ | ⟨-, hf⟩
  · cases hf
    exact s_le.rf
  · obtain ⟨x2, -, hf⟩ := s_bind hf
    rcases s_ite hf with ⟨-, hf⟩ | ⟨-, hf⟩
    · cases hf
      exact s_le.rf
    · obtain ⟨x3, -, hf⟩ := s_bind hf
      obtain ⟨x4, -, hf⟩ := s_bind hf
      rcases s_ite hf with ⟨-, hf⟩ | ⟨-, hf⟩
      · obtain ⟨x5, -, hf⟩ := s_bind hf
        obtain ⟨x6, -, hf⟩ := s_bind hf
        rcases s_ite hf with ⟨-, hf⟩ | ⟨-, hf⟩
        · cases hf
          exact s_le.rf
        · obtain ⟨x7, -, hf⟩ := s_bind hf
          obtain ⟨x8, -, hf⟩ := s_bind hf
          obtain ⟨q9, hh, hf⟩ := s_bind hf
          refine s_lz.tr (l_X8_assumedAt hh) ?_
          rcases s_ite hf with ⟨-, hf⟩ | ⟨-, hf⟩
          · cases hf
            exact s_le.rf
          · obtain ⟨x10, -, hf⟩ := s_bind hf
            obtain ⟨x11, -, hf⟩ := s_bind hf
            obtain ⟨x12, -, hf⟩ := s_bind hf
            obtain ⟨x13, -, hf⟩ := s_bind hf
            obtain ⟨σ14, hh, hf⟩ := s_bind hf
            refine s_lz.tr (s_le2 (s_si_2 hh)) ?_
            obtain ⟨x15, -, hf⟩ := s_bind hf
            obtain ⟨σ16, hh, hf⟩ := s_bind hf
            refine s_lz.tr (s_le2 (s_pf_2 hh)) ?_
            cases hf
            exact s_le.rf
      · cases hf
        exact s_le.rf
theorem l_X8_relates_295 {v0 : Nat} {v2 : Int32} {σ : sS} {z : sZ Unit} (hf : T_X8_relates_295 v0 v2 σ = some z) : s_lz σ z := by
  unfold T_X8_relates_295 at hf
  cases hf
  exact s_le.rf
theorem l_X8_relates_301 {v0 : Nat} {σ : sS} {z : sZ Unit} (hf : T_X8_relates_301 v0 σ = some z) : s_lz σ z := by
  unfold T_X8_relates_301 at hf
  cases hf
  exact s_le.rf
theorem l_X8_relates_303 {v0 : Nat} {v2 : Int32} {σ : sS} {z : sZ Unit} (hf : T_X8_relates_303 v0 v2 σ = some z) : s_lz σ z := by
  unfold T_X8_relates_303 at hf
  obtain ⟨x1, -, hf⟩ := s_bind hf
  rcases s_ite hf with ⟨-, hf⟩ | ⟨-, hf⟩
  · cases hf
    exact s_le.rf
  · cases hf
    exact s_le.rf
theorem l_X8_relates_313 {v0 : Nat} {v2 : Int32} {v3 : Int32} {σ : sS} {z : sZ Unit} (hf : T_X8_relates_313 v0 v2 v3 σ = some z) : s_lz σ z := by
  unfold T_X8_relates_313 at hf
  obtain ⟨x1, -, hf⟩ := s_bind hf
  rcases s_ite hf with ⟨-, hf⟩ | ⟨-, hf⟩
  · cases hf
    exact s_le.rf
  · obtain ⟨x2, -, hf⟩ := s_bind hf
    obtain ⟨q3, hh, hf⟩ := s_bind hf
    refine s_lz.tr (l_X8_isOfSome hh) ?_
    obtain ⟨σ4, hh, hf⟩ := s_bind hf
    refine s_lz.tr (s_le2 (s_sb_2 hh)) ?_
    obtain ⟨x5, -, hf⟩ := s_bind hf
    obtain ⟨q6, hh, hf⟩ := s_bind hf
    refine s_lz.tr (l_X8_isTwice hh) ?_
    obtain ⟨σ7, hh, hf⟩ := s_bind hf
    refine s_lz.tr (s_le2 (s_sb_2 hh)) ?_
    obtain ⟨x8, -, hf⟩ := s_bind hf
    obtain ⟨x9, -, hf⟩ := s_bind hf
    obtain ⟨x10, -, hf⟩ := s_bind hf
    rcases s_ite hf with ⟨-, hf⟩ | ⟨-, hf⟩
    · obtain ⟨q11, hh, hf⟩ := s_bind hf
      refine s_lz.tr (l_X8_endOf hh) ?_
      obtain ⟨q12, hh, hf⟩ := s_bind hf
      refine s_lz.tr (l_X8_caseOf hh) ?_
      cases hf
      exact s_le.rf
    · cases hf
      exact s_le.rf
theorem l_X8_relates_409 {v0 : Nat} {v2 : Int32} {v3 : Int32} {v4 : Int32} {w0 : Int32} {w1 : Int32} {w2 : Nat} {σ : sS} {z : sZ Unit} (hf : T_X8_relates_409 v0 v2 v3 v4 w0 w1 w2 σ = some z) : s_lz σ z := by
  unfold T_X8_relates_409 at hf
  obtain ⟨σ1, hh, hf⟩ := s_bind hf
  refine s_lz.tr (s_le2 (s_si_2 hh)) ?_
  obtain ⟨x2, -, hf⟩ := s_bind hf
  obtain ⟨x3, -, hf⟩ := s_bind hf
  obtain ⟨x4, -, hf⟩ := s_bind hf
  rcases s_ite hf with ⟨-, hf⟩ | ⟨-, hf⟩
  · obtain ⟨q5, hh, hf⟩ := s_bind hf
    refine s_lz.tr (l_X8_endOf hh) ?_
    obtain ⟨x6, -, hf⟩ := s_bind hf
    obtain ⟨x7, -, hf⟩ := s_bind hf
    obtain ⟨q8, hh, hf⟩ := s_bind hf
    refine s_lz.tr (l_X8_caseOf hh) ?_
    cases hf
    exact s_le.rf
  · cases hf
    exact s_le.rf
theorem l_X8_relates_458 {v0 : Nat} {v2 : Int32} {v3 : Int32} {w0 : Int32} {w1 : Int32} {w2 : Nat} {σ : sS} {z : sZ Unit} (hf : T_X8_relates_458 v0 v2 v3 w0 w1 w2 σ = some z) : s_lz σ z := by
  unfold T_X8_relates_458 at hf
  obtain ⟨σ1, hh, hf⟩ := s_bind hf
  refine s_lz.tr (s_le2 (s_si_2 hh)) ?_
  cases hf
  exact s_le.rf
theorem l_X8_relates_s {x : sL} {z : sZ Unit} (hs : S_X8_relates x = some z) : s_lz x.2.2 z := by
  obtain ⟨pc, vs, σ⟩ := x
  unfold S_X8_relates at hs
  dsimp only at hs ⊢
  rcases s_ite hs with ⟨c, hs⟩ | ⟨-, hs⟩
  · subst c
    unfold U_X8_relates_0 at hs
    obtain ⟨a0, g0, hs⟩ := s_bind hs
    obtain ⟨a1, g1, hs⟩ := s_bind hs
    obtain ⟨u9, ge, hs⟩ := s_bind hs
    exact l_X8_relates_0 hs
  rcases s_ite hs with ⟨c, hs⟩ | ⟨-, hs⟩
  · subst c
    unfold U_X8_relates_7 at hs
    obtain ⟨a0, g0, hs⟩ := s_bind hs
    obtain ⟨a1, g1, hs⟩ := s_bind hs
    obtain ⟨a2, g2, hs⟩ := s_bind hs
    obtain ⟨u9, ge, hs⟩ := s_bind hs
    exact l_X8_relates_7 hs
  rcases s_ite hs with ⟨c, hs⟩ | ⟨-, hs⟩
  · subst c
    unfold U_X8_relates_97 at hs
    obtain ⟨a0, g0, hs⟩ := s_bind hs
    obtain ⟨a1, g1, hs⟩ := s_bind hs
    obtain ⟨a2, g2, hs⟩ := s_bind hs
    obtain ⟨a3, g3, hs⟩ := s_bind hs
    obtain ⟨a4, g4, hs⟩ := s_bind hs
    obtain ⟨a5, g5, hs⟩ := s_bind hs
    obtain ⟨a6, g6, hs⟩ := s_bind hs
    obtain ⟨a7, g7, hs⟩ := s_bind hs
    obtain ⟨u9, ge, hs⟩ := s_bind hs
    exact l_X8_relates_97 hs
  rcases s_ite hs with ⟨c, hs⟩ | ⟨-, hs⟩
  · subst c
    unfold U_X8_relates_130 at hs
    obtain ⟨a0, g0, hs⟩ := s_bind hs
    obtain ⟨a1, g1, hs⟩ := s_bind hs
    obtain ⟨a2, g2, hs⟩ := s_bind hs
    obtain ⟨a3, g3, hs⟩ := s_bind hs
    obtain ⟨a4, g4, hs⟩ := s_bind hs
    obtain ⟨a5, g5, hs⟩ := s_bind hs
    obtain ⟨a6, g6, hs⟩ := s_bind hs
    obtain ⟨u9, ge, hs⟩ := s_bind hs
    exact l_X8_relates_130 hs
  rcases s_ite hs with ⟨c, hs⟩ | ⟨-, hs⟩
  · subst c
    unfold U_X8_relates_134 at hs
    obtain ⟨a0, g0, hs⟩ := s_bind hs
    obtain ⟨a1, g1, hs⟩ := s_bind hs
    obtain ⟨a2, g2, hs⟩ := s_bind hs
    obtain ⟨a3, g3, hs⟩ := s_bind hs
    obtain ⟨a4, g4, hs⟩ := s_bind hs
    obtain ⟨u9, ge, hs⟩ := s_bind hs
    exact l_X8_relates_134 hs
  rcases s_ite hs with ⟨c, hs⟩ | ⟨-, hs⟩
  · subst c
    unfold U_X8_relates_193 at hs
    obtain ⟨a0, g0, hs⟩ := s_bind hs
    obtain ⟨a1, g1, hs⟩ := s_bind hs
    obtain ⟨a2, g2, hs⟩ := s_bind hs
    obtain ⟨a3, g3, hs⟩ := s_bind hs
    obtain ⟨a4, g4, hs⟩ := s_bind hs
    obtain ⟨a5, g5, hs⟩ := s_bind hs
    obtain ⟨a6, g6, hs⟩ := s_bind hs
    obtain ⟨u9, ge, hs⟩ := s_bind hs
    exact l_X8_relates_193 hs
  rcases s_ite hs with ⟨c, hs⟩ | ⟨-, hs⟩
  · subst c
    unfold U_X8_relates_194 at hs
    obtain ⟨a0, g0, hs⟩ := s_bind hs
    obtain ⟨a1, g1, hs⟩ := s_bind hs
    obtain ⟨a2, g2, hs⟩ := s_bind hs
    obtain ⟨a3, g3, hs⟩ := s_bind hs
    obtain ⟨a4, g4, hs⟩ := s_bind hs
    obtain ⟨a5, g5, hs⟩ := s_bind hs
    obtain ⟨a6, g6, hs⟩ := s_bind hs
    obtain ⟨a7, g7, hs⟩ := s_bind hs
    obtain ⟨u9, ge, hs⟩ := s_bind hs
    exact l_X8_relates_194 hs
  rcases s_ite hs with ⟨c, hs⟩ | ⟨-, hs⟩
  · subst c
    unfold U_X8_relates_221 at hs
    obtain ⟨a0, g0, hs⟩ := s_bind hs
    obtain ⟨a1, g1, hs⟩ := s_bind hs
    obtain ⟨u9, ge, hs⟩ := s_bind hs
    exact l_X8_relates_221 hs
  rcases s_ite hs with ⟨c, hs⟩ | ⟨-, hs⟩
  · subst c
    unfold U_X8_relates_295 at hs
    obtain ⟨a0, g0, hs⟩ := s_bind hs
    obtain ⟨a1, g1, hs⟩ := s_bind hs
    obtain ⟨u9, ge, hs⟩ := s_bind hs
    exact l_X8_relates_295 hs
  rcases s_ite hs with ⟨c, hs⟩ | ⟨-, hs⟩
  · subst c
    unfold U_X8_relates_301 at hs
    obtain ⟨a0, g0, hs⟩ := s_bind hs
    obtain ⟨u9, ge, hs⟩ := s_bind hs
    exact l_X8_relates_301 hs
  rcases s_ite hs with ⟨c, hs⟩ | ⟨-, hs⟩
  · subst c
    unfold U_X8_relates_303 at hs
    obtain ⟨a0, g0, hs⟩ := s_bind hs
    obtain ⟨a1, g1, hs⟩ := s_bind hs
    obtain ⟨u9, ge, hs⟩ := s_bind hs
    exact l_X8_relates_303 hs
  rcases s_ite hs with ⟨c, hs⟩ | ⟨-, hs⟩
  · subst c
    unfold U_X8_relates_313 at hs
    obtain ⟨a0, g0, hs⟩ := s_bind hs
    obtain ⟨a1, g1, hs⟩ := s_bind hs
    obtain ⟨a2, g2, hs⟩ := s_bind hs
    obtain ⟨u9, ge, hs⟩ := s_bind hs
    exact l_X8_relates_313 hs
  rcases s_ite hs with ⟨c, hs⟩ | ⟨-, hs⟩
  · subst c
    unfold U_X8_relates_409 at hs
    obtain ⟨a0, g0, hs⟩ := s_bind hs
    obtain ⟨a1, g1, hs⟩ := s_bind hs
    obtain ⟨a2, g2, hs⟩ := s_bind hs
    obtain ⟨a3, g3, hs⟩ := s_bind hs
    obtain ⟨a4, g4, hs⟩ := s_bind hs
    obtain ⟨a5, g5, hs⟩ := s_bind hs
    obtain ⟨a6, g6, hs⟩ := s_bind hs
    obtain ⟨u9, ge, hs⟩ := s_bind hs
    exact l_X8_relates_409 hs
  rcases s_ite hs with ⟨c, hs⟩ | ⟨-, hs⟩
  · subst c
    unfold U_X8_relates_458 at hs
    obtain ⟨a0, g0, hs⟩ := s_bind hs
    obtain ⟨a1, g1, hs⟩ := s_bind hs
    obtain ⟨a2, g2, hs⟩ := s_bind hs
    obtain ⟨a3, g3, hs⟩ := s_bind hs
    obtain ⟨a4, g4, hs⟩ := s_bind hs
    obtain ⟨a5, g5, hs⟩ := s_bind hs
    obtain ⟨u9, ge, hs⟩ := s_bind hs
    exact l_X8_relates_458 hs
  cases hs
theorem l_X8_relates {v0 : Nat} {v1 : Int32} {σ : sS} {q : Unit × sS} (h : F_X8_relates v0 v1 σ = some q) : s_le σ q.2 := by
  unfold F_X8_relates at h
  obtain ⟨-, -, h⟩ := s_bind h
  exact s_run_ind (V := fun x r => s_le x.2.2 r.2) (fun x z r hs hk => by
    have h9 := l_X8_relates_s hs
    cases z with
    | inl y => exact s_le.tr h9 hk
    | inr q => cases hk; exact h9) h
theorem b_X8_relates {v0 : Nat} {v1 : Int32} {σ : sS} {q : Unit × sS} (h : F_X8_relates v0 v1 σ = some q) : ∃ fs, σ.1 v0 = some (.inr (8, fs)) := by
  unfold F_X8_relates at h
  obtain ⟨u, hu, -⟩ := s_bind h
  exact s_is_to hu
set_option maxRecDepth 100000 in
set_option maxHeartbeats 4000000 in
theorem v_X8_relates_0 {G : sG} {d : Nat} {vs0 : List Value} {σ0 : sS} {v0 : Nat} {v1 : Int32} {σ : sS} {z : sZ Unit} {r : Unit × sS} (hf : T_X8_relates_0 v0 v1 σ = some z) (k : s_K G (d + 6) M_X8_relates vs0 σ0 Y_X8_relates e_V z r) : s_V G (d + 6) M_X8_relates vs0 σ0 Y_X8_relates (0, [.ref v0, .int v1], σ) (e_V r) := by
  have le0 : s_le σ (e_V r).2 := s_lek hem_V (l_X8_relates_0 hf) k
  refine ⟨le0, ?_⟩
  intro p e s m below meth c H locs cells slots ls X I hn1 hn2 hl
  have hn : cells + σ0.2.1 ≤ σ.2.1 ∧ slots + σ0.2.2.1 ≤ σ.2.2.1 := ⟨hn1, hn2⟩
  have hl : lv_has ls 6 [(0, .ref v0), (1, .int v1)] := hl
  have hx := X.1
  have hb : c.code = cX8_relates := X.2.1
  have hown : s.vm.findClass RX8 = some m.cls := X.2.2.2.2.2.1
  have hts := X.2.2.2.2.2.2.1
  refine W.eq (g2 := F0 m 0 ls []) rfl ?_
  unfold T_X8_relates_0 at hf
  obtain ⟨σ1, h1, hf⟩ := s_bind hf
  cases hf
  have k : s_V G (d + 6) M_X8_relates vs0 σ0 Y_X8_relates (7, [.ref v0, .int v1, .int 0], σ1) (e_V r) := k
  have le2 : s_le σ1 (e_V r).2 := k.1
  refine lv_aload_n hx hb dX8_relates_0 rfl (lv_at hl 0 rfl) ?_
  refine lv_iconst (v := 0) hx hb dX8_relates_1 (by decide) ?_
  refine r_put X I fp_X8_378 (fun h => by cases h) h1 rfl rfl dX8_relates_2 (fun H locs I => ?_)
  have hn := s_k2 (s_pf_2 h1) hn
  refine lv_iconst (v := 0) hx hb dX8_relates_5 (by decide) ?_
  refine lv_istore_n (lv' := [(2, .int 0), (0, .ref v0), (1, .int v1)]) hx hb dX8_relates_6 rfl hl (by decide) rfl (fun ls hl => ?_)
  exact k.2 p e s m below meth c _ _ _ _ _ X I hn.1 hn.2 (lv_sub hl [1, 2, 0] rfl)
set_option maxRecDepth 100000 in
set_option maxHeartbeats 4000000 in
theorem v_X8_relates_7 {G : sG} {d : Nat} {vs0 : List Value} {σ0 : sS} {v0 : Nat} {v1 : Int32} {v2 : Int32} {σ : sS} {z : sZ Unit} {r : Unit × sS} (hf : T_X8_relates_7 v0 v1 v2 σ = some z) (k : s_K G (d + 6) M_X8_relates vs0 σ0 Y_X8_relates e_V z r) : s_V G (d + 6) M_X8_relates vs0 σ0 Y_X8_relates (7, [.ref v0, .int v1, .int v2], σ) (e_V r) := by
  have le0 : s_le σ (e_V r).2 := s_lek hem_V (l_X8_relates_7 hf) k
  refine ⟨le0, ?_⟩
  intro p e s m below meth c H locs cells slots ls X I hn1 hn2 hl
  have hn : cells + σ0.2.1 ≤ σ.2.1 ∧ slots + σ0.2.2.1 ≤ σ.2.2.1 := ⟨hn1, hn2⟩
  have hl : lv_has ls 6 [(0, .ref v0), (1, .int v1), (2, .int v2)] := hl
  have hx := X.1
  have hb : c.code = cX8_relates := X.2.1
  have hown : s.vm.findClass RX8 = some m.cls := X.2.2.2.2.2.1
  have hts := X.2.2.2.2.2.2.1
  refine W.eq (g2 := F0 m 7 ls []) rfl ?_
  unfold T_X8_relates_7 at hf
  obtain ⟨x1, h1, hf⟩ := s_bind hf
  refine lv_iload_n hx hb dX8_relates_7 rfl (lv_at hl 2 rfl) ?_
  refine lv_aload_n hx hb dX8_relates_8 rfl (lv_at hl 0 rfl) ?_
  refine r_gi X I fl_X8_360 h1 dX8_relates_9 ?_
  rcases s_ite hf with ⟨c2, hf⟩ | ⟨c2, hf⟩
  · refine lv_icmp_ge (tgt := 219) hx hb dX8_relates_12 (by decide) (fun _ => ?_) (fun n => absurd c2 n)
    cases hf
    have k : s_V G (d + 6) M_X8_relates vs0 σ0 Y_X8_relates (221, [.ref v0, .int 0], σ) (e_V r) := k
    refine lv_iconst (v := 0) hx hb dX8_relates_219 (by decide) ?_
    refine lv_istore_n (lv' := [(2, .int 0), (0, .ref v0), (1, .int v1)]) hx hb dX8_relates_220 rfl hl (by decide) rfl (fun ls hl => ?_)
    exact k.2 p e s m below meth c _ _ _ _ _ X I hn.1 hn.2 (lv_sub hl [1, 0] rfl)
  · refine lv_icmp_ge (tgt := 219) hx hb dX8_relates_12 (by decide) (fun n => absurd n c2) (fun _ => ?_)
    obtain ⟨x2, h3, hf⟩ := s_bind hf
    obtain ⟨q3, h4, hf⟩ := s_bind hf
    obtain ⟨σ4, h5, hf⟩ := s_bind hf
    obtain ⟨x5, h6, hf⟩ := s_bind hf
    obtain ⟨x6, h7, hf⟩ := s_bind hf
    obtain ⟨q7, h8, hf⟩ := s_bind hf
    obtain ⟨x8, h9, hf⟩ := s_bind hf
    have le10 : s_le q7.2 (e_V r).2 := by
      refine s_lek hem_V ?_ k
      rcases s_ite hf with ⟨-, hf⟩ | ⟨-, hf⟩
      · obtain ⟨x9, -, hf⟩ := s_bind hf
        obtain ⟨x10, -, hf⟩ := s_bind hf
        rcases s_ite hf with ⟨-, hf⟩ | ⟨-, hf⟩
        · obtain ⟨x11, -, hf⟩ := s_bind hf
          obtain ⟨x12, -, hf⟩ := s_bind hf
          obtain ⟨q13, hh, hf⟩ := s_bind hf
          refine s_lz.tr (l_X8_partAt hh) ?_
          cases hf
          exact s_le.rf
        · cases hf
          exact s_le.rf
      · obtain ⟨q14, hh, hf⟩ := s_bind hf
        refine s_lz.tr (l_X8_endOf hh) ?_
        obtain ⟨q15, hh, hf⟩ := s_bind hf
        refine s_lz.tr (l_X8_partAt hh) ?_
        cases hf
        exact s_le.rf
    have le11 := s_le.tr (l_X8_isJoining h8) le10
    have le12 := s_le.tr (s_le2 (s_si_2 h5)) le11
    refine lv_bipush (v := 30) hx hb dX8_relates_15 (by decide) ?_
    refine lv_iload_n hx hb dX8_relates_17 rfl (lv_at hl 2 rfl) ?_
    refine lv_iadd hx hb dX8_relates_18 ?_
    refine lv_istore_n (lv' := [(3, .int (30 + v2)), (0, .ref v0), (1, .int v1), (2, .int v2)]) hx hb dX8_relates_19 rfl hl (by decide) rfl (fun ls hl => ?_)
    refine lv_aload_n hx hb dX8_relates_20 rfl (lv_at hl 1 rfl) ?_
    refine r_gr X I fl_X8_59 h3 dX8_relates_21 ?_
    refine lv_iload_n hx hb dX8_relates_24 rfl (lv_at hl 3 rfl) ?_
    refine lv_aload_n hx hb dX8_relates_25 rfl (lv_at hl 1 rfl) ?_
    refine lv_iload_n hx hb dX8_relates_26 rfl (lv_at hl 0 rfl) ?_
    refine lv_iconst (v := 0) hx hb dX8_relates_27 (by decide) ?_
    refine r_callV (Y := M_X8_at) (v := some (.int q3.1)) X I w_1901 my_X8_at (by omega) (t_X8_at (G := G) (d := d + 4) h4) (b_X8_at h4) rfl rfl hl.1 rfl (Nat.le_of_ble_eq_true rfl) hn le12 dX8_relates_28 (fun H locs cells slots I hn1 hn2 => ?_)
    have I : s_I G q3.2 s H locs := I
    have hn : cells + σ0.2.1 ≤ q3.2.2.1 ∧ slots + σ0.2.2.1 ≤ q3.2.2.2.1 := ⟨hn1, hn2⟩
    refine r_iast X I h5 dX8_relates_31 (fun H locs I => ?_)
    have hn := s_k2 (s_si_2 h5) hn
    refine lv_aload_n hx hb dX8_relates_32 rfl (lv_at hl 1 rfl) ?_
    refine r_gr X I fl_X8_59 h6 dX8_relates_33 ?_
    refine lv_iload_n hx hb dX8_relates_36 rfl (lv_at hl 3 rfl) ?_
    refine r_iald X I h7 dX8_relates_37 ?_
    refine r_callS (Y := M_X8_isJoining) (v := some (.int q7.1)) X I w_1951 my_X8_isJoining (by omega) (t_X8_isJoining (G := G) (d := d + 4) h8) rfl rfl hl.1 rfl (Nat.le_of_ble_eq_true rfl) hn le10 dX8_relates_38 (fun H locs cells slots I hn1 hn2 => ?_)
    have I : s_I G q7.2 s H locs := I
    have hn : cells + σ0.2.1 ≤ q7.2.2.1 ∧ slots + σ0.2.2.1 ≤ q7.2.2.2.1 := ⟨hn1, hn2⟩
    refine lv_istore (lv' := [(4, .int q7.1), (3, .int (30 + v2)), (0, .ref v0), (1, .int v1), (2, .int v2)]) hx hb dX8_relates_41 hl (by decide) rfl (fun ls hl => ?_)
    refine lv_aload_n hx hb dX8_relates_43 rfl (lv_at hl 2 rfl) ?_
    refine r_gr X I fl_X8_62 h9 dX8_relates_44 ?_
    refine lv_iload_n hx hb dX8_relates_47 rfl (lv_at hl 4 rfl) ?_
    refine lv_iload hx hb dX8_relates_48 (lv_at hl 0 rfl) ?_
    rcases s_ite hf with ⟨c13, hf⟩ | ⟨c13, hf⟩
    · refine lv_if_eq (tgt := 69) hx hb dX8_relates_50 (by decide) (fun _ => ?_) (fun n => absurd c13 n)
      obtain ⟨x9, h14, hf⟩ := s_bind hf
      obtain ⟨x10, h15, hf⟩ := s_bind hf
      refine lv_aload_n hx hb dX8_relates_69 rfl (lv_at hl 2 rfl) ?_
      refine r_gr X I fl_X8_59 h14 dX8_relates_70 ?_
      refine lv_iload_n hx hb dX8_relates_73 rfl (lv_at hl 4 rfl) ?_
      refine r_iald X I h15 dX8_relates_74 ?_
      refine lv_bipush (v := 12) hx hb dX8_relates_75 (by decide) ?_
      rcases s_ite hf with ⟨c16, hf⟩ | ⟨c16, hf⟩
      · refine lv_icmp_ne (tgt := 96) hx hb dX8_relates_77 (by decide) (fun n => absurd c16 n) (fun _ => ?_)
        obtain ⟨x11, h17, hf⟩ := s_bind hf
        obtain ⟨x12, h18, hf⟩ := s_bind hf
        obtain ⟨q13, h19, hf⟩ := s_bind hf
        cases hf
        have k : s_V G (d + 6) M_X8_relates vs0 σ0 Y_X8_relates (97, [.ref v0, .int v1, .int v2, .int (30 + v2), .int q7.1, .int q13.1, .int v2, .ref x8], q13.2) (e_V r) := k
        have le20 : s_le q13.2 (e_V r).2 := k.1
        refine lv_aload_n hx hb dX8_relates_80 rfl (lv_at hl 2 rfl) ?_
        refine lv_iload_n hx hb dX8_relates_81 rfl (lv_at hl 1 rfl) ?_
        refine lv_iconst (v := 1) hx hb dX8_relates_82 (by decide) ?_
        refine lv_aload_n hx hb dX8_relates_83 rfl (lv_at hl 2 rfl) ?_
        refine r_gr X I fl_X8_20 h17 dX8_relates_84 ?_
        refine lv_iload_n hx hb dX8_relates_87 rfl (lv_at hl 1 rfl) ?_
        refine r_iald X I h18 dX8_relates_88 ?_
        refine lv_iconst (v := (-1)) hx hb dX8_relates_89 (by decide) ?_
        refine r_callV (Y := M_X8_partAt) (v := some (.int q13.1)) X I w_2224 my_X8_partAt (by omega) (t_X8_partAt (G := G) (d := d + 0) h19) (b_X8_partAt h19) rfl rfl hl.1 rfl (Nat.le_of_ble_eq_true rfl) hn le20 dX8_relates_90 (fun H locs cells slots I hn1 hn2 => ?_)
        have I : s_I G q13.2 s H locs := I
        have hn : cells + σ0.2.1 ≤ q13.2.2.1 ∧ slots + σ0.2.2.1 ≤ q13.2.2.2.1 := ⟨hn1, hn2⟩
        refine lv_goto (tgt := 97) hx hb dX8_relates_93 (by decide) ?_
        exact k.2 p e s m below meth c _ _ _ _ _ X I hn.1 hn.2 (lv_sub hl [2, 3, 4, 1, 0] rfl)
      · refine lv_icmp_ne (tgt := 96) hx hb dX8_relates_77 (by decide) (fun _ => ?_) (fun n => absurd n c16)
        cases hf
        have k : s_V G (d + 6) M_X8_relates vs0 σ0 Y_X8_relates (97, [.ref v0, .int v1, .int v2, .int (30 + v2), .int q7.1, .int (-1), .int v2, .ref x8], q7.2) (e_V r) := k
        refine lv_iconst (v := (-1)) hx hb dX8_relates_96 (by decide) ?_
        exact k.2 p e s m below meth c _ _ _ _ _ X I hn.1 hn.2 (lv_sub hl [2, 3, 4, 1, 0] rfl)
    · refine lv_if_eq (tgt := 69) hx hb dX8_relates_50 (by decide) (fun n => absurd n c13) (fun _ => ?_)
      obtain ⟨q14, h21, hf⟩ := s_bind hf
      obtain ⟨q15, h22, hf⟩ := s_bind hf
      cases hf
      have k : s_V G (d + 6) M_X8_relates vs0 σ0 Y_X8_relates (97, [.ref v0, .int v1, .int v2, .int (30 + v2), .int q7.1, .int q15.1, .int v2, .ref x8], q15.2) (e_V r) := k
      have le23 : s_le q15.2 (e_V r).2 := k.1
      have le24 := s_le.tr (l_X8_partAt h22) le23
      refine lv_aload_n hx hb dX8_relates_53 rfl (lv_at hl 2 rfl) ?_
      refine lv_iload_n hx hb dX8_relates_54 rfl (lv_at hl 1 rfl) ?_
      refine lv_iconst (v := 1) hx hb dX8_relates_55 (by decide) ?_
      refine lv_aload_n hx hb dX8_relates_56 rfl (lv_at hl 2 rfl) ?_
      refine lv_iload_n hx hb dX8_relates_57 rfl (lv_at hl 1 rfl) ?_
      refine lv_iconst (v := 1) hx hb dX8_relates_58 (by decide) ?_
      refine r_callV (Y := M_X8_endOf) (v := some (.int q14.1)) X I w_2063 my_X8_endOf (by omega) (t_X8_endOf (G := G) (d := d + 3) h21) (b_X8_endOf h21) rfl rfl hl.1 rfl (Nat.le_of_ble_eq_true rfl) hn le24 dX8_relates_59 (fun H locs cells slots I hn1 hn2 => ?_)
      have I : s_I G q14.2 s H locs := I
      have hn : cells + σ0.2.1 ≤ q14.2.2.1 ∧ slots + σ0.2.2.1 ≤ q14.2.2.2.1 := ⟨hn1, hn2⟩
      refine lv_iconst (v := (-1)) hx hb dX8_relates_62 (by decide) ?_
      refine r_callV (Y := M_X8_partAt) (v := some (.int q15.1)) X I w_2224 my_X8_partAt (by omega) (t_X8_partAt (G := G) (d := d + 0) h22) (b_X8_partAt h22) rfl rfl hl.1 rfl (Nat.le_of_ble_eq_true rfl) hn le23 dX8_relates_63 (fun H locs cells slots I hn1 hn2 => ?_)
      have I : s_I G q15.2 s H locs := I
      have hn : cells + σ0.2.1 ≤ q15.2.2.1 ∧ slots + σ0.2.2.1 ≤ q15.2.2.2.1 := ⟨hn1, hn2⟩
      refine lv_goto (tgt := 97) hx hb dX8_relates_66 (by decide) ?_
      exact k.2 p e s m below meth c _ _ _ _ _ X I hn.1 hn.2 (lv_sub hl [2, 3, 4, 1, 0] rfl)
set_option maxRecDepth 100000 in
set_option maxHeartbeats 4000000 in
theorem v_X8_relates_97 {G : sG} {d : Nat} {vs0 : List Value} {σ0 : sS} {v0 : Nat} {v1 : Int32} {v2 : Int32} {v3 : Int32} {v4 : Int32} {w0 : Int32} {w1 : Int32} {w2 : Nat} {σ : sS} {z : sZ Unit} {r : Unit × sS} (hf : T_X8_relates_97 v0 v1 v2 v3 v4 w0 w1 w2 σ = some z) (k : s_K G (d + 6) M_X8_relates vs0 σ0 Y_X8_relates e_V z r) : s_V G (d + 6) M_X8_relates vs0 σ0 Y_X8_relates (97, [.ref v0, .int v1, .int v2, .int v3, .int v4, .int w0, .int w1, .ref w2], σ) (e_V r) := by
  have le0 : s_le σ (e_V r).2 := s_lek hem_V (l_X8_relates_97 hf) k
  refine ⟨le0, ?_⟩
  intro p e s m below meth c H locs cells slots ls X I hn1 hn2 hl
  have hn : cells + σ0.2.1 ≤ σ.2.1 ∧ slots + σ0.2.2.1 ≤ σ.2.2.1 := ⟨hn1, hn2⟩
  have hl : lv_has ls 6 [(0, .ref v0), (1, .int v1), (2, .int v2), (3, .int v3), (4, .int v4)] := hl
  have hx := X.1
  have hb : c.code = cX8_relates := X.2.1
  have hown : s.vm.findClass RX8 = some m.cls := X.2.2.2.2.2.1
  have hts := X.2.2.2.2.2.2.1
  refine W.eq (g2 := F0 m 97 ls [.int w0, .int w1, .ref w2]) rfl ?_
  unfold T_X8_relates_97 at hf
  obtain ⟨σ1, h1, hf⟩ := s_bind hf
  obtain ⟨x2, h2, hf⟩ := s_bind hf
  have le3 : s_le σ1 (e_V r).2 := by
    refine s_lek hem_V ?_ k
    rcases s_ite hf with ⟨-, hf⟩ | ⟨-, hf⟩
    · cases hf
      exact s_le.rf
    · obtain ⟨q3, hh, hf⟩ := s_bind hf
      refine s_lz.tr (l_X8_endOf hh) ?_
      obtain ⟨x4, -, hf⟩ := s_bind hf
      obtain ⟨x5, -, hf⟩ := s_bind hf
      obtain ⟨q6, hh, hf⟩ := s_bind hf
      refine s_lz.tr (l_X8_partAt hh) ?_
      cases hf
      exact s_le.rf
  refine r_iast X I h1 dX8_relates_97 (fun H locs I => ?_)
  have hn := s_k2 (s_si_2 h1) hn
  refine lv_aload_n hx hb dX8_relates_98 rfl (lv_at hl 0 rfl) ?_
  refine r_gr X I fl_X8_65 h2 dX8_relates_99 ?_
  refine lv_iload_n hx hb dX8_relates_102 rfl (lv_at hl 2 rfl) ?_
  refine lv_iload hx hb dX8_relates_103 (lv_at hl 4 rfl) ?_
  rcases s_ite hf with ⟨c4, hf⟩ | ⟨c4, hf⟩
  · refine lv_if_eq (tgt := 129) hx hb dX8_relates_105 (by decide) (fun _ => ?_) (fun n => absurd c4 n)
    cases hf
    have k : s_V G (d + 6) M_X8_relates vs0 σ0 Y_X8_relates (130, [.ref v0, .int v1, .int v2, .int v3, .int (-1), .int v2, .ref x2], σ1) (e_V r) := k
    refine lv_iconst (v := (-1)) hx hb dX8_relates_129 (by decide) ?_
    exact k.2 p e s m below meth c _ _ _ _ _ X I hn.1 hn.2 (lv_sub hl [0, 1, 2, 3] rfl)
  · refine lv_if_eq (tgt := 129) hx hb dX8_relates_105 (by decide) (fun n => absurd n c4) (fun _ => ?_)
    obtain ⟨q3, h5, hf⟩ := s_bind hf
    obtain ⟨x4, h6, hf⟩ := s_bind hf
    obtain ⟨x5, h7, hf⟩ := s_bind hf
    obtain ⟨q6, h8, hf⟩ := s_bind hf
    cases hf
    have k : s_V G (d + 6) M_X8_relates vs0 σ0 Y_X8_relates (130, [.ref v0, .int v1, .int v2, .int v3, .int q6.1, .int v2, .ref x2], q6.2) (e_V r) := k
    have le9 : s_le q6.2 (e_V r).2 := k.1
    have le10 := s_le.tr (l_X8_partAt h8) le9
    refine lv_aload_n hx hb dX8_relates_108 rfl (lv_at hl 0 rfl) ?_
    refine lv_iload_n hx hb dX8_relates_109 rfl (lv_at hl 3 rfl) ?_
    refine lv_aload_n hx hb dX8_relates_110 rfl (lv_at hl 0 rfl) ?_
    refine lv_iload_n hx hb dX8_relates_111 rfl (lv_at hl 3 rfl) ?_
    refine lv_iconst (v := 1) hx hb dX8_relates_112 (by decide) ?_
    refine r_callV (Y := M_X8_endOf) (v := some (.int q3.1)) X I w_2063 my_X8_endOf (by omega) (t_X8_endOf (G := G) (d := d + 3) h5) (b_X8_endOf h5) rfl rfl hl.1 rfl (Nat.le_of_ble_eq_true rfl) hn le10 dX8_relates_113 (fun H locs cells slots I hn1 hn2 => ?_)
    have I : s_I G q3.2 s H locs := I
    have hn : cells + σ0.2.1 ≤ q3.2.2.1 ∧ slots + σ0.2.2.1 ≤ q3.2.2.2.1 := ⟨hn1, hn2⟩
    refine lv_aload_n hx hb dX8_relates_116 rfl (lv_at hl 0 rfl) ?_
    refine r_gr X I fl_X8_20 h6 dX8_relates_117 ?_
    refine lv_iload_n hx hb dX8_relates_120 rfl (lv_at hl 3 rfl) ?_
    refine r_iald X I h7 dX8_relates_121 ?_
    refine lv_iconst (v := (-1)) hx hb dX8_relates_122 (by decide) ?_
    refine r_callV (Y := M_X8_partAt) (v := some (.int q6.1)) X I w_2224 my_X8_partAt (by omega) (t_X8_partAt (G := G) (d := d + 0) h8) (b_X8_partAt h8) rfl rfl hl.1 rfl (Nat.le_of_ble_eq_true rfl) hn le9 dX8_relates_123 (fun H locs cells slots I hn1 hn2 => ?_)
    have I : s_I G q6.2 s H locs := I
    have hn : cells + σ0.2.1 ≤ q6.2.2.1 ∧ slots + σ0.2.2.1 ≤ q6.2.2.2.1 := ⟨hn1, hn2⟩
    refine lv_goto (tgt := 130) hx hb dX8_relates_126 (by decide) ?_
    exact k.2 p e s m below meth c _ _ _ _ _ X I hn.1 hn.2 (lv_sub hl [0, 1, 2, 3] rfl)
set_option maxRecDepth 100000 in
set_option maxHeartbeats 4000000 in
theorem v_X8_relates_130 {G : sG} {d : Nat} {vs0 : List Value} {σ0 : sS} {v0 : Nat} {v1 : Int32} {v2 : Int32} {v3 : Int32} {w0 : Int32} {w1 : Int32} {w2 : Nat} {σ : sS} {z : sZ Unit} {r : Unit × sS} (hf : T_X8_relates_130 v0 v1 v2 v3 w0 w1 w2 σ = some z) (k : s_K G (d + 6) M_X8_relates vs0 σ0 Y_X8_relates e_V z r) : s_V G (d + 6) M_X8_relates vs0 σ0 Y_X8_relates (130, [.ref v0, .int v1, .int v2, .int v3, .int w0, .int w1, .ref w2], σ) (e_V r) := by
  have le0 : s_le σ (e_V r).2 := s_lek hem_V (l_X8_relates_130 hf) k
  refine ⟨le0, ?_⟩
  intro p e s m below meth c H locs cells slots ls X I hn1 hn2 hl
  have hn : cells + σ0.2.1 ≤ σ.2.1 ∧ slots + σ0.2.2.1 ≤ σ.2.2.1 := ⟨hn1, hn2⟩
  have hl : lv_has ls 6 [(0, .ref v0), (1, .int v1), (2, .int v2), (3, .int v3)] := hl
  have hx := X.1
  have hb : c.code = cX8_relates := X.2.1
  have hown : s.vm.findClass RX8 = some m.cls := X.2.2.2.2.2.1
  have hts := X.2.2.2.2.2.2.1
  refine W.eq (g2 := F0 m 130 ls [.int w0, .int w1, .ref w2]) rfl ?_
  unfold T_X8_relates_130 at hf
  obtain ⟨σ1, h1, hf⟩ := s_bind hf
  cases hf
  have k : s_V G (d + 6) M_X8_relates vs0 σ0 Y_X8_relates (134, [.ref v0, .int v1, .int v2, .int v3, .int 0], σ1) (e_V r) := k
  have le2 : s_le σ1 (e_V r).2 := k.1
  refine r_iast X I h1 dX8_relates_130 (fun H locs I => ?_)
  have hn := s_k2 (s_si_2 h1) hn
  refine lv_iconst (v := 0) hx hb dX8_relates_131 (by decide) ?_
  refine lv_istore (lv' := [(5, .int 0), (0, .ref v0), (1, .int v1), (2, .int v2), (3, .int v3)]) hx hb dX8_relates_132 hl (by decide) rfl (fun ls hl => ?_)
  exact k.2 p e s m below meth c _ _ _ _ _ X I hn.1 hn.2 (lv_sub hl [1, 2, 3, 4, 0] rfl)
set_option maxRecDepth 100000 in
set_option maxHeartbeats 4000000 in
theorem v_X8_relates_134 {G : sG} {d : Nat} {vs0 : List Value} {σ0 : sS} {v0 : Nat} {v1 : Int32} {v2 : Int32} {v3 : Int32} {v5 : Int32} {σ : sS} {z : sZ Unit} {r : Unit × sS} (hf : T_X8_relates_134 v0 v1 v2 v3 v5 σ = some z) (k : s_K G (d + 6) M_X8_relates vs0 σ0 Y_X8_relates e_V z r) : s_V G (d + 6) M_X8_relates vs0 σ0 Y_X8_relates (134, [.ref v0, .int v1, .int v2, .int v3, .int v5], σ) (e_V r) := by
  have le0 : s_le σ (e_V r).2 := s_lek hem_V (l_X8_relates_134 hf) k
  refine ⟨le0, ?_⟩
  intro p e s m below meth c H locs cells slots ls X I hn1 hn2 hl
  have hn : cells + σ0.2.1 ≤ σ.2.1 ∧ slots + σ0.2.2.1 ≤ σ.2.2.1 := ⟨hn1, hn2⟩
  have hl : lv_has ls 6 [(0, .ref v0), (1, .int v1), (2, .int v2), (3, .int v3), (5, .int v5)] := hl
  have hx := X.1
  have hb : c.code = cX8_relates := X.2.1
  have hown : s.vm.findClass RX8 = some m.cls := X.2.2.2.2.2.1
  have hts := X.2.2.2.2.2.2.1
  refine W.eq (g2 := F0 m 134 ls []) rfl ?_
  unfold T_X8_relates_134 at hf
  obtain ⟨q1, h1, hf⟩ := s_bind hf
  have le2 : s_le q1.2 (e_V r).2 := by
    refine s_lek hem_V ?_ k
    rcases s_ite hf with ⟨-, hf⟩ | ⟨-, hf⟩
    · obtain ⟨x2, -, hf⟩ := s_bind hf
      obtain ⟨q3, hh, hf⟩ := s_bind hf
      refine s_lz.tr (l_X8_isAmong hh) ?_
      obtain ⟨σ4, hh, hf⟩ := s_bind hf
      refine s_lz.tr (s_le2 (s_sb_2 hh)) ?_
      cases hf
      exact s_le.rf
    · obtain ⟨x5, -, hf⟩ := s_bind hf
      obtain ⟨x6, -, hf⟩ := s_bind hf
      obtain ⟨x7, -, hf⟩ := s_bind hf
      obtain ⟨q8, hh, hf⟩ := s_bind hf
      refine s_lz.tr (l_X8_isLone hh) ?_
      rcases s_ite hf with ⟨-, hf⟩ | ⟨-, hf⟩
      · cases hf
        exact s_le.rf
      · obtain ⟨x9, -, hf⟩ := s_bind hf
        obtain ⟨x10, -, hf⟩ := s_bind hf
        rcases s_ite hf with ⟨-, hf⟩ | ⟨-, hf⟩
        · cases hf
          exact s_le.rf
        · obtain ⟨x11, -, hf⟩ := s_bind hf
          obtain ⟨x12, -, hf⟩ := s_bind hf
          obtain ⟨q13, hh, hf⟩ := s_bind hf
          refine s_lz.tr (l_X8_partAt hh) ?_
          cases hf
          exact s_le.rf
  refine lv_iload hx hb dX8_relates_134 (lv_at hl 4 rfl) ?_
  refine lv_aload_n hx hb dX8_relates_136 rfl (lv_at hl 0 rfl) ?_
  refine r_callV (Y := M_X8_d) (v := some (.int q1.1)) X I w_1889 my_X8_d (by omega) (t_X8_d (G := G) (d := d + 4) h1) (b_X8_d h1) rfl rfl hl.1 rfl (Nat.le_of_ble_eq_true rfl) hn le2 dX8_relates_137 (fun H locs cells slots I hn1 hn2 => ?_)
  have I : s_I G q1.2 s H locs := I
  have hn : cells + σ0.2.1 ≤ q1.2.2.1 ∧ slots + σ0.2.2.1 ≤ q1.2.2.2.1 := ⟨hn1, hn2⟩
  rcases s_ite hf with ⟨c3, hf⟩ | ⟨c3, hf⟩
  · refine lv_icmp_ge (tgt := 201) hx hb dX8_relates_140 (by decide) (fun _ => ?_) (fun n => absurd c3 n)
    obtain ⟨x2, h4, hf⟩ := s_bind hf
    obtain ⟨q3, h5, hf⟩ := s_bind hf
    obtain ⟨σ4, h6, hf⟩ := s_bind hf
    cases hf
    have k : s_V G (d + 6) M_X8_relates vs0 σ0 Y_X8_relates (7, [.ref v0, .int v1, .int (v2 + 1)], σ4) (e_V r) := k
    have le7 : s_le σ4 (e_V r).2 := k.1
    have le8 := s_le.tr (s_le2 (s_sb_2 h6)) le7
    refine lv_aload_n hx hb dX8_relates_201 rfl (lv_at hl 0 rfl) ?_
    refine r_gr X I fl_X8_71 h4 dX8_relates_202 ?_
    refine lv_iload_n hx hb dX8_relates_205 rfl (lv_at hl 2 rfl) ?_
    refine lv_aload_n hx hb dX8_relates_206 rfl (lv_at hl 0 rfl) ?_
    refine lv_iload_n hx hb dX8_relates_207 rfl (lv_at hl 3 rfl) ?_
    refine lv_iload_n hx hb dX8_relates_208 rfl (lv_at hl 1 rfl) ?_
    refine r_callV (Y := M_X8_isAmong) (v := some (.int q3.1)) X I w_2051 my_X8_isAmong (by omega) (t_X8_isAmong (G := G) (d := d + 1) h5) (b_X8_isAmong h5) rfl rfl hl.1 rfl (Nat.le_of_ble_eq_true rfl) hn le8 dX8_relates_209 (fun H locs cells slots I hn1 hn2 => ?_)
    have I : s_I G q3.2 s H locs := I
    have hn : cells + σ0.2.1 ≤ q3.2.2.1 ∧ slots + σ0.2.2.1 ≤ q3.2.2.2.1 := ⟨hn1, hn2⟩
    refine r_bast X I h6 dX8_relates_212 (fun H locs I => ?_)
    have hn := s_k2 (s_sb_2 h6) hn
    refine lv_iinc (v := (v2 + 1)) (lv' := [(2, .int (v2 + 1)), (0, .ref v0), (1, .int v1), (3, .int v3), (5, .int v5)]) hx hb dX8_relates_213 hl (k := 2) rfl rfl (by decide) rfl (fun ls hl => ?_)
    refine lv_goto (tgt := 7) hx hb dX8_relates_216 (by decide) ?_
    exact k.2 p e s m below meth c _ _ _ _ _ X I hn.1 hn.2 (lv_sub hl [1, 2, 0] rfl)
  · refine lv_icmp_ge (tgt := 201) hx hb dX8_relates_140 (by decide) (fun n => absurd n c3) (fun _ => ?_)
    obtain ⟨x5, h9, hf⟩ := s_bind hf
    obtain ⟨x6, h10, hf⟩ := s_bind hf
    obtain ⟨x7, h11, hf⟩ := s_bind hf
    obtain ⟨q8, h12, hf⟩ := s_bind hf
    have le13 : s_le q8.2 (e_V r).2 := by
      refine s_lek hem_V ?_ k
      rcases s_ite hf with ⟨-, hf⟩ | ⟨-, hf⟩
      · cases hf
        exact s_le.rf
      · obtain ⟨x9, -, hf⟩ := s_bind hf
        obtain ⟨x10, -, hf⟩ := s_bind hf
        rcases s_ite hf with ⟨-, hf⟩ | ⟨-, hf⟩
        · cases hf
          exact s_le.rf
        · obtain ⟨x11, -, hf⟩ := s_bind hf
          obtain ⟨x12, -, hf⟩ := s_bind hf
          obtain ⟨q13, hh, hf⟩ := s_bind hf
          refine s_lz.tr (l_X8_partAt hh) ?_
          cases hf
          exact s_le.rf
    refine lv_aload_n hx hb dX8_relates_143 rfl (lv_at hl 0 rfl) ?_
    refine r_gr X I fl_X8_68 h9 dX8_relates_144 ?_
    refine lv_iconst (v := 3) hx hb dX8_relates_147 (by decide) ?_
    refine lv_iload_n hx hb dX8_relates_148 rfl (lv_at hl 2 rfl) ?_
    refine lv_imul hx hb dX8_relates_149 ?_
    refine lv_iload hx hb dX8_relates_150 (lv_at hl 4 rfl) ?_
    refine lv_iadd hx hb dX8_relates_152 ?_
    refine lv_aload_n hx hb dX8_relates_153 rfl (lv_at hl 0 rfl) ?_
    refine r_gr X I fl_X8_59 h10 dX8_relates_154 ?_
    refine lv_iload_n hx hb dX8_relates_157 rfl (lv_at hl 2 rfl) ?_
    refine r_iald X I h11 dX8_relates_158 ?_
    refine r_callS (Y := M_X8_isLone) (v := some (.int q8.1)) X I w_1954 my_X8_isLone (by omega) (t_X8_isLone (G := G) (d := d + 4) h12) rfl rfl hl.1 rfl (Nat.le_of_ble_eq_true rfl) hn le13 dX8_relates_159 (fun H locs cells slots I hn1 hn2 => ?_)
    have I : s_I G q8.2 s H locs := I
    have hn : cells + σ0.2.1 ≤ q8.2.2.1 ∧ slots + σ0.2.2.1 ≤ q8.2.2.2.1 := ⟨hn1, hn2⟩
    rcases s_ite hf with ⟨c14, hf⟩ | ⟨c14, hf⟩
    · refine lv_if_eq (tgt := 193) hx hb dX8_relates_162 (by decide) (fun _ => ?_) (fun n => absurd c14 n)
      cases hf
      have k : s_V G (d + 6) M_X8_relates vs0 σ0 Y_X8_relates (193, [.ref v0, .int v1, .int v2, .int v3, .int v5, .int ((3 * v2) + v5), .ref x5], q8.2) (e_V r) := k
      exact k.2 p e s m below meth c _ _ _ _ _ X I hn.1 hn.2 (lv_sub hl [0, 1, 2, 3, 4] rfl)
    · refine lv_if_eq (tgt := 193) hx hb dX8_relates_162 (by decide) (fun n => absurd n c14) (fun _ => ?_)
      obtain ⟨x9, h15, hf⟩ := s_bind hf
      obtain ⟨x10, h16, hf⟩ := s_bind hf
      refine lv_aload_n hx hb dX8_relates_165 rfl (lv_at hl 0 rfl) ?_
      refine r_gr X I fl_X8_59 h15 dX8_relates_166 ?_
      refine lv_iload_n hx hb dX8_relates_169 rfl (lv_at hl 2 rfl) ?_
      refine r_iald X I h16 dX8_relates_170 ?_
      refine lv_bipush (v := 12) hx hb dX8_relates_171 (by decide) ?_
      rcases s_ite hf with ⟨c17, hf⟩ | ⟨c17, hf⟩
      · refine lv_icmp_eq (tgt := 193) hx hb dX8_relates_173 (by decide) (fun _ => ?_) (fun n => absurd c17 n)
        cases hf
        have k : s_V G (d + 6) M_X8_relates vs0 σ0 Y_X8_relates (193, [.ref v0, .int v1, .int v2, .int v3, .int v5, .int ((3 * v2) + v5), .ref x5], q8.2) (e_V r) := k
        exact k.2 p e s m below meth c _ _ _ _ _ X I hn.1 hn.2 (lv_sub hl [0, 1, 2, 3, 4] rfl)
      · refine lv_icmp_eq (tgt := 193) hx hb dX8_relates_173 (by decide) (fun n => absurd n c17) (fun _ => ?_)
        obtain ⟨x11, h18, hf⟩ := s_bind hf
        obtain ⟨x12, h19, hf⟩ := s_bind hf
        obtain ⟨q13, h20, hf⟩ := s_bind hf
        cases hf
        have k : s_V G (d + 6) M_X8_relates vs0 σ0 Y_X8_relates (194, [.ref v0, .int v1, .int v2, .int v3, .int v5, .int q13.1, .int ((3 * v2) + v5), .ref x5], q13.2) (e_V r) := k
        have le21 : s_le q13.2 (e_V r).2 := k.1
        refine lv_aload_n hx hb dX8_relates_176 rfl (lv_at hl 0 rfl) ?_
        refine lv_iload_n hx hb dX8_relates_177 rfl (lv_at hl 3 rfl) ?_
        refine lv_iconst (v := 1) hx hb dX8_relates_178 (by decide) ?_
        refine lv_aload_n hx hb dX8_relates_179 rfl (lv_at hl 0 rfl) ?_
        refine r_gr X I fl_X8_20 h18 dX8_relates_180 ?_
        refine lv_iload_n hx hb dX8_relates_183 rfl (lv_at hl 3 rfl) ?_
        refine r_iald X I h19 dX8_relates_184 ?_
        refine lv_iload hx hb dX8_relates_185 (lv_at hl 4 rfl) ?_
        refine r_callV (Y := M_X8_partAt) (v := some (.int q13.1)) X I w_2224 my_X8_partAt (by omega) (t_X8_partAt (G := G) (d := d + 0) h20) (b_X8_partAt h20) rfl rfl hl.1 rfl (Nat.le_of_ble_eq_true rfl) hn le21 dX8_relates_187 (fun H locs cells slots I hn1 hn2 => ?_)
        have I : s_I G q13.2 s H locs := I
        have hn : cells + σ0.2.1 ≤ q13.2.2.1 ∧ slots + σ0.2.2.1 ≤ q13.2.2.2.1 := ⟨hn1, hn2⟩
        refine lv_goto (tgt := 194) hx hb dX8_relates_190 (by decide) ?_
        exact k.2 p e s m below meth c _ _ _ _ _ X I hn.1 hn.2 (lv_sub hl [0, 1, 2, 3, 4] rfl)
set_option maxRecDepth 100000 in
set_option maxHeartbeats 4000000 in
theorem v_X8_relates_193 {G : sG} {d : Nat} {vs0 : List Value} {σ0 : sS} {v0 : Nat} {v1 : Int32} {v2 : Int32} {v3 : Int32} {v5 : Int32} {w0 : Int32} {w1 : Nat} {σ : sS} {z : sZ Unit} {r : Unit × sS} (hf : T_X8_relates_193 v0 v1 v2 v3 v5 w0 w1 σ = some z) (k : s_K G (d + 6) M_X8_relates vs0 σ0 Y_X8_relates e_V z r) : s_V G (d + 6) M_X8_relates vs0 σ0 Y_X8_relates (193, [.ref v0, .int v1, .int v2, .int v3, .int v5, .int w0, .ref w1], σ) (e_V r) := by
  have le0 : s_le σ (e_V r).2 := s_lek hem_V (l_X8_relates_193 hf) k
  refine ⟨le0, ?_⟩
  intro p e s m below meth c H locs cells slots ls X I hn1 hn2 hl
  have hn : cells + σ0.2.1 ≤ σ.2.1 ∧ slots + σ0.2.2.1 ≤ σ.2.2.1 := ⟨hn1, hn2⟩
  have hl : lv_has ls 6 [(0, .ref v0), (1, .int v1), (2, .int v2), (3, .int v3), (5, .int v5)] := hl
  have hx := X.1
  have hb : c.code = cX8_relates := X.2.1
  have hown : s.vm.findClass RX8 = some m.cls := X.2.2.2.2.2.1
  have hts := X.2.2.2.2.2.2.1
  refine W.eq (g2 := F0 m 193 ls [.int w0, .ref w1]) rfl ?_
  unfold T_X8_relates_193 at hf
  cases hf
  have k : s_V G (d + 6) M_X8_relates vs0 σ0 Y_X8_relates (194, [.ref v0, .int v1, .int v2, .int v3, .int v5, .int (-1), .int w0, .ref w1], σ) (e_V r) := k
  refine lv_iconst (v := (-1)) hx hb dX8_relates_193 (by decide) ?_
  exact k.2 p e s m below meth c _ _ _ _ _ X I hn.1 hn.2 (lv_sub hl [0, 1, 2, 3, 4] rfl)
set_option maxRecDepth 100000 in
set_option maxHeartbeats 4000000 in
theorem v_X8_relates_194 {G : sG} {d : Nat} {vs0 : List Value} {σ0 : sS} {v0 : Nat} {v1 : Int32} {v2 : Int32} {v3 : Int32} {v5 : Int32} {w0 : Int32} {w1 : Int32} {w2 : Nat} {σ : sS} {z : sZ Unit} {r : Unit × sS} (hf : T_X8_relates_194 v0 v1 v2 v3 v5 w0 w1 w2 σ = some z) (k : s_K G (d + 6) M_X8_relates vs0 σ0 Y_X8_relates e_V z r) : s_V G (d + 6) M_X8_relates vs0 σ0 Y_X8_relates (194, [.ref v0, .int v1, .int v2, .int v3, .int v5, .int w0, .int w1, .ref w2], σ) (e_V r) := by
  have le0 : s_le σ (e_V r).2 := s_lek hem_V (l_X8_relates_194 hf) k
  refine ⟨le0, ?_⟩
  intro p e s m below meth c H locs cells slots ls X I hn1 hn2 hl
  have hn : cells + σ0.2.1 ≤ σ.2.1 ∧ slots + σ0.2.2.1 ≤ σ.2.2.1 := ⟨hn1, hn2⟩
  have hl : lv_has ls 6 [(0, .ref v0), (1, .int v1), (2, .int v2), (3, .int v3), (5, .int v5)] := hl
  have hx := X.1
  have hb : c.code = cX8_relates := X.2.1
  have hown : s.vm.findClass RX8 = some m.cls := X.2.2.2.2.2.1
  have hts := X.2.2.2.2.2.2.1
  refine W.eq (g2 := F0 m 194 ls [.int w0, .int w1, .ref w2]) rfl ?_
  unfold T_X8_relates_194 at hf
  obtain ⟨σ1, h1, hf⟩ := s_bind hf
  cases hf
  have k : s_V G (d + 6) M_X8_relates vs0 σ0 Y_X8_relates (134, [.ref v0, .int v1, .int v2, .int v3, .int (v5 + 1)], σ1) (e_V r) := k
  have le2 : s_le σ1 (e_V r).2 := k.1
  refine r_iast X I h1 dX8_relates_194 (fun H locs I => ?_)
  have hn := s_k2 (s_si_2 h1) hn
  refine lv_iinc (v := (v5 + 1)) (lv' := [(5, .int (v5 + 1)), (0, .ref v0), (1, .int v1), (2, .int v2), (3, .int v3)]) hx hb dX8_relates_195 hl (k := 4) rfl rfl (by decide) rfl (fun ls hl => ?_)
  refine lv_goto (tgt := 134) hx hb dX8_relates_198 (by decide) ?_
  exact k.2 p e s m below meth c _ _ _ _ _ X I hn.1 hn.2 (lv_sub hl [1, 2, 3, 4, 0] rfl)
set_option maxRecDepth 100000 in
set_option maxHeartbeats 4000000 in
theorem v_X8_relates_221 {G : sG} {d : Nat} {vs0 : List Value} {σ0 : sS} {v0 : Nat} {v2 : Int32} {σ : sS} {z : sZ Unit} {r : Unit × sS} (hf : T_X8_relates_221 v0 v2 σ = some z) (k : s_K G (d + 6) M_X8_relates vs0 σ0 Y_X8_relates e_V z r) : s_V G (d + 6) M_X8_relates vs0 σ0 Y_X8_relates (221, [.ref v0, .int v2], σ) (e_V r) := by
  have le0 : s_le σ (e_V r).2 := s_lek hem_V (l_X8_relates_221 hf) k
  refine ⟨le0, ?_⟩
  intro p e s m below meth c H locs cells slots ls X I hn1 hn2 hl
  have hn : cells + σ0.2.1 ≤ σ.2.1 ∧ slots + σ0.2.2.1 ≤ σ.2.2.1 := ⟨hn1, hn2⟩
  have hl : lv_has ls 6 [(0, .ref v0), (2, .int v2)] := hl
  have hx := X.1
  have hb : c.code = cX8_relates := X.2.1
  have hown : s.vm.findClass RX8 = some m.cls := X.2.2.2.2.2.1
  have hts := X.2.2.2.2.2.2.1
  refine W.eq (g2 := F0 m 221 ls []) rfl ?_
  unfold T_X8_relates_221 at hf
  obtain ⟨x1, h1, hf⟩ := s_bind hf
  refine lv_iload_n hx hb dX8_relates_221 rfl (lv_at hl 1 rfl) ?_
  refine lv_aload_n hx hb dX8_relates_222 rfl (lv_at hl 0 rfl) ?_
  refine r_gi X I fl_X8_360 h1 dX8_relates_223 ?_
  rcases s_ite hf with ⟨c2, hf⟩ | ⟨c2, hf⟩
  · refine lv_icmp_ge (tgt := 301) hx hb dX8_relates_226 (by decide) (fun _ => ?_) (fun n => absurd c2 n)
    cases hf
    have k : s_V G (d + 6) M_X8_relates vs0 σ0 Y_X8_relates (301, [.ref v0], σ) (e_V r) := k
    exact k.2 p e s m below meth c _ _ _ _ _ X I hn.1 hn.2 (lv_sub hl [0] rfl)
  · refine lv_icmp_ge (tgt := 301) hx hb dX8_relates_226 (by decide) (fun n => absurd n c2) (fun _ => ?_)
    obtain ⟨x2, h3, hf⟩ := s_bind hf
    refine lv_aload_n hx hb dX8_relates_229 rfl (lv_at hl 0 rfl) ?_
    refine r_gi X I fl_X8_378 h3 dX8_relates_230 ?_
    refine lv_iconst (v := 3) hx hb dX8_relates_233 (by decide) ?_
    rcases s_ite hf with ⟨c4, hf⟩ | ⟨c4, hf⟩
    · refine lv_icmp_ge (tgt := 301) hx hb dX8_relates_234 (by decide) (fun _ => ?_) (fun n => absurd c4 n)
      cases hf
      have k : s_V G (d + 6) M_X8_relates vs0 σ0 Y_X8_relates (301, [.ref v0], σ) (e_V r) := k
      exact k.2 p e s m below meth c _ _ _ _ _ X I hn.1 hn.2 (lv_sub hl [0] rfl)
    · refine lv_icmp_ge (tgt := 301) hx hb dX8_relates_234 (by decide) (fun n => absurd n c4) (fun _ => ?_)
      obtain ⟨x3, h5, hf⟩ := s_bind hf
      obtain ⟨x4, h6, hf⟩ := s_bind hf
      refine lv_aload_n hx hb dX8_relates_237 rfl (lv_at hl 0 rfl) ?_
      refine r_gr X I fl_X8_59 h5 dX8_relates_238 ?_
      refine lv_iload_n hx hb dX8_relates_241 rfl (lv_at hl 1 rfl) ?_
      refine r_iald X I h6 dX8_relates_242 ?_
      refine lv_bipush (v := 15) hx hb dX8_relates_243 (by decide) ?_
      rcases s_ite hf with ⟨c7, hf⟩ | ⟨c7, hf⟩
      · refine lv_icmp_ne (tgt := 295) hx hb dX8_relates_245 (by decide) (fun n => absurd c7 n) (fun _ => ?_)
        obtain ⟨x5, h8, hf⟩ := s_bind hf
        obtain ⟨x6, h9, hf⟩ := s_bind hf
        refine lv_aload_n hx hb dX8_relates_248 rfl (lv_at hl 0 rfl) ?_
        refine r_gr X I fl_X8_62 h8 dX8_relates_249 ?_
        refine lv_iload_n hx hb dX8_relates_252 rfl (lv_at hl 1 rfl) ?_
        refine r_iald X I h9 dX8_relates_253 ?_
        rcases s_ite hf with ⟨c10, hf⟩ | ⟨c10, hf⟩
        · refine lv_if_lt (tgt := 295) hx hb dX8_relates_254 (by decide) (fun _ => ?_) (fun n => absurd c10 n)
          cases hf
          have k : s_V G (d + 6) M_X8_relates vs0 σ0 Y_X8_relates (295, [.ref v0, .int v2], σ) (e_V r) := k
          exact k.2 p e s m below meth c _ _ _ _ _ X I hn.1 hn.2 (lv_sub hl [0, 1] rfl)
        · refine lv_if_lt (tgt := 295) hx hb dX8_relates_254 (by decide) (fun n => absurd n c10) (fun _ => ?_)
          obtain ⟨x7, h11, hf⟩ := s_bind hf
          obtain ⟨x8, h12, hf⟩ := s_bind hf
          obtain ⟨q9, h13, hf⟩ := s_bind hf
          have le14 : s_le q9.2 (e_V r).2 := by
            refine s_lek hem_V ?_ k
            rcases s_ite hf with ⟨-, hf⟩ | ⟨-, hf⟩
            · cases hf
              exact s_le.rf
            · obtain ⟨x10, -, hf⟩ := s_bind hf
              obtain ⟨x11, -, hf⟩ := s_bind hf
              obtain ⟨x12, -, hf⟩ := s_bind hf
              obtain ⟨x13, -, hf⟩ := s_bind hf
              obtain ⟨σ14, hh, hf⟩ := s_bind hf
              refine s_lz.tr (s_le2 (s_si_2 hh)) ?_
              obtain ⟨x15, -, hf⟩ := s_bind hf
              obtain ⟨σ16, hh, hf⟩ := s_bind hf
              refine s_lz.tr (s_le2 (s_pf_2 hh)) ?_
              cases hf
              exact s_le.rf
          refine lv_aload_n hx hb dX8_relates_257 rfl (lv_at hl 0 rfl) ?_
          refine lv_aload_n hx hb dX8_relates_258 rfl (lv_at hl 0 rfl) ?_
          refine r_gr X I fl_X8_62 h11 dX8_relates_259 ?_
          refine lv_iload_n hx hb dX8_relates_262 rfl (lv_at hl 1 rfl) ?_
          refine r_iald X I h12 dX8_relates_263 ?_
          refine r_callV (Y := M_X8_assumedAt) (v := some (.int q9.1)) X I w_2240 my_X8_assumedAt (by omega) (t_X8_assumedAt (G := G) (d := d + 4) h13) (b_X8_assumedAt h13) rfl rfl hl.1 rfl (Nat.le_of_ble_eq_true rfl) hn le14 dX8_relates_264 (fun H locs cells slots I hn1 hn2 => ?_)
          have I : s_I G q9.2 s H locs := I
          have hn : cells + σ0.2.1 ≤ q9.2.2.1 ∧ slots + σ0.2.2.1 ≤ q9.2.2.2.1 := ⟨hn1, hn2⟩
          rcases s_ite hf with ⟨c15, hf⟩ | ⟨c15, hf⟩
          · refine lv_if_ge (tgt := 295) hx hb dX8_relates_267 (by decide) (fun _ => ?_) (fun n => absurd c15 n)
            cases hf
            have k : s_V G (d + 6) M_X8_relates vs0 σ0 Y_X8_relates (295, [.ref v0, .int v2], q9.2) (e_V r) := k
            exact k.2 p e s m below meth c _ _ _ _ _ X I hn.1 hn.2 (lv_sub hl [0, 1] rfl)
          · refine lv_if_ge (tgt := 295) hx hb dX8_relates_267 (by decide) (fun n => absurd n c15) (fun _ => ?_)
            obtain ⟨x10, h16, hf⟩ := s_bind hf
            obtain ⟨x11, h17, hf⟩ := s_bind hf
            obtain ⟨x12, h18, hf⟩ := s_bind hf
            obtain ⟨x13, h19, hf⟩ := s_bind hf
            obtain ⟨σ14, h20, hf⟩ := s_bind hf
            obtain ⟨x15, h21, hf⟩ := s_bind hf
            obtain ⟨σ16, h22, hf⟩ := s_bind hf
            cases hf
            have k : s_V G (d + 6) M_X8_relates vs0 σ0 Y_X8_relates (295, [.ref v0, .int v2], σ16) (e_V r) := k
            have le23 : s_le σ16 (e_V r).2 := k.1
            have le24 := s_le.tr (s_le2 (s_pf_2 h22)) le23
            refine lv_aload_n hx hb dX8_relates_270 rfl (lv_at hl 0 rfl) ?_
            refine r_gr X I fl_X8_86 h16 dX8_relates_271 ?_
            refine lv_aload_n hx hb dX8_relates_274 rfl (lv_at hl 0 rfl) ?_
            refine r_gi X I fl_X8_378 h17 dX8_relates_275 ?_
            refine lv_aload_n hx hb dX8_relates_278 rfl (lv_at hl 0 rfl) ?_
            refine r_gr X I fl_X8_62 h18 dX8_relates_279 ?_
            refine lv_iload_n hx hb dX8_relates_282 rfl (lv_at hl 1 rfl) ?_
            refine r_iald X I h19 dX8_relates_283 ?_
            refine r_iast X I h20 dX8_relates_284 (fun H locs I => ?_)
            have hn := s_k2 (s_si_2 h20) hn
            refine lv_aload_n hx hb dX8_relates_285 rfl (lv_at hl 0 rfl) ?_
            refine lv_dup hx hb dX8_relates_286 rfl ?_
            refine r_gi X I fl_X8_378 h21 dX8_relates_287 ?_
            refine lv_iconst (v := 1) hx hb dX8_relates_290 (by decide) ?_
            refine lv_iadd hx hb dX8_relates_291 ?_
            refine r_put X I fp_X8_378 (fun h => by cases h) h22 rfl rfl dX8_relates_292 (fun H locs I => ?_)
            have hn := s_k2 (s_pf_2 h22) hn
            exact k.2 p e s m below meth c _ _ _ _ _ X I hn.1 hn.2 (lv_sub hl [0, 1] rfl)
      · refine lv_icmp_ne (tgt := 295) hx hb dX8_relates_245 (by decide) (fun _ => ?_) (fun n => absurd n c7)
        cases hf
        have k : s_V G (d + 6) M_X8_relates vs0 σ0 Y_X8_relates (295, [.ref v0, .int v2], σ) (e_V r) := k
        exact k.2 p e s m below meth c _ _ _ _ _ X I hn.1 hn.2 (lv_sub hl [0, 1] rfl)
set_option maxRecDepth 100000 in
set_option maxHeartbeats 4000000 in
theorem v_X8_relates_295 {G : sG} {d : Nat} {vs0 : List Value} {σ0 : sS} {v0 : Nat} {v2 : Int32} {σ : sS} {z : sZ Unit} {r : Unit × sS} (hf : T_X8_relates_295 v0 v2 σ = some z) (k : s_K G (d + 6) M_X8_relates vs0 σ0 Y_X8_relates e_V z r) : s_V G (d + 6) M_X8_relates vs0 σ0 Y_X8_relates (295, [.ref v0, .int v2], σ) (e_V r) := by
  have le0 : s_le σ (e_V r).2 := s_lek hem_V (l_X8_relates_295 hf) k
  refine ⟨le0, ?_⟩
  intro p e s m below meth c H locs cells slots ls X I hn1 hn2 hl
  have hn : cells + σ0.2.1 ≤ σ.2.1 ∧ slots + σ0.2.2.1 ≤ σ.2.2.1 := ⟨hn1, hn2⟩
  have hl : lv_has ls 6 [(0, .ref v0), (2, .int v2)] := hl
  have hx := X.1
  have hb : c.code = cX8_relates := X.2.1
  have hown : s.vm.findClass RX8 = some m.cls := X.2.2.2.2.2.1
  have hts := X.2.2.2.2.2.2.1
  refine W.eq (g2 := F0 m 295 ls []) rfl ?_
  unfold T_X8_relates_295 at hf
  cases hf
  have k : s_V G (d + 6) M_X8_relates vs0 σ0 Y_X8_relates (221, [.ref v0, .int (v2 + 1)], σ) (e_V r) := k
  refine lv_iinc (v := (v2 + 1)) (lv' := [(2, .int (v2 + 1)), (0, .ref v0)]) hx hb dX8_relates_295 hl (k := 1) rfl rfl (by decide) rfl (fun ls hl => ?_)
  refine lv_goto (tgt := 221) hx hb dX8_relates_298 (by decide) ?_
  exact k.2 p e s m below meth c _ _ _ _ _ X I hn.1 hn.2 (lv_sub hl [1, 0] rfl)
set_option maxRecDepth 100000 in
set_option maxHeartbeats 4000000 in
theorem v_X8_relates_301 {G : sG} {d : Nat} {vs0 : List Value} {σ0 : sS} {v0 : Nat} {σ : sS} {z : sZ Unit} {r : Unit × sS} (hf : T_X8_relates_301 v0 σ = some z) (k : s_K G (d + 6) M_X8_relates vs0 σ0 Y_X8_relates e_V z r) : s_V G (d + 6) M_X8_relates vs0 σ0 Y_X8_relates (301, [.ref v0], σ) (e_V r) := by
  have le0 : s_le σ (e_V r).2 := s_lek hem_V (l_X8_relates_301 hf) k
  refine ⟨le0, ?_⟩
  intro p e s m below meth c H locs cells slots ls X I hn1 hn2 hl
  have hn : cells + σ0.2.1 ≤ σ.2.1 ∧ slots + σ0.2.2.1 ≤ σ.2.2.1 := ⟨hn1, hn2⟩
  have hl : lv_has ls 6 [(0, .ref v0)] := hl
  have hx := X.1
  have hb : c.code = cX8_relates := X.2.1
  have hown : s.vm.findClass RX8 = some m.cls := X.2.2.2.2.2.1
  have hts := X.2.2.2.2.2.2.1
  refine W.eq (g2 := F0 m 301 ls []) rfl ?_
  unfold T_X8_relates_301 at hf
  cases hf
  have k : s_V G (d + 6) M_X8_relates vs0 σ0 Y_X8_relates (303, [.ref v0, .int 0], σ) (e_V r) := k
  refine lv_iconst (v := 0) hx hb dX8_relates_301 (by decide) ?_
  refine lv_istore_n (lv' := [(2, .int 0), (0, .ref v0)]) hx hb dX8_relates_302 rfl hl (by decide) rfl (fun ls hl => ?_)
  exact k.2 p e s m below meth c _ _ _ _ _ X I hn.1 hn.2 (lv_sub hl [1, 0] rfl)
set_option maxRecDepth 100000 in
set_option maxHeartbeats 4000000 in
theorem v_X8_relates_303 {G : sG} {d : Nat} {vs0 : List Value} {σ0 : sS} {v0 : Nat} {v2 : Int32} {σ : sS} {z : sZ Unit} {r : Unit × sS} (hf : T_X8_relates_303 v0 v2 σ = some z) (k : s_K G (d + 6) M_X8_relates vs0 σ0 Y_X8_relates e_V z r) : s_V G (d + 6) M_X8_relates vs0 σ0 Y_X8_relates (303, [.ref v0, .int v2], σ) (e_V r) := by
  have le0 : s_le σ (e_V r).2 := s_lek hem_V (l_X8_relates_303 hf) k
  refine ⟨le0, ?_⟩
  intro p e s m below meth c H locs cells slots ls X I hn1 hn2 hl
  have hn : cells + σ0.2.1 ≤ σ.2.1 ∧ slots + σ0.2.2.1 ≤ σ.2.2.1 := ⟨hn1, hn2⟩
  have hl : lv_has ls 6 [(0, .ref v0), (2, .int v2)] := hl
  have hx := X.1
  have hb : c.code = cX8_relates := X.2.1
  have hown : s.vm.findClass RX8 = some m.cls := X.2.2.2.2.2.1
  have hts := X.2.2.2.2.2.2.1
  refine W.eq (g2 := F0 m 303 ls []) rfl ?_
  unfold T_X8_relates_303 at hf
  obtain ⟨x1, h1, hf⟩ := s_bind hf
  refine lv_iload_n hx hb dX8_relates_303 rfl (lv_at hl 1 rfl) ?_
  refine lv_aload_n hx hb dX8_relates_304 rfl (lv_at hl 0 rfl) ?_
  refine r_gi X I fl_X8_360 h1 dX8_relates_305 ?_
  rcases s_ite hf with ⟨c2, hf⟩ | ⟨c2, hf⟩
  · refine lv_icmp_ge (tgt := 471) hx hb dX8_relates_308 (by decide) (fun _ => ?_) (fun n => absurd c2 n)
    cases hf
    have k : _ = r := k
    subst k
    exact r_vret X I rfl rfl hn dX8_relates_471
  · refine lv_icmp_ge (tgt := 471) hx hb dX8_relates_308 (by decide) (fun n => absurd n c2) (fun _ => ?_)
    cases hf
    have k : s_V G (d + 6) M_X8_relates vs0 σ0 Y_X8_relates (313, [.ref v0, .int v2, .int 0], σ) (e_V r) := k
    refine lv_iconst (v := 0) hx hb dX8_relates_311 (by decide) ?_
    refine lv_istore_n (lv' := [(3, .int 0), (0, .ref v0), (2, .int v2)]) hx hb dX8_relates_312 rfl hl (by decide) rfl (fun ls hl => ?_)
    exact k.2 p e s m below meth c _ _ _ _ _ X I hn.1 hn.2 (lv_sub hl [1, 2, 0] rfl)
set_option maxRecDepth 100000 in
set_option maxHeartbeats 4000000 in
theorem v_X8_relates_313 {G : sG} {d : Nat} {vs0 : List Value} {σ0 : sS} {v0 : Nat} {v2 : Int32} {v3 : Int32} {σ : sS} {z : sZ Unit} {r : Unit × sS} (hf : T_X8_relates_313 v0 v2 v3 σ = some z) (k : s_K G (d + 6) M_X8_relates vs0 σ0 Y_X8_relates e_V z r) : s_V G (d + 6) M_X8_relates vs0 σ0 Y_X8_relates (313, [.ref v0, .int v2, .int v3], σ) (e_V r) := by
  have le0 : s_le σ (e_V r).2 := s_lek hem_V (l_X8_relates_313 hf) k
  refine ⟨le0, ?_⟩
  intro p e s m below meth c H locs cells slots ls X I hn1 hn2 hl
  have hn : cells + σ0.2.1 ≤ σ.2.1 ∧ slots + σ0.2.2.1 ≤ σ.2.2.1 := ⟨hn1, hn2⟩
  have hl : lv_has ls 6 [(0, .ref v0), (2, .int v2), (3, .int v3)] := hl
  have hx := X.1
  have hb : c.code = cX8_relates := X.2.1
  have hown : s.vm.findClass RX8 = some m.cls := X.2.2.2.2.2.1
  have hts := X.2.2.2.2.2.2.1
  refine W.eq (g2 := F0 m 313 ls []) rfl ?_
  unfold T_X8_relates_313 at hf
  obtain ⟨x1, h1, hf⟩ := s_bind hf
  refine lv_iload_n hx hb dX8_relates_313 rfl (lv_at hl 2 rfl) ?_
  refine lv_aload_n hx hb dX8_relates_314 rfl (lv_at hl 0 rfl) ?_
  refine r_gi X I fl_X8_360 h1 dX8_relates_315 ?_
  rcases s_ite hf with ⟨c2, hf⟩ | ⟨c2, hf⟩
  · refine lv_icmp_ge (tgt := 465) hx hb dX8_relates_318 (by decide) (fun _ => ?_) (fun n => absurd c2 n)
    cases hf
    have k : s_V G (d + 6) M_X8_relates vs0 σ0 Y_X8_relates (303, [.ref v0, .int (v2 + 1)], σ) (e_V r) := k
    refine lv_iinc (v := (v2 + 1)) (lv' := [(2, .int (v2 + 1)), (0, .ref v0), (3, .int v3)]) hx hb dX8_relates_465 hl (k := 1) rfl rfl (by decide) rfl (fun ls hl => ?_)
    refine lv_goto (tgt := 303) hx hb dX8_relates_468 (by decide) ?_
    exact k.2 p e s m below meth c _ _ _ _ _ X I hn.1 hn.2 (lv_sub hl [1, 0] rfl)
  · refine lv_icmp_ge (tgt := 465) hx hb dX8_relates_318 (by decide) (fun n => absurd n c2) (fun _ => ?_)
    obtain ⟨x2, h3, hf⟩ := s_bind hf
    obtain ⟨q3, h4, hf⟩ := s_bind hf
    obtain ⟨σ4, h5, hf⟩ := s_bind hf
    obtain ⟨x5, h6, hf⟩ := s_bind hf
    obtain ⟨q6, h7, hf⟩ := s_bind hf
    obtain ⟨σ7, h8, hf⟩ := s_bind hf
    obtain ⟨x8, h9, hf⟩ := s_bind hf
    obtain ⟨x9, h10, hf⟩ := s_bind hf
    obtain ⟨x10, h11, hf⟩ := s_bind hf
    have le12 : s_le σ7 (e_V r).2 := by
      refine s_lek hem_V ?_ k
      rcases s_ite hf with ⟨-, hf⟩ | ⟨-, hf⟩
      · obtain ⟨q11, hh, hf⟩ := s_bind hf
        refine s_lz.tr (l_X8_endOf hh) ?_
        obtain ⟨q12, hh, hf⟩ := s_bind hf
        refine s_lz.tr (l_X8_caseOf hh) ?_
        cases hf
        exact s_le.rf
      · cases hf
        exact s_le.rf
    have le13 := s_le.tr (s_le2 (s_sb_2 h8)) le12
    have le14 := s_le.tr (l_X8_isTwice h7) le13
    have le15 := s_le.tr (s_le2 (s_sb_2 h5)) le14
    refine lv_bipush (v := 40) hx hb dX8_relates_321 (by decide) ?_
    refine lv_iload_n hx hb dX8_relates_323 rfl (lv_at hl 1 rfl) ?_
    refine lv_imul hx hb dX8_relates_324 ?_
    refine lv_iload_n hx hb dX8_relates_325 rfl (lv_at hl 2 rfl) ?_
    refine lv_iadd hx hb dX8_relates_326 ?_
    refine lv_istore (lv' := [(4, .int ((40 * v2) + v3)), (0, .ref v0), (2, .int v2), (3, .int v3)]) hx hb dX8_relates_327 hl (by decide) rfl (fun ls hl => ?_)
    refine lv_aload_n hx hb dX8_relates_329 rfl (lv_at hl 1 rfl) ?_
    refine r_gr X I fl_X8_74 h3 dX8_relates_330 ?_
    refine lv_iload hx hb dX8_relates_333 (lv_at hl 0 rfl) ?_
    refine lv_aload_n hx hb dX8_relates_335 rfl (lv_at hl 1 rfl) ?_
    refine lv_bipush (v := 30) hx hb dX8_relates_336 (by decide) ?_
    refine lv_iload_n hx hb dX8_relates_338 rfl (lv_at hl 2 rfl) ?_
    refine lv_iadd hx hb dX8_relates_339 ?_
    refine lv_bipush (v := 16) hx hb dX8_relates_340 (by decide) ?_
    refine lv_bipush (v := 30) hx hb dX8_relates_342 (by decide) ?_
    refine lv_iload_n hx hb dX8_relates_344 rfl (lv_at hl 3 rfl) ?_
    refine lv_iadd hx hb dX8_relates_345 ?_
    refine r_callV (Y := M_X8_isOfSome) (v := some (.int q3.1)) X I w_2079 my_X8_isOfSome (by omega) (t_X8_isOfSome (G := G) (d := d + 1) h4) (b_X8_isOfSome h4) rfl rfl hl.1 rfl (Nat.le_of_ble_eq_true rfl) hn le15 dX8_relates_346 (fun H locs cells slots I hn1 hn2 => ?_)
    have I : s_I G q3.2 s H locs := I
    have hn : cells + σ0.2.1 ≤ q3.2.2.1 ∧ slots + σ0.2.2.1 ≤ q3.2.2.2.1 := ⟨hn1, hn2⟩
    refine r_bast X I h5 dX8_relates_349 (fun H locs I => ?_)
    have hn := s_k2 (s_sb_2 h5) hn
    refine lv_aload_n hx hb dX8_relates_350 rfl (lv_at hl 1 rfl) ?_
    refine r_gr X I fl_X8_77 h6 dX8_relates_351 ?_
    refine lv_iload hx hb dX8_relates_354 (lv_at hl 0 rfl) ?_
    refine lv_aload_n hx hb dX8_relates_356 rfl (lv_at hl 1 rfl) ?_
    refine lv_bipush (v := 30) hx hb dX8_relates_357 (by decide) ?_
    refine lv_iload_n hx hb dX8_relates_359 rfl (lv_at hl 2 rfl) ?_
    refine lv_iadd hx hb dX8_relates_360 ?_
    refine lv_bipush (v := 30) hx hb dX8_relates_361 (by decide) ?_
    refine lv_iload_n hx hb dX8_relates_363 rfl (lv_at hl 3 rfl) ?_
    refine lv_iadd hx hb dX8_relates_364 ?_
    refine r_callV (Y := M_X8_isTwice) (v := some (.int q6.1)) X I w_2071 my_X8_isTwice (by omega) (t_X8_isTwice (G := G) (d := d + 2) h7) (b_X8_isTwice h7) rfl rfl hl.1 rfl (Nat.le_of_ble_eq_true rfl) hn le13 dX8_relates_365 (fun H locs cells slots I hn1 hn2 => ?_)
    have I : s_I G q6.2 s H locs := I
    have hn : cells + σ0.2.1 ≤ q6.2.2.1 ∧ slots + σ0.2.2.1 ≤ q6.2.2.2.1 := ⟨hn1, hn2⟩
    refine r_bast X I h8 dX8_relates_368 (fun H locs I => ?_)
    have hn := s_k2 (s_sb_2 h8) hn
    refine lv_aload_n hx hb dX8_relates_369 rfl (lv_at hl 1 rfl) ?_
    refine r_gr X I fl_X8_80 h9 dX8_relates_370 ?_
    refine lv_iload hx hb dX8_relates_373 (lv_at hl 0 rfl) ?_
    refine lv_aload_n hx hb dX8_relates_375 rfl (lv_at hl 1 rfl) ?_
    refine r_gr X I fl_X8_59 h10 dX8_relates_376 ?_
    refine lv_iload_n hx hb dX8_relates_379 rfl (lv_at hl 2 rfl) ?_
    refine r_iald X I h11 dX8_relates_380 ?_
    refine lv_bipush (v := 14) hx hb dX8_relates_381 (by decide) ?_
    rcases s_ite hf with ⟨c16, hf⟩ | ⟨c16, hf⟩
    · refine lv_icmp_ne (tgt := 408) hx hb dX8_relates_383 (by decide) (fun n => absurd c16 n) (fun _ => ?_)
      obtain ⟨q11, h17, hf⟩ := s_bind hf
      obtain ⟨q12, h18, hf⟩ := s_bind hf
      cases hf
      have k : s_V G (d + 6) M_X8_relates vs0 σ0 Y_X8_relates (409, [.ref v0, .int v2, .int v3, .int ((40 * v2) + v3), .int q12.1, .int ((40 * v2) + v3), .ref x8], q12.2) (e_V r) := k
      have le19 : s_le q12.2 (e_V r).2 := k.1
      have le20 := s_le.tr (l_X8_caseOf h18) le19
      refine lv_aload_n hx hb dX8_relates_386 rfl (lv_at hl 1 rfl) ?_
      refine lv_bipush (v := 30) hx hb dX8_relates_387 (by decide) ?_
      refine lv_iload_n hx hb dX8_relates_389 rfl (lv_at hl 2 rfl) ?_
      refine lv_iadd hx hb dX8_relates_390 ?_
      refine lv_iconst (v := 1) hx hb dX8_relates_391 (by decide) ?_
      refine lv_aload_n hx hb dX8_relates_392 rfl (lv_at hl 1 rfl) ?_
      refine lv_bipush (v := 30) hx hb dX8_relates_393 (by decide) ?_
      refine lv_iload_n hx hb dX8_relates_395 rfl (lv_at hl 2 rfl) ?_
      refine lv_iadd hx hb dX8_relates_396 ?_
      refine lv_iconst (v := 1) hx hb dX8_relates_397 (by decide) ?_
      refine r_callV (Y := M_X8_endOf) (v := some (.int q11.1)) X I w_2063 my_X8_endOf (by omega) (t_X8_endOf (G := G) (d := d + 3) h17) (b_X8_endOf h17) rfl rfl hl.1 rfl (Nat.le_of_ble_eq_true rfl) hn le20 dX8_relates_398 (fun H locs cells slots I hn1 hn2 => ?_)
      have I : s_I G q11.2 s H locs := I
      have hn : cells + σ0.2.1 ≤ q11.2.2.1 ∧ slots + σ0.2.2.1 ≤ q11.2.2.2.1 := ⟨hn1, hn2⟩
      refine lv_iload_n hx hb dX8_relates_401 rfl (lv_at hl 3 rfl) ?_
      refine r_callV (Y := M_X8_caseOf) (v := some (.int q12.1)) X I w_2244 my_X8_caseOf (by omega) (t_X8_caseOf (G := G) (d := d + 0) h18) (b_X8_caseOf h18) rfl rfl hl.1 rfl (Nat.le_of_ble_eq_true rfl) hn le19 dX8_relates_402 (fun H locs cells slots I hn1 hn2 => ?_)
      have I : s_I G q12.2 s H locs := I
      have hn : cells + σ0.2.1 ≤ q12.2.2.1 ∧ slots + σ0.2.2.1 ≤ q12.2.2.2.1 := ⟨hn1, hn2⟩
      refine lv_goto (tgt := 409) hx hb dX8_relates_405 (by decide) ?_
      exact k.2 p e s m below meth c _ _ _ _ _ X I hn.1 hn.2 (lv_sub hl [1, 2, 3, 0] rfl)
    · refine lv_icmp_ne (tgt := 408) hx hb dX8_relates_383 (by decide) (fun _ => ?_) (fun n => absurd n c16)
      cases hf
      have k : s_V G (d + 6) M_X8_relates vs0 σ0 Y_X8_relates (409, [.ref v0, .int v2, .int v3, .int ((40 * v2) + v3), .int (-1), .int ((40 * v2) + v3), .ref x8], σ7) (e_V r) := k
      refine lv_iconst (v := (-1)) hx hb dX8_relates_408 (by decide) ?_
      exact k.2 p e s m below meth c _ _ _ _ _ X I hn.1 hn.2 (lv_sub hl [1, 2, 3, 0] rfl)
set_option maxRecDepth 100000 in
set_option maxHeartbeats 4000000 in
theorem v_X8_relates_409 {G : sG} {d : Nat} {vs0 : List Value} {σ0 : sS} {v0 : Nat} {v2 : Int32} {v3 : Int32} {v4 : Int32} {w0 : Int32} {w1 : Int32} {w2 : Nat} {σ : sS} {z : sZ Unit} {r : Unit × sS} (hf : T_X8_relates_409 v0 v2 v3 v4 w0 w1 w2 σ = some z) (k : s_K G (d + 6) M_X8_relates vs0 σ0 Y_X8_relates e_V z r) : s_V G (d + 6) M_X8_relates vs0 σ0 Y_X8_relates (409, [.ref v0, .int v2, .int v3, .int v4, .int w0, .int w1, .ref w2], σ) (e_V r) := by
  have le0 : s_le σ (e_V r).2 := s_lek hem_V (l_X8_relates_409 hf) k
  refine ⟨le0, ?_⟩
  intro p e s m below meth c H locs cells slots ls X I hn1 hn2 hl
  have hn : cells + σ0.2.1 ≤ σ.2.1 ∧ slots + σ0.2.2.1 ≤ σ.2.2.1 := ⟨hn1, hn2⟩
  have hl : lv_has ls 6 [(0, .ref v0), (2, .int v2), (3, .int v3), (4, .int v4)] := hl
  have hx := X.1
  have hb : c.code = cX8_relates := X.2.1
  have hown : s.vm.findClass RX8 = some m.cls := X.2.2.2.2.2.1
  have hts := X.2.2.2.2.2.2.1
  refine W.eq (g2 := F0 m 409 ls [.int w0, .int w1, .ref w2]) rfl ?_
  unfold T_X8_relates_409 at hf
  obtain ⟨σ1, h1, hf⟩ := s_bind hf
  obtain ⟨x2, h2, hf⟩ := s_bind hf
  obtain ⟨x3, h3, hf⟩ := s_bind hf
  obtain ⟨x4, h4, hf⟩ := s_bind hf
  have le5 : s_le σ1 (e_V r).2 := by
    refine s_lek hem_V ?_ k
    rcases s_ite hf with ⟨-, hf⟩ | ⟨-, hf⟩
    · obtain ⟨q5, hh, hf⟩ := s_bind hf
      refine s_lz.tr (l_X8_endOf hh) ?_
      obtain ⟨x6, -, hf⟩ := s_bind hf
      obtain ⟨x7, -, hf⟩ := s_bind hf
      obtain ⟨q8, hh, hf⟩ := s_bind hf
      refine s_lz.tr (l_X8_caseOf hh) ?_
      cases hf
      exact s_le.rf
    · cases hf
      exact s_le.rf
  refine r_iast X I h1 dX8_relates_409 (fun H locs I => ?_)
  have hn := s_k2 (s_si_2 h1) hn
  refine lv_aload_n hx hb dX8_relates_410 rfl (lv_at hl 0 rfl) ?_
  refine r_gr X I fl_X8_83 h2 dX8_relates_411 ?_
  refine lv_iload hx hb dX8_relates_414 (lv_at hl 3 rfl) ?_
  refine lv_aload_n hx hb dX8_relates_416 rfl (lv_at hl 0 rfl) ?_
  refine r_gr X I fl_X8_59 h3 dX8_relates_417 ?_
  refine lv_iload_n hx hb dX8_relates_420 rfl (lv_at hl 1 rfl) ?_
  refine r_iald X I h4 dX8_relates_421 ?_
  refine lv_bipush (v := 14) hx hb dX8_relates_422 (by decide) ?_
  rcases s_ite hf with ⟨c6, hf⟩ | ⟨c6, hf⟩
  · refine lv_icmp_ne (tgt := 457) hx hb dX8_relates_424 (by decide) (fun n => absurd c6 n) (fun _ => ?_)
    obtain ⟨q5, h7, hf⟩ := s_bind hf
    obtain ⟨x6, h8, hf⟩ := s_bind hf
    obtain ⟨x7, h9, hf⟩ := s_bind hf
    obtain ⟨q8, h10, hf⟩ := s_bind hf
    cases hf
    have k : s_V G (d + 6) M_X8_relates vs0 σ0 Y_X8_relates (458, [.ref v0, .int v2, .int v3, .int q8.1, .int v4, .ref x2], q8.2) (e_V r) := k
    have le11 : s_le q8.2 (e_V r).2 := k.1
    have le12 := s_le.tr (l_X8_caseOf h10) le11
    refine lv_aload_n hx hb dX8_relates_427 rfl (lv_at hl 0 rfl) ?_
    refine lv_bipush (v := 30) hx hb dX8_relates_428 (by decide) ?_
    refine lv_iload_n hx hb dX8_relates_430 rfl (lv_at hl 1 rfl) ?_
    refine lv_iadd hx hb dX8_relates_431 ?_
    refine lv_aload_n hx hb dX8_relates_432 rfl (lv_at hl 0 rfl) ?_
    refine lv_bipush (v := 30) hx hb dX8_relates_433 (by decide) ?_
    refine lv_iload_n hx hb dX8_relates_435 rfl (lv_at hl 1 rfl) ?_
    refine lv_iadd hx hb dX8_relates_436 ?_
    refine lv_iconst (v := 1) hx hb dX8_relates_437 (by decide) ?_
    refine r_callV (Y := M_X8_endOf) (v := some (.int q5.1)) X I w_2063 my_X8_endOf (by omega) (t_X8_endOf (G := G) (d := d + 3) h7) (b_X8_endOf h7) rfl rfl hl.1 rfl (Nat.le_of_ble_eq_true rfl) hn le12 dX8_relates_438 (fun H locs cells slots I hn1 hn2 => ?_)
    have I : s_I G q5.2 s H locs := I
    have hn : cells + σ0.2.1 ≤ q5.2.2.1 ∧ slots + σ0.2.2.1 ≤ q5.2.2.2.1 := ⟨hn1, hn2⟩
    refine lv_aload_n hx hb dX8_relates_441 rfl (lv_at hl 0 rfl) ?_
    refine r_gr X I fl_X8_20 h8 dX8_relates_442 ?_
    refine lv_bipush (v := 30) hx hb dX8_relates_445 (by decide) ?_
    refine lv_iload_n hx hb dX8_relates_447 rfl (lv_at hl 1 rfl) ?_
    refine lv_iadd hx hb dX8_relates_448 ?_
    refine r_iald X I h9 dX8_relates_449 ?_
    refine lv_iload_n hx hb dX8_relates_450 rfl (lv_at hl 2 rfl) ?_
    refine r_callV (Y := M_X8_caseOf) (v := some (.int q8.1)) X I w_2244 my_X8_caseOf (by omega) (t_X8_caseOf (G := G) (d := d + 0) h10) (b_X8_caseOf h10) rfl rfl hl.1 rfl (Nat.le_of_ble_eq_true rfl) hn le11 dX8_relates_451 (fun H locs cells slots I hn1 hn2 => ?_)
    have I : s_I G q8.2 s H locs := I
    have hn : cells + σ0.2.1 ≤ q8.2.2.1 ∧ slots + σ0.2.2.1 ≤ q8.2.2.2.1 := ⟨hn1, hn2⟩
    refine lv_goto (tgt := 458) hx hb dX8_relates_454 (by decide) ?_
    exact k.2 p e s m below meth c _ _ _ _ _ X I hn.1 hn.2 (lv_sub hl [0, 1, 2] rfl)
  · refine lv_icmp_ne (tgt := 457) hx hb dX8_relates_424 (by decide) (fun _ => ?_) (fun n => absurd n c6)
    cases hf
    have k : s_V G (d + 6) M_X8_relates vs0 σ0 Y_X8_relates (458, [.ref v0, .int v2, .int v3, .int (-1), .int v4, .ref x2], σ1) (e_V r) := k
    refine lv_iconst (v := (-1)) hx hb dX8_relates_457 (by decide) ?_
    exact k.2 p e s m below meth c _ _ _ _ _ X I hn.1 hn.2 (lv_sub hl [0, 1, 2] rfl)
set_option maxRecDepth 100000 in
set_option maxHeartbeats 4000000 in
theorem v_X8_relates_458 {G : sG} {d : Nat} {vs0 : List Value} {σ0 : sS} {v0 : Nat} {v2 : Int32} {v3 : Int32} {w0 : Int32} {w1 : Int32} {w2 : Nat} {σ : sS} {z : sZ Unit} {r : Unit × sS} (hf : T_X8_relates_458 v0 v2 v3 w0 w1 w2 σ = some z) (k : s_K G (d + 6) M_X8_relates vs0 σ0 Y_X8_relates e_V z r) : s_V G (d + 6) M_X8_relates vs0 σ0 Y_X8_relates (458, [.ref v0, .int v2, .int v3, .int w0, .int w1, .ref w2], σ) (e_V r) := by
  have le0 : s_le σ (e_V r).2 := s_lek hem_V (l_X8_relates_458 hf) k
  refine ⟨le0, ?_⟩
  intro p e s m below meth c H locs cells slots ls X I hn1 hn2 hl
  have hn : cells + σ0.2.1 ≤ σ.2.1 ∧ slots + σ0.2.2.1 ≤ σ.2.2.1 := ⟨hn1, hn2⟩
  have hl : lv_has ls 6 [(0, .ref v0), (2, .int v2), (3, .int v3)] := hl
  have hx := X.1
  have hb : c.code = cX8_relates := X.2.1
  have hown : s.vm.findClass RX8 = some m.cls := X.2.2.2.2.2.1
  have hts := X.2.2.2.2.2.2.1
  refine W.eq (g2 := F0 m 458 ls [.int w0, .int w1, .ref w2]) rfl ?_
  unfold T_X8_relates_458 at hf
  obtain ⟨σ1, h1, hf⟩ := s_bind hf
  cases hf
  have k : s_V G (d + 6) M_X8_relates vs0 σ0 Y_X8_relates (313, [.ref v0, .int v2, .int (v3 + 1)], σ1) (e_V r) := k
  have le2 : s_le σ1 (e_V r).2 := k.1
  refine r_iast X I h1 dX8_relates_458 (fun H locs I => ?_)
  have hn := s_k2 (s_si_2 h1) hn
  refine lv_iinc (v := (v3 + 1)) (lv' := [(3, .int (v3 + 1)), (0, .ref v0), (2, .int v2)]) hx hb dX8_relates_459 hl (k := 2) rfl rfl (by decide) rfl (fun ls hl => ?_)
  refine lv_goto (tgt := 313) hx hb dX8_relates_462 (by decide) ?_
  exact k.2 p e s m below meth c _ _ _ _ _ X I hn.1 hn.2 (lv_sub hl [1, 2, 0] rfl)
theorem v_X8_relates {G : sG} {d : Nat} {vs0 : List Value} {σ0 : sS} {x : sL} {z : sZ Unit} {r : Unit × sS} (hs : S_X8_relates x = some z) (k : s_K G (d + 6) M_X8_relates vs0 σ0 Y_X8_relates e_V z r) : s_V G (d + 6) M_X8_relates vs0 σ0 Y_X8_relates x (e_V r) := by
  obtain ⟨pc, vs, σ⟩ := x
  unfold S_X8_relates at hs
  dsimp only at hs
  rcases s_ite hs with ⟨c, hs⟩ | ⟨-, hs⟩
  · subst c
    unfold U_X8_relates_0 at hs
    obtain ⟨a0, g0, hs⟩ := s_bind hs
    obtain ⟨a1, g1, hs⟩ := s_bind hs
    obtain ⟨u9, ge, hs⟩ := s_bind hs
    rw [g_r_to g0, g_i_to g1, g_e_to ge]
    exact v_X8_relates_0 hs k
  rcases s_ite hs with ⟨c, hs⟩ | ⟨-, hs⟩
  · subst c
    unfold U_X8_relates_7 at hs
    obtain ⟨a0, g0, hs⟩ := s_bind hs
    obtain ⟨a1, g1, hs⟩ := s_bind hs
    obtain ⟨a2, g2, hs⟩ := s_bind hs
    obtain ⟨u9, ge, hs⟩ := s_bind hs
    rw [g_r_to g0, g_i_to g1, g_i_to g2, g_e_to ge]
    exact v_X8_relates_7 hs k
  rcases s_ite hs with ⟨c, hs⟩ | ⟨-, hs⟩
  · subst c
    unfold U_X8_relates_97 at hs
    obtain ⟨a0, g0, hs⟩ := s_bind hs
    obtain ⟨a1, g1, hs⟩ := s_bind hs
    obtain ⟨a2, g2, hs⟩ := s_bind hs
    obtain ⟨a3, g3, hs⟩ := s_bind hs
    obtain ⟨a4, g4, hs⟩ := s_bind hs
    obtain ⟨a5, g5, hs⟩ := s_bind hs
    obtain ⟨a6, g6, hs⟩ := s_bind hs
    obtain ⟨a7, g7, hs⟩ := s_bind hs
    obtain ⟨u9, ge, hs⟩ := s_bind hs
    rw [g_r_to g0, g_i_to g1, g_i_to g2, g_i_to g3, g_i_to g4, g_i_to g5, g_i_to g6, g_r_to g7, g_e_to ge]
    exact v_X8_relates_97 hs k
  rcases s_ite hs with ⟨c, hs⟩ | ⟨-, hs⟩
  · subst c
    unfold U_X8_relates_130 at hs
    obtain ⟨a0, g0, hs⟩ := s_bind hs
    obtain ⟨a1, g1, hs⟩ := s_bind hs
    obtain ⟨a2, g2, hs⟩ := s_bind hs
    obtain ⟨a3, g3, hs⟩ := s_bind hs
    obtain ⟨a4, g4, hs⟩ := s_bind hs
    obtain ⟨a5, g5, hs⟩ := s_bind hs
    obtain ⟨a6, g6, hs⟩ := s_bind hs
    obtain ⟨u9, ge, hs⟩ := s_bind hs
    rw [g_r_to g0, g_i_to g1, g_i_to g2, g_i_to g3, g_i_to g4, g_i_to g5, g_r_to g6, g_e_to ge]
    exact v_X8_relates_130 hs k
  rcases s_ite hs with ⟨c, hs⟩ | ⟨-, hs⟩
  · subst c
    unfold U_X8_relates_134 at hs
    obtain ⟨a0, g0, hs⟩ := s_bind hs
    obtain ⟨a1, g1, hs⟩ := s_bind hs
    obtain ⟨a2, g2, hs⟩ := s_bind hs
    obtain ⟨a3, g3, hs⟩ := s_bind hs
    obtain ⟨a4, g4, hs⟩ := s_bind hs
    obtain ⟨u9, ge, hs⟩ := s_bind hs
    rw [g_r_to g0, g_i_to g1, g_i_to g2, g_i_to g3, g_i_to g4, g_e_to ge]
    exact v_X8_relates_134 hs k
  rcases s_ite hs with ⟨c, hs⟩ | ⟨-, hs⟩
  · subst c
    unfold U_X8_relates_193 at hs
    obtain ⟨a0, g0, hs⟩ := s_bind hs
    obtain ⟨a1, g1, hs⟩ := s_bind hs
    obtain ⟨a2, g2, hs⟩ := s_bind hs
    obtain ⟨a3, g3, hs⟩ := s_bind hs
    obtain ⟨a4, g4, hs⟩ := s_bind hs
    obtain ⟨a5, g5, hs⟩ := s_bind hs
    obtain ⟨a6, g6, hs⟩ := s_bind hs
    obtain ⟨u9, ge, hs⟩ := s_bind hs
    rw [g_r_to g0, g_i_to g1, g_i_to g2, g_i_to g3, g_i_to g4, g_i_to g5, g_r_to g6, g_e_to ge]
    exact v_X8_relates_193 hs k
  rcases s_ite hs with ⟨c, hs⟩ | ⟨-, hs⟩
  · subst c
    unfold U_X8_relates_194 at hs
    obtain ⟨a0, g0, hs⟩ := s_bind hs
    obtain ⟨a1, g1, hs⟩ := s_bind hs
    obtain ⟨a2, g2, hs⟩ := s_bind hs
    obtain ⟨a3, g3, hs⟩ := s_bind hs
    obtain ⟨a4, g4, hs⟩ := s_bind hs
    obtain ⟨a5, g5, hs⟩ := s_bind hs
    obtain ⟨a6, g6, hs⟩ := s_bind hs
    obtain ⟨a7, g7, hs⟩ := s_bind hs
    obtain ⟨u9, ge, hs⟩ := s_bind hs
    rw [g_r_to g0, g_i_to g1, g_i_to g2, g_i_to g3, g_i_to g4, g_i_to g5, g_i_to g6, g_r_to g7, g_e_to ge]
    exact v_X8_relates_194 hs k
  rcases s_ite hs with ⟨c, hs⟩ | ⟨-, hs⟩
  · subst c
    unfold U_X8_relates_221 at hs
    obtain ⟨a0, g0, hs⟩ := s_bind hs
    obtain ⟨a1, g1, hs⟩ := s_bind hs
    obtain ⟨u9, ge, hs⟩ := s_bind hs
    rw [g_r_to g0, g_i_to g1, g_e_to ge]
    exact v_X8_relates_221 hs k
  rcases s_ite hs with ⟨c, hs⟩ | ⟨-, hs⟩
  · subst c
    unfold U_X8_relates_295 at hs
    obtain ⟨a0, g0, hs⟩ := s_bind hs
    obtain ⟨a1, g1, hs⟩ := s_bind hs
    obtain ⟨u9, ge, hs⟩ := s_bind hs
    rw [g_r_to g0, g_i_to g1, g_e_to ge]
    exact v_X8_relates_295 hs k
  rcases s_ite hs with ⟨c, hs⟩ | ⟨-, hs⟩
  · subst c
    unfold U_X8_relates_301 at hs
    obtain ⟨a0, g0, hs⟩ := s_bind hs
    obtain ⟨u9, ge, hs⟩ := s_bind hs
    rw [g_r_to g0, g_e_to ge]
    exact v_X8_relates_301 hs k
  rcases s_ite hs with ⟨c, hs⟩ | ⟨-, hs⟩
  · subst c
    unfold U_X8_relates_303 at hs
    obtain ⟨a0, g0, hs⟩ := s_bind hs
    obtain ⟨a1, g1, hs⟩ := s_bind hs
    obtain ⟨u9, ge, hs⟩ := s_bind hs
    rw [g_r_to g0, g_i_to g1, g_e_to ge]
    exact v_X8_relates_303 hs k
  rcases s_ite hs with ⟨c, hs⟩ | ⟨-, hs⟩
  · subst c
    unfold U_X8_relates_313 at hs
    obtain ⟨a0, g0, hs⟩ := s_bind hs
    obtain ⟨a1, g1, hs⟩ := s_bind hs
    obtain ⟨a2, g2, hs⟩ := s_bind hs
    obtain ⟨u9, ge, hs⟩ := s_bind hs
    rw [g_r_to g0, g_i_to g1, g_i_to g2, g_e_to ge]
    exact v_X8_relates_313 hs k
  rcases s_ite hs with ⟨c, hs⟩ | ⟨-, hs⟩
  · subst c
    unfold U_X8_relates_409 at hs
    obtain ⟨a0, g0, hs⟩ := s_bind hs
    obtain ⟨a1, g1, hs⟩ := s_bind hs
    obtain ⟨a2, g2, hs⟩ := s_bind hs
    obtain ⟨a3, g3, hs⟩ := s_bind hs
    obtain ⟨a4, g4, hs⟩ := s_bind hs
    obtain ⟨a5, g5, hs⟩ := s_bind hs
    obtain ⟨a6, g6, hs⟩ := s_bind hs
    obtain ⟨u9, ge, hs⟩ := s_bind hs
    rw [g_r_to g0, g_i_to g1, g_i_to g2, g_i_to g3, g_i_to g4, g_i_to g5, g_r_to g6, g_e_to ge]
    exact v_X8_relates_409 hs k
  rcases s_ite hs with ⟨c, hs⟩ | ⟨-, hs⟩
  · subst c
    unfold U_X8_relates_458 at hs
    obtain ⟨a0, g0, hs⟩ := s_bind hs
    obtain ⟨a1, g1, hs⟩ := s_bind hs
    obtain ⟨a2, g2, hs⟩ := s_bind hs
    obtain ⟨a3, g3, hs⟩ := s_bind hs
    obtain ⟨a4, g4, hs⟩ := s_bind hs
    obtain ⟨a5, g5, hs⟩ := s_bind hs
    obtain ⟨u9, ge, hs⟩ := s_bind hs
    rw [g_r_to g0, g_i_to g1, g_i_to g2, g_i_to g3, g_i_to g4, g_r_to g5, g_e_to ge]
    exact v_X8_relates_458 hs k
  cases hs
theorem t_X8_relates {G : sG} {d : Nat} {v0 : Nat} {v1 : Int32} {σ : sS} {q : Unit × sS} (h : F_X8_relates v0 v1 σ = some q) : s_T G (d + 6) M_X8_relates [.ref v0, .int v1] σ (e_V q) := by
  unfold F_X8_relates at h
  obtain ⟨-, -, h⟩ := s_bind h
  exact s_ofV rfl (by decide) (Nat.le_of_ble_eq_true rfl) rfl rfl (s_run_ind (V := fun x r => s_V G (d + 6) M_X8_relates [.ref v0, .int v1] σ Y_X8_relates x (e_V r)) (fun x z r hs hk => v_X8_relates hs (by cases z <;> exact hk)) h)
/-! X8_costAt -/
noncomputable def T_X8_costAt_0 (v0 : Nat) (v1 : Int32) (v2 : Int32) (σ : sS) : Option (sZ Int32) :=
  if (0 : Int32) ≤ v1 then ((s_fr σ v0 8 36).bind fun x1 =>
  (s_ai σ x1 ((8 * v1) + v2)).bind fun x2 =>
  some (.inr (x2, σ)))
  else (some (.inr (268435456, σ)))
noncomputable def U_X8_costAt_0 (vs : List Value) (σ : sS) : Option (sZ Int32) := (g_r vs).bind fun a0 => (g_i a0.2).bind fun a1 => (g_i a1.2).bind fun a2 => (g_e a2.2).bind fun _ => T_X8_costAt_0 a0.1 a1.1 a2.1 σ
noncomputable def S_X8_costAt (x : sL) : Option (sZ Int32) := if x.1 = 0 then U_X8_costAt_0 x.2.1 x.2.2 else none
def Y_X8_costAt (pc : Nat) : List Nat := if pc = 0 then [0, 1, 2] else []
noncomputable def F_X8_costAt (v0 : Nat) (v1 : Int32) (v2 : Int32) (σ : sS) : Option (Int32 × sS) := (s_is σ v0 8).bind fun _ => s_run S_X8_costAt (0, [.ref v0, .int v1, .int v2], σ)
theorem l_X8_costAt_0 {v0 : Nat} {v1 : Int32} {v2 : Int32} {σ : sS} {z : sZ Int32} (hf : T_X8_costAt_0 v0 v1 v2 σ = some z) : s_lz σ z := by
  unfold T_X8_costAt_0 at hf
  rcases s_ite hf with ⟨-, hf⟩ | ⟨-, hf⟩
  · obtain ⟨x1, -, hf⟩ := s_bind hf
    obtain ⟨x2, -, hf⟩ := s_bind hf
    cases hf
    exact s_le.rf
  · cases hf
    exact s_le.rf
theorem l_X8_costAt_s {x : sL} {z : sZ Int32} (hs : S_X8_costAt x = some z) : s_lz x.2.2 z := by
  obtain ⟨pc, vs, σ⟩ := x
  unfold S_X8_costAt at hs
  dsimp only at hs ⊢
  rcases s_ite hs with ⟨c, hs⟩ | ⟨-, hs⟩
  · subst c
    unfold U_X8_costAt_0 at hs
    obtain ⟨a0, g0, hs⟩ := s_bind hs
    obtain ⟨a1, g1, hs⟩ := s_bind hs
    obtain ⟨a2, g2, hs⟩ := s_bind hs
    obtain ⟨u9, ge, hs⟩ := s_bind hs
    exact l_X8_costAt_0 hs
  cases hs
theorem l_X8_costAt {v0 : Nat} {v1 : Int32} {v2 : Int32} {σ : sS} {q : Int32 × sS} (h : F_X8_costAt v0 v1 v2 σ = some q) : s_le σ q.2 := by
  unfold F_X8_costAt at h
  obtain ⟨-, -, h⟩ := s_bind h
  exact s_run_ind (V := fun x r => s_le x.2.2 r.2) (fun x z r hs hk => by
    have h9 := l_X8_costAt_s hs
    cases z with
    | inl y => exact s_le.tr h9 hk
    | inr q => cases hk; exact h9) h
theorem b_X8_costAt {v0 : Nat} {v1 : Int32} {v2 : Int32} {σ : sS} {q : Int32 × sS} (h : F_X8_costAt v0 v1 v2 σ = some q) : ∃ fs, σ.1 v0 = some (.inr (8, fs)) := by
  unfold F_X8_costAt at h
  obtain ⟨u, hu, -⟩ := s_bind h
  exact s_is_to hu
set_option maxRecDepth 100000 in
set_option maxHeartbeats 4000000 in
theorem v_X8_costAt_0 {G : sG} {d : Nat} {vs0 : List Value} {σ0 : sS} {v0 : Nat} {v1 : Int32} {v2 : Int32} {σ : sS} {z : sZ Int32} {r : Int32 × sS} (hf : T_X8_costAt_0 v0 v1 v2 σ = some z) (k : s_K G (d + 1) M_X8_costAt vs0 σ0 Y_X8_costAt e_I z r) : s_V G (d + 1) M_X8_costAt vs0 σ0 Y_X8_costAt (0, [.ref v0, .int v1, .int v2], σ) (e_I r) := by
  have le0 : s_le σ (e_I r).2 := s_lek hem_I (l_X8_costAt_0 hf) k
  refine ⟨le0, ?_⟩
  intro p e s m below meth c H locs cells slots ls X I hn1 hn2 hl
  have hn : cells + σ0.2.1 ≤ σ.2.1 ∧ slots + σ0.2.2.1 ≤ σ.2.2.1 := ⟨hn1, hn2⟩
  have hl : lv_has ls 3 [(0, .ref v0), (1, .int v1), (2, .int v2)] := hl
  have hx := X.1
  have hb : c.code = cX8_costAt := X.2.1
  have hown : s.vm.findClass RX8 = some m.cls := X.2.2.2.2.2.1
  have hts := X.2.2.2.2.2.2.1
  refine W.eq (g2 := F0 m 0 ls []) rfl ?_
  unfold T_X8_costAt_0 at hf
  refine lv_iload_n hx hb dX8_costAt_0 rfl (lv_at hl 1 rfl) ?_
  rcases s_ite hf with ⟨c1, hf⟩ | ⟨c1, hf⟩
  · refine lv_if_ge (tgt := 10) hx hb dX8_costAt_1 (by decide) (fun _ => ?_) (fun n => absurd c1 n)
    obtain ⟨x1, h2, hf⟩ := s_bind hf
    obtain ⟨x2, h3, hf⟩ := s_bind hf
    cases hf
    have k : _ = r := k
    subst k
    refine lv_aload_n hx hb dX8_costAt_10 rfl (lv_at hl 0 rfl) ?_
    refine r_gr X I fl_X8_89 h2 dX8_costAt_11 ?_
    refine lv_bipush (v := 8) hx hb dX8_costAt_14 (by decide) ?_
    refine lv_iload_n hx hb dX8_costAt_16 rfl (lv_at hl 1 rfl) ?_
    refine lv_imul hx hb dX8_costAt_17 ?_
    refine lv_iload_n hx hb dX8_costAt_18 rfl (lv_at hl 2 rfl) ?_
    refine lv_iadd hx hb dX8_costAt_19 ?_
    refine r_iald X I h3 dX8_costAt_20 ?_
    exact r_iret X I rfl rfl rfl hn dX8_costAt_21
  · refine lv_if_ge (tgt := 10) hx hb dX8_costAt_1 (by decide) (fun n => absurd n c1) (fun _ => ?_)
    cases hf
    have k : _ = r := k
    subst k
    refine lv_ldcw (own := RX8) hx hb hown (hts _ w_2248) dX8_costAt_4 ?_
    refine lv_goto (tgt := 21) hx hb dX8_costAt_7 (by decide) ?_
    exact r_iret X I rfl rfl rfl hn dX8_costAt_21
theorem v_X8_costAt {G : sG} {d : Nat} {vs0 : List Value} {σ0 : sS} {x : sL} {z : sZ Int32} {r : Int32 × sS} (hs : S_X8_costAt x = some z) (k : s_K G (d + 1) M_X8_costAt vs0 σ0 Y_X8_costAt e_I z r) : s_V G (d + 1) M_X8_costAt vs0 σ0 Y_X8_costAt x (e_I r) := by
  obtain ⟨pc, vs, σ⟩ := x
  unfold S_X8_costAt at hs
  dsimp only at hs
  rcases s_ite hs with ⟨c, hs⟩ | ⟨-, hs⟩
  · subst c
    unfold U_X8_costAt_0 at hs
    obtain ⟨a0, g0, hs⟩ := s_bind hs
    obtain ⟨a1, g1, hs⟩ := s_bind hs
    obtain ⟨a2, g2, hs⟩ := s_bind hs
    obtain ⟨u9, ge, hs⟩ := s_bind hs
    rw [g_r_to g0, g_i_to g1, g_i_to g2, g_e_to ge]
    exact v_X8_costAt_0 hs k
  cases hs
theorem t_X8_costAt {G : sG} {d : Nat} {v0 : Nat} {v1 : Int32} {v2 : Int32} {σ : sS} {q : Int32 × sS} (h : F_X8_costAt v0 v1 v2 σ = some q) : s_T G (d + 1) M_X8_costAt [.ref v0, .int v1, .int v2] σ (e_I q) := by
  unfold F_X8_costAt at h
  obtain ⟨-, -, h⟩ := s_bind h
  exact s_ofV rfl (by decide) (Nat.le_of_ble_eq_true rfl) rfl rfl (s_run_ind (V := fun x r => s_V G (d + 1) M_X8_costAt [.ref v0, .int v1, .int v2] σ Y_X8_costAt x (e_I r)) (fun x z r hs hk => v_X8_costAt hs (by cases z <;> exact hk)) h)
/-! X8_sum -/
noncomputable def T_X8_sum_0 (v0 : Int32) (v1 : Int32) (σ : sS) : Option (sZ Int32) :=
  some (.inr ((if (v0 + v1) < 268435456 then (v0 + v1) else 268435456), σ))
noncomputable def U_X8_sum_0 (vs : List Value) (σ : sS) : Option (sZ Int32) := (g_i vs).bind fun a0 => (g_i a0.2).bind fun a1 => (g_e a1.2).bind fun _ => T_X8_sum_0 a0.1 a1.1 σ
noncomputable def S_X8_sum (x : sL) : Option (sZ Int32) := if x.1 = 0 then U_X8_sum_0 x.2.1 x.2.2 else none
def Y_X8_sum (pc : Nat) : List Nat := if pc = 0 then [0, 1] else []
noncomputable def F_X8_sum (v0 : Int32) (v1 : Int32) (σ : sS) : Option (Int32 × sS) := s_run S_X8_sum (0, [.int v0, .int v1], σ)
theorem l_X8_sum_0 {v0 : Int32} {v1 : Int32} {σ : sS} {z : sZ Int32} (hf : T_X8_sum_0 v0 v1 σ = some z) : s_lz σ z := by
  unfold T_X8_sum_0 at hf
  cases hf
  exact s_le.rf
theorem l_X8_sum_s {x : sL} {z : sZ Int32} (hs : S_X8_sum x = some z) : s_lz x.2.2 z := by
  obtain ⟨pc, vs, σ⟩ := x
  unfold S_X8_sum at hs
  dsimp only at hs ⊢
  rcases s_ite hs with ⟨c, hs⟩ | ⟨-, hs⟩
  · subst c
    unfold U_X8_sum_0 at hs
    obtain ⟨a0, g0, hs⟩ := s_bind hs
    obtain ⟨a1, g1, hs⟩ := s_bind hs
    obtain ⟨u9, ge, hs⟩ := s_bind hs
    exact l_X8_sum_0 hs
  cases hs
theorem l_X8_sum {v0 : Int32} {v1 : Int32} {σ : sS} {q : Int32 × sS} (h : F_X8_sum v0 v1 σ = some q) : s_le σ q.2 := by
  unfold F_X8_sum at h
  exact s_run_ind (V := fun x r => s_le x.2.2 r.2) (fun x z r hs hk => by
    have h9 := l_X8_sum_s hs
    cases z with
    | inl y => exact s_le.tr h9 hk
    | inr q => cases hk; exact h9) h
set_option maxRecDepth 100000 in
set_option maxHeartbeats 4000000 in
theorem v_X8_sum_0 {G : sG} {d : Nat} {vs0 : List Value} {σ0 : sS} {v0 : Int32} {v1 : Int32} {σ : sS} {z : sZ Int32} {r : Int32 × sS} (hf : T_X8_sum_0 v0 v1 σ = some z) (k : s_K G (d + 1) M_X8_sum vs0 σ0 Y_X8_sum e_I z r) : s_V G (d + 1) M_X8_sum vs0 σ0 Y_X8_sum (0, [.int v0, .int v1], σ) (e_I r) := by
  have le0 : s_le σ (e_I r).2 := s_lek hem_I (l_X8_sum_0 hf) k
  refine ⟨le0, ?_⟩
  intro p e s m below meth c H locs cells slots ls X I hn1 hn2 hl
  have hn : cells + σ0.2.1 ≤ σ.2.1 ∧ slots + σ0.2.2.1 ≤ σ.2.2.1 := ⟨hn1, hn2⟩
  have hl : lv_has ls 2 [(0, .int v0), (1, .int v1)] := hl
  have hx := X.1
  have hb : c.code = cX8_sum := X.2.1
  have hown : s.vm.findClass RX8 = some m.cls := X.2.2.2.2.2.1
  have hts := X.2.2.2.2.2.2.1
  refine W.eq (g2 := F0 m 0 ls []) rfl ?_
  unfold T_X8_sum_0 at hf
  cases hf
  have k : _ = r := k
  subst k
  refine lv_ldcw (own := RX8) hx hb hown (hts _ w_2248) dX8_sum_0 ?_
  refine lv_iload_n hx hb dX8_sum_3 rfl (lv_at hl 0 rfl) ?_
  refine lv_iload_n hx hb dX8_sum_4 rfl (lv_at hl 1 rfl) ?_
  refine lv_iadd hx hb dX8_sum_5 ?_
  refine r_mmin X w_2264 w_765 w_179 w_766 hl.1 (Nat.le_of_ble_eq_true rfl) hn le0 dX8_sum_6 ?_
  exact r_iret X I rfl rfl rfl hn dX8_sum_9
theorem v_X8_sum {G : sG} {d : Nat} {vs0 : List Value} {σ0 : sS} {x : sL} {z : sZ Int32} {r : Int32 × sS} (hs : S_X8_sum x = some z) (k : s_K G (d + 1) M_X8_sum vs0 σ0 Y_X8_sum e_I z r) : s_V G (d + 1) M_X8_sum vs0 σ0 Y_X8_sum x (e_I r) := by
  obtain ⟨pc, vs, σ⟩ := x
  unfold S_X8_sum at hs
  dsimp only at hs
  rcases s_ite hs with ⟨c, hs⟩ | ⟨-, hs⟩
  · subst c
    unfold U_X8_sum_0 at hs
    obtain ⟨a0, g0, hs⟩ := s_bind hs
    obtain ⟨a1, g1, hs⟩ := s_bind hs
    obtain ⟨u9, ge, hs⟩ := s_bind hs
    rw [g_i_to g0, g_i_to g1, g_e_to ge]
    exact v_X8_sum_0 hs k
  cases hs
theorem t_X8_sum {G : sG} {d : Nat} {v0 : Int32} {v1 : Int32} {σ : sS} {q : Int32 × sS} (h : F_X8_sum v0 v1 σ = some q) : s_T G (d + 1) M_X8_sum [.int v0, .int v1] σ (e_I q) := by
  unfold F_X8_sum at h
  exact s_ofV rfl (by decide) (Nat.le_of_ble_eq_true rfl) rfl rfl (s_run_ind (V := fun x r => s_V G (d + 1) M_X8_sum [.int v0, .int v1] σ Y_X8_sum x (e_I r)) (fun x z r hs hk => v_X8_sum hs (by cases z <;> exact hk)) h)
/-! X8_givenBy -/
noncomputable def T_X8_givenBy_0 (v0 : Nat) (v1 : Int32) (v2 : Int32) (σ : sS) : Option (sZ Int32) :=
  (s_fr σ v0 8 23).bind fun x1 =>
  (s_ai σ x1 v1).bind fun x2 =>
  if x2 = 15 then ((s_fr σ v0 8 24).bind fun x3 =>
  (s_ai σ x3 v1).bind fun x4 =>
  if x4 < 0 then (some (.inl (45, [], σ)))
  else ((s_fr σ v0 8 24).bind fun x5 =>
  (s_ai σ x5 v1).bind fun x6 =>
  (F_X8_assumedAt v0 x6 σ).bind fun q7 =>
  if q7.1 < 0 then (some (.inl (45, [], q7.2)))
  else ((s_fi q7.2 v0 8 35).bind fun x8 =>
  (F_X8_hasRule v0 x8 1 q7.2).bind fun q9 =>
  if q9.1 = 0 then (some (.inl (45, [], q9.2)))
  else ((s_fr q9.2 v0 8 25).bind fun x10 =>
  (s_ai q9.2 x10 v1).bind fun x11 =>
  (s_fr q9.2 v0 8 24).bind fun x12 =>
  (s_ai q9.2 x12 v1).bind fun x13 =>
  (F_X8_assumedAt v0 x13 q9.2).bind fun q14 =>
  (F_X8_costAt v0 x11 (v2 ||| (1 <<< (q14.1 &&& 31))) q14.2).bind fun q15 =>
  (s_fi q15.2 v0 8 35).bind fun x16 =>
  (s_fr q15.2 v0 8 24).bind fun x17 =>
  (s_ai q15.2 x17 v1).bind fun x18 =>
  (F_X8_costOf v0 x16 1 (30 + x18) q15.2).bind fun q19 =>
  (F_X8_sum q15.1 q19.1 q19.2).bind fun q20 =>
  some (.inr (q20.1, q20.2))))))
  else (some (.inl (45, [], σ)))
noncomputable def U_X8_givenBy_0 (vs : List Value) (σ : sS) : Option (sZ Int32) := (g_r vs).bind fun a0 => (g_i a0.2).bind fun a1 => (g_i a1.2).bind fun a2 => (g_e a2.2).bind fun _ => T_X8_givenBy_0 a0.1 a1.1 a2.1 σ
noncomputable def T_X8_givenBy_45  (σ : sS) : Option (sZ Int32) :=
  some (.inr (268435456, σ))
noncomputable def U_X8_givenBy_45 (vs : List Value) (σ : sS) : Option (sZ Int32) := (g_e vs).bind fun _ => T_X8_givenBy_45  σ
noncomputable def S_X8_givenBy (x : sL) : Option (sZ Int32) := if x.1 = 0 then U_X8_givenBy_0 x.2.1 x.2.2 else if x.1 = 45 then U_X8_givenBy_45 x.2.1 x.2.2 else none
def Y_X8_givenBy (pc : Nat) : List Nat := if pc = 0 then [0, 1, 2] else if pc = 45 then [] else []
noncomputable def F_X8_givenBy (v0 : Nat) (v1 : Int32) (v2 : Int32) (σ : sS) : Option (Int32 × sS) := (s_is σ v0 8).bind fun _ => s_run S_X8_givenBy (0, [.ref v0, .int v1, .int v2], σ)
theorem l_X8_givenBy_0 {v0 : Nat} {v1 : Int32} {v2 : Int32} {σ : sS} {z : sZ Int32} (hf : T_X8_givenBy_0 v0 v1 v2 σ = some z) : s_lz σ z := by
  unfold T_X8_givenBy_0 at hf
  obtain ⟨x1, -, hf⟩ := s_bind hf
  obtain ⟨x2, -, hf⟩ := s_bind hf
  rcases s_ite hf with ⟨-, hf⟩ | ⟨-, hf⟩
  · obtain ⟨x3, -, hf⟩ := s_bind hf
    obtain ⟨x4, -, hf⟩ := s_bind hf
    rcases s_ite hf with ⟨-, hf⟩ | ⟨-, hf⟩
    · cases hf
      exact s_le.rf
    · obtain ⟨x5, -, hf⟩ := s_bind hf
      obtain ⟨x6, -, hf⟩ := s_bind hf
      obtain ⟨q7, hh, hf⟩ := s_bind hf
      refine s_lz.tr (l_X8_assumedAt hh) ?_
      rcases s_ite hf with ⟨-, hf⟩ | ⟨-, hf⟩
      · cases hf
        exact s_le.rf
      · obtain ⟨x8, -, hf⟩ := s_bind hf
        obtain ⟨q9, hh, hf⟩ := s_bind hf
        refine s_lz.tr (l_X8_hasRule hh) ?_
        rcases s_ite hf with ⟨-, hf⟩ | ⟨-, hf⟩
        · cases hf
          exact s_le.rf
        · obtain ⟨x10, -, hf⟩ := s_bind hf
          obtain ⟨x11, -, hf⟩ := s_bind hf
          obtain ⟨x12, -, hf⟩ := s_bind hf
          obtain ⟨x13, -, hf⟩ := s_bind hf
          obtain ⟨q14, hh, hf⟩ := s_bind hf
          refine s_lz.tr (l_X8_assumedAt hh) ?_
          obtain ⟨q15, hh, hf⟩ := s_bind hf
          refine s_lz.tr (l_X8_costAt hh) ?_
          obtain ⟨x16, -, hf⟩ := s_bind hf
          obtain ⟨x17, -, hf⟩ := s_bind hf
          obtain ⟨x18, -, hf⟩ := s_bind hf
          obtain ⟨q19, hh, hf⟩ := s_bind hf
          refine s_lz.tr (l_X8_costOf hh) ?_
          obtain ⟨q20, hh, hf⟩ := s_bind hf
          refine s_lz.tr (l_X8_sum hh) ?_
          cases hf
          exact s_le.rf
  · cases hf
    exact s_le.rf
theorem l_X8_givenBy_45  {σ : sS} {z : sZ Int32} (hf : T_X8_givenBy_45  σ = some z) : s_lz σ z := by
  unfold T_X8_givenBy_45 at hf
  cases hf
  exact s_le.rf
theorem l_X8_givenBy_s {x : sL} {z : sZ Int32} (hs : S_X8_givenBy x = some z) : s_lz x.2.2 z := by
  obtain ⟨pc, vs, σ⟩ := x
  unfold S_X8_givenBy at hs
  dsimp only at hs ⊢
  rcases s_ite hs with ⟨c, hs⟩ | ⟨-, hs⟩
  · subst c
    unfold U_X8_givenBy_0 at hs
    obtain ⟨a0, g0, hs⟩ := s_bind hs
    obtain ⟨a1, g1, hs⟩ := s_bind hs
    obtain ⟨a2, g2, hs⟩ := s_bind hs
    obtain ⟨u9, ge, hs⟩ := s_bind hs
    exact l_X8_givenBy_0 hs
  rcases s_ite hs with ⟨c, hs⟩ | ⟨-, hs⟩
  · subst c
    unfold U_X8_givenBy_45 at hs
    obtain ⟨u9, ge, hs⟩ := s_bind hs
    exact l_X8_givenBy_45 hs
  cases hs
theorem l_X8_givenBy {v0 : Nat} {v1 : Int32} {v2 : Int32} {σ : sS} {q : Int32 × sS} (h : F_X8_givenBy v0 v1 v2 σ = some q) : s_le σ q.2 := by
  unfold F_X8_givenBy at h
  obtain ⟨-, -, h⟩ := s_bind h
  exact s_run_ind (V := fun x r => s_le x.2.2 r.2) (fun x z r hs hk => by
    have h9 := l_X8_givenBy_s hs
    cases z with
    | inl y => exact s_le.tr h9 hk
    | inr q => cases hk; exact h9) h
theorem b_X8_givenBy {v0 : Nat} {v1 : Int32} {v2 : Int32} {σ : sS} {q : Int32 × sS} (h : F_X8_givenBy v0 v1 v2 σ = some q) : ∃ fs, σ.1 v0 = some (.inr (8, fs)) := by
  unfold F_X8_givenBy at h
  obtain ⟨u, hu, -⟩ := s_bind h
  exact s_is_to hu
set_option maxRecDepth 100000 in
set_option maxHeartbeats 4000000 in
theorem v_X8_givenBy_0 {G : sG} {d : Nat} {vs0 : List Value} {σ0 : sS} {v0 : Nat} {v1 : Int32} {v2 : Int32} {σ : sS} {z : sZ Int32} {r : Int32 × sS} (hf : T_X8_givenBy_0 v0 v1 v2 σ = some z) (k : s_K G (d + 2) M_X8_givenBy vs0 σ0 Y_X8_givenBy e_I z r) : s_V G (d + 2) M_X8_givenBy vs0 σ0 Y_X8_givenBy (0, [.ref v0, .int v1, .int v2], σ) (e_I r) := by
  have le0 : s_le σ (e_I r).2 := s_lek hem_I (l_X8_givenBy_0 hf) k
  refine ⟨le0, ?_⟩
  intro p e s m below meth c H locs cells slots ls X I hn1 hn2 hl
  have hn : cells + σ0.2.1 ≤ σ.2.1 ∧ slots + σ0.2.2.1 ≤ σ.2.2.1 := ⟨hn1, hn2⟩
  have hl : lv_has ls 3 [(0, .ref v0), (1, .int v1), (2, .int v2)] := hl
  have hx := X.1
  have hb : c.code = cX8_givenBy := X.2.1
  have hown : s.vm.findClass RX8 = some m.cls := X.2.2.2.2.2.1
  have hts := X.2.2.2.2.2.2.1
  refine W.eq (g2 := F0 m 0 ls []) rfl ?_
  unfold T_X8_givenBy_0 at hf
  obtain ⟨x1, h1, hf⟩ := s_bind hf
  obtain ⟨x2, h2, hf⟩ := s_bind hf
  refine lv_aload_n hx hb dX8_givenBy_0 rfl (lv_at hl 0 rfl) ?_
  refine r_gr X I fl_X8_59 h1 dX8_givenBy_1 ?_
  refine lv_iload_n hx hb dX8_givenBy_4 rfl (lv_at hl 1 rfl) ?_
  refine r_iald X I h2 dX8_givenBy_5 ?_
  refine lv_bipush (v := 15) hx hb dX8_givenBy_6 (by decide) ?_
  rcases s_ite hf with ⟨c3, hf⟩ | ⟨c3, hf⟩
  · refine lv_icmp_ne (tgt := 45) hx hb dX8_givenBy_8 (by decide) (fun n => absurd c3 n) (fun _ => ?_)
    obtain ⟨x3, h4, hf⟩ := s_bind hf
    obtain ⟨x4, h5, hf⟩ := s_bind hf
    refine lv_aload_n hx hb dX8_givenBy_11 rfl (lv_at hl 0 rfl) ?_
    refine r_gr X I fl_X8_62 h4 dX8_givenBy_12 ?_
    refine lv_iload_n hx hb dX8_givenBy_15 rfl (lv_at hl 1 rfl) ?_
    refine r_iald X I h5 dX8_givenBy_16 ?_
    rcases s_ite hf with ⟨c6, hf⟩ | ⟨c6, hf⟩
    · refine lv_if_lt (tgt := 45) hx hb dX8_givenBy_17 (by decide) (fun _ => ?_) (fun n => absurd c6 n)
      cases hf
      have k : s_V G (d + 2) M_X8_givenBy vs0 σ0 Y_X8_givenBy (45, [], σ) (e_I r) := k
      exact k.2 p e s m below meth c _ _ _ _ _ X I hn.1 hn.2 (lv_sub hl [] rfl)
    · refine lv_if_lt (tgt := 45) hx hb dX8_givenBy_17 (by decide) (fun n => absurd n c6) (fun _ => ?_)
      obtain ⟨x5, h7, hf⟩ := s_bind hf
      obtain ⟨x6, h8, hf⟩ := s_bind hf
      obtain ⟨q7, h9, hf⟩ := s_bind hf
      have le10 : s_le q7.2 (e_I r).2 := by
        refine s_lek hem_I ?_ k
        rcases s_ite hf with ⟨-, hf⟩ | ⟨-, hf⟩
        · cases hf
          exact s_le.rf
        · obtain ⟨x8, -, hf⟩ := s_bind hf
          obtain ⟨q9, hh, hf⟩ := s_bind hf
          refine s_lz.tr (l_X8_hasRule hh) ?_
          rcases s_ite hf with ⟨-, hf⟩ | ⟨-, hf⟩
          · cases hf
            exact s_le.rf
          · obtain ⟨x10, -, hf⟩ := s_bind hf
            obtain ⟨x11, -, hf⟩ := s_bind hf
            obtain ⟨x12, -, hf⟩ := s_bind hf
            obtain ⟨x13, -, hf⟩ := s_bind hf
            obtain ⟨q14, hh, hf⟩ := s_bind hf
            refine s_lz.tr (l_X8_assumedAt hh) ?_
            obtain ⟨q15, hh, hf⟩ := s_bind hf
            refine s_lz.tr (l_X8_costAt hh) ?_
            obtain ⟨x16, -, hf⟩ := s_bind hf
            obtain ⟨x17, -, hf⟩ := s_bind hf
            obtain ⟨x18, -, hf⟩ := s_bind hf
            obtain ⟨q19, hh, hf⟩ := s_bind hf
            refine s_lz.tr (l_X8_costOf hh) ?_
            obtain ⟨q20, hh, hf⟩ := s_bind hf
            refine s_lz.tr (l_X8_sum hh) ?_
            cases hf
            exact s_le.rf
      refine lv_aload_n hx hb dX8_givenBy_20 rfl (lv_at hl 0 rfl) ?_
      refine lv_aload_n hx hb dX8_givenBy_21 rfl (lv_at hl 0 rfl) ?_
      refine r_gr X I fl_X8_62 h7 dX8_givenBy_22 ?_
      refine lv_iload_n hx hb dX8_givenBy_25 rfl (lv_at hl 1 rfl) ?_
      refine r_iald X I h8 dX8_givenBy_26 ?_
      refine r_callV (Y := M_X8_assumedAt) (v := some (.int q7.1)) X I w_2240 my_X8_assumedAt (by omega) (t_X8_assumedAt (G := G) (d := d + 0) h9) (b_X8_assumedAt h9) rfl rfl hl.1 rfl (Nat.le_of_ble_eq_true rfl) hn le10 dX8_givenBy_27 (fun H locs cells slots I hn1 hn2 => ?_)
      have I : s_I G q7.2 s H locs := I
      have hn : cells + σ0.2.1 ≤ q7.2.2.1 ∧ slots + σ0.2.2.1 ≤ q7.2.2.2.1 := ⟨hn1, hn2⟩
      rcases s_ite hf with ⟨c11, hf⟩ | ⟨c11, hf⟩
      · refine lv_if_lt (tgt := 45) hx hb dX8_givenBy_30 (by decide) (fun _ => ?_) (fun n => absurd c11 n)
        cases hf
        have k : s_V G (d + 2) M_X8_givenBy vs0 σ0 Y_X8_givenBy (45, [], q7.2) (e_I r) := k
        exact k.2 p e s m below meth c _ _ _ _ _ X I hn.1 hn.2 (lv_sub hl [] rfl)
      · refine lv_if_lt (tgt := 45) hx hb dX8_givenBy_30 (by decide) (fun n => absurd n c11) (fun _ => ?_)
        obtain ⟨x8, h12, hf⟩ := s_bind hf
        obtain ⟨q9, h13, hf⟩ := s_bind hf
        have le14 : s_le q9.2 (e_I r).2 := by
          refine s_lek hem_I ?_ k
          rcases s_ite hf with ⟨-, hf⟩ | ⟨-, hf⟩
          · cases hf
            exact s_le.rf
          · obtain ⟨x10, -, hf⟩ := s_bind hf
            obtain ⟨x11, -, hf⟩ := s_bind hf
            obtain ⟨x12, -, hf⟩ := s_bind hf
            obtain ⟨x13, -, hf⟩ := s_bind hf
            obtain ⟨q14, hh, hf⟩ := s_bind hf
            refine s_lz.tr (l_X8_assumedAt hh) ?_
            obtain ⟨q15, hh, hf⟩ := s_bind hf
            refine s_lz.tr (l_X8_costAt hh) ?_
            obtain ⟨x16, -, hf⟩ := s_bind hf
            obtain ⟨x17, -, hf⟩ := s_bind hf
            obtain ⟨x18, -, hf⟩ := s_bind hf
            obtain ⟨q19, hh, hf⟩ := s_bind hf
            refine s_lz.tr (l_X8_costOf hh) ?_
            obtain ⟨q20, hh, hf⟩ := s_bind hf
            refine s_lz.tr (l_X8_sum hh) ?_
            cases hf
            exact s_le.rf
        refine lv_aload_n hx hb dX8_givenBy_33 rfl (lv_at hl 0 rfl) ?_
        refine lv_aload_n hx hb dX8_givenBy_34 rfl (lv_at hl 0 rfl) ?_
        refine r_gi X I fl_X8_402 h12 dX8_givenBy_35 ?_
        refine lv_iconst (v := 1) hx hb dX8_givenBy_38 (by decide) ?_
        refine r_callV (Y := M_X8_hasRule) (v := some (.int q9.1)) X I w_2035 my_X8_hasRule (by omega) (t_X8_hasRule (G := G) (d := d + 0) h13) (b_X8_hasRule h13) rfl rfl hl.1 rfl (Nat.le_of_ble_eq_true rfl) hn le14 dX8_givenBy_39 (fun H locs cells slots I hn1 hn2 => ?_)
        have I : s_I G q9.2 s H locs := I
        have hn : cells + σ0.2.1 ≤ q9.2.2.1 ∧ slots + σ0.2.2.1 ≤ q9.2.2.2.1 := ⟨hn1, hn2⟩
        rcases s_ite hf with ⟨c15, hf⟩ | ⟨c15, hf⟩
        · refine lv_if_ne (tgt := 49) hx hb dX8_givenBy_42 (by decide) (fun n => absurd c15 n) (fun _ => ?_)
          cases hf
          have k : s_V G (d + 2) M_X8_givenBy vs0 σ0 Y_X8_givenBy (45, [], q9.2) (e_I r) := k
          exact k.2 p e s m below meth c _ _ _ _ _ X I hn.1 hn.2 (lv_sub hl [] rfl)
        · refine lv_if_ne (tgt := 49) hx hb dX8_givenBy_42 (by decide) (fun _ => ?_) (fun n => absurd n c15)
          obtain ⟨x10, h16, hf⟩ := s_bind hf
          obtain ⟨x11, h17, hf⟩ := s_bind hf
          obtain ⟨x12, h18, hf⟩ := s_bind hf
          obtain ⟨x13, h19, hf⟩ := s_bind hf
          obtain ⟨q14, h20, hf⟩ := s_bind hf
          obtain ⟨q15, h21, hf⟩ := s_bind hf
          obtain ⟨x16, h22, hf⟩ := s_bind hf
          obtain ⟨x17, h23, hf⟩ := s_bind hf
          obtain ⟨x18, h24, hf⟩ := s_bind hf
          obtain ⟨q19, h25, hf⟩ := s_bind hf
          obtain ⟨q20, h26, hf⟩ := s_bind hf
          cases hf
          have k : _ = r := k
          subst k
          have le27 : s_le q20.2 q20.2 := s_le.rf
          have le28 := s_le.tr (l_X8_sum h26) le27
          have le29 := s_le.tr (l_X8_costOf h25) le28
          have le30 := s_le.tr (l_X8_costAt h21) le29
          refine lv_aload_n hx hb dX8_givenBy_49 rfl (lv_at hl 0 rfl) ?_
          refine lv_aload_n hx hb dX8_givenBy_50 rfl (lv_at hl 0 rfl) ?_
          refine r_gr X I fl_X8_65 h16 dX8_givenBy_51 ?_
          refine lv_iload_n hx hb dX8_givenBy_54 rfl (lv_at hl 1 rfl) ?_
          refine r_iald X I h17 dX8_givenBy_55 ?_
          refine lv_iload_n hx hb dX8_givenBy_56 rfl (lv_at hl 2 rfl) ?_
          refine lv_iconst (v := 1) hx hb dX8_givenBy_57 (by decide) ?_
          refine lv_aload_n hx hb dX8_givenBy_58 rfl (lv_at hl 0 rfl) ?_
          refine lv_aload_n hx hb dX8_givenBy_59 rfl (lv_at hl 0 rfl) ?_
          refine r_gr X I fl_X8_62 h18 dX8_givenBy_60 ?_
          refine lv_iload_n hx hb dX8_givenBy_63 rfl (lv_at hl 1 rfl) ?_
          refine r_iald X I h19 dX8_givenBy_64 ?_
          refine r_callV (Y := M_X8_assumedAt) (v := some (.int q14.1)) X I w_2240 my_X8_assumedAt (by omega) (t_X8_assumedAt (G := G) (d := d + 0) h20) (b_X8_assumedAt h20) rfl rfl hl.1 rfl (Nat.le_of_ble_eq_true rfl) hn le30 dX8_givenBy_65 (fun H locs cells slots I hn1 hn2 => ?_)
          have I : s_I G q14.2 s H locs := I
          have hn : cells + σ0.2.1 ≤ q14.2.2.1 ∧ slots + σ0.2.2.1 ≤ q14.2.2.2.1 := ⟨hn1, hn2⟩
          refine lv_ishl hx hb dX8_givenBy_68 ?_
          refine lv_ior hx hb dX8_givenBy_69 ?_
          refine r_callV (Y := M_X8_costAt) (v := some (.int q15.1)) X I w_2249 my_X8_costAt (by omega) (t_X8_costAt (G := G) (d := d + 0) h21) (b_X8_costAt h21) rfl rfl hl.1 rfl (Nat.le_of_ble_eq_true rfl) hn le29 dX8_givenBy_70 (fun H locs cells slots I hn1 hn2 => ?_)
          have I : s_I G q15.2 s H locs := I
          have hn : cells + σ0.2.1 ≤ q15.2.2.1 ∧ slots + σ0.2.2.1 ≤ q15.2.2.2.1 := ⟨hn1, hn2⟩
          refine lv_aload_n hx hb dX8_givenBy_73 rfl (lv_at hl 0 rfl) ?_
          refine lv_aload_n hx hb dX8_givenBy_74 rfl (lv_at hl 0 rfl) ?_
          refine r_gi X I fl_X8_402 h22 dX8_givenBy_75 ?_
          refine lv_iconst (v := 1) hx hb dX8_givenBy_78 (by decide) ?_
          refine lv_bipush (v := 30) hx hb dX8_givenBy_79 (by decide) ?_
          refine lv_aload_n hx hb dX8_givenBy_81 rfl (lv_at hl 0 rfl) ?_
          refine r_gr X I fl_X8_62 h23 dX8_givenBy_82 ?_
          refine lv_iload_n hx hb dX8_givenBy_85 rfl (lv_at hl 1 rfl) ?_
          refine r_iald X I h24 dX8_givenBy_86 ?_
          refine lv_iadd hx hb dX8_givenBy_87 ?_
          refine r_callV (Y := M_X8_costOf) (v := some (.int q19.1)) X I w_2019 my_X8_costOf (by omega) (t_X8_costOf (G := G) (d := d + 0) h25) (b_X8_costOf h25) rfl rfl hl.1 rfl (Nat.le_of_ble_eq_true rfl) hn le28 dX8_givenBy_88 (fun H locs cells slots I hn1 hn2 => ?_)
          have I : s_I G q19.2 s H locs := I
          have hn : cells + σ0.2.1 ≤ q19.2.2.1 ∧ slots + σ0.2.2.1 ≤ q19.2.2.2.1 := ⟨hn1, hn2⟩
          refine r_callS (Y := M_X8_sum) (v := some (.int q20.1)) X I w_2261 my_X8_sum (by omega) (t_X8_sum (G := G) (d := d + 0) h26) rfl rfl hl.1 rfl (Nat.le_of_ble_eq_true rfl) hn le27 dX8_givenBy_91 (fun H locs cells slots I hn1 hn2 => ?_)
          have I : s_I G q20.2 s H locs := I
          have hn : cells + σ0.2.1 ≤ q20.2.2.1 ∧ slots + σ0.2.2.1 ≤ q20.2.2.2.1 := ⟨hn1, hn2⟩
          exact r_iret X I rfl rfl rfl hn dX8_givenBy_94
  · refine lv_icmp_ne (tgt := 45) hx hb dX8_givenBy_8 (by decide) (fun _ => ?_) (fun n => absurd n c3)
    cases hf
    have k : s_V G (d + 2) M_X8_givenBy vs0 σ0 Y_X8_givenBy (45, [], σ) (e_I r) := k
    exact k.2 p e s m below meth c _ _ _ _ _ X I hn.1 hn.2 (lv_sub hl [] rfl)
set_option maxRecDepth 100000 in
set_option maxHeartbeats 4000000 in
theorem v_X8_givenBy_45 {G : sG} {d : Nat} {vs0 : List Value} {σ0 : sS}  {σ : sS} {z : sZ Int32} {r : Int32 × sS} (hf : T_X8_givenBy_45  σ = some z) (k : s_K G (d + 2) M_X8_givenBy vs0 σ0 Y_X8_givenBy e_I z r) : s_V G (d + 2) M_X8_givenBy vs0 σ0 Y_X8_givenBy (45, [], σ) (e_I r) := by
  have le0 : s_le σ (e_I r).2 := s_lek hem_I (l_X8_givenBy_45 hf) k
  refine ⟨le0, ?_⟩
  intro p e s m below meth c H locs cells slots ls X I hn1 hn2 hl
  have hn : cells + σ0.2.1 ≤ σ.2.1 ∧ slots + σ0.2.2.1 ≤ σ.2.2.1 := ⟨hn1, hn2⟩
  have hl : lv_has ls 3 [] := hl
  have hx := X.1
  have hb : c.code = cX8_givenBy := X.2.1
  have hown : s.vm.findClass RX8 = some m.cls := X.2.2.2.2.2.1
  have hts := X.2.2.2.2.2.2.1
  refine W.eq (g2 := F0 m 45 ls []) rfl ?_
  unfold T_X8_givenBy_45 at hf
  cases hf
  have k : _ = r := k
  subst k
  refine lv_ldcw (own := RX8) hx hb hown (hts _ w_2248) dX8_givenBy_45 ?_
  exact r_iret X I rfl rfl rfl hn dX8_givenBy_48
theorem v_X8_givenBy {G : sG} {d : Nat} {vs0 : List Value} {σ0 : sS} {x : sL} {z : sZ Int32} {r : Int32 × sS} (hs : S_X8_givenBy x = some z) (k : s_K G (d + 2) M_X8_givenBy vs0 σ0 Y_X8_givenBy e_I z r) : s_V G (d + 2) M_X8_givenBy vs0 σ0 Y_X8_givenBy x (e_I r) := by
  obtain ⟨pc, vs, σ⟩ := x
  unfold S_X8_givenBy at hs
  dsimp only at hs
  rcases s_ite hs with ⟨c, hs⟩ | ⟨-, hs⟩
  · subst c
    unfold U_X8_givenBy_0 at hs
    obtain ⟨a0, g0, hs⟩ := s_bind hs
    obtain ⟨a1, g1, hs⟩ := s_bind hs
    obtain ⟨a2, g2, hs⟩ := s_bind hs
    obtain ⟨u9, ge, hs⟩ := s_bind hs
    rw [g_r_to g0, g_i_to g1, g_i_to g2, g_e_to ge]
    exact v_X8_givenBy_0 hs k
  rcases s_ite hs with ⟨c, hs⟩ | ⟨-, hs⟩
  · subst c
    unfold U_X8_givenBy_45 at hs
    obtain ⟨u9, ge, hs⟩ := s_bind hs
    rw [g_e_to ge]
    exact v_X8_givenBy_45 hs k
  cases hs
theorem t_X8_givenBy {G : sG} {d : Nat} {v0 : Nat} {v1 : Int32} {v2 : Int32} {σ : sS} {q : Int32 × sS} (h : F_X8_givenBy v0 v1 v2 σ = some q) : s_T G (d + 2) M_X8_givenBy [.ref v0, .int v1, .int v2] σ (e_I q) := by
  unfold F_X8_givenBy at h
  obtain ⟨-, -, h⟩ := s_bind h
  exact s_ofV rfl (by decide) (Nat.le_of_ble_eq_true rfl) rfl rfl (s_run_ind (V := fun x r => s_V G (d + 2) M_X8_givenBy [.ref v0, .int v1, .int v2] σ Y_X8_givenBy x (e_I r)) (fun x z r hs hk => v_X8_givenBy hs (by cases z <;> exact hk)) h)
/-! X8_premisesBy -/
noncomputable def T_X8_premisesBy_0 (v0 : Nat) (v1 : Int32) (v2 : Int32) (v3 : Int32) (σ : sS) : Option (sZ Int32) :=
  if v1 = 0 then ((s_fr σ v0 8 27).bind fun x1 =>
  (s_ab σ x1 v2).bind fun x2 =>
  if x2 = 0 then (some (.inr (268435456, σ)))
  else (some (.inr (0, σ))))
  else if v1 = 1 then ((F_X8_assumedAt v0 v2 σ).bind fun q3 =>
  if q3.1 < 0 then (some (.inl (118, [], q3.2)))
  else ((F_X8_assumedAt v0 v2 q3.2).bind fun q4 =>
  if ((v3 >>> (q4.1 &&& 31)) &&& 1) = 1 then (some (.inr (0, q4.2)))
  else (some (.inl (118, [], q4.2)))))
  else if v1 = 2 then ((s_fr σ v0 8 23).bind fun x5 =>
  (s_ai σ x5 v2).bind fun x6 =>
  if x6 = 13 then ((s_fr σ v0 8 24).bind fun x7 =>
  (s_ai σ x7 v2).bind fun x8 =>
  (F_X8_costAt v0 x8 v3 σ).bind fun q9 =>
  (s_fr q9.2 v0 8 25).bind fun x10 =>
  (s_ai q9.2 x10 v2).bind fun x11 =>
  (F_X8_costAt v0 x11 v3 q9.2).bind fun q12 =>
  (F_X8_sum q9.1 q12.1 q12.2).bind fun q13 =>
  some (.inr (q13.1, q13.2)))
  else (some (.inr (268435456, σ))))
  else if v1 = 3 then (some (.inl (168, [.ref v0, .int v2, .int v3, .int 268435456, .int 0], σ)))
  else if v1 = 4 then (some (.inl (226, [.ref v0, .int v2, .int v3, .int 268435456, .int 0], σ)))
  else if v1 = 5 then ((s_fr σ v0 8 23).bind fun x14 =>
  (s_ai σ x14 v2).bind fun x15 =>
  if x15 = 14 then ((s_fr σ v0 8 24).bind fun x16 =>
  (s_ai σ x16 v2).bind fun x17 =>
  (F_X8_costAt v0 x17 v3 σ).bind fun q18 =>
  some (.inr (q18.1, q18.2)))
  else (some (.inr (268435456, σ))))
  else if v1 = 6 then ((s_fr σ v0 8 23).bind fun x19 =>
  (s_ai σ x19 v2).bind fun x20 =>
  if x20 = 14 then ((s_fr σ v0 8 25).bind fun x21 =>
  (s_ai σ x21 v2).bind fun x22 =>
  (F_X8_costAt v0 x22 v3 σ).bind fun q23 =>
  some (.inr (q23.1, q23.2)))
  else (some (.inr (268435456, σ))))
  else if v1 = 7 then (some (.inl (342, [.ref v0, .int v2, .int v3, .int 268435456, .int 0], σ)))
  else if v1 = 8 then (some (.inl (415, [.ref v0, .int v2, .int v3, .int 268435456, .int 0], σ)))
  else if v1 = 9 then (some (.inl (465, [.ref v0, .int v2, .int v3, .int 268435456, .int 0], σ)))
  else if v1 = 10 then ((F_X8_givenBy v0 v2 v3 σ).bind fun q24 =>
  some (.inr (q24.1, q24.2)))
  else if v1 = 11 then (some (.inl (547, [.ref v0, .int v2, .int v3, .int 268435456, .int 0], σ)))
  else if v1 = 12 then ((s_fr σ v0 8 23).bind fun x25 =>
  (s_ai σ x25 v2).bind fun x26 =>
  if x26 = 16 then (some (.inl (615, [.ref v0, .int v2, .int v3, .int 0, .int 0], σ)))
  else (some (.inr (268435456, σ))))
  else if v1 = 13 then (some (.inl (659, [.ref v0, .int v2, .int v3, .int 268435456, .int 0], σ)))
  else (some (.inl (714, [.ref v0, .int v3, .int 268435456, .int 0], σ)))
noncomputable def U_X8_premisesBy_0 (vs : List Value) (σ : sS) : Option (sZ Int32) := (g_r vs).bind fun a0 => (g_i a0.2).bind fun a1 => (g_i a1.2).bind fun a2 => (g_i a2.2).bind fun a3 => (g_e a3.2).bind fun _ => T_X8_premisesBy_0 a0.1 a1.1 a2.1 a3.1 σ
noncomputable def T_X8_premisesBy_118  (σ : sS) : Option (sZ Int32) :=
  some (.inr (268435456, σ))
noncomputable def U_X8_premisesBy_118 (vs : List Value) (σ : sS) : Option (sZ Int32) := (g_e vs).bind fun _ => T_X8_premisesBy_118  σ
noncomputable def T_X8_premisesBy_168 (v0 : Nat) (v2 : Int32) (v3 : Int32) (v4 : Int32) (v5 : Int32) (σ : sS) : Option (sZ Int32) :=
  (s_fi σ v0 8 33).bind fun x1 =>
  if x1 ≤ v5 then (some (.inr (v4, σ)))
  else ((s_fr σ v0 8 23).bind fun x2 =>
  (s_ai σ x2 v5).bind fun x3 =>
  if x3 = 13 then ((s_fr σ v0 8 24).bind fun x4 =>
  (s_ai σ x4 v5).bind fun x5 =>
  if x5 = v2 then ((F_X8_costAt v0 v5 v3 σ).bind fun q6 =>
  some (.inl (214, [.ref v0, .int v2, .int v3, .int (if q6.1 < v4 then q6.1 else v4), .int v5], q6.2)))
  else (some (.inl (214, [.ref v0, .int v2, .int v3, .int v4, .int v5], σ))))
  else (some (.inl (214, [.ref v0, .int v2, .int v3, .int v4, .int v5], σ))))
noncomputable def U_X8_premisesBy_168 (vs : List Value) (σ : sS) : Option (sZ Int32) := (g_r vs).bind fun a0 => (g_i a0.2).bind fun a1 => (g_i a1.2).bind fun a2 => (g_i a2.2).bind fun a3 => (g_i a3.2).bind fun a4 => (g_e a4.2).bind fun _ => T_X8_premisesBy_168 a0.1 a1.1 a2.1 a3.1 a4.1 σ
noncomputable def T_X8_premisesBy_214 (v0 : Nat) (v2 : Int32) (v3 : Int32) (v4 : Int32) (v5 : Int32) (σ : sS) : Option (sZ Int32) :=
  some (.inl (168, [.ref v0, .int v2, .int v3, .int v4, .int (v5 + 1)], σ))
noncomputable def U_X8_premisesBy_214 (vs : List Value) (σ : sS) : Option (sZ Int32) := (g_r vs).bind fun a0 => (g_i a0.2).bind fun a1 => (g_i a1.2).bind fun a2 => (g_i a2.2).bind fun a3 => (g_i a3.2).bind fun a4 => (g_e a4.2).bind fun _ => T_X8_premisesBy_214 a0.1 a1.1 a2.1 a3.1 a4.1 σ
noncomputable def T_X8_premisesBy_226 (v0 : Nat) (v2 : Int32) (v3 : Int32) (v4 : Int32) (v5 : Int32) (σ : sS) : Option (sZ Int32) :=
  (s_fi σ v0 8 33).bind fun x1 =>
  if x1 ≤ v5 then (some (.inr (v4, σ)))
  else ((s_fr σ v0 8 23).bind fun x2 =>
  (s_ai σ x2 v5).bind fun x3 =>
  if x3 = 13 then ((s_fr σ v0 8 25).bind fun x4 =>
  (s_ai σ x4 v5).bind fun x5 =>
  if x5 = v2 then ((F_X8_costAt v0 v5 v3 σ).bind fun q6 =>
  some (.inl (272, [.ref v0, .int v2, .int v3, .int (if q6.1 < v4 then q6.1 else v4), .int v5], q6.2)))
  else (some (.inl (272, [.ref v0, .int v2, .int v3, .int v4, .int v5], σ))))
  else (some (.inl (272, [.ref v0, .int v2, .int v3, .int v4, .int v5], σ))))
noncomputable def U_X8_premisesBy_226 (vs : List Value) (σ : sS) : Option (sZ Int32) := (g_r vs).bind fun a0 => (g_i a0.2).bind fun a1 => (g_i a1.2).bind fun a2 => (g_i a2.2).bind fun a3 => (g_i a3.2).bind fun a4 => (g_e a4.2).bind fun _ => T_X8_premisesBy_226 a0.1 a1.1 a2.1 a3.1 a4.1 σ
noncomputable def T_X8_premisesBy_272 (v0 : Nat) (v2 : Int32) (v3 : Int32) (v4 : Int32) (v5 : Int32) (σ : sS) : Option (sZ Int32) :=
  some (.inl (226, [.ref v0, .int v2, .int v3, .int v4, .int (v5 + 1)], σ))
noncomputable def U_X8_premisesBy_272 (vs : List Value) (σ : sS) : Option (sZ Int32) := (g_r vs).bind fun a0 => (g_i a0.2).bind fun a1 => (g_i a1.2).bind fun a2 => (g_i a2.2).bind fun a3 => (g_i a3.2).bind fun a4 => (g_e a4.2).bind fun _ => T_X8_premisesBy_272 a0.1 a1.1 a2.1 a3.1 a4.1 σ
noncomputable def T_X8_premisesBy_342 (v0 : Nat) (v2 : Int32) (v3 : Int32) (v4 : Int32) (v5 : Int32) (σ : sS) : Option (sZ Int32) :=
  (s_fi σ v0 8 33).bind fun x1 =>
  if x1 ≤ v5 then (some (.inr (v4, σ)))
  else ((s_fr σ v0 8 23).bind fun x2 =>
  (s_ai σ x2 v5).bind fun x3 =>
  if x3 = 15 then ((s_fr σ v0 8 25).bind fun x4 =>
  (s_ai σ x4 v5).bind fun x5 =>
  if x5 = v2 then ((s_fr σ v0 8 24).bind fun x6 =>
  (s_ai σ x6 v5).bind fun x7 =>
  (F_X8_costAt v0 x7 v3 σ).bind fun q8 =>
  (F_X8_costAt v0 v5 v3 q8.2).bind fun q9 =>
  (F_X8_sum q8.1 q9.1 q9.2).bind fun q10 =>
  some (.inl (403, [.ref v0, .int v2, .int v3, .int (if q10.1 < v4 then q10.1 else v4), .int v5], q10.2)))
  else (some (.inl (403, [.ref v0, .int v2, .int v3, .int v4, .int v5], σ))))
  else (some (.inl (403, [.ref v0, .int v2, .int v3, .int v4, .int v5], σ))))
noncomputable def U_X8_premisesBy_342 (vs : List Value) (σ : sS) : Option (sZ Int32) := (g_r vs).bind fun a0 => (g_i a0.2).bind fun a1 => (g_i a1.2).bind fun a2 => (g_i a2.2).bind fun a3 => (g_i a3.2).bind fun a4 => (g_e a4.2).bind fun _ => T_X8_premisesBy_342 a0.1 a1.1 a2.1 a3.1 a4.1 σ
noncomputable def T_X8_premisesBy_403 (v0 : Nat) (v2 : Int32) (v3 : Int32) (v4 : Int32) (v5 : Int32) (σ : sS) : Option (sZ Int32) :=
  some (.inl (342, [.ref v0, .int v2, .int v3, .int v4, .int (v5 + 1)], σ))
noncomputable def U_X8_premisesBy_403 (vs : List Value) (σ : sS) : Option (sZ Int32) := (g_r vs).bind fun a0 => (g_i a0.2).bind fun a1 => (g_i a1.2).bind fun a2 => (g_i a2.2).bind fun a3 => (g_i a3.2).bind fun a4 => (g_e a4.2).bind fun _ => T_X8_premisesBy_403 a0.1 a1.1 a2.1 a3.1 a4.1 σ
noncomputable def T_X8_premisesBy_415 (v0 : Nat) (v2 : Int32) (v3 : Int32) (v4 : Int32) (v5 : Int32) (σ : sS) : Option (sZ Int32) :=
  (s_fi σ v0 8 33).bind fun x1 =>
  if x1 ≤ v5 then (some (.inr (v4, σ)))
  else ((s_fr σ v0 8 29).bind fun x2 =>
  (s_ab σ x2 ((40 * v5) + v2)).bind fun x3 =>
  if x3 = 0 then (some (.inl (453, [.ref v0, .int v2, .int v3, .int v4, .int v5], σ)))
  else ((F_X8_costAt v0 v5 v3 σ).bind fun q4 =>
  some (.inl (453, [.ref v0, .int v2, .int v3, .int (if q4.1 < v4 then q4.1 else v4), .int v5], q4.2))))
noncomputable def U_X8_premisesBy_415 (vs : List Value) (σ : sS) : Option (sZ Int32) := (g_r vs).bind fun a0 => (g_i a0.2).bind fun a1 => (g_i a1.2).bind fun a2 => (g_i a2.2).bind fun a3 => (g_i a3.2).bind fun a4 => (g_e a4.2).bind fun _ => T_X8_premisesBy_415 a0.1 a1.1 a2.1 a3.1 a4.1 σ
noncomputable def T_X8_premisesBy_453 (v0 : Nat) (v2 : Int32) (v3 : Int32) (v4 : Int32) (v5 : Int32) (σ : sS) : Option (sZ Int32) :=
  some (.inl (415, [.ref v0, .int v2, .int v3, .int v4, .int (v5 + 1)], σ))
noncomputable def U_X8_premisesBy_453 (vs : List Value) (σ : sS) : Option (sZ Int32) := (g_r vs).bind fun a0 => (g_i a0.2).bind fun a1 => (g_i a1.2).bind fun a2 => (g_i a2.2).bind fun a3 => (g_i a3.2).bind fun a4 => (g_e a4.2).bind fun _ => T_X8_premisesBy_453 a0.1 a1.1 a2.1 a3.1 a4.1 σ
noncomputable def T_X8_premisesBy_465 (v0 : Nat) (v2 : Int32) (v3 : Int32) (v4 : Int32) (v5 : Int32) (σ : sS) : Option (sZ Int32) :=
  (s_fi σ v0 8 33).bind fun x1 =>
  if x1 ≤ v5 then (some (.inr (v4, σ)))
  else ((F_X8_costAt v0 v5 v3 σ).bind fun q2 =>
  (s_fr q2.2 v0 8 30).bind fun x3 =>
  (s_ai q2.2 x3 ((40 * v5) + v2)).bind fun x4 =>
  (F_X8_costAt v0 x4 v3 q2.2).bind fun q5 =>
  (s_fr q5.2 v0 8 31).bind fun x6 =>
  (s_ai q5.2 x6 ((40 * v5) + v2)).bind fun x7 =>
  (F_X8_costAt v0 x7 v3 q5.2).bind fun q8 =>
  (F_X8_sum q5.1 q8.1 q8.2).bind fun q9 =>
  (F_X8_sum q2.1 q9.1 q9.2).bind fun q10 =>
  some (.inl (465, [.ref v0, .int v2, .int v3, .int (if q10.1 < v4 then q10.1 else v4), .int (v5 + 1)], q10.2)))
noncomputable def U_X8_premisesBy_465 (vs : List Value) (σ : sS) : Option (sZ Int32) := (g_r vs).bind fun a0 => (g_i a0.2).bind fun a1 => (g_i a1.2).bind fun a2 => (g_i a2.2).bind fun a3 => (g_i a3.2).bind fun a4 => (g_e a4.2).bind fun _ => T_X8_premisesBy_465 a0.1 a1.1 a2.1 a3.1 a4.1 σ
noncomputable def T_X8_premisesBy_547 (v0 : Nat) (v2 : Int32) (v3 : Int32) (v4 : Int32) (v5 : Int32) (σ : sS) : Option (sZ Int32) :=
  (s_fi σ v0 8 33).bind fun x1 =>
  if x1 ≤ v5 then (some (.inr (v4, σ)))
  else ((s_fr σ v0 8 28).bind fun x2 =>
  (s_ab σ x2 ((40 * v5) + v2)).bind fun x3 =>
  if x3 = 0 then (some (.inl (585, [.ref v0, .int v2, .int v3, .int v4, .int v5], σ)))
  else ((F_X8_costAt v0 v5 v3 σ).bind fun q4 =>
  some (.inl (585, [.ref v0, .int v2, .int v3, .int (if q4.1 < v4 then q4.1 else v4), .int v5], q4.2))))
noncomputable def U_X8_premisesBy_547 (vs : List Value) (σ : sS) : Option (sZ Int32) := (g_r vs).bind fun a0 => (g_i a0.2).bind fun a1 => (g_i a1.2).bind fun a2 => (g_i a2.2).bind fun a3 => (g_i a3.2).bind fun a4 => (g_e a4.2).bind fun _ => T_X8_premisesBy_547 a0.1 a1.1 a2.1 a3.1 a4.1 σ
noncomputable def T_X8_premisesBy_585 (v0 : Nat) (v2 : Int32) (v3 : Int32) (v4 : Int32) (v5 : Int32) (σ : sS) : Option (sZ Int32) :=
  some (.inl (547, [.ref v0, .int v2, .int v3, .int v4, .int (v5 + 1)], σ))
noncomputable def U_X8_premisesBy_585 (vs : List Value) (σ : sS) : Option (sZ Int32) := (g_r vs).bind fun a0 => (g_i a0.2).bind fun a1 => (g_i a1.2).bind fun a2 => (g_i a2.2).bind fun a3 => (g_i a3.2).bind fun a4 => (g_e a4.2).bind fun _ => T_X8_premisesBy_585 a0.1 a1.1 a2.1 a3.1 a4.1 σ
noncomputable def T_X8_premisesBy_615 (v0 : Nat) (v2 : Int32) (v3 : Int32) (v4 : Int32) (v5 : Int32) (σ : sS) : Option (sZ Int32) :=
  (F_X8_d v0 σ).bind fun q1 =>
  if q1.1 ≤ v5 then (some (.inr (v4, q1.2)))
  else ((s_fr q1.2 v0 8 26).bind fun x2 =>
  (s_ai q1.2 x2 ((3 * v2) + v5)).bind fun x3 =>
  (F_X8_costAt v0 x3 v3 q1.2).bind fun q4 =>
  (F_X8_sum v4 q4.1 q4.2).bind fun q5 =>
  some (.inl (615, [.ref v0, .int v2, .int v3, .int q5.1, .int (v5 + 1)], q5.2)))
noncomputable def U_X8_premisesBy_615 (vs : List Value) (σ : sS) : Option (sZ Int32) := (g_r vs).bind fun a0 => (g_i a0.2).bind fun a1 => (g_i a1.2).bind fun a2 => (g_i a2.2).bind fun a3 => (g_i a3.2).bind fun a4 => (g_e a4.2).bind fun _ => T_X8_premisesBy_615 a0.1 a1.1 a2.1 a3.1 a4.1 σ
noncomputable def T_X8_premisesBy_659 (v0 : Nat) (v2 : Int32) (v3 : Int32) (v4 : Int32) (v5 : Int32) (σ : sS) : Option (sZ Int32) :=
  (F_X8_d v0 σ).bind fun q1 =>
  if q1.1 ≤ v5 then (some (.inr (v4, q1.2)))
  else ((s_fr q1.2 v0 8 23).bind fun x2 =>
  (s_ai q1.2 x2 v2).bind fun x3 =>
  if x3 = 17 then ((s_fr q1.2 v0 8 26).bind fun x4 =>
  (s_ai q1.2 x4 ((3 * v2) + v5)).bind fun x5 =>
  (F_X8_costAt v0 x5 v3 q1.2).bind fun q6 =>
  some (.inl (659, [.ref v0, .int v2, .int v3, .int (if q6.1 < v4 then q6.1 else v4), .int (v5 + 1)], q6.2)))
  else (some (.inr (v4, q1.2))))
noncomputable def U_X8_premisesBy_659 (vs : List Value) (σ : sS) : Option (sZ Int32) := (g_r vs).bind fun a0 => (g_i a0.2).bind fun a1 => (g_i a1.2).bind fun a2 => (g_i a2.2).bind fun a3 => (g_i a3.2).bind fun a4 => (g_e a4.2).bind fun _ => T_X8_premisesBy_659 a0.1 a1.1 a2.1 a3.1 a4.1 σ
noncomputable def T_X8_premisesBy_714 (v0 : Nat) (v3 : Int32) (v4 : Int32) (v5 : Int32) (σ : sS) : Option (sZ Int32) :=
  (s_fi σ v0 8 33).bind fun x1 =>
  if x1 ≤ v5 then (some (.inr (v4, σ)))
  else ((s_fr σ v0 8 23).bind fun x2 =>
  (s_ai σ x2 v5).bind fun x3 =>
  if x3 = 12 then ((s_fr σ v0 8 24).bind fun x4 =>
  (s_ai σ x4 v5).bind fun x5 =>
  (F_X8_costAt v0 x5 v3 σ).bind fun q6 =>
  (F_X8_costAt v0 v5 v3 q6.2).bind fun q7 =>
  (F_X8_sum q6.1 q7.1 q7.2).bind fun q8 =>
  some (.inl (764, [.ref v0, .int v3, .int (if q8.1 < v4 then q8.1 else v4), .int v5], q8.2)))
  else (some (.inl (764, [.ref v0, .int v3, .int v4, .int v5], σ))))
noncomputable def U_X8_premisesBy_714 (vs : List Value) (σ : sS) : Option (sZ Int32) := (g_r vs).bind fun a0 => (g_i a0.2).bind fun a1 => (g_i a1.2).bind fun a2 => (g_i a2.2).bind fun a3 => (g_e a3.2).bind fun _ => T_X8_premisesBy_714 a0.1 a1.1 a2.1 a3.1 σ
noncomputable def T_X8_premisesBy_764 (v0 : Nat) (v3 : Int32) (v4 : Int32) (v5 : Int32) (σ : sS) : Option (sZ Int32) :=
  some (.inl (714, [.ref v0, .int v3, .int v4, .int (v5 + 1)], σ))
noncomputable def U_X8_premisesBy_764 (vs : List Value) (σ : sS) : Option (sZ Int32) := (g_r vs).bind fun a0 => (g_i a0.2).bind fun a1 => (g_i a1.2).bind fun a2 => (g_i a2.2).bind fun a3 => (g_e a3.2).bind fun _ => T_X8_premisesBy_764 a0.1 a1.1 a2.1 a3.1 σ
noncomputable def S_X8_premisesBy (x : sL) : Option (sZ Int32) := if x.1 = 0 then U_X8_premisesBy_0 x.2.1 x.2.2 else if x.1 = 118 then U_X8_premisesBy_118 x.2.1 x.2.2 else if x.1 = 168 then U_X8_premisesBy_168 x.2.1 x.2.2 else if x.1 = 214 then U_X8_premisesBy_214 x.2.1 x.2.2 else if x.1 = 226 then U_X8_premisesBy_226 x.2.1 x.2.2 else if x.1 = 272 then U_X8_premisesBy_272 x.2.1 x.2.2 else if x.1 = 342 then U_X8_premisesBy_342 x.2.1 x.2.2 else if x.1 = 403 then U_X8_premisesBy_403 x.2.1 x.2.2 else if x.1 = 415 then U_X8_premisesBy_415 x.2.1 x.2.2 else if x.1 = 453 then U_X8_premisesBy_453 x.2.1 x.2.2 else if x.1 = 465 then U_X8_premisesBy_465 x.2.1 x.2.2 else if x.1 = 547 then U_X8_premisesBy_547 x.2.1 x.2.2 else if x.1 = 585 then U_X8_premisesBy_585 x.2.1 x.2.2 else if x.1 = 615 then U_X8_premisesBy_615 x.2.1 x.2.2 else if x.1 = 659 then U_X8_premisesBy_659 x.2.1 x.2.2 else if x.1 = 714 then U_X8_premisesBy_714 x.2.1 x.2.2 else if x.1 = 764 then U_X8_premisesBy_764 x.2.1 x.2.2 else none
def Y_X8_premisesBy (pc : Nat) : List Nat := if pc = 0 then [0, 1, 2, 3] else if pc = 118 then [] else if pc = 168 then [0, 2, 3, 4, 5] else if pc = 214 then [0, 2, 3, 4, 5] else if pc = 226 then [0, 2, 3, 4, 5] else if pc = 272 then [0, 2, 3, 4, 5] else if pc = 342 then [0, 2, 3, 4, 5] else if pc = 403 then [0, 2, 3, 4, 5] else if pc = 415 then [0, 2, 3, 4, 5] else if pc = 453 then [0, 2, 3, 4, 5] else if pc = 465 then [0, 2, 3, 4, 5] else if pc = 547 then [0, 2, 3, 4, 5] else if pc = 585 then [0, 2, 3, 4, 5] else if pc = 615 then [0, 2, 3, 4, 5] else if pc = 659 then [0, 2, 3, 4, 5] else if pc = 714 then [0, 3, 4, 5] else if pc = 764 then [0, 3, 4, 5] else []
noncomputable def F_X8_premisesBy (v0 : Nat) (v1 : Int32) (v2 : Int32) (v3 : Int32) (σ : sS) : Option (Int32 × sS) := (s_is σ v0 8).bind fun _ => s_run S_X8_premisesBy (0, [.ref v0, .int v1, .int v2, .int v3], σ)
theorem l_X8_premisesBy_0 {v0 : Nat} {v1 : Int32} {v2 : Int32} {v3 : Int32} {σ : sS} {z : sZ Int32} (hf : T_X8_premisesBy_0 v0 v1 v2 v3 σ = some z) : s_lz σ z := by
  unfold T_X8_premisesBy_0 at hf
  rcases s_ite hf with ⟨-, hf⟩ | ⟨-, hf⟩
  · obtain ⟨x1, -, hf⟩ := s_bind hf
    obtain ⟨x2, -, hf⟩ := s_bind hf
    rcases s_ite hf with ⟨-, hf⟩ | ⟨-, hf⟩
    · cases hf
      exact s_le.rf
    · cases hf
      exact s_le.rf
  rcases s_ite hf with ⟨-, hf⟩ | ⟨-, hf⟩
  · obtain ⟨q3, hh, hf⟩ := s_bind hf
    refine s_lz.tr (l_X8_assumedAt hh) ?_
    rcases s_ite hf with ⟨-, hf⟩ | ⟨-, hf⟩
    · cases hf
      exact s_le.rf
    · obtain ⟨q4, hh, hf⟩ := s_bind hf
      refine s_lz.tr (l_X8_assumedAt hh) ?_
      rcases s_ite hf with ⟨-, hf⟩ | ⟨-, hf⟩
      · cases hf
        exact s_le.rf
      · cases hf
        exact s_le.rf
  rcases s_ite hf with ⟨-, hf⟩ | ⟨-, hf⟩
  · obtain ⟨x5, -, hf⟩ := s_bind hf
    obtain ⟨x6, -, hf⟩ := s_bind hf
    rcases s_ite hf with ⟨-, hf⟩ | ⟨-, hf⟩
    · obtain ⟨x7, -, hf⟩ := s_bind hf
      obtain ⟨x8, -, hf⟩ := s_bind hf
      obtain ⟨q9, hh, hf⟩ := s_bind hf
      refine s_lz.tr (l_X8_costAt hh) ?_
      obtain ⟨x10, -, hf⟩ := s_bind hf
      obtain ⟨x11, -, hf⟩ := s_bind hf
      obtain ⟨q12, hh, hf⟩ := s_bind hf
      refine s_lz.tr (l_X8_costAt hh) ?_
      obtain ⟨q13, hh, hf⟩ := s_bind hf
      refine s_lz.tr (l_X8_sum hh) ?_
      cases hf
      exact s_le.rf
    · cases hf
      exact s_le.rf
  rcases s_ite hf with ⟨-, hf⟩ | ⟨-, hf⟩
  · cases hf
    exact s_le.rf
  rcases s_ite hf with ⟨-, hf⟩ | ⟨-, hf⟩
  · cases hf
    exact s_le.rf
  rcases s_ite hf with ⟨-, hf⟩ | ⟨-, hf⟩
  · obtain ⟨x14, -, hf⟩ := s_bind hf
    obtain ⟨x15, -, hf⟩ := s_bind hf
    rcases s_ite hf with ⟨-, hf⟩ | ⟨-, hf⟩
    · obtain ⟨x16, -, hf⟩ := s_bind hf
      obtain ⟨x17, -, hf⟩ := s_bind hf
      obtain ⟨q18, hh, hf⟩ := s_bind hf
      refine s_lz.tr (l_X8_costAt hh) ?_
      cases hf
      exact s_le.rf
    · cases hf
      exact s_le.rf
  rcases s_ite hf with ⟨-, hf⟩ | ⟨-, hf⟩
  · obtain ⟨x19, -, hf⟩ := s_bind hf
    obtain ⟨x20, -, hf⟩ := s_bind hf
    rcases s_ite hf with ⟨-, hf⟩ | ⟨-, hf⟩
    · obtain ⟨x21, -, hf⟩ := s_bind hf
      obtain ⟨x22, -, hf⟩ := s_bind hf
      obtain ⟨q23, hh, hf⟩ := s_bind hf
      refine s_lz.tr (l_X8_costAt hh) ?_
      cases hf
      exact s_le.rf
    · cases hf
      exact s_le.rf
  rcases s_ite hf with ⟨-, hf⟩ | ⟨-, hf⟩
  · cases hf
    exact s_le.rf
  rcases s_ite hf with ⟨-, hf⟩ | ⟨-, hf⟩
  · cases hf
    exact s_le.rf
  rcases s_ite hf with ⟨-, hf⟩ | ⟨-, hf⟩
  · cases hf
    exact s_le.rf
  rcases s_ite hf with ⟨-, hf⟩ | ⟨-, hf⟩
  · obtain ⟨q24, hh, hf⟩ := s_bind hf
    refine s_lz.tr (l_X8_givenBy hh) ?_
    cases hf
    exact s_le.rf
  rcases s_ite hf with ⟨-, hf⟩ | ⟨-, hf⟩
  · cases hf
    exact s_le.rf
  rcases s_ite hf with ⟨-, hf⟩ | ⟨-, hf⟩
  · obtain ⟨x25, -, hf⟩ := s_bind hf
    obtain ⟨x26, -, hf⟩ := s_bind hf
    rcases s_ite hf with ⟨-, hf⟩ | ⟨-, hf⟩
    · cases hf
      exact s_le.rf
    · cases hf
      exact s_le.rf
  rcases s_ite hf with ⟨-, hf⟩ | ⟨-, hf⟩
  · cases hf
    exact s_le.rf
  cases hf
  exact s_le.rf
theorem l_X8_premisesBy_118  {σ : sS} {z : sZ Int32} (hf : T_X8_premisesBy_118  σ = some z) : s_lz σ z := by
  unfold T_X8_premisesBy_118 at hf
  cases hf
  exact s_le.rf
theorem l_X8_premisesBy_168 {v0 : Nat} {v2 : Int32} {v3 : Int32} {v4 : Int32} {v5 : Int32} {σ : sS} {z : sZ Int32} (hf : T_X8_premisesBy_168 v0 v2 v3 v4 v5 σ = some z) : s_lz σ z := by
  unfold T_X8_premisesBy_168 at hf
  obtain ⟨x1, -, hf⟩ := s_bind hf
  rcases s_ite hf with ⟨-, hf⟩ | ⟨-, hf⟩
  · cases hf
    exact s_le.rf
  · obtain ⟨x2, -, hf⟩ := s_bind hf
    obtain ⟨x3, -, hf⟩ := s_bind hf
    rcases s_ite hf with ⟨-, hf⟩ | ⟨-, hf⟩
    · obtain ⟨x4, -, hf⟩ := s_bind hf
      obtain ⟨x5, -, hf⟩ := s_bind hf
      rcases s_ite hf with ⟨-, hf⟩ | ⟨-, hf⟩
      · obtain ⟨q6, hh, hf⟩ := s_bind hf
        refine s_lz.tr (l_X8_costAt hh) ?_
        cases hf
        exact s_le.rf
      · cases hf
        exact s_le.rf
    · cases hf
      exact s_le.rf
theorem l_X8_premisesBy_214 {v0 : Nat} {v2 : Int32} {v3 : Int32} {v4 : Int32} {v5 : Int32} {σ : sS} {z : sZ Int32} (hf : T_X8_premisesBy_214 v0 v2 v3 v4 v5 σ = some z) : s_lz σ z := by
  unfold T_X8_premisesBy_214 at hf
  cases hf
  exact s_le.rf
theorem l_X8_premisesBy_226 {v0 : Nat} {v2 : Int32} {v3 : Int32} {v4 : Int32} {v5 : Int32} {σ : sS} {z : sZ Int32} (hf : T_X8_premisesBy_226 v0 v2 v3 v4 v5 σ = some z) : s_lz σ z := by
  unfold T_X8_premisesBy_226 at hf
  obtain ⟨x1, -, hf⟩ := s_bind hf
  rcases s_ite hf with ⟨-, hf⟩ | ⟨-, hf⟩
  · cases hf
    exact s_le.rf
  · obtain ⟨x2, -, hf⟩ := s_bind hf
    obtain ⟨x3, -, hf⟩ := s_bind hf
    rcases s_ite hf with ⟨-, hf⟩ | ⟨-, hf⟩
    · obtain ⟨x4, -, hf⟩ := s_bind hf
      obtain ⟨x5, -, hf⟩ := s_bind hf
      rcases s_ite hf with ⟨-, hf⟩ | ⟨-, hf⟩
      · obtain ⟨q6, hh, hf⟩ := s_bind hf
        refine s_lz.tr (l_X8_costAt hh) ?_
        cases hf
        exact s_le.rf
      · cases hf
        exact s_le.rf
    · cases hf
      exact s_le.rf
theorem l_X8_premisesBy_272 {v0 : Nat} {v2 : Int32} {v3 : Int32} {v4 : Int32} {v5 : Int32} {σ : sS} {z : sZ Int32} (hf : T_X8_premisesBy_272 v0 v2 v3 v4 v5 σ = some z) : s_lz σ z := by
  unfold T_X8_premisesBy_272 at hf
  cases hf
  exact s_le.rf
theorem l_X8_premisesBy_342 {v0 : Nat} {v2 : Int32} {v3 : Int32} {v4 : Int32} {v5 : Int32} {σ : sS} {z : sZ Int32} (hf : T_X8_premisesBy_342 v0 v2 v3 v4 v5 σ = some z) : s_lz σ z := by
  unfold T_X8_premisesBy_342 at hf
  obtain ⟨x1, -, hf⟩ := s_bind hf
  rcases s_ite hf with ⟨-, hf⟩ | ⟨-, hf⟩
  · cases hf
    exact s_le.rf
  · obtain ⟨x2, -, hf⟩ := s_bind hf
    obtain ⟨x3, -, hf⟩ := s_bind hf
    rcases s_ite hf with ⟨-, hf⟩ | ⟨-, hf⟩
    · obtain ⟨x4, -, hf⟩ := s_bind hf
      obtain ⟨x5, -, hf⟩ := s_bind hf
      rcases s_ite hf with ⟨-, hf⟩ | ⟨-, hf⟩
      · obtain ⟨x6, -, hf⟩ := s_bind hf
        obtain ⟨x7, -, hf⟩ := s_bind hf
        obtain ⟨q8, hh, hf⟩ := s_bind hf
        refine s_lz.tr (l_X8_costAt hh) ?_
        obtain ⟨q9, hh, hf⟩ := s_bind hf
        refine s_lz.tr (l_X8_costAt hh) ?_
        obtain ⟨q10, hh, hf⟩ := s_bind hf
        refine s_lz.tr (l_X8_sum hh) ?_
        cases hf
        exact s_le.rf
      · cases hf
        exact s_le.rf
    · cases hf
      exact s_le.rf
theorem l_X8_premisesBy_403 {v0 : Nat} {v2 : Int32} {v3 : Int32} {v4 : Int32} {v5 : Int32} {σ : sS} {z : sZ Int32} (hf : T_X8_premisesBy_403 v0 v2 v3 v4 v5 σ = some z) : s_lz σ z := by
  unfold T_X8_premisesBy_403 at hf
  cases hf
  exact s_le.rf
theorem l_X8_premisesBy_415 {v0 : Nat} {v2 : Int32} {v3 : Int32} {v4 : Int32} {v5 : Int32} {σ : sS} {z : sZ Int32} (hf : T_X8_premisesBy_415 v0 v2 v3 v4 v5 σ = some z) : s_lz σ z := by
  unfold T_X8_premisesBy_415 at hf
  obtain ⟨x1, -, hf⟩ := s_bind hf
  rcases s_ite hf with ⟨-, hf⟩ | ⟨-, hf⟩
  · cases hf
    exact s_le.rf
  · obtain ⟨x2, -, hf⟩ := s_bind hf
    obtain ⟨x3, -, hf⟩ := s_bind hf
    rcases s_ite hf with ⟨-, hf⟩ | ⟨-, hf⟩
    · cases hf
      exact s_le.rf
    · obtain ⟨q4, hh, hf⟩ := s_bind hf
      refine s_lz.tr (l_X8_costAt hh) ?_
      cases hf
      exact s_le.rf
theorem l_X8_premisesBy_453 {v0 : Nat} {v2 : Int32} {v3 : Int32} {v4 : Int32} {v5 : Int32} {σ : sS} {z : sZ Int32} (hf : T_X8_premisesBy_453 v0 v2 v3 v4 v5 σ = some z) : s_lz σ z := by
  unfold T_X8_premisesBy_453 at hf
  cases hf
  exact s_le.rf
theorem l_X8_premisesBy_465 {v0 : Nat} {v2 : Int32} {v3 : Int32} {v4 : Int32} {v5 : Int32} {σ : sS} {z : sZ Int32} (hf : T_X8_premisesBy_465 v0 v2 v3 v4 v5 σ = some z) : s_lz σ z := by
  unfold T_X8_premisesBy_465 at hf
  obtain ⟨x1, -, hf⟩ := s_bind hf
  rcases s_ite hf with ⟨-, hf⟩ | ⟨-, hf⟩
  · cases hf
    exact s_le.rf
  · obtain ⟨q2, hh, hf⟩ := s_bind hf
    refine s_lz.tr (l_X8_costAt hh) ?_
    obtain ⟨x3, -, hf⟩ := s_bind hf
    obtain ⟨x4, -, hf⟩ := s_bind hf
    obtain ⟨q5, hh, hf⟩ := s_bind hf
    refine s_lz.tr (l_X8_costAt hh) ?_
    obtain ⟨x6, -, hf⟩ := s_bind hf
    obtain ⟨x7, -, hf⟩ := s_bind hf
    obtain ⟨q8, hh, hf⟩ := s_bind hf
    refine s_lz.tr (l_X8_costAt hh) ?_
    obtain ⟨q9, hh, hf⟩ := s_bind hf
    refine s_lz.tr (l_X8_sum hh) ?_
    obtain ⟨q10, hh, hf⟩ := s_bind hf
    refine s_lz.tr (l_X8_sum hh) ?_
    cases hf
    exact s_le.rf
theorem l_X8_premisesBy_547 {v0 : Nat} {v2 : Int32} {v3 : Int32} {v4 : Int32} {v5 : Int32} {σ : sS} {z : sZ Int32} (hf : T_X8_premisesBy_547 v0 v2 v3 v4 v5 σ = some z) : s_lz σ z := by
  unfold T_X8_premisesBy_547 at hf
  obtain ⟨x1, -, hf⟩ := s_bind hf
  rcases s_ite hf with ⟨-, hf⟩ | ⟨-, hf⟩
  · cases hf
    exact s_le.rf
  · obtain ⟨x2, -, hf⟩ := s_bind hf
    obtain ⟨x3, -, hf⟩ := s_bind hf
    rcases s_ite hf with ⟨-, hf⟩ | ⟨-, hf⟩
    · cases hf
      exact s_le.rf
    · obtain ⟨q4, hh, hf⟩ := s_bind hf
      refine s_lz.tr (l_X8_costAt hh) ?_
      cases hf
      exact s_le.rf
theorem l_X8_premisesBy_585 {v0 : Nat} {v2 : Int32} {v3 : Int32} {v4 : Int32} {v5 : Int32} {σ : sS} {z : sZ Int32} (hf : T_X8_premisesBy_585 v0 v2 v3 v4 v5 σ = some z) : s_lz σ z := by
  unfold T_X8_premisesBy_585 at hf
  cases hf
  exact s_le.rf
theorem l_X8_premisesBy_615 {v0 : Nat} {v2 : Int32} {v3 : Int32} {v4 : Int32} {v5 : Int32} {σ : sS} {z : sZ Int32} (hf : T_X8_premisesBy_615 v0 v2 v3 v4 v5 σ = some z) : s_lz σ z := by
  unfold T_X8_premisesBy_615 at hf
  obtain ⟨q1, hh, hf⟩ := s_bind hf
  refine s_lz.tr (l_X8_d hh) ?_
  rcases s_ite hf with ⟨-, hf⟩ | ⟨-, hf⟩
  · cases hf
    exact s_le.rf
  · obtain ⟨x2, -, hf⟩ := s_bind hf
    obtain ⟨x3, -, hf⟩ := s_bind hf
    obtain ⟨q4, hh, hf⟩ := s_bind hf
    refine s_lz.tr (l_X8_costAt hh) ?_
    obtain ⟨q5, hh, hf⟩ := s_bind hf
    refine s_lz.tr (l_X8_sum hh) ?_
    cases hf
    exact s_le.rf
theorem l_X8_premisesBy_659 {v0 : Nat} {v2 : Int32} {v3 : Int32} {v4 : Int32} {v5 : Int32} {σ : sS} {z : sZ Int32} (hf : T_X8_premisesBy_659 v0 v2 v3 v4 v5 σ = some z) : s_lz σ z := by
  unfold T_X8_premisesBy_659 at hf
  obtain ⟨q1, hh, hf⟩ := s_bind hf
  refine s_lz.tr (l_X8_d hh) ?_
  rcases s_ite hf with ⟨-, hf⟩ | ⟨-, hf⟩
  · cases hf
    exact s_le.rf
  · obtain ⟨x2, -, hf⟩ := s_bind hf
    obtain ⟨x3, -, hf⟩ := s_bind hf
    rcases s_ite hf with ⟨-, hf⟩ | ⟨-, hf⟩
    · obtain ⟨x4, -, hf⟩ := s_bind hf
      obtain ⟨x5, -, hf⟩ := s_bind hf
      obtain ⟨q6, hh, hf⟩ := s_bind hf
      refine s_lz.tr (l_X8_costAt hh) ?_
      cases hf
      exact s_le.rf
    · cases hf
      exact s_le.rf
theorem l_X8_premisesBy_714 {v0 : Nat} {v3 : Int32} {v4 : Int32} {v5 : Int32} {σ : sS} {z : sZ Int32} (hf : T_X8_premisesBy_714 v0 v3 v4 v5 σ = some z) : s_lz σ z := by
  unfold T_X8_premisesBy_714 at hf
  obtain ⟨x1, -, hf⟩ := s_bind hf
  rcases s_ite hf with ⟨-, hf⟩ | ⟨-, hf⟩
  · cases hf
    exact s_le.rf
  · obtain ⟨x2, -, hf⟩ := s_bind hf
    obtain ⟨x3, -, hf⟩ := s_bind hf
    rcases s_ite hf with ⟨-, hf⟩ | ⟨-, hf⟩
    · obtain ⟨x4, -, hf⟩ := s_bind hf
      obtain ⟨x5, -, hf⟩ := s_bind hf
      obtain ⟨q6, hh, hf⟩ := s_bind hf
      refine s_lz.tr (l_X8_costAt hh) ?_
      obtain ⟨q7, hh, hf⟩ := s_bind hf
      refine s_lz.tr (l_X8_costAt hh) ?_
      obtain ⟨q8, hh, hf⟩ := s_bind hf
      refine s_lz.tr (l_X8_sum hh) ?_
      cases hf
      exact s_le.rf
    · cases hf
      exact s_le.rf
theorem l_X8_premisesBy_764 {v0 : Nat} {v3 : Int32} {v4 : Int32} {v5 : Int32} {σ : sS} {z : sZ Int32} (hf : T_X8_premisesBy_764 v0 v3 v4 v5 σ = some z) : s_lz σ z := by
  unfold T_X8_premisesBy_764 at hf
  cases hf
  exact s_le.rf
theorem l_X8_premisesBy_s {x : sL} {z : sZ Int32} (hs : S_X8_premisesBy x = some z) : s_lz x.2.2 z := by
  obtain ⟨pc, vs, σ⟩ := x
  unfold S_X8_premisesBy at hs
  dsimp only at hs ⊢
  rcases s_ite hs with ⟨c, hs⟩ | ⟨-, hs⟩
  · subst c
    unfold U_X8_premisesBy_0 at hs
    obtain ⟨a0, g0, hs⟩ := s_bind hs
    obtain ⟨a1, g1, hs⟩ := s_bind hs
    obtain ⟨a2, g2, hs⟩ := s_bind hs
    obtain ⟨a3, g3, hs⟩ := s_bind hs
    obtain ⟨u9, ge, hs⟩ := s_bind hs
    exact l_X8_premisesBy_0 hs
  rcases s_ite hs with ⟨c, hs⟩ | ⟨-, hs⟩
  · subst c
    unfold U_X8_premisesBy_118 at hs
    obtain ⟨u9, ge, hs⟩ := s_bind hs
    exact l_X8_premisesBy_118 hs
  rcases s_ite hs with ⟨c, hs⟩ | ⟨-, hs⟩
  · subst c
    unfold U_X8_premisesBy_168 at hs
    obtain ⟨a0, g0, hs⟩ := s_bind hs
    obtain ⟨a1, g1, hs⟩ := s_bind hs
    obtain ⟨a2, g2, hs⟩ := s_bind hs
    obtain ⟨a3, g3, hs⟩ := s_bind hs
    obtain ⟨a4, g4, hs⟩ := s_bind hs
    obtain ⟨u9, ge, hs⟩ := s_bind hs
    exact l_X8_premisesBy_168 hs
  rcases s_ite hs with ⟨c, hs⟩ | ⟨-, hs⟩
  · subst c
    unfold U_X8_premisesBy_214 at hs
    obtain ⟨a0, g0, hs⟩ := s_bind hs
    obtain ⟨a1, g1, hs⟩ := s_bind hs
    obtain ⟨a2, g2, hs⟩ := s_bind hs
    obtain ⟨a3, g3, hs⟩ := s_bind hs
    obtain ⟨a4, g4, hs⟩ := s_bind hs
    obtain ⟨u9, ge, hs⟩ := s_bind hs
    exact l_X8_premisesBy_214 hs
  rcases s_ite hs with ⟨c, hs⟩ | ⟨-, hs⟩
  · subst c
    unfold U_X8_premisesBy_226 at hs
    obtain ⟨a0, g0, hs⟩ := s_bind hs
    obtain ⟨a1, g1, hs⟩ := s_bind hs
    obtain ⟨a2, g2, hs⟩ := s_bind hs
    obtain ⟨a3, g3, hs⟩ := s_bind hs
    obtain ⟨a4, g4, hs⟩ := s_bind hs
    obtain ⟨u9, ge, hs⟩ := s_bind hs
    exact l_X8_premisesBy_226 hs
  rcases s_ite hs with ⟨c, hs⟩ | ⟨-, hs⟩
  · subst c
    unfold U_X8_premisesBy_272 at hs
    obtain ⟨a0, g0, hs⟩ := s_bind hs
    obtain ⟨a1, g1, hs⟩ := s_bind hs
    obtain ⟨a2, g2, hs⟩ := s_bind hs
    obtain ⟨a3, g3, hs⟩ := s_bind hs
    obtain ⟨a4, g4, hs⟩ := s_bind hs
    obtain ⟨u9, ge, hs⟩ := s_bind hs
    exact l_X8_premisesBy_272 hs
  rcases s_ite hs with ⟨c, hs⟩ | ⟨-, hs⟩
  · subst c
    unfold U_X8_premisesBy_342 at hs
    obtain ⟨a0, g0, hs⟩ := s_bind hs
    obtain ⟨a1, g1, hs⟩ := s_bind hs
    obtain ⟨a2, g2, hs⟩ := s_bind hs
    obtain ⟨a3, g3, hs⟩ := s_bind hs
    obtain ⟨a4, g4, hs⟩ := s_bind hs
    obtain ⟨u9, ge, hs⟩ := s_bind hs
    exact l_X8_premisesBy_342 hs
  rcases s_ite hs with ⟨c, hs⟩ | ⟨-, hs⟩
  · subst c
    unfold U_X8_premisesBy_403 at hs
    obtain ⟨a0, g0, hs⟩ := s_bind hs
    obtain ⟨a1, g1, hs⟩ := s_bind hs
    obtain ⟨a2, g2, hs⟩ := s_bind hs
    obtain ⟨a3, g3, hs⟩ := s_bind hs
    obtain ⟨a4, g4, hs⟩ := s_bind hs
    obtain ⟨u9, ge, hs⟩ := s_bind hs
    exact l_X8_premisesBy_403 hs
  rcases s_ite hs with ⟨c, hs⟩ | ⟨-, hs⟩
  · subst c
    unfold U_X8_premisesBy_415 at hs
    obtain ⟨a0, g0, hs⟩ := s_bind hs
    obtain ⟨a1, g1, hs⟩ := s_bind hs
    obtain ⟨a2, g2, hs⟩ := s_bind hs
    obtain ⟨a3, g3, hs⟩ := s_bind hs
    obtain ⟨a4, g4, hs⟩ := s_bind hs
    obtain ⟨u9, ge, hs⟩ := s_bind hs
    exact l_X8_premisesBy_415 hs
  rcases s_ite hs with ⟨c, hs⟩ | ⟨-, hs⟩
  · subst c
    unfold U_X8_premisesBy_453 at hs
    obtain ⟨a0, g0, hs⟩ := s_bind hs
    obtain ⟨a1, g1, hs⟩ := s_bind hs
    obtain ⟨a2, g2, hs⟩ := s_bind hs
    obtain ⟨a3, g3, hs⟩ := s_bind hs
    obtain ⟨a4, g4, hs⟩ := s_bind hs
    obtain ⟨u9, ge, hs⟩ := s_bind hs
    exact l_X8_premisesBy_453 hs
  rcases s_ite hs with ⟨c, hs⟩ | ⟨-, hs⟩
  · subst c
    unfold U_X8_premisesBy_465 at hs
    obtain ⟨a0, g0, hs⟩ := s_bind hs
    obtain ⟨a1, g1, hs⟩ := s_bind hs
    obtain ⟨a2, g2, hs⟩ := s_bind hs
    obtain ⟨a3, g3, hs⟩ := s_bind hs
    obtain ⟨a4, g4, hs⟩ := s_bind hs
    obtain ⟨u9, ge, hs⟩ := s_bind hs
    exact l_X8_premisesBy_465 hs
  rcases s_ite hs with ⟨c, hs⟩ | ⟨-, hs⟩
  · subst c
    unfold U_X8_premisesBy_547 at hs
    obtain ⟨a0, g0, hs⟩ := s_bind hs
    obtain ⟨a1, g1, hs⟩ := s_bind hs
    obtain ⟨a2, g2, hs⟩ := s_bind hs
    obtain ⟨a3, g3, hs⟩ := s_bind hs
    obtain ⟨a4, g4, hs⟩ := s_bind hs
    obtain ⟨u9, ge, hs⟩ := s_bind hs
    exact l_X8_premisesBy_547 hs
  rcases s_ite hs with ⟨c, hs⟩ | ⟨-, hs⟩
  · subst c
    unfold U_X8_premisesBy_585 at hs
    obtain ⟨a0, g0, hs⟩ := s_bind hs
    obtain ⟨a1, g1, hs⟩ := s_bind hs
    obtain ⟨a2, g2, hs⟩ := s_bind hs
    obtain ⟨a3, g3, hs⟩ := s_bind hs
    obtain ⟨a4, g4, hs⟩ := s_bind hs
    obtain ⟨u9, ge, hs⟩ := s_bind hs
    exact l_X8_premisesBy_585 hs
  rcases s_ite hs with ⟨c, hs⟩ | ⟨-, hs⟩
  · subst c
    unfold U_X8_premisesBy_615 at hs
    obtain ⟨a0, g0, hs⟩ := s_bind hs
    obtain ⟨a1, g1, hs⟩ := s_bind hs
    obtain ⟨a2, g2, hs⟩ := s_bind hs
    obtain ⟨a3, g3, hs⟩ := s_bind hs
    obtain ⟨a4, g4, hs⟩ := s_bind hs
    obtain ⟨u9, ge, hs⟩ := s_bind hs
    exact l_X8_premisesBy_615 hs
  rcases s_ite hs with ⟨c, hs⟩ | ⟨-, hs⟩
  · subst c
    unfold U_X8_premisesBy_659 at hs
    obtain ⟨a0, g0, hs⟩ := s_bind hs
    obtain ⟨a1, g1, hs⟩ := s_bind hs
    obtain ⟨a2, g2, hs⟩ := s_bind hs
    obtain ⟨a3, g3, hs⟩ := s_bind hs
    obtain ⟨a4, g4, hs⟩ := s_bind hs
    obtain ⟨u9, ge, hs⟩ := s_bind hs
    exact l_X8_premisesBy_659 hs
  rcases s_ite hs with ⟨c, hs⟩ | ⟨-, hs⟩
  · subst c
    unfold U_X8_premisesBy_714 at hs
    obtain ⟨a0, g0, hs⟩ := s_bind hs
    obtain ⟨a1, g1, hs⟩ := s_bind hs
    obtain ⟨a2, g2, hs⟩ := s_bind hs
    obtain ⟨a3, g3, hs⟩ := s_bind hs
    obtain ⟨u9, ge, hs⟩ := s_bind hs
    exact l_X8_premisesBy_714 hs
  rcases s_ite hs with ⟨c, hs⟩ | ⟨-, hs⟩
  · subst c
    unfold U_X8_premisesBy_764 at hs
    obtain ⟨a0, g0, hs⟩ := s_bind hs
    obtain ⟨a1, g1, hs⟩ := s_bind hs
    obtain ⟨a2, g2, hs⟩ := s_bind hs
    obtain ⟨a3, g3, hs⟩ := s_bind hs
    obtain ⟨u9, ge, hs⟩ := s_bind hs
    exact l_X8_premisesBy_764 hs
  cases hs
theorem l_X8_premisesBy {v0 : Nat} {v1 : Int32} {v2 : Int32} {v3 : Int32} {σ : sS} {q : Int32 × sS} (h : F_X8_premisesBy v0 v1 v2 v3 σ = some q) : s_le σ q.2 := by
  unfold F_X8_premisesBy at h
  obtain ⟨-, -, h⟩ := s_bind h
  exact s_run_ind (V := fun x r => s_le x.2.2 r.2) (fun x z r hs hk => by
    have h9 := l_X8_premisesBy_s hs
    cases z with
    | inl y => exact s_le.tr h9 hk
    | inr q => cases hk; exact h9) h
theorem b_X8_premisesBy {v0 : Nat} {v1 : Int32} {v2 : Int32} {v3 : Int32} {σ : sS} {q : Int32 × sS} (h : F_X8_premisesBy v0 v1 v2 v3 σ = some q) : ∃ fs, σ.1 v0 = some (.inr (8, fs)) := by
  unfold F_X8_premisesBy at h
  obtain ⟨u, hu, -⟩ := s_bind h
  exact s_is_to hu
set_option maxRecDepth 100000 in
set_option maxHeartbeats 4000000 in
theorem v_X8_premisesBy_0 {G : sG} {d : Nat} {vs0 : List Value} {σ0 : sS} {v0 : Nat} {v1 : Int32} {v2 : Int32} {v3 : Int32} {σ : sS} {z : sZ Int32} {r : Int32 × sS} (hf : T_X8_premisesBy_0 v0 v1 v2 v3 σ = some z) (k : s_K G (d + 3) M_X8_premisesBy vs0 σ0 Y_X8_premisesBy e_I z r) : s_V G (d + 3) M_X8_premisesBy vs0 σ0 Y_X8_premisesBy (0, [.ref v0, .int v1, .int v2, .int v3], σ) (e_I r) := by
  have le0 : s_le σ (e_I r).2 := s_lek hem_I (l_X8_premisesBy_0 hf) k
  refine ⟨le0, ?_⟩
  intro p e s m below meth c H locs cells slots ls X I hn1 hn2 hl
  have hn : cells + σ0.2.1 ≤ σ.2.1 ∧ slots + σ0.2.2.1 ≤ σ.2.2.1 := ⟨hn1, hn2⟩
  have hl : lv_has ls 6 [(0, .ref v0), (1, .int v1), (2, .int v2), (3, .int v3)] := hl
  have hx := X.1
  have hb : c.code = cX8_premisesBy := X.2.1
  have hown : s.vm.findClass RX8 = some m.cls := X.2.2.2.2.2.1
  have hts := X.2.2.2.2.2.2.1
  refine W.eq (g2 := F0 m 0 ls []) rfl ?_
  unfold T_X8_premisesBy_0 at hf
  refine lv_ldcw (own := RX8) hx hb hown (hts _ w_2248) dX8_premisesBy_0 ?_
  refine lv_istore (lv' := [(4, .int 268435456), (0, .ref v0), (1, .int v1), (2, .int v2), (3, .int v3)]) hx hb dX8_premisesBy_3 hl (by decide) rfl (fun ls hl => ?_)
  refine lv_iload_n hx hb dX8_premisesBy_5 rfl (lv_at hl 2 rfl) ?_
  rcases s_ite hf with ⟨c1, hf⟩ | ⟨c1, hf⟩
  · refine lv_tableIn (tgt := 76) (off := 70) hx hb dX8_premisesBy_6 (by rw [c1]; decide) (by rw [c1]; decide) (by rw [c1]; rfl) (by decide) ?_
    obtain ⟨x1, h2, hf⟩ := s_bind hf
    obtain ⟨x2, h3, hf⟩ := s_bind hf
    refine lv_aload_n hx hb dX8_premisesBy_76 rfl (lv_at hl 1 rfl) ?_
    refine r_gr X I fl_X8_71 h2 dX8_premisesBy_77 ?_
    refine lv_iload_n hx hb dX8_premisesBy_80 rfl (lv_at hl 3 rfl) ?_
    refine r_bald X I h3 dX8_premisesBy_81 ?_
    rcases s_ite hf with ⟨c4, hf⟩ | ⟨c4, hf⟩
    · refine lv_if_eq (tgt := 89) hx hb dX8_premisesBy_82 (by decide) (fun _ => ?_) (fun n => absurd c4 n)
      cases hf
      have k : _ = r := k
      subst k
      refine lv_ldcw (own := RX8) hx hb hown (hts _ w_2248) dX8_premisesBy_89 ?_
      exact r_iret X I rfl rfl rfl hn dX8_premisesBy_92
    · refine lv_if_eq (tgt := 89) hx hb dX8_premisesBy_82 (by decide) (fun n => absurd n c4) (fun _ => ?_)
      cases hf
      have k : _ = r := k
      subst k
      refine lv_iconst (v := 0) hx hb dX8_premisesBy_85 (by decide) ?_
      refine lv_goto (tgt := 92) hx hb dX8_premisesBy_86 (by decide) ?_
      exact r_iret X I rfl rfl rfl hn dX8_premisesBy_92
  rcases s_ite hf with ⟨c5, hf⟩ | ⟨c5, hf⟩
  · refine lv_tableIn (tgt := 93) (off := 87) hx hb dX8_premisesBy_6 (by rw [c5]; decide) (by rw [c5]; decide) (by rw [c5]; rfl) (by decide) ?_
    obtain ⟨q3, h6, hf⟩ := s_bind hf
    have le7 : s_le q3.2 (e_I r).2 := by
      refine s_lek hem_I ?_ k
      rcases s_ite hf with ⟨-, hf⟩ | ⟨-, hf⟩
      · cases hf
        exact s_le.rf
      · obtain ⟨q4, hh, hf⟩ := s_bind hf
        refine s_lz.tr (l_X8_assumedAt hh) ?_
        rcases s_ite hf with ⟨-, hf⟩ | ⟨-, hf⟩
        · cases hf
          exact s_le.rf
        · cases hf
          exact s_le.rf
    refine lv_aload_n hx hb dX8_premisesBy_93 rfl (lv_at hl 1 rfl) ?_
    refine lv_iload_n hx hb dX8_premisesBy_94 rfl (lv_at hl 3 rfl) ?_
    refine r_callV (Y := M_X8_assumedAt) (v := some (.int q3.1)) X I w_2240 my_X8_assumedAt (by omega) (t_X8_assumedAt (G := G) (d := d + 1) h6) (b_X8_assumedAt h6) rfl rfl hl.1 rfl (Nat.le_of_ble_eq_true rfl) hn le7 dX8_premisesBy_95 (fun H locs cells slots I hn1 hn2 => ?_)
    have I : s_I G q3.2 s H locs := I
    have hn : cells + σ0.2.1 ≤ q3.2.2.1 ∧ slots + σ0.2.2.1 ≤ q3.2.2.2.1 := ⟨hn1, hn2⟩
    rcases s_ite hf with ⟨c8, hf⟩ | ⟨c8, hf⟩
    · refine lv_if_lt (tgt := 118) hx hb dX8_premisesBy_98 (by decide) (fun _ => ?_) (fun n => absurd c8 n)
      cases hf
      have k : s_V G (d + 3) M_X8_premisesBy vs0 σ0 Y_X8_premisesBy (118, [], q3.2) (e_I r) := k
      exact k.2 p e s m below meth c _ _ _ _ _ X I hn.1 hn.2 (lv_sub hl [] rfl)
    · refine lv_if_lt (tgt := 118) hx hb dX8_premisesBy_98 (by decide) (fun n => absurd n c8) (fun _ => ?_)
      obtain ⟨q4, h9, hf⟩ := s_bind hf
      have le10 : s_le q4.2 (e_I r).2 := by
        refine s_lek hem_I ?_ k
        rcases s_ite hf with ⟨-, hf⟩ | ⟨-, hf⟩
        · cases hf
          exact s_le.rf
        · cases hf
          exact s_le.rf
      refine lv_iload_n hx hb dX8_premisesBy_101 rfl (lv_at hl 4 rfl) ?_
      refine lv_aload_n hx hb dX8_premisesBy_102 rfl (lv_at hl 1 rfl) ?_
      refine lv_iload_n hx hb dX8_premisesBy_103 rfl (lv_at hl 3 rfl) ?_
      refine r_callV (Y := M_X8_assumedAt) (v := some (.int q4.1)) X I w_2240 my_X8_assumedAt (by omega) (t_X8_assumedAt (G := G) (d := d + 1) h9) (b_X8_assumedAt h9) rfl rfl hl.1 rfl (Nat.le_of_ble_eq_true rfl) hn le10 dX8_premisesBy_104 (fun H locs cells slots I hn1 hn2 => ?_)
      have I : s_I G q4.2 s H locs := I
      have hn : cells + σ0.2.1 ≤ q4.2.2.1 ∧ slots + σ0.2.2.1 ≤ q4.2.2.2.1 := ⟨hn1, hn2⟩
      refine lv_ishr hx hb dX8_premisesBy_107 ?_
      refine lv_iconst (v := 1) hx hb dX8_premisesBy_108 (by decide) ?_
      refine lv_iand hx hb dX8_premisesBy_109 ?_
      refine lv_iconst (v := 1) hx hb dX8_premisesBy_110 (by decide) ?_
      rcases s_ite hf with ⟨c11, hf⟩ | ⟨c11, hf⟩
      · refine lv_icmp_ne (tgt := 118) hx hb dX8_premisesBy_111 (by decide) (fun n => absurd c11 n) (fun _ => ?_)
        cases hf
        have k : _ = r := k
        subst k
        refine lv_iconst (v := 0) hx hb dX8_premisesBy_114 (by decide) ?_
        refine lv_goto (tgt := 121) hx hb dX8_premisesBy_115 (by decide) ?_
        exact r_iret X I rfl rfl rfl hn dX8_premisesBy_121
      · refine lv_icmp_ne (tgt := 118) hx hb dX8_premisesBy_111 (by decide) (fun _ => ?_) (fun n => absurd n c11)
        cases hf
        have k : s_V G (d + 3) M_X8_premisesBy vs0 σ0 Y_X8_premisesBy (118, [], q4.2) (e_I r) := k
        exact k.2 p e s m below meth c _ _ _ _ _ X I hn.1 hn.2 (lv_sub hl [] rfl)
  rcases s_ite hf with ⟨c12, hf⟩ | ⟨c12, hf⟩
  · refine lv_tableIn (tgt := 122) (off := 116) hx hb dX8_premisesBy_6 (by rw [c12]; decide) (by rw [c12]; decide) (by rw [c12]; rfl) (by decide) ?_
    obtain ⟨x5, h13, hf⟩ := s_bind hf
    obtain ⟨x6, h14, hf⟩ := s_bind hf
    refine lv_aload_n hx hb dX8_premisesBy_122 rfl (lv_at hl 1 rfl) ?_
    refine r_gr X I fl_X8_59 h13 dX8_premisesBy_123 ?_
    refine lv_iload_n hx hb dX8_premisesBy_126 rfl (lv_at hl 3 rfl) ?_
    refine r_iald X I h14 dX8_premisesBy_127 ?_
    refine lv_bipush (v := 13) hx hb dX8_premisesBy_128 (by decide) ?_
    rcases s_ite hf with ⟨c15, hf⟩ | ⟨c15, hf⟩
    · refine lv_icmp_ne (tgt := 161) hx hb dX8_premisesBy_130 (by decide) (fun n => absurd c15 n) (fun _ => ?_)
      obtain ⟨x7, h16, hf⟩ := s_bind hf
      obtain ⟨x8, h17, hf⟩ := s_bind hf
      obtain ⟨q9, h18, hf⟩ := s_bind hf
      obtain ⟨x10, h19, hf⟩ := s_bind hf
      obtain ⟨x11, h20, hf⟩ := s_bind hf
      obtain ⟨q12, h21, hf⟩ := s_bind hf
      obtain ⟨q13, h22, hf⟩ := s_bind hf
      cases hf
      have k : _ = r := k
      subst k
      have le23 : s_le q13.2 q13.2 := s_le.rf
      have le24 := s_le.tr (l_X8_sum h22) le23
      have le25 := s_le.tr (l_X8_costAt h21) le24
      refine lv_aload_n hx hb dX8_premisesBy_133 rfl (lv_at hl 1 rfl) ?_
      refine lv_aload_n hx hb dX8_premisesBy_134 rfl (lv_at hl 1 rfl) ?_
      refine r_gr X I fl_X8_62 h16 dX8_premisesBy_135 ?_
      refine lv_iload_n hx hb dX8_premisesBy_138 rfl (lv_at hl 3 rfl) ?_
      refine r_iald X I h17 dX8_premisesBy_139 ?_
      refine lv_iload_n hx hb dX8_premisesBy_140 rfl (lv_at hl 4 rfl) ?_
      refine r_callV (Y := M_X8_costAt) (v := some (.int q9.1)) X I w_2249 my_X8_costAt (by omega) (t_X8_costAt (G := G) (d := d + 1) h18) (b_X8_costAt h18) rfl rfl hl.1 rfl (Nat.le_of_ble_eq_true rfl) hn le25 dX8_premisesBy_141 (fun H locs cells slots I hn1 hn2 => ?_)
      have I : s_I G q9.2 s H locs := I
      have hn : cells + σ0.2.1 ≤ q9.2.2.1 ∧ slots + σ0.2.2.1 ≤ q9.2.2.2.1 := ⟨hn1, hn2⟩
      refine lv_aload_n hx hb dX8_premisesBy_144 rfl (lv_at hl 1 rfl) ?_
      refine lv_aload_n hx hb dX8_premisesBy_145 rfl (lv_at hl 1 rfl) ?_
      refine r_gr X I fl_X8_65 h19 dX8_premisesBy_146 ?_
      refine lv_iload_n hx hb dX8_premisesBy_149 rfl (lv_at hl 3 rfl) ?_
      refine r_iald X I h20 dX8_premisesBy_150 ?_
      refine lv_iload_n hx hb dX8_premisesBy_151 rfl (lv_at hl 4 rfl) ?_
      refine r_callV (Y := M_X8_costAt) (v := some (.int q12.1)) X I w_2249 my_X8_costAt (by omega) (t_X8_costAt (G := G) (d := d + 1) h21) (b_X8_costAt h21) rfl rfl hl.1 rfl (Nat.le_of_ble_eq_true rfl) hn le24 dX8_premisesBy_152 (fun H locs cells slots I hn1 hn2 => ?_)
      have I : s_I G q12.2 s H locs := I
      have hn : cells + σ0.2.1 ≤ q12.2.2.1 ∧ slots + σ0.2.2.1 ≤ q12.2.2.2.1 := ⟨hn1, hn2⟩
      refine r_callS (Y := M_X8_sum) (v := some (.int q13.1)) X I w_2261 my_X8_sum (by omega) (t_X8_sum (G := G) (d := d + 1) h22) rfl rfl hl.1 rfl (Nat.le_of_ble_eq_true rfl) hn le23 dX8_premisesBy_155 (fun H locs cells slots I hn1 hn2 => ?_)
      have I : s_I G q13.2 s H locs := I
      have hn : cells + σ0.2.1 ≤ q13.2.2.1 ∧ slots + σ0.2.2.1 ≤ q13.2.2.2.1 := ⟨hn1, hn2⟩
      refine lv_goto (tgt := 164) hx hb dX8_premisesBy_158 (by decide) ?_
      exact r_iret X I rfl rfl rfl hn dX8_premisesBy_164
    · refine lv_icmp_ne (tgt := 161) hx hb dX8_premisesBy_130 (by decide) (fun _ => ?_) (fun n => absurd n c15)
      cases hf
      have k : _ = r := k
      subst k
      refine lv_ldcw (own := RX8) hx hb hown (hts _ w_2248) dX8_premisesBy_161 ?_
      exact r_iret X I rfl rfl rfl hn dX8_premisesBy_164
  rcases s_ite hf with ⟨c26, hf⟩ | ⟨c26, hf⟩
  · refine lv_tableIn (tgt := 165) (off := 159) hx hb dX8_premisesBy_6 (by rw [c26]; decide) (by rw [c26]; decide) (by rw [c26]; rfl) (by decide) ?_
    cases hf
    have k : s_V G (d + 3) M_X8_premisesBy vs0 σ0 Y_X8_premisesBy (168, [.ref v0, .int v2, .int v3, .int 268435456, .int 0], σ) (e_I r) := k
    refine lv_iconst (v := 0) hx hb dX8_premisesBy_165 (by decide) ?_
    refine lv_istore (lv' := [(5, .int 0), (4, .int 268435456), (0, .ref v0), (1, .int v1), (2, .int v2), (3, .int v3)]) hx hb dX8_premisesBy_166 hl (by decide) rfl (fun ls hl => ?_)
    exact k.2 p e s m below meth c _ _ _ _ _ X I hn.1 hn.2 (lv_sub hl [2, 4, 5, 1, 0] rfl)
  rcases s_ite hf with ⟨c27, hf⟩ | ⟨c27, hf⟩
  · refine lv_tableIn (tgt := 223) (off := 217) hx hb dX8_premisesBy_6 (by rw [c27]; decide) (by rw [c27]; decide) (by rw [c27]; rfl) (by decide) ?_
    cases hf
    have k : s_V G (d + 3) M_X8_premisesBy vs0 σ0 Y_X8_premisesBy (226, [.ref v0, .int v2, .int v3, .int 268435456, .int 0], σ) (e_I r) := k
    refine lv_iconst (v := 0) hx hb dX8_premisesBy_223 (by decide) ?_
    refine lv_istore (lv' := [(5, .int 0), (4, .int 268435456), (0, .ref v0), (1, .int v1), (2, .int v2), (3, .int v3)]) hx hb dX8_premisesBy_224 hl (by decide) rfl (fun ls hl => ?_)
    exact k.2 p e s m below meth c _ _ _ _ _ X I hn.1 hn.2 (lv_sub hl [2, 4, 5, 1, 0] rfl)
  rcases s_ite hf with ⟨c28, hf⟩ | ⟨c28, hf⟩
  · refine lv_tableIn (tgt := 281) (off := 275) hx hb dX8_premisesBy_6 (by rw [c28]; decide) (by rw [c28]; decide) (by rw [c28]; rfl) (by decide) ?_
    obtain ⟨x14, h29, hf⟩ := s_bind hf
    obtain ⟨x15, h30, hf⟩ := s_bind hf
    refine lv_aload_n hx hb dX8_premisesBy_281 rfl (lv_at hl 1 rfl) ?_
    refine r_gr X I fl_X8_59 h29 dX8_premisesBy_282 ?_
    refine lv_iload_n hx hb dX8_premisesBy_285 rfl (lv_at hl 3 rfl) ?_
    refine r_iald X I h30 dX8_premisesBy_286 ?_
    refine lv_bipush (v := 14) hx hb dX8_premisesBy_287 (by decide) ?_
    rcases s_ite hf with ⟨c31, hf⟩ | ⟨c31, hf⟩
    · refine lv_icmp_ne (tgt := 306) hx hb dX8_premisesBy_289 (by decide) (fun n => absurd c31 n) (fun _ => ?_)
      obtain ⟨x16, h32, hf⟩ := s_bind hf
      obtain ⟨x17, h33, hf⟩ := s_bind hf
      obtain ⟨q18, h34, hf⟩ := s_bind hf
      cases hf
      have k : _ = r := k
      subst k
      have le35 : s_le q18.2 q18.2 := s_le.rf
      refine lv_aload_n hx hb dX8_premisesBy_292 rfl (lv_at hl 1 rfl) ?_
      refine lv_aload_n hx hb dX8_premisesBy_293 rfl (lv_at hl 1 rfl) ?_
      refine r_gr X I fl_X8_62 h32 dX8_premisesBy_294 ?_
      refine lv_iload_n hx hb dX8_premisesBy_297 rfl (lv_at hl 3 rfl) ?_
      refine r_iald X I h33 dX8_premisesBy_298 ?_
      refine lv_iload_n hx hb dX8_premisesBy_299 rfl (lv_at hl 4 rfl) ?_
      refine r_callV (Y := M_X8_costAt) (v := some (.int q18.1)) X I w_2249 my_X8_costAt (by omega) (t_X8_costAt (G := G) (d := d + 1) h34) (b_X8_costAt h34) rfl rfl hl.1 rfl (Nat.le_of_ble_eq_true rfl) hn le35 dX8_premisesBy_300 (fun H locs cells slots I hn1 hn2 => ?_)
      have I : s_I G q18.2 s H locs := I
      have hn : cells + σ0.2.1 ≤ q18.2.2.1 ∧ slots + σ0.2.2.1 ≤ q18.2.2.2.1 := ⟨hn1, hn2⟩
      refine lv_goto (tgt := 309) hx hb dX8_premisesBy_303 (by decide) ?_
      exact r_iret X I rfl rfl rfl hn dX8_premisesBy_309
    · refine lv_icmp_ne (tgt := 306) hx hb dX8_premisesBy_289 (by decide) (fun _ => ?_) (fun n => absurd n c31)
      cases hf
      have k : _ = r := k
      subst k
      refine lv_ldcw (own := RX8) hx hb hown (hts _ w_2248) dX8_premisesBy_306 ?_
      exact r_iret X I rfl rfl rfl hn dX8_premisesBy_309
  rcases s_ite hf with ⟨c36, hf⟩ | ⟨c36, hf⟩
  · refine lv_tableIn (tgt := 310) (off := 304) hx hb dX8_premisesBy_6 (by rw [c36]; decide) (by rw [c36]; decide) (by rw [c36]; rfl) (by decide) ?_
    obtain ⟨x19, h37, hf⟩ := s_bind hf
    obtain ⟨x20, h38, hf⟩ := s_bind hf
    refine lv_aload_n hx hb dX8_premisesBy_310 rfl (lv_at hl 1 rfl) ?_
    refine r_gr X I fl_X8_59 h37 dX8_premisesBy_311 ?_
    refine lv_iload_n hx hb dX8_premisesBy_314 rfl (lv_at hl 3 rfl) ?_
    refine r_iald X I h38 dX8_premisesBy_315 ?_
    refine lv_bipush (v := 14) hx hb dX8_premisesBy_316 (by decide) ?_
    rcases s_ite hf with ⟨c39, hf⟩ | ⟨c39, hf⟩
    · refine lv_icmp_ne (tgt := 335) hx hb dX8_premisesBy_318 (by decide) (fun n => absurd c39 n) (fun _ => ?_)
      obtain ⟨x21, h40, hf⟩ := s_bind hf
      obtain ⟨x22, h41, hf⟩ := s_bind hf
      obtain ⟨q23, h42, hf⟩ := s_bind hf
      cases hf
      have k : _ = r := k
      subst k
      have le43 : s_le q23.2 q23.2 := s_le.rf
      refine lv_aload_n hx hb dX8_premisesBy_321 rfl (lv_at hl 1 rfl) ?_
      refine lv_aload_n hx hb dX8_premisesBy_322 rfl (lv_at hl 1 rfl) ?_
      refine r_gr X I fl_X8_65 h40 dX8_premisesBy_323 ?_
      refine lv_iload_n hx hb dX8_premisesBy_326 rfl (lv_at hl 3 rfl) ?_
      refine r_iald X I h41 dX8_premisesBy_327 ?_
      refine lv_iload_n hx hb dX8_premisesBy_328 rfl (lv_at hl 4 rfl) ?_
      refine r_callV (Y := M_X8_costAt) (v := some (.int q23.1)) X I w_2249 my_X8_costAt (by omega) (t_X8_costAt (G := G) (d := d + 1) h42) (b_X8_costAt h42) rfl rfl hl.1 rfl (Nat.le_of_ble_eq_true rfl) hn le43 dX8_premisesBy_329 (fun H locs cells slots I hn1 hn2 => ?_)
      have I : s_I G q23.2 s H locs := I
      have hn : cells + σ0.2.1 ≤ q23.2.2.1 ∧ slots + σ0.2.2.1 ≤ q23.2.2.2.1 := ⟨hn1, hn2⟩
      refine lv_goto (tgt := 338) hx hb dX8_premisesBy_332 (by decide) ?_
      exact r_iret X I rfl rfl rfl hn dX8_premisesBy_338
    · refine lv_icmp_ne (tgt := 335) hx hb dX8_premisesBy_318 (by decide) (fun _ => ?_) (fun n => absurd n c39)
      cases hf
      have k : _ = r := k
      subst k
      refine lv_ldcw (own := RX8) hx hb hown (hts _ w_2248) dX8_premisesBy_335 ?_
      exact r_iret X I rfl rfl rfl hn dX8_premisesBy_338
  rcases s_ite hf with ⟨c44, hf⟩ | ⟨c44, hf⟩
  · refine lv_tableIn (tgt := 339) (off := 333) hx hb dX8_premisesBy_6 (by rw [c44]; decide) (by rw [c44]; decide) (by rw [c44]; rfl) (by decide) ?_
    cases hf
    have k : s_V G (d + 3) M_X8_premisesBy vs0 σ0 Y_X8_premisesBy (342, [.ref v0, .int v2, .int v3, .int 268435456, .int 0], σ) (e_I r) := k
    refine lv_iconst (v := 0) hx hb dX8_premisesBy_339 (by decide) ?_
    refine lv_istore (lv' := [(5, .int 0), (4, .int 268435456), (0, .ref v0), (1, .int v1), (2, .int v2), (3, .int v3)]) hx hb dX8_premisesBy_340 hl (by decide) rfl (fun ls hl => ?_)
    exact k.2 p e s m below meth c _ _ _ _ _ X I hn.1 hn.2 (lv_sub hl [2, 4, 5, 1, 0] rfl)
  rcases s_ite hf with ⟨c45, hf⟩ | ⟨c45, hf⟩
  · refine lv_tableIn (tgt := 412) (off := 406) hx hb dX8_premisesBy_6 (by rw [c45]; decide) (by rw [c45]; decide) (by rw [c45]; rfl) (by decide) ?_
    cases hf
    have k : s_V G (d + 3) M_X8_premisesBy vs0 σ0 Y_X8_premisesBy (415, [.ref v0, .int v2, .int v3, .int 268435456, .int 0], σ) (e_I r) := k
    refine lv_iconst (v := 0) hx hb dX8_premisesBy_412 (by decide) ?_
    refine lv_istore (lv' := [(5, .int 0), (4, .int 268435456), (0, .ref v0), (1, .int v1), (2, .int v2), (3, .int v3)]) hx hb dX8_premisesBy_413 hl (by decide) rfl (fun ls hl => ?_)
    exact k.2 p e s m below meth c _ _ _ _ _ X I hn.1 hn.2 (lv_sub hl [2, 4, 5, 1, 0] rfl)
  rcases s_ite hf with ⟨c46, hf⟩ | ⟨c46, hf⟩
  · refine lv_tableIn (tgt := 462) (off := 456) hx hb dX8_premisesBy_6 (by rw [c46]; decide) (by rw [c46]; decide) (by rw [c46]; rfl) (by decide) ?_
    cases hf
    have k : s_V G (d + 3) M_X8_premisesBy vs0 σ0 Y_X8_premisesBy (465, [.ref v0, .int v2, .int v3, .int 268435456, .int 0], σ) (e_I r) := k
    refine lv_iconst (v := 0) hx hb dX8_premisesBy_462 (by decide) ?_
    refine lv_istore (lv' := [(5, .int 0), (4, .int 268435456), (0, .ref v0), (1, .int v1), (2, .int v2), (3, .int v3)]) hx hb dX8_premisesBy_463 hl (by decide) rfl (fun ls hl => ?_)
    exact k.2 p e s m below meth c _ _ _ _ _ X I hn.1 hn.2 (lv_sub hl [2, 4, 5, 1, 0] rfl)
  rcases s_ite hf with ⟨c47, hf⟩ | ⟨c47, hf⟩
  · refine lv_tableIn (tgt := 537) (off := 531) hx hb dX8_premisesBy_6 (by rw [c47]; decide) (by rw [c47]; decide) (by rw [c47]; rfl) (by decide) ?_
    obtain ⟨q24, h48, hf⟩ := s_bind hf
    cases hf
    have k : _ = r := k
    subst k
    have le49 : s_le q24.2 q24.2 := s_le.rf
    refine lv_aload_n hx hb dX8_premisesBy_537 rfl (lv_at hl 1 rfl) ?_
    refine lv_iload_n hx hb dX8_premisesBy_538 rfl (lv_at hl 3 rfl) ?_
    refine lv_iload_n hx hb dX8_premisesBy_539 rfl (lv_at hl 4 rfl) ?_
    refine r_callV (Y := M_X8_givenBy) (v := some (.int q24.1)) X I w_2265 my_X8_givenBy (by omega) (t_X8_givenBy (G := G) (d := d + 0) h48) (b_X8_givenBy h48) rfl rfl hl.1 rfl (Nat.le_of_ble_eq_true rfl) hn le49 dX8_premisesBy_540 (fun H locs cells slots I hn1 hn2 => ?_)
    have I : s_I G q24.2 s H locs := I
    have hn : cells + σ0.2.1 ≤ q24.2.2.1 ∧ slots + σ0.2.2.1 ≤ q24.2.2.2.1 := ⟨hn1, hn2⟩
    exact r_iret X I rfl rfl rfl hn dX8_premisesBy_543
  rcases s_ite hf with ⟨c50, hf⟩ | ⟨c50, hf⟩
  · refine lv_tableIn (tgt := 544) (off := 538) hx hb dX8_premisesBy_6 (by rw [c50]; decide) (by rw [c50]; decide) (by rw [c50]; rfl) (by decide) ?_
    cases hf
    have k : s_V G (d + 3) M_X8_premisesBy vs0 σ0 Y_X8_premisesBy (547, [.ref v0, .int v2, .int v3, .int 268435456, .int 0], σ) (e_I r) := k
    refine lv_iconst (v := 0) hx hb dX8_premisesBy_544 (by decide) ?_
    refine lv_istore (lv' := [(5, .int 0), (4, .int 268435456), (0, .ref v0), (1, .int v1), (2, .int v2), (3, .int v3)]) hx hb dX8_premisesBy_545 hl (by decide) rfl (fun ls hl => ?_)
    exact k.2 p e s m below meth c _ _ _ _ _ X I hn.1 hn.2 (lv_sub hl [2, 4, 5, 1, 0] rfl)
  rcases s_ite hf with ⟨c51, hf⟩ | ⟨c51, hf⟩
  · refine lv_tableIn (tgt := 594) (off := 588) hx hb dX8_premisesBy_6 (by rw [c51]; decide) (by rw [c51]; decide) (by rw [c51]; rfl) (by decide) ?_
    obtain ⟨x25, h52, hf⟩ := s_bind hf
    obtain ⟨x26, h53, hf⟩ := s_bind hf
    refine lv_aload_n hx hb dX8_premisesBy_594 rfl (lv_at hl 1 rfl) ?_
    refine r_gr X I fl_X8_59 h52 dX8_premisesBy_595 ?_
    refine lv_iload_n hx hb dX8_premisesBy_598 rfl (lv_at hl 3 rfl) ?_
    refine r_iald X I h53 dX8_premisesBy_599 ?_
    refine lv_bipush (v := 16) hx hb dX8_premisesBy_600 (by decide) ?_
    rcases s_ite hf with ⟨c54, hf⟩ | ⟨c54, hf⟩
    · refine lv_icmp_eq (tgt := 609) hx hb dX8_premisesBy_602 (by decide) (fun _ => ?_) (fun n => absurd c54 n)
      cases hf
      have k : s_V G (d + 3) M_X8_premisesBy vs0 σ0 Y_X8_premisesBy (615, [.ref v0, .int v2, .int v3, .int 0, .int 0], σ) (e_I r) := k
      refine lv_iconst (v := 0) hx hb dX8_premisesBy_609 (by decide) ?_
      refine lv_istore (lv' := [(4, .int 0), (0, .ref v0), (1, .int v1), (2, .int v2), (3, .int v3)]) hx hb dX8_premisesBy_610 hl (by decide) rfl (fun ls hl => ?_)
      refine lv_iconst (v := 0) hx hb dX8_premisesBy_612 (by decide) ?_
      refine lv_istore (lv' := [(5, .int 0), (4, .int 0), (0, .ref v0), (1, .int v1), (2, .int v2), (3, .int v3)]) hx hb dX8_premisesBy_613 hl (by decide) rfl (fun ls hl => ?_)
      exact k.2 p e s m below meth c _ _ _ _ _ X I hn.1 hn.2 (lv_sub hl [2, 4, 5, 1, 0] rfl)
    · refine lv_icmp_eq (tgt := 609) hx hb dX8_premisesBy_602 (by decide) (fun n => absurd n c54) (fun _ => ?_)
      cases hf
      have k : _ = r := k
      subst k
      refine lv_ldcw (own := RX8) hx hb hown (hts _ w_2248) dX8_premisesBy_605 ?_
      exact r_iret X I rfl rfl rfl hn dX8_premisesBy_608
  rcases s_ite hf with ⟨c55, hf⟩ | ⟨c55, hf⟩
  · refine lv_tableIn (tgt := 656) (off := 650) hx hb dX8_premisesBy_6 (by rw [c55]; decide) (by rw [c55]; decide) (by rw [c55]; rfl) (by decide) ?_
    cases hf
    have k : s_V G (d + 3) M_X8_premisesBy vs0 σ0 Y_X8_premisesBy (659, [.ref v0, .int v2, .int v3, .int 268435456, .int 0], σ) (e_I r) := k
    refine lv_iconst (v := 0) hx hb dX8_premisesBy_656 (by decide) ?_
    refine lv_istore (lv' := [(5, .int 0), (4, .int 268435456), (0, .ref v0), (1, .int v1), (2, .int v2), (3, .int v3)]) hx hb dX8_premisesBy_657 hl (by decide) rfl (fun ls hl => ?_)
    exact k.2 p e s m below meth c _ _ _ _ _ X I hn.1 hn.2 (lv_sub hl [2, 4, 5, 1, 0] rfl)
  refine lv_tableOut (tgt := 711) hx hb dX8_premisesBy_6 (by
      have tc1 := lv_neT (a := 0) c1 (by decide)
      have tc5 := lv_neT (a := 1) c5 (by decide)
      have tc12 := lv_neT (a := 2) c12 (by decide)
      have tc26 := lv_neT (a := 3) c26 (by decide)
      have tc27 := lv_neT (a := 4) c27 (by decide)
      have tc28 := lv_neT (a := 5) c28 (by decide)
      have tc36 := lv_neT (a := 6) c36 (by decide)
      have tc44 := lv_neT (a := 7) c44 (by decide)
      have tc45 := lv_neT (a := 8) c45 (by decide)
      have tc46 := lv_neT (a := 9) c46 (by decide)
      have tc47 := lv_neT (a := 10) c47 (by decide)
      have tc50 := lv_neT (a := 11) c50 (by decide)
      have tc51 := lv_neT (a := 12) c51 (by decide)
      have tc55 := lv_neT (a := 13) c55 (by decide)
      omega) (by decide) ?_
  cases hf
  have k : s_V G (d + 3) M_X8_premisesBy vs0 σ0 Y_X8_premisesBy (714, [.ref v0, .int v3, .int 268435456, .int 0], σ) (e_I r) := k
  refine lv_iconst (v := 0) hx hb dX8_premisesBy_711 (by decide) ?_
  refine lv_istore (lv' := [(5, .int 0), (4, .int 268435456), (0, .ref v0), (1, .int v1), (2, .int v2), (3, .int v3)]) hx hb dX8_premisesBy_712 hl (by decide) rfl (fun ls hl => ?_)
  exact k.2 p e s m below meth c _ _ _ _ _ X I hn.1 hn.2 (lv_sub hl [2, 5, 1, 0] rfl)
set_option maxRecDepth 100000 in
set_option maxHeartbeats 4000000 in
theorem v_X8_premisesBy_118 {G : sG} {d : Nat} {vs0 : List Value} {σ0 : sS}  {σ : sS} {z : sZ Int32} {r : Int32 × sS} (hf : T_X8_premisesBy_118  σ = some z) (k : s_K G (d + 3) M_X8_premisesBy vs0 σ0 Y_X8_premisesBy e_I z r) : s_V G (d + 3) M_X8_premisesBy vs0 σ0 Y_X8_premisesBy (118, [], σ) (e_I r) := by
  have le0 : s_le σ (e_I r).2 := s_lek hem_I (l_X8_premisesBy_118 hf) k
  refine ⟨le0, ?_⟩
  intro p e s m below meth c H locs cells slots ls X I hn1 hn2 hl
  have hn : cells + σ0.2.1 ≤ σ.2.1 ∧ slots + σ0.2.2.1 ≤ σ.2.2.1 := ⟨hn1, hn2⟩
  have hl : lv_has ls 6 [] := hl
  have hx := X.1
  have hb : c.code = cX8_premisesBy := X.2.1
  have hown : s.vm.findClass RX8 = some m.cls := X.2.2.2.2.2.1
  have hts := X.2.2.2.2.2.2.1
  refine W.eq (g2 := F0 m 118 ls []) rfl ?_
  unfold T_X8_premisesBy_118 at hf
  cases hf
  have k : _ = r := k
  subst k
  refine lv_ldcw (own := RX8) hx hb hown (hts _ w_2248) dX8_premisesBy_118 ?_
  exact r_iret X I rfl rfl rfl hn dX8_premisesBy_121
set_option maxRecDepth 100000 in
set_option maxHeartbeats 4000000 in
theorem v_X8_premisesBy_168 {G : sG} {d : Nat} {vs0 : List Value} {σ0 : sS} {v0 : Nat} {v2 : Int32} {v3 : Int32} {v4 : Int32} {v5 : Int32} {σ : sS} {z : sZ Int32} {r : Int32 × sS} (hf : T_X8_premisesBy_168 v0 v2 v3 v4 v5 σ = some z) (k : s_K G (d + 3) M_X8_premisesBy vs0 σ0 Y_X8_premisesBy e_I z r) : s_V G (d + 3) M_X8_premisesBy vs0 σ0 Y_X8_premisesBy (168, [.ref v0, .int v2, .int v3, .int v4, .int v5], σ) (e_I r) := by
  have le0 : s_le σ (e_I r).2 := s_lek hem_I (l_X8_premisesBy_168 hf) k
  refine ⟨le0, ?_⟩
  intro p e s m below meth c H locs cells slots ls X I hn1 hn2 hl
  have hn : cells + σ0.2.1 ≤ σ.2.1 ∧ slots + σ0.2.2.1 ≤ σ.2.2.1 := ⟨hn1, hn2⟩
  have hl : lv_has ls 6 [(0, .ref v0), (2, .int v2), (3, .int v3), (4, .int v4), (5, .int v5)] := hl
  have hx := X.1
  have hb : c.code = cX8_premisesBy := X.2.1
  have hown : s.vm.findClass RX8 = some m.cls := X.2.2.2.2.2.1
  have hts := X.2.2.2.2.2.2.1
  refine W.eq (g2 := F0 m 168 ls []) rfl ?_
  unfold T_X8_premisesBy_168 at hf
  obtain ⟨x1, h1, hf⟩ := s_bind hf
  refine lv_iload hx hb dX8_premisesBy_168 (lv_at hl 4 rfl) ?_
  refine lv_aload_n hx hb dX8_premisesBy_170 rfl (lv_at hl 0 rfl) ?_
  refine r_gi X I fl_X8_360 h1 dX8_premisesBy_171 ?_
  rcases s_ite hf with ⟨c2, hf⟩ | ⟨c2, hf⟩
  · refine lv_icmp_ge (tgt := 220) hx hb dX8_premisesBy_174 (by decide) (fun _ => ?_) (fun n => absurd c2 n)
    cases hf
    have k : _ = r := k
    subst k
    refine lv_iload hx hb dX8_premisesBy_220 (lv_at hl 3 rfl) ?_
    exact r_iret X I rfl rfl rfl hn dX8_premisesBy_222
  · refine lv_icmp_ge (tgt := 220) hx hb dX8_premisesBy_174 (by decide) (fun n => absurd n c2) (fun _ => ?_)
    obtain ⟨x2, h3, hf⟩ := s_bind hf
    obtain ⟨x3, h4, hf⟩ := s_bind hf
    refine lv_aload_n hx hb dX8_premisesBy_177 rfl (lv_at hl 0 rfl) ?_
    refine r_gr X I fl_X8_59 h3 dX8_premisesBy_178 ?_
    refine lv_iload hx hb dX8_premisesBy_181 (lv_at hl 4 rfl) ?_
    refine r_iald X I h4 dX8_premisesBy_183 ?_
    refine lv_bipush (v := 13) hx hb dX8_premisesBy_184 (by decide) ?_
    rcases s_ite hf with ⟨c5, hf⟩ | ⟨c5, hf⟩
    · refine lv_icmp_ne (tgt := 214) hx hb dX8_premisesBy_186 (by decide) (fun n => absurd c5 n) (fun _ => ?_)
      obtain ⟨x4, h6, hf⟩ := s_bind hf
      obtain ⟨x5, h7, hf⟩ := s_bind hf
      refine lv_aload_n hx hb dX8_premisesBy_189 rfl (lv_at hl 0 rfl) ?_
      refine r_gr X I fl_X8_62 h6 dX8_premisesBy_190 ?_
      refine lv_iload hx hb dX8_premisesBy_193 (lv_at hl 4 rfl) ?_
      refine r_iald X I h7 dX8_premisesBy_195 ?_
      refine lv_iload_n hx hb dX8_premisesBy_196 rfl (lv_at hl 1 rfl) ?_
      rcases s_ite hf with ⟨c8, hf⟩ | ⟨c8, hf⟩
      · refine lv_icmp_ne (tgt := 214) hx hb dX8_premisesBy_197 (by decide) (fun n => absurd c8 n) (fun _ => ?_)
        obtain ⟨q6, h9, hf⟩ := s_bind hf
        cases hf
        have k : s_V G (d + 3) M_X8_premisesBy vs0 σ0 Y_X8_premisesBy (214, [.ref v0, .int v2, .int v3, .int (if q6.1 < v4 then q6.1 else v4), .int v5], q6.2) (e_I r) := k
        have le10 : s_le q6.2 (e_I r).2 := k.1
        refine lv_iload hx hb dX8_premisesBy_200 (lv_at hl 3 rfl) ?_
        refine lv_aload_n hx hb dX8_premisesBy_202 rfl (lv_at hl 0 rfl) ?_
        refine lv_iload hx hb dX8_premisesBy_203 (lv_at hl 4 rfl) ?_
        refine lv_iload_n hx hb dX8_premisesBy_205 rfl (lv_at hl 2 rfl) ?_
        refine r_callV (Y := M_X8_costAt) (v := some (.int q6.1)) X I w_2249 my_X8_costAt (by omega) (t_X8_costAt (G := G) (d := d + 1) h9) (b_X8_costAt h9) rfl rfl hl.1 rfl (Nat.le_of_ble_eq_true rfl) hn le10 dX8_premisesBy_206 (fun H locs cells slots I hn1 hn2 => ?_)
        have I : s_I G q6.2 s H locs := I
        have hn : cells + σ0.2.1 ≤ q6.2.2.1 ∧ slots + σ0.2.2.1 ≤ q6.2.2.2.1 := ⟨hn1, hn2⟩
        refine r_mmin X w_2264 w_765 w_179 w_766 hl.1 (Nat.le_of_ble_eq_true rfl) hn le10 dX8_premisesBy_209 ?_
        refine lv_istore (lv' := [(4, .int (if q6.1 < v4 then q6.1 else v4)), (0, .ref v0), (2, .int v2), (3, .int v3), (5, .int v5)]) hx hb dX8_premisesBy_212 hl (by decide) rfl (fun ls hl => ?_)
        exact k.2 p e s m below meth c _ _ _ _ _ X I hn.1 hn.2 (lv_sub hl [1, 2, 3, 0, 4] rfl)
      · refine lv_icmp_ne (tgt := 214) hx hb dX8_premisesBy_197 (by decide) (fun _ => ?_) (fun n => absurd n c8)
        cases hf
        have k : s_V G (d + 3) M_X8_premisesBy vs0 σ0 Y_X8_premisesBy (214, [.ref v0, .int v2, .int v3, .int v4, .int v5], σ) (e_I r) := k
        exact k.2 p e s m below meth c _ _ _ _ _ X I hn.1 hn.2 (lv_sub hl [0, 1, 2, 3, 4] rfl)
    · refine lv_icmp_ne (tgt := 214) hx hb dX8_premisesBy_186 (by decide) (fun _ => ?_) (fun n => absurd n c5)
      cases hf
      have k : s_V G (d + 3) M_X8_premisesBy vs0 σ0 Y_X8_premisesBy (214, [.ref v0, .int v2, .int v3, .int v4, .int v5], σ) (e_I r) := k
      exact k.2 p e s m below meth c _ _ _ _ _ X I hn.1 hn.2 (lv_sub hl [0, 1, 2, 3, 4] rfl)
set_option maxRecDepth 100000 in
set_option maxHeartbeats 4000000 in
theorem v_X8_premisesBy_214 {G : sG} {d : Nat} {vs0 : List Value} {σ0 : sS} {v0 : Nat} {v2 : Int32} {v3 : Int32} {v4 : Int32} {v5 : Int32} {σ : sS} {z : sZ Int32} {r : Int32 × sS} (hf : T_X8_premisesBy_214 v0 v2 v3 v4 v5 σ = some z) (k : s_K G (d + 3) M_X8_premisesBy vs0 σ0 Y_X8_premisesBy e_I z r) : s_V G (d + 3) M_X8_premisesBy vs0 σ0 Y_X8_premisesBy (214, [.ref v0, .int v2, .int v3, .int v4, .int v5], σ) (e_I r) := by
  have le0 : s_le σ (e_I r).2 := s_lek hem_I (l_X8_premisesBy_214 hf) k
  refine ⟨le0, ?_⟩
  intro p e s m below meth c H locs cells slots ls X I hn1 hn2 hl
  have hn : cells + σ0.2.1 ≤ σ.2.1 ∧ slots + σ0.2.2.1 ≤ σ.2.2.1 := ⟨hn1, hn2⟩
  have hl : lv_has ls 6 [(0, .ref v0), (2, .int v2), (3, .int v3), (4, .int v4), (5, .int v5)] := hl
  have hx := X.1
  have hb : c.code = cX8_premisesBy := X.2.1
  have hown : s.vm.findClass RX8 = some m.cls := X.2.2.2.2.2.1
  have hts := X.2.2.2.2.2.2.1
  refine W.eq (g2 := F0 m 214 ls []) rfl ?_
  unfold T_X8_premisesBy_214 at hf
  cases hf
  have k : s_V G (d + 3) M_X8_premisesBy vs0 σ0 Y_X8_premisesBy (168, [.ref v0, .int v2, .int v3, .int v4, .int (v5 + 1)], σ) (e_I r) := k
  refine lv_iinc (v := (v5 + 1)) (lv' := [(5, .int (v5 + 1)), (0, .ref v0), (2, .int v2), (3, .int v3), (4, .int v4)]) hx hb dX8_premisesBy_214 hl (k := 4) rfl rfl (by decide) rfl (fun ls hl => ?_)
  refine lv_goto (tgt := 168) hx hb dX8_premisesBy_217 (by decide) ?_
  exact k.2 p e s m below meth c _ _ _ _ _ X I hn.1 hn.2 (lv_sub hl [1, 2, 3, 4, 0] rfl)
set_option maxRecDepth 100000 in
set_option maxHeartbeats 4000000 in
theorem v_X8_premisesBy_226 {G : sG} {d : Nat} {vs0 : List Value} {σ0 : sS} {v0 : Nat} {v2 : Int32} {v3 : Int32} {v4 : Int32} {v5 : Int32} {σ : sS} {z : sZ Int32} {r : Int32 × sS} (hf : T_X8_premisesBy_226 v0 v2 v3 v4 v5 σ = some z) (k : s_K G (d + 3) M_X8_premisesBy vs0 σ0 Y_X8_premisesBy e_I z r) : s_V G (d + 3) M_X8_premisesBy vs0 σ0 Y_X8_premisesBy (226, [.ref v0, .int v2, .int v3, .int v4, .int v5], σ) (e_I r) := by
  have le0 : s_le σ (e_I r).2 := s_lek hem_I (l_X8_premisesBy_226 hf) k
  refine ⟨le0, ?_⟩
  intro p e s m below meth c H locs cells slots ls X I hn1 hn2 hl
  have hn : cells + σ0.2.1 ≤ σ.2.1 ∧ slots + σ0.2.2.1 ≤ σ.2.2.1 := ⟨hn1, hn2⟩
  have hl : lv_has ls 6 [(0, .ref v0), (2, .int v2), (3, .int v3), (4, .int v4), (5, .int v5)] := hl
  have hx := X.1
  have hb : c.code = cX8_premisesBy := X.2.1
  have hown : s.vm.findClass RX8 = some m.cls := X.2.2.2.2.2.1
  have hts := X.2.2.2.2.2.2.1
  refine W.eq (g2 := F0 m 226 ls []) rfl ?_
  unfold T_X8_premisesBy_226 at hf
  obtain ⟨x1, h1, hf⟩ := s_bind hf
  refine lv_iload hx hb dX8_premisesBy_226 (lv_at hl 4 rfl) ?_
  refine lv_aload_n hx hb dX8_premisesBy_228 rfl (lv_at hl 0 rfl) ?_
  refine r_gi X I fl_X8_360 h1 dX8_premisesBy_229 ?_
  rcases s_ite hf with ⟨c2, hf⟩ | ⟨c2, hf⟩
  · refine lv_icmp_ge (tgt := 278) hx hb dX8_premisesBy_232 (by decide) (fun _ => ?_) (fun n => absurd c2 n)
    cases hf
    have k : _ = r := k
    subst k
    refine lv_iload hx hb dX8_premisesBy_278 (lv_at hl 3 rfl) ?_
    exact r_iret X I rfl rfl rfl hn dX8_premisesBy_280
  · refine lv_icmp_ge (tgt := 278) hx hb dX8_premisesBy_232 (by decide) (fun n => absurd n c2) (fun _ => ?_)
    obtain ⟨x2, h3, hf⟩ := s_bind hf
    obtain ⟨x3, h4, hf⟩ := s_bind hf
    refine lv_aload_n hx hb dX8_premisesBy_235 rfl (lv_at hl 0 rfl) ?_
    refine r_gr X I fl_X8_59 h3 dX8_premisesBy_236 ?_
    refine lv_iload hx hb dX8_premisesBy_239 (lv_at hl 4 rfl) ?_
    refine r_iald X I h4 dX8_premisesBy_241 ?_
    refine lv_bipush (v := 13) hx hb dX8_premisesBy_242 (by decide) ?_
    rcases s_ite hf with ⟨c5, hf⟩ | ⟨c5, hf⟩
    · refine lv_icmp_ne (tgt := 272) hx hb dX8_premisesBy_244 (by decide) (fun n => absurd c5 n) (fun _ => ?_)
      obtain ⟨x4, h6, hf⟩ := s_bind hf
      obtain ⟨x5, h7, hf⟩ := s_bind hf
      refine lv_aload_n hx hb dX8_premisesBy_247 rfl (lv_at hl 0 rfl) ?_
      refine r_gr X I fl_X8_65 h6 dX8_premisesBy_248 ?_
      refine lv_iload hx hb dX8_premisesBy_251 (lv_at hl 4 rfl) ?_
      refine r_iald X I h7 dX8_premisesBy_253 ?_
      refine lv_iload_n hx hb dX8_premisesBy_254 rfl (lv_at hl 1 rfl) ?_
      rcases s_ite hf with ⟨c8, hf⟩ | ⟨c8, hf⟩
      · refine lv_icmp_ne (tgt := 272) hx hb dX8_premisesBy_255 (by decide) (fun n => absurd c8 n) (fun _ => ?_)
        obtain ⟨q6, h9, hf⟩ := s_bind hf
        cases hf
        have k : s_V G (d + 3) M_X8_premisesBy vs0 σ0 Y_X8_premisesBy (272, [.ref v0, .int v2, .int v3, .int (if q6.1 < v4 then q6.1 else v4), .int v5], q6.2) (e_I r) := k
        have le10 : s_le q6.2 (e_I r).2 := k.1
        refine lv_iload hx hb dX8_premisesBy_258 (lv_at hl 3 rfl) ?_
        refine lv_aload_n hx hb dX8_premisesBy_260 rfl (lv_at hl 0 rfl) ?_
        refine lv_iload hx hb dX8_premisesBy_261 (lv_at hl 4 rfl) ?_
        refine lv_iload_n hx hb dX8_premisesBy_263 rfl (lv_at hl 2 rfl) ?_
        refine r_callV (Y := M_X8_costAt) (v := some (.int q6.1)) X I w_2249 my_X8_costAt (by omega) (t_X8_costAt (G := G) (d := d + 1) h9) (b_X8_costAt h9) rfl rfl hl.1 rfl (Nat.le_of_ble_eq_true rfl) hn le10 dX8_premisesBy_264 (fun H locs cells slots I hn1 hn2 => ?_)
        have I : s_I G q6.2 s H locs := I
        have hn : cells + σ0.2.1 ≤ q6.2.2.1 ∧ slots + σ0.2.2.1 ≤ q6.2.2.2.1 := ⟨hn1, hn2⟩
        refine r_mmin X w_2264 w_765 w_179 w_766 hl.1 (Nat.le_of_ble_eq_true rfl) hn le10 dX8_premisesBy_267 ?_
        refine lv_istore (lv' := [(4, .int (if q6.1 < v4 then q6.1 else v4)), (0, .ref v0), (2, .int v2), (3, .int v3), (5, .int v5)]) hx hb dX8_premisesBy_270 hl (by decide) rfl (fun ls hl => ?_)
        exact k.2 p e s m below meth c _ _ _ _ _ X I hn.1 hn.2 (lv_sub hl [1, 2, 3, 0, 4] rfl)
      · refine lv_icmp_ne (tgt := 272) hx hb dX8_premisesBy_255 (by decide) (fun _ => ?_) (fun n => absurd n c8)
        cases hf
        have k : s_V G (d + 3) M_X8_premisesBy vs0 σ0 Y_X8_premisesBy (272, [.ref v0, .int v2, .int v3, .int v4, .int v5], σ) (e_I r) := k
        exact k.2 p e s m below meth c _ _ _ _ _ X I hn.1 hn.2 (lv_sub hl [0, 1, 2, 3, 4] rfl)
    · refine lv_icmp_ne (tgt := 272) hx hb dX8_premisesBy_244 (by decide) (fun _ => ?_) (fun n => absurd n c5)
      cases hf
      have k : s_V G (d + 3) M_X8_premisesBy vs0 σ0 Y_X8_premisesBy (272, [.ref v0, .int v2, .int v3, .int v4, .int v5], σ) (e_I r) := k
      exact k.2 p e s m below meth c _ _ _ _ _ X I hn.1 hn.2 (lv_sub hl [0, 1, 2, 3, 4] rfl)
set_option maxRecDepth 100000 in
set_option maxHeartbeats 4000000 in
theorem v_X8_premisesBy_272 {G : sG} {d : Nat} {vs0 : List Value} {σ0 : sS} {v0 : Nat} {v2 : Int32} {v3 : Int32} {v4 : Int32} {v5 : Int32} {σ : sS} {z : sZ Int32} {r : Int32 × sS} (hf : T_X8_premisesBy_272 v0 v2 v3 v4 v5 σ = some z) (k : s_K G (d + 3) M_X8_premisesBy vs0 σ0 Y_X8_premisesBy e_I z r) : s_V G (d + 3) M_X8_premisesBy vs0 σ0 Y_X8_premisesBy (272, [.ref v0, .int v2, .int v3, .int v4, .int v5], σ) (e_I r) := by
  have le0 : s_le σ (e_I r).2 := s_lek hem_I (l_X8_premisesBy_272 hf) k
  refine ⟨le0, ?_⟩
  intro p e s m below meth c H locs cells slots ls X I hn1 hn2 hl
  have hn : cells + σ0.2.1 ≤ σ.2.1 ∧ slots + σ0.2.2.1 ≤ σ.2.2.1 := ⟨hn1, hn2⟩
  have hl : lv_has ls 6 [(0, .ref v0), (2, .int v2), (3, .int v3), (4, .int v4), (5, .int v5)] := hl
  have hx := X.1
  have hb : c.code = cX8_premisesBy := X.2.1
  have hown : s.vm.findClass RX8 = some m.cls := X.2.2.2.2.2.1
  have hts := X.2.2.2.2.2.2.1
  refine W.eq (g2 := F0 m 272 ls []) rfl ?_
  unfold T_X8_premisesBy_272 at hf
  cases hf
  have k : s_V G (d + 3) M_X8_premisesBy vs0 σ0 Y_X8_premisesBy (226, [.ref v0, .int v2, .int v3, .int v4, .int (v5 + 1)], σ) (e_I r) := k
  refine lv_iinc (v := (v5 + 1)) (lv' := [(5, .int (v5 + 1)), (0, .ref v0), (2, .int v2), (3, .int v3), (4, .int v4)]) hx hb dX8_premisesBy_272 hl (k := 4) rfl rfl (by decide) rfl (fun ls hl => ?_)
  refine lv_goto (tgt := 226) hx hb dX8_premisesBy_275 (by decide) ?_
  exact k.2 p e s m below meth c _ _ _ _ _ X I hn.1 hn.2 (lv_sub hl [1, 2, 3, 4, 0] rfl)
set_option maxRecDepth 100000 in
set_option maxHeartbeats 4000000 in
theorem v_X8_premisesBy_342 {G : sG} {d : Nat} {vs0 : List Value} {σ0 : sS} {v0 : Nat} {v2 : Int32} {v3 : Int32} {v4 : Int32} {v5 : Int32} {σ : sS} {z : sZ Int32} {r : Int32 × sS} (hf : T_X8_premisesBy_342 v0 v2 v3 v4 v5 σ = some z) (k : s_K G (d + 3) M_X8_premisesBy vs0 σ0 Y_X8_premisesBy e_I z r) : s_V G (d + 3) M_X8_premisesBy vs0 σ0 Y_X8_premisesBy (342, [.ref v0, .int v2, .int v3, .int v4, .int v5], σ) (e_I r) := by
  have le0 : s_le σ (e_I r).2 := s_lek hem_I (l_X8_premisesBy_342 hf) k
  refine ⟨le0, ?_⟩
  intro p e s m below meth c H locs cells slots ls X I hn1 hn2 hl
  have hn : cells + σ0.2.1 ≤ σ.2.1 ∧ slots + σ0.2.2.1 ≤ σ.2.2.1 := ⟨hn1, hn2⟩
  have hl : lv_has ls 6 [(0, .ref v0), (2, .int v2), (3, .int v3), (4, .int v4), (5, .int v5)] := hl
  have hx := X.1
  have hb : c.code = cX8_premisesBy := X.2.1
  have hown : s.vm.findClass RX8 = some m.cls := X.2.2.2.2.2.1
  have hts := X.2.2.2.2.2.2.1
  refine W.eq (g2 := F0 m 342 ls []) rfl ?_
  unfold T_X8_premisesBy_342 at hf
  obtain ⟨x1, h1, hf⟩ := s_bind hf
  refine lv_iload hx hb dX8_premisesBy_342 (lv_at hl 4 rfl) ?_
  refine lv_aload_n hx hb dX8_premisesBy_344 rfl (lv_at hl 0 rfl) ?_
  refine r_gi X I fl_X8_360 h1 dX8_premisesBy_345 ?_
  rcases s_ite hf with ⟨c2, hf⟩ | ⟨c2, hf⟩
  · refine lv_icmp_ge (tgt := 409) hx hb dX8_premisesBy_348 (by decide) (fun _ => ?_) (fun n => absurd c2 n)
    cases hf
    have k : _ = r := k
    subst k
    refine lv_iload hx hb dX8_premisesBy_409 (lv_at hl 3 rfl) ?_
    exact r_iret X I rfl rfl rfl hn dX8_premisesBy_411
  · refine lv_icmp_ge (tgt := 409) hx hb dX8_premisesBy_348 (by decide) (fun n => absurd n c2) (fun _ => ?_)
    obtain ⟨x2, h3, hf⟩ := s_bind hf
    obtain ⟨x3, h4, hf⟩ := s_bind hf
    refine lv_aload_n hx hb dX8_premisesBy_351 rfl (lv_at hl 0 rfl) ?_
    refine r_gr X I fl_X8_59 h3 dX8_premisesBy_352 ?_
    refine lv_iload hx hb dX8_premisesBy_355 (lv_at hl 4 rfl) ?_
    refine r_iald X I h4 dX8_premisesBy_357 ?_
    refine lv_bipush (v := 15) hx hb dX8_premisesBy_358 (by decide) ?_
    rcases s_ite hf with ⟨c5, hf⟩ | ⟨c5, hf⟩
    · refine lv_icmp_ne (tgt := 403) hx hb dX8_premisesBy_360 (by decide) (fun n => absurd c5 n) (fun _ => ?_)
      obtain ⟨x4, h6, hf⟩ := s_bind hf
      obtain ⟨x5, h7, hf⟩ := s_bind hf
      refine lv_aload_n hx hb dX8_premisesBy_363 rfl (lv_at hl 0 rfl) ?_
      refine r_gr X I fl_X8_65 h6 dX8_premisesBy_364 ?_
      refine lv_iload hx hb dX8_premisesBy_367 (lv_at hl 4 rfl) ?_
      refine r_iald X I h7 dX8_premisesBy_369 ?_
      refine lv_iload_n hx hb dX8_premisesBy_370 rfl (lv_at hl 1 rfl) ?_
      rcases s_ite hf with ⟨c8, hf⟩ | ⟨c8, hf⟩
      · refine lv_icmp_ne (tgt := 403) hx hb dX8_premisesBy_371 (by decide) (fun n => absurd c8 n) (fun _ => ?_)
        obtain ⟨x6, h9, hf⟩ := s_bind hf
        obtain ⟨x7, h10, hf⟩ := s_bind hf
        obtain ⟨q8, h11, hf⟩ := s_bind hf
        obtain ⟨q9, h12, hf⟩ := s_bind hf
        obtain ⟨q10, h13, hf⟩ := s_bind hf
        cases hf
        have k : s_V G (d + 3) M_X8_premisesBy vs0 σ0 Y_X8_premisesBy (403, [.ref v0, .int v2, .int v3, .int (if q10.1 < v4 then q10.1 else v4), .int v5], q10.2) (e_I r) := k
        have le14 : s_le q10.2 (e_I r).2 := k.1
        have le15 := s_le.tr (l_X8_sum h13) le14
        have le16 := s_le.tr (l_X8_costAt h12) le15
        refine lv_iload hx hb dX8_premisesBy_374 (lv_at hl 3 rfl) ?_
        refine lv_aload_n hx hb dX8_premisesBy_376 rfl (lv_at hl 0 rfl) ?_
        refine lv_aload_n hx hb dX8_premisesBy_377 rfl (lv_at hl 0 rfl) ?_
        refine r_gr X I fl_X8_62 h9 dX8_premisesBy_378 ?_
        refine lv_iload hx hb dX8_premisesBy_381 (lv_at hl 4 rfl) ?_
        refine r_iald X I h10 dX8_premisesBy_383 ?_
        refine lv_iload_n hx hb dX8_premisesBy_384 rfl (lv_at hl 2 rfl) ?_
        refine r_callV (Y := M_X8_costAt) (v := some (.int q8.1)) X I w_2249 my_X8_costAt (by omega) (t_X8_costAt (G := G) (d := d + 1) h11) (b_X8_costAt h11) rfl rfl hl.1 rfl (Nat.le_of_ble_eq_true rfl) hn le16 dX8_premisesBy_385 (fun H locs cells slots I hn1 hn2 => ?_)
        have I : s_I G q8.2 s H locs := I
        have hn : cells + σ0.2.1 ≤ q8.2.2.1 ∧ slots + σ0.2.2.1 ≤ q8.2.2.2.1 := ⟨hn1, hn2⟩
        refine lv_aload_n hx hb dX8_premisesBy_388 rfl (lv_at hl 0 rfl) ?_
        refine lv_iload hx hb dX8_premisesBy_389 (lv_at hl 4 rfl) ?_
        refine lv_iload_n hx hb dX8_premisesBy_391 rfl (lv_at hl 2 rfl) ?_
        refine r_callV (Y := M_X8_costAt) (v := some (.int q9.1)) X I w_2249 my_X8_costAt (by omega) (t_X8_costAt (G := G) (d := d + 1) h12) (b_X8_costAt h12) rfl rfl hl.1 rfl (Nat.le_of_ble_eq_true rfl) hn le15 dX8_premisesBy_392 (fun H locs cells slots I hn1 hn2 => ?_)
        have I : s_I G q9.2 s H locs := I
        have hn : cells + σ0.2.1 ≤ q9.2.2.1 ∧ slots + σ0.2.2.1 ≤ q9.2.2.2.1 := ⟨hn1, hn2⟩
        refine r_callS (Y := M_X8_sum) (v := some (.int q10.1)) X I w_2261 my_X8_sum (by omega) (t_X8_sum (G := G) (d := d + 1) h13) rfl rfl hl.1 rfl (Nat.le_of_ble_eq_true rfl) hn le14 dX8_premisesBy_395 (fun H locs cells slots I hn1 hn2 => ?_)
        have I : s_I G q10.2 s H locs := I
        have hn : cells + σ0.2.1 ≤ q10.2.2.1 ∧ slots + σ0.2.2.1 ≤ q10.2.2.2.1 := ⟨hn1, hn2⟩
        refine r_mmin X w_2264 w_765 w_179 w_766 hl.1 (Nat.le_of_ble_eq_true rfl) hn le14 dX8_premisesBy_398 ?_
        refine lv_istore (lv' := [(4, .int (if q10.1 < v4 then q10.1 else v4)), (0, .ref v0), (2, .int v2), (3, .int v3), (5, .int v5)]) hx hb dX8_premisesBy_401 hl (by decide) rfl (fun ls hl => ?_)
        exact k.2 p e s m below meth c _ _ _ _ _ X I hn.1 hn.2 (lv_sub hl [1, 2, 3, 0, 4] rfl)
      · refine lv_icmp_ne (tgt := 403) hx hb dX8_premisesBy_371 (by decide) (fun _ => ?_) (fun n => absurd n c8)
        cases hf
        have k : s_V G (d + 3) M_X8_premisesBy vs0 σ0 Y_X8_premisesBy (403, [.ref v0, .int v2, .int v3, .int v4, .int v5], σ) (e_I r) := k
        exact k.2 p e s m below meth c _ _ _ _ _ X I hn.1 hn.2 (lv_sub hl [0, 1, 2, 3, 4] rfl)
    · refine lv_icmp_ne (tgt := 403) hx hb dX8_premisesBy_360 (by decide) (fun _ => ?_) (fun n => absurd n c5)
      cases hf
      have k : s_V G (d + 3) M_X8_premisesBy vs0 σ0 Y_X8_premisesBy (403, [.ref v0, .int v2, .int v3, .int v4, .int v5], σ) (e_I r) := k
      exact k.2 p e s m below meth c _ _ _ _ _ X I hn.1 hn.2 (lv_sub hl [0, 1, 2, 3, 4] rfl)
set_option maxRecDepth 100000 in
set_option maxHeartbeats 4000000 in
theorem v_X8_premisesBy_403 {G : sG} {d : Nat} {vs0 : List Value} {σ0 : sS} {v0 : Nat} {v2 : Int32} {v3 : Int32} {v4 : Int32} {v5 : Int32} {σ : sS} {z : sZ Int32} {r : Int32 × sS} (hf : T_X8_premisesBy_403 v0 v2 v3 v4 v5 σ = some z) (k : s_K G (d + 3) M_X8_premisesBy vs0 σ0 Y_X8_premisesBy e_I z r) : s_V G (d + 3) M_X8_premisesBy vs0 σ0 Y_X8_premisesBy (403, [.ref v0, .int v2, .int v3, .int v4, .int v5], σ) (e_I r) := by
  have le0 : s_le σ (e_I r).2 := s_lek hem_I (l_X8_premisesBy_403 hf) k
  refine ⟨le0, ?_⟩
  intro p e s m below meth c H locs cells slots ls X I hn1 hn2 hl
  have hn : cells + σ0.2.1 ≤ σ.2.1 ∧ slots + σ0.2.2.1 ≤ σ.2.2.1 := ⟨hn1, hn2⟩
  have hl : lv_has ls 6 [(0, .ref v0), (2, .int v2), (3, .int v3), (4, .int v4), (5, .int v5)] := hl
  have hx := X.1
  have hb : c.code = cX8_premisesBy := X.2.1
  have hown : s.vm.findClass RX8 = some m.cls := X.2.2.2.2.2.1
  have hts := X.2.2.2.2.2.2.1
  refine W.eq (g2 := F0 m 403 ls []) rfl ?_
  unfold T_X8_premisesBy_403 at hf
  cases hf
  have k : s_V G (d + 3) M_X8_premisesBy vs0 σ0 Y_X8_premisesBy (342, [.ref v0, .int v2, .int v3, .int v4, .int (v5 + 1)], σ) (e_I r) := k
  refine lv_iinc (v := (v5 + 1)) (lv' := [(5, .int (v5 + 1)), (0, .ref v0), (2, .int v2), (3, .int v3), (4, .int v4)]) hx hb dX8_premisesBy_403 hl (k := 4) rfl rfl (by decide) rfl (fun ls hl => ?_)
  refine lv_goto (tgt := 342) hx hb dX8_premisesBy_406 (by decide) ?_
  exact k.2 p e s m below meth c _ _ _ _ _ X I hn.1 hn.2 (lv_sub hl [1, 2, 3, 4, 0] rfl)
set_option maxRecDepth 100000 in
set_option maxHeartbeats 4000000 in
theorem v_X8_premisesBy_415 {G : sG} {d : Nat} {vs0 : List Value} {σ0 : sS} {v0 : Nat} {v2 : Int32} {v3 : Int32} {v4 : Int32} {v5 : Int32} {σ : sS} {z : sZ Int32} {r : Int32 × sS} (hf : T_X8_premisesBy_415 v0 v2 v3 v4 v5 σ = some z) (k : s_K G (d + 3) M_X8_premisesBy vs0 σ0 Y_X8_premisesBy e_I z r) : s_V G (d + 3) M_X8_premisesBy vs0 σ0 Y_X8_premisesBy (415, [.ref v0, .int v2, .int v3, .int v4, .int v5], σ) (e_I r) := by
  have le0 : s_le σ (e_I r).2 := s_lek hem_I (l_X8_premisesBy_415 hf) k
  refine ⟨le0, ?_⟩
  intro p e s m below meth c H locs cells slots ls X I hn1 hn2 hl
  have hn : cells + σ0.2.1 ≤ σ.2.1 ∧ slots + σ0.2.2.1 ≤ σ.2.2.1 := ⟨hn1, hn2⟩
  have hl : lv_has ls 6 [(0, .ref v0), (2, .int v2), (3, .int v3), (4, .int v4), (5, .int v5)] := hl
  have hx := X.1
  have hb : c.code = cX8_premisesBy := X.2.1
  have hown : s.vm.findClass RX8 = some m.cls := X.2.2.2.2.2.1
  have hts := X.2.2.2.2.2.2.1
  refine W.eq (g2 := F0 m 415 ls []) rfl ?_
  unfold T_X8_premisesBy_415 at hf
  obtain ⟨x1, h1, hf⟩ := s_bind hf
  refine lv_iload hx hb dX8_premisesBy_415 (lv_at hl 4 rfl) ?_
  refine lv_aload_n hx hb dX8_premisesBy_417 rfl (lv_at hl 0 rfl) ?_
  refine r_gi X I fl_X8_360 h1 dX8_premisesBy_418 ?_
  rcases s_ite hf with ⟨c2, hf⟩ | ⟨c2, hf⟩
  · refine lv_icmp_ge (tgt := 459) hx hb dX8_premisesBy_421 (by decide) (fun _ => ?_) (fun n => absurd c2 n)
    cases hf
    have k : _ = r := k
    subst k
    refine lv_iload hx hb dX8_premisesBy_459 (lv_at hl 3 rfl) ?_
    exact r_iret X I rfl rfl rfl hn dX8_premisesBy_461
  · refine lv_icmp_ge (tgt := 459) hx hb dX8_premisesBy_421 (by decide) (fun n => absurd n c2) (fun _ => ?_)
    obtain ⟨x2, h3, hf⟩ := s_bind hf
    obtain ⟨x3, h4, hf⟩ := s_bind hf
    refine lv_aload_n hx hb dX8_premisesBy_424 rfl (lv_at hl 0 rfl) ?_
    refine r_gr X I fl_X8_77 h3 dX8_premisesBy_425 ?_
    refine lv_bipush (v := 40) hx hb dX8_premisesBy_428 (by decide) ?_
    refine lv_iload hx hb dX8_premisesBy_430 (lv_at hl 4 rfl) ?_
    refine lv_imul hx hb dX8_premisesBy_432 ?_
    refine lv_iload_n hx hb dX8_premisesBy_433 rfl (lv_at hl 1 rfl) ?_
    refine lv_iadd hx hb dX8_premisesBy_434 ?_
    refine r_bald X I h4 dX8_premisesBy_435 ?_
    rcases s_ite hf with ⟨c5, hf⟩ | ⟨c5, hf⟩
    · refine lv_if_eq (tgt := 453) hx hb dX8_premisesBy_436 (by decide) (fun _ => ?_) (fun n => absurd c5 n)
      cases hf
      have k : s_V G (d + 3) M_X8_premisesBy vs0 σ0 Y_X8_premisesBy (453, [.ref v0, .int v2, .int v3, .int v4, .int v5], σ) (e_I r) := k
      exact k.2 p e s m below meth c _ _ _ _ _ X I hn.1 hn.2 (lv_sub hl [0, 1, 2, 3, 4] rfl)
    · refine lv_if_eq (tgt := 453) hx hb dX8_premisesBy_436 (by decide) (fun n => absurd n c5) (fun _ => ?_)
      obtain ⟨q4, h6, hf⟩ := s_bind hf
      cases hf
      have k : s_V G (d + 3) M_X8_premisesBy vs0 σ0 Y_X8_premisesBy (453, [.ref v0, .int v2, .int v3, .int (if q4.1 < v4 then q4.1 else v4), .int v5], q4.2) (e_I r) := k
      have le7 : s_le q4.2 (e_I r).2 := k.1
      refine lv_iload hx hb dX8_premisesBy_439 (lv_at hl 3 rfl) ?_
      refine lv_aload_n hx hb dX8_premisesBy_441 rfl (lv_at hl 0 rfl) ?_
      refine lv_iload hx hb dX8_premisesBy_442 (lv_at hl 4 rfl) ?_
      refine lv_iload_n hx hb dX8_premisesBy_444 rfl (lv_at hl 2 rfl) ?_
      refine r_callV (Y := M_X8_costAt) (v := some (.int q4.1)) X I w_2249 my_X8_costAt (by omega) (t_X8_costAt (G := G) (d := d + 1) h6) (b_X8_costAt h6) rfl rfl hl.1 rfl (Nat.le_of_ble_eq_true rfl) hn le7 dX8_premisesBy_445 (fun H locs cells slots I hn1 hn2 => ?_)
      have I : s_I G q4.2 s H locs := I
      have hn : cells + σ0.2.1 ≤ q4.2.2.1 ∧ slots + σ0.2.2.1 ≤ q4.2.2.2.1 := ⟨hn1, hn2⟩
      refine r_mmin X w_2264 w_765 w_179 w_766 hl.1 (Nat.le_of_ble_eq_true rfl) hn le7 dX8_premisesBy_448 ?_
      refine lv_istore (lv' := [(4, .int (if q4.1 < v4 then q4.1 else v4)), (0, .ref v0), (2, .int v2), (3, .int v3), (5, .int v5)]) hx hb dX8_premisesBy_451 hl (by decide) rfl (fun ls hl => ?_)
      exact k.2 p e s m below meth c _ _ _ _ _ X I hn.1 hn.2 (lv_sub hl [1, 2, 3, 0, 4] rfl)
set_option maxRecDepth 100000 in
set_option maxHeartbeats 4000000 in
theorem v_X8_premisesBy_453 {G : sG} {d : Nat} {vs0 : List Value} {σ0 : sS} {v0 : Nat} {v2 : Int32} {v3 : Int32} {v4 : Int32} {v5 : Int32} {σ : sS} {z : sZ Int32} {r : Int32 × sS} (hf : T_X8_premisesBy_453 v0 v2 v3 v4 v5 σ = some z) (k : s_K G (d + 3) M_X8_premisesBy vs0 σ0 Y_X8_premisesBy e_I z r) : s_V G (d + 3) M_X8_premisesBy vs0 σ0 Y_X8_premisesBy (453, [.ref v0, .int v2, .int v3, .int v4, .int v5], σ) (e_I r) := by
  have le0 : s_le σ (e_I r).2 := s_lek hem_I (l_X8_premisesBy_453 hf) k
  refine ⟨le0, ?_⟩
  intro p e s m below meth c H locs cells slots ls X I hn1 hn2 hl
  have hn : cells + σ0.2.1 ≤ σ.2.1 ∧ slots + σ0.2.2.1 ≤ σ.2.2.1 := ⟨hn1, hn2⟩
  have hl : lv_has ls 6 [(0, .ref v0), (2, .int v2), (3, .int v3), (4, .int v4), (5, .int v5)] := hl
  have hx := X.1
  have hb : c.code = cX8_premisesBy := X.2.1
  have hown : s.vm.findClass RX8 = some m.cls := X.2.2.2.2.2.1
  have hts := X.2.2.2.2.2.2.1
  refine W.eq (g2 := F0 m 453 ls []) rfl ?_
  unfold T_X8_premisesBy_453 at hf
  cases hf
  have k : s_V G (d + 3) M_X8_premisesBy vs0 σ0 Y_X8_premisesBy (415, [.ref v0, .int v2, .int v3, .int v4, .int (v5 + 1)], σ) (e_I r) := k
  refine lv_iinc (v := (v5 + 1)) (lv' := [(5, .int (v5 + 1)), (0, .ref v0), (2, .int v2), (3, .int v3), (4, .int v4)]) hx hb dX8_premisesBy_453 hl (k := 4) rfl rfl (by decide) rfl (fun ls hl => ?_)
  refine lv_goto (tgt := 415) hx hb dX8_premisesBy_456 (by decide) ?_
  exact k.2 p e s m below meth c _ _ _ _ _ X I hn.1 hn.2 (lv_sub hl [1, 2, 3, 4, 0] rfl)
set_option maxRecDepth 100000 in
set_option maxHeartbeats 4000000 in
theorem v_X8_premisesBy_465 {G : sG} {d : Nat} {vs0 : List Value} {σ0 : sS} {v0 : Nat} {v2 : Int32} {v3 : Int32} {v4 : Int32} {v5 : Int32} {σ : sS} {z : sZ Int32} {r : Int32 × sS} (hf : T_X8_premisesBy_465 v0 v2 v3 v4 v5 σ = some z) (k : s_K G (d + 3) M_X8_premisesBy vs0 σ0 Y_X8_premisesBy e_I z r) : s_V G (d + 3) M_X8_premisesBy vs0 σ0 Y_X8_premisesBy (465, [.ref v0, .int v2, .int v3, .int v4, .int v5], σ) (e_I r) := by
  have le0 : s_le σ (e_I r).2 := s_lek hem_I (l_X8_premisesBy_465 hf) k
  refine ⟨le0, ?_⟩
  intro p e s m below meth c H locs cells slots ls X I hn1 hn2 hl
  have hn : cells + σ0.2.1 ≤ σ.2.1 ∧ slots + σ0.2.2.1 ≤ σ.2.2.1 := ⟨hn1, hn2⟩
  have hl : lv_has ls 6 [(0, .ref v0), (2, .int v2), (3, .int v3), (4, .int v4), (5, .int v5)] := hl
  have hx := X.1
  have hb : c.code = cX8_premisesBy := X.2.1
  have hown : s.vm.findClass RX8 = some m.cls := X.2.2.2.2.2.1
  have hts := X.2.2.2.2.2.2.1
  refine W.eq (g2 := F0 m 465 ls []) rfl ?_
  unfold T_X8_premisesBy_465 at hf
  obtain ⟨x1, h1, hf⟩ := s_bind hf
  refine lv_iload hx hb dX8_premisesBy_465 (lv_at hl 4 rfl) ?_
  refine lv_aload_n hx hb dX8_premisesBy_467 rfl (lv_at hl 0 rfl) ?_
  refine r_gi X I fl_X8_360 h1 dX8_premisesBy_468 ?_
  rcases s_ite hf with ⟨c2, hf⟩ | ⟨c2, hf⟩
  · refine lv_icmp_ge (tgt := 534) hx hb dX8_premisesBy_471 (by decide) (fun _ => ?_) (fun n => absurd c2 n)
    cases hf
    have k : _ = r := k
    subst k
    refine lv_iload hx hb dX8_premisesBy_534 (lv_at hl 3 rfl) ?_
    exact r_iret X I rfl rfl rfl hn dX8_premisesBy_536
  · refine lv_icmp_ge (tgt := 534) hx hb dX8_premisesBy_471 (by decide) (fun n => absurd n c2) (fun _ => ?_)
    obtain ⟨q2, h3, hf⟩ := s_bind hf
    obtain ⟨x3, h4, hf⟩ := s_bind hf
    obtain ⟨x4, h5, hf⟩ := s_bind hf
    obtain ⟨q5, h6, hf⟩ := s_bind hf
    obtain ⟨x6, h7, hf⟩ := s_bind hf
    obtain ⟨x7, h8, hf⟩ := s_bind hf
    obtain ⟨q8, h9, hf⟩ := s_bind hf
    obtain ⟨q9, h10, hf⟩ := s_bind hf
    obtain ⟨q10, h11, hf⟩ := s_bind hf
    cases hf
    have k : s_V G (d + 3) M_X8_premisesBy vs0 σ0 Y_X8_premisesBy (465, [.ref v0, .int v2, .int v3, .int (if q10.1 < v4 then q10.1 else v4), .int (v5 + 1)], q10.2) (e_I r) := k
    have le12 : s_le q10.2 (e_I r).2 := k.1
    have le13 := s_le.tr (l_X8_sum h11) le12
    have le14 := s_le.tr (l_X8_sum h10) le13
    have le15 := s_le.tr (l_X8_costAt h9) le14
    have le16 := s_le.tr (l_X8_costAt h6) le15
    refine lv_iload hx hb dX8_premisesBy_474 (lv_at hl 3 rfl) ?_
    refine lv_aload_n hx hb dX8_premisesBy_476 rfl (lv_at hl 0 rfl) ?_
    refine lv_iload hx hb dX8_premisesBy_477 (lv_at hl 4 rfl) ?_
    refine lv_iload_n hx hb dX8_premisesBy_479 rfl (lv_at hl 2 rfl) ?_
    refine r_callV (Y := M_X8_costAt) (v := some (.int q2.1)) X I w_2249 my_X8_costAt (by omega) (t_X8_costAt (G := G) (d := d + 1) h3) (b_X8_costAt h3) rfl rfl hl.1 rfl (Nat.le_of_ble_eq_true rfl) hn le16 dX8_premisesBy_480 (fun H locs cells slots I hn1 hn2 => ?_)
    have I : s_I G q2.2 s H locs := I
    have hn : cells + σ0.2.1 ≤ q2.2.2.1 ∧ slots + σ0.2.2.1 ≤ q2.2.2.2.1 := ⟨hn1, hn2⟩
    refine lv_aload_n hx hb dX8_premisesBy_483 rfl (lv_at hl 0 rfl) ?_
    refine lv_aload_n hx hb dX8_premisesBy_484 rfl (lv_at hl 0 rfl) ?_
    refine r_gr X I fl_X8_80 h4 dX8_premisesBy_485 ?_
    refine lv_bipush (v := 40) hx hb dX8_premisesBy_488 (by decide) ?_
    refine lv_iload hx hb dX8_premisesBy_490 (lv_at hl 4 rfl) ?_
    refine lv_imul hx hb dX8_premisesBy_492 ?_
    refine lv_iload_n hx hb dX8_premisesBy_493 rfl (lv_at hl 1 rfl) ?_
    refine lv_iadd hx hb dX8_premisesBy_494 ?_
    refine r_iald X I h5 dX8_premisesBy_495 ?_
    refine lv_iload_n hx hb dX8_premisesBy_496 rfl (lv_at hl 2 rfl) ?_
    refine r_callV (Y := M_X8_costAt) (v := some (.int q5.1)) X I w_2249 my_X8_costAt (by omega) (t_X8_costAt (G := G) (d := d + 1) h6) (b_X8_costAt h6) rfl rfl hl.1 rfl (Nat.le_of_ble_eq_true rfl) hn le15 dX8_premisesBy_497 (fun H locs cells slots I hn1 hn2 => ?_)
    have I : s_I G q5.2 s H locs := I
    have hn : cells + σ0.2.1 ≤ q5.2.2.1 ∧ slots + σ0.2.2.1 ≤ q5.2.2.2.1 := ⟨hn1, hn2⟩
    refine lv_aload_n hx hb dX8_premisesBy_500 rfl (lv_at hl 0 rfl) ?_
    refine lv_aload_n hx hb dX8_premisesBy_501 rfl (lv_at hl 0 rfl) ?_
    refine r_gr X I fl_X8_83 h7 dX8_premisesBy_502 ?_
    refine lv_bipush (v := 40) hx hb dX8_premisesBy_505 (by decide) ?_
    refine lv_iload hx hb dX8_premisesBy_507 (lv_at hl 4 rfl) ?_
    refine lv_imul hx hb dX8_premisesBy_509 ?_
    refine lv_iload_n hx hb dX8_premisesBy_510 rfl (lv_at hl 1 rfl) ?_
    refine lv_iadd hx hb dX8_premisesBy_511 ?_
    refine r_iald X I h8 dX8_premisesBy_512 ?_
    refine lv_iload_n hx hb dX8_premisesBy_513 rfl (lv_at hl 2 rfl) ?_
    refine r_callV (Y := M_X8_costAt) (v := some (.int q8.1)) X I w_2249 my_X8_costAt (by omega) (t_X8_costAt (G := G) (d := d + 1) h9) (b_X8_costAt h9) rfl rfl hl.1 rfl (Nat.le_of_ble_eq_true rfl) hn le14 dX8_premisesBy_514 (fun H locs cells slots I hn1 hn2 => ?_)
    have I : s_I G q8.2 s H locs := I
    have hn : cells + σ0.2.1 ≤ q8.2.2.1 ∧ slots + σ0.2.2.1 ≤ q8.2.2.2.1 := ⟨hn1, hn2⟩
    refine r_callS (Y := M_X8_sum) (v := some (.int q9.1)) X I w_2261 my_X8_sum (by omega) (t_X8_sum (G := G) (d := d + 1) h10) rfl rfl hl.1 rfl (Nat.le_of_ble_eq_true rfl) hn le13 dX8_premisesBy_517 (fun H locs cells slots I hn1 hn2 => ?_)
    have I : s_I G q9.2 s H locs := I
    have hn : cells + σ0.2.1 ≤ q9.2.2.1 ∧ slots + σ0.2.2.1 ≤ q9.2.2.2.1 := ⟨hn1, hn2⟩
    refine r_callS (Y := M_X8_sum) (v := some (.int q10.1)) X I w_2261 my_X8_sum (by omega) (t_X8_sum (G := G) (d := d + 1) h11) rfl rfl hl.1 rfl (Nat.le_of_ble_eq_true rfl) hn le12 dX8_premisesBy_520 (fun H locs cells slots I hn1 hn2 => ?_)
    have I : s_I G q10.2 s H locs := I
    have hn : cells + σ0.2.1 ≤ q10.2.2.1 ∧ slots + σ0.2.2.1 ≤ q10.2.2.2.1 := ⟨hn1, hn2⟩
    refine r_mmin X w_2264 w_765 w_179 w_766 hl.1 (Nat.le_of_ble_eq_true rfl) hn le12 dX8_premisesBy_523 ?_
    refine lv_istore (lv' := [(4, .int (if q10.1 < v4 then q10.1 else v4)), (0, .ref v0), (2, .int v2), (3, .int v3), (5, .int v5)]) hx hb dX8_premisesBy_526 hl (by decide) rfl (fun ls hl => ?_)
    refine lv_iinc (v := (v5 + 1)) (lv' := [(5, .int (v5 + 1)), (4, .int (if q10.1 < v4 then q10.1 else v4)), (0, .ref v0), (2, .int v2), (3, .int v3)]) hx hb dX8_premisesBy_528 hl (k := 4) rfl rfl (by decide) rfl (fun ls hl => ?_)
    refine lv_goto (tgt := 465) hx hb dX8_premisesBy_531 (by decide) ?_
    exact k.2 p e s m below meth c _ _ _ _ _ X I hn.1 hn.2 (lv_sub hl [2, 3, 4, 1, 0] rfl)
set_option maxRecDepth 100000 in
set_option maxHeartbeats 4000000 in
theorem v_X8_premisesBy_547 {G : sG} {d : Nat} {vs0 : List Value} {σ0 : sS} {v0 : Nat} {v2 : Int32} {v3 : Int32} {v4 : Int32} {v5 : Int32} {σ : sS} {z : sZ Int32} {r : Int32 × sS} (hf : T_X8_premisesBy_547 v0 v2 v3 v4 v5 σ = some z) (k : s_K G (d + 3) M_X8_premisesBy vs0 σ0 Y_X8_premisesBy e_I z r) : s_V G (d + 3) M_X8_premisesBy vs0 σ0 Y_X8_premisesBy (547, [.ref v0, .int v2, .int v3, .int v4, .int v5], σ) (e_I r) := by
  have le0 : s_le σ (e_I r).2 := s_lek hem_I (l_X8_premisesBy_547 hf) k
  refine ⟨le0, ?_⟩
  intro p e s m below meth c H locs cells slots ls X I hn1 hn2 hl
  have hn : cells + σ0.2.1 ≤ σ.2.1 ∧ slots + σ0.2.2.1 ≤ σ.2.2.1 := ⟨hn1, hn2⟩
  have hl : lv_has ls 6 [(0, .ref v0), (2, .int v2), (3, .int v3), (4, .int v4), (5, .int v5)] := hl
  have hx := X.1
  have hb : c.code = cX8_premisesBy := X.2.1
  have hown : s.vm.findClass RX8 = some m.cls := X.2.2.2.2.2.1
  have hts := X.2.2.2.2.2.2.1
  refine W.eq (g2 := F0 m 547 ls []) rfl ?_
  unfold T_X8_premisesBy_547 at hf
  obtain ⟨x1, h1, hf⟩ := s_bind hf
  refine lv_iload hx hb dX8_premisesBy_547 (lv_at hl 4 rfl) ?_
  refine lv_aload_n hx hb dX8_premisesBy_549 rfl (lv_at hl 0 rfl) ?_
  refine r_gi X I fl_X8_360 h1 dX8_premisesBy_550 ?_
  rcases s_ite hf with ⟨c2, hf⟩ | ⟨c2, hf⟩
  · refine lv_icmp_ge (tgt := 591) hx hb dX8_premisesBy_553 (by decide) (fun _ => ?_) (fun n => absurd c2 n)
    cases hf
    have k : _ = r := k
    subst k
    refine lv_iload hx hb dX8_premisesBy_591 (lv_at hl 3 rfl) ?_
    exact r_iret X I rfl rfl rfl hn dX8_premisesBy_593
  · refine lv_icmp_ge (tgt := 591) hx hb dX8_premisesBy_553 (by decide) (fun n => absurd n c2) (fun _ => ?_)
    obtain ⟨x2, h3, hf⟩ := s_bind hf
    obtain ⟨x3, h4, hf⟩ := s_bind hf
    refine lv_aload_n hx hb dX8_premisesBy_556 rfl (lv_at hl 0 rfl) ?_
    refine r_gr X I fl_X8_74 h3 dX8_premisesBy_557 ?_
    refine lv_bipush (v := 40) hx hb dX8_premisesBy_560 (by decide) ?_
    refine lv_iload hx hb dX8_premisesBy_562 (lv_at hl 4 rfl) ?_
    refine lv_imul hx hb dX8_premisesBy_564 ?_
    refine lv_iload_n hx hb dX8_premisesBy_565 rfl (lv_at hl 1 rfl) ?_
    refine lv_iadd hx hb dX8_premisesBy_566 ?_
    refine r_bald X I h4 dX8_premisesBy_567 ?_
    rcases s_ite hf with ⟨c5, hf⟩ | ⟨c5, hf⟩
    · refine lv_if_eq (tgt := 585) hx hb dX8_premisesBy_568 (by decide) (fun _ => ?_) (fun n => absurd c5 n)
      cases hf
      have k : s_V G (d + 3) M_X8_premisesBy vs0 σ0 Y_X8_premisesBy (585, [.ref v0, .int v2, .int v3, .int v4, .int v5], σ) (e_I r) := k
      exact k.2 p e s m below meth c _ _ _ _ _ X I hn.1 hn.2 (lv_sub hl [0, 1, 2, 3, 4] rfl)
    · refine lv_if_eq (tgt := 585) hx hb dX8_premisesBy_568 (by decide) (fun n => absurd n c5) (fun _ => ?_)
      obtain ⟨q4, h6, hf⟩ := s_bind hf
      cases hf
      have k : s_V G (d + 3) M_X8_premisesBy vs0 σ0 Y_X8_premisesBy (585, [.ref v0, .int v2, .int v3, .int (if q4.1 < v4 then q4.1 else v4), .int v5], q4.2) (e_I r) := k
      have le7 : s_le q4.2 (e_I r).2 := k.1
      refine lv_iload hx hb dX8_premisesBy_571 (lv_at hl 3 rfl) ?_
      refine lv_aload_n hx hb dX8_premisesBy_573 rfl (lv_at hl 0 rfl) ?_
      refine lv_iload hx hb dX8_premisesBy_574 (lv_at hl 4 rfl) ?_
      refine lv_iload_n hx hb dX8_premisesBy_576 rfl (lv_at hl 2 rfl) ?_
      refine r_callV (Y := M_X8_costAt) (v := some (.int q4.1)) X I w_2249 my_X8_costAt (by omega) (t_X8_costAt (G := G) (d := d + 1) h6) (b_X8_costAt h6) rfl rfl hl.1 rfl (Nat.le_of_ble_eq_true rfl) hn le7 dX8_premisesBy_577 (fun H locs cells slots I hn1 hn2 => ?_)
      have I : s_I G q4.2 s H locs := I
      have hn : cells + σ0.2.1 ≤ q4.2.2.1 ∧ slots + σ0.2.2.1 ≤ q4.2.2.2.1 := ⟨hn1, hn2⟩
      refine r_mmin X w_2264 w_765 w_179 w_766 hl.1 (Nat.le_of_ble_eq_true rfl) hn le7 dX8_premisesBy_580 ?_
      refine lv_istore (lv' := [(4, .int (if q4.1 < v4 then q4.1 else v4)), (0, .ref v0), (2, .int v2), (3, .int v3), (5, .int v5)]) hx hb dX8_premisesBy_583 hl (by decide) rfl (fun ls hl => ?_)
      exact k.2 p e s m below meth c _ _ _ _ _ X I hn.1 hn.2 (lv_sub hl [1, 2, 3, 0, 4] rfl)
set_option maxRecDepth 100000 in
set_option maxHeartbeats 4000000 in
theorem v_X8_premisesBy_585 {G : sG} {d : Nat} {vs0 : List Value} {σ0 : sS} {v0 : Nat} {v2 : Int32} {v3 : Int32} {v4 : Int32} {v5 : Int32} {σ : sS} {z : sZ Int32} {r : Int32 × sS} (hf : T_X8_premisesBy_585 v0 v2 v3 v4 v5 σ = some z) (k : s_K G (d + 3) M_X8_premisesBy vs0 σ0 Y_X8_premisesBy e_I z r) : s_V G (d + 3) M_X8_premisesBy vs0 σ0 Y_X8_premisesBy (585, [.ref v0, .int v2, .int v3, .int v4, .int v5], σ) (e_I r) := by
  have le0 : s_le σ (e_I r).2 := s_lek hem_I (l_X8_premisesBy_585 hf) k
  refine ⟨le0, ?_⟩
  intro p e s m below meth c H locs cells slots ls X I hn1 hn2 hl
  have hn : cells + σ0.2.1 ≤ σ.2.1 ∧ slots + σ0.2.2.1 ≤ σ.2.2.1 := ⟨hn1, hn2⟩
  have hl : lv_has ls 6 [(0, .ref v0), (2, .int v2), (3, .int v3), (4, .int v4), (5, .int v5)] := hl
  have hx := X.1
  have hb : c.code = cX8_premisesBy := X.2.1
  have hown : s.vm.findClass RX8 = some m.cls := X.2.2.2.2.2.1
  have hts := X.2.2.2.2.2.2.1
  refine W.eq (g2 := F0 m 585 ls []) rfl ?_
  unfold T_X8_premisesBy_585 at hf
  cases hf
  have k : s_V G (d + 3) M_X8_premisesBy vs0 σ0 Y_X8_premisesBy (547, [.ref v0, .int v2, .int v3, .int v4, .int (v5 + 1)], σ) (e_I r) := k
  refine lv_iinc (v := (v5 + 1)) (lv' := [(5, .int (v5 + 1)), (0, .ref v0), (2, .int v2), (3, .int v3), (4, .int v4)]) hx hb dX8_premisesBy_585 hl (k := 4) rfl rfl (by decide) rfl (fun ls hl => ?_)
  refine lv_goto (tgt := 547) hx hb dX8_premisesBy_588 (by decide) ?_
  exact k.2 p e s m below meth c _ _ _ _ _ X I hn.1 hn.2 (lv_sub hl [1, 2, 3, 4, 0] rfl)
set_option maxRecDepth 100000 in
set_option maxHeartbeats 4000000 in
theorem v_X8_premisesBy_615 {G : sG} {d : Nat} {vs0 : List Value} {σ0 : sS} {v0 : Nat} {v2 : Int32} {v3 : Int32} {v4 : Int32} {v5 : Int32} {σ : sS} {z : sZ Int32} {r : Int32 × sS} (hf : T_X8_premisesBy_615 v0 v2 v3 v4 v5 σ = some z) (k : s_K G (d + 3) M_X8_premisesBy vs0 σ0 Y_X8_premisesBy e_I z r) : s_V G (d + 3) M_X8_premisesBy vs0 σ0 Y_X8_premisesBy (615, [.ref v0, .int v2, .int v3, .int v4, .int v5], σ) (e_I r) := by
  have le0 : s_le σ (e_I r).2 := s_lek hem_I (l_X8_premisesBy_615 hf) k
  refine ⟨le0, ?_⟩
  intro p e s m below meth c H locs cells slots ls X I hn1 hn2 hl
  have hn : cells + σ0.2.1 ≤ σ.2.1 ∧ slots + σ0.2.2.1 ≤ σ.2.2.1 := ⟨hn1, hn2⟩
  have hl : lv_has ls 6 [(0, .ref v0), (2, .int v2), (3, .int v3), (4, .int v4), (5, .int v5)] := hl
  have hx := X.1
  have hb : c.code = cX8_premisesBy := X.2.1
  have hown : s.vm.findClass RX8 = some m.cls := X.2.2.2.2.2.1
  have hts := X.2.2.2.2.2.2.1
  refine W.eq (g2 := F0 m 615 ls []) rfl ?_
  unfold T_X8_premisesBy_615 at hf
  obtain ⟨q1, h1, hf⟩ := s_bind hf
  have le2 : s_le q1.2 (e_I r).2 := by
    refine s_lek hem_I ?_ k
    rcases s_ite hf with ⟨-, hf⟩ | ⟨-, hf⟩
    · cases hf
      exact s_le.rf
    · obtain ⟨x2, -, hf⟩ := s_bind hf
      obtain ⟨x3, -, hf⟩ := s_bind hf
      obtain ⟨q4, hh, hf⟩ := s_bind hf
      refine s_lz.tr (l_X8_costAt hh) ?_
      obtain ⟨q5, hh, hf⟩ := s_bind hf
      refine s_lz.tr (l_X8_sum hh) ?_
      cases hf
      exact s_le.rf
  refine lv_iload hx hb dX8_premisesBy_615 (lv_at hl 4 rfl) ?_
  refine lv_aload_n hx hb dX8_premisesBy_617 rfl (lv_at hl 0 rfl) ?_
  refine r_callV (Y := M_X8_d) (v := some (.int q1.1)) X I w_1889 my_X8_d (by omega) (t_X8_d (G := G) (d := d + 1) h1) (b_X8_d h1) rfl rfl hl.1 rfl (Nat.le_of_ble_eq_true rfl) hn le2 dX8_premisesBy_618 (fun H locs cells slots I hn1 hn2 => ?_)
  have I : s_I G q1.2 s H locs := I
  have hn : cells + σ0.2.1 ≤ q1.2.2.1 ∧ slots + σ0.2.2.1 ≤ q1.2.2.2.1 := ⟨hn1, hn2⟩
  rcases s_ite hf with ⟨c3, hf⟩ | ⟨c3, hf⟩
  · refine lv_icmp_ge (tgt := 653) hx hb dX8_premisesBy_621 (by decide) (fun _ => ?_) (fun n => absurd c3 n)
    cases hf
    have k : _ = r := k
    subst k
    refine lv_iload hx hb dX8_premisesBy_653 (lv_at hl 3 rfl) ?_
    exact r_iret X I rfl rfl rfl hn dX8_premisesBy_655
  · refine lv_icmp_ge (tgt := 653) hx hb dX8_premisesBy_621 (by decide) (fun n => absurd n c3) (fun _ => ?_)
    obtain ⟨x2, h4, hf⟩ := s_bind hf
    obtain ⟨x3, h5, hf⟩ := s_bind hf
    obtain ⟨q4, h6, hf⟩ := s_bind hf
    obtain ⟨q5, h7, hf⟩ := s_bind hf
    cases hf
    have k : s_V G (d + 3) M_X8_premisesBy vs0 σ0 Y_X8_premisesBy (615, [.ref v0, .int v2, .int v3, .int q5.1, .int (v5 + 1)], q5.2) (e_I r) := k
    have le8 : s_le q5.2 (e_I r).2 := k.1
    have le9 := s_le.tr (l_X8_sum h7) le8
    refine lv_iload hx hb dX8_premisesBy_624 (lv_at hl 3 rfl) ?_
    refine lv_aload_n hx hb dX8_premisesBy_626 rfl (lv_at hl 0 rfl) ?_
    refine lv_aload_n hx hb dX8_premisesBy_627 rfl (lv_at hl 0 rfl) ?_
    refine r_gr X I fl_X8_68 h4 dX8_premisesBy_628 ?_
    refine lv_iconst (v := 3) hx hb dX8_premisesBy_631 (by decide) ?_
    refine lv_iload_n hx hb dX8_premisesBy_632 rfl (lv_at hl 1 rfl) ?_
    refine lv_imul hx hb dX8_premisesBy_633 ?_
    refine lv_iload hx hb dX8_premisesBy_634 (lv_at hl 4 rfl) ?_
    refine lv_iadd hx hb dX8_premisesBy_636 ?_
    refine r_iald X I h5 dX8_premisesBy_637 ?_
    refine lv_iload_n hx hb dX8_premisesBy_638 rfl (lv_at hl 2 rfl) ?_
    refine r_callV (Y := M_X8_costAt) (v := some (.int q4.1)) X I w_2249 my_X8_costAt (by omega) (t_X8_costAt (G := G) (d := d + 1) h6) (b_X8_costAt h6) rfl rfl hl.1 rfl (Nat.le_of_ble_eq_true rfl) hn le9 dX8_premisesBy_639 (fun H locs cells slots I hn1 hn2 => ?_)
    have I : s_I G q4.2 s H locs := I
    have hn : cells + σ0.2.1 ≤ q4.2.2.1 ∧ slots + σ0.2.2.1 ≤ q4.2.2.2.1 := ⟨hn1, hn2⟩
    refine r_callS (Y := M_X8_sum) (v := some (.int q5.1)) X I w_2261 my_X8_sum (by omega) (t_X8_sum (G := G) (d := d + 1) h7) rfl rfl hl.1 rfl (Nat.le_of_ble_eq_true rfl) hn le8 dX8_premisesBy_642 (fun H locs cells slots I hn1 hn2 => ?_)
    have I : s_I G q5.2 s H locs := I
    have hn : cells + σ0.2.1 ≤ q5.2.2.1 ∧ slots + σ0.2.2.1 ≤ q5.2.2.2.1 := ⟨hn1, hn2⟩
    refine lv_istore (lv' := [(4, .int q5.1), (0, .ref v0), (2, .int v2), (3, .int v3), (5, .int v5)]) hx hb dX8_premisesBy_645 hl (by decide) rfl (fun ls hl => ?_)
    refine lv_iinc (v := (v5 + 1)) (lv' := [(5, .int (v5 + 1)), (4, .int q5.1), (0, .ref v0), (2, .int v2), (3, .int v3)]) hx hb dX8_premisesBy_647 hl (k := 4) rfl rfl (by decide) rfl (fun ls hl => ?_)
    refine lv_goto (tgt := 615) hx hb dX8_premisesBy_650 (by decide) ?_
    exact k.2 p e s m below meth c _ _ _ _ _ X I hn.1 hn.2 (lv_sub hl [2, 3, 4, 1, 0] rfl)
set_option maxRecDepth 100000 in
set_option maxHeartbeats 4000000 in
theorem v_X8_premisesBy_659 {G : sG} {d : Nat} {vs0 : List Value} {σ0 : sS} {v0 : Nat} {v2 : Int32} {v3 : Int32} {v4 : Int32} {v5 : Int32} {σ : sS} {z : sZ Int32} {r : Int32 × sS} (hf : T_X8_premisesBy_659 v0 v2 v3 v4 v5 σ = some z) (k : s_K G (d + 3) M_X8_premisesBy vs0 σ0 Y_X8_premisesBy e_I z r) : s_V G (d + 3) M_X8_premisesBy vs0 σ0 Y_X8_premisesBy (659, [.ref v0, .int v2, .int v3, .int v4, .int v5], σ) (e_I r) := by
  have le0 : s_le σ (e_I r).2 := s_lek hem_I (l_X8_premisesBy_659 hf) k
  refine ⟨le0, ?_⟩
  intro p e s m below meth c H locs cells slots ls X I hn1 hn2 hl
  have hn : cells + σ0.2.1 ≤ σ.2.1 ∧ slots + σ0.2.2.1 ≤ σ.2.2.1 := ⟨hn1, hn2⟩
  have hl : lv_has ls 6 [(0, .ref v0), (2, .int v2), (3, .int v3), (4, .int v4), (5, .int v5)] := hl
  have hx := X.1
  have hb : c.code = cX8_premisesBy := X.2.1
  have hown : s.vm.findClass RX8 = some m.cls := X.2.2.2.2.2.1
  have hts := X.2.2.2.2.2.2.1
  refine W.eq (g2 := F0 m 659 ls []) rfl ?_
  unfold T_X8_premisesBy_659 at hf
  obtain ⟨q1, h1, hf⟩ := s_bind hf
  have le2 : s_le q1.2 (e_I r).2 := by
    refine s_lek hem_I ?_ k
    rcases s_ite hf with ⟨-, hf⟩ | ⟨-, hf⟩
    · cases hf
      exact s_le.rf
    · obtain ⟨x2, -, hf⟩ := s_bind hf
      obtain ⟨x3, -, hf⟩ := s_bind hf
      rcases s_ite hf with ⟨-, hf⟩ | ⟨-, hf⟩
      · obtain ⟨x4, -, hf⟩ := s_bind hf
        obtain ⟨x5, -, hf⟩ := s_bind hf
        obtain ⟨q6, hh, hf⟩ := s_bind hf
        refine s_lz.tr (l_X8_costAt hh) ?_
        cases hf
        exact s_le.rf
      · cases hf
        exact s_le.rf
  refine lv_iload hx hb dX8_premisesBy_659 (lv_at hl 4 rfl) ?_
  refine lv_aload_n hx hb dX8_premisesBy_661 rfl (lv_at hl 0 rfl) ?_
  refine r_callV (Y := M_X8_d) (v := some (.int q1.1)) X I w_1889 my_X8_d (by omega) (t_X8_d (G := G) (d := d + 1) h1) (b_X8_d h1) rfl rfl hl.1 rfl (Nat.le_of_ble_eq_true rfl) hn le2 dX8_premisesBy_662 (fun H locs cells slots I hn1 hn2 => ?_)
  have I : s_I G q1.2 s H locs := I
  have hn : cells + σ0.2.1 ≤ q1.2.2.1 ∧ slots + σ0.2.2.1 ≤ q1.2.2.2.1 := ⟨hn1, hn2⟩
  rcases s_ite hf with ⟨c3, hf⟩ | ⟨c3, hf⟩
  · refine lv_icmp_ge (tgt := 708) hx hb dX8_premisesBy_665 (by decide) (fun _ => ?_) (fun n => absurd c3 n)
    cases hf
    have k : _ = r := k
    subst k
    refine lv_iload hx hb dX8_premisesBy_708 (lv_at hl 3 rfl) ?_
    exact r_iret X I rfl rfl rfl hn dX8_premisesBy_710
  · refine lv_icmp_ge (tgt := 708) hx hb dX8_premisesBy_665 (by decide) (fun n => absurd n c3) (fun _ => ?_)
    obtain ⟨x2, h4, hf⟩ := s_bind hf
    obtain ⟨x3, h5, hf⟩ := s_bind hf
    refine lv_aload_n hx hb dX8_premisesBy_668 rfl (lv_at hl 0 rfl) ?_
    refine r_gr X I fl_X8_59 h4 dX8_premisesBy_669 ?_
    refine lv_iload_n hx hb dX8_premisesBy_672 rfl (lv_at hl 1 rfl) ?_
    refine r_iald X I h5 dX8_premisesBy_673 ?_
    refine lv_bipush (v := 17) hx hb dX8_premisesBy_674 (by decide) ?_
    rcases s_ite hf with ⟨c6, hf⟩ | ⟨c6, hf⟩
    · refine lv_icmp_ne (tgt := 708) hx hb dX8_premisesBy_676 (by decide) (fun n => absurd c6 n) (fun _ => ?_)
      obtain ⟨x4, h7, hf⟩ := s_bind hf
      obtain ⟨x5, h8, hf⟩ := s_bind hf
      obtain ⟨q6, h9, hf⟩ := s_bind hf
      cases hf
      have k : s_V G (d + 3) M_X8_premisesBy vs0 σ0 Y_X8_premisesBy (659, [.ref v0, .int v2, .int v3, .int (if q6.1 < v4 then q6.1 else v4), .int (v5 + 1)], q6.2) (e_I r) := k
      have le10 : s_le q6.2 (e_I r).2 := k.1
      refine lv_iload hx hb dX8_premisesBy_679 (lv_at hl 3 rfl) ?_
      refine lv_aload_n hx hb dX8_premisesBy_681 rfl (lv_at hl 0 rfl) ?_
      refine lv_aload_n hx hb dX8_premisesBy_682 rfl (lv_at hl 0 rfl) ?_
      refine r_gr X I fl_X8_68 h7 dX8_premisesBy_683 ?_
      refine lv_iconst (v := 3) hx hb dX8_premisesBy_686 (by decide) ?_
      refine lv_iload_n hx hb dX8_premisesBy_687 rfl (lv_at hl 1 rfl) ?_
      refine lv_imul hx hb dX8_premisesBy_688 ?_
      refine lv_iload hx hb dX8_premisesBy_689 (lv_at hl 4 rfl) ?_
      refine lv_iadd hx hb dX8_premisesBy_691 ?_
      refine r_iald X I h8 dX8_premisesBy_692 ?_
      refine lv_iload_n hx hb dX8_premisesBy_693 rfl (lv_at hl 2 rfl) ?_
      refine r_callV (Y := M_X8_costAt) (v := some (.int q6.1)) X I w_2249 my_X8_costAt (by omega) (t_X8_costAt (G := G) (d := d + 1) h9) (b_X8_costAt h9) rfl rfl hl.1 rfl (Nat.le_of_ble_eq_true rfl) hn le10 dX8_premisesBy_694 (fun H locs cells slots I hn1 hn2 => ?_)
      have I : s_I G q6.2 s H locs := I
      have hn : cells + σ0.2.1 ≤ q6.2.2.1 ∧ slots + σ0.2.2.1 ≤ q6.2.2.2.1 := ⟨hn1, hn2⟩
      refine r_mmin X w_2264 w_765 w_179 w_766 hl.1 (Nat.le_of_ble_eq_true rfl) hn le10 dX8_premisesBy_697 ?_
      refine lv_istore (lv' := [(4, .int (if q6.1 < v4 then q6.1 else v4)), (0, .ref v0), (2, .int v2), (3, .int v3), (5, .int v5)]) hx hb dX8_premisesBy_700 hl (by decide) rfl (fun ls hl => ?_)
      refine lv_iinc (v := (v5 + 1)) (lv' := [(5, .int (v5 + 1)), (4, .int (if q6.1 < v4 then q6.1 else v4)), (0, .ref v0), (2, .int v2), (3, .int v3)]) hx hb dX8_premisesBy_702 hl (k := 4) rfl rfl (by decide) rfl (fun ls hl => ?_)
      refine lv_goto (tgt := 659) hx hb dX8_premisesBy_705 (by decide) ?_
      exact k.2 p e s m below meth c _ _ _ _ _ X I hn.1 hn.2 (lv_sub hl [2, 3, 4, 1, 0] rfl)
    · refine lv_icmp_ne (tgt := 708) hx hb dX8_premisesBy_676 (by decide) (fun _ => ?_) (fun n => absurd n c6)
      cases hf
      have k : _ = r := k
      subst k
      refine lv_iload hx hb dX8_premisesBy_708 (lv_at hl 3 rfl) ?_
      exact r_iret X I rfl rfl rfl hn dX8_premisesBy_710
set_option maxRecDepth 100000 in
set_option maxHeartbeats 4000000 in
theorem v_X8_premisesBy_714 {G : sG} {d : Nat} {vs0 : List Value} {σ0 : sS} {v0 : Nat} {v3 : Int32} {v4 : Int32} {v5 : Int32} {σ : sS} {z : sZ Int32} {r : Int32 × sS} (hf : T_X8_premisesBy_714 v0 v3 v4 v5 σ = some z) (k : s_K G (d + 3) M_X8_premisesBy vs0 σ0 Y_X8_premisesBy e_I z r) : s_V G (d + 3) M_X8_premisesBy vs0 σ0 Y_X8_premisesBy (714, [.ref v0, .int v3, .int v4, .int v5], σ) (e_I r) := by
  have le0 : s_le σ (e_I r).2 := s_lek hem_I (l_X8_premisesBy_714 hf) k
  refine ⟨le0, ?_⟩
  intro p e s m below meth c H locs cells slots ls X I hn1 hn2 hl
  have hn : cells + σ0.2.1 ≤ σ.2.1 ∧ slots + σ0.2.2.1 ≤ σ.2.2.1 := ⟨hn1, hn2⟩
  have hl : lv_has ls 6 [(0, .ref v0), (3, .int v3), (4, .int v4), (5, .int v5)] := hl
  have hx := X.1
  have hb : c.code = cX8_premisesBy := X.2.1
  have hown : s.vm.findClass RX8 = some m.cls := X.2.2.2.2.2.1
  have hts := X.2.2.2.2.2.2.1
  refine W.eq (g2 := F0 m 714 ls []) rfl ?_
  unfold T_X8_premisesBy_714 at hf
  obtain ⟨x1, h1, hf⟩ := s_bind hf
  refine lv_iload hx hb dX8_premisesBy_714 (lv_at hl 3 rfl) ?_
  refine lv_aload_n hx hb dX8_premisesBy_716 rfl (lv_at hl 0 rfl) ?_
  refine r_gi X I fl_X8_360 h1 dX8_premisesBy_717 ?_
  rcases s_ite hf with ⟨c2, hf⟩ | ⟨c2, hf⟩
  · refine lv_icmp_ge (tgt := 770) hx hb dX8_premisesBy_720 (by decide) (fun _ => ?_) (fun n => absurd c2 n)
    cases hf
    have k : _ = r := k
    subst k
    refine lv_iload hx hb dX8_premisesBy_770 (lv_at hl 2 rfl) ?_
    exact r_iret X I rfl rfl rfl hn dX8_premisesBy_772
  · refine lv_icmp_ge (tgt := 770) hx hb dX8_premisesBy_720 (by decide) (fun n => absurd n c2) (fun _ => ?_)
    obtain ⟨x2, h3, hf⟩ := s_bind hf
    obtain ⟨x3, h4, hf⟩ := s_bind hf
    refine lv_aload_n hx hb dX8_premisesBy_723 rfl (lv_at hl 0 rfl) ?_
    refine r_gr X I fl_X8_59 h3 dX8_premisesBy_724 ?_
    refine lv_iload hx hb dX8_premisesBy_727 (lv_at hl 3 rfl) ?_
    refine r_iald X I h4 dX8_premisesBy_729 ?_
    refine lv_bipush (v := 12) hx hb dX8_premisesBy_730 (by decide) ?_
    rcases s_ite hf with ⟨c5, hf⟩ | ⟨c5, hf⟩
    · refine lv_icmp_ne (tgt := 764) hx hb dX8_premisesBy_732 (by decide) (fun n => absurd c5 n) (fun _ => ?_)
      obtain ⟨x4, h6, hf⟩ := s_bind hf
      obtain ⟨x5, h7, hf⟩ := s_bind hf
      obtain ⟨q6, h8, hf⟩ := s_bind hf
      obtain ⟨q7, h9, hf⟩ := s_bind hf
      obtain ⟨q8, h10, hf⟩ := s_bind hf
      cases hf
      have k : s_V G (d + 3) M_X8_premisesBy vs0 σ0 Y_X8_premisesBy (764, [.ref v0, .int v3, .int (if q8.1 < v4 then q8.1 else v4), .int v5], q8.2) (e_I r) := k
      have le11 : s_le q8.2 (e_I r).2 := k.1
      have le12 := s_le.tr (l_X8_sum h10) le11
      have le13 := s_le.tr (l_X8_costAt h9) le12
      refine lv_iload hx hb dX8_premisesBy_735 (lv_at hl 2 rfl) ?_
      refine lv_aload_n hx hb dX8_premisesBy_737 rfl (lv_at hl 0 rfl) ?_
      refine lv_aload_n hx hb dX8_premisesBy_738 rfl (lv_at hl 0 rfl) ?_
      refine r_gr X I fl_X8_62 h6 dX8_premisesBy_739 ?_
      refine lv_iload hx hb dX8_premisesBy_742 (lv_at hl 3 rfl) ?_
      refine r_iald X I h7 dX8_premisesBy_744 ?_
      refine lv_iload_n hx hb dX8_premisesBy_745 rfl (lv_at hl 1 rfl) ?_
      refine r_callV (Y := M_X8_costAt) (v := some (.int q6.1)) X I w_2249 my_X8_costAt (by omega) (t_X8_costAt (G := G) (d := d + 1) h8) (b_X8_costAt h8) rfl rfl hl.1 rfl (Nat.le_of_ble_eq_true rfl) hn le13 dX8_premisesBy_746 (fun H locs cells slots I hn1 hn2 => ?_)
      have I : s_I G q6.2 s H locs := I
      have hn : cells + σ0.2.1 ≤ q6.2.2.1 ∧ slots + σ0.2.2.1 ≤ q6.2.2.2.1 := ⟨hn1, hn2⟩
      refine lv_aload_n hx hb dX8_premisesBy_749 rfl (lv_at hl 0 rfl) ?_
      refine lv_iload hx hb dX8_premisesBy_750 (lv_at hl 3 rfl) ?_
      refine lv_iload_n hx hb dX8_premisesBy_752 rfl (lv_at hl 1 rfl) ?_
      refine r_callV (Y := M_X8_costAt) (v := some (.int q7.1)) X I w_2249 my_X8_costAt (by omega) (t_X8_costAt (G := G) (d := d + 1) h9) (b_X8_costAt h9) rfl rfl hl.1 rfl (Nat.le_of_ble_eq_true rfl) hn le12 dX8_premisesBy_753 (fun H locs cells slots I hn1 hn2 => ?_)
      have I : s_I G q7.2 s H locs := I
      have hn : cells + σ0.2.1 ≤ q7.2.2.1 ∧ slots + σ0.2.2.1 ≤ q7.2.2.2.1 := ⟨hn1, hn2⟩
      refine r_callS (Y := M_X8_sum) (v := some (.int q8.1)) X I w_2261 my_X8_sum (by omega) (t_X8_sum (G := G) (d := d + 1) h10) rfl rfl hl.1 rfl (Nat.le_of_ble_eq_true rfl) hn le11 dX8_premisesBy_756 (fun H locs cells slots I hn1 hn2 => ?_)
      have I : s_I G q8.2 s H locs := I
      have hn : cells + σ0.2.1 ≤ q8.2.2.1 ∧ slots + σ0.2.2.1 ≤ q8.2.2.2.1 := ⟨hn1, hn2⟩
      refine r_mmin X w_2264 w_765 w_179 w_766 hl.1 (Nat.le_of_ble_eq_true rfl) hn le11 dX8_premisesBy_759 ?_
      refine lv_istore (lv' := [(4, .int (if q8.1 < v4 then q8.1 else v4)), (0, .ref v0), (3, .int v3), (5, .int v5)]) hx hb dX8_premisesBy_762 hl (by decide) rfl (fun ls hl => ?_)
      exact k.2 p e s m below meth c _ _ _ _ _ X I hn.1 hn.2 (lv_sub hl [1, 2, 0, 3] rfl)
    · refine lv_icmp_ne (tgt := 764) hx hb dX8_premisesBy_732 (by decide) (fun _ => ?_) (fun n => absurd n c5)
      cases hf
      have k : s_V G (d + 3) M_X8_premisesBy vs0 σ0 Y_X8_premisesBy (764, [.ref v0, .int v3, .int v4, .int v5], σ) (e_I r) := k
      exact k.2 p e s m below meth c _ _ _ _ _ X I hn.1 hn.2 (lv_sub hl [0, 1, 2, 3] rfl)
set_option maxRecDepth 100000 in
set_option maxHeartbeats 4000000 in
theorem v_X8_premisesBy_764 {G : sG} {d : Nat} {vs0 : List Value} {σ0 : sS} {v0 : Nat} {v3 : Int32} {v4 : Int32} {v5 : Int32} {σ : sS} {z : sZ Int32} {r : Int32 × sS} (hf : T_X8_premisesBy_764 v0 v3 v4 v5 σ = some z) (k : s_K G (d + 3) M_X8_premisesBy vs0 σ0 Y_X8_premisesBy e_I z r) : s_V G (d + 3) M_X8_premisesBy vs0 σ0 Y_X8_premisesBy (764, [.ref v0, .int v3, .int v4, .int v5], σ) (e_I r) := by
  have le0 : s_le σ (e_I r).2 := s_lek hem_I (l_X8_premisesBy_764 hf) k
  refine ⟨le0, ?_⟩
  intro p e s m below meth c H locs cells slots ls X I hn1 hn2 hl
  have hn : cells + σ0.2.1 ≤ σ.2.1 ∧ slots + σ0.2.2.1 ≤ σ.2.2.1 := ⟨hn1, hn2⟩
  have hl : lv_has ls 6 [(0, .ref v0), (3, .int v3), (4, .int v4), (5, .int v5)] := hl
  have hx := X.1
  have hb : c.code = cX8_premisesBy := X.2.1
  have hown : s.vm.findClass RX8 = some m.cls := X.2.2.2.2.2.1
  have hts := X.2.2.2.2.2.2.1
  refine W.eq (g2 := F0 m 764 ls []) rfl ?_
  unfold T_X8_premisesBy_764 at hf
  cases hf
  have k : s_V G (d + 3) M_X8_premisesBy vs0 σ0 Y_X8_premisesBy (714, [.ref v0, .int v3, .int v4, .int (v5 + 1)], σ) (e_I r) := k
  refine lv_iinc (v := (v5 + 1)) (lv' := [(5, .int (v5 + 1)), (0, .ref v0), (3, .int v3), (4, .int v4)]) hx hb dX8_premisesBy_764 hl (k := 3) rfl rfl (by decide) rfl (fun ls hl => ?_)
  refine lv_goto (tgt := 714) hx hb dX8_premisesBy_767 (by decide) ?_
  exact k.2 p e s m below meth c _ _ _ _ _ X I hn.1 hn.2 (lv_sub hl [1, 2, 3, 0] rfl)
theorem v_X8_premisesBy {G : sG} {d : Nat} {vs0 : List Value} {σ0 : sS} {x : sL} {z : sZ Int32} {r : Int32 × sS} (hs : S_X8_premisesBy x = some z) (k : s_K G (d + 3) M_X8_premisesBy vs0 σ0 Y_X8_premisesBy e_I z r) : s_V G (d + 3) M_X8_premisesBy vs0 σ0 Y_X8_premisesBy x (e_I r) := by
  obtain ⟨pc, vs, σ⟩ := x
  unfold S_X8_premisesBy at hs
  dsimp only at hs
  rcases s_ite hs with ⟨c, hs⟩ | ⟨-, hs⟩
  · subst c
    unfold U_X8_premisesBy_0 at hs
    obtain ⟨a0, g0, hs⟩ := s_bind hs
    obtain ⟨a1, g1, hs⟩ := s_bind hs
    obtain ⟨a2, g2, hs⟩ := s_bind hs
    obtain ⟨a3, g3, hs⟩ := s_bind hs
    obtain ⟨u9, ge, hs⟩ := s_bind hs
    rw [g_r_to g0, g_i_to g1, g_i_to g2, g_i_to g3, g_e_to ge]
    exact v_X8_premisesBy_0 hs k
  rcases s_ite hs with ⟨c, hs⟩ | ⟨-, hs⟩
  · subst c
    unfold U_X8_premisesBy_118 at hs
    obtain ⟨u9, ge, hs⟩ := s_bind hs
    rw [g_e_to ge]
    exact v_X8_premisesBy_118 hs k
  rcases s_ite hs with ⟨c, hs⟩ | ⟨-, hs⟩
  · subst c
    unfold U_X8_premisesBy_168 at hs
    obtain ⟨a0, g0, hs⟩ := s_bind hs
    obtain ⟨a1, g1, hs⟩ := s_bind hs
    obtain ⟨a2, g2, hs⟩ := s_bind hs
    obtain ⟨a3, g3, hs⟩ := s_bind hs
    obtain ⟨a4, g4, hs⟩ := s_bind hs
    obtain ⟨u9, ge, hs⟩ := s_bind hs
    rw [g_r_to g0, g_i_to g1, g_i_to g2, g_i_to g3, g_i_to g4, g_e_to ge]
    exact v_X8_premisesBy_168 hs k
  rcases s_ite hs with ⟨c, hs⟩ | ⟨-, hs⟩
  · subst c
    unfold U_X8_premisesBy_214 at hs
    obtain ⟨a0, g0, hs⟩ := s_bind hs
    obtain ⟨a1, g1, hs⟩ := s_bind hs
    obtain ⟨a2, g2, hs⟩ := s_bind hs
    obtain ⟨a3, g3, hs⟩ := s_bind hs
    obtain ⟨a4, g4, hs⟩ := s_bind hs
    obtain ⟨u9, ge, hs⟩ := s_bind hs
    rw [g_r_to g0, g_i_to g1, g_i_to g2, g_i_to g3, g_i_to g4, g_e_to ge]
    exact v_X8_premisesBy_214 hs k
  rcases s_ite hs with ⟨c, hs⟩ | ⟨-, hs⟩
  · subst c
    unfold U_X8_premisesBy_226 at hs
    obtain ⟨a0, g0, hs⟩ := s_bind hs
    obtain ⟨a1, g1, hs⟩ := s_bind hs
    obtain ⟨a2, g2, hs⟩ := s_bind hs
    obtain ⟨a3, g3, hs⟩ := s_bind hs
    obtain ⟨a4, g4, hs⟩ := s_bind hs
    obtain ⟨u9, ge, hs⟩ := s_bind hs
    rw [g_r_to g0, g_i_to g1, g_i_to g2, g_i_to g3, g_i_to g4, g_e_to ge]
    exact v_X8_premisesBy_226 hs k
  rcases s_ite hs with ⟨c, hs⟩ | ⟨-, hs⟩
  · subst c
    unfold U_X8_premisesBy_272 at hs
    obtain ⟨a0, g0, hs⟩ := s_bind hs
    obtain ⟨a1, g1, hs⟩ := s_bind hs
    obtain ⟨a2, g2, hs⟩ := s_bind hs
    obtain ⟨a3, g3, hs⟩ := s_bind hs
    obtain ⟨a4, g4, hs⟩ := s_bind hs
    obtain ⟨u9, ge, hs⟩ := s_bind hs
    rw [g_r_to g0, g_i_to g1, g_i_to g2, g_i_to g3, g_i_to g4, g_e_to ge]
    exact v_X8_premisesBy_272 hs k
  rcases s_ite hs with ⟨c, hs⟩ | ⟨-, hs⟩
  · subst c
    unfold U_X8_premisesBy_342 at hs
    obtain ⟨a0, g0, hs⟩ := s_bind hs
    obtain ⟨a1, g1, hs⟩ := s_bind hs
    obtain ⟨a2, g2, hs⟩ := s_bind hs
    obtain ⟨a3, g3, hs⟩ := s_bind hs
    obtain ⟨a4, g4, hs⟩ := s_bind hs
    obtain ⟨u9, ge, hs⟩ := s_bind hs
    rw [g_r_to g0, g_i_to g1, g_i_to g2, g_i_to g3, g_i_to g4, g_e_to ge]
    exact v_X8_premisesBy_342 hs k
  rcases s_ite hs with ⟨c, hs⟩ | ⟨-, hs⟩
  · subst c
    unfold U_X8_premisesBy_403 at hs
    obtain ⟨a0, g0, hs⟩ := s_bind hs
    obtain ⟨a1, g1, hs⟩ := s_bind hs
    obtain ⟨a2, g2, hs⟩ := s_bind hs
    obtain ⟨a3, g3, hs⟩ := s_bind hs
    obtain ⟨a4, g4, hs⟩ := s_bind hs
    obtain ⟨u9, ge, hs⟩ := s_bind hs
    rw [g_r_to g0, g_i_to g1, g_i_to g2, g_i_to g3, g_i_to g4, g_e_to ge]
    exact v_X8_premisesBy_403 hs k
  rcases s_ite hs with ⟨c, hs⟩ | ⟨-, hs⟩
  · subst c
    unfold U_X8_premisesBy_415 at hs
    obtain ⟨a0, g0, hs⟩ := s_bind hs
    obtain ⟨a1, g1, hs⟩ := s_bind hs
    obtain ⟨a2, g2, hs⟩ := s_bind hs
    obtain ⟨a3, g3, hs⟩ := s_bind hs
    obtain ⟨a4, g4, hs⟩ := s_bind hs
    obtain ⟨u9, ge, hs⟩ := s_bind hs
    rw [g_r_to g0, g_i_to g1, g_i_to g2, g_i_to g3, g_i_to g4, g_e_to ge]
    exact v_X8_premisesBy_415 hs k
  rcases s_ite hs with ⟨c, hs⟩ | ⟨-, hs⟩
  · subst c
    unfold U_X8_premisesBy_453 at hs
    obtain ⟨a0, g0, hs⟩ := s_bind hs
    obtain ⟨a1, g1, hs⟩ := s_bind hs
    obtain ⟨a2, g2, hs⟩ := s_bind hs
    obtain ⟨a3, g3, hs⟩ := s_bind hs
    obtain ⟨a4, g4, hs⟩ := s_bind hs
    obtain ⟨u9, ge, hs⟩ := s_bind hs
    rw [g_r_to g0, g_i_to g1, g_i_to g2, g_i_to g3, g_i_to g4, g_e_to ge]
    exact v_X8_premisesBy_453 hs k
  rcases s_ite hs with ⟨c, hs⟩ | ⟨-, hs⟩
  · subst c
    unfold U_X8_premisesBy_465 at hs
    obtain ⟨a0, g0, hs⟩ := s_bind hs
    obtain ⟨a1, g1, hs⟩ := s_bind hs
    obtain ⟨a2, g2, hs⟩ := s_bind hs
    obtain ⟨a3, g3, hs⟩ := s_bind hs
    obtain ⟨a4, g4, hs⟩ := s_bind hs
    obtain ⟨u9, ge, hs⟩ := s_bind hs
    rw [g_r_to g0, g_i_to g1, g_i_to g2, g_i_to g3, g_i_to g4, g_e_to ge]
    exact v_X8_premisesBy_465 hs k
  rcases s_ite hs with ⟨c, hs⟩ | ⟨-, hs⟩
  · subst c
    unfold U_X8_premisesBy_547 at hs
    obtain ⟨a0, g0, hs⟩ := s_bind hs
    obtain ⟨a1, g1, hs⟩ := s_bind hs
    obtain ⟨a2, g2, hs⟩ := s_bind hs
    obtain ⟨a3, g3, hs⟩ := s_bind hs
    obtain ⟨a4, g4, hs⟩ := s_bind hs
    obtain ⟨u9, ge, hs⟩ := s_bind hs
    rw [g_r_to g0, g_i_to g1, g_i_to g2, g_i_to g3, g_i_to g4, g_e_to ge]
    exact v_X8_premisesBy_547 hs k
  rcases s_ite hs with ⟨c, hs⟩ | ⟨-, hs⟩
  · subst c
    unfold U_X8_premisesBy_585 at hs
    obtain ⟨a0, g0, hs⟩ := s_bind hs
    obtain ⟨a1, g1, hs⟩ := s_bind hs
    obtain ⟨a2, g2, hs⟩ := s_bind hs
    obtain ⟨a3, g3, hs⟩ := s_bind hs
    obtain ⟨a4, g4, hs⟩ := s_bind hs
    obtain ⟨u9, ge, hs⟩ := s_bind hs
    rw [g_r_to g0, g_i_to g1, g_i_to g2, g_i_to g3, g_i_to g4, g_e_to ge]
    exact v_X8_premisesBy_585 hs k
  rcases s_ite hs with ⟨c, hs⟩ | ⟨-, hs⟩
  · subst c
    unfold U_X8_premisesBy_615 at hs
    obtain ⟨a0, g0, hs⟩ := s_bind hs
    obtain ⟨a1, g1, hs⟩ := s_bind hs
    obtain ⟨a2, g2, hs⟩ := s_bind hs
    obtain ⟨a3, g3, hs⟩ := s_bind hs
    obtain ⟨a4, g4, hs⟩ := s_bind hs
    obtain ⟨u9, ge, hs⟩ := s_bind hs
    rw [g_r_to g0, g_i_to g1, g_i_to g2, g_i_to g3, g_i_to g4, g_e_to ge]
    exact v_X8_premisesBy_615 hs k
  rcases s_ite hs with ⟨c, hs⟩ | ⟨-, hs⟩
  · subst c
    unfold U_X8_premisesBy_659 at hs
    obtain ⟨a0, g0, hs⟩ := s_bind hs
    obtain ⟨a1, g1, hs⟩ := s_bind hs
    obtain ⟨a2, g2, hs⟩ := s_bind hs
    obtain ⟨a3, g3, hs⟩ := s_bind hs
    obtain ⟨a4, g4, hs⟩ := s_bind hs
    obtain ⟨u9, ge, hs⟩ := s_bind hs
    rw [g_r_to g0, g_i_to g1, g_i_to g2, g_i_to g3, g_i_to g4, g_e_to ge]
    exact v_X8_premisesBy_659 hs k
  rcases s_ite hs with ⟨c, hs⟩ | ⟨-, hs⟩
  · subst c
    unfold U_X8_premisesBy_714 at hs
    obtain ⟨a0, g0, hs⟩ := s_bind hs
    obtain ⟨a1, g1, hs⟩ := s_bind hs
    obtain ⟨a2, g2, hs⟩ := s_bind hs
    obtain ⟨a3, g3, hs⟩ := s_bind hs
    obtain ⟨u9, ge, hs⟩ := s_bind hs
    rw [g_r_to g0, g_i_to g1, g_i_to g2, g_i_to g3, g_e_to ge]
    exact v_X8_premisesBy_714 hs k
  rcases s_ite hs with ⟨c, hs⟩ | ⟨-, hs⟩
  · subst c
    unfold U_X8_premisesBy_764 at hs
    obtain ⟨a0, g0, hs⟩ := s_bind hs
    obtain ⟨a1, g1, hs⟩ := s_bind hs
    obtain ⟨a2, g2, hs⟩ := s_bind hs
    obtain ⟨a3, g3, hs⟩ := s_bind hs
    obtain ⟨u9, ge, hs⟩ := s_bind hs
    rw [g_r_to g0, g_i_to g1, g_i_to g2, g_i_to g3, g_e_to ge]
    exact v_X8_premisesBy_764 hs k
  cases hs
theorem t_X8_premisesBy {G : sG} {d : Nat} {v0 : Nat} {v1 : Int32} {v2 : Int32} {v3 : Int32} {σ : sS} {q : Int32 × sS} (h : F_X8_premisesBy v0 v1 v2 v3 σ = some q) : s_T G (d + 3) M_X8_premisesBy [.ref v0, .int v1, .int v2, .int v3] σ (e_I q) := by
  unfold F_X8_premisesBy at h
  obtain ⟨-, -, h⟩ := s_bind h
  exact s_ofV rfl (by decide) (Nat.le_of_ble_eq_true rfl) rfl rfl (s_run_ind (V := fun x r => s_V G (d + 3) M_X8_premisesBy [.ref v0, .int v1, .int v2, .int v3] σ Y_X8_premisesBy x (e_I r)) (fun x z r hs hk => v_X8_premisesBy hs (by cases z <;> exact hk)) h)
