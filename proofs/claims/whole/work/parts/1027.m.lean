/-! X8_goesThrough -/
noncomputable def T_X8_goesThrough_0 (v0 : Nat) (σ : sS) : Option (sZ Unit) :=
  some (.inl (2, [.ref v0, .int 0], σ))
noncomputable def U_X8_goesThrough_0 (vs : List Value) (σ : sS) : Option (sZ Unit) := (g_r vs).bind fun a0 => (g_e a0.2).bind fun _ => T_X8_goesThrough_0 a0.1 σ
noncomputable def T_X8_goesThrough_2 (v0 : Nat) (v1 : Int32) (σ : sS) : Option (sZ Unit) :=
  (F_X8_lines v0 σ).bind fun q1 =>
  if q1.1 ≤ v1 then (some (.inr ((), q1.2)))
  else ((s_fr q1.2 v0 8 17).bind fun x2 =>
  (F_X8_isHonest v0 v1 q1.2).bind fun q3 =>
  (s_sb q3.2 x2 v1 q3.1).bind fun σ4 =>
  (s_fr σ4 v0 8 18).bind fun x5 =>
  (F_X8_ofLine v0 v1 2 σ4).bind fun q6 =>
  if (2 : Int32) ≤ q6.1 then (some (.inl (43, [.ref v0, .int v1, .long 0, .int v1, .ref x5], q6.2)))
  else (some (.inl (43, [.ref v0, .int v1, .long (1 <<< ((v1 : Int32).toInt64 &&& 63)), .int v1, .ref x5], q6.2))))
noncomputable def U_X8_goesThrough_2 (vs : List Value) (σ : sS) : Option (sZ Unit) := (g_r vs).bind fun a0 => (g_i a0.2).bind fun a1 => (g_e a1.2).bind fun _ => T_X8_goesThrough_2 a0.1 a1.1 σ
noncomputable def T_X8_goesThrough_43 (v0 : Nat) (v1 : Int32) (w0 : Int64) (w1 : Int32) (w2 : Nat) (σ : sS) : Option (sZ Unit) :=
  (s_sl σ w2 w1 w0).bind fun σ1 =>
  (s_fr σ1 v0 8 19).bind fun x2 =>
  (s_sl σ1 x2 v1 (1 <<< ((v1 : Int32).toInt64 &&& 63))).bind fun σ3 =>
  some (.inl (55, [.ref v0, .int v1, .int 0], σ3))
noncomputable def U_X8_goesThrough_43 (vs : List Value) (σ : sS) : Option (sZ Unit) := (g_r vs).bind fun a0 => (g_i a0.2).bind fun a1 => (g_l a1.2).bind fun a2 => (g_i a2.2).bind fun a3 => (g_r a3.2).bind fun a4 => (g_e a4.2).bind fun _ => T_X8_goesThrough_43 a0.1 a1.1 a2.1 a3.1 a4.1 σ
noncomputable def T_X8_goesThrough_55 (v0 : Nat) (v1 : Int32) (v2 : Int32) (σ : sS) : Option (sZ Unit) :=
  (F_X8_premises v0 v1 σ).bind fun q1 =>
  if q1.1 ≤ v2 then ((F_X8_premise v0 v1 0 q1.2).bind fun q2 =>
  (F_X8_ofLine v0 v1 2 q2.2).bind fun q3 =>
  if q3.1 = 10 then (if q2.1 < 0 then (some (.inl (198, [.ref v0, .int v1], q3.2)))
  else ((F_X8_ofLine v0 q2.1 2 q3.2).bind fun q4 =>
  if q4.1 = 1 then ((s_fr q4.2 v0 8 18).bind fun x5 =>
  (s_al q4.2 x5 v1).bind fun x6 =>
  (s_sl q4.2 x5 v1 (x6 &&& ((1 <<< ((q2.1 : Int32).toInt64 &&& 63)) ^^^ (-1)))).bind fun σ7 =>
  some (.inl (198, [.ref v0, .int v1], σ7)))
  else (some (.inl (198, [.ref v0, .int v1], q4.2)))))
  else (some (.inl (198, [.ref v0, .int v1], q3.2))))
  else ((F_X8_premise v0 v1 v2 q1.2).bind fun q8 =>
  (s_fr q8.2 v0 8 17).bind fun x9 =>
  (s_fr q8.2 v0 8 17).bind fun x10 =>
  (s_ab q8.2 x10 v1).bind fun x11 =>
  if x11 = 0 then (some (.inl (98, [.ref v0, .int v1, .int v2, .int q8.1, .int v1, .ref x9], q8.2)))
  else ((s_fr q8.2 v0 8 17).bind fun x12 =>
  (s_ab q8.2 x12 q8.1).bind fun x13 =>
  if x13 = 0 then (some (.inl (98, [.ref v0, .int v1, .int v2, .int q8.1, .int v1, .ref x9], q8.2)))
  else (some (.inl (99, [.ref v0, .int v1, .int v2, .int q8.1, .int 1, .int v1, .ref x9], q8.2)))))
noncomputable def U_X8_goesThrough_55 (vs : List Value) (σ : sS) : Option (sZ Unit) := (g_r vs).bind fun a0 => (g_i a0.2).bind fun a1 => (g_i a1.2).bind fun a2 => (g_e a2.2).bind fun _ => T_X8_goesThrough_55 a0.1 a1.1 a2.1 σ
noncomputable def T_X8_goesThrough_98 (v0 : Nat) (v1 : Int32) (v2 : Int32) (v3 : Int32) (w0 : Int32) (w1 : Nat) (σ : sS) : Option (sZ Unit) :=
  some (.inl (99, [.ref v0, .int v1, .int v2, .int v3, .int 0, .int w0, .ref w1], σ))
noncomputable def U_X8_goesThrough_98 (vs : List Value) (σ : sS) : Option (sZ Unit) := (g_r vs).bind fun a0 => (g_i a0.2).bind fun a1 => (g_i a1.2).bind fun a2 => (g_i a2.2).bind fun a3 => (g_i a3.2).bind fun a4 => (g_r a4.2).bind fun a5 => (g_e a5.2).bind fun _ => T_X8_goesThrough_98 a0.1 a1.1 a2.1 a3.1 a4.1 a5.1 σ
noncomputable def T_X8_goesThrough_99 (v0 : Nat) (v1 : Int32) (v2 : Int32) (v3 : Int32) (w0 : Int32) (w1 : Int32) (w2 : Nat) (σ : sS) : Option (sZ Unit) :=
  (s_sb σ w2 w1 w0).bind fun σ1 =>
  (s_fr σ1 v0 8 18).bind fun x2 =>
  (s_al σ1 x2 v1).bind fun x3 =>
  (F_X8_ofLine v0 v1 2 σ1).bind fun q4 =>
  if (2 : Int32) ≤ q4.1 then ((s_fr q4.2 v0 8 18).bind fun x5 =>
  (s_al q4.2 x5 v3).bind fun x6 =>
  some (.inl (127, [.ref v0, .int v1, .int v2, .int v3, .long x6, .long x3, .int v1, .ref x2], q4.2)))
  else (some (.inl (127, [.ref v0, .int v1, .int v2, .int v3, .long 0, .long x3, .int v1, .ref x2], q4.2)))
noncomputable def U_X8_goesThrough_99 (vs : List Value) (σ : sS) : Option (sZ Unit) := (g_r vs).bind fun a0 => (g_i a0.2).bind fun a1 => (g_i a1.2).bind fun a2 => (g_i a2.2).bind fun a3 => (g_i a3.2).bind fun a4 => (g_i a4.2).bind fun a5 => (g_r a5.2).bind fun a6 => (g_e a6.2).bind fun _ => T_X8_goesThrough_99 a0.1 a1.1 a2.1 a3.1 a4.1 a5.1 a6.1 σ
noncomputable def T_X8_goesThrough_127 (v0 : Nat) (v1 : Int32) (v2 : Int32) (v3 : Int32) (w0 : Int64) (w1 : Int64) (w2 : Int32) (w3 : Nat) (σ : sS) : Option (sZ Unit) :=
  (s_sl σ w3 w2 (w1 ||| w0)).bind fun σ1 =>
  (s_fr σ1 v0 8 19).bind fun x2 =>
  (s_al σ1 x2 v1).bind fun x3 =>
  (s_fr σ1 v0 8 19).bind fun x4 =>
  (s_al σ1 x4 v3).bind fun x5 =>
  (s_sl σ1 x2 v1 (x3 ||| x5)).bind fun σ6 =>
  some (.inl (55, [.ref v0, .int v1, .int (v2 + 1)], σ6))
noncomputable def U_X8_goesThrough_127 (vs : List Value) (σ : sS) : Option (sZ Unit) := (g_r vs).bind fun a0 => (g_i a0.2).bind fun a1 => (g_i a1.2).bind fun a2 => (g_i a2.2).bind fun a3 => (g_l a3.2).bind fun a4 => (g_l a4.2).bind fun a5 => (g_i a5.2).bind fun a6 => (g_r a6.2).bind fun a7 => (g_e a7.2).bind fun _ => T_X8_goesThrough_127 a0.1 a1.1 a2.1 a3.1 a4.1 a5.1 a6.1 a7.1 σ
noncomputable def T_X8_goesThrough_198 (v0 : Nat) (v1 : Int32) (σ : sS) : Option (sZ Unit) :=
  some (.inl (2, [.ref v0, .int (v1 + 1)], σ))
noncomputable def U_X8_goesThrough_198 (vs : List Value) (σ : sS) : Option (sZ Unit) := (g_r vs).bind fun a0 => (g_i a0.2).bind fun a1 => (g_e a1.2).bind fun _ => T_X8_goesThrough_198 a0.1 a1.1 σ
noncomputable def S_X8_goesThrough (x : sL) : Option (sZ Unit) := if x.1 = 0 then U_X8_goesThrough_0 x.2.1 x.2.2 else if x.1 = 2 then U_X8_goesThrough_2 x.2.1 x.2.2 else if x.1 = 43 then U_X8_goesThrough_43 x.2.1 x.2.2 else if x.1 = 55 then U_X8_goesThrough_55 x.2.1 x.2.2 else if x.1 = 98 then U_X8_goesThrough_98 x.2.1 x.2.2 else if x.1 = 99 then U_X8_goesThrough_99 x.2.1 x.2.2 else if x.1 = 127 then U_X8_goesThrough_127 x.2.1 x.2.2 else if x.1 = 198 then U_X8_goesThrough_198 x.2.1 x.2.2 else none
def Y_X8_goesThrough (pc : Nat) : List Nat := if pc = 0 then [0] else if pc = 2 then [0, 1] else if pc = 43 then [0, 1] else if pc = 55 then [0, 1, 2] else if pc = 98 then [0, 1, 2, 3] else if pc = 99 then [0, 1, 2, 3] else if pc = 127 then [0, 1, 2, 3] else if pc = 198 then [0, 1] else []
noncomputable def F_X8_goesThrough (v0 : Nat) (σ : sS) : Option (Unit × sS) := (s_is σ v0 8).bind fun _ => s_run S_X8_goesThrough (0, [.ref v0], σ)
theorem l_X8_goesThrough_0 {v0 : Nat} {σ : sS} {z : sZ Unit} (hf : T_X8_goesThrough_0 v0 σ = some z) : s_lz σ z := by
  unfold T_X8_goesThrough_0 at hf
  cases hf
  exact s_le.rf
theorem l_X8_goesThrough_2 {v0 : Nat} {v1 : Int32} {σ : sS} {z : sZ Unit} (hf : T_X8_goesThrough_2 v0 v1 σ = some z) : s_lz σ z := by
  unfold T_X8_goesThrough_2 at hf
  obtain ⟨q1, hh, hf⟩ := s_bind hf
  refine s_lz.tr (l_X8_lines hh) ?_
  rcases s_ite hf with ⟨-, hf⟩ | ⟨-, hf⟩
  · cases hf
    exact s_le.rf
  · obtain ⟨x2, -, hf⟩ := s_bind hf
    obtain ⟨q3, hh, hf⟩ := s_bind hf
    refine s_lz.tr (l_X8_isHonest hh) ?_
    obtain ⟨σ4, hh, hf⟩ := s_bind hf
    refine s_lz.tr (s_le2 (s_sb_2 hh)) ?_
    obtain ⟨x5, -, hf⟩ := s_bind hf
    obtain ⟨q6, hh, hf⟩ := s_bind hf
    refine s_lz.tr (l_X8_ofLine hh) ?_
    rcases s_ite hf with ⟨-, hf⟩ | ⟨-, hf⟩
    · cases hf
      exact s_le.rf
    · cases hf
      exact s_le.rf
theorem l_X8_goesThrough_43 {v0 : Nat} {v1 : Int32} {w0 : Int64} {w1 : Int32} {w2 : Nat} {σ : sS} {z : sZ Unit} (hf : T_X8_goesThrough_43 v0 v1 w0 w1 w2 σ = some z) : s_lz σ z := by
  unfold T_X8_goesThrough_43 at hf
  obtain ⟨σ1, hh, hf⟩ := s_bind hf
  refine s_lz.tr (s_le2 (s_sl_2 hh)) ?_
  obtain ⟨x2, -, hf⟩ := s_bind hf
  obtain ⟨σ3, hh, hf⟩ := s_bind hf
  refine s_lz.tr (s_le2 (s_sl_2 hh)) ?_
  cases hf
  exact s_le.rf
theorem l_X8_goesThrough_55 {v0 : Nat} {v1 : Int32} {v2 : Int32} {σ : sS} {z : sZ Unit} (hf : T_X8_goesThrough_55 v0 v1 v2 σ = some z) : s_lz σ z := by
  unfold T_X8_goesThrough_55 at hf
  obtain ⟨q1, hh, hf⟩ := s_bind hf
  refine s_lz.tr (l_X8_premises hh) ?_
  rcases s_ite hf with ⟨-, hf⟩ | ⟨-, hf⟩
  · obtain ⟨q2, hh, hf⟩ := s_bind hf
    refine s_lz.tr (l_X8_premise hh) ?_
    obtain ⟨q3, hh, hf⟩ := s_bind hf
    refine s_lz.tr (l_X8_ofLine hh) ?_
    rcases s_ite hf with ⟨-, hf⟩ | ⟨-, hf⟩
    · rcases s_ite hf with ⟨-, hf⟩ | ⟨-, hf⟩
      · cases hf
        exact s_le.rf
      · obtain ⟨q4, hh, hf⟩ := s_bind hf
        refine s_lz.tr (l_X8_ofLine hh) ?_
        rcases s_ite hf with ⟨-, hf⟩ | ⟨-, hf⟩
        · obtain ⟨x5, -, hf⟩ := s_bind hf
          obtain ⟨x6, -, hf⟩ := s_bind hf
          obtain ⟨σ7, hh, hf⟩ := s_bind hf
          refine s_lz.tr (s_le2 (s_sl_2 hh)) ?_
          cases hf
          exact s_le.rf
        · cases hf
          exact s_le.rf
    · cases hf
      exact s_le.rf
  · obtain ⟨q8, hh, hf⟩ := s_bind hf
    refine s_lz.tr (l_X8_premise hh) ?_
    obtain ⟨x9, -, hf⟩ := s_bind hf
    obtain ⟨x10, -, hf⟩ := s_bind hf
    obtain ⟨x11, -, hf⟩ := s_bind hf
    rcases s_ite hf with ⟨-, hf⟩ | ⟨-, hf⟩
    · cases hf
      exact s_le.rf
    · obtain ⟨x12, -, hf⟩ := s_bind hf
      obtain ⟨x13, -, hf⟩ := s_bind hf
      rcases s_ite hf with ⟨-, hf⟩ | ⟨-, hf⟩
      · cases hf
        exact s_le.rf
      · cases hf
        exact s_le.rf
theorem l_X8_goesThrough_98 {v0 : Nat} {v1 : Int32} {v2 : Int32} {v3 : Int32} {w0 : Int32} {w1 : Nat} {σ : sS} {z : sZ Unit} (hf : T_X8_goesThrough_98 v0 v1 v2 v3 w0 w1 σ = some z) : s_lz σ z := by
  unfold T_X8_goesThrough_98 at hf
  cases hf
  exact s_le.rf
theorem l_X8_goesThrough_99 {v0 : Nat} {v1 : Int32} {v2 : Int32} {v3 : Int32} {w0 : Int32} {w1 : Int32} {w2 : Nat} {σ : sS} {z : sZ Unit} (hf : T_X8_goesThrough_99 v0 v1 v2 v3 w0 w1 w2 σ = some z) : s_lz σ z := by
  unfold T_X8_goesThrough_99 at hf
  obtain ⟨σ1, hh, hf⟩ := s_bind hf
  refine s_lz.tr (s_le2 (s_sb_2 hh)) ?_
  obtain ⟨x2, -, hf⟩ := s_bind hf
  obtain ⟨x3, -, hf⟩ := s_bind hf
  obtain ⟨q4, hh, hf⟩ := s_bind hf
  refine s_lz.tr (l_X8_ofLine hh) ?_
  rcases s_ite hf with ⟨-, hf⟩ | ⟨-, hf⟩
  · obtain ⟨x5, -, hf⟩ := s_bind hf
    obtain ⟨x6, -, hf⟩ := s_bind hf
    cases hf
    exact s_le.rf
  · cases hf
    exact s_le.rf
theorem l_X8_goesThrough_127 {v0 : Nat} {v1 : Int32} {v2 : Int32} {v3 : Int32} {w0 : Int64} {w1 : Int64} {w2 : Int32} {w3 : Nat} {σ : sS} {z : sZ Unit} (hf : T_X8_goesThrough_127 v0 v1 v2 v3 w0 w1 w2 w3 σ = some z) : s_lz σ z := by
  unfold T_X8_goesThrough_127 at hf
  obtain ⟨σ1, hh, hf⟩ := s_bind hf
  refine s_lz.tr (s_le2 (s_sl_2 hh)) ?_
  obtain ⟨x2, -, hf⟩ := s_bind hf
  obtain ⟨x3, -, hf⟩ := s_bind hf
  obtain ⟨x4, -, hf⟩ := s_bind hf
  obtain ⟨x5, -, hf⟩ := s_bind hf
  obtain ⟨σ6, hh, hf⟩ := s_bind hf
  refine s_lz.tr (s_le2 (s_sl_2 hh)) ?_
  cases hf
  exact s_le.rf
theorem l_X8_goesThrough_198 {v0 : Nat} {v1 : Int32} {σ : sS} {z : sZ Unit} (hf : T_X8_goesThrough_198 v0 v1 σ = some z) : s_lz σ z := by
  unfold T_X8_goesThrough_198 at hf
  cases hf
  exact s_le.rf
theorem l_X8_goesThrough_s {x : sL} {z : sZ Unit} (hs : S_X8_goesThrough x = some z) : s_lz x.2.2 z := by
  obtain ⟨pc, vs, σ⟩ := x
  unfold S_X8_goesThrough at hs
  dsimp only at hs ⊢
  rcases s_ite hs with ⟨c, hs⟩ | ⟨-, hs⟩
  · subst c
    unfold U_X8_goesThrough_0 at hs
    obtain ⟨a0, g0, hs⟩ := s_bind hs
    obtain ⟨u9, ge, hs⟩ := s_bind hs
    exact l_X8_goesThrough_0 hs
  rcases s_ite hs with ⟨c, hs⟩ | ⟨-, hs⟩
  · subst c
    unfold U_X8_goesThrough_2 at hs
    obtain ⟨a0, g0, hs⟩ := s_bind hs
    obtain ⟨a1, g1, hs⟩ := s_bind hs
    obtain ⟨u9, ge, hs⟩ := s_bind hs
    exact l_X8_goesThrough_2 hs
  rcases s_ite hs with ⟨c, hs⟩ | ⟨-, hs⟩
  · subst c
    unfold U_X8_goesThrough_43 at hs
    obtain ⟨a0, g0, hs⟩ := s_bind hs
    obtain ⟨a1, g1, hs⟩ := s_bind hs
    obtain ⟨a2, g2, hs⟩ := s_bind hs
    obtain ⟨a3, g3, hs⟩ := s_bind hs
    obtain ⟨a4, g4, hs⟩ := s_bind hs
    obtain ⟨u9, ge, hs⟩ := s_bind hs
    exact l_X8_goesThrough_43 hs
  rcases s_ite hs with ⟨c, hs⟩ | ⟨-, hs⟩
  · subst c
    unfold U_X8_goesThrough_55 at hs
    obtain ⟨a0, g0, hs⟩ := s_bind hs
    obtain ⟨a1, g1, hs⟩ := s_bind hs
    obtain ⟨a2, g2, hs⟩ := s_bind hs
    obtain ⟨u9, ge, hs⟩ := s_bind hs
    exact l_X8_goesThrough_55 hs
  rcases s_ite hs with ⟨c, hs⟩ | ⟨-, hs⟩
  · subst c
    unfold U_X8_goesThrough_98 at hs
    obtain ⟨a0, g0, hs⟩ := s_bind hs
    obtain ⟨a1, g1, hs⟩ := s_bind hs
    obtain ⟨a2, g2, hs⟩ := s_bind hs
    obtain ⟨a3, g3, hs⟩ := s_bind hs
    obtain ⟨a4, g4, hs⟩ := s_bind hs
    obtain ⟨a5, g5, hs⟩ := s_bind hs
    obtain ⟨u9, ge, hs⟩ := s_bind hs
    exact l_X8_goesThrough_98 hs
  rcases s_ite hs with ⟨c, hs⟩ | ⟨-, hs⟩
  · subst c
    unfold U_X8_goesThrough_99 at hs
    obtain ⟨a0, g0, hs⟩ := s_bind hs
    obtain ⟨a1, g1, hs⟩ := s_bind hs
    obtain ⟨a2, g2, hs⟩ := s_bind hs
    obtain ⟨a3, g3, hs⟩ := s_bind hs
    obtain ⟨a4, g4, hs⟩ := s_bind hs
    obtain ⟨a5, g5, hs⟩ := s_bind hs
    obtain ⟨a6, g6, hs⟩ := s_bind hs
    obtain ⟨u9, ge, hs⟩ := s_bind hs
    exact l_X8_goesThrough_99 hs
  rcases s_ite hs with ⟨c, hs⟩ | ⟨-, hs⟩
  · subst c
    unfold U_X8_goesThrough_127 at hs
    obtain ⟨a0, g0, hs⟩ := s_bind hs
    obtain ⟨a1, g1, hs⟩ := s_bind hs
    obtain ⟨a2, g2, hs⟩ := s_bind hs
    obtain ⟨a3, g3, hs⟩ := s_bind hs
    obtain ⟨a4, g4, hs⟩ := s_bind hs
    obtain ⟨a5, g5, hs⟩ := s_bind hs
    obtain ⟨a6, g6, hs⟩ := s_bind hs
    obtain ⟨a7, g7, hs⟩ := s_bind hs
    obtain ⟨u9, ge, hs⟩ := s_bind hs
    exact l_X8_goesThrough_127 hs
  rcases s_ite hs with ⟨c, hs⟩ | ⟨-, hs⟩
  · subst c
    unfold U_X8_goesThrough_198 at hs
    obtain ⟨a0, g0, hs⟩ := s_bind hs
    obtain ⟨a1, g1, hs⟩ := s_bind hs
    obtain ⟨u9, ge, hs⟩ := s_bind hs
    exact l_X8_goesThrough_198 hs
  cases hs
theorem l_X8_goesThrough {v0 : Nat} {σ : sS} {q : Unit × sS} (h : F_X8_goesThrough v0 σ = some q) : s_le σ q.2 := by
  unfold F_X8_goesThrough at h
  obtain ⟨-, -, h⟩ := s_bind h
  exact s_run_ind (V := fun x r => s_le x.2.2 r.2) (fun x z r hs hk => by
    have h9 := l_X8_goesThrough_s hs
    cases z with
    | inl y => exact s_le.tr h9 hk
    | inr q => cases hk; exact h9) h
theorem b_X8_goesThrough {v0 : Nat} {σ : sS} {q : Unit × sS} (h : F_X8_goesThrough v0 σ = some q) : ∃ fs, σ.1 v0 = some (.inr (8, fs)) := by
  unfold F_X8_goesThrough at h
  obtain ⟨u, hu, -⟩ := s_bind h
  exact s_is_to hu
set_option maxRecDepth 100000 in
set_option maxHeartbeats 4000000 in
theorem v_X8_goesThrough_0 {G : sG} {d : Nat} {vs0 : List Value} {σ0 : sS} {v0 : Nat} {σ : sS} {z : sZ Unit} {r : Unit × sS} (hf : T_X8_goesThrough_0 v0 σ = some z) (k : s_K G (d + 7) M_X8_goesThrough vs0 σ0 Y_X8_goesThrough e_V z r) : s_V G (d + 7) M_X8_goesThrough vs0 σ0 Y_X8_goesThrough (0, [.ref v0], σ) (e_V r) := by
  have le0 : s_le σ (e_V r).2 := s_lek hem_V (l_X8_goesThrough_0 hf) k
  refine ⟨le0, ?_⟩
  intro p e s m below meth c H locs cells slots ls X I hn1 hn2 hl
  have hn : cells + σ0.2.1 ≤ σ.2.1 ∧ slots + σ0.2.2.1 ≤ σ.2.2.1 := ⟨hn1, hn2⟩
  have hl : lv_has ls 4 [(0, .ref v0)] := hl
  have hx := X.1
  have hb : c.code = cX8_goesThrough := X.2.1
  have hown : s.vm.findClass RX8 = some m.cls := X.2.2.2.2.2.1
  have hts := X.2.2.2.2.2.2.1
  refine W.eq (g2 := F0 m 0 ls []) rfl ?_
  unfold T_X8_goesThrough_0 at hf
  cases hf
  have k : s_V G (d + 7) M_X8_goesThrough vs0 σ0 Y_X8_goesThrough (2, [.ref v0, .int 0], σ) (e_V r) := k
  refine lv_iconst (v := 0) hx hb dX8_goesThrough_0 (by decide) ?_
  refine lv_istore_n (lv' := [(1, .int 0), (0, .ref v0)]) hx hb dX8_goesThrough_1 rfl hl (by decide) rfl (fun ls hl => ?_)
  exact k.2 p e s m below meth c _ _ _ _ _ X I hn.1 hn.2 (lv_sub hl [1, 0] rfl)
set_option maxRecDepth 100000 in
set_option maxHeartbeats 4000000 in
theorem v_X8_goesThrough_2 {G : sG} {d : Nat} {vs0 : List Value} {σ0 : sS} {v0 : Nat} {v1 : Int32} {σ : sS} {z : sZ Unit} {r : Unit × sS} (hf : T_X8_goesThrough_2 v0 v1 σ = some z) (k : s_K G (d + 7) M_X8_goesThrough vs0 σ0 Y_X8_goesThrough e_V z r) : s_V G (d + 7) M_X8_goesThrough vs0 σ0 Y_X8_goesThrough (2, [.ref v0, .int v1], σ) (e_V r) := by
  have le0 : s_le σ (e_V r).2 := s_lek hem_V (l_X8_goesThrough_2 hf) k
  refine ⟨le0, ?_⟩
  intro p e s m below meth c H locs cells slots ls X I hn1 hn2 hl
  have hn : cells + σ0.2.1 ≤ σ.2.1 ∧ slots + σ0.2.2.1 ≤ σ.2.2.1 := ⟨hn1, hn2⟩
  have hl : lv_has ls 4 [(0, .ref v0), (1, .int v1)] := hl
  have hx := X.1
  have hb : c.code = cX8_goesThrough := X.2.1
  have hown : s.vm.findClass RX8 = some m.cls := X.2.2.2.2.2.1
  have hts := X.2.2.2.2.2.2.1
  refine W.eq (g2 := F0 m 2 ls []) rfl ?_
  unfold T_X8_goesThrough_2 at hf
  obtain ⟨q1, h1, hf⟩ := s_bind hf
  have le2 : s_le q1.2 (e_V r).2 := by
    refine s_lek hem_V ?_ k
    rcases s_ite hf with ⟨-, hf⟩ | ⟨-, hf⟩
    · cases hf
      exact s_le.rf
    · obtain ⟨x2, -, hf⟩ := s_bind hf
      obtain ⟨q3, hh, hf⟩ := s_bind hf
      refine s_lz.tr (l_X8_isHonest hh) ?_
      obtain ⟨σ4, hh, hf⟩ := s_bind hf
      refine s_lz.tr (s_le2 (s_sb_2 hh)) ?_
      obtain ⟨x5, -, hf⟩ := s_bind hf
      obtain ⟨q6, hh, hf⟩ := s_bind hf
      refine s_lz.tr (l_X8_ofLine hh) ?_
      rcases s_ite hf with ⟨-, hf⟩ | ⟨-, hf⟩
      · cases hf
        exact s_le.rf
      · cases hf
        exact s_le.rf
  refine lv_iload_n hx hb dX8_goesThrough_2 rfl (lv_at hl 1 rfl) ?_
  refine lv_aload_n hx hb dX8_goesThrough_3 rfl (lv_at hl 0 rfl) ?_
  refine r_callV (Y := M_X8_lines) (v := some (.int q1.1)) X I w_2003 my_X8_lines (by omega) (t_X8_lines (G := G) (d := d + 5) h1) (b_X8_lines h1) rfl rfl hl.1 rfl (Nat.le_of_ble_eq_true rfl) hn le2 dX8_goesThrough_4 (fun H locs cells slots I hn1 hn2 => ?_)
  have I : s_I G q1.2 s H locs := I
  have hn : cells + σ0.2.1 ≤ q1.2.2.1 ∧ slots + σ0.2.2.1 ≤ q1.2.2.2.1 := ⟨hn1, hn2⟩
  rcases s_ite hf with ⟨c3, hf⟩ | ⟨c3, hf⟩
  · refine lv_icmp_ge (tgt := 204) hx hb dX8_goesThrough_7 (by decide) (fun _ => ?_) (fun n => absurd c3 n)
    cases hf
    have k : _ = r := k
    subst k
    exact r_vret X I rfl rfl hn dX8_goesThrough_204
  · refine lv_icmp_ge (tgt := 204) hx hb dX8_goesThrough_7 (by decide) (fun n => absurd n c3) (fun _ => ?_)
    obtain ⟨x2, h4, hf⟩ := s_bind hf
    obtain ⟨q3, h5, hf⟩ := s_bind hf
    obtain ⟨σ4, h6, hf⟩ := s_bind hf
    obtain ⟨x5, h7, hf⟩ := s_bind hf
    obtain ⟨q6, h8, hf⟩ := s_bind hf
    have le9 : s_le q6.2 (e_V r).2 := by
      refine s_lek hem_V ?_ k
      rcases s_ite hf with ⟨-, hf⟩ | ⟨-, hf⟩
      · cases hf
        exact s_le.rf
      · cases hf
        exact s_le.rf
    have le10 := s_le.tr (l_X8_ofLine h8) le9
    have le11 := s_le.tr (s_le2 (s_sb_2 h6)) le10
    refine lv_aload_n hx hb dX8_goesThrough_10 rfl (lv_at hl 0 rfl) ?_
    refine r_gr X I fl_X8_39 h4 dX8_goesThrough_11 ?_
    refine lv_iload_n hx hb dX8_goesThrough_14 rfl (lv_at hl 1 rfl) ?_
    refine lv_aload_n hx hb dX8_goesThrough_15 rfl (lv_at hl 0 rfl) ?_
    refine lv_iload_n hx hb dX8_goesThrough_16 rfl (lv_at hl 1 rfl) ?_
    refine r_callV (Y := M_X8_isHonest) (v := some (.int q3.1)) X I w_2031 my_X8_isHonest (by omega) (t_X8_isHonest (G := G) (d := d + 0) h5) (b_X8_isHonest h5) rfl rfl hl.1 rfl (Nat.le_of_ble_eq_true rfl) hn le11 dX8_goesThrough_17 (fun H locs cells slots I hn1 hn2 => ?_)
    have I : s_I G q3.2 s H locs := I
    have hn : cells + σ0.2.1 ≤ q3.2.2.1 ∧ slots + σ0.2.2.1 ≤ q3.2.2.2.1 := ⟨hn1, hn2⟩
    refine r_bast X I h6 dX8_goesThrough_20 (fun H locs I => ?_)
    have hn := s_k2 (s_sb_2 h6) hn
    refine lv_aload_n hx hb dX8_goesThrough_21 rfl (lv_at hl 0 rfl) ?_
    refine r_gr X I fl_X8_43 h7 dX8_goesThrough_22 ?_
    refine lv_iload_n hx hb dX8_goesThrough_25 rfl (lv_at hl 1 rfl) ?_
    refine lv_aload_n hx hb dX8_goesThrough_26 rfl (lv_at hl 0 rfl) ?_
    refine lv_iload_n hx hb dX8_goesThrough_27 rfl (lv_at hl 1 rfl) ?_
    refine lv_iconst (v := 2) hx hb dX8_goesThrough_28 (by decide) ?_
    refine r_callV (Y := M_X8_ofLine) (v := some (.int q6.1)) X I w_2015 my_X8_ofLine (by omega) (t_X8_ofLine (G := G) (d := d + 5) h8) (b_X8_ofLine h8) rfl rfl hl.1 rfl (Nat.le_of_ble_eq_true rfl) hn le9 dX8_goesThrough_29 (fun H locs cells slots I hn1 hn2 => ?_)
    have I : s_I G q6.2 s H locs := I
    have hn : cells + σ0.2.1 ≤ q6.2.2.1 ∧ slots + σ0.2.2.1 ≤ q6.2.2.2.1 := ⟨hn1, hn2⟩
    refine lv_iconst (v := 2) hx hb dX8_goesThrough_32 (by decide) ?_
    rcases s_ite hf with ⟨c12, hf⟩ | ⟨c12, hf⟩
    · refine lv_icmp_ge (tgt := 42) hx hb dX8_goesThrough_33 (by decide) (fun _ => ?_) (fun n => absurd c12 n)
      cases hf
      have k : s_V G (d + 7) M_X8_goesThrough vs0 σ0 Y_X8_goesThrough (43, [.ref v0, .int v1, .long 0, .int v1, .ref x5], q6.2) (e_V r) := k
      refine lv_lconst (v := 0) hx hb dX8_goesThrough_42 (by decide) ?_
      exact k.2 p e s m below meth c _ _ _ _ _ X I hn.1 hn.2 (lv_sub hl [0, 1] rfl)
    · refine lv_icmp_ge (tgt := 42) hx hb dX8_goesThrough_33 (by decide) (fun n => absurd n c12) (fun _ => ?_)
      cases hf
      have k : s_V G (d + 7) M_X8_goesThrough vs0 σ0 Y_X8_goesThrough (43, [.ref v0, .int v1, .long (1 <<< ((v1 : Int32).toInt64 &&& 63)), .int v1, .ref x5], q6.2) (e_V r) := k
      refine lv_lconst (v := 1) hx hb dX8_goesThrough_36 (by decide) ?_
      refine lv_iload_n hx hb dX8_goesThrough_37 rfl (lv_at hl 1 rfl) ?_
      refine lv_lshl hx hb dX8_goesThrough_38 rfl ?_
      refine lv_goto (tgt := 43) hx hb dX8_goesThrough_39 (by decide) ?_
      exact k.2 p e s m below meth c _ _ _ _ _ X I hn.1 hn.2 (lv_sub hl [0, 1] rfl)
set_option maxRecDepth 100000 in
set_option maxHeartbeats 4000000 in
theorem v_X8_goesThrough_43 {G : sG} {d : Nat} {vs0 : List Value} {σ0 : sS} {v0 : Nat} {v1 : Int32} {w0 : Int64} {w1 : Int32} {w2 : Nat} {σ : sS} {z : sZ Unit} {r : Unit × sS} (hf : T_X8_goesThrough_43 v0 v1 w0 w1 w2 σ = some z) (k : s_K G (d + 7) M_X8_goesThrough vs0 σ0 Y_X8_goesThrough e_V z r) : s_V G (d + 7) M_X8_goesThrough vs0 σ0 Y_X8_goesThrough (43, [.ref v0, .int v1, .long w0, .int w1, .ref w2], σ) (e_V r) := by
  have le0 : s_le σ (e_V r).2 := s_lek hem_V (l_X8_goesThrough_43 hf) k
  refine ⟨le0, ?_⟩
  intro p e s m below meth c H locs cells slots ls X I hn1 hn2 hl
  have hn : cells + σ0.2.1 ≤ σ.2.1 ∧ slots + σ0.2.2.1 ≤ σ.2.2.1 := ⟨hn1, hn2⟩
  have hl : lv_has ls 4 [(0, .ref v0), (1, .int v1)] := hl
  have hx := X.1
  have hb : c.code = cX8_goesThrough := X.2.1
  have hown : s.vm.findClass RX8 = some m.cls := X.2.2.2.2.2.1
  have hts := X.2.2.2.2.2.2.1
  refine W.eq (g2 := F0 m 43 ls [.long w0, .int w1, .ref w2]) rfl ?_
  unfold T_X8_goesThrough_43 at hf
  obtain ⟨σ1, h1, hf⟩ := s_bind hf
  obtain ⟨x2, h2, hf⟩ := s_bind hf
  obtain ⟨σ3, h3, hf⟩ := s_bind hf
  cases hf
  have k : s_V G (d + 7) M_X8_goesThrough vs0 σ0 Y_X8_goesThrough (55, [.ref v0, .int v1, .int 0], σ3) (e_V r) := k
  have le4 : s_le σ3 (e_V r).2 := k.1
  have le5 := s_le.tr (s_le2 (s_sl_2 h3)) le4
  refine r_last X I h1 dX8_goesThrough_43 (fun H locs I => ?_)
  have hn := s_k2 (s_sl_2 h1) hn
  refine lv_aload_n hx hb dX8_goesThrough_44 rfl (lv_at hl 0 rfl) ?_
  refine r_gr X I fl_X8_47 h2 dX8_goesThrough_45 ?_
  refine lv_iload_n hx hb dX8_goesThrough_48 rfl (lv_at hl 1 rfl) ?_
  refine lv_lconst (v := 1) hx hb dX8_goesThrough_49 (by decide) ?_
  refine lv_iload_n hx hb dX8_goesThrough_50 rfl (lv_at hl 1 rfl) ?_
  refine lv_lshl hx hb dX8_goesThrough_51 rfl ?_
  refine r_last X I h3 dX8_goesThrough_52 (fun H locs I => ?_)
  have hn := s_k2 (s_sl_2 h3) hn
  refine lv_iconst (v := 0) hx hb dX8_goesThrough_53 (by decide) ?_
  refine lv_istore_n (lv' := [(2, .int 0), (0, .ref v0), (1, .int v1)]) hx hb dX8_goesThrough_54 rfl hl (by decide) rfl (fun ls hl => ?_)
  exact k.2 p e s m below meth c _ _ _ _ _ X I hn.1 hn.2 (lv_sub hl [1, 2, 0] rfl)
set_option maxRecDepth 100000 in
set_option maxHeartbeats 4000000 in
theorem v_X8_goesThrough_55 {G : sG} {d : Nat} {vs0 : List Value} {σ0 : sS} {v0 : Nat} {v1 : Int32} {v2 : Int32} {σ : sS} {z : sZ Unit} {r : Unit × sS} (hf : T_X8_goesThrough_55 v0 v1 v2 σ = some z) (k : s_K G (d + 7) M_X8_goesThrough vs0 σ0 Y_X8_goesThrough e_V z r) : s_V G (d + 7) M_X8_goesThrough vs0 σ0 Y_X8_goesThrough (55, [.ref v0, .int v1, .int v2], σ) (e_V r) := by
  have le0 : s_le σ (e_V r).2 := s_lek hem_V (l_X8_goesThrough_55 hf) k
  refine ⟨le0, ?_⟩
  intro p e s m below meth c H locs cells slots ls X I hn1 hn2 hl
  have hn : cells + σ0.2.1 ≤ σ.2.1 ∧ slots + σ0.2.2.1 ≤ σ.2.2.1 := ⟨hn1, hn2⟩
  have hl : lv_has ls 4 [(0, .ref v0), (1, .int v1), (2, .int v2)] := hl
  have hx := X.1
  have hb : c.code = cX8_goesThrough := X.2.1
  have hown : s.vm.findClass RX8 = some m.cls := X.2.2.2.2.2.1
  have hts := X.2.2.2.2.2.2.1
  refine W.eq (g2 := F0 m 55 ls []) rfl ?_
  unfold T_X8_goesThrough_55 at hf
  obtain ⟨q1, h1, hf⟩ := s_bind hf
  have le2 : s_le q1.2 (e_V r).2 := by
    refine s_lek hem_V ?_ k
    rcases s_ite hf with ⟨-, hf⟩ | ⟨-, hf⟩
    · obtain ⟨q2, hh, hf⟩ := s_bind hf
      refine s_lz.tr (l_X8_premise hh) ?_
      obtain ⟨q3, hh, hf⟩ := s_bind hf
      refine s_lz.tr (l_X8_ofLine hh) ?_
      rcases s_ite hf with ⟨-, hf⟩ | ⟨-, hf⟩
      · rcases s_ite hf with ⟨-, hf⟩ | ⟨-, hf⟩
        · cases hf
          exact s_le.rf
        · obtain ⟨q4, hh, hf⟩ := s_bind hf
          refine s_lz.tr (l_X8_ofLine hh) ?_
          rcases s_ite hf with ⟨-, hf⟩ | ⟨-, hf⟩
          · obtain ⟨x5, -, hf⟩ := s_bind hf
            obtain ⟨x6, -, hf⟩ := s_bind hf
            obtain ⟨σ7, hh, hf⟩ := s_bind hf
            refine s_lz.tr (s_le2 (s_sl_2 hh)) ?_
            cases hf
            exact s_le.rf
          · cases hf
            exact s_le.rf
      · cases hf
        exact s_le.rf
    · obtain ⟨q8, hh, hf⟩ := s_bind hf
      refine s_lz.tr (l_X8_premise hh) ?_
      obtain ⟨x9, -, hf⟩ := s_bind hf
      obtain ⟨x10, -, hf⟩ := s_bind hf
      obtain ⟨x11, -, hf⟩ := s_bind hf
      rcases s_ite hf with ⟨-, hf⟩ | ⟨-, hf⟩
      · cases hf
        exact s_le.rf
      · obtain ⟨x12, -, hf⟩ := s_bind hf
        obtain ⟨x13, -, hf⟩ := s_bind hf
        rcases s_ite hf with ⟨-, hf⟩ | ⟨-, hf⟩
        · cases hf
          exact s_le.rf
        · cases hf
          exact s_le.rf
  refine lv_iload_n hx hb dX8_goesThrough_55 rfl (lv_at hl 2 rfl) ?_
  refine lv_aload_n hx hb dX8_goesThrough_56 rfl (lv_at hl 0 rfl) ?_
  refine lv_iload_n hx hb dX8_goesThrough_57 rfl (lv_at hl 1 rfl) ?_
  refine r_callV (Y := M_X8_premises) (v := some (.int q1.1)) X I w_2039 my_X8_premises (by omega) (t_X8_premises (G := G) (d := d + 3) h1) (b_X8_premises h1) rfl rfl hl.1 rfl (Nat.le_of_ble_eq_true rfl) hn le2 dX8_goesThrough_58 (fun H locs cells slots I hn1 hn2 => ?_)
  have I : s_I G q1.2 s H locs := I
  have hn : cells + σ0.2.1 ≤ q1.2.2.1 ∧ slots + σ0.2.2.1 ≤ q1.2.2.2.1 := ⟨hn1, hn2⟩
  rcases s_ite hf with ⟨c3, hf⟩ | ⟨c3, hf⟩
  · refine lv_icmp_ge (tgt := 150) hx hb dX8_goesThrough_61 (by decide) (fun _ => ?_) (fun n => absurd c3 n)
    obtain ⟨q2, h4, hf⟩ := s_bind hf
    obtain ⟨q3, h5, hf⟩ := s_bind hf
    have le6 : s_le q3.2 (e_V r).2 := by
      refine s_lek hem_V ?_ k
      rcases s_ite hf with ⟨-, hf⟩ | ⟨-, hf⟩
      · rcases s_ite hf with ⟨-, hf⟩ | ⟨-, hf⟩
        · cases hf
          exact s_le.rf
        · obtain ⟨q4, hh, hf⟩ := s_bind hf
          refine s_lz.tr (l_X8_ofLine hh) ?_
          rcases s_ite hf with ⟨-, hf⟩ | ⟨-, hf⟩
          · obtain ⟨x5, -, hf⟩ := s_bind hf
            obtain ⟨x6, -, hf⟩ := s_bind hf
            obtain ⟨σ7, hh, hf⟩ := s_bind hf
            refine s_lz.tr (s_le2 (s_sl_2 hh)) ?_
            cases hf
            exact s_le.rf
          · cases hf
            exact s_le.rf
      · cases hf
        exact s_le.rf
    have le7 := s_le.tr (l_X8_ofLine h5) le6
    refine lv_aload_n hx hb dX8_goesThrough_150 rfl (lv_at hl 0 rfl) ?_
    refine lv_iload_n hx hb dX8_goesThrough_151 rfl (lv_at hl 1 rfl) ?_
    refine lv_iconst (v := 0) hx hb dX8_goesThrough_152 (by decide) ?_
    refine r_callV (Y := M_X8_premise) (v := some (.int q2.1)) X I w_2043 my_X8_premise (by omega) (t_X8_premise (G := G) (d := d + 4) h4) (b_X8_premise h4) rfl rfl hl.1 rfl (Nat.le_of_ble_eq_true rfl) hn le7 dX8_goesThrough_153 (fun H locs cells slots I hn1 hn2 => ?_)
    have I : s_I G q2.2 s H locs := I
    have hn : cells + σ0.2.1 ≤ q2.2.2.1 ∧ slots + σ0.2.2.1 ≤ q2.2.2.2.1 := ⟨hn1, hn2⟩
    refine lv_istore_n (lv' := [(2, .int q2.1), (0, .ref v0), (1, .int v1)]) hx hb dX8_goesThrough_156 rfl hl (by decide) rfl (fun ls hl => ?_)
    refine lv_aload_n hx hb dX8_goesThrough_157 rfl (lv_at hl 1 rfl) ?_
    refine lv_iload_n hx hb dX8_goesThrough_158 rfl (lv_at hl 2 rfl) ?_
    refine lv_iconst (v := 2) hx hb dX8_goesThrough_159 (by decide) ?_
    refine r_callV (Y := M_X8_ofLine) (v := some (.int q3.1)) X I w_2015 my_X8_ofLine (by omega) (t_X8_ofLine (G := G) (d := d + 5) h5) (b_X8_ofLine h5) rfl rfl hl.1 rfl (Nat.le_of_ble_eq_true rfl) hn le6 dX8_goesThrough_160 (fun H locs cells slots I hn1 hn2 => ?_)
    have I : s_I G q3.2 s H locs := I
    have hn : cells + σ0.2.1 ≤ q3.2.2.1 ∧ slots + σ0.2.2.1 ≤ q3.2.2.2.1 := ⟨hn1, hn2⟩
    refine lv_bipush (v := 10) hx hb dX8_goesThrough_163 (by decide) ?_
    rcases s_ite hf with ⟨c8, hf⟩ | ⟨c8, hf⟩
    · refine lv_icmp_ne (tgt := 198) hx hb dX8_goesThrough_165 (by decide) (fun n => absurd c8 n) (fun _ => ?_)
      refine lv_iload_n hx hb dX8_goesThrough_168 rfl (lv_at hl 0 rfl) ?_
      rcases s_ite hf with ⟨c9, hf⟩ | ⟨c9, hf⟩
      · refine lv_if_lt (tgt := 198) hx hb dX8_goesThrough_169 (by decide) (fun _ => ?_) (fun n => absurd c9 n)
        cases hf
        have k : s_V G (d + 7) M_X8_goesThrough vs0 σ0 Y_X8_goesThrough (198, [.ref v0, .int v1], q3.2) (e_V r) := k
        exact k.2 p e s m below meth c _ _ _ _ _ X I hn.1 hn.2 (lv_sub hl [1, 2] rfl)
      · refine lv_if_lt (tgt := 198) hx hb dX8_goesThrough_169 (by decide) (fun n => absurd n c9) (fun _ => ?_)
        obtain ⟨q4, h10, hf⟩ := s_bind hf
        have le11 : s_le q4.2 (e_V r).2 := by
          refine s_lek hem_V ?_ k
          rcases s_ite hf with ⟨-, hf⟩ | ⟨-, hf⟩
          · obtain ⟨x5, -, hf⟩ := s_bind hf
            obtain ⟨x6, -, hf⟩ := s_bind hf
            obtain ⟨σ7, hh, hf⟩ := s_bind hf
            refine s_lz.tr (s_le2 (s_sl_2 hh)) ?_
            cases hf
            exact s_le.rf
          · cases hf
            exact s_le.rf
        refine lv_aload_n hx hb dX8_goesThrough_172 rfl (lv_at hl 1 rfl) ?_
        refine lv_iload_n hx hb dX8_goesThrough_173 rfl (lv_at hl 0 rfl) ?_
        refine lv_iconst (v := 2) hx hb dX8_goesThrough_174 (by decide) ?_
        refine r_callV (Y := M_X8_ofLine) (v := some (.int q4.1)) X I w_2015 my_X8_ofLine (by omega) (t_X8_ofLine (G := G) (d := d + 5) h10) (b_X8_ofLine h10) rfl rfl hl.1 rfl (Nat.le_of_ble_eq_true rfl) hn le11 dX8_goesThrough_175 (fun H locs cells slots I hn1 hn2 => ?_)
        have I : s_I G q4.2 s H locs := I
        have hn : cells + σ0.2.1 ≤ q4.2.2.1 ∧ slots + σ0.2.2.1 ≤ q4.2.2.2.1 := ⟨hn1, hn2⟩
        refine lv_iconst (v := 1) hx hb dX8_goesThrough_178 (by decide) ?_
        rcases s_ite hf with ⟨c12, hf⟩ | ⟨c12, hf⟩
        · refine lv_icmp_ne (tgt := 198) hx hb dX8_goesThrough_179 (by decide) (fun n => absurd c12 n) (fun _ => ?_)
          obtain ⟨x5, h13, hf⟩ := s_bind hf
          obtain ⟨x6, h14, hf⟩ := s_bind hf
          obtain ⟨σ7, h15, hf⟩ := s_bind hf
          cases hf
          have k : s_V G (d + 7) M_X8_goesThrough vs0 σ0 Y_X8_goesThrough (198, [.ref v0, .int v1], σ7) (e_V r) := k
          have le16 : s_le σ7 (e_V r).2 := k.1
          refine lv_aload_n hx hb dX8_goesThrough_182 rfl (lv_at hl 1 rfl) ?_
          refine r_gr X I fl_X8_43 h13 dX8_goesThrough_183 ?_
          refine lv_iload_n hx hb dX8_goesThrough_186 rfl (lv_at hl 2 rfl) ?_
          refine lv_dup2_11 hx hb dX8_goesThrough_187 rfl rfl ?_
          refine r_lald X I h14 dX8_goesThrough_188 ?_
          refine lv_lconst (v := 1) hx hb dX8_goesThrough_189 (by decide) ?_
          refine lv_iload_n hx hb dX8_goesThrough_190 rfl (lv_at hl 0 rfl) ?_
          refine lv_lshl hx hb dX8_goesThrough_191 rfl ?_
          refine lv_ldc2 (own := RX8) hx hb hown (hts _ w_2091) dX8_goesThrough_192 ?_
          refine lv_lxor hx hb dX8_goesThrough_195 ?_
          refine lv_land hx hb dX8_goesThrough_196 ?_
          refine r_last X I h15 dX8_goesThrough_197 (fun H locs I => ?_)
          have hn := s_k2 (s_sl_2 h15) hn
          exact k.2 p e s m below meth c _ _ _ _ _ X I hn.1 hn.2 (lv_sub hl [1, 2] rfl)
        · refine lv_icmp_ne (tgt := 198) hx hb dX8_goesThrough_179 (by decide) (fun _ => ?_) (fun n => absurd n c12)
          cases hf
          have k : s_V G (d + 7) M_X8_goesThrough vs0 σ0 Y_X8_goesThrough (198, [.ref v0, .int v1], q4.2) (e_V r) := k
          exact k.2 p e s m below meth c _ _ _ _ _ X I hn.1 hn.2 (lv_sub hl [1, 2] rfl)
    · refine lv_icmp_ne (tgt := 198) hx hb dX8_goesThrough_165 (by decide) (fun _ => ?_) (fun n => absurd n c8)
      cases hf
      have k : s_V G (d + 7) M_X8_goesThrough vs0 σ0 Y_X8_goesThrough (198, [.ref v0, .int v1], q3.2) (e_V r) := k
      exact k.2 p e s m below meth c _ _ _ _ _ X I hn.1 hn.2 (lv_sub hl [1, 2] rfl)
  · refine lv_icmp_ge (tgt := 150) hx hb dX8_goesThrough_61 (by decide) (fun n => absurd n c3) (fun _ => ?_)
    obtain ⟨q8, h17, hf⟩ := s_bind hf
    obtain ⟨x9, h18, hf⟩ := s_bind hf
    obtain ⟨x10, h19, hf⟩ := s_bind hf
    obtain ⟨x11, h20, hf⟩ := s_bind hf
    have le21 : s_le q8.2 (e_V r).2 := by
      refine s_lek hem_V ?_ k
      rcases s_ite hf with ⟨-, hf⟩ | ⟨-, hf⟩
      · cases hf
        exact s_le.rf
      · obtain ⟨x12, -, hf⟩ := s_bind hf
        obtain ⟨x13, -, hf⟩ := s_bind hf
        rcases s_ite hf with ⟨-, hf⟩ | ⟨-, hf⟩
        · cases hf
          exact s_le.rf
        · cases hf
          exact s_le.rf
    refine lv_aload_n hx hb dX8_goesThrough_64 rfl (lv_at hl 0 rfl) ?_
    refine lv_iload_n hx hb dX8_goesThrough_65 rfl (lv_at hl 1 rfl) ?_
    refine lv_iload_n hx hb dX8_goesThrough_66 rfl (lv_at hl 2 rfl) ?_
    refine r_callV (Y := M_X8_premise) (v := some (.int q8.1)) X I w_2043 my_X8_premise (by omega) (t_X8_premise (G := G) (d := d + 4) h17) (b_X8_premise h17) rfl rfl hl.1 rfl (Nat.le_of_ble_eq_true rfl) hn le21 dX8_goesThrough_67 (fun H locs cells slots I hn1 hn2 => ?_)
    have I : s_I G q8.2 s H locs := I
    have hn : cells + σ0.2.1 ≤ q8.2.2.1 ∧ slots + σ0.2.2.1 ≤ q8.2.2.2.1 := ⟨hn1, hn2⟩
    refine lv_istore_n (lv' := [(3, .int q8.1), (0, .ref v0), (1, .int v1), (2, .int v2)]) hx hb dX8_goesThrough_70 rfl hl (by decide) rfl (fun ls hl => ?_)
    refine lv_aload_n hx hb dX8_goesThrough_71 rfl (lv_at hl 1 rfl) ?_
    refine r_gr X I fl_X8_39 h18 dX8_goesThrough_72 ?_
    refine lv_iload_n hx hb dX8_goesThrough_75 rfl (lv_at hl 2 rfl) ?_
    refine lv_aload_n hx hb dX8_goesThrough_76 rfl (lv_at hl 1 rfl) ?_
    refine r_gr X I fl_X8_39 h19 dX8_goesThrough_77 ?_
    refine lv_iload_n hx hb dX8_goesThrough_80 rfl (lv_at hl 2 rfl) ?_
    refine r_bald X I h20 dX8_goesThrough_81 ?_
    rcases s_ite hf with ⟨c22, hf⟩ | ⟨c22, hf⟩
    · refine lv_if_eq (tgt := 98) hx hb dX8_goesThrough_82 (by decide) (fun _ => ?_) (fun n => absurd c22 n)
      cases hf
      have k : s_V G (d + 7) M_X8_goesThrough vs0 σ0 Y_X8_goesThrough (98, [.ref v0, .int v1, .int v2, .int q8.1, .int v1, .ref x9], q8.2) (e_V r) := k
      exact k.2 p e s m below meth c _ _ _ _ _ X I hn.1 hn.2 (lv_sub hl [1, 2, 3, 0] rfl)
    · refine lv_if_eq (tgt := 98) hx hb dX8_goesThrough_82 (by decide) (fun n => absurd n c22) (fun _ => ?_)
      obtain ⟨x12, h23, hf⟩ := s_bind hf
      obtain ⟨x13, h24, hf⟩ := s_bind hf
      refine lv_aload_n hx hb dX8_goesThrough_85 rfl (lv_at hl 1 rfl) ?_
      refine r_gr X I fl_X8_39 h23 dX8_goesThrough_86 ?_
      refine lv_iload_n hx hb dX8_goesThrough_89 rfl (lv_at hl 0 rfl) ?_
      refine r_bald X I h24 dX8_goesThrough_90 ?_
      rcases s_ite hf with ⟨c25, hf⟩ | ⟨c25, hf⟩
      · refine lv_if_eq (tgt := 98) hx hb dX8_goesThrough_91 (by decide) (fun _ => ?_) (fun n => absurd c25 n)
        cases hf
        have k : s_V G (d + 7) M_X8_goesThrough vs0 σ0 Y_X8_goesThrough (98, [.ref v0, .int v1, .int v2, .int q8.1, .int v1, .ref x9], q8.2) (e_V r) := k
        exact k.2 p e s m below meth c _ _ _ _ _ X I hn.1 hn.2 (lv_sub hl [1, 2, 3, 0] rfl)
      · refine lv_if_eq (tgt := 98) hx hb dX8_goesThrough_91 (by decide) (fun n => absurd n c25) (fun _ => ?_)
        cases hf
        have k : s_V G (d + 7) M_X8_goesThrough vs0 σ0 Y_X8_goesThrough (99, [.ref v0, .int v1, .int v2, .int q8.1, .int 1, .int v1, .ref x9], q8.2) (e_V r) := k
        refine lv_iconst (v := 1) hx hb dX8_goesThrough_94 (by decide) ?_
        refine lv_goto (tgt := 99) hx hb dX8_goesThrough_95 (by decide) ?_
        exact k.2 p e s m below meth c _ _ _ _ _ X I hn.1 hn.2 (lv_sub hl [1, 2, 3, 0] rfl)
set_option maxRecDepth 100000 in
set_option maxHeartbeats 4000000 in
theorem v_X8_goesThrough_98 {G : sG} {d : Nat} {vs0 : List Value} {σ0 : sS} {v0 : Nat} {v1 : Int32} {v2 : Int32} {v3 : Int32} {w0 : Int32} {w1 : Nat} {σ : sS} {z : sZ Unit} {r : Unit × sS} (hf : T_X8_goesThrough_98 v0 v1 v2 v3 w0 w1 σ = some z) (k : s_K G (d + 7) M_X8_goesThrough vs0 σ0 Y_X8_goesThrough e_V z r) : s_V G (d + 7) M_X8_goesThrough vs0 σ0 Y_X8_goesThrough (98, [.ref v0, .int v1, .int v2, .int v3, .int w0, .ref w1], σ) (e_V r) := by
  have le0 : s_le σ (e_V r).2 := s_lek hem_V (l_X8_goesThrough_98 hf) k
  refine ⟨le0, ?_⟩
  intro p e s m below meth c H locs cells slots ls X I hn1 hn2 hl
  have hn : cells + σ0.2.1 ≤ σ.2.1 ∧ slots + σ0.2.2.1 ≤ σ.2.2.1 := ⟨hn1, hn2⟩
  have hl : lv_has ls 4 [(0, .ref v0), (1, .int v1), (2, .int v2), (3, .int v3)] := hl
  have hx := X.1
  have hb : c.code = cX8_goesThrough := X.2.1
  have hown : s.vm.findClass RX8 = some m.cls := X.2.2.2.2.2.1
  have hts := X.2.2.2.2.2.2.1
  refine W.eq (g2 := F0 m 98 ls [.int w0, .ref w1]) rfl ?_
  unfold T_X8_goesThrough_98 at hf
  cases hf
  have k : s_V G (d + 7) M_X8_goesThrough vs0 σ0 Y_X8_goesThrough (99, [.ref v0, .int v1, .int v2, .int v3, .int 0, .int w0, .ref w1], σ) (e_V r) := k
  refine lv_iconst (v := 0) hx hb dX8_goesThrough_98 (by decide) ?_
  exact k.2 p e s m below meth c _ _ _ _ _ X I hn.1 hn.2 (lv_sub hl [0, 1, 2, 3] rfl)
set_option maxRecDepth 100000 in
set_option maxHeartbeats 4000000 in
theorem v_X8_goesThrough_99 {G : sG} {d : Nat} {vs0 : List Value} {σ0 : sS} {v0 : Nat} {v1 : Int32} {v2 : Int32} {v3 : Int32} {w0 : Int32} {w1 : Int32} {w2 : Nat} {σ : sS} {z : sZ Unit} {r : Unit × sS} (hf : T_X8_goesThrough_99 v0 v1 v2 v3 w0 w1 w2 σ = some z) (k : s_K G (d + 7) M_X8_goesThrough vs0 σ0 Y_X8_goesThrough e_V z r) : s_V G (d + 7) M_X8_goesThrough vs0 σ0 Y_X8_goesThrough (99, [.ref v0, .int v1, .int v2, .int v3, .int w0, .int w1, .ref w2], σ) (e_V r) := by
  have le0 : s_le σ (e_V r).2 := s_lek hem_V (l_X8_goesThrough_99 hf) k
  refine ⟨le0, ?_⟩
  intro p e s m below meth c H locs cells slots ls X I hn1 hn2 hl
  have hn : cells + σ0.2.1 ≤ σ.2.1 ∧ slots + σ0.2.2.1 ≤ σ.2.2.1 := ⟨hn1, hn2⟩
  have hl : lv_has ls 4 [(0, .ref v0), (1, .int v1), (2, .int v2), (3, .int v3)] := hl
  have hx := X.1
  have hb : c.code = cX8_goesThrough := X.2.1
  have hown : s.vm.findClass RX8 = some m.cls := X.2.2.2.2.2.1
  have hts := X.2.2.2.2.2.2.1
  refine W.eq (g2 := F0 m 99 ls [.int w0, .int w1, .ref w2]) rfl ?_
  unfold T_X8_goesThrough_99 at hf
  obtain ⟨σ1, h1, hf⟩ := s_bind hf
  obtain ⟨x2, h2, hf⟩ := s_bind hf
  obtain ⟨x3, h3, hf⟩ := s_bind hf
  obtain ⟨q4, h4, hf⟩ := s_bind hf
  have le5 : s_le q4.2 (e_V r).2 := by
    refine s_lek hem_V ?_ k
    rcases s_ite hf with ⟨-, hf⟩ | ⟨-, hf⟩
    · obtain ⟨x5, -, hf⟩ := s_bind hf
      obtain ⟨x6, -, hf⟩ := s_bind hf
      cases hf
      exact s_le.rf
    · cases hf
      exact s_le.rf
  have le6 := s_le.tr (l_X8_ofLine h4) le5
  refine r_bast X I h1 dX8_goesThrough_99 (fun H locs I => ?_)
  have hn := s_k2 (s_sb_2 h1) hn
  refine lv_aload_n hx hb dX8_goesThrough_100 rfl (lv_at hl 0 rfl) ?_
  refine r_gr X I fl_X8_43 h2 dX8_goesThrough_101 ?_
  refine lv_iload_n hx hb dX8_goesThrough_104 rfl (lv_at hl 1 rfl) ?_
  refine lv_dup2_11 hx hb dX8_goesThrough_105 rfl rfl ?_
  refine r_lald X I h3 dX8_goesThrough_106 ?_
  refine lv_aload_n hx hb dX8_goesThrough_107 rfl (lv_at hl 0 rfl) ?_
  refine lv_iload_n hx hb dX8_goesThrough_108 rfl (lv_at hl 1 rfl) ?_
  refine lv_iconst (v := 2) hx hb dX8_goesThrough_109 (by decide) ?_
  refine r_callV (Y := M_X8_ofLine) (v := some (.int q4.1)) X I w_2015 my_X8_ofLine (by omega) (t_X8_ofLine (G := G) (d := d + 5) h4) (b_X8_ofLine h4) rfl rfl hl.1 rfl (Nat.le_of_ble_eq_true rfl) hn le5 dX8_goesThrough_110 (fun H locs cells slots I hn1 hn2 => ?_)
  have I : s_I G q4.2 s H locs := I
  have hn : cells + σ0.2.1 ≤ q4.2.2.1 ∧ slots + σ0.2.2.1 ≤ q4.2.2.2.1 := ⟨hn1, hn2⟩
  refine lv_iconst (v := 2) hx hb dX8_goesThrough_113 (by decide) ?_
  rcases s_ite hf with ⟨c7, hf⟩ | ⟨c7, hf⟩
  · refine lv_icmp_ge (tgt := 121) hx hb dX8_goesThrough_114 (by decide) (fun _ => ?_) (fun n => absurd c7 n)
    obtain ⟨x5, h8, hf⟩ := s_bind hf
    obtain ⟨x6, h9, hf⟩ := s_bind hf
    cases hf
    have k : s_V G (d + 7) M_X8_goesThrough vs0 σ0 Y_X8_goesThrough (127, [.ref v0, .int v1, .int v2, .int v3, .long x6, .long x3, .int v1, .ref x2], q4.2) (e_V r) := k
    refine lv_aload_n hx hb dX8_goesThrough_121 rfl (lv_at hl 0 rfl) ?_
    refine r_gr X I fl_X8_43 h8 dX8_goesThrough_122 ?_
    refine lv_iload_n hx hb dX8_goesThrough_125 rfl (lv_at hl 3 rfl) ?_
    refine r_lald X I h9 dX8_goesThrough_126 ?_
    exact k.2 p e s m below meth c _ _ _ _ _ X I hn.1 hn.2 (lv_sub hl [0, 1, 2, 3] rfl)
  · refine lv_icmp_ge (tgt := 121) hx hb dX8_goesThrough_114 (by decide) (fun n => absurd n c7) (fun _ => ?_)
    cases hf
    have k : s_V G (d + 7) M_X8_goesThrough vs0 σ0 Y_X8_goesThrough (127, [.ref v0, .int v1, .int v2, .int v3, .long 0, .long x3, .int v1, .ref x2], q4.2) (e_V r) := k
    refine lv_lconst (v := 0) hx hb dX8_goesThrough_117 (by decide) ?_
    refine lv_goto (tgt := 127) hx hb dX8_goesThrough_118 (by decide) ?_
    exact k.2 p e s m below meth c _ _ _ _ _ X I hn.1 hn.2 (lv_sub hl [0, 1, 2, 3] rfl)
set_option maxRecDepth 100000 in
set_option maxHeartbeats 4000000 in
theorem v_X8_goesThrough_127 {G : sG} {d : Nat} {vs0 : List Value} {σ0 : sS} {v0 : Nat} {v1 : Int32} {v2 : Int32} {v3 : Int32} {w0 : Int64} {w1 : Int64} {w2 : Int32} {w3 : Nat} {σ : sS} {z : sZ Unit} {r : Unit × sS} (hf : T_X8_goesThrough_127 v0 v1 v2 v3 w0 w1 w2 w3 σ = some z) (k : s_K G (d + 7) M_X8_goesThrough vs0 σ0 Y_X8_goesThrough e_V z r) : s_V G (d + 7) M_X8_goesThrough vs0 σ0 Y_X8_goesThrough (127, [.ref v0, .int v1, .int v2, .int v3, .long w0, .long w1, .int w2, .ref w3], σ) (e_V r) := by
  have le0 : s_le σ (e_V r).2 := s_lek hem_V (l_X8_goesThrough_127 hf) k
  refine ⟨le0, ?_⟩
  intro p e s m below meth c H locs cells slots ls X I hn1 hn2 hl
  have hn : cells + σ0.2.1 ≤ σ.2.1 ∧ slots + σ0.2.2.1 ≤ σ.2.2.1 := ⟨hn1, hn2⟩
  have hl : lv_has ls 4 [(0, .ref v0), (1, .int v1), (2, .int v2), (3, .int v3)] := hl
  have hx := X.1
  have hb : c.code = cX8_goesThrough := X.2.1
  have hown : s.vm.findClass RX8 = some m.cls := X.2.2.2.2.2.1
  have hts := X.2.2.2.2.2.2.1
  refine W.eq (g2 := F0 m 127 ls [.long w0, .long w1, .int w2, .ref w3]) rfl ?_
  unfold T_X8_goesThrough_127 at hf
  obtain ⟨σ1, h1, hf⟩ := s_bind hf
  obtain ⟨x2, h2, hf⟩ := s_bind hf
  obtain ⟨x3, h3, hf⟩ := s_bind hf
  obtain ⟨x4, h4, hf⟩ := s_bind hf
  obtain ⟨x5, h5, hf⟩ := s_bind hf
  obtain ⟨σ6, h6, hf⟩ := s_bind hf
  cases hf
  have k : s_V G (d + 7) M_X8_goesThrough vs0 σ0 Y_X8_goesThrough (55, [.ref v0, .int v1, .int (v2 + 1)], σ6) (e_V r) := k
  have le7 : s_le σ6 (e_V r).2 := k.1
  have le8 := s_le.tr (s_le2 (s_sl_2 h6)) le7
  refine lv_lor hx hb dX8_goesThrough_127 ?_
  refine r_last X I h1 dX8_goesThrough_128 (fun H locs I => ?_)
  have hn := s_k2 (s_sl_2 h1) hn
  refine lv_aload_n hx hb dX8_goesThrough_129 rfl (lv_at hl 0 rfl) ?_
  refine r_gr X I fl_X8_47 h2 dX8_goesThrough_130 ?_
  refine lv_iload_n hx hb dX8_goesThrough_133 rfl (lv_at hl 1 rfl) ?_
  refine lv_dup2_11 hx hb dX8_goesThrough_134 rfl rfl ?_
  refine r_lald X I h3 dX8_goesThrough_135 ?_
  refine lv_aload_n hx hb dX8_goesThrough_136 rfl (lv_at hl 0 rfl) ?_
  refine r_gr X I fl_X8_47 h4 dX8_goesThrough_137 ?_
  refine lv_iload_n hx hb dX8_goesThrough_140 rfl (lv_at hl 3 rfl) ?_
  refine r_lald X I h5 dX8_goesThrough_141 ?_
  refine lv_lor hx hb dX8_goesThrough_142 ?_
  refine r_last X I h6 dX8_goesThrough_143 (fun H locs I => ?_)
  have hn := s_k2 (s_sl_2 h6) hn
  refine lv_iinc (v := (v2 + 1)) (lv' := [(2, .int (v2 + 1)), (0, .ref v0), (1, .int v1), (3, .int v3)]) hx hb dX8_goesThrough_144 hl (k := 2) rfl rfl (by decide) rfl (fun ls hl => ?_)
  refine lv_goto (tgt := 55) hx hb dX8_goesThrough_147 (by decide) ?_
  exact k.2 p e s m below meth c _ _ _ _ _ X I hn.1 hn.2 (lv_sub hl [1, 2, 0] rfl)
set_option maxRecDepth 100000 in
set_option maxHeartbeats 4000000 in
theorem v_X8_goesThrough_198 {G : sG} {d : Nat} {vs0 : List Value} {σ0 : sS} {v0 : Nat} {v1 : Int32} {σ : sS} {z : sZ Unit} {r : Unit × sS} (hf : T_X8_goesThrough_198 v0 v1 σ = some z) (k : s_K G (d + 7) M_X8_goesThrough vs0 σ0 Y_X8_goesThrough e_V z r) : s_V G (d + 7) M_X8_goesThrough vs0 σ0 Y_X8_goesThrough (198, [.ref v0, .int v1], σ) (e_V r) := by
  have le0 : s_le σ (e_V r).2 := s_lek hem_V (l_X8_goesThrough_198 hf) k
  refine ⟨le0, ?_⟩
  intro p e s m below meth c H locs cells slots ls X I hn1 hn2 hl
  have hn : cells + σ0.2.1 ≤ σ.2.1 ∧ slots + σ0.2.2.1 ≤ σ.2.2.1 := ⟨hn1, hn2⟩
  have hl : lv_has ls 4 [(0, .ref v0), (1, .int v1)] := hl
  have hx := X.1
  have hb : c.code = cX8_goesThrough := X.2.1
  have hown : s.vm.findClass RX8 = some m.cls := X.2.2.2.2.2.1
  have hts := X.2.2.2.2.2.2.1
  refine W.eq (g2 := F0 m 198 ls []) rfl ?_
  unfold T_X8_goesThrough_198 at hf
  cases hf
  have k : s_V G (d + 7) M_X8_goesThrough vs0 σ0 Y_X8_goesThrough (2, [.ref v0, .int (v1 + 1)], σ) (e_V r) := k
  refine lv_iinc (v := (v1 + 1)) (lv' := [(1, .int (v1 + 1)), (0, .ref v0)]) hx hb dX8_goesThrough_198 hl (k := 1) rfl rfl (by decide) rfl (fun ls hl => ?_)
  refine lv_goto (tgt := 2) hx hb dX8_goesThrough_201 (by decide) ?_
  exact k.2 p e s m below meth c _ _ _ _ _ X I hn.1 hn.2 (lv_sub hl [1, 0] rfl)
theorem v_X8_goesThrough {G : sG} {d : Nat} {vs0 : List Value} {σ0 : sS} {x : sL} {z : sZ Unit} {r : Unit × sS} (hs : S_X8_goesThrough x = some z) (k : s_K G (d + 7) M_X8_goesThrough vs0 σ0 Y_X8_goesThrough e_V z r) : s_V G (d + 7) M_X8_goesThrough vs0 σ0 Y_X8_goesThrough x (e_V r) := by
  obtain ⟨pc, vs, σ⟩ := x
  unfold S_X8_goesThrough at hs
  dsimp only at hs
  rcases s_ite hs with ⟨c, hs⟩ | ⟨-, hs⟩
  · subst c
    unfold U_X8_goesThrough_0 at hs
    obtain ⟨a0, g0, hs⟩ := s_bind hs
    obtain ⟨u9, ge, hs⟩ := s_bind hs
    rw [g_r_to g0, g_e_to ge]
    exact v_X8_goesThrough_0 hs k
  rcases s_ite hs with ⟨c, hs⟩ | ⟨-, hs⟩
  · subst c
    unfold U_X8_goesThrough_2 at hs
    obtain ⟨a0, g0, hs⟩ := s_bind hs
    obtain ⟨a1, g1, hs⟩ := s_bind hs
    obtain ⟨u9, ge, hs⟩ := s_bind hs
    rw [g_r_to g0, g_i_to g1, g_e_to ge]
    exact v_X8_goesThrough_2 hs k
  rcases s_ite hs with ⟨c, hs⟩ | ⟨-, hs⟩
  · subst c
    unfold U_X8_goesThrough_43 at hs
    obtain ⟨a0, g0, hs⟩ := s_bind hs
    obtain ⟨a1, g1, hs⟩ := s_bind hs
    obtain ⟨a2, g2, hs⟩ := s_bind hs
    obtain ⟨a3, g3, hs⟩ := s_bind hs
    obtain ⟨a4, g4, hs⟩ := s_bind hs
    obtain ⟨u9, ge, hs⟩ := s_bind hs
    rw [g_r_to g0, g_i_to g1, g_l_to g2, g_i_to g3, g_r_to g4, g_e_to ge]
    exact v_X8_goesThrough_43 hs k
  rcases s_ite hs with ⟨c, hs⟩ | ⟨-, hs⟩
  · subst c
    unfold U_X8_goesThrough_55 at hs
    obtain ⟨a0, g0, hs⟩ := s_bind hs
    obtain ⟨a1, g1, hs⟩ := s_bind hs
    obtain ⟨a2, g2, hs⟩ := s_bind hs
    obtain ⟨u9, ge, hs⟩ := s_bind hs
    rw [g_r_to g0, g_i_to g1, g_i_to g2, g_e_to ge]
    exact v_X8_goesThrough_55 hs k
  rcases s_ite hs with ⟨c, hs⟩ | ⟨-, hs⟩
  · subst c
    unfold U_X8_goesThrough_98 at hs
    obtain ⟨a0, g0, hs⟩ := s_bind hs
    obtain ⟨a1, g1, hs⟩ := s_bind hs
    obtain ⟨a2, g2, hs⟩ := s_bind hs
    obtain ⟨a3, g3, hs⟩ := s_bind hs
    obtain ⟨a4, g4, hs⟩ := s_bind hs
    obtain ⟨a5, g5, hs⟩ := s_bind hs
    obtain ⟨u9, ge, hs⟩ := s_bind hs
    rw [g_r_to g0, g_i_to g1, g_i_to g2, g_i_to g3, g_i_to g4, g_r_to g5, g_e_to ge]
    exact v_X8_goesThrough_98 hs k
  rcases s_ite hs with ⟨c, hs⟩ | ⟨-, hs⟩
  · subst c
    unfold U_X8_goesThrough_99 at hs
    obtain ⟨a0, g0, hs⟩ := s_bind hs
    obtain ⟨a1, g1, hs⟩ := s_bind hs
    obtain ⟨a2, g2, hs⟩ := s_bind hs
    obtain ⟨a3, g3, hs⟩ := s_bind hs
    obtain ⟨a4, g4, hs⟩ := s_bind hs
    obtain ⟨a5, g5, hs⟩ := s_bind hs
    obtain ⟨a6, g6, hs⟩ := s_bind hs
    obtain ⟨u9, ge, hs⟩ := s_bind hs
    rw [g_r_to g0, g_i_to g1, g_i_to g2, g_i_to g3, g_i_to g4, g_i_to g5, g_r_to g6, g_e_to ge]
    exact v_X8_goesThrough_99 hs k
  rcases s_ite hs with ⟨c, hs⟩ | ⟨-, hs⟩
  · subst c
    unfold U_X8_goesThrough_127 at hs
    obtain ⟨a0, g0, hs⟩ := s_bind hs
    obtain ⟨a1, g1, hs⟩ := s_bind hs
    obtain ⟨a2, g2, hs⟩ := s_bind hs
    obtain ⟨a3, g3, hs⟩ := s_bind hs
    obtain ⟨a4, g4, hs⟩ := s_bind hs
    obtain ⟨a5, g5, hs⟩ := s_bind hs
    obtain ⟨a6, g6, hs⟩ := s_bind hs
    obtain ⟨a7, g7, hs⟩ := s_bind hs
    obtain ⟨u9, ge, hs⟩ := s_bind hs
    rw [g_r_to g0, g_i_to g1, g_i_to g2, g_i_to g3, g_l_to g4, g_l_to g5, g_i_to g6, g_r_to g7, g_e_to ge]
    exact v_X8_goesThrough_127 hs k
  rcases s_ite hs with ⟨c, hs⟩ | ⟨-, hs⟩
  · subst c
    unfold U_X8_goesThrough_198 at hs
    obtain ⟨a0, g0, hs⟩ := s_bind hs
    obtain ⟨a1, g1, hs⟩ := s_bind hs
    obtain ⟨u9, ge, hs⟩ := s_bind hs
    rw [g_r_to g0, g_i_to g1, g_e_to ge]
    exact v_X8_goesThrough_198 hs k
  cases hs
theorem t_X8_goesThrough {G : sG} {d : Nat} {v0 : Nat} {σ : sS} {q : Unit × sS} (h : F_X8_goesThrough v0 σ = some q) : s_T G (d + 7) M_X8_goesThrough [.ref v0] σ (e_V q) := by
  unfold F_X8_goesThrough at h
  obtain ⟨-, -, h⟩ := s_bind h
  exact s_ofV rfl (by decide) (Nat.le_of_ble_eq_true rfl) rfl rfl (s_run_ind (V := fun x r => s_V G (d + 7) M_X8_goesThrough [.ref v0] σ Y_X8_goesThrough x (e_V r)) (fun x z r hs hk => v_X8_goesThrough hs (by cases z <;> exact hk)) h)
/-! X8_isOpen -/
noncomputable def T_X8_isOpen_0 (v0 : Nat) (v1 : Int32) (σ : sS) : Option (sZ Int32) :=
  some (.inl (4, [.ref v0, .int v1, .int 0, .int 0], σ))
noncomputable def U_X8_isOpen_0 (vs : List Value) (σ : sS) : Option (sZ Int32) := (g_r vs).bind fun a0 => (g_i a0.2).bind fun a1 => (g_e a1.2).bind fun _ => T_X8_isOpen_0 a0.1 a1.1 σ
noncomputable def T_X8_isOpen_4 (v0 : Nat) (v1 : Int32) (v2 : Int32) (v3 : Int32) (σ : sS) : Option (sZ Int32) :=
  (F_X8_lines v0 σ).bind fun q1 =>
  if q1.1 ≤ v3 then (if (v2 = 0 ∨ v2 = 1) then (some (.inr (v2, q1.2))) else none)
  else (if v2 = 0 then ((s_fr q1.2 v0 8 18).bind fun x2 =>
  (s_al q1.2 x2 v1).bind fun x3 =>
  if (lg_cmp ((x3 >>> ((v3 : Int32).toInt64 &&& 63)) &&& 1) 1) = 0 then ((F_X8_ofLine v0 v3 2 q1.2).bind fun q4 =>
  if q4.1 = 1 then (some (.inl (41, [.ref v0, .int v1, .int v3], q4.2)))
  else (some (.inl (45, [.ref v0, .int v1, .int v3], q4.2))))
  else (some (.inl (45, [.ref v0, .int v1, .int v3], q1.2))))
  else (some (.inl (41, [.ref v0, .int v1, .int v3], q1.2))))
noncomputable def U_X8_isOpen_4 (vs : List Value) (σ : sS) : Option (sZ Int32) := (g_r vs).bind fun a0 => (g_i a0.2).bind fun a1 => (g_i a1.2).bind fun a2 => (g_i a2.2).bind fun a3 => (g_e a3.2).bind fun _ => T_X8_isOpen_4 a0.1 a1.1 a2.1 a3.1 σ
noncomputable def T_X8_isOpen_41 (v0 : Nat) (v1 : Int32) (v3 : Int32) (σ : sS) : Option (sZ Int32) :=
  some (.inl (46, [.ref v0, .int v1, .int v3, .int 1], σ))
noncomputable def U_X8_isOpen_41 (vs : List Value) (σ : sS) : Option (sZ Int32) := (g_r vs).bind fun a0 => (g_i a0.2).bind fun a1 => (g_i a1.2).bind fun a2 => (g_e a2.2).bind fun _ => T_X8_isOpen_41 a0.1 a1.1 a2.1 σ
noncomputable def T_X8_isOpen_45 (v0 : Nat) (v1 : Int32) (v3 : Int32) (σ : sS) : Option (sZ Int32) :=
  some (.inl (46, [.ref v0, .int v1, .int v3, .int 0], σ))
noncomputable def U_X8_isOpen_45 (vs : List Value) (σ : sS) : Option (sZ Int32) := (g_r vs).bind fun a0 => (g_i a0.2).bind fun a1 => (g_i a1.2).bind fun a2 => (g_e a2.2).bind fun _ => T_X8_isOpen_45 a0.1 a1.1 a2.1 σ
noncomputable def T_X8_isOpen_46 (v0 : Nat) (v1 : Int32) (v3 : Int32) (w0 : Int32) (σ : sS) : Option (sZ Int32) :=
  some (.inl (4, [.ref v0, .int v1, .int w0, .int (v3 + 1)], σ))
noncomputable def U_X8_isOpen_46 (vs : List Value) (σ : sS) : Option (sZ Int32) := (g_r vs).bind fun a0 => (g_i a0.2).bind fun a1 => (g_i a1.2).bind fun a2 => (g_i a2.2).bind fun a3 => (g_e a3.2).bind fun _ => T_X8_isOpen_46 a0.1 a1.1 a2.1 a3.1 σ
noncomputable def S_X8_isOpen (x : sL) : Option (sZ Int32) := if x.1 = 0 then U_X8_isOpen_0 x.2.1 x.2.2 else if x.1 = 4 then U_X8_isOpen_4 x.2.1 x.2.2 else if x.1 = 41 then U_X8_isOpen_41 x.2.1 x.2.2 else if x.1 = 45 then U_X8_isOpen_45 x.2.1 x.2.2 else if x.1 = 46 then U_X8_isOpen_46 x.2.1 x.2.2 else none
def Y_X8_isOpen (pc : Nat) : List Nat := if pc = 0 then [0, 1] else if pc = 4 then [0, 1, 2, 3] else if pc = 41 then [0, 1, 3] else if pc = 45 then [0, 1, 3] else if pc = 46 then [0, 1, 3] else []
noncomputable def F_X8_isOpen (v0 : Nat) (v1 : Int32) (σ : sS) : Option (Int32 × sS) := (s_is σ v0 8).bind fun _ => s_run S_X8_isOpen (0, [.ref v0, .int v1], σ)
theorem l_X8_isOpen_0 {v0 : Nat} {v1 : Int32} {σ : sS} {z : sZ Int32} (hf : T_X8_isOpen_0 v0 v1 σ = some z) : s_lz σ z := by
  unfold T_X8_isOpen_0 at hf
  cases hf
  exact s_le.rf
theorem l_X8_isOpen_4 {v0 : Nat} {v1 : Int32} {v2 : Int32} {v3 : Int32} {σ : sS} {z : sZ Int32} (hf : T_X8_isOpen_4 v0 v1 v2 v3 σ = some z) : s_lz σ z := by
  unfold T_X8_isOpen_4 at hf
  obtain ⟨q1, hh, hf⟩ := s_bind hf
  refine s_lz.tr (l_X8_lines hh) ?_
  rcases s_ite hf with ⟨-, hf⟩ | ⟨-, hf⟩
  · rcases s_ite hf with ⟨-, hf⟩ | ⟨-, hf⟩
    · cases hf
      exact s_le.rf
    · cases hf
  · rcases s_ite hf with ⟨-, hf⟩ | ⟨-, hf⟩
    · obtain ⟨x2, -, hf⟩ := s_bind hf
      obtain ⟨x3, -, hf⟩ := s_bind hf
      rcases s_ite hf with ⟨-, hf⟩ | ⟨-, hf⟩
      · obtain ⟨q4, hh, hf⟩ := s_bind hf
        refine s_lz.tr (l_X8_ofLine hh) ?_
        rcases s_ite hf with ⟨-, hf⟩ | ⟨-, hf⟩
        · cases hf
          exact s_le.rf
        · cases hf
          exact s_le.rf
      · cases hf
        exact s_le.rf
    · cases hf
      exact s_le.rf
theorem l_X8_isOpen_41 {v0 : Nat} {v1 : Int32} {v3 : Int32} {σ : sS} {z : sZ Int32} (hf : T_X8_isOpen_41 v0 v1 v3 σ = some z) : s_lz σ z := by
  unfold T_X8_isOpen_41 at hf
  cases hf
  exact s_le.rf
theorem l_X8_isOpen_45 {v0 : Nat} {v1 : Int32} {v3 : Int32} {σ : sS} {z : sZ Int32} (hf : T_X8_isOpen_45 v0 v1 v3 σ = some z) : s_lz σ z := by
  unfold T_X8_isOpen_45 at hf
  cases hf
  exact s_le.rf
theorem l_X8_isOpen_46 {v0 : Nat} {v1 : Int32} {v3 : Int32} {w0 : Int32} {σ : sS} {z : sZ Int32} (hf : T_X8_isOpen_46 v0 v1 v3 w0 σ = some z) : s_lz σ z := by
  unfold T_X8_isOpen_46 at hf
  cases hf
  exact s_le.rf
theorem l_X8_isOpen_s {x : sL} {z : sZ Int32} (hs : S_X8_isOpen x = some z) : s_lz x.2.2 z := by
  obtain ⟨pc, vs, σ⟩ := x
  unfold S_X8_isOpen at hs
  dsimp only at hs ⊢
  rcases s_ite hs with ⟨c, hs⟩ | ⟨-, hs⟩
  · subst c
    unfold U_X8_isOpen_0 at hs
    obtain ⟨a0, g0, hs⟩ := s_bind hs
    obtain ⟨a1, g1, hs⟩ := s_bind hs
    obtain ⟨u9, ge, hs⟩ := s_bind hs
    exact l_X8_isOpen_0 hs
  rcases s_ite hs with ⟨c, hs⟩ | ⟨-, hs⟩
  · subst c
    unfold U_X8_isOpen_4 at hs
    obtain ⟨a0, g0, hs⟩ := s_bind hs
    obtain ⟨a1, g1, hs⟩ := s_bind hs
    obtain ⟨a2, g2, hs⟩ := s_bind hs
    obtain ⟨a3, g3, hs⟩ := s_bind hs
    obtain ⟨u9, ge, hs⟩ := s_bind hs
    exact l_X8_isOpen_4 hs
  rcases s_ite hs with ⟨c, hs⟩ | ⟨-, hs⟩
  · subst c
    unfold U_X8_isOpen_41 at hs
    obtain ⟨a0, g0, hs⟩ := s_bind hs
    obtain ⟨a1, g1, hs⟩ := s_bind hs
    obtain ⟨a2, g2, hs⟩ := s_bind hs
    obtain ⟨u9, ge, hs⟩ := s_bind hs
    exact l_X8_isOpen_41 hs
  rcases s_ite hs with ⟨c, hs⟩ | ⟨-, hs⟩
  · subst c
    unfold U_X8_isOpen_45 at hs
    obtain ⟨a0, g0, hs⟩ := s_bind hs
    obtain ⟨a1, g1, hs⟩ := s_bind hs
    obtain ⟨a2, g2, hs⟩ := s_bind hs
    obtain ⟨u9, ge, hs⟩ := s_bind hs
    exact l_X8_isOpen_45 hs
  rcases s_ite hs with ⟨c, hs⟩ | ⟨-, hs⟩
  · subst c
    unfold U_X8_isOpen_46 at hs
    obtain ⟨a0, g0, hs⟩ := s_bind hs
    obtain ⟨a1, g1, hs⟩ := s_bind hs
    obtain ⟨a2, g2, hs⟩ := s_bind hs
    obtain ⟨a3, g3, hs⟩ := s_bind hs
    obtain ⟨u9, ge, hs⟩ := s_bind hs
    exact l_X8_isOpen_46 hs
  cases hs
theorem l_X8_isOpen {v0 : Nat} {v1 : Int32} {σ : sS} {q : Int32 × sS} (h : F_X8_isOpen v0 v1 σ = some q) : s_le σ q.2 := by
  unfold F_X8_isOpen at h
  obtain ⟨-, -, h⟩ := s_bind h
  exact s_run_ind (V := fun x r => s_le x.2.2 r.2) (fun x z r hs hk => by
    have h9 := l_X8_isOpen_s hs
    cases z with
    | inl y => exact s_le.tr h9 hk
    | inr q => cases hk; exact h9) h
theorem b_X8_isOpen {v0 : Nat} {v1 : Int32} {σ : sS} {q : Int32 × sS} (h : F_X8_isOpen v0 v1 σ = some q) : ∃ fs, σ.1 v0 = some (.inr (8, fs)) := by
  unfold F_X8_isOpen at h
  obtain ⟨u, hu, -⟩ := s_bind h
  exact s_is_to hu
set_option maxRecDepth 100000 in
set_option maxHeartbeats 4000000 in
theorem v_X8_isOpen_0 {G : sG} {d : Nat} {vs0 : List Value} {σ0 : sS} {v0 : Nat} {v1 : Int32} {σ : sS} {z : sZ Int32} {r : Int32 × sS} (hf : T_X8_isOpen_0 v0 v1 σ = some z) (k : s_K G (d + 2) M_X8_isOpen vs0 σ0 Y_X8_isOpen e_I z r) : s_V G (d + 2) M_X8_isOpen vs0 σ0 Y_X8_isOpen (0, [.ref v0, .int v1], σ) (e_I r) := by
  have le0 : s_le σ (e_I r).2 := s_lek hem_I (l_X8_isOpen_0 hf) k
  refine ⟨le0, ?_⟩
  intro p e s m below meth c H locs cells slots ls X I hn1 hn2 hl
  have hn : cells + σ0.2.1 ≤ σ.2.1 ∧ slots + σ0.2.2.1 ≤ σ.2.2.1 := ⟨hn1, hn2⟩
  have hl : lv_has ls 4 [(0, .ref v0), (1, .int v1)] := hl
  have hx := X.1
  have hb : c.code = cX8_isOpen := X.2.1
  have hown : s.vm.findClass RX8 = some m.cls := X.2.2.2.2.2.1
  have hts := X.2.2.2.2.2.2.1
  refine W.eq (g2 := F0 m 0 ls []) rfl ?_
  unfold T_X8_isOpen_0 at hf
  cases hf
  have k : s_V G (d + 2) M_X8_isOpen vs0 σ0 Y_X8_isOpen (4, [.ref v0, .int v1, .int 0, .int 0], σ) (e_I r) := k
  refine lv_iconst (v := 0) hx hb dX8_isOpen_0 (by decide) ?_
  refine lv_istore_n (lv' := [(2, .int 0), (0, .ref v0), (1, .int v1)]) hx hb dX8_isOpen_1 rfl hl (by decide) rfl (fun ls hl => ?_)
  refine lv_iconst (v := 0) hx hb dX8_isOpen_2 (by decide) ?_
  refine lv_istore_n (lv' := [(3, .int 0), (2, .int 0), (0, .ref v0), (1, .int v1)]) hx hb dX8_isOpen_3 rfl hl (by decide) rfl (fun ls hl => ?_)
  exact k.2 p e s m below meth c _ _ _ _ _ X I hn.1 hn.2 (lv_sub hl [2, 3, 1, 0] rfl)
set_option maxRecDepth 100000 in
set_option maxHeartbeats 4000000 in
theorem v_X8_isOpen_4 {G : sG} {d : Nat} {vs0 : List Value} {σ0 : sS} {v0 : Nat} {v1 : Int32} {v2 : Int32} {v3 : Int32} {σ : sS} {z : sZ Int32} {r : Int32 × sS} (hf : T_X8_isOpen_4 v0 v1 v2 v3 σ = some z) (k : s_K G (d + 2) M_X8_isOpen vs0 σ0 Y_X8_isOpen e_I z r) : s_V G (d + 2) M_X8_isOpen vs0 σ0 Y_X8_isOpen (4, [.ref v0, .int v1, .int v2, .int v3], σ) (e_I r) := by
  have le0 : s_le σ (e_I r).2 := s_lek hem_I (l_X8_isOpen_4 hf) k
  refine ⟨le0, ?_⟩
  intro p e s m below meth c H locs cells slots ls X I hn1 hn2 hl
  have hn : cells + σ0.2.1 ≤ σ.2.1 ∧ slots + σ0.2.2.1 ≤ σ.2.2.1 := ⟨hn1, hn2⟩
  have hl : lv_has ls 4 [(0, .ref v0), (1, .int v1), (2, .int v2), (3, .int v3)] := hl
  have hx := X.1
  have hb : c.code = cX8_isOpen := X.2.1
  have hown : s.vm.findClass RX8 = some m.cls := X.2.2.2.2.2.1
  have hts := X.2.2.2.2.2.2.1
  refine W.eq (g2 := F0 m 4 ls []) rfl ?_
  unfold T_X8_isOpen_4 at hf
  obtain ⟨q1, h1, hf⟩ := s_bind hf
  have le2 : s_le q1.2 (e_I r).2 := by
    refine s_lek hem_I ?_ k
    rcases s_ite hf with ⟨-, hf⟩ | ⟨-, hf⟩
    · rcases s_ite hf with ⟨-, hf⟩ | ⟨-, hf⟩
      · cases hf
        exact s_le.rf
      · cases hf
    · rcases s_ite hf with ⟨-, hf⟩ | ⟨-, hf⟩
      · obtain ⟨x2, -, hf⟩ := s_bind hf
        obtain ⟨x3, -, hf⟩ := s_bind hf
        rcases s_ite hf with ⟨-, hf⟩ | ⟨-, hf⟩
        · obtain ⟨q4, hh, hf⟩ := s_bind hf
          refine s_lz.tr (l_X8_ofLine hh) ?_
          rcases s_ite hf with ⟨-, hf⟩ | ⟨-, hf⟩
          · cases hf
            exact s_le.rf
          · cases hf
            exact s_le.rf
        · cases hf
          exact s_le.rf
      · cases hf
        exact s_le.rf
  refine lv_iload_n hx hb dX8_isOpen_4 rfl (lv_at hl 3 rfl) ?_
  refine lv_aload_n hx hb dX8_isOpen_5 rfl (lv_at hl 0 rfl) ?_
  refine r_callV (Y := M_X8_lines) (v := some (.int q1.1)) X I w_2003 my_X8_lines (by omega) (t_X8_lines (G := G) (d := d + 0) h1) (b_X8_lines h1) rfl rfl hl.1 rfl (Nat.le_of_ble_eq_true rfl) hn le2 dX8_isOpen_6 (fun H locs cells slots I hn1 hn2 => ?_)
  have I : s_I G q1.2 s H locs := I
  have hn : cells + σ0.2.1 ≤ q1.2.2.1 ∧ slots + σ0.2.2.1 ≤ q1.2.2.2.1 := ⟨hn1, hn2⟩
  rcases s_ite hf with ⟨c3, hf⟩ | ⟨c3, hf⟩
  · refine lv_icmp_ge (tgt := 53) hx hb dX8_isOpen_9 (by decide) (fun _ => ?_) (fun n => absurd c3 n)
    refine lv_iload_n hx hb dX8_isOpen_53 rfl (lv_at hl 2 rfl) ?_
    rcases s_ite hf with ⟨hchk, hf⟩ | ⟨-, hf⟩
    · cases hf
      have k : _ = r := k
      subst k
      exact r_iret X I rfl (s_nb hchk) rfl hn dX8_isOpen_54
    · cases hf
  · refine lv_icmp_ge (tgt := 53) hx hb dX8_isOpen_9 (by decide) (fun n => absurd n c3) (fun _ => ?_)
    refine lv_iload_n hx hb dX8_isOpen_12 rfl (lv_at hl 2 rfl) ?_
    rcases s_ite hf with ⟨c4, hf⟩ | ⟨c4, hf⟩
    · refine lv_if_ne (tgt := 41) hx hb dX8_isOpen_13 (by decide) (fun n => absurd c4 n) (fun _ => ?_)
      obtain ⟨x2, h5, hf⟩ := s_bind hf
      obtain ⟨x3, h6, hf⟩ := s_bind hf
      refine lv_aload_n hx hb dX8_isOpen_16 rfl (lv_at hl 0 rfl) ?_
      refine r_gr X I fl_X8_43 h5 dX8_isOpen_17 ?_
      refine lv_iload_n hx hb dX8_isOpen_20 rfl (lv_at hl 1 rfl) ?_
      refine r_lald X I h6 dX8_isOpen_21 ?_
      refine lv_iload_n hx hb dX8_isOpen_22 rfl (lv_at hl 3 rfl) ?_
      refine lv_lshr hx hb dX8_isOpen_23 rfl ?_
      refine lv_lconst (v := 1) hx hb dX8_isOpen_24 (by decide) ?_
      refine lv_land hx hb dX8_isOpen_25 ?_
      refine lv_lconst (v := 1) hx hb dX8_isOpen_26 (by decide) ?_
      refine W.lcmp hx hb dX8_isOpen_27 ?_
      rcases s_ite hf with ⟨c7, hf⟩ | ⟨c7, hf⟩
      · refine lv_if_ne (tgt := 45) hx hb dX8_isOpen_28 (by decide) (fun n => absurd c7 n) (fun _ => ?_)
        obtain ⟨q4, h8, hf⟩ := s_bind hf
        have le9 : s_le q4.2 (e_I r).2 := by
          refine s_lek hem_I ?_ k
          rcases s_ite hf with ⟨-, hf⟩ | ⟨-, hf⟩
          · cases hf
            exact s_le.rf
          · cases hf
            exact s_le.rf
        refine lv_aload_n hx hb dX8_isOpen_31 rfl (lv_at hl 0 rfl) ?_
        refine lv_iload_n hx hb dX8_isOpen_32 rfl (lv_at hl 3 rfl) ?_
        refine lv_iconst (v := 2) hx hb dX8_isOpen_33 (by decide) ?_
        refine r_callV (Y := M_X8_ofLine) (v := some (.int q4.1)) X I w_2015 my_X8_ofLine (by omega) (t_X8_ofLine (G := G) (d := d + 0) h8) (b_X8_ofLine h8) rfl rfl hl.1 rfl (Nat.le_of_ble_eq_true rfl) hn le9 dX8_isOpen_34 (fun H locs cells slots I hn1 hn2 => ?_)
        have I : s_I G q4.2 s H locs := I
        have hn : cells + σ0.2.1 ≤ q4.2.2.1 ∧ slots + σ0.2.2.1 ≤ q4.2.2.2.1 := ⟨hn1, hn2⟩
        refine lv_iconst (v := 1) hx hb dX8_isOpen_37 (by decide) ?_
        rcases s_ite hf with ⟨c10, hf⟩ | ⟨c10, hf⟩
        · refine lv_icmp_ne (tgt := 45) hx hb dX8_isOpen_38 (by decide) (fun n => absurd c10 n) (fun _ => ?_)
          cases hf
          have k : s_V G (d + 2) M_X8_isOpen vs0 σ0 Y_X8_isOpen (41, [.ref v0, .int v1, .int v3], q4.2) (e_I r) := k
          exact k.2 p e s m below meth c _ _ _ _ _ X I hn.1 hn.2 (lv_sub hl [0, 1, 3] rfl)
        · refine lv_icmp_ne (tgt := 45) hx hb dX8_isOpen_38 (by decide) (fun _ => ?_) (fun n => absurd n c10)
          cases hf
          have k : s_V G (d + 2) M_X8_isOpen vs0 σ0 Y_X8_isOpen (45, [.ref v0, .int v1, .int v3], q4.2) (e_I r) := k
          exact k.2 p e s m below meth c _ _ _ _ _ X I hn.1 hn.2 (lv_sub hl [0, 1, 3] rfl)
      · refine lv_if_ne (tgt := 45) hx hb dX8_isOpen_28 (by decide) (fun _ => ?_) (fun n => absurd n c7)
        cases hf
        have k : s_V G (d + 2) M_X8_isOpen vs0 σ0 Y_X8_isOpen (45, [.ref v0, .int v1, .int v3], q1.2) (e_I r) := k
        exact k.2 p e s m below meth c _ _ _ _ _ X I hn.1 hn.2 (lv_sub hl [0, 1, 3] rfl)
    · refine lv_if_ne (tgt := 41) hx hb dX8_isOpen_13 (by decide) (fun _ => ?_) (fun n => absurd n c4)
      cases hf
      have k : s_V G (d + 2) M_X8_isOpen vs0 σ0 Y_X8_isOpen (41, [.ref v0, .int v1, .int v3], q1.2) (e_I r) := k
      exact k.2 p e s m below meth c _ _ _ _ _ X I hn.1 hn.2 (lv_sub hl [0, 1, 3] rfl)
set_option maxRecDepth 100000 in
set_option maxHeartbeats 4000000 in
theorem v_X8_isOpen_41 {G : sG} {d : Nat} {vs0 : List Value} {σ0 : sS} {v0 : Nat} {v1 : Int32} {v3 : Int32} {σ : sS} {z : sZ Int32} {r : Int32 × sS} (hf : T_X8_isOpen_41 v0 v1 v3 σ = some z) (k : s_K G (d + 2) M_X8_isOpen vs0 σ0 Y_X8_isOpen e_I z r) : s_V G (d + 2) M_X8_isOpen vs0 σ0 Y_X8_isOpen (41, [.ref v0, .int v1, .int v3], σ) (e_I r) := by
  have le0 : s_le σ (e_I r).2 := s_lek hem_I (l_X8_isOpen_41 hf) k
  refine ⟨le0, ?_⟩
  intro p e s m below meth c H locs cells slots ls X I hn1 hn2 hl
  have hn : cells + σ0.2.1 ≤ σ.2.1 ∧ slots + σ0.2.2.1 ≤ σ.2.2.1 := ⟨hn1, hn2⟩
  have hl : lv_has ls 4 [(0, .ref v0), (1, .int v1), (3, .int v3)] := hl
  have hx := X.1
  have hb : c.code = cX8_isOpen := X.2.1
  have hown : s.vm.findClass RX8 = some m.cls := X.2.2.2.2.2.1
  have hts := X.2.2.2.2.2.2.1
  refine W.eq (g2 := F0 m 41 ls []) rfl ?_
  unfold T_X8_isOpen_41 at hf
  cases hf
  have k : s_V G (d + 2) M_X8_isOpen vs0 σ0 Y_X8_isOpen (46, [.ref v0, .int v1, .int v3, .int 1], σ) (e_I r) := k
  refine lv_iconst (v := 1) hx hb dX8_isOpen_41 (by decide) ?_
  refine lv_goto (tgt := 46) hx hb dX8_isOpen_42 (by decide) ?_
  exact k.2 p e s m below meth c _ _ _ _ _ X I hn.1 hn.2 (lv_sub hl [0, 1, 2] rfl)
set_option maxRecDepth 100000 in
set_option maxHeartbeats 4000000 in
theorem v_X8_isOpen_45 {G : sG} {d : Nat} {vs0 : List Value} {σ0 : sS} {v0 : Nat} {v1 : Int32} {v3 : Int32} {σ : sS} {z : sZ Int32} {r : Int32 × sS} (hf : T_X8_isOpen_45 v0 v1 v3 σ = some z) (k : s_K G (d + 2) M_X8_isOpen vs0 σ0 Y_X8_isOpen e_I z r) : s_V G (d + 2) M_X8_isOpen vs0 σ0 Y_X8_isOpen (45, [.ref v0, .int v1, .int v3], σ) (e_I r) := by
  have le0 : s_le σ (e_I r).2 := s_lek hem_I (l_X8_isOpen_45 hf) k
  refine ⟨le0, ?_⟩
  intro p e s m below meth c H locs cells slots ls X I hn1 hn2 hl
  have hn : cells + σ0.2.1 ≤ σ.2.1 ∧ slots + σ0.2.2.1 ≤ σ.2.2.1 := ⟨hn1, hn2⟩
  have hl : lv_has ls 4 [(0, .ref v0), (1, .int v1), (3, .int v3)] := hl
  have hx := X.1
  have hb : c.code = cX8_isOpen := X.2.1
  have hown : s.vm.findClass RX8 = some m.cls := X.2.2.2.2.2.1
  have hts := X.2.2.2.2.2.2.1
  refine W.eq (g2 := F0 m 45 ls []) rfl ?_
  unfold T_X8_isOpen_45 at hf
  cases hf
  have k : s_V G (d + 2) M_X8_isOpen vs0 σ0 Y_X8_isOpen (46, [.ref v0, .int v1, .int v3, .int 0], σ) (e_I r) := k
  refine lv_iconst (v := 0) hx hb dX8_isOpen_45 (by decide) ?_
  exact k.2 p e s m below meth c _ _ _ _ _ X I hn.1 hn.2 (lv_sub hl [0, 1, 2] rfl)
set_option maxRecDepth 100000 in
set_option maxHeartbeats 4000000 in
theorem v_X8_isOpen_46 {G : sG} {d : Nat} {vs0 : List Value} {σ0 : sS} {v0 : Nat} {v1 : Int32} {v3 : Int32} {w0 : Int32} {σ : sS} {z : sZ Int32} {r : Int32 × sS} (hf : T_X8_isOpen_46 v0 v1 v3 w0 σ = some z) (k : s_K G (d + 2) M_X8_isOpen vs0 σ0 Y_X8_isOpen e_I z r) : s_V G (d + 2) M_X8_isOpen vs0 σ0 Y_X8_isOpen (46, [.ref v0, .int v1, .int v3, .int w0], σ) (e_I r) := by
  have le0 : s_le σ (e_I r).2 := s_lek hem_I (l_X8_isOpen_46 hf) k
  refine ⟨le0, ?_⟩
  intro p e s m below meth c H locs cells slots ls X I hn1 hn2 hl
  have hn : cells + σ0.2.1 ≤ σ.2.1 ∧ slots + σ0.2.2.1 ≤ σ.2.2.1 := ⟨hn1, hn2⟩
  have hl : lv_has ls 4 [(0, .ref v0), (1, .int v1), (3, .int v3)] := hl
  have hx := X.1
  have hb : c.code = cX8_isOpen := X.2.1
  have hown : s.vm.findClass RX8 = some m.cls := X.2.2.2.2.2.1
  have hts := X.2.2.2.2.2.2.1
  refine W.eq (g2 := F0 m 46 ls [.int w0]) rfl ?_
  unfold T_X8_isOpen_46 at hf
  cases hf
  have k : s_V G (d + 2) M_X8_isOpen vs0 σ0 Y_X8_isOpen (4, [.ref v0, .int v1, .int w0, .int (v3 + 1)], σ) (e_I r) := k
  refine lv_istore_n (lv' := [(2, .int w0), (0, .ref v0), (1, .int v1), (3, .int v3)]) hx hb dX8_isOpen_46 rfl hl (by decide) rfl (fun ls hl => ?_)
  refine lv_iinc (v := (v3 + 1)) (lv' := [(3, .int (v3 + 1)), (2, .int w0), (0, .ref v0), (1, .int v1)]) hx hb dX8_isOpen_47 hl (k := 3) rfl rfl (by decide) rfl (fun ls hl => ?_)
  refine lv_goto (tgt := 4) hx hb dX8_isOpen_50 (by decide) ?_
  exact k.2 p e s m below meth c _ _ _ _ _ X I hn.1 hn.2 (lv_sub hl [2, 3, 1, 0] rfl)
theorem v_X8_isOpen {G : sG} {d : Nat} {vs0 : List Value} {σ0 : sS} {x : sL} {z : sZ Int32} {r : Int32 × sS} (hs : S_X8_isOpen x = some z) (k : s_K G (d + 2) M_X8_isOpen vs0 σ0 Y_X8_isOpen e_I z r) : s_V G (d + 2) M_X8_isOpen vs0 σ0 Y_X8_isOpen x (e_I r) := by
  obtain ⟨pc, vs, σ⟩ := x
  unfold S_X8_isOpen at hs
  dsimp only at hs
  rcases s_ite hs with ⟨c, hs⟩ | ⟨-, hs⟩
  · subst c
    unfold U_X8_isOpen_0 at hs
    obtain ⟨a0, g0, hs⟩ := s_bind hs
    obtain ⟨a1, g1, hs⟩ := s_bind hs
    obtain ⟨u9, ge, hs⟩ := s_bind hs
    rw [g_r_to g0, g_i_to g1, g_e_to ge]
    exact v_X8_isOpen_0 hs k
  rcases s_ite hs with ⟨c, hs⟩ | ⟨-, hs⟩
  · subst c
    unfold U_X8_isOpen_4 at hs
    obtain ⟨a0, g0, hs⟩ := s_bind hs
    obtain ⟨a1, g1, hs⟩ := s_bind hs
    obtain ⟨a2, g2, hs⟩ := s_bind hs
    obtain ⟨a3, g3, hs⟩ := s_bind hs
    obtain ⟨u9, ge, hs⟩ := s_bind hs
    rw [g_r_to g0, g_i_to g1, g_i_to g2, g_i_to g3, g_e_to ge]
    exact v_X8_isOpen_4 hs k
  rcases s_ite hs with ⟨c, hs⟩ | ⟨-, hs⟩
  · subst c
    unfold U_X8_isOpen_41 at hs
    obtain ⟨a0, g0, hs⟩ := s_bind hs
    obtain ⟨a1, g1, hs⟩ := s_bind hs
    obtain ⟨a2, g2, hs⟩ := s_bind hs
    obtain ⟨u9, ge, hs⟩ := s_bind hs
    rw [g_r_to g0, g_i_to g1, g_i_to g2, g_e_to ge]
    exact v_X8_isOpen_41 hs k
  rcases s_ite hs with ⟨c, hs⟩ | ⟨-, hs⟩
  · subst c
    unfold U_X8_isOpen_45 at hs
    obtain ⟨a0, g0, hs⟩ := s_bind hs
    obtain ⟨a1, g1, hs⟩ := s_bind hs
    obtain ⟨a2, g2, hs⟩ := s_bind hs
    obtain ⟨u9, ge, hs⟩ := s_bind hs
    rw [g_r_to g0, g_i_to g1, g_i_to g2, g_e_to ge]
    exact v_X8_isOpen_45 hs k
  rcases s_ite hs with ⟨c, hs⟩ | ⟨-, hs⟩
  · subst c
    unfold U_X8_isOpen_46 at hs
    obtain ⟨a0, g0, hs⟩ := s_bind hs
    obtain ⟨a1, g1, hs⟩ := s_bind hs
    obtain ⟨a2, g2, hs⟩ := s_bind hs
    obtain ⟨a3, g3, hs⟩ := s_bind hs
    obtain ⟨u9, ge, hs⟩ := s_bind hs
    rw [g_r_to g0, g_i_to g1, g_i_to g2, g_i_to g3, g_e_to ge]
    exact v_X8_isOpen_46 hs k
  cases hs
theorem t_X8_isOpen {G : sG} {d : Nat} {v0 : Nat} {v1 : Int32} {σ : sS} {q : Int32 × sS} (h : F_X8_isOpen v0 v1 σ = some q) : s_T G (d + 2) M_X8_isOpen [.ref v0, .int v1] σ (e_I q) := by
  unfold F_X8_isOpen at h
  obtain ⟨-, -, h⟩ := s_bind h
  exact s_ofV rfl (by decide) (Nat.le_of_ble_eq_true rfl) rfl rfl (s_run_ind (V := fun x r => s_V G (d + 2) M_X8_isOpen [.ref v0, .int v1] σ Y_X8_isOpen x (e_I r)) (fun x z r hs hk => v_X8_isOpen hs (by cases z <;> exact hk)) h)
/-! X8_isStale -/
noncomputable def T_X8_isStale_0 (v0 : Nat) (v1 : Int32) (σ : sS) : Option (sZ Int32) :=
  some (.inl (4, [.ref v0, .int v1, .int 0, .int 0], σ))
noncomputable def U_X8_isStale_0 (vs : List Value) (σ : sS) : Option (sZ Int32) := (g_r vs).bind fun a0 => (g_i a0.2).bind fun a1 => (g_e a1.2).bind fun _ => T_X8_isStale_0 a0.1 a1.1 σ
noncomputable def T_X8_isStale_4 (v0 : Nat) (v1 : Int32) (v2 : Int32) (v3 : Int32) (σ : sS) : Option (sZ Int32) :=
  (F_X8_lines v0 σ).bind fun q1 =>
  if q1.1 ≤ v3 then (if (v2 = 0 ∨ v2 = 1) then (some (.inr (v2, q1.2))) else none)
  else (if v2 = 0 then ((s_fr q1.2 v0 8 18).bind fun x2 =>
  (s_al q1.2 x2 v1).bind fun x3 =>
  if (lg_cmp ((x3 >>> ((v3 : Int32).toInt64 &&& 63)) &&& 1) 1) = 0 then ((F_X8_ofLine v0 v3 2 q1.2).bind fun q4 =>
  if q4.1 = 0 then ((F_X8_ofLine v0 v3 1 q4.2).bind fun q5 =>
  (F_X8_ofLine v0 v3 3 q5.2).bind fun q6 =>
  (F_X8_beliefsOf v0 q6.1 q6.2).bind fun q7 =>
  (F_X8_isAmong v0 q5.1 q7.1 q7.2).bind fun q8 =>
  if q8.1 = 0 then (some (.inl (63, [.ref v0, .int v1, .int v3], q8.2)))
  else (some (.inl (67, [.ref v0, .int v1, .int v3], q8.2))))
  else (some (.inl (67, [.ref v0, .int v1, .int v3], q4.2))))
  else (some (.inl (67, [.ref v0, .int v1, .int v3], q1.2))))
  else (some (.inl (63, [.ref v0, .int v1, .int v3], q1.2))))
noncomputable def U_X8_isStale_4 (vs : List Value) (σ : sS) : Option (sZ Int32) := (g_r vs).bind fun a0 => (g_i a0.2).bind fun a1 => (g_i a1.2).bind fun a2 => (g_i a2.2).bind fun a3 => (g_e a3.2).bind fun _ => T_X8_isStale_4 a0.1 a1.1 a2.1 a3.1 σ
noncomputable def T_X8_isStale_63 (v0 : Nat) (v1 : Int32) (v3 : Int32) (σ : sS) : Option (sZ Int32) :=
  some (.inl (68, [.ref v0, .int v1, .int v3, .int 1], σ))
noncomputable def U_X8_isStale_63 (vs : List Value) (σ : sS) : Option (sZ Int32) := (g_r vs).bind fun a0 => (g_i a0.2).bind fun a1 => (g_i a1.2).bind fun a2 => (g_e a2.2).bind fun _ => T_X8_isStale_63 a0.1 a1.1 a2.1 σ
noncomputable def T_X8_isStale_67 (v0 : Nat) (v1 : Int32) (v3 : Int32) (σ : sS) : Option (sZ Int32) :=
  some (.inl (68, [.ref v0, .int v1, .int v3, .int 0], σ))
noncomputable def U_X8_isStale_67 (vs : List Value) (σ : sS) : Option (sZ Int32) := (g_r vs).bind fun a0 => (g_i a0.2).bind fun a1 => (g_i a1.2).bind fun a2 => (g_e a2.2).bind fun _ => T_X8_isStale_67 a0.1 a1.1 a2.1 σ
noncomputable def T_X8_isStale_68 (v0 : Nat) (v1 : Int32) (v3 : Int32) (w0 : Int32) (σ : sS) : Option (sZ Int32) :=
  some (.inl (4, [.ref v0, .int v1, .int w0, .int (v3 + 1)], σ))
noncomputable def U_X8_isStale_68 (vs : List Value) (σ : sS) : Option (sZ Int32) := (g_r vs).bind fun a0 => (g_i a0.2).bind fun a1 => (g_i a1.2).bind fun a2 => (g_i a2.2).bind fun a3 => (g_e a3.2).bind fun _ => T_X8_isStale_68 a0.1 a1.1 a2.1 a3.1 σ
noncomputable def S_X8_isStale (x : sL) : Option (sZ Int32) := if x.1 = 0 then U_X8_isStale_0 x.2.1 x.2.2 else if x.1 = 4 then U_X8_isStale_4 x.2.1 x.2.2 else if x.1 = 63 then U_X8_isStale_63 x.2.1 x.2.2 else if x.1 = 67 then U_X8_isStale_67 x.2.1 x.2.2 else if x.1 = 68 then U_X8_isStale_68 x.2.1 x.2.2 else none
def Y_X8_isStale (pc : Nat) : List Nat := if pc = 0 then [0, 1] else if pc = 4 then [0, 1, 2, 3] else if pc = 63 then [0, 1, 3] else if pc = 67 then [0, 1, 3] else if pc = 68 then [0, 1, 3] else []
noncomputable def F_X8_isStale (v0 : Nat) (v1 : Int32) (σ : sS) : Option (Int32 × sS) := (s_is σ v0 8).bind fun _ => s_run S_X8_isStale (0, [.ref v0, .int v1], σ)
theorem l_X8_isStale_0 {v0 : Nat} {v1 : Int32} {σ : sS} {z : sZ Int32} (hf : T_X8_isStale_0 v0 v1 σ = some z) : s_lz σ z := by
  unfold T_X8_isStale_0 at hf
  cases hf
  exact s_le.rf
theorem l_X8_isStale_4 {v0 : Nat} {v1 : Int32} {v2 : Int32} {v3 : Int32} {σ : sS} {z : sZ Int32} (hf : T_X8_isStale_4 v0 v1 v2 v3 σ = some z) : s_lz σ z := by
  unfold T_X8_isStale_4 at hf
  obtain ⟨q1, hh, hf⟩ := s_bind hf
  refine s_lz.tr (l_X8_lines hh) ?_
  rcases s_ite hf with ⟨-, hf⟩ | ⟨-, hf⟩
  · rcases s_ite hf with ⟨-, hf⟩ | ⟨-, hf⟩
    · cases hf
      exact s_le.rf
    · cases hf
  · rcases s_ite hf with ⟨-, hf⟩ | ⟨-, hf⟩
    · obtain ⟨x2, -, hf⟩ := s_bind hf
      obtain ⟨x3, -, hf⟩ := s_bind hf
      rcases s_ite hf with ⟨-, hf⟩ | ⟨-, hf⟩
      · obtain ⟨q4, hh, hf⟩ := s_bind hf
        refine s_lz.tr (l_X8_ofLine hh) ?_
        rcases s_ite hf with ⟨-, hf⟩ | ⟨-, hf⟩
        · obtain ⟨q5, hh, hf⟩ := s_bind hf
          refine s_lz.tr (l_X8_ofLine hh) ?_
          obtain ⟨q6, hh, hf⟩ := s_bind hf
          refine s_lz.tr (l_X8_ofLine hh) ?_
          obtain ⟨q7, hh, hf⟩ := s_bind hf
          refine s_lz.tr (l_X8_beliefsOf hh) ?_
          obtain ⟨q8, hh, hf⟩ := s_bind hf
          refine s_lz.tr (l_X8_isAmong hh) ?_
          rcases s_ite hf with ⟨-, hf⟩ | ⟨-, hf⟩
          · cases hf
            exact s_le.rf
          · cases hf
            exact s_le.rf
        · cases hf
          exact s_le.rf
      · cases hf
        exact s_le.rf
    · cases hf
      exact s_le.rf
theorem l_X8_isStale_63 {v0 : Nat} {v1 : Int32} {v3 : Int32} {σ : sS} {z : sZ Int32} (hf : T_X8_isStale_63 v0 v1 v3 σ = some z) : s_lz σ z := by
  unfold T_X8_isStale_63 at hf
  cases hf
  exact s_le.rf
theorem l_X8_isStale_67 {v0 : Nat} {v1 : Int32} {v3 : Int32} {σ : sS} {z : sZ Int32} (hf : T_X8_isStale_67 v0 v1 v3 σ = some z) : s_lz σ z := by
  unfold T_X8_isStale_67 at hf
  cases hf
  exact s_le.rf
theorem l_X8_isStale_68 {v0 : Nat} {v1 : Int32} {v3 : Int32} {w0 : Int32} {σ : sS} {z : sZ Int32} (hf : T_X8_isStale_68 v0 v1 v3 w0 σ = some z) : s_lz σ z := by
  unfold T_X8_isStale_68 at hf
  cases hf
  exact s_le.rf
theorem l_X8_isStale_s {x : sL} {z : sZ Int32} (hs : S_X8_isStale x = some z) : s_lz x.2.2 z := by
  obtain ⟨pc, vs, σ⟩ := x
  unfold S_X8_isStale at hs
  dsimp only at hs ⊢
  rcases s_ite hs with ⟨c, hs⟩ | ⟨-, hs⟩
  · subst c
    unfold U_X8_isStale_0 at hs
    obtain ⟨a0, g0, hs⟩ := s_bind hs
    obtain ⟨a1, g1, hs⟩ := s_bind hs
    obtain ⟨u9, ge, hs⟩ := s_bind hs
    exact l_X8_isStale_0 hs
  rcases s_ite hs with ⟨c, hs⟩ | ⟨-, hs⟩
  · subst c
    unfold U_X8_isStale_4 at hs
    obtain ⟨a0, g0, hs⟩ := s_bind hs
    obtain ⟨a1, g1, hs⟩ := s_bind hs
    obtain ⟨a2, g2, hs⟩ := s_bind hs
    obtain ⟨a3, g3, hs⟩ := s_bind hs
    obtain ⟨u9, ge, hs⟩ := s_bind hs
    exact l_X8_isStale_4 hs
  rcases s_ite hs with ⟨c, hs⟩ | ⟨-, hs⟩
  · subst c
    unfold U_X8_isStale_63 at hs
    obtain ⟨a0, g0, hs⟩ := s_bind hs
    obtain ⟨a1, g1, hs⟩ := s_bind hs
    obtain ⟨a2, g2, hs⟩ := s_bind hs
    obtain ⟨u9, ge, hs⟩ := s_bind hs
    exact l_X8_isStale_63 hs
  rcases s_ite hs with ⟨c, hs⟩ | ⟨-, hs⟩
  · subst c
    unfold U_X8_isStale_67 at hs
    obtain ⟨a0, g0, hs⟩ := s_bind hs
    obtain ⟨a1, g1, hs⟩ := s_bind hs
    obtain ⟨a2, g2, hs⟩ := s_bind hs
    obtain ⟨u9, ge, hs⟩ := s_bind hs
    exact l_X8_isStale_67 hs
  rcases s_ite hs with ⟨c, hs⟩ | ⟨-, hs⟩
  · subst c
    unfold U_X8_isStale_68 at hs
    obtain ⟨a0, g0, hs⟩ := s_bind hs
    obtain ⟨a1, g1, hs⟩ := s_bind hs
    obtain ⟨a2, g2, hs⟩ := s_bind hs
    obtain ⟨a3, g3, hs⟩ := s_bind hs
    obtain ⟨u9, ge, hs⟩ := s_bind hs
    exact l_X8_isStale_68 hs
  cases hs
theorem l_X8_isStale {v0 : Nat} {v1 : Int32} {σ : sS} {q : Int32 × sS} (h : F_X8_isStale v0 v1 σ = some q) : s_le σ q.2 := by
  unfold F_X8_isStale at h
  obtain ⟨-, -, h⟩ := s_bind h
  exact s_run_ind (V := fun x r => s_le x.2.2 r.2) (fun x z r hs hk => by
    have h9 := l_X8_isStale_s hs
    cases z with
    | inl y => exact s_le.tr h9 hk
    | inr q => cases hk; exact h9) h
theorem b_X8_isStale {v0 : Nat} {v1 : Int32} {σ : sS} {q : Int32 × sS} (h : F_X8_isStale v0 v1 σ = some q) : ∃ fs, σ.1 v0 = some (.inr (8, fs)) := by
  unfold F_X8_isStale at h
  obtain ⟨u, hu, -⟩ := s_bind h
  exact s_is_to hu
set_option maxRecDepth 100000 in
set_option maxHeartbeats 4000000 in
theorem v_X8_isStale_0 {G : sG} {d : Nat} {vs0 : List Value} {σ0 : sS} {v0 : Nat} {v1 : Int32} {σ : sS} {z : sZ Int32} {r : Int32 × sS} (hf : T_X8_isStale_0 v0 v1 σ = some z) (k : s_K G (d + 5) M_X8_isStale vs0 σ0 Y_X8_isStale e_I z r) : s_V G (d + 5) M_X8_isStale vs0 σ0 Y_X8_isStale (0, [.ref v0, .int v1], σ) (e_I r) := by
  have le0 : s_le σ (e_I r).2 := s_lek hem_I (l_X8_isStale_0 hf) k
  refine ⟨le0, ?_⟩
  intro p e s m below meth c H locs cells slots ls X I hn1 hn2 hl
  have hn : cells + σ0.2.1 ≤ σ.2.1 ∧ slots + σ0.2.2.1 ≤ σ.2.2.1 := ⟨hn1, hn2⟩
  have hl : lv_has ls 4 [(0, .ref v0), (1, .int v1)] := hl
  have hx := X.1
  have hb : c.code = cX8_isStale := X.2.1
  have hown : s.vm.findClass RX8 = some m.cls := X.2.2.2.2.2.1
  have hts := X.2.2.2.2.2.2.1
  refine W.eq (g2 := F0 m 0 ls []) rfl ?_
  unfold T_X8_isStale_0 at hf
  cases hf
  have k : s_V G (d + 5) M_X8_isStale vs0 σ0 Y_X8_isStale (4, [.ref v0, .int v1, .int 0, .int 0], σ) (e_I r) := k
  refine lv_iconst (v := 0) hx hb dX8_isStale_0 (by decide) ?_
  refine lv_istore_n (lv' := [(2, .int 0), (0, .ref v0), (1, .int v1)]) hx hb dX8_isStale_1 rfl hl (by decide) rfl (fun ls hl => ?_)
  refine lv_iconst (v := 0) hx hb dX8_isStale_2 (by decide) ?_
  refine lv_istore_n (lv' := [(3, .int 0), (2, .int 0), (0, .ref v0), (1, .int v1)]) hx hb dX8_isStale_3 rfl hl (by decide) rfl (fun ls hl => ?_)
  exact k.2 p e s m below meth c _ _ _ _ _ X I hn.1 hn.2 (lv_sub hl [2, 3, 1, 0] rfl)
set_option maxRecDepth 100000 in
set_option maxHeartbeats 4000000 in
theorem v_X8_isStale_4 {G : sG} {d : Nat} {vs0 : List Value} {σ0 : sS} {v0 : Nat} {v1 : Int32} {v2 : Int32} {v3 : Int32} {σ : sS} {z : sZ Int32} {r : Int32 × sS} (hf : T_X8_isStale_4 v0 v1 v2 v3 σ = some z) (k : s_K G (d + 5) M_X8_isStale vs0 σ0 Y_X8_isStale e_I z r) : s_V G (d + 5) M_X8_isStale vs0 σ0 Y_X8_isStale (4, [.ref v0, .int v1, .int v2, .int v3], σ) (e_I r) := by
  have le0 : s_le σ (e_I r).2 := s_lek hem_I (l_X8_isStale_4 hf) k
  refine ⟨le0, ?_⟩
  intro p e s m below meth c H locs cells slots ls X I hn1 hn2 hl
  have hn : cells + σ0.2.1 ≤ σ.2.1 ∧ slots + σ0.2.2.1 ≤ σ.2.2.1 := ⟨hn1, hn2⟩
  have hl : lv_has ls 4 [(0, .ref v0), (1, .int v1), (2, .int v2), (3, .int v3)] := hl
  have hx := X.1
  have hb : c.code = cX8_isStale := X.2.1
  have hown : s.vm.findClass RX8 = some m.cls := X.2.2.2.2.2.1
  have hts := X.2.2.2.2.2.2.1
  refine W.eq (g2 := F0 m 4 ls []) rfl ?_
  unfold T_X8_isStale_4 at hf
  obtain ⟨q1, h1, hf⟩ := s_bind hf
  have le2 : s_le q1.2 (e_I r).2 := by
    refine s_lek hem_I ?_ k
    rcases s_ite hf with ⟨-, hf⟩ | ⟨-, hf⟩
    · rcases s_ite hf with ⟨-, hf⟩ | ⟨-, hf⟩
      · cases hf
        exact s_le.rf
      · cases hf
    · rcases s_ite hf with ⟨-, hf⟩ | ⟨-, hf⟩
      · obtain ⟨x2, -, hf⟩ := s_bind hf
        obtain ⟨x3, -, hf⟩ := s_bind hf
        rcases s_ite hf with ⟨-, hf⟩ | ⟨-, hf⟩
        · obtain ⟨q4, hh, hf⟩ := s_bind hf
          refine s_lz.tr (l_X8_ofLine hh) ?_
          rcases s_ite hf with ⟨-, hf⟩ | ⟨-, hf⟩
          · obtain ⟨q5, hh, hf⟩ := s_bind hf
            refine s_lz.tr (l_X8_ofLine hh) ?_
            obtain ⟨q6, hh, hf⟩ := s_bind hf
            refine s_lz.tr (l_X8_ofLine hh) ?_
            obtain ⟨q7, hh, hf⟩ := s_bind hf
            refine s_lz.tr (l_X8_beliefsOf hh) ?_
            obtain ⟨q8, hh, hf⟩ := s_bind hf
            refine s_lz.tr (l_X8_isAmong hh) ?_
            rcases s_ite hf with ⟨-, hf⟩ | ⟨-, hf⟩
            · cases hf
              exact s_le.rf
            · cases hf
              exact s_le.rf
          · cases hf
            exact s_le.rf
        · cases hf
          exact s_le.rf
      · cases hf
        exact s_le.rf
  refine lv_iload_n hx hb dX8_isStale_4 rfl (lv_at hl 3 rfl) ?_
  refine lv_aload_n hx hb dX8_isStale_5 rfl (lv_at hl 0 rfl) ?_
  refine r_callV (Y := M_X8_lines) (v := some (.int q1.1)) X I w_2003 my_X8_lines (by omega) (t_X8_lines (G := G) (d := d + 3) h1) (b_X8_lines h1) rfl rfl hl.1 rfl (Nat.le_of_ble_eq_true rfl) hn le2 dX8_isStale_6 (fun H locs cells slots I hn1 hn2 => ?_)
  have I : s_I G q1.2 s H locs := I
  have hn : cells + σ0.2.1 ≤ q1.2.2.1 ∧ slots + σ0.2.2.1 ≤ q1.2.2.2.1 := ⟨hn1, hn2⟩
  rcases s_ite hf with ⟨c3, hf⟩ | ⟨c3, hf⟩
  · refine lv_icmp_ge (tgt := 75) hx hb dX8_isStale_9 (by decide) (fun _ => ?_) (fun n => absurd c3 n)
    refine lv_iload_n hx hb dX8_isStale_75 rfl (lv_at hl 2 rfl) ?_
    rcases s_ite hf with ⟨hchk, hf⟩ | ⟨-, hf⟩
    · cases hf
      have k : _ = r := k
      subst k
      exact r_iret X I rfl (s_nb hchk) rfl hn dX8_isStale_76
    · cases hf
  · refine lv_icmp_ge (tgt := 75) hx hb dX8_isStale_9 (by decide) (fun n => absurd n c3) (fun _ => ?_)
    refine lv_iload_n hx hb dX8_isStale_12 rfl (lv_at hl 2 rfl) ?_
    rcases s_ite hf with ⟨c4, hf⟩ | ⟨c4, hf⟩
    · refine lv_if_ne (tgt := 63) hx hb dX8_isStale_13 (by decide) (fun n => absurd c4 n) (fun _ => ?_)
      obtain ⟨x2, h5, hf⟩ := s_bind hf
      obtain ⟨x3, h6, hf⟩ := s_bind hf
      refine lv_aload_n hx hb dX8_isStale_16 rfl (lv_at hl 0 rfl) ?_
      refine r_gr X I fl_X8_43 h5 dX8_isStale_17 ?_
      refine lv_iload_n hx hb dX8_isStale_20 rfl (lv_at hl 1 rfl) ?_
      refine r_lald X I h6 dX8_isStale_21 ?_
      refine lv_iload_n hx hb dX8_isStale_22 rfl (lv_at hl 3 rfl) ?_
      refine lv_lshr hx hb dX8_isStale_23 rfl ?_
      refine lv_lconst (v := 1) hx hb dX8_isStale_24 (by decide) ?_
      refine lv_land hx hb dX8_isStale_25 ?_
      refine lv_lconst (v := 1) hx hb dX8_isStale_26 (by decide) ?_
      refine W.lcmp hx hb dX8_isStale_27 ?_
      rcases s_ite hf with ⟨c7, hf⟩ | ⟨c7, hf⟩
      · refine lv_if_ne (tgt := 67) hx hb dX8_isStale_28 (by decide) (fun n => absurd c7 n) (fun _ => ?_)
        obtain ⟨q4, h8, hf⟩ := s_bind hf
        have le9 : s_le q4.2 (e_I r).2 := by
          refine s_lek hem_I ?_ k
          rcases s_ite hf with ⟨-, hf⟩ | ⟨-, hf⟩
          · obtain ⟨q5, hh, hf⟩ := s_bind hf
            refine s_lz.tr (l_X8_ofLine hh) ?_
            obtain ⟨q6, hh, hf⟩ := s_bind hf
            refine s_lz.tr (l_X8_ofLine hh) ?_
            obtain ⟨q7, hh, hf⟩ := s_bind hf
            refine s_lz.tr (l_X8_beliefsOf hh) ?_
            obtain ⟨q8, hh, hf⟩ := s_bind hf
            refine s_lz.tr (l_X8_isAmong hh) ?_
            rcases s_ite hf with ⟨-, hf⟩ | ⟨-, hf⟩
            · cases hf
              exact s_le.rf
            · cases hf
              exact s_le.rf
          · cases hf
            exact s_le.rf
        refine lv_aload_n hx hb dX8_isStale_31 rfl (lv_at hl 0 rfl) ?_
        refine lv_iload_n hx hb dX8_isStale_32 rfl (lv_at hl 3 rfl) ?_
        refine lv_iconst (v := 2) hx hb dX8_isStale_33 (by decide) ?_
        refine r_callV (Y := M_X8_ofLine) (v := some (.int q4.1)) X I w_2015 my_X8_ofLine (by omega) (t_X8_ofLine (G := G) (d := d + 3) h8) (b_X8_ofLine h8) rfl rfl hl.1 rfl (Nat.le_of_ble_eq_true rfl) hn le9 dX8_isStale_34 (fun H locs cells slots I hn1 hn2 => ?_)
        have I : s_I G q4.2 s H locs := I
        have hn : cells + σ0.2.1 ≤ q4.2.2.1 ∧ slots + σ0.2.2.1 ≤ q4.2.2.2.1 := ⟨hn1, hn2⟩
        rcases s_ite hf with ⟨c10, hf⟩ | ⟨c10, hf⟩
        · refine lv_if_ne (tgt := 67) hx hb dX8_isStale_37 (by decide) (fun n => absurd c10 n) (fun _ => ?_)
          obtain ⟨q5, h11, hf⟩ := s_bind hf
          obtain ⟨q6, h12, hf⟩ := s_bind hf
          obtain ⟨q7, h13, hf⟩ := s_bind hf
          obtain ⟨q8, h14, hf⟩ := s_bind hf
          have le15 : s_le q8.2 (e_I r).2 := by
            refine s_lek hem_I ?_ k
            rcases s_ite hf with ⟨-, hf⟩ | ⟨-, hf⟩
            · cases hf
              exact s_le.rf
            · cases hf
              exact s_le.rf
          have le16 := s_le.tr (l_X8_isAmong h14) le15
          have le17 := s_le.tr (l_X8_beliefsOf h13) le16
          have le18 := s_le.tr (l_X8_ofLine h12) le17
          refine lv_aload_n hx hb dX8_isStale_40 rfl (lv_at hl 0 rfl) ?_
          refine lv_aload_n hx hb dX8_isStale_41 rfl (lv_at hl 0 rfl) ?_
          refine lv_iload_n hx hb dX8_isStale_42 rfl (lv_at hl 3 rfl) ?_
          refine lv_iconst (v := 1) hx hb dX8_isStale_43 (by decide) ?_
          refine r_callV (Y := M_X8_ofLine) (v := some (.int q5.1)) X I w_2015 my_X8_ofLine (by omega) (t_X8_ofLine (G := G) (d := d + 3) h11) (b_X8_ofLine h11) rfl rfl hl.1 rfl (Nat.le_of_ble_eq_true rfl) hn le18 dX8_isStale_44 (fun H locs cells slots I hn1 hn2 => ?_)
          have I : s_I G q5.2 s H locs := I
          have hn : cells + σ0.2.1 ≤ q5.2.2.1 ∧ slots + σ0.2.2.1 ≤ q5.2.2.2.1 := ⟨hn1, hn2⟩
          refine lv_aload_n hx hb dX8_isStale_47 rfl (lv_at hl 0 rfl) ?_
          refine lv_aload_n hx hb dX8_isStale_48 rfl (lv_at hl 0 rfl) ?_
          refine lv_iload_n hx hb dX8_isStale_49 rfl (lv_at hl 3 rfl) ?_
          refine lv_iconst (v := 3) hx hb dX8_isStale_50 (by decide) ?_
          refine r_callV (Y := M_X8_ofLine) (v := some (.int q6.1)) X I w_2015 my_X8_ofLine (by omega) (t_X8_ofLine (G := G) (d := d + 3) h12) (b_X8_ofLine h12) rfl rfl hl.1 rfl (Nat.le_of_ble_eq_true rfl) hn le17 dX8_isStale_51 (fun H locs cells slots I hn1 hn2 => ?_)
          have I : s_I G q6.2 s H locs := I
          have hn : cells + σ0.2.1 ≤ q6.2.2.1 ∧ slots + σ0.2.2.1 ≤ q6.2.2.2.1 := ⟨hn1, hn2⟩
          refine r_callV (Y := M_X8_beliefsOf) (v := some (.int q7.1)) X I w_1987 my_X8_beliefsOf (by omega) (t_X8_beliefsOf (G := G) (d := d + 3) h13) (b_X8_beliefsOf h13) rfl rfl hl.1 rfl (Nat.le_of_ble_eq_true rfl) hn le16 dX8_isStale_54 (fun H locs cells slots I hn1 hn2 => ?_)
          have I : s_I G q7.2 s H locs := I
          have hn : cells + σ0.2.1 ≤ q7.2.2.1 ∧ slots + σ0.2.2.1 ≤ q7.2.2.2.1 := ⟨hn1, hn2⟩
          refine r_callV (Y := M_X8_isAmong) (v := some (.int q8.1)) X I w_2051 my_X8_isAmong (by omega) (t_X8_isAmong (G := G) (d := d + 0) h14) (b_X8_isAmong h14) rfl rfl hl.1 rfl (Nat.le_of_ble_eq_true rfl) hn le15 dX8_isStale_57 (fun H locs cells slots I hn1 hn2 => ?_)
          have I : s_I G q8.2 s H locs := I
          have hn : cells + σ0.2.1 ≤ q8.2.2.1 ∧ slots + σ0.2.2.1 ≤ q8.2.2.2.1 := ⟨hn1, hn2⟩
          rcases s_ite hf with ⟨c19, hf⟩ | ⟨c19, hf⟩
          · refine lv_if_ne (tgt := 67) hx hb dX8_isStale_60 (by decide) (fun n => absurd c19 n) (fun _ => ?_)
            cases hf
            have k : s_V G (d + 5) M_X8_isStale vs0 σ0 Y_X8_isStale (63, [.ref v0, .int v1, .int v3], q8.2) (e_I r) := k
            exact k.2 p e s m below meth c _ _ _ _ _ X I hn.1 hn.2 (lv_sub hl [0, 1, 3] rfl)
          · refine lv_if_ne (tgt := 67) hx hb dX8_isStale_60 (by decide) (fun _ => ?_) (fun n => absurd n c19)
            cases hf
            have k : s_V G (d + 5) M_X8_isStale vs0 σ0 Y_X8_isStale (67, [.ref v0, .int v1, .int v3], q8.2) (e_I r) := k
            exact k.2 p e s m below meth c _ _ _ _ _ X I hn.1 hn.2 (lv_sub hl [0, 1, 3] rfl)
        · refine lv_if_ne (tgt := 67) hx hb dX8_isStale_37 (by decide) (fun _ => ?_) (fun n => absurd n c10)
          cases hf
          have k : s_V G (d + 5) M_X8_isStale vs0 σ0 Y_X8_isStale (67, [.ref v0, .int v1, .int v3], q4.2) (e_I r) := k
          exact k.2 p e s m below meth c _ _ _ _ _ X I hn.1 hn.2 (lv_sub hl [0, 1, 3] rfl)
      · refine lv_if_ne (tgt := 67) hx hb dX8_isStale_28 (by decide) (fun _ => ?_) (fun n => absurd n c7)
        cases hf
        have k : s_V G (d + 5) M_X8_isStale vs0 σ0 Y_X8_isStale (67, [.ref v0, .int v1, .int v3], q1.2) (e_I r) := k
        exact k.2 p e s m below meth c _ _ _ _ _ X I hn.1 hn.2 (lv_sub hl [0, 1, 3] rfl)
    · refine lv_if_ne (tgt := 63) hx hb dX8_isStale_13 (by decide) (fun _ => ?_) (fun n => absurd n c4)
      cases hf
      have k : s_V G (d + 5) M_X8_isStale vs0 σ0 Y_X8_isStale (63, [.ref v0, .int v1, .int v3], q1.2) (e_I r) := k
      exact k.2 p e s m below meth c _ _ _ _ _ X I hn.1 hn.2 (lv_sub hl [0, 1, 3] rfl)
set_option maxRecDepth 100000 in
set_option maxHeartbeats 4000000 in
theorem v_X8_isStale_63 {G : sG} {d : Nat} {vs0 : List Value} {σ0 : sS} {v0 : Nat} {v1 : Int32} {v3 : Int32} {σ : sS} {z : sZ Int32} {r : Int32 × sS} (hf : T_X8_isStale_63 v0 v1 v3 σ = some z) (k : s_K G (d + 5) M_X8_isStale vs0 σ0 Y_X8_isStale e_I z r) : s_V G (d + 5) M_X8_isStale vs0 σ0 Y_X8_isStale (63, [.ref v0, .int v1, .int v3], σ) (e_I r) := by
  have le0 : s_le σ (e_I r).2 := s_lek hem_I (l_X8_isStale_63 hf) k
  refine ⟨le0, ?_⟩
  intro p e s m below meth c H locs cells slots ls X I hn1 hn2 hl
  have hn : cells + σ0.2.1 ≤ σ.2.1 ∧ slots + σ0.2.2.1 ≤ σ.2.2.1 := ⟨hn1, hn2⟩
  have hl : lv_has ls 4 [(0, .ref v0), (1, .int v1), (3, .int v3)] := hl
  have hx := X.1
  have hb : c.code = cX8_isStale := X.2.1
  have hown : s.vm.findClass RX8 = some m.cls := X.2.2.2.2.2.1
  have hts := X.2.2.2.2.2.2.1
  refine W.eq (g2 := F0 m 63 ls []) rfl ?_
  unfold T_X8_isStale_63 at hf
  cases hf
  have k : s_V G (d + 5) M_X8_isStale vs0 σ0 Y_X8_isStale (68, [.ref v0, .int v1, .int v3, .int 1], σ) (e_I r) := k
  refine lv_iconst (v := 1) hx hb dX8_isStale_63 (by decide) ?_
  refine lv_goto (tgt := 68) hx hb dX8_isStale_64 (by decide) ?_
  exact k.2 p e s m below meth c _ _ _ _ _ X I hn.1 hn.2 (lv_sub hl [0, 1, 2] rfl)
set_option maxRecDepth 100000 in
set_option maxHeartbeats 4000000 in
theorem v_X8_isStale_67 {G : sG} {d : Nat} {vs0 : List Value} {σ0 : sS} {v0 : Nat} {v1 : Int32} {v3 : Int32} {σ : sS} {z : sZ Int32} {r : Int32 × sS} (hf : T_X8_isStale_67 v0 v1 v3 σ = some z) (k : s_K G (d + 5) M_X8_isStale vs0 σ0 Y_X8_isStale e_I z r) : s_V G (d + 5) M_X8_isStale vs0 σ0 Y_X8_isStale (67, [.ref v0, .int v1, .int v3], σ) (e_I r) := by
  have le0 : s_le σ (e_I r).2 := s_lek hem_I (l_X8_isStale_67 hf) k
  refine ⟨le0, ?_⟩
  intro p e s m below meth c H locs cells slots ls X I hn1 hn2 hl
  have hn : cells + σ0.2.1 ≤ σ.2.1 ∧ slots + σ0.2.2.1 ≤ σ.2.2.1 := ⟨hn1, hn2⟩
  have hl : lv_has ls 4 [(0, .ref v0), (1, .int v1), (3, .int v3)] := hl
  have hx := X.1
  have hb : c.code = cX8_isStale := X.2.1
  have hown : s.vm.findClass RX8 = some m.cls := X.2.2.2.2.2.1
  have hts := X.2.2.2.2.2.2.1
  refine W.eq (g2 := F0 m 67 ls []) rfl ?_
  unfold T_X8_isStale_67 at hf
  cases hf
  have k : s_V G (d + 5) M_X8_isStale vs0 σ0 Y_X8_isStale (68, [.ref v0, .int v1, .int v3, .int 0], σ) (e_I r) := k
  refine lv_iconst (v := 0) hx hb dX8_isStale_67 (by decide) ?_
  exact k.2 p e s m below meth c _ _ _ _ _ X I hn.1 hn.2 (lv_sub hl [0, 1, 2] rfl)
set_option maxRecDepth 100000 in
set_option maxHeartbeats 4000000 in
theorem v_X8_isStale_68 {G : sG} {d : Nat} {vs0 : List Value} {σ0 : sS} {v0 : Nat} {v1 : Int32} {v3 : Int32} {w0 : Int32} {σ : sS} {z : sZ Int32} {r : Int32 × sS} (hf : T_X8_isStale_68 v0 v1 v3 w0 σ = some z) (k : s_K G (d + 5) M_X8_isStale vs0 σ0 Y_X8_isStale e_I z r) : s_V G (d + 5) M_X8_isStale vs0 σ0 Y_X8_isStale (68, [.ref v0, .int v1, .int v3, .int w0], σ) (e_I r) := by
  have le0 : s_le σ (e_I r).2 := s_lek hem_I (l_X8_isStale_68 hf) k
  refine ⟨le0, ?_⟩
  intro p e s m below meth c H locs cells slots ls X I hn1 hn2 hl
  have hn : cells + σ0.2.1 ≤ σ.2.1 ∧ slots + σ0.2.2.1 ≤ σ.2.2.1 := ⟨hn1, hn2⟩
  have hl : lv_has ls 4 [(0, .ref v0), (1, .int v1), (3, .int v3)] := hl
  have hx := X.1
  have hb : c.code = cX8_isStale := X.2.1
  have hown : s.vm.findClass RX8 = some m.cls := X.2.2.2.2.2.1
  have hts := X.2.2.2.2.2.2.1
  refine W.eq (g2 := F0 m 68 ls [.int w0]) rfl ?_
  unfold T_X8_isStale_68 at hf
  cases hf
  have k : s_V G (d + 5) M_X8_isStale vs0 σ0 Y_X8_isStale (4, [.ref v0, .int v1, .int w0, .int (v3 + 1)], σ) (e_I r) := k
  refine lv_istore_n (lv' := [(2, .int w0), (0, .ref v0), (1, .int v1), (3, .int v3)]) hx hb dX8_isStale_68 rfl hl (by decide) rfl (fun ls hl => ?_)
  refine lv_iinc (v := (v3 + 1)) (lv' := [(3, .int (v3 + 1)), (2, .int w0), (0, .ref v0), (1, .int v1)]) hx hb dX8_isStale_69 hl (k := 3) rfl rfl (by decide) rfl (fun ls hl => ?_)
  refine lv_goto (tgt := 4) hx hb dX8_isStale_72 (by decide) ?_
  exact k.2 p e s m below meth c _ _ _ _ _ X I hn.1 hn.2 (lv_sub hl [2, 3, 1, 0] rfl)
theorem v_X8_isStale {G : sG} {d : Nat} {vs0 : List Value} {σ0 : sS} {x : sL} {z : sZ Int32} {r : Int32 × sS} (hs : S_X8_isStale x = some z) (k : s_K G (d + 5) M_X8_isStale vs0 σ0 Y_X8_isStale e_I z r) : s_V G (d + 5) M_X8_isStale vs0 σ0 Y_X8_isStale x (e_I r) := by
  obtain ⟨pc, vs, σ⟩ := x
  unfold S_X8_isStale at hs
  dsimp only at hs
  rcases s_ite hs with ⟨c, hs⟩ | ⟨-, hs⟩
  · subst c
    unfold U_X8_isStale_0 at hs
    obtain ⟨a0, g0, hs⟩ := s_bind hs
    obtain ⟨a1, g1, hs⟩ := s_bind hs
    obtain ⟨u9, ge, hs⟩ := s_bind hs
    rw [g_r_to g0, g_i_to g1, g_e_to ge]
    exact v_X8_isStale_0 hs k
  rcases s_ite hs with ⟨c, hs⟩ | ⟨-, hs⟩
  · subst c
    unfold U_X8_isStale_4 at hs
    obtain ⟨a0, g0, hs⟩ := s_bind hs
    obtain ⟨a1, g1, hs⟩ := s_bind hs
    obtain ⟨a2, g2, hs⟩ := s_bind hs
    obtain ⟨a3, g3, hs⟩ := s_bind hs
    obtain ⟨u9, ge, hs⟩ := s_bind hs
    rw [g_r_to g0, g_i_to g1, g_i_to g2, g_i_to g3, g_e_to ge]
    exact v_X8_isStale_4 hs k
  rcases s_ite hs with ⟨c, hs⟩ | ⟨-, hs⟩
  · subst c
    unfold U_X8_isStale_63 at hs
    obtain ⟨a0, g0, hs⟩ := s_bind hs
    obtain ⟨a1, g1, hs⟩ := s_bind hs
    obtain ⟨a2, g2, hs⟩ := s_bind hs
    obtain ⟨u9, ge, hs⟩ := s_bind hs
    rw [g_r_to g0, g_i_to g1, g_i_to g2, g_e_to ge]
    exact v_X8_isStale_63 hs k
  rcases s_ite hs with ⟨c, hs⟩ | ⟨-, hs⟩
  · subst c
    unfold U_X8_isStale_67 at hs
    obtain ⟨a0, g0, hs⟩ := s_bind hs
    obtain ⟨a1, g1, hs⟩ := s_bind hs
    obtain ⟨a2, g2, hs⟩ := s_bind hs
    obtain ⟨u9, ge, hs⟩ := s_bind hs
    rw [g_r_to g0, g_i_to g1, g_i_to g2, g_e_to ge]
    exact v_X8_isStale_67 hs k
  rcases s_ite hs with ⟨c, hs⟩ | ⟨-, hs⟩
  · subst c
    unfold U_X8_isStale_68 at hs
    obtain ⟨a0, g0, hs⟩ := s_bind hs
    obtain ⟨a1, g1, hs⟩ := s_bind hs
    obtain ⟨a2, g2, hs⟩ := s_bind hs
    obtain ⟨a3, g3, hs⟩ := s_bind hs
    obtain ⟨u9, ge, hs⟩ := s_bind hs
    rw [g_r_to g0, g_i_to g1, g_i_to g2, g_i_to g3, g_e_to ge]
    exact v_X8_isStale_68 hs k
  cases hs
theorem t_X8_isStale {G : sG} {d : Nat} {v0 : Nat} {v1 : Int32} {σ : sS} {q : Int32 × sS} (h : F_X8_isStale v0 v1 σ = some q) : s_T G (d + 5) M_X8_isStale [.ref v0, .int v1] σ (e_I q) := by
  unfold F_X8_isStale at h
  obtain ⟨-, -, h⟩ := s_bind h
  exact s_ofV rfl (by decide) (Nat.le_of_ble_eq_true rfl) rfl rfl (s_run_ind (V := fun x r => s_V G (d + 5) M_X8_isStale [.ref v0, .int v1] σ Y_X8_isStale x (e_I r)) (fun x z r hs hk => v_X8_isStale hs (by cases z <;> exact hk)) h)
/-! X8_isSaved -/
noncomputable def T_X8_isSaved_0 (v0 : Nat) (v1 : Int32) (σ : sS) : Option (sZ Int32) :=
  some (.inl (4, [.ref v0, .int v1, .int 0, .int 0], σ))
noncomputable def U_X8_isSaved_0 (vs : List Value) (σ : sS) : Option (sZ Int32) := (g_r vs).bind fun a0 => (g_i a0.2).bind fun a1 => (g_e a1.2).bind fun _ => T_X8_isSaved_0 a0.1 a1.1 σ
noncomputable def T_X8_isSaved_4 (v0 : Nat) (v1 : Int32) (v2 : Int32) (v3 : Int32) (σ : sS) : Option (sZ Int32) :=
  (F_X8_lines v0 σ).bind fun q1 =>
  if q1.1 ≤ v3 then (if (v2 = 0 ∨ v2 = 1) then (some (.inr (v2, q1.2))) else none)
  else ((F_X8_isStale v0 v1 q1.2).bind fun q2 =>
  if q2.1 = 0 then (if (v2 = 0 ∨ v2 = 1) then (some (.inr (v2, q2.2))) else none)
  else (if v2 = 0 then (if v3 = v1 then (some (.inl (77, [.ref v0, .int v1, .int v3], q2.2)))
  else ((F_X8_ofLine v0 v3 1 q2.2).bind fun q3 =>
  (F_X8_ofLine v0 v1 1 q3.2).bind fun q4 =>
  (F_X8_isSame v0 q3.1 q4.1 q4.2).bind fun q5 =>
  if q5.1 = 0 then (some (.inl (77, [.ref v0, .int v1, .int v3], q5.2)))
  else ((s_fr q5.2 v0 8 17).bind fun x6 =>
  (s_ab q5.2 x6 v3).bind fun x7 =>
  if x7 = 0 then (some (.inl (77, [.ref v0, .int v1, .int v3], q5.2)))
  else ((F_X8_isOpen v0 v3 q5.2).bind fun q8 =>
  if q8.1 = 0 then ((F_X8_isStale v0 v3 q8.2).bind fun q9 =>
  if q9.1 = 0 then (some (.inl (78, [.ref v0, .int v1, .int v3, .int 1], q9.2)))
  else (some (.inl (77, [.ref v0, .int v1, .int v3], q9.2))))
  else (some (.inl (77, [.ref v0, .int v1, .int v3], q8.2)))))))
  else (if (v2 = 0 ∨ v2 = 1) then (some (.inr (v2, q2.2))) else none)))
noncomputable def U_X8_isSaved_4 (vs : List Value) (σ : sS) : Option (sZ Int32) := (g_r vs).bind fun a0 => (g_i a0.2).bind fun a1 => (g_i a1.2).bind fun a2 => (g_i a2.2).bind fun a3 => (g_e a3.2).bind fun _ => T_X8_isSaved_4 a0.1 a1.1 a2.1 a3.1 σ
noncomputable def T_X8_isSaved_77 (v0 : Nat) (v1 : Int32) (v3 : Int32) (σ : sS) : Option (sZ Int32) :=
  some (.inl (78, [.ref v0, .int v1, .int v3, .int 0], σ))
noncomputable def U_X8_isSaved_77 (vs : List Value) (σ : sS) : Option (sZ Int32) := (g_r vs).bind fun a0 => (g_i a0.2).bind fun a1 => (g_i a1.2).bind fun a2 => (g_e a2.2).bind fun _ => T_X8_isSaved_77 a0.1 a1.1 a2.1 σ
noncomputable def T_X8_isSaved_78 (v0 : Nat) (v1 : Int32) (v3 : Int32) (w0 : Int32) (σ : sS) : Option (sZ Int32) :=
  some (.inl (4, [.ref v0, .int v1, .int w0, .int (v3 + 1)], σ))
noncomputable def U_X8_isSaved_78 (vs : List Value) (σ : sS) : Option (sZ Int32) := (g_r vs).bind fun a0 => (g_i a0.2).bind fun a1 => (g_i a1.2).bind fun a2 => (g_i a2.2).bind fun a3 => (g_e a3.2).bind fun _ => T_X8_isSaved_78 a0.1 a1.1 a2.1 a3.1 σ
noncomputable def S_X8_isSaved (x : sL) : Option (sZ Int32) := if x.1 = 0 then U_X8_isSaved_0 x.2.1 x.2.2 else if x.1 = 4 then U_X8_isSaved_4 x.2.1 x.2.2 else if x.1 = 77 then U_X8_isSaved_77 x.2.1 x.2.2 else if x.1 = 78 then U_X8_isSaved_78 x.2.1 x.2.2 else none
def Y_X8_isSaved (pc : Nat) : List Nat := if pc = 0 then [0, 1] else if pc = 4 then [0, 1, 2, 3] else if pc = 77 then [0, 1, 3] else if pc = 78 then [0, 1, 3] else []
noncomputable def F_X8_isSaved (v0 : Nat) (v1 : Int32) (σ : sS) : Option (Int32 × sS) := (s_is σ v0 8).bind fun _ => s_run S_X8_isSaved (0, [.ref v0, .int v1], σ)
theorem l_X8_isSaved_0 {v0 : Nat} {v1 : Int32} {σ : sS} {z : sZ Int32} (hf : T_X8_isSaved_0 v0 v1 σ = some z) : s_lz σ z := by
  unfold T_X8_isSaved_0 at hf
  cases hf
  exact s_le.rf
theorem l_X8_isSaved_4 {v0 : Nat} {v1 : Int32} {v2 : Int32} {v3 : Int32} {σ : sS} {z : sZ Int32} (hf : T_X8_isSaved_4 v0 v1 v2 v3 σ = some z) : s_lz σ z := by
  unfold T_X8_isSaved_4 at hf
  obtain ⟨q1, hh, hf⟩ := s_bind hf
  refine s_lz.tr (l_X8_lines hh) ?_
  rcases s_ite hf with ⟨-, hf⟩ | ⟨-, hf⟩
  · rcases s_ite hf with ⟨-, hf⟩ | ⟨-, hf⟩
    · cases hf
      exact s_le.rf
    · cases hf
  · obtain ⟨q2, hh, hf⟩ := s_bind hf
    refine s_lz.tr (l_X8_isStale hh) ?_
    rcases s_ite hf with ⟨-, hf⟩ | ⟨-, hf⟩
    · rcases s_ite hf with ⟨-, hf⟩ | ⟨-, hf⟩
      · cases hf
        exact s_le.rf
      · cases hf
    · rcases s_ite hf with ⟨-, hf⟩ | ⟨-, hf⟩
      · rcases s_ite hf with ⟨-, hf⟩ | ⟨-, hf⟩
        · cases hf
          exact s_le.rf
        · obtain ⟨q3, hh, hf⟩ := s_bind hf
          refine s_lz.tr (l_X8_ofLine hh) ?_
          obtain ⟨q4, hh, hf⟩ := s_bind hf
          refine s_lz.tr (l_X8_ofLine hh) ?_
          obtain ⟨q5, hh, hf⟩ := s_bind hf
          refine s_lz.tr (l_X8_isSame hh) ?_
          rcases s_ite hf with ⟨-, hf⟩ | ⟨-, hf⟩
          · cases hf
            exact s_le.rf
          · obtain ⟨x6, -, hf⟩ := s_bind hf
            obtain ⟨x7, -, hf⟩ := s_bind hf
            rcases s_ite hf with ⟨-, hf⟩ | ⟨-, hf⟩
            · cases hf
              exact s_le.rf
            · obtain ⟨q8, hh, hf⟩ := s_bind hf
              refine s_lz.tr (l_X8_isOpen hh) ?_
              rcases s_ite hf with ⟨-, hf⟩ | ⟨-, hf⟩
              · obtain ⟨q9, hh, hf⟩ := s_bind hf
                refine s_lz.tr (l_X8_isStale hh) ?_
                rcases s_ite hf with ⟨-, hf⟩ | ⟨-, hf⟩
                · cases hf
                  exact s_le.rf
                · cases hf
                  exact s_le.rf
              · cases hf
                exact s_le.rf
      · rcases s_ite hf with ⟨-, hf⟩ | ⟨-, hf⟩
        · cases hf
          exact s_le.rf
        · cases hf
theorem l_X8_isSaved_77 {v0 : Nat} {v1 : Int32} {v3 : Int32} {σ : sS} {z : sZ Int32} (hf : T_X8_isSaved_77 v0 v1 v3 σ = some z) : s_lz σ z := by
  unfold T_X8_isSaved_77 at hf
  cases hf
  exact s_le.rf
theorem l_X8_isSaved_78 {v0 : Nat} {v1 : Int32} {v3 : Int32} {w0 : Int32} {σ : sS} {z : sZ Int32} (hf : T_X8_isSaved_78 v0 v1 v3 w0 σ = some z) : s_lz σ z := by
  unfold T_X8_isSaved_78 at hf
  cases hf
  exact s_le.rf
theorem l_X8_isSaved_s {x : sL} {z : sZ Int32} (hs : S_X8_isSaved x = some z) : s_lz x.2.2 z := by
  obtain ⟨pc, vs, σ⟩ := x
  unfold S_X8_isSaved at hs
  dsimp only at hs ⊢
  rcases s_ite hs with ⟨c, hs⟩ | ⟨-, hs⟩
  · subst c
    unfold U_X8_isSaved_0 at hs
    obtain ⟨a0, g0, hs⟩ := s_bind hs
    obtain ⟨a1, g1, hs⟩ := s_bind hs
    obtain ⟨u9, ge, hs⟩ := s_bind hs
    exact l_X8_isSaved_0 hs
  rcases s_ite hs with ⟨c, hs⟩ | ⟨-, hs⟩
  · subst c
    unfold U_X8_isSaved_4 at hs
    obtain ⟨a0, g0, hs⟩ := s_bind hs
    obtain ⟨a1, g1, hs⟩ := s_bind hs
    obtain ⟨a2, g2, hs⟩ := s_bind hs
    obtain ⟨a3, g3, hs⟩ := s_bind hs
    obtain ⟨u9, ge, hs⟩ := s_bind hs
    exact l_X8_isSaved_4 hs
  rcases s_ite hs with ⟨c, hs⟩ | ⟨-, hs⟩
  · subst c
    unfold U_X8_isSaved_77 at hs
    obtain ⟨a0, g0, hs⟩ := s_bind hs
    obtain ⟨a1, g1, hs⟩ := s_bind hs
    obtain ⟨a2, g2, hs⟩ := s_bind hs
    obtain ⟨u9, ge, hs⟩ := s_bind hs
    exact l_X8_isSaved_77 hs
  rcases s_ite hs with ⟨c, hs⟩ | ⟨-, hs⟩
  · subst c
    unfold U_X8_isSaved_78 at hs
    obtain ⟨a0, g0, hs⟩ := s_bind hs
    obtain ⟨a1, g1, hs⟩ := s_bind hs
    obtain ⟨a2, g2, hs⟩ := s_bind hs
    obtain ⟨a3, g3, hs⟩ := s_bind hs
    obtain ⟨u9, ge, hs⟩ := s_bind hs
    exact l_X8_isSaved_78 hs
  cases hs
theorem l_X8_isSaved {v0 : Nat} {v1 : Int32} {σ : sS} {q : Int32 × sS} (h : F_X8_isSaved v0 v1 σ = some q) : s_le σ q.2 := by
  unfold F_X8_isSaved at h
  obtain ⟨-, -, h⟩ := s_bind h
  exact s_run_ind (V := fun x r => s_le x.2.2 r.2) (fun x z r hs hk => by
    have h9 := l_X8_isSaved_s hs
    cases z with
    | inl y => exact s_le.tr h9 hk
    | inr q => cases hk; exact h9) h
theorem b_X8_isSaved {v0 : Nat} {v1 : Int32} {σ : sS} {q : Int32 × sS} (h : F_X8_isSaved v0 v1 σ = some q) : ∃ fs, σ.1 v0 = some (.inr (8, fs)) := by
  unfold F_X8_isSaved at h
  obtain ⟨u, hu, -⟩ := s_bind h
  exact s_is_to hu
set_option maxRecDepth 100000 in
set_option maxHeartbeats 4000000 in
theorem v_X8_isSaved_0 {G : sG} {d : Nat} {vs0 : List Value} {σ0 : sS} {v0 : Nat} {v1 : Int32} {σ : sS} {z : sZ Int32} {r : Int32 × sS} (hf : T_X8_isSaved_0 v0 v1 σ = some z) (k : s_K G (d + 6) M_X8_isSaved vs0 σ0 Y_X8_isSaved e_I z r) : s_V G (d + 6) M_X8_isSaved vs0 σ0 Y_X8_isSaved (0, [.ref v0, .int v1], σ) (e_I r) := by
  have le0 : s_le σ (e_I r).2 := s_lek hem_I (l_X8_isSaved_0 hf) k
  refine ⟨le0, ?_⟩
  intro p e s m below meth c H locs cells slots ls X I hn1 hn2 hl
  have hn : cells + σ0.2.1 ≤ σ.2.1 ∧ slots + σ0.2.2.1 ≤ σ.2.2.1 := ⟨hn1, hn2⟩
  have hl : lv_has ls 4 [(0, .ref v0), (1, .int v1)] := hl
  have hx := X.1
  have hb : c.code = cX8_isSaved := X.2.1
  have hown : s.vm.findClass RX8 = some m.cls := X.2.2.2.2.2.1
  have hts := X.2.2.2.2.2.2.1
  refine W.eq (g2 := F0 m 0 ls []) rfl ?_
  unfold T_X8_isSaved_0 at hf
  cases hf
  have k : s_V G (d + 6) M_X8_isSaved vs0 σ0 Y_X8_isSaved (4, [.ref v0, .int v1, .int 0, .int 0], σ) (e_I r) := k
  refine lv_iconst (v := 0) hx hb dX8_isSaved_0 (by decide) ?_
  refine lv_istore_n (lv' := [(2, .int 0), (0, .ref v0), (1, .int v1)]) hx hb dX8_isSaved_1 rfl hl (by decide) rfl (fun ls hl => ?_)
  refine lv_iconst (v := 0) hx hb dX8_isSaved_2 (by decide) ?_
  refine lv_istore_n (lv' := [(3, .int 0), (2, .int 0), (0, .ref v0), (1, .int v1)]) hx hb dX8_isSaved_3 rfl hl (by decide) rfl (fun ls hl => ?_)
  exact k.2 p e s m below meth c _ _ _ _ _ X I hn.1 hn.2 (lv_sub hl [2, 3, 1, 0] rfl)
set_option maxRecDepth 100000 in
set_option maxHeartbeats 4000000 in
theorem v_X8_isSaved_4 {G : sG} {d : Nat} {vs0 : List Value} {σ0 : sS} {v0 : Nat} {v1 : Int32} {v2 : Int32} {v3 : Int32} {σ : sS} {z : sZ Int32} {r : Int32 × sS} (hf : T_X8_isSaved_4 v0 v1 v2 v3 σ = some z) (k : s_K G (d + 6) M_X8_isSaved vs0 σ0 Y_X8_isSaved e_I z r) : s_V G (d + 6) M_X8_isSaved vs0 σ0 Y_X8_isSaved (4, [.ref v0, .int v1, .int v2, .int v3], σ) (e_I r) := by
  have le0 : s_le σ (e_I r).2 := s_lek hem_I (l_X8_isSaved_4 hf) k
  refine ⟨le0, ?_⟩
  intro p e s m below meth c H locs cells slots ls X I hn1 hn2 hl
  have hn : cells + σ0.2.1 ≤ σ.2.1 ∧ slots + σ0.2.2.1 ≤ σ.2.2.1 := ⟨hn1, hn2⟩
  have hl : lv_has ls 4 [(0, .ref v0), (1, .int v1), (2, .int v2), (3, .int v3)] := hl
  have hx := X.1
  have hb : c.code = cX8_isSaved := X.2.1
  have hown : s.vm.findClass RX8 = some m.cls := X.2.2.2.2.2.1
  have hts := X.2.2.2.2.2.2.1
  refine W.eq (g2 := F0 m 4 ls []) rfl ?_
  unfold T_X8_isSaved_4 at hf
  obtain ⟨q1, h1, hf⟩ := s_bind hf
  have le2 : s_le q1.2 (e_I r).2 := by
    refine s_lek hem_I ?_ k
    rcases s_ite hf with ⟨-, hf⟩ | ⟨-, hf⟩
    · rcases s_ite hf with ⟨-, hf⟩ | ⟨-, hf⟩
      · cases hf
        exact s_le.rf
      · cases hf
    · obtain ⟨q2, hh, hf⟩ := s_bind hf
      refine s_lz.tr (l_X8_isStale hh) ?_
      rcases s_ite hf with ⟨-, hf⟩ | ⟨-, hf⟩
      · rcases s_ite hf with ⟨-, hf⟩ | ⟨-, hf⟩
        · cases hf
          exact s_le.rf
        · cases hf
      · rcases s_ite hf with ⟨-, hf⟩ | ⟨-, hf⟩
        · rcases s_ite hf with ⟨-, hf⟩ | ⟨-, hf⟩
          · cases hf
            exact s_le.rf
          · obtain ⟨q3, hh, hf⟩ := s_bind hf
            refine s_lz.tr (l_X8_ofLine hh) ?_
            obtain ⟨q4, hh, hf⟩ := s_bind hf
            refine s_lz.tr (l_X8_ofLine hh) ?_
            obtain ⟨q5, hh, hf⟩ := s_bind hf
            refine s_lz.tr (l_X8_isSame hh) ?_
            rcases s_ite hf with ⟨-, hf⟩ | ⟨-, hf⟩
            · cases hf
              exact s_le.rf
            · obtain ⟨x6, -, hf⟩ := s_bind hf
              obtain ⟨x7, -, hf⟩ := s_bind hf
              rcases s_ite hf with ⟨-, hf⟩ | ⟨-, hf⟩
              · cases hf
                exact s_le.rf
              · obtain ⟨q8, hh, hf⟩ := s_bind hf
                refine s_lz.tr (l_X8_isOpen hh) ?_
                rcases s_ite hf with ⟨-, hf⟩ | ⟨-, hf⟩
                · obtain ⟨q9, hh, hf⟩ := s_bind hf
                  refine s_lz.tr (l_X8_isStale hh) ?_
                  rcases s_ite hf with ⟨-, hf⟩ | ⟨-, hf⟩
                  · cases hf
                    exact s_le.rf
                  · cases hf
                    exact s_le.rf
                · cases hf
                  exact s_le.rf
        · rcases s_ite hf with ⟨-, hf⟩ | ⟨-, hf⟩
          · cases hf
            exact s_le.rf
          · cases hf
  refine lv_iload_n hx hb dX8_isSaved_4 rfl (lv_at hl 3 rfl) ?_
  refine lv_aload_n hx hb dX8_isSaved_5 rfl (lv_at hl 0 rfl) ?_
  refine r_callV (Y := M_X8_lines) (v := some (.int q1.1)) X I w_2003 my_X8_lines (by omega) (t_X8_lines (G := G) (d := d + 4) h1) (b_X8_lines h1) rfl rfl hl.1 rfl (Nat.le_of_ble_eq_true rfl) hn le2 dX8_isSaved_6 (fun H locs cells slots I hn1 hn2 => ?_)
  have I : s_I G q1.2 s H locs := I
  have hn : cells + σ0.2.1 ≤ q1.2.2.1 ∧ slots + σ0.2.2.1 ≤ q1.2.2.2.1 := ⟨hn1, hn2⟩
  rcases s_ite hf with ⟨c3, hf⟩ | ⟨c3, hf⟩
  · refine lv_icmp_ge (tgt := 85) hx hb dX8_isSaved_9 (by decide) (fun _ => ?_) (fun n => absurd c3 n)
    refine lv_iload_n hx hb dX8_isSaved_85 rfl (lv_at hl 2 rfl) ?_
    rcases s_ite hf with ⟨hchk, hf⟩ | ⟨-, hf⟩
    · cases hf
      have k : _ = r := k
      subst k
      exact r_iret X I rfl (s_nb hchk) rfl hn dX8_isSaved_86
    · cases hf
  · refine lv_icmp_ge (tgt := 85) hx hb dX8_isSaved_9 (by decide) (fun n => absurd n c3) (fun _ => ?_)
    obtain ⟨q2, h4, hf⟩ := s_bind hf
    have le5 : s_le q2.2 (e_I r).2 := by
      refine s_lek hem_I ?_ k
      rcases s_ite hf with ⟨-, hf⟩ | ⟨-, hf⟩
      · rcases s_ite hf with ⟨-, hf⟩ | ⟨-, hf⟩
        · cases hf
          exact s_le.rf
        · cases hf
      · rcases s_ite hf with ⟨-, hf⟩ | ⟨-, hf⟩
        · rcases s_ite hf with ⟨-, hf⟩ | ⟨-, hf⟩
          · cases hf
            exact s_le.rf
          · obtain ⟨q3, hh, hf⟩ := s_bind hf
            refine s_lz.tr (l_X8_ofLine hh) ?_
            obtain ⟨q4, hh, hf⟩ := s_bind hf
            refine s_lz.tr (l_X8_ofLine hh) ?_
            obtain ⟨q5, hh, hf⟩ := s_bind hf
            refine s_lz.tr (l_X8_isSame hh) ?_
            rcases s_ite hf with ⟨-, hf⟩ | ⟨-, hf⟩
            · cases hf
              exact s_le.rf
            · obtain ⟨x6, -, hf⟩ := s_bind hf
              obtain ⟨x7, -, hf⟩ := s_bind hf
              rcases s_ite hf with ⟨-, hf⟩ | ⟨-, hf⟩
              · cases hf
                exact s_le.rf
              · obtain ⟨q8, hh, hf⟩ := s_bind hf
                refine s_lz.tr (l_X8_isOpen hh) ?_
                rcases s_ite hf with ⟨-, hf⟩ | ⟨-, hf⟩
                · obtain ⟨q9, hh, hf⟩ := s_bind hf
                  refine s_lz.tr (l_X8_isStale hh) ?_
                  rcases s_ite hf with ⟨-, hf⟩ | ⟨-, hf⟩
                  · cases hf
                    exact s_le.rf
                  · cases hf
                    exact s_le.rf
                · cases hf
                  exact s_le.rf
        · rcases s_ite hf with ⟨-, hf⟩ | ⟨-, hf⟩
          · cases hf
            exact s_le.rf
          · cases hf
    refine lv_aload_n hx hb dX8_isSaved_12 rfl (lv_at hl 0 rfl) ?_
    refine lv_iload_n hx hb dX8_isSaved_13 rfl (lv_at hl 1 rfl) ?_
    refine r_callV (Y := M_X8_isStale) (v := some (.int q2.1)) X I w_2096 my_X8_isStale (by omega) (t_X8_isStale (G := G) (d := d + 0) h4) (b_X8_isStale h4) rfl rfl hl.1 rfl (Nat.le_of_ble_eq_true rfl) hn le5 dX8_isSaved_14 (fun H locs cells slots I hn1 hn2 => ?_)
    have I : s_I G q2.2 s H locs := I
    have hn : cells + σ0.2.1 ≤ q2.2.2.1 ∧ slots + σ0.2.2.1 ≤ q2.2.2.2.1 := ⟨hn1, hn2⟩
    rcases s_ite hf with ⟨c6, hf⟩ | ⟨c6, hf⟩
    · refine lv_if_eq (tgt := 85) hx hb dX8_isSaved_17 (by decide) (fun _ => ?_) (fun n => absurd c6 n)
      refine lv_iload_n hx hb dX8_isSaved_85 rfl (lv_at hl 2 rfl) ?_
      rcases s_ite hf with ⟨hchk, hf⟩ | ⟨-, hf⟩
      · cases hf
        have k : _ = r := k
        subst k
        exact r_iret X I rfl (s_nb hchk) rfl hn dX8_isSaved_86
      · cases hf
    · refine lv_if_eq (tgt := 85) hx hb dX8_isSaved_17 (by decide) (fun n => absurd n c6) (fun _ => ?_)
      refine lv_iload_n hx hb dX8_isSaved_20 rfl (lv_at hl 2 rfl) ?_
      rcases s_ite hf with ⟨c7, hf⟩ | ⟨c7, hf⟩
      · refine lv_if_ne (tgt := 85) hx hb dX8_isSaved_21 (by decide) (fun n => absurd c7 n) (fun _ => ?_)
        refine lv_iload_n hx hb dX8_isSaved_24 rfl (lv_at hl 3 rfl) ?_
        refine lv_iload_n hx hb dX8_isSaved_25 rfl (lv_at hl 1 rfl) ?_
        rcases s_ite hf with ⟨c8, hf⟩ | ⟨c8, hf⟩
        · refine lv_icmp_eq (tgt := 77) hx hb dX8_isSaved_26 (by decide) (fun _ => ?_) (fun n => absurd c8 n)
          cases hf
          have k : s_V G (d + 6) M_X8_isSaved vs0 σ0 Y_X8_isSaved (77, [.ref v0, .int v1, .int v3], q2.2) (e_I r) := k
          exact k.2 p e s m below meth c _ _ _ _ _ X I hn.1 hn.2 (lv_sub hl [0, 1, 3] rfl)
        · refine lv_icmp_eq (tgt := 77) hx hb dX8_isSaved_26 (by decide) (fun n => absurd n c8) (fun _ => ?_)
          obtain ⟨q3, h9, hf⟩ := s_bind hf
          obtain ⟨q4, h10, hf⟩ := s_bind hf
          obtain ⟨q5, h11, hf⟩ := s_bind hf
          have le12 : s_le q5.2 (e_I r).2 := by
            refine s_lek hem_I ?_ k
            rcases s_ite hf with ⟨-, hf⟩ | ⟨-, hf⟩
            · cases hf
              exact s_le.rf
            · obtain ⟨x6, -, hf⟩ := s_bind hf
              obtain ⟨x7, -, hf⟩ := s_bind hf
              rcases s_ite hf with ⟨-, hf⟩ | ⟨-, hf⟩
              · cases hf
                exact s_le.rf
              · obtain ⟨q8, hh, hf⟩ := s_bind hf
                refine s_lz.tr (l_X8_isOpen hh) ?_
                rcases s_ite hf with ⟨-, hf⟩ | ⟨-, hf⟩
                · obtain ⟨q9, hh, hf⟩ := s_bind hf
                  refine s_lz.tr (l_X8_isStale hh) ?_
                  rcases s_ite hf with ⟨-, hf⟩ | ⟨-, hf⟩
                  · cases hf
                    exact s_le.rf
                  · cases hf
                    exact s_le.rf
                · cases hf
                  exact s_le.rf
          have le13 := s_le.tr (l_X8_isSame h11) le12
          have le14 := s_le.tr (l_X8_ofLine h10) le13
          refine lv_aload_n hx hb dX8_isSaved_29 rfl (lv_at hl 0 rfl) ?_
          refine lv_aload_n hx hb dX8_isSaved_30 rfl (lv_at hl 0 rfl) ?_
          refine lv_iload_n hx hb dX8_isSaved_31 rfl (lv_at hl 3 rfl) ?_
          refine lv_iconst (v := 1) hx hb dX8_isSaved_32 (by decide) ?_
          refine r_callV (Y := M_X8_ofLine) (v := some (.int q3.1)) X I w_2015 my_X8_ofLine (by omega) (t_X8_ofLine (G := G) (d := d + 4) h9) (b_X8_ofLine h9) rfl rfl hl.1 rfl (Nat.le_of_ble_eq_true rfl) hn le14 dX8_isSaved_33 (fun H locs cells slots I hn1 hn2 => ?_)
          have I : s_I G q3.2 s H locs := I
          have hn : cells + σ0.2.1 ≤ q3.2.2.1 ∧ slots + σ0.2.2.1 ≤ q3.2.2.2.1 := ⟨hn1, hn2⟩
          refine lv_aload_n hx hb dX8_isSaved_36 rfl (lv_at hl 0 rfl) ?_
          refine lv_iload_n hx hb dX8_isSaved_37 rfl (lv_at hl 1 rfl) ?_
          refine lv_iconst (v := 1) hx hb dX8_isSaved_38 (by decide) ?_
          refine r_callV (Y := M_X8_ofLine) (v := some (.int q4.1)) X I w_2015 my_X8_ofLine (by omega) (t_X8_ofLine (G := G) (d := d + 4) h10) (b_X8_ofLine h10) rfl rfl hl.1 rfl (Nat.le_of_ble_eq_true rfl) hn le13 dX8_isSaved_39 (fun H locs cells slots I hn1 hn2 => ?_)
          have I : s_I G q4.2 s H locs := I
          have hn : cells + σ0.2.1 ≤ q4.2.2.1 ∧ slots + σ0.2.2.1 ≤ q4.2.2.2.1 := ⟨hn1, hn2⟩
          refine r_callV (Y := M_X8_isSame) (v := some (.int q5.1)) X I w_1924 my_X8_isSame (by omega) (t_X8_isSame (G := G) (d := d + 2) h11) (b_X8_isSame h11) rfl rfl hl.1 rfl (Nat.le_of_ble_eq_true rfl) hn le12 dX8_isSaved_42 (fun H locs cells slots I hn1 hn2 => ?_)
          have I : s_I G q5.2 s H locs := I
          have hn : cells + σ0.2.1 ≤ q5.2.2.1 ∧ slots + σ0.2.2.1 ≤ q5.2.2.2.1 := ⟨hn1, hn2⟩
          rcases s_ite hf with ⟨c15, hf⟩ | ⟨c15, hf⟩
          · refine lv_if_eq (tgt := 77) hx hb dX8_isSaved_45 (by decide) (fun _ => ?_) (fun n => absurd c15 n)
            cases hf
            have k : s_V G (d + 6) M_X8_isSaved vs0 σ0 Y_X8_isSaved (77, [.ref v0, .int v1, .int v3], q5.2) (e_I r) := k
            exact k.2 p e s m below meth c _ _ _ _ _ X I hn.1 hn.2 (lv_sub hl [0, 1, 3] rfl)
          · refine lv_if_eq (tgt := 77) hx hb dX8_isSaved_45 (by decide) (fun n => absurd n c15) (fun _ => ?_)
            obtain ⟨x6, h16, hf⟩ := s_bind hf
            obtain ⟨x7, h17, hf⟩ := s_bind hf
            refine lv_aload_n hx hb dX8_isSaved_48 rfl (lv_at hl 0 rfl) ?_
            refine r_gr X I fl_X8_39 h16 dX8_isSaved_49 ?_
            refine lv_iload_n hx hb dX8_isSaved_52 rfl (lv_at hl 3 rfl) ?_
            refine r_bald X I h17 dX8_isSaved_53 ?_
            rcases s_ite hf with ⟨c18, hf⟩ | ⟨c18, hf⟩
            · refine lv_if_eq (tgt := 77) hx hb dX8_isSaved_54 (by decide) (fun _ => ?_) (fun n => absurd c18 n)
              cases hf
              have k : s_V G (d + 6) M_X8_isSaved vs0 σ0 Y_X8_isSaved (77, [.ref v0, .int v1, .int v3], q5.2) (e_I r) := k
              exact k.2 p e s m below meth c _ _ _ _ _ X I hn.1 hn.2 (lv_sub hl [0, 1, 3] rfl)
            · refine lv_if_eq (tgt := 77) hx hb dX8_isSaved_54 (by decide) (fun n => absurd n c18) (fun _ => ?_)
              obtain ⟨q8, h19, hf⟩ := s_bind hf
              have le20 : s_le q8.2 (e_I r).2 := by
                refine s_lek hem_I ?_ k
                rcases s_ite hf with ⟨-, hf⟩ | ⟨-, hf⟩
                · obtain ⟨q9, hh, hf⟩ := s_bind hf
                  refine s_lz.tr (l_X8_isStale hh) ?_
                  rcases s_ite hf with ⟨-, hf⟩ | ⟨-, hf⟩
                  · cases hf
                    exact s_le.rf
                  · cases hf
                    exact s_le.rf
                · cases hf
                  exact s_le.rf
              refine lv_aload_n hx hb dX8_isSaved_57 rfl (lv_at hl 0 rfl) ?_
              refine lv_iload_n hx hb dX8_isSaved_58 rfl (lv_at hl 3 rfl) ?_
              refine r_callV (Y := M_X8_isOpen) (v := some (.int q8.1)) X I w_2092 my_X8_isOpen (by omega) (t_X8_isOpen (G := G) (d := d + 3) h19) (b_X8_isOpen h19) rfl rfl hl.1 rfl (Nat.le_of_ble_eq_true rfl) hn le20 dX8_isSaved_59 (fun H locs cells slots I hn1 hn2 => ?_)
              have I : s_I G q8.2 s H locs := I
              have hn : cells + σ0.2.1 ≤ q8.2.2.1 ∧ slots + σ0.2.2.1 ≤ q8.2.2.2.1 := ⟨hn1, hn2⟩
              rcases s_ite hf with ⟨c21, hf⟩ | ⟨c21, hf⟩
              · refine lv_if_ne (tgt := 77) hx hb dX8_isSaved_62 (by decide) (fun n => absurd c21 n) (fun _ => ?_)
                obtain ⟨q9, h22, hf⟩ := s_bind hf
                have le23 : s_le q9.2 (e_I r).2 := by
                  refine s_lek hem_I ?_ k
                  rcases s_ite hf with ⟨-, hf⟩ | ⟨-, hf⟩
                  · cases hf
                    exact s_le.rf
                  · cases hf
                    exact s_le.rf
                refine lv_aload_n hx hb dX8_isSaved_65 rfl (lv_at hl 0 rfl) ?_
                refine lv_iload_n hx hb dX8_isSaved_66 rfl (lv_at hl 3 rfl) ?_
                refine r_callV (Y := M_X8_isStale) (v := some (.int q9.1)) X I w_2096 my_X8_isStale (by omega) (t_X8_isStale (G := G) (d := d + 0) h22) (b_X8_isStale h22) rfl rfl hl.1 rfl (Nat.le_of_ble_eq_true rfl) hn le23 dX8_isSaved_67 (fun H locs cells slots I hn1 hn2 => ?_)
                have I : s_I G q9.2 s H locs := I
                have hn : cells + σ0.2.1 ≤ q9.2.2.1 ∧ slots + σ0.2.2.1 ≤ q9.2.2.2.1 := ⟨hn1, hn2⟩
                rcases s_ite hf with ⟨c24, hf⟩ | ⟨c24, hf⟩
                · refine lv_if_ne (tgt := 77) hx hb dX8_isSaved_70 (by decide) (fun n => absurd c24 n) (fun _ => ?_)
                  cases hf
                  have k : s_V G (d + 6) M_X8_isSaved vs0 σ0 Y_X8_isSaved (78, [.ref v0, .int v1, .int v3, .int 1], q9.2) (e_I r) := k
                  refine lv_iconst (v := 1) hx hb dX8_isSaved_73 (by decide) ?_
                  refine lv_goto (tgt := 78) hx hb dX8_isSaved_74 (by decide) ?_
                  exact k.2 p e s m below meth c _ _ _ _ _ X I hn.1 hn.2 (lv_sub hl [0, 1, 3] rfl)
                · refine lv_if_ne (tgt := 77) hx hb dX8_isSaved_70 (by decide) (fun _ => ?_) (fun n => absurd n c24)
                  cases hf
                  have k : s_V G (d + 6) M_X8_isSaved vs0 σ0 Y_X8_isSaved (77, [.ref v0, .int v1, .int v3], q9.2) (e_I r) := k
                  exact k.2 p e s m below meth c _ _ _ _ _ X I hn.1 hn.2 (lv_sub hl [0, 1, 3] rfl)
              · refine lv_if_ne (tgt := 77) hx hb dX8_isSaved_62 (by decide) (fun _ => ?_) (fun n => absurd n c21)
                cases hf
                have k : s_V G (d + 6) M_X8_isSaved vs0 σ0 Y_X8_isSaved (77, [.ref v0, .int v1, .int v3], q8.2) (e_I r) := k
                exact k.2 p e s m below meth c _ _ _ _ _ X I hn.1 hn.2 (lv_sub hl [0, 1, 3] rfl)
      · refine lv_if_ne (tgt := 85) hx hb dX8_isSaved_21 (by decide) (fun _ => ?_) (fun n => absurd n c7)
        refine lv_iload_n hx hb dX8_isSaved_85 rfl (lv_at hl 2 rfl) ?_
        rcases s_ite hf with ⟨hchk, hf⟩ | ⟨-, hf⟩
        · cases hf
          have k : _ = r := k
          subst k
          exact r_iret X I rfl (s_nb hchk) rfl hn dX8_isSaved_86
        · cases hf
set_option maxRecDepth 100000 in
set_option maxHeartbeats 4000000 in
theorem v_X8_isSaved_77 {G : sG} {d : Nat} {vs0 : List Value} {σ0 : sS} {v0 : Nat} {v1 : Int32} {v3 : Int32} {σ : sS} {z : sZ Int32} {r : Int32 × sS} (hf : T_X8_isSaved_77 v0 v1 v3 σ = some z) (k : s_K G (d + 6) M_X8_isSaved vs0 σ0 Y_X8_isSaved e_I z r) : s_V G (d + 6) M_X8_isSaved vs0 σ0 Y_X8_isSaved (77, [.ref v0, .int v1, .int v3], σ) (e_I r) := by
  have le0 : s_le σ (e_I r).2 := s_lek hem_I (l_X8_isSaved_77 hf) k
  refine ⟨le0, ?_⟩
  intro p e s m below meth c H locs cells slots ls X I hn1 hn2 hl
  have hn : cells + σ0.2.1 ≤ σ.2.1 ∧ slots + σ0.2.2.1 ≤ σ.2.2.1 := ⟨hn1, hn2⟩
  have hl : lv_has ls 4 [(0, .ref v0), (1, .int v1), (3, .int v3)] := hl
  have hx := X.1
  have hb : c.code = cX8_isSaved := X.2.1
  have hown : s.vm.findClass RX8 = some m.cls := X.2.2.2.2.2.1
  have hts := X.2.2.2.2.2.2.1
  refine W.eq (g2 := F0 m 77 ls []) rfl ?_
  unfold T_X8_isSaved_77 at hf
  cases hf
  have k : s_V G (d + 6) M_X8_isSaved vs0 σ0 Y_X8_isSaved (78, [.ref v0, .int v1, .int v3, .int 0], σ) (e_I r) := k
  refine lv_iconst (v := 0) hx hb dX8_isSaved_77 (by decide) ?_
  exact k.2 p e s m below meth c _ _ _ _ _ X I hn.1 hn.2 (lv_sub hl [0, 1, 2] rfl)
set_option maxRecDepth 100000 in
set_option maxHeartbeats 4000000 in
theorem v_X8_isSaved_78 {G : sG} {d : Nat} {vs0 : List Value} {σ0 : sS} {v0 : Nat} {v1 : Int32} {v3 : Int32} {w0 : Int32} {σ : sS} {z : sZ Int32} {r : Int32 × sS} (hf : T_X8_isSaved_78 v0 v1 v3 w0 σ = some z) (k : s_K G (d + 6) M_X8_isSaved vs0 σ0 Y_X8_isSaved e_I z r) : s_V G (d + 6) M_X8_isSaved vs0 σ0 Y_X8_isSaved (78, [.ref v0, .int v1, .int v3, .int w0], σ) (e_I r) := by
  have le0 : s_le σ (e_I r).2 := s_lek hem_I (l_X8_isSaved_78 hf) k
  refine ⟨le0, ?_⟩
  intro p e s m below meth c H locs cells slots ls X I hn1 hn2 hl
  have hn : cells + σ0.2.1 ≤ σ.2.1 ∧ slots + σ0.2.2.1 ≤ σ.2.2.1 := ⟨hn1, hn2⟩
  have hl : lv_has ls 4 [(0, .ref v0), (1, .int v1), (3, .int v3)] := hl
  have hx := X.1
  have hb : c.code = cX8_isSaved := X.2.1
  have hown : s.vm.findClass RX8 = some m.cls := X.2.2.2.2.2.1
  have hts := X.2.2.2.2.2.2.1
  refine W.eq (g2 := F0 m 78 ls [.int w0]) rfl ?_
  unfold T_X8_isSaved_78 at hf
  cases hf
  have k : s_V G (d + 6) M_X8_isSaved vs0 σ0 Y_X8_isSaved (4, [.ref v0, .int v1, .int w0, .int (v3 + 1)], σ) (e_I r) := k
  refine lv_istore_n (lv' := [(2, .int w0), (0, .ref v0), (1, .int v1), (3, .int v3)]) hx hb dX8_isSaved_78 rfl hl (by decide) rfl (fun ls hl => ?_)
  refine lv_iinc (v := (v3 + 1)) (lv' := [(3, .int (v3 + 1)), (2, .int w0), (0, .ref v0), (1, .int v1)]) hx hb dX8_isSaved_79 hl (k := 3) rfl rfl (by decide) rfl (fun ls hl => ?_)
  refine lv_goto (tgt := 4) hx hb dX8_isSaved_82 (by decide) ?_
  exact k.2 p e s m below meth c _ _ _ _ _ X I hn.1 hn.2 (lv_sub hl [2, 3, 1, 0] rfl)
theorem v_X8_isSaved {G : sG} {d : Nat} {vs0 : List Value} {σ0 : sS} {x : sL} {z : sZ Int32} {r : Int32 × sS} (hs : S_X8_isSaved x = some z) (k : s_K G (d + 6) M_X8_isSaved vs0 σ0 Y_X8_isSaved e_I z r) : s_V G (d + 6) M_X8_isSaved vs0 σ0 Y_X8_isSaved x (e_I r) := by
  obtain ⟨pc, vs, σ⟩ := x
  unfold S_X8_isSaved at hs
  dsimp only at hs
  rcases s_ite hs with ⟨c, hs⟩ | ⟨-, hs⟩
  · subst c
    unfold U_X8_isSaved_0 at hs
    obtain ⟨a0, g0, hs⟩ := s_bind hs
    obtain ⟨a1, g1, hs⟩ := s_bind hs
    obtain ⟨u9, ge, hs⟩ := s_bind hs
    rw [g_r_to g0, g_i_to g1, g_e_to ge]
    exact v_X8_isSaved_0 hs k
  rcases s_ite hs with ⟨c, hs⟩ | ⟨-, hs⟩
  · subst c
    unfold U_X8_isSaved_4 at hs
    obtain ⟨a0, g0, hs⟩ := s_bind hs
    obtain ⟨a1, g1, hs⟩ := s_bind hs
    obtain ⟨a2, g2, hs⟩ := s_bind hs
    obtain ⟨a3, g3, hs⟩ := s_bind hs
    obtain ⟨u9, ge, hs⟩ := s_bind hs
    rw [g_r_to g0, g_i_to g1, g_i_to g2, g_i_to g3, g_e_to ge]
    exact v_X8_isSaved_4 hs k
  rcases s_ite hs with ⟨c, hs⟩ | ⟨-, hs⟩
  · subst c
    unfold U_X8_isSaved_77 at hs
    obtain ⟨a0, g0, hs⟩ := s_bind hs
    obtain ⟨a1, g1, hs⟩ := s_bind hs
    obtain ⟨a2, g2, hs⟩ := s_bind hs
    obtain ⟨u9, ge, hs⟩ := s_bind hs
    rw [g_r_to g0, g_i_to g1, g_i_to g2, g_e_to ge]
    exact v_X8_isSaved_77 hs k
  rcases s_ite hs with ⟨c, hs⟩ | ⟨-, hs⟩
  · subst c
    unfold U_X8_isSaved_78 at hs
    obtain ⟨a0, g0, hs⟩ := s_bind hs
    obtain ⟨a1, g1, hs⟩ := s_bind hs
    obtain ⟨a2, g2, hs⟩ := s_bind hs
    obtain ⟨a3, g3, hs⟩ := s_bind hs
    obtain ⟨u9, ge, hs⟩ := s_bind hs
    rw [g_r_to g0, g_i_to g1, g_i_to g2, g_i_to g3, g_e_to ge]
    exact v_X8_isSaved_78 hs k
  cases hs
theorem t_X8_isSaved {G : sG} {d : Nat} {v0 : Nat} {v1 : Int32} {σ : sS} {q : Int32 × sS} (h : F_X8_isSaved v0 v1 σ = some q) : s_T G (d + 6) M_X8_isSaved [.ref v0, .int v1] σ (e_I q) := by
  unfold F_X8_isSaved at h
  obtain ⟨-, -, h⟩ := s_bind h
  exact s_ofV rfl (by decide) (Nat.le_of_ble_eq_true rfl) rfl rfl (s_run_ind (V := fun x r => s_V G (d + 6) M_X8_isSaved [.ref v0, .int v1] σ Y_X8_isSaved x (e_I r)) (fun x z r hs hk => v_X8_isSaved hs (by cases z <;> exact hk)) h)
