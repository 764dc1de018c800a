/-! X8_isTrue -/
noncomputable def T_X8_isTrue_0 (v0 : Nat) (v1 : Int32) (v2 : Int32) (σ : sS) : Option (sZ Int32) :=
  (F_X8_d v0 σ).bind fun q1 =>
  (s_fr q1.2 v0 8 4).bind fun x2 =>
  (s_ai q1.2 x2 v1).bind fun x3 =>
  some (.inl (22, [.ref v0, .int v1, .int v2, .int ((1 <<< (q1.1 &&& 31)) - 1), .int 0, .int (x3 - 1)], q1.2))
noncomputable def U_X8_isTrue_0 (vs : List Value) (σ : sS) : Option (sZ Int32) := (g_r vs).bind fun a0 => (g_i a0.2).bind fun a1 => (g_i a1.2).bind fun a2 => (g_e a2.2).bind fun _ => T_X8_isTrue_0 a0.1 a1.1 a2.1 σ
noncomputable def T_X8_isTrue_22 (v0 : Nat) (v1 : Int32) (v2 : Int32) (v3 : Int32) (v4 : Int32) (v5 : Int32) (σ : sS) : Option (sZ Int32) :=
  if v5 < 0 then ((s_fr σ v0 8 16).bind fun x1 =>
  (s_ai σ x1 0).bind fun x2 =>
  if x2 = 0 then (some (.inr (0, σ)))
  else (some (.inr (1, σ))))
  else ((F_X8_at v0 v1 v5 σ).bind fun q3 =>
  (F_X8_isJoining q3.1 q3.2).bind fun q4 =>
  if q4.1 = 0 then ((F_X8_isLone q3.1 q4.2).bind fun q5 =>
  if q5.1 = 0 then ((s_fr q5.2 v0 8 16).bind fun x6 =>
  (F_X8_ofSign v0 q3.1 v2 q5.2).bind fun q7 =>
  (s_si q7.2 x6 v4 q7.1).bind fun σ8 =>
  some (.inl (210, [.ref v0, .int v1, .int v2, .int v3, .int (v4 + 1), .int v5], σ8)))
  else ((s_fr q5.2 v0 8 16).bind fun x9 =>
  (s_ai q5.2 x9 (v4 - 1)).bind fun x10 =>
  (s_fr q5.2 v0 8 16).bind fun x11 =>
  if q3.1 = 12 then (some (.inl (189, [.ref v0, .int v1, .int v2, .int v3, .int v4, .int v5, .int ((x10 ^^^ (-1)) &&& v3), .int (v4 - 1), .ref x11], q5.2)))
  else (if q3.1 = 17 then (if x10 = 0 then (some (.inl (188, [.ref v0, .int v1, .int v2, .int v3, .int v4, .int v5, .int (v4 - 1), .ref x11], q5.2)))
  else (some (.inl (184, [.ref v0, .int v1, .int v2, .int v3, .int v4, .int v5, .int (v4 - 1), .ref x11], q5.2))))
  else (if x10 = v3 then (some (.inl (184, [.ref v0, .int v1, .int v2, .int v3, .int v4, .int v5, .int (v4 - 1), .ref x11], q5.2)))
  else (some (.inl (188, [.ref v0, .int v1, .int v2, .int v3, .int v4, .int v5, .int (v4 - 1), .ref x11], q5.2)))))))
  else ((s_fr q4.2 v0 8 16).bind fun x12 =>
  (s_ai q4.2 x12 (v4 - 1)).bind fun x13 =>
  (s_fr q4.2 v0 8 16).bind fun x14 =>
  (s_ai q4.2 x14 (v4 - 2)).bind fun x15 =>
  (s_fr q4.2 v0 8 16).bind fun x16 =>
  if q3.1 = 13 then (some (.inl (116, [.ref v0, .int v1, .int v2, .int v3, .int (v4 + (-1)), .int v5, .int (x13 &&& x15), .int ((v4 + (-1)) - 1), .ref x16], q4.2)))
  else (if q3.1 = 14 then (some (.inl (116, [.ref v0, .int v1, .int v2, .int v3, .int (v4 + (-1)), .int v5, .int (x13 ||| x15), .int ((v4 + (-1)) - 1), .ref x16], q4.2)))
  else (some (.inl (116, [.ref v0, .int v1, .int v2, .int v3, .int (v4 + (-1)), .int v5, .int (((x13 ^^^ (-1)) &&& v3) ||| x15), .int ((v4 + (-1)) - 1), .ref x16], q4.2))))))
noncomputable def U_X8_isTrue_22 (vs : List Value) (σ : sS) : Option (sZ Int32) := (g_r vs).bind fun a0 => (g_i a0.2).bind fun a1 => (g_i a1.2).bind fun a2 => (g_i a2.2).bind fun a3 => (g_i a3.2).bind fun a4 => (g_i a4.2).bind fun a5 => (g_e a5.2).bind fun _ => T_X8_isTrue_22 a0.1 a1.1 a2.1 a3.1 a4.1 a5.1 σ
noncomputable def T_X8_isTrue_116 (v0 : Nat) (v1 : Int32) (v2 : Int32) (v3 : Int32) (v4 : Int32) (v5 : Int32) (w0 : Int32) (w1 : Int32) (w2 : Nat) (σ : sS) : Option (sZ Int32) :=
  (s_si σ w2 w1 w0).bind fun σ1 =>
  some (.inl (210, [.ref v0, .int v1, .int v2, .int v3, .int v4, .int v5], σ1))
noncomputable def U_X8_isTrue_116 (vs : List Value) (σ : sS) : Option (sZ Int32) := (g_r vs).bind fun a0 => (g_i a0.2).bind fun a1 => (g_i a1.2).bind fun a2 => (g_i a2.2).bind fun a3 => (g_i a3.2).bind fun a4 => (g_i a4.2).bind fun a5 => (g_i a5.2).bind fun a6 => (g_i a6.2).bind fun a7 => (g_r a7.2).bind fun a8 => (g_e a8.2).bind fun _ => T_X8_isTrue_116 a0.1 a1.1 a2.1 a3.1 a4.1 a5.1 a6.1 a7.1 a8.1 σ
noncomputable def T_X8_isTrue_184 (v0 : Nat) (v1 : Int32) (v2 : Int32) (v3 : Int32) (v4 : Int32) (v5 : Int32) (w0 : Int32) (w1 : Nat) (σ : sS) : Option (sZ Int32) :=
  some (.inl (189, [.ref v0, .int v1, .int v2, .int v3, .int v4, .int v5, .int v3, .int w0, .ref w1], σ))
noncomputable def U_X8_isTrue_184 (vs : List Value) (σ : sS) : Option (sZ Int32) := (g_r vs).bind fun a0 => (g_i a0.2).bind fun a1 => (g_i a1.2).bind fun a2 => (g_i a2.2).bind fun a3 => (g_i a3.2).bind fun a4 => (g_i a4.2).bind fun a5 => (g_i a5.2).bind fun a6 => (g_r a6.2).bind fun a7 => (g_e a7.2).bind fun _ => T_X8_isTrue_184 a0.1 a1.1 a2.1 a3.1 a4.1 a5.1 a6.1 a7.1 σ
noncomputable def T_X8_isTrue_188 (v0 : Nat) (v1 : Int32) (v2 : Int32) (v3 : Int32) (v4 : Int32) (v5 : Int32) (w0 : Int32) (w1 : Nat) (σ : sS) : Option (sZ Int32) :=
  some (.inl (189, [.ref v0, .int v1, .int v2, .int v3, .int v4, .int v5, .int 0, .int w0, .ref w1], σ))
noncomputable def U_X8_isTrue_188 (vs : List Value) (σ : sS) : Option (sZ Int32) := (g_r vs).bind fun a0 => (g_i a0.2).bind fun a1 => (g_i a1.2).bind fun a2 => (g_i a2.2).bind fun a3 => (g_i a3.2).bind fun a4 => (g_i a4.2).bind fun a5 => (g_i a5.2).bind fun a6 => (g_r a6.2).bind fun a7 => (g_e a7.2).bind fun _ => T_X8_isTrue_188 a0.1 a1.1 a2.1 a3.1 a4.1 a5.1 a6.1 a7.1 σ
noncomputable def T_X8_isTrue_189 (v0 : Nat) (v1 : Int32) (v2 : Int32) (v3 : Int32) (v4 : Int32) (v5 : Int32) (w0 : Int32) (w1 : Int32) (w2 : Nat) (σ : sS) : Option (sZ Int32) :=
  (s_si σ w2 w1 w0).bind fun σ1 =>
  some (.inl (210, [.ref v0, .int v1, .int v2, .int v3, .int v4, .int v5], σ1))
noncomputable def U_X8_isTrue_189 (vs : List Value) (σ : sS) : Option (sZ Int32) := (g_r vs).bind fun a0 => (g_i a0.2).bind fun a1 => (g_i a1.2).bind fun a2 => (g_i a2.2).bind fun a3 => (g_i a3.2).bind fun a4 => (g_i a4.2).bind fun a5 => (g_i a5.2).bind fun a6 => (g_i a6.2).bind fun a7 => (g_r a7.2).bind fun a8 => (g_e a8.2).bind fun _ => T_X8_isTrue_189 a0.1 a1.1 a2.1 a3.1 a4.1 a5.1 a6.1 a7.1 a8.1 σ
noncomputable def T_X8_isTrue_210 (v0 : Nat) (v1 : Int32) (v2 : Int32) (v3 : Int32) (v4 : Int32) (v5 : Int32) (σ : sS) : Option (sZ Int32) :=
  some (.inl (22, [.ref v0, .int v1, .int v2, .int v3, .int v4, .int (v5 + (-1))], σ))
noncomputable def U_X8_isTrue_210 (vs : List Value) (σ : sS) : Option (sZ Int32) := (g_r vs).bind fun a0 => (g_i a0.2).bind fun a1 => (g_i a1.2).bind fun a2 => (g_i a2.2).bind fun a3 => (g_i a3.2).bind fun a4 => (g_i a4.2).bind fun a5 => (g_e a5.2).bind fun _ => T_X8_isTrue_210 a0.1 a1.1 a2.1 a3.1 a4.1 a5.1 σ
noncomputable def S_X8_isTrue (x : sL) : Option (sZ Int32) := if x.1 = 0 then U_X8_isTrue_0 x.2.1 x.2.2 else if x.1 = 22 then U_X8_isTrue_22 x.2.1 x.2.2 else if x.1 = 116 then U_X8_isTrue_116 x.2.1 x.2.2 else if x.1 = 184 then U_X8_isTrue_184 x.2.1 x.2.2 else if x.1 = 188 then U_X8_isTrue_188 x.2.1 x.2.2 else if x.1 = 189 then U_X8_isTrue_189 x.2.1 x.2.2 else if x.1 = 210 then U_X8_isTrue_210 x.2.1 x.2.2 else none
def Y_X8_isTrue (pc : Nat) : List Nat := if pc = 0 then [0, 1, 2] else if pc = 22 then [0, 1, 2, 3, 4, 5] else if pc = 116 then [0, 1, 2, 3, 4, 5] else if pc = 184 then [0, 1, 2, 3, 4, 5] else if pc = 188 then [0, 1, 2, 3, 4, 5] else if pc = 189 then [0, 1, 2, 3, 4, 5] else if pc = 210 then [0, 1, 2, 3, 4, 5] else []
noncomputable def F_X8_isTrue (v0 : Nat) (v1 : Int32) (v2 : Int32) (σ : sS) : Option (Int32 × sS) := (s_is σ v0 8).bind fun _ => s_run S_X8_isTrue (0, [.ref v0, .int v1, .int v2], σ)
theorem l_X8_isTrue_0 {v0 : Nat} {v1 : Int32} {v2 : Int32} {σ : sS} {z : sZ Int32} (hf : T_X8_isTrue_0 v0 v1 v2 σ = some z) : s_lz σ z := by
  unfold T_X8_isTrue_0 at hf
  obtain ⟨q1, hh, hf⟩ := s_bind hf
  refine s_lz.tr (l_X8_d hh) ?_
  obtain ⟨x2, -, hf⟩ := s_bind hf
  obtain ⟨x3, -, hf⟩ := s_bind hf
  cases hf
  exact s_le.rf
theorem l_X8_isTrue_22 {v0 : Nat} {v1 : Int32} {v2 : Int32} {v3 : Int32} {v4 : Int32} {v5 : Int32} {σ : sS} {z : sZ Int32} (hf : T_X8_isTrue_22 v0 v1 v2 v3 v4 v5 σ = some z) : s_lz σ z := by
  unfold T_X8_isTrue_22 at hf
  rcases s_ite hf with ⟨-, hf⟩ | ⟨-, hf⟩
  · obtain ⟨x1, -, hf⟩ := s_bind hf
    obtain ⟨x2, -, hf⟩ := s_bind hf
    rcases s_ite hf with ⟨-, hf⟩ | ⟨-, hf⟩
    · cases hf
      exact s_le.rf
    · cases hf
      exact s_le.rf
  · obtain ⟨q3, hh, hf⟩ := s_bind hf
    refine s_lz.tr (l_X8_at hh) ?_
    obtain ⟨q4, hh, hf⟩ := s_bind hf
    refine s_lz.tr (l_X8_isJoining hh) ?_
    rcases s_ite hf with ⟨-, hf⟩ | ⟨-, hf⟩
    · obtain ⟨q5, hh, hf⟩ := s_bind hf
      refine s_lz.tr (l_X8_isLone hh) ?_
      rcases s_ite hf with ⟨-, hf⟩ | ⟨-, hf⟩
      · obtain ⟨x6, -, hf⟩ := s_bind hf
        obtain ⟨q7, hh, hf⟩ := s_bind hf
        refine s_lz.tr (l_X8_ofSign hh) ?_
        obtain ⟨σ8, hh, hf⟩ := s_bind hf
        refine s_lz.tr (s_le2 (s_si_2 hh)) ?_
        cases hf
        exact s_le.rf
      · obtain ⟨x9, -, hf⟩ := s_bind hf
        obtain ⟨x10, -, hf⟩ := s_bind hf
        obtain ⟨x11, -, hf⟩ := s_bind hf
        rcases s_ite hf with ⟨-, hf⟩ | ⟨-, hf⟩
        · cases hf
          exact s_le.rf
        · rcases s_ite hf with ⟨-, hf⟩ | ⟨-, hf⟩
          · rcases s_ite hf with ⟨-, hf⟩ | ⟨-, hf⟩
            · cases hf
              exact s_le.rf
            · cases hf
              exact s_le.rf
          · rcases s_ite hf with ⟨-, hf⟩ | ⟨-, hf⟩
            · cases hf
              exact s_le.rf
            · cases hf
              exact s_le.rf
    · obtain ⟨x12, -, hf⟩ := s_bind hf
      obtain ⟨x13, -, hf⟩ := s_bind hf
      obtain ⟨x14, -, hf⟩ := s_bind hf
      obtain ⟨x15, -, hf⟩ := s_bind hf
      obtain ⟨x16, -, hf⟩ := s_bind hf
      rcases s_ite hf with ⟨-, hf⟩ | ⟨-, hf⟩
      · cases hf
        exact s_le.rf
      · rcases s_ite hf with ⟨-, hf⟩ | ⟨-, hf⟩
        · cases hf
          exact s_le.rf
        · cases hf
          exact s_le.rf
theorem l_X8_isTrue_116 {v0 : Nat} {v1 : Int32} {v2 : Int32} {v3 : Int32} {v4 : Int32} {v5 : Int32} {w0 : Int32} {w1 : Int32} {w2 : Nat} {σ : sS} {z : sZ Int32} (hf : T_X8_isTrue_116 v0 v1 v2 v3 v4 v5 w0 w1 w2 σ = some z) : s_lz σ z := by
  unfold T_X8_isTrue_116 at hf
  obtain ⟨σ1, hh, hf⟩ := s_bind hf
  refine s_lz.tr (s_le2 (s_si_2 hh)) ?_
  cases hf
  exact s_le.rf
theorem l_X8_isTrue_184 {v0 : Nat} {v1 : Int32} {v2 : Int32} {v3 : Int32} {v4 : Int32} {v5 : Int32} {w0 : Int32} {w1 : Nat} {σ : sS} {z : sZ Int32} (hf : T_X8_isTrue_184 v0 v1 v2 v3 v4 v5 w0 w1 σ = some z) : s_lz σ z := by
  unfold T_X8_isTrue_184 at hf
  cases hf
  exact s_le.rf
theorem l_X8_isTrue_188 {v0 : Nat} {v1 : Int32} {v2 : Int32} {v3 : Int32} {v4 : Int32} {v5 : Int32} {w0 : Int32} {w1 : Nat} {σ : sS} {z : sZ Int32} (hf : T_X8_isTrue_188 v0 v1 v2 v3 v4 v5 w0 w1 σ = some z) : s_lz σ z := by
  unfold T_X8_isTrue_188 at hf
  cases hf
  exact s_le.rf
theorem l_X8_isTrue_189 {v0 : Nat} {v1 : Int32} {v2 : Int32} {v3 : Int32} {v4 : Int32} {v5 : Int32} {w0 : Int32} {w1 : Int32} {w2 : Nat} {σ : sS} {z : sZ Int32} (hf : T_X8_isTrue_189 v0 v1 v2 v3 v4 v5 w0 w1 w2 σ = some z) : s_lz σ z := by
  unfold T_X8_isTrue_189 at hf
  obtain ⟨σ1, hh, hf⟩ := s_bind hf
  refine s_lz.tr (s_le2 (s_si_2 hh)) ?_
  cases hf
  exact s_le.rf
theorem l_X8_isTrue_210 {v0 : Nat} {v1 : Int32} {v2 : Int32} {v3 : Int32} {v4 : Int32} {v5 : Int32} {σ : sS} {z : sZ Int32} (hf : T_X8_isTrue_210 v0 v1 v2 v3 v4 v5 σ = some z) : s_lz σ z := by
  unfold T_X8_isTrue_210 at hf
  cases hf
  exact s_le.rf
theorem l_X8_isTrue_s {x : sL} {z : sZ Int32} (hs : S_X8_isTrue x = some z) : s_lz x.2.2 z := by
  obtain ⟨pc, vs, σ⟩ := x
  unfold S_X8_isTrue at hs
  dsimp only at hs ⊢
  rcases s_ite hs with ⟨c, hs⟩ | ⟨-, hs⟩
  · subst c
    unfold U_X8_isTrue_0 at hs
    obtain ⟨a0, g0, hs⟩ := s_bind hs
    obtain ⟨a1, g1, hs⟩ := s_bind hs
    obtain ⟨a2, g2, hs⟩ := s_bind hs
    obtain ⟨u9, ge, hs⟩ := s_bind hs
    exact l_X8_isTrue_0 hs
  rcases s_ite hs with ⟨c, hs⟩ | ⟨-, hs⟩
  · subst c
    unfold U_X8_isTrue_22 at hs
    obtain ⟨a0, g0, hs⟩ := s_bind hs
    obtain ⟨a1, g1, hs⟩ := s_bind hs
    obtain ⟨a2, g2, hs⟩ := s_bind hs
    obtain ⟨a3, g3, hs⟩ := s_bind hs
    obtain ⟨a4, g4, hs⟩ := s_bind hs
    obtain ⟨a5, g5, hs⟩ := s_bind hs
    obtain ⟨u9, ge, hs⟩ := s_bind hs
    exact l_X8_isTrue_22 hs
  rcases s_ite hs with ⟨c, hs⟩ | ⟨-, hs⟩
  · subst c
    unfold U_X8_isTrue_116 at hs
    obtain ⟨a0, g0, hs⟩ := s_bind hs
    obtain ⟨a1, g1, hs⟩ := s_bind hs
    obtain ⟨a2, g2, hs⟩ := s_bind hs
    obtain ⟨a3, g3, hs⟩ := s_bind hs
    obtain ⟨a4, g4, hs⟩ := s_bind hs
    obtain ⟨a5, g5, hs⟩ := s_bind hs
    obtain ⟨a6, g6, hs⟩ := s_bind hs
    obtain ⟨a7, g7, hs⟩ := s_bind hs
    obtain ⟨a8, g8, hs⟩ := s_bind hs
    obtain ⟨u9, ge, hs⟩ := s_bind hs
    exact l_X8_isTrue_116 hs
  rcases s_ite hs with ⟨c, hs⟩ | ⟨-, hs⟩
  · subst c
    unfold U_X8_isTrue_184 at hs
    obtain ⟨a0, g0, hs⟩ := s_bind hs
    obtain ⟨a1, g1, hs⟩ := s_bind hs
    obtain ⟨a2, g2, hs⟩ := s_bind hs
    obtain ⟨a3, g3, hs⟩ := s_bind hs
    obtain ⟨a4, g4, hs⟩ := s_bind hs
    obtain ⟨a5, g5, hs⟩ := s_bind hs
    obtain ⟨a6, g6, hs⟩ := s_bind hs
    obtain ⟨a7, g7, hs⟩ := s_bind hs
    obtain ⟨u9, ge, hs⟩ := s_bind hs
    exact l_X8_isTrue_184 hs
  rcases s_ite hs with ⟨c, hs⟩ | ⟨-, hs⟩
  · subst c
    unfold U_X8_isTrue_188 at hs
    obtain ⟨a0, g0, hs⟩ := s_bind hs
    obtain ⟨a1, g1, hs⟩ := s_bind hs
    obtain ⟨a2, g2, hs⟩ := s_bind hs
    obtain ⟨a3, g3, hs⟩ := s_bind hs
    obtain ⟨a4, g4, hs⟩ := s_bind hs
    obtain ⟨a5, g5, hs⟩ := s_bind hs
    obtain ⟨a6, g6, hs⟩ := s_bind hs
    obtain ⟨a7, g7, hs⟩ := s_bind hs
    obtain ⟨u9, ge, hs⟩ := s_bind hs
    exact l_X8_isTrue_188 hs
  rcases s_ite hs with ⟨c, hs⟩ | ⟨-, hs⟩
  · subst c
    unfold U_X8_isTrue_189 at hs
    obtain ⟨a0, g0, hs⟩ := s_bind hs
    obtain ⟨a1, g1, hs⟩ := s_bind hs
    obtain ⟨a2, g2, hs⟩ := s_bind hs
    obtain ⟨a3, g3, hs⟩ := s_bind hs
    obtain ⟨a4, g4, hs⟩ := s_bind hs
    obtain ⟨a5, g5, hs⟩ := s_bind hs
    obtain ⟨a6, g6, hs⟩ := s_bind hs
    obtain ⟨a7, g7, hs⟩ := s_bind hs
    obtain ⟨a8, g8, hs⟩ := s_bind hs
    obtain ⟨u9, ge, hs⟩ := s_bind hs
    exact l_X8_isTrue_189 hs
  rcases s_ite hs with ⟨c, hs⟩ | ⟨-, hs⟩
  · subst c
    unfold U_X8_isTrue_210 at hs
    obtain ⟨a0, g0, hs⟩ := s_bind hs
    obtain ⟨a1, g1, hs⟩ := s_bind hs
    obtain ⟨a2, g2, hs⟩ := s_bind hs
    obtain ⟨a3, g3, hs⟩ := s_bind hs
    obtain ⟨a4, g4, hs⟩ := s_bind hs
    obtain ⟨a5, g5, hs⟩ := s_bind hs
    obtain ⟨u9, ge, hs⟩ := s_bind hs
    exact l_X8_isTrue_210 hs
  cases hs
theorem l_X8_isTrue {v0 : Nat} {v1 : Int32} {v2 : Int32} {σ : sS} {q : Int32 × sS} (h : F_X8_isTrue v0 v1 v2 σ = some q) : s_le σ q.2 := by
  unfold F_X8_isTrue at h
  obtain ⟨-, -, h⟩ := s_bind h
  exact s_run_ind (V := fun x r => s_le x.2.2 r.2) (fun x z r hs hk => by
    have h9 := l_X8_isTrue_s hs
    cases z with
    | inl y => exact s_le.tr h9 hk
    | inr q => cases hk; exact h9) h
theorem b_X8_isTrue {v0 : Nat} {v1 : Int32} {v2 : Int32} {σ : sS} {q : Int32 × sS} (h : F_X8_isTrue v0 v1 v2 σ = some q) : ∃ fs, σ.1 v0 = some (.inr (8, fs)) := by
  unfold F_X8_isTrue at h
  obtain ⟨u, hu, -⟩ := s_bind h
  exact s_is_to hu
set_option maxRecDepth 100000 in
set_option maxHeartbeats 4000000 in
theorem v_X8_isTrue_0 {G : sG} {d : Nat} {vs0 : List Value} {σ0 : sS} {v0 : Nat} {v1 : Int32} {v2 : Int32} {σ : sS} {z : sZ Int32} {r : Int32 × sS} (hf : T_X8_isTrue_0 v0 v1 v2 σ = some z) (k : s_K G (d + 3) M_X8_isTrue vs0 σ0 Y_X8_isTrue e_I z r) : s_V G (d + 3) M_X8_isTrue vs0 σ0 Y_X8_isTrue (0, [.ref v0, .int v1, .int v2], σ) (e_I r) := by
  have le0 : s_le σ (e_I r).2 := s_lek hem_I (l_X8_isTrue_0 hf) k
  refine ⟨le0, ?_⟩
  intro p e s m below meth c H locs cells slots ls X I hn1 hn2 hl
  have hn : cells + σ0.2.1 ≤ σ.2.1 ∧ slots + σ0.2.2.1 ≤ σ.2.2.1 := ⟨hn1, hn2⟩
  have hl : lv_has ls 9 [(0, .ref v0), (1, .int v1), (2, .int v2)] := hl
  have hx := X.1
  have hb : c.code = cX8_isTrue := X.2.1
  have hown : s.vm.findClass RX8 = some m.cls := X.2.2.2.2.2.1
  have hts := X.2.2.2.2.2.2.1
  refine W.eq (g2 := F0 m 0 ls []) rfl ?_
  unfold T_X8_isTrue_0 at hf
  obtain ⟨q1, h1, hf⟩ := s_bind hf
  obtain ⟨x2, h2, hf⟩ := s_bind hf
  obtain ⟨x3, h3, hf⟩ := s_bind hf
  cases hf
  have k : s_V G (d + 3) M_X8_isTrue vs0 σ0 Y_X8_isTrue (22, [.ref v0, .int v1, .int v2, .int ((1 <<< (q1.1 &&& 31)) - 1), .int 0, .int (x3 - 1)], q1.2) (e_I r) := k
  have le4 : s_le q1.2 (e_I r).2 := k.1
  refine lv_iconst (v := 1) hx hb dX8_isTrue_0 (by decide) ?_
  refine lv_aload_n hx hb dX8_isTrue_1 rfl (lv_at hl 0 rfl) ?_
  refine r_callV (Y := M_X8_d) (v := some (.int q1.1)) X I w_1889 my_X8_d (by omega) (t_X8_d (G := G) (d := d + 1) h1) (b_X8_d h1) rfl rfl hl.1 rfl (Nat.le_of_ble_eq_true rfl) hn le4 dX8_isTrue_2 (fun H locs cells slots I hn1 hn2 => ?_)
  have I : s_I G q1.2 s H locs := I
  have hn : cells + σ0.2.1 ≤ q1.2.2.1 ∧ slots + σ0.2.2.1 ≤ q1.2.2.2.1 := ⟨hn1, hn2⟩
  refine lv_ishl hx hb dX8_isTrue_5 ?_
  refine lv_iconst (v := 1) hx hb dX8_isTrue_6 (by decide) ?_
  refine lv_isub hx hb dX8_isTrue_7 ?_
  refine lv_istore_n (lv' := [(3, .int ((1 <<< (q1.1 &&& 31)) - 1)), (0, .ref v0), (1, .int v1), (2, .int v2)]) hx hb dX8_isTrue_8 rfl hl (by decide) rfl (fun ls hl => ?_)
  refine lv_iconst (v := 0) hx hb dX8_isTrue_9 (by decide) ?_
  refine lv_istore (lv' := [(4, .int 0), (3, .int ((1 <<< (q1.1 &&& 31)) - 1)), (0, .ref v0), (1, .int v1), (2, .int v2)]) hx hb dX8_isTrue_10 hl (by decide) rfl (fun ls hl => ?_)
  refine lv_aload_n hx hb dX8_isTrue_12 rfl (lv_at hl 2 rfl) ?_
  refine r_gr X I fl_X8_20 h2 dX8_isTrue_13 ?_
  refine lv_iload_n hx hb dX8_isTrue_16 rfl (lv_at hl 3 rfl) ?_
  refine r_iald X I h3 dX8_isTrue_17 ?_
  refine lv_iconst (v := 1) hx hb dX8_isTrue_18 (by decide) ?_
  refine lv_isub hx hb dX8_isTrue_19 ?_
  refine lv_istore (lv' := [(5, .int (x3 - 1)), (4, .int 0), (3, .int ((1 <<< (q1.1 &&& 31)) - 1)), (0, .ref v0), (1, .int v1), (2, .int v2)]) hx hb dX8_isTrue_20 hl (by decide) rfl (fun ls hl => ?_)
  exact k.2 p e s m below meth c _ _ _ _ _ X I hn.1 hn.2 (lv_sub hl [3, 4, 5, 2, 1, 0] rfl)
set_option maxRecDepth 100000 in
set_option maxHeartbeats 4000000 in
theorem v_X8_isTrue_22 {G : sG} {d : Nat} {vs0 : List Value} {σ0 : sS} {v0 : Nat} {v1 : Int32} {v2 : Int32} {v3 : Int32} {v4 : Int32} {v5 : Int32} {σ : sS} {z : sZ Int32} {r : Int32 × sS} (hf : T_X8_isTrue_22 v0 v1 v2 v3 v4 v5 σ = some z) (k : s_K G (d + 3) M_X8_isTrue vs0 σ0 Y_X8_isTrue e_I z r) : s_V G (d + 3) M_X8_isTrue vs0 σ0 Y_X8_isTrue (22, [.ref v0, .int v1, .int v2, .int v3, .int v4, .int v5], σ) (e_I r) := by
  have le0 : s_le σ (e_I r).2 := s_lek hem_I (l_X8_isTrue_22 hf) k
  refine ⟨le0, ?_⟩
  intro p e s m below meth c H locs cells slots ls X I hn1 hn2 hl
  have hn : cells + σ0.2.1 ≤ σ.2.1 ∧ slots + σ0.2.2.1 ≤ σ.2.2.1 := ⟨hn1, hn2⟩
  have hl : lv_has ls 9 [(0, .ref v0), (1, .int v1), (2, .int v2), (3, .int v3), (4, .int v4), (5, .int v5)] := hl
  have hx := X.1
  have hb : c.code = cX8_isTrue := X.2.1
  have hown : s.vm.findClass RX8 = some m.cls := X.2.2.2.2.2.1
  have hts := X.2.2.2.2.2.2.1
  refine W.eq (g2 := F0 m 22 ls []) rfl ?_
  unfold T_X8_isTrue_22 at hf
  refine lv_iload hx hb dX8_isTrue_22 (lv_at hl 5 rfl) ?_
  rcases s_ite hf with ⟨c1, hf⟩ | ⟨c1, hf⟩
  · refine lv_if_lt (tgt := 216) hx hb dX8_isTrue_24 (by decide) (fun _ => ?_) (fun n => absurd c1 n)
    obtain ⟨x1, h2, hf⟩ := s_bind hf
    obtain ⟨x2, h3, hf⟩ := s_bind hf
    refine lv_aload_n hx hb dX8_isTrue_216 rfl (lv_at hl 0 rfl) ?_
    refine r_gr X I fl_X8_36 h2 dX8_isTrue_217 ?_
    refine lv_iconst (v := 0) hx hb dX8_isTrue_220 (by decide) ?_
    refine r_iald X I h3 dX8_isTrue_221 ?_
    rcases s_ite hf with ⟨c4, hf⟩ | ⟨c4, hf⟩
    · refine lv_if_eq (tgt := 229) hx hb dX8_isTrue_222 (by decide) (fun _ => ?_) (fun n => absurd c4 n)
      cases hf
      have k : _ = r := k
      subst k
      refine lv_iconst (v := 0) hx hb dX8_isTrue_229 (by decide) ?_
      exact r_iret X I rfl rfl rfl hn dX8_isTrue_230
    · refine lv_if_eq (tgt := 229) hx hb dX8_isTrue_222 (by decide) (fun n => absurd n c4) (fun _ => ?_)
      cases hf
      have k : _ = r := k
      subst k
      refine lv_iconst (v := 1) hx hb dX8_isTrue_225 (by decide) ?_
      refine lv_goto (tgt := 230) hx hb dX8_isTrue_226 (by decide) ?_
      exact r_iret X I rfl rfl rfl hn dX8_isTrue_230
  · refine lv_if_lt (tgt := 216) hx hb dX8_isTrue_24 (by decide) (fun n => absurd n c1) (fun _ => ?_)
    obtain ⟨q3, h5, hf⟩ := s_bind hf
    obtain ⟨q4, h6, hf⟩ := s_bind hf
    have le7 : s_le q4.2 (e_I r).2 := by
      refine s_lek hem_I ?_ k
      rcases s_ite hf with ⟨-, hf⟩ | ⟨-, hf⟩
      · obtain ⟨q5, hh, hf⟩ := s_bind hf
        refine s_lz.tr (l_X8_isLone hh) ?_
        rcases s_ite hf with ⟨-, hf⟩ | ⟨-, hf⟩
        · obtain ⟨x6, -, hf⟩ := s_bind hf
          obtain ⟨q7, hh, hf⟩ := s_bind hf
          refine s_lz.tr (l_X8_ofSign hh) ?_
          obtain ⟨σ8, hh, hf⟩ := s_bind hf
          refine s_lz.tr (s_le2 (s_si_2 hh)) ?_
          cases hf
          exact s_le.rf
        · obtain ⟨x9, -, hf⟩ := s_bind hf
          obtain ⟨x10, -, hf⟩ := s_bind hf
          obtain ⟨x11, -, hf⟩ := s_bind hf
          rcases s_ite hf with ⟨-, hf⟩ | ⟨-, hf⟩
          · cases hf
            exact s_le.rf
          · rcases s_ite hf with ⟨-, hf⟩ | ⟨-, hf⟩
            · rcases s_ite hf with ⟨-, hf⟩ | ⟨-, hf⟩
              · cases hf
                exact s_le.rf
              · cases hf
                exact s_le.rf
            · rcases s_ite hf with ⟨-, hf⟩ | ⟨-, hf⟩
              · cases hf
                exact s_le.rf
              · cases hf
                exact s_le.rf
      · obtain ⟨x12, -, hf⟩ := s_bind hf
        obtain ⟨x13, -, hf⟩ := s_bind hf
        obtain ⟨x14, -, hf⟩ := s_bind hf
        obtain ⟨x15, -, hf⟩ := s_bind hf
        obtain ⟨x16, -, hf⟩ := s_bind hf
        rcases s_ite hf with ⟨-, hf⟩ | ⟨-, hf⟩
        · cases hf
          exact s_le.rf
        · rcases s_ite hf with ⟨-, hf⟩ | ⟨-, hf⟩
          · cases hf
            exact s_le.rf
          · cases hf
            exact s_le.rf
    have le8 := s_le.tr (l_X8_isJoining h6) le7
    refine lv_aload_n hx hb dX8_isTrue_27 rfl (lv_at hl 0 rfl) ?_
    refine lv_iload_n hx hb dX8_isTrue_28 rfl (lv_at hl 1 rfl) ?_
    refine lv_iload hx hb dX8_isTrue_29 (lv_at hl 5 rfl) ?_
    refine r_callV (Y := M_X8_at) (v := some (.int q3.1)) X I w_1901 my_X8_at (by omega) (t_X8_at (G := G) (d := d + 1) h5) (b_X8_at h5) rfl rfl hl.1 rfl (Nat.le_of_ble_eq_true rfl) hn le8 dX8_isTrue_31 (fun H locs cells slots I hn1 hn2 => ?_)
    have I : s_I G q3.2 s H locs := I
    have hn : cells + σ0.2.1 ≤ q3.2.2.1 ∧ slots + σ0.2.2.1 ≤ q3.2.2.2.1 := ⟨hn1, hn2⟩
    refine lv_istore (lv' := [(6, .int q3.1), (0, .ref v0), (1, .int v1), (2, .int v2), (3, .int v3), (4, .int v4), (5, .int v5)]) hx hb dX8_isTrue_34 hl (by decide) rfl (fun ls hl => ?_)
    refine lv_iload hx hb dX8_isTrue_36 (lv_at hl 0 rfl) ?_
    refine r_callS (Y := M_X8_isJoining) (v := some (.int q4.1)) X I w_1951 my_X8_isJoining (by omega) (t_X8_isJoining (G := G) (d := d + 1) h6) rfl rfl hl.1 rfl (Nat.le_of_ble_eq_true rfl) hn le7 dX8_isTrue_38 (fun H locs cells slots I hn1 hn2 => ?_)
    have I : s_I G q4.2 s H locs := I
    have hn : cells + σ0.2.1 ≤ q4.2.2.1 ∧ slots + σ0.2.2.1 ≤ q4.2.2.2.1 := ⟨hn1, hn2⟩
    rcases s_ite hf with ⟨c9, hf⟩ | ⟨c9, hf⟩
    · refine lv_if_eq (tgt := 120) hx hb dX8_isTrue_41 (by decide) (fun _ => ?_) (fun n => absurd c9 n)
      obtain ⟨q5, h10, hf⟩ := s_bind hf
      have le11 : s_le q5.2 (e_I r).2 := by
        refine s_lek hem_I ?_ k
        rcases s_ite hf with ⟨-, hf⟩ | ⟨-, hf⟩
        · obtain ⟨x6, -, hf⟩ := s_bind hf
          obtain ⟨q7, hh, hf⟩ := s_bind hf
          refine s_lz.tr (l_X8_ofSign hh) ?_
          obtain ⟨σ8, hh, hf⟩ := s_bind hf
          refine s_lz.tr (s_le2 (s_si_2 hh)) ?_
          cases hf
          exact s_le.rf
        · obtain ⟨x9, -, hf⟩ := s_bind hf
          obtain ⟨x10, -, hf⟩ := s_bind hf
          obtain ⟨x11, -, hf⟩ := s_bind hf
          rcases s_ite hf with ⟨-, hf⟩ | ⟨-, hf⟩
          · cases hf
            exact s_le.rf
          · rcases s_ite hf with ⟨-, hf⟩ | ⟨-, hf⟩
            · rcases s_ite hf with ⟨-, hf⟩ | ⟨-, hf⟩
              · cases hf
                exact s_le.rf
              · cases hf
                exact s_le.rf
            · rcases s_ite hf with ⟨-, hf⟩ | ⟨-, hf⟩
              · cases hf
                exact s_le.rf
              · cases hf
                exact s_le.rf
      refine lv_iload hx hb dX8_isTrue_120 (lv_at hl 0 rfl) ?_
      refine r_callS (Y := M_X8_isLone) (v := some (.int q5.1)) X I w_1954 my_X8_isLone (by omega) (t_X8_isLone (G := G) (d := d + 1) h10) rfl rfl hl.1 rfl (Nat.le_of_ble_eq_true rfl) hn le11 dX8_isTrue_122 (fun H locs cells slots I hn1 hn2 => ?_)
      have I : s_I G q5.2 s H locs := I
      have hn : cells + σ0.2.1 ≤ q5.2.2.1 ∧ slots + σ0.2.2.1 ≤ q5.2.2.2.1 := ⟨hn1, hn2⟩
      rcases s_ite hf with ⟨c12, hf⟩ | ⟨c12, hf⟩
      · refine lv_if_eq (tgt := 193) hx hb dX8_isTrue_125 (by decide) (fun _ => ?_) (fun n => absurd c12 n)
        obtain ⟨x6, h13, hf⟩ := s_bind hf
        obtain ⟨q7, h14, hf⟩ := s_bind hf
        obtain ⟨σ8, h15, hf⟩ := s_bind hf
        cases hf
        have k : s_V G (d + 3) M_X8_isTrue vs0 σ0 Y_X8_isTrue (210, [.ref v0, .int v1, .int v2, .int v3, .int (v4 + 1), .int v5], σ8) (e_I r) := k
        have le16 : s_le σ8 (e_I r).2 := k.1
        have le17 := s_le.tr (s_le2 (s_si_2 h15)) le16
        refine lv_aload_n hx hb dX8_isTrue_193 rfl (lv_at hl 1 rfl) ?_
        refine r_gr X I fl_X8_36 h13 dX8_isTrue_194 ?_
        refine lv_iload hx hb dX8_isTrue_197 (lv_at hl 5 rfl) ?_
        refine lv_aload_n hx hb dX8_isTrue_199 rfl (lv_at hl 1 rfl) ?_
        refine lv_iload hx hb dX8_isTrue_200 (lv_at hl 0 rfl) ?_
        refine lv_iload_n hx hb dX8_isTrue_202 rfl (lv_at hl 3 rfl) ?_
        refine r_callV (Y := M_X8_ofSign) (v := some (.int q7.1)) X I w_1957 my_X8_ofSign (by omega) (t_X8_ofSign (G := G) (d := d + 0) h14) (b_X8_ofSign h14) rfl rfl hl.1 rfl (Nat.le_of_ble_eq_true rfl) hn le17 dX8_isTrue_203 (fun H locs cells slots I hn1 hn2 => ?_)
        have I : s_I G q7.2 s H locs := I
        have hn : cells + σ0.2.1 ≤ q7.2.2.1 ∧ slots + σ0.2.2.1 ≤ q7.2.2.2.1 := ⟨hn1, hn2⟩
        refine r_iast X I h15 dX8_isTrue_206 (fun H locs I => ?_)
        have hn := s_k2 (s_si_2 h15) hn
        refine lv_iinc (v := (v4 + 1)) (lv' := [(4, .int (v4 + 1)), (6, .int q3.1), (0, .ref v0), (1, .int v1), (2, .int v2), (3, .int v3), (5, .int v5)]) hx hb dX8_isTrue_207 hl (k := 5) rfl rfl (by decide) rfl (fun ls hl => ?_)
        exact k.2 p e s m below meth c _ _ _ _ _ X I hn.1 hn.2 (lv_sub hl [2, 3, 4, 5, 0, 6] rfl)
      · refine lv_if_eq (tgt := 193) hx hb dX8_isTrue_125 (by decide) (fun n => absurd n c12) (fun _ => ?_)
        obtain ⟨x9, h18, hf⟩ := s_bind hf
        obtain ⟨x10, h19, hf⟩ := s_bind hf
        obtain ⟨x11, h20, hf⟩ := s_bind hf
        refine lv_aload_n hx hb dX8_isTrue_128 rfl (lv_at hl 1 rfl) ?_
        refine r_gr X I fl_X8_36 h18 dX8_isTrue_129 ?_
        refine lv_iload hx hb dX8_isTrue_132 (lv_at hl 5 rfl) ?_
        refine lv_iconst (v := 1) hx hb dX8_isTrue_134 (by decide) ?_
        refine lv_isub hx hb dX8_isTrue_135 ?_
        refine r_iald X I h19 dX8_isTrue_136 ?_
        refine lv_istore (lv' := [(7, .int x10), (6, .int q3.1), (0, .ref v0), (1, .int v1), (2, .int v2), (3, .int v3), (4, .int v4), (5, .int v5)]) hx hb dX8_isTrue_137 hl (by decide) rfl (fun ls hl => ?_)
        refine lv_aload_n hx hb dX8_isTrue_139 rfl (lv_at hl 2 rfl) ?_
        refine r_gr X I fl_X8_36 h20 dX8_isTrue_140 ?_
        refine lv_iload hx hb dX8_isTrue_143 (lv_at hl 6 rfl) ?_
        refine lv_iconst (v := 1) hx hb dX8_isTrue_145 (by decide) ?_
        refine lv_isub hx hb dX8_isTrue_146 ?_
        refine lv_iload hx hb dX8_isTrue_147 (lv_at hl 1 rfl) ?_
        refine lv_bipush (v := 12) hx hb dX8_isTrue_149 (by decide) ?_
        rcases s_ite hf with ⟨c21, hf⟩ | ⟨c21, hf⟩
        · refine lv_icmp_ne (tgt := 163) hx hb dX8_isTrue_151 (by decide) (fun n => absurd c21 n) (fun _ => ?_)
          cases hf
          have k : s_V G (d + 3) M_X8_isTrue vs0 σ0 Y_X8_isTrue (189, [.ref v0, .int v1, .int v2, .int v3, .int v4, .int v5, .int ((x10 ^^^ (-1)) &&& v3), .int (v4 - 1), .ref x11], q5.2) (e_I r) := k
          refine lv_iload hx hb dX8_isTrue_154 (lv_at hl 0 rfl) ?_
          refine lv_iconst (v := (-1)) hx hb dX8_isTrue_156 (by decide) ?_
          refine lv_ixor hx hb dX8_isTrue_157 ?_
          refine lv_iload_n hx hb dX8_isTrue_158 rfl (lv_at hl 5 rfl) ?_
          refine lv_iand hx hb dX8_isTrue_159 ?_
          refine lv_goto (tgt := 189) hx hb dX8_isTrue_160 (by decide) ?_
          exact k.2 p e s m below meth c _ _ _ _ _ X I hn.1 hn.2 (lv_sub hl [2, 3, 4, 5, 6, 7] rfl)
        · refine lv_icmp_ne (tgt := 163) hx hb dX8_isTrue_151 (by decide) (fun _ => ?_) (fun n => absurd n c21)
          refine lv_iload hx hb dX8_isTrue_163 (lv_at hl 1 rfl) ?_
          refine lv_bipush (v := 17) hx hb dX8_isTrue_165 (by decide) ?_
          rcases s_ite hf with ⟨c22, hf⟩ | ⟨c22, hf⟩
          · refine lv_icmp_ne (tgt := 178) hx hb dX8_isTrue_167 (by decide) (fun n => absurd c22 n) (fun _ => ?_)
            refine lv_iload hx hb dX8_isTrue_170 (lv_at hl 0 rfl) ?_
            rcases s_ite hf with ⟨c23, hf⟩ | ⟨c23, hf⟩
            · refine lv_if_eq (tgt := 188) hx hb dX8_isTrue_172 (by decide) (fun _ => ?_) (fun n => absurd c23 n)
              cases hf
              have k : s_V G (d + 3) M_X8_isTrue vs0 σ0 Y_X8_isTrue (188, [.ref v0, .int v1, .int v2, .int v3, .int v4, .int v5, .int (v4 - 1), .ref x11], q5.2) (e_I r) := k
              exact k.2 p e s m below meth c _ _ _ _ _ X I hn.1 hn.2 (lv_sub hl [2, 3, 4, 5, 6, 7] rfl)
            · refine lv_if_eq (tgt := 188) hx hb dX8_isTrue_172 (by decide) (fun n => absurd n c23) (fun _ => ?_)
              cases hf
              have k : s_V G (d + 3) M_X8_isTrue vs0 σ0 Y_X8_isTrue (184, [.ref v0, .int v1, .int v2, .int v3, .int v4, .int v5, .int (v4 - 1), .ref x11], q5.2) (e_I r) := k
              refine lv_goto (tgt := 184) hx hb dX8_isTrue_175 (by decide) ?_
              exact k.2 p e s m below meth c _ _ _ _ _ X I hn.1 hn.2 (lv_sub hl [2, 3, 4, 5, 6, 7] rfl)
          · refine lv_icmp_ne (tgt := 178) hx hb dX8_isTrue_167 (by decide) (fun _ => ?_) (fun n => absurd n c22)
            refine lv_iload hx hb dX8_isTrue_178 (lv_at hl 0 rfl) ?_
            refine lv_iload_n hx hb dX8_isTrue_180 rfl (lv_at hl 5 rfl) ?_
            rcases s_ite hf with ⟨c24, hf⟩ | ⟨c24, hf⟩
            · refine lv_icmp_ne (tgt := 188) hx hb dX8_isTrue_181 (by decide) (fun n => absurd c24 n) (fun _ => ?_)
              cases hf
              have k : s_V G (d + 3) M_X8_isTrue vs0 σ0 Y_X8_isTrue (184, [.ref v0, .int v1, .int v2, .int v3, .int v4, .int v5, .int (v4 - 1), .ref x11], q5.2) (e_I r) := k
              exact k.2 p e s m below meth c _ _ _ _ _ X I hn.1 hn.2 (lv_sub hl [2, 3, 4, 5, 6, 7] rfl)
            · refine lv_icmp_ne (tgt := 188) hx hb dX8_isTrue_181 (by decide) (fun _ => ?_) (fun n => absurd n c24)
              cases hf
              have k : s_V G (d + 3) M_X8_isTrue vs0 σ0 Y_X8_isTrue (188, [.ref v0, .int v1, .int v2, .int v3, .int v4, .int v5, .int (v4 - 1), .ref x11], q5.2) (e_I r) := k
              exact k.2 p e s m below meth c _ _ _ _ _ X I hn.1 hn.2 (lv_sub hl [2, 3, 4, 5, 6, 7] rfl)
    · refine lv_if_eq (tgt := 120) hx hb dX8_isTrue_41 (by decide) (fun n => absurd n c9) (fun _ => ?_)
      obtain ⟨x12, h25, hf⟩ := s_bind hf
      obtain ⟨x13, h26, hf⟩ := s_bind hf
      obtain ⟨x14, h27, hf⟩ := s_bind hf
      obtain ⟨x15, h28, hf⟩ := s_bind hf
      obtain ⟨x16, h29, hf⟩ := s_bind hf
      refine lv_aload_n hx hb dX8_isTrue_44 rfl (lv_at hl 1 rfl) ?_
      refine r_gr X I fl_X8_36 h25 dX8_isTrue_45 ?_
      refine lv_iload hx hb dX8_isTrue_48 (lv_at hl 5 rfl) ?_
      refine lv_iconst (v := 1) hx hb dX8_isTrue_50 (by decide) ?_
      refine lv_isub hx hb dX8_isTrue_51 ?_
      refine r_iald X I h26 dX8_isTrue_52 ?_
      refine lv_istore (lv' := [(7, .int x13), (6, .int q3.1), (0, .ref v0), (1, .int v1), (2, .int v2), (3, .int v3), (4, .int v4), (5, .int v5)]) hx hb dX8_isTrue_53 hl (by decide) rfl (fun ls hl => ?_)
      refine lv_aload_n hx hb dX8_isTrue_55 rfl (lv_at hl 2 rfl) ?_
      refine r_gr X I fl_X8_36 h27 dX8_isTrue_56 ?_
      refine lv_iload hx hb dX8_isTrue_59 (lv_at hl 6 rfl) ?_
      refine lv_iconst (v := 2) hx hb dX8_isTrue_61 (by decide) ?_
      refine lv_isub hx hb dX8_isTrue_62 ?_
      refine r_iald X I h28 dX8_isTrue_63 ?_
      refine lv_istore (lv' := [(8, .int x15), (7, .int x13), (6, .int q3.1), (0, .ref v0), (1, .int v1), (2, .int v2), (3, .int v3), (4, .int v4), (5, .int v5)]) hx hb dX8_isTrue_64 hl (by decide) rfl (fun ls hl => ?_)
      refine lv_iinc (v := (v4 + (-1))) (lv' := [(4, .int (v4 + (-1))), (8, .int x15), (7, .int x13), (6, .int q3.1), (0, .ref v0), (1, .int v1), (2, .int v2), (3, .int v3), (5, .int v5)]) hx hb dX8_isTrue_66 hl (k := 7) rfl rfl (by decide) rfl (fun ls hl => ?_)
      refine lv_aload_n hx hb dX8_isTrue_69 rfl (lv_at hl 4 rfl) ?_
      refine r_gr X I fl_X8_36 h29 dX8_isTrue_70 ?_
      refine lv_iload hx hb dX8_isTrue_73 (lv_at hl 0 rfl) ?_
      refine lv_iconst (v := 1) hx hb dX8_isTrue_75 (by decide) ?_
      refine lv_isub hx hb dX8_isTrue_76 ?_
      refine lv_iload hx hb dX8_isTrue_77 (lv_at hl 3 rfl) ?_
      refine lv_bipush (v := 13) hx hb dX8_isTrue_79 (by decide) ?_
      rcases s_ite hf with ⟨c30, hf⟩ | ⟨c30, hf⟩
      · refine lv_icmp_ne (tgt := 92) hx hb dX8_isTrue_81 (by decide) (fun n => absurd c30 n) (fun _ => ?_)
        cases hf
        have k : s_V G (d + 3) M_X8_isTrue vs0 σ0 Y_X8_isTrue (116, [.ref v0, .int v1, .int v2, .int v3, .int (v4 + (-1)), .int v5, .int (x13 &&& x15), .int ((v4 + (-1)) - 1), .ref x16], q4.2) (e_I r) := k
        refine lv_iload hx hb dX8_isTrue_84 (lv_at hl 2 rfl) ?_
        refine lv_iload hx hb dX8_isTrue_86 (lv_at hl 1 rfl) ?_
        refine lv_iand hx hb dX8_isTrue_88 ?_
        refine lv_goto (tgt := 116) hx hb dX8_isTrue_89 (by decide) ?_
        exact k.2 p e s m below meth c _ _ _ _ _ X I hn.1 hn.2 (lv_sub hl [4, 5, 6, 7, 0, 8] rfl)
      · refine lv_icmp_ne (tgt := 92) hx hb dX8_isTrue_81 (by decide) (fun _ => ?_) (fun n => absurd n c30)
        refine lv_iload hx hb dX8_isTrue_92 (lv_at hl 3 rfl) ?_
        refine lv_bipush (v := 14) hx hb dX8_isTrue_94 (by decide) ?_
        rcases s_ite hf with ⟨c31, hf⟩ | ⟨c31, hf⟩
        · refine lv_icmp_ne (tgt := 107) hx hb dX8_isTrue_96 (by decide) (fun n => absurd c31 n) (fun _ => ?_)
          cases hf
          have k : s_V G (d + 3) M_X8_isTrue vs0 σ0 Y_X8_isTrue (116, [.ref v0, .int v1, .int v2, .int v3, .int (v4 + (-1)), .int v5, .int (x13 ||| x15), .int ((v4 + (-1)) - 1), .ref x16], q4.2) (e_I r) := k
          refine lv_iload hx hb dX8_isTrue_99 (lv_at hl 2 rfl) ?_
          refine lv_iload hx hb dX8_isTrue_101 (lv_at hl 1 rfl) ?_
          refine lv_ior hx hb dX8_isTrue_103 ?_
          refine lv_goto (tgt := 116) hx hb dX8_isTrue_104 (by decide) ?_
          exact k.2 p e s m below meth c _ _ _ _ _ X I hn.1 hn.2 (lv_sub hl [4, 5, 6, 7, 0, 8] rfl)
        · refine lv_icmp_ne (tgt := 107) hx hb dX8_isTrue_96 (by decide) (fun _ => ?_) (fun n => absurd n c31)
          cases hf
          have k : s_V G (d + 3) M_X8_isTrue vs0 σ0 Y_X8_isTrue (116, [.ref v0, .int v1, .int v2, .int v3, .int (v4 + (-1)), .int v5, .int (((x13 ^^^ (-1)) &&& v3) ||| x15), .int ((v4 + (-1)) - 1), .ref x16], q4.2) (e_I r) := k
          refine lv_iload hx hb dX8_isTrue_107 (lv_at hl 2 rfl) ?_
          refine lv_iconst (v := (-1)) hx hb dX8_isTrue_109 (by decide) ?_
          refine lv_ixor hx hb dX8_isTrue_110 ?_
          refine lv_iload_n hx hb dX8_isTrue_111 rfl (lv_at hl 7 rfl) ?_
          refine lv_iand hx hb dX8_isTrue_112 ?_
          refine lv_iload hx hb dX8_isTrue_113 (lv_at hl 1 rfl) ?_
          refine lv_ior hx hb dX8_isTrue_115 ?_
          exact k.2 p e s m below meth c _ _ _ _ _ X I hn.1 hn.2 (lv_sub hl [4, 5, 6, 7, 0, 8] rfl)
set_option maxRecDepth 100000 in
set_option maxHeartbeats 4000000 in
theorem v_X8_isTrue_116 {G : sG} {d : Nat} {vs0 : List Value} {σ0 : sS} {v0 : Nat} {v1 : Int32} {v2 : Int32} {v3 : Int32} {v4 : Int32} {v5 : Int32} {w0 : Int32} {w1 : Int32} {w2 : Nat} {σ : sS} {z : sZ Int32} {r : Int32 × sS} (hf : T_X8_isTrue_116 v0 v1 v2 v3 v4 v5 w0 w1 w2 σ = some z) (k : s_K G (d + 3) M_X8_isTrue vs0 σ0 Y_X8_isTrue e_I z r) : s_V G (d + 3) M_X8_isTrue vs0 σ0 Y_X8_isTrue (116, [.ref v0, .int v1, .int v2, .int v3, .int v4, .int v5, .int w0, .int w1, .ref w2], σ) (e_I r) := by
  have le0 : s_le σ (e_I r).2 := s_lek hem_I (l_X8_isTrue_116 hf) k
  refine ⟨le0, ?_⟩
  intro p e s m below meth c H locs cells slots ls X I hn1 hn2 hl
  have hn : cells + σ0.2.1 ≤ σ.2.1 ∧ slots + σ0.2.2.1 ≤ σ.2.2.1 := ⟨hn1, hn2⟩
  have hl : lv_has ls 9 [(0, .ref v0), (1, .int v1), (2, .int v2), (3, .int v3), (4, .int v4), (5, .int v5)] := hl
  have hx := X.1
  have hb : c.code = cX8_isTrue := X.2.1
  have hown : s.vm.findClass RX8 = some m.cls := X.2.2.2.2.2.1
  have hts := X.2.2.2.2.2.2.1
  refine W.eq (g2 := F0 m 116 ls [.int w0, .int w1, .ref w2]) rfl ?_
  unfold T_X8_isTrue_116 at hf
  obtain ⟨σ1, h1, hf⟩ := s_bind hf
  cases hf
  have k : s_V G (d + 3) M_X8_isTrue vs0 σ0 Y_X8_isTrue (210, [.ref v0, .int v1, .int v2, .int v3, .int v4, .int v5], σ1) (e_I r) := k
  have le2 : s_le σ1 (e_I r).2 := k.1
  refine r_iast X I h1 dX8_isTrue_116 (fun H locs I => ?_)
  have hn := s_k2 (s_si_2 h1) hn
  refine lv_goto (tgt := 210) hx hb dX8_isTrue_117 (by decide) ?_
  exact k.2 p e s m below meth c _ _ _ _ _ X I hn.1 hn.2 (lv_sub hl [0, 1, 2, 3, 4, 5] rfl)
set_option maxRecDepth 100000 in
set_option maxHeartbeats 4000000 in
theorem v_X8_isTrue_184 {G : sG} {d : Nat} {vs0 : List Value} {σ0 : sS} {v0 : Nat} {v1 : Int32} {v2 : Int32} {v3 : Int32} {v4 : Int32} {v5 : Int32} {w0 : Int32} {w1 : Nat} {σ : sS} {z : sZ Int32} {r : Int32 × sS} (hf : T_X8_isTrue_184 v0 v1 v2 v3 v4 v5 w0 w1 σ = some z) (k : s_K G (d + 3) M_X8_isTrue vs0 σ0 Y_X8_isTrue e_I z r) : s_V G (d + 3) M_X8_isTrue vs0 σ0 Y_X8_isTrue (184, [.ref v0, .int v1, .int v2, .int v3, .int v4, .int v5, .int w0, .ref w1], σ) (e_I r) := by
  have le0 : s_le σ (e_I r).2 := s_lek hem_I (l_X8_isTrue_184 hf) k
  refine ⟨le0, ?_⟩
  intro p e s m below meth c H locs cells slots ls X I hn1 hn2 hl
  have hn : cells + σ0.2.1 ≤ σ.2.1 ∧ slots + σ0.2.2.1 ≤ σ.2.2.1 := ⟨hn1, hn2⟩
  have hl : lv_has ls 9 [(0, .ref v0), (1, .int v1), (2, .int v2), (3, .int v3), (4, .int v4), (5, .int v5)] := hl
  have hx := X.1
  have hb : c.code = cX8_isTrue := X.2.1
  have hown : s.vm.findClass RX8 = some m.cls := X.2.2.2.2.2.1
  have hts := X.2.2.2.2.2.2.1
  refine W.eq (g2 := F0 m 184 ls [.int w0, .ref w1]) rfl ?_
  unfold T_X8_isTrue_184 at hf
  cases hf
  have k : s_V G (d + 3) M_X8_isTrue vs0 σ0 Y_X8_isTrue (189, [.ref v0, .int v1, .int v2, .int v3, .int v4, .int v5, .int v3, .int w0, .ref w1], σ) (e_I r) := k
  refine lv_iload_n hx hb dX8_isTrue_184 rfl (lv_at hl 3 rfl) ?_
  refine lv_goto (tgt := 189) hx hb dX8_isTrue_185 (by decide) ?_
  exact k.2 p e s m below meth c _ _ _ _ _ X I hn.1 hn.2 (lv_sub hl [0, 1, 2, 3, 4, 5] rfl)
set_option maxRecDepth 100000 in
set_option maxHeartbeats 4000000 in
theorem v_X8_isTrue_188 {G : sG} {d : Nat} {vs0 : List Value} {σ0 : sS} {v0 : Nat} {v1 : Int32} {v2 : Int32} {v3 : Int32} {v4 : Int32} {v5 : Int32} {w0 : Int32} {w1 : Nat} {σ : sS} {z : sZ Int32} {r : Int32 × sS} (hf : T_X8_isTrue_188 v0 v1 v2 v3 v4 v5 w0 w1 σ = some z) (k : s_K G (d + 3) M_X8_isTrue vs0 σ0 Y_X8_isTrue e_I z r) : s_V G (d + 3) M_X8_isTrue vs0 σ0 Y_X8_isTrue (188, [.ref v0, .int v1, .int v2, .int v3, .int v4, .int v5, .int w0, .ref w1], σ) (e_I r) := by
  have le0 : s_le σ (e_I r).2 := s_lek hem_I (l_X8_isTrue_188 hf) k
  refine ⟨le0, ?_⟩
  intro p e s m below meth c H locs cells slots ls X I hn1 hn2 hl
  have hn : cells + σ0.2.1 ≤ σ.2.1 ∧ slots + σ0.2.2.1 ≤ σ.2.2.1 := ⟨hn1, hn2⟩
  have hl : lv_has ls 9 [(0, .ref v0), (1, .int v1), (2, .int v2), (3, .int v3), (4, .int v4), (5, .int v5)] := hl
  have hx := X.1
  have hb : c.code = cX8_isTrue := X.2.1
  have hown : s.vm.findClass RX8 = some m.cls := X.2.2.2.2.2.1
  have hts := X.2.2.2.2.2.2.1
  refine W.eq (g2 := F0 m 188 ls [.int w0, .ref w1]) rfl ?_
  unfold T_X8_isTrue_188 at hf
  cases hf
  have k : s_V G (d + 3) M_X8_isTrue vs0 σ0 Y_X8_isTrue (189, [.ref v0, .int v1, .int v2, .int v3, .int v4, .int v5, .int 0, .int w0, .ref w1], σ) (e_I r) := k
  refine lv_iconst (v := 0) hx hb dX8_isTrue_188 (by decide) ?_
  exact k.2 p e s m below meth c _ _ _ _ _ X I hn.1 hn.2 (lv_sub hl [0, 1, 2, 3, 4, 5] rfl)
set_option maxRecDepth 100000 in
set_option maxHeartbeats 4000000 in
theorem v_X8_isTrue_189 {G : sG} {d : Nat} {vs0 : List Value} {σ0 : sS} {v0 : Nat} {v1 : Int32} {v2 : Int32} {v3 : Int32} {v4 : Int32} {v5 : Int32} {w0 : Int32} {w1 : Int32} {w2 : Nat} {σ : sS} {z : sZ Int32} {r : Int32 × sS} (hf : T_X8_isTrue_189 v0 v1 v2 v3 v4 v5 w0 w1 w2 σ = some z) (k : s_K G (d + 3) M_X8_isTrue vs0 σ0 Y_X8_isTrue e_I z r) : s_V G (d + 3) M_X8_isTrue vs0 σ0 Y_X8_isTrue (189, [.ref v0, .int v1, .int v2, .int v3, .int v4, .int v5, .int w0, .int w1, .ref w2], σ) (e_I r) := by
  have le0 : s_le σ (e_I r).2 := s_lek hem_I (l_X8_isTrue_189 hf) k
  refine ⟨le0, ?_⟩
  intro p e s m below meth c H locs cells slots ls X I hn1 hn2 hl
  have hn : cells + σ0.2.1 ≤ σ.2.1 ∧ slots + σ0.2.2.1 ≤ σ.2.2.1 := ⟨hn1, hn2⟩
  have hl : lv_has ls 9 [(0, .ref v0), (1, .int v1), (2, .int v2), (3, .int v3), (4, .int v4), (5, .int v5)] := hl
  have hx := X.1
  have hb : c.code = cX8_isTrue := X.2.1
  have hown : s.vm.findClass RX8 = some m.cls := X.2.2.2.2.2.1
  have hts := X.2.2.2.2.2.2.1
  refine W.eq (g2 := F0 m 189 ls [.int w0, .int w1, .ref w2]) rfl ?_
  unfold T_X8_isTrue_189 at hf
  obtain ⟨σ1, h1, hf⟩ := s_bind hf
  cases hf
  have k : s_V G (d + 3) M_X8_isTrue vs0 σ0 Y_X8_isTrue (210, [.ref v0, .int v1, .int v2, .int v3, .int v4, .int v5], σ1) (e_I r) := k
  have le2 : s_le σ1 (e_I r).2 := k.1
  refine r_iast X I h1 dX8_isTrue_189 (fun H locs I => ?_)
  have hn := s_k2 (s_si_2 h1) hn
  refine lv_goto (tgt := 210) hx hb dX8_isTrue_190 (by decide) ?_
  exact k.2 p e s m below meth c _ _ _ _ _ X I hn.1 hn.2 (lv_sub hl [0, 1, 2, 3, 4, 5] rfl)
set_option maxRecDepth 100000 in
set_option maxHeartbeats 4000000 in
theorem v_X8_isTrue_210 {G : sG} {d : Nat} {vs0 : List Value} {σ0 : sS} {v0 : Nat} {v1 : Int32} {v2 : Int32} {v3 : Int32} {v4 : Int32} {v5 : Int32} {σ : sS} {z : sZ Int32} {r : Int32 × sS} (hf : T_X8_isTrue_210 v0 v1 v2 v3 v4 v5 σ = some z) (k : s_K G (d + 3) M_X8_isTrue vs0 σ0 Y_X8_isTrue e_I z r) : s_V G (d + 3) M_X8_isTrue vs0 σ0 Y_X8_isTrue (210, [.ref v0, .int v1, .int v2, .int v3, .int v4, .int v5], σ) (e_I r) := by
  have le0 : s_le σ (e_I r).2 := s_lek hem_I (l_X8_isTrue_210 hf) k
  refine ⟨le0, ?_⟩
  intro p e s m below meth c H locs cells slots ls X I hn1 hn2 hl
  have hn : cells + σ0.2.1 ≤ σ.2.1 ∧ slots + σ0.2.2.1 ≤ σ.2.2.1 := ⟨hn1, hn2⟩
  have hl : lv_has ls 9 [(0, .ref v0), (1, .int v1), (2, .int v2), (3, .int v3), (4, .int v4), (5, .int v5)] := hl
  have hx := X.1
  have hb : c.code = cX8_isTrue := X.2.1
  have hown : s.vm.findClass RX8 = some m.cls := X.2.2.2.2.2.1
  have hts := X.2.2.2.2.2.2.1
  refine W.eq (g2 := F0 m 210 ls []) rfl ?_
  unfold T_X8_isTrue_210 at hf
  cases hf
  have k : s_V G (d + 3) M_X8_isTrue vs0 σ0 Y_X8_isTrue (22, [.ref v0, .int v1, .int v2, .int v3, .int v4, .int (v5 + (-1))], σ) (e_I r) := k
  refine lv_iinc (v := (v5 + (-1))) (lv' := [(5, .int (v5 + (-1))), (0, .ref v0), (1, .int v1), (2, .int v2), (3, .int v3), (4, .int v4)]) hx hb dX8_isTrue_210 hl (k := 5) rfl rfl (by decide) rfl (fun ls hl => ?_)
  refine lv_goto (tgt := 22) hx hb dX8_isTrue_213 (by decide) ?_
  exact k.2 p e s m below meth c _ _ _ _ _ X I hn.1 hn.2 (lv_sub hl [1, 2, 3, 4, 5, 0] rfl)
theorem v_X8_isTrue {G : sG} {d : Nat} {vs0 : List Value} {σ0 : sS} {x : sL} {z : sZ Int32} {r : Int32 × sS} (hs : S_X8_isTrue x = some z) (k : s_K G (d + 3) M_X8_isTrue vs0 σ0 Y_X8_isTrue e_I z r) : s_V G (d + 3) M_X8_isTrue vs0 σ0 Y_X8_isTrue x (e_I r) := by
  obtain ⟨pc, vs, σ⟩ := x
  unfold S_X8_isTrue at hs
  dsimp only at hs
  rcases s_ite hs with ⟨c, hs⟩ | ⟨-, hs⟩
  · subst c
    unfold U_X8_isTrue_0 at hs
    obtain ⟨a0, g0, hs⟩ := s_bind hs
    obtain ⟨a1, g1, hs⟩ := s_bind hs
    obtain ⟨a2, g2, hs⟩ := s_bind hs
    obtain ⟨u9, ge, hs⟩ := s_bind hs
    rw [g_r_to g0, g_i_to g1, g_i_to g2, g_e_to ge]
    exact v_X8_isTrue_0 hs k
  rcases s_ite hs with ⟨c, hs⟩ | ⟨-, hs⟩
  · subst c
    unfold U_X8_isTrue_22 at hs
    obtain ⟨a0, g0, hs⟩ := s_bind hs
    obtain ⟨a1, g1, hs⟩ := s_bind hs
    obtain ⟨a2, g2, hs⟩ := s_bind hs
    obtain ⟨a3, g3, hs⟩ := s_bind hs
    obtain ⟨a4, g4, hs⟩ := s_bind hs
    obtain ⟨a5, g5, hs⟩ := s_bind hs
    obtain ⟨u9, ge, hs⟩ := s_bind hs
    rw [g_r_to g0, g_i_to g1, g_i_to g2, g_i_to g3, g_i_to g4, g_i_to g5, g_e_to ge]
    exact v_X8_isTrue_22 hs k
  rcases s_ite hs with ⟨c, hs⟩ | ⟨-, hs⟩
  · subst c
    unfold U_X8_isTrue_116 at hs
    obtain ⟨a0, g0, hs⟩ := s_bind hs
    obtain ⟨a1, g1, hs⟩ := s_bind hs
    obtain ⟨a2, g2, hs⟩ := s_bind hs
    obtain ⟨a3, g3, hs⟩ := s_bind hs
    obtain ⟨a4, g4, hs⟩ := s_bind hs
    obtain ⟨a5, g5, hs⟩ := s_bind hs
    obtain ⟨a6, g6, hs⟩ := s_bind hs
    obtain ⟨a7, g7, hs⟩ := s_bind hs
    obtain ⟨a8, g8, hs⟩ := s_bind hs
    obtain ⟨u9, ge, hs⟩ := s_bind hs
    rw [g_r_to g0, g_i_to g1, g_i_to g2, g_i_to g3, g_i_to g4, g_i_to g5, g_i_to g6, g_i_to g7, g_r_to g8, g_e_to ge]
    exact v_X8_isTrue_116 hs k
  rcases s_ite hs with ⟨c, hs⟩ | ⟨-, hs⟩
  · subst c
    unfold U_X8_isTrue_184 at hs
    obtain ⟨a0, g0, hs⟩ := s_bind hs
    obtain ⟨a1, g1, hs⟩ := s_bind hs
    obtain ⟨a2, g2, hs⟩ := s_bind hs
    obtain ⟨a3, g3, hs⟩ := s_bind hs
    obtain ⟨a4, g4, hs⟩ := s_bind hs
    obtain ⟨a5, g5, hs⟩ := s_bind hs
    obtain ⟨a6, g6, hs⟩ := s_bind hs
    obtain ⟨a7, g7, hs⟩ := s_bind hs
    obtain ⟨u9, ge, hs⟩ := s_bind hs
    rw [g_r_to g0, g_i_to g1, g_i_to g2, g_i_to g3, g_i_to g4, g_i_to g5, g_i_to g6, g_r_to g7, g_e_to ge]
    exact v_X8_isTrue_184 hs k
  rcases s_ite hs with ⟨c, hs⟩ | ⟨-, hs⟩
  · subst c
    unfold U_X8_isTrue_188 at hs
    obtain ⟨a0, g0, hs⟩ := s_bind hs
    obtain ⟨a1, g1, hs⟩ := s_bind hs
    obtain ⟨a2, g2, hs⟩ := s_bind hs
    obtain ⟨a3, g3, hs⟩ := s_bind hs
    obtain ⟨a4, g4, hs⟩ := s_bind hs
    obtain ⟨a5, g5, hs⟩ := s_bind hs
    obtain ⟨a6, g6, hs⟩ := s_bind hs
    obtain ⟨a7, g7, hs⟩ := s_bind hs
    obtain ⟨u9, ge, hs⟩ := s_bind hs
    rw [g_r_to g0, g_i_to g1, g_i_to g2, g_i_to g3, g_i_to g4, g_i_to g5, g_i_to g6, g_r_to g7, g_e_to ge]
    exact v_X8_isTrue_188 hs k
  rcases s_ite hs with ⟨c, hs⟩ | ⟨-, hs⟩
  · subst c
    unfold U_X8_isTrue_189 at hs
    obtain ⟨a0, g0, hs⟩ := s_bind hs
    obtain ⟨a1, g1, hs⟩ := s_bind hs
    obtain ⟨a2, g2, hs⟩ := s_bind hs
    obtain ⟨a3, g3, hs⟩ := s_bind hs
    obtain ⟨a4, g4, hs⟩ := s_bind hs
    obtain ⟨a5, g5, hs⟩ := s_bind hs
    obtain ⟨a6, g6, hs⟩ := s_bind hs
    obtain ⟨a7, g7, hs⟩ := s_bind hs
    obtain ⟨a8, g8, hs⟩ := s_bind hs
    obtain ⟨u9, ge, hs⟩ := s_bind hs
    rw [g_r_to g0, g_i_to g1, g_i_to g2, g_i_to g3, g_i_to g4, g_i_to g5, g_i_to g6, g_i_to g7, g_r_to g8, g_e_to ge]
    exact v_X8_isTrue_189 hs k
  rcases s_ite hs with ⟨c, hs⟩ | ⟨-, hs⟩
  · subst c
    unfold U_X8_isTrue_210 at hs
    obtain ⟨a0, g0, hs⟩ := s_bind hs
    obtain ⟨a1, g1, hs⟩ := s_bind hs
    obtain ⟨a2, g2, hs⟩ := s_bind hs
    obtain ⟨a3, g3, hs⟩ := s_bind hs
    obtain ⟨a4, g4, hs⟩ := s_bind hs
    obtain ⟨a5, g5, hs⟩ := s_bind hs
    obtain ⟨u9, ge, hs⟩ := s_bind hs
    rw [g_r_to g0, g_i_to g1, g_i_to g2, g_i_to g3, g_i_to g4, g_i_to g5, g_e_to ge]
    exact v_X8_isTrue_210 hs k
  cases hs
theorem t_X8_isTrue {G : sG} {d : Nat} {v0 : Nat} {v1 : Int32} {v2 : Int32} {σ : sS} {q : Int32 × sS} (h : F_X8_isTrue v0 v1 v2 σ = some q) : s_T G (d + 3) M_X8_isTrue [.ref v0, .int v1, .int v2] σ (e_I q) := by
  unfold F_X8_isTrue at h
  obtain ⟨-, -, h⟩ := s_bind h
  exact s_ofV rfl (by decide) (Nat.le_of_ble_eq_true rfl) rfl rfl (s_run_ind (V := fun x r => s_V G (d + 3) M_X8_isTrue [.ref v0, .int v1, .int v2] σ Y_X8_isTrue x (e_I r)) (fun x z r hs hk => v_X8_isTrue hs (by cases z <;> exact hk)) h)
/-! X8_holds -/
noncomputable def T_X8_holds_0 (v0 : Nat) (v1 : Int32) (v2 : Int32) (σ : sS) : Option (sZ Int32) :=
  (s_pf σ v0 8 0 (.int 0)).bind fun σ1 =>
  (F_X8_noFormula v0 v1 σ1).bind fun q2 =>
  (F_X8_throwsIf v0 q2.1 1 q2.2).bind fun q3 =>
  if q3.1 = 0 then ((F_X8_noWorld v0 v2 q3.2).bind fun q4 =>
  (F_X8_throwsIf v0 q4.1 2 q4.2).bind fun q5 =>
  if q5.1 = 0 then ((F_X8_isTrue v0 v1 v2 q5.2).bind fun q6 =>
  if q6.1 = 0 then (some (.inr (0, q6.2)))
  else (some (.inr (1, q6.2))))
  else (some (.inr (0, q5.2))))
  else (some (.inr (0, q3.2)))
noncomputable def U_X8_holds_0 (vs : List Value) (σ : sS) : Option (sZ Int32) := (g_r vs).bind fun a0 => (g_i a0.2).bind fun a1 => (g_i a1.2).bind fun a2 => (g_e a2.2).bind fun _ => T_X8_holds_0 a0.1 a1.1 a2.1 σ
noncomputable def S_X8_holds (x : sL) : Option (sZ Int32) := if x.1 = 0 then U_X8_holds_0 x.2.1 x.2.2 else none
def Y_X8_holds (pc : Nat) : List Nat := if pc = 0 then [0, 1, 2] else []
noncomputable def F_X8_holds (v0 : Nat) (v1 : Int32) (v2 : Int32) (σ : sS) : Option (Int32 × sS) := (s_is σ v0 8).bind fun _ => s_run S_X8_holds (0, [.ref v0, .int v1, .int v2], σ)
theorem l_X8_holds_0 {v0 : Nat} {v1 : Int32} {v2 : Int32} {σ : sS} {z : sZ Int32} (hf : T_X8_holds_0 v0 v1 v2 σ = some z) : s_lz σ z := by
  unfold T_X8_holds_0 at hf
  obtain ⟨σ1, hh, hf⟩ := s_bind hf
  refine s_lz.tr (s_le2 (s_pf_2 hh)) ?_
  obtain ⟨q2, hh, hf⟩ := s_bind hf
  refine s_lz.tr (l_X8_noFormula hh) ?_
  obtain ⟨q3, hh, hf⟩ := s_bind hf
  refine s_lz.tr (l_X8_throwsIf hh) ?_
  rcases s_ite hf with ⟨-, hf⟩ | ⟨-, hf⟩
  · obtain ⟨q4, hh, hf⟩ := s_bind hf
    refine s_lz.tr (l_X8_noWorld hh) ?_
    obtain ⟨q5, hh, hf⟩ := s_bind hf
    refine s_lz.tr (l_X8_throwsIf hh) ?_
    rcases s_ite hf with ⟨-, hf⟩ | ⟨-, hf⟩
    · obtain ⟨q6, hh, hf⟩ := s_bind hf
      refine s_lz.tr (l_X8_isTrue hh) ?_
      rcases s_ite hf with ⟨-, hf⟩ | ⟨-, hf⟩
      · cases hf
        exact s_le.rf
      · cases hf
        exact s_le.rf
    · cases hf
      exact s_le.rf
  · cases hf
    exact s_le.rf
theorem l_X8_holds_s {x : sL} {z : sZ Int32} (hs : S_X8_holds x = some z) : s_lz x.2.2 z := by
  obtain ⟨pc, vs, σ⟩ := x
  unfold S_X8_holds at hs
  dsimp only at hs ⊢
  rcases s_ite hs with ⟨c, hs⟩ | ⟨-, hs⟩
  · subst c
    unfold U_X8_holds_0 at hs
    obtain ⟨a0, g0, hs⟩ := s_bind hs
    obtain ⟨a1, g1, hs⟩ := s_bind hs
    obtain ⟨a2, g2, hs⟩ := s_bind hs
    obtain ⟨u9, ge, hs⟩ := s_bind hs
    exact l_X8_holds_0 hs
  cases hs
theorem l_X8_holds {v0 : Nat} {v1 : Int32} {v2 : Int32} {σ : sS} {q : Int32 × sS} (h : F_X8_holds v0 v1 v2 σ = some q) : s_le σ q.2 := by
  unfold F_X8_holds at h
  obtain ⟨-, -, h⟩ := s_bind h
  exact s_run_ind (V := fun x r => s_le x.2.2 r.2) (fun x z r hs hk => by
    have h9 := l_X8_holds_s hs
    cases z with
    | inl y => exact s_le.tr h9 hk
    | inr q => cases hk; exact h9) h
theorem b_X8_holds {v0 : Nat} {v1 : Int32} {v2 : Int32} {σ : sS} {q : Int32 × sS} (h : F_X8_holds v0 v1 v2 σ = some q) : ∃ fs, σ.1 v0 = some (.inr (8, fs)) := by
  unfold F_X8_holds at h
  obtain ⟨u, hu, -⟩ := s_bind h
  exact s_is_to hu
set_option maxRecDepth 100000 in
set_option maxHeartbeats 4000000 in
theorem v_X8_holds_0 {G : sG} {d : Nat} {vs0 : List Value} {σ0 : sS} {v0 : Nat} {v1 : Int32} {v2 : Int32} {σ : sS} {z : sZ Int32} {r : Int32 × sS} (hf : T_X8_holds_0 v0 v1 v2 σ = some z) (k : s_K G (d + 4) M_X8_holds vs0 σ0 Y_X8_holds e_I z r) : s_V G (d + 4) M_X8_holds vs0 σ0 Y_X8_holds (0, [.ref v0, .int v1, .int v2], σ) (e_I r) := by
  have le0 : s_le σ (e_I r).2 := s_lek hem_I (l_X8_holds_0 hf) k
  refine ⟨le0, ?_⟩
  intro p e s m below meth c H locs cells slots ls X I hn1 hn2 hl
  have hn : cells + σ0.2.1 ≤ σ.2.1 ∧ slots + σ0.2.2.1 ≤ σ.2.2.1 := ⟨hn1, hn2⟩
  have hl : lv_has ls 3 [(0, .ref v0), (1, .int v1), (2, .int v2)] := hl
  have hx := X.1
  have hb : c.code = cX8_holds := X.2.1
  have hown : s.vm.findClass RX8 = some m.cls := X.2.2.2.2.2.1
  have hts := X.2.2.2.2.2.2.1
  refine W.eq (g2 := F0 m 0 ls []) rfl ?_
  unfold T_X8_holds_0 at hf
  obtain ⟨σ1, h1, hf⟩ := s_bind hf
  obtain ⟨q2, h2, hf⟩ := s_bind hf
  obtain ⟨q3, h3, hf⟩ := s_bind hf
  have le4 : s_le q3.2 (e_I r).2 := by
    refine s_lek hem_I ?_ k
    rcases s_ite hf with ⟨-, hf⟩ | ⟨-, hf⟩
    · obtain ⟨q4, hh, hf⟩ := s_bind hf
      refine s_lz.tr (l_X8_noWorld hh) ?_
      obtain ⟨q5, hh, hf⟩ := s_bind hf
      refine s_lz.tr (l_X8_throwsIf hh) ?_
      rcases s_ite hf with ⟨-, hf⟩ | ⟨-, hf⟩
      · obtain ⟨q6, hh, hf⟩ := s_bind hf
        refine s_lz.tr (l_X8_isTrue hh) ?_
        rcases s_ite hf with ⟨-, hf⟩ | ⟨-, hf⟩
        · cases hf
          exact s_le.rf
        · cases hf
          exact s_le.rf
      · cases hf
        exact s_le.rf
    · cases hf
      exact s_le.rf
  have le5 := s_le.tr (l_X8_throwsIf h3) le4
  have le6 := s_le.tr (l_X8_noFormula h2) le5
  refine lv_aload_n hx hb dX8_holds_0 rfl (lv_at hl 0 rfl) ?_
  refine lv_iconst (v := 0) hx hb dX8_holds_1 (by decide) ?_
  refine r_put X I fp_X8_3 (fun h => by cases h) h1 rfl rfl dX8_holds_2 (fun H locs I => ?_)
  have hn := s_k2 (s_pf_2 h1) hn
  refine lv_aload_n hx hb dX8_holds_5 rfl (lv_at hl 0 rfl) ?_
  refine lv_aload_n hx hb dX8_holds_6 rfl (lv_at hl 0 rfl) ?_
  refine lv_iload_n hx hb dX8_holds_7 rfl (lv_at hl 1 rfl) ?_
  refine r_callV (Y := M_X8_noFormula) (v := some (.int q2.1)) X I w_1916 my_X8_noFormula (by omega) (t_X8_noFormula (G := G) (d := d + 1) h2) (b_X8_noFormula h2) rfl rfl hl.1 rfl (Nat.le_of_ble_eq_true rfl) hn le5 dX8_holds_8 (fun H locs cells slots I hn1 hn2 => ?_)
  have I : s_I G q2.2 s H locs := I
  have hn : cells + σ0.2.1 ≤ q2.2.2.1 ∧ slots + σ0.2.2.1 ≤ q2.2.2.2.1 := ⟨hn1, hn2⟩
  refine lv_iconst (v := 1) hx hb dX8_holds_11 (by decide) ?_
  refine r_callV (Y := M_X8_throwsIf) (v := some (.int q3.1)) X I w_1897 my_X8_throwsIf (by omega) (t_X8_throwsIf (G := G) (d := d + 2) h3) (b_X8_throwsIf h3) rfl rfl hl.1 rfl (Nat.le_of_ble_eq_true rfl) hn le4 dX8_holds_12 (fun H locs cells slots I hn1 hn2 => ?_)
  have I : s_I G q3.2 s H locs := I
  have hn : cells + σ0.2.1 ≤ q3.2.2.1 ∧ slots + σ0.2.2.1 ≤ q3.2.2.2.1 := ⟨hn1, hn2⟩
  rcases s_ite hf with ⟨c7, hf⟩ | ⟨c7, hf⟩
  · refine lv_if_ne (tgt := 44) hx hb dX8_holds_15 (by decide) (fun n => absurd c7 n) (fun _ => ?_)
    obtain ⟨q4, h8, hf⟩ := s_bind hf
    obtain ⟨q5, h9, hf⟩ := s_bind hf
    have le10 : s_le q5.2 (e_I r).2 := by
      refine s_lek hem_I ?_ k
      rcases s_ite hf with ⟨-, hf⟩ | ⟨-, hf⟩
      · obtain ⟨q6, hh, hf⟩ := s_bind hf
        refine s_lz.tr (l_X8_isTrue hh) ?_
        rcases s_ite hf with ⟨-, hf⟩ | ⟨-, hf⟩
        · cases hf
          exact s_le.rf
        · cases hf
          exact s_le.rf
      · cases hf
        exact s_le.rf
    have le11 := s_le.tr (l_X8_throwsIf h9) le10
    refine lv_aload_n hx hb dX8_holds_18 rfl (lv_at hl 0 rfl) ?_
    refine lv_aload_n hx hb dX8_holds_19 rfl (lv_at hl 0 rfl) ?_
    refine lv_iload_n hx hb dX8_holds_20 rfl (lv_at hl 2 rfl) ?_
    refine r_callV (Y := M_X8_noWorld) (v := some (.int q4.1)) X I w_1939 my_X8_noWorld (by omega) (t_X8_noWorld (G := G) (d := d + 0) h8) (b_X8_noWorld h8) rfl rfl hl.1 rfl (Nat.le_of_ble_eq_true rfl) hn le11 dX8_holds_21 (fun H locs cells slots I hn1 hn2 => ?_)
    have I : s_I G q4.2 s H locs := I
    have hn : cells + σ0.2.1 ≤ q4.2.2.1 ∧ slots + σ0.2.2.1 ≤ q4.2.2.2.1 := ⟨hn1, hn2⟩
    refine lv_iconst (v := 2) hx hb dX8_holds_24 (by decide) ?_
    refine r_callV (Y := M_X8_throwsIf) (v := some (.int q5.1)) X I w_1897 my_X8_throwsIf (by omega) (t_X8_throwsIf (G := G) (d := d + 2) h9) (b_X8_throwsIf h9) rfl rfl hl.1 rfl (Nat.le_of_ble_eq_true rfl) hn le10 dX8_holds_25 (fun H locs cells slots I hn1 hn2 => ?_)
    have I : s_I G q5.2 s H locs := I
    have hn : cells + σ0.2.1 ≤ q5.2.2.1 ∧ slots + σ0.2.2.1 ≤ q5.2.2.2.1 := ⟨hn1, hn2⟩
    rcases s_ite hf with ⟨c12, hf⟩ | ⟨c12, hf⟩
    · refine lv_if_ne (tgt := 44) hx hb dX8_holds_28 (by decide) (fun n => absurd c12 n) (fun _ => ?_)
      obtain ⟨q6, h13, hf⟩ := s_bind hf
      have le14 : s_le q6.2 (e_I r).2 := by
        refine s_lek hem_I ?_ k
        rcases s_ite hf with ⟨-, hf⟩ | ⟨-, hf⟩
        · cases hf
          exact s_le.rf
        · cases hf
          exact s_le.rf
      refine lv_aload_n hx hb dX8_holds_31 rfl (lv_at hl 0 rfl) ?_
      refine lv_iload_n hx hb dX8_holds_32 rfl (lv_at hl 1 rfl) ?_
      refine lv_iload_n hx hb dX8_holds_33 rfl (lv_at hl 2 rfl) ?_
      refine r_callV (Y := M_X8_isTrue) (v := some (.int q6.1)) X I w_1947 my_X8_isTrue (by omega) (t_X8_isTrue (G := G) (d := d + 0) h13) (b_X8_isTrue h13) rfl rfl hl.1 rfl (Nat.le_of_ble_eq_true rfl) hn le14 dX8_holds_34 (fun H locs cells slots I hn1 hn2 => ?_)
      have I : s_I G q6.2 s H locs := I
      have hn : cells + σ0.2.1 ≤ q6.2.2.1 ∧ slots + σ0.2.2.1 ≤ q6.2.2.2.1 := ⟨hn1, hn2⟩
      rcases s_ite hf with ⟨c15, hf⟩ | ⟨c15, hf⟩
      · refine lv_if_eq (tgt := 44) hx hb dX8_holds_37 (by decide) (fun _ => ?_) (fun n => absurd c15 n)
        cases hf
        have k : _ = r := k
        subst k
        refine lv_iconst (v := 0) hx hb dX8_holds_44 (by decide) ?_
        exact r_iret X I rfl rfl rfl hn dX8_holds_45
      · refine lv_if_eq (tgt := 44) hx hb dX8_holds_37 (by decide) (fun n => absurd n c15) (fun _ => ?_)
        cases hf
        have k : _ = r := k
        subst k
        refine lv_iconst (v := 1) hx hb dX8_holds_40 (by decide) ?_
        refine lv_goto (tgt := 45) hx hb dX8_holds_41 (by decide) ?_
        exact r_iret X I rfl rfl rfl hn dX8_holds_45
    · refine lv_if_ne (tgt := 44) hx hb dX8_holds_28 (by decide) (fun _ => ?_) (fun n => absurd n c12)
      cases hf
      have k : _ = r := k
      subst k
      refine lv_iconst (v := 0) hx hb dX8_holds_44 (by decide) ?_
      exact r_iret X I rfl rfl rfl hn dX8_holds_45
  · refine lv_if_ne (tgt := 44) hx hb dX8_holds_15 (by decide) (fun _ => ?_) (fun n => absurd n c7)
    cases hf
    have k : _ = r := k
    subst k
    refine lv_iconst (v := 0) hx hb dX8_holds_44 (by decide) ?_
    exact r_iret X I rfl rfl rfl hn dX8_holds_45
theorem v_X8_holds {G : sG} {d : Nat} {vs0 : List Value} {σ0 : sS} {x : sL} {z : sZ Int32} {r : Int32 × sS} (hs : S_X8_holds x = some z) (k : s_K G (d + 4) M_X8_holds vs0 σ0 Y_X8_holds e_I z r) : s_V G (d + 4) M_X8_holds vs0 σ0 Y_X8_holds x (e_I r) := by
  obtain ⟨pc, vs, σ⟩ := x
  unfold S_X8_holds at hs
  dsimp only at hs
  rcases s_ite hs with ⟨c, hs⟩ | ⟨-, hs⟩
  · subst c
    unfold U_X8_holds_0 at hs
    obtain ⟨a0, g0, hs⟩ := s_bind hs
    obtain ⟨a1, g1, hs⟩ := s_bind hs
    obtain ⟨a2, g2, hs⟩ := s_bind hs
    obtain ⟨u9, ge, hs⟩ := s_bind hs
    rw [g_r_to g0, g_i_to g1, g_i_to g2, g_e_to ge]
    exact v_X8_holds_0 hs k
  cases hs
theorem t_X8_holds {G : sG} {d : Nat} {v0 : Nat} {v1 : Int32} {v2 : Int32} {σ : sS} {q : Int32 × sS} (h : F_X8_holds v0 v1 v2 σ = some q) : s_T G (d + 4) M_X8_holds [.ref v0, .int v1, .int v2] σ (e_I q) := by
  unfold F_X8_holds at h
  obtain ⟨-, -, h⟩ := s_bind h
  exact s_ofV rfl (by decide) (Nat.le_of_ble_eq_true rfl) rfl rfl (s_run_ind (V := fun x r => s_V G (d + 4) M_X8_holds [.ref v0, .int v1, .int v2] σ Y_X8_holds x (e_I r)) (fun x z r hs hk => v_X8_holds hs (by cases z <;> exact hk)) h)
/-! X3_size -/
noncomputable def T_X3_size_0 (v0 : Nat) (v1 : Int32) (σ : sS) : Option (sZ Int32) :=
  some (.inl (4, [.ref v0, .int v1, .int 0, .int 0], σ))
noncomputable def U_X3_size_0 (vs : List Value) (σ : sS) : Option (sZ Int32) := (g_r vs).bind fun a0 => (g_i a0.2).bind fun a1 => (g_e a1.2).bind fun _ => T_X3_size_0 a0.1 a1.1 σ
noncomputable def T_X3_size_4 (v0 : Nat) (v1 : Int32) (v2 : Int32) (v3 : Int32) (σ : sS) : Option (sZ Int32) :=
  (s_fr σ v0 3 0).bind fun x1 =>
  (F_X1_words x1 σ).bind fun q2 =>
  if q2.1 ≤ v3 then (some (.inr (v2, q2.2)))
  else ((s_fr q2.2 v0 3 0).bind fun x3 =>
  (F_X1_truthOf x3 v1 v3 q2.2).bind fun q4 =>
  (F_J13_bitCount_95d88 q4.1 q4.2).bind fun q5 =>
  some (.inl (4, [.ref v0, .int v1, .int (v2 + q5.1), .int (v3 + 1)], q5.2)))
noncomputable def U_X3_size_4 (vs : List Value) (σ : sS) : Option (sZ Int32) := (g_r vs).bind fun a0 => (g_i a0.2).bind fun a1 => (g_i a1.2).bind fun a2 => (g_i a2.2).bind fun a3 => (g_e a3.2).bind fun _ => T_X3_size_4 a0.1 a1.1 a2.1 a3.1 σ
noncomputable def S_X3_size (x : sL) : Option (sZ Int32) := if x.1 = 0 then U_X3_size_0 x.2.1 x.2.2 else if x.1 = 4 then U_X3_size_4 x.2.1 x.2.2 else none
def Y_X3_size (pc : Nat) : List Nat := if pc = 0 then [0, 1] else if pc = 4 then [0, 1, 2, 3] else []
noncomputable def F_X3_size (v0 : Nat) (v1 : Int32) (σ : sS) : Option (Int32 × sS) := (s_is σ v0 3).bind fun _ => s_run S_X3_size (0, [.ref v0, .int v1], σ)
theorem l_X3_size_0 {v0 : Nat} {v1 : Int32} {σ : sS} {z : sZ Int32} (hf : T_X3_size_0 v0 v1 σ = some z) : s_lz σ z := by
  unfold T_X3_size_0 at hf
  cases hf
  exact s_le.rf
theorem l_X3_size_4 {v0 : Nat} {v1 : Int32} {v2 : Int32} {v3 : Int32} {σ : sS} {z : sZ Int32} (hf : T_X3_size_4 v0 v1 v2 v3 σ = some z) : s_lz σ z := by
  unfold T_X3_size_4 at hf
  obtain ⟨x1, -, hf⟩ := s_bind hf
  obtain ⟨q2, hh, hf⟩ := s_bind hf
  refine s_lz.tr (l_X1_words hh) ?_
  rcases s_ite hf with ⟨-, hf⟩ | ⟨-, hf⟩
  · cases hf
    exact s_le.rf
  · obtain ⟨x3, -, hf⟩ := s_bind hf
    obtain ⟨q4, hh, hf⟩ := s_bind hf
    refine s_lz.tr (l_X1_truthOf hh) ?_
    obtain ⟨q5, hh, hf⟩ := s_bind hf
    refine s_lz.tr (l_J13_bitCount_95d88 hh) ?_
    cases hf
    exact s_le.rf
theorem l_X3_size_s {x : sL} {z : sZ Int32} (hs : S_X3_size x = some z) : s_lz x.2.2 z := by
  obtain ⟨pc, vs, σ⟩ := x
  unfold S_X3_size at hs
  dsimp only at hs ⊢
  rcases s_ite hs with ⟨c, hs⟩ | ⟨-, hs⟩
  · subst c
    unfold U_X3_size_0 at hs
    obtain ⟨a0, g0, hs⟩ := s_bind hs
    obtain ⟨a1, g1, hs⟩ := s_bind hs
    obtain ⟨u9, ge, hs⟩ := s_bind hs
    exact l_X3_size_0 hs
  rcases s_ite hs with ⟨c, hs⟩ | ⟨-, hs⟩
  · subst c
    unfold U_X3_size_4 at hs
    obtain ⟨a0, g0, hs⟩ := s_bind hs
    obtain ⟨a1, g1, hs⟩ := s_bind hs
    obtain ⟨a2, g2, hs⟩ := s_bind hs
    obtain ⟨a3, g3, hs⟩ := s_bind hs
    obtain ⟨u9, ge, hs⟩ := s_bind hs
    exact l_X3_size_4 hs
  cases hs
theorem l_X3_size {v0 : Nat} {v1 : Int32} {σ : sS} {q : Int32 × sS} (h : F_X3_size v0 v1 σ = some q) : s_le σ q.2 := by
  unfold F_X3_size at h
  obtain ⟨-, -, h⟩ := s_bind h
  exact s_run_ind (V := fun x r => s_le x.2.2 r.2) (fun x z r hs hk => by
    have h9 := l_X3_size_s hs
    cases z with
    | inl y => exact s_le.tr h9 hk
    | inr q => cases hk; exact h9) h
theorem b_X3_size {v0 : Nat} {v1 : Int32} {σ : sS} {q : Int32 × sS} (h : F_X3_size v0 v1 σ = some q) : ∃ fs, σ.1 v0 = some (.inr (3, fs)) := by
  unfold F_X3_size at h
  obtain ⟨u, hu, -⟩ := s_bind h
  exact s_is_to hu
set_option maxRecDepth 100000 in
set_option maxHeartbeats 4000000 in
theorem v_X3_size_0 {G : sG} {d : Nat} {vs0 : List Value} {σ0 : sS} {v0 : Nat} {v1 : Int32} {σ : sS} {z : sZ Int32} {r : Int32 × sS} (hf : T_X3_size_0 v0 v1 σ = some z) (k : s_K G (d + 3) M_X3_size vs0 σ0 Y_X3_size e_I z r) : s_V G (d + 3) M_X3_size vs0 σ0 Y_X3_size (0, [.ref v0, .int v1], σ) (e_I r) := by
  have le0 : s_le σ (e_I r).2 := s_lek hem_I (l_X3_size_0 hf) k
  refine ⟨le0, ?_⟩
  intro p e s m below meth c H locs cells slots ls X I hn1 hn2 hl
  have hn : cells + σ0.2.1 ≤ σ.2.1 ∧ slots + σ0.2.2.1 ≤ σ.2.2.1 := ⟨hn1, hn2⟩
  have hl : lv_has ls 4 [(0, .ref v0), (1, .int v1)] := hl
  have hx := X.1
  have hb : c.code = cX3_size := X.2.1
  have hown : s.vm.findClass RX3 = some m.cls := X.2.2.2.2.2.1
  have hts := X.2.2.2.2.2.2.1
  refine W.eq (g2 := F0 m 0 ls []) rfl ?_
  unfold T_X3_size_0 at hf
  cases hf
  have k : s_V G (d + 3) M_X3_size vs0 σ0 Y_X3_size (4, [.ref v0, .int v1, .int 0, .int 0], σ) (e_I r) := k
  refine lv_iconst (v := 0) hx hb dX3_size_0 (by decide) ?_
  refine lv_istore_n (lv' := [(2, .int 0), (0, .ref v0), (1, .int v1)]) hx hb dX3_size_1 rfl hl (by decide) rfl (fun ls hl => ?_)
  refine lv_iconst (v := 0) hx hb dX3_size_2 (by decide) ?_
  refine lv_istore_n (lv' := [(3, .int 0), (2, .int 0), (0, .ref v0), (1, .int v1)]) hx hb dX3_size_3 rfl hl (by decide) rfl (fun ls hl => ?_)
  exact k.2 p e s m below meth c _ _ _ _ _ X I hn.1 hn.2 (lv_sub hl [2, 3, 1, 0] rfl)
set_option maxRecDepth 100000 in
set_option maxHeartbeats 4000000 in
theorem v_X3_size_4 {G : sG} {d : Nat} {vs0 : List Value} {σ0 : sS} {v0 : Nat} {v1 : Int32} {v2 : Int32} {v3 : Int32} {σ : sS} {z : sZ Int32} {r : Int32 × sS} (hf : T_X3_size_4 v0 v1 v2 v3 σ = some z) (k : s_K G (d + 3) M_X3_size vs0 σ0 Y_X3_size e_I z r) : s_V G (d + 3) M_X3_size vs0 σ0 Y_X3_size (4, [.ref v0, .int v1, .int v2, .int v3], σ) (e_I r) := by
  have le0 : s_le σ (e_I r).2 := s_lek hem_I (l_X3_size_4 hf) k
  refine ⟨le0, ?_⟩
  intro p e s m below meth c H locs cells slots ls X I hn1 hn2 hl
  have hn : cells + σ0.2.1 ≤ σ.2.1 ∧ slots + σ0.2.2.1 ≤ σ.2.2.1 := ⟨hn1, hn2⟩
  have hl : lv_has ls 4 [(0, .ref v0), (1, .int v1), (2, .int v2), (3, .int v3)] := hl
  have hx := X.1
  have hb : c.code = cX3_size := X.2.1
  have hown : s.vm.findClass RX3 = some m.cls := X.2.2.2.2.2.1
  have hts := X.2.2.2.2.2.2.1
  refine W.eq (g2 := F0 m 4 ls []) rfl ?_
  unfold T_X3_size_4 at hf
  obtain ⟨x1, h1, hf⟩ := s_bind hf
  obtain ⟨q2, h2, hf⟩ := s_bind hf
  have le3 : s_le q2.2 (e_I r).2 := by
    refine s_lek hem_I ?_ k
    rcases s_ite hf with ⟨-, hf⟩ | ⟨-, hf⟩
    · cases hf
      exact s_le.rf
    · obtain ⟨x3, -, hf⟩ := s_bind hf
      obtain ⟨q4, hh, hf⟩ := s_bind hf
      refine s_lz.tr (l_X1_truthOf hh) ?_
      obtain ⟨q5, hh, hf⟩ := s_bind hf
      refine s_lz.tr (l_J13_bitCount_95d88 hh) ?_
      cases hf
      exact s_le.rf
  refine lv_iload_n hx hb dX3_size_4 rfl (lv_at hl 3 rfl) ?_
  refine lv_aload_n hx hb dX3_size_5 rfl (lv_at hl 0 rfl) ?_
  refine r_gr X I fl_X3_30 h1 dX3_size_6 ?_
  refine r_callV (Y := M_X1_words) (v := some (.int q2.1)) X I w_1077 my_X1_words (by omega) (t_X1_words (G := G) (d := d + 0) h2) (b_X1_words h2) rfl rfl hl.1 rfl (Nat.le_of_ble_eq_true rfl) hn le3 dX3_size_9 (fun H locs cells slots I hn1 hn2 => ?_)
  have I : s_I G q2.2 s H locs := I
  have hn : cells + σ0.2.1 ≤ q2.2.2.1 ∧ slots + σ0.2.2.1 ≤ q2.2.2.2.1 := ⟨hn1, hn2⟩
  rcases s_ite hf with ⟨c4, hf⟩ | ⟨c4, hf⟩
  · refine lv_icmp_ge (tgt := 36) hx hb dX3_size_12 (by decide) (fun _ => ?_) (fun n => absurd c4 n)
    cases hf
    have k : _ = r := k
    subst k
    refine lv_iload_n hx hb dX3_size_36 rfl (lv_at hl 2 rfl) ?_
    exact r_iret X I rfl rfl rfl hn dX3_size_37
  · refine lv_icmp_ge (tgt := 36) hx hb dX3_size_12 (by decide) (fun n => absurd n c4) (fun _ => ?_)
    obtain ⟨x3, h5, hf⟩ := s_bind hf
    obtain ⟨q4, h6, hf⟩ := s_bind hf
    obtain ⟨q5, h7, hf⟩ := s_bind hf
    cases hf
    have k : s_V G (d + 3) M_X3_size vs0 σ0 Y_X3_size (4, [.ref v0, .int v1, .int (v2 + q5.1), .int (v3 + 1)], q5.2) (e_I r) := k
    have le8 : s_le q5.2 (e_I r).2 := k.1
    have le9 := s_le.tr (l_J13_bitCount_95d88 h7) le8
    refine lv_iload_n hx hb dX3_size_15 rfl (lv_at hl 2 rfl) ?_
    refine lv_aload_n hx hb dX3_size_16 rfl (lv_at hl 0 rfl) ?_
    refine r_gr X I fl_X3_30 h5 dX3_size_17 ?_
    refine lv_iload_n hx hb dX3_size_20 rfl (lv_at hl 1 rfl) ?_
    refine lv_iload_n hx hb dX3_size_21 rfl (lv_at hl 3 rfl) ?_
    refine r_callV (Y := M_X1_truthOf) (v := some (.long q4.1)) X I w_1078 my_X1_truthOf (by omega) (t_X1_truthOf (G := G) (d := d + 1) h6) (b_X1_truthOf h6) rfl rfl hl.1 rfl (Nat.le_of_ble_eq_true rfl) hn le9 dX3_size_22 (fun H locs cells slots I hn1 hn2 => ?_)
    have I : s_I G q4.2 s H locs := I
    have hn : cells + σ0.2.1 ≤ q4.2.2.1 ∧ slots + σ0.2.2.1 ≤ q4.2.2.2.1 := ⟨hn1, hn2⟩
    refine r_callS (Y := M_J13_bitCount_95d88) (v := some (.int q5.1)) X I w_1079 my_J13_bitCount_95d88 (by omega) (t_J13_bitCount_95d88 (G := G) (d := d + 1) h7) rfl rfl hl.1 rfl (Nat.le_of_ble_eq_true rfl) hn le8 dX3_size_25 (fun H locs cells slots I hn1 hn2 => ?_)
    have I : s_I G q5.2 s H locs := I
    have hn : cells + σ0.2.1 ≤ q5.2.2.1 ∧ slots + σ0.2.2.1 ≤ q5.2.2.2.1 := ⟨hn1, hn2⟩
    refine lv_iadd hx hb dX3_size_28 ?_
    refine lv_istore_n (lv' := [(2, .int (v2 + q5.1)), (0, .ref v0), (1, .int v1), (3, .int v3)]) hx hb dX3_size_29 rfl hl (by decide) rfl (fun ls hl => ?_)
    refine lv_iinc (v := (v3 + 1)) (lv' := [(3, .int (v3 + 1)), (2, .int (v2 + q5.1)), (0, .ref v0), (1, .int v1)]) hx hb dX3_size_30 hl (k := 3) rfl rfl (by decide) rfl (fun ls hl => ?_)
    refine lv_goto (tgt := 4) hx hb dX3_size_33 (by decide) ?_
    exact k.2 p e s m below meth c _ _ _ _ _ X I hn.1 hn.2 (lv_sub hl [2, 3, 1, 0] rfl)
theorem v_X3_size {G : sG} {d : Nat} {vs0 : List Value} {σ0 : sS} {x : sL} {z : sZ Int32} {r : Int32 × sS} (hs : S_X3_size x = some z) (k : s_K G (d + 3) M_X3_size vs0 σ0 Y_X3_size e_I z r) : s_V G (d + 3) M_X3_size vs0 σ0 Y_X3_size x (e_I r) := by
  obtain ⟨pc, vs, σ⟩ := x
  unfold S_X3_size at hs
  dsimp only at hs
  rcases s_ite hs with ⟨c, hs⟩ | ⟨-, hs⟩
  · subst c
    unfold U_X3_size_0 at hs
    obtain ⟨a0, g0, hs⟩ := s_bind hs
    obtain ⟨a1, g1, hs⟩ := s_bind hs
    obtain ⟨u9, ge, hs⟩ := s_bind hs
    rw [g_r_to g0, g_i_to g1, g_e_to ge]
    exact v_X3_size_0 hs k
  rcases s_ite hs with ⟨c, hs⟩ | ⟨-, hs⟩
  · subst c
    unfold U_X3_size_4 at hs
    obtain ⟨a0, g0, hs⟩ := s_bind hs
    obtain ⟨a1, g1, hs⟩ := s_bind hs
    obtain ⟨a2, g2, hs⟩ := s_bind hs
    obtain ⟨a3, g3, hs⟩ := s_bind hs
    obtain ⟨u9, ge, hs⟩ := s_bind hs
    rw [g_r_to g0, g_i_to g1, g_i_to g2, g_i_to g3, g_e_to ge]
    exact v_X3_size_4 hs k
  cases hs
theorem t_X3_size {G : sG} {d : Nat} {v0 : Nat} {v1 : Int32} {σ : sS} {q : Int32 × sS} (h : F_X3_size v0 v1 σ = some q) : s_T G (d + 3) M_X3_size [.ref v0, .int v1] σ (e_I q) := by
  unfold F_X3_size at h
  obtain ⟨-, -, h⟩ := s_bind h
  exact s_ofV rfl (by decide) (Nat.le_of_ble_eq_true rfl) rfl rfl (s_run_ind (V := fun x r => s_V G (d + 3) M_X3_size [.ref v0, .int v1] σ Y_X3_size x (e_I r)) (fun x z r hs hk => v_X3_size hs (by cases z <;> exact hk)) h)
/-! X7_worlds -/
noncomputable def T_X7_worlds_0 (v0 : Nat) (v1 : Int32) (σ : sS) : Option (sZ (Int32 ⊕ String)) :=
  (F_X7_needFormula v0 v1 σ).bind fun q1 => s_sum q1.1 (fun x2 => (s_fr q1.2 v0 7 4).bind fun x4 =>
  (F_X3_size x4 v1 q1.2).bind fun q5 =>
  some (.inr (.inl q5.1, q5.2))) (fun E3 => some (.inr (.inr E3, q1.2)))
noncomputable def U_X7_worlds_0 (vs : List Value) (σ : sS) : Option (sZ (Int32 ⊕ String)) := (g_r vs).bind fun a0 => (g_i a0.2).bind fun a1 => (g_e a1.2).bind fun _ => T_X7_worlds_0 a0.1 a1.1 σ
noncomputable def S_X7_worlds (x : sL) : Option (sZ (Int32 ⊕ String)) := if x.1 = 0 then U_X7_worlds_0 x.2.1 x.2.2 else none
def Y_X7_worlds (pc : Nat) : List Nat := if pc = 0 then [0, 1] else []
noncomputable def F_X7_worlds (v0 : Nat) (v1 : Int32) (σ : sS) : Option ((Int32 ⊕ String) × sS) := (s_is σ v0 7).bind fun _ => s_run S_X7_worlds (0, [.ref v0, .int v1], σ)
theorem l_X7_worlds_0 {v0 : Nat} {v1 : Int32} {σ : sS} {z : sZ (Int32 ⊕ String)} (hf : T_X7_worlds_0 v0 v1 σ = some z) : s_lz σ z := by
  unfold T_X7_worlds_0 at hf
  obtain ⟨q1, hh, hf⟩ := s_bind hf
  refine s_lz.tr (l_X7_needFormula hh) ?_
  rcases s_sum_some hf with ⟨x2, -, hf⟩ | ⟨E3, -, hf⟩
  · obtain ⟨x4, -, hf⟩ := s_bind hf
    obtain ⟨q5, hh, hf⟩ := s_bind hf
    refine s_lz.tr (l_X3_size hh) ?_
    cases hf
    exact s_le.rf
  · cases hf
    exact s_le.rf
theorem l_X7_worlds_s {x : sL} {z : sZ (Int32 ⊕ String)} (hs : S_X7_worlds x = some z) : s_lz x.2.2 z := by
  obtain ⟨pc, vs, σ⟩ := x
  unfold S_X7_worlds at hs
  dsimp only at hs ⊢
  rcases s_ite hs with ⟨c, hs⟩ | ⟨-, hs⟩
  · subst c
    unfold U_X7_worlds_0 at hs
    obtain ⟨a0, g0, hs⟩ := s_bind hs
    obtain ⟨a1, g1, hs⟩ := s_bind hs
    obtain ⟨u9, ge, hs⟩ := s_bind hs
    exact l_X7_worlds_0 hs
  cases hs
theorem l_X7_worlds {v0 : Nat} {v1 : Int32} {σ : sS} {q : (Int32 ⊕ String) × sS} (h : F_X7_worlds v0 v1 σ = some q) : s_le σ q.2 := by
  unfold F_X7_worlds at h
  obtain ⟨-, -, h⟩ := s_bind h
  exact s_run_ind (V := fun x r => s_le x.2.2 r.2) (fun x z r hs hk => by
    have h9 := l_X7_worlds_s hs
    cases z with
    | inl y => exact s_le.tr h9 hk
    | inr q => cases hk; exact h9) h
theorem b_X7_worlds {v0 : Nat} {v1 : Int32} {σ : sS} {q : (Int32 ⊕ String) × sS} (h : F_X7_worlds v0 v1 σ = some q) : ∃ fs, σ.1 v0 = some (.inr (7, fs)) := by
  unfold F_X7_worlds at h
  obtain ⟨u, hu, -⟩ := s_bind h
  exact s_is_to hu
set_option maxRecDepth 100000 in
set_option maxHeartbeats 4000000 in
theorem v_X7_worlds_0 {G : sG} {d : Nat} {vs0 : List Value} {σ0 : sS} {v0 : Nat} {v1 : Int32} {σ : sS} {z : sZ (Int32 ⊕ String)} {r : (Int32 ⊕ String) × sS} (hf : T_X7_worlds_0 v0 v1 σ = some z) (k : s_K G (d + 4) M_X7_worlds vs0 σ0 Y_X7_worlds e_IX z r) : s_V G (d + 4) M_X7_worlds vs0 σ0 Y_X7_worlds (0, [.ref v0, .int v1], σ) (e_IX r) := by
  have le0 : s_le σ (e_IX r).2 := s_lek hem_IX (l_X7_worlds_0 hf) k
  refine ⟨le0, ?_⟩
  intro p e s m below meth c H locs cells slots ls X I hn1 hn2 hl
  have hn : cells + σ0.2.1 ≤ σ.2.1 ∧ slots + σ0.2.2.1 ≤ σ.2.2.1 := ⟨hn1, hn2⟩
  have hl : lv_has ls 2 [(0, .ref v0), (1, .int v1)] := hl
  have hx := X.1
  have hb : c.code = cX7_worlds := X.2.1
  have hown : s.vm.findClass RX7 = some m.cls := X.2.2.2.2.2.1
  have hts := X.2.2.2.2.2.2.1
  refine W.eq (g2 := F0 m 0 ls []) rfl ?_
  unfold T_X7_worlds_0 at hf
  obtain ⟨q1, h1, hf⟩ := s_bind hf
  refine lv_aload_n hx hb dX7_worlds_0 rfl (lv_at hl 0 rfl) ?_
  refine lv_iload_n hx hb dX7_worlds_1 rfl (lv_at hl 1 rfl) ?_
  rcases s_sum_some hf with ⟨x2, hq2, hf⟩ | ⟨E3, hq2, hf⟩
  · have le3 : s_le q1.2 (e_IX r).2 := by
      refine s_lek hem_IX ?_ k
      obtain ⟨x4, -, hf⟩ := s_bind hf
      obtain ⟨q5, hh, hf⟩ := s_bind hf
      refine s_lz.tr (l_X3_size hh) ?_
      cases hf
      exact s_le.rf
    refine r_callV (Y := M_X7_needFormula) (v := none) X I w_1016 my_X7_needFormula (by omega) (t_X7_needFormula (G := G) (d := d + 2) h1) (b_X7_needFormula h1) (e_VX_l hq2) rfl hl.1 rfl (Nat.le_of_ble_eq_true rfl) hn le3 dX7_worlds_2 (fun H locs cells slots I hn1 hn2 => ?_)
    have I : s_I G q1.2 s H locs := I
    have hn : cells + σ0.2.1 ≤ q1.2.2.1 ∧ slots + σ0.2.2.1 ≤ q1.2.2.2.1 := ⟨hn1, hn2⟩
    obtain ⟨x4, h4, hf⟩ := s_bind hf
    obtain ⟨q5, h5, hf⟩ := s_bind hf
    cases hf
    have k : _ = r := k
    subst k
    have le6 : s_le q5.2 q5.2 := s_le.rf
    refine lv_aload_n hx hb dX7_worlds_5 rfl (lv_at hl 0 rfl) ?_
    refine r_gr X I fl_X7_40 h4 dX7_worlds_6 ?_
    refine lv_iload_n hx hb dX7_worlds_9 rfl (lv_at hl 1 rfl) ?_
    refine r_callV (Y := M_X3_size) (v := some (.int q5.1)) X I w_1073 my_X3_size (by omega) (t_X3_size (G := G) (d := d + 0) h5) (b_X3_size h5) rfl rfl hl.1 rfl (Nat.le_of_ble_eq_true rfl) hn le6 dX7_worlds_10 (fun H locs cells slots I hn1 hn2 => ?_)
    have I : s_I G q5.2 s H locs := I
    have hn : cells + σ0.2.1 ≤ q5.2.2.1 ∧ slots + σ0.2.2.1 ≤ q5.2.2.2.1 := ⟨hn1, hn2⟩
    exact r_iret X I rfl rfl rfl hn dX7_worlds_13
  · cases hf
    have k : _ = r := k
    subst k
    exact r_callVx (Y := M_X7_needFormula) X I rfl w_1016 my_X7_needFormula (by omega) (t_X7_needFormula (G := G) (d := d + 2) h1) (b_X7_needFormula h1) (e_VX_r hq2) rfl hl.1 rfl (Nat.le_of_ble_eq_true rfl) hn rfl dX7_worlds_2
theorem v_X7_worlds {G : sG} {d : Nat} {vs0 : List Value} {σ0 : sS} {x : sL} {z : sZ (Int32 ⊕ String)} {r : (Int32 ⊕ String) × sS} (hs : S_X7_worlds x = some z) (k : s_K G (d + 4) M_X7_worlds vs0 σ0 Y_X7_worlds e_IX z r) : s_V G (d + 4) M_X7_worlds vs0 σ0 Y_X7_worlds x (e_IX r) := by
  obtain ⟨pc, vs, σ⟩ := x
  unfold S_X7_worlds at hs
  dsimp only at hs
  rcases s_ite hs with ⟨c, hs⟩ | ⟨-, hs⟩
  · subst c
    unfold U_X7_worlds_0 at hs
    obtain ⟨a0, g0, hs⟩ := s_bind hs
    obtain ⟨a1, g1, hs⟩ := s_bind hs
    obtain ⟨u9, ge, hs⟩ := s_bind hs
    rw [g_r_to g0, g_i_to g1, g_e_to ge]
    exact v_X7_worlds_0 hs k
  cases hs
theorem t_X7_worlds {G : sG} {d : Nat} {v0 : Nat} {v1 : Int32} {σ : sS} {q : (Int32 ⊕ String) × sS} (h : F_X7_worlds v0 v1 σ = some q) : s_T G (d + 4) M_X7_worlds [.ref v0, .int v1] σ (e_IX q) := by
  unfold F_X7_worlds at h
  obtain ⟨-, -, h⟩ := s_bind h
  exact s_ofV rfl (by decide) (Nat.le_of_ble_eq_true rfl) rfl rfl (s_run_ind (V := fun x r => s_V G (d + 4) M_X7_worlds [.ref v0, .int v1] σ Y_X7_worlds x (e_IX r)) (fun x z r hs hk => v_X7_worlds hs (by cases z <;> exact hk)) h)
/-! L_worlds -/
noncomputable def T_L_worlds_0 (v0 : Nat) (v1 : Int32) (v2 : Nat) (σ : sS) : Option (sZ Int32) :=
  (F_X7_worlds v0 v1 σ).bind fun q1 => s_sum q1.1 (fun x2 => (s_sl q1.2 v2 0 ((x2 : Int32).toInt64)).bind fun σ4 =>
  some (.inr (0, σ4))) (fun E3 => if E3 = "java/lang/IndexOutOfBoundsException" then (some (.inr (1, q1.2))) else none)
noncomputable def U_L_worlds_0 (vs : List Value) (σ : sS) : Option (sZ Int32) := (g_r vs).bind fun a0 => (g_i a0.2).bind fun a1 => (g_r a1.2).bind fun a2 => (g_e a2.2).bind fun _ => T_L_worlds_0 a0.1 a1.1 a2.1 σ
noncomputable def S_L_worlds (x : sL) : Option (sZ Int32) := if x.1 = 0 then U_L_worlds_0 x.2.1 x.2.2 else none
def Y_L_worlds (pc : Nat) : List Nat := if pc = 0 then [0, 1, 2] else []
noncomputable def F_L_worlds (v0 : Nat) (v1 : Int32) (v2 : Nat) (σ : sS) : Option (Int32 × sS) := s_run S_L_worlds (0, [.ref v0, .int v1, .ref v2], σ)
theorem l_L_worlds_0 {v0 : Nat} {v1 : Int32} {v2 : Nat} {σ : sS} {z : sZ Int32} (hf : T_L_worlds_0 v0 v1 v2 σ = some z) : s_lz σ z := by
  unfold T_L_worlds_0 at hf
  obtain ⟨q1, hh, hf⟩ := s_bind hf
  refine s_lz.tr (l_X7_worlds hh) ?_
  rcases s_sum_some hf with ⟨x2, -, hf⟩ | ⟨E3, -, hf⟩
  · obtain ⟨σ4, hh, hf⟩ := s_bind hf
    refine s_lz.tr (s_le2 (s_sl_2 hh)) ?_
    cases hf
    exact s_le.rf
  · rcases s_ite hf with ⟨-, hf⟩ | ⟨-, hf⟩
    · cases hf
      exact s_le.rf
    cases hf
theorem l_L_worlds_s {x : sL} {z : sZ Int32} (hs : S_L_worlds x = some z) : s_lz x.2.2 z := by
  obtain ⟨pc, vs, σ⟩ := x
  unfold S_L_worlds at hs
  dsimp only at hs ⊢
  rcases s_ite hs with ⟨c, hs⟩ | ⟨-, hs⟩
  · subst c
    unfold U_L_worlds_0 at hs
    obtain ⟨a0, g0, hs⟩ := s_bind hs
    obtain ⟨a1, g1, hs⟩ := s_bind hs
    obtain ⟨a2, g2, hs⟩ := s_bind hs
    obtain ⟨u9, ge, hs⟩ := s_bind hs
    exact l_L_worlds_0 hs
  cases hs
theorem l_L_worlds {v0 : Nat} {v1 : Int32} {v2 : Nat} {σ : sS} {q : Int32 × sS} (h : F_L_worlds v0 v1 v2 σ = some q) : s_le σ q.2 := by
  unfold F_L_worlds at h
  exact s_run_ind (V := fun x r => s_le x.2.2 r.2) (fun x z r hs hk => by
    have h9 := l_L_worlds_s hs
    cases z with
    | inl y => exact s_le.tr h9 hk
    | inr q => cases hk; exact h9) h
set_option maxRecDepth 100000 in
set_option maxHeartbeats 4000000 in
theorem v_L_worlds_0 {G : sG} {d : Nat} {vs0 : List Value} {σ0 : sS} {v0 : Nat} {v1 : Int32} {v2 : Nat} {σ : sS} {z : sZ Int32} {r : Int32 × sS} (hf : T_L_worlds_0 v0 v1 v2 σ = some z) (k : s_K G (d + 5) M_L_worlds vs0 σ0 Y_L_worlds e_I z r) : s_V G (d + 5) M_L_worlds vs0 σ0 Y_L_worlds (0, [.ref v0, .int v1, .ref v2], σ) (e_I r) := by
  have le0 : s_le σ (e_I r).2 := s_lek hem_I (l_L_worlds_0 hf) k
  refine ⟨le0, ?_⟩
  intro p e s m below meth c H locs cells slots ls X I hn1 hn2 hl
  have hn : cells + σ0.2.1 ≤ σ.2.1 ∧ slots + σ0.2.2.1 ≤ σ.2.2.1 := ⟨hn1, hn2⟩
  have hl : lv_has ls 4 [(0, .ref v0), (1, .int v1), (2, .ref v2)] := hl
  have hx := X.1
  have hb : c.code = cL_worlds := X.2.1
  have hown : s.vm.findClass RL = some m.cls := X.2.2.2.2.2.1
  have hts := X.2.2.2.2.2.2.1
  refine W.eq (g2 := F0 m 0 ls []) rfl ?_
  unfold T_L_worlds_0 at hf
  obtain ⟨q1, h1, hf⟩ := s_bind hf
  refine lv_aload_n hx hb dL_worlds_0 rfl (lv_at hl 2 rfl) ?_
  refine lv_iconst (v := 0) hx hb dL_worlds_1 (by decide) ?_
  refine lv_aload_n hx hb dL_worlds_2 rfl (lv_at hl 0 rfl) ?_
  refine lv_iload_n hx hb dL_worlds_3 rfl (lv_at hl 1 rfl) ?_
  rcases s_sum_some hf with ⟨x2, hq2, hf⟩ | ⟨E3, hq2, hf⟩
  · have le3 : s_le q1.2 (e_I r).2 := by
      refine s_lek hem_I ?_ k
      obtain ⟨σ4, hh, hf⟩ := s_bind hf
      refine s_lz.tr (s_le2 (s_sl_2 hh)) ?_
      cases hf
      exact s_le.rf
    refine r_callV (Y := M_X7_worlds) (v := some (.int x2)) X I w_1069 my_X7_worlds (by omega) (t_X7_worlds (G := G) (d := d + 0) h1) (b_X7_worlds h1) (e_IX_l hq2) rfl hl.1 rfl (Nat.le_of_ble_eq_true rfl) hn le3 dL_worlds_4 (fun H locs cells slots I hn1 hn2 => ?_)
    have I : s_I G q1.2 s H locs := I
    have hn : cells + σ0.2.1 ≤ q1.2.2.1 ∧ slots + σ0.2.2.1 ≤ q1.2.2.2.1 := ⟨hn1, hn2⟩
    obtain ⟨σ4, h4, hf⟩ := s_bind hf
    cases hf
    have k : _ = r := k
    subst k
    have le5 : s_le σ4 σ4 := s_le.rf
    refine lv_i2l hx hb dL_worlds_7 rfl ?_
    refine r_last X I h4 dL_worlds_8 (fun H locs I => ?_)
    have hn := s_k2 (s_sl_2 h4) hn
    refine lv_goto (tgt := 15) hx hb dL_worlds_9 (by decide) ?_
    refine lv_iconst (v := 0) hx hb dL_worlds_15 (by decide) ?_
    exact r_iret X I rfl rfl rfl hn dL_worlds_16
  · rcases s_ite hf with ⟨c6, hf⟩ | ⟨c6, hf⟩
    · subst c6
      have le7 : s_le q1.2 (e_I r).2 := by
        refine s_lek hem_I ?_ k
        cases hf
        exact s_le.rf
      refine r_callVh (x := (0, 9, 12, 27)) (Y := M_X7_worlds) (E := "java/lang/IndexOutOfBoundsException") (name := "java/lang/IndexOutOfBoundsException") X I [] [] rfl (fun z hz => by cases hz) rfl (by decide) w_1011 (by decide +kernel) w_1069 my_X7_worlds (by omega) (t_X7_worlds (G := G) (d := d + 0) h1) (b_X7_worlds h1) (e_IX_r hq2) rfl hl.1 rfl (Nat.le_of_ble_eq_true rfl) hn le7 dL_worlds_4 (fun a5 H locs cells slots I hn1 hn2 => ?_)
      have I : s_I G q1.2 s H locs := I
      have hn : cells + σ0.2.1 ≤ q1.2.2.1 ∧ slots + σ0.2.2.1 ≤ q1.2.2.2.1 := ⟨hn1, hn2⟩
      cases hf
      have k : _ = r := k
      subst k
      refine lv_astore_n (lv' := [(3, .ref a5), (0, .ref v0), (1, .int v1), (2, .ref v2)]) hx hb dL_worlds_12 rfl hl (by decide) rfl (fun ls hl => ?_)
      refine lv_iconst (v := 1) hx hb dL_worlds_13 (by decide) ?_
      exact r_iret X I rfl rfl rfl hn dL_worlds_14
    cases hf
theorem v_L_worlds {G : sG} {d : Nat} {vs0 : List Value} {σ0 : sS} {x : sL} {z : sZ Int32} {r : Int32 × sS} (hs : S_L_worlds x = some z) (k : s_K G (d + 5) M_L_worlds vs0 σ0 Y_L_worlds e_I z r) : s_V G (d + 5) M_L_worlds vs0 σ0 Y_L_worlds x (e_I r) := by
  obtain ⟨pc, vs, σ⟩ := x
  unfold S_L_worlds at hs
  dsimp only at hs
  rcases s_ite hs with ⟨c, hs⟩ | ⟨-, hs⟩
  · subst c
    unfold U_L_worlds_0 at hs
    obtain ⟨a0, g0, hs⟩ := s_bind hs
    obtain ⟨a1, g1, hs⟩ := s_bind hs
    obtain ⟨a2, g2, hs⟩ := s_bind hs
    obtain ⟨u9, ge, hs⟩ := s_bind hs
    rw [g_r_to g0, g_i_to g1, g_r_to g2, g_e_to ge]
    exact v_L_worlds_0 hs k
  cases hs
theorem t_L_worlds {G : sG} {d : Nat} {v0 : Nat} {v1 : Int32} {v2 : Nat} {σ : sS} {q : Int32 × sS} (h : F_L_worlds v0 v1 v2 σ = some q) : s_T G (d + 5) M_L_worlds [.ref v0, .int v1, .ref v2] σ (e_I q) := by
  unfold F_L_worlds at h
  exact s_ofVH rfl (by decide) (Nat.le_of_ble_eq_true rfl) rfl rfl (s_run_ind (V := fun x r => s_V G (d + 5) M_L_worlds [.ref v0, .int v1, .ref v2] σ Y_L_worlds x (e_I r)) (fun x z r hs hk => v_L_worlds hs (by cases z <;> exact hk)) h)
/-! X8_worlds -/
noncomputable def T_X8_worlds_0 (v0 : Nat) (v1 : Int32) (σ : sS) : Option (sZ Int32) :=
  (s_pf σ v0 8 0 (.int 0)).bind fun σ1 =>
  (F_X8_noFormula v0 v1 σ1).bind fun q2 =>
  (F_X8_throwsIf v0 q2.1 1 q2.2).bind fun q3 =>
  if q3.1 = 0 then (some (.inl (24, [.ref v0, .int v1, .int 0, .int 0], q3.2)))
  else (some (.inr (0, q3.2)))
noncomputable def U_X8_worlds_0 (vs : List Value) (σ : sS) : Option (sZ Int32) := (g_r vs).bind fun a0 => (g_i a0.2).bind fun a1 => (g_e a1.2).bind fun _ => T_X8_worlds_0 a0.1 a1.1 σ
noncomputable def T_X8_worlds_24 (v0 : Nat) (v1 : Int32) (v2 : Int32) (v3 : Int32) (σ : sS) : Option (sZ Int32) :=
  (F_X8_worldsMany v0 σ).bind fun q1 =>
  if q1.1 ≤ v3 then (some (.inr (v2, q1.2)))
  else ((F_X8_isTrue v0 v1 v3 q1.2).bind fun q2 =>
  if q2.1 = 0 then (some (.inl (47, [.ref v0, .int v1, .int v3, .int 0, .int v2], q2.2)))
  else (some (.inl (47, [.ref v0, .int v1, .int v3, .int 1, .int v2], q2.2))))
noncomputable def U_X8_worlds_24 (vs : List Value) (σ : sS) : Option (sZ Int32) := (g_r vs).bind fun a0 => (g_i a0.2).bind fun a1 => (g_i a1.2).bind fun a2 => (g_i a2.2).bind fun a3 => (g_e a3.2).bind fun _ => T_X8_worlds_24 a0.1 a1.1 a2.1 a3.1 σ
noncomputable def T_X8_worlds_47 (v0 : Nat) (v1 : Int32) (v3 : Int32) (w0 : Int32) (w1 : Int32) (σ : sS) : Option (sZ Int32) :=
  some (.inl (24, [.ref v0, .int v1, .int (w1 + w0), .int (v3 + 1)], σ))
noncomputable def U_X8_worlds_47 (vs : List Value) (σ : sS) : Option (sZ Int32) := (g_r vs).bind fun a0 => (g_i a0.2).bind fun a1 => (g_i a1.2).bind fun a2 => (g_i a2.2).bind fun a3 => (g_i a3.2).bind fun a4 => (g_e a4.2).bind fun _ => T_X8_worlds_47 a0.1 a1.1 a2.1 a3.1 a4.1 σ
noncomputable def S_X8_worlds (x : sL) : Option (sZ Int32) := if x.1 = 0 then U_X8_worlds_0 x.2.1 x.2.2 else if x.1 = 24 then U_X8_worlds_24 x.2.1 x.2.2 else if x.1 = 47 then U_X8_worlds_47 x.2.1 x.2.2 else none
def Y_X8_worlds (pc : Nat) : List Nat := if pc = 0 then [0, 1] else if pc = 24 then [0, 1, 2, 3] else if pc = 47 then [0, 1, 3] else []
noncomputable def F_X8_worlds (v0 : Nat) (v1 : Int32) (σ : sS) : Option (Int32 × sS) := (s_is σ v0 8).bind fun _ => s_run S_X8_worlds (0, [.ref v0, .int v1], σ)
theorem l_X8_worlds_0 {v0 : Nat} {v1 : Int32} {σ : sS} {z : sZ Int32} (hf : T_X8_worlds_0 v0 v1 σ = some z) : s_lz σ z := by
  unfold T_X8_worlds_0 at hf
  obtain ⟨σ1, hh, hf⟩ := s_bind hf
  refine s_lz.tr (s_le2 (s_pf_2 hh)) ?_
  obtain ⟨q2, hh, hf⟩ := s_bind hf
  refine s_lz.tr (l_X8_noFormula hh) ?_
  obtain ⟨q3, hh, hf⟩ := s_bind hf
  refine s_lz.tr (l_X8_throwsIf hh) ?_
  rcases s_ite hf with ⟨-, hf⟩ | ⟨-, hf⟩
  · cases hf
    exact s_le.rf
  · cases hf
    exact s_le.rf
theorem l_X8_worlds_24 {v0 : Nat} {v1 : Int32} {v2 : Int32} {v3 : Int32} {σ : sS} {z : sZ Int32} (hf : T_X8_worlds_24 v0 v1 v2 v3 σ = some z) : s_lz σ z := by
  unfold T_X8_worlds_24 at hf
  obtain ⟨q1, hh, hf⟩ := s_bind hf
  refine s_lz.tr (l_X8_worldsMany hh) ?_
  rcases s_ite hf with ⟨-, hf⟩ | ⟨-, hf⟩
  · cases hf
    exact s_le.rf
  · obtain ⟨q2, hh, hf⟩ := s_bind hf
    refine s_lz.tr (l_X8_isTrue hh) ?_
    rcases s_ite hf with ⟨-, hf⟩ | ⟨-, hf⟩
    · cases hf
      exact s_le.rf
    · cases hf
      exact s_le.rf
theorem l_X8_worlds_47 {v0 : Nat} {v1 : Int32} {v3 : Int32} {w0 : Int32} {w1 : Int32} {σ : sS} {z : sZ Int32} (hf : T_X8_worlds_47 v0 v1 v3 w0 w1 σ = some z) : s_lz σ z := by
  unfold T_X8_worlds_47 at hf
  cases hf
  exact s_le.rf
theorem l_X8_worlds_s {x : sL} {z : sZ Int32} (hs : S_X8_worlds x = some z) : s_lz x.2.2 z := by
  obtain ⟨pc, vs, σ⟩ := x
  unfold S_X8_worlds at hs
  dsimp only at hs ⊢
  rcases s_ite hs with ⟨c, hs⟩ | ⟨-, hs⟩
  · subst c
    unfold U_X8_worlds_0 at hs
    obtain ⟨a0, g0, hs⟩ := s_bind hs
    obtain ⟨a1, g1, hs⟩ := s_bind hs
    obtain ⟨u9, ge, hs⟩ := s_bind hs
    exact l_X8_worlds_0 hs
  rcases s_ite hs with ⟨c, hs⟩ | ⟨-, hs⟩
  · subst c
    unfold U_X8_worlds_24 at hs
    obtain ⟨a0, g0, hs⟩ := s_bind hs
    obtain ⟨a1, g1, hs⟩ := s_bind hs
    obtain ⟨a2, g2, hs⟩ := s_bind hs
    obtain ⟨a3, g3, hs⟩ := s_bind hs
    obtain ⟨u9, ge, hs⟩ := s_bind hs
    exact l_X8_worlds_24 hs
  rcases s_ite hs with ⟨c, hs⟩ | ⟨-, hs⟩
  · subst c
    unfold U_X8_worlds_47 at hs
    obtain ⟨a0, g0, hs⟩ := s_bind hs
    obtain ⟨a1, g1, hs⟩ := s_bind hs
    obtain ⟨a2, g2, hs⟩ := s_bind hs
    obtain ⟨a3, g3, hs⟩ := s_bind hs
    obtain ⟨a4, g4, hs⟩ := s_bind hs
    obtain ⟨u9, ge, hs⟩ := s_bind hs
    exact l_X8_worlds_47 hs
  cases hs
theorem l_X8_worlds {v0 : Nat} {v1 : Int32} {σ : sS} {q : Int32 × sS} (h : F_X8_worlds v0 v1 σ = some q) : s_le σ q.2 := by
  unfold F_X8_worlds at h
  obtain ⟨-, -, h⟩ := s_bind h
  exact s_run_ind (V := fun x r => s_le x.2.2 r.2) (fun x z r hs hk => by
    have h9 := l_X8_worlds_s hs
    cases z with
    | inl y => exact s_le.tr h9 hk
    | inr q => cases hk; exact h9) h
theorem b_X8_worlds {v0 : Nat} {v1 : Int32} {σ : sS} {q : Int32 × sS} (h : F_X8_worlds v0 v1 σ = some q) : ∃ fs, σ.1 v0 = some (.inr (8, fs)) := by
  unfold F_X8_worlds at h
  obtain ⟨u, hu, -⟩ := s_bind h
  exact s_is_to hu
set_option maxRecDepth 100000 in
set_option maxHeartbeats 4000000 in
theorem v_X8_worlds_0 {G : sG} {d : Nat} {vs0 : List Value} {σ0 : sS} {v0 : Nat} {v1 : Int32} {σ : sS} {z : sZ Int32} {r : Int32 × sS} (hf : T_X8_worlds_0 v0 v1 σ = some z) (k : s_K G (d + 4) M_X8_worlds vs0 σ0 Y_X8_worlds e_I z r) : s_V G (d + 4) M_X8_worlds vs0 σ0 Y_X8_worlds (0, [.ref v0, .int v1], σ) (e_I r) := by
  have le0 : s_le σ (e_I r).2 := s_lek hem_I (l_X8_worlds_0 hf) k
  refine ⟨le0, ?_⟩
  intro p e s m below meth c H locs cells slots ls X I hn1 hn2 hl
  have hn : cells + σ0.2.1 ≤ σ.2.1 ∧ slots + σ0.2.2.1 ≤ σ.2.2.1 := ⟨hn1, hn2⟩
  have hl : lv_has ls 4 [(0, .ref v0), (1, .int v1)] := hl
  have hx := X.1
  have hb : c.code = cX8_worlds := X.2.1
  have hown : s.vm.findClass RX8 = some m.cls := X.2.2.2.2.2.1
  have hts := X.2.2.2.2.2.2.1
  refine W.eq (g2 := F0 m 0 ls []) rfl ?_
  unfold T_X8_worlds_0 at hf
  obtain ⟨σ1, h1, hf⟩ := s_bind hf
  obtain ⟨q2, h2, hf⟩ := s_bind hf
  obtain ⟨q3, h3, hf⟩ := s_bind hf
  have le4 : s_le q3.2 (e_I r).2 := by
    refine s_lek hem_I ?_ k
    rcases s_ite hf with ⟨-, hf⟩ | ⟨-, hf⟩
    · cases hf
      exact s_le.rf
    · cases hf
      exact s_le.rf
  have le5 := s_le.tr (l_X8_throwsIf h3) le4
  have le6 := s_le.tr (l_X8_noFormula h2) le5
  refine lv_aload_n hx hb dX8_worlds_0 rfl (lv_at hl 0 rfl) ?_
  refine lv_iconst (v := 0) hx hb dX8_worlds_1 (by decide) ?_
  refine r_put X I fp_X8_3 (fun h => by cases h) h1 rfl rfl dX8_worlds_2 (fun H locs I => ?_)
  have hn := s_k2 (s_pf_2 h1) hn
  refine lv_aload_n hx hb dX8_worlds_5 rfl (lv_at hl 0 rfl) ?_
  refine lv_aload_n hx hb dX8_worlds_6 rfl (lv_at hl 0 rfl) ?_
  refine lv_iload_n hx hb dX8_worlds_7 rfl (lv_at hl 1 rfl) ?_
  refine r_callV (Y := M_X8_noFormula) (v := some (.int q2.1)) X I w_1916 my_X8_noFormula (by omega) (t_X8_noFormula (G := G) (d := d + 1) h2) (b_X8_noFormula h2) rfl rfl hl.1 rfl (Nat.le_of_ble_eq_true rfl) hn le5 dX8_worlds_8 (fun H locs cells slots I hn1 hn2 => ?_)
  have I : s_I G q2.2 s H locs := I
  have hn : cells + σ0.2.1 ≤ q2.2.2.1 ∧ slots + σ0.2.2.1 ≤ q2.2.2.2.1 := ⟨hn1, hn2⟩
  refine lv_iconst (v := 1) hx hb dX8_worlds_11 (by decide) ?_
  refine r_callV (Y := M_X8_throwsIf) (v := some (.int q3.1)) X I w_1897 my_X8_throwsIf (by omega) (t_X8_throwsIf (G := G) (d := d + 2) h3) (b_X8_throwsIf h3) rfl rfl hl.1 rfl (Nat.le_of_ble_eq_true rfl) hn le4 dX8_worlds_12 (fun H locs cells slots I hn1 hn2 => ?_)
  have I : s_I G q3.2 s H locs := I
  have hn : cells + σ0.2.1 ≤ q3.2.2.1 ∧ slots + σ0.2.2.1 ≤ q3.2.2.2.1 := ⟨hn1, hn2⟩
  rcases s_ite hf with ⟨c7, hf⟩ | ⟨c7, hf⟩
  · refine lv_if_eq (tgt := 20) hx hb dX8_worlds_15 (by decide) (fun _ => ?_) (fun n => absurd c7 n)
    cases hf
    have k : s_V G (d + 4) M_X8_worlds vs0 σ0 Y_X8_worlds (24, [.ref v0, .int v1, .int 0, .int 0], q3.2) (e_I r) := k
    refine lv_iconst (v := 0) hx hb dX8_worlds_20 (by decide) ?_
    refine lv_istore_n (lv' := [(2, .int 0), (0, .ref v0), (1, .int v1)]) hx hb dX8_worlds_21 rfl hl (by decide) rfl (fun ls hl => ?_)
    refine lv_iconst (v := 0) hx hb dX8_worlds_22 (by decide) ?_
    refine lv_istore_n (lv' := [(3, .int 0), (2, .int 0), (0, .ref v0), (1, .int v1)]) hx hb dX8_worlds_23 rfl hl (by decide) rfl (fun ls hl => ?_)
    exact k.2 p e s m below meth c _ _ _ _ _ X I hn.1 hn.2 (lv_sub hl [2, 3, 1, 0] rfl)
  · refine lv_if_eq (tgt := 20) hx hb dX8_worlds_15 (by decide) (fun n => absurd n c7) (fun _ => ?_)
    cases hf
    have k : _ = r := k
    subst k
    refine lv_iconst (v := 0) hx hb dX8_worlds_18 (by decide) ?_
    exact r_iret X I rfl rfl rfl hn dX8_worlds_19
set_option maxRecDepth 100000 in
set_option maxHeartbeats 4000000 in
theorem v_X8_worlds_24 {G : sG} {d : Nat} {vs0 : List Value} {σ0 : sS} {v0 : Nat} {v1 : Int32} {v2 : Int32} {v3 : Int32} {σ : sS} {z : sZ Int32} {r : Int32 × sS} (hf : T_X8_worlds_24 v0 v1 v2 v3 σ = some z) (k : s_K G (d + 4) M_X8_worlds vs0 σ0 Y_X8_worlds e_I z r) : s_V G (d + 4) M_X8_worlds vs0 σ0 Y_X8_worlds (24, [.ref v0, .int v1, .int v2, .int v3], σ) (e_I r) := by
  have le0 : s_le σ (e_I r).2 := s_lek hem_I (l_X8_worlds_24 hf) k
  refine ⟨le0, ?_⟩
  intro p e s m below meth c H locs cells slots ls X I hn1 hn2 hl
  have hn : cells + σ0.2.1 ≤ σ.2.1 ∧ slots + σ0.2.2.1 ≤ σ.2.2.1 := ⟨hn1, hn2⟩
  have hl : lv_has ls 4 [(0, .ref v0), (1, .int v1), (2, .int v2), (3, .int v3)] := hl
  have hx := X.1
  have hb : c.code = cX8_worlds := X.2.1
  have hown : s.vm.findClass RX8 = some m.cls := X.2.2.2.2.2.1
  have hts := X.2.2.2.2.2.2.1
  refine W.eq (g2 := F0 m 24 ls []) rfl ?_
  unfold T_X8_worlds_24 at hf
  obtain ⟨q1, h1, hf⟩ := s_bind hf
  have le2 : s_le q1.2 (e_I r).2 := by
    refine s_lek hem_I ?_ k
    rcases s_ite hf with ⟨-, hf⟩ | ⟨-, hf⟩
    · cases hf
      exact s_le.rf
    · obtain ⟨q2, hh, hf⟩ := s_bind hf
      refine s_lz.tr (l_X8_isTrue hh) ?_
      rcases s_ite hf with ⟨-, hf⟩ | ⟨-, hf⟩
      · cases hf
        exact s_le.rf
      · cases hf
        exact s_le.rf
  refine lv_iload_n hx hb dX8_worlds_24 rfl (lv_at hl 3 rfl) ?_
  refine lv_aload_n hx hb dX8_worlds_25 rfl (lv_at hl 0 rfl) ?_
  refine r_callV (Y := M_X8_worldsMany) (v := some (.int q1.1)) X I w_1943 my_X8_worldsMany (by omega) (t_X8_worldsMany (G := G) (d := d + 1) h1) (b_X8_worldsMany h1) rfl rfl hl.1 rfl (Nat.le_of_ble_eq_true rfl) hn le2 dX8_worlds_26 (fun H locs cells slots I hn1 hn2 => ?_)
  have I : s_I G q1.2 s H locs := I
  have hn : cells + σ0.2.1 ≤ q1.2.2.1 ∧ slots + σ0.2.2.1 ≤ q1.2.2.2.1 := ⟨hn1, hn2⟩
  rcases s_ite hf with ⟨c3, hf⟩ | ⟨c3, hf⟩
  · refine lv_icmp_ge (tgt := 55) hx hb dX8_worlds_29 (by decide) (fun _ => ?_) (fun n => absurd c3 n)
    cases hf
    have k : _ = r := k
    subst k
    refine lv_iload_n hx hb dX8_worlds_55 rfl (lv_at hl 2 rfl) ?_
    exact r_iret X I rfl rfl rfl hn dX8_worlds_56
  · refine lv_icmp_ge (tgt := 55) hx hb dX8_worlds_29 (by decide) (fun n => absurd n c3) (fun _ => ?_)
    obtain ⟨q2, h4, hf⟩ := s_bind hf
    have le5 : s_le q2.2 (e_I r).2 := by
      refine s_lek hem_I ?_ k
      rcases s_ite hf with ⟨-, hf⟩ | ⟨-, hf⟩
      · cases hf
        exact s_le.rf
      · cases hf
        exact s_le.rf
    refine lv_iload_n hx hb dX8_worlds_32 rfl (lv_at hl 2 rfl) ?_
    refine lv_aload_n hx hb dX8_worlds_33 rfl (lv_at hl 0 rfl) ?_
    refine lv_iload_n hx hb dX8_worlds_34 rfl (lv_at hl 1 rfl) ?_
    refine lv_iload_n hx hb dX8_worlds_35 rfl (lv_at hl 3 rfl) ?_
    refine r_callV (Y := M_X8_isTrue) (v := some (.int q2.1)) X I w_1947 my_X8_isTrue (by omega) (t_X8_isTrue (G := G) (d := d + 0) h4) (b_X8_isTrue h4) rfl rfl hl.1 rfl (Nat.le_of_ble_eq_true rfl) hn le5 dX8_worlds_36 (fun H locs cells slots I hn1 hn2 => ?_)
    have I : s_I G q2.2 s H locs := I
    have hn : cells + σ0.2.1 ≤ q2.2.2.1 ∧ slots + σ0.2.2.1 ≤ q2.2.2.2.1 := ⟨hn1, hn2⟩
    rcases s_ite hf with ⟨c6, hf⟩ | ⟨c6, hf⟩
    · refine lv_if_eq (tgt := 46) hx hb dX8_worlds_39 (by decide) (fun _ => ?_) (fun n => absurd c6 n)
      cases hf
      have k : s_V G (d + 4) M_X8_worlds vs0 σ0 Y_X8_worlds (47, [.ref v0, .int v1, .int v3, .int 0, .int v2], q2.2) (e_I r) := k
      refine lv_iconst (v := 0) hx hb dX8_worlds_46 (by decide) ?_
      exact k.2 p e s m below meth c _ _ _ _ _ X I hn.1 hn.2 (lv_sub hl [0, 1, 3] rfl)
    · refine lv_if_eq (tgt := 46) hx hb dX8_worlds_39 (by decide) (fun n => absurd n c6) (fun _ => ?_)
      cases hf
      have k : s_V G (d + 4) M_X8_worlds vs0 σ0 Y_X8_worlds (47, [.ref v0, .int v1, .int v3, .int 1, .int v2], q2.2) (e_I r) := k
      refine lv_iconst (v := 1) hx hb dX8_worlds_42 (by decide) ?_
      refine lv_goto (tgt := 47) hx hb dX8_worlds_43 (by decide) ?_
      exact k.2 p e s m below meth c _ _ _ _ _ X I hn.1 hn.2 (lv_sub hl [0, 1, 3] rfl)
set_option maxRecDepth 100000 in
set_option maxHeartbeats 4000000 in
theorem v_X8_worlds_47 {G : sG} {d : Nat} {vs0 : List Value} {σ0 : sS} {v0 : Nat} {v1 : Int32} {v3 : Int32} {w0 : Int32} {w1 : Int32} {σ : sS} {z : sZ Int32} {r : Int32 × sS} (hf : T_X8_worlds_47 v0 v1 v3 w0 w1 σ = some z) (k : s_K G (d + 4) M_X8_worlds vs0 σ0 Y_X8_worlds e_I z r) : s_V G (d + 4) M_X8_worlds vs0 σ0 Y_X8_worlds (47, [.ref v0, .int v1, .int v3, .int w0, .int w1], σ) (e_I r) := by
  have le0 : s_le σ (e_I r).2 := s_lek hem_I (l_X8_worlds_47 hf) k
  refine ⟨le0, ?_⟩
  intro p e s m below meth c H locs cells slots ls X I hn1 hn2 hl
  have hn : cells + σ0.2.1 ≤ σ.2.1 ∧ slots + σ0.2.2.1 ≤ σ.2.2.1 := ⟨hn1, hn2⟩
  have hl : lv_has ls 4 [(0, .ref v0), (1, .int v1), (3, .int v3)] := hl
  have hx := X.1
  have hb : c.code = cX8_worlds := X.2.1
  have hown : s.vm.findClass RX8 = some m.cls := X.2.2.2.2.2.1
  have hts := X.2.2.2.2.2.2.1
  refine W.eq (g2 := F0 m 47 ls [.int w0, .int w1]) rfl ?_
  unfold T_X8_worlds_47 at hf
  cases hf
  have k : s_V G (d + 4) M_X8_worlds vs0 σ0 Y_X8_worlds (24, [.ref v0, .int v1, .int (w1 + w0), .int (v3 + 1)], σ) (e_I r) := k
  refine lv_iadd hx hb dX8_worlds_47 ?_
  refine lv_istore_n (lv' := [(2, .int (w1 + w0)), (0, .ref v0), (1, .int v1), (3, .int v3)]) hx hb dX8_worlds_48 rfl hl (by decide) rfl (fun ls hl => ?_)
  refine lv_iinc (v := (v3 + 1)) (lv' := [(3, .int (v3 + 1)), (2, .int (w1 + w0)), (0, .ref v0), (1, .int v1)]) hx hb dX8_worlds_49 hl (k := 3) rfl rfl (by decide) rfl (fun ls hl => ?_)
  refine lv_goto (tgt := 24) hx hb dX8_worlds_52 (by decide) ?_
  exact k.2 p e s m below meth c _ _ _ _ _ X I hn.1 hn.2 (lv_sub hl [2, 3, 1, 0] rfl)
theorem v_X8_worlds {G : sG} {d : Nat} {vs0 : List Value} {σ0 : sS} {x : sL} {z : sZ Int32} {r : Int32 × sS} (hs : S_X8_worlds x = some z) (k : s_K G (d + 4) M_X8_worlds vs0 σ0 Y_X8_worlds e_I z r) : s_V G (d + 4) M_X8_worlds vs0 σ0 Y_X8_worlds x (e_I r) := by
  obtain ⟨pc, vs, σ⟩ := x
  unfold S_X8_worlds at hs
  dsimp only at hs
  rcases s_ite hs with ⟨c, hs⟩ | ⟨-, hs⟩
  · subst c
    unfold U_X8_worlds_0 at hs
    obtain ⟨a0, g0, hs⟩ := s_bind hs
    obtain ⟨a1, g1, hs⟩ := s_bind hs
    obtain ⟨u9, ge, hs⟩ := s_bind hs
    rw [g_r_to g0, g_i_to g1, g_e_to ge]
    exact v_X8_worlds_0 hs k
  rcases s_ite hs with ⟨c, hs⟩ | ⟨-, hs⟩
  · subst c
    unfold U_X8_worlds_24 at hs
    obtain ⟨a0, g0, hs⟩ := s_bind hs
    obtain ⟨a1, g1, hs⟩ := s_bind hs
    obtain ⟨a2, g2, hs⟩ := s_bind hs
    obtain ⟨a3, g3, hs⟩ := s_bind hs
    obtain ⟨u9, ge, hs⟩ := s_bind hs
    rw [g_r_to g0, g_i_to g1, g_i_to g2, g_i_to g3, g_e_to ge]
    exact v_X8_worlds_24 hs k
  rcases s_ite hs with ⟨c, hs⟩ | ⟨-, hs⟩
  · subst c
    unfold U_X8_worlds_47 at hs
    obtain ⟨a0, g0, hs⟩ := s_bind hs
    obtain ⟨a1, g1, hs⟩ := s_bind hs
    obtain ⟨a2, g2, hs⟩ := s_bind hs
    obtain ⟨a3, g3, hs⟩ := s_bind hs
    obtain ⟨a4, g4, hs⟩ := s_bind hs
    obtain ⟨u9, ge, hs⟩ := s_bind hs
    rw [g_r_to g0, g_i_to g1, g_i_to g2, g_i_to g3, g_i_to g4, g_e_to ge]
    exact v_X8_worlds_47 hs k
  cases hs
theorem t_X8_worlds {G : sG} {d : Nat} {v0 : Nat} {v1 : Int32} {σ : sS} {q : Int32 × sS} (h : F_X8_worlds v0 v1 σ = some q) : s_T G (d + 4) M_X8_worlds [.ref v0, .int v1] σ (e_I q) := by
  unfold F_X8_worlds at h
  obtain ⟨-, -, h⟩ := s_bind h
  exact s_ofV rfl (by decide) (Nat.le_of_ble_eq_true rfl) rfl rfl (s_run_ind (V := fun x r => s_V G (d + 4) M_X8_worlds [.ref v0, .int v1] σ Y_X8_worlds x (e_I r)) (fun x z r hs hk => v_X8_worlds hs (by cases z <;> exact hk)) h)
/-! X7_rules -/
noncomputable def T_X7_rules_0 (v0 : Nat) (v1 : Int32) (v2 : Int32) (σ : sS) : Option (sZ (Int32 ⊕ String)) :=
  (F_X7_needHouse v0 v1 σ).bind fun q1 => s_sum q1.1 (fun x2 => if v2 < 0 then (some (.inr (.inr "java/lang/IllegalArgumentException", s_ex q1.2)))
  else (if v2 ≤ 65535 then ((s_fr q1.2 v0 7 1).bind fun x4 =>
  (s_fr q1.2 x4 1 4).bind fun x5 =>
  (s_ai q1.2 x5 v1).bind fun x6 =>
  (s_fr q1.2 v0 7 1).bind fun x7 =>
  (s_fr q1.2 x7 1 4).bind fun x8 =>
  (s_si q1.2 x8 v1 v2).bind fun σ9 =>
  some (.inr (.inl x6, σ9)))
  else (some (.inr (.inr "java/lang/IllegalArgumentException", s_ex q1.2))))) (fun E3 => some (.inr (.inr E3, q1.2)))
noncomputable def U_X7_rules_0 (vs : List Value) (σ : sS) : Option (sZ (Int32 ⊕ String)) := (g_r vs).bind fun a0 => (g_i a0.2).bind fun a1 => (g_i a1.2).bind fun a2 => (g_e a2.2).bind fun _ => T_X7_rules_0 a0.1 a1.1 a2.1 σ
noncomputable def S_X7_rules (x : sL) : Option (sZ (Int32 ⊕ String)) := if x.1 = 0 then U_X7_rules_0 x.2.1 x.2.2 else none
def Y_X7_rules (pc : Nat) : List Nat := if pc = 0 then [0, 1, 2] else []
noncomputable def F_X7_rules (v0 : Nat) (v1 : Int32) (v2 : Int32) (σ : sS) : Option ((Int32 ⊕ String) × sS) := (s_is σ v0 7).bind fun _ => s_run S_X7_rules (0, [.ref v0, .int v1, .int v2], σ)
theorem l_X7_rules_0 {v0 : Nat} {v1 : Int32} {v2 : Int32} {σ : sS} {z : sZ (Int32 ⊕ String)} (hf : T_X7_rules_0 v0 v1 v2 σ = some z) : s_lz σ z := by
  unfold T_X7_rules_0 at hf
  obtain ⟨q1, hh, hf⟩ := s_bind hf
  refine s_lz.tr (l_X7_needHouse hh) ?_
  rcases s_sum_some hf with ⟨x2, -, hf⟩ | ⟨E3, -, hf⟩
  · rcases s_ite hf with ⟨-, hf⟩ | ⟨-, hf⟩
    · cases hf
      exact s_ex_le
    · rcases s_ite hf with ⟨-, hf⟩ | ⟨-, hf⟩
      · obtain ⟨x4, -, hf⟩ := s_bind hf
        obtain ⟨x5, -, hf⟩ := s_bind hf
        obtain ⟨x6, -, hf⟩ := s_bind hf
        obtain ⟨x7, -, hf⟩ := s_bind hf
        obtain ⟨x8, -, hf⟩ := s_bind hf
        obtain ⟨σ9, hh, hf⟩ := s_bind hf
        refine s_lz.tr (s_le2 (s_si_2 hh)) ?_
        cases hf
        exact s_le.rf
      · cases hf
        exact s_ex_le
  · cases hf
    exact s_le.rf
theorem l_X7_rules_s {x : sL} {z : sZ (Int32 ⊕ String)} (hs : S_X7_rules x = some z) : s_lz x.2.2 z := by
  obtain ⟨pc, vs, σ⟩ := x
  unfold S_X7_rules at hs
  dsimp only at hs ⊢
  rcases s_ite hs with ⟨c, hs⟩ | ⟨-, hs⟩
  · subst c
    unfold U_X7_rules_0 at hs
    obtain ⟨a0, g0, hs⟩ := s_bind hs
    obtain ⟨a1, g1, hs⟩ := s_bind hs
    obtain ⟨a2, g2, hs⟩ := s_bind hs
    obtain ⟨u9, ge, hs⟩ := s_bind hs
    exact l_X7_rules_0 hs
  cases hs
theorem l_X7_rules {v0 : Nat} {v1 : Int32} {v2 : Int32} {σ : sS} {q : (Int32 ⊕ String) × sS} (h : F_X7_rules v0 v1 v2 σ = some q) : s_le σ q.2 := by
  unfold F_X7_rules at h
  obtain ⟨-, -, h⟩ := s_bind h
  exact s_run_ind (V := fun x r => s_le x.2.2 r.2) (fun x z r hs hk => by
    have h9 := l_X7_rules_s hs
    cases z with
    | inl y => exact s_le.tr h9 hk
    | inr q => cases hk; exact h9) h
theorem b_X7_rules {v0 : Nat} {v1 : Int32} {v2 : Int32} {σ : sS} {q : (Int32 ⊕ String) × sS} (h : F_X7_rules v0 v1 v2 σ = some q) : ∃ fs, σ.1 v0 = some (.inr (7, fs)) := by
  unfold F_X7_rules at h
  obtain ⟨u, hu, -⟩ := s_bind h
  exact s_is_to hu
set_option maxRecDepth 100000 in
set_option maxHeartbeats 4000000 in
theorem v_X7_rules_0 {G : sG} {d : Nat} {vs0 : List Value} {σ0 : sS} {v0 : Nat} {v1 : Int32} {v2 : Int32} {σ : sS} {z : sZ (Int32 ⊕ String)} {r : (Int32 ⊕ String) × sS} (hf : T_X7_rules_0 v0 v1 v2 σ = some z) (k : s_K G (d + 2) M_X7_rules vs0 σ0 Y_X7_rules e_IX z r) : s_V G (d + 2) M_X7_rules vs0 σ0 Y_X7_rules (0, [.ref v0, .int v1, .int v2], σ) (e_IX r) := by
  have le0 : s_le σ (e_IX r).2 := s_lek hem_IX (l_X7_rules_0 hf) k
  refine ⟨le0, ?_⟩
  intro p e s m below meth c H locs cells slots ls X I hn1 hn2 hl
  have hn : cells + σ0.2.1 ≤ σ.2.1 ∧ slots + σ0.2.2.1 ≤ σ.2.2.1 := ⟨hn1, hn2⟩
  have hl : lv_has ls 4 [(0, .ref v0), (1, .int v1), (2, .int v2)] := hl
  have hx := X.1
  have hb : c.code = cX7_rules := X.2.1
  have hown : s.vm.findClass RX7 = some m.cls := X.2.2.2.2.2.1
  have hts := X.2.2.2.2.2.2.1
  refine W.eq (g2 := F0 m 0 ls []) rfl ?_
  unfold T_X7_rules_0 at hf
  obtain ⟨q1, h1, hf⟩ := s_bind hf
  refine lv_aload_n hx hb dX7_rules_0 rfl (lv_at hl 0 rfl) ?_
  refine lv_iload_n hx hb dX7_rules_1 rfl (lv_at hl 1 rfl) ?_
  rcases s_sum_some hf with ⟨x2, hq2, hf⟩ | ⟨E3, hq2, hf⟩
  · have le3 : s_le q1.2 (e_IX r).2 := by
      refine s_lek hem_IX ?_ k
      rcases s_ite hf with ⟨-, hf⟩ | ⟨-, hf⟩
      · cases hf
        exact s_ex_le
      · rcases s_ite hf with ⟨-, hf⟩ | ⟨-, hf⟩
        · obtain ⟨x4, -, hf⟩ := s_bind hf
          obtain ⟨x5, -, hf⟩ := s_bind hf
          obtain ⟨x6, -, hf⟩ := s_bind hf
          obtain ⟨x7, -, hf⟩ := s_bind hf
          obtain ⟨x8, -, hf⟩ := s_bind hf
          obtain ⟨σ9, hh, hf⟩ := s_bind hf
          refine s_lz.tr (s_le2 (s_si_2 hh)) ?_
          cases hf
          exact s_le.rf
        · cases hf
          exact s_ex_le
    refine r_callV (Y := M_X7_needHouse) (v := none) X I w_1087 my_X7_needHouse (by omega) (t_X7_needHouse (G := G) (d := d + 0) h1) (b_X7_needHouse h1) (e_VX_l hq2) rfl hl.1 rfl (Nat.le_of_ble_eq_true rfl) hn le3 dX7_rules_2 (fun H locs cells slots I hn1 hn2 => ?_)
    have I : s_I G q1.2 s H locs := I
    have hn : cells + σ0.2.1 ≤ q1.2.2.1 ∧ slots + σ0.2.2.1 ≤ q1.2.2.2.1 := ⟨hn1, hn2⟩
    refine lv_iload_n hx hb dX7_rules_5 rfl (lv_at hl 2 rfl) ?_
    rcases s_ite hf with ⟨c4, hf⟩ | ⟨c4, hf⟩
    · refine lv_if_lt (tgt := 15) hx hb dX7_rules_6 (by decide) (fun _ => ?_) (fun n => absurd c4 n)
      cases hf
      have k : _ = r := k
      subst k
      exact r_throw X I rfl th_X7_96_150 hl.1 (Nat.le_of_ble_eq_true rfl) hn rfl dX7_rules_15 dX7_rules_18 dX7_rules_19 dX7_rules_21 dX7_rules_24
    · refine lv_if_lt (tgt := 15) hx hb dX7_rules_6 (by decide) (fun n => absurd n c4) (fun _ => ?_)
      refine lv_iload_n hx hb dX7_rules_9 rfl (lv_at hl 2 rfl) ?_
      refine lv_ldc (own := RX7) hx hb hown (hts _ w_1092) dX7_rules_10 ?_
      rcases s_ite hf with ⟨c5, hf⟩ | ⟨c5, hf⟩
      · refine lv_icmp_le (tgt := 25) hx hb dX7_rules_12 (by decide) (fun _ => ?_) (fun n => absurd c5 n)
        obtain ⟨x4, h6, hf⟩ := s_bind hf
        obtain ⟨x5, h7, hf⟩ := s_bind hf
        obtain ⟨x6, h8, hf⟩ := s_bind hf
        obtain ⟨x7, h9, hf⟩ := s_bind hf
        obtain ⟨x8, h10, hf⟩ := s_bind hf
        obtain ⟨σ9, h11, hf⟩ := s_bind hf
        cases hf
        have k : _ = r := k
        subst k
        have le12 : s_le σ9 σ9 := s_le.rf
        refine lv_aload_n hx hb dX7_rules_25 rfl (lv_at hl 0 rfl) ?_
        refine r_gr X I fl_X7_19 h6 dX7_rules_26 ?_
        refine r_gr X I fl_X7_152 h7 dX7_rules_29 ?_
        refine lv_iload_n hx hb dX7_rules_32 rfl (lv_at hl 1 rfl) ?_
        refine r_iald X I h8 dX7_rules_33 ?_
        refine lv_istore_n (lv' := [(3, .int x6), (0, .ref v0), (1, .int v1), (2, .int v2)]) hx hb dX7_rules_34 rfl hl (by decide) rfl (fun ls hl => ?_)
        refine lv_aload_n hx hb dX7_rules_35 rfl (lv_at hl 1 rfl) ?_
        refine r_gr X I fl_X7_19 h9 dX7_rules_36 ?_
        refine r_gr X I fl_X7_152 h10 dX7_rules_39 ?_
        refine lv_iload_n hx hb dX7_rules_42 rfl (lv_at hl 2 rfl) ?_
        refine lv_iload_n hx hb dX7_rules_43 rfl (lv_at hl 3 rfl) ?_
        refine r_iast X I h11 dX7_rules_44 (fun H locs I => ?_)
        have hn := s_k2 (s_si_2 h11) hn
        refine lv_iload_n hx hb dX7_rules_45 rfl (lv_at hl 0 rfl) ?_
        exact r_iret X I rfl rfl rfl hn dX7_rules_46
      · refine lv_icmp_le (tgt := 25) hx hb dX7_rules_12 (by decide) (fun n => absurd n c5) (fun _ => ?_)
        cases hf
        have k : _ = r := k
        subst k
        exact r_throw X I rfl th_X7_96_150 hl.1 (Nat.le_of_ble_eq_true rfl) hn rfl dX7_rules_15 dX7_rules_18 dX7_rules_19 dX7_rules_21 dX7_rules_24
  · cases hf
    have k : _ = r := k
    subst k
    exact r_callVx (Y := M_X7_needHouse) X I rfl w_1087 my_X7_needHouse (by omega) (t_X7_needHouse (G := G) (d := d + 0) h1) (b_X7_needHouse h1) (e_VX_r hq2) rfl hl.1 rfl (Nat.le_of_ble_eq_true rfl) hn rfl dX7_rules_2
theorem v_X7_rules {G : sG} {d : Nat} {vs0 : List Value} {σ0 : sS} {x : sL} {z : sZ (Int32 ⊕ String)} {r : (Int32 ⊕ String) × sS} (hs : S_X7_rules x = some z) (k : s_K G (d + 2) M_X7_rules vs0 σ0 Y_X7_rules e_IX z r) : s_V G (d + 2) M_X7_rules vs0 σ0 Y_X7_rules x (e_IX r) := by
  obtain ⟨pc, vs, σ⟩ := x
  unfold S_X7_rules at hs
  dsimp only at hs
  rcases s_ite hs with ⟨c, hs⟩ | ⟨-, hs⟩
  · subst c
    unfold U_X7_rules_0 at hs
    obtain ⟨a0, g0, hs⟩ := s_bind hs
    obtain ⟨a1, g1, hs⟩ := s_bind hs
    obtain ⟨a2, g2, hs⟩ := s_bind hs
    obtain ⟨u9, ge, hs⟩ := s_bind hs
    rw [g_r_to g0, g_i_to g1, g_i_to g2, g_e_to ge]
    exact v_X7_rules_0 hs k
  cases hs
theorem t_X7_rules {G : sG} {d : Nat} {v0 : Nat} {v1 : Int32} {v2 : Int32} {σ : sS} {q : (Int32 ⊕ String) × sS} (h : F_X7_rules v0 v1 v2 σ = some q) : s_T G (d + 2) M_X7_rules [.ref v0, .int v1, .int v2] σ (e_IX q) := by
  unfold F_X7_rules at h
  obtain ⟨-, -, h⟩ := s_bind h
  exact s_ofV rfl (by decide) (Nat.le_of_ble_eq_true rfl) rfl rfl (s_run_ind (V := fun x r => s_V G (d + 2) M_X7_rules [.ref v0, .int v1, .int v2] σ Y_X7_rules x (e_IX r)) (fun x z r hs hk => v_X7_rules hs (by cases z <;> exact hk)) h)
/-! L_rules -/
noncomputable def T_L_rules_0 (v0 : Nat) (v1 : Int32) (v2 : Int32) (v3 : Nat) (σ : sS) : Option (sZ Int32) :=
  (F_X7_rules v0 v1 v2 σ).bind fun q1 => s_sum q1.1 (fun x2 => (s_sl q1.2 v3 0 ((x2 : Int32).toInt64)).bind fun σ4 =>
  some (.inr (0, σ4))) (fun E3 => if E3 = "java/lang/IndexOutOfBoundsException" then (some (.inr (1, q1.2))) else if E3 = "java/lang/IllegalArgumentException" then (some (.inr (2, q1.2))) else none)
noncomputable def U_L_rules_0 (vs : List Value) (σ : sS) : Option (sZ Int32) := (g_r vs).bind fun a0 => (g_i a0.2).bind fun a1 => (g_i a1.2).bind fun a2 => (g_r a2.2).bind fun a3 => (g_e a3.2).bind fun _ => T_L_rules_0 a0.1 a1.1 a2.1 a3.1 σ
noncomputable def S_L_rules (x : sL) : Option (sZ Int32) := if x.1 = 0 then U_L_rules_0 x.2.1 x.2.2 else none
def Y_L_rules (pc : Nat) : List Nat := if pc = 0 then [0, 1, 2, 3] else []
noncomputable def F_L_rules (v0 : Nat) (v1 : Int32) (v2 : Int32) (v3 : Nat) (σ : sS) : Option (Int32 × sS) := s_run S_L_rules (0, [.ref v0, .int v1, .int v2, .ref v3], σ)
theorem hp_L_rules_5_1 : s_pass RL "java/lang/IllegalArgumentException" 5 [(0, 10, 13, 27)] := fun z hz => by
  simp only [List.mem_cons, List.not_mem_nil, or_false] at hz
  rcases hz with rfl
  · exact ⟨rfl, by decide, "java/lang/IndexOutOfBoundsException", w_1011, by decide +kernel⟩
theorem l_L_rules_0 {v0 : Nat} {v1 : Int32} {v2 : Int32} {v3 : Nat} {σ : sS} {z : sZ Int32} (hf : T_L_rules_0 v0 v1 v2 v3 σ = some z) : s_lz σ z := by
  unfold T_L_rules_0 at hf
  obtain ⟨q1, hh, hf⟩ := s_bind hf
  refine s_lz.tr (l_X7_rules hh) ?_
  rcases s_sum_some hf with ⟨x2, -, hf⟩ | ⟨E3, -, hf⟩
  · obtain ⟨σ4, hh, hf⟩ := s_bind hf
    refine s_lz.tr (s_le2 (s_sl_2 hh)) ?_
    cases hf
    exact s_le.rf
  · rcases s_ite hf with ⟨-, hf⟩ | ⟨-, hf⟩
    · cases hf
      exact s_le.rf
    rcases s_ite hf with ⟨-, hf⟩ | ⟨-, hf⟩
    · cases hf
      exact s_le.rf
    cases hf
theorem l_L_rules_s {x : sL} {z : sZ Int32} (hs : S_L_rules x = some z) : s_lz x.2.2 z := by
  obtain ⟨pc, vs, σ⟩ := x
  unfold S_L_rules at hs
  dsimp only at hs ⊢
  rcases s_ite hs with ⟨c, hs⟩ | ⟨-, hs⟩
  · subst c
    unfold U_L_rules_0 at hs
    obtain ⟨a0, g0, hs⟩ := s_bind hs
    obtain ⟨a1, g1, hs⟩ := s_bind hs
    obtain ⟨a2, g2, hs⟩ := s_bind hs
    obtain ⟨a3, g3, hs⟩ := s_bind hs
    obtain ⟨u9, ge, hs⟩ := s_bind hs
    exact l_L_rules_0 hs
  cases hs
theorem l_L_rules {v0 : Nat} {v1 : Int32} {v2 : Int32} {v3 : Nat} {σ : sS} {q : Int32 × sS} (h : F_L_rules v0 v1 v2 v3 σ = some q) : s_le σ q.2 := by
  unfold F_L_rules at h
  exact s_run_ind (V := fun x r => s_le x.2.2 r.2) (fun x z r hs hk => by
    have h9 := l_L_rules_s hs
    cases z with
    | inl y => exact s_le.tr h9 hk
    | inr q => cases hk; exact h9) h
set_option maxRecDepth 100000 in
set_option maxHeartbeats 4000000 in
theorem v_L_rules_0 {G : sG} {d : Nat} {vs0 : List Value} {σ0 : sS} {v0 : Nat} {v1 : Int32} {v2 : Int32} {v3 : Nat} {σ : sS} {z : sZ Int32} {r : Int32 × sS} (hf : T_L_rules_0 v0 v1 v2 v3 σ = some z) (k : s_K G (d + 3) M_L_rules vs0 σ0 Y_L_rules e_I z r) : s_V G (d + 3) M_L_rules vs0 σ0 Y_L_rules (0, [.ref v0, .int v1, .int v2, .ref v3], σ) (e_I r) := by
  have le0 : s_le σ (e_I r).2 := s_lek hem_I (l_L_rules_0 hf) k
  refine ⟨le0, ?_⟩
  intro p e s m below meth c H locs cells slots ls X I hn1 hn2 hl
  have hn : cells + σ0.2.1 ≤ σ.2.1 ∧ slots + σ0.2.2.1 ≤ σ.2.2.1 := ⟨hn1, hn2⟩
  have hl : lv_has ls 5 [(0, .ref v0), (1, .int v1), (2, .int v2), (3, .ref v3)] := hl
  have hx := X.1
  have hb : c.code = cL_rules := X.2.1
  have hown : s.vm.findClass RL = some m.cls := X.2.2.2.2.2.1
  have hts := X.2.2.2.2.2.2.1
  refine W.eq (g2 := F0 m 0 ls []) rfl ?_
  unfold T_L_rules_0 at hf
  obtain ⟨q1, h1, hf⟩ := s_bind hf
  refine lv_aload_n hx hb dL_rules_0 rfl (lv_at hl 3 rfl) ?_
  refine lv_iconst (v := 0) hx hb dL_rules_1 (by decide) ?_
  refine lv_aload_n hx hb dL_rules_2 rfl (lv_at hl 0 rfl) ?_
  refine lv_iload_n hx hb dL_rules_3 rfl (lv_at hl 1 rfl) ?_
  refine lv_iload_n hx hb dL_rules_4 rfl (lv_at hl 2 rfl) ?_
  rcases s_sum_some hf with ⟨x2, hq2, hf⟩ | ⟨E3, hq2, hf⟩
  · have le3 : s_le q1.2 (e_I r).2 := by
      refine s_lek hem_I ?_ k
      obtain ⟨σ4, hh, hf⟩ := s_bind hf
      refine s_lz.tr (s_le2 (s_sl_2 hh)) ?_
      cases hf
      exact s_le.rf
    refine r_callV (Y := M_X7_rules) (v := some (.int x2)) X I w_1083 my_X7_rules (by omega) (t_X7_rules (G := G) (d := d + 0) h1) (b_X7_rules h1) (e_IX_l hq2) rfl hl.1 rfl (Nat.le_of_ble_eq_true rfl) hn le3 dL_rules_5 (fun H locs cells slots I hn1 hn2 => ?_)
    have I : s_I G q1.2 s H locs := I
    have hn : cells + σ0.2.1 ≤ q1.2.2.1 ∧ slots + σ0.2.2.1 ≤ q1.2.2.2.1 := ⟨hn1, hn2⟩
    obtain ⟨σ4, h4, hf⟩ := s_bind hf
    cases hf
    have k : _ = r := k
    subst k
    have le5 : s_le σ4 σ4 := s_le.rf
    refine lv_i2l hx hb dL_rules_8 rfl ?_
    refine r_last X I h4 dL_rules_9 (fun H locs I => ?_)
    have hn := s_k2 (s_sl_2 h4) hn
    refine lv_goto (tgt := 21) hx hb dL_rules_10 (by decide) ?_
    refine lv_iconst (v := 0) hx hb dL_rules_21 (by decide) ?_
    exact r_iret X I rfl rfl rfl hn dL_rules_22
  · rcases s_ite hf with ⟨c6, hf⟩ | ⟨c6, hf⟩
    · subst c6
      have le7 : s_le q1.2 (e_I r).2 := by
        refine s_lek hem_I ?_ k
        cases hf
        exact s_le.rf
      refine r_callVh (x := (0, 10, 13, 27)) (Y := M_X7_rules) (E := "java/lang/IndexOutOfBoundsException") (name := "java/lang/IndexOutOfBoundsException") X I [] [(0, 10, 17, 13)] rfl (fun z hz => by cases hz) rfl (by decide) w_1011 (by decide +kernel) w_1083 my_X7_rules (by omega) (t_X7_rules (G := G) (d := d + 0) h1) (b_X7_rules h1) (e_IX_r hq2) rfl hl.1 rfl (Nat.le_of_ble_eq_true rfl) hn le7 dL_rules_5 (fun a5 H locs cells slots I hn1 hn2 => ?_)
      have I : s_I G q1.2 s H locs := I
      have hn : cells + σ0.2.1 ≤ q1.2.2.1 ∧ slots + σ0.2.2.1 ≤ q1.2.2.2.1 := ⟨hn1, hn2⟩
      cases hf
      have k : _ = r := k
      subst k
      refine lv_astore (lv' := [(4, .ref a5), (0, .ref v0), (1, .int v1), (2, .int v2), (3, .ref v3)]) hx hb dL_rules_13 hl (by decide) rfl (fun ls hl => ?_)
      refine lv_iconst (v := 1) hx hb dL_rules_15 (by decide) ?_
      exact r_iret X I rfl rfl rfl hn dL_rules_16
    rcases s_ite hf with ⟨c8, hf⟩ | ⟨c8, hf⟩
    · subst c8
      have le9 : s_le q1.2 (e_I r).2 := by
        refine s_lek hem_I ?_ k
        cases hf
        exact s_le.rf
      refine r_callVh (x := (0, 10, 17, 13)) (Y := M_X7_rules) (E := "java/lang/IllegalArgumentException") (name := "java/lang/IllegalArgumentException") X I [(0, 10, 13, 27)] [] rfl hp_L_rules_5_1 rfl (by decide) w_691 (by decide +kernel) w_1083 my_X7_rules (by omega) (t_X7_rules (G := G) (d := d + 0) h1) (b_X7_rules h1) (e_IX_r hq2) rfl hl.1 rfl (Nat.le_of_ble_eq_true rfl) hn le9 dL_rules_5 (fun a6 H locs cells slots I hn1 hn2 => ?_)
      have I : s_I G q1.2 s H locs := I
      have hn : cells + σ0.2.1 ≤ q1.2.2.1 ∧ slots + σ0.2.2.1 ≤ q1.2.2.2.1 := ⟨hn1, hn2⟩
      cases hf
      have k : _ = r := k
      subst k
      refine lv_astore (lv' := [(4, .ref a6), (0, .ref v0), (1, .int v1), (2, .int v2), (3, .ref v3)]) hx hb dL_rules_17 hl (by decide) rfl (fun ls hl => ?_)
      refine lv_iconst (v := 2) hx hb dL_rules_19 (by decide) ?_
      exact r_iret X I rfl rfl rfl hn dL_rules_20
    cases hf
theorem v_L_rules {G : sG} {d : Nat} {vs0 : List Value} {σ0 : sS} {x : sL} {z : sZ Int32} {r : Int32 × sS} (hs : S_L_rules x = some z) (k : s_K G (d + 3) M_L_rules vs0 σ0 Y_L_rules e_I z r) : s_V G (d + 3) M_L_rules vs0 σ0 Y_L_rules x (e_I r) := by
  obtain ⟨pc, vs, σ⟩ := x
  unfold S_L_rules at hs
  dsimp only at hs
  rcases s_ite hs with ⟨c, hs⟩ | ⟨-, hs⟩
  · subst c
    unfold U_L_rules_0 at hs
    obtain ⟨a0, g0, hs⟩ := s_bind hs
    obtain ⟨a1, g1, hs⟩ := s_bind hs
    obtain ⟨a2, g2, hs⟩ := s_bind hs
    obtain ⟨a3, g3, hs⟩ := s_bind hs
    obtain ⟨u9, ge, hs⟩ := s_bind hs
    rw [g_r_to g0, g_i_to g1, g_i_to g2, g_r_to g3, g_e_to ge]
    exact v_L_rules_0 hs k
  cases hs
theorem t_L_rules {G : sG} {d : Nat} {v0 : Nat} {v1 : Int32} {v2 : Int32} {v3 : Nat} {σ : sS} {q : Int32 × sS} (h : F_L_rules v0 v1 v2 v3 σ = some q) : s_T G (d + 3) M_L_rules [.ref v0, .int v1, .int v2, .ref v3] σ (e_I q) := by
  unfold F_L_rules at h
  exact s_ofVH rfl (by decide) (Nat.le_of_ble_eq_true rfl) rfl rfl (s_run_ind (V := fun x r => s_V G (d + 3) M_L_rules [.ref v0, .int v1, .int v2, .ref v3] σ Y_L_rules x (e_I r)) (fun x z r hs hk => v_L_rules hs (by cases z <;> exact hk)) h)
/-! X8_noHouse -/
noncomputable def T_X8_noHouse_0 (v0 : Int32) (σ : sS) : Option (sZ Int32) :=
  (F_X8_in v0 0 2 σ).bind fun q1 =>
  if q1.1 = 0 then (some (.inr (1, q1.2)))
  else (some (.inr (0, q1.2)))
noncomputable def U_X8_noHouse_0 (vs : List Value) (σ : sS) : Option (sZ Int32) := (g_i vs).bind fun a0 => (g_e a0.2).bind fun _ => T_X8_noHouse_0 a0.1 σ
noncomputable def S_X8_noHouse (x : sL) : Option (sZ Int32) := if x.1 = 0 then U_X8_noHouse_0 x.2.1 x.2.2 else none
def Y_X8_noHouse (pc : Nat) : List Nat := if pc = 0 then [0] else []
noncomputable def F_X8_noHouse (v0 : Int32) (σ : sS) : Option (Int32 × sS) := s_run S_X8_noHouse (0, [.int v0], σ)
theorem l_X8_noHouse_0 {v0 : Int32} {σ : sS} {z : sZ Int32} (hf : T_X8_noHouse_0 v0 σ = some z) : s_lz σ z := by
  unfold T_X8_noHouse_0 at hf
  obtain ⟨q1, hh, hf⟩ := s_bind hf
  refine s_lz.tr (l_X8_in hh) ?_
  rcases s_ite hf with ⟨-, hf⟩ | ⟨-, hf⟩
  · cases hf
    exact s_le.rf
  · cases hf
    exact s_le.rf
theorem l_X8_noHouse_s {x : sL} {z : sZ Int32} (hs : S_X8_noHouse x = some z) : s_lz x.2.2 z := by
  obtain ⟨pc, vs, σ⟩ := x
  unfold S_X8_noHouse at hs
  dsimp only at hs ⊢
  rcases s_ite hs with ⟨c, hs⟩ | ⟨-, hs⟩
  · subst c
    unfold U_X8_noHouse_0 at hs
    obtain ⟨a0, g0, hs⟩ := s_bind hs
    obtain ⟨u9, ge, hs⟩ := s_bind hs
    exact l_X8_noHouse_0 hs
  cases hs
theorem l_X8_noHouse {v0 : Int32} {σ : sS} {q : Int32 × sS} (h : F_X8_noHouse v0 σ = some q) : s_le σ q.2 := by
  unfold F_X8_noHouse at h
  exact s_run_ind (V := fun x r => s_le x.2.2 r.2) (fun x z r hs hk => by
    have h9 := l_X8_noHouse_s hs
    cases z with
    | inl y => exact s_le.tr h9 hk
    | inr q => cases hk; exact h9) h
set_option maxRecDepth 100000 in
set_option maxHeartbeats 4000000 in
theorem v_X8_noHouse_0 {G : sG} {d : Nat} {vs0 : List Value} {σ0 : sS} {v0 : Int32} {σ : sS} {z : sZ Int32} {r : Int32 × sS} (hf : T_X8_noHouse_0 v0 σ = some z) (k : s_K G (d + 2) M_X8_noHouse vs0 σ0 Y_X8_noHouse e_I z r) : s_V G (d + 2) M_X8_noHouse vs0 σ0 Y_X8_noHouse (0, [.int v0], σ) (e_I r) := by
  have le0 : s_le σ (e_I r).2 := s_lek hem_I (l_X8_noHouse_0 hf) k
  refine ⟨le0, ?_⟩
  intro p e s m below meth c H locs cells slots ls X I hn1 hn2 hl
  have hn : cells + σ0.2.1 ≤ σ.2.1 ∧ slots + σ0.2.2.1 ≤ σ.2.2.1 := ⟨hn1, hn2⟩
  have hl : lv_has ls 1 [(0, .int v0)] := hl
  have hx := X.1
  have hb : c.code = cX8_noHouse := X.2.1
  have hown : s.vm.findClass RX8 = some m.cls := X.2.2.2.2.2.1
  have hts := X.2.2.2.2.2.2.1
  refine W.eq (g2 := F0 m 0 ls []) rfl ?_
  unfold T_X8_noHouse_0 at hf
  obtain ⟨q1, h1, hf⟩ := s_bind hf
  have le2 : s_le q1.2 (e_I r).2 := by
    refine s_lek hem_I ?_ k
    rcases s_ite hf with ⟨-, hf⟩ | ⟨-, hf⟩
    · cases hf
      exact s_le.rf
    · cases hf
      exact s_le.rf
  refine lv_iload_n hx hb dX8_noHouse_0 rfl (lv_at hl 0 rfl) ?_
  refine lv_iconst (v := 0) hx hb dX8_noHouse_1 (by decide) ?_
  refine lv_iconst (v := 2) hx hb dX8_noHouse_2 (by decide) ?_
  refine r_callS (Y := M_X8_in) (v := some (.int q1.1)) X I w_1909 my_X8_in (by omega) (t_X8_in (G := G) (d := d + 0) h1) rfl rfl hl.1 rfl (Nat.le_of_ble_eq_true rfl) hn le2 dX8_noHouse_3 (fun H locs cells slots I hn1 hn2 => ?_)
  have I : s_I G q1.2 s H locs := I
  have hn : cells + σ0.2.1 ≤ q1.2.2.1 ∧ slots + σ0.2.2.1 ≤ q1.2.2.2.1 := ⟨hn1, hn2⟩
  rcases s_ite hf with ⟨c3, hf⟩ | ⟨c3, hf⟩
  · refine lv_if_ne (tgt := 13) hx hb dX8_noHouse_6 (by decide) (fun n => absurd c3 n) (fun _ => ?_)
    cases hf
    have k : _ = r := k
    subst k
    refine lv_iconst (v := 1) hx hb dX8_noHouse_9 (by decide) ?_
    refine lv_goto (tgt := 14) hx hb dX8_noHouse_10 (by decide) ?_
    exact r_iret X I rfl rfl rfl hn dX8_noHouse_14
  · refine lv_if_ne (tgt := 13) hx hb dX8_noHouse_6 (by decide) (fun _ => ?_) (fun n => absurd n c3)
    cases hf
    have k : _ = r := k
    subst k
    refine lv_iconst (v := 0) hx hb dX8_noHouse_13 (by decide) ?_
    exact r_iret X I rfl rfl rfl hn dX8_noHouse_14
theorem v_X8_noHouse {G : sG} {d : Nat} {vs0 : List Value} {σ0 : sS} {x : sL} {z : sZ Int32} {r : Int32 × sS} (hs : S_X8_noHouse x = some z) (k : s_K G (d + 2) M_X8_noHouse vs0 σ0 Y_X8_noHouse e_I z r) : s_V G (d + 2) M_X8_noHouse vs0 σ0 Y_X8_noHouse x (e_I r) := by
  obtain ⟨pc, vs, σ⟩ := x
  unfold S_X8_noHouse at hs
  dsimp only at hs
  rcases s_ite hs with ⟨c, hs⟩ | ⟨-, hs⟩
  · subst c
    unfold U_X8_noHouse_0 at hs
    obtain ⟨a0, g0, hs⟩ := s_bind hs
    obtain ⟨u9, ge, hs⟩ := s_bind hs
    rw [g_i_to g0, g_e_to ge]
    exact v_X8_noHouse_0 hs k
  cases hs
theorem t_X8_noHouse {G : sG} {d : Nat} {v0 : Int32} {σ : sS} {q : Int32 × sS} (h : F_X8_noHouse v0 σ = some q) : s_T G (d + 2) M_X8_noHouse [.int v0] σ (e_I q) := by
  unfold F_X8_noHouse at h
  exact s_ofV rfl (by decide) (Nat.le_of_ble_eq_true rfl) rfl rfl (s_run_ind (V := fun x r => s_V G (d + 2) M_X8_noHouse [.int v0] σ Y_X8_noHouse x (e_I r)) (fun x z r hs hk => v_X8_noHouse hs (by cases z <;> exact hk)) h)
