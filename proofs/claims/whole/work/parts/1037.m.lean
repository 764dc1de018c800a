/-! X8_more -/
noncomputable def T_X8_more_0 (v0 : Nat) (v1 : Int32) (v2 : Int32) (σ : sS) : Option (sZ Int32) :=
  (s_pf σ v0 8 0 (.int 0)).bind fun σ1 =>
  (F_X8_noCustomer v1 σ1).bind fun q2 =>
  if q2.1 = 0 then ((F_X8_noFormula v0 v2 q2.2).bind fun q3 =>
  if q3.1 = 0 then (some (.inl (26, [.ref v0, .int v1, .int v2, .int 0, .ref v0], q3.2)))
  else (some (.inl (21, [.ref v0, .int v1, .int v2, .ref v0], q3.2))))
  else (some (.inl (21, [.ref v0, .int v1, .int v2, .ref v0], q2.2)))
noncomputable def U_X8_more_0 (vs : List Value) (σ : sS) : Option (sZ Int32) := (g_r vs).bind fun a0 => (g_i a0.2).bind fun a1 => (g_i a1.2).bind fun a2 => (g_e a2.2).bind fun _ => T_X8_more_0 a0.1 a1.1 a2.1 σ
noncomputable def T_X8_more_21 (v0 : Nat) (v1 : Int32) (v2 : Int32) (w0 : Nat) (σ : sS) : Option (sZ Int32) :=
  some (.inl (26, [.ref v0, .int v1, .int v2, .int 1, .ref w0], σ))
noncomputable def U_X8_more_21 (vs : List Value) (σ : sS) : Option (sZ Int32) := (g_r vs).bind fun a0 => (g_i a0.2).bind fun a1 => (g_i a1.2).bind fun a2 => (g_r a2.2).bind fun a3 => (g_e a3.2).bind fun _ => T_X8_more_21 a0.1 a1.1 a2.1 a3.1 σ
noncomputable def T_X8_more_26 (v0 : Nat) (v1 : Int32) (v2 : Int32) (w0 : Int32) (w1 : Nat) (σ : sS) : Option (sZ Int32) :=
  (F_X8_throwsIf w1 w0 1 σ).bind fun q1 =>
  if q1.1 = 0 then ((F_X8_worldsOfAll v0 q1.2).bind fun q2 =>
  some (.inl (41, [.ref v0, .int v1, .int v2, .int 0], q2.2)))
  else (some (.inr (0, q1.2)))
noncomputable def U_X8_more_26 (vs : List Value) (σ : sS) : Option (sZ Int32) := (g_r vs).bind fun a0 => (g_i a0.2).bind fun a1 => (g_i a1.2).bind fun a2 => (g_i a2.2).bind fun a3 => (g_r a3.2).bind fun a4 => (g_e a4.2).bind fun _ => T_X8_more_26 a0.1 a1.1 a2.1 a3.1 a4.1 σ
noncomputable def T_X8_more_41 (v0 : Nat) (v1 : Int32) (v2 : Int32) (v3 : Int32) (σ : sS) : Option (sZ Int32) :=
  if (32 : Int32) ≤ v3 then (some (.inl (66, [.ref v0, .int v1, .int v2, .int 0], σ)))
  else ((s_fr σ v0 8 21).bind fun x1 =>
  (s_si σ x1 (960 + v3) 0).bind fun σ2 =>
  some (.inl (41, [.ref v0, .int v1, .int v2, .int (v3 + 1)], σ2)))
noncomputable def U_X8_more_41 (vs : List Value) (σ : sS) : Option (sZ Int32) := (g_r vs).bind fun a0 => (g_i a0.2).bind fun a1 => (g_i a1.2).bind fun a2 => (g_i a2.2).bind fun a3 => (g_e a3.2).bind fun _ => T_X8_more_41 a0.1 a1.1 a2.1 a3.1 σ
noncomputable def T_X8_more_66 (v0 : Nat) (v1 : Int32) (v2 : Int32) (v3 : Int32) (σ : sS) : Option (sZ Int32) :=
  (F_X8_worldsMany v0 σ).bind fun q1 =>
  if q1.1 ≤ v3 then (some (.inl (121, [.ref v0, .int v2, .int 0], q1.2)))
  else ((s_fr q1.2 v0 8 21).bind fun x2 =>
  (s_ai q1.2 x2 (960 + (v3 / 32))).bind fun x3 =>
  (F_X8_beliefsOf v0 v1 q1.2).bind fun q4 =>
  (F_X8_holdAll v0 q4.1 v3 q4.2).bind fun q5 =>
  if q5.1 = 0 then (some (.inl (111, [.ref v0, .int v1, .int v2, .int v3, .int 0, .int x3, .int (960 + (v3 / 32)), .ref x2], q5.2)))
  else (some (.inl (111, [.ref v0, .int v1, .int v2, .int v3, .int (1 <<< ((v3 - v3 / 32 * 32) &&& 31)), .int x3, .int (960 + (v3 / 32)), .ref x2], q5.2))))
noncomputable def U_X8_more_66 (vs : List Value) (σ : sS) : Option (sZ Int32) := (g_r vs).bind fun a0 => (g_i a0.2).bind fun a1 => (g_i a1.2).bind fun a2 => (g_i a2.2).bind fun a3 => (g_e a3.2).bind fun _ => T_X8_more_66 a0.1 a1.1 a2.1 a3.1 σ
noncomputable def T_X8_more_111 (v0 : Nat) (v1 : Int32) (v2 : Int32) (v3 : Int32) (w0 : Int32) (w1 : Int32) (w2 : Int32) (w3 : Nat) (σ : sS) : Option (sZ Int32) :=
  (s_si σ w3 w2 (w1 ||| w0)).bind fun σ1 =>
  some (.inl (66, [.ref v0, .int v1, .int v2, .int (v3 + 1)], σ1))
noncomputable def U_X8_more_111 (vs : List Value) (σ : sS) : Option (sZ Int32) := (g_r vs).bind fun a0 => (g_i a0.2).bind fun a1 => (g_i a1.2).bind fun a2 => (g_i a2.2).bind fun a3 => (g_i a3.2).bind fun a4 => (g_i a4.2).bind fun a5 => (g_i a5.2).bind fun a6 => (g_r a6.2).bind fun a7 => (g_e a7.2).bind fun _ => T_X8_more_111 a0.1 a1.1 a2.1 a3.1 a4.1 a5.1 a6.1 a7.1 σ
noncomputable def T_X8_more_121 (v0 : Nat) (v2 : Int32) (v3 : Int32) (σ : sS) : Option (sZ Int32) :=
  if (3 : Int32) < v3 then (some (.inr ((-1), σ)))
  else ((F_X8_leastNamed v0 v3 v2 σ).bind fun q1 =>
  if q1.1 < 0 then (some (.inl (121, [.ref v0, .int v2, .int (v3 + 1)], q1.2)))
  else (some (.inr (q1.1, q1.2))))
noncomputable def U_X8_more_121 (vs : List Value) (σ : sS) : Option (sZ Int32) := (g_r vs).bind fun a0 => (g_i a0.2).bind fun a1 => (g_i a1.2).bind fun a2 => (g_e a2.2).bind fun _ => T_X8_more_121 a0.1 a1.1 a2.1 σ
noncomputable def S_X8_more (x : sL) : Option (sZ Int32) := if x.1 = 0 then U_X8_more_0 x.2.1 x.2.2 else if x.1 = 21 then U_X8_more_21 x.2.1 x.2.2 else if x.1 = 26 then U_X8_more_26 x.2.1 x.2.2 else if x.1 = 41 then U_X8_more_41 x.2.1 x.2.2 else if x.1 = 66 then U_X8_more_66 x.2.1 x.2.2 else if x.1 = 111 then U_X8_more_111 x.2.1 x.2.2 else if x.1 = 121 then U_X8_more_121 x.2.1 x.2.2 else none
def Y_X8_more (pc : Nat) : List Nat := if pc = 0 then [0, 1, 2] else if pc = 21 then [0, 1, 2] else if pc = 26 then [0, 1, 2] else if pc = 41 then [0, 1, 2, 3] else if pc = 66 then [0, 1, 2, 3] else if pc = 111 then [0, 1, 2, 3] else if pc = 121 then [0, 2, 3] else []
noncomputable def F_X8_more (v0 : Nat) (v1 : Int32) (v2 : Int32) (σ : sS) : Option (Int32 × sS) := (s_is σ v0 8).bind fun _ => s_run S_X8_more (0, [.ref v0, .int v1, .int v2], σ)
theorem l_X8_more_0 {v0 : Nat} {v1 : Int32} {v2 : Int32} {σ : sS} {z : sZ Int32} (hf : T_X8_more_0 v0 v1 v2 σ = some z) : s_lz σ z := by
  unfold T_X8_more_0 at hf
  obtain ⟨σ1, hh, hf⟩ := s_bind hf
  refine s_lz.tr (s_le2 (s_pf_2 hh)) ?_
  obtain ⟨q2, hh, hf⟩ := s_bind hf
  refine s_lz.tr (l_X8_noCustomer hh) ?_
  rcases s_ite hf with ⟨-, hf⟩ | ⟨-, hf⟩
  · obtain ⟨q3, hh, hf⟩ := s_bind hf
    refine s_lz.tr (l_X8_noFormula hh) ?_
    rcases s_ite hf with ⟨-, hf⟩ | ⟨-, hf⟩
    · cases hf
      exact s_le.rf
    · cases hf
      exact s_le.rf
  · cases hf
    exact s_le.rf
theorem l_X8_more_21 {v0 : Nat} {v1 : Int32} {v2 : Int32} {w0 : Nat} {σ : sS} {z : sZ Int32} (hf : T_X8_more_21 v0 v1 v2 w0 σ = some z) : s_lz σ z := by
  unfold T_X8_more_21 at hf
  cases hf
  exact s_le.rf
theorem l_X8_more_26 {v0 : Nat} {v1 : Int32} {v2 : Int32} {w0 : Int32} {w1 : Nat} {σ : sS} {z : sZ Int32} (hf : T_X8_more_26 v0 v1 v2 w0 w1 σ = some z) : s_lz σ z := by
  unfold T_X8_more_26 at hf
  obtain ⟨q1, hh, hf⟩ := s_bind hf
  refine s_lz.tr (l_X8_throwsIf hh) ?_
  rcases s_ite hf with ⟨-, hf⟩ | ⟨-, hf⟩
  · obtain ⟨q2, hh, hf⟩ := s_bind hf
    refine s_lz.tr (l_X8_worldsOfAll hh) ?_
    cases hf
    exact s_le.rf
  · cases hf
    exact s_le.rf
theorem l_X8_more_41 {v0 : Nat} {v1 : Int32} {v2 : Int32} {v3 : Int32} {σ : sS} {z : sZ Int32} (hf : T_X8_more_41 v0 v1 v2 v3 σ = some z) : s_lz σ z := by
  unfold T_X8_more_41 at hf
  rcases s_ite hf with ⟨-, hf⟩ | ⟨-, hf⟩
  · cases hf
    exact s_le.rf
  · obtain ⟨x1, -, hf⟩ := s_bind hf
    obtain ⟨σ2, hh, hf⟩ := s_bind hf
    refine s_lz.tr (s_le2 (s_si_2 hh)) ?_
    cases hf
    exact s_le.rf
theorem l_X8_more_66 {v0 : Nat} {v1 : Int32} {v2 : Int32} {v3 : Int32} {σ : sS} {z : sZ Int32} (hf : T_X8_more_66 v0 v1 v2 v3 σ = some z) : s_lz σ z := by
  unfold T_X8_more_66 at hf
  obtain ⟨q1, hh, hf⟩ := s_bind hf
  refine s_lz.tr (l_X8_worldsMany hh) ?_
  rcases s_ite hf with ⟨-, hf⟩ | ⟨-, hf⟩
  · cases hf
    exact s_le.rf
  · obtain ⟨x2, -, hf⟩ := s_bind hf
    obtain ⟨x3, -, hf⟩ := s_bind hf
    obtain ⟨q4, hh, hf⟩ := s_bind hf
    refine s_lz.tr (l_X8_beliefsOf hh) ?_
    obtain ⟨q5, hh, hf⟩ := s_bind hf
    refine s_lz.tr (l_X8_holdAll hh) ?_
    rcases s_ite hf with ⟨-, hf⟩ | ⟨-, hf⟩
    · cases hf
      exact s_le.rf
    · cases hf
      exact s_le.rf
theorem l_X8_more_111 {v0 : Nat} {v1 : Int32} {v2 : Int32} {v3 : Int32} {w0 : Int32} {w1 : Int32} {w2 : Int32} {w3 : Nat} {σ : sS} {z : sZ Int32} (hf : T_X8_more_111 v0 v1 v2 v3 w0 w1 w2 w3 σ = some z) : s_lz σ z := by
  unfold T_X8_more_111 at hf
  obtain ⟨σ1, hh, hf⟩ := s_bind hf
  refine s_lz.tr (s_le2 (s_si_2 hh)) ?_
  cases hf
  exact s_le.rf
theorem l_X8_more_121 {v0 : Nat} {v2 : Int32} {v3 : Int32} {σ : sS} {z : sZ Int32} (hf : T_X8_more_121 v0 v2 v3 σ = some z) : s_lz σ z := by
  unfold T_X8_more_121 at hf
  rcases s_ite hf with ⟨-, hf⟩ | ⟨-, hf⟩
  · cases hf
    exact s_le.rf
  · obtain ⟨q1, hh, hf⟩ := s_bind hf
    refine s_lz.tr (l_X8_leastNamed hh) ?_
    rcases s_ite hf with ⟨-, hf⟩ | ⟨-, hf⟩
    · cases hf
      exact s_le.rf
    · cases hf
      exact s_le.rf
theorem l_X8_more_s {x : sL} {z : sZ Int32} (hs : S_X8_more x = some z) : s_lz x.2.2 z := by
  obtain ⟨pc, vs, σ⟩ := x
  unfold S_X8_more at hs
  dsimp only at hs ⊢
  rcases s_ite hs with ⟨c, hs⟩ | ⟨-, hs⟩
  · subst c
    unfold U_X8_more_0 at hs
    obtain ⟨a0, g0, hs⟩ := s_bind hs
    obtain ⟨a1, g1, hs⟩ := s_bind hs
    obtain ⟨a2, g2, hs⟩ := s_bind hs
    obtain ⟨u9, ge, hs⟩ := s_bind hs
    exact l_X8_more_0 hs
  rcases s_ite hs with ⟨c, hs⟩ | ⟨-, hs⟩
  · subst c
    unfold U_X8_more_21 at hs
    obtain ⟨a0, g0, hs⟩ := s_bind hs
    obtain ⟨a1, g1, hs⟩ := s_bind hs
    obtain ⟨a2, g2, hs⟩ := s_bind hs
    obtain ⟨a3, g3, hs⟩ := s_bind hs
    obtain ⟨u9, ge, hs⟩ := s_bind hs
    exact l_X8_more_21 hs
  rcases s_ite hs with ⟨c, hs⟩ | ⟨-, hs⟩
  · subst c
    unfold U_X8_more_26 at hs
    obtain ⟨a0, g0, hs⟩ := s_bind hs
    obtain ⟨a1, g1, hs⟩ := s_bind hs
    obtain ⟨a2, g2, hs⟩ := s_bind hs
    obtain ⟨a3, g3, hs⟩ := s_bind hs
    obtain ⟨a4, g4, hs⟩ := s_bind hs
    obtain ⟨u9, ge, hs⟩ := s_bind hs
    exact l_X8_more_26 hs
  rcases s_ite hs with ⟨c, hs⟩ | ⟨-, hs⟩
  · subst c
    unfold U_X8_more_41 at hs
    obtain ⟨a0, g0, hs⟩ := s_bind hs
    obtain ⟨a1, g1, hs⟩ := s_bind hs
    obtain ⟨a2, g2, hs⟩ := s_bind hs
    obtain ⟨a3, g3, hs⟩ := s_bind hs
    obtain ⟨u9, ge, hs⟩ := s_bind hs
    exact l_X8_more_41 hs
  rcases s_ite hs with ⟨c, hs⟩ | ⟨-, hs⟩
  · subst c
    unfold U_X8_more_66 at hs
    obtain ⟨a0, g0, hs⟩ := s_bind hs
    obtain ⟨a1, g1, hs⟩ := s_bind hs
    obtain ⟨a2, g2, hs⟩ := s_bind hs
    obtain ⟨a3, g3, hs⟩ := s_bind hs
    obtain ⟨u9, ge, hs⟩ := s_bind hs
    exact l_X8_more_66 hs
  rcases s_ite hs with ⟨c, hs⟩ | ⟨-, hs⟩
  · subst c
    unfold U_X8_more_111 at hs
    obtain ⟨a0, g0, hs⟩ := s_bind hs
    obtain ⟨a1, g1, hs⟩ := s_bind hs
    obtain ⟨a2, g2, hs⟩ := s_bind hs
    obtain ⟨a3, g3, hs⟩ := s_bind hs
    obtain ⟨a4, g4, hs⟩ := s_bind hs
    obtain ⟨a5, g5, hs⟩ := s_bind hs
    obtain ⟨a6, g6, hs⟩ := s_bind hs
    obtain ⟨a7, g7, hs⟩ := s_bind hs
    obtain ⟨u9, ge, hs⟩ := s_bind hs
    exact l_X8_more_111 hs
  rcases s_ite hs with ⟨c, hs⟩ | ⟨-, hs⟩
  · subst c
    unfold U_X8_more_121 at hs
    obtain ⟨a0, g0, hs⟩ := s_bind hs
    obtain ⟨a1, g1, hs⟩ := s_bind hs
    obtain ⟨a2, g2, hs⟩ := s_bind hs
    obtain ⟨u9, ge, hs⟩ := s_bind hs
    exact l_X8_more_121 hs
  cases hs
theorem l_X8_more {v0 : Nat} {v1 : Int32} {v2 : Int32} {σ : sS} {q : Int32 × sS} (h : F_X8_more v0 v1 v2 σ = some q) : s_le σ q.2 := by
  unfold F_X8_more at h
  obtain ⟨-, -, h⟩ := s_bind h
  exact s_run_ind (V := fun x r => s_le x.2.2 r.2) (fun x z r hs hk => by
    have h9 := l_X8_more_s hs
    cases z with
    | inl y => exact s_le.tr h9 hk
    | inr q => cases hk; exact h9) h
theorem b_X8_more {v0 : Nat} {v1 : Int32} {v2 : Int32} {σ : sS} {q : Int32 × sS} (h : F_X8_more v0 v1 v2 σ = some q) : ∃ fs, σ.1 v0 = some (.inr (8, fs)) := by
  unfold F_X8_more at h
  obtain ⟨u, hu, -⟩ := s_bind h
  exact s_is_to hu
set_option maxRecDepth 100000 in
set_option maxHeartbeats 4000000 in
theorem v_X8_more_0 {G : sG} {d : Nat} {vs0 : List Value} {σ0 : sS} {v0 : Nat} {v1 : Int32} {v2 : Int32} {σ : sS} {z : sZ Int32} {r : Int32 × sS} (hf : T_X8_more_0 v0 v1 v2 σ = some z) (k : s_K G (d + 5) M_X8_more vs0 σ0 Y_X8_more e_I z r) : s_V G (d + 5) M_X8_more vs0 σ0 Y_X8_more (0, [.ref v0, .int v1, .int v2], σ) (e_I r) := by
  have le0 : s_le σ (e_I r).2 := s_lek hem_I (l_X8_more_0 hf) k
  refine ⟨le0, ?_⟩
  intro p e s m below meth c H locs cells slots ls X I hn1 hn2 hl
  have hn : cells + σ0.2.1 ≤ σ.2.1 ∧ slots + σ0.2.2.1 ≤ σ.2.2.1 := ⟨hn1, hn2⟩
  have hl : lv_has ls 5 [(0, .ref v0), (1, .int v1), (2, .int v2)] := hl
  have hx := X.1
  have hb : c.code = cX8_more := X.2.1
  have hown : s.vm.findClass RX8 = some m.cls := X.2.2.2.2.2.1
  have hts := X.2.2.2.2.2.2.1
  refine W.eq (g2 := F0 m 0 ls []) rfl ?_
  unfold T_X8_more_0 at hf
  obtain ⟨σ1, h1, hf⟩ := s_bind hf
  obtain ⟨q2, h2, hf⟩ := s_bind hf
  have le3 : s_le q2.2 (e_I r).2 := by
    refine s_lek hem_I ?_ k
    rcases s_ite hf with ⟨-, hf⟩ | ⟨-, hf⟩
    · obtain ⟨q3, hh, hf⟩ := s_bind hf
      refine s_lz.tr (l_X8_noFormula hh) ?_
      rcases s_ite hf with ⟨-, hf⟩ | ⟨-, hf⟩
      · cases hf
        exact s_le.rf
      · cases hf
        exact s_le.rf
    · cases hf
      exact s_le.rf
  have le4 := s_le.tr (l_X8_noCustomer h2) le3
  refine lv_aload_n hx hb dX8_more_0 rfl (lv_at hl 0 rfl) ?_
  refine lv_iconst (v := 0) hx hb dX8_more_1 (by decide) ?_
  refine r_put X I fp_X8_3 (fun h => by cases h) h1 rfl rfl dX8_more_2 (fun H locs I => ?_)
  have hn := s_k2 (s_pf_2 h1) hn
  refine lv_aload_n hx hb dX8_more_5 rfl (lv_at hl 0 rfl) ?_
  refine lv_iload_n hx hb dX8_more_6 rfl (lv_at hl 1 rfl) ?_
  refine r_callS (Y := M_X8_noCustomer) (v := some (.int q2.1)) X I w_1984 my_X8_noCustomer (by omega) (t_X8_noCustomer (G := G) (d := d + 2) h2) rfl rfl hl.1 rfl (Nat.le_of_ble_eq_true rfl) hn le3 dX8_more_7 (fun H locs cells slots I hn1 hn2 => ?_)
  have I : s_I G q2.2 s H locs := I
  have hn : cells + σ0.2.1 ≤ q2.2.2.1 ∧ slots + σ0.2.2.1 ≤ q2.2.2.2.1 := ⟨hn1, hn2⟩
  rcases s_ite hf with ⟨c5, hf⟩ | ⟨c5, hf⟩
  · refine lv_if_ne (tgt := 21) hx hb dX8_more_10 (by decide) (fun n => absurd c5 n) (fun _ => ?_)
    obtain ⟨q3, h6, hf⟩ := s_bind hf
    have le7 : s_le q3.2 (e_I r).2 := by
      refine s_lek hem_I ?_ k
      rcases s_ite hf with ⟨-, hf⟩ | ⟨-, hf⟩
      · cases hf
        exact s_le.rf
      · cases hf
        exact s_le.rf
    refine lv_aload_n hx hb dX8_more_13 rfl (lv_at hl 0 rfl) ?_
    refine lv_iload_n hx hb dX8_more_14 rfl (lv_at hl 2 rfl) ?_
    refine r_callV (Y := M_X8_noFormula) (v := some (.int q3.1)) X I w_1916 my_X8_noFormula (by omega) (t_X8_noFormula (G := G) (d := d + 2) h6) (b_X8_noFormula h6) rfl rfl hl.1 rfl (Nat.le_of_ble_eq_true rfl) hn le7 dX8_more_15 (fun H locs cells slots I hn1 hn2 => ?_)
    have I : s_I G q3.2 s H locs := I
    have hn : cells + σ0.2.1 ≤ q3.2.2.1 ∧ slots + σ0.2.2.1 ≤ q3.2.2.2.1 := ⟨hn1, hn2⟩
    rcases s_ite hf with ⟨c8, hf⟩ | ⟨c8, hf⟩
    · refine lv_if_eq (tgt := 25) hx hb dX8_more_18 (by decide) (fun _ => ?_) (fun n => absurd c8 n)
      cases hf
      have k : s_V G (d + 5) M_X8_more vs0 σ0 Y_X8_more (26, [.ref v0, .int v1, .int v2, .int 0, .ref v0], q3.2) (e_I r) := k
      refine lv_iconst (v := 0) hx hb dX8_more_25 (by decide) ?_
      exact k.2 p e s m below meth c _ _ _ _ _ X I hn.1 hn.2 (lv_sub hl [0, 1, 2] rfl)
    · refine lv_if_eq (tgt := 25) hx hb dX8_more_18 (by decide) (fun n => absurd n c8) (fun _ => ?_)
      cases hf
      have k : s_V G (d + 5) M_X8_more vs0 σ0 Y_X8_more (21, [.ref v0, .int v1, .int v2, .ref v0], q3.2) (e_I r) := k
      exact k.2 p e s m below meth c _ _ _ _ _ X I hn.1 hn.2 (lv_sub hl [0, 1, 2] rfl)
  · refine lv_if_ne (tgt := 21) hx hb dX8_more_10 (by decide) (fun _ => ?_) (fun n => absurd n c5)
    cases hf
    have k : s_V G (d + 5) M_X8_more vs0 σ0 Y_X8_more (21, [.ref v0, .int v1, .int v2, .ref v0], q2.2) (e_I r) := k
    exact k.2 p e s m below meth c _ _ _ _ _ X I hn.1 hn.2 (lv_sub hl [0, 1, 2] rfl)
set_option maxRecDepth 100000 in
set_option maxHeartbeats 4000000 in
theorem v_X8_more_21 {G : sG} {d : Nat} {vs0 : List Value} {σ0 : sS} {v0 : Nat} {v1 : Int32} {v2 : Int32} {w0 : Nat} {σ : sS} {z : sZ Int32} {r : Int32 × sS} (hf : T_X8_more_21 v0 v1 v2 w0 σ = some z) (k : s_K G (d + 5) M_X8_more vs0 σ0 Y_X8_more e_I z r) : s_V G (d + 5) M_X8_more vs0 σ0 Y_X8_more (21, [.ref v0, .int v1, .int v2, .ref w0], σ) (e_I r) := by
  have le0 : s_le σ (e_I r).2 := s_lek hem_I (l_X8_more_21 hf) k
  refine ⟨le0, ?_⟩
  intro p e s m below meth c H locs cells slots ls X I hn1 hn2 hl
  have hn : cells + σ0.2.1 ≤ σ.2.1 ∧ slots + σ0.2.2.1 ≤ σ.2.2.1 := ⟨hn1, hn2⟩
  have hl : lv_has ls 5 [(0, .ref v0), (1, .int v1), (2, .int v2)] := hl
  have hx := X.1
  have hb : c.code = cX8_more := X.2.1
  have hown : s.vm.findClass RX8 = some m.cls := X.2.2.2.2.2.1
  have hts := X.2.2.2.2.2.2.1
  refine W.eq (g2 := F0 m 21 ls [.ref w0]) rfl ?_
  unfold T_X8_more_21 at hf
  cases hf
  have k : s_V G (d + 5) M_X8_more vs0 σ0 Y_X8_more (26, [.ref v0, .int v1, .int v2, .int 1, .ref w0], σ) (e_I r) := k
  refine lv_iconst (v := 1) hx hb dX8_more_21 (by decide) ?_
  refine lv_goto (tgt := 26) hx hb dX8_more_22 (by decide) ?_
  exact k.2 p e s m below meth c _ _ _ _ _ X I hn.1 hn.2 (lv_sub hl [0, 1, 2] rfl)
set_option maxRecDepth 100000 in
set_option maxHeartbeats 4000000 in
theorem v_X8_more_26 {G : sG} {d : Nat} {vs0 : List Value} {σ0 : sS} {v0 : Nat} {v1 : Int32} {v2 : Int32} {w0 : Int32} {w1 : Nat} {σ : sS} {z : sZ Int32} {r : Int32 × sS} (hf : T_X8_more_26 v0 v1 v2 w0 w1 σ = some z) (k : s_K G (d + 5) M_X8_more vs0 σ0 Y_X8_more e_I z r) : s_V G (d + 5) M_X8_more vs0 σ0 Y_X8_more (26, [.ref v0, .int v1, .int v2, .int w0, .ref w1], σ) (e_I r) := by
  have le0 : s_le σ (e_I r).2 := s_lek hem_I (l_X8_more_26 hf) k
  refine ⟨le0, ?_⟩
  intro p e s m below meth c H locs cells slots ls X I hn1 hn2 hl
  have hn : cells + σ0.2.1 ≤ σ.2.1 ∧ slots + σ0.2.2.1 ≤ σ.2.2.1 := ⟨hn1, hn2⟩
  have hl : lv_has ls 5 [(0, .ref v0), (1, .int v1), (2, .int v2)] := hl
  have hx := X.1
  have hb : c.code = cX8_more := X.2.1
  have hown : s.vm.findClass RX8 = some m.cls := X.2.2.2.2.2.1
  have hts := X.2.2.2.2.2.2.1
  refine W.eq (g2 := F0 m 26 ls [.int w0, .ref w1]) rfl ?_
  unfold T_X8_more_26 at hf
  obtain ⟨q1, h1, hf⟩ := s_bind hf
  have le2 : s_le q1.2 (e_I r).2 := by
    refine s_lek hem_I ?_ k
    rcases s_ite hf with ⟨-, hf⟩ | ⟨-, hf⟩
    · obtain ⟨q2, hh, hf⟩ := s_bind hf
      refine s_lz.tr (l_X8_worldsOfAll hh) ?_
      cases hf
      exact s_le.rf
    · cases hf
      exact s_le.rf
  refine lv_iconst (v := 1) hx hb dX8_more_26 (by decide) ?_
  refine r_callV (Y := M_X8_throwsIf) (v := some (.int q1.1)) X I w_1897 my_X8_throwsIf (by omega) (t_X8_throwsIf (G := G) (d := d + 3) h1) (b_X8_throwsIf h1) rfl rfl hl.1 rfl (Nat.le_of_ble_eq_true rfl) hn le2 dX8_more_27 (fun H locs cells slots I hn1 hn2 => ?_)
  have I : s_I G q1.2 s H locs := I
  have hn : cells + σ0.2.1 ≤ q1.2.2.1 ∧ slots + σ0.2.2.1 ≤ q1.2.2.2.1 := ⟨hn1, hn2⟩
  rcases s_ite hf with ⟨c3, hf⟩ | ⟨c3, hf⟩
  · refine lv_if_eq (tgt := 35) hx hb dX8_more_30 (by decide) (fun _ => ?_) (fun n => absurd c3 n)
    obtain ⟨q2, h4, hf⟩ := s_bind hf
    cases hf
    have k : s_V G (d + 5) M_X8_more vs0 σ0 Y_X8_more (41, [.ref v0, .int v1, .int v2, .int 0], q2.2) (e_I r) := k
    have le5 : s_le q2.2 (e_I r).2 := k.1
    refine lv_aload_n hx hb dX8_more_35 rfl (lv_at hl 0 rfl) ?_
    refine r_callV (Y := M_X8_worldsOfAll) (v := none) X I w_2184 my_X8_worldsOfAll (by omega) (t_X8_worldsOfAll (G := G) (d := d + 0) h4) (b_X8_worldsOfAll h4) rfl rfl hl.1 rfl (Nat.le_of_ble_eq_true rfl) hn le5 dX8_more_36 (fun H locs cells slots I hn1 hn2 => ?_)
    have I : s_I G q2.2 s H locs := I
    have hn : cells + σ0.2.1 ≤ q2.2.2.1 ∧ slots + σ0.2.2.1 ≤ q2.2.2.2.1 := ⟨hn1, hn2⟩
    refine lv_iconst (v := 0) hx hb dX8_more_39 (by decide) ?_
    refine lv_istore_n (lv' := [(3, .int 0), (0, .ref v0), (1, .int v1), (2, .int v2)]) hx hb dX8_more_40 rfl hl (by decide) rfl (fun ls hl => ?_)
    exact k.2 p e s m below meth c _ _ _ _ _ X I hn.1 hn.2 (lv_sub hl [1, 2, 3, 0] rfl)
  · refine lv_if_eq (tgt := 35) hx hb dX8_more_30 (by decide) (fun n => absurd n c3) (fun _ => ?_)
    cases hf
    have k : _ = r := k
    subst k
    refine lv_iconst (v := 0) hx hb dX8_more_33 (by decide) ?_
    exact r_iret X I rfl rfl rfl hn dX8_more_34
set_option maxRecDepth 100000 in
set_option maxHeartbeats 4000000 in
theorem v_X8_more_41 {G : sG} {d : Nat} {vs0 : List Value} {σ0 : sS} {v0 : Nat} {v1 : Int32} {v2 : Int32} {v3 : Int32} {σ : sS} {z : sZ Int32} {r : Int32 × sS} (hf : T_X8_more_41 v0 v1 v2 v3 σ = some z) (k : s_K G (d + 5) M_X8_more vs0 σ0 Y_X8_more e_I z r) : s_V G (d + 5) M_X8_more vs0 σ0 Y_X8_more (41, [.ref v0, .int v1, .int v2, .int v3], σ) (e_I r) := by
  have le0 : s_le σ (e_I r).2 := s_lek hem_I (l_X8_more_41 hf) k
  refine ⟨le0, ?_⟩
  intro p e s m below meth c H locs cells slots ls X I hn1 hn2 hl
  have hn : cells + σ0.2.1 ≤ σ.2.1 ∧ slots + σ0.2.2.1 ≤ σ.2.2.1 := ⟨hn1, hn2⟩
  have hl : lv_has ls 5 [(0, .ref v0), (1, .int v1), (2, .int v2), (3, .int v3)] := hl
  have hx := X.1
  have hb : c.code = cX8_more := X.2.1
  have hown : s.vm.findClass RX8 = some m.cls := X.2.2.2.2.2.1
  have hts := X.2.2.2.2.2.2.1
  refine W.eq (g2 := F0 m 41 ls []) rfl ?_
  unfold T_X8_more_41 at hf
  refine lv_iload_n hx hb dX8_more_41 rfl (lv_at hl 3 rfl) ?_
  refine lv_bipush (v := 32) hx hb dX8_more_42 (by decide) ?_
  rcases s_ite hf with ⟨c1, hf⟩ | ⟨c1, hf⟩
  · refine lv_icmp_ge (tgt := 64) hx hb dX8_more_44 (by decide) (fun _ => ?_) (fun n => absurd c1 n)
    cases hf
    have k : s_V G (d + 5) M_X8_more vs0 σ0 Y_X8_more (66, [.ref v0, .int v1, .int v2, .int 0], σ) (e_I r) := k
    refine lv_iconst (v := 0) hx hb dX8_more_64 (by decide) ?_
    refine lv_istore_n (lv' := [(3, .int 0), (0, .ref v0), (1, .int v1), (2, .int v2)]) hx hb dX8_more_65 rfl hl (by decide) rfl (fun ls hl => ?_)
    exact k.2 p e s m below meth c _ _ _ _ _ X I hn.1 hn.2 (lv_sub hl [1, 2, 3, 0] rfl)
  · refine lv_icmp_ge (tgt := 64) hx hb dX8_more_44 (by decide) (fun n => absurd n c1) (fun _ => ?_)
    obtain ⟨x1, h2, hf⟩ := s_bind hf
    obtain ⟨σ2, h3, hf⟩ := s_bind hf
    cases hf
    have k : s_V G (d + 5) M_X8_more vs0 σ0 Y_X8_more (41, [.ref v0, .int v1, .int v2, .int (v3 + 1)], σ2) (e_I r) := k
    have le4 : s_le σ2 (e_I r).2 := k.1
    refine lv_aload_n hx hb dX8_more_47 rfl (lv_at hl 0 rfl) ?_
    refine r_gr X I fl_X8_53 h2 dX8_more_48 ?_
    refine lv_sipush (v := 960) hx hb dX8_more_51 (by decide) ?_
    refine lv_iload_n hx hb dX8_more_54 rfl (lv_at hl 3 rfl) ?_
    refine lv_iadd hx hb dX8_more_55 ?_
    refine lv_iconst (v := 0) hx hb dX8_more_56 (by decide) ?_
    refine r_iast X I h3 dX8_more_57 (fun H locs I => ?_)
    have hn := s_k2 (s_si_2 h3) hn
    refine lv_iinc (v := (v3 + 1)) (lv' := [(3, .int (v3 + 1)), (0, .ref v0), (1, .int v1), (2, .int v2)]) hx hb dX8_more_58 hl (k := 3) rfl rfl (by decide) rfl (fun ls hl => ?_)
    refine lv_goto (tgt := 41) hx hb dX8_more_61 (by decide) ?_
    exact k.2 p e s m below meth c _ _ _ _ _ X I hn.1 hn.2 (lv_sub hl [1, 2, 3, 0] rfl)
set_option maxRecDepth 100000 in
set_option maxHeartbeats 4000000 in
theorem v_X8_more_66 {G : sG} {d : Nat} {vs0 : List Value} {σ0 : sS} {v0 : Nat} {v1 : Int32} {v2 : Int32} {v3 : Int32} {σ : sS} {z : sZ Int32} {r : Int32 × sS} (hf : T_X8_more_66 v0 v1 v2 v3 σ = some z) (k : s_K G (d + 5) M_X8_more vs0 σ0 Y_X8_more e_I z r) : s_V G (d + 5) M_X8_more vs0 σ0 Y_X8_more (66, [.ref v0, .int v1, .int v2, .int v3], σ) (e_I r) := by
  have le0 : s_le σ (e_I r).2 := s_lek hem_I (l_X8_more_66 hf) k
  refine ⟨le0, ?_⟩
  intro p e s m below meth c H locs cells slots ls X I hn1 hn2 hl
  have hn : cells + σ0.2.1 ≤ σ.2.1 ∧ slots + σ0.2.2.1 ≤ σ.2.2.1 := ⟨hn1, hn2⟩
  have hl : lv_has ls 5 [(0, .ref v0), (1, .int v1), (2, .int v2), (3, .int v3)] := hl
  have hx := X.1
  have hb : c.code = cX8_more := X.2.1
  have hown : s.vm.findClass RX8 = some m.cls := X.2.2.2.2.2.1
  have hts := X.2.2.2.2.2.2.1
  refine W.eq (g2 := F0 m 66 ls []) rfl ?_
  unfold T_X8_more_66 at hf
  obtain ⟨q1, h1, hf⟩ := s_bind hf
  have le2 : s_le q1.2 (e_I r).2 := by
    refine s_lek hem_I ?_ k
    rcases s_ite hf with ⟨-, hf⟩ | ⟨-, hf⟩
    · cases hf
      exact s_le.rf
    · obtain ⟨x2, -, hf⟩ := s_bind hf
      obtain ⟨x3, -, hf⟩ := s_bind hf
      obtain ⟨q4, hh, hf⟩ := s_bind hf
      refine s_lz.tr (l_X8_beliefsOf hh) ?_
      obtain ⟨q5, hh, hf⟩ := s_bind hf
      refine s_lz.tr (l_X8_holdAll hh) ?_
      rcases s_ite hf with ⟨-, hf⟩ | ⟨-, hf⟩
      · cases hf
        exact s_le.rf
      · cases hf
        exact s_le.rf
  refine lv_iload_n hx hb dX8_more_66 rfl (lv_at hl 3 rfl) ?_
  refine lv_aload_n hx hb dX8_more_67 rfl (lv_at hl 0 rfl) ?_
  refine r_callV (Y := M_X8_worldsMany) (v := some (.int q1.1)) X I w_1943 my_X8_worldsMany (by omega) (t_X8_worldsMany (G := G) (d := d + 2) h1) (b_X8_worldsMany h1) rfl rfl hl.1 rfl (Nat.le_of_ble_eq_true rfl) hn le2 dX8_more_68 (fun H locs cells slots I hn1 hn2 => ?_)
  have I : s_I G q1.2 s H locs := I
  have hn : cells + σ0.2.1 ≤ q1.2.2.1 ∧ slots + σ0.2.2.1 ≤ q1.2.2.2.1 := ⟨hn1, hn2⟩
  rcases s_ite hf with ⟨c3, hf⟩ | ⟨c3, hf⟩
  · refine lv_icmp_ge (tgt := 119) hx hb dX8_more_71 (by decide) (fun _ => ?_) (fun n => absurd c3 n)
    cases hf
    have k : s_V G (d + 5) M_X8_more vs0 σ0 Y_X8_more (121, [.ref v0, .int v2, .int 0], q1.2) (e_I r) := k
    refine lv_iconst (v := 0) hx hb dX8_more_119 (by decide) ?_
    refine lv_istore_n (lv' := [(3, .int 0), (0, .ref v0), (1, .int v1), (2, .int v2)]) hx hb dX8_more_120 rfl hl (by decide) rfl (fun ls hl => ?_)
    exact k.2 p e s m below meth c _ _ _ _ _ X I hn.1 hn.2 (lv_sub hl [1, 3, 0] rfl)
  · refine lv_icmp_ge (tgt := 119) hx hb dX8_more_71 (by decide) (fun n => absurd n c3) (fun _ => ?_)
    obtain ⟨x2, h4, hf⟩ := s_bind hf
    obtain ⟨x3, h5, hf⟩ := s_bind hf
    obtain ⟨q4, h6, hf⟩ := s_bind hf
    obtain ⟨q5, h7, hf⟩ := s_bind hf
    have le8 : s_le q5.2 (e_I r).2 := by
      refine s_lek hem_I ?_ k
      rcases s_ite hf with ⟨-, hf⟩ | ⟨-, hf⟩
      · cases hf
        exact s_le.rf
      · cases hf
        exact s_le.rf
    have le9 := s_le.tr (l_X8_holdAll h7) le8
    refine lv_aload_n hx hb dX8_more_74 rfl (lv_at hl 0 rfl) ?_
    refine r_gr X I fl_X8_53 h4 dX8_more_75 ?_
    refine lv_sipush (v := 960) hx hb dX8_more_78 (by decide) ?_
    refine lv_iload_n hx hb dX8_more_81 rfl (lv_at hl 3 rfl) ?_
    refine lv_bipush (v := 32) hx hb dX8_more_82 (by decide) ?_
    refine lv_idiv hx hb dX8_more_84 (by decide) ?_
    refine lv_iadd hx hb dX8_more_85 ?_
    refine lv_dup2_11 hx hb dX8_more_86 rfl rfl ?_
    refine r_iald X I h5 dX8_more_87 ?_
    refine lv_aload_n hx hb dX8_more_88 rfl (lv_at hl 0 rfl) ?_
    refine lv_aload_n hx hb dX8_more_89 rfl (lv_at hl 0 rfl) ?_
    refine lv_iload_n hx hb dX8_more_90 rfl (lv_at hl 1 rfl) ?_
    refine r_callV (Y := M_X8_beliefsOf) (v := some (.int q4.1)) X I w_1987 my_X8_beliefsOf (by omega) (t_X8_beliefsOf (G := G) (d := d + 3) h6) (b_X8_beliefsOf h6) rfl rfl hl.1 rfl (Nat.le_of_ble_eq_true rfl) hn le9 dX8_more_91 (fun H locs cells slots I hn1 hn2 => ?_)
    have I : s_I G q4.2 s H locs := I
    have hn : cells + σ0.2.1 ≤ q4.2.2.1 ∧ slots + σ0.2.2.1 ≤ q4.2.2.2.1 := ⟨hn1, hn2⟩
    refine lv_iload_n hx hb dX8_more_94 rfl (lv_at hl 3 rfl) ?_
    refine r_callV (Y := M_X8_holdAll) (v := some (.int q5.1)) X I w_2140 my_X8_holdAll (by omega) (t_X8_holdAll (G := G) (d := d + 0) h7) (b_X8_holdAll h7) rfl rfl hl.1 rfl (Nat.le_of_ble_eq_true rfl) hn le8 dX8_more_95 (fun H locs cells slots I hn1 hn2 => ?_)
    have I : s_I G q5.2 s H locs := I
    have hn : cells + σ0.2.1 ≤ q5.2.2.1 ∧ slots + σ0.2.2.1 ≤ q5.2.2.2.1 := ⟨hn1, hn2⟩
    rcases s_ite hf with ⟨c10, hf⟩ | ⟨c10, hf⟩
    · refine lv_if_eq (tgt := 110) hx hb dX8_more_98 (by decide) (fun _ => ?_) (fun n => absurd c10 n)
      cases hf
      have k : s_V G (d + 5) M_X8_more vs0 σ0 Y_X8_more (111, [.ref v0, .int v1, .int v2, .int v3, .int 0, .int x3, .int (960 + (v3 / 32)), .ref x2], q5.2) (e_I r) := k
      refine lv_iconst (v := 0) hx hb dX8_more_110 (by decide) ?_
      exact k.2 p e s m below meth c _ _ _ _ _ X I hn.1 hn.2 (lv_sub hl [0, 1, 2, 3] rfl)
    · refine lv_if_eq (tgt := 110) hx hb dX8_more_98 (by decide) (fun n => absurd n c10) (fun _ => ?_)
      cases hf
      have k : s_V G (d + 5) M_X8_more vs0 σ0 Y_X8_more (111, [.ref v0, .int v1, .int v2, .int v3, .int (1 <<< ((v3 - v3 / 32 * 32) &&& 31)), .int x3, .int (960 + (v3 / 32)), .ref x2], q5.2) (e_I r) := k
      refine lv_iconst (v := 1) hx hb dX8_more_101 (by decide) ?_
      refine lv_iload_n hx hb dX8_more_102 rfl (lv_at hl 3 rfl) ?_
      refine lv_bipush (v := 32) hx hb dX8_more_103 (by decide) ?_
      refine lv_irem hx hb dX8_more_105 (by decide) ?_
      refine lv_ishl hx hb dX8_more_106 ?_
      refine lv_goto (tgt := 111) hx hb dX8_more_107 (by decide) ?_
      exact k.2 p e s m below meth c _ _ _ _ _ X I hn.1 hn.2 (lv_sub hl [0, 1, 2, 3] rfl)
set_option maxRecDepth 100000 in
set_option maxHeartbeats 4000000 in
theorem v_X8_more_111 {G : sG} {d : Nat} {vs0 : List Value} {σ0 : sS} {v0 : Nat} {v1 : Int32} {v2 : Int32} {v3 : Int32} {w0 : Int32} {w1 : Int32} {w2 : Int32} {w3 : Nat} {σ : sS} {z : sZ Int32} {r : Int32 × sS} (hf : T_X8_more_111 v0 v1 v2 v3 w0 w1 w2 w3 σ = some z) (k : s_K G (d + 5) M_X8_more vs0 σ0 Y_X8_more e_I z r) : s_V G (d + 5) M_X8_more vs0 σ0 Y_X8_more (111, [.ref v0, .int v1, .int v2, .int v3, .int w0, .int w1, .int w2, .ref w3], σ) (e_I r) := by
  have le0 : s_le σ (e_I r).2 := s_lek hem_I (l_X8_more_111 hf) k
  refine ⟨le0, ?_⟩
  intro p e s m below meth c H locs cells slots ls X I hn1 hn2 hl
  have hn : cells + σ0.2.1 ≤ σ.2.1 ∧ slots + σ0.2.2.1 ≤ σ.2.2.1 := ⟨hn1, hn2⟩
  have hl : lv_has ls 5 [(0, .ref v0), (1, .int v1), (2, .int v2), (3, .int v3)] := hl
  have hx := X.1
  have hb : c.code = cX8_more := X.2.1
  have hown : s.vm.findClass RX8 = some m.cls := X.2.2.2.2.2.1
  have hts := X.2.2.2.2.2.2.1
  refine W.eq (g2 := F0 m 111 ls [.int w0, .int w1, .int w2, .ref w3]) rfl ?_
  unfold T_X8_more_111 at hf
  obtain ⟨σ1, h1, hf⟩ := s_bind hf
  cases hf
  have k : s_V G (d + 5) M_X8_more vs0 σ0 Y_X8_more (66, [.ref v0, .int v1, .int v2, .int (v3 + 1)], σ1) (e_I r) := k
  have le2 : s_le σ1 (e_I r).2 := k.1
  refine lv_ior hx hb dX8_more_111 ?_
  refine r_iast X I h1 dX8_more_112 (fun H locs I => ?_)
  have hn := s_k2 (s_si_2 h1) hn
  refine lv_iinc (v := (v3 + 1)) (lv' := [(3, .int (v3 + 1)), (0, .ref v0), (1, .int v1), (2, .int v2)]) hx hb dX8_more_113 hl (k := 3) rfl rfl (by decide) rfl (fun ls hl => ?_)
  refine lv_goto (tgt := 66) hx hb dX8_more_116 (by decide) ?_
  exact k.2 p e s m below meth c _ _ _ _ _ X I hn.1 hn.2 (lv_sub hl [1, 2, 3, 0] rfl)
set_option maxRecDepth 100000 in
set_option maxHeartbeats 4000000 in
theorem v_X8_more_121 {G : sG} {d : Nat} {vs0 : List Value} {σ0 : sS} {v0 : Nat} {v2 : Int32} {v3 : Int32} {σ : sS} {z : sZ Int32} {r : Int32 × sS} (hf : T_X8_more_121 v0 v2 v3 σ = some z) (k : s_K G (d + 5) M_X8_more vs0 σ0 Y_X8_more e_I z r) : s_V G (d + 5) M_X8_more vs0 σ0 Y_X8_more (121, [.ref v0, .int v2, .int v3], σ) (e_I r) := by
  have le0 : s_le σ (e_I r).2 := s_lek hem_I (l_X8_more_121 hf) k
  refine ⟨le0, ?_⟩
  intro p e s m below meth c H locs cells slots ls X I hn1 hn2 hl
  have hn : cells + σ0.2.1 ≤ σ.2.1 ∧ slots + σ0.2.2.1 ≤ σ.2.2.1 := ⟨hn1, hn2⟩
  have hl : lv_has ls 5 [(0, .ref v0), (2, .int v2), (3, .int v3)] := hl
  have hx := X.1
  have hb : c.code = cX8_more := X.2.1
  have hown : s.vm.findClass RX8 = some m.cls := X.2.2.2.2.2.1
  have hts := X.2.2.2.2.2.2.1
  refine W.eq (g2 := F0 m 121 ls []) rfl ?_
  unfold T_X8_more_121 at hf
  refine lv_iload_n hx hb dX8_more_121 rfl (lv_at hl 2 rfl) ?_
  refine lv_iconst (v := 3) hx hb dX8_more_122 (by decide) ?_
  rcases s_ite hf with ⟨c1, hf⟩ | ⟨c1, hf⟩
  · refine lv_icmp_gt (tgt := 148) hx hb dX8_more_123 (by decide) (fun _ => ?_) (fun n => absurd c1 n)
    cases hf
    have k : _ = r := k
    subst k
    refine lv_iconst (v := (-1)) hx hb dX8_more_148 (by decide) ?_
    exact r_iret X I rfl rfl rfl hn dX8_more_149
  · refine lv_icmp_gt (tgt := 148) hx hb dX8_more_123 (by decide) (fun n => absurd n c1) (fun _ => ?_)
    obtain ⟨q1, h2, hf⟩ := s_bind hf
    have le3 : s_le q1.2 (e_I r).2 := by
      refine s_lek hem_I ?_ k
      rcases s_ite hf with ⟨-, hf⟩ | ⟨-, hf⟩
      · cases hf
        exact s_le.rf
      · cases hf
        exact s_le.rf
    refine lv_aload_n hx hb dX8_more_126 rfl (lv_at hl 0 rfl) ?_
    refine lv_iload_n hx hb dX8_more_127 rfl (lv_at hl 2 rfl) ?_
    refine lv_iload_n hx hb dX8_more_128 rfl (lv_at hl 1 rfl) ?_
    refine r_callV (Y := M_X8_leastNamed) (v := some (.int q1.1)) X I w_2188 my_X8_leastNamed (by omega) (t_X8_leastNamed (G := G) (d := d + 0) h2) (b_X8_leastNamed h2) rfl rfl hl.1 rfl (Nat.le_of_ble_eq_true rfl) hn le3 dX8_more_129 (fun H locs cells slots I hn1 hn2 => ?_)
    have I : s_I G q1.2 s H locs := I
    have hn : cells + σ0.2.1 ≤ q1.2.2.1 ∧ slots + σ0.2.2.1 ≤ q1.2.2.2.1 := ⟨hn1, hn2⟩
    refine lv_istore (lv' := [(4, .int q1.1), (0, .ref v0), (2, .int v2), (3, .int v3)]) hx hb dX8_more_132 hl (by decide) rfl (fun ls hl => ?_)
    refine lv_iload hx hb dX8_more_134 (lv_at hl 0 rfl) ?_
    rcases s_ite hf with ⟨c4, hf⟩ | ⟨c4, hf⟩
    · refine lv_if_lt (tgt := 142) hx hb dX8_more_136 (by decide) (fun _ => ?_) (fun n => absurd c4 n)
      cases hf
      have k : s_V G (d + 5) M_X8_more vs0 σ0 Y_X8_more (121, [.ref v0, .int v2, .int (v3 + 1)], q1.2) (e_I r) := k
      refine lv_iinc (v := (v3 + 1)) (lv' := [(3, .int (v3 + 1)), (4, .int q1.1), (0, .ref v0), (2, .int v2)]) hx hb dX8_more_142 hl (k := 3) rfl rfl (by decide) rfl (fun ls hl => ?_)
      refine lv_goto (tgt := 121) hx hb dX8_more_145 (by decide) ?_
      exact k.2 p e s m below meth c _ _ _ _ _ X I hn.1 hn.2 (lv_sub hl [2, 3, 0] rfl)
    · refine lv_if_lt (tgt := 142) hx hb dX8_more_136 (by decide) (fun n => absurd n c4) (fun _ => ?_)
      cases hf
      have k : _ = r := k
      subst k
      refine lv_iload hx hb dX8_more_139 (lv_at hl 0 rfl) ?_
      exact r_iret X I rfl rfl rfl hn dX8_more_141
theorem v_X8_more {G : sG} {d : Nat} {vs0 : List Value} {σ0 : sS} {x : sL} {z : sZ Int32} {r : Int32 × sS} (hs : S_X8_more x = some z) (k : s_K G (d + 5) M_X8_more vs0 σ0 Y_X8_more e_I z r) : s_V G (d + 5) M_X8_more vs0 σ0 Y_X8_more x (e_I r) := by
  obtain ⟨pc, vs, σ⟩ := x
  unfold S_X8_more at hs
  dsimp only at hs
  rcases s_ite hs with ⟨c, hs⟩ | ⟨-, hs⟩
  · subst c
    unfold U_X8_more_0 at hs
    obtain ⟨a0, g0, hs⟩ := s_bind hs
    obtain ⟨a1, g1, hs⟩ := s_bind hs
    obtain ⟨a2, g2, hs⟩ := s_bind hs
    obtain ⟨u9, ge, hs⟩ := s_bind hs
    rw [g_r_to g0, g_i_to g1, g_i_to g2, g_e_to ge]
    exact v_X8_more_0 hs k
  rcases s_ite hs with ⟨c, hs⟩ | ⟨-, hs⟩
  · subst c
    unfold U_X8_more_21 at hs
    obtain ⟨a0, g0, hs⟩ := s_bind hs
    obtain ⟨a1, g1, hs⟩ := s_bind hs
    obtain ⟨a2, g2, hs⟩ := s_bind hs
    obtain ⟨a3, g3, hs⟩ := s_bind hs
    obtain ⟨u9, ge, hs⟩ := s_bind hs
    rw [g_r_to g0, g_i_to g1, g_i_to g2, g_r_to g3, g_e_to ge]
    exact v_X8_more_21 hs k
  rcases s_ite hs with ⟨c, hs⟩ | ⟨-, hs⟩
  · subst c
    unfold U_X8_more_26 at hs
    obtain ⟨a0, g0, hs⟩ := s_bind hs
    obtain ⟨a1, g1, hs⟩ := s_bind hs
    obtain ⟨a2, g2, hs⟩ := s_bind hs
    obtain ⟨a3, g3, hs⟩ := s_bind hs
    obtain ⟨a4, g4, hs⟩ := s_bind hs
    obtain ⟨u9, ge, hs⟩ := s_bind hs
    rw [g_r_to g0, g_i_to g1, g_i_to g2, g_i_to g3, g_r_to g4, g_e_to ge]
    exact v_X8_more_26 hs k
  rcases s_ite hs with ⟨c, hs⟩ | ⟨-, hs⟩
  · subst c
    unfold U_X8_more_41 at hs
    obtain ⟨a0, g0, hs⟩ := s_bind hs
    obtain ⟨a1, g1, hs⟩ := s_bind hs
    obtain ⟨a2, g2, hs⟩ := s_bind hs
    obtain ⟨a3, g3, hs⟩ := s_bind hs
    obtain ⟨u9, ge, hs⟩ := s_bind hs
    rw [g_r_to g0, g_i_to g1, g_i_to g2, g_i_to g3, g_e_to ge]
    exact v_X8_more_41 hs k
  rcases s_ite hs with ⟨c, hs⟩ | ⟨-, hs⟩
  · subst c
    unfold U_X8_more_66 at hs
    obtain ⟨a0, g0, hs⟩ := s_bind hs
    obtain ⟨a1, g1, hs⟩ := s_bind hs
    obtain ⟨a2, g2, hs⟩ := s_bind hs
    obtain ⟨a3, g3, hs⟩ := s_bind hs
    obtain ⟨u9, ge, hs⟩ := s_bind hs
    rw [g_r_to g0, g_i_to g1, g_i_to g2, g_i_to g3, g_e_to ge]
    exact v_X8_more_66 hs k
  rcases s_ite hs with ⟨c, hs⟩ | ⟨-, hs⟩
  · subst c
    unfold U_X8_more_111 at hs
    obtain ⟨a0, g0, hs⟩ := s_bind hs
    obtain ⟨a1, g1, hs⟩ := s_bind hs
    obtain ⟨a2, g2, hs⟩ := s_bind hs
    obtain ⟨a3, g3, hs⟩ := s_bind hs
    obtain ⟨a4, g4, hs⟩ := s_bind hs
    obtain ⟨a5, g5, hs⟩ := s_bind hs
    obtain ⟨a6, g6, hs⟩ := s_bind hs
    obtain ⟨a7, g7, hs⟩ := s_bind hs
    obtain ⟨u9, ge, hs⟩ := s_bind hs
    rw [g_r_to g0, g_i_to g1, g_i_to g2, g_i_to g3, g_i_to g4, g_i_to g5, g_i_to g6, g_r_to g7, g_e_to ge]
    exact v_X8_more_111 hs k
  rcases s_ite hs with ⟨c, hs⟩ | ⟨-, hs⟩
  · subst c
    unfold U_X8_more_121 at hs
    obtain ⟨a0, g0, hs⟩ := s_bind hs
    obtain ⟨a1, g1, hs⟩ := s_bind hs
    obtain ⟨a2, g2, hs⟩ := s_bind hs
    obtain ⟨u9, ge, hs⟩ := s_bind hs
    rw [g_r_to g0, g_i_to g1, g_i_to g2, g_e_to ge]
    exact v_X8_more_121 hs k
  cases hs
theorem t_X8_more {G : sG} {d : Nat} {v0 : Nat} {v1 : Int32} {v2 : Int32} {σ : sS} {q : Int32 × sS} (h : F_X8_more v0 v1 v2 σ = some q) : s_T G (d + 5) M_X8_more [.ref v0, .int v1, .int v2] σ (e_I q) := by
  unfold F_X8_more at h
  obtain ⟨-, -, h⟩ := s_bind h
  exact s_ofV rfl (by decide) (Nat.le_of_ble_eq_true rfl) rfl rfl (s_run_ind (V := fun x r => s_V G (d + 5) M_X8_more [.ref v0, .int v1, .int v2] σ Y_X8_more x (e_I r)) (fun x z r hs hk => v_X8_more hs (by cases z <;> exact hk)) h)
/-! X8_receipts -/
noncomputable def T_X8_receipts_0 (v0 : Nat) (σ : sS) : Option (sZ Int32) :=
  (s_fr σ v0 8 1).bind fun x1 =>
  (s_ai σ x1 3).bind fun x2 =>
  some (.inr (x2, σ))
noncomputable def U_X8_receipts_0 (vs : List Value) (σ : sS) : Option (sZ Int32) := (g_r vs).bind fun a0 => (g_e a0.2).bind fun _ => T_X8_receipts_0 a0.1 σ
noncomputable def S_X8_receipts (x : sL) : Option (sZ Int32) := if x.1 = 0 then U_X8_receipts_0 x.2.1 x.2.2 else none
def Y_X8_receipts (pc : Nat) : List Nat := if pc = 0 then [0] else []
noncomputable def F_X8_receipts (v0 : Nat) (σ : sS) : Option (Int32 × sS) := (s_is σ v0 8).bind fun _ => s_run S_X8_receipts (0, [.ref v0], σ)
theorem l_X8_receipts_0 {v0 : Nat} {σ : sS} {z : sZ Int32} (hf : T_X8_receipts_0 v0 σ = some z) : s_lz σ z := by
  unfold T_X8_receipts_0 at hf
  obtain ⟨x1, -, hf⟩ := s_bind hf
  obtain ⟨x2, -, hf⟩ := s_bind hf
  cases hf
  exact s_le.rf
theorem l_X8_receipts_s {x : sL} {z : sZ Int32} (hs : S_X8_receipts x = some z) : s_lz x.2.2 z := by
  obtain ⟨pc, vs, σ⟩ := x
  unfold S_X8_receipts at hs
  dsimp only at hs ⊢
  rcases s_ite hs with ⟨c, hs⟩ | ⟨-, hs⟩
  · subst c
    unfold U_X8_receipts_0 at hs
    obtain ⟨a0, g0, hs⟩ := s_bind hs
    obtain ⟨u9, ge, hs⟩ := s_bind hs
    exact l_X8_receipts_0 hs
  cases hs
theorem l_X8_receipts {v0 : Nat} {σ : sS} {q : Int32 × sS} (h : F_X8_receipts v0 σ = some q) : s_le σ q.2 := by
  unfold F_X8_receipts at h
  obtain ⟨-, -, h⟩ := s_bind h
  exact s_run_ind (V := fun x r => s_le x.2.2 r.2) (fun x z r hs hk => by
    have h9 := l_X8_receipts_s hs
    cases z with
    | inl y => exact s_le.tr h9 hk
    | inr q => cases hk; exact h9) h
theorem b_X8_receipts {v0 : Nat} {σ : sS} {q : Int32 × sS} (h : F_X8_receipts v0 σ = some q) : ∃ fs, σ.1 v0 = some (.inr (8, fs)) := by
  unfold F_X8_receipts at h
  obtain ⟨u, hu, -⟩ := s_bind h
  exact s_is_to hu
set_option maxRecDepth 100000 in
set_option maxHeartbeats 4000000 in
theorem v_X8_receipts_0 {G : sG} {d : Nat} {vs0 : List Value} {σ0 : sS} {v0 : Nat} {σ : sS} {z : sZ Int32} {r : Int32 × sS} (hf : T_X8_receipts_0 v0 σ = some z) (k : s_K G (d + 1) M_X8_receipts vs0 σ0 Y_X8_receipts e_I z r) : s_V G (d + 1) M_X8_receipts vs0 σ0 Y_X8_receipts (0, [.ref v0], σ) (e_I r) := by
  have le0 : s_le σ (e_I r).2 := s_lek hem_I (l_X8_receipts_0 hf) k
  refine ⟨le0, ?_⟩
  intro p e s m below meth c H locs cells slots ls X I hn1 hn2 hl
  have hn : cells + σ0.2.1 ≤ σ.2.1 ∧ slots + σ0.2.2.1 ≤ σ.2.2.1 := ⟨hn1, hn2⟩
  have hl : lv_has ls 1 [(0, .ref v0)] := hl
  have hx := X.1
  have hb : c.code = cX8_receipts := X.2.1
  have hown : s.vm.findClass RX8 = some m.cls := X.2.2.2.2.2.1
  have hts := X.2.2.2.2.2.2.1
  refine W.eq (g2 := F0 m 0 ls []) rfl ?_
  unfold T_X8_receipts_0 at hf
  obtain ⟨x1, h1, hf⟩ := s_bind hf
  obtain ⟨x2, h2, hf⟩ := s_bind hf
  cases hf
  have k : _ = r := k
  subst k
  refine lv_aload_n hx hb dX8_receipts_0 rfl (lv_at hl 0 rfl) ?_
  refine r_gr X I fl_X8_13 h1 dX8_receipts_1 ?_
  refine lv_iconst (v := 3) hx hb dX8_receipts_4 (by decide) ?_
  refine r_iald X I h2 dX8_receipts_5 ?_
  exact r_iret X I rfl rfl rfl hn dX8_receipts_6
theorem v_X8_receipts {G : sG} {d : Nat} {vs0 : List Value} {σ0 : sS} {x : sL} {z : sZ Int32} {r : Int32 × sS} (hs : S_X8_receipts x = some z) (k : s_K G (d + 1) M_X8_receipts vs0 σ0 Y_X8_receipts e_I z r) : s_V G (d + 1) M_X8_receipts vs0 σ0 Y_X8_receipts x (e_I r) := by
  obtain ⟨pc, vs, σ⟩ := x
  unfold S_X8_receipts at hs
  dsimp only at hs
  rcases s_ite hs with ⟨c, hs⟩ | ⟨-, hs⟩
  · subst c
    unfold U_X8_receipts_0 at hs
    obtain ⟨a0, g0, hs⟩ := s_bind hs
    obtain ⟨u9, ge, hs⟩ := s_bind hs
    rw [g_r_to g0, g_e_to ge]
    exact v_X8_receipts_0 hs k
  cases hs
theorem t_X8_receipts {G : sG} {d : Nat} {v0 : Nat} {σ : sS} {q : Int32 × sS} (h : F_X8_receipts v0 σ = some q) : s_T G (d + 1) M_X8_receipts [.ref v0] σ (e_I q) := by
  unfold F_X8_receipts at h
  obtain ⟨-, -, h⟩ := s_bind h
  exact s_ofV rfl (by decide) (Nat.le_of_ble_eq_true rfl) rfl rfl (s_run_ind (V := fun x r => s_V G (d + 1) M_X8_receipts [.ref v0] σ Y_X8_receipts x (e_I r)) (fun x z r hs hk => v_X8_receipts hs (by cases z <;> exact hk)) h)
/-! X8_ofReceipt -/
noncomputable def T_X8_ofReceipt_0 (v0 : Nat) (v1 : Int32) (v2 : Int32) (σ : sS) : Option (sZ Int32) :=
  (s_fr σ v0 8 1).bind fun x1 =>
  (s_ai σ x1 ((1532 + (5 * v1)) + v2)).bind fun x2 =>
  some (.inr (x2, σ))
noncomputable def U_X8_ofReceipt_0 (vs : List Value) (σ : sS) : Option (sZ Int32) := (g_r vs).bind fun a0 => (g_i a0.2).bind fun a1 => (g_i a1.2).bind fun a2 => (g_e a2.2).bind fun _ => T_X8_ofReceipt_0 a0.1 a1.1 a2.1 σ
noncomputable def S_X8_ofReceipt (x : sL) : Option (sZ Int32) := if x.1 = 0 then U_X8_ofReceipt_0 x.2.1 x.2.2 else none
def Y_X8_ofReceipt (pc : Nat) : List Nat := if pc = 0 then [0, 1, 2] else []
noncomputable def F_X8_ofReceipt (v0 : Nat) (v1 : Int32) (v2 : Int32) (σ : sS) : Option (Int32 × sS) := (s_is σ v0 8).bind fun _ => s_run S_X8_ofReceipt (0, [.ref v0, .int v1, .int v2], σ)
theorem l_X8_ofReceipt_0 {v0 : Nat} {v1 : Int32} {v2 : Int32} {σ : sS} {z : sZ Int32} (hf : T_X8_ofReceipt_0 v0 v1 v2 σ = some z) : s_lz σ z := by
  unfold T_X8_ofReceipt_0 at hf
  obtain ⟨x1, -, hf⟩ := s_bind hf
  obtain ⟨x2, -, hf⟩ := s_bind hf
  cases hf
  exact s_le.rf
theorem l_X8_ofReceipt_s {x : sL} {z : sZ Int32} (hs : S_X8_ofReceipt x = some z) : s_lz x.2.2 z := by
  obtain ⟨pc, vs, σ⟩ := x
  unfold S_X8_ofReceipt at hs
  dsimp only at hs ⊢
  rcases s_ite hs with ⟨c, hs⟩ | ⟨-, hs⟩
  · subst c
    unfold U_X8_ofReceipt_0 at hs
    obtain ⟨a0, g0, hs⟩ := s_bind hs
    obtain ⟨a1, g1, hs⟩ := s_bind hs
    obtain ⟨a2, g2, hs⟩ := s_bind hs
    obtain ⟨u9, ge, hs⟩ := s_bind hs
    exact l_X8_ofReceipt_0 hs
  cases hs
theorem l_X8_ofReceipt {v0 : Nat} {v1 : Int32} {v2 : Int32} {σ : sS} {q : Int32 × sS} (h : F_X8_ofReceipt v0 v1 v2 σ = some q) : s_le σ q.2 := by
  unfold F_X8_ofReceipt at h
  obtain ⟨-, -, h⟩ := s_bind h
  exact s_run_ind (V := fun x r => s_le x.2.2 r.2) (fun x z r hs hk => by
    have h9 := l_X8_ofReceipt_s hs
    cases z with
    | inl y => exact s_le.tr h9 hk
    | inr q => cases hk; exact h9) h
theorem b_X8_ofReceipt {v0 : Nat} {v1 : Int32} {v2 : Int32} {σ : sS} {q : Int32 × sS} (h : F_X8_ofReceipt v0 v1 v2 σ = some q) : ∃ fs, σ.1 v0 = some (.inr (8, fs)) := by
  unfold F_X8_ofReceipt at h
  obtain ⟨u, hu, -⟩ := s_bind h
  exact s_is_to hu
set_option maxRecDepth 100000 in
set_option maxHeartbeats 4000000 in
theorem v_X8_ofReceipt_0 {G : sG} {d : Nat} {vs0 : List Value} {σ0 : sS} {v0 : Nat} {v1 : Int32} {v2 : Int32} {σ : sS} {z : sZ Int32} {r : Int32 × sS} (hf : T_X8_ofReceipt_0 v0 v1 v2 σ = some z) (k : s_K G (d + 1) M_X8_ofReceipt vs0 σ0 Y_X8_ofReceipt e_I z r) : s_V G (d + 1) M_X8_ofReceipt vs0 σ0 Y_X8_ofReceipt (0, [.ref v0, .int v1, .int v2], σ) (e_I r) := by
  have le0 : s_le σ (e_I r).2 := s_lek hem_I (l_X8_ofReceipt_0 hf) k
  refine ⟨le0, ?_⟩
  intro p e s m below meth c H locs cells slots ls X I hn1 hn2 hl
  have hn : cells + σ0.2.1 ≤ σ.2.1 ∧ slots + σ0.2.2.1 ≤ σ.2.2.1 := ⟨hn1, hn2⟩
  have hl : lv_has ls 3 [(0, .ref v0), (1, .int v1), (2, .int v2)] := hl
  have hx := X.1
  have hb : c.code = cX8_ofReceipt := X.2.1
  have hown : s.vm.findClass RX8 = some m.cls := X.2.2.2.2.2.1
  have hts := X.2.2.2.2.2.2.1
  refine W.eq (g2 := F0 m 0 ls []) rfl ?_
  unfold T_X8_ofReceipt_0 at hf
  obtain ⟨x1, h1, hf⟩ := s_bind hf
  obtain ⟨x2, h2, hf⟩ := s_bind hf
  cases hf
  have k : _ = r := k
  subst k
  refine lv_aload_n hx hb dX8_ofReceipt_0 rfl (lv_at hl 0 rfl) ?_
  refine r_gr X I fl_X8_13 h1 dX8_ofReceipt_1 ?_
  refine lv_sipush (v := 1532) hx hb dX8_ofReceipt_4 (by decide) ?_
  refine lv_iconst (v := 5) hx hb dX8_ofReceipt_7 (by decide) ?_
  refine lv_iload_n hx hb dX8_ofReceipt_8 rfl (lv_at hl 1 rfl) ?_
  refine lv_imul hx hb dX8_ofReceipt_9 ?_
  refine lv_iadd hx hb dX8_ofReceipt_10 ?_
  refine lv_iload_n hx hb dX8_ofReceipt_11 rfl (lv_at hl 2 rfl) ?_
  refine lv_iadd hx hb dX8_ofReceipt_12 ?_
  refine r_iald X I h2 dX8_ofReceipt_13 ?_
  exact r_iret X I rfl rfl rfl hn dX8_ofReceipt_14
theorem v_X8_ofReceipt {G : sG} {d : Nat} {vs0 : List Value} {σ0 : sS} {x : sL} {z : sZ Int32} {r : Int32 × sS} (hs : S_X8_ofReceipt x = some z) (k : s_K G (d + 1) M_X8_ofReceipt vs0 σ0 Y_X8_ofReceipt e_I z r) : s_V G (d + 1) M_X8_ofReceipt vs0 σ0 Y_X8_ofReceipt x (e_I r) := by
  obtain ⟨pc, vs, σ⟩ := x
  unfold S_X8_ofReceipt at hs
  dsimp only at hs
  rcases s_ite hs with ⟨c, hs⟩ | ⟨-, hs⟩
  · subst c
    unfold U_X8_ofReceipt_0 at hs
    obtain ⟨a0, g0, hs⟩ := s_bind hs
    obtain ⟨a1, g1, hs⟩ := s_bind hs
    obtain ⟨a2, g2, hs⟩ := s_bind hs
    obtain ⟨u9, ge, hs⟩ := s_bind hs
    rw [g_r_to g0, g_i_to g1, g_i_to g2, g_e_to ge]
    exact v_X8_ofReceipt_0 hs k
  cases hs
theorem t_X8_ofReceipt {G : sG} {d : Nat} {v0 : Nat} {v1 : Int32} {v2 : Int32} {σ : sS} {q : Int32 × sS} (h : F_X8_ofReceipt v0 v1 v2 σ = some q) : s_T G (d + 1) M_X8_ofReceipt [.ref v0, .int v1, .int v2] σ (e_I q) := by
  unfold F_X8_ofReceipt at h
  obtain ⟨-, -, h⟩ := s_bind h
  exact s_ofV rfl (by decide) (Nat.le_of_ble_eq_true rfl) rfl rfl (s_run_ind (V := fun x r => s_V G (d + 1) M_X8_ofReceipt [.ref v0, .int v1, .int v2] σ Y_X8_ofReceipt x (e_I r)) (fun x z r hs hk => v_X8_ofReceipt hs (by cases z <;> exact hk)) h)
/-! X8_isVoid -/
noncomputable def T_X8_isVoid_0 (v0 : Nat) (v1 : Int32) (σ : sS) : Option (sZ Int32) :=
  (F_X8_ofReceipt v0 v1 4 σ).bind fun q1 =>
  if q1.1 = 1 then (some (.inr (1, q1.2)))
  else (some (.inr (0, q1.2)))
noncomputable def U_X8_isVoid_0 (vs : List Value) (σ : sS) : Option (sZ Int32) := (g_r vs).bind fun a0 => (g_i a0.2).bind fun a1 => (g_e a1.2).bind fun _ => T_X8_isVoid_0 a0.1 a1.1 σ
noncomputable def S_X8_isVoid (x : sL) : Option (sZ Int32) := if x.1 = 0 then U_X8_isVoid_0 x.2.1 x.2.2 else none
def Y_X8_isVoid (pc : Nat) : List Nat := if pc = 0 then [0, 1] else []
noncomputable def F_X8_isVoid (v0 : Nat) (v1 : Int32) (σ : sS) : Option (Int32 × sS) := (s_is σ v0 8).bind fun _ => s_run S_X8_isVoid (0, [.ref v0, .int v1], σ)
theorem l_X8_isVoid_0 {v0 : Nat} {v1 : Int32} {σ : sS} {z : sZ Int32} (hf : T_X8_isVoid_0 v0 v1 σ = some z) : s_lz σ z := by
  unfold T_X8_isVoid_0 at hf
  obtain ⟨q1, hh, hf⟩ := s_bind hf
  refine s_lz.tr (l_X8_ofReceipt hh) ?_
  rcases s_ite hf with ⟨-, hf⟩ | ⟨-, hf⟩
  · cases hf
    exact s_le.rf
  · cases hf
    exact s_le.rf
theorem l_X8_isVoid_s {x : sL} {z : sZ Int32} (hs : S_X8_isVoid x = some z) : s_lz x.2.2 z := by
  obtain ⟨pc, vs, σ⟩ := x
  unfold S_X8_isVoid at hs
  dsimp only at hs ⊢
  rcases s_ite hs with ⟨c, hs⟩ | ⟨-, hs⟩
  · subst c
    unfold U_X8_isVoid_0 at hs
    obtain ⟨a0, g0, hs⟩ := s_bind hs
    obtain ⟨a1, g1, hs⟩ := s_bind hs
    obtain ⟨u9, ge, hs⟩ := s_bind hs
    exact l_X8_isVoid_0 hs
  cases hs
theorem l_X8_isVoid {v0 : Nat} {v1 : Int32} {σ : sS} {q : Int32 × sS} (h : F_X8_isVoid v0 v1 σ = some q) : s_le σ q.2 := by
  unfold F_X8_isVoid at h
  obtain ⟨-, -, h⟩ := s_bind h
  exact s_run_ind (V := fun x r => s_le x.2.2 r.2) (fun x z r hs hk => by
    have h9 := l_X8_isVoid_s hs
    cases z with
    | inl y => exact s_le.tr h9 hk
    | inr q => cases hk; exact h9) h
theorem b_X8_isVoid {v0 : Nat} {v1 : Int32} {σ : sS} {q : Int32 × sS} (h : F_X8_isVoid v0 v1 σ = some q) : ∃ fs, σ.1 v0 = some (.inr (8, fs)) := by
  unfold F_X8_isVoid at h
  obtain ⟨u, hu, -⟩ := s_bind h
  exact s_is_to hu
set_option maxRecDepth 100000 in
set_option maxHeartbeats 4000000 in
theorem v_X8_isVoid_0 {G : sG} {d : Nat} {vs0 : List Value} {σ0 : sS} {v0 : Nat} {v1 : Int32} {σ : sS} {z : sZ Int32} {r : Int32 × sS} (hf : T_X8_isVoid_0 v0 v1 σ = some z) (k : s_K G (d + 2) M_X8_isVoid vs0 σ0 Y_X8_isVoid e_I z r) : s_V G (d + 2) M_X8_isVoid vs0 σ0 Y_X8_isVoid (0, [.ref v0, .int v1], σ) (e_I r) := by
  have le0 : s_le σ (e_I r).2 := s_lek hem_I (l_X8_isVoid_0 hf) k
  refine ⟨le0, ?_⟩
  intro p e s m below meth c H locs cells slots ls X I hn1 hn2 hl
  have hn : cells + σ0.2.1 ≤ σ.2.1 ∧ slots + σ0.2.2.1 ≤ σ.2.2.1 := ⟨hn1, hn2⟩
  have hl : lv_has ls 2 [(0, .ref v0), (1, .int v1)] := hl
  have hx := X.1
  have hb : c.code = cX8_isVoid := X.2.1
  have hown : s.vm.findClass RX8 = some m.cls := X.2.2.2.2.2.1
  have hts := X.2.2.2.2.2.2.1
  refine W.eq (g2 := F0 m 0 ls []) rfl ?_
  unfold T_X8_isVoid_0 at hf
  obtain ⟨q1, h1, hf⟩ := s_bind hf
  have le2 : s_le q1.2 (e_I r).2 := by
    refine s_lek hem_I ?_ k
    rcases s_ite hf with ⟨-, hf⟩ | ⟨-, hf⟩
    · cases hf
      exact s_le.rf
    · cases hf
      exact s_le.rf
  refine lv_aload_n hx hb dX8_isVoid_0 rfl (lv_at hl 0 rfl) ?_
  refine lv_iload_n hx hb dX8_isVoid_1 rfl (lv_at hl 1 rfl) ?_
  refine lv_iconst (v := 4) hx hb dX8_isVoid_2 (by decide) ?_
  refine r_callV (Y := M_X8_ofReceipt) (v := some (.int q1.1)) X I w_2307 my_X8_ofReceipt (by omega) (t_X8_ofReceipt (G := G) (d := d + 0) h1) (b_X8_ofReceipt h1) rfl rfl hl.1 rfl (Nat.le_of_ble_eq_true rfl) hn le2 dX8_isVoid_3 (fun H locs cells slots I hn1 hn2 => ?_)
  have I : s_I G q1.2 s H locs := I
  have hn : cells + σ0.2.1 ≤ q1.2.2.1 ∧ slots + σ0.2.2.1 ≤ q1.2.2.2.1 := ⟨hn1, hn2⟩
  refine lv_iconst (v := 1) hx hb dX8_isVoid_6 (by decide) ?_
  rcases s_ite hf with ⟨c3, hf⟩ | ⟨c3, hf⟩
  · refine lv_icmp_ne (tgt := 14) hx hb dX8_isVoid_7 (by decide) (fun n => absurd c3 n) (fun _ => ?_)
    cases hf
    have k : _ = r := k
    subst k
    refine lv_iconst (v := 1) hx hb dX8_isVoid_10 (by decide) ?_
    refine lv_goto (tgt := 15) hx hb dX8_isVoid_11 (by decide) ?_
    exact r_iret X I rfl rfl rfl hn dX8_isVoid_15
  · refine lv_icmp_ne (tgt := 14) hx hb dX8_isVoid_7 (by decide) (fun _ => ?_) (fun n => absurd n c3)
    cases hf
    have k : _ = r := k
    subst k
    refine lv_iconst (v := 0) hx hb dX8_isVoid_14 (by decide) ?_
    exact r_iret X I rfl rfl rfl hn dX8_isVoid_15
theorem v_X8_isVoid {G : sG} {d : Nat} {vs0 : List Value} {σ0 : sS} {x : sL} {z : sZ Int32} {r : Int32 × sS} (hs : S_X8_isVoid x = some z) (k : s_K G (d + 2) M_X8_isVoid vs0 σ0 Y_X8_isVoid e_I z r) : s_V G (d + 2) M_X8_isVoid vs0 σ0 Y_X8_isVoid x (e_I r) := by
  obtain ⟨pc, vs, σ⟩ := x
  unfold S_X8_isVoid at hs
  dsimp only at hs
  rcases s_ite hs with ⟨c, hs⟩ | ⟨-, hs⟩
  · subst c
    unfold U_X8_isVoid_0 at hs
    obtain ⟨a0, g0, hs⟩ := s_bind hs
    obtain ⟨a1, g1, hs⟩ := s_bind hs
    obtain ⟨u9, ge, hs⟩ := s_bind hs
    rw [g_r_to g0, g_i_to g1, g_e_to ge]
    exact v_X8_isVoid_0 hs k
  cases hs
theorem t_X8_isVoid {G : sG} {d : Nat} {v0 : Nat} {v1 : Int32} {σ : sS} {q : Int32 × sS} (h : F_X8_isVoid v0 v1 σ = some q) : s_T G (d + 2) M_X8_isVoid [.ref v0, .int v1] σ (e_I q) := by
  unfold F_X8_isVoid at h
  obtain ⟨-, -, h⟩ := s_bind h
  exact s_ofV rfl (by decide) (Nat.le_of_ble_eq_true rfl) rfl rfl (s_run_ind (V := fun x r => s_V G (d + 2) M_X8_isVoid [.ref v0, .int v1] σ Y_X8_isVoid x (e_I r)) (fun x z r hs hk => v_X8_isVoid hs (by cases z <;> exact hk)) h)
/-! X8_isAhead -/
noncomputable def T_X8_isAhead_0 (v0 : Nat) (v1 : Int32) (v2 : Int32) (σ : sS) : Option (sZ Int32) :=
  (F_X8_ofReceipt v0 v1 3 σ).bind fun q1 =>
  (F_X8_ofReceipt v0 v2 3 q1.2).bind fun q2 =>
  if q1.1 = q2.1 then (if v2 ≤ v1 then (some (.inr (0, q2.2)))
  else (some (.inr (1, q2.2))))
  else ((F_X8_ofReceipt v0 v1 3 q2.2).bind fun q3 =>
  (F_X8_ofReceipt v0 v2 3 q3.2).bind fun q4 =>
  if q4.1 ≤ q3.1 then (some (.inr (0, q4.2)))
  else (some (.inr (1, q4.2))))
noncomputable def U_X8_isAhead_0 (vs : List Value) (σ : sS) : Option (sZ Int32) := (g_r vs).bind fun a0 => (g_i a0.2).bind fun a1 => (g_i a1.2).bind fun a2 => (g_e a2.2).bind fun _ => T_X8_isAhead_0 a0.1 a1.1 a2.1 σ
noncomputable def S_X8_isAhead (x : sL) : Option (sZ Int32) := if x.1 = 0 then U_X8_isAhead_0 x.2.1 x.2.2 else none
def Y_X8_isAhead (pc : Nat) : List Nat := if pc = 0 then [0, 1, 2] else []
noncomputable def F_X8_isAhead (v0 : Nat) (v1 : Int32) (v2 : Int32) (σ : sS) : Option (Int32 × sS) := (s_is σ v0 8).bind fun _ => s_run S_X8_isAhead (0, [.ref v0, .int v1, .int v2], σ)
theorem l_X8_isAhead_0 {v0 : Nat} {v1 : Int32} {v2 : Int32} {σ : sS} {z : sZ Int32} (hf : T_X8_isAhead_0 v0 v1 v2 σ = some z) : s_lz σ z := by
  unfold T_X8_isAhead_0 at hf
  obtain ⟨q1, hh, hf⟩ := s_bind hf
  refine s_lz.tr (l_X8_ofReceipt hh) ?_
  obtain ⟨q2, hh, hf⟩ := s_bind hf
  refine s_lz.tr (l_X8_ofReceipt hh) ?_
  rcases s_ite hf with ⟨-, hf⟩ | ⟨-, hf⟩
  · rcases s_ite hf with ⟨-, hf⟩ | ⟨-, hf⟩
    · cases hf
      exact s_le.rf
    · cases hf
      exact s_le.rf
  · obtain ⟨q3, hh, hf⟩ := s_bind hf
    refine s_lz.tr (l_X8_ofReceipt hh) ?_
    obtain ⟨q4, hh, hf⟩ := s_bind hf
    refine s_lz.tr (l_X8_ofReceipt hh) ?_
    rcases s_ite hf with ⟨-, hf⟩ | ⟨-, hf⟩
    · cases hf
      exact s_le.rf
    · cases hf
      exact s_le.rf
theorem l_X8_isAhead_s {x : sL} {z : sZ Int32} (hs : S_X8_isAhead x = some z) : s_lz x.2.2 z := by
  obtain ⟨pc, vs, σ⟩ := x
  unfold S_X8_isAhead at hs
  dsimp only at hs ⊢
  rcases s_ite hs with ⟨c, hs⟩ | ⟨-, hs⟩
  · subst c
    unfold U_X8_isAhead_0 at hs
    obtain ⟨a0, g0, hs⟩ := s_bind hs
    obtain ⟨a1, g1, hs⟩ := s_bind hs
    obtain ⟨a2, g2, hs⟩ := s_bind hs
    obtain ⟨u9, ge, hs⟩ := s_bind hs
    exact l_X8_isAhead_0 hs
  cases hs
theorem l_X8_isAhead {v0 : Nat} {v1 : Int32} {v2 : Int32} {σ : sS} {q : Int32 × sS} (h : F_X8_isAhead v0 v1 v2 σ = some q) : s_le σ q.2 := by
  unfold F_X8_isAhead at h
  obtain ⟨-, -, h⟩ := s_bind h
  exact s_run_ind (V := fun x r => s_le x.2.2 r.2) (fun x z r hs hk => by
    have h9 := l_X8_isAhead_s hs
    cases z with
    | inl y => exact s_le.tr h9 hk
    | inr q => cases hk; exact h9) h
theorem b_X8_isAhead {v0 : Nat} {v1 : Int32} {v2 : Int32} {σ : sS} {q : Int32 × sS} (h : F_X8_isAhead v0 v1 v2 σ = some q) : ∃ fs, σ.1 v0 = some (.inr (8, fs)) := by
  unfold F_X8_isAhead at h
  obtain ⟨u, hu, -⟩ := s_bind h
  exact s_is_to hu
set_option maxRecDepth 100000 in
set_option maxHeartbeats 4000000 in
theorem v_X8_isAhead_0 {G : sG} {d : Nat} {vs0 : List Value} {σ0 : sS} {v0 : Nat} {v1 : Int32} {v2 : Int32} {σ : sS} {z : sZ Int32} {r : Int32 × sS} (hf : T_X8_isAhead_0 v0 v1 v2 σ = some z) (k : s_K G (d + 2) M_X8_isAhead vs0 σ0 Y_X8_isAhead e_I z r) : s_V G (d + 2) M_X8_isAhead vs0 σ0 Y_X8_isAhead (0, [.ref v0, .int v1, .int v2], σ) (e_I r) := by
  have le0 : s_le σ (e_I r).2 := s_lek hem_I (l_X8_isAhead_0 hf) k
  refine ⟨le0, ?_⟩
  intro p e s m below meth c H locs cells slots ls X I hn1 hn2 hl
  have hn : cells + σ0.2.1 ≤ σ.2.1 ∧ slots + σ0.2.2.1 ≤ σ.2.2.1 := ⟨hn1, hn2⟩
  have hl : lv_has ls 3 [(0, .ref v0), (1, .int v1), (2, .int v2)] := hl
  have hx := X.1
  have hb : c.code = cX8_isAhead := X.2.1
  have hown : s.vm.findClass RX8 = some m.cls := X.2.2.2.2.2.1
  have hts := X.2.2.2.2.2.2.1
  refine W.eq (g2 := F0 m 0 ls []) rfl ?_
  unfold T_X8_isAhead_0 at hf
  obtain ⟨q1, h1, hf⟩ := s_bind hf
  obtain ⟨q2, h2, hf⟩ := s_bind hf
  have le3 : s_le q2.2 (e_I r).2 := by
    refine s_lek hem_I ?_ k
    rcases s_ite hf with ⟨-, hf⟩ | ⟨-, hf⟩
    · rcases s_ite hf with ⟨-, hf⟩ | ⟨-, hf⟩
      · cases hf
        exact s_le.rf
      · cases hf
        exact s_le.rf
    · obtain ⟨q3, hh, hf⟩ := s_bind hf
      refine s_lz.tr (l_X8_ofReceipt hh) ?_
      obtain ⟨q4, hh, hf⟩ := s_bind hf
      refine s_lz.tr (l_X8_ofReceipt hh) ?_
      rcases s_ite hf with ⟨-, hf⟩ | ⟨-, hf⟩
      · cases hf
        exact s_le.rf
      · cases hf
        exact s_le.rf
  have le4 := s_le.tr (l_X8_ofReceipt h2) le3
  refine lv_aload_n hx hb dX8_isAhead_0 rfl (lv_at hl 0 rfl) ?_
  refine lv_iload_n hx hb dX8_isAhead_1 rfl (lv_at hl 1 rfl) ?_
  refine lv_iconst (v := 3) hx hb dX8_isAhead_2 (by decide) ?_
  refine r_callV (Y := M_X8_ofReceipt) (v := some (.int q1.1)) X I w_2307 my_X8_ofReceipt (by omega) (t_X8_ofReceipt (G := G) (d := d + 0) h1) (b_X8_ofReceipt h1) rfl rfl hl.1 rfl (Nat.le_of_ble_eq_true rfl) hn le4 dX8_isAhead_3 (fun H locs cells slots I hn1 hn2 => ?_)
  have I : s_I G q1.2 s H locs := I
  have hn : cells + σ0.2.1 ≤ q1.2.2.1 ∧ slots + σ0.2.2.1 ≤ q1.2.2.2.1 := ⟨hn1, hn2⟩
  refine lv_aload_n hx hb dX8_isAhead_6 rfl (lv_at hl 0 rfl) ?_
  refine lv_iload_n hx hb dX8_isAhead_7 rfl (lv_at hl 2 rfl) ?_
  refine lv_iconst (v := 3) hx hb dX8_isAhead_8 (by decide) ?_
  refine r_callV (Y := M_X8_ofReceipt) (v := some (.int q2.1)) X I w_2307 my_X8_ofReceipt (by omega) (t_X8_ofReceipt (G := G) (d := d + 0) h2) (b_X8_ofReceipt h2) rfl rfl hl.1 rfl (Nat.le_of_ble_eq_true rfl) hn le3 dX8_isAhead_9 (fun H locs cells slots I hn1 hn2 => ?_)
  have I : s_I G q2.2 s H locs := I
  have hn : cells + σ0.2.1 ≤ q2.2.2.1 ∧ slots + σ0.2.2.1 ≤ q2.2.2.2.1 := ⟨hn1, hn2⟩
  rcases s_ite hf with ⟨c5, hf⟩ | ⟨c5, hf⟩
  · refine lv_icmp_eq (tgt := 38) hx hb dX8_isAhead_12 (by decide) (fun _ => ?_) (fun n => absurd c5 n)
    refine lv_iload_n hx hb dX8_isAhead_38 rfl (lv_at hl 1 rfl) ?_
    refine lv_iload_n hx hb dX8_isAhead_39 rfl (lv_at hl 2 rfl) ?_
    rcases s_ite hf with ⟨c6, hf⟩ | ⟨c6, hf⟩
    · refine lv_icmp_ge (tgt := 47) hx hb dX8_isAhead_40 (by decide) (fun _ => ?_) (fun n => absurd c6 n)
      cases hf
      have k : _ = r := k
      subst k
      refine lv_iconst (v := 0) hx hb dX8_isAhead_47 (by decide) ?_
      exact r_iret X I rfl rfl rfl hn dX8_isAhead_48
    · refine lv_icmp_ge (tgt := 47) hx hb dX8_isAhead_40 (by decide) (fun n => absurd n c6) (fun _ => ?_)
      cases hf
      have k : _ = r := k
      subst k
      refine lv_iconst (v := 1) hx hb dX8_isAhead_43 (by decide) ?_
      refine lv_goto (tgt := 48) hx hb dX8_isAhead_44 (by decide) ?_
      exact r_iret X I rfl rfl rfl hn dX8_isAhead_48
  · refine lv_icmp_eq (tgt := 38) hx hb dX8_isAhead_12 (by decide) (fun n => absurd n c5) (fun _ => ?_)
    obtain ⟨q3, h7, hf⟩ := s_bind hf
    obtain ⟨q4, h8, hf⟩ := s_bind hf
    have le9 : s_le q4.2 (e_I r).2 := by
      refine s_lek hem_I ?_ k
      rcases s_ite hf with ⟨-, hf⟩ | ⟨-, hf⟩
      · cases hf
        exact s_le.rf
      · cases hf
        exact s_le.rf
    have le10 := s_le.tr (l_X8_ofReceipt h8) le9
    refine lv_aload_n hx hb dX8_isAhead_15 rfl (lv_at hl 0 rfl) ?_
    refine lv_iload_n hx hb dX8_isAhead_16 rfl (lv_at hl 1 rfl) ?_
    refine lv_iconst (v := 3) hx hb dX8_isAhead_17 (by decide) ?_
    refine r_callV (Y := M_X8_ofReceipt) (v := some (.int q3.1)) X I w_2307 my_X8_ofReceipt (by omega) (t_X8_ofReceipt (G := G) (d := d + 0) h7) (b_X8_ofReceipt h7) rfl rfl hl.1 rfl (Nat.le_of_ble_eq_true rfl) hn le10 dX8_isAhead_18 (fun H locs cells slots I hn1 hn2 => ?_)
    have I : s_I G q3.2 s H locs := I
    have hn : cells + σ0.2.1 ≤ q3.2.2.1 ∧ slots + σ0.2.2.1 ≤ q3.2.2.2.1 := ⟨hn1, hn2⟩
    refine lv_aload_n hx hb dX8_isAhead_21 rfl (lv_at hl 0 rfl) ?_
    refine lv_iload_n hx hb dX8_isAhead_22 rfl (lv_at hl 2 rfl) ?_
    refine lv_iconst (v := 3) hx hb dX8_isAhead_23 (by decide) ?_
    refine r_callV (Y := M_X8_ofReceipt) (v := some (.int q4.1)) X I w_2307 my_X8_ofReceipt (by omega) (t_X8_ofReceipt (G := G) (d := d + 0) h8) (b_X8_ofReceipt h8) rfl rfl hl.1 rfl (Nat.le_of_ble_eq_true rfl) hn le9 dX8_isAhead_24 (fun H locs cells slots I hn1 hn2 => ?_)
    have I : s_I G q4.2 s H locs := I
    have hn : cells + σ0.2.1 ≤ q4.2.2.1 ∧ slots + σ0.2.2.1 ≤ q4.2.2.2.1 := ⟨hn1, hn2⟩
    rcases s_ite hf with ⟨c11, hf⟩ | ⟨c11, hf⟩
    · refine lv_icmp_ge (tgt := 34) hx hb dX8_isAhead_27 (by decide) (fun _ => ?_) (fun n => absurd c11 n)
      cases hf
      have k : _ = r := k
      subst k
      refine lv_iconst (v := 0) hx hb dX8_isAhead_34 (by decide) ?_
      refine lv_goto (tgt := 48) hx hb dX8_isAhead_35 (by decide) ?_
      exact r_iret X I rfl rfl rfl hn dX8_isAhead_48
    · refine lv_icmp_ge (tgt := 34) hx hb dX8_isAhead_27 (by decide) (fun n => absurd n c11) (fun _ => ?_)
      cases hf
      have k : _ = r := k
      subst k
      refine lv_iconst (v := 1) hx hb dX8_isAhead_30 (by decide) ?_
      refine lv_goto (tgt := 48) hx hb dX8_isAhead_31 (by decide) ?_
      exact r_iret X I rfl rfl rfl hn dX8_isAhead_48
theorem v_X8_isAhead {G : sG} {d : Nat} {vs0 : List Value} {σ0 : sS} {x : sL} {z : sZ Int32} {r : Int32 × sS} (hs : S_X8_isAhead x = some z) (k : s_K G (d + 2) M_X8_isAhead vs0 σ0 Y_X8_isAhead e_I z r) : s_V G (d + 2) M_X8_isAhead vs0 σ0 Y_X8_isAhead x (e_I r) := by
  obtain ⟨pc, vs, σ⟩ := x
  unfold S_X8_isAhead at hs
  dsimp only at hs
  rcases s_ite hs with ⟨c, hs⟩ | ⟨-, hs⟩
  · subst c
    unfold U_X8_isAhead_0 at hs
    obtain ⟨a0, g0, hs⟩ := s_bind hs
    obtain ⟨a1, g1, hs⟩ := s_bind hs
    obtain ⟨a2, g2, hs⟩ := s_bind hs
    obtain ⟨u9, ge, hs⟩ := s_bind hs
    rw [g_r_to g0, g_i_to g1, g_i_to g2, g_e_to ge]
    exact v_X8_isAhead_0 hs k
  cases hs
theorem t_X8_isAhead {G : sG} {d : Nat} {v0 : Nat} {v1 : Int32} {v2 : Int32} {σ : sS} {q : Int32 × sS} (h : F_X8_isAhead v0 v1 v2 σ = some q) : s_T G (d + 2) M_X8_isAhead [.ref v0, .int v1, .int v2] σ (e_I q) := by
  unfold F_X8_isAhead at h
  obtain ⟨-, -, h⟩ := s_bind h
  exact s_ofV rfl (by decide) (Nat.le_of_ble_eq_true rfl) rfl rfl (s_run_ind (V := fun x r => s_V G (d + 2) M_X8_isAhead [.ref v0, .int v1, .int v2] σ Y_X8_isAhead x (e_I r)) (fun x z r hs hk => v_X8_isAhead hs (by cases z <;> exact hk)) h)
/-! X8_isAgain -/
noncomputable def T_X8_isAgain_0 (v0 : Nat) (v1 : Int32) (σ : sS) : Option (sZ Int32) :=
  some (.inl (4, [.ref v0, .int v1, .int 0, .int 0], σ))
noncomputable def U_X8_isAgain_0 (vs : List Value) (σ : sS) : Option (sZ Int32) := (g_r vs).bind fun a0 => (g_i a0.2).bind fun a1 => (g_e a1.2).bind fun _ => T_X8_isAgain_0 a0.1 a1.1 σ
noncomputable def T_X8_isAgain_4 (v0 : Nat) (v1 : Int32) (v2 : Int32) (v3 : Int32) (σ : sS) : Option (sZ Int32) :=
  (F_X8_receipts v0 σ).bind fun q1 =>
  if q1.1 ≤ v3 then (if (v2 = 0 ∨ v2 = 1) then (some (.inr (v2, q1.2))) else none)
  else (if v2 = 0 then (if v3 = v1 then (some (.inl (86, [.ref v0, .int v1, .int v3], q1.2)))
  else ((F_X8_isVoid v0 v3 q1.2).bind fun q2 =>
  if q2.1 = 0 then ((F_X8_isAhead v0 v3 v1 q2.2).bind fun q3 =>
  if q3.1 = 0 then (some (.inl (86, [.ref v0, .int v1, .int v3], q3.2)))
  else ((F_X8_ofReceipt v0 v3 1 q3.2).bind fun q4 =>
  (F_X8_ofReceipt v0 v1 1 q4.2).bind fun q5 =>
  if q4.1 = q5.1 then ((F_X8_ofReceipt v0 v3 0 q5.2).bind fun q6 =>
  (F_X8_ofLine v0 q6.1 1 q6.2).bind fun q7 =>
  (F_X8_ofReceipt v0 v1 0 q7.2).bind fun q8 =>
  (F_X8_ofLine v0 q8.1 1 q8.2).bind fun q9 =>
  (F_X8_isSame v0 q7.1 q9.1 q9.2).bind fun q10 =>
  if q10.1 = 0 then (some (.inl (86, [.ref v0, .int v1, .int v3], q10.2)))
  else (some (.inl (82, [.ref v0, .int v1, .int v3], q10.2))))
  else (some (.inl (86, [.ref v0, .int v1, .int v3], q5.2)))))
  else (some (.inl (86, [.ref v0, .int v1, .int v3], q2.2)))))
  else (some (.inl (82, [.ref v0, .int v1, .int v3], q1.2))))
noncomputable def U_X8_isAgain_4 (vs : List Value) (σ : sS) : Option (sZ Int32) := (g_r vs).bind fun a0 => (g_i a0.2).bind fun a1 => (g_i a1.2).bind fun a2 => (g_i a2.2).bind fun a3 => (g_e a3.2).bind fun _ => T_X8_isAgain_4 a0.1 a1.1 a2.1 a3.1 σ
noncomputable def T_X8_isAgain_82 (v0 : Nat) (v1 : Int32) (v3 : Int32) (σ : sS) : Option (sZ Int32) :=
  some (.inl (87, [.ref v0, .int v1, .int v3, .int 1], σ))
noncomputable def U_X8_isAgain_82 (vs : List Value) (σ : sS) : Option (sZ Int32) := (g_r vs).bind fun a0 => (g_i a0.2).bind fun a1 => (g_i a1.2).bind fun a2 => (g_e a2.2).bind fun _ => T_X8_isAgain_82 a0.1 a1.1 a2.1 σ
noncomputable def T_X8_isAgain_86 (v0 : Nat) (v1 : Int32) (v3 : Int32) (σ : sS) : Option (sZ Int32) :=
  some (.inl (87, [.ref v0, .int v1, .int v3, .int 0], σ))
noncomputable def U_X8_isAgain_86 (vs : List Value) (σ : sS) : Option (sZ Int32) := (g_r vs).bind fun a0 => (g_i a0.2).bind fun a1 => (g_i a1.2).bind fun a2 => (g_e a2.2).bind fun _ => T_X8_isAgain_86 a0.1 a1.1 a2.1 σ
noncomputable def T_X8_isAgain_87 (v0 : Nat) (v1 : Int32) (v3 : Int32) (w0 : Int32) (σ : sS) : Option (sZ Int32) :=
  some (.inl (4, [.ref v0, .int v1, .int w0, .int (v3 + 1)], σ))
noncomputable def U_X8_isAgain_87 (vs : List Value) (σ : sS) : Option (sZ Int32) := (g_r vs).bind fun a0 => (g_i a0.2).bind fun a1 => (g_i a1.2).bind fun a2 => (g_i a2.2).bind fun a3 => (g_e a3.2).bind fun _ => T_X8_isAgain_87 a0.1 a1.1 a2.1 a3.1 σ
noncomputable def S_X8_isAgain (x : sL) : Option (sZ Int32) := if x.1 = 0 then U_X8_isAgain_0 x.2.1 x.2.2 else if x.1 = 4 then U_X8_isAgain_4 x.2.1 x.2.2 else if x.1 = 82 then U_X8_isAgain_82 x.2.1 x.2.2 else if x.1 = 86 then U_X8_isAgain_86 x.2.1 x.2.2 else if x.1 = 87 then U_X8_isAgain_87 x.2.1 x.2.2 else none
def Y_X8_isAgain (pc : Nat) : List Nat := if pc = 0 then [0, 1] else if pc = 4 then [0, 1, 2, 3] else if pc = 82 then [0, 1, 3] else if pc = 86 then [0, 1, 3] else if pc = 87 then [0, 1, 3] else []
noncomputable def F_X8_isAgain (v0 : Nat) (v1 : Int32) (σ : sS) : Option (Int32 × sS) := (s_is σ v0 8).bind fun _ => s_run S_X8_isAgain (0, [.ref v0, .int v1], σ)
theorem l_X8_isAgain_0 {v0 : Nat} {v1 : Int32} {σ : sS} {z : sZ Int32} (hf : T_X8_isAgain_0 v0 v1 σ = some z) : s_lz σ z := by
  unfold T_X8_isAgain_0 at hf
  cases hf
  exact s_le.rf
theorem l_X8_isAgain_4 {v0 : Nat} {v1 : Int32} {v2 : Int32} {v3 : Int32} {σ : sS} {z : sZ Int32} (hf : T_X8_isAgain_4 v0 v1 v2 v3 σ = some z) : s_lz σ z := by
  unfold T_X8_isAgain_4 at hf
  obtain ⟨q1, hh, hf⟩ := s_bind hf
  refine s_lz.tr (l_X8_receipts hh) ?_
  rcases s_ite hf with ⟨-, hf⟩ | ⟨-, hf⟩
  · rcases s_ite hf with ⟨-, hf⟩ | ⟨-, hf⟩
    · cases hf
      exact s_le.rf
    · cases hf
  · rcases s_ite hf with ⟨-, hf⟩ | ⟨-, hf⟩
    · rcases s_ite hf with ⟨-, hf⟩ | ⟨-, hf⟩
      · cases hf
        exact s_le.rf
      · obtain ⟨q2, hh, hf⟩ := s_bind hf
        refine s_lz.tr (l_X8_isVoid hh) ?_
        rcases s_ite hf with ⟨-, hf⟩ | ⟨-, hf⟩
        · obtain ⟨q3, hh, hf⟩ := s_bind hf
          refine s_lz.tr (l_X8_isAhead hh) ?_
          rcases s_ite hf with ⟨-, hf⟩ | ⟨-, hf⟩
          · cases hf
            exact s_le.rf
          · obtain ⟨q4, hh, hf⟩ := s_bind hf
            refine s_lz.tr (l_X8_ofReceipt hh) ?_
            obtain ⟨q5, hh, hf⟩ := s_bind hf
            refine s_lz.tr (l_X8_ofReceipt hh) ?_
            rcases s_ite hf with ⟨-, hf⟩ | ⟨-, hf⟩
            · obtain ⟨q6, hh, hf⟩ := s_bind hf
              refine s_lz.tr (l_X8_ofReceipt hh) ?_
              obtain ⟨q7, hh, hf⟩ := s_bind hf
              refine s_lz.tr (l_X8_ofLine hh) ?_
              obtain ⟨q8, hh, hf⟩ := s_bind hf
              refine s_lz.tr (l_X8_ofReceipt hh) ?_
              obtain ⟨q9, hh, hf⟩ := s_bind hf
              refine s_lz.tr (l_X8_ofLine hh) ?_
              obtain ⟨q10, hh, hf⟩ := s_bind hf
              refine s_lz.tr (l_X8_isSame hh) ?_
              rcases s_ite hf with ⟨-, hf⟩ | ⟨-, hf⟩
              · cases hf
                exact s_le.rf
              · cases hf
                exact s_le.rf
            · cases hf
              exact s_le.rf
        · cases hf
          exact s_le.rf
    · cases hf
      exact s_le.rf
theorem l_X8_isAgain_82 {v0 : Nat} {v1 : Int32} {v3 : Int32} {σ : sS} {z : sZ Int32} (hf : T_X8_isAgain_82 v0 v1 v3 σ = some z) : s_lz σ z := by
  unfold T_X8_isAgain_82 at hf
  cases hf
  exact s_le.rf
theorem l_X8_isAgain_86 {v0 : Nat} {v1 : Int32} {v3 : Int32} {σ : sS} {z : sZ Int32} (hf : T_X8_isAgain_86 v0 v1 v3 σ = some z) : s_lz σ z := by
  unfold T_X8_isAgain_86 at hf
  cases hf
  exact s_le.rf
theorem l_X8_isAgain_87 {v0 : Nat} {v1 : Int32} {v3 : Int32} {w0 : Int32} {σ : sS} {z : sZ Int32} (hf : T_X8_isAgain_87 v0 v1 v3 w0 σ = some z) : s_lz σ z := by
  unfold T_X8_isAgain_87 at hf
  cases hf
  exact s_le.rf
theorem l_X8_isAgain_s {x : sL} {z : sZ Int32} (hs : S_X8_isAgain x = some z) : s_lz x.2.2 z := by
  obtain ⟨pc, vs, σ⟩ := x
  unfold S_X8_isAgain at hs
  dsimp only at hs ⊢
  rcases s_ite hs with ⟨c, hs⟩ | ⟨-, hs⟩
  · subst c
    unfold U_X8_isAgain_0 at hs
    obtain ⟨a0, g0, hs⟩ := s_bind hs
    obtain ⟨a1, g1, hs⟩ := s_bind hs
    obtain ⟨u9, ge, hs⟩ := s_bind hs
    exact l_X8_isAgain_0 hs
  rcases s_ite hs with ⟨c, hs⟩ | ⟨-, hs⟩
  · subst c
    unfold U_X8_isAgain_4 at hs
    obtain ⟨a0, g0, hs⟩ := s_bind hs
    obtain ⟨a1, g1, hs⟩ := s_bind hs
    obtain ⟨a2, g2, hs⟩ := s_bind hs
    obtain ⟨a3, g3, hs⟩ := s_bind hs
    obtain ⟨u9, ge, hs⟩ := s_bind hs
    exact l_X8_isAgain_4 hs
  rcases s_ite hs with ⟨c, hs⟩ | ⟨-, hs⟩
  · subst c
    unfold U_X8_isAgain_82 at hs
    obtain ⟨a0, g0, hs⟩ := s_bind hs
    obtain ⟨a1, g1, hs⟩ := s_bind hs
    obtain ⟨a2, g2, hs⟩ := s_bind hs
    obtain ⟨u9, ge, hs⟩ := s_bind hs
    exact l_X8_isAgain_82 hs
  rcases s_ite hs with ⟨c, hs⟩ | ⟨-, hs⟩
  · subst c
    unfold U_X8_isAgain_86 at hs
    obtain ⟨a0, g0, hs⟩ := s_bind hs
    obtain ⟨a1, g1, hs⟩ := s_bind hs
    obtain ⟨a2, g2, hs⟩ := s_bind hs
    obtain ⟨u9, ge, hs⟩ := s_bind hs
    exact l_X8_isAgain_86 hs
  rcases s_ite hs with ⟨c, hs⟩ | ⟨-, hs⟩
  · subst c
    unfold U_X8_isAgain_87 at hs
    obtain ⟨a0, g0, hs⟩ := s_bind hs
    obtain ⟨a1, g1, hs⟩ := s_bind hs
    obtain ⟨a2, g2, hs⟩ := s_bind hs
    obtain ⟨a3, g3, hs⟩ := s_bind hs
    obtain ⟨u9, ge, hs⟩ := s_bind hs
    exact l_X8_isAgain_87 hs
  cases hs
theorem l_X8_isAgain {v0 : Nat} {v1 : Int32} {σ : sS} {q : Int32 × sS} (h : F_X8_isAgain v0 v1 σ = some q) : s_le σ q.2 := by
  unfold F_X8_isAgain at h
  obtain ⟨-, -, h⟩ := s_bind h
  exact s_run_ind (V := fun x r => s_le x.2.2 r.2) (fun x z r hs hk => by
    have h9 := l_X8_isAgain_s hs
    cases z with
    | inl y => exact s_le.tr h9 hk
    | inr q => cases hk; exact h9) h
theorem b_X8_isAgain {v0 : Nat} {v1 : Int32} {σ : sS} {q : Int32 × sS} (h : F_X8_isAgain v0 v1 σ = some q) : ∃ fs, σ.1 v0 = some (.inr (8, fs)) := by
  unfold F_X8_isAgain at h
  obtain ⟨u, hu, -⟩ := s_bind h
  exact s_is_to hu
set_option maxRecDepth 100000 in
set_option maxHeartbeats 4000000 in
theorem v_X8_isAgain_0 {G : sG} {d : Nat} {vs0 : List Value} {σ0 : sS} {v0 : Nat} {v1 : Int32} {σ : sS} {z : sZ Int32} {r : Int32 × sS} (hf : T_X8_isAgain_0 v0 v1 σ = some z) (k : s_K G (d + 4) M_X8_isAgain vs0 σ0 Y_X8_isAgain e_I z r) : s_V G (d + 4) M_X8_isAgain vs0 σ0 Y_X8_isAgain (0, [.ref v0, .int v1], σ) (e_I r) := by
  have le0 : s_le σ (e_I r).2 := s_lek hem_I (l_X8_isAgain_0 hf) k
  refine ⟨le0, ?_⟩
  intro p e s m below meth c H locs cells slots ls X I hn1 hn2 hl
  have hn : cells + σ0.2.1 ≤ σ.2.1 ∧ slots + σ0.2.2.1 ≤ σ.2.2.1 := ⟨hn1, hn2⟩
  have hl : lv_has ls 4 [(0, .ref v0), (1, .int v1)] := hl
  have hx := X.1
  have hb : c.code = cX8_isAgain := X.2.1
  have hown : s.vm.findClass RX8 = some m.cls := X.2.2.2.2.2.1
  have hts := X.2.2.2.2.2.2.1
  refine W.eq (g2 := F0 m 0 ls []) rfl ?_
  unfold T_X8_isAgain_0 at hf
  cases hf
  have k : s_V G (d + 4) M_X8_isAgain vs0 σ0 Y_X8_isAgain (4, [.ref v0, .int v1, .int 0, .int 0], σ) (e_I r) := k
  refine lv_iconst (v := 0) hx hb dX8_isAgain_0 (by decide) ?_
  refine lv_istore_n (lv' := [(2, .int 0), (0, .ref v0), (1, .int v1)]) hx hb dX8_isAgain_1 rfl hl (by decide) rfl (fun ls hl => ?_)
  refine lv_iconst (v := 0) hx hb dX8_isAgain_2 (by decide) ?_
  refine lv_istore_n (lv' := [(3, .int 0), (2, .int 0), (0, .ref v0), (1, .int v1)]) hx hb dX8_isAgain_3 rfl hl (by decide) rfl (fun ls hl => ?_)
  exact k.2 p e s m below meth c _ _ _ _ _ X I hn.1 hn.2 (lv_sub hl [2, 3, 1, 0] rfl)
set_option maxRecDepth 100000 in
set_option maxHeartbeats 4000000 in
theorem v_X8_isAgain_4 {G : sG} {d : Nat} {vs0 : List Value} {σ0 : sS} {v0 : Nat} {v1 : Int32} {v2 : Int32} {v3 : Int32} {σ : sS} {z : sZ Int32} {r : Int32 × sS} (hf : T_X8_isAgain_4 v0 v1 v2 v3 σ = some z) (k : s_K G (d + 4) M_X8_isAgain vs0 σ0 Y_X8_isAgain e_I z r) : s_V G (d + 4) M_X8_isAgain vs0 σ0 Y_X8_isAgain (4, [.ref v0, .int v1, .int v2, .int v3], σ) (e_I r) := by
  have le0 : s_le σ (e_I r).2 := s_lek hem_I (l_X8_isAgain_4 hf) k
  refine ⟨le0, ?_⟩
  intro p e s m below meth c H locs cells slots ls X I hn1 hn2 hl
  have hn : cells + σ0.2.1 ≤ σ.2.1 ∧ slots + σ0.2.2.1 ≤ σ.2.2.1 := ⟨hn1, hn2⟩
  have hl : lv_has ls 4 [(0, .ref v0), (1, .int v1), (2, .int v2), (3, .int v3)] := hl
  have hx := X.1
  have hb : c.code = cX8_isAgain := X.2.1
  have hown : s.vm.findClass RX8 = some m.cls := X.2.2.2.2.2.1
  have hts := X.2.2.2.2.2.2.1
  refine W.eq (g2 := F0 m 4 ls []) rfl ?_
  unfold T_X8_isAgain_4 at hf
  obtain ⟨q1, h1, hf⟩ := s_bind hf
  have le2 : s_le q1.2 (e_I r).2 := by
    refine s_lek hem_I ?_ k
    rcases s_ite hf with ⟨-, hf⟩ | ⟨-, hf⟩
    · rcases s_ite hf with ⟨-, hf⟩ | ⟨-, hf⟩
      · cases hf
        exact s_le.rf
      · cases hf
    · rcases s_ite hf with ⟨-, hf⟩ | ⟨-, hf⟩
      · rcases s_ite hf with ⟨-, hf⟩ | ⟨-, hf⟩
        · cases hf
          exact s_le.rf
        · obtain ⟨q2, hh, hf⟩ := s_bind hf
          refine s_lz.tr (l_X8_isVoid hh) ?_
          rcases s_ite hf with ⟨-, hf⟩ | ⟨-, hf⟩
          · obtain ⟨q3, hh, hf⟩ := s_bind hf
            refine s_lz.tr (l_X8_isAhead hh) ?_
            rcases s_ite hf with ⟨-, hf⟩ | ⟨-, hf⟩
            · cases hf
              exact s_le.rf
            · obtain ⟨q4, hh, hf⟩ := s_bind hf
              refine s_lz.tr (l_X8_ofReceipt hh) ?_
              obtain ⟨q5, hh, hf⟩ := s_bind hf
              refine s_lz.tr (l_X8_ofReceipt hh) ?_
              rcases s_ite hf with ⟨-, hf⟩ | ⟨-, hf⟩
              · obtain ⟨q6, hh, hf⟩ := s_bind hf
                refine s_lz.tr (l_X8_ofReceipt hh) ?_
                obtain ⟨q7, hh, hf⟩ := s_bind hf
                refine s_lz.tr (l_X8_ofLine hh) ?_
                obtain ⟨q8, hh, hf⟩ := s_bind hf
                refine s_lz.tr (l_X8_ofReceipt hh) ?_
                obtain ⟨q9, hh, hf⟩ := s_bind hf
                refine s_lz.tr (l_X8_ofLine hh) ?_
                obtain ⟨q10, hh, hf⟩ := s_bind hf
                refine s_lz.tr (l_X8_isSame hh) ?_
                rcases s_ite hf with ⟨-, hf⟩ | ⟨-, hf⟩
                · cases hf
                  exact s_le.rf
                · cases hf
                  exact s_le.rf
              · cases hf
                exact s_le.rf
          · cases hf
            exact s_le.rf
      · cases hf
        exact s_le.rf
  refine lv_iload_n hx hb dX8_isAgain_4 rfl (lv_at hl 3 rfl) ?_
  refine lv_aload_n hx hb dX8_isAgain_5 rfl (lv_at hl 0 rfl) ?_
  refine r_callV (Y := M_X8_receipts) (v := some (.int q1.1)) X I w_2295 my_X8_receipts (by omega) (t_X8_receipts (G := G) (d := d + 2) h1) (b_X8_receipts h1) rfl rfl hl.1 rfl (Nat.le_of_ble_eq_true rfl) hn le2 dX8_isAgain_6 (fun H locs cells slots I hn1 hn2 => ?_)
  have I : s_I G q1.2 s H locs := I
  have hn : cells + σ0.2.1 ≤ q1.2.2.1 ∧ slots + σ0.2.2.1 ≤ q1.2.2.2.1 := ⟨hn1, hn2⟩
  rcases s_ite hf with ⟨c3, hf⟩ | ⟨c3, hf⟩
  · refine lv_icmp_ge (tgt := 94) hx hb dX8_isAgain_9 (by decide) (fun _ => ?_) (fun n => absurd c3 n)
    refine lv_iload_n hx hb dX8_isAgain_94 rfl (lv_at hl 2 rfl) ?_
    rcases s_ite hf with ⟨hchk, hf⟩ | ⟨-, hf⟩
    · cases hf
      have k : _ = r := k
      subst k
      exact r_iret X I rfl (s_nb hchk) rfl hn dX8_isAgain_95
    · cases hf
  · refine lv_icmp_ge (tgt := 94) hx hb dX8_isAgain_9 (by decide) (fun n => absurd n c3) (fun _ => ?_)
    refine lv_iload_n hx hb dX8_isAgain_12 rfl (lv_at hl 2 rfl) ?_
    rcases s_ite hf with ⟨c4, hf⟩ | ⟨c4, hf⟩
    · refine lv_if_ne (tgt := 82) hx hb dX8_isAgain_13 (by decide) (fun n => absurd c4 n) (fun _ => ?_)
      refine lv_iload_n hx hb dX8_isAgain_16 rfl (lv_at hl 3 rfl) ?_
      refine lv_iload_n hx hb dX8_isAgain_17 rfl (lv_at hl 1 rfl) ?_
      rcases s_ite hf with ⟨c5, hf⟩ | ⟨c5, hf⟩
      · refine lv_icmp_eq (tgt := 86) hx hb dX8_isAgain_18 (by decide) (fun _ => ?_) (fun n => absurd c5 n)
        cases hf
        have k : s_V G (d + 4) M_X8_isAgain vs0 σ0 Y_X8_isAgain (86, [.ref v0, .int v1, .int v3], q1.2) (e_I r) := k
        exact k.2 p e s m below meth c _ _ _ _ _ X I hn.1 hn.2 (lv_sub hl [0, 1, 3] rfl)
      · refine lv_icmp_eq (tgt := 86) hx hb dX8_isAgain_18 (by decide) (fun n => absurd n c5) (fun _ => ?_)
        obtain ⟨q2, h6, hf⟩ := s_bind hf
        have le7 : s_le q2.2 (e_I r).2 := by
          refine s_lek hem_I ?_ k
          rcases s_ite hf with ⟨-, hf⟩ | ⟨-, hf⟩
          · obtain ⟨q3, hh, hf⟩ := s_bind hf
            refine s_lz.tr (l_X8_isAhead hh) ?_
            rcases s_ite hf with ⟨-, hf⟩ | ⟨-, hf⟩
            · cases hf
              exact s_le.rf
            · obtain ⟨q4, hh, hf⟩ := s_bind hf
              refine s_lz.tr (l_X8_ofReceipt hh) ?_
              obtain ⟨q5, hh, hf⟩ := s_bind hf
              refine s_lz.tr (l_X8_ofReceipt hh) ?_
              rcases s_ite hf with ⟨-, hf⟩ | ⟨-, hf⟩
              · obtain ⟨q6, hh, hf⟩ := s_bind hf
                refine s_lz.tr (l_X8_ofReceipt hh) ?_
                obtain ⟨q7, hh, hf⟩ := s_bind hf
                refine s_lz.tr (l_X8_ofLine hh) ?_
                obtain ⟨q8, hh, hf⟩ := s_bind hf
                refine s_lz.tr (l_X8_ofReceipt hh) ?_
                obtain ⟨q9, hh, hf⟩ := s_bind hf
                refine s_lz.tr (l_X8_ofLine hh) ?_
                obtain ⟨q10, hh, hf⟩ := s_bind hf
                refine s_lz.tr (l_X8_isSame hh) ?_
                rcases s_ite hf with ⟨-, hf⟩ | ⟨-, hf⟩
                · cases hf
                  exact s_le.rf
                · cases hf
                  exact s_le.rf
              · cases hf
                exact s_le.rf
          · cases hf
            exact s_le.rf
        refine lv_aload_n hx hb dX8_isAgain_21 rfl (lv_at hl 0 rfl) ?_
        refine lv_iload_n hx hb dX8_isAgain_22 rfl (lv_at hl 3 rfl) ?_
        refine r_callV (Y := M_X8_isVoid) (v := some (.int q2.1)) X I w_2303 my_X8_isVoid (by omega) (t_X8_isVoid (G := G) (d := d + 1) h6) (b_X8_isVoid h6) rfl rfl hl.1 rfl (Nat.le_of_ble_eq_true rfl) hn le7 dX8_isAgain_23 (fun H locs cells slots I hn1 hn2 => ?_)
        have I : s_I G q2.2 s H locs := I
        have hn : cells + σ0.2.1 ≤ q2.2.2.1 ∧ slots + σ0.2.2.1 ≤ q2.2.2.2.1 := ⟨hn1, hn2⟩
        rcases s_ite hf with ⟨c8, hf⟩ | ⟨c8, hf⟩
        · refine lv_if_ne (tgt := 86) hx hb dX8_isAgain_26 (by decide) (fun n => absurd c8 n) (fun _ => ?_)
          obtain ⟨q3, h9, hf⟩ := s_bind hf
          have le10 : s_le q3.2 (e_I r).2 := by
            refine s_lek hem_I ?_ k
            rcases s_ite hf with ⟨-, hf⟩ | ⟨-, hf⟩
            · cases hf
              exact s_le.rf
            · obtain ⟨q4, hh, hf⟩ := s_bind hf
              refine s_lz.tr (l_X8_ofReceipt hh) ?_
              obtain ⟨q5, hh, hf⟩ := s_bind hf
              refine s_lz.tr (l_X8_ofReceipt hh) ?_
              rcases s_ite hf with ⟨-, hf⟩ | ⟨-, hf⟩
              · obtain ⟨q6, hh, hf⟩ := s_bind hf
                refine s_lz.tr (l_X8_ofReceipt hh) ?_
                obtain ⟨q7, hh, hf⟩ := s_bind hf
                refine s_lz.tr (l_X8_ofLine hh) ?_
                obtain ⟨q8, hh, hf⟩ := s_bind hf
                refine s_lz.tr (l_X8_ofReceipt hh) ?_
                obtain ⟨q9, hh, hf⟩ := s_bind hf
                refine s_lz.tr (l_X8_ofLine hh) ?_
                obtain ⟨q10, hh, hf⟩ := s_bind hf
                refine s_lz.tr (l_X8_isSame hh) ?_
                rcases s_ite hf with ⟨-, hf⟩ | ⟨-, hf⟩
                · cases hf
                  exact s_le.rf
                · cases hf
                  exact s_le.rf
              · cases hf
                exact s_le.rf
          refine lv_aload_n hx hb dX8_isAgain_29 rfl (lv_at hl 0 rfl) ?_
          refine lv_iload_n hx hb dX8_isAgain_30 rfl (lv_at hl 3 rfl) ?_
          refine lv_iload_n hx hb dX8_isAgain_31 rfl (lv_at hl 1 rfl) ?_
          refine r_callV (Y := M_X8_isAhead) (v := some (.int q3.1)) X I w_2327 my_X8_isAhead (by omega) (t_X8_isAhead (G := G) (d := d + 1) h9) (b_X8_isAhead h9) rfl rfl hl.1 rfl (Nat.le_of_ble_eq_true rfl) hn le10 dX8_isAgain_32 (fun H locs cells slots I hn1 hn2 => ?_)
          have I : s_I G q3.2 s H locs := I
          have hn : cells + σ0.2.1 ≤ q3.2.2.1 ∧ slots + σ0.2.2.1 ≤ q3.2.2.2.1 := ⟨hn1, hn2⟩
          rcases s_ite hf with ⟨c11, hf⟩ | ⟨c11, hf⟩
          · refine lv_if_eq (tgt := 86) hx hb dX8_isAgain_35 (by decide) (fun _ => ?_) (fun n => absurd c11 n)
            cases hf
            have k : s_V G (d + 4) M_X8_isAgain vs0 σ0 Y_X8_isAgain (86, [.ref v0, .int v1, .int v3], q3.2) (e_I r) := k
            exact k.2 p e s m below meth c _ _ _ _ _ X I hn.1 hn.2 (lv_sub hl [0, 1, 3] rfl)
          · refine lv_if_eq (tgt := 86) hx hb dX8_isAgain_35 (by decide) (fun n => absurd n c11) (fun _ => ?_)
            obtain ⟨q4, h12, hf⟩ := s_bind hf
            obtain ⟨q5, h13, hf⟩ := s_bind hf
            have le14 : s_le q5.2 (e_I r).2 := by
              refine s_lek hem_I ?_ k
              rcases s_ite hf with ⟨-, hf⟩ | ⟨-, hf⟩
              · obtain ⟨q6, hh, hf⟩ := s_bind hf
                refine s_lz.tr (l_X8_ofReceipt hh) ?_
                obtain ⟨q7, hh, hf⟩ := s_bind hf
                refine s_lz.tr (l_X8_ofLine hh) ?_
                obtain ⟨q8, hh, hf⟩ := s_bind hf
                refine s_lz.tr (l_X8_ofReceipt hh) ?_
                obtain ⟨q9, hh, hf⟩ := s_bind hf
                refine s_lz.tr (l_X8_ofLine hh) ?_
                obtain ⟨q10, hh, hf⟩ := s_bind hf
                refine s_lz.tr (l_X8_isSame hh) ?_
                rcases s_ite hf with ⟨-, hf⟩ | ⟨-, hf⟩
                · cases hf
                  exact s_le.rf
                · cases hf
                  exact s_le.rf
              · cases hf
                exact s_le.rf
            have le15 := s_le.tr (l_X8_ofReceipt h13) le14
            refine lv_aload_n hx hb dX8_isAgain_38 rfl (lv_at hl 0 rfl) ?_
            refine lv_iload_n hx hb dX8_isAgain_39 rfl (lv_at hl 3 rfl) ?_
            refine lv_iconst (v := 1) hx hb dX8_isAgain_40 (by decide) ?_
            refine r_callV (Y := M_X8_ofReceipt) (v := some (.int q4.1)) X I w_2307 my_X8_ofReceipt (by omega) (t_X8_ofReceipt (G := G) (d := d + 2) h12) (b_X8_ofReceipt h12) rfl rfl hl.1 rfl (Nat.le_of_ble_eq_true rfl) hn le15 dX8_isAgain_41 (fun H locs cells slots I hn1 hn2 => ?_)
            have I : s_I G q4.2 s H locs := I
            have hn : cells + σ0.2.1 ≤ q4.2.2.1 ∧ slots + σ0.2.2.1 ≤ q4.2.2.2.1 := ⟨hn1, hn2⟩
            refine lv_aload_n hx hb dX8_isAgain_44 rfl (lv_at hl 0 rfl) ?_
            refine lv_iload_n hx hb dX8_isAgain_45 rfl (lv_at hl 1 rfl) ?_
            refine lv_iconst (v := 1) hx hb dX8_isAgain_46 (by decide) ?_
            refine r_callV (Y := M_X8_ofReceipt) (v := some (.int q5.1)) X I w_2307 my_X8_ofReceipt (by omega) (t_X8_ofReceipt (G := G) (d := d + 2) h13) (b_X8_ofReceipt h13) rfl rfl hl.1 rfl (Nat.le_of_ble_eq_true rfl) hn le14 dX8_isAgain_47 (fun H locs cells slots I hn1 hn2 => ?_)
            have I : s_I G q5.2 s H locs := I
            have hn : cells + σ0.2.1 ≤ q5.2.2.1 ∧ slots + σ0.2.2.1 ≤ q5.2.2.2.1 := ⟨hn1, hn2⟩
            rcases s_ite hf with ⟨c16, hf⟩ | ⟨c16, hf⟩
            · refine lv_icmp_ne (tgt := 86) hx hb dX8_isAgain_50 (by decide) (fun n => absurd c16 n) (fun _ => ?_)
              obtain ⟨q6, h17, hf⟩ := s_bind hf
              obtain ⟨q7, h18, hf⟩ := s_bind hf
              obtain ⟨q8, h19, hf⟩ := s_bind hf
              obtain ⟨q9, h20, hf⟩ := s_bind hf
              obtain ⟨q10, h21, hf⟩ := s_bind hf
              have le22 : s_le q10.2 (e_I r).2 := by
                refine s_lek hem_I ?_ k
                rcases s_ite hf with ⟨-, hf⟩ | ⟨-, hf⟩
                · cases hf
                  exact s_le.rf
                · cases hf
                  exact s_le.rf
              have le23 := s_le.tr (l_X8_isSame h21) le22
              have le24 := s_le.tr (l_X8_ofLine h20) le23
              have le25 := s_le.tr (l_X8_ofReceipt h19) le24
              have le26 := s_le.tr (l_X8_ofLine h18) le25
              refine lv_aload_n hx hb dX8_isAgain_53 rfl (lv_at hl 0 rfl) ?_
              refine lv_aload_n hx hb dX8_isAgain_54 rfl (lv_at hl 0 rfl) ?_
              refine lv_aload_n hx hb dX8_isAgain_55 rfl (lv_at hl 0 rfl) ?_
              refine lv_iload_n hx hb dX8_isAgain_56 rfl (lv_at hl 3 rfl) ?_
              refine lv_iconst (v := 0) hx hb dX8_isAgain_57 (by decide) ?_
              refine r_callV (Y := M_X8_ofReceipt) (v := some (.int q6.1)) X I w_2307 my_X8_ofReceipt (by omega) (t_X8_ofReceipt (G := G) (d := d + 2) h17) (b_X8_ofReceipt h17) rfl rfl hl.1 rfl (Nat.le_of_ble_eq_true rfl) hn le26 dX8_isAgain_58 (fun H locs cells slots I hn1 hn2 => ?_)
              have I : s_I G q6.2 s H locs := I
              have hn : cells + σ0.2.1 ≤ q6.2.2.1 ∧ slots + σ0.2.2.1 ≤ q6.2.2.2.1 := ⟨hn1, hn2⟩
              refine lv_iconst (v := 1) hx hb dX8_isAgain_61 (by decide) ?_
              refine r_callV (Y := M_X8_ofLine) (v := some (.int q7.1)) X I w_2015 my_X8_ofLine (by omega) (t_X8_ofLine (G := G) (d := d + 2) h18) (b_X8_ofLine h18) rfl rfl hl.1 rfl (Nat.le_of_ble_eq_true rfl) hn le25 dX8_isAgain_62 (fun H locs cells slots I hn1 hn2 => ?_)
              have I : s_I G q7.2 s H locs := I
              have hn : cells + σ0.2.1 ≤ q7.2.2.1 ∧ slots + σ0.2.2.1 ≤ q7.2.2.2.1 := ⟨hn1, hn2⟩
              refine lv_aload_n hx hb dX8_isAgain_65 rfl (lv_at hl 0 rfl) ?_
              refine lv_aload_n hx hb dX8_isAgain_66 rfl (lv_at hl 0 rfl) ?_
              refine lv_iload_n hx hb dX8_isAgain_67 rfl (lv_at hl 1 rfl) ?_
              refine lv_iconst (v := 0) hx hb dX8_isAgain_68 (by decide) ?_
              refine r_callV (Y := M_X8_ofReceipt) (v := some (.int q8.1)) X I w_2307 my_X8_ofReceipt (by omega) (t_X8_ofReceipt (G := G) (d := d + 2) h19) (b_X8_ofReceipt h19) rfl rfl hl.1 rfl (Nat.le_of_ble_eq_true rfl) hn le24 dX8_isAgain_69 (fun H locs cells slots I hn1 hn2 => ?_)
              have I : s_I G q8.2 s H locs := I
              have hn : cells + σ0.2.1 ≤ q8.2.2.1 ∧ slots + σ0.2.2.1 ≤ q8.2.2.2.1 := ⟨hn1, hn2⟩
              refine lv_iconst (v := 1) hx hb dX8_isAgain_72 (by decide) ?_
              refine r_callV (Y := M_X8_ofLine) (v := some (.int q9.1)) X I w_2015 my_X8_ofLine (by omega) (t_X8_ofLine (G := G) (d := d + 2) h20) (b_X8_ofLine h20) rfl rfl hl.1 rfl (Nat.le_of_ble_eq_true rfl) hn le23 dX8_isAgain_73 (fun H locs cells slots I hn1 hn2 => ?_)
              have I : s_I G q9.2 s H locs := I
              have hn : cells + σ0.2.1 ≤ q9.2.2.1 ∧ slots + σ0.2.2.1 ≤ q9.2.2.2.1 := ⟨hn1, hn2⟩
              refine r_callV (Y := M_X8_isSame) (v := some (.int q10.1)) X I w_1924 my_X8_isSame (by omega) (t_X8_isSame (G := G) (d := d + 0) h21) (b_X8_isSame h21) rfl rfl hl.1 rfl (Nat.le_of_ble_eq_true rfl) hn le22 dX8_isAgain_76 (fun H locs cells slots I hn1 hn2 => ?_)
              have I : s_I G q10.2 s H locs := I
              have hn : cells + σ0.2.1 ≤ q10.2.2.1 ∧ slots + σ0.2.2.1 ≤ q10.2.2.2.1 := ⟨hn1, hn2⟩
              rcases s_ite hf with ⟨c27, hf⟩ | ⟨c27, hf⟩
              · refine lv_if_eq (tgt := 86) hx hb dX8_isAgain_79 (by decide) (fun _ => ?_) (fun n => absurd c27 n)
                cases hf
                have k : s_V G (d + 4) M_X8_isAgain vs0 σ0 Y_X8_isAgain (86, [.ref v0, .int v1, .int v3], q10.2) (e_I r) := k
                exact k.2 p e s m below meth c _ _ _ _ _ X I hn.1 hn.2 (lv_sub hl [0, 1, 3] rfl)
              · refine lv_if_eq (tgt := 86) hx hb dX8_isAgain_79 (by decide) (fun n => absurd n c27) (fun _ => ?_)
                cases hf
                have k : s_V G (d + 4) M_X8_isAgain vs0 σ0 Y_X8_isAgain (82, [.ref v0, .int v1, .int v3], q10.2) (e_I r) := k
                exact k.2 p e s m below meth c _ _ _ _ _ X I hn.1 hn.2 (lv_sub hl [0, 1, 3] rfl)
            · refine lv_icmp_ne (tgt := 86) hx hb dX8_isAgain_50 (by decide) (fun _ => ?_) (fun n => absurd n c16)
              cases hf
              have k : s_V G (d + 4) M_X8_isAgain vs0 σ0 Y_X8_isAgain (86, [.ref v0, .int v1, .int v3], q5.2) (e_I r) := k
              exact k.2 p e s m below meth c _ _ _ _ _ X I hn.1 hn.2 (lv_sub hl [0, 1, 3] rfl)
        · refine lv_if_ne (tgt := 86) hx hb dX8_isAgain_26 (by decide) (fun _ => ?_) (fun n => absurd n c8)
          cases hf
          have k : s_V G (d + 4) M_X8_isAgain vs0 σ0 Y_X8_isAgain (86, [.ref v0, .int v1, .int v3], q2.2) (e_I r) := k
          exact k.2 p e s m below meth c _ _ _ _ _ X I hn.1 hn.2 (lv_sub hl [0, 1, 3] rfl)
    · refine lv_if_ne (tgt := 82) hx hb dX8_isAgain_13 (by decide) (fun _ => ?_) (fun n => absurd n c4)
      cases hf
      have k : s_V G (d + 4) M_X8_isAgain vs0 σ0 Y_X8_isAgain (82, [.ref v0, .int v1, .int v3], q1.2) (e_I r) := k
      exact k.2 p e s m below meth c _ _ _ _ _ X I hn.1 hn.2 (lv_sub hl [0, 1, 3] rfl)
set_option maxRecDepth 100000 in
set_option maxHeartbeats 4000000 in
theorem v_X8_isAgain_82 {G : sG} {d : Nat} {vs0 : List Value} {σ0 : sS} {v0 : Nat} {v1 : Int32} {v3 : Int32} {σ : sS} {z : sZ Int32} {r : Int32 × sS} (hf : T_X8_isAgain_82 v0 v1 v3 σ = some z) (k : s_K G (d + 4) M_X8_isAgain vs0 σ0 Y_X8_isAgain e_I z r) : s_V G (d + 4) M_X8_isAgain vs0 σ0 Y_X8_isAgain (82, [.ref v0, .int v1, .int v3], σ) (e_I r) := by
  have le0 : s_le σ (e_I r).2 := s_lek hem_I (l_X8_isAgain_82 hf) k
  refine ⟨le0, ?_⟩
  intro p e s m below meth c H locs cells slots ls X I hn1 hn2 hl
  have hn : cells + σ0.2.1 ≤ σ.2.1 ∧ slots + σ0.2.2.1 ≤ σ.2.2.1 := ⟨hn1, hn2⟩
  have hl : lv_has ls 4 [(0, .ref v0), (1, .int v1), (3, .int v3)] := hl
  have hx := X.1
  have hb : c.code = cX8_isAgain := X.2.1
  have hown : s.vm.findClass RX8 = some m.cls := X.2.2.2.2.2.1
  have hts := X.2.2.2.2.2.2.1
  refine W.eq (g2 := F0 m 82 ls []) rfl ?_
  unfold T_X8_isAgain_82 at hf
  cases hf
  have k : s_V G (d + 4) M_X8_isAgain vs0 σ0 Y_X8_isAgain (87, [.ref v0, .int v1, .int v3, .int 1], σ) (e_I r) := k
  refine lv_iconst (v := 1) hx hb dX8_isAgain_82 (by decide) ?_
  refine lv_goto (tgt := 87) hx hb dX8_isAgain_83 (by decide) ?_
  exact k.2 p e s m below meth c _ _ _ _ _ X I hn.1 hn.2 (lv_sub hl [0, 1, 2] rfl)
set_option maxRecDepth 100000 in
set_option maxHeartbeats 4000000 in
theorem v_X8_isAgain_86 {G : sG} {d : Nat} {vs0 : List Value} {σ0 : sS} {v0 : Nat} {v1 : Int32} {v3 : Int32} {σ : sS} {z : sZ Int32} {r : Int32 × sS} (hf : T_X8_isAgain_86 v0 v1 v3 σ = some z) (k : s_K G (d + 4) M_X8_isAgain vs0 σ0 Y_X8_isAgain e_I z r) : s_V G (d + 4) M_X8_isAgain vs0 σ0 Y_X8_isAgain (86, [.ref v0, .int v1, .int v3], σ) (e_I r) := by
  have le0 : s_le σ (e_I r).2 := s_lek hem_I (l_X8_isAgain_86 hf) k
  refine ⟨le0, ?_⟩
  intro p e s m below meth c H locs cells slots ls X I hn1 hn2 hl
  have hn : cells + σ0.2.1 ≤ σ.2.1 ∧ slots + σ0.2.2.1 ≤ σ.2.2.1 := ⟨hn1, hn2⟩
  have hl : lv_has ls 4 [(0, .ref v0), (1, .int v1), (3, .int v3)] := hl
  have hx := X.1
  have hb : c.code = cX8_isAgain := X.2.1
  have hown : s.vm.findClass RX8 = some m.cls := X.2.2.2.2.2.1
  have hts := X.2.2.2.2.2.2.1
  refine W.eq (g2 := F0 m 86 ls []) rfl ?_
  unfold T_X8_isAgain_86 at hf
  cases hf
  have k : s_V G (d + 4) M_X8_isAgain vs0 σ0 Y_X8_isAgain (87, [.ref v0, .int v1, .int v3, .int 0], σ) (e_I r) := k
  refine lv_iconst (v := 0) hx hb dX8_isAgain_86 (by decide) ?_
  exact k.2 p e s m below meth c _ _ _ _ _ X I hn.1 hn.2 (lv_sub hl [0, 1, 2] rfl)
set_option maxRecDepth 100000 in
set_option maxHeartbeats 4000000 in
theorem v_X8_isAgain_87 {G : sG} {d : Nat} {vs0 : List Value} {σ0 : sS} {v0 : Nat} {v1 : Int32} {v3 : Int32} {w0 : Int32} {σ : sS} {z : sZ Int32} {r : Int32 × sS} (hf : T_X8_isAgain_87 v0 v1 v3 w0 σ = some z) (k : s_K G (d + 4) M_X8_isAgain vs0 σ0 Y_X8_isAgain e_I z r) : s_V G (d + 4) M_X8_isAgain vs0 σ0 Y_X8_isAgain (87, [.ref v0, .int v1, .int v3, .int w0], σ) (e_I r) := by
  have le0 : s_le σ (e_I r).2 := s_lek hem_I (l_X8_isAgain_87 hf) k
  refine ⟨le0, ?_⟩
  intro p e s m below meth c H locs cells slots ls X I hn1 hn2 hl
  have hn : cells + σ0.2.1 ≤ σ.2.1 ∧ slots + σ0.2.2.1 ≤ σ.2.2.1 := ⟨hn1, hn2⟩
  have hl : lv_has ls 4 [(0, .ref v0), (1, .int v1), (3, .int v3)] := hl
  have hx := X.1
  have hb : c.code = cX8_isAgain := X.2.1
  have hown : s.vm.findClass RX8 = some m.cls := X.2.2.2.2.2.1
  have hts := X.2.2.2.2.2.2.1
  refine W.eq (g2 := F0 m 87 ls [.int w0]) rfl ?_
  unfold T_X8_isAgain_87 at hf
  cases hf
  have k : s_V G (d + 4) M_X8_isAgain vs0 σ0 Y_X8_isAgain (4, [.ref v0, .int v1, .int w0, .int (v3 + 1)], σ) (e_I r) := k
  refine lv_istore_n (lv' := [(2, .int w0), (0, .ref v0), (1, .int v1), (3, .int v3)]) hx hb dX8_isAgain_87 rfl hl (by decide) rfl (fun ls hl => ?_)
  refine lv_iinc (v := (v3 + 1)) (lv' := [(3, .int (v3 + 1)), (2, .int w0), (0, .ref v0), (1, .int v1)]) hx hb dX8_isAgain_88 hl (k := 3) rfl rfl (by decide) rfl (fun ls hl => ?_)
  refine lv_goto (tgt := 4) hx hb dX8_isAgain_91 (by decide) ?_
  exact k.2 p e s m below meth c _ _ _ _ _ X I hn.1 hn.2 (lv_sub hl [2, 3, 1, 0] rfl)
theorem v_X8_isAgain {G : sG} {d : Nat} {vs0 : List Value} {σ0 : sS} {x : sL} {z : sZ Int32} {r : Int32 × sS} (hs : S_X8_isAgain x = some z) (k : s_K G (d + 4) M_X8_isAgain vs0 σ0 Y_X8_isAgain e_I z r) : s_V G (d + 4) M_X8_isAgain vs0 σ0 Y_X8_isAgain x (e_I r) := by
  obtain ⟨pc, vs, σ⟩ := x
  unfold S_X8_isAgain at hs
  dsimp only at hs
  rcases s_ite hs with ⟨c, hs⟩ | ⟨-, hs⟩
  · subst c
    unfold U_X8_isAgain_0 at hs
    obtain ⟨a0, g0, hs⟩ := s_bind hs
    obtain ⟨a1, g1, hs⟩ := s_bind hs
    obtain ⟨u9, ge, hs⟩ := s_bind hs
    rw [g_r_to g0, g_i_to g1, g_e_to ge]
    exact v_X8_isAgain_0 hs k
  rcases s_ite hs with ⟨c, hs⟩ | ⟨-, hs⟩
  · subst c
    unfold U_X8_isAgain_4 at hs
    obtain ⟨a0, g0, hs⟩ := s_bind hs
    obtain ⟨a1, g1, hs⟩ := s_bind hs
    obtain ⟨a2, g2, hs⟩ := s_bind hs
    obtain ⟨a3, g3, hs⟩ := s_bind hs
    obtain ⟨u9, ge, hs⟩ := s_bind hs
    rw [g_r_to g0, g_i_to g1, g_i_to g2, g_i_to g3, g_e_to ge]
    exact v_X8_isAgain_4 hs k
  rcases s_ite hs with ⟨c, hs⟩ | ⟨-, hs⟩
  · subst c
    unfold U_X8_isAgain_82 at hs
    obtain ⟨a0, g0, hs⟩ := s_bind hs
    obtain ⟨a1, g1, hs⟩ := s_bind hs
    obtain ⟨a2, g2, hs⟩ := s_bind hs
    obtain ⟨u9, ge, hs⟩ := s_bind hs
    rw [g_r_to g0, g_i_to g1, g_i_to g2, g_e_to ge]
    exact v_X8_isAgain_82 hs k
  rcases s_ite hs with ⟨c, hs⟩ | ⟨-, hs⟩
  · subst c
    unfold U_X8_isAgain_86 at hs
    obtain ⟨a0, g0, hs⟩ := s_bind hs
    obtain ⟨a1, g1, hs⟩ := s_bind hs
    obtain ⟨a2, g2, hs⟩ := s_bind hs
    obtain ⟨u9, ge, hs⟩ := s_bind hs
    rw [g_r_to g0, g_i_to g1, g_i_to g2, g_e_to ge]
    exact v_X8_isAgain_86 hs k
  rcases s_ite hs with ⟨c, hs⟩ | ⟨-, hs⟩
  · subst c
    unfold U_X8_isAgain_87 at hs
    obtain ⟨a0, g0, hs⟩ := s_bind hs
    obtain ⟨a1, g1, hs⟩ := s_bind hs
    obtain ⟨a2, g2, hs⟩ := s_bind hs
    obtain ⟨a3, g3, hs⟩ := s_bind hs
    obtain ⟨u9, ge, hs⟩ := s_bind hs
    rw [g_r_to g0, g_i_to g1, g_i_to g2, g_i_to g3, g_e_to ge]
    exact v_X8_isAgain_87 hs k
  cases hs
theorem t_X8_isAgain {G : sG} {d : Nat} {v0 : Nat} {v1 : Int32} {σ : sS} {q : Int32 × sS} (h : F_X8_isAgain v0 v1 σ = some q) : s_T G (d + 4) M_X8_isAgain [.ref v0, .int v1] σ (e_I q) := by
  unfold F_X8_isAgain at h
  obtain ⟨-, -, h⟩ := s_bind h
  exact s_ofV rfl (by decide) (Nat.le_of_ble_eq_true rfl) rfl rfl (s_run_ind (V := fun x r => s_V G (d + 4) M_X8_isAgain [.ref v0, .int v1] σ Y_X8_isAgain x (e_I r)) (fun x z r hs hk => v_X8_isAgain hs (by cases z <;> exact hk)) h)
/-! X8_isBack -/
noncomputable def T_X8_isBack_0 (v0 : Nat) (v1 : Int32) (v2 : Int32) (σ : sS) : Option (sZ Int32) :=
  (F_X8_isVoid v0 v1 σ).bind fun q1 =>
  if q1.1 = 0 then ((F_X8_ofReceipt v0 v1 0 q1.2).bind fun q2 =>
  if (v2 &&& 1) = 0 then (some (.inl (31, [.ref v0, .int v1, .int v2, .int q2.1], q2.2)))
  else ((F_X8_isHonest v0 q2.1 q2.2).bind fun q3 =>
  if q3.1 = 0 then (some (.inr (1, q3.2)))
  else (some (.inl (31, [.ref v0, .int v1, .int v2, .int q2.1], q3.2)))))
  else (some (.inr (0, q1.2)))
noncomputable def U_X8_isBack_0 (vs : List Value) (σ : sS) : Option (sZ Int32) := (g_r vs).bind fun a0 => (g_i a0.2).bind fun a1 => (g_i a1.2).bind fun a2 => (g_e a2.2).bind fun _ => T_X8_isBack_0 a0.1 a1.1 a2.1 σ
noncomputable def T_X8_isBack_31 (v0 : Nat) (v1 : Int32) (v2 : Int32) (v3 : Int32) (σ : sS) : Option (sZ Int32) :=
  if (v2 &&& 2) = 0 then (some (.inl (46, [.ref v0, .int v1, .int v2, .int v3], σ)))
  else ((s_fr σ v0 8 17).bind fun x1 =>
  (s_ab σ x1 v3).bind fun x2 =>
  if x2 = 0 then (some (.inr (1, σ)))
  else (some (.inl (46, [.ref v0, .int v1, .int v2, .int v3], σ))))
noncomputable def U_X8_isBack_31 (vs : List Value) (σ : sS) : Option (sZ Int32) := (g_r vs).bind fun a0 => (g_i a0.2).bind fun a1 => (g_i a1.2).bind fun a2 => (g_i a2.2).bind fun a3 => (g_e a3.2).bind fun _ => T_X8_isBack_31 a0.1 a1.1 a2.1 a3.1 σ
noncomputable def T_X8_isBack_46 (v0 : Nat) (v1 : Int32) (v2 : Int32) (v3 : Int32) (σ : sS) : Option (sZ Int32) :=
  if (v2 &&& 4) = 0 then (some (.inl (68, [.ref v0, .int v1, .int v2, .int v3], σ)))
  else ((F_X8_isStale v0 v3 σ).bind fun q1 =>
  if q1.1 = 0 then (some (.inl (68, [.ref v0, .int v1, .int v2, .int v3], q1.2)))
  else ((F_X8_isSaved v0 v3 q1.2).bind fun q2 =>
  if q2.1 = 0 then (some (.inr (1, q2.2)))
  else (some (.inl (68, [.ref v0, .int v1, .int v2, .int v3], q2.2)))))
noncomputable def U_X8_isBack_46 (vs : List Value) (σ : sS) : Option (sZ Int32) := (g_r vs).bind fun a0 => (g_i a0.2).bind fun a1 => (g_i a1.2).bind fun a2 => (g_i a2.2).bind fun a3 => (g_e a3.2).bind fun _ => T_X8_isBack_46 a0.1 a1.1 a2.1 a3.1 σ
noncomputable def T_X8_isBack_68 (v0 : Nat) (v1 : Int32) (v2 : Int32) (v3 : Int32) (σ : sS) : Option (sZ Int32) :=
  if (v2 &&& 8) = 0 then (some (.inl (83, [.ref v0, .int v1, .int v2], σ)))
  else ((F_X8_isOpen v0 v3 σ).bind fun q1 =>
  if q1.1 = 0 then (some (.inl (83, [.ref v0, .int v1, .int v2], q1.2)))
  else (some (.inr (1, q1.2))))
noncomputable def U_X8_isBack_68 (vs : List Value) (σ : sS) : Option (sZ Int32) := (g_r vs).bind fun a0 => (g_i a0.2).bind fun a1 => (g_i a1.2).bind fun a2 => (g_i a2.2).bind fun a3 => (g_e a3.2).bind fun _ => T_X8_isBack_68 a0.1 a1.1 a2.1 a3.1 σ
noncomputable def T_X8_isBack_83 (v0 : Nat) (v1 : Int32) (v2 : Int32) (σ : sS) : Option (sZ Int32) :=
  if (v2 &&& 16) = 0 then (some (.inr (0, σ)))
  else ((F_X8_isAgain v0 v1 σ).bind fun q1 =>
  if q1.1 = 0 then (some (.inr (0, q1.2)))
  else (some (.inr (1, q1.2))))
noncomputable def U_X8_isBack_83 (vs : List Value) (σ : sS) : Option (sZ Int32) := (g_r vs).bind fun a0 => (g_i a0.2).bind fun a1 => (g_i a1.2).bind fun a2 => (g_e a2.2).bind fun _ => T_X8_isBack_83 a0.1 a1.1 a2.1 σ
noncomputable def S_X8_isBack (x : sL) : Option (sZ Int32) := if x.1 = 0 then U_X8_isBack_0 x.2.1 x.2.2 else if x.1 = 31 then U_X8_isBack_31 x.2.1 x.2.2 else if x.1 = 46 then U_X8_isBack_46 x.2.1 x.2.2 else if x.1 = 68 then U_X8_isBack_68 x.2.1 x.2.2 else if x.1 = 83 then U_X8_isBack_83 x.2.1 x.2.2 else none
def Y_X8_isBack (pc : Nat) : List Nat := if pc = 0 then [0, 1, 2] else if pc = 31 then [0, 1, 2, 3] else if pc = 46 then [0, 1, 2, 3] else if pc = 68 then [0, 1, 2, 3] else if pc = 83 then [0, 1, 2] else []
noncomputable def F_X8_isBack (v0 : Nat) (v1 : Int32) (v2 : Int32) (σ : sS) : Option (Int32 × sS) := (s_is σ v0 8).bind fun _ => s_run S_X8_isBack (0, [.ref v0, .int v1, .int v2], σ)
theorem l_X8_isBack_0 {v0 : Nat} {v1 : Int32} {v2 : Int32} {σ : sS} {z : sZ Int32} (hf : T_X8_isBack_0 v0 v1 v2 σ = some z) : s_lz σ z := by
  unfold T_X8_isBack_0 at hf
  obtain ⟨q1, hh, hf⟩ := s_bind hf
  refine s_lz.tr (l_X8_isVoid hh) ?_
  rcases s_ite hf with ⟨-, hf⟩ | ⟨-, hf⟩
  · obtain ⟨q2, hh, hf⟩ := s_bind hf
    refine s_lz.tr (l_X8_ofReceipt hh) ?_
    rcases s_ite hf with ⟨-, hf⟩ | ⟨-, hf⟩
    · cases hf
      exact s_le.rf
    · obtain ⟨q3, hh, hf⟩ := s_bind hf
      refine s_lz.tr (l_X8_isHonest hh) ?_
      rcases s_ite hf with ⟨-, hf⟩ | ⟨-, hf⟩
      · cases hf
        exact s_le.rf
      · cases hf
        exact s_le.rf
  · cases hf
    exact s_le.rf
theorem l_X8_isBack_31 {v0 : Nat} {v1 : Int32} {v2 : Int32} {v3 : Int32} {σ : sS} {z : sZ Int32} (hf : T_X8_isBack_31 v0 v1 v2 v3 σ = some z) : s_lz σ z := by
  unfold T_X8_isBack_31 at hf
  rcases s_ite hf with ⟨-, hf⟩ | ⟨-, hf⟩
  · cases hf
    exact s_le.rf
  · obtain ⟨x1, -, hf⟩ := s_bind hf
    obtain ⟨x2, -, hf⟩ := s_bind hf
    rcases s_ite hf with ⟨-, hf⟩ | ⟨-, hf⟩
    · cases hf
      exact s_le.rf
    · cases hf
      exact s_le.rf
theorem l_X8_isBack_46 {v0 : Nat} {v1 : Int32} {v2 : Int32} {v3 : Int32} {σ : sS} {z : sZ Int32} (hf : T_X8_isBack_46 v0 v1 v2 v3 σ = some z) : s_lz σ z := by
  unfold T_X8_isBack_46 at hf
  rcases s_ite hf with ⟨-, hf⟩ | ⟨-, hf⟩
  · cases hf
    exact s_le.rf
  · obtain ⟨q1, hh, hf⟩ := s_bind hf
    refine s_lz.tr (l_X8_isStale hh) ?_
    rcases s_ite hf with ⟨-, hf⟩ | ⟨-, hf⟩
    · cases hf
      exact s_le.rf
    · obtain ⟨q2, hh, hf⟩ := s_bind hf
      refine s_lz.tr (l_X8_isSaved hh) ?_
      rcases s_ite hf with ⟨-, hf⟩ | ⟨-, hf⟩
      · cases hf
        exact s_le.rf
      · cases hf
        exact s_le.rf
theorem l_X8_isBack_68 {v0 : Nat} {v1 : Int32} {v2 : Int32} {v3 : Int32} {σ : sS} {z : sZ Int32} (hf : T_X8_isBack_68 v0 v1 v2 v3 σ = some z) : s_lz σ z := by
  unfold T_X8_isBack_68 at hf
  rcases s_ite hf with ⟨-, hf⟩ | ⟨-, hf⟩
  · cases hf
    exact s_le.rf
  · obtain ⟨q1, hh, hf⟩ := s_bind hf
    refine s_lz.tr (l_X8_isOpen hh) ?_
    rcases s_ite hf with ⟨-, hf⟩ | ⟨-, hf⟩
    · cases hf
      exact s_le.rf
    · cases hf
      exact s_le.rf
theorem l_X8_isBack_83 {v0 : Nat} {v1 : Int32} {v2 : Int32} {σ : sS} {z : sZ Int32} (hf : T_X8_isBack_83 v0 v1 v2 σ = some z) : s_lz σ z := by
  unfold T_X8_isBack_83 at hf
  rcases s_ite hf with ⟨-, hf⟩ | ⟨-, hf⟩
  · cases hf
    exact s_le.rf
  · obtain ⟨q1, hh, hf⟩ := s_bind hf
    refine s_lz.tr (l_X8_isAgain hh) ?_
    rcases s_ite hf with ⟨-, hf⟩ | ⟨-, hf⟩
    · cases hf
      exact s_le.rf
    · cases hf
      exact s_le.rf
theorem l_X8_isBack_s {x : sL} {z : sZ Int32} (hs : S_X8_isBack x = some z) : s_lz x.2.2 z := by
  obtain ⟨pc, vs, σ⟩ := x
  unfold S_X8_isBack at hs
  dsimp only at hs ⊢
  rcases s_ite hs with ⟨c, hs⟩ | ⟨-, hs⟩
  · subst c
    unfold U_X8_isBack_0 at hs
    obtain ⟨a0, g0, hs⟩ := s_bind hs
    obtain ⟨a1, g1, hs⟩ := s_bind hs
    obtain ⟨a2, g2, hs⟩ := s_bind hs
    obtain ⟨u9, ge, hs⟩ := s_bind hs
    exact l_X8_isBack_0 hs
  rcases s_ite hs with ⟨c, hs⟩ | ⟨-, hs⟩
  · subst c
    unfold U_X8_isBack_31 at hs
    obtain ⟨a0, g0, hs⟩ := s_bind hs
    obtain ⟨a1, g1, hs⟩ := s_bind hs
    obtain ⟨a2, g2, hs⟩ := s_bind hs
    obtain ⟨a3, g3, hs⟩ := s_bind hs
    obtain ⟨u9, ge, hs⟩ := s_bind hs
    exact l_X8_isBack_31 hs
  rcases s_ite hs with ⟨c, hs⟩ | ⟨-, hs⟩
  · subst c
    unfold U_X8_isBack_46 at hs
    obtain ⟨a0, g0, hs⟩ := s_bind hs
    obtain ⟨a1, g1, hs⟩ := s_bind hs
    obtain ⟨a2, g2, hs⟩ := s_bind hs
    obtain ⟨a3, g3, hs⟩ := s_bind hs
    obtain ⟨u9, ge, hs⟩ := s_bind hs
    exact l_X8_isBack_46 hs
  rcases s_ite hs with ⟨c, hs⟩ | ⟨-, hs⟩
  · subst c
    unfold U_X8_isBack_68 at hs
    obtain ⟨a0, g0, hs⟩ := s_bind hs
    obtain ⟨a1, g1, hs⟩ := s_bind hs
    obtain ⟨a2, g2, hs⟩ := s_bind hs
    obtain ⟨a3, g3, hs⟩ := s_bind hs
    obtain ⟨u9, ge, hs⟩ := s_bind hs
    exact l_X8_isBack_68 hs
  rcases s_ite hs with ⟨c, hs⟩ | ⟨-, hs⟩
  · subst c
    unfold U_X8_isBack_83 at hs
    obtain ⟨a0, g0, hs⟩ := s_bind hs
    obtain ⟨a1, g1, hs⟩ := s_bind hs
    obtain ⟨a2, g2, hs⟩ := s_bind hs
    obtain ⟨u9, ge, hs⟩ := s_bind hs
    exact l_X8_isBack_83 hs
  cases hs
theorem l_X8_isBack {v0 : Nat} {v1 : Int32} {v2 : Int32} {σ : sS} {q : Int32 × sS} (h : F_X8_isBack v0 v1 v2 σ = some q) : s_le σ q.2 := by
  unfold F_X8_isBack at h
  obtain ⟨-, -, h⟩ := s_bind h
  exact s_run_ind (V := fun x r => s_le x.2.2 r.2) (fun x z r hs hk => by
    have h9 := l_X8_isBack_s hs
    cases z with
    | inl y => exact s_le.tr h9 hk
    | inr q => cases hk; exact h9) h
theorem b_X8_isBack {v0 : Nat} {v1 : Int32} {v2 : Int32} {σ : sS} {q : Int32 × sS} (h : F_X8_isBack v0 v1 v2 σ = some q) : ∃ fs, σ.1 v0 = some (.inr (8, fs)) := by
  unfold F_X8_isBack at h
  obtain ⟨u, hu, -⟩ := s_bind h
  exact s_is_to hu
set_option maxRecDepth 100000 in
set_option maxHeartbeats 4000000 in
theorem v_X8_isBack_0 {G : sG} {d : Nat} {vs0 : List Value} {σ0 : sS} {v0 : Nat} {v1 : Int32} {v2 : Int32} {σ : sS} {z : sZ Int32} {r : Int32 × sS} (hf : T_X8_isBack_0 v0 v1 v2 σ = some z) (k : s_K G (d + 7) M_X8_isBack vs0 σ0 Y_X8_isBack e_I z r) : s_V G (d + 7) M_X8_isBack vs0 σ0 Y_X8_isBack (0, [.ref v0, .int v1, .int v2], σ) (e_I r) := by
  have le0 : s_le σ (e_I r).2 := s_lek hem_I (l_X8_isBack_0 hf) k
  refine ⟨le0, ?_⟩
  intro p e s m below meth c H locs cells slots ls X I hn1 hn2 hl
  have hn : cells + σ0.2.1 ≤ σ.2.1 ∧ slots + σ0.2.2.1 ≤ σ.2.2.1 := ⟨hn1, hn2⟩
  have hl : lv_has ls 4 [(0, .ref v0), (1, .int v1), (2, .int v2)] := hl
  have hx := X.1
  have hb : c.code = cX8_isBack := X.2.1
  have hown : s.vm.findClass RX8 = some m.cls := X.2.2.2.2.2.1
  have hts := X.2.2.2.2.2.2.1
  refine W.eq (g2 := F0 m 0 ls []) rfl ?_
  unfold T_X8_isBack_0 at hf
  obtain ⟨q1, h1, hf⟩ := s_bind hf
  have le2 : s_le q1.2 (e_I r).2 := by
    refine s_lek hem_I ?_ k
    rcases s_ite hf with ⟨-, hf⟩ | ⟨-, hf⟩
    · obtain ⟨q2, hh, hf⟩ := s_bind hf
      refine s_lz.tr (l_X8_ofReceipt hh) ?_
      rcases s_ite hf with ⟨-, hf⟩ | ⟨-, hf⟩
      · cases hf
        exact s_le.rf
      · obtain ⟨q3, hh, hf⟩ := s_bind hf
        refine s_lz.tr (l_X8_isHonest hh) ?_
        rcases s_ite hf with ⟨-, hf⟩ | ⟨-, hf⟩
        · cases hf
          exact s_le.rf
        · cases hf
          exact s_le.rf
    · cases hf
      exact s_le.rf
  refine lv_aload_n hx hb dX8_isBack_0 rfl (lv_at hl 0 rfl) ?_
  refine lv_iload_n hx hb dX8_isBack_1 rfl (lv_at hl 1 rfl) ?_
  refine r_callV (Y := M_X8_isVoid) (v := some (.int q1.1)) X I w_2303 my_X8_isVoid (by omega) (t_X8_isVoid (G := G) (d := d + 4) h1) (b_X8_isVoid h1) rfl rfl hl.1 rfl (Nat.le_of_ble_eq_true rfl) hn le2 dX8_isBack_2 (fun H locs cells slots I hn1 hn2 => ?_)
  have I : s_I G q1.2 s H locs := I
  have hn : cells + σ0.2.1 ≤ q1.2.2.1 ∧ slots + σ0.2.2.1 ≤ q1.2.2.2.1 := ⟨hn1, hn2⟩
  rcases s_ite hf with ⟨c3, hf⟩ | ⟨c3, hf⟩
  · refine lv_if_eq (tgt := 10) hx hb dX8_isBack_5 (by decide) (fun _ => ?_) (fun n => absurd c3 n)
    obtain ⟨q2, h4, hf⟩ := s_bind hf
    have le5 : s_le q2.2 (e_I r).2 := by
      refine s_lek hem_I ?_ k
      rcases s_ite hf with ⟨-, hf⟩ | ⟨-, hf⟩
      · cases hf
        exact s_le.rf
      · obtain ⟨q3, hh, hf⟩ := s_bind hf
        refine s_lz.tr (l_X8_isHonest hh) ?_
        rcases s_ite hf with ⟨-, hf⟩ | ⟨-, hf⟩
        · cases hf
          exact s_le.rf
        · cases hf
          exact s_le.rf
    refine lv_aload_n hx hb dX8_isBack_10 rfl (lv_at hl 0 rfl) ?_
    refine lv_iload_n hx hb dX8_isBack_11 rfl (lv_at hl 1 rfl) ?_
    refine lv_iconst (v := 0) hx hb dX8_isBack_12 (by decide) ?_
    refine r_callV (Y := M_X8_ofReceipt) (v := some (.int q2.1)) X I w_2307 my_X8_ofReceipt (by omega) (t_X8_ofReceipt (G := G) (d := d + 5) h4) (b_X8_ofReceipt h4) rfl rfl hl.1 rfl (Nat.le_of_ble_eq_true rfl) hn le5 dX8_isBack_13 (fun H locs cells slots I hn1 hn2 => ?_)
    have I : s_I G q2.2 s H locs := I
    have hn : cells + σ0.2.1 ≤ q2.2.2.1 ∧ slots + σ0.2.2.1 ≤ q2.2.2.2.1 := ⟨hn1, hn2⟩
    refine lv_istore_n (lv' := [(3, .int q2.1), (0, .ref v0), (1, .int v1), (2, .int v2)]) hx hb dX8_isBack_16 rfl hl (by decide) rfl (fun ls hl => ?_)
    refine lv_iload_n hx hb dX8_isBack_17 rfl (lv_at hl 3 rfl) ?_
    refine lv_iconst (v := 1) hx hb dX8_isBack_18 (by decide) ?_
    refine lv_iand hx hb dX8_isBack_19 ?_
    rcases s_ite hf with ⟨c6, hf⟩ | ⟨c6, hf⟩
    · refine lv_if_eq (tgt := 31) hx hb dX8_isBack_20 (by decide) (fun _ => ?_) (fun n => absurd c6 n)
      cases hf
      have k : s_V G (d + 7) M_X8_isBack vs0 σ0 Y_X8_isBack (31, [.ref v0, .int v1, .int v2, .int q2.1], q2.2) (e_I r) := k
      exact k.2 p e s m below meth c _ _ _ _ _ X I hn.1 hn.2 (lv_sub hl [1, 2, 3, 0] rfl)
    · refine lv_if_eq (tgt := 31) hx hb dX8_isBack_20 (by decide) (fun n => absurd n c6) (fun _ => ?_)
      obtain ⟨q3, h7, hf⟩ := s_bind hf
      have le8 : s_le q3.2 (e_I r).2 := by
        refine s_lek hem_I ?_ k
        rcases s_ite hf with ⟨-, hf⟩ | ⟨-, hf⟩
        · cases hf
          exact s_le.rf
        · cases hf
          exact s_le.rf
      refine lv_aload_n hx hb dX8_isBack_23 rfl (lv_at hl 1 rfl) ?_
      refine lv_iload_n hx hb dX8_isBack_24 rfl (lv_at hl 0 rfl) ?_
      refine r_callV (Y := M_X8_isHonest) (v := some (.int q3.1)) X I w_2031 my_X8_isHonest (by omega) (t_X8_isHonest (G := G) (d := d + 0) h7) (b_X8_isHonest h7) rfl rfl hl.1 rfl (Nat.le_of_ble_eq_true rfl) hn le8 dX8_isBack_25 (fun H locs cells slots I hn1 hn2 => ?_)
      have I : s_I G q3.2 s H locs := I
      have hn : cells + σ0.2.1 ≤ q3.2.2.1 ∧ slots + σ0.2.2.1 ≤ q3.2.2.2.1 := ⟨hn1, hn2⟩
      rcases s_ite hf with ⟨c9, hf⟩ | ⟨c9, hf⟩
      · refine lv_if_eq (tgt := 98) hx hb dX8_isBack_28 (by decide) (fun _ => ?_) (fun n => absurd c9 n)
        cases hf
        have k : _ = r := k
        subst k
        refine lv_iconst (v := 1) hx hb dX8_isBack_98 (by decide) ?_
        refine lv_goto (tgt := 103) hx hb dX8_isBack_99 (by decide) ?_
        exact r_iret X I rfl rfl rfl hn dX8_isBack_103
      · refine lv_if_eq (tgt := 98) hx hb dX8_isBack_28 (by decide) (fun n => absurd n c9) (fun _ => ?_)
        cases hf
        have k : s_V G (d + 7) M_X8_isBack vs0 σ0 Y_X8_isBack (31, [.ref v0, .int v1, .int v2, .int q2.1], q3.2) (e_I r) := k
        exact k.2 p e s m below meth c _ _ _ _ _ X I hn.1 hn.2 (lv_sub hl [1, 2, 3, 0] rfl)
  · refine lv_if_eq (tgt := 10) hx hb dX8_isBack_5 (by decide) (fun n => absurd n c3) (fun _ => ?_)
    cases hf
    have k : _ = r := k
    subst k
    refine lv_iconst (v := 0) hx hb dX8_isBack_8 (by decide) ?_
    exact r_iret X I rfl rfl rfl hn dX8_isBack_9
set_option maxRecDepth 100000 in
set_option maxHeartbeats 4000000 in
theorem v_X8_isBack_31 {G : sG} {d : Nat} {vs0 : List Value} {σ0 : sS} {v0 : Nat} {v1 : Int32} {v2 : Int32} {v3 : Int32} {σ : sS} {z : sZ Int32} {r : Int32 × sS} (hf : T_X8_isBack_31 v0 v1 v2 v3 σ = some z) (k : s_K G (d + 7) M_X8_isBack vs0 σ0 Y_X8_isBack e_I z r) : s_V G (d + 7) M_X8_isBack vs0 σ0 Y_X8_isBack (31, [.ref v0, .int v1, .int v2, .int v3], σ) (e_I r) := by
  have le0 : s_le σ (e_I r).2 := s_lek hem_I (l_X8_isBack_31 hf) k
  refine ⟨le0, ?_⟩
  intro p e s m below meth c H locs cells slots ls X I hn1 hn2 hl
  have hn : cells + σ0.2.1 ≤ σ.2.1 ∧ slots + σ0.2.2.1 ≤ σ.2.2.1 := ⟨hn1, hn2⟩
  have hl : lv_has ls 4 [(0, .ref v0), (1, .int v1), (2, .int v2), (3, .int v3)] := hl
  have hx := X.1
  have hb : c.code = cX8_isBack := X.2.1
  have hown : s.vm.findClass RX8 = some m.cls := X.2.2.2.2.2.1
  have hts := X.2.2.2.2.2.2.1
  refine W.eq (g2 := F0 m 31 ls []) rfl ?_
  unfold T_X8_isBack_31 at hf
  refine lv_iload_n hx hb dX8_isBack_31 rfl (lv_at hl 2 rfl) ?_
  refine lv_iconst (v := 2) hx hb dX8_isBack_32 (by decide) ?_
  refine lv_iand hx hb dX8_isBack_33 ?_
  rcases s_ite hf with ⟨c1, hf⟩ | ⟨c1, hf⟩
  · refine lv_if_eq (tgt := 46) hx hb dX8_isBack_34 (by decide) (fun _ => ?_) (fun n => absurd c1 n)
    cases hf
    have k : s_V G (d + 7) M_X8_isBack vs0 σ0 Y_X8_isBack (46, [.ref v0, .int v1, .int v2, .int v3], σ) (e_I r) := k
    exact k.2 p e s m below meth c _ _ _ _ _ X I hn.1 hn.2 (lv_sub hl [0, 1, 2, 3] rfl)
  · refine lv_if_eq (tgt := 46) hx hb dX8_isBack_34 (by decide) (fun n => absurd n c1) (fun _ => ?_)
    obtain ⟨x1, h2, hf⟩ := s_bind hf
    obtain ⟨x2, h3, hf⟩ := s_bind hf
    refine lv_aload_n hx hb dX8_isBack_37 rfl (lv_at hl 0 rfl) ?_
    refine r_gr X I fl_X8_39 h2 dX8_isBack_38 ?_
    refine lv_iload_n hx hb dX8_isBack_41 rfl (lv_at hl 3 rfl) ?_
    refine r_bald X I h3 dX8_isBack_42 ?_
    rcases s_ite hf with ⟨c4, hf⟩ | ⟨c4, hf⟩
    · refine lv_if_eq (tgt := 98) hx hb dX8_isBack_43 (by decide) (fun _ => ?_) (fun n => absurd c4 n)
      cases hf
      have k : _ = r := k
      subst k
      refine lv_iconst (v := 1) hx hb dX8_isBack_98 (by decide) ?_
      refine lv_goto (tgt := 103) hx hb dX8_isBack_99 (by decide) ?_
      exact r_iret X I rfl rfl rfl hn dX8_isBack_103
    · refine lv_if_eq (tgt := 98) hx hb dX8_isBack_43 (by decide) (fun n => absurd n c4) (fun _ => ?_)
      cases hf
      have k : s_V G (d + 7) M_X8_isBack vs0 σ0 Y_X8_isBack (46, [.ref v0, .int v1, .int v2, .int v3], σ) (e_I r) := k
      exact k.2 p e s m below meth c _ _ _ _ _ X I hn.1 hn.2 (lv_sub hl [0, 1, 2, 3] rfl)
set_option maxRecDepth 100000 in
set_option maxHeartbeats 4000000 in
theorem v_X8_isBack_46 {G : sG} {d : Nat} {vs0 : List Value} {σ0 : sS} {v0 : Nat} {v1 : Int32} {v2 : Int32} {v3 : Int32} {σ : sS} {z : sZ Int32} {r : Int32 × sS} (hf : T_X8_isBack_46 v0 v1 v2 v3 σ = some z) (k : s_K G (d + 7) M_X8_isBack vs0 σ0 Y_X8_isBack e_I z r) : s_V G (d + 7) M_X8_isBack vs0 σ0 Y_X8_isBack (46, [.ref v0, .int v1, .int v2, .int v3], σ) (e_I r) := by
  have le0 : s_le σ (e_I r).2 := s_lek hem_I (l_X8_isBack_46 hf) k
  refine ⟨le0, ?_⟩
  intro p e s m below meth c H locs cells slots ls X I hn1 hn2 hl
  have hn : cells + σ0.2.1 ≤ σ.2.1 ∧ slots + σ0.2.2.1 ≤ σ.2.2.1 := ⟨hn1, hn2⟩
  have hl : lv_has ls 4 [(0, .ref v0), (1, .int v1), (2, .int v2), (3, .int v3)] := hl
  have hx := X.1
  have hb : c.code = cX8_isBack := X.2.1
  have hown : s.vm.findClass RX8 = some m.cls := X.2.2.2.2.2.1
  have hts := X.2.2.2.2.2.2.1
  refine W.eq (g2 := F0 m 46 ls []) rfl ?_
  unfold T_X8_isBack_46 at hf
  refine lv_iload_n hx hb dX8_isBack_46 rfl (lv_at hl 2 rfl) ?_
  refine lv_iconst (v := 4) hx hb dX8_isBack_47 (by decide) ?_
  refine lv_iand hx hb dX8_isBack_48 ?_
  rcases s_ite hf with ⟨c1, hf⟩ | ⟨c1, hf⟩
  · refine lv_if_eq (tgt := 68) hx hb dX8_isBack_49 (by decide) (fun _ => ?_) (fun n => absurd c1 n)
    cases hf
    have k : s_V G (d + 7) M_X8_isBack vs0 σ0 Y_X8_isBack (68, [.ref v0, .int v1, .int v2, .int v3], σ) (e_I r) := k
    exact k.2 p e s m below meth c _ _ _ _ _ X I hn.1 hn.2 (lv_sub hl [0, 1, 2, 3] rfl)
  · refine lv_if_eq (tgt := 68) hx hb dX8_isBack_49 (by decide) (fun n => absurd n c1) (fun _ => ?_)
    obtain ⟨q1, h2, hf⟩ := s_bind hf
    have le3 : s_le q1.2 (e_I r).2 := by
      refine s_lek hem_I ?_ k
      rcases s_ite hf with ⟨-, hf⟩ | ⟨-, hf⟩
      · cases hf
        exact s_le.rf
      · obtain ⟨q2, hh, hf⟩ := s_bind hf
        refine s_lz.tr (l_X8_isSaved hh) ?_
        rcases s_ite hf with ⟨-, hf⟩ | ⟨-, hf⟩
        · cases hf
          exact s_le.rf
        · cases hf
          exact s_le.rf
    refine lv_aload_n hx hb dX8_isBack_52 rfl (lv_at hl 0 rfl) ?_
    refine lv_iload_n hx hb dX8_isBack_53 rfl (lv_at hl 3 rfl) ?_
    refine r_callV (Y := M_X8_isStale) (v := some (.int q1.1)) X I w_2096 my_X8_isStale (by omega) (t_X8_isStale (G := G) (d := d + 1) h2) (b_X8_isStale h2) rfl rfl hl.1 rfl (Nat.le_of_ble_eq_true rfl) hn le3 dX8_isBack_54 (fun H locs cells slots I hn1 hn2 => ?_)
    have I : s_I G q1.2 s H locs := I
    have hn : cells + σ0.2.1 ≤ q1.2.2.1 ∧ slots + σ0.2.2.1 ≤ q1.2.2.2.1 := ⟨hn1, hn2⟩
    rcases s_ite hf with ⟨c4, hf⟩ | ⟨c4, hf⟩
    · refine lv_if_eq (tgt := 68) hx hb dX8_isBack_57 (by decide) (fun _ => ?_) (fun n => absurd c4 n)
      cases hf
      have k : s_V G (d + 7) M_X8_isBack vs0 σ0 Y_X8_isBack (68, [.ref v0, .int v1, .int v2, .int v3], q1.2) (e_I r) := k
      exact k.2 p e s m below meth c _ _ _ _ _ X I hn.1 hn.2 (lv_sub hl [0, 1, 2, 3] rfl)
    · refine lv_if_eq (tgt := 68) hx hb dX8_isBack_57 (by decide) (fun n => absurd n c4) (fun _ => ?_)
      obtain ⟨q2, h5, hf⟩ := s_bind hf
      have le6 : s_le q2.2 (e_I r).2 := by
        refine s_lek hem_I ?_ k
        rcases s_ite hf with ⟨-, hf⟩ | ⟨-, hf⟩
        · cases hf
          exact s_le.rf
        · cases hf
          exact s_le.rf
      refine lv_aload_n hx hb dX8_isBack_60 rfl (lv_at hl 0 rfl) ?_
      refine lv_iload_n hx hb dX8_isBack_61 rfl (lv_at hl 3 rfl) ?_
      refine r_callV (Y := M_X8_isSaved) (v := some (.int q2.1)) X I w_2100 my_X8_isSaved (by omega) (t_X8_isSaved (G := G) (d := d + 0) h5) (b_X8_isSaved h5) rfl rfl hl.1 rfl (Nat.le_of_ble_eq_true rfl) hn le6 dX8_isBack_62 (fun H locs cells slots I hn1 hn2 => ?_)
      have I : s_I G q2.2 s H locs := I
      have hn : cells + σ0.2.1 ≤ q2.2.2.1 ∧ slots + σ0.2.2.1 ≤ q2.2.2.2.1 := ⟨hn1, hn2⟩
      rcases s_ite hf with ⟨c7, hf⟩ | ⟨c7, hf⟩
      · refine lv_if_eq (tgt := 98) hx hb dX8_isBack_65 (by decide) (fun _ => ?_) (fun n => absurd c7 n)
        cases hf
        have k : _ = r := k
        subst k
        refine lv_iconst (v := 1) hx hb dX8_isBack_98 (by decide) ?_
        refine lv_goto (tgt := 103) hx hb dX8_isBack_99 (by decide) ?_
        exact r_iret X I rfl rfl rfl hn dX8_isBack_103
      · refine lv_if_eq (tgt := 98) hx hb dX8_isBack_65 (by decide) (fun n => absurd n c7) (fun _ => ?_)
        cases hf
        have k : s_V G (d + 7) M_X8_isBack vs0 σ0 Y_X8_isBack (68, [.ref v0, .int v1, .int v2, .int v3], q2.2) (e_I r) := k
        exact k.2 p e s m below meth c _ _ _ _ _ X I hn.1 hn.2 (lv_sub hl [0, 1, 2, 3] rfl)
set_option maxRecDepth 100000 in
set_option maxHeartbeats 4000000 in
theorem v_X8_isBack_68 {G : sG} {d : Nat} {vs0 : List Value} {σ0 : sS} {v0 : Nat} {v1 : Int32} {v2 : Int32} {v3 : Int32} {σ : sS} {z : sZ Int32} {r : Int32 × sS} (hf : T_X8_isBack_68 v0 v1 v2 v3 σ = some z) (k : s_K G (d + 7) M_X8_isBack vs0 σ0 Y_X8_isBack e_I z r) : s_V G (d + 7) M_X8_isBack vs0 σ0 Y_X8_isBack (68, [.ref v0, .int v1, .int v2, .int v3], σ) (e_I r) := by
  have le0 : s_le σ (e_I r).2 := s_lek hem_I (l_X8_isBack_68 hf) k
  refine ⟨le0, ?_⟩
  intro p e s m below meth c H locs cells slots ls X I hn1 hn2 hl
  have hn : cells + σ0.2.1 ≤ σ.2.1 ∧ slots + σ0.2.2.1 ≤ σ.2.2.1 := ⟨hn1, hn2⟩
  have hl : lv_has ls 4 [(0, .ref v0), (1, .int v1), (2, .int v2), (3, .int v3)] := hl
  have hx := X.1
  have hb : c.code = cX8_isBack := X.2.1
  have hown : s.vm.findClass RX8 = some m.cls := X.2.2.2.2.2.1
  have hts := X.2.2.2.2.2.2.1
  refine W.eq (g2 := F0 m 68 ls []) rfl ?_
  unfold T_X8_isBack_68 at hf
  refine lv_iload_n hx hb dX8_isBack_68 rfl (lv_at hl 2 rfl) ?_
  refine lv_bipush (v := 8) hx hb dX8_isBack_69 (by decide) ?_
  refine lv_iand hx hb dX8_isBack_71 ?_
  rcases s_ite hf with ⟨c1, hf⟩ | ⟨c1, hf⟩
  · refine lv_if_eq (tgt := 83) hx hb dX8_isBack_72 (by decide) (fun _ => ?_) (fun n => absurd c1 n)
    cases hf
    have k : s_V G (d + 7) M_X8_isBack vs0 σ0 Y_X8_isBack (83, [.ref v0, .int v1, .int v2], σ) (e_I r) := k
    exact k.2 p e s m below meth c _ _ _ _ _ X I hn.1 hn.2 (lv_sub hl [0, 1, 2] rfl)
  · refine lv_if_eq (tgt := 83) hx hb dX8_isBack_72 (by decide) (fun n => absurd n c1) (fun _ => ?_)
    obtain ⟨q1, h2, hf⟩ := s_bind hf
    have le3 : s_le q1.2 (e_I r).2 := by
      refine s_lek hem_I ?_ k
      rcases s_ite hf with ⟨-, hf⟩ | ⟨-, hf⟩
      · cases hf
        exact s_le.rf
      · cases hf
        exact s_le.rf
    refine lv_aload_n hx hb dX8_isBack_75 rfl (lv_at hl 0 rfl) ?_
    refine lv_iload_n hx hb dX8_isBack_76 rfl (lv_at hl 3 rfl) ?_
    refine r_callV (Y := M_X8_isOpen) (v := some (.int q1.1)) X I w_2092 my_X8_isOpen (by omega) (t_X8_isOpen (G := G) (d := d + 4) h2) (b_X8_isOpen h2) rfl rfl hl.1 rfl (Nat.le_of_ble_eq_true rfl) hn le3 dX8_isBack_77 (fun H locs cells slots I hn1 hn2 => ?_)
    have I : s_I G q1.2 s H locs := I
    have hn : cells + σ0.2.1 ≤ q1.2.2.1 ∧ slots + σ0.2.2.1 ≤ q1.2.2.2.1 := ⟨hn1, hn2⟩
    rcases s_ite hf with ⟨c4, hf⟩ | ⟨c4, hf⟩
    · refine lv_if_ne (tgt := 98) hx hb dX8_isBack_80 (by decide) (fun n => absurd c4 n) (fun _ => ?_)
      cases hf
      have k : s_V G (d + 7) M_X8_isBack vs0 σ0 Y_X8_isBack (83, [.ref v0, .int v1, .int v2], q1.2) (e_I r) := k
      exact k.2 p e s m below meth c _ _ _ _ _ X I hn.1 hn.2 (lv_sub hl [0, 1, 2] rfl)
    · refine lv_if_ne (tgt := 98) hx hb dX8_isBack_80 (by decide) (fun _ => ?_) (fun n => absurd n c4)
      cases hf
      have k : _ = r := k
      subst k
      refine lv_iconst (v := 1) hx hb dX8_isBack_98 (by decide) ?_
      refine lv_goto (tgt := 103) hx hb dX8_isBack_99 (by decide) ?_
      exact r_iret X I rfl rfl rfl hn dX8_isBack_103
set_option maxRecDepth 100000 in
set_option maxHeartbeats 4000000 in
theorem v_X8_isBack_83 {G : sG} {d : Nat} {vs0 : List Value} {σ0 : sS} {v0 : Nat} {v1 : Int32} {v2 : Int32} {σ : sS} {z : sZ Int32} {r : Int32 × sS} (hf : T_X8_isBack_83 v0 v1 v2 σ = some z) (k : s_K G (d + 7) M_X8_isBack vs0 σ0 Y_X8_isBack e_I z r) : s_V G (d + 7) M_X8_isBack vs0 σ0 Y_X8_isBack (83, [.ref v0, .int v1, .int v2], σ) (e_I r) := by
  have le0 : s_le σ (e_I r).2 := s_lek hem_I (l_X8_isBack_83 hf) k
  refine ⟨le0, ?_⟩
  intro p e s m below meth c H locs cells slots ls X I hn1 hn2 hl
  have hn : cells + σ0.2.1 ≤ σ.2.1 ∧ slots + σ0.2.2.1 ≤ σ.2.2.1 := ⟨hn1, hn2⟩
  have hl : lv_has ls 4 [(0, .ref v0), (1, .int v1), (2, .int v2)] := hl
  have hx := X.1
  have hb : c.code = cX8_isBack := X.2.1
  have hown : s.vm.findClass RX8 = some m.cls := X.2.2.2.2.2.1
  have hts := X.2.2.2.2.2.2.1
  refine W.eq (g2 := F0 m 83 ls []) rfl ?_
  unfold T_X8_isBack_83 at hf
  refine lv_iload_n hx hb dX8_isBack_83 rfl (lv_at hl 2 rfl) ?_
  refine lv_bipush (v := 16) hx hb dX8_isBack_84 (by decide) ?_
  refine lv_iand hx hb dX8_isBack_86 ?_
  rcases s_ite hf with ⟨c1, hf⟩ | ⟨c1, hf⟩
  · refine lv_if_eq (tgt := 102) hx hb dX8_isBack_87 (by decide) (fun _ => ?_) (fun n => absurd c1 n)
    cases hf
    have k : _ = r := k
    subst k
    refine lv_iconst (v := 0) hx hb dX8_isBack_102 (by decide) ?_
    exact r_iret X I rfl rfl rfl hn dX8_isBack_103
  · refine lv_if_eq (tgt := 102) hx hb dX8_isBack_87 (by decide) (fun n => absurd n c1) (fun _ => ?_)
    obtain ⟨q1, h2, hf⟩ := s_bind hf
    have le3 : s_le q1.2 (e_I r).2 := by
      refine s_lek hem_I ?_ k
      rcases s_ite hf with ⟨-, hf⟩ | ⟨-, hf⟩
      · cases hf
        exact s_le.rf
      · cases hf
        exact s_le.rf
    refine lv_aload_n hx hb dX8_isBack_90 rfl (lv_at hl 0 rfl) ?_
    refine lv_iload_n hx hb dX8_isBack_91 rfl (lv_at hl 1 rfl) ?_
    refine r_callV (Y := M_X8_isAgain) (v := some (.int q1.1)) X I w_2323 my_X8_isAgain (by omega) (t_X8_isAgain (G := G) (d := d + 2) h2) (b_X8_isAgain h2) rfl rfl hl.1 rfl (Nat.le_of_ble_eq_true rfl) hn le3 dX8_isBack_92 (fun H locs cells slots I hn1 hn2 => ?_)
    have I : s_I G q1.2 s H locs := I
    have hn : cells + σ0.2.1 ≤ q1.2.2.1 ∧ slots + σ0.2.2.1 ≤ q1.2.2.2.1 := ⟨hn1, hn2⟩
    rcases s_ite hf with ⟨c4, hf⟩ | ⟨c4, hf⟩
    · refine lv_if_eq (tgt := 102) hx hb dX8_isBack_95 (by decide) (fun _ => ?_) (fun n => absurd c4 n)
      cases hf
      have k : _ = r := k
      subst k
      refine lv_iconst (v := 0) hx hb dX8_isBack_102 (by decide) ?_
      exact r_iret X I rfl rfl rfl hn dX8_isBack_103
    · refine lv_if_eq (tgt := 102) hx hb dX8_isBack_95 (by decide) (fun n => absurd n c4) (fun _ => ?_)
      cases hf
      have k : _ = r := k
      subst k
      refine lv_iconst (v := 1) hx hb dX8_isBack_98 (by decide) ?_
      refine lv_goto (tgt := 103) hx hb dX8_isBack_99 (by decide) ?_
      exact r_iret X I rfl rfl rfl hn dX8_isBack_103
theorem v_X8_isBack {G : sG} {d : Nat} {vs0 : List Value} {σ0 : sS} {x : sL} {z : sZ Int32} {r : Int32 × sS} (hs : S_X8_isBack x = some z) (k : s_K G (d + 7) M_X8_isBack vs0 σ0 Y_X8_isBack e_I z r) : s_V G (d + 7) M_X8_isBack vs0 σ0 Y_X8_isBack x (e_I r) := by
  obtain ⟨pc, vs, σ⟩ := x
  unfold S_X8_isBack at hs
  dsimp only at hs
  rcases s_ite hs with ⟨c, hs⟩ | ⟨-, hs⟩
  · subst c
    unfold U_X8_isBack_0 at hs
    obtain ⟨a0, g0, hs⟩ := s_bind hs
    obtain ⟨a1, g1, hs⟩ := s_bind hs
    obtain ⟨a2, g2, hs⟩ := s_bind hs
    obtain ⟨u9, ge, hs⟩ := s_bind hs
    rw [g_r_to g0, g_i_to g1, g_i_to g2, g_e_to ge]
    exact v_X8_isBack_0 hs k
  rcases s_ite hs with ⟨c, hs⟩ | ⟨-, hs⟩
  · subst c
    unfold U_X8_isBack_31 at hs
    obtain ⟨a0, g0, hs⟩ := s_bind hs
    obtain ⟨a1, g1, hs⟩ := s_bind hs
    obtain ⟨a2, g2, hs⟩ := s_bind hs
    obtain ⟨a3, g3, hs⟩ := s_bind hs
    obtain ⟨u9, ge, hs⟩ := s_bind hs
    rw [g_r_to g0, g_i_to g1, g_i_to g2, g_i_to g3, g_e_to ge]
    exact v_X8_isBack_31 hs k
  rcases s_ite hs with ⟨c, hs⟩ | ⟨-, hs⟩
  · subst c
    unfold U_X8_isBack_46 at hs
    obtain ⟨a0, g0, hs⟩ := s_bind hs
    obtain ⟨a1, g1, hs⟩ := s_bind hs
    obtain ⟨a2, g2, hs⟩ := s_bind hs
    obtain ⟨a3, g3, hs⟩ := s_bind hs
    obtain ⟨u9, ge, hs⟩ := s_bind hs
    rw [g_r_to g0, g_i_to g1, g_i_to g2, g_i_to g3, g_e_to ge]
    exact v_X8_isBack_46 hs k
  rcases s_ite hs with ⟨c, hs⟩ | ⟨-, hs⟩
  · subst c
    unfold U_X8_isBack_68 at hs
    obtain ⟨a0, g0, hs⟩ := s_bind hs
    obtain ⟨a1, g1, hs⟩ := s_bind hs
    obtain ⟨a2, g2, hs⟩ := s_bind hs
    obtain ⟨a3, g3, hs⟩ := s_bind hs
    obtain ⟨u9, ge, hs⟩ := s_bind hs
    rw [g_r_to g0, g_i_to g1, g_i_to g2, g_i_to g3, g_e_to ge]
    exact v_X8_isBack_68 hs k
  rcases s_ite hs with ⟨c, hs⟩ | ⟨-, hs⟩
  · subst c
    unfold U_X8_isBack_83 at hs
    obtain ⟨a0, g0, hs⟩ := s_bind hs
    obtain ⟨a1, g1, hs⟩ := s_bind hs
    obtain ⟨a2, g2, hs⟩ := s_bind hs
    obtain ⟨u9, ge, hs⟩ := s_bind hs
    rw [g_r_to g0, g_i_to g1, g_i_to g2, g_e_to ge]
    exact v_X8_isBack_83 hs k
  cases hs
theorem t_X8_isBack {G : sG} {d : Nat} {v0 : Nat} {v1 : Int32} {v2 : Int32} {σ : sS} {q : Int32 × sS} (h : F_X8_isBack v0 v1 v2 σ = some q) : s_T G (d + 7) M_X8_isBack [.ref v0, .int v1, .int v2] σ (e_I q) := by
  unfold F_X8_isBack at h
  obtain ⟨-, -, h⟩ := s_bind h
  exact s_ofV rfl (by decide) (Nat.le_of_ble_eq_true rfl) rfl rfl (s_run_ind (V := fun x r => s_V G (d + 7) M_X8_isBack [.ref v0, .int v1, .int v2] σ Y_X8_isBack x (e_I r)) (fun x z r hs hk => v_X8_isBack hs (by cases z <;> exact hk)) h)
