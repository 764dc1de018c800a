/-! X8_throwsIf -/
noncomputable def T_X8_throwsIf_0 (v0 : Nat) (v1 : Int32) (v2 : Int32) (σ : sS) : Option (sZ Int32) :=
  if v1 = 0 then (if (v1 = 0 ∨ v1 = 1) then (some (.inr (v1, σ))) else none)
  else ((s_pf σ v0 8 0 (.int v2)).bind fun σ1 =>
  if (v1 = 0 ∨ v1 = 1) then (some (.inr (v1, σ1))) else none)
noncomputable def U_X8_throwsIf_0 (vs : List Value) (σ : sS) : Option (sZ Int32) := (g_r vs).bind fun a0 => (g_i a0.2).bind fun a1 => (g_i a1.2).bind fun a2 => (g_e a2.2).bind fun _ => T_X8_throwsIf_0 a0.1 a1.1 a2.1 σ
noncomputable def S_X8_throwsIf (x : sL) : Option (sZ Int32) := if x.1 = 0 then U_X8_throwsIf_0 x.2.1 x.2.2 else none
def Y_X8_throwsIf (pc : Nat) : List Nat := if pc = 0 then [0, 1, 2] else []
noncomputable def F_X8_throwsIf (v0 : Nat) (v1 : Int32) (v2 : Int32) (σ : sS) : Option (Int32 × sS) := (s_is σ v0 8).bind fun _ => s_run S_X8_throwsIf (0, [.ref v0, .int v1, .int v2], σ)
theorem l_X8_throwsIf_0 {v0 : Nat} {v1 : Int32} {v2 : Int32} {σ : sS} {z : sZ Int32} (hf : T_X8_throwsIf_0 v0 v1 v2 σ = some z) : s_lz σ z := by
  unfold T_X8_throwsIf_0 at hf
  rcases s_ite hf with ⟨-, hf⟩ | ⟨-, hf⟩
  · rcases s_ite hf with ⟨-, hf⟩ | ⟨-, hf⟩
    · cases hf
      exact s_le.rf
    · cases hf
  · obtain ⟨σ1, hh, hf⟩ := s_bind hf
    refine s_lz.tr (s_le2 (s_pf_2 hh)) ?_
    rcases s_ite hf with ⟨-, hf⟩ | ⟨-, hf⟩
    · cases hf
      exact s_le.rf
    · cases hf
theorem l_X8_throwsIf_s {x : sL} {z : sZ Int32} (hs : S_X8_throwsIf x = some z) : s_lz x.2.2 z := by
  obtain ⟨pc, vs, σ⟩ := x
  unfold S_X8_throwsIf at hs
  dsimp only at hs ⊢
  rcases s_ite hs with ⟨c, hs⟩ | ⟨-, hs⟩
  · subst c
    unfold U_X8_throwsIf_0 at hs
    obtain ⟨a0, g0, hs⟩ := s_bind hs
    obtain ⟨a1, g1, hs⟩ := s_bind hs
    obtain ⟨a2, g2, hs⟩ := s_bind hs
    obtain ⟨u9, ge, hs⟩ := s_bind hs
    exact l_X8_throwsIf_0 hs
  cases hs
theorem l_X8_throwsIf {v0 : Nat} {v1 : Int32} {v2 : Int32} {σ : sS} {q : Int32 × sS} (h : F_X8_throwsIf v0 v1 v2 σ = some q) : s_le σ q.2 := by
  unfold F_X8_throwsIf at h
  obtain ⟨-, -, h⟩ := s_bind h
  exact s_run_ind (V := fun x r => s_le x.2.2 r.2) (fun x z r hs hk => by
    have h9 := l_X8_throwsIf_s hs
    cases z with
    | inl y => exact s_le.tr h9 hk
    | inr q => cases hk; exact h9) h
theorem b_X8_throwsIf {v0 : Nat} {v1 : Int32} {v2 : Int32} {σ : sS} {q : Int32 × sS} (h : F_X8_throwsIf v0 v1 v2 σ = some q) : ∃ fs, σ.1 v0 = some (.inr (8, fs)) := by
  unfold F_X8_throwsIf at h
  obtain ⟨u, hu, -⟩ := s_bind h
  exact s_is_to hu
set_option maxRecDepth 100000 in
set_option maxHeartbeats 4000000 in
theorem v_X8_throwsIf_0 {G : sG} {d : Nat} {vs0 : List Value} {σ0 : sS} {v0 : Nat} {v1 : Int32} {v2 : Int32} {σ : sS} {z : sZ Int32} {r : Int32 × sS} (hf : T_X8_throwsIf_0 v0 v1 v2 σ = some z) (k : s_K G (d + 1) M_X8_throwsIf vs0 σ0 Y_X8_throwsIf e_I z r) : s_V G (d + 1) M_X8_throwsIf vs0 σ0 Y_X8_throwsIf (0, [.ref v0, .int v1, .int v2], σ) (e_I r) := by
  have le0 : s_le σ (e_I r).2 := s_lek hem_I (l_X8_throwsIf_0 hf) k
  refine ⟨le0, ?_⟩
  intro p e s m below meth c H locs cells slots ls X I hn1 hn2 hl
  have hn : cells + σ0.2.1 ≤ σ.2.1 ∧ slots + σ0.2.2.1 ≤ σ.2.2.1 := ⟨hn1, hn2⟩
  have hl : lv_has ls 3 [(0, .ref v0), (1, .int v1), (2, .int v2)] := hl
  have hx := X.1
  have hb : c.code = cX8_throwsIf := X.2.1
  have hown : s.vm.findClass RX8 = some m.cls := X.2.2.2.2.2.1
  have hts := X.2.2.2.2.2.2.1
  refine W.eq (g2 := F0 m 0 ls []) rfl ?_
  unfold T_X8_throwsIf_0 at hf
  refine lv_iload_n hx hb dX8_throwsIf_0 rfl (lv_at hl 1 rfl) ?_
  rcases s_ite hf with ⟨c1, hf⟩ | ⟨c1, hf⟩
  · refine lv_if_eq (tgt := 9) hx hb dX8_throwsIf_1 (by decide) (fun _ => ?_) (fun n => absurd c1 n)
    refine lv_iload_n hx hb dX8_throwsIf_9 rfl (lv_at hl 1 rfl) ?_
    rcases s_ite hf with ⟨hchk, hf⟩ | ⟨-, hf⟩
    · cases hf
      have k : _ = r := k
      subst k
      exact r_iret X I rfl (s_nb hchk) rfl hn dX8_throwsIf_10
    · cases hf
  · refine lv_if_eq (tgt := 9) hx hb dX8_throwsIf_1 (by decide) (fun n => absurd n c1) (fun _ => ?_)
    obtain ⟨σ1, h2, hf⟩ := s_bind hf
    have le3 : s_le σ1 (e_I r).2 := by
      refine s_lek hem_I ?_ k
      rcases s_ite hf with ⟨-, hf⟩ | ⟨-, hf⟩
      · cases hf
        exact s_le.rf
      · cases hf
    refine lv_aload_n hx hb dX8_throwsIf_4 rfl (lv_at hl 0 rfl) ?_
    refine lv_iload_n hx hb dX8_throwsIf_5 rfl (lv_at hl 2 rfl) ?_
    refine r_put X I fp_X8_3 (fun h => by cases h) h2 rfl rfl dX8_throwsIf_6 (fun H locs I => ?_)
    have hn := s_k2 (s_pf_2 h2) hn
    refine lv_iload_n hx hb dX8_throwsIf_9 rfl (lv_at hl 1 rfl) ?_
    rcases s_ite hf with ⟨hchk, hf⟩ | ⟨-, hf⟩
    · cases hf
      have k : _ = r := k
      subst k
      exact r_iret X I rfl (s_nb hchk) rfl hn dX8_throwsIf_10
    · cases hf
theorem v_X8_throwsIf {G : sG} {d : Nat} {vs0 : List Value} {σ0 : sS} {x : sL} {z : sZ Int32} {r : Int32 × sS} (hs : S_X8_throwsIf x = some z) (k : s_K G (d + 1) M_X8_throwsIf vs0 σ0 Y_X8_throwsIf e_I z r) : s_V G (d + 1) M_X8_throwsIf vs0 σ0 Y_X8_throwsIf x (e_I r) := by
  obtain ⟨pc, vs, σ⟩ := x
  unfold S_X8_throwsIf at hs
  dsimp only at hs
  rcases s_ite hs with ⟨c, hs⟩ | ⟨-, hs⟩
  · subst c
    unfold U_X8_throwsIf_0 at hs
    obtain ⟨a0, g0, hs⟩ := s_bind hs
    obtain ⟨a1, g1, hs⟩ := s_bind hs
    obtain ⟨a2, g2, hs⟩ := s_bind hs
    obtain ⟨u9, ge, hs⟩ := s_bind hs
    rw [g_r_to g0, g_i_to g1, g_i_to g2, g_e_to ge]
    exact v_X8_throwsIf_0 hs k
  cases hs
theorem t_X8_throwsIf {G : sG} {d : Nat} {v0 : Nat} {v1 : Int32} {v2 : Int32} {σ : sS} {q : Int32 × sS} (h : F_X8_throwsIf v0 v1 v2 σ = some q) : s_T G (d + 1) M_X8_throwsIf [.ref v0, .int v1, .int v2] σ (e_I q) := by
  unfold F_X8_throwsIf at h
  obtain ⟨-, -, h⟩ := s_bind h
  exact s_ofV rfl (by decide) (Nat.le_of_ble_eq_true rfl) rfl rfl (s_run_ind (V := fun x r => s_V G (d + 1) M_X8_throwsIf [.ref v0, .int v1, .int v2] σ Y_X8_throwsIf x (e_I r)) (fun x z r hs hk => v_X8_throwsIf hs (by cases z <;> exact hk)) h)
/-! X8_formulas -/
noncomputable def T_X8_formulas_0 (v0 : Nat) (σ : sS) : Option (sZ Int32) :=
  (s_fr σ v0 8 1).bind fun x1 =>
  (s_ai σ x1 1).bind fun x2 =>
  some (.inr (x2, σ))
noncomputable def U_X8_formulas_0 (vs : List Value) (σ : sS) : Option (sZ Int32) := (g_r vs).bind fun a0 => (g_e a0.2).bind fun _ => T_X8_formulas_0 a0.1 σ
noncomputable def S_X8_formulas (x : sL) : Option (sZ Int32) := if x.1 = 0 then U_X8_formulas_0 x.2.1 x.2.2 else none
def Y_X8_formulas (pc : Nat) : List Nat := if pc = 0 then [0] else []
noncomputable def F_X8_formulas (v0 : Nat) (σ : sS) : Option (Int32 × sS) := (s_is σ v0 8).bind fun _ => s_run S_X8_formulas (0, [.ref v0], σ)
theorem l_X8_formulas_0 {v0 : Nat} {σ : sS} {z : sZ Int32} (hf : T_X8_formulas_0 v0 σ = some z) : s_lz σ z := by
  unfold T_X8_formulas_0 at hf
  obtain ⟨x1, -, hf⟩ := s_bind hf
  obtain ⟨x2, -, hf⟩ := s_bind hf
  cases hf
  exact s_le.rf
theorem l_X8_formulas_s {x : sL} {z : sZ Int32} (hs : S_X8_formulas x = some z) : s_lz x.2.2 z := by
  obtain ⟨pc, vs, σ⟩ := x
  unfold S_X8_formulas at hs
  dsimp only at hs ⊢
  rcases s_ite hs with ⟨c, hs⟩ | ⟨-, hs⟩
  · subst c
    unfold U_X8_formulas_0 at hs
    obtain ⟨a0, g0, hs⟩ := s_bind hs
    obtain ⟨u9, ge, hs⟩ := s_bind hs
    exact l_X8_formulas_0 hs
  cases hs
theorem l_X8_formulas {v0 : Nat} {σ : sS} {q : Int32 × sS} (h : F_X8_formulas v0 σ = some q) : s_le σ q.2 := by
  unfold F_X8_formulas at h
  obtain ⟨-, -, h⟩ := s_bind h
  exact s_run_ind (V := fun x r => s_le x.2.2 r.2) (fun x z r hs hk => by
    have h9 := l_X8_formulas_s hs
    cases z with
    | inl y => exact s_le.tr h9 hk
    | inr q => cases hk; exact h9) h
theorem b_X8_formulas {v0 : Nat} {σ : sS} {q : Int32 × sS} (h : F_X8_formulas v0 σ = some q) : ∃ fs, σ.1 v0 = some (.inr (8, fs)) := by
  unfold F_X8_formulas at h
  obtain ⟨u, hu, -⟩ := s_bind h
  exact s_is_to hu
set_option maxRecDepth 100000 in
set_option maxHeartbeats 4000000 in
theorem v_X8_formulas_0 {G : sG} {d : Nat} {vs0 : List Value} {σ0 : sS} {v0 : Nat} {σ : sS} {z : sZ Int32} {r : Int32 × sS} (hf : T_X8_formulas_0 v0 σ = some z) (k : s_K G (d + 1) M_X8_formulas vs0 σ0 Y_X8_formulas e_I z r) : s_V G (d + 1) M_X8_formulas vs0 σ0 Y_X8_formulas (0, [.ref v0], σ) (e_I r) := by
  have le0 : s_le σ (e_I r).2 := s_lek hem_I (l_X8_formulas_0 hf) k
  refine ⟨le0, ?_⟩
  intro p e s m below meth c H locs cells slots ls X I hn1 hn2 hl
  have hn : cells + σ0.2.1 ≤ σ.2.1 ∧ slots + σ0.2.2.1 ≤ σ.2.2.1 := ⟨hn1, hn2⟩
  have hl : lv_has ls 1 [(0, .ref v0)] := hl
  have hx := X.1
  have hb : c.code = cX8_formulas := X.2.1
  have hown : s.vm.findClass RX8 = some m.cls := X.2.2.2.2.2.1
  have hts := X.2.2.2.2.2.2.1
  refine W.eq (g2 := F0 m 0 ls []) rfl ?_
  unfold T_X8_formulas_0 at hf
  obtain ⟨x1, h1, hf⟩ := s_bind hf
  obtain ⟨x2, h2, hf⟩ := s_bind hf
  cases hf
  have k : _ = r := k
  subst k
  refine lv_aload_n hx hb dX8_formulas_0 rfl (lv_at hl 0 rfl) ?_
  refine r_gr X I fl_X8_13 h1 dX8_formulas_1 ?_
  refine lv_iconst (v := 1) hx hb dX8_formulas_4 (by decide) ?_
  refine r_iald X I h2 dX8_formulas_5 ?_
  exact r_iret X I rfl rfl rfl hn dX8_formulas_6
theorem v_X8_formulas {G : sG} {d : Nat} {vs0 : List Value} {σ0 : sS} {x : sL} {z : sZ Int32} {r : Int32 × sS} (hs : S_X8_formulas x = some z) (k : s_K G (d + 1) M_X8_formulas vs0 σ0 Y_X8_formulas e_I z r) : s_V G (d + 1) M_X8_formulas vs0 σ0 Y_X8_formulas x (e_I r) := by
  obtain ⟨pc, vs, σ⟩ := x
  unfold S_X8_formulas at hs
  dsimp only at hs
  rcases s_ite hs with ⟨c, hs⟩ | ⟨-, hs⟩
  · subst c
    unfold U_X8_formulas_0 at hs
    obtain ⟨a0, g0, hs⟩ := s_bind hs
    obtain ⟨u9, ge, hs⟩ := s_bind hs
    rw [g_r_to g0, g_e_to ge]
    exact v_X8_formulas_0 hs k
  cases hs
theorem t_X8_formulas {G : sG} {d : Nat} {v0 : Nat} {σ : sS} {q : Int32 × sS} (h : F_X8_formulas v0 σ = some q) : s_T G (d + 1) M_X8_formulas [.ref v0] σ (e_I q) := by
  unfold F_X8_formulas at h
  obtain ⟨-, -, h⟩ := s_bind h
  exact s_ofV rfl (by decide) (Nat.le_of_ble_eq_true rfl) rfl rfl (s_run_ind (V := fun x r => s_V G (d + 1) M_X8_formulas [.ref v0] σ Y_X8_formulas x (e_I r)) (fun x z r hs hk => v_X8_formulas hs (by cases z <;> exact hk)) h)
/-! X8_at -/
noncomputable def T_X8_at_0 (v0 : Nat) (v1 : Int32) (v2 : Int32) (σ : sS) : Option (sZ Int32) :=
  (s_fr σ v0 8 5).bind fun x1 =>
  (s_ai σ x1 ((40 * v1) + v2)).bind fun x2 =>
  some (.inr (x2, σ))
noncomputable def U_X8_at_0 (vs : List Value) (σ : sS) : Option (sZ Int32) := (g_r vs).bind fun a0 => (g_i a0.2).bind fun a1 => (g_i a1.2).bind fun a2 => (g_e a2.2).bind fun _ => T_X8_at_0 a0.1 a1.1 a2.1 σ
noncomputable def S_X8_at (x : sL) : Option (sZ Int32) := if x.1 = 0 then U_X8_at_0 x.2.1 x.2.2 else none
def Y_X8_at (pc : Nat) : List Nat := if pc = 0 then [0, 1, 2] else []
noncomputable def F_X8_at (v0 : Nat) (v1 : Int32) (v2 : Int32) (σ : sS) : Option (Int32 × sS) := (s_is σ v0 8).bind fun _ => s_run S_X8_at (0, [.ref v0, .int v1, .int v2], σ)
theorem l_X8_at_0 {v0 : Nat} {v1 : Int32} {v2 : Int32} {σ : sS} {z : sZ Int32} (hf : T_X8_at_0 v0 v1 v2 σ = some z) : s_lz σ z := by
  unfold T_X8_at_0 at hf
  obtain ⟨x1, -, hf⟩ := s_bind hf
  obtain ⟨x2, -, hf⟩ := s_bind hf
  cases hf
  exact s_le.rf
theorem l_X8_at_s {x : sL} {z : sZ Int32} (hs : S_X8_at x = some z) : s_lz x.2.2 z := by
  obtain ⟨pc, vs, σ⟩ := x
  unfold S_X8_at at hs
  dsimp only at hs ⊢
  rcases s_ite hs with ⟨c, hs⟩ | ⟨-, hs⟩
  · subst c
    unfold U_X8_at_0 at hs
    obtain ⟨a0, g0, hs⟩ := s_bind hs
    obtain ⟨a1, g1, hs⟩ := s_bind hs
    obtain ⟨a2, g2, hs⟩ := s_bind hs
    obtain ⟨u9, ge, hs⟩ := s_bind hs
    exact l_X8_at_0 hs
  cases hs
theorem l_X8_at {v0 : Nat} {v1 : Int32} {v2 : Int32} {σ : sS} {q : Int32 × sS} (h : F_X8_at v0 v1 v2 σ = some q) : s_le σ q.2 := by
  unfold F_X8_at at h
  obtain ⟨-, -, h⟩ := s_bind h
  exact s_run_ind (V := fun x r => s_le x.2.2 r.2) (fun x z r hs hk => by
    have h9 := l_X8_at_s hs
    cases z with
    | inl y => exact s_le.tr h9 hk
    | inr q => cases hk; exact h9) h
theorem b_X8_at {v0 : Nat} {v1 : Int32} {v2 : Int32} {σ : sS} {q : Int32 × sS} (h : F_X8_at v0 v1 v2 σ = some q) : ∃ fs, σ.1 v0 = some (.inr (8, fs)) := by
  unfold F_X8_at at h
  obtain ⟨u, hu, -⟩ := s_bind h
  exact s_is_to hu
set_option maxRecDepth 100000 in
set_option maxHeartbeats 4000000 in
theorem v_X8_at_0 {G : sG} {d : Nat} {vs0 : List Value} {σ0 : sS} {v0 : Nat} {v1 : Int32} {v2 : Int32} {σ : sS} {z : sZ Int32} {r : Int32 × sS} (hf : T_X8_at_0 v0 v1 v2 σ = some z) (k : s_K G (d + 1) M_X8_at vs0 σ0 Y_X8_at e_I z r) : s_V G (d + 1) M_X8_at vs0 σ0 Y_X8_at (0, [.ref v0, .int v1, .int v2], σ) (e_I r) := by
  have le0 : s_le σ (e_I r).2 := s_lek hem_I (l_X8_at_0 hf) k
  refine ⟨le0, ?_⟩
  intro p e s m below meth c H locs cells slots ls X I hn1 hn2 hl
  have hn : cells + σ0.2.1 ≤ σ.2.1 ∧ slots + σ0.2.2.1 ≤ σ.2.2.1 := ⟨hn1, hn2⟩
  have hl : lv_has ls 3 [(0, .ref v0), (1, .int v1), (2, .int v2)] := hl
  have hx := X.1
  have hb : c.code = cX8_at := X.2.1
  have hown : s.vm.findClass RX8 = some m.cls := X.2.2.2.2.2.1
  have hts := X.2.2.2.2.2.2.1
  refine W.eq (g2 := F0 m 0 ls []) rfl ?_
  unfold T_X8_at_0 at hf
  obtain ⟨x1, h1, hf⟩ := s_bind hf
  obtain ⟨x2, h2, hf⟩ := s_bind hf
  cases hf
  have k : _ = r := k
  subst k
  refine lv_aload_n hx hb dX8_at_0 rfl (lv_at hl 0 rfl) ?_
  refine r_gr X I fl_X8_23 h1 dX8_at_1 ?_
  refine lv_bipush (v := 40) hx hb dX8_at_4 (by decide) ?_
  refine lv_iload_n hx hb dX8_at_6 rfl (lv_at hl 1 rfl) ?_
  refine lv_imul hx hb dX8_at_7 ?_
  refine lv_iload_n hx hb dX8_at_8 rfl (lv_at hl 2 rfl) ?_
  refine lv_iadd hx hb dX8_at_9 ?_
  refine r_iald X I h2 dX8_at_10 ?_
  exact r_iret X I rfl rfl rfl hn dX8_at_11
theorem v_X8_at {G : sG} {d : Nat} {vs0 : List Value} {σ0 : sS} {x : sL} {z : sZ Int32} {r : Int32 × sS} (hs : S_X8_at x = some z) (k : s_K G (d + 1) M_X8_at vs0 σ0 Y_X8_at e_I z r) : s_V G (d + 1) M_X8_at vs0 σ0 Y_X8_at x (e_I r) := by
  obtain ⟨pc, vs, σ⟩ := x
  unfold S_X8_at at hs
  dsimp only at hs
  rcases s_ite hs with ⟨c, hs⟩ | ⟨-, hs⟩
  · subst c
    unfold U_X8_at_0 at hs
    obtain ⟨a0, g0, hs⟩ := s_bind hs
    obtain ⟨a1, g1, hs⟩ := s_bind hs
    obtain ⟨a2, g2, hs⟩ := s_bind hs
    obtain ⟨u9, ge, hs⟩ := s_bind hs
    rw [g_r_to g0, g_i_to g1, g_i_to g2, g_e_to ge]
    exact v_X8_at_0 hs k
  cases hs
theorem t_X8_at {G : sG} {d : Nat} {v0 : Nat} {v1 : Int32} {v2 : Int32} {σ : sS} {q : Int32 × sS} (h : F_X8_at v0 v1 v2 σ = some q) : s_T G (d + 1) M_X8_at [.ref v0, .int v1, .int v2] σ (e_I q) := by
  unfold F_X8_at at h
  obtain ⟨-, -, h⟩ := s_bind h
  exact s_ofV rfl (by decide) (Nat.le_of_ble_eq_true rfl) rfl rfl (s_run_ind (V := fun x r => s_V G (d + 1) M_X8_at [.ref v0, .int v1, .int v2] σ Y_X8_at x (e_I r)) (fun x z r hs hk => v_X8_at hs (by cases z <;> exact hk)) h)
/-! X8_fills -/
noncomputable def T_X8_fills_0 (v0 : Nat) (σ : sS) : Option (sZ Unit) :=
  some (.inl (2, [.ref v0, .int 0], σ))
noncomputable def U_X8_fills_0 (vs : List Value) (σ : sS) : Option (sZ Unit) := (g_r vs).bind fun a0 => (g_e a0.2).bind fun _ => T_X8_fills_0 a0.1 σ
noncomputable def T_X8_fills_2 (v0 : Nat) (v1 : Int32) (σ : sS) : Option (sZ Unit) :=
  (F_X8_formulas v0 σ).bind fun q1 =>
  if q1.1 ≤ v1 then (some (.inr ((), q1.2)))
  else ((s_fr q1.2 v0 8 4).bind fun x2 =>
  (s_fr q1.2 v0 8 1).bind fun x3 =>
  (s_ai q1.2 x3 (62 + (41 * v1))).bind fun x4 =>
  (s_si q1.2 x2 v1 x4).bind fun σ5 =>
  some (.inl (30, [.ref v0, .int v1, .int 0], σ5)))
noncomputable def U_X8_fills_2 (vs : List Value) (σ : sS) : Option (sZ Unit) := (g_r vs).bind fun a0 => (g_i a0.2).bind fun a1 => (g_e a1.2).bind fun _ => T_X8_fills_2 a0.1 a1.1 σ
noncomputable def T_X8_fills_30 (v0 : Nat) (v1 : Int32) (v2 : Int32) (σ : sS) : Option (sZ Unit) :=
  (s_fr σ v0 8 4).bind fun x1 =>
  (s_ai σ x1 v1).bind fun x2 =>
  if x2 ≤ v2 then (some (.inl (2, [.ref v0, .int (v1 + 1)], σ)))
  else ((s_fr σ v0 8 5).bind fun x3 =>
  (s_fr σ v0 8 1).bind fun x4 =>
  (s_ai σ x4 (((62 + (41 * v1)) + 1) + v2)).bind fun x5 =>
  (s_si σ x3 ((40 * v1) + v2) x5).bind fun σ6 =>
  some (.inl (30, [.ref v0, .int v1, .int (v2 + 1)], σ6)))
noncomputable def U_X8_fills_30 (vs : List Value) (σ : sS) : Option (sZ Unit) := (g_r vs).bind fun a0 => (g_i a0.2).bind fun a1 => (g_i a1.2).bind fun a2 => (g_e a2.2).bind fun _ => T_X8_fills_30 a0.1 a1.1 a2.1 σ
noncomputable def S_X8_fills (x : sL) : Option (sZ Unit) := if x.1 = 0 then U_X8_fills_0 x.2.1 x.2.2 else if x.1 = 2 then U_X8_fills_2 x.2.1 x.2.2 else if x.1 = 30 then U_X8_fills_30 x.2.1 x.2.2 else none
def Y_X8_fills (pc : Nat) : List Nat := if pc = 0 then [0] else if pc = 2 then [0, 1] else if pc = 30 then [0, 1, 2] else []
noncomputable def F_X8_fills (v0 : Nat) (σ : sS) : Option (Unit × sS) := (s_is σ v0 8).bind fun _ => s_run S_X8_fills (0, [.ref v0], σ)
theorem l_X8_fills_0 {v0 : Nat} {σ : sS} {z : sZ Unit} (hf : T_X8_fills_0 v0 σ = some z) : s_lz σ z := by
  unfold T_X8_fills_0 at hf
  cases hf
  exact s_le.rf
theorem l_X8_fills_2 {v0 : Nat} {v1 : Int32} {σ : sS} {z : sZ Unit} (hf : T_X8_fills_2 v0 v1 σ = some z) : s_lz σ z := by
  unfold T_X8_fills_2 at hf
  obtain ⟨q1, hh, hf⟩ := s_bind hf
  refine s_lz.tr (l_X8_formulas hh) ?_
  rcases s_ite hf with ⟨-, hf⟩ | ⟨-, hf⟩
  · cases hf
    exact s_le.rf
  · obtain ⟨x2, -, hf⟩ := s_bind hf
    obtain ⟨x3, -, hf⟩ := s_bind hf
    obtain ⟨x4, -, hf⟩ := s_bind hf
    obtain ⟨σ5, hh, hf⟩ := s_bind hf
    refine s_lz.tr (s_le2 (s_si_2 hh)) ?_
    cases hf
    exact s_le.rf
theorem l_X8_fills_30 {v0 : Nat} {v1 : Int32} {v2 : Int32} {σ : sS} {z : sZ Unit} (hf : T_X8_fills_30 v0 v1 v2 σ = some z) : s_lz σ z := by
  unfold T_X8_fills_30 at hf
  obtain ⟨x1, -, hf⟩ := s_bind hf
  obtain ⟨x2, -, hf⟩ := s_bind hf
  rcases s_ite hf with ⟨-, hf⟩ | ⟨-, hf⟩
  · cases hf
    exact s_le.rf
  · obtain ⟨x3, -, hf⟩ := s_bind hf
    obtain ⟨x4, -, hf⟩ := s_bind hf
    obtain ⟨x5, -, hf⟩ := s_bind hf
    obtain ⟨σ6, hh, hf⟩ := s_bind hf
    refine s_lz.tr (s_le2 (s_si_2 hh)) ?_
    cases hf
    exact s_le.rf
theorem l_X8_fills_s {x : sL} {z : sZ Unit} (hs : S_X8_fills x = some z) : s_lz x.2.2 z := by
  obtain ⟨pc, vs, σ⟩ := x
  unfold S_X8_fills at hs
  dsimp only at hs ⊢
  rcases s_ite hs with ⟨c, hs⟩ | ⟨-, hs⟩
  · subst c
    unfold U_X8_fills_0 at hs
    obtain ⟨a0, g0, hs⟩ := s_bind hs
    obtain ⟨u9, ge, hs⟩ := s_bind hs
    exact l_X8_fills_0 hs
  rcases s_ite hs with ⟨c, hs⟩ | ⟨-, hs⟩
  · subst c
    unfold U_X8_fills_2 at hs
    obtain ⟨a0, g0, hs⟩ := s_bind hs
    obtain ⟨a1, g1, hs⟩ := s_bind hs
    obtain ⟨u9, ge, hs⟩ := s_bind hs
    exact l_X8_fills_2 hs
  rcases s_ite hs with ⟨c, hs⟩ | ⟨-, hs⟩
  · subst c
    unfold U_X8_fills_30 at hs
    obtain ⟨a0, g0, hs⟩ := s_bind hs
    obtain ⟨a1, g1, hs⟩ := s_bind hs
    obtain ⟨a2, g2, hs⟩ := s_bind hs
    obtain ⟨u9, ge, hs⟩ := s_bind hs
    exact l_X8_fills_30 hs
  cases hs
theorem l_X8_fills {v0 : Nat} {σ : sS} {q : Unit × sS} (h : F_X8_fills v0 σ = some q) : s_le σ q.2 := by
  unfold F_X8_fills at h
  obtain ⟨-, -, h⟩ := s_bind h
  exact s_run_ind (V := fun x r => s_le x.2.2 r.2) (fun x z r hs hk => by
    have h9 := l_X8_fills_s hs
    cases z with
    | inl y => exact s_le.tr h9 hk
    | inr q => cases hk; exact h9) h
theorem b_X8_fills {v0 : Nat} {σ : sS} {q : Unit × sS} (h : F_X8_fills v0 σ = some q) : ∃ fs, σ.1 v0 = some (.inr (8, fs)) := by
  unfold F_X8_fills at h
  obtain ⟨u, hu, -⟩ := s_bind h
  exact s_is_to hu
set_option maxRecDepth 100000 in
set_option maxHeartbeats 4000000 in
theorem v_X8_fills_0 {G : sG} {d : Nat} {vs0 : List Value} {σ0 : sS} {v0 : Nat} {σ : sS} {z : sZ Unit} {r : Unit × sS} (hf : T_X8_fills_0 v0 σ = some z) (k : s_K G (d + 2) M_X8_fills vs0 σ0 Y_X8_fills e_V z r) : s_V G (d + 2) M_X8_fills vs0 σ0 Y_X8_fills (0, [.ref v0], σ) (e_V r) := by
  have le0 : s_le σ (e_V r).2 := s_lek hem_V (l_X8_fills_0 hf) k
  refine ⟨le0, ?_⟩
  intro p e s m below meth c H locs cells slots ls X I hn1 hn2 hl
  have hn : cells + σ0.2.1 ≤ σ.2.1 ∧ slots + σ0.2.2.1 ≤ σ.2.2.1 := ⟨hn1, hn2⟩
  have hl : lv_has ls 3 [(0, .ref v0)] := hl
  have hx := X.1
  have hb : c.code = cX8_fills := X.2.1
  have hown : s.vm.findClass RX8 = some m.cls := X.2.2.2.2.2.1
  have hts := X.2.2.2.2.2.2.1
  refine W.eq (g2 := F0 m 0 ls []) rfl ?_
  unfold T_X8_fills_0 at hf
  cases hf
  have k : s_V G (d + 2) M_X8_fills vs0 σ0 Y_X8_fills (2, [.ref v0, .int 0], σ) (e_V r) := k
  refine lv_iconst (v := 0) hx hb dX8_fills_0 (by decide) ?_
  refine lv_istore_n (lv' := [(1, .int 0), (0, .ref v0)]) hx hb dX8_fills_1 rfl hl (by decide) rfl (fun ls hl => ?_)
  exact k.2 p e s m below meth c _ _ _ _ _ X I hn.1 hn.2 (lv_sub hl [1, 0] rfl)
set_option maxRecDepth 100000 in
set_option maxHeartbeats 4000000 in
theorem v_X8_fills_2 {G : sG} {d : Nat} {vs0 : List Value} {σ0 : sS} {v0 : Nat} {v1 : Int32} {σ : sS} {z : sZ Unit} {r : Unit × sS} (hf : T_X8_fills_2 v0 v1 σ = some z) (k : s_K G (d + 2) M_X8_fills vs0 σ0 Y_X8_fills e_V z r) : s_V G (d + 2) M_X8_fills vs0 σ0 Y_X8_fills (2, [.ref v0, .int v1], σ) (e_V r) := by
  have le0 : s_le σ (e_V r).2 := s_lek hem_V (l_X8_fills_2 hf) k
  refine ⟨le0, ?_⟩
  intro p e s m below meth c H locs cells slots ls X I hn1 hn2 hl
  have hn : cells + σ0.2.1 ≤ σ.2.1 ∧ slots + σ0.2.2.1 ≤ σ.2.2.1 := ⟨hn1, hn2⟩
  have hl : lv_has ls 3 [(0, .ref v0), (1, .int v1)] := hl
  have hx := X.1
  have hb : c.code = cX8_fills := X.2.1
  have hown : s.vm.findClass RX8 = some m.cls := X.2.2.2.2.2.1
  have hts := X.2.2.2.2.2.2.1
  refine W.eq (g2 := F0 m 2 ls []) rfl ?_
  unfold T_X8_fills_2 at hf
  obtain ⟨q1, h1, hf⟩ := s_bind hf
  have le2 : s_le q1.2 (e_V r).2 := by
    refine s_lek hem_V ?_ k
    rcases s_ite hf with ⟨-, hf⟩ | ⟨-, hf⟩
    · cases hf
      exact s_le.rf
    · obtain ⟨x2, -, hf⟩ := s_bind hf
      obtain ⟨x3, -, hf⟩ := s_bind hf
      obtain ⟨x4, -, hf⟩ := s_bind hf
      obtain ⟨σ5, hh, hf⟩ := s_bind hf
      refine s_lz.tr (s_le2 (s_si_2 hh)) ?_
      cases hf
      exact s_le.rf
  refine lv_iload_n hx hb dX8_fills_2 rfl (lv_at hl 1 rfl) ?_
  refine lv_aload_n hx hb dX8_fills_3 rfl (lv_at hl 0 rfl) ?_
  refine r_callV (Y := M_X8_formulas) (v := some (.int q1.1)) X I w_1813 my_X8_formulas (by omega) (t_X8_formulas (G := G) (d := d + 0) h1) (b_X8_formulas h1) rfl rfl hl.1 rfl (Nat.le_of_ble_eq_true rfl) hn le2 dX8_fills_4 (fun H locs cells slots I hn1 hn2 => ?_)
  have I : s_I G q1.2 s H locs := I
  have hn : cells + σ0.2.1 ≤ q1.2.2.1 ∧ slots + σ0.2.2.1 ≤ q1.2.2.2.1 := ⟨hn1, hn2⟩
  rcases s_ite hf with ⟨c3, hf⟩ | ⟨c3, hf⟩
  · refine lv_icmp_ge (tgt := 79) hx hb dX8_fills_7 (by decide) (fun _ => ?_) (fun n => absurd c3 n)
    cases hf
    have k : _ = r := k
    subst k
    exact r_vret X I rfl rfl hn dX8_fills_79
  · refine lv_icmp_ge (tgt := 79) hx hb dX8_fills_7 (by decide) (fun n => absurd n c3) (fun _ => ?_)
    obtain ⟨x2, h4, hf⟩ := s_bind hf
    obtain ⟨x3, h5, hf⟩ := s_bind hf
    obtain ⟨x4, h6, hf⟩ := s_bind hf
    obtain ⟨σ5, h7, hf⟩ := s_bind hf
    cases hf
    have k : s_V G (d + 2) M_X8_fills vs0 σ0 Y_X8_fills (30, [.ref v0, .int v1, .int 0], σ5) (e_V r) := k
    have le8 : s_le σ5 (e_V r).2 := k.1
    refine lv_aload_n hx hb dX8_fills_10 rfl (lv_at hl 0 rfl) ?_
    refine r_gr X I fl_X8_20 h4 dX8_fills_11 ?_
    refine lv_iload_n hx hb dX8_fills_14 rfl (lv_at hl 1 rfl) ?_
    refine lv_aload_n hx hb dX8_fills_15 rfl (lv_at hl 0 rfl) ?_
    refine r_gr X I fl_X8_13 h5 dX8_fills_16 ?_
    refine lv_bipush (v := 62) hx hb dX8_fills_19 (by decide) ?_
    refine lv_bipush (v := 41) hx hb dX8_fills_21 (by decide) ?_
    refine lv_iload_n hx hb dX8_fills_23 rfl (lv_at hl 1 rfl) ?_
    refine lv_imul hx hb dX8_fills_24 ?_
    refine lv_iadd hx hb dX8_fills_25 ?_
    refine r_iald X I h6 dX8_fills_26 ?_
    refine r_iast X I h7 dX8_fills_27 (fun H locs I => ?_)
    have hn := s_k2 (s_si_2 h7) hn
    refine lv_iconst (v := 0) hx hb dX8_fills_28 (by decide) ?_
    refine lv_istore_n (lv' := [(2, .int 0), (0, .ref v0), (1, .int v1)]) hx hb dX8_fills_29 rfl hl (by decide) rfl (fun ls hl => ?_)
    exact k.2 p e s m below meth c _ _ _ _ _ X I hn.1 hn.2 (lv_sub hl [1, 2, 0] rfl)
set_option maxRecDepth 100000 in
set_option maxHeartbeats 4000000 in
theorem v_X8_fills_30 {G : sG} {d : Nat} {vs0 : List Value} {σ0 : sS} {v0 : Nat} {v1 : Int32} {v2 : Int32} {σ : sS} {z : sZ Unit} {r : Unit × sS} (hf : T_X8_fills_30 v0 v1 v2 σ = some z) (k : s_K G (d + 2) M_X8_fills vs0 σ0 Y_X8_fills e_V z r) : s_V G (d + 2) M_X8_fills vs0 σ0 Y_X8_fills (30, [.ref v0, .int v1, .int v2], σ) (e_V r) := by
  have le0 : s_le σ (e_V r).2 := s_lek hem_V (l_X8_fills_30 hf) k
  refine ⟨le0, ?_⟩
  intro p e s m below meth c H locs cells slots ls X I hn1 hn2 hl
  have hn : cells + σ0.2.1 ≤ σ.2.1 ∧ slots + σ0.2.2.1 ≤ σ.2.2.1 := ⟨hn1, hn2⟩
  have hl : lv_has ls 3 [(0, .ref v0), (1, .int v1), (2, .int v2)] := hl
  have hx := X.1
  have hb : c.code = cX8_fills := X.2.1
  have hown : s.vm.findClass RX8 = some m.cls := X.2.2.2.2.2.1
  have hts := X.2.2.2.2.2.2.1
  refine W.eq (g2 := F0 m 30 ls []) rfl ?_
  unfold T_X8_fills_30 at hf
  obtain ⟨x1, h1, hf⟩ := s_bind hf
  obtain ⟨x2, h2, hf⟩ := s_bind hf
  refine lv_iload_n hx hb dX8_fills_30 rfl (lv_at hl 2 rfl) ?_
  refine lv_aload_n hx hb dX8_fills_31 rfl (lv_at hl 0 rfl) ?_
  refine r_gr X I fl_X8_20 h1 dX8_fills_32 ?_
  refine lv_iload_n hx hb dX8_fills_35 rfl (lv_at hl 1 rfl) ?_
  refine r_iald X I h2 dX8_fills_36 ?_
  rcases s_ite hf with ⟨c3, hf⟩ | ⟨c3, hf⟩
  · refine lv_icmp_ge (tgt := 73) hx hb dX8_fills_37 (by decide) (fun _ => ?_) (fun n => absurd c3 n)
    cases hf
    have k : s_V G (d + 2) M_X8_fills vs0 σ0 Y_X8_fills (2, [.ref v0, .int (v1 + 1)], σ) (e_V r) := k
    refine lv_iinc (v := (v1 + 1)) (lv' := [(1, .int (v1 + 1)), (0, .ref v0), (2, .int v2)]) hx hb dX8_fills_73 hl (k := 1) rfl rfl (by decide) rfl (fun ls hl => ?_)
    refine lv_goto (tgt := 2) hx hb dX8_fills_76 (by decide) ?_
    exact k.2 p e s m below meth c _ _ _ _ _ X I hn.1 hn.2 (lv_sub hl [1, 0] rfl)
  · refine lv_icmp_ge (tgt := 73) hx hb dX8_fills_37 (by decide) (fun n => absurd n c3) (fun _ => ?_)
    obtain ⟨x3, h4, hf⟩ := s_bind hf
    obtain ⟨x4, h5, hf⟩ := s_bind hf
    obtain ⟨x5, h6, hf⟩ := s_bind hf
    obtain ⟨σ6, h7, hf⟩ := s_bind hf
    cases hf
    have k : s_V G (d + 2) M_X8_fills vs0 σ0 Y_X8_fills (30, [.ref v0, .int v1, .int (v2 + 1)], σ6) (e_V r) := k
    have le8 : s_le σ6 (e_V r).2 := k.1
    refine lv_aload_n hx hb dX8_fills_40 rfl (lv_at hl 0 rfl) ?_
    refine r_gr X I fl_X8_23 h4 dX8_fills_41 ?_
    refine lv_bipush (v := 40) hx hb dX8_fills_44 (by decide) ?_
    refine lv_iload_n hx hb dX8_fills_46 rfl (lv_at hl 1 rfl) ?_
    refine lv_imul hx hb dX8_fills_47 ?_
    refine lv_iload_n hx hb dX8_fills_48 rfl (lv_at hl 2 rfl) ?_
    refine lv_iadd hx hb dX8_fills_49 ?_
    refine lv_aload_n hx hb dX8_fills_50 rfl (lv_at hl 0 rfl) ?_
    refine r_gr X I fl_X8_13 h5 dX8_fills_51 ?_
    refine lv_bipush (v := 62) hx hb dX8_fills_54 (by decide) ?_
    refine lv_bipush (v := 41) hx hb dX8_fills_56 (by decide) ?_
    refine lv_iload_n hx hb dX8_fills_58 rfl (lv_at hl 1 rfl) ?_
    refine lv_imul hx hb dX8_fills_59 ?_
    refine lv_iadd hx hb dX8_fills_60 ?_
    refine lv_iconst (v := 1) hx hb dX8_fills_61 (by decide) ?_
    refine lv_iadd hx hb dX8_fills_62 ?_
    refine lv_iload_n hx hb dX8_fills_63 rfl (lv_at hl 2 rfl) ?_
    refine lv_iadd hx hb dX8_fills_64 ?_
    refine r_iald X I h6 dX8_fills_65 ?_
    refine r_iast X I h7 dX8_fills_66 (fun H locs I => ?_)
    have hn := s_k2 (s_si_2 h7) hn
    refine lv_iinc (v := (v2 + 1)) (lv' := [(2, .int (v2 + 1)), (0, .ref v0), (1, .int v1)]) hx hb dX8_fills_67 hl (k := 2) rfl rfl (by decide) rfl (fun ls hl => ?_)
    refine lv_goto (tgt := 30) hx hb dX8_fills_70 (by decide) ?_
    exact k.2 p e s m below meth c _ _ _ _ _ X I hn.1 hn.2 (lv_sub hl [1, 2, 0] rfl)
theorem v_X8_fills {G : sG} {d : Nat} {vs0 : List Value} {σ0 : sS} {x : sL} {z : sZ Unit} {r : Unit × sS} (hs : S_X8_fills x = some z) (k : s_K G (d + 2) M_X8_fills vs0 σ0 Y_X8_fills e_V z r) : s_V G (d + 2) M_X8_fills vs0 σ0 Y_X8_fills x (e_V r) := by
  obtain ⟨pc, vs, σ⟩ := x
  unfold S_X8_fills at hs
  dsimp only at hs
  rcases s_ite hs with ⟨c, hs⟩ | ⟨-, hs⟩
  · subst c
    unfold U_X8_fills_0 at hs
    obtain ⟨a0, g0, hs⟩ := s_bind hs
    obtain ⟨u9, ge, hs⟩ := s_bind hs
    rw [g_r_to g0, g_e_to ge]
    exact v_X8_fills_0 hs k
  rcases s_ite hs with ⟨c, hs⟩ | ⟨-, hs⟩
  · subst c
    unfold U_X8_fills_2 at hs
    obtain ⟨a0, g0, hs⟩ := s_bind hs
    obtain ⟨a1, g1, hs⟩ := s_bind hs
    obtain ⟨u9, ge, hs⟩ := s_bind hs
    rw [g_r_to g0, g_i_to g1, g_e_to ge]
    exact v_X8_fills_2 hs k
  rcases s_ite hs with ⟨c, hs⟩ | ⟨-, hs⟩
  · subst c
    unfold U_X8_fills_30 at hs
    obtain ⟨a0, g0, hs⟩ := s_bind hs
    obtain ⟨a1, g1, hs⟩ := s_bind hs
    obtain ⟨a2, g2, hs⟩ := s_bind hs
    obtain ⟨u9, ge, hs⟩ := s_bind hs
    rw [g_r_to g0, g_i_to g1, g_i_to g2, g_e_to ge]
    exact v_X8_fills_30 hs k
  cases hs
theorem t_X8_fills {G : sG} {d : Nat} {v0 : Nat} {σ : sS} {q : Unit × sS} (h : F_X8_fills v0 σ = some q) : s_T G (d + 2) M_X8_fills [.ref v0] σ (e_V q) := by
  unfold F_X8_fills at h
  obtain ⟨-, -, h⟩ := s_bind h
  exact s_ofV rfl (by decide) (Nat.le_of_ble_eq_true rfl) rfl rfl (s_run_ind (V := fun x r => s_V G (d + 2) M_X8_fills [.ref v0] σ Y_X8_fills x (e_V r)) (fun x z r hs hk => v_X8_fills hs (by cases z <;> exact hk)) h)
/-! X8_formula -/
noncomputable def T_X8_formula_0 (v0 : Nat) (σ : sS) : Option (sZ Int32) :=
  (s_pf σ v0 8 0 (.int 0)).bind fun σ1 =>
  (s_fi σ1 v0 8 7).bind fun x2 =>
  (s_pf σ1 v0 8 9 (.int x2)).bind fun σ3 =>
  (s_pf σ3 v0 8 7 (.int 0)).bind fun σ4 =>
  (s_pf σ4 v0 8 8 (.int 0)).bind fun σ5 =>
  (s_pf σ5 v0 8 11 (.int 0)).bind fun σ6 =>
  (s_pf σ6 v0 8 12 (.int 0)).bind fun σ7 =>
  (s_pf σ7 v0 8 14 (.int 0)).bind fun σ8 =>
  (s_fr σ8 v0 8 4).bind fun x9 =>
  (s_si σ8 x9 70 0).bind fun σ10 =>
  (F_X8_readFormula 64 v0 σ10).bind fun q11 =>
  if q11.1 = 0 then (some (.inl (76, [.ref v0, .int q11.1], q11.2)))
  else ((F_X8_blanks v0 q11.2).bind fun q12 =>
  (s_fi q12.2 v0 8 8).bind fun x13 =>
  (s_fi q12.2 v0 8 9).bind fun x14 =>
  if x13 = x14 then (some (.inl (75, [.ref v0, .int 1], q12.2)))
  else (some (.inl (75, [.ref v0, .int 0], q12.2))))
noncomputable def U_X8_formula_0 (vs : List Value) (σ : sS) : Option (sZ Int32) := (g_r vs).bind fun a0 => (g_e a0.2).bind fun _ => T_X8_formula_0 a0.1 σ
noncomputable def T_X8_formula_75 (v0 : Nat) (w0 : Int32) (σ : sS) : Option (sZ Int32) :=
  some (.inl (76, [.ref v0, .int w0], σ))
noncomputable def U_X8_formula_75 (vs : List Value) (σ : sS) : Option (sZ Int32) := (g_r vs).bind fun a0 => (g_i a0.2).bind fun a1 => (g_e a1.2).bind fun _ => T_X8_formula_75 a0.1 a1.1 σ
noncomputable def T_X8_formula_76 (v0 : Nat) (v1 : Int32) (σ : sS) : Option (sZ Int32) :=
  if v1 = 0 then ((s_fi σ v0 8 10).bind fun x1 =>
  some (.inl (89, [.ref v0, .int v1, .int x1, .ref v0], σ)))
  else (some (.inl (89, [.ref v0, .int v1, .int (-1), .ref v0], σ)))
noncomputable def U_X8_formula_76 (vs : List Value) (σ : sS) : Option (sZ Int32) := (g_r vs).bind fun a0 => (g_i a0.2).bind fun a1 => (g_e a1.2).bind fun _ => T_X8_formula_76 a0.1 a1.1 σ
noncomputable def T_X8_formula_89 (v0 : Nat) (v1 : Int32) (w0 : Int32) (w1 : Nat) (σ : sS) : Option (sZ Int32) :=
  (s_pf σ w1 8 13 (.int w0)).bind fun σ1 =>
  if v1 = 0 then (some (.inl (102, [.ref v0, .int 1, .ref v0], σ1)))
  else (some (.inl (102, [.ref v0, .int 0, .ref v0], σ1)))
noncomputable def U_X8_formula_89 (vs : List Value) (σ : sS) : Option (sZ Int32) := (g_r vs).bind fun a0 => (g_i a0.2).bind fun a1 => (g_i a1.2).bind fun a2 => (g_r a2.2).bind fun a3 => (g_e a3.2).bind fun _ => T_X8_formula_89 a0.1 a1.1 a2.1 a3.1 σ
noncomputable def T_X8_formula_102 (v0 : Nat) (w0 : Int32) (w1 : Nat) (σ : sS) : Option (sZ Int32) :=
  (F_X8_throwsIf w1 w0 1 σ).bind fun q1 =>
  if q1.1 = 0 then ((F_X8_formulas v0 q1.2).bind fun q2 =>
  if q2.1 = 30 then (some (.inl (124, [.ref v0, .int 1, .ref v0], q2.2)))
  else (some (.inl (124, [.ref v0, .int 0, .ref v0], q2.2))))
  else (some (.inr (0, q1.2)))
noncomputable def U_X8_formula_102 (vs : List Value) (σ : sS) : Option (sZ Int32) := (g_r vs).bind fun a0 => (g_i a0.2).bind fun a1 => (g_r a1.2).bind fun a2 => (g_e a2.2).bind fun _ => T_X8_formula_102 a0.1 a1.1 a2.1 σ
noncomputable def T_X8_formula_124 (v0 : Nat) (w0 : Int32) (w1 : Nat) (σ : sS) : Option (sZ Int32) :=
  (F_X8_throwsIf w1 w0 2 σ).bind fun q1 =>
  if q1.1 = 0 then ((F_X8_formulas v0 q1.2).bind fun q2 =>
  (s_fr q2.2 v0 8 1).bind fun x3 =>
  (s_fr q2.2 v0 8 4).bind fun x4 =>
  (s_ai q2.2 x4 70).bind fun x5 =>
  (s_si q2.2 x3 (62 + (41 * q2.1)) x5).bind fun σ6 =>
  some (.inl (159, [.ref v0, .int q2.1, .int 0], σ6)))
  else (some (.inr (0, q1.2)))
noncomputable def U_X8_formula_124 (vs : List Value) (σ : sS) : Option (sZ Int32) := (g_r vs).bind fun a0 => (g_i a0.2).bind fun a1 => (g_r a1.2).bind fun a2 => (g_e a2.2).bind fun _ => T_X8_formula_124 a0.1 a1.1 a2.1 σ
noncomputable def T_X8_formula_159 (v0 : Nat) (v2 : Int32) (v3 : Int32) (σ : sS) : Option (sZ Int32) :=
  (s_fr σ v0 8 4).bind fun x1 =>
  (s_ai σ x1 70).bind fun x2 =>
  if x2 ≤ v3 then ((s_fr σ v0 8 1).bind fun x3 =>
  (s_ai σ x3 1).bind fun x4 =>
  (s_si σ x3 1 (x4 + 1)).bind fun σ5 =>
  (F_X8_fills v0 σ5).bind fun q6 =>
  some (.inr (v2, q6.2)))
  else ((s_fr σ v0 8 1).bind fun x7 =>
  (F_X8_at v0 70 v3 σ).bind fun q8 =>
  (s_si q8.2 x7 (((62 + (41 * v2)) + 1) + v3) q8.1).bind fun σ9 =>
  some (.inl (159, [.ref v0, .int v2, .int (v3 + 1)], σ9)))
noncomputable def U_X8_formula_159 (vs : List Value) (σ : sS) : Option (sZ Int32) := (g_r vs).bind fun a0 => (g_i a0.2).bind fun a1 => (g_i a1.2).bind fun a2 => (g_e a2.2).bind fun _ => T_X8_formula_159 a0.1 a1.1 a2.1 σ
noncomputable def S_X8_formula (x : sL) : Option (sZ Int32) := if x.1 = 0 then U_X8_formula_0 x.2.1 x.2.2 else if x.1 = 75 then U_X8_formula_75 x.2.1 x.2.2 else if x.1 = 76 then U_X8_formula_76 x.2.1 x.2.2 else if x.1 = 89 then U_X8_formula_89 x.2.1 x.2.2 else if x.1 = 102 then U_X8_formula_102 x.2.1 x.2.2 else if x.1 = 124 then U_X8_formula_124 x.2.1 x.2.2 else if x.1 = 159 then U_X8_formula_159 x.2.1 x.2.2 else none
def Y_X8_formula (pc : Nat) : List Nat := if pc = 0 then [0] else if pc = 75 then [0] else if pc = 76 then [0, 1] else if pc = 89 then [0, 1] else if pc = 102 then [0] else if pc = 124 then [0] else if pc = 159 then [0, 2, 3] else []
noncomputable def F_X8_formula (v0 : Nat) (σ : sS) : Option (Int32 × sS) := (s_is σ v0 8).bind fun _ => s_run S_X8_formula (0, [.ref v0], σ)
theorem l_X8_formula_0 {v0 : Nat} {σ : sS} {z : sZ Int32} (hf : T_X8_formula_0 v0 σ = some z) : s_lz σ z := by
  unfold T_X8_formula_0 at hf
  obtain ⟨σ1, hh, hf⟩ := s_bind hf
  refine s_lz.tr (s_le2 (s_pf_2 hh)) ?_
  obtain ⟨x2, -, hf⟩ := s_bind hf
  obtain ⟨σ3, hh, hf⟩ := s_bind hf
  refine s_lz.tr (s_le2 (s_pf_2 hh)) ?_
  obtain ⟨σ4, hh, hf⟩ := s_bind hf
  refine s_lz.tr (s_le2 (s_pf_2 hh)) ?_
  obtain ⟨σ5, hh, hf⟩ := s_bind hf
  refine s_lz.tr (s_le2 (s_pf_2 hh)) ?_
  obtain ⟨σ6, hh, hf⟩ := s_bind hf
  refine s_lz.tr (s_le2 (s_pf_2 hh)) ?_
  obtain ⟨σ7, hh, hf⟩ := s_bind hf
  refine s_lz.tr (s_le2 (s_pf_2 hh)) ?_
  obtain ⟨σ8, hh, hf⟩ := s_bind hf
  refine s_lz.tr (s_le2 (s_pf_2 hh)) ?_
  obtain ⟨x9, -, hf⟩ := s_bind hf
  obtain ⟨σ10, hh, hf⟩ := s_bind hf
  refine s_lz.tr (s_le2 (s_si_2 hh)) ?_
  obtain ⟨q11, hh, hf⟩ := s_bind hf
  refine s_lz.tr (l_X8_readFormula hh) ?_
  rcases s_ite hf with ⟨-, hf⟩ | ⟨-, hf⟩
  · cases hf
    exact s_le.rf
  · obtain ⟨q12, hh, hf⟩ := s_bind hf
    refine s_lz.tr (l_X8_blanks hh) ?_
    obtain ⟨x13, -, hf⟩ := s_bind hf
    obtain ⟨x14, -, hf⟩ := s_bind hf
    rcases s_ite hf with ⟨-, hf⟩ | ⟨-, hf⟩
    · cases hf
      exact s_le.rf
    · cases hf
      exact s_le.rf
theorem l_X8_formula_75 {v0 : Nat} {w0 : Int32} {σ : sS} {z : sZ Int32} (hf : T_X8_formula_75 v0 w0 σ = some z) : s_lz σ z := by
  unfold T_X8_formula_75 at hf
  cases hf
  exact s_le.rf
theorem l_X8_formula_76 {v0 : Nat} {v1 : Int32} {σ : sS} {z : sZ Int32} (hf : T_X8_formula_76 v0 v1 σ = some z) : s_lz σ z := by
  unfold T_X8_formula_76 at hf
  rcases s_ite hf with ⟨-, hf⟩ | ⟨-, hf⟩
  · obtain ⟨x1, -, hf⟩ := s_bind hf
    cases hf
    exact s_le.rf
  · cases hf
    exact s_le.rf
theorem l_X8_formula_89 {v0 : Nat} {v1 : Int32} {w0 : Int32} {w1 : Nat} {σ : sS} {z : sZ Int32} (hf : T_X8_formula_89 v0 v1 w0 w1 σ = some z) : s_lz σ z := by
  unfold T_X8_formula_89 at hf
  obtain ⟨σ1, hh, hf⟩ := s_bind hf
  refine s_lz.tr (s_le2 (s_pf_2 hh)) ?_
  rcases s_ite hf with ⟨-, hf⟩ | ⟨-, hf⟩
  · cases hf
    exact s_le.rf
  · cases hf
    exact s_le.rf
theorem l_X8_formula_102 {v0 : Nat} {w0 : Int32} {w1 : Nat} {σ : sS} {z : sZ Int32} (hf : T_X8_formula_102 v0 w0 w1 σ = some z) : s_lz σ z := by
  unfold T_X8_formula_102 at hf
  obtain ⟨q1, hh, hf⟩ := s_bind hf
  refine s_lz.tr (l_X8_throwsIf hh) ?_
  rcases s_ite hf with ⟨-, hf⟩ | ⟨-, hf⟩
  · obtain ⟨q2, hh, hf⟩ := s_bind hf
    refine s_lz.tr (l_X8_formulas hh) ?_
    rcases s_ite hf with ⟨-, hf⟩ | ⟨-, hf⟩
    · cases hf
      exact s_le.rf
    · cases hf
      exact s_le.rf
  · cases hf
    exact s_le.rf
theorem l_X8_formula_124 {v0 : Nat} {w0 : Int32} {w1 : Nat} {σ : sS} {z : sZ Int32} (hf : T_X8_formula_124 v0 w0 w1 σ = some z) : s_lz σ z := by
  unfold T_X8_formula_124 at hf
  obtain ⟨q1, hh, hf⟩ := s_bind hf
  refine s_lz.tr (l_X8_throwsIf hh) ?_
  rcases s_ite hf with ⟨-, hf⟩ | ⟨-, hf⟩
  · obtain ⟨q2, hh, hf⟩ := s_bind hf
    refine s_lz.tr (l_X8_formulas hh) ?_
    obtain ⟨x3, -, hf⟩ := s_bind hf
    obtain ⟨x4, -, hf⟩ := s_bind hf
    obtain ⟨x5, -, hf⟩ := s_bind hf
    obtain ⟨σ6, hh, hf⟩ := s_bind hf
    refine s_lz.tr (s_le2 (s_si_2 hh)) ?_
    cases hf
    exact s_le.rf
  · cases hf
    exact s_le.rf
theorem l_X8_formula_159 {v0 : Nat} {v2 : Int32} {v3 : Int32} {σ : sS} {z : sZ Int32} (hf : T_X8_formula_159 v0 v2 v3 σ = some z) : s_lz σ z := by
  unfold T_X8_formula_159 at hf
  obtain ⟨x1, -, hf⟩ := s_bind hf
  obtain ⟨x2, -, hf⟩ := s_bind hf
  rcases s_ite hf with ⟨-, hf⟩ | ⟨-, hf⟩
  · obtain ⟨x3, -, hf⟩ := s_bind hf
    obtain ⟨x4, -, hf⟩ := s_bind hf
    obtain ⟨σ5, hh, hf⟩ := s_bind hf
    refine s_lz.tr (s_le2 (s_si_2 hh)) ?_
    obtain ⟨q6, hh, hf⟩ := s_bind hf
    refine s_lz.tr (l_X8_fills hh) ?_
    cases hf
    exact s_le.rf
  · obtain ⟨x7, -, hf⟩ := s_bind hf
    obtain ⟨q8, hh, hf⟩ := s_bind hf
    refine s_lz.tr (l_X8_at hh) ?_
    obtain ⟨σ9, hh, hf⟩ := s_bind hf
    refine s_lz.tr (s_le2 (s_si_2 hh)) ?_
    cases hf
    exact s_le.rf
theorem l_X8_formula_s {x : sL} {z : sZ Int32} (hs : S_X8_formula x = some z) : s_lz x.2.2 z := by
  obtain ⟨pc, vs, σ⟩ := x
  unfold S_X8_formula at hs
  dsimp only at hs ⊢
  rcases s_ite hs with ⟨c, hs⟩ | ⟨-, hs⟩
  · subst c
    unfold U_X8_formula_0 at hs
    obtain ⟨a0, g0, hs⟩ := s_bind hs
    obtain ⟨u9, ge, hs⟩ := s_bind hs
    exact l_X8_formula_0 hs
  rcases s_ite hs with ⟨c, hs⟩ | ⟨-, hs⟩
  · subst c
    unfold U_X8_formula_75 at hs
    obtain ⟨a0, g0, hs⟩ := s_bind hs
    obtain ⟨a1, g1, hs⟩ := s_bind hs
    obtain ⟨u9, ge, hs⟩ := s_bind hs
    exact l_X8_formula_75 hs
  rcases s_ite hs with ⟨c, hs⟩ | ⟨-, hs⟩
  · subst c
    unfold U_X8_formula_76 at hs
    obtain ⟨a0, g0, hs⟩ := s_bind hs
    obtain ⟨a1, g1, hs⟩ := s_bind hs
    obtain ⟨u9, ge, hs⟩ := s_bind hs
    exact l_X8_formula_76 hs
  rcases s_ite hs with ⟨c, hs⟩ | ⟨-, hs⟩
  · subst c
    unfold U_X8_formula_89 at hs
    obtain ⟨a0, g0, hs⟩ := s_bind hs
    obtain ⟨a1, g1, hs⟩ := s_bind hs
    obtain ⟨a2, g2, hs⟩ := s_bind hs
    obtain ⟨a3, g3, hs⟩ := s_bind hs
    obtain ⟨u9, ge, hs⟩ := s_bind hs
    exact l_X8_formula_89 hs
  rcases s_ite hs with ⟨c, hs⟩ | ⟨-, hs⟩
  · subst c
    unfold U_X8_formula_102 at hs
    obtain ⟨a0, g0, hs⟩ := s_bind hs
    obtain ⟨a1, g1, hs⟩ := s_bind hs
    obtain ⟨a2, g2, hs⟩ := s_bind hs
    obtain ⟨u9, ge, hs⟩ := s_bind hs
    exact l_X8_formula_102 hs
  rcases s_ite hs with ⟨c, hs⟩ | ⟨-, hs⟩
  · subst c
    unfold U_X8_formula_124 at hs
    obtain ⟨a0, g0, hs⟩ := s_bind hs
    obtain ⟨a1, g1, hs⟩ := s_bind hs
    obtain ⟨a2, g2, hs⟩ := s_bind hs
    obtain ⟨u9, ge, hs⟩ := s_bind hs
    exact l_X8_formula_124 hs
  rcases s_ite hs with ⟨c, hs⟩ | ⟨-, hs⟩
  · subst c
    unfold U_X8_formula_159 at hs
    obtain ⟨a0, g0, hs⟩ := s_bind hs
    obtain ⟨a1, g1, hs⟩ := s_bind hs
    obtain ⟨a2, g2, hs⟩ := s_bind hs
    obtain ⟨u9, ge, hs⟩ := s_bind hs
    exact l_X8_formula_159 hs
  cases hs
theorem l_X8_formula {v0 : Nat} {σ : sS} {q : Int32 × sS} (h : F_X8_formula v0 σ = some q) : s_le σ q.2 := by
  unfold F_X8_formula at h
  obtain ⟨-, -, h⟩ := s_bind h
  exact s_run_ind (V := fun x r => s_le x.2.2 r.2) (fun x z r hs hk => by
    have h9 := l_X8_formula_s hs
    cases z with
    | inl y => exact s_le.tr h9 hk
    | inr q => cases hk; exact h9) h
theorem b_X8_formula {v0 : Nat} {σ : sS} {q : Int32 × sS} (h : F_X8_formula v0 σ = some q) : ∃ fs, σ.1 v0 = some (.inr (8, fs)) := by
  unfold F_X8_formula at h
  obtain ⟨u, hu, -⟩ := s_bind h
  exact s_is_to hu
set_option maxRecDepth 100000 in
set_option maxHeartbeats 4000000 in
theorem v_X8_formula_0 {G : sG} {d : Nat} {vs0 : List Value} {σ0 : sS} {v0 : Nat} {σ : sS} {z : sZ Int32} {r : Int32 × sS} (hf : T_X8_formula_0 v0 σ = some z) (k : s_K G (d + 72) M_X8_formula vs0 σ0 Y_X8_formula e_I z r) : s_V G (d + 72) M_X8_formula vs0 σ0 Y_X8_formula (0, [.ref v0], σ) (e_I r) := by
  have le0 : s_le σ (e_I r).2 := s_lek hem_I (l_X8_formula_0 hf) k
  refine ⟨le0, ?_⟩
  intro p e s m below meth c H locs cells slots ls X I hn1 hn2 hl
  have hn : cells + σ0.2.1 ≤ σ.2.1 ∧ slots + σ0.2.2.1 ≤ σ.2.2.1 := ⟨hn1, hn2⟩
  have hl : lv_has ls 4 [(0, .ref v0)] := hl
  have hx := X.1
  have hb : c.code = cX8_formula := X.2.1
  have hown : s.vm.findClass RX8 = some m.cls := X.2.2.2.2.2.1
  have hts := X.2.2.2.2.2.2.1
  refine W.eq (g2 := F0 m 0 ls []) rfl ?_
  unfold T_X8_formula_0 at hf
  obtain ⟨σ1, h1, hf⟩ := s_bind hf
  obtain ⟨x2, h2, hf⟩ := s_bind hf
  obtain ⟨σ3, h3, hf⟩ := s_bind hf
  obtain ⟨σ4, h4, hf⟩ := s_bind hf
  obtain ⟨σ5, h5, hf⟩ := s_bind hf
  obtain ⟨σ6, h6, hf⟩ := s_bind hf
  obtain ⟨σ7, h7, hf⟩ := s_bind hf
  obtain ⟨σ8, h8, hf⟩ := s_bind hf
  obtain ⟨x9, h9, hf⟩ := s_bind hf
  obtain ⟨σ10, h10, hf⟩ := s_bind hf
  obtain ⟨q11, h11, hf⟩ := s_bind hf
  have le12 : s_le q11.2 (e_I r).2 := by
    refine s_lek hem_I ?_ k
    rcases s_ite hf with ⟨-, hf⟩ | ⟨-, hf⟩
    · cases hf
      exact s_le.rf
    · obtain ⟨q12, hh, hf⟩ := s_bind hf
      refine s_lz.tr (l_X8_blanks hh) ?_
      obtain ⟨x13, -, hf⟩ := s_bind hf
      obtain ⟨x14, -, hf⟩ := s_bind hf
      rcases s_ite hf with ⟨-, hf⟩ | ⟨-, hf⟩
      · cases hf
        exact s_le.rf
      · cases hf
        exact s_le.rf
  have le13 := s_le.tr (l_X8_readFormula h11) le12
  have le14 := s_le.tr (s_le2 (s_si_2 h10)) le13
  have le15 := s_le.tr (s_le2 (s_pf_2 h8)) le14
  have le16 := s_le.tr (s_le2 (s_pf_2 h7)) le15
  have le17 := s_le.tr (s_le2 (s_pf_2 h6)) le16
  have le18 := s_le.tr (s_le2 (s_pf_2 h5)) le17
  have le19 := s_le.tr (s_le2 (s_pf_2 h4)) le18
  have le20 := s_le.tr (s_le2 (s_pf_2 h3)) le19
  refine lv_aload_n hx hb dX8_formula_0 rfl (lv_at hl 0 rfl) ?_
  refine lv_iconst (v := 0) hx hb dX8_formula_1 (by decide) ?_
  refine r_put X I fp_X8_3 (fun h => by cases h) h1 rfl rfl dX8_formula_2 (fun H locs I => ?_)
  have hn := s_k2 (s_pf_2 h1) hn
  refine lv_aload_n hx hb dX8_formula_5 rfl (lv_at hl 0 rfl) ?_
  refine lv_aload_n hx hb dX8_formula_6 rfl (lv_at hl 0 rfl) ?_
  refine r_gi X I fl_X8_145 h2 dX8_formula_7 ?_
  refine r_put X I fp_X8_151 (fun h => by cases h) h3 rfl rfl dX8_formula_10 (fun H locs I => ?_)
  have hn := s_k2 (s_pf_2 h3) hn
  refine lv_aload_n hx hb dX8_formula_13 rfl (lv_at hl 0 rfl) ?_
  refine lv_iconst (v := 0) hx hb dX8_formula_14 (by decide) ?_
  refine r_put X I fp_X8_145 (fun h => by cases h) h4 rfl rfl dX8_formula_15 (fun H locs I => ?_)
  have hn := s_k2 (s_pf_2 h4) hn
  refine lv_aload_n hx hb dX8_formula_18 rfl (lv_at hl 0 rfl) ?_
  refine lv_iconst (v := 0) hx hb dX8_formula_19 (by decide) ?_
  refine r_put X I fp_X8_148 (fun h => by cases h) h5 rfl rfl dX8_formula_20 (fun H locs I => ?_)
  have hn := s_k2 (s_pf_2 h5) hn
  refine lv_aload_n hx hb dX8_formula_23 rfl (lv_at hl 0 rfl) ?_
  refine lv_iconst (v := 0) hx hb dX8_formula_24 (by decide) ?_
  refine r_put X I fp_X8_179 (fun h => by cases h) h6 rfl rfl dX8_formula_25 (fun H locs I => ?_)
  have hn := s_k2 (s_pf_2 h6) hn
  refine lv_aload_n hx hb dX8_formula_28 rfl (lv_at hl 0 rfl) ?_
  refine lv_iconst (v := 0) hx hb dX8_formula_29 (by decide) ?_
  refine r_put X I fp_X8_172 (fun h => by cases h) h7 rfl rfl dX8_formula_30 (fun H locs I => ?_)
  have hn := s_k2 (s_pf_2 h7) hn
  refine lv_aload_n hx hb dX8_formula_33 rfl (lv_at hl 0 rfl) ?_
  refine lv_iconst (v := 0) hx hb dX8_formula_34 (by decide) ?_
  refine r_put X I fp_X8_185 (fun h => by cases h) h8 rfl rfl dX8_formula_35 (fun H locs I => ?_)
  have hn := s_k2 (s_pf_2 h8) hn
  refine lv_aload_n hx hb dX8_formula_38 rfl (lv_at hl 0 rfl) ?_
  refine r_gr X I fl_X8_20 h9 dX8_formula_39 ?_
  refine lv_bipush (v := 70) hx hb dX8_formula_42 (by decide) ?_
  refine lv_iconst (v := 0) hx hb dX8_formula_44 (by decide) ?_
  refine r_iast X I h10 dX8_formula_45 (fun H locs I => ?_)
  have hn := s_k2 (s_si_2 h10) hn
  refine lv_aload_n hx hb dX8_formula_46 rfl (lv_at hl 0 rfl) ?_
  refine r_callV (Y := M_X8_readFormula) (v := some (.int q11.1)) X I w_1833 my_X8_readFormula (by omega) (t_X8_readFormula (G := G) (d := d + 0) h11) (b_X8_readFormula h11) rfl rfl hl.1 rfl (Nat.le_of_ble_eq_true rfl) hn le12 dX8_formula_47 (fun H locs cells slots I hn1 hn2 => ?_)
  have I : s_I G q11.2 s H locs := I
  have hn : cells + σ0.2.1 ≤ q11.2.2.1 ∧ slots + σ0.2.2.1 ≤ q11.2.2.2.1 := ⟨hn1, hn2⟩
  refine lv_istore_n (lv' := [(1, .int q11.1), (0, .ref v0)]) hx hb dX8_formula_50 rfl hl (by decide) rfl (fun ls hl => ?_)
  refine lv_iload_n hx hb dX8_formula_51 rfl (lv_at hl 0 rfl) ?_
  rcases s_ite hf with ⟨c21, hf⟩ | ⟨c21, hf⟩
  · refine lv_if_eq (tgt := 76) hx hb dX8_formula_52 (by decide) (fun _ => ?_) (fun n => absurd c21 n)
    cases hf
    have k : s_V G (d + 72) M_X8_formula vs0 σ0 Y_X8_formula (76, [.ref v0, .int q11.1], q11.2) (e_I r) := k
    exact k.2 p e s m below meth c _ _ _ _ _ X I hn.1 hn.2 (lv_sub hl [1, 0] rfl)
  · refine lv_if_eq (tgt := 76) hx hb dX8_formula_52 (by decide) (fun n => absurd n c21) (fun _ => ?_)
    obtain ⟨q12, h22, hf⟩ := s_bind hf
    obtain ⟨x13, h23, hf⟩ := s_bind hf
    obtain ⟨x14, h24, hf⟩ := s_bind hf
    have le25 : s_le q12.2 (e_I r).2 := by
      refine s_lek hem_I ?_ k
      rcases s_ite hf with ⟨-, hf⟩ | ⟨-, hf⟩
      · cases hf
        exact s_le.rf
      · cases hf
        exact s_le.rf
    refine lv_aload_n hx hb dX8_formula_55 rfl (lv_at hl 1 rfl) ?_
    refine r_callV (Y := M_X8_blanks) (v := none) X I w_1853 my_X8_blanks (by omega) (t_X8_blanks (G := G) (d := d + 69) h22) (b_X8_blanks h22) rfl rfl hl.1 rfl (Nat.le_of_ble_eq_true rfl) hn le25 dX8_formula_56 (fun H locs cells slots I hn1 hn2 => ?_)
    have I : s_I G q12.2 s H locs := I
    have hn : cells + σ0.2.1 ≤ q12.2.2.1 ∧ slots + σ0.2.2.1 ≤ q12.2.2.2.1 := ⟨hn1, hn2⟩
    refine lv_aload_n hx hb dX8_formula_59 rfl (lv_at hl 1 rfl) ?_
    refine r_gi X I fl_X8_148 h23 dX8_formula_60 ?_
    refine lv_aload_n hx hb dX8_formula_63 rfl (lv_at hl 1 rfl) ?_
    refine r_gi X I fl_X8_151 h24 dX8_formula_64 ?_
    rcases s_ite hf with ⟨c26, hf⟩ | ⟨c26, hf⟩
    · refine lv_icmp_ne (tgt := 74) hx hb dX8_formula_67 (by decide) (fun n => absurd c26 n) (fun _ => ?_)
      cases hf
      have k : s_V G (d + 72) M_X8_formula vs0 σ0 Y_X8_formula (75, [.ref v0, .int 1], q12.2) (e_I r) := k
      refine lv_iconst (v := 1) hx hb dX8_formula_70 (by decide) ?_
      refine lv_goto (tgt := 75) hx hb dX8_formula_71 (by decide) ?_
      exact k.2 p e s m below meth c _ _ _ _ _ X I hn.1 hn.2 (lv_sub hl [1] rfl)
    · refine lv_icmp_ne (tgt := 74) hx hb dX8_formula_67 (by decide) (fun _ => ?_) (fun n => absurd n c26)
      cases hf
      have k : s_V G (d + 72) M_X8_formula vs0 σ0 Y_X8_formula (75, [.ref v0, .int 0], q12.2) (e_I r) := k
      refine lv_iconst (v := 0) hx hb dX8_formula_74 (by decide) ?_
      exact k.2 p e s m below meth c _ _ _ _ _ X I hn.1 hn.2 (lv_sub hl [1] rfl)
set_option maxRecDepth 100000 in
set_option maxHeartbeats 4000000 in
theorem v_X8_formula_75 {G : sG} {d : Nat} {vs0 : List Value} {σ0 : sS} {v0 : Nat} {w0 : Int32} {σ : sS} {z : sZ Int32} {r : Int32 × sS} (hf : T_X8_formula_75 v0 w0 σ = some z) (k : s_K G (d + 72) M_X8_formula vs0 σ0 Y_X8_formula e_I z r) : s_V G (d + 72) M_X8_formula vs0 σ0 Y_X8_formula (75, [.ref v0, .int w0], σ) (e_I r) := by
  have le0 : s_le σ (e_I r).2 := s_lek hem_I (l_X8_formula_75 hf) k
  refine ⟨le0, ?_⟩
  intro p e s m below meth c H locs cells slots ls X I hn1 hn2 hl
  have hn : cells + σ0.2.1 ≤ σ.2.1 ∧ slots + σ0.2.2.1 ≤ σ.2.2.1 := ⟨hn1, hn2⟩
  have hl : lv_has ls 4 [(0, .ref v0)] := hl
  have hx := X.1
  have hb : c.code = cX8_formula := X.2.1
  have hown : s.vm.findClass RX8 = some m.cls := X.2.2.2.2.2.1
  have hts := X.2.2.2.2.2.2.1
  refine W.eq (g2 := F0 m 75 ls [.int w0]) rfl ?_
  unfold T_X8_formula_75 at hf
  cases hf
  have k : s_V G (d + 72) M_X8_formula vs0 σ0 Y_X8_formula (76, [.ref v0, .int w0], σ) (e_I r) := k
  refine lv_istore_n (lv' := [(1, .int w0), (0, .ref v0)]) hx hb dX8_formula_75 rfl hl (by decide) rfl (fun ls hl => ?_)
  exact k.2 p e s m below meth c _ _ _ _ _ X I hn.1 hn.2 (lv_sub hl [1, 0] rfl)
set_option maxRecDepth 100000 in
set_option maxHeartbeats 4000000 in
theorem v_X8_formula_76 {G : sG} {d : Nat} {vs0 : List Value} {σ0 : sS} {v0 : Nat} {v1 : Int32} {σ : sS} {z : sZ Int32} {r : Int32 × sS} (hf : T_X8_formula_76 v0 v1 σ = some z) (k : s_K G (d + 72) M_X8_formula vs0 σ0 Y_X8_formula e_I z r) : s_V G (d + 72) M_X8_formula vs0 σ0 Y_X8_formula (76, [.ref v0, .int v1], σ) (e_I r) := by
  have le0 : s_le σ (e_I r).2 := s_lek hem_I (l_X8_formula_76 hf) k
  refine ⟨le0, ?_⟩
  intro p e s m below meth c H locs cells slots ls X I hn1 hn2 hl
  have hn : cells + σ0.2.1 ≤ σ.2.1 ∧ slots + σ0.2.2.1 ≤ σ.2.2.1 := ⟨hn1, hn2⟩
  have hl : lv_has ls 4 [(0, .ref v0), (1, .int v1)] := hl
  have hx := X.1
  have hb : c.code = cX8_formula := X.2.1
  have hown : s.vm.findClass RX8 = some m.cls := X.2.2.2.2.2.1
  have hts := X.2.2.2.2.2.2.1
  refine W.eq (g2 := F0 m 76 ls []) rfl ?_
  unfold T_X8_formula_76 at hf
  refine lv_aload_n hx hb dX8_formula_76 rfl (lv_at hl 0 rfl) ?_
  refine lv_iload_n hx hb dX8_formula_77 rfl (lv_at hl 1 rfl) ?_
  rcases s_ite hf with ⟨c1, hf⟩ | ⟨c1, hf⟩
  · refine lv_if_eq (tgt := 85) hx hb dX8_formula_78 (by decide) (fun _ => ?_) (fun n => absurd c1 n)
    obtain ⟨x1, h2, hf⟩ := s_bind hf
    cases hf
    have k : s_V G (d + 72) M_X8_formula vs0 σ0 Y_X8_formula (89, [.ref v0, .int v1, .int x1, .ref v0], σ) (e_I r) := k
    refine lv_aload_n hx hb dX8_formula_85 rfl (lv_at hl 0 rfl) ?_
    refine r_gi X I fl_X8_158 h2 dX8_formula_86 ?_
    exact k.2 p e s m below meth c _ _ _ _ _ X I hn.1 hn.2 (lv_sub hl [0, 1] rfl)
  · refine lv_if_eq (tgt := 85) hx hb dX8_formula_78 (by decide) (fun n => absurd n c1) (fun _ => ?_)
    cases hf
    have k : s_V G (d + 72) M_X8_formula vs0 σ0 Y_X8_formula (89, [.ref v0, .int v1, .int (-1), .ref v0], σ) (e_I r) := k
    refine lv_iconst (v := (-1)) hx hb dX8_formula_81 (by decide) ?_
    refine lv_goto (tgt := 89) hx hb dX8_formula_82 (by decide) ?_
    exact k.2 p e s m below meth c _ _ _ _ _ X I hn.1 hn.2 (lv_sub hl [0, 1] rfl)
set_option maxRecDepth 100000 in
set_option maxHeartbeats 4000000 in
theorem v_X8_formula_89 {G : sG} {d : Nat} {vs0 : List Value} {σ0 : sS} {v0 : Nat} {v1 : Int32} {w0 : Int32} {w1 : Nat} {σ : sS} {z : sZ Int32} {r : Int32 × sS} (hf : T_X8_formula_89 v0 v1 w0 w1 σ = some z) (k : s_K G (d + 72) M_X8_formula vs0 σ0 Y_X8_formula e_I z r) : s_V G (d + 72) M_X8_formula vs0 σ0 Y_X8_formula (89, [.ref v0, .int v1, .int w0, .ref w1], σ) (e_I r) := by
  have le0 : s_le σ (e_I r).2 := s_lek hem_I (l_X8_formula_89 hf) k
  refine ⟨le0, ?_⟩
  intro p e s m below meth c H locs cells slots ls X I hn1 hn2 hl
  have hn : cells + σ0.2.1 ≤ σ.2.1 ∧ slots + σ0.2.2.1 ≤ σ.2.2.1 := ⟨hn1, hn2⟩
  have hl : lv_has ls 4 [(0, .ref v0), (1, .int v1)] := hl
  have hx := X.1
  have hb : c.code = cX8_formula := X.2.1
  have hown : s.vm.findClass RX8 = some m.cls := X.2.2.2.2.2.1
  have hts := X.2.2.2.2.2.2.1
  refine W.eq (g2 := F0 m 89 ls [.int w0, .ref w1]) rfl ?_
  unfold T_X8_formula_89 at hf
  obtain ⟨σ1, h1, hf⟩ := s_bind hf
  have le2 : s_le σ1 (e_I r).2 := by
    refine s_lek hem_I ?_ k
    rcases s_ite hf with ⟨-, hf⟩ | ⟨-, hf⟩
    · cases hf
      exact s_le.rf
    · cases hf
      exact s_le.rf
  refine r_put X I fp_X8_30 (fun h => by cases h) h1 rfl rfl dX8_formula_89 (fun H locs I => ?_)
  have hn := s_k2 (s_pf_2 h1) hn
  refine lv_aload_n hx hb dX8_formula_92 rfl (lv_at hl 0 rfl) ?_
  refine lv_iload_n hx hb dX8_formula_93 rfl (lv_at hl 1 rfl) ?_
  rcases s_ite hf with ⟨c3, hf⟩ | ⟨c3, hf⟩
  · refine lv_if_ne (tgt := 101) hx hb dX8_formula_94 (by decide) (fun n => absurd c3 n) (fun _ => ?_)
    cases hf
    have k : s_V G (d + 72) M_X8_formula vs0 σ0 Y_X8_formula (102, [.ref v0, .int 1, .ref v0], σ1) (e_I r) := k
    refine lv_iconst (v := 1) hx hb dX8_formula_97 (by decide) ?_
    refine lv_goto (tgt := 102) hx hb dX8_formula_98 (by decide) ?_
    exact k.2 p e s m below meth c _ _ _ _ _ X I hn.1 hn.2 (lv_sub hl [0] rfl)
  · refine lv_if_ne (tgt := 101) hx hb dX8_formula_94 (by decide) (fun _ => ?_) (fun n => absurd n c3)
    cases hf
    have k : s_V G (d + 72) M_X8_formula vs0 σ0 Y_X8_formula (102, [.ref v0, .int 0, .ref v0], σ1) (e_I r) := k
    refine lv_iconst (v := 0) hx hb dX8_formula_101 (by decide) ?_
    exact k.2 p e s m below meth c _ _ _ _ _ X I hn.1 hn.2 (lv_sub hl [0] rfl)
set_option maxRecDepth 100000 in
set_option maxHeartbeats 4000000 in
theorem v_X8_formula_102 {G : sG} {d : Nat} {vs0 : List Value} {σ0 : sS} {v0 : Nat} {w0 : Int32} {w1 : Nat} {σ : sS} {z : sZ Int32} {r : Int32 × sS} (hf : T_X8_formula_102 v0 w0 w1 σ = some z) (k : s_K G (d + 72) M_X8_formula vs0 σ0 Y_X8_formula e_I z r) : s_V G (d + 72) M_X8_formula vs0 σ0 Y_X8_formula (102, [.ref v0, .int w0, .ref w1], σ) (e_I r) := by
  have le0 : s_le σ (e_I r).2 := s_lek hem_I (l_X8_formula_102 hf) k
  refine ⟨le0, ?_⟩
  intro p e s m below meth c H locs cells slots ls X I hn1 hn2 hl
  have hn : cells + σ0.2.1 ≤ σ.2.1 ∧ slots + σ0.2.2.1 ≤ σ.2.2.1 := ⟨hn1, hn2⟩
  have hl : lv_has ls 4 [(0, .ref v0)] := hl
  have hx := X.1
  have hb : c.code = cX8_formula := X.2.1
  have hown : s.vm.findClass RX8 = some m.cls := X.2.2.2.2.2.1
  have hts := X.2.2.2.2.2.2.1
  refine W.eq (g2 := F0 m 102 ls [.int w0, .ref w1]) rfl ?_
  unfold T_X8_formula_102 at hf
  obtain ⟨q1, h1, hf⟩ := s_bind hf
  have le2 : s_le q1.2 (e_I r).2 := by
    refine s_lek hem_I ?_ k
    rcases s_ite hf with ⟨-, hf⟩ | ⟨-, hf⟩
    · obtain ⟨q2, hh, hf⟩ := s_bind hf
      refine s_lz.tr (l_X8_formulas hh) ?_
      rcases s_ite hf with ⟨-, hf⟩ | ⟨-, hf⟩
      · cases hf
        exact s_le.rf
      · cases hf
        exact s_le.rf
    · cases hf
      exact s_le.rf
  refine lv_iconst (v := 1) hx hb dX8_formula_102 (by decide) ?_
  refine r_callV (Y := M_X8_throwsIf) (v := some (.int q1.1)) X I w_1897 my_X8_throwsIf (by omega) (t_X8_throwsIf (G := G) (d := d + 70) h1) (b_X8_throwsIf h1) rfl rfl hl.1 rfl (Nat.le_of_ble_eq_true rfl) hn le2 dX8_formula_103 (fun H locs cells slots I hn1 hn2 => ?_)
  have I : s_I G q1.2 s H locs := I
  have hn : cells + σ0.2.1 ≤ q1.2.2.1 ∧ slots + σ0.2.2.1 ≤ q1.2.2.2.1 := ⟨hn1, hn2⟩
  rcases s_ite hf with ⟨c3, hf⟩ | ⟨c3, hf⟩
  · refine lv_if_ne (tgt := 131) hx hb dX8_formula_106 (by decide) (fun n => absurd c3 n) (fun _ => ?_)
    obtain ⟨q2, h4, hf⟩ := s_bind hf
    have le5 : s_le q2.2 (e_I r).2 := by
      refine s_lek hem_I ?_ k
      rcases s_ite hf with ⟨-, hf⟩ | ⟨-, hf⟩
      · cases hf
        exact s_le.rf
      · cases hf
        exact s_le.rf
    refine lv_aload_n hx hb dX8_formula_109 rfl (lv_at hl 0 rfl) ?_
    refine lv_aload_n hx hb dX8_formula_110 rfl (lv_at hl 0 rfl) ?_
    refine r_callV (Y := M_X8_formulas) (v := some (.int q2.1)) X I w_1813 my_X8_formulas (by omega) (t_X8_formulas (G := G) (d := d + 70) h4) (b_X8_formulas h4) rfl rfl hl.1 rfl (Nat.le_of_ble_eq_true rfl) hn le5 dX8_formula_111 (fun H locs cells slots I hn1 hn2 => ?_)
    have I : s_I G q2.2 s H locs := I
    have hn : cells + σ0.2.1 ≤ q2.2.2.1 ∧ slots + σ0.2.2.1 ≤ q2.2.2.2.1 := ⟨hn1, hn2⟩
    refine lv_bipush (v := 30) hx hb dX8_formula_114 (by decide) ?_
    rcases s_ite hf with ⟨c6, hf⟩ | ⟨c6, hf⟩
    · refine lv_icmp_ne (tgt := 123) hx hb dX8_formula_116 (by decide) (fun n => absurd c6 n) (fun _ => ?_)
      cases hf
      have k : s_V G (d + 72) M_X8_formula vs0 σ0 Y_X8_formula (124, [.ref v0, .int 1, .ref v0], q2.2) (e_I r) := k
      refine lv_iconst (v := 1) hx hb dX8_formula_119 (by decide) ?_
      refine lv_goto (tgt := 124) hx hb dX8_formula_120 (by decide) ?_
      exact k.2 p e s m below meth c _ _ _ _ _ X I hn.1 hn.2 (lv_sub hl [0] rfl)
    · refine lv_icmp_ne (tgt := 123) hx hb dX8_formula_116 (by decide) (fun _ => ?_) (fun n => absurd n c6)
      cases hf
      have k : s_V G (d + 72) M_X8_formula vs0 σ0 Y_X8_formula (124, [.ref v0, .int 0, .ref v0], q2.2) (e_I r) := k
      refine lv_iconst (v := 0) hx hb dX8_formula_123 (by decide) ?_
      exact k.2 p e s m below meth c _ _ _ _ _ X I hn.1 hn.2 (lv_sub hl [0] rfl)
  · refine lv_if_ne (tgt := 131) hx hb dX8_formula_106 (by decide) (fun _ => ?_) (fun n => absurd n c3)
    cases hf
    have k : _ = r := k
    subst k
    refine lv_iconst (v := 0) hx hb dX8_formula_131 (by decide) ?_
    exact r_iret X I rfl rfl rfl hn dX8_formula_132
set_option maxRecDepth 100000 in
set_option maxHeartbeats 4000000 in
theorem v_X8_formula_124 {G : sG} {d : Nat} {vs0 : List Value} {σ0 : sS} {v0 : Nat} {w0 : Int32} {w1 : Nat} {σ : sS} {z : sZ Int32} {r : Int32 × sS} (hf : T_X8_formula_124 v0 w0 w1 σ = some z) (k : s_K G (d + 72) M_X8_formula vs0 σ0 Y_X8_formula e_I z r) : s_V G (d + 72) M_X8_formula vs0 σ0 Y_X8_formula (124, [.ref v0, .int w0, .ref w1], σ) (e_I r) := by
  have le0 : s_le σ (e_I r).2 := s_lek hem_I (l_X8_formula_124 hf) k
  refine ⟨le0, ?_⟩
  intro p e s m below meth c H locs cells slots ls X I hn1 hn2 hl
  have hn : cells + σ0.2.1 ≤ σ.2.1 ∧ slots + σ0.2.2.1 ≤ σ.2.2.1 := ⟨hn1, hn2⟩
  have hl : lv_has ls 4 [(0, .ref v0)] := hl
  have hx := X.1
  have hb : c.code = cX8_formula := X.2.1
  have hown : s.vm.findClass RX8 = some m.cls := X.2.2.2.2.2.1
  have hts := X.2.2.2.2.2.2.1
  refine W.eq (g2 := F0 m 124 ls [.int w0, .ref w1]) rfl ?_
  unfold T_X8_formula_124 at hf
  obtain ⟨q1, h1, hf⟩ := s_bind hf
  have le2 : s_le q1.2 (e_I r).2 := by
    refine s_lek hem_I ?_ k
    rcases s_ite hf with ⟨-, hf⟩ | ⟨-, hf⟩
    · obtain ⟨q2, hh, hf⟩ := s_bind hf
      refine s_lz.tr (l_X8_formulas hh) ?_
      obtain ⟨x3, -, hf⟩ := s_bind hf
      obtain ⟨x4, -, hf⟩ := s_bind hf
      obtain ⟨x5, -, hf⟩ := s_bind hf
      obtain ⟨σ6, hh, hf⟩ := s_bind hf
      refine s_lz.tr (s_le2 (s_si_2 hh)) ?_
      cases hf
      exact s_le.rf
    · cases hf
      exact s_le.rf
  refine lv_iconst (v := 2) hx hb dX8_formula_124 (by decide) ?_
  refine r_callV (Y := M_X8_throwsIf) (v := some (.int q1.1)) X I w_1897 my_X8_throwsIf (by omega) (t_X8_throwsIf (G := G) (d := d + 70) h1) (b_X8_throwsIf h1) rfl rfl hl.1 rfl (Nat.le_of_ble_eq_true rfl) hn le2 dX8_formula_125 (fun H locs cells slots I hn1 hn2 => ?_)
  have I : s_I G q1.2 s H locs := I
  have hn : cells + σ0.2.1 ≤ q1.2.2.1 ∧ slots + σ0.2.2.1 ≤ q1.2.2.2.1 := ⟨hn1, hn2⟩
  rcases s_ite hf with ⟨c3, hf⟩ | ⟨c3, hf⟩
  · refine lv_if_eq (tgt := 133) hx hb dX8_formula_128 (by decide) (fun _ => ?_) (fun n => absurd c3 n)
    obtain ⟨q2, h4, hf⟩ := s_bind hf
    obtain ⟨x3, h5, hf⟩ := s_bind hf
    obtain ⟨x4, h6, hf⟩ := s_bind hf
    obtain ⟨x5, h7, hf⟩ := s_bind hf
    obtain ⟨σ6, h8, hf⟩ := s_bind hf
    cases hf
    have k : s_V G (d + 72) M_X8_formula vs0 σ0 Y_X8_formula (159, [.ref v0, .int q2.1, .int 0], σ6) (e_I r) := k
    have le9 : s_le σ6 (e_I r).2 := k.1
    have le10 := s_le.tr (s_le2 (s_si_2 h8)) le9
    refine lv_aload_n hx hb dX8_formula_133 rfl (lv_at hl 0 rfl) ?_
    refine r_callV (Y := M_X8_formulas) (v := some (.int q2.1)) X I w_1813 my_X8_formulas (by omega) (t_X8_formulas (G := G) (d := d + 70) h4) (b_X8_formulas h4) rfl rfl hl.1 rfl (Nat.le_of_ble_eq_true rfl) hn le10 dX8_formula_134 (fun H locs cells slots I hn1 hn2 => ?_)
    have I : s_I G q2.2 s H locs := I
    have hn : cells + σ0.2.1 ≤ q2.2.2.1 ∧ slots + σ0.2.2.1 ≤ q2.2.2.2.1 := ⟨hn1, hn2⟩
    refine lv_istore_n (lv' := [(2, .int q2.1), (0, .ref v0)]) hx hb dX8_formula_137 rfl hl (by decide) rfl (fun ls hl => ?_)
    refine lv_aload_n hx hb dX8_formula_138 rfl (lv_at hl 1 rfl) ?_
    refine r_gr X I fl_X8_13 h5 dX8_formula_139 ?_
    refine lv_bipush (v := 62) hx hb dX8_formula_142 (by decide) ?_
    refine lv_bipush (v := 41) hx hb dX8_formula_144 (by decide) ?_
    refine lv_iload_n hx hb dX8_formula_146 rfl (lv_at hl 0 rfl) ?_
    refine lv_imul hx hb dX8_formula_147 ?_
    refine lv_iadd hx hb dX8_formula_148 ?_
    refine lv_aload_n hx hb dX8_formula_149 rfl (lv_at hl 1 rfl) ?_
    refine r_gr X I fl_X8_20 h6 dX8_formula_150 ?_
    refine lv_bipush (v := 70) hx hb dX8_formula_153 (by decide) ?_
    refine r_iald X I h7 dX8_formula_155 ?_
    refine r_iast X I h8 dX8_formula_156 (fun H locs I => ?_)
    have hn := s_k2 (s_si_2 h8) hn
    refine lv_iconst (v := 0) hx hb dX8_formula_157 (by decide) ?_
    refine lv_istore_n (lv' := [(3, .int 0), (2, .int q2.1), (0, .ref v0)]) hx hb dX8_formula_158 rfl hl (by decide) rfl (fun ls hl => ?_)
    exact k.2 p e s m below meth c _ _ _ _ _ X I hn.1 hn.2 (lv_sub hl [2, 1, 0] rfl)
  · refine lv_if_eq (tgt := 133) hx hb dX8_formula_128 (by decide) (fun n => absurd n c3) (fun _ => ?_)
    cases hf
    have k : _ = r := k
    subst k
    refine lv_iconst (v := 0) hx hb dX8_formula_131 (by decide) ?_
    exact r_iret X I rfl rfl rfl hn dX8_formula_132
set_option maxRecDepth 100000 in
set_option maxHeartbeats 4000000 in
theorem v_X8_formula_159 {G : sG} {d : Nat} {vs0 : List Value} {σ0 : sS} {v0 : Nat} {v2 : Int32} {v3 : Int32} {σ : sS} {z : sZ Int32} {r : Int32 × sS} (hf : T_X8_formula_159 v0 v2 v3 σ = some z) (k : s_K G (d + 72) M_X8_formula vs0 σ0 Y_X8_formula e_I z r) : s_V G (d + 72) M_X8_formula vs0 σ0 Y_X8_formula (159, [.ref v0, .int v2, .int v3], σ) (e_I r) := by
  have le0 : s_le σ (e_I r).2 := s_lek hem_I (l_X8_formula_159 hf) k
  refine ⟨le0, ?_⟩
  intro p e s m below meth c H locs cells slots ls X I hn1 hn2 hl
  have hn : cells + σ0.2.1 ≤ σ.2.1 ∧ slots + σ0.2.2.1 ≤ σ.2.2.1 := ⟨hn1, hn2⟩
  have hl : lv_has ls 4 [(0, .ref v0), (2, .int v2), (3, .int v3)] := hl
  have hx := X.1
  have hb : c.code = cX8_formula := X.2.1
  have hown : s.vm.findClass RX8 = some m.cls := X.2.2.2.2.2.1
  have hts := X.2.2.2.2.2.2.1
  refine W.eq (g2 := F0 m 159 ls []) rfl ?_
  unfold T_X8_formula_159 at hf
  obtain ⟨x1, h1, hf⟩ := s_bind hf
  obtain ⟨x2, h2, hf⟩ := s_bind hf
  refine lv_iload_n hx hb dX8_formula_159 rfl (lv_at hl 2 rfl) ?_
  refine lv_aload_n hx hb dX8_formula_160 rfl (lv_at hl 0 rfl) ?_
  refine r_gr X I fl_X8_20 h1 dX8_formula_161 ?_
  refine lv_bipush (v := 70) hx hb dX8_formula_164 (by decide) ?_
  refine r_iald X I h2 dX8_formula_166 ?_
  rcases s_ite hf with ⟨c3, hf⟩ | ⟨c3, hf⟩
  · refine lv_icmp_ge (tgt := 199) hx hb dX8_formula_167 (by decide) (fun _ => ?_) (fun n => absurd c3 n)
    obtain ⟨x3, h4, hf⟩ := s_bind hf
    obtain ⟨x4, h5, hf⟩ := s_bind hf
    obtain ⟨σ5, h6, hf⟩ := s_bind hf
    obtain ⟨q6, h7, hf⟩ := s_bind hf
    cases hf
    have k : _ = r := k
    subst k
    have le8 : s_le q6.2 q6.2 := s_le.rf
    have le9 := s_le.tr (l_X8_fills h7) le8
    refine lv_aload_n hx hb dX8_formula_199 rfl (lv_at hl 0 rfl) ?_
    refine r_gr X I fl_X8_13 h4 dX8_formula_200 ?_
    refine lv_iconst (v := 1) hx hb dX8_formula_203 (by decide) ?_
    refine lv_dup2_11 hx hb dX8_formula_204 rfl rfl ?_
    refine r_iald X I h5 dX8_formula_205 ?_
    refine lv_iconst (v := 1) hx hb dX8_formula_206 (by decide) ?_
    refine lv_iadd hx hb dX8_formula_207 ?_
    refine r_iast X I h6 dX8_formula_208 (fun H locs I => ?_)
    have hn := s_k2 (s_si_2 h6) hn
    refine lv_aload_n hx hb dX8_formula_209 rfl (lv_at hl 0 rfl) ?_
    refine r_callV (Y := M_X8_fills) (v := none) X I w_1809 my_X8_fills (by omega) (t_X8_fills (G := G) (d := d + 69) h7) (b_X8_fills h7) rfl rfl hl.1 rfl (Nat.le_of_ble_eq_true rfl) hn le8 dX8_formula_210 (fun H locs cells slots I hn1 hn2 => ?_)
    have I : s_I G q6.2 s H locs := I
    have hn : cells + σ0.2.1 ≤ q6.2.2.1 ∧ slots + σ0.2.2.1 ≤ q6.2.2.2.1 := ⟨hn1, hn2⟩
    refine lv_iload_n hx hb dX8_formula_213 rfl (lv_at hl 1 rfl) ?_
    exact r_iret X I rfl rfl rfl hn dX8_formula_214
  · refine lv_icmp_ge (tgt := 199) hx hb dX8_formula_167 (by decide) (fun n => absurd n c3) (fun _ => ?_)
    obtain ⟨x7, h10, hf⟩ := s_bind hf
    obtain ⟨q8, h11, hf⟩ := s_bind hf
    obtain ⟨σ9, h12, hf⟩ := s_bind hf
    cases hf
    have k : s_V G (d + 72) M_X8_formula vs0 σ0 Y_X8_formula (159, [.ref v0, .int v2, .int (v3 + 1)], σ9) (e_I r) := k
    have le13 : s_le σ9 (e_I r).2 := k.1
    have le14 := s_le.tr (s_le2 (s_si_2 h12)) le13
    refine lv_aload_n hx hb dX8_formula_170 rfl (lv_at hl 0 rfl) ?_
    refine r_gr X I fl_X8_13 h10 dX8_formula_171 ?_
    refine lv_bipush (v := 62) hx hb dX8_formula_174 (by decide) ?_
    refine lv_bipush (v := 41) hx hb dX8_formula_176 (by decide) ?_
    refine lv_iload_n hx hb dX8_formula_178 rfl (lv_at hl 1 rfl) ?_
    refine lv_imul hx hb dX8_formula_179 ?_
    refine lv_iadd hx hb dX8_formula_180 ?_
    refine lv_iconst (v := 1) hx hb dX8_formula_181 (by decide) ?_
    refine lv_iadd hx hb dX8_formula_182 ?_
    refine lv_iload_n hx hb dX8_formula_183 rfl (lv_at hl 2 rfl) ?_
    refine lv_iadd hx hb dX8_formula_184 ?_
    refine lv_aload_n hx hb dX8_formula_185 rfl (lv_at hl 0 rfl) ?_
    refine lv_bipush (v := 70) hx hb dX8_formula_186 (by decide) ?_
    refine lv_iload_n hx hb dX8_formula_188 rfl (lv_at hl 2 rfl) ?_
    refine r_callV (Y := M_X8_at) (v := some (.int q8.1)) X I w_1901 my_X8_at (by omega) (t_X8_at (G := G) (d := d + 70) h11) (b_X8_at h11) rfl rfl hl.1 rfl (Nat.le_of_ble_eq_true rfl) hn le14 dX8_formula_189 (fun H locs cells slots I hn1 hn2 => ?_)
    have I : s_I G q8.2 s H locs := I
    have hn : cells + σ0.2.1 ≤ q8.2.2.1 ∧ slots + σ0.2.2.1 ≤ q8.2.2.2.1 := ⟨hn1, hn2⟩
    refine r_iast X I h12 dX8_formula_192 (fun H locs I => ?_)
    have hn := s_k2 (s_si_2 h12) hn
    refine lv_iinc (v := (v3 + 1)) (lv' := [(3, .int (v3 + 1)), (0, .ref v0), (2, .int v2)]) hx hb dX8_formula_193 hl (k := 2) rfl rfl (by decide) rfl (fun ls hl => ?_)
    refine lv_goto (tgt := 159) hx hb dX8_formula_196 (by decide) ?_
    exact k.2 p e s m below meth c _ _ _ _ _ X I hn.1 hn.2 (lv_sub hl [1, 2, 0] rfl)
theorem v_X8_formula {G : sG} {d : Nat} {vs0 : List Value} {σ0 : sS} {x : sL} {z : sZ Int32} {r : Int32 × sS} (hs : S_X8_formula x = some z) (k : s_K G (d + 72) M_X8_formula vs0 σ0 Y_X8_formula e_I z r) : s_V G (d + 72) M_X8_formula vs0 σ0 Y_X8_formula x (e_I r) := by
  obtain ⟨pc, vs, σ⟩ := x
  unfold S_X8_formula at hs
  dsimp only at hs
  rcases s_ite hs with ⟨c, hs⟩ | ⟨-, hs⟩
  · subst c
    unfold U_X8_formula_0 at hs
    obtain ⟨a0, g0, hs⟩ := s_bind hs
    obtain ⟨u9, ge, hs⟩ := s_bind hs
    rw [g_r_to g0, g_e_to ge]
    exact v_X8_formula_0 hs k
  rcases s_ite hs with ⟨c, hs⟩ | ⟨-, hs⟩
  · subst c
    unfold U_X8_formula_75 at hs
    obtain ⟨a0, g0, hs⟩ := s_bind hs
    obtain ⟨a1, g1, hs⟩ := s_bind hs
    obtain ⟨u9, ge, hs⟩ := s_bind hs
    rw [g_r_to g0, g_i_to g1, g_e_to ge]
    exact v_X8_formula_75 hs k
  rcases s_ite hs with ⟨c, hs⟩ | ⟨-, hs⟩
  · subst c
    unfold U_X8_formula_76 at hs
    obtain ⟨a0, g0, hs⟩ := s_bind hs
    obtain ⟨a1, g1, hs⟩ := s_bind hs
    obtain ⟨u9, ge, hs⟩ := s_bind hs
    rw [g_r_to g0, g_i_to g1, g_e_to ge]
    exact v_X8_formula_76 hs k
  rcases s_ite hs with ⟨c, hs⟩ | ⟨-, hs⟩
  · subst c
    unfold U_X8_formula_89 at hs
    obtain ⟨a0, g0, hs⟩ := s_bind hs
    obtain ⟨a1, g1, hs⟩ := s_bind hs
    obtain ⟨a2, g2, hs⟩ := s_bind hs
    obtain ⟨a3, g3, hs⟩ := s_bind hs
    obtain ⟨u9, ge, hs⟩ := s_bind hs
    rw [g_r_to g0, g_i_to g1, g_i_to g2, g_r_to g3, g_e_to ge]
    exact v_X8_formula_89 hs k
  rcases s_ite hs with ⟨c, hs⟩ | ⟨-, hs⟩
  · subst c
    unfold U_X8_formula_102 at hs
    obtain ⟨a0, g0, hs⟩ := s_bind hs
    obtain ⟨a1, g1, hs⟩ := s_bind hs
    obtain ⟨a2, g2, hs⟩ := s_bind hs
    obtain ⟨u9, ge, hs⟩ := s_bind hs
    rw [g_r_to g0, g_i_to g1, g_r_to g2, g_e_to ge]
    exact v_X8_formula_102 hs k
  rcases s_ite hs with ⟨c, hs⟩ | ⟨-, hs⟩
  · subst c
    unfold U_X8_formula_124 at hs
    obtain ⟨a0, g0, hs⟩ := s_bind hs
    obtain ⟨a1, g1, hs⟩ := s_bind hs
    obtain ⟨a2, g2, hs⟩ := s_bind hs
    obtain ⟨u9, ge, hs⟩ := s_bind hs
    rw [g_r_to g0, g_i_to g1, g_r_to g2, g_e_to ge]
    exact v_X8_formula_124 hs k
  rcases s_ite hs with ⟨c, hs⟩ | ⟨-, hs⟩
  · subst c
    unfold U_X8_formula_159 at hs
    obtain ⟨a0, g0, hs⟩ := s_bind hs
    obtain ⟨a1, g1, hs⟩ := s_bind hs
    obtain ⟨a2, g2, hs⟩ := s_bind hs
    obtain ⟨u9, ge, hs⟩ := s_bind hs
    rw [g_r_to g0, g_i_to g1, g_i_to g2, g_e_to ge]
    exact v_X8_formula_159 hs k
  cases hs
theorem t_X8_formula {G : sG} {d : Nat} {v0 : Nat} {σ : sS} {q : Int32 × sS} (h : F_X8_formula v0 σ = some q) : s_T G (d + 72) M_X8_formula [.ref v0] σ (e_I q) := by
  unfold F_X8_formula at h
  obtain ⟨-, -, h⟩ := s_bind h
  exact s_ofV rfl (by decide) (Nat.le_of_ble_eq_true rfl) rfl rfl (s_run_ind (V := fun x r => s_V G (d + 72) M_X8_formula [.ref v0] σ Y_X8_formula x (e_I r)) (fun x z r hs hk => v_X8_formula hs (by cases z <;> exact hk)) h)
/-! X8_thrown -/
noncomputable def T_X8_thrown_0 (v0 : Nat) (σ : sS) : Option (sZ Int32) :=
  (s_fi σ v0 8 0).bind fun x1 =>
  some (.inr (x1, σ))
noncomputable def U_X8_thrown_0 (vs : List Value) (σ : sS) : Option (sZ Int32) := (g_r vs).bind fun a0 => (g_e a0.2).bind fun _ => T_X8_thrown_0 a0.1 σ
noncomputable def S_X8_thrown (x : sL) : Option (sZ Int32) := if x.1 = 0 then U_X8_thrown_0 x.2.1 x.2.2 else none
def Y_X8_thrown (pc : Nat) : List Nat := if pc = 0 then [0] else []
noncomputable def F_X8_thrown (v0 : Nat) (σ : sS) : Option (Int32 × sS) := (s_is σ v0 8).bind fun _ => s_run S_X8_thrown (0, [.ref v0], σ)
theorem l_X8_thrown_0 {v0 : Nat} {σ : sS} {z : sZ Int32} (hf : T_X8_thrown_0 v0 σ = some z) : s_lz σ z := by
  unfold T_X8_thrown_0 at hf
  obtain ⟨x1, -, hf⟩ := s_bind hf
  cases hf
  exact s_le.rf
theorem l_X8_thrown_s {x : sL} {z : sZ Int32} (hs : S_X8_thrown x = some z) : s_lz x.2.2 z := by
  obtain ⟨pc, vs, σ⟩ := x
  unfold S_X8_thrown at hs
  dsimp only at hs ⊢
  rcases s_ite hs with ⟨c, hs⟩ | ⟨-, hs⟩
  · subst c
    unfold U_X8_thrown_0 at hs
    obtain ⟨a0, g0, hs⟩ := s_bind hs
    obtain ⟨u9, ge, hs⟩ := s_bind hs
    exact l_X8_thrown_0 hs
  cases hs
theorem l_X8_thrown {v0 : Nat} {σ : sS} {q : Int32 × sS} (h : F_X8_thrown v0 σ = some q) : s_le σ q.2 := by
  unfold F_X8_thrown at h
  obtain ⟨-, -, h⟩ := s_bind h
  exact s_run_ind (V := fun x r => s_le x.2.2 r.2) (fun x z r hs hk => by
    have h9 := l_X8_thrown_s hs
    cases z with
    | inl y => exact s_le.tr h9 hk
    | inr q => cases hk; exact h9) h
theorem b_X8_thrown {v0 : Nat} {σ : sS} {q : Int32 × sS} (h : F_X8_thrown v0 σ = some q) : ∃ fs, σ.1 v0 = some (.inr (8, fs)) := by
  unfold F_X8_thrown at h
  obtain ⟨u, hu, -⟩ := s_bind h
  exact s_is_to hu
set_option maxRecDepth 100000 in
set_option maxHeartbeats 4000000 in
theorem v_X8_thrown_0 {G : sG} {d : Nat} {vs0 : List Value} {σ0 : sS} {v0 : Nat} {σ : sS} {z : sZ Int32} {r : Int32 × sS} (hf : T_X8_thrown_0 v0 σ = some z) (k : s_K G (d + 1) M_X8_thrown vs0 σ0 Y_X8_thrown e_I z r) : s_V G (d + 1) M_X8_thrown vs0 σ0 Y_X8_thrown (0, [.ref v0], σ) (e_I r) := by
  have le0 : s_le σ (e_I r).2 := s_lek hem_I (l_X8_thrown_0 hf) k
  refine ⟨le0, ?_⟩
  intro p e s m below meth c H locs cells slots ls X I hn1 hn2 hl
  have hn : cells + σ0.2.1 ≤ σ.2.1 ∧ slots + σ0.2.2.1 ≤ σ.2.2.1 := ⟨hn1, hn2⟩
  have hl : lv_has ls 1 [(0, .ref v0)] := hl
  have hx := X.1
  have hb : c.code = cX8_thrown := X.2.1
  have hown : s.vm.findClass RX8 = some m.cls := X.2.2.2.2.2.1
  have hts := X.2.2.2.2.2.2.1
  refine W.eq (g2 := F0 m 0 ls []) rfl ?_
  unfold T_X8_thrown_0 at hf
  obtain ⟨x1, h1, hf⟩ := s_bind hf
  cases hf
  have k : _ = r := k
  subst k
  refine lv_aload_n hx hb dX8_thrown_0 rfl (lv_at hl 0 rfl) ?_
  refine r_gi X I fl_X8_3 h1 dX8_thrown_1 ?_
  exact r_iret X I rfl rfl rfl hn dX8_thrown_4
theorem v_X8_thrown {G : sG} {d : Nat} {vs0 : List Value} {σ0 : sS} {x : sL} {z : sZ Int32} {r : Int32 × sS} (hs : S_X8_thrown x = some z) (k : s_K G (d + 1) M_X8_thrown vs0 σ0 Y_X8_thrown e_I z r) : s_V G (d + 1) M_X8_thrown vs0 σ0 Y_X8_thrown x (e_I r) := by
  obtain ⟨pc, vs, σ⟩ := x
  unfold S_X8_thrown at hs
  dsimp only at hs
  rcases s_ite hs with ⟨c, hs⟩ | ⟨-, hs⟩
  · subst c
    unfold U_X8_thrown_0 at hs
    obtain ⟨a0, g0, hs⟩ := s_bind hs
    obtain ⟨u9, ge, hs⟩ := s_bind hs
    rw [g_r_to g0, g_e_to ge]
    exact v_X8_thrown_0 hs k
  cases hs
theorem t_X8_thrown {G : sG} {d : Nat} {v0 : Nat} {σ : sS} {q : Int32 × sS} (h : F_X8_thrown v0 σ = some q) : s_T G (d + 1) M_X8_thrown [.ref v0] σ (e_I q) := by
  unfold F_X8_thrown at h
  obtain ⟨-, -, h⟩ := s_bind h
  exact s_ofV rfl (by decide) (Nat.le_of_ble_eq_true rfl) rfl rfl (s_run_ind (V := fun x r => s_V G (d + 1) M_X8_thrown [.ref v0] σ Y_X8_thrown x (e_I r)) (fun x z r hs hk => v_X8_thrown hs (by cases z <;> exact hk)) h)
/-! X7_fault -/
noncomputable def T_X7_fault_0 (v0 : Nat) (σ : sS) : Option (sZ Int32) :=
  (s_fr σ v0 7 3).bind fun x1 =>
  (s_fi σ x1 5 1).bind fun x2 =>
  some (.inr (x2, σ))
noncomputable def U_X7_fault_0 (vs : List Value) (σ : sS) : Option (sZ Int32) := (g_r vs).bind fun a0 => (g_e a0.2).bind fun _ => T_X7_fault_0 a0.1 σ
noncomputable def S_X7_fault (x : sL) : Option (sZ Int32) := if x.1 = 0 then U_X7_fault_0 x.2.1 x.2.2 else none
def Y_X7_fault (pc : Nat) : List Nat := if pc = 0 then [0] else []
noncomputable def F_X7_fault (v0 : Nat) (σ : sS) : Option (Int32 × sS) := (s_is σ v0 7).bind fun _ => s_run S_X7_fault (0, [.ref v0], σ)
theorem l_X7_fault_0 {v0 : Nat} {σ : sS} {z : sZ Int32} (hf : T_X7_fault_0 v0 σ = some z) : s_lz σ z := by
  unfold T_X7_fault_0 at hf
  obtain ⟨x1, -, hf⟩ := s_bind hf
  obtain ⟨x2, -, hf⟩ := s_bind hf
  cases hf
  exact s_le.rf
theorem l_X7_fault_s {x : sL} {z : sZ Int32} (hs : S_X7_fault x = some z) : s_lz x.2.2 z := by
  obtain ⟨pc, vs, σ⟩ := x
  unfold S_X7_fault at hs
  dsimp only at hs ⊢
  rcases s_ite hs with ⟨c, hs⟩ | ⟨-, hs⟩
  · subst c
    unfold U_X7_fault_0 at hs
    obtain ⟨a0, g0, hs⟩ := s_bind hs
    obtain ⟨u9, ge, hs⟩ := s_bind hs
    exact l_X7_fault_0 hs
  cases hs
theorem l_X7_fault {v0 : Nat} {σ : sS} {q : Int32 × sS} (h : F_X7_fault v0 σ = some q) : s_le σ q.2 := by
  unfold F_X7_fault at h
  obtain ⟨-, -, h⟩ := s_bind h
  exact s_run_ind (V := fun x r => s_le x.2.2 r.2) (fun x z r hs hk => by
    have h9 := l_X7_fault_s hs
    cases z with
    | inl y => exact s_le.tr h9 hk
    | inr q => cases hk; exact h9) h
theorem b_X7_fault {v0 : Nat} {σ : sS} {q : Int32 × sS} (h : F_X7_fault v0 σ = some q) : ∃ fs, σ.1 v0 = some (.inr (7, fs)) := by
  unfold F_X7_fault at h
  obtain ⟨u, hu, -⟩ := s_bind h
  exact s_is_to hu
set_option maxRecDepth 100000 in
set_option maxHeartbeats 4000000 in
theorem v_X7_fault_0 {G : sG} {d : Nat} {vs0 : List Value} {σ0 : sS} {v0 : Nat} {σ : sS} {z : sZ Int32} {r : Int32 × sS} (hf : T_X7_fault_0 v0 σ = some z) (k : s_K G (d + 1) M_X7_fault vs0 σ0 Y_X7_fault e_I z r) : s_V G (d + 1) M_X7_fault vs0 σ0 Y_X7_fault (0, [.ref v0], σ) (e_I r) := by
  have le0 : s_le σ (e_I r).2 := s_lek hem_I (l_X7_fault_0 hf) k
  refine ⟨le0, ?_⟩
  intro p e s m below meth c H locs cells slots ls X I hn1 hn2 hl
  have hn : cells + σ0.2.1 ≤ σ.2.1 ∧ slots + σ0.2.2.1 ≤ σ.2.2.1 := ⟨hn1, hn2⟩
  have hl : lv_has ls 1 [(0, .ref v0)] := hl
  have hx := X.1
  have hb : c.code = cX7_fault := X.2.1
  have hown : s.vm.findClass RX7 = some m.cls := X.2.2.2.2.2.1
  have hts := X.2.2.2.2.2.2.1
  refine W.eq (g2 := F0 m 0 ls []) rfl ?_
  unfold T_X7_fault_0 at hf
  obtain ⟨x1, h1, hf⟩ := s_bind hf
  obtain ⟨x2, h2, hf⟩ := s_bind hf
  cases hf
  have k : _ = r := k
  subst k
  refine lv_aload_n hx hb dX7_fault_0 rfl (lv_at hl 0 rfl) ?_
  refine r_gr X I fl_X7_31 h1 dX7_fault_1 ?_
  refine r_gi X I fl_X7_118 h2 dX7_fault_4 ?_
  exact r_iret X I rfl rfl rfl hn dX7_fault_7
theorem v_X7_fault {G : sG} {d : Nat} {vs0 : List Value} {σ0 : sS} {x : sL} {z : sZ Int32} {r : Int32 × sS} (hs : S_X7_fault x = some z) (k : s_K G (d + 1) M_X7_fault vs0 σ0 Y_X7_fault e_I z r) : s_V G (d + 1) M_X7_fault vs0 σ0 Y_X7_fault x (e_I r) := by
  obtain ⟨pc, vs, σ⟩ := x
  unfold S_X7_fault at hs
  dsimp only at hs
  rcases s_ite hs with ⟨c, hs⟩ | ⟨-, hs⟩
  · subst c
    unfold U_X7_fault_0 at hs
    obtain ⟨a0, g0, hs⟩ := s_bind hs
    obtain ⟨u9, ge, hs⟩ := s_bind hs
    rw [g_r_to g0, g_e_to ge]
    exact v_X7_fault_0 hs k
  cases hs
theorem t_X7_fault {G : sG} {d : Nat} {v0 : Nat} {σ : sS} {q : Int32 × sS} (h : F_X7_fault v0 σ = some q) : s_T G (d + 1) M_X7_fault [.ref v0] σ (e_I q) := by
  unfold F_X7_fault at h
  obtain ⟨-, -, h⟩ := s_bind h
  exact s_ofV rfl (by decide) (Nat.le_of_ble_eq_true rfl) rfl rfl (s_run_ind (V := fun x r => s_V G (d + 1) M_X7_fault [.ref v0] σ Y_X7_fault x (e_I r)) (fun x z r hs hk => v_X7_fault hs (by cases z <;> exact hk)) h)
/-! X8_fault -/
noncomputable def T_X8_fault_0 (v0 : Nat) (σ : sS) : Option (sZ Int32) :=
  (s_pf σ v0 8 0 (.int 0)).bind fun σ1 =>
  (s_fi σ1 v0 8 13).bind fun x2 =>
  some (.inr (x2, σ1))
noncomputable def U_X8_fault_0 (vs : List Value) (σ : sS) : Option (sZ Int32) := (g_r vs).bind fun a0 => (g_e a0.2).bind fun _ => T_X8_fault_0 a0.1 σ
noncomputable def S_X8_fault (x : sL) : Option (sZ Int32) := if x.1 = 0 then U_X8_fault_0 x.2.1 x.2.2 else none
def Y_X8_fault (pc : Nat) : List Nat := if pc = 0 then [0] else []
noncomputable def F_X8_fault (v0 : Nat) (σ : sS) : Option (Int32 × sS) := (s_is σ v0 8).bind fun _ => s_run S_X8_fault (0, [.ref v0], σ)
theorem l_X8_fault_0 {v0 : Nat} {σ : sS} {z : sZ Int32} (hf : T_X8_fault_0 v0 σ = some z) : s_lz σ z := by
  unfold T_X8_fault_0 at hf
  obtain ⟨σ1, hh, hf⟩ := s_bind hf
  refine s_lz.tr (s_le2 (s_pf_2 hh)) ?_
  obtain ⟨x2, -, hf⟩ := s_bind hf
  cases hf
  exact s_le.rf
theorem l_X8_fault_s {x : sL} {z : sZ Int32} (hs : S_X8_fault x = some z) : s_lz x.2.2 z := by
  obtain ⟨pc, vs, σ⟩ := x
  unfold S_X8_fault at hs
  dsimp only at hs ⊢
  rcases s_ite hs with ⟨c, hs⟩ | ⟨-, hs⟩
  · subst c
    unfold U_X8_fault_0 at hs
    obtain ⟨a0, g0, hs⟩ := s_bind hs
    obtain ⟨u9, ge, hs⟩ := s_bind hs
    exact l_X8_fault_0 hs
  cases hs
theorem l_X8_fault {v0 : Nat} {σ : sS} {q : Int32 × sS} (h : F_X8_fault v0 σ = some q) : s_le σ q.2 := by
  unfold F_X8_fault at h
  obtain ⟨-, -, h⟩ := s_bind h
  exact s_run_ind (V := fun x r => s_le x.2.2 r.2) (fun x z r hs hk => by
    have h9 := l_X8_fault_s hs
    cases z with
    | inl y => exact s_le.tr h9 hk
    | inr q => cases hk; exact h9) h
theorem b_X8_fault {v0 : Nat} {σ : sS} {q : Int32 × sS} (h : F_X8_fault v0 σ = some q) : ∃ fs, σ.1 v0 = some (.inr (8, fs)) := by
  unfold F_X8_fault at h
  obtain ⟨u, hu, -⟩ := s_bind h
  exact s_is_to hu
set_option maxRecDepth 100000 in
set_option maxHeartbeats 4000000 in
theorem v_X8_fault_0 {G : sG} {d : Nat} {vs0 : List Value} {σ0 : sS} {v0 : Nat} {σ : sS} {z : sZ Int32} {r : Int32 × sS} (hf : T_X8_fault_0 v0 σ = some z) (k : s_K G (d + 1) M_X8_fault vs0 σ0 Y_X8_fault e_I z r) : s_V G (d + 1) M_X8_fault vs0 σ0 Y_X8_fault (0, [.ref v0], σ) (e_I r) := by
  have le0 : s_le σ (e_I r).2 := s_lek hem_I (l_X8_fault_0 hf) k
  refine ⟨le0, ?_⟩
  intro p e s m below meth c H locs cells slots ls X I hn1 hn2 hl
  have hn : cells + σ0.2.1 ≤ σ.2.1 ∧ slots + σ0.2.2.1 ≤ σ.2.2.1 := ⟨hn1, hn2⟩
  have hl : lv_has ls 1 [(0, .ref v0)] := hl
  have hx := X.1
  have hb : c.code = cX8_fault := X.2.1
  have hown : s.vm.findClass RX8 = some m.cls := X.2.2.2.2.2.1
  have hts := X.2.2.2.2.2.2.1
  refine W.eq (g2 := F0 m 0 ls []) rfl ?_
  unfold T_X8_fault_0 at hf
  obtain ⟨σ1, h1, hf⟩ := s_bind hf
  obtain ⟨x2, h2, hf⟩ := s_bind hf
  cases hf
  have k : _ = r := k
  subst k
  have le3 : s_le σ1 σ1 := s_le.rf
  refine lv_aload_n hx hb dX8_fault_0 rfl (lv_at hl 0 rfl) ?_
  refine lv_iconst (v := 0) hx hb dX8_fault_1 (by decide) ?_
  refine r_put X I fp_X8_3 (fun h => by cases h) h1 rfl rfl dX8_fault_2 (fun H locs I => ?_)
  have hn := s_k2 (s_pf_2 h1) hn
  refine lv_aload_n hx hb dX8_fault_5 rfl (lv_at hl 0 rfl) ?_
  refine r_gi X I fl_X8_30 h2 dX8_fault_6 ?_
  exact r_iret X I rfl rfl rfl hn dX8_fault_9
theorem v_X8_fault {G : sG} {d : Nat} {vs0 : List Value} {σ0 : sS} {x : sL} {z : sZ Int32} {r : Int32 × sS} (hs : S_X8_fault x = some z) (k : s_K G (d + 1) M_X8_fault vs0 σ0 Y_X8_fault e_I z r) : s_V G (d + 1) M_X8_fault vs0 σ0 Y_X8_fault x (e_I r) := by
  obtain ⟨pc, vs, σ⟩ := x
  unfold S_X8_fault at hs
  dsimp only at hs
  rcases s_ite hs with ⟨c, hs⟩ | ⟨-, hs⟩
  · subst c
    unfold U_X8_fault_0 at hs
    obtain ⟨a0, g0, hs⟩ := s_bind hs
    obtain ⟨u9, ge, hs⟩ := s_bind hs
    rw [g_r_to g0, g_e_to ge]
    exact v_X8_fault_0 hs k
  cases hs
theorem t_X8_fault {G : sG} {d : Nat} {v0 : Nat} {σ : sS} {q : Int32 × sS} (h : F_X8_fault v0 σ = some q) : s_T G (d + 1) M_X8_fault [.ref v0] σ (e_I q) := by
  unfold F_X8_fault at h
  obtain ⟨-, -, h⟩ := s_bind h
  exact s_ofV rfl (by decide) (Nat.le_of_ble_eq_true rfl) rfl rfl (s_run_ind (V := fun x r => s_V G (d + 1) M_X8_fault [.ref v0] σ Y_X8_fault x (e_I r)) (fun x z r hs hk => v_X8_fault hs (by cases z <;> exact hk)) h)
/-! X7_things -/
noncomputable def T_X7_things_0 (v0 : Nat) (v1 : Int32) (σ : sS) : Option (sZ (Unit ⊕ String)) :=
  if v1 < 1 then (some (.inr (.inr "java/lang/IllegalArgumentException", s_ex σ)))
  else (if v1 ≤ 3 then ((s_fr σ v0 7 1).bind fun x1 =>
  (s_fi σ x1 1 2).bind fun x2 =>
  if x2 ≤ 0 then ((s_fr σ v0 7 1).bind fun x3 =>
  (s_pf σ x3 1 0 (.int v1)).bind fun σ4 =>
  some (.inr (.inl (), σ4)))
  else (some (.inr (.inr "java/lang/IllegalStateException", s_ex σ))))
  else (some (.inr (.inr "java/lang/IllegalArgumentException", s_ex σ))))
noncomputable def U_X7_things_0 (vs : List Value) (σ : sS) : Option (sZ (Unit ⊕ String)) := (g_r vs).bind fun a0 => (g_i a0.2).bind fun a1 => (g_e a1.2).bind fun _ => T_X7_things_0 a0.1 a1.1 σ
noncomputable def S_X7_things (x : sL) : Option (sZ (Unit ⊕ String)) := if x.1 = 0 then U_X7_things_0 x.2.1 x.2.2 else none
def Y_X7_things (pc : Nat) : List Nat := if pc = 0 then [0, 1] else []
noncomputable def F_X7_things (v0 : Nat) (v1 : Int32) (σ : sS) : Option ((Unit ⊕ String) × sS) := (s_is σ v0 7).bind fun _ => s_run S_X7_things (0, [.ref v0, .int v1], σ)
theorem l_X7_things_0 {v0 : Nat} {v1 : Int32} {σ : sS} {z : sZ (Unit ⊕ String)} (hf : T_X7_things_0 v0 v1 σ = some z) : s_lz σ z := by
  unfold T_X7_things_0 at hf
  rcases s_ite hf with ⟨-, hf⟩ | ⟨-, hf⟩
  · cases hf
    exact s_ex_le
  · rcases s_ite hf with ⟨-, hf⟩ | ⟨-, hf⟩
    · obtain ⟨x1, -, hf⟩ := s_bind hf
      obtain ⟨x2, -, hf⟩ := s_bind hf
      rcases s_ite hf with ⟨-, hf⟩ | ⟨-, hf⟩
      · obtain ⟨x3, -, hf⟩ := s_bind hf
        obtain ⟨σ4, hh, hf⟩ := s_bind hf
        refine s_lz.tr (s_le2 (s_pf_2 hh)) ?_
        cases hf
        exact s_le.rf
      · cases hf
        exact s_ex_le
    · cases hf
      exact s_ex_le
theorem l_X7_things_s {x : sL} {z : sZ (Unit ⊕ String)} (hs : S_X7_things x = some z) : s_lz x.2.2 z := by
  obtain ⟨pc, vs, σ⟩ := x
  unfold S_X7_things at hs
  dsimp only at hs ⊢
  rcases s_ite hs with ⟨c, hs⟩ | ⟨-, hs⟩
  · subst c
    unfold U_X7_things_0 at hs
    obtain ⟨a0, g0, hs⟩ := s_bind hs
    obtain ⟨a1, g1, hs⟩ := s_bind hs
    obtain ⟨u9, ge, hs⟩ := s_bind hs
    exact l_X7_things_0 hs
  cases hs
theorem l_X7_things {v0 : Nat} {v1 : Int32} {σ : sS} {q : (Unit ⊕ String) × sS} (h : F_X7_things v0 v1 σ = some q) : s_le σ q.2 := by
  unfold F_X7_things at h
  obtain ⟨-, -, h⟩ := s_bind h
  exact s_run_ind (V := fun x r => s_le x.2.2 r.2) (fun x z r hs hk => by
    have h9 := l_X7_things_s hs
    cases z with
    | inl y => exact s_le.tr h9 hk
    | inr q => cases hk; exact h9) h
theorem b_X7_things {v0 : Nat} {v1 : Int32} {σ : sS} {q : (Unit ⊕ String) × sS} (h : F_X7_things v0 v1 σ = some q) : ∃ fs, σ.1 v0 = some (.inr (7, fs)) := by
  unfold F_X7_things at h
  obtain ⟨u, hu, -⟩ := s_bind h
  exact s_is_to hu
set_option maxRecDepth 100000 in
set_option maxHeartbeats 4000000 in
theorem v_X7_things_0 {G : sG} {d : Nat} {vs0 : List Value} {σ0 : sS} {v0 : Nat} {v1 : Int32} {σ : sS} {z : sZ (Unit ⊕ String)} {r : (Unit ⊕ String) × sS} (hf : T_X7_things_0 v0 v1 σ = some z) (k : s_K G (d + 1) M_X7_things vs0 σ0 Y_X7_things e_VX z r) : s_V G (d + 1) M_X7_things vs0 σ0 Y_X7_things (0, [.ref v0, .int v1], σ) (e_VX r) := by
  have le0 : s_le σ (e_VX r).2 := s_lek hem_VX (l_X7_things_0 hf) k
  refine ⟨le0, ?_⟩
  intro p e s m below meth c H locs cells slots ls X I hn1 hn2 hl
  have hn : cells + σ0.2.1 ≤ σ.2.1 ∧ slots + σ0.2.2.1 ≤ σ.2.2.1 := ⟨hn1, hn2⟩
  have hl : lv_has ls 2 [(0, .ref v0), (1, .int v1)] := hl
  have hx := X.1
  have hb : c.code = cX7_things := X.2.1
  have hown : s.vm.findClass RX7 = some m.cls := X.2.2.2.2.2.1
  have hts := X.2.2.2.2.2.2.1
  refine W.eq (g2 := F0 m 0 ls []) rfl ?_
  unfold T_X7_things_0 at hf
  refine lv_iload_n hx hb dX7_things_0 rfl (lv_at hl 1 rfl) ?_
  refine lv_iconst (v := 1) hx hb dX7_things_1 (by decide) ?_
  rcases s_ite hf with ⟨c1, hf⟩ | ⟨c1, hf⟩
  · refine lv_icmp_lt (tgt := 10) hx hb dX7_things_2 (by decide) (fun _ => ?_) (fun n => absurd c1 n)
    cases hf
    have k : _ = r := k
    subst k
    exact r_throw X I rfl th_X7_96_121 hl.1 (Nat.le_of_ble_eq_true rfl) hn rfl dX7_things_10 dX7_things_13 dX7_things_14 dX7_things_16 dX7_things_19
  · refine lv_icmp_lt (tgt := 10) hx hb dX7_things_2 (by decide) (fun n => absurd n c1) (fun _ => ?_)
    refine lv_iload_n hx hb dX7_things_5 rfl (lv_at hl 1 rfl) ?_
    refine lv_iconst (v := 3) hx hb dX7_things_6 (by decide) ?_
    rcases s_ite hf with ⟨c2, hf⟩ | ⟨c2, hf⟩
    · refine lv_icmp_le (tgt := 20) hx hb dX7_things_7 (by decide) (fun _ => ?_) (fun n => absurd c2 n)
      obtain ⟨x1, h3, hf⟩ := s_bind hf
      obtain ⟨x2, h4, hf⟩ := s_bind hf
      refine lv_aload_n hx hb dX7_things_20 rfl (lv_at hl 0 rfl) ?_
      refine r_gr X I fl_X7_19 h3 dX7_things_21 ?_
      refine r_gi X I fl_X7_103 h4 dX7_things_24 ?_
      rcases s_ite hf with ⟨c5, hf⟩ | ⟨c5, hf⟩
      · refine lv_if_le (tgt := 40) hx hb dX7_things_27 (by decide) (fun _ => ?_) (fun n => absurd c5 n)
        obtain ⟨x3, h6, hf⟩ := s_bind hf
        obtain ⟨σ4, h7, hf⟩ := s_bind hf
        cases hf
        have k : _ = r := k
        subst k
        have le8 : s_le σ4 σ4 := s_le.rf
        refine lv_aload_n hx hb dX7_things_40 rfl (lv_at hl 0 rfl) ?_
        refine r_gr X I fl_X7_19 h6 dX7_things_41 ?_
        refine lv_iload_n hx hb dX7_things_44 rfl (lv_at hl 1 rfl) ?_
        refine r_put X I fp_X7_84 (fun h => by cases h) h7 rfl rfl dX7_things_45 (fun H locs I => ?_)
        have hn := s_k2 (s_pf_2 h7) hn
        exact r_vret X I rfl rfl hn dX7_things_48
      · refine lv_if_le (tgt := 40) hx hb dX7_things_27 (by decide) (fun n => absurd n c5) (fun _ => ?_)
        cases hf
        have k : _ = r := k
        subst k
        exact r_throw X I rfl th_X7_123_125 hl.1 (Nat.le_of_ble_eq_true rfl) hn rfl dX7_things_30 dX7_things_33 dX7_things_34 dX7_things_36 dX7_things_39
    · refine lv_icmp_le (tgt := 20) hx hb dX7_things_7 (by decide) (fun n => absurd n c2) (fun _ => ?_)
      cases hf
      have k : _ = r := k
      subst k
      exact r_throw X I rfl th_X7_96_121 hl.1 (Nat.le_of_ble_eq_true rfl) hn rfl dX7_things_10 dX7_things_13 dX7_things_14 dX7_things_16 dX7_things_19
theorem v_X7_things {G : sG} {d : Nat} {vs0 : List Value} {σ0 : sS} {x : sL} {z : sZ (Unit ⊕ String)} {r : (Unit ⊕ String) × sS} (hs : S_X7_things x = some z) (k : s_K G (d + 1) M_X7_things vs0 σ0 Y_X7_things e_VX z r) : s_V G (d + 1) M_X7_things vs0 σ0 Y_X7_things x (e_VX r) := by
  obtain ⟨pc, vs, σ⟩ := x
  unfold S_X7_things at hs
  dsimp only at hs
  rcases s_ite hs with ⟨c, hs⟩ | ⟨-, hs⟩
  · subst c
    unfold U_X7_things_0 at hs
    obtain ⟨a0, g0, hs⟩ := s_bind hs
    obtain ⟨a1, g1, hs⟩ := s_bind hs
    obtain ⟨u9, ge, hs⟩ := s_bind hs
    rw [g_r_to g0, g_i_to g1, g_e_to ge]
    exact v_X7_things_0 hs k
  cases hs
theorem t_X7_things {G : sG} {d : Nat} {v0 : Nat} {v1 : Int32} {σ : sS} {q : (Unit ⊕ String) × sS} (h : F_X7_things v0 v1 σ = some q) : s_T G (d + 1) M_X7_things [.ref v0, .int v1] σ (e_VX q) := by
  unfold F_X7_things at h
  obtain ⟨-, -, h⟩ := s_bind h
  exact s_ofV rfl (by decide) (Nat.le_of_ble_eq_true rfl) rfl rfl (s_run_ind (V := fun x r => s_V G (d + 1) M_X7_things [.ref v0, .int v1] σ Y_X7_things x (e_VX r)) (fun x z r hs hk => v_X7_things hs (by cases z <;> exact hk)) h)
/-! L_things -/
noncomputable def T_L_things_0 (v0 : Nat) (v1 : Int32) (σ : sS) : Option (sZ Int32) :=
  (F_X7_things v0 v1 σ).bind fun q1 => s_sum q1.1 (fun x2 => some (.inr (0, q1.2))) (fun E3 => if E3 = "java/lang/IllegalArgumentException" then (some (.inr (1, q1.2))) else if E3 = "java/lang/IllegalStateException" then (some (.inr (2, q1.2))) else none)
noncomputable def U_L_things_0 (vs : List Value) (σ : sS) : Option (sZ Int32) := (g_r vs).bind fun a0 => (g_i a0.2).bind fun a1 => (g_e a1.2).bind fun _ => T_L_things_0 a0.1 a1.1 σ
noncomputable def S_L_things (x : sL) : Option (sZ Int32) := if x.1 = 0 then U_L_things_0 x.2.1 x.2.2 else none
def Y_L_things (pc : Nat) : List Nat := if pc = 0 then [0, 1] else []
noncomputable def F_L_things (v0 : Nat) (v1 : Int32) (σ : sS) : Option (Int32 × sS) := s_run S_L_things (0, [.ref v0, .int v1], σ)
theorem hp_L_things_2_1 : s_pass RL "java/lang/IllegalStateException" 2 [(0, 5, 8, 13)] := fun z hz => by
  simp only [List.mem_cons, List.not_mem_nil, or_false] at hz
  rcases hz with rfl
  · exact ⟨rfl, by decide, "java/lang/IllegalArgumentException", w_691, by decide +kernel⟩
theorem l_L_things_0 {v0 : Nat} {v1 : Int32} {σ : sS} {z : sZ Int32} (hf : T_L_things_0 v0 v1 σ = some z) : s_lz σ z := by
  unfold T_L_things_0 at hf
  obtain ⟨q1, hh, hf⟩ := s_bind hf
  refine s_lz.tr (l_X7_things hh) ?_
  rcases s_sum_some hf with ⟨x2, -, hf⟩ | ⟨E3, -, hf⟩
  · cases hf
    exact s_le.rf
  · rcases s_ite hf with ⟨-, hf⟩ | ⟨-, hf⟩
    · cases hf
      exact s_le.rf
    rcases s_ite hf with ⟨-, hf⟩ | ⟨-, hf⟩
    · cases hf
      exact s_le.rf
    cases hf
theorem l_L_things_s {x : sL} {z : sZ Int32} (hs : S_L_things x = some z) : s_lz x.2.2 z := by
  obtain ⟨pc, vs, σ⟩ := x
  unfold S_L_things at hs
  dsimp only at hs ⊢
  rcases s_ite hs with ⟨c, hs⟩ | ⟨-, hs⟩
  · subst c
    unfold U_L_things_0 at hs
    obtain ⟨a0, g0, hs⟩ := s_bind hs
    obtain ⟨a1, g1, hs⟩ := s_bind hs
    obtain ⟨u9, ge, hs⟩ := s_bind hs
    exact l_L_things_0 hs
  cases hs
theorem l_L_things {v0 : Nat} {v1 : Int32} {σ : sS} {q : Int32 × sS} (h : F_L_things v0 v1 σ = some q) : s_le σ q.2 := by
  unfold F_L_things at h
  exact s_run_ind (V := fun x r => s_le x.2.2 r.2) (fun x z r hs hk => by
    have h9 := l_L_things_s hs
    cases z with
    | inl y => exact s_le.tr h9 hk
    | inr q => cases hk; exact h9) h
set_option maxRecDepth 100000 in
set_option maxHeartbeats 4000000 in
theorem v_L_things_0 {G : sG} {d : Nat} {vs0 : List Value} {σ0 : sS} {v0 : Nat} {v1 : Int32} {σ : sS} {z : sZ Int32} {r : Int32 × sS} (hf : T_L_things_0 v0 v1 σ = some z) (k : s_K G (d + 2) M_L_things vs0 σ0 Y_L_things e_I z r) : s_V G (d + 2) M_L_things vs0 σ0 Y_L_things (0, [.ref v0, .int v1], σ) (e_I r) := by
  have le0 : s_le σ (e_I r).2 := s_lek hem_I (l_L_things_0 hf) k
  refine ⟨le0, ?_⟩
  intro p e s m below meth c H locs cells slots ls X I hn1 hn2 hl
  have hn : cells + σ0.2.1 ≤ σ.2.1 ∧ slots + σ0.2.2.1 ≤ σ.2.2.1 := ⟨hn1, hn2⟩
  have hl : lv_has ls 3 [(0, .ref v0), (1, .int v1)] := hl
  have hx := X.1
  have hb : c.code = cL_things := X.2.1
  have hown : s.vm.findClass RL = some m.cls := X.2.2.2.2.2.1
  have hts := X.2.2.2.2.2.2.1
  refine W.eq (g2 := F0 m 0 ls []) rfl ?_
  unfold T_L_things_0 at hf
  obtain ⟨q1, h1, hf⟩ := s_bind hf
  refine lv_aload_n hx hb dL_things_0 rfl (lv_at hl 0 rfl) ?_
  refine lv_iload_n hx hb dL_things_1 rfl (lv_at hl 1 rfl) ?_
  rcases s_sum_some hf with ⟨x2, hq2, hf⟩ | ⟨E3, hq2, hf⟩
  · have le3 : s_le q1.2 (e_I r).2 := by
      refine s_lek hem_I ?_ k
      cases hf
      exact s_le.rf
    refine r_callV (Y := M_X7_things) (v := none) X I w_987 my_X7_things (by omega) (t_X7_things (G := G) (d := d + 0) h1) (b_X7_things h1) (e_VX_l hq2) rfl hl.1 rfl (Nat.le_of_ble_eq_true rfl) hn le3 dL_things_2 (fun H locs cells slots I hn1 hn2 => ?_)
    have I : s_I G q1.2 s H locs := I
    have hn : cells + σ0.2.1 ≤ q1.2.2.1 ∧ slots + σ0.2.2.1 ≤ q1.2.2.2.1 := ⟨hn1, hn2⟩
    cases hf
    have k : _ = r := k
    subst k
    refine lv_goto (tgt := 14) hx hb dL_things_5 (by decide) ?_
    refine lv_iconst (v := 0) hx hb dL_things_14 (by decide) ?_
    exact r_iret X I rfl rfl rfl hn dL_things_15
  · rcases s_ite hf with ⟨c4, hf⟩ | ⟨c4, hf⟩
    · subst c4
      have le5 : s_le q1.2 (e_I r).2 := by
        refine s_lek hem_I ?_ k
        cases hf
        exact s_le.rf
      refine r_callVh (x := (0, 5, 8, 13)) (Y := M_X7_things) (E := "java/lang/IllegalArgumentException") (name := "java/lang/IllegalArgumentException") X I [] [(0, 5, 11, 21)] rfl (fun z hz => by cases hz) rfl (by decide) w_691 (by decide +kernel) w_987 my_X7_things (by omega) (t_X7_things (G := G) (d := d + 0) h1) (b_X7_things h1) (e_VX_r hq2) rfl hl.1 rfl (Nat.le_of_ble_eq_true rfl) hn le5 dL_things_2 (fun a4 H locs cells slots I hn1 hn2 => ?_)
      have I : s_I G q1.2 s H locs := I
      have hn : cells + σ0.2.1 ≤ q1.2.2.1 ∧ slots + σ0.2.2.1 ≤ q1.2.2.2.1 := ⟨hn1, hn2⟩
      cases hf
      have k : _ = r := k
      subst k
      refine lv_astore_n (lv' := [(2, .ref a4), (0, .ref v0), (1, .int v1)]) hx hb dL_things_8 rfl hl (by decide) rfl (fun ls hl => ?_)
      refine lv_iconst (v := 1) hx hb dL_things_9 (by decide) ?_
      exact r_iret X I rfl rfl rfl hn dL_things_10
    rcases s_ite hf with ⟨c6, hf⟩ | ⟨c6, hf⟩
    · subst c6
      have le7 : s_le q1.2 (e_I r).2 := by
        refine s_lek hem_I ?_ k
        cases hf
        exact s_le.rf
      refine r_callVh (x := (0, 5, 11, 21)) (Y := M_X7_things) (E := "java/lang/IllegalStateException") (name := "java/lang/IllegalStateException") X I [(0, 5, 8, 13)] [] rfl hp_L_things_2_1 rfl (by decide) w_986 (by decide +kernel) w_987 my_X7_things (by omega) (t_X7_things (G := G) (d := d + 0) h1) (b_X7_things h1) (e_VX_r hq2) rfl hl.1 rfl (Nat.le_of_ble_eq_true rfl) hn le7 dL_things_2 (fun a5 H locs cells slots I hn1 hn2 => ?_)
      have I : s_I G q1.2 s H locs := I
      have hn : cells + σ0.2.1 ≤ q1.2.2.1 ∧ slots + σ0.2.2.1 ≤ q1.2.2.2.1 := ⟨hn1, hn2⟩
      cases hf
      have k : _ = r := k
      subst k
      refine lv_astore_n (lv' := [(2, .ref a5), (0, .ref v0), (1, .int v1)]) hx hb dL_things_11 rfl hl (by decide) rfl (fun ls hl => ?_)
      refine lv_iconst (v := 2) hx hb dL_things_12 (by decide) ?_
      exact r_iret X I rfl rfl rfl hn dL_things_13
    cases hf
theorem v_L_things {G : sG} {d : Nat} {vs0 : List Value} {σ0 : sS} {x : sL} {z : sZ Int32} {r : Int32 × sS} (hs : S_L_things x = some z) (k : s_K G (d + 2) M_L_things vs0 σ0 Y_L_things e_I z r) : s_V G (d + 2) M_L_things vs0 σ0 Y_L_things x (e_I r) := by
  obtain ⟨pc, vs, σ⟩ := x
  unfold S_L_things at hs
  dsimp only at hs
  rcases s_ite hs with ⟨c, hs⟩ | ⟨-, hs⟩
  · subst c
    unfold U_L_things_0 at hs
    obtain ⟨a0, g0, hs⟩ := s_bind hs
    obtain ⟨a1, g1, hs⟩ := s_bind hs
    obtain ⟨u9, ge, hs⟩ := s_bind hs
    rw [g_r_to g0, g_i_to g1, g_e_to ge]
    exact v_L_things_0 hs k
  cases hs
theorem t_L_things {G : sG} {d : Nat} {v0 : Nat} {v1 : Int32} {σ : sS} {q : Int32 × sS} (h : F_L_things v0 v1 σ = some q) : s_T G (d + 2) M_L_things [.ref v0, .int v1] σ (e_I q) := by
  unfold F_L_things at h
  exact s_ofVH rfl (by decide) (Nat.le_of_ble_eq_true rfl) rfl rfl (s_run_ind (V := fun x r => s_V G (d + 2) M_L_things [.ref v0, .int v1] σ Y_L_things x (e_I r)) (fun x z r hs hk => v_L_things hs (by cases z <;> exact hk)) h)
/-! X8_in -/
noncomputable def T_X8_in_0 (v0 : Int32) (v1 : Int32) (v2 : Int32) (σ : sS) : Option (sZ Int32) :=
  if v0 < v1 then (some (.inr (0, σ)))
  else (if v2 < v0 then (some (.inr (0, σ)))
  else (some (.inr (1, σ))))
noncomputable def U_X8_in_0 (vs : List Value) (σ : sS) : Option (sZ Int32) := (g_i vs).bind fun a0 => (g_i a0.2).bind fun a1 => (g_i a1.2).bind fun a2 => (g_e a2.2).bind fun _ => T_X8_in_0 a0.1 a1.1 a2.1 σ
noncomputable def S_X8_in (x : sL) : Option (sZ Int32) := if x.1 = 0 then U_X8_in_0 x.2.1 x.2.2 else none
def Y_X8_in (pc : Nat) : List Nat := if pc = 0 then [0, 1, 2] else []
noncomputable def F_X8_in (v0 : Int32) (v1 : Int32) (v2 : Int32) (σ : sS) : Option (Int32 × sS) := s_run S_X8_in (0, [.int v0, .int v1, .int v2], σ)
theorem l_X8_in_0 {v0 : Int32} {v1 : Int32} {v2 : Int32} {σ : sS} {z : sZ Int32} (hf : T_X8_in_0 v0 v1 v2 σ = some z) : s_lz σ z := by
  unfold T_X8_in_0 at hf
  rcases s_ite hf with ⟨-, hf⟩ | ⟨-, hf⟩
  · cases hf
    exact s_le.rf
  · rcases s_ite hf with ⟨-, hf⟩ | ⟨-, hf⟩
    · cases hf
      exact s_le.rf
    · cases hf
      exact s_le.rf
theorem l_X8_in_s {x : sL} {z : sZ Int32} (hs : S_X8_in x = some z) : s_lz x.2.2 z := by
  obtain ⟨pc, vs, σ⟩ := x
  unfold S_X8_in at hs
  dsimp only at hs ⊢
  rcases s_ite hs with ⟨c, hs⟩ | ⟨-, hs⟩
  · subst c
    unfold U_X8_in_0 at hs
    obtain ⟨a0, g0, hs⟩ := s_bind hs
    obtain ⟨a1, g1, hs⟩ := s_bind hs
    obtain ⟨a2, g2, hs⟩ := s_bind hs
    obtain ⟨u9, ge, hs⟩ := s_bind hs
    exact l_X8_in_0 hs
  cases hs
theorem l_X8_in {v0 : Int32} {v1 : Int32} {v2 : Int32} {σ : sS} {q : Int32 × sS} (h : F_X8_in v0 v1 v2 σ = some q) : s_le σ q.2 := by
  unfold F_X8_in at h
  exact s_run_ind (V := fun x r => s_le x.2.2 r.2) (fun x z r hs hk => by
    have h9 := l_X8_in_s hs
    cases z with
    | inl y => exact s_le.tr h9 hk
    | inr q => cases hk; exact h9) h
set_option maxRecDepth 100000 in
set_option maxHeartbeats 4000000 in
theorem v_X8_in_0 {G : sG} {d : Nat} {vs0 : List Value} {σ0 : sS} {v0 : Int32} {v1 : Int32} {v2 : Int32} {σ : sS} {z : sZ Int32} {r : Int32 × sS} (hf : T_X8_in_0 v0 v1 v2 σ = some z) (k : s_K G (d + 1) M_X8_in vs0 σ0 Y_X8_in e_I z r) : s_V G (d + 1) M_X8_in vs0 σ0 Y_X8_in (0, [.int v0, .int v1, .int v2], σ) (e_I r) := by
  have le0 : s_le σ (e_I r).2 := s_lek hem_I (l_X8_in_0 hf) k
  refine ⟨le0, ?_⟩
  intro p e s m below meth c H locs cells slots ls X I hn1 hn2 hl
  have hn : cells + σ0.2.1 ≤ σ.2.1 ∧ slots + σ0.2.2.1 ≤ σ.2.2.1 := ⟨hn1, hn2⟩
  have hl : lv_has ls 3 [(0, .int v0), (1, .int v1), (2, .int v2)] := hl
  have hx := X.1
  have hb : c.code = cX8_in := X.2.1
  have hown : s.vm.findClass RX8 = some m.cls := X.2.2.2.2.2.1
  have hts := X.2.2.2.2.2.2.1
  refine W.eq (g2 := F0 m 0 ls []) rfl ?_
  unfold T_X8_in_0 at hf
  refine lv_iload_n hx hb dX8_in_0 rfl (lv_at hl 0 rfl) ?_
  refine lv_iload_n hx hb dX8_in_1 rfl (lv_at hl 1 rfl) ?_
  rcases s_ite hf with ⟨c1, hf⟩ | ⟨c1, hf⟩
  · refine lv_icmp_lt (tgt := 14) hx hb dX8_in_2 (by decide) (fun _ => ?_) (fun n => absurd c1 n)
    cases hf
    have k : _ = r := k
    subst k
    refine lv_iconst (v := 0) hx hb dX8_in_14 (by decide) ?_
    exact r_iret X I rfl rfl rfl hn dX8_in_15
  · refine lv_icmp_lt (tgt := 14) hx hb dX8_in_2 (by decide) (fun n => absurd n c1) (fun _ => ?_)
    refine lv_iload_n hx hb dX8_in_5 rfl (lv_at hl 0 rfl) ?_
    refine lv_iload_n hx hb dX8_in_6 rfl (lv_at hl 2 rfl) ?_
    rcases s_ite hf with ⟨c2, hf⟩ | ⟨c2, hf⟩
    · refine lv_icmp_gt (tgt := 14) hx hb dX8_in_7 (by decide) (fun _ => ?_) (fun n => absurd c2 n)
      cases hf
      have k : _ = r := k
      subst k
      refine lv_iconst (v := 0) hx hb dX8_in_14 (by decide) ?_
      exact r_iret X I rfl rfl rfl hn dX8_in_15
    · refine lv_icmp_gt (tgt := 14) hx hb dX8_in_7 (by decide) (fun n => absurd n c2) (fun _ => ?_)
      cases hf
      have k : _ = r := k
      subst k
      refine lv_iconst (v := 1) hx hb dX8_in_10 (by decide) ?_
      refine lv_goto (tgt := 15) hx hb dX8_in_11 (by decide) ?_
      exact r_iret X I rfl rfl rfl hn dX8_in_15
theorem v_X8_in {G : sG} {d : Nat} {vs0 : List Value} {σ0 : sS} {x : sL} {z : sZ Int32} {r : Int32 × sS} (hs : S_X8_in x = some z) (k : s_K G (d + 1) M_X8_in vs0 σ0 Y_X8_in e_I z r) : s_V G (d + 1) M_X8_in vs0 σ0 Y_X8_in x (e_I r) := by
  obtain ⟨pc, vs, σ⟩ := x
  unfold S_X8_in at hs
  dsimp only at hs
  rcases s_ite hs with ⟨c, hs⟩ | ⟨-, hs⟩
  · subst c
    unfold U_X8_in_0 at hs
    obtain ⟨a0, g0, hs⟩ := s_bind hs
    obtain ⟨a1, g1, hs⟩ := s_bind hs
    obtain ⟨a2, g2, hs⟩ := s_bind hs
    obtain ⟨u9, ge, hs⟩ := s_bind hs
    rw [g_i_to g0, g_i_to g1, g_i_to g2, g_e_to ge]
    exact v_X8_in_0 hs k
  cases hs
theorem t_X8_in {G : sG} {d : Nat} {v0 : Int32} {v1 : Int32} {v2 : Int32} {σ : sS} {q : Int32 × sS} (h : F_X8_in v0 v1 v2 σ = some q) : s_T G (d + 1) M_X8_in [.int v0, .int v1, .int v2] σ (e_I q) := by
  unfold F_X8_in at h
  exact s_ofV rfl (by decide) (Nat.le_of_ble_eq_true rfl) rfl rfl (s_run_ind (V := fun x r => s_V G (d + 1) M_X8_in [.int v0, .int v1, .int v2] σ Y_X8_in x (e_I r)) (fun x z r hs hk => v_X8_in hs (by cases z <;> exact hk)) h)
/-! X8_things -/
noncomputable def T_X8_things_0 (v0 : Nat) (v1 : Int32) (σ : sS) : Option (sZ Unit) :=
  (s_pf σ v0 8 0 (.int 0)).bind fun σ1 =>
  (F_X8_in v1 1 3 σ1).bind fun q2 =>
  if q2.1 = 0 then (some (.inl (20, [.ref v0, .int v1, .int 1, .ref v0], q2.2)))
  else (some (.inl (20, [.ref v0, .int v1, .int 0, .ref v0], q2.2)))
noncomputable def U_X8_things_0 (vs : List Value) (σ : sS) : Option (sZ Unit) := (g_r vs).bind fun a0 => (g_i a0.2).bind fun a1 => (g_e a1.2).bind fun _ => T_X8_things_0 a0.1 a1.1 σ
noncomputable def T_X8_things_20 (v0 : Nat) (v1 : Int32) (w0 : Int32) (w1 : Nat) (σ : sS) : Option (sZ Unit) :=
  (F_X8_throwsIf w1 w0 1 σ).bind fun q1 =>
  if q1.1 = 0 then ((F_X8_formulas v0 q1.2).bind fun q2 =>
  if q2.1 ≤ 0 then (some (.inl (40, [.ref v0, .int v1, .int 0, .ref v0], q2.2)))
  else (some (.inl (40, [.ref v0, .int v1, .int 1, .ref v0], q2.2))))
  else (some (.inr ((), q1.2)))
noncomputable def U_X8_things_20 (vs : List Value) (σ : sS) : Option (sZ Unit) := (g_r vs).bind fun a0 => (g_i a0.2).bind fun a1 => (g_i a1.2).bind fun a2 => (g_r a2.2).bind fun a3 => (g_e a3.2).bind fun _ => T_X8_things_20 a0.1 a1.1 a2.1 a3.1 σ
noncomputable def T_X8_things_40 (v0 : Nat) (v1 : Int32) (w0 : Int32) (w1 : Nat) (σ : sS) : Option (sZ Unit) :=
  (F_X8_throwsIf w1 w0 2 σ).bind fun q1 =>
  if q1.1 = 0 then ((s_fr q1.2 v0 8 1).bind fun x2 =>
  (s_si q1.2 x2 0 v1).bind fun σ3 =>
  some (.inr ((), σ3)))
  else (some (.inr ((), q1.2)))
noncomputable def U_X8_things_40 (vs : List Value) (σ : sS) : Option (sZ Unit) := (g_r vs).bind fun a0 => (g_i a0.2).bind fun a1 => (g_i a1.2).bind fun a2 => (g_r a2.2).bind fun a3 => (g_e a3.2).bind fun _ => T_X8_things_40 a0.1 a1.1 a2.1 a3.1 σ
noncomputable def S_X8_things (x : sL) : Option (sZ Unit) := if x.1 = 0 then U_X8_things_0 x.2.1 x.2.2 else if x.1 = 20 then U_X8_things_20 x.2.1 x.2.2 else if x.1 = 40 then U_X8_things_40 x.2.1 x.2.2 else none
def Y_X8_things (pc : Nat) : List Nat := if pc = 0 then [0, 1] else if pc = 20 then [0, 1] else if pc = 40 then [0, 1] else []
noncomputable def F_X8_things (v0 : Nat) (v1 : Int32) (σ : sS) : Option (Unit × sS) := (s_is σ v0 8).bind fun _ => s_run S_X8_things (0, [.ref v0, .int v1], σ)
theorem l_X8_things_0 {v0 : Nat} {v1 : Int32} {σ : sS} {z : sZ Unit} (hf : T_X8_things_0 v0 v1 σ = some z) : s_lz σ z := by
  unfold T_X8_things_0 at hf
  obtain ⟨σ1, hh, hf⟩ := s_bind hf
  refine s_lz.tr (s_le2 (s_pf_2 hh)) ?_
  obtain ⟨q2, hh, hf⟩ := s_bind hf
  refine s_lz.tr (l_X8_in hh) ?_
  rcases s_ite hf with ⟨-, hf⟩ | ⟨-, hf⟩
  · cases hf
    exact s_le.rf
  · cases hf
    exact s_le.rf
theorem l_X8_things_20 {v0 : Nat} {v1 : Int32} {w0 : Int32} {w1 : Nat} {σ : sS} {z : sZ Unit} (hf : T_X8_things_20 v0 v1 w0 w1 σ = some z) : s_lz σ z := by
  unfold T_X8_things_20 at hf
  obtain ⟨q1, hh, hf⟩ := s_bind hf
  refine s_lz.tr (l_X8_throwsIf hh) ?_
  rcases s_ite hf with ⟨-, hf⟩ | ⟨-, hf⟩
  · obtain ⟨q2, hh, hf⟩ := s_bind hf
    refine s_lz.tr (l_X8_formulas hh) ?_
    rcases s_ite hf with ⟨-, hf⟩ | ⟨-, hf⟩
    · cases hf
      exact s_le.rf
    · cases hf
      exact s_le.rf
  · cases hf
    exact s_le.rf
theorem l_X8_things_40 {v0 : Nat} {v1 : Int32} {w0 : Int32} {w1 : Nat} {σ : sS} {z : sZ Unit} (hf : T_X8_things_40 v0 v1 w0 w1 σ = some z) : s_lz σ z := by
  unfold T_X8_things_40 at hf
  obtain ⟨q1, hh, hf⟩ := s_bind hf
  refine s_lz.tr (l_X8_throwsIf hh) ?_
  rcases s_ite hf with ⟨-, hf⟩ | ⟨-, hf⟩
  · obtain ⟨x2, -, hf⟩ := s_bind hf
    obtain ⟨σ3, hh, hf⟩ := s_bind hf
    refine s_lz.tr (s_le2 (s_si_2 hh)) ?_
    cases hf
    exact s_le.rf
  · cases hf
    exact s_le.rf
theorem l_X8_things_s {x : sL} {z : sZ Unit} (hs : S_X8_things x = some z) : s_lz x.2.2 z := by
  obtain ⟨pc, vs, σ⟩ := x
  unfold S_X8_things at hs
  dsimp only at hs ⊢
  rcases s_ite hs with ⟨c, hs⟩ | ⟨-, hs⟩
  · subst c
    unfold U_X8_things_0 at hs
    obtain ⟨a0, g0, hs⟩ := s_bind hs
    obtain ⟨a1, g1, hs⟩ := s_bind hs
    obtain ⟨u9, ge, hs⟩ := s_bind hs
    exact l_X8_things_0 hs
  rcases s_ite hs with ⟨c, hs⟩ | ⟨-, hs⟩
  · subst c
    unfold U_X8_things_20 at hs
    obtain ⟨a0, g0, hs⟩ := s_bind hs
    obtain ⟨a1, g1, hs⟩ := s_bind hs
    obtain ⟨a2, g2, hs⟩ := s_bind hs
    obtain ⟨a3, g3, hs⟩ := s_bind hs
    obtain ⟨u9, ge, hs⟩ := s_bind hs
    exact l_X8_things_20 hs
  rcases s_ite hs with ⟨c, hs⟩ | ⟨-, hs⟩
  · subst c
    unfold U_X8_things_40 at hs
    obtain ⟨a0, g0, hs⟩ := s_bind hs
    obtain ⟨a1, g1, hs⟩ := s_bind hs
    obtain ⟨a2, g2, hs⟩ := s_bind hs
    obtain ⟨a3, g3, hs⟩ := s_bind hs
    obtain ⟨u9, ge, hs⟩ := s_bind hs
    exact l_X8_things_40 hs
  cases hs
theorem l_X8_things {v0 : Nat} {v1 : Int32} {σ : sS} {q : Unit × sS} (h : F_X8_things v0 v1 σ = some q) : s_le σ q.2 := by
  unfold F_X8_things at h
  obtain ⟨-, -, h⟩ := s_bind h
  exact s_run_ind (V := fun x r => s_le x.2.2 r.2) (fun x z r hs hk => by
    have h9 := l_X8_things_s hs
    cases z with
    | inl y => exact s_le.tr h9 hk
    | inr q => cases hk; exact h9) h
theorem b_X8_things {v0 : Nat} {v1 : Int32} {σ : sS} {q : Unit × sS} (h : F_X8_things v0 v1 σ = some q) : ∃ fs, σ.1 v0 = some (.inr (8, fs)) := by
  unfold F_X8_things at h
  obtain ⟨u, hu, -⟩ := s_bind h
  exact s_is_to hu
set_option maxRecDepth 100000 in
set_option maxHeartbeats 4000000 in
theorem v_X8_things_0 {G : sG} {d : Nat} {vs0 : List Value} {σ0 : sS} {v0 : Nat} {v1 : Int32} {σ : sS} {z : sZ Unit} {r : Unit × sS} (hf : T_X8_things_0 v0 v1 σ = some z) (k : s_K G (d + 2) M_X8_things vs0 σ0 Y_X8_things e_V z r) : s_V G (d + 2) M_X8_things vs0 σ0 Y_X8_things (0, [.ref v0, .int v1], σ) (e_V r) := by
  have le0 : s_le σ (e_V r).2 := s_lek hem_V (l_X8_things_0 hf) k
  refine ⟨le0, ?_⟩
  intro p e s m below meth c H locs cells slots ls X I hn1 hn2 hl
  have hn : cells + σ0.2.1 ≤ σ.2.1 ∧ slots + σ0.2.2.1 ≤ σ.2.2.1 := ⟨hn1, hn2⟩
  have hl : lv_has ls 2 [(0, .ref v0), (1, .int v1)] := hl
  have hx := X.1
  have hb : c.code = cX8_things := X.2.1
  have hown : s.vm.findClass RX8 = some m.cls := X.2.2.2.2.2.1
  have hts := X.2.2.2.2.2.2.1
  refine W.eq (g2 := F0 m 0 ls []) rfl ?_
  unfold T_X8_things_0 at hf
  obtain ⟨σ1, h1, hf⟩ := s_bind hf
  obtain ⟨q2, h2, hf⟩ := s_bind hf
  have le3 : s_le q2.2 (e_V r).2 := by
    refine s_lek hem_V ?_ k
    rcases s_ite hf with ⟨-, hf⟩ | ⟨-, hf⟩
    · cases hf
      exact s_le.rf
    · cases hf
      exact s_le.rf
  have le4 := s_le.tr (l_X8_in h2) le3
  refine lv_aload_n hx hb dX8_things_0 rfl (lv_at hl 0 rfl) ?_
  refine lv_iconst (v := 0) hx hb dX8_things_1 (by decide) ?_
  refine r_put X I fp_X8_3 (fun h => by cases h) h1 rfl rfl dX8_things_2 (fun H locs I => ?_)
  have hn := s_k2 (s_pf_2 h1) hn
  refine lv_aload_n hx hb dX8_things_5 rfl (lv_at hl 0 rfl) ?_
  refine lv_iload_n hx hb dX8_things_6 rfl (lv_at hl 1 rfl) ?_
  refine lv_iconst (v := 1) hx hb dX8_things_7 (by decide) ?_
  refine lv_iconst (v := 3) hx hb dX8_things_8 (by decide) ?_
  refine r_callS (Y := M_X8_in) (v := some (.int q2.1)) X I w_1909 my_X8_in (by omega) (t_X8_in (G := G) (d := d + 0) h2) rfl rfl hl.1 rfl (Nat.le_of_ble_eq_true rfl) hn le3 dX8_things_9 (fun H locs cells slots I hn1 hn2 => ?_)
  have I : s_I G q2.2 s H locs := I
  have hn : cells + σ0.2.1 ≤ q2.2.2.1 ∧ slots + σ0.2.2.1 ≤ q2.2.2.2.1 := ⟨hn1, hn2⟩
  rcases s_ite hf with ⟨c5, hf⟩ | ⟨c5, hf⟩
  · refine lv_if_ne (tgt := 19) hx hb dX8_things_12 (by decide) (fun n => absurd c5 n) (fun _ => ?_)
    cases hf
    have k : s_V G (d + 2) M_X8_things vs0 σ0 Y_X8_things (20, [.ref v0, .int v1, .int 1, .ref v0], q2.2) (e_V r) := k
    refine lv_iconst (v := 1) hx hb dX8_things_15 (by decide) ?_
    refine lv_goto (tgt := 20) hx hb dX8_things_16 (by decide) ?_
    exact k.2 p e s m below meth c _ _ _ _ _ X I hn.1 hn.2 (lv_sub hl [0, 1] rfl)
  · refine lv_if_ne (tgt := 19) hx hb dX8_things_12 (by decide) (fun _ => ?_) (fun n => absurd n c5)
    cases hf
    have k : s_V G (d + 2) M_X8_things vs0 σ0 Y_X8_things (20, [.ref v0, .int v1, .int 0, .ref v0], q2.2) (e_V r) := k
    refine lv_iconst (v := 0) hx hb dX8_things_19 (by decide) ?_
    exact k.2 p e s m below meth c _ _ _ _ _ X I hn.1 hn.2 (lv_sub hl [0, 1] rfl)
set_option maxRecDepth 100000 in
set_option maxHeartbeats 4000000 in
theorem v_X8_things_20 {G : sG} {d : Nat} {vs0 : List Value} {σ0 : sS} {v0 : Nat} {v1 : Int32} {w0 : Int32} {w1 : Nat} {σ : sS} {z : sZ Unit} {r : Unit × sS} (hf : T_X8_things_20 v0 v1 w0 w1 σ = some z) (k : s_K G (d + 2) M_X8_things vs0 σ0 Y_X8_things e_V z r) : s_V G (d + 2) M_X8_things vs0 σ0 Y_X8_things (20, [.ref v0, .int v1, .int w0, .ref w1], σ) (e_V r) := by
  have le0 : s_le σ (e_V r).2 := s_lek hem_V (l_X8_things_20 hf) k
  refine ⟨le0, ?_⟩
  intro p e s m below meth c H locs cells slots ls X I hn1 hn2 hl
  have hn : cells + σ0.2.1 ≤ σ.2.1 ∧ slots + σ0.2.2.1 ≤ σ.2.2.1 := ⟨hn1, hn2⟩
  have hl : lv_has ls 2 [(0, .ref v0), (1, .int v1)] := hl
  have hx := X.1
  have hb : c.code = cX8_things := X.2.1
  have hown : s.vm.findClass RX8 = some m.cls := X.2.2.2.2.2.1
  have hts := X.2.2.2.2.2.2.1
  refine W.eq (g2 := F0 m 20 ls [.int w0, .ref w1]) rfl ?_
  unfold T_X8_things_20 at hf
  obtain ⟨q1, h1, hf⟩ := s_bind hf
  have le2 : s_le q1.2 (e_V r).2 := by
    refine s_lek hem_V ?_ k
    rcases s_ite hf with ⟨-, hf⟩ | ⟨-, hf⟩
    · obtain ⟨q2, hh, hf⟩ := s_bind hf
      refine s_lz.tr (l_X8_formulas hh) ?_
      rcases s_ite hf with ⟨-, hf⟩ | ⟨-, hf⟩
      · cases hf
        exact s_le.rf
      · cases hf
        exact s_le.rf
    · cases hf
      exact s_le.rf
  refine lv_iconst (v := 1) hx hb dX8_things_20 (by decide) ?_
  refine r_callV (Y := M_X8_throwsIf) (v := some (.int q1.1)) X I w_1897 my_X8_throwsIf (by omega) (t_X8_throwsIf (G := G) (d := d + 0) h1) (b_X8_throwsIf h1) rfl rfl hl.1 rfl (Nat.le_of_ble_eq_true rfl) hn le2 dX8_things_21 (fun H locs cells slots I hn1 hn2 => ?_)
  have I : s_I G q1.2 s H locs := I
  have hn : cells + σ0.2.1 ≤ q1.2.2.1 ∧ slots + σ0.2.2.1 ≤ q1.2.2.2.1 := ⟨hn1, hn2⟩
  rcases s_ite hf with ⟨c3, hf⟩ | ⟨c3, hf⟩
  · refine lv_if_ne (tgt := 47) hx hb dX8_things_24 (by decide) (fun n => absurd c3 n) (fun _ => ?_)
    obtain ⟨q2, h4, hf⟩ := s_bind hf
    have le5 : s_le q2.2 (e_V r).2 := by
      refine s_lek hem_V ?_ k
      rcases s_ite hf with ⟨-, hf⟩ | ⟨-, hf⟩
      · cases hf
        exact s_le.rf
      · cases hf
        exact s_le.rf
    refine lv_aload_n hx hb dX8_things_27 rfl (lv_at hl 0 rfl) ?_
    refine lv_aload_n hx hb dX8_things_28 rfl (lv_at hl 0 rfl) ?_
    refine r_callV (Y := M_X8_formulas) (v := some (.int q2.1)) X I w_1813 my_X8_formulas (by omega) (t_X8_formulas (G := G) (d := d + 0) h4) (b_X8_formulas h4) rfl rfl hl.1 rfl (Nat.le_of_ble_eq_true rfl) hn le5 dX8_things_29 (fun H locs cells slots I hn1 hn2 => ?_)
    have I : s_I G q2.2 s H locs := I
    have hn : cells + σ0.2.1 ≤ q2.2.2.1 ∧ slots + σ0.2.2.1 ≤ q2.2.2.2.1 := ⟨hn1, hn2⟩
    rcases s_ite hf with ⟨c6, hf⟩ | ⟨c6, hf⟩
    · refine lv_if_le (tgt := 39) hx hb dX8_things_32 (by decide) (fun _ => ?_) (fun n => absurd c6 n)
      cases hf
      have k : s_V G (d + 2) M_X8_things vs0 σ0 Y_X8_things (40, [.ref v0, .int v1, .int 0, .ref v0], q2.2) (e_V r) := k
      refine lv_iconst (v := 0) hx hb dX8_things_39 (by decide) ?_
      exact k.2 p e s m below meth c _ _ _ _ _ X I hn.1 hn.2 (lv_sub hl [0, 1] rfl)
    · refine lv_if_le (tgt := 39) hx hb dX8_things_32 (by decide) (fun n => absurd n c6) (fun _ => ?_)
      cases hf
      have k : s_V G (d + 2) M_X8_things vs0 σ0 Y_X8_things (40, [.ref v0, .int v1, .int 1, .ref v0], q2.2) (e_V r) := k
      refine lv_iconst (v := 1) hx hb dX8_things_35 (by decide) ?_
      refine lv_goto (tgt := 40) hx hb dX8_things_36 (by decide) ?_
      exact k.2 p e s m below meth c _ _ _ _ _ X I hn.1 hn.2 (lv_sub hl [0, 1] rfl)
  · refine lv_if_ne (tgt := 47) hx hb dX8_things_24 (by decide) (fun _ => ?_) (fun n => absurd n c3)
    cases hf
    have k : _ = r := k
    subst k
    exact r_vret X I rfl rfl hn dX8_things_47
set_option maxRecDepth 100000 in
set_option maxHeartbeats 4000000 in
theorem v_X8_things_40 {G : sG} {d : Nat} {vs0 : List Value} {σ0 : sS} {v0 : Nat} {v1 : Int32} {w0 : Int32} {w1 : Nat} {σ : sS} {z : sZ Unit} {r : Unit × sS} (hf : T_X8_things_40 v0 v1 w0 w1 σ = some z) (k : s_K G (d + 2) M_X8_things vs0 σ0 Y_X8_things e_V z r) : s_V G (d + 2) M_X8_things vs0 σ0 Y_X8_things (40, [.ref v0, .int v1, .int w0, .ref w1], σ) (e_V r) := by
  have le0 : s_le σ (e_V r).2 := s_lek hem_V (l_X8_things_40 hf) k
  refine ⟨le0, ?_⟩
  intro p e s m below meth c H locs cells slots ls X I hn1 hn2 hl
  have hn : cells + σ0.2.1 ≤ σ.2.1 ∧ slots + σ0.2.2.1 ≤ σ.2.2.1 := ⟨hn1, hn2⟩
  have hl : lv_has ls 2 [(0, .ref v0), (1, .int v1)] := hl
  have hx := X.1
  have hb : c.code = cX8_things := X.2.1
  have hown : s.vm.findClass RX8 = some m.cls := X.2.2.2.2.2.1
  have hts := X.2.2.2.2.2.2.1
  refine W.eq (g2 := F0 m 40 ls [.int w0, .ref w1]) rfl ?_
  unfold T_X8_things_40 at hf
  obtain ⟨q1, h1, hf⟩ := s_bind hf
  have le2 : s_le q1.2 (e_V r).2 := by
    refine s_lek hem_V ?_ k
    rcases s_ite hf with ⟨-, hf⟩ | ⟨-, hf⟩
    · obtain ⟨x2, -, hf⟩ := s_bind hf
      obtain ⟨σ3, hh, hf⟩ := s_bind hf
      refine s_lz.tr (s_le2 (s_si_2 hh)) ?_
      cases hf
      exact s_le.rf
    · cases hf
      exact s_le.rf
  refine lv_iconst (v := 2) hx hb dX8_things_40 (by decide) ?_
  refine r_callV (Y := M_X8_throwsIf) (v := some (.int q1.1)) X I w_1897 my_X8_throwsIf (by omega) (t_X8_throwsIf (G := G) (d := d + 0) h1) (b_X8_throwsIf h1) rfl rfl hl.1 rfl (Nat.le_of_ble_eq_true rfl) hn le2 dX8_things_41 (fun H locs cells slots I hn1 hn2 => ?_)
  have I : s_I G q1.2 s H locs := I
  have hn : cells + σ0.2.1 ≤ q1.2.2.1 ∧ slots + σ0.2.2.1 ≤ q1.2.2.2.1 := ⟨hn1, hn2⟩
  rcases s_ite hf with ⟨c3, hf⟩ | ⟨c3, hf⟩
  · refine lv_if_eq (tgt := 48) hx hb dX8_things_44 (by decide) (fun _ => ?_) (fun n => absurd c3 n)
    obtain ⟨x2, h4, hf⟩ := s_bind hf
    obtain ⟨σ3, h5, hf⟩ := s_bind hf
    cases hf
    have k : _ = r := k
    subst k
    have le6 : s_le σ3 σ3 := s_le.rf
    refine lv_aload_n hx hb dX8_things_48 rfl (lv_at hl 0 rfl) ?_
    refine r_gr X I fl_X8_13 h4 dX8_things_49 ?_
    refine lv_iconst (v := 0) hx hb dX8_things_52 (by decide) ?_
    refine lv_iload_n hx hb dX8_things_53 rfl (lv_at hl 1 rfl) ?_
    refine r_iast X I h5 dX8_things_54 (fun H locs I => ?_)
    have hn := s_k2 (s_si_2 h5) hn
    exact r_vret X I rfl rfl hn dX8_things_55
  · refine lv_if_eq (tgt := 48) hx hb dX8_things_44 (by decide) (fun n => absurd n c3) (fun _ => ?_)
    cases hf
    have k : _ = r := k
    subst k
    exact r_vret X I rfl rfl hn dX8_things_47
theorem v_X8_things {G : sG} {d : Nat} {vs0 : List Value} {σ0 : sS} {x : sL} {z : sZ Unit} {r : Unit × sS} (hs : S_X8_things x = some z) (k : s_K G (d + 2) M_X8_things vs0 σ0 Y_X8_things e_V z r) : s_V G (d + 2) M_X8_things vs0 σ0 Y_X8_things x (e_V r) := by
  obtain ⟨pc, vs, σ⟩ := x
  unfold S_X8_things at hs
  dsimp only at hs
  rcases s_ite hs with ⟨c, hs⟩ | ⟨-, hs⟩
  · subst c
    unfold U_X8_things_0 at hs
    obtain ⟨a0, g0, hs⟩ := s_bind hs
    obtain ⟨a1, g1, hs⟩ := s_bind hs
    obtain ⟨u9, ge, hs⟩ := s_bind hs
    rw [g_r_to g0, g_i_to g1, g_e_to ge]
    exact v_X8_things_0 hs k
  rcases s_ite hs with ⟨c, hs⟩ | ⟨-, hs⟩
  · subst c
    unfold U_X8_things_20 at hs
    obtain ⟨a0, g0, hs⟩ := s_bind hs
    obtain ⟨a1, g1, hs⟩ := s_bind hs
    obtain ⟨a2, g2, hs⟩ := s_bind hs
    obtain ⟨a3, g3, hs⟩ := s_bind hs
    obtain ⟨u9, ge, hs⟩ := s_bind hs
    rw [g_r_to g0, g_i_to g1, g_i_to g2, g_r_to g3, g_e_to ge]
    exact v_X8_things_20 hs k
  rcases s_ite hs with ⟨c, hs⟩ | ⟨-, hs⟩
  · subst c
    unfold U_X8_things_40 at hs
    obtain ⟨a0, g0, hs⟩ := s_bind hs
    obtain ⟨a1, g1, hs⟩ := s_bind hs
    obtain ⟨a2, g2, hs⟩ := s_bind hs
    obtain ⟨a3, g3, hs⟩ := s_bind hs
    obtain ⟨u9, ge, hs⟩ := s_bind hs
    rw [g_r_to g0, g_i_to g1, g_i_to g2, g_r_to g3, g_e_to ge]
    exact v_X8_things_40 hs k
  cases hs
theorem t_X8_things {G : sG} {d : Nat} {v0 : Nat} {v1 : Int32} {σ : sS} {q : Unit × sS} (h : F_X8_things v0 v1 σ = some q) : s_T G (d + 2) M_X8_things [.ref v0, .int v1] σ (e_V q) := by
  unfold F_X8_things at h
  obtain ⟨-, -, h⟩ := s_bind h
  exact s_ofV rfl (by decide) (Nat.le_of_ble_eq_true rfl) rfl rfl (s_run_ind (V := fun x r => s_V G (d + 2) M_X8_things [.ref v0, .int v1] σ Y_X8_things x (e_V r)) (fun x z r hs hk => v_X8_things hs (by cases z <;> exact hk)) h)
/-! X7_signs -/
noncomputable def T_X7_signs_0 (v0 : Nat) (v1 : Int32) (σ : sS) : Option (sZ (Int32 ⊕ String)) :=
  (F_X7_needFormula v0 v1 σ).bind fun q1 => s_sum q1.1 (fun x2 => (s_fr q1.2 v0 7 0).bind fun x4 =>
  (s_fr q1.2 v0 7 1).bind fun x5 =>
  (F_X1_nodeOf x5 v1 q1.2).bind fun q6 =>
  (F_X2_signsOf x4 q6.1 q6.2).bind fun q7 =>
  some (.inr (.inl q7.1, q7.2))) (fun E3 => some (.inr (.inr E3, q1.2)))
noncomputable def U_X7_signs_0 (vs : List Value) (σ : sS) : Option (sZ (Int32 ⊕ String)) := (g_r vs).bind fun a0 => (g_i a0.2).bind fun a1 => (g_e a1.2).bind fun _ => T_X7_signs_0 a0.1 a1.1 σ
noncomputable def S_X7_signs (x : sL) : Option (sZ (Int32 ⊕ String)) := if x.1 = 0 then U_X7_signs_0 x.2.1 x.2.2 else none
def Y_X7_signs (pc : Nat) : List Nat := if pc = 0 then [0, 1] else []
noncomputable def F_X7_signs (v0 : Nat) (v1 : Int32) (σ : sS) : Option ((Int32 ⊕ String) × sS) := (s_is σ v0 7).bind fun _ => s_run S_X7_signs (0, [.ref v0, .int v1], σ)
theorem l_X7_signs_0 {v0 : Nat} {v1 : Int32} {σ : sS} {z : sZ (Int32 ⊕ String)} (hf : T_X7_signs_0 v0 v1 σ = some z) : s_lz σ z := by
  unfold T_X7_signs_0 at hf
  obtain ⟨q1, hh, hf⟩ := s_bind hf
  refine s_lz.tr (l_X7_needFormula hh) ?_
  rcases s_sum_some hf with ⟨x2, -, hf⟩ | ⟨E3, -, hf⟩
  · obtain ⟨x4, -, hf⟩ := s_bind hf
    obtain ⟨x5, -, hf⟩ := s_bind hf
    obtain ⟨q6, hh, hf⟩ := s_bind hf
    refine s_lz.tr (l_X1_nodeOf hh) ?_
    obtain ⟨q7, hh, hf⟩ := s_bind hf
    refine s_lz.tr (l_X2_signsOf hh) ?_
    cases hf
    exact s_le.rf
  · cases hf
    exact s_le.rf
theorem l_X7_signs_s {x : sL} {z : sZ (Int32 ⊕ String)} (hs : S_X7_signs x = some z) : s_lz x.2.2 z := by
  obtain ⟨pc, vs, σ⟩ := x
  unfold S_X7_signs at hs
  dsimp only at hs ⊢
  rcases s_ite hs with ⟨c, hs⟩ | ⟨-, hs⟩
  · subst c
    unfold U_X7_signs_0 at hs
    obtain ⟨a0, g0, hs⟩ := s_bind hs
    obtain ⟨a1, g1, hs⟩ := s_bind hs
    obtain ⟨u9, ge, hs⟩ := s_bind hs
    exact l_X7_signs_0 hs
  cases hs
theorem l_X7_signs {v0 : Nat} {v1 : Int32} {σ : sS} {q : (Int32 ⊕ String) × sS} (h : F_X7_signs v0 v1 σ = some q) : s_le σ q.2 := by
  unfold F_X7_signs at h
  obtain ⟨-, -, h⟩ := s_bind h
  exact s_run_ind (V := fun x r => s_le x.2.2 r.2) (fun x z r hs hk => by
    have h9 := l_X7_signs_s hs
    cases z with
    | inl y => exact s_le.tr h9 hk
    | inr q => cases hk; exact h9) h
theorem b_X7_signs {v0 : Nat} {v1 : Int32} {σ : sS} {q : (Int32 ⊕ String) × sS} (h : F_X7_signs v0 v1 σ = some q) : ∃ fs, σ.1 v0 = some (.inr (7, fs)) := by
  unfold F_X7_signs at h
  obtain ⟨u, hu, -⟩ := s_bind h
  exact s_is_to hu
set_option maxRecDepth 100000 in
set_option maxHeartbeats 4000000 in
theorem v_X7_signs_0 {G : sG} {d : Nat} {vs0 : List Value} {σ0 : sS} {v0 : Nat} {v1 : Int32} {σ : sS} {z : sZ (Int32 ⊕ String)} {r : (Int32 ⊕ String) × sS} (hf : T_X7_signs_0 v0 v1 σ = some z) (k : s_K G (d + 2) M_X7_signs vs0 σ0 Y_X7_signs e_IX z r) : s_V G (d + 2) M_X7_signs vs0 σ0 Y_X7_signs (0, [.ref v0, .int v1], σ) (e_IX r) := by
  have le0 : s_le σ (e_IX r).2 := s_lek hem_IX (l_X7_signs_0 hf) k
  refine ⟨le0, ?_⟩
  intro p e s m below meth c H locs cells slots ls X I hn1 hn2 hl
  have hn : cells + σ0.2.1 ≤ σ.2.1 ∧ slots + σ0.2.2.1 ≤ σ.2.2.1 := ⟨hn1, hn2⟩
  have hl : lv_has ls 2 [(0, .ref v0), (1, .int v1)] := hl
  have hx := X.1
  have hb : c.code = cX7_signs := X.2.1
  have hown : s.vm.findClass RX7 = some m.cls := X.2.2.2.2.2.1
  have hts := X.2.2.2.2.2.2.1
  refine W.eq (g2 := F0 m 0 ls []) rfl ?_
  unfold T_X7_signs_0 at hf
  obtain ⟨q1, h1, hf⟩ := s_bind hf
  refine lv_aload_n hx hb dX7_signs_0 rfl (lv_at hl 0 rfl) ?_
  refine lv_iload_n hx hb dX7_signs_1 rfl (lv_at hl 1 rfl) ?_
  rcases s_sum_some hf with ⟨x2, hq2, hf⟩ | ⟨E3, hq2, hf⟩
  · have le3 : s_le q1.2 (e_IX r).2 := by
      refine s_lek hem_IX ?_ k
      obtain ⟨x4, -, hf⟩ := s_bind hf
      obtain ⟨x5, -, hf⟩ := s_bind hf
      obtain ⟨q6, hh, hf⟩ := s_bind hf
      refine s_lz.tr (l_X1_nodeOf hh) ?_
      obtain ⟨q7, hh, hf⟩ := s_bind hf
      refine s_lz.tr (l_X2_signsOf hh) ?_
      cases hf
      exact s_le.rf
    refine r_callV (Y := M_X7_needFormula) (v := none) X I w_1016 my_X7_needFormula (by omega) (t_X7_needFormula (G := G) (d := d + 0) h1) (b_X7_needFormula h1) (e_VX_l hq2) rfl hl.1 rfl (Nat.le_of_ble_eq_true rfl) hn le3 dX7_signs_2 (fun H locs cells slots I hn1 hn2 => ?_)
    have I : s_I G q1.2 s H locs := I
    have hn : cells + σ0.2.1 ≤ q1.2.2.1 ∧ slots + σ0.2.2.1 ≤ q1.2.2.2.1 := ⟨hn1, hn2⟩
    obtain ⟨x4, h4, hf⟩ := s_bind hf
    obtain ⟨x5, h5, hf⟩ := s_bind hf
    obtain ⟨q6, h6, hf⟩ := s_bind hf
    obtain ⟨q7, h7, hf⟩ := s_bind hf
    cases hf
    have k : _ = r := k
    subst k
    have le8 : s_le q7.2 q7.2 := s_le.rf
    have le9 := s_le.tr (l_X2_signsOf h7) le8
    refine lv_aload_n hx hb dX7_signs_5 rfl (lv_at hl 0 rfl) ?_
    refine r_gr X I fl_X7_12 h4 dX7_signs_6 ?_
    refine lv_aload_n hx hb dX7_signs_9 rfl (lv_at hl 0 rfl) ?_
    refine r_gr X I fl_X7_19 h5 dX7_signs_10 ?_
    refine lv_iload_n hx hb dX7_signs_13 rfl (lv_at hl 1 rfl) ?_
    refine r_callV (Y := M_X1_nodeOf) (v := some (.int q6.1)) X I w_1036 my_X1_nodeOf (by omega) (t_X1_nodeOf (G := G) (d := d + 0) h6) (b_X1_nodeOf h6) rfl rfl hl.1 rfl (Nat.le_of_ble_eq_true rfl) hn le9 dX7_signs_14 (fun H locs cells slots I hn1 hn2 => ?_)
    have I : s_I G q6.2 s H locs := I
    have hn : cells + σ0.2.1 ≤ q6.2.2.1 ∧ slots + σ0.2.2.1 ≤ q6.2.2.2.1 := ⟨hn1, hn2⟩
    refine r_callV (Y := M_X2_signsOf) (v := some (.int q7.1)) X I w_1037 my_X2_signsOf (by omega) (t_X2_signsOf (G := G) (d := d + 0) h7) (b_X2_signsOf h7) rfl rfl hl.1 rfl (Nat.le_of_ble_eq_true rfl) hn le8 dX7_signs_17 (fun H locs cells slots I hn1 hn2 => ?_)
    have I : s_I G q7.2 s H locs := I
    have hn : cells + σ0.2.1 ≤ q7.2.2.1 ∧ slots + σ0.2.2.1 ≤ q7.2.2.2.1 := ⟨hn1, hn2⟩
    exact r_iret X I rfl rfl rfl hn dX7_signs_20
  · cases hf
    have k : _ = r := k
    subst k
    exact r_callVx (Y := M_X7_needFormula) X I rfl w_1016 my_X7_needFormula (by omega) (t_X7_needFormula (G := G) (d := d + 0) h1) (b_X7_needFormula h1) (e_VX_r hq2) rfl hl.1 rfl (Nat.le_of_ble_eq_true rfl) hn rfl dX7_signs_2
theorem v_X7_signs {G : sG} {d : Nat} {vs0 : List Value} {σ0 : sS} {x : sL} {z : sZ (Int32 ⊕ String)} {r : (Int32 ⊕ String) × sS} (hs : S_X7_signs x = some z) (k : s_K G (d + 2) M_X7_signs vs0 σ0 Y_X7_signs e_IX z r) : s_V G (d + 2) M_X7_signs vs0 σ0 Y_X7_signs x (e_IX r) := by
  obtain ⟨pc, vs, σ⟩ := x
  unfold S_X7_signs at hs
  dsimp only at hs
  rcases s_ite hs with ⟨c, hs⟩ | ⟨-, hs⟩
  · subst c
    unfold U_X7_signs_0 at hs
    obtain ⟨a0, g0, hs⟩ := s_bind hs
    obtain ⟨a1, g1, hs⟩ := s_bind hs
    obtain ⟨u9, ge, hs⟩ := s_bind hs
    rw [g_r_to g0, g_i_to g1, g_e_to ge]
    exact v_X7_signs_0 hs k
  cases hs
theorem t_X7_signs {G : sG} {d : Nat} {v0 : Nat} {v1 : Int32} {σ : sS} {q : (Int32 ⊕ String) × sS} (h : F_X7_signs v0 v1 σ = some q) : s_T G (d + 2) M_X7_signs [.ref v0, .int v1] σ (e_IX q) := by
  unfold F_X7_signs at h
  obtain ⟨-, -, h⟩ := s_bind h
  exact s_ofV rfl (by decide) (Nat.le_of_ble_eq_true rfl) rfl rfl (s_run_ind (V := fun x r => s_V G (d + 2) M_X7_signs [.ref v0, .int v1] σ Y_X7_signs x (e_IX r)) (fun x z r hs hk => v_X7_signs hs (by cases z <;> exact hk)) h)
