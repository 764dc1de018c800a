/-! X8_byRule -/
noncomputable def T_X8_byRule_0 (v0 : Nat) (v1 : Int32) (v2 : Int32) (v3 : Int32) (σ : sS) : Option (sZ Int32) :=
  (s_fi σ v0 8 35).bind fun x1 =>
  (F_X8_hasRule v0 x1 v1 σ).bind fun q2 =>
  if q2.1 = 0 then (some (.inl (41, [.int 268435456], q2.2)))
  else ((F_X8_premisesBy v0 v1 v2 v3 q2.2).bind fun q3 =>
  (s_fi q3.2 v0 8 35).bind fun x4 =>
  (F_X8_costOf v0 x4 v1 (30 + v2) q3.2).bind fun q5 =>
  (F_X8_sum q3.1 q5.1 q5.2).bind fun q6 =>
  some (.inl (41, [.int q6.1], q6.2)))
noncomputable def U_X8_byRule_0 (vs : List Value) (σ : sS) : Option (sZ Int32) := (g_r vs).bind fun a0 => (g_i a0.2).bind fun a1 => (g_i a1.2).bind fun a2 => (g_i a2.2).bind fun a3 => (g_e a3.2).bind fun _ => T_X8_byRule_0 a0.1 a1.1 a2.1 a3.1 σ
noncomputable def T_X8_byRule_41 (w0 : Int32) (σ : sS) : Option (sZ Int32) :=
  if w0 ≤ 99999 then (some (.inr (w0, σ)))
  else (some (.inr (268435456, σ)))
noncomputable def U_X8_byRule_41 (vs : List Value) (σ : sS) : Option (sZ Int32) := (g_i vs).bind fun a0 => (g_e a0.2).bind fun _ => T_X8_byRule_41 a0.1 σ
noncomputable def S_X8_byRule (x : sL) : Option (sZ Int32) := if x.1 = 0 then U_X8_byRule_0 x.2.1 x.2.2 else if x.1 = 41 then U_X8_byRule_41 x.2.1 x.2.2 else none
def Y_X8_byRule (pc : Nat) : List Nat := if pc = 0 then [0, 1, 2, 3] else if pc = 41 then [] else []
noncomputable def F_X8_byRule (v0 : Nat) (v1 : Int32) (v2 : Int32) (v3 : Int32) (σ : sS) : Option (Int32 × sS) := (s_is σ v0 8).bind fun _ => s_run S_X8_byRule (0, [.ref v0, .int v1, .int v2, .int v3], σ)
theorem l_X8_byRule_0 {v0 : Nat} {v1 : Int32} {v2 : Int32} {v3 : Int32} {σ : sS} {z : sZ Int32} (hf : T_X8_byRule_0 v0 v1 v2 v3 σ = some z) : s_lz σ z := by
  unfold T_X8_byRule_0 at hf
  obtain ⟨x1, -, hf⟩ := s_bind hf
  obtain ⟨q2, hh, hf⟩ := s_bind hf
  refine s_lz.tr (l_X8_hasRule hh) ?_
  rcases s_ite hf with ⟨-, hf⟩ | ⟨-, hf⟩
  · cases hf
    exact s_le.rf
  · obtain ⟨q3, hh, hf⟩ := s_bind hf
    refine s_lz.tr (l_X8_premisesBy hh) ?_
    obtain ⟨x4, -, hf⟩ := s_bind hf
    obtain ⟨q5, hh, hf⟩ := s_bind hf
    refine s_lz.tr (l_X8_costOf hh) ?_
    obtain ⟨q6, hh, hf⟩ := s_bind hf
    refine s_lz.tr (l_X8_sum hh) ?_
    cases hf
    exact s_le.rf
theorem l_X8_byRule_41 {w0 : Int32} {σ : sS} {z : sZ Int32} (hf : T_X8_byRule_41 w0 σ = some z) : s_lz σ z := by
  unfold T_X8_byRule_41 at hf
  rcases s_ite hf with ⟨-, hf⟩ | ⟨-, hf⟩
  · cases hf
    exact s_le.rf
  · cases hf
    exact s_le.rf
theorem l_X8_byRule_s {x : sL} {z : sZ Int32} (hs : S_X8_byRule x = some z) : s_lz x.2.2 z := by
  obtain ⟨pc, vs, σ⟩ := x
  unfold S_X8_byRule at hs
  dsimp only at hs ⊢
  rcases s_ite hs with ⟨c, hs⟩ | ⟨-, hs⟩
  · subst c
    unfold U_X8_byRule_0 at hs
    obtain ⟨a0, g0, hs⟩ := s_bind hs
    obtain ⟨a1, g1, hs⟩ := s_bind hs
    obtain ⟨a2, g2, hs⟩ := s_bind hs
    obtain ⟨a3, g3, hs⟩ := s_bind hs
    obtain ⟨u9, ge, hs⟩ := s_bind hs
    exact l_X8_byRule_0 hs
  rcases s_ite hs with ⟨c, hs⟩ | ⟨-, hs⟩
  · subst c
    unfold U_X8_byRule_41 at hs
    obtain ⟨a0, g0, hs⟩ := s_bind hs
    obtain ⟨u9, ge, hs⟩ := s_bind hs
    exact l_X8_byRule_41 hs
  cases hs
theorem l_X8_byRule {v0 : Nat} {v1 : Int32} {v2 : Int32} {v3 : Int32} {σ : sS} {q : Int32 × sS} (h : F_X8_byRule v0 v1 v2 v3 σ = some q) : s_le σ q.2 := by
  unfold F_X8_byRule at h
  obtain ⟨-, -, h⟩ := s_bind h
  exact s_run_ind (V := fun x r => s_le x.2.2 r.2) (fun x z r hs hk => by
    have h9 := l_X8_byRule_s hs
    cases z with
    | inl y => exact s_le.tr h9 hk
    | inr q => cases hk; exact h9) h
theorem b_X8_byRule {v0 : Nat} {v1 : Int32} {v2 : Int32} {v3 : Int32} {σ : sS} {q : Int32 × sS} (h : F_X8_byRule v0 v1 v2 v3 σ = some q) : ∃ fs, σ.1 v0 = some (.inr (8, fs)) := by
  unfold F_X8_byRule at h
  obtain ⟨u, hu, -⟩ := s_bind h
  exact s_is_to hu
set_option maxRecDepth 100000 in
set_option maxHeartbeats 4000000 in
theorem v_X8_byRule_0 {G : sG} {d : Nat} {vs0 : List Value} {σ0 : sS} {v0 : Nat} {v1 : Int32} {v2 : Int32} {v3 : Int32} {σ : sS} {z : sZ Int32} {r : Int32 × sS} (hf : T_X8_byRule_0 v0 v1 v2 v3 σ = some z) (k : s_K G (d + 4) M_X8_byRule vs0 σ0 Y_X8_byRule e_I z r) : s_V G (d + 4) M_X8_byRule vs0 σ0 Y_X8_byRule (0, [.ref v0, .int v1, .int v2, .int v3], σ) (e_I r) := by
  have le0 : s_le σ (e_I r).2 := s_lek hem_I (l_X8_byRule_0 hf) k
  refine ⟨le0, ?_⟩
  intro p e s m below meth c H locs cells slots ls X I hn1 hn2 hl
  have hn : cells + σ0.2.1 ≤ σ.2.1 ∧ slots + σ0.2.2.1 ≤ σ.2.2.1 := ⟨hn1, hn2⟩
  have hl : lv_has ls 5 [(0, .ref v0), (1, .int v1), (2, .int v2), (3, .int v3)] := hl
  have hx := X.1
  have hb : c.code = cX8_byRule := X.2.1
  have hown : s.vm.findClass RX8 = some m.cls := X.2.2.2.2.2.1
  have hts := X.2.2.2.2.2.2.1
  refine W.eq (g2 := F0 m 0 ls []) rfl ?_
  unfold T_X8_byRule_0 at hf
  obtain ⟨x1, h1, hf⟩ := s_bind hf
  obtain ⟨q2, h2, hf⟩ := s_bind hf
  have le3 : s_le q2.2 (e_I r).2 := by
    refine s_lek hem_I ?_ k
    rcases s_ite hf with ⟨-, hf⟩ | ⟨-, hf⟩
    · cases hf
      exact s_le.rf
    · obtain ⟨q3, hh, hf⟩ := s_bind hf
      refine s_lz.tr (l_X8_premisesBy hh) ?_
      obtain ⟨x4, -, hf⟩ := s_bind hf
      obtain ⟨q5, hh, hf⟩ := s_bind hf
      refine s_lz.tr (l_X8_costOf hh) ?_
      obtain ⟨q6, hh, hf⟩ := s_bind hf
      refine s_lz.tr (l_X8_sum hh) ?_
      cases hf
      exact s_le.rf
  refine lv_aload_n hx hb dX8_byRule_0 rfl (lv_at hl 0 rfl) ?_
  refine lv_aload_n hx hb dX8_byRule_1 rfl (lv_at hl 0 rfl) ?_
  refine r_gi X I fl_X8_402 h1 dX8_byRule_2 ?_
  refine lv_iload_n hx hb dX8_byRule_5 rfl (lv_at hl 1 rfl) ?_
  refine r_callV (Y := M_X8_hasRule) (v := some (.int q2.1)) X I w_2035 my_X8_hasRule (by omega) (t_X8_hasRule (G := G) (d := d + 2) h2) (b_X8_hasRule h2) rfl rfl hl.1 rfl (Nat.le_of_ble_eq_true rfl) hn le3 dX8_byRule_6 (fun H locs cells slots I hn1 hn2 => ?_)
  have I : s_I G q2.2 s H locs := I
  have hn : cells + σ0.2.1 ≤ q2.2.2.1 ∧ slots + σ0.2.2.1 ≤ q2.2.2.2.1 := ⟨hn1, hn2⟩
  rcases s_ite hf with ⟨c4, hf⟩ | ⟨c4, hf⟩
  · refine lv_if_eq (tgt := 38) hx hb dX8_byRule_9 (by decide) (fun _ => ?_) (fun n => absurd c4 n)
    cases hf
    have k : s_V G (d + 4) M_X8_byRule vs0 σ0 Y_X8_byRule (41, [.int 268435456], q2.2) (e_I r) := k
    refine lv_ldcw (own := RX8) hx hb hown (hts _ w_2248) dX8_byRule_38 ?_
    exact k.2 p e s m below meth c _ _ _ _ _ X I hn.1 hn.2 (lv_sub hl [] rfl)
  · refine lv_if_eq (tgt := 38) hx hb dX8_byRule_9 (by decide) (fun n => absurd n c4) (fun _ => ?_)
    obtain ⟨q3, h5, hf⟩ := s_bind hf
    obtain ⟨x4, h6, hf⟩ := s_bind hf
    obtain ⟨q5, h7, hf⟩ := s_bind hf
    obtain ⟨q6, h8, hf⟩ := s_bind hf
    cases hf
    have k : s_V G (d + 4) M_X8_byRule vs0 σ0 Y_X8_byRule (41, [.int q6.1], q6.2) (e_I r) := k
    have le9 : s_le q6.2 (e_I r).2 := k.1
    have le10 := s_le.tr (l_X8_sum h8) le9
    have le11 := s_le.tr (l_X8_costOf h7) le10
    refine lv_aload_n hx hb dX8_byRule_12 rfl (lv_at hl 0 rfl) ?_
    refine lv_iload_n hx hb dX8_byRule_13 rfl (lv_at hl 1 rfl) ?_
    refine lv_iload_n hx hb dX8_byRule_14 rfl (lv_at hl 2 rfl) ?_
    refine lv_iload_n hx hb dX8_byRule_15 rfl (lv_at hl 3 rfl) ?_
    refine r_callV (Y := M_X8_premisesBy) (v := some (.int q3.1)) X I w_2257 my_X8_premisesBy (by omega) (t_X8_premisesBy (G := G) (d := d + 0) h5) (b_X8_premisesBy h5) rfl rfl hl.1 rfl (Nat.le_of_ble_eq_true rfl) hn le11 dX8_byRule_16 (fun H locs cells slots I hn1 hn2 => ?_)
    have I : s_I G q3.2 s H locs := I
    have hn : cells + σ0.2.1 ≤ q3.2.2.1 ∧ slots + σ0.2.2.1 ≤ q3.2.2.2.1 := ⟨hn1, hn2⟩
    refine lv_aload_n hx hb dX8_byRule_19 rfl (lv_at hl 0 rfl) ?_
    refine lv_aload_n hx hb dX8_byRule_20 rfl (lv_at hl 0 rfl) ?_
    refine r_gi X I fl_X8_402 h6 dX8_byRule_21 ?_
    refine lv_iload_n hx hb dX8_byRule_24 rfl (lv_at hl 1 rfl) ?_
    refine lv_bipush (v := 30) hx hb dX8_byRule_25 (by decide) ?_
    refine lv_iload_n hx hb dX8_byRule_27 rfl (lv_at hl 2 rfl) ?_
    refine lv_iadd hx hb dX8_byRule_28 ?_
    refine r_callV (Y := M_X8_costOf) (v := some (.int q5.1)) X I w_2019 my_X8_costOf (by omega) (t_X8_costOf (G := G) (d := d + 2) h7) (b_X8_costOf h7) rfl rfl hl.1 rfl (Nat.le_of_ble_eq_true rfl) hn le10 dX8_byRule_29 (fun H locs cells slots I hn1 hn2 => ?_)
    have I : s_I G q5.2 s H locs := I
    have hn : cells + σ0.2.1 ≤ q5.2.2.1 ∧ slots + σ0.2.2.1 ≤ q5.2.2.2.1 := ⟨hn1, hn2⟩
    refine r_callS (Y := M_X8_sum) (v := some (.int q6.1)) X I w_2261 my_X8_sum (by omega) (t_X8_sum (G := G) (d := d + 2) h8) rfl rfl hl.1 rfl (Nat.le_of_ble_eq_true rfl) hn le9 dX8_byRule_32 (fun H locs cells slots I hn1 hn2 => ?_)
    have I : s_I G q6.2 s H locs := I
    have hn : cells + σ0.2.1 ≤ q6.2.2.1 ∧ slots + σ0.2.2.1 ≤ q6.2.2.2.1 := ⟨hn1, hn2⟩
    refine lv_goto (tgt := 41) hx hb dX8_byRule_35 (by decide) ?_
    exact k.2 p e s m below meth c _ _ _ _ _ X I hn.1 hn.2 (lv_sub hl [] rfl)
set_option maxRecDepth 100000 in
set_option maxHeartbeats 4000000 in
theorem v_X8_byRule_41 {G : sG} {d : Nat} {vs0 : List Value} {σ0 : sS} {w0 : Int32} {σ : sS} {z : sZ Int32} {r : Int32 × sS} (hf : T_X8_byRule_41 w0 σ = some z) (k : s_K G (d + 4) M_X8_byRule vs0 σ0 Y_X8_byRule e_I z r) : s_V G (d + 4) M_X8_byRule vs0 σ0 Y_X8_byRule (41, [.int w0], σ) (e_I r) := by
  have le0 : s_le σ (e_I r).2 := s_lek hem_I (l_X8_byRule_41 hf) k
  refine ⟨le0, ?_⟩
  intro p e s m below meth c H locs cells slots ls X I hn1 hn2 hl
  have hn : cells + σ0.2.1 ≤ σ.2.1 ∧ slots + σ0.2.2.1 ≤ σ.2.2.1 := ⟨hn1, hn2⟩
  have hl : lv_has ls 5 [] := hl
  have hx := X.1
  have hb : c.code = cX8_byRule := X.2.1
  have hown : s.vm.findClass RX8 = some m.cls := X.2.2.2.2.2.1
  have hts := X.2.2.2.2.2.2.1
  refine W.eq (g2 := F0 m 41 ls [.int w0]) rfl ?_
  unfold T_X8_byRule_41 at hf
  refine lv_istore (lv' := [(4, .int w0)]) hx hb dX8_byRule_41 hl (by decide) rfl (fun ls hl => ?_)
  refine lv_iload hx hb dX8_byRule_43 (lv_at hl 0 rfl) ?_
  refine lv_ldcw (own := RX8) hx hb hown (hts _ w_2269) dX8_byRule_45 ?_
  rcases s_ite hf with ⟨c1, hf⟩ | ⟨c1, hf⟩
  · refine lv_icmp_le (tgt := 57) hx hb dX8_byRule_48 (by decide) (fun _ => ?_) (fun n => absurd c1 n)
    cases hf
    have k : _ = r := k
    subst k
    refine lv_iload hx hb dX8_byRule_57 (lv_at hl 0 rfl) ?_
    exact r_iret X I rfl rfl rfl hn dX8_byRule_59
  · refine lv_icmp_le (tgt := 57) hx hb dX8_byRule_48 (by decide) (fun n => absurd n c1) (fun _ => ?_)
    cases hf
    have k : _ = r := k
    subst k
    refine lv_ldcw (own := RX8) hx hb hown (hts _ w_2248) dX8_byRule_51 ?_
    refine lv_goto (tgt := 59) hx hb dX8_byRule_54 (by decide) ?_
    exact r_iret X I rfl rfl rfl hn dX8_byRule_59
theorem v_X8_byRule {G : sG} {d : Nat} {vs0 : List Value} {σ0 : sS} {x : sL} {z : sZ Int32} {r : Int32 × sS} (hs : S_X8_byRule x = some z) (k : s_K G (d + 4) M_X8_byRule vs0 σ0 Y_X8_byRule e_I z r) : s_V G (d + 4) M_X8_byRule vs0 σ0 Y_X8_byRule x (e_I r) := by
  obtain ⟨pc, vs, σ⟩ := x
  unfold S_X8_byRule at hs
  dsimp only at hs
  rcases s_ite hs with ⟨c, hs⟩ | ⟨-, hs⟩
  · subst c
    unfold U_X8_byRule_0 at hs
    obtain ⟨a0, g0, hs⟩ := s_bind hs
    obtain ⟨a1, g1, hs⟩ := s_bind hs
    obtain ⟨a2, g2, hs⟩ := s_bind hs
    obtain ⟨a3, g3, hs⟩ := s_bind hs
    obtain ⟨u9, ge, hs⟩ := s_bind hs
    rw [g_r_to g0, g_i_to g1, g_i_to g2, g_i_to g3, g_e_to ge]
    exact v_X8_byRule_0 hs k
  rcases s_ite hs with ⟨c, hs⟩ | ⟨-, hs⟩
  · subst c
    unfold U_X8_byRule_41 at hs
    obtain ⟨a0, g0, hs⟩ := s_bind hs
    obtain ⟨u9, ge, hs⟩ := s_bind hs
    rw [g_i_to g0, g_e_to ge]
    exact v_X8_byRule_41 hs k
  cases hs
theorem t_X8_byRule {G : sG} {d : Nat} {v0 : Nat} {v1 : Int32} {v2 : Int32} {v3 : Int32} {σ : sS} {q : Int32 × sS} (h : F_X8_byRule v0 v1 v2 v3 σ = some q) : s_T G (d + 4) M_X8_byRule [.ref v0, .int v1, .int v2, .int v3] σ (e_I q) := by
  unfold F_X8_byRule at h
  obtain ⟨-, -, h⟩ := s_bind h
  exact s_ofV rfl (by decide) (Nat.le_of_ble_eq_true rfl) rfl rfl (s_run_ind (V := fun x r => s_V G (d + 4) M_X8_byRule [.ref v0, .int v1, .int v2, .int v3] σ Y_X8_byRule x (e_I r)) (fun x z r hs hk => v_X8_byRule hs (by cases z <;> exact hk)) h)
/-! X8_costs -/
noncomputable def T_X8_costs_0 (v0 : Nat) (v1 : Int32) (v2 : Int32) (v3 : Int32) (σ : sS) : Option (sZ Int32) :=
  (s_pf σ v0 8 35 (.int v1)).bind fun σ1 =>
  (F_X8_beliefsOf v0 v2 σ1).bind fun q2 =>
  (F_X8_looksAll v0 v3 q2.1 q2.2).bind fun q3 =>
  (F_X8_beliefsOf v0 v2 q3.2).bind fun q4 =>
  (F_X8_relates v0 q4.1 q4.2).bind fun q5 =>
  some (.inl (27, [.ref v0, .int 0], q5.2))
noncomputable def U_X8_costs_0 (vs : List Value) (σ : sS) : Option (sZ Int32) := (g_r vs).bind fun a0 => (g_i a0.2).bind fun a1 => (g_i a1.2).bind fun a2 => (g_i a2.2).bind fun a3 => (g_e a3.2).bind fun _ => T_X8_costs_0 a0.1 a1.1 a2.1 a3.1 σ
noncomputable def T_X8_costs_27 (v0 : Nat) (v4 : Int32) (σ : sS) : Option (sZ Int32) :=
  (s_fr σ v0 8 36).bind fun x1 =>
  (s_len σ x1).bind fun x2 =>
  if x2 ≤ v4 then (some (.inl (56, [.ref v0, .int 1], σ)))
  else ((s_fr σ v0 8 36).bind fun x3 =>
  (s_si σ x3 v4 268435456).bind fun σ4 =>
  some (.inl (27, [.ref v0, .int (v4 + 1)], σ4)))
noncomputable def U_X8_costs_27 (vs : List Value) (σ : sS) : Option (sZ Int32) := (g_r vs).bind fun a0 => (g_i a0.2).bind fun a1 => (g_e a1.2).bind fun _ => T_X8_costs_27 a0.1 a1.1 σ
noncomputable def T_X8_costs_56 (v0 : Nat) (v4 : Int32) (σ : sS) : Option (sZ Int32) :=
  if v4 = 0 then ((F_X8_costAt v0 0 0 σ).bind fun q1 =>
  if q1.1 < 268435456 then ((F_X8_costAt v0 0 0 q1.2).bind fun q2 =>
  some (.inr (q2.1, q2.2)))
  else (some (.inr ((-1), q1.2))))
  else (some (.inl (67, [.ref v0, .int 0, .int 0], σ)))
noncomputable def U_X8_costs_56 (vs : List Value) (σ : sS) : Option (sZ Int32) := (g_r vs).bind fun a0 => (g_i a0.2).bind fun a1 => (g_e a1.2).bind fun _ => T_X8_costs_56 a0.1 a1.1 σ
noncomputable def T_X8_costs_67 (v0 : Nat) (v4 : Int32) (v5 : Int32) (σ : sS) : Option (sZ Int32) :=
  (s_fi σ v0 8 33).bind fun x1 =>
  if x1 ≤ v5 then (some (.inl (56, [.ref v0, .int v4], σ)))
  else (some (.inl (79, [.ref v0, .int v4, .int v5, .int 0], σ)))
noncomputable def U_X8_costs_67 (vs : List Value) (σ : sS) : Option (sZ Int32) := (g_r vs).bind fun a0 => (g_i a0.2).bind fun a1 => (g_i a1.2).bind fun a2 => (g_e a2.2).bind fun _ => T_X8_costs_67 a0.1 a1.1 a2.1 σ
noncomputable def T_X8_costs_79 (v0 : Nat) (v4 : Int32) (v5 : Int32) (v6 : Int32) (σ : sS) : Option (sZ Int32) :=
  (s_fi σ v0 8 34).bind fun x1 =>
  if (1 <<< (x1 &&& 31)) ≤ v6 then (some (.inl (67, [.ref v0, .int v4, .int (v5 + 1)], σ)))
  else ((F_X8_costAt v0 v5 v6 σ).bind fun q2 =>
  some (.inl (103, [.ref v0, .int v4, .int v5, .int v6, .int q2.1, .int 0], q2.2)))
noncomputable def U_X8_costs_79 (vs : List Value) (σ : sS) : Option (sZ Int32) := (g_r vs).bind fun a0 => (g_i a0.2).bind fun a1 => (g_i a1.2).bind fun a2 => (g_i a2.2).bind fun a3 => (g_e a3.2).bind fun _ => T_X8_costs_79 a0.1 a1.1 a2.1 a3.1 σ
noncomputable def T_X8_costs_103 (v0 : Nat) (v4 : Int32) (v5 : Int32) (v6 : Int32) (v7 : Int32) (v8 : Int32) (σ : sS) : Option (sZ Int32) :=
  if (15 : Int32) ≤ v8 then (if v4 = 0 then ((F_X8_costAt v0 v5 v6 σ).bind fun q1 =>
  if q1.1 ≤ v7 then (some (.inl (156, [.ref v0, .int v5, .int v6, .int v7, .int 0], q1.2)))
  else (some (.inl (151, [.ref v0, .int v5, .int v6, .int v7], q1.2))))
  else (some (.inl (151, [.ref v0, .int v5, .int v6, .int v7], σ))))
  else ((F_X8_byRule v0 v8 v5 v6 σ).bind fun q2 =>
  some (.inl (103, [.ref v0, .int v4, .int v5, .int v6, .int (if q2.1 < v7 then q2.1 else v7), .int (v8 + 1)], q2.2)))
noncomputable def U_X8_costs_103 (vs : List Value) (σ : sS) : Option (sZ Int32) := (g_r vs).bind fun a0 => (g_i a0.2).bind fun a1 => (g_i a1.2).bind fun a2 => (g_i a2.2).bind fun a3 => (g_i a3.2).bind fun a4 => (g_i a4.2).bind fun a5 => (g_e a5.2).bind fun _ => T_X8_costs_103 a0.1 a1.1 a2.1 a3.1 a4.1 a5.1 σ
noncomputable def T_X8_costs_151 (v0 : Nat) (v5 : Int32) (v6 : Int32) (v7 : Int32) (σ : sS) : Option (sZ Int32) :=
  some (.inl (156, [.ref v0, .int v5, .int v6, .int v7, .int 1], σ))
noncomputable def U_X8_costs_151 (vs : List Value) (σ : sS) : Option (sZ Int32) := (g_r vs).bind fun a0 => (g_i a0.2).bind fun a1 => (g_i a1.2).bind fun a2 => (g_i a2.2).bind fun a3 => (g_e a3.2).bind fun _ => T_X8_costs_151 a0.1 a1.1 a2.1 a3.1 σ
noncomputable def T_X8_costs_156 (v0 : Nat) (v5 : Int32) (v6 : Int32) (v7 : Int32) (w0 : Int32) (σ : sS) : Option (sZ Int32) :=
  (s_fr σ v0 8 36).bind fun x1 =>
  (s_si σ x1 ((8 * v5) + v6) v7).bind fun σ2 =>
  some (.inl (79, [.ref v0, .int w0, .int v5, .int (v6 + 1)], σ2))
noncomputable def U_X8_costs_156 (vs : List Value) (σ : sS) : Option (sZ Int32) := (g_r vs).bind fun a0 => (g_i a0.2).bind fun a1 => (g_i a1.2).bind fun a2 => (g_i a2.2).bind fun a3 => (g_i a3.2).bind fun a4 => (g_e a4.2).bind fun _ => T_X8_costs_156 a0.1 a1.1 a2.1 a3.1 a4.1 σ
noncomputable def S_X8_costs (x : sL) : Option (sZ Int32) := if x.1 = 0 then U_X8_costs_0 x.2.1 x.2.2 else if x.1 = 27 then U_X8_costs_27 x.2.1 x.2.2 else if x.1 = 56 then U_X8_costs_56 x.2.1 x.2.2 else if x.1 = 67 then U_X8_costs_67 x.2.1 x.2.2 else if x.1 = 79 then U_X8_costs_79 x.2.1 x.2.2 else if x.1 = 103 then U_X8_costs_103 x.2.1 x.2.2 else if x.1 = 151 then U_X8_costs_151 x.2.1 x.2.2 else if x.1 = 156 then U_X8_costs_156 x.2.1 x.2.2 else none
def Y_X8_costs (pc : Nat) : List Nat := if pc = 0 then [0, 1, 2, 3] else if pc = 27 then [0, 4] else if pc = 56 then [0, 4] else if pc = 67 then [0, 4, 5] else if pc = 79 then [0, 4, 5, 6] else if pc = 103 then [0, 4, 5, 6, 7, 8] else if pc = 151 then [0, 5, 6, 7] else if pc = 156 then [0, 5, 6, 7] else []
noncomputable def F_X8_costs (v0 : Nat) (v1 : Int32) (v2 : Int32) (v3 : Int32) (σ : sS) : Option (Int32 × sS) := (s_is σ v0 8).bind fun _ => s_run S_X8_costs (0, [.ref v0, .int v1, .int v2, .int v3], σ)
theorem l_X8_costs_0 {v0 : Nat} {v1 : Int32} {v2 : Int32} {v3 : Int32} {σ : sS} {z : sZ Int32} (hf : T_X8_costs_0 v0 v1 v2 v3 σ = some z) : s_lz σ z := by
  unfold T_X8_costs_0 at hf
  obtain ⟨σ1, hh, hf⟩ := s_bind hf
  refine s_lz.tr (s_le2 (s_pf_2 hh)) ?_
  obtain ⟨q2, hh, hf⟩ := s_bind hf
  refine s_lz.tr (l_X8_beliefsOf hh) ?_
  obtain ⟨q3, hh, hf⟩ := s_bind hf
  refine s_lz.tr (l_X8_looksAll hh) ?_
  obtain ⟨q4, hh, hf⟩ := s_bind hf
  refine s_lz.tr (l_X8_beliefsOf hh) ?_
  obtain ⟨q5, hh, hf⟩ := s_bind hf
  refine s_lz.tr (l_X8_relates hh) ?_
  cases hf
  exact s_le.rf
theorem l_X8_costs_27 {v0 : Nat} {v4 : Int32} {σ : sS} {z : sZ Int32} (hf : T_X8_costs_27 v0 v4 σ = some z) : s_lz σ z := by
  unfold T_X8_costs_27 at hf
  obtain ⟨x1, -, hf⟩ := s_bind hf
  obtain ⟨x2, -, hf⟩ := s_bind hf
  rcases s_ite hf with ⟨-, hf⟩ | ⟨-, hf⟩
  · cases hf
    exact s_le.rf
  · obtain ⟨x3, -, hf⟩ := s_bind hf
    obtain ⟨σ4, hh, hf⟩ := s_bind hf
    refine s_lz.tr (s_le2 (s_si_2 hh)) ?_
    cases hf
    exact s_le.rf
theorem l_X8_costs_56 {v0 : Nat} {v4 : Int32} {σ : sS} {z : sZ Int32} (hf : T_X8_costs_56 v0 v4 σ = some z) : s_lz σ z := by
  unfold T_X8_costs_56 at hf
  rcases s_ite hf with ⟨-, hf⟩ | ⟨-, hf⟩
  · obtain ⟨q1, hh, hf⟩ := s_bind hf
    refine s_lz.tr (l_X8_costAt hh) ?_
    rcases s_ite hf with ⟨-, hf⟩ | ⟨-, hf⟩
    · obtain ⟨q2, hh, hf⟩ := s_bind hf
      refine s_lz.tr (l_X8_costAt hh) ?_
      cases hf
      exact s_le.rf
    · cases hf
      exact s_le.rf
  · cases hf
    exact s_le.rf
theorem l_X8_costs_67 {v0 : Nat} {v4 : Int32} {v5 : Int32} {σ : sS} {z : sZ Int32} (hf : T_X8_costs_67 v0 v4 v5 σ = some z) : s_lz σ z := by
  unfold T_X8_costs_67 at hf
  obtain ⟨x1, -, hf⟩ := s_bind hf
  rcases s_ite hf with ⟨-, hf⟩ | ⟨-, hf⟩
  · cases hf
    exact s_le.rf
  · cases hf
    exact s_le.rf
theorem l_X8_costs_79 {v0 : Nat} {v4 : Int32} {v5 : Int32} {v6 : Int32} {σ : sS} {z : sZ Int32} (hf : T_X8_costs_79 v0 v4 v5 v6 σ = some z) : s_lz σ z := by
  unfold T_X8_costs_79 at hf
  obtain ⟨x1, -, hf⟩ := s_bind hf
  rcases s_ite hf with ⟨-, hf⟩ | ⟨-, hf⟩
  · cases hf
    exact s_le.rf
  · obtain ⟨q2, hh, hf⟩ := s_bind hf
    refine s_lz.tr (l_X8_costAt hh) ?_
    cases hf
    exact s_le.rf
theorem l_X8_costs_103 {v0 : Nat} {v4 : Int32} {v5 : Int32} {v6 : Int32} {v7 : Int32} {v8 : Int32} {σ : sS} {z : sZ Int32} (hf : T_X8_costs_103 v0 v4 v5 v6 v7 v8 σ = some z) : s_lz σ z := by
  unfold T_X8_costs_103 at hf
  rcases s_ite hf with ⟨-, hf⟩ | ⟨-, hf⟩
  · rcases s_ite hf with ⟨-, hf⟩ | ⟨-, hf⟩
    · obtain ⟨q1, hh, hf⟩ := s_bind hf
      refine s_lz.tr (l_X8_costAt hh) ?_
      rcases s_ite hf with ⟨-, hf⟩ | ⟨-, hf⟩
      · cases hf
        exact s_le.rf
      · cases hf
        exact s_le.rf
    · cases hf
      exact s_le.rf
  · obtain ⟨q2, hh, hf⟩ := s_bind hf
    refine s_lz.tr (l_X8_byRule hh) ?_
    cases hf
    exact s_le.rf
theorem l_X8_costs_151 {v0 : Nat} {v5 : Int32} {v6 : Int32} {v7 : Int32} {σ : sS} {z : sZ Int32} (hf : T_X8_costs_151 v0 v5 v6 v7 σ = some z) : s_lz σ z := by
  unfold T_X8_costs_151 at hf
  cases hf
  exact s_le.rf
theorem l_X8_costs_156 {v0 : Nat} {v5 : Int32} {v6 : Int32} {v7 : Int32} {w0 : Int32} {σ : sS} {z : sZ Int32} (hf : T_X8_costs_156 v0 v5 v6 v7 w0 σ = some z) : s_lz σ z := by
  unfold T_X8_costs_156 at hf
  obtain ⟨x1, -, hf⟩ := s_bind hf
  obtain ⟨σ2, hh, hf⟩ := s_bind hf
  refine s_lz.tr (s_le2 (s_si_2 hh)) ?_
  cases hf
  exact s_le.rf
theorem l_X8_costs_s {x : sL} {z : sZ Int32} (hs : S_X8_costs x = some z) : s_lz x.2.2 z := by
  obtain ⟨pc, vs, σ⟩ := x
  unfold S_X8_costs at hs
  dsimp only at hs ⊢
  rcases s_ite hs with ⟨c, hs⟩ | ⟨-, hs⟩
  · subst c
    unfold U_X8_costs_0 at hs
    obtain ⟨a0, g0, hs⟩ := s_bind hs
    obtain ⟨a1, g1, hs⟩ := s_bind hs
    obtain ⟨a2, g2, hs⟩ := s_bind hs
    obtain ⟨a3, g3, hs⟩ := s_bind hs
    obtain ⟨u9, ge, hs⟩ := s_bind hs
    exact l_X8_costs_0 hs
  rcases s_ite hs with ⟨c, hs⟩ | ⟨-, hs⟩
  · subst c
    unfold U_X8_costs_27 at hs
    obtain ⟨a0, g0, hs⟩ := s_bind hs
    obtain ⟨a1, g1, hs⟩ := s_bind hs
    obtain ⟨u9, ge, hs⟩ := s_bind hs
    exact l_X8_costs_27 hs
  rcases s_ite hs with ⟨c, hs⟩ | ⟨-, hs⟩
  · subst c
    unfold U_X8_costs_56 at hs
    obtain ⟨a0, g0, hs⟩ := s_bind hs
    obtain ⟨a1, g1, hs⟩ := s_bind hs
    obtain ⟨u9, ge, hs⟩ := s_bind hs
    exact l_X8_costs_56 hs
  rcases s_ite hs with ⟨c, hs⟩ | ⟨-, hs⟩
  · subst c
    unfold U_X8_costs_67 at hs
    obtain ⟨a0, g0, hs⟩ := s_bind hs
    obtain ⟨a1, g1, hs⟩ := s_bind hs
    obtain ⟨a2, g2, hs⟩ := s_bind hs
    obtain ⟨u9, ge, hs⟩ := s_bind hs
    exact l_X8_costs_67 hs
  rcases s_ite hs with ⟨c, hs⟩ | ⟨-, hs⟩
  · subst c
    unfold U_X8_costs_79 at hs
    obtain ⟨a0, g0, hs⟩ := s_bind hs
    obtain ⟨a1, g1, hs⟩ := s_bind hs
    obtain ⟨a2, g2, hs⟩ := s_bind hs
    obtain ⟨a3, g3, hs⟩ := s_bind hs
    obtain ⟨u9, ge, hs⟩ := s_bind hs
    exact l_X8_costs_79 hs
  rcases s_ite hs with ⟨c, hs⟩ | ⟨-, hs⟩
  · subst c
    unfold U_X8_costs_103 at hs
    obtain ⟨a0, g0, hs⟩ := s_bind hs
    obtain ⟨a1, g1, hs⟩ := s_bind hs
    obtain ⟨a2, g2, hs⟩ := s_bind hs
    obtain ⟨a3, g3, hs⟩ := s_bind hs
    obtain ⟨a4, g4, hs⟩ := s_bind hs
    obtain ⟨a5, g5, hs⟩ := s_bind hs
    obtain ⟨u9, ge, hs⟩ := s_bind hs
    exact l_X8_costs_103 hs
  rcases s_ite hs with ⟨c, hs⟩ | ⟨-, hs⟩
  · subst c
    unfold U_X8_costs_151 at hs
    obtain ⟨a0, g0, hs⟩ := s_bind hs
    obtain ⟨a1, g1, hs⟩ := s_bind hs
    obtain ⟨a2, g2, hs⟩ := s_bind hs
    obtain ⟨a3, g3, hs⟩ := s_bind hs
    obtain ⟨u9, ge, hs⟩ := s_bind hs
    exact l_X8_costs_151 hs
  rcases s_ite hs with ⟨c, hs⟩ | ⟨-, hs⟩
  · subst c
    unfold U_X8_costs_156 at hs
    obtain ⟨a0, g0, hs⟩ := s_bind hs
    obtain ⟨a1, g1, hs⟩ := s_bind hs
    obtain ⟨a2, g2, hs⟩ := s_bind hs
    obtain ⟨a3, g3, hs⟩ := s_bind hs
    obtain ⟨a4, g4, hs⟩ := s_bind hs
    obtain ⟨u9, ge, hs⟩ := s_bind hs
    exact l_X8_costs_156 hs
  cases hs
theorem l_X8_costs {v0 : Nat} {v1 : Int32} {v2 : Int32} {v3 : Int32} {σ : sS} {q : Int32 × sS} (h : F_X8_costs v0 v1 v2 v3 σ = some q) : s_le σ q.2 := by
  unfold F_X8_costs at h
  obtain ⟨-, -, h⟩ := s_bind h
  exact s_run_ind (V := fun x r => s_le x.2.2 r.2) (fun x z r hs hk => by
    have h9 := l_X8_costs_s hs
    cases z with
    | inl y => exact s_le.tr h9 hk
    | inr q => cases hk; exact h9) h
theorem b_X8_costs {v0 : Nat} {v1 : Int32} {v2 : Int32} {v3 : Int32} {σ : sS} {q : Int32 × sS} (h : F_X8_costs v0 v1 v2 v3 σ = some q) : ∃ fs, σ.1 v0 = some (.inr (8, fs)) := by
  unfold F_X8_costs at h
  obtain ⟨u, hu, -⟩ := s_bind h
  exact s_is_to hu
set_option maxRecDepth 100000 in
set_option maxHeartbeats 4000000 in
theorem v_X8_costs_0 {G : sG} {d : Nat} {vs0 : List Value} {σ0 : sS} {v0 : Nat} {v1 : Int32} {v2 : Int32} {v3 : Int32} {σ : sS} {z : sZ Int32} {r : Int32 × sS} (hf : T_X8_costs_0 v0 v1 v2 v3 σ = some z) (k : s_K G (d + 7) M_X8_costs vs0 σ0 Y_X8_costs e_I z r) : s_V G (d + 7) M_X8_costs vs0 σ0 Y_X8_costs (0, [.ref v0, .int v1, .int v2, .int v3], σ) (e_I r) := by
  have le0 : s_le σ (e_I r).2 := s_lek hem_I (l_X8_costs_0 hf) k
  refine ⟨le0, ?_⟩
  intro p e s m below meth c H locs cells slots ls X I hn1 hn2 hl
  have hn : cells + σ0.2.1 ≤ σ.2.1 ∧ slots + σ0.2.2.1 ≤ σ.2.2.1 := ⟨hn1, hn2⟩
  have hl : lv_has ls 9 [(0, .ref v0), (1, .int v1), (2, .int v2), (3, .int v3)] := hl
  have hx := X.1
  have hb : c.code = cX8_costs := X.2.1
  have hown : s.vm.findClass RX8 = some m.cls := X.2.2.2.2.2.1
  have hts := X.2.2.2.2.2.2.1
  refine W.eq (g2 := F0 m 0 ls []) rfl ?_
  unfold T_X8_costs_0 at hf
  obtain ⟨σ1, h1, hf⟩ := s_bind hf
  obtain ⟨q2, h2, hf⟩ := s_bind hf
  obtain ⟨q3, h3, hf⟩ := s_bind hf
  obtain ⟨q4, h4, hf⟩ := s_bind hf
  obtain ⟨q5, h5, hf⟩ := s_bind hf
  cases hf
  have k : s_V G (d + 7) M_X8_costs vs0 σ0 Y_X8_costs (27, [.ref v0, .int 0], q5.2) (e_I r) := k
  have le6 : s_le q5.2 (e_I r).2 := k.1
  have le7 := s_le.tr (l_X8_relates h5) le6
  have le8 := s_le.tr (l_X8_beliefsOf h4) le7
  have le9 := s_le.tr (l_X8_looksAll h3) le8
  have le10 := s_le.tr (l_X8_beliefsOf h2) le9
  refine lv_aload_n hx hb dX8_costs_0 rfl (lv_at hl 0 rfl) ?_
  refine lv_iload_n hx hb dX8_costs_1 rfl (lv_at hl 1 rfl) ?_
  refine r_put X I fp_X8_402 (fun h => by cases h) h1 rfl rfl dX8_costs_2 (fun H locs I => ?_)
  have hn := s_k2 (s_pf_2 h1) hn
  refine lv_aload_n hx hb dX8_costs_5 rfl (lv_at hl 0 rfl) ?_
  refine lv_iload_n hx hb dX8_costs_6 rfl (lv_at hl 3 rfl) ?_
  refine lv_aload_n hx hb dX8_costs_7 rfl (lv_at hl 0 rfl) ?_
  refine lv_iload_n hx hb dX8_costs_8 rfl (lv_at hl 2 rfl) ?_
  refine r_callV (Y := M_X8_beliefsOf) (v := some (.int q2.1)) X I w_1987 my_X8_beliefsOf (by omega) (t_X8_beliefsOf (G := G) (d := d + 5) h2) (b_X8_beliefsOf h2) rfl rfl hl.1 rfl (Nat.le_of_ble_eq_true rfl) hn le9 dX8_costs_9 (fun H locs cells slots I hn1 hn2 => ?_)
  have I : s_I G q2.2 s H locs := I
  have hn : cells + σ0.2.1 ≤ q2.2.2.1 ∧ slots + σ0.2.2.1 ≤ q2.2.2.2.1 := ⟨hn1, hn2⟩
  refine r_callV (Y := M_X8_looksAll) (v := none) X I w_2216 my_X8_looksAll (by omega) (t_X8_looksAll (G := G) (d := d + 0) h3) (b_X8_looksAll h3) rfl rfl hl.1 rfl (Nat.le_of_ble_eq_true rfl) hn le8 dX8_costs_12 (fun H locs cells slots I hn1 hn2 => ?_)
  have I : s_I G q3.2 s H locs := I
  have hn : cells + σ0.2.1 ≤ q3.2.2.1 ∧ slots + σ0.2.2.1 ≤ q3.2.2.2.1 := ⟨hn1, hn2⟩
  refine lv_aload_n hx hb dX8_costs_15 rfl (lv_at hl 0 rfl) ?_
  refine lv_aload_n hx hb dX8_costs_16 rfl (lv_at hl 0 rfl) ?_
  refine lv_iload_n hx hb dX8_costs_17 rfl (lv_at hl 2 rfl) ?_
  refine r_callV (Y := M_X8_beliefsOf) (v := some (.int q4.1)) X I w_1987 my_X8_beliefsOf (by omega) (t_X8_beliefsOf (G := G) (d := d + 5) h4) (b_X8_beliefsOf h4) rfl rfl hl.1 rfl (Nat.le_of_ble_eq_true rfl) hn le7 dX8_costs_18 (fun H locs cells slots I hn1 hn2 => ?_)
  have I : s_I G q4.2 s H locs := I
  have hn : cells + σ0.2.1 ≤ q4.2.2.1 ∧ slots + σ0.2.2.1 ≤ q4.2.2.2.1 := ⟨hn1, hn2⟩
  refine r_callV (Y := M_X8_relates) (v := none) X I w_2236 my_X8_relates (by omega) (t_X8_relates (G := G) (d := d + 0) h5) (b_X8_relates h5) rfl rfl hl.1 rfl (Nat.le_of_ble_eq_true rfl) hn le6 dX8_costs_21 (fun H locs cells slots I hn1 hn2 => ?_)
  have I : s_I G q5.2 s H locs := I
  have hn : cells + σ0.2.1 ≤ q5.2.2.1 ∧ slots + σ0.2.2.1 ≤ q5.2.2.2.1 := ⟨hn1, hn2⟩
  refine lv_iconst (v := 0) hx hb dX8_costs_24 (by decide) ?_
  refine lv_istore (lv' := [(4, .int 0), (0, .ref v0), (1, .int v1), (2, .int v2), (3, .int v3)]) hx hb dX8_costs_25 hl (by decide) rfl (fun ls hl => ?_)
  exact k.2 p e s m below meth c _ _ _ _ _ X I hn.1 hn.2 (lv_sub hl [1, 0] rfl)
set_option maxRecDepth 100000 in
set_option maxHeartbeats 4000000 in
theorem v_X8_costs_27 {G : sG} {d : Nat} {vs0 : List Value} {σ0 : sS} {v0 : Nat} {v4 : Int32} {σ : sS} {z : sZ Int32} {r : Int32 × sS} (hf : T_X8_costs_27 v0 v4 σ = some z) (k : s_K G (d + 7) M_X8_costs vs0 σ0 Y_X8_costs e_I z r) : s_V G (d + 7) M_X8_costs vs0 σ0 Y_X8_costs (27, [.ref v0, .int v4], σ) (e_I r) := by
  have le0 : s_le σ (e_I r).2 := s_lek hem_I (l_X8_costs_27 hf) k
  refine ⟨le0, ?_⟩
  intro p e s m below meth c H locs cells slots ls X I hn1 hn2 hl
  have hn : cells + σ0.2.1 ≤ σ.2.1 ∧ slots + σ0.2.2.1 ≤ σ.2.2.1 := ⟨hn1, hn2⟩
  have hl : lv_has ls 9 [(0, .ref v0), (4, .int v4)] := hl
  have hx := X.1
  have hb : c.code = cX8_costs := X.2.1
  have hown : s.vm.findClass RX8 = some m.cls := X.2.2.2.2.2.1
  have hts := X.2.2.2.2.2.2.1
  refine W.eq (g2 := F0 m 27 ls []) rfl ?_
  unfold T_X8_costs_27 at hf
  obtain ⟨x1, h1, hf⟩ := s_bind hf
  obtain ⟨x2, h2, hf⟩ := s_bind hf
  refine lv_iload hx hb dX8_costs_27 (lv_at hl 1 rfl) ?_
  refine lv_aload_n hx hb dX8_costs_29 rfl (lv_at hl 0 rfl) ?_
  refine r_gr X I fl_X8_89 h1 dX8_costs_30 ?_
  refine r_alen X I h2 dX8_costs_33 ?_
  rcases s_ite hf with ⟨c3, hf⟩ | ⟨c3, hf⟩
  · refine lv_icmp_ge (tgt := 53) hx hb dX8_costs_34 (by decide) (fun _ => ?_) (fun n => absurd c3 n)
    cases hf
    have k : s_V G (d + 7) M_X8_costs vs0 σ0 Y_X8_costs (56, [.ref v0, .int 1], σ) (e_I r) := k
    refine lv_iconst (v := 1) hx hb dX8_costs_53 (by decide) ?_
    refine lv_istore (lv' := [(4, .int 1), (0, .ref v0)]) hx hb dX8_costs_54 hl (by decide) rfl (fun ls hl => ?_)
    exact k.2 p e s m below meth c _ _ _ _ _ X I hn.1 hn.2 (lv_sub hl [1, 0] rfl)
  · refine lv_icmp_ge (tgt := 53) hx hb dX8_costs_34 (by decide) (fun n => absurd n c3) (fun _ => ?_)
    obtain ⟨x3, h4, hf⟩ := s_bind hf
    obtain ⟨σ4, h5, hf⟩ := s_bind hf
    cases hf
    have k : s_V G (d + 7) M_X8_costs vs0 σ0 Y_X8_costs (27, [.ref v0, .int (v4 + 1)], σ4) (e_I r) := k
    have le6 : s_le σ4 (e_I r).2 := k.1
    refine lv_aload_n hx hb dX8_costs_37 rfl (lv_at hl 0 rfl) ?_
    refine r_gr X I fl_X8_89 h4 dX8_costs_38 ?_
    refine lv_iload hx hb dX8_costs_41 (lv_at hl 1 rfl) ?_
    refine lv_ldcw (own := RX8) hx hb hown (hts _ w_2248) dX8_costs_43 ?_
    refine r_iast X I h5 dX8_costs_46 (fun H locs I => ?_)
    have hn := s_k2 (s_si_2 h5) hn
    refine lv_iinc (v := (v4 + 1)) (lv' := [(4, .int (v4 + 1)), (0, .ref v0)]) hx hb dX8_costs_47 hl (k := 1) rfl rfl (by decide) rfl (fun ls hl => ?_)
    refine lv_goto (tgt := 27) hx hb dX8_costs_50 (by decide) ?_
    exact k.2 p e s m below meth c _ _ _ _ _ X I hn.1 hn.2 (lv_sub hl [1, 0] rfl)
set_option maxRecDepth 100000 in
set_option maxHeartbeats 4000000 in
theorem v_X8_costs_56 {G : sG} {d : Nat} {vs0 : List Value} {σ0 : sS} {v0 : Nat} {v4 : Int32} {σ : sS} {z : sZ Int32} {r : Int32 × sS} (hf : T_X8_costs_56 v0 v4 σ = some z) (k : s_K G (d + 7) M_X8_costs vs0 σ0 Y_X8_costs e_I z r) : s_V G (d + 7) M_X8_costs vs0 σ0 Y_X8_costs (56, [.ref v0, .int v4], σ) (e_I r) := by
  have le0 : s_le σ (e_I r).2 := s_lek hem_I (l_X8_costs_56 hf) k
  refine ⟨le0, ?_⟩
  intro p e s m below meth c H locs cells slots ls X I hn1 hn2 hl
  have hn : cells + σ0.2.1 ≤ σ.2.1 ∧ slots + σ0.2.2.1 ≤ σ.2.2.1 := ⟨hn1, hn2⟩
  have hl : lv_has ls 9 [(0, .ref v0), (4, .int v4)] := hl
  have hx := X.1
  have hb : c.code = cX8_costs := X.2.1
  have hown : s.vm.findClass RX8 = some m.cls := X.2.2.2.2.2.1
  have hts := X.2.2.2.2.2.2.1
  refine W.eq (g2 := F0 m 56 ls []) rfl ?_
  unfold T_X8_costs_56 at hf
  refine lv_iload hx hb dX8_costs_56 (lv_at hl 1 rfl) ?_
  rcases s_ite hf with ⟨c1, hf⟩ | ⟨c1, hf⟩
  · refine lv_if_eq (tgt := 188) hx hb dX8_costs_58 (by decide) (fun _ => ?_) (fun n => absurd c1 n)
    obtain ⟨q1, h2, hf⟩ := s_bind hf
    have le3 : s_le q1.2 (e_I r).2 := by
      refine s_lek hem_I ?_ k
      rcases s_ite hf with ⟨-, hf⟩ | ⟨-, hf⟩
      · obtain ⟨q2, hh, hf⟩ := s_bind hf
        refine s_lz.tr (l_X8_costAt hh) ?_
        cases hf
        exact s_le.rf
      · cases hf
        exact s_le.rf
    refine lv_aload_n hx hb dX8_costs_188 rfl (lv_at hl 0 rfl) ?_
    refine lv_iconst (v := 0) hx hb dX8_costs_189 (by decide) ?_
    refine lv_iconst (v := 0) hx hb dX8_costs_190 (by decide) ?_
    refine r_callV (Y := M_X8_costAt) (v := some (.int q1.1)) X I w_2249 my_X8_costAt (by omega) (t_X8_costAt (G := G) (d := d + 5) h2) (b_X8_costAt h2) rfl rfl hl.1 rfl (Nat.le_of_ble_eq_true rfl) hn le3 dX8_costs_191 (fun H locs cells slots I hn1 hn2 => ?_)
    have I : s_I G q1.2 s H locs := I
    have hn : cells + σ0.2.1 ≤ q1.2.2.1 ∧ slots + σ0.2.2.1 ≤ q1.2.2.2.1 := ⟨hn1, hn2⟩
    refine lv_ldcw (own := RX8) hx hb hown (hts _ w_2248) dX8_costs_194 ?_
    rcases s_ite hf with ⟨c4, hf⟩ | ⟨c4, hf⟩
    · refine lv_icmp_lt (tgt := 204) hx hb dX8_costs_197 (by decide) (fun _ => ?_) (fun n => absurd c4 n)
      obtain ⟨q2, h5, hf⟩ := s_bind hf
      cases hf
      have k : _ = r := k
      subst k
      have le6 : s_le q2.2 q2.2 := s_le.rf
      refine lv_aload_n hx hb dX8_costs_204 rfl (lv_at hl 0 rfl) ?_
      refine lv_iconst (v := 0) hx hb dX8_costs_205 (by decide) ?_
      refine lv_iconst (v := 0) hx hb dX8_costs_206 (by decide) ?_
      refine r_callV (Y := M_X8_costAt) (v := some (.int q2.1)) X I w_2249 my_X8_costAt (by omega) (t_X8_costAt (G := G) (d := d + 5) h5) (b_X8_costAt h5) rfl rfl hl.1 rfl (Nat.le_of_ble_eq_true rfl) hn le6 dX8_costs_207 (fun H locs cells slots I hn1 hn2 => ?_)
      have I : s_I G q2.2 s H locs := I
      have hn : cells + σ0.2.1 ≤ q2.2.2.1 ∧ slots + σ0.2.2.1 ≤ q2.2.2.2.1 := ⟨hn1, hn2⟩
      exact r_iret X I rfl rfl rfl hn dX8_costs_210
    · refine lv_icmp_lt (tgt := 204) hx hb dX8_costs_197 (by decide) (fun n => absurd n c4) (fun _ => ?_)
      cases hf
      have k : _ = r := k
      subst k
      refine lv_iconst (v := (-1)) hx hb dX8_costs_200 (by decide) ?_
      refine lv_goto (tgt := 210) hx hb dX8_costs_201 (by decide) ?_
      exact r_iret X I rfl rfl rfl hn dX8_costs_210
  · refine lv_if_eq (tgt := 188) hx hb dX8_costs_58 (by decide) (fun n => absurd n c1) (fun _ => ?_)
    cases hf
    have k : s_V G (d + 7) M_X8_costs vs0 σ0 Y_X8_costs (67, [.ref v0, .int 0, .int 0], σ) (e_I r) := k
    refine lv_iconst (v := 0) hx hb dX8_costs_61 (by decide) ?_
    refine lv_istore (lv' := [(4, .int 0), (0, .ref v0)]) hx hb dX8_costs_62 hl (by decide) rfl (fun ls hl => ?_)
    refine lv_iconst (v := 0) hx hb dX8_costs_64 (by decide) ?_
    refine lv_istore (lv' := [(5, .int 0), (4, .int 0), (0, .ref v0)]) hx hb dX8_costs_65 hl (by decide) rfl (fun ls hl => ?_)
    exact k.2 p e s m below meth c _ _ _ _ _ X I hn.1 hn.2 (lv_sub hl [2, 1, 0] rfl)
set_option maxRecDepth 100000 in
set_option maxHeartbeats 4000000 in
theorem v_X8_costs_67 {G : sG} {d : Nat} {vs0 : List Value} {σ0 : sS} {v0 : Nat} {v4 : Int32} {v5 : Int32} {σ : sS} {z : sZ Int32} {r : Int32 × sS} (hf : T_X8_costs_67 v0 v4 v5 σ = some z) (k : s_K G (d + 7) M_X8_costs vs0 σ0 Y_X8_costs e_I z r) : s_V G (d + 7) M_X8_costs vs0 σ0 Y_X8_costs (67, [.ref v0, .int v4, .int v5], σ) (e_I r) := by
  have le0 : s_le σ (e_I r).2 := s_lek hem_I (l_X8_costs_67 hf) k
  refine ⟨le0, ?_⟩
  intro p e s m below meth c H locs cells slots ls X I hn1 hn2 hl
  have hn : cells + σ0.2.1 ≤ σ.2.1 ∧ slots + σ0.2.2.1 ≤ σ.2.2.1 := ⟨hn1, hn2⟩
  have hl : lv_has ls 9 [(0, .ref v0), (4, .int v4), (5, .int v5)] := hl
  have hx := X.1
  have hb : c.code = cX8_costs := X.2.1
  have hown : s.vm.findClass RX8 = some m.cls := X.2.2.2.2.2.1
  have hts := X.2.2.2.2.2.2.1
  refine W.eq (g2 := F0 m 67 ls []) rfl ?_
  unfold T_X8_costs_67 at hf
  obtain ⟨x1, h1, hf⟩ := s_bind hf
  refine lv_iload hx hb dX8_costs_67 (lv_at hl 2 rfl) ?_
  refine lv_aload_n hx hb dX8_costs_69 rfl (lv_at hl 0 rfl) ?_
  refine r_gi X I fl_X8_360 h1 dX8_costs_70 ?_
  rcases s_ite hf with ⟨c2, hf⟩ | ⟨c2, hf⟩
  · refine lv_icmp_ge (tgt := 185) hx hb dX8_costs_73 (by decide) (fun _ => ?_) (fun n => absurd c2 n)
    cases hf
    have k : s_V G (d + 7) M_X8_costs vs0 σ0 Y_X8_costs (56, [.ref v0, .int v4], σ) (e_I r) := k
    refine lv_goto (tgt := 56) hx hb dX8_costs_185 (by decide) ?_
    exact k.2 p e s m below meth c _ _ _ _ _ X I hn.1 hn.2 (lv_sub hl [0, 1] rfl)
  · refine lv_icmp_ge (tgt := 185) hx hb dX8_costs_73 (by decide) (fun n => absurd n c2) (fun _ => ?_)
    cases hf
    have k : s_V G (d + 7) M_X8_costs vs0 σ0 Y_X8_costs (79, [.ref v0, .int v4, .int v5, .int 0], σ) (e_I r) := k
    refine lv_iconst (v := 0) hx hb dX8_costs_76 (by decide) ?_
    refine lv_istore (lv' := [(6, .int 0), (0, .ref v0), (4, .int v4), (5, .int v5)]) hx hb dX8_costs_77 hl (by decide) rfl (fun ls hl => ?_)
    exact k.2 p e s m below meth c _ _ _ _ _ X I hn.1 hn.2 (lv_sub hl [1, 2, 3, 0] rfl)
set_option maxRecDepth 100000 in
set_option maxHeartbeats 4000000 in
theorem v_X8_costs_79 {G : sG} {d : Nat} {vs0 : List Value} {σ0 : sS} {v0 : Nat} {v4 : Int32} {v5 : Int32} {v6 : Int32} {σ : sS} {z : sZ Int32} {r : Int32 × sS} (hf : T_X8_costs_79 v0 v4 v5 v6 σ = some z) (k : s_K G (d + 7) M_X8_costs vs0 σ0 Y_X8_costs e_I z r) : s_V G (d + 7) M_X8_costs vs0 σ0 Y_X8_costs (79, [.ref v0, .int v4, .int v5, .int v6], σ) (e_I r) := by
  have le0 : s_le σ (e_I r).2 := s_lek hem_I (l_X8_costs_79 hf) k
  refine ⟨le0, ?_⟩
  intro p e s m below meth c H locs cells slots ls X I hn1 hn2 hl
  have hn : cells + σ0.2.1 ≤ σ.2.1 ∧ slots + σ0.2.2.1 ≤ σ.2.2.1 := ⟨hn1, hn2⟩
  have hl : lv_has ls 9 [(0, .ref v0), (4, .int v4), (5, .int v5), (6, .int v6)] := hl
  have hx := X.1
  have hb : c.code = cX8_costs := X.2.1
  have hown : s.vm.findClass RX8 = some m.cls := X.2.2.2.2.2.1
  have hts := X.2.2.2.2.2.2.1
  refine W.eq (g2 := F0 m 79 ls []) rfl ?_
  unfold T_X8_costs_79 at hf
  obtain ⟨x1, h1, hf⟩ := s_bind hf
  refine lv_iload hx hb dX8_costs_79 (lv_at hl 3 rfl) ?_
  refine lv_iconst (v := 1) hx hb dX8_costs_81 (by decide) ?_
  refine lv_aload_n hx hb dX8_costs_82 rfl (lv_at hl 0 rfl) ?_
  refine r_gi X I fl_X8_378 h1 dX8_costs_83 ?_
  refine lv_ishl hx hb dX8_costs_86 ?_
  rcases s_ite hf with ⟨c2, hf⟩ | ⟨c2, hf⟩
  · refine lv_icmp_ge (tgt := 179) hx hb dX8_costs_87 (by decide) (fun _ => ?_) (fun n => absurd c2 n)
    cases hf
    have k : s_V G (d + 7) M_X8_costs vs0 σ0 Y_X8_costs (67, [.ref v0, .int v4, .int (v5 + 1)], σ) (e_I r) := k
    refine lv_iinc (v := (v5 + 1)) (lv' := [(5, .int (v5 + 1)), (0, .ref v0), (4, .int v4), (6, .int v6)]) hx hb dX8_costs_179 hl (k := 2) rfl rfl (by decide) rfl (fun ls hl => ?_)
    refine lv_goto (tgt := 67) hx hb dX8_costs_182 (by decide) ?_
    exact k.2 p e s m below meth c _ _ _ _ _ X I hn.1 hn.2 (lv_sub hl [1, 2, 0] rfl)
  · refine lv_icmp_ge (tgt := 179) hx hb dX8_costs_87 (by decide) (fun n => absurd n c2) (fun _ => ?_)
    obtain ⟨q2, h3, hf⟩ := s_bind hf
    cases hf
    have k : s_V G (d + 7) M_X8_costs vs0 σ0 Y_X8_costs (103, [.ref v0, .int v4, .int v5, .int v6, .int q2.1, .int 0], q2.2) (e_I r) := k
    have le4 : s_le q2.2 (e_I r).2 := k.1
    refine lv_aload_n hx hb dX8_costs_90 rfl (lv_at hl 0 rfl) ?_
    refine lv_iload hx hb dX8_costs_91 (lv_at hl 2 rfl) ?_
    refine lv_iload hx hb dX8_costs_93 (lv_at hl 3 rfl) ?_
    refine r_callV (Y := M_X8_costAt) (v := some (.int q2.1)) X I w_2249 my_X8_costAt (by omega) (t_X8_costAt (G := G) (d := d + 5) h3) (b_X8_costAt h3) rfl rfl hl.1 rfl (Nat.le_of_ble_eq_true rfl) hn le4 dX8_costs_95 (fun H locs cells slots I hn1 hn2 => ?_)
    have I : s_I G q2.2 s H locs := I
    have hn : cells + σ0.2.1 ≤ q2.2.2.1 ∧ slots + σ0.2.2.1 ≤ q2.2.2.2.1 := ⟨hn1, hn2⟩
    refine lv_istore (lv' := [(7, .int q2.1), (0, .ref v0), (4, .int v4), (5, .int v5), (6, .int v6)]) hx hb dX8_costs_98 hl (by decide) rfl (fun ls hl => ?_)
    refine lv_iconst (v := 0) hx hb dX8_costs_100 (by decide) ?_
    refine lv_istore (lv' := [(8, .int 0), (7, .int q2.1), (0, .ref v0), (4, .int v4), (5, .int v5), (6, .int v6)]) hx hb dX8_costs_101 hl (by decide) rfl (fun ls hl => ?_)
    exact k.2 p e s m below meth c _ _ _ _ _ X I hn.1 hn.2 (lv_sub hl [2, 3, 4, 5, 1, 0] rfl)
set_option maxRecDepth 100000 in
set_option maxHeartbeats 4000000 in
theorem v_X8_costs_103 {G : sG} {d : Nat} {vs0 : List Value} {σ0 : sS} {v0 : Nat} {v4 : Int32} {v5 : Int32} {v6 : Int32} {v7 : Int32} {v8 : Int32} {σ : sS} {z : sZ Int32} {r : Int32 × sS} (hf : T_X8_costs_103 v0 v4 v5 v6 v7 v8 σ = some z) (k : s_K G (d + 7) M_X8_costs vs0 σ0 Y_X8_costs e_I z r) : s_V G (d + 7) M_X8_costs vs0 σ0 Y_X8_costs (103, [.ref v0, .int v4, .int v5, .int v6, .int v7, .int v8], σ) (e_I r) := by
  have le0 : s_le σ (e_I r).2 := s_lek hem_I (l_X8_costs_103 hf) k
  refine ⟨le0, ?_⟩
  intro p e s m below meth c H locs cells slots ls X I hn1 hn2 hl
  have hn : cells + σ0.2.1 ≤ σ.2.1 ∧ slots + σ0.2.2.1 ≤ σ.2.2.1 := ⟨hn1, hn2⟩
  have hl : lv_has ls 9 [(0, .ref v0), (4, .int v4), (5, .int v5), (6, .int v6), (7, .int v7), (8, .int v8)] := hl
  have hx := X.1
  have hb : c.code = cX8_costs := X.2.1
  have hown : s.vm.findClass RX8 = some m.cls := X.2.2.2.2.2.1
  have hts := X.2.2.2.2.2.2.1
  refine W.eq (g2 := F0 m 103 ls []) rfl ?_
  unfold T_X8_costs_103 at hf
  refine lv_iload hx hb dX8_costs_103 (lv_at hl 5 rfl) ?_
  refine lv_bipush (v := 15) hx hb dX8_costs_105 (by decide) ?_
  rcases s_ite hf with ⟨c1, hf⟩ | ⟨c1, hf⟩
  · refine lv_icmp_ge (tgt := 133) hx hb dX8_costs_107 (by decide) (fun _ => ?_) (fun n => absurd c1 n)
    refine lv_iload hx hb dX8_costs_133 (lv_at hl 1 rfl) ?_
    rcases s_ite hf with ⟨c2, hf⟩ | ⟨c2, hf⟩
    · refine lv_if_ne (tgt := 151) hx hb dX8_costs_135 (by decide) (fun n => absurd c2 n) (fun _ => ?_)
      obtain ⟨q1, h3, hf⟩ := s_bind hf
      have le4 : s_le q1.2 (e_I r).2 := by
        refine s_lek hem_I ?_ k
        rcases s_ite hf with ⟨-, hf⟩ | ⟨-, hf⟩
        · cases hf
          exact s_le.rf
        · cases hf
          exact s_le.rf
      refine lv_iload hx hb dX8_costs_138 (lv_at hl 4 rfl) ?_
      refine lv_aload_n hx hb dX8_costs_140 rfl (lv_at hl 0 rfl) ?_
      refine lv_iload hx hb dX8_costs_141 (lv_at hl 2 rfl) ?_
      refine lv_iload hx hb dX8_costs_143 (lv_at hl 3 rfl) ?_
      refine r_callV (Y := M_X8_costAt) (v := some (.int q1.1)) X I w_2249 my_X8_costAt (by omega) (t_X8_costAt (G := G) (d := d + 5) h3) (b_X8_costAt h3) rfl rfl hl.1 rfl (Nat.le_of_ble_eq_true rfl) hn le4 dX8_costs_145 (fun H locs cells slots I hn1 hn2 => ?_)
      have I : s_I G q1.2 s H locs := I
      have hn : cells + σ0.2.1 ≤ q1.2.2.1 ∧ slots + σ0.2.2.1 ≤ q1.2.2.2.1 := ⟨hn1, hn2⟩
      rcases s_ite hf with ⟨c5, hf⟩ | ⟨c5, hf⟩
      · refine lv_icmp_ge (tgt := 155) hx hb dX8_costs_148 (by decide) (fun _ => ?_) (fun n => absurd c5 n)
        cases hf
        have k : s_V G (d + 7) M_X8_costs vs0 σ0 Y_X8_costs (156, [.ref v0, .int v5, .int v6, .int v7, .int 0], q1.2) (e_I r) := k
        refine lv_iconst (v := 0) hx hb dX8_costs_155 (by decide) ?_
        exact k.2 p e s m below meth c _ _ _ _ _ X I hn.1 hn.2 (lv_sub hl [0, 2, 3, 4] rfl)
      · refine lv_icmp_ge (tgt := 155) hx hb dX8_costs_148 (by decide) (fun n => absurd n c5) (fun _ => ?_)
        cases hf
        have k : s_V G (d + 7) M_X8_costs vs0 σ0 Y_X8_costs (151, [.ref v0, .int v5, .int v6, .int v7], q1.2) (e_I r) := k
        exact k.2 p e s m below meth c _ _ _ _ _ X I hn.1 hn.2 (lv_sub hl [0, 2, 3, 4] rfl)
    · refine lv_if_ne (tgt := 151) hx hb dX8_costs_135 (by decide) (fun _ => ?_) (fun n => absurd n c2)
      cases hf
      have k : s_V G (d + 7) M_X8_costs vs0 σ0 Y_X8_costs (151, [.ref v0, .int v5, .int v6, .int v7], σ) (e_I r) := k
      exact k.2 p e s m below meth c _ _ _ _ _ X I hn.1 hn.2 (lv_sub hl [0, 2, 3, 4] rfl)
  · refine lv_icmp_ge (tgt := 133) hx hb dX8_costs_107 (by decide) (fun n => absurd n c1) (fun _ => ?_)
    obtain ⟨q2, h6, hf⟩ := s_bind hf
    cases hf
    have k : s_V G (d + 7) M_X8_costs vs0 σ0 Y_X8_costs (103, [.ref v0, .int v4, .int v5, .int v6, .int (if q2.1 < v7 then q2.1 else v7), .int (v8 + 1)], q2.2) (e_I r) := k
    have le7 : s_le q2.2 (e_I r).2 := k.1
    refine lv_iload hx hb dX8_costs_110 (lv_at hl 4 rfl) ?_
    refine lv_aload_n hx hb dX8_costs_112 rfl (lv_at hl 0 rfl) ?_
    refine lv_iload hx hb dX8_costs_113 (lv_at hl 5 rfl) ?_
    refine lv_iload hx hb dX8_costs_115 (lv_at hl 2 rfl) ?_
    refine lv_iload hx hb dX8_costs_117 (lv_at hl 3 rfl) ?_
    refine r_callV (Y := M_X8_byRule) (v := some (.int q2.1)) X I w_2253 my_X8_byRule (by omega) (t_X8_byRule (G := G) (d := d + 2) h6) (b_X8_byRule h6) rfl rfl hl.1 rfl (Nat.le_of_ble_eq_true rfl) hn le7 dX8_costs_119 (fun H locs cells slots I hn1 hn2 => ?_)
    have I : s_I G q2.2 s H locs := I
    have hn : cells + σ0.2.1 ≤ q2.2.2.1 ∧ slots + σ0.2.2.1 ≤ q2.2.2.2.1 := ⟨hn1, hn2⟩
    refine r_mmin X w_2264 w_765 w_179 w_766 hl.1 (Nat.le_of_ble_eq_true rfl) hn le7 dX8_costs_122 ?_
    refine lv_istore (lv' := [(7, .int (if q2.1 < v7 then q2.1 else v7)), (0, .ref v0), (4, .int v4), (5, .int v5), (6, .int v6), (8, .int v8)]) hx hb dX8_costs_125 hl (by decide) rfl (fun ls hl => ?_)
    refine lv_iinc (v := (v8 + 1)) (lv' := [(8, .int (v8 + 1)), (7, .int (if q2.1 < v7 then q2.1 else v7)), (0, .ref v0), (4, .int v4), (5, .int v5), (6, .int v6)]) hx hb dX8_costs_127 hl (k := 5) rfl rfl (by decide) rfl (fun ls hl => ?_)
    refine lv_goto (tgt := 103) hx hb dX8_costs_130 (by decide) ?_
    exact k.2 p e s m below meth c _ _ _ _ _ X I hn.1 hn.2 (lv_sub hl [2, 3, 4, 5, 1, 0] rfl)
set_option maxRecDepth 100000 in
set_option maxHeartbeats 4000000 in
theorem v_X8_costs_151 {G : sG} {d : Nat} {vs0 : List Value} {σ0 : sS} {v0 : Nat} {v5 : Int32} {v6 : Int32} {v7 : Int32} {σ : sS} {z : sZ Int32} {r : Int32 × sS} (hf : T_X8_costs_151 v0 v5 v6 v7 σ = some z) (k : s_K G (d + 7) M_X8_costs vs0 σ0 Y_X8_costs e_I z r) : s_V G (d + 7) M_X8_costs vs0 σ0 Y_X8_costs (151, [.ref v0, .int v5, .int v6, .int v7], σ) (e_I r) := by
  have le0 : s_le σ (e_I r).2 := s_lek hem_I (l_X8_costs_151 hf) k
  refine ⟨le0, ?_⟩
  intro p e s m below meth c H locs cells slots ls X I hn1 hn2 hl
  have hn : cells + σ0.2.1 ≤ σ.2.1 ∧ slots + σ0.2.2.1 ≤ σ.2.2.1 := ⟨hn1, hn2⟩
  have hl : lv_has ls 9 [(0, .ref v0), (5, .int v5), (6, .int v6), (7, .int v7)] := hl
  have hx := X.1
  have hb : c.code = cX8_costs := X.2.1
  have hown : s.vm.findClass RX8 = some m.cls := X.2.2.2.2.2.1
  have hts := X.2.2.2.2.2.2.1
  refine W.eq (g2 := F0 m 151 ls []) rfl ?_
  unfold T_X8_costs_151 at hf
  cases hf
  have k : s_V G (d + 7) M_X8_costs vs0 σ0 Y_X8_costs (156, [.ref v0, .int v5, .int v6, .int v7, .int 1], σ) (e_I r) := k
  refine lv_iconst (v := 1) hx hb dX8_costs_151 (by decide) ?_
  refine lv_goto (tgt := 156) hx hb dX8_costs_152 (by decide) ?_
  exact k.2 p e s m below meth c _ _ _ _ _ X I hn.1 hn.2 (lv_sub hl [0, 1, 2, 3] rfl)
set_option maxRecDepth 100000 in
set_option maxHeartbeats 4000000 in
theorem v_X8_costs_156 {G : sG} {d : Nat} {vs0 : List Value} {σ0 : sS} {v0 : Nat} {v5 : Int32} {v6 : Int32} {v7 : Int32} {w0 : Int32} {σ : sS} {z : sZ Int32} {r : Int32 × sS} (hf : T_X8_costs_156 v0 v5 v6 v7 w0 σ = some z) (k : s_K G (d + 7) M_X8_costs vs0 σ0 Y_X8_costs e_I z r) : s_V G (d + 7) M_X8_costs vs0 σ0 Y_X8_costs (156, [.ref v0, .int v5, .int v6, .int v7, .int w0], σ) (e_I r) := by
  have le0 : s_le σ (e_I r).2 := s_lek hem_I (l_X8_costs_156 hf) k
  refine ⟨le0, ?_⟩
  intro p e s m below meth c H locs cells slots ls X I hn1 hn2 hl
  have hn : cells + σ0.2.1 ≤ σ.2.1 ∧ slots + σ0.2.2.1 ≤ σ.2.2.1 := ⟨hn1, hn2⟩
  have hl : lv_has ls 9 [(0, .ref v0), (5, .int v5), (6, .int v6), (7, .int v7)] := hl
  have hx := X.1
  have hb : c.code = cX8_costs := X.2.1
  have hown : s.vm.findClass RX8 = some m.cls := X.2.2.2.2.2.1
  have hts := X.2.2.2.2.2.2.1
  refine W.eq (g2 := F0 m 156 ls [.int w0]) rfl ?_
  unfold T_X8_costs_156 at hf
  obtain ⟨x1, h1, hf⟩ := s_bind hf
  obtain ⟨σ2, h2, hf⟩ := s_bind hf
  cases hf
  have k : s_V G (d + 7) M_X8_costs vs0 σ0 Y_X8_costs (79, [.ref v0, .int w0, .int v5, .int (v6 + 1)], σ2) (e_I r) := k
  have le3 : s_le σ2 (e_I r).2 := k.1
  refine lv_istore (lv' := [(4, .int w0), (0, .ref v0), (5, .int v5), (6, .int v6), (7, .int v7)]) hx hb dX8_costs_156 hl (by decide) rfl (fun ls hl => ?_)
  refine lv_aload_n hx hb dX8_costs_158 rfl (lv_at hl 1 rfl) ?_
  refine r_gr X I fl_X8_89 h1 dX8_costs_159 ?_
  refine lv_bipush (v := 8) hx hb dX8_costs_162 (by decide) ?_
  refine lv_iload hx hb dX8_costs_164 (lv_at hl 2 rfl) ?_
  refine lv_imul hx hb dX8_costs_166 ?_
  refine lv_iload hx hb dX8_costs_167 (lv_at hl 3 rfl) ?_
  refine lv_iadd hx hb dX8_costs_169 ?_
  refine lv_iload hx hb dX8_costs_170 (lv_at hl 4 rfl) ?_
  refine r_iast X I h2 dX8_costs_172 (fun H locs I => ?_)
  have hn := s_k2 (s_si_2 h2) hn
  refine lv_iinc (v := (v6 + 1)) (lv' := [(6, .int (v6 + 1)), (4, .int w0), (0, .ref v0), (5, .int v5), (7, .int v7)]) hx hb dX8_costs_173 hl (k := 3) rfl rfl (by decide) rfl (fun ls hl => ?_)
  refine lv_goto (tgt := 79) hx hb dX8_costs_176 (by decide) ?_
  exact k.2 p e s m below meth c _ _ _ _ _ X I hn.1 hn.2 (lv_sub hl [2, 1, 3, 0] rfl)
theorem v_X8_costs {G : sG} {d : Nat} {vs0 : List Value} {σ0 : sS} {x : sL} {z : sZ Int32} {r : Int32 × sS} (hs : S_X8_costs x = some z) (k : s_K G (d + 7) M_X8_costs vs0 σ0 Y_X8_costs e_I z r) : s_V G (d + 7) M_X8_costs vs0 σ0 Y_X8_costs x (e_I r) := by
  obtain ⟨pc, vs, σ⟩ := x
  unfold S_X8_costs at hs
  dsimp only at hs
  rcases s_ite hs with ⟨c, hs⟩ | ⟨-, hs⟩
  · subst c
    unfold U_X8_costs_0 at hs
    obtain ⟨a0, g0, hs⟩ := s_bind hs
    obtain ⟨a1, g1, hs⟩ := s_bind hs
    obtain ⟨a2, g2, hs⟩ := s_bind hs
    obtain ⟨a3, g3, hs⟩ := s_bind hs
    obtain ⟨u9, ge, hs⟩ := s_bind hs
    rw [g_r_to g0, g_i_to g1, g_i_to g2, g_i_to g3, g_e_to ge]
    exact v_X8_costs_0 hs k
  rcases s_ite hs with ⟨c, hs⟩ | ⟨-, hs⟩
  · subst c
    unfold U_X8_costs_27 at hs
    obtain ⟨a0, g0, hs⟩ := s_bind hs
    obtain ⟨a1, g1, hs⟩ := s_bind hs
    obtain ⟨u9, ge, hs⟩ := s_bind hs
    rw [g_r_to g0, g_i_to g1, g_e_to ge]
    exact v_X8_costs_27 hs k
  rcases s_ite hs with ⟨c, hs⟩ | ⟨-, hs⟩
  · subst c
    unfold U_X8_costs_56 at hs
    obtain ⟨a0, g0, hs⟩ := s_bind hs
    obtain ⟨a1, g1, hs⟩ := s_bind hs
    obtain ⟨u9, ge, hs⟩ := s_bind hs
    rw [g_r_to g0, g_i_to g1, g_e_to ge]
    exact v_X8_costs_56 hs k
  rcases s_ite hs with ⟨c, hs⟩ | ⟨-, hs⟩
  · subst c
    unfold U_X8_costs_67 at hs
    obtain ⟨a0, g0, hs⟩ := s_bind hs
    obtain ⟨a1, g1, hs⟩ := s_bind hs
    obtain ⟨a2, g2, hs⟩ := s_bind hs
    obtain ⟨u9, ge, hs⟩ := s_bind hs
    rw [g_r_to g0, g_i_to g1, g_i_to g2, g_e_to ge]
    exact v_X8_costs_67 hs k
  rcases s_ite hs with ⟨c, hs⟩ | ⟨-, hs⟩
  · subst c
    unfold U_X8_costs_79 at hs
    obtain ⟨a0, g0, hs⟩ := s_bind hs
    obtain ⟨a1, g1, hs⟩ := s_bind hs
    obtain ⟨a2, g2, hs⟩ := s_bind hs
    obtain ⟨a3, g3, hs⟩ := s_bind hs
    obtain ⟨u9, ge, hs⟩ := s_bind hs
    rw [g_r_to g0, g_i_to g1, g_i_to g2, g_i_to g3, g_e_to ge]
    exact v_X8_costs_79 hs k
  rcases s_ite hs with ⟨c, hs⟩ | ⟨-, hs⟩
  · subst c
    unfold U_X8_costs_103 at hs
    obtain ⟨a0, g0, hs⟩ := s_bind hs
    obtain ⟨a1, g1, hs⟩ := s_bind hs
    obtain ⟨a2, g2, hs⟩ := s_bind hs
    obtain ⟨a3, g3, hs⟩ := s_bind hs
    obtain ⟨a4, g4, hs⟩ := s_bind hs
    obtain ⟨a5, g5, hs⟩ := s_bind hs
    obtain ⟨u9, ge, hs⟩ := s_bind hs
    rw [g_r_to g0, g_i_to g1, g_i_to g2, g_i_to g3, g_i_to g4, g_i_to g5, g_e_to ge]
    exact v_X8_costs_103 hs k
  rcases s_ite hs with ⟨c, hs⟩ | ⟨-, hs⟩
  · subst c
    unfold U_X8_costs_151 at hs
    obtain ⟨a0, g0, hs⟩ := s_bind hs
    obtain ⟨a1, g1, hs⟩ := s_bind hs
    obtain ⟨a2, g2, hs⟩ := s_bind hs
    obtain ⟨a3, g3, hs⟩ := s_bind hs
    obtain ⟨u9, ge, hs⟩ := s_bind hs
    rw [g_r_to g0, g_i_to g1, g_i_to g2, g_i_to g3, g_e_to ge]
    exact v_X8_costs_151 hs k
  rcases s_ite hs with ⟨c, hs⟩ | ⟨-, hs⟩
  · subst c
    unfold U_X8_costs_156 at hs
    obtain ⟨a0, g0, hs⟩ := s_bind hs
    obtain ⟨a1, g1, hs⟩ := s_bind hs
    obtain ⟨a2, g2, hs⟩ := s_bind hs
    obtain ⟨a3, g3, hs⟩ := s_bind hs
    obtain ⟨a4, g4, hs⟩ := s_bind hs
    obtain ⟨u9, ge, hs⟩ := s_bind hs
    rw [g_r_to g0, g_i_to g1, g_i_to g2, g_i_to g3, g_i_to g4, g_e_to ge]
    exact v_X8_costs_156 hs k
  cases hs
theorem t_X8_costs {G : sG} {d : Nat} {v0 : Nat} {v1 : Int32} {v2 : Int32} {v3 : Int32} {σ : sS} {q : Int32 × sS} (h : F_X8_costs v0 v1 v2 v3 σ = some q) : s_T G (d + 7) M_X8_costs [.ref v0, .int v1, .int v2, .int v3] σ (e_I q) := by
  unfold F_X8_costs at h
  obtain ⟨-, -, h⟩ := s_bind h
  exact s_ofV rfl (by decide) (Nat.le_of_ble_eq_true rfl) rfl rfl (s_run_ind (V := fun x r => s_V G (d + 7) M_X8_costs [.ref v0, .int v1, .int v2, .int v3] σ Y_X8_costs x (e_I r)) (fun x z r hs hk => v_X8_costs hs (by cases z <;> exact hk)) h)
/-! X8_cheapest -/
noncomputable def T_X8_cheapest_0 (v0 : Nat) (v1 : Int32) (v2 : Int32) (v3 : Int32) (σ : sS) : Option (sZ Int32) :=
  (s_pf σ v0 8 0 (.int 0)).bind fun σ1 =>
  (F_X8_noProof v0 v1 v2 v3 σ1).bind fun q2 =>
  (F_X8_throwsIf v0 q2.1 1 q2.2).bind fun q3 =>
  if q3.1 = 0 then ((F_X8_costs v0 v1 v2 v3 q3.2).bind fun q4 =>
  some (.inr (q4.1, q4.2)))
  else (some (.inr (0, q3.2)))
noncomputable def U_X8_cheapest_0 (vs : List Value) (σ : sS) : Option (sZ Int32) := (g_r vs).bind fun a0 => (g_i a0.2).bind fun a1 => (g_i a1.2).bind fun a2 => (g_i a2.2).bind fun a3 => (g_e a3.2).bind fun _ => T_X8_cheapest_0 a0.1 a1.1 a2.1 a3.1 σ
noncomputable def S_X8_cheapest (x : sL) : Option (sZ Int32) := if x.1 = 0 then U_X8_cheapest_0 x.2.1 x.2.2 else none
def Y_X8_cheapest (pc : Nat) : List Nat := if pc = 0 then [0, 1, 2, 3] else []
noncomputable def F_X8_cheapest (v0 : Nat) (v1 : Int32) (v2 : Int32) (v3 : Int32) (σ : sS) : Option (Int32 × sS) := (s_is σ v0 8).bind fun _ => s_run S_X8_cheapest (0, [.ref v0, .int v1, .int v2, .int v3], σ)
theorem l_X8_cheapest_0 {v0 : Nat} {v1 : Int32} {v2 : Int32} {v3 : Int32} {σ : sS} {z : sZ Int32} (hf : T_X8_cheapest_0 v0 v1 v2 v3 σ = some z) : s_lz σ z := by
  unfold T_X8_cheapest_0 at hf
  obtain ⟨σ1, hh, hf⟩ := s_bind hf
  refine s_lz.tr (s_le2 (s_pf_2 hh)) ?_
  obtain ⟨q2, hh, hf⟩ := s_bind hf
  refine s_lz.tr (l_X8_noProof hh) ?_
  obtain ⟨q3, hh, hf⟩ := s_bind hf
  refine s_lz.tr (l_X8_throwsIf hh) ?_
  rcases s_ite hf with ⟨-, hf⟩ | ⟨-, hf⟩
  · obtain ⟨q4, hh, hf⟩ := s_bind hf
    refine s_lz.tr (l_X8_costs hh) ?_
    cases hf
    exact s_le.rf
  · cases hf
    exact s_le.rf
theorem l_X8_cheapest_s {x : sL} {z : sZ Int32} (hs : S_X8_cheapest x = some z) : s_lz x.2.2 z := by
  obtain ⟨pc, vs, σ⟩ := x
  unfold S_X8_cheapest at hs
  dsimp only at hs ⊢
  rcases s_ite hs with ⟨c, hs⟩ | ⟨-, hs⟩
  · subst c
    unfold U_X8_cheapest_0 at hs
    obtain ⟨a0, g0, hs⟩ := s_bind hs
    obtain ⟨a1, g1, hs⟩ := s_bind hs
    obtain ⟨a2, g2, hs⟩ := s_bind hs
    obtain ⟨a3, g3, hs⟩ := s_bind hs
    obtain ⟨u9, ge, hs⟩ := s_bind hs
    exact l_X8_cheapest_0 hs
  cases hs
theorem l_X8_cheapest {v0 : Nat} {v1 : Int32} {v2 : Int32} {v3 : Int32} {σ : sS} {q : Int32 × sS} (h : F_X8_cheapest v0 v1 v2 v3 σ = some q) : s_le σ q.2 := by
  unfold F_X8_cheapest at h
  obtain ⟨-, -, h⟩ := s_bind h
  exact s_run_ind (V := fun x r => s_le x.2.2 r.2) (fun x z r hs hk => by
    have h9 := l_X8_cheapest_s hs
    cases z with
    | inl y => exact s_le.tr h9 hk
    | inr q => cases hk; exact h9) h
theorem b_X8_cheapest {v0 : Nat} {v1 : Int32} {v2 : Int32} {v3 : Int32} {σ : sS} {q : Int32 × sS} (h : F_X8_cheapest v0 v1 v2 v3 σ = some q) : ∃ fs, σ.1 v0 = some (.inr (8, fs)) := by
  unfold F_X8_cheapest at h
  obtain ⟨u, hu, -⟩ := s_bind h
  exact s_is_to hu
set_option maxRecDepth 100000 in
set_option maxHeartbeats 4000000 in
theorem v_X8_cheapest_0 {G : sG} {d : Nat} {vs0 : List Value} {σ0 : sS} {v0 : Nat} {v1 : Int32} {v2 : Int32} {v3 : Int32} {σ : sS} {z : sZ Int32} {r : Int32 × sS} (hf : T_X8_cheapest_0 v0 v1 v2 v3 σ = some z) (k : s_K G (d + 8) M_X8_cheapest vs0 σ0 Y_X8_cheapest e_I z r) : s_V G (d + 8) M_X8_cheapest vs0 σ0 Y_X8_cheapest (0, [.ref v0, .int v1, .int v2, .int v3], σ) (e_I r) := by
  have le0 : s_le σ (e_I r).2 := s_lek hem_I (l_X8_cheapest_0 hf) k
  refine ⟨le0, ?_⟩
  intro p e s m below meth c H locs cells slots ls X I hn1 hn2 hl
  have hn : cells + σ0.2.1 ≤ σ.2.1 ∧ slots + σ0.2.2.1 ≤ σ.2.2.1 := ⟨hn1, hn2⟩
  have hl : lv_has ls 4 [(0, .ref v0), (1, .int v1), (2, .int v2), (3, .int v3)] := hl
  have hx := X.1
  have hb : c.code = cX8_cheapest := X.2.1
  have hown : s.vm.findClass RX8 = some m.cls := X.2.2.2.2.2.1
  have hts := X.2.2.2.2.2.2.1
  refine W.eq (g2 := F0 m 0 ls []) rfl ?_
  unfold T_X8_cheapest_0 at hf
  obtain ⟨σ1, h1, hf⟩ := s_bind hf
  obtain ⟨q2, h2, hf⟩ := s_bind hf
  obtain ⟨q3, h3, hf⟩ := s_bind hf
  have le4 : s_le q3.2 (e_I r).2 := by
    refine s_lek hem_I ?_ k
    rcases s_ite hf with ⟨-, hf⟩ | ⟨-, hf⟩
    · obtain ⟨q4, hh, hf⟩ := s_bind hf
      refine s_lz.tr (l_X8_costs hh) ?_
      cases hf
      exact s_le.rf
    · cases hf
      exact s_le.rf
  have le5 := s_le.tr (l_X8_throwsIf h3) le4
  have le6 := s_le.tr (l_X8_noProof h2) le5
  refine lv_aload_n hx hb dX8_cheapest_0 rfl (lv_at hl 0 rfl) ?_
  refine lv_iconst (v := 0) hx hb dX8_cheapest_1 (by decide) ?_
  refine r_put X I fp_X8_3 (fun h => by cases h) h1 rfl rfl dX8_cheapest_2 (fun H locs I => ?_)
  have hn := s_k2 (s_pf_2 h1) hn
  refine lv_aload_n hx hb dX8_cheapest_5 rfl (lv_at hl 0 rfl) ?_
  refine lv_aload_n hx hb dX8_cheapest_6 rfl (lv_at hl 0 rfl) ?_
  refine lv_iload_n hx hb dX8_cheapest_7 rfl (lv_at hl 1 rfl) ?_
  refine lv_iload_n hx hb dX8_cheapest_8 rfl (lv_at hl 2 rfl) ?_
  refine lv_iload_n hx hb dX8_cheapest_9 rfl (lv_at hl 3 rfl) ?_
  refine r_callV (Y := M_X8_noProof) (v := some (.int q2.1)) X I w_2208 my_X8_noProof (by omega) (t_X8_noProof (G := G) (d := d + 4) h2) (b_X8_noProof h2) rfl rfl hl.1 rfl (Nat.le_of_ble_eq_true rfl) hn le5 dX8_cheapest_10 (fun H locs cells slots I hn1 hn2 => ?_)
  have I : s_I G q2.2 s H locs := I
  have hn : cells + σ0.2.1 ≤ q2.2.2.1 ∧ slots + σ0.2.2.1 ≤ q2.2.2.2.1 := ⟨hn1, hn2⟩
  refine lv_iconst (v := 1) hx hb dX8_cheapest_13 (by decide) ?_
  refine r_callV (Y := M_X8_throwsIf) (v := some (.int q3.1)) X I w_1897 my_X8_throwsIf (by omega) (t_X8_throwsIf (G := G) (d := d + 6) h3) (b_X8_throwsIf h3) rfl rfl hl.1 rfl (Nat.le_of_ble_eq_true rfl) hn le4 dX8_cheapest_14 (fun H locs cells slots I hn1 hn2 => ?_)
  have I : s_I G q3.2 s H locs := I
  have hn : cells + σ0.2.1 ≤ q3.2.2.1 ∧ slots + σ0.2.2.1 ≤ q3.2.2.2.1 := ⟨hn1, hn2⟩
  rcases s_ite hf with ⟨c7, hf⟩ | ⟨c7, hf⟩
  · refine lv_if_eq (tgt := 24) hx hb dX8_cheapest_17 (by decide) (fun _ => ?_) (fun n => absurd c7 n)
    obtain ⟨q4, h8, hf⟩ := s_bind hf
    cases hf
    have k : _ = r := k
    subst k
    have le9 : s_le q4.2 q4.2 := s_le.rf
    refine lv_aload_n hx hb dX8_cheapest_24 rfl (lv_at hl 0 rfl) ?_
    refine lv_iload_n hx hb dX8_cheapest_25 rfl (lv_at hl 1 rfl) ?_
    refine lv_iload_n hx hb dX8_cheapest_26 rfl (lv_at hl 2 rfl) ?_
    refine lv_iload_n hx hb dX8_cheapest_27 rfl (lv_at hl 3 rfl) ?_
    refine r_callV (Y := M_X8_costs) (v := some (.int q4.1)) X I w_2212 my_X8_costs (by omega) (t_X8_costs (G := G) (d := d + 0) h8) (b_X8_costs h8) rfl rfl hl.1 rfl (Nat.le_of_ble_eq_true rfl) hn le9 dX8_cheapest_28 (fun H locs cells slots I hn1 hn2 => ?_)
    have I : s_I G q4.2 s H locs := I
    have hn : cells + σ0.2.1 ≤ q4.2.2.1 ∧ slots + σ0.2.2.1 ≤ q4.2.2.2.1 := ⟨hn1, hn2⟩
    exact r_iret X I rfl rfl rfl hn dX8_cheapest_31
  · refine lv_if_eq (tgt := 24) hx hb dX8_cheapest_17 (by decide) (fun n => absurd n c7) (fun _ => ?_)
    cases hf
    have k : _ = r := k
    subst k
    refine lv_iconst (v := 0) hx hb dX8_cheapest_20 (by decide) ?_
    refine lv_goto (tgt := 31) hx hb dX8_cheapest_21 (by decide) ?_
    exact r_iret X I rfl rfl rfl hn dX8_cheapest_31
theorem v_X8_cheapest {G : sG} {d : Nat} {vs0 : List Value} {σ0 : sS} {x : sL} {z : sZ Int32} {r : Int32 × sS} (hs : S_X8_cheapest x = some z) (k : s_K G (d + 8) M_X8_cheapest vs0 σ0 Y_X8_cheapest e_I z r) : s_V G (d + 8) M_X8_cheapest vs0 σ0 Y_X8_cheapest x (e_I r) := by
  obtain ⟨pc, vs, σ⟩ := x
  unfold S_X8_cheapest at hs
  dsimp only at hs
  rcases s_ite hs with ⟨c, hs⟩ | ⟨-, hs⟩
  · subst c
    unfold U_X8_cheapest_0 at hs
    obtain ⟨a0, g0, hs⟩ := s_bind hs
    obtain ⟨a1, g1, hs⟩ := s_bind hs
    obtain ⟨a2, g2, hs⟩ := s_bind hs
    obtain ⟨a3, g3, hs⟩ := s_bind hs
    obtain ⟨u9, ge, hs⟩ := s_bind hs
    rw [g_r_to g0, g_i_to g1, g_i_to g2, g_i_to g3, g_e_to ge]
    exact v_X8_cheapest_0 hs k
  cases hs
theorem t_X8_cheapest {G : sG} {d : Nat} {v0 : Nat} {v1 : Int32} {v2 : Int32} {v3 : Int32} {σ : sS} {q : Int32 × sS} (h : F_X8_cheapest v0 v1 v2 v3 σ = some q) : s_T G (d + 8) M_X8_cheapest [.ref v0, .int v1, .int v2, .int v3] σ (e_I q) := by
  unfold F_X8_cheapest at h
  obtain ⟨-, -, h⟩ := s_bind h
  exact s_ofV rfl (by decide) (Nat.le_of_ble_eq_true rfl) rfl rfl (s_run_ind (V := fun x r => s_V G (d + 8) M_X8_cheapest [.ref v0, .int v1, .int v2, .int v3] σ Y_X8_cheapest x (e_I r)) (fun x z r hs hk => v_X8_cheapest hs (by cases z <;> exact hk)) h)
/-! X8_lastly -/
noncomputable def T_X8_lastly_0 (v0 : Nat) (v1 : Int32) (v2 : Int32) (v3 : Int32) (σ : sS) : Option (sZ Int32) :=
  (s_pf σ v0 8 0 (.int 0)).bind fun σ1 =>
  (F_X8_noProof v0 v1 v2 v3 σ1).bind fun q2 =>
  (F_X8_throwsIf v0 q2.1 1 q2.2).bind fun q3 =>
  if q3.1 = 0 then ((F_X8_costs v0 v1 v2 v3 q3.2).bind fun q4 =>
  if (0 : Int32) ≤ q4.1 then (some (.inl (41, [.ref v0, .int q4.1, .int 0], q4.2)))
  else (some (.inr ((-1), q4.2))))
  else (some (.inr (0, q3.2)))
noncomputable def U_X8_lastly_0 (vs : List Value) (σ : sS) : Option (sZ Int32) := (g_r vs).bind fun a0 => (g_i a0.2).bind fun a1 => (g_i a1.2).bind fun a2 => (g_i a2.2).bind fun a3 => (g_e a3.2).bind fun _ => T_X8_lastly_0 a0.1 a1.1 a2.1 a3.1 σ
noncomputable def T_X8_lastly_41 (v0 : Nat) (v4 : Int32) (v5 : Int32) (σ : sS) : Option (sZ Int32) :=
  (F_X8_byRule v0 v5 0 0 σ).bind fun q1 =>
  if q1.1 = v4 then (some (.inr (v5, q1.2)))
  else (some (.inl (41, [.ref v0, .int v4, .int (v5 + 1)], q1.2)))
noncomputable def U_X8_lastly_41 (vs : List Value) (σ : sS) : Option (sZ Int32) := (g_r vs).bind fun a0 => (g_i a0.2).bind fun a1 => (g_i a1.2).bind fun a2 => (g_e a2.2).bind fun _ => T_X8_lastly_41 a0.1 a1.1 a2.1 σ
noncomputable def S_X8_lastly (x : sL) : Option (sZ Int32) := if x.1 = 0 then U_X8_lastly_0 x.2.1 x.2.2 else if x.1 = 41 then U_X8_lastly_41 x.2.1 x.2.2 else none
def Y_X8_lastly (pc : Nat) : List Nat := if pc = 0 then [0, 1, 2, 3] else if pc = 41 then [0, 4, 5] else []
noncomputable def F_X8_lastly (v0 : Nat) (v1 : Int32) (v2 : Int32) (v3 : Int32) (σ : sS) : Option (Int32 × sS) := (s_is σ v0 8).bind fun _ => s_run S_X8_lastly (0, [.ref v0, .int v1, .int v2, .int v3], σ)
theorem l_X8_lastly_0 {v0 : Nat} {v1 : Int32} {v2 : Int32} {v3 : Int32} {σ : sS} {z : sZ Int32} (hf : T_X8_lastly_0 v0 v1 v2 v3 σ = some z) : s_lz σ z := by
  unfold T_X8_lastly_0 at hf
  obtain ⟨σ1, hh, hf⟩ := s_bind hf
  refine s_lz.tr (s_le2 (s_pf_2 hh)) ?_
  obtain ⟨q2, hh, hf⟩ := s_bind hf
  refine s_lz.tr (l_X8_noProof hh) ?_
  obtain ⟨q3, hh, hf⟩ := s_bind hf
  refine s_lz.tr (l_X8_throwsIf hh) ?_
  rcases s_ite hf with ⟨-, hf⟩ | ⟨-, hf⟩
  · obtain ⟨q4, hh, hf⟩ := s_bind hf
    refine s_lz.tr (l_X8_costs hh) ?_
    rcases s_ite hf with ⟨-, hf⟩ | ⟨-, hf⟩
    · cases hf
      exact s_le.rf
    · cases hf
      exact s_le.rf
  · cases hf
    exact s_le.rf
theorem l_X8_lastly_41 {v0 : Nat} {v4 : Int32} {v5 : Int32} {σ : sS} {z : sZ Int32} (hf : T_X8_lastly_41 v0 v4 v5 σ = some z) : s_lz σ z := by
  unfold T_X8_lastly_41 at hf
  obtain ⟨q1, hh, hf⟩ := s_bind hf
  refine s_lz.tr (l_X8_byRule hh) ?_
  rcases s_ite hf with ⟨-, hf⟩ | ⟨-, hf⟩
  · cases hf
    exact s_le.rf
  · cases hf
    exact s_le.rf
theorem l_X8_lastly_s {x : sL} {z : sZ Int32} (hs : S_X8_lastly x = some z) : s_lz x.2.2 z := by
  obtain ⟨pc, vs, σ⟩ := x
  unfold S_X8_lastly at hs
  dsimp only at hs ⊢
  rcases s_ite hs with ⟨c, hs⟩ | ⟨-, hs⟩
  · subst c
    unfold U_X8_lastly_0 at hs
    obtain ⟨a0, g0, hs⟩ := s_bind hs
    obtain ⟨a1, g1, hs⟩ := s_bind hs
    obtain ⟨a2, g2, hs⟩ := s_bind hs
    obtain ⟨a3, g3, hs⟩ := s_bind hs
    obtain ⟨u9, ge, hs⟩ := s_bind hs
    exact l_X8_lastly_0 hs
  rcases s_ite hs with ⟨c, hs⟩ | ⟨-, hs⟩
  · subst c
    unfold U_X8_lastly_41 at hs
    obtain ⟨a0, g0, hs⟩ := s_bind hs
    obtain ⟨a1, g1, hs⟩ := s_bind hs
    obtain ⟨a2, g2, hs⟩ := s_bind hs
    obtain ⟨u9, ge, hs⟩ := s_bind hs
    exact l_X8_lastly_41 hs
  cases hs
theorem l_X8_lastly {v0 : Nat} {v1 : Int32} {v2 : Int32} {v3 : Int32} {σ : sS} {q : Int32 × sS} (h : F_X8_lastly v0 v1 v2 v3 σ = some q) : s_le σ q.2 := by
  unfold F_X8_lastly at h
  obtain ⟨-, -, h⟩ := s_bind h
  exact s_run_ind (V := fun x r => s_le x.2.2 r.2) (fun x z r hs hk => by
    have h9 := l_X8_lastly_s hs
    cases z with
    | inl y => exact s_le.tr h9 hk
    | inr q => cases hk; exact h9) h
theorem b_X8_lastly {v0 : Nat} {v1 : Int32} {v2 : Int32} {v3 : Int32} {σ : sS} {q : Int32 × sS} (h : F_X8_lastly v0 v1 v2 v3 σ = some q) : ∃ fs, σ.1 v0 = some (.inr (8, fs)) := by
  unfold F_X8_lastly at h
  obtain ⟨u, hu, -⟩ := s_bind h
  exact s_is_to hu
set_option maxRecDepth 100000 in
set_option maxHeartbeats 4000000 in
theorem v_X8_lastly_0 {G : sG} {d : Nat} {vs0 : List Value} {σ0 : sS} {v0 : Nat} {v1 : Int32} {v2 : Int32} {v3 : Int32} {σ : sS} {z : sZ Int32} {r : Int32 × sS} (hf : T_X8_lastly_0 v0 v1 v2 v3 σ = some z) (k : s_K G (d + 8) M_X8_lastly vs0 σ0 Y_X8_lastly e_I z r) : s_V G (d + 8) M_X8_lastly vs0 σ0 Y_X8_lastly (0, [.ref v0, .int v1, .int v2, .int v3], σ) (e_I r) := by
  have le0 : s_le σ (e_I r).2 := s_lek hem_I (l_X8_lastly_0 hf) k
  refine ⟨le0, ?_⟩
  intro p e s m below meth c H locs cells slots ls X I hn1 hn2 hl
  have hn : cells + σ0.2.1 ≤ σ.2.1 ∧ slots + σ0.2.2.1 ≤ σ.2.2.1 := ⟨hn1, hn2⟩
  have hl : lv_has ls 6 [(0, .ref v0), (1, .int v1), (2, .int v2), (3, .int v3)] := hl
  have hx := X.1
  have hb : c.code = cX8_lastly := X.2.1
  have hown : s.vm.findClass RX8 = some m.cls := X.2.2.2.2.2.1
  have hts := X.2.2.2.2.2.2.1
  refine W.eq (g2 := F0 m 0 ls []) rfl ?_
  unfold T_X8_lastly_0 at hf
  obtain ⟨σ1, h1, hf⟩ := s_bind hf
  obtain ⟨q2, h2, hf⟩ := s_bind hf
  obtain ⟨q3, h3, hf⟩ := s_bind hf
  have le4 : s_le q3.2 (e_I r).2 := by
    refine s_lek hem_I ?_ k
    rcases s_ite hf with ⟨-, hf⟩ | ⟨-, hf⟩
    · obtain ⟨q4, hh, hf⟩ := s_bind hf
      refine s_lz.tr (l_X8_costs hh) ?_
      rcases s_ite hf with ⟨-, hf⟩ | ⟨-, hf⟩
      · cases hf
        exact s_le.rf
      · cases hf
        exact s_le.rf
    · cases hf
      exact s_le.rf
  have le5 := s_le.tr (l_X8_throwsIf h3) le4
  have le6 := s_le.tr (l_X8_noProof h2) le5
  refine lv_aload_n hx hb dX8_lastly_0 rfl (lv_at hl 0 rfl) ?_
  refine lv_iconst (v := 0) hx hb dX8_lastly_1 (by decide) ?_
  refine r_put X I fp_X8_3 (fun h => by cases h) h1 rfl rfl dX8_lastly_2 (fun H locs I => ?_)
  have hn := s_k2 (s_pf_2 h1) hn
  refine lv_aload_n hx hb dX8_lastly_5 rfl (lv_at hl 0 rfl) ?_
  refine lv_aload_n hx hb dX8_lastly_6 rfl (lv_at hl 0 rfl) ?_
  refine lv_iload_n hx hb dX8_lastly_7 rfl (lv_at hl 1 rfl) ?_
  refine lv_iload_n hx hb dX8_lastly_8 rfl (lv_at hl 2 rfl) ?_
  refine lv_iload_n hx hb dX8_lastly_9 rfl (lv_at hl 3 rfl) ?_
  refine r_callV (Y := M_X8_noProof) (v := some (.int q2.1)) X I w_2208 my_X8_noProof (by omega) (t_X8_noProof (G := G) (d := d + 4) h2) (b_X8_noProof h2) rfl rfl hl.1 rfl (Nat.le_of_ble_eq_true rfl) hn le5 dX8_lastly_10 (fun H locs cells slots I hn1 hn2 => ?_)
  have I : s_I G q2.2 s H locs := I
  have hn : cells + σ0.2.1 ≤ q2.2.2.1 ∧ slots + σ0.2.2.1 ≤ q2.2.2.2.1 := ⟨hn1, hn2⟩
  refine lv_iconst (v := 1) hx hb dX8_lastly_13 (by decide) ?_
  refine r_callV (Y := M_X8_throwsIf) (v := some (.int q3.1)) X I w_1897 my_X8_throwsIf (by omega) (t_X8_throwsIf (G := G) (d := d + 6) h3) (b_X8_throwsIf h3) rfl rfl hl.1 rfl (Nat.le_of_ble_eq_true rfl) hn le4 dX8_lastly_14 (fun H locs cells slots I hn1 hn2 => ?_)
  have I : s_I G q3.2 s H locs := I
  have hn : cells + σ0.2.1 ≤ q3.2.2.1 ∧ slots + σ0.2.2.1 ≤ q3.2.2.2.1 := ⟨hn1, hn2⟩
  rcases s_ite hf with ⟨c7, hf⟩ | ⟨c7, hf⟩
  · refine lv_if_eq (tgt := 22) hx hb dX8_lastly_17 (by decide) (fun _ => ?_) (fun n => absurd c7 n)
    obtain ⟨q4, h8, hf⟩ := s_bind hf
    have le9 : s_le q4.2 (e_I r).2 := by
      refine s_lek hem_I ?_ k
      rcases s_ite hf with ⟨-, hf⟩ | ⟨-, hf⟩
      · cases hf
        exact s_le.rf
      · cases hf
        exact s_le.rf
    refine lv_aload_n hx hb dX8_lastly_22 rfl (lv_at hl 0 rfl) ?_
    refine lv_iload_n hx hb dX8_lastly_23 rfl (lv_at hl 1 rfl) ?_
    refine lv_iload_n hx hb dX8_lastly_24 rfl (lv_at hl 2 rfl) ?_
    refine lv_iload_n hx hb dX8_lastly_25 rfl (lv_at hl 3 rfl) ?_
    refine r_callV (Y := M_X8_costs) (v := some (.int q4.1)) X I w_2212 my_X8_costs (by omega) (t_X8_costs (G := G) (d := d + 0) h8) (b_X8_costs h8) rfl rfl hl.1 rfl (Nat.le_of_ble_eq_true rfl) hn le9 dX8_lastly_26 (fun H locs cells slots I hn1 hn2 => ?_)
    have I : s_I G q4.2 s H locs := I
    have hn : cells + σ0.2.1 ≤ q4.2.2.1 ∧ slots + σ0.2.2.1 ≤ q4.2.2.2.1 := ⟨hn1, hn2⟩
    refine lv_istore (lv' := [(4, .int q4.1), (0, .ref v0), (1, .int v1), (2, .int v2), (3, .int v3)]) hx hb dX8_lastly_29 hl (by decide) rfl (fun ls hl => ?_)
    refine lv_iload hx hb dX8_lastly_31 (lv_at hl 0 rfl) ?_
    rcases s_ite hf with ⟨c10, hf⟩ | ⟨c10, hf⟩
    · refine lv_if_ge (tgt := 38) hx hb dX8_lastly_33 (by decide) (fun _ => ?_) (fun n => absurd c10 n)
      cases hf
      have k : s_V G (d + 8) M_X8_lastly vs0 σ0 Y_X8_lastly (41, [.ref v0, .int q4.1, .int 0], q4.2) (e_I r) := k
      refine lv_iconst (v := 0) hx hb dX8_lastly_38 (by decide) ?_
      refine lv_istore (lv' := [(5, .int 0), (4, .int q4.1), (0, .ref v0), (1, .int v1), (2, .int v2), (3, .int v3)]) hx hb dX8_lastly_39 hl (by decide) rfl (fun ls hl => ?_)
      exact k.2 p e s m below meth c _ _ _ _ _ X I hn.1 hn.2 (lv_sub hl [2, 1, 0] rfl)
    · refine lv_if_ge (tgt := 38) hx hb dX8_lastly_33 (by decide) (fun n => absurd n c10) (fun _ => ?_)
      cases hf
      have k : _ = r := k
      subst k
      refine lv_iconst (v := (-1)) hx hb dX8_lastly_36 (by decide) ?_
      exact r_iret X I rfl rfl rfl hn dX8_lastly_37
  · refine lv_if_eq (tgt := 22) hx hb dX8_lastly_17 (by decide) (fun n => absurd n c7) (fun _ => ?_)
    cases hf
    have k : _ = r := k
    subst k
    refine lv_iconst (v := 0) hx hb dX8_lastly_20 (by decide) ?_
    exact r_iret X I rfl rfl rfl hn dX8_lastly_21
set_option maxRecDepth 100000 in
set_option maxHeartbeats 4000000 in
theorem v_X8_lastly_41 {G : sG} {d : Nat} {vs0 : List Value} {σ0 : sS} {v0 : Nat} {v4 : Int32} {v5 : Int32} {σ : sS} {z : sZ Int32} {r : Int32 × sS} (hf : T_X8_lastly_41 v0 v4 v5 σ = some z) (k : s_K G (d + 8) M_X8_lastly vs0 σ0 Y_X8_lastly e_I z r) : s_V G (d + 8) M_X8_lastly vs0 σ0 Y_X8_lastly (41, [.ref v0, .int v4, .int v5], σ) (e_I r) := by
  have le0 : s_le σ (e_I r).2 := s_lek hem_I (l_X8_lastly_41 hf) k
  refine ⟨le0, ?_⟩
  intro p e s m below meth c H locs cells slots ls X I hn1 hn2 hl
  have hn : cells + σ0.2.1 ≤ σ.2.1 ∧ slots + σ0.2.2.1 ≤ σ.2.2.1 := ⟨hn1, hn2⟩
  have hl : lv_has ls 6 [(0, .ref v0), (4, .int v4), (5, .int v5)] := hl
  have hx := X.1
  have hb : c.code = cX8_lastly := X.2.1
  have hown : s.vm.findClass RX8 = some m.cls := X.2.2.2.2.2.1
  have hts := X.2.2.2.2.2.2.1
  refine W.eq (g2 := F0 m 41 ls []) rfl ?_
  unfold T_X8_lastly_41 at hf
  obtain ⟨q1, h1, hf⟩ := s_bind hf
  have le2 : s_le q1.2 (e_I r).2 := by
    refine s_lek hem_I ?_ k
    rcases s_ite hf with ⟨-, hf⟩ | ⟨-, hf⟩
    · cases hf
      exact s_le.rf
    · cases hf
      exact s_le.rf
  refine lv_aload_n hx hb dX8_lastly_41 rfl (lv_at hl 0 rfl) ?_
  refine lv_iload hx hb dX8_lastly_42 (lv_at hl 2 rfl) ?_
  refine lv_iconst (v := 0) hx hb dX8_lastly_44 (by decide) ?_
  refine lv_iconst (v := 0) hx hb dX8_lastly_45 (by decide) ?_
  refine r_callV (Y := M_X8_byRule) (v := some (.int q1.1)) X I w_2253 my_X8_byRule (by omega) (t_X8_byRule (G := G) (d := d + 3) h1) (b_X8_byRule h1) rfl rfl hl.1 rfl (Nat.le_of_ble_eq_true rfl) hn le2 dX8_lastly_46 (fun H locs cells slots I hn1 hn2 => ?_)
  have I : s_I G q1.2 s H locs := I
  have hn : cells + σ0.2.1 ≤ q1.2.2.1 ∧ slots + σ0.2.2.1 ≤ q1.2.2.2.1 := ⟨hn1, hn2⟩
  refine lv_iload hx hb dX8_lastly_49 (lv_at hl 1 rfl) ?_
  rcases s_ite hf with ⟨c3, hf⟩ | ⟨c3, hf⟩
  · refine lv_icmp_eq (tgt := 60) hx hb dX8_lastly_51 (by decide) (fun _ => ?_) (fun n => absurd c3 n)
    cases hf
    have k : _ = r := k
    subst k
    refine lv_iload hx hb dX8_lastly_60 (lv_at hl 2 rfl) ?_
    exact r_iret X I rfl rfl rfl hn dX8_lastly_62
  · refine lv_icmp_eq (tgt := 60) hx hb dX8_lastly_51 (by decide) (fun n => absurd n c3) (fun _ => ?_)
    cases hf
    have k : s_V G (d + 8) M_X8_lastly vs0 σ0 Y_X8_lastly (41, [.ref v0, .int v4, .int (v5 + 1)], q1.2) (e_I r) := k
    refine lv_iinc (v := (v5 + 1)) (lv' := [(5, .int (v5 + 1)), (0, .ref v0), (4, .int v4)]) hx hb dX8_lastly_54 hl (k := 2) rfl rfl (by decide) rfl (fun ls hl => ?_)
    refine lv_goto (tgt := 41) hx hb dX8_lastly_57 (by decide) ?_
    exact k.2 p e s m below meth c _ _ _ _ _ X I hn.1 hn.2 (lv_sub hl [1, 2, 0] rfl)
theorem v_X8_lastly {G : sG} {d : Nat} {vs0 : List Value} {σ0 : sS} {x : sL} {z : sZ Int32} {r : Int32 × sS} (hs : S_X8_lastly x = some z) (k : s_K G (d + 8) M_X8_lastly vs0 σ0 Y_X8_lastly e_I z r) : s_V G (d + 8) M_X8_lastly vs0 σ0 Y_X8_lastly x (e_I r) := by
  obtain ⟨pc, vs, σ⟩ := x
  unfold S_X8_lastly at hs
  dsimp only at hs
  rcases s_ite hs with ⟨c, hs⟩ | ⟨-, hs⟩
  · subst c
    unfold U_X8_lastly_0 at hs
    obtain ⟨a0, g0, hs⟩ := s_bind hs
    obtain ⟨a1, g1, hs⟩ := s_bind hs
    obtain ⟨a2, g2, hs⟩ := s_bind hs
    obtain ⟨a3, g3, hs⟩ := s_bind hs
    obtain ⟨u9, ge, hs⟩ := s_bind hs
    rw [g_r_to g0, g_i_to g1, g_i_to g2, g_i_to g3, g_e_to ge]
    exact v_X8_lastly_0 hs k
  rcases s_ite hs with ⟨c, hs⟩ | ⟨-, hs⟩
  · subst c
    unfold U_X8_lastly_41 at hs
    obtain ⟨a0, g0, hs⟩ := s_bind hs
    obtain ⟨a1, g1, hs⟩ := s_bind hs
    obtain ⟨a2, g2, hs⟩ := s_bind hs
    obtain ⟨u9, ge, hs⟩ := s_bind hs
    rw [g_r_to g0, g_i_to g1, g_i_to g2, g_e_to ge]
    exact v_X8_lastly_41 hs k
  cases hs
theorem t_X8_lastly {G : sG} {d : Nat} {v0 : Nat} {v1 : Int32} {v2 : Int32} {v3 : Int32} {σ : sS} {q : Int32 × sS} (h : F_X8_lastly v0 v1 v2 v3 σ = some q) : s_T G (d + 8) M_X8_lastly [.ref v0, .int v1, .int v2, .int v3] σ (e_I q) := by
  unfold F_X8_lastly at h
  obtain ⟨-, -, h⟩ := s_bind h
  exact s_ofV rfl (by decide) (Nat.le_of_ble_eq_true rfl) rfl rfl (s_run_ind (V := fun x r => s_V G (d + 8) M_X8_lastly [.ref v0, .int v1, .int v2, .int v3] σ Y_X8_lastly x (e_I r)) (fun x z r hs hk => v_X8_lastly hs (by cases z <;> exact hk)) h)
/-! X4_cheapestHouse -/
noncomputable def T_X4_cheapestHouse_0 (v0 : Nat) (σ : sS) : Option (sZ Int32) :=
  some (.inl (6, [.ref v0, .int (-1), .int (-1), .int 0], σ))
noncomputable def U_X4_cheapestHouse_0 (vs : List Value) (σ : sS) : Option (sZ Int32) := (g_r vs).bind fun a0 => (g_e a0.2).bind fun _ => T_X4_cheapestHouse_0 a0.1 σ
noncomputable def T_X4_cheapestHouse_6 (v0 : Nat) (v1 : Int32) (v2 : Int32) (v3 : Int32) (σ : sS) : Option (sZ Int32) :=
  if (3 : Int32) ≤ v3 then (some (.inr (v1, σ)))
  else ((F_X4_costIn v0 v3 σ).bind fun q1 =>
  if q1.1 = (-1) then (some (.inl (40, [.ref v0, .int v1, .int v2, .int v3], q1.2)))
  else (if v2 = (-1) then (some (.inl (35, [.ref v0, .int v3, .int q1.1], q1.2)))
  else (if v2 ≤ q1.1 then (some (.inl (40, [.ref v0, .int v1, .int v2, .int v3], q1.2)))
  else (some (.inl (35, [.ref v0, .int v3, .int q1.1], q1.2))))))
noncomputable def U_X4_cheapestHouse_6 (vs : List Value) (σ : sS) : Option (sZ Int32) := (g_r vs).bind fun a0 => (g_i a0.2).bind fun a1 => (g_i a1.2).bind fun a2 => (g_i a2.2).bind fun a3 => (g_e a3.2).bind fun _ => T_X4_cheapestHouse_6 a0.1 a1.1 a2.1 a3.1 σ
noncomputable def T_X4_cheapestHouse_35 (v0 : Nat) (v3 : Int32) (v4 : Int32) (σ : sS) : Option (sZ Int32) :=
  some (.inl (40, [.ref v0, .int v3, .int v4, .int v3], σ))
noncomputable def U_X4_cheapestHouse_35 (vs : List Value) (σ : sS) : Option (sZ Int32) := (g_r vs).bind fun a0 => (g_i a0.2).bind fun a1 => (g_i a1.2).bind fun a2 => (g_e a2.2).bind fun _ => T_X4_cheapestHouse_35 a0.1 a1.1 a2.1 σ
noncomputable def T_X4_cheapestHouse_40 (v0 : Nat) (v1 : Int32) (v2 : Int32) (v3 : Int32) (σ : sS) : Option (sZ Int32) :=
  some (.inl (6, [.ref v0, .int v1, .int v2, .int (v3 + 1)], σ))
noncomputable def U_X4_cheapestHouse_40 (vs : List Value) (σ : sS) : Option (sZ Int32) := (g_r vs).bind fun a0 => (g_i a0.2).bind fun a1 => (g_i a1.2).bind fun a2 => (g_i a2.2).bind fun a3 => (g_e a3.2).bind fun _ => T_X4_cheapestHouse_40 a0.1 a1.1 a2.1 a3.1 σ
noncomputable def S_X4_cheapestHouse (x : sL) : Option (sZ Int32) := if x.1 = 0 then U_X4_cheapestHouse_0 x.2.1 x.2.2 else if x.1 = 6 then U_X4_cheapestHouse_6 x.2.1 x.2.2 else if x.1 = 35 then U_X4_cheapestHouse_35 x.2.1 x.2.2 else if x.1 = 40 then U_X4_cheapestHouse_40 x.2.1 x.2.2 else none
def Y_X4_cheapestHouse (pc : Nat) : List Nat := if pc = 0 then [0] else if pc = 6 then [0, 1, 2, 3] else if pc = 35 then [0, 3, 4] else if pc = 40 then [0, 1, 2, 3] else []
noncomputable def F_X4_cheapestHouse (v0 : Nat) (σ : sS) : Option (Int32 × sS) := (s_is σ v0 4).bind fun _ => s_run S_X4_cheapestHouse (0, [.ref v0], σ)
theorem l_X4_cheapestHouse_0 {v0 : Nat} {σ : sS} {z : sZ Int32} (hf : T_X4_cheapestHouse_0 v0 σ = some z) : s_lz σ z := by
  unfold T_X4_cheapestHouse_0 at hf
  cases hf
  exact s_le.rf
theorem l_X4_cheapestHouse_6 {v0 : Nat} {v1 : Int32} {v2 : Int32} {v3 : Int32} {σ : sS} {z : sZ Int32} (hf : T_X4_cheapestHouse_6 v0 v1 v2 v3 σ = some z) : s_lz σ z := by
  unfold T_X4_cheapestHouse_6 at hf
  rcases s_ite hf with ⟨-, hf⟩ | ⟨-, hf⟩
  · cases hf
    exact s_le.rf
  · obtain ⟨q1, hh, hf⟩ := s_bind hf
    refine s_lz.tr (l_X4_costIn hh) ?_
    rcases s_ite hf with ⟨-, hf⟩ | ⟨-, hf⟩
    · cases hf
      exact s_le.rf
    · rcases s_ite hf with ⟨-, hf⟩ | ⟨-, hf⟩
      · cases hf
        exact s_le.rf
      · rcases s_ite hf with ⟨-, hf⟩ | ⟨-, hf⟩
        · cases hf
          exact s_le.rf
        · cases hf
          exact s_le.rf
theorem l_X4_cheapestHouse_35 {v0 : Nat} {v3 : Int32} {v4 : Int32} {σ : sS} {z : sZ Int32} (hf : T_X4_cheapestHouse_35 v0 v3 v4 σ = some z) : s_lz σ z := by
  unfold T_X4_cheapestHouse_35 at hf
  cases hf
  exact s_le.rf
theorem l_X4_cheapestHouse_40 {v0 : Nat} {v1 : Int32} {v2 : Int32} {v3 : Int32} {σ : sS} {z : sZ Int32} (hf : T_X4_cheapestHouse_40 v0 v1 v2 v3 σ = some z) : s_lz σ z := by
  unfold T_X4_cheapestHouse_40 at hf
  cases hf
  exact s_le.rf
theorem l_X4_cheapestHouse_s {x : sL} {z : sZ Int32} (hs : S_X4_cheapestHouse x = some z) : s_lz x.2.2 z := by
  obtain ⟨pc, vs, σ⟩ := x
  unfold S_X4_cheapestHouse at hs
  dsimp only at hs ⊢
  rcases s_ite hs with ⟨c, hs⟩ | ⟨-, hs⟩
  · subst c
    unfold U_X4_cheapestHouse_0 at hs
    obtain ⟨a0, g0, hs⟩ := s_bind hs
    obtain ⟨u9, ge, hs⟩ := s_bind hs
    exact l_X4_cheapestHouse_0 hs
  rcases s_ite hs with ⟨c, hs⟩ | ⟨-, hs⟩
  · subst c
    unfold U_X4_cheapestHouse_6 at hs
    obtain ⟨a0, g0, hs⟩ := s_bind hs
    obtain ⟨a1, g1, hs⟩ := s_bind hs
    obtain ⟨a2, g2, hs⟩ := s_bind hs
    obtain ⟨a3, g3, hs⟩ := s_bind hs
    obtain ⟨u9, ge, hs⟩ := s_bind hs
    exact l_X4_cheapestHouse_6 hs
  rcases s_ite hs with ⟨c, hs⟩ | ⟨-, hs⟩
  · subst c
    unfold U_X4_cheapestHouse_35 at hs
    obtain ⟨a0, g0, hs⟩ := s_bind hs
    obtain ⟨a1, g1, hs⟩ := s_bind hs
    obtain ⟨a2, g2, hs⟩ := s_bind hs
    obtain ⟨u9, ge, hs⟩ := s_bind hs
    exact l_X4_cheapestHouse_35 hs
  rcases s_ite hs with ⟨c, hs⟩ | ⟨-, hs⟩
  · subst c
    unfold U_X4_cheapestHouse_40 at hs
    obtain ⟨a0, g0, hs⟩ := s_bind hs
    obtain ⟨a1, g1, hs⟩ := s_bind hs
    obtain ⟨a2, g2, hs⟩ := s_bind hs
    obtain ⟨a3, g3, hs⟩ := s_bind hs
    obtain ⟨u9, ge, hs⟩ := s_bind hs
    exact l_X4_cheapestHouse_40 hs
  cases hs
theorem l_X4_cheapestHouse {v0 : Nat} {σ : sS} {q : Int32 × sS} (h : F_X4_cheapestHouse v0 σ = some q) : s_le σ q.2 := by
  unfold F_X4_cheapestHouse at h
  obtain ⟨-, -, h⟩ := s_bind h
  exact s_run_ind (V := fun x r => s_le x.2.2 r.2) (fun x z r hs hk => by
    have h9 := l_X4_cheapestHouse_s hs
    cases z with
    | inl y => exact s_le.tr h9 hk
    | inr q => cases hk; exact h9) h
theorem b_X4_cheapestHouse {v0 : Nat} {σ : sS} {q : Int32 × sS} (h : F_X4_cheapestHouse v0 σ = some q) : ∃ fs, σ.1 v0 = some (.inr (4, fs)) := by
  unfold F_X4_cheapestHouse at h
  obtain ⟨u, hu, -⟩ := s_bind h
  exact s_is_to hu
set_option maxRecDepth 100000 in
set_option maxHeartbeats 4000000 in
theorem v_X4_cheapestHouse_0 {G : sG} {d : Nat} {vs0 : List Value} {σ0 : sS} {v0 : Nat} {σ : sS} {z : sZ Int32} {r : Int32 × sS} (hf : T_X4_cheapestHouse_0 v0 σ = some z) (k : s_K G (d + 6) M_X4_cheapestHouse vs0 σ0 Y_X4_cheapestHouse e_I z r) : s_V G (d + 6) M_X4_cheapestHouse vs0 σ0 Y_X4_cheapestHouse (0, [.ref v0], σ) (e_I r) := by
  have le0 : s_le σ (e_I r).2 := s_lek hem_I (l_X4_cheapestHouse_0 hf) k
  refine ⟨le0, ?_⟩
  intro p e s m below meth c H locs cells slots ls X I hn1 hn2 hl
  have hn : cells + σ0.2.1 ≤ σ.2.1 ∧ slots + σ0.2.2.1 ≤ σ.2.2.1 := ⟨hn1, hn2⟩
  have hl : lv_has ls 5 [(0, .ref v0)] := hl
  have hx := X.1
  have hb : c.code = cX4_cheapestHouse := X.2.1
  have hown : s.vm.findClass RX4 = some m.cls := X.2.2.2.2.2.1
  have hts := X.2.2.2.2.2.2.1
  refine W.eq (g2 := F0 m 0 ls []) rfl ?_
  unfold T_X4_cheapestHouse_0 at hf
  cases hf
  have k : s_V G (d + 6) M_X4_cheapestHouse vs0 σ0 Y_X4_cheapestHouse (6, [.ref v0, .int (-1), .int (-1), .int 0], σ) (e_I r) := k
  refine lv_iconst (v := (-1)) hx hb dX4_cheapestHouse_0 (by decide) ?_
  refine lv_istore_n (lv' := [(1, .int (-1)), (0, .ref v0)]) hx hb dX4_cheapestHouse_1 rfl hl (by decide) rfl (fun ls hl => ?_)
  refine lv_iconst (v := (-1)) hx hb dX4_cheapestHouse_2 (by decide) ?_
  refine lv_istore_n (lv' := [(2, .int (-1)), (1, .int (-1)), (0, .ref v0)]) hx hb dX4_cheapestHouse_3 rfl hl (by decide) rfl (fun ls hl => ?_)
  refine lv_iconst (v := 0) hx hb dX4_cheapestHouse_4 (by decide) ?_
  refine lv_istore_n (lv' := [(3, .int 0), (2, .int (-1)), (1, .int (-1)), (0, .ref v0)]) hx hb dX4_cheapestHouse_5 rfl hl (by decide) rfl (fun ls hl => ?_)
  exact k.2 p e s m below meth c _ _ _ _ _ X I hn.1 hn.2 (lv_sub hl [3, 2, 1, 0] rfl)
set_option maxRecDepth 100000 in
set_option maxHeartbeats 4000000 in
theorem v_X4_cheapestHouse_6 {G : sG} {d : Nat} {vs0 : List Value} {σ0 : sS} {v0 : Nat} {v1 : Int32} {v2 : Int32} {v3 : Int32} {σ : sS} {z : sZ Int32} {r : Int32 × sS} (hf : T_X4_cheapestHouse_6 v0 v1 v2 v3 σ = some z) (k : s_K G (d + 6) M_X4_cheapestHouse vs0 σ0 Y_X4_cheapestHouse e_I z r) : s_V G (d + 6) M_X4_cheapestHouse vs0 σ0 Y_X4_cheapestHouse (6, [.ref v0, .int v1, .int v2, .int v3], σ) (e_I r) := by
  have le0 : s_le σ (e_I r).2 := s_lek hem_I (l_X4_cheapestHouse_6 hf) k
  refine ⟨le0, ?_⟩
  intro p e s m below meth c H locs cells slots ls X I hn1 hn2 hl
  have hn : cells + σ0.2.1 ≤ σ.2.1 ∧ slots + σ0.2.2.1 ≤ σ.2.2.1 := ⟨hn1, hn2⟩
  have hl : lv_has ls 5 [(0, .ref v0), (1, .int v1), (2, .int v2), (3, .int v3)] := hl
  have hx := X.1
  have hb : c.code = cX4_cheapestHouse := X.2.1
  have hown : s.vm.findClass RX4 = some m.cls := X.2.2.2.2.2.1
  have hts := X.2.2.2.2.2.2.1
  refine W.eq (g2 := F0 m 6 ls []) rfl ?_
  unfold T_X4_cheapestHouse_6 at hf
  refine lv_iload_n hx hb dX4_cheapestHouse_6 rfl (lv_at hl 3 rfl) ?_
  refine lv_iconst (v := 3) hx hb dX4_cheapestHouse_7 (by decide) ?_
  rcases s_ite hf with ⟨c1, hf⟩ | ⟨c1, hf⟩
  · refine lv_icmp_ge (tgt := 46) hx hb dX4_cheapestHouse_8 (by decide) (fun _ => ?_) (fun n => absurd c1 n)
    cases hf
    have k : _ = r := k
    subst k
    refine lv_iload_n hx hb dX4_cheapestHouse_46 rfl (lv_at hl 1 rfl) ?_
    exact r_iret X I rfl rfl rfl hn dX4_cheapestHouse_47
  · refine lv_icmp_ge (tgt := 46) hx hb dX4_cheapestHouse_8 (by decide) (fun n => absurd n c1) (fun _ => ?_)
    obtain ⟨q1, h2, hf⟩ := s_bind hf
    have le3 : s_le q1.2 (e_I r).2 := by
      refine s_lek hem_I ?_ k
      rcases s_ite hf with ⟨-, hf⟩ | ⟨-, hf⟩
      · cases hf
        exact s_le.rf
      · rcases s_ite hf with ⟨-, hf⟩ | ⟨-, hf⟩
        · cases hf
          exact s_le.rf
        · rcases s_ite hf with ⟨-, hf⟩ | ⟨-, hf⟩
          · cases hf
            exact s_le.rf
          · cases hf
            exact s_le.rf
    refine lv_aload_n hx hb dX4_cheapestHouse_11 rfl (lv_at hl 0 rfl) ?_
    refine lv_iload_n hx hb dX4_cheapestHouse_12 rfl (lv_at hl 3 rfl) ?_
    refine r_callV (Y := M_X4_costIn) (v := some (.int q1.1)) X I w_1399 my_X4_costIn (by omega) (t_X4_costIn (G := G) (d := d + 0) h2) (b_X4_costIn h2) rfl rfl hl.1 rfl (Nat.le_of_ble_eq_true rfl) hn le3 dX4_cheapestHouse_13 (fun H locs cells slots I hn1 hn2 => ?_)
    have I : s_I G q1.2 s H locs := I
    have hn : cells + σ0.2.1 ≤ q1.2.2.1 ∧ slots + σ0.2.2.1 ≤ q1.2.2.2.1 := ⟨hn1, hn2⟩
    refine lv_istore (lv' := [(4, .int q1.1), (0, .ref v0), (1, .int v1), (2, .int v2), (3, .int v3)]) hx hb dX4_cheapestHouse_16 hl (by decide) rfl (fun ls hl => ?_)
    refine lv_iload hx hb dX4_cheapestHouse_18 (lv_at hl 0 rfl) ?_
    refine lv_iconst (v := (-1)) hx hb dX4_cheapestHouse_20 (by decide) ?_
    rcases s_ite hf with ⟨c4, hf⟩ | ⟨c4, hf⟩
    · refine lv_icmp_eq (tgt := 40) hx hb dX4_cheapestHouse_21 (by decide) (fun _ => ?_) (fun n => absurd c4 n)
      cases hf
      have k : s_V G (d + 6) M_X4_cheapestHouse vs0 σ0 Y_X4_cheapestHouse (40, [.ref v0, .int v1, .int v2, .int v3], q1.2) (e_I r) := k
      exact k.2 p e s m below meth c _ _ _ _ _ X I hn.1 hn.2 (lv_sub hl [1, 2, 3, 4] rfl)
    · refine lv_icmp_eq (tgt := 40) hx hb dX4_cheapestHouse_21 (by decide) (fun n => absurd n c4) (fun _ => ?_)
      refine lv_iload_n hx hb dX4_cheapestHouse_24 rfl (lv_at hl 3 rfl) ?_
      refine lv_iconst (v := (-1)) hx hb dX4_cheapestHouse_25 (by decide) ?_
      rcases s_ite hf with ⟨c5, hf⟩ | ⟨c5, hf⟩
      · refine lv_icmp_eq (tgt := 35) hx hb dX4_cheapestHouse_26 (by decide) (fun _ => ?_) (fun n => absurd c5 n)
        cases hf
        have k : s_V G (d + 6) M_X4_cheapestHouse vs0 σ0 Y_X4_cheapestHouse (35, [.ref v0, .int v3, .int q1.1], q1.2) (e_I r) := k
        exact k.2 p e s m below meth c _ _ _ _ _ X I hn.1 hn.2 (lv_sub hl [1, 4, 0] rfl)
      · refine lv_icmp_eq (tgt := 35) hx hb dX4_cheapestHouse_26 (by decide) (fun n => absurd n c5) (fun _ => ?_)
        refine lv_iload hx hb dX4_cheapestHouse_29 (lv_at hl 0 rfl) ?_
        refine lv_iload_n hx hb dX4_cheapestHouse_31 rfl (lv_at hl 3 rfl) ?_
        rcases s_ite hf with ⟨c6, hf⟩ | ⟨c6, hf⟩
        · refine lv_icmp_ge (tgt := 40) hx hb dX4_cheapestHouse_32 (by decide) (fun _ => ?_) (fun n => absurd c6 n)
          cases hf
          have k : s_V G (d + 6) M_X4_cheapestHouse vs0 σ0 Y_X4_cheapestHouse (40, [.ref v0, .int v1, .int v2, .int v3], q1.2) (e_I r) := k
          exact k.2 p e s m below meth c _ _ _ _ _ X I hn.1 hn.2 (lv_sub hl [1, 2, 3, 4] rfl)
        · refine lv_icmp_ge (tgt := 40) hx hb dX4_cheapestHouse_32 (by decide) (fun n => absurd n c6) (fun _ => ?_)
          cases hf
          have k : s_V G (d + 6) M_X4_cheapestHouse vs0 σ0 Y_X4_cheapestHouse (35, [.ref v0, .int v3, .int q1.1], q1.2) (e_I r) := k
          exact k.2 p e s m below meth c _ _ _ _ _ X I hn.1 hn.2 (lv_sub hl [1, 4, 0] rfl)
set_option maxRecDepth 100000 in
set_option maxHeartbeats 4000000 in
theorem v_X4_cheapestHouse_35 {G : sG} {d : Nat} {vs0 : List Value} {σ0 : sS} {v0 : Nat} {v3 : Int32} {v4 : Int32} {σ : sS} {z : sZ Int32} {r : Int32 × sS} (hf : T_X4_cheapestHouse_35 v0 v3 v4 σ = some z) (k : s_K G (d + 6) M_X4_cheapestHouse vs0 σ0 Y_X4_cheapestHouse e_I z r) : s_V G (d + 6) M_X4_cheapestHouse vs0 σ0 Y_X4_cheapestHouse (35, [.ref v0, .int v3, .int v4], σ) (e_I r) := by
  have le0 : s_le σ (e_I r).2 := s_lek hem_I (l_X4_cheapestHouse_35 hf) k
  refine ⟨le0, ?_⟩
  intro p e s m below meth c H locs cells slots ls X I hn1 hn2 hl
  have hn : cells + σ0.2.1 ≤ σ.2.1 ∧ slots + σ0.2.2.1 ≤ σ.2.2.1 := ⟨hn1, hn2⟩
  have hl : lv_has ls 5 [(0, .ref v0), (3, .int v3), (4, .int v4)] := hl
  have hx := X.1
  have hb : c.code = cX4_cheapestHouse := X.2.1
  have hown : s.vm.findClass RX4 = some m.cls := X.2.2.2.2.2.1
  have hts := X.2.2.2.2.2.2.1
  refine W.eq (g2 := F0 m 35 ls []) rfl ?_
  unfold T_X4_cheapestHouse_35 at hf
  cases hf
  have k : s_V G (d + 6) M_X4_cheapestHouse vs0 σ0 Y_X4_cheapestHouse (40, [.ref v0, .int v3, .int v4, .int v3], σ) (e_I r) := k
  refine lv_iload hx hb dX4_cheapestHouse_35 (lv_at hl 2 rfl) ?_
  refine lv_istore_n (lv' := [(2, .int v4), (0, .ref v0), (3, .int v3), (4, .int v4)]) hx hb dX4_cheapestHouse_37 rfl hl (by decide) rfl (fun ls hl => ?_)
  refine lv_iload_n hx hb dX4_cheapestHouse_38 rfl (lv_at hl 2 rfl) ?_
  refine lv_istore_n (lv' := [(1, .int v3), (2, .int v4), (0, .ref v0), (3, .int v3), (4, .int v4)]) hx hb dX4_cheapestHouse_39 rfl hl (by decide) rfl (fun ls hl => ?_)
  exact k.2 p e s m below meth c _ _ _ _ _ X I hn.1 hn.2 (lv_sub hl [2, 0, 1, 3] rfl)
set_option maxRecDepth 100000 in
set_option maxHeartbeats 4000000 in
theorem v_X4_cheapestHouse_40 {G : sG} {d : Nat} {vs0 : List Value} {σ0 : sS} {v0 : Nat} {v1 : Int32} {v2 : Int32} {v3 : Int32} {σ : sS} {z : sZ Int32} {r : Int32 × sS} (hf : T_X4_cheapestHouse_40 v0 v1 v2 v3 σ = some z) (k : s_K G (d + 6) M_X4_cheapestHouse vs0 σ0 Y_X4_cheapestHouse e_I z r) : s_V G (d + 6) M_X4_cheapestHouse vs0 σ0 Y_X4_cheapestHouse (40, [.ref v0, .int v1, .int v2, .int v3], σ) (e_I r) := by
  have le0 : s_le σ (e_I r).2 := s_lek hem_I (l_X4_cheapestHouse_40 hf) k
  refine ⟨le0, ?_⟩
  intro p e s m below meth c H locs cells slots ls X I hn1 hn2 hl
  have hn : cells + σ0.2.1 ≤ σ.2.1 ∧ slots + σ0.2.2.1 ≤ σ.2.2.1 := ⟨hn1, hn2⟩
  have hl : lv_has ls 5 [(0, .ref v0), (1, .int v1), (2, .int v2), (3, .int v3)] := hl
  have hx := X.1
  have hb : c.code = cX4_cheapestHouse := X.2.1
  have hown : s.vm.findClass RX4 = some m.cls := X.2.2.2.2.2.1
  have hts := X.2.2.2.2.2.2.1
  refine W.eq (g2 := F0 m 40 ls []) rfl ?_
  unfold T_X4_cheapestHouse_40 at hf
  cases hf
  have k : s_V G (d + 6) M_X4_cheapestHouse vs0 σ0 Y_X4_cheapestHouse (6, [.ref v0, .int v1, .int v2, .int (v3 + 1)], σ) (e_I r) := k
  refine lv_iinc (v := (v3 + 1)) (lv' := [(3, .int (v3 + 1)), (0, .ref v0), (1, .int v1), (2, .int v2)]) hx hb dX4_cheapestHouse_40 hl (k := 3) rfl rfl (by decide) rfl (fun ls hl => ?_)
  refine lv_goto (tgt := 6) hx hb dX4_cheapestHouse_43 (by decide) ?_
  exact k.2 p e s m below meth c _ _ _ _ _ X I hn.1 hn.2 (lv_sub hl [1, 2, 3, 0] rfl)
theorem v_X4_cheapestHouse {G : sG} {d : Nat} {vs0 : List Value} {σ0 : sS} {x : sL} {z : sZ Int32} {r : Int32 × sS} (hs : S_X4_cheapestHouse x = some z) (k : s_K G (d + 6) M_X4_cheapestHouse vs0 σ0 Y_X4_cheapestHouse e_I z r) : s_V G (d + 6) M_X4_cheapestHouse vs0 σ0 Y_X4_cheapestHouse x (e_I r) := by
  obtain ⟨pc, vs, σ⟩ := x
  unfold S_X4_cheapestHouse at hs
  dsimp only at hs
  rcases s_ite hs with ⟨c, hs⟩ | ⟨-, hs⟩
  · subst c
    unfold U_X4_cheapestHouse_0 at hs
    obtain ⟨a0, g0, hs⟩ := s_bind hs
    obtain ⟨u9, ge, hs⟩ := s_bind hs
    rw [g_r_to g0, g_e_to ge]
    exact v_X4_cheapestHouse_0 hs k
  rcases s_ite hs with ⟨c, hs⟩ | ⟨-, hs⟩
  · subst c
    unfold U_X4_cheapestHouse_6 at hs
    obtain ⟨a0, g0, hs⟩ := s_bind hs
    obtain ⟨a1, g1, hs⟩ := s_bind hs
    obtain ⟨a2, g2, hs⟩ := s_bind hs
    obtain ⟨a3, g3, hs⟩ := s_bind hs
    obtain ⟨u9, ge, hs⟩ := s_bind hs
    rw [g_r_to g0, g_i_to g1, g_i_to g2, g_i_to g3, g_e_to ge]
    exact v_X4_cheapestHouse_6 hs k
  rcases s_ite hs with ⟨c, hs⟩ | ⟨-, hs⟩
  · subst c
    unfold U_X4_cheapestHouse_35 at hs
    obtain ⟨a0, g0, hs⟩ := s_bind hs
    obtain ⟨a1, g1, hs⟩ := s_bind hs
    obtain ⟨a2, g2, hs⟩ := s_bind hs
    obtain ⟨u9, ge, hs⟩ := s_bind hs
    rw [g_r_to g0, g_i_to g1, g_i_to g2, g_e_to ge]
    exact v_X4_cheapestHouse_35 hs k
  rcases s_ite hs with ⟨c, hs⟩ | ⟨-, hs⟩
  · subst c
    unfold U_X4_cheapestHouse_40 at hs
    obtain ⟨a0, g0, hs⟩ := s_bind hs
    obtain ⟨a1, g1, hs⟩ := s_bind hs
    obtain ⟨a2, g2, hs⟩ := s_bind hs
    obtain ⟨a3, g3, hs⟩ := s_bind hs
    obtain ⟨u9, ge, hs⟩ := s_bind hs
    rw [g_r_to g0, g_i_to g1, g_i_to g2, g_i_to g3, g_e_to ge]
    exact v_X4_cheapestHouse_40 hs k
  cases hs
theorem t_X4_cheapestHouse {G : sG} {d : Nat} {v0 : Nat} {σ : sS} {q : Int32 × sS} (h : F_X4_cheapestHouse v0 σ = some q) : s_T G (d + 6) M_X4_cheapestHouse [.ref v0] σ (e_I q) := by
  unfold F_X4_cheapestHouse at h
  obtain ⟨-, -, h⟩ := s_bind h
  exact s_ofV rfl (by decide) (Nat.le_of_ble_eq_true rfl) rfl rfl (s_run_ind (V := fun x r => s_V G (d + 6) M_X4_cheapestHouse [.ref v0] σ Y_X4_cheapestHouse x (e_I r)) (fun x z r hs hk => v_X4_cheapestHouse hs (by cases z <;> exact hk)) h)
/-! X7_where -/
noncomputable def T_X7_where_0 (v0 : Nat) (v1 : Int32) (v2 : Int32) (σ : sS) : Option (sZ (Int32 ⊕ String)) :=
  (F_X7_needProof v0 0 v1 v2 σ).bind fun q1 => s_sum q1.1 (fun x2 => (s_fr q1.2 v0 7 6).bind fun x4 =>
  (F_X4_cheapestHouse x4 q1.2).bind fun q5 =>
  some (.inr (.inl q5.1, q5.2))) (fun E3 => some (.inr (.inr E3, q1.2)))
noncomputable def U_X7_where_0 (vs : List Value) (σ : sS) : Option (sZ (Int32 ⊕ String)) := (g_r vs).bind fun a0 => (g_i a0.2).bind fun a1 => (g_i a1.2).bind fun a2 => (g_e a2.2).bind fun _ => T_X7_where_0 a0.1 a1.1 a2.1 σ
noncomputable def S_X7_where (x : sL) : Option (sZ (Int32 ⊕ String)) := if x.1 = 0 then U_X7_where_0 x.2.1 x.2.2 else none
def Y_X7_where (pc : Nat) : List Nat := if pc = 0 then [0, 1, 2] else []
noncomputable def F_X7_where (v0 : Nat) (v1 : Int32) (v2 : Int32) (σ : sS) : Option ((Int32 ⊕ String) × sS) := (s_is σ v0 7).bind fun _ => s_run S_X7_where (0, [.ref v0, .int v1, .int v2], σ)
theorem l_X7_where_0 {v0 : Nat} {v1 : Int32} {v2 : Int32} {σ : sS} {z : sZ (Int32 ⊕ String)} (hf : T_X7_where_0 v0 v1 v2 σ = some z) : s_lz σ z := by
  unfold T_X7_where_0 at hf
  obtain ⟨q1, hh, hf⟩ := s_bind hf
  refine s_lz.tr (l_X7_needProof hh) ?_
  rcases s_sum_some hf with ⟨x2, -, hf⟩ | ⟨E3, -, hf⟩
  · obtain ⟨x4, -, hf⟩ := s_bind hf
    obtain ⟨q5, hh, hf⟩ := s_bind hf
    refine s_lz.tr (l_X4_cheapestHouse hh) ?_
    cases hf
    exact s_le.rf
  · cases hf
    exact s_le.rf
theorem l_X7_where_s {x : sL} {z : sZ (Int32 ⊕ String)} (hs : S_X7_where x = some z) : s_lz x.2.2 z := by
  obtain ⟨pc, vs, σ⟩ := x
  unfold S_X7_where at hs
  dsimp only at hs ⊢
  rcases s_ite hs with ⟨c, hs⟩ | ⟨-, hs⟩
  · subst c
    unfold U_X7_where_0 at hs
    obtain ⟨a0, g0, hs⟩ := s_bind hs
    obtain ⟨a1, g1, hs⟩ := s_bind hs
    obtain ⟨a2, g2, hs⟩ := s_bind hs
    obtain ⟨u9, ge, hs⟩ := s_bind hs
    exact l_X7_where_0 hs
  cases hs
theorem l_X7_where {v0 : Nat} {v1 : Int32} {v2 : Int32} {σ : sS} {q : (Int32 ⊕ String) × sS} (h : F_X7_where v0 v1 v2 σ = some q) : s_le σ q.2 := by
  unfold F_X7_where at h
  obtain ⟨-, -, h⟩ := s_bind h
  exact s_run_ind (V := fun x r => s_le x.2.2 r.2) (fun x z r hs hk => by
    have h9 := l_X7_where_s hs
    cases z with
    | inl y => exact s_le.tr h9 hk
    | inr q => cases hk; exact h9) h
theorem b_X7_where {v0 : Nat} {v1 : Int32} {v2 : Int32} {σ : sS} {q : (Int32 ⊕ String) × sS} (h : F_X7_where v0 v1 v2 σ = some q) : ∃ fs, σ.1 v0 = some (.inr (7, fs)) := by
  unfold F_X7_where at h
  obtain ⟨u, hu, -⟩ := s_bind h
  exact s_is_to hu
set_option maxRecDepth 100000 in
set_option maxHeartbeats 4000000 in
theorem v_X7_where_0 {G : sG} {d : Nat} {vs0 : List Value} {σ0 : sS} {v0 : Nat} {v1 : Int32} {v2 : Int32} {σ : sS} {z : sZ (Int32 ⊕ String)} {r : (Int32 ⊕ String) × sS} (hf : T_X7_where_0 v0 v1 v2 σ = some z) (k : s_K G (d + 69) M_X7_where vs0 σ0 Y_X7_where e_IX z r) : s_V G (d + 69) M_X7_where vs0 σ0 Y_X7_where (0, [.ref v0, .int v1, .int v2], σ) (e_IX r) := by
  have le0 : s_le σ (e_IX r).2 := s_lek hem_IX (l_X7_where_0 hf) k
  refine ⟨le0, ?_⟩
  intro p e s m below meth c H locs cells slots ls X I hn1 hn2 hl
  have hn : cells + σ0.2.1 ≤ σ.2.1 ∧ slots + σ0.2.2.1 ≤ σ.2.2.1 := ⟨hn1, hn2⟩
  have hl : lv_has ls 3 [(0, .ref v0), (1, .int v1), (2, .int v2)] := hl
  have hx := X.1
  have hb : c.code = cX7_where := X.2.1
  have hown : s.vm.findClass RX7 = some m.cls := X.2.2.2.2.2.1
  have hts := X.2.2.2.2.2.2.1
  refine W.eq (g2 := F0 m 0 ls []) rfl ?_
  unfold T_X7_where_0 at hf
  obtain ⟨q1, h1, hf⟩ := s_bind hf
  refine lv_aload_n hx hb dX7_where_0 rfl (lv_at hl 0 rfl) ?_
  refine lv_iconst (v := 0) hx hb dX7_where_1 (by decide) ?_
  refine lv_iload_n hx hb dX7_where_2 rfl (lv_at hl 1 rfl) ?_
  refine lv_iload_n hx hb dX7_where_3 rfl (lv_at hl 2 rfl) ?_
  rcases s_sum_some hf with ⟨x2, hq2, hf⟩ | ⟨E3, hq2, hf⟩
  · have le3 : s_le q1.2 (e_IX r).2 := by
      refine s_lek hem_IX ?_ k
      obtain ⟨x4, -, hf⟩ := s_bind hf
      obtain ⟨q5, hh, hf⟩ := s_bind hf
      refine s_lz.tr (l_X4_cheapestHouse hh) ?_
      cases hf
      exact s_le.rf
    refine r_callV (Y := M_X7_needProof) (v := none) X I w_1279 my_X7_needProof (by omega) (t_X7_needProof (G := G) (d := d + 0) h1) (b_X7_needProof h1) (e_VX_l hq2) rfl hl.1 rfl (Nat.le_of_ble_eq_true rfl) hn le3 dX7_where_4 (fun H locs cells slots I hn1 hn2 => ?_)
    have I : s_I G q1.2 s H locs := I
    have hn : cells + σ0.2.1 ≤ q1.2.2.1 ∧ slots + σ0.2.2.1 ≤ q1.2.2.2.1 := ⟨hn1, hn2⟩
    obtain ⟨x4, h4, hf⟩ := s_bind hf
    obtain ⟨q5, h5, hf⟩ := s_bind hf
    cases hf
    have k : _ = r := k
    subst k
    have le6 : s_le q5.2 q5.2 := s_le.rf
    refine lv_aload_n hx hb dX7_where_7 rfl (lv_at hl 0 rfl) ?_
    refine r_gr X I fl_X7_56 h4 dX7_where_8 ?_
    refine r_callV (Y := M_X4_cheapestHouse) (v := some (.int q5.1)) X I w_1407 my_X4_cheapestHouse (by omega) (t_X4_cheapestHouse (G := G) (d := d + 62) h5) (b_X4_cheapestHouse h5) rfl rfl hl.1 rfl (Nat.le_of_ble_eq_true rfl) hn le6 dX7_where_11 (fun H locs cells slots I hn1 hn2 => ?_)
    have I : s_I G q5.2 s H locs := I
    have hn : cells + σ0.2.1 ≤ q5.2.2.1 ∧ slots + σ0.2.2.1 ≤ q5.2.2.2.1 := ⟨hn1, hn2⟩
    exact r_iret X I rfl rfl rfl hn dX7_where_14
  · cases hf
    have k : _ = r := k
    subst k
    exact r_callVx (Y := M_X7_needProof) X I rfl w_1279 my_X7_needProof (by omega) (t_X7_needProof (G := G) (d := d + 0) h1) (b_X7_needProof h1) (e_VX_r hq2) rfl hl.1 rfl (Nat.le_of_ble_eq_true rfl) hn rfl dX7_where_4
theorem v_X7_where {G : sG} {d : Nat} {vs0 : List Value} {σ0 : sS} {x : sL} {z : sZ (Int32 ⊕ String)} {r : (Int32 ⊕ String) × sS} (hs : S_X7_where x = some z) (k : s_K G (d + 69) M_X7_where vs0 σ0 Y_X7_where e_IX z r) : s_V G (d + 69) M_X7_where vs0 σ0 Y_X7_where x (e_IX r) := by
  obtain ⟨pc, vs, σ⟩ := x
  unfold S_X7_where at hs
  dsimp only at hs
  rcases s_ite hs with ⟨c, hs⟩ | ⟨-, hs⟩
  · subst c
    unfold U_X7_where_0 at hs
    obtain ⟨a0, g0, hs⟩ := s_bind hs
    obtain ⟨a1, g1, hs⟩ := s_bind hs
    obtain ⟨a2, g2, hs⟩ := s_bind hs
    obtain ⟨u9, ge, hs⟩ := s_bind hs
    rw [g_r_to g0, g_i_to g1, g_i_to g2, g_e_to ge]
    exact v_X7_where_0 hs k
  cases hs
theorem t_X7_where {G : sG} {d : Nat} {v0 : Nat} {v1 : Int32} {v2 : Int32} {σ : sS} {q : (Int32 ⊕ String) × sS} (h : F_X7_where v0 v1 v2 σ = some q) : s_T G (d + 69) M_X7_where [.ref v0, .int v1, .int v2] σ (e_IX q) := by
  unfold F_X7_where at h
  obtain ⟨-, -, h⟩ := s_bind h
  exact s_ofV rfl (by decide) (Nat.le_of_ble_eq_true rfl) rfl rfl (s_run_ind (V := fun x r => s_V G (d + 69) M_X7_where [.ref v0, .int v1, .int v2] σ Y_X7_where x (e_IX r)) (fun x z r hs hk => v_X7_where hs (by cases z <;> exact hk)) h)
/-! L_where -/
noncomputable def T_L_where_0 (v0 : Nat) (v1 : Int32) (v2 : Int32) (v3 : Nat) (σ : sS) : Option (sZ Int32) :=
  (F_X7_where v0 v1 v2 σ).bind fun q1 => s_sum q1.1 (fun x2 => (s_sl q1.2 v3 0 ((x2 : Int32).toInt64)).bind fun σ4 =>
  some (.inr (0, σ4))) (fun E3 => if E3 = "java/lang/IndexOutOfBoundsException" then (some (.inr (1, q1.2))) else none)
noncomputable def U_L_where_0 (vs : List Value) (σ : sS) : Option (sZ Int32) := (g_r vs).bind fun a0 => (g_i a0.2).bind fun a1 => (g_i a1.2).bind fun a2 => (g_r a2.2).bind fun a3 => (g_e a3.2).bind fun _ => T_L_where_0 a0.1 a1.1 a2.1 a3.1 σ
noncomputable def S_L_where (x : sL) : Option (sZ Int32) := if x.1 = 0 then U_L_where_0 x.2.1 x.2.2 else none
def Y_L_where (pc : Nat) : List Nat := if pc = 0 then [0, 1, 2, 3] else []
noncomputable def F_L_where (v0 : Nat) (v1 : Int32) (v2 : Int32) (v3 : Nat) (σ : sS) : Option (Int32 × sS) := s_run S_L_where (0, [.ref v0, .int v1, .int v2, .ref v3], σ)
theorem l_L_where_0 {v0 : Nat} {v1 : Int32} {v2 : Int32} {v3 : Nat} {σ : sS} {z : sZ Int32} (hf : T_L_where_0 v0 v1 v2 v3 σ = some z) : s_lz σ z := by
  unfold T_L_where_0 at hf
  obtain ⟨q1, hh, hf⟩ := s_bind hf
  refine s_lz.tr (l_X7_where hh) ?_
  rcases s_sum_some hf with ⟨x2, -, hf⟩ | ⟨E3, -, hf⟩
  · obtain ⟨σ4, hh, hf⟩ := s_bind hf
    refine s_lz.tr (s_le2 (s_sl_2 hh)) ?_
    cases hf
    exact s_le.rf
  · rcases s_ite hf with ⟨-, hf⟩ | ⟨-, hf⟩
    · cases hf
      exact s_le.rf
    cases hf
theorem l_L_where_s {x : sL} {z : sZ Int32} (hs : S_L_where x = some z) : s_lz x.2.2 z := by
  obtain ⟨pc, vs, σ⟩ := x
  unfold S_L_where at hs
  dsimp only at hs ⊢
  rcases s_ite hs with ⟨c, hs⟩ | ⟨-, hs⟩
  · subst c
    unfold U_L_where_0 at hs
    obtain ⟨a0, g0, hs⟩ := s_bind hs
    obtain ⟨a1, g1, hs⟩ := s_bind hs
    obtain ⟨a2, g2, hs⟩ := s_bind hs
    obtain ⟨a3, g3, hs⟩ := s_bind hs
    obtain ⟨u9, ge, hs⟩ := s_bind hs
    exact l_L_where_0 hs
  cases hs
theorem l_L_where {v0 : Nat} {v1 : Int32} {v2 : Int32} {v3 : Nat} {σ : sS} {q : Int32 × sS} (h : F_L_where v0 v1 v2 v3 σ = some q) : s_le σ q.2 := by
  unfold F_L_where at h
  exact s_run_ind (V := fun x r => s_le x.2.2 r.2) (fun x z r hs hk => by
    have h9 := l_L_where_s hs
    cases z with
    | inl y => exact s_le.tr h9 hk
    | inr q => cases hk; exact h9) h
set_option maxRecDepth 100000 in
set_option maxHeartbeats 4000000 in
theorem v_L_where_0 {G : sG} {d : Nat} {vs0 : List Value} {σ0 : sS} {v0 : Nat} {v1 : Int32} {v2 : Int32} {v3 : Nat} {σ : sS} {z : sZ Int32} {r : Int32 × sS} (hf : T_L_where_0 v0 v1 v2 v3 σ = some z) (k : s_K G (d + 70) M_L_where vs0 σ0 Y_L_where e_I z r) : s_V G (d + 70) M_L_where vs0 σ0 Y_L_where (0, [.ref v0, .int v1, .int v2, .ref v3], σ) (e_I r) := by
  have le0 : s_le σ (e_I r).2 := s_lek hem_I (l_L_where_0 hf) k
  refine ⟨le0, ?_⟩
  intro p e s m below meth c H locs cells slots ls X I hn1 hn2 hl
  have hn : cells + σ0.2.1 ≤ σ.2.1 ∧ slots + σ0.2.2.1 ≤ σ.2.2.1 := ⟨hn1, hn2⟩
  have hl : lv_has ls 5 [(0, .ref v0), (1, .int v1), (2, .int v2), (3, .ref v3)] := hl
  have hx := X.1
  have hb : c.code = cL_where := X.2.1
  have hown : s.vm.findClass RL = some m.cls := X.2.2.2.2.2.1
  have hts := X.2.2.2.2.2.2.1
  refine W.eq (g2 := F0 m 0 ls []) rfl ?_
  unfold T_L_where_0 at hf
  obtain ⟨q1, h1, hf⟩ := s_bind hf
  refine lv_aload_n hx hb dL_where_0 rfl (lv_at hl 3 rfl) ?_
  refine lv_iconst (v := 0) hx hb dL_where_1 (by decide) ?_
  refine lv_aload_n hx hb dL_where_2 rfl (lv_at hl 0 rfl) ?_
  refine lv_iload_n hx hb dL_where_3 rfl (lv_at hl 1 rfl) ?_
  refine lv_iload_n hx hb dL_where_4 rfl (lv_at hl 2 rfl) ?_
  rcases s_sum_some hf with ⟨x2, hq2, hf⟩ | ⟨E3, hq2, hf⟩
  · have le3 : s_le q1.2 (e_I r).2 := by
      refine s_lek hem_I ?_ k
      obtain ⟨σ4, hh, hf⟩ := s_bind hf
      refine s_lz.tr (s_le2 (s_sl_2 hh)) ?_
      cases hf
      exact s_le.rf
    refine r_callV (Y := M_X7_where) (v := some (.int x2)) X I w_1403 my_X7_where (by omega) (t_X7_where (G := G) (d := d + 0) h1) (b_X7_where h1) (e_IX_l hq2) rfl hl.1 rfl (Nat.le_of_ble_eq_true rfl) hn le3 dL_where_5 (fun H locs cells slots I hn1 hn2 => ?_)
    have I : s_I G q1.2 s H locs := I
    have hn : cells + σ0.2.1 ≤ q1.2.2.1 ∧ slots + σ0.2.2.1 ≤ q1.2.2.2.1 := ⟨hn1, hn2⟩
    obtain ⟨σ4, h4, hf⟩ := s_bind hf
    cases hf
    have k : _ = r := k
    subst k
    have le5 : s_le σ4 σ4 := s_le.rf
    refine lv_i2l hx hb dL_where_8 rfl ?_
    refine r_last X I h4 dL_where_9 (fun H locs I => ?_)
    have hn := s_k2 (s_sl_2 h4) hn
    refine lv_goto (tgt := 17) hx hb dL_where_10 (by decide) ?_
    refine lv_iconst (v := 0) hx hb dL_where_17 (by decide) ?_
    exact r_iret X I rfl rfl rfl hn dL_where_18
  · rcases s_ite hf with ⟨c6, hf⟩ | ⟨c6, hf⟩
    · subst c6
      have le7 : s_le q1.2 (e_I r).2 := by
        refine s_lek hem_I ?_ k
        cases hf
        exact s_le.rf
      refine r_callVh (x := (0, 10, 13, 27)) (Y := M_X7_where) (E := "java/lang/IndexOutOfBoundsException") (name := "java/lang/IndexOutOfBoundsException") X I [] [] rfl (fun z hz => by cases hz) rfl (by decide) w_1011 (by decide +kernel) w_1403 my_X7_where (by omega) (t_X7_where (G := G) (d := d + 0) h1) (b_X7_where h1) (e_IX_r hq2) rfl hl.1 rfl (Nat.le_of_ble_eq_true rfl) hn le7 dL_where_5 (fun a5 H locs cells slots I hn1 hn2 => ?_)
      have I : s_I G q1.2 s H locs := I
      have hn : cells + σ0.2.1 ≤ q1.2.2.1 ∧ slots + σ0.2.2.1 ≤ q1.2.2.2.1 := ⟨hn1, hn2⟩
      cases hf
      have k : _ = r := k
      subst k
      refine lv_astore (lv' := [(4, .ref a5), (0, .ref v0), (1, .int v1), (2, .int v2), (3, .ref v3)]) hx hb dL_where_13 hl (by decide) rfl (fun ls hl => ?_)
      refine lv_iconst (v := 1) hx hb dL_where_15 (by decide) ?_
      exact r_iret X I rfl rfl rfl hn dL_where_16
    cases hf
theorem v_L_where {G : sG} {d : Nat} {vs0 : List Value} {σ0 : sS} {x : sL} {z : sZ Int32} {r : Int32 × sS} (hs : S_L_where x = some z) (k : s_K G (d + 70) M_L_where vs0 σ0 Y_L_where e_I z r) : s_V G (d + 70) M_L_where vs0 σ0 Y_L_where x (e_I r) := by
  obtain ⟨pc, vs, σ⟩ := x
  unfold S_L_where at hs
  dsimp only at hs
  rcases s_ite hs with ⟨c, hs⟩ | ⟨-, hs⟩
  · subst c
    unfold U_L_where_0 at hs
    obtain ⟨a0, g0, hs⟩ := s_bind hs
    obtain ⟨a1, g1, hs⟩ := s_bind hs
    obtain ⟨a2, g2, hs⟩ := s_bind hs
    obtain ⟨a3, g3, hs⟩ := s_bind hs
    obtain ⟨u9, ge, hs⟩ := s_bind hs
    rw [g_r_to g0, g_i_to g1, g_i_to g2, g_r_to g3, g_e_to ge]
    exact v_L_where_0 hs k
  cases hs
theorem t_L_where {G : sG} {d : Nat} {v0 : Nat} {v1 : Int32} {v2 : Int32} {v3 : Nat} {σ : sS} {q : Int32 × sS} (h : F_L_where v0 v1 v2 v3 σ = some q) : s_T G (d + 70) M_L_where [.ref v0, .int v1, .int v2, .ref v3] σ (e_I q) := by
  unfold F_L_where at h
  exact s_ofVH rfl (by decide) (Nat.le_of_ble_eq_true rfl) rfl rfl (s_run_ind (V := fun x r => s_V G (d + 70) M_L_where [.ref v0, .int v1, .int v2, .ref v3] σ Y_L_where x (e_I r)) (fun x z r hs hk => v_L_where hs (by cases z <;> exact hk)) h)
/-! X8_where -/
noncomputable def T_X8_where_0 (v0 : Nat) (v1 : Int32) (v2 : Int32) (σ : sS) : Option (sZ Int32) :=
  (s_pf σ v0 8 0 (.int 0)).bind fun σ1 =>
  (F_X8_noCustomer v1 σ1).bind fun q2 =>
  if q2.1 = 0 then ((F_X8_noFormula v0 v2 q2.2).bind fun q3 =>
  if q3.1 = 0 then (some (.inl (26, [.ref v0, .int v1, .int v2, .int 0, .ref v0], q3.2)))
  else (some (.inl (21, [.ref v0, .int v1, .int v2, .ref v0], q3.2))))
  else (some (.inl (21, [.ref v0, .int v1, .int v2, .ref v0], q2.2)))
noncomputable def U_X8_where_0 (vs : List Value) (σ : sS) : Option (sZ Int32) := (g_r vs).bind fun a0 => (g_i a0.2).bind fun a1 => (g_i a1.2).bind fun a2 => (g_e a2.2).bind fun _ => T_X8_where_0 a0.1 a1.1 a2.1 σ
noncomputable def T_X8_where_21 (v0 : Nat) (v1 : Int32) (v2 : Int32) (w0 : Nat) (σ : sS) : Option (sZ Int32) :=
  some (.inl (26, [.ref v0, .int v1, .int v2, .int 1, .ref w0], σ))
noncomputable def U_X8_where_21 (vs : List Value) (σ : sS) : Option (sZ Int32) := (g_r vs).bind fun a0 => (g_i a0.2).bind fun a1 => (g_i a1.2).bind fun a2 => (g_r a2.2).bind fun a3 => (g_e a3.2).bind fun _ => T_X8_where_21 a0.1 a1.1 a2.1 a3.1 σ
noncomputable def T_X8_where_26 (v0 : Nat) (v1 : Int32) (v2 : Int32) (w0 : Int32) (w1 : Nat) (σ : sS) : Option (sZ Int32) :=
  (F_X8_throwsIf w1 w0 1 σ).bind fun q1 =>
  if q1.1 = 0 then (some (.inl (43, [.ref v0, .int v1, .int v2, .int (-1), .int 0, .int 0], q1.2)))
  else (some (.inr (0, q1.2)))
noncomputable def U_X8_where_26 (vs : List Value) (σ : sS) : Option (sZ Int32) := (g_r vs).bind fun a0 => (g_i a0.2).bind fun a1 => (g_i a1.2).bind fun a2 => (g_i a2.2).bind fun a3 => (g_r a3.2).bind fun a4 => (g_e a4.2).bind fun _ => T_X8_where_26 a0.1 a1.1 a2.1 a3.1 a4.1 σ
noncomputable def T_X8_where_43 (v0 : Nat) (v1 : Int32) (v2 : Int32) (v3 : Int32) (v4 : Int32) (v5 : Int32) (σ : sS) : Option (sZ Int32) :=
  if (3 : Int32) ≤ v5 then (some (.inr (v3, σ)))
  else ((F_X8_costs v0 v5 v1 v2 σ).bind fun q1 =>
  if q1.1 < 0 then (some (.inl (85, [.ref v0, .int v1, .int v2, .int v3, .int v4, .int v5], q1.2)))
  else (if v3 < 0 then (some (.inl (78, [.ref v0, .int v1, .int v2, .int v5, .int q1.1], q1.2)))
  else (if q1.1 < v4 then (some (.inl (78, [.ref v0, .int v1, .int v2, .int v5, .int q1.1], q1.2)))
  else (some (.inl (85, [.ref v0, .int v1, .int v2, .int v3, .int v4, .int v5], q1.2))))))
noncomputable def U_X8_where_43 (vs : List Value) (σ : sS) : Option (sZ Int32) := (g_r vs).bind fun a0 => (g_i a0.2).bind fun a1 => (g_i a1.2).bind fun a2 => (g_i a2.2).bind fun a3 => (g_i a3.2).bind fun a4 => (g_i a4.2).bind fun a5 => (g_e a5.2).bind fun _ => T_X8_where_43 a0.1 a1.1 a2.1 a3.1 a4.1 a5.1 σ
noncomputable def T_X8_where_78 (v0 : Nat) (v1 : Int32) (v2 : Int32) (v5 : Int32) (v6 : Int32) (σ : sS) : Option (sZ Int32) :=
  some (.inl (85, [.ref v0, .int v1, .int v2, .int v5, .int v6, .int v5], σ))
noncomputable def U_X8_where_78 (vs : List Value) (σ : sS) : Option (sZ Int32) := (g_r vs).bind fun a0 => (g_i a0.2).bind fun a1 => (g_i a1.2).bind fun a2 => (g_i a2.2).bind fun a3 => (g_i a3.2).bind fun a4 => (g_e a4.2).bind fun _ => T_X8_where_78 a0.1 a1.1 a2.1 a3.1 a4.1 σ
noncomputable def T_X8_where_85 (v0 : Nat) (v1 : Int32) (v2 : Int32) (v3 : Int32) (v4 : Int32) (v5 : Int32) (σ : sS) : Option (sZ Int32) :=
  some (.inl (43, [.ref v0, .int v1, .int v2, .int v3, .int v4, .int (v5 + 1)], σ))
noncomputable def U_X8_where_85 (vs : List Value) (σ : sS) : Option (sZ Int32) := (g_r vs).bind fun a0 => (g_i a0.2).bind fun a1 => (g_i a1.2).bind fun a2 => (g_i a2.2).bind fun a3 => (g_i a3.2).bind fun a4 => (g_i a4.2).bind fun a5 => (g_e a5.2).bind fun _ => T_X8_where_85 a0.1 a1.1 a2.1 a3.1 a4.1 a5.1 σ
noncomputable def S_X8_where (x : sL) : Option (sZ Int32) := if x.1 = 0 then U_X8_where_0 x.2.1 x.2.2 else if x.1 = 21 then U_X8_where_21 x.2.1 x.2.2 else if x.1 = 26 then U_X8_where_26 x.2.1 x.2.2 else if x.1 = 43 then U_X8_where_43 x.2.1 x.2.2 else if x.1 = 78 then U_X8_where_78 x.2.1 x.2.2 else if x.1 = 85 then U_X8_where_85 x.2.1 x.2.2 else none
def Y_X8_where (pc : Nat) : List Nat := if pc = 0 then [0, 1, 2] else if pc = 21 then [0, 1, 2] else if pc = 26 then [0, 1, 2] else if pc = 43 then [0, 1, 2, 3, 4, 5] else if pc = 78 then [0, 1, 2, 5, 6] else if pc = 85 then [0, 1, 2, 3, 4, 5] else []
noncomputable def F_X8_where (v0 : Nat) (v1 : Int32) (v2 : Int32) (σ : sS) : Option (Int32 × sS) := (s_is σ v0 8).bind fun _ => s_run S_X8_where (0, [.ref v0, .int v1, .int v2], σ)
theorem l_X8_where_0 {v0 : Nat} {v1 : Int32} {v2 : Int32} {σ : sS} {z : sZ Int32} (hf : T_X8_where_0 v0 v1 v2 σ = some z) : s_lz σ z := by
  unfold T_X8_where_0 at hf
  obtain ⟨σ1, hh, hf⟩ := s_bind hf
  refine s_lz.tr (s_le2 (s_pf_2 hh)) ?_
  obtain ⟨q2, hh, hf⟩ := s_bind hf
  refine s_lz.tr (l_X8_noCustomer hh) ?_
  rcases s_ite hf with ⟨-, hf⟩ | ⟨-, hf⟩
  · obtain ⟨q3, hh, hf⟩ := s_bind hf
    refine s_lz.tr (l_X8_noFormula hh) ?_
    rcases s_ite hf with ⟨-, hf⟩ | ⟨-, hf⟩
    · cases hf
      exact s_le.rf
    · cases hf
      exact s_le.rf
  · cases hf
    exact s_le.rf
theorem l_X8_where_21 {v0 : Nat} {v1 : Int32} {v2 : Int32} {w0 : Nat} {σ : sS} {z : sZ Int32} (hf : T_X8_where_21 v0 v1 v2 w0 σ = some z) : s_lz σ z := by
  unfold T_X8_where_21 at hf
  cases hf
  exact s_le.rf
theorem l_X8_where_26 {v0 : Nat} {v1 : Int32} {v2 : Int32} {w0 : Int32} {w1 : Nat} {σ : sS} {z : sZ Int32} (hf : T_X8_where_26 v0 v1 v2 w0 w1 σ = some z) : s_lz σ z := by
  unfold T_X8_where_26 at hf
  obtain ⟨q1, hh, hf⟩ := s_bind hf
  refine s_lz.tr (l_X8_throwsIf hh) ?_
  rcases s_ite hf with ⟨-, hf⟩ | ⟨-, hf⟩
  · cases hf
    exact s_le.rf
  · cases hf
    exact s_le.rf
theorem l_X8_where_43 {v0 : Nat} {v1 : Int32} {v2 : Int32} {v3 : Int32} {v4 : Int32} {v5 : Int32} {σ : sS} {z : sZ Int32} (hf : T_X8_where_43 v0 v1 v2 v3 v4 v5 σ = some z) : s_lz σ z := by
  unfold T_X8_where_43 at hf
  rcases s_ite hf with ⟨-, hf⟩ | ⟨-, hf⟩
  · cases hf
    exact s_le.rf
  · obtain ⟨q1, hh, hf⟩ := s_bind hf
    refine s_lz.tr (l_X8_costs hh) ?_
    rcases s_ite hf with ⟨-, hf⟩ | ⟨-, hf⟩
    · cases hf
      exact s_le.rf
    · rcases s_ite hf with ⟨-, hf⟩ | ⟨-, hf⟩
      · cases hf
        exact s_le.rf
      · rcases s_ite hf with ⟨-, hf⟩ | ⟨-, hf⟩
        · cases hf
          exact s_le.rf
        · cases hf
          exact s_le.rf
theorem l_X8_where_78 {v0 : Nat} {v1 : Int32} {v2 : Int32} {v5 : Int32} {v6 : Int32} {σ : sS} {z : sZ Int32} (hf : T_X8_where_78 v0 v1 v2 v5 v6 σ = some z) : s_lz σ z := by
  unfold T_X8_where_78 at hf
  cases hf
  exact s_le.rf
theorem l_X8_where_85 {v0 : Nat} {v1 : Int32} {v2 : Int32} {v3 : Int32} {v4 : Int32} {v5 : Int32} {σ : sS} {z : sZ Int32} (hf : T_X8_where_85 v0 v1 v2 v3 v4 v5 σ = some z) : s_lz σ z := by
  unfold T_X8_where_85 at hf
  cases hf
  exact s_le.rf
theorem l_X8_where_s {x : sL} {z : sZ Int32} (hs : S_X8_where x = some z) : s_lz x.2.2 z := by
  obtain ⟨pc, vs, σ⟩ := x
  unfold S_X8_where at hs
  dsimp only at hs ⊢
  rcases s_ite hs with ⟨c, hs⟩ | ⟨-, hs⟩
  · subst c
    unfold U_X8_where_0 at hs
    obtain ⟨a0, g0, hs⟩ := s_bind hs
    obtain ⟨a1, g1, hs⟩ := s_bind hs
    obtain ⟨a2, g2, hs⟩ := s_bind hs
    obtain ⟨u9, ge, hs⟩ := s_bind hs
    exact l_X8_where_0 hs
  rcases s_ite hs with ⟨c, hs⟩ | ⟨-, hs⟩
  · subst c
    unfold U_X8_where_21 at hs
    obtain ⟨a0, g0, hs⟩ := s_bind hs
    obtain ⟨a1, g1, hs⟩ := s_bind hs
    obtain ⟨a2, g2, hs⟩ := s_bind hs
    obtain ⟨a3, g3, hs⟩ := s_bind hs
    obtain ⟨u9, ge, hs⟩ := s_bind hs
    exact l_X8_where_21 hs
  rcases s_ite hs with ⟨c, hs⟩ | ⟨-, hs⟩
  · subst c
    unfold U_X8_where_26 at hs
    obtain ⟨a0, g0, hs⟩ := s_bind hs
    obtain ⟨a1, g1, hs⟩ := s_bind hs
    obtain ⟨a2, g2, hs⟩ := s_bind hs
    obtain ⟨a3, g3, hs⟩ := s_bind hs
    obtain ⟨a4, g4, hs⟩ := s_bind hs
    obtain ⟨u9, ge, hs⟩ := s_bind hs
    exact l_X8_where_26 hs
  rcases s_ite hs with ⟨c, hs⟩ | ⟨-, hs⟩
  · subst c
    unfold U_X8_where_43 at hs
    obtain ⟨a0, g0, hs⟩ := s_bind hs
    obtain ⟨a1, g1, hs⟩ := s_bind hs
    obtain ⟨a2, g2, hs⟩ := s_bind hs
    obtain ⟨a3, g3, hs⟩ := s_bind hs
    obtain ⟨a4, g4, hs⟩ := s_bind hs
    obtain ⟨a5, g5, hs⟩ := s_bind hs
    obtain ⟨u9, ge, hs⟩ := s_bind hs
    exact l_X8_where_43 hs
  rcases s_ite hs with ⟨c, hs⟩ | ⟨-, hs⟩
  · subst c
    unfold U_X8_where_78 at hs
    obtain ⟨a0, g0, hs⟩ := s_bind hs
    obtain ⟨a1, g1, hs⟩ := s_bind hs
    obtain ⟨a2, g2, hs⟩ := s_bind hs
    obtain ⟨a3, g3, hs⟩ := s_bind hs
    obtain ⟨a4, g4, hs⟩ := s_bind hs
    obtain ⟨u9, ge, hs⟩ := s_bind hs
    exact l_X8_where_78 hs
  rcases s_ite hs with ⟨c, hs⟩ | ⟨-, hs⟩
  · subst c
    unfold U_X8_where_85 at hs
    obtain ⟨a0, g0, hs⟩ := s_bind hs
    obtain ⟨a1, g1, hs⟩ := s_bind hs
    obtain ⟨a2, g2, hs⟩ := s_bind hs
    obtain ⟨a3, g3, hs⟩ := s_bind hs
    obtain ⟨a4, g4, hs⟩ := s_bind hs
    obtain ⟨a5, g5, hs⟩ := s_bind hs
    obtain ⟨u9, ge, hs⟩ := s_bind hs
    exact l_X8_where_85 hs
  cases hs
theorem l_X8_where {v0 : Nat} {v1 : Int32} {v2 : Int32} {σ : sS} {q : Int32 × sS} (h : F_X8_where v0 v1 v2 σ = some q) : s_le σ q.2 := by
  unfold F_X8_where at h
  obtain ⟨-, -, h⟩ := s_bind h
  exact s_run_ind (V := fun x r => s_le x.2.2 r.2) (fun x z r hs hk => by
    have h9 := l_X8_where_s hs
    cases z with
    | inl y => exact s_le.tr h9 hk
    | inr q => cases hk; exact h9) h
theorem b_X8_where {v0 : Nat} {v1 : Int32} {v2 : Int32} {σ : sS} {q : Int32 × sS} (h : F_X8_where v0 v1 v2 σ = some q) : ∃ fs, σ.1 v0 = some (.inr (8, fs)) := by
  unfold F_X8_where at h
  obtain ⟨u, hu, -⟩ := s_bind h
  exact s_is_to hu
set_option maxRecDepth 100000 in
set_option maxHeartbeats 4000000 in
theorem v_X8_where_0 {G : sG} {d : Nat} {vs0 : List Value} {σ0 : sS} {v0 : Nat} {v1 : Int32} {v2 : Int32} {σ : sS} {z : sZ Int32} {r : Int32 × sS} (hf : T_X8_where_0 v0 v1 v2 σ = some z) (k : s_K G (d + 8) M_X8_where vs0 σ0 Y_X8_where e_I z r) : s_V G (d + 8) M_X8_where vs0 σ0 Y_X8_where (0, [.ref v0, .int v1, .int v2], σ) (e_I r) := by
  have le0 : s_le σ (e_I r).2 := s_lek hem_I (l_X8_where_0 hf) k
  refine ⟨le0, ?_⟩
  intro p e s m below meth c H locs cells slots ls X I hn1 hn2 hl
  have hn : cells + σ0.2.1 ≤ σ.2.1 ∧ slots + σ0.2.2.1 ≤ σ.2.2.1 := ⟨hn1, hn2⟩
  have hl : lv_has ls 7 [(0, .ref v0), (1, .int v1), (2, .int v2)] := hl
  have hx := X.1
  have hb : c.code = cX8_where := X.2.1
  have hown : s.vm.findClass RX8 = some m.cls := X.2.2.2.2.2.1
  have hts := X.2.2.2.2.2.2.1
  refine W.eq (g2 := F0 m 0 ls []) rfl ?_
  unfold T_X8_where_0 at hf
  obtain ⟨σ1, h1, hf⟩ := s_bind hf
  obtain ⟨q2, h2, hf⟩ := s_bind hf
  have le3 : s_le q2.2 (e_I r).2 := by
    refine s_lek hem_I ?_ k
    rcases s_ite hf with ⟨-, hf⟩ | ⟨-, hf⟩
    · obtain ⟨q3, hh, hf⟩ := s_bind hf
      refine s_lz.tr (l_X8_noFormula hh) ?_
      rcases s_ite hf with ⟨-, hf⟩ | ⟨-, hf⟩
      · cases hf
        exact s_le.rf
      · cases hf
        exact s_le.rf
    · cases hf
      exact s_le.rf
  have le4 := s_le.tr (l_X8_noCustomer h2) le3
  refine lv_aload_n hx hb dX8_where_0 rfl (lv_at hl 0 rfl) ?_
  refine lv_iconst (v := 0) hx hb dX8_where_1 (by decide) ?_
  refine r_put X I fp_X8_3 (fun h => by cases h) h1 rfl rfl dX8_where_2 (fun H locs I => ?_)
  have hn := s_k2 (s_pf_2 h1) hn
  refine lv_aload_n hx hb dX8_where_5 rfl (lv_at hl 0 rfl) ?_
  refine lv_iload_n hx hb dX8_where_6 rfl (lv_at hl 1 rfl) ?_
  refine r_callS (Y := M_X8_noCustomer) (v := some (.int q2.1)) X I w_1984 my_X8_noCustomer (by omega) (t_X8_noCustomer (G := G) (d := d + 5) h2) rfl rfl hl.1 rfl (Nat.le_of_ble_eq_true rfl) hn le3 dX8_where_7 (fun H locs cells slots I hn1 hn2 => ?_)
  have I : s_I G q2.2 s H locs := I
  have hn : cells + σ0.2.1 ≤ q2.2.2.1 ∧ slots + σ0.2.2.1 ≤ q2.2.2.2.1 := ⟨hn1, hn2⟩
  rcases s_ite hf with ⟨c5, hf⟩ | ⟨c5, hf⟩
  · refine lv_if_ne (tgt := 21) hx hb dX8_where_10 (by decide) (fun n => absurd c5 n) (fun _ => ?_)
    obtain ⟨q3, h6, hf⟩ := s_bind hf
    have le7 : s_le q3.2 (e_I r).2 := by
      refine s_lek hem_I ?_ k
      rcases s_ite hf with ⟨-, hf⟩ | ⟨-, hf⟩
      · cases hf
        exact s_le.rf
      · cases hf
        exact s_le.rf
    refine lv_aload_n hx hb dX8_where_13 rfl (lv_at hl 0 rfl) ?_
    refine lv_iload_n hx hb dX8_where_14 rfl (lv_at hl 2 rfl) ?_
    refine r_callV (Y := M_X8_noFormula) (v := some (.int q3.1)) X I w_1916 my_X8_noFormula (by omega) (t_X8_noFormula (G := G) (d := d + 5) h6) (b_X8_noFormula h6) rfl rfl hl.1 rfl (Nat.le_of_ble_eq_true rfl) hn le7 dX8_where_15 (fun H locs cells slots I hn1 hn2 => ?_)
    have I : s_I G q3.2 s H locs := I
    have hn : cells + σ0.2.1 ≤ q3.2.2.1 ∧ slots + σ0.2.2.1 ≤ q3.2.2.2.1 := ⟨hn1, hn2⟩
    rcases s_ite hf with ⟨c8, hf⟩ | ⟨c8, hf⟩
    · refine lv_if_eq (tgt := 25) hx hb dX8_where_18 (by decide) (fun _ => ?_) (fun n => absurd c8 n)
      cases hf
      have k : s_V G (d + 8) M_X8_where vs0 σ0 Y_X8_where (26, [.ref v0, .int v1, .int v2, .int 0, .ref v0], q3.2) (e_I r) := k
      refine lv_iconst (v := 0) hx hb dX8_where_25 (by decide) ?_
      exact k.2 p e s m below meth c _ _ _ _ _ X I hn.1 hn.2 (lv_sub hl [0, 1, 2] rfl)
    · refine lv_if_eq (tgt := 25) hx hb dX8_where_18 (by decide) (fun n => absurd n c8) (fun _ => ?_)
      cases hf
      have k : s_V G (d + 8) M_X8_where vs0 σ0 Y_X8_where (21, [.ref v0, .int v1, .int v2, .ref v0], q3.2) (e_I r) := k
      exact k.2 p e s m below meth c _ _ _ _ _ X I hn.1 hn.2 (lv_sub hl [0, 1, 2] rfl)
  · refine lv_if_ne (tgt := 21) hx hb dX8_where_10 (by decide) (fun _ => ?_) (fun n => absurd n c5)
    cases hf
    have k : s_V G (d + 8) M_X8_where vs0 σ0 Y_X8_where (21, [.ref v0, .int v1, .int v2, .ref v0], q2.2) (e_I r) := k
    exact k.2 p e s m below meth c _ _ _ _ _ X I hn.1 hn.2 (lv_sub hl [0, 1, 2] rfl)
set_option maxRecDepth 100000 in
set_option maxHeartbeats 4000000 in
theorem v_X8_where_21 {G : sG} {d : Nat} {vs0 : List Value} {σ0 : sS} {v0 : Nat} {v1 : Int32} {v2 : Int32} {w0 : Nat} {σ : sS} {z : sZ Int32} {r : Int32 × sS} (hf : T_X8_where_21 v0 v1 v2 w0 σ = some z) (k : s_K G (d + 8) M_X8_where vs0 σ0 Y_X8_where e_I z r) : s_V G (d + 8) M_X8_where vs0 σ0 Y_X8_where (21, [.ref v0, .int v1, .int v2, .ref w0], σ) (e_I r) := by
  have le0 : s_le σ (e_I r).2 := s_lek hem_I (l_X8_where_21 hf) k
  refine ⟨le0, ?_⟩
  intro p e s m below meth c H locs cells slots ls X I hn1 hn2 hl
  have hn : cells + σ0.2.1 ≤ σ.2.1 ∧ slots + σ0.2.2.1 ≤ σ.2.2.1 := ⟨hn1, hn2⟩
  have hl : lv_has ls 7 [(0, .ref v0), (1, .int v1), (2, .int v2)] := hl
  have hx := X.1
  have hb : c.code = cX8_where := X.2.1
  have hown : s.vm.findClass RX8 = some m.cls := X.2.2.2.2.2.1
  have hts := X.2.2.2.2.2.2.1
  refine W.eq (g2 := F0 m 21 ls [.ref w0]) rfl ?_
  unfold T_X8_where_21 at hf
  cases hf
  have k : s_V G (d + 8) M_X8_where vs0 σ0 Y_X8_where (26, [.ref v0, .int v1, .int v2, .int 1, .ref w0], σ) (e_I r) := k
  refine lv_iconst (v := 1) hx hb dX8_where_21 (by decide) ?_
  refine lv_goto (tgt := 26) hx hb dX8_where_22 (by decide) ?_
  exact k.2 p e s m below meth c _ _ _ _ _ X I hn.1 hn.2 (lv_sub hl [0, 1, 2] rfl)
set_option maxRecDepth 100000 in
set_option maxHeartbeats 4000000 in
theorem v_X8_where_26 {G : sG} {d : Nat} {vs0 : List Value} {σ0 : sS} {v0 : Nat} {v1 : Int32} {v2 : Int32} {w0 : Int32} {w1 : Nat} {σ : sS} {z : sZ Int32} {r : Int32 × sS} (hf : T_X8_where_26 v0 v1 v2 w0 w1 σ = some z) (k : s_K G (d + 8) M_X8_where vs0 σ0 Y_X8_where e_I z r) : s_V G (d + 8) M_X8_where vs0 σ0 Y_X8_where (26, [.ref v0, .int v1, .int v2, .int w0, .ref w1], σ) (e_I r) := by
  have le0 : s_le σ (e_I r).2 := s_lek hem_I (l_X8_where_26 hf) k
  refine ⟨le0, ?_⟩
  intro p e s m below meth c H locs cells slots ls X I hn1 hn2 hl
  have hn : cells + σ0.2.1 ≤ σ.2.1 ∧ slots + σ0.2.2.1 ≤ σ.2.2.1 := ⟨hn1, hn2⟩
  have hl : lv_has ls 7 [(0, .ref v0), (1, .int v1), (2, .int v2)] := hl
  have hx := X.1
  have hb : c.code = cX8_where := X.2.1
  have hown : s.vm.findClass RX8 = some m.cls := X.2.2.2.2.2.1
  have hts := X.2.2.2.2.2.2.1
  refine W.eq (g2 := F0 m 26 ls [.int w0, .ref w1]) rfl ?_
  unfold T_X8_where_26 at hf
  obtain ⟨q1, h1, hf⟩ := s_bind hf
  have le2 : s_le q1.2 (e_I r).2 := by
    refine s_lek hem_I ?_ k
    rcases s_ite hf with ⟨-, hf⟩ | ⟨-, hf⟩
    · cases hf
      exact s_le.rf
    · cases hf
      exact s_le.rf
  refine lv_iconst (v := 1) hx hb dX8_where_26 (by decide) ?_
  refine r_callV (Y := M_X8_throwsIf) (v := some (.int q1.1)) X I w_1897 my_X8_throwsIf (by omega) (t_X8_throwsIf (G := G) (d := d + 6) h1) (b_X8_throwsIf h1) rfl rfl hl.1 rfl (Nat.le_of_ble_eq_true rfl) hn le2 dX8_where_27 (fun H locs cells slots I hn1 hn2 => ?_)
  have I : s_I G q1.2 s H locs := I
  have hn : cells + σ0.2.1 ≤ q1.2.2.1 ∧ slots + σ0.2.2.1 ≤ q1.2.2.2.1 := ⟨hn1, hn2⟩
  rcases s_ite hf with ⟨c3, hf⟩ | ⟨c3, hf⟩
  · refine lv_if_eq (tgt := 35) hx hb dX8_where_30 (by decide) (fun _ => ?_) (fun n => absurd c3 n)
    cases hf
    have k : s_V G (d + 8) M_X8_where vs0 σ0 Y_X8_where (43, [.ref v0, .int v1, .int v2, .int (-1), .int 0, .int 0], q1.2) (e_I r) := k
    refine lv_iconst (v := (-1)) hx hb dX8_where_35 (by decide) ?_
    refine lv_istore_n (lv' := [(3, .int (-1)), (0, .ref v0), (1, .int v1), (2, .int v2)]) hx hb dX8_where_36 rfl hl (by decide) rfl (fun ls hl => ?_)
    refine lv_iconst (v := 0) hx hb dX8_where_37 (by decide) ?_
    refine lv_istore (lv' := [(4, .int 0), (3, .int (-1)), (0, .ref v0), (1, .int v1), (2, .int v2)]) hx hb dX8_where_38 hl (by decide) rfl (fun ls hl => ?_)
    refine lv_iconst (v := 0) hx hb dX8_where_40 (by decide) ?_
    refine lv_istore (lv' := [(5, .int 0), (4, .int 0), (3, .int (-1)), (0, .ref v0), (1, .int v1), (2, .int v2)]) hx hb dX8_where_41 hl (by decide) rfl (fun ls hl => ?_)
    exact k.2 p e s m below meth c _ _ _ _ _ X I hn.1 hn.2 (lv_sub hl [3, 4, 5, 2, 1, 0] rfl)
  · refine lv_if_eq (tgt := 35) hx hb dX8_where_30 (by decide) (fun n => absurd n c3) (fun _ => ?_)
    cases hf
    have k : _ = r := k
    subst k
    refine lv_iconst (v := 0) hx hb dX8_where_33 (by decide) ?_
    exact r_iret X I rfl rfl rfl hn dX8_where_34
set_option maxRecDepth 100000 in
set_option maxHeartbeats 4000000 in
theorem v_X8_where_43 {G : sG} {d : Nat} {vs0 : List Value} {σ0 : sS} {v0 : Nat} {v1 : Int32} {v2 : Int32} {v3 : Int32} {v4 : Int32} {v5 : Int32} {σ : sS} {z : sZ Int32} {r : Int32 × sS} (hf : T_X8_where_43 v0 v1 v2 v3 v4 v5 σ = some z) (k : s_K G (d + 8) M_X8_where vs0 σ0 Y_X8_where e_I z r) : s_V G (d + 8) M_X8_where vs0 σ0 Y_X8_where (43, [.ref v0, .int v1, .int v2, .int v3, .int v4, .int v5], σ) (e_I r) := by
  have le0 : s_le σ (e_I r).2 := s_lek hem_I (l_X8_where_43 hf) k
  refine ⟨le0, ?_⟩
  intro p e s m below meth c H locs cells slots ls X I hn1 hn2 hl
  have hn : cells + σ0.2.1 ≤ σ.2.1 ∧ slots + σ0.2.2.1 ≤ σ.2.2.1 := ⟨hn1, hn2⟩
  have hl : lv_has ls 7 [(0, .ref v0), (1, .int v1), (2, .int v2), (3, .int v3), (4, .int v4), (5, .int v5)] := hl
  have hx := X.1
  have hb : c.code = cX8_where := X.2.1
  have hown : s.vm.findClass RX8 = some m.cls := X.2.2.2.2.2.1
  have hts := X.2.2.2.2.2.2.1
  refine W.eq (g2 := F0 m 43 ls []) rfl ?_
  unfold T_X8_where_43 at hf
  refine lv_iload hx hb dX8_where_43 (lv_at hl 5 rfl) ?_
  refine lv_iconst (v := 3) hx hb dX8_where_45 (by decide) ?_
  rcases s_ite hf with ⟨c1, hf⟩ | ⟨c1, hf⟩
  · refine lv_icmp_ge (tgt := 91) hx hb dX8_where_46 (by decide) (fun _ => ?_) (fun n => absurd c1 n)
    cases hf
    have k : _ = r := k
    subst k
    refine lv_iload_n hx hb dX8_where_91 rfl (lv_at hl 3 rfl) ?_
    exact r_iret X I rfl rfl rfl hn dX8_where_92
  · refine lv_icmp_ge (tgt := 91) hx hb dX8_where_46 (by decide) (fun n => absurd n c1) (fun _ => ?_)
    obtain ⟨q1, h2, hf⟩ := s_bind hf
    have le3 : s_le q1.2 (e_I r).2 := by
      refine s_lek hem_I ?_ k
      rcases s_ite hf with ⟨-, hf⟩ | ⟨-, hf⟩
      · cases hf
        exact s_le.rf
      · rcases s_ite hf with ⟨-, hf⟩ | ⟨-, hf⟩
        · cases hf
          exact s_le.rf
        · rcases s_ite hf with ⟨-, hf⟩ | ⟨-, hf⟩
          · cases hf
            exact s_le.rf
          · cases hf
            exact s_le.rf
    refine lv_aload_n hx hb dX8_where_49 rfl (lv_at hl 0 rfl) ?_
    refine lv_iload hx hb dX8_where_50 (lv_at hl 5 rfl) ?_
    refine lv_iload_n hx hb dX8_where_52 rfl (lv_at hl 1 rfl) ?_
    refine lv_iload_n hx hb dX8_where_53 rfl (lv_at hl 2 rfl) ?_
    refine r_callV (Y := M_X8_costs) (v := some (.int q1.1)) X I w_2212 my_X8_costs (by omega) (t_X8_costs (G := G) (d := d + 0) h2) (b_X8_costs h2) rfl rfl hl.1 rfl (Nat.le_of_ble_eq_true rfl) hn le3 dX8_where_54 (fun H locs cells slots I hn1 hn2 => ?_)
    have I : s_I G q1.2 s H locs := I
    have hn : cells + σ0.2.1 ≤ q1.2.2.1 ∧ slots + σ0.2.2.1 ≤ q1.2.2.2.1 := ⟨hn1, hn2⟩
    refine lv_istore (lv' := [(6, .int q1.1), (0, .ref v0), (1, .int v1), (2, .int v2), (3, .int v3), (4, .int v4), (5, .int v5)]) hx hb dX8_where_57 hl (by decide) rfl (fun ls hl => ?_)
    refine lv_iload hx hb dX8_where_59 (lv_at hl 0 rfl) ?_
    rcases s_ite hf with ⟨c4, hf⟩ | ⟨c4, hf⟩
    · refine lv_if_lt (tgt := 85) hx hb dX8_where_61 (by decide) (fun _ => ?_) (fun n => absurd c4 n)
      cases hf
      have k : s_V G (d + 8) M_X8_where vs0 σ0 Y_X8_where (85, [.ref v0, .int v1, .int v2, .int v3, .int v4, .int v5], q1.2) (e_I r) := k
      exact k.2 p e s m below meth c _ _ _ _ _ X I hn.1 hn.2 (lv_sub hl [1, 2, 3, 4, 5, 6] rfl)
    · refine lv_if_lt (tgt := 85) hx hb dX8_where_61 (by decide) (fun n => absurd n c4) (fun _ => ?_)
      refine lv_iload_n hx hb dX8_where_64 rfl (lv_at hl 4 rfl) ?_
      rcases s_ite hf with ⟨c5, hf⟩ | ⟨c5, hf⟩
      · refine lv_if_lt (tgt := 78) hx hb dX8_where_65 (by decide) (fun _ => ?_) (fun n => absurd c5 n)
        cases hf
        have k : s_V G (d + 8) M_X8_where vs0 σ0 Y_X8_where (78, [.ref v0, .int v1, .int v2, .int v5, .int q1.1], q1.2) (e_I r) := k
        exact k.2 p e s m below meth c _ _ _ _ _ X I hn.1 hn.2 (lv_sub hl [1, 2, 3, 6, 0] rfl)
      · refine lv_if_lt (tgt := 78) hx hb dX8_where_65 (by decide) (fun n => absurd n c5) (fun _ => ?_)
        refine lv_iload hx hb dX8_where_68 (lv_at hl 0 rfl) ?_
        refine lv_iload hx hb dX8_where_70 (lv_at hl 5 rfl) ?_
        rcases s_ite hf with ⟨c6, hf⟩ | ⟨c6, hf⟩
        · refine lv_icmp_lt (tgt := 78) hx hb dX8_where_72 (by decide) (fun _ => ?_) (fun n => absurd c6 n)
          cases hf
          have k : s_V G (d + 8) M_X8_where vs0 σ0 Y_X8_where (78, [.ref v0, .int v1, .int v2, .int v5, .int q1.1], q1.2) (e_I r) := k
          exact k.2 p e s m below meth c _ _ _ _ _ X I hn.1 hn.2 (lv_sub hl [1, 2, 3, 6, 0] rfl)
        · refine lv_icmp_lt (tgt := 78) hx hb dX8_where_72 (by decide) (fun n => absurd n c6) (fun _ => ?_)
          cases hf
          have k : s_V G (d + 8) M_X8_where vs0 σ0 Y_X8_where (85, [.ref v0, .int v1, .int v2, .int v3, .int v4, .int v5], q1.2) (e_I r) := k
          refine lv_goto (tgt := 85) hx hb dX8_where_75 (by decide) ?_
          exact k.2 p e s m below meth c _ _ _ _ _ X I hn.1 hn.2 (lv_sub hl [1, 2, 3, 4, 5, 6] rfl)
set_option maxRecDepth 100000 in
set_option maxHeartbeats 4000000 in
theorem v_X8_where_78 {G : sG} {d : Nat} {vs0 : List Value} {σ0 : sS} {v0 : Nat} {v1 : Int32} {v2 : Int32} {v5 : Int32} {v6 : Int32} {σ : sS} {z : sZ Int32} {r : Int32 × sS} (hf : T_X8_where_78 v0 v1 v2 v5 v6 σ = some z) (k : s_K G (d + 8) M_X8_where vs0 σ0 Y_X8_where e_I z r) : s_V G (d + 8) M_X8_where vs0 σ0 Y_X8_where (78, [.ref v0, .int v1, .int v2, .int v5, .int v6], σ) (e_I r) := by
  have le0 : s_le σ (e_I r).2 := s_lek hem_I (l_X8_where_78 hf) k
  refine ⟨le0, ?_⟩
  intro p e s m below meth c H locs cells slots ls X I hn1 hn2 hl
  have hn : cells + σ0.2.1 ≤ σ.2.1 ∧ slots + σ0.2.2.1 ≤ σ.2.2.1 := ⟨hn1, hn2⟩
  have hl : lv_has ls 7 [(0, .ref v0), (1, .int v1), (2, .int v2), (5, .int v5), (6, .int v6)] := hl
  have hx := X.1
  have hb : c.code = cX8_where := X.2.1
  have hown : s.vm.findClass RX8 = some m.cls := X.2.2.2.2.2.1
  have hts := X.2.2.2.2.2.2.1
  refine W.eq (g2 := F0 m 78 ls []) rfl ?_
  unfold T_X8_where_78 at hf
  cases hf
  have k : s_V G (d + 8) M_X8_where vs0 σ0 Y_X8_where (85, [.ref v0, .int v1, .int v2, .int v5, .int v6, .int v5], σ) (e_I r) := k
  refine lv_iload hx hb dX8_where_78 (lv_at hl 3 rfl) ?_
  refine lv_istore_n (lv' := [(3, .int v5), (0, .ref v0), (1, .int v1), (2, .int v2), (5, .int v5), (6, .int v6)]) hx hb dX8_where_80 rfl hl (by decide) rfl (fun ls hl => ?_)
  refine lv_iload hx hb dX8_where_81 (lv_at hl 5 rfl) ?_
  refine lv_istore (lv' := [(4, .int v6), (3, .int v5), (0, .ref v0), (1, .int v1), (2, .int v2), (5, .int v5), (6, .int v6)]) hx hb dX8_where_83 hl (by decide) rfl (fun ls hl => ?_)
  exact k.2 p e s m below meth c _ _ _ _ _ X I hn.1 hn.2 (lv_sub hl [2, 3, 4, 1, 0, 5] rfl)
set_option maxRecDepth 100000 in
set_option maxHeartbeats 4000000 in
theorem v_X8_where_85 {G : sG} {d : Nat} {vs0 : List Value} {σ0 : sS} {v0 : Nat} {v1 : Int32} {v2 : Int32} {v3 : Int32} {v4 : Int32} {v5 : Int32} {σ : sS} {z : sZ Int32} {r : Int32 × sS} (hf : T_X8_where_85 v0 v1 v2 v3 v4 v5 σ = some z) (k : s_K G (d + 8) M_X8_where vs0 σ0 Y_X8_where e_I z r) : s_V G (d + 8) M_X8_where vs0 σ0 Y_X8_where (85, [.ref v0, .int v1, .int v2, .int v3, .int v4, .int v5], σ) (e_I r) := by
  have le0 : s_le σ (e_I r).2 := s_lek hem_I (l_X8_where_85 hf) k
  refine ⟨le0, ?_⟩
  intro p e s m below meth c H locs cells slots ls X I hn1 hn2 hl
  have hn : cells + σ0.2.1 ≤ σ.2.1 ∧ slots + σ0.2.2.1 ≤ σ.2.2.1 := ⟨hn1, hn2⟩
  have hl : lv_has ls 7 [(0, .ref v0), (1, .int v1), (2, .int v2), (3, .int v3), (4, .int v4), (5, .int v5)] := hl
  have hx := X.1
  have hb : c.code = cX8_where := X.2.1
  have hown : s.vm.findClass RX8 = some m.cls := X.2.2.2.2.2.1
  have hts := X.2.2.2.2.2.2.1
  refine W.eq (g2 := F0 m 85 ls []) rfl ?_
  unfold T_X8_where_85 at hf
  cases hf
  have k : s_V G (d + 8) M_X8_where vs0 σ0 Y_X8_where (43, [.ref v0, .int v1, .int v2, .int v3, .int v4, .int (v5 + 1)], σ) (e_I r) := k
  refine lv_iinc (v := (v5 + 1)) (lv' := [(5, .int (v5 + 1)), (0, .ref v0), (1, .int v1), (2, .int v2), (3, .int v3), (4, .int v4)]) hx hb dX8_where_85 hl (k := 5) rfl rfl (by decide) rfl (fun ls hl => ?_)
  refine lv_goto (tgt := 43) hx hb dX8_where_88 (by decide) ?_
  exact k.2 p e s m below meth c _ _ _ _ _ X I hn.1 hn.2 (lv_sub hl [1, 2, 3, 4, 5, 0] rfl)
theorem v_X8_where {G : sG} {d : Nat} {vs0 : List Value} {σ0 : sS} {x : sL} {z : sZ Int32} {r : Int32 × sS} (hs : S_X8_where x = some z) (k : s_K G (d + 8) M_X8_where vs0 σ0 Y_X8_where e_I z r) : s_V G (d + 8) M_X8_where vs0 σ0 Y_X8_where x (e_I r) := by
  obtain ⟨pc, vs, σ⟩ := x
  unfold S_X8_where at hs
  dsimp only at hs
  rcases s_ite hs with ⟨c, hs⟩ | ⟨-, hs⟩
  · subst c
    unfold U_X8_where_0 at hs
    obtain ⟨a0, g0, hs⟩ := s_bind hs
    obtain ⟨a1, g1, hs⟩ := s_bind hs
    obtain ⟨a2, g2, hs⟩ := s_bind hs
    obtain ⟨u9, ge, hs⟩ := s_bind hs
    rw [g_r_to g0, g_i_to g1, g_i_to g2, g_e_to ge]
    exact v_X8_where_0 hs k
  rcases s_ite hs with ⟨c, hs⟩ | ⟨-, hs⟩
  · subst c
    unfold U_X8_where_21 at hs
    obtain ⟨a0, g0, hs⟩ := s_bind hs
    obtain ⟨a1, g1, hs⟩ := s_bind hs
    obtain ⟨a2, g2, hs⟩ := s_bind hs
    obtain ⟨a3, g3, hs⟩ := s_bind hs
    obtain ⟨u9, ge, hs⟩ := s_bind hs
    rw [g_r_to g0, g_i_to g1, g_i_to g2, g_r_to g3, g_e_to ge]
    exact v_X8_where_21 hs k
  rcases s_ite hs with ⟨c, hs⟩ | ⟨-, hs⟩
  · subst c
    unfold U_X8_where_26 at hs
    obtain ⟨a0, g0, hs⟩ := s_bind hs
    obtain ⟨a1, g1, hs⟩ := s_bind hs
    obtain ⟨a2, g2, hs⟩ := s_bind hs
    obtain ⟨a3, g3, hs⟩ := s_bind hs
    obtain ⟨a4, g4, hs⟩ := s_bind hs
    obtain ⟨u9, ge, hs⟩ := s_bind hs
    rw [g_r_to g0, g_i_to g1, g_i_to g2, g_i_to g3, g_r_to g4, g_e_to ge]
    exact v_X8_where_26 hs k
  rcases s_ite hs with ⟨c, hs⟩ | ⟨-, hs⟩
  · subst c
    unfold U_X8_where_43 at hs
    obtain ⟨a0, g0, hs⟩ := s_bind hs
    obtain ⟨a1, g1, hs⟩ := s_bind hs
    obtain ⟨a2, g2, hs⟩ := s_bind hs
    obtain ⟨a3, g3, hs⟩ := s_bind hs
    obtain ⟨a4, g4, hs⟩ := s_bind hs
    obtain ⟨a5, g5, hs⟩ := s_bind hs
    obtain ⟨u9, ge, hs⟩ := s_bind hs
    rw [g_r_to g0, g_i_to g1, g_i_to g2, g_i_to g3, g_i_to g4, g_i_to g5, g_e_to ge]
    exact v_X8_where_43 hs k
  rcases s_ite hs with ⟨c, hs⟩ | ⟨-, hs⟩
  · subst c
    unfold U_X8_where_78 at hs
    obtain ⟨a0, g0, hs⟩ := s_bind hs
    obtain ⟨a1, g1, hs⟩ := s_bind hs
    obtain ⟨a2, g2, hs⟩ := s_bind hs
    obtain ⟨a3, g3, hs⟩ := s_bind hs
    obtain ⟨a4, g4, hs⟩ := s_bind hs
    obtain ⟨u9, ge, hs⟩ := s_bind hs
    rw [g_r_to g0, g_i_to g1, g_i_to g2, g_i_to g3, g_i_to g4, g_e_to ge]
    exact v_X8_where_78 hs k
  rcases s_ite hs with ⟨c, hs⟩ | ⟨-, hs⟩
  · subst c
    unfold U_X8_where_85 at hs
    obtain ⟨a0, g0, hs⟩ := s_bind hs
    obtain ⟨a1, g1, hs⟩ := s_bind hs
    obtain ⟨a2, g2, hs⟩ := s_bind hs
    obtain ⟨a3, g3, hs⟩ := s_bind hs
    obtain ⟨a4, g4, hs⟩ := s_bind hs
    obtain ⟨a5, g5, hs⟩ := s_bind hs
    obtain ⟨u9, ge, hs⟩ := s_bind hs
    rw [g_r_to g0, g_i_to g1, g_i_to g2, g_i_to g3, g_i_to g4, g_i_to g5, g_e_to ge]
    exact v_X8_where_85 hs k
  cases hs
theorem t_X8_where {G : sG} {d : Nat} {v0 : Nat} {v1 : Int32} {v2 : Int32} {σ : sS} {q : Int32 × sS} (h : F_X8_where v0 v1 v2 σ = some q) : s_T G (d + 8) M_X8_where [.ref v0, .int v1, .int v2] σ (e_I q) := by
  unfold F_X8_where at h
  obtain ⟨-, -, h⟩ := s_bind h
  exact s_ofV rfl (by decide) (Nat.le_of_ble_eq_true rfl) rfl rfl (s_run_ind (V := fun x r => s_V G (d + 8) M_X8_where [.ref v0, .int v1, .int v2] σ Y_X8_where x (e_I r)) (fun x z r hs hk => v_X8_where hs (by cases z <;> exact hk)) h)
