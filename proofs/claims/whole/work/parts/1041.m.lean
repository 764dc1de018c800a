/-! X8_back -/
noncomputable def T_X8_back_0 (v0 : Nat) (σ : sS) : Option (sZ Int32) :=
  (s_pf σ v0 8 0 (.int 0)).bind fun σ1 =>
  (s_fi σ1 v0 8 3).bind fun x2 =>
  if x2 = 0 then (some (.inr (0, σ1)))
  else (some (.inl (16, [.ref v0, .int 0], σ1)))
noncomputable def U_X8_back_0 (vs : List Value) (σ : sS) : Option (sZ Int32) := (g_r vs).bind fun a0 => (g_e a0.2).bind fun _ => T_X8_back_0 a0.1 σ
noncomputable def T_X8_back_16 (v0 : Nat) (v1 : Int32) (σ : sS) : Option (sZ Int32) :=
  if (1682 : Int32) ≤ v1 then ((F_X8_fills v0 σ).bind fun q1 =>
  some (.inr (1, q1.2)))
  else ((s_fr σ v0 8 1).bind fun x2 =>
  (s_fr σ v0 8 2).bind fun x3 =>
  (s_ai σ x3 v1).bind fun x4 =>
  (s_si σ x2 v1 x4).bind fun σ5 =>
  some (.inl (16, [.ref v0, .int (v1 + 1)], σ5)))
noncomputable def U_X8_back_16 (vs : List Value) (σ : sS) : Option (sZ Int32) := (g_r vs).bind fun a0 => (g_i a0.2).bind fun a1 => (g_e a1.2).bind fun _ => T_X8_back_16 a0.1 a1.1 σ
noncomputable def S_X8_back (x : sL) : Option (sZ Int32) := if x.1 = 0 then U_X8_back_0 x.2.1 x.2.2 else if x.1 = 16 then U_X8_back_16 x.2.1 x.2.2 else none
def Y_X8_back (pc : Nat) : List Nat := if pc = 0 then [0] else if pc = 16 then [0, 1] else []
noncomputable def F_X8_back (v0 : Nat) (σ : sS) : Option (Int32 × sS) := (s_is σ v0 8).bind fun _ => s_run S_X8_back (0, [.ref v0], σ)
theorem l_X8_back_0 {v0 : Nat} {σ : sS} {z : sZ Int32} (hf : T_X8_back_0 v0 σ = some z) : s_lz σ z := by
  unfold T_X8_back_0 at hf
  obtain ⟨σ1, hh, hf⟩ := s_bind hf
  refine s_lz.tr (s_le2 (s_pf_2 hh)) ?_
  obtain ⟨x2, -, hf⟩ := s_bind hf
  rcases s_ite hf with ⟨-, hf⟩ | ⟨-, hf⟩
  · cases hf
    exact s_le.rf
  · cases hf
    exact s_le.rf
theorem l_X8_back_16 {v0 : Nat} {v1 : Int32} {σ : sS} {z : sZ Int32} (hf : T_X8_back_16 v0 v1 σ = some z) : s_lz σ z := by
  unfold T_X8_back_16 at hf
  rcases s_ite hf with ⟨-, hf⟩ | ⟨-, hf⟩
  · obtain ⟨q1, hh, hf⟩ := s_bind hf
    refine s_lz.tr (l_X8_fills hh) ?_
    cases hf
    exact s_le.rf
  · obtain ⟨x2, -, hf⟩ := s_bind hf
    obtain ⟨x3, -, hf⟩ := s_bind hf
    obtain ⟨x4, -, hf⟩ := s_bind hf
    obtain ⟨σ5, hh, hf⟩ := s_bind hf
    refine s_lz.tr (s_le2 (s_si_2 hh)) ?_
    cases hf
    exact s_le.rf
theorem l_X8_back_s {x : sL} {z : sZ Int32} (hs : S_X8_back x = some z) : s_lz x.2.2 z := by
  obtain ⟨pc, vs, σ⟩ := x
  unfold S_X8_back at hs
  dsimp only at hs ⊢
  rcases s_ite hs with ⟨c, hs⟩ | ⟨-, hs⟩
  · subst c
    unfold U_X8_back_0 at hs
    obtain ⟨a0, g0, hs⟩ := s_bind hs
    obtain ⟨u9, ge, hs⟩ := s_bind hs
    exact l_X8_back_0 hs
  rcases s_ite hs with ⟨c, hs⟩ | ⟨-, hs⟩
  · subst c
    unfold U_X8_back_16 at hs
    obtain ⟨a0, g0, hs⟩ := s_bind hs
    obtain ⟨a1, g1, hs⟩ := s_bind hs
    obtain ⟨u9, ge, hs⟩ := s_bind hs
    exact l_X8_back_16 hs
  cases hs
theorem l_X8_back {v0 : Nat} {σ : sS} {q : Int32 × sS} (h : F_X8_back v0 σ = some q) : s_le σ q.2 := by
  unfold F_X8_back at h
  obtain ⟨-, -, h⟩ := s_bind h
  exact s_run_ind (V := fun x r => s_le x.2.2 r.2) (fun x z r hs hk => by
    have h9 := l_X8_back_s hs
    cases z with
    | inl y => exact s_le.tr h9 hk
    | inr q => cases hk; exact h9) h
theorem b_X8_back {v0 : Nat} {σ : sS} {q : Int32 × sS} (h : F_X8_back v0 σ = some q) : ∃ fs, σ.1 v0 = some (.inr (8, fs)) := by
  unfold F_X8_back at h
  obtain ⟨u, hu, -⟩ := s_bind h
  exact s_is_to hu
set_option maxRecDepth 100000 in
set_option maxHeartbeats 4000000 in
theorem v_X8_back_0 {G : sG} {d : Nat} {vs0 : List Value} {σ0 : sS} {v0 : Nat} {σ : sS} {z : sZ Int32} {r : Int32 × sS} (hf : T_X8_back_0 v0 σ = some z) (k : s_K G (d + 3) M_X8_back vs0 σ0 Y_X8_back e_I z r) : s_V G (d + 3) M_X8_back vs0 σ0 Y_X8_back (0, [.ref v0], σ) (e_I r) := by
  have le0 : s_le σ (e_I r).2 := s_lek hem_I (l_X8_back_0 hf) k
  refine ⟨le0, ?_⟩
  intro p e s m below meth c H locs cells slots ls X I hn1 hn2 hl
  have hn : cells + σ0.2.1 ≤ σ.2.1 ∧ slots + σ0.2.2.1 ≤ σ.2.2.1 := ⟨hn1, hn2⟩
  have hl : lv_has ls 2 [(0, .ref v0)] := hl
  have hx := X.1
  have hb : c.code = cX8_back := X.2.1
  have hown : s.vm.findClass RX8 = some m.cls := X.2.2.2.2.2.1
  have hts := X.2.2.2.2.2.2.1
  refine W.eq (g2 := F0 m 0 ls []) rfl ?_
  unfold T_X8_back_0 at hf
  obtain ⟨σ1, h1, hf⟩ := s_bind hf
  obtain ⟨x2, h2, hf⟩ := s_bind hf
  have le3 : s_le σ1 (e_I r).2 := by
    refine s_lek hem_I ?_ k
    rcases s_ite hf with ⟨-, hf⟩ | ⟨-, hf⟩
    · cases hf
      exact s_le.rf
    · cases hf
      exact s_le.rf
  refine lv_aload_n hx hb dX8_back_0 rfl (lv_at hl 0 rfl) ?_
  refine lv_iconst (v := 0) hx hb dX8_back_1 (by decide) ?_
  refine r_put X I fp_X8_3 (fun h => by cases h) h1 rfl rfl dX8_back_2 (fun H locs I => ?_)
  have hn := s_k2 (s_pf_2 h1) hn
  refine lv_aload_n hx hb dX8_back_5 rfl (lv_at hl 0 rfl) ?_
  refine r_gi X I fl_X8_96 h2 dX8_back_6 ?_
  rcases s_ite hf with ⟨c4, hf⟩ | ⟨c4, hf⟩
  · refine lv_if_ne (tgt := 14) hx hb dX8_back_9 (by decide) (fun n => absurd c4 n) (fun _ => ?_)
    cases hf
    have k : _ = r := k
    subst k
    refine lv_iconst (v := 0) hx hb dX8_back_12 (by decide) ?_
    exact r_iret X I rfl rfl rfl hn dX8_back_13
  · refine lv_if_ne (tgt := 14) hx hb dX8_back_9 (by decide) (fun _ => ?_) (fun n => absurd n c4)
    cases hf
    have k : s_V G (d + 3) M_X8_back vs0 σ0 Y_X8_back (16, [.ref v0, .int 0], σ1) (e_I r) := k
    refine lv_iconst (v := 0) hx hb dX8_back_14 (by decide) ?_
    refine lv_istore_n (lv' := [(1, .int 0), (0, .ref v0)]) hx hb dX8_back_15 rfl hl (by decide) rfl (fun ls hl => ?_)
    exact k.2 p e s m below meth c _ _ _ _ _ X I hn.1 hn.2 (lv_sub hl [1, 0] rfl)
set_option maxRecDepth 100000 in
set_option maxHeartbeats 4000000 in
theorem v_X8_back_16 {G : sG} {d : Nat} {vs0 : List Value} {σ0 : sS} {v0 : Nat} {v1 : Int32} {σ : sS} {z : sZ Int32} {r : Int32 × sS} (hf : T_X8_back_16 v0 v1 σ = some z) (k : s_K G (d + 3) M_X8_back vs0 σ0 Y_X8_back e_I z r) : s_V G (d + 3) M_X8_back vs0 σ0 Y_X8_back (16, [.ref v0, .int v1], σ) (e_I r) := by
  have le0 : s_le σ (e_I r).2 := s_lek hem_I (l_X8_back_16 hf) k
  refine ⟨le0, ?_⟩
  intro p e s m below meth c H locs cells slots ls X I hn1 hn2 hl
  have hn : cells + σ0.2.1 ≤ σ.2.1 ∧ slots + σ0.2.2.1 ≤ σ.2.2.1 := ⟨hn1, hn2⟩
  have hl : lv_has ls 2 [(0, .ref v0), (1, .int v1)] := hl
  have hx := X.1
  have hb : c.code = cX8_back := X.2.1
  have hown : s.vm.findClass RX8 = some m.cls := X.2.2.2.2.2.1
  have hts := X.2.2.2.2.2.2.1
  refine W.eq (g2 := F0 m 16 ls []) rfl ?_
  unfold T_X8_back_16 at hf
  refine lv_iload_n hx hb dX8_back_16 rfl (lv_at hl 1 rfl) ?_
  refine lv_sipush (v := 1682) hx hb dX8_back_17 (by decide) ?_
  rcases s_ite hf with ⟨c1, hf⟩ | ⟨c1, hf⟩
  · refine lv_icmp_ge (tgt := 41) hx hb dX8_back_20 (by decide) (fun _ => ?_) (fun n => absurd c1 n)
    obtain ⟨q1, h2, hf⟩ := s_bind hf
    cases hf
    have k : _ = r := k
    subst k
    have le3 : s_le q1.2 q1.2 := s_le.rf
    refine lv_aload_n hx hb dX8_back_41 rfl (lv_at hl 0 rfl) ?_
    refine r_callV (Y := M_X8_fills) (v := none) X I w_1809 my_X8_fills (by omega) (t_X8_fills (G := G) (d := d + 0) h2) (b_X8_fills h2) rfl rfl hl.1 rfl (Nat.le_of_ble_eq_true rfl) hn le3 dX8_back_42 (fun H locs cells slots I hn1 hn2 => ?_)
    have I : s_I G q1.2 s H locs := I
    have hn : cells + σ0.2.1 ≤ q1.2.2.1 ∧ slots + σ0.2.2.1 ≤ q1.2.2.2.1 := ⟨hn1, hn2⟩
    refine lv_iconst (v := 1) hx hb dX8_back_45 (by decide) ?_
    exact r_iret X I rfl rfl rfl hn dX8_back_46
  · refine lv_icmp_ge (tgt := 41) hx hb dX8_back_20 (by decide) (fun n => absurd n c1) (fun _ => ?_)
    obtain ⟨x2, h4, hf⟩ := s_bind hf
    obtain ⟨x3, h5, hf⟩ := s_bind hf
    obtain ⟨x4, h6, hf⟩ := s_bind hf
    obtain ⟨σ5, h7, hf⟩ := s_bind hf
    cases hf
    have k : s_V G (d + 3) M_X8_back vs0 σ0 Y_X8_back (16, [.ref v0, .int (v1 + 1)], σ5) (e_I r) := k
    have le8 : s_le σ5 (e_I r).2 := k.1
    refine lv_aload_n hx hb dX8_back_23 rfl (lv_at hl 0 rfl) ?_
    refine r_gr X I fl_X8_13 h4 dX8_back_24 ?_
    refine lv_iload_n hx hb dX8_back_27 rfl (lv_at hl 1 rfl) ?_
    refine lv_aload_n hx hb dX8_back_28 rfl (lv_at hl 0 rfl) ?_
    refine r_gr X I fl_X8_17 h5 dX8_back_29 ?_
    refine lv_iload_n hx hb dX8_back_32 rfl (lv_at hl 1 rfl) ?_
    refine r_iald X I h6 dX8_back_33 ?_
    refine r_iast X I h7 dX8_back_34 (fun H locs I => ?_)
    have hn := s_k2 (s_si_2 h7) hn
    refine lv_iinc (v := (v1 + 1)) (lv' := [(1, .int (v1 + 1)), (0, .ref v0)]) hx hb dX8_back_35 hl (k := 1) rfl rfl (by decide) rfl (fun ls hl => ?_)
    refine lv_goto (tgt := 16) hx hb dX8_back_38 (by decide) ?_
    exact k.2 p e s m below meth c _ _ _ _ _ X I hn.1 hn.2 (lv_sub hl [1, 0] rfl)
theorem v_X8_back {G : sG} {d : Nat} {vs0 : List Value} {σ0 : sS} {x : sL} {z : sZ Int32} {r : Int32 × sS} (hs : S_X8_back x = some z) (k : s_K G (d + 3) M_X8_back vs0 σ0 Y_X8_back e_I z r) : s_V G (d + 3) M_X8_back vs0 σ0 Y_X8_back x (e_I r) := by
  obtain ⟨pc, vs, σ⟩ := x
  unfold S_X8_back at hs
  dsimp only at hs
  rcases s_ite hs with ⟨c, hs⟩ | ⟨-, hs⟩
  · subst c
    unfold U_X8_back_0 at hs
    obtain ⟨a0, g0, hs⟩ := s_bind hs
    obtain ⟨u9, ge, hs⟩ := s_bind hs
    rw [g_r_to g0, g_e_to ge]
    exact v_X8_back_0 hs k
  rcases s_ite hs with ⟨c, hs⟩ | ⟨-, hs⟩
  · subst c
    unfold U_X8_back_16 at hs
    obtain ⟨a0, g0, hs⟩ := s_bind hs
    obtain ⟨a1, g1, hs⟩ := s_bind hs
    obtain ⟨u9, ge, hs⟩ := s_bind hs
    rw [g_r_to g0, g_i_to g1, g_e_to ge]
    exact v_X8_back_16 hs k
  cases hs
theorem t_X8_back {G : sG} {d : Nat} {v0 : Nat} {σ : sS} {q : Int32 × sS} (h : F_X8_back v0 σ = some q) : s_T G (d + 3) M_X8_back [.ref v0] σ (e_I q) := by
  unfold F_X8_back at h
  obtain ⟨-, -, h⟩ := s_bind h
  exact s_ofV rfl (by decide) (Nat.le_of_ble_eq_true rfl) rfl rfl (s_run_ind (V := fun x r => s_V G (d + 3) M_X8_back [.ref v0] σ Y_X8_back x (e_I r)) (fun x z r hs hk => v_X8_back hs (by cases z <;> exact hk)) h)
/-! X6_coinsOfAll -/
noncomputable def T_X6_coinsOfAll_0 (v0 : Nat) (σ : sS) : Option (sZ Int32) :=
  some (.inl (4, [.ref v0, .int 0, .int 0], σ))
noncomputable def U_X6_coinsOfAll_0 (vs : List Value) (σ : sS) : Option (sZ Int32) := (g_r vs).bind fun a0 => (g_e a0.2).bind fun _ => T_X6_coinsOfAll_0 a0.1 σ
noncomputable def T_X6_coinsOfAll_4 (v0 : Nat) (v1 : Int32) (v2 : Int32) (σ : sS) : Option (sZ Int32) :=
  (s_fr σ v0 6 0).bind fun x1 =>
  (s_fi σ x1 1 9).bind fun x2 =>
  if x2 ≤ v2 then (some (.inr (v1, σ)))
  else ((s_fr σ v0 6 0).bind fun x3 =>
  (F_X1_isVoid x3 v2 σ).bind fun q4 =>
  if q4.1 = 0 then ((s_fr q4.2 v0 6 0).bind fun x5 =>
  (F_X1_ofReceipt x5 v2 2 q4.2).bind fun q6 =>
  some (.inl (38, [.ref v0, .int (v1 + q6.1), .int v2], q6.2)))
  else (some (.inl (38, [.ref v0, .int v1, .int v2], q4.2))))
noncomputable def U_X6_coinsOfAll_4 (vs : List Value) (σ : sS) : Option (sZ Int32) := (g_r vs).bind fun a0 => (g_i a0.2).bind fun a1 => (g_i a1.2).bind fun a2 => (g_e a2.2).bind fun _ => T_X6_coinsOfAll_4 a0.1 a1.1 a2.1 σ
noncomputable def T_X6_coinsOfAll_38 (v0 : Nat) (v1 : Int32) (v2 : Int32) (σ : sS) : Option (sZ Int32) :=
  some (.inl (4, [.ref v0, .int v1, .int (v2 + 1)], σ))
noncomputable def U_X6_coinsOfAll_38 (vs : List Value) (σ : sS) : Option (sZ Int32) := (g_r vs).bind fun a0 => (g_i a0.2).bind fun a1 => (g_i a1.2).bind fun a2 => (g_e a2.2).bind fun _ => T_X6_coinsOfAll_38 a0.1 a1.1 a2.1 σ
noncomputable def S_X6_coinsOfAll (x : sL) : Option (sZ Int32) := if x.1 = 0 then U_X6_coinsOfAll_0 x.2.1 x.2.2 else if x.1 = 4 then U_X6_coinsOfAll_4 x.2.1 x.2.2 else if x.1 = 38 then U_X6_coinsOfAll_38 x.2.1 x.2.2 else none
def Y_X6_coinsOfAll (pc : Nat) : List Nat := if pc = 0 then [0] else if pc = 4 then [0, 1, 2] else if pc = 38 then [0, 1, 2] else []
noncomputable def F_X6_coinsOfAll (v0 : Nat) (σ : sS) : Option (Int32 × sS) := (s_is σ v0 6).bind fun _ => s_run S_X6_coinsOfAll (0, [.ref v0], σ)
theorem l_X6_coinsOfAll_0 {v0 : Nat} {σ : sS} {z : sZ Int32} (hf : T_X6_coinsOfAll_0 v0 σ = some z) : s_lz σ z := by
  unfold T_X6_coinsOfAll_0 at hf
  cases hf
  exact s_le.rf
theorem l_X6_coinsOfAll_4 {v0 : Nat} {v1 : Int32} {v2 : Int32} {σ : sS} {z : sZ Int32} (hf : T_X6_coinsOfAll_4 v0 v1 v2 σ = some z) : s_lz σ z := by
  unfold T_X6_coinsOfAll_4 at hf
  obtain ⟨x1, -, hf⟩ := s_bind hf
  obtain ⟨x2, -, hf⟩ := s_bind hf
  rcases s_ite hf with ⟨-, hf⟩ | ⟨-, hf⟩
  · cases hf
    exact s_le.rf
  · obtain ⟨x3, -, hf⟩ := s_bind hf
    obtain ⟨q4, hh, hf⟩ := s_bind hf
    refine s_lz.tr (l_X1_isVoid hh) ?_
    rcases s_ite hf with ⟨-, hf⟩ | ⟨-, hf⟩
    · obtain ⟨x5, -, hf⟩ := s_bind hf
      obtain ⟨q6, hh, hf⟩ := s_bind hf
      refine s_lz.tr (l_X1_ofReceipt hh) ?_
      cases hf
      exact s_le.rf
    · cases hf
      exact s_le.rf
theorem l_X6_coinsOfAll_38 {v0 : Nat} {v1 : Int32} {v2 : Int32} {σ : sS} {z : sZ Int32} (hf : T_X6_coinsOfAll_38 v0 v1 v2 σ = some z) : s_lz σ z := by
  unfold T_X6_coinsOfAll_38 at hf
  cases hf
  exact s_le.rf
theorem l_X6_coinsOfAll_s {x : sL} {z : sZ Int32} (hs : S_X6_coinsOfAll x = some z) : s_lz x.2.2 z := by
  obtain ⟨pc, vs, σ⟩ := x
  unfold S_X6_coinsOfAll at hs
  dsimp only at hs ⊢
  rcases s_ite hs with ⟨c, hs⟩ | ⟨-, hs⟩
  · subst c
    unfold U_X6_coinsOfAll_0 at hs
    obtain ⟨a0, g0, hs⟩ := s_bind hs
    obtain ⟨u9, ge, hs⟩ := s_bind hs
    exact l_X6_coinsOfAll_0 hs
  rcases s_ite hs with ⟨c, hs⟩ | ⟨-, hs⟩
  · subst c
    unfold U_X6_coinsOfAll_4 at hs
    obtain ⟨a0, g0, hs⟩ := s_bind hs
    obtain ⟨a1, g1, hs⟩ := s_bind hs
    obtain ⟨a2, g2, hs⟩ := s_bind hs
    obtain ⟨u9, ge, hs⟩ := s_bind hs
    exact l_X6_coinsOfAll_4 hs
  rcases s_ite hs with ⟨c, hs⟩ | ⟨-, hs⟩
  · subst c
    unfold U_X6_coinsOfAll_38 at hs
    obtain ⟨a0, g0, hs⟩ := s_bind hs
    obtain ⟨a1, g1, hs⟩ := s_bind hs
    obtain ⟨a2, g2, hs⟩ := s_bind hs
    obtain ⟨u9, ge, hs⟩ := s_bind hs
    exact l_X6_coinsOfAll_38 hs
  cases hs
theorem l_X6_coinsOfAll {v0 : Nat} {σ : sS} {q : Int32 × sS} (h : F_X6_coinsOfAll v0 σ = some q) : s_le σ q.2 := by
  unfold F_X6_coinsOfAll at h
  obtain ⟨-, -, h⟩ := s_bind h
  exact s_run_ind (V := fun x r => s_le x.2.2 r.2) (fun x z r hs hk => by
    have h9 := l_X6_coinsOfAll_s hs
    cases z with
    | inl y => exact s_le.tr h9 hk
    | inr q => cases hk; exact h9) h
theorem b_X6_coinsOfAll {v0 : Nat} {σ : sS} {q : Int32 × sS} (h : F_X6_coinsOfAll v0 σ = some q) : ∃ fs, σ.1 v0 = some (.inr (6, fs)) := by
  unfold F_X6_coinsOfAll at h
  obtain ⟨u, hu, -⟩ := s_bind h
  exact s_is_to hu
set_option maxRecDepth 100000 in
set_option maxHeartbeats 4000000 in
theorem v_X6_coinsOfAll_0 {G : sG} {d : Nat} {vs0 : List Value} {σ0 : sS} {v0 : Nat} {σ : sS} {z : sZ Int32} {r : Int32 × sS} (hf : T_X6_coinsOfAll_0 v0 σ = some z) (k : s_K G (d + 2) M_X6_coinsOfAll vs0 σ0 Y_X6_coinsOfAll e_I z r) : s_V G (d + 2) M_X6_coinsOfAll vs0 σ0 Y_X6_coinsOfAll (0, [.ref v0], σ) (e_I r) := by
  have le0 : s_le σ (e_I r).2 := s_lek hem_I (l_X6_coinsOfAll_0 hf) k
  refine ⟨le0, ?_⟩
  intro p e s m below meth c H locs cells slots ls X I hn1 hn2 hl
  have hn : cells + σ0.2.1 ≤ σ.2.1 ∧ slots + σ0.2.2.1 ≤ σ.2.2.1 := ⟨hn1, hn2⟩
  have hl : lv_has ls 3 [(0, .ref v0)] := hl
  have hx := X.1
  have hb : c.code = cX6_coinsOfAll := X.2.1
  have hown : s.vm.findClass RX6 = some m.cls := X.2.2.2.2.2.1
  have hts := X.2.2.2.2.2.2.1
  refine W.eq (g2 := F0 m 0 ls []) rfl ?_
  unfold T_X6_coinsOfAll_0 at hf
  cases hf
  have k : s_V G (d + 2) M_X6_coinsOfAll vs0 σ0 Y_X6_coinsOfAll (4, [.ref v0, .int 0, .int 0], σ) (e_I r) := k
  refine lv_iconst (v := 0) hx hb dX6_coinsOfAll_0 (by decide) ?_
  refine lv_istore_n (lv' := [(1, .int 0), (0, .ref v0)]) hx hb dX6_coinsOfAll_1 rfl hl (by decide) rfl (fun ls hl => ?_)
  refine lv_iconst (v := 0) hx hb dX6_coinsOfAll_2 (by decide) ?_
  refine lv_istore_n (lv' := [(2, .int 0), (1, .int 0), (0, .ref v0)]) hx hb dX6_coinsOfAll_3 rfl hl (by decide) rfl (fun ls hl => ?_)
  exact k.2 p e s m below meth c _ _ _ _ _ X I hn.1 hn.2 (lv_sub hl [2, 1, 0] rfl)
set_option maxRecDepth 100000 in
set_option maxHeartbeats 4000000 in
theorem v_X6_coinsOfAll_4 {G : sG} {d : Nat} {vs0 : List Value} {σ0 : sS} {v0 : Nat} {v1 : Int32} {v2 : Int32} {σ : sS} {z : sZ Int32} {r : Int32 × sS} (hf : T_X6_coinsOfAll_4 v0 v1 v2 σ = some z) (k : s_K G (d + 2) M_X6_coinsOfAll vs0 σ0 Y_X6_coinsOfAll e_I z r) : s_V G (d + 2) M_X6_coinsOfAll vs0 σ0 Y_X6_coinsOfAll (4, [.ref v0, .int v1, .int v2], σ) (e_I r) := by
  have le0 : s_le σ (e_I r).2 := s_lek hem_I (l_X6_coinsOfAll_4 hf) k
  refine ⟨le0, ?_⟩
  intro p e s m below meth c H locs cells slots ls X I hn1 hn2 hl
  have hn : cells + σ0.2.1 ≤ σ.2.1 ∧ slots + σ0.2.2.1 ≤ σ.2.2.1 := ⟨hn1, hn2⟩
  have hl : lv_has ls 3 [(0, .ref v0), (1, .int v1), (2, .int v2)] := hl
  have hx := X.1
  have hb : c.code = cX6_coinsOfAll := X.2.1
  have hown : s.vm.findClass RX6 = some m.cls := X.2.2.2.2.2.1
  have hts := X.2.2.2.2.2.2.1
  refine W.eq (g2 := F0 m 4 ls []) rfl ?_
  unfold T_X6_coinsOfAll_4 at hf
  obtain ⟨x1, h1, hf⟩ := s_bind hf
  obtain ⟨x2, h2, hf⟩ := s_bind hf
  refine lv_iload_n hx hb dX6_coinsOfAll_4 rfl (lv_at hl 2 rfl) ?_
  refine lv_aload_n hx hb dX6_coinsOfAll_5 rfl (lv_at hl 0 rfl) ?_
  refine r_gr X I fl_X6_9 h1 dX6_coinsOfAll_6 ?_
  refine r_gi X I fl_X6_19 h2 dX6_coinsOfAll_9 ?_
  rcases s_ite hf with ⟨c3, hf⟩ | ⟨c3, hf⟩
  · refine lv_icmp_ge (tgt := 44) hx hb dX6_coinsOfAll_12 (by decide) (fun _ => ?_) (fun n => absurd c3 n)
    cases hf
    have k : _ = r := k
    subst k
    refine lv_iload_n hx hb dX6_coinsOfAll_44 rfl (lv_at hl 1 rfl) ?_
    exact r_iret X I rfl rfl rfl hn dX6_coinsOfAll_45
  · refine lv_icmp_ge (tgt := 44) hx hb dX6_coinsOfAll_12 (by decide) (fun n => absurd n c3) (fun _ => ?_)
    obtain ⟨x3, h4, hf⟩ := s_bind hf
    obtain ⟨q4, h5, hf⟩ := s_bind hf
    have le6 : s_le q4.2 (e_I r).2 := by
      refine s_lek hem_I ?_ k
      rcases s_ite hf with ⟨-, hf⟩ | ⟨-, hf⟩
      · obtain ⟨x5, -, hf⟩ := s_bind hf
        obtain ⟨q6, hh, hf⟩ := s_bind hf
        refine s_lz.tr (l_X1_ofReceipt hh) ?_
        cases hf
        exact s_le.rf
      · cases hf
        exact s_le.rf
    refine lv_aload_n hx hb dX6_coinsOfAll_15 rfl (lv_at hl 0 rfl) ?_
    refine r_gr X I fl_X6_9 h4 dX6_coinsOfAll_16 ?_
    refine lv_iload_n hx hb dX6_coinsOfAll_19 rfl (lv_at hl 2 rfl) ?_
    refine r_callV (Y := M_X1_isVoid) (v := some (.int q4.1)) X I w_684 my_X1_isVoid (by omega) (t_X1_isVoid (G := G) (d := d + 0) h5) (b_X1_isVoid h5) rfl rfl hl.1 rfl (Nat.le_of_ble_eq_true rfl) hn le6 dX6_coinsOfAll_20 (fun H locs cells slots I hn1 hn2 => ?_)
    have I : s_I G q4.2 s H locs := I
    have hn : cells + σ0.2.1 ≤ q4.2.2.1 ∧ slots + σ0.2.2.1 ≤ q4.2.2.2.1 := ⟨hn1, hn2⟩
    rcases s_ite hf with ⟨c7, hf⟩ | ⟨c7, hf⟩
    · refine lv_if_ne (tgt := 38) hx hb dX6_coinsOfAll_23 (by decide) (fun n => absurd c7 n) (fun _ => ?_)
      obtain ⟨x5, h8, hf⟩ := s_bind hf
      obtain ⟨q6, h9, hf⟩ := s_bind hf
      cases hf
      have k : s_V G (d + 2) M_X6_coinsOfAll vs0 σ0 Y_X6_coinsOfAll (38, [.ref v0, .int (v1 + q6.1), .int v2], q6.2) (e_I r) := k
      have le10 : s_le q6.2 (e_I r).2 := k.1
      refine lv_iload_n hx hb dX6_coinsOfAll_26 rfl (lv_at hl 1 rfl) ?_
      refine lv_aload_n hx hb dX6_coinsOfAll_27 rfl (lv_at hl 0 rfl) ?_
      refine r_gr X I fl_X6_9 h8 dX6_coinsOfAll_28 ?_
      refine lv_iload_n hx hb dX6_coinsOfAll_31 rfl (lv_at hl 2 rfl) ?_
      refine lv_iconst (v := 2) hx hb dX6_coinsOfAll_32 (by decide) ?_
      refine r_callV (Y := M_X1_ofReceipt) (v := some (.int q6.1)) X I w_620 my_X1_ofReceipt (by omega) (t_X1_ofReceipt (G := G) (d := d + 0) h9) (b_X1_ofReceipt h9) rfl rfl hl.1 rfl (Nat.le_of_ble_eq_true rfl) hn le10 dX6_coinsOfAll_33 (fun H locs cells slots I hn1 hn2 => ?_)
      have I : s_I G q6.2 s H locs := I
      have hn : cells + σ0.2.1 ≤ q6.2.2.1 ∧ slots + σ0.2.2.1 ≤ q6.2.2.2.1 := ⟨hn1, hn2⟩
      refine lv_iadd hx hb dX6_coinsOfAll_36 ?_
      refine lv_istore_n (lv' := [(1, .int (v1 + q6.1)), (0, .ref v0), (2, .int v2)]) hx hb dX6_coinsOfAll_37 rfl hl (by decide) rfl (fun ls hl => ?_)
      exact k.2 p e s m below meth c _ _ _ _ _ X I hn.1 hn.2 (lv_sub hl [1, 0, 2] rfl)
    · refine lv_if_ne (tgt := 38) hx hb dX6_coinsOfAll_23 (by decide) (fun _ => ?_) (fun n => absurd n c7)
      cases hf
      have k : s_V G (d + 2) M_X6_coinsOfAll vs0 σ0 Y_X6_coinsOfAll (38, [.ref v0, .int v1, .int v2], q4.2) (e_I r) := k
      exact k.2 p e s m below meth c _ _ _ _ _ X I hn.1 hn.2 (lv_sub hl [0, 1, 2] rfl)
set_option maxRecDepth 100000 in
set_option maxHeartbeats 4000000 in
theorem v_X6_coinsOfAll_38 {G : sG} {d : Nat} {vs0 : List Value} {σ0 : sS} {v0 : Nat} {v1 : Int32} {v2 : Int32} {σ : sS} {z : sZ Int32} {r : Int32 × sS} (hf : T_X6_coinsOfAll_38 v0 v1 v2 σ = some z) (k : s_K G (d + 2) M_X6_coinsOfAll vs0 σ0 Y_X6_coinsOfAll e_I z r) : s_V G (d + 2) M_X6_coinsOfAll vs0 σ0 Y_X6_coinsOfAll (38, [.ref v0, .int v1, .int v2], σ) (e_I r) := by
  have le0 : s_le σ (e_I r).2 := s_lek hem_I (l_X6_coinsOfAll_38 hf) k
  refine ⟨le0, ?_⟩
  intro p e s m below meth c H locs cells slots ls X I hn1 hn2 hl
  have hn : cells + σ0.2.1 ≤ σ.2.1 ∧ slots + σ0.2.2.1 ≤ σ.2.2.1 := ⟨hn1, hn2⟩
  have hl : lv_has ls 3 [(0, .ref v0), (1, .int v1), (2, .int v2)] := hl
  have hx := X.1
  have hb : c.code = cX6_coinsOfAll := X.2.1
  have hown : s.vm.findClass RX6 = some m.cls := X.2.2.2.2.2.1
  have hts := X.2.2.2.2.2.2.1
  refine W.eq (g2 := F0 m 38 ls []) rfl ?_
  unfold T_X6_coinsOfAll_38 at hf
  cases hf
  have k : s_V G (d + 2) M_X6_coinsOfAll vs0 σ0 Y_X6_coinsOfAll (4, [.ref v0, .int v1, .int (v2 + 1)], σ) (e_I r) := k
  refine lv_iinc (v := (v2 + 1)) (lv' := [(2, .int (v2 + 1)), (0, .ref v0), (1, .int v1)]) hx hb dX6_coinsOfAll_38 hl (k := 2) rfl rfl (by decide) rfl (fun ls hl => ?_)
  refine lv_goto (tgt := 4) hx hb dX6_coinsOfAll_41 (by decide) ?_
  exact k.2 p e s m below meth c _ _ _ _ _ X I hn.1 hn.2 (lv_sub hl [1, 2, 0] rfl)
theorem v_X6_coinsOfAll {G : sG} {d : Nat} {vs0 : List Value} {σ0 : sS} {x : sL} {z : sZ Int32} {r : Int32 × sS} (hs : S_X6_coinsOfAll x = some z) (k : s_K G (d + 2) M_X6_coinsOfAll vs0 σ0 Y_X6_coinsOfAll e_I z r) : s_V G (d + 2) M_X6_coinsOfAll vs0 σ0 Y_X6_coinsOfAll x (e_I r) := by
  obtain ⟨pc, vs, σ⟩ := x
  unfold S_X6_coinsOfAll at hs
  dsimp only at hs
  rcases s_ite hs with ⟨c, hs⟩ | ⟨-, hs⟩
  · subst c
    unfold U_X6_coinsOfAll_0 at hs
    obtain ⟨a0, g0, hs⟩ := s_bind hs
    obtain ⟨u9, ge, hs⟩ := s_bind hs
    rw [g_r_to g0, g_e_to ge]
    exact v_X6_coinsOfAll_0 hs k
  rcases s_ite hs with ⟨c, hs⟩ | ⟨-, hs⟩
  · subst c
    unfold U_X6_coinsOfAll_4 at hs
    obtain ⟨a0, g0, hs⟩ := s_bind hs
    obtain ⟨a1, g1, hs⟩ := s_bind hs
    obtain ⟨a2, g2, hs⟩ := s_bind hs
    obtain ⟨u9, ge, hs⟩ := s_bind hs
    rw [g_r_to g0, g_i_to g1, g_i_to g2, g_e_to ge]
    exact v_X6_coinsOfAll_4 hs k
  rcases s_ite hs with ⟨c, hs⟩ | ⟨-, hs⟩
  · subst c
    unfold U_X6_coinsOfAll_38 at hs
    obtain ⟨a0, g0, hs⟩ := s_bind hs
    obtain ⟨a1, g1, hs⟩ := s_bind hs
    obtain ⟨a2, g2, hs⟩ := s_bind hs
    obtain ⟨u9, ge, hs⟩ := s_bind hs
    rw [g_r_to g0, g_i_to g1, g_i_to g2, g_e_to ge]
    exact v_X6_coinsOfAll_38 hs k
  cases hs
theorem t_X6_coinsOfAll {G : sG} {d : Nat} {v0 : Nat} {σ : sS} {q : Int32 × sS} (h : F_X6_coinsOfAll v0 σ = some q) : s_T G (d + 2) M_X6_coinsOfAll [.ref v0] σ (e_I q) := by
  unfold F_X6_coinsOfAll at h
  obtain ⟨-, -, h⟩ := s_bind h
  exact s_ofV rfl (by decide) (Nat.le_of_ble_eq_true rfl) rfl rfl (s_run_ind (V := fun x r => s_V G (d + 2) M_X6_coinsOfAll [.ref v0] σ Y_X6_coinsOfAll x (e_I r)) (fun x z r hs hk => v_X6_coinsOfAll hs (by cases z <;> exact hk)) h)
/-! X7_count -/
noncomputable def T_X7_count_0 (v0 : Nat) (v1 : Int32) (σ : sS) : Option (sZ Int32) :=
  if v1 = 0 then ((s_fr σ v0 7 1).bind fun x1 =>
  (s_fi σ x1 1 0).bind fun x2 =>
  some (.inr (x2, σ)))
  else if v1 = 1 then ((s_fr σ v0 7 1).bind fun x3 =>
  (s_fi σ x3 1 2).bind fun x4 =>
  some (.inr (x4, σ)))
  else if v1 = 2 then ((s_fr σ v0 7 1).bind fun x5 =>
  (s_fi σ x5 1 6).bind fun x6 =>
  some (.inr (x6, σ)))
  else if v1 = 3 then ((s_fr σ v0 7 1).bind fun x7 =>
  (s_fi σ x7 1 9).bind fun x8 =>
  some (.inr (x8, σ)))
  else if v1 = 4 then ((s_fr σ v0 7 1).bind fun x9 =>
  (s_fi σ x9 1 10).bind fun x10 =>
  (F_J6_bitCount_0f7a4 x10 σ).bind fun q11 =>
  some (.inr (q11.1, q11.2)))
  else if v1 = 5 then ((s_fr σ v0 7 5).bind fun x12 =>
  (F_X0_audit x12 σ).bind fun q13 =>
  (s_fr q13.2 v0 7 1).bind fun x14 =>
  (s_fi q13.2 x14 1 6).bind fun x15 =>
  (s_fr q13.2 v0 7 5).bind fun x16 =>
  (s_fl q13.2 x16 0 0).bind fun x17 =>
  (F_J13_bitCount_95d88 x17 q13.2).bind fun q18 =>
  some (.inr ((x15 - q18.1), q18.2)))
  else if v1 = 6 then ((s_fr σ v0 7 7).bind fun x19 =>
  (F_X6_coinsOfAll x19 σ).bind fun q20 =>
  some (.inr (q20.1, q20.2)))
  else (some (.inr ((-1), σ)))
noncomputable def U_X7_count_0 (vs : List Value) (σ : sS) : Option (sZ Int32) := (g_r vs).bind fun a0 => (g_i a0.2).bind fun a1 => (g_e a1.2).bind fun _ => T_X7_count_0 a0.1 a1.1 σ
noncomputable def S_X7_count (x : sL) : Option (sZ Int32) := if x.1 = 0 then U_X7_count_0 x.2.1 x.2.2 else none
def Y_X7_count (pc : Nat) : List Nat := if pc = 0 then [0, 1] else []
noncomputable def F_X7_count (v0 : Nat) (v1 : Int32) (σ : sS) : Option (Int32 × sS) := (s_is σ v0 7).bind fun _ => s_run S_X7_count (0, [.ref v0, .int v1], σ)
theorem l_X7_count_0 {v0 : Nat} {v1 : Int32} {σ : sS} {z : sZ Int32} (hf : T_X7_count_0 v0 v1 σ = some z) : s_lz σ z := by
  unfold T_X7_count_0 at hf
  rcases s_ite hf with ⟨-, hf⟩ | ⟨-, hf⟩
  · obtain ⟨x1, -, hf⟩ := s_bind hf
    obtain ⟨x2, -, hf⟩ := s_bind hf
    cases hf
    exact s_le.rf
  rcases s_ite hf with ⟨-, hf⟩ | ⟨-, hf⟩
  · obtain ⟨x3, -, hf⟩ := s_bind hf
    obtain ⟨x4, -, hf⟩ := s_bind hf
    cases hf
    exact s_le.rf
  rcases s_ite hf with ⟨-, hf⟩ | ⟨-, hf⟩
  · obtain ⟨x5, -, hf⟩ := s_bind hf
    obtain ⟨x6, -, hf⟩ := s_bind hf
    cases hf
    exact s_le.rf
  rcases s_ite hf with ⟨-, hf⟩ | ⟨-, hf⟩
  · obtain ⟨x7, -, hf⟩ := s_bind hf
    obtain ⟨x8, -, hf⟩ := s_bind hf
    cases hf
    exact s_le.rf
  rcases s_ite hf with ⟨-, hf⟩ | ⟨-, hf⟩
  · obtain ⟨x9, -, hf⟩ := s_bind hf
    obtain ⟨x10, -, hf⟩ := s_bind hf
    obtain ⟨q11, hh, hf⟩ := s_bind hf
    refine s_lz.tr (l_J6_bitCount_0f7a4 hh) ?_
    cases hf
    exact s_le.rf
  rcases s_ite hf with ⟨-, hf⟩ | ⟨-, hf⟩
  · obtain ⟨x12, -, hf⟩ := s_bind hf
    obtain ⟨q13, hh, hf⟩ := s_bind hf
    refine s_lz.tr (l_X0_audit hh) ?_
    obtain ⟨x14, -, hf⟩ := s_bind hf
    obtain ⟨x15, -, hf⟩ := s_bind hf
    obtain ⟨x16, -, hf⟩ := s_bind hf
    obtain ⟨x17, -, hf⟩ := s_bind hf
    obtain ⟨q18, hh, hf⟩ := s_bind hf
    refine s_lz.tr (l_J13_bitCount_95d88 hh) ?_
    cases hf
    exact s_le.rf
  rcases s_ite hf with ⟨-, hf⟩ | ⟨-, hf⟩
  · obtain ⟨x19, -, hf⟩ := s_bind hf
    obtain ⟨q20, hh, hf⟩ := s_bind hf
    refine s_lz.tr (l_X6_coinsOfAll hh) ?_
    cases hf
    exact s_le.rf
  cases hf
  exact s_le.rf
theorem l_X7_count_s {x : sL} {z : sZ Int32} (hs : S_X7_count x = some z) : s_lz x.2.2 z := by
  obtain ⟨pc, vs, σ⟩ := x
  unfold S_X7_count at hs
  dsimp only at hs ⊢
  rcases s_ite hs with ⟨c, hs⟩ | ⟨-, hs⟩
  · subst c
    unfold U_X7_count_0 at hs
    obtain ⟨a0, g0, hs⟩ := s_bind hs
    obtain ⟨a1, g1, hs⟩ := s_bind hs
    obtain ⟨u9, ge, hs⟩ := s_bind hs
    exact l_X7_count_0 hs
  cases hs
theorem l_X7_count {v0 : Nat} {v1 : Int32} {σ : sS} {q : Int32 × sS} (h : F_X7_count v0 v1 σ = some q) : s_le σ q.2 := by
  unfold F_X7_count at h
  obtain ⟨-, -, h⟩ := s_bind h
  exact s_run_ind (V := fun x r => s_le x.2.2 r.2) (fun x z r hs hk => by
    have h9 := l_X7_count_s hs
    cases z with
    | inl y => exact s_le.tr h9 hk
    | inr q => cases hk; exact h9) h
theorem b_X7_count {v0 : Nat} {v1 : Int32} {σ : sS} {q : Int32 × sS} (h : F_X7_count v0 v1 σ = some q) : ∃ fs, σ.1 v0 = some (.inr (7, fs)) := by
  unfold F_X7_count at h
  obtain ⟨u, hu, -⟩ := s_bind h
  exact s_is_to hu
set_option maxRecDepth 100000 in
set_option maxHeartbeats 4000000 in
theorem v_X7_count_0 {G : sG} {d : Nat} {vs0 : List Value} {σ0 : sS} {v0 : Nat} {v1 : Int32} {σ : sS} {z : sZ Int32} {r : Int32 × sS} (hf : T_X7_count_0 v0 v1 σ = some z) (k : s_K G (d + 7) M_X7_count vs0 σ0 Y_X7_count e_I z r) : s_V G (d + 7) M_X7_count vs0 σ0 Y_X7_count (0, [.ref v0, .int v1], σ) (e_I r) := by
  have le0 : s_le σ (e_I r).2 := s_lek hem_I (l_X7_count_0 hf) k
  refine ⟨le0, ?_⟩
  intro p e s m below meth c H locs cells slots ls X I hn1 hn2 hl
  have hn : cells + σ0.2.1 ≤ σ.2.1 ∧ slots + σ0.2.2.1 ≤ σ.2.2.1 := ⟨hn1, hn2⟩
  have hl : lv_has ls 2 [(0, .ref v0), (1, .int v1)] := hl
  have hx := X.1
  have hb : c.code = cX7_count := X.2.1
  have hown : s.vm.findClass RX7 = some m.cls := X.2.2.2.2.2.1
  have hts := X.2.2.2.2.2.2.1
  refine W.eq (g2 := F0 m 0 ls []) rfl ?_
  unfold T_X7_count_0 at hf
  refine lv_iload_n hx hb dX7_count_0 rfl (lv_at hl 1 rfl) ?_
  rcases s_ite hf with ⟨c1, hf⟩ | ⟨c1, hf⟩
  · refine lv_tableIn (tgt := 44) (off := 43) hx hb dX7_count_1 (by rw [c1]; decide) (by rw [c1]; decide) (by rw [c1]; rfl) (by decide) ?_
    obtain ⟨x1, h2, hf⟩ := s_bind hf
    obtain ⟨x2, h3, hf⟩ := s_bind hf
    cases hf
    have k : _ = r := k
    subst k
    refine lv_aload_n hx hb dX7_count_44 rfl (lv_at hl 0 rfl) ?_
    refine r_gr X I fl_X7_19 h2 dX7_count_45 ?_
    refine r_gi X I fl_X7_84 h3 dX7_count_48 ?_
    exact r_iret X I rfl rfl rfl hn dX7_count_51
  rcases s_ite hf with ⟨c4, hf⟩ | ⟨c4, hf⟩
  · refine lv_tableIn (tgt := 52) (off := 51) hx hb dX7_count_1 (by rw [c4]; decide) (by rw [c4]; decide) (by rw [c4]; rfl) (by decide) ?_
    obtain ⟨x3, h5, hf⟩ := s_bind hf
    obtain ⟨x4, h6, hf⟩ := s_bind hf
    cases hf
    have k : _ = r := k
    subst k
    refine lv_aload_n hx hb dX7_count_52 rfl (lv_at hl 0 rfl) ?_
    refine r_gr X I fl_X7_19 h5 dX7_count_53 ?_
    refine r_gi X I fl_X7_103 h6 dX7_count_56 ?_
    exact r_iret X I rfl rfl rfl hn dX7_count_59
  rcases s_ite hf with ⟨c7, hf⟩ | ⟨c7, hf⟩
  · refine lv_tableIn (tgt := 60) (off := 59) hx hb dX7_count_1 (by rw [c7]; decide) (by rw [c7]; decide) (by rw [c7]; rfl) (by decide) ?_
    obtain ⟨x5, h8, hf⟩ := s_bind hf
    obtain ⟨x6, h9, hf⟩ := s_bind hf
    cases hf
    have k : _ = r := k
    subst k
    refine lv_aload_n hx hb dX7_count_60 rfl (lv_at hl 0 rfl) ?_
    refine r_gr X I fl_X7_19 h8 dX7_count_61 ?_
    refine r_gi X I fl_X7_186 h9 dX7_count_64 ?_
    exact r_iret X I rfl rfl rfl hn dX7_count_67
  rcases s_ite hf with ⟨c10, hf⟩ | ⟨c10, hf⟩
  · refine lv_tableIn (tgt := 68) (off := 67) hx hb dX7_count_1 (by rw [c10]; decide) (by rw [c10]; decide) (by rw [c10]; rfl) (by decide) ?_
    obtain ⟨x7, h11, hf⟩ := s_bind hf
    obtain ⟨x8, h12, hf⟩ := s_bind hf
    cases hf
    have k : _ = r := k
    subst k
    refine lv_aload_n hx hb dX7_count_68 rfl (lv_at hl 0 rfl) ?_
    refine r_gr X I fl_X7_19 h11 dX7_count_69 ?_
    refine r_gi X I fl_X7_292 h12 dX7_count_72 ?_
    exact r_iret X I rfl rfl rfl hn dX7_count_75
  rcases s_ite hf with ⟨c13, hf⟩ | ⟨c13, hf⟩
  · refine lv_tableIn (tgt := 76) (off := 75) hx hb dX7_count_1 (by rw [c13]; decide) (by rw [c13]; decide) (by rw [c13]; rfl) (by decide) ?_
    obtain ⟨x9, h14, hf⟩ := s_bind hf
    obtain ⟨x10, h15, hf⟩ := s_bind hf
    obtain ⟨q11, h16, hf⟩ := s_bind hf
    cases hf
    have k : _ = r := k
    subst k
    have le17 : s_le q11.2 q11.2 := s_le.rf
    refine lv_aload_n hx hb dX7_count_76 rfl (lv_at hl 0 rfl) ?_
    refine r_gr X I fl_X7_19 h14 dX7_count_77 ?_
    refine r_gi X I fl_X7_306 h15 dX7_count_80 ?_
    refine r_callS (Y := M_J6_bitCount_0f7a4) (v := some (.int q11.1)) X I w_668 my_J6_bitCount_0f7a4 (by omega) (t_J6_bitCount_0f7a4 (G := G) (d := d + 5) h16) rfl rfl hl.1 rfl (Nat.le_of_ble_eq_true rfl) hn le17 dX7_count_83 (fun H locs cells slots I hn1 hn2 => ?_)
    have I : s_I G q11.2 s H locs := I
    have hn : cells + σ0.2.1 ≤ q11.2.2.1 ∧ slots + σ0.2.2.1 ≤ q11.2.2.2.1 := ⟨hn1, hn2⟩
    exact r_iret X I rfl rfl rfl hn dX7_count_86
  rcases s_ite hf with ⟨c18, hf⟩ | ⟨c18, hf⟩
  · refine lv_tableIn (tgt := 87) (off := 86) hx hb dX7_count_1 (by rw [c18]; decide) (by rw [c18]; decide) (by rw [c18]; rfl) (by decide) ?_
    obtain ⟨x12, h19, hf⟩ := s_bind hf
    obtain ⟨q13, h20, hf⟩ := s_bind hf
    obtain ⟨x14, h21, hf⟩ := s_bind hf
    obtain ⟨x15, h22, hf⟩ := s_bind hf
    obtain ⟨x16, h23, hf⟩ := s_bind hf
    obtain ⟨x17, h24, hf⟩ := s_bind hf
    obtain ⟨q18, h25, hf⟩ := s_bind hf
    cases hf
    have k : _ = r := k
    subst k
    have le26 : s_le q18.2 q18.2 := s_le.rf
    have le27 := s_le.tr (l_J13_bitCount_95d88 h25) le26
    refine lv_aload_n hx hb dX7_count_87 rfl (lv_at hl 0 rfl) ?_
    refine r_gr X I fl_X7_49 h19 dX7_count_88 ?_
    refine r_callV (Y := M_X0_audit) (v := none) X I w_509 my_X0_audit (by omega) (t_X0_audit (G := G) (d := d + 0) h20) (b_X0_audit h20) rfl rfl hl.1 rfl (Nat.le_of_ble_eq_true rfl) hn le27 dX7_count_91 (fun H locs cells slots I hn1 hn2 => ?_)
    have I : s_I G q13.2 s H locs := I
    have hn : cells + σ0.2.1 ≤ q13.2.2.1 ∧ slots + σ0.2.2.1 ≤ q13.2.2.2.1 := ⟨hn1, hn2⟩
    refine lv_aload_n hx hb dX7_count_94 rfl (lv_at hl 0 rfl) ?_
    refine r_gr X I fl_X7_19 h21 dX7_count_95 ?_
    refine r_gi X I fl_X7_186 h22 dX7_count_98 ?_
    refine lv_aload_n hx hb dX7_count_101 rfl (lv_at hl 0 rfl) ?_
    refine r_gr X I fl_X7_49 h23 dX7_count_102 ?_
    refine r_gl X I fl_X7_334 h24 dX7_count_105 ?_
    refine r_callS (Y := M_J13_bitCount_95d88) (v := some (.int q18.1)) X I w_674 my_J13_bitCount_95d88 (by omega) (t_J13_bitCount_95d88 (G := G) (d := d + 5) h25) rfl rfl hl.1 rfl (Nat.le_of_ble_eq_true rfl) hn le26 dX7_count_108 (fun H locs cells slots I hn1 hn2 => ?_)
    have I : s_I G q18.2 s H locs := I
    have hn : cells + σ0.2.1 ≤ q18.2.2.1 ∧ slots + σ0.2.2.1 ≤ q18.2.2.2.1 := ⟨hn1, hn2⟩
    refine lv_isub hx hb dX7_count_111 ?_
    exact r_iret X I rfl rfl rfl hn dX7_count_112
  rcases s_ite hf with ⟨c28, hf⟩ | ⟨c28, hf⟩
  · refine lv_tableIn (tgt := 113) (off := 112) hx hb dX7_count_1 (by rw [c28]; decide) (by rw [c28]; decide) (by rw [c28]; rfl) (by decide) ?_
    obtain ⟨x19, h29, hf⟩ := s_bind hf
    obtain ⟨q20, h30, hf⟩ := s_bind hf
    cases hf
    have k : _ = r := k
    subst k
    have le31 : s_le q20.2 q20.2 := s_le.rf
    refine lv_aload_n hx hb dX7_count_113 rfl (lv_at hl 0 rfl) ?_
    refine r_gr X I fl_X7_65 h29 dX7_count_114 ?_
    refine r_callV (Y := M_X6_coinsOfAll) (v := some (.int q20.1)) X I w_680 my_X6_coinsOfAll (by omega) (t_X6_coinsOfAll (G := G) (d := d + 4) h30) (b_X6_coinsOfAll h30) rfl rfl hl.1 rfl (Nat.le_of_ble_eq_true rfl) hn le31 dX7_count_117 (fun H locs cells slots I hn1 hn2 => ?_)
    have I : s_I G q20.2 s H locs := I
    have hn : cells + σ0.2.1 ≤ q20.2.2.1 ∧ slots + σ0.2.2.1 ≤ q20.2.2.2.1 := ⟨hn1, hn2⟩
    exact r_iret X I rfl rfl rfl hn dX7_count_120
  refine lv_tableOut (tgt := 121) hx hb dX7_count_1 (by
      have tc1 := lv_neT (a := 0) c1 (by decide)
      have tc4 := lv_neT (a := 1) c4 (by decide)
      have tc7 := lv_neT (a := 2) c7 (by decide)
      have tc10 := lv_neT (a := 3) c10 (by decide)
      have tc13 := lv_neT (a := 4) c13 (by decide)
      have tc18 := lv_neT (a := 5) c18 (by decide)
      have tc28 := lv_neT (a := 6) c28 (by decide)
      omega) (by decide) ?_
  cases hf
  have k : _ = r := k
  subst k
  refine lv_iconst (v := (-1)) hx hb dX7_count_121 (by decide) ?_
  exact r_iret X I rfl rfl rfl hn dX7_count_122
theorem v_X7_count {G : sG} {d : Nat} {vs0 : List Value} {σ0 : sS} {x : sL} {z : sZ Int32} {r : Int32 × sS} (hs : S_X7_count x = some z) (k : s_K G (d + 7) M_X7_count vs0 σ0 Y_X7_count e_I z r) : s_V G (d + 7) M_X7_count vs0 σ0 Y_X7_count x (e_I r) := by
  obtain ⟨pc, vs, σ⟩ := x
  unfold S_X7_count at hs
  dsimp only at hs
  rcases s_ite hs with ⟨c, hs⟩ | ⟨-, hs⟩
  · subst c
    unfold U_X7_count_0 at hs
    obtain ⟨a0, g0, hs⟩ := s_bind hs
    obtain ⟨a1, g1, hs⟩ := s_bind hs
    obtain ⟨u9, ge, hs⟩ := s_bind hs
    rw [g_r_to g0, g_i_to g1, g_e_to ge]
    exact v_X7_count_0 hs k
  cases hs
theorem t_X7_count {G : sG} {d : Nat} {v0 : Nat} {v1 : Int32} {σ : sS} {q : Int32 × sS} (h : F_X7_count v0 v1 σ = some q) : s_T G (d + 7) M_X7_count [.ref v0, .int v1] σ (e_I q) := by
  unfold F_X7_count at h
  obtain ⟨-, -, h⟩ := s_bind h
  exact s_ofV rfl (by decide) (Nat.le_of_ble_eq_true rfl) rfl rfl (s_run_ind (V := fun x r => s_V G (d + 7) M_X7_count [.ref v0, .int v1] σ Y_X7_count x (e_I r)) (fun x z r hs hk => v_X7_count hs (by cases z <;> exact hk)) h)
/-! X8_count -/
noncomputable def T_X8_count_0 (v0 : Nat) (v1 : Int32) (σ : sS) : Option (sZ Int32) :=
  (s_pf σ v0 8 0 (.int 0)).bind fun σ1 =>
  if v1 = 0 then ((F_X8_d v0 σ1).bind fun q2 =>
  some (.inr (q2.1, q2.2)))
  else if v1 = 1 then ((F_X8_formulas v0 σ1).bind fun q3 =>
  some (.inr (q3.1, q3.2)))
  else if v1 = 2 then ((F_X8_lines v0 σ1).bind fun q4 =>
  some (.inr (q4.1, q4.2)))
  else if v1 = 3 then ((F_X8_receipts v0 σ1).bind fun q5 =>
  some (.inr (q5.1, q5.2)))
  else if v1 = 4 then (some (.inl (74, [.ref v0, .int 0, .int 0], σ1)))
  else if v1 = 5 then (some (.inl (108, [.ref v0, .int 0, .int 0], σ1)))
  else if v1 = 6 then (some (.inl (142, [.ref v0, .int 0, .int 0], σ1)))
  else (some (.inr ((-1), σ1)))
noncomputable def U_X8_count_0 (vs : List Value) (σ : sS) : Option (sZ Int32) := (g_r vs).bind fun a0 => (g_i a0.2).bind fun a1 => (g_e a1.2).bind fun _ => T_X8_count_0 a0.1 a1.1 σ
noncomputable def T_X8_count_74 (v0 : Nat) (v2 : Int32) (v3 : Int32) (σ : sS) : Option (sZ Int32) :=
  (F_X8_receipts v0 σ).bind fun q1 =>
  if q1.1 ≤ v3 then (some (.inr (v2, q1.2)))
  else ((F_X8_isVoid v0 v3 q1.2).bind fun q2 =>
  if q2.1 = 0 then (some (.inl (96, [.ref v0, .int v3, .int 0, .int v2], q2.2)))
  else (some (.inl (96, [.ref v0, .int v3, .int 1, .int v2], q2.2))))
noncomputable def U_X8_count_74 (vs : List Value) (σ : sS) : Option (sZ Int32) := (g_r vs).bind fun a0 => (g_i a0.2).bind fun a1 => (g_i a1.2).bind fun a2 => (g_e a2.2).bind fun _ => T_X8_count_74 a0.1 a1.1 a2.1 σ
noncomputable def T_X8_count_96 (v0 : Nat) (v3 : Int32) (w0 : Int32) (w1 : Int32) (σ : sS) : Option (sZ Int32) :=
  some (.inl (74, [.ref v0, .int (w1 + w0), .int (v3 + 1)], σ))
noncomputable def U_X8_count_96 (vs : List Value) (σ : sS) : Option (sZ Int32) := (g_r vs).bind fun a0 => (g_i a0.2).bind fun a1 => (g_i a1.2).bind fun a2 => (g_i a2.2).bind fun a3 => (g_e a3.2).bind fun _ => T_X8_count_96 a0.1 a1.1 a2.1 a3.1 σ
noncomputable def T_X8_count_108 (v0 : Nat) (v2 : Int32) (v3 : Int32) (σ : sS) : Option (sZ Int32) :=
  (F_X8_lines v0 σ).bind fun q1 =>
  if q1.1 ≤ v3 then (some (.inr (v2, q1.2)))
  else ((F_X8_isHonest v0 v3 q1.2).bind fun q2 =>
  if q2.1 = 0 then (some (.inl (130, [.ref v0, .int v3, .int 1, .int v2], q2.2)))
  else (some (.inl (130, [.ref v0, .int v3, .int 0, .int v2], q2.2))))
noncomputable def U_X8_count_108 (vs : List Value) (σ : sS) : Option (sZ Int32) := (g_r vs).bind fun a0 => (g_i a0.2).bind fun a1 => (g_i a1.2).bind fun a2 => (g_e a2.2).bind fun _ => T_X8_count_108 a0.1 a1.1 a2.1 σ
noncomputable def T_X8_count_130 (v0 : Nat) (v3 : Int32) (w0 : Int32) (w1 : Int32) (σ : sS) : Option (sZ Int32) :=
  some (.inl (108, [.ref v0, .int (w1 + w0), .int (v3 + 1)], σ))
noncomputable def U_X8_count_130 (vs : List Value) (σ : sS) : Option (sZ Int32) := (g_r vs).bind fun a0 => (g_i a0.2).bind fun a1 => (g_i a1.2).bind fun a2 => (g_i a2.2).bind fun a3 => (g_e a3.2).bind fun _ => T_X8_count_130 a0.1 a1.1 a2.1 a3.1 σ
noncomputable def T_X8_count_142 (v0 : Nat) (v2 : Int32) (v3 : Int32) (σ : sS) : Option (sZ Int32) :=
  (F_X8_receipts v0 σ).bind fun q1 =>
  if q1.1 ≤ v3 then (some (.inr (v2, q1.2)))
  else ((F_X8_isVoid v0 v3 q1.2).bind fun q2 =>
  if q2.1 = 0 then ((F_X8_ofReceipt v0 v3 2 q2.2).bind fun q3 =>
  some (.inl (169, [.ref v0, .int v3, .int q3.1, .int v2], q3.2)))
  else (some (.inl (169, [.ref v0, .int v3, .int 0, .int v2], q2.2))))
noncomputable def U_X8_count_142 (vs : List Value) (σ : sS) : Option (sZ Int32) := (g_r vs).bind fun a0 => (g_i a0.2).bind fun a1 => (g_i a1.2).bind fun a2 => (g_e a2.2).bind fun _ => T_X8_count_142 a0.1 a1.1 a2.1 σ
noncomputable def T_X8_count_169 (v0 : Nat) (v3 : Int32) (w0 : Int32) (w1 : Int32) (σ : sS) : Option (sZ Int32) :=
  some (.inl (142, [.ref v0, .int (w1 + w0), .int (v3 + 1)], σ))
noncomputable def U_X8_count_169 (vs : List Value) (σ : sS) : Option (sZ Int32) := (g_r vs).bind fun a0 => (g_i a0.2).bind fun a1 => (g_i a1.2).bind fun a2 => (g_i a2.2).bind fun a3 => (g_e a3.2).bind fun _ => T_X8_count_169 a0.1 a1.1 a2.1 a3.1 σ
noncomputable def S_X8_count (x : sL) : Option (sZ Int32) := if x.1 = 0 then U_X8_count_0 x.2.1 x.2.2 else if x.1 = 74 then U_X8_count_74 x.2.1 x.2.2 else if x.1 = 96 then U_X8_count_96 x.2.1 x.2.2 else if x.1 = 108 then U_X8_count_108 x.2.1 x.2.2 else if x.1 = 130 then U_X8_count_130 x.2.1 x.2.2 else if x.1 = 142 then U_X8_count_142 x.2.1 x.2.2 else if x.1 = 169 then U_X8_count_169 x.2.1 x.2.2 else none
def Y_X8_count (pc : Nat) : List Nat := if pc = 0 then [0, 1] else if pc = 74 then [0, 2, 3] else if pc = 96 then [0, 3] else if pc = 108 then [0, 2, 3] else if pc = 130 then [0, 3] else if pc = 142 then [0, 2, 3] else if pc = 169 then [0, 3] else []
noncomputable def F_X8_count (v0 : Nat) (v1 : Int32) (σ : sS) : Option (Int32 × sS) := (s_is σ v0 8).bind fun _ => s_run S_X8_count (0, [.ref v0, .int v1], σ)
theorem l_X8_count_0 {v0 : Nat} {v1 : Int32} {σ : sS} {z : sZ Int32} (hf : T_X8_count_0 v0 v1 σ = some z) : s_lz σ z := by
  unfold T_X8_count_0 at hf
  obtain ⟨σ1, hh, hf⟩ := s_bind hf
  refine s_lz.tr (s_le2 (s_pf_2 hh)) ?_
  rcases s_ite hf with ⟨-, hf⟩ | ⟨-, hf⟩
  · obtain ⟨q2, hh, hf⟩ := s_bind hf
    refine s_lz.tr (l_X8_d hh) ?_
    cases hf
    exact s_le.rf
  rcases s_ite hf with ⟨-, hf⟩ | ⟨-, hf⟩
  · obtain ⟨q3, hh, hf⟩ := s_bind hf
    refine s_lz.tr (l_X8_formulas hh) ?_
    cases hf
    exact s_le.rf
  rcases s_ite hf with ⟨-, hf⟩ | ⟨-, hf⟩
  · obtain ⟨q4, hh, hf⟩ := s_bind hf
    refine s_lz.tr (l_X8_lines hh) ?_
    cases hf
    exact s_le.rf
  rcases s_ite hf with ⟨-, hf⟩ | ⟨-, hf⟩
  · obtain ⟨q5, hh, hf⟩ := s_bind hf
    refine s_lz.tr (l_X8_receipts hh) ?_
    cases hf
    exact s_le.rf
  rcases s_ite hf with ⟨-, hf⟩ | ⟨-, hf⟩
  · cases hf
    exact s_le.rf
  rcases s_ite hf with ⟨-, hf⟩ | ⟨-, hf⟩
  · cases hf
    exact s_le.rf
  rcases s_ite hf with ⟨-, hf⟩ | ⟨-, hf⟩
  · cases hf
    exact s_le.rf
  cases hf
  exact s_le.rf
theorem l_X8_count_74 {v0 : Nat} {v2 : Int32} {v3 : Int32} {σ : sS} {z : sZ Int32} (hf : T_X8_count_74 v0 v2 v3 σ = some z) : s_lz σ z := by
  unfold T_X8_count_74 at hf
  obtain ⟨q1, hh, hf⟩ := s_bind hf
  refine s_lz.tr (l_X8_receipts hh) ?_
  rcases s_ite hf with ⟨-, hf⟩ | ⟨-, hf⟩
  · cases hf
    exact s_le.rf
  · obtain ⟨q2, hh, hf⟩ := s_bind hf
    refine s_lz.tr (l_X8_isVoid hh) ?_
    rcases s_ite hf with ⟨-, hf⟩ | ⟨-, hf⟩
    · cases hf
      exact s_le.rf
    · cases hf
      exact s_le.rf
theorem l_X8_count_96 {v0 : Nat} {v3 : Int32} {w0 : Int32} {w1 : Int32} {σ : sS} {z : sZ Int32} (hf : T_X8_count_96 v0 v3 w0 w1 σ = some z) : s_lz σ z := by
  unfold T_X8_count_96 at hf
  cases hf
  exact s_le.rf
theorem l_X8_count_108 {v0 : Nat} {v2 : Int32} {v3 : Int32} {σ : sS} {z : sZ Int32} (hf : T_X8_count_108 v0 v2 v3 σ = some z) : s_lz σ z := by
  unfold T_X8_count_108 at hf
  obtain ⟨q1, hh, hf⟩ := s_bind hf
  refine s_lz.tr (l_X8_lines hh) ?_
  rcases s_ite hf with ⟨-, hf⟩ | ⟨-, hf⟩
  · cases hf
    exact s_le.rf
  · obtain ⟨q2, hh, hf⟩ := s_bind hf
    refine s_lz.tr (l_X8_isHonest hh) ?_
    rcases s_ite hf with ⟨-, hf⟩ | ⟨-, hf⟩
    · cases hf
      exact s_le.rf
    · cases hf
      exact s_le.rf
theorem l_X8_count_130 {v0 : Nat} {v3 : Int32} {w0 : Int32} {w1 : Int32} {σ : sS} {z : sZ Int32} (hf : T_X8_count_130 v0 v3 w0 w1 σ = some z) : s_lz σ z := by
  unfold T_X8_count_130 at hf
  cases hf
  exact s_le.rf
theorem l_X8_count_142 {v0 : Nat} {v2 : Int32} {v3 : Int32} {σ : sS} {z : sZ Int32} (hf : T_X8_count_142 v0 v2 v3 σ = some z) : s_lz σ z := by
  unfold T_X8_count_142 at hf
  obtain ⟨q1, hh, hf⟩ := s_bind hf
  refine s_lz.tr (l_X8_receipts hh) ?_
  rcases s_ite hf with ⟨-, hf⟩ | ⟨-, hf⟩
  · cases hf
    exact s_le.rf
  · obtain ⟨q2, hh, hf⟩ := s_bind hf
    refine s_lz.tr (l_X8_isVoid hh) ?_
    rcases s_ite hf with ⟨-, hf⟩ | ⟨-, hf⟩
    · obtain ⟨q3, hh, hf⟩ := s_bind hf
      refine s_lz.tr (l_X8_ofReceipt hh) ?_
      cases hf
      exact s_le.rf
    · cases hf
      exact s_le.rf
theorem l_X8_count_169 {v0 : Nat} {v3 : Int32} {w0 : Int32} {w1 : Int32} {σ : sS} {z : sZ Int32} (hf : T_X8_count_169 v0 v3 w0 w1 σ = some z) : s_lz σ z := by
  unfold T_X8_count_169 at hf
  cases hf
  exact s_le.rf
theorem l_X8_count_s {x : sL} {z : sZ Int32} (hs : S_X8_count x = some z) : s_lz x.2.2 z := by
  obtain ⟨pc, vs, σ⟩ := x
  unfold S_X8_count at hs
  dsimp only at hs ⊢
  rcases s_ite hs with ⟨c, hs⟩ | ⟨-, hs⟩
  · subst c
    unfold U_X8_count_0 at hs
    obtain ⟨a0, g0, hs⟩ := s_bind hs
    obtain ⟨a1, g1, hs⟩ := s_bind hs
    obtain ⟨u9, ge, hs⟩ := s_bind hs
    exact l_X8_count_0 hs
  rcases s_ite hs with ⟨c, hs⟩ | ⟨-, hs⟩
  · subst c
    unfold U_X8_count_74 at hs
    obtain ⟨a0, g0, hs⟩ := s_bind hs
    obtain ⟨a1, g1, hs⟩ := s_bind hs
    obtain ⟨a2, g2, hs⟩ := s_bind hs
    obtain ⟨u9, ge, hs⟩ := s_bind hs
    exact l_X8_count_74 hs
  rcases s_ite hs with ⟨c, hs⟩ | ⟨-, hs⟩
  · subst c
    unfold U_X8_count_96 at hs
    obtain ⟨a0, g0, hs⟩ := s_bind hs
    obtain ⟨a1, g1, hs⟩ := s_bind hs
    obtain ⟨a2, g2, hs⟩ := s_bind hs
    obtain ⟨a3, g3, hs⟩ := s_bind hs
    obtain ⟨u9, ge, hs⟩ := s_bind hs
    exact l_X8_count_96 hs
  rcases s_ite hs with ⟨c, hs⟩ | ⟨-, hs⟩
  · subst c
    unfold U_X8_count_108 at hs
    obtain ⟨a0, g0, hs⟩ := s_bind hs
    obtain ⟨a1, g1, hs⟩ := s_bind hs
    obtain ⟨a2, g2, hs⟩ := s_bind hs
    obtain ⟨u9, ge, hs⟩ := s_bind hs
    exact l_X8_count_108 hs
  rcases s_ite hs with ⟨c, hs⟩ | ⟨-, hs⟩
  · subst c
    unfold U_X8_count_130 at hs
    obtain ⟨a0, g0, hs⟩ := s_bind hs
    obtain ⟨a1, g1, hs⟩ := s_bind hs
    obtain ⟨a2, g2, hs⟩ := s_bind hs
    obtain ⟨a3, g3, hs⟩ := s_bind hs
    obtain ⟨u9, ge, hs⟩ := s_bind hs
    exact l_X8_count_130 hs
  rcases s_ite hs with ⟨c, hs⟩ | ⟨-, hs⟩
  · subst c
    unfold U_X8_count_142 at hs
    obtain ⟨a0, g0, hs⟩ := s_bind hs
    obtain ⟨a1, g1, hs⟩ := s_bind hs
    obtain ⟨a2, g2, hs⟩ := s_bind hs
    obtain ⟨u9, ge, hs⟩ := s_bind hs
    exact l_X8_count_142 hs
  rcases s_ite hs with ⟨c, hs⟩ | ⟨-, hs⟩
  · subst c
    unfold U_X8_count_169 at hs
    obtain ⟨a0, g0, hs⟩ := s_bind hs
    obtain ⟨a1, g1, hs⟩ := s_bind hs
    obtain ⟨a2, g2, hs⟩ := s_bind hs
    obtain ⟨a3, g3, hs⟩ := s_bind hs
    obtain ⟨u9, ge, hs⟩ := s_bind hs
    exact l_X8_count_169 hs
  cases hs
theorem l_X8_count {v0 : Nat} {v1 : Int32} {σ : sS} {q : Int32 × sS} (h : F_X8_count v0 v1 σ = some q) : s_le σ q.2 := by
  unfold F_X8_count at h
  obtain ⟨-, -, h⟩ := s_bind h
  exact s_run_ind (V := fun x r => s_le x.2.2 r.2) (fun x z r hs hk => by
    have h9 := l_X8_count_s hs
    cases z with
    | inl y => exact s_le.tr h9 hk
    | inr q => cases hk; exact h9) h
theorem b_X8_count {v0 : Nat} {v1 : Int32} {σ : sS} {q : Int32 × sS} (h : F_X8_count v0 v1 σ = some q) : ∃ fs, σ.1 v0 = some (.inr (8, fs)) := by
  unfold F_X8_count at h
  obtain ⟨u, hu, -⟩ := s_bind h
  exact s_is_to hu
set_option maxRecDepth 100000 in
set_option maxHeartbeats 4000000 in
theorem v_X8_count_0 {G : sG} {d : Nat} {vs0 : List Value} {σ0 : sS} {v0 : Nat} {v1 : Int32} {σ : sS} {z : sZ Int32} {r : Int32 × sS} (hf : T_X8_count_0 v0 v1 σ = some z) (k : s_K G (d + 7) M_X8_count vs0 σ0 Y_X8_count e_I z r) : s_V G (d + 7) M_X8_count vs0 σ0 Y_X8_count (0, [.ref v0, .int v1], σ) (e_I r) := by
  have le0 : s_le σ (e_I r).2 := s_lek hem_I (l_X8_count_0 hf) k
  refine ⟨le0, ?_⟩
  intro p e s m below meth c H locs cells slots ls X I hn1 hn2 hl
  have hn : cells + σ0.2.1 ≤ σ.2.1 ∧ slots + σ0.2.2.1 ≤ σ.2.2.1 := ⟨hn1, hn2⟩
  have hl : lv_has ls 4 [(0, .ref v0), (1, .int v1)] := hl
  have hx := X.1
  have hb : c.code = cX8_count := X.2.1
  have hown : s.vm.findClass RX8 = some m.cls := X.2.2.2.2.2.1
  have hts := X.2.2.2.2.2.2.1
  refine W.eq (g2 := F0 m 0 ls []) rfl ?_
  unfold T_X8_count_0 at hf
  obtain ⟨σ1, h1, hf⟩ := s_bind hf
  have le2 : s_le σ1 (e_I r).2 := by
    refine s_lek hem_I ?_ k
    rcases s_ite hf with ⟨-, hf⟩ | ⟨-, hf⟩
    · obtain ⟨q2, hh, hf⟩ := s_bind hf
      refine s_lz.tr (l_X8_d hh) ?_
      cases hf
      exact s_le.rf
    rcases s_ite hf with ⟨-, hf⟩ | ⟨-, hf⟩
    · obtain ⟨q3, hh, hf⟩ := s_bind hf
      refine s_lz.tr (l_X8_formulas hh) ?_
      cases hf
      exact s_le.rf
    rcases s_ite hf with ⟨-, hf⟩ | ⟨-, hf⟩
    · obtain ⟨q4, hh, hf⟩ := s_bind hf
      refine s_lz.tr (l_X8_lines hh) ?_
      cases hf
      exact s_le.rf
    rcases s_ite hf with ⟨-, hf⟩ | ⟨-, hf⟩
    · obtain ⟨q5, hh, hf⟩ := s_bind hf
      refine s_lz.tr (l_X8_receipts hh) ?_
      cases hf
      exact s_le.rf
    rcases s_ite hf with ⟨-, hf⟩ | ⟨-, hf⟩
    · cases hf
      exact s_le.rf
    rcases s_ite hf with ⟨-, hf⟩ | ⟨-, hf⟩
    · cases hf
      exact s_le.rf
    rcases s_ite hf with ⟨-, hf⟩ | ⟨-, hf⟩
    · cases hf
      exact s_le.rf
    cases hf
    exact s_le.rf
  refine lv_aload_n hx hb dX8_count_0 rfl (lv_at hl 0 rfl) ?_
  refine lv_iconst (v := 0) hx hb dX8_count_1 (by decide) ?_
  refine r_put X I fp_X8_3 (fun h => by cases h) h1 rfl rfl dX8_count_2 (fun H locs I => ?_)
  have hn := s_k2 (s_pf_2 h1) hn
  refine lv_iconst (v := 0) hx hb dX8_count_5 (by decide) ?_
  refine lv_istore_n (lv' := [(2, .int 0), (0, .ref v0), (1, .int v1)]) hx hb dX8_count_6 rfl hl (by decide) rfl (fun ls hl => ?_)
  refine lv_iload_n hx hb dX8_count_7 rfl (lv_at hl 2 rfl) ?_
  rcases s_ite hf with ⟨c3, hf⟩ | ⟨c3, hf⟩
  · refine lv_tableIn (tgt := 52) (off := 44) hx hb dX8_count_8 (by rw [c3]; decide) (by rw [c3]; decide) (by rw [c3]; rfl) (by decide) ?_
    obtain ⟨q2, h4, hf⟩ := s_bind hf
    cases hf
    have k : _ = r := k
    subst k
    have le5 : s_le q2.2 q2.2 := s_le.rf
    refine lv_aload_n hx hb dX8_count_52 rfl (lv_at hl 1 rfl) ?_
    refine r_callV (Y := M_X8_d) (v := some (.int q2.1)) X I w_1889 my_X8_d (by omega) (t_X8_d (G := G) (d := d + 5) h4) (b_X8_d h4) rfl rfl hl.1 rfl (Nat.le_of_ble_eq_true rfl) hn le5 dX8_count_53 (fun H locs cells slots I hn1 hn2 => ?_)
    have I : s_I G q2.2 s H locs := I
    have hn : cells + σ0.2.1 ≤ q2.2.2.1 ∧ slots + σ0.2.2.1 ≤ q2.2.2.2.1 := ⟨hn1, hn2⟩
    exact r_iret X I rfl rfl rfl hn dX8_count_56
  rcases s_ite hf with ⟨c6, hf⟩ | ⟨c6, hf⟩
  · refine lv_tableIn (tgt := 57) (off := 49) hx hb dX8_count_8 (by rw [c6]; decide) (by rw [c6]; decide) (by rw [c6]; rfl) (by decide) ?_
    obtain ⟨q3, h7, hf⟩ := s_bind hf
    cases hf
    have k : _ = r := k
    subst k
    have le8 : s_le q3.2 q3.2 := s_le.rf
    refine lv_aload_n hx hb dX8_count_57 rfl (lv_at hl 1 rfl) ?_
    refine r_callV (Y := M_X8_formulas) (v := some (.int q3.1)) X I w_1813 my_X8_formulas (by omega) (t_X8_formulas (G := G) (d := d + 5) h7) (b_X8_formulas h7) rfl rfl hl.1 rfl (Nat.le_of_ble_eq_true rfl) hn le8 dX8_count_58 (fun H locs cells slots I hn1 hn2 => ?_)
    have I : s_I G q3.2 s H locs := I
    have hn : cells + σ0.2.1 ≤ q3.2.2.1 ∧ slots + σ0.2.2.1 ≤ q3.2.2.2.1 := ⟨hn1, hn2⟩
    exact r_iret X I rfl rfl rfl hn dX8_count_61
  rcases s_ite hf with ⟨c9, hf⟩ | ⟨c9, hf⟩
  · refine lv_tableIn (tgt := 62) (off := 54) hx hb dX8_count_8 (by rw [c9]; decide) (by rw [c9]; decide) (by rw [c9]; rfl) (by decide) ?_
    obtain ⟨q4, h10, hf⟩ := s_bind hf
    cases hf
    have k : _ = r := k
    subst k
    have le11 : s_le q4.2 q4.2 := s_le.rf
    refine lv_aload_n hx hb dX8_count_62 rfl (lv_at hl 1 rfl) ?_
    refine r_callV (Y := M_X8_lines) (v := some (.int q4.1)) X I w_2003 my_X8_lines (by omega) (t_X8_lines (G := G) (d := d + 5) h10) (b_X8_lines h10) rfl rfl hl.1 rfl (Nat.le_of_ble_eq_true rfl) hn le11 dX8_count_63 (fun H locs cells slots I hn1 hn2 => ?_)
    have I : s_I G q4.2 s H locs := I
    have hn : cells + σ0.2.1 ≤ q4.2.2.1 ∧ slots + σ0.2.2.1 ≤ q4.2.2.2.1 := ⟨hn1, hn2⟩
    exact r_iret X I rfl rfl rfl hn dX8_count_66
  rcases s_ite hf with ⟨c12, hf⟩ | ⟨c12, hf⟩
  · refine lv_tableIn (tgt := 67) (off := 59) hx hb dX8_count_8 (by rw [c12]; decide) (by rw [c12]; decide) (by rw [c12]; rfl) (by decide) ?_
    obtain ⟨q5, h13, hf⟩ := s_bind hf
    cases hf
    have k : _ = r := k
    subst k
    have le14 : s_le q5.2 q5.2 := s_le.rf
    refine lv_aload_n hx hb dX8_count_67 rfl (lv_at hl 1 rfl) ?_
    refine r_callV (Y := M_X8_receipts) (v := some (.int q5.1)) X I w_2295 my_X8_receipts (by omega) (t_X8_receipts (G := G) (d := d + 5) h13) (b_X8_receipts h13) rfl rfl hl.1 rfl (Nat.le_of_ble_eq_true rfl) hn le14 dX8_count_68 (fun H locs cells slots I hn1 hn2 => ?_)
    have I : s_I G q5.2 s H locs := I
    have hn : cells + σ0.2.1 ≤ q5.2.2.1 ∧ slots + σ0.2.2.1 ≤ q5.2.2.2.1 := ⟨hn1, hn2⟩
    exact r_iret X I rfl rfl rfl hn dX8_count_71
  rcases s_ite hf with ⟨c15, hf⟩ | ⟨c15, hf⟩
  · refine lv_tableIn (tgt := 72) (off := 64) hx hb dX8_count_8 (by rw [c15]; decide) (by rw [c15]; decide) (by rw [c15]; rfl) (by decide) ?_
    cases hf
    have k : s_V G (d + 7) M_X8_count vs0 σ0 Y_X8_count (74, [.ref v0, .int 0, .int 0], σ1) (e_I r) := k
    refine lv_iconst (v := 0) hx hb dX8_count_72 (by decide) ?_
    refine lv_istore_n (lv' := [(3, .int 0), (2, .int 0), (0, .ref v0), (1, .int v1)]) hx hb dX8_count_73 rfl hl (by decide) rfl (fun ls hl => ?_)
    exact k.2 p e s m below meth c _ _ _ _ _ X I hn.1 hn.2 (lv_sub hl [2, 1, 0] rfl)
  rcases s_ite hf with ⟨c16, hf⟩ | ⟨c16, hf⟩
  · refine lv_tableIn (tgt := 106) (off := 98) hx hb dX8_count_8 (by rw [c16]; decide) (by rw [c16]; decide) (by rw [c16]; rfl) (by decide) ?_
    cases hf
    have k : s_V G (d + 7) M_X8_count vs0 σ0 Y_X8_count (108, [.ref v0, .int 0, .int 0], σ1) (e_I r) := k
    refine lv_iconst (v := 0) hx hb dX8_count_106 (by decide) ?_
    refine lv_istore_n (lv' := [(3, .int 0), (2, .int 0), (0, .ref v0), (1, .int v1)]) hx hb dX8_count_107 rfl hl (by decide) rfl (fun ls hl => ?_)
    exact k.2 p e s m below meth c _ _ _ _ _ X I hn.1 hn.2 (lv_sub hl [2, 1, 0] rfl)
  rcases s_ite hf with ⟨c17, hf⟩ | ⟨c17, hf⟩
  · refine lv_tableIn (tgt := 140) (off := 132) hx hb dX8_count_8 (by rw [c17]; decide) (by rw [c17]; decide) (by rw [c17]; rfl) (by decide) ?_
    cases hf
    have k : s_V G (d + 7) M_X8_count vs0 σ0 Y_X8_count (142, [.ref v0, .int 0, .int 0], σ1) (e_I r) := k
    refine lv_iconst (v := 0) hx hb dX8_count_140 (by decide) ?_
    refine lv_istore_n (lv' := [(3, .int 0), (2, .int 0), (0, .ref v0), (1, .int v1)]) hx hb dX8_count_141 rfl hl (by decide) rfl (fun ls hl => ?_)
    exact k.2 p e s m below meth c _ _ _ _ _ X I hn.1 hn.2 (lv_sub hl [2, 1, 0] rfl)
  refine lv_tableOut (tgt := 179) hx hb dX8_count_8 (by
      have tc3 := lv_neT (a := 0) c3 (by decide)
      have tc6 := lv_neT (a := 1) c6 (by decide)
      have tc9 := lv_neT (a := 2) c9 (by decide)
      have tc12 := lv_neT (a := 3) c12 (by decide)
      have tc15 := lv_neT (a := 4) c15 (by decide)
      have tc16 := lv_neT (a := 5) c16 (by decide)
      have tc17 := lv_neT (a := 6) c17 (by decide)
      omega) (by decide) ?_
  cases hf
  have k : _ = r := k
  subst k
  refine lv_iconst (v := (-1)) hx hb dX8_count_179 (by decide) ?_
  exact r_iret X I rfl rfl rfl hn dX8_count_180
set_option maxRecDepth 100000 in
set_option maxHeartbeats 4000000 in
theorem v_X8_count_74 {G : sG} {d : Nat} {vs0 : List Value} {σ0 : sS} {v0 : Nat} {v2 : Int32} {v3 : Int32} {σ : sS} {z : sZ Int32} {r : Int32 × sS} (hf : T_X8_count_74 v0 v2 v3 σ = some z) (k : s_K G (d + 7) M_X8_count vs0 σ0 Y_X8_count e_I z r) : s_V G (d + 7) M_X8_count vs0 σ0 Y_X8_count (74, [.ref v0, .int v2, .int v3], σ) (e_I r) := by
  have le0 : s_le σ (e_I r).2 := s_lek hem_I (l_X8_count_74 hf) k
  refine ⟨le0, ?_⟩
  intro p e s m below meth c H locs cells slots ls X I hn1 hn2 hl
  have hn : cells + σ0.2.1 ≤ σ.2.1 ∧ slots + σ0.2.2.1 ≤ σ.2.2.1 := ⟨hn1, hn2⟩
  have hl : lv_has ls 4 [(0, .ref v0), (2, .int v2), (3, .int v3)] := hl
  have hx := X.1
  have hb : c.code = cX8_count := X.2.1
  have hown : s.vm.findClass RX8 = some m.cls := X.2.2.2.2.2.1
  have hts := X.2.2.2.2.2.2.1
  refine W.eq (g2 := F0 m 74 ls []) rfl ?_
  unfold T_X8_count_74 at hf
  obtain ⟨q1, h1, hf⟩ := s_bind hf
  have le2 : s_le q1.2 (e_I r).2 := by
    refine s_lek hem_I ?_ k
    rcases s_ite hf with ⟨-, hf⟩ | ⟨-, hf⟩
    · cases hf
      exact s_le.rf
    · obtain ⟨q2, hh, hf⟩ := s_bind hf
      refine s_lz.tr (l_X8_isVoid hh) ?_
      rcases s_ite hf with ⟨-, hf⟩ | ⟨-, hf⟩
      · cases hf
        exact s_le.rf
      · cases hf
        exact s_le.rf
  refine lv_iload_n hx hb dX8_count_74 rfl (lv_at hl 2 rfl) ?_
  refine lv_aload_n hx hb dX8_count_75 rfl (lv_at hl 0 rfl) ?_
  refine r_callV (Y := M_X8_receipts) (v := some (.int q1.1)) X I w_2295 my_X8_receipts (by omega) (t_X8_receipts (G := G) (d := d + 5) h1) (b_X8_receipts h1) rfl rfl hl.1 rfl (Nat.le_of_ble_eq_true rfl) hn le2 dX8_count_76 (fun H locs cells slots I hn1 hn2 => ?_)
  have I : s_I G q1.2 s H locs := I
  have hn : cells + σ0.2.1 ≤ q1.2.2.1 ∧ slots + σ0.2.2.1 ≤ q1.2.2.2.1 := ⟨hn1, hn2⟩
  rcases s_ite hf with ⟨c3, hf⟩ | ⟨c3, hf⟩
  · refine lv_icmp_ge (tgt := 104) hx hb dX8_count_79 (by decide) (fun _ => ?_) (fun n => absurd c3 n)
    cases hf
    have k : _ = r := k
    subst k
    refine lv_iload_n hx hb dX8_count_104 rfl (lv_at hl 1 rfl) ?_
    exact r_iret X I rfl rfl rfl hn dX8_count_105
  · refine lv_icmp_ge (tgt := 104) hx hb dX8_count_79 (by decide) (fun n => absurd n c3) (fun _ => ?_)
    obtain ⟨q2, h4, hf⟩ := s_bind hf
    have le5 : s_le q2.2 (e_I r).2 := by
      refine s_lek hem_I ?_ k
      rcases s_ite hf with ⟨-, hf⟩ | ⟨-, hf⟩
      · cases hf
        exact s_le.rf
      · cases hf
        exact s_le.rf
    refine lv_iload_n hx hb dX8_count_82 rfl (lv_at hl 1 rfl) ?_
    refine lv_aload_n hx hb dX8_count_83 rfl (lv_at hl 0 rfl) ?_
    refine lv_iload_n hx hb dX8_count_84 rfl (lv_at hl 2 rfl) ?_
    refine r_callV (Y := M_X8_isVoid) (v := some (.int q2.1)) X I w_2303 my_X8_isVoid (by omega) (t_X8_isVoid (G := G) (d := d + 4) h4) (b_X8_isVoid h4) rfl rfl hl.1 rfl (Nat.le_of_ble_eq_true rfl) hn le5 dX8_count_85 (fun H locs cells slots I hn1 hn2 => ?_)
    have I : s_I G q2.2 s H locs := I
    have hn : cells + σ0.2.1 ≤ q2.2.2.1 ∧ slots + σ0.2.2.1 ≤ q2.2.2.2.1 := ⟨hn1, hn2⟩
    rcases s_ite hf with ⟨c6, hf⟩ | ⟨c6, hf⟩
    · refine lv_if_eq (tgt := 95) hx hb dX8_count_88 (by decide) (fun _ => ?_) (fun n => absurd c6 n)
      cases hf
      have k : s_V G (d + 7) M_X8_count vs0 σ0 Y_X8_count (96, [.ref v0, .int v3, .int 0, .int v2], q2.2) (e_I r) := k
      refine lv_iconst (v := 0) hx hb dX8_count_95 (by decide) ?_
      exact k.2 p e s m below meth c _ _ _ _ _ X I hn.1 hn.2 (lv_sub hl [0, 2] rfl)
    · refine lv_if_eq (tgt := 95) hx hb dX8_count_88 (by decide) (fun n => absurd n c6) (fun _ => ?_)
      cases hf
      have k : s_V G (d + 7) M_X8_count vs0 σ0 Y_X8_count (96, [.ref v0, .int v3, .int 1, .int v2], q2.2) (e_I r) := k
      refine lv_iconst (v := 1) hx hb dX8_count_91 (by decide) ?_
      refine lv_goto (tgt := 96) hx hb dX8_count_92 (by decide) ?_
      exact k.2 p e s m below meth c _ _ _ _ _ X I hn.1 hn.2 (lv_sub hl [0, 2] rfl)
set_option maxRecDepth 100000 in
set_option maxHeartbeats 4000000 in
theorem v_X8_count_96 {G : sG} {d : Nat} {vs0 : List Value} {σ0 : sS} {v0 : Nat} {v3 : Int32} {w0 : Int32} {w1 : Int32} {σ : sS} {z : sZ Int32} {r : Int32 × sS} (hf : T_X8_count_96 v0 v3 w0 w1 σ = some z) (k : s_K G (d + 7) M_X8_count vs0 σ0 Y_X8_count e_I z r) : s_V G (d + 7) M_X8_count vs0 σ0 Y_X8_count (96, [.ref v0, .int v3, .int w0, .int w1], σ) (e_I r) := by
  have le0 : s_le σ (e_I r).2 := s_lek hem_I (l_X8_count_96 hf) k
  refine ⟨le0, ?_⟩
  intro p e s m below meth c H locs cells slots ls X I hn1 hn2 hl
  have hn : cells + σ0.2.1 ≤ σ.2.1 ∧ slots + σ0.2.2.1 ≤ σ.2.2.1 := ⟨hn1, hn2⟩
  have hl : lv_has ls 4 [(0, .ref v0), (3, .int v3)] := hl
  have hx := X.1
  have hb : c.code = cX8_count := X.2.1
  have hown : s.vm.findClass RX8 = some m.cls := X.2.2.2.2.2.1
  have hts := X.2.2.2.2.2.2.1
  refine W.eq (g2 := F0 m 96 ls [.int w0, .int w1]) rfl ?_
  unfold T_X8_count_96 at hf
  cases hf
  have k : s_V G (d + 7) M_X8_count vs0 σ0 Y_X8_count (74, [.ref v0, .int (w1 + w0), .int (v3 + 1)], σ) (e_I r) := k
  refine lv_iadd hx hb dX8_count_96 ?_
  refine lv_istore_n (lv' := [(2, .int (w1 + w0)), (0, .ref v0), (3, .int v3)]) hx hb dX8_count_97 rfl hl (by decide) rfl (fun ls hl => ?_)
  refine lv_iinc (v := (v3 + 1)) (lv' := [(3, .int (v3 + 1)), (2, .int (w1 + w0)), (0, .ref v0)]) hx hb dX8_count_98 hl (k := 2) rfl rfl (by decide) rfl (fun ls hl => ?_)
  refine lv_goto (tgt := 74) hx hb dX8_count_101 (by decide) ?_
  exact k.2 p e s m below meth c _ _ _ _ _ X I hn.1 hn.2 (lv_sub hl [2, 1, 0] rfl)
set_option maxRecDepth 100000 in
set_option maxHeartbeats 4000000 in
theorem v_X8_count_108 {G : sG} {d : Nat} {vs0 : List Value} {σ0 : sS} {v0 : Nat} {v2 : Int32} {v3 : Int32} {σ : sS} {z : sZ Int32} {r : Int32 × sS} (hf : T_X8_count_108 v0 v2 v3 σ = some z) (k : s_K G (d + 7) M_X8_count vs0 σ0 Y_X8_count e_I z r) : s_V G (d + 7) M_X8_count vs0 σ0 Y_X8_count (108, [.ref v0, .int v2, .int v3], σ) (e_I r) := by
  have le0 : s_le σ (e_I r).2 := s_lek hem_I (l_X8_count_108 hf) k
  refine ⟨le0, ?_⟩
  intro p e s m below meth c H locs cells slots ls X I hn1 hn2 hl
  have hn : cells + σ0.2.1 ≤ σ.2.1 ∧ slots + σ0.2.2.1 ≤ σ.2.2.1 := ⟨hn1, hn2⟩
  have hl : lv_has ls 4 [(0, .ref v0), (2, .int v2), (3, .int v3)] := hl
  have hx := X.1
  have hb : c.code = cX8_count := X.2.1
  have hown : s.vm.findClass RX8 = some m.cls := X.2.2.2.2.2.1
  have hts := X.2.2.2.2.2.2.1
  refine W.eq (g2 := F0 m 108 ls []) rfl ?_
  unfold T_X8_count_108 at hf
  obtain ⟨q1, h1, hf⟩ := s_bind hf
  have le2 : s_le q1.2 (e_I r).2 := by
    refine s_lek hem_I ?_ k
    rcases s_ite hf with ⟨-, hf⟩ | ⟨-, hf⟩
    · cases hf
      exact s_le.rf
    · obtain ⟨q2, hh, hf⟩ := s_bind hf
      refine s_lz.tr (l_X8_isHonest hh) ?_
      rcases s_ite hf with ⟨-, hf⟩ | ⟨-, hf⟩
      · cases hf
        exact s_le.rf
      · cases hf
        exact s_le.rf
  refine lv_iload_n hx hb dX8_count_108 rfl (lv_at hl 2 rfl) ?_
  refine lv_aload_n hx hb dX8_count_109 rfl (lv_at hl 0 rfl) ?_
  refine r_callV (Y := M_X8_lines) (v := some (.int q1.1)) X I w_2003 my_X8_lines (by omega) (t_X8_lines (G := G) (d := d + 5) h1) (b_X8_lines h1) rfl rfl hl.1 rfl (Nat.le_of_ble_eq_true rfl) hn le2 dX8_count_110 (fun H locs cells slots I hn1 hn2 => ?_)
  have I : s_I G q1.2 s H locs := I
  have hn : cells + σ0.2.1 ≤ q1.2.2.1 ∧ slots + σ0.2.2.1 ≤ q1.2.2.2.1 := ⟨hn1, hn2⟩
  rcases s_ite hf with ⟨c3, hf⟩ | ⟨c3, hf⟩
  · refine lv_icmp_ge (tgt := 138) hx hb dX8_count_113 (by decide) (fun _ => ?_) (fun n => absurd c3 n)
    cases hf
    have k : _ = r := k
    subst k
    refine lv_iload_n hx hb dX8_count_138 rfl (lv_at hl 1 rfl) ?_
    exact r_iret X I rfl rfl rfl hn dX8_count_139
  · refine lv_icmp_ge (tgt := 138) hx hb dX8_count_113 (by decide) (fun n => absurd n c3) (fun _ => ?_)
    obtain ⟨q2, h4, hf⟩ := s_bind hf
    have le5 : s_le q2.2 (e_I r).2 := by
      refine s_lek hem_I ?_ k
      rcases s_ite hf with ⟨-, hf⟩ | ⟨-, hf⟩
      · cases hf
        exact s_le.rf
      · cases hf
        exact s_le.rf
    refine lv_iload_n hx hb dX8_count_116 rfl (lv_at hl 1 rfl) ?_
    refine lv_aload_n hx hb dX8_count_117 rfl (lv_at hl 0 rfl) ?_
    refine lv_iload_n hx hb dX8_count_118 rfl (lv_at hl 2 rfl) ?_
    refine r_callV (Y := M_X8_isHonest) (v := some (.int q2.1)) X I w_2031 my_X8_isHonest (by omega) (t_X8_isHonest (G := G) (d := d + 0) h4) (b_X8_isHonest h4) rfl rfl hl.1 rfl (Nat.le_of_ble_eq_true rfl) hn le5 dX8_count_119 (fun H locs cells slots I hn1 hn2 => ?_)
    have I : s_I G q2.2 s H locs := I
    have hn : cells + σ0.2.1 ≤ q2.2.2.1 ∧ slots + σ0.2.2.1 ≤ q2.2.2.2.1 := ⟨hn1, hn2⟩
    rcases s_ite hf with ⟨c6, hf⟩ | ⟨c6, hf⟩
    · refine lv_if_eq (tgt := 129) hx hb dX8_count_122 (by decide) (fun _ => ?_) (fun n => absurd c6 n)
      cases hf
      have k : s_V G (d + 7) M_X8_count vs0 σ0 Y_X8_count (130, [.ref v0, .int v3, .int 1, .int v2], q2.2) (e_I r) := k
      refine lv_iconst (v := 1) hx hb dX8_count_129 (by decide) ?_
      exact k.2 p e s m below meth c _ _ _ _ _ X I hn.1 hn.2 (lv_sub hl [0, 2] rfl)
    · refine lv_if_eq (tgt := 129) hx hb dX8_count_122 (by decide) (fun n => absurd n c6) (fun _ => ?_)
      cases hf
      have k : s_V G (d + 7) M_X8_count vs0 σ0 Y_X8_count (130, [.ref v0, .int v3, .int 0, .int v2], q2.2) (e_I r) := k
      refine lv_iconst (v := 0) hx hb dX8_count_125 (by decide) ?_
      refine lv_goto (tgt := 130) hx hb dX8_count_126 (by decide) ?_
      exact k.2 p e s m below meth c _ _ _ _ _ X I hn.1 hn.2 (lv_sub hl [0, 2] rfl)
set_option maxRecDepth 100000 in
set_option maxHeartbeats 4000000 in
theorem v_X8_count_130 {G : sG} {d : Nat} {vs0 : List Value} {σ0 : sS} {v0 : Nat} {v3 : Int32} {w0 : Int32} {w1 : Int32} {σ : sS} {z : sZ Int32} {r : Int32 × sS} (hf : T_X8_count_130 v0 v3 w0 w1 σ = some z) (k : s_K G (d + 7) M_X8_count vs0 σ0 Y_X8_count e_I z r) : s_V G (d + 7) M_X8_count vs0 σ0 Y_X8_count (130, [.ref v0, .int v3, .int w0, .int w1], σ) (e_I r) := by
  have le0 : s_le σ (e_I r).2 := s_lek hem_I (l_X8_count_130 hf) k
  refine ⟨le0, ?_⟩
  intro p e s m below meth c H locs cells slots ls X I hn1 hn2 hl
  have hn : cells + σ0.2.1 ≤ σ.2.1 ∧ slots + σ0.2.2.1 ≤ σ.2.2.1 := ⟨hn1, hn2⟩
  have hl : lv_has ls 4 [(0, .ref v0), (3, .int v3)] := hl
  have hx := X.1
  have hb : c.code = cX8_count := X.2.1
  have hown : s.vm.findClass RX8 = some m.cls := X.2.2.2.2.2.1
  have hts := X.2.2.2.2.2.2.1
  refine W.eq (g2 := F0 m 130 ls [.int w0, .int w1]) rfl ?_
  unfold T_X8_count_130 at hf
  cases hf
  have k : s_V G (d + 7) M_X8_count vs0 σ0 Y_X8_count (108, [.ref v0, .int (w1 + w0), .int (v3 + 1)], σ) (e_I r) := k
  refine lv_iadd hx hb dX8_count_130 ?_
  refine lv_istore_n (lv' := [(2, .int (w1 + w0)), (0, .ref v0), (3, .int v3)]) hx hb dX8_count_131 rfl hl (by decide) rfl (fun ls hl => ?_)
  refine lv_iinc (v := (v3 + 1)) (lv' := [(3, .int (v3 + 1)), (2, .int (w1 + w0)), (0, .ref v0)]) hx hb dX8_count_132 hl (k := 2) rfl rfl (by decide) rfl (fun ls hl => ?_)
  refine lv_goto (tgt := 108) hx hb dX8_count_135 (by decide) ?_
  exact k.2 p e s m below meth c _ _ _ _ _ X I hn.1 hn.2 (lv_sub hl [2, 1, 0] rfl)
set_option maxRecDepth 100000 in
set_option maxHeartbeats 4000000 in
theorem v_X8_count_142 {G : sG} {d : Nat} {vs0 : List Value} {σ0 : sS} {v0 : Nat} {v2 : Int32} {v3 : Int32} {σ : sS} {z : sZ Int32} {r : Int32 × sS} (hf : T_X8_count_142 v0 v2 v3 σ = some z) (k : s_K G (d + 7) M_X8_count vs0 σ0 Y_X8_count e_I z r) : s_V G (d + 7) M_X8_count vs0 σ0 Y_X8_count (142, [.ref v0, .int v2, .int v3], σ) (e_I r) := by
  have le0 : s_le σ (e_I r).2 := s_lek hem_I (l_X8_count_142 hf) k
  refine ⟨le0, ?_⟩
  intro p e s m below meth c H locs cells slots ls X I hn1 hn2 hl
  have hn : cells + σ0.2.1 ≤ σ.2.1 ∧ slots + σ0.2.2.1 ≤ σ.2.2.1 := ⟨hn1, hn2⟩
  have hl : lv_has ls 4 [(0, .ref v0), (2, .int v2), (3, .int v3)] := hl
  have hx := X.1
  have hb : c.code = cX8_count := X.2.1
  have hown : s.vm.findClass RX8 = some m.cls := X.2.2.2.2.2.1
  have hts := X.2.2.2.2.2.2.1
  refine W.eq (g2 := F0 m 142 ls []) rfl ?_
  unfold T_X8_count_142 at hf
  obtain ⟨q1, h1, hf⟩ := s_bind hf
  have le2 : s_le q1.2 (e_I r).2 := by
    refine s_lek hem_I ?_ k
    rcases s_ite hf with ⟨-, hf⟩ | ⟨-, hf⟩
    · cases hf
      exact s_le.rf
    · obtain ⟨q2, hh, hf⟩ := s_bind hf
      refine s_lz.tr (l_X8_isVoid hh) ?_
      rcases s_ite hf with ⟨-, hf⟩ | ⟨-, hf⟩
      · obtain ⟨q3, hh, hf⟩ := s_bind hf
        refine s_lz.tr (l_X8_ofReceipt hh) ?_
        cases hf
        exact s_le.rf
      · cases hf
        exact s_le.rf
  refine lv_iload_n hx hb dX8_count_142 rfl (lv_at hl 2 rfl) ?_
  refine lv_aload_n hx hb dX8_count_143 rfl (lv_at hl 0 rfl) ?_
  refine r_callV (Y := M_X8_receipts) (v := some (.int q1.1)) X I w_2295 my_X8_receipts (by omega) (t_X8_receipts (G := G) (d := d + 5) h1) (b_X8_receipts h1) rfl rfl hl.1 rfl (Nat.le_of_ble_eq_true rfl) hn le2 dX8_count_144 (fun H locs cells slots I hn1 hn2 => ?_)
  have I : s_I G q1.2 s H locs := I
  have hn : cells + σ0.2.1 ≤ q1.2.2.1 ∧ slots + σ0.2.2.1 ≤ q1.2.2.2.1 := ⟨hn1, hn2⟩
  rcases s_ite hf with ⟨c3, hf⟩ | ⟨c3, hf⟩
  · refine lv_icmp_ge (tgt := 177) hx hb dX8_count_147 (by decide) (fun _ => ?_) (fun n => absurd c3 n)
    cases hf
    have k : _ = r := k
    subst k
    refine lv_iload_n hx hb dX8_count_177 rfl (lv_at hl 1 rfl) ?_
    exact r_iret X I rfl rfl rfl hn dX8_count_178
  · refine lv_icmp_ge (tgt := 177) hx hb dX8_count_147 (by decide) (fun n => absurd n c3) (fun _ => ?_)
    obtain ⟨q2, h4, hf⟩ := s_bind hf
    have le5 : s_le q2.2 (e_I r).2 := by
      refine s_lek hem_I ?_ k
      rcases s_ite hf with ⟨-, hf⟩ | ⟨-, hf⟩
      · obtain ⟨q3, hh, hf⟩ := s_bind hf
        refine s_lz.tr (l_X8_ofReceipt hh) ?_
        cases hf
        exact s_le.rf
      · cases hf
        exact s_le.rf
    refine lv_iload_n hx hb dX8_count_150 rfl (lv_at hl 1 rfl) ?_
    refine lv_aload_n hx hb dX8_count_151 rfl (lv_at hl 0 rfl) ?_
    refine lv_iload_n hx hb dX8_count_152 rfl (lv_at hl 2 rfl) ?_
    refine r_callV (Y := M_X8_isVoid) (v := some (.int q2.1)) X I w_2303 my_X8_isVoid (by omega) (t_X8_isVoid (G := G) (d := d + 4) h4) (b_X8_isVoid h4) rfl rfl hl.1 rfl (Nat.le_of_ble_eq_true rfl) hn le5 dX8_count_153 (fun H locs cells slots I hn1 hn2 => ?_)
    have I : s_I G q2.2 s H locs := I
    have hn : cells + σ0.2.1 ≤ q2.2.2.1 ∧ slots + σ0.2.2.1 ≤ q2.2.2.2.1 := ⟨hn1, hn2⟩
    rcases s_ite hf with ⟨c6, hf⟩ | ⟨c6, hf⟩
    · refine lv_if_eq (tgt := 163) hx hb dX8_count_156 (by decide) (fun _ => ?_) (fun n => absurd c6 n)
      obtain ⟨q3, h7, hf⟩ := s_bind hf
      cases hf
      have k : s_V G (d + 7) M_X8_count vs0 σ0 Y_X8_count (169, [.ref v0, .int v3, .int q3.1, .int v2], q3.2) (e_I r) := k
      have le8 : s_le q3.2 (e_I r).2 := k.1
      refine lv_aload_n hx hb dX8_count_163 rfl (lv_at hl 0 rfl) ?_
      refine lv_iload_n hx hb dX8_count_164 rfl (lv_at hl 2 rfl) ?_
      refine lv_iconst (v := 2) hx hb dX8_count_165 (by decide) ?_
      refine r_callV (Y := M_X8_ofReceipt) (v := some (.int q3.1)) X I w_2307 my_X8_ofReceipt (by omega) (t_X8_ofReceipt (G := G) (d := d + 5) h7) (b_X8_ofReceipt h7) rfl rfl hl.1 rfl (Nat.le_of_ble_eq_true rfl) hn le8 dX8_count_166 (fun H locs cells slots I hn1 hn2 => ?_)
      have I : s_I G q3.2 s H locs := I
      have hn : cells + σ0.2.1 ≤ q3.2.2.1 ∧ slots + σ0.2.2.1 ≤ q3.2.2.2.1 := ⟨hn1, hn2⟩
      exact k.2 p e s m below meth c _ _ _ _ _ X I hn.1 hn.2 (lv_sub hl [0, 2] rfl)
    · refine lv_if_eq (tgt := 163) hx hb dX8_count_156 (by decide) (fun n => absurd n c6) (fun _ => ?_)
      cases hf
      have k : s_V G (d + 7) M_X8_count vs0 σ0 Y_X8_count (169, [.ref v0, .int v3, .int 0, .int v2], q2.2) (e_I r) := k
      refine lv_iconst (v := 0) hx hb dX8_count_159 (by decide) ?_
      refine lv_goto (tgt := 169) hx hb dX8_count_160 (by decide) ?_
      exact k.2 p e s m below meth c _ _ _ _ _ X I hn.1 hn.2 (lv_sub hl [0, 2] rfl)
set_option maxRecDepth 100000 in
set_option maxHeartbeats 4000000 in
theorem v_X8_count_169 {G : sG} {d : Nat} {vs0 : List Value} {σ0 : sS} {v0 : Nat} {v3 : Int32} {w0 : Int32} {w1 : Int32} {σ : sS} {z : sZ Int32} {r : Int32 × sS} (hf : T_X8_count_169 v0 v3 w0 w1 σ = some z) (k : s_K G (d + 7) M_X8_count vs0 σ0 Y_X8_count e_I z r) : s_V G (d + 7) M_X8_count vs0 σ0 Y_X8_count (169, [.ref v0, .int v3, .int w0, .int w1], σ) (e_I r) := by
  have le0 : s_le σ (e_I r).2 := s_lek hem_I (l_X8_count_169 hf) k
  refine ⟨le0, ?_⟩
  intro p e s m below meth c H locs cells slots ls X I hn1 hn2 hl
  have hn : cells + σ0.2.1 ≤ σ.2.1 ∧ slots + σ0.2.2.1 ≤ σ.2.2.1 := ⟨hn1, hn2⟩
  have hl : lv_has ls 4 [(0, .ref v0), (3, .int v3)] := hl
  have hx := X.1
  have hb : c.code = cX8_count := X.2.1
  have hown : s.vm.findClass RX8 = some m.cls := X.2.2.2.2.2.1
  have hts := X.2.2.2.2.2.2.1
  refine W.eq (g2 := F0 m 169 ls [.int w0, .int w1]) rfl ?_
  unfold T_X8_count_169 at hf
  cases hf
  have k : s_V G (d + 7) M_X8_count vs0 σ0 Y_X8_count (142, [.ref v0, .int (w1 + w0), .int (v3 + 1)], σ) (e_I r) := k
  refine lv_iadd hx hb dX8_count_169 ?_
  refine lv_istore_n (lv' := [(2, .int (w1 + w0)), (0, .ref v0), (3, .int v3)]) hx hb dX8_count_170 rfl hl (by decide) rfl (fun ls hl => ?_)
  refine lv_iinc (v := (v3 + 1)) (lv' := [(3, .int (v3 + 1)), (2, .int (w1 + w0)), (0, .ref v0)]) hx hb dX8_count_171 hl (k := 2) rfl rfl (by decide) rfl (fun ls hl => ?_)
  refine lv_goto (tgt := 142) hx hb dX8_count_174 (by decide) ?_
  exact k.2 p e s m below meth c _ _ _ _ _ X I hn.1 hn.2 (lv_sub hl [2, 1, 0] rfl)
theorem v_X8_count {G : sG} {d : Nat} {vs0 : List Value} {σ0 : sS} {x : sL} {z : sZ Int32} {r : Int32 × sS} (hs : S_X8_count x = some z) (k : s_K G (d + 7) M_X8_count vs0 σ0 Y_X8_count e_I z r) : s_V G (d + 7) M_X8_count vs0 σ0 Y_X8_count x (e_I r) := by
  obtain ⟨pc, vs, σ⟩ := x
  unfold S_X8_count at hs
  dsimp only at hs
  rcases s_ite hs with ⟨c, hs⟩ | ⟨-, hs⟩
  · subst c
    unfold U_X8_count_0 at hs
    obtain ⟨a0, g0, hs⟩ := s_bind hs
    obtain ⟨a1, g1, hs⟩ := s_bind hs
    obtain ⟨u9, ge, hs⟩ := s_bind hs
    rw [g_r_to g0, g_i_to g1, g_e_to ge]
    exact v_X8_count_0 hs k
  rcases s_ite hs with ⟨c, hs⟩ | ⟨-, hs⟩
  · subst c
    unfold U_X8_count_74 at hs
    obtain ⟨a0, g0, hs⟩ := s_bind hs
    obtain ⟨a1, g1, hs⟩ := s_bind hs
    obtain ⟨a2, g2, hs⟩ := s_bind hs
    obtain ⟨u9, ge, hs⟩ := s_bind hs
    rw [g_r_to g0, g_i_to g1, g_i_to g2, g_e_to ge]
    exact v_X8_count_74 hs k
  rcases s_ite hs with ⟨c, hs⟩ | ⟨-, hs⟩
  · subst c
    unfold U_X8_count_96 at hs
    obtain ⟨a0, g0, hs⟩ := s_bind hs
    obtain ⟨a1, g1, hs⟩ := s_bind hs
    obtain ⟨a2, g2, hs⟩ := s_bind hs
    obtain ⟨a3, g3, hs⟩ := s_bind hs
    obtain ⟨u9, ge, hs⟩ := s_bind hs
    rw [g_r_to g0, g_i_to g1, g_i_to g2, g_i_to g3, g_e_to ge]
    exact v_X8_count_96 hs k
  rcases s_ite hs with ⟨c, hs⟩ | ⟨-, hs⟩
  · subst c
    unfold U_X8_count_108 at hs
    obtain ⟨a0, g0, hs⟩ := s_bind hs
    obtain ⟨a1, g1, hs⟩ := s_bind hs
    obtain ⟨a2, g2, hs⟩ := s_bind hs
    obtain ⟨u9, ge, hs⟩ := s_bind hs
    rw [g_r_to g0, g_i_to g1, g_i_to g2, g_e_to ge]
    exact v_X8_count_108 hs k
  rcases s_ite hs with ⟨c, hs⟩ | ⟨-, hs⟩
  · subst c
    unfold U_X8_count_130 at hs
    obtain ⟨a0, g0, hs⟩ := s_bind hs
    obtain ⟨a1, g1, hs⟩ := s_bind hs
    obtain ⟨a2, g2, hs⟩ := s_bind hs
    obtain ⟨a3, g3, hs⟩ := s_bind hs
    obtain ⟨u9, ge, hs⟩ := s_bind hs
    rw [g_r_to g0, g_i_to g1, g_i_to g2, g_i_to g3, g_e_to ge]
    exact v_X8_count_130 hs k
  rcases s_ite hs with ⟨c, hs⟩ | ⟨-, hs⟩
  · subst c
    unfold U_X8_count_142 at hs
    obtain ⟨a0, g0, hs⟩ := s_bind hs
    obtain ⟨a1, g1, hs⟩ := s_bind hs
    obtain ⟨a2, g2, hs⟩ := s_bind hs
    obtain ⟨u9, ge, hs⟩ := s_bind hs
    rw [g_r_to g0, g_i_to g1, g_i_to g2, g_e_to ge]
    exact v_X8_count_142 hs k
  rcases s_ite hs with ⟨c, hs⟩ | ⟨-, hs⟩
  · subst c
    unfold U_X8_count_169 at hs
    obtain ⟨a0, g0, hs⟩ := s_bind hs
    obtain ⟨a1, g1, hs⟩ := s_bind hs
    obtain ⟨a2, g2, hs⟩ := s_bind hs
    obtain ⟨a3, g3, hs⟩ := s_bind hs
    obtain ⟨u9, ge, hs⟩ := s_bind hs
    rw [g_r_to g0, g_i_to g1, g_i_to g2, g_i_to g3, g_e_to ge]
    exact v_X8_count_169 hs k
  cases hs
theorem t_X8_count {G : sG} {d : Nat} {v0 : Nat} {v1 : Int32} {σ : sS} {q : Int32 × sS} (h : F_X8_count v0 v1 σ = some q) : s_T G (d + 7) M_X8_count [.ref v0, .int v1] σ (e_I q) := by
  unfold F_X8_count at h
  obtain ⟨-, -, h⟩ := s_bind h
  exact s_ofV rfl (by decide) (Nat.le_of_ble_eq_true rfl) rfl rfl (s_run_ind (V := fun x r => s_V G (d + 7) M_X8_count [.ref v0, .int v1] σ Y_X8_count x (e_I r)) (fun x z r hs hk => v_X8_count hs (by cases z <;> exact hk)) h)
/-! L_law -/
noncomputable def T_L_law_0 (v0 : Nat) (v1 : Nat) (σ : sS) : Option (sZ Int32) :=
  (some (s_nw σ 7 9 [.null, .null, .null, .null, .null, .null, .null, .null, .int 0])).bind fun σ1 =>
  (F_X7_init σ.2.1 σ1).bind fun q2 =>
  (some (s_nw q2.2 8 39 [.int 0, .null, .null, .int 0, .null, .null, .null, .int 0, .int 0, .int 0, .int 0, .int 0, .int 0, .int 0, .int 0, .null, .null, .null, .null, .null, .null, .null, .null, .null, .null, .null, .null, .null, .null, .null, .null, .null, .null, .int 0, .int 0, .int 0, .null, .null, .int 0])).bind fun σ3 =>
  (F_X8_init q2.2.2.1 σ3).bind fun q4 =>
  (s_na q4.2 1 1).bind fun σ5 =>
  some (.inl (23, [.ref v0, .ref σ.2.1, .ref q2.2.2.1, .ref q4.2.2.1, .int 0], σ5))
noncomputable def U_L_law_0 (vs : List Value) (σ : sS) : Option (sZ Int32) := (g_r vs).bind fun a0 => (g_r a0.2).bind fun a1 => (g_e a1.2).bind fun _ => T_L_law_0 a0.1 a1.1 σ
noncomputable def T_L_law_23 (v0 : Nat) (v1 : Nat) (v2 : Nat) (v3 : Nat) (v4 : Int32) (σ : sS) : Option (sZ Int32) :=
  (s_len σ v0).bind fun x1 =>
  if (x1 - 7) < v4 then (some (.inr (1, σ)))
  else ((s_ai σ v0 v4).bind fun x2 =>
  if (x2 &&& 63) = 0 then ((s_ai σ v0 (v4 + 1)).bind fun x3 =>
  (s_ai σ v0 (v4 + 2)).bind fun x4 =>
  (s_ai σ v0 (v4 + 3)).bind fun x5 =>
  (s_ai σ v0 (v4 + 4)).bind fun x6 =>
  (s_ai σ v0 (v4 + 5)).bind fun x7 =>
  (F_X7_feed v1 x3 x4 x5 x6 x7 σ).bind fun q8 =>
  (s_ai q8.2 v0 (v4 + 1)).bind fun x9 =>
  (s_ai q8.2 v0 (v4 + 2)).bind fun x10 =>
  (s_ai q8.2 v0 (v4 + 3)).bind fun x11 =>
  (s_ai q8.2 v0 (v4 + 4)).bind fun x12 =>
  (s_ai q8.2 v0 (v4 + 5)).bind fun x13 =>
  (F_X8_feed v2 x9 x10 x11 x12 x13 q8.2).bind fun q14 =>
  if q8.1 = q14.1 then (some (.inl (2927, [.ref v0, .ref v1, .ref v2, .ref v3, .int v4], q14.2)))
  else (some (.inr (0, q14.2))))
  else if (x2 &&& 63) = 1 then ((s_ai σ v0 (v4 + 1)).bind fun x15 =>
  (F_X7_end v1 x15 σ).bind fun q16 =>
  (s_ai q16.2 v0 (v4 + 1)).bind fun x17 =>
  (F_X8_end v2 x17 q16.2).bind fun q18 =>
  if q16.1 = q18.1 then (some (.inl (2927, [.ref v0, .ref v1, .ref v2, .ref v3, .int v4], q18.2)))
  else (some (.inr (0, q18.2))))
  else if (x2 &&& 63) = 2 then ((F_L_formula v1 v3 σ).bind fun q19 =>
  (F_X8_formula v2 q19.2).bind fun q20 =>
  (F_X8_thrown v2 q20.2).bind fun q21 =>
  if q21.1 = q19.1 then (if q19.1 = 0 then ((s_al q21.2 v3 0).bind fun x22 =>
  if (lg_cmp x22 ((q20.1 : Int32).toInt64)) = 0 then (some (.inl (375, [.ref v0, .ref v1, .ref v2, .ref v3, .int v4], q21.2)))
  else (some (.inr (0, q21.2))))
  else (some (.inl (375, [.ref v0, .ref v1, .ref v2, .ref v3, .int v4], q21.2))))
  else (some (.inr (0, q21.2))))
  else if (x2 &&& 63) = 3 then ((F_X7_fault v1 σ).bind fun q23 =>
  (F_X8_fault v2 q23.2).bind fun q24 =>
  if q23.1 = q24.1 then (some (.inl (2927, [.ref v0, .ref v1, .ref v2, .ref v3, .int v4], q24.2)))
  else (some (.inr (0, q24.2))))
  else if (x2 &&& 63) = 4 then ((s_ai σ v0 (v4 + 1)).bind fun x25 =>
  (F_L_things v1 x25 σ).bind fun q26 =>
  (s_ai q26.2 v0 (v4 + 1)).bind fun x27 =>
  (F_X8_things v2 x27 q26.2).bind fun q28 =>
  (F_X8_thrown v2 q28.2).bind fun q29 =>
  if q29.1 = q26.1 then (some (.inl (2927, [.ref v0, .ref v1, .ref v2, .ref v3, .int v4], q29.2)))
  else (some (.inr (0, q29.2))))
  else if (x2 &&& 63) = 5 then ((s_ai σ v0 (v4 + 1)).bind fun x30 =>
  (F_L_signs v1 x30 v3 σ).bind fun q31 =>
  (s_ai q31.2 v0 (v4 + 1)).bind fun x32 =>
  (F_X8_signs v2 x32 q31.2).bind fun q33 =>
  (F_X8_thrown v2 q33.2).bind fun q34 =>
  if q34.1 = q31.1 then (if q31.1 = 0 then ((s_al q34.2 v3 0).bind fun x35 =>
  if (lg_cmp x35 ((q33.1 : Int32).toInt64)) = 0 then (some (.inl (480, [.ref v0, .ref v1, .ref v2, .ref v3, .int v4], q34.2)))
  else (some (.inr (0, q34.2))))
  else (some (.inl (480, [.ref v0, .ref v1, .ref v2, .ref v3, .int v4], q34.2))))
  else (some (.inr (0, q34.2))))
  else if (x2 &&& 63) = 6 then ((s_ai σ v0 (v4 + 1)).bind fun x36 =>
  (s_ai σ v0 (v4 + 2)).bind fun x37 =>
  (F_L_same v1 x36 x37 v3 σ).bind fun q38 =>
  (s_ai q38.2 v0 (v4 + 1)).bind fun x39 =>
  (s_ai q38.2 v0 (v4 + 2)).bind fun x40 =>
  (F_X8_same v2 x39 x40 q38.2).bind fun q41 =>
  (F_X8_thrown v2 q41.2).bind fun q42 =>
  if q42.1 = q38.1 then (if q38.1 = 0 then ((s_al q42.2 v3 0).bind fun x43 =>
  if q41.1 = 0 then (some (.inl (549, [.ref v0, .ref v1, .ref v2, .ref v3, .int v4, .long 0, .long x43], q42.2)))
  else (some (.inl (549, [.ref v0, .ref v1, .ref v2, .ref v3, .int v4, .long 1, .long x43], q42.2))))
  else (some (.inl (555, [.ref v0, .ref v1, .ref v2, .ref v3, .int v4], q42.2))))
  else (some (.inr (0, q42.2))))
  else if (x2 &&& 63) = 7 then ((s_ai σ v0 (v4 + 1)).bind fun x44 =>
  (s_ai σ v0 (v4 + 2)).bind fun x45 =>
  (F_L_holds v1 x44 x45 v3 σ).bind fun q46 =>
  (s_ai q46.2 v0 (v4 + 1)).bind fun x47 =>
  (s_ai q46.2 v0 (v4 + 2)).bind fun x48 =>
  (F_X8_holds v2 x47 x48 q46.2).bind fun q49 =>
  (F_X8_thrown v2 q49.2).bind fun q50 =>
  if q50.1 = q46.1 then (if q46.1 = 0 then ((s_al q50.2 v3 0).bind fun x51 =>
  if q49.1 = 0 then (some (.inl (624, [.ref v0, .ref v1, .ref v2, .ref v3, .int v4, .long 0, .long x51], q50.2)))
  else (some (.inl (624, [.ref v0, .ref v1, .ref v2, .ref v3, .int v4, .long 1, .long x51], q50.2))))
  else (some (.inl (630, [.ref v0, .ref v1, .ref v2, .ref v3, .int v4], q50.2))))
  else (some (.inr (0, q50.2))))
  else if (x2 &&& 63) = 8 then ((s_ai σ v0 (v4 + 1)).bind fun x52 =>
  (F_L_worlds v1 x52 v3 σ).bind fun q53 =>
  (s_ai q53.2 v0 (v4 + 1)).bind fun x54 =>
  (F_X8_worlds v2 x54 q53.2).bind fun q55 =>
  (F_X8_thrown v2 q55.2).bind fun q56 =>
  if q56.1 = q53.1 then (if q53.1 = 0 then ((s_al q56.2 v3 0).bind fun x57 =>
  if (lg_cmp x57 ((q55.1 : Int32).toInt64)) = 0 then (some (.inl (686, [.ref v0, .ref v1, .ref v2, .ref v3, .int v4], q56.2)))
  else (some (.inr (0, q56.2))))
  else (some (.inl (686, [.ref v0, .ref v1, .ref v2, .ref v3, .int v4], q56.2))))
  else (some (.inr (0, q56.2))))
  else if (x2 &&& 63) = 9 then ((s_ai σ v0 (v4 + 1)).bind fun x58 =>
  (s_ai σ v0 (v4 + 2)).bind fun x59 =>
  (F_L_rules v1 x58 x59 v3 σ).bind fun q60 =>
  (s_ai q60.2 v0 (v4 + 1)).bind fun x61 =>
  (s_ai q60.2 v0 (v4 + 2)).bind fun x62 =>
  (F_X8_rules v2 x61 x62 q60.2).bind fun q63 =>
  (F_X8_thrown v2 q63.2).bind fun q64 =>
  if q64.1 = q60.1 then (if q60.1 = 0 then ((s_al q64.2 v3 0).bind fun x65 =>
  if (lg_cmp x65 ((q63.1 : Int32).toInt64)) = 0 then (some (.inl (754, [.ref v0, .ref v1, .ref v2, .ref v3, .int v4], q64.2)))
  else (some (.inr (0, q64.2))))
  else (some (.inl (754, [.ref v0, .ref v1, .ref v2, .ref v3, .int v4], q64.2))))
  else (some (.inr (0, q64.2))))
  else if (x2 &&& 63) = 10 then ((s_ai σ v0 (v4 + 1)).bind fun x66 =>
  (s_ai σ v0 (v4 + 2)).bind fun x67 =>
  (s_ai σ v0 (v4 + 3)).bind fun x68 =>
  (F_L_price v1 x66 x67 x68 v3 σ).bind fun q69 =>
  (s_ai q69.2 v0 (v4 + 1)).bind fun x70 =>
  (s_ai q69.2 v0 (v4 + 2)).bind fun x71 =>
  (s_ai q69.2 v0 (v4 + 3)).bind fun x72 =>
  (F_X8_price v2 x70 x71 x72 q69.2).bind fun q73 =>
  (F_X8_thrown v2 q73.2).bind fun q74 =>
  if q74.1 = q69.1 then (if q69.1 = 0 then ((s_al q74.2 v3 0).bind fun x75 =>
  if (lg_cmp x75 ((q73.1 : Int32).toInt64)) = 0 then (some (.inl (834, [.ref v0, .ref v1, .ref v2, .ref v3, .int v4], q74.2)))
  else (some (.inr (0, q74.2))))
  else (some (.inl (834, [.ref v0, .ref v1, .ref v2, .ref v3, .int v4], q74.2))))
  else (some (.inr (0, q74.2))))
  else if (x2 &&& 63) = 11 then ((s_ai σ v0 (v4 + 1)).bind fun x76 =>
  (s_ai σ v0 (v4 + 2)).bind fun x77 =>
  (s_ai σ v0 (v4 + 3)).bind fun x78 =>
  if x78 = 0 then (some (.inl (864, [.ref v0, .ref v1, .ref v2, .ref v3, .int v4, .int 0, .int x77, .int x76, .ref v1], σ)))
  else (some (.inl (864, [.ref v0, .ref v1, .ref v2, .ref v3, .int v4, .int 1, .int x77, .int x76, .ref v1], σ))))
  else if (x2 &&& 63) = 12 then ((s_ai σ v0 (v4 + 1)).bind fun x79 =>
  (F_L_beliefs v1 x79 v3 σ).bind fun q80 =>
  (s_ai q80.2 v0 (v4 + 1)).bind fun x81 =>
  (F_X8_beliefs v2 x81 q80.2).bind fun q82 =>
  (F_X8_thrown v2 q82.2).bind fun q83 =>
  if q83.1 = q80.1 then (if q80.1 = 0 then ((s_al q83.2 v3 0).bind fun x84 =>
  if (lg_cmp x84 ((q82.1 : Int32).toInt64)) = 0 then (some (.inl (993, [.ref v0, .ref v1, .ref v2, .ref v3, .int v4], q83.2)))
  else (some (.inr (0, q83.2))))
  else (some (.inl (993, [.ref v0, .ref v1, .ref v2, .ref v3, .int v4], q83.2))))
  else (some (.inr (0, q83.2))))
  else if (x2 &&& 63) = 13 then ((s_ai σ v0 (v4 + 1)).bind fun x85 =>
  (s_ai σ v0 (v4 + 2)).bind fun x86 =>
  (s_ai σ v0 (v4 + 3)).bind fun x87 =>
  (s_ai σ v0 (v4 + 4)).bind fun x88 =>
  (s_ai σ v0 (v4 + 5)).bind fun x89 =>
  (s_ai σ v0 (v4 + 6)).bind fun x90 =>
  (F_L_line v1 x85 x86 x87 x88 x89 x90 v3 σ).bind fun q91 =>
  (s_ai q91.2 v0 (v4 + 1)).bind fun x92 =>
  (s_ai q91.2 v0 (v4 + 2)).bind fun x93 =>
  (s_ai q91.2 v0 (v4 + 3)).bind fun x94 =>
  (s_ai q91.2 v0 (v4 + 4)).bind fun x95 =>
  (s_ai q91.2 v0 (v4 + 5)).bind fun x96 =>
  (s_ai q91.2 v0 (v4 + 6)).bind fun x97 =>
  (F_X8_line v2 x92 x93 x94 x95 x96 x97 q91.2).bind fun q98 =>
  (F_X8_thrown v2 q98.2).bind fun q99 =>
  if q99.1 = q91.1 then (if q91.1 = 0 then ((s_al q99.2 v3 0).bind fun x100 =>
  if (lg_cmp x100 ((q98.1 : Int32).toInt64)) = 0 then (some (.inl (1111, [.ref v0, .ref v1, .ref v2, .ref v3, .int v4], q99.2)))
  else (some (.inr (0, q99.2))))
  else (some (.inl (1111, [.ref v0, .ref v1, .ref v2, .ref v3, .int v4], q99.2))))
  else (some (.inr (0, q99.2))))
  else if (x2 &&& 63) = 14 then ((s_ai σ v0 (v4 + 1)).bind fun x101 =>
  (s_ai σ v0 (v4 + 2)).bind fun x102 =>
  (F_L_look v1 x101 x102 v3 σ).bind fun q103 =>
  (s_ai q103.2 v0 (v4 + 1)).bind fun x104 =>
  (s_ai q103.2 v0 (v4 + 2)).bind fun x105 =>
  (F_X8_look v2 x104 x105 q103.2).bind fun q106 =>
  (F_X8_thrown v2 q106.2).bind fun q107 =>
  if q107.1 = q103.1 then (if q103.1 = 0 then ((s_al q107.2 v3 0).bind fun x108 =>
  if (lg_cmp x108 ((q106.1 : Int32).toInt64)) = 0 then (some (.inl (1179, [.ref v0, .ref v1, .ref v2, .ref v3, .int v4], q107.2)))
  else (some (.inr (0, q107.2))))
  else (some (.inl (1179, [.ref v0, .ref v1, .ref v2, .ref v3, .int v4], q107.2))))
  else (some (.inr (0, q107.2))))
  else if (x2 &&& 63) = 15 then ((s_ai σ v0 (v4 + 1)).bind fun x109 =>
  (s_ai σ v0 (v4 + 2)).bind fun x110 =>
  (F_L_is v1 x109 x110 v3 σ).bind fun q111 =>
  (s_ai q111.2 v0 (v4 + 1)).bind fun x112 =>
  (s_ai q111.2 v0 (v4 + 2)).bind fun x113 =>
  (F_X8_is v2 x112 x113 q111.2).bind fun q114 =>
  (F_X8_thrown v2 q114.2).bind fun q115 =>
  if q115.1 = q111.1 then (if q111.1 = 0 then ((s_al q115.2 v3 0).bind fun x116 =>
  if q114.1 = 0 then (some (.inl (1248, [.ref v0, .ref v1, .ref v2, .ref v3, .int v4, .long 0, .long x116], q115.2)))
  else (some (.inl (1248, [.ref v0, .ref v1, .ref v2, .ref v3, .int v4, .long 1, .long x116], q115.2))))
  else (some (.inl (1254, [.ref v0, .ref v1, .ref v2, .ref v3, .int v4], q115.2))))
  else (some (.inr (0, q115.2))))
  else if (x2 &&& 63) = 16 then ((F_X7_wrong v1 σ).bind fun q117 =>
  (F_X8_wrong v2 q117.2).bind fun q118 =>
  if q117.1 = q118.1 then (some (.inl (2927, [.ref v0, .ref v1, .ref v2, .ref v3, .int v4], q118.2)))
  else (some (.inr (0, q118.2))))
  else if (x2 &&& 63) = 17 then ((s_ai σ v0 (v4 + 1)).bind fun x119 =>
  (F_L_rests v1 x119 v3 σ).bind fun q120 =>
  (s_ai q120.2 v0 (v4 + 1)).bind fun x121 =>
  (F_X8_rests v2 x121 q120.2).bind fun q122 =>
  (F_X8_thrown v2 q122.2).bind fun q123 =>
  if q123.1 = q120.1 then (if q120.1 = 0 then ((s_al q123.2 v3 0).bind fun x124 =>
  if (lg_cmp x124 q122.1) = 0 then (some (.inl (1322, [.ref v0, .ref v1, .ref v2, .ref v3, .int v4], q123.2)))
  else (some (.inr (0, q123.2))))
  else (some (.inl (1322, [.ref v0, .ref v1, .ref v2, .ref v3, .int v4], q123.2))))
  else (some (.inr (0, q123.2))))
  else if (x2 &&& 63) = 18 then ((s_ai σ v0 (v4 + 1)).bind fun x125 =>
  (F_L_needs v1 x125 v3 σ).bind fun q126 =>
  (s_ai q126.2 v0 (v4 + 1)).bind fun x127 =>
  (F_X8_needs v2 x127 q126.2).bind fun q128 =>
  (F_X8_thrown v2 q128.2).bind fun q129 =>
  if q129.1 = q126.1 then (if q126.1 = 0 then ((s_al q129.2 v3 0).bind fun x130 =>
  if (lg_cmp x130 q128.1) = 0 then (some (.inl (1377, [.ref v0, .ref v1, .ref v2, .ref v3, .int v4], q129.2)))
  else (some (.inr (0, q129.2))))
  else (some (.inl (1377, [.ref v0, .ref v1, .ref v2, .ref v3, .int v4], q129.2))))
  else (some (.inr (0, q129.2))))
  else if (x2 &&& 63) = 19 then ((s_ai σ v0 (v4 + 1)).bind fun x131 =>
  (F_L_spent v1 x131 v3 σ).bind fun q132 =>
  (s_ai q132.2 v0 (v4 + 1)).bind fun x133 =>
  (F_X8_spent v2 x133 q132.2).bind fun q134 =>
  (F_X8_thrown v2 q134.2).bind fun q135 =>
  if q135.1 = q132.1 then (if q132.1 = 0 then ((s_al q135.2 v3 0).bind fun x136 =>
  if (lg_cmp x136 ((q134.1 : Int32).toInt64)) = 0 then (some (.inl (1433, [.ref v0, .ref v1, .ref v2, .ref v3, .int v4], q135.2)))
  else (some (.inr (0, q135.2))))
  else (some (.inl (1433, [.ref v0, .ref v1, .ref v2, .ref v3, .int v4], q135.2))))
  else (some (.inr (0, q135.2))))
  else if (x2 &&& 63) = 20 then ((s_ai σ v0 (v4 + 1)).bind fun x137 =>
  (s_ai σ v0 (v4 + 2)).bind fun x138 =>
  (F_L_falls v1 x137 x138 v3 σ).bind fun q139 =>
  (s_ai q139.2 v0 (v4 + 1)).bind fun x140 =>
  (s_ai q139.2 v0 (v4 + 2)).bind fun x141 =>
  (F_X8_falls v2 x140 x141 q139.2).bind fun q142 =>
  (F_X8_thrown v2 q142.2).bind fun q143 =>
  if q143.1 = q139.1 then (if q139.1 = 0 then ((s_al q143.2 v3 0).bind fun x144 =>
  if (lg_cmp x144 q142.1) = 0 then (some (.inl (1500, [.ref v0, .ref v1, .ref v2, .ref v3, .int v4], q143.2)))
  else (some (.inr (0, q143.2))))
  else (some (.inl (1500, [.ref v0, .ref v1, .ref v2, .ref v3, .int v4], q143.2))))
  else (some (.inr (0, q143.2))))
  else if (x2 &&& 63) = 21 then ((s_ai σ v0 (v4 + 1)).bind fun x145 =>
  (s_ai σ v0 (v4 + 2)).bind fun x146 =>
  (F_L_follows v1 x145 x146 v3 σ).bind fun q147 =>
  (s_ai q147.2 v0 (v4 + 1)).bind fun x148 =>
  (s_ai q147.2 v0 (v4 + 2)).bind fun x149 =>
  (F_X8_follows v2 x148 x149 q147.2).bind fun q150 =>
  (F_X8_thrown v2 q150.2).bind fun q151 =>
  if q151.1 = q147.1 then (if q147.1 = 0 then ((s_al q151.2 v3 0).bind fun x152 =>
  if q150.1 = 0 then (some (.inl (1569, [.ref v0, .ref v1, .ref v2, .ref v3, .int v4, .long 0, .long x152], q151.2)))
  else (some (.inl (1569, [.ref v0, .ref v1, .ref v2, .ref v3, .int v4, .long 1, .long x152], q151.2))))
  else (some (.inl (1575, [.ref v0, .ref v1, .ref v2, .ref v3, .int v4], q151.2))))
  else (some (.inr (0, q151.2))))
  else if (x2 &&& 63) = 22 then ((s_ai σ v0 (v4 + 1)).bind fun x153 =>
  (s_ai σ v0 (v4 + 2)).bind fun x154 =>
  (F_L_counter v1 x153 x154 v3 σ).bind fun q155 =>
  (s_ai q155.2 v0 (v4 + 1)).bind fun x156 =>
  (s_ai q155.2 v0 (v4 + 2)).bind fun x157 =>
  (F_X8_counter v2 x156 x157 q155.2).bind fun q158 =>
  (F_X8_thrown v2 q158.2).bind fun q159 =>
  if q159.1 = q155.1 then (if q155.1 = 0 then ((s_al q159.2 v3 0).bind fun x160 =>
  if (lg_cmp x160 ((q158.1 : Int32).toInt64)) = 0 then (some (.inl (1643, [.ref v0, .ref v1, .ref v2, .ref v3, .int v4], q159.2)))
  else (some (.inr (0, q159.2))))
  else (some (.inl (1643, [.ref v0, .ref v1, .ref v2, .ref v3, .int v4], q159.2))))
  else (some (.inr (0, q159.2))))
  else if (x2 &&& 63) = 23 then ((s_ai σ v0 (v4 + 1)).bind fun x161 =>
  (s_ai σ v0 (v4 + 2)).bind fun x162 =>
  (s_ai σ v0 (v4 + 3)).bind fun x163 =>
  (F_L_cheapest v1 x161 x162 x163 v3 σ).bind fun q164 =>
  (s_ai q164.2 v0 (v4 + 1)).bind fun x165 =>
  (s_ai q164.2 v0 (v4 + 2)).bind fun x166 =>
  (s_ai q164.2 v0 (v4 + 3)).bind fun x167 =>
  (F_X8_cheapest v2 x165 x166 x167 q164.2).bind fun q168 =>
  (F_X8_thrown v2 q168.2).bind fun q169 =>
  if q169.1 = q164.1 then (if q164.1 = 0 then ((s_al q169.2 v3 0).bind fun x170 =>
  if (lg_cmp x170 ((q168.1 : Int32).toInt64)) = 0 then (some (.inl (1723, [.ref v0, .ref v1, .ref v2, .ref v3, .int v4], q169.2)))
  else (some (.inr (0, q169.2))))
  else (some (.inl (1723, [.ref v0, .ref v1, .ref v2, .ref v3, .int v4], q169.2))))
  else (some (.inr (0, q169.2))))
  else if (x2 &&& 63) = 24 then ((s_ai σ v0 (v4 + 1)).bind fun x171 =>
  (s_ai σ v0 (v4 + 2)).bind fun x172 =>
  (s_ai σ v0 (v4 + 3)).bind fun x173 =>
  (F_L_lastly v1 x171 x172 x173 v3 σ).bind fun q174 =>
  (s_ai q174.2 v0 (v4 + 1)).bind fun x175 =>
  (s_ai q174.2 v0 (v4 + 2)).bind fun x176 =>
  (s_ai q174.2 v0 (v4 + 3)).bind fun x177 =>
  (F_X8_lastly v2 x175 x176 x177 q174.2).bind fun q178 =>
  (F_X8_thrown v2 q178.2).bind fun q179 =>
  if q179.1 = q174.1 then (if q174.1 = 0 then ((s_al q179.2 v3 0).bind fun x180 =>
  if (lg_cmp x180 ((q178.1 : Int32).toInt64)) = 0 then (some (.inl (1803, [.ref v0, .ref v1, .ref v2, .ref v3, .int v4], q179.2)))
  else (some (.inr (0, q179.2))))
  else (some (.inl (1803, [.ref v0, .ref v1, .ref v2, .ref v3, .int v4], q179.2))))
  else (some (.inr (0, q179.2))))
  else if (x2 &&& 63) = 25 then ((s_ai σ v0 (v4 + 1)).bind fun x181 =>
  (s_ai σ v0 (v4 + 2)).bind fun x182 =>
  (F_L_where v1 x181 x182 v3 σ).bind fun q183 =>
  (s_ai q183.2 v0 (v4 + 1)).bind fun x184 =>
  (s_ai q183.2 v0 (v4 + 2)).bind fun x185 =>
  (F_X8_where v2 x184 x185 q183.2).bind fun q186 =>
  (F_X8_thrown v2 q186.2).bind fun q187 =>
  if q187.1 = q183.1 then (if q183.1 = 0 then ((s_al q187.2 v3 0).bind fun x188 =>
  if (lg_cmp x188 ((q186.1 : Int32).toInt64)) = 0 then (some (.inl (1871, [.ref v0, .ref v1, .ref v2, .ref v3, .int v4], q187.2)))
  else (some (.inr (0, q187.2))))
  else (some (.inl (1871, [.ref v0, .ref v1, .ref v2, .ref v3, .int v4], q187.2))))
  else (some (.inr (0, q187.2))))
  else if (x2 &&& 63) = 26 then ((s_ai σ v0 (v4 + 1)).bind fun x189 =>
  (s_ai σ v0 (v4 + 2)).bind fun x190 =>
  (s_ai σ v0 (v4 + 3)).bind fun x191 =>
  (F_L_resold v1 x189 x190 x191 v3 σ).bind fun q192 =>
  (s_ai q192.2 v0 (v4 + 1)).bind fun x193 =>
  (s_ai q192.2 v0 (v4 + 2)).bind fun x194 =>
  (s_ai q192.2 v0 (v4 + 3)).bind fun x195 =>
  (F_X8_resold v2 x193 x194 x195 q192.2).bind fun q196 =>
  (F_X8_thrown v2 q196.2).bind fun q197 =>
  if q197.1 = q192.1 then (if q192.1 = 0 then ((s_al q197.2 v3 0).bind fun x198 =>
  if (lg_cmp x198 ((q196.1 : Int32).toInt64)) = 0 then (some (.inl (1951, [.ref v0, .ref v1, .ref v2, .ref v3, .int v4], q197.2)))
  else (some (.inr (0, q197.2))))
  else (some (.inl (1951, [.ref v0, .ref v1, .ref v2, .ref v3, .int v4], q197.2))))
  else (some (.inr (0, q197.2))))
  else if (x2 &&& 63) = 27 then ((s_ai σ v0 (v4 + 1)).bind fun x199 =>
  (s_ai σ v0 (v4 + 2)).bind fun x200 =>
  (s_ai σ v0 (v4 + 3)).bind fun x201 =>
  (F_L_forward v1 x199 x200 x201 v3 σ).bind fun q202 =>
  (s_ai q202.2 v0 (v4 + 1)).bind fun x203 =>
  (s_ai q202.2 v0 (v4 + 2)).bind fun x204 =>
  (s_ai q202.2 v0 (v4 + 3)).bind fun x205 =>
  (F_X8_forward v2 x203 x204 x205 q202.2).bind fun q206 =>
  (F_X8_thrown v2 q206.2).bind fun q207 =>
  if q207.1 = q202.1 then (if q202.1 = 0 then ((s_al q207.2 v3 0).bind fun x208 =>
  if (lg_cmp x208 ((q206.1 : Int32).toInt64)) = 0 then (some (.inl (2031, [.ref v0, .ref v1, .ref v2, .ref v3, .int v4], q207.2)))
  else (some (.inr (0, q207.2))))
  else (some (.inl (2031, [.ref v0, .ref v1, .ref v2, .ref v3, .int v4], q207.2))))
  else (some (.inr (0, q207.2))))
  else if (x2 &&& 63) = 28 then ((s_ai σ v0 (v4 + 1)).bind fun x209 =>
  (F_L_truths v1 x209 v3 σ).bind fun q210 =>
  (s_ai q210.2 v0 (v4 + 1)).bind fun x211 =>
  (F_X8_truths v2 x211 q210.2).bind fun q212 =>
  (F_X8_thrown v2 q212.2).bind fun q213 =>
  if q213.1 = q210.1 then (if q210.1 = 0 then ((s_al q213.2 v3 0).bind fun x214 =>
  if (lg_cmp x214 ((q212.1 : Int32).toInt64)) = 0 then (some (.inl (2087, [.ref v0, .ref v1, .ref v2, .ref v3, .int v4], q213.2)))
  else (some (.inr (0, q213.2))))
  else (some (.inl (2087, [.ref v0, .ref v1, .ref v2, .ref v3, .int v4], q213.2))))
  else (some (.inr (0, q213.2))))
  else if (x2 &&& 63) = 29 then ((s_ai σ v0 (v4 + 1)).bind fun x215 =>
  (s_ai σ v0 (v4 + 2)).bind fun x216 =>
  (F_L_agree v1 x215 x216 v3 σ).bind fun q217 =>
  (s_ai q217.2 v0 (v4 + 1)).bind fun x218 =>
  (s_ai q217.2 v0 (v4 + 2)).bind fun x219 =>
  (F_X8_agree v2 x218 x219 q217.2).bind fun q220 =>
  (F_X8_thrown v2 q220.2).bind fun q221 =>
  if q221.1 = q217.1 then (if q217.1 = 0 then ((s_al q221.2 v3 0).bind fun x222 =>
  if (lg_cmp x222 ((q220.1 : Int32).toInt64)) = 0 then (some (.inl (2155, [.ref v0, .ref v1, .ref v2, .ref v3, .int v4], q221.2)))
  else (some (.inr (0, q221.2))))
  else (some (.inl (2155, [.ref v0, .ref v1, .ref v2, .ref v3, .int v4], q221.2))))
  else (some (.inr (0, q221.2))))
  else if (x2 &&& 63) = 30 then ((s_ai σ v0 (v4 + 1)).bind fun x223 =>
  (F_L_withdraw v1 x223 v3 σ).bind fun q224 =>
  (s_ai q224.2 v0 (v4 + 1)).bind fun x225 =>
  (F_X8_withdraw v2 x225 q224.2).bind fun q226 =>
  (F_X8_thrown v2 q226.2).bind fun q227 =>
  if q227.1 = q224.1 then (if q224.1 = 0 then ((s_al q227.2 v3 0).bind fun x228 =>
  if (lg_cmp x228 ((q226.1 : Int32).toInt64)) = 0 then (some (.inl (2211, [.ref v0, .ref v1, .ref v2, .ref v3, .int v4], q227.2)))
  else (some (.inr (0, q227.2))))
  else (some (.inl (2211, [.ref v0, .ref v1, .ref v2, .ref v3, .int v4], q227.2))))
  else (some (.inr (0, q227.2))))
  else if (x2 &&& 63) = 31 then ((s_ai σ v0 (v4 + 1)).bind fun x229 =>
  (F_L_idle v1 x229 v3 σ).bind fun q230 =>
  (s_ai q230.2 v0 (v4 + 1)).bind fun x231 =>
  (F_X8_idle v2 x231 q230.2).bind fun q232 =>
  (F_X8_thrown v2 q232.2).bind fun q233 =>
  if q233.1 = q230.1 then (if q230.1 = 0 then ((s_al q233.2 v3 0).bind fun x234 =>
  if (lg_cmp x234 ((q232.1 : Int32).toInt64)) = 0 then (some (.inl (2267, [.ref v0, .ref v1, .ref v2, .ref v3, .int v4], q233.2)))
  else (some (.inr (0, q233.2))))
  else (some (.inl (2267, [.ref v0, .ref v1, .ref v2, .ref v3, .int v4], q233.2))))
  else (some (.inr (0, q233.2))))
  else if (x2 &&& 63) = 32 then ((s_ai σ v0 (v4 + 1)).bind fun x235 =>
  (F_L_alike v1 x235 v3 σ).bind fun q236 =>
  (s_ai q236.2 v0 (v4 + 1)).bind fun x237 =>
  (F_X8_alike v2 x237 q236.2).bind fun q238 =>
  (F_X8_thrown v2 q238.2).bind fun q239 =>
  if q239.1 = q236.1 then (if q236.1 = 0 then ((s_al q239.2 v3 0).bind fun x240 =>
  if (lg_cmp x240 ((q238.1 : Int32).toInt64)) = 0 then (some (.inl (2323, [.ref v0, .ref v1, .ref v2, .ref v3, .int v4], q239.2)))
  else (some (.inr (0, q239.2))))
  else (some (.inl (2323, [.ref v0, .ref v1, .ref v2, .ref v3, .int v4], q239.2))))
  else (some (.inr (0, q239.2))))
  else if (x2 &&& 63) = 33 then ((s_ai σ v0 (v4 + 1)).bind fun x241 =>
  (F_L_core v1 x241 v3 σ).bind fun q242 =>
  (s_ai q242.2 v0 (v4 + 1)).bind fun x243 =>
  (F_X8_core v2 x243 q242.2).bind fun q244 =>
  (F_X8_thrown v2 q244.2).bind fun q245 =>
  if q245.1 = q242.1 then (if q242.1 = 0 then ((s_al q245.2 v3 0).bind fun x246 =>
  if (lg_cmp x246 ((q244.1 : Int32).toInt64)) = 0 then (some (.inl (2379, [.ref v0, .ref v1, .ref v2, .ref v3, .int v4], q245.2)))
  else (some (.inr (0, q245.2))))
  else (some (.inl (2379, [.ref v0, .ref v1, .ref v2, .ref v3, .int v4], q245.2))))
  else (some (.inr (0, q245.2))))
  else if (x2 &&& 63) = 34 then ((s_ai σ v0 (v4 + 1)).bind fun x247 =>
  (s_ai σ v0 (v4 + 2)).bind fun x248 =>
  (F_L_more v1 x247 x248 v3 σ).bind fun q249 =>
  (s_ai q249.2 v0 (v4 + 1)).bind fun x250 =>
  (s_ai q249.2 v0 (v4 + 2)).bind fun x251 =>
  (F_X8_more v2 x250 x251 q249.2).bind fun q252 =>
  (F_X8_thrown v2 q252.2).bind fun q253 =>
  if q253.1 = q249.1 then (if q249.1 = 0 then ((s_al q253.2 v3 0).bind fun x254 =>
  if (lg_cmp x254 ((q252.1 : Int32).toInt64)) = 0 then (some (.inl (2447, [.ref v0, .ref v1, .ref v2, .ref v3, .int v4], q253.2)))
  else (some (.inr (0, q253.2))))
  else (some (.inl (2447, [.ref v0, .ref v1, .ref v2, .ref v3, .int v4], q253.2))))
  else (some (.inr (0, q253.2))))
  else if (x2 &&& 63) = 35 then ((s_ai σ v0 (v4 + 1)).bind fun x255 =>
  (s_ai σ v0 (v4 + 2)).bind fun x256 =>
  (F_L_gains v1 x255 x256 v3 σ).bind fun q257 =>
  (s_ai q257.2 v0 (v4 + 1)).bind fun x258 =>
  (s_ai q257.2 v0 (v4 + 2)).bind fun x259 =>
  (F_X8_gains v2 x258 x259 q257.2).bind fun q260 =>
  (F_X8_thrown v2 q260.2).bind fun q261 =>
  if q261.1 = q257.1 then (if q257.1 = 0 then ((s_al q261.2 v3 0).bind fun x262 =>
  if (lg_cmp x262 ((q260.1 : Int32).toInt64)) = 0 then (some (.inl (2515, [.ref v0, .ref v1, .ref v2, .ref v3, .int v4], q261.2)))
  else (some (.inr (0, q261.2))))
  else (some (.inl (2515, [.ref v0, .ref v1, .ref v2, .ref v3, .int v4], q261.2))))
  else (some (.inr (0, q261.2))))
  else if (x2 &&& 63) = 36 then ((s_ai σ v0 (v4 + 1)).bind fun x263 =>
  (s_ai σ v0 (v4 + 2)).bind fun x264 =>
  (s_ai σ v0 (v4 + 3)).bind fun x265 =>
  (s_ai σ v0 (v4 + 4)).bind fun x266 =>
  (F_L_sell v1 x263 x264 x265 x266 v3 σ).bind fun q267 =>
  (s_ai q267.2 v0 (v4 + 1)).bind fun x268 =>
  (s_ai q267.2 v0 (v4 + 2)).bind fun x269 =>
  (s_ai q267.2 v0 (v4 + 3)).bind fun x270 =>
  (s_ai q267.2 v0 (v4 + 4)).bind fun x271 =>
  (F_X8_sell v2 x268 x269 x270 x271 q267.2).bind fun q272 =>
  (F_X8_thrown v2 q272.2).bind fun q273 =>
  if q273.1 = q267.1 then (if q267.1 = 0 then ((s_al q273.2 v3 0).bind fun x274 =>
  if (lg_cmp x274 ((q272.1 : Int32).toInt64)) = 0 then (some (.inl (2607, [.ref v0, .ref v1, .ref v2, .ref v3, .int v4], q273.2)))
  else (some (.inr (0, q273.2))))
  else (some (.inl (2607, [.ref v0, .ref v1, .ref v2, .ref v3, .int v4], q273.2))))
  else (some (.inr (0, q273.2))))
  else if (x2 &&& 63) = 37 then ((s_ai σ v0 (v4 + 1)).bind fun x275 =>
  (F_L_undo v1 x275 v3 σ).bind fun q276 =>
  (s_ai q276.2 v0 (v4 + 1)).bind fun x277 =>
  (F_X8_undo v2 x277 q276.2).bind fun q278 =>
  (F_X8_thrown v2 q278.2).bind fun q279 =>
  if q279.1 = q276.1 then (if q276.1 = 0 then ((s_al q279.2 v3 0).bind fun x280 =>
  if q278.1 = 0 then (some (.inl (2664, [.ref v0, .ref v1, .ref v2, .ref v3, .int v4, .long 0, .long x280], q279.2)))
  else (some (.inl (2664, [.ref v0, .ref v1, .ref v2, .ref v3, .int v4, .long 1, .long x280], q279.2))))
  else (some (.inl (2670, [.ref v0, .ref v1, .ref v2, .ref v3, .int v4], q279.2))))
  else (some (.inr (0, q279.2))))
  else if (x2 &&& 63) = 38 then ((s_ai σ v0 (v4 + 1)).bind fun x281 =>
  (s_ai σ v0 (v4 + 2)).bind fun x282 =>
  (s_ai σ v0 (v4 + 3)).bind fun x283 =>
  (F_L_owes v1 x281 x282 x283 v3 σ).bind fun q284 =>
  (s_ai q284.2 v0 (v4 + 1)).bind fun x285 =>
  (s_ai q284.2 v0 (v4 + 2)).bind fun x286 =>
  (s_ai q284.2 v0 (v4 + 3)).bind fun x287 =>
  (F_X8_owes v2 x285 x286 x287 q284.2).bind fun q288 =>
  (F_X8_thrown v2 q288.2).bind fun q289 =>
  if q289.1 = q284.1 then (if q284.1 = 0 then ((s_al q289.2 v3 0).bind fun x290 =>
  if (lg_cmp x290 ((q288.1 : Int32).toInt64)) = 0 then (some (.inl (2750, [.ref v0, .ref v1, .ref v2, .ref v3, .int v4], q289.2)))
  else (some (.inr (0, q289.2))))
  else (some (.inl (2750, [.ref v0, .ref v1, .ref v2, .ref v3, .int v4], q289.2))))
  else (some (.inr (0, q289.2))))
  else if (x2 &&& 63) = 39 then ((s_ai σ v0 (v4 + 1)).bind fun x291 =>
  (F_L_refunds v1 x291 v3 σ).bind fun q292 =>
  (s_ai q292.2 v0 (v4 + 1)).bind fun x293 =>
  (F_X8_refunds v2 x293 q292.2).bind fun q294 =>
  (F_X8_thrown v2 q294.2).bind fun q295 =>
  if q295.1 = q292.1 then (if q292.1 = 0 then ((s_al q295.2 v3 0).bind fun x296 =>
  if (lg_cmp x296 ((q294.1 : Int32).toInt64)) = 0 then (some (.inl (2806, [.ref v0, .ref v1, .ref v2, .ref v3, .int v4], q295.2)))
  else (some (.inr (0, q295.2))))
  else (some (.inl (2806, [.ref v0, .ref v1, .ref v2, .ref v3, .int v4], q295.2))))
  else (some (.inr (0, q295.2))))
  else if (x2 &&& 63) = 40 then ((F_X7_dearer v1 σ).bind fun q297 =>
  (F_X8_dearer v2 q297.2).bind fun q298 =>
  if q297.1 = q298.1 then (some (.inl (2927, [.ref v0, .ref v1, .ref v2, .ref v3, .int v4], q298.2)))
  else (some (.inr (0, q298.2))))
  else if (x2 &&& 63) = 41 then ((s_ai σ v0 (v4 + 1)).bind fun x299 =>
  (F_L_chain v1 x299 v3 σ).bind fun q300 =>
  (s_ai q300.2 v0 (v4 + 1)).bind fun x301 =>
  (F_X8_chain v2 x301 q300.2).bind fun q302 =>
  (F_X8_thrown v2 q302.2).bind fun q303 =>
  if q303.1 = q300.1 then (if q300.1 = 0 then ((s_al q303.2 v3 0).bind fun x304 =>
  if (lg_cmp x304 ((q302.1 : Int32).toInt64)) = 0 then (some (.inl (2875, [.ref v0, .ref v1, .ref v2, .ref v3, .int v4], q303.2)))
  else (some (.inr (0, q303.2))))
  else (some (.inl (2875, [.ref v0, .ref v1, .ref v2, .ref v3, .int v4], q303.2))))
  else (some (.inr (0, q303.2))))
  else if (x2 &&& 63) = 42 then ((F_X7_image v1 σ).bind fun q305 =>
  (F_X8_image v2 q305.2).bind fun q306 =>
  some (.inl (2927, [.ref v0, .ref v1, .ref v2, .ref v3, .int v4], q306.2)))
  else if (x2 &&& 63) = 43 then ((F_X7_back v1 σ).bind fun q307 =>
  (F_X8_back v2 q307.2).bind fun q308 =>
  if q307.1 = q308.1 then (some (.inl (2927, [.ref v0, .ref v1, .ref v2, .ref v3, .int v4], q308.2)))
  else (some (.inr (0, q308.2))))
  else if (x2 &&& 63) = 44 then ((s_ai σ v0 (v4 + 1)).bind fun x309 =>
  (F_X7_count v1 x309 σ).bind fun q310 =>
  (s_ai q310.2 v0 (v4 + 1)).bind fun x311 =>
  (F_X8_count v2 x311 q310.2).bind fun q312 =>
  if q310.1 = q312.1 then (some (.inl (2927, [.ref v0, .ref v1, .ref v2, .ref v3, .int v4], q312.2)))
  else (some (.inr (0, q312.2))))
  else (some (.inl (2927, [.ref v0, .ref v1, .ref v2, .ref v3, .int v4], σ))))
noncomputable def U_L_law_23 (vs : List Value) (σ : sS) : Option (sZ Int32) := (g_r vs).bind fun a0 => (g_r a0.2).bind fun a1 => (g_r a1.2).bind fun a2 => (g_r a2.2).bind fun a3 => (g_i a3.2).bind fun a4 => (g_e a4.2).bind fun _ => T_L_law_23 a0.1 a1.1 a2.1 a3.1 a4.1 σ
noncomputable def T_L_law_375 (v0 : Nat) (v1 : Nat) (v2 : Nat) (v3 : Nat) (v4 : Int32) (σ : sS) : Option (sZ Int32) :=
  some (.inl (2927, [.ref v0, .ref v1, .ref v2, .ref v3, .int v4], σ))
noncomputable def U_L_law_375 (vs : List Value) (σ : sS) : Option (sZ Int32) := (g_r vs).bind fun a0 => (g_r a0.2).bind fun a1 => (g_r a1.2).bind fun a2 => (g_r a2.2).bind fun a3 => (g_i a3.2).bind fun a4 => (g_e a4.2).bind fun _ => T_L_law_375 a0.1 a1.1 a2.1 a3.1 a4.1 σ
noncomputable def T_L_law_480 (v0 : Nat) (v1 : Nat) (v2 : Nat) (v3 : Nat) (v4 : Int32) (σ : sS) : Option (sZ Int32) :=
  some (.inl (2927, [.ref v0, .ref v1, .ref v2, .ref v3, .int v4], σ))
noncomputable def U_L_law_480 (vs : List Value) (σ : sS) : Option (sZ Int32) := (g_r vs).bind fun a0 => (g_r a0.2).bind fun a1 => (g_r a1.2).bind fun a2 => (g_r a2.2).bind fun a3 => (g_i a3.2).bind fun a4 => (g_e a4.2).bind fun _ => T_L_law_480 a0.1 a1.1 a2.1 a3.1 a4.1 σ
noncomputable def T_L_law_549 (v0 : Nat) (v1 : Nat) (v2 : Nat) (v3 : Nat) (v4 : Int32) (w0 : Int64) (w1 : Int64) (σ : sS) : Option (sZ Int32) :=
  if (lg_cmp w1 w0) = 0 then (some (.inl (555, [.ref v0, .ref v1, .ref v2, .ref v3, .int v4], σ)))
  else (some (.inr (0, σ)))
noncomputable def U_L_law_549 (vs : List Value) (σ : sS) : Option (sZ Int32) := (g_r vs).bind fun a0 => (g_r a0.2).bind fun a1 => (g_r a1.2).bind fun a2 => (g_r a2.2).bind fun a3 => (g_i a3.2).bind fun a4 => (g_l a4.2).bind fun a5 => (g_l a5.2).bind fun a6 => (g_e a6.2).bind fun _ => T_L_law_549 a0.1 a1.1 a2.1 a3.1 a4.1 a5.1 a6.1 σ
noncomputable def T_L_law_555 (v0 : Nat) (v1 : Nat) (v2 : Nat) (v3 : Nat) (v4 : Int32) (σ : sS) : Option (sZ Int32) :=
  some (.inl (2927, [.ref v0, .ref v1, .ref v2, .ref v3, .int v4], σ))
noncomputable def U_L_law_555 (vs : List Value) (σ : sS) : Option (sZ Int32) := (g_r vs).bind fun a0 => (g_r a0.2).bind fun a1 => (g_r a1.2).bind fun a2 => (g_r a2.2).bind fun a3 => (g_i a3.2).bind fun a4 => (g_e a4.2).bind fun _ => T_L_law_555 a0.1 a1.1 a2.1 a3.1 a4.1 σ
noncomputable def T_L_law_624 (v0 : Nat) (v1 : Nat) (v2 : Nat) (v3 : Nat) (v4 : Int32) (w0 : Int64) (w1 : Int64) (σ : sS) : Option (sZ Int32) :=
  if (lg_cmp w1 w0) = 0 then (some (.inl (630, [.ref v0, .ref v1, .ref v2, .ref v3, .int v4], σ)))
  else (some (.inr (0, σ)))
noncomputable def U_L_law_624 (vs : List Value) (σ : sS) : Option (sZ Int32) := (g_r vs).bind fun a0 => (g_r a0.2).bind fun a1 => (g_r a1.2).bind fun a2 => (g_r a2.2).bind fun a3 => (g_i a3.2).bind fun a4 => (g_l a4.2).bind fun a5 => (g_l a5.2).bind fun a6 => (g_e a6.2).bind fun _ => T_L_law_624 a0.1 a1.1 a2.1 a3.1 a4.1 a5.1 a6.1 σ
noncomputable def T_L_law_630 (v0 : Nat) (v1 : Nat) (v2 : Nat) (v3 : Nat) (v4 : Int32) (σ : sS) : Option (sZ Int32) :=
  some (.inl (2927, [.ref v0, .ref v1, .ref v2, .ref v3, .int v4], σ))
noncomputable def U_L_law_630 (vs : List Value) (σ : sS) : Option (sZ Int32) := (g_r vs).bind fun a0 => (g_r a0.2).bind fun a1 => (g_r a1.2).bind fun a2 => (g_r a2.2).bind fun a3 => (g_i a3.2).bind fun a4 => (g_e a4.2).bind fun _ => T_L_law_630 a0.1 a1.1 a2.1 a3.1 a4.1 σ
noncomputable def T_L_law_686 (v0 : Nat) (v1 : Nat) (v2 : Nat) (v3 : Nat) (v4 : Int32) (σ : sS) : Option (sZ Int32) :=
  some (.inl (2927, [.ref v0, .ref v1, .ref v2, .ref v3, .int v4], σ))
noncomputable def U_L_law_686 (vs : List Value) (σ : sS) : Option (sZ Int32) := (g_r vs).bind fun a0 => (g_r a0.2).bind fun a1 => (g_r a1.2).bind fun a2 => (g_r a2.2).bind fun a3 => (g_i a3.2).bind fun a4 => (g_e a4.2).bind fun _ => T_L_law_686 a0.1 a1.1 a2.1 a3.1 a4.1 σ
noncomputable def T_L_law_754 (v0 : Nat) (v1 : Nat) (v2 : Nat) (v3 : Nat) (v4 : Int32) (σ : sS) : Option (sZ Int32) :=
  some (.inl (2927, [.ref v0, .ref v1, .ref v2, .ref v3, .int v4], σ))
noncomputable def U_L_law_754 (vs : List Value) (σ : sS) : Option (sZ Int32) := (g_r vs).bind fun a0 => (g_r a0.2).bind fun a1 => (g_r a1.2).bind fun a2 => (g_r a2.2).bind fun a3 => (g_i a3.2).bind fun a4 => (g_e a4.2).bind fun _ => T_L_law_754 a0.1 a1.1 a2.1 a3.1 a4.1 σ
noncomputable def T_L_law_834 (v0 : Nat) (v1 : Nat) (v2 : Nat) (v3 : Nat) (v4 : Int32) (σ : sS) : Option (sZ Int32) :=
  some (.inl (2927, [.ref v0, .ref v1, .ref v2, .ref v3, .int v4], σ))
noncomputable def U_L_law_834 (vs : List Value) (σ : sS) : Option (sZ Int32) := (g_r vs).bind fun a0 => (g_r a0.2).bind fun a1 => (g_r a1.2).bind fun a2 => (g_r a2.2).bind fun a3 => (g_i a3.2).bind fun a4 => (g_e a4.2).bind fun _ => T_L_law_834 a0.1 a1.1 a2.1 a3.1 a4.1 σ
noncomputable def T_L_law_864 (v0 : Nat) (v1 : Nat) (v2 : Nat) (v3 : Nat) (v4 : Int32) (w0 : Int32) (w1 : Int32) (w2 : Int32) (w3 : Nat) (σ : sS) : Option (sZ Int32) :=
  (F_L_believe w3 w2 w1 w0 v3 σ).bind fun q1 =>
  (s_ai q1.2 v0 (v4 + 1)).bind fun x2 =>
  (s_ai q1.2 v0 (v4 + 2)).bind fun x3 =>
  (s_ai q1.2 v0 (v4 + 3)).bind fun x4 =>
  if x4 = 0 then (some (.inl (897, [.ref v0, .ref v1, .ref v2, .ref v3, .int v4, .int q1.1, .int 0, .int x3, .int x2, .ref v2], q1.2)))
  else (some (.inl (897, [.ref v0, .ref v1, .ref v2, .ref v3, .int v4, .int q1.1, .int 1, .int x3, .int x2, .ref v2], q1.2)))
noncomputable def U_L_law_864 (vs : List Value) (σ : sS) : Option (sZ Int32) := (g_r vs).bind fun a0 => (g_r a0.2).bind fun a1 => (g_r a1.2).bind fun a2 => (g_r a2.2).bind fun a3 => (g_i a3.2).bind fun a4 => (g_i a4.2).bind fun a5 => (g_i a5.2).bind fun a6 => (g_i a6.2).bind fun a7 => (g_r a7.2).bind fun a8 => (g_e a8.2).bind fun _ => T_L_law_864 a0.1 a1.1 a2.1 a3.1 a4.1 a5.1 a6.1 a7.1 a8.1 σ
noncomputable def T_L_law_897 (v0 : Nat) (v1 : Nat) (v2 : Nat) (v3 : Nat) (v4 : Int32) (v5 : Int32) (w0 : Int32) (w1 : Int32) (w2 : Int32) (w3 : Nat) (σ : sS) : Option (sZ Int32) :=
  (F_X8_believe w3 w2 w1 w0 σ).bind fun q1 =>
  (F_X8_thrown v2 q1.2).bind fun q2 =>
  if q2.1 = v5 then (if v5 = 0 then ((s_al q2.2 v3 0).bind fun x3 =>
  if q1.1 = 0 then (some (.inl (931, [.ref v0, .ref v1, .ref v2, .ref v3, .int v4, .long 0, .long x3], q2.2)))
  else (some (.inl (931, [.ref v0, .ref v1, .ref v2, .ref v3, .int v4, .long 1, .long x3], q2.2))))
  else (some (.inl (937, [.ref v0, .ref v1, .ref v2, .ref v3, .int v4], q2.2))))
  else (some (.inr (0, q2.2)))
noncomputable def U_L_law_897 (vs : List Value) (σ : sS) : Option (sZ Int32) := (g_r vs).bind fun a0 => (g_r a0.2).bind fun a1 => (g_r a1.2).bind fun a2 => (g_r a2.2).bind fun a3 => (g_i a3.2).bind fun a4 => (g_i a4.2).bind fun a5 => (g_i a5.2).bind fun a6 => (g_i a6.2).bind fun a7 => (g_i a7.2).bind fun a8 => (g_r a8.2).bind fun a9 => (g_e a9.2).bind fun _ => T_L_law_897 a0.1 a1.1 a2.1 a3.1 a4.1 a5.1 a6.1 a7.1 a8.1 a9.1 σ
noncomputable def T_L_law_931 (v0 : Nat) (v1 : Nat) (v2 : Nat) (v3 : Nat) (v4 : Int32) (w0 : Int64) (w1 : Int64) (σ : sS) : Option (sZ Int32) :=
  if (lg_cmp w1 w0) = 0 then (some (.inl (937, [.ref v0, .ref v1, .ref v2, .ref v3, .int v4], σ)))
  else (some (.inr (0, σ)))
noncomputable def U_L_law_931 (vs : List Value) (σ : sS) : Option (sZ Int32) := (g_r vs).bind fun a0 => (g_r a0.2).bind fun a1 => (g_r a1.2).bind fun a2 => (g_r a2.2).bind fun a3 => (g_i a3.2).bind fun a4 => (g_l a4.2).bind fun a5 => (g_l a5.2).bind fun a6 => (g_e a6.2).bind fun _ => T_L_law_931 a0.1 a1.1 a2.1 a3.1 a4.1 a5.1 a6.1 σ
noncomputable def T_L_law_937 (v0 : Nat) (v1 : Nat) (v2 : Nat) (v3 : Nat) (v4 : Int32) (σ : sS) : Option (sZ Int32) :=
  some (.inl (2927, [.ref v0, .ref v1, .ref v2, .ref v3, .int v4], σ))
noncomputable def U_L_law_937 (vs : List Value) (σ : sS) : Option (sZ Int32) := (g_r vs).bind fun a0 => (g_r a0.2).bind fun a1 => (g_r a1.2).bind fun a2 => (g_r a2.2).bind fun a3 => (g_i a3.2).bind fun a4 => (g_e a4.2).bind fun _ => T_L_law_937 a0.1 a1.1 a2.1 a3.1 a4.1 σ
noncomputable def T_L_law_993 (v0 : Nat) (v1 : Nat) (v2 : Nat) (v3 : Nat) (v4 : Int32) (σ : sS) : Option (sZ Int32) :=
  some (.inl (2927, [.ref v0, .ref v1, .ref v2, .ref v3, .int v4], σ))
noncomputable def U_L_law_993 (vs : List Value) (σ : sS) : Option (sZ Int32) := (g_r vs).bind fun a0 => (g_r a0.2).bind fun a1 => (g_r a1.2).bind fun a2 => (g_r a2.2).bind fun a3 => (g_i a3.2).bind fun a4 => (g_e a4.2).bind fun _ => T_L_law_993 a0.1 a1.1 a2.1 a3.1 a4.1 σ
noncomputable def T_L_law_1111 (v0 : Nat) (v1 : Nat) (v2 : Nat) (v3 : Nat) (v4 : Int32) (σ : sS) : Option (sZ Int32) :=
  some (.inl (2927, [.ref v0, .ref v1, .ref v2, .ref v3, .int v4], σ))
noncomputable def U_L_law_1111 (vs : List Value) (σ : sS) : Option (sZ Int32) := (g_r vs).bind fun a0 => (g_r a0.2).bind fun a1 => (g_r a1.2).bind fun a2 => (g_r a2.2).bind fun a3 => (g_i a3.2).bind fun a4 => (g_e a4.2).bind fun _ => T_L_law_1111 a0.1 a1.1 a2.1 a3.1 a4.1 σ
noncomputable def T_L_law_1179 (v0 : Nat) (v1 : Nat) (v2 : Nat) (v3 : Nat) (v4 : Int32) (σ : sS) : Option (sZ Int32) :=
  some (.inl (2927, [.ref v0, .ref v1, .ref v2, .ref v3, .int v4], σ))
noncomputable def U_L_law_1179 (vs : List Value) (σ : sS) : Option (sZ Int32) := (g_r vs).bind fun a0 => (g_r a0.2).bind fun a1 => (g_r a1.2).bind fun a2 => (g_r a2.2).bind fun a3 => (g_i a3.2).bind fun a4 => (g_e a4.2).bind fun _ => T_L_law_1179 a0.1 a1.1 a2.1 a3.1 a4.1 σ
noncomputable def T_L_law_1248 (v0 : Nat) (v1 : Nat) (v2 : Nat) (v3 : Nat) (v4 : Int32) (w0 : Int64) (w1 : Int64) (σ : sS) : Option (sZ Int32) :=
  if (lg_cmp w1 w0) = 0 then (some (.inl (1254, [.ref v0, .ref v1, .ref v2, .ref v3, .int v4], σ)))
  else (some (.inr (0, σ)))
noncomputable def U_L_law_1248 (vs : List Value) (σ : sS) : Option (sZ Int32) := (g_r vs).bind fun a0 => (g_r a0.2).bind fun a1 => (g_r a1.2).bind fun a2 => (g_r a2.2).bind fun a3 => (g_i a3.2).bind fun a4 => (g_l a4.2).bind fun a5 => (g_l a5.2).bind fun a6 => (g_e a6.2).bind fun _ => T_L_law_1248 a0.1 a1.1 a2.1 a3.1 a4.1 a5.1 a6.1 σ
noncomputable def T_L_law_1254 (v0 : Nat) (v1 : Nat) (v2 : Nat) (v3 : Nat) (v4 : Int32) (σ : sS) : Option (sZ Int32) :=
  some (.inl (2927, [.ref v0, .ref v1, .ref v2, .ref v3, .int v4], σ))
noncomputable def U_L_law_1254 (vs : List Value) (σ : sS) : Option (sZ Int32) := (g_r vs).bind fun a0 => (g_r a0.2).bind fun a1 => (g_r a1.2).bind fun a2 => (g_r a2.2).bind fun a3 => (g_i a3.2).bind fun a4 => (g_e a4.2).bind fun _ => T_L_law_1254 a0.1 a1.1 a2.1 a3.1 a4.1 σ
noncomputable def T_L_law_1322 (v0 : Nat) (v1 : Nat) (v2 : Nat) (v3 : Nat) (v4 : Int32) (σ : sS) : Option (sZ Int32) :=
  some (.inl (2927, [.ref v0, .ref v1, .ref v2, .ref v3, .int v4], σ))
noncomputable def U_L_law_1322 (vs : List Value) (σ : sS) : Option (sZ Int32) := (g_r vs).bind fun a0 => (g_r a0.2).bind fun a1 => (g_r a1.2).bind fun a2 => (g_r a2.2).bind fun a3 => (g_i a3.2).bind fun a4 => (g_e a4.2).bind fun _ => T_L_law_1322 a0.1 a1.1 a2.1 a3.1 a4.1 σ
noncomputable def T_L_law_1377 (v0 : Nat) (v1 : Nat) (v2 : Nat) (v3 : Nat) (v4 : Int32) (σ : sS) : Option (sZ Int32) :=
  some (.inl (2927, [.ref v0, .ref v1, .ref v2, .ref v3, .int v4], σ))
noncomputable def U_L_law_1377 (vs : List Value) (σ : sS) : Option (sZ Int32) := (g_r vs).bind fun a0 => (g_r a0.2).bind fun a1 => (g_r a1.2).bind fun a2 => (g_r a2.2).bind fun a3 => (g_i a3.2).bind fun a4 => (g_e a4.2).bind fun _ => T_L_law_1377 a0.1 a1.1 a2.1 a3.1 a4.1 σ
noncomputable def T_L_law_1433 (v0 : Nat) (v1 : Nat) (v2 : Nat) (v3 : Nat) (v4 : Int32) (σ : sS) : Option (sZ Int32) :=
  some (.inl (2927, [.ref v0, .ref v1, .ref v2, .ref v3, .int v4], σ))
noncomputable def U_L_law_1433 (vs : List Value) (σ : sS) : Option (sZ Int32) := (g_r vs).bind fun a0 => (g_r a0.2).bind fun a1 => (g_r a1.2).bind fun a2 => (g_r a2.2).bind fun a3 => (g_i a3.2).bind fun a4 => (g_e a4.2).bind fun _ => T_L_law_1433 a0.1 a1.1 a2.1 a3.1 a4.1 σ
noncomputable def T_L_law_1500 (v0 : Nat) (v1 : Nat) (v2 : Nat) (v3 : Nat) (v4 : Int32) (σ : sS) : Option (sZ Int32) :=
  some (.inl (2927, [.ref v0, .ref v1, .ref v2, .ref v3, .int v4], σ))
noncomputable def U_L_law_1500 (vs : List Value) (σ : sS) : Option (sZ Int32) := (g_r vs).bind fun a0 => (g_r a0.2).bind fun a1 => (g_r a1.2).bind fun a2 => (g_r a2.2).bind fun a3 => (g_i a3.2).bind fun a4 => (g_e a4.2).bind fun _ => T_L_law_1500 a0.1 a1.1 a2.1 a3.1 a4.1 σ
noncomputable def T_L_law_1569 (v0 : Nat) (v1 : Nat) (v2 : Nat) (v3 : Nat) (v4 : Int32) (w0 : Int64) (w1 : Int64) (σ : sS) : Option (sZ Int32) :=
  if (lg_cmp w1 w0) = 0 then (some (.inl (1575, [.ref v0, .ref v1, .ref v2, .ref v3, .int v4], σ)))
  else (some (.inr (0, σ)))
noncomputable def U_L_law_1569 (vs : List Value) (σ : sS) : Option (sZ Int32) := (g_r vs).bind fun a0 => (g_r a0.2).bind fun a1 => (g_r a1.2).bind fun a2 => (g_r a2.2).bind fun a3 => (g_i a3.2).bind fun a4 => (g_l a4.2).bind fun a5 => (g_l a5.2).bind fun a6 => (g_e a6.2).bind fun _ => T_L_law_1569 a0.1 a1.1 a2.1 a3.1 a4.1 a5.1 a6.1 σ
noncomputable def T_L_law_1575 (v0 : Nat) (v1 : Nat) (v2 : Nat) (v3 : Nat) (v4 : Int32) (σ : sS) : Option (sZ Int32) :=
  some (.inl (2927, [.ref v0, .ref v1, .ref v2, .ref v3, .int v4], σ))
noncomputable def U_L_law_1575 (vs : List Value) (σ : sS) : Option (sZ Int32) := (g_r vs).bind fun a0 => (g_r a0.2).bind fun a1 => (g_r a1.2).bind fun a2 => (g_r a2.2).bind fun a3 => (g_i a3.2).bind fun a4 => (g_e a4.2).bind fun _ => T_L_law_1575 a0.1 a1.1 a2.1 a3.1 a4.1 σ
noncomputable def T_L_law_1643 (v0 : Nat) (v1 : Nat) (v2 : Nat) (v3 : Nat) (v4 : Int32) (σ : sS) : Option (sZ Int32) :=
  some (.inl (2927, [.ref v0, .ref v1, .ref v2, .ref v3, .int v4], σ))
noncomputable def U_L_law_1643 (vs : List Value) (σ : sS) : Option (sZ Int32) := (g_r vs).bind fun a0 => (g_r a0.2).bind fun a1 => (g_r a1.2).bind fun a2 => (g_r a2.2).bind fun a3 => (g_i a3.2).bind fun a4 => (g_e a4.2).bind fun _ => T_L_law_1643 a0.1 a1.1 a2.1 a3.1 a4.1 σ
noncomputable def T_L_law_1723 (v0 : Nat) (v1 : Nat) (v2 : Nat) (v3 : Nat) (v4 : Int32) (σ : sS) : Option (sZ Int32) :=
  some (.inl (2927, [.ref v0, .ref v1, .ref v2, .ref v3, .int v4], σ))
noncomputable def U_L_law_1723 (vs : List Value) (σ : sS) : Option (sZ Int32) := (g_r vs).bind fun a0 => (g_r a0.2).bind fun a1 => (g_r a1.2).bind fun a2 => (g_r a2.2).bind fun a3 => (g_i a3.2).bind fun a4 => (g_e a4.2).bind fun _ => T_L_law_1723 a0.1 a1.1 a2.1 a3.1 a4.1 σ
noncomputable def T_L_law_1803 (v0 : Nat) (v1 : Nat) (v2 : Nat) (v3 : Nat) (v4 : Int32) (σ : sS) : Option (sZ Int32) :=
  some (.inl (2927, [.ref v0, .ref v1, .ref v2, .ref v3, .int v4], σ))
noncomputable def U_L_law_1803 (vs : List Value) (σ : sS) : Option (sZ Int32) := (g_r vs).bind fun a0 => (g_r a0.2).bind fun a1 => (g_r a1.2).bind fun a2 => (g_r a2.2).bind fun a3 => (g_i a3.2).bind fun a4 => (g_e a4.2).bind fun _ => T_L_law_1803 a0.1 a1.1 a2.1 a3.1 a4.1 σ
noncomputable def T_L_law_1871 (v0 : Nat) (v1 : Nat) (v2 : Nat) (v3 : Nat) (v4 : Int32) (σ : sS) : Option (sZ Int32) :=
  some (.inl (2927, [.ref v0, .ref v1, .ref v2, .ref v3, .int v4], σ))
noncomputable def U_L_law_1871 (vs : List Value) (σ : sS) : Option (sZ Int32) := (g_r vs).bind fun a0 => (g_r a0.2).bind fun a1 => (g_r a1.2).bind fun a2 => (g_r a2.2).bind fun a3 => (g_i a3.2).bind fun a4 => (g_e a4.2).bind fun _ => T_L_law_1871 a0.1 a1.1 a2.1 a3.1 a4.1 σ
noncomputable def T_L_law_1951 (v0 : Nat) (v1 : Nat) (v2 : Nat) (v3 : Nat) (v4 : Int32) (σ : sS) : Option (sZ Int32) :=
  some (.inl (2927, [.ref v0, .ref v1, .ref v2, .ref v3, .int v4], σ))
noncomputable def U_L_law_1951 (vs : List Value) (σ : sS) : Option (sZ Int32) := (g_r vs).bind fun a0 => (g_r a0.2).bind fun a1 => (g_r a1.2).bind fun a2 => (g_r a2.2).bind fun a3 => (g_i a3.2).bind fun a4 => (g_e a4.2).bind fun _ => T_L_law_1951 a0.1 a1.1 a2.1 a3.1 a4.1 σ
noncomputable def T_L_law_2031 (v0 : Nat) (v1 : Nat) (v2 : Nat) (v3 : Nat) (v4 : Int32) (σ : sS) : Option (sZ Int32) :=
  some (.inl (2927, [.ref v0, .ref v1, .ref v2, .ref v3, .int v4], σ))
noncomputable def U_L_law_2031 (vs : List Value) (σ : sS) : Option (sZ Int32) := (g_r vs).bind fun a0 => (g_r a0.2).bind fun a1 => (g_r a1.2).bind fun a2 => (g_r a2.2).bind fun a3 => (g_i a3.2).bind fun a4 => (g_e a4.2).bind fun _ => T_L_law_2031 a0.1 a1.1 a2.1 a3.1 a4.1 σ
noncomputable def T_L_law_2087 (v0 : Nat) (v1 : Nat) (v2 : Nat) (v3 : Nat) (v4 : Int32) (σ : sS) : Option (sZ Int32) :=
  some (.inl (2927, [.ref v0, .ref v1, .ref v2, .ref v3, .int v4], σ))
noncomputable def U_L_law_2087 (vs : List Value) (σ : sS) : Option (sZ Int32) := (g_r vs).bind fun a0 => (g_r a0.2).bind fun a1 => (g_r a1.2).bind fun a2 => (g_r a2.2).bind fun a3 => (g_i a3.2).bind fun a4 => (g_e a4.2).bind fun _ => T_L_law_2087 a0.1 a1.1 a2.1 a3.1 a4.1 σ
noncomputable def T_L_law_2155 (v0 : Nat) (v1 : Nat) (v2 : Nat) (v3 : Nat) (v4 : Int32) (σ : sS) : Option (sZ Int32) :=
  some (.inl (2927, [.ref v0, .ref v1, .ref v2, .ref v3, .int v4], σ))
noncomputable def U_L_law_2155 (vs : List Value) (σ : sS) : Option (sZ Int32) := (g_r vs).bind fun a0 => (g_r a0.2).bind fun a1 => (g_r a1.2).bind fun a2 => (g_r a2.2).bind fun a3 => (g_i a3.2).bind fun a4 => (g_e a4.2).bind fun _ => T_L_law_2155 a0.1 a1.1 a2.1 a3.1 a4.1 σ
noncomputable def T_L_law_2211 (v0 : Nat) (v1 : Nat) (v2 : Nat) (v3 : Nat) (v4 : Int32) (σ : sS) : Option (sZ Int32) :=
  some (.inl (2927, [.ref v0, .ref v1, .ref v2, .ref v3, .int v4], σ))
noncomputable def U_L_law_2211 (vs : List Value) (σ : sS) : Option (sZ Int32) := (g_r vs).bind fun a0 => (g_r a0.2).bind fun a1 => (g_r a1.2).bind fun a2 => (g_r a2.2).bind fun a3 => (g_i a3.2).bind fun a4 => (g_e a4.2).bind fun _ => T_L_law_2211 a0.1 a1.1 a2.1 a3.1 a4.1 σ
noncomputable def T_L_law_2267 (v0 : Nat) (v1 : Nat) (v2 : Nat) (v3 : Nat) (v4 : Int32) (σ : sS) : Option (sZ Int32) :=
  some (.inl (2927, [.ref v0, .ref v1, .ref v2, .ref v3, .int v4], σ))
noncomputable def U_L_law_2267 (vs : List Value) (σ : sS) : Option (sZ Int32) := (g_r vs).bind fun a0 => (g_r a0.2).bind fun a1 => (g_r a1.2).bind fun a2 => (g_r a2.2).bind fun a3 => (g_i a3.2).bind fun a4 => (g_e a4.2).bind fun _ => T_L_law_2267 a0.1 a1.1 a2.1 a3.1 a4.1 σ
noncomputable def T_L_law_2323 (v0 : Nat) (v1 : Nat) (v2 : Nat) (v3 : Nat) (v4 : Int32) (σ : sS) : Option (sZ Int32) :=
  some (.inl (2927, [.ref v0, .ref v1, .ref v2, .ref v3, .int v4], σ))
noncomputable def U_L_law_2323 (vs : List Value) (σ : sS) : Option (sZ Int32) := (g_r vs).bind fun a0 => (g_r a0.2).bind fun a1 => (g_r a1.2).bind fun a2 => (g_r a2.2).bind fun a3 => (g_i a3.2).bind fun a4 => (g_e a4.2).bind fun _ => T_L_law_2323 a0.1 a1.1 a2.1 a3.1 a4.1 σ
noncomputable def T_L_law_2379 (v0 : Nat) (v1 : Nat) (v2 : Nat) (v3 : Nat) (v4 : Int32) (σ : sS) : Option (sZ Int32) :=
  some (.inl (2927, [.ref v0, .ref v1, .ref v2, .ref v3, .int v4], σ))
noncomputable def U_L_law_2379 (vs : List Value) (σ : sS) : Option (sZ Int32) := (g_r vs).bind fun a0 => (g_r a0.2).bind fun a1 => (g_r a1.2).bind fun a2 => (g_r a2.2).bind fun a3 => (g_i a3.2).bind fun a4 => (g_e a4.2).bind fun _ => T_L_law_2379 a0.1 a1.1 a2.1 a3.1 a4.1 σ
noncomputable def T_L_law_2447 (v0 : Nat) (v1 : Nat) (v2 : Nat) (v3 : Nat) (v4 : Int32) (σ : sS) : Option (sZ Int32) :=
  some (.inl (2927, [.ref v0, .ref v1, .ref v2, .ref v3, .int v4], σ))
noncomputable def U_L_law_2447 (vs : List Value) (σ : sS) : Option (sZ Int32) := (g_r vs).bind fun a0 => (g_r a0.2).bind fun a1 => (g_r a1.2).bind fun a2 => (g_r a2.2).bind fun a3 => (g_i a3.2).bind fun a4 => (g_e a4.2).bind fun _ => T_L_law_2447 a0.1 a1.1 a2.1 a3.1 a4.1 σ
noncomputable def T_L_law_2515 (v0 : Nat) (v1 : Nat) (v2 : Nat) (v3 : Nat) (v4 : Int32) (σ : sS) : Option (sZ Int32) :=
  some (.inl (2927, [.ref v0, .ref v1, .ref v2, .ref v3, .int v4], σ))
noncomputable def U_L_law_2515 (vs : List Value) (σ : sS) : Option (sZ Int32) := (g_r vs).bind fun a0 => (g_r a0.2).bind fun a1 => (g_r a1.2).bind fun a2 => (g_r a2.2).bind fun a3 => (g_i a3.2).bind fun a4 => (g_e a4.2).bind fun _ => T_L_law_2515 a0.1 a1.1 a2.1 a3.1 a4.1 σ
noncomputable def T_L_law_2607 (v0 : Nat) (v1 : Nat) (v2 : Nat) (v3 : Nat) (v4 : Int32) (σ : sS) : Option (sZ Int32) :=
  some (.inl (2927, [.ref v0, .ref v1, .ref v2, .ref v3, .int v4], σ))
noncomputable def U_L_law_2607 (vs : List Value) (σ : sS) : Option (sZ Int32) := (g_r vs).bind fun a0 => (g_r a0.2).bind fun a1 => (g_r a1.2).bind fun a2 => (g_r a2.2).bind fun a3 => (g_i a3.2).bind fun a4 => (g_e a4.2).bind fun _ => T_L_law_2607 a0.1 a1.1 a2.1 a3.1 a4.1 σ
noncomputable def T_L_law_2664 (v0 : Nat) (v1 : Nat) (v2 : Nat) (v3 : Nat) (v4 : Int32) (w0 : Int64) (w1 : Int64) (σ : sS) : Option (sZ Int32) :=
  if (lg_cmp w1 w0) = 0 then (some (.inl (2670, [.ref v0, .ref v1, .ref v2, .ref v3, .int v4], σ)))
  else (some (.inr (0, σ)))
noncomputable def U_L_law_2664 (vs : List Value) (σ : sS) : Option (sZ Int32) := (g_r vs).bind fun a0 => (g_r a0.2).bind fun a1 => (g_r a1.2).bind fun a2 => (g_r a2.2).bind fun a3 => (g_i a3.2).bind fun a4 => (g_l a4.2).bind fun a5 => (g_l a5.2).bind fun a6 => (g_e a6.2).bind fun _ => T_L_law_2664 a0.1 a1.1 a2.1 a3.1 a4.1 a5.1 a6.1 σ
noncomputable def T_L_law_2670 (v0 : Nat) (v1 : Nat) (v2 : Nat) (v3 : Nat) (v4 : Int32) (σ : sS) : Option (sZ Int32) :=
  some (.inl (2927, [.ref v0, .ref v1, .ref v2, .ref v3, .int v4], σ))
noncomputable def U_L_law_2670 (vs : List Value) (σ : sS) : Option (sZ Int32) := (g_r vs).bind fun a0 => (g_r a0.2).bind fun a1 => (g_r a1.2).bind fun a2 => (g_r a2.2).bind fun a3 => (g_i a3.2).bind fun a4 => (g_e a4.2).bind fun _ => T_L_law_2670 a0.1 a1.1 a2.1 a3.1 a4.1 σ
noncomputable def T_L_law_2750 (v0 : Nat) (v1 : Nat) (v2 : Nat) (v3 : Nat) (v4 : Int32) (σ : sS) : Option (sZ Int32) :=
  some (.inl (2927, [.ref v0, .ref v1, .ref v2, .ref v3, .int v4], σ))
noncomputable def U_L_law_2750 (vs : List Value) (σ : sS) : Option (sZ Int32) := (g_r vs).bind fun a0 => (g_r a0.2).bind fun a1 => (g_r a1.2).bind fun a2 => (g_r a2.2).bind fun a3 => (g_i a3.2).bind fun a4 => (g_e a4.2).bind fun _ => T_L_law_2750 a0.1 a1.1 a2.1 a3.1 a4.1 σ
noncomputable def T_L_law_2806 (v0 : Nat) (v1 : Nat) (v2 : Nat) (v3 : Nat) (v4 : Int32) (σ : sS) : Option (sZ Int32) :=
  some (.inl (2927, [.ref v0, .ref v1, .ref v2, .ref v3, .int v4], σ))
noncomputable def U_L_law_2806 (vs : List Value) (σ : sS) : Option (sZ Int32) := (g_r vs).bind fun a0 => (g_r a0.2).bind fun a1 => (g_r a1.2).bind fun a2 => (g_r a2.2).bind fun a3 => (g_i a3.2).bind fun a4 => (g_e a4.2).bind fun _ => T_L_law_2806 a0.1 a1.1 a2.1 a3.1 a4.1 σ
noncomputable def T_L_law_2875 (v0 : Nat) (v1 : Nat) (v2 : Nat) (v3 : Nat) (v4 : Int32) (σ : sS) : Option (sZ Int32) :=
  some (.inl (2927, [.ref v0, .ref v1, .ref v2, .ref v3, .int v4], σ))
noncomputable def U_L_law_2875 (vs : List Value) (σ : sS) : Option (sZ Int32) := (g_r vs).bind fun a0 => (g_r a0.2).bind fun a1 => (g_r a1.2).bind fun a2 => (g_r a2.2).bind fun a3 => (g_i a3.2).bind fun a4 => (g_e a4.2).bind fun _ => T_L_law_2875 a0.1 a1.1 a2.1 a3.1 a4.1 σ
noncomputable def T_L_law_2927 (v0 : Nat) (v1 : Nat) (v2 : Nat) (v3 : Nat) (v4 : Int32) (σ : sS) : Option (sZ Int32) :=
  some (.inl (23, [.ref v0, .ref v1, .ref v2, .ref v3, .int (v4 + 7)], σ))
noncomputable def U_L_law_2927 (vs : List Value) (σ : sS) : Option (sZ Int32) := (g_r vs).bind fun a0 => (g_r a0.2).bind fun a1 => (g_r a1.2).bind fun a2 => (g_r a2.2).bind fun a3 => (g_i a3.2).bind fun a4 => (g_e a4.2).bind fun _ => T_L_law_2927 a0.1 a1.1 a2.1 a3.1 a4.1 σ
noncomputable def S_L_law (x : sL) : Option (sZ Int32) := if x.1 = 0 then U_L_law_0 x.2.1 x.2.2 else if x.1 = 23 then U_L_law_23 x.2.1 x.2.2 else if x.1 = 375 then U_L_law_375 x.2.1 x.2.2 else if x.1 = 480 then U_L_law_480 x.2.1 x.2.2 else if x.1 = 549 then U_L_law_549 x.2.1 x.2.2 else if x.1 = 555 then U_L_law_555 x.2.1 x.2.2 else if x.1 = 624 then U_L_law_624 x.2.1 x.2.2 else if x.1 = 630 then U_L_law_630 x.2.1 x.2.2 else if x.1 = 686 then U_L_law_686 x.2.1 x.2.2 else if x.1 = 754 then U_L_law_754 x.2.1 x.2.2 else if x.1 = 834 then U_L_law_834 x.2.1 x.2.2 else if x.1 = 864 then U_L_law_864 x.2.1 x.2.2 else if x.1 = 897 then U_L_law_897 x.2.1 x.2.2 else if x.1 = 931 then U_L_law_931 x.2.1 x.2.2 else if x.1 = 937 then U_L_law_937 x.2.1 x.2.2 else if x.1 = 993 then U_L_law_993 x.2.1 x.2.2 else if x.1 = 1111 then U_L_law_1111 x.2.1 x.2.2 else if x.1 = 1179 then U_L_law_1179 x.2.1 x.2.2 else if x.1 = 1248 then U_L_law_1248 x.2.1 x.2.2 else if x.1 = 1254 then U_L_law_1254 x.2.1 x.2.2 else if x.1 = 1322 then U_L_law_1322 x.2.1 x.2.2 else if x.1 = 1377 then U_L_law_1377 x.2.1 x.2.2 else if x.1 = 1433 then U_L_law_1433 x.2.1 x.2.2 else if x.1 = 1500 then U_L_law_1500 x.2.1 x.2.2 else if x.1 = 1569 then U_L_law_1569 x.2.1 x.2.2 else if x.1 = 1575 then U_L_law_1575 x.2.1 x.2.2 else if x.1 = 1643 then U_L_law_1643 x.2.1 x.2.2 else if x.1 = 1723 then U_L_law_1723 x.2.1 x.2.2 else if x.1 = 1803 then U_L_law_1803 x.2.1 x.2.2 else if x.1 = 1871 then U_L_law_1871 x.2.1 x.2.2 else if x.1 = 1951 then U_L_law_1951 x.2.1 x.2.2 else if x.1 = 2031 then U_L_law_2031 x.2.1 x.2.2 else if x.1 = 2087 then U_L_law_2087 x.2.1 x.2.2 else if x.1 = 2155 then U_L_law_2155 x.2.1 x.2.2 else if x.1 = 2211 then U_L_law_2211 x.2.1 x.2.2 else if x.1 = 2267 then U_L_law_2267 x.2.1 x.2.2 else if x.1 = 2323 then U_L_law_2323 x.2.1 x.2.2 else if x.1 = 2379 then U_L_law_2379 x.2.1 x.2.2 else if x.1 = 2447 then U_L_law_2447 x.2.1 x.2.2 else if x.1 = 2515 then U_L_law_2515 x.2.1 x.2.2 else if x.1 = 2607 then U_L_law_2607 x.2.1 x.2.2 else if x.1 = 2664 then U_L_law_2664 x.2.1 x.2.2 else if x.1 = 2670 then U_L_law_2670 x.2.1 x.2.2 else if x.1 = 2750 then U_L_law_2750 x.2.1 x.2.2 else if x.1 = 2806 then U_L_law_2806 x.2.1 x.2.2 else if x.1 = 2875 then U_L_law_2875 x.2.1 x.2.2 else if x.1 = 2927 then U_L_law_2927 x.2.1 x.2.2 else none
def Y_L_law (pc : Nat) : List Nat := if pc = 0 then [0, 1] else if pc = 23 then [0, 1, 2, 3, 4] else if pc = 375 then [0, 1, 2, 3, 4] else if pc = 480 then [0, 1, 2, 3, 4] else if pc = 549 then [0, 1, 2, 3, 4] else if pc = 555 then [0, 1, 2, 3, 4] else if pc = 624 then [0, 1, 2, 3, 4] else if pc = 630 then [0, 1, 2, 3, 4] else if pc = 686 then [0, 1, 2, 3, 4] else if pc = 754 then [0, 1, 2, 3, 4] else if pc = 834 then [0, 1, 2, 3, 4] else if pc = 864 then [0, 1, 2, 3, 4] else if pc = 897 then [0, 1, 2, 3, 4, 5] else if pc = 931 then [0, 1, 2, 3, 4] else if pc = 937 then [0, 1, 2, 3, 4] else if pc = 993 then [0, 1, 2, 3, 4] else if pc = 1111 then [0, 1, 2, 3, 4] else if pc = 1179 then [0, 1, 2, 3, 4] else if pc = 1248 then [0, 1, 2, 3, 4] else if pc = 1254 then [0, 1, 2, 3, 4] else if pc = 1322 then [0, 1, 2, 3, 4] else if pc = 1377 then [0, 1, 2, 3, 4] else if pc = 1433 then [0, 1, 2, 3, 4] else if pc = 1500 then [0, 1, 2, 3, 4] else if pc = 1569 then [0, 1, 2, 3, 4] else if pc = 1575 then [0, 1, 2, 3, 4] else if pc = 1643 then [0, 1, 2, 3, 4] else if pc = 1723 then [0, 1, 2, 3, 4] else if pc = 1803 then [0, 1, 2, 3, 4] else if pc = 1871 then [0, 1, 2, 3, 4] else if pc = 1951 then [0, 1, 2, 3, 4] else if pc = 2031 then [0, 1, 2, 3, 4] else if pc = 2087 then [0, 1, 2, 3, 4] else if pc = 2155 then [0, 1, 2, 3, 4] else if pc = 2211 then [0, 1, 2, 3, 4] else if pc = 2267 then [0, 1, 2, 3, 4] else if pc = 2323 then [0, 1, 2, 3, 4] else if pc = 2379 then [0, 1, 2, 3, 4] else if pc = 2447 then [0, 1, 2, 3, 4] else if pc = 2515 then [0, 1, 2, 3, 4] else if pc = 2607 then [0, 1, 2, 3, 4] else if pc = 2664 then [0, 1, 2, 3, 4] else if pc = 2670 then [0, 1, 2, 3, 4] else if pc = 2750 then [0, 1, 2, 3, 4] else if pc = 2806 then [0, 1, 2, 3, 4] else if pc = 2875 then [0, 1, 2, 3, 4] else if pc = 2927 then [0, 1, 2, 3, 4] else []
noncomputable def F_L_law (v0 : Nat) (v1 : Nat) (σ : sS) : Option (Int32 × sS) := (s_is σ v0 100).bind fun _ => s_run S_L_law (0, [.ref v0, .ref v1], σ)
theorem l_L_law_0 {v0 : Nat} {v1 : Nat} {σ : sS} {z : sZ Int32} (hf : T_L_law_0 v0 v1 σ = some z) : s_lz σ z := by
  unfold T_L_law_0 at hf
  obtain ⟨σ1, hh, hf⟩ := s_bind hf
  refine s_lz.tr (s_nws hh) ?_
  obtain ⟨q2, hh, hf⟩ := s_bind hf
  refine s_lz.tr (l_X7_init hh) ?_
  obtain ⟨σ3, hh, hf⟩ := s_bind hf
  refine s_lz.tr (s_nws hh) ?_
  obtain ⟨q4, hh, hf⟩ := s_bind hf
  refine s_lz.tr (l_X8_init hh) ?_
  obtain ⟨σ5, hh, hf⟩ := s_bind hf
  refine s_lz.tr (s_na_le hh) ?_
  cases hf
  exact s_le.rf
theorem l_L_law_23 {v0 : Nat} {v1 : Nat} {v2 : Nat} {v3 : Nat} {v4 : Int32} {σ : sS} {z : sZ Int32} (hf : T_L_law_23 v0 v1 v2 v3 v4 σ = some z) : s_lz σ z := by
  unfold T_L_law_23 at hf
  obtain ⟨x1, -, hf⟩ := s_bind hf
  rcases s_ite hf with ⟨-, hf⟩ | ⟨-, hf⟩
  · cases hf
    exact s_le.rf
  · obtain ⟨x2, -, hf⟩ := s_bind hf
    rcases s_ite hf with ⟨-, hf⟩ | ⟨-, hf⟩
    · obtain ⟨x3, -, hf⟩ := s_bind hf
      obtain ⟨x4, -, hf⟩ := s_bind hf
      obtain ⟨x5, -, hf⟩ := s_bind hf
      obtain ⟨x6, -, hf⟩ := s_bind hf
      obtain ⟨x7, -, hf⟩ := s_bind hf
      obtain ⟨q8, hh, hf⟩ := s_bind hf
      refine s_lz.tr (l_X7_feed hh) ?_
      obtain ⟨x9, -, hf⟩ := s_bind hf
      obtain ⟨x10, -, hf⟩ := s_bind hf
      obtain ⟨x11, -, hf⟩ := s_bind hf
      obtain ⟨x12, -, hf⟩ := s_bind hf
      obtain ⟨x13, -, hf⟩ := s_bind hf
      obtain ⟨q14, hh, hf⟩ := s_bind hf
      refine s_lz.tr (l_X8_feed hh) ?_
      rcases s_ite hf with ⟨-, hf⟩ | ⟨-, hf⟩
      · cases hf
        exact s_le.rf
      · cases hf
        exact s_le.rf
    rcases s_ite hf with ⟨-, hf⟩ | ⟨-, hf⟩
    · obtain ⟨x15, -, hf⟩ := s_bind hf
      obtain ⟨q16, hh, hf⟩ := s_bind hf
      refine s_lz.tr (l_X7_end hh) ?_
      obtain ⟨x17, -, hf⟩ := s_bind hf
      obtain ⟨q18, hh, hf⟩ := s_bind hf
      refine s_lz.tr (l_X8_end hh) ?_
      rcases s_ite hf with ⟨-, hf⟩ | ⟨-, hf⟩
      · cases hf
        exact s_le.rf
      · cases hf
        exact s_le.rf
    rcases s_ite hf with ⟨-, hf⟩ | ⟨-, hf⟩
    · obtain ⟨q19, hh, hf⟩ := s_bind hf
      refine s_lz.tr (l_L_formula hh) ?_
      obtain ⟨q20, hh, hf⟩ := s_bind hf
      refine s_lz.tr (l_X8_formula hh) ?_
      obtain ⟨q21, hh, hf⟩ := s_bind hf
      refine s_lz.tr (l_X8_thrown hh) ?_
      rcases s_ite hf with ⟨-, hf⟩ | ⟨-, hf⟩
      · rcases s_ite hf with ⟨-, hf⟩ | ⟨-, hf⟩
        · obtain ⟨x22, -, hf⟩ := s_bind hf
          rcases s_ite hf with ⟨-, hf⟩ | ⟨-, hf⟩
          · cases hf
            exact s_le.rf
          · cases hf
            exact s_le.rf
        · cases hf
          exact s_le.rf
      · cases hf
        exact s_le.rf
    rcases s_ite hf with ⟨-, hf⟩ | ⟨-, hf⟩
    · obtain ⟨q23, hh, hf⟩ := s_bind hf
      refine s_lz.tr (l_X7_fault hh) ?_
      obtain ⟨q24, hh, hf⟩ := s_bind hf
      refine s_lz.tr (l_X8_fault hh) ?_
      rcases s_ite hf with ⟨-, hf⟩ | ⟨-, hf⟩
      · cases hf
        exact s_le.rf
      · cases hf
        exact s_le.rf
    rcases s_ite hf with ⟨-, hf⟩ | ⟨-, hf⟩
    · obtain ⟨x25, -, hf⟩ := s_bind hf
      obtain ⟨q26, hh, hf⟩ := s_bind hf
      refine s_lz.tr (l_L_things hh) ?_
      obtain ⟨x27, -, hf⟩ := s_bind hf
      obtain ⟨q28, hh, hf⟩ := s_bind hf
      refine s_lz.tr (l_X8_things hh) ?_
      obtain ⟨q29, hh, hf⟩ := s_bind hf
      refine s_lz.tr (l_X8_thrown hh) ?_
      rcases s_ite hf with ⟨-, hf⟩ | ⟨-, hf⟩
      · cases hf
        exact s_le.rf
      · cases hf
        exact s_le.rf
    rcases s_ite hf with ⟨-, hf⟩ | ⟨-, hf⟩
    · obtain ⟨x30, -, hf⟩ := s_bind hf
      obtain ⟨q31, hh, hf⟩ := s_bind hf
      refine s_lz.tr (l_L_signs hh) ?_
      obtain ⟨x32, -, hf⟩ := s_bind hf
      obtain ⟨q33, hh, hf⟩ := s_bind hf
      refine s_lz.tr (l_X8_signs hh) ?_
      obtain ⟨q34, hh, hf⟩ := s_bind hf
      refine s_lz.tr (l_X8_thrown hh) ?_
      rcases s_ite hf with ⟨-, hf⟩ | ⟨-, hf⟩
      · rcases s_ite hf with ⟨-, hf⟩ | ⟨-, hf⟩
        · obtain ⟨x35, -, hf⟩ := s_bind hf
          rcases s_ite hf with ⟨-, hf⟩ | ⟨-, hf⟩
          · cases hf
            exact s_le.rf
          · cases hf
            exact s_le.rf
        · cases hf
          exact s_le.rf
      · cases hf
        exact s_le.rf
    rcases s_ite hf with ⟨-, hf⟩ | ⟨-, hf⟩
    · obtain ⟨x36, -, hf⟩ := s_bind hf
      obtain ⟨x37, -, hf⟩ := s_bind hf
      obtain ⟨q38, hh, hf⟩ := s_bind hf
      refine s_lz.tr (l_L_same hh) ?_
      obtain ⟨x39, -, hf⟩ := s_bind hf
      obtain ⟨x40, -, hf⟩ := s_bind hf
      obtain ⟨q41, hh, hf⟩ := s_bind hf
      refine s_lz.tr (l_X8_same hh) ?_
      obtain ⟨q42, hh, hf⟩ := s_bind hf
      refine s_lz.tr (l_X8_thrown hh) ?_
      rcases s_ite hf with ⟨-, hf⟩ | ⟨-, hf⟩
      · rcases s_ite hf with ⟨-, hf⟩ | ⟨-, hf⟩
        · obtain ⟨x43, -, hf⟩ := s_bind hf
          rcases s_ite hf with ⟨-, hf⟩ | ⟨-, hf⟩
          · cases hf
            exact s_le.rf
          · cases hf
            exact s_le.rf
        · cases hf
          exact s_le.rf
      · cases hf
        exact s_le.rf
    rcases s_ite hf with ⟨-, hf⟩ | ⟨-, hf⟩
    · obtain ⟨x44, -, hf⟩ := s_bind hf
      obtain ⟨x45, -, hf⟩ := s_bind hf
      obtain ⟨q46, hh, hf⟩ := s_bind hf
      refine s_lz.tr (l_L_holds hh) ?_
      obtain ⟨x47, -, hf⟩ := s_bind hf
      obtain ⟨x48, -, hf⟩ := s_bind hf
      obtain ⟨q49, hh, hf⟩ := s_bind hf
      refine s_lz.tr (l_X8_holds hh) ?_
      obtain ⟨q50, hh, hf⟩ := s_bind hf
      refine s_lz.tr (l_X8_thrown hh) ?_
      rcases s_ite hf with ⟨-, hf⟩ | ⟨-, hf⟩
      · rcases s_ite hf with ⟨-, hf⟩ | ⟨-, hf⟩
        · obtain ⟨x51, -, hf⟩ := s_bind hf
          rcases s_ite hf with ⟨-, hf⟩ | ⟨-, hf⟩
          · cases hf
            exact s_le.rf
          · cases hf
            exact s_le.rf
        · cases hf
          exact s_le.rf
      · cases hf
        exact s_le.rf
    rcases s_ite hf with ⟨-, hf⟩ | ⟨-, hf⟩
    · obtain ⟨x52, -, hf⟩ := s_bind hf
      obtain ⟨q53, hh, hf⟩ := s_bind hf
      refine s_lz.tr (l_L_worlds hh) ?_
      obtain ⟨x54, -, hf⟩ := s_bind hf
      obtain ⟨q55, hh, hf⟩ := s_bind hf
      refine s_lz.tr (l_X8_worlds hh) ?_
      obtain ⟨q56, hh, hf⟩ := s_bind hf
      refine s_lz.tr (l_X8_thrown hh) ?_
      rcases s_ite hf with ⟨-, hf⟩ | ⟨-, hf⟩
      · rcases s_ite hf with ⟨-, hf⟩ | ⟨-, hf⟩
        · obtain ⟨x57, -, hf⟩ := s_bind hf
          rcases s_ite hf with ⟨-, hf⟩ | ⟨-, hf⟩
          · cases hf
            exact s_le.rf
          · cases hf
            exact s_le.rf
        · cases hf
          exact s_le.rf
      · cases hf
        exact s_le.rf
    rcases s_ite hf with ⟨-, hf⟩ | ⟨-, hf⟩
    · obtain ⟨x58, -, hf⟩ := s_bind hf
      obtain ⟨x59, -, hf⟩ := s_bind hf
      obtain ⟨q60, hh, hf⟩ := s_bind hf
      refine s_lz.tr (l_L_rules hh) ?_
      obtain ⟨x61, -, hf⟩ := s_bind hf
      obtain ⟨x62, -, hf⟩ := s_bind hf
      obtain ⟨q63, hh, hf⟩ := s_bind hf
      refine s_lz.tr (l_X8_rules hh) ?_
      obtain ⟨q64, hh, hf⟩ := s_bind hf
      refine s_lz.tr (l_X8_thrown hh) ?_
      rcases s_ite hf with ⟨-, hf⟩ | ⟨-, hf⟩
      · rcases s_ite hf with ⟨-, hf⟩ | ⟨-, hf⟩
        · obtain ⟨x65, -, hf⟩ := s_bind hf
          rcases s_ite hf with ⟨-, hf⟩ | ⟨-, hf⟩
          · cases hf
            exact s_le.rf
          · cases hf
            exact s_le.rf
        · cases hf
          exact s_le.rf
      · cases hf
        exact s_le.rf
    rcases s_ite hf with ⟨-, hf⟩ | ⟨-, hf⟩
    · obtain ⟨x66, -, hf⟩ := s_bind hf
      obtain ⟨x67, -, hf⟩ := s_bind hf
      obtain ⟨x68, -, hf⟩ := s_bind hf
      obtain ⟨q69, hh, hf⟩ := s_bind hf
      refine s_lz.tr (l_L_price hh) ?_
      obtain ⟨x70, -, hf⟩ := s_bind hf
      obtain ⟨x71, -, hf⟩ := s_bind hf
      obtain ⟨x72, -, hf⟩ := s_bind hf
      obtain ⟨q73, hh, hf⟩ := s_bind hf
      refine s_lz.tr (l_X8_price hh) ?_
      obtain ⟨q74, hh, hf⟩ := s_bind hf
      refine s_lz.tr (l_X8_thrown hh) ?_
      rcases s_ite hf with ⟨-, hf⟩ | ⟨-, hf⟩
      · rcases s_ite hf with ⟨-, hf⟩ | ⟨-, hf⟩
        · obtain ⟨x75, -, hf⟩ := s_bind hf
          rcases s_ite hf with ⟨-, hf⟩ | ⟨-, hf⟩
          · cases hf
            exact s_le.rf
          · cases hf
            exact s_le.rf
        · cases hf
          exact s_le.rf
      · cases hf
        exact s_le.rf
    rcases s_ite hf with ⟨-, hf⟩ | ⟨-, hf⟩
    · obtain ⟨x76, -, hf⟩ := s_bind hf
      obtain ⟨x77, -, hf⟩ := s_bind hf
      obtain ⟨x78, -, hf⟩ := s_bind hf
      rcases s_ite hf with ⟨-, hf⟩ | ⟨-, hf⟩
      · cases hf
        exact s_le.rf
      · cases hf
        exact s_le.rf
    rcases s_ite hf with ⟨-, hf⟩ | ⟨-, hf⟩
    · obtain ⟨x79, -, hf⟩ := s_bind hf
      obtain ⟨q80, hh, hf⟩ := s_bind hf
      refine s_lz.tr (l_L_beliefs hh) ?_
      obtain ⟨x81, -, hf⟩ := s_bind hf
      obtain ⟨q82, hh, hf⟩ := s_bind hf
      refine s_lz.tr (l_X8_beliefs hh) ?_
      obtain ⟨q83, hh, hf⟩ := s_bind hf
      refine s_lz.tr (l_X8_thrown hh) ?_
      rcases s_ite hf with ⟨-, hf⟩ | ⟨-, hf⟩
      · rcases s_ite hf with ⟨-, hf⟩ | ⟨-, hf⟩
        · obtain ⟨x84, -, hf⟩ := s_bind hf
          rcases s_ite hf with ⟨-, hf⟩ | ⟨-, hf⟩
          · cases hf
            exact s_le.rf
          · cases hf
            exact s_le.rf
        · cases hf
          exact s_le.rf
      · cases hf
        exact s_le.rf
    rcases s_ite hf with ⟨-, hf⟩ | ⟨-, hf⟩
    · obtain ⟨x85, -, hf⟩ := s_bind hf
      obtain ⟨x86, -, hf⟩ := s_bind hf
      obtain ⟨x87, -, hf⟩ := s_bind hf
      obtain ⟨x88, -, hf⟩ := s_bind hf
      obtain ⟨x89, -, hf⟩ := s_bind hf
      obtain ⟨x90, -, hf⟩ := s_bind hf
      obtain ⟨q91, hh, hf⟩ := s_bind hf
      refine s_lz.tr (l_L_line hh) ?_
      obtain ⟨x92, -, hf⟩ := s_bind hf
      obtain ⟨x93, -, hf⟩ := s_bind hf
      obtain ⟨x94, -, hf⟩ := s_bind hf
      obtain ⟨x95, -, hf⟩ := s_bind hf
      obtain ⟨x96, -, hf⟩ := s_bind hf
      obtain ⟨x97, -, hf⟩ := s_bind hf
      obtain ⟨q98, hh, hf⟩ := s_bind hf
      refine s_lz.tr (l_X8_line hh) ?_
      obtain ⟨q99, hh, hf⟩ := s_bind hf
      refine s_lz.tr (l_X8_thrown hh) ?_
      rcases s_ite hf with ⟨-, hf⟩ | ⟨-, hf⟩
      · rcases s_ite hf with ⟨-, hf⟩ | ⟨-, hf⟩
        · obtain ⟨x100, -, hf⟩ := s_bind hf
          rcases s_ite hf with ⟨-, hf⟩ | ⟨-, hf⟩
          · cases hf
            exact s_le.rf
          · cases hf
            exact s_le.rf
        · cases hf
          exact s_le.rf
      · cases hf
        exact s_le.rf
    rcases s_ite hf with ⟨-, hf⟩ | ⟨-, hf⟩
    · obtain ⟨x101, -, hf⟩ := s_bind hf
      obtain ⟨x102, -, hf⟩ := s_bind hf
      obtain ⟨q103, hh, hf⟩ := s_bind hf
      refine s_lz.tr (l_L_look hh) ?_
      obtain ⟨x104, -, hf⟩ := s_bind hf
      obtain ⟨x105, -, hf⟩ := s_bind hf
      obtain ⟨q106, hh, hf⟩ := s_bind hf
      refine s_lz.tr (l_X8_look hh) ?_
      obtain ⟨q107, hh, hf⟩ := s_bind hf
      refine s_lz.tr (l_X8_thrown hh) ?_
      rcases s_ite hf with ⟨-, hf⟩ | ⟨-, hf⟩
      · rcases s_ite hf with ⟨-, hf⟩ | ⟨-, hf⟩
        · obtain ⟨x108, -, hf⟩ := s_bind hf
          rcases s_ite hf with ⟨-, hf⟩ | ⟨-, hf⟩
          · cases hf
            exact s_le.rf
          · cases hf
            exact s_le.rf
        · cases hf
          exact s_le.rf
      · cases hf
        exact s_le.rf
    rcases s_ite hf with ⟨-, hf⟩ | ⟨-, hf⟩
    · obtain ⟨x109, -, hf⟩ := s_bind hf
      obtain ⟨x110, -, hf⟩ := s_bind hf
      obtain ⟨q111, hh, hf⟩ := s_bind hf
      refine s_lz.tr (l_L_is hh) ?_
      obtain ⟨x112, -, hf⟩ := s_bind hf
      obtain ⟨x113, -, hf⟩ := s_bind hf
      obtain ⟨q114, hh, hf⟩ := s_bind hf
      refine s_lz.tr (l_X8_is hh) ?_
      obtain ⟨q115, hh, hf⟩ := s_bind hf
      refine s_lz.tr (l_X8_thrown hh) ?_
      rcases s_ite hf with ⟨-, hf⟩ | ⟨-, hf⟩
      · rcases s_ite hf with ⟨-, hf⟩ | ⟨-, hf⟩
        · obtain ⟨x116, -, hf⟩ := s_bind hf
          rcases s_ite hf with ⟨-, hf⟩ | ⟨-, hf⟩
          · cases hf
            exact s_le.rf
          · cases hf
            exact s_le.rf
        · cases hf
          exact s_le.rf
      · cases hf
        exact s_le.rf
    rcases s_ite hf with ⟨-, hf⟩ | ⟨-, hf⟩
    · obtain ⟨q117, hh, hf⟩ := s_bind hf
      refine s_lz.tr (l_X7_wrong hh) ?_
      obtain ⟨q118, hh, hf⟩ := s_bind hf
      refine s_lz.tr (l_X8_wrong hh) ?_
      rcases s_ite hf with ⟨-, hf⟩ | ⟨-, hf⟩
      · cases hf
        exact s_le.rf
      · cases hf
        exact s_le.rf
    rcases s_ite hf with ⟨-, hf⟩ | ⟨-, hf⟩
    · obtain ⟨x119, -, hf⟩ := s_bind hf
      obtain ⟨q120, hh, hf⟩ := s_bind hf
      refine s_lz.tr (l_L_rests hh) ?_
      obtain ⟨x121, -, hf⟩ := s_bind hf
      obtain ⟨q122, hh, hf⟩ := s_bind hf
      refine s_lz.tr (l_X8_rests hh) ?_
      obtain ⟨q123, hh, hf⟩ := s_bind hf
      refine s_lz.tr (l_X8_thrown hh) ?_
      rcases s_ite hf with ⟨-, hf⟩ | ⟨-, hf⟩
      · rcases s_ite hf with ⟨-, hf⟩ | ⟨-, hf⟩
        · obtain ⟨x124, -, hf⟩ := s_bind hf
          rcases s_ite hf with ⟨-, hf⟩ | ⟨-, hf⟩
          · cases hf
            exact s_le.rf
          · cases hf
            exact s_le.rf
        · cases hf
          exact s_le.rf
      · cases hf
        exact s_le.rf
    rcases s_ite hf with ⟨-, hf⟩ | ⟨-, hf⟩
    · obtain ⟨x125, -, hf⟩ := s_bind hf
      obtain ⟨q126, hh, hf⟩ := s_bind hf
      refine s_lz.tr (l_L_needs hh) ?_
      obtain ⟨x127, -, hf⟩ := s_bind hf
      obtain ⟨q128, hh, hf⟩ := s_bind hf
      refine s_lz.tr (l_X8_needs hh) ?_
      obtain ⟨q129, hh, hf⟩ := s_bind hf
      refine s_lz.tr (l_X8_thrown hh) ?_
      rcases s_ite hf with ⟨-, hf⟩ | ⟨-, hf⟩
      · rcases s_ite hf with ⟨-, hf⟩ | ⟨-, hf⟩
        · obtain ⟨x130, -, hf⟩ := s_bind hf
          rcases s_ite hf with ⟨-, hf⟩ | ⟨-, hf⟩
          · cases hf
            exact s_le.rf
          · cases hf
            exact s_le.rf
        · cases hf
          exact s_le.rf
      · cases hf
        exact s_le.rf
    rcases s_ite hf with ⟨-, hf⟩ | ⟨-, hf⟩
    · obtain ⟨x131, -, hf⟩ := s_bind hf
      obtain ⟨q132, hh, hf⟩ := s_bind hf
      refine s_lz.tr (l_L_spent hh) ?_
      obtain ⟨x133, -, hf⟩ := s_bind hf
      obtain ⟨q134, hh, hf⟩ := s_bind hf
      refine s_lz.tr (l_X8_spent hh) ?_
      obtain ⟨q135, hh, hf⟩ := s_bind hf
      refine s_lz.tr (l_X8_thrown hh) ?_
      rcases s_ite hf with ⟨-, hf⟩ | ⟨-, hf⟩
      · rcases s_ite hf with ⟨-, hf⟩ | ⟨-, hf⟩
        · obtain ⟨x136, -, hf⟩ := s_bind hf
          rcases s_ite hf with ⟨-, hf⟩ | ⟨-, hf⟩
          · cases hf
            exact s_le.rf
          · cases hf
            exact s_le.rf
        · cases hf
          exact s_le.rf
      · cases hf
        exact s_le.rf
    rcases s_ite hf with ⟨-, hf⟩ | ⟨-, hf⟩
    · obtain ⟨x137, -, hf⟩ := s_bind hf
      obtain ⟨x138, -, hf⟩ := s_bind hf
      obtain ⟨q139, hh, hf⟩ := s_bind hf
      refine s_lz.tr (l_L_falls hh) ?_
      obtain ⟨x140, -, hf⟩ := s_bind hf
      obtain ⟨x141, -, hf⟩ := s_bind hf
      obtain ⟨q142, hh, hf⟩ := s_bind hf
      refine s_lz.tr (l_X8_falls hh) ?_
      obtain ⟨q143, hh, hf⟩ := s_bind hf
      refine s_lz.tr (l_X8_thrown hh) ?_
      rcases s_ite hf with ⟨-, hf⟩ | ⟨-, hf⟩
      · rcases s_ite hf with ⟨-, hf⟩ | ⟨-, hf⟩
        · obtain ⟨x144, -, hf⟩ := s_bind hf
          rcases s_ite hf with ⟨-, hf⟩ | ⟨-, hf⟩
          · cases hf
            exact s_le.rf
          · cases hf
            exact s_le.rf
        · cases hf
          exact s_le.rf
      · cases hf
        exact s_le.rf
    rcases s_ite hf with ⟨-, hf⟩ | ⟨-, hf⟩
    · obtain ⟨x145, -, hf⟩ := s_bind hf
      obtain ⟨x146, -, hf⟩ := s_bind hf
      obtain ⟨q147, hh, hf⟩ := s_bind hf
      refine s_lz.tr (l_L_follows hh) ?_
      obtain ⟨x148, -, hf⟩ := s_bind hf
      obtain ⟨x149, -, hf⟩ := s_bind hf
      obtain ⟨q150, hh, hf⟩ := s_bind hf
      refine s_lz.tr (l_X8_follows hh) ?_
      obtain ⟨q151, hh, hf⟩ := s_bind hf
      refine s_lz.tr (l_X8_thrown hh) ?_
      rcases s_ite hf with ⟨-, hf⟩ | ⟨-, hf⟩
      · rcases s_ite hf with ⟨-, hf⟩ | ⟨-, hf⟩
        · obtain ⟨x152, -, hf⟩ := s_bind hf
          rcases s_ite hf with ⟨-, hf⟩ | ⟨-, hf⟩
          · cases hf
            exact s_le.rf
          · cases hf
            exact s_le.rf
        · cases hf
          exact s_le.rf
      · cases hf
        exact s_le.rf
    rcases s_ite hf with ⟨-, hf⟩ | ⟨-, hf⟩
    · obtain ⟨x153, -, hf⟩ := s_bind hf
      obtain ⟨x154, -, hf⟩ := s_bind hf
      obtain ⟨q155, hh, hf⟩ := s_bind hf
      refine s_lz.tr (l_L_counter hh) ?_
      obtain ⟨x156, -, hf⟩ := s_bind hf
      obtain ⟨x157, -, hf⟩ := s_bind hf
      obtain ⟨q158, hh, hf⟩ := s_bind hf
      refine s_lz.tr (l_X8_counter hh) ?_
      obtain ⟨q159, hh, hf⟩ := s_bind hf
      refine s_lz.tr (l_X8_thrown hh) ?_
      rcases s_ite hf with ⟨-, hf⟩ | ⟨-, hf⟩
      · rcases s_ite hf with ⟨-, hf⟩ | ⟨-, hf⟩
        · obtain ⟨x160, -, hf⟩ := s_bind hf
          rcases s_ite hf with ⟨-, hf⟩ | ⟨-, hf⟩
          · cases hf
            exact s_le.rf
          · cases hf
            exact s_le.rf
        · cases hf
          exact s_le.rf
      · cases hf
        exact s_le.rf
    rcases s_ite hf with ⟨-, hf⟩ | ⟨-, hf⟩
    · obtain ⟨x161, -, hf⟩ := s_bind hf
      obtain ⟨x162, -, hf⟩ := s_bind hf
      obtain ⟨x163, -, hf⟩ := s_bind hf
      obtain ⟨q164, hh, hf⟩ := s_bind hf
      refine s_lz.tr (l_L_cheapest hh) ?_
      obtain ⟨x165, -, hf⟩ := s_bind hf
      obtain ⟨x166, -, hf⟩ := s_bind hf
      obtain ⟨x167, -, hf⟩ := s_bind hf
      obtain ⟨q168, hh, hf⟩ := s_bind hf
      refine s_lz.tr (l_X8_cheapest hh) ?_
      obtain ⟨q169, hh, hf⟩ := s_bind hf
      refine s_lz.tr (l_X8_thrown hh) ?_
      rcases s_ite hf with ⟨-, hf⟩ | ⟨-, hf⟩
      · rcases s_ite hf with ⟨-, hf⟩ | ⟨-, hf⟩
        · obtain ⟨x170, -, hf⟩ := s_bind hf
          rcases s_ite hf with ⟨-, hf⟩ | ⟨-, hf⟩
          · cases hf
            exact s_le.rf
          · cases hf
            exact s_le.rf
        · cases hf
          exact s_le.rf
      · cases hf
        exact s_le.rf
    rcases s_ite hf with ⟨-, hf⟩ | ⟨-, hf⟩
    · obtain ⟨x171, -, hf⟩ := s_bind hf
      obtain ⟨x172, -, hf⟩ := s_bind hf
      obtain ⟨x173, -, hf⟩ := s_bind hf
      obtain ⟨q174, hh, hf⟩ := s_bind hf
      refine s_lz.tr (l_L_lastly hh) ?_
      obtain ⟨x175, -, hf⟩ := s_bind hf
      obtain ⟨x176, -, hf⟩ := s_bind hf
      obtain ⟨x177, -, hf⟩ := s_bind hf
      obtain ⟨q178, hh, hf⟩ := s_bind hf
      refine s_lz.tr (l_X8_lastly hh) ?_
      obtain ⟨q179, hh, hf⟩ := s_bind hf
      refine s_lz.tr (l_X8_thrown hh) ?_
      rcases s_ite hf with ⟨-, hf⟩ | ⟨-, hf⟩
      · rcases s_ite hf with ⟨-, hf⟩ | ⟨-, hf⟩
        · obtain ⟨x180, -, hf⟩ := s_bind hf
          rcases s_ite hf with ⟨-, hf⟩ | ⟨-, hf⟩
          · cases hf
            exact s_le.rf
          · cases hf
            exact s_le.rf
        · cases hf
          exact s_le.rf
      · cases hf
        exact s_le.rf
    rcases s_ite hf with ⟨-, hf⟩ | ⟨-, hf⟩
    · obtain ⟨x181, -, hf⟩ := s_bind hf
      obtain ⟨x182, -, hf⟩ := s_bind hf
      obtain ⟨q183, hh, hf⟩ := s_bind hf
      refine s_lz.tr (l_L_where hh) ?_
      obtain ⟨x184, -, hf⟩ := s_bind hf
      obtain ⟨x185, -, hf⟩ := s_bind hf
      obtain ⟨q186, hh, hf⟩ := s_bind hf
      refine s_lz.tr (l_X8_where hh) ?_
      obtain ⟨q187, hh, hf⟩ := s_bind hf
      refine s_lz.tr (l_X8_thrown hh) ?_
      rcases s_ite hf with ⟨-, hf⟩ | ⟨-, hf⟩
      · rcases s_ite hf with ⟨-, hf⟩ | ⟨-, hf⟩
        · obtain ⟨x188, -, hf⟩ := s_bind hf
          rcases s_ite hf with ⟨-, hf⟩ | ⟨-, hf⟩
          · cases hf
            exact s_le.rf
          · cases hf
            exact s_le.rf
        · cases hf
          exact s_le.rf
      · cases hf
        exact s_le.rf
    rcases s_ite hf with ⟨-, hf⟩ | ⟨-, hf⟩
    · obtain ⟨x189, -, hf⟩ := s_bind hf
      obtain ⟨x190, -, hf⟩ := s_bind hf
      obtain ⟨x191, -, hf⟩ := s_bind hf
      obtain ⟨q192, hh, hf⟩ := s_bind hf
      refine s_lz.tr (l_L_resold hh) ?_
      obtain ⟨x193, -, hf⟩ := s_bind hf
      obtain ⟨x194, -, hf⟩ := s_bind hf
      obtain ⟨x195, -, hf⟩ := s_bind hf
      obtain ⟨q196, hh, hf⟩ := s_bind hf
      refine s_lz.tr (l_X8_resold hh) ?_
      obtain ⟨q197, hh, hf⟩ := s_bind hf
      refine s_lz.tr (l_X8_thrown hh) ?_
      rcases s_ite hf with ⟨-, hf⟩ | ⟨-, hf⟩
      · rcases s_ite hf with ⟨-, hf⟩ | ⟨-, hf⟩
        · obtain ⟨x198, -, hf⟩ := s_bind hf
          rcases s_ite hf with ⟨-, hf⟩ | ⟨-, hf⟩
          · cases hf
            exact s_le.rf
          · cases hf
            exact s_le.rf
        · cases hf
          exact s_le.rf
      · cases hf
        exact s_le.rf
    rcases s_ite hf with ⟨-, hf⟩ | ⟨-, hf⟩
    · obtain ⟨x199, -, hf⟩ := s_bind hf
      obtain ⟨x200, -, hf⟩ := s_bind hf
      obtain ⟨x201, -, hf⟩ := s_bind hf
      obtain ⟨q202, hh, hf⟩ := s_bind hf
      refine s_lz.tr (l_L_forward hh) ?_
      obtain ⟨x203, -, hf⟩ := s_bind hf
      obtain ⟨x204, -, hf⟩ := s_bind hf
      obtain ⟨x205, -, hf⟩ := s_bind hf
      obtain ⟨q206, hh, hf⟩ := s_bind hf
      refine s_lz.tr (l_X8_forward hh) ?_
      obtain ⟨q207, hh, hf⟩ := s_bind hf
      refine s_lz.tr (l_X8_thrown hh) ?_
      rcases s_ite hf with ⟨-, hf⟩ | ⟨-, hf⟩
      · rcases s_ite hf with ⟨-, hf⟩ | ⟨-, hf⟩
        · obtain ⟨x208, -, hf⟩ := s_bind hf
          rcases s_ite hf with ⟨-, hf⟩ | ⟨-, hf⟩
          · cases hf
            exact s_le.rf
          · cases hf
            exact s_le.rf
        · cases hf
          exact s_le.rf
      · cases hf
        exact s_le.rf
    rcases s_ite hf with ⟨-, hf⟩ | ⟨-, hf⟩
    · obtain ⟨x209, -, hf⟩ := s_bind hf
      obtain ⟨q210, hh, hf⟩ := s_bind hf
      refine s_lz.tr (l_L_truths hh) ?_
      obtain ⟨x211, -, hf⟩ := s_bind hf
      obtain ⟨q212, hh, hf⟩ := s_bind hf
      refine s_lz.tr (l_X8_truths hh) ?_
      obtain ⟨q213, hh, hf⟩ := s_bind hf
      refine s_lz.tr (l_X8_thrown hh) ?_
      rcases s_ite hf with ⟨-, hf⟩ | ⟨-, hf⟩
      · rcases s_ite hf with ⟨-, hf⟩ | ⟨-, hf⟩
        · obtain ⟨x214, -, hf⟩ := s_bind hf
          rcases s_ite hf with ⟨-, hf⟩ | ⟨-, hf⟩
          · cases hf
            exact s_le.rf
          · cases hf
            exact s_le.rf
        · cases hf
          exact s_le.rf
      · cases hf
        exact s_le.rf
    rcases s_ite hf with ⟨-, hf⟩ | ⟨-, hf⟩
    · obtain ⟨x215, -, hf⟩ := s_bind hf
      obtain ⟨x216, -, hf⟩ := s_bind hf
      obtain ⟨q217, hh, hf⟩ := s_bind hf
      refine s_lz.tr (l_L_agree hh) ?_
      obtain ⟨x218, -, hf⟩ := s_bind hf
      obtain ⟨x219, -, hf⟩ := s_bind hf
      obtain ⟨q220, hh, hf⟩ := s_bind hf
      refine s_lz.tr (l_X8_agree hh) ?_
      obtain ⟨q221, hh, hf⟩ := s_bind hf
      refine s_lz.tr (l_X8_thrown hh) ?_
      rcases s_ite hf with ⟨-, hf⟩ | ⟨-, hf⟩
      · rcases s_ite hf with ⟨-, hf⟩ | ⟨-, hf⟩
        · obtain ⟨x222, -, hf⟩ := s_bind hf
          rcases s_ite hf with ⟨-, hf⟩ | ⟨-, hf⟩
          · cases hf
            exact s_le.rf
          · cases hf
            exact s_le.rf
        · cases hf
          exact s_le.rf
      · cases hf
        exact s_le.rf
    rcases s_ite hf with ⟨-, hf⟩ | ⟨-, hf⟩
    · obtain ⟨x223, -, hf⟩ := s_bind hf
      obtain ⟨q224, hh, hf⟩ := s_bind hf
      refine s_lz.tr (l_L_withdraw hh) ?_
      obtain ⟨x225, -, hf⟩ := s_bind hf
      obtain ⟨q226, hh, hf⟩ := s_bind hf
      refine s_lz.tr (l_X8_withdraw hh) ?_
      obtain ⟨q227, hh, hf⟩ := s_bind hf
      refine s_lz.tr (l_X8_thrown hh) ?_
      rcases s_ite hf with ⟨-, hf⟩ | ⟨-, hf⟩
      · rcases s_ite hf with ⟨-, hf⟩ | ⟨-, hf⟩
        · obtain ⟨x228, -, hf⟩ := s_bind hf
          rcases s_ite hf with ⟨-, hf⟩ | ⟨-, hf⟩
          · cases hf
            exact s_le.rf
          · cases hf
            exact s_le.rf
        · cases hf
          exact s_le.rf
      · cases hf
        exact s_le.rf
    rcases s_ite hf with ⟨-, hf⟩ | ⟨-, hf⟩
    · obtain ⟨x229, -, hf⟩ := s_bind hf
      obtain ⟨q230, hh, hf⟩ := s_bind hf
      refine s_lz.tr (l_L_idle hh) ?_
      obtain ⟨x231, -, hf⟩ := s_bind hf
      obtain ⟨q232, hh, hf⟩ := s_bind hf
      refine s_lz.tr (l_X8_idle hh) ?_
      obtain ⟨q233, hh, hf⟩ := s_bind hf
      refine s_lz.tr (l_X8_thrown hh) ?_
      rcases s_ite hf with ⟨-, hf⟩ | ⟨-, hf⟩
      · rcases s_ite hf with ⟨-, hf⟩ | ⟨-, hf⟩
        · obtain ⟨x234, -, hf⟩ := s_bind hf
          rcases s_ite hf with ⟨-, hf⟩ | ⟨-, hf⟩
          · cases hf
            exact s_le.rf
          · cases hf
            exact s_le.rf
        · cases hf
          exact s_le.rf
      · cases hf
        exact s_le.rf
    rcases s_ite hf with ⟨-, hf⟩ | ⟨-, hf⟩
    · obtain ⟨x235, -, hf⟩ := s_bind hf
      obtain ⟨q236, hh, hf⟩ := s_bind hf
      refine s_lz.tr (l_L_alike hh) ?_
      obtain ⟨x237, -, hf⟩ := s_bind hf
      obtain ⟨q238, hh, hf⟩ := s_bind hf
      refine s_lz.tr (l_X8_alike hh) ?_
      obtain ⟨q239, hh, hf⟩ := s_bind hf
      refine s_lz.tr (l_X8_thrown hh) ?_
      rcases s_ite hf with ⟨-, hf⟩ | ⟨-, hf⟩
      · rcases s_ite hf with ⟨-, hf⟩ | ⟨-, hf⟩
        · obtain ⟨x240, -, hf⟩ := s_bind hf
          rcases s_ite hf with ⟨-, hf⟩ | ⟨-, hf⟩
          · cases hf
            exact s_le.rf
          · cases hf
            exact s_le.rf
        · cases hf
          exact s_le.rf
      · cases hf
        exact s_le.rf
    rcases s_ite hf with ⟨-, hf⟩ | ⟨-, hf⟩
    · obtain ⟨x241, -, hf⟩ := s_bind hf
      obtain ⟨q242, hh, hf⟩ := s_bind hf
      refine s_lz.tr (l_L_core hh) ?_
      obtain ⟨x243, -, hf⟩ := s_bind hf
      obtain ⟨q244, hh, hf⟩ := s_bind hf
      refine s_lz.tr (l_X8_core hh) ?_
      obtain ⟨q245, hh, hf⟩ := s_bind hf
      refine s_lz.tr (l_X8_thrown hh) ?_
      rcases s_ite hf with ⟨-, hf⟩ | ⟨-, hf⟩
      · rcases s_ite hf with ⟨-, hf⟩ | ⟨-, hf⟩
        · obtain ⟨x246, -, hf⟩ := s_bind hf
          rcases s_ite hf with ⟨-, hf⟩ | ⟨-, hf⟩
          · cases hf
            exact s_le.rf
          · cases hf
            exact s_le.rf
        · cases hf
          exact s_le.rf
      · cases hf
        exact s_le.rf
    rcases s_ite hf with ⟨-, hf⟩ | ⟨-, hf⟩
    · obtain ⟨x247, -, hf⟩ := s_bind hf
      obtain ⟨x248, -, hf⟩ := s_bind hf
      obtain ⟨q249, hh, hf⟩ := s_bind hf
      refine s_lz.tr (l_L_more hh) ?_
      obtain ⟨x250, -, hf⟩ := s_bind hf
      obtain ⟨x251, -, hf⟩ := s_bind hf
      obtain ⟨q252, hh, hf⟩ := s_bind hf
      refine s_lz.tr (l_X8_more hh) ?_
      obtain ⟨q253, hh, hf⟩ := s_bind hf
      refine s_lz.tr (l_X8_thrown hh) ?_
      rcases s_ite hf with ⟨-, hf⟩ | ⟨-, hf⟩
      · rcases s_ite hf with ⟨-, hf⟩ | ⟨-, hf⟩
        · obtain ⟨x254, -, hf⟩ := s_bind hf
          rcases s_ite hf with ⟨-, hf⟩ | ⟨-, hf⟩
          · cases hf
            exact s_le.rf
          · cases hf
            exact s_le.rf
        · cases hf
          exact s_le.rf
      · cases hf
        exact s_le.rf
    rcases s_ite hf with ⟨-, hf⟩ | ⟨-, hf⟩
    · obtain ⟨x255, -, hf⟩ := s_bind hf
      obtain ⟨x256, -, hf⟩ := s_bind hf
      obtain ⟨q257, hh, hf⟩ := s_bind hf
      refine s_lz.tr (l_L_gains hh) ?_
      obtain ⟨x258, -, hf⟩ := s_bind hf
      obtain ⟨x259, -, hf⟩ := s_bind hf
      obtain ⟨q260, hh, hf⟩ := s_bind hf
      refine s_lz.tr (l_X8_gains hh) ?_
      obtain ⟨q261, hh, hf⟩ := s_bind hf
      refine s_lz.tr (l_X8_thrown hh) ?_
      rcases s_ite hf with ⟨-, hf⟩ | ⟨-, hf⟩
      · rcases s_ite hf with ⟨-, hf⟩ | ⟨-, hf⟩
        · obtain ⟨x262, -, hf⟩ := s_bind hf
          rcases s_ite hf with ⟨-, hf⟩ | ⟨-, hf⟩
          · cases hf
            exact s_le.rf
          · cases hf
            exact s_le.rf
        · cases hf
          exact s_le.rf
      · cases hf
        exact s_le.rf
    rcases s_ite hf with ⟨-, hf⟩ | ⟨-, hf⟩
    · obtain ⟨x263, -, hf⟩ := s_bind hf
      obtain ⟨x264, -, hf⟩ := s_bind hf
      obtain ⟨x265, -, hf⟩ := s_bind hf
      obtain ⟨x266, -, hf⟩ := s_bind hf
      obtain ⟨q267, hh, hf⟩ := s_bind hf
      refine s_lz.tr (l_L_sell hh) ?_
      obtain ⟨x268, -, hf⟩ := s_bind hf
      obtain ⟨x269, -, hf⟩ := s_bind hf
      obtain ⟨x270, -, hf⟩ := s_bind hf
      obtain ⟨x271, -, hf⟩ := s_bind hf
      obtain ⟨q272, hh, hf⟩ := s_bind hf
      refine s_lz.tr (l_X8_sell hh) ?_
      obtain ⟨q273, hh, hf⟩ := s_bind hf
      refine s_lz.tr (l_X8_thrown hh) ?_
      rcases s_ite hf with ⟨-, hf⟩ | ⟨-, hf⟩
      · rcases s_ite hf with ⟨-, hf⟩ | ⟨-, hf⟩
        · obtain ⟨x274, -, hf⟩ := s_bind hf
          rcases s_ite hf with ⟨-, hf⟩ | ⟨-, hf⟩
          · cases hf
            exact s_le.rf
          · cases hf
            exact s_le.rf
        · cases hf
          exact s_le.rf
      · cases hf
        exact s_le.rf
    rcases s_ite hf with ⟨-, hf⟩ | ⟨-, hf⟩
    · obtain ⟨x275, -, hf⟩ := s_bind hf
      obtain ⟨q276, hh, hf⟩ := s_bind hf
      refine s_lz.tr (l_L_undo hh) ?_
      obtain ⟨x277, -, hf⟩ := s_bind hf
      obtain ⟨q278, hh, hf⟩ := s_bind hf
      refine s_lz.tr (l_X8_undo hh) ?_
      obtain ⟨q279, hh, hf⟩ := s_bind hf
      refine s_lz.tr (l_X8_thrown hh) ?_
      rcases s_ite hf with ⟨-, hf⟩ | ⟨-, hf⟩
      · rcases s_ite hf with ⟨-, hf⟩ | ⟨-, hf⟩
        · obtain ⟨x280, -, hf⟩ := s_bind hf
          rcases s_ite hf with ⟨-, hf⟩ | ⟨-, hf⟩
          · cases hf
            exact s_le.rf
          · cases hf
            exact s_le.rf
        · cases hf
          exact s_le.rf
      · cases hf
        exact s_le.rf
    rcases s_ite hf with ⟨-, hf⟩ | ⟨-, hf⟩
    · obtain ⟨x281, -, hf⟩ := s_bind hf
      obtain ⟨x282, -, hf⟩ := s_bind hf
      obtain ⟨x283, -, hf⟩ := s_bind hf
      obtain ⟨q284, hh, hf⟩ := s_bind hf
      refine s_lz.tr (l_L_owes hh) ?_
      obtain ⟨x285, -, hf⟩ := s_bind hf
      obtain ⟨x286, -, hf⟩ := s_bind hf
      obtain ⟨x287, -, hf⟩ := s_bind hf
      obtain ⟨q288, hh, hf⟩ := s_bind hf
      refine s_lz.tr (l_X8_owes hh) ?_
      obtain ⟨q289, hh, hf⟩ := s_bind hf
      refine s_lz.tr (l_X8_thrown hh) ?_
      rcases s_ite hf with ⟨-, hf⟩ | ⟨-, hf⟩
      · rcases s_ite hf with ⟨-, hf⟩ | ⟨-, hf⟩
        · obtain ⟨x290, -, hf⟩ := s_bind hf
          rcases s_ite hf with ⟨-, hf⟩ | ⟨-, hf⟩
          · cases hf
            exact s_le.rf
          · cases hf
            exact s_le.rf
        · cases hf
          exact s_le.rf
      · cases hf
        exact s_le.rf
    rcases s_ite hf with ⟨-, hf⟩ | ⟨-, hf⟩
    · obtain ⟨x291, -, hf⟩ := s_bind hf
      obtain ⟨q292, hh, hf⟩ := s_bind hf
      refine s_lz.tr (l_L_refunds hh) ?_
      obtain ⟨x293, -, hf⟩ := s_bind hf
      obtain ⟨q294, hh, hf⟩ := s_bind hf
      refine s_lz.tr (l_X8_refunds hh) ?_
      obtain ⟨q295, hh, hf⟩ := s_bind hf
      refine s_lz.tr (l_X8_thrown hh) ?_
      rcases s_ite hf with ⟨-, hf⟩ | ⟨-, hf⟩
      · rcases s_ite hf with ⟨-, hf⟩ | ⟨-, hf⟩
        · obtain ⟨x296, -, hf⟩ := s_bind hf
          rcases s_ite hf with ⟨-, hf⟩ | ⟨-, hf⟩
          · cases hf
            exact s_le.rf
          · cases hf
            exact s_le.rf
        · cases hf
          exact s_le.rf
      · cases hf
        exact s_le.rf
    rcases s_ite hf with ⟨-, hf⟩ | ⟨-, hf⟩
    · obtain ⟨q297, hh, hf⟩ := s_bind hf
      refine s_lz.tr (l_X7_dearer hh) ?_
      obtain ⟨q298, hh, hf⟩ := s_bind hf
      refine s_lz.tr (l_X8_dearer hh) ?_
      rcases s_ite hf with ⟨-, hf⟩ | ⟨-, hf⟩
      · cases hf
        exact s_le.rf
      · cases hf
        exact s_le.rf
    rcases s_ite hf with ⟨-, hf⟩ | ⟨-, hf⟩
    · obtain ⟨x299, -, hf⟩ := s_bind hf
      obtain ⟨q300, hh, hf⟩ := s_bind hf
      refine s_lz.tr (l_L_chain hh) ?_
      obtain ⟨x301, -, hf⟩ := s_bind hf
      obtain ⟨q302, hh, hf⟩ := s_bind hf
      refine s_lz.tr (l_X8_chain hh) ?_
      obtain ⟨q303, hh, hf⟩ := s_bind hf
      refine s_lz.tr (l_X8_thrown hh) ?_
      rcases s_ite hf with ⟨-, hf⟩ | ⟨-, hf⟩
      · rcases s_ite hf with ⟨-, hf⟩ | ⟨-, hf⟩
        · obtain ⟨x304, -, hf⟩ := s_bind hf
          rcases s_ite hf with ⟨-, hf⟩ | ⟨-, hf⟩
          · cases hf
            exact s_le.rf
          · cases hf
            exact s_le.rf
        · cases hf
          exact s_le.rf
      · cases hf
        exact s_le.rf
    rcases s_ite hf with ⟨-, hf⟩ | ⟨-, hf⟩
    · obtain ⟨q305, hh, hf⟩ := s_bind hf
      refine s_lz.tr (l_X7_image hh) ?_
      obtain ⟨q306, hh, hf⟩ := s_bind hf
      refine s_lz.tr (l_X8_image hh) ?_
      cases hf
      exact s_le.rf
    rcases s_ite hf with ⟨-, hf⟩ | ⟨-, hf⟩
    · obtain ⟨q307, hh, hf⟩ := s_bind hf
      refine s_lz.tr (l_X7_back hh) ?_
      obtain ⟨q308, hh, hf⟩ := s_bind hf
      refine s_lz.tr (l_X8_back hh) ?_
      rcases s_ite hf with ⟨-, hf⟩ | ⟨-, hf⟩
      · cases hf
        exact s_le.rf
      · cases hf
        exact s_le.rf
    rcases s_ite hf with ⟨-, hf⟩ | ⟨-, hf⟩
    · obtain ⟨x309, -, hf⟩ := s_bind hf
      obtain ⟨q310, hh, hf⟩ := s_bind hf
      refine s_lz.tr (l_X7_count hh) ?_
      obtain ⟨x311, -, hf⟩ := s_bind hf
      obtain ⟨q312, hh, hf⟩ := s_bind hf
      refine s_lz.tr (l_X8_count hh) ?_
      rcases s_ite hf with ⟨-, hf⟩ | ⟨-, hf⟩
      · cases hf
        exact s_le.rf
      · cases hf
        exact s_le.rf
    cases hf
    exact s_le.rf
theorem l_L_law_375 {v0 : Nat} {v1 : Nat} {v2 : Nat} {v3 : Nat} {v4 : Int32} {σ : sS} {z : sZ Int32} (hf : T_L_law_375 v0 v1 v2 v3 v4 σ = some z) : s_lz σ z := by
  unfold T_L_law_375 at hf
  cases hf
  exact s_le.rf
theorem l_L_law_480 {v0 : Nat} {v1 : Nat} {v2 : Nat} {v3 : Nat} {v4 : Int32} {σ : sS} {z : sZ Int32} (hf : T_L_law_480 v0 v1 v2 v3 v4 σ = some z) : s_lz σ z := by
  unfold T_L_law_480 at hf
  cases hf
  exact s_le.rf
theorem l_L_law_549 {v0 : Nat} {v1 : Nat} {v2 : Nat} {v3 : Nat} {v4 : Int32} {w0 : Int64} {w1 : Int64} {σ : sS} {z : sZ Int32} (hf : T_L_law_549 v0 v1 v2 v3 v4 w0 w1 σ = some z) : s_lz σ z := by
  unfold T_L_law_549 at hf
  rcases s_ite hf with ⟨-, hf⟩ | ⟨-, hf⟩
  · cases hf
    exact s_le.rf
  · cases hf
    exact s_le.rf
theorem l_L_law_555 {v0 : Nat} {v1 : Nat} {v2 : Nat} {v3 : Nat} {v4 : Int32} {σ : sS} {z : sZ Int32} (hf : T_L_law_555 v0 v1 v2 v3 v4 σ = some z) : s_lz σ z := by
  unfold T_L_law_555 at hf
  cases hf
  exact s_le.rf
theorem l_L_law_624 {v0 : Nat} {v1 : Nat} {v2 : Nat} {v3 : Nat} {v4 : Int32} {w0 : Int64} {w1 : Int64} {σ : sS} {z : sZ Int32} (hf : T_L_law_624 v0 v1 v2 v3 v4 w0 w1 σ = some z) : s_lz σ z := by
  unfold T_L_law_624 at hf
  rcases s_ite hf with ⟨-, hf⟩ | ⟨-, hf⟩
  · cases hf
    exact s_le.rf
  · cases hf
    exact s_le.rf
theorem l_L_law_630 {v0 : Nat} {v1 : Nat} {v2 : Nat} {v3 : Nat} {v4 : Int32} {σ : sS} {z : sZ Int32} (hf : T_L_law_630 v0 v1 v2 v3 v4 σ = some z) : s_lz σ z := by
  unfold T_L_law_630 at hf
  cases hf
  exact s_le.rf
theorem l_L_law_686 {v0 : Nat} {v1 : Nat} {v2 : Nat} {v3 : Nat} {v4 : Int32} {σ : sS} {z : sZ Int32} (hf : T_L_law_686 v0 v1 v2 v3 v4 σ = some z) : s_lz σ z := by
  unfold T_L_law_686 at hf
  cases hf
  exact s_le.rf
theorem l_L_law_754 {v0 : Nat} {v1 : Nat} {v2 : Nat} {v3 : Nat} {v4 : Int32} {σ : sS} {z : sZ Int32} (hf : T_L_law_754 v0 v1 v2 v3 v4 σ = some z) : s_lz σ z := by
  unfold T_L_law_754 at hf
  cases hf
  exact s_le.rf
theorem l_L_law_834 {v0 : Nat} {v1 : Nat} {v2 : Nat} {v3 : Nat} {v4 : Int32} {σ : sS} {z : sZ Int32} (hf : T_L_law_834 v0 v1 v2 v3 v4 σ = some z) : s_lz σ z := by
  unfold T_L_law_834 at hf
  cases hf
  exact s_le.rf
theorem l_L_law_864 {v0 : Nat} {v1 : Nat} {v2 : Nat} {v3 : Nat} {v4 : Int32} {w0 : Int32} {w1 : Int32} {w2 : Int32} {w3 : Nat} {σ : sS} {z : sZ Int32} (hf : T_L_law_864 v0 v1 v2 v3 v4 w0 w1 w2 w3 σ = some z) : s_lz σ z := by
  unfold T_L_law_864 at hf
  obtain ⟨q1, hh, hf⟩ := s_bind hf
  refine s_lz.tr (l_L_believe hh) ?_
  obtain ⟨x2, -, hf⟩ := s_bind hf
  obtain ⟨x3, -, hf⟩ := s_bind hf
  obtain ⟨x4, -, hf⟩ := s_bind hf
  rcases s_ite hf with ⟨-, hf⟩ | ⟨-, hf⟩
  · cases hf
    exact s_le.rf
  · cases hf
    exact s_le.rf
theorem l_L_law_897 {v0 : Nat} {v1 : Nat} {v2 : Nat} {v3 : Nat} {v4 : Int32} {v5 : Int32} {w0 : Int32} {w1 : Int32} {w2 : Int32} {w3 : Nat} {σ : sS} {z : sZ Int32} (hf : T_L_law_897 v0 v1 v2 v3 v4 v5 w0 w1 w2 w3 σ = some z) : s_lz σ z := by
  unfold T_L_law_897 at hf
  obtain ⟨q1, hh, hf⟩ := s_bind hf
  refine s_lz.tr (l_X8_believe hh) ?_
  obtain ⟨q2, hh, hf⟩ := s_bind hf
  refine s_lz.tr (l_X8_thrown hh) ?_
  rcases s_ite hf with ⟨-, hf⟩ | ⟨-, hf⟩
  · rcases s_ite hf with ⟨-, hf⟩ | ⟨-, hf⟩
    · obtain ⟨x3, -, hf⟩ := s_bind hf
      rcases s_ite hf with ⟨-, hf⟩ | ⟨-, hf⟩
      · cases hf
        exact s_le.rf
      · cases hf
        exact s_le.rf
    · cases hf
      exact s_le.rf
  · cases hf
    exact s_le.rf
theorem l_L_law_931 {v0 : Nat} {v1 : Nat} {v2 : Nat} {v3 : Nat} {v4 : Int32} {w0 : Int64} {w1 : Int64} {σ : sS} {z : sZ Int32} (hf : T_L_law_931 v0 v1 v2 v3 v4 w0 w1 σ = some z) : s_lz σ z := by
  unfold T_L_law_931 at hf
  rcases s_ite hf with ⟨-, hf⟩ | ⟨-, hf⟩
  · cases hf
    exact s_le.rf
  · cases hf
    exact s_le.rf
theorem l_L_law_937 {v0 : Nat} {v1 : Nat} {v2 : Nat} {v3 : Nat} {v4 : Int32} {σ : sS} {z : sZ Int32} (hf : T_L_law_937 v0 v1 v2 v3 v4 σ = some z) : s_lz σ z := by
  unfold T_L_law_937 at hf
  cases hf
  exact s_le.rf
theorem l_L_law_993 {v0 : Nat} {v1 : Nat} {v2 : Nat} {v3 : Nat} {v4 : Int32} {σ : sS} {z : sZ Int32} (hf : T_L_law_993 v0 v1 v2 v3 v4 σ = some z) : s_lz σ z := by
  unfold T_L_law_993 at hf
  cases hf
  exact s_le.rf
theorem l_L_law_1111 {v0 : Nat} {v1 : Nat} {v2 : Nat} {v3 : Nat} {v4 : Int32} {σ : sS} {z : sZ Int32} (hf : T_L_law_1111 v0 v1 v2 v3 v4 σ = some z) : s_lz σ z := by
  unfold T_L_law_1111 at hf
  cases hf
  exact s_le.rf
theorem l_L_law_1179 {v0 : Nat} {v1 : Nat} {v2 : Nat} {v3 : Nat} {v4 : Int32} {σ : sS} {z : sZ Int32} (hf : T_L_law_1179 v0 v1 v2 v3 v4 σ = some z) : s_lz σ z := by
  unfold T_L_law_1179 at hf
  cases hf
  exact s_le.rf
theorem l_L_law_1248 {v0 : Nat} {v1 : Nat} {v2 : Nat} {v3 : Nat} {v4 : Int32} {w0 : Int64} {w1 : Int64} {σ : sS} {z : sZ Int32} (hf : T_L_law_1248 v0 v1 v2 v3 v4 w0 w1 σ = some z) : s_lz σ z := by
  unfold T_L_law_1248 at hf
  rcases s_ite hf with ⟨-, hf⟩ | ⟨-, hf⟩
  · cases hf
    exact s_le.rf
  · cases hf
    exact s_le.rf
theorem l_L_law_1254 {v0 : Nat} {v1 : Nat} {v2 : Nat} {v3 : Nat} {v4 : Int32} {σ : sS} {z : sZ Int32} (hf : T_L_law_1254 v0 v1 v2 v3 v4 σ = some z) : s_lz σ z := by
  unfold T_L_law_1254 at hf
  cases hf
  exact s_le.rf
theorem l_L_law_1322 {v0 : Nat} {v1 : Nat} {v2 : Nat} {v3 : Nat} {v4 : Int32} {σ : sS} {z : sZ Int32} (hf : T_L_law_1322 v0 v1 v2 v3 v4 σ = some z) : s_lz σ z := by
  unfold T_L_law_1322 at hf
  cases hf
  exact s_le.rf
theorem l_L_law_1377 {v0 : Nat} {v1 : Nat} {v2 : Nat} {v3 : Nat} {v4 : Int32} {σ : sS} {z : sZ Int32} (hf : T_L_law_1377 v0 v1 v2 v3 v4 σ = some z) : s_lz σ z := by
  unfold T_L_law_1377 at hf
  cases hf
  exact s_le.rf
theorem l_L_law_1433 {v0 : Nat} {v1 : Nat} {v2 : Nat} {v3 : Nat} {v4 : Int32} {σ : sS} {z : sZ Int32} (hf : T_L_law_1433 v0 v1 v2 v3 v4 σ = some z) : s_lz σ z := by
  unfold T_L_law_1433 at hf
  cases hf
  exact s_le.rf
theorem l_L_law_1500 {v0 : Nat} {v1 : Nat} {v2 : Nat} {v3 : Nat} {v4 : Int32} {σ : sS} {z : sZ Int32} (hf : T_L_law_1500 v0 v1 v2 v3 v4 σ = some z) : s_lz σ z := by
  unfold T_L_law_1500 at hf
  cases hf
  exact s_le.rf
theorem l_L_law_1569 {v0 : Nat} {v1 : Nat} {v2 : Nat} {v3 : Nat} {v4 : Int32} {w0 : Int64} {w1 : Int64} {σ : sS} {z : sZ Int32} (hf : T_L_law_1569 v0 v1 v2 v3 v4 w0 w1 σ = some z) : s_lz σ z := by
  unfold T_L_law_1569 at hf
  rcases s_ite hf with ⟨-, hf⟩ | ⟨-, hf⟩
  · cases hf
    exact s_le.rf
  · cases hf
    exact s_le.rf
theorem l_L_law_1575 {v0 : Nat} {v1 : Nat} {v2 : Nat} {v3 : Nat} {v4 : Int32} {σ : sS} {z : sZ Int32} (hf : T_L_law_1575 v0 v1 v2 v3 v4 σ = some z) : s_lz σ z := by
  unfold T_L_law_1575 at hf
  cases hf
  exact s_le.rf
theorem l_L_law_1643 {v0 : Nat} {v1 : Nat} {v2 : Nat} {v3 : Nat} {v4 : Int32} {σ : sS} {z : sZ Int32} (hf : T_L_law_1643 v0 v1 v2 v3 v4 σ = some z) : s_lz σ z := by
  unfold T_L_law_1643 at hf
  cases hf
  exact s_le.rf
theorem l_L_law_1723 {v0 : Nat} {v1 : Nat} {v2 : Nat} {v3 : Nat} {v4 : Int32} {σ : sS} {z : sZ Int32} (hf : T_L_law_1723 v0 v1 v2 v3 v4 σ = some z) : s_lz σ z := by
  unfold T_L_law_1723 at hf
  cases hf
  exact s_le.rf
theorem l_L_law_1803 {v0 : Nat} {v1 : Nat} {v2 : Nat} {v3 : Nat} {v4 : Int32} {σ : sS} {z : sZ Int32} (hf : T_L_law_1803 v0 v1 v2 v3 v4 σ = some z) : s_lz σ z := by
  unfold T_L_law_1803 at hf
  cases hf
  exact s_le.rf
theorem l_L_law_1871 {v0 : Nat} {v1 : Nat} {v2 : Nat} {v3 : Nat} {v4 : Int32} {σ : sS} {z : sZ Int32} (hf : T_L_law_1871 v0 v1 v2 v3 v4 σ = some z) : s_lz σ z := by
  unfold T_L_law_1871 at hf
  cases hf
  exact s_le.rf
theorem l_L_law_1951 {v0 : Nat} {v1 : Nat} {v2 : Nat} {v3 : Nat} {v4 : Int32} {σ : sS} {z : sZ Int32} (hf : T_L_law_1951 v0 v1 v2 v3 v4 σ = some z) : s_lz σ z := by
  unfold T_L_law_1951 at hf
  cases hf
  exact s_le.rf
theorem l_L_law_2031 {v0 : Nat} {v1 : Nat} {v2 : Nat} {v3 : Nat} {v4 : Int32} {σ : sS} {z : sZ Int32} (hf : T_L_law_2031 v0 v1 v2 v3 v4 σ = some z) : s_lz σ z := by
  unfold T_L_law_2031 at hf
  cases hf
  exact s_le.rf
theorem l_L_law_2087 {v0 : Nat} {v1 : Nat} {v2 : Nat} {v3 : Nat} {v4 : Int32} {σ : sS} {z : sZ Int32} (hf : T_L_law_2087 v0 v1 v2 v3 v4 σ = some z) : s_lz σ z := by
  unfold T_L_law_2087 at hf
  cases hf
  exact s_le.rf
theorem l_L_law_2155 {v0 : Nat} {v1 : Nat} {v2 : Nat} {v3 : Nat} {v4 : Int32} {σ : sS} {z : sZ Int32} (hf : T_L_law_2155 v0 v1 v2 v3 v4 σ = some z) : s_lz σ z := by
  unfold T_L_law_2155 at hf
  cases hf
  exact s_le.rf
theorem l_L_law_2211 {v0 : Nat} {v1 : Nat} {v2 : Nat} {v3 : Nat} {v4 : Int32} {σ : sS} {z : sZ Int32} (hf : T_L_law_2211 v0 v1 v2 v3 v4 σ = some z) : s_lz σ z := by
  unfold T_L_law_2211 at hf
  cases hf
  exact s_le.rf
theorem l_L_law_2267 {v0 : Nat} {v1 : Nat} {v2 : Nat} {v3 : Nat} {v4 : Int32} {σ : sS} {z : sZ Int32} (hf : T_L_law_2267 v0 v1 v2 v3 v4 σ = some z) : s_lz σ z := by
  unfold T_L_law_2267 at hf
  cases hf
  exact s_le.rf
theorem l_L_law_2323 {v0 : Nat} {v1 : Nat} {v2 : Nat} {v3 : Nat} {v4 : Int32} {σ : sS} {z : sZ Int32} (hf : T_L_law_2323 v0 v1 v2 v3 v4 σ = some z) : s_lz σ z := by
  unfold T_L_law_2323 at hf
  cases hf
  exact s_le.rf
theorem l_L_law_2379 {v0 : Nat} {v1 : Nat} {v2 : Nat} {v3 : Nat} {v4 : Int32} {σ : sS} {z : sZ Int32} (hf : T_L_law_2379 v0 v1 v2 v3 v4 σ = some z) : s_lz σ z := by
  unfold T_L_law_2379 at hf
  cases hf
  exact s_le.rf
theorem l_L_law_2447 {v0 : Nat} {v1 : Nat} {v2 : Nat} {v3 : Nat} {v4 : Int32} {σ : sS} {z : sZ Int32} (hf : T_L_law_2447 v0 v1 v2 v3 v4 σ = some z) : s_lz σ z := by
  unfold T_L_law_2447 at hf
  cases hf
  exact s_le.rf
theorem l_L_law_2515 {v0 : Nat} {v1 : Nat} {v2 : Nat} {v3 : Nat} {v4 : Int32} {σ : sS} {z : sZ Int32} (hf : T_L_law_2515 v0 v1 v2 v3 v4 σ = some z) : s_lz σ z := by
  unfold T_L_law_2515 at hf
  cases hf
  exact s_le.rf
theorem l_L_law_2607 {v0 : Nat} {v1 : Nat} {v2 : Nat} {v3 : Nat} {v4 : Int32} {σ : sS} {z : sZ Int32} (hf : T_L_law_2607 v0 v1 v2 v3 v4 σ = some z) : s_lz σ z := by
  unfold T_L_law_2607 at hf
  cases hf
  exact s_le.rf
theorem l_L_law_2664 {v0 : Nat} {v1 : Nat} {v2 : Nat} {v3 : Nat} {v4 : Int32} {w0 : Int64} {w1 : Int64} {σ : sS} {z : sZ Int32} (hf : T_L_law_2664 v0 v1 v2 v3 v4 w0 w1 σ = some z) : s_lz σ z := by
  unfold T_L_law_2664 at hf
  rcases s_ite hf with ⟨-, hf⟩ | ⟨-, hf⟩
  · cases hf
    exact s_le.rf
  · cases hf
    exact s_le.rf
theorem l_L_law_2670 {v0 : Nat} {v1 : Nat} {v2 : Nat} {v3 : Nat} {v4 : Int32} {σ : sS} {z : sZ Int32} (hf : T_L_law_2670 v0 v1 v2 v3 v4 σ = some z) : s_lz σ z := by
  unfold T_L_law_2670 at hf
  cases hf
  exact s_le.rf
theorem l_L_law_2750 {v0 : Nat} {v1 : Nat} {v2 : Nat} {v3 : Nat} {v4 : Int32} {σ : sS} {z : sZ Int32} (hf : T_L_law_2750 v0 v1 v2 v3 v4 σ = some z) : s_lz σ z := by
  unfold T_L_law_2750 at hf
  cases hf
  exact s_le.rf
theorem l_L_law_2806 {v0 : Nat} {v1 : Nat} {v2 : Nat} {v3 : Nat} {v4 : Int32} {σ : sS} {z : sZ Int32} (hf : T_L_law_2806 v0 v1 v2 v3 v4 σ = some z) : s_lz σ z := by
  unfold T_L_law_2806 at hf
  cases hf
  exact s_le.rf
theorem l_L_law_2875 {v0 : Nat} {v1 : Nat} {v2 : Nat} {v3 : Nat} {v4 : Int32} {σ : sS} {z : sZ Int32} (hf : T_L_law_2875 v0 v1 v2 v3 v4 σ = some z) : s_lz σ z := by
  unfold T_L_law_2875 at hf
  cases hf
  exact s_le.rf
theorem l_L_law_2927 {v0 : Nat} {v1 : Nat} {v2 : Nat} {v3 : Nat} {v4 : Int32} {σ : sS} {z : sZ Int32} (hf : T_L_law_2927 v0 v1 v2 v3 v4 σ = some z) : s_lz σ z := by
  unfold T_L_law_2927 at hf
  cases hf
  exact s_le.rf
theorem l_L_law_s {x : sL} {z : sZ Int32} (hs : S_L_law x = some z) : s_lz x.2.2 z := by
  obtain ⟨pc, vs, σ⟩ := x
  unfold S_L_law at hs
  dsimp only at hs ⊢
  rcases s_ite hs with ⟨c, hs⟩ | ⟨-, hs⟩
  · subst c
    unfold U_L_law_0 at hs
    obtain ⟨a0, g0, hs⟩ := s_bind hs
    obtain ⟨a1, g1, hs⟩ := s_bind hs
    obtain ⟨u9, ge, hs⟩ := s_bind hs
    exact l_L_law_0 hs
  rcases s_ite hs with ⟨c, hs⟩ | ⟨-, hs⟩
  · subst c
    unfold U_L_law_23 at hs
    obtain ⟨a0, g0, hs⟩ := s_bind hs
    obtain ⟨a1, g1, hs⟩ := s_bind hs
    obtain ⟨a2, g2, hs⟩ := s_bind hs
    obtain ⟨a3, g3, hs⟩ := s_bind hs
    obtain ⟨a4, g4, hs⟩ := s_bind hs
    obtain ⟨u9, ge, hs⟩ := s_bind hs
    exact l_L_law_23 hs
  rcases s_ite hs with ⟨c, hs⟩ | ⟨-, hs⟩
  · subst c
    unfold U_L_law_375 at hs
    obtain ⟨a0, g0, hs⟩ := s_bind hs
    obtain ⟨a1, g1, hs⟩ := s_bind hs
    obtain ⟨a2, g2, hs⟩ := s_bind hs
    obtain ⟨a3, g3, hs⟩ := s_bind hs
    obtain ⟨a4, g4, hs⟩ := s_bind hs
    obtain ⟨u9, ge, hs⟩ := s_bind hs
    exact l_L_law_375 hs
  rcases s_ite hs with ⟨c, hs⟩ | ⟨-, hs⟩
  · subst c
    unfold U_L_law_480 at hs
    obtain ⟨a0, g0, hs⟩ := s_bind hs
    obtain ⟨a1, g1, hs⟩ := s_bind hs
    obtain ⟨a2, g2, hs⟩ := s_bind hs
    obtain ⟨a3, g3, hs⟩ := s_bind hs
    obtain ⟨a4, g4, hs⟩ := s_bind hs
    obtain ⟨u9, ge, hs⟩ := s_bind hs
    exact l_L_law_480 hs
  rcases s_ite hs with ⟨c, hs⟩ | ⟨-, hs⟩
  · subst c
    unfold U_L_law_549 at hs
    obtain ⟨a0, g0, hs⟩ := s_bind hs
    obtain ⟨a1, g1, hs⟩ := s_bind hs
    obtain ⟨a2, g2, hs⟩ := s_bind hs
    obtain ⟨a3, g3, hs⟩ := s_bind hs
    obtain ⟨a4, g4, hs⟩ := s_bind hs
    obtain ⟨a5, g5, hs⟩ := s_bind hs
    obtain ⟨a6, g6, hs⟩ := s_bind hs
    obtain ⟨u9, ge, hs⟩ := s_bind hs
    exact l_L_law_549 hs
  rcases s_ite hs with ⟨c, hs⟩ | ⟨-, hs⟩
  · subst c
    unfold U_L_law_555 at hs
    obtain ⟨a0, g0, hs⟩ := s_bind hs
    obtain ⟨a1, g1, hs⟩ := s_bind hs
    obtain ⟨a2, g2, hs⟩ := s_bind hs
    obtain ⟨a3, g3, hs⟩ := s_bind hs
    obtain ⟨a4, g4, hs⟩ := s_bind hs
    obtain ⟨u9, ge, hs⟩ := s_bind hs
    exact l_L_law_555 hs
  rcases s_ite hs with ⟨c, hs⟩ | ⟨-, hs⟩
  · subst c
    unfold U_L_law_624 at hs
    obtain ⟨a0, g0, hs⟩ := s_bind hs
    obtain ⟨a1, g1, hs⟩ := s_bind hs
    obtain ⟨a2, g2, hs⟩ := s_bind hs
    obtain ⟨a3, g3, hs⟩ := s_bind hs
    obtain ⟨a4, g4, hs⟩ := s_bind hs
    obtain ⟨a5, g5, hs⟩ := s_bind hs
    obtain ⟨a6, g6, hs⟩ := s_bind hs
    obtain ⟨u9, ge, hs⟩ := s_bind hs
    exact l_L_law_624 hs
  rcases s_ite hs with ⟨c, hs⟩ | ⟨-, hs⟩
  · subst c
    unfold U_L_law_630 at hs
    obtain ⟨a0, g0, hs⟩ := s_bind hs
    obtain ⟨a1, g1, hs⟩ := s_bind hs
    obtain ⟨a2, g2, hs⟩ := s_bind hs
    obtain ⟨a3, g3, hs⟩ := s_bind hs
    obtain ⟨a4, g4, hs⟩ := s_bind hs
    obtain ⟨u9, ge, hs⟩ := s_bind hs
    exact l_L_law_630 hs
  rcases s_ite hs with ⟨c, hs⟩ | ⟨-, hs⟩
  · subst c
    unfold U_L_law_686 at hs
    obtain ⟨a0, g0, hs⟩ := s_bind hs
    obtain ⟨a1, g1, hs⟩ := s_bind hs
    obtain ⟨a2, g2, hs⟩ := s_bind hs
    obtain ⟨a3, g3, hs⟩ := s_bind hs
    obtain ⟨a4, g4, hs⟩ := s_bind hs
    obtain ⟨u9, ge, hs⟩ := s_bind hs
    exact l_L_law_686 hs
  rcases s_ite hs with ⟨c, hs⟩ | ⟨-, hs⟩
  · subst c
    unfold U_L_law_754 at hs
    obtain ⟨a0, g0, hs⟩ := s_bind hs
    obtain ⟨a1, g1, hs⟩ := s_bind hs
    obtain ⟨a2, g2, hs⟩ := s_bind hs
    obtain ⟨a3, g3, hs⟩ := s_bind hs
    obtain ⟨a4, g4, hs⟩ := s_bind hs
    obtain ⟨u9, ge, hs⟩ := s_bind hs
    exact l_L_law_754 hs
  rcases s_ite hs with ⟨c, hs⟩ | ⟨-, hs⟩
  · subst c
    unfold U_L_law_834 at hs
    obtain ⟨a0, g0, hs⟩ := s_bind hs
    obtain ⟨a1, g1, hs⟩ := s_bind hs
    obtain ⟨a2, g2, hs⟩ := s_bind hs
    obtain ⟨a3, g3, hs⟩ := s_bind hs
    obtain ⟨a4, g4, hs⟩ := s_bind hs
    obtain ⟨u9, ge, hs⟩ := s_bind hs
    exact l_L_law_834 hs
  rcases s_ite hs with ⟨c, hs⟩ | ⟨-, hs⟩
  · subst c
    unfold U_L_law_864 at hs
    obtain ⟨a0, g0, hs⟩ := s_bind hs
    obtain ⟨a1, g1, hs⟩ := s_bind hs
    obtain ⟨a2, g2, hs⟩ := s_bind hs
    obtain ⟨a3, g3, hs⟩ := s_bind hs
    obtain ⟨a4, g4, hs⟩ := s_bind hs
    obtain ⟨a5, g5, hs⟩ := s_bind hs
    obtain ⟨a6, g6, hs⟩ := s_bind hs
    obtain ⟨a7, g7, hs⟩ := s_bind hs
    obtain ⟨a8, g8, hs⟩ := s_bind hs
    obtain ⟨u9, ge, hs⟩ := s_bind hs
    exact l_L_law_864 hs
  rcases s_ite hs with ⟨c, hs⟩ | ⟨-, hs⟩
  · subst c
    unfold U_L_law_897 at hs
    obtain ⟨a0, g0, hs⟩ := s_bind hs
    obtain ⟨a1, g1, hs⟩ := s_bind hs
    obtain ⟨a2, g2, hs⟩ := s_bind hs
    obtain ⟨a3, g3, hs⟩ := s_bind hs
    obtain ⟨a4, g4, hs⟩ := s_bind hs
    obtain ⟨a5, g5, hs⟩ := s_bind hs
    obtain ⟨a6, g6, hs⟩ := s_bind hs
    obtain ⟨a7, g7, hs⟩ := s_bind hs
    obtain ⟨a8, g8, hs⟩ := s_bind hs
    obtain ⟨a9, g9, hs⟩ := s_bind hs
    obtain ⟨u9, ge, hs⟩ := s_bind hs
    exact l_L_law_897 hs
  rcases s_ite hs with ⟨c, hs⟩ | ⟨-, hs⟩
  · subst c
    unfold U_L_law_931 at hs
    obtain ⟨a0, g0, hs⟩ := s_bind hs
    obtain ⟨a1, g1, hs⟩ := s_bind hs
    obtain ⟨a2, g2, hs⟩ := s_bind hs
    obtain ⟨a3, g3, hs⟩ := s_bind hs
    obtain ⟨a4, g4, hs⟩ := s_bind hs
    obtain ⟨a5, g5, hs⟩ := s_bind hs
    obtain ⟨a6, g6, hs⟩ := s_bind hs
    obtain ⟨u9, ge, hs⟩ := s_bind hs
    exact l_L_law_931 hs
  rcases s_ite hs with ⟨c, hs⟩ | ⟨-, hs⟩
  · subst c
    unfold U_L_law_937 at hs
    obtain ⟨a0, g0, hs⟩ := s_bind hs
    obtain ⟨a1, g1, hs⟩ := s_bind hs
    obtain ⟨a2, g2, hs⟩ := s_bind hs
    obtain ⟨a3, g3, hs⟩ := s_bind hs
    obtain ⟨a4, g4, hs⟩ := s_bind hs
    obtain ⟨u9, ge, hs⟩ := s_bind hs
    exact l_L_law_937 hs
  rcases s_ite hs with ⟨c, hs⟩ | ⟨-, hs⟩
  · subst c
    unfold U_L_law_993 at hs
    obtain ⟨a0, g0, hs⟩ := s_bind hs
    obtain ⟨a1, g1, hs⟩ := s_bind hs
    obtain ⟨a2, g2, hs⟩ := s_bind hs
    obtain ⟨a3, g3, hs⟩ := s_bind hs
    obtain ⟨a4, g4, hs⟩ := s_bind hs
    obtain ⟨u9, ge, hs⟩ := s_bind hs
    exact l_L_law_993 hs
  rcases s_ite hs with ⟨c, hs⟩ | ⟨-, hs⟩
  · subst c
    unfold U_L_law_1111 at hs
    obtain ⟨a0, g0, hs⟩ := s_bind hs
    obtain ⟨a1, g1, hs⟩ := s_bind hs
    obtain ⟨a2, g2, hs⟩ := s_bind hs
    obtain ⟨a3, g3, hs⟩ := s_bind hs
    obtain ⟨a4, g4, hs⟩ := s_bind hs
    obtain ⟨u9, ge, hs⟩ := s_bind hs
    exact l_L_law_1111 hs
  rcases s_ite hs with ⟨c, hs⟩ | ⟨-, hs⟩
  · subst c
    unfold U_L_law_1179 at hs
    obtain ⟨a0, g0, hs⟩ := s_bind hs
    obtain ⟨a1, g1, hs⟩ := s_bind hs
    obtain ⟨a2, g2, hs⟩ := s_bind hs
    obtain ⟨a3, g3, hs⟩ := s_bind hs
    obtain ⟨a4, g4, hs⟩ := s_bind hs
    obtain ⟨u9, ge, hs⟩ := s_bind hs
    exact l_L_law_1179 hs
  rcases s_ite hs with ⟨c, hs⟩ | ⟨-, hs⟩
  · subst c
    unfold U_L_law_1248 at hs
    obtain ⟨a0, g0, hs⟩ := s_bind hs
    obtain ⟨a1, g1, hs⟩ := s_bind hs
    obtain ⟨a2, g2, hs⟩ := s_bind hs
    obtain ⟨a3, g3, hs⟩ := s_bind hs
    obtain ⟨a4, g4, hs⟩ := s_bind hs
    obtain ⟨a5, g5, hs⟩ := s_bind hs
    obtain ⟨a6, g6, hs⟩ := s_bind hs
    obtain ⟨u9, ge, hs⟩ := s_bind hs
    exact l_L_law_1248 hs
  rcases s_ite hs with ⟨c, hs⟩ | ⟨-, hs⟩
  · subst c
    unfold U_L_law_1254 at hs
    obtain ⟨a0, g0, hs⟩ := s_bind hs
    obtain ⟨a1, g1, hs⟩ := s_bind hs
    obtain ⟨a2, g2, hs⟩ := s_bind hs
    obtain ⟨a3, g3, hs⟩ := s_bind hs
    obtain ⟨a4, g4, hs⟩ := s_bind hs
    obtain ⟨u9, ge, hs⟩ := s_bind hs
    exact l_L_law_1254 hs
  rcases s_ite hs with ⟨c, hs⟩ | ⟨-, hs⟩
  · subst c
    unfold U_L_law_1322 at hs
    obtain ⟨a0, g0, hs⟩ := s_bind hs
    obtain ⟨a1, g1, hs⟩ := s_bind hs
    obtain ⟨a2, g2, hs⟩ := s_bind hs
    obtain ⟨a3, g3, hs⟩ := s_bind hs
    obtain ⟨a4, g4, hs⟩ := s_bind hs
    obtain ⟨u9, ge, hs⟩ := s_bind hs
    exact l_L_law_1322 hs
  rcases s_ite hs with ⟨c, hs⟩ | ⟨-, hs⟩
  · subst c
    unfold U_L_law_1377 at hs
    obtain ⟨a0, g0, hs⟩ := s_bind hs
    obtain ⟨a1, g1, hs⟩ := s_bind hs
    obtain ⟨a2, g2, hs⟩ := s_bind hs
    obtain ⟨a3, g3, hs⟩ := s_bind hs
    obtain ⟨a4, g4, hs⟩ := s_bind hs
    obtain ⟨u9, ge, hs⟩ := s_bind hs
    exact l_L_law_1377 hs
  rcases s_ite hs with ⟨c, hs⟩ | ⟨-, hs⟩
  · subst c
    unfold U_L_law_1433 at hs
    obtain ⟨a0, g0, hs⟩ := s_bind hs
    obtain ⟨a1, g1, hs⟩ := s_bind hs
    obtain ⟨a2, g2, hs⟩ := s_bind hs
    obtain ⟨a3, g3, hs⟩ := s_bind hs
    obtain ⟨a4, g4, hs⟩ := s_bind hs
    obtain ⟨u9, ge, hs⟩ := s_bind hs
    exact l_L_law_1433 hs
  rcases s_ite hs with ⟨c, hs⟩ | ⟨-, hs⟩
  · subst c
    unfold U_L_law_1500 at hs
    obtain ⟨a0, g0, hs⟩ := s_bind hs
    obtain ⟨a1, g1, hs⟩ := s_bind hs
    obtain ⟨a2, g2, hs⟩ := s_bind hs
    obtain ⟨a3, g3, hs⟩ := s_bind hs
    obtain ⟨a4, g4, hs⟩ := s_bind hs
    obtain ⟨u9, ge, hs⟩ := s_bind hs
    exact l_L_law_1500 hs
  rcases s_ite hs with ⟨c, hs⟩ | ⟨-, hs⟩
  · subst c
    unfold U_L_law_1569 at hs
    obtain ⟨a0, g0, hs⟩ := s_bind hs
    obtain ⟨a1, g1, hs⟩ := s_bind hs
    obtain ⟨a2, g2, hs⟩ := s_bind hs
    obtain ⟨a3, g3, hs⟩ := s_bind hs
    obtain ⟨a4, g4, hs⟩ := s_bind hs
    obtain ⟨a5, g5, hs⟩ := s_bind hs
    obtain ⟨a6, g6, hs⟩ := s_bind hs
    obtain ⟨u9, ge, hs⟩ := s_bind hs
    exact l_L_law_1569 hs
  rcases s_ite hs with ⟨c, hs⟩ | ⟨-, hs⟩
  · subst c
    unfold U_L_law_1575 at hs
    obtain ⟨a0, g0, hs⟩ := s_bind hs
    obtain ⟨a1, g1, hs⟩ := s_bind hs
    obtain ⟨a2, g2, hs⟩ := s_bind hs
    obtain ⟨a3, g3, hs⟩ := s_bind hs
    obtain ⟨a4, g4, hs⟩ := s_bind hs
    obtain ⟨u9, ge, hs⟩ := s_bind hs
    exact l_L_law_1575 hs
  rcases s_ite hs with ⟨c, hs⟩ | ⟨-, hs⟩
  · subst c
    unfold U_L_law_1643 at hs
    obtain ⟨a0, g0, hs⟩ := s_bind hs
    obtain ⟨a1, g1, hs⟩ := s_bind hs
    obtain ⟨a2, g2, hs⟩ := s_bind hs
    obtain ⟨a3, g3, hs⟩ := s_bind hs
    obtain ⟨a4, g4, hs⟩ := s_bind hs
    obtain ⟨u9, ge, hs⟩ := s_bind hs
    exact l_L_law_1643 hs
  rcases s_ite hs with ⟨c, hs⟩ | ⟨-, hs⟩
  · subst c
    unfold U_L_law_1723 at hs
    obtain ⟨a0, g0, hs⟩ := s_bind hs
    obtain ⟨a1, g1, hs⟩ := s_bind hs
    obtain ⟨a2, g2, hs⟩ := s_bind hs
    obtain ⟨a3, g3, hs⟩ := s_bind hs
    obtain ⟨a4, g4, hs⟩ := s_bind hs
    obtain ⟨u9, ge, hs⟩ := s_bind hs
    exact l_L_law_1723 hs
  rcases s_ite hs with ⟨c, hs⟩ | ⟨-, hs⟩
  · subst c
    unfold U_L_law_1803 at hs
    obtain ⟨a0, g0, hs⟩ := s_bind hs
    obtain ⟨a1, g1, hs⟩ := s_bind hs
    obtain ⟨a2, g2, hs⟩ := s_bind hs
    obtain ⟨a3, g3, hs⟩ := s_bind hs
    obtain ⟨a4, g4, hs⟩ := s_bind hs
    obtain ⟨u9, ge, hs⟩ := s_bind hs
    exact l_L_law_1803 hs
  rcases s_ite hs with ⟨c, hs⟩ | ⟨-, hs⟩
  · subst c
    unfold U_L_law_1871 at hs
    obtain ⟨a0, g0, hs⟩ := s_bind hs
    obtain ⟨a1, g1, hs⟩ := s_bind hs
    obtain ⟨a2, g2, hs⟩ := s_bind hs
    obtain ⟨a3, g3, hs⟩ := s_bind hs
    obtain ⟨a4, g4, hs⟩ := s_bind hs
    obtain ⟨u9, ge, hs⟩ := s_bind hs
    exact l_L_law_1871 hs
  rcases s_ite hs with ⟨c, hs⟩ | ⟨-, hs⟩
  · subst c
    unfold U_L_law_1951 at hs
    obtain ⟨a0, g0, hs⟩ := s_bind hs
    obtain ⟨a1, g1, hs⟩ := s_bind hs
    obtain ⟨a2, g2, hs⟩ := s_bind hs
    obtain ⟨a3, g3, hs⟩ := s_bind hs
    obtain ⟨a4, g4, hs⟩ := s_bind hs
    obtain ⟨u9, ge, hs⟩ := s_bind hs
    exact l_L_law_1951 hs
  rcases s_ite hs with ⟨c, hs⟩ | ⟨-, hs⟩
  · subst c
    unfold U_L_law_2031 at hs
    obtain ⟨a0, g0, hs⟩ := s_bind hs
    obtain ⟨a1, g1, hs⟩ := s_bind hs
    obtain ⟨a2, g2, hs⟩ := s_bind hs
    obtain ⟨a3, g3, hs⟩ := s_bind hs
    obtain ⟨a4, g4, hs⟩ := s_bind hs
    obtain ⟨u9, ge, hs⟩ := s_bind hs
    exact l_L_law_2031 hs
  rcases s_ite hs with ⟨c, hs⟩ | ⟨-, hs⟩
  · subst c
    unfold U_L_law_2087 at hs
    obtain ⟨a0, g0, hs⟩ := s_bind hs
    obtain ⟨a1, g1, hs⟩ := s_bind hs
    obtain ⟨a2, g2, hs⟩ := s_bind hs
    obtain ⟨a3, g3, hs⟩ := s_bind hs
    obtain ⟨a4, g4, hs⟩ := s_bind hs
    obtain ⟨u9, ge, hs⟩ := s_bind hs
    exact l_L_law_2087 hs
  rcases s_ite hs with ⟨c, hs⟩ | ⟨-, hs⟩
  · subst c
    unfold U_L_law_2155 at hs
    obtain ⟨a0, g0, hs⟩ := s_bind hs
    obtain ⟨a1, g1, hs⟩ := s_bind hs
    obtain ⟨a2, g2, hs⟩ := s_bind hs
    obtain ⟨a3, g3, hs⟩ := s_bind hs
    obtain ⟨a4, g4, hs⟩ := s_bind hs
    obtain ⟨u9, ge, hs⟩ := s_bind hs
    exact l_L_law_2155 hs
  rcases s_ite hs with ⟨c, hs⟩ | ⟨-, hs⟩
  · subst c
    unfold U_L_law_2211 at hs
    obtain ⟨a0, g0, hs⟩ := s_bind hs
    obtain ⟨a1, g1, hs⟩ := s_bind hs
    obtain ⟨a2, g2, hs⟩ := s_bind hs
    obtain ⟨a3, g3, hs⟩ := s_bind hs
    obtain ⟨a4, g4, hs⟩ := s_bind hs
    obtain ⟨u9, ge, hs⟩ := s_bind hs
    exact l_L_law_2211 hs
  rcases s_ite hs with ⟨c, hs⟩ | ⟨-, hs⟩
  · subst c
    unfold U_L_law_2267 at hs
    obtain ⟨a0, g0, hs⟩ := s_bind hs
    obtain ⟨a1, g1, hs⟩ := s_bind hs
    obtain ⟨a2, g2, hs⟩ := s_bind hs
    obtain ⟨a3, g3, hs⟩ := s_bind hs
    obtain ⟨a4, g4, hs⟩ := s_bind hs
    obtain ⟨u9, ge, hs⟩ := s_bind hs
    exact l_L_law_2267 hs
  rcases s_ite hs with ⟨c, hs⟩ | ⟨-, hs⟩
  · subst c
    unfold U_L_law_2323 at hs
    obtain ⟨a0, g0, hs⟩ := s_bind hs
    obtain ⟨a1, g1, hs⟩ := s_bind hs
    obtain ⟨a2, g2, hs⟩ := s_bind hs
    obtain ⟨a3, g3, hs⟩ := s_bind hs
    obtain ⟨a4, g4, hs⟩ := s_bind hs
    obtain ⟨u9, ge, hs⟩ := s_bind hs
    exact l_L_law_2323 hs
  rcases s_ite hs with ⟨c, hs⟩ | ⟨-, hs⟩
  · subst c
    unfold U_L_law_2379 at hs
    obtain ⟨a0, g0, hs⟩ := s_bind hs
    obtain ⟨a1, g1, hs⟩ := s_bind hs
    obtain ⟨a2, g2, hs⟩ := s_bind hs
    obtain ⟨a3, g3, hs⟩ := s_bind hs
    obtain ⟨a4, g4, hs⟩ := s_bind hs
    obtain ⟨u9, ge, hs⟩ := s_bind hs
    exact l_L_law_2379 hs
  rcases s_ite hs with ⟨c, hs⟩ | ⟨-, hs⟩
  · subst c
    unfold U_L_law_2447 at hs
    obtain ⟨a0, g0, hs⟩ := s_bind hs
    obtain ⟨a1, g1, hs⟩ := s_bind hs
    obtain ⟨a2, g2, hs⟩ := s_bind hs
    obtain ⟨a3, g3, hs⟩ := s_bind hs
    obtain ⟨a4, g4, hs⟩ := s_bind hs
    obtain ⟨u9, ge, hs⟩ := s_bind hs
    exact l_L_law_2447 hs
  rcases s_ite hs with ⟨c, hs⟩ | ⟨-, hs⟩
  · subst c
    unfold U_L_law_2515 at hs
    obtain ⟨a0, g0, hs⟩ := s_bind hs
    obtain ⟨a1, g1, hs⟩ := s_bind hs
    obtain ⟨a2, g2, hs⟩ := s_bind hs
    obtain ⟨a3, g3, hs⟩ := s_bind hs
    obtain ⟨a4, g4, hs⟩ := s_bind hs
    obtain ⟨u9, ge, hs⟩ := s_bind hs
    exact l_L_law_2515 hs
  rcases s_ite hs with ⟨c, hs⟩ | ⟨-, hs⟩
  · subst c
    unfold U_L_law_2607 at hs
    obtain ⟨a0, g0, hs⟩ := s_bind hs
    obtain ⟨a1, g1, hs⟩ := s_bind hs
    obtain ⟨a2, g2, hs⟩ := s_bind hs
    obtain ⟨a3, g3, hs⟩ := s_bind hs
    obtain ⟨a4, g4, hs⟩ := s_bind hs
    obtain ⟨u9, ge, hs⟩ := s_bind hs
    exact l_L_law_2607 hs
  rcases s_ite hs with ⟨c, hs⟩ | ⟨-, hs⟩
  · subst c
    unfold U_L_law_2664 at hs
    obtain ⟨a0, g0, hs⟩ := s_bind hs
    obtain ⟨a1, g1, hs⟩ := s_bind hs
    obtain ⟨a2, g2, hs⟩ := s_bind hs
    obtain ⟨a3, g3, hs⟩ := s_bind hs
    obtain ⟨a4, g4, hs⟩ := s_bind hs
    obtain ⟨a5, g5, hs⟩ := s_bind hs
    obtain ⟨a6, g6, hs⟩ := s_bind hs
    obtain ⟨u9, ge, hs⟩ := s_bind hs
    exact l_L_law_2664 hs
  rcases s_ite hs with ⟨c, hs⟩ | ⟨-, hs⟩
  · subst c
    unfold U_L_law_2670 at hs
    obtain ⟨a0, g0, hs⟩ := s_bind hs
    obtain ⟨a1, g1, hs⟩ := s_bind hs
    obtain ⟨a2, g2, hs⟩ := s_bind hs
    obtain ⟨a3, g3, hs⟩ := s_bind hs
    obtain ⟨a4, g4, hs⟩ := s_bind hs
    obtain ⟨u9, ge, hs⟩ := s_bind hs
    exact l_L_law_2670 hs
  rcases s_ite hs with ⟨c, hs⟩ | ⟨-, hs⟩
  · subst c
    unfold U_L_law_2750 at hs
    obtain ⟨a0, g0, hs⟩ := s_bind hs
    obtain ⟨a1, g1, hs⟩ := s_bind hs
    obtain ⟨a2, g2, hs⟩ := s_bind hs
    obtain ⟨a3, g3, hs⟩ := s_bind hs
    obtain ⟨a4, g4, hs⟩ := s_bind hs
    obtain ⟨u9, ge, hs⟩ := s_bind hs
    exact l_L_law_2750 hs
  rcases s_ite hs with ⟨c, hs⟩ | ⟨-, hs⟩
  · subst c
    unfold U_L_law_2806 at hs
    obtain ⟨a0, g0, hs⟩ := s_bind hs
    obtain ⟨a1, g1, hs⟩ := s_bind hs
    obtain ⟨a2, g2, hs⟩ := s_bind hs
    obtain ⟨a3, g3, hs⟩ := s_bind hs
    obtain ⟨a4, g4, hs⟩ := s_bind hs
    obtain ⟨u9, ge, hs⟩ := s_bind hs
    exact l_L_law_2806 hs
  rcases s_ite hs with ⟨c, hs⟩ | ⟨-, hs⟩
  · subst c
    unfold U_L_law_2875 at hs
    obtain ⟨a0, g0, hs⟩ := s_bind hs
    obtain ⟨a1, g1, hs⟩ := s_bind hs
    obtain ⟨a2, g2, hs⟩ := s_bind hs
    obtain ⟨a3, g3, hs⟩ := s_bind hs
    obtain ⟨a4, g4, hs⟩ := s_bind hs
    obtain ⟨u9, ge, hs⟩ := s_bind hs
    exact l_L_law_2875 hs
  rcases s_ite hs with ⟨c, hs⟩ | ⟨-, hs⟩
  · subst c
    unfold U_L_law_2927 at hs
    obtain ⟨a0, g0, hs⟩ := s_bind hs
    obtain ⟨a1, g1, hs⟩ := s_bind hs
    obtain ⟨a2, g2, hs⟩ := s_bind hs
    obtain ⟨a3, g3, hs⟩ := s_bind hs
    obtain ⟨a4, g4, hs⟩ := s_bind hs
    obtain ⟨u9, ge, hs⟩ := s_bind hs
    exact l_L_law_2927 hs
  cases hs
theorem l_L_law {v0 : Nat} {v1 : Nat} {σ : sS} {q : Int32 × sS} (h : F_L_law v0 v1 σ = some q) : s_le σ q.2 := by
  unfold F_L_law at h
  obtain ⟨-, -, h⟩ := s_bind h
  exact s_run_ind (V := fun x r => s_le x.2.2 r.2) (fun x z r hs hk => by
    have h9 := l_L_law_s hs
    cases z with
    | inl y => exact s_le.tr h9 hk
    | inr q => cases hk; exact h9) h
theorem b_L_law {v0 : Nat} {v1 : Nat} {σ : sS} {q : Int32 × sS} (h : F_L_law v0 v1 σ = some q) : ∃ fs, σ.1 v0 = some (.inr (100, fs)) := by
  unfold F_L_law at h
  obtain ⟨u, hu, -⟩ := s_bind h
  exact s_is_to hu
set_option maxRecDepth 100000 in
set_option maxHeartbeats 4000000 in
theorem v_L_law_0 {G : sG} {d : Nat} {vs0 : List Value} {σ0 : sS} {v0 : Nat} {v1 : Nat} {σ : sS} {z : sZ Int32} {r : Int32 × sS} (hf : T_L_law_0 v0 v1 σ = some z) (k : s_K G (d + 139) M_L_law vs0 σ0 Y_L_law e_I z r) : s_V G (d + 139) M_L_law vs0 σ0 Y_L_law (0, [.ref v0, .ref v1], σ) (e_I r) := by
  have le0 : s_le σ (e_I r).2 := s_lek hem_I (l_L_law_0 hf) k
  refine ⟨le0, ?_⟩
  intro p e s m below meth c H locs cells slots ls X I hn1 hn2 hl
  have hn : cells + σ0.2.1 ≤ σ.2.1 ∧ slots + σ0.2.2.1 ≤ σ.2.2.1 := ⟨hn1, hn2⟩
  have hl : lv_has ls 8 [(0, .ref v0), (1, .ref v1)] := hl
  have hx := X.1
  have hb : c.code = cL_law := X.2.1
  have hown : s.vm.findClass RL = some m.cls := X.2.2.2.2.2.1
  have hts := X.2.2.2.2.2.2.1
  refine W.eq (g2 := F0 m 0 ls []) rfl ?_
  unfold T_L_law_0 at hf
  obtain ⟨σ1, h1, hf⟩ := s_bind hf
  obtain ⟨q2, h2, hf⟩ := s_bind hf
  obtain ⟨σ3, h3, hf⟩ := s_bind hf
  obtain ⟨q4, h4, hf⟩ := s_bind hf
  obtain ⟨σ5, h5, hf⟩ := s_bind hf
  cases hf
  have k : s_V G (d + 139) M_L_law vs0 σ0 Y_L_law (23, [.ref v0, .ref σ.2.1, .ref q2.2.2.1, .ref q4.2.2.1, .int 0], σ5) (e_I r) := k
  have le6 : s_le σ5 (e_I r).2 := k.1
  have le7 := s_le.tr (s_na_le h5) le6
  have le8 := s_le.tr (l_X8_init h4) le7
  have le9 := s_le.tr (s_nws h3) le8
  have le10 := s_le.tr (l_X7_init h2) le9
  refine r_new X I nw_L_8 hn (Option.some.inj h1 ▸ le10) dL_law_0 (fun H I => ?_)
  have hn := s_knw (ci := 7) (N := 9) (fs := [.null, .null, .null, .null, .null, .null, .null, .null, .int 0]) hn
  rw [Option.some.inj h1] at I hn
  refine lv_dup hx hb dL_law_3 rfl ?_
  refine r_callI (Y := M_X7_init) X I w_198 my_X7_init (by omega) (t_X7_init (G := G) (d := d + 135) h2) rfl rfl hl.1 rfl (Nat.le_of_ble_eq_true rfl) hn le9 dL_law_4 (fun H locs cells slots I hn1 hn2 => ?_)
  have I : s_I G q2.2 s H locs := I
  have hn : cells + σ0.2.1 ≤ q2.2.2.1 ∧ slots + σ0.2.2.1 ≤ q2.2.2.2.1 := ⟨hn1, hn2⟩
  refine lv_astore_n (lv' := [(1, .ref σ.2.1), (0, .ref v0)]) hx hb dL_law_7 rfl hl (by decide) rfl (fun ls hl => ?_)
  refine r_new X I nw_L_143 hn (Option.some.inj h3 ▸ le8) dL_law_8 (fun H I => ?_)
  have hn := s_knw (ci := 8) (N := 39) (fs := [.int 0, .null, .null, .int 0, .null, .null, .null, .int 0, .int 0, .int 0, .int 0, .int 0, .int 0, .int 0, .int 0, .null, .null, .null, .null, .null, .null, .null, .null, .null, .null, .null, .null, .null, .null, .null, .null, .null, .null, .int 0, .int 0, .int 0, .null, .null, .int 0]) hn
  rw [Option.some.inj h3] at I hn
  refine lv_dup hx hb dL_law_11 rfl ?_
  refine r_callI (Y := M_X8_init) X I w_1677 my_X8_init (by omega) (t_X8_init (G := G) (d := d + 137) h4) rfl rfl hl.1 rfl (Nat.le_of_ble_eq_true rfl) hn le7 dL_law_12 (fun H locs cells slots I hn1 hn2 => ?_)
  have I : s_I G q4.2 s H locs := I
  have hn : cells + σ0.2.1 ≤ q4.2.2.1 ∧ slots + σ0.2.2.1 ≤ q4.2.2.2.1 := ⟨hn1, hn2⟩
  refine lv_astore_n (lv' := [(2, .ref q2.2.2.1), (1, .ref σ.2.1), (0, .ref v0)]) hx hb dL_law_15 rfl hl (by decide) rfl (fun ls hl => ?_)
  refine lv_iconst (v := 1) hx hb dL_law_16 (by decide) ?_
  refine r_newa X I at_long h5 hn le6 dL_law_17 (fun H I => ?_)
  have hn := s_kna h5 hn
  refine lv_astore_n (lv' := [(3, .ref q4.2.2.1), (2, .ref q2.2.2.1), (1, .ref σ.2.1), (0, .ref v0)]) hx hb dL_law_19 rfl hl (by decide) rfl (fun ls hl => ?_)
  refine lv_iconst (v := 0) hx hb dL_law_20 (by decide) ?_
  refine lv_istore (lv' := [(4, .int 0), (3, .ref q4.2.2.1), (2, .ref q2.2.2.1), (1, .ref σ.2.1), (0, .ref v0)]) hx hb dL_law_21 hl (by decide) rfl (fun ls hl => ?_)
  exact k.2 p e s m below meth c _ _ _ _ _ X I hn.1 hn.2 (lv_sub hl [4, 3, 2, 1, 0] rfl)
set_option maxRecDepth 100000 in
set_option maxHeartbeats 4000000 in
theorem v_L_law_23 {G : sG} {d : Nat} {vs0 : List Value} {σ0 : sS} {v0 : Nat} {v1 : Nat} {v2 : Nat} {v3 : Nat} {v4 : Int32} {σ : sS} {z : sZ Int32} {r : Int32 × sS} (hf : T_L_law_23 v0 v1 v2 v3 v4 σ = some z) (k : s_K G (d + 139) M_L_law vs0 σ0 Y_L_law e_I z r) : s_V G (d + 139) M_L_law vs0 σ0 Y_L_law (23, [.ref v0, .ref v1, .ref v2, .ref v3, .int v4], σ) (e_I r) := by
  have le0 : s_le σ (e_I r).2 := s_lek hem_I (l_L_law_23 hf) k
  refine ⟨le0, ?_⟩
  intro p e s m below meth c H locs cells slots ls X I hn1 hn2 hl
  have hn : cells + σ0.2.1 ≤ σ.2.1 ∧ slots + σ0.2.2.1 ≤ σ.2.2.1 := ⟨hn1, hn2⟩
  have hl : lv_has ls 8 [(0, .ref v0), (1, .ref v1), (2, .ref v2), (3, .ref v3), (4, .int v4)] := hl
  have hx := X.1
  have hb : c.code = cL_law := X.2.1
  have hown : s.vm.findClass RL = some m.cls := X.2.2.2.2.2.1
  have hts := X.2.2.2.2.2.2.1
  refine W.eq (g2 := F0 m 23 ls []) rfl ?_
  unfold T_L_law_23 at hf
  obtain ⟨x1, h1, hf⟩ := s_bind hf
  refine lv_iload hx hb dL_law_23 (lv_at hl 4 rfl) ?_
  refine lv_aload_n hx hb dL_law_25 rfl (lv_at hl 0 rfl) ?_
  refine r_alen X I h1 dL_law_26 ?_
  refine lv_bipush (v := 7) hx hb dL_law_27 (by decide) ?_
  refine lv_isub hx hb dL_law_29 ?_
  rcases s_ite hf with ⟨c2, hf⟩ | ⟨c2, hf⟩
  · refine lv_icmp_gt (tgt := 2933) hx hb dL_law_30 (by decide) (fun _ => ?_) (fun n => absurd c2 n)
    cases hf
    have k : _ = r := k
    subst k
    refine lv_iconst (v := 1) hx hb dL_law_2933 (by decide) ?_
    exact r_iret X I rfl rfl rfl hn dL_law_2934
  · refine lv_icmp_gt (tgt := 2933) hx hb dL_law_30 (by decide) (fun n => absurd n c2) (fun _ => ?_)
    obtain ⟨x2, h3, hf⟩ := s_bind hf
    refine lv_aload_n hx hb dL_law_33 rfl (lv_at hl 0 rfl) ?_
    refine lv_iload hx hb dL_law_34 (lv_at hl 4 rfl) ?_
    refine r_iald X I h3 dL_law_36 ?_
    refine lv_bipush (v := 63) hx hb dL_law_37 (by decide) ?_
    refine lv_iand hx hb dL_law_39 ?_
    rcases s_ite hf with ⟨c4, hf⟩ | ⟨c4, hf⟩
    · refine lv_tableIn (tgt := 236) (off := 196) hx hb dL_law_40 (by rw [c4]; decide) (by rw [c4]; decide) (by rw [c4]; rfl) (by decide) ?_
      obtain ⟨x3, h5, hf⟩ := s_bind hf
      obtain ⟨x4, h6, hf⟩ := s_bind hf
      obtain ⟨x5, h7, hf⟩ := s_bind hf
      obtain ⟨x6, h8, hf⟩ := s_bind hf
      obtain ⟨x7, h9, hf⟩ := s_bind hf
      obtain ⟨q8, h10, hf⟩ := s_bind hf
      obtain ⟨x9, h11, hf⟩ := s_bind hf
      obtain ⟨x10, h12, hf⟩ := s_bind hf
      obtain ⟨x11, h13, hf⟩ := s_bind hf
      obtain ⟨x12, h14, hf⟩ := s_bind hf
      obtain ⟨x13, h15, hf⟩ := s_bind hf
      obtain ⟨q14, h16, hf⟩ := s_bind hf
      have le17 : s_le q14.2 (e_I r).2 := by
        refine s_lek hem_I ?_ k
        rcases s_ite hf with ⟨-, hf⟩ | ⟨-, hf⟩
        · cases hf
          exact s_le.rf
        · cases hf
          exact s_le.rf
      have le18 := s_le.tr (l_X8_feed h16) le17
      refine lv_aload_n hx hb dL_law_236 rfl (lv_at hl 1 rfl) ?_
      refine lv_aload_n hx hb dL_law_237 rfl (lv_at hl 0 rfl) ?_
      refine lv_iload hx hb dL_law_238 (lv_at hl 4 rfl) ?_
      refine lv_iconst (v := 1) hx hb dL_law_240 (by decide) ?_
      refine lv_iadd hx hb dL_law_241 ?_
      refine r_iald X I h5 dL_law_242 ?_
      refine lv_aload_n hx hb dL_law_243 rfl (lv_at hl 0 rfl) ?_
      refine lv_iload hx hb dL_law_244 (lv_at hl 4 rfl) ?_
      refine lv_iconst (v := 2) hx hb dL_law_246 (by decide) ?_
      refine lv_iadd hx hb dL_law_247 ?_
      refine r_iald X I h6 dL_law_248 ?_
      refine lv_aload_n hx hb dL_law_249 rfl (lv_at hl 0 rfl) ?_
      refine lv_iload hx hb dL_law_250 (lv_at hl 4 rfl) ?_
      refine lv_iconst (v := 3) hx hb dL_law_252 (by decide) ?_
      refine lv_iadd hx hb dL_law_253 ?_
      refine r_iald X I h7 dL_law_254 ?_
      refine lv_aload_n hx hb dL_law_255 rfl (lv_at hl 0 rfl) ?_
      refine lv_iload hx hb dL_law_256 (lv_at hl 4 rfl) ?_
      refine lv_iconst (v := 4) hx hb dL_law_258 (by decide) ?_
      refine lv_iadd hx hb dL_law_259 ?_
      refine r_iald X I h8 dL_law_260 ?_
      refine lv_aload_n hx hb dL_law_261 rfl (lv_at hl 0 rfl) ?_
      refine lv_iload hx hb dL_law_262 (lv_at hl 4 rfl) ?_
      refine lv_iconst (v := 5) hx hb dL_law_264 (by decide) ?_
      refine lv_iadd hx hb dL_law_265 ?_
      refine r_iald X I h9 dL_law_266 ?_
      refine r_callV (Y := M_X7_feed) (v := some (.int q8.1)) X I w_481 my_X7_feed (by omega) (t_X7_feed (G := G) (d := d + 136) h10) (b_X7_feed h10) rfl rfl hl.1 rfl (Nat.le_of_ble_eq_true rfl) hn le18 dL_law_267 (fun H locs cells slots I hn1 hn2 => ?_)
      have I : s_I G q8.2 s H locs := I
      have hn : cells + σ0.2.1 ≤ q8.2.2.1 ∧ slots + σ0.2.2.1 ≤ q8.2.2.2.1 := ⟨hn1, hn2⟩
      refine lv_aload_n hx hb dL_law_270 rfl (lv_at hl 2 rfl) ?_
      refine lv_aload_n hx hb dL_law_271 rfl (lv_at hl 0 rfl) ?_
      refine lv_iload hx hb dL_law_272 (lv_at hl 4 rfl) ?_
      refine lv_iconst (v := 1) hx hb dL_law_274 (by decide) ?_
      refine lv_iadd hx hb dL_law_275 ?_
      refine r_iald X I h11 dL_law_276 ?_
      refine lv_aload_n hx hb dL_law_277 rfl (lv_at hl 0 rfl) ?_
      refine lv_iload hx hb dL_law_278 (lv_at hl 4 rfl) ?_
      refine lv_iconst (v := 2) hx hb dL_law_280 (by decide) ?_
      refine lv_iadd hx hb dL_law_281 ?_
      refine r_iald X I h12 dL_law_282 ?_
      refine lv_aload_n hx hb dL_law_283 rfl (lv_at hl 0 rfl) ?_
      refine lv_iload hx hb dL_law_284 (lv_at hl 4 rfl) ?_
      refine lv_iconst (v := 3) hx hb dL_law_286 (by decide) ?_
      refine lv_iadd hx hb dL_law_287 ?_
      refine r_iald X I h13 dL_law_288 ?_
      refine lv_aload_n hx hb dL_law_289 rfl (lv_at hl 0 rfl) ?_
      refine lv_iload hx hb dL_law_290 (lv_at hl 4 rfl) ?_
      refine lv_iconst (v := 4) hx hb dL_law_292 (by decide) ?_
      refine lv_iadd hx hb dL_law_293 ?_
      refine r_iald X I h14 dL_law_294 ?_
      refine lv_aload_n hx hb dL_law_295 rfl (lv_at hl 0 rfl) ?_
      refine lv_iload hx hb dL_law_296 (lv_at hl 4 rfl) ?_
      refine lv_iconst (v := 5) hx hb dL_law_298 (by decide) ?_
      refine lv_iadd hx hb dL_law_299 ?_
      refine r_iald X I h15 dL_law_300 ?_
      refine r_callV (Y := M_X8_feed) (v := some (.int q14.1)) X I w_1817 my_X8_feed (by omega) (t_X8_feed (G := G) (d := d + 137) h16) (b_X8_feed h16) rfl rfl hl.1 rfl (Nat.le_of_ble_eq_true rfl) hn le17 dL_law_301 (fun H locs cells slots I hn1 hn2 => ?_)
      have I : s_I G q14.2 s H locs := I
      have hn : cells + σ0.2.1 ≤ q14.2.2.1 ∧ slots + σ0.2.2.1 ≤ q14.2.2.2.1 := ⟨hn1, hn2⟩
      rcases s_ite hf with ⟨c19, hf⟩ | ⟨c19, hf⟩
      · refine lv_icmp_eq (tgt := 2927) hx hb dL_law_304 (by decide) (fun _ => ?_) (fun n => absurd c19 n)
        cases hf
        have k : s_V G (d + 139) M_L_law vs0 σ0 Y_L_law (2927, [.ref v0, .ref v1, .ref v2, .ref v3, .int v4], q14.2) (e_I r) := k
        exact k.2 p e s m below meth c _ _ _ _ _ X I hn.1 hn.2 (lv_sub hl [0, 1, 2, 3, 4] rfl)
      · refine lv_icmp_eq (tgt := 2927) hx hb dL_law_304 (by decide) (fun n => absurd n c19) (fun _ => ?_)
        cases hf
        have k : _ = r := k
        subst k
        refine lv_iconst (v := 0) hx hb dL_law_307 (by decide) ?_
        exact r_iret X I rfl rfl rfl hn dL_law_308
    rcases s_ite hf with ⟨c20, hf⟩ | ⟨c20, hf⟩
    · refine lv_tableIn (tgt := 309) (off := 269) hx hb dL_law_40 (by rw [c20]; decide) (by rw [c20]; decide) (by rw [c20]; rfl) (by decide) ?_
      obtain ⟨x15, h21, hf⟩ := s_bind hf
      obtain ⟨q16, h22, hf⟩ := s_bind hf
      obtain ⟨x17, h23, hf⟩ := s_bind hf
      obtain ⟨q18, h24, hf⟩ := s_bind hf
      have le25 : s_le q18.2 (e_I r).2 := by
        refine s_lek hem_I ?_ k
        rcases s_ite hf with ⟨-, hf⟩ | ⟨-, hf⟩
        · cases hf
          exact s_le.rf
        · cases hf
          exact s_le.rf
      have le26 := s_le.tr (l_X8_end h24) le25
      refine lv_aload_n hx hb dL_law_309 rfl (lv_at hl 1 rfl) ?_
      refine lv_aload_n hx hb dL_law_310 rfl (lv_at hl 0 rfl) ?_
      refine lv_iload hx hb dL_law_311 (lv_at hl 4 rfl) ?_
      refine lv_iconst (v := 1) hx hb dL_law_313 (by decide) ?_
      refine lv_iadd hx hb dL_law_314 ?_
      refine r_iald X I h21 dL_law_315 ?_
      refine r_callV (Y := M_X7_end) (v := some (.int q16.1)) X I w_493 my_X7_end (by omega) (t_X7_end (G := G) (d := d + 136) h22) (b_X7_end h22) rfl rfl hl.1 rfl (Nat.le_of_ble_eq_true rfl) hn le26 dL_law_316 (fun H locs cells slots I hn1 hn2 => ?_)
      have I : s_I G q16.2 s H locs := I
      have hn : cells + σ0.2.1 ≤ q16.2.2.1 ∧ slots + σ0.2.2.1 ≤ q16.2.2.2.1 := ⟨hn1, hn2⟩
      refine lv_aload_n hx hb dL_law_319 rfl (lv_at hl 2 rfl) ?_
      refine lv_aload_n hx hb dL_law_320 rfl (lv_at hl 0 rfl) ?_
      refine lv_iload hx hb dL_law_321 (lv_at hl 4 rfl) ?_
      refine lv_iconst (v := 1) hx hb dL_law_323 (by decide) ?_
      refine lv_iadd hx hb dL_law_324 ?_
      refine r_iald X I h23 dL_law_325 ?_
      refine r_callV (Y := M_X8_end) (v := some (.int q18.1)) X I w_1821 my_X8_end (by omega) (t_X8_end (G := G) (d := d + 137) h24) (b_X8_end h24) rfl rfl hl.1 rfl (Nat.le_of_ble_eq_true rfl) hn le25 dL_law_326 (fun H locs cells slots I hn1 hn2 => ?_)
      have I : s_I G q18.2 s H locs := I
      have hn : cells + σ0.2.1 ≤ q18.2.2.1 ∧ slots + σ0.2.2.1 ≤ q18.2.2.2.1 := ⟨hn1, hn2⟩
      rcases s_ite hf with ⟨c27, hf⟩ | ⟨c27, hf⟩
      · refine lv_icmp_eq (tgt := 2927) hx hb dL_law_329 (by decide) (fun _ => ?_) (fun n => absurd c27 n)
        cases hf
        have k : s_V G (d + 139) M_L_law vs0 σ0 Y_L_law (2927, [.ref v0, .ref v1, .ref v2, .ref v3, .int v4], q18.2) (e_I r) := k
        exact k.2 p e s m below meth c _ _ _ _ _ X I hn.1 hn.2 (lv_sub hl [0, 1, 2, 3, 4] rfl)
      · refine lv_icmp_eq (tgt := 2927) hx hb dL_law_329 (by decide) (fun n => absurd n c27) (fun _ => ?_)
        cases hf
        have k : _ = r := k
        subst k
        refine lv_iconst (v := 0) hx hb dL_law_332 (by decide) ?_
        exact r_iret X I rfl rfl rfl hn dL_law_333
    rcases s_ite hf with ⟨c28, hf⟩ | ⟨c28, hf⟩
    · refine lv_tableIn (tgt := 334) (off := 294) hx hb dL_law_40 (by rw [c28]; decide) (by rw [c28]; decide) (by rw [c28]; rfl) (by decide) ?_
      obtain ⟨q19, h29, hf⟩ := s_bind hf
      obtain ⟨q20, h30, hf⟩ := s_bind hf
      obtain ⟨q21, h31, hf⟩ := s_bind hf
      have le32 : s_le q21.2 (e_I r).2 := by
        refine s_lek hem_I ?_ k
        rcases s_ite hf with ⟨-, hf⟩ | ⟨-, hf⟩
        · rcases s_ite hf with ⟨-, hf⟩ | ⟨-, hf⟩
          · obtain ⟨x22, -, hf⟩ := s_bind hf
            rcases s_ite hf with ⟨-, hf⟩ | ⟨-, hf⟩
            · cases hf
              exact s_le.rf
            · cases hf
              exact s_le.rf
          · cases hf
            exact s_le.rf
        · cases hf
          exact s_le.rf
      have le33 := s_le.tr (l_X8_thrown h31) le32
      have le34 := s_le.tr (l_X8_formula h30) le33
      refine lv_aload_n hx hb dL_law_334 rfl (lv_at hl 1 rfl) ?_
      refine lv_aload_n hx hb dL_law_335 rfl (lv_at hl 3 rfl) ?_
      refine r_callX (Y := M_L_formula) (v := some (.int q19.1)) X I w_688 my_L_formula (by omega) (t_L_formula (G := G) (d := d + 0) h29) rfl rfl hl.1 rfl (Nat.le_of_ble_eq_true rfl) hn le34 dL_law_336 (fun H locs cells slots I hn1 hn2 => ?_)
      have I : s_I G q19.2 s H locs := I
      have hn : cells + σ0.2.1 ≤ q19.2.2.1 ∧ slots + σ0.2.2.1 ≤ q19.2.2.2.1 := ⟨hn1, hn2⟩
      refine lv_istore (lv' := [(5, .int q19.1), (0, .ref v0), (1, .ref v1), (2, .ref v2), (3, .ref v3), (4, .int v4)]) hx hb dL_law_339 hl (by decide) rfl (fun ls hl => ?_)
      refine lv_aload_n hx hb dL_law_341 rfl (lv_at hl 3 rfl) ?_
      refine r_callV (Y := M_X8_formula) (v := some (.int q20.1)) X I w_1829 my_X8_formula (by omega) (t_X8_formula (G := G) (d := d + 66) h30) (b_X8_formula h30) rfl rfl hl.1 rfl (Nat.le_of_ble_eq_true rfl) hn le33 dL_law_342 (fun H locs cells slots I hn1 hn2 => ?_)
      have I : s_I G q20.2 s H locs := I
      have hn : cells + σ0.2.1 ≤ q20.2.2.1 ∧ slots + σ0.2.2.1 ≤ q20.2.2.2.1 := ⟨hn1, hn2⟩
      refine lv_istore (lv' := [(6, .int q20.1), (5, .int q19.1), (0, .ref v0), (1, .ref v1), (2, .ref v2), (3, .ref v3), (4, .int v4)]) hx hb dL_law_345 hl (by decide) rfl (fun ls hl => ?_)
      refine lv_aload_n hx hb dL_law_347 rfl (lv_at hl 4 rfl) ?_
      refine r_callV (Y := M_X8_thrown) (v := some (.int q21.1)) X I w_1671 my_X8_thrown (by omega) (t_X8_thrown (G := G) (d := d + 137) h31) (b_X8_thrown h31) rfl rfl hl.1 rfl (Nat.le_of_ble_eq_true rfl) hn le32 dL_law_348 (fun H locs cells slots I hn1 hn2 => ?_)
      have I : s_I G q21.2 s H locs := I
      have hn : cells + σ0.2.1 ≤ q21.2.2.1 ∧ slots + σ0.2.2.1 ≤ q21.2.2.2.1 := ⟨hn1, hn2⟩
      refine lv_iload hx hb dL_law_351 (lv_at hl 1 rfl) ?_
      rcases s_ite hf with ⟨c35, hf⟩ | ⟨c35, hf⟩
      · refine lv_icmp_eq (tgt := 358) hx hb dL_law_353 (by decide) (fun _ => ?_) (fun n => absurd c35 n)
        refine lv_iload hx hb dL_law_358 (lv_at hl 1 rfl) ?_
        rcases s_ite hf with ⟨c36, hf⟩ | ⟨c36, hf⟩
        · refine lv_if_ne (tgt := 375) hx hb dL_law_360 (by decide) (fun n => absurd c36 n) (fun _ => ?_)
          obtain ⟨x22, h37, hf⟩ := s_bind hf
          refine lv_aload_n hx hb dL_law_363 rfl (lv_at hl 5 rfl) ?_
          refine lv_iconst (v := 0) hx hb dL_law_364 (by decide) ?_
          refine r_lald X I h37 dL_law_365 ?_
          refine lv_iload hx hb dL_law_366 (lv_at hl 0 rfl) ?_
          refine lv_i2l hx hb dL_law_368 rfl ?_
          refine W.lcmp hx hb dL_law_369 ?_
          rcases s_ite hf with ⟨c38, hf⟩ | ⟨c38, hf⟩
          · refine lv_if_eq (tgt := 375) hx hb dL_law_370 (by decide) (fun _ => ?_) (fun n => absurd c38 n)
            cases hf
            have k : s_V G (d + 139) M_L_law vs0 σ0 Y_L_law (375, [.ref v0, .ref v1, .ref v2, .ref v3, .int v4], q21.2) (e_I r) := k
            exact k.2 p e s m below meth c _ _ _ _ _ X I hn.1 hn.2 (lv_sub hl [2, 3, 4, 5, 6] rfl)
          · refine lv_if_eq (tgt := 375) hx hb dL_law_370 (by decide) (fun n => absurd n c38) (fun _ => ?_)
            cases hf
            have k : _ = r := k
            subst k
            refine lv_iconst (v := 0) hx hb dL_law_373 (by decide) ?_
            exact r_iret X I rfl rfl rfl hn dL_law_374
        · refine lv_if_ne (tgt := 375) hx hb dL_law_360 (by decide) (fun _ => ?_) (fun n => absurd n c36)
          cases hf
          have k : s_V G (d + 139) M_L_law vs0 σ0 Y_L_law (375, [.ref v0, .ref v1, .ref v2, .ref v3, .int v4], q21.2) (e_I r) := k
          exact k.2 p e s m below meth c _ _ _ _ _ X I hn.1 hn.2 (lv_sub hl [2, 3, 4, 5, 6] rfl)
      · refine lv_icmp_eq (tgt := 358) hx hb dL_law_353 (by decide) (fun n => absurd n c35) (fun _ => ?_)
        cases hf
        have k : _ = r := k
        subst k
        refine lv_iconst (v := 0) hx hb dL_law_356 (by decide) ?_
        exact r_iret X I rfl rfl rfl hn dL_law_357
    rcases s_ite hf with ⟨c39, hf⟩ | ⟨c39, hf⟩
    · refine lv_tableIn (tgt := 378) (off := 338) hx hb dL_law_40 (by rw [c39]; decide) (by rw [c39]; decide) (by rw [c39]; rfl) (by decide) ?_
      obtain ⟨q23, h40, hf⟩ := s_bind hf
      obtain ⟨q24, h41, hf⟩ := s_bind hf
      have le42 : s_le q24.2 (e_I r).2 := by
        refine s_lek hem_I ?_ k
        rcases s_ite hf with ⟨-, hf⟩ | ⟨-, hf⟩
        · cases hf
          exact s_le.rf
        · cases hf
          exact s_le.rf
      have le43 := s_le.tr (l_X8_fault h41) le42
      refine lv_aload_n hx hb dL_law_378 rfl (lv_at hl 1 rfl) ?_
      refine r_callV (Y := M_X7_fault) (v := some (.int q23.1)) X I w_501 my_X7_fault (by omega) (t_X7_fault (G := G) (d := d + 137) h40) (b_X7_fault h40) rfl rfl hl.1 rfl (Nat.le_of_ble_eq_true rfl) hn le43 dL_law_379 (fun H locs cells slots I hn1 hn2 => ?_)
      have I : s_I G q23.2 s H locs := I
      have hn : cells + σ0.2.1 ≤ q23.2.2.1 ∧ slots + σ0.2.2.1 ≤ q23.2.2.2.1 := ⟨hn1, hn2⟩
      refine lv_aload_n hx hb dL_law_382 rfl (lv_at hl 2 rfl) ?_
      refine r_callV (Y := M_X8_fault) (v := some (.int q24.1)) X I w_1825 my_X8_fault (by omega) (t_X8_fault (G := G) (d := d + 137) h41) (b_X8_fault h41) rfl rfl hl.1 rfl (Nat.le_of_ble_eq_true rfl) hn le42 dL_law_383 (fun H locs cells slots I hn1 hn2 => ?_)
      have I : s_I G q24.2 s H locs := I
      have hn : cells + σ0.2.1 ≤ q24.2.2.1 ∧ slots + σ0.2.2.1 ≤ q24.2.2.2.1 := ⟨hn1, hn2⟩
      rcases s_ite hf with ⟨c44, hf⟩ | ⟨c44, hf⟩
      · refine lv_icmp_eq (tgt := 2927) hx hb dL_law_386 (by decide) (fun _ => ?_) (fun n => absurd c44 n)
        cases hf
        have k : s_V G (d + 139) M_L_law vs0 σ0 Y_L_law (2927, [.ref v0, .ref v1, .ref v2, .ref v3, .int v4], q24.2) (e_I r) := k
        exact k.2 p e s m below meth c _ _ _ _ _ X I hn.1 hn.2 (lv_sub hl [0, 1, 2, 3, 4] rfl)
      · refine lv_icmp_eq (tgt := 2927) hx hb dL_law_386 (by decide) (fun n => absurd n c44) (fun _ => ?_)
        cases hf
        have k : _ = r := k
        subst k
        refine lv_iconst (v := 0) hx hb dL_law_389 (by decide) ?_
        exact r_iret X I rfl rfl rfl hn dL_law_390
    rcases s_ite hf with ⟨c45, hf⟩ | ⟨c45, hf⟩
    · refine lv_tableIn (tgt := 391) (off := 351) hx hb dL_law_40 (by rw [c45]; decide) (by rw [c45]; decide) (by rw [c45]; rfl) (by decide) ?_
      obtain ⟨x25, h46, hf⟩ := s_bind hf
      obtain ⟨q26, h47, hf⟩ := s_bind hf
      obtain ⟨x27, h48, hf⟩ := s_bind hf
      obtain ⟨q28, h49, hf⟩ := s_bind hf
      obtain ⟨q29, h50, hf⟩ := s_bind hf
      have le51 : s_le q29.2 (e_I r).2 := by
        refine s_lek hem_I ?_ k
        rcases s_ite hf with ⟨-, hf⟩ | ⟨-, hf⟩
        · cases hf
          exact s_le.rf
        · cases hf
          exact s_le.rf
      have le52 := s_le.tr (l_X8_thrown h50) le51
      have le53 := s_le.tr (l_X8_things h49) le52
      refine lv_aload_n hx hb dL_law_391 rfl (lv_at hl 1 rfl) ?_
      refine lv_aload_n hx hb dL_law_392 rfl (lv_at hl 0 rfl) ?_
      refine lv_iload hx hb dL_law_393 (lv_at hl 4 rfl) ?_
      refine lv_iconst (v := 1) hx hb dL_law_395 (by decide) ?_
      refine lv_iadd hx hb dL_law_396 ?_
      refine r_iald X I h46 dL_law_397 ?_
      refine r_callX (Y := M_L_things) (v := some (.int q26.1)) X I w_983 my_L_things (by omega) (t_L_things (G := G) (d := d + 136) h47) rfl rfl hl.1 rfl (Nat.le_of_ble_eq_true rfl) hn le53 dL_law_398 (fun H locs cells slots I hn1 hn2 => ?_)
      have I : s_I G q26.2 s H locs := I
      have hn : cells + σ0.2.1 ≤ q26.2.2.1 ∧ slots + σ0.2.2.1 ≤ q26.2.2.2.1 := ⟨hn1, hn2⟩
      refine lv_istore (lv' := [(5, .int q26.1), (0, .ref v0), (1, .ref v1), (2, .ref v2), (3, .ref v3), (4, .int v4)]) hx hb dL_law_401 hl (by decide) rfl (fun ls hl => ?_)
      refine lv_aload_n hx hb dL_law_403 rfl (lv_at hl 3 rfl) ?_
      refine lv_aload_n hx hb dL_law_404 rfl (lv_at hl 1 rfl) ?_
      refine lv_iload hx hb dL_law_405 (lv_at hl 5 rfl) ?_
      refine lv_iconst (v := 1) hx hb dL_law_407 (by decide) ?_
      refine lv_iadd hx hb dL_law_408 ?_
      refine r_iald X I h48 dL_law_409 ?_
      refine r_callV (Y := M_X8_things) (v := none) X I w_1905 my_X8_things (by omega) (t_X8_things (G := G) (d := d + 136) h49) (b_X8_things h49) rfl rfl hl.1 rfl (Nat.le_of_ble_eq_true rfl) hn le52 dL_law_410 (fun H locs cells slots I hn1 hn2 => ?_)
      have I : s_I G q28.2 s H locs := I
      have hn : cells + σ0.2.1 ≤ q28.2.2.1 ∧ slots + σ0.2.2.1 ≤ q28.2.2.2.1 := ⟨hn1, hn2⟩
      refine lv_aload_n hx hb dL_law_413 rfl (lv_at hl 3 rfl) ?_
      refine r_callV (Y := M_X8_thrown) (v := some (.int q29.1)) X I w_1671 my_X8_thrown (by omega) (t_X8_thrown (G := G) (d := d + 137) h50) (b_X8_thrown h50) rfl rfl hl.1 rfl (Nat.le_of_ble_eq_true rfl) hn le51 dL_law_414 (fun H locs cells slots I hn1 hn2 => ?_)
      have I : s_I G q29.2 s H locs := I
      have hn : cells + σ0.2.1 ≤ q29.2.2.1 ∧ slots + σ0.2.2.1 ≤ q29.2.2.2.1 := ⟨hn1, hn2⟩
      refine lv_iload hx hb dL_law_417 (lv_at hl 0 rfl) ?_
      rcases s_ite hf with ⟨c54, hf⟩ | ⟨c54, hf⟩
      · refine lv_icmp_eq (tgt := 424) hx hb dL_law_419 (by decide) (fun _ => ?_) (fun n => absurd c54 n)
        cases hf
        have k : s_V G (d + 139) M_L_law vs0 σ0 Y_L_law (2927, [.ref v0, .ref v1, .ref v2, .ref v3, .int v4], q29.2) (e_I r) := k
        refine lv_goto (tgt := 2927) hx hb dL_law_424 (by decide) ?_
        exact k.2 p e s m below meth c _ _ _ _ _ X I hn.1 hn.2 (lv_sub hl [1, 2, 3, 4, 5] rfl)
      · refine lv_icmp_eq (tgt := 424) hx hb dL_law_419 (by decide) (fun n => absurd n c54) (fun _ => ?_)
        cases hf
        have k : _ = r := k
        subst k
        refine lv_iconst (v := 0) hx hb dL_law_422 (by decide) ?_
        exact r_iret X I rfl rfl rfl hn dL_law_423
    rcases s_ite hf with ⟨c55, hf⟩ | ⟨c55, hf⟩
    · refine lv_tableIn (tgt := 427) (off := 387) hx hb dL_law_40 (by rw [c55]; decide) (by rw [c55]; decide) (by rw [c55]; rfl) (by decide) ?_
      obtain ⟨x30, h56, hf⟩ := s_bind hf
      obtain ⟨q31, h57, hf⟩ := s_bind hf
      obtain ⟨x32, h58, hf⟩ := s_bind hf
      obtain ⟨q33, h59, hf⟩ := s_bind hf
      obtain ⟨q34, h60, hf⟩ := s_bind hf
      have le61 : s_le q34.2 (e_I r).2 := by
        refine s_lek hem_I ?_ k
        rcases s_ite hf with ⟨-, hf⟩ | ⟨-, hf⟩
        · rcases s_ite hf with ⟨-, hf⟩ | ⟨-, hf⟩
          · obtain ⟨x35, -, hf⟩ := s_bind hf
            rcases s_ite hf with ⟨-, hf⟩ | ⟨-, hf⟩
            · cases hf
              exact s_le.rf
            · cases hf
              exact s_le.rf
          · cases hf
            exact s_le.rf
        · cases hf
          exact s_le.rf
      have le62 := s_le.tr (l_X8_thrown h60) le61
      have le63 := s_le.tr (l_X8_signs h59) le62
      refine lv_aload_n hx hb dL_law_427 rfl (lv_at hl 1 rfl) ?_
      refine lv_aload_n hx hb dL_law_428 rfl (lv_at hl 0 rfl) ?_
      refine lv_iload hx hb dL_law_429 (lv_at hl 4 rfl) ?_
      refine lv_iconst (v := 1) hx hb dL_law_431 (by decide) ?_
      refine lv_iadd hx hb dL_law_432 ?_
      refine r_iald X I h56 dL_law_433 ?_
      refine lv_aload_n hx hb dL_law_434 rfl (lv_at hl 3 rfl) ?_
      refine r_callX (Y := M_L_signs) (v := some (.int q31.1)) X I w_1008 my_L_signs (by omega) (t_L_signs (G := G) (d := d + 135) h57) rfl rfl hl.1 rfl (Nat.le_of_ble_eq_true rfl) hn le63 dL_law_435 (fun H locs cells slots I hn1 hn2 => ?_)
      have I : s_I G q31.2 s H locs := I
      have hn : cells + σ0.2.1 ≤ q31.2.2.1 ∧ slots + σ0.2.2.1 ≤ q31.2.2.2.1 := ⟨hn1, hn2⟩
      refine lv_istore (lv' := [(5, .int q31.1), (0, .ref v0), (1, .ref v1), (2, .ref v2), (3, .ref v3), (4, .int v4)]) hx hb dL_law_438 hl (by decide) rfl (fun ls hl => ?_)
      refine lv_aload_n hx hb dL_law_440 rfl (lv_at hl 3 rfl) ?_
      refine lv_aload_n hx hb dL_law_441 rfl (lv_at hl 1 rfl) ?_
      refine lv_iload hx hb dL_law_442 (lv_at hl 5 rfl) ?_
      refine lv_iconst (v := 1) hx hb dL_law_444 (by decide) ?_
      refine lv_iadd hx hb dL_law_445 ?_
      refine r_iald X I h58 dL_law_446 ?_
      refine r_callV (Y := M_X8_signs) (v := some (.int q33.1)) X I w_1912 my_X8_signs (by omega) (t_X8_signs (G := G) (d := d + 135) h59) (b_X8_signs h59) rfl rfl hl.1 rfl (Nat.le_of_ble_eq_true rfl) hn le62 dL_law_447 (fun H locs cells slots I hn1 hn2 => ?_)
      have I : s_I G q33.2 s H locs := I
      have hn : cells + σ0.2.1 ≤ q33.2.2.1 ∧ slots + σ0.2.2.1 ≤ q33.2.2.2.1 := ⟨hn1, hn2⟩
      refine lv_istore (lv' := [(6, .int q33.1), (5, .int q31.1), (0, .ref v0), (1, .ref v1), (2, .ref v2), (3, .ref v3), (4, .int v4)]) hx hb dL_law_450 hl (by decide) rfl (fun ls hl => ?_)
      refine lv_aload_n hx hb dL_law_452 rfl (lv_at hl 4 rfl) ?_
      refine r_callV (Y := M_X8_thrown) (v := some (.int q34.1)) X I w_1671 my_X8_thrown (by omega) (t_X8_thrown (G := G) (d := d + 137) h60) (b_X8_thrown h60) rfl rfl hl.1 rfl (Nat.le_of_ble_eq_true rfl) hn le61 dL_law_453 (fun H locs cells slots I hn1 hn2 => ?_)
      have I : s_I G q34.2 s H locs := I
      have hn : cells + σ0.2.1 ≤ q34.2.2.1 ∧ slots + σ0.2.2.1 ≤ q34.2.2.2.1 := ⟨hn1, hn2⟩
      refine lv_iload hx hb dL_law_456 (lv_at hl 1 rfl) ?_
      rcases s_ite hf with ⟨c64, hf⟩ | ⟨c64, hf⟩
      · refine lv_icmp_eq (tgt := 463) hx hb dL_law_458 (by decide) (fun _ => ?_) (fun n => absurd c64 n)
        refine lv_iload hx hb dL_law_463 (lv_at hl 1 rfl) ?_
        rcases s_ite hf with ⟨c65, hf⟩ | ⟨c65, hf⟩
        · refine lv_if_ne (tgt := 480) hx hb dL_law_465 (by decide) (fun n => absurd c65 n) (fun _ => ?_)
          obtain ⟨x35, h66, hf⟩ := s_bind hf
          refine lv_aload_n hx hb dL_law_468 rfl (lv_at hl 5 rfl) ?_
          refine lv_iconst (v := 0) hx hb dL_law_469 (by decide) ?_
          refine r_lald X I h66 dL_law_470 ?_
          refine lv_iload hx hb dL_law_471 (lv_at hl 0 rfl) ?_
          refine lv_i2l hx hb dL_law_473 rfl ?_
          refine W.lcmp hx hb dL_law_474 ?_
          rcases s_ite hf with ⟨c67, hf⟩ | ⟨c67, hf⟩
          · refine lv_if_eq (tgt := 480) hx hb dL_law_475 (by decide) (fun _ => ?_) (fun n => absurd c67 n)
            cases hf
            have k : s_V G (d + 139) M_L_law vs0 σ0 Y_L_law (480, [.ref v0, .ref v1, .ref v2, .ref v3, .int v4], q34.2) (e_I r) := k
            exact k.2 p e s m below meth c _ _ _ _ _ X I hn.1 hn.2 (lv_sub hl [2, 3, 4, 5, 6] rfl)
          · refine lv_if_eq (tgt := 480) hx hb dL_law_475 (by decide) (fun n => absurd n c67) (fun _ => ?_)
            cases hf
            have k : _ = r := k
            subst k
            refine lv_iconst (v := 0) hx hb dL_law_478 (by decide) ?_
            exact r_iret X I rfl rfl rfl hn dL_law_479
        · refine lv_if_ne (tgt := 480) hx hb dL_law_465 (by decide) (fun _ => ?_) (fun n => absurd n c65)
          cases hf
          have k : s_V G (d + 139) M_L_law vs0 σ0 Y_L_law (480, [.ref v0, .ref v1, .ref v2, .ref v3, .int v4], q34.2) (e_I r) := k
          exact k.2 p e s m below meth c _ _ _ _ _ X I hn.1 hn.2 (lv_sub hl [2, 3, 4, 5, 6] rfl)
      · refine lv_icmp_eq (tgt := 463) hx hb dL_law_458 (by decide) (fun n => absurd n c64) (fun _ => ?_)
        cases hf
        have k : _ = r := k
        subst k
        refine lv_iconst (v := 0) hx hb dL_law_461 (by decide) ?_
        exact r_iret X I rfl rfl rfl hn dL_law_462
    rcases s_ite hf with ⟨c68, hf⟩ | ⟨c68, hf⟩
    · refine lv_tableIn (tgt := 483) (off := 443) hx hb dL_law_40 (by rw [c68]; decide) (by rw [c68]; decide) (by rw [c68]; rfl) (by decide) ?_
      obtain ⟨x36, h69, hf⟩ := s_bind hf
      obtain ⟨x37, h70, hf⟩ := s_bind hf
      obtain ⟨q38, h71, hf⟩ := s_bind hf
      obtain ⟨x39, h72, hf⟩ := s_bind hf
      obtain ⟨x40, h73, hf⟩ := s_bind hf
      obtain ⟨q41, h74, hf⟩ := s_bind hf
      obtain ⟨q42, h75, hf⟩ := s_bind hf
      have le76 : s_le q42.2 (e_I r).2 := by
        refine s_lek hem_I ?_ k
        rcases s_ite hf with ⟨-, hf⟩ | ⟨-, hf⟩
        · rcases s_ite hf with ⟨-, hf⟩ | ⟨-, hf⟩
          · obtain ⟨x43, -, hf⟩ := s_bind hf
            rcases s_ite hf with ⟨-, hf⟩ | ⟨-, hf⟩
            · cases hf
              exact s_le.rf
            · cases hf
              exact s_le.rf
          · cases hf
            exact s_le.rf
        · cases hf
          exact s_le.rf
      have le77 := s_le.tr (l_X8_thrown h75) le76
      have le78 := s_le.tr (l_X8_same h74) le77
      refine lv_aload_n hx hb dL_law_483 rfl (lv_at hl 1 rfl) ?_
      refine lv_aload_n hx hb dL_law_484 rfl (lv_at hl 0 rfl) ?_
      refine lv_iload hx hb dL_law_485 (lv_at hl 4 rfl) ?_
      refine lv_iconst (v := 1) hx hb dL_law_487 (by decide) ?_
      refine lv_iadd hx hb dL_law_488 ?_
      refine r_iald X I h69 dL_law_489 ?_
      refine lv_aload_n hx hb dL_law_490 rfl (lv_at hl 0 rfl) ?_
      refine lv_iload hx hb dL_law_491 (lv_at hl 4 rfl) ?_
      refine lv_iconst (v := 2) hx hb dL_law_493 (by decide) ?_
      refine lv_iadd hx hb dL_law_494 ?_
      refine r_iald X I h70 dL_law_495 ?_
      refine lv_aload_n hx hb dL_law_496 rfl (lv_at hl 3 rfl) ?_
      refine r_callX (Y := M_L_same) (v := some (.int q38.1)) X I w_1038 my_L_same (by omega) (t_L_same (G := G) (d := d + 135) h71) rfl rfl hl.1 rfl (Nat.le_of_ble_eq_true rfl) hn le78 dL_law_497 (fun H locs cells slots I hn1 hn2 => ?_)
      have I : s_I G q38.2 s H locs := I
      have hn : cells + σ0.2.1 ≤ q38.2.2.1 ∧ slots + σ0.2.2.1 ≤ q38.2.2.2.1 := ⟨hn1, hn2⟩
      refine lv_istore (lv' := [(5, .int q38.1), (0, .ref v0), (1, .ref v1), (2, .ref v2), (3, .ref v3), (4, .int v4)]) hx hb dL_law_500 hl (by decide) rfl (fun ls hl => ?_)
      refine lv_aload_n hx hb dL_law_502 rfl (lv_at hl 3 rfl) ?_
      refine lv_aload_n hx hb dL_law_503 rfl (lv_at hl 1 rfl) ?_
      refine lv_iload hx hb dL_law_504 (lv_at hl 5 rfl) ?_
      refine lv_iconst (v := 1) hx hb dL_law_506 (by decide) ?_
      refine lv_iadd hx hb dL_law_507 ?_
      refine r_iald X I h72 dL_law_508 ?_
      refine lv_aload_n hx hb dL_law_509 rfl (lv_at hl 1 rfl) ?_
      refine lv_iload hx hb dL_law_510 (lv_at hl 5 rfl) ?_
      refine lv_iconst (v := 2) hx hb dL_law_512 (by decide) ?_
      refine lv_iadd hx hb dL_law_513 ?_
      refine r_iald X I h73 dL_law_514 ?_
      refine r_callV (Y := M_X8_same) (v := some (.int q41.1)) X I w_1920 my_X8_same (by omega) (t_X8_same (G := G) (d := d + 134) h74) (b_X8_same h74) rfl rfl hl.1 rfl (Nat.le_of_ble_eq_true rfl) hn le77 dL_law_515 (fun H locs cells slots I hn1 hn2 => ?_)
      have I : s_I G q41.2 s H locs := I
      have hn : cells + σ0.2.1 ≤ q41.2.2.1 ∧ slots + σ0.2.2.1 ≤ q41.2.2.2.1 := ⟨hn1, hn2⟩
      refine lv_istore (lv' := [(6, .int q41.1), (5, .int q38.1), (0, .ref v0), (1, .ref v1), (2, .ref v2), (3, .ref v3), (4, .int v4)]) hx hb dL_law_518 hl (by decide) rfl (fun ls hl => ?_)
      refine lv_aload_n hx hb dL_law_520 rfl (lv_at hl 4 rfl) ?_
      refine r_callV (Y := M_X8_thrown) (v := some (.int q42.1)) X I w_1671 my_X8_thrown (by omega) (t_X8_thrown (G := G) (d := d + 137) h75) (b_X8_thrown h75) rfl rfl hl.1 rfl (Nat.le_of_ble_eq_true rfl) hn le76 dL_law_521 (fun H locs cells slots I hn1 hn2 => ?_)
      have I : s_I G q42.2 s H locs := I
      have hn : cells + σ0.2.1 ≤ q42.2.2.1 ∧ slots + σ0.2.2.1 ≤ q42.2.2.2.1 := ⟨hn1, hn2⟩
      refine lv_iload hx hb dL_law_524 (lv_at hl 1 rfl) ?_
      rcases s_ite hf with ⟨c79, hf⟩ | ⟨c79, hf⟩
      · refine lv_icmp_eq (tgt := 531) hx hb dL_law_526 (by decide) (fun _ => ?_) (fun n => absurd c79 n)
        refine lv_iload hx hb dL_law_531 (lv_at hl 1 rfl) ?_
        rcases s_ite hf with ⟨c80, hf⟩ | ⟨c80, hf⟩
        · refine lv_if_ne (tgt := 555) hx hb dL_law_533 (by decide) (fun n => absurd c80 n) (fun _ => ?_)
          obtain ⟨x43, h81, hf⟩ := s_bind hf
          refine lv_aload_n hx hb dL_law_536 rfl (lv_at hl 5 rfl) ?_
          refine lv_iconst (v := 0) hx hb dL_law_537 (by decide) ?_
          refine r_lald X I h81 dL_law_538 ?_
          refine lv_iload hx hb dL_law_539 (lv_at hl 0 rfl) ?_
          rcases s_ite hf with ⟨c82, hf⟩ | ⟨c82, hf⟩
          · refine lv_if_eq (tgt := 548) hx hb dL_law_541 (by decide) (fun _ => ?_) (fun n => absurd c82 n)
            cases hf
            have k : s_V G (d + 139) M_L_law vs0 σ0 Y_L_law (549, [.ref v0, .ref v1, .ref v2, .ref v3, .int v4, .long 0, .long x43], q42.2) (e_I r) := k
            refine lv_lconst (v := 0) hx hb dL_law_548 (by decide) ?_
            exact k.2 p e s m below meth c _ _ _ _ _ X I hn.1 hn.2 (lv_sub hl [2, 3, 4, 5, 6] rfl)
          · refine lv_if_eq (tgt := 548) hx hb dL_law_541 (by decide) (fun n => absurd n c82) (fun _ => ?_)
            cases hf
            have k : s_V G (d + 139) M_L_law vs0 σ0 Y_L_law (549, [.ref v0, .ref v1, .ref v2, .ref v3, .int v4, .long 1, .long x43], q42.2) (e_I r) := k
            refine lv_lconst (v := 1) hx hb dL_law_544 (by decide) ?_
            refine lv_goto (tgt := 549) hx hb dL_law_545 (by decide) ?_
            exact k.2 p e s m below meth c _ _ _ _ _ X I hn.1 hn.2 (lv_sub hl [2, 3, 4, 5, 6] rfl)
        · refine lv_if_ne (tgt := 555) hx hb dL_law_533 (by decide) (fun _ => ?_) (fun n => absurd n c80)
          cases hf
          have k : s_V G (d + 139) M_L_law vs0 σ0 Y_L_law (555, [.ref v0, .ref v1, .ref v2, .ref v3, .int v4], q42.2) (e_I r) := k
          exact k.2 p e s m below meth c _ _ _ _ _ X I hn.1 hn.2 (lv_sub hl [2, 3, 4, 5, 6] rfl)
      · refine lv_icmp_eq (tgt := 531) hx hb dL_law_526 (by decide) (fun n => absurd n c79) (fun _ => ?_)
        cases hf
        have k : _ = r := k
        subst k
        refine lv_iconst (v := 0) hx hb dL_law_529 (by decide) ?_
        exact r_iret X I rfl rfl rfl hn dL_law_530
    rcases s_ite hf with ⟨c83, hf⟩ | ⟨c83, hf⟩
    · refine lv_tableIn (tgt := 558) (off := 518) hx hb dL_law_40 (by rw [c83]; decide) (by rw [c83]; decide) (by rw [c83]; rfl) (by decide) ?_
      obtain ⟨x44, h84, hf⟩ := s_bind hf
      obtain ⟨x45, h85, hf⟩ := s_bind hf
      obtain ⟨q46, h86, hf⟩ := s_bind hf
      obtain ⟨x47, h87, hf⟩ := s_bind hf
      obtain ⟨x48, h88, hf⟩ := s_bind hf
      obtain ⟨q49, h89, hf⟩ := s_bind hf
      obtain ⟨q50, h90, hf⟩ := s_bind hf
      have le91 : s_le q50.2 (e_I r).2 := by
        refine s_lek hem_I ?_ k
        rcases s_ite hf with ⟨-, hf⟩ | ⟨-, hf⟩
        · rcases s_ite hf with ⟨-, hf⟩ | ⟨-, hf⟩
          · obtain ⟨x51, -, hf⟩ := s_bind hf
            rcases s_ite hf with ⟨-, hf⟩ | ⟨-, hf⟩
            · cases hf
              exact s_le.rf
            · cases hf
              exact s_le.rf
          · cases hf
            exact s_le.rf
        · cases hf
          exact s_le.rf
      have le92 := s_le.tr (l_X8_thrown h90) le91
      have le93 := s_le.tr (l_X8_holds h89) le92
      refine lv_aload_n hx hb dL_law_558 rfl (lv_at hl 1 rfl) ?_
      refine lv_aload_n hx hb dL_law_559 rfl (lv_at hl 0 rfl) ?_
      refine lv_iload hx hb dL_law_560 (lv_at hl 4 rfl) ?_
      refine lv_iconst (v := 1) hx hb dL_law_562 (by decide) ?_
      refine lv_iadd hx hb dL_law_563 ?_
      refine r_iald X I h84 dL_law_564 ?_
      refine lv_aload_n hx hb dL_law_565 rfl (lv_at hl 0 rfl) ?_
      refine lv_iload hx hb dL_law_566 (lv_at hl 4 rfl) ?_
      refine lv_iconst (v := 2) hx hb dL_law_568 (by decide) ?_
      refine lv_iadd hx hb dL_law_569 ?_
      refine r_iald X I h85 dL_law_570 ?_
      refine lv_aload_n hx hb dL_law_571 rfl (lv_at hl 3 rfl) ?_
      refine r_callX (Y := M_L_holds) (v := some (.int q46.1)) X I w_1045 my_L_holds (by omega) (t_L_holds (G := G) (d := d + 134) h86) rfl rfl hl.1 rfl (Nat.le_of_ble_eq_true rfl) hn le93 dL_law_572 (fun H locs cells slots I hn1 hn2 => ?_)
      have I : s_I G q46.2 s H locs := I
      have hn : cells + σ0.2.1 ≤ q46.2.2.1 ∧ slots + σ0.2.2.1 ≤ q46.2.2.2.1 := ⟨hn1, hn2⟩
      refine lv_istore (lv' := [(5, .int q46.1), (0, .ref v0), (1, .ref v1), (2, .ref v2), (3, .ref v3), (4, .int v4)]) hx hb dL_law_575 hl (by decide) rfl (fun ls hl => ?_)
      refine lv_aload_n hx hb dL_law_577 rfl (lv_at hl 3 rfl) ?_
      refine lv_aload_n hx hb dL_law_578 rfl (lv_at hl 1 rfl) ?_
      refine lv_iload hx hb dL_law_579 (lv_at hl 5 rfl) ?_
      refine lv_iconst (v := 1) hx hb dL_law_581 (by decide) ?_
      refine lv_iadd hx hb dL_law_582 ?_
      refine r_iald X I h87 dL_law_583 ?_
      refine lv_aload_n hx hb dL_law_584 rfl (lv_at hl 1 rfl) ?_
      refine lv_iload hx hb dL_law_585 (lv_at hl 5 rfl) ?_
      refine lv_iconst (v := 2) hx hb dL_law_587 (by decide) ?_
      refine lv_iadd hx hb dL_law_588 ?_
      refine r_iald X I h88 dL_law_589 ?_
      refine r_callV (Y := M_X8_holds) (v := some (.int q49.1)) X I w_1935 my_X8_holds (by omega) (t_X8_holds (G := G) (d := d + 134) h89) (b_X8_holds h89) rfl rfl hl.1 rfl (Nat.le_of_ble_eq_true rfl) hn le92 dL_law_590 (fun H locs cells slots I hn1 hn2 => ?_)
      have I : s_I G q49.2 s H locs := I
      have hn : cells + σ0.2.1 ≤ q49.2.2.1 ∧ slots + σ0.2.2.1 ≤ q49.2.2.2.1 := ⟨hn1, hn2⟩
      refine lv_istore (lv' := [(6, .int q49.1), (5, .int q46.1), (0, .ref v0), (1, .ref v1), (2, .ref v2), (3, .ref v3), (4, .int v4)]) hx hb dL_law_593 hl (by decide) rfl (fun ls hl => ?_)
      refine lv_aload_n hx hb dL_law_595 rfl (lv_at hl 4 rfl) ?_
      refine r_callV (Y := M_X8_thrown) (v := some (.int q50.1)) X I w_1671 my_X8_thrown (by omega) (t_X8_thrown (G := G) (d := d + 137) h90) (b_X8_thrown h90) rfl rfl hl.1 rfl (Nat.le_of_ble_eq_true rfl) hn le91 dL_law_596 (fun H locs cells slots I hn1 hn2 => ?_)
      have I : s_I G q50.2 s H locs := I
      have hn : cells + σ0.2.1 ≤ q50.2.2.1 ∧ slots + σ0.2.2.1 ≤ q50.2.2.2.1 := ⟨hn1, hn2⟩
      refine lv_iload hx hb dL_law_599 (lv_at hl 1 rfl) ?_
      rcases s_ite hf with ⟨c94, hf⟩ | ⟨c94, hf⟩
      · refine lv_icmp_eq (tgt := 606) hx hb dL_law_601 (by decide) (fun _ => ?_) (fun n => absurd c94 n)
        refine lv_iload hx hb dL_law_606 (lv_at hl 1 rfl) ?_
        rcases s_ite hf with ⟨c95, hf⟩ | ⟨c95, hf⟩
        · refine lv_if_ne (tgt := 630) hx hb dL_law_608 (by decide) (fun n => absurd c95 n) (fun _ => ?_)
          obtain ⟨x51, h96, hf⟩ := s_bind hf
          refine lv_aload_n hx hb dL_law_611 rfl (lv_at hl 5 rfl) ?_
          refine lv_iconst (v := 0) hx hb dL_law_612 (by decide) ?_
          refine r_lald X I h96 dL_law_613 ?_
          refine lv_iload hx hb dL_law_614 (lv_at hl 0 rfl) ?_
          rcases s_ite hf with ⟨c97, hf⟩ | ⟨c97, hf⟩
          · refine lv_if_eq (tgt := 623) hx hb dL_law_616 (by decide) (fun _ => ?_) (fun n => absurd c97 n)
            cases hf
            have k : s_V G (d + 139) M_L_law vs0 σ0 Y_L_law (624, [.ref v0, .ref v1, .ref v2, .ref v3, .int v4, .long 0, .long x51], q50.2) (e_I r) := k
            refine lv_lconst (v := 0) hx hb dL_law_623 (by decide) ?_
            exact k.2 p e s m below meth c _ _ _ _ _ X I hn.1 hn.2 (lv_sub hl [2, 3, 4, 5, 6] rfl)
          · refine lv_if_eq (tgt := 623) hx hb dL_law_616 (by decide) (fun n => absurd n c97) (fun _ => ?_)
            cases hf
            have k : s_V G (d + 139) M_L_law vs0 σ0 Y_L_law (624, [.ref v0, .ref v1, .ref v2, .ref v3, .int v4, .long 1, .long x51], q50.2) (e_I r) := k
            refine lv_lconst (v := 1) hx hb dL_law_619 (by decide) ?_
            refine lv_goto (tgt := 624) hx hb dL_law_620 (by decide) ?_
            exact k.2 p e s m below meth c _ _ _ _ _ X I hn.1 hn.2 (lv_sub hl [2, 3, 4, 5, 6] rfl)
        · refine lv_if_ne (tgt := 630) hx hb dL_law_608 (by decide) (fun _ => ?_) (fun n => absurd n c95)
          cases hf
          have k : s_V G (d + 139) M_L_law vs0 σ0 Y_L_law (630, [.ref v0, .ref v1, .ref v2, .ref v3, .int v4], q50.2) (e_I r) := k
          exact k.2 p e s m below meth c _ _ _ _ _ X I hn.1 hn.2 (lv_sub hl [2, 3, 4, 5, 6] rfl)
      · refine lv_icmp_eq (tgt := 606) hx hb dL_law_601 (by decide) (fun n => absurd n c94) (fun _ => ?_)
        cases hf
        have k : _ = r := k
        subst k
        refine lv_iconst (v := 0) hx hb dL_law_604 (by decide) ?_
        exact r_iret X I rfl rfl rfl hn dL_law_605
    rcases s_ite hf with ⟨c98, hf⟩ | ⟨c98, hf⟩
    · refine lv_tableIn (tgt := 633) (off := 593) hx hb dL_law_40 (by rw [c98]; decide) (by rw [c98]; decide) (by rw [c98]; rfl) (by decide) ?_
      obtain ⟨x52, h99, hf⟩ := s_bind hf
      obtain ⟨q53, h100, hf⟩ := s_bind hf
      obtain ⟨x54, h101, hf⟩ := s_bind hf
      obtain ⟨q55, h102, hf⟩ := s_bind hf
      obtain ⟨q56, h103, hf⟩ := s_bind hf
      have le104 : s_le q56.2 (e_I r).2 := by
        refine s_lek hem_I ?_ k
        rcases s_ite hf with ⟨-, hf⟩ | ⟨-, hf⟩
        · rcases s_ite hf with ⟨-, hf⟩ | ⟨-, hf⟩
          · obtain ⟨x57, -, hf⟩ := s_bind hf
            rcases s_ite hf with ⟨-, hf⟩ | ⟨-, hf⟩
            · cases hf
              exact s_le.rf
            · cases hf
              exact s_le.rf
          · cases hf
            exact s_le.rf
        · cases hf
          exact s_le.rf
      have le105 := s_le.tr (l_X8_thrown h103) le104
      have le106 := s_le.tr (l_X8_worlds h102) le105
      refine lv_aload_n hx hb dL_law_633 rfl (lv_at hl 1 rfl) ?_
      refine lv_aload_n hx hb dL_law_634 rfl (lv_at hl 0 rfl) ?_
      refine lv_iload hx hb dL_law_635 (lv_at hl 4 rfl) ?_
      refine lv_iconst (v := 1) hx hb dL_law_637 (by decide) ?_
      refine lv_iadd hx hb dL_law_638 ?_
      refine r_iald X I h99 dL_law_639 ?_
      refine lv_aload_n hx hb dL_law_640 rfl (lv_at hl 3 rfl) ?_
      refine r_callX (Y := M_L_worlds) (v := some (.int q53.1)) X I w_1066 my_L_worlds (by omega) (t_L_worlds (G := G) (d := d + 133) h100) rfl rfl hl.1 rfl (Nat.le_of_ble_eq_true rfl) hn le106 dL_law_641 (fun H locs cells slots I hn1 hn2 => ?_)
      have I : s_I G q53.2 s H locs := I
      have hn : cells + σ0.2.1 ≤ q53.2.2.1 ∧ slots + σ0.2.2.1 ≤ q53.2.2.2.1 := ⟨hn1, hn2⟩
      refine lv_istore (lv' := [(5, .int q53.1), (0, .ref v0), (1, .ref v1), (2, .ref v2), (3, .ref v3), (4, .int v4)]) hx hb dL_law_644 hl (by decide) rfl (fun ls hl => ?_)
      refine lv_aload_n hx hb dL_law_646 rfl (lv_at hl 3 rfl) ?_
      refine lv_aload_n hx hb dL_law_647 rfl (lv_at hl 1 rfl) ?_
      refine lv_iload hx hb dL_law_648 (lv_at hl 5 rfl) ?_
      refine lv_iconst (v := 1) hx hb dL_law_650 (by decide) ?_
      refine lv_iadd hx hb dL_law_651 ?_
      refine r_iald X I h101 dL_law_652 ?_
      refine r_callV (Y := M_X8_worlds) (v := some (.int q55.1)) X I w_1961 my_X8_worlds (by omega) (t_X8_worlds (G := G) (d := d + 134) h102) (b_X8_worlds h102) rfl rfl hl.1 rfl (Nat.le_of_ble_eq_true rfl) hn le105 dL_law_653 (fun H locs cells slots I hn1 hn2 => ?_)
      have I : s_I G q55.2 s H locs := I
      have hn : cells + σ0.2.1 ≤ q55.2.2.1 ∧ slots + σ0.2.2.1 ≤ q55.2.2.2.1 := ⟨hn1, hn2⟩
      refine lv_istore (lv' := [(6, .int q55.1), (5, .int q53.1), (0, .ref v0), (1, .ref v1), (2, .ref v2), (3, .ref v3), (4, .int v4)]) hx hb dL_law_656 hl (by decide) rfl (fun ls hl => ?_)
      refine lv_aload_n hx hb dL_law_658 rfl (lv_at hl 4 rfl) ?_
      refine r_callV (Y := M_X8_thrown) (v := some (.int q56.1)) X I w_1671 my_X8_thrown (by omega) (t_X8_thrown (G := G) (d := d + 137) h103) (b_X8_thrown h103) rfl rfl hl.1 rfl (Nat.le_of_ble_eq_true rfl) hn le104 dL_law_659 (fun H locs cells slots I hn1 hn2 => ?_)
      have I : s_I G q56.2 s H locs := I
      have hn : cells + σ0.2.1 ≤ q56.2.2.1 ∧ slots + σ0.2.2.1 ≤ q56.2.2.2.1 := ⟨hn1, hn2⟩
      refine lv_iload hx hb dL_law_662 (lv_at hl 1 rfl) ?_
      rcases s_ite hf with ⟨c107, hf⟩ | ⟨c107, hf⟩
      · refine lv_icmp_eq (tgt := 669) hx hb dL_law_664 (by decide) (fun _ => ?_) (fun n => absurd c107 n)
        refine lv_iload hx hb dL_law_669 (lv_at hl 1 rfl) ?_
        rcases s_ite hf with ⟨c108, hf⟩ | ⟨c108, hf⟩
        · refine lv_if_ne (tgt := 686) hx hb dL_law_671 (by decide) (fun n => absurd c108 n) (fun _ => ?_)
          obtain ⟨x57, h109, hf⟩ := s_bind hf
          refine lv_aload_n hx hb dL_law_674 rfl (lv_at hl 5 rfl) ?_
          refine lv_iconst (v := 0) hx hb dL_law_675 (by decide) ?_
          refine r_lald X I h109 dL_law_676 ?_
          refine lv_iload hx hb dL_law_677 (lv_at hl 0 rfl) ?_
          refine lv_i2l hx hb dL_law_679 rfl ?_
          refine W.lcmp hx hb dL_law_680 ?_
          rcases s_ite hf with ⟨c110, hf⟩ | ⟨c110, hf⟩
          · refine lv_if_eq (tgt := 686) hx hb dL_law_681 (by decide) (fun _ => ?_) (fun n => absurd c110 n)
            cases hf
            have k : s_V G (d + 139) M_L_law vs0 σ0 Y_L_law (686, [.ref v0, .ref v1, .ref v2, .ref v3, .int v4], q56.2) (e_I r) := k
            exact k.2 p e s m below meth c _ _ _ _ _ X I hn.1 hn.2 (lv_sub hl [2, 3, 4, 5, 6] rfl)
          · refine lv_if_eq (tgt := 686) hx hb dL_law_681 (by decide) (fun n => absurd n c110) (fun _ => ?_)
            cases hf
            have k : _ = r := k
            subst k
            refine lv_iconst (v := 0) hx hb dL_law_684 (by decide) ?_
            exact r_iret X I rfl rfl rfl hn dL_law_685
        · refine lv_if_ne (tgt := 686) hx hb dL_law_671 (by decide) (fun _ => ?_) (fun n => absurd n c108)
          cases hf
          have k : s_V G (d + 139) M_L_law vs0 σ0 Y_L_law (686, [.ref v0, .ref v1, .ref v2, .ref v3, .int v4], q56.2) (e_I r) := k
          exact k.2 p e s m below meth c _ _ _ _ _ X I hn.1 hn.2 (lv_sub hl [2, 3, 4, 5, 6] rfl)
      · refine lv_icmp_eq (tgt := 669) hx hb dL_law_664 (by decide) (fun n => absurd n c107) (fun _ => ?_)
        cases hf
        have k : _ = r := k
        subst k
        refine lv_iconst (v := 0) hx hb dL_law_667 (by decide) ?_
        exact r_iret X I rfl rfl rfl hn dL_law_668
    rcases s_ite hf with ⟨c111, hf⟩ | ⟨c111, hf⟩
    · refine lv_tableIn (tgt := 689) (off := 649) hx hb dL_law_40 (by rw [c111]; decide) (by rw [c111]; decide) (by rw [c111]; rfl) (by decide) ?_
      obtain ⟨x58, h112, hf⟩ := s_bind hf
      obtain ⟨x59, h113, hf⟩ := s_bind hf
      obtain ⟨q60, h114, hf⟩ := s_bind hf
      obtain ⟨x61, h115, hf⟩ := s_bind hf
      obtain ⟨x62, h116, hf⟩ := s_bind hf
      obtain ⟨q63, h117, hf⟩ := s_bind hf
      obtain ⟨q64, h118, hf⟩ := s_bind hf
      have le119 : s_le q64.2 (e_I r).2 := by
        refine s_lek hem_I ?_ k
        rcases s_ite hf with ⟨-, hf⟩ | ⟨-, hf⟩
        · rcases s_ite hf with ⟨-, hf⟩ | ⟨-, hf⟩
          · obtain ⟨x65, -, hf⟩ := s_bind hf
            rcases s_ite hf with ⟨-, hf⟩ | ⟨-, hf⟩
            · cases hf
              exact s_le.rf
            · cases hf
              exact s_le.rf
          · cases hf
            exact s_le.rf
        · cases hf
          exact s_le.rf
      have le120 := s_le.tr (l_X8_thrown h118) le119
      have le121 := s_le.tr (l_X8_rules h117) le120
      refine lv_aload_n hx hb dL_law_689 rfl (lv_at hl 1 rfl) ?_
      refine lv_aload_n hx hb dL_law_690 rfl (lv_at hl 0 rfl) ?_
      refine lv_iload hx hb dL_law_691 (lv_at hl 4 rfl) ?_
      refine lv_iconst (v := 1) hx hb dL_law_693 (by decide) ?_
      refine lv_iadd hx hb dL_law_694 ?_
      refine r_iald X I h112 dL_law_695 ?_
      refine lv_aload_n hx hb dL_law_696 rfl (lv_at hl 0 rfl) ?_
      refine lv_iload hx hb dL_law_697 (lv_at hl 4 rfl) ?_
      refine lv_iconst (v := 2) hx hb dL_law_699 (by decide) ?_
      refine lv_iadd hx hb dL_law_700 ?_
      refine r_iald X I h113 dL_law_701 ?_
      refine lv_aload_n hx hb dL_law_702 rfl (lv_at hl 3 rfl) ?_
      refine r_callX (Y := M_L_rules) (v := some (.int q60.1)) X I w_1080 my_L_rules (by omega) (t_L_rules (G := G) (d := d + 135) h114) rfl rfl hl.1 rfl (Nat.le_of_ble_eq_true rfl) hn le121 dL_law_703 (fun H locs cells slots I hn1 hn2 => ?_)
      have I : s_I G q60.2 s H locs := I
      have hn : cells + σ0.2.1 ≤ q60.2.2.1 ∧ slots + σ0.2.2.1 ≤ q60.2.2.2.1 := ⟨hn1, hn2⟩
      refine lv_istore (lv' := [(5, .int q60.1), (0, .ref v0), (1, .ref v1), (2, .ref v2), (3, .ref v3), (4, .int v4)]) hx hb dL_law_706 hl (by decide) rfl (fun ls hl => ?_)
      refine lv_aload_n hx hb dL_law_708 rfl (lv_at hl 3 rfl) ?_
      refine lv_aload_n hx hb dL_law_709 rfl (lv_at hl 1 rfl) ?_
      refine lv_iload hx hb dL_law_710 (lv_at hl 5 rfl) ?_
      refine lv_iconst (v := 1) hx hb dL_law_712 (by decide) ?_
      refine lv_iadd hx hb dL_law_713 ?_
      refine r_iald X I h115 dL_law_714 ?_
      refine lv_aload_n hx hb dL_law_715 rfl (lv_at hl 1 rfl) ?_
      refine lv_iload hx hb dL_law_716 (lv_at hl 5 rfl) ?_
      refine lv_iconst (v := 2) hx hb dL_law_718 (by decide) ?_
      refine lv_iadd hx hb dL_law_719 ?_
      refine r_iald X I h116 dL_law_720 ?_
      refine r_callV (Y := M_X8_rules) (v := some (.int q63.1)) X I w_1969 my_X8_rules (by omega) (t_X8_rules (G := G) (d := d + 135) h117) (b_X8_rules h117) rfl rfl hl.1 rfl (Nat.le_of_ble_eq_true rfl) hn le120 dL_law_721 (fun H locs cells slots I hn1 hn2 => ?_)
      have I : s_I G q63.2 s H locs := I
      have hn : cells + σ0.2.1 ≤ q63.2.2.1 ∧ slots + σ0.2.2.1 ≤ q63.2.2.2.1 := ⟨hn1, hn2⟩
      refine lv_istore (lv' := [(6, .int q63.1), (5, .int q60.1), (0, .ref v0), (1, .ref v1), (2, .ref v2), (3, .ref v3), (4, .int v4)]) hx hb dL_law_724 hl (by decide) rfl (fun ls hl => ?_)
      refine lv_aload_n hx hb dL_law_726 rfl (lv_at hl 4 rfl) ?_
      refine r_callV (Y := M_X8_thrown) (v := some (.int q64.1)) X I w_1671 my_X8_thrown (by omega) (t_X8_thrown (G := G) (d := d + 137) h118) (b_X8_thrown h118) rfl rfl hl.1 rfl (Nat.le_of_ble_eq_true rfl) hn le119 dL_law_727 (fun H locs cells slots I hn1 hn2 => ?_)
      have I : s_I G q64.2 s H locs := I
      have hn : cells + σ0.2.1 ≤ q64.2.2.1 ∧ slots + σ0.2.2.1 ≤ q64.2.2.2.1 := ⟨hn1, hn2⟩
      refine lv_iload hx hb dL_law_730 (lv_at hl 1 rfl) ?_
      rcases s_ite hf with ⟨c122, hf⟩ | ⟨c122, hf⟩
      · refine lv_icmp_eq (tgt := 737) hx hb dL_law_732 (by decide) (fun _ => ?_) (fun n => absurd c122 n)
        refine lv_iload hx hb dL_law_737 (lv_at hl 1 rfl) ?_
        rcases s_ite hf with ⟨c123, hf⟩ | ⟨c123, hf⟩
        · refine lv_if_ne (tgt := 754) hx hb dL_law_739 (by decide) (fun n => absurd c123 n) (fun _ => ?_)
          obtain ⟨x65, h124, hf⟩ := s_bind hf
          refine lv_aload_n hx hb dL_law_742 rfl (lv_at hl 5 rfl) ?_
          refine lv_iconst (v := 0) hx hb dL_law_743 (by decide) ?_
          refine r_lald X I h124 dL_law_744 ?_
          refine lv_iload hx hb dL_law_745 (lv_at hl 0 rfl) ?_
          refine lv_i2l hx hb dL_law_747 rfl ?_
          refine W.lcmp hx hb dL_law_748 ?_
          rcases s_ite hf with ⟨c125, hf⟩ | ⟨c125, hf⟩
          · refine lv_if_eq (tgt := 754) hx hb dL_law_749 (by decide) (fun _ => ?_) (fun n => absurd c125 n)
            cases hf
            have k : s_V G (d + 139) M_L_law vs0 σ0 Y_L_law (754, [.ref v0, .ref v1, .ref v2, .ref v3, .int v4], q64.2) (e_I r) := k
            exact k.2 p e s m below meth c _ _ _ _ _ X I hn.1 hn.2 (lv_sub hl [2, 3, 4, 5, 6] rfl)
          · refine lv_if_eq (tgt := 754) hx hb dL_law_749 (by decide) (fun n => absurd n c125) (fun _ => ?_)
            cases hf
            have k : _ = r := k
            subst k
            refine lv_iconst (v := 0) hx hb dL_law_752 (by decide) ?_
            exact r_iret X I rfl rfl rfl hn dL_law_753
        · refine lv_if_ne (tgt := 754) hx hb dL_law_739 (by decide) (fun _ => ?_) (fun n => absurd n c123)
          cases hf
          have k : s_V G (d + 139) M_L_law vs0 σ0 Y_L_law (754, [.ref v0, .ref v1, .ref v2, .ref v3, .int v4], q64.2) (e_I r) := k
          exact k.2 p e s m below meth c _ _ _ _ _ X I hn.1 hn.2 (lv_sub hl [2, 3, 4, 5, 6] rfl)
      · refine lv_icmp_eq (tgt := 737) hx hb dL_law_732 (by decide) (fun n => absurd n c122) (fun _ => ?_)
        cases hf
        have k : _ = r := k
        subst k
        refine lv_iconst (v := 0) hx hb dL_law_735 (by decide) ?_
        exact r_iret X I rfl rfl rfl hn dL_law_736
    rcases s_ite hf with ⟨c126, hf⟩ | ⟨c126, hf⟩
    · refine lv_tableIn (tgt := 757) (off := 717) hx hb dL_law_40 (by rw [c126]; decide) (by rw [c126]; decide) (by rw [c126]; rfl) (by decide) ?_
      obtain ⟨x66, h127, hf⟩ := s_bind hf
      obtain ⟨x67, h128, hf⟩ := s_bind hf
      obtain ⟨x68, h129, hf⟩ := s_bind hf
      obtain ⟨q69, h130, hf⟩ := s_bind hf
      obtain ⟨x70, h131, hf⟩ := s_bind hf
      obtain ⟨x71, h132, hf⟩ := s_bind hf
      obtain ⟨x72, h133, hf⟩ := s_bind hf
      obtain ⟨q73, h134, hf⟩ := s_bind hf
      obtain ⟨q74, h135, hf⟩ := s_bind hf
      have le136 : s_le q74.2 (e_I r).2 := by
        refine s_lek hem_I ?_ k
        rcases s_ite hf with ⟨-, hf⟩ | ⟨-, hf⟩
        · rcases s_ite hf with ⟨-, hf⟩ | ⟨-, hf⟩
          · obtain ⟨x75, -, hf⟩ := s_bind hf
            rcases s_ite hf with ⟨-, hf⟩ | ⟨-, hf⟩
            · cases hf
              exact s_le.rf
            · cases hf
              exact s_le.rf
          · cases hf
            exact s_le.rf
        · cases hf
          exact s_le.rf
      have le137 := s_le.tr (l_X8_thrown h135) le136
      have le138 := s_le.tr (l_X8_price h134) le137
      refine lv_aload_n hx hb dL_law_757 rfl (lv_at hl 1 rfl) ?_
      refine lv_aload_n hx hb dL_law_758 rfl (lv_at hl 0 rfl) ?_
      refine lv_iload hx hb dL_law_759 (lv_at hl 4 rfl) ?_
      refine lv_iconst (v := 1) hx hb dL_law_761 (by decide) ?_
      refine lv_iadd hx hb dL_law_762 ?_
      refine r_iald X I h127 dL_law_763 ?_
      refine lv_aload_n hx hb dL_law_764 rfl (lv_at hl 0 rfl) ?_
      refine lv_iload hx hb dL_law_765 (lv_at hl 4 rfl) ?_
      refine lv_iconst (v := 2) hx hb dL_law_767 (by decide) ?_
      refine lv_iadd hx hb dL_law_768 ?_
      refine r_iald X I h128 dL_law_769 ?_
      refine lv_aload_n hx hb dL_law_770 rfl (lv_at hl 0 rfl) ?_
      refine lv_iload hx hb dL_law_771 (lv_at hl 4 rfl) ?_
      refine lv_iconst (v := 3) hx hb dL_law_773 (by decide) ?_
      refine lv_iadd hx hb dL_law_774 ?_
      refine r_iald X I h129 dL_law_775 ?_
      refine lv_aload_n hx hb dL_law_776 rfl (lv_at hl 3 rfl) ?_
      refine r_callX (Y := M_L_price) (v := some (.int q69.1)) X I w_1094 my_L_price (by omega) (t_L_price (G := G) (d := d + 135) h130) rfl rfl hl.1 rfl (Nat.le_of_ble_eq_true rfl) hn le138 dL_law_777 (fun H locs cells slots I hn1 hn2 => ?_)
      have I : s_I G q69.2 s H locs := I
      have hn : cells + σ0.2.1 ≤ q69.2.2.1 ∧ slots + σ0.2.2.1 ≤ q69.2.2.2.1 := ⟨hn1, hn2⟩
      refine lv_istore (lv' := [(5, .int q69.1), (0, .ref v0), (1, .ref v1), (2, .ref v2), (3, .ref v3), (4, .int v4)]) hx hb dL_law_780 hl (by decide) rfl (fun ls hl => ?_)
      refine lv_aload_n hx hb dL_law_782 rfl (lv_at hl 3 rfl) ?_
      refine lv_aload_n hx hb dL_law_783 rfl (lv_at hl 1 rfl) ?_
      refine lv_iload hx hb dL_law_784 (lv_at hl 5 rfl) ?_
      refine lv_iconst (v := 1) hx hb dL_law_786 (by decide) ?_
      refine lv_iadd hx hb dL_law_787 ?_
      refine r_iald X I h131 dL_law_788 ?_
      refine lv_aload_n hx hb dL_law_789 rfl (lv_at hl 1 rfl) ?_
      refine lv_iload hx hb dL_law_790 (lv_at hl 5 rfl) ?_
      refine lv_iconst (v := 2) hx hb dL_law_792 (by decide) ?_
      refine lv_iadd hx hb dL_law_793 ?_
      refine r_iald X I h132 dL_law_794 ?_
      refine lv_aload_n hx hb dL_law_795 rfl (lv_at hl 1 rfl) ?_
      refine lv_iload hx hb dL_law_796 (lv_at hl 5 rfl) ?_
      refine lv_iconst (v := 3) hx hb dL_law_798 (by decide) ?_
      refine lv_iadd hx hb dL_law_799 ?_
      refine r_iald X I h133 dL_law_800 ?_
      refine r_callV (Y := M_X8_price) (v := some (.int q73.1)) X I w_1976 my_X8_price (by omega) (t_X8_price (G := G) (d := d + 135) h134) (b_X8_price h134) rfl rfl hl.1 rfl (Nat.le_of_ble_eq_true rfl) hn le137 dL_law_801 (fun H locs cells slots I hn1 hn2 => ?_)
      have I : s_I G q73.2 s H locs := I
      have hn : cells + σ0.2.1 ≤ q73.2.2.1 ∧ slots + σ0.2.2.1 ≤ q73.2.2.2.1 := ⟨hn1, hn2⟩
      refine lv_istore (lv' := [(6, .int q73.1), (5, .int q69.1), (0, .ref v0), (1, .ref v1), (2, .ref v2), (3, .ref v3), (4, .int v4)]) hx hb dL_law_804 hl (by decide) rfl (fun ls hl => ?_)
      refine lv_aload_n hx hb dL_law_806 rfl (lv_at hl 4 rfl) ?_
      refine r_callV (Y := M_X8_thrown) (v := some (.int q74.1)) X I w_1671 my_X8_thrown (by omega) (t_X8_thrown (G := G) (d := d + 137) h135) (b_X8_thrown h135) rfl rfl hl.1 rfl (Nat.le_of_ble_eq_true rfl) hn le136 dL_law_807 (fun H locs cells slots I hn1 hn2 => ?_)
      have I : s_I G q74.2 s H locs := I
      have hn : cells + σ0.2.1 ≤ q74.2.2.1 ∧ slots + σ0.2.2.1 ≤ q74.2.2.2.1 := ⟨hn1, hn2⟩
      refine lv_iload hx hb dL_law_810 (lv_at hl 1 rfl) ?_
      rcases s_ite hf with ⟨c139, hf⟩ | ⟨c139, hf⟩
      · refine lv_icmp_eq (tgt := 817) hx hb dL_law_812 (by decide) (fun _ => ?_) (fun n => absurd c139 n)
        refine lv_iload hx hb dL_law_817 (lv_at hl 1 rfl) ?_
        rcases s_ite hf with ⟨c140, hf⟩ | ⟨c140, hf⟩
        · refine lv_if_ne (tgt := 834) hx hb dL_law_819 (by decide) (fun n => absurd c140 n) (fun _ => ?_)
          obtain ⟨x75, h141, hf⟩ := s_bind hf
          refine lv_aload_n hx hb dL_law_822 rfl (lv_at hl 5 rfl) ?_
          refine lv_iconst (v := 0) hx hb dL_law_823 (by decide) ?_
          refine r_lald X I h141 dL_law_824 ?_
          refine lv_iload hx hb dL_law_825 (lv_at hl 0 rfl) ?_
          refine lv_i2l hx hb dL_law_827 rfl ?_
          refine W.lcmp hx hb dL_law_828 ?_
          rcases s_ite hf with ⟨c142, hf⟩ | ⟨c142, hf⟩
          · refine lv_if_eq (tgt := 834) hx hb dL_law_829 (by decide) (fun _ => ?_) (fun n => absurd c142 n)
            cases hf
            have k : s_V G (d + 139) M_L_law vs0 σ0 Y_L_law (834, [.ref v0, .ref v1, .ref v2, .ref v3, .int v4], q74.2) (e_I r) := k
            exact k.2 p e s m below meth c _ _ _ _ _ X I hn.1 hn.2 (lv_sub hl [2, 3, 4, 5, 6] rfl)
          · refine lv_if_eq (tgt := 834) hx hb dL_law_829 (by decide) (fun n => absurd n c142) (fun _ => ?_)
            cases hf
            have k : _ = r := k
            subst k
            refine lv_iconst (v := 0) hx hb dL_law_832 (by decide) ?_
            exact r_iret X I rfl rfl rfl hn dL_law_833
        · refine lv_if_ne (tgt := 834) hx hb dL_law_819 (by decide) (fun _ => ?_) (fun n => absurd n c140)
          cases hf
          have k : s_V G (d + 139) M_L_law vs0 σ0 Y_L_law (834, [.ref v0, .ref v1, .ref v2, .ref v3, .int v4], q74.2) (e_I r) := k
          exact k.2 p e s m below meth c _ _ _ _ _ X I hn.1 hn.2 (lv_sub hl [2, 3, 4, 5, 6] rfl)
      · refine lv_icmp_eq (tgt := 817) hx hb dL_law_812 (by decide) (fun n => absurd n c139) (fun _ => ?_)
        cases hf
        have k : _ = r := k
        subst k
        refine lv_iconst (v := 0) hx hb dL_law_815 (by decide) ?_
        exact r_iret X I rfl rfl rfl hn dL_law_816
    rcases s_ite hf with ⟨c143, hf⟩ | ⟨c143, hf⟩
    · refine lv_tableIn (tgt := 837) (off := 797) hx hb dL_law_40 (by rw [c143]; decide) (by rw [c143]; decide) (by rw [c143]; rfl) (by decide) ?_
      obtain ⟨x76, h144, hf⟩ := s_bind hf
      obtain ⟨x77, h145, hf⟩ := s_bind hf
      obtain ⟨x78, h146, hf⟩ := s_bind hf
      refine lv_aload_n hx hb dL_law_837 rfl (lv_at hl 1 rfl) ?_
      refine lv_aload_n hx hb dL_law_838 rfl (lv_at hl 0 rfl) ?_
      refine lv_iload hx hb dL_law_839 (lv_at hl 4 rfl) ?_
      refine lv_iconst (v := 1) hx hb dL_law_841 (by decide) ?_
      refine lv_iadd hx hb dL_law_842 ?_
      refine r_iald X I h144 dL_law_843 ?_
      refine lv_aload_n hx hb dL_law_844 rfl (lv_at hl 0 rfl) ?_
      refine lv_iload hx hb dL_law_845 (lv_at hl 4 rfl) ?_
      refine lv_iconst (v := 2) hx hb dL_law_847 (by decide) ?_
      refine lv_iadd hx hb dL_law_848 ?_
      refine r_iald X I h145 dL_law_849 ?_
      refine lv_aload_n hx hb dL_law_850 rfl (lv_at hl 0 rfl) ?_
      refine lv_iload hx hb dL_law_851 (lv_at hl 4 rfl) ?_
      refine lv_iconst (v := 3) hx hb dL_law_853 (by decide) ?_
      refine lv_iadd hx hb dL_law_854 ?_
      refine r_iald X I h146 dL_law_855 ?_
      rcases s_ite hf with ⟨c147, hf⟩ | ⟨c147, hf⟩
      · refine lv_if_eq (tgt := 863) hx hb dL_law_856 (by decide) (fun _ => ?_) (fun n => absurd c147 n)
        cases hf
        have k : s_V G (d + 139) M_L_law vs0 σ0 Y_L_law (864, [.ref v0, .ref v1, .ref v2, .ref v3, .int v4, .int 0, .int x77, .int x76, .ref v1], σ) (e_I r) := k
        refine lv_iconst (v := 0) hx hb dL_law_863 (by decide) ?_
        exact k.2 p e s m below meth c _ _ _ _ _ X I hn.1 hn.2 (lv_sub hl [0, 1, 2, 3, 4] rfl)
      · refine lv_if_eq (tgt := 863) hx hb dL_law_856 (by decide) (fun n => absurd n c147) (fun _ => ?_)
        cases hf
        have k : s_V G (d + 139) M_L_law vs0 σ0 Y_L_law (864, [.ref v0, .ref v1, .ref v2, .ref v3, .int v4, .int 1, .int x77, .int x76, .ref v1], σ) (e_I r) := k
        refine lv_iconst (v := 1) hx hb dL_law_859 (by decide) ?_
        refine lv_goto (tgt := 864) hx hb dL_law_860 (by decide) ?_
        exact k.2 p e s m below meth c _ _ _ _ _ X I hn.1 hn.2 (lv_sub hl [0, 1, 2, 3, 4] rfl)
    rcases s_ite hf with ⟨c148, hf⟩ | ⟨c148, hf⟩
    · refine lv_tableIn (tgt := 940) (off := 900) hx hb dL_law_40 (by rw [c148]; decide) (by rw [c148]; decide) (by rw [c148]; rfl) (by decide) ?_
      obtain ⟨x79, h149, hf⟩ := s_bind hf
      obtain ⟨q80, h150, hf⟩ := s_bind hf
      obtain ⟨x81, h151, hf⟩ := s_bind hf
      obtain ⟨q82, h152, hf⟩ := s_bind hf
      obtain ⟨q83, h153, hf⟩ := s_bind hf
      have le154 : s_le q83.2 (e_I r).2 := by
        refine s_lek hem_I ?_ k
        rcases s_ite hf with ⟨-, hf⟩ | ⟨-, hf⟩
        · rcases s_ite hf with ⟨-, hf⟩ | ⟨-, hf⟩
          · obtain ⟨x84, -, hf⟩ := s_bind hf
            rcases s_ite hf with ⟨-, hf⟩ | ⟨-, hf⟩
            · cases hf
              exact s_le.rf
            · cases hf
              exact s_le.rf
          · cases hf
            exact s_le.rf
        · cases hf
          exact s_le.rf
      have le155 := s_le.tr (l_X8_thrown h153) le154
      have le156 := s_le.tr (l_X8_beliefs h152) le155
      refine lv_aload_n hx hb dL_law_940 rfl (lv_at hl 1 rfl) ?_
      refine lv_aload_n hx hb dL_law_941 rfl (lv_at hl 0 rfl) ?_
      refine lv_iload hx hb dL_law_942 (lv_at hl 4 rfl) ?_
      refine lv_iconst (v := 1) hx hb dL_law_944 (by decide) ?_
      refine lv_iadd hx hb dL_law_945 ?_
      refine r_iald X I h149 dL_law_946 ?_
      refine lv_aload_n hx hb dL_law_947 rfl (lv_at hl 3 rfl) ?_
      refine r_callX (Y := M_L_beliefs) (v := some (.int q80.1)) X I w_1120 my_L_beliefs (by omega) (t_L_beliefs (G := G) (d := d + 135) h150) rfl rfl hl.1 rfl (Nat.le_of_ble_eq_true rfl) hn le156 dL_law_948 (fun H locs cells slots I hn1 hn2 => ?_)
      have I : s_I G q80.2 s H locs := I
      have hn : cells + σ0.2.1 ≤ q80.2.2.1 ∧ slots + σ0.2.2.1 ≤ q80.2.2.2.1 := ⟨hn1, hn2⟩
      refine lv_istore (lv' := [(5, .int q80.1), (0, .ref v0), (1, .ref v1), (2, .ref v2), (3, .ref v3), (4, .int v4)]) hx hb dL_law_951 hl (by decide) rfl (fun ls hl => ?_)
      refine lv_aload_n hx hb dL_law_953 rfl (lv_at hl 3 rfl) ?_
      refine lv_aload_n hx hb dL_law_954 rfl (lv_at hl 1 rfl) ?_
      refine lv_iload hx hb dL_law_955 (lv_at hl 5 rfl) ?_
      refine lv_iconst (v := 1) hx hb dL_law_957 (by decide) ?_
      refine lv_iadd hx hb dL_law_958 ?_
      refine r_iald X I h151 dL_law_959 ?_
      refine r_callV (Y := M_X8_beliefs) (v := some (.int q82.1)) X I w_1991 my_X8_beliefs (by omega) (t_X8_beliefs (G := G) (d := d + 135) h152) (b_X8_beliefs h152) rfl rfl hl.1 rfl (Nat.le_of_ble_eq_true rfl) hn le155 dL_law_960 (fun H locs cells slots I hn1 hn2 => ?_)
      have I : s_I G q82.2 s H locs := I
      have hn : cells + σ0.2.1 ≤ q82.2.2.1 ∧ slots + σ0.2.2.1 ≤ q82.2.2.2.1 := ⟨hn1, hn2⟩
      refine lv_istore (lv' := [(6, .int q82.1), (5, .int q80.1), (0, .ref v0), (1, .ref v1), (2, .ref v2), (3, .ref v3), (4, .int v4)]) hx hb dL_law_963 hl (by decide) rfl (fun ls hl => ?_)
      refine lv_aload_n hx hb dL_law_965 rfl (lv_at hl 4 rfl) ?_
      refine r_callV (Y := M_X8_thrown) (v := some (.int q83.1)) X I w_1671 my_X8_thrown (by omega) (t_X8_thrown (G := G) (d := d + 137) h153) (b_X8_thrown h153) rfl rfl hl.1 rfl (Nat.le_of_ble_eq_true rfl) hn le154 dL_law_966 (fun H locs cells slots I hn1 hn2 => ?_)
      have I : s_I G q83.2 s H locs := I
      have hn : cells + σ0.2.1 ≤ q83.2.2.1 ∧ slots + σ0.2.2.1 ≤ q83.2.2.2.1 := ⟨hn1, hn2⟩
      refine lv_iload hx hb dL_law_969 (lv_at hl 1 rfl) ?_
      rcases s_ite hf with ⟨c157, hf⟩ | ⟨c157, hf⟩
      · refine lv_icmp_eq (tgt := 976) hx hb dL_law_971 (by decide) (fun _ => ?_) (fun n => absurd c157 n)
        refine lv_iload hx hb dL_law_976 (lv_at hl 1 rfl) ?_
        rcases s_ite hf with ⟨c158, hf⟩ | ⟨c158, hf⟩
        · refine lv_if_ne (tgt := 993) hx hb dL_law_978 (by decide) (fun n => absurd c158 n) (fun _ => ?_)
          obtain ⟨x84, h159, hf⟩ := s_bind hf
          refine lv_aload_n hx hb dL_law_981 rfl (lv_at hl 5 rfl) ?_
          refine lv_iconst (v := 0) hx hb dL_law_982 (by decide) ?_
          refine r_lald X I h159 dL_law_983 ?_
          refine lv_iload hx hb dL_law_984 (lv_at hl 0 rfl) ?_
          refine lv_i2l hx hb dL_law_986 rfl ?_
          refine W.lcmp hx hb dL_law_987 ?_
          rcases s_ite hf with ⟨c160, hf⟩ | ⟨c160, hf⟩
          · refine lv_if_eq (tgt := 993) hx hb dL_law_988 (by decide) (fun _ => ?_) (fun n => absurd c160 n)
            cases hf
            have k : s_V G (d + 139) M_L_law vs0 σ0 Y_L_law (993, [.ref v0, .ref v1, .ref v2, .ref v3, .int v4], q83.2) (e_I r) := k
            exact k.2 p e s m below meth c _ _ _ _ _ X I hn.1 hn.2 (lv_sub hl [2, 3, 4, 5, 6] rfl)
          · refine lv_if_eq (tgt := 993) hx hb dL_law_988 (by decide) (fun n => absurd n c160) (fun _ => ?_)
            cases hf
            have k : _ = r := k
            subst k
            refine lv_iconst (v := 0) hx hb dL_law_991 (by decide) ?_
            exact r_iret X I rfl rfl rfl hn dL_law_992
        · refine lv_if_ne (tgt := 993) hx hb dL_law_978 (by decide) (fun _ => ?_) (fun n => absurd n c158)
          cases hf
          have k : s_V G (d + 139) M_L_law vs0 σ0 Y_L_law (993, [.ref v0, .ref v1, .ref v2, .ref v3, .int v4], q83.2) (e_I r) := k
          exact k.2 p e s m below meth c _ _ _ _ _ X I hn.1 hn.2 (lv_sub hl [2, 3, 4, 5, 6] rfl)
      · refine lv_icmp_eq (tgt := 976) hx hb dL_law_971 (by decide) (fun n => absurd n c157) (fun _ => ?_)
        cases hf
        have k : _ = r := k
        subst k
        refine lv_iconst (v := 0) hx hb dL_law_974 (by decide) ?_
        exact r_iret X I rfl rfl rfl hn dL_law_975
    rcases s_ite hf with ⟨c161, hf⟩ | ⟨c161, hf⟩
    · refine lv_tableIn (tgt := 996) (off := 956) hx hb dL_law_40 (by rw [c161]; decide) (by rw [c161]; decide) (by rw [c161]; rfl) (by decide) ?_
      obtain ⟨x85, h162, hf⟩ := s_bind hf
      obtain ⟨x86, h163, hf⟩ := s_bind hf
      obtain ⟨x87, h164, hf⟩ := s_bind hf
      obtain ⟨x88, h165, hf⟩ := s_bind hf
      obtain ⟨x89, h166, hf⟩ := s_bind hf
      obtain ⟨x90, h167, hf⟩ := s_bind hf
      obtain ⟨q91, h168, hf⟩ := s_bind hf
      obtain ⟨x92, h169, hf⟩ := s_bind hf
      obtain ⟨x93, h170, hf⟩ := s_bind hf
      obtain ⟨x94, h171, hf⟩ := s_bind hf
      obtain ⟨x95, h172, hf⟩ := s_bind hf
      obtain ⟨x96, h173, hf⟩ := s_bind hf
      obtain ⟨x97, h174, hf⟩ := s_bind hf
      obtain ⟨q98, h175, hf⟩ := s_bind hf
      obtain ⟨q99, h176, hf⟩ := s_bind hf
      have le177 : s_le q99.2 (e_I r).2 := by
        refine s_lek hem_I ?_ k
        rcases s_ite hf with ⟨-, hf⟩ | ⟨-, hf⟩
        · rcases s_ite hf with ⟨-, hf⟩ | ⟨-, hf⟩
          · obtain ⟨x100, -, hf⟩ := s_bind hf
            rcases s_ite hf with ⟨-, hf⟩ | ⟨-, hf⟩
            · cases hf
              exact s_le.rf
            · cases hf
              exact s_le.rf
          · cases hf
            exact s_le.rf
        · cases hf
          exact s_le.rf
      have le178 := s_le.tr (l_X8_thrown h176) le177
      have le179 := s_le.tr (l_X8_line h175) le178
      refine lv_aload_n hx hb dL_law_996 rfl (lv_at hl 1 rfl) ?_
      refine lv_aload_n hx hb dL_law_997 rfl (lv_at hl 0 rfl) ?_
      refine lv_iload hx hb dL_law_998 (lv_at hl 4 rfl) ?_
      refine lv_iconst (v := 1) hx hb dL_law_1000 (by decide) ?_
      refine lv_iadd hx hb dL_law_1001 ?_
      refine r_iald X I h162 dL_law_1002 ?_
      refine lv_aload_n hx hb dL_law_1003 rfl (lv_at hl 0 rfl) ?_
      refine lv_iload hx hb dL_law_1004 (lv_at hl 4 rfl) ?_
      refine lv_iconst (v := 2) hx hb dL_law_1006 (by decide) ?_
      refine lv_iadd hx hb dL_law_1007 ?_
      refine r_iald X I h163 dL_law_1008 ?_
      refine lv_aload_n hx hb dL_law_1009 rfl (lv_at hl 0 rfl) ?_
      refine lv_iload hx hb dL_law_1010 (lv_at hl 4 rfl) ?_
      refine lv_iconst (v := 3) hx hb dL_law_1012 (by decide) ?_
      refine lv_iadd hx hb dL_law_1013 ?_
      refine r_iald X I h164 dL_law_1014 ?_
      refine lv_aload_n hx hb dL_law_1015 rfl (lv_at hl 0 rfl) ?_
      refine lv_iload hx hb dL_law_1016 (lv_at hl 4 rfl) ?_
      refine lv_iconst (v := 4) hx hb dL_law_1018 (by decide) ?_
      refine lv_iadd hx hb dL_law_1019 ?_
      refine r_iald X I h165 dL_law_1020 ?_
      refine lv_aload_n hx hb dL_law_1021 rfl (lv_at hl 0 rfl) ?_
      refine lv_iload hx hb dL_law_1022 (lv_at hl 4 rfl) ?_
      refine lv_iconst (v := 5) hx hb dL_law_1024 (by decide) ?_
      refine lv_iadd hx hb dL_law_1025 ?_
      refine r_iald X I h166 dL_law_1026 ?_
      refine lv_aload_n hx hb dL_law_1027 rfl (lv_at hl 0 rfl) ?_
      refine lv_iload hx hb dL_law_1028 (lv_at hl 4 rfl) ?_
      refine lv_bipush (v := 6) hx hb dL_law_1030 (by decide) ?_
      refine lv_iadd hx hb dL_law_1032 ?_
      refine r_iald X I h167 dL_law_1033 ?_
      refine lv_aload_n hx hb dL_law_1034 rfl (lv_at hl 3 rfl) ?_
      refine r_callX (Y := M_L_line) (v := some (.int q91.1)) X I w_1127 my_L_line (by omega) (t_L_line (G := G) (d := d + 132) h168) rfl rfl hl.1 rfl (Nat.le_of_ble_eq_true rfl) hn le179 dL_law_1035 (fun H locs cells slots I hn1 hn2 => ?_)
      have I : s_I G q91.2 s H locs := I
      have hn : cells + σ0.2.1 ≤ q91.2.2.1 ∧ slots + σ0.2.2.1 ≤ q91.2.2.2.1 := ⟨hn1, hn2⟩
      refine lv_istore (lv' := [(5, .int q91.1), (0, .ref v0), (1, .ref v1), (2, .ref v2), (3, .ref v3), (4, .int v4)]) hx hb dL_law_1038 hl (by decide) rfl (fun ls hl => ?_)
      refine lv_aload_n hx hb dL_law_1040 rfl (lv_at hl 3 rfl) ?_
      refine lv_aload_n hx hb dL_law_1041 rfl (lv_at hl 1 rfl) ?_
      refine lv_iload hx hb dL_law_1042 (lv_at hl 5 rfl) ?_
      refine lv_iconst (v := 1) hx hb dL_law_1044 (by decide) ?_
      refine lv_iadd hx hb dL_law_1045 ?_
      refine r_iald X I h169 dL_law_1046 ?_
      refine lv_aload_n hx hb dL_law_1047 rfl (lv_at hl 1 rfl) ?_
      refine lv_iload hx hb dL_law_1048 (lv_at hl 5 rfl) ?_
      refine lv_iconst (v := 2) hx hb dL_law_1050 (by decide) ?_
      refine lv_iadd hx hb dL_law_1051 ?_
      refine r_iald X I h170 dL_law_1052 ?_
      refine lv_aload_n hx hb dL_law_1053 rfl (lv_at hl 1 rfl) ?_
      refine lv_iload hx hb dL_law_1054 (lv_at hl 5 rfl) ?_
      refine lv_iconst (v := 3) hx hb dL_law_1056 (by decide) ?_
      refine lv_iadd hx hb dL_law_1057 ?_
      refine r_iald X I h171 dL_law_1058 ?_
      refine lv_aload_n hx hb dL_law_1059 rfl (lv_at hl 1 rfl) ?_
      refine lv_iload hx hb dL_law_1060 (lv_at hl 5 rfl) ?_
      refine lv_iconst (v := 4) hx hb dL_law_1062 (by decide) ?_
      refine lv_iadd hx hb dL_law_1063 ?_
      refine r_iald X I h172 dL_law_1064 ?_
      refine lv_aload_n hx hb dL_law_1065 rfl (lv_at hl 1 rfl) ?_
      refine lv_iload hx hb dL_law_1066 (lv_at hl 5 rfl) ?_
      refine lv_iconst (v := 5) hx hb dL_law_1068 (by decide) ?_
      refine lv_iadd hx hb dL_law_1069 ?_
      refine r_iald X I h173 dL_law_1070 ?_
      refine lv_aload_n hx hb dL_law_1071 rfl (lv_at hl 1 rfl) ?_
      refine lv_iload hx hb dL_law_1072 (lv_at hl 5 rfl) ?_
      refine lv_bipush (v := 6) hx hb dL_law_1074 (by decide) ?_
      refine lv_iadd hx hb dL_law_1076 ?_
      refine r_iald X I h174 dL_law_1077 ?_
      refine r_callV (Y := M_X8_line) (v := some (.int q98.1)) X I w_1995 my_X8_line (by omega) (t_X8_line (G := G) (d := d + 135) h175) (b_X8_line h175) rfl rfl hl.1 rfl (Nat.le_of_ble_eq_true rfl) hn le178 dL_law_1078 (fun H locs cells slots I hn1 hn2 => ?_)
      have I : s_I G q98.2 s H locs := I
      have hn : cells + σ0.2.1 ≤ q98.2.2.1 ∧ slots + σ0.2.2.1 ≤ q98.2.2.2.1 := ⟨hn1, hn2⟩
      refine lv_istore (lv' := [(6, .int q98.1), (5, .int q91.1), (0, .ref v0), (1, .ref v1), (2, .ref v2), (3, .ref v3), (4, .int v4)]) hx hb dL_law_1081 hl (by decide) rfl (fun ls hl => ?_)
      refine lv_aload_n hx hb dL_law_1083 rfl (lv_at hl 4 rfl) ?_
      refine r_callV (Y := M_X8_thrown) (v := some (.int q99.1)) X I w_1671 my_X8_thrown (by omega) (t_X8_thrown (G := G) (d := d + 137) h176) (b_X8_thrown h176) rfl rfl hl.1 rfl (Nat.le_of_ble_eq_true rfl) hn le177 dL_law_1084 (fun H locs cells slots I hn1 hn2 => ?_)
      have I : s_I G q99.2 s H locs := I
      have hn : cells + σ0.2.1 ≤ q99.2.2.1 ∧ slots + σ0.2.2.1 ≤ q99.2.2.2.1 := ⟨hn1, hn2⟩
      refine lv_iload hx hb dL_law_1087 (lv_at hl 1 rfl) ?_
      rcases s_ite hf with ⟨c180, hf⟩ | ⟨c180, hf⟩
      · refine lv_icmp_eq (tgt := 1094) hx hb dL_law_1089 (by decide) (fun _ => ?_) (fun n => absurd c180 n)
        refine lv_iload hx hb dL_law_1094 (lv_at hl 1 rfl) ?_
        rcases s_ite hf with ⟨c181, hf⟩ | ⟨c181, hf⟩
        · refine lv_if_ne (tgt := 1111) hx hb dL_law_1096 (by decide) (fun n => absurd c181 n) (fun _ => ?_)
          obtain ⟨x100, h182, hf⟩ := s_bind hf
          refine lv_aload_n hx hb dL_law_1099 rfl (lv_at hl 5 rfl) ?_
          refine lv_iconst (v := 0) hx hb dL_law_1100 (by decide) ?_
          refine r_lald X I h182 dL_law_1101 ?_
          refine lv_iload hx hb dL_law_1102 (lv_at hl 0 rfl) ?_
          refine lv_i2l hx hb dL_law_1104 rfl ?_
          refine W.lcmp hx hb dL_law_1105 ?_
          rcases s_ite hf with ⟨c183, hf⟩ | ⟨c183, hf⟩
          · refine lv_if_eq (tgt := 1111) hx hb dL_law_1106 (by decide) (fun _ => ?_) (fun n => absurd c183 n)
            cases hf
            have k : s_V G (d + 139) M_L_law vs0 σ0 Y_L_law (1111, [.ref v0, .ref v1, .ref v2, .ref v3, .int v4], q99.2) (e_I r) := k
            exact k.2 p e s m below meth c _ _ _ _ _ X I hn.1 hn.2 (lv_sub hl [2, 3, 4, 5, 6] rfl)
          · refine lv_if_eq (tgt := 1111) hx hb dL_law_1106 (by decide) (fun n => absurd n c183) (fun _ => ?_)
            cases hf
            have k : _ = r := k
            subst k
            refine lv_iconst (v := 0) hx hb dL_law_1109 (by decide) ?_
            exact r_iret X I rfl rfl rfl hn dL_law_1110
        · refine lv_if_ne (tgt := 1111) hx hb dL_law_1096 (by decide) (fun _ => ?_) (fun n => absurd n c181)
          cases hf
          have k : s_V G (d + 139) M_L_law vs0 σ0 Y_L_law (1111, [.ref v0, .ref v1, .ref v2, .ref v3, .int v4], q99.2) (e_I r) := k
          exact k.2 p e s m below meth c _ _ _ _ _ X I hn.1 hn.2 (lv_sub hl [2, 3, 4, 5, 6] rfl)
      · refine lv_icmp_eq (tgt := 1094) hx hb dL_law_1089 (by decide) (fun n => absurd n c180) (fun _ => ?_)
        cases hf
        have k : _ = r := k
        subst k
        refine lv_iconst (v := 0) hx hb dL_law_1092 (by decide) ?_
        exact r_iret X I rfl rfl rfl hn dL_law_1093
    rcases s_ite hf with ⟨c184, hf⟩ | ⟨c184, hf⟩
    · refine lv_tableIn (tgt := 1114) (off := 1074) hx hb dL_law_40 (by rw [c184]; decide) (by rw [c184]; decide) (by rw [c184]; rfl) (by decide) ?_
      obtain ⟨x101, h185, hf⟩ := s_bind hf
      obtain ⟨x102, h186, hf⟩ := s_bind hf
      obtain ⟨q103, h187, hf⟩ := s_bind hf
      obtain ⟨x104, h188, hf⟩ := s_bind hf
      obtain ⟨x105, h189, hf⟩ := s_bind hf
      obtain ⟨q106, h190, hf⟩ := s_bind hf
      obtain ⟨q107, h191, hf⟩ := s_bind hf
      have le192 : s_le q107.2 (e_I r).2 := by
        refine s_lek hem_I ?_ k
        rcases s_ite hf with ⟨-, hf⟩ | ⟨-, hf⟩
        · rcases s_ite hf with ⟨-, hf⟩ | ⟨-, hf⟩
          · obtain ⟨x108, -, hf⟩ := s_bind hf
            rcases s_ite hf with ⟨-, hf⟩ | ⟨-, hf⟩
            · cases hf
              exact s_le.rf
            · cases hf
              exact s_le.rf
          · cases hf
            exact s_le.rf
        · cases hf
          exact s_le.rf
      have le193 := s_le.tr (l_X8_thrown h191) le192
      have le194 := s_le.tr (l_X8_look h190) le193
      refine lv_aload_n hx hb dL_law_1114 rfl (lv_at hl 1 rfl) ?_
      refine lv_aload_n hx hb dL_law_1115 rfl (lv_at hl 0 rfl) ?_
      refine lv_iload hx hb dL_law_1116 (lv_at hl 4 rfl) ?_
      refine lv_iconst (v := 1) hx hb dL_law_1118 (by decide) ?_
      refine lv_iadd hx hb dL_law_1119 ?_
      refine r_iald X I h185 dL_law_1120 ?_
      refine lv_aload_n hx hb dL_law_1121 rfl (lv_at hl 0 rfl) ?_
      refine lv_iload hx hb dL_law_1122 (lv_at hl 4 rfl) ?_
      refine lv_iconst (v := 2) hx hb dL_law_1124 (by decide) ?_
      refine lv_iadd hx hb dL_law_1125 ?_
      refine r_iald X I h186 dL_law_1126 ?_
      refine lv_aload_n hx hb dL_law_1127 rfl (lv_at hl 3 rfl) ?_
      refine r_callX (Y := M_L_look) (v := some (.int q103.1)) X I w_1158 my_L_look (by omega) (t_L_look (G := G) (d := d + 133) h187) rfl rfl hl.1 rfl (Nat.le_of_ble_eq_true rfl) hn le194 dL_law_1128 (fun H locs cells slots I hn1 hn2 => ?_)
      have I : s_I G q103.2 s H locs := I
      have hn : cells + σ0.2.1 ≤ q103.2.2.1 ∧ slots + σ0.2.2.1 ≤ q103.2.2.2.1 := ⟨hn1, hn2⟩
      refine lv_istore (lv' := [(5, .int q103.1), (0, .ref v0), (1, .ref v1), (2, .ref v2), (3, .ref v3), (4, .int v4)]) hx hb dL_law_1131 hl (by decide) rfl (fun ls hl => ?_)
      refine lv_aload_n hx hb dL_law_1133 rfl (lv_at hl 3 rfl) ?_
      refine lv_aload_n hx hb dL_law_1134 rfl (lv_at hl 1 rfl) ?_
      refine lv_iload hx hb dL_law_1135 (lv_at hl 5 rfl) ?_
      refine lv_iconst (v := 1) hx hb dL_law_1137 (by decide) ?_
      refine lv_iadd hx hb dL_law_1138 ?_
      refine r_iald X I h188 dL_law_1139 ?_
      refine lv_aload_n hx hb dL_law_1140 rfl (lv_at hl 1 rfl) ?_
      refine lv_iload hx hb dL_law_1141 (lv_at hl 5 rfl) ?_
      refine lv_iconst (v := 2) hx hb dL_law_1143 (by decide) ?_
      refine lv_iadd hx hb dL_law_1144 ?_
      refine r_iald X I h189 dL_law_1145 ?_
      refine r_callV (Y := M_X8_look) (v := some (.int q106.1)) X I w_2007 my_X8_look (by omega) (t_X8_look (G := G) (d := d + 135) h190) (b_X8_look h190) rfl rfl hl.1 rfl (Nat.le_of_ble_eq_true rfl) hn le193 dL_law_1146 (fun H locs cells slots I hn1 hn2 => ?_)
      have I : s_I G q106.2 s H locs := I
      have hn : cells + σ0.2.1 ≤ q106.2.2.1 ∧ slots + σ0.2.2.1 ≤ q106.2.2.2.1 := ⟨hn1, hn2⟩
      refine lv_istore (lv' := [(6, .int q106.1), (5, .int q103.1), (0, .ref v0), (1, .ref v1), (2, .ref v2), (3, .ref v3), (4, .int v4)]) hx hb dL_law_1149 hl (by decide) rfl (fun ls hl => ?_)
      refine lv_aload_n hx hb dL_law_1151 rfl (lv_at hl 4 rfl) ?_
      refine r_callV (Y := M_X8_thrown) (v := some (.int q107.1)) X I w_1671 my_X8_thrown (by omega) (t_X8_thrown (G := G) (d := d + 137) h191) (b_X8_thrown h191) rfl rfl hl.1 rfl (Nat.le_of_ble_eq_true rfl) hn le192 dL_law_1152 (fun H locs cells slots I hn1 hn2 => ?_)
      have I : s_I G q107.2 s H locs := I
      have hn : cells + σ0.2.1 ≤ q107.2.2.1 ∧ slots + σ0.2.2.1 ≤ q107.2.2.2.1 := ⟨hn1, hn2⟩
      refine lv_iload hx hb dL_law_1155 (lv_at hl 1 rfl) ?_
      rcases s_ite hf with ⟨c195, hf⟩ | ⟨c195, hf⟩
      · refine lv_icmp_eq (tgt := 1162) hx hb dL_law_1157 (by decide) (fun _ => ?_) (fun n => absurd c195 n)
        refine lv_iload hx hb dL_law_1162 (lv_at hl 1 rfl) ?_
        rcases s_ite hf with ⟨c196, hf⟩ | ⟨c196, hf⟩
        · refine lv_if_ne (tgt := 1179) hx hb dL_law_1164 (by decide) (fun n => absurd c196 n) (fun _ => ?_)
          obtain ⟨x108, h197, hf⟩ := s_bind hf
          refine lv_aload_n hx hb dL_law_1167 rfl (lv_at hl 5 rfl) ?_
          refine lv_iconst (v := 0) hx hb dL_law_1168 (by decide) ?_
          refine r_lald X I h197 dL_law_1169 ?_
          refine lv_iload hx hb dL_law_1170 (lv_at hl 0 rfl) ?_
          refine lv_i2l hx hb dL_law_1172 rfl ?_
          refine W.lcmp hx hb dL_law_1173 ?_
          rcases s_ite hf with ⟨c198, hf⟩ | ⟨c198, hf⟩
          · refine lv_if_eq (tgt := 1179) hx hb dL_law_1174 (by decide) (fun _ => ?_) (fun n => absurd c198 n)
            cases hf
            have k : s_V G (d + 139) M_L_law vs0 σ0 Y_L_law (1179, [.ref v0, .ref v1, .ref v2, .ref v3, .int v4], q107.2) (e_I r) := k
            exact k.2 p e s m below meth c _ _ _ _ _ X I hn.1 hn.2 (lv_sub hl [2, 3, 4, 5, 6] rfl)
          · refine lv_if_eq (tgt := 1179) hx hb dL_law_1174 (by decide) (fun n => absurd n c198) (fun _ => ?_)
            cases hf
            have k : _ = r := k
            subst k
            refine lv_iconst (v := 0) hx hb dL_law_1177 (by decide) ?_
            exact r_iret X I rfl rfl rfl hn dL_law_1178
        · refine lv_if_ne (tgt := 1179) hx hb dL_law_1164 (by decide) (fun _ => ?_) (fun n => absurd n c196)
          cases hf
          have k : s_V G (d + 139) M_L_law vs0 σ0 Y_L_law (1179, [.ref v0, .ref v1, .ref v2, .ref v3, .int v4], q107.2) (e_I r) := k
          exact k.2 p e s m below meth c _ _ _ _ _ X I hn.1 hn.2 (lv_sub hl [2, 3, 4, 5, 6] rfl)
      · refine lv_icmp_eq (tgt := 1162) hx hb dL_law_1157 (by decide) (fun n => absurd n c195) (fun _ => ?_)
        cases hf
        have k : _ = r := k
        subst k
        refine lv_iconst (v := 0) hx hb dL_law_1160 (by decide) ?_
        exact r_iret X I rfl rfl rfl hn dL_law_1161
    rcases s_ite hf with ⟨c199, hf⟩ | ⟨c199, hf⟩
    · refine lv_tableIn (tgt := 1182) (off := 1142) hx hb dL_law_40 (by rw [c199]; decide) (by rw [c199]; decide) (by rw [c199]; rfl) (by decide) ?_
      obtain ⟨x109, h200, hf⟩ := s_bind hf
      obtain ⟨x110, h201, hf⟩ := s_bind hf
      obtain ⟨q111, h202, hf⟩ := s_bind hf
      obtain ⟨x112, h203, hf⟩ := s_bind hf
      obtain ⟨x113, h204, hf⟩ := s_bind hf
      obtain ⟨q114, h205, hf⟩ := s_bind hf
      obtain ⟨q115, h206, hf⟩ := s_bind hf
      have le207 : s_le q115.2 (e_I r).2 := by
        refine s_lek hem_I ?_ k
        rcases s_ite hf with ⟨-, hf⟩ | ⟨-, hf⟩
        · rcases s_ite hf with ⟨-, hf⟩ | ⟨-, hf⟩
          · obtain ⟨x116, -, hf⟩ := s_bind hf
            rcases s_ite hf with ⟨-, hf⟩ | ⟨-, hf⟩
            · cases hf
              exact s_le.rf
            · cases hf
              exact s_le.rf
          · cases hf
            exact s_le.rf
        · cases hf
          exact s_le.rf
      have le208 := s_le.tr (l_X8_thrown h206) le207
      have le209 := s_le.tr (l_X8_is h205) le208
      refine lv_aload_n hx hb dL_law_1182 rfl (lv_at hl 1 rfl) ?_
      refine lv_aload_n hx hb dL_law_1183 rfl (lv_at hl 0 rfl) ?_
      refine lv_iload hx hb dL_law_1184 (lv_at hl 4 rfl) ?_
      refine lv_iconst (v := 1) hx hb dL_law_1186 (by decide) ?_
      refine lv_iadd hx hb dL_law_1187 ?_
      refine r_iald X I h200 dL_law_1188 ?_
      refine lv_aload_n hx hb dL_law_1189 rfl (lv_at hl 0 rfl) ?_
      refine lv_iload hx hb dL_law_1190 (lv_at hl 4 rfl) ?_
      refine lv_iconst (v := 2) hx hb dL_law_1192 (by decide) ?_
      refine lv_iadd hx hb dL_law_1193 ?_
      refine r_iald X I h201 dL_law_1194 ?_
      refine lv_aload_n hx hb dL_law_1195 rfl (lv_at hl 3 rfl) ?_
      refine r_callX (Y := M_L_is) (v := some (.int q111.1)) X I w_1184 my_L_is (by omega) (t_L_is (G := G) (d := d + 130) h202) rfl rfl hl.1 rfl (Nat.le_of_ble_eq_true rfl) hn le209 dL_law_1196 (fun H locs cells slots I hn1 hn2 => ?_)
      have I : s_I G q111.2 s H locs := I
      have hn : cells + σ0.2.1 ≤ q111.2.2.1 ∧ slots + σ0.2.2.1 ≤ q111.2.2.2.1 := ⟨hn1, hn2⟩
      refine lv_istore (lv' := [(5, .int q111.1), (0, .ref v0), (1, .ref v1), (2, .ref v2), (3, .ref v3), (4, .int v4)]) hx hb dL_law_1199 hl (by decide) rfl (fun ls hl => ?_)
      refine lv_aload_n hx hb dL_law_1201 rfl (lv_at hl 3 rfl) ?_
      refine lv_aload_n hx hb dL_law_1202 rfl (lv_at hl 1 rfl) ?_
      refine lv_iload hx hb dL_law_1203 (lv_at hl 5 rfl) ?_
      refine lv_iconst (v := 1) hx hb dL_law_1205 (by decide) ?_
      refine lv_iadd hx hb dL_law_1206 ?_
      refine r_iald X I h203 dL_law_1207 ?_
      refine lv_aload_n hx hb dL_law_1208 rfl (lv_at hl 1 rfl) ?_
      refine lv_iload hx hb dL_law_1209 (lv_at hl 5 rfl) ?_
      refine lv_iconst (v := 2) hx hb dL_law_1211 (by decide) ?_
      refine lv_iadd hx hb dL_law_1212 ?_
      refine r_iald X I h204 dL_law_1213 ?_
      refine r_callV (Y := M_X8_is) (v := some (.int q114.1)) X I w_2023 my_X8_is (by omega) (t_X8_is (G := G) (d := d + 130) h205) (b_X8_is h205) rfl rfl hl.1 rfl (Nat.le_of_ble_eq_true rfl) hn le208 dL_law_1214 (fun H locs cells slots I hn1 hn2 => ?_)
      have I : s_I G q114.2 s H locs := I
      have hn : cells + σ0.2.1 ≤ q114.2.2.1 ∧ slots + σ0.2.2.1 ≤ q114.2.2.2.1 := ⟨hn1, hn2⟩
      refine lv_istore (lv' := [(6, .int q114.1), (5, .int q111.1), (0, .ref v0), (1, .ref v1), (2, .ref v2), (3, .ref v3), (4, .int v4)]) hx hb dL_law_1217 hl (by decide) rfl (fun ls hl => ?_)
      refine lv_aload_n hx hb dL_law_1219 rfl (lv_at hl 4 rfl) ?_
      refine r_callV (Y := M_X8_thrown) (v := some (.int q115.1)) X I w_1671 my_X8_thrown (by omega) (t_X8_thrown (G := G) (d := d + 137) h206) (b_X8_thrown h206) rfl rfl hl.1 rfl (Nat.le_of_ble_eq_true rfl) hn le207 dL_law_1220 (fun H locs cells slots I hn1 hn2 => ?_)
      have I : s_I G q115.2 s H locs := I
      have hn : cells + σ0.2.1 ≤ q115.2.2.1 ∧ slots + σ0.2.2.1 ≤ q115.2.2.2.1 := ⟨hn1, hn2⟩
      refine lv_iload hx hb dL_law_1223 (lv_at hl 1 rfl) ?_
      rcases s_ite hf with ⟨c210, hf⟩ | ⟨c210, hf⟩
      · refine lv_icmp_eq (tgt := 1230) hx hb dL_law_1225 (by decide) (fun _ => ?_) (fun n => absurd c210 n)
        refine lv_iload hx hb dL_law_1230 (lv_at hl 1 rfl) ?_
        rcases s_ite hf with ⟨c211, hf⟩ | ⟨c211, hf⟩
        · refine lv_if_ne (tgt := 1254) hx hb dL_law_1232 (by decide) (fun n => absurd c211 n) (fun _ => ?_)
          obtain ⟨x116, h212, hf⟩ := s_bind hf
          refine lv_aload_n hx hb dL_law_1235 rfl (lv_at hl 5 rfl) ?_
          refine lv_iconst (v := 0) hx hb dL_law_1236 (by decide) ?_
          refine r_lald X I h212 dL_law_1237 ?_
          refine lv_iload hx hb dL_law_1238 (lv_at hl 0 rfl) ?_
          rcases s_ite hf with ⟨c213, hf⟩ | ⟨c213, hf⟩
          · refine lv_if_eq (tgt := 1247) hx hb dL_law_1240 (by decide) (fun _ => ?_) (fun n => absurd c213 n)
            cases hf
            have k : s_V G (d + 139) M_L_law vs0 σ0 Y_L_law (1248, [.ref v0, .ref v1, .ref v2, .ref v3, .int v4, .long 0, .long x116], q115.2) (e_I r) := k
            refine lv_lconst (v := 0) hx hb dL_law_1247 (by decide) ?_
            exact k.2 p e s m below meth c _ _ _ _ _ X I hn.1 hn.2 (lv_sub hl [2, 3, 4, 5, 6] rfl)
          · refine lv_if_eq (tgt := 1247) hx hb dL_law_1240 (by decide) (fun n => absurd n c213) (fun _ => ?_)
            cases hf
            have k : s_V G (d + 139) M_L_law vs0 σ0 Y_L_law (1248, [.ref v0, .ref v1, .ref v2, .ref v3, .int v4, .long 1, .long x116], q115.2) (e_I r) := k
            refine lv_lconst (v := 1) hx hb dL_law_1243 (by decide) ?_
            refine lv_goto (tgt := 1248) hx hb dL_law_1244 (by decide) ?_
            exact k.2 p e s m below meth c _ _ _ _ _ X I hn.1 hn.2 (lv_sub hl [2, 3, 4, 5, 6] rfl)
        · refine lv_if_ne (tgt := 1254) hx hb dL_law_1232 (by decide) (fun _ => ?_) (fun n => absurd n c211)
          cases hf
          have k : s_V G (d + 139) M_L_law vs0 σ0 Y_L_law (1254, [.ref v0, .ref v1, .ref v2, .ref v3, .int v4], q115.2) (e_I r) := k
          exact k.2 p e s m below meth c _ _ _ _ _ X I hn.1 hn.2 (lv_sub hl [2, 3, 4, 5, 6] rfl)
      · refine lv_icmp_eq (tgt := 1230) hx hb dL_law_1225 (by decide) (fun n => absurd n c210) (fun _ => ?_)
        cases hf
        have k : _ = r := k
        subst k
        refine lv_iconst (v := 0) hx hb dL_law_1228 (by decide) ?_
        exact r_iret X I rfl rfl rfl hn dL_law_1229
    rcases s_ite hf with ⟨c214, hf⟩ | ⟨c214, hf⟩
    · refine lv_tableIn (tgt := 1257) (off := 1217) hx hb dL_law_40 (by rw [c214]; decide) (by rw [c214]; decide) (by rw [c214]; rfl) (by decide) ?_
      obtain ⟨q117, h215, hf⟩ := s_bind hf
      obtain ⟨q118, h216, hf⟩ := s_bind hf
      have le217 : s_le q118.2 (e_I r).2 := by
        refine s_lek hem_I ?_ k
        rcases s_ite hf with ⟨-, hf⟩ | ⟨-, hf⟩
        · cases hf
          exact s_le.rf
        · cases hf
          exact s_le.rf
      have le218 := s_le.tr (l_X8_wrong h216) le217
      refine lv_aload_n hx hb dL_law_1257 rfl (lv_at hl 1 rfl) ?_
      refine r_callV (Y := M_X7_wrong) (v := some (.int q117.1)) X I w_505 my_X7_wrong (by omega) (t_X7_wrong (G := G) (d := d + 131) h215) (b_X7_wrong h215) rfl rfl hl.1 rfl (Nat.le_of_ble_eq_true rfl) hn le218 dL_law_1258 (fun H locs cells slots I hn1 hn2 => ?_)
      have I : s_I G q117.2 s H locs := I
      have hn : cells + σ0.2.1 ≤ q117.2.2.1 ∧ slots + σ0.2.2.1 ≤ q117.2.2.2.1 := ⟨hn1, hn2⟩
      refine lv_aload_n hx hb dL_law_1261 rfl (lv_at hl 2 rfl) ?_
      refine r_callV (Y := M_X8_wrong) (v := some (.int q118.1)) X I w_2104 my_X8_wrong (by omega) (t_X8_wrong (G := G) (d := d + 131) h216) (b_X8_wrong h216) rfl rfl hl.1 rfl (Nat.le_of_ble_eq_true rfl) hn le217 dL_law_1262 (fun H locs cells slots I hn1 hn2 => ?_)
      have I : s_I G q118.2 s H locs := I
      have hn : cells + σ0.2.1 ≤ q118.2.2.1 ∧ slots + σ0.2.2.1 ≤ q118.2.2.2.1 := ⟨hn1, hn2⟩
      rcases s_ite hf with ⟨c219, hf⟩ | ⟨c219, hf⟩
      · refine lv_icmp_eq (tgt := 2927) hx hb dL_law_1265 (by decide) (fun _ => ?_) (fun n => absurd c219 n)
        cases hf
        have k : s_V G (d + 139) M_L_law vs0 σ0 Y_L_law (2927, [.ref v0, .ref v1, .ref v2, .ref v3, .int v4], q118.2) (e_I r) := k
        exact k.2 p e s m below meth c _ _ _ _ _ X I hn.1 hn.2 (lv_sub hl [0, 1, 2, 3, 4] rfl)
      · refine lv_icmp_eq (tgt := 2927) hx hb dL_law_1265 (by decide) (fun n => absurd n c219) (fun _ => ?_)
        cases hf
        have k : _ = r := k
        subst k
        refine lv_iconst (v := 0) hx hb dL_law_1268 (by decide) ?_
        exact r_iret X I rfl rfl rfl hn dL_law_1269
    rcases s_ite hf with ⟨c220, hf⟩ | ⟨c220, hf⟩
    · refine lv_tableIn (tgt := 1270) (off := 1230) hx hb dL_law_40 (by rw [c220]; decide) (by rw [c220]; decide) (by rw [c220]; rfl) (by decide) ?_
      obtain ⟨x119, h221, hf⟩ := s_bind hf
      obtain ⟨q120, h222, hf⟩ := s_bind hf
      obtain ⟨x121, h223, hf⟩ := s_bind hf
      obtain ⟨q122, h224, hf⟩ := s_bind hf
      obtain ⟨q123, h225, hf⟩ := s_bind hf
      have le226 : s_le q123.2 (e_I r).2 := by
        refine s_lek hem_I ?_ k
        rcases s_ite hf with ⟨-, hf⟩ | ⟨-, hf⟩
        · rcases s_ite hf with ⟨-, hf⟩ | ⟨-, hf⟩
          · obtain ⟨x124, -, hf⟩ := s_bind hf
            rcases s_ite hf with ⟨-, hf⟩ | ⟨-, hf⟩
            · cases hf
              exact s_le.rf
            · cases hf
              exact s_le.rf
          · cases hf
            exact s_le.rf
        · cases hf
          exact s_le.rf
      have le227 := s_le.tr (l_X8_thrown h225) le226
      have le228 := s_le.tr (l_X8_rests h224) le227
      refine lv_aload_n hx hb dL_law_1270 rfl (lv_at hl 1 rfl) ?_
      refine lv_aload_n hx hb dL_law_1271 rfl (lv_at hl 0 rfl) ?_
      refine lv_iload hx hb dL_law_1272 (lv_at hl 4 rfl) ?_
      refine lv_iconst (v := 1) hx hb dL_law_1274 (by decide) ?_
      refine lv_iadd hx hb dL_law_1275 ?_
      refine r_iald X I h221 dL_law_1276 ?_
      refine lv_aload_n hx hb dL_law_1277 rfl (lv_at hl 3 rfl) ?_
      refine r_callX (Y := M_L_rests) (v := some (.int q120.1)) X I w_1200 my_L_rests (by omega) (t_L_rests (G := G) (d := d + 135) h222) rfl rfl hl.1 rfl (Nat.le_of_ble_eq_true rfl) hn le228 dL_law_1278 (fun H locs cells slots I hn1 hn2 => ?_)
      have I : s_I G q120.2 s H locs := I
      have hn : cells + σ0.2.1 ≤ q120.2.2.1 ∧ slots + σ0.2.2.1 ≤ q120.2.2.2.1 := ⟨hn1, hn2⟩
      refine lv_istore (lv' := [(5, .int q120.1), (0, .ref v0), (1, .ref v1), (2, .ref v2), (3, .ref v3), (4, .int v4)]) hx hb dL_law_1281 hl (by decide) rfl (fun ls hl => ?_)
      refine lv_aload_n hx hb dL_law_1283 rfl (lv_at hl 3 rfl) ?_
      refine lv_aload_n hx hb dL_law_1284 rfl (lv_at hl 1 rfl) ?_
      refine lv_iload hx hb dL_law_1285 (lv_at hl 5 rfl) ?_
      refine lv_iconst (v := 1) hx hb dL_law_1287 (by decide) ?_
      refine lv_iadd hx hb dL_law_1288 ?_
      refine r_iald X I h223 dL_law_1289 ?_
      refine r_callV (Y := M_X8_rests) (v := some (.long q122.1)) X I w_2108 my_X8_rests (by omega) (t_X8_rests (G := G) (d := d + 130) h224) (b_X8_rests h224) rfl rfl hl.1 rfl (Nat.le_of_ble_eq_true rfl) hn le227 dL_law_1290 (fun H locs cells slots I hn1 hn2 => ?_)
      have I : s_I G q122.2 s H locs := I
      have hn : cells + σ0.2.1 ≤ q122.2.2.1 ∧ slots + σ0.2.2.1 ≤ q122.2.2.2.1 := ⟨hn1, hn2⟩
      refine lv_lstore (lv' := [(6, .long q122.1), (5, .int q120.1), (0, .ref v0), (1, .ref v1), (2, .ref v2), (3, .ref v3), (4, .int v4)]) hx hb dL_law_1293 hl (by decide) rfl (fun ls hl => ?_)
      refine lv_aload_n hx hb dL_law_1295 rfl (lv_at hl 4 rfl) ?_
      refine r_callV (Y := M_X8_thrown) (v := some (.int q123.1)) X I w_1671 my_X8_thrown (by omega) (t_X8_thrown (G := G) (d := d + 137) h225) (b_X8_thrown h225) rfl rfl hl.1 rfl (Nat.le_of_ble_eq_true rfl) hn le226 dL_law_1296 (fun H locs cells slots I hn1 hn2 => ?_)
      have I : s_I G q123.2 s H locs := I
      have hn : cells + σ0.2.1 ≤ q123.2.2.1 ∧ slots + σ0.2.2.1 ≤ q123.2.2.2.1 := ⟨hn1, hn2⟩
      refine lv_iload hx hb dL_law_1299 (lv_at hl 1 rfl) ?_
      rcases s_ite hf with ⟨c229, hf⟩ | ⟨c229, hf⟩
      · refine lv_icmp_eq (tgt := 1306) hx hb dL_law_1301 (by decide) (fun _ => ?_) (fun n => absurd c229 n)
        refine lv_iload hx hb dL_law_1306 (lv_at hl 1 rfl) ?_
        rcases s_ite hf with ⟨c230, hf⟩ | ⟨c230, hf⟩
        · refine lv_if_ne (tgt := 1322) hx hb dL_law_1308 (by decide) (fun n => absurd c230 n) (fun _ => ?_)
          obtain ⟨x124, h231, hf⟩ := s_bind hf
          refine lv_aload_n hx hb dL_law_1311 rfl (lv_at hl 5 rfl) ?_
          refine lv_iconst (v := 0) hx hb dL_law_1312 (by decide) ?_
          refine r_lald X I h231 dL_law_1313 ?_
          refine lv_lload hx hb dL_law_1314 (lv_at hl 0 rfl) ?_
          refine W.lcmp hx hb dL_law_1316 ?_
          rcases s_ite hf with ⟨c232, hf⟩ | ⟨c232, hf⟩
          · refine lv_if_eq (tgt := 1322) hx hb dL_law_1317 (by decide) (fun _ => ?_) (fun n => absurd c232 n)
            cases hf
            have k : s_V G (d + 139) M_L_law vs0 σ0 Y_L_law (1322, [.ref v0, .ref v1, .ref v2, .ref v3, .int v4], q123.2) (e_I r) := k
            exact k.2 p e s m below meth c _ _ _ _ _ X I hn.1 hn.2 (lv_sub hl [2, 3, 4, 5, 6] rfl)
          · refine lv_if_eq (tgt := 1322) hx hb dL_law_1317 (by decide) (fun n => absurd n c232) (fun _ => ?_)
            cases hf
            have k : _ = r := k
            subst k
            refine lv_iconst (v := 0) hx hb dL_law_1320 (by decide) ?_
            exact r_iret X I rfl rfl rfl hn dL_law_1321
        · refine lv_if_ne (tgt := 1322) hx hb dL_law_1308 (by decide) (fun _ => ?_) (fun n => absurd n c230)
          cases hf
          have k : s_V G (d + 139) M_L_law vs0 σ0 Y_L_law (1322, [.ref v0, .ref v1, .ref v2, .ref v3, .int v4], q123.2) (e_I r) := k
          exact k.2 p e s m below meth c _ _ _ _ _ X I hn.1 hn.2 (lv_sub hl [2, 3, 4, 5, 6] rfl)
      · refine lv_icmp_eq (tgt := 1306) hx hb dL_law_1301 (by decide) (fun n => absurd n c229) (fun _ => ?_)
        cases hf
        have k : _ = r := k
        subst k
        refine lv_iconst (v := 0) hx hb dL_law_1304 (by decide) ?_
        exact r_iret X I rfl rfl rfl hn dL_law_1305
    rcases s_ite hf with ⟨c233, hf⟩ | ⟨c233, hf⟩
    · refine lv_tableIn (tgt := 1325) (off := 1285) hx hb dL_law_40 (by rw [c233]; decide) (by rw [c233]; decide) (by rw [c233]; rfl) (by decide) ?_
      obtain ⟨x125, h234, hf⟩ := s_bind hf
      obtain ⟨q126, h235, hf⟩ := s_bind hf
      obtain ⟨x127, h236, hf⟩ := s_bind hf
      obtain ⟨q128, h237, hf⟩ := s_bind hf
      obtain ⟨q129, h238, hf⟩ := s_bind hf
      have le239 : s_le q129.2 (e_I r).2 := by
        refine s_lek hem_I ?_ k
        rcases s_ite hf with ⟨-, hf⟩ | ⟨-, hf⟩
        · rcases s_ite hf with ⟨-, hf⟩ | ⟨-, hf⟩
          · obtain ⟨x130, -, hf⟩ := s_bind hf
            rcases s_ite hf with ⟨-, hf⟩ | ⟨-, hf⟩
            · cases hf
              exact s_le.rf
            · cases hf
              exact s_le.rf
          · cases hf
            exact s_le.rf
        · cases hf
          exact s_le.rf
      have le240 := s_le.tr (l_X8_thrown h238) le239
      have le241 := s_le.tr (l_X8_needs h237) le240
      refine lv_aload_n hx hb dL_law_1325 rfl (lv_at hl 1 rfl) ?_
      refine lv_aload_n hx hb dL_law_1326 rfl (lv_at hl 0 rfl) ?_
      refine lv_iload hx hb dL_law_1327 (lv_at hl 4 rfl) ?_
      refine lv_iconst (v := 1) hx hb dL_law_1329 (by decide) ?_
      refine lv_iadd hx hb dL_law_1330 ?_
      refine r_iald X I h234 dL_law_1331 ?_
      refine lv_aload_n hx hb dL_law_1332 rfl (lv_at hl 3 rfl) ?_
      refine r_callX (Y := M_L_needs) (v := some (.int q126.1)) X I w_1207 my_L_needs (by omega) (t_L_needs (G := G) (d := d + 135) h235) rfl rfl hl.1 rfl (Nat.le_of_ble_eq_true rfl) hn le241 dL_law_1333 (fun H locs cells slots I hn1 hn2 => ?_)
      have I : s_I G q126.2 s H locs := I
      have hn : cells + σ0.2.1 ≤ q126.2.2.1 ∧ slots + σ0.2.2.1 ≤ q126.2.2.2.1 := ⟨hn1, hn2⟩
      refine lv_istore (lv' := [(5, .int q126.1), (0, .ref v0), (1, .ref v1), (2, .ref v2), (3, .ref v3), (4, .int v4)]) hx hb dL_law_1336 hl (by decide) rfl (fun ls hl => ?_)
      refine lv_aload_n hx hb dL_law_1338 rfl (lv_at hl 3 rfl) ?_
      refine lv_aload_n hx hb dL_law_1339 rfl (lv_at hl 1 rfl) ?_
      refine lv_iload hx hb dL_law_1340 (lv_at hl 5 rfl) ?_
      refine lv_iconst (v := 1) hx hb dL_law_1342 (by decide) ?_
      refine lv_iadd hx hb dL_law_1343 ?_
      refine r_iald X I h236 dL_law_1344 ?_
      refine r_callV (Y := M_X8_needs) (v := some (.long q128.1)) X I w_2112 my_X8_needs (by omega) (t_X8_needs (G := G) (d := d + 130) h237) (b_X8_needs h237) rfl rfl hl.1 rfl (Nat.le_of_ble_eq_true rfl) hn le240 dL_law_1345 (fun H locs cells slots I hn1 hn2 => ?_)
      have I : s_I G q128.2 s H locs := I
      have hn : cells + σ0.2.1 ≤ q128.2.2.1 ∧ slots + σ0.2.2.1 ≤ q128.2.2.2.1 := ⟨hn1, hn2⟩
      refine lv_lstore (lv' := [(6, .long q128.1), (5, .int q126.1), (0, .ref v0), (1, .ref v1), (2, .ref v2), (3, .ref v3), (4, .int v4)]) hx hb dL_law_1348 hl (by decide) rfl (fun ls hl => ?_)
      refine lv_aload_n hx hb dL_law_1350 rfl (lv_at hl 4 rfl) ?_
      refine r_callV (Y := M_X8_thrown) (v := some (.int q129.1)) X I w_1671 my_X8_thrown (by omega) (t_X8_thrown (G := G) (d := d + 137) h238) (b_X8_thrown h238) rfl rfl hl.1 rfl (Nat.le_of_ble_eq_true rfl) hn le239 dL_law_1351 (fun H locs cells slots I hn1 hn2 => ?_)
      have I : s_I G q129.2 s H locs := I
      have hn : cells + σ0.2.1 ≤ q129.2.2.1 ∧ slots + σ0.2.2.1 ≤ q129.2.2.2.1 := ⟨hn1, hn2⟩
      refine lv_iload hx hb dL_law_1354 (lv_at hl 1 rfl) ?_
      rcases s_ite hf with ⟨c242, hf⟩ | ⟨c242, hf⟩
      · refine lv_icmp_eq (tgt := 1361) hx hb dL_law_1356 (by decide) (fun _ => ?_) (fun n => absurd c242 n)
        refine lv_iload hx hb dL_law_1361 (lv_at hl 1 rfl) ?_
        rcases s_ite hf with ⟨c243, hf⟩ | ⟨c243, hf⟩
        · refine lv_if_ne (tgt := 1377) hx hb dL_law_1363 (by decide) (fun n => absurd c243 n) (fun _ => ?_)
          obtain ⟨x130, h244, hf⟩ := s_bind hf
          refine lv_aload_n hx hb dL_law_1366 rfl (lv_at hl 5 rfl) ?_
          refine lv_iconst (v := 0) hx hb dL_law_1367 (by decide) ?_
          refine r_lald X I h244 dL_law_1368 ?_
          refine lv_lload hx hb dL_law_1369 (lv_at hl 0 rfl) ?_
          refine W.lcmp hx hb dL_law_1371 ?_
          rcases s_ite hf with ⟨c245, hf⟩ | ⟨c245, hf⟩
          · refine lv_if_eq (tgt := 1377) hx hb dL_law_1372 (by decide) (fun _ => ?_) (fun n => absurd c245 n)
            cases hf
            have k : s_V G (d + 139) M_L_law vs0 σ0 Y_L_law (1377, [.ref v0, .ref v1, .ref v2, .ref v3, .int v4], q129.2) (e_I r) := k
            exact k.2 p e s m below meth c _ _ _ _ _ X I hn.1 hn.2 (lv_sub hl [2, 3, 4, 5, 6] rfl)
          · refine lv_if_eq (tgt := 1377) hx hb dL_law_1372 (by decide) (fun n => absurd n c245) (fun _ => ?_)
            cases hf
            have k : _ = r := k
            subst k
            refine lv_iconst (v := 0) hx hb dL_law_1375 (by decide) ?_
            exact r_iret X I rfl rfl rfl hn dL_law_1376
        · refine lv_if_ne (tgt := 1377) hx hb dL_law_1363 (by decide) (fun _ => ?_) (fun n => absurd n c243)
          cases hf
          have k : s_V G (d + 139) M_L_law vs0 σ0 Y_L_law (1377, [.ref v0, .ref v1, .ref v2, .ref v3, .int v4], q129.2) (e_I r) := k
          exact k.2 p e s m below meth c _ _ _ _ _ X I hn.1 hn.2 (lv_sub hl [2, 3, 4, 5, 6] rfl)
      · refine lv_icmp_eq (tgt := 1361) hx hb dL_law_1356 (by decide) (fun n => absurd n c242) (fun _ => ?_)
        cases hf
        have k : _ = r := k
        subst k
        refine lv_iconst (v := 0) hx hb dL_law_1359 (by decide) ?_
        exact r_iret X I rfl rfl rfl hn dL_law_1360
    rcases s_ite hf with ⟨c246, hf⟩ | ⟨c246, hf⟩
    · refine lv_tableIn (tgt := 1380) (off := 1340) hx hb dL_law_40 (by rw [c246]; decide) (by rw [c246]; decide) (by rw [c246]; rfl) (by decide) ?_
      obtain ⟨x131, h247, hf⟩ := s_bind hf
      obtain ⟨q132, h248, hf⟩ := s_bind hf
      obtain ⟨x133, h249, hf⟩ := s_bind hf
      obtain ⟨q134, h250, hf⟩ := s_bind hf
      obtain ⟨q135, h251, hf⟩ := s_bind hf
      have le252 : s_le q135.2 (e_I r).2 := by
        refine s_lek hem_I ?_ k
        rcases s_ite hf with ⟨-, hf⟩ | ⟨-, hf⟩
        · rcases s_ite hf with ⟨-, hf⟩ | ⟨-, hf⟩
          · obtain ⟨x136, -, hf⟩ := s_bind hf
            rcases s_ite hf with ⟨-, hf⟩ | ⟨-, hf⟩
            · cases hf
              exact s_le.rf
            · cases hf
              exact s_le.rf
          · cases hf
            exact s_le.rf
        · cases hf
          exact s_le.rf
      have le253 := s_le.tr (l_X8_thrown h251) le252
      have le254 := s_le.tr (l_X8_spent h250) le253
      refine lv_aload_n hx hb dL_law_1380 rfl (lv_at hl 1 rfl) ?_
      refine lv_aload_n hx hb dL_law_1381 rfl (lv_at hl 0 rfl) ?_
      refine lv_iload hx hb dL_law_1382 (lv_at hl 4 rfl) ?_
      refine lv_iconst (v := 1) hx hb dL_law_1384 (by decide) ?_
      refine lv_iadd hx hb dL_law_1385 ?_
      refine r_iald X I h247 dL_law_1386 ?_
      refine lv_aload_n hx hb dL_law_1387 rfl (lv_at hl 3 rfl) ?_
      refine r_callX (Y := M_L_spent) (v := some (.int q132.1)) X I w_1214 my_L_spent (by omega) (t_L_spent (G := G) (d := d + 132) h248) rfl rfl hl.1 rfl (Nat.le_of_ble_eq_true rfl) hn le254 dL_law_1388 (fun H locs cells slots I hn1 hn2 => ?_)
      have I : s_I G q132.2 s H locs := I
      have hn : cells + σ0.2.1 ≤ q132.2.2.1 ∧ slots + σ0.2.2.1 ≤ q132.2.2.2.1 := ⟨hn1, hn2⟩
      refine lv_istore (lv' := [(5, .int q132.1), (0, .ref v0), (1, .ref v1), (2, .ref v2), (3, .ref v3), (4, .int v4)]) hx hb dL_law_1391 hl (by decide) rfl (fun ls hl => ?_)
      refine lv_aload_n hx hb dL_law_1393 rfl (lv_at hl 3 rfl) ?_
      refine lv_aload_n hx hb dL_law_1394 rfl (lv_at hl 1 rfl) ?_
      refine lv_iload hx hb dL_law_1395 (lv_at hl 5 rfl) ?_
      refine lv_iconst (v := 1) hx hb dL_law_1397 (by decide) ?_
      refine lv_iadd hx hb dL_law_1398 ?_
      refine r_iald X I h249 dL_law_1399 ?_
      refine r_callV (Y := M_X8_spent) (v := some (.int q134.1)) X I w_2116 my_X8_spent (by omega) (t_X8_spent (G := G) (d := d + 130) h250) (b_X8_spent h250) rfl rfl hl.1 rfl (Nat.le_of_ble_eq_true rfl) hn le253 dL_law_1400 (fun H locs cells slots I hn1 hn2 => ?_)
      have I : s_I G q134.2 s H locs := I
      have hn : cells + σ0.2.1 ≤ q134.2.2.1 ∧ slots + σ0.2.2.1 ≤ q134.2.2.2.1 := ⟨hn1, hn2⟩
      refine lv_istore (lv' := [(6, .int q134.1), (5, .int q132.1), (0, .ref v0), (1, .ref v1), (2, .ref v2), (3, .ref v3), (4, .int v4)]) hx hb dL_law_1403 hl (by decide) rfl (fun ls hl => ?_)
      refine lv_aload_n hx hb dL_law_1405 rfl (lv_at hl 4 rfl) ?_
      refine r_callV (Y := M_X8_thrown) (v := some (.int q135.1)) X I w_1671 my_X8_thrown (by omega) (t_X8_thrown (G := G) (d := d + 137) h251) (b_X8_thrown h251) rfl rfl hl.1 rfl (Nat.le_of_ble_eq_true rfl) hn le252 dL_law_1406 (fun H locs cells slots I hn1 hn2 => ?_)
      have I : s_I G q135.2 s H locs := I
      have hn : cells + σ0.2.1 ≤ q135.2.2.1 ∧ slots + σ0.2.2.1 ≤ q135.2.2.2.1 := ⟨hn1, hn2⟩
      refine lv_iload hx hb dL_law_1409 (lv_at hl 1 rfl) ?_
      rcases s_ite hf with ⟨c255, hf⟩ | ⟨c255, hf⟩
      · refine lv_icmp_eq (tgt := 1416) hx hb dL_law_1411 (by decide) (fun _ => ?_) (fun n => absurd c255 n)
        refine lv_iload hx hb dL_law_1416 (lv_at hl 1 rfl) ?_
        rcases s_ite hf with ⟨c256, hf⟩ | ⟨c256, hf⟩
        · refine lv_if_ne (tgt := 1433) hx hb dL_law_1418 (by decide) (fun n => absurd c256 n) (fun _ => ?_)
          obtain ⟨x136, h257, hf⟩ := s_bind hf
          refine lv_aload_n hx hb dL_law_1421 rfl (lv_at hl 5 rfl) ?_
          refine lv_iconst (v := 0) hx hb dL_law_1422 (by decide) ?_
          refine r_lald X I h257 dL_law_1423 ?_
          refine lv_iload hx hb dL_law_1424 (lv_at hl 0 rfl) ?_
          refine lv_i2l hx hb dL_law_1426 rfl ?_
          refine W.lcmp hx hb dL_law_1427 ?_
          rcases s_ite hf with ⟨c258, hf⟩ | ⟨c258, hf⟩
          · refine lv_if_eq (tgt := 1433) hx hb dL_law_1428 (by decide) (fun _ => ?_) (fun n => absurd c258 n)
            cases hf
            have k : s_V G (d + 139) M_L_law vs0 σ0 Y_L_law (1433, [.ref v0, .ref v1, .ref v2, .ref v3, .int v4], q135.2) (e_I r) := k
            exact k.2 p e s m below meth c _ _ _ _ _ X I hn.1 hn.2 (lv_sub hl [2, 3, 4, 5, 6] rfl)
          · refine lv_if_eq (tgt := 1433) hx hb dL_law_1428 (by decide) (fun n => absurd n c258) (fun _ => ?_)
            cases hf
            have k : _ = r := k
            subst k
            refine lv_iconst (v := 0) hx hb dL_law_1431 (by decide) ?_
            exact r_iret X I rfl rfl rfl hn dL_law_1432
        · refine lv_if_ne (tgt := 1433) hx hb dL_law_1418 (by decide) (fun _ => ?_) (fun n => absurd n c256)
          cases hf
          have k : s_V G (d + 139) M_L_law vs0 σ0 Y_L_law (1433, [.ref v0, .ref v1, .ref v2, .ref v3, .int v4], q135.2) (e_I r) := k
          exact k.2 p e s m below meth c _ _ _ _ _ X I hn.1 hn.2 (lv_sub hl [2, 3, 4, 5, 6] rfl)
      · refine lv_icmp_eq (tgt := 1416) hx hb dL_law_1411 (by decide) (fun n => absurd n c255) (fun _ => ?_)
        cases hf
        have k : _ = r := k
        subst k
        refine lv_iconst (v := 0) hx hb dL_law_1414 (by decide) ?_
        exact r_iret X I rfl rfl rfl hn dL_law_1415
    rcases s_ite hf with ⟨c259, hf⟩ | ⟨c259, hf⟩
    · refine lv_tableIn (tgt := 1436) (off := 1396) hx hb dL_law_40 (by rw [c259]; decide) (by rw [c259]; decide) (by rw [c259]; rfl) (by decide) ?_
      obtain ⟨x137, h260, hf⟩ := s_bind hf
      obtain ⟨x138, h261, hf⟩ := s_bind hf
      obtain ⟨q139, h262, hf⟩ := s_bind hf
      obtain ⟨x140, h263, hf⟩ := s_bind hf
      obtain ⟨x141, h264, hf⟩ := s_bind hf
      obtain ⟨q142, h265, hf⟩ := s_bind hf
      obtain ⟨q143, h266, hf⟩ := s_bind hf
      have le267 : s_le q143.2 (e_I r).2 := by
        refine s_lek hem_I ?_ k
        rcases s_ite hf with ⟨-, hf⟩ | ⟨-, hf⟩
        · rcases s_ite hf with ⟨-, hf⟩ | ⟨-, hf⟩
          · obtain ⟨x144, -, hf⟩ := s_bind hf
            rcases s_ite hf with ⟨-, hf⟩ | ⟨-, hf⟩
            · cases hf
              exact s_le.rf
            · cases hf
              exact s_le.rf
          · cases hf
            exact s_le.rf
        · cases hf
          exact s_le.rf
      have le268 := s_le.tr (l_X8_thrown h266) le267
      have le269 := s_le.tr (l_X8_falls h265) le268
      refine lv_aload_n hx hb dL_law_1436 rfl (lv_at hl 1 rfl) ?_
      refine lv_aload_n hx hb dL_law_1437 rfl (lv_at hl 0 rfl) ?_
      refine lv_iload hx hb dL_law_1438 (lv_at hl 4 rfl) ?_
      refine lv_iconst (v := 1) hx hb dL_law_1440 (by decide) ?_
      refine lv_iadd hx hb dL_law_1441 ?_
      refine r_iald X I h260 dL_law_1442 ?_
      refine lv_aload_n hx hb dL_law_1443 rfl (lv_at hl 0 rfl) ?_
      refine lv_iload hx hb dL_law_1444 (lv_at hl 4 rfl) ?_
      refine lv_iconst (v := 2) hx hb dL_law_1446 (by decide) ?_
      refine lv_iadd hx hb dL_law_1447 ?_
      refine r_iald X I h261 dL_law_1448 ?_
      refine lv_aload_n hx hb dL_law_1449 rfl (lv_at hl 3 rfl) ?_
      refine r_callX (Y := M_L_falls) (v := some (.int q139.1)) X I w_1222 my_L_falls (by omega) (t_L_falls (G := G) (d := d + 133) h262) rfl rfl hl.1 rfl (Nat.le_of_ble_eq_true rfl) hn le269 dL_law_1450 (fun H locs cells slots I hn1 hn2 => ?_)
      have I : s_I G q139.2 s H locs := I
      have hn : cells + σ0.2.1 ≤ q139.2.2.1 ∧ slots + σ0.2.2.1 ≤ q139.2.2.2.1 := ⟨hn1, hn2⟩
      refine lv_istore (lv' := [(5, .int q139.1), (0, .ref v0), (1, .ref v1), (2, .ref v2), (3, .ref v3), (4, .int v4)]) hx hb dL_law_1453 hl (by decide) rfl (fun ls hl => ?_)
      refine lv_aload_n hx hb dL_law_1455 rfl (lv_at hl 3 rfl) ?_
      refine lv_aload_n hx hb dL_law_1456 rfl (lv_at hl 1 rfl) ?_
      refine lv_iload hx hb dL_law_1457 (lv_at hl 5 rfl) ?_
      refine lv_iconst (v := 1) hx hb dL_law_1459 (by decide) ?_
      refine lv_iadd hx hb dL_law_1460 ?_
      refine r_iald X I h263 dL_law_1461 ?_
      refine lv_aload_n hx hb dL_law_1462 rfl (lv_at hl 1 rfl) ?_
      refine lv_iload hx hb dL_law_1463 (lv_at hl 5 rfl) ?_
      refine lv_iconst (v := 2) hx hb dL_law_1465 (by decide) ?_
      refine lv_iadd hx hb dL_law_1466 ?_
      refine r_iald X I h264 dL_law_1467 ?_
      refine r_callV (Y := M_X8_falls) (v := some (.long q142.1)) X I w_2124 my_X8_falls (by omega) (t_X8_falls (G := G) (d := d + 130) h265) (b_X8_falls h265) rfl rfl hl.1 rfl (Nat.le_of_ble_eq_true rfl) hn le268 dL_law_1468 (fun H locs cells slots I hn1 hn2 => ?_)
      have I : s_I G q142.2 s H locs := I
      have hn : cells + σ0.2.1 ≤ q142.2.2.1 ∧ slots + σ0.2.2.1 ≤ q142.2.2.2.1 := ⟨hn1, hn2⟩
      refine lv_lstore (lv' := [(6, .long q142.1), (5, .int q139.1), (0, .ref v0), (1, .ref v1), (2, .ref v2), (3, .ref v3), (4, .int v4)]) hx hb dL_law_1471 hl (by decide) rfl (fun ls hl => ?_)
      refine lv_aload_n hx hb dL_law_1473 rfl (lv_at hl 4 rfl) ?_
      refine r_callV (Y := M_X8_thrown) (v := some (.int q143.1)) X I w_1671 my_X8_thrown (by omega) (t_X8_thrown (G := G) (d := d + 137) h266) (b_X8_thrown h266) rfl rfl hl.1 rfl (Nat.le_of_ble_eq_true rfl) hn le267 dL_law_1474 (fun H locs cells slots I hn1 hn2 => ?_)
      have I : s_I G q143.2 s H locs := I
      have hn : cells + σ0.2.1 ≤ q143.2.2.1 ∧ slots + σ0.2.2.1 ≤ q143.2.2.2.1 := ⟨hn1, hn2⟩
      refine lv_iload hx hb dL_law_1477 (lv_at hl 1 rfl) ?_
      rcases s_ite hf with ⟨c270, hf⟩ | ⟨c270, hf⟩
      · refine lv_icmp_eq (tgt := 1484) hx hb dL_law_1479 (by decide) (fun _ => ?_) (fun n => absurd c270 n)
        refine lv_iload hx hb dL_law_1484 (lv_at hl 1 rfl) ?_
        rcases s_ite hf with ⟨c271, hf⟩ | ⟨c271, hf⟩
        · refine lv_if_ne (tgt := 1500) hx hb dL_law_1486 (by decide) (fun n => absurd c271 n) (fun _ => ?_)
          obtain ⟨x144, h272, hf⟩ := s_bind hf
          refine lv_aload_n hx hb dL_law_1489 rfl (lv_at hl 5 rfl) ?_
          refine lv_iconst (v := 0) hx hb dL_law_1490 (by decide) ?_
          refine r_lald X I h272 dL_law_1491 ?_
          refine lv_lload hx hb dL_law_1492 (lv_at hl 0 rfl) ?_
          refine W.lcmp hx hb dL_law_1494 ?_
          rcases s_ite hf with ⟨c273, hf⟩ | ⟨c273, hf⟩
          · refine lv_if_eq (tgt := 1500) hx hb dL_law_1495 (by decide) (fun _ => ?_) (fun n => absurd c273 n)
            cases hf
            have k : s_V G (d + 139) M_L_law vs0 σ0 Y_L_law (1500, [.ref v0, .ref v1, .ref v2, .ref v3, .int v4], q143.2) (e_I r) := k
            exact k.2 p e s m below meth c _ _ _ _ _ X I hn.1 hn.2 (lv_sub hl [2, 3, 4, 5, 6] rfl)
          · refine lv_if_eq (tgt := 1500) hx hb dL_law_1495 (by decide) (fun n => absurd n c273) (fun _ => ?_)
            cases hf
            have k : _ = r := k
            subst k
            refine lv_iconst (v := 0) hx hb dL_law_1498 (by decide) ?_
            exact r_iret X I rfl rfl rfl hn dL_law_1499
        · refine lv_if_ne (tgt := 1500) hx hb dL_law_1486 (by decide) (fun _ => ?_) (fun n => absurd n c271)
          cases hf
          have k : s_V G (d + 139) M_L_law vs0 σ0 Y_L_law (1500, [.ref v0, .ref v1, .ref v2, .ref v3, .int v4], q143.2) (e_I r) := k
          exact k.2 p e s m below meth c _ _ _ _ _ X I hn.1 hn.2 (lv_sub hl [2, 3, 4, 5, 6] rfl)
      · refine lv_icmp_eq (tgt := 1484) hx hb dL_law_1479 (by decide) (fun n => absurd n c270) (fun _ => ?_)
        cases hf
        have k : _ = r := k
        subst k
        refine lv_iconst (v := 0) hx hb dL_law_1482 (by decide) ?_
        exact r_iret X I rfl rfl rfl hn dL_law_1483
    rcases s_ite hf with ⟨c274, hf⟩ | ⟨c274, hf⟩
    · refine lv_tableIn (tgt := 1503) (off := 1463) hx hb dL_law_40 (by rw [c274]; decide) (by rw [c274]; decide) (by rw [c274]; rfl) (by decide) ?_
      obtain ⟨x145, h275, hf⟩ := s_bind hf
      obtain ⟨x146, h276, hf⟩ := s_bind hf
      obtain ⟨q147, h277, hf⟩ := s_bind hf
      obtain ⟨x148, h278, hf⟩ := s_bind hf
      obtain ⟨x149, h279, hf⟩ := s_bind hf
      obtain ⟨q150, h280, hf⟩ := s_bind hf
      obtain ⟨q151, h281, hf⟩ := s_bind hf
      have le282 : s_le q151.2 (e_I r).2 := by
        refine s_lek hem_I ?_ k
        rcases s_ite hf with ⟨-, hf⟩ | ⟨-, hf⟩
        · rcases s_ite hf with ⟨-, hf⟩ | ⟨-, hf⟩
          · obtain ⟨x152, -, hf⟩ := s_bind hf
            rcases s_ite hf with ⟨-, hf⟩ | ⟨-, hf⟩
            · cases hf
              exact s_le.rf
            · cases hf
              exact s_le.rf
          · cases hf
            exact s_le.rf
        · cases hf
          exact s_le.rf
      have le283 := s_le.tr (l_X8_thrown h281) le282
      have le284 := s_le.tr (l_X8_follows h280) le283
      refine lv_aload_n hx hb dL_law_1503 rfl (lv_at hl 1 rfl) ?_
      refine lv_aload_n hx hb dL_law_1504 rfl (lv_at hl 0 rfl) ?_
      refine lv_iload hx hb dL_law_1505 (lv_at hl 4 rfl) ?_
      refine lv_iconst (v := 1) hx hb dL_law_1507 (by decide) ?_
      refine lv_iadd hx hb dL_law_1508 ?_
      refine r_iald X I h275 dL_law_1509 ?_
      refine lv_aload_n hx hb dL_law_1510 rfl (lv_at hl 0 rfl) ?_
      refine lv_iload hx hb dL_law_1511 (lv_at hl 4 rfl) ?_
      refine lv_iconst (v := 2) hx hb dL_law_1513 (by decide) ?_
      refine lv_iadd hx hb dL_law_1514 ?_
      refine r_iald X I h276 dL_law_1515 ?_
      refine lv_aload_n hx hb dL_law_1516 rfl (lv_at hl 3 rfl) ?_
      refine r_callX (Y := M_L_follows) (v := some (.int q147.1)) X I w_1231 my_L_follows (by omega) (t_L_follows (G := G) (d := d + 131) h277) rfl rfl hl.1 rfl (Nat.le_of_ble_eq_true rfl) hn le284 dL_law_1517 (fun H locs cells slots I hn1 hn2 => ?_)
      have I : s_I G q147.2 s H locs := I
      have hn : cells + σ0.2.1 ≤ q147.2.2.1 ∧ slots + σ0.2.2.1 ≤ q147.2.2.2.1 := ⟨hn1, hn2⟩
      refine lv_istore (lv' := [(5, .int q147.1), (0, .ref v0), (1, .ref v1), (2, .ref v2), (3, .ref v3), (4, .int v4)]) hx hb dL_law_1520 hl (by decide) rfl (fun ls hl => ?_)
      refine lv_aload_n hx hb dL_law_1522 rfl (lv_at hl 3 rfl) ?_
      refine lv_aload_n hx hb dL_law_1523 rfl (lv_at hl 1 rfl) ?_
      refine lv_iload hx hb dL_law_1524 (lv_at hl 5 rfl) ?_
      refine lv_iconst (v := 1) hx hb dL_law_1526 (by decide) ?_
      refine lv_iadd hx hb dL_law_1527 ?_
      refine r_iald X I h278 dL_law_1528 ?_
      refine lv_aload_n hx hb dL_law_1529 rfl (lv_at hl 1 rfl) ?_
      refine lv_iload hx hb dL_law_1530 (lv_at hl 5 rfl) ?_
      refine lv_iconst (v := 2) hx hb dL_law_1532 (by decide) ?_
      refine lv_iadd hx hb dL_law_1533 ?_
      refine r_iald X I h279 dL_law_1534 ?_
      refine r_callV (Y := M_X8_follows) (v := some (.int q150.1)) X I w_2132 my_X8_follows (by omega) (t_X8_follows (G := G) (d := d + 132) h280) (b_X8_follows h280) rfl rfl hl.1 rfl (Nat.le_of_ble_eq_true rfl) hn le283 dL_law_1535 (fun H locs cells slots I hn1 hn2 => ?_)
      have I : s_I G q150.2 s H locs := I
      have hn : cells + σ0.2.1 ≤ q150.2.2.1 ∧ slots + σ0.2.2.1 ≤ q150.2.2.2.1 := ⟨hn1, hn2⟩
      refine lv_istore (lv' := [(6, .int q150.1), (5, .int q147.1), (0, .ref v0), (1, .ref v1), (2, .ref v2), (3, .ref v3), (4, .int v4)]) hx hb dL_law_1538 hl (by decide) rfl (fun ls hl => ?_)
      refine lv_aload_n hx hb dL_law_1540 rfl (lv_at hl 4 rfl) ?_
      refine r_callV (Y := M_X8_thrown) (v := some (.int q151.1)) X I w_1671 my_X8_thrown (by omega) (t_X8_thrown (G := G) (d := d + 137) h281) (b_X8_thrown h281) rfl rfl hl.1 rfl (Nat.le_of_ble_eq_true rfl) hn le282 dL_law_1541 (fun H locs cells slots I hn1 hn2 => ?_)
      have I : s_I G q151.2 s H locs := I
      have hn : cells + σ0.2.1 ≤ q151.2.2.1 ∧ slots + σ0.2.2.1 ≤ q151.2.2.2.1 := ⟨hn1, hn2⟩
      refine lv_iload hx hb dL_law_1544 (lv_at hl 1 rfl) ?_
      rcases s_ite hf with ⟨c285, hf⟩ | ⟨c285, hf⟩
      · refine lv_icmp_eq (tgt := 1551) hx hb dL_law_1546 (by decide) (fun _ => ?_) (fun n => absurd c285 n)
        refine lv_iload hx hb dL_law_1551 (lv_at hl 1 rfl) ?_
        rcases s_ite hf with ⟨c286, hf⟩ | ⟨c286, hf⟩
        · refine lv_if_ne (tgt := 1575) hx hb dL_law_1553 (by decide) (fun n => absurd c286 n) (fun _ => ?_)
          obtain ⟨x152, h287, hf⟩ := s_bind hf
          refine lv_aload_n hx hb dL_law_1556 rfl (lv_at hl 5 rfl) ?_
          refine lv_iconst (v := 0) hx hb dL_law_1557 (by decide) ?_
          refine r_lald X I h287 dL_law_1558 ?_
          refine lv_iload hx hb dL_law_1559 (lv_at hl 0 rfl) ?_
          rcases s_ite hf with ⟨c288, hf⟩ | ⟨c288, hf⟩
          · refine lv_if_eq (tgt := 1568) hx hb dL_law_1561 (by decide) (fun _ => ?_) (fun n => absurd c288 n)
            cases hf
            have k : s_V G (d + 139) M_L_law vs0 σ0 Y_L_law (1569, [.ref v0, .ref v1, .ref v2, .ref v3, .int v4, .long 0, .long x152], q151.2) (e_I r) := k
            refine lv_lconst (v := 0) hx hb dL_law_1568 (by decide) ?_
            exact k.2 p e s m below meth c _ _ _ _ _ X I hn.1 hn.2 (lv_sub hl [2, 3, 4, 5, 6] rfl)
          · refine lv_if_eq (tgt := 1568) hx hb dL_law_1561 (by decide) (fun n => absurd n c288) (fun _ => ?_)
            cases hf
            have k : s_V G (d + 139) M_L_law vs0 σ0 Y_L_law (1569, [.ref v0, .ref v1, .ref v2, .ref v3, .int v4, .long 1, .long x152], q151.2) (e_I r) := k
            refine lv_lconst (v := 1) hx hb dL_law_1564 (by decide) ?_
            refine lv_goto (tgt := 1569) hx hb dL_law_1565 (by decide) ?_
            exact k.2 p e s m below meth c _ _ _ _ _ X I hn.1 hn.2 (lv_sub hl [2, 3, 4, 5, 6] rfl)
        · refine lv_if_ne (tgt := 1575) hx hb dL_law_1553 (by decide) (fun _ => ?_) (fun n => absurd n c286)
          cases hf
          have k : s_V G (d + 139) M_L_law vs0 σ0 Y_L_law (1575, [.ref v0, .ref v1, .ref v2, .ref v3, .int v4], q151.2) (e_I r) := k
          exact k.2 p e s m below meth c _ _ _ _ _ X I hn.1 hn.2 (lv_sub hl [2, 3, 4, 5, 6] rfl)
      · refine lv_icmp_eq (tgt := 1551) hx hb dL_law_1546 (by decide) (fun n => absurd n c285) (fun _ => ?_)
        cases hf
        have k : _ = r := k
        subst k
        refine lv_iconst (v := 0) hx hb dL_law_1549 (by decide) ?_
        exact r_iret X I rfl rfl rfl hn dL_law_1550
    rcases s_ite hf with ⟨c289, hf⟩ | ⟨c289, hf⟩
    · refine lv_tableIn (tgt := 1578) (off := 1538) hx hb dL_law_40 (by rw [c289]; decide) (by rw [c289]; decide) (by rw [c289]; rfl) (by decide) ?_
      obtain ⟨x153, h290, hf⟩ := s_bind hf
      obtain ⟨x154, h291, hf⟩ := s_bind hf
      obtain ⟨q155, h292, hf⟩ := s_bind hf
      obtain ⟨x156, h293, hf⟩ := s_bind hf
      obtain ⟨x157, h294, hf⟩ := s_bind hf
      obtain ⟨q158, h295, hf⟩ := s_bind hf
      obtain ⟨q159, h296, hf⟩ := s_bind hf
      have le297 : s_le q159.2 (e_I r).2 := by
        refine s_lek hem_I ?_ k
        rcases s_ite hf with ⟨-, hf⟩ | ⟨-, hf⟩
        · rcases s_ite hf with ⟨-, hf⟩ | ⟨-, hf⟩
          · obtain ⟨x160, -, hf⟩ := s_bind hf
            rcases s_ite hf with ⟨-, hf⟩ | ⟨-, hf⟩
            · cases hf
              exact s_le.rf
            · cases hf
              exact s_le.rf
          · cases hf
            exact s_le.rf
        · cases hf
          exact s_le.rf
      have le298 := s_le.tr (l_X8_thrown h296) le297
      have le299 := s_le.tr (l_X8_counter h295) le298
      refine lv_aload_n hx hb dL_law_1578 rfl (lv_at hl 1 rfl) ?_
      refine lv_aload_n hx hb dL_law_1579 rfl (lv_at hl 0 rfl) ?_
      refine lv_iload hx hb dL_law_1580 (lv_at hl 4 rfl) ?_
      refine lv_iconst (v := 1) hx hb dL_law_1582 (by decide) ?_
      refine lv_iadd hx hb dL_law_1583 ?_
      refine r_iald X I h290 dL_law_1584 ?_
      refine lv_aload_n hx hb dL_law_1585 rfl (lv_at hl 0 rfl) ?_
      refine lv_iload hx hb dL_law_1586 (lv_at hl 4 rfl) ?_
      refine lv_iconst (v := 2) hx hb dL_law_1588 (by decide) ?_
      refine lv_iadd hx hb dL_law_1589 ?_
      refine r_iald X I h291 dL_law_1590 ?_
      refine lv_aload_n hx hb dL_law_1591 rfl (lv_at hl 3 rfl) ?_
      refine r_callX (Y := M_L_counter) (v := some (.int q155.1)) X I w_1265 my_L_counter (by omega) (t_L_counter (G := G) (d := d + 131) h292) rfl rfl hl.1 rfl (Nat.le_of_ble_eq_true rfl) hn le299 dL_law_1592 (fun H locs cells slots I hn1 hn2 => ?_)
      have I : s_I G q155.2 s H locs := I
      have hn : cells + σ0.2.1 ≤ q155.2.2.1 ∧ slots + σ0.2.2.1 ≤ q155.2.2.2.1 := ⟨hn1, hn2⟩
      refine lv_istore (lv' := [(5, .int q155.1), (0, .ref v0), (1, .ref v1), (2, .ref v2), (3, .ref v3), (4, .int v4)]) hx hb dL_law_1595 hl (by decide) rfl (fun ls hl => ?_)
      refine lv_aload_n hx hb dL_law_1597 rfl (lv_at hl 3 rfl) ?_
      refine lv_aload_n hx hb dL_law_1598 rfl (lv_at hl 1 rfl) ?_
      refine lv_iload hx hb dL_law_1599 (lv_at hl 5 rfl) ?_
      refine lv_iconst (v := 1) hx hb dL_law_1601 (by decide) ?_
      refine lv_iadd hx hb dL_law_1602 ?_
      refine r_iald X I h293 dL_law_1603 ?_
      refine lv_aload_n hx hb dL_law_1604 rfl (lv_at hl 1 rfl) ?_
      refine lv_iload hx hb dL_law_1605 (lv_at hl 5 rfl) ?_
      refine lv_iconst (v := 2) hx hb dL_law_1607 (by decide) ?_
      refine lv_iadd hx hb dL_law_1608 ?_
      refine r_iald X I h294 dL_law_1609 ?_
      refine r_callV (Y := M_X8_counter) (v := some (.int q158.1)) X I w_2144 my_X8_counter (by omega) (t_X8_counter (G := G) (d := d + 132) h295) (b_X8_counter h295) rfl rfl hl.1 rfl (Nat.le_of_ble_eq_true rfl) hn le298 dL_law_1610 (fun H locs cells slots I hn1 hn2 => ?_)
      have I : s_I G q158.2 s H locs := I
      have hn : cells + σ0.2.1 ≤ q158.2.2.1 ∧ slots + σ0.2.2.1 ≤ q158.2.2.2.1 := ⟨hn1, hn2⟩
      refine lv_istore (lv' := [(6, .int q158.1), (5, .int q155.1), (0, .ref v0), (1, .ref v1), (2, .ref v2), (3, .ref v3), (4, .int v4)]) hx hb dL_law_1613 hl (by decide) rfl (fun ls hl => ?_)
      refine lv_aload_n hx hb dL_law_1615 rfl (lv_at hl 4 rfl) ?_
      refine r_callV (Y := M_X8_thrown) (v := some (.int q159.1)) X I w_1671 my_X8_thrown (by omega) (t_X8_thrown (G := G) (d := d + 137) h296) (b_X8_thrown h296) rfl rfl hl.1 rfl (Nat.le_of_ble_eq_true rfl) hn le297 dL_law_1616 (fun H locs cells slots I hn1 hn2 => ?_)
      have I : s_I G q159.2 s H locs := I
      have hn : cells + σ0.2.1 ≤ q159.2.2.1 ∧ slots + σ0.2.2.1 ≤ q159.2.2.2.1 := ⟨hn1, hn2⟩
      refine lv_iload hx hb dL_law_1619 (lv_at hl 1 rfl) ?_
      rcases s_ite hf with ⟨c300, hf⟩ | ⟨c300, hf⟩
      · refine lv_icmp_eq (tgt := 1626) hx hb dL_law_1621 (by decide) (fun _ => ?_) (fun n => absurd c300 n)
        refine lv_iload hx hb dL_law_1626 (lv_at hl 1 rfl) ?_
        rcases s_ite hf with ⟨c301, hf⟩ | ⟨c301, hf⟩
        · refine lv_if_ne (tgt := 1643) hx hb dL_law_1628 (by decide) (fun n => absurd c301 n) (fun _ => ?_)
          obtain ⟨x160, h302, hf⟩ := s_bind hf
          refine lv_aload_n hx hb dL_law_1631 rfl (lv_at hl 5 rfl) ?_
          refine lv_iconst (v := 0) hx hb dL_law_1632 (by decide) ?_
          refine r_lald X I h302 dL_law_1633 ?_
          refine lv_iload hx hb dL_law_1634 (lv_at hl 0 rfl) ?_
          refine lv_i2l hx hb dL_law_1636 rfl ?_
          refine W.lcmp hx hb dL_law_1637 ?_
          rcases s_ite hf with ⟨c303, hf⟩ | ⟨c303, hf⟩
          · refine lv_if_eq (tgt := 1643) hx hb dL_law_1638 (by decide) (fun _ => ?_) (fun n => absurd c303 n)
            cases hf
            have k : s_V G (d + 139) M_L_law vs0 σ0 Y_L_law (1643, [.ref v0, .ref v1, .ref v2, .ref v3, .int v4], q159.2) (e_I r) := k
            exact k.2 p e s m below meth c _ _ _ _ _ X I hn.1 hn.2 (lv_sub hl [2, 3, 4, 5, 6] rfl)
          · refine lv_if_eq (tgt := 1643) hx hb dL_law_1638 (by decide) (fun n => absurd n c303) (fun _ => ?_)
            cases hf
            have k : _ = r := k
            subst k
            refine lv_iconst (v := 0) hx hb dL_law_1641 (by decide) ?_
            exact r_iret X I rfl rfl rfl hn dL_law_1642
        · refine lv_if_ne (tgt := 1643) hx hb dL_law_1628 (by decide) (fun _ => ?_) (fun n => absurd n c301)
          cases hf
          have k : s_V G (d + 139) M_L_law vs0 σ0 Y_L_law (1643, [.ref v0, .ref v1, .ref v2, .ref v3, .int v4], q159.2) (e_I r) := k
          exact k.2 p e s m below meth c _ _ _ _ _ X I hn.1 hn.2 (lv_sub hl [2, 3, 4, 5, 6] rfl)
      · refine lv_icmp_eq (tgt := 1626) hx hb dL_law_1621 (by decide) (fun n => absurd n c300) (fun _ => ?_)
        cases hf
        have k : _ = r := k
        subst k
        refine lv_iconst (v := 0) hx hb dL_law_1624 (by decide) ?_
        exact r_iret X I rfl rfl rfl hn dL_law_1625
    rcases s_ite hf with ⟨c304, hf⟩ | ⟨c304, hf⟩
    · refine lv_tableIn (tgt := 1646) (off := 1606) hx hb dL_law_40 (by rw [c304]; decide) (by rw [c304]; decide) (by rw [c304]; rfl) (by decide) ?_
      obtain ⟨x161, h305, hf⟩ := s_bind hf
      obtain ⟨x162, h306, hf⟩ := s_bind hf
      obtain ⟨x163, h307, hf⟩ := s_bind hf
      obtain ⟨q164, h308, hf⟩ := s_bind hf
      obtain ⟨x165, h309, hf⟩ := s_bind hf
      obtain ⟨x166, h310, hf⟩ := s_bind hf
      obtain ⟨x167, h311, hf⟩ := s_bind hf
      obtain ⟨q168, h312, hf⟩ := s_bind hf
      obtain ⟨q169, h313, hf⟩ := s_bind hf
      have le314 : s_le q169.2 (e_I r).2 := by
        refine s_lek hem_I ?_ k
        rcases s_ite hf with ⟨-, hf⟩ | ⟨-, hf⟩
        · rcases s_ite hf with ⟨-, hf⟩ | ⟨-, hf⟩
          · obtain ⟨x170, -, hf⟩ := s_bind hf
            rcases s_ite hf with ⟨-, hf⟩ | ⟨-, hf⟩
            · cases hf
              exact s_le.rf
            · cases hf
              exact s_le.rf
          · cases hf
            exact s_le.rf
        · cases hf
          exact s_le.rf
      have le315 := s_le.tr (l_X8_thrown h313) le314
      have le316 := s_le.tr (l_X8_cheapest h312) le315
      refine lv_aload_n hx hb dL_law_1646 rfl (lv_at hl 1 rfl) ?_
      refine lv_aload_n hx hb dL_law_1647 rfl (lv_at hl 0 rfl) ?_
      refine lv_iload hx hb dL_law_1648 (lv_at hl 4 rfl) ?_
      refine lv_iconst (v := 1) hx hb dL_law_1650 (by decide) ?_
      refine lv_iadd hx hb dL_law_1651 ?_
      refine r_iald X I h305 dL_law_1652 ?_
      refine lv_aload_n hx hb dL_law_1653 rfl (lv_at hl 0 rfl) ?_
      refine lv_iload hx hb dL_law_1654 (lv_at hl 4 rfl) ?_
      refine lv_iconst (v := 2) hx hb dL_law_1656 (by decide) ?_
      refine lv_iadd hx hb dL_law_1657 ?_
      refine r_iald X I h306 dL_law_1658 ?_
      refine lv_aload_n hx hb dL_law_1659 rfl (lv_at hl 0 rfl) ?_
      refine lv_iload hx hb dL_law_1660 (lv_at hl 4 rfl) ?_
      refine lv_iconst (v := 3) hx hb dL_law_1662 (by decide) ?_
      refine lv_iadd hx hb dL_law_1663 ?_
      refine r_iald X I h307 dL_law_1664 ?_
      refine lv_aload_n hx hb dL_law_1665 rfl (lv_at hl 3 rfl) ?_
      refine r_callX (Y := M_L_cheapest) (v := some (.int q164.1)) X I w_1272 my_L_cheapest (by omega) (t_L_cheapest (G := G) (d := d + 68) h308) rfl rfl hl.1 rfl (Nat.le_of_ble_eq_true rfl) hn le316 dL_law_1666 (fun H locs cells slots I hn1 hn2 => ?_)
      have I : s_I G q164.2 s H locs := I
      have hn : cells + σ0.2.1 ≤ q164.2.2.1 ∧ slots + σ0.2.2.1 ≤ q164.2.2.2.1 := ⟨hn1, hn2⟩
      refine lv_istore (lv' := [(5, .int q164.1), (0, .ref v0), (1, .ref v1), (2, .ref v2), (3, .ref v3), (4, .int v4)]) hx hb dL_law_1669 hl (by decide) rfl (fun ls hl => ?_)
      refine lv_aload_n hx hb dL_law_1671 rfl (lv_at hl 3 rfl) ?_
      refine lv_aload_n hx hb dL_law_1672 rfl (lv_at hl 1 rfl) ?_
      refine lv_iload hx hb dL_law_1673 (lv_at hl 5 rfl) ?_
      refine lv_iconst (v := 1) hx hb dL_law_1675 (by decide) ?_
      refine lv_iadd hx hb dL_law_1676 ?_
      refine r_iald X I h309 dL_law_1677 ?_
      refine lv_aload_n hx hb dL_law_1678 rfl (lv_at hl 1 rfl) ?_
      refine lv_iload hx hb dL_law_1679 (lv_at hl 5 rfl) ?_
      refine lv_iconst (v := 2) hx hb dL_law_1681 (by decide) ?_
      refine lv_iadd hx hb dL_law_1682 ?_
      refine r_iald X I h310 dL_law_1683 ?_
      refine lv_aload_n hx hb dL_law_1684 rfl (lv_at hl 1 rfl) ?_
      refine lv_iload hx hb dL_law_1685 (lv_at hl 5 rfl) ?_
      refine lv_iconst (v := 3) hx hb dL_law_1687 (by decide) ?_
      refine lv_iadd hx hb dL_law_1688 ?_
      refine r_iald X I h311 dL_law_1689 ?_
      refine r_callV (Y := M_X8_cheapest) (v := some (.int q168.1)) X I w_2204 my_X8_cheapest (by omega) (t_X8_cheapest (G := G) (d := d + 130) h312) (b_X8_cheapest h312) rfl rfl hl.1 rfl (Nat.le_of_ble_eq_true rfl) hn le315 dL_law_1690 (fun H locs cells slots I hn1 hn2 => ?_)
      have I : s_I G q168.2 s H locs := I
      have hn : cells + σ0.2.1 ≤ q168.2.2.1 ∧ slots + σ0.2.2.1 ≤ q168.2.2.2.1 := ⟨hn1, hn2⟩
      refine lv_istore (lv' := [(6, .int q168.1), (5, .int q164.1), (0, .ref v0), (1, .ref v1), (2, .ref v2), (3, .ref v3), (4, .int v4)]) hx hb dL_law_1693 hl (by decide) rfl (fun ls hl => ?_)
      refine lv_aload_n hx hb dL_law_1695 rfl (lv_at hl 4 rfl) ?_
      refine r_callV (Y := M_X8_thrown) (v := some (.int q169.1)) X I w_1671 my_X8_thrown (by omega) (t_X8_thrown (G := G) (d := d + 137) h313) (b_X8_thrown h313) rfl rfl hl.1 rfl (Nat.le_of_ble_eq_true rfl) hn le314 dL_law_1696 (fun H locs cells slots I hn1 hn2 => ?_)
      have I : s_I G q169.2 s H locs := I
      have hn : cells + σ0.2.1 ≤ q169.2.2.1 ∧ slots + σ0.2.2.1 ≤ q169.2.2.2.1 := ⟨hn1, hn2⟩
      refine lv_iload hx hb dL_law_1699 (lv_at hl 1 rfl) ?_
      rcases s_ite hf with ⟨c317, hf⟩ | ⟨c317, hf⟩
      · refine lv_icmp_eq (tgt := 1706) hx hb dL_law_1701 (by decide) (fun _ => ?_) (fun n => absurd c317 n)
        refine lv_iload hx hb dL_law_1706 (lv_at hl 1 rfl) ?_
        rcases s_ite hf with ⟨c318, hf⟩ | ⟨c318, hf⟩
        · refine lv_if_ne (tgt := 1723) hx hb dL_law_1708 (by decide) (fun n => absurd c318 n) (fun _ => ?_)
          obtain ⟨x170, h319, hf⟩ := s_bind hf
          refine lv_aload_n hx hb dL_law_1711 rfl (lv_at hl 5 rfl) ?_
          refine lv_iconst (v := 0) hx hb dL_law_1712 (by decide) ?_
          refine r_lald X I h319 dL_law_1713 ?_
          refine lv_iload hx hb dL_law_1714 (lv_at hl 0 rfl) ?_
          refine lv_i2l hx hb dL_law_1716 rfl ?_
          refine W.lcmp hx hb dL_law_1717 ?_
          rcases s_ite hf with ⟨c320, hf⟩ | ⟨c320, hf⟩
          · refine lv_if_eq (tgt := 1723) hx hb dL_law_1718 (by decide) (fun _ => ?_) (fun n => absurd c320 n)
            cases hf
            have k : s_V G (d + 139) M_L_law vs0 σ0 Y_L_law (1723, [.ref v0, .ref v1, .ref v2, .ref v3, .int v4], q169.2) (e_I r) := k
            exact k.2 p e s m below meth c _ _ _ _ _ X I hn.1 hn.2 (lv_sub hl [2, 3, 4, 5, 6] rfl)
          · refine lv_if_eq (tgt := 1723) hx hb dL_law_1718 (by decide) (fun n => absurd n c320) (fun _ => ?_)
            cases hf
            have k : _ = r := k
            subst k
            refine lv_iconst (v := 0) hx hb dL_law_1721 (by decide) ?_
            exact r_iret X I rfl rfl rfl hn dL_law_1722
        · refine lv_if_ne (tgt := 1723) hx hb dL_law_1708 (by decide) (fun _ => ?_) (fun n => absurd n c318)
          cases hf
          have k : s_V G (d + 139) M_L_law vs0 σ0 Y_L_law (1723, [.ref v0, .ref v1, .ref v2, .ref v3, .int v4], q169.2) (e_I r) := k
          exact k.2 p e s m below meth c _ _ _ _ _ X I hn.1 hn.2 (lv_sub hl [2, 3, 4, 5, 6] rfl)
      · refine lv_icmp_eq (tgt := 1706) hx hb dL_law_1701 (by decide) (fun n => absurd n c317) (fun _ => ?_)
        cases hf
        have k : _ = r := k
        subst k
        refine lv_iconst (v := 0) hx hb dL_law_1704 (by decide) ?_
        exact r_iret X I rfl rfl rfl hn dL_law_1705
    rcases s_ite hf with ⟨c321, hf⟩ | ⟨c321, hf⟩
    · refine lv_tableIn (tgt := 1726) (off := 1686) hx hb dL_law_40 (by rw [c321]; decide) (by rw [c321]; decide) (by rw [c321]; rfl) (by decide) ?_
      obtain ⟨x171, h322, hf⟩ := s_bind hf
      obtain ⟨x172, h323, hf⟩ := s_bind hf
      obtain ⟨x173, h324, hf⟩ := s_bind hf
      obtain ⟨q174, h325, hf⟩ := s_bind hf
      obtain ⟨x175, h326, hf⟩ := s_bind hf
      obtain ⟨x176, h327, hf⟩ := s_bind hf
      obtain ⟨x177, h328, hf⟩ := s_bind hf
      obtain ⟨q178, h329, hf⟩ := s_bind hf
      obtain ⟨q179, h330, hf⟩ := s_bind hf
      have le331 : s_le q179.2 (e_I r).2 := by
        refine s_lek hem_I ?_ k
        rcases s_ite hf with ⟨-, hf⟩ | ⟨-, hf⟩
        · rcases s_ite hf with ⟨-, hf⟩ | ⟨-, hf⟩
          · obtain ⟨x180, -, hf⟩ := s_bind hf
            rcases s_ite hf with ⟨-, hf⟩ | ⟨-, hf⟩
            · cases hf
              exact s_le.rf
            · cases hf
              exact s_le.rf
          · cases hf
            exact s_le.rf
        · cases hf
          exact s_le.rf
      have le332 := s_le.tr (l_X8_thrown h330) le331
      have le333 := s_le.tr (l_X8_lastly h329) le332
      refine lv_aload_n hx hb dL_law_1726 rfl (lv_at hl 1 rfl) ?_
      refine lv_aload_n hx hb dL_law_1727 rfl (lv_at hl 0 rfl) ?_
      refine lv_iload hx hb dL_law_1728 (lv_at hl 4 rfl) ?_
      refine lv_iconst (v := 1) hx hb dL_law_1730 (by decide) ?_
      refine lv_iadd hx hb dL_law_1731 ?_
      refine r_iald X I h322 dL_law_1732 ?_
      refine lv_aload_n hx hb dL_law_1733 rfl (lv_at hl 0 rfl) ?_
      refine lv_iload hx hb dL_law_1734 (lv_at hl 4 rfl) ?_
      refine lv_iconst (v := 2) hx hb dL_law_1736 (by decide) ?_
      refine lv_iadd hx hb dL_law_1737 ?_
      refine r_iald X I h323 dL_law_1738 ?_
      refine lv_aload_n hx hb dL_law_1739 rfl (lv_at hl 0 rfl) ?_
      refine lv_iload hx hb dL_law_1740 (lv_at hl 4 rfl) ?_
      refine lv_iconst (v := 3) hx hb dL_law_1742 (by decide) ?_
      refine lv_iadd hx hb dL_law_1743 ?_
      refine r_iald X I h324 dL_law_1744 ?_
      refine lv_aload_n hx hb dL_law_1745 rfl (lv_at hl 3 rfl) ?_
      refine r_callX (Y := M_L_lastly) (v := some (.int q174.1)) X I w_1388 my_L_lastly (by omega) (t_L_lastly (G := G) (d := d + 68) h325) rfl rfl hl.1 rfl (Nat.le_of_ble_eq_true rfl) hn le333 dL_law_1746 (fun H locs cells slots I hn1 hn2 => ?_)
      have I : s_I G q174.2 s H locs := I
      have hn : cells + σ0.2.1 ≤ q174.2.2.1 ∧ slots + σ0.2.2.1 ≤ q174.2.2.2.1 := ⟨hn1, hn2⟩
      refine lv_istore (lv' := [(5, .int q174.1), (0, .ref v0), (1, .ref v1), (2, .ref v2), (3, .ref v3), (4, .int v4)]) hx hb dL_law_1749 hl (by decide) rfl (fun ls hl => ?_)
      refine lv_aload_n hx hb dL_law_1751 rfl (lv_at hl 3 rfl) ?_
      refine lv_aload_n hx hb dL_law_1752 rfl (lv_at hl 1 rfl) ?_
      refine lv_iload hx hb dL_law_1753 (lv_at hl 5 rfl) ?_
      refine lv_iconst (v := 1) hx hb dL_law_1755 (by decide) ?_
      refine lv_iadd hx hb dL_law_1756 ?_
      refine r_iald X I h326 dL_law_1757 ?_
      refine lv_aload_n hx hb dL_law_1758 rfl (lv_at hl 1 rfl) ?_
      refine lv_iload hx hb dL_law_1759 (lv_at hl 5 rfl) ?_
      refine lv_iconst (v := 2) hx hb dL_law_1761 (by decide) ?_
      refine lv_iadd hx hb dL_law_1762 ?_
      refine r_iald X I h327 dL_law_1763 ?_
      refine lv_aload_n hx hb dL_law_1764 rfl (lv_at hl 1 rfl) ?_
      refine lv_iload hx hb dL_law_1765 (lv_at hl 5 rfl) ?_
      refine lv_iconst (v := 3) hx hb dL_law_1767 (by decide) ?_
      refine lv_iadd hx hb dL_law_1768 ?_
      refine r_iald X I h328 dL_law_1769 ?_
      refine r_callV (Y := M_X8_lastly) (v := some (.int q178.1)) X I w_2270 my_X8_lastly (by omega) (t_X8_lastly (G := G) (d := d + 130) h329) (b_X8_lastly h329) rfl rfl hl.1 rfl (Nat.le_of_ble_eq_true rfl) hn le332 dL_law_1770 (fun H locs cells slots I hn1 hn2 => ?_)
      have I : s_I G q178.2 s H locs := I
      have hn : cells + σ0.2.1 ≤ q178.2.2.1 ∧ slots + σ0.2.2.1 ≤ q178.2.2.2.1 := ⟨hn1, hn2⟩
      refine lv_istore (lv' := [(6, .int q178.1), (5, .int q174.1), (0, .ref v0), (1, .ref v1), (2, .ref v2), (3, .ref v3), (4, .int v4)]) hx hb dL_law_1773 hl (by decide) rfl (fun ls hl => ?_)
      refine lv_aload_n hx hb dL_law_1775 rfl (lv_at hl 4 rfl) ?_
      refine r_callV (Y := M_X8_thrown) (v := some (.int q179.1)) X I w_1671 my_X8_thrown (by omega) (t_X8_thrown (G := G) (d := d + 137) h330) (b_X8_thrown h330) rfl rfl hl.1 rfl (Nat.le_of_ble_eq_true rfl) hn le331 dL_law_1776 (fun H locs cells slots I hn1 hn2 => ?_)
      have I : s_I G q179.2 s H locs := I
      have hn : cells + σ0.2.1 ≤ q179.2.2.1 ∧ slots + σ0.2.2.1 ≤ q179.2.2.2.1 := ⟨hn1, hn2⟩
      refine lv_iload hx hb dL_law_1779 (lv_at hl 1 rfl) ?_
      rcases s_ite hf with ⟨c334, hf⟩ | ⟨c334, hf⟩
      · refine lv_icmp_eq (tgt := 1786) hx hb dL_law_1781 (by decide) (fun _ => ?_) (fun n => absurd c334 n)
        refine lv_iload hx hb dL_law_1786 (lv_at hl 1 rfl) ?_
        rcases s_ite hf with ⟨c335, hf⟩ | ⟨c335, hf⟩
        · refine lv_if_ne (tgt := 1803) hx hb dL_law_1788 (by decide) (fun n => absurd c335 n) (fun _ => ?_)
          obtain ⟨x180, h336, hf⟩ := s_bind hf
          refine lv_aload_n hx hb dL_law_1791 rfl (lv_at hl 5 rfl) ?_
          refine lv_iconst (v := 0) hx hb dL_law_1792 (by decide) ?_
          refine r_lald X I h336 dL_law_1793 ?_
          refine lv_iload hx hb dL_law_1794 (lv_at hl 0 rfl) ?_
          refine lv_i2l hx hb dL_law_1796 rfl ?_
          refine W.lcmp hx hb dL_law_1797 ?_
          rcases s_ite hf with ⟨c337, hf⟩ | ⟨c337, hf⟩
          · refine lv_if_eq (tgt := 1803) hx hb dL_law_1798 (by decide) (fun _ => ?_) (fun n => absurd c337 n)
            cases hf
            have k : s_V G (d + 139) M_L_law vs0 σ0 Y_L_law (1803, [.ref v0, .ref v1, .ref v2, .ref v3, .int v4], q179.2) (e_I r) := k
            exact k.2 p e s m below meth c _ _ _ _ _ X I hn.1 hn.2 (lv_sub hl [2, 3, 4, 5, 6] rfl)
          · refine lv_if_eq (tgt := 1803) hx hb dL_law_1798 (by decide) (fun n => absurd n c337) (fun _ => ?_)
            cases hf
            have k : _ = r := k
            subst k
            refine lv_iconst (v := 0) hx hb dL_law_1801 (by decide) ?_
            exact r_iret X I rfl rfl rfl hn dL_law_1802
        · refine lv_if_ne (tgt := 1803) hx hb dL_law_1788 (by decide) (fun _ => ?_) (fun n => absurd n c335)
          cases hf
          have k : s_V G (d + 139) M_L_law vs0 σ0 Y_L_law (1803, [.ref v0, .ref v1, .ref v2, .ref v3, .int v4], q179.2) (e_I r) := k
          exact k.2 p e s m below meth c _ _ _ _ _ X I hn.1 hn.2 (lv_sub hl [2, 3, 4, 5, 6] rfl)
      · refine lv_icmp_eq (tgt := 1786) hx hb dL_law_1781 (by decide) (fun n => absurd n c334) (fun _ => ?_)
        cases hf
        have k : _ = r := k
        subst k
        refine lv_iconst (v := 0) hx hb dL_law_1784 (by decide) ?_
        exact r_iret X I rfl rfl rfl hn dL_law_1785
    rcases s_ite hf with ⟨c338, hf⟩ | ⟨c338, hf⟩
    · refine lv_tableIn (tgt := 1806) (off := 1766) hx hb dL_law_40 (by rw [c338]; decide) (by rw [c338]; decide) (by rw [c338]; rfl) (by decide) ?_
      obtain ⟨x181, h339, hf⟩ := s_bind hf
      obtain ⟨x182, h340, hf⟩ := s_bind hf
      obtain ⟨q183, h341, hf⟩ := s_bind hf
      obtain ⟨x184, h342, hf⟩ := s_bind hf
      obtain ⟨x185, h343, hf⟩ := s_bind hf
      obtain ⟨q186, h344, hf⟩ := s_bind hf
      obtain ⟨q187, h345, hf⟩ := s_bind hf
      have le346 : s_le q187.2 (e_I r).2 := by
        refine s_lek hem_I ?_ k
        rcases s_ite hf with ⟨-, hf⟩ | ⟨-, hf⟩
        · rcases s_ite hf with ⟨-, hf⟩ | ⟨-, hf⟩
          · obtain ⟨x188, -, hf⟩ := s_bind hf
            rcases s_ite hf with ⟨-, hf⟩ | ⟨-, hf⟩
            · cases hf
              exact s_le.rf
            · cases hf
              exact s_le.rf
          · cases hf
            exact s_le.rf
        · cases hf
          exact s_le.rf
      have le347 := s_le.tr (l_X8_thrown h345) le346
      have le348 := s_le.tr (l_X8_where h344) le347
      refine lv_aload_n hx hb dL_law_1806 rfl (lv_at hl 1 rfl) ?_
      refine lv_aload_n hx hb dL_law_1807 rfl (lv_at hl 0 rfl) ?_
      refine lv_iload hx hb dL_law_1808 (lv_at hl 4 rfl) ?_
      refine lv_iconst (v := 1) hx hb dL_law_1810 (by decide) ?_
      refine lv_iadd hx hb dL_law_1811 ?_
      refine r_iald X I h339 dL_law_1812 ?_
      refine lv_aload_n hx hb dL_law_1813 rfl (lv_at hl 0 rfl) ?_
      refine lv_iload hx hb dL_law_1814 (lv_at hl 4 rfl) ?_
      refine lv_iconst (v := 2) hx hb dL_law_1816 (by decide) ?_
      refine lv_iadd hx hb dL_law_1817 ?_
      refine r_iald X I h340 dL_law_1818 ?_
      refine lv_aload_n hx hb dL_law_1819 rfl (lv_at hl 3 rfl) ?_
      refine r_callX (Y := M_L_where) (v := some (.int q183.1)) X I w_1400 my_L_where (by omega) (t_L_where (G := G) (d := d + 68) h341) rfl rfl hl.1 rfl (Nat.le_of_ble_eq_true rfl) hn le348 dL_law_1820 (fun H locs cells slots I hn1 hn2 => ?_)
      have I : s_I G q183.2 s H locs := I
      have hn : cells + σ0.2.1 ≤ q183.2.2.1 ∧ slots + σ0.2.2.1 ≤ q183.2.2.2.1 := ⟨hn1, hn2⟩
      refine lv_istore (lv' := [(5, .int q183.1), (0, .ref v0), (1, .ref v1), (2, .ref v2), (3, .ref v3), (4, .int v4)]) hx hb dL_law_1823 hl (by decide) rfl (fun ls hl => ?_)
      refine lv_aload_n hx hb dL_law_1825 rfl (lv_at hl 3 rfl) ?_
      refine lv_aload_n hx hb dL_law_1826 rfl (lv_at hl 1 rfl) ?_
      refine lv_iload hx hb dL_law_1827 (lv_at hl 5 rfl) ?_
      refine lv_iconst (v := 1) hx hb dL_law_1829 (by decide) ?_
      refine lv_iadd hx hb dL_law_1830 ?_
      refine r_iald X I h342 dL_law_1831 ?_
      refine lv_aload_n hx hb dL_law_1832 rfl (lv_at hl 1 rfl) ?_
      refine lv_iload hx hb dL_law_1833 (lv_at hl 5 rfl) ?_
      refine lv_iconst (v := 2) hx hb dL_law_1835 (by decide) ?_
      refine lv_iadd hx hb dL_law_1836 ?_
      refine r_iald X I h343 dL_law_1837 ?_
      refine r_callV (Y := M_X8_where) (v := some (.int q186.1)) X I w_2274 my_X8_where (by omega) (t_X8_where (G := G) (d := d + 130) h344) (b_X8_where h344) rfl rfl hl.1 rfl (Nat.le_of_ble_eq_true rfl) hn le347 dL_law_1838 (fun H locs cells slots I hn1 hn2 => ?_)
      have I : s_I G q186.2 s H locs := I
      have hn : cells + σ0.2.1 ≤ q186.2.2.1 ∧ slots + σ0.2.2.1 ≤ q186.2.2.2.1 := ⟨hn1, hn2⟩
      refine lv_istore (lv' := [(6, .int q186.1), (5, .int q183.1), (0, .ref v0), (1, .ref v1), (2, .ref v2), (3, .ref v3), (4, .int v4)]) hx hb dL_law_1841 hl (by decide) rfl (fun ls hl => ?_)
      refine lv_aload_n hx hb dL_law_1843 rfl (lv_at hl 4 rfl) ?_
      refine r_callV (Y := M_X8_thrown) (v := some (.int q187.1)) X I w_1671 my_X8_thrown (by omega) (t_X8_thrown (G := G) (d := d + 137) h345) (b_X8_thrown h345) rfl rfl hl.1 rfl (Nat.le_of_ble_eq_true rfl) hn le346 dL_law_1844 (fun H locs cells slots I hn1 hn2 => ?_)
      have I : s_I G q187.2 s H locs := I
      have hn : cells + σ0.2.1 ≤ q187.2.2.1 ∧ slots + σ0.2.2.1 ≤ q187.2.2.2.1 := ⟨hn1, hn2⟩
      refine lv_iload hx hb dL_law_1847 (lv_at hl 1 rfl) ?_
      rcases s_ite hf with ⟨c349, hf⟩ | ⟨c349, hf⟩
      · refine lv_icmp_eq (tgt := 1854) hx hb dL_law_1849 (by decide) (fun _ => ?_) (fun n => absurd c349 n)
        refine lv_iload hx hb dL_law_1854 (lv_at hl 1 rfl) ?_
        rcases s_ite hf with ⟨c350, hf⟩ | ⟨c350, hf⟩
        · refine lv_if_ne (tgt := 1871) hx hb dL_law_1856 (by decide) (fun n => absurd c350 n) (fun _ => ?_)
          obtain ⟨x188, h351, hf⟩ := s_bind hf
          refine lv_aload_n hx hb dL_law_1859 rfl (lv_at hl 5 rfl) ?_
          refine lv_iconst (v := 0) hx hb dL_law_1860 (by decide) ?_
          refine r_lald X I h351 dL_law_1861 ?_
          refine lv_iload hx hb dL_law_1862 (lv_at hl 0 rfl) ?_
          refine lv_i2l hx hb dL_law_1864 rfl ?_
          refine W.lcmp hx hb dL_law_1865 ?_
          rcases s_ite hf with ⟨c352, hf⟩ | ⟨c352, hf⟩
          · refine lv_if_eq (tgt := 1871) hx hb dL_law_1866 (by decide) (fun _ => ?_) (fun n => absurd c352 n)
            cases hf
            have k : s_V G (d + 139) M_L_law vs0 σ0 Y_L_law (1871, [.ref v0, .ref v1, .ref v2, .ref v3, .int v4], q187.2) (e_I r) := k
            exact k.2 p e s m below meth c _ _ _ _ _ X I hn.1 hn.2 (lv_sub hl [2, 3, 4, 5, 6] rfl)
          · refine lv_if_eq (tgt := 1871) hx hb dL_law_1866 (by decide) (fun n => absurd n c352) (fun _ => ?_)
            cases hf
            have k : _ = r := k
            subst k
            refine lv_iconst (v := 0) hx hb dL_law_1869 (by decide) ?_
            exact r_iret X I rfl rfl rfl hn dL_law_1870
        · refine lv_if_ne (tgt := 1871) hx hb dL_law_1856 (by decide) (fun _ => ?_) (fun n => absurd n c350)
          cases hf
          have k : s_V G (d + 139) M_L_law vs0 σ0 Y_L_law (1871, [.ref v0, .ref v1, .ref v2, .ref v3, .int v4], q187.2) (e_I r) := k
          exact k.2 p e s m below meth c _ _ _ _ _ X I hn.1 hn.2 (lv_sub hl [2, 3, 4, 5, 6] rfl)
      · refine lv_icmp_eq (tgt := 1854) hx hb dL_law_1849 (by decide) (fun n => absurd n c349) (fun _ => ?_)
        cases hf
        have k : _ = r := k
        subst k
        refine lv_iconst (v := 0) hx hb dL_law_1852 (by decide) ?_
        exact r_iret X I rfl rfl rfl hn dL_law_1853
    rcases s_ite hf with ⟨c353, hf⟩ | ⟨c353, hf⟩
    · refine lv_tableIn (tgt := 1874) (off := 1834) hx hb dL_law_40 (by rw [c353]; decide) (by rw [c353]; decide) (by rw [c353]; rfl) (by decide) ?_
      obtain ⟨x189, h354, hf⟩ := s_bind hf
      obtain ⟨x190, h355, hf⟩ := s_bind hf
      obtain ⟨x191, h356, hf⟩ := s_bind hf
      obtain ⟨q192, h357, hf⟩ := s_bind hf
      obtain ⟨x193, h358, hf⟩ := s_bind hf
      obtain ⟨x194, h359, hf⟩ := s_bind hf
      obtain ⟨x195, h360, hf⟩ := s_bind hf
      obtain ⟨q196, h361, hf⟩ := s_bind hf
      obtain ⟨q197, h362, hf⟩ := s_bind hf
      have le363 : s_le q197.2 (e_I r).2 := by
        refine s_lek hem_I ?_ k
        rcases s_ite hf with ⟨-, hf⟩ | ⟨-, hf⟩
        · rcases s_ite hf with ⟨-, hf⟩ | ⟨-, hf⟩
          · obtain ⟨x198, -, hf⟩ := s_bind hf
            rcases s_ite hf with ⟨-, hf⟩ | ⟨-, hf⟩
            · cases hf
              exact s_le.rf
            · cases hf
              exact s_le.rf
          · cases hf
            exact s_le.rf
        · cases hf
          exact s_le.rf
      have le364 := s_le.tr (l_X8_thrown h362) le363
      have le365 := s_le.tr (l_X8_resold h361) le364
      refine lv_aload_n hx hb dL_law_1874 rfl (lv_at hl 1 rfl) ?_
      refine lv_aload_n hx hb dL_law_1875 rfl (lv_at hl 0 rfl) ?_
      refine lv_iload hx hb dL_law_1876 (lv_at hl 4 rfl) ?_
      refine lv_iconst (v := 1) hx hb dL_law_1878 (by decide) ?_
      refine lv_iadd hx hb dL_law_1879 ?_
      refine r_iald X I h354 dL_law_1880 ?_
      refine lv_aload_n hx hb dL_law_1881 rfl (lv_at hl 0 rfl) ?_
      refine lv_iload hx hb dL_law_1882 (lv_at hl 4 rfl) ?_
      refine lv_iconst (v := 2) hx hb dL_law_1884 (by decide) ?_
      refine lv_iadd hx hb dL_law_1885 ?_
      refine r_iald X I h355 dL_law_1886 ?_
      refine lv_aload_n hx hb dL_law_1887 rfl (lv_at hl 0 rfl) ?_
      refine lv_iload hx hb dL_law_1888 (lv_at hl 4 rfl) ?_
      refine lv_iconst (v := 3) hx hb dL_law_1890 (by decide) ?_
      refine lv_iadd hx hb dL_law_1891 ?_
      refine r_iald X I h356 dL_law_1892 ?_
      refine lv_aload_n hx hb dL_law_1893 rfl (lv_at hl 3 rfl) ?_
      refine r_callX (Y := M_L_resold) (v := some (.int q192.1)) X I w_1411 my_L_resold (by omega) (t_L_resold (G := G) (d := d + 68) h357) rfl rfl hl.1 rfl (Nat.le_of_ble_eq_true rfl) hn le365 dL_law_1894 (fun H locs cells slots I hn1 hn2 => ?_)
      have I : s_I G q192.2 s H locs := I
      have hn : cells + σ0.2.1 ≤ q192.2.2.1 ∧ slots + σ0.2.2.1 ≤ q192.2.2.2.1 := ⟨hn1, hn2⟩
      refine lv_istore (lv' := [(5, .int q192.1), (0, .ref v0), (1, .ref v1), (2, .ref v2), (3, .ref v3), (4, .int v4)]) hx hb dL_law_1897 hl (by decide) rfl (fun ls hl => ?_)
      refine lv_aload_n hx hb dL_law_1899 rfl (lv_at hl 3 rfl) ?_
      refine lv_aload_n hx hb dL_law_1900 rfl (lv_at hl 1 rfl) ?_
      refine lv_iload hx hb dL_law_1901 (lv_at hl 5 rfl) ?_
      refine lv_iconst (v := 1) hx hb dL_law_1903 (by decide) ?_
      refine lv_iadd hx hb dL_law_1904 ?_
      refine r_iald X I h358 dL_law_1905 ?_
      refine lv_aload_n hx hb dL_law_1906 rfl (lv_at hl 1 rfl) ?_
      refine lv_iload hx hb dL_law_1907 (lv_at hl 5 rfl) ?_
      refine lv_iconst (v := 2) hx hb dL_law_1909 (by decide) ?_
      refine lv_iadd hx hb dL_law_1910 ?_
      refine r_iald X I h359 dL_law_1911 ?_
      refine lv_aload_n hx hb dL_law_1912 rfl (lv_at hl 1 rfl) ?_
      refine lv_iload hx hb dL_law_1913 (lv_at hl 5 rfl) ?_
      refine lv_iconst (v := 3) hx hb dL_law_1915 (by decide) ?_
      refine lv_iadd hx hb dL_law_1916 ?_
      refine r_iald X I h360 dL_law_1917 ?_
      refine r_callV (Y := M_X8_resold) (v := some (.int q196.1)) X I w_2278 my_X8_resold (by omega) (t_X8_resold (G := G) (d := d + 129) h361) (b_X8_resold h361) rfl rfl hl.1 rfl (Nat.le_of_ble_eq_true rfl) hn le364 dL_law_1918 (fun H locs cells slots I hn1 hn2 => ?_)
      have I : s_I G q196.2 s H locs := I
      have hn : cells + σ0.2.1 ≤ q196.2.2.1 ∧ slots + σ0.2.2.1 ≤ q196.2.2.2.1 := ⟨hn1, hn2⟩
      refine lv_istore (lv' := [(6, .int q196.1), (5, .int q192.1), (0, .ref v0), (1, .ref v1), (2, .ref v2), (3, .ref v3), (4, .int v4)]) hx hb dL_law_1921 hl (by decide) rfl (fun ls hl => ?_)
      refine lv_aload_n hx hb dL_law_1923 rfl (lv_at hl 4 rfl) ?_
      refine r_callV (Y := M_X8_thrown) (v := some (.int q197.1)) X I w_1671 my_X8_thrown (by omega) (t_X8_thrown (G := G) (d := d + 137) h362) (b_X8_thrown h362) rfl rfl hl.1 rfl (Nat.le_of_ble_eq_true rfl) hn le363 dL_law_1924 (fun H locs cells slots I hn1 hn2 => ?_)
      have I : s_I G q197.2 s H locs := I
      have hn : cells + σ0.2.1 ≤ q197.2.2.1 ∧ slots + σ0.2.2.1 ≤ q197.2.2.2.1 := ⟨hn1, hn2⟩
      refine lv_iload hx hb dL_law_1927 (lv_at hl 1 rfl) ?_
      rcases s_ite hf with ⟨c366, hf⟩ | ⟨c366, hf⟩
      · refine lv_icmp_eq (tgt := 1934) hx hb dL_law_1929 (by decide) (fun _ => ?_) (fun n => absurd c366 n)
        refine lv_iload hx hb dL_law_1934 (lv_at hl 1 rfl) ?_
        rcases s_ite hf with ⟨c367, hf⟩ | ⟨c367, hf⟩
        · refine lv_if_ne (tgt := 1951) hx hb dL_law_1936 (by decide) (fun n => absurd c367 n) (fun _ => ?_)
          obtain ⟨x198, h368, hf⟩ := s_bind hf
          refine lv_aload_n hx hb dL_law_1939 rfl (lv_at hl 5 rfl) ?_
          refine lv_iconst (v := 0) hx hb dL_law_1940 (by decide) ?_
          refine r_lald X I h368 dL_law_1941 ?_
          refine lv_iload hx hb dL_law_1942 (lv_at hl 0 rfl) ?_
          refine lv_i2l hx hb dL_law_1944 rfl ?_
          refine W.lcmp hx hb dL_law_1945 ?_
          rcases s_ite hf with ⟨c369, hf⟩ | ⟨c369, hf⟩
          · refine lv_if_eq (tgt := 1951) hx hb dL_law_1946 (by decide) (fun _ => ?_) (fun n => absurd c369 n)
            cases hf
            have k : s_V G (d + 139) M_L_law vs0 σ0 Y_L_law (1951, [.ref v0, .ref v1, .ref v2, .ref v3, .int v4], q197.2) (e_I r) := k
            exact k.2 p e s m below meth c _ _ _ _ _ X I hn.1 hn.2 (lv_sub hl [2, 3, 4, 5, 6] rfl)
          · refine lv_if_eq (tgt := 1951) hx hb dL_law_1946 (by decide) (fun n => absurd n c369) (fun _ => ?_)
            cases hf
            have k : _ = r := k
            subst k
            refine lv_iconst (v := 0) hx hb dL_law_1949 (by decide) ?_
            exact r_iret X I rfl rfl rfl hn dL_law_1950
        · refine lv_if_ne (tgt := 1951) hx hb dL_law_1936 (by decide) (fun _ => ?_) (fun n => absurd n c367)
          cases hf
          have k : s_V G (d + 139) M_L_law vs0 σ0 Y_L_law (1951, [.ref v0, .ref v1, .ref v2, .ref v3, .int v4], q197.2) (e_I r) := k
          exact k.2 p e s m below meth c _ _ _ _ _ X I hn.1 hn.2 (lv_sub hl [2, 3, 4, 5, 6] rfl)
      · refine lv_icmp_eq (tgt := 1934) hx hb dL_law_1929 (by decide) (fun n => absurd n c366) (fun _ => ?_)
        cases hf
        have k : _ = r := k
        subst k
        refine lv_iconst (v := 0) hx hb dL_law_1932 (by decide) ?_
        exact r_iret X I rfl rfl rfl hn dL_law_1933
    rcases s_ite hf with ⟨c370, hf⟩ | ⟨c370, hf⟩
    · refine lv_tableIn (tgt := 1954) (off := 1914) hx hb dL_law_40 (by rw [c370]; decide) (by rw [c370]; decide) (by rw [c370]; rfl) (by decide) ?_
      obtain ⟨x199, h371, hf⟩ := s_bind hf
      obtain ⟨x200, h372, hf⟩ := s_bind hf
      obtain ⟨x201, h373, hf⟩ := s_bind hf
      obtain ⟨q202, h374, hf⟩ := s_bind hf
      obtain ⟨x203, h375, hf⟩ := s_bind hf
      obtain ⟨x204, h376, hf⟩ := s_bind hf
      obtain ⟨x205, h377, hf⟩ := s_bind hf
      obtain ⟨q206, h378, hf⟩ := s_bind hf
      obtain ⟨q207, h379, hf⟩ := s_bind hf
      have le380 : s_le q207.2 (e_I r).2 := by
        refine s_lek hem_I ?_ k
        rcases s_ite hf with ⟨-, hf⟩ | ⟨-, hf⟩
        · rcases s_ite hf with ⟨-, hf⟩ | ⟨-, hf⟩
          · obtain ⟨x208, -, hf⟩ := s_bind hf
            rcases s_ite hf with ⟨-, hf⟩ | ⟨-, hf⟩
            · cases hf
              exact s_le.rf
            · cases hf
              exact s_le.rf
          · cases hf
            exact s_le.rf
        · cases hf
          exact s_le.rf
      have le381 := s_le.tr (l_X8_thrown h379) le380
      have le382 := s_le.tr (l_X8_forward h378) le381
      refine lv_aload_n hx hb dL_law_1954 rfl (lv_at hl 1 rfl) ?_
      refine lv_aload_n hx hb dL_law_1955 rfl (lv_at hl 0 rfl) ?_
      refine lv_iload hx hb dL_law_1956 (lv_at hl 4 rfl) ?_
      refine lv_iconst (v := 1) hx hb dL_law_1958 (by decide) ?_
      refine lv_iadd hx hb dL_law_1959 ?_
      refine r_iald X I h371 dL_law_1960 ?_
      refine lv_aload_n hx hb dL_law_1961 rfl (lv_at hl 0 rfl) ?_
      refine lv_iload hx hb dL_law_1962 (lv_at hl 4 rfl) ?_
      refine lv_iconst (v := 2) hx hb dL_law_1964 (by decide) ?_
      refine lv_iadd hx hb dL_law_1965 ?_
      refine r_iald X I h372 dL_law_1966 ?_
      refine lv_aload_n hx hb dL_law_1967 rfl (lv_at hl 0 rfl) ?_
      refine lv_iload hx hb dL_law_1968 (lv_at hl 4 rfl) ?_
      refine lv_iconst (v := 3) hx hb dL_law_1970 (by decide) ?_
      refine lv_iadd hx hb dL_law_1971 ?_
      refine r_iald X I h373 dL_law_1972 ?_
      refine lv_aload_n hx hb dL_law_1973 rfl (lv_at hl 3 rfl) ?_
      refine r_callX (Y := M_L_forward) (v := some (.int q202.1)) X I w_1423 my_L_forward (by omega) (t_L_forward (G := G) (d := d + 68) h374) rfl rfl hl.1 rfl (Nat.le_of_ble_eq_true rfl) hn le382 dL_law_1974 (fun H locs cells slots I hn1 hn2 => ?_)
      have I : s_I G q202.2 s H locs := I
      have hn : cells + σ0.2.1 ≤ q202.2.2.1 ∧ slots + σ0.2.2.1 ≤ q202.2.2.2.1 := ⟨hn1, hn2⟩
      refine lv_istore (lv' := [(5, .int q202.1), (0, .ref v0), (1, .ref v1), (2, .ref v2), (3, .ref v3), (4, .int v4)]) hx hb dL_law_1977 hl (by decide) rfl (fun ls hl => ?_)
      refine lv_aload_n hx hb dL_law_1979 rfl (lv_at hl 3 rfl) ?_
      refine lv_aload_n hx hb dL_law_1980 rfl (lv_at hl 1 rfl) ?_
      refine lv_iload hx hb dL_law_1981 (lv_at hl 5 rfl) ?_
      refine lv_iconst (v := 1) hx hb dL_law_1983 (by decide) ?_
      refine lv_iadd hx hb dL_law_1984 ?_
      refine r_iald X I h375 dL_law_1985 ?_
      refine lv_aload_n hx hb dL_law_1986 rfl (lv_at hl 1 rfl) ?_
      refine lv_iload hx hb dL_law_1987 (lv_at hl 5 rfl) ?_
      refine lv_iconst (v := 2) hx hb dL_law_1989 (by decide) ?_
      refine lv_iadd hx hb dL_law_1990 ?_
      refine r_iald X I h376 dL_law_1991 ?_
      refine lv_aload_n hx hb dL_law_1992 rfl (lv_at hl 1 rfl) ?_
      refine lv_iload hx hb dL_law_1993 (lv_at hl 5 rfl) ?_
      refine lv_iconst (v := 3) hx hb dL_law_1995 (by decide) ?_
      refine lv_iadd hx hb dL_law_1996 ?_
      refine r_iald X I h377 dL_law_1997 ?_
      refine r_callV (Y := M_X8_forward) (v := some (.int q206.1)) X I w_2286 my_X8_forward (by omega) (t_X8_forward (G := G) (d := d + 129) h378) (b_X8_forward h378) rfl rfl hl.1 rfl (Nat.le_of_ble_eq_true rfl) hn le381 dL_law_1998 (fun H locs cells slots I hn1 hn2 => ?_)
      have I : s_I G q206.2 s H locs := I
      have hn : cells + σ0.2.1 ≤ q206.2.2.1 ∧ slots + σ0.2.2.1 ≤ q206.2.2.2.1 := ⟨hn1, hn2⟩
      refine lv_istore (lv' := [(6, .int q206.1), (5, .int q202.1), (0, .ref v0), (1, .ref v1), (2, .ref v2), (3, .ref v3), (4, .int v4)]) hx hb dL_law_2001 hl (by decide) rfl (fun ls hl => ?_)
      refine lv_aload_n hx hb dL_law_2003 rfl (lv_at hl 4 rfl) ?_
      refine r_callV (Y := M_X8_thrown) (v := some (.int q207.1)) X I w_1671 my_X8_thrown (by omega) (t_X8_thrown (G := G) (d := d + 137) h379) (b_X8_thrown h379) rfl rfl hl.1 rfl (Nat.le_of_ble_eq_true rfl) hn le380 dL_law_2004 (fun H locs cells slots I hn1 hn2 => ?_)
      have I : s_I G q207.2 s H locs := I
      have hn : cells + σ0.2.1 ≤ q207.2.2.1 ∧ slots + σ0.2.2.1 ≤ q207.2.2.2.1 := ⟨hn1, hn2⟩
      refine lv_iload hx hb dL_law_2007 (lv_at hl 1 rfl) ?_
      rcases s_ite hf with ⟨c383, hf⟩ | ⟨c383, hf⟩
      · refine lv_icmp_eq (tgt := 2014) hx hb dL_law_2009 (by decide) (fun _ => ?_) (fun n => absurd c383 n)
        refine lv_iload hx hb dL_law_2014 (lv_at hl 1 rfl) ?_
        rcases s_ite hf with ⟨c384, hf⟩ | ⟨c384, hf⟩
        · refine lv_if_ne (tgt := 2031) hx hb dL_law_2016 (by decide) (fun n => absurd c384 n) (fun _ => ?_)
          obtain ⟨x208, h385, hf⟩ := s_bind hf
          refine lv_aload_n hx hb dL_law_2019 rfl (lv_at hl 5 rfl) ?_
          refine lv_iconst (v := 0) hx hb dL_law_2020 (by decide) ?_
          refine r_lald X I h385 dL_law_2021 ?_
          refine lv_iload hx hb dL_law_2022 (lv_at hl 0 rfl) ?_
          refine lv_i2l hx hb dL_law_2024 rfl ?_
          refine W.lcmp hx hb dL_law_2025 ?_
          rcases s_ite hf with ⟨c386, hf⟩ | ⟨c386, hf⟩
          · refine lv_if_eq (tgt := 2031) hx hb dL_law_2026 (by decide) (fun _ => ?_) (fun n => absurd c386 n)
            cases hf
            have k : s_V G (d + 139) M_L_law vs0 σ0 Y_L_law (2031, [.ref v0, .ref v1, .ref v2, .ref v3, .int v4], q207.2) (e_I r) := k
            exact k.2 p e s m below meth c _ _ _ _ _ X I hn.1 hn.2 (lv_sub hl [2, 3, 4, 5, 6] rfl)
          · refine lv_if_eq (tgt := 2031) hx hb dL_law_2026 (by decide) (fun n => absurd n c386) (fun _ => ?_)
            cases hf
            have k : _ = r := k
            subst k
            refine lv_iconst (v := 0) hx hb dL_law_2029 (by decide) ?_
            exact r_iret X I rfl rfl rfl hn dL_law_2030
        · refine lv_if_ne (tgt := 2031) hx hb dL_law_2016 (by decide) (fun _ => ?_) (fun n => absurd n c384)
          cases hf
          have k : s_V G (d + 139) M_L_law vs0 σ0 Y_L_law (2031, [.ref v0, .ref v1, .ref v2, .ref v3, .int v4], q207.2) (e_I r) := k
          exact k.2 p e s m below meth c _ _ _ _ _ X I hn.1 hn.2 (lv_sub hl [2, 3, 4, 5, 6] rfl)
      · refine lv_icmp_eq (tgt := 2014) hx hb dL_law_2009 (by decide) (fun n => absurd n c383) (fun _ => ?_)
        cases hf
        have k : _ = r := k
        subst k
        refine lv_iconst (v := 0) hx hb dL_law_2012 (by decide) ?_
        exact r_iret X I rfl rfl rfl hn dL_law_2013
    rcases s_ite hf with ⟨c387, hf⟩ | ⟨c387, hf⟩
    · refine lv_tableIn (tgt := 2034) (off := 1994) hx hb dL_law_40 (by rw [c387]; decide) (by rw [c387]; decide) (by rw [c387]; rfl) (by decide) ?_
      obtain ⟨x209, h388, hf⟩ := s_bind hf
      obtain ⟨q210, h389, hf⟩ := s_bind hf
      obtain ⟨x211, h390, hf⟩ := s_bind hf
      obtain ⟨q212, h391, hf⟩ := s_bind hf
      obtain ⟨q213, h392, hf⟩ := s_bind hf
      have le393 : s_le q213.2 (e_I r).2 := by
        refine s_lek hem_I ?_ k
        rcases s_ite hf with ⟨-, hf⟩ | ⟨-, hf⟩
        · rcases s_ite hf with ⟨-, hf⟩ | ⟨-, hf⟩
          · obtain ⟨x214, -, hf⟩ := s_bind hf
            rcases s_ite hf with ⟨-, hf⟩ | ⟨-, hf⟩
            · cases hf
              exact s_le.rf
            · cases hf
              exact s_le.rf
          · cases hf
            exact s_le.rf
        · cases hf
          exact s_le.rf
      have le394 := s_le.tr (l_X8_thrown h392) le393
      have le395 := s_le.tr (l_X8_truths h391) le394
      refine lv_aload_n hx hb dL_law_2034 rfl (lv_at hl 1 rfl) ?_
      refine lv_aload_n hx hb dL_law_2035 rfl (lv_at hl 0 rfl) ?_
      refine lv_iload hx hb dL_law_2036 (lv_at hl 4 rfl) ?_
      refine lv_iconst (v := 1) hx hb dL_law_2038 (by decide) ?_
      refine lv_iadd hx hb dL_law_2039 ?_
      refine r_iald X I h388 dL_law_2040 ?_
      refine lv_aload_n hx hb dL_law_2041 rfl (lv_at hl 3 rfl) ?_
      refine r_callX (Y := M_L_truths) (v := some (.int q210.1)) X I w_1433 my_L_truths (by omega) (t_L_truths (G := G) (d := d + 133) h389) rfl rfl hl.1 rfl (Nat.le_of_ble_eq_true rfl) hn le395 dL_law_2042 (fun H locs cells slots I hn1 hn2 => ?_)
      have I : s_I G q210.2 s H locs := I
      have hn : cells + σ0.2.1 ≤ q210.2.2.1 ∧ slots + σ0.2.2.1 ≤ q210.2.2.2.1 := ⟨hn1, hn2⟩
      refine lv_istore (lv' := [(5, .int q210.1), (0, .ref v0), (1, .ref v1), (2, .ref v2), (3, .ref v3), (4, .int v4)]) hx hb dL_law_2045 hl (by decide) rfl (fun ls hl => ?_)
      refine lv_aload_n hx hb dL_law_2047 rfl (lv_at hl 3 rfl) ?_
      refine lv_aload_n hx hb dL_law_2048 rfl (lv_at hl 1 rfl) ?_
      refine lv_iload hx hb dL_law_2049 (lv_at hl 5 rfl) ?_
      refine lv_iconst (v := 1) hx hb dL_law_2051 (by decide) ?_
      refine lv_iadd hx hb dL_law_2052 ?_
      refine r_iald X I h390 dL_law_2053 ?_
      refine r_callV (Y := M_X8_truths) (v := some (.int q212.1)) X I w_1965 my_X8_truths (by omega) (t_X8_truths (G := G) (d := d + 134) h391) (b_X8_truths h391) rfl rfl hl.1 rfl (Nat.le_of_ble_eq_true rfl) hn le394 dL_law_2054 (fun H locs cells slots I hn1 hn2 => ?_)
      have I : s_I G q212.2 s H locs := I
      have hn : cells + σ0.2.1 ≤ q212.2.2.1 ∧ slots + σ0.2.2.1 ≤ q212.2.2.2.1 := ⟨hn1, hn2⟩
      refine lv_istore (lv' := [(6, .int q212.1), (5, .int q210.1), (0, .ref v0), (1, .ref v1), (2, .ref v2), (3, .ref v3), (4, .int v4)]) hx hb dL_law_2057 hl (by decide) rfl (fun ls hl => ?_)
      refine lv_aload_n hx hb dL_law_2059 rfl (lv_at hl 4 rfl) ?_
      refine r_callV (Y := M_X8_thrown) (v := some (.int q213.1)) X I w_1671 my_X8_thrown (by omega) (t_X8_thrown (G := G) (d := d + 137) h392) (b_X8_thrown h392) rfl rfl hl.1 rfl (Nat.le_of_ble_eq_true rfl) hn le393 dL_law_2060 (fun H locs cells slots I hn1 hn2 => ?_)
      have I : s_I G q213.2 s H locs := I
      have hn : cells + σ0.2.1 ≤ q213.2.2.1 ∧ slots + σ0.2.2.1 ≤ q213.2.2.2.1 := ⟨hn1, hn2⟩
      refine lv_iload hx hb dL_law_2063 (lv_at hl 1 rfl) ?_
      rcases s_ite hf with ⟨c396, hf⟩ | ⟨c396, hf⟩
      · refine lv_icmp_eq (tgt := 2070) hx hb dL_law_2065 (by decide) (fun _ => ?_) (fun n => absurd c396 n)
        refine lv_iload hx hb dL_law_2070 (lv_at hl 1 rfl) ?_
        rcases s_ite hf with ⟨c397, hf⟩ | ⟨c397, hf⟩
        · refine lv_if_ne (tgt := 2087) hx hb dL_law_2072 (by decide) (fun n => absurd c397 n) (fun _ => ?_)
          obtain ⟨x214, h398, hf⟩ := s_bind hf
          refine lv_aload_n hx hb dL_law_2075 rfl (lv_at hl 5 rfl) ?_
          refine lv_iconst (v := 0) hx hb dL_law_2076 (by decide) ?_
          refine r_lald X I h398 dL_law_2077 ?_
          refine lv_iload hx hb dL_law_2078 (lv_at hl 0 rfl) ?_
          refine lv_i2l hx hb dL_law_2080 rfl ?_
          refine W.lcmp hx hb dL_law_2081 ?_
          rcases s_ite hf with ⟨c399, hf⟩ | ⟨c399, hf⟩
          · refine lv_if_eq (tgt := 2087) hx hb dL_law_2082 (by decide) (fun _ => ?_) (fun n => absurd c399 n)
            cases hf
            have k : s_V G (d + 139) M_L_law vs0 σ0 Y_L_law (2087, [.ref v0, .ref v1, .ref v2, .ref v3, .int v4], q213.2) (e_I r) := k
            exact k.2 p e s m below meth c _ _ _ _ _ X I hn.1 hn.2 (lv_sub hl [2, 3, 4, 5, 6] rfl)
          · refine lv_if_eq (tgt := 2087) hx hb dL_law_2082 (by decide) (fun n => absurd n c399) (fun _ => ?_)
            cases hf
            have k : _ = r := k
            subst k
            refine lv_iconst (v := 0) hx hb dL_law_2085 (by decide) ?_
            exact r_iret X I rfl rfl rfl hn dL_law_2086
        · refine lv_if_ne (tgt := 2087) hx hb dL_law_2072 (by decide) (fun _ => ?_) (fun n => absurd n c397)
          cases hf
          have k : s_V G (d + 139) M_L_law vs0 σ0 Y_L_law (2087, [.ref v0, .ref v1, .ref v2, .ref v3, .int v4], q213.2) (e_I r) := k
          exact k.2 p e s m below meth c _ _ _ _ _ X I hn.1 hn.2 (lv_sub hl [2, 3, 4, 5, 6] rfl)
      · refine lv_icmp_eq (tgt := 2070) hx hb dL_law_2065 (by decide) (fun n => absurd n c396) (fun _ => ?_)
        cases hf
        have k : _ = r := k
        subst k
        refine lv_iconst (v := 0) hx hb dL_law_2068 (by decide) ?_
        exact r_iret X I rfl rfl rfl hn dL_law_2069
    rcases s_ite hf with ⟨c400, hf⟩ | ⟨c400, hf⟩
    · refine lv_tableIn (tgt := 2090) (off := 2050) hx hb dL_law_40 (by rw [c400]; decide) (by rw [c400]; decide) (by rw [c400]; rfl) (by decide) ?_
      obtain ⟨x215, h401, hf⟩ := s_bind hf
      obtain ⟨x216, h402, hf⟩ := s_bind hf
      obtain ⟨q217, h403, hf⟩ := s_bind hf
      obtain ⟨x218, h404, hf⟩ := s_bind hf
      obtain ⟨x219, h405, hf⟩ := s_bind hf
      obtain ⟨q220, h406, hf⟩ := s_bind hf
      obtain ⟨q221, h407, hf⟩ := s_bind hf
      have le408 : s_le q221.2 (e_I r).2 := by
        refine s_lek hem_I ?_ k
        rcases s_ite hf with ⟨-, hf⟩ | ⟨-, hf⟩
        · rcases s_ite hf with ⟨-, hf⟩ | ⟨-, hf⟩
          · obtain ⟨x222, -, hf⟩ := s_bind hf
            rcases s_ite hf with ⟨-, hf⟩ | ⟨-, hf⟩
            · cases hf
              exact s_le.rf
            · cases hf
              exact s_le.rf
          · cases hf
            exact s_le.rf
        · cases hf
          exact s_le.rf
      have le409 := s_le.tr (l_X8_thrown h407) le408
      have le410 := s_le.tr (l_X8_agree h406) le409
      refine lv_aload_n hx hb dL_law_2090 rfl (lv_at hl 1 rfl) ?_
      refine lv_aload_n hx hb dL_law_2091 rfl (lv_at hl 0 rfl) ?_
      refine lv_iload hx hb dL_law_2092 (lv_at hl 4 rfl) ?_
      refine lv_iconst (v := 1) hx hb dL_law_2094 (by decide) ?_
      refine lv_iadd hx hb dL_law_2095 ?_
      refine r_iald X I h401 dL_law_2096 ?_
      refine lv_aload_n hx hb dL_law_2097 rfl (lv_at hl 0 rfl) ?_
      refine lv_iload hx hb dL_law_2098 (lv_at hl 4 rfl) ?_
      refine lv_iconst (v := 2) hx hb dL_law_2100 (by decide) ?_
      refine lv_iadd hx hb dL_law_2101 ?_
      refine r_iald X I h402 dL_law_2102 ?_
      refine lv_aload_n hx hb dL_law_2103 rfl (lv_at hl 3 rfl) ?_
      refine r_callX (Y := M_L_agree) (v := some (.int q217.1)) X I w_1445 my_L_agree (by omega) (t_L_agree (G := G) (d := d + 131) h403) rfl rfl hl.1 rfl (Nat.le_of_ble_eq_true rfl) hn le410 dL_law_2104 (fun H locs cells slots I hn1 hn2 => ?_)
      have I : s_I G q217.2 s H locs := I
      have hn : cells + σ0.2.1 ≤ q217.2.2.1 ∧ slots + σ0.2.2.1 ≤ q217.2.2.2.1 := ⟨hn1, hn2⟩
      refine lv_istore (lv' := [(5, .int q217.1), (0, .ref v0), (1, .ref v1), (2, .ref v2), (3, .ref v3), (4, .int v4)]) hx hb dL_law_2107 hl (by decide) rfl (fun ls hl => ?_)
      refine lv_aload_n hx hb dL_law_2109 rfl (lv_at hl 3 rfl) ?_
      refine lv_aload_n hx hb dL_law_2110 rfl (lv_at hl 1 rfl) ?_
      refine lv_iload hx hb dL_law_2111 (lv_at hl 5 rfl) ?_
      refine lv_iconst (v := 1) hx hb dL_law_2113 (by decide) ?_
      refine lv_iadd hx hb dL_law_2114 ?_
      refine r_iald X I h404 dL_law_2115 ?_
      refine lv_aload_n hx hb dL_law_2116 rfl (lv_at hl 1 rfl) ?_
      refine lv_iload hx hb dL_law_2117 (lv_at hl 5 rfl) ?_
      refine lv_iconst (v := 2) hx hb dL_law_2119 (by decide) ?_
      refine lv_iadd hx hb dL_law_2120 ?_
      refine r_iald X I h405 dL_law_2121 ?_
      refine r_callV (Y := M_X8_agree) (v := some (.int q220.1)) X I w_2148 my_X8_agree (by omega) (t_X8_agree (G := G) (d := d + 132) h406) (b_X8_agree h406) rfl rfl hl.1 rfl (Nat.le_of_ble_eq_true rfl) hn le409 dL_law_2122 (fun H locs cells slots I hn1 hn2 => ?_)
      have I : s_I G q220.2 s H locs := I
      have hn : cells + σ0.2.1 ≤ q220.2.2.1 ∧ slots + σ0.2.2.1 ≤ q220.2.2.2.1 := ⟨hn1, hn2⟩
      refine lv_istore (lv' := [(6, .int q220.1), (5, .int q217.1), (0, .ref v0), (1, .ref v1), (2, .ref v2), (3, .ref v3), (4, .int v4)]) hx hb dL_law_2125 hl (by decide) rfl (fun ls hl => ?_)
      refine lv_aload_n hx hb dL_law_2127 rfl (lv_at hl 4 rfl) ?_
      refine r_callV (Y := M_X8_thrown) (v := some (.int q221.1)) X I w_1671 my_X8_thrown (by omega) (t_X8_thrown (G := G) (d := d + 137) h407) (b_X8_thrown h407) rfl rfl hl.1 rfl (Nat.le_of_ble_eq_true rfl) hn le408 dL_law_2128 (fun H locs cells slots I hn1 hn2 => ?_)
      have I : s_I G q221.2 s H locs := I
      have hn : cells + σ0.2.1 ≤ q221.2.2.1 ∧ slots + σ0.2.2.1 ≤ q221.2.2.2.1 := ⟨hn1, hn2⟩
      refine lv_iload hx hb dL_law_2131 (lv_at hl 1 rfl) ?_
      rcases s_ite hf with ⟨c411, hf⟩ | ⟨c411, hf⟩
      · refine lv_icmp_eq (tgt := 2138) hx hb dL_law_2133 (by decide) (fun _ => ?_) (fun n => absurd c411 n)
        refine lv_iload hx hb dL_law_2138 (lv_at hl 1 rfl) ?_
        rcases s_ite hf with ⟨c412, hf⟩ | ⟨c412, hf⟩
        · refine lv_if_ne (tgt := 2155) hx hb dL_law_2140 (by decide) (fun n => absurd c412 n) (fun _ => ?_)
          obtain ⟨x222, h413, hf⟩ := s_bind hf
          refine lv_aload_n hx hb dL_law_2143 rfl (lv_at hl 5 rfl) ?_
          refine lv_iconst (v := 0) hx hb dL_law_2144 (by decide) ?_
          refine r_lald X I h413 dL_law_2145 ?_
          refine lv_iload hx hb dL_law_2146 (lv_at hl 0 rfl) ?_
          refine lv_i2l hx hb dL_law_2148 rfl ?_
          refine W.lcmp hx hb dL_law_2149 ?_
          rcases s_ite hf with ⟨c414, hf⟩ | ⟨c414, hf⟩
          · refine lv_if_eq (tgt := 2155) hx hb dL_law_2150 (by decide) (fun _ => ?_) (fun n => absurd c414 n)
            cases hf
            have k : s_V G (d + 139) M_L_law vs0 σ0 Y_L_law (2155, [.ref v0, .ref v1, .ref v2, .ref v3, .int v4], q221.2) (e_I r) := k
            exact k.2 p e s m below meth c _ _ _ _ _ X I hn.1 hn.2 (lv_sub hl [2, 3, 4, 5, 6] rfl)
          · refine lv_if_eq (tgt := 2155) hx hb dL_law_2150 (by decide) (fun n => absurd n c414) (fun _ => ?_)
            cases hf
            have k : _ = r := k
            subst k
            refine lv_iconst (v := 0) hx hb dL_law_2153 (by decide) ?_
            exact r_iret X I rfl rfl rfl hn dL_law_2154
        · refine lv_if_ne (tgt := 2155) hx hb dL_law_2140 (by decide) (fun _ => ?_) (fun n => absurd n c412)
          cases hf
          have k : s_V G (d + 139) M_L_law vs0 σ0 Y_L_law (2155, [.ref v0, .ref v1, .ref v2, .ref v3, .int v4], q221.2) (e_I r) := k
          exact k.2 p e s m below meth c _ _ _ _ _ X I hn.1 hn.2 (lv_sub hl [2, 3, 4, 5, 6] rfl)
      · refine lv_icmp_eq (tgt := 2138) hx hb dL_law_2133 (by decide) (fun n => absurd n c411) (fun _ => ?_)
        cases hf
        have k : _ = r := k
        subst k
        refine lv_iconst (v := 0) hx hb dL_law_2136 (by decide) ?_
        exact r_iret X I rfl rfl rfl hn dL_law_2137
    rcases s_ite hf with ⟨c415, hf⟩ | ⟨c415, hf⟩
    · refine lv_tableIn (tgt := 2158) (off := 2118) hx hb dL_law_40 (by rw [c415]; decide) (by rw [c415]; decide) (by rw [c415]; rfl) (by decide) ?_
      obtain ⟨x223, h416, hf⟩ := s_bind hf
      obtain ⟨q224, h417, hf⟩ := s_bind hf
      obtain ⟨x225, h418, hf⟩ := s_bind hf
      obtain ⟨q226, h419, hf⟩ := s_bind hf
      obtain ⟨q227, h420, hf⟩ := s_bind hf
      have le421 : s_le q227.2 (e_I r).2 := by
        refine s_lek hem_I ?_ k
        rcases s_ite hf with ⟨-, hf⟩ | ⟨-, hf⟩
        · rcases s_ite hf with ⟨-, hf⟩ | ⟨-, hf⟩
          · obtain ⟨x228, -, hf⟩ := s_bind hf
            rcases s_ite hf with ⟨-, hf⟩ | ⟨-, hf⟩
            · cases hf
              exact s_le.rf
            · cases hf
              exact s_le.rf
          · cases hf
            exact s_le.rf
        · cases hf
          exact s_le.rf
      have le422 := s_le.tr (l_X8_thrown h420) le421
      have le423 := s_le.tr (l_X8_withdraw h419) le422
      refine lv_aload_n hx hb dL_law_2158 rfl (lv_at hl 1 rfl) ?_
      refine lv_aload_n hx hb dL_law_2159 rfl (lv_at hl 0 rfl) ?_
      refine lv_iload hx hb dL_law_2160 (lv_at hl 4 rfl) ?_
      refine lv_iconst (v := 1) hx hb dL_law_2162 (by decide) ?_
      refine lv_iadd hx hb dL_law_2163 ?_
      refine r_iald X I h416 dL_law_2164 ?_
      refine lv_aload_n hx hb dL_law_2165 rfl (lv_at hl 3 rfl) ?_
      refine r_callX (Y := M_L_withdraw) (v := some (.int q224.1)) X I w_1460 my_L_withdraw (by omega) (t_L_withdraw (G := G) (d := d + 132) h417) rfl rfl hl.1 rfl (Nat.le_of_ble_eq_true rfl) hn le423 dL_law_2166 (fun H locs cells slots I hn1 hn2 => ?_)
      have I : s_I G q224.2 s H locs := I
      have hn : cells + σ0.2.1 ≤ q224.2.2.1 ∧ slots + σ0.2.2.1 ≤ q224.2.2.2.1 := ⟨hn1, hn2⟩
      refine lv_istore (lv' := [(5, .int q224.1), (0, .ref v0), (1, .ref v1), (2, .ref v2), (3, .ref v3), (4, .int v4)]) hx hb dL_law_2169 hl (by decide) rfl (fun ls hl => ?_)
      refine lv_aload_n hx hb dL_law_2171 rfl (lv_at hl 3 rfl) ?_
      refine lv_aload_n hx hb dL_law_2172 rfl (lv_at hl 1 rfl) ?_
      refine lv_iload hx hb dL_law_2173 (lv_at hl 5 rfl) ?_
      refine lv_iconst (v := 1) hx hb dL_law_2175 (by decide) ?_
      refine lv_iadd hx hb dL_law_2176 ?_
      refine r_iald X I h418 dL_law_2177 ?_
      refine r_callV (Y := M_X8_withdraw) (v := some (.int q226.1)) X I w_2160 my_X8_withdraw (by omega) (t_X8_withdraw (G := G) (d := d + 133) h419) (b_X8_withdraw h419) rfl rfl hl.1 rfl (Nat.le_of_ble_eq_true rfl) hn le422 dL_law_2178 (fun H locs cells slots I hn1 hn2 => ?_)
      have I : s_I G q226.2 s H locs := I
      have hn : cells + σ0.2.1 ≤ q226.2.2.1 ∧ slots + σ0.2.2.1 ≤ q226.2.2.2.1 := ⟨hn1, hn2⟩
      refine lv_istore (lv' := [(6, .int q226.1), (5, .int q224.1), (0, .ref v0), (1, .ref v1), (2, .ref v2), (3, .ref v3), (4, .int v4)]) hx hb dL_law_2181 hl (by decide) rfl (fun ls hl => ?_)
      refine lv_aload_n hx hb dL_law_2183 rfl (lv_at hl 4 rfl) ?_
      refine r_callV (Y := M_X8_thrown) (v := some (.int q227.1)) X I w_1671 my_X8_thrown (by omega) (t_X8_thrown (G := G) (d := d + 137) h420) (b_X8_thrown h420) rfl rfl hl.1 rfl (Nat.le_of_ble_eq_true rfl) hn le421 dL_law_2184 (fun H locs cells slots I hn1 hn2 => ?_)
      have I : s_I G q227.2 s H locs := I
      have hn : cells + σ0.2.1 ≤ q227.2.2.1 ∧ slots + σ0.2.2.1 ≤ q227.2.2.2.1 := ⟨hn1, hn2⟩
      refine lv_iload hx hb dL_law_2187 (lv_at hl 1 rfl) ?_
      rcases s_ite hf with ⟨c424, hf⟩ | ⟨c424, hf⟩
      · refine lv_icmp_eq (tgt := 2194) hx hb dL_law_2189 (by decide) (fun _ => ?_) (fun n => absurd c424 n)
        refine lv_iload hx hb dL_law_2194 (lv_at hl 1 rfl) ?_
        rcases s_ite hf with ⟨c425, hf⟩ | ⟨c425, hf⟩
        · refine lv_if_ne (tgt := 2211) hx hb dL_law_2196 (by decide) (fun n => absurd c425 n) (fun _ => ?_)
          obtain ⟨x228, h426, hf⟩ := s_bind hf
          refine lv_aload_n hx hb dL_law_2199 rfl (lv_at hl 5 rfl) ?_
          refine lv_iconst (v := 0) hx hb dL_law_2200 (by decide) ?_
          refine r_lald X I h426 dL_law_2201 ?_
          refine lv_iload hx hb dL_law_2202 (lv_at hl 0 rfl) ?_
          refine lv_i2l hx hb dL_law_2204 rfl ?_
          refine W.lcmp hx hb dL_law_2205 ?_
          rcases s_ite hf with ⟨c427, hf⟩ | ⟨c427, hf⟩
          · refine lv_if_eq (tgt := 2211) hx hb dL_law_2206 (by decide) (fun _ => ?_) (fun n => absurd c427 n)
            cases hf
            have k : s_V G (d + 139) M_L_law vs0 σ0 Y_L_law (2211, [.ref v0, .ref v1, .ref v2, .ref v3, .int v4], q227.2) (e_I r) := k
            exact k.2 p e s m below meth c _ _ _ _ _ X I hn.1 hn.2 (lv_sub hl [2, 3, 4, 5, 6] rfl)
          · refine lv_if_eq (tgt := 2211) hx hb dL_law_2206 (by decide) (fun n => absurd n c427) (fun _ => ?_)
            cases hf
            have k : _ = r := k
            subst k
            refine lv_iconst (v := 0) hx hb dL_law_2209 (by decide) ?_
            exact r_iret X I rfl rfl rfl hn dL_law_2210
        · refine lv_if_ne (tgt := 2211) hx hb dL_law_2196 (by decide) (fun _ => ?_) (fun n => absurd n c425)
          cases hf
          have k : s_V G (d + 139) M_L_law vs0 σ0 Y_L_law (2211, [.ref v0, .ref v1, .ref v2, .ref v3, .int v4], q227.2) (e_I r) := k
          exact k.2 p e s m below meth c _ _ _ _ _ X I hn.1 hn.2 (lv_sub hl [2, 3, 4, 5, 6] rfl)
      · refine lv_icmp_eq (tgt := 2194) hx hb dL_law_2189 (by decide) (fun n => absurd n c424) (fun _ => ?_)
        cases hf
        have k : _ = r := k
        subst k
        refine lv_iconst (v := 0) hx hb dL_law_2192 (by decide) ?_
        exact r_iret X I rfl rfl rfl hn dL_law_2193
    rcases s_ite hf with ⟨c428, hf⟩ | ⟨c428, hf⟩
    · refine lv_tableIn (tgt := 2214) (off := 2174) hx hb dL_law_40 (by rw [c428]; decide) (by rw [c428]; decide) (by rw [c428]; rfl) (by decide) ?_
      obtain ⟨x229, h429, hf⟩ := s_bind hf
      obtain ⟨q230, h430, hf⟩ := s_bind hf
      obtain ⟨x231, h431, hf⟩ := s_bind hf
      obtain ⟨q232, h432, hf⟩ := s_bind hf
      obtain ⟨q233, h433, hf⟩ := s_bind hf
      have le434 : s_le q233.2 (e_I r).2 := by
        refine s_lek hem_I ?_ k
        rcases s_ite hf with ⟨-, hf⟩ | ⟨-, hf⟩
        · rcases s_ite hf with ⟨-, hf⟩ | ⟨-, hf⟩
          · obtain ⟨x234, -, hf⟩ := s_bind hf
            rcases s_ite hf with ⟨-, hf⟩ | ⟨-, hf⟩
            · cases hf
              exact s_le.rf
            · cases hf
              exact s_le.rf
          · cases hf
            exact s_le.rf
        · cases hf
          exact s_le.rf
      have le435 := s_le.tr (l_X8_thrown h433) le434
      have le436 := s_le.tr (l_X8_idle h432) le435
      refine lv_aload_n hx hb dL_law_2214 rfl (lv_at hl 1 rfl) ?_
      refine lv_aload_n hx hb dL_law_2215 rfl (lv_at hl 0 rfl) ?_
      refine lv_iload hx hb dL_law_2216 (lv_at hl 4 rfl) ?_
      refine lv_iconst (v := 1) hx hb dL_law_2218 (by decide) ?_
      refine lv_iadd hx hb dL_law_2219 ?_
      refine r_iald X I h429 dL_law_2220 ?_
      refine lv_aload_n hx hb dL_law_2221 rfl (lv_at hl 3 rfl) ?_
      refine r_callX (Y := M_L_idle) (v := some (.int q230.1)) X I w_1493 my_L_idle (by omega) (t_L_idle (G := G) (d := d + 130) h430) rfl rfl hl.1 rfl (Nat.le_of_ble_eq_true rfl) hn le436 dL_law_2222 (fun H locs cells slots I hn1 hn2 => ?_)
      have I : s_I G q230.2 s H locs := I
      have hn : cells + σ0.2.1 ≤ q230.2.2.1 ∧ slots + σ0.2.2.1 ≤ q230.2.2.2.1 := ⟨hn1, hn2⟩
      refine lv_istore (lv' := [(5, .int q230.1), (0, .ref v0), (1, .ref v1), (2, .ref v2), (3, .ref v3), (4, .int v4)]) hx hb dL_law_2225 hl (by decide) rfl (fun ls hl => ?_)
      refine lv_aload_n hx hb dL_law_2227 rfl (lv_at hl 3 rfl) ?_
      refine lv_aload_n hx hb dL_law_2228 rfl (lv_at hl 1 rfl) ?_
      refine lv_iload hx hb dL_law_2229 (lv_at hl 5 rfl) ?_
      refine lv_iconst (v := 1) hx hb dL_law_2231 (by decide) ?_
      refine lv_iadd hx hb dL_law_2232 ?_
      refine r_iald X I h431 dL_law_2233 ?_
      refine r_callV (Y := M_X8_idle) (v := some (.int q232.1)) X I w_2152 my_X8_idle (by omega) (t_X8_idle (G := G) (d := d + 132) h432) (b_X8_idle h432) rfl rfl hl.1 rfl (Nat.le_of_ble_eq_true rfl) hn le435 dL_law_2234 (fun H locs cells slots I hn1 hn2 => ?_)
      have I : s_I G q232.2 s H locs := I
      have hn : cells + σ0.2.1 ≤ q232.2.2.1 ∧ slots + σ0.2.2.1 ≤ q232.2.2.2.1 := ⟨hn1, hn2⟩
      refine lv_istore (lv' := [(6, .int q232.1), (5, .int q230.1), (0, .ref v0), (1, .ref v1), (2, .ref v2), (3, .ref v3), (4, .int v4)]) hx hb dL_law_2237 hl (by decide) rfl (fun ls hl => ?_)
      refine lv_aload_n hx hb dL_law_2239 rfl (lv_at hl 4 rfl) ?_
      refine r_callV (Y := M_X8_thrown) (v := some (.int q233.1)) X I w_1671 my_X8_thrown (by omega) (t_X8_thrown (G := G) (d := d + 137) h433) (b_X8_thrown h433) rfl rfl hl.1 rfl (Nat.le_of_ble_eq_true rfl) hn le434 dL_law_2240 (fun H locs cells slots I hn1 hn2 => ?_)
      have I : s_I G q233.2 s H locs := I
      have hn : cells + σ0.2.1 ≤ q233.2.2.1 ∧ slots + σ0.2.2.1 ≤ q233.2.2.2.1 := ⟨hn1, hn2⟩
      refine lv_iload hx hb dL_law_2243 (lv_at hl 1 rfl) ?_
      rcases s_ite hf with ⟨c437, hf⟩ | ⟨c437, hf⟩
      · refine lv_icmp_eq (tgt := 2250) hx hb dL_law_2245 (by decide) (fun _ => ?_) (fun n => absurd c437 n)
        refine lv_iload hx hb dL_law_2250 (lv_at hl 1 rfl) ?_
        rcases s_ite hf with ⟨c438, hf⟩ | ⟨c438, hf⟩
        · refine lv_if_ne (tgt := 2267) hx hb dL_law_2252 (by decide) (fun n => absurd c438 n) (fun _ => ?_)
          obtain ⟨x234, h439, hf⟩ := s_bind hf
          refine lv_aload_n hx hb dL_law_2255 rfl (lv_at hl 5 rfl) ?_
          refine lv_iconst (v := 0) hx hb dL_law_2256 (by decide) ?_
          refine r_lald X I h439 dL_law_2257 ?_
          refine lv_iload hx hb dL_law_2258 (lv_at hl 0 rfl) ?_
          refine lv_i2l hx hb dL_law_2260 rfl ?_
          refine W.lcmp hx hb dL_law_2261 ?_
          rcases s_ite hf with ⟨c440, hf⟩ | ⟨c440, hf⟩
          · refine lv_if_eq (tgt := 2267) hx hb dL_law_2262 (by decide) (fun _ => ?_) (fun n => absurd c440 n)
            cases hf
            have k : s_V G (d + 139) M_L_law vs0 σ0 Y_L_law (2267, [.ref v0, .ref v1, .ref v2, .ref v3, .int v4], q233.2) (e_I r) := k
            exact k.2 p e s m below meth c _ _ _ _ _ X I hn.1 hn.2 (lv_sub hl [2, 3, 4, 5, 6] rfl)
          · refine lv_if_eq (tgt := 2267) hx hb dL_law_2262 (by decide) (fun n => absurd n c440) (fun _ => ?_)
            cases hf
            have k : _ = r := k
            subst k
            refine lv_iconst (v := 0) hx hb dL_law_2265 (by decide) ?_
            exact r_iret X I rfl rfl rfl hn dL_law_2266
        · refine lv_if_ne (tgt := 2267) hx hb dL_law_2252 (by decide) (fun _ => ?_) (fun n => absurd n c438)
          cases hf
          have k : s_V G (d + 139) M_L_law vs0 σ0 Y_L_law (2267, [.ref v0, .ref v1, .ref v2, .ref v3, .int v4], q233.2) (e_I r) := k
          exact k.2 p e s m below meth c _ _ _ _ _ X I hn.1 hn.2 (lv_sub hl [2, 3, 4, 5, 6] rfl)
      · refine lv_icmp_eq (tgt := 2250) hx hb dL_law_2245 (by decide) (fun n => absurd n c437) (fun _ => ?_)
        cases hf
        have k : _ = r := k
        subst k
        refine lv_iconst (v := 0) hx hb dL_law_2248 (by decide) ?_
        exact r_iret X I rfl rfl rfl hn dL_law_2249
    rcases s_ite hf with ⟨c441, hf⟩ | ⟨c441, hf⟩
    · refine lv_tableIn (tgt := 2270) (off := 2230) hx hb dL_law_40 (by rw [c441]; decide) (by rw [c441]; decide) (by rw [c441]; rfl) (by decide) ?_
      obtain ⟨x235, h442, hf⟩ := s_bind hf
      obtain ⟨q236, h443, hf⟩ := s_bind hf
      obtain ⟨x237, h444, hf⟩ := s_bind hf
      obtain ⟨q238, h445, hf⟩ := s_bind hf
      obtain ⟨q239, h446, hf⟩ := s_bind hf
      have le447 : s_le q239.2 (e_I r).2 := by
        refine s_lek hem_I ?_ k
        rcases s_ite hf with ⟨-, hf⟩ | ⟨-, hf⟩
        · rcases s_ite hf with ⟨-, hf⟩ | ⟨-, hf⟩
          · obtain ⟨x240, -, hf⟩ := s_bind hf
            rcases s_ite hf with ⟨-, hf⟩ | ⟨-, hf⟩
            · cases hf
              exact s_le.rf
            · cases hf
              exact s_le.rf
          · cases hf
            exact s_le.rf
        · cases hf
          exact s_le.rf
      have le448 := s_le.tr (l_X8_thrown h446) le447
      have le449 := s_le.tr (l_X8_alike h445) le448
      refine lv_aload_n hx hb dL_law_2270 rfl (lv_at hl 1 rfl) ?_
      refine lv_aload_n hx hb dL_law_2271 rfl (lv_at hl 0 rfl) ?_
      refine lv_iload hx hb dL_law_2272 (lv_at hl 4 rfl) ?_
      refine lv_iconst (v := 1) hx hb dL_law_2274 (by decide) ?_
      refine lv_iadd hx hb dL_law_2275 ?_
      refine r_iald X I h442 dL_law_2276 ?_
      refine lv_aload_n hx hb dL_law_2277 rfl (lv_at hl 3 rfl) ?_
      refine r_callX (Y := M_L_alike) (v := some (.int q236.1)) X I w_1505 my_L_alike (by omega) (t_L_alike (G := G) (d := d + 132) h443) rfl rfl hl.1 rfl (Nat.le_of_ble_eq_true rfl) hn le449 dL_law_2278 (fun H locs cells slots I hn1 hn2 => ?_)
      have I : s_I G q236.2 s H locs := I
      have hn : cells + σ0.2.1 ≤ q236.2.2.1 ∧ slots + σ0.2.2.1 ≤ q236.2.2.2.1 := ⟨hn1, hn2⟩
      refine lv_istore (lv' := [(5, .int q236.1), (0, .ref v0), (1, .ref v1), (2, .ref v2), (3, .ref v3), (4, .int v4)]) hx hb dL_law_2281 hl (by decide) rfl (fun ls hl => ?_)
      refine lv_aload_n hx hb dL_law_2283 rfl (lv_at hl 3 rfl) ?_
      refine lv_aload_n hx hb dL_law_2284 rfl (lv_at hl 1 rfl) ?_
      refine lv_iload hx hb dL_law_2285 (lv_at hl 5 rfl) ?_
      refine lv_iconst (v := 1) hx hb dL_law_2287 (by decide) ?_
      refine lv_iadd hx hb dL_law_2288 ?_
      refine r_iald X I h444 dL_law_2289 ?_
      refine r_callV (Y := M_X8_alike) (v := some (.int q238.1)) X I w_2156 my_X8_alike (by omega) (t_X8_alike (G := G) (d := d + 134) h445) (b_X8_alike h445) rfl rfl hl.1 rfl (Nat.le_of_ble_eq_true rfl) hn le448 dL_law_2290 (fun H locs cells slots I hn1 hn2 => ?_)
      have I : s_I G q238.2 s H locs := I
      have hn : cells + σ0.2.1 ≤ q238.2.2.1 ∧ slots + σ0.2.2.1 ≤ q238.2.2.2.1 := ⟨hn1, hn2⟩
      refine lv_istore (lv' := [(6, .int q238.1), (5, .int q236.1), (0, .ref v0), (1, .ref v1), (2, .ref v2), (3, .ref v3), (4, .int v4)]) hx hb dL_law_2293 hl (by decide) rfl (fun ls hl => ?_)
      refine lv_aload_n hx hb dL_law_2295 rfl (lv_at hl 4 rfl) ?_
      refine r_callV (Y := M_X8_thrown) (v := some (.int q239.1)) X I w_1671 my_X8_thrown (by omega) (t_X8_thrown (G := G) (d := d + 137) h446) (b_X8_thrown h446) rfl rfl hl.1 rfl (Nat.le_of_ble_eq_true rfl) hn le447 dL_law_2296 (fun H locs cells slots I hn1 hn2 => ?_)
      have I : s_I G q239.2 s H locs := I
      have hn : cells + σ0.2.1 ≤ q239.2.2.1 ∧ slots + σ0.2.2.1 ≤ q239.2.2.2.1 := ⟨hn1, hn2⟩
      refine lv_iload hx hb dL_law_2299 (lv_at hl 1 rfl) ?_
      rcases s_ite hf with ⟨c450, hf⟩ | ⟨c450, hf⟩
      · refine lv_icmp_eq (tgt := 2306) hx hb dL_law_2301 (by decide) (fun _ => ?_) (fun n => absurd c450 n)
        refine lv_iload hx hb dL_law_2306 (lv_at hl 1 rfl) ?_
        rcases s_ite hf with ⟨c451, hf⟩ | ⟨c451, hf⟩
        · refine lv_if_ne (tgt := 2323) hx hb dL_law_2308 (by decide) (fun n => absurd c451 n) (fun _ => ?_)
          obtain ⟨x240, h452, hf⟩ := s_bind hf
          refine lv_aload_n hx hb dL_law_2311 rfl (lv_at hl 5 rfl) ?_
          refine lv_iconst (v := 0) hx hb dL_law_2312 (by decide) ?_
          refine r_lald X I h452 dL_law_2313 ?_
          refine lv_iload hx hb dL_law_2314 (lv_at hl 0 rfl) ?_
          refine lv_i2l hx hb dL_law_2316 rfl ?_
          refine W.lcmp hx hb dL_law_2317 ?_
          rcases s_ite hf with ⟨c453, hf⟩ | ⟨c453, hf⟩
          · refine lv_if_eq (tgt := 2323) hx hb dL_law_2318 (by decide) (fun _ => ?_) (fun n => absurd c453 n)
            cases hf
            have k : s_V G (d + 139) M_L_law vs0 σ0 Y_L_law (2323, [.ref v0, .ref v1, .ref v2, .ref v3, .int v4], q239.2) (e_I r) := k
            exact k.2 p e s m below meth c _ _ _ _ _ X I hn.1 hn.2 (lv_sub hl [2, 3, 4, 5, 6] rfl)
          · refine lv_if_eq (tgt := 2323) hx hb dL_law_2318 (by decide) (fun n => absurd n c453) (fun _ => ?_)
            cases hf
            have k : _ = r := k
            subst k
            refine lv_iconst (v := 0) hx hb dL_law_2321 (by decide) ?_
            exact r_iret X I rfl rfl rfl hn dL_law_2322
        · refine lv_if_ne (tgt := 2323) hx hb dL_law_2308 (by decide) (fun _ => ?_) (fun n => absurd n c451)
          cases hf
          have k : s_V G (d + 139) M_L_law vs0 σ0 Y_L_law (2323, [.ref v0, .ref v1, .ref v2, .ref v3, .int v4], q239.2) (e_I r) := k
          exact k.2 p e s m below meth c _ _ _ _ _ X I hn.1 hn.2 (lv_sub hl [2, 3, 4, 5, 6] rfl)
      · refine lv_icmp_eq (tgt := 2306) hx hb dL_law_2301 (by decide) (fun n => absurd n c450) (fun _ => ?_)
        cases hf
        have k : _ = r := k
        subst k
        refine lv_iconst (v := 0) hx hb dL_law_2304 (by decide) ?_
        exact r_iret X I rfl rfl rfl hn dL_law_2305
    rcases s_ite hf with ⟨c454, hf⟩ | ⟨c454, hf⟩
    · refine lv_tableIn (tgt := 2326) (off := 2286) hx hb dL_law_40 (by rw [c454]; decide) (by rw [c454]; decide) (by rw [c454]; rfl) (by decide) ?_
      obtain ⟨x241, h455, hf⟩ := s_bind hf
      obtain ⟨q242, h456, hf⟩ := s_bind hf
      obtain ⟨x243, h457, hf⟩ := s_bind hf
      obtain ⟨q244, h458, hf⟩ := s_bind hf
      obtain ⟨q245, h459, hf⟩ := s_bind hf
      have le460 : s_le q245.2 (e_I r).2 := by
        refine s_lek hem_I ?_ k
        rcases s_ite hf with ⟨-, hf⟩ | ⟨-, hf⟩
        · rcases s_ite hf with ⟨-, hf⟩ | ⟨-, hf⟩
          · obtain ⟨x246, -, hf⟩ := s_bind hf
            rcases s_ite hf with ⟨-, hf⟩ | ⟨-, hf⟩
            · cases hf
              exact s_le.rf
            · cases hf
              exact s_le.rf
          · cases hf
            exact s_le.rf
        · cases hf
          exact s_le.rf
      have le461 := s_le.tr (l_X8_thrown h459) le460
      have le462 := s_le.tr (l_X8_core h458) le461
      refine lv_aload_n hx hb dL_law_2326 rfl (lv_at hl 1 rfl) ?_
      refine lv_aload_n hx hb dL_law_2327 rfl (lv_at hl 0 rfl) ?_
      refine lv_iload hx hb dL_law_2328 (lv_at hl 4 rfl) ?_
      refine lv_iconst (v := 1) hx hb dL_law_2330 (by decide) ?_
      refine lv_iadd hx hb dL_law_2331 ?_
      refine r_iald X I h455 dL_law_2332 ?_
      refine lv_aload_n hx hb dL_law_2333 rfl (lv_at hl 3 rfl) ?_
      refine r_callX (Y := M_L_core) (v := some (.int q242.1)) X I w_1520 my_L_core (by omega) (t_L_core (G := G) (d := d + 131) h456) rfl rfl hl.1 rfl (Nat.le_of_ble_eq_true rfl) hn le462 dL_law_2334 (fun H locs cells slots I hn1 hn2 => ?_)
      have I : s_I G q242.2 s H locs := I
      have hn : cells + σ0.2.1 ≤ q242.2.2.1 ∧ slots + σ0.2.2.1 ≤ q242.2.2.2.1 := ⟨hn1, hn2⟩
      refine lv_istore (lv' := [(5, .int q242.1), (0, .ref v0), (1, .ref v1), (2, .ref v2), (3, .ref v3), (4, .int v4)]) hx hb dL_law_2337 hl (by decide) rfl (fun ls hl => ?_)
      refine lv_aload_n hx hb dL_law_2339 rfl (lv_at hl 3 rfl) ?_
      refine lv_aload_n hx hb dL_law_2340 rfl (lv_at hl 1 rfl) ?_
      refine lv_iload hx hb dL_law_2341 (lv_at hl 5 rfl) ?_
      refine lv_iconst (v := 1) hx hb dL_law_2343 (by decide) ?_
      refine lv_iadd hx hb dL_law_2344 ?_
      refine r_iald X I h457 dL_law_2345 ?_
      refine r_callV (Y := M_X8_core) (v := some (.int q244.1)) X I w_2172 my_X8_core (by omega) (t_X8_core (G := G) (d := d + 133) h458) (b_X8_core h458) rfl rfl hl.1 rfl (Nat.le_of_ble_eq_true rfl) hn le461 dL_law_2346 (fun H locs cells slots I hn1 hn2 => ?_)
      have I : s_I G q244.2 s H locs := I
      have hn : cells + σ0.2.1 ≤ q244.2.2.1 ∧ slots + σ0.2.2.1 ≤ q244.2.2.2.1 := ⟨hn1, hn2⟩
      refine lv_istore (lv' := [(6, .int q244.1), (5, .int q242.1), (0, .ref v0), (1, .ref v1), (2, .ref v2), (3, .ref v3), (4, .int v4)]) hx hb dL_law_2349 hl (by decide) rfl (fun ls hl => ?_)
      refine lv_aload_n hx hb dL_law_2351 rfl (lv_at hl 4 rfl) ?_
      refine r_callV (Y := M_X8_thrown) (v := some (.int q245.1)) X I w_1671 my_X8_thrown (by omega) (t_X8_thrown (G := G) (d := d + 137) h459) (b_X8_thrown h459) rfl rfl hl.1 rfl (Nat.le_of_ble_eq_true rfl) hn le460 dL_law_2352 (fun H locs cells slots I hn1 hn2 => ?_)
      have I : s_I G q245.2 s H locs := I
      have hn : cells + σ0.2.1 ≤ q245.2.2.1 ∧ slots + σ0.2.2.1 ≤ q245.2.2.2.1 := ⟨hn1, hn2⟩
      refine lv_iload hx hb dL_law_2355 (lv_at hl 1 rfl) ?_
      rcases s_ite hf with ⟨c463, hf⟩ | ⟨c463, hf⟩
      · refine lv_icmp_eq (tgt := 2362) hx hb dL_law_2357 (by decide) (fun _ => ?_) (fun n => absurd c463 n)
        refine lv_iload hx hb dL_law_2362 (lv_at hl 1 rfl) ?_
        rcases s_ite hf with ⟨c464, hf⟩ | ⟨c464, hf⟩
        · refine lv_if_ne (tgt := 2379) hx hb dL_law_2364 (by decide) (fun n => absurd c464 n) (fun _ => ?_)
          obtain ⟨x246, h465, hf⟩ := s_bind hf
          refine lv_aload_n hx hb dL_law_2367 rfl (lv_at hl 5 rfl) ?_
          refine lv_iconst (v := 0) hx hb dL_law_2368 (by decide) ?_
          refine r_lald X I h465 dL_law_2369 ?_
          refine lv_iload hx hb dL_law_2370 (lv_at hl 0 rfl) ?_
          refine lv_i2l hx hb dL_law_2372 rfl ?_
          refine W.lcmp hx hb dL_law_2373 ?_
          rcases s_ite hf with ⟨c466, hf⟩ | ⟨c466, hf⟩
          · refine lv_if_eq (tgt := 2379) hx hb dL_law_2374 (by decide) (fun _ => ?_) (fun n => absurd c466 n)
            cases hf
            have k : s_V G (d + 139) M_L_law vs0 σ0 Y_L_law (2379, [.ref v0, .ref v1, .ref v2, .ref v3, .int v4], q245.2) (e_I r) := k
            exact k.2 p e s m below meth c _ _ _ _ _ X I hn.1 hn.2 (lv_sub hl [2, 3, 4, 5, 6] rfl)
          · refine lv_if_eq (tgt := 2379) hx hb dL_law_2374 (by decide) (fun n => absurd n c466) (fun _ => ?_)
            cases hf
            have k : _ = r := k
            subst k
            refine lv_iconst (v := 0) hx hb dL_law_2377 (by decide) ?_
            exact r_iret X I rfl rfl rfl hn dL_law_2378
        · refine lv_if_ne (tgt := 2379) hx hb dL_law_2364 (by decide) (fun _ => ?_) (fun n => absurd n c464)
          cases hf
          have k : s_V G (d + 139) M_L_law vs0 σ0 Y_L_law (2379, [.ref v0, .ref v1, .ref v2, .ref v3, .int v4], q245.2) (e_I r) := k
          exact k.2 p e s m below meth c _ _ _ _ _ X I hn.1 hn.2 (lv_sub hl [2, 3, 4, 5, 6] rfl)
      · refine lv_icmp_eq (tgt := 2362) hx hb dL_law_2357 (by decide) (fun n => absurd n c463) (fun _ => ?_)
        cases hf
        have k : _ = r := k
        subst k
        refine lv_iconst (v := 0) hx hb dL_law_2360 (by decide) ?_
        exact r_iret X I rfl rfl rfl hn dL_law_2361
    rcases s_ite hf with ⟨c467, hf⟩ | ⟨c467, hf⟩
    · refine lv_tableIn (tgt := 2382) (off := 2342) hx hb dL_law_40 (by rw [c467]; decide) (by rw [c467]; decide) (by rw [c467]; rfl) (by decide) ?_
      obtain ⟨x247, h468, hf⟩ := s_bind hf
      obtain ⟨x248, h469, hf⟩ := s_bind hf
      obtain ⟨q249, h470, hf⟩ := s_bind hf
      obtain ⟨x250, h471, hf⟩ := s_bind hf
      obtain ⟨x251, h472, hf⟩ := s_bind hf
      obtain ⟨q252, h473, hf⟩ := s_bind hf
      obtain ⟨q253, h474, hf⟩ := s_bind hf
      have le475 : s_le q253.2 (e_I r).2 := by
        refine s_lek hem_I ?_ k
        rcases s_ite hf with ⟨-, hf⟩ | ⟨-, hf⟩
        · rcases s_ite hf with ⟨-, hf⟩ | ⟨-, hf⟩
          · obtain ⟨x254, -, hf⟩ := s_bind hf
            rcases s_ite hf with ⟨-, hf⟩ | ⟨-, hf⟩
            · cases hf
              exact s_le.rf
            · cases hf
              exact s_le.rf
          · cases hf
            exact s_le.rf
        · cases hf
          exact s_le.rf
      have le476 := s_le.tr (l_X8_thrown h474) le475
      have le477 := s_le.tr (l_X8_more h473) le476
      refine lv_aload_n hx hb dL_law_2382 rfl (lv_at hl 1 rfl) ?_
      refine lv_aload_n hx hb dL_law_2383 rfl (lv_at hl 0 rfl) ?_
      refine lv_iload hx hb dL_law_2384 (lv_at hl 4 rfl) ?_
      refine lv_iconst (v := 1) hx hb dL_law_2386 (by decide) ?_
      refine lv_iadd hx hb dL_law_2387 ?_
      refine r_iald X I h468 dL_law_2388 ?_
      refine lv_aload_n hx hb dL_law_2389 rfl (lv_at hl 0 rfl) ?_
      refine lv_iload hx hb dL_law_2390 (lv_at hl 4 rfl) ?_
      refine lv_iconst (v := 2) hx hb dL_law_2392 (by decide) ?_
      refine lv_iadd hx hb dL_law_2393 ?_
      refine r_iald X I h469 dL_law_2394 ?_
      refine lv_aload_n hx hb dL_law_2395 rfl (lv_at hl 3 rfl) ?_
      refine r_callX (Y := M_L_more) (v := some (.int q249.1)) X I w_1544 my_L_more (by omega) (t_L_more (G := G) (d := d + 129) h470) rfl rfl hl.1 rfl (Nat.le_of_ble_eq_true rfl) hn le477 dL_law_2396 (fun H locs cells slots I hn1 hn2 => ?_)
      have I : s_I G q249.2 s H locs := I
      have hn : cells + σ0.2.1 ≤ q249.2.2.1 ∧ slots + σ0.2.2.1 ≤ q249.2.2.2.1 := ⟨hn1, hn2⟩
      refine lv_istore (lv' := [(5, .int q249.1), (0, .ref v0), (1, .ref v1), (2, .ref v2), (3, .ref v3), (4, .int v4)]) hx hb dL_law_2399 hl (by decide) rfl (fun ls hl => ?_)
      refine lv_aload_n hx hb dL_law_2401 rfl (lv_at hl 3 rfl) ?_
      refine lv_aload_n hx hb dL_law_2402 rfl (lv_at hl 1 rfl) ?_
      refine lv_iload hx hb dL_law_2403 (lv_at hl 5 rfl) ?_
      refine lv_iconst (v := 1) hx hb dL_law_2405 (by decide) ?_
      refine lv_iadd hx hb dL_law_2406 ?_
      refine r_iald X I h471 dL_law_2407 ?_
      refine lv_aload_n hx hb dL_law_2408 rfl (lv_at hl 1 rfl) ?_
      refine lv_iload hx hb dL_law_2409 (lv_at hl 5 rfl) ?_
      refine lv_iconst (v := 2) hx hb dL_law_2411 (by decide) ?_
      refine lv_iadd hx hb dL_law_2412 ?_
      refine r_iald X I h472 dL_law_2413 ?_
      refine r_callV (Y := M_X8_more) (v := some (.int q252.1)) X I w_2180 my_X8_more (by omega) (t_X8_more (G := G) (d := d + 133) h473) (b_X8_more h473) rfl rfl hl.1 rfl (Nat.le_of_ble_eq_true rfl) hn le476 dL_law_2414 (fun H locs cells slots I hn1 hn2 => ?_)
      have I : s_I G q252.2 s H locs := I
      have hn : cells + σ0.2.1 ≤ q252.2.2.1 ∧ slots + σ0.2.2.1 ≤ q252.2.2.2.1 := ⟨hn1, hn2⟩
      refine lv_istore (lv' := [(6, .int q252.1), (5, .int q249.1), (0, .ref v0), (1, .ref v1), (2, .ref v2), (3, .ref v3), (4, .int v4)]) hx hb dL_law_2417 hl (by decide) rfl (fun ls hl => ?_)
      refine lv_aload_n hx hb dL_law_2419 rfl (lv_at hl 4 rfl) ?_
      refine r_callV (Y := M_X8_thrown) (v := some (.int q253.1)) X I w_1671 my_X8_thrown (by omega) (t_X8_thrown (G := G) (d := d + 137) h474) (b_X8_thrown h474) rfl rfl hl.1 rfl (Nat.le_of_ble_eq_true rfl) hn le475 dL_law_2420 (fun H locs cells slots I hn1 hn2 => ?_)
      have I : s_I G q253.2 s H locs := I
      have hn : cells + σ0.2.1 ≤ q253.2.2.1 ∧ slots + σ0.2.2.1 ≤ q253.2.2.2.1 := ⟨hn1, hn2⟩
      refine lv_iload hx hb dL_law_2423 (lv_at hl 1 rfl) ?_
      rcases s_ite hf with ⟨c478, hf⟩ | ⟨c478, hf⟩
      · refine lv_icmp_eq (tgt := 2430) hx hb dL_law_2425 (by decide) (fun _ => ?_) (fun n => absurd c478 n)
        refine lv_iload hx hb dL_law_2430 (lv_at hl 1 rfl) ?_
        rcases s_ite hf with ⟨c479, hf⟩ | ⟨c479, hf⟩
        · refine lv_if_ne (tgt := 2447) hx hb dL_law_2432 (by decide) (fun n => absurd c479 n) (fun _ => ?_)
          obtain ⟨x254, h480, hf⟩ := s_bind hf
          refine lv_aload_n hx hb dL_law_2435 rfl (lv_at hl 5 rfl) ?_
          refine lv_iconst (v := 0) hx hb dL_law_2436 (by decide) ?_
          refine r_lald X I h480 dL_law_2437 ?_
          refine lv_iload hx hb dL_law_2438 (lv_at hl 0 rfl) ?_
          refine lv_i2l hx hb dL_law_2440 rfl ?_
          refine W.lcmp hx hb dL_law_2441 ?_
          rcases s_ite hf with ⟨c481, hf⟩ | ⟨c481, hf⟩
          · refine lv_if_eq (tgt := 2447) hx hb dL_law_2442 (by decide) (fun _ => ?_) (fun n => absurd c481 n)
            cases hf
            have k : s_V G (d + 139) M_L_law vs0 σ0 Y_L_law (2447, [.ref v0, .ref v1, .ref v2, .ref v3, .int v4], q253.2) (e_I r) := k
            exact k.2 p e s m below meth c _ _ _ _ _ X I hn.1 hn.2 (lv_sub hl [2, 3, 4, 5, 6] rfl)
          · refine lv_if_eq (tgt := 2447) hx hb dL_law_2442 (by decide) (fun n => absurd n c481) (fun _ => ?_)
            cases hf
            have k : _ = r := k
            subst k
            refine lv_iconst (v := 0) hx hb dL_law_2445 (by decide) ?_
            exact r_iret X I rfl rfl rfl hn dL_law_2446
        · refine lv_if_ne (tgt := 2447) hx hb dL_law_2432 (by decide) (fun _ => ?_) (fun n => absurd n c479)
          cases hf
          have k : s_V G (d + 139) M_L_law vs0 σ0 Y_L_law (2447, [.ref v0, .ref v1, .ref v2, .ref v3, .int v4], q253.2) (e_I r) := k
          exact k.2 p e s m below meth c _ _ _ _ _ X I hn.1 hn.2 (lv_sub hl [2, 3, 4, 5, 6] rfl)
      · refine lv_icmp_eq (tgt := 2430) hx hb dL_law_2425 (by decide) (fun n => absurd n c478) (fun _ => ?_)
        cases hf
        have k : _ = r := k
        subst k
        refine lv_iconst (v := 0) hx hb dL_law_2428 (by decide) ?_
        exact r_iret X I rfl rfl rfl hn dL_law_2429
    rcases s_ite hf with ⟨c482, hf⟩ | ⟨c482, hf⟩
    · refine lv_tableIn (tgt := 2450) (off := 2410) hx hb dL_law_40 (by rw [c482]; decide) (by rw [c482]; decide) (by rw [c482]; rfl) (by decide) ?_
      obtain ⟨x255, h483, hf⟩ := s_bind hf
      obtain ⟨x256, h484, hf⟩ := s_bind hf
      obtain ⟨q257, h485, hf⟩ := s_bind hf
      obtain ⟨x258, h486, hf⟩ := s_bind hf
      obtain ⟨x259, h487, hf⟩ := s_bind hf
      obtain ⟨q260, h488, hf⟩ := s_bind hf
      obtain ⟨q261, h489, hf⟩ := s_bind hf
      have le490 : s_le q261.2 (e_I r).2 := by
        refine s_lek hem_I ?_ k
        rcases s_ite hf with ⟨-, hf⟩ | ⟨-, hf⟩
        · rcases s_ite hf with ⟨-, hf⟩ | ⟨-, hf⟩
          · obtain ⟨x262, -, hf⟩ := s_bind hf
            rcases s_ite hf with ⟨-, hf⟩ | ⟨-, hf⟩
            · cases hf
              exact s_le.rf
            · cases hf
              exact s_le.rf
          · cases hf
            exact s_le.rf
        · cases hf
          exact s_le.rf
      have le491 := s_le.tr (l_X8_thrown h489) le490
      have le492 := s_le.tr (l_X8_gains h488) le491
      refine lv_aload_n hx hb dL_law_2450 rfl (lv_at hl 1 rfl) ?_
      refine lv_aload_n hx hb dL_law_2451 rfl (lv_at hl 0 rfl) ?_
      refine lv_iload hx hb dL_law_2452 (lv_at hl 4 rfl) ?_
      refine lv_iconst (v := 1) hx hb dL_law_2454 (by decide) ?_
      refine lv_iadd hx hb dL_law_2455 ?_
      refine r_iald X I h483 dL_law_2456 ?_
      refine lv_aload_n hx hb dL_law_2457 rfl (lv_at hl 0 rfl) ?_
      refine lv_iload hx hb dL_law_2458 (lv_at hl 4 rfl) ?_
      refine lv_iconst (v := 2) hx hb dL_law_2460 (by decide) ?_
      refine lv_iadd hx hb dL_law_2461 ?_
      refine r_iald X I h484 dL_law_2462 ?_
      refine lv_aload_n hx hb dL_law_2463 rfl (lv_at hl 3 rfl) ?_
      refine r_callX (Y := M_L_gains) (v := some (.int q257.1)) X I w_1580 my_L_gains (by omega) (t_L_gains (G := G) (d := d + 129) h485) rfl rfl hl.1 rfl (Nat.le_of_ble_eq_true rfl) hn le492 dL_law_2464 (fun H locs cells slots I hn1 hn2 => ?_)
      have I : s_I G q257.2 s H locs := I
      have hn : cells + σ0.2.1 ≤ q257.2.2.1 ∧ slots + σ0.2.2.1 ≤ q257.2.2.2.1 := ⟨hn1, hn2⟩
      refine lv_istore (lv' := [(5, .int q257.1), (0, .ref v0), (1, .ref v1), (2, .ref v2), (3, .ref v3), (4, .int v4)]) hx hb dL_law_2467 hl (by decide) rfl (fun ls hl => ?_)
      refine lv_aload_n hx hb dL_law_2469 rfl (lv_at hl 3 rfl) ?_
      refine lv_aload_n hx hb dL_law_2470 rfl (lv_at hl 1 rfl) ?_
      refine lv_iload hx hb dL_law_2471 (lv_at hl 5 rfl) ?_
      refine lv_iconst (v := 1) hx hb dL_law_2473 (by decide) ?_
      refine lv_iadd hx hb dL_law_2474 ?_
      refine r_iald X I h486 dL_law_2475 ?_
      refine lv_aload_n hx hb dL_law_2476 rfl (lv_at hl 1 rfl) ?_
      refine lv_iload hx hb dL_law_2477 (lv_at hl 5 rfl) ?_
      refine lv_iconst (v := 2) hx hb dL_law_2479 (by decide) ?_
      refine lv_iadd hx hb dL_law_2480 ?_
      refine r_iald X I h487 dL_law_2481 ?_
      refine r_callV (Y := M_X8_gains) (v := some (.int q260.1)) X I w_2335 my_X8_gains (by omega) (t_X8_gains (G := G) (d := d + 130) h488) (b_X8_gains h488) rfl rfl hl.1 rfl (Nat.le_of_ble_eq_true rfl) hn le491 dL_law_2482 (fun H locs cells slots I hn1 hn2 => ?_)
      have I : s_I G q260.2 s H locs := I
      have hn : cells + σ0.2.1 ≤ q260.2.2.1 ∧ slots + σ0.2.2.1 ≤ q260.2.2.2.1 := ⟨hn1, hn2⟩
      refine lv_istore (lv' := [(6, .int q260.1), (5, .int q257.1), (0, .ref v0), (1, .ref v1), (2, .ref v2), (3, .ref v3), (4, .int v4)]) hx hb dL_law_2485 hl (by decide) rfl (fun ls hl => ?_)
      refine lv_aload_n hx hb dL_law_2487 rfl (lv_at hl 4 rfl) ?_
      refine r_callV (Y := M_X8_thrown) (v := some (.int q261.1)) X I w_1671 my_X8_thrown (by omega) (t_X8_thrown (G := G) (d := d + 137) h489) (b_X8_thrown h489) rfl rfl hl.1 rfl (Nat.le_of_ble_eq_true rfl) hn le490 dL_law_2488 (fun H locs cells slots I hn1 hn2 => ?_)
      have I : s_I G q261.2 s H locs := I
      have hn : cells + σ0.2.1 ≤ q261.2.2.1 ∧ slots + σ0.2.2.1 ≤ q261.2.2.2.1 := ⟨hn1, hn2⟩
      refine lv_iload hx hb dL_law_2491 (lv_at hl 1 rfl) ?_
      rcases s_ite hf with ⟨c493, hf⟩ | ⟨c493, hf⟩
      · refine lv_icmp_eq (tgt := 2498) hx hb dL_law_2493 (by decide) (fun _ => ?_) (fun n => absurd c493 n)
        refine lv_iload hx hb dL_law_2498 (lv_at hl 1 rfl) ?_
        rcases s_ite hf with ⟨c494, hf⟩ | ⟨c494, hf⟩
        · refine lv_if_ne (tgt := 2515) hx hb dL_law_2500 (by decide) (fun n => absurd c494 n) (fun _ => ?_)
          obtain ⟨x262, h495, hf⟩ := s_bind hf
          refine lv_aload_n hx hb dL_law_2503 rfl (lv_at hl 5 rfl) ?_
          refine lv_iconst (v := 0) hx hb dL_law_2504 (by decide) ?_
          refine r_lald X I h495 dL_law_2505 ?_
          refine lv_iload hx hb dL_law_2506 (lv_at hl 0 rfl) ?_
          refine lv_i2l hx hb dL_law_2508 rfl ?_
          refine W.lcmp hx hb dL_law_2509 ?_
          rcases s_ite hf with ⟨c496, hf⟩ | ⟨c496, hf⟩
          · refine lv_if_eq (tgt := 2515) hx hb dL_law_2510 (by decide) (fun _ => ?_) (fun n => absurd c496 n)
            cases hf
            have k : s_V G (d + 139) M_L_law vs0 σ0 Y_L_law (2515, [.ref v0, .ref v1, .ref v2, .ref v3, .int v4], q261.2) (e_I r) := k
            exact k.2 p e s m below meth c _ _ _ _ _ X I hn.1 hn.2 (lv_sub hl [2, 3, 4, 5, 6] rfl)
          · refine lv_if_eq (tgt := 2515) hx hb dL_law_2510 (by decide) (fun n => absurd n c496) (fun _ => ?_)
            cases hf
            have k : _ = r := k
            subst k
            refine lv_iconst (v := 0) hx hb dL_law_2513 (by decide) ?_
            exact r_iret X I rfl rfl rfl hn dL_law_2514
        · refine lv_if_ne (tgt := 2515) hx hb dL_law_2500 (by decide) (fun _ => ?_) (fun n => absurd n c494)
          cases hf
          have k : s_V G (d + 139) M_L_law vs0 σ0 Y_L_law (2515, [.ref v0, .ref v1, .ref v2, .ref v3, .int v4], q261.2) (e_I r) := k
          exact k.2 p e s m below meth c _ _ _ _ _ X I hn.1 hn.2 (lv_sub hl [2, 3, 4, 5, 6] rfl)
      · refine lv_icmp_eq (tgt := 2498) hx hb dL_law_2493 (by decide) (fun n => absurd n c493) (fun _ => ?_)
        cases hf
        have k : _ = r := k
        subst k
        refine lv_iconst (v := 0) hx hb dL_law_2496 (by decide) ?_
        exact r_iret X I rfl rfl rfl hn dL_law_2497
    rcases s_ite hf with ⟨c497, hf⟩ | ⟨c497, hf⟩
    · refine lv_tableIn (tgt := 2518) (off := 2478) hx hb dL_law_40 (by rw [c497]; decide) (by rw [c497]; decide) (by rw [c497]; rfl) (by decide) ?_
      obtain ⟨x263, h498, hf⟩ := s_bind hf
      obtain ⟨x264, h499, hf⟩ := s_bind hf
      obtain ⟨x265, h500, hf⟩ := s_bind hf
      obtain ⟨x266, h501, hf⟩ := s_bind hf
      obtain ⟨q267, h502, hf⟩ := s_bind hf
      obtain ⟨x268, h503, hf⟩ := s_bind hf
      obtain ⟨x269, h504, hf⟩ := s_bind hf
      obtain ⟨x270, h505, hf⟩ := s_bind hf
      obtain ⟨x271, h506, hf⟩ := s_bind hf
      obtain ⟨q272, h507, hf⟩ := s_bind hf
      obtain ⟨q273, h508, hf⟩ := s_bind hf
      have le509 : s_le q273.2 (e_I r).2 := by
        refine s_lek hem_I ?_ k
        rcases s_ite hf with ⟨-, hf⟩ | ⟨-, hf⟩
        · rcases s_ite hf with ⟨-, hf⟩ | ⟨-, hf⟩
          · obtain ⟨x274, -, hf⟩ := s_bind hf
            rcases s_ite hf with ⟨-, hf⟩ | ⟨-, hf⟩
            · cases hf
              exact s_le.rf
            · cases hf
              exact s_le.rf
          · cases hf
            exact s_le.rf
        · cases hf
          exact s_le.rf
      have le510 := s_le.tr (l_X8_thrown h508) le509
      have le511 := s_le.tr (l_X8_sell h507) le510
      refine lv_aload_n hx hb dL_law_2518 rfl (lv_at hl 1 rfl) ?_
      refine lv_aload_n hx hb dL_law_2519 rfl (lv_at hl 0 rfl) ?_
      refine lv_iload hx hb dL_law_2520 (lv_at hl 4 rfl) ?_
      refine lv_iconst (v := 1) hx hb dL_law_2522 (by decide) ?_
      refine lv_iadd hx hb dL_law_2523 ?_
      refine r_iald X I h498 dL_law_2524 ?_
      refine lv_aload_n hx hb dL_law_2525 rfl (lv_at hl 0 rfl) ?_
      refine lv_iload hx hb dL_law_2526 (lv_at hl 4 rfl) ?_
      refine lv_iconst (v := 2) hx hb dL_law_2528 (by decide) ?_
      refine lv_iadd hx hb dL_law_2529 ?_
      refine r_iald X I h499 dL_law_2530 ?_
      refine lv_aload_n hx hb dL_law_2531 rfl (lv_at hl 0 rfl) ?_
      refine lv_iload hx hb dL_law_2532 (lv_at hl 4 rfl) ?_
      refine lv_iconst (v := 3) hx hb dL_law_2534 (by decide) ?_
      refine lv_iadd hx hb dL_law_2535 ?_
      refine r_iald X I h500 dL_law_2536 ?_
      refine lv_aload_n hx hb dL_law_2537 rfl (lv_at hl 0 rfl) ?_
      refine lv_iload hx hb dL_law_2538 (lv_at hl 4 rfl) ?_
      refine lv_iconst (v := 4) hx hb dL_law_2540 (by decide) ?_
      refine lv_iadd hx hb dL_law_2541 ?_
      refine r_iald X I h501 dL_law_2542 ?_
      refine lv_aload_n hx hb dL_law_2543 rfl (lv_at hl 3 rfl) ?_
      refine r_callX (Y := M_L_sell) (v := some (.int q267.1)) X I w_1618 my_L_sell (by omega) (t_L_sell (G := G) (d := d + 135) h502) rfl rfl hl.1 rfl (Nat.le_of_ble_eq_true rfl) hn le511 dL_law_2544 (fun H locs cells slots I hn1 hn2 => ?_)
      have I : s_I G q267.2 s H locs := I
      have hn : cells + σ0.2.1 ≤ q267.2.2.1 ∧ slots + σ0.2.2.1 ≤ q267.2.2.2.1 := ⟨hn1, hn2⟩
      refine lv_istore (lv' := [(5, .int q267.1), (0, .ref v0), (1, .ref v1), (2, .ref v2), (3, .ref v3), (4, .int v4)]) hx hb dL_law_2547 hl (by decide) rfl (fun ls hl => ?_)
      refine lv_aload_n hx hb dL_law_2549 rfl (lv_at hl 3 rfl) ?_
      refine lv_aload_n hx hb dL_law_2550 rfl (lv_at hl 1 rfl) ?_
      refine lv_iload hx hb dL_law_2551 (lv_at hl 5 rfl) ?_
      refine lv_iconst (v := 1) hx hb dL_law_2553 (by decide) ?_
      refine lv_iadd hx hb dL_law_2554 ?_
      refine r_iald X I h503 dL_law_2555 ?_
      refine lv_aload_n hx hb dL_law_2556 rfl (lv_at hl 1 rfl) ?_
      refine lv_iload hx hb dL_law_2557 (lv_at hl 5 rfl) ?_
      refine lv_iconst (v := 2) hx hb dL_law_2559 (by decide) ?_
      refine lv_iadd hx hb dL_law_2560 ?_
      refine r_iald X I h504 dL_law_2561 ?_
      refine lv_aload_n hx hb dL_law_2562 rfl (lv_at hl 1 rfl) ?_
      refine lv_iload hx hb dL_law_2563 (lv_at hl 5 rfl) ?_
      refine lv_iconst (v := 3) hx hb dL_law_2565 (by decide) ?_
      refine lv_iadd hx hb dL_law_2566 ?_
      refine r_iald X I h505 dL_law_2567 ?_
      refine lv_aload_n hx hb dL_law_2568 rfl (lv_at hl 1 rfl) ?_
      refine lv_iload hx hb dL_law_2569 (lv_at hl 5 rfl) ?_
      refine lv_iconst (v := 4) hx hb dL_law_2571 (by decide) ?_
      refine lv_iadd hx hb dL_law_2572 ?_
      refine r_iald X I h506 dL_law_2573 ?_
      refine r_callV (Y := M_X8_sell) (v := some (.int q272.1)) X I w_2291 my_X8_sell (by omega) (t_X8_sell (G := G) (d := d + 135) h507) (b_X8_sell h507) rfl rfl hl.1 rfl (Nat.le_of_ble_eq_true rfl) hn le510 dL_law_2574 (fun H locs cells slots I hn1 hn2 => ?_)
      have I : s_I G q272.2 s H locs := I
      have hn : cells + σ0.2.1 ≤ q272.2.2.1 ∧ slots + σ0.2.2.1 ≤ q272.2.2.2.1 := ⟨hn1, hn2⟩
      refine lv_istore (lv' := [(6, .int q272.1), (5, .int q267.1), (0, .ref v0), (1, .ref v1), (2, .ref v2), (3, .ref v3), (4, .int v4)]) hx hb dL_law_2577 hl (by decide) rfl (fun ls hl => ?_)
      refine lv_aload_n hx hb dL_law_2579 rfl (lv_at hl 4 rfl) ?_
      refine r_callV (Y := M_X8_thrown) (v := some (.int q273.1)) X I w_1671 my_X8_thrown (by omega) (t_X8_thrown (G := G) (d := d + 137) h508) (b_X8_thrown h508) rfl rfl hl.1 rfl (Nat.le_of_ble_eq_true rfl) hn le509 dL_law_2580 (fun H locs cells slots I hn1 hn2 => ?_)
      have I : s_I G q273.2 s H locs := I
      have hn : cells + σ0.2.1 ≤ q273.2.2.1 ∧ slots + σ0.2.2.1 ≤ q273.2.2.2.1 := ⟨hn1, hn2⟩
      refine lv_iload hx hb dL_law_2583 (lv_at hl 1 rfl) ?_
      rcases s_ite hf with ⟨c512, hf⟩ | ⟨c512, hf⟩
      · refine lv_icmp_eq (tgt := 2590) hx hb dL_law_2585 (by decide) (fun _ => ?_) (fun n => absurd c512 n)
        refine lv_iload hx hb dL_law_2590 (lv_at hl 1 rfl) ?_
        rcases s_ite hf with ⟨c513, hf⟩ | ⟨c513, hf⟩
        · refine lv_if_ne (tgt := 2607) hx hb dL_law_2592 (by decide) (fun n => absurd c513 n) (fun _ => ?_)
          obtain ⟨x274, h514, hf⟩ := s_bind hf
          refine lv_aload_n hx hb dL_law_2595 rfl (lv_at hl 5 rfl) ?_
          refine lv_iconst (v := 0) hx hb dL_law_2596 (by decide) ?_
          refine r_lald X I h514 dL_law_2597 ?_
          refine lv_iload hx hb dL_law_2598 (lv_at hl 0 rfl) ?_
          refine lv_i2l hx hb dL_law_2600 rfl ?_
          refine W.lcmp hx hb dL_law_2601 ?_
          rcases s_ite hf with ⟨c515, hf⟩ | ⟨c515, hf⟩
          · refine lv_if_eq (tgt := 2607) hx hb dL_law_2602 (by decide) (fun _ => ?_) (fun n => absurd c515 n)
            cases hf
            have k : s_V G (d + 139) M_L_law vs0 σ0 Y_L_law (2607, [.ref v0, .ref v1, .ref v2, .ref v3, .int v4], q273.2) (e_I r) := k
            exact k.2 p e s m below meth c _ _ _ _ _ X I hn.1 hn.2 (lv_sub hl [2, 3, 4, 5, 6] rfl)
          · refine lv_if_eq (tgt := 2607) hx hb dL_law_2602 (by decide) (fun n => absurd n c515) (fun _ => ?_)
            cases hf
            have k : _ = r := k
            subst k
            refine lv_iconst (v := 0) hx hb dL_law_2605 (by decide) ?_
            exact r_iret X I rfl rfl rfl hn dL_law_2606
        · refine lv_if_ne (tgt := 2607) hx hb dL_law_2592 (by decide) (fun _ => ?_) (fun n => absurd n c513)
          cases hf
          have k : s_V G (d + 139) M_L_law vs0 σ0 Y_L_law (2607, [.ref v0, .ref v1, .ref v2, .ref v3, .int v4], q273.2) (e_I r) := k
          exact k.2 p e s m below meth c _ _ _ _ _ X I hn.1 hn.2 (lv_sub hl [2, 3, 4, 5, 6] rfl)
      · refine lv_icmp_eq (tgt := 2590) hx hb dL_law_2585 (by decide) (fun n => absurd n c512) (fun _ => ?_)
        cases hf
        have k : _ = r := k
        subst k
        refine lv_iconst (v := 0) hx hb dL_law_2588 (by decide) ?_
        exact r_iret X I rfl rfl rfl hn dL_law_2589
    rcases s_ite hf with ⟨c516, hf⟩ | ⟨c516, hf⟩
    · refine lv_tableIn (tgt := 2610) (off := 2570) hx hb dL_law_40 (by rw [c516]; decide) (by rw [c516]; decide) (by rw [c516]; rfl) (by decide) ?_
      obtain ⟨x275, h517, hf⟩ := s_bind hf
      obtain ⟨q276, h518, hf⟩ := s_bind hf
      obtain ⟨x277, h519, hf⟩ := s_bind hf
      obtain ⟨q278, h520, hf⟩ := s_bind hf
      obtain ⟨q279, h521, hf⟩ := s_bind hf
      have le522 : s_le q279.2 (e_I r).2 := by
        refine s_lek hem_I ?_ k
        rcases s_ite hf with ⟨-, hf⟩ | ⟨-, hf⟩
        · rcases s_ite hf with ⟨-, hf⟩ | ⟨-, hf⟩
          · obtain ⟨x280, -, hf⟩ := s_bind hf
            rcases s_ite hf with ⟨-, hf⟩ | ⟨-, hf⟩
            · cases hf
              exact s_le.rf
            · cases hf
              exact s_le.rf
          · cases hf
            exact s_le.rf
        · cases hf
          exact s_le.rf
      have le523 := s_le.tr (l_X8_thrown h521) le522
      have le524 := s_le.tr (l_X8_undo h520) le523
      refine lv_aload_n hx hb dL_law_2610 rfl (lv_at hl 1 rfl) ?_
      refine lv_aload_n hx hb dL_law_2611 rfl (lv_at hl 0 rfl) ?_
      refine lv_iload hx hb dL_law_2612 (lv_at hl 4 rfl) ?_
      refine lv_iconst (v := 1) hx hb dL_law_2614 (by decide) ?_
      refine lv_iadd hx hb dL_law_2615 ?_
      refine r_iald X I h517 dL_law_2616 ?_
      refine lv_aload_n hx hb dL_law_2617 rfl (lv_at hl 3 rfl) ?_
      refine r_callX (Y := M_L_undo) (v := some (.int q276.1)) X I w_1632 my_L_undo (by omega) (t_L_undo (G := G) (d := d + 135) h518) rfl rfl hl.1 rfl (Nat.le_of_ble_eq_true rfl) hn le524 dL_law_2618 (fun H locs cells slots I hn1 hn2 => ?_)
      have I : s_I G q276.2 s H locs := I
      have hn : cells + σ0.2.1 ≤ q276.2.2.1 ∧ slots + σ0.2.2.1 ≤ q276.2.2.2.1 := ⟨hn1, hn2⟩
      refine lv_istore (lv' := [(5, .int q276.1), (0, .ref v0), (1, .ref v1), (2, .ref v2), (3, .ref v3), (4, .int v4)]) hx hb dL_law_2621 hl (by decide) rfl (fun ls hl => ?_)
      refine lv_aload_n hx hb dL_law_2623 rfl (lv_at hl 3 rfl) ?_
      refine lv_aload_n hx hb dL_law_2624 rfl (lv_at hl 1 rfl) ?_
      refine lv_iload hx hb dL_law_2625 (lv_at hl 5 rfl) ?_
      refine lv_iconst (v := 1) hx hb dL_law_2627 (by decide) ?_
      refine lv_iadd hx hb dL_law_2628 ?_
      refine r_iald X I h519 dL_law_2629 ?_
      refine r_callV (Y := M_X8_undo) (v := some (.int q278.1)) X I w_2299 my_X8_undo (by omega) (t_X8_undo (G := G) (d := d + 135) h520) (b_X8_undo h520) rfl rfl hl.1 rfl (Nat.le_of_ble_eq_true rfl) hn le523 dL_law_2630 (fun H locs cells slots I hn1 hn2 => ?_)
      have I : s_I G q278.2 s H locs := I
      have hn : cells + σ0.2.1 ≤ q278.2.2.1 ∧ slots + σ0.2.2.1 ≤ q278.2.2.2.1 := ⟨hn1, hn2⟩
      refine lv_istore (lv' := [(6, .int q278.1), (5, .int q276.1), (0, .ref v0), (1, .ref v1), (2, .ref v2), (3, .ref v3), (4, .int v4)]) hx hb dL_law_2633 hl (by decide) rfl (fun ls hl => ?_)
      refine lv_aload_n hx hb dL_law_2635 rfl (lv_at hl 4 rfl) ?_
      refine r_callV (Y := M_X8_thrown) (v := some (.int q279.1)) X I w_1671 my_X8_thrown (by omega) (t_X8_thrown (G := G) (d := d + 137) h521) (b_X8_thrown h521) rfl rfl hl.1 rfl (Nat.le_of_ble_eq_true rfl) hn le522 dL_law_2636 (fun H locs cells slots I hn1 hn2 => ?_)
      have I : s_I G q279.2 s H locs := I
      have hn : cells + σ0.2.1 ≤ q279.2.2.1 ∧ slots + σ0.2.2.1 ≤ q279.2.2.2.1 := ⟨hn1, hn2⟩
      refine lv_iload hx hb dL_law_2639 (lv_at hl 1 rfl) ?_
      rcases s_ite hf with ⟨c525, hf⟩ | ⟨c525, hf⟩
      · refine lv_icmp_eq (tgt := 2646) hx hb dL_law_2641 (by decide) (fun _ => ?_) (fun n => absurd c525 n)
        refine lv_iload hx hb dL_law_2646 (lv_at hl 1 rfl) ?_
        rcases s_ite hf with ⟨c526, hf⟩ | ⟨c526, hf⟩
        · refine lv_if_ne (tgt := 2670) hx hb dL_law_2648 (by decide) (fun n => absurd c526 n) (fun _ => ?_)
          obtain ⟨x280, h527, hf⟩ := s_bind hf
          refine lv_aload_n hx hb dL_law_2651 rfl (lv_at hl 5 rfl) ?_
          refine lv_iconst (v := 0) hx hb dL_law_2652 (by decide) ?_
          refine r_lald X I h527 dL_law_2653 ?_
          refine lv_iload hx hb dL_law_2654 (lv_at hl 0 rfl) ?_
          rcases s_ite hf with ⟨c528, hf⟩ | ⟨c528, hf⟩
          · refine lv_if_eq (tgt := 2663) hx hb dL_law_2656 (by decide) (fun _ => ?_) (fun n => absurd c528 n)
            cases hf
            have k : s_V G (d + 139) M_L_law vs0 σ0 Y_L_law (2664, [.ref v0, .ref v1, .ref v2, .ref v3, .int v4, .long 0, .long x280], q279.2) (e_I r) := k
            refine lv_lconst (v := 0) hx hb dL_law_2663 (by decide) ?_
            exact k.2 p e s m below meth c _ _ _ _ _ X I hn.1 hn.2 (lv_sub hl [2, 3, 4, 5, 6] rfl)
          · refine lv_if_eq (tgt := 2663) hx hb dL_law_2656 (by decide) (fun n => absurd n c528) (fun _ => ?_)
            cases hf
            have k : s_V G (d + 139) M_L_law vs0 σ0 Y_L_law (2664, [.ref v0, .ref v1, .ref v2, .ref v3, .int v4, .long 1, .long x280], q279.2) (e_I r) := k
            refine lv_lconst (v := 1) hx hb dL_law_2659 (by decide) ?_
            refine lv_goto (tgt := 2664) hx hb dL_law_2660 (by decide) ?_
            exact k.2 p e s m below meth c _ _ _ _ _ X I hn.1 hn.2 (lv_sub hl [2, 3, 4, 5, 6] rfl)
        · refine lv_if_ne (tgt := 2670) hx hb dL_law_2648 (by decide) (fun _ => ?_) (fun n => absurd n c526)
          cases hf
          have k : s_V G (d + 139) M_L_law vs0 σ0 Y_L_law (2670, [.ref v0, .ref v1, .ref v2, .ref v3, .int v4], q279.2) (e_I r) := k
          exact k.2 p e s m below meth c _ _ _ _ _ X I hn.1 hn.2 (lv_sub hl [2, 3, 4, 5, 6] rfl)
      · refine lv_icmp_eq (tgt := 2646) hx hb dL_law_2641 (by decide) (fun n => absurd n c525) (fun _ => ?_)
        cases hf
        have k : _ = r := k
        subst k
        refine lv_iconst (v := 0) hx hb dL_law_2644 (by decide) ?_
        exact r_iret X I rfl rfl rfl hn dL_law_2645
    rcases s_ite hf with ⟨c529, hf⟩ | ⟨c529, hf⟩
    · refine lv_tableIn (tgt := 2673) (off := 2633) hx hb dL_law_40 (by rw [c529]; decide) (by rw [c529]; decide) (by rw [c529]; rfl) (by decide) ?_
      obtain ⟨x281, h530, hf⟩ := s_bind hf
      obtain ⟨x282, h531, hf⟩ := s_bind hf
      obtain ⟨x283, h532, hf⟩ := s_bind hf
      obtain ⟨q284, h533, hf⟩ := s_bind hf
      obtain ⟨x285, h534, hf⟩ := s_bind hf
      obtain ⟨x286, h535, hf⟩ := s_bind hf
      obtain ⟨x287, h536, hf⟩ := s_bind hf
      obtain ⟨q288, h537, hf⟩ := s_bind hf
      obtain ⟨q289, h538, hf⟩ := s_bind hf
      have le539 : s_le q289.2 (e_I r).2 := by
        refine s_lek hem_I ?_ k
        rcases s_ite hf with ⟨-, hf⟩ | ⟨-, hf⟩
        · rcases s_ite hf with ⟨-, hf⟩ | ⟨-, hf⟩
          · obtain ⟨x290, -, hf⟩ := s_bind hf
            rcases s_ite hf with ⟨-, hf⟩ | ⟨-, hf⟩
            · cases hf
              exact s_le.rf
            · cases hf
              exact s_le.rf
          · cases hf
            exact s_le.rf
        · cases hf
          exact s_le.rf
      have le540 := s_le.tr (l_X8_thrown h538) le539
      have le541 := s_le.tr (l_X8_owes h537) le540
      refine lv_aload_n hx hb dL_law_2673 rfl (lv_at hl 1 rfl) ?_
      refine lv_aload_n hx hb dL_law_2674 rfl (lv_at hl 0 rfl) ?_
      refine lv_iload hx hb dL_law_2675 (lv_at hl 4 rfl) ?_
      refine lv_iconst (v := 1) hx hb dL_law_2677 (by decide) ?_
      refine lv_iadd hx hb dL_law_2678 ?_
      refine r_iald X I h530 dL_law_2679 ?_
      refine lv_aload_n hx hb dL_law_2680 rfl (lv_at hl 0 rfl) ?_
      refine lv_iload hx hb dL_law_2681 (lv_at hl 4 rfl) ?_
      refine lv_iconst (v := 2) hx hb dL_law_2683 (by decide) ?_
      refine lv_iadd hx hb dL_law_2684 ?_
      refine r_iald X I h531 dL_law_2685 ?_
      refine lv_aload_n hx hb dL_law_2686 rfl (lv_at hl 0 rfl) ?_
      refine lv_iload hx hb dL_law_2687 (lv_at hl 4 rfl) ?_
      refine lv_iconst (v := 3) hx hb dL_law_2689 (by decide) ?_
      refine lv_iadd hx hb dL_law_2690 ?_
      refine r_iald X I h532 dL_law_2691 ?_
      refine lv_aload_n hx hb dL_law_2692 rfl (lv_at hl 3 rfl) ?_
      refine r_callX (Y := M_L_owes) (v := some (.int q284.1)) X I w_1641 my_L_owes (by omega) (t_L_owes (G := G) (d := d + 129) h533) rfl rfl hl.1 rfl (Nat.le_of_ble_eq_true rfl) hn le541 dL_law_2693 (fun H locs cells slots I hn1 hn2 => ?_)
      have I : s_I G q284.2 s H locs := I
      have hn : cells + σ0.2.1 ≤ q284.2.2.1 ∧ slots + σ0.2.2.1 ≤ q284.2.2.2.1 := ⟨hn1, hn2⟩
      refine lv_istore (lv' := [(5, .int q284.1), (0, .ref v0), (1, .ref v1), (2, .ref v2), (3, .ref v3), (4, .int v4)]) hx hb dL_law_2696 hl (by decide) rfl (fun ls hl => ?_)
      refine lv_aload_n hx hb dL_law_2698 rfl (lv_at hl 3 rfl) ?_
      refine lv_aload_n hx hb dL_law_2699 rfl (lv_at hl 1 rfl) ?_
      refine lv_iload hx hb dL_law_2700 (lv_at hl 5 rfl) ?_
      refine lv_iconst (v := 1) hx hb dL_law_2702 (by decide) ?_
      refine lv_iadd hx hb dL_law_2703 ?_
      refine r_iald X I h534 dL_law_2704 ?_
      refine lv_aload_n hx hb dL_law_2705 rfl (lv_at hl 1 rfl) ?_
      refine lv_iload hx hb dL_law_2706 (lv_at hl 5 rfl) ?_
      refine lv_iconst (v := 2) hx hb dL_law_2708 (by decide) ?_
      refine lv_iadd hx hb dL_law_2709 ?_
      refine r_iald X I h535 dL_law_2710 ?_
      refine lv_aload_n hx hb dL_law_2711 rfl (lv_at hl 1 rfl) ?_
      refine lv_iload hx hb dL_law_2712 (lv_at hl 5 rfl) ?_
      refine lv_iconst (v := 3) hx hb dL_law_2714 (by decide) ?_
      refine lv_iadd hx hb dL_law_2715 ?_
      refine r_iald X I h536 dL_law_2716 ?_
      refine r_callV (Y := M_X8_owes) (v := some (.int q288.1)) X I w_2311 my_X8_owes (by omega) (t_X8_owes (G := G) (d := d + 130) h537) (b_X8_owes h537) rfl rfl hl.1 rfl (Nat.le_of_ble_eq_true rfl) hn le540 dL_law_2717 (fun H locs cells slots I hn1 hn2 => ?_)
      have I : s_I G q288.2 s H locs := I
      have hn : cells + σ0.2.1 ≤ q288.2.2.1 ∧ slots + σ0.2.2.1 ≤ q288.2.2.2.1 := ⟨hn1, hn2⟩
      refine lv_istore (lv' := [(6, .int q288.1), (5, .int q284.1), (0, .ref v0), (1, .ref v1), (2, .ref v2), (3, .ref v3), (4, .int v4)]) hx hb dL_law_2720 hl (by decide) rfl (fun ls hl => ?_)
      refine lv_aload_n hx hb dL_law_2722 rfl (lv_at hl 4 rfl) ?_
      refine r_callV (Y := M_X8_thrown) (v := some (.int q289.1)) X I w_1671 my_X8_thrown (by omega) (t_X8_thrown (G := G) (d := d + 137) h538) (b_X8_thrown h538) rfl rfl hl.1 rfl (Nat.le_of_ble_eq_true rfl) hn le539 dL_law_2723 (fun H locs cells slots I hn1 hn2 => ?_)
      have I : s_I G q289.2 s H locs := I
      have hn : cells + σ0.2.1 ≤ q289.2.2.1 ∧ slots + σ0.2.2.1 ≤ q289.2.2.2.1 := ⟨hn1, hn2⟩
      refine lv_iload hx hb dL_law_2726 (lv_at hl 1 rfl) ?_
      rcases s_ite hf with ⟨c542, hf⟩ | ⟨c542, hf⟩
      · refine lv_icmp_eq (tgt := 2733) hx hb dL_law_2728 (by decide) (fun _ => ?_) (fun n => absurd c542 n)
        refine lv_iload hx hb dL_law_2733 (lv_at hl 1 rfl) ?_
        rcases s_ite hf with ⟨c543, hf⟩ | ⟨c543, hf⟩
        · refine lv_if_ne (tgt := 2750) hx hb dL_law_2735 (by decide) (fun n => absurd c543 n) (fun _ => ?_)
          obtain ⟨x290, h544, hf⟩ := s_bind hf
          refine lv_aload_n hx hb dL_law_2738 rfl (lv_at hl 5 rfl) ?_
          refine lv_iconst (v := 0) hx hb dL_law_2739 (by decide) ?_
          refine r_lald X I h544 dL_law_2740 ?_
          refine lv_iload hx hb dL_law_2741 (lv_at hl 0 rfl) ?_
          refine lv_i2l hx hb dL_law_2743 rfl ?_
          refine W.lcmp hx hb dL_law_2744 ?_
          rcases s_ite hf with ⟨c545, hf⟩ | ⟨c545, hf⟩
          · refine lv_if_eq (tgt := 2750) hx hb dL_law_2745 (by decide) (fun _ => ?_) (fun n => absurd c545 n)
            cases hf
            have k : s_V G (d + 139) M_L_law vs0 σ0 Y_L_law (2750, [.ref v0, .ref v1, .ref v2, .ref v3, .int v4], q289.2) (e_I r) := k
            exact k.2 p e s m below meth c _ _ _ _ _ X I hn.1 hn.2 (lv_sub hl [2, 3, 4, 5, 6] rfl)
          · refine lv_if_eq (tgt := 2750) hx hb dL_law_2745 (by decide) (fun n => absurd n c545) (fun _ => ?_)
            cases hf
            have k : _ = r := k
            subst k
            refine lv_iconst (v := 0) hx hb dL_law_2748 (by decide) ?_
            exact r_iret X I rfl rfl rfl hn dL_law_2749
        · refine lv_if_ne (tgt := 2750) hx hb dL_law_2735 (by decide) (fun _ => ?_) (fun n => absurd n c543)
          cases hf
          have k : s_V G (d + 139) M_L_law vs0 σ0 Y_L_law (2750, [.ref v0, .ref v1, .ref v2, .ref v3, .int v4], q289.2) (e_I r) := k
          exact k.2 p e s m below meth c _ _ _ _ _ X I hn.1 hn.2 (lv_sub hl [2, 3, 4, 5, 6] rfl)
      · refine lv_icmp_eq (tgt := 2733) hx hb dL_law_2728 (by decide) (fun n => absurd n c542) (fun _ => ?_)
        cases hf
        have k : _ = r := k
        subst k
        refine lv_iconst (v := 0) hx hb dL_law_2731 (by decide) ?_
        exact r_iret X I rfl rfl rfl hn dL_law_2732
    rcases s_ite hf with ⟨c546, hf⟩ | ⟨c546, hf⟩
    · refine lv_tableIn (tgt := 2753) (off := 2713) hx hb dL_law_40 (by rw [c546]; decide) (by rw [c546]; decide) (by rw [c546]; rfl) (by decide) ?_
      obtain ⟨x291, h547, hf⟩ := s_bind hf
      obtain ⟨q292, h548, hf⟩ := s_bind hf
      obtain ⟨x293, h549, hf⟩ := s_bind hf
      obtain ⟨q294, h550, hf⟩ := s_bind hf
      obtain ⟨q295, h551, hf⟩ := s_bind hf
      have le552 : s_le q295.2 (e_I r).2 := by
        refine s_lek hem_I ?_ k
        rcases s_ite hf with ⟨-, hf⟩ | ⟨-, hf⟩
        · rcases s_ite hf with ⟨-, hf⟩ | ⟨-, hf⟩
          · obtain ⟨x296, -, hf⟩ := s_bind hf
            rcases s_ite hf with ⟨-, hf⟩ | ⟨-, hf⟩
            · cases hf
              exact s_le.rf
            · cases hf
              exact s_le.rf
          · cases hf
            exact s_le.rf
        · cases hf
          exact s_le.rf
      have le553 := s_le.tr (l_X8_thrown h551) le552
      have le554 := s_le.tr (l_X8_refunds h550) le553
      refine lv_aload_n hx hb dL_law_2753 rfl (lv_at hl 1 rfl) ?_
      refine lv_aload_n hx hb dL_law_2754 rfl (lv_at hl 0 rfl) ?_
      refine lv_iload hx hb dL_law_2755 (lv_at hl 4 rfl) ?_
      refine lv_iconst (v := 1) hx hb dL_law_2757 (by decide) ?_
      refine lv_iadd hx hb dL_law_2758 ?_
      refine r_iald X I h547 dL_law_2759 ?_
      refine lv_aload_n hx hb dL_law_2760 rfl (lv_at hl 3 rfl) ?_
      refine r_callX (Y := M_L_refunds) (v := some (.int q292.1)) X I w_1652 my_L_refunds (by omega) (t_L_refunds (G := G) (d := d + 130) h548) rfl rfl hl.1 rfl (Nat.le_of_ble_eq_true rfl) hn le554 dL_law_2761 (fun H locs cells slots I hn1 hn2 => ?_)
      have I : s_I G q292.2 s H locs := I
      have hn : cells + σ0.2.1 ≤ q292.2.2.1 ∧ slots + σ0.2.2.1 ≤ q292.2.2.2.1 := ⟨hn1, hn2⟩
      refine lv_istore (lv' := [(5, .int q292.1), (0, .ref v0), (1, .ref v1), (2, .ref v2), (3, .ref v3), (4, .int v4)]) hx hb dL_law_2764 hl (by decide) rfl (fun ls hl => ?_)
      refine lv_aload_n hx hb dL_law_2766 rfl (lv_at hl 3 rfl) ?_
      refine lv_aload_n hx hb dL_law_2767 rfl (lv_at hl 1 rfl) ?_
      refine lv_iload hx hb dL_law_2768 (lv_at hl 5 rfl) ?_
      refine lv_iconst (v := 1) hx hb dL_law_2770 (by decide) ?_
      refine lv_iadd hx hb dL_law_2771 ?_
      refine r_iald X I h549 dL_law_2772 ?_
      refine r_callV (Y := M_X8_refunds) (v := some (.int q294.1)) X I w_2331 my_X8_refunds (by omega) (t_X8_refunds (G := G) (d := d + 130) h550) (b_X8_refunds h550) rfl rfl hl.1 rfl (Nat.le_of_ble_eq_true rfl) hn le553 dL_law_2773 (fun H locs cells slots I hn1 hn2 => ?_)
      have I : s_I G q294.2 s H locs := I
      have hn : cells + σ0.2.1 ≤ q294.2.2.1 ∧ slots + σ0.2.2.1 ≤ q294.2.2.2.1 := ⟨hn1, hn2⟩
      refine lv_istore (lv' := [(6, .int q294.1), (5, .int q292.1), (0, .ref v0), (1, .ref v1), (2, .ref v2), (3, .ref v3), (4, .int v4)]) hx hb dL_law_2776 hl (by decide) rfl (fun ls hl => ?_)
      refine lv_aload_n hx hb dL_law_2778 rfl (lv_at hl 4 rfl) ?_
      refine r_callV (Y := M_X8_thrown) (v := some (.int q295.1)) X I w_1671 my_X8_thrown (by omega) (t_X8_thrown (G := G) (d := d + 137) h551) (b_X8_thrown h551) rfl rfl hl.1 rfl (Nat.le_of_ble_eq_true rfl) hn le552 dL_law_2779 (fun H locs cells slots I hn1 hn2 => ?_)
      have I : s_I G q295.2 s H locs := I
      have hn : cells + σ0.2.1 ≤ q295.2.2.1 ∧ slots + σ0.2.2.1 ≤ q295.2.2.2.1 := ⟨hn1, hn2⟩
      refine lv_iload hx hb dL_law_2782 (lv_at hl 1 rfl) ?_
      rcases s_ite hf with ⟨c555, hf⟩ | ⟨c555, hf⟩
      · refine lv_icmp_eq (tgt := 2789) hx hb dL_law_2784 (by decide) (fun _ => ?_) (fun n => absurd c555 n)
        refine lv_iload hx hb dL_law_2789 (lv_at hl 1 rfl) ?_
        rcases s_ite hf with ⟨c556, hf⟩ | ⟨c556, hf⟩
        · refine lv_if_ne (tgt := 2806) hx hb dL_law_2791 (by decide) (fun n => absurd c556 n) (fun _ => ?_)
          obtain ⟨x296, h557, hf⟩ := s_bind hf
          refine lv_aload_n hx hb dL_law_2794 rfl (lv_at hl 5 rfl) ?_
          refine lv_iconst (v := 0) hx hb dL_law_2795 (by decide) ?_
          refine r_lald X I h557 dL_law_2796 ?_
          refine lv_iload hx hb dL_law_2797 (lv_at hl 0 rfl) ?_
          refine lv_i2l hx hb dL_law_2799 rfl ?_
          refine W.lcmp hx hb dL_law_2800 ?_
          rcases s_ite hf with ⟨c558, hf⟩ | ⟨c558, hf⟩
          · refine lv_if_eq (tgt := 2806) hx hb dL_law_2801 (by decide) (fun _ => ?_) (fun n => absurd c558 n)
            cases hf
            have k : s_V G (d + 139) M_L_law vs0 σ0 Y_L_law (2806, [.ref v0, .ref v1, .ref v2, .ref v3, .int v4], q295.2) (e_I r) := k
            exact k.2 p e s m below meth c _ _ _ _ _ X I hn.1 hn.2 (lv_sub hl [2, 3, 4, 5, 6] rfl)
          · refine lv_if_eq (tgt := 2806) hx hb dL_law_2801 (by decide) (fun n => absurd n c558) (fun _ => ?_)
            cases hf
            have k : _ = r := k
            subst k
            refine lv_iconst (v := 0) hx hb dL_law_2804 (by decide) ?_
            exact r_iret X I rfl rfl rfl hn dL_law_2805
        · refine lv_if_ne (tgt := 2806) hx hb dL_law_2791 (by decide) (fun _ => ?_) (fun n => absurd n c556)
          cases hf
          have k : s_V G (d + 139) M_L_law vs0 σ0 Y_L_law (2806, [.ref v0, .ref v1, .ref v2, .ref v3, .int v4], q295.2) (e_I r) := k
          exact k.2 p e s m below meth c _ _ _ _ _ X I hn.1 hn.2 (lv_sub hl [2, 3, 4, 5, 6] rfl)
      · refine lv_icmp_eq (tgt := 2789) hx hb dL_law_2784 (by decide) (fun n => absurd n c555) (fun _ => ?_)
        cases hf
        have k : _ = r := k
        subst k
        refine lv_iconst (v := 0) hx hb dL_law_2787 (by decide) ?_
        exact r_iret X I rfl rfl rfl hn dL_law_2788
    rcases s_ite hf with ⟨c559, hf⟩ | ⟨c559, hf⟩
    · refine lv_tableIn (tgt := 2809) (off := 2769) hx hb dL_law_40 (by rw [c559]; decide) (by rw [c559]; decide) (by rw [c559]; rfl) (by decide) ?_
      obtain ⟨q297, h560, hf⟩ := s_bind hf
      obtain ⟨q298, h561, hf⟩ := s_bind hf
      have le562 : s_le q298.2 (e_I r).2 := by
        refine s_lek hem_I ?_ k
        rcases s_ite hf with ⟨-, hf⟩ | ⟨-, hf⟩
        · cases hf
          exact s_le.rf
        · cases hf
          exact s_le.rf
      have le563 := s_le.tr (l_X8_dearer h561) le562
      refine lv_aload_n hx hb dL_law_2809 rfl (lv_at hl 1 rfl) ?_
      refine r_callV (Y := M_X7_dearer) (v := some (.int q297.1)) X I w_612 my_X7_dearer (by omega) (t_X7_dearer (G := G) (d := d + 132) h560) (b_X7_dearer h560) rfl rfl hl.1 rfl (Nat.le_of_ble_eq_true rfl) hn le563 dL_law_2810 (fun H locs cells slots I hn1 hn2 => ?_)
      have I : s_I G q297.2 s H locs := I
      have hn : cells + σ0.2.1 ≤ q297.2.2.1 ∧ slots + σ0.2.2.1 ≤ q297.2.2.2.1 := ⟨hn1, hn2⟩
      refine lv_aload_n hx hb dL_law_2813 rfl (lv_at hl 2 rfl) ?_
      refine r_callV (Y := M_X8_dearer) (v := some (.int q298.1)) X I w_2339 my_X8_dearer (by omega) (t_X8_dearer (G := G) (d := d + 130) h561) (b_X8_dearer h561) rfl rfl hl.1 rfl (Nat.le_of_ble_eq_true rfl) hn le562 dL_law_2814 (fun H locs cells slots I hn1 hn2 => ?_)
      have I : s_I G q298.2 s H locs := I
      have hn : cells + σ0.2.1 ≤ q298.2.2.1 ∧ slots + σ0.2.2.1 ≤ q298.2.2.2.1 := ⟨hn1, hn2⟩
      rcases s_ite hf with ⟨c564, hf⟩ | ⟨c564, hf⟩
      · refine lv_icmp_eq (tgt := 2927) hx hb dL_law_2817 (by decide) (fun _ => ?_) (fun n => absurd c564 n)
        cases hf
        have k : s_V G (d + 139) M_L_law vs0 σ0 Y_L_law (2927, [.ref v0, .ref v1, .ref v2, .ref v3, .int v4], q298.2) (e_I r) := k
        exact k.2 p e s m below meth c _ _ _ _ _ X I hn.1 hn.2 (lv_sub hl [0, 1, 2, 3, 4] rfl)
      · refine lv_icmp_eq (tgt := 2927) hx hb dL_law_2817 (by decide) (fun n => absurd n c564) (fun _ => ?_)
        cases hf
        have k : _ = r := k
        subst k
        refine lv_iconst (v := 0) hx hb dL_law_2820 (by decide) ?_
        exact r_iret X I rfl rfl rfl hn dL_law_2821
    rcases s_ite hf with ⟨c565, hf⟩ | ⟨c565, hf⟩
    · refine lv_tableIn (tgt := 2822) (off := 2782) hx hb dL_law_40 (by rw [c565]; decide) (by rw [c565]; decide) (by rw [c565]; rfl) (by decide) ?_
      obtain ⟨x299, h566, hf⟩ := s_bind hf
      obtain ⟨q300, h567, hf⟩ := s_bind hf
      obtain ⟨x301, h568, hf⟩ := s_bind hf
      obtain ⟨q302, h569, hf⟩ := s_bind hf
      obtain ⟨q303, h570, hf⟩ := s_bind hf
      have le571 : s_le q303.2 (e_I r).2 := by
        refine s_lek hem_I ?_ k
        rcases s_ite hf with ⟨-, hf⟩ | ⟨-, hf⟩
        · rcases s_ite hf with ⟨-, hf⟩ | ⟨-, hf⟩
          · obtain ⟨x304, -, hf⟩ := s_bind hf
            rcases s_ite hf with ⟨-, hf⟩ | ⟨-, hf⟩
            · cases hf
              exact s_le.rf
            · cases hf
              exact s_le.rf
          · cases hf
            exact s_le.rf
        · cases hf
          exact s_le.rf
      have le572 := s_le.tr (l_X8_thrown h570) le571
      have le573 := s_le.tr (l_X8_chain h569) le572
      refine lv_aload_n hx hb dL_law_2822 rfl (lv_at hl 1 rfl) ?_
      refine lv_aload_n hx hb dL_law_2823 rfl (lv_at hl 0 rfl) ?_
      refine lv_iload hx hb dL_law_2824 (lv_at hl 4 rfl) ?_
      refine lv_iconst (v := 1) hx hb dL_law_2826 (by decide) ?_
      refine lv_iadd hx hb dL_law_2827 ?_
      refine r_iald X I h566 dL_law_2828 ?_
      refine lv_aload_n hx hb dL_law_2829 rfl (lv_at hl 3 rfl) ?_
      refine r_callX (Y := M_L_chain) (v := some (.int q300.1)) X I w_1660 my_L_chain (by omega) (t_L_chain (G := G) (d := d + 133) h567) rfl rfl hl.1 rfl (Nat.le_of_ble_eq_true rfl) hn le573 dL_law_2830 (fun H locs cells slots I hn1 hn2 => ?_)
      have I : s_I G q300.2 s H locs := I
      have hn : cells + σ0.2.1 ≤ q300.2.2.1 ∧ slots + σ0.2.2.1 ≤ q300.2.2.2.1 := ⟨hn1, hn2⟩
      refine lv_istore (lv' := [(5, .int q300.1), (0, .ref v0), (1, .ref v1), (2, .ref v2), (3, .ref v3), (4, .int v4)]) hx hb dL_law_2833 hl (by decide) rfl (fun ls hl => ?_)
      refine lv_aload_n hx hb dL_law_2835 rfl (lv_at hl 3 rfl) ?_
      refine lv_aload_n hx hb dL_law_2836 rfl (lv_at hl 1 rfl) ?_
      refine lv_iload hx hb dL_law_2837 (lv_at hl 5 rfl) ?_
      refine lv_iconst (v := 1) hx hb dL_law_2839 (by decide) ?_
      refine lv_iadd hx hb dL_law_2840 ?_
      refine r_iald X I h568 dL_law_2841 ?_
      refine r_callV (Y := M_X8_chain) (v := some (.int q302.1)) X I w_2128 my_X8_chain (by omega) (t_X8_chain (G := G) (d := d + 135) h569) (b_X8_chain h569) rfl rfl hl.1 rfl (Nat.le_of_ble_eq_true rfl) hn le572 dL_law_2842 (fun H locs cells slots I hn1 hn2 => ?_)
      have I : s_I G q302.2 s H locs := I
      have hn : cells + σ0.2.1 ≤ q302.2.2.1 ∧ slots + σ0.2.2.1 ≤ q302.2.2.2.1 := ⟨hn1, hn2⟩
      refine lv_istore (lv' := [(6, .int q302.1), (5, .int q300.1), (0, .ref v0), (1, .ref v1), (2, .ref v2), (3, .ref v3), (4, .int v4)]) hx hb dL_law_2845 hl (by decide) rfl (fun ls hl => ?_)
      refine lv_aload_n hx hb dL_law_2847 rfl (lv_at hl 4 rfl) ?_
      refine r_callV (Y := M_X8_thrown) (v := some (.int q303.1)) X I w_1671 my_X8_thrown (by omega) (t_X8_thrown (G := G) (d := d + 137) h570) (b_X8_thrown h570) rfl rfl hl.1 rfl (Nat.le_of_ble_eq_true rfl) hn le571 dL_law_2848 (fun H locs cells slots I hn1 hn2 => ?_)
      have I : s_I G q303.2 s H locs := I
      have hn : cells + σ0.2.1 ≤ q303.2.2.1 ∧ slots + σ0.2.2.1 ≤ q303.2.2.2.1 := ⟨hn1, hn2⟩
      refine lv_iload hx hb dL_law_2851 (lv_at hl 1 rfl) ?_
      rcases s_ite hf with ⟨c574, hf⟩ | ⟨c574, hf⟩
      · refine lv_icmp_eq (tgt := 2858) hx hb dL_law_2853 (by decide) (fun _ => ?_) (fun n => absurd c574 n)
        refine lv_iload hx hb dL_law_2858 (lv_at hl 1 rfl) ?_
        rcases s_ite hf with ⟨c575, hf⟩ | ⟨c575, hf⟩
        · refine lv_if_ne (tgt := 2875) hx hb dL_law_2860 (by decide) (fun n => absurd c575 n) (fun _ => ?_)
          obtain ⟨x304, h576, hf⟩ := s_bind hf
          refine lv_aload_n hx hb dL_law_2863 rfl (lv_at hl 5 rfl) ?_
          refine lv_iconst (v := 0) hx hb dL_law_2864 (by decide) ?_
          refine r_lald X I h576 dL_law_2865 ?_
          refine lv_iload hx hb dL_law_2866 (lv_at hl 0 rfl) ?_
          refine lv_i2l hx hb dL_law_2868 rfl ?_
          refine W.lcmp hx hb dL_law_2869 ?_
          rcases s_ite hf with ⟨c577, hf⟩ | ⟨c577, hf⟩
          · refine lv_if_eq (tgt := 2875) hx hb dL_law_2870 (by decide) (fun _ => ?_) (fun n => absurd c577 n)
            cases hf
            have k : s_V G (d + 139) M_L_law vs0 σ0 Y_L_law (2875, [.ref v0, .ref v1, .ref v2, .ref v3, .int v4], q303.2) (e_I r) := k
            exact k.2 p e s m below meth c _ _ _ _ _ X I hn.1 hn.2 (lv_sub hl [2, 3, 4, 5, 6] rfl)
          · refine lv_if_eq (tgt := 2875) hx hb dL_law_2870 (by decide) (fun n => absurd n c577) (fun _ => ?_)
            cases hf
            have k : _ = r := k
            subst k
            refine lv_iconst (v := 0) hx hb dL_law_2873 (by decide) ?_
            exact r_iret X I rfl rfl rfl hn dL_law_2874
        · refine lv_if_ne (tgt := 2875) hx hb dL_law_2860 (by decide) (fun _ => ?_) (fun n => absurd n c575)
          cases hf
          have k : s_V G (d + 139) M_L_law vs0 σ0 Y_L_law (2875, [.ref v0, .ref v1, .ref v2, .ref v3, .int v4], q303.2) (e_I r) := k
          exact k.2 p e s m below meth c _ _ _ _ _ X I hn.1 hn.2 (lv_sub hl [2, 3, 4, 5, 6] rfl)
      · refine lv_icmp_eq (tgt := 2858) hx hb dL_law_2853 (by decide) (fun n => absurd n c574) (fun _ => ?_)
        cases hf
        have k : _ = r := k
        subst k
        refine lv_iconst (v := 0) hx hb dL_law_2856 (by decide) ?_
        exact r_iret X I rfl rfl rfl hn dL_law_2857
    rcases s_ite hf with ⟨c578, hf⟩ | ⟨c578, hf⟩
    · refine lv_tableIn (tgt := 2878) (off := 2838) hx hb dL_law_40 (by rw [c578]; decide) (by rw [c578]; decide) (by rw [c578]; rfl) (by decide) ?_
      obtain ⟨q305, h579, hf⟩ := s_bind hf
      obtain ⟨q306, h580, hf⟩ := s_bind hf
      cases hf
      have k : s_V G (d + 139) M_L_law vs0 σ0 Y_L_law (2927, [.ref v0, .ref v1, .ref v2, .ref v3, .int v4], q306.2) (e_I r) := k
      have le581 : s_le q306.2 (e_I r).2 := k.1
      have le582 := s_le.tr (l_X8_image h580) le581
      refine lv_aload_n hx hb dL_law_2878 rfl (lv_at hl 1 rfl) ?_
      refine r_callV (Y := M_X7_image) (v := none) X I w_645 my_X7_image (by omega) (t_X7_image (G := G) (d := d + 136) h579) (b_X7_image h579) rfl rfl hl.1 rfl (Nat.le_of_ble_eq_true rfl) hn le582 dL_law_2879 (fun H locs cells slots I hn1 hn2 => ?_)
      have I : s_I G q305.2 s H locs := I
      have hn : cells + σ0.2.1 ≤ q305.2.2.1 ∧ slots + σ0.2.2.1 ≤ q305.2.2.2.1 := ⟨hn1, hn2⟩
      refine lv_aload_n hx hb dL_law_2882 rfl (lv_at hl 2 rfl) ?_
      refine r_callV (Y := M_X8_image) (v := none) X I w_1801 my_X8_image (by omega) (t_X8_image (G := G) (d := d + 137) h580) (b_X8_image h580) rfl rfl hl.1 rfl (Nat.le_of_ble_eq_true rfl) hn le581 dL_law_2883 (fun H locs cells slots I hn1 hn2 => ?_)
      have I : s_I G q306.2 s H locs := I
      have hn : cells + σ0.2.1 ≤ q306.2.2.1 ∧ slots + σ0.2.2.1 ≤ q306.2.2.2.1 := ⟨hn1, hn2⟩
      refine lv_goto (tgt := 2927) hx hb dL_law_2886 (by decide) ?_
      exact k.2 p e s m below meth c _ _ _ _ _ X I hn.1 hn.2 (lv_sub hl [0, 1, 2, 3, 4] rfl)
    rcases s_ite hf with ⟨c583, hf⟩ | ⟨c583, hf⟩
    · refine lv_tableIn (tgt := 2889) (off := 2849) hx hb dL_law_40 (by rw [c583]; decide) (by rw [c583]; decide) (by rw [c583]; rfl) (by decide) ?_
      obtain ⟨q307, h584, hf⟩ := s_bind hf
      obtain ⟨q308, h585, hf⟩ := s_bind hf
      have le586 : s_le q308.2 (e_I r).2 := by
        refine s_lek hem_I ?_ k
        rcases s_ite hf with ⟨-, hf⟩ | ⟨-, hf⟩
        · cases hf
          exact s_le.rf
        · cases hf
          exact s_le.rf
      have le587 := s_le.tr (l_X8_back h585) le586
      refine lv_aload_n hx hb dL_law_2889 rfl (lv_at hl 1 rfl) ?_
      refine r_callV (Y := M_X7_back) (v := some (.int q307.1)) X I w_656 my_X7_back (by omega) (t_X7_back (G := G) (d := d + 136) h584) (b_X7_back h584) rfl rfl hl.1 rfl (Nat.le_of_ble_eq_true rfl) hn le587 dL_law_2890 (fun H locs cells slots I hn1 hn2 => ?_)
      have I : s_I G q307.2 s H locs := I
      have hn : cells + σ0.2.1 ≤ q307.2.2.1 ∧ slots + σ0.2.2.1 ≤ q307.2.2.2.1 := ⟨hn1, hn2⟩
      refine lv_aload_n hx hb dL_law_2893 rfl (lv_at hl 2 rfl) ?_
      refine r_callV (Y := M_X8_back) (v := some (.int q308.1)) X I w_1805 my_X8_back (by omega) (t_X8_back (G := G) (d := d + 135) h585) (b_X8_back h585) rfl rfl hl.1 rfl (Nat.le_of_ble_eq_true rfl) hn le586 dL_law_2894 (fun H locs cells slots I hn1 hn2 => ?_)
      have I : s_I G q308.2 s H locs := I
      have hn : cells + σ0.2.1 ≤ q308.2.2.1 ∧ slots + σ0.2.2.1 ≤ q308.2.2.2.1 := ⟨hn1, hn2⟩
      rcases s_ite hf with ⟨c588, hf⟩ | ⟨c588, hf⟩
      · refine lv_icmp_eq (tgt := 2927) hx hb dL_law_2897 (by decide) (fun _ => ?_) (fun n => absurd c588 n)
        cases hf
        have k : s_V G (d + 139) M_L_law vs0 σ0 Y_L_law (2927, [.ref v0, .ref v1, .ref v2, .ref v3, .int v4], q308.2) (e_I r) := k
        exact k.2 p e s m below meth c _ _ _ _ _ X I hn.1 hn.2 (lv_sub hl [0, 1, 2, 3, 4] rfl)
      · refine lv_icmp_eq (tgt := 2927) hx hb dL_law_2897 (by decide) (fun n => absurd n c588) (fun _ => ?_)
        cases hf
        have k : _ = r := k
        subst k
        refine lv_iconst (v := 0) hx hb dL_law_2900 (by decide) ?_
        exact r_iret X I rfl rfl rfl hn dL_law_2901
    rcases s_ite hf with ⟨c589, hf⟩ | ⟨c589, hf⟩
    · refine lv_tableIn (tgt := 2902) (off := 2862) hx hb dL_law_40 (by rw [c589]; decide) (by rw [c589]; decide) (by rw [c589]; rfl) (by decide) ?_
      obtain ⟨x309, h590, hf⟩ := s_bind hf
      obtain ⟨q310, h591, hf⟩ := s_bind hf
      obtain ⟨x311, h592, hf⟩ := s_bind hf
      obtain ⟨q312, h593, hf⟩ := s_bind hf
      have le594 : s_le q312.2 (e_I r).2 := by
        refine s_lek hem_I ?_ k
        rcases s_ite hf with ⟨-, hf⟩ | ⟨-, hf⟩
        · cases hf
          exact s_le.rf
        · cases hf
          exact s_le.rf
      have le595 := s_le.tr (l_X8_count h593) le594
      refine lv_aload_n hx hb dL_law_2902 rfl (lv_at hl 1 rfl) ?_
      refine lv_aload_n hx hb dL_law_2903 rfl (lv_at hl 0 rfl) ?_
      refine lv_iload hx hb dL_law_2904 (lv_at hl 4 rfl) ?_
      refine lv_iconst (v := 1) hx hb dL_law_2906 (by decide) ?_
      refine lv_iadd hx hb dL_law_2907 ?_
      refine r_iald X I h590 dL_law_2908 ?_
      refine r_callV (Y := M_X7_count) (v := some (.int q310.1)) X I w_664 my_X7_count (by omega) (t_X7_count (G := G) (d := d + 131) h591) (b_X7_count h591) rfl rfl hl.1 rfl (Nat.le_of_ble_eq_true rfl) hn le595 dL_law_2909 (fun H locs cells slots I hn1 hn2 => ?_)
      have I : s_I G q310.2 s H locs := I
      have hn : cells + σ0.2.1 ≤ q310.2.2.1 ∧ slots + σ0.2.2.1 ≤ q310.2.2.2.1 := ⟨hn1, hn2⟩
      refine lv_aload_n hx hb dL_law_2912 rfl (lv_at hl 2 rfl) ?_
      refine lv_aload_n hx hb dL_law_2913 rfl (lv_at hl 0 rfl) ?_
      refine lv_iload hx hb dL_law_2914 (lv_at hl 4 rfl) ?_
      refine lv_iconst (v := 1) hx hb dL_law_2916 (by decide) ?_
      refine lv_iadd hx hb dL_law_2917 ?_
      refine r_iald X I h592 dL_law_2918 ?_
      refine r_callV (Y := M_X8_count) (v := some (.int q312.1)) X I w_2343 my_X8_count (by omega) (t_X8_count (G := G) (d := d + 131) h593) (b_X8_count h593) rfl rfl hl.1 rfl (Nat.le_of_ble_eq_true rfl) hn le594 dL_law_2919 (fun H locs cells slots I hn1 hn2 => ?_)
      have I : s_I G q312.2 s H locs := I
      have hn : cells + σ0.2.1 ≤ q312.2.2.1 ∧ slots + σ0.2.2.1 ≤ q312.2.2.2.1 := ⟨hn1, hn2⟩
      rcases s_ite hf with ⟨c596, hf⟩ | ⟨c596, hf⟩
      · refine lv_icmp_eq (tgt := 2927) hx hb dL_law_2922 (by decide) (fun _ => ?_) (fun n => absurd c596 n)
        cases hf
        have k : s_V G (d + 139) M_L_law vs0 σ0 Y_L_law (2927, [.ref v0, .ref v1, .ref v2, .ref v3, .int v4], q312.2) (e_I r) := k
        exact k.2 p e s m below meth c _ _ _ _ _ X I hn.1 hn.2 (lv_sub hl [0, 1, 2, 3, 4] rfl)
      · refine lv_icmp_eq (tgt := 2927) hx hb dL_law_2922 (by decide) (fun n => absurd n c596) (fun _ => ?_)
        cases hf
        have k : _ = r := k
        subst k
        refine lv_iconst (v := 0) hx hb dL_law_2925 (by decide) ?_
        exact r_iret X I rfl rfl rfl hn dL_law_2926
    refine lv_tableOut (tgt := 2927) hx hb dL_law_40 (by
        have tc4 := lv_neT (a := 0) c4 (by decide)
        have tc20 := lv_neT (a := 1) c20 (by decide)
        have tc28 := lv_neT (a := 2) c28 (by decide)
        have tc39 := lv_neT (a := 3) c39 (by decide)
        have tc45 := lv_neT (a := 4) c45 (by decide)
        have tc55 := lv_neT (a := 5) c55 (by decide)
        have tc68 := lv_neT (a := 6) c68 (by decide)
        have tc83 := lv_neT (a := 7) c83 (by decide)
        have tc98 := lv_neT (a := 8) c98 (by decide)
        have tc111 := lv_neT (a := 9) c111 (by decide)
        have tc126 := lv_neT (a := 10) c126 (by decide)
        have tc143 := lv_neT (a := 11) c143 (by decide)
        have tc148 := lv_neT (a := 12) c148 (by decide)
        have tc161 := lv_neT (a := 13) c161 (by decide)
        have tc184 := lv_neT (a := 14) c184 (by decide)
        have tc199 := lv_neT (a := 15) c199 (by decide)
        have tc214 := lv_neT (a := 16) c214 (by decide)
        have tc220 := lv_neT (a := 17) c220 (by decide)
        have tc233 := lv_neT (a := 18) c233 (by decide)
        have tc246 := lv_neT (a := 19) c246 (by decide)
        have tc259 := lv_neT (a := 20) c259 (by decide)
        have tc274 := lv_neT (a := 21) c274 (by decide)
        have tc289 := lv_neT (a := 22) c289 (by decide)
        have tc304 := lv_neT (a := 23) c304 (by decide)
        have tc321 := lv_neT (a := 24) c321 (by decide)
        have tc338 := lv_neT (a := 25) c338 (by decide)
        have tc353 := lv_neT (a := 26) c353 (by decide)
        have tc370 := lv_neT (a := 27) c370 (by decide)
        have tc387 := lv_neT (a := 28) c387 (by decide)
        have tc400 := lv_neT (a := 29) c400 (by decide)
        have tc415 := lv_neT (a := 30) c415 (by decide)
        have tc428 := lv_neT (a := 31) c428 (by decide)
        have tc441 := lv_neT (a := 32) c441 (by decide)
        have tc454 := lv_neT (a := 33) c454 (by decide)
        have tc467 := lv_neT (a := 34) c467 (by decide)
        have tc482 := lv_neT (a := 35) c482 (by decide)
        have tc497 := lv_neT (a := 36) c497 (by decide)
        have tc516 := lv_neT (a := 37) c516 (by decide)
        have tc529 := lv_neT (a := 38) c529 (by decide)
        have tc546 := lv_neT (a := 39) c546 (by decide)
        have tc559 := lv_neT (a := 40) c559 (by decide)
        have tc565 := lv_neT (a := 41) c565 (by decide)
        have tc578 := lv_neT (a := 42) c578 (by decide)
        have tc583 := lv_neT (a := 43) c583 (by decide)
        have tc589 := lv_neT (a := 44) c589 (by decide)
        omega) (by decide) ?_
    cases hf
    have k : s_V G (d + 139) M_L_law vs0 σ0 Y_L_law (2927, [.ref v0, .ref v1, .ref v2, .ref v3, .int v4], σ) (e_I r) := k
    exact k.2 p e s m below meth c _ _ _ _ _ X I hn.1 hn.2 (lv_sub hl [0, 1, 2, 3, 4] rfl)
set_option maxRecDepth 100000 in
set_option maxHeartbeats 4000000 in
theorem v_L_law_375 {G : sG} {d : Nat} {vs0 : List Value} {σ0 : sS} {v0 : Nat} {v1 : Nat} {v2 : Nat} {v3 : Nat} {v4 : Int32} {σ : sS} {z : sZ Int32} {r : Int32 × sS} (hf : T_L_law_375 v0 v1 v2 v3 v4 σ = some z) (k : s_K G (d + 139) M_L_law vs0 σ0 Y_L_law e_I z r) : s_V G (d + 139) M_L_law vs0 σ0 Y_L_law (375, [.ref v0, .ref v1, .ref v2, .ref v3, .int v4], σ) (e_I r) := by
  have le0 : s_le σ (e_I r).2 := s_lek hem_I (l_L_law_375 hf) k
  refine ⟨le0, ?_⟩
  intro p e s m below meth c H locs cells slots ls X I hn1 hn2 hl
  have hn : cells + σ0.2.1 ≤ σ.2.1 ∧ slots + σ0.2.2.1 ≤ σ.2.2.1 := ⟨hn1, hn2⟩
  have hl : lv_has ls 8 [(0, .ref v0), (1, .ref v1), (2, .ref v2), (3, .ref v3), (4, .int v4)] := hl
  have hx := X.1
  have hb : c.code = cL_law := X.2.1
  have hown : s.vm.findClass RL = some m.cls := X.2.2.2.2.2.1
  have hts := X.2.2.2.2.2.2.1
  refine W.eq (g2 := F0 m 375 ls []) rfl ?_
  unfold T_L_law_375 at hf
  cases hf
  have k : s_V G (d + 139) M_L_law vs0 σ0 Y_L_law (2927, [.ref v0, .ref v1, .ref v2, .ref v3, .int v4], σ) (e_I r) := k
  refine lv_goto (tgt := 2927) hx hb dL_law_375 (by decide) ?_
  exact k.2 p e s m below meth c _ _ _ _ _ X I hn.1 hn.2 (lv_sub hl [0, 1, 2, 3, 4] rfl)
set_option maxRecDepth 100000 in
set_option maxHeartbeats 4000000 in
theorem v_L_law_480 {G : sG} {d : Nat} {vs0 : List Value} {σ0 : sS} {v0 : Nat} {v1 : Nat} {v2 : Nat} {v3 : Nat} {v4 : Int32} {σ : sS} {z : sZ Int32} {r : Int32 × sS} (hf : T_L_law_480 v0 v1 v2 v3 v4 σ = some z) (k : s_K G (d + 139) M_L_law vs0 σ0 Y_L_law e_I z r) : s_V G (d + 139) M_L_law vs0 σ0 Y_L_law (480, [.ref v0, .ref v1, .ref v2, .ref v3, .int v4], σ) (e_I r) := by
  have le0 : s_le σ (e_I r).2 := s_lek hem_I (l_L_law_480 hf) k
  refine ⟨le0, ?_⟩
  intro p e s m below meth c H locs cells slots ls X I hn1 hn2 hl
  have hn : cells + σ0.2.1 ≤ σ.2.1 ∧ slots + σ0.2.2.1 ≤ σ.2.2.1 := ⟨hn1, hn2⟩
  have hl : lv_has ls 8 [(0, .ref v0), (1, .ref v1), (2, .ref v2), (3, .ref v3), (4, .int v4)] := hl
  have hx := X.1
  have hb : c.code = cL_law := X.2.1
  have hown : s.vm.findClass RL = some m.cls := X.2.2.2.2.2.1
  have hts := X.2.2.2.2.2.2.1
  refine W.eq (g2 := F0 m 480 ls []) rfl ?_
  unfold T_L_law_480 at hf
  cases hf
  have k : s_V G (d + 139) M_L_law vs0 σ0 Y_L_law (2927, [.ref v0, .ref v1, .ref v2, .ref v3, .int v4], σ) (e_I r) := k
  refine lv_goto (tgt := 2927) hx hb dL_law_480 (by decide) ?_
  exact k.2 p e s m below meth c _ _ _ _ _ X I hn.1 hn.2 (lv_sub hl [0, 1, 2, 3, 4] rfl)
set_option maxRecDepth 100000 in
set_option maxHeartbeats 4000000 in
theorem v_L_law_549 {G : sG} {d : Nat} {vs0 : List Value} {σ0 : sS} {v0 : Nat} {v1 : Nat} {v2 : Nat} {v3 : Nat} {v4 : Int32} {w0 : Int64} {w1 : Int64} {σ : sS} {z : sZ Int32} {r : Int32 × sS} (hf : T_L_law_549 v0 v1 v2 v3 v4 w0 w1 σ = some z) (k : s_K G (d + 139) M_L_law vs0 σ0 Y_L_law e_I z r) : s_V G (d + 139) M_L_law vs0 σ0 Y_L_law (549, [.ref v0, .ref v1, .ref v2, .ref v3, .int v4, .long w0, .long w1], σ) (e_I r) := by
  have le0 : s_le σ (e_I r).2 := s_lek hem_I (l_L_law_549 hf) k
  refine ⟨le0, ?_⟩
  intro p e s m below meth c H locs cells slots ls X I hn1 hn2 hl
  have hn : cells + σ0.2.1 ≤ σ.2.1 ∧ slots + σ0.2.2.1 ≤ σ.2.2.1 := ⟨hn1, hn2⟩
  have hl : lv_has ls 8 [(0, .ref v0), (1, .ref v1), (2, .ref v2), (3, .ref v3), (4, .int v4)] := hl
  have hx := X.1
  have hb : c.code = cL_law := X.2.1
  have hown : s.vm.findClass RL = some m.cls := X.2.2.2.2.2.1
  have hts := X.2.2.2.2.2.2.1
  refine W.eq (g2 := F0 m 549 ls [.long w0, .long w1]) rfl ?_
  unfold T_L_law_549 at hf
  refine W.lcmp hx hb dL_law_549 ?_
  rcases s_ite hf with ⟨c1, hf⟩ | ⟨c1, hf⟩
  · refine lv_if_eq (tgt := 555) hx hb dL_law_550 (by decide) (fun _ => ?_) (fun n => absurd c1 n)
    cases hf
    have k : s_V G (d + 139) M_L_law vs0 σ0 Y_L_law (555, [.ref v0, .ref v1, .ref v2, .ref v3, .int v4], σ) (e_I r) := k
    exact k.2 p e s m below meth c _ _ _ _ _ X I hn.1 hn.2 (lv_sub hl [0, 1, 2, 3, 4] rfl)
  · refine lv_if_eq (tgt := 555) hx hb dL_law_550 (by decide) (fun n => absurd n c1) (fun _ => ?_)
    cases hf
    have k : _ = r := k
    subst k
    refine lv_iconst (v := 0) hx hb dL_law_553 (by decide) ?_
    exact r_iret X I rfl rfl rfl hn dL_law_554
set_option maxRecDepth 100000 in
set_option maxHeartbeats 4000000 in
theorem v_L_law_555 {G : sG} {d : Nat} {vs0 : List Value} {σ0 : sS} {v0 : Nat} {v1 : Nat} {v2 : Nat} {v3 : Nat} {v4 : Int32} {σ : sS} {z : sZ Int32} {r : Int32 × sS} (hf : T_L_law_555 v0 v1 v2 v3 v4 σ = some z) (k : s_K G (d + 139) M_L_law vs0 σ0 Y_L_law e_I z r) : s_V G (d + 139) M_L_law vs0 σ0 Y_L_law (555, [.ref v0, .ref v1, .ref v2, .ref v3, .int v4], σ) (e_I r) := by
  have le0 : s_le σ (e_I r).2 := s_lek hem_I (l_L_law_555 hf) k
  refine ⟨le0, ?_⟩
  intro p e s m below meth c H locs cells slots ls X I hn1 hn2 hl
  have hn : cells + σ0.2.1 ≤ σ.2.1 ∧ slots + σ0.2.2.1 ≤ σ.2.2.1 := ⟨hn1, hn2⟩
  have hl : lv_has ls 8 [(0, .ref v0), (1, .ref v1), (2, .ref v2), (3, .ref v3), (4, .int v4)] := hl
  have hx := X.1
  have hb : c.code = cL_law := X.2.1
  have hown : s.vm.findClass RL = some m.cls := X.2.2.2.2.2.1
  have hts := X.2.2.2.2.2.2.1
  refine W.eq (g2 := F0 m 555 ls []) rfl ?_
  unfold T_L_law_555 at hf
  cases hf
  have k : s_V G (d + 139) M_L_law vs0 σ0 Y_L_law (2927, [.ref v0, .ref v1, .ref v2, .ref v3, .int v4], σ) (e_I r) := k
  refine lv_goto (tgt := 2927) hx hb dL_law_555 (by decide) ?_
  exact k.2 p e s m below meth c _ _ _ _ _ X I hn.1 hn.2 (lv_sub hl [0, 1, 2, 3, 4] rfl)
set_option maxRecDepth 100000 in
set_option maxHeartbeats 4000000 in
theorem v_L_law_624 {G : sG} {d : Nat} {vs0 : List Value} {σ0 : sS} {v0 : Nat} {v1 : Nat} {v2 : Nat} {v3 : Nat} {v4 : Int32} {w0 : Int64} {w1 : Int64} {σ : sS} {z : sZ Int32} {r : Int32 × sS} (hf : T_L_law_624 v0 v1 v2 v3 v4 w0 w1 σ = some z) (k : s_K G (d + 139) M_L_law vs0 σ0 Y_L_law e_I z r) : s_V G (d + 139) M_L_law vs0 σ0 Y_L_law (624, [.ref v0, .ref v1, .ref v2, .ref v3, .int v4, .long w0, .long w1], σ) (e_I r) := by
  have le0 : s_le σ (e_I r).2 := s_lek hem_I (l_L_law_624 hf) k
  refine ⟨le0, ?_⟩
  intro p e s m below meth c H locs cells slots ls X I hn1 hn2 hl
  have hn : cells + σ0.2.1 ≤ σ.2.1 ∧ slots + σ0.2.2.1 ≤ σ.2.2.1 := ⟨hn1, hn2⟩
  have hl : lv_has ls 8 [(0, .ref v0), (1, .ref v1), (2, .ref v2), (3, .ref v3), (4, .int v4)] := hl
  have hx := X.1
  have hb : c.code = cL_law := X.2.1
  have hown : s.vm.findClass RL = some m.cls := X.2.2.2.2.2.1
  have hts := X.2.2.2.2.2.2.1
  refine W.eq (g2 := F0 m 624 ls [.long w0, .long w1]) rfl ?_
  unfold T_L_law_624 at hf
  refine W.lcmp hx hb dL_law_624 ?_
  rcases s_ite hf with ⟨c1, hf⟩ | ⟨c1, hf⟩
  · refine lv_if_eq (tgt := 630) hx hb dL_law_625 (by decide) (fun _ => ?_) (fun n => absurd c1 n)
    cases hf
    have k : s_V G (d + 139) M_L_law vs0 σ0 Y_L_law (630, [.ref v0, .ref v1, .ref v2, .ref v3, .int v4], σ) (e_I r) := k
    exact k.2 p e s m below meth c _ _ _ _ _ X I hn.1 hn.2 (lv_sub hl [0, 1, 2, 3, 4] rfl)
  · refine lv_if_eq (tgt := 630) hx hb dL_law_625 (by decide) (fun n => absurd n c1) (fun _ => ?_)
    cases hf
    have k : _ = r := k
    subst k
    refine lv_iconst (v := 0) hx hb dL_law_628 (by decide) ?_
    exact r_iret X I rfl rfl rfl hn dL_law_629
set_option maxRecDepth 100000 in
set_option maxHeartbeats 4000000 in
theorem v_L_law_630 {G : sG} {d : Nat} {vs0 : List Value} {σ0 : sS} {v0 : Nat} {v1 : Nat} {v2 : Nat} {v3 : Nat} {v4 : Int32} {σ : sS} {z : sZ Int32} {r : Int32 × sS} (hf : T_L_law_630 v0 v1 v2 v3 v4 σ = some z) (k : s_K G (d + 139) M_L_law vs0 σ0 Y_L_law e_I z r) : s_V G (d + 139) M_L_law vs0 σ0 Y_L_law (630, [.ref v0, .ref v1, .ref v2, .ref v3, .int v4], σ) (e_I r) := by
  have le0 : s_le σ (e_I r).2 := s_lek hem_I (l_L_law_630 hf) k
  refine ⟨le0, ?_⟩
  intro p e s m below meth c H locs cells slots ls X I hn1 hn2 hl
  have hn : cells + σ0.2.1 ≤ σ.2.1 ∧ slots + σ0.2.2.1 ≤ σ.2.2.1 := ⟨hn1, hn2⟩
  have hl : lv_has ls 8 [(0, .ref v0), (1, .ref v1), (2, .ref v2), (3, .ref v3), (4, .int v4)] := hl
  have hx := X.1
  have hb : c.code = cL_law := X.2.1
  have hown : s.vm.findClass RL = some m.cls := X.2.2.2.2.2.1
  have hts := X.2.2.2.2.2.2.1
  refine W.eq (g2 := F0 m 630 ls []) rfl ?_
  unfold T_L_law_630 at hf
  cases hf
  have k : s_V G (d + 139) M_L_law vs0 σ0 Y_L_law (2927, [.ref v0, .ref v1, .ref v2, .ref v3, .int v4], σ) (e_I r) := k
  refine lv_goto (tgt := 2927) hx hb dL_law_630 (by decide) ?_
  exact k.2 p e s m below meth c _ _ _ _ _ X I hn.1 hn.2 (lv_sub hl [0, 1, 2, 3, 4] rfl)
set_option maxRecDepth 100000 in
set_option maxHeartbeats 4000000 in
theorem v_L_law_686 {G : sG} {d : Nat} {vs0 : List Value} {σ0 : sS} {v0 : Nat} {v1 : Nat} {v2 : Nat} {v3 : Nat} {v4 : Int32} {σ : sS} {z : sZ Int32} {r : Int32 × sS} (hf : T_L_law_686 v0 v1 v2 v3 v4 σ = some z) (k : s_K G (d + 139) M_L_law vs0 σ0 Y_L_law e_I z r) : s_V G (d + 139) M_L_law vs0 σ0 Y_L_law (686, [.ref v0, .ref v1, .ref v2, .ref v3, .int v4], σ) (e_I r) := by
  have le0 : s_le σ (e_I r).2 := s_lek hem_I (l_L_law_686 hf) k
  refine ⟨le0, ?_⟩
  intro p e s m below meth c H locs cells slots ls X I hn1 hn2 hl
  have hn : cells + σ0.2.1 ≤ σ.2.1 ∧ slots + σ0.2.2.1 ≤ σ.2.2.1 := ⟨hn1, hn2⟩
  have hl : lv_has ls 8 [(0, .ref v0), (1, .ref v1), (2, .ref v2), (3, .ref v3), (4, .int v4)] := hl
  have hx := X.1
  have hb : c.code = cL_law := X.2.1
  have hown : s.vm.findClass RL = some m.cls := X.2.2.2.2.2.1
  have hts := X.2.2.2.2.2.2.1
  refine W.eq (g2 := F0 m 686 ls []) rfl ?_
  unfold T_L_law_686 at hf
  cases hf
  have k : s_V G (d + 139) M_L_law vs0 σ0 Y_L_law (2927, [.ref v0, .ref v1, .ref v2, .ref v3, .int v4], σ) (e_I r) := k
  refine lv_goto (tgt := 2927) hx hb dL_law_686 (by decide) ?_
  exact k.2 p e s m below meth c _ _ _ _ _ X I hn.1 hn.2 (lv_sub hl [0, 1, 2, 3, 4] rfl)
set_option maxRecDepth 100000 in
set_option maxHeartbeats 4000000 in
theorem v_L_law_754 {G : sG} {d : Nat} {vs0 : List Value} {σ0 : sS} {v0 : Nat} {v1 : Nat} {v2 : Nat} {v3 : Nat} {v4 : Int32} {σ : sS} {z : sZ Int32} {r : Int32 × sS} (hf : T_L_law_754 v0 v1 v2 v3 v4 σ = some z) (k : s_K G (d + 139) M_L_law vs0 σ0 Y_L_law e_I z r) : s_V G (d + 139) M_L_law vs0 σ0 Y_L_law (754, [.ref v0, .ref v1, .ref v2, .ref v3, .int v4], σ) (e_I r) := by
  have le0 : s_le σ (e_I r).2 := s_lek hem_I (l_L_law_754 hf) k
  refine ⟨le0, ?_⟩
  intro p e s m below meth c H locs cells slots ls X I hn1 hn2 hl
  have hn : cells + σ0.2.1 ≤ σ.2.1 ∧ slots + σ0.2.2.1 ≤ σ.2.2.1 := ⟨hn1, hn2⟩
  have hl : lv_has ls 8 [(0, .ref v0), (1, .ref v1), (2, .ref v2), (3, .ref v3), (4, .int v4)] := hl
  have hx := X.1
  have hb : c.code = cL_law := X.2.1
  have hown : s.vm.findClass RL = some m.cls := X.2.2.2.2.2.1
  have hts := X.2.2.2.2.2.2.1
  refine W.eq (g2 := F0 m 754 ls []) rfl ?_
  unfold T_L_law_754 at hf
  cases hf
  have k : s_V G (d + 139) M_L_law vs0 σ0 Y_L_law (2927, [.ref v0, .ref v1, .ref v2, .ref v3, .int v4], σ) (e_I r) := k
  refine lv_goto (tgt := 2927) hx hb dL_law_754 (by decide) ?_
  exact k.2 p e s m below meth c _ _ _ _ _ X I hn.1 hn.2 (lv_sub hl [0, 1, 2, 3, 4] rfl)
set_option maxRecDepth 100000 in
set_option maxHeartbeats 4000000 in
theorem v_L_law_834 {G : sG} {d : Nat} {vs0 : List Value} {σ0 : sS} {v0 : Nat} {v1 : Nat} {v2 : Nat} {v3 : Nat} {v4 : Int32} {σ : sS} {z : sZ Int32} {r : Int32 × sS} (hf : T_L_law_834 v0 v1 v2 v3 v4 σ = some z) (k : s_K G (d + 139) M_L_law vs0 σ0 Y_L_law e_I z r) : s_V G (d + 139) M_L_law vs0 σ0 Y_L_law (834, [.ref v0, .ref v1, .ref v2, .ref v3, .int v4], σ) (e_I r) := by
  have le0 : s_le σ (e_I r).2 := s_lek hem_I (l_L_law_834 hf) k
  refine ⟨le0, ?_⟩
  intro p e s m below meth c H locs cells slots ls X I hn1 hn2 hl
  have hn : cells + σ0.2.1 ≤ σ.2.1 ∧ slots + σ0.2.2.1 ≤ σ.2.2.1 := ⟨hn1, hn2⟩
  have hl : lv_has ls 8 [(0, .ref v0), (1, .ref v1), (2, .ref v2), (3, .ref v3), (4, .int v4)] := hl
  have hx := X.1
  have hb : c.code = cL_law := X.2.1
  have hown : s.vm.findClass RL = some m.cls := X.2.2.2.2.2.1
  have hts := X.2.2.2.2.2.2.1
  refine W.eq (g2 := F0 m 834 ls []) rfl ?_
  unfold T_L_law_834 at hf
  cases hf
  have k : s_V G (d + 139) M_L_law vs0 σ0 Y_L_law (2927, [.ref v0, .ref v1, .ref v2, .ref v3, .int v4], σ) (e_I r) := k
  refine lv_goto (tgt := 2927) hx hb dL_law_834 (by decide) ?_
  exact k.2 p e s m below meth c _ _ _ _ _ X I hn.1 hn.2 (lv_sub hl [0, 1, 2, 3, 4] rfl)
set_option maxRecDepth 100000 in
set_option maxHeartbeats 4000000 in
theorem v_L_law_864 {G : sG} {d : Nat} {vs0 : List Value} {σ0 : sS} {v0 : Nat} {v1 : Nat} {v2 : Nat} {v3 : Nat} {v4 : Int32} {w0 : Int32} {w1 : Int32} {w2 : Int32} {w3 : Nat} {σ : sS} {z : sZ Int32} {r : Int32 × sS} (hf : T_L_law_864 v0 v1 v2 v3 v4 w0 w1 w2 w3 σ = some z) (k : s_K G (d + 139) M_L_law vs0 σ0 Y_L_law e_I z r) : s_V G (d + 139) M_L_law vs0 σ0 Y_L_law (864, [.ref v0, .ref v1, .ref v2, .ref v3, .int v4, .int w0, .int w1, .int w2, .ref w3], σ) (e_I r) := by
  have le0 : s_le σ (e_I r).2 := s_lek hem_I (l_L_law_864 hf) k
  refine ⟨le0, ?_⟩
  intro p e s m below meth c H locs cells slots ls X I hn1 hn2 hl
  have hn : cells + σ0.2.1 ≤ σ.2.1 ∧ slots + σ0.2.2.1 ≤ σ.2.2.1 := ⟨hn1, hn2⟩
  have hl : lv_has ls 8 [(0, .ref v0), (1, .ref v1), (2, .ref v2), (3, .ref v3), (4, .int v4)] := hl
  have hx := X.1
  have hb : c.code = cL_law := X.2.1
  have hown : s.vm.findClass RL = some m.cls := X.2.2.2.2.2.1
  have hts := X.2.2.2.2.2.2.1
  refine W.eq (g2 := F0 m 864 ls [.int w0, .int w1, .int w2, .ref w3]) rfl ?_
  unfold T_L_law_864 at hf
  obtain ⟨q1, h1, hf⟩ := s_bind hf
  obtain ⟨x2, h2, hf⟩ := s_bind hf
  obtain ⟨x3, h3, hf⟩ := s_bind hf
  obtain ⟨x4, h4, hf⟩ := s_bind hf
  have le5 : s_le q1.2 (e_I r).2 := by
    refine s_lek hem_I ?_ k
    rcases s_ite hf with ⟨-, hf⟩ | ⟨-, hf⟩
    · cases hf
      exact s_le.rf
    · cases hf
      exact s_le.rf
  refine lv_aload_n hx hb dL_law_864 rfl (lv_at hl 3 rfl) ?_
  refine r_callX (Y := M_L_believe) (v := some (.int q1.1)) X I w_1108 my_L_believe (by omega) (t_L_believe (G := G) (d := d + 135) h1) rfl rfl hl.1 rfl (Nat.le_of_ble_eq_true rfl) hn le5 dL_law_865 (fun H locs cells slots I hn1 hn2 => ?_)
  have I : s_I G q1.2 s H locs := I
  have hn : cells + σ0.2.1 ≤ q1.2.2.1 ∧ slots + σ0.2.2.1 ≤ q1.2.2.2.1 := ⟨hn1, hn2⟩
  refine lv_istore (lv' := [(5, .int q1.1), (0, .ref v0), (1, .ref v1), (2, .ref v2), (3, .ref v3), (4, .int v4)]) hx hb dL_law_868 hl (by decide) rfl (fun ls hl => ?_)
  refine lv_aload_n hx hb dL_law_870 rfl (lv_at hl 3 rfl) ?_
  refine lv_aload_n hx hb dL_law_871 rfl (lv_at hl 1 rfl) ?_
  refine lv_iload hx hb dL_law_872 (lv_at hl 5 rfl) ?_
  refine lv_iconst (v := 1) hx hb dL_law_874 (by decide) ?_
  refine lv_iadd hx hb dL_law_875 ?_
  refine r_iald X I h2 dL_law_876 ?_
  refine lv_aload_n hx hb dL_law_877 rfl (lv_at hl 1 rfl) ?_
  refine lv_iload hx hb dL_law_878 (lv_at hl 5 rfl) ?_
  refine lv_iconst (v := 2) hx hb dL_law_880 (by decide) ?_
  refine lv_iadd hx hb dL_law_881 ?_
  refine r_iald X I h3 dL_law_882 ?_
  refine lv_aload_n hx hb dL_law_883 rfl (lv_at hl 1 rfl) ?_
  refine lv_iload hx hb dL_law_884 (lv_at hl 5 rfl) ?_
  refine lv_iconst (v := 3) hx hb dL_law_886 (by decide) ?_
  refine lv_iadd hx hb dL_law_887 ?_
  refine r_iald X I h4 dL_law_888 ?_
  rcases s_ite hf with ⟨c6, hf⟩ | ⟨c6, hf⟩
  · refine lv_if_eq (tgt := 896) hx hb dL_law_889 (by decide) (fun _ => ?_) (fun n => absurd c6 n)
    cases hf
    have k : s_V G (d + 139) M_L_law vs0 σ0 Y_L_law (897, [.ref v0, .ref v1, .ref v2, .ref v3, .int v4, .int q1.1, .int 0, .int x3, .int x2, .ref v2], q1.2) (e_I r) := k
    refine lv_iconst (v := 0) hx hb dL_law_896 (by decide) ?_
    exact k.2 p e s m below meth c _ _ _ _ _ X I hn.1 hn.2 (lv_sub hl [1, 2, 3, 4, 5, 0] rfl)
  · refine lv_if_eq (tgt := 896) hx hb dL_law_889 (by decide) (fun n => absurd n c6) (fun _ => ?_)
    cases hf
    have k : s_V G (d + 139) M_L_law vs0 σ0 Y_L_law (897, [.ref v0, .ref v1, .ref v2, .ref v3, .int v4, .int q1.1, .int 1, .int x3, .int x2, .ref v2], q1.2) (e_I r) := k
    refine lv_iconst (v := 1) hx hb dL_law_892 (by decide) ?_
    refine lv_goto (tgt := 897) hx hb dL_law_893 (by decide) ?_
    exact k.2 p e s m below meth c _ _ _ _ _ X I hn.1 hn.2 (lv_sub hl [1, 2, 3, 4, 5, 0] rfl)
set_option maxRecDepth 100000 in
set_option maxHeartbeats 4000000 in
theorem v_L_law_897 {G : sG} {d : Nat} {vs0 : List Value} {σ0 : sS} {v0 : Nat} {v1 : Nat} {v2 : Nat} {v3 : Nat} {v4 : Int32} {v5 : Int32} {w0 : Int32} {w1 : Int32} {w2 : Int32} {w3 : Nat} {σ : sS} {z : sZ Int32} {r : Int32 × sS} (hf : T_L_law_897 v0 v1 v2 v3 v4 v5 w0 w1 w2 w3 σ = some z) (k : s_K G (d + 139) M_L_law vs0 σ0 Y_L_law e_I z r) : s_V G (d + 139) M_L_law vs0 σ0 Y_L_law (897, [.ref v0, .ref v1, .ref v2, .ref v3, .int v4, .int v5, .int w0, .int w1, .int w2, .ref w3], σ) (e_I r) := by
  have le0 : s_le σ (e_I r).2 := s_lek hem_I (l_L_law_897 hf) k
  refine ⟨le0, ?_⟩
  intro p e s m below meth c H locs cells slots ls X I hn1 hn2 hl
  have hn : cells + σ0.2.1 ≤ σ.2.1 ∧ slots + σ0.2.2.1 ≤ σ.2.2.1 := ⟨hn1, hn2⟩
  have hl : lv_has ls 8 [(0, .ref v0), (1, .ref v1), (2, .ref v2), (3, .ref v3), (4, .int v4), (5, .int v5)] := hl
  have hx := X.1
  have hb : c.code = cL_law := X.2.1
  have hown : s.vm.findClass RL = some m.cls := X.2.2.2.2.2.1
  have hts := X.2.2.2.2.2.2.1
  refine W.eq (g2 := F0 m 897 ls [.int w0, .int w1, .int w2, .ref w3]) rfl ?_
  unfold T_L_law_897 at hf
  obtain ⟨q1, h1, hf⟩ := s_bind hf
  obtain ⟨q2, h2, hf⟩ := s_bind hf
  have le3 : s_le q2.2 (e_I r).2 := by
    refine s_lek hem_I ?_ k
    rcases s_ite hf with ⟨-, hf⟩ | ⟨-, hf⟩
    · rcases s_ite hf with ⟨-, hf⟩ | ⟨-, hf⟩
      · obtain ⟨x3, -, hf⟩ := s_bind hf
        rcases s_ite hf with ⟨-, hf⟩ | ⟨-, hf⟩
        · cases hf
          exact s_le.rf
        · cases hf
          exact s_le.rf
      · cases hf
        exact s_le.rf
    · cases hf
      exact s_le.rf
  have le4 := s_le.tr (l_X8_thrown h2) le3
  refine r_callV (Y := M_X8_believe) (v := some (.int q1.1)) X I w_1980 my_X8_believe (by omega) (t_X8_believe (G := G) (d := d + 135) h1) (b_X8_believe h1) rfl rfl hl.1 rfl (Nat.le_of_ble_eq_true rfl) hn le4 dL_law_897 (fun H locs cells slots I hn1 hn2 => ?_)
  have I : s_I G q1.2 s H locs := I
  have hn : cells + σ0.2.1 ≤ q1.2.2.1 ∧ slots + σ0.2.2.1 ≤ q1.2.2.2.1 := ⟨hn1, hn2⟩
  refine lv_istore (lv' := [(6, .int q1.1), (0, .ref v0), (1, .ref v1), (2, .ref v2), (3, .ref v3), (4, .int v4), (5, .int v5)]) hx hb dL_law_900 hl (by decide) rfl (fun ls hl => ?_)
  refine lv_aload_n hx hb dL_law_902 rfl (lv_at hl 3 rfl) ?_
  refine r_callV (Y := M_X8_thrown) (v := some (.int q2.1)) X I w_1671 my_X8_thrown (by omega) (t_X8_thrown (G := G) (d := d + 137) h2) (b_X8_thrown h2) rfl rfl hl.1 rfl (Nat.le_of_ble_eq_true rfl) hn le3 dL_law_903 (fun H locs cells slots I hn1 hn2 => ?_)
  have I : s_I G q2.2 s H locs := I
  have hn : cells + σ0.2.1 ≤ q2.2.2.1 ∧ slots + σ0.2.2.1 ≤ q2.2.2.2.1 := ⟨hn1, hn2⟩
  refine lv_iload hx hb dL_law_906 (lv_at hl 6 rfl) ?_
  rcases s_ite hf with ⟨c5, hf⟩ | ⟨c5, hf⟩
  · refine lv_icmp_eq (tgt := 913) hx hb dL_law_908 (by decide) (fun _ => ?_) (fun n => absurd c5 n)
    refine lv_iload hx hb dL_law_913 (lv_at hl 6 rfl) ?_
    rcases s_ite hf with ⟨c6, hf⟩ | ⟨c6, hf⟩
    · refine lv_if_ne (tgt := 937) hx hb dL_law_915 (by decide) (fun n => absurd c6 n) (fun _ => ?_)
      obtain ⟨x3, h7, hf⟩ := s_bind hf
      refine lv_aload_n hx hb dL_law_918 rfl (lv_at hl 4 rfl) ?_
      refine lv_iconst (v := 0) hx hb dL_law_919 (by decide) ?_
      refine r_lald X I h7 dL_law_920 ?_
      refine lv_iload hx hb dL_law_921 (lv_at hl 0 rfl) ?_
      rcases s_ite hf with ⟨c8, hf⟩ | ⟨c8, hf⟩
      · refine lv_if_eq (tgt := 930) hx hb dL_law_923 (by decide) (fun _ => ?_) (fun n => absurd c8 n)
        cases hf
        have k : s_V G (d + 139) M_L_law vs0 σ0 Y_L_law (931, [.ref v0, .ref v1, .ref v2, .ref v3, .int v4, .long 0, .long x3], q2.2) (e_I r) := k
        refine lv_lconst (v := 0) hx hb dL_law_930 (by decide) ?_
        exact k.2 p e s m below meth c _ _ _ _ _ X I hn.1 hn.2 (lv_sub hl [1, 2, 3, 4, 5] rfl)
      · refine lv_if_eq (tgt := 930) hx hb dL_law_923 (by decide) (fun n => absurd n c8) (fun _ => ?_)
        cases hf
        have k : s_V G (d + 139) M_L_law vs0 σ0 Y_L_law (931, [.ref v0, .ref v1, .ref v2, .ref v3, .int v4, .long 1, .long x3], q2.2) (e_I r) := k
        refine lv_lconst (v := 1) hx hb dL_law_926 (by decide) ?_
        refine lv_goto (tgt := 931) hx hb dL_law_927 (by decide) ?_
        exact k.2 p e s m below meth c _ _ _ _ _ X I hn.1 hn.2 (lv_sub hl [1, 2, 3, 4, 5] rfl)
    · refine lv_if_ne (tgt := 937) hx hb dL_law_915 (by decide) (fun _ => ?_) (fun n => absurd n c6)
      cases hf
      have k : s_V G (d + 139) M_L_law vs0 σ0 Y_L_law (937, [.ref v0, .ref v1, .ref v2, .ref v3, .int v4], q2.2) (e_I r) := k
      exact k.2 p e s m below meth c _ _ _ _ _ X I hn.1 hn.2 (lv_sub hl [1, 2, 3, 4, 5] rfl)
  · refine lv_icmp_eq (tgt := 913) hx hb dL_law_908 (by decide) (fun n => absurd n c5) (fun _ => ?_)
    cases hf
    have k : _ = r := k
    subst k
    refine lv_iconst (v := 0) hx hb dL_law_911 (by decide) ?_
    exact r_iret X I rfl rfl rfl hn dL_law_912
set_option maxRecDepth 100000 in
set_option maxHeartbeats 4000000 in
theorem v_L_law_931 {G : sG} {d : Nat} {vs0 : List Value} {σ0 : sS} {v0 : Nat} {v1 : Nat} {v2 : Nat} {v3 : Nat} {v4 : Int32} {w0 : Int64} {w1 : Int64} {σ : sS} {z : sZ Int32} {r : Int32 × sS} (hf : T_L_law_931 v0 v1 v2 v3 v4 w0 w1 σ = some z) (k : s_K G (d + 139) M_L_law vs0 σ0 Y_L_law e_I z r) : s_V G (d + 139) M_L_law vs0 σ0 Y_L_law (931, [.ref v0, .ref v1, .ref v2, .ref v3, .int v4, .long w0, .long w1], σ) (e_I r) := by
  have le0 : s_le σ (e_I r).2 := s_lek hem_I (l_L_law_931 hf) k
  refine ⟨le0, ?_⟩
  intro p e s m below meth c H locs cells slots ls X I hn1 hn2 hl
  have hn : cells + σ0.2.1 ≤ σ.2.1 ∧ slots + σ0.2.2.1 ≤ σ.2.2.1 := ⟨hn1, hn2⟩
  have hl : lv_has ls 8 [(0, .ref v0), (1, .ref v1), (2, .ref v2), (3, .ref v3), (4, .int v4)] := hl
  have hx := X.1
  have hb : c.code = cL_law := X.2.1
  have hown : s.vm.findClass RL = some m.cls := X.2.2.2.2.2.1
  have hts := X.2.2.2.2.2.2.1
  refine W.eq (g2 := F0 m 931 ls [.long w0, .long w1]) rfl ?_
  unfold T_L_law_931 at hf
  refine W.lcmp hx hb dL_law_931 ?_
  rcases s_ite hf with ⟨c1, hf⟩ | ⟨c1, hf⟩
  · refine lv_if_eq (tgt := 937) hx hb dL_law_932 (by decide) (fun _ => ?_) (fun n => absurd c1 n)
    cases hf
    have k : s_V G (d + 139) M_L_law vs0 σ0 Y_L_law (937, [.ref v0, .ref v1, .ref v2, .ref v3, .int v4], σ) (e_I r) := k
    exact k.2 p e s m below meth c _ _ _ _ _ X I hn.1 hn.2 (lv_sub hl [0, 1, 2, 3, 4] rfl)
  · refine lv_if_eq (tgt := 937) hx hb dL_law_932 (by decide) (fun n => absurd n c1) (fun _ => ?_)
    cases hf
    have k : _ = r := k
    subst k
    refine lv_iconst (v := 0) hx hb dL_law_935 (by decide) ?_
    exact r_iret X I rfl rfl rfl hn dL_law_936
set_option maxRecDepth 100000 in
set_option maxHeartbeats 4000000 in
theorem v_L_law_937 {G : sG} {d : Nat} {vs0 : List Value} {σ0 : sS} {v0 : Nat} {v1 : Nat} {v2 : Nat} {v3 : Nat} {v4 : Int32} {σ : sS} {z : sZ Int32} {r : Int32 × sS} (hf : T_L_law_937 v0 v1 v2 v3 v4 σ = some z) (k : s_K G (d + 139) M_L_law vs0 σ0 Y_L_law e_I z r) : s_V G (d + 139) M_L_law vs0 σ0 Y_L_law (937, [.ref v0, .ref v1, .ref v2, .ref v3, .int v4], σ) (e_I r) := by
  have le0 : s_le σ (e_I r).2 := s_lek hem_I (l_L_law_937 hf) k
  refine ⟨le0, ?_⟩
  intro p e s m below meth c H locs cells slots ls X I hn1 hn2 hl
  have hn : cells + σ0.2.1 ≤ σ.2.1 ∧ slots + σ0.2.2.1 ≤ σ.2.2.1 := ⟨hn1, hn2⟩
  have hl : lv_has ls 8 [(0, .ref v0), (1, .ref v1), (2, .ref v2), (3, .ref v3), (4, .int v4)] := hl
  have hx := X.1
  have hb : c.code = cL_law := X.2.1
  have hown : s.vm.findClass RL = some m.cls := X.2.2.2.2.2.1
  have hts := X.2.2.2.2.2.2.1
  refine W.eq (g2 := F0 m 937 ls []) rfl ?_
  unfold T_L_law_937 at hf
  cases hf
  have k : s_V G (d + 139) M_L_law vs0 σ0 Y_L_law (2927, [.ref v0, .ref v1, .ref v2, .ref v3, .int v4], σ) (e_I r) := k
  refine lv_goto (tgt := 2927) hx hb dL_law_937 (by decide) ?_
  exact k.2 p e s m below meth c _ _ _ _ _ X I hn.1 hn.2 (lv_sub hl [0, 1, 2, 3, 4] rfl)
set_option maxRecDepth 100000 in
set_option maxHeartbeats 4000000 in
theorem v_L_law_993 {G : sG} {d : Nat} {vs0 : List Value} {σ0 : sS} {v0 : Nat} {v1 : Nat} {v2 : Nat} {v3 : Nat} {v4 : Int32} {σ : sS} {z : sZ Int32} {r : Int32 × sS} (hf : T_L_law_993 v0 v1 v2 v3 v4 σ = some z) (k : s_K G (d + 139) M_L_law vs0 σ0 Y_L_law e_I z r) : s_V G (d + 139) M_L_law vs0 σ0 Y_L_law (993, [.ref v0, .ref v1, .ref v2, .ref v3, .int v4], σ) (e_I r) := by
  have le0 : s_le σ (e_I r).2 := s_lek hem_I (l_L_law_993 hf) k
  refine ⟨le0, ?_⟩
  intro p e s m below meth c H locs cells slots ls X I hn1 hn2 hl
  have hn : cells + σ0.2.1 ≤ σ.2.1 ∧ slots + σ0.2.2.1 ≤ σ.2.2.1 := ⟨hn1, hn2⟩
  have hl : lv_has ls 8 [(0, .ref v0), (1, .ref v1), (2, .ref v2), (3, .ref v3), (4, .int v4)] := hl
  have hx := X.1
  have hb : c.code = cL_law := X.2.1
  have hown : s.vm.findClass RL = some m.cls := X.2.2.2.2.2.1
  have hts := X.2.2.2.2.2.2.1
  refine W.eq (g2 := F0 m 993 ls []) rfl ?_
  unfold T_L_law_993 at hf
  cases hf
  have k : s_V G (d + 139) M_L_law vs0 σ0 Y_L_law (2927, [.ref v0, .ref v1, .ref v2, .ref v3, .int v4], σ) (e_I r) := k
  refine lv_goto (tgt := 2927) hx hb dL_law_993 (by decide) ?_
  exact k.2 p e s m below meth c _ _ _ _ _ X I hn.1 hn.2 (lv_sub hl [0, 1, 2, 3, 4] rfl)
set_option maxRecDepth 100000 in
set_option maxHeartbeats 4000000 in
theorem v_L_law_1111 {G : sG} {d : Nat} {vs0 : List Value} {σ0 : sS} {v0 : Nat} {v1 : Nat} {v2 : Nat} {v3 : Nat} {v4 : Int32} {σ : sS} {z : sZ Int32} {r : Int32 × sS} (hf : T_L_law_1111 v0 v1 v2 v3 v4 σ = some z) (k : s_K G (d + 139) M_L_law vs0 σ0 Y_L_law e_I z r) : s_V G (d + 139) M_L_law vs0 σ0 Y_L_law (1111, [.ref v0, .ref v1, .ref v2, .ref v3, .int v4], σ) (e_I r) := by
  have le0 : s_le σ (e_I r).2 := s_lek hem_I (l_L_law_1111 hf) k
  refine ⟨le0, ?_⟩
  intro p e s m below meth c H locs cells slots ls X I hn1 hn2 hl
  have hn : cells + σ0.2.1 ≤ σ.2.1 ∧ slots + σ0.2.2.1 ≤ σ.2.2.1 := ⟨hn1, hn2⟩
  have hl : lv_has ls 8 [(0, .ref v0), (1, .ref v1), (2, .ref v2), (3, .ref v3), (4, .int v4)] := hl
  have hx := X.1
  have hb : c.code = cL_law := X.2.1
  have hown : s.vm.findClass RL = some m.cls := X.2.2.2.2.2.1
  have hts := X.2.2.2.2.2.2.1
  refine W.eq (g2 := F0 m 1111 ls []) rfl ?_
  unfold T_L_law_1111 at hf
  cases hf
  have k : s_V G (d + 139) M_L_law vs0 σ0 Y_L_law (2927, [.ref v0, .ref v1, .ref v2, .ref v3, .int v4], σ) (e_I r) := k
  refine lv_goto (tgt := 2927) hx hb dL_law_1111 (by decide) ?_
  exact k.2 p e s m below meth c _ _ _ _ _ X I hn.1 hn.2 (lv_sub hl [0, 1, 2, 3, 4] rfl)
set_option maxRecDepth 100000 in
set_option maxHeartbeats 4000000 in
theorem v_L_law_1179 {G : sG} {d : Nat} {vs0 : List Value} {σ0 : sS} {v0 : Nat} {v1 : Nat} {v2 : Nat} {v3 : Nat} {v4 : Int32} {σ : sS} {z : sZ Int32} {r : Int32 × sS} (hf : T_L_law_1179 v0 v1 v2 v3 v4 σ = some z) (k : s_K G (d + 139) M_L_law vs0 σ0 Y_L_law e_I z r) : s_V G (d + 139) M_L_law vs0 σ0 Y_L_law (1179, [.ref v0, .ref v1, .ref v2, .ref v3, .int v4], σ) (e_I r) := by
  have le0 : s_le σ (e_I r).2 := s_lek hem_I (l_L_law_1179 hf) k
  refine ⟨le0, ?_⟩
  intro p e s m below meth c H locs cells slots ls X I hn1 hn2 hl
  have hn : cells + σ0.2.1 ≤ σ.2.1 ∧ slots + σ0.2.2.1 ≤ σ.2.2.1 := ⟨hn1, hn2⟩
  have hl : lv_has ls 8 [(0, .ref v0), (1, .ref v1), (2, .ref v2), (3, .ref v3), (4, .int v4)] := hl
  have hx := X.1
  have hb : c.code = cL_law := X.2.1
  have hown : s.vm.findClass RL = some m.cls := X.2.2.2.2.2.1
  have hts := X.2.2.2.2.2.2.1
  refine W.eq (g2 := F0 m 1179 ls []) rfl ?_
  unfold T_L_law_1179 at hf
  cases hf
  have k : s_V G (d + 139) M_L_law vs0 σ0 Y_L_law (2927, [.ref v0, .ref v1, .ref v2, .ref v3, .int v4], σ) (e_I r) := k
  refine lv_goto (tgt := 2927) hx hb dL_law_1179 (by decide) ?_
  exact k.2 p e s m below meth c _ _ _ _ _ X I hn.1 hn.2 (lv_sub hl [0, 1, 2, 3, 4] rfl)
set_option maxRecDepth 100000 in
set_option maxHeartbeats 4000000 in
theorem v_L_law_1248 {G : sG} {d : Nat} {vs0 : List Value} {σ0 : sS} {v0 : Nat} {v1 : Nat} {v2 : Nat} {v3 : Nat} {v4 : Int32} {w0 : Int64} {w1 : Int64} {σ : sS} {z : sZ Int32} {r : Int32 × sS} (hf : T_L_law_1248 v0 v1 v2 v3 v4 w0 w1 σ = some z) (k : s_K G (d + 139) M_L_law vs0 σ0 Y_L_law e_I z r) : s_V G (d + 139) M_L_law vs0 σ0 Y_L_law (1248, [.ref v0, .ref v1, .ref v2, .ref v3, .int v4, .long w0, .long w1], σ) (e_I r) := by
  have le0 : s_le σ (e_I r).2 := s_lek hem_I (l_L_law_1248 hf) k
  refine ⟨le0, ?_⟩
  intro p e s m below meth c H locs cells slots ls X I hn1 hn2 hl
  have hn : cells + σ0.2.1 ≤ σ.2.1 ∧ slots + σ0.2.2.1 ≤ σ.2.2.1 := ⟨hn1, hn2⟩
  have hl : lv_has ls 8 [(0, .ref v0), (1, .ref v1), (2, .ref v2), (3, .ref v3), (4, .int v4)] := hl
  have hx := X.1
  have hb : c.code = cL_law := X.2.1
  have hown : s.vm.findClass RL = some m.cls := X.2.2.2.2.2.1
  have hts := X.2.2.2.2.2.2.1
  refine W.eq (g2 := F0 m 1248 ls [.long w0, .long w1]) rfl ?_
  unfold T_L_law_1248 at hf
  refine W.lcmp hx hb dL_law_1248 ?_
  rcases s_ite hf with ⟨c1, hf⟩ | ⟨c1, hf⟩
  · refine lv_if_eq (tgt := 1254) hx hb dL_law_1249 (by decide) (fun _ => ?_) (fun n => absurd c1 n)
    cases hf
    have k : s_V G (d + 139) M_L_law vs0 σ0 Y_L_law (1254, [.ref v0, .ref v1, .ref v2, .ref v3, .int v4], σ) (e_I r) := k
    exact k.2 p e s m below meth c _ _ _ _ _ X I hn.1 hn.2 (lv_sub hl [0, 1, 2, 3, 4] rfl)
  · refine lv_if_eq (tgt := 1254) hx hb dL_law_1249 (by decide) (fun n => absurd n c1) (fun _ => ?_)
    cases hf
    have k : _ = r := k
    subst k
    refine lv_iconst (v := 0) hx hb dL_law_1252 (by decide) ?_
    exact r_iret X I rfl rfl rfl hn dL_law_1253
set_option maxRecDepth 100000 in
set_option maxHeartbeats 4000000 in
theorem v_L_law_1254 {G : sG} {d : Nat} {vs0 : List Value} {σ0 : sS} {v0 : Nat} {v1 : Nat} {v2 : Nat} {v3 : Nat} {v4 : Int32} {σ : sS} {z : sZ Int32} {r : Int32 × sS} (hf : T_L_law_1254 v0 v1 v2 v3 v4 σ = some z) (k : s_K G (d + 139) M_L_law vs0 σ0 Y_L_law e_I z r) : s_V G (d + 139) M_L_law vs0 σ0 Y_L_law (1254, [.ref v0, .ref v1, .ref v2, .ref v3, .int v4], σ) (e_I r) := by
  have le0 : s_le σ (e_I r).2 := s_lek hem_I (l_L_law_1254 hf) k
  refine ⟨le0, ?_⟩
  intro p e s m below meth c H locs cells slots ls X I hn1 hn2 hl
  have hn : cells + σ0.2.1 ≤ σ.2.1 ∧ slots + σ0.2.2.1 ≤ σ.2.2.1 := ⟨hn1, hn2⟩
  have hl : lv_has ls 8 [(0, .ref v0), (1, .ref v1), (2, .ref v2), (3, .ref v3), (4, .int v4)] := hl
  have hx := X.1
  have hb : c.code = cL_law := X.2.1
  have hown : s.vm.findClass RL = some m.cls := X.2.2.2.2.2.1
  have hts := X.2.2.2.2.2.2.1
  refine W.eq (g2 := F0 m 1254 ls []) rfl ?_
  unfold T_L_law_1254 at hf
  cases hf
  have k : s_V G (d + 139) M_L_law vs0 σ0 Y_L_law (2927, [.ref v0, .ref v1, .ref v2, .ref v3, .int v4], σ) (e_I r) := k
  refine lv_goto (tgt := 2927) hx hb dL_law_1254 (by decide) ?_
  exact k.2 p e s m below meth c _ _ _ _ _ X I hn.1 hn.2 (lv_sub hl [0, 1, 2, 3, 4] rfl)
set_option maxRecDepth 100000 in
set_option maxHeartbeats 4000000 in
theorem v_L_law_1322 {G : sG} {d : Nat} {vs0 : List Value} {σ0 : sS} {v0 : Nat} {v1 : Nat} {v2 : Nat} {v3 : Nat} {v4 : Int32} {σ : sS} {z : sZ Int32} {r : Int32 × sS} (hf : T_L_law_1322 v0 v1 v2 v3 v4 σ = some z) (k : s_K G (d + 139) M_L_law vs0 σ0 Y_L_law e_I z r) : s_V G (d + 139) M_L_law vs0 σ0 Y_L_law (1322, [.ref v0, .ref v1, .ref v2, .ref v3, .int v4], σ) (e_I r) := by
  have le0 : s_le σ (e_I r).2 := s_lek hem_I (l_L_law_1322 hf) k
  refine ⟨le0, ?_⟩
  intro p e s m below meth c H locs cells slots ls X I hn1 hn2 hl
  have hn : cells + σ0.2.1 ≤ σ.2.1 ∧ slots + σ0.2.2.1 ≤ σ.2.2.1 := ⟨hn1, hn2⟩
  have hl : lv_has ls 8 [(0, .ref v0), (1, .ref v1), (2, .ref v2), (3, .ref v3), (4, .int v4)] := hl
  have hx := X.1
  have hb : c.code = cL_law := X.2.1
  have hown : s.vm.findClass RL = some m.cls := X.2.2.2.2.2.1
  have hts := X.2.2.2.2.2.2.1
  refine W.eq (g2 := F0 m 1322 ls []) rfl ?_
  unfold T_L_law_1322 at hf
  cases hf
  have k : s_V G (d + 139) M_L_law vs0 σ0 Y_L_law (2927, [.ref v0, .ref v1, .ref v2, .ref v3, .int v4], σ) (e_I r) := k
  refine lv_goto (tgt := 2927) hx hb dL_law_1322 (by decide) ?_
  exact k.2 p e s m below meth c _ _ _ _ _ X I hn.1 hn.2 (lv_sub hl [0, 1, 2, 3, 4] rfl)
set_option maxRecDepth 100000 in
set_option maxHeartbeats 4000000 in
theorem v_L_law_1377 {G : sG} {d : Nat} {vs0 : List Value} {σ0 : sS} {v0 : Nat} {v1 : Nat} {v2 : Nat} {v3 : Nat} {v4 : Int32} {σ : sS} {z : sZ Int32} {r : Int32 × sS} (hf : T_L_law_1377 v0 v1 v2 v3 v4 σ = some z) (k : s_K G (d + 139) M_L_law vs0 σ0 Y_L_law e_I z r) : s_V G (d + 139) M_L_law vs0 σ0 Y_L_law (1377, [.ref v0, .ref v1, .ref v2, .ref v3, .int v4], σ) (e_I r) := by
  have le0 : s_le σ (e_I r).2 := s_lek hem_I (l_L_law_1377 hf) k
  refine ⟨le0, ?_⟩
  intro p e s m below meth c H locs cells slots ls X I hn1 hn2 hl
  have hn : cells + σ0.2.1 ≤ σ.2.1 ∧ slots + σ0.2.2.1 ≤ σ.2.2.1 := ⟨hn1, hn2⟩
  have hl : lv_has ls 8 [(0, .ref v0), (1, .ref v1), (2, .ref v2), (3, .ref v3), (4, .int v4)] := hl
  have hx := X.1
  have hb : c.code = cL_law := X.2.1
  have hown : s.vm.findClass RL = some m.cls := X.2.2.2.2.2.1
  have hts := X.2.2.2.2.2.2.1
  refine W.eq (g2 := F0 m 1377 ls []) rfl ?_
  unfold T_L_law_1377 at hf
  cases hf
  have k : s_V G (d + 139) M_L_law vs0 σ0 Y_L_law (2927, [.ref v0, .ref v1, .ref v2, .ref v3, .int v4], σ) (e_I r) := k
  refine lv_goto (tgt := 2927) hx hb dL_law_1377 (by decide) ?_
  exact k.2 p e s m below meth c _ _ _ _ _ X I hn.1 hn.2 (lv_sub hl [0, 1, 2, 3, 4] rfl)
set_option maxRecDepth 100000 in
set_option maxHeartbeats 4000000 in
theorem v_L_law_1433 {G : sG} {d : Nat} {vs0 : List Value} {σ0 : sS} {v0 : Nat} {v1 : Nat} {v2 : Nat} {v3 : Nat} {v4 : Int32} {σ : sS} {z : sZ Int32} {r : Int32 × sS} (hf : T_L_law_1433 v0 v1 v2 v3 v4 σ = some z) (k : s_K G (d + 139) M_L_law vs0 σ0 Y_L_law e_I z r) : s_V G (d + 139) M_L_law vs0 σ0 Y_L_law (1433, [.ref v0, .ref v1, .ref v2, .ref v3, .int v4], σ) (e_I r) := by
  have le0 : s_le σ (e_I r).2 := s_lek hem_I (l_L_law_1433 hf) k
  refine ⟨le0, ?_⟩
  intro p e s m below meth c H locs cells slots ls X I hn1 hn2 hl
  have hn : cells + σ0.2.1 ≤ σ.2.1 ∧ slots + σ0.2.2.1 ≤ σ.2.2.1 := ⟨hn1, hn2⟩
  have hl : lv_has ls 8 [(0, .ref v0), (1, .ref v1), (2, .ref v2), (3, .ref v3), (4, .int v4)] := hl
  have hx := X.1
  have hb : c.code = cL_law := X.2.1
  have hown : s.vm.findClass RL = some m.cls := X.2.2.2.2.2.1
  have hts := X.2.2.2.2.2.2.1
  refine W.eq (g2 := F0 m 1433 ls []) rfl ?_
  unfold T_L_law_1433 at hf
  cases hf
  have k : s_V G (d + 139) M_L_law vs0 σ0 Y_L_law (2927, [.ref v0, .ref v1, .ref v2, .ref v3, .int v4], σ) (e_I r) := k
  refine lv_goto (tgt := 2927) hx hb dL_law_1433 (by decide) ?_
  exact k.2 p e s m below meth c _ _ _ _ _ X I hn.1 hn.2 (lv_sub hl [0, 1, 2, 3, 4] rfl)
set_option maxRecDepth 100000 in
set_option maxHeartbeats 4000000 in
theorem v_L_law_1500 {G : sG} {d : Nat} {vs0 : List Value} {σ0 : sS} {v0 : Nat} {v1 : Nat} {v2 : Nat} {v3 : Nat} {v4 : Int32} {σ : sS} {z : sZ Int32} {r : Int32 × sS} (hf : T_L_law_1500 v0 v1 v2 v3 v4 σ = some z) (k : s_K G (d + 139) M_L_law vs0 σ0 Y_L_law e_I z r) : s_V G (d + 139) M_L_law vs0 σ0 Y_L_law (1500, [.ref v0, .ref v1, .ref v2, .ref v3, .int v4], σ) (e_I r) := by
  have le0 : s_le σ (e_I r).2 := s_lek hem_I (l_L_law_1500 hf) k
  refine ⟨le0, ?_⟩
  intro p e s m below meth c H locs cells slots ls X I hn1 hn2 hl
  have hn : cells + σ0.2.1 ≤ σ.2.1 ∧ slots + σ0.2.2.1 ≤ σ.2.2.1 := ⟨hn1, hn2⟩
  have hl : lv_has ls 8 [(0, .ref v0), (1, .ref v1), (2, .ref v2), (3, .ref v3), (4, .int v4)] := hl
  have hx := X.1
  have hb : c.code = cL_law := X.2.1
  have hown : s.vm.findClass RL = some m.cls := X.2.2.2.2.2.1
  have hts := X.2.2.2.2.2.2.1
  refine W.eq (g2 := F0 m 1500 ls []) rfl ?_
  unfold T_L_law_1500 at hf
  cases hf
  have k : s_V G (d + 139) M_L_law vs0 σ0 Y_L_law (2927, [.ref v0, .ref v1, .ref v2, .ref v3, .int v4], σ) (e_I r) := k
  refine lv_goto (tgt := 2927) hx hb dL_law_1500 (by decide) ?_
  exact k.2 p e s m below meth c _ _ _ _ _ X I hn.1 hn.2 (lv_sub hl [0, 1, 2, 3, 4] rfl)
set_option maxRecDepth 100000 in
set_option maxHeartbeats 4000000 in
theorem v_L_law_1569 {G : sG} {d : Nat} {vs0 : List Value} {σ0 : sS} {v0 : Nat} {v1 : Nat} {v2 : Nat} {v3 : Nat} {v4 : Int32} {w0 : Int64} {w1 : Int64} {σ : sS} {z : sZ Int32} {r : Int32 × sS} (hf : T_L_law_1569 v0 v1 v2 v3 v4 w0 w1 σ = some z) (k : s_K G (d + 139) M_L_law vs0 σ0 Y_L_law e_I z r) : s_V G (d + 139) M_L_law vs0 σ0 Y_L_law (1569, [.ref v0, .ref v1, .ref v2, .ref v3, .int v4, .long w0, .long w1], σ) (e_I r) := by
  have le0 : s_le σ (e_I r).2 := s_lek hem_I (l_L_law_1569 hf) k
  refine ⟨le0, ?_⟩
  intro p e s m below meth c H locs cells slots ls X I hn1 hn2 hl
  have hn : cells + σ0.2.1 ≤ σ.2.1 ∧ slots + σ0.2.2.1 ≤ σ.2.2.1 := ⟨hn1, hn2⟩
  have hl : lv_has ls 8 [(0, .ref v0), (1, .ref v1), (2, .ref v2), (3, .ref v3), (4, .int v4)] := hl
  have hx := X.1
  have hb : c.code = cL_law := X.2.1
  have hown : s.vm.findClass RL = some m.cls := X.2.2.2.2.2.1
  have hts := X.2.2.2.2.2.2.1
  refine W.eq (g2 := F0 m 1569 ls [.long w0, .long w1]) rfl ?_
  unfold T_L_law_1569 at hf
  refine W.lcmp hx hb dL_law_1569 ?_
  rcases s_ite hf with ⟨c1, hf⟩ | ⟨c1, hf⟩
  · refine lv_if_eq (tgt := 1575) hx hb dL_law_1570 (by decide) (fun _ => ?_) (fun n => absurd c1 n)
    cases hf
    have k : s_V G (d + 139) M_L_law vs0 σ0 Y_L_law (1575, [.ref v0, .ref v1, .ref v2, .ref v3, .int v4], σ) (e_I r) := k
    exact k.2 p e s m below meth c _ _ _ _ _ X I hn.1 hn.2 (lv_sub hl [0, 1, 2, 3, 4] rfl)
  · refine lv_if_eq (tgt := 1575) hx hb dL_law_1570 (by decide) (fun n => absurd n c1) (fun _ => ?_)
    cases hf
    have k : _ = r := k
    subst k
    refine lv_iconst (v := 0) hx hb dL_law_1573 (by decide) ?_
    exact r_iret X I rfl rfl rfl hn dL_law_1574
set_option maxRecDepth 100000 in
set_option maxHeartbeats 4000000 in
theorem v_L_law_1575 {G : sG} {d : Nat} {vs0 : List Value} {σ0 : sS} {v0 : Nat} {v1 : Nat} {v2 : Nat} {v3 : Nat} {v4 : Int32} {σ : sS} {z : sZ Int32} {r : Int32 × sS} (hf : T_L_law_1575 v0 v1 v2 v3 v4 σ = some z) (k : s_K G (d + 139) M_L_law vs0 σ0 Y_L_law e_I z r) : s_V G (d + 139) M_L_law vs0 σ0 Y_L_law (1575, [.ref v0, .ref v1, .ref v2, .ref v3, .int v4], σ) (e_I r) := by
  have le0 : s_le σ (e_I r).2 := s_lek hem_I (l_L_law_1575 hf) k
  refine ⟨le0, ?_⟩
  intro p e s m below meth c H locs cells slots ls X I hn1 hn2 hl
  have hn : cells + σ0.2.1 ≤ σ.2.1 ∧ slots + σ0.2.2.1 ≤ σ.2.2.1 := ⟨hn1, hn2⟩
  have hl : lv_has ls 8 [(0, .ref v0), (1, .ref v1), (2, .ref v2), (3, .ref v3), (4, .int v4)] := hl
  have hx := X.1
  have hb : c.code = cL_law := X.2.1
  have hown : s.vm.findClass RL = some m.cls := X.2.2.2.2.2.1
  have hts := X.2.2.2.2.2.2.1
  refine W.eq (g2 := F0 m 1575 ls []) rfl ?_
  unfold T_L_law_1575 at hf
  cases hf
  have k : s_V G (d + 139) M_L_law vs0 σ0 Y_L_law (2927, [.ref v0, .ref v1, .ref v2, .ref v3, .int v4], σ) (e_I r) := k
  refine lv_goto (tgt := 2927) hx hb dL_law_1575 (by decide) ?_
  exact k.2 p e s m below meth c _ _ _ _ _ X I hn.1 hn.2 (lv_sub hl [0, 1, 2, 3, 4] rfl)
set_option maxRecDepth 100000 in
set_option maxHeartbeats 4000000 in
theorem v_L_law_1643 {G : sG} {d : Nat} {vs0 : List Value} {σ0 : sS} {v0 : Nat} {v1 : Nat} {v2 : Nat} {v3 : Nat} {v4 : Int32} {σ : sS} {z : sZ Int32} {r : Int32 × sS} (hf : T_L_law_1643 v0 v1 v2 v3 v4 σ = some z) (k : s_K G (d + 139) M_L_law vs0 σ0 Y_L_law e_I z r) : s_V G (d + 139) M_L_law vs0 σ0 Y_L_law (1643, [.ref v0, .ref v1, .ref v2, .ref v3, .int v4], σ) (e_I r) := by
  have le0 : s_le σ (e_I r).2 := s_lek hem_I (l_L_law_1643 hf) k
  refine ⟨le0, ?_⟩
  intro p e s m below meth c H locs cells slots ls X I hn1 hn2 hl
  have hn : cells + σ0.2.1 ≤ σ.2.1 ∧ slots + σ0.2.2.1 ≤ σ.2.2.1 := ⟨hn1, hn2⟩
  have hl : lv_has ls 8 [(0, .ref v0), (1, .ref v1), (2, .ref v2), (3, .ref v3), (4, .int v4)] := hl
  have hx := X.1
  have hb : c.code = cL_law := X.2.1
  have hown : s.vm.findClass RL = some m.cls := X.2.2.2.2.2.1
  have hts := X.2.2.2.2.2.2.1
  refine W.eq (g2 := F0 m 1643 ls []) rfl ?_
  unfold T_L_law_1643 at hf
  cases hf
  have k : s_V G (d + 139) M_L_law vs0 σ0 Y_L_law (2927, [.ref v0, .ref v1, .ref v2, .ref v3, .int v4], σ) (e_I r) := k
  refine lv_goto (tgt := 2927) hx hb dL_law_1643 (by decide) ?_
  exact k.2 p e s m below meth c _ _ _ _ _ X I hn.1 hn.2 (lv_sub hl [0, 1, 2, 3, 4] rfl)
set_option maxRecDepth 100000 in
set_option maxHeartbeats 4000000 in
theorem v_L_law_1723 {G : sG} {d : Nat} {vs0 : List Value} {σ0 : sS} {v0 : Nat} {v1 : Nat} {v2 : Nat} {v3 : Nat} {v4 : Int32} {σ : sS} {z : sZ Int32} {r : Int32 × sS} (hf : T_L_law_1723 v0 v1 v2 v3 v4 σ = some z) (k : s_K G (d + 139) M_L_law vs0 σ0 Y_L_law e_I z r) : s_V G (d + 139) M_L_law vs0 σ0 Y_L_law (1723, [.ref v0, .ref v1, .ref v2, .ref v3, .int v4], σ) (e_I r) := by
  have le0 : s_le σ (e_I r).2 := s_lek hem_I (l_L_law_1723 hf) k
  refine ⟨le0, ?_⟩
  intro p e s m below meth c H locs cells slots ls X I hn1 hn2 hl
  have hn : cells + σ0.2.1 ≤ σ.2.1 ∧ slots + σ0.2.2.1 ≤ σ.2.2.1 := ⟨hn1, hn2⟩
  have hl : lv_has ls 8 [(0, .ref v0), (1, .ref v1), (2, .ref v2), (3, .ref v3), (4, .int v4)] := hl
  have hx := X.1
  have hb : c.code = cL_law := X.2.1
  have hown : s.vm.findClass RL = some m.cls := X.2.2.2.2.2.1
  have hts := X.2.2.2.2.2.2.1
  refine W.eq (g2 := F0 m 1723 ls []) rfl ?_
  unfold T_L_law_1723 at hf
  cases hf
  have k : s_V G (d + 139) M_L_law vs0 σ0 Y_L_law (2927, [.ref v0, .ref v1, .ref v2, .ref v3, .int v4], σ) (e_I r) := k
  refine lv_goto (tgt := 2927) hx hb dL_law_1723 (by decide) ?_
  exact k.2 p e s m below meth c _ _ _ _ _ X I hn.1 hn.2 (lv_sub hl [0, 1, 2, 3, 4] rfl)
set_option maxRecDepth 100000 in
set_option maxHeartbeats 4000000 in
theorem v_L_law_1803 {G : sG} {d : Nat} {vs0 : List Value} {σ0 : sS} {v0 : Nat} {v1 : Nat} {v2 : Nat} {v3 : Nat} {v4 : Int32} {σ : sS} {z : sZ Int32} {r : Int32 × sS} (hf : T_L_law_1803 v0 v1 v2 v3 v4 σ = some z) (k : s_K G (d + 139) M_L_law vs0 σ0 Y_L_law e_I z r) : s_V G (d + 139) M_L_law vs0 σ0 Y_L_law (1803, [.ref v0, .ref v1, .ref v2, .ref v3, .int v4], σ) (e_I r) := by
  have le0 : s_le σ (e_I r).2 := s_lek hem_I (l_L_law_1803 hf) k
  refine ⟨le0, ?_⟩
  intro p e s m below meth c H locs cells slots ls X I hn1 hn2 hl
  have hn : cells + σ0.2.1 ≤ σ.2.1 ∧ slots + σ0.2.2.1 ≤ σ.2.2.1 := ⟨hn1, hn2⟩
  have hl : lv_has ls 8 [(0, .ref v0), (1, .ref v1), (2, .ref v2), (3, .ref v3), (4, .int v4)] := hl
  have hx := X.1
  have hb : c.code = cL_law := X.2.1
  have hown : s.vm.findClass RL = some m.cls := X.2.2.2.2.2.1
  have hts := X.2.2.2.2.2.2.1
  refine W.eq (g2 := F0 m 1803 ls []) rfl ?_
  unfold T_L_law_1803 at hf
  cases hf
  have k : s_V G (d + 139) M_L_law vs0 σ0 Y_L_law (2927, [.ref v0, .ref v1, .ref v2, .ref v3, .int v4], σ) (e_I r) := k
  refine lv_goto (tgt := 2927) hx hb dL_law_1803 (by decide) ?_
  exact k.2 p e s m below meth c _ _ _ _ _ X I hn.1 hn.2 (lv_sub hl [0, 1, 2, 3, 4] rfl)
set_option maxRecDepth 100000 in
set_option maxHeartbeats 4000000 in
theorem v_L_law_1871 {G : sG} {d : Nat} {vs0 : List Value} {σ0 : sS} {v0 : Nat} {v1 : Nat} {v2 : Nat} {v3 : Nat} {v4 : Int32} {σ : sS} {z : sZ Int32} {r : Int32 × sS} (hf : T_L_law_1871 v0 v1 v2 v3 v4 σ = some z) (k : s_K G (d + 139) M_L_law vs0 σ0 Y_L_law e_I z r) : s_V G (d + 139) M_L_law vs0 σ0 Y_L_law (1871, [.ref v0, .ref v1, .ref v2, .ref v3, .int v4], σ) (e_I r) := by
  have le0 : s_le σ (e_I r).2 := s_lek hem_I (l_L_law_1871 hf) k
  refine ⟨le0, ?_⟩
  intro p e s m below meth c H locs cells slots ls X I hn1 hn2 hl
  have hn : cells + σ0.2.1 ≤ σ.2.1 ∧ slots + σ0.2.2.1 ≤ σ.2.2.1 := ⟨hn1, hn2⟩
  have hl : lv_has ls 8 [(0, .ref v0), (1, .ref v1), (2, .ref v2), (3, .ref v3), (4, .int v4)] := hl
  have hx := X.1
  have hb : c.code = cL_law := X.2.1
  have hown : s.vm.findClass RL = some m.cls := X.2.2.2.2.2.1
  have hts := X.2.2.2.2.2.2.1
  refine W.eq (g2 := F0 m 1871 ls []) rfl ?_
  unfold T_L_law_1871 at hf
  cases hf
  have k : s_V G (d + 139) M_L_law vs0 σ0 Y_L_law (2927, [.ref v0, .ref v1, .ref v2, .ref v3, .int v4], σ) (e_I r) := k
  refine lv_goto (tgt := 2927) hx hb dL_law_1871 (by decide) ?_
  exact k.2 p e s m below meth c _ _ _ _ _ X I hn.1 hn.2 (lv_sub hl [0, 1, 2, 3, 4] rfl)
set_option maxRecDepth 100000 in
set_option maxHeartbeats 4000000 in
theorem v_L_law_1951 {G : sG} {d : Nat} {vs0 : List Value} {σ0 : sS} {v0 : Nat} {v1 : Nat} {v2 : Nat} {v3 : Nat} {v4 : Int32} {σ : sS} {z : sZ Int32} {r : Int32 × sS} (hf : T_L_law_1951 v0 v1 v2 v3 v4 σ = some z) (k : s_K G (d + 139) M_L_law vs0 σ0 Y_L_law e_I z r) : s_V G (d + 139) M_L_law vs0 σ0 Y_L_law (1951, [.ref v0, .ref v1, .ref v2, .ref v3, .int v4], σ) (e_I r) := by
  have le0 : s_le σ (e_I r).2 := s_lek hem_I (l_L_law_1951 hf) k
  refine ⟨le0, ?_⟩
  intro p e s m below meth c H locs cells slots ls X I hn1 hn2 hl
  have hn : cells + σ0.2.1 ≤ σ.2.1 ∧ slots + σ0.2.2.1 ≤ σ.2.2.1 := ⟨hn1, hn2⟩
  have hl : lv_has ls 8 [(0, .ref v0), (1, .ref v1), (2, .ref v2), (3, .ref v3), (4, .int v4)] := hl
  have hx := X.1
  have hb : c.code = cL_law := X.2.1
  have hown : s.vm.findClass RL = some m.cls := X.2.2.2.2.2.1
  have hts := X.2.2.2.2.2.2.1
  refine W.eq (g2 := F0 m 1951 ls []) rfl ?_
  unfold T_L_law_1951 at hf
  cases hf
  have k : s_V G (d + 139) M_L_law vs0 σ0 Y_L_law (2927, [.ref v0, .ref v1, .ref v2, .ref v3, .int v4], σ) (e_I r) := k
  refine lv_goto (tgt := 2927) hx hb dL_law_1951 (by decide) ?_
  exact k.2 p e s m below meth c _ _ _ _ _ X I hn.1 hn.2 (lv_sub hl [0, 1, 2, 3, 4] rfl)
set_option maxRecDepth 100000 in
set_option maxHeartbeats 4000000 in
theorem v_L_law_2031 {G : sG} {d : Nat} {vs0 : List Value} {σ0 : sS} {v0 : Nat} {v1 : Nat} {v2 : Nat} {v3 : Nat} {v4 : Int32} {σ : sS} {z : sZ Int32} {r : Int32 × sS} (hf : T_L_law_2031 v0 v1 v2 v3 v4 σ = some z) (k : s_K G (d + 139) M_L_law vs0 σ0 Y_L_law e_I z r) : s_V G (d + 139) M_L_law vs0 σ0 Y_L_law (2031, [.ref v0, .ref v1, .ref v2, .ref v3, .int v4], σ) (e_I r) := by
  have le0 : s_le σ (e_I r).2 := s_lek hem_I (l_L_law_2031 hf) k
  refine ⟨le0, ?_⟩
  intro p e s m below meth c H locs cells slots ls X I hn1 hn2 hl
  have hn : cells + σ0.2.1 ≤ σ.2.1 ∧ slots + σ0.2.2.1 ≤ σ.2.2.1 := ⟨hn1, hn2⟩
  have hl : lv_has ls 8 [(0, .ref v0), (1, .ref v1), (2, .ref v2), (3, .ref v3), (4, .int v4)] := hl
  have hx := X.1
  have hb : c.code = cL_law := X.2.1
  have hown : s.vm.findClass RL = some m.cls := X.2.2.2.2.2.1
  have hts := X.2.2.2.2.2.2.1
  refine W.eq (g2 := F0 m 2031 ls []) rfl ?_
  unfold T_L_law_2031 at hf
  cases hf
  have k : s_V G (d + 139) M_L_law vs0 σ0 Y_L_law (2927, [.ref v0, .ref v1, .ref v2, .ref v3, .int v4], σ) (e_I r) := k
  refine lv_goto (tgt := 2927) hx hb dL_law_2031 (by decide) ?_
  exact k.2 p e s m below meth c _ _ _ _ _ X I hn.1 hn.2 (lv_sub hl [0, 1, 2, 3, 4] rfl)
set_option maxRecDepth 100000 in
set_option maxHeartbeats 4000000 in
theorem v_L_law_2087 {G : sG} {d : Nat} {vs0 : List Value} {σ0 : sS} {v0 : Nat} {v1 : Nat} {v2 : Nat} {v3 : Nat} {v4 : Int32} {σ : sS} {z : sZ Int32} {r : Int32 × sS} (hf : T_L_law_2087 v0 v1 v2 v3 v4 σ = some z) (k : s_K G (d + 139) M_L_law vs0 σ0 Y_L_law e_I z r) : s_V G (d + 139) M_L_law vs0 σ0 Y_L_law (2087, [.ref v0, .ref v1, .ref v2, .ref v3, .int v4], σ) (e_I r) := by
  have le0 : s_le σ (e_I r).2 := s_lek hem_I (l_L_law_2087 hf) k
  refine ⟨le0, ?_⟩
  intro p e s m below meth c H locs cells slots ls X I hn1 hn2 hl
  have hn : cells + σ0.2.1 ≤ σ.2.1 ∧ slots + σ0.2.2.1 ≤ σ.2.2.1 := ⟨hn1, hn2⟩
  have hl : lv_has ls 8 [(0, .ref v0), (1, .ref v1), (2, .ref v2), (3, .ref v3), (4, .int v4)] := hl
  have hx := X.1
  have hb : c.code = cL_law := X.2.1
  have hown : s.vm.findClass RL = some m.cls := X.2.2.2.2.2.1
  have hts := X.2.2.2.2.2.2.1
  refine W.eq (g2 := F0 m 2087 ls []) rfl ?_
  unfold T_L_law_2087 at hf
  cases hf
  have k : s_V G (d + 139) M_L_law vs0 σ0 Y_L_law (2927, [.ref v0, .ref v1, .ref v2, .ref v3, .int v4], σ) (e_I r) := k
  refine lv_goto (tgt := 2927) hx hb dL_law_2087 (by decide) ?_
  exact k.2 p e s m below meth c _ _ _ _ _ X I hn.1 hn.2 (lv_sub hl [0, 1, 2, 3, 4] rfl)
set_option maxRecDepth 100000 in
set_option maxHeartbeats 4000000 in
theorem v_L_law_2155 {G : sG} {d : Nat} {vs0 : List Value} {σ0 : sS} {v0 : Nat} {v1 : Nat} {v2 : Nat} {v3 : Nat} {v4 : Int32} {σ : sS} {z : sZ Int32} {r : Int32 × sS} (hf : T_L_law_2155 v0 v1 v2 v3 v4 σ = some z) (k : s_K G (d + 139) M_L_law vs0 σ0 Y_L_law e_I z r) : s_V G (d + 139) M_L_law vs0 σ0 Y_L_law (2155, [.ref v0, .ref v1, .ref v2, .ref v3, .int v4], σ) (e_I r) := by
  have le0 : s_le σ (e_I r).2 := s_lek hem_I (l_L_law_2155 hf) k
  refine ⟨le0, ?_⟩
  intro p e s m below meth c H locs cells slots ls X I hn1 hn2 hl
  have hn : cells + σ0.2.1 ≤ σ.2.1 ∧ slots + σ0.2.2.1 ≤ σ.2.2.1 := ⟨hn1, hn2⟩
  have hl : lv_has ls 8 [(0, .ref v0), (1, .ref v1), (2, .ref v2), (3, .ref v3), (4, .int v4)] := hl
  have hx := X.1
  have hb : c.code = cL_law := X.2.1
  have hown : s.vm.findClass RL = some m.cls := X.2.2.2.2.2.1
  have hts := X.2.2.2.2.2.2.1
  refine W.eq (g2 := F0 m 2155 ls []) rfl ?_
  unfold T_L_law_2155 at hf
  cases hf
  have k : s_V G (d + 139) M_L_law vs0 σ0 Y_L_law (2927, [.ref v0, .ref v1, .ref v2, .ref v3, .int v4], σ) (e_I r) := k
  refine lv_goto (tgt := 2927) hx hb dL_law_2155 (by decide) ?_
  exact k.2 p e s m below meth c _ _ _ _ _ X I hn.1 hn.2 (lv_sub hl [0, 1, 2, 3, 4] rfl)
set_option maxRecDepth 100000 in
set_option maxHeartbeats 4000000 in
theorem v_L_law_2211 {G : sG} {d : Nat} {vs0 : List Value} {σ0 : sS} {v0 : Nat} {v1 : Nat} {v2 : Nat} {v3 : Nat} {v4 : Int32} {σ : sS} {z : sZ Int32} {r : Int32 × sS} (hf : T_L_law_2211 v0 v1 v2 v3 v4 σ = some z) (k : s_K G (d + 139) M_L_law vs0 σ0 Y_L_law e_I z r) : s_V G (d + 139) M_L_law vs0 σ0 Y_L_law (2211, [.ref v0, .ref v1, .ref v2, .ref v3, .int v4], σ) (e_I r) := by
  have le0 : s_le σ (e_I r).2 := s_lek hem_I (l_L_law_2211 hf) k
  refine ⟨le0, ?_⟩
  intro p e s m below meth c H locs cells slots ls X I hn1 hn2 hl
  have hn : cells + σ0.2.1 ≤ σ.2.1 ∧ slots + σ0.2.2.1 ≤ σ.2.2.1 := ⟨hn1, hn2⟩
  have hl : lv_has ls 8 [(0, .ref v0), (1, .ref v1), (2, .ref v2), (3, .ref v3), (4, .int v4)] := hl
  have hx := X.1
  have hb : c.code = cL_law := X.2.1
  have hown : s.vm.findClass RL = some m.cls := X.2.2.2.2.2.1
  have hts := X.2.2.2.2.2.2.1
  refine W.eq (g2 := F0 m 2211 ls []) rfl ?_
  unfold T_L_law_2211 at hf
  cases hf
  have k : s_V G (d + 139) M_L_law vs0 σ0 Y_L_law (2927, [.ref v0, .ref v1, .ref v2, .ref v3, .int v4], σ) (e_I r) := k
  refine lv_goto (tgt := 2927) hx hb dL_law_2211 (by decide) ?_
  exact k.2 p e s m below meth c _ _ _ _ _ X I hn.1 hn.2 (lv_sub hl [0, 1, 2, 3, 4] rfl)
set_option maxRecDepth 100000 in
set_option maxHeartbeats 4000000 in
theorem v_L_law_2267 {G : sG} {d : Nat} {vs0 : List Value} {σ0 : sS} {v0 : Nat} {v1 : Nat} {v2 : Nat} {v3 : Nat} {v4 : Int32} {σ : sS} {z : sZ Int32} {r : Int32 × sS} (hf : T_L_law_2267 v0 v1 v2 v3 v4 σ = some z) (k : s_K G (d + 139) M_L_law vs0 σ0 Y_L_law e_I z r) : s_V G (d + 139) M_L_law vs0 σ0 Y_L_law (2267, [.ref v0, .ref v1, .ref v2, .ref v3, .int v4], σ) (e_I r) := by
  have le0 : s_le σ (e_I r).2 := s_lek hem_I (l_L_law_2267 hf) k
  refine ⟨le0, ?_⟩
  intro p e s m below meth c H locs cells slots ls X I hn1 hn2 hl
  have hn : cells + σ0.2.1 ≤ σ.2.1 ∧ slots + σ0.2.2.1 ≤ σ.2.2.1 := ⟨hn1, hn2⟩
  have hl : lv_has ls 8 [(0, .ref v0), (1, .ref v1), (2, .ref v2), (3, .ref v3), (4, .int v4)] := hl
  have hx := X.1
  have hb : c.code = cL_law := X.2.1
  have hown : s.vm.findClass RL = some m.cls := X.2.2.2.2.2.1
  have hts := X.2.2.2.2.2.2.1
  refine W.eq (g2 := F0 m 2267 ls []) rfl ?_
  unfold T_L_law_2267 at hf
  cases hf
  have k : s_V G (d + 139) M_L_law vs0 σ0 Y_L_law (2927, [.ref v0, .ref v1, .ref v2, .ref v3, .int v4], σ) (e_I r) := k
  refine lv_goto (tgt := 2927) hx hb dL_law_2267 (by decide) ?_
  exact k.2 p e s m below meth c _ _ _ _ _ X I hn.1 hn.2 (lv_sub hl [0, 1, 2, 3, 4] rfl)
set_option maxRecDepth 100000 in
set_option maxHeartbeats 4000000 in
theorem v_L_law_2323 {G : sG} {d : Nat} {vs0 : List Value} {σ0 : sS} {v0 : Nat} {v1 : Nat} {v2 : Nat} {v3 : Nat} {v4 : Int32} {σ : sS} {z : sZ Int32} {r : Int32 × sS} (hf : T_L_law_2323 v0 v1 v2 v3 v4 σ = some z) (k : s_K G (d + 139) M_L_law vs0 σ0 Y_L_law e_I z r) : s_V G (d + 139) M_L_law vs0 σ0 Y_L_law (2323, [.ref v0, .ref v1, .ref v2, .ref v3, .int v4], σ) (e_I r) := by
  have le0 : s_le σ (e_I r).2 := s_lek hem_I (l_L_law_2323 hf) k
  refine ⟨le0, ?_⟩
  intro p e s m below meth c H locs cells slots ls X I hn1 hn2 hl
  have hn : cells + σ0.2.1 ≤ σ.2.1 ∧ slots + σ0.2.2.1 ≤ σ.2.2.1 := ⟨hn1, hn2⟩
  have hl : lv_has ls 8 [(0, .ref v0), (1, .ref v1), (2, .ref v2), (3, .ref v3), (4, .int v4)] := hl
  have hx := X.1
  have hb : c.code = cL_law := X.2.1
  have hown : s.vm.findClass RL = some m.cls := X.2.2.2.2.2.1
  have hts := X.2.2.2.2.2.2.1
  refine W.eq (g2 := F0 m 2323 ls []) rfl ?_
  unfold T_L_law_2323 at hf
  cases hf
  have k : s_V G (d + 139) M_L_law vs0 σ0 Y_L_law (2927, [.ref v0, .ref v1, .ref v2, .ref v3, .int v4], σ) (e_I r) := k
  refine lv_goto (tgt := 2927) hx hb dL_law_2323 (by decide) ?_
  exact k.2 p e s m below meth c _ _ _ _ _ X I hn.1 hn.2 (lv_sub hl [0, 1, 2, 3, 4] rfl)
set_option maxRecDepth 100000 in
set_option maxHeartbeats 4000000 in
theorem v_L_law_2379 {G : sG} {d : Nat} {vs0 : List Value} {σ0 : sS} {v0 : Nat} {v1 : Nat} {v2 : Nat} {v3 : Nat} {v4 : Int32} {σ : sS} {z : sZ Int32} {r : Int32 × sS} (hf : T_L_law_2379 v0 v1 v2 v3 v4 σ = some z) (k : s_K G (d + 139) M_L_law vs0 σ0 Y_L_law e_I z r) : s_V G (d + 139) M_L_law vs0 σ0 Y_L_law (2379, [.ref v0, .ref v1, .ref v2, .ref v3, .int v4], σ) (e_I r) := by
  have le0 : s_le σ (e_I r).2 := s_lek hem_I (l_L_law_2379 hf) k
  refine ⟨le0, ?_⟩
  intro p e s m below meth c H locs cells slots ls X I hn1 hn2 hl
  have hn : cells + σ0.2.1 ≤ σ.2.1 ∧ slots + σ0.2.2.1 ≤ σ.2.2.1 := ⟨hn1, hn2⟩
  have hl : lv_has ls 8 [(0, .ref v0), (1, .ref v1), (2, .ref v2), (3, .ref v3), (4, .int v4)] := hl
  have hx := X.1
  have hb : c.code = cL_law := X.2.1
  have hown : s.vm.findClass RL = some m.cls := X.2.2.2.2.2.1
  have hts := X.2.2.2.2.2.2.1
  refine W.eq (g2 := F0 m 2379 ls []) rfl ?_
  unfold T_L_law_2379 at hf
  cases hf
  have k : s_V G (d + 139) M_L_law vs0 σ0 Y_L_law (2927, [.ref v0, .ref v1, .ref v2, .ref v3, .int v4], σ) (e_I r) := k
  refine lv_goto (tgt := 2927) hx hb dL_law_2379 (by decide) ?_
  exact k.2 p e s m below meth c _ _ _ _ _ X I hn.1 hn.2 (lv_sub hl [0, 1, 2, 3, 4] rfl)
set_option maxRecDepth 100000 in
set_option maxHeartbeats 4000000 in
theorem v_L_law_2447 {G : sG} {d : Nat} {vs0 : List Value} {σ0 : sS} {v0 : Nat} {v1 : Nat} {v2 : Nat} {v3 : Nat} {v4 : Int32} {σ : sS} {z : sZ Int32} {r : Int32 × sS} (hf : T_L_law_2447 v0 v1 v2 v3 v4 σ = some z) (k : s_K G (d + 139) M_L_law vs0 σ0 Y_L_law e_I z r) : s_V G (d + 139) M_L_law vs0 σ0 Y_L_law (2447, [.ref v0, .ref v1, .ref v2, .ref v3, .int v4], σ) (e_I r) := by
  have le0 : s_le σ (e_I r).2 := s_lek hem_I (l_L_law_2447 hf) k
  refine ⟨le0, ?_⟩
  intro p e s m below meth c H locs cells slots ls X I hn1 hn2 hl
  have hn : cells + σ0.2.1 ≤ σ.2.1 ∧ slots + σ0.2.2.1 ≤ σ.2.2.1 := ⟨hn1, hn2⟩
  have hl : lv_has ls 8 [(0, .ref v0), (1, .ref v1), (2, .ref v2), (3, .ref v3), (4, .int v4)] := hl
  have hx := X.1
  have hb : c.code = cL_law := X.2.1
  have hown : s.vm.findClass RL = some m.cls := X.2.2.2.2.2.1
  have hts := X.2.2.2.2.2.2.1
  refine W.eq (g2 := F0 m 2447 ls []) rfl ?_
  unfold T_L_law_2447 at hf
  cases hf
  have k : s_V G (d + 139) M_L_law vs0 σ0 Y_L_law (2927, [.ref v0, .ref v1, .ref v2, .ref v3, .int v4], σ) (e_I r) := k
  refine lv_goto (tgt := 2927) hx hb dL_law_2447 (by decide) ?_
  exact k.2 p e s m below meth c _ _ _ _ _ X I hn.1 hn.2 (lv_sub hl [0, 1, 2, 3, 4] rfl)
set_option maxRecDepth 100000 in
set_option maxHeartbeats 4000000 in
theorem v_L_law_2515 {G : sG} {d : Nat} {vs0 : List Value} {σ0 : sS} {v0 : Nat} {v1 : Nat} {v2 : Nat} {v3 : Nat} {v4 : Int32} {σ : sS} {z : sZ Int32} {r : Int32 × sS} (hf : T_L_law_2515 v0 v1 v2 v3 v4 σ = some z) (k : s_K G (d + 139) M_L_law vs0 σ0 Y_L_law e_I z r) : s_V G (d + 139) M_L_law vs0 σ0 Y_L_law (2515, [.ref v0, .ref v1, .ref v2, .ref v3, .int v4], σ) (e_I r) := by
  have le0 : s_le σ (e_I r).2 := s_lek hem_I (l_L_law_2515 hf) k
  refine ⟨le0, ?_⟩
  intro p e s m below meth c H locs cells slots ls X I hn1 hn2 hl
  have hn : cells + σ0.2.1 ≤ σ.2.1 ∧ slots + σ0.2.2.1 ≤ σ.2.2.1 := ⟨hn1, hn2⟩
  have hl : lv_has ls 8 [(0, .ref v0), (1, .ref v1), (2, .ref v2), (3, .ref v3), (4, .int v4)] := hl
  have hx := X.1
  have hb : c.code = cL_law := X.2.1
  have hown : s.vm.findClass RL = some m.cls := X.2.2.2.2.2.1
  have hts := X.2.2.2.2.2.2.1
  refine W.eq (g2 := F0 m 2515 ls []) rfl ?_
  unfold T_L_law_2515 at hf
  cases hf
  have k : s_V G (d + 139) M_L_law vs0 σ0 Y_L_law (2927, [.ref v0, .ref v1, .ref v2, .ref v3, .int v4], σ) (e_I r) := k
  refine lv_goto (tgt := 2927) hx hb dL_law_2515 (by decide) ?_
  exact k.2 p e s m below meth c _ _ _ _ _ X I hn.1 hn.2 (lv_sub hl [0, 1, 2, 3, 4] rfl)
set_option maxRecDepth 100000 in
set_option maxHeartbeats 4000000 in
theorem v_L_law_2607 {G : sG} {d : Nat} {vs0 : List Value} {σ0 : sS} {v0 : Nat} {v1 : Nat} {v2 : Nat} {v3 : Nat} {v4 : Int32} {σ : sS} {z : sZ Int32} {r : Int32 × sS} (hf : T_L_law_2607 v0 v1 v2 v3 v4 σ = some z) (k : s_K G (d + 139) M_L_law vs0 σ0 Y_L_law e_I z r) : s_V G (d + 139) M_L_law vs0 σ0 Y_L_law (2607, [.ref v0, .ref v1, .ref v2, .ref v3, .int v4], σ) (e_I r) := by
  have le0 : s_le σ (e_I r).2 := s_lek hem_I (l_L_law_2607 hf) k
  refine ⟨le0, ?_⟩
  intro p e s m below meth c H locs cells slots ls X I hn1 hn2 hl
  have hn : cells + σ0.2.1 ≤ σ.2.1 ∧ slots + σ0.2.2.1 ≤ σ.2.2.1 := ⟨hn1, hn2⟩
  have hl : lv_has ls 8 [(0, .ref v0), (1, .ref v1), (2, .ref v2), (3, .ref v3), (4, .int v4)] := hl
  have hx := X.1
  have hb : c.code = cL_law := X.2.1
  have hown : s.vm.findClass RL = some m.cls := X.2.2.2.2.2.1
  have hts := X.2.2.2.2.2.2.1
  refine W.eq (g2 := F0 m 2607 ls []) rfl ?_
  unfold T_L_law_2607 at hf
  cases hf
  have k : s_V G (d + 139) M_L_law vs0 σ0 Y_L_law (2927, [.ref v0, .ref v1, .ref v2, .ref v3, .int v4], σ) (e_I r) := k
  refine lv_goto (tgt := 2927) hx hb dL_law_2607 (by decide) ?_
  exact k.2 p e s m below meth c _ _ _ _ _ X I hn.1 hn.2 (lv_sub hl [0, 1, 2, 3, 4] rfl)
set_option maxRecDepth 100000 in
set_option maxHeartbeats 4000000 in
theorem v_L_law_2664 {G : sG} {d : Nat} {vs0 : List Value} {σ0 : sS} {v0 : Nat} {v1 : Nat} {v2 : Nat} {v3 : Nat} {v4 : Int32} {w0 : Int64} {w1 : Int64} {σ : sS} {z : sZ Int32} {r : Int32 × sS} (hf : T_L_law_2664 v0 v1 v2 v3 v4 w0 w1 σ = some z) (k : s_K G (d + 139) M_L_law vs0 σ0 Y_L_law e_I z r) : s_V G (d + 139) M_L_law vs0 σ0 Y_L_law (2664, [.ref v0, .ref v1, .ref v2, .ref v3, .int v4, .long w0, .long w1], σ) (e_I r) := by
  have le0 : s_le σ (e_I r).2 := s_lek hem_I (l_L_law_2664 hf) k
  refine ⟨le0, ?_⟩
  intro p e s m below meth c H locs cells slots ls X I hn1 hn2 hl
  have hn : cells + σ0.2.1 ≤ σ.2.1 ∧ slots + σ0.2.2.1 ≤ σ.2.2.1 := ⟨hn1, hn2⟩
  have hl : lv_has ls 8 [(0, .ref v0), (1, .ref v1), (2, .ref v2), (3, .ref v3), (4, .int v4)] := hl
  have hx := X.1
  have hb : c.code = cL_law := X.2.1
  have hown : s.vm.findClass RL = some m.cls := X.2.2.2.2.2.1
  have hts := X.2.2.2.2.2.2.1
  refine W.eq (g2 := F0 m 2664 ls [.long w0, .long w1]) rfl ?_
  unfold T_L_law_2664 at hf
  refine W.lcmp hx hb dL_law_2664 ?_
  rcases s_ite hf with ⟨c1, hf⟩ | ⟨c1, hf⟩
  · refine lv_if_eq (tgt := 2670) hx hb dL_law_2665 (by decide) (fun _ => ?_) (fun n => absurd c1 n)
    cases hf
    have k : s_V G (d + 139) M_L_law vs0 σ0 Y_L_law (2670, [.ref v0, .ref v1, .ref v2, .ref v3, .int v4], σ) (e_I r) := k
    exact k.2 p e s m below meth c _ _ _ _ _ X I hn.1 hn.2 (lv_sub hl [0, 1, 2, 3, 4] rfl)
  · refine lv_if_eq (tgt := 2670) hx hb dL_law_2665 (by decide) (fun n => absurd n c1) (fun _ => ?_)
    cases hf
    have k : _ = r := k
    subst k
    refine lv_iconst (v := 0) hx hb dL_law_2668 (by decide) ?_
    exact r_iret X I rfl rfl rfl hn dL_law_2669
set_option maxRecDepth 100000 in
set_option maxHeartbeats 4000000 in
theorem v_L_law_2670 {G : sG} {d : Nat} {vs0 : List Value} {σ0 : sS} {v0 : Nat} {v1 : Nat} {v2 : Nat} {v3 : Nat} {v4 : Int32} {σ : sS} {z : sZ Int32} {r : Int32 × sS} (hf : T_L_law_2670 v0 v1 v2 v3 v4 σ = some z) (k : s_K G (d + 139) M_L_law vs0 σ0 Y_L_law e_I z r) : s_V G (d + 139) M_L_law vs0 σ0 Y_L_law (2670, [.ref v0, .ref v1, .ref v2, .ref v3, .int v4], σ) (e_I r) := by
  have le0 : s_le σ (e_I r).2 := s_lek hem_I (l_L_law_2670 hf) k
  refine ⟨le0, ?_⟩
  intro p e s m below meth c H locs cells slots ls X I hn1 hn2 hl
  have hn : cells + σ0.2.1 ≤ σ.2.1 ∧ slots + σ0.2.2.1 ≤ σ.2.2.1 := ⟨hn1, hn2⟩
  have hl : lv_has ls 8 [(0, .ref v0), (1, .ref v1), (2, .ref v2), (3, .ref v3), (4, .int v4)] := hl
  have hx := X.1
  have hb : c.code = cL_law := X.2.1
  have hown : s.vm.findClass RL = some m.cls := X.2.2.2.2.2.1
  have hts := X.2.2.2.2.2.2.1
  refine W.eq (g2 := F0 m 2670 ls []) rfl ?_
  unfold T_L_law_2670 at hf
  cases hf
  have k : s_V G (d + 139) M_L_law vs0 σ0 Y_L_law (2927, [.ref v0, .ref v1, .ref v2, .ref v3, .int v4], σ) (e_I r) := k
  refine lv_goto (tgt := 2927) hx hb dL_law_2670 (by decide) ?_
  exact k.2 p e s m below meth c _ _ _ _ _ X I hn.1 hn.2 (lv_sub hl [0, 1, 2, 3, 4] rfl)
set_option maxRecDepth 100000 in
set_option maxHeartbeats 4000000 in
theorem v_L_law_2750 {G : sG} {d : Nat} {vs0 : List Value} {σ0 : sS} {v0 : Nat} {v1 : Nat} {v2 : Nat} {v3 : Nat} {v4 : Int32} {σ : sS} {z : sZ Int32} {r : Int32 × sS} (hf : T_L_law_2750 v0 v1 v2 v3 v4 σ = some z) (k : s_K G (d + 139) M_L_law vs0 σ0 Y_L_law e_I z r) : s_V G (d + 139) M_L_law vs0 σ0 Y_L_law (2750, [.ref v0, .ref v1, .ref v2, .ref v3, .int v4], σ) (e_I r) := by
  have le0 : s_le σ (e_I r).2 := s_lek hem_I (l_L_law_2750 hf) k
  refine ⟨le0, ?_⟩
  intro p e s m below meth c H locs cells slots ls X I hn1 hn2 hl
  have hn : cells + σ0.2.1 ≤ σ.2.1 ∧ slots + σ0.2.2.1 ≤ σ.2.2.1 := ⟨hn1, hn2⟩
  have hl : lv_has ls 8 [(0, .ref v0), (1, .ref v1), (2, .ref v2), (3, .ref v3), (4, .int v4)] := hl
  have hx := X.1
  have hb : c.code = cL_law := X.2.1
  have hown : s.vm.findClass RL = some m.cls := X.2.2.2.2.2.1
  have hts := X.2.2.2.2.2.2.1
  refine W.eq (g2 := F0 m 2750 ls []) rfl ?_
  unfold T_L_law_2750 at hf
  cases hf
  have k : s_V G (d + 139) M_L_law vs0 σ0 Y_L_law (2927, [.ref v0, .ref v1, .ref v2, .ref v3, .int v4], σ) (e_I r) := k
  refine lv_goto (tgt := 2927) hx hb dL_law_2750 (by decide) ?_
  exact k.2 p e s m below meth c _ _ _ _ _ X I hn.1 hn.2 (lv_sub hl [0, 1, 2, 3, 4] rfl)
set_option maxRecDepth 100000 in
set_option maxHeartbeats 4000000 in
theorem v_L_law_2806 {G : sG} {d : Nat} {vs0 : List Value} {σ0 : sS} {v0 : Nat} {v1 : Nat} {v2 : Nat} {v3 : Nat} {v4 : Int32} {σ : sS} {z : sZ Int32} {r : Int32 × sS} (hf : T_L_law_2806 v0 v1 v2 v3 v4 σ = some z) (k : s_K G (d + 139) M_L_law vs0 σ0 Y_L_law e_I z r) : s_V G (d + 139) M_L_law vs0 σ0 Y_L_law (2806, [.ref v0, .ref v1, .ref v2, .ref v3, .int v4], σ) (e_I r) := by
  have le0 : s_le σ (e_I r).2 := s_lek hem_I (l_L_law_2806 hf) k
  refine ⟨le0, ?_⟩
  intro p e s m below meth c H locs cells slots ls X I hn1 hn2 hl
  have hn : cells + σ0.2.1 ≤ σ.2.1 ∧ slots + σ0.2.2.1 ≤ σ.2.2.1 := ⟨hn1, hn2⟩
  have hl : lv_has ls 8 [(0, .ref v0), (1, .ref v1), (2, .ref v2), (3, .ref v3), (4, .int v4)] := hl
  have hx := X.1
  have hb : c.code = cL_law := X.2.1
  have hown : s.vm.findClass RL = some m.cls := X.2.2.2.2.2.1
  have hts := X.2.2.2.2.2.2.1
  refine W.eq (g2 := F0 m 2806 ls []) rfl ?_
  unfold T_L_law_2806 at hf
  cases hf
  have k : s_V G (d + 139) M_L_law vs0 σ0 Y_L_law (2927, [.ref v0, .ref v1, .ref v2, .ref v3, .int v4], σ) (e_I r) := k
  refine lv_goto (tgt := 2927) hx hb dL_law_2806 (by decide) ?_
  exact k.2 p e s m below meth c _ _ _ _ _ X I hn.1 hn.2 (lv_sub hl [0, 1, 2, 3, 4] rfl)
set_option maxRecDepth 100000 in
set_option maxHeartbeats 4000000 in
theorem v_L_law_2875 {G : sG} {d : Nat} {vs0 : List Value} {σ0 : sS} {v0 : Nat} {v1 : Nat} {v2 : Nat} {v3 : Nat} {v4 : Int32} {σ : sS} {z : sZ Int32} {r : Int32 × sS} (hf : T_L_law_2875 v0 v1 v2 v3 v4 σ = some z) (k : s_K G (d + 139) M_L_law vs0 σ0 Y_L_law e_I z r) : s_V G (d + 139) M_L_law vs0 σ0 Y_L_law (2875, [.ref v0, .ref v1, .ref v2, .ref v3, .int v4], σ) (e_I r) := by
  have le0 : s_le σ (e_I r).2 := s_lek hem_I (l_L_law_2875 hf) k
  refine ⟨le0, ?_⟩
  intro p e s m below meth c H locs cells slots ls X I hn1 hn2 hl
  have hn : cells + σ0.2.1 ≤ σ.2.1 ∧ slots + σ0.2.2.1 ≤ σ.2.2.1 := ⟨hn1, hn2⟩
  have hl : lv_has ls 8 [(0, .ref v0), (1, .ref v1), (2, .ref v2), (3, .ref v3), (4, .int v4)] := hl
  have hx := X.1
  have hb : c.code = cL_law := X.2.1
  have hown : s.vm.findClass RL = some m.cls := X.2.2.2.2.2.1
  have hts := X.2.2.2.2.2.2.1
  refine W.eq (g2 := F0 m 2875 ls []) rfl ?_
  unfold T_L_law_2875 at hf
  cases hf
  have k : s_V G (d + 139) M_L_law vs0 σ0 Y_L_law (2927, [.ref v0, .ref v1, .ref v2, .ref v3, .int v4], σ) (e_I r) := k
  refine lv_goto (tgt := 2927) hx hb dL_law_2875 (by decide) ?_
  exact k.2 p e s m below meth c _ _ _ _ _ X I hn.1 hn.2 (lv_sub hl [0, 1, 2, 3, 4] rfl)
set_option maxRecDepth 100000 in
set_option maxHeartbeats 4000000 in
theorem v_L_law_2927 {G : sG} {d : Nat} {vs0 : List Value} {σ0 : sS} {v0 : Nat} {v1 : Nat} {v2 : Nat} {v3 : Nat} {v4 : Int32} {σ : sS} {z : sZ Int32} {r : Int32 × sS} (hf : T_L_law_2927 v0 v1 v2 v3 v4 σ = some z) (k : s_K G (d + 139) M_L_law vs0 σ0 Y_L_law e_I z r) : s_V G (d + 139) M_L_law vs0 σ0 Y_L_law (2927, [.ref v0, .ref v1, .ref v2, .ref v3, .int v4], σ) (e_I r) := by
  have le0 : s_le σ (e_I r).2 := s_lek hem_I (l_L_law_2927 hf) k
  refine ⟨le0, ?_⟩
  intro p e s m below meth c H locs cells slots ls X I hn1 hn2 hl
  have hn : cells + σ0.2.1 ≤ σ.2.1 ∧ slots + σ0.2.2.1 ≤ σ.2.2.1 := ⟨hn1, hn2⟩
  have hl : lv_has ls 8 [(0, .ref v0), (1, .ref v1), (2, .ref v2), (3, .ref v3), (4, .int v4)] := hl
  have hx := X.1
  have hb : c.code = cL_law := X.2.1
  have hown : s.vm.findClass RL = some m.cls := X.2.2.2.2.2.1
  have hts := X.2.2.2.2.2.2.1
  refine W.eq (g2 := F0 m 2927 ls []) rfl ?_
  unfold T_L_law_2927 at hf
  cases hf
  have k : s_V G (d + 139) M_L_law vs0 σ0 Y_L_law (23, [.ref v0, .ref v1, .ref v2, .ref v3, .int (v4 + 7)], σ) (e_I r) := k
  refine lv_iinc (v := (v4 + 7)) (lv' := [(4, .int (v4 + 7)), (0, .ref v0), (1, .ref v1), (2, .ref v2), (3, .ref v3)]) hx hb dL_law_2927 hl (k := 4) rfl rfl (by decide) rfl (fun ls hl => ?_)
  refine lv_goto (tgt := 23) hx hb dL_law_2930 (by decide) ?_
  exact k.2 p e s m below meth c _ _ _ _ _ X I hn.1 hn.2 (lv_sub hl [1, 2, 3, 4, 0] rfl)
theorem v_L_law {G : sG} {d : Nat} {vs0 : List Value} {σ0 : sS} {x : sL} {z : sZ Int32} {r : Int32 × sS} (hs : S_L_law x = some z) (k : s_K G (d + 139) M_L_law vs0 σ0 Y_L_law e_I z r) : s_V G (d + 139) M_L_law vs0 σ0 Y_L_law x (e_I r) := by
  obtain ⟨pc, vs, σ⟩ := x
  unfold S_L_law at hs
  dsimp only at hs
  rcases s_ite hs with ⟨c, hs⟩ | ⟨-, hs⟩
  · subst c
    unfold U_L_law_0 at hs
    obtain ⟨a0, g0, hs⟩ := s_bind hs
    obtain ⟨a1, g1, hs⟩ := s_bind hs
    obtain ⟨u9, ge, hs⟩ := s_bind hs
    rw [g_r_to g0, g_r_to g1, g_e_to ge]
    exact v_L_law_0 hs k
  rcases s_ite hs with ⟨c, hs⟩ | ⟨-, hs⟩
  · subst c
    unfold U_L_law_23 at hs
    obtain ⟨a0, g0, hs⟩ := s_bind hs
    obtain ⟨a1, g1, hs⟩ := s_bind hs
    obtain ⟨a2, g2, hs⟩ := s_bind hs
    obtain ⟨a3, g3, hs⟩ := s_bind hs
    obtain ⟨a4, g4, hs⟩ := s_bind hs
    obtain ⟨u9, ge, hs⟩ := s_bind hs
    rw [g_r_to g0, g_r_to g1, g_r_to g2, g_r_to g3, g_i_to g4, g_e_to ge]
    exact v_L_law_23 hs k
  rcases s_ite hs with ⟨c, hs⟩ | ⟨-, hs⟩
  · subst c
    unfold U_L_law_375 at hs
    obtain ⟨a0, g0, hs⟩ := s_bind hs
    obtain ⟨a1, g1, hs⟩ := s_bind hs
    obtain ⟨a2, g2, hs⟩ := s_bind hs
    obtain ⟨a3, g3, hs⟩ := s_bind hs
    obtain ⟨a4, g4, hs⟩ := s_bind hs
    obtain ⟨u9, ge, hs⟩ := s_bind hs
    rw [g_r_to g0, g_r_to g1, g_r_to g2, g_r_to g3, g_i_to g4, g_e_to ge]
    exact v_L_law_375 hs k
  rcases s_ite hs with ⟨c, hs⟩ | ⟨-, hs⟩
  · subst c
    unfold U_L_law_480 at hs
    obtain ⟨a0, g0, hs⟩ := s_bind hs
    obtain ⟨a1, g1, hs⟩ := s_bind hs
    obtain ⟨a2, g2, hs⟩ := s_bind hs
    obtain ⟨a3, g3, hs⟩ := s_bind hs
    obtain ⟨a4, g4, hs⟩ := s_bind hs
    obtain ⟨u9, ge, hs⟩ := s_bind hs
    rw [g_r_to g0, g_r_to g1, g_r_to g2, g_r_to g3, g_i_to g4, g_e_to ge]
    exact v_L_law_480 hs k
  rcases s_ite hs with ⟨c, hs⟩ | ⟨-, hs⟩
  · subst c
    unfold U_L_law_549 at hs
    obtain ⟨a0, g0, hs⟩ := s_bind hs
    obtain ⟨a1, g1, hs⟩ := s_bind hs
    obtain ⟨a2, g2, hs⟩ := s_bind hs
    obtain ⟨a3, g3, hs⟩ := s_bind hs
    obtain ⟨a4, g4, hs⟩ := s_bind hs
    obtain ⟨a5, g5, hs⟩ := s_bind hs
    obtain ⟨a6, g6, hs⟩ := s_bind hs
    obtain ⟨u9, ge, hs⟩ := s_bind hs
    rw [g_r_to g0, g_r_to g1, g_r_to g2, g_r_to g3, g_i_to g4, g_l_to g5, g_l_to g6, g_e_to ge]
    exact v_L_law_549 hs k
  rcases s_ite hs with ⟨c, hs⟩ | ⟨-, hs⟩
  · subst c
    unfold U_L_law_555 at hs
    obtain ⟨a0, g0, hs⟩ := s_bind hs
    obtain ⟨a1, g1, hs⟩ := s_bind hs
    obtain ⟨a2, g2, hs⟩ := s_bind hs
    obtain ⟨a3, g3, hs⟩ := s_bind hs
    obtain ⟨a4, g4, hs⟩ := s_bind hs
    obtain ⟨u9, ge, hs⟩ := s_bind hs
    rw [g_r_to g0, g_r_to g1, g_r_to g2, g_r_to g3, g_i_to g4, g_e_to ge]
    exact v_L_law_555 hs k
  rcases s_ite hs with ⟨c, hs⟩ | ⟨-, hs⟩
  · subst c
    unfold U_L_law_624 at hs
    obtain ⟨a0, g0, hs⟩ := s_bind hs
    obtain ⟨a1, g1, hs⟩ := s_bind hs
    obtain ⟨a2, g2, hs⟩ := s_bind hs
    obtain ⟨a3, g3, hs⟩ := s_bind hs
    obtain ⟨a4, g4, hs⟩ := s_bind hs
    obtain ⟨a5, g5, hs⟩ := s_bind hs
    obtain ⟨a6, g6, hs⟩ := s_bind hs
    obtain ⟨u9, ge, hs⟩ := s_bind hs
    rw [g_r_to g0, g_r_to g1, g_r_to g2, g_r_to g3, g_i_to g4, g_l_to g5, g_l_to g6, g_e_to ge]
    exact v_L_law_624 hs k
  rcases s_ite hs with ⟨c, hs⟩ | ⟨-, hs⟩
  · subst c
    unfold U_L_law_630 at hs
    obtain ⟨a0, g0, hs⟩ := s_bind hs
    obtain ⟨a1, g1, hs⟩ := s_bind hs
    obtain ⟨a2, g2, hs⟩ := s_bind hs
    obtain ⟨a3, g3, hs⟩ := s_bind hs
    obtain ⟨a4, g4, hs⟩ := s_bind hs
    obtain ⟨u9, ge, hs⟩ := s_bind hs
    rw [g_r_to g0, g_r_to g1, g_r_to g2, g_r_to g3, g_i_to g4, g_e_to ge]
    exact v_L_law_630 hs k
  rcases s_ite hs with ⟨c, hs⟩ | ⟨-, hs⟩
  · subst c
    unfold U_L_law_686 at hs
    obtain ⟨a0, g0, hs⟩ := s_bind hs
    obtain ⟨a1, g1, hs⟩ := s_bind hs
    obtain ⟨a2, g2, hs⟩ := s_bind hs
    obtain ⟨a3, g3, hs⟩ := s_bind hs
    obtain ⟨a4, g4, hs⟩ := s_bind hs
    obtain ⟨u9, ge, hs⟩ := s_bind hs
    rw [g_r_to g0, g_r_to g1, g_r_to g2, g_r_to g3, g_i_to g4, g_e_to ge]
    exact v_L_law_686 hs k
  rcases s_ite hs with ⟨c, hs⟩ | ⟨-, hs⟩
  · subst c
    unfold U_L_law_754 at hs
    obtain ⟨a0, g0, hs⟩ := s_bind hs
    obtain ⟨a1, g1, hs⟩ := s_bind hs
    obtain ⟨a2, g2, hs⟩ := s_bind hs
    obtain ⟨a3, g3, hs⟩ := s_bind hs
    obtain ⟨a4, g4, hs⟩ := s_bind hs
    obtain ⟨u9, ge, hs⟩ := s_bind hs
    rw [g_r_to g0, g_r_to g1, g_r_to g2, g_r_to g3, g_i_to g4, g_e_to ge]
    exact v_L_law_754 hs k
  rcases s_ite hs with ⟨c, hs⟩ | ⟨-, hs⟩
  · subst c
    unfold U_L_law_834 at hs
    obtain ⟨a0, g0, hs⟩ := s_bind hs
    obtain ⟨a1, g1, hs⟩ := s_bind hs
    obtain ⟨a2, g2, hs⟩ := s_bind hs
    obtain ⟨a3, g3, hs⟩ := s_bind hs
    obtain ⟨a4, g4, hs⟩ := s_bind hs
    obtain ⟨u9, ge, hs⟩ := s_bind hs
    rw [g_r_to g0, g_r_to g1, g_r_to g2, g_r_to g3, g_i_to g4, g_e_to ge]
    exact v_L_law_834 hs k
  rcases s_ite hs with ⟨c, hs⟩ | ⟨-, hs⟩
  · subst c
    unfold U_L_law_864 at hs
    obtain ⟨a0, g0, hs⟩ := s_bind hs
    obtain ⟨a1, g1, hs⟩ := s_bind hs
    obtain ⟨a2, g2, hs⟩ := s_bind hs
    obtain ⟨a3, g3, hs⟩ := s_bind hs
    obtain ⟨a4, g4, hs⟩ := s_bind hs
    obtain ⟨a5, g5, hs⟩ := s_bind hs
    obtain ⟨a6, g6, hs⟩ := s_bind hs
    obtain ⟨a7, g7, hs⟩ := s_bind hs
    obtain ⟨a8, g8, hs⟩ := s_bind hs
    obtain ⟨u9, ge, hs⟩ := s_bind hs
    rw [g_r_to g0, g_r_to g1, g_r_to g2, g_r_to g3, g_i_to g4, g_i_to g5, g_i_to g6, g_i_to g7, g_r_to g8, g_e_to ge]
    exact v_L_law_864 hs k
  rcases s_ite hs with ⟨c, hs⟩ | ⟨-, hs⟩
  · subst c
    unfold U_L_law_897 at hs
    obtain ⟨a0, g0, hs⟩ := s_bind hs
    obtain ⟨a1, g1, hs⟩ := s_bind hs
    obtain ⟨a2, g2, hs⟩ := s_bind hs
    obtain ⟨a3, g3, hs⟩ := s_bind hs
    obtain ⟨a4, g4, hs⟩ := s_bind hs
    obtain ⟨a5, g5, hs⟩ := s_bind hs
    obtain ⟨a6, g6, hs⟩ := s_bind hs
    obtain ⟨a7, g7, hs⟩ := s_bind hs
    obtain ⟨a8, g8, hs⟩ := s_bind hs
    obtain ⟨a9, g9, hs⟩ := s_bind hs
    obtain ⟨u9, ge, hs⟩ := s_bind hs
    rw [g_r_to g0, g_r_to g1, g_r_to g2, g_r_to g3, g_i_to g4, g_i_to g5, g_i_to g6, g_i_to g7, g_i_to g8, g_r_to g9, g_e_to ge]
    exact v_L_law_897 hs k
  rcases s_ite hs with ⟨c, hs⟩ | ⟨-, hs⟩
  · subst c
    unfold U_L_law_931 at hs
    obtain ⟨a0, g0, hs⟩ := s_bind hs
    obtain ⟨a1, g1, hs⟩ := s_bind hs
    obtain ⟨a2, g2, hs⟩ := s_bind hs
    obtain ⟨a3, g3, hs⟩ := s_bind hs
    obtain ⟨a4, g4, hs⟩ := s_bind hs
    obtain ⟨a5, g5, hs⟩ := s_bind hs
    obtain ⟨a6, g6, hs⟩ := s_bind hs
    obtain ⟨u9, ge, hs⟩ := s_bind hs
    rw [g_r_to g0, g_r_to g1, g_r_to g2, g_r_to g3, g_i_to g4, g_l_to g5, g_l_to g6, g_e_to ge]
    exact v_L_law_931 hs k
  rcases s_ite hs with ⟨c, hs⟩ | ⟨-, hs⟩
  · subst c
    unfold U_L_law_937 at hs
    obtain ⟨a0, g0, hs⟩ := s_bind hs
    obtain ⟨a1, g1, hs⟩ := s_bind hs
    obtain ⟨a2, g2, hs⟩ := s_bind hs
    obtain ⟨a3, g3, hs⟩ := s_bind hs
    obtain ⟨a4, g4, hs⟩ := s_bind hs
    obtain ⟨u9, ge, hs⟩ := s_bind hs
    rw [g_r_to g0, g_r_to g1, g_r_to g2, g_r_to g3, g_i_to g4, g_e_to ge]
    exact v_L_law_937 hs k
  rcases s_ite hs with ⟨c, hs⟩ | ⟨-, hs⟩
  · subst c
    unfold U_L_law_993 at hs
    obtain ⟨a0, g0, hs⟩ := s_bind hs
    obtain ⟨a1, g1, hs⟩ := s_bind hs
    obtain ⟨a2, g2, hs⟩ := s_bind hs
    obtain ⟨a3, g3, hs⟩ := s_bind hs
    obtain ⟨a4, g4, hs⟩ := s_bind hs
    obtain ⟨u9, ge, hs⟩ := s_bind hs
    rw [g_r_to g0, g_r_to g1, g_r_to g2, g_r_to g3, g_i_to g4, g_e_to ge]
    exact v_L_law_993 hs k
  rcases s_ite hs with ⟨c, hs⟩ | ⟨-, hs⟩
  · subst c
    unfold U_L_law_1111 at hs
    obtain ⟨a0, g0, hs⟩ := s_bind hs
    obtain ⟨a1, g1, hs⟩ := s_bind hs
    obtain ⟨a2, g2, hs⟩ := s_bind hs
    obtain ⟨a3, g3, hs⟩ := s_bind hs
    obtain ⟨a4, g4, hs⟩ := s_bind hs
    obtain ⟨u9, ge, hs⟩ := s_bind hs
    rw [g_r_to g0, g_r_to g1, g_r_to g2, g_r_to g3, g_i_to g4, g_e_to ge]
    exact v_L_law_1111 hs k
  rcases s_ite hs with ⟨c, hs⟩ | ⟨-, hs⟩
  · subst c
    unfold U_L_law_1179 at hs
    obtain ⟨a0, g0, hs⟩ := s_bind hs
    obtain ⟨a1, g1, hs⟩ := s_bind hs
    obtain ⟨a2, g2, hs⟩ := s_bind hs
    obtain ⟨a3, g3, hs⟩ := s_bind hs
    obtain ⟨a4, g4, hs⟩ := s_bind hs
    obtain ⟨u9, ge, hs⟩ := s_bind hs
    rw [g_r_to g0, g_r_to g1, g_r_to g2, g_r_to g3, g_i_to g4, g_e_to ge]
    exact v_L_law_1179 hs k
  rcases s_ite hs with ⟨c, hs⟩ | ⟨-, hs⟩
  · subst c
    unfold U_L_law_1248 at hs
    obtain ⟨a0, g0, hs⟩ := s_bind hs
    obtain ⟨a1, g1, hs⟩ := s_bind hs
    obtain ⟨a2, g2, hs⟩ := s_bind hs
    obtain ⟨a3, g3, hs⟩ := s_bind hs
    obtain ⟨a4, g4, hs⟩ := s_bind hs
    obtain ⟨a5, g5, hs⟩ := s_bind hs
    obtain ⟨a6, g6, hs⟩ := s_bind hs
    obtain ⟨u9, ge, hs⟩ := s_bind hs
    rw [g_r_to g0, g_r_to g1, g_r_to g2, g_r_to g3, g_i_to g4, g_l_to g5, g_l_to g6, g_e_to ge]
    exact v_L_law_1248 hs k
  rcases s_ite hs with ⟨c, hs⟩ | ⟨-, hs⟩
  · subst c
    unfold U_L_law_1254 at hs
    obtain ⟨a0, g0, hs⟩ := s_bind hs
    obtain ⟨a1, g1, hs⟩ := s_bind hs
    obtain ⟨a2, g2, hs⟩ := s_bind hs
    obtain ⟨a3, g3, hs⟩ := s_bind hs
    obtain ⟨a4, g4, hs⟩ := s_bind hs
    obtain ⟨u9, ge, hs⟩ := s_bind hs
    rw [g_r_to g0, g_r_to g1, g_r_to g2, g_r_to g3, g_i_to g4, g_e_to ge]
    exact v_L_law_1254 hs k
  rcases s_ite hs with ⟨c, hs⟩ | ⟨-, hs⟩
  · subst c
    unfold U_L_law_1322 at hs
    obtain ⟨a0, g0, hs⟩ := s_bind hs
    obtain ⟨a1, g1, hs⟩ := s_bind hs
    obtain ⟨a2, g2, hs⟩ := s_bind hs
    obtain ⟨a3, g3, hs⟩ := s_bind hs
    obtain ⟨a4, g4, hs⟩ := s_bind hs
    obtain ⟨u9, ge, hs⟩ := s_bind hs
    rw [g_r_to g0, g_r_to g1, g_r_to g2, g_r_to g3, g_i_to g4, g_e_to ge]
    exact v_L_law_1322 hs k
  rcases s_ite hs with ⟨c, hs⟩ | ⟨-, hs⟩
  · subst c
    unfold U_L_law_1377 at hs
    obtain ⟨a0, g0, hs⟩ := s_bind hs
    obtain ⟨a1, g1, hs⟩ := s_bind hs
    obtain ⟨a2, g2, hs⟩ := s_bind hs
    obtain ⟨a3, g3, hs⟩ := s_bind hs
    obtain ⟨a4, g4, hs⟩ := s_bind hs
    obtain ⟨u9, ge, hs⟩ := s_bind hs
    rw [g_r_to g0, g_r_to g1, g_r_to g2, g_r_to g3, g_i_to g4, g_e_to ge]
    exact v_L_law_1377 hs k
  rcases s_ite hs with ⟨c, hs⟩ | ⟨-, hs⟩
  · subst c
    unfold U_L_law_1433 at hs
    obtain ⟨a0, g0, hs⟩ := s_bind hs
    obtain ⟨a1, g1, hs⟩ := s_bind hs
    obtain ⟨a2, g2, hs⟩ := s_bind hs
    obtain ⟨a3, g3, hs⟩ := s_bind hs
    obtain ⟨a4, g4, hs⟩ := s_bind hs
    obtain ⟨u9, ge, hs⟩ := s_bind hs
    rw [g_r_to g0, g_r_to g1, g_r_to g2, g_r_to g3, g_i_to g4, g_e_to ge]
    exact v_L_law_1433 hs k
  rcases s_ite hs with ⟨c, hs⟩ | ⟨-, hs⟩
  · subst c
    unfold U_L_law_1500 at hs
    obtain ⟨a0, g0, hs⟩ := s_bind hs
    obtain ⟨a1, g1, hs⟩ := s_bind hs
    obtain ⟨a2, g2, hs⟩ := s_bind hs
    obtain ⟨a3, g3, hs⟩ := s_bind hs
    obtain ⟨a4, g4, hs⟩ := s_bind hs
    obtain ⟨u9, ge, hs⟩ := s_bind hs
    rw [g_r_to g0, g_r_to g1, g_r_to g2, g_r_to g3, g_i_to g4, g_e_to ge]
    exact v_L_law_1500 hs k
  rcases s_ite hs with ⟨c, hs⟩ | ⟨-, hs⟩
  · subst c
    unfold U_L_law_1569 at hs
    obtain ⟨a0, g0, hs⟩ := s_bind hs
    obtain ⟨a1, g1, hs⟩ := s_bind hs
    obtain ⟨a2, g2, hs⟩ := s_bind hs
    obtain ⟨a3, g3, hs⟩ := s_bind hs
    obtain ⟨a4, g4, hs⟩ := s_bind hs
    obtain ⟨a5, g5, hs⟩ := s_bind hs
    obtain ⟨a6, g6, hs⟩ := s_bind hs
    obtain ⟨u9, ge, hs⟩ := s_bind hs
    rw [g_r_to g0, g_r_to g1, g_r_to g2, g_r_to g3, g_i_to g4, g_l_to g5, g_l_to g6, g_e_to ge]
    exact v_L_law_1569 hs k
  rcases s_ite hs with ⟨c, hs⟩ | ⟨-, hs⟩
  · subst c
    unfold U_L_law_1575 at hs
    obtain ⟨a0, g0, hs⟩ := s_bind hs
    obtain ⟨a1, g1, hs⟩ := s_bind hs
    obtain ⟨a2, g2, hs⟩ := s_bind hs
    obtain ⟨a3, g3, hs⟩ := s_bind hs
    obtain ⟨a4, g4, hs⟩ := s_bind hs
    obtain ⟨u9, ge, hs⟩ := s_bind hs
    rw [g_r_to g0, g_r_to g1, g_r_to g2, g_r_to g3, g_i_to g4, g_e_to ge]
    exact v_L_law_1575 hs k
  rcases s_ite hs with ⟨c, hs⟩ | ⟨-, hs⟩
  · subst c
    unfold U_L_law_1643 at hs
    obtain ⟨a0, g0, hs⟩ := s_bind hs
    obtain ⟨a1, g1, hs⟩ := s_bind hs
    obtain ⟨a2, g2, hs⟩ := s_bind hs
    obtain ⟨a3, g3, hs⟩ := s_bind hs
    obtain ⟨a4, g4, hs⟩ := s_bind hs
    obtain ⟨u9, ge, hs⟩ := s_bind hs
    rw [g_r_to g0, g_r_to g1, g_r_to g2, g_r_to g3, g_i_to g4, g_e_to ge]
    exact v_L_law_1643 hs k
  rcases s_ite hs with ⟨c, hs⟩ | ⟨-, hs⟩
  · subst c
    unfold U_L_law_1723 at hs
    obtain ⟨a0, g0, hs⟩ := s_bind hs
    obtain ⟨a1, g1, hs⟩ := s_bind hs
    obtain ⟨a2, g2, hs⟩ := s_bind hs
    obtain ⟨a3, g3, hs⟩ := s_bind hs
    obtain ⟨a4, g4, hs⟩ := s_bind hs
    obtain ⟨u9, ge, hs⟩ := s_bind hs
    rw [g_r_to g0, g_r_to g1, g_r_to g2, g_r_to g3, g_i_to g4, g_e_to ge]
    exact v_L_law_1723 hs k
  rcases s_ite hs with ⟨c, hs⟩ | ⟨-, hs⟩
  · subst c
    unfold U_L_law_1803 at hs
    obtain ⟨a0, g0, hs⟩ := s_bind hs
    obtain ⟨a1, g1, hs⟩ := s_bind hs
    obtain ⟨a2, g2, hs⟩ := s_bind hs
    obtain ⟨a3, g3, hs⟩ := s_bind hs
    obtain ⟨a4, g4, hs⟩ := s_bind hs
    obtain ⟨u9, ge, hs⟩ := s_bind hs
    rw [g_r_to g0, g_r_to g1, g_r_to g2, g_r_to g3, g_i_to g4, g_e_to ge]
    exact v_L_law_1803 hs k
  rcases s_ite hs with ⟨c, hs⟩ | ⟨-, hs⟩
  · subst c
    unfold U_L_law_1871 at hs
    obtain ⟨a0, g0, hs⟩ := s_bind hs
    obtain ⟨a1, g1, hs⟩ := s_bind hs
    obtain ⟨a2, g2, hs⟩ := s_bind hs
    obtain ⟨a3, g3, hs⟩ := s_bind hs
    obtain ⟨a4, g4, hs⟩ := s_bind hs
    obtain ⟨u9, ge, hs⟩ := s_bind hs
    rw [g_r_to g0, g_r_to g1, g_r_to g2, g_r_to g3, g_i_to g4, g_e_to ge]
    exact v_L_law_1871 hs k
  rcases s_ite hs with ⟨c, hs⟩ | ⟨-, hs⟩
  · subst c
    unfold U_L_law_1951 at hs
    obtain ⟨a0, g0, hs⟩ := s_bind hs
    obtain ⟨a1, g1, hs⟩ := s_bind hs
    obtain ⟨a2, g2, hs⟩ := s_bind hs
    obtain ⟨a3, g3, hs⟩ := s_bind hs
    obtain ⟨a4, g4, hs⟩ := s_bind hs
    obtain ⟨u9, ge, hs⟩ := s_bind hs
    rw [g_r_to g0, g_r_to g1, g_r_to g2, g_r_to g3, g_i_to g4, g_e_to ge]
    exact v_L_law_1951 hs k
  rcases s_ite hs with ⟨c, hs⟩ | ⟨-, hs⟩
  · subst c
    unfold U_L_law_2031 at hs
    obtain ⟨a0, g0, hs⟩ := s_bind hs
    obtain ⟨a1, g1, hs⟩ := s_bind hs
    obtain ⟨a2, g2, hs⟩ := s_bind hs
    obtain ⟨a3, g3, hs⟩ := s_bind hs
    obtain ⟨a4, g4, hs⟩ := s_bind hs
    obtain ⟨u9, ge, hs⟩ := s_bind hs
    rw [g_r_to g0, g_r_to g1, g_r_to g2, g_r_to g3, g_i_to g4, g_e_to ge]
    exact v_L_law_2031 hs k
  rcases s_ite hs with ⟨c, hs⟩ | ⟨-, hs⟩
  · subst c
    unfold U_L_law_2087 at hs
    obtain ⟨a0, g0, hs⟩ := s_bind hs
    obtain ⟨a1, g1, hs⟩ := s_bind hs
    obtain ⟨a2, g2, hs⟩ := s_bind hs
    obtain ⟨a3, g3, hs⟩ := s_bind hs
    obtain ⟨a4, g4, hs⟩ := s_bind hs
    obtain ⟨u9, ge, hs⟩ := s_bind hs
    rw [g_r_to g0, g_r_to g1, g_r_to g2, g_r_to g3, g_i_to g4, g_e_to ge]
    exact v_L_law_2087 hs k
  rcases s_ite hs with ⟨c, hs⟩ | ⟨-, hs⟩
  · subst c
    unfold U_L_law_2155 at hs
    obtain ⟨a0, g0, hs⟩ := s_bind hs
    obtain ⟨a1, g1, hs⟩ := s_bind hs
    obtain ⟨a2, g2, hs⟩ := s_bind hs
    obtain ⟨a3, g3, hs⟩ := s_bind hs
    obtain ⟨a4, g4, hs⟩ := s_bind hs
    obtain ⟨u9, ge, hs⟩ := s_bind hs
    rw [g_r_to g0, g_r_to g1, g_r_to g2, g_r_to g3, g_i_to g4, g_e_to ge]
    exact v_L_law_2155 hs k
  rcases s_ite hs with ⟨c, hs⟩ | ⟨-, hs⟩
  · subst c
    unfold U_L_law_2211 at hs
    obtain ⟨a0, g0, hs⟩ := s_bind hs
    obtain ⟨a1, g1, hs⟩ := s_bind hs
    obtain ⟨a2, g2, hs⟩ := s_bind hs
    obtain ⟨a3, g3, hs⟩ := s_bind hs
    obtain ⟨a4, g4, hs⟩ := s_bind hs
    obtain ⟨u9, ge, hs⟩ := s_bind hs
    rw [g_r_to g0, g_r_to g1, g_r_to g2, g_r_to g3, g_i_to g4, g_e_to ge]
    exact v_L_law_2211 hs k
  rcases s_ite hs with ⟨c, hs⟩ | ⟨-, hs⟩
  · subst c
    unfold U_L_law_2267 at hs
    obtain ⟨a0, g0, hs⟩ := s_bind hs
    obtain ⟨a1, g1, hs⟩ := s_bind hs
    obtain ⟨a2, g2, hs⟩ := s_bind hs
    obtain ⟨a3, g3, hs⟩ := s_bind hs
    obtain ⟨a4, g4, hs⟩ := s_bind hs
    obtain ⟨u9, ge, hs⟩ := s_bind hs
    rw [g_r_to g0, g_r_to g1, g_r_to g2, g_r_to g3, g_i_to g4, g_e_to ge]
    exact v_L_law_2267 hs k
  rcases s_ite hs with ⟨c, hs⟩ | ⟨-, hs⟩
  · subst c
    unfold U_L_law_2323 at hs
    obtain ⟨a0, g0, hs⟩ := s_bind hs
    obtain ⟨a1, g1, hs⟩ := s_bind hs
    obtain ⟨a2, g2, hs⟩ := s_bind hs
    obtain ⟨a3, g3, hs⟩ := s_bind hs
    obtain ⟨a4, g4, hs⟩ := s_bind hs
    obtain ⟨u9, ge, hs⟩ := s_bind hs
    rw [g_r_to g0, g_r_to g1, g_r_to g2, g_r_to g3, g_i_to g4, g_e_to ge]
    exact v_L_law_2323 hs k
  rcases s_ite hs with ⟨c, hs⟩ | ⟨-, hs⟩
  · subst c
    unfold U_L_law_2379 at hs
    obtain ⟨a0, g0, hs⟩ := s_bind hs
    obtain ⟨a1, g1, hs⟩ := s_bind hs
    obtain ⟨a2, g2, hs⟩ := s_bind hs
    obtain ⟨a3, g3, hs⟩ := s_bind hs
    obtain ⟨a4, g4, hs⟩ := s_bind hs
    obtain ⟨u9, ge, hs⟩ := s_bind hs
    rw [g_r_to g0, g_r_to g1, g_r_to g2, g_r_to g3, g_i_to g4, g_e_to ge]
    exact v_L_law_2379 hs k
  rcases s_ite hs with ⟨c, hs⟩ | ⟨-, hs⟩
  · subst c
    unfold U_L_law_2447 at hs
    obtain ⟨a0, g0, hs⟩ := s_bind hs
    obtain ⟨a1, g1, hs⟩ := s_bind hs
    obtain ⟨a2, g2, hs⟩ := s_bind hs
    obtain ⟨a3, g3, hs⟩ := s_bind hs
    obtain ⟨a4, g4, hs⟩ := s_bind hs
    obtain ⟨u9, ge, hs⟩ := s_bind hs
    rw [g_r_to g0, g_r_to g1, g_r_to g2, g_r_to g3, g_i_to g4, g_e_to ge]
    exact v_L_law_2447 hs k
  rcases s_ite hs with ⟨c, hs⟩ | ⟨-, hs⟩
  · subst c
    unfold U_L_law_2515 at hs
    obtain ⟨a0, g0, hs⟩ := s_bind hs
    obtain ⟨a1, g1, hs⟩ := s_bind hs
    obtain ⟨a2, g2, hs⟩ := s_bind hs
    obtain ⟨a3, g3, hs⟩ := s_bind hs
    obtain ⟨a4, g4, hs⟩ := s_bind hs
    obtain ⟨u9, ge, hs⟩ := s_bind hs
    rw [g_r_to g0, g_r_to g1, g_r_to g2, g_r_to g3, g_i_to g4, g_e_to ge]
    exact v_L_law_2515 hs k
  rcases s_ite hs with ⟨c, hs⟩ | ⟨-, hs⟩
  · subst c
    unfold U_L_law_2607 at hs
    obtain ⟨a0, g0, hs⟩ := s_bind hs
    obtain ⟨a1, g1, hs⟩ := s_bind hs
    obtain ⟨a2, g2, hs⟩ := s_bind hs
    obtain ⟨a3, g3, hs⟩ := s_bind hs
    obtain ⟨a4, g4, hs⟩ := s_bind hs
    obtain ⟨u9, ge, hs⟩ := s_bind hs
    rw [g_r_to g0, g_r_to g1, g_r_to g2, g_r_to g3, g_i_to g4, g_e_to ge]
    exact v_L_law_2607 hs k
  rcases s_ite hs with ⟨c, hs⟩ | ⟨-, hs⟩
  · subst c
    unfold U_L_law_2664 at hs
    obtain ⟨a0, g0, hs⟩ := s_bind hs
    obtain ⟨a1, g1, hs⟩ := s_bind hs
    obtain ⟨a2, g2, hs⟩ := s_bind hs
    obtain ⟨a3, g3, hs⟩ := s_bind hs
    obtain ⟨a4, g4, hs⟩ := s_bind hs
    obtain ⟨a5, g5, hs⟩ := s_bind hs
    obtain ⟨a6, g6, hs⟩ := s_bind hs
    obtain ⟨u9, ge, hs⟩ := s_bind hs
    rw [g_r_to g0, g_r_to g1, g_r_to g2, g_r_to g3, g_i_to g4, g_l_to g5, g_l_to g6, g_e_to ge]
    exact v_L_law_2664 hs k
  rcases s_ite hs with ⟨c, hs⟩ | ⟨-, hs⟩
  · subst c
    unfold U_L_law_2670 at hs
    obtain ⟨a0, g0, hs⟩ := s_bind hs
    obtain ⟨a1, g1, hs⟩ := s_bind hs
    obtain ⟨a2, g2, hs⟩ := s_bind hs
    obtain ⟨a3, g3, hs⟩ := s_bind hs
    obtain ⟨a4, g4, hs⟩ := s_bind hs
    obtain ⟨u9, ge, hs⟩ := s_bind hs
    rw [g_r_to g0, g_r_to g1, g_r_to g2, g_r_to g3, g_i_to g4, g_e_to ge]
    exact v_L_law_2670 hs k
  rcases s_ite hs with ⟨c, hs⟩ | ⟨-, hs⟩
  · subst c
    unfold U_L_law_2750 at hs
    obtain ⟨a0, g0, hs⟩ := s_bind hs
    obtain ⟨a1, g1, hs⟩ := s_bind hs
    obtain ⟨a2, g2, hs⟩ := s_bind hs
    obtain ⟨a3, g3, hs⟩ := s_bind hs
    obtain ⟨a4, g4, hs⟩ := s_bind hs
    obtain ⟨u9, ge, hs⟩ := s_bind hs
    rw [g_r_to g0, g_r_to g1, g_r_to g2, g_r_to g3, g_i_to g4, g_e_to ge]
    exact v_L_law_2750 hs k
  rcases s_ite hs with ⟨c, hs⟩ | ⟨-, hs⟩
  · subst c
    unfold U_L_law_2806 at hs
    obtain ⟨a0, g0, hs⟩ := s_bind hs
    obtain ⟨a1, g1, hs⟩ := s_bind hs
    obtain ⟨a2, g2, hs⟩ := s_bind hs
    obtain ⟨a3, g3, hs⟩ := s_bind hs
    obtain ⟨a4, g4, hs⟩ := s_bind hs
    obtain ⟨u9, ge, hs⟩ := s_bind hs
    rw [g_r_to g0, g_r_to g1, g_r_to g2, g_r_to g3, g_i_to g4, g_e_to ge]
    exact v_L_law_2806 hs k
  rcases s_ite hs with ⟨c, hs⟩ | ⟨-, hs⟩
  · subst c
    unfold U_L_law_2875 at hs
    obtain ⟨a0, g0, hs⟩ := s_bind hs
    obtain ⟨a1, g1, hs⟩ := s_bind hs
    obtain ⟨a2, g2, hs⟩ := s_bind hs
    obtain ⟨a3, g3, hs⟩ := s_bind hs
    obtain ⟨a4, g4, hs⟩ := s_bind hs
    obtain ⟨u9, ge, hs⟩ := s_bind hs
    rw [g_r_to g0, g_r_to g1, g_r_to g2, g_r_to g3, g_i_to g4, g_e_to ge]
    exact v_L_law_2875 hs k
  rcases s_ite hs with ⟨c, hs⟩ | ⟨-, hs⟩
  · subst c
    unfold U_L_law_2927 at hs
    obtain ⟨a0, g0, hs⟩ := s_bind hs
    obtain ⟨a1, g1, hs⟩ := s_bind hs
    obtain ⟨a2, g2, hs⟩ := s_bind hs
    obtain ⟨a3, g3, hs⟩ := s_bind hs
    obtain ⟨a4, g4, hs⟩ := s_bind hs
    obtain ⟨u9, ge, hs⟩ := s_bind hs
    rw [g_r_to g0, g_r_to g1, g_r_to g2, g_r_to g3, g_i_to g4, g_e_to ge]
    exact v_L_law_2927 hs k
  cases hs
theorem t_L_law {G : sG} {d : Nat} {v0 : Nat} {v1 : Nat} {σ : sS} {q : Int32 × sS} (h : F_L_law v0 v1 σ = some q) : s_T G (d + 139) M_L_law [.ref v0, .ref v1] σ (e_I q) := by
  unfold F_L_law at h
  obtain ⟨-, -, h⟩ := s_bind h
  exact s_ofV rfl (by decide) (Nat.le_of_ble_eq_true rfl) rfl rfl (s_run_ind (V := fun x r => s_V G (d + 139) M_L_law [.ref v0, .ref v1] σ Y_L_law x (e_I r)) (fun x z r hs hk => v_L_law hs (by cases z <;> exact hk)) h)
