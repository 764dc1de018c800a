/-! X8_joins -/
noncomputable def T_X8_joins_0 (v0 : Nat) (v1 : Int32) (v2 : Int32) (σ : sS) : Option (sZ Unit) :=
  (s_fr σ v0 8 4).bind fun x1 =>
  (s_ai σ x1 70).bind fun x2 =>
  some (.inl (8, [.ref v0, .int v1, .int v2, .int x2], σ))
noncomputable def U_X8_joins_0 (vs : List Value) (σ : sS) : Option (sZ Unit) := (g_r vs).bind fun a0 => (g_i a0.2).bind fun a1 => (g_i a1.2).bind fun a2 => (g_e a2.2).bind fun _ => T_X8_joins_0 a0.1 a1.1 a2.1 σ
noncomputable def T_X8_joins_8 (v0 : Nat) (v1 : Int32) (v2 : Int32) (v3 : Int32) (σ : sS) : Option (sZ Unit) :=
  if v3 ≤ v1 then ((s_fr σ v0 8 5).bind fun x1 =>
  (s_si σ x1 (2800 + v1) v2).bind fun σ2 =>
  (s_fr σ2 v0 8 4).bind fun x3 =>
  (s_ai σ2 x3 70).bind fun x4 =>
  (s_si σ2 x3 70 (x4 + 1)).bind fun σ5 =>
  some (.inr ((), σ5)))
  else ((s_fr σ v0 8 5).bind fun x6 =>
  (s_fr σ v0 8 5).bind fun x7 =>
  (s_ai σ x7 ((2800 + v3) - 1)).bind fun x8 =>
  (s_si σ x6 (2800 + v3) x8).bind fun σ9 =>
  some (.inl (8, [.ref v0, .int v1, .int v2, .int (v3 + (-1))], σ9)))
noncomputable def U_X8_joins_8 (vs : List Value) (σ : sS) : Option (sZ Unit) := (g_r vs).bind fun a0 => (g_i a0.2).bind fun a1 => (g_i a1.2).bind fun a2 => (g_i a2.2).bind fun a3 => (g_e a3.2).bind fun _ => T_X8_joins_8 a0.1 a1.1 a2.1 a3.1 σ
noncomputable def S_X8_joins (x : sL) : Option (sZ Unit) := if x.1 = 0 then U_X8_joins_0 x.2.1 x.2.2 else if x.1 = 8 then U_X8_joins_8 x.2.1 x.2.2 else none
def Y_X8_joins (pc : Nat) : List Nat := if pc = 0 then [0, 1, 2] else if pc = 8 then [0, 1, 2, 3] else []
noncomputable def F_X8_joins (v0 : Nat) (v1 : Int32) (v2 : Int32) (σ : sS) : Option (Unit × sS) := (s_is σ v0 8).bind fun _ => s_run S_X8_joins (0, [.ref v0, .int v1, .int v2], σ)
theorem l_X8_joins_0 {v0 : Nat} {v1 : Int32} {v2 : Int32} {σ : sS} {z : sZ Unit} (hf : T_X8_joins_0 v0 v1 v2 σ = some z) : s_lz σ z := by
  unfold T_X8_joins_0 at hf
  obtain ⟨x1, -, hf⟩ := s_bind hf
  obtain ⟨x2, -, hf⟩ := s_bind hf
  cases hf
  exact s_le.rf
theorem l_X8_joins_8 {v0 : Nat} {v1 : Int32} {v2 : Int32} {v3 : Int32} {σ : sS} {z : sZ Unit} (hf : T_X8_joins_8 v0 v1 v2 v3 σ = some z) : s_lz σ z := by
  unfold T_X8_joins_8 at hf
  rcases s_ite hf with ⟨-, hf⟩ | ⟨-, hf⟩
  · obtain ⟨x1, -, hf⟩ := s_bind hf
    obtain ⟨σ2, hh, hf⟩ := s_bind hf
    refine s_lz.tr (s_le2 (s_si_2 hh)) ?_
    obtain ⟨x3, -, hf⟩ := s_bind hf
    obtain ⟨x4, -, hf⟩ := s_bind hf
    obtain ⟨σ5, hh, hf⟩ := s_bind hf
    refine s_lz.tr (s_le2 (s_si_2 hh)) ?_
    cases hf
    exact s_le.rf
  · obtain ⟨x6, -, hf⟩ := s_bind hf
    obtain ⟨x7, -, hf⟩ := s_bind hf
    obtain ⟨x8, -, hf⟩ := s_bind hf
    obtain ⟨σ9, hh, hf⟩ := s_bind hf
    refine s_lz.tr (s_le2 (s_si_2 hh)) ?_
    cases hf
    exact s_le.rf
theorem l_X8_joins_s {x : sL} {z : sZ Unit} (hs : S_X8_joins x = some z) : s_lz x.2.2 z := by
  obtain ⟨pc, vs, σ⟩ := x
  unfold S_X8_joins at hs
  dsimp only at hs ⊢
  rcases s_ite hs with ⟨c, hs⟩ | ⟨-, hs⟩
  · subst c
    unfold U_X8_joins_0 at hs
    obtain ⟨a0, g0, hs⟩ := s_bind hs
    obtain ⟨a1, g1, hs⟩ := s_bind hs
    obtain ⟨a2, g2, hs⟩ := s_bind hs
    obtain ⟨u9, ge, hs⟩ := s_bind hs
    exact l_X8_joins_0 hs
  rcases s_ite hs with ⟨c, hs⟩ | ⟨-, hs⟩
  · subst c
    unfold U_X8_joins_8 at hs
    obtain ⟨a0, g0, hs⟩ := s_bind hs
    obtain ⟨a1, g1, hs⟩ := s_bind hs
    obtain ⟨a2, g2, hs⟩ := s_bind hs
    obtain ⟨a3, g3, hs⟩ := s_bind hs
    obtain ⟨u9, ge, hs⟩ := s_bind hs
    exact l_X8_joins_8 hs
  cases hs
theorem l_X8_joins {v0 : Nat} {v1 : Int32} {v2 : Int32} {σ : sS} {q : Unit × sS} (h : F_X8_joins v0 v1 v2 σ = some q) : s_le σ q.2 := by
  unfold F_X8_joins at h
  obtain ⟨-, -, h⟩ := s_bind h
  exact s_run_ind (V := fun x r => s_le x.2.2 r.2) (fun x z r hs hk => by
    have h9 := l_X8_joins_s hs
    cases z with
    | inl y => exact s_le.tr h9 hk
    | inr q => cases hk; exact h9) h
theorem b_X8_joins {v0 : Nat} {v1 : Int32} {v2 : Int32} {σ : sS} {q : Unit × sS} (h : F_X8_joins v0 v1 v2 σ = some q) : ∃ fs, σ.1 v0 = some (.inr (8, fs)) := by
  unfold F_X8_joins at h
  obtain ⟨u, hu, -⟩ := s_bind h
  exact s_is_to hu
set_option maxRecDepth 100000 in
set_option maxHeartbeats 4000000 in
theorem v_X8_joins_0 {G : sG} {d : Nat} {vs0 : List Value} {σ0 : sS} {v0 : Nat} {v1 : Int32} {v2 : Int32} {σ : sS} {z : sZ Unit} {r : Unit × sS} (hf : T_X8_joins_0 v0 v1 v2 σ = some z) (k : s_K G (d + 1) M_X8_joins vs0 σ0 Y_X8_joins e_V z r) : s_V G (d + 1) M_X8_joins vs0 σ0 Y_X8_joins (0, [.ref v0, .int v1, .int v2], σ) (e_V r) := by
  have le0 : s_le σ (e_V r).2 := s_lek hem_V (l_X8_joins_0 hf) k
  refine ⟨le0, ?_⟩
  intro p e s m below meth c H locs cells slots ls X I hn1 hn2 hl
  have hn : cells + σ0.2.1 ≤ σ.2.1 ∧ slots + σ0.2.2.1 ≤ σ.2.2.1 := ⟨hn1, hn2⟩
  have hl : lv_has ls 4 [(0, .ref v0), (1, .int v1), (2, .int v2)] := hl
  have hx := X.1
  have hb : c.code = cX8_joins := X.2.1
  have hown : s.vm.findClass RX8 = some m.cls := X.2.2.2.2.2.1
  have hts := X.2.2.2.2.2.2.1
  refine W.eq (g2 := F0 m 0 ls []) rfl ?_
  unfold T_X8_joins_0 at hf
  obtain ⟨x1, h1, hf⟩ := s_bind hf
  obtain ⟨x2, h2, hf⟩ := s_bind hf
  cases hf
  have k : s_V G (d + 1) M_X8_joins vs0 σ0 Y_X8_joins (8, [.ref v0, .int v1, .int v2, .int x2], σ) (e_V r) := k
  refine lv_aload_n hx hb dX8_joins_0 rfl (lv_at hl 0 rfl) ?_
  refine r_gr X I fl_X8_20 h1 dX8_joins_1 ?_
  refine lv_bipush (v := 70) hx hb dX8_joins_4 (by decide) ?_
  refine r_iald X I h2 dX8_joins_6 ?_
  refine lv_istore_n (lv' := [(3, .int x2), (0, .ref v0), (1, .int v1), (2, .int v2)]) hx hb dX8_joins_7 rfl hl (by decide) rfl (fun ls hl => ?_)
  exact k.2 p e s m below meth c _ _ _ _ _ X I hn.1 hn.2 (lv_sub hl [1, 2, 3, 0] rfl)
set_option maxRecDepth 100000 in
set_option maxHeartbeats 4000000 in
theorem v_X8_joins_8 {G : sG} {d : Nat} {vs0 : List Value} {σ0 : sS} {v0 : Nat} {v1 : Int32} {v2 : Int32} {v3 : Int32} {σ : sS} {z : sZ Unit} {r : Unit × sS} (hf : T_X8_joins_8 v0 v1 v2 v3 σ = some z) (k : s_K G (d + 1) M_X8_joins vs0 σ0 Y_X8_joins e_V z r) : s_V G (d + 1) M_X8_joins vs0 σ0 Y_X8_joins (8, [.ref v0, .int v1, .int v2, .int v3], σ) (e_V r) := by
  have le0 : s_le σ (e_V r).2 := s_lek hem_V (l_X8_joins_8 hf) k
  refine ⟨le0, ?_⟩
  intro p e s m below meth c H locs cells slots ls X I hn1 hn2 hl
  have hn : cells + σ0.2.1 ≤ σ.2.1 ∧ slots + σ0.2.2.1 ≤ σ.2.2.1 := ⟨hn1, hn2⟩
  have hl : lv_has ls 4 [(0, .ref v0), (1, .int v1), (2, .int v2), (3, .int v3)] := hl
  have hx := X.1
  have hb : c.code = cX8_joins := X.2.1
  have hown : s.vm.findClass RX8 = some m.cls := X.2.2.2.2.2.1
  have hts := X.2.2.2.2.2.2.1
  refine W.eq (g2 := F0 m 8 ls []) rfl ?_
  unfold T_X8_joins_8 at hf
  refine lv_iload_n hx hb dX8_joins_8 rfl (lv_at hl 3 rfl) ?_
  refine lv_iload_n hx hb dX8_joins_9 rfl (lv_at hl 1 rfl) ?_
  rcases s_ite hf with ⟨c1, hf⟩ | ⟨c1, hf⟩
  · refine lv_icmp_le (tgt := 41) hx hb dX8_joins_10 (by decide) (fun _ => ?_) (fun n => absurd c1 n)
    obtain ⟨x1, h2, hf⟩ := s_bind hf
    obtain ⟨σ2, h3, hf⟩ := s_bind hf
    obtain ⟨x3, h4, hf⟩ := s_bind hf
    obtain ⟨x4, h5, hf⟩ := s_bind hf
    obtain ⟨σ5, h6, hf⟩ := s_bind hf
    cases hf
    have k : _ = r := k
    subst k
    have le7 : s_le σ5 σ5 := s_le.rf
    have le8 := s_le.tr (s_le2 (s_si_2 h6)) le7
    refine lv_aload_n hx hb dX8_joins_41 rfl (lv_at hl 0 rfl) ?_
    refine r_gr X I fl_X8_23 h2 dX8_joins_42 ?_
    refine lv_sipush (v := 2800) hx hb dX8_joins_45 (by decide) ?_
    refine lv_iload_n hx hb dX8_joins_48 rfl (lv_at hl 1 rfl) ?_
    refine lv_iadd hx hb dX8_joins_49 ?_
    refine lv_iload_n hx hb dX8_joins_50 rfl (lv_at hl 2 rfl) ?_
    refine r_iast X I h3 dX8_joins_51 (fun H locs I => ?_)
    have hn := s_k2 (s_si_2 h3) hn
    refine lv_aload_n hx hb dX8_joins_52 rfl (lv_at hl 0 rfl) ?_
    refine r_gr X I fl_X8_20 h4 dX8_joins_53 ?_
    refine lv_bipush (v := 70) hx hb dX8_joins_56 (by decide) ?_
    refine lv_dup2_11 hx hb dX8_joins_58 rfl rfl ?_
    refine r_iald X I h5 dX8_joins_59 ?_
    refine lv_iconst (v := 1) hx hb dX8_joins_60 (by decide) ?_
    refine lv_iadd hx hb dX8_joins_61 ?_
    refine r_iast X I h6 dX8_joins_62 (fun H locs I => ?_)
    have hn := s_k2 (s_si_2 h6) hn
    exact r_vret X I rfl rfl hn dX8_joins_63
  · refine lv_icmp_le (tgt := 41) hx hb dX8_joins_10 (by decide) (fun n => absurd n c1) (fun _ => ?_)
    obtain ⟨x6, h9, hf⟩ := s_bind hf
    obtain ⟨x7, h10, hf⟩ := s_bind hf
    obtain ⟨x8, h11, hf⟩ := s_bind hf
    obtain ⟨σ9, h12, hf⟩ := s_bind hf
    cases hf
    have k : s_V G (d + 1) M_X8_joins vs0 σ0 Y_X8_joins (8, [.ref v0, .int v1, .int v2, .int (v3 + (-1))], σ9) (e_V r) := k
    have le13 : s_le σ9 (e_V r).2 := k.1
    refine lv_aload_n hx hb dX8_joins_13 rfl (lv_at hl 0 rfl) ?_
    refine r_gr X I fl_X8_23 h9 dX8_joins_14 ?_
    refine lv_sipush (v := 2800) hx hb dX8_joins_17 (by decide) ?_
    refine lv_iload_n hx hb dX8_joins_20 rfl (lv_at hl 3 rfl) ?_
    refine lv_iadd hx hb dX8_joins_21 ?_
    refine lv_aload_n hx hb dX8_joins_22 rfl (lv_at hl 0 rfl) ?_
    refine r_gr X I fl_X8_23 h10 dX8_joins_23 ?_
    refine lv_sipush (v := 2800) hx hb dX8_joins_26 (by decide) ?_
    refine lv_iload_n hx hb dX8_joins_29 rfl (lv_at hl 3 rfl) ?_
    refine lv_iadd hx hb dX8_joins_30 ?_
    refine lv_iconst (v := 1) hx hb dX8_joins_31 (by decide) ?_
    refine lv_isub hx hb dX8_joins_32 ?_
    refine r_iald X I h11 dX8_joins_33 ?_
    refine r_iast X I h12 dX8_joins_34 (fun H locs I => ?_)
    have hn := s_k2 (s_si_2 h12) hn
    refine lv_iinc (v := (v3 + (-1))) (lv' := [(3, .int (v3 + (-1))), (0, .ref v0), (1, .int v1), (2, .int v2)]) hx hb dX8_joins_35 hl (k := 3) rfl rfl (by decide) rfl (fun ls hl => ?_)
    refine lv_goto (tgt := 8) hx hb dX8_joins_38 (by decide) ?_
    exact k.2 p e s m below meth c _ _ _ _ _ X I hn.1 hn.2 (lv_sub hl [1, 2, 3, 0] rfl)
theorem v_X8_joins {G : sG} {d : Nat} {vs0 : List Value} {σ0 : sS} {x : sL} {z : sZ Unit} {r : Unit × sS} (hs : S_X8_joins x = some z) (k : s_K G (d + 1) M_X8_joins vs0 σ0 Y_X8_joins e_V z r) : s_V G (d + 1) M_X8_joins vs0 σ0 Y_X8_joins x (e_V r) := by
  obtain ⟨pc, vs, σ⟩ := x
  unfold S_X8_joins at hs
  dsimp only at hs
  rcases s_ite hs with ⟨c, hs⟩ | ⟨-, hs⟩
  · subst c
    unfold U_X8_joins_0 at hs
    obtain ⟨a0, g0, hs⟩ := s_bind hs
    obtain ⟨a1, g1, hs⟩ := s_bind hs
    obtain ⟨a2, g2, hs⟩ := s_bind hs
    obtain ⟨u9, ge, hs⟩ := s_bind hs
    rw [g_r_to g0, g_i_to g1, g_i_to g2, g_e_to ge]
    exact v_X8_joins_0 hs k
  rcases s_ite hs with ⟨c, hs⟩ | ⟨-, hs⟩
  · subst c
    unfold U_X8_joins_8 at hs
    obtain ⟨a0, g0, hs⟩ := s_bind hs
    obtain ⟨a1, g1, hs⟩ := s_bind hs
    obtain ⟨a2, g2, hs⟩ := s_bind hs
    obtain ⟨a3, g3, hs⟩ := s_bind hs
    obtain ⟨u9, ge, hs⟩ := s_bind hs
    rw [g_r_to g0, g_i_to g1, g_i_to g2, g_i_to g3, g_e_to ge]
    exact v_X8_joins_8 hs k
  cases hs
theorem t_X8_joins {G : sG} {d : Nat} {v0 : Nat} {v1 : Int32} {v2 : Int32} {σ : sS} {q : Unit × sS} (h : F_X8_joins v0 v1 v2 σ = some q) : s_T G (d + 1) M_X8_joins [.ref v0, .int v1, .int v2] σ (e_V q) := by
  unfold F_X8_joins at h
  obtain ⟨-, -, h⟩ := s_bind h
  exact s_ofV rfl (by decide) (Nat.le_of_ble_eq_true rfl) rfl rfl (s_run_ind (V := fun x r => s_V G (d + 1) M_X8_joins [.ref v0, .int v1, .int v2] σ Y_X8_joins x (e_V r)) (fun x z r hs hk => v_X8_joins hs (by cases z <;> exact hk)) h)
/-! X8_readAnd X8_readFormula X8_readOr X8_readUnit -/
noncomputable def T_X8_readAnd_0 (f_X8_readAnd : Nat → sS → Option (Int32 × sS)) (f_X8_readFormula : Nat → sS → Option (Int32 × sS)) (f_X8_readOr : Nat → sS → Option (Int32 × sS)) (f_X8_readUnit : Nat → sS → Option (Int32 × sS)) (v0 : Nat) (σ : sS) : Option (sZ Int32) :=
  (s_fr σ v0 8 4).bind fun x1 =>
  (s_ai σ x1 70).bind fun x2 =>
  (f_X8_readUnit v0 σ).bind fun q3 =>
  if q3.1 = 0 then (some (.inr (0, q3.2)))
  else (some (.inl (17, [.ref v0, .int x2], q3.2)))
noncomputable def U_X8_readAnd_0 (f_X8_readAnd : Nat → sS → Option (Int32 × sS)) (f_X8_readFormula : Nat → sS → Option (Int32 × sS)) (f_X8_readOr : Nat → sS → Option (Int32 × sS)) (f_X8_readUnit : Nat → sS → Option (Int32 × sS)) (vs : List Value) (σ : sS) : Option (sZ Int32) := (g_r vs).bind fun a0 => (g_e a0.2).bind fun _ => T_X8_readAnd_0 f_X8_readAnd f_X8_readFormula f_X8_readOr f_X8_readUnit a0.1 σ
noncomputable def T_X8_readAnd_17 (f_X8_readAnd : Nat → sS → Option (Int32 × sS)) (f_X8_readFormula : Nat → sS → Option (Int32 × sS)) (f_X8_readOr : Nat → sS → Option (Int32 × sS)) (f_X8_readUnit : Nat → sS → Option (Int32 × sS)) (v0 : Nat) (v1 : Int32) (σ : sS) : Option (sZ Int32) :=
  (F_X8_has v0 38 σ).bind fun q1 =>
  if q1.1 = 0 then (some (.inr (1, q1.2)))
  else ((F_X8_counts v0 q1.2).bind fun q2 =>
  if q2.1 = 0 then (some (.inr (0, q2.2)))
  else ((f_X8_readUnit v0 q2.2).bind fun q3 =>
  if q3.1 = 0 then (some (.inr (0, q3.2)))
  else ((F_X8_joins v0 v1 13 q3.2).bind fun q4 =>
  some (.inl (17, [.ref v0, .int v1], q4.2)))))
noncomputable def U_X8_readAnd_17 (f_X8_readAnd : Nat → sS → Option (Int32 × sS)) (f_X8_readFormula : Nat → sS → Option (Int32 × sS)) (f_X8_readOr : Nat → sS → Option (Int32 × sS)) (f_X8_readUnit : Nat → sS → Option (Int32 × sS)) (vs : List Value) (σ : sS) : Option (sZ Int32) := (g_r vs).bind fun a0 => (g_i a0.2).bind fun a1 => (g_e a1.2).bind fun _ => T_X8_readAnd_17 f_X8_readAnd f_X8_readFormula f_X8_readOr f_X8_readUnit a0.1 a1.1 σ
noncomputable def S_X8_readAnd (f_X8_readAnd : Nat → sS → Option (Int32 × sS)) (f_X8_readFormula : Nat → sS → Option (Int32 × sS)) (f_X8_readOr : Nat → sS → Option (Int32 × sS)) (f_X8_readUnit : Nat → sS → Option (Int32 × sS)) (x : sL) : Option (sZ Int32) := if x.1 = 0 then U_X8_readAnd_0 f_X8_readAnd f_X8_readFormula f_X8_readOr f_X8_readUnit x.2.1 x.2.2 else if x.1 = 17 then U_X8_readAnd_17 f_X8_readAnd f_X8_readFormula f_X8_readOr f_X8_readUnit x.2.1 x.2.2 else none
def Y_X8_readAnd (pc : Nat) : List Nat := if pc = 0 then [0] else if pc = 17 then [0, 1] else []
noncomputable def T_X8_readFormula_0 (f_X8_readAnd : Nat → sS → Option (Int32 × sS)) (f_X8_readFormula : Nat → sS → Option (Int32 × sS)) (f_X8_readOr : Nat → sS → Option (Int32 × sS)) (f_X8_readUnit : Nat → sS → Option (Int32 × sS)) (v0 : Nat) (σ : sS) : Option (sZ Int32) :=
  (s_fr σ v0 8 4).bind fun x1 =>
  (s_ai σ x1 70).bind fun x2 =>
  (f_X8_readOr v0 σ).bind fun q3 =>
  if q3.1 = 0 then (some (.inr (0, q3.2)))
  else ((F_X8_has v0 62 q3.2).bind fun q4 =>
  if q4.1 = 0 then (some (.inr (1, q4.2)))
  else ((F_X8_deeper v0 q4.2).bind fun q5 =>
  if q5.1 = 0 then (some (.inr (0, q5.2)))
  else ((F_X8_counts v0 q5.2).bind fun q6 =>
  if q6.1 = 0 then (some (.inr (0, q6.2)))
  else ((f_X8_readFormula v0 q6.2).bind fun q7 =>
  if q7.1 = 0 then (some (.inr (0, q7.2)))
  else ((s_fi q7.2 v0 8 11).bind fun x8 =>
  (s_pf q7.2 v0 8 11 (.int (x8 - 1))).bind fun σ9 =>
  (F_X8_joins v0 x2 15 σ9).bind fun q10 =>
  some (.inr (1, q10.2)))))))
noncomputable def U_X8_readFormula_0 (f_X8_readAnd : Nat → sS → Option (Int32 × sS)) (f_X8_readFormula : Nat → sS → Option (Int32 × sS)) (f_X8_readOr : Nat → sS → Option (Int32 × sS)) (f_X8_readUnit : Nat → sS → Option (Int32 × sS)) (vs : List Value) (σ : sS) : Option (sZ Int32) := (g_r vs).bind fun a0 => (g_e a0.2).bind fun _ => T_X8_readFormula_0 f_X8_readAnd f_X8_readFormula f_X8_readOr f_X8_readUnit a0.1 σ
noncomputable def S_X8_readFormula (f_X8_readAnd : Nat → sS → Option (Int32 × sS)) (f_X8_readFormula : Nat → sS → Option (Int32 × sS)) (f_X8_readOr : Nat → sS → Option (Int32 × sS)) (f_X8_readUnit : Nat → sS → Option (Int32 × sS)) (x : sL) : Option (sZ Int32) := if x.1 = 0 then U_X8_readFormula_0 f_X8_readAnd f_X8_readFormula f_X8_readOr f_X8_readUnit x.2.1 x.2.2 else none
def Y_X8_readFormula (pc : Nat) : List Nat := if pc = 0 then [0] else []
noncomputable def T_X8_readOr_0 (f_X8_readAnd : Nat → sS → Option (Int32 × sS)) (f_X8_readFormula : Nat → sS → Option (Int32 × sS)) (f_X8_readOr : Nat → sS → Option (Int32 × sS)) (f_X8_readUnit : Nat → sS → Option (Int32 × sS)) (v0 : Nat) (σ : sS) : Option (sZ Int32) :=
  (s_fr σ v0 8 4).bind fun x1 =>
  (s_ai σ x1 70).bind fun x2 =>
  (f_X8_readAnd v0 σ).bind fun q3 =>
  if q3.1 = 0 then (some (.inr (0, q3.2)))
  else (some (.inl (17, [.ref v0, .int x2], q3.2)))
noncomputable def U_X8_readOr_0 (f_X8_readAnd : Nat → sS → Option (Int32 × sS)) (f_X8_readFormula : Nat → sS → Option (Int32 × sS)) (f_X8_readOr : Nat → sS → Option (Int32 × sS)) (f_X8_readUnit : Nat → sS → Option (Int32 × sS)) (vs : List Value) (σ : sS) : Option (sZ Int32) := (g_r vs).bind fun a0 => (g_e a0.2).bind fun _ => T_X8_readOr_0 f_X8_readAnd f_X8_readFormula f_X8_readOr f_X8_readUnit a0.1 σ
noncomputable def T_X8_readOr_17 (f_X8_readAnd : Nat → sS → Option (Int32 × sS)) (f_X8_readFormula : Nat → sS → Option (Int32 × sS)) (f_X8_readOr : Nat → sS → Option (Int32 × sS)) (f_X8_readUnit : Nat → sS → Option (Int32 × sS)) (v0 : Nat) (v1 : Int32) (σ : sS) : Option (sZ Int32) :=
  (F_X8_has v0 124 σ).bind fun q1 =>
  if q1.1 = 0 then (some (.inr (1, q1.2)))
  else ((F_X8_counts v0 q1.2).bind fun q2 =>
  if q2.1 = 0 then (some (.inr (0, q2.2)))
  else ((f_X8_readAnd v0 q2.2).bind fun q3 =>
  if q3.1 = 0 then (some (.inr (0, q3.2)))
  else ((F_X8_joins v0 v1 14 q3.2).bind fun q4 =>
  some (.inl (17, [.ref v0, .int v1], q4.2)))))
noncomputable def U_X8_readOr_17 (f_X8_readAnd : Nat → sS → Option (Int32 × sS)) (f_X8_readFormula : Nat → sS → Option (Int32 × sS)) (f_X8_readOr : Nat → sS → Option (Int32 × sS)) (f_X8_readUnit : Nat → sS → Option (Int32 × sS)) (vs : List Value) (σ : sS) : Option (sZ Int32) := (g_r vs).bind fun a0 => (g_i a0.2).bind fun a1 => (g_e a1.2).bind fun _ => T_X8_readOr_17 f_X8_readAnd f_X8_readFormula f_X8_readOr f_X8_readUnit a0.1 a1.1 σ
noncomputable def S_X8_readOr (f_X8_readAnd : Nat → sS → Option (Int32 × sS)) (f_X8_readFormula : Nat → sS → Option (Int32 × sS)) (f_X8_readOr : Nat → sS → Option (Int32 × sS)) (f_X8_readUnit : Nat → sS → Option (Int32 × sS)) (x : sL) : Option (sZ Int32) := if x.1 = 0 then U_X8_readOr_0 f_X8_readAnd f_X8_readFormula f_X8_readOr f_X8_readUnit x.2.1 x.2.2 else if x.1 = 17 then U_X8_readOr_17 f_X8_readAnd f_X8_readFormula f_X8_readOr f_X8_readUnit x.2.1 x.2.2 else none
def Y_X8_readOr (pc : Nat) : List Nat := if pc = 0 then [0] else if pc = 17 then [0, 1] else []
noncomputable def T_X8_readUnit_0 (f_X8_readAnd : Nat → sS → Option (Int32 × sS)) (f_X8_readFormula : Nat → sS → Option (Int32 × sS)) (f_X8_readOr : Nat → sS → Option (Int32 × sS)) (f_X8_readUnit : Nat → sS → Option (Int32 × sS)) (v0 : Nat) (σ : sS) : Option (sZ Int32) :=
  (F_X8_has v0 45 σ).bind fun q1 =>
  if q1.1 = 0 then ((F_X8_has v0 40 q1.2).bind fun q2 =>
  if q2.1 = 0 then ((F_X8_letters v0 q2.2).bind fun q3 =>
  (F_X8_isWord v0 (q3.2.2.2.2 2) q3.2).bind fun q4 =>
  if q4.1 = 0 then ((F_X8_isWord v0 (q4.2.2.2.2 3) q4.2).bind fun q5 =>
  if q5.1 = 0 then ((F_X8_readAtom v0 q5.2).bind fun q6 =>
  if (q6.1 = 0 ∨ q6.1 = 1) then (some (.inr (q6.1, q6.2))) else none)
  else (some (.inl (117, [.ref v0, .int q4.1], q5.2))))
  else (some (.inl (117, [.ref v0, .int q4.1], q4.2))))
  else ((F_X8_deeper v0 q2.2).bind fun q7 =>
  if q7.1 = 0 then (some (.inr (0, q7.2)))
  else ((f_X8_readFormula v0 q7.2).bind fun q8 =>
  if q8.1 = 0 then (some (.inr (0, q8.2)))
  else ((s_fi q8.2 v0 8 11).bind fun x9 =>
  (s_pf q8.2 v0 8 11 (.int (x9 - 1))).bind fun σ10 =>
  (F_X8_has v0 41 σ10).bind fun q11 =>
  if (q11.1 = 0 ∨ q11.1 = 1) then (some (.inr (q11.1, q11.2))) else none))))
  else ((F_X8_deeper v0 q1.2).bind fun q12 =>
  if q12.1 = 0 then (some (.inr (0, q12.2)))
  else ((F_X8_puts v0 12 q12.2).bind fun q13 =>
  if q13.1 = 0 then (some (.inr (0, q13.2)))
  else ((f_X8_readUnit v0 q13.2).bind fun q14 =>
  if q14.1 = 0 then (some (.inr (0, q14.2)))
  else ((s_fi q14.2 v0 8 11).bind fun x15 =>
  (s_pf q14.2 v0 8 11 (.int (x15 - 1))).bind fun σ16 =>
  some (.inr (1, σ16))))))
noncomputable def U_X8_readUnit_0 (f_X8_readAnd : Nat → sS → Option (Int32 × sS)) (f_X8_readFormula : Nat → sS → Option (Int32 × sS)) (f_X8_readOr : Nat → sS → Option (Int32 × sS)) (f_X8_readUnit : Nat → sS → Option (Int32 × sS)) (vs : List Value) (σ : sS) : Option (sZ Int32) := (g_r vs).bind fun a0 => (g_e a0.2).bind fun _ => T_X8_readUnit_0 f_X8_readAnd f_X8_readFormula f_X8_readOr f_X8_readUnit a0.1 σ
noncomputable def T_X8_readUnit_117 (f_X8_readAnd : Nat → sS → Option (Int32 × sS)) (f_X8_readFormula : Nat → sS → Option (Int32 × sS)) (f_X8_readOr : Nat → sS → Option (Int32 × sS)) (f_X8_readUnit : Nat → sS → Option (Int32 × sS)) (v0 : Nat) (v1 : Int32) (σ : sS) : Option (sZ Int32) :=
  (s_fi σ v0 8 14).bind fun x1 =>
  if x1 = 0 then ((F_X8_deeper v0 σ).bind fun q2 =>
  if q2.1 = 0 then (some (.inr (0, q2.2)))
  else (if v1 = 0 then (some (.inl (143, [.ref v0, .int 17, .ref v0], q2.2)))
  else (some (.inl (143, [.ref v0, .int 16, .ref v0], q2.2)))))
  else (some (.inr (0, σ)))
noncomputable def U_X8_readUnit_117 (f_X8_readAnd : Nat → sS → Option (Int32 × sS)) (f_X8_readFormula : Nat → sS → Option (Int32 × sS)) (f_X8_readOr : Nat → sS → Option (Int32 × sS)) (f_X8_readUnit : Nat → sS → Option (Int32 × sS)) (vs : List Value) (σ : sS) : Option (sZ Int32) := (g_r vs).bind fun a0 => (g_i a0.2).bind fun a1 => (g_e a1.2).bind fun _ => T_X8_readUnit_117 f_X8_readAnd f_X8_readFormula f_X8_readOr f_X8_readUnit a0.1 a1.1 σ
noncomputable def T_X8_readUnit_143 (f_X8_readAnd : Nat → sS → Option (Int32 × sS)) (f_X8_readFormula : Nat → sS → Option (Int32 × sS)) (f_X8_readOr : Nat → sS → Option (Int32 × sS)) (f_X8_readUnit : Nat → sS → Option (Int32 × sS)) (v0 : Nat) (w0 : Int32) (w1 : Nat) (σ : sS) : Option (sZ Int32) :=
  (F_X8_puts w1 w0 σ).bind fun q1 =>
  if q1.1 = 0 then (some (.inr (0, q1.2)))
  else ((s_pf q1.2 v0 8 14 (.int 1)).bind fun σ2 =>
  (f_X8_readUnit v0 σ2).bind fun q3 =>
  if q3.1 = 0 then (some (.inr (0, q3.2)))
  else ((s_pf q3.2 v0 8 14 (.int 0)).bind fun σ4 =>
  (s_fi σ4 v0 8 11).bind fun x5 =>
  (s_pf σ4 v0 8 11 (.int (x5 - 1))).bind fun σ6 =>
  some (.inr (1, σ6))))
noncomputable def U_X8_readUnit_143 (f_X8_readAnd : Nat → sS → Option (Int32 × sS)) (f_X8_readFormula : Nat → sS → Option (Int32 × sS)) (f_X8_readOr : Nat → sS → Option (Int32 × sS)) (f_X8_readUnit : Nat → sS → Option (Int32 × sS)) (vs : List Value) (σ : sS) : Option (sZ Int32) := (g_r vs).bind fun a0 => (g_i a0.2).bind fun a1 => (g_r a1.2).bind fun a2 => (g_e a2.2).bind fun _ => T_X8_readUnit_143 f_X8_readAnd f_X8_readFormula f_X8_readOr f_X8_readUnit a0.1 a1.1 a2.1 σ
noncomputable def S_X8_readUnit (f_X8_readAnd : Nat → sS → Option (Int32 × sS)) (f_X8_readFormula : Nat → sS → Option (Int32 × sS)) (f_X8_readOr : Nat → sS → Option (Int32 × sS)) (f_X8_readUnit : Nat → sS → Option (Int32 × sS)) (x : sL) : Option (sZ Int32) := if x.1 = 0 then U_X8_readUnit_0 f_X8_readAnd f_X8_readFormula f_X8_readOr f_X8_readUnit x.2.1 x.2.2 else if x.1 = 117 then U_X8_readUnit_117 f_X8_readAnd f_X8_readFormula f_X8_readOr f_X8_readUnit x.2.1 x.2.2 else if x.1 = 143 then U_X8_readUnit_143 f_X8_readAnd f_X8_readFormula f_X8_readOr f_X8_readUnit x.2.1 x.2.2 else none
def Y_X8_readUnit (pc : Nat) : List Nat := if pc = 0 then [0] else if pc = 117 then [0, 1] else if pc = 143 then [0] else []
noncomputable def Q_X8_readAnd : Nat → (Nat → sS → Option (Int32 × sS)) × (Nat → sS → Option (Int32 × sS)) × (Nat → sS → Option (Int32 × sS)) × (Nat → sS → Option (Int32 × sS))
  | 0 => (fun _ _ => none, fun _ _ => none, fun _ _ => none, fun _ _ => none)
  | k + 1 => (fun v0 σ => (s_is σ v0 8).bind fun _ => s_run (S_X8_readAnd (Q_X8_readAnd k).1 (Q_X8_readAnd k).2.1 (Q_X8_readAnd k).2.2.1 (Q_X8_readAnd k).2.2.2) (0, [.ref v0], σ),
    fun v0 σ => (s_is σ v0 8).bind fun _ => s_run (S_X8_readFormula (Q_X8_readAnd k).1 (Q_X8_readAnd k).2.1 (Q_X8_readAnd k).2.2.1 (Q_X8_readAnd k).2.2.2) (0, [.ref v0], σ),
    fun v0 σ => (s_is σ v0 8).bind fun _ => s_run (S_X8_readOr (Q_X8_readAnd k).1 (Q_X8_readAnd k).2.1 (Q_X8_readAnd k).2.2.1 (Q_X8_readAnd k).2.2.2) (0, [.ref v0], σ),
    fun v0 σ => (s_is σ v0 8).bind fun _ => s_run (S_X8_readUnit (Q_X8_readAnd k).1 (Q_X8_readAnd k).2.1 (Q_X8_readAnd k).2.2.1 (Q_X8_readAnd k).2.2.2) (0, [.ref v0], σ))
noncomputable def F_X8_readAnd (k : Nat) : Nat → sS → Option (Int32 × sS) := (Q_X8_readAnd k).1
noncomputable def F_X8_readFormula (k : Nat) : Nat → sS → Option (Int32 × sS) := (Q_X8_readAnd k).2.1
noncomputable def F_X8_readOr (k : Nat) : Nat → sS → Option (Int32 × sS) := (Q_X8_readAnd k).2.2.1
noncomputable def F_X8_readUnit (k : Nat) : Nat → sS → Option (Int32 × sS) := (Q_X8_readAnd k).2.2.2
theorem l_X8_readAnd_0 (f_X8_readAnd : Nat → sS → Option (Int32 × sS)) (f_X8_readFormula : Nat → sS → Option (Int32 × sS)) (f_X8_readOr : Nat → sS → Option (Int32 × sS)) (f_X8_readUnit : Nat → sS → Option (Int32 × sS)) (lG_X8_readAnd : ∀ {y0 : Nat} {σ : sS} {q : Int32 × sS}, f_X8_readAnd y0 σ = some q → s_le σ q.2) (lG_X8_readFormula : ∀ {y0 : Nat} {σ : sS} {q : Int32 × sS}, f_X8_readFormula y0 σ = some q → s_le σ q.2) (lG_X8_readOr : ∀ {y0 : Nat} {σ : sS} {q : Int32 × sS}, f_X8_readOr y0 σ = some q → s_le σ q.2) (lG_X8_readUnit : ∀ {y0 : Nat} {σ : sS} {q : Int32 × sS}, f_X8_readUnit y0 σ = some q → s_le σ q.2) {v0 : Nat} {σ : sS} {z : sZ Int32} (hf : T_X8_readAnd_0 f_X8_readAnd f_X8_readFormula f_X8_readOr f_X8_readUnit v0 σ = some z) : s_lz σ z := by
  unfold T_X8_readAnd_0 at hf
  obtain ⟨x1, -, hf⟩ := s_bind hf
  obtain ⟨x2, -, hf⟩ := s_bind hf
  obtain ⟨q3, hh, hf⟩ := s_bind hf
  refine s_lz.tr (lG_X8_readUnit hh) ?_
  rcases s_ite hf with ⟨-, hf⟩ | ⟨-, hf⟩
  · cases hf
    exact s_le.rf
  · cases hf
    exact s_le.rf
theorem l_X8_readAnd_17 (f_X8_readAnd : Nat → sS → Option (Int32 × sS)) (f_X8_readFormula : Nat → sS → Option (Int32 × sS)) (f_X8_readOr : Nat → sS → Option (Int32 × sS)) (f_X8_readUnit : Nat → sS → Option (Int32 × sS)) (lG_X8_readAnd : ∀ {y0 : Nat} {σ : sS} {q : Int32 × sS}, f_X8_readAnd y0 σ = some q → s_le σ q.2) (lG_X8_readFormula : ∀ {y0 : Nat} {σ : sS} {q : Int32 × sS}, f_X8_readFormula y0 σ = some q → s_le σ q.2) (lG_X8_readOr : ∀ {y0 : Nat} {σ : sS} {q : Int32 × sS}, f_X8_readOr y0 σ = some q → s_le σ q.2) (lG_X8_readUnit : ∀ {y0 : Nat} {σ : sS} {q : Int32 × sS}, f_X8_readUnit y0 σ = some q → s_le σ q.2) {v0 : Nat} {v1 : Int32} {σ : sS} {z : sZ Int32} (hf : T_X8_readAnd_17 f_X8_readAnd f_X8_readFormula f_X8_readOr f_X8_readUnit v0 v1 σ = some z) : s_lz σ z := by
  unfold T_X8_readAnd_17 at hf
  obtain ⟨q1, hh, hf⟩ := s_bind hf
  refine s_lz.tr (l_X8_has hh) ?_
  rcases s_ite hf with ⟨-, hf⟩ | ⟨-, hf⟩
  · cases hf
    exact s_le.rf
  · obtain ⟨q2, hh, hf⟩ := s_bind hf
    refine s_lz.tr (l_X8_counts hh) ?_
    rcases s_ite hf with ⟨-, hf⟩ | ⟨-, hf⟩
    · cases hf
      exact s_le.rf
    · obtain ⟨q3, hh, hf⟩ := s_bind hf
      refine s_lz.tr (lG_X8_readUnit hh) ?_
      rcases s_ite hf with ⟨-, hf⟩ | ⟨-, hf⟩
      · cases hf
        exact s_le.rf
      · obtain ⟨q4, hh, hf⟩ := s_bind hf
        refine s_lz.tr (l_X8_joins hh) ?_
        cases hf
        exact s_le.rf
theorem l_X8_readAnd_s (f_X8_readAnd : Nat → sS → Option (Int32 × sS)) (f_X8_readFormula : Nat → sS → Option (Int32 × sS)) (f_X8_readOr : Nat → sS → Option (Int32 × sS)) (f_X8_readUnit : Nat → sS → Option (Int32 × sS)) (lG_X8_readAnd : ∀ {y0 : Nat} {σ : sS} {q : Int32 × sS}, f_X8_readAnd y0 σ = some q → s_le σ q.2) (lG_X8_readFormula : ∀ {y0 : Nat} {σ : sS} {q : Int32 × sS}, f_X8_readFormula y0 σ = some q → s_le σ q.2) (lG_X8_readOr : ∀ {y0 : Nat} {σ : sS} {q : Int32 × sS}, f_X8_readOr y0 σ = some q → s_le σ q.2) (lG_X8_readUnit : ∀ {y0 : Nat} {σ : sS} {q : Int32 × sS}, f_X8_readUnit y0 σ = some q → s_le σ q.2) {x : sL} {z : sZ Int32} (hs : S_X8_readAnd f_X8_readAnd f_X8_readFormula f_X8_readOr f_X8_readUnit x = some z) : s_lz x.2.2 z := by
  obtain ⟨pc, vs, σ⟩ := x
  unfold S_X8_readAnd at hs
  dsimp only at hs ⊢
  rcases s_ite hs with ⟨c, hs⟩ | ⟨-, hs⟩
  · subst c
    unfold U_X8_readAnd_0 at hs
    obtain ⟨a0, g0, hs⟩ := s_bind hs
    obtain ⟨u9, ge, hs⟩ := s_bind hs
    exact l_X8_readAnd_0 f_X8_readAnd f_X8_readFormula f_X8_readOr f_X8_readUnit lG_X8_readAnd lG_X8_readFormula lG_X8_readOr lG_X8_readUnit hs
  rcases s_ite hs with ⟨c, hs⟩ | ⟨-, hs⟩
  · subst c
    unfold U_X8_readAnd_17 at hs
    obtain ⟨a0, g0, hs⟩ := s_bind hs
    obtain ⟨a1, g1, hs⟩ := s_bind hs
    obtain ⟨u9, ge, hs⟩ := s_bind hs
    exact l_X8_readAnd_17 f_X8_readAnd f_X8_readFormula f_X8_readOr f_X8_readUnit lG_X8_readAnd lG_X8_readFormula lG_X8_readOr lG_X8_readUnit hs
  cases hs
set_option maxRecDepth 100000 in
set_option maxHeartbeats 4000000 in
theorem v_X8_readAnd_0 (f_X8_readAnd : Nat → sS → Option (Int32 × sS)) (f_X8_readFormula : Nat → sS → Option (Int32 × sS)) (f_X8_readOr : Nat → sS → Option (Int32 × sS)) (f_X8_readUnit : Nat → sS → Option (Int32 × sS)) {G : sG} {d : Nat} (lG_X8_readAnd : ∀ {y0 : Nat} {σ : sS} {q : Int32 × sS}, f_X8_readAnd y0 σ = some q → s_le σ q.2) (lG_X8_readFormula : ∀ {y0 : Nat} {σ : sS} {q : Int32 × sS}, f_X8_readFormula y0 σ = some q → s_le σ q.2) (lG_X8_readOr : ∀ {y0 : Nat} {σ : sS} {q : Int32 × sS}, f_X8_readOr y0 σ = some q → s_le σ q.2) (lG_X8_readUnit : ∀ {y0 : Nat} {σ : sS} {q : Int32 × sS}, f_X8_readUnit y0 σ = some q → s_le σ q.2) (hG_X8_readAnd : ∀ {y0 : Nat} {σ : sS} {q : Int32 × sS}, f_X8_readAnd y0 σ = some q → s_T G (d + 7) M_X8_readAnd [.ref y0] σ (e_I q) ∧ ∃ fs, σ.1 y0 = some (.inr (8, fs))) (hG_X8_readFormula : ∀ {y0 : Nat} {σ : sS} {q : Int32 × sS}, f_X8_readFormula y0 σ = some q → s_T G (d + 7) M_X8_readFormula [.ref y0] σ (e_I q) ∧ ∃ fs, σ.1 y0 = some (.inr (8, fs))) (hG_X8_readOr : ∀ {y0 : Nat} {σ : sS} {q : Int32 × sS}, f_X8_readOr y0 σ = some q → s_T G (d + 7) M_X8_readOr [.ref y0] σ (e_I q) ∧ ∃ fs, σ.1 y0 = some (.inr (8, fs))) (hG_X8_readUnit : ∀ {y0 : Nat} {σ : sS} {q : Int32 × sS}, f_X8_readUnit y0 σ = some q → s_T G (d + 7) M_X8_readUnit [.ref y0] σ (e_I q) ∧ ∃ fs, σ.1 y0 = some (.inr (8, fs))) {vs0 : List Value} {σ0 : sS} {v0 : Nat} {σ : sS} {z : sZ Int32} {r : Int32 × sS} (hf : T_X8_readAnd_0 f_X8_readAnd f_X8_readFormula f_X8_readOr f_X8_readUnit v0 σ = some z) (k : s_K G (d + 8) M_X8_readAnd vs0 σ0 Y_X8_readAnd e_I z r) : s_V G (d + 8) M_X8_readAnd vs0 σ0 Y_X8_readAnd (0, [.ref v0], σ) (e_I r) := by
  have le0 : s_le σ (e_I r).2 := s_lek hem_I (l_X8_readAnd_0 f_X8_readAnd f_X8_readFormula f_X8_readOr f_X8_readUnit lG_X8_readAnd lG_X8_readFormula lG_X8_readOr lG_X8_readUnit hf) k
  refine ⟨le0, ?_⟩
  intro p e s m below meth c H locs cells slots ls X I hn1 hn2 hl
  have hn : cells + σ0.2.1 ≤ σ.2.1 ∧ slots + σ0.2.2.1 ≤ σ.2.2.1 := ⟨hn1, hn2⟩
  have hl : lv_has ls 2 [(0, .ref v0)] := hl
  have hx := X.1
  have hb : c.code = cX8_readAnd := X.2.1
  have hown : s.vm.findClass RX8 = some m.cls := X.2.2.2.2.2.1
  have hts := X.2.2.2.2.2.2.1
  refine W.eq (g2 := F0 m 0 ls []) rfl ?_
  unfold T_X8_readAnd_0 at hf
  obtain ⟨x1, h1, hf⟩ := s_bind hf
  obtain ⟨x2, h2, hf⟩ := s_bind hf
  obtain ⟨q3, h3, hf⟩ := s_bind hf
  have le4 : s_le q3.2 (e_I r).2 := by
    refine s_lek hem_I ?_ k
    rcases s_ite hf with ⟨-, hf⟩ | ⟨-, hf⟩
    · cases hf
      exact s_le.rf
    · cases hf
      exact s_le.rf
  refine lv_aload_n hx hb dX8_readAnd_0 rfl (lv_at hl 0 rfl) ?_
  refine r_gr X I fl_X8_20 h1 dX8_readAnd_1 ?_
  refine lv_bipush (v := 70) hx hb dX8_readAnd_4 (by decide) ?_
  refine r_iald X I h2 dX8_readAnd_6 ?_
  refine lv_istore_n (lv' := [(1, .int x2), (0, .ref v0)]) hx hb dX8_readAnd_7 rfl hl (by decide) rfl (fun ls hl => ?_)
  refine lv_aload_n hx hb dX8_readAnd_8 rfl (lv_at hl 1 rfl) ?_
  refine r_callV (Y := M_X8_readUnit) (v := some (.int q3.1)) X I w_1845 my_X8_readUnit (by omega) (hG_X8_readUnit h3).1 (hG_X8_readUnit h3).2 rfl rfl hl.1 rfl (Nat.le_of_ble_eq_true rfl) hn le4 dX8_readAnd_9 (fun H locs cells slots I hn1 hn2 => ?_)
  have I : s_I G q3.2 s H locs := I
  have hn : cells + σ0.2.1 ≤ q3.2.2.1 ∧ slots + σ0.2.2.1 ≤ q3.2.2.2.1 := ⟨hn1, hn2⟩
  rcases s_ite hf with ⟨c5, hf⟩ | ⟨c5, hf⟩
  · refine lv_if_ne (tgt := 17) hx hb dX8_readAnd_12 (by decide) (fun n => absurd c5 n) (fun _ => ?_)
    cases hf
    have k : _ = r := k
    subst k
    refine lv_iconst (v := 0) hx hb dX8_readAnd_15 (by decide) ?_
    exact r_iret X I rfl rfl rfl hn dX8_readAnd_16
  · refine lv_if_ne (tgt := 17) hx hb dX8_readAnd_12 (by decide) (fun _ => ?_) (fun n => absurd n c5)
    cases hf
    have k : s_V G (d + 8) M_X8_readAnd vs0 σ0 Y_X8_readAnd (17, [.ref v0, .int x2], q3.2) (e_I r) := k
    exact k.2 p e s m below meth c _ _ _ _ _ X I hn.1 hn.2 (lv_sub hl [1, 0] rfl)
set_option maxRecDepth 100000 in
set_option maxHeartbeats 4000000 in
theorem v_X8_readAnd_17 (f_X8_readAnd : Nat → sS → Option (Int32 × sS)) (f_X8_readFormula : Nat → sS → Option (Int32 × sS)) (f_X8_readOr : Nat → sS → Option (Int32 × sS)) (f_X8_readUnit : Nat → sS → Option (Int32 × sS)) {G : sG} {d : Nat} (lG_X8_readAnd : ∀ {y0 : Nat} {σ : sS} {q : Int32 × sS}, f_X8_readAnd y0 σ = some q → s_le σ q.2) (lG_X8_readFormula : ∀ {y0 : Nat} {σ : sS} {q : Int32 × sS}, f_X8_readFormula y0 σ = some q → s_le σ q.2) (lG_X8_readOr : ∀ {y0 : Nat} {σ : sS} {q : Int32 × sS}, f_X8_readOr y0 σ = some q → s_le σ q.2) (lG_X8_readUnit : ∀ {y0 : Nat} {σ : sS} {q : Int32 × sS}, f_X8_readUnit y0 σ = some q → s_le σ q.2) (hG_X8_readAnd : ∀ {y0 : Nat} {σ : sS} {q : Int32 × sS}, f_X8_readAnd y0 σ = some q → s_T G (d + 7) M_X8_readAnd [.ref y0] σ (e_I q) ∧ ∃ fs, σ.1 y0 = some (.inr (8, fs))) (hG_X8_readFormula : ∀ {y0 : Nat} {σ : sS} {q : Int32 × sS}, f_X8_readFormula y0 σ = some q → s_T G (d + 7) M_X8_readFormula [.ref y0] σ (e_I q) ∧ ∃ fs, σ.1 y0 = some (.inr (8, fs))) (hG_X8_readOr : ∀ {y0 : Nat} {σ : sS} {q : Int32 × sS}, f_X8_readOr y0 σ = some q → s_T G (d + 7) M_X8_readOr [.ref y0] σ (e_I q) ∧ ∃ fs, σ.1 y0 = some (.inr (8, fs))) (hG_X8_readUnit : ∀ {y0 : Nat} {σ : sS} {q : Int32 × sS}, f_X8_readUnit y0 σ = some q → s_T G (d + 7) M_X8_readUnit [.ref y0] σ (e_I q) ∧ ∃ fs, σ.1 y0 = some (.inr (8, fs))) {vs0 : List Value} {σ0 : sS} {v0 : Nat} {v1 : Int32} {σ : sS} {z : sZ Int32} {r : Int32 × sS} (hf : T_X8_readAnd_17 f_X8_readAnd f_X8_readFormula f_X8_readOr f_X8_readUnit v0 v1 σ = some z) (k : s_K G (d + 8) M_X8_readAnd vs0 σ0 Y_X8_readAnd e_I z r) : s_V G (d + 8) M_X8_readAnd vs0 σ0 Y_X8_readAnd (17, [.ref v0, .int v1], σ) (e_I r) := by
  have le0 : s_le σ (e_I r).2 := s_lek hem_I (l_X8_readAnd_17 f_X8_readAnd f_X8_readFormula f_X8_readOr f_X8_readUnit lG_X8_readAnd lG_X8_readFormula lG_X8_readOr lG_X8_readUnit hf) k
  refine ⟨le0, ?_⟩
  intro p e s m below meth c H locs cells slots ls X I hn1 hn2 hl
  have hn : cells + σ0.2.1 ≤ σ.2.1 ∧ slots + σ0.2.2.1 ≤ σ.2.2.1 := ⟨hn1, hn2⟩
  have hl : lv_has ls 2 [(0, .ref v0), (1, .int v1)] := hl
  have hx := X.1
  have hb : c.code = cX8_readAnd := X.2.1
  have hown : s.vm.findClass RX8 = some m.cls := X.2.2.2.2.2.1
  have hts := X.2.2.2.2.2.2.1
  refine W.eq (g2 := F0 m 17 ls []) rfl ?_
  unfold T_X8_readAnd_17 at hf
  obtain ⟨q1, h1, hf⟩ := s_bind hf
  have le2 : s_le q1.2 (e_I r).2 := by
    refine s_lek hem_I ?_ k
    rcases s_ite hf with ⟨-, hf⟩ | ⟨-, hf⟩
    · cases hf
      exact s_le.rf
    · obtain ⟨q2, hh, hf⟩ := s_bind hf
      refine s_lz.tr (l_X8_counts hh) ?_
      rcases s_ite hf with ⟨-, hf⟩ | ⟨-, hf⟩
      · cases hf
        exact s_le.rf
      · obtain ⟨q3, hh, hf⟩ := s_bind hf
        refine s_lz.tr (lG_X8_readUnit hh) ?_
        rcases s_ite hf with ⟨-, hf⟩ | ⟨-, hf⟩
        · cases hf
          exact s_le.rf
        · obtain ⟨q4, hh, hf⟩ := s_bind hf
          refine s_lz.tr (l_X8_joins hh) ?_
          cases hf
          exact s_le.rf
  refine lv_aload_n hx hb dX8_readAnd_17 rfl (lv_at hl 0 rfl) ?_
  refine lv_bipush (v := 38) hx hb dX8_readAnd_18 (by decide) ?_
  refine r_callV (Y := M_X8_has) (v := some (.int q1.1)) X I w_1849 my_X8_has (by omega) (t_X8_has (G := G) (d := d + 4) h1) (b_X8_has h1) rfl rfl hl.1 rfl (Nat.le_of_ble_eq_true rfl) hn le2 dX8_readAnd_20 (fun H locs cells slots I hn1 hn2 => ?_)
  have I : s_I G q1.2 s H locs := I
  have hn : cells + σ0.2.1 ≤ q1.2.2.1 ∧ slots + σ0.2.2.1 ≤ q1.2.2.2.1 := ⟨hn1, hn2⟩
  rcases s_ite hf with ⟨c3, hf⟩ | ⟨c3, hf⟩
  · refine lv_if_eq (tgt := 52) hx hb dX8_readAnd_23 (by decide) (fun _ => ?_) (fun n => absurd c3 n)
    cases hf
    have k : _ = r := k
    subst k
    refine lv_iconst (v := 1) hx hb dX8_readAnd_52 (by decide) ?_
    exact r_iret X I rfl rfl rfl hn dX8_readAnd_53
  · refine lv_if_eq (tgt := 52) hx hb dX8_readAnd_23 (by decide) (fun n => absurd n c3) (fun _ => ?_)
    obtain ⟨q2, h4, hf⟩ := s_bind hf
    have le5 : s_le q2.2 (e_I r).2 := by
      refine s_lek hem_I ?_ k
      rcases s_ite hf with ⟨-, hf⟩ | ⟨-, hf⟩
      · cases hf
        exact s_le.rf
      · obtain ⟨q3, hh, hf⟩ := s_bind hf
        refine s_lz.tr (lG_X8_readUnit hh) ?_
        rcases s_ite hf with ⟨-, hf⟩ | ⟨-, hf⟩
        · cases hf
          exact s_le.rf
        · obtain ⟨q4, hh, hf⟩ := s_bind hf
          refine s_lz.tr (l_X8_joins hh) ?_
          cases hf
          exact s_le.rf
    refine lv_aload_n hx hb dX8_readAnd_26 rfl (lv_at hl 0 rfl) ?_
    refine r_callV (Y := M_X8_counts) (v := some (.int q2.1)) X I w_1869 my_X8_counts (by omega) (t_X8_counts (G := G) (d := d + 6) h4) (b_X8_counts h4) rfl rfl hl.1 rfl (Nat.le_of_ble_eq_true rfl) hn le5 dX8_readAnd_27 (fun H locs cells slots I hn1 hn2 => ?_)
    have I : s_I G q2.2 s H locs := I
    have hn : cells + σ0.2.1 ≤ q2.2.2.1 ∧ slots + σ0.2.2.1 ≤ q2.2.2.2.1 := ⟨hn1, hn2⟩
    rcases s_ite hf with ⟨c6, hf⟩ | ⟨c6, hf⟩
    · refine lv_if_eq (tgt := 40) hx hb dX8_readAnd_30 (by decide) (fun _ => ?_) (fun n => absurd c6 n)
      cases hf
      have k : _ = r := k
      subst k
      refine lv_iconst (v := 0) hx hb dX8_readAnd_40 (by decide) ?_
      exact r_iret X I rfl rfl rfl hn dX8_readAnd_41
    · refine lv_if_eq (tgt := 40) hx hb dX8_readAnd_30 (by decide) (fun n => absurd n c6) (fun _ => ?_)
      obtain ⟨q3, h7, hf⟩ := s_bind hf
      have le8 : s_le q3.2 (e_I r).2 := by
        refine s_lek hem_I ?_ k
        rcases s_ite hf with ⟨-, hf⟩ | ⟨-, hf⟩
        · cases hf
          exact s_le.rf
        · obtain ⟨q4, hh, hf⟩ := s_bind hf
          refine s_lz.tr (l_X8_joins hh) ?_
          cases hf
          exact s_le.rf
      refine lv_aload_n hx hb dX8_readAnd_33 rfl (lv_at hl 0 rfl) ?_
      refine r_callV (Y := M_X8_readUnit) (v := some (.int q3.1)) X I w_1845 my_X8_readUnit (by omega) (hG_X8_readUnit h7).1 (hG_X8_readUnit h7).2 rfl rfl hl.1 rfl (Nat.le_of_ble_eq_true rfl) hn le8 dX8_readAnd_34 (fun H locs cells slots I hn1 hn2 => ?_)
      have I : s_I G q3.2 s H locs := I
      have hn : cells + σ0.2.1 ≤ q3.2.2.1 ∧ slots + σ0.2.2.1 ≤ q3.2.2.2.1 := ⟨hn1, hn2⟩
      rcases s_ite hf with ⟨c9, hf⟩ | ⟨c9, hf⟩
      · refine lv_if_ne (tgt := 42) hx hb dX8_readAnd_37 (by decide) (fun n => absurd c9 n) (fun _ => ?_)
        cases hf
        have k : _ = r := k
        subst k
        refine lv_iconst (v := 0) hx hb dX8_readAnd_40 (by decide) ?_
        exact r_iret X I rfl rfl rfl hn dX8_readAnd_41
      · refine lv_if_ne (tgt := 42) hx hb dX8_readAnd_37 (by decide) (fun _ => ?_) (fun n => absurd n c9)
        obtain ⟨q4, h10, hf⟩ := s_bind hf
        cases hf
        have k : s_V G (d + 8) M_X8_readAnd vs0 σ0 Y_X8_readAnd (17, [.ref v0, .int v1], q4.2) (e_I r) := k
        have le11 : s_le q4.2 (e_I r).2 := k.1
        refine lv_aload_n hx hb dX8_readAnd_42 rfl (lv_at hl 0 rfl) ?_
        refine lv_iload_n hx hb dX8_readAnd_43 rfl (lv_at hl 1 rfl) ?_
        refine lv_bipush (v := 13) hx hb dX8_readAnd_44 (by decide) ?_
        refine r_callV (Y := M_X8_joins) (v := none) X I w_1893 my_X8_joins (by omega) (t_X8_joins (G := G) (d := d + 6) h10) (b_X8_joins h10) rfl rfl hl.1 rfl (Nat.le_of_ble_eq_true rfl) hn le11 dX8_readAnd_46 (fun H locs cells slots I hn1 hn2 => ?_)
        have I : s_I G q4.2 s H locs := I
        have hn : cells + σ0.2.1 ≤ q4.2.2.1 ∧ slots + σ0.2.2.1 ≤ q4.2.2.2.1 := ⟨hn1, hn2⟩
        refine lv_goto (tgt := 17) hx hb dX8_readAnd_49 (by decide) ?_
        exact k.2 p e s m below meth c _ _ _ _ _ X I hn.1 hn.2 (lv_sub hl [0, 1] rfl)
theorem v_X8_readAnd (f_X8_readAnd : Nat → sS → Option (Int32 × sS)) (f_X8_readFormula : Nat → sS → Option (Int32 × sS)) (f_X8_readOr : Nat → sS → Option (Int32 × sS)) (f_X8_readUnit : Nat → sS → Option (Int32 × sS)) {G : sG} {d : Nat} (lG_X8_readAnd : ∀ {y0 : Nat} {σ : sS} {q : Int32 × sS}, f_X8_readAnd y0 σ = some q → s_le σ q.2) (lG_X8_readFormula : ∀ {y0 : Nat} {σ : sS} {q : Int32 × sS}, f_X8_readFormula y0 σ = some q → s_le σ q.2) (lG_X8_readOr : ∀ {y0 : Nat} {σ : sS} {q : Int32 × sS}, f_X8_readOr y0 σ = some q → s_le σ q.2) (lG_X8_readUnit : ∀ {y0 : Nat} {σ : sS} {q : Int32 × sS}, f_X8_readUnit y0 σ = some q → s_le σ q.2) (hG_X8_readAnd : ∀ {y0 : Nat} {σ : sS} {q : Int32 × sS}, f_X8_readAnd y0 σ = some q → s_T G (d + 7) M_X8_readAnd [.ref y0] σ (e_I q) ∧ ∃ fs, σ.1 y0 = some (.inr (8, fs))) (hG_X8_readFormula : ∀ {y0 : Nat} {σ : sS} {q : Int32 × sS}, f_X8_readFormula y0 σ = some q → s_T G (d + 7) M_X8_readFormula [.ref y0] σ (e_I q) ∧ ∃ fs, σ.1 y0 = some (.inr (8, fs))) (hG_X8_readOr : ∀ {y0 : Nat} {σ : sS} {q : Int32 × sS}, f_X8_readOr y0 σ = some q → s_T G (d + 7) M_X8_readOr [.ref y0] σ (e_I q) ∧ ∃ fs, σ.1 y0 = some (.inr (8, fs))) (hG_X8_readUnit : ∀ {y0 : Nat} {σ : sS} {q : Int32 × sS}, f_X8_readUnit y0 σ = some q → s_T G (d + 7) M_X8_readUnit [.ref y0] σ (e_I q) ∧ ∃ fs, σ.1 y0 = some (.inr (8, fs))) {vs0 : List Value} {σ0 : sS} {x : sL} {z : sZ Int32} {r : Int32 × sS} (hs : S_X8_readAnd f_X8_readAnd f_X8_readFormula f_X8_readOr f_X8_readUnit x = some z) (k : s_K G (d + 8) M_X8_readAnd vs0 σ0 Y_X8_readAnd e_I z r) : s_V G (d + 8) M_X8_readAnd vs0 σ0 Y_X8_readAnd x (e_I r) := by
  obtain ⟨pc, vs, σ⟩ := x
  unfold S_X8_readAnd at hs
  dsimp only at hs
  rcases s_ite hs with ⟨c, hs⟩ | ⟨-, hs⟩
  · subst c
    unfold U_X8_readAnd_0 at hs
    obtain ⟨a0, g0, hs⟩ := s_bind hs
    obtain ⟨u9, ge, hs⟩ := s_bind hs
    rw [g_r_to g0, g_e_to ge]
    exact v_X8_readAnd_0 f_X8_readAnd f_X8_readFormula f_X8_readOr f_X8_readUnit lG_X8_readAnd lG_X8_readFormula lG_X8_readOr lG_X8_readUnit hG_X8_readAnd hG_X8_readFormula hG_X8_readOr hG_X8_readUnit hs k
  rcases s_ite hs with ⟨c, hs⟩ | ⟨-, hs⟩
  · subst c
    unfold U_X8_readAnd_17 at hs
    obtain ⟨a0, g0, hs⟩ := s_bind hs
    obtain ⟨a1, g1, hs⟩ := s_bind hs
    obtain ⟨u9, ge, hs⟩ := s_bind hs
    rw [g_r_to g0, g_i_to g1, g_e_to ge]
    exact v_X8_readAnd_17 f_X8_readAnd f_X8_readFormula f_X8_readOr f_X8_readUnit lG_X8_readAnd lG_X8_readFormula lG_X8_readOr lG_X8_readUnit hG_X8_readAnd hG_X8_readFormula hG_X8_readOr hG_X8_readUnit hs k
  cases hs
theorem l_X8_readFormula_0 (f_X8_readAnd : Nat → sS → Option (Int32 × sS)) (f_X8_readFormula : Nat → sS → Option (Int32 × sS)) (f_X8_readOr : Nat → sS → Option (Int32 × sS)) (f_X8_readUnit : Nat → sS → Option (Int32 × sS)) (lG_X8_readAnd : ∀ {y0 : Nat} {σ : sS} {q : Int32 × sS}, f_X8_readAnd y0 σ = some q → s_le σ q.2) (lG_X8_readFormula : ∀ {y0 : Nat} {σ : sS} {q : Int32 × sS}, f_X8_readFormula y0 σ = some q → s_le σ q.2) (lG_X8_readOr : ∀ {y0 : Nat} {σ : sS} {q : Int32 × sS}, f_X8_readOr y0 σ = some q → s_le σ q.2) (lG_X8_readUnit : ∀ {y0 : Nat} {σ : sS} {q : Int32 × sS}, f_X8_readUnit y0 σ = some q → s_le σ q.2) {v0 : Nat} {σ : sS} {z : sZ Int32} (hf : T_X8_readFormula_0 f_X8_readAnd f_X8_readFormula f_X8_readOr f_X8_readUnit v0 σ = some z) : s_lz σ z := by
  unfold T_X8_readFormula_0 at hf
  obtain ⟨x1, -, hf⟩ := s_bind hf
  obtain ⟨x2, -, hf⟩ := s_bind hf
  obtain ⟨q3, hh, hf⟩ := s_bind hf
  refine s_lz.tr (lG_X8_readOr hh) ?_
  rcases s_ite hf with ⟨-, hf⟩ | ⟨-, hf⟩
  · cases hf
    exact s_le.rf
  · obtain ⟨q4, hh, hf⟩ := s_bind hf
    refine s_lz.tr (l_X8_has hh) ?_
    rcases s_ite hf with ⟨-, hf⟩ | ⟨-, hf⟩
    · cases hf
      exact s_le.rf
    · obtain ⟨q5, hh, hf⟩ := s_bind hf
      refine s_lz.tr (l_X8_deeper hh) ?_
      rcases s_ite hf with ⟨-, hf⟩ | ⟨-, hf⟩
      · cases hf
        exact s_le.rf
      · obtain ⟨q6, hh, hf⟩ := s_bind hf
        refine s_lz.tr (l_X8_counts hh) ?_
        rcases s_ite hf with ⟨-, hf⟩ | ⟨-, hf⟩
        · cases hf
          exact s_le.rf
        · obtain ⟨q7, hh, hf⟩ := s_bind hf
          refine s_lz.tr (lG_X8_readFormula hh) ?_
          rcases s_ite hf with ⟨-, hf⟩ | ⟨-, hf⟩
          · cases hf
            exact s_le.rf
          · obtain ⟨x8, -, hf⟩ := s_bind hf
            obtain ⟨σ9, hh, hf⟩ := s_bind hf
            refine s_lz.tr (s_le2 (s_pf_2 hh)) ?_
            obtain ⟨q10, hh, hf⟩ := s_bind hf
            refine s_lz.tr (l_X8_joins hh) ?_
            cases hf
            exact s_le.rf
theorem l_X8_readFormula_s (f_X8_readAnd : Nat → sS → Option (Int32 × sS)) (f_X8_readFormula : Nat → sS → Option (Int32 × sS)) (f_X8_readOr : Nat → sS → Option (Int32 × sS)) (f_X8_readUnit : Nat → sS → Option (Int32 × sS)) (lG_X8_readAnd : ∀ {y0 : Nat} {σ : sS} {q : Int32 × sS}, f_X8_readAnd y0 σ = some q → s_le σ q.2) (lG_X8_readFormula : ∀ {y0 : Nat} {σ : sS} {q : Int32 × sS}, f_X8_readFormula y0 σ = some q → s_le σ q.2) (lG_X8_readOr : ∀ {y0 : Nat} {σ : sS} {q : Int32 × sS}, f_X8_readOr y0 σ = some q → s_le σ q.2) (lG_X8_readUnit : ∀ {y0 : Nat} {σ : sS} {q : Int32 × sS}, f_X8_readUnit y0 σ = some q → s_le σ q.2) {x : sL} {z : sZ Int32} (hs : S_X8_readFormula f_X8_readAnd f_X8_readFormula f_X8_readOr f_X8_readUnit x = some z) : s_lz x.2.2 z := by
  obtain ⟨pc, vs, σ⟩ := x
  unfold S_X8_readFormula at hs
  dsimp only at hs ⊢
  rcases s_ite hs with ⟨c, hs⟩ | ⟨-, hs⟩
  · subst c
    unfold U_X8_readFormula_0 at hs
    obtain ⟨a0, g0, hs⟩ := s_bind hs
    obtain ⟨u9, ge, hs⟩ := s_bind hs
    exact l_X8_readFormula_0 f_X8_readAnd f_X8_readFormula f_X8_readOr f_X8_readUnit lG_X8_readAnd lG_X8_readFormula lG_X8_readOr lG_X8_readUnit hs
  cases hs
set_option maxRecDepth 100000 in
set_option maxHeartbeats 4000000 in
theorem v_X8_readFormula_0 (f_X8_readAnd : Nat → sS → Option (Int32 × sS)) (f_X8_readFormula : Nat → sS → Option (Int32 × sS)) (f_X8_readOr : Nat → sS → Option (Int32 × sS)) (f_X8_readUnit : Nat → sS → Option (Int32 × sS)) {G : sG} {d : Nat} (lG_X8_readAnd : ∀ {y0 : Nat} {σ : sS} {q : Int32 × sS}, f_X8_readAnd y0 σ = some q → s_le σ q.2) (lG_X8_readFormula : ∀ {y0 : Nat} {σ : sS} {q : Int32 × sS}, f_X8_readFormula y0 σ = some q → s_le σ q.2) (lG_X8_readOr : ∀ {y0 : Nat} {σ : sS} {q : Int32 × sS}, f_X8_readOr y0 σ = some q → s_le σ q.2) (lG_X8_readUnit : ∀ {y0 : Nat} {σ : sS} {q : Int32 × sS}, f_X8_readUnit y0 σ = some q → s_le σ q.2) (hG_X8_readAnd : ∀ {y0 : Nat} {σ : sS} {q : Int32 × sS}, f_X8_readAnd y0 σ = some q → s_T G (d + 7) M_X8_readAnd [.ref y0] σ (e_I q) ∧ ∃ fs, σ.1 y0 = some (.inr (8, fs))) (hG_X8_readFormula : ∀ {y0 : Nat} {σ : sS} {q : Int32 × sS}, f_X8_readFormula y0 σ = some q → s_T G (d + 7) M_X8_readFormula [.ref y0] σ (e_I q) ∧ ∃ fs, σ.1 y0 = some (.inr (8, fs))) (hG_X8_readOr : ∀ {y0 : Nat} {σ : sS} {q : Int32 × sS}, f_X8_readOr y0 σ = some q → s_T G (d + 7) M_X8_readOr [.ref y0] σ (e_I q) ∧ ∃ fs, σ.1 y0 = some (.inr (8, fs))) (hG_X8_readUnit : ∀ {y0 : Nat} {σ : sS} {q : Int32 × sS}, f_X8_readUnit y0 σ = some q → s_T G (d + 7) M_X8_readUnit [.ref y0] σ (e_I q) ∧ ∃ fs, σ.1 y0 = some (.inr (8, fs))) {vs0 : List Value} {σ0 : sS} {v0 : Nat} {σ : sS} {z : sZ Int32} {r : Int32 × sS} (hf : T_X8_readFormula_0 f_X8_readAnd f_X8_readFormula f_X8_readOr f_X8_readUnit v0 σ = some z) (k : s_K G (d + 8) M_X8_readFormula vs0 σ0 Y_X8_readFormula e_I z r) : s_V G (d + 8) M_X8_readFormula vs0 σ0 Y_X8_readFormula (0, [.ref v0], σ) (e_I r) := by
  have le0 : s_le σ (e_I r).2 := s_lek hem_I (l_X8_readFormula_0 f_X8_readAnd f_X8_readFormula f_X8_readOr f_X8_readUnit lG_X8_readAnd lG_X8_readFormula lG_X8_readOr lG_X8_readUnit hf) k
  refine ⟨le0, ?_⟩
  intro p e s m below meth c H locs cells slots ls X I hn1 hn2 hl
  have hn : cells + σ0.2.1 ≤ σ.2.1 ∧ slots + σ0.2.2.1 ≤ σ.2.2.1 := ⟨hn1, hn2⟩
  have hl : lv_has ls 2 [(0, .ref v0)] := hl
  have hx := X.1
  have hb : c.code = cX8_readFormula := X.2.1
  have hown : s.vm.findClass RX8 = some m.cls := X.2.2.2.2.2.1
  have hts := X.2.2.2.2.2.2.1
  refine W.eq (g2 := F0 m 0 ls []) rfl ?_
  unfold T_X8_readFormula_0 at hf
  obtain ⟨x1, h1, hf⟩ := s_bind hf
  obtain ⟨x2, h2, hf⟩ := s_bind hf
  obtain ⟨q3, h3, hf⟩ := s_bind hf
  have le4 : s_le q3.2 (e_I r).2 := by
    refine s_lek hem_I ?_ k
    rcases s_ite hf with ⟨-, hf⟩ | ⟨-, hf⟩
    · cases hf
      exact s_le.rf
    · obtain ⟨q4, hh, hf⟩ := s_bind hf
      refine s_lz.tr (l_X8_has hh) ?_
      rcases s_ite hf with ⟨-, hf⟩ | ⟨-, hf⟩
      · cases hf
        exact s_le.rf
      · obtain ⟨q5, hh, hf⟩ := s_bind hf
        refine s_lz.tr (l_X8_deeper hh) ?_
        rcases s_ite hf with ⟨-, hf⟩ | ⟨-, hf⟩
        · cases hf
          exact s_le.rf
        · obtain ⟨q6, hh, hf⟩ := s_bind hf
          refine s_lz.tr (l_X8_counts hh) ?_
          rcases s_ite hf with ⟨-, hf⟩ | ⟨-, hf⟩
          · cases hf
            exact s_le.rf
          · obtain ⟨q7, hh, hf⟩ := s_bind hf
            refine s_lz.tr (lG_X8_readFormula hh) ?_
            rcases s_ite hf with ⟨-, hf⟩ | ⟨-, hf⟩
            · cases hf
              exact s_le.rf
            · obtain ⟨x8, -, hf⟩ := s_bind hf
              obtain ⟨σ9, hh, hf⟩ := s_bind hf
              refine s_lz.tr (s_le2 (s_pf_2 hh)) ?_
              obtain ⟨q10, hh, hf⟩ := s_bind hf
              refine s_lz.tr (l_X8_joins hh) ?_
              cases hf
              exact s_le.rf
  refine lv_aload_n hx hb dX8_readFormula_0 rfl (lv_at hl 0 rfl) ?_
  refine r_gr X I fl_X8_20 h1 dX8_readFormula_1 ?_
  refine lv_bipush (v := 70) hx hb dX8_readFormula_4 (by decide) ?_
  refine r_iald X I h2 dX8_readFormula_6 ?_
  refine lv_istore_n (lv' := [(1, .int x2), (0, .ref v0)]) hx hb dX8_readFormula_7 rfl hl (by decide) rfl (fun ls hl => ?_)
  refine lv_aload_n hx hb dX8_readFormula_8 rfl (lv_at hl 1 rfl) ?_
  refine r_callV (Y := M_X8_readOr) (v := some (.int q3.1)) X I w_1837 my_X8_readOr (by omega) (hG_X8_readOr h3).1 (hG_X8_readOr h3).2 rfl rfl hl.1 rfl (Nat.le_of_ble_eq_true rfl) hn le4 dX8_readFormula_9 (fun H locs cells slots I hn1 hn2 => ?_)
  have I : s_I G q3.2 s H locs := I
  have hn : cells + σ0.2.1 ≤ q3.2.2.1 ∧ slots + σ0.2.2.1 ≤ q3.2.2.2.1 := ⟨hn1, hn2⟩
  rcases s_ite hf with ⟨c5, hf⟩ | ⟨c5, hf⟩
  · refine lv_if_ne (tgt := 17) hx hb dX8_readFormula_12 (by decide) (fun n => absurd c5 n) (fun _ => ?_)
    cases hf
    have k : _ = r := k
    subst k
    refine lv_iconst (v := 0) hx hb dX8_readFormula_15 (by decide) ?_
    exact r_iret X I rfl rfl rfl hn dX8_readFormula_16
  · refine lv_if_ne (tgt := 17) hx hb dX8_readFormula_12 (by decide) (fun _ => ?_) (fun n => absurd n c5)
    obtain ⟨q4, h6, hf⟩ := s_bind hf
    have le7 : s_le q4.2 (e_I r).2 := by
      refine s_lek hem_I ?_ k
      rcases s_ite hf with ⟨-, hf⟩ | ⟨-, hf⟩
      · cases hf
        exact s_le.rf
      · obtain ⟨q5, hh, hf⟩ := s_bind hf
        refine s_lz.tr (l_X8_deeper hh) ?_
        rcases s_ite hf with ⟨-, hf⟩ | ⟨-, hf⟩
        · cases hf
          exact s_le.rf
        · obtain ⟨q6, hh, hf⟩ := s_bind hf
          refine s_lz.tr (l_X8_counts hh) ?_
          rcases s_ite hf with ⟨-, hf⟩ | ⟨-, hf⟩
          · cases hf
            exact s_le.rf
          · obtain ⟨q7, hh, hf⟩ := s_bind hf
            refine s_lz.tr (lG_X8_readFormula hh) ?_
            rcases s_ite hf with ⟨-, hf⟩ | ⟨-, hf⟩
            · cases hf
              exact s_le.rf
            · obtain ⟨x8, -, hf⟩ := s_bind hf
              obtain ⟨σ9, hh, hf⟩ := s_bind hf
              refine s_lz.tr (s_le2 (s_pf_2 hh)) ?_
              obtain ⟨q10, hh, hf⟩ := s_bind hf
              refine s_lz.tr (l_X8_joins hh) ?_
              cases hf
              exact s_le.rf
    refine lv_aload_n hx hb dX8_readFormula_17 rfl (lv_at hl 1 rfl) ?_
    refine lv_bipush (v := 62) hx hb dX8_readFormula_18 (by decide) ?_
    refine r_callV (Y := M_X8_has) (v := some (.int q4.1)) X I w_1849 my_X8_has (by omega) (t_X8_has (G := G) (d := d + 4) h6) (b_X8_has h6) rfl rfl hl.1 rfl (Nat.le_of_ble_eq_true rfl) hn le7 dX8_readFormula_20 (fun H locs cells slots I hn1 hn2 => ?_)
    have I : s_I G q4.2 s H locs := I
    have hn : cells + σ0.2.1 ≤ q4.2.2.1 ∧ slots + σ0.2.2.1 ≤ q4.2.2.2.1 := ⟨hn1, hn2⟩
    rcases s_ite hf with ⟨c8, hf⟩ | ⟨c8, hf⟩
    · refine lv_if_ne (tgt := 28) hx hb dX8_readFormula_23 (by decide) (fun n => absurd c8 n) (fun _ => ?_)
      cases hf
      have k : _ = r := k
      subst k
      refine lv_iconst (v := 1) hx hb dX8_readFormula_26 (by decide) ?_
      exact r_iret X I rfl rfl rfl hn dX8_readFormula_27
    · refine lv_if_ne (tgt := 28) hx hb dX8_readFormula_23 (by decide) (fun _ => ?_) (fun n => absurd n c8)
      obtain ⟨q5, h9, hf⟩ := s_bind hf
      have le10 : s_le q5.2 (e_I r).2 := by
        refine s_lek hem_I ?_ k
        rcases s_ite hf with ⟨-, hf⟩ | ⟨-, hf⟩
        · cases hf
          exact s_le.rf
        · obtain ⟨q6, hh, hf⟩ := s_bind hf
          refine s_lz.tr (l_X8_counts hh) ?_
          rcases s_ite hf with ⟨-, hf⟩ | ⟨-, hf⟩
          · cases hf
            exact s_le.rf
          · obtain ⟨q7, hh, hf⟩ := s_bind hf
            refine s_lz.tr (lG_X8_readFormula hh) ?_
            rcases s_ite hf with ⟨-, hf⟩ | ⟨-, hf⟩
            · cases hf
              exact s_le.rf
            · obtain ⟨x8, -, hf⟩ := s_bind hf
              obtain ⟨σ9, hh, hf⟩ := s_bind hf
              refine s_lz.tr (s_le2 (s_pf_2 hh)) ?_
              obtain ⟨q10, hh, hf⟩ := s_bind hf
              refine s_lz.tr (l_X8_joins hh) ?_
              cases hf
              exact s_le.rf
      refine lv_aload_n hx hb dX8_readFormula_28 rfl (lv_at hl 1 rfl) ?_
      refine r_callV (Y := M_X8_deeper) (v := some (.int q5.1)) X I w_1861 my_X8_deeper (by omega) (t_X8_deeper (G := G) (d := d + 6) h9) (b_X8_deeper h9) rfl rfl hl.1 rfl (Nat.le_of_ble_eq_true rfl) hn le10 dX8_readFormula_29 (fun H locs cells slots I hn1 hn2 => ?_)
      have I : s_I G q5.2 s H locs := I
      have hn : cells + σ0.2.1 ≤ q5.2.2.1 ∧ slots + σ0.2.2.1 ≤ q5.2.2.2.1 := ⟨hn1, hn2⟩
      rcases s_ite hf with ⟨c11, hf⟩ | ⟨c11, hf⟩
      · refine lv_if_eq (tgt := 49) hx hb dX8_readFormula_32 (by decide) (fun _ => ?_) (fun n => absurd c11 n)
        cases hf
        have k : _ = r := k
        subst k
        refine lv_iconst (v := 0) hx hb dX8_readFormula_49 (by decide) ?_
        exact r_iret X I rfl rfl rfl hn dX8_readFormula_50
      · refine lv_if_eq (tgt := 49) hx hb dX8_readFormula_32 (by decide) (fun n => absurd n c11) (fun _ => ?_)
        obtain ⟨q6, h12, hf⟩ := s_bind hf
        have le13 : s_le q6.2 (e_I r).2 := by
          refine s_lek hem_I ?_ k
          rcases s_ite hf with ⟨-, hf⟩ | ⟨-, hf⟩
          · cases hf
            exact s_le.rf
          · obtain ⟨q7, hh, hf⟩ := s_bind hf
            refine s_lz.tr (lG_X8_readFormula hh) ?_
            rcases s_ite hf with ⟨-, hf⟩ | ⟨-, hf⟩
            · cases hf
              exact s_le.rf
            · obtain ⟨x8, -, hf⟩ := s_bind hf
              obtain ⟨σ9, hh, hf⟩ := s_bind hf
              refine s_lz.tr (s_le2 (s_pf_2 hh)) ?_
              obtain ⟨q10, hh, hf⟩ := s_bind hf
              refine s_lz.tr (l_X8_joins hh) ?_
              cases hf
              exact s_le.rf
        refine lv_aload_n hx hb dX8_readFormula_35 rfl (lv_at hl 1 rfl) ?_
        refine r_callV (Y := M_X8_counts) (v := some (.int q6.1)) X I w_1869 my_X8_counts (by omega) (t_X8_counts (G := G) (d := d + 6) h12) (b_X8_counts h12) rfl rfl hl.1 rfl (Nat.le_of_ble_eq_true rfl) hn le13 dX8_readFormula_36 (fun H locs cells slots I hn1 hn2 => ?_)
        have I : s_I G q6.2 s H locs := I
        have hn : cells + σ0.2.1 ≤ q6.2.2.1 ∧ slots + σ0.2.2.1 ≤ q6.2.2.2.1 := ⟨hn1, hn2⟩
        rcases s_ite hf with ⟨c14, hf⟩ | ⟨c14, hf⟩
        · refine lv_if_eq (tgt := 49) hx hb dX8_readFormula_39 (by decide) (fun _ => ?_) (fun n => absurd c14 n)
          cases hf
          have k : _ = r := k
          subst k
          refine lv_iconst (v := 0) hx hb dX8_readFormula_49 (by decide) ?_
          exact r_iret X I rfl rfl rfl hn dX8_readFormula_50
        · refine lv_if_eq (tgt := 49) hx hb dX8_readFormula_39 (by decide) (fun n => absurd n c14) (fun _ => ?_)
          obtain ⟨q7, h15, hf⟩ := s_bind hf
          have le16 : s_le q7.2 (e_I r).2 := by
            refine s_lek hem_I ?_ k
            rcases s_ite hf with ⟨-, hf⟩ | ⟨-, hf⟩
            · cases hf
              exact s_le.rf
            · obtain ⟨x8, -, hf⟩ := s_bind hf
              obtain ⟨σ9, hh, hf⟩ := s_bind hf
              refine s_lz.tr (s_le2 (s_pf_2 hh)) ?_
              obtain ⟨q10, hh, hf⟩ := s_bind hf
              refine s_lz.tr (l_X8_joins hh) ?_
              cases hf
              exact s_le.rf
          refine lv_aload_n hx hb dX8_readFormula_42 rfl (lv_at hl 1 rfl) ?_
          refine r_callV (Y := M_X8_readFormula) (v := some (.int q7.1)) X I w_1833 my_X8_readFormula (by omega) (hG_X8_readFormula h15).1 (hG_X8_readFormula h15).2 rfl rfl hl.1 rfl (Nat.le_of_ble_eq_true rfl) hn le16 dX8_readFormula_43 (fun H locs cells slots I hn1 hn2 => ?_)
          have I : s_I G q7.2 s H locs := I
          have hn : cells + σ0.2.1 ≤ q7.2.2.1 ∧ slots + σ0.2.2.1 ≤ q7.2.2.2.1 := ⟨hn1, hn2⟩
          rcases s_ite hf with ⟨c17, hf⟩ | ⟨c17, hf⟩
          · refine lv_if_ne (tgt := 51) hx hb dX8_readFormula_46 (by decide) (fun n => absurd c17 n) (fun _ => ?_)
            cases hf
            have k : _ = r := k
            subst k
            refine lv_iconst (v := 0) hx hb dX8_readFormula_49 (by decide) ?_
            exact r_iret X I rfl rfl rfl hn dX8_readFormula_50
          · refine lv_if_ne (tgt := 51) hx hb dX8_readFormula_46 (by decide) (fun _ => ?_) (fun n => absurd n c17)
            obtain ⟨x8, h18, hf⟩ := s_bind hf
            obtain ⟨σ9, h19, hf⟩ := s_bind hf
            obtain ⟨q10, h20, hf⟩ := s_bind hf
            cases hf
            have k : _ = r := k
            subst k
            have le21 : s_le q10.2 q10.2 := s_le.rf
            have le22 := s_le.tr (l_X8_joins h20) le21
            refine lv_aload_n hx hb dX8_readFormula_51 rfl (lv_at hl 1 rfl) ?_
            refine lv_dup hx hb dX8_readFormula_52 rfl ?_
            refine r_gi X I fl_X8_179 h18 dX8_readFormula_53 ?_
            refine lv_iconst (v := 1) hx hb dX8_readFormula_56 (by decide) ?_
            refine lv_isub hx hb dX8_readFormula_57 ?_
            refine r_put X I fp_X8_179 (fun h => by cases h) h19 rfl rfl dX8_readFormula_58 (fun H locs I => ?_)
            have hn := s_k2 (s_pf_2 h19) hn
            refine lv_aload_n hx hb dX8_readFormula_61 rfl (lv_at hl 1 rfl) ?_
            refine lv_iload_n hx hb dX8_readFormula_62 rfl (lv_at hl 0 rfl) ?_
            refine lv_bipush (v := 15) hx hb dX8_readFormula_63 (by decide) ?_
            refine r_callV (Y := M_X8_joins) (v := none) X I w_1893 my_X8_joins (by omega) (t_X8_joins (G := G) (d := d + 6) h20) (b_X8_joins h20) rfl rfl hl.1 rfl (Nat.le_of_ble_eq_true rfl) hn le21 dX8_readFormula_65 (fun H locs cells slots I hn1 hn2 => ?_)
            have I : s_I G q10.2 s H locs := I
            have hn : cells + σ0.2.1 ≤ q10.2.2.1 ∧ slots + σ0.2.2.1 ≤ q10.2.2.2.1 := ⟨hn1, hn2⟩
            refine lv_iconst (v := 1) hx hb dX8_readFormula_68 (by decide) ?_
            exact r_iret X I rfl rfl rfl hn dX8_readFormula_69
theorem v_X8_readFormula (f_X8_readAnd : Nat → sS → Option (Int32 × sS)) (f_X8_readFormula : Nat → sS → Option (Int32 × sS)) (f_X8_readOr : Nat → sS → Option (Int32 × sS)) (f_X8_readUnit : Nat → sS → Option (Int32 × sS)) {G : sG} {d : Nat} (lG_X8_readAnd : ∀ {y0 : Nat} {σ : sS} {q : Int32 × sS}, f_X8_readAnd y0 σ = some q → s_le σ q.2) (lG_X8_readFormula : ∀ {y0 : Nat} {σ : sS} {q : Int32 × sS}, f_X8_readFormula y0 σ = some q → s_le σ q.2) (lG_X8_readOr : ∀ {y0 : Nat} {σ : sS} {q : Int32 × sS}, f_X8_readOr y0 σ = some q → s_le σ q.2) (lG_X8_readUnit : ∀ {y0 : Nat} {σ : sS} {q : Int32 × sS}, f_X8_readUnit y0 σ = some q → s_le σ q.2) (hG_X8_readAnd : ∀ {y0 : Nat} {σ : sS} {q : Int32 × sS}, f_X8_readAnd y0 σ = some q → s_T G (d + 7) M_X8_readAnd [.ref y0] σ (e_I q) ∧ ∃ fs, σ.1 y0 = some (.inr (8, fs))) (hG_X8_readFormula : ∀ {y0 : Nat} {σ : sS} {q : Int32 × sS}, f_X8_readFormula y0 σ = some q → s_T G (d + 7) M_X8_readFormula [.ref y0] σ (e_I q) ∧ ∃ fs, σ.1 y0 = some (.inr (8, fs))) (hG_X8_readOr : ∀ {y0 : Nat} {σ : sS} {q : Int32 × sS}, f_X8_readOr y0 σ = some q → s_T G (d + 7) M_X8_readOr [.ref y0] σ (e_I q) ∧ ∃ fs, σ.1 y0 = some (.inr (8, fs))) (hG_X8_readUnit : ∀ {y0 : Nat} {σ : sS} {q : Int32 × sS}, f_X8_readUnit y0 σ = some q → s_T G (d + 7) M_X8_readUnit [.ref y0] σ (e_I q) ∧ ∃ fs, σ.1 y0 = some (.inr (8, fs))) {vs0 : List Value} {σ0 : sS} {x : sL} {z : sZ Int32} {r : Int32 × sS} (hs : S_X8_readFormula f_X8_readAnd f_X8_readFormula f_X8_readOr f_X8_readUnit x = some z) (k : s_K G (d + 8) M_X8_readFormula vs0 σ0 Y_X8_readFormula e_I z r) : s_V G (d + 8) M_X8_readFormula vs0 σ0 Y_X8_readFormula x (e_I r) := by
  obtain ⟨pc, vs, σ⟩ := x
  unfold S_X8_readFormula at hs
  dsimp only at hs
  rcases s_ite hs with ⟨c, hs⟩ | ⟨-, hs⟩
  · subst c
    unfold U_X8_readFormula_0 at hs
    obtain ⟨a0, g0, hs⟩ := s_bind hs
    obtain ⟨u9, ge, hs⟩ := s_bind hs
    rw [g_r_to g0, g_e_to ge]
    exact v_X8_readFormula_0 f_X8_readAnd f_X8_readFormula f_X8_readOr f_X8_readUnit lG_X8_readAnd lG_X8_readFormula lG_X8_readOr lG_X8_readUnit hG_X8_readAnd hG_X8_readFormula hG_X8_readOr hG_X8_readUnit hs k
  cases hs
theorem l_X8_readOr_0 (f_X8_readAnd : Nat → sS → Option (Int32 × sS)) (f_X8_readFormula : Nat → sS → Option (Int32 × sS)) (f_X8_readOr : Nat → sS → Option (Int32 × sS)) (f_X8_readUnit : Nat → sS → Option (Int32 × sS)) (lG_X8_readAnd : ∀ {y0 : Nat} {σ : sS} {q : Int32 × sS}, f_X8_readAnd y0 σ = some q → s_le σ q.2) (lG_X8_readFormula : ∀ {y0 : Nat} {σ : sS} {q : Int32 × sS}, f_X8_readFormula y0 σ = some q → s_le σ q.2) (lG_X8_readOr : ∀ {y0 : Nat} {σ : sS} {q : Int32 × sS}, f_X8_readOr y0 σ = some q → s_le σ q.2) (lG_X8_readUnit : ∀ {y0 : Nat} {σ : sS} {q : Int32 × sS}, f_X8_readUnit y0 σ = some q → s_le σ q.2) {v0 : Nat} {σ : sS} {z : sZ Int32} (hf : T_X8_readOr_0 f_X8_readAnd f_X8_readFormula f_X8_readOr f_X8_readUnit v0 σ = some z) : s_lz σ z := by
  unfold T_X8_readOr_0 at hf
  obtain ⟨x1, -, hf⟩ := s_bind hf
  obtain ⟨x2, -, hf⟩ := s_bind hf
  obtain ⟨q3, hh, hf⟩ := s_bind hf
  refine s_lz.tr (lG_X8_readAnd hh) ?_
  rcases s_ite hf with ⟨-, hf⟩ | ⟨-, hf⟩
  · cases hf
    exact s_le.rf
  · cases hf
    exact s_le.rf
theorem l_X8_readOr_17 (f_X8_readAnd : Nat → sS → Option (Int32 × sS)) (f_X8_readFormula : Nat → sS → Option (Int32 × sS)) (f_X8_readOr : Nat → sS → Option (Int32 × sS)) (f_X8_readUnit : Nat → sS → Option (Int32 × sS)) (lG_X8_readAnd : ∀ {y0 : Nat} {σ : sS} {q : Int32 × sS}, f_X8_readAnd y0 σ = some q → s_le σ q.2) (lG_X8_readFormula : ∀ {y0 : Nat} {σ : sS} {q : Int32 × sS}, f_X8_readFormula y0 σ = some q → s_le σ q.2) (lG_X8_readOr : ∀ {y0 : Nat} {σ : sS} {q : Int32 × sS}, f_X8_readOr y0 σ = some q → s_le σ q.2) (lG_X8_readUnit : ∀ {y0 : Nat} {σ : sS} {q : Int32 × sS}, f_X8_readUnit y0 σ = some q → s_le σ q.2) {v0 : Nat} {v1 : Int32} {σ : sS} {z : sZ Int32} (hf : T_X8_readOr_17 f_X8_readAnd f_X8_readFormula f_X8_readOr f_X8_readUnit v0 v1 σ = some z) : s_lz σ z := by
  unfold T_X8_readOr_17 at hf
  obtain ⟨q1, hh, hf⟩ := s_bind hf
  refine s_lz.tr (l_X8_has hh) ?_
  rcases s_ite hf with ⟨-, hf⟩ | ⟨-, hf⟩
  · cases hf
    exact s_le.rf
  · obtain ⟨q2, hh, hf⟩ := s_bind hf
    refine s_lz.tr (l_X8_counts hh) ?_
    rcases s_ite hf with ⟨-, hf⟩ | ⟨-, hf⟩
    · cases hf
      exact s_le.rf
    · obtain ⟨q3, hh, hf⟩ := s_bind hf
      refine s_lz.tr (lG_X8_readAnd hh) ?_
      rcases s_ite hf with ⟨-, hf⟩ | ⟨-, hf⟩
      · cases hf
        exact s_le.rf
      · obtain ⟨q4, hh, hf⟩ := s_bind hf
        refine s_lz.tr (l_X8_joins hh) ?_
        cases hf
        exact s_le.rf
theorem l_X8_readOr_s (f_X8_readAnd : Nat → sS → Option (Int32 × sS)) (f_X8_readFormula : Nat → sS → Option (Int32 × sS)) (f_X8_readOr : Nat → sS → Option (Int32 × sS)) (f_X8_readUnit : Nat → sS → Option (Int32 × sS)) (lG_X8_readAnd : ∀ {y0 : Nat} {σ : sS} {q : Int32 × sS}, f_X8_readAnd y0 σ = some q → s_le σ q.2) (lG_X8_readFormula : ∀ {y0 : Nat} {σ : sS} {q : Int32 × sS}, f_X8_readFormula y0 σ = some q → s_le σ q.2) (lG_X8_readOr : ∀ {y0 : Nat} {σ : sS} {q : Int32 × sS}, f_X8_readOr y0 σ = some q → s_le σ q.2) (lG_X8_readUnit : ∀ {y0 : Nat} {σ : sS} {q : Int32 × sS}, f_X8_readUnit y0 σ = some q → s_le σ q.2) {x : sL} {z : sZ Int32} (hs : S_X8_readOr f_X8_readAnd f_X8_readFormula f_X8_readOr f_X8_readUnit x = some z) : s_lz x.2.2 z := by
  obtain ⟨pc, vs, σ⟩ := x
  unfold S_X8_readOr at hs
  dsimp only at hs ⊢
  rcases s_ite hs with ⟨c, hs⟩ | ⟨-, hs⟩
  · subst c
    unfold U_X8_readOr_0 at hs
    obtain ⟨a0, g0, hs⟩ := s_bind hs
    obtain ⟨u9, ge, hs⟩ := s_bind hs
    exact l_X8_readOr_0 f_X8_readAnd f_X8_readFormula f_X8_readOr f_X8_readUnit lG_X8_readAnd lG_X8_readFormula lG_X8_readOr lG_X8_readUnit hs
  rcases s_ite hs with ⟨c, hs⟩ | ⟨-, hs⟩
  · subst c
    unfold U_X8_readOr_17 at hs
    obtain ⟨a0, g0, hs⟩ := s_bind hs
    obtain ⟨a1, g1, hs⟩ := s_bind hs
    obtain ⟨u9, ge, hs⟩ := s_bind hs
    exact l_X8_readOr_17 f_X8_readAnd f_X8_readFormula f_X8_readOr f_X8_readUnit lG_X8_readAnd lG_X8_readFormula lG_X8_readOr lG_X8_readUnit hs
  cases hs
set_option maxRecDepth 100000 in
set_option maxHeartbeats 4000000 in
theorem v_X8_readOr_0 (f_X8_readAnd : Nat → sS → Option (Int32 × sS)) (f_X8_readFormula : Nat → sS → Option (Int32 × sS)) (f_X8_readOr : Nat → sS → Option (Int32 × sS)) (f_X8_readUnit : Nat → sS → Option (Int32 × sS)) {G : sG} {d : Nat} (lG_X8_readAnd : ∀ {y0 : Nat} {σ : sS} {q : Int32 × sS}, f_X8_readAnd y0 σ = some q → s_le σ q.2) (lG_X8_readFormula : ∀ {y0 : Nat} {σ : sS} {q : Int32 × sS}, f_X8_readFormula y0 σ = some q → s_le σ q.2) (lG_X8_readOr : ∀ {y0 : Nat} {σ : sS} {q : Int32 × sS}, f_X8_readOr y0 σ = some q → s_le σ q.2) (lG_X8_readUnit : ∀ {y0 : Nat} {σ : sS} {q : Int32 × sS}, f_X8_readUnit y0 σ = some q → s_le σ q.2) (hG_X8_readAnd : ∀ {y0 : Nat} {σ : sS} {q : Int32 × sS}, f_X8_readAnd y0 σ = some q → s_T G (d + 7) M_X8_readAnd [.ref y0] σ (e_I q) ∧ ∃ fs, σ.1 y0 = some (.inr (8, fs))) (hG_X8_readFormula : ∀ {y0 : Nat} {σ : sS} {q : Int32 × sS}, f_X8_readFormula y0 σ = some q → s_T G (d + 7) M_X8_readFormula [.ref y0] σ (e_I q) ∧ ∃ fs, σ.1 y0 = some (.inr (8, fs))) (hG_X8_readOr : ∀ {y0 : Nat} {σ : sS} {q : Int32 × sS}, f_X8_readOr y0 σ = some q → s_T G (d + 7) M_X8_readOr [.ref y0] σ (e_I q) ∧ ∃ fs, σ.1 y0 = some (.inr (8, fs))) (hG_X8_readUnit : ∀ {y0 : Nat} {σ : sS} {q : Int32 × sS}, f_X8_readUnit y0 σ = some q → s_T G (d + 7) M_X8_readUnit [.ref y0] σ (e_I q) ∧ ∃ fs, σ.1 y0 = some (.inr (8, fs))) {vs0 : List Value} {σ0 : sS} {v0 : Nat} {σ : sS} {z : sZ Int32} {r : Int32 × sS} (hf : T_X8_readOr_0 f_X8_readAnd f_X8_readFormula f_X8_readOr f_X8_readUnit v0 σ = some z) (k : s_K G (d + 8) M_X8_readOr vs0 σ0 Y_X8_readOr e_I z r) : s_V G (d + 8) M_X8_readOr vs0 σ0 Y_X8_readOr (0, [.ref v0], σ) (e_I r) := by
  have le0 : s_le σ (e_I r).2 := s_lek hem_I (l_X8_readOr_0 f_X8_readAnd f_X8_readFormula f_X8_readOr f_X8_readUnit lG_X8_readAnd lG_X8_readFormula lG_X8_readOr lG_X8_readUnit hf) k
  refine ⟨le0, ?_⟩
  intro p e s m below meth c H locs cells slots ls X I hn1 hn2 hl
  have hn : cells + σ0.2.1 ≤ σ.2.1 ∧ slots + σ0.2.2.1 ≤ σ.2.2.1 := ⟨hn1, hn2⟩
  have hl : lv_has ls 2 [(0, .ref v0)] := hl
  have hx := X.1
  have hb : c.code = cX8_readOr := X.2.1
  have hown : s.vm.findClass RX8 = some m.cls := X.2.2.2.2.2.1
  have hts := X.2.2.2.2.2.2.1
  refine W.eq (g2 := F0 m 0 ls []) rfl ?_
  unfold T_X8_readOr_0 at hf
  obtain ⟨x1, h1, hf⟩ := s_bind hf
  obtain ⟨x2, h2, hf⟩ := s_bind hf
  obtain ⟨q3, h3, hf⟩ := s_bind hf
  have le4 : s_le q3.2 (e_I r).2 := by
    refine s_lek hem_I ?_ k
    rcases s_ite hf with ⟨-, hf⟩ | ⟨-, hf⟩
    · cases hf
      exact s_le.rf
    · cases hf
      exact s_le.rf
  refine lv_aload_n hx hb dX8_readOr_0 rfl (lv_at hl 0 rfl) ?_
  refine r_gr X I fl_X8_20 h1 dX8_readOr_1 ?_
  refine lv_bipush (v := 70) hx hb dX8_readOr_4 (by decide) ?_
  refine r_iald X I h2 dX8_readOr_6 ?_
  refine lv_istore_n (lv' := [(1, .int x2), (0, .ref v0)]) hx hb dX8_readOr_7 rfl hl (by decide) rfl (fun ls hl => ?_)
  refine lv_aload_n hx hb dX8_readOr_8 rfl (lv_at hl 1 rfl) ?_
  refine r_callV (Y := M_X8_readAnd) (v := some (.int q3.1)) X I w_1841 my_X8_readAnd (by omega) (hG_X8_readAnd h3).1 (hG_X8_readAnd h3).2 rfl rfl hl.1 rfl (Nat.le_of_ble_eq_true rfl) hn le4 dX8_readOr_9 (fun H locs cells slots I hn1 hn2 => ?_)
  have I : s_I G q3.2 s H locs := I
  have hn : cells + σ0.2.1 ≤ q3.2.2.1 ∧ slots + σ0.2.2.1 ≤ q3.2.2.2.1 := ⟨hn1, hn2⟩
  rcases s_ite hf with ⟨c5, hf⟩ | ⟨c5, hf⟩
  · refine lv_if_ne (tgt := 17) hx hb dX8_readOr_12 (by decide) (fun n => absurd c5 n) (fun _ => ?_)
    cases hf
    have k : _ = r := k
    subst k
    refine lv_iconst (v := 0) hx hb dX8_readOr_15 (by decide) ?_
    exact r_iret X I rfl rfl rfl hn dX8_readOr_16
  · refine lv_if_ne (tgt := 17) hx hb dX8_readOr_12 (by decide) (fun _ => ?_) (fun n => absurd n c5)
    cases hf
    have k : s_V G (d + 8) M_X8_readOr vs0 σ0 Y_X8_readOr (17, [.ref v0, .int x2], q3.2) (e_I r) := k
    exact k.2 p e s m below meth c _ _ _ _ _ X I hn.1 hn.2 (lv_sub hl [1, 0] rfl)
set_option maxRecDepth 100000 in
set_option maxHeartbeats 4000000 in
theorem v_X8_readOr_17 (f_X8_readAnd : Nat → sS → Option (Int32 × sS)) (f_X8_readFormula : Nat → sS → Option (Int32 × sS)) (f_X8_readOr : Nat → sS → Option (Int32 × sS)) (f_X8_readUnit : Nat → sS → Option (Int32 × sS)) {G : sG} {d : Nat} (lG_X8_readAnd : ∀ {y0 : Nat} {σ : sS} {q : Int32 × sS}, f_X8_readAnd y0 σ = some q → s_le σ q.2) (lG_X8_readFormula : ∀ {y0 : Nat} {σ : sS} {q : Int32 × sS}, f_X8_readFormula y0 σ = some q → s_le σ q.2) (lG_X8_readOr : ∀ {y0 : Nat} {σ : sS} {q : Int32 × sS}, f_X8_readOr y0 σ = some q → s_le σ q.2) (lG_X8_readUnit : ∀ {y0 : Nat} {σ : sS} {q : Int32 × sS}, f_X8_readUnit y0 σ = some q → s_le σ q.2) (hG_X8_readAnd : ∀ {y0 : Nat} {σ : sS} {q : Int32 × sS}, f_X8_readAnd y0 σ = some q → s_T G (d + 7) M_X8_readAnd [.ref y0] σ (e_I q) ∧ ∃ fs, σ.1 y0 = some (.inr (8, fs))) (hG_X8_readFormula : ∀ {y0 : Nat} {σ : sS} {q : Int32 × sS}, f_X8_readFormula y0 σ = some q → s_T G (d + 7) M_X8_readFormula [.ref y0] σ (e_I q) ∧ ∃ fs, σ.1 y0 = some (.inr (8, fs))) (hG_X8_readOr : ∀ {y0 : Nat} {σ : sS} {q : Int32 × sS}, f_X8_readOr y0 σ = some q → s_T G (d + 7) M_X8_readOr [.ref y0] σ (e_I q) ∧ ∃ fs, σ.1 y0 = some (.inr (8, fs))) (hG_X8_readUnit : ∀ {y0 : Nat} {σ : sS} {q : Int32 × sS}, f_X8_readUnit y0 σ = some q → s_T G (d + 7) M_X8_readUnit [.ref y0] σ (e_I q) ∧ ∃ fs, σ.1 y0 = some (.inr (8, fs))) {vs0 : List Value} {σ0 : sS} {v0 : Nat} {v1 : Int32} {σ : sS} {z : sZ Int32} {r : Int32 × sS} (hf : T_X8_readOr_17 f_X8_readAnd f_X8_readFormula f_X8_readOr f_X8_readUnit v0 v1 σ = some z) (k : s_K G (d + 8) M_X8_readOr vs0 σ0 Y_X8_readOr e_I z r) : s_V G (d + 8) M_X8_readOr vs0 σ0 Y_X8_readOr (17, [.ref v0, .int v1], σ) (e_I r) := by
  have le0 : s_le σ (e_I r).2 := s_lek hem_I (l_X8_readOr_17 f_X8_readAnd f_X8_readFormula f_X8_readOr f_X8_readUnit lG_X8_readAnd lG_X8_readFormula lG_X8_readOr lG_X8_readUnit hf) k
  refine ⟨le0, ?_⟩
  intro p e s m below meth c H locs cells slots ls X I hn1 hn2 hl
  have hn : cells + σ0.2.1 ≤ σ.2.1 ∧ slots + σ0.2.2.1 ≤ σ.2.2.1 := ⟨hn1, hn2⟩
  have hl : lv_has ls 2 [(0, .ref v0), (1, .int v1)] := hl
  have hx := X.1
  have hb : c.code = cX8_readOr := X.2.1
  have hown : s.vm.findClass RX8 = some m.cls := X.2.2.2.2.2.1
  have hts := X.2.2.2.2.2.2.1
  refine W.eq (g2 := F0 m 17 ls []) rfl ?_
  unfold T_X8_readOr_17 at hf
  obtain ⟨q1, h1, hf⟩ := s_bind hf
  have le2 : s_le q1.2 (e_I r).2 := by
    refine s_lek hem_I ?_ k
    rcases s_ite hf with ⟨-, hf⟩ | ⟨-, hf⟩
    · cases hf
      exact s_le.rf
    · obtain ⟨q2, hh, hf⟩ := s_bind hf
      refine s_lz.tr (l_X8_counts hh) ?_
      rcases s_ite hf with ⟨-, hf⟩ | ⟨-, hf⟩
      · cases hf
        exact s_le.rf
      · obtain ⟨q3, hh, hf⟩ := s_bind hf
        refine s_lz.tr (lG_X8_readAnd hh) ?_
        rcases s_ite hf with ⟨-, hf⟩ | ⟨-, hf⟩
        · cases hf
          exact s_le.rf
        · obtain ⟨q4, hh, hf⟩ := s_bind hf
          refine s_lz.tr (l_X8_joins hh) ?_
          cases hf
          exact s_le.rf
  refine lv_aload_n hx hb dX8_readOr_17 rfl (lv_at hl 0 rfl) ?_
  refine lv_bipush (v := 124) hx hb dX8_readOr_18 (by decide) ?_
  refine r_callV (Y := M_X8_has) (v := some (.int q1.1)) X I w_1849 my_X8_has (by omega) (t_X8_has (G := G) (d := d + 4) h1) (b_X8_has h1) rfl rfl hl.1 rfl (Nat.le_of_ble_eq_true rfl) hn le2 dX8_readOr_20 (fun H locs cells slots I hn1 hn2 => ?_)
  have I : s_I G q1.2 s H locs := I
  have hn : cells + σ0.2.1 ≤ q1.2.2.1 ∧ slots + σ0.2.2.1 ≤ q1.2.2.2.1 := ⟨hn1, hn2⟩
  rcases s_ite hf with ⟨c3, hf⟩ | ⟨c3, hf⟩
  · refine lv_if_eq (tgt := 52) hx hb dX8_readOr_23 (by decide) (fun _ => ?_) (fun n => absurd c3 n)
    cases hf
    have k : _ = r := k
    subst k
    refine lv_iconst (v := 1) hx hb dX8_readOr_52 (by decide) ?_
    exact r_iret X I rfl rfl rfl hn dX8_readOr_53
  · refine lv_if_eq (tgt := 52) hx hb dX8_readOr_23 (by decide) (fun n => absurd n c3) (fun _ => ?_)
    obtain ⟨q2, h4, hf⟩ := s_bind hf
    have le5 : s_le q2.2 (e_I r).2 := by
      refine s_lek hem_I ?_ k
      rcases s_ite hf with ⟨-, hf⟩ | ⟨-, hf⟩
      · cases hf
        exact s_le.rf
      · obtain ⟨q3, hh, hf⟩ := s_bind hf
        refine s_lz.tr (lG_X8_readAnd hh) ?_
        rcases s_ite hf with ⟨-, hf⟩ | ⟨-, hf⟩
        · cases hf
          exact s_le.rf
        · obtain ⟨q4, hh, hf⟩ := s_bind hf
          refine s_lz.tr (l_X8_joins hh) ?_
          cases hf
          exact s_le.rf
    refine lv_aload_n hx hb dX8_readOr_26 rfl (lv_at hl 0 rfl) ?_
    refine r_callV (Y := M_X8_counts) (v := some (.int q2.1)) X I w_1869 my_X8_counts (by omega) (t_X8_counts (G := G) (d := d + 6) h4) (b_X8_counts h4) rfl rfl hl.1 rfl (Nat.le_of_ble_eq_true rfl) hn le5 dX8_readOr_27 (fun H locs cells slots I hn1 hn2 => ?_)
    have I : s_I G q2.2 s H locs := I
    have hn : cells + σ0.2.1 ≤ q2.2.2.1 ∧ slots + σ0.2.2.1 ≤ q2.2.2.2.1 := ⟨hn1, hn2⟩
    rcases s_ite hf with ⟨c6, hf⟩ | ⟨c6, hf⟩
    · refine lv_if_eq (tgt := 40) hx hb dX8_readOr_30 (by decide) (fun _ => ?_) (fun n => absurd c6 n)
      cases hf
      have k : _ = r := k
      subst k
      refine lv_iconst (v := 0) hx hb dX8_readOr_40 (by decide) ?_
      exact r_iret X I rfl rfl rfl hn dX8_readOr_41
    · refine lv_if_eq (tgt := 40) hx hb dX8_readOr_30 (by decide) (fun n => absurd n c6) (fun _ => ?_)
      obtain ⟨q3, h7, hf⟩ := s_bind hf
      have le8 : s_le q3.2 (e_I r).2 := by
        refine s_lek hem_I ?_ k
        rcases s_ite hf with ⟨-, hf⟩ | ⟨-, hf⟩
        · cases hf
          exact s_le.rf
        · obtain ⟨q4, hh, hf⟩ := s_bind hf
          refine s_lz.tr (l_X8_joins hh) ?_
          cases hf
          exact s_le.rf
      refine lv_aload_n hx hb dX8_readOr_33 rfl (lv_at hl 0 rfl) ?_
      refine r_callV (Y := M_X8_readAnd) (v := some (.int q3.1)) X I w_1841 my_X8_readAnd (by omega) (hG_X8_readAnd h7).1 (hG_X8_readAnd h7).2 rfl rfl hl.1 rfl (Nat.le_of_ble_eq_true rfl) hn le8 dX8_readOr_34 (fun H locs cells slots I hn1 hn2 => ?_)
      have I : s_I G q3.2 s H locs := I
      have hn : cells + σ0.2.1 ≤ q3.2.2.1 ∧ slots + σ0.2.2.1 ≤ q3.2.2.2.1 := ⟨hn1, hn2⟩
      rcases s_ite hf with ⟨c9, hf⟩ | ⟨c9, hf⟩
      · refine lv_if_ne (tgt := 42) hx hb dX8_readOr_37 (by decide) (fun n => absurd c9 n) (fun _ => ?_)
        cases hf
        have k : _ = r := k
        subst k
        refine lv_iconst (v := 0) hx hb dX8_readOr_40 (by decide) ?_
        exact r_iret X I rfl rfl rfl hn dX8_readOr_41
      · refine lv_if_ne (tgt := 42) hx hb dX8_readOr_37 (by decide) (fun _ => ?_) (fun n => absurd n c9)
        obtain ⟨q4, h10, hf⟩ := s_bind hf
        cases hf
        have k : s_V G (d + 8) M_X8_readOr vs0 σ0 Y_X8_readOr (17, [.ref v0, .int v1], q4.2) (e_I r) := k
        have le11 : s_le q4.2 (e_I r).2 := k.1
        refine lv_aload_n hx hb dX8_readOr_42 rfl (lv_at hl 0 rfl) ?_
        refine lv_iload_n hx hb dX8_readOr_43 rfl (lv_at hl 1 rfl) ?_
        refine lv_bipush (v := 14) hx hb dX8_readOr_44 (by decide) ?_
        refine r_callV (Y := M_X8_joins) (v := none) X I w_1893 my_X8_joins (by omega) (t_X8_joins (G := G) (d := d + 6) h10) (b_X8_joins h10) rfl rfl hl.1 rfl (Nat.le_of_ble_eq_true rfl) hn le11 dX8_readOr_46 (fun H locs cells slots I hn1 hn2 => ?_)
        have I : s_I G q4.2 s H locs := I
        have hn : cells + σ0.2.1 ≤ q4.2.2.1 ∧ slots + σ0.2.2.1 ≤ q4.2.2.2.1 := ⟨hn1, hn2⟩
        refine lv_goto (tgt := 17) hx hb dX8_readOr_49 (by decide) ?_
        exact k.2 p e s m below meth c _ _ _ _ _ X I hn.1 hn.2 (lv_sub hl [0, 1] rfl)
theorem v_X8_readOr (f_X8_readAnd : Nat → sS → Option (Int32 × sS)) (f_X8_readFormula : Nat → sS → Option (Int32 × sS)) (f_X8_readOr : Nat → sS → Option (Int32 × sS)) (f_X8_readUnit : Nat → sS → Option (Int32 × sS)) {G : sG} {d : Nat} (lG_X8_readAnd : ∀ {y0 : Nat} {σ : sS} {q : Int32 × sS}, f_X8_readAnd y0 σ = some q → s_le σ q.2) (lG_X8_readFormula : ∀ {y0 : Nat} {σ : sS} {q : Int32 × sS}, f_X8_readFormula y0 σ = some q → s_le σ q.2) (lG_X8_readOr : ∀ {y0 : Nat} {σ : sS} {q : Int32 × sS}, f_X8_readOr y0 σ = some q → s_le σ q.2) (lG_X8_readUnit : ∀ {y0 : Nat} {σ : sS} {q : Int32 × sS}, f_X8_readUnit y0 σ = some q → s_le σ q.2) (hG_X8_readAnd : ∀ {y0 : Nat} {σ : sS} {q : Int32 × sS}, f_X8_readAnd y0 σ = some q → s_T G (d + 7) M_X8_readAnd [.ref y0] σ (e_I q) ∧ ∃ fs, σ.1 y0 = some (.inr (8, fs))) (hG_X8_readFormula : ∀ {y0 : Nat} {σ : sS} {q : Int32 × sS}, f_X8_readFormula y0 σ = some q → s_T G (d + 7) M_X8_readFormula [.ref y0] σ (e_I q) ∧ ∃ fs, σ.1 y0 = some (.inr (8, fs))) (hG_X8_readOr : ∀ {y0 : Nat} {σ : sS} {q : Int32 × sS}, f_X8_readOr y0 σ = some q → s_T G (d + 7) M_X8_readOr [.ref y0] σ (e_I q) ∧ ∃ fs, σ.1 y0 = some (.inr (8, fs))) (hG_X8_readUnit : ∀ {y0 : Nat} {σ : sS} {q : Int32 × sS}, f_X8_readUnit y0 σ = some q → s_T G (d + 7) M_X8_readUnit [.ref y0] σ (e_I q) ∧ ∃ fs, σ.1 y0 = some (.inr (8, fs))) {vs0 : List Value} {σ0 : sS} {x : sL} {z : sZ Int32} {r : Int32 × sS} (hs : S_X8_readOr f_X8_readAnd f_X8_readFormula f_X8_readOr f_X8_readUnit x = some z) (k : s_K G (d + 8) M_X8_readOr vs0 σ0 Y_X8_readOr e_I z r) : s_V G (d + 8) M_X8_readOr vs0 σ0 Y_X8_readOr x (e_I r) := by
  obtain ⟨pc, vs, σ⟩ := x
  unfold S_X8_readOr at hs
  dsimp only at hs
  rcases s_ite hs with ⟨c, hs⟩ | ⟨-, hs⟩
  · subst c
    unfold U_X8_readOr_0 at hs
    obtain ⟨a0, g0, hs⟩ := s_bind hs
    obtain ⟨u9, ge, hs⟩ := s_bind hs
    rw [g_r_to g0, g_e_to ge]
    exact v_X8_readOr_0 f_X8_readAnd f_X8_readFormula f_X8_readOr f_X8_readUnit lG_X8_readAnd lG_X8_readFormula lG_X8_readOr lG_X8_readUnit hG_X8_readAnd hG_X8_readFormula hG_X8_readOr hG_X8_readUnit hs k
  rcases s_ite hs with ⟨c, hs⟩ | ⟨-, hs⟩
  · subst c
    unfold U_X8_readOr_17 at hs
    obtain ⟨a0, g0, hs⟩ := s_bind hs
    obtain ⟨a1, g1, hs⟩ := s_bind hs
    obtain ⟨u9, ge, hs⟩ := s_bind hs
    rw [g_r_to g0, g_i_to g1, g_e_to ge]
    exact v_X8_readOr_17 f_X8_readAnd f_X8_readFormula f_X8_readOr f_X8_readUnit lG_X8_readAnd lG_X8_readFormula lG_X8_readOr lG_X8_readUnit hG_X8_readAnd hG_X8_readFormula hG_X8_readOr hG_X8_readUnit hs k
  cases hs
theorem l_X8_readUnit_0 (f_X8_readAnd : Nat → sS → Option (Int32 × sS)) (f_X8_readFormula : Nat → sS → Option (Int32 × sS)) (f_X8_readOr : Nat → sS → Option (Int32 × sS)) (f_X8_readUnit : Nat → sS → Option (Int32 × sS)) (lG_X8_readAnd : ∀ {y0 : Nat} {σ : sS} {q : Int32 × sS}, f_X8_readAnd y0 σ = some q → s_le σ q.2) (lG_X8_readFormula : ∀ {y0 : Nat} {σ : sS} {q : Int32 × sS}, f_X8_readFormula y0 σ = some q → s_le σ q.2) (lG_X8_readOr : ∀ {y0 : Nat} {σ : sS} {q : Int32 × sS}, f_X8_readOr y0 σ = some q → s_le σ q.2) (lG_X8_readUnit : ∀ {y0 : Nat} {σ : sS} {q : Int32 × sS}, f_X8_readUnit y0 σ = some q → s_le σ q.2) {v0 : Nat} {σ : sS} {z : sZ Int32} (hf : T_X8_readUnit_0 f_X8_readAnd f_X8_readFormula f_X8_readOr f_X8_readUnit v0 σ = some z) : s_lz σ z := by
  unfold T_X8_readUnit_0 at hf
  obtain ⟨q1, hh, hf⟩ := s_bind hf
  refine s_lz.tr (l_X8_has hh) ?_
  rcases s_ite hf with ⟨-, hf⟩ | ⟨-, hf⟩
  · obtain ⟨q2, hh, hf⟩ := s_bind hf
    refine s_lz.tr (l_X8_has hh) ?_
    rcases s_ite hf with ⟨-, hf⟩ | ⟨-, hf⟩
    · obtain ⟨q3, hh, hf⟩ := s_bind hf
      refine s_lz.tr (l_X8_letters hh) ?_
      obtain ⟨q4, hh, hf⟩ := s_bind hf
      refine s_lz.tr (l_X8_isWord hh) ?_
      rcases s_ite hf with ⟨-, hf⟩ | ⟨-, hf⟩
      · obtain ⟨q5, hh, hf⟩ := s_bind hf
        refine s_lz.tr (l_X8_isWord hh) ?_
        rcases s_ite hf with ⟨-, hf⟩ | ⟨-, hf⟩
        · obtain ⟨q6, hh, hf⟩ := s_bind hf
          refine s_lz.tr (l_X8_readAtom hh) ?_
          rcases s_ite hf with ⟨-, hf⟩ | ⟨-, hf⟩
          · cases hf
            exact s_le.rf
          · cases hf
        · cases hf
          exact s_le.rf
      · cases hf
        exact s_le.rf
    · obtain ⟨q7, hh, hf⟩ := s_bind hf
      refine s_lz.tr (l_X8_deeper hh) ?_
      rcases s_ite hf with ⟨-, hf⟩ | ⟨-, hf⟩
      · cases hf
        exact s_le.rf
      · obtain ⟨q8, hh, hf⟩ := s_bind hf
        refine s_lz.tr (lG_X8_readFormula hh) ?_
        rcases s_ite hf with ⟨-, hf⟩ | ⟨-, hf⟩
        · cases hf
          exact s_le.rf
        · obtain ⟨x9, -, hf⟩ := s_bind hf
          obtain ⟨σ10, hh, hf⟩ := s_bind hf
          refine s_lz.tr (s_le2 (s_pf_2 hh)) ?_
          obtain ⟨q11, hh, hf⟩ := s_bind hf
          refine s_lz.tr (l_X8_has hh) ?_
          rcases s_ite hf with ⟨-, hf⟩ | ⟨-, hf⟩
          · cases hf
            exact s_le.rf
          · cases hf
  · obtain ⟨q12, hh, hf⟩ := s_bind hf
    refine s_lz.tr (l_X8_deeper hh) ?_
    rcases s_ite hf with ⟨-, hf⟩ | ⟨-, hf⟩
    · cases hf
      exact s_le.rf
    · obtain ⟨q13, hh, hf⟩ := s_bind hf
      refine s_lz.tr (l_X8_puts hh) ?_
      rcases s_ite hf with ⟨-, hf⟩ | ⟨-, hf⟩
      · cases hf
        exact s_le.rf
      · obtain ⟨q14, hh, hf⟩ := s_bind hf
        refine s_lz.tr (lG_X8_readUnit hh) ?_
        rcases s_ite hf with ⟨-, hf⟩ | ⟨-, hf⟩
        · cases hf
          exact s_le.rf
        · obtain ⟨x15, -, hf⟩ := s_bind hf
          obtain ⟨σ16, hh, hf⟩ := s_bind hf
          refine s_lz.tr (s_le2 (s_pf_2 hh)) ?_
          cases hf
          exact s_le.rf
theorem l_X8_readUnit_117 (f_X8_readAnd : Nat → sS → Option (Int32 × sS)) (f_X8_readFormula : Nat → sS → Option (Int32 × sS)) (f_X8_readOr : Nat → sS → Option (Int32 × sS)) (f_X8_readUnit : Nat → sS → Option (Int32 × sS)) (lG_X8_readAnd : ∀ {y0 : Nat} {σ : sS} {q : Int32 × sS}, f_X8_readAnd y0 σ = some q → s_le σ q.2) (lG_X8_readFormula : ∀ {y0 : Nat} {σ : sS} {q : Int32 × sS}, f_X8_readFormula y0 σ = some q → s_le σ q.2) (lG_X8_readOr : ∀ {y0 : Nat} {σ : sS} {q : Int32 × sS}, f_X8_readOr y0 σ = some q → s_le σ q.2) (lG_X8_readUnit : ∀ {y0 : Nat} {σ : sS} {q : Int32 × sS}, f_X8_readUnit y0 σ = some q → s_le σ q.2) {v0 : Nat} {v1 : Int32} {σ : sS} {z : sZ Int32} (hf : T_X8_readUnit_117 f_X8_readAnd f_X8_readFormula f_X8_readOr f_X8_readUnit v0 v1 σ = some z) : s_lz σ z := by
  unfold T_X8_readUnit_117 at hf
  obtain ⟨x1, -, hf⟩ := s_bind hf
  rcases s_ite hf with ⟨-, hf⟩ | ⟨-, hf⟩
  · obtain ⟨q2, hh, hf⟩ := s_bind hf
    refine s_lz.tr (l_X8_deeper hh) ?_
    rcases s_ite hf with ⟨-, hf⟩ | ⟨-, hf⟩
    · cases hf
      exact s_le.rf
    · rcases s_ite hf with ⟨-, hf⟩ | ⟨-, hf⟩
      · cases hf
        exact s_le.rf
      · cases hf
        exact s_le.rf
  · cases hf
    exact s_le.rf
theorem l_X8_readUnit_143 (f_X8_readAnd : Nat → sS → Option (Int32 × sS)) (f_X8_readFormula : Nat → sS → Option (Int32 × sS)) (f_X8_readOr : Nat → sS → Option (Int32 × sS)) (f_X8_readUnit : Nat → sS → Option (Int32 × sS)) (lG_X8_readAnd : ∀ {y0 : Nat} {σ : sS} {q : Int32 × sS}, f_X8_readAnd y0 σ = some q → s_le σ q.2) (lG_X8_readFormula : ∀ {y0 : Nat} {σ : sS} {q : Int32 × sS}, f_X8_readFormula y0 σ = some q → s_le σ q.2) (lG_X8_readOr : ∀ {y0 : Nat} {σ : sS} {q : Int32 × sS}, f_X8_readOr y0 σ = some q → s_le σ q.2) (lG_X8_readUnit : ∀ {y0 : Nat} {σ : sS} {q : Int32 × sS}, f_X8_readUnit y0 σ = some q → s_le σ q.2) {v0 : Nat} {w0 : Int32} {w1 : Nat} {σ : sS} {z : sZ Int32} (hf : T_X8_readUnit_143 f_X8_readAnd f_X8_readFormula f_X8_readOr f_X8_readUnit v0 w0 w1 σ = some z) : s_lz σ z := by
  unfold T_X8_readUnit_143 at hf
  obtain ⟨q1, hh, hf⟩ := s_bind hf
  refine s_lz.tr (l_X8_puts hh) ?_
  rcases s_ite hf with ⟨-, hf⟩ | ⟨-, hf⟩
  · cases hf
    exact s_le.rf
  · obtain ⟨σ2, hh, hf⟩ := s_bind hf
    refine s_lz.tr (s_le2 (s_pf_2 hh)) ?_
    obtain ⟨q3, hh, hf⟩ := s_bind hf
    refine s_lz.tr (lG_X8_readUnit hh) ?_
    rcases s_ite hf with ⟨-, hf⟩ | ⟨-, hf⟩
    · cases hf
      exact s_le.rf
    · obtain ⟨σ4, hh, hf⟩ := s_bind hf
      refine s_lz.tr (s_le2 (s_pf_2 hh)) ?_
      obtain ⟨x5, -, hf⟩ := s_bind hf
      obtain ⟨σ6, hh, hf⟩ := s_bind hf
      refine s_lz.tr (s_le2 (s_pf_2 hh)) ?_
      cases hf
      exact s_le.rf
theorem l_X8_readUnit_s (f_X8_readAnd : Nat → sS → Option (Int32 × sS)) (f_X8_readFormula : Nat → sS → Option (Int32 × sS)) (f_X8_readOr : Nat → sS → Option (Int32 × sS)) (f_X8_readUnit : Nat → sS → Option (Int32 × sS)) (lG_X8_readAnd : ∀ {y0 : Nat} {σ : sS} {q : Int32 × sS}, f_X8_readAnd y0 σ = some q → s_le σ q.2) (lG_X8_readFormula : ∀ {y0 : Nat} {σ : sS} {q : Int32 × sS}, f_X8_readFormula y0 σ = some q → s_le σ q.2) (lG_X8_readOr : ∀ {y0 : Nat} {σ : sS} {q : Int32 × sS}, f_X8_readOr y0 σ = some q → s_le σ q.2) (lG_X8_readUnit : ∀ {y0 : Nat} {σ : sS} {q : Int32 × sS}, f_X8_readUnit y0 σ = some q → s_le σ q.2) {x : sL} {z : sZ Int32} (hs : S_X8_readUnit f_X8_readAnd f_X8_readFormula f_X8_readOr f_X8_readUnit x = some z) : s_lz x.2.2 z := by
  obtain ⟨pc, vs, σ⟩ := x
  unfold S_X8_readUnit at hs
  dsimp only at hs ⊢
  rcases s_ite hs with ⟨c, hs⟩ | ⟨-, hs⟩
  · subst c
    unfold U_X8_readUnit_0 at hs
    obtain ⟨a0, g0, hs⟩ := s_bind hs
    obtain ⟨u9, ge, hs⟩ := s_bind hs
    exact l_X8_readUnit_0 f_X8_readAnd f_X8_readFormula f_X8_readOr f_X8_readUnit lG_X8_readAnd lG_X8_readFormula lG_X8_readOr lG_X8_readUnit hs
  rcases s_ite hs with ⟨c, hs⟩ | ⟨-, hs⟩
  · subst c
    unfold U_X8_readUnit_117 at hs
    obtain ⟨a0, g0, hs⟩ := s_bind hs
    obtain ⟨a1, g1, hs⟩ := s_bind hs
    obtain ⟨u9, ge, hs⟩ := s_bind hs
    exact l_X8_readUnit_117 f_X8_readAnd f_X8_readFormula f_X8_readOr f_X8_readUnit lG_X8_readAnd lG_X8_readFormula lG_X8_readOr lG_X8_readUnit hs
  rcases s_ite hs with ⟨c, hs⟩ | ⟨-, hs⟩
  · subst c
    unfold U_X8_readUnit_143 at hs
    obtain ⟨a0, g0, hs⟩ := s_bind hs
    obtain ⟨a1, g1, hs⟩ := s_bind hs
    obtain ⟨a2, g2, hs⟩ := s_bind hs
    obtain ⟨u9, ge, hs⟩ := s_bind hs
    exact l_X8_readUnit_143 f_X8_readAnd f_X8_readFormula f_X8_readOr f_X8_readUnit lG_X8_readAnd lG_X8_readFormula lG_X8_readOr lG_X8_readUnit hs
  cases hs
set_option maxRecDepth 100000 in
set_option maxHeartbeats 4000000 in
theorem v_X8_readUnit_0 (f_X8_readAnd : Nat → sS → Option (Int32 × sS)) (f_X8_readFormula : Nat → sS → Option (Int32 × sS)) (f_X8_readOr : Nat → sS → Option (Int32 × sS)) (f_X8_readUnit : Nat → sS → Option (Int32 × sS)) {G : sG} {d : Nat} (lG_X8_readAnd : ∀ {y0 : Nat} {σ : sS} {q : Int32 × sS}, f_X8_readAnd y0 σ = some q → s_le σ q.2) (lG_X8_readFormula : ∀ {y0 : Nat} {σ : sS} {q : Int32 × sS}, f_X8_readFormula y0 σ = some q → s_le σ q.2) (lG_X8_readOr : ∀ {y0 : Nat} {σ : sS} {q : Int32 × sS}, f_X8_readOr y0 σ = some q → s_le σ q.2) (lG_X8_readUnit : ∀ {y0 : Nat} {σ : sS} {q : Int32 × sS}, f_X8_readUnit y0 σ = some q → s_le σ q.2) (hG_X8_readAnd : ∀ {y0 : Nat} {σ : sS} {q : Int32 × sS}, f_X8_readAnd y0 σ = some q → s_T G (d + 7) M_X8_readAnd [.ref y0] σ (e_I q) ∧ ∃ fs, σ.1 y0 = some (.inr (8, fs))) (hG_X8_readFormula : ∀ {y0 : Nat} {σ : sS} {q : Int32 × sS}, f_X8_readFormula y0 σ = some q → s_T G (d + 7) M_X8_readFormula [.ref y0] σ (e_I q) ∧ ∃ fs, σ.1 y0 = some (.inr (8, fs))) (hG_X8_readOr : ∀ {y0 : Nat} {σ : sS} {q : Int32 × sS}, f_X8_readOr y0 σ = some q → s_T G (d + 7) M_X8_readOr [.ref y0] σ (e_I q) ∧ ∃ fs, σ.1 y0 = some (.inr (8, fs))) (hG_X8_readUnit : ∀ {y0 : Nat} {σ : sS} {q : Int32 × sS}, f_X8_readUnit y0 σ = some q → s_T G (d + 7) M_X8_readUnit [.ref y0] σ (e_I q) ∧ ∃ fs, σ.1 y0 = some (.inr (8, fs))) {vs0 : List Value} {σ0 : sS} {v0 : Nat} {σ : sS} {z : sZ Int32} {r : Int32 × sS} (hf : T_X8_readUnit_0 f_X8_readAnd f_X8_readFormula f_X8_readOr f_X8_readUnit v0 σ = some z) (k : s_K G (d + 8) M_X8_readUnit vs0 σ0 Y_X8_readUnit e_I z r) : s_V G (d + 8) M_X8_readUnit vs0 σ0 Y_X8_readUnit (0, [.ref v0], σ) (e_I r) := by
  have le0 : s_le σ (e_I r).2 := s_lek hem_I (l_X8_readUnit_0 f_X8_readAnd f_X8_readFormula f_X8_readOr f_X8_readUnit lG_X8_readAnd lG_X8_readFormula lG_X8_readOr lG_X8_readUnit hf) k
  refine ⟨le0, ?_⟩
  intro p e s m below meth c H locs cells slots ls X I hn1 hn2 hl
  have hn : cells + σ0.2.1 ≤ σ.2.1 ∧ slots + σ0.2.2.1 ≤ σ.2.2.1 := ⟨hn1, hn2⟩
  have hl : lv_has ls 2 [(0, .ref v0)] := hl
  have hx := X.1
  have hb : c.code = cX8_readUnit := X.2.1
  have hown : s.vm.findClass RX8 = some m.cls := X.2.2.2.2.2.1
  have hts := X.2.2.2.2.2.2.1
  refine W.eq (g2 := F0 m 0 ls []) rfl ?_
  unfold T_X8_readUnit_0 at hf
  obtain ⟨q1, h1, hf⟩ := s_bind hf
  have le2 : s_le q1.2 (e_I r).2 := by
    refine s_lek hem_I ?_ k
    rcases s_ite hf with ⟨-, hf⟩ | ⟨-, hf⟩
    · obtain ⟨q2, hh, hf⟩ := s_bind hf
      refine s_lz.tr (l_X8_has hh) ?_
      rcases s_ite hf with ⟨-, hf⟩ | ⟨-, hf⟩
      · obtain ⟨q3, hh, hf⟩ := s_bind hf
        refine s_lz.tr (l_X8_letters hh) ?_
        obtain ⟨q4, hh, hf⟩ := s_bind hf
        refine s_lz.tr (l_X8_isWord hh) ?_
        rcases s_ite hf with ⟨-, hf⟩ | ⟨-, hf⟩
        · obtain ⟨q5, hh, hf⟩ := s_bind hf
          refine s_lz.tr (l_X8_isWord hh) ?_
          rcases s_ite hf with ⟨-, hf⟩ | ⟨-, hf⟩
          · obtain ⟨q6, hh, hf⟩ := s_bind hf
            refine s_lz.tr (l_X8_readAtom hh) ?_
            rcases s_ite hf with ⟨-, hf⟩ | ⟨-, hf⟩
            · cases hf
              exact s_le.rf
            · cases hf
          · cases hf
            exact s_le.rf
        · cases hf
          exact s_le.rf
      · obtain ⟨q7, hh, hf⟩ := s_bind hf
        refine s_lz.tr (l_X8_deeper hh) ?_
        rcases s_ite hf with ⟨-, hf⟩ | ⟨-, hf⟩
        · cases hf
          exact s_le.rf
        · obtain ⟨q8, hh, hf⟩ := s_bind hf
          refine s_lz.tr (lG_X8_readFormula hh) ?_
          rcases s_ite hf with ⟨-, hf⟩ | ⟨-, hf⟩
          · cases hf
            exact s_le.rf
          · obtain ⟨x9, -, hf⟩ := s_bind hf
            obtain ⟨σ10, hh, hf⟩ := s_bind hf
            refine s_lz.tr (s_le2 (s_pf_2 hh)) ?_
            obtain ⟨q11, hh, hf⟩ := s_bind hf
            refine s_lz.tr (l_X8_has hh) ?_
            rcases s_ite hf with ⟨-, hf⟩ | ⟨-, hf⟩
            · cases hf
              exact s_le.rf
            · cases hf
    · obtain ⟨q12, hh, hf⟩ := s_bind hf
      refine s_lz.tr (l_X8_deeper hh) ?_
      rcases s_ite hf with ⟨-, hf⟩ | ⟨-, hf⟩
      · cases hf
        exact s_le.rf
      · obtain ⟨q13, hh, hf⟩ := s_bind hf
        refine s_lz.tr (l_X8_puts hh) ?_
        rcases s_ite hf with ⟨-, hf⟩ | ⟨-, hf⟩
        · cases hf
          exact s_le.rf
        · obtain ⟨q14, hh, hf⟩ := s_bind hf
          refine s_lz.tr (lG_X8_readUnit hh) ?_
          rcases s_ite hf with ⟨-, hf⟩ | ⟨-, hf⟩
          · cases hf
            exact s_le.rf
          · obtain ⟨x15, -, hf⟩ := s_bind hf
            obtain ⟨σ16, hh, hf⟩ := s_bind hf
            refine s_lz.tr (s_le2 (s_pf_2 hh)) ?_
            cases hf
            exact s_le.rf
  refine lv_aload_n hx hb dX8_readUnit_0 rfl (lv_at hl 0 rfl) ?_
  refine lv_bipush (v := 45) hx hb dX8_readUnit_1 (by decide) ?_
  refine r_callV (Y := M_X8_has) (v := some (.int q1.1)) X I w_1849 my_X8_has (by omega) (t_X8_has (G := G) (d := d + 4) h1) (b_X8_has h1) rfl rfl hl.1 rfl (Nat.le_of_ble_eq_true rfl) hn le2 dX8_readUnit_3 (fun H locs cells slots I hn1 hn2 => ?_)
  have I : s_I G q1.2 s H locs := I
  have hn : cells + σ0.2.1 ≤ q1.2.2.1 ∧ slots + σ0.2.2.1 ≤ q1.2.2.2.1 := ⟨hn1, hn2⟩
  rcases s_ite hf with ⟨c3, hf⟩ | ⟨c3, hf⟩
  · refine lv_if_eq (tgt := 46) hx hb dX8_readUnit_6 (by decide) (fun _ => ?_) (fun n => absurd c3 n)
    obtain ⟨q2, h4, hf⟩ := s_bind hf
    have le5 : s_le q2.2 (e_I r).2 := by
      refine s_lek hem_I ?_ k
      rcases s_ite hf with ⟨-, hf⟩ | ⟨-, hf⟩
      · obtain ⟨q3, hh, hf⟩ := s_bind hf
        refine s_lz.tr (l_X8_letters hh) ?_
        obtain ⟨q4, hh, hf⟩ := s_bind hf
        refine s_lz.tr (l_X8_isWord hh) ?_
        rcases s_ite hf with ⟨-, hf⟩ | ⟨-, hf⟩
        · obtain ⟨q5, hh, hf⟩ := s_bind hf
          refine s_lz.tr (l_X8_isWord hh) ?_
          rcases s_ite hf with ⟨-, hf⟩ | ⟨-, hf⟩
          · obtain ⟨q6, hh, hf⟩ := s_bind hf
            refine s_lz.tr (l_X8_readAtom hh) ?_
            rcases s_ite hf with ⟨-, hf⟩ | ⟨-, hf⟩
            · cases hf
              exact s_le.rf
            · cases hf
          · cases hf
            exact s_le.rf
        · cases hf
          exact s_le.rf
      · obtain ⟨q7, hh, hf⟩ := s_bind hf
        refine s_lz.tr (l_X8_deeper hh) ?_
        rcases s_ite hf with ⟨-, hf⟩ | ⟨-, hf⟩
        · cases hf
          exact s_le.rf
        · obtain ⟨q8, hh, hf⟩ := s_bind hf
          refine s_lz.tr (lG_X8_readFormula hh) ?_
          rcases s_ite hf with ⟨-, hf⟩ | ⟨-, hf⟩
          · cases hf
            exact s_le.rf
          · obtain ⟨x9, -, hf⟩ := s_bind hf
            obtain ⟨σ10, hh, hf⟩ := s_bind hf
            refine s_lz.tr (s_le2 (s_pf_2 hh)) ?_
            obtain ⟨q11, hh, hf⟩ := s_bind hf
            refine s_lz.tr (l_X8_has hh) ?_
            rcases s_ite hf with ⟨-, hf⟩ | ⟨-, hf⟩
            · cases hf
              exact s_le.rf
            · cases hf
    refine lv_aload_n hx hb dX8_readUnit_46 rfl (lv_at hl 0 rfl) ?_
    refine lv_bipush (v := 40) hx hb dX8_readUnit_47 (by decide) ?_
    refine r_callV (Y := M_X8_has) (v := some (.int q2.1)) X I w_1849 my_X8_has (by omega) (t_X8_has (G := G) (d := d + 4) h4) (b_X8_has h4) rfl rfl hl.1 rfl (Nat.le_of_ble_eq_true rfl) hn le5 dX8_readUnit_49 (fun H locs cells slots I hn1 hn2 => ?_)
    have I : s_I G q2.2 s H locs := I
    have hn : cells + σ0.2.1 ≤ q2.2.2.1 ∧ slots + σ0.2.2.1 ≤ q2.2.2.2.1 := ⟨hn1, hn2⟩
    rcases s_ite hf with ⟨c6, hf⟩ | ⟨c6, hf⟩
    · refine lv_if_eq (tgt := 88) hx hb dX8_readUnit_52 (by decide) (fun _ => ?_) (fun n => absurd c6 n)
      obtain ⟨q3, h7, hf⟩ := s_bind hf
      obtain ⟨q4, h8, hf⟩ := s_bind hf
      have le9 : s_le q4.2 (e_I r).2 := by
        refine s_lek hem_I ?_ k
        rcases s_ite hf with ⟨-, hf⟩ | ⟨-, hf⟩
        · obtain ⟨q5, hh, hf⟩ := s_bind hf
          refine s_lz.tr (l_X8_isWord hh) ?_
          rcases s_ite hf with ⟨-, hf⟩ | ⟨-, hf⟩
          · obtain ⟨q6, hh, hf⟩ := s_bind hf
            refine s_lz.tr (l_X8_readAtom hh) ?_
            rcases s_ite hf with ⟨-, hf⟩ | ⟨-, hf⟩
            · cases hf
              exact s_le.rf
            · cases hf
          · cases hf
            exact s_le.rf
        · cases hf
          exact s_le.rf
      have le10 := s_le.tr (l_X8_isWord h8) le9
      refine lv_aload_n hx hb dX8_readUnit_88 rfl (lv_at hl 0 rfl) ?_
      refine r_callV (Y := M_X8_letters) (v := none) X I w_1873 my_X8_letters (by omega) (t_X8_letters (G := G) (d := d + 4) h7) (b_X8_letters h7) rfl rfl hl.1 rfl (Nat.le_of_ble_eq_true rfl) hn le10 dX8_readUnit_89 (fun H locs cells slots I hn1 hn2 => ?_)
      have I : s_I G q3.2 s H locs := I
      have hn : cells + σ0.2.1 ≤ q3.2.2.1 ∧ slots + σ0.2.2.1 ≤ q3.2.2.2.1 := ⟨hn1, hn2⟩
      refine lv_aload_n hx hb dX8_readUnit_92 rfl (lv_at hl 0 rfl) ?_
      refine r_ldcS (tx := "all") (k := 2) X I (by decide +kernel) dX8_readUnit_93 ?_
      refine r_callV (Y := M_X8_isWord) (v := some (.int q4.1)) X I w_1878 my_X8_isWord (by omega) (t_X8_isWord (G := G) (d := d + 1) h8) (b_X8_isWord h8) rfl rfl hl.1 rfl (Nat.le_of_ble_eq_true rfl) hn le9 dX8_readUnit_95 (fun H locs cells slots I hn1 hn2 => ?_)
      have I : s_I G q4.2 s H locs := I
      have hn : cells + σ0.2.1 ≤ q4.2.2.1 ∧ slots + σ0.2.2.1 ≤ q4.2.2.2.1 := ⟨hn1, hn2⟩
      refine lv_istore_n (lv' := [(1, .int q4.1), (0, .ref v0)]) hx hb dX8_readUnit_98 rfl hl (by decide) rfl (fun ls hl => ?_)
      refine lv_iload_n hx hb dX8_readUnit_99 rfl (lv_at hl 0 rfl) ?_
      rcases s_ite hf with ⟨c11, hf⟩ | ⟨c11, hf⟩
      · refine lv_if_ne (tgt := 117) hx hb dX8_readUnit_100 (by decide) (fun n => absurd c11 n) (fun _ => ?_)
        obtain ⟨q5, h12, hf⟩ := s_bind hf
        have le13 : s_le q5.2 (e_I r).2 := by
          refine s_lek hem_I ?_ k
          rcases s_ite hf with ⟨-, hf⟩ | ⟨-, hf⟩
          · obtain ⟨q6, hh, hf⟩ := s_bind hf
            refine s_lz.tr (l_X8_readAtom hh) ?_
            rcases s_ite hf with ⟨-, hf⟩ | ⟨-, hf⟩
            · cases hf
              exact s_le.rf
            · cases hf
          · cases hf
            exact s_le.rf
        refine lv_aload_n hx hb dX8_readUnit_103 rfl (lv_at hl 1 rfl) ?_
        refine r_ldcS (tx := "some") (k := 3) X I (by decide +kernel) dX8_readUnit_104 ?_
        refine r_callV (Y := M_X8_isWord) (v := some (.int q5.1)) X I w_1878 my_X8_isWord (by omega) (t_X8_isWord (G := G) (d := d + 1) h12) (b_X8_isWord h12) rfl rfl hl.1 rfl (Nat.le_of_ble_eq_true rfl) hn le13 dX8_readUnit_106 (fun H locs cells slots I hn1 hn2 => ?_)
        have I : s_I G q5.2 s H locs := I
        have hn : cells + σ0.2.1 ≤ q5.2.2.1 ∧ slots + σ0.2.2.1 ≤ q5.2.2.2.1 := ⟨hn1, hn2⟩
        rcases s_ite hf with ⟨c14, hf⟩ | ⟨c14, hf⟩
        · refine lv_if_ne (tgt := 117) hx hb dX8_readUnit_109 (by decide) (fun n => absurd c14 n) (fun _ => ?_)
          obtain ⟨q6, h15, hf⟩ := s_bind hf
          have le16 : s_le q6.2 (e_I r).2 := by
            refine s_lek hem_I ?_ k
            rcases s_ite hf with ⟨-, hf⟩ | ⟨-, hf⟩
            · cases hf
              exact s_le.rf
            · cases hf
          refine lv_aload_n hx hb dX8_readUnit_112 rfl (lv_at hl 1 rfl) ?_
          refine r_callV (Y := M_X8_readAtom) (v := some (.int q6.1)) X I w_1885 my_X8_readAtom (by omega) (t_X8_readAtom (G := G) (d := d + 4) h15) (b_X8_readAtom h15) rfl rfl hl.1 rfl (Nat.le_of_ble_eq_true rfl) hn le16 dX8_readUnit_113 (fun H locs cells slots I hn1 hn2 => ?_)
          have I : s_I G q6.2 s H locs := I
          have hn : cells + σ0.2.1 ≤ q6.2.2.1 ∧ slots + σ0.2.2.1 ≤ q6.2.2.2.1 := ⟨hn1, hn2⟩
          rcases s_ite hf with ⟨hchk, hf⟩ | ⟨-, hf⟩
          · cases hf
            have k : _ = r := k
            subst k
            exact r_iret X I rfl (s_nb hchk) rfl hn dX8_readUnit_116
          · cases hf
        · refine lv_if_ne (tgt := 117) hx hb dX8_readUnit_109 (by decide) (fun _ => ?_) (fun n => absurd n c14)
          cases hf
          have k : s_V G (d + 8) M_X8_readUnit vs0 σ0 Y_X8_readUnit (117, [.ref v0, .int q4.1], q5.2) (e_I r) := k
          exact k.2 p e s m below meth c _ _ _ _ _ X I hn.1 hn.2 (lv_sub hl [1, 0] rfl)
      · refine lv_if_ne (tgt := 117) hx hb dX8_readUnit_100 (by decide) (fun _ => ?_) (fun n => absurd n c11)
        cases hf
        have k : s_V G (d + 8) M_X8_readUnit vs0 σ0 Y_X8_readUnit (117, [.ref v0, .int q4.1], q4.2) (e_I r) := k
        exact k.2 p e s m below meth c _ _ _ _ _ X I hn.1 hn.2 (lv_sub hl [1, 0] rfl)
    · refine lv_if_eq (tgt := 88) hx hb dX8_readUnit_52 (by decide) (fun n => absurd n c6) (fun _ => ?_)
      obtain ⟨q7, h17, hf⟩ := s_bind hf
      have le18 : s_le q7.2 (e_I r).2 := by
        refine s_lek hem_I ?_ k
        rcases s_ite hf with ⟨-, hf⟩ | ⟨-, hf⟩
        · cases hf
          exact s_le.rf
        · obtain ⟨q8, hh, hf⟩ := s_bind hf
          refine s_lz.tr (lG_X8_readFormula hh) ?_
          rcases s_ite hf with ⟨-, hf⟩ | ⟨-, hf⟩
          · cases hf
            exact s_le.rf
          · obtain ⟨x9, -, hf⟩ := s_bind hf
            obtain ⟨σ10, hh, hf⟩ := s_bind hf
            refine s_lz.tr (s_le2 (s_pf_2 hh)) ?_
            obtain ⟨q11, hh, hf⟩ := s_bind hf
            refine s_lz.tr (l_X8_has hh) ?_
            rcases s_ite hf with ⟨-, hf⟩ | ⟨-, hf⟩
            · cases hf
              exact s_le.rf
            · cases hf
      refine lv_aload_n hx hb dX8_readUnit_55 rfl (lv_at hl 0 rfl) ?_
      refine r_callV (Y := M_X8_deeper) (v := some (.int q7.1)) X I w_1861 my_X8_deeper (by omega) (t_X8_deeper (G := G) (d := d + 6) h17) (b_X8_deeper h17) rfl rfl hl.1 rfl (Nat.le_of_ble_eq_true rfl) hn le18 dX8_readUnit_56 (fun H locs cells slots I hn1 hn2 => ?_)
      have I : s_I G q7.2 s H locs := I
      have hn : cells + σ0.2.1 ≤ q7.2.2.1 ∧ slots + σ0.2.2.1 ≤ q7.2.2.2.1 := ⟨hn1, hn2⟩
      rcases s_ite hf with ⟨c19, hf⟩ | ⟨c19, hf⟩
      · refine lv_if_eq (tgt := 69) hx hb dX8_readUnit_59 (by decide) (fun _ => ?_) (fun n => absurd c19 n)
        cases hf
        have k : _ = r := k
        subst k
        refine lv_iconst (v := 0) hx hb dX8_readUnit_69 (by decide) ?_
        exact r_iret X I rfl rfl rfl hn dX8_readUnit_70
      · refine lv_if_eq (tgt := 69) hx hb dX8_readUnit_59 (by decide) (fun n => absurd n c19) (fun _ => ?_)
        obtain ⟨q8, h20, hf⟩ := s_bind hf
        have le21 : s_le q8.2 (e_I r).2 := by
          refine s_lek hem_I ?_ k
          rcases s_ite hf with ⟨-, hf⟩ | ⟨-, hf⟩
          · cases hf
            exact s_le.rf
          · obtain ⟨x9, -, hf⟩ := s_bind hf
            obtain ⟨σ10, hh, hf⟩ := s_bind hf
            refine s_lz.tr (s_le2 (s_pf_2 hh)) ?_
            obtain ⟨q11, hh, hf⟩ := s_bind hf
            refine s_lz.tr (l_X8_has hh) ?_
            rcases s_ite hf with ⟨-, hf⟩ | ⟨-, hf⟩
            · cases hf
              exact s_le.rf
            · cases hf
        refine lv_aload_n hx hb dX8_readUnit_62 rfl (lv_at hl 0 rfl) ?_
        refine r_callV (Y := M_X8_readFormula) (v := some (.int q8.1)) X I w_1833 my_X8_readFormula (by omega) (hG_X8_readFormula h20).1 (hG_X8_readFormula h20).2 rfl rfl hl.1 rfl (Nat.le_of_ble_eq_true rfl) hn le21 dX8_readUnit_63 (fun H locs cells slots I hn1 hn2 => ?_)
        have I : s_I G q8.2 s H locs := I
        have hn : cells + σ0.2.1 ≤ q8.2.2.1 ∧ slots + σ0.2.2.1 ≤ q8.2.2.2.1 := ⟨hn1, hn2⟩
        rcases s_ite hf with ⟨c22, hf⟩ | ⟨c22, hf⟩
        · refine lv_if_ne (tgt := 71) hx hb dX8_readUnit_66 (by decide) (fun n => absurd c22 n) (fun _ => ?_)
          cases hf
          have k : _ = r := k
          subst k
          refine lv_iconst (v := 0) hx hb dX8_readUnit_69 (by decide) ?_
          exact r_iret X I rfl rfl rfl hn dX8_readUnit_70
        · refine lv_if_ne (tgt := 71) hx hb dX8_readUnit_66 (by decide) (fun _ => ?_) (fun n => absurd n c22)
          obtain ⟨x9, h23, hf⟩ := s_bind hf
          obtain ⟨σ10, h24, hf⟩ := s_bind hf
          obtain ⟨q11, h25, hf⟩ := s_bind hf
          have le26 : s_le q11.2 (e_I r).2 := by
            refine s_lek hem_I ?_ k
            rcases s_ite hf with ⟨-, hf⟩ | ⟨-, hf⟩
            · cases hf
              exact s_le.rf
            · cases hf
          have le27 := s_le.tr (l_X8_has h25) le26
          refine lv_aload_n hx hb dX8_readUnit_71 rfl (lv_at hl 0 rfl) ?_
          refine lv_dup hx hb dX8_readUnit_72 rfl ?_
          refine r_gi X I fl_X8_179 h23 dX8_readUnit_73 ?_
          refine lv_iconst (v := 1) hx hb dX8_readUnit_76 (by decide) ?_
          refine lv_isub hx hb dX8_readUnit_77 ?_
          refine r_put X I fp_X8_179 (fun h => by cases h) h24 rfl rfl dX8_readUnit_78 (fun H locs I => ?_)
          have hn := s_k2 (s_pf_2 h24) hn
          refine lv_aload_n hx hb dX8_readUnit_81 rfl (lv_at hl 0 rfl) ?_
          refine lv_bipush (v := 41) hx hb dX8_readUnit_82 (by decide) ?_
          refine r_callV (Y := M_X8_has) (v := some (.int q11.1)) X I w_1849 my_X8_has (by omega) (t_X8_has (G := G) (d := d + 4) h25) (b_X8_has h25) rfl rfl hl.1 rfl (Nat.le_of_ble_eq_true rfl) hn le26 dX8_readUnit_84 (fun H locs cells slots I hn1 hn2 => ?_)
          have I : s_I G q11.2 s H locs := I
          have hn : cells + σ0.2.1 ≤ q11.2.2.1 ∧ slots + σ0.2.2.1 ≤ q11.2.2.2.1 := ⟨hn1, hn2⟩
          rcases s_ite hf with ⟨hchk, hf⟩ | ⟨-, hf⟩
          · cases hf
            have k : _ = r := k
            subst k
            exact r_iret X I rfl (s_nb hchk) rfl hn dX8_readUnit_87
          · cases hf
  · refine lv_if_eq (tgt := 46) hx hb dX8_readUnit_6 (by decide) (fun n => absurd n c3) (fun _ => ?_)
    obtain ⟨q12, h28, hf⟩ := s_bind hf
    have le29 : s_le q12.2 (e_I r).2 := by
      refine s_lek hem_I ?_ k
      rcases s_ite hf with ⟨-, hf⟩ | ⟨-, hf⟩
      · cases hf
        exact s_le.rf
      · obtain ⟨q13, hh, hf⟩ := s_bind hf
        refine s_lz.tr (l_X8_puts hh) ?_
        rcases s_ite hf with ⟨-, hf⟩ | ⟨-, hf⟩
        · cases hf
          exact s_le.rf
        · obtain ⟨q14, hh, hf⟩ := s_bind hf
          refine s_lz.tr (lG_X8_readUnit hh) ?_
          rcases s_ite hf with ⟨-, hf⟩ | ⟨-, hf⟩
          · cases hf
            exact s_le.rf
          · obtain ⟨x15, -, hf⟩ := s_bind hf
            obtain ⟨σ16, hh, hf⟩ := s_bind hf
            refine s_lz.tr (s_le2 (s_pf_2 hh)) ?_
            cases hf
            exact s_le.rf
    refine lv_aload_n hx hb dX8_readUnit_9 rfl (lv_at hl 0 rfl) ?_
    refine r_callV (Y := M_X8_deeper) (v := some (.int q12.1)) X I w_1861 my_X8_deeper (by omega) (t_X8_deeper (G := G) (d := d + 6) h28) (b_X8_deeper h28) rfl rfl hl.1 rfl (Nat.le_of_ble_eq_true rfl) hn le29 dX8_readUnit_10 (fun H locs cells slots I hn1 hn2 => ?_)
    have I : s_I G q12.2 s H locs := I
    have hn : cells + σ0.2.1 ≤ q12.2.2.1 ∧ slots + σ0.2.2.1 ≤ q12.2.2.2.1 := ⟨hn1, hn2⟩
    rcases s_ite hf with ⟨c30, hf⟩ | ⟨c30, hf⟩
    · refine lv_if_eq (tgt := 32) hx hb dX8_readUnit_13 (by decide) (fun _ => ?_) (fun n => absurd c30 n)
      cases hf
      have k : _ = r := k
      subst k
      refine lv_iconst (v := 0) hx hb dX8_readUnit_32 (by decide) ?_
      exact r_iret X I rfl rfl rfl hn dX8_readUnit_33
    · refine lv_if_eq (tgt := 32) hx hb dX8_readUnit_13 (by decide) (fun n => absurd n c30) (fun _ => ?_)
      obtain ⟨q13, h31, hf⟩ := s_bind hf
      have le32 : s_le q13.2 (e_I r).2 := by
        refine s_lek hem_I ?_ k
        rcases s_ite hf with ⟨-, hf⟩ | ⟨-, hf⟩
        · cases hf
          exact s_le.rf
        · obtain ⟨q14, hh, hf⟩ := s_bind hf
          refine s_lz.tr (lG_X8_readUnit hh) ?_
          rcases s_ite hf with ⟨-, hf⟩ | ⟨-, hf⟩
          · cases hf
            exact s_le.rf
          · obtain ⟨x15, -, hf⟩ := s_bind hf
            obtain ⟨σ16, hh, hf⟩ := s_bind hf
            refine s_lz.tr (s_le2 (s_pf_2 hh)) ?_
            cases hf
            exact s_le.rf
      refine lv_aload_n hx hb dX8_readUnit_16 rfl (lv_at hl 0 rfl) ?_
      refine lv_bipush (v := 12) hx hb dX8_readUnit_17 (by decide) ?_
      refine r_callV (Y := M_X8_puts) (v := some (.int q13.1)) X I w_1865 my_X8_puts (by omega) (t_X8_puts (G := G) (d := d + 5) h31) (b_X8_puts h31) rfl rfl hl.1 rfl (Nat.le_of_ble_eq_true rfl) hn le32 dX8_readUnit_19 (fun H locs cells slots I hn1 hn2 => ?_)
      have I : s_I G q13.2 s H locs := I
      have hn : cells + σ0.2.1 ≤ q13.2.2.1 ∧ slots + σ0.2.2.1 ≤ q13.2.2.2.1 := ⟨hn1, hn2⟩
      rcases s_ite hf with ⟨c33, hf⟩ | ⟨c33, hf⟩
      · refine lv_if_eq (tgt := 32) hx hb dX8_readUnit_22 (by decide) (fun _ => ?_) (fun n => absurd c33 n)
        cases hf
        have k : _ = r := k
        subst k
        refine lv_iconst (v := 0) hx hb dX8_readUnit_32 (by decide) ?_
        exact r_iret X I rfl rfl rfl hn dX8_readUnit_33
      · refine lv_if_eq (tgt := 32) hx hb dX8_readUnit_22 (by decide) (fun n => absurd n c33) (fun _ => ?_)
        obtain ⟨q14, h34, hf⟩ := s_bind hf
        have le35 : s_le q14.2 (e_I r).2 := by
          refine s_lek hem_I ?_ k
          rcases s_ite hf with ⟨-, hf⟩ | ⟨-, hf⟩
          · cases hf
            exact s_le.rf
          · obtain ⟨x15, -, hf⟩ := s_bind hf
            obtain ⟨σ16, hh, hf⟩ := s_bind hf
            refine s_lz.tr (s_le2 (s_pf_2 hh)) ?_
            cases hf
            exact s_le.rf
        refine lv_aload_n hx hb dX8_readUnit_25 rfl (lv_at hl 0 rfl) ?_
        refine r_callV (Y := M_X8_readUnit) (v := some (.int q14.1)) X I w_1845 my_X8_readUnit (by omega) (hG_X8_readUnit h34).1 (hG_X8_readUnit h34).2 rfl rfl hl.1 rfl (Nat.le_of_ble_eq_true rfl) hn le35 dX8_readUnit_26 (fun H locs cells slots I hn1 hn2 => ?_)
        have I : s_I G q14.2 s H locs := I
        have hn : cells + σ0.2.1 ≤ q14.2.2.1 ∧ slots + σ0.2.2.1 ≤ q14.2.2.2.1 := ⟨hn1, hn2⟩
        rcases s_ite hf with ⟨c36, hf⟩ | ⟨c36, hf⟩
        · refine lv_if_ne (tgt := 34) hx hb dX8_readUnit_29 (by decide) (fun n => absurd c36 n) (fun _ => ?_)
          cases hf
          have k : _ = r := k
          subst k
          refine lv_iconst (v := 0) hx hb dX8_readUnit_32 (by decide) ?_
          exact r_iret X I rfl rfl rfl hn dX8_readUnit_33
        · refine lv_if_ne (tgt := 34) hx hb dX8_readUnit_29 (by decide) (fun _ => ?_) (fun n => absurd n c36)
          obtain ⟨x15, h37, hf⟩ := s_bind hf
          obtain ⟨σ16, h38, hf⟩ := s_bind hf
          cases hf
          have k : _ = r := k
          subst k
          have le39 : s_le σ16 σ16 := s_le.rf
          refine lv_aload_n hx hb dX8_readUnit_34 rfl (lv_at hl 0 rfl) ?_
          refine lv_dup hx hb dX8_readUnit_35 rfl ?_
          refine r_gi X I fl_X8_179 h37 dX8_readUnit_36 ?_
          refine lv_iconst (v := 1) hx hb dX8_readUnit_39 (by decide) ?_
          refine lv_isub hx hb dX8_readUnit_40 ?_
          refine r_put X I fp_X8_179 (fun h => by cases h) h38 rfl rfl dX8_readUnit_41 (fun H locs I => ?_)
          have hn := s_k2 (s_pf_2 h38) hn
          refine lv_iconst (v := 1) hx hb dX8_readUnit_44 (by decide) ?_
          exact r_iret X I rfl rfl rfl hn dX8_readUnit_45
set_option maxRecDepth 100000 in
set_option maxHeartbeats 4000000 in
theorem v_X8_readUnit_117 (f_X8_readAnd : Nat → sS → Option (Int32 × sS)) (f_X8_readFormula : Nat → sS → Option (Int32 × sS)) (f_X8_readOr : Nat → sS → Option (Int32 × sS)) (f_X8_readUnit : Nat → sS → Option (Int32 × sS)) {G : sG} {d : Nat} (lG_X8_readAnd : ∀ {y0 : Nat} {σ : sS} {q : Int32 × sS}, f_X8_readAnd y0 σ = some q → s_le σ q.2) (lG_X8_readFormula : ∀ {y0 : Nat} {σ : sS} {q : Int32 × sS}, f_X8_readFormula y0 σ = some q → s_le σ q.2) (lG_X8_readOr : ∀ {y0 : Nat} {σ : sS} {q : Int32 × sS}, f_X8_readOr y0 σ = some q → s_le σ q.2) (lG_X8_readUnit : ∀ {y0 : Nat} {σ : sS} {q : Int32 × sS}, f_X8_readUnit y0 σ = some q → s_le σ q.2) (hG_X8_readAnd : ∀ {y0 : Nat} {σ : sS} {q : Int32 × sS}, f_X8_readAnd y0 σ = some q → s_T G (d + 7) M_X8_readAnd [.ref y0] σ (e_I q) ∧ ∃ fs, σ.1 y0 = some (.inr (8, fs))) (hG_X8_readFormula : ∀ {y0 : Nat} {σ : sS} {q : Int32 × sS}, f_X8_readFormula y0 σ = some q → s_T G (d + 7) M_X8_readFormula [.ref y0] σ (e_I q) ∧ ∃ fs, σ.1 y0 = some (.inr (8, fs))) (hG_X8_readOr : ∀ {y0 : Nat} {σ : sS} {q : Int32 × sS}, f_X8_readOr y0 σ = some q → s_T G (d + 7) M_X8_readOr [.ref y0] σ (e_I q) ∧ ∃ fs, σ.1 y0 = some (.inr (8, fs))) (hG_X8_readUnit : ∀ {y0 : Nat} {σ : sS} {q : Int32 × sS}, f_X8_readUnit y0 σ = some q → s_T G (d + 7) M_X8_readUnit [.ref y0] σ (e_I q) ∧ ∃ fs, σ.1 y0 = some (.inr (8, fs))) {vs0 : List Value} {σ0 : sS} {v0 : Nat} {v1 : Int32} {σ : sS} {z : sZ Int32} {r : Int32 × sS} (hf : T_X8_readUnit_117 f_X8_readAnd f_X8_readFormula f_X8_readOr f_X8_readUnit v0 v1 σ = some z) (k : s_K G (d + 8) M_X8_readUnit vs0 σ0 Y_X8_readUnit e_I z r) : s_V G (d + 8) M_X8_readUnit vs0 σ0 Y_X8_readUnit (117, [.ref v0, .int v1], σ) (e_I r) := by
  have le0 : s_le σ (e_I r).2 := s_lek hem_I (l_X8_readUnit_117 f_X8_readAnd f_X8_readFormula f_X8_readOr f_X8_readUnit lG_X8_readAnd lG_X8_readFormula lG_X8_readOr lG_X8_readUnit hf) k
  refine ⟨le0, ?_⟩
  intro p e s m below meth c H locs cells slots ls X I hn1 hn2 hl
  have hn : cells + σ0.2.1 ≤ σ.2.1 ∧ slots + σ0.2.2.1 ≤ σ.2.2.1 := ⟨hn1, hn2⟩
  have hl : lv_has ls 2 [(0, .ref v0), (1, .int v1)] := hl
  have hx := X.1
  have hb : c.code = cX8_readUnit := X.2.1
  have hown : s.vm.findClass RX8 = some m.cls := X.2.2.2.2.2.1
  have hts := X.2.2.2.2.2.2.1
  refine W.eq (g2 := F0 m 117 ls []) rfl ?_
  unfold T_X8_readUnit_117 at hf
  obtain ⟨x1, h1, hf⟩ := s_bind hf
  refine lv_aload_n hx hb dX8_readUnit_117 rfl (lv_at hl 0 rfl) ?_
  refine r_gi X I fl_X8_185 h1 dX8_readUnit_118 ?_
  rcases s_ite hf with ⟨c2, hf⟩ | ⟨c2, hf⟩
  · refine lv_if_ne (tgt := 149) hx hb dX8_readUnit_121 (by decide) (fun n => absurd c2 n) (fun _ => ?_)
    obtain ⟨q2, h3, hf⟩ := s_bind hf
    have le4 : s_le q2.2 (e_I r).2 := by
      refine s_lek hem_I ?_ k
      rcases s_ite hf with ⟨-, hf⟩ | ⟨-, hf⟩
      · cases hf
        exact s_le.rf
      · rcases s_ite hf with ⟨-, hf⟩ | ⟨-, hf⟩
        · cases hf
          exact s_le.rf
        · cases hf
          exact s_le.rf
    refine lv_aload_n hx hb dX8_readUnit_124 rfl (lv_at hl 0 rfl) ?_
    refine r_callV (Y := M_X8_deeper) (v := some (.int q2.1)) X I w_1861 my_X8_deeper (by omega) (t_X8_deeper (G := G) (d := d + 6) h3) (b_X8_deeper h3) rfl rfl hl.1 rfl (Nat.le_of_ble_eq_true rfl) hn le4 dX8_readUnit_125 (fun H locs cells slots I hn1 hn2 => ?_)
    have I : s_I G q2.2 s H locs := I
    have hn : cells + σ0.2.1 ≤ q2.2.2.1 ∧ slots + σ0.2.2.1 ≤ q2.2.2.2.1 := ⟨hn1, hn2⟩
    rcases s_ite hf with ⟨c5, hf⟩ | ⟨c5, hf⟩
    · refine lv_if_eq (tgt := 149) hx hb dX8_readUnit_128 (by decide) (fun _ => ?_) (fun n => absurd c5 n)
      cases hf
      have k : _ = r := k
      subst k
      refine lv_iconst (v := 0) hx hb dX8_readUnit_149 (by decide) ?_
      exact r_iret X I rfl rfl rfl hn dX8_readUnit_150
    · refine lv_if_eq (tgt := 149) hx hb dX8_readUnit_128 (by decide) (fun n => absurd n c5) (fun _ => ?_)
      refine lv_aload_n hx hb dX8_readUnit_131 rfl (lv_at hl 0 rfl) ?_
      refine lv_iload_n hx hb dX8_readUnit_132 rfl (lv_at hl 1 rfl) ?_
      rcases s_ite hf with ⟨c6, hf⟩ | ⟨c6, hf⟩
      · refine lv_if_eq (tgt := 141) hx hb dX8_readUnit_133 (by decide) (fun _ => ?_) (fun n => absurd c6 n)
        cases hf
        have k : s_V G (d + 8) M_X8_readUnit vs0 σ0 Y_X8_readUnit (143, [.ref v0, .int 17, .ref v0], q2.2) (e_I r) := k
        refine lv_bipush (v := 17) hx hb dX8_readUnit_141 (by decide) ?_
        exact k.2 p e s m below meth c _ _ _ _ _ X I hn.1 hn.2 (lv_sub hl [0] rfl)
      · refine lv_if_eq (tgt := 141) hx hb dX8_readUnit_133 (by decide) (fun n => absurd n c6) (fun _ => ?_)
        cases hf
        have k : s_V G (d + 8) M_X8_readUnit vs0 σ0 Y_X8_readUnit (143, [.ref v0, .int 16, .ref v0], q2.2) (e_I r) := k
        refine lv_bipush (v := 16) hx hb dX8_readUnit_136 (by decide) ?_
        refine lv_goto (tgt := 143) hx hb dX8_readUnit_138 (by decide) ?_
        exact k.2 p e s m below meth c _ _ _ _ _ X I hn.1 hn.2 (lv_sub hl [0] rfl)
  · refine lv_if_ne (tgt := 149) hx hb dX8_readUnit_121 (by decide) (fun _ => ?_) (fun n => absurd n c2)
    cases hf
    have k : _ = r := k
    subst k
    refine lv_iconst (v := 0) hx hb dX8_readUnit_149 (by decide) ?_
    exact r_iret X I rfl rfl rfl hn dX8_readUnit_150
set_option maxRecDepth 100000 in
set_option maxHeartbeats 4000000 in
theorem v_X8_readUnit_143 (f_X8_readAnd : Nat → sS → Option (Int32 × sS)) (f_X8_readFormula : Nat → sS → Option (Int32 × sS)) (f_X8_readOr : Nat → sS → Option (Int32 × sS)) (f_X8_readUnit : Nat → sS → Option (Int32 × sS)) {G : sG} {d : Nat} (lG_X8_readAnd : ∀ {y0 : Nat} {σ : sS} {q : Int32 × sS}, f_X8_readAnd y0 σ = some q → s_le σ q.2) (lG_X8_readFormula : ∀ {y0 : Nat} {σ : sS} {q : Int32 × sS}, f_X8_readFormula y0 σ = some q → s_le σ q.2) (lG_X8_readOr : ∀ {y0 : Nat} {σ : sS} {q : Int32 × sS}, f_X8_readOr y0 σ = some q → s_le σ q.2) (lG_X8_readUnit : ∀ {y0 : Nat} {σ : sS} {q : Int32 × sS}, f_X8_readUnit y0 σ = some q → s_le σ q.2) (hG_X8_readAnd : ∀ {y0 : Nat} {σ : sS} {q : Int32 × sS}, f_X8_readAnd y0 σ = some q → s_T G (d + 7) M_X8_readAnd [.ref y0] σ (e_I q) ∧ ∃ fs, σ.1 y0 = some (.inr (8, fs))) (hG_X8_readFormula : ∀ {y0 : Nat} {σ : sS} {q : Int32 × sS}, f_X8_readFormula y0 σ = some q → s_T G (d + 7) M_X8_readFormula [.ref y0] σ (e_I q) ∧ ∃ fs, σ.1 y0 = some (.inr (8, fs))) (hG_X8_readOr : ∀ {y0 : Nat} {σ : sS} {q : Int32 × sS}, f_X8_readOr y0 σ = some q → s_T G (d + 7) M_X8_readOr [.ref y0] σ (e_I q) ∧ ∃ fs, σ.1 y0 = some (.inr (8, fs))) (hG_X8_readUnit : ∀ {y0 : Nat} {σ : sS} {q : Int32 × sS}, f_X8_readUnit y0 σ = some q → s_T G (d + 7) M_X8_readUnit [.ref y0] σ (e_I q) ∧ ∃ fs, σ.1 y0 = some (.inr (8, fs))) {vs0 : List Value} {σ0 : sS} {v0 : Nat} {w0 : Int32} {w1 : Nat} {σ : sS} {z : sZ Int32} {r : Int32 × sS} (hf : T_X8_readUnit_143 f_X8_readAnd f_X8_readFormula f_X8_readOr f_X8_readUnit v0 w0 w1 σ = some z) (k : s_K G (d + 8) M_X8_readUnit vs0 σ0 Y_X8_readUnit e_I z r) : s_V G (d + 8) M_X8_readUnit vs0 σ0 Y_X8_readUnit (143, [.ref v0, .int w0, .ref w1], σ) (e_I r) := by
  have le0 : s_le σ (e_I r).2 := s_lek hem_I (l_X8_readUnit_143 f_X8_readAnd f_X8_readFormula f_X8_readOr f_X8_readUnit lG_X8_readAnd lG_X8_readFormula lG_X8_readOr lG_X8_readUnit hf) k
  refine ⟨le0, ?_⟩
  intro p e s m below meth c H locs cells slots ls X I hn1 hn2 hl
  have hn : cells + σ0.2.1 ≤ σ.2.1 ∧ slots + σ0.2.2.1 ≤ σ.2.2.1 := ⟨hn1, hn2⟩
  have hl : lv_has ls 2 [(0, .ref v0)] := hl
  have hx := X.1
  have hb : c.code = cX8_readUnit := X.2.1
  have hown : s.vm.findClass RX8 = some m.cls := X.2.2.2.2.2.1
  have hts := X.2.2.2.2.2.2.1
  refine W.eq (g2 := F0 m 143 ls [.int w0, .ref w1]) rfl ?_
  unfold T_X8_readUnit_143 at hf
  obtain ⟨q1, h1, hf⟩ := s_bind hf
  have le2 : s_le q1.2 (e_I r).2 := by
    refine s_lek hem_I ?_ k
    rcases s_ite hf with ⟨-, hf⟩ | ⟨-, hf⟩
    · cases hf
      exact s_le.rf
    · obtain ⟨σ2, hh, hf⟩ := s_bind hf
      refine s_lz.tr (s_le2 (s_pf_2 hh)) ?_
      obtain ⟨q3, hh, hf⟩ := s_bind hf
      refine s_lz.tr (lG_X8_readUnit hh) ?_
      rcases s_ite hf with ⟨-, hf⟩ | ⟨-, hf⟩
      · cases hf
        exact s_le.rf
      · obtain ⟨σ4, hh, hf⟩ := s_bind hf
        refine s_lz.tr (s_le2 (s_pf_2 hh)) ?_
        obtain ⟨x5, -, hf⟩ := s_bind hf
        obtain ⟨σ6, hh, hf⟩ := s_bind hf
        refine s_lz.tr (s_le2 (s_pf_2 hh)) ?_
        cases hf
        exact s_le.rf
  refine r_callV (Y := M_X8_puts) (v := some (.int q1.1)) X I w_1865 my_X8_puts (by omega) (t_X8_puts (G := G) (d := d + 5) h1) (b_X8_puts h1) rfl rfl hl.1 rfl (Nat.le_of_ble_eq_true rfl) hn le2 dX8_readUnit_143 (fun H locs cells slots I hn1 hn2 => ?_)
  have I : s_I G q1.2 s H locs := I
  have hn : cells + σ0.2.1 ≤ q1.2.2.1 ∧ slots + σ0.2.2.1 ≤ q1.2.2.2.1 := ⟨hn1, hn2⟩
  rcases s_ite hf with ⟨c3, hf⟩ | ⟨c3, hf⟩
  · refine lv_if_ne (tgt := 151) hx hb dX8_readUnit_146 (by decide) (fun n => absurd c3 n) (fun _ => ?_)
    cases hf
    have k : _ = r := k
    subst k
    refine lv_iconst (v := 0) hx hb dX8_readUnit_149 (by decide) ?_
    exact r_iret X I rfl rfl rfl hn dX8_readUnit_150
  · refine lv_if_ne (tgt := 151) hx hb dX8_readUnit_146 (by decide) (fun _ => ?_) (fun n => absurd n c3)
    obtain ⟨σ2, h4, hf⟩ := s_bind hf
    obtain ⟨q3, h5, hf⟩ := s_bind hf
    have le6 : s_le q3.2 (e_I r).2 := by
      refine s_lek hem_I ?_ k
      rcases s_ite hf with ⟨-, hf⟩ | ⟨-, hf⟩
      · cases hf
        exact s_le.rf
      · obtain ⟨σ4, hh, hf⟩ := s_bind hf
        refine s_lz.tr (s_le2 (s_pf_2 hh)) ?_
        obtain ⟨x5, -, hf⟩ := s_bind hf
        obtain ⟨σ6, hh, hf⟩ := s_bind hf
        refine s_lz.tr (s_le2 (s_pf_2 hh)) ?_
        cases hf
        exact s_le.rf
    have le7 := s_le.tr (lG_X8_readUnit h5) le6
    refine lv_aload_n hx hb dX8_readUnit_151 rfl (lv_at hl 0 rfl) ?_
    refine lv_iconst (v := 1) hx hb dX8_readUnit_152 (by decide) ?_
    refine r_put X I fp_X8_185 (fun h => by cases h) h4 rfl rfl dX8_readUnit_153 (fun H locs I => ?_)
    have hn := s_k2 (s_pf_2 h4) hn
    refine lv_aload_n hx hb dX8_readUnit_156 rfl (lv_at hl 0 rfl) ?_
    refine r_callV (Y := M_X8_readUnit) (v := some (.int q3.1)) X I w_1845 my_X8_readUnit (by omega) (hG_X8_readUnit h5).1 (hG_X8_readUnit h5).2 rfl rfl hl.1 rfl (Nat.le_of_ble_eq_true rfl) hn le6 dX8_readUnit_157 (fun H locs cells slots I hn1 hn2 => ?_)
    have I : s_I G q3.2 s H locs := I
    have hn : cells + σ0.2.1 ≤ q3.2.2.1 ∧ slots + σ0.2.2.1 ≤ q3.2.2.2.1 := ⟨hn1, hn2⟩
    rcases s_ite hf with ⟨c8, hf⟩ | ⟨c8, hf⟩
    · refine lv_if_ne (tgt := 165) hx hb dX8_readUnit_160 (by decide) (fun n => absurd c8 n) (fun _ => ?_)
      cases hf
      have k : _ = r := k
      subst k
      refine lv_iconst (v := 0) hx hb dX8_readUnit_163 (by decide) ?_
      exact r_iret X I rfl rfl rfl hn dX8_readUnit_164
    · refine lv_if_ne (tgt := 165) hx hb dX8_readUnit_160 (by decide) (fun _ => ?_) (fun n => absurd n c8)
      obtain ⟨σ4, h9, hf⟩ := s_bind hf
      obtain ⟨x5, h10, hf⟩ := s_bind hf
      obtain ⟨σ6, h11, hf⟩ := s_bind hf
      cases hf
      have k : _ = r := k
      subst k
      have le12 : s_le σ6 σ6 := s_le.rf
      have le13 := s_le.tr (s_le2 (s_pf_2 h11)) le12
      refine lv_aload_n hx hb dX8_readUnit_165 rfl (lv_at hl 0 rfl) ?_
      refine lv_iconst (v := 0) hx hb dX8_readUnit_166 (by decide) ?_
      refine r_put X I fp_X8_185 (fun h => by cases h) h9 rfl rfl dX8_readUnit_167 (fun H locs I => ?_)
      have hn := s_k2 (s_pf_2 h9) hn
      refine lv_aload_n hx hb dX8_readUnit_170 rfl (lv_at hl 0 rfl) ?_
      refine lv_dup hx hb dX8_readUnit_171 rfl ?_
      refine r_gi X I fl_X8_179 h10 dX8_readUnit_172 ?_
      refine lv_iconst (v := 1) hx hb dX8_readUnit_175 (by decide) ?_
      refine lv_isub hx hb dX8_readUnit_176 ?_
      refine r_put X I fp_X8_179 (fun h => by cases h) h11 rfl rfl dX8_readUnit_177 (fun H locs I => ?_)
      have hn := s_k2 (s_pf_2 h11) hn
      refine lv_iconst (v := 1) hx hb dX8_readUnit_180 (by decide) ?_
      exact r_iret X I rfl rfl rfl hn dX8_readUnit_181
theorem v_X8_readUnit (f_X8_readAnd : Nat → sS → Option (Int32 × sS)) (f_X8_readFormula : Nat → sS → Option (Int32 × sS)) (f_X8_readOr : Nat → sS → Option (Int32 × sS)) (f_X8_readUnit : Nat → sS → Option (Int32 × sS)) {G : sG} {d : Nat} (lG_X8_readAnd : ∀ {y0 : Nat} {σ : sS} {q : Int32 × sS}, f_X8_readAnd y0 σ = some q → s_le σ q.2) (lG_X8_readFormula : ∀ {y0 : Nat} {σ : sS} {q : Int32 × sS}, f_X8_readFormula y0 σ = some q → s_le σ q.2) (lG_X8_readOr : ∀ {y0 : Nat} {σ : sS} {q : Int32 × sS}, f_X8_readOr y0 σ = some q → s_le σ q.2) (lG_X8_readUnit : ∀ {y0 : Nat} {σ : sS} {q : Int32 × sS}, f_X8_readUnit y0 σ = some q → s_le σ q.2) (hG_X8_readAnd : ∀ {y0 : Nat} {σ : sS} {q : Int32 × sS}, f_X8_readAnd y0 σ = some q → s_T G (d + 7) M_X8_readAnd [.ref y0] σ (e_I q) ∧ ∃ fs, σ.1 y0 = some (.inr (8, fs))) (hG_X8_readFormula : ∀ {y0 : Nat} {σ : sS} {q : Int32 × sS}, f_X8_readFormula y0 σ = some q → s_T G (d + 7) M_X8_readFormula [.ref y0] σ (e_I q) ∧ ∃ fs, σ.1 y0 = some (.inr (8, fs))) (hG_X8_readOr : ∀ {y0 : Nat} {σ : sS} {q : Int32 × sS}, f_X8_readOr y0 σ = some q → s_T G (d + 7) M_X8_readOr [.ref y0] σ (e_I q) ∧ ∃ fs, σ.1 y0 = some (.inr (8, fs))) (hG_X8_readUnit : ∀ {y0 : Nat} {σ : sS} {q : Int32 × sS}, f_X8_readUnit y0 σ = some q → s_T G (d + 7) M_X8_readUnit [.ref y0] σ (e_I q) ∧ ∃ fs, σ.1 y0 = some (.inr (8, fs))) {vs0 : List Value} {σ0 : sS} {x : sL} {z : sZ Int32} {r : Int32 × sS} (hs : S_X8_readUnit f_X8_readAnd f_X8_readFormula f_X8_readOr f_X8_readUnit x = some z) (k : s_K G (d + 8) M_X8_readUnit vs0 σ0 Y_X8_readUnit e_I z r) : s_V G (d + 8) M_X8_readUnit vs0 σ0 Y_X8_readUnit x (e_I r) := by
  obtain ⟨pc, vs, σ⟩ := x
  unfold S_X8_readUnit at hs
  dsimp only at hs
  rcases s_ite hs with ⟨c, hs⟩ | ⟨-, hs⟩
  · subst c
    unfold U_X8_readUnit_0 at hs
    obtain ⟨a0, g0, hs⟩ := s_bind hs
    obtain ⟨u9, ge, hs⟩ := s_bind hs
    rw [g_r_to g0, g_e_to ge]
    exact v_X8_readUnit_0 f_X8_readAnd f_X8_readFormula f_X8_readOr f_X8_readUnit lG_X8_readAnd lG_X8_readFormula lG_X8_readOr lG_X8_readUnit hG_X8_readAnd hG_X8_readFormula hG_X8_readOr hG_X8_readUnit hs k
  rcases s_ite hs with ⟨c, hs⟩ | ⟨-, hs⟩
  · subst c
    unfold U_X8_readUnit_117 at hs
    obtain ⟨a0, g0, hs⟩ := s_bind hs
    obtain ⟨a1, g1, hs⟩ := s_bind hs
    obtain ⟨u9, ge, hs⟩ := s_bind hs
    rw [g_r_to g0, g_i_to g1, g_e_to ge]
    exact v_X8_readUnit_117 f_X8_readAnd f_X8_readFormula f_X8_readOr f_X8_readUnit lG_X8_readAnd lG_X8_readFormula lG_X8_readOr lG_X8_readUnit hG_X8_readAnd hG_X8_readFormula hG_X8_readOr hG_X8_readUnit hs k
  rcases s_ite hs with ⟨c, hs⟩ | ⟨-, hs⟩
  · subst c
    unfold U_X8_readUnit_143 at hs
    obtain ⟨a0, g0, hs⟩ := s_bind hs
    obtain ⟨a1, g1, hs⟩ := s_bind hs
    obtain ⟨a2, g2, hs⟩ := s_bind hs
    obtain ⟨u9, ge, hs⟩ := s_bind hs
    rw [g_r_to g0, g_i_to g1, g_r_to g2, g_e_to ge]
    exact v_X8_readUnit_143 f_X8_readAnd f_X8_readFormula f_X8_readOr f_X8_readUnit lG_X8_readAnd lG_X8_readFormula lG_X8_readOr lG_X8_readUnit hG_X8_readAnd hG_X8_readFormula hG_X8_readOr hG_X8_readUnit hs k
  cases hs
theorem lq_X8_readAnd : ∀ k : Nat, (∀ {y0 : Nat} {σ : sS} {q : Int32 × sS}, F_X8_readAnd k y0 σ = some q → s_le σ q.2) ∧ (∀ {y0 : Nat} {σ : sS} {q : Int32 × sS}, F_X8_readFormula k y0 σ = some q → s_le σ q.2) ∧ (∀ {y0 : Nat} {σ : sS} {q : Int32 × sS}, F_X8_readOr k y0 σ = some q → s_le σ q.2) ∧ (∀ {y0 : Nat} {σ : sS} {q : Int32 × sS}, F_X8_readUnit k y0 σ = some q → s_le σ q.2) := by
  intro k
  induction k with
  | zero => exact ⟨(fun h => by cases h), (fun h => by cases h), (fun h => by cases h), (fun h => by cases h)⟩
  | succ k ih =>
    refine ⟨?_, ?_, ?_, ?_⟩
    · intro y0 σ q h
      have h : ((s_is σ y0 8).bind fun _ => s_run (S_X8_readAnd (F_X8_readAnd k) (F_X8_readFormula k) (F_X8_readOr k) (F_X8_readUnit k)) (0, [.ref y0], σ)) = some q := h
      obtain ⟨-, -, h⟩ := s_bind h
      exact s_run_ind (V := fun x r => s_le x.2.2 r.2) (fun x z r hs hk => by
        have h9 := l_X8_readAnd_s (F_X8_readAnd k) (F_X8_readFormula k) (F_X8_readOr k) (F_X8_readUnit k) ih.1 ih.2.1 ih.2.2.1 ih.2.2.2 hs
        cases z with
        | inl y => exact s_le.tr h9 hk
        | inr q => cases hk; exact h9) h
    · intro y0 σ q h
      have h : ((s_is σ y0 8).bind fun _ => s_run (S_X8_readFormula (F_X8_readAnd k) (F_X8_readFormula k) (F_X8_readOr k) (F_X8_readUnit k)) (0, [.ref y0], σ)) = some q := h
      obtain ⟨-, -, h⟩ := s_bind h
      exact s_run_ind (V := fun x r => s_le x.2.2 r.2) (fun x z r hs hk => by
        have h9 := l_X8_readFormula_s (F_X8_readAnd k) (F_X8_readFormula k) (F_X8_readOr k) (F_X8_readUnit k) ih.1 ih.2.1 ih.2.2.1 ih.2.2.2 hs
        cases z with
        | inl y => exact s_le.tr h9 hk
        | inr q => cases hk; exact h9) h
    · intro y0 σ q h
      have h : ((s_is σ y0 8).bind fun _ => s_run (S_X8_readOr (F_X8_readAnd k) (F_X8_readFormula k) (F_X8_readOr k) (F_X8_readUnit k)) (0, [.ref y0], σ)) = some q := h
      obtain ⟨-, -, h⟩ := s_bind h
      exact s_run_ind (V := fun x r => s_le x.2.2 r.2) (fun x z r hs hk => by
        have h9 := l_X8_readOr_s (F_X8_readAnd k) (F_X8_readFormula k) (F_X8_readOr k) (F_X8_readUnit k) ih.1 ih.2.1 ih.2.2.1 ih.2.2.2 hs
        cases z with
        | inl y => exact s_le.tr h9 hk
        | inr q => cases hk; exact h9) h
    · intro y0 σ q h
      have h : ((s_is σ y0 8).bind fun _ => s_run (S_X8_readUnit (F_X8_readAnd k) (F_X8_readFormula k) (F_X8_readOr k) (F_X8_readUnit k)) (0, [.ref y0], σ)) = some q := h
      obtain ⟨-, -, h⟩ := s_bind h
      exact s_run_ind (V := fun x r => s_le x.2.2 r.2) (fun x z r hs hk => by
        have h9 := l_X8_readUnit_s (F_X8_readAnd k) (F_X8_readFormula k) (F_X8_readOr k) (F_X8_readUnit k) ih.1 ih.2.1 ih.2.2.1 ih.2.2.2 hs
        cases z with
        | inl y => exact s_le.tr h9 hk
        | inr q => cases hk; exact h9) h
theorem tq_X8_readAnd {G : sG} {d : Nat} : ∀ k : Nat, (∀ {y0 : Nat} {σ : sS} {q : Int32 × sS}, F_X8_readAnd k y0 σ = some q → s_T G (d + k + 7) M_X8_readAnd [.ref y0] σ (e_I q) ∧ ∃ fs, σ.1 y0 = some (.inr (8, fs))) ∧ (∀ {y0 : Nat} {σ : sS} {q : Int32 × sS}, F_X8_readFormula k y0 σ = some q → s_T G (d + k + 7) M_X8_readFormula [.ref y0] σ (e_I q) ∧ ∃ fs, σ.1 y0 = some (.inr (8, fs))) ∧ (∀ {y0 : Nat} {σ : sS} {q : Int32 × sS}, F_X8_readOr k y0 σ = some q → s_T G (d + k + 7) M_X8_readOr [.ref y0] σ (e_I q) ∧ ∃ fs, σ.1 y0 = some (.inr (8, fs))) ∧ (∀ {y0 : Nat} {σ : sS} {q : Int32 × sS}, F_X8_readUnit k y0 σ = some q → s_T G (d + k + 7) M_X8_readUnit [.ref y0] σ (e_I q) ∧ ∃ fs, σ.1 y0 = some (.inr (8, fs))) := by
  intro k
  induction k with
  | zero => exact ⟨(fun h => by cases h), (fun h => by cases h), (fun h => by cases h), (fun h => by cases h)⟩
  | succ k ih =>
    refine ⟨?_, ?_, ?_, ?_⟩
    · intro y0 σ q h
      have h : ((s_is σ y0 8).bind fun _ => s_run (S_X8_readAnd (F_X8_readAnd k) (F_X8_readFormula k) (F_X8_readOr k) (F_X8_readUnit k)) (0, [.ref y0], σ)) = some q := h
      obtain ⟨u, hu, h⟩ := s_bind h
      refine ⟨?_, s_is_to hu⟩
      exact s_ofV (d := (d + k) + 8) rfl (by decide) (Nat.le_of_ble_eq_true rfl) rfl rfl (s_run_ind (V := fun x r => s_V G ((d + k) + 8) M_X8_readAnd [.ref y0] σ Y_X8_readAnd x (e_I r)) (fun x z r hs hk => v_X8_readAnd (F_X8_readAnd k) (F_X8_readFormula k) (F_X8_readOr k) (F_X8_readUnit k) (lq_X8_readAnd k).1 (lq_X8_readAnd k).2.1 (lq_X8_readAnd k).2.2.1 (lq_X8_readAnd k).2.2.2 ih.1 ih.2.1 ih.2.2.1 ih.2.2.2 hs (by cases z <;> exact hk)) h)
    · intro y0 σ q h
      have h : ((s_is σ y0 8).bind fun _ => s_run (S_X8_readFormula (F_X8_readAnd k) (F_X8_readFormula k) (F_X8_readOr k) (F_X8_readUnit k)) (0, [.ref y0], σ)) = some q := h
      obtain ⟨u, hu, h⟩ := s_bind h
      refine ⟨?_, s_is_to hu⟩
      exact s_ofV (d := (d + k) + 8) rfl (by decide) (Nat.le_of_ble_eq_true rfl) rfl rfl (s_run_ind (V := fun x r => s_V G ((d + k) + 8) M_X8_readFormula [.ref y0] σ Y_X8_readFormula x (e_I r)) (fun x z r hs hk => v_X8_readFormula (F_X8_readAnd k) (F_X8_readFormula k) (F_X8_readOr k) (F_X8_readUnit k) (lq_X8_readAnd k).1 (lq_X8_readAnd k).2.1 (lq_X8_readAnd k).2.2.1 (lq_X8_readAnd k).2.2.2 ih.1 ih.2.1 ih.2.2.1 ih.2.2.2 hs (by cases z <;> exact hk)) h)
    · intro y0 σ q h
      have h : ((s_is σ y0 8).bind fun _ => s_run (S_X8_readOr (F_X8_readAnd k) (F_X8_readFormula k) (F_X8_readOr k) (F_X8_readUnit k)) (0, [.ref y0], σ)) = some q := h
      obtain ⟨u, hu, h⟩ := s_bind h
      refine ⟨?_, s_is_to hu⟩
      exact s_ofV (d := (d + k) + 8) rfl (by decide) (Nat.le_of_ble_eq_true rfl) rfl rfl (s_run_ind (V := fun x r => s_V G ((d + k) + 8) M_X8_readOr [.ref y0] σ Y_X8_readOr x (e_I r)) (fun x z r hs hk => v_X8_readOr (F_X8_readAnd k) (F_X8_readFormula k) (F_X8_readOr k) (F_X8_readUnit k) (lq_X8_readAnd k).1 (lq_X8_readAnd k).2.1 (lq_X8_readAnd k).2.2.1 (lq_X8_readAnd k).2.2.2 ih.1 ih.2.1 ih.2.2.1 ih.2.2.2 hs (by cases z <;> exact hk)) h)
    · intro y0 σ q h
      have h : ((s_is σ y0 8).bind fun _ => s_run (S_X8_readUnit (F_X8_readAnd k) (F_X8_readFormula k) (F_X8_readOr k) (F_X8_readUnit k)) (0, [.ref y0], σ)) = some q := h
      obtain ⟨u, hu, h⟩ := s_bind h
      refine ⟨?_, s_is_to hu⟩
      exact s_ofV (d := (d + k) + 8) rfl (by decide) (Nat.le_of_ble_eq_true rfl) rfl rfl (s_run_ind (V := fun x r => s_V G ((d + k) + 8) M_X8_readUnit [.ref y0] σ Y_X8_readUnit x (e_I r)) (fun x z r hs hk => v_X8_readUnit (F_X8_readAnd k) (F_X8_readFormula k) (F_X8_readOr k) (F_X8_readUnit k) (lq_X8_readAnd k).1 (lq_X8_readAnd k).2.1 (lq_X8_readAnd k).2.2.1 (lq_X8_readAnd k).2.2.2 ih.1 ih.2.1 ih.2.2.1 ih.2.2.2 hs (by cases z <;> exact hk)) h)
theorem l_X8_readAnd {k : Nat} {v0 : Nat} {σ : sS} {q : Int32 × sS} (h : F_X8_readAnd k v0 σ = some q) : s_le σ q.2 := (lq_X8_readAnd k).1 h
theorem t_X8_readAnd {G : sG} {d : Nat} {v0 : Nat} {σ : sS} {q : Int32 × sS} (h : F_X8_readAnd 64 v0 σ = some q) : s_T G (d + 71) M_X8_readAnd [.ref v0] σ (e_I q) := ((tq_X8_readAnd (G := G) (d := d) 64).1 h).1
theorem b_X8_readAnd {v0 : Nat} {σ : sS} {q : Int32 × sS} (h : F_X8_readAnd 64 v0 σ = some q) : ∃ fs, σ.1 v0 = some (.inr (8, fs)) := by
  have h : ((s_is σ v0 8).bind fun _ => s_run (S_X8_readAnd (F_X8_readAnd 63) (F_X8_readFormula 63) (F_X8_readOr 63) (F_X8_readUnit 63)) (0, [.ref v0], σ)) = some q := h
  obtain ⟨u, hu, -⟩ := s_bind h
  exact s_is_to hu
theorem l_X8_readFormula {k : Nat} {v0 : Nat} {σ : sS} {q : Int32 × sS} (h : F_X8_readFormula k v0 σ = some q) : s_le σ q.2 := (lq_X8_readAnd k).2.1 h
theorem t_X8_readFormula {G : sG} {d : Nat} {v0 : Nat} {σ : sS} {q : Int32 × sS} (h : F_X8_readFormula 64 v0 σ = some q) : s_T G (d + 71) M_X8_readFormula [.ref v0] σ (e_I q) := ((tq_X8_readAnd (G := G) (d := d) 64).2.1 h).1
theorem b_X8_readFormula {v0 : Nat} {σ : sS} {q : Int32 × sS} (h : F_X8_readFormula 64 v0 σ = some q) : ∃ fs, σ.1 v0 = some (.inr (8, fs)) := by
  have h : ((s_is σ v0 8).bind fun _ => s_run (S_X8_readFormula (F_X8_readAnd 63) (F_X8_readFormula 63) (F_X8_readOr 63) (F_X8_readUnit 63)) (0, [.ref v0], σ)) = some q := h
  obtain ⟨u, hu, -⟩ := s_bind h
  exact s_is_to hu
theorem l_X8_readOr {k : Nat} {v0 : Nat} {σ : sS} {q : Int32 × sS} (h : F_X8_readOr k v0 σ = some q) : s_le σ q.2 := (lq_X8_readAnd k).2.2.1 h
theorem t_X8_readOr {G : sG} {d : Nat} {v0 : Nat} {σ : sS} {q : Int32 × sS} (h : F_X8_readOr 64 v0 σ = some q) : s_T G (d + 71) M_X8_readOr [.ref v0] σ (e_I q) := ((tq_X8_readAnd (G := G) (d := d) 64).2.2.1 h).1
theorem b_X8_readOr {v0 : Nat} {σ : sS} {q : Int32 × sS} (h : F_X8_readOr 64 v0 σ = some q) : ∃ fs, σ.1 v0 = some (.inr (8, fs)) := by
  have h : ((s_is σ v0 8).bind fun _ => s_run (S_X8_readOr (F_X8_readAnd 63) (F_X8_readFormula 63) (F_X8_readOr 63) (F_X8_readUnit 63)) (0, [.ref v0], σ)) = some q := h
  obtain ⟨u, hu, -⟩ := s_bind h
  exact s_is_to hu
theorem l_X8_readUnit {k : Nat} {v0 : Nat} {σ : sS} {q : Int32 × sS} (h : F_X8_readUnit k v0 σ = some q) : s_le σ q.2 := (lq_X8_readAnd k).2.2.2 h
theorem t_X8_readUnit {G : sG} {d : Nat} {v0 : Nat} {σ : sS} {q : Int32 × sS} (h : F_X8_readUnit 64 v0 σ = some q) : s_T G (d + 71) M_X8_readUnit [.ref v0] σ (e_I q) := ((tq_X8_readAnd (G := G) (d := d) 64).2.2.2 h).1
theorem b_X8_readUnit {v0 : Nat} {σ : sS} {q : Int32 × sS} (h : F_X8_readUnit 64 v0 σ = some q) : ∃ fs, σ.1 v0 = some (.inr (8, fs)) := by
  have h : ((s_is σ v0 8).bind fun _ => s_run (S_X8_readUnit (F_X8_readAnd 63) (F_X8_readFormula 63) (F_X8_readOr 63) (F_X8_readUnit 63)) (0, [.ref v0], σ)) = some q := h
  obtain ⟨u, hu, -⟩ := s_bind h
  exact s_is_to hu
