/-! X8_rules -/
noncomputable def T_X8_rules_0 (v0 : Nat) (v1 : Int32) (v2 : Int32) (σ : sS) : Option (sZ Int32) :=
  (s_pf σ v0 8 0 (.int 0)).bind fun σ1 =>
  (F_X8_noHouse v1 σ1).bind fun q2 =>
  (F_X8_throwsIf v0 q2.1 1 q2.2).bind fun q3 =>
  if q3.1 = 0 then ((F_X8_in v2 0 65535 q3.2).bind fun q4 =>
  if q4.1 = 0 then (some (.inl (33, [.ref v0, .int v1, .int v2, .int 1, .ref v0], q4.2)))
  else (some (.inl (33, [.ref v0, .int v1, .int v2, .int 0, .ref v0], q4.2))))
  else (some (.inr (0, q3.2)))
noncomputable def U_X8_rules_0 (vs : List Value) (σ : sS) : Option (sZ Int32) := (g_r vs).bind fun a0 => (g_i a0.2).bind fun a1 => (g_i a1.2).bind fun a2 => (g_e a2.2).bind fun _ => T_X8_rules_0 a0.1 a1.1 a2.1 σ
noncomputable def T_X8_rules_33 (v0 : Nat) (v1 : Int32) (v2 : Int32) (w0 : Int32) (w1 : Nat) (σ : sS) : Option (sZ Int32) :=
  (F_X8_throwsIf w1 w0 2 σ).bind fun q1 =>
  if q1.1 = 0 then ((s_fr q1.2 v0 8 1).bind fun x2 =>
  (s_ai q1.2 x2 (4 + (18 * v1))).bind fun x3 =>
  (s_fr q1.2 v0 8 1).bind fun x4 =>
  (s_si q1.2 x4 (4 + (18 * v1)) v2).bind fun σ5 =>
  some (.inr (x3, σ5)))
  else (some (.inr (0, q1.2)))
noncomputable def U_X8_rules_33 (vs : List Value) (σ : sS) : Option (sZ Int32) := (g_r vs).bind fun a0 => (g_i a0.2).bind fun a1 => (g_i a1.2).bind fun a2 => (g_i a2.2).bind fun a3 => (g_r a3.2).bind fun a4 => (g_e a4.2).bind fun _ => T_X8_rules_33 a0.1 a1.1 a2.1 a3.1 a4.1 σ
noncomputable def S_X8_rules (x : sL) : Option (sZ Int32) := if x.1 = 0 then U_X8_rules_0 x.2.1 x.2.2 else if x.1 = 33 then U_X8_rules_33 x.2.1 x.2.2 else none
def Y_X8_rules (pc : Nat) : List Nat := if pc = 0 then [0, 1, 2] else if pc = 33 then [0, 1, 2] else []
noncomputable def F_X8_rules (v0 : Nat) (v1 : Int32) (v2 : Int32) (σ : sS) : Option (Int32 × sS) := (s_is σ v0 8).bind fun _ => s_run S_X8_rules (0, [.ref v0, .int v1, .int v2], σ)
theorem l_X8_rules_0 {v0 : Nat} {v1 : Int32} {v2 : Int32} {σ : sS} {z : sZ Int32} (hf : T_X8_rules_0 v0 v1 v2 σ = some z) : s_lz σ z := by
  unfold T_X8_rules_0 at hf
  obtain ⟨σ1, hh, hf⟩ := s_bind hf
  refine s_lz.tr (s_le2 (s_pf_2 hh)) ?_
  obtain ⟨q2, hh, hf⟩ := s_bind hf
  refine s_lz.tr (l_X8_noHouse hh) ?_
  obtain ⟨q3, hh, hf⟩ := s_bind hf
  refine s_lz.tr (l_X8_throwsIf hh) ?_
  rcases s_ite hf with ⟨-, hf⟩ | ⟨-, hf⟩
  · obtain ⟨q4, hh, hf⟩ := s_bind hf
    refine s_lz.tr (l_X8_in hh) ?_
    rcases s_ite hf with ⟨-, hf⟩ | ⟨-, hf⟩
    · cases hf
      exact s_le.rf
    · cases hf
      exact s_le.rf
  · cases hf
    exact s_le.rf
theorem l_X8_rules_33 {v0 : Nat} {v1 : Int32} {v2 : Int32} {w0 : Int32} {w1 : Nat} {σ : sS} {z : sZ Int32} (hf : T_X8_rules_33 v0 v1 v2 w0 w1 σ = some z) : s_lz σ z := by
  unfold T_X8_rules_33 at hf
  obtain ⟨q1, hh, hf⟩ := s_bind hf
  refine s_lz.tr (l_X8_throwsIf hh) ?_
  rcases s_ite hf with ⟨-, hf⟩ | ⟨-, hf⟩
  · obtain ⟨x2, -, hf⟩ := s_bind hf
    obtain ⟨x3, -, hf⟩ := s_bind hf
    obtain ⟨x4, -, hf⟩ := s_bind hf
    obtain ⟨σ5, hh, hf⟩ := s_bind hf
    refine s_lz.tr (s_le2 (s_si_2 hh)) ?_
    cases hf
    exact s_le.rf
  · cases hf
    exact s_le.rf
theorem l_X8_rules_s {x : sL} {z : sZ Int32} (hs : S_X8_rules x = some z) : s_lz x.2.2 z := by
  obtain ⟨pc, vs, σ⟩ := x
  unfold S_X8_rules at hs
  dsimp only at hs ⊢
  rcases s_ite hs with ⟨c, hs⟩ | ⟨-, hs⟩
  · subst c
    unfold U_X8_rules_0 at hs
    obtain ⟨a0, g0, hs⟩ := s_bind hs
    obtain ⟨a1, g1, hs⟩ := s_bind hs
    obtain ⟨a2, g2, hs⟩ := s_bind hs
    obtain ⟨u9, ge, hs⟩ := s_bind hs
    exact l_X8_rules_0 hs
  rcases s_ite hs with ⟨c, hs⟩ | ⟨-, hs⟩
  · subst c
    unfold U_X8_rules_33 at hs
    obtain ⟨a0, g0, hs⟩ := s_bind hs
    obtain ⟨a1, g1, hs⟩ := s_bind hs
    obtain ⟨a2, g2, hs⟩ := s_bind hs
    obtain ⟨a3, g3, hs⟩ := s_bind hs
    obtain ⟨a4, g4, hs⟩ := s_bind hs
    obtain ⟨u9, ge, hs⟩ := s_bind hs
    exact l_X8_rules_33 hs
  cases hs
theorem l_X8_rules {v0 : Nat} {v1 : Int32} {v2 : Int32} {σ : sS} {q : Int32 × sS} (h : F_X8_rules v0 v1 v2 σ = some q) : s_le σ q.2 := by
  unfold F_X8_rules at h
  obtain ⟨-, -, h⟩ := s_bind h
  exact s_run_ind (V := fun x r => s_le x.2.2 r.2) (fun x z r hs hk => by
    have h9 := l_X8_rules_s hs
    cases z with
    | inl y => exact s_le.tr h9 hk
    | inr q => cases hk; exact h9) h
theorem b_X8_rules {v0 : Nat} {v1 : Int32} {v2 : Int32} {σ : sS} {q : Int32 × sS} (h : F_X8_rules v0 v1 v2 σ = some q) : ∃ fs, σ.1 v0 = some (.inr (8, fs)) := by
  unfold F_X8_rules at h
  obtain ⟨u, hu, -⟩ := s_bind h
  exact s_is_to hu
set_option maxRecDepth 100000 in
set_option maxHeartbeats 4000000 in
theorem v_X8_rules_0 {G : sG} {d : Nat} {vs0 : List Value} {σ0 : sS} {v0 : Nat} {v1 : Int32} {v2 : Int32} {σ : sS} {z : sZ Int32} {r : Int32 × sS} (hf : T_X8_rules_0 v0 v1 v2 σ = some z) (k : s_K G (d + 3) M_X8_rules vs0 σ0 Y_X8_rules e_I z r) : s_V G (d + 3) M_X8_rules vs0 σ0 Y_X8_rules (0, [.ref v0, .int v1, .int v2], σ) (e_I r) := by
  have le0 : s_le σ (e_I r).2 := s_lek hem_I (l_X8_rules_0 hf) k
  refine ⟨le0, ?_⟩
  intro p e s m below meth c H locs cells slots ls X I hn1 hn2 hl
  have hn : cells + σ0.2.1 ≤ σ.2.1 ∧ slots + σ0.2.2.1 ≤ σ.2.2.1 := ⟨hn1, hn2⟩
  have hl : lv_has ls 4 [(0, .ref v0), (1, .int v1), (2, .int v2)] := hl
  have hx := X.1
  have hb : c.code = cX8_rules := X.2.1
  have hown : s.vm.findClass RX8 = some m.cls := X.2.2.2.2.2.1
  have hts := X.2.2.2.2.2.2.1
  refine W.eq (g2 := F0 m 0 ls []) rfl ?_
  unfold T_X8_rules_0 at hf
  obtain ⟨σ1, h1, hf⟩ := s_bind hf
  obtain ⟨q2, h2, hf⟩ := s_bind hf
  obtain ⟨q3, h3, hf⟩ := s_bind hf
  have le4 : s_le q3.2 (e_I r).2 := by
    refine s_lek hem_I ?_ k
    rcases s_ite hf with ⟨-, hf⟩ | ⟨-, hf⟩
    · obtain ⟨q4, hh, hf⟩ := s_bind hf
      refine s_lz.tr (l_X8_in hh) ?_
      rcases s_ite hf with ⟨-, hf⟩ | ⟨-, hf⟩
      · cases hf
        exact s_le.rf
      · cases hf
        exact s_le.rf
    · cases hf
      exact s_le.rf
  have le5 := s_le.tr (l_X8_throwsIf h3) le4
  have le6 := s_le.tr (l_X8_noHouse h2) le5
  refine lv_aload_n hx hb dX8_rules_0 rfl (lv_at hl 0 rfl) ?_
  refine lv_iconst (v := 0) hx hb dX8_rules_1 (by decide) ?_
  refine r_put X I fp_X8_3 (fun h => by cases h) h1 rfl rfl dX8_rules_2 (fun H locs I => ?_)
  have hn := s_k2 (s_pf_2 h1) hn
  refine lv_aload_n hx hb dX8_rules_5 rfl (lv_at hl 0 rfl) ?_
  refine lv_iload_n hx hb dX8_rules_6 rfl (lv_at hl 1 rfl) ?_
  refine r_callS (Y := M_X8_noHouse) (v := some (.int q2.1)) X I w_1973 my_X8_noHouse (by omega) (t_X8_noHouse (G := G) (d := d + 0) h2) rfl rfl hl.1 rfl (Nat.le_of_ble_eq_true rfl) hn le5 dX8_rules_7 (fun H locs cells slots I hn1 hn2 => ?_)
  have I : s_I G q2.2 s H locs := I
  have hn : cells + σ0.2.1 ≤ q2.2.2.1 ∧ slots + σ0.2.2.1 ≤ q2.2.2.2.1 := ⟨hn1, hn2⟩
  refine lv_iconst (v := 1) hx hb dX8_rules_10 (by decide) ?_
  refine r_callV (Y := M_X8_throwsIf) (v := some (.int q3.1)) X I w_1897 my_X8_throwsIf (by omega) (t_X8_throwsIf (G := G) (d := d + 1) h3) (b_X8_throwsIf h3) rfl rfl hl.1 rfl (Nat.le_of_ble_eq_true rfl) hn le4 dX8_rules_11 (fun H locs cells slots I hn1 hn2 => ?_)
  have I : s_I G q3.2 s H locs := I
  have hn : cells + σ0.2.1 ≤ q3.2.2.1 ∧ slots + σ0.2.2.1 ≤ q3.2.2.2.1 := ⟨hn1, hn2⟩
  rcases s_ite hf with ⟨c7, hf⟩ | ⟨c7, hf⟩
  · refine lv_if_ne (tgt := 40) hx hb dX8_rules_14 (by decide) (fun n => absurd c7 n) (fun _ => ?_)
    obtain ⟨q4, h8, hf⟩ := s_bind hf
    have le9 : s_le q4.2 (e_I r).2 := by
      refine s_lek hem_I ?_ k
      rcases s_ite hf with ⟨-, hf⟩ | ⟨-, hf⟩
      · cases hf
        exact s_le.rf
      · cases hf
        exact s_le.rf
    refine lv_aload_n hx hb dX8_rules_17 rfl (lv_at hl 0 rfl) ?_
    refine lv_iload_n hx hb dX8_rules_18 rfl (lv_at hl 2 rfl) ?_
    refine lv_iconst (v := 0) hx hb dX8_rules_19 (by decide) ?_
    refine lv_ldc (own := RX8) hx hb hown (hts _ w_1681) dX8_rules_20 ?_
    refine r_callS (Y := M_X8_in) (v := some (.int q4.1)) X I w_1909 my_X8_in (by omega) (t_X8_in (G := G) (d := d + 1) h8) rfl rfl hl.1 rfl (Nat.le_of_ble_eq_true rfl) hn le9 dX8_rules_22 (fun H locs cells slots I hn1 hn2 => ?_)
    have I : s_I G q4.2 s H locs := I
    have hn : cells + σ0.2.1 ≤ q4.2.2.1 ∧ slots + σ0.2.2.1 ≤ q4.2.2.2.1 := ⟨hn1, hn2⟩
    rcases s_ite hf with ⟨c10, hf⟩ | ⟨c10, hf⟩
    · refine lv_if_ne (tgt := 32) hx hb dX8_rules_25 (by decide) (fun n => absurd c10 n) (fun _ => ?_)
      cases hf
      have k : s_V G (d + 3) M_X8_rules vs0 σ0 Y_X8_rules (33, [.ref v0, .int v1, .int v2, .int 1, .ref v0], q4.2) (e_I r) := k
      refine lv_iconst (v := 1) hx hb dX8_rules_28 (by decide) ?_
      refine lv_goto (tgt := 33) hx hb dX8_rules_29 (by decide) ?_
      exact k.2 p e s m below meth c _ _ _ _ _ X I hn.1 hn.2 (lv_sub hl [0, 1, 2] rfl)
    · refine lv_if_ne (tgt := 32) hx hb dX8_rules_25 (by decide) (fun _ => ?_) (fun n => absurd n c10)
      cases hf
      have k : s_V G (d + 3) M_X8_rules vs0 σ0 Y_X8_rules (33, [.ref v0, .int v1, .int v2, .int 0, .ref v0], q4.2) (e_I r) := k
      refine lv_iconst (v := 0) hx hb dX8_rules_32 (by decide) ?_
      exact k.2 p e s m below meth c _ _ _ _ _ X I hn.1 hn.2 (lv_sub hl [0, 1, 2] rfl)
  · refine lv_if_ne (tgt := 40) hx hb dX8_rules_14 (by decide) (fun _ => ?_) (fun n => absurd n c7)
    cases hf
    have k : _ = r := k
    subst k
    refine lv_iconst (v := 0) hx hb dX8_rules_40 (by decide) ?_
    exact r_iret X I rfl rfl rfl hn dX8_rules_41
set_option maxRecDepth 100000 in
set_option maxHeartbeats 4000000 in
theorem v_X8_rules_33 {G : sG} {d : Nat} {vs0 : List Value} {σ0 : sS} {v0 : Nat} {v1 : Int32} {v2 : Int32} {w0 : Int32} {w1 : Nat} {σ : sS} {z : sZ Int32} {r : Int32 × sS} (hf : T_X8_rules_33 v0 v1 v2 w0 w1 σ = some z) (k : s_K G (d + 3) M_X8_rules vs0 σ0 Y_X8_rules e_I z r) : s_V G (d + 3) M_X8_rules vs0 σ0 Y_X8_rules (33, [.ref v0, .int v1, .int v2, .int w0, .ref w1], σ) (e_I r) := by
  have le0 : s_le σ (e_I r).2 := s_lek hem_I (l_X8_rules_33 hf) k
  refine ⟨le0, ?_⟩
  intro p e s m below meth c H locs cells slots ls X I hn1 hn2 hl
  have hn : cells + σ0.2.1 ≤ σ.2.1 ∧ slots + σ0.2.2.1 ≤ σ.2.2.1 := ⟨hn1, hn2⟩
  have hl : lv_has ls 4 [(0, .ref v0), (1, .int v1), (2, .int v2)] := hl
  have hx := X.1
  have hb : c.code = cX8_rules := X.2.1
  have hown : s.vm.findClass RX8 = some m.cls := X.2.2.2.2.2.1
  have hts := X.2.2.2.2.2.2.1
  refine W.eq (g2 := F0 m 33 ls [.int w0, .ref w1]) rfl ?_
  unfold T_X8_rules_33 at hf
  obtain ⟨q1, h1, hf⟩ := s_bind hf
  have le2 : s_le q1.2 (e_I r).2 := by
    refine s_lek hem_I ?_ k
    rcases s_ite hf with ⟨-, hf⟩ | ⟨-, hf⟩
    · obtain ⟨x2, -, hf⟩ := s_bind hf
      obtain ⟨x3, -, hf⟩ := s_bind hf
      obtain ⟨x4, -, hf⟩ := s_bind hf
      obtain ⟨σ5, hh, hf⟩ := s_bind hf
      refine s_lz.tr (s_le2 (s_si_2 hh)) ?_
      cases hf
      exact s_le.rf
    · cases hf
      exact s_le.rf
  refine lv_iconst (v := 2) hx hb dX8_rules_33 (by decide) ?_
  refine r_callV (Y := M_X8_throwsIf) (v := some (.int q1.1)) X I w_1897 my_X8_throwsIf (by omega) (t_X8_throwsIf (G := G) (d := d + 1) h1) (b_X8_throwsIf h1) rfl rfl hl.1 rfl (Nat.le_of_ble_eq_true rfl) hn le2 dX8_rules_34 (fun H locs cells slots I hn1 hn2 => ?_)
  have I : s_I G q1.2 s H locs := I
  have hn : cells + σ0.2.1 ≤ q1.2.2.1 ∧ slots + σ0.2.2.1 ≤ q1.2.2.2.1 := ⟨hn1, hn2⟩
  rcases s_ite hf with ⟨c3, hf⟩ | ⟨c3, hf⟩
  · refine lv_if_eq (tgt := 42) hx hb dX8_rules_37 (by decide) (fun _ => ?_) (fun n => absurd c3 n)
    obtain ⟨x2, h4, hf⟩ := s_bind hf
    obtain ⟨x3, h5, hf⟩ := s_bind hf
    obtain ⟨x4, h6, hf⟩ := s_bind hf
    obtain ⟨σ5, h7, hf⟩ := s_bind hf
    cases hf
    have k : _ = r := k
    subst k
    have le8 : s_le σ5 σ5 := s_le.rf
    refine lv_aload_n hx hb dX8_rules_42 rfl (lv_at hl 0 rfl) ?_
    refine r_gr X I fl_X8_13 h4 dX8_rules_43 ?_
    refine lv_iconst (v := 4) hx hb dX8_rules_46 (by decide) ?_
    refine lv_bipush (v := 18) hx hb dX8_rules_47 (by decide) ?_
    refine lv_iload_n hx hb dX8_rules_49 rfl (lv_at hl 1 rfl) ?_
    refine lv_imul hx hb dX8_rules_50 ?_
    refine lv_iadd hx hb dX8_rules_51 ?_
    refine r_iald X I h5 dX8_rules_52 ?_
    refine lv_istore_n (lv' := [(3, .int x3), (0, .ref v0), (1, .int v1), (2, .int v2)]) hx hb dX8_rules_53 rfl hl (by decide) rfl (fun ls hl => ?_)
    refine lv_aload_n hx hb dX8_rules_54 rfl (lv_at hl 1 rfl) ?_
    refine r_gr X I fl_X8_13 h6 dX8_rules_55 ?_
    refine lv_iconst (v := 4) hx hb dX8_rules_58 (by decide) ?_
    refine lv_bipush (v := 18) hx hb dX8_rules_59 (by decide) ?_
    refine lv_iload_n hx hb dX8_rules_61 rfl (lv_at hl 2 rfl) ?_
    refine lv_imul hx hb dX8_rules_62 ?_
    refine lv_iadd hx hb dX8_rules_63 ?_
    refine lv_iload_n hx hb dX8_rules_64 rfl (lv_at hl 3 rfl) ?_
    refine r_iast X I h7 dX8_rules_65 (fun H locs I => ?_)
    have hn := s_k2 (s_si_2 h7) hn
    refine lv_iload_n hx hb dX8_rules_66 rfl (lv_at hl 0 rfl) ?_
    exact r_iret X I rfl rfl rfl hn dX8_rules_67
  · refine lv_if_eq (tgt := 42) hx hb dX8_rules_37 (by decide) (fun n => absurd n c3) (fun _ => ?_)
    cases hf
    have k : _ = r := k
    subst k
    refine lv_iconst (v := 0) hx hb dX8_rules_40 (by decide) ?_
    exact r_iret X I rfl rfl rfl hn dX8_rules_41
theorem v_X8_rules {G : sG} {d : Nat} {vs0 : List Value} {σ0 : sS} {x : sL} {z : sZ Int32} {r : Int32 × sS} (hs : S_X8_rules x = some z) (k : s_K G (d + 3) M_X8_rules vs0 σ0 Y_X8_rules e_I z r) : s_V G (d + 3) M_X8_rules vs0 σ0 Y_X8_rules x (e_I r) := by
  obtain ⟨pc, vs, σ⟩ := x
  unfold S_X8_rules at hs
  dsimp only at hs
  rcases s_ite hs with ⟨c, hs⟩ | ⟨-, hs⟩
  · subst c
    unfold U_X8_rules_0 at hs
    obtain ⟨a0, g0, hs⟩ := s_bind hs
    obtain ⟨a1, g1, hs⟩ := s_bind hs
    obtain ⟨a2, g2, hs⟩ := s_bind hs
    obtain ⟨u9, ge, hs⟩ := s_bind hs
    rw [g_r_to g0, g_i_to g1, g_i_to g2, g_e_to ge]
    exact v_X8_rules_0 hs k
  rcases s_ite hs with ⟨c, hs⟩ | ⟨-, hs⟩
  · subst c
    unfold U_X8_rules_33 at hs
    obtain ⟨a0, g0, hs⟩ := s_bind hs
    obtain ⟨a1, g1, hs⟩ := s_bind hs
    obtain ⟨a2, g2, hs⟩ := s_bind hs
    obtain ⟨a3, g3, hs⟩ := s_bind hs
    obtain ⟨a4, g4, hs⟩ := s_bind hs
    obtain ⟨u9, ge, hs⟩ := s_bind hs
    rw [g_r_to g0, g_i_to g1, g_i_to g2, g_i_to g3, g_r_to g4, g_e_to ge]
    exact v_X8_rules_33 hs k
  cases hs
theorem t_X8_rules {G : sG} {d : Nat} {v0 : Nat} {v1 : Int32} {v2 : Int32} {σ : sS} {q : Int32 × sS} (h : F_X8_rules v0 v1 v2 σ = some q) : s_T G (d + 3) M_X8_rules [.ref v0, .int v1, .int v2] σ (e_I q) := by
  unfold F_X8_rules at h
  obtain ⟨-, -, h⟩ := s_bind h
  exact s_ofV rfl (by decide) (Nat.le_of_ble_eq_true rfl) rfl rfl (s_run_ind (V := fun x r => s_V G (d + 3) M_X8_rules [.ref v0, .int v1, .int v2] σ Y_X8_rules x (e_I r)) (fun x z r hs hk => v_X8_rules hs (by cases z <;> exact hk)) h)
/-! X1_setPrice -/
noncomputable def T_X1_setPrice_0 (v0 : Nat) (v1 : Int32) (v2 : Int32) (v3 : Int32) (σ : sS) : Option (sZ Unit) :=
  if v1 < 0 then (some (.inr ((), σ)))
  else (if (3 : Int32) ≤ v1 then (some (.inr ((), σ)))
  else (if v2 < 0 then (some (.inr ((), σ)))
  else (if (17 : Int32) ≤ v2 then (some (.inr ((), σ)))
  else ((s_fr σ v0 1 12).bind fun x1 =>
  (s_si σ x1 ((v1 * 17) + v2) v3).bind fun σ2 =>
  some (.inr ((), σ2))))))
noncomputable def U_X1_setPrice_0 (vs : List Value) (σ : sS) : Option (sZ Unit) := (g_r vs).bind fun a0 => (g_i a0.2).bind fun a1 => (g_i a1.2).bind fun a2 => (g_i a2.2).bind fun a3 => (g_e a3.2).bind fun _ => T_X1_setPrice_0 a0.1 a1.1 a2.1 a3.1 σ
noncomputable def S_X1_setPrice (x : sL) : Option (sZ Unit) := if x.1 = 0 then U_X1_setPrice_0 x.2.1 x.2.2 else none
def Y_X1_setPrice (pc : Nat) : List Nat := if pc = 0 then [0, 1, 2, 3] else []
noncomputable def F_X1_setPrice (v0 : Nat) (v1 : Int32) (v2 : Int32) (v3 : Int32) (σ : sS) : Option (Unit × sS) := (s_is σ v0 1).bind fun _ => s_run S_X1_setPrice (0, [.ref v0, .int v1, .int v2, .int v3], σ)
theorem l_X1_setPrice_0 {v0 : Nat} {v1 : Int32} {v2 : Int32} {v3 : Int32} {σ : sS} {z : sZ Unit} (hf : T_X1_setPrice_0 v0 v1 v2 v3 σ = some z) : s_lz σ z := by
  unfold T_X1_setPrice_0 at hf
  rcases s_ite hf with ⟨-, hf⟩ | ⟨-, hf⟩
  · cases hf
    exact s_le.rf
  · rcases s_ite hf with ⟨-, hf⟩ | ⟨-, hf⟩
    · cases hf
      exact s_le.rf
    · rcases s_ite hf with ⟨-, hf⟩ | ⟨-, hf⟩
      · cases hf
        exact s_le.rf
      · rcases s_ite hf with ⟨-, hf⟩ | ⟨-, hf⟩
        · cases hf
          exact s_le.rf
        · obtain ⟨x1, -, hf⟩ := s_bind hf
          obtain ⟨σ2, hh, hf⟩ := s_bind hf
          refine s_lz.tr (s_le2 (s_si_2 hh)) ?_
          cases hf
          exact s_le.rf
theorem l_X1_setPrice_s {x : sL} {z : sZ Unit} (hs : S_X1_setPrice x = some z) : s_lz x.2.2 z := by
  obtain ⟨pc, vs, σ⟩ := x
  unfold S_X1_setPrice at hs
  dsimp only at hs ⊢
  rcases s_ite hs with ⟨c, hs⟩ | ⟨-, hs⟩
  · subst c
    unfold U_X1_setPrice_0 at hs
    obtain ⟨a0, g0, hs⟩ := s_bind hs
    obtain ⟨a1, g1, hs⟩ := s_bind hs
    obtain ⟨a2, g2, hs⟩ := s_bind hs
    obtain ⟨a3, g3, hs⟩ := s_bind hs
    obtain ⟨u9, ge, hs⟩ := s_bind hs
    exact l_X1_setPrice_0 hs
  cases hs
theorem l_X1_setPrice {v0 : Nat} {v1 : Int32} {v2 : Int32} {v3 : Int32} {σ : sS} {q : Unit × sS} (h : F_X1_setPrice v0 v1 v2 v3 σ = some q) : s_le σ q.2 := by
  unfold F_X1_setPrice at h
  obtain ⟨-, -, h⟩ := s_bind h
  exact s_run_ind (V := fun x r => s_le x.2.2 r.2) (fun x z r hs hk => by
    have h9 := l_X1_setPrice_s hs
    cases z with
    | inl y => exact s_le.tr h9 hk
    | inr q => cases hk; exact h9) h
theorem b_X1_setPrice {v0 : Nat} {v1 : Int32} {v2 : Int32} {v3 : Int32} {σ : sS} {q : Unit × sS} (h : F_X1_setPrice v0 v1 v2 v3 σ = some q) : ∃ fs, σ.1 v0 = some (.inr (1, fs)) := by
  unfold F_X1_setPrice at h
  obtain ⟨u, hu, -⟩ := s_bind h
  exact s_is_to hu
set_option maxRecDepth 100000 in
set_option maxHeartbeats 4000000 in
theorem v_X1_setPrice_0 {G : sG} {d : Nat} {vs0 : List Value} {σ0 : sS} {v0 : Nat} {v1 : Int32} {v2 : Int32} {v3 : Int32} {σ : sS} {z : sZ Unit} {r : Unit × sS} (hf : T_X1_setPrice_0 v0 v1 v2 v3 σ = some z) (k : s_K G (d + 1) M_X1_setPrice vs0 σ0 Y_X1_setPrice e_V z r) : s_V G (d + 1) M_X1_setPrice vs0 σ0 Y_X1_setPrice (0, [.ref v0, .int v1, .int v2, .int v3], σ) (e_V r) := by
  have le0 : s_le σ (e_V r).2 := s_lek hem_V (l_X1_setPrice_0 hf) k
  refine ⟨le0, ?_⟩
  intro p e s m below meth c H locs cells slots ls X I hn1 hn2 hl
  have hn : cells + σ0.2.1 ≤ σ.2.1 ∧ slots + σ0.2.2.1 ≤ σ.2.2.1 := ⟨hn1, hn2⟩
  have hl : lv_has ls 4 [(0, .ref v0), (1, .int v1), (2, .int v2), (3, .int v3)] := hl
  have hx := X.1
  have hb : c.code = cX1_setPrice := X.2.1
  have hown : s.vm.findClass RX1 = some m.cls := X.2.2.2.2.2.1
  have hts := X.2.2.2.2.2.2.1
  refine W.eq (g2 := F0 m 0 ls []) rfl ?_
  unfold T_X1_setPrice_0 at hf
  refine lv_iload_n hx hb dX1_setPrice_0 rfl (lv_at hl 1 rfl) ?_
  rcases s_ite hf with ⟨c1, hf⟩ | ⟨c1, hf⟩
  · refine lv_if_lt (tgt := 31) hx hb dX1_setPrice_1 (by decide) (fun _ => ?_) (fun n => absurd c1 n)
    cases hf
    have k : _ = r := k
    subst k
    exact r_vret X I rfl rfl hn dX1_setPrice_31
  · refine lv_if_lt (tgt := 31) hx hb dX1_setPrice_1 (by decide) (fun n => absurd n c1) (fun _ => ?_)
    refine lv_iload_n hx hb dX1_setPrice_4 rfl (lv_at hl 1 rfl) ?_
    refine lv_iconst (v := 3) hx hb dX1_setPrice_5 (by decide) ?_
    rcases s_ite hf with ⟨c2, hf⟩ | ⟨c2, hf⟩
    · refine lv_icmp_ge (tgt := 31) hx hb dX1_setPrice_6 (by decide) (fun _ => ?_) (fun n => absurd c2 n)
      cases hf
      have k : _ = r := k
      subst k
      exact r_vret X I rfl rfl hn dX1_setPrice_31
    · refine lv_icmp_ge (tgt := 31) hx hb dX1_setPrice_6 (by decide) (fun n => absurd n c2) (fun _ => ?_)
      refine lv_iload_n hx hb dX1_setPrice_9 rfl (lv_at hl 2 rfl) ?_
      rcases s_ite hf with ⟨c3, hf⟩ | ⟨c3, hf⟩
      · refine lv_if_lt (tgt := 31) hx hb dX1_setPrice_10 (by decide) (fun _ => ?_) (fun n => absurd c3 n)
        cases hf
        have k : _ = r := k
        subst k
        exact r_vret X I rfl rfl hn dX1_setPrice_31
      · refine lv_if_lt (tgt := 31) hx hb dX1_setPrice_10 (by decide) (fun n => absurd n c3) (fun _ => ?_)
        refine lv_iload_n hx hb dX1_setPrice_13 rfl (lv_at hl 2 rfl) ?_
        refine lv_bipush (v := 17) hx hb dX1_setPrice_14 (by decide) ?_
        rcases s_ite hf with ⟨c4, hf⟩ | ⟨c4, hf⟩
        · refine lv_icmp_ge (tgt := 31) hx hb dX1_setPrice_16 (by decide) (fun _ => ?_) (fun n => absurd c4 n)
          cases hf
          have k : _ = r := k
          subst k
          exact r_vret X I rfl rfl hn dX1_setPrice_31
        · refine lv_icmp_ge (tgt := 31) hx hb dX1_setPrice_16 (by decide) (fun n => absurd n c4) (fun _ => ?_)
          obtain ⟨x1, h5, hf⟩ := s_bind hf
          obtain ⟨σ2, h6, hf⟩ := s_bind hf
          cases hf
          have k : _ = r := k
          subst k
          have le7 : s_le σ2 σ2 := s_le.rf
          refine lv_aload_n hx hb dX1_setPrice_19 rfl (lv_at hl 0 rfl) ?_
          refine r_gr X I fl_X1_35 h5 dX1_setPrice_20 ?_
          refine lv_iload_n hx hb dX1_setPrice_23 rfl (lv_at hl 1 rfl) ?_
          refine lv_bipush (v := 17) hx hb dX1_setPrice_24 (by decide) ?_
          refine lv_imul hx hb dX1_setPrice_26 ?_
          refine lv_iload_n hx hb dX1_setPrice_27 rfl (lv_at hl 2 rfl) ?_
          refine lv_iadd hx hb dX1_setPrice_28 ?_
          refine lv_iload_n hx hb dX1_setPrice_29 rfl (lv_at hl 3 rfl) ?_
          refine r_iast X I h6 dX1_setPrice_30 (fun H locs I => ?_)
          have hn := s_k2 (s_si_2 h6) hn
          exact r_vret X I rfl rfl hn dX1_setPrice_31
theorem v_X1_setPrice {G : sG} {d : Nat} {vs0 : List Value} {σ0 : sS} {x : sL} {z : sZ Unit} {r : Unit × sS} (hs : S_X1_setPrice x = some z) (k : s_K G (d + 1) M_X1_setPrice vs0 σ0 Y_X1_setPrice e_V z r) : s_V G (d + 1) M_X1_setPrice vs0 σ0 Y_X1_setPrice x (e_V r) := by
  obtain ⟨pc, vs, σ⟩ := x
  unfold S_X1_setPrice at hs
  dsimp only at hs
  rcases s_ite hs with ⟨c, hs⟩ | ⟨-, hs⟩
  · subst c
    unfold U_X1_setPrice_0 at hs
    obtain ⟨a0, g0, hs⟩ := s_bind hs
    obtain ⟨a1, g1, hs⟩ := s_bind hs
    obtain ⟨a2, g2, hs⟩ := s_bind hs
    obtain ⟨a3, g3, hs⟩ := s_bind hs
    obtain ⟨u9, ge, hs⟩ := s_bind hs
    rw [g_r_to g0, g_i_to g1, g_i_to g2, g_i_to g3, g_e_to ge]
    exact v_X1_setPrice_0 hs k
  cases hs
theorem t_X1_setPrice {G : sG} {d : Nat} {v0 : Nat} {v1 : Int32} {v2 : Int32} {v3 : Int32} {σ : sS} {q : Unit × sS} (h : F_X1_setPrice v0 v1 v2 v3 σ = some q) : s_T G (d + 1) M_X1_setPrice [.ref v0, .int v1, .int v2, .int v3] σ (e_V q) := by
  unfold F_X1_setPrice at h
  obtain ⟨-, -, h⟩ := s_bind h
  exact s_ofV rfl (by decide) (Nat.le_of_ble_eq_true rfl) rfl rfl (s_run_ind (V := fun x r => s_V G (d + 1) M_X1_setPrice [.ref v0, .int v1, .int v2, .int v3] σ Y_X1_setPrice x (e_V r)) (fun x z r hs hk => v_X1_setPrice hs (by cases z <;> exact hk)) h)
/-! X7_price -/
noncomputable def T_X7_price_0 (v0 : Nat) (v1 : Int32) (v2 : Int32) (v3 : Int32) (σ : sS) : Option (sZ (Int32 ⊕ String)) :=
  (F_X7_needHouse v0 v1 σ).bind fun q1 => s_sum q1.1 (fun x2 => if v2 < 0 then (some (.inr (.inr "java/lang/IndexOutOfBoundsException", s_ex q1.2)))
  else (if v2 ≤ 16 then (if v3 < 0 then (some (.inr (.inr "java/lang/IllegalArgumentException", s_ex q1.2)))
  else (if v2 = 16 then (some (.inl (43, [.ref v0, .int v1, .int v2, .int v3, .int 9, .int v3], q1.2)))
  else (some (.inl (43, [.ref v0, .int v1, .int v2, .int v3, .int 99, .int v3], q1.2)))))
  else (some (.inr (.inr "java/lang/IndexOutOfBoundsException", s_ex q1.2))))) (fun E3 => some (.inr (.inr E3, q1.2)))
noncomputable def U_X7_price_0 (vs : List Value) (σ : sS) : Option (sZ (Int32 ⊕ String)) := (g_r vs).bind fun a0 => (g_i a0.2).bind fun a1 => (g_i a1.2).bind fun a2 => (g_i a2.2).bind fun a3 => (g_e a3.2).bind fun _ => T_X7_price_0 a0.1 a1.1 a2.1 a3.1 σ
noncomputable def T_X7_price_43 (v0 : Nat) (v1 : Int32) (v2 : Int32) (v3 : Int32) (w0 : Int32) (w1 : Int32) (σ : sS) : Option (sZ (Int32 ⊕ String)) :=
  if w1 ≤ w0 then ((s_fr σ v0 7 1).bind fun x1 =>
  (F_X1_priceOf x1 v1 v2 σ).bind fun q2 =>
  (s_fr q2.2 v0 7 1).bind fun x3 =>
  (F_X1_setPrice x3 v1 v2 v3 q2.2).bind fun q4 =>
  some (.inr (.inl q2.1, q4.2)))
  else (some (.inr (.inr "java/lang/IllegalArgumentException", s_ex σ)))
noncomputable def U_X7_price_43 (vs : List Value) (σ : sS) : Option (sZ (Int32 ⊕ String)) := (g_r vs).bind fun a0 => (g_i a0.2).bind fun a1 => (g_i a1.2).bind fun a2 => (g_i a2.2).bind fun a3 => (g_i a3.2).bind fun a4 => (g_i a4.2).bind fun a5 => (g_e a5.2).bind fun _ => T_X7_price_43 a0.1 a1.1 a2.1 a3.1 a4.1 a5.1 σ
noncomputable def S_X7_price (x : sL) : Option (sZ (Int32 ⊕ String)) := if x.1 = 0 then U_X7_price_0 x.2.1 x.2.2 else if x.1 = 43 then U_X7_price_43 x.2.1 x.2.2 else none
def Y_X7_price (pc : Nat) : List Nat := if pc = 0 then [0, 1, 2, 3] else if pc = 43 then [0, 1, 2, 3] else []
noncomputable def F_X7_price (v0 : Nat) (v1 : Int32) (v2 : Int32) (v3 : Int32) (σ : sS) : Option ((Int32 ⊕ String) × sS) := (s_is σ v0 7).bind fun _ => s_run S_X7_price (0, [.ref v0, .int v1, .int v2, .int v3], σ)
theorem l_X7_price_0 {v0 : Nat} {v1 : Int32} {v2 : Int32} {v3 : Int32} {σ : sS} {z : sZ (Int32 ⊕ String)} (hf : T_X7_price_0 v0 v1 v2 v3 σ = some z) : s_lz σ z := by
  unfold T_X7_price_0 at hf
  obtain ⟨q1, hh, hf⟩ := s_bind hf
  refine s_lz.tr (l_X7_needHouse hh) ?_
  rcases s_sum_some hf with ⟨x2, -, hf⟩ | ⟨E3, -, hf⟩
  · rcases s_ite hf with ⟨-, hf⟩ | ⟨-, hf⟩
    · cases hf
      exact s_ex_le
    · rcases s_ite hf with ⟨-, hf⟩ | ⟨-, hf⟩
      · rcases s_ite hf with ⟨-, hf⟩ | ⟨-, hf⟩
        · cases hf
          exact s_ex_le
        · rcases s_ite hf with ⟨-, hf⟩ | ⟨-, hf⟩
          · cases hf
            exact s_le.rf
          · cases hf
            exact s_le.rf
      · cases hf
        exact s_ex_le
  · cases hf
    exact s_le.rf
theorem l_X7_price_43 {v0 : Nat} {v1 : Int32} {v2 : Int32} {v3 : Int32} {w0 : Int32} {w1 : Int32} {σ : sS} {z : sZ (Int32 ⊕ String)} (hf : T_X7_price_43 v0 v1 v2 v3 w0 w1 σ = some z) : s_lz σ z := by
  unfold T_X7_price_43 at hf
  rcases s_ite hf with ⟨-, hf⟩ | ⟨-, hf⟩
  · obtain ⟨x1, -, hf⟩ := s_bind hf
    obtain ⟨q2, hh, hf⟩ := s_bind hf
    refine s_lz.tr (l_X1_priceOf hh) ?_
    obtain ⟨x3, -, hf⟩ := s_bind hf
    obtain ⟨q4, hh, hf⟩ := s_bind hf
    refine s_lz.tr (l_X1_setPrice hh) ?_
    cases hf
    exact s_le.rf
  · cases hf
    exact s_ex_le
theorem l_X7_price_s {x : sL} {z : sZ (Int32 ⊕ String)} (hs : S_X7_price x = some z) : s_lz x.2.2 z := by
  obtain ⟨pc, vs, σ⟩ := x
  unfold S_X7_price at hs
  dsimp only at hs ⊢
  rcases s_ite hs with ⟨c, hs⟩ | ⟨-, hs⟩
  · subst c
    unfold U_X7_price_0 at hs
    obtain ⟨a0, g0, hs⟩ := s_bind hs
    obtain ⟨a1, g1, hs⟩ := s_bind hs
    obtain ⟨a2, g2, hs⟩ := s_bind hs
    obtain ⟨a3, g3, hs⟩ := s_bind hs
    obtain ⟨u9, ge, hs⟩ := s_bind hs
    exact l_X7_price_0 hs
  rcases s_ite hs with ⟨c, hs⟩ | ⟨-, hs⟩
  · subst c
    unfold U_X7_price_43 at hs
    obtain ⟨a0, g0, hs⟩ := s_bind hs
    obtain ⟨a1, g1, hs⟩ := s_bind hs
    obtain ⟨a2, g2, hs⟩ := s_bind hs
    obtain ⟨a3, g3, hs⟩ := s_bind hs
    obtain ⟨a4, g4, hs⟩ := s_bind hs
    obtain ⟨a5, g5, hs⟩ := s_bind hs
    obtain ⟨u9, ge, hs⟩ := s_bind hs
    exact l_X7_price_43 hs
  cases hs
theorem l_X7_price {v0 : Nat} {v1 : Int32} {v2 : Int32} {v3 : Int32} {σ : sS} {q : (Int32 ⊕ String) × sS} (h : F_X7_price v0 v1 v2 v3 σ = some q) : s_le σ q.2 := by
  unfold F_X7_price at h
  obtain ⟨-, -, h⟩ := s_bind h
  exact s_run_ind (V := fun x r => s_le x.2.2 r.2) (fun x z r hs hk => by
    have h9 := l_X7_price_s hs
    cases z with
    | inl y => exact s_le.tr h9 hk
    | inr q => cases hk; exact h9) h
theorem b_X7_price {v0 : Nat} {v1 : Int32} {v2 : Int32} {v3 : Int32} {σ : sS} {q : (Int32 ⊕ String) × sS} (h : F_X7_price v0 v1 v2 v3 σ = some q) : ∃ fs, σ.1 v0 = some (.inr (7, fs)) := by
  unfold F_X7_price at h
  obtain ⟨u, hu, -⟩ := s_bind h
  exact s_is_to hu
set_option maxRecDepth 100000 in
set_option maxHeartbeats 4000000 in
theorem v_X7_price_0 {G : sG} {d : Nat} {vs0 : List Value} {σ0 : sS} {v0 : Nat} {v1 : Int32} {v2 : Int32} {v3 : Int32} {σ : sS} {z : sZ (Int32 ⊕ String)} {r : (Int32 ⊕ String) × sS} (hf : T_X7_price_0 v0 v1 v2 v3 σ = some z) (k : s_K G (d + 2) M_X7_price vs0 σ0 Y_X7_price e_IX z r) : s_V G (d + 2) M_X7_price vs0 σ0 Y_X7_price (0, [.ref v0, .int v1, .int v2, .int v3], σ) (e_IX r) := by
  have le0 : s_le σ (e_IX r).2 := s_lek hem_IX (l_X7_price_0 hf) k
  refine ⟨le0, ?_⟩
  intro p e s m below meth c H locs cells slots ls X I hn1 hn2 hl
  have hn : cells + σ0.2.1 ≤ σ.2.1 ∧ slots + σ0.2.2.1 ≤ σ.2.2.1 := ⟨hn1, hn2⟩
  have hl : lv_has ls 5 [(0, .ref v0), (1, .int v1), (2, .int v2), (3, .int v3)] := hl
  have hx := X.1
  have hb : c.code = cX7_price := X.2.1
  have hown : s.vm.findClass RX7 = some m.cls := X.2.2.2.2.2.1
  have hts := X.2.2.2.2.2.2.1
  refine W.eq (g2 := F0 m 0 ls []) rfl ?_
  unfold T_X7_price_0 at hf
  obtain ⟨q1, h1, hf⟩ := s_bind hf
  refine lv_aload_n hx hb dX7_price_0 rfl (lv_at hl 0 rfl) ?_
  refine lv_iload_n hx hb dX7_price_1 rfl (lv_at hl 1 rfl) ?_
  rcases s_sum_some hf with ⟨x2, hq2, hf⟩ | ⟨E3, hq2, hf⟩
  · have le3 : s_le q1.2 (e_IX r).2 := by
      refine s_lek hem_IX ?_ k
      rcases s_ite hf with ⟨-, hf⟩ | ⟨-, hf⟩
      · cases hf
        exact s_ex_le
      · rcases s_ite hf with ⟨-, hf⟩ | ⟨-, hf⟩
        · rcases s_ite hf with ⟨-, hf⟩ | ⟨-, hf⟩
          · cases hf
            exact s_ex_le
          · rcases s_ite hf with ⟨-, hf⟩ | ⟨-, hf⟩
            · cases hf
              exact s_le.rf
            · cases hf
              exact s_le.rf
        · cases hf
          exact s_ex_le
    refine r_callV (Y := M_X7_needHouse) (v := none) X I w_1087 my_X7_needHouse (by omega) (t_X7_needHouse (G := G) (d := d + 0) h1) (b_X7_needHouse h1) (e_VX_l hq2) rfl hl.1 rfl (Nat.le_of_ble_eq_true rfl) hn le3 dX7_price_2 (fun H locs cells slots I hn1 hn2 => ?_)
    have I : s_I G q1.2 s H locs := I
    have hn : cells + σ0.2.1 ≤ q1.2.2.1 ∧ slots + σ0.2.2.1 ≤ q1.2.2.2.1 := ⟨hn1, hn2⟩
    refine lv_iload_n hx hb dX7_price_5 rfl (lv_at hl 2 rfl) ?_
    rcases s_ite hf with ⟨c4, hf⟩ | ⟨c4, hf⟩
    · refine lv_if_lt (tgt := 15) hx hb dX7_price_6 (by decide) (fun _ => ?_) (fun n => absurd c4 n)
      cases hf
      have k : _ = r := k
      subst k
      exact r_throw X I rfl th_X7_156_158 hl.1 (Nat.le_of_ble_eq_true rfl) hn rfl dX7_price_15 dX7_price_18 dX7_price_19 dX7_price_21 dX7_price_24
    · refine lv_if_lt (tgt := 15) hx hb dX7_price_6 (by decide) (fun n => absurd n c4) (fun _ => ?_)
      refine lv_iload_n hx hb dX7_price_9 rfl (lv_at hl 2 rfl) ?_
      refine lv_bipush (v := 16) hx hb dX7_price_10 (by decide) ?_
      rcases s_ite hf with ⟨c5, hf⟩ | ⟨c5, hf⟩
      · refine lv_icmp_le (tgt := 25) hx hb dX7_price_12 (by decide) (fun _ => ?_) (fun n => absurd c5 n)
        refine lv_iload_n hx hb dX7_price_25 rfl (lv_at hl 3 rfl) ?_
        rcases s_ite hf with ⟨c6, hf⟩ | ⟨c6, hf⟩
        · refine lv_if_lt (tgt := 46) hx hb dX7_price_26 (by decide) (fun _ => ?_) (fun n => absurd c6 n)
          cases hf
          have k : _ = r := k
          subst k
          exact r_throw X I rfl th_X7_96_161 hl.1 (Nat.le_of_ble_eq_true rfl) hn rfl dX7_price_46 dX7_price_49 dX7_price_50 dX7_price_52 dX7_price_55
        · refine lv_if_lt (tgt := 46) hx hb dX7_price_26 (by decide) (fun n => absurd n c6) (fun _ => ?_)
          refine lv_iload_n hx hb dX7_price_29 rfl (lv_at hl 3 rfl) ?_
          refine lv_iload_n hx hb dX7_price_30 rfl (lv_at hl 2 rfl) ?_
          refine lv_bipush (v := 16) hx hb dX7_price_31 (by decide) ?_
          rcases s_ite hf with ⟨c7, hf⟩ | ⟨c7, hf⟩
          · refine lv_icmp_ne (tgt := 41) hx hb dX7_price_33 (by decide) (fun n => absurd c7 n) (fun _ => ?_)
            cases hf
            have k : s_V G (d + 2) M_X7_price vs0 σ0 Y_X7_price (43, [.ref v0, .int v1, .int v2, .int v3, .int 9, .int v3], q1.2) (e_IX r) := k
            refine lv_bipush (v := 9) hx hb dX7_price_36 (by decide) ?_
            refine lv_goto (tgt := 43) hx hb dX7_price_38 (by decide) ?_
            exact k.2 p e s m below meth c _ _ _ _ _ X I hn.1 hn.2 (lv_sub hl [0, 1, 2, 3] rfl)
          · refine lv_icmp_ne (tgt := 41) hx hb dX7_price_33 (by decide) (fun _ => ?_) (fun n => absurd n c7)
            cases hf
            have k : s_V G (d + 2) M_X7_price vs0 σ0 Y_X7_price (43, [.ref v0, .int v1, .int v2, .int v3, .int 99, .int v3], q1.2) (e_IX r) := k
            refine lv_bipush (v := 99) hx hb dX7_price_41 (by decide) ?_
            exact k.2 p e s m below meth c _ _ _ _ _ X I hn.1 hn.2 (lv_sub hl [0, 1, 2, 3] rfl)
      · refine lv_icmp_le (tgt := 25) hx hb dX7_price_12 (by decide) (fun n => absurd n c5) (fun _ => ?_)
        cases hf
        have k : _ = r := k
        subst k
        exact r_throw X I rfl th_X7_156_158 hl.1 (Nat.le_of_ble_eq_true rfl) hn rfl dX7_price_15 dX7_price_18 dX7_price_19 dX7_price_21 dX7_price_24
  · cases hf
    have k : _ = r := k
    subst k
    exact r_callVx (Y := M_X7_needHouse) X I rfl w_1087 my_X7_needHouse (by omega) (t_X7_needHouse (G := G) (d := d + 0) h1) (b_X7_needHouse h1) (e_VX_r hq2) rfl hl.1 rfl (Nat.le_of_ble_eq_true rfl) hn rfl dX7_price_2
set_option maxRecDepth 100000 in
set_option maxHeartbeats 4000000 in
theorem v_X7_price_43 {G : sG} {d : Nat} {vs0 : List Value} {σ0 : sS} {v0 : Nat} {v1 : Int32} {v2 : Int32} {v3 : Int32} {w0 : Int32} {w1 : Int32} {σ : sS} {z : sZ (Int32 ⊕ String)} {r : (Int32 ⊕ String) × sS} (hf : T_X7_price_43 v0 v1 v2 v3 w0 w1 σ = some z) (k : s_K G (d + 2) M_X7_price vs0 σ0 Y_X7_price e_IX z r) : s_V G (d + 2) M_X7_price vs0 σ0 Y_X7_price (43, [.ref v0, .int v1, .int v2, .int v3, .int w0, .int w1], σ) (e_IX r) := by
  have le0 : s_le σ (e_IX r).2 := s_lek hem_IX (l_X7_price_43 hf) k
  refine ⟨le0, ?_⟩
  intro p e s m below meth c H locs cells slots ls X I hn1 hn2 hl
  have hn : cells + σ0.2.1 ≤ σ.2.1 ∧ slots + σ0.2.2.1 ≤ σ.2.2.1 := ⟨hn1, hn2⟩
  have hl : lv_has ls 5 [(0, .ref v0), (1, .int v1), (2, .int v2), (3, .int v3)] := hl
  have hx := X.1
  have hb : c.code = cX7_price := X.2.1
  have hown : s.vm.findClass RX7 = some m.cls := X.2.2.2.2.2.1
  have hts := X.2.2.2.2.2.2.1
  refine W.eq (g2 := F0 m 43 ls [.int w0, .int w1]) rfl ?_
  unfold T_X7_price_43 at hf
  rcases s_ite hf with ⟨c1, hf⟩ | ⟨c1, hf⟩
  · refine lv_icmp_le (tgt := 56) hx hb dX7_price_43 (by decide) (fun _ => ?_) (fun n => absurd c1 n)
    obtain ⟨x1, h2, hf⟩ := s_bind hf
    obtain ⟨q2, h3, hf⟩ := s_bind hf
    obtain ⟨x3, h4, hf⟩ := s_bind hf
    obtain ⟨q4, h5, hf⟩ := s_bind hf
    cases hf
    have k : _ = r := k
    subst k
    have le6 : s_le q4.2 q4.2 := s_le.rf
    have le7 := s_le.tr (l_X1_setPrice h5) le6
    refine lv_aload_n hx hb dX7_price_56 rfl (lv_at hl 0 rfl) ?_
    refine r_gr X I fl_X7_19 h2 dX7_price_57 ?_
    refine lv_iload_n hx hb dX7_price_60 rfl (lv_at hl 1 rfl) ?_
    refine lv_iload_n hx hb dX7_price_61 rfl (lv_at hl 2 rfl) ?_
    refine r_callV (Y := M_X1_priceOf) (v := some (.int q2.1)) X I w_1103 my_X1_priceOf (by omega) (t_X1_priceOf (G := G) (d := d + 0) h3) (b_X1_priceOf h3) rfl rfl hl.1 rfl (Nat.le_of_ble_eq_true rfl) hn le7 dX7_price_62 (fun H locs cells slots I hn1 hn2 => ?_)
    have I : s_I G q2.2 s H locs := I
    have hn : cells + σ0.2.1 ≤ q2.2.2.1 ∧ slots + σ0.2.2.1 ≤ q2.2.2.2.1 := ⟨hn1, hn2⟩
    refine lv_istore (lv' := [(4, .int q2.1), (0, .ref v0), (1, .int v1), (2, .int v2), (3, .int v3)]) hx hb dX7_price_65 hl (by decide) rfl (fun ls hl => ?_)
    refine lv_aload_n hx hb dX7_price_67 rfl (lv_at hl 1 rfl) ?_
    refine r_gr X I fl_X7_19 h4 dX7_price_68 ?_
    refine lv_iload_n hx hb dX7_price_71 rfl (lv_at hl 2 rfl) ?_
    refine lv_iload_n hx hb dX7_price_72 rfl (lv_at hl 3 rfl) ?_
    refine lv_iload_n hx hb dX7_price_73 rfl (lv_at hl 4 rfl) ?_
    refine r_callV (Y := M_X1_setPrice) (v := none) X I w_1104 my_X1_setPrice (by omega) (t_X1_setPrice (G := G) (d := d + 0) h5) (b_X1_setPrice h5) rfl rfl hl.1 rfl (Nat.le_of_ble_eq_true rfl) hn le6 dX7_price_74 (fun H locs cells slots I hn1 hn2 => ?_)
    have I : s_I G q4.2 s H locs := I
    have hn : cells + σ0.2.1 ≤ q4.2.2.1 ∧ slots + σ0.2.2.1 ≤ q4.2.2.2.1 := ⟨hn1, hn2⟩
    refine lv_iload hx hb dX7_price_77 (lv_at hl 0 rfl) ?_
    exact r_iret X I rfl rfl rfl hn dX7_price_79
  · refine lv_icmp_le (tgt := 56) hx hb dX7_price_43 (by decide) (fun n => absurd n c1) (fun _ => ?_)
    cases hf
    have k : _ = r := k
    subst k
    exact r_throw X I rfl th_X7_96_161 hl.1 (Nat.le_of_ble_eq_true rfl) hn rfl dX7_price_46 dX7_price_49 dX7_price_50 dX7_price_52 dX7_price_55
theorem v_X7_price {G : sG} {d : Nat} {vs0 : List Value} {σ0 : sS} {x : sL} {z : sZ (Int32 ⊕ String)} {r : (Int32 ⊕ String) × sS} (hs : S_X7_price x = some z) (k : s_K G (d + 2) M_X7_price vs0 σ0 Y_X7_price e_IX z r) : s_V G (d + 2) M_X7_price vs0 σ0 Y_X7_price x (e_IX r) := by
  obtain ⟨pc, vs, σ⟩ := x
  unfold S_X7_price at hs
  dsimp only at hs
  rcases s_ite hs with ⟨c, hs⟩ | ⟨-, hs⟩
  · subst c
    unfold U_X7_price_0 at hs
    obtain ⟨a0, g0, hs⟩ := s_bind hs
    obtain ⟨a1, g1, hs⟩ := s_bind hs
    obtain ⟨a2, g2, hs⟩ := s_bind hs
    obtain ⟨a3, g3, hs⟩ := s_bind hs
    obtain ⟨u9, ge, hs⟩ := s_bind hs
    rw [g_r_to g0, g_i_to g1, g_i_to g2, g_i_to g3, g_e_to ge]
    exact v_X7_price_0 hs k
  rcases s_ite hs with ⟨c, hs⟩ | ⟨-, hs⟩
  · subst c
    unfold U_X7_price_43 at hs
    obtain ⟨a0, g0, hs⟩ := s_bind hs
    obtain ⟨a1, g1, hs⟩ := s_bind hs
    obtain ⟨a2, g2, hs⟩ := s_bind hs
    obtain ⟨a3, g3, hs⟩ := s_bind hs
    obtain ⟨a4, g4, hs⟩ := s_bind hs
    obtain ⟨a5, g5, hs⟩ := s_bind hs
    obtain ⟨u9, ge, hs⟩ := s_bind hs
    rw [g_r_to g0, g_i_to g1, g_i_to g2, g_i_to g3, g_i_to g4, g_i_to g5, g_e_to ge]
    exact v_X7_price_43 hs k
  cases hs
theorem t_X7_price {G : sG} {d : Nat} {v0 : Nat} {v1 : Int32} {v2 : Int32} {v3 : Int32} {σ : sS} {q : (Int32 ⊕ String) × sS} (h : F_X7_price v0 v1 v2 v3 σ = some q) : s_T G (d + 2) M_X7_price [.ref v0, .int v1, .int v2, .int v3] σ (e_IX q) := by
  unfold F_X7_price at h
  obtain ⟨-, -, h⟩ := s_bind h
  exact s_ofV rfl (by decide) (Nat.le_of_ble_eq_true rfl) rfl rfl (s_run_ind (V := fun x r => s_V G (d + 2) M_X7_price [.ref v0, .int v1, .int v2, .int v3] σ Y_X7_price x (e_IX r)) (fun x z r hs hk => v_X7_price hs (by cases z <;> exact hk)) h)
/-! L_price -/
noncomputable def T_L_price_0 (v0 : Nat) (v1 : Int32) (v2 : Int32) (v3 : Int32) (v4 : Nat) (σ : sS) : Option (sZ Int32) :=
  (F_X7_price v0 v1 v2 v3 σ).bind fun q1 => s_sum q1.1 (fun x2 => (s_sl q1.2 v4 0 ((x2 : Int32).toInt64)).bind fun σ4 =>
  some (.inr (0, σ4))) (fun E3 => if E3 = "java/lang/IndexOutOfBoundsException" then (some (.inr (1, q1.2))) else if E3 = "java/lang/IllegalArgumentException" then (some (.inr (2, q1.2))) else none)
noncomputable def U_L_price_0 (vs : List Value) (σ : sS) : Option (sZ Int32) := (g_r vs).bind fun a0 => (g_i a0.2).bind fun a1 => (g_i a1.2).bind fun a2 => (g_i a2.2).bind fun a3 => (g_r a3.2).bind fun a4 => (g_e a4.2).bind fun _ => T_L_price_0 a0.1 a1.1 a2.1 a3.1 a4.1 σ
noncomputable def S_L_price (x : sL) : Option (sZ Int32) := if x.1 = 0 then U_L_price_0 x.2.1 x.2.2 else none
def Y_L_price (pc : Nat) : List Nat := if pc = 0 then [0, 1, 2, 3, 4] else []
noncomputable def F_L_price (v0 : Nat) (v1 : Int32) (v2 : Int32) (v3 : Int32) (v4 : Nat) (σ : sS) : Option (Int32 × sS) := s_run S_L_price (0, [.ref v0, .int v1, .int v2, .int v3, .ref v4], σ)
theorem hp_L_price_7_1 : s_pass RL "java/lang/IllegalArgumentException" 7 [(0, 12, 15, 27)] := fun z hz => by
  simp only [List.mem_cons, List.not_mem_nil, or_false] at hz
  rcases hz with rfl
  · exact ⟨rfl, by decide, "java/lang/IndexOutOfBoundsException", w_1011, by decide +kernel⟩
theorem l_L_price_0 {v0 : Nat} {v1 : Int32} {v2 : Int32} {v3 : Int32} {v4 : Nat} {σ : sS} {z : sZ Int32} (hf : T_L_price_0 v0 v1 v2 v3 v4 σ = some z) : s_lz σ z := by
  unfold T_L_price_0 at hf
  obtain ⟨q1, hh, hf⟩ := s_bind hf
  refine s_lz.tr (l_X7_price hh) ?_
  rcases s_sum_some hf with ⟨x2, -, hf⟩ | ⟨E3, -, hf⟩
  · obtain ⟨σ4, hh, hf⟩ := s_bind hf
    refine s_lz.tr (s_le2 (s_sl_2 hh)) ?_
    cases hf
    exact s_le.rf
  · rcases s_ite hf with ⟨-, hf⟩ | ⟨-, hf⟩
    · cases hf
      exact s_le.rf
    rcases s_ite hf with ⟨-, hf⟩ | ⟨-, hf⟩
    · cases hf
      exact s_le.rf
    cases hf
theorem l_L_price_s {x : sL} {z : sZ Int32} (hs : S_L_price x = some z) : s_lz x.2.2 z := by
  obtain ⟨pc, vs, σ⟩ := x
  unfold S_L_price at hs
  dsimp only at hs ⊢
  rcases s_ite hs with ⟨c, hs⟩ | ⟨-, hs⟩
  · subst c
    unfold U_L_price_0 at hs
    obtain ⟨a0, g0, hs⟩ := s_bind hs
    obtain ⟨a1, g1, hs⟩ := s_bind hs
    obtain ⟨a2, g2, hs⟩ := s_bind hs
    obtain ⟨a3, g3, hs⟩ := s_bind hs
    obtain ⟨a4, g4, hs⟩ := s_bind hs
    obtain ⟨u9, ge, hs⟩ := s_bind hs
    exact l_L_price_0 hs
  cases hs
theorem l_L_price {v0 : Nat} {v1 : Int32} {v2 : Int32} {v3 : Int32} {v4 : Nat} {σ : sS} {q : Int32 × sS} (h : F_L_price v0 v1 v2 v3 v4 σ = some q) : s_le σ q.2 := by
  unfold F_L_price at h
  exact s_run_ind (V := fun x r => s_le x.2.2 r.2) (fun x z r hs hk => by
    have h9 := l_L_price_s hs
    cases z with
    | inl y => exact s_le.tr h9 hk
    | inr q => cases hk; exact h9) h
set_option maxRecDepth 100000 in
set_option maxHeartbeats 4000000 in
theorem v_L_price_0 {G : sG} {d : Nat} {vs0 : List Value} {σ0 : sS} {v0 : Nat} {v1 : Int32} {v2 : Int32} {v3 : Int32} {v4 : Nat} {σ : sS} {z : sZ Int32} {r : Int32 × sS} (hf : T_L_price_0 v0 v1 v2 v3 v4 σ = some z) (k : s_K G (d + 3) M_L_price vs0 σ0 Y_L_price e_I z r) : s_V G (d + 3) M_L_price vs0 σ0 Y_L_price (0, [.ref v0, .int v1, .int v2, .int v3, .ref v4], σ) (e_I r) := by
  have le0 : s_le σ (e_I r).2 := s_lek hem_I (l_L_price_0 hf) k
  refine ⟨le0, ?_⟩
  intro p e s m below meth c H locs cells slots ls X I hn1 hn2 hl
  have hn : cells + σ0.2.1 ≤ σ.2.1 ∧ slots + σ0.2.2.1 ≤ σ.2.2.1 := ⟨hn1, hn2⟩
  have hl : lv_has ls 6 [(0, .ref v0), (1, .int v1), (2, .int v2), (3, .int v3), (4, .ref v4)] := hl
  have hx := X.1
  have hb : c.code = cL_price := X.2.1
  have hown : s.vm.findClass RL = some m.cls := X.2.2.2.2.2.1
  have hts := X.2.2.2.2.2.2.1
  refine W.eq (g2 := F0 m 0 ls []) rfl ?_
  unfold T_L_price_0 at hf
  obtain ⟨q1, h1, hf⟩ := s_bind hf
  refine lv_aload hx hb dL_price_0 (lv_at hl 4 rfl) ?_
  refine lv_iconst (v := 0) hx hb dL_price_2 (by decide) ?_
  refine lv_aload_n hx hb dL_price_3 rfl (lv_at hl 0 rfl) ?_
  refine lv_iload_n hx hb dL_price_4 rfl (lv_at hl 1 rfl) ?_
  refine lv_iload_n hx hb dL_price_5 rfl (lv_at hl 2 rfl) ?_
  refine lv_iload_n hx hb dL_price_6 rfl (lv_at hl 3 rfl) ?_
  rcases s_sum_some hf with ⟨x2, hq2, hf⟩ | ⟨E3, hq2, hf⟩
  · have le3 : s_le q1.2 (e_I r).2 := by
      refine s_lek hem_I ?_ k
      obtain ⟨σ4, hh, hf⟩ := s_bind hf
      refine s_lz.tr (s_le2 (s_sl_2 hh)) ?_
      cases hf
      exact s_le.rf
    refine r_callV (Y := M_X7_price) (v := some (.int x2)) X I w_1097 my_X7_price (by omega) (t_X7_price (G := G) (d := d + 0) h1) (b_X7_price h1) (e_IX_l hq2) rfl hl.1 rfl (Nat.le_of_ble_eq_true rfl) hn le3 dL_price_7 (fun H locs cells slots I hn1 hn2 => ?_)
    have I : s_I G q1.2 s H locs := I
    have hn : cells + σ0.2.1 ≤ q1.2.2.1 ∧ slots + σ0.2.2.1 ≤ q1.2.2.2.1 := ⟨hn1, hn2⟩
    obtain ⟨σ4, h4, hf⟩ := s_bind hf
    cases hf
    have k : _ = r := k
    subst k
    have le5 : s_le σ4 σ4 := s_le.rf
    refine lv_i2l hx hb dL_price_10 rfl ?_
    refine r_last X I h4 dL_price_11 (fun H locs I => ?_)
    have hn := s_k2 (s_sl_2 h4) hn
    refine lv_goto (tgt := 23) hx hb dL_price_12 (by decide) ?_
    refine lv_iconst (v := 0) hx hb dL_price_23 (by decide) ?_
    exact r_iret X I rfl rfl rfl hn dL_price_24
  · rcases s_ite hf with ⟨c6, hf⟩ | ⟨c6, hf⟩
    · subst c6
      have le7 : s_le q1.2 (e_I r).2 := by
        refine s_lek hem_I ?_ k
        cases hf
        exact s_le.rf
      refine r_callVh (x := (0, 12, 15, 27)) (Y := M_X7_price) (E := "java/lang/IndexOutOfBoundsException") (name := "java/lang/IndexOutOfBoundsException") X I [] [(0, 12, 19, 13)] rfl (fun z hz => by cases hz) rfl (by decide) w_1011 (by decide +kernel) w_1097 my_X7_price (by omega) (t_X7_price (G := G) (d := d + 0) h1) (b_X7_price h1) (e_IX_r hq2) rfl hl.1 rfl (Nat.le_of_ble_eq_true rfl) hn le7 dL_price_7 (fun a5 H locs cells slots I hn1 hn2 => ?_)
      have I : s_I G q1.2 s H locs := I
      have hn : cells + σ0.2.1 ≤ q1.2.2.1 ∧ slots + σ0.2.2.1 ≤ q1.2.2.2.1 := ⟨hn1, hn2⟩
      cases hf
      have k : _ = r := k
      subst k
      refine lv_astore (lv' := [(5, .ref a5), (0, .ref v0), (1, .int v1), (2, .int v2), (3, .int v3), (4, .ref v4)]) hx hb dL_price_15 hl (by decide) rfl (fun ls hl => ?_)
      refine lv_iconst (v := 1) hx hb dL_price_17 (by decide) ?_
      exact r_iret X I rfl rfl rfl hn dL_price_18
    rcases s_ite hf with ⟨c8, hf⟩ | ⟨c8, hf⟩
    · subst c8
      have le9 : s_le q1.2 (e_I r).2 := by
        refine s_lek hem_I ?_ k
        cases hf
        exact s_le.rf
      refine r_callVh (x := (0, 12, 19, 13)) (Y := M_X7_price) (E := "java/lang/IllegalArgumentException") (name := "java/lang/IllegalArgumentException") X I [(0, 12, 15, 27)] [] rfl hp_L_price_7_1 rfl (by decide) w_691 (by decide +kernel) w_1097 my_X7_price (by omega) (t_X7_price (G := G) (d := d + 0) h1) (b_X7_price h1) (e_IX_r hq2) rfl hl.1 rfl (Nat.le_of_ble_eq_true rfl) hn le9 dL_price_7 (fun a6 H locs cells slots I hn1 hn2 => ?_)
      have I : s_I G q1.2 s H locs := I
      have hn : cells + σ0.2.1 ≤ q1.2.2.1 ∧ slots + σ0.2.2.1 ≤ q1.2.2.2.1 := ⟨hn1, hn2⟩
      cases hf
      have k : _ = r := k
      subst k
      refine lv_astore (lv' := [(5, .ref a6), (0, .ref v0), (1, .int v1), (2, .int v2), (3, .int v3), (4, .ref v4)]) hx hb dL_price_19 hl (by decide) rfl (fun ls hl => ?_)
      refine lv_iconst (v := 2) hx hb dL_price_21 (by decide) ?_
      exact r_iret X I rfl rfl rfl hn dL_price_22
    cases hf
theorem v_L_price {G : sG} {d : Nat} {vs0 : List Value} {σ0 : sS} {x : sL} {z : sZ Int32} {r : Int32 × sS} (hs : S_L_price x = some z) (k : s_K G (d + 3) M_L_price vs0 σ0 Y_L_price e_I z r) : s_V G (d + 3) M_L_price vs0 σ0 Y_L_price x (e_I r) := by
  obtain ⟨pc, vs, σ⟩ := x
  unfold S_L_price at hs
  dsimp only at hs
  rcases s_ite hs with ⟨c, hs⟩ | ⟨-, hs⟩
  · subst c
    unfold U_L_price_0 at hs
    obtain ⟨a0, g0, hs⟩ := s_bind hs
    obtain ⟨a1, g1, hs⟩ := s_bind hs
    obtain ⟨a2, g2, hs⟩ := s_bind hs
    obtain ⟨a3, g3, hs⟩ := s_bind hs
    obtain ⟨a4, g4, hs⟩ := s_bind hs
    obtain ⟨u9, ge, hs⟩ := s_bind hs
    rw [g_r_to g0, g_i_to g1, g_i_to g2, g_i_to g3, g_r_to g4, g_e_to ge]
    exact v_L_price_0 hs k
  cases hs
theorem t_L_price {G : sG} {d : Nat} {v0 : Nat} {v1 : Int32} {v2 : Int32} {v3 : Int32} {v4 : Nat} {σ : sS} {q : Int32 × sS} (h : F_L_price v0 v1 v2 v3 v4 σ = some q) : s_T G (d + 3) M_L_price [.ref v0, .int v1, .int v2, .int v3, .ref v4] σ (e_I q) := by
  unfold F_L_price at h
  exact s_ofVH rfl (by decide) (Nat.le_of_ble_eq_true rfl) rfl rfl (s_run_ind (V := fun x r => s_V G (d + 3) M_L_price [.ref v0, .int v1, .int v2, .int v3, .ref v4] σ Y_L_price x (e_I r)) (fun x z r hs hk => v_L_price hs (by cases z <;> exact hk)) h)
/-! X8_price -/
noncomputable def T_X8_price_0 (v0 : Nat) (v1 : Int32) (v2 : Int32) (v3 : Int32) (σ : sS) : Option (sZ Int32) :=
  (s_pf σ v0 8 0 (.int 0)).bind fun σ1 =>
  (F_X8_noHouse v1 σ1).bind fun q2 =>
  if q2.1 = 0 then ((F_X8_in v2 0 16 q2.2).bind fun q3 =>
  if q3.1 = 0 then (some (.inl (23, [.ref v0, .int v1, .int v2, .int v3, .ref v0], q3.2)))
  else (some (.inl (28, [.ref v0, .int v1, .int v2, .int v3, .int 0, .ref v0], q3.2))))
  else (some (.inl (23, [.ref v0, .int v1, .int v2, .int v3, .ref v0], q2.2)))
noncomputable def U_X8_price_0 (vs : List Value) (σ : sS) : Option (sZ Int32) := (g_r vs).bind fun a0 => (g_i a0.2).bind fun a1 => (g_i a1.2).bind fun a2 => (g_i a2.2).bind fun a3 => (g_e a3.2).bind fun _ => T_X8_price_0 a0.1 a1.1 a2.1 a3.1 σ
noncomputable def T_X8_price_23 (v0 : Nat) (v1 : Int32) (v2 : Int32) (v3 : Int32) (w0 : Nat) (σ : sS) : Option (sZ Int32) :=
  some (.inl (28, [.ref v0, .int v1, .int v2, .int v3, .int 1, .ref w0], σ))
noncomputable def U_X8_price_23 (vs : List Value) (σ : sS) : Option (sZ Int32) := (g_r vs).bind fun a0 => (g_i a0.2).bind fun a1 => (g_i a1.2).bind fun a2 => (g_i a2.2).bind fun a3 => (g_r a3.2).bind fun a4 => (g_e a4.2).bind fun _ => T_X8_price_23 a0.1 a1.1 a2.1 a3.1 a4.1 σ
noncomputable def T_X8_price_28 (v0 : Nat) (v1 : Int32) (v2 : Int32) (v3 : Int32) (w0 : Int32) (w1 : Nat) (σ : sS) : Option (sZ Int32) :=
  (F_X8_throwsIf w1 w0 1 σ).bind fun q1 =>
  if q1.1 = 0 then (if v2 = 16 then (some (.inl (51, [.ref v0, .int v1, .int v2, .int v3, .int 9, .int 0, .int v3, .ref v0], q1.2)))
  else (some (.inl (51, [.ref v0, .int v1, .int v2, .int v3, .int 99, .int 0, .int v3, .ref v0], q1.2))))
  else (some (.inr (0, q1.2)))
noncomputable def U_X8_price_28 (vs : List Value) (σ : sS) : Option (sZ Int32) := (g_r vs).bind fun a0 => (g_i a0.2).bind fun a1 => (g_i a1.2).bind fun a2 => (g_i a2.2).bind fun a3 => (g_i a3.2).bind fun a4 => (g_r a4.2).bind fun a5 => (g_e a5.2).bind fun _ => T_X8_price_28 a0.1 a1.1 a2.1 a3.1 a4.1 a5.1 σ
noncomputable def T_X8_price_51 (v0 : Nat) (v1 : Int32) (v2 : Int32) (v3 : Int32) (w0 : Int32) (w1 : Int32) (w2 : Int32) (w3 : Nat) (σ : sS) : Option (sZ Int32) :=
  (F_X8_in w2 w1 w0 σ).bind fun q1 =>
  if q1.1 = 0 then (some (.inl (62, [.ref v0, .int v1, .int v2, .int v3, .int 1, .ref w3], q1.2)))
  else (some (.inl (62, [.ref v0, .int v1, .int v2, .int v3, .int 0, .ref w3], q1.2)))
noncomputable def U_X8_price_51 (vs : List Value) (σ : sS) : Option (sZ Int32) := (g_r vs).bind fun a0 => (g_i a0.2).bind fun a1 => (g_i a1.2).bind fun a2 => (g_i a2.2).bind fun a3 => (g_i a3.2).bind fun a4 => (g_i a4.2).bind fun a5 => (g_i a5.2).bind fun a6 => (g_r a6.2).bind fun a7 => (g_e a7.2).bind fun _ => T_X8_price_51 a0.1 a1.1 a2.1 a3.1 a4.1 a5.1 a6.1 a7.1 σ
noncomputable def T_X8_price_62 (v0 : Nat) (v1 : Int32) (v2 : Int32) (v3 : Int32) (w0 : Int32) (w1 : Nat) (σ : sS) : Option (sZ Int32) :=
  (F_X8_throwsIf w1 w0 2 σ).bind fun q1 =>
  if q1.1 = 0 then ((s_fr q1.2 v0 8 1).bind fun x2 =>
  (s_ai q1.2 x2 (((4 + (18 * v1)) + 1) + v2)).bind fun x3 =>
  (s_fr q1.2 v0 8 1).bind fun x4 =>
  (s_si q1.2 x4 (((4 + (18 * v1)) + 1) + v2) v3).bind fun σ5 =>
  some (.inr (x3, σ5)))
  else (some (.inr (0, q1.2)))
noncomputable def U_X8_price_62 (vs : List Value) (σ : sS) : Option (sZ Int32) := (g_r vs).bind fun a0 => (g_i a0.2).bind fun a1 => (g_i a1.2).bind fun a2 => (g_i a2.2).bind fun a3 => (g_i a3.2).bind fun a4 => (g_r a4.2).bind fun a5 => (g_e a5.2).bind fun _ => T_X8_price_62 a0.1 a1.1 a2.1 a3.1 a4.1 a5.1 σ
noncomputable def S_X8_price (x : sL) : Option (sZ Int32) := if x.1 = 0 then U_X8_price_0 x.2.1 x.2.2 else if x.1 = 23 then U_X8_price_23 x.2.1 x.2.2 else if x.1 = 28 then U_X8_price_28 x.2.1 x.2.2 else if x.1 = 51 then U_X8_price_51 x.2.1 x.2.2 else if x.1 = 62 then U_X8_price_62 x.2.1 x.2.2 else none
def Y_X8_price (pc : Nat) : List Nat := if pc = 0 then [0, 1, 2, 3] else if pc = 23 then [0, 1, 2, 3] else if pc = 28 then [0, 1, 2, 3] else if pc = 51 then [0, 1, 2, 3] else if pc = 62 then [0, 1, 2, 3] else []
noncomputable def F_X8_price (v0 : Nat) (v1 : Int32) (v2 : Int32) (v3 : Int32) (σ : sS) : Option (Int32 × sS) := (s_is σ v0 8).bind fun _ => s_run S_X8_price (0, [.ref v0, .int v1, .int v2, .int v3], σ)
theorem l_X8_price_0 {v0 : Nat} {v1 : Int32} {v2 : Int32} {v3 : Int32} {σ : sS} {z : sZ Int32} (hf : T_X8_price_0 v0 v1 v2 v3 σ = some z) : s_lz σ z := by
  unfold T_X8_price_0 at hf
  obtain ⟨σ1, hh, hf⟩ := s_bind hf
  refine s_lz.tr (s_le2 (s_pf_2 hh)) ?_
  obtain ⟨q2, hh, hf⟩ := s_bind hf
  refine s_lz.tr (l_X8_noHouse hh) ?_
  rcases s_ite hf with ⟨-, hf⟩ | ⟨-, hf⟩
  · obtain ⟨q3, hh, hf⟩ := s_bind hf
    refine s_lz.tr (l_X8_in hh) ?_
    rcases s_ite hf with ⟨-, hf⟩ | ⟨-, hf⟩
    · cases hf
      exact s_le.rf
    · cases hf
      exact s_le.rf
  · cases hf
    exact s_le.rf
theorem l_X8_price_23 {v0 : Nat} {v1 : Int32} {v2 : Int32} {v3 : Int32} {w0 : Nat} {σ : sS} {z : sZ Int32} (hf : T_X8_price_23 v0 v1 v2 v3 w0 σ = some z) : s_lz σ z := by
  unfold T_X8_price_23 at hf
  cases hf
  exact s_le.rf
theorem l_X8_price_28 {v0 : Nat} {v1 : Int32} {v2 : Int32} {v3 : Int32} {w0 : Int32} {w1 : Nat} {σ : sS} {z : sZ Int32} (hf : T_X8_price_28 v0 v1 v2 v3 w0 w1 σ = some z) : s_lz σ z := by
  unfold T_X8_price_28 at hf
  obtain ⟨q1, hh, hf⟩ := s_bind hf
  refine s_lz.tr (l_X8_throwsIf hh) ?_
  rcases s_ite hf with ⟨-, hf⟩ | ⟨-, hf⟩
  · rcases s_ite hf with ⟨-, hf⟩ | ⟨-, hf⟩
    · cases hf
      exact s_le.rf
    · cases hf
      exact s_le.rf
  · cases hf
    exact s_le.rf
theorem l_X8_price_51 {v0 : Nat} {v1 : Int32} {v2 : Int32} {v3 : Int32} {w0 : Int32} {w1 : Int32} {w2 : Int32} {w3 : Nat} {σ : sS} {z : sZ Int32} (hf : T_X8_price_51 v0 v1 v2 v3 w0 w1 w2 w3 σ = some z) : s_lz σ z := by
  unfold T_X8_price_51 at hf
  obtain ⟨q1, hh, hf⟩ := s_bind hf
  refine s_lz.tr (l_X8_in hh) ?_
  rcases s_ite hf with ⟨-, hf⟩ | ⟨-, hf⟩
  · cases hf
    exact s_le.rf
  · cases hf
    exact s_le.rf
theorem l_X8_price_62 {v0 : Nat} {v1 : Int32} {v2 : Int32} {v3 : Int32} {w0 : Int32} {w1 : Nat} {σ : sS} {z : sZ Int32} (hf : T_X8_price_62 v0 v1 v2 v3 w0 w1 σ = some z) : s_lz σ z := by
  unfold T_X8_price_62 at hf
  obtain ⟨q1, hh, hf⟩ := s_bind hf
  refine s_lz.tr (l_X8_throwsIf hh) ?_
  rcases s_ite hf with ⟨-, hf⟩ | ⟨-, hf⟩
  · obtain ⟨x2, -, hf⟩ := s_bind hf
    obtain ⟨x3, -, hf⟩ := s_bind hf
    obtain ⟨x4, -, hf⟩ := s_bind hf
    obtain ⟨σ5, hh, hf⟩ := s_bind hf
    refine s_lz.tr (s_le2 (s_si_2 hh)) ?_
    cases hf
    exact s_le.rf
  · cases hf
    exact s_le.rf
theorem l_X8_price_s {x : sL} {z : sZ Int32} (hs : S_X8_price x = some z) : s_lz x.2.2 z := by
  obtain ⟨pc, vs, σ⟩ := x
  unfold S_X8_price at hs
  dsimp only at hs ⊢
  rcases s_ite hs with ⟨c, hs⟩ | ⟨-, hs⟩
  · subst c
    unfold U_X8_price_0 at hs
    obtain ⟨a0, g0, hs⟩ := s_bind hs
    obtain ⟨a1, g1, hs⟩ := s_bind hs
    obtain ⟨a2, g2, hs⟩ := s_bind hs
    obtain ⟨a3, g3, hs⟩ := s_bind hs
    obtain ⟨u9, ge, hs⟩ := s_bind hs
    exact l_X8_price_0 hs
  rcases s_ite hs with ⟨c, hs⟩ | ⟨-, hs⟩
  · subst c
    unfold U_X8_price_23 at hs
    obtain ⟨a0, g0, hs⟩ := s_bind hs
    obtain ⟨a1, g1, hs⟩ := s_bind hs
    obtain ⟨a2, g2, hs⟩ := s_bind hs
    obtain ⟨a3, g3, hs⟩ := s_bind hs
    obtain ⟨a4, g4, hs⟩ := s_bind hs
    obtain ⟨u9, ge, hs⟩ := s_bind hs
    exact l_X8_price_23 hs
  rcases s_ite hs with ⟨c, hs⟩ | ⟨-, hs⟩
  · subst c
    unfold U_X8_price_28 at hs
    obtain ⟨a0, g0, hs⟩ := s_bind hs
    obtain ⟨a1, g1, hs⟩ := s_bind hs
    obtain ⟨a2, g2, hs⟩ := s_bind hs
    obtain ⟨a3, g3, hs⟩ := s_bind hs
    obtain ⟨a4, g4, hs⟩ := s_bind hs
    obtain ⟨a5, g5, hs⟩ := s_bind hs
    obtain ⟨u9, ge, hs⟩ := s_bind hs
    exact l_X8_price_28 hs
  rcases s_ite hs with ⟨c, hs⟩ | ⟨-, hs⟩
  · subst c
    unfold U_X8_price_51 at hs
    obtain ⟨a0, g0, hs⟩ := s_bind hs
    obtain ⟨a1, g1, hs⟩ := s_bind hs
    obtain ⟨a2, g2, hs⟩ := s_bind hs
    obtain ⟨a3, g3, hs⟩ := s_bind hs
    obtain ⟨a4, g4, hs⟩ := s_bind hs
    obtain ⟨a5, g5, hs⟩ := s_bind hs
    obtain ⟨a6, g6, hs⟩ := s_bind hs
    obtain ⟨a7, g7, hs⟩ := s_bind hs
    obtain ⟨u9, ge, hs⟩ := s_bind hs
    exact l_X8_price_51 hs
  rcases s_ite hs with ⟨c, hs⟩ | ⟨-, hs⟩
  · subst c
    unfold U_X8_price_62 at hs
    obtain ⟨a0, g0, hs⟩ := s_bind hs
    obtain ⟨a1, g1, hs⟩ := s_bind hs
    obtain ⟨a2, g2, hs⟩ := s_bind hs
    obtain ⟨a3, g3, hs⟩ := s_bind hs
    obtain ⟨a4, g4, hs⟩ := s_bind hs
    obtain ⟨a5, g5, hs⟩ := s_bind hs
    obtain ⟨u9, ge, hs⟩ := s_bind hs
    exact l_X8_price_62 hs
  cases hs
theorem l_X8_price {v0 : Nat} {v1 : Int32} {v2 : Int32} {v3 : Int32} {σ : sS} {q : Int32 × sS} (h : F_X8_price v0 v1 v2 v3 σ = some q) : s_le σ q.2 := by
  unfold F_X8_price at h
  obtain ⟨-, -, h⟩ := s_bind h
  exact s_run_ind (V := fun x r => s_le x.2.2 r.2) (fun x z r hs hk => by
    have h9 := l_X8_price_s hs
    cases z with
    | inl y => exact s_le.tr h9 hk
    | inr q => cases hk; exact h9) h
theorem b_X8_price {v0 : Nat} {v1 : Int32} {v2 : Int32} {v3 : Int32} {σ : sS} {q : Int32 × sS} (h : F_X8_price v0 v1 v2 v3 σ = some q) : ∃ fs, σ.1 v0 = some (.inr (8, fs)) := by
  unfold F_X8_price at h
  obtain ⟨u, hu, -⟩ := s_bind h
  exact s_is_to hu
set_option maxRecDepth 100000 in
set_option maxHeartbeats 4000000 in
theorem v_X8_price_0 {G : sG} {d : Nat} {vs0 : List Value} {σ0 : sS} {v0 : Nat} {v1 : Int32} {v2 : Int32} {v3 : Int32} {σ : sS} {z : sZ Int32} {r : Int32 × sS} (hf : T_X8_price_0 v0 v1 v2 v3 σ = some z) (k : s_K G (d + 3) M_X8_price vs0 σ0 Y_X8_price e_I z r) : s_V G (d + 3) M_X8_price vs0 σ0 Y_X8_price (0, [.ref v0, .int v1, .int v2, .int v3], σ) (e_I r) := by
  have le0 : s_le σ (e_I r).2 := s_lek hem_I (l_X8_price_0 hf) k
  refine ⟨le0, ?_⟩
  intro p e s m below meth c H locs cells slots ls X I hn1 hn2 hl
  have hn : cells + σ0.2.1 ≤ σ.2.1 ∧ slots + σ0.2.2.1 ≤ σ.2.2.1 := ⟨hn1, hn2⟩
  have hl : lv_has ls 6 [(0, .ref v0), (1, .int v1), (2, .int v2), (3, .int v3)] := hl
  have hx := X.1
  have hb : c.code = cX8_price := X.2.1
  have hown : s.vm.findClass RX8 = some m.cls := X.2.2.2.2.2.1
  have hts := X.2.2.2.2.2.2.1
  refine W.eq (g2 := F0 m 0 ls []) rfl ?_
  unfold T_X8_price_0 at hf
  obtain ⟨σ1, h1, hf⟩ := s_bind hf
  obtain ⟨q2, h2, hf⟩ := s_bind hf
  have le3 : s_le q2.2 (e_I r).2 := by
    refine s_lek hem_I ?_ k
    rcases s_ite hf with ⟨-, hf⟩ | ⟨-, hf⟩
    · obtain ⟨q3, hh, hf⟩ := s_bind hf
      refine s_lz.tr (l_X8_in hh) ?_
      rcases s_ite hf with ⟨-, hf⟩ | ⟨-, hf⟩
      · cases hf
        exact s_le.rf
      · cases hf
        exact s_le.rf
    · cases hf
      exact s_le.rf
  have le4 := s_le.tr (l_X8_noHouse h2) le3
  refine lv_aload_n hx hb dX8_price_0 rfl (lv_at hl 0 rfl) ?_
  refine lv_iconst (v := 0) hx hb dX8_price_1 (by decide) ?_
  refine r_put X I fp_X8_3 (fun h => by cases h) h1 rfl rfl dX8_price_2 (fun H locs I => ?_)
  have hn := s_k2 (s_pf_2 h1) hn
  refine lv_aload_n hx hb dX8_price_5 rfl (lv_at hl 0 rfl) ?_
  refine lv_iload_n hx hb dX8_price_6 rfl (lv_at hl 1 rfl) ?_
  refine r_callS (Y := M_X8_noHouse) (v := some (.int q2.1)) X I w_1973 my_X8_noHouse (by omega) (t_X8_noHouse (G := G) (d := d + 0) h2) rfl rfl hl.1 rfl (Nat.le_of_ble_eq_true rfl) hn le3 dX8_price_7 (fun H locs cells slots I hn1 hn2 => ?_)
  have I : s_I G q2.2 s H locs := I
  have hn : cells + σ0.2.1 ≤ q2.2.2.1 ∧ slots + σ0.2.2.1 ≤ q2.2.2.2.1 := ⟨hn1, hn2⟩
  rcases s_ite hf with ⟨c5, hf⟩ | ⟨c5, hf⟩
  · refine lv_if_ne (tgt := 23) hx hb dX8_price_10 (by decide) (fun n => absurd c5 n) (fun _ => ?_)
    obtain ⟨q3, h6, hf⟩ := s_bind hf
    have le7 : s_le q3.2 (e_I r).2 := by
      refine s_lek hem_I ?_ k
      rcases s_ite hf with ⟨-, hf⟩ | ⟨-, hf⟩
      · cases hf
        exact s_le.rf
      · cases hf
        exact s_le.rf
    refine lv_iload_n hx hb dX8_price_13 rfl (lv_at hl 2 rfl) ?_
    refine lv_iconst (v := 0) hx hb dX8_price_14 (by decide) ?_
    refine lv_bipush (v := 16) hx hb dX8_price_15 (by decide) ?_
    refine r_callS (Y := M_X8_in) (v := some (.int q3.1)) X I w_1909 my_X8_in (by omega) (t_X8_in (G := G) (d := d + 1) h6) rfl rfl hl.1 rfl (Nat.le_of_ble_eq_true rfl) hn le7 dX8_price_17 (fun H locs cells slots I hn1 hn2 => ?_)
    have I : s_I G q3.2 s H locs := I
    have hn : cells + σ0.2.1 ≤ q3.2.2.1 ∧ slots + σ0.2.2.1 ≤ q3.2.2.2.1 := ⟨hn1, hn2⟩
    rcases s_ite hf with ⟨c8, hf⟩ | ⟨c8, hf⟩
    · refine lv_if_ne (tgt := 27) hx hb dX8_price_20 (by decide) (fun n => absurd c8 n) (fun _ => ?_)
      cases hf
      have k : s_V G (d + 3) M_X8_price vs0 σ0 Y_X8_price (23, [.ref v0, .int v1, .int v2, .int v3, .ref v0], q3.2) (e_I r) := k
      exact k.2 p e s m below meth c _ _ _ _ _ X I hn.1 hn.2 (lv_sub hl [0, 1, 2, 3] rfl)
    · refine lv_if_ne (tgt := 27) hx hb dX8_price_20 (by decide) (fun _ => ?_) (fun n => absurd n c8)
      cases hf
      have k : s_V G (d + 3) M_X8_price vs0 σ0 Y_X8_price (28, [.ref v0, .int v1, .int v2, .int v3, .int 0, .ref v0], q3.2) (e_I r) := k
      refine lv_iconst (v := 0) hx hb dX8_price_27 (by decide) ?_
      exact k.2 p e s m below meth c _ _ _ _ _ X I hn.1 hn.2 (lv_sub hl [0, 1, 2, 3] rfl)
  · refine lv_if_ne (tgt := 23) hx hb dX8_price_10 (by decide) (fun _ => ?_) (fun n => absurd n c5)
    cases hf
    have k : s_V G (d + 3) M_X8_price vs0 σ0 Y_X8_price (23, [.ref v0, .int v1, .int v2, .int v3, .ref v0], q2.2) (e_I r) := k
    exact k.2 p e s m below meth c _ _ _ _ _ X I hn.1 hn.2 (lv_sub hl [0, 1, 2, 3] rfl)
set_option maxRecDepth 100000 in
set_option maxHeartbeats 4000000 in
theorem v_X8_price_23 {G : sG} {d : Nat} {vs0 : List Value} {σ0 : sS} {v0 : Nat} {v1 : Int32} {v2 : Int32} {v3 : Int32} {w0 : Nat} {σ : sS} {z : sZ Int32} {r : Int32 × sS} (hf : T_X8_price_23 v0 v1 v2 v3 w0 σ = some z) (k : s_K G (d + 3) M_X8_price vs0 σ0 Y_X8_price e_I z r) : s_V G (d + 3) M_X8_price vs0 σ0 Y_X8_price (23, [.ref v0, .int v1, .int v2, .int v3, .ref w0], σ) (e_I r) := by
  have le0 : s_le σ (e_I r).2 := s_lek hem_I (l_X8_price_23 hf) k
  refine ⟨le0, ?_⟩
  intro p e s m below meth c H locs cells slots ls X I hn1 hn2 hl
  have hn : cells + σ0.2.1 ≤ σ.2.1 ∧ slots + σ0.2.2.1 ≤ σ.2.2.1 := ⟨hn1, hn2⟩
  have hl : lv_has ls 6 [(0, .ref v0), (1, .int v1), (2, .int v2), (3, .int v3)] := hl
  have hx := X.1
  have hb : c.code = cX8_price := X.2.1
  have hown : s.vm.findClass RX8 = some m.cls := X.2.2.2.2.2.1
  have hts := X.2.2.2.2.2.2.1
  refine W.eq (g2 := F0 m 23 ls [.ref w0]) rfl ?_
  unfold T_X8_price_23 at hf
  cases hf
  have k : s_V G (d + 3) M_X8_price vs0 σ0 Y_X8_price (28, [.ref v0, .int v1, .int v2, .int v3, .int 1, .ref w0], σ) (e_I r) := k
  refine lv_iconst (v := 1) hx hb dX8_price_23 (by decide) ?_
  refine lv_goto (tgt := 28) hx hb dX8_price_24 (by decide) ?_
  exact k.2 p e s m below meth c _ _ _ _ _ X I hn.1 hn.2 (lv_sub hl [0, 1, 2, 3] rfl)
set_option maxRecDepth 100000 in
set_option maxHeartbeats 4000000 in
theorem v_X8_price_28 {G : sG} {d : Nat} {vs0 : List Value} {σ0 : sS} {v0 : Nat} {v1 : Int32} {v2 : Int32} {v3 : Int32} {w0 : Int32} {w1 : Nat} {σ : sS} {z : sZ Int32} {r : Int32 × sS} (hf : T_X8_price_28 v0 v1 v2 v3 w0 w1 σ = some z) (k : s_K G (d + 3) M_X8_price vs0 σ0 Y_X8_price e_I z r) : s_V G (d + 3) M_X8_price vs0 σ0 Y_X8_price (28, [.ref v0, .int v1, .int v2, .int v3, .int w0, .ref w1], σ) (e_I r) := by
  have le0 : s_le σ (e_I r).2 := s_lek hem_I (l_X8_price_28 hf) k
  refine ⟨le0, ?_⟩
  intro p e s m below meth c H locs cells slots ls X I hn1 hn2 hl
  have hn : cells + σ0.2.1 ≤ σ.2.1 ∧ slots + σ0.2.2.1 ≤ σ.2.2.1 := ⟨hn1, hn2⟩
  have hl : lv_has ls 6 [(0, .ref v0), (1, .int v1), (2, .int v2), (3, .int v3)] := hl
  have hx := X.1
  have hb : c.code = cX8_price := X.2.1
  have hown : s.vm.findClass RX8 = some m.cls := X.2.2.2.2.2.1
  have hts := X.2.2.2.2.2.2.1
  refine W.eq (g2 := F0 m 28 ls [.int w0, .ref w1]) rfl ?_
  unfold T_X8_price_28 at hf
  obtain ⟨q1, h1, hf⟩ := s_bind hf
  have le2 : s_le q1.2 (e_I r).2 := by
    refine s_lek hem_I ?_ k
    rcases s_ite hf with ⟨-, hf⟩ | ⟨-, hf⟩
    · rcases s_ite hf with ⟨-, hf⟩ | ⟨-, hf⟩
      · cases hf
        exact s_le.rf
      · cases hf
        exact s_le.rf
    · cases hf
      exact s_le.rf
  refine lv_iconst (v := 1) hx hb dX8_price_28 (by decide) ?_
  refine r_callV (Y := M_X8_throwsIf) (v := some (.int q1.1)) X I w_1897 my_X8_throwsIf (by omega) (t_X8_throwsIf (G := G) (d := d + 1) h1) (b_X8_throwsIf h1) rfl rfl hl.1 rfl (Nat.le_of_ble_eq_true rfl) hn le2 dX8_price_29 (fun H locs cells slots I hn1 hn2 => ?_)
  have I : s_I G q1.2 s H locs := I
  have hn : cells + σ0.2.1 ≤ q1.2.2.1 ∧ slots + σ0.2.2.1 ≤ q1.2.2.2.1 := ⟨hn1, hn2⟩
  rcases s_ite hf with ⟨c3, hf⟩ | ⟨c3, hf⟩
  · refine lv_if_ne (tgt := 69) hx hb dX8_price_32 (by decide) (fun n => absurd c3 n) (fun _ => ?_)
    refine lv_aload_n hx hb dX8_price_35 rfl (lv_at hl 0 rfl) ?_
    refine lv_iload_n hx hb dX8_price_36 rfl (lv_at hl 3 rfl) ?_
    refine lv_iconst (v := 0) hx hb dX8_price_37 (by decide) ?_
    refine lv_iload_n hx hb dX8_price_38 rfl (lv_at hl 2 rfl) ?_
    refine lv_bipush (v := 16) hx hb dX8_price_39 (by decide) ?_
    rcases s_ite hf with ⟨c4, hf⟩ | ⟨c4, hf⟩
    · refine lv_icmp_ne (tgt := 49) hx hb dX8_price_41 (by decide) (fun n => absurd c4 n) (fun _ => ?_)
      cases hf
      have k : s_V G (d + 3) M_X8_price vs0 σ0 Y_X8_price (51, [.ref v0, .int v1, .int v2, .int v3, .int 9, .int 0, .int v3, .ref v0], q1.2) (e_I r) := k
      refine lv_bipush (v := 9) hx hb dX8_price_44 (by decide) ?_
      refine lv_goto (tgt := 51) hx hb dX8_price_46 (by decide) ?_
      exact k.2 p e s m below meth c _ _ _ _ _ X I hn.1 hn.2 (lv_sub hl [0, 1, 2, 3] rfl)
    · refine lv_icmp_ne (tgt := 49) hx hb dX8_price_41 (by decide) (fun _ => ?_) (fun n => absurd n c4)
      cases hf
      have k : s_V G (d + 3) M_X8_price vs0 σ0 Y_X8_price (51, [.ref v0, .int v1, .int v2, .int v3, .int 99, .int 0, .int v3, .ref v0], q1.2) (e_I r) := k
      refine lv_bipush (v := 99) hx hb dX8_price_49 (by decide) ?_
      exact k.2 p e s m below meth c _ _ _ _ _ X I hn.1 hn.2 (lv_sub hl [0, 1, 2, 3] rfl)
  · refine lv_if_ne (tgt := 69) hx hb dX8_price_32 (by decide) (fun _ => ?_) (fun n => absurd n c3)
    cases hf
    have k : _ = r := k
    subst k
    refine lv_iconst (v := 0) hx hb dX8_price_69 (by decide) ?_
    exact r_iret X I rfl rfl rfl hn dX8_price_70
set_option maxRecDepth 100000 in
set_option maxHeartbeats 4000000 in
theorem v_X8_price_51 {G : sG} {d : Nat} {vs0 : List Value} {σ0 : sS} {v0 : Nat} {v1 : Int32} {v2 : Int32} {v3 : Int32} {w0 : Int32} {w1 : Int32} {w2 : Int32} {w3 : Nat} {σ : sS} {z : sZ Int32} {r : Int32 × sS} (hf : T_X8_price_51 v0 v1 v2 v3 w0 w1 w2 w3 σ = some z) (k : s_K G (d + 3) M_X8_price vs0 σ0 Y_X8_price e_I z r) : s_V G (d + 3) M_X8_price vs0 σ0 Y_X8_price (51, [.ref v0, .int v1, .int v2, .int v3, .int w0, .int w1, .int w2, .ref w3], σ) (e_I r) := by
  have le0 : s_le σ (e_I r).2 := s_lek hem_I (l_X8_price_51 hf) k
  refine ⟨le0, ?_⟩
  intro p e s m below meth c H locs cells slots ls X I hn1 hn2 hl
  have hn : cells + σ0.2.1 ≤ σ.2.1 ∧ slots + σ0.2.2.1 ≤ σ.2.2.1 := ⟨hn1, hn2⟩
  have hl : lv_has ls 6 [(0, .ref v0), (1, .int v1), (2, .int v2), (3, .int v3)] := hl
  have hx := X.1
  have hb : c.code = cX8_price := X.2.1
  have hown : s.vm.findClass RX8 = some m.cls := X.2.2.2.2.2.1
  have hts := X.2.2.2.2.2.2.1
  refine W.eq (g2 := F0 m 51 ls [.int w0, .int w1, .int w2, .ref w3]) rfl ?_
  unfold T_X8_price_51 at hf
  obtain ⟨q1, h1, hf⟩ := s_bind hf
  have le2 : s_le q1.2 (e_I r).2 := by
    refine s_lek hem_I ?_ k
    rcases s_ite hf with ⟨-, hf⟩ | ⟨-, hf⟩
    · cases hf
      exact s_le.rf
    · cases hf
      exact s_le.rf
  refine r_callS (Y := M_X8_in) (v := some (.int q1.1)) X I w_1909 my_X8_in (by omega) (t_X8_in (G := G) (d := d + 1) h1) rfl rfl hl.1 rfl (Nat.le_of_ble_eq_true rfl) hn le2 dX8_price_51 (fun H locs cells slots I hn1 hn2 => ?_)
  have I : s_I G q1.2 s H locs := I
  have hn : cells + σ0.2.1 ≤ q1.2.2.1 ∧ slots + σ0.2.2.1 ≤ q1.2.2.2.1 := ⟨hn1, hn2⟩
  rcases s_ite hf with ⟨c3, hf⟩ | ⟨c3, hf⟩
  · refine lv_if_ne (tgt := 61) hx hb dX8_price_54 (by decide) (fun n => absurd c3 n) (fun _ => ?_)
    cases hf
    have k : s_V G (d + 3) M_X8_price vs0 σ0 Y_X8_price (62, [.ref v0, .int v1, .int v2, .int v3, .int 1, .ref w3], q1.2) (e_I r) := k
    refine lv_iconst (v := 1) hx hb dX8_price_57 (by decide) ?_
    refine lv_goto (tgt := 62) hx hb dX8_price_58 (by decide) ?_
    exact k.2 p e s m below meth c _ _ _ _ _ X I hn.1 hn.2 (lv_sub hl [0, 1, 2, 3] rfl)
  · refine lv_if_ne (tgt := 61) hx hb dX8_price_54 (by decide) (fun _ => ?_) (fun n => absurd n c3)
    cases hf
    have k : s_V G (d + 3) M_X8_price vs0 σ0 Y_X8_price (62, [.ref v0, .int v1, .int v2, .int v3, .int 0, .ref w3], q1.2) (e_I r) := k
    refine lv_iconst (v := 0) hx hb dX8_price_61 (by decide) ?_
    exact k.2 p e s m below meth c _ _ _ _ _ X I hn.1 hn.2 (lv_sub hl [0, 1, 2, 3] rfl)
set_option maxRecDepth 100000 in
set_option maxHeartbeats 4000000 in
theorem v_X8_price_62 {G : sG} {d : Nat} {vs0 : List Value} {σ0 : sS} {v0 : Nat} {v1 : Int32} {v2 : Int32} {v3 : Int32} {w0 : Int32} {w1 : Nat} {σ : sS} {z : sZ Int32} {r : Int32 × sS} (hf : T_X8_price_62 v0 v1 v2 v3 w0 w1 σ = some z) (k : s_K G (d + 3) M_X8_price vs0 σ0 Y_X8_price e_I z r) : s_V G (d + 3) M_X8_price vs0 σ0 Y_X8_price (62, [.ref v0, .int v1, .int v2, .int v3, .int w0, .ref w1], σ) (e_I r) := by
  have le0 : s_le σ (e_I r).2 := s_lek hem_I (l_X8_price_62 hf) k
  refine ⟨le0, ?_⟩
  intro p e s m below meth c H locs cells slots ls X I hn1 hn2 hl
  have hn : cells + σ0.2.1 ≤ σ.2.1 ∧ slots + σ0.2.2.1 ≤ σ.2.2.1 := ⟨hn1, hn2⟩
  have hl : lv_has ls 6 [(0, .ref v0), (1, .int v1), (2, .int v2), (3, .int v3)] := hl
  have hx := X.1
  have hb : c.code = cX8_price := X.2.1
  have hown : s.vm.findClass RX8 = some m.cls := X.2.2.2.2.2.1
  have hts := X.2.2.2.2.2.2.1
  refine W.eq (g2 := F0 m 62 ls [.int w0, .ref w1]) rfl ?_
  unfold T_X8_price_62 at hf
  obtain ⟨q1, h1, hf⟩ := s_bind hf
  have le2 : s_le q1.2 (e_I r).2 := by
    refine s_lek hem_I ?_ k
    rcases s_ite hf with ⟨-, hf⟩ | ⟨-, hf⟩
    · obtain ⟨x2, -, hf⟩ := s_bind hf
      obtain ⟨x3, -, hf⟩ := s_bind hf
      obtain ⟨x4, -, hf⟩ := s_bind hf
      obtain ⟨σ5, hh, hf⟩ := s_bind hf
      refine s_lz.tr (s_le2 (s_si_2 hh)) ?_
      cases hf
      exact s_le.rf
    · cases hf
      exact s_le.rf
  refine lv_iconst (v := 2) hx hb dX8_price_62 (by decide) ?_
  refine r_callV (Y := M_X8_throwsIf) (v := some (.int q1.1)) X I w_1897 my_X8_throwsIf (by omega) (t_X8_throwsIf (G := G) (d := d + 1) h1) (b_X8_throwsIf h1) rfl rfl hl.1 rfl (Nat.le_of_ble_eq_true rfl) hn le2 dX8_price_63 (fun H locs cells slots I hn1 hn2 => ?_)
  have I : s_I G q1.2 s H locs := I
  have hn : cells + σ0.2.1 ≤ q1.2.2.1 ∧ slots + σ0.2.2.1 ≤ q1.2.2.2.1 := ⟨hn1, hn2⟩
  rcases s_ite hf with ⟨c3, hf⟩ | ⟨c3, hf⟩
  · refine lv_if_eq (tgt := 71) hx hb dX8_price_66 (by decide) (fun _ => ?_) (fun n => absurd c3 n)
    obtain ⟨x2, h4, hf⟩ := s_bind hf
    obtain ⟨x3, h5, hf⟩ := s_bind hf
    obtain ⟨x4, h6, hf⟩ := s_bind hf
    obtain ⟨σ5, h7, hf⟩ := s_bind hf
    cases hf
    have k : _ = r := k
    subst k
    have le8 : s_le σ5 σ5 := s_le.rf
    refine lv_iconst (v := 4) hx hb dX8_price_71 (by decide) ?_
    refine lv_bipush (v := 18) hx hb dX8_price_72 (by decide) ?_
    refine lv_iload_n hx hb dX8_price_74 rfl (lv_at hl 1 rfl) ?_
    refine lv_imul hx hb dX8_price_75 ?_
    refine lv_iadd hx hb dX8_price_76 ?_
    refine lv_iconst (v := 1) hx hb dX8_price_77 (by decide) ?_
    refine lv_iadd hx hb dX8_price_78 ?_
    refine lv_iload_n hx hb dX8_price_79 rfl (lv_at hl 2 rfl) ?_
    refine lv_iadd hx hb dX8_price_80 ?_
    refine lv_istore (lv' := [(4, .int (((4 + (18 * v1)) + 1) + v2)), (0, .ref v0), (1, .int v1), (2, .int v2), (3, .int v3)]) hx hb dX8_price_81 hl (by decide) rfl (fun ls hl => ?_)
    refine lv_aload_n hx hb dX8_price_83 rfl (lv_at hl 1 rfl) ?_
    refine r_gr X I fl_X8_13 h4 dX8_price_84 ?_
    refine lv_iload hx hb dX8_price_87 (lv_at hl 0 rfl) ?_
    refine r_iald X I h5 dX8_price_89 ?_
    refine lv_istore (lv' := [(5, .int x3), (4, .int (((4 + (18 * v1)) + 1) + v2)), (0, .ref v0), (1, .int v1), (2, .int v2), (3, .int v3)]) hx hb dX8_price_90 hl (by decide) rfl (fun ls hl => ?_)
    refine lv_aload_n hx hb dX8_price_92 rfl (lv_at hl 2 rfl) ?_
    refine r_gr X I fl_X8_13 h6 dX8_price_93 ?_
    refine lv_iload hx hb dX8_price_96 (lv_at hl 1 rfl) ?_
    refine lv_iload_n hx hb dX8_price_98 rfl (lv_at hl 5 rfl) ?_
    refine r_iast X I h7 dX8_price_99 (fun H locs I => ?_)
    have hn := s_k2 (s_si_2 h7) hn
    refine lv_iload hx hb dX8_price_100 (lv_at hl 0 rfl) ?_
    exact r_iret X I rfl rfl rfl hn dX8_price_102
  · refine lv_if_eq (tgt := 71) hx hb dX8_price_66 (by decide) (fun n => absurd n c3) (fun _ => ?_)
    cases hf
    have k : _ = r := k
    subst k
    refine lv_iconst (v := 0) hx hb dX8_price_69 (by decide) ?_
    exact r_iret X I rfl rfl rfl hn dX8_price_70
theorem v_X8_price {G : sG} {d : Nat} {vs0 : List Value} {σ0 : sS} {x : sL} {z : sZ Int32} {r : Int32 × sS} (hs : S_X8_price x = some z) (k : s_K G (d + 3) M_X8_price vs0 σ0 Y_X8_price e_I z r) : s_V G (d + 3) M_X8_price vs0 σ0 Y_X8_price x (e_I r) := by
  obtain ⟨pc, vs, σ⟩ := x
  unfold S_X8_price at hs
  dsimp only at hs
  rcases s_ite hs with ⟨c, hs⟩ | ⟨-, hs⟩
  · subst c
    unfold U_X8_price_0 at hs
    obtain ⟨a0, g0, hs⟩ := s_bind hs
    obtain ⟨a1, g1, hs⟩ := s_bind hs
    obtain ⟨a2, g2, hs⟩ := s_bind hs
    obtain ⟨a3, g3, hs⟩ := s_bind hs
    obtain ⟨u9, ge, hs⟩ := s_bind hs
    rw [g_r_to g0, g_i_to g1, g_i_to g2, g_i_to g3, g_e_to ge]
    exact v_X8_price_0 hs k
  rcases s_ite hs with ⟨c, hs⟩ | ⟨-, hs⟩
  · subst c
    unfold U_X8_price_23 at hs
    obtain ⟨a0, g0, hs⟩ := s_bind hs
    obtain ⟨a1, g1, hs⟩ := s_bind hs
    obtain ⟨a2, g2, hs⟩ := s_bind hs
    obtain ⟨a3, g3, hs⟩ := s_bind hs
    obtain ⟨a4, g4, hs⟩ := s_bind hs
    obtain ⟨u9, ge, hs⟩ := s_bind hs
    rw [g_r_to g0, g_i_to g1, g_i_to g2, g_i_to g3, g_r_to g4, g_e_to ge]
    exact v_X8_price_23 hs k
  rcases s_ite hs with ⟨c, hs⟩ | ⟨-, hs⟩
  · subst c
    unfold U_X8_price_28 at hs
    obtain ⟨a0, g0, hs⟩ := s_bind hs
    obtain ⟨a1, g1, hs⟩ := s_bind hs
    obtain ⟨a2, g2, hs⟩ := s_bind hs
    obtain ⟨a3, g3, hs⟩ := s_bind hs
    obtain ⟨a4, g4, hs⟩ := s_bind hs
    obtain ⟨a5, g5, hs⟩ := s_bind hs
    obtain ⟨u9, ge, hs⟩ := s_bind hs
    rw [g_r_to g0, g_i_to g1, g_i_to g2, g_i_to g3, g_i_to g4, g_r_to g5, g_e_to ge]
    exact v_X8_price_28 hs k
  rcases s_ite hs with ⟨c, hs⟩ | ⟨-, hs⟩
  · subst c
    unfold U_X8_price_51 at hs
    obtain ⟨a0, g0, hs⟩ := s_bind hs
    obtain ⟨a1, g1, hs⟩ := s_bind hs
    obtain ⟨a2, g2, hs⟩ := s_bind hs
    obtain ⟨a3, g3, hs⟩ := s_bind hs
    obtain ⟨a4, g4, hs⟩ := s_bind hs
    obtain ⟨a5, g5, hs⟩ := s_bind hs
    obtain ⟨a6, g6, hs⟩ := s_bind hs
    obtain ⟨a7, g7, hs⟩ := s_bind hs
    obtain ⟨u9, ge, hs⟩ := s_bind hs
    rw [g_r_to g0, g_i_to g1, g_i_to g2, g_i_to g3, g_i_to g4, g_i_to g5, g_i_to g6, g_r_to g7, g_e_to ge]
    exact v_X8_price_51 hs k
  rcases s_ite hs with ⟨c, hs⟩ | ⟨-, hs⟩
  · subst c
    unfold U_X8_price_62 at hs
    obtain ⟨a0, g0, hs⟩ := s_bind hs
    obtain ⟨a1, g1, hs⟩ := s_bind hs
    obtain ⟨a2, g2, hs⟩ := s_bind hs
    obtain ⟨a3, g3, hs⟩ := s_bind hs
    obtain ⟨a4, g4, hs⟩ := s_bind hs
    obtain ⟨a5, g5, hs⟩ := s_bind hs
    obtain ⟨u9, ge, hs⟩ := s_bind hs
    rw [g_r_to g0, g_i_to g1, g_i_to g2, g_i_to g3, g_i_to g4, g_r_to g5, g_e_to ge]
    exact v_X8_price_62 hs k
  cases hs
theorem t_X8_price {G : sG} {d : Nat} {v0 : Nat} {v1 : Int32} {v2 : Int32} {v3 : Int32} {σ : sS} {q : Int32 × sS} (h : F_X8_price v0 v1 v2 v3 σ = some q) : s_T G (d + 3) M_X8_price [.ref v0, .int v1, .int v2, .int v3] σ (e_I q) := by
  unfold F_X8_price at h
  obtain ⟨-, -, h⟩ := s_bind h
  exact s_ofV rfl (by decide) (Nat.le_of_ble_eq_true rfl) rfl rfl (s_run_ind (V := fun x r => s_V G (d + 3) M_X8_price [.ref v0, .int v1, .int v2, .int v3] σ Y_X8_price x (e_I r)) (fun x z r hs hk => v_X8_price hs (by cases z <;> exact hk)) h)
/-! X8_noCustomer -/
noncomputable def T_X8_noCustomer_0 (v0 : Int32) (σ : sS) : Option (sZ Int32) :=
  (F_X8_in v0 0 3 σ).bind fun q1 =>
  if q1.1 = 0 then (some (.inr (1, q1.2)))
  else (some (.inr (0, q1.2)))
noncomputable def U_X8_noCustomer_0 (vs : List Value) (σ : sS) : Option (sZ Int32) := (g_i vs).bind fun a0 => (g_e a0.2).bind fun _ => T_X8_noCustomer_0 a0.1 σ
noncomputable def S_X8_noCustomer (x : sL) : Option (sZ Int32) := if x.1 = 0 then U_X8_noCustomer_0 x.2.1 x.2.2 else none
def Y_X8_noCustomer (pc : Nat) : List Nat := if pc = 0 then [0] else []
noncomputable def F_X8_noCustomer (v0 : Int32) (σ : sS) : Option (Int32 × sS) := s_run S_X8_noCustomer (0, [.int v0], σ)
theorem l_X8_noCustomer_0 {v0 : Int32} {σ : sS} {z : sZ Int32} (hf : T_X8_noCustomer_0 v0 σ = some z) : s_lz σ z := by
  unfold T_X8_noCustomer_0 at hf
  obtain ⟨q1, hh, hf⟩ := s_bind hf
  refine s_lz.tr (l_X8_in hh) ?_
  rcases s_ite hf with ⟨-, hf⟩ | ⟨-, hf⟩
  · cases hf
    exact s_le.rf
  · cases hf
    exact s_le.rf
theorem l_X8_noCustomer_s {x : sL} {z : sZ Int32} (hs : S_X8_noCustomer x = some z) : s_lz x.2.2 z := by
  obtain ⟨pc, vs, σ⟩ := x
  unfold S_X8_noCustomer at hs
  dsimp only at hs ⊢
  rcases s_ite hs with ⟨c, hs⟩ | ⟨-, hs⟩
  · subst c
    unfold U_X8_noCustomer_0 at hs
    obtain ⟨a0, g0, hs⟩ := s_bind hs
    obtain ⟨u9, ge, hs⟩ := s_bind hs
    exact l_X8_noCustomer_0 hs
  cases hs
theorem l_X8_noCustomer {v0 : Int32} {σ : sS} {q : Int32 × sS} (h : F_X8_noCustomer v0 σ = some q) : s_le σ q.2 := by
  unfold F_X8_noCustomer at h
  exact s_run_ind (V := fun x r => s_le x.2.2 r.2) (fun x z r hs hk => by
    have h9 := l_X8_noCustomer_s hs
    cases z with
    | inl y => exact s_le.tr h9 hk
    | inr q => cases hk; exact h9) h
set_option maxRecDepth 100000 in
set_option maxHeartbeats 4000000 in
theorem v_X8_noCustomer_0 {G : sG} {d : Nat} {vs0 : List Value} {σ0 : sS} {v0 : Int32} {σ : sS} {z : sZ Int32} {r : Int32 × sS} (hf : T_X8_noCustomer_0 v0 σ = some z) (k : s_K G (d + 2) M_X8_noCustomer vs0 σ0 Y_X8_noCustomer e_I z r) : s_V G (d + 2) M_X8_noCustomer vs0 σ0 Y_X8_noCustomer (0, [.int v0], σ) (e_I r) := by
  have le0 : s_le σ (e_I r).2 := s_lek hem_I (l_X8_noCustomer_0 hf) k
  refine ⟨le0, ?_⟩
  intro p e s m below meth c H locs cells slots ls X I hn1 hn2 hl
  have hn : cells + σ0.2.1 ≤ σ.2.1 ∧ slots + σ0.2.2.1 ≤ σ.2.2.1 := ⟨hn1, hn2⟩
  have hl : lv_has ls 1 [(0, .int v0)] := hl
  have hx := X.1
  have hb : c.code = cX8_noCustomer := X.2.1
  have hown : s.vm.findClass RX8 = some m.cls := X.2.2.2.2.2.1
  have hts := X.2.2.2.2.2.2.1
  refine W.eq (g2 := F0 m 0 ls []) rfl ?_
  unfold T_X8_noCustomer_0 at hf
  obtain ⟨q1, h1, hf⟩ := s_bind hf
  have le2 : s_le q1.2 (e_I r).2 := by
    refine s_lek hem_I ?_ k
    rcases s_ite hf with ⟨-, hf⟩ | ⟨-, hf⟩
    · cases hf
      exact s_le.rf
    · cases hf
      exact s_le.rf
  refine lv_iload_n hx hb dX8_noCustomer_0 rfl (lv_at hl 0 rfl) ?_
  refine lv_iconst (v := 0) hx hb dX8_noCustomer_1 (by decide) ?_
  refine lv_iconst (v := 3) hx hb dX8_noCustomer_2 (by decide) ?_
  refine r_callS (Y := M_X8_in) (v := some (.int q1.1)) X I w_1909 my_X8_in (by omega) (t_X8_in (G := G) (d := d + 0) h1) rfl rfl hl.1 rfl (Nat.le_of_ble_eq_true rfl) hn le2 dX8_noCustomer_3 (fun H locs cells slots I hn1 hn2 => ?_)
  have I : s_I G q1.2 s H locs := I
  have hn : cells + σ0.2.1 ≤ q1.2.2.1 ∧ slots + σ0.2.2.1 ≤ q1.2.2.2.1 := ⟨hn1, hn2⟩
  rcases s_ite hf with ⟨c3, hf⟩ | ⟨c3, hf⟩
  · refine lv_if_ne (tgt := 13) hx hb dX8_noCustomer_6 (by decide) (fun n => absurd c3 n) (fun _ => ?_)
    cases hf
    have k : _ = r := k
    subst k
    refine lv_iconst (v := 1) hx hb dX8_noCustomer_9 (by decide) ?_
    refine lv_goto (tgt := 14) hx hb dX8_noCustomer_10 (by decide) ?_
    exact r_iret X I rfl rfl rfl hn dX8_noCustomer_14
  · refine lv_if_ne (tgt := 13) hx hb dX8_noCustomer_6 (by decide) (fun _ => ?_) (fun n => absurd n c3)
    cases hf
    have k : _ = r := k
    subst k
    refine lv_iconst (v := 0) hx hb dX8_noCustomer_13 (by decide) ?_
    exact r_iret X I rfl rfl rfl hn dX8_noCustomer_14
theorem v_X8_noCustomer {G : sG} {d : Nat} {vs0 : List Value} {σ0 : sS} {x : sL} {z : sZ Int32} {r : Int32 × sS} (hs : S_X8_noCustomer x = some z) (k : s_K G (d + 2) M_X8_noCustomer vs0 σ0 Y_X8_noCustomer e_I z r) : s_V G (d + 2) M_X8_noCustomer vs0 σ0 Y_X8_noCustomer x (e_I r) := by
  obtain ⟨pc, vs, σ⟩ := x
  unfold S_X8_noCustomer at hs
  dsimp only at hs
  rcases s_ite hs with ⟨c, hs⟩ | ⟨-, hs⟩
  · subst c
    unfold U_X8_noCustomer_0 at hs
    obtain ⟨a0, g0, hs⟩ := s_bind hs
    obtain ⟨u9, ge, hs⟩ := s_bind hs
    rw [g_i_to g0, g_e_to ge]
    exact v_X8_noCustomer_0 hs k
  cases hs
theorem t_X8_noCustomer {G : sG} {d : Nat} {v0 : Int32} {σ : sS} {q : Int32 × sS} (h : F_X8_noCustomer v0 σ = some q) : s_T G (d + 2) M_X8_noCustomer [.int v0] σ (e_I q) := by
  unfold F_X8_noCustomer at h
  exact s_ofV rfl (by decide) (Nat.le_of_ble_eq_true rfl) rfl rfl (s_run_ind (V := fun x r => s_V G (d + 2) M_X8_noCustomer [.int v0] σ Y_X8_noCustomer x (e_I r)) (fun x z r hs hk => v_X8_noCustomer hs (by cases z <;> exact hk)) h)
/-! X8_beliefsOf -/
noncomputable def T_X8_beliefsOf_0 (v0 : Nat) (v1 : Int32) (σ : sS) : Option (sZ Int32) :=
  (s_fr σ v0 8 1).bind fun x1 =>
  (s_ai σ x1 (58 + v1)).bind fun x2 =>
  some (.inr (x2, σ))
noncomputable def U_X8_beliefsOf_0 (vs : List Value) (σ : sS) : Option (sZ Int32) := (g_r vs).bind fun a0 => (g_i a0.2).bind fun a1 => (g_e a1.2).bind fun _ => T_X8_beliefsOf_0 a0.1 a1.1 σ
noncomputable def S_X8_beliefsOf (x : sL) : Option (sZ Int32) := if x.1 = 0 then U_X8_beliefsOf_0 x.2.1 x.2.2 else none
def Y_X8_beliefsOf (pc : Nat) : List Nat := if pc = 0 then [0, 1] else []
noncomputable def F_X8_beliefsOf (v0 : Nat) (v1 : Int32) (σ : sS) : Option (Int32 × sS) := (s_is σ v0 8).bind fun _ => s_run S_X8_beliefsOf (0, [.ref v0, .int v1], σ)
theorem l_X8_beliefsOf_0 {v0 : Nat} {v1 : Int32} {σ : sS} {z : sZ Int32} (hf : T_X8_beliefsOf_0 v0 v1 σ = some z) : s_lz σ z := by
  unfold T_X8_beliefsOf_0 at hf
  obtain ⟨x1, -, hf⟩ := s_bind hf
  obtain ⟨x2, -, hf⟩ := s_bind hf
  cases hf
  exact s_le.rf
theorem l_X8_beliefsOf_s {x : sL} {z : sZ Int32} (hs : S_X8_beliefsOf x = some z) : s_lz x.2.2 z := by
  obtain ⟨pc, vs, σ⟩ := x
  unfold S_X8_beliefsOf at hs
  dsimp only at hs ⊢
  rcases s_ite hs with ⟨c, hs⟩ | ⟨-, hs⟩
  · subst c
    unfold U_X8_beliefsOf_0 at hs
    obtain ⟨a0, g0, hs⟩ := s_bind hs
    obtain ⟨a1, g1, hs⟩ := s_bind hs
    obtain ⟨u9, ge, hs⟩ := s_bind hs
    exact l_X8_beliefsOf_0 hs
  cases hs
theorem l_X8_beliefsOf {v0 : Nat} {v1 : Int32} {σ : sS} {q : Int32 × sS} (h : F_X8_beliefsOf v0 v1 σ = some q) : s_le σ q.2 := by
  unfold F_X8_beliefsOf at h
  obtain ⟨-, -, h⟩ := s_bind h
  exact s_run_ind (V := fun x r => s_le x.2.2 r.2) (fun x z r hs hk => by
    have h9 := l_X8_beliefsOf_s hs
    cases z with
    | inl y => exact s_le.tr h9 hk
    | inr q => cases hk; exact h9) h
theorem b_X8_beliefsOf {v0 : Nat} {v1 : Int32} {σ : sS} {q : Int32 × sS} (h : F_X8_beliefsOf v0 v1 σ = some q) : ∃ fs, σ.1 v0 = some (.inr (8, fs)) := by
  unfold F_X8_beliefsOf at h
  obtain ⟨u, hu, -⟩ := s_bind h
  exact s_is_to hu
set_option maxRecDepth 100000 in
set_option maxHeartbeats 4000000 in
theorem v_X8_beliefsOf_0 {G : sG} {d : Nat} {vs0 : List Value} {σ0 : sS} {v0 : Nat} {v1 : Int32} {σ : sS} {z : sZ Int32} {r : Int32 × sS} (hf : T_X8_beliefsOf_0 v0 v1 σ = some z) (k : s_K G (d + 1) M_X8_beliefsOf vs0 σ0 Y_X8_beliefsOf e_I z r) : s_V G (d + 1) M_X8_beliefsOf vs0 σ0 Y_X8_beliefsOf (0, [.ref v0, .int v1], σ) (e_I r) := by
  have le0 : s_le σ (e_I r).2 := s_lek hem_I (l_X8_beliefsOf_0 hf) k
  refine ⟨le0, ?_⟩
  intro p e s m below meth c H locs cells slots ls X I hn1 hn2 hl
  have hn : cells + σ0.2.1 ≤ σ.2.1 ∧ slots + σ0.2.2.1 ≤ σ.2.2.1 := ⟨hn1, hn2⟩
  have hl : lv_has ls 2 [(0, .ref v0), (1, .int v1)] := hl
  have hx := X.1
  have hb : c.code = cX8_beliefsOf := X.2.1
  have hown : s.vm.findClass RX8 = some m.cls := X.2.2.2.2.2.1
  have hts := X.2.2.2.2.2.2.1
  refine W.eq (g2 := F0 m 0 ls []) rfl ?_
  unfold T_X8_beliefsOf_0 at hf
  obtain ⟨x1, h1, hf⟩ := s_bind hf
  obtain ⟨x2, h2, hf⟩ := s_bind hf
  cases hf
  have k : _ = r := k
  subst k
  refine lv_aload_n hx hb dX8_beliefsOf_0 rfl (lv_at hl 0 rfl) ?_
  refine r_gr X I fl_X8_13 h1 dX8_beliefsOf_1 ?_
  refine lv_bipush (v := 58) hx hb dX8_beliefsOf_4 (by decide) ?_
  refine lv_iload_n hx hb dX8_beliefsOf_6 rfl (lv_at hl 1 rfl) ?_
  refine lv_iadd hx hb dX8_beliefsOf_7 ?_
  refine r_iald X I h2 dX8_beliefsOf_8 ?_
  exact r_iret X I rfl rfl rfl hn dX8_beliefsOf_9
theorem v_X8_beliefsOf {G : sG} {d : Nat} {vs0 : List Value} {σ0 : sS} {x : sL} {z : sZ Int32} {r : Int32 × sS} (hs : S_X8_beliefsOf x = some z) (k : s_K G (d + 1) M_X8_beliefsOf vs0 σ0 Y_X8_beliefsOf e_I z r) : s_V G (d + 1) M_X8_beliefsOf vs0 σ0 Y_X8_beliefsOf x (e_I r) := by
  obtain ⟨pc, vs, σ⟩ := x
  unfold S_X8_beliefsOf at hs
  dsimp only at hs
  rcases s_ite hs with ⟨c, hs⟩ | ⟨-, hs⟩
  · subst c
    unfold U_X8_beliefsOf_0 at hs
    obtain ⟨a0, g0, hs⟩ := s_bind hs
    obtain ⟨a1, g1, hs⟩ := s_bind hs
    obtain ⟨u9, ge, hs⟩ := s_bind hs
    rw [g_r_to g0, g_i_to g1, g_e_to ge]
    exact v_X8_beliefsOf_0 hs k
  cases hs
theorem t_X8_beliefsOf {G : sG} {d : Nat} {v0 : Nat} {v1 : Int32} {σ : sS} {q : Int32 × sS} (h : F_X8_beliefsOf v0 v1 σ = some q) : s_T G (d + 1) M_X8_beliefsOf [.ref v0, .int v1] σ (e_I q) := by
  unfold F_X8_beliefsOf at h
  obtain ⟨-, -, h⟩ := s_bind h
  exact s_ofV rfl (by decide) (Nat.le_of_ble_eq_true rfl) rfl rfl (s_run_ind (V := fun x r => s_V G (d + 1) M_X8_beliefsOf [.ref v0, .int v1] σ Y_X8_beliefsOf x (e_I r)) (fun x z r hs hk => v_X8_beliefsOf hs (by cases z <;> exact hk)) h)
/-! X8_believe -/
noncomputable def T_X8_believe_0 (v0 : Nat) (v1 : Int32) (v2 : Int32) (v3 : Int32) (σ : sS) : Option (sZ Int32) :=
  (s_pf σ v0 8 0 (.int 0)).bind fun σ1 =>
  (F_X8_noCustomer v1 σ1).bind fun q2 =>
  if q2.1 = 0 then ((F_X8_noFormula v0 v2 q2.2).bind fun q3 =>
  if q3.1 = 0 then (some (.inl (26, [.ref v0, .int v1, .int v2, .int v3, .int 0, .ref v0], q3.2)))
  else (some (.inl (21, [.ref v0, .int v1, .int v2, .int v3, .ref v0], q3.2))))
  else (some (.inl (21, [.ref v0, .int v1, .int v2, .int v3, .ref v0], q2.2)))
noncomputable def U_X8_believe_0 (vs : List Value) (σ : sS) : Option (sZ Int32) := (g_r vs).bind fun a0 => (g_i a0.2).bind fun a1 => (g_i a1.2).bind fun a2 => (g_i a2.2).bind fun a3 => (g_e a3.2).bind fun _ => T_X8_believe_0 a0.1 a1.1 a2.1 a3.1 σ
noncomputable def T_X8_believe_21 (v0 : Nat) (v1 : Int32) (v2 : Int32) (v3 : Int32) (w0 : Nat) (σ : sS) : Option (sZ Int32) :=
  some (.inl (26, [.ref v0, .int v1, .int v2, .int v3, .int 1, .ref w0], σ))
noncomputable def U_X8_believe_21 (vs : List Value) (σ : sS) : Option (sZ Int32) := (g_r vs).bind fun a0 => (g_i a0.2).bind fun a1 => (g_i a1.2).bind fun a2 => (g_i a2.2).bind fun a3 => (g_r a3.2).bind fun a4 => (g_e a4.2).bind fun _ => T_X8_believe_21 a0.1 a1.1 a2.1 a3.1 a4.1 σ
noncomputable def T_X8_believe_26 (v0 : Nat) (v1 : Int32) (v2 : Int32) (v3 : Int32) (w0 : Int32) (w1 : Nat) (σ : sS) : Option (sZ Int32) :=
  (F_X8_throwsIf w1 w0 1 σ).bind fun q1 =>
  if q1.1 = 0 then ((F_X8_beliefsOf v0 v1 q1.2).bind fun q2 =>
  if ((q2.1 >>> (v2 &&& 31)) &&& 1) = 1 then (some (.inl (53, [.ref v0, .int v1, .int v2, .int v3, .int 1], q2.2)))
  else (some (.inl (53, [.ref v0, .int v1, .int v2, .int v3, .int 0], q2.2))))
  else (some (.inr (0, q1.2)))
noncomputable def U_X8_believe_26 (vs : List Value) (σ : sS) : Option (sZ Int32) := (g_r vs).bind fun a0 => (g_i a0.2).bind fun a1 => (g_i a1.2).bind fun a2 => (g_i a2.2).bind fun a3 => (g_i a3.2).bind fun a4 => (g_r a4.2).bind fun a5 => (g_e a5.2).bind fun _ => T_X8_believe_26 a0.1 a1.1 a2.1 a3.1 a4.1 a5.1 σ
noncomputable def T_X8_believe_53 (v0 : Nat) (v1 : Int32) (v2 : Int32) (v3 : Int32) (w0 : Int32) (σ : sS) : Option (sZ Int32) :=
  if w0 = v3 then (some (.inl (76, [.int v3, .int w0], σ)))
  else ((s_fr σ v0 8 1).bind fun x1 =>
  (s_ai σ x1 (58 + v1)).bind fun x2 =>
  (s_si σ x1 (58 + v1) (x2 ^^^ (1 <<< (v2 &&& 31)))).bind fun σ3 =>
  some (.inl (76, [.int v3, .int w0], σ3)))
noncomputable def U_X8_believe_53 (vs : List Value) (σ : sS) : Option (sZ Int32) := (g_r vs).bind fun a0 => (g_i a0.2).bind fun a1 => (g_i a1.2).bind fun a2 => (g_i a2.2).bind fun a3 => (g_i a3.2).bind fun a4 => (g_e a4.2).bind fun _ => T_X8_believe_53 a0.1 a1.1 a2.1 a3.1 a4.1 σ
noncomputable def T_X8_believe_76 (v3 : Int32) (v4 : Int32) (σ : sS) : Option (sZ Int32) :=
  if v4 = v3 then (some (.inr (0, σ)))
  else (some (.inr (1, σ)))
noncomputable def U_X8_believe_76 (vs : List Value) (σ : sS) : Option (sZ Int32) := (g_i vs).bind fun a0 => (g_i a0.2).bind fun a1 => (g_e a1.2).bind fun _ => T_X8_believe_76 a0.1 a1.1 σ
noncomputable def S_X8_believe (x : sL) : Option (sZ Int32) := if x.1 = 0 then U_X8_believe_0 x.2.1 x.2.2 else if x.1 = 21 then U_X8_believe_21 x.2.1 x.2.2 else if x.1 = 26 then U_X8_believe_26 x.2.1 x.2.2 else if x.1 = 53 then U_X8_believe_53 x.2.1 x.2.2 else if x.1 = 76 then U_X8_believe_76 x.2.1 x.2.2 else none
def Y_X8_believe (pc : Nat) : List Nat := if pc = 0 then [0, 1, 2, 3] else if pc = 21 then [0, 1, 2, 3] else if pc = 26 then [0, 1, 2, 3] else if pc = 53 then [0, 1, 2, 3] else if pc = 76 then [3, 4] else []
noncomputable def F_X8_believe (v0 : Nat) (v1 : Int32) (v2 : Int32) (v3 : Int32) (σ : sS) : Option (Int32 × sS) := (s_is σ v0 8).bind fun _ => s_run S_X8_believe (0, [.ref v0, .int v1, .int v2, .int v3], σ)
theorem l_X8_believe_0 {v0 : Nat} {v1 : Int32} {v2 : Int32} {v3 : Int32} {σ : sS} {z : sZ Int32} (hf : T_X8_believe_0 v0 v1 v2 v3 σ = some z) : s_lz σ z := by
  unfold T_X8_believe_0 at hf
  obtain ⟨σ1, hh, hf⟩ := s_bind hf
  refine s_lz.tr (s_le2 (s_pf_2 hh)) ?_
  obtain ⟨q2, hh, hf⟩ := s_bind hf
  refine s_lz.tr (l_X8_noCustomer hh) ?_
  rcases s_ite hf with ⟨-, hf⟩ | ⟨-, hf⟩
  · obtain ⟨q3, hh, hf⟩ := s_bind hf
    refine s_lz.tr (l_X8_noFormula hh) ?_
    rcases s_ite hf with ⟨-, hf⟩ | ⟨-, hf⟩
    · cases hf
      exact s_le.rf
    · cases hf
      exact s_le.rf
  · cases hf
    exact s_le.rf
theorem l_X8_believe_21 {v0 : Nat} {v1 : Int32} {v2 : Int32} {v3 : Int32} {w0 : Nat} {σ : sS} {z : sZ Int32} (hf : T_X8_believe_21 v0 v1 v2 v3 w0 σ = some z) : s_lz σ z := by
  unfold T_X8_believe_21 at hf
  cases hf
  exact s_le.rf
theorem l_X8_believe_26 {v0 : Nat} {v1 : Int32} {v2 : Int32} {v3 : Int32} {w0 : Int32} {w1 : Nat} {σ : sS} {z : sZ Int32} (hf : T_X8_believe_26 v0 v1 v2 v3 w0 w1 σ = some z) : s_lz σ z := by
  unfold T_X8_believe_26 at hf
  obtain ⟨q1, hh, hf⟩ := s_bind hf
  refine s_lz.tr (l_X8_throwsIf hh) ?_
  rcases s_ite hf with ⟨-, hf⟩ | ⟨-, hf⟩
  · obtain ⟨q2, hh, hf⟩ := s_bind hf
    refine s_lz.tr (l_X8_beliefsOf hh) ?_
    rcases s_ite hf with ⟨-, hf⟩ | ⟨-, hf⟩
    · cases hf
      exact s_le.rf
    · cases hf
      exact s_le.rf
  · cases hf
    exact s_le.rf
theorem l_X8_believe_53 {v0 : Nat} {v1 : Int32} {v2 : Int32} {v3 : Int32} {w0 : Int32} {σ : sS} {z : sZ Int32} (hf : T_X8_believe_53 v0 v1 v2 v3 w0 σ = some z) : s_lz σ z := by
  unfold T_X8_believe_53 at hf
  rcases s_ite hf with ⟨-, hf⟩ | ⟨-, hf⟩
  · cases hf
    exact s_le.rf
  · obtain ⟨x1, -, hf⟩ := s_bind hf
    obtain ⟨x2, -, hf⟩ := s_bind hf
    obtain ⟨σ3, hh, hf⟩ := s_bind hf
    refine s_lz.tr (s_le2 (s_si_2 hh)) ?_
    cases hf
    exact s_le.rf
theorem l_X8_believe_76 {v3 : Int32} {v4 : Int32} {σ : sS} {z : sZ Int32} (hf : T_X8_believe_76 v3 v4 σ = some z) : s_lz σ z := by
  unfold T_X8_believe_76 at hf
  rcases s_ite hf with ⟨-, hf⟩ | ⟨-, hf⟩
  · cases hf
    exact s_le.rf
  · cases hf
    exact s_le.rf
theorem l_X8_believe_s {x : sL} {z : sZ Int32} (hs : S_X8_believe x = some z) : s_lz x.2.2 z := by
  obtain ⟨pc, vs, σ⟩ := x
  unfold S_X8_believe at hs
  dsimp only at hs ⊢
  rcases s_ite hs with ⟨c, hs⟩ | ⟨-, hs⟩
  · subst c
    unfold U_X8_believe_0 at hs
    obtain ⟨a0, g0, hs⟩ := s_bind hs
    obtain ⟨a1, g1, hs⟩ := s_bind hs
    obtain ⟨a2, g2, hs⟩ := s_bind hs
    obtain ⟨a3, g3, hs⟩ := s_bind hs
    obtain ⟨u9, ge, hs⟩ := s_bind hs
    exact l_X8_believe_0 hs
  rcases s_ite hs with ⟨c, hs⟩ | ⟨-, hs⟩
  · subst c
    unfold U_X8_believe_21 at hs
    obtain ⟨a0, g0, hs⟩ := s_bind hs
    obtain ⟨a1, g1, hs⟩ := s_bind hs
    obtain ⟨a2, g2, hs⟩ := s_bind hs
    obtain ⟨a3, g3, hs⟩ := s_bind hs
    obtain ⟨a4, g4, hs⟩ := s_bind hs
    obtain ⟨u9, ge, hs⟩ := s_bind hs
    exact l_X8_believe_21 hs
  rcases s_ite hs with ⟨c, hs⟩ | ⟨-, hs⟩
  · subst c
    unfold U_X8_believe_26 at hs
    obtain ⟨a0, g0, hs⟩ := s_bind hs
    obtain ⟨a1, g1, hs⟩ := s_bind hs
    obtain ⟨a2, g2, hs⟩ := s_bind hs
    obtain ⟨a3, g3, hs⟩ := s_bind hs
    obtain ⟨a4, g4, hs⟩ := s_bind hs
    obtain ⟨a5, g5, hs⟩ := s_bind hs
    obtain ⟨u9, ge, hs⟩ := s_bind hs
    exact l_X8_believe_26 hs
  rcases s_ite hs with ⟨c, hs⟩ | ⟨-, hs⟩
  · subst c
    unfold U_X8_believe_53 at hs
    obtain ⟨a0, g0, hs⟩ := s_bind hs
    obtain ⟨a1, g1, hs⟩ := s_bind hs
    obtain ⟨a2, g2, hs⟩ := s_bind hs
    obtain ⟨a3, g3, hs⟩ := s_bind hs
    obtain ⟨a4, g4, hs⟩ := s_bind hs
    obtain ⟨u9, ge, hs⟩ := s_bind hs
    exact l_X8_believe_53 hs
  rcases s_ite hs with ⟨c, hs⟩ | ⟨-, hs⟩
  · subst c
    unfold U_X8_believe_76 at hs
    obtain ⟨a0, g0, hs⟩ := s_bind hs
    obtain ⟨a1, g1, hs⟩ := s_bind hs
    obtain ⟨u9, ge, hs⟩ := s_bind hs
    exact l_X8_believe_76 hs
  cases hs
theorem l_X8_believe {v0 : Nat} {v1 : Int32} {v2 : Int32} {v3 : Int32} {σ : sS} {q : Int32 × sS} (h : F_X8_believe v0 v1 v2 v3 σ = some q) : s_le σ q.2 := by
  unfold F_X8_believe at h
  obtain ⟨-, -, h⟩ := s_bind h
  exact s_run_ind (V := fun x r => s_le x.2.2 r.2) (fun x z r hs hk => by
    have h9 := l_X8_believe_s hs
    cases z with
    | inl y => exact s_le.tr h9 hk
    | inr q => cases hk; exact h9) h
theorem b_X8_believe {v0 : Nat} {v1 : Int32} {v2 : Int32} {v3 : Int32} {σ : sS} {q : Int32 × sS} (h : F_X8_believe v0 v1 v2 v3 σ = some q) : ∃ fs, σ.1 v0 = some (.inr (8, fs)) := by
  unfold F_X8_believe at h
  obtain ⟨u, hu, -⟩ := s_bind h
  exact s_is_to hu
set_option maxRecDepth 100000 in
set_option maxHeartbeats 4000000 in
theorem v_X8_believe_0 {G : sG} {d : Nat} {vs0 : List Value} {σ0 : sS} {v0 : Nat} {v1 : Int32} {v2 : Int32} {v3 : Int32} {σ : sS} {z : sZ Int32} {r : Int32 × sS} (hf : T_X8_believe_0 v0 v1 v2 v3 σ = some z) (k : s_K G (d + 3) M_X8_believe vs0 σ0 Y_X8_believe e_I z r) : s_V G (d + 3) M_X8_believe vs0 σ0 Y_X8_believe (0, [.ref v0, .int v1, .int v2, .int v3], σ) (e_I r) := by
  have le0 : s_le σ (e_I r).2 := s_lek hem_I (l_X8_believe_0 hf) k
  refine ⟨le0, ?_⟩
  intro p e s m below meth c H locs cells slots ls X I hn1 hn2 hl
  have hn : cells + σ0.2.1 ≤ σ.2.1 ∧ slots + σ0.2.2.1 ≤ σ.2.2.1 := ⟨hn1, hn2⟩
  have hl : lv_has ls 5 [(0, .ref v0), (1, .int v1), (2, .int v2), (3, .int v3)] := hl
  have hx := X.1
  have hb : c.code = cX8_believe := X.2.1
  have hown : s.vm.findClass RX8 = some m.cls := X.2.2.2.2.2.1
  have hts := X.2.2.2.2.2.2.1
  refine W.eq (g2 := F0 m 0 ls []) rfl ?_
  unfold T_X8_believe_0 at hf
  obtain ⟨σ1, h1, hf⟩ := s_bind hf
  obtain ⟨q2, h2, hf⟩ := s_bind hf
  have le3 : s_le q2.2 (e_I r).2 := by
    refine s_lek hem_I ?_ k
    rcases s_ite hf with ⟨-, hf⟩ | ⟨-, hf⟩
    · obtain ⟨q3, hh, hf⟩ := s_bind hf
      refine s_lz.tr (l_X8_noFormula hh) ?_
      rcases s_ite hf with ⟨-, hf⟩ | ⟨-, hf⟩
      · cases hf
        exact s_le.rf
      · cases hf
        exact s_le.rf
    · cases hf
      exact s_le.rf
  have le4 := s_le.tr (l_X8_noCustomer h2) le3
  refine lv_aload_n hx hb dX8_believe_0 rfl (lv_at hl 0 rfl) ?_
  refine lv_iconst (v := 0) hx hb dX8_believe_1 (by decide) ?_
  refine r_put X I fp_X8_3 (fun h => by cases h) h1 rfl rfl dX8_believe_2 (fun H locs I => ?_)
  have hn := s_k2 (s_pf_2 h1) hn
  refine lv_aload_n hx hb dX8_believe_5 rfl (lv_at hl 0 rfl) ?_
  refine lv_iload_n hx hb dX8_believe_6 rfl (lv_at hl 1 rfl) ?_
  refine r_callS (Y := M_X8_noCustomer) (v := some (.int q2.1)) X I w_1984 my_X8_noCustomer (by omega) (t_X8_noCustomer (G := G) (d := d + 0) h2) rfl rfl hl.1 rfl (Nat.le_of_ble_eq_true rfl) hn le3 dX8_believe_7 (fun H locs cells slots I hn1 hn2 => ?_)
  have I : s_I G q2.2 s H locs := I
  have hn : cells + σ0.2.1 ≤ q2.2.2.1 ∧ slots + σ0.2.2.1 ≤ q2.2.2.2.1 := ⟨hn1, hn2⟩
  rcases s_ite hf with ⟨c5, hf⟩ | ⟨c5, hf⟩
  · refine lv_if_ne (tgt := 21) hx hb dX8_believe_10 (by decide) (fun n => absurd c5 n) (fun _ => ?_)
    obtain ⟨q3, h6, hf⟩ := s_bind hf
    have le7 : s_le q3.2 (e_I r).2 := by
      refine s_lek hem_I ?_ k
      rcases s_ite hf with ⟨-, hf⟩ | ⟨-, hf⟩
      · cases hf
        exact s_le.rf
      · cases hf
        exact s_le.rf
    refine lv_aload_n hx hb dX8_believe_13 rfl (lv_at hl 0 rfl) ?_
    refine lv_iload_n hx hb dX8_believe_14 rfl (lv_at hl 2 rfl) ?_
    refine r_callV (Y := M_X8_noFormula) (v := some (.int q3.1)) X I w_1916 my_X8_noFormula (by omega) (t_X8_noFormula (G := G) (d := d + 0) h6) (b_X8_noFormula h6) rfl rfl hl.1 rfl (Nat.le_of_ble_eq_true rfl) hn le7 dX8_believe_15 (fun H locs cells slots I hn1 hn2 => ?_)
    have I : s_I G q3.2 s H locs := I
    have hn : cells + σ0.2.1 ≤ q3.2.2.1 ∧ slots + σ0.2.2.1 ≤ q3.2.2.2.1 := ⟨hn1, hn2⟩
    rcases s_ite hf with ⟨c8, hf⟩ | ⟨c8, hf⟩
    · refine lv_if_eq (tgt := 25) hx hb dX8_believe_18 (by decide) (fun _ => ?_) (fun n => absurd c8 n)
      cases hf
      have k : s_V G (d + 3) M_X8_believe vs0 σ0 Y_X8_believe (26, [.ref v0, .int v1, .int v2, .int v3, .int 0, .ref v0], q3.2) (e_I r) := k
      refine lv_iconst (v := 0) hx hb dX8_believe_25 (by decide) ?_
      exact k.2 p e s m below meth c _ _ _ _ _ X I hn.1 hn.2 (lv_sub hl [0, 1, 2, 3] rfl)
    · refine lv_if_eq (tgt := 25) hx hb dX8_believe_18 (by decide) (fun n => absurd n c8) (fun _ => ?_)
      cases hf
      have k : s_V G (d + 3) M_X8_believe vs0 σ0 Y_X8_believe (21, [.ref v0, .int v1, .int v2, .int v3, .ref v0], q3.2) (e_I r) := k
      exact k.2 p e s m below meth c _ _ _ _ _ X I hn.1 hn.2 (lv_sub hl [0, 1, 2, 3] rfl)
  · refine lv_if_ne (tgt := 21) hx hb dX8_believe_10 (by decide) (fun _ => ?_) (fun n => absurd n c5)
    cases hf
    have k : s_V G (d + 3) M_X8_believe vs0 σ0 Y_X8_believe (21, [.ref v0, .int v1, .int v2, .int v3, .ref v0], q2.2) (e_I r) := k
    exact k.2 p e s m below meth c _ _ _ _ _ X I hn.1 hn.2 (lv_sub hl [0, 1, 2, 3] rfl)
set_option maxRecDepth 100000 in
set_option maxHeartbeats 4000000 in
theorem v_X8_believe_21 {G : sG} {d : Nat} {vs0 : List Value} {σ0 : sS} {v0 : Nat} {v1 : Int32} {v2 : Int32} {v3 : Int32} {w0 : Nat} {σ : sS} {z : sZ Int32} {r : Int32 × sS} (hf : T_X8_believe_21 v0 v1 v2 v3 w0 σ = some z) (k : s_K G (d + 3) M_X8_believe vs0 σ0 Y_X8_believe e_I z r) : s_V G (d + 3) M_X8_believe vs0 σ0 Y_X8_believe (21, [.ref v0, .int v1, .int v2, .int v3, .ref w0], σ) (e_I r) := by
  have le0 : s_le σ (e_I r).2 := s_lek hem_I (l_X8_believe_21 hf) k
  refine ⟨le0, ?_⟩
  intro p e s m below meth c H locs cells slots ls X I hn1 hn2 hl
  have hn : cells + σ0.2.1 ≤ σ.2.1 ∧ slots + σ0.2.2.1 ≤ σ.2.2.1 := ⟨hn1, hn2⟩
  have hl : lv_has ls 5 [(0, .ref v0), (1, .int v1), (2, .int v2), (3, .int v3)] := hl
  have hx := X.1
  have hb : c.code = cX8_believe := X.2.1
  have hown : s.vm.findClass RX8 = some m.cls := X.2.2.2.2.2.1
  have hts := X.2.2.2.2.2.2.1
  refine W.eq (g2 := F0 m 21 ls [.ref w0]) rfl ?_
  unfold T_X8_believe_21 at hf
  cases hf
  have k : s_V G (d + 3) M_X8_believe vs0 σ0 Y_X8_believe (26, [.ref v0, .int v1, .int v2, .int v3, .int 1, .ref w0], σ) (e_I r) := k
  refine lv_iconst (v := 1) hx hb dX8_believe_21 (by decide) ?_
  refine lv_goto (tgt := 26) hx hb dX8_believe_22 (by decide) ?_
  exact k.2 p e s m below meth c _ _ _ _ _ X I hn.1 hn.2 (lv_sub hl [0, 1, 2, 3] rfl)
set_option maxRecDepth 100000 in
set_option maxHeartbeats 4000000 in
theorem v_X8_believe_26 {G : sG} {d : Nat} {vs0 : List Value} {σ0 : sS} {v0 : Nat} {v1 : Int32} {v2 : Int32} {v3 : Int32} {w0 : Int32} {w1 : Nat} {σ : sS} {z : sZ Int32} {r : Int32 × sS} (hf : T_X8_believe_26 v0 v1 v2 v3 w0 w1 σ = some z) (k : s_K G (d + 3) M_X8_believe vs0 σ0 Y_X8_believe e_I z r) : s_V G (d + 3) M_X8_believe vs0 σ0 Y_X8_believe (26, [.ref v0, .int v1, .int v2, .int v3, .int w0, .ref w1], σ) (e_I r) := by
  have le0 : s_le σ (e_I r).2 := s_lek hem_I (l_X8_believe_26 hf) k
  refine ⟨le0, ?_⟩
  intro p e s m below meth c H locs cells slots ls X I hn1 hn2 hl
  have hn : cells + σ0.2.1 ≤ σ.2.1 ∧ slots + σ0.2.2.1 ≤ σ.2.2.1 := ⟨hn1, hn2⟩
  have hl : lv_has ls 5 [(0, .ref v0), (1, .int v1), (2, .int v2), (3, .int v3)] := hl
  have hx := X.1
  have hb : c.code = cX8_believe := X.2.1
  have hown : s.vm.findClass RX8 = some m.cls := X.2.2.2.2.2.1
  have hts := X.2.2.2.2.2.2.1
  refine W.eq (g2 := F0 m 26 ls [.int w0, .ref w1]) rfl ?_
  unfold T_X8_believe_26 at hf
  obtain ⟨q1, h1, hf⟩ := s_bind hf
  have le2 : s_le q1.2 (e_I r).2 := by
    refine s_lek hem_I ?_ k
    rcases s_ite hf with ⟨-, hf⟩ | ⟨-, hf⟩
    · obtain ⟨q2, hh, hf⟩ := s_bind hf
      refine s_lz.tr (l_X8_beliefsOf hh) ?_
      rcases s_ite hf with ⟨-, hf⟩ | ⟨-, hf⟩
      · cases hf
        exact s_le.rf
      · cases hf
        exact s_le.rf
    · cases hf
      exact s_le.rf
  refine lv_iconst (v := 1) hx hb dX8_believe_26 (by decide) ?_
  refine r_callV (Y := M_X8_throwsIf) (v := some (.int q1.1)) X I w_1897 my_X8_throwsIf (by omega) (t_X8_throwsIf (G := G) (d := d + 1) h1) (b_X8_throwsIf h1) rfl rfl hl.1 rfl (Nat.le_of_ble_eq_true rfl) hn le2 dX8_believe_27 (fun H locs cells slots I hn1 hn2 => ?_)
  have I : s_I G q1.2 s H locs := I
  have hn : cells + σ0.2.1 ≤ q1.2.2.1 ∧ slots + σ0.2.2.1 ≤ q1.2.2.2.1 := ⟨hn1, hn2⟩
  rcases s_ite hf with ⟨c3, hf⟩ | ⟨c3, hf⟩
  · refine lv_if_eq (tgt := 35) hx hb dX8_believe_30 (by decide) (fun _ => ?_) (fun n => absurd c3 n)
    obtain ⟨q2, h4, hf⟩ := s_bind hf
    have le5 : s_le q2.2 (e_I r).2 := by
      refine s_lek hem_I ?_ k
      rcases s_ite hf with ⟨-, hf⟩ | ⟨-, hf⟩
      · cases hf
        exact s_le.rf
      · cases hf
        exact s_le.rf
    refine lv_aload_n hx hb dX8_believe_35 rfl (lv_at hl 0 rfl) ?_
    refine lv_iload_n hx hb dX8_believe_36 rfl (lv_at hl 1 rfl) ?_
    refine r_callV (Y := M_X8_beliefsOf) (v := some (.int q2.1)) X I w_1987 my_X8_beliefsOf (by omega) (t_X8_beliefsOf (G := G) (d := d + 1) h4) (b_X8_beliefsOf h4) rfl rfl hl.1 rfl (Nat.le_of_ble_eq_true rfl) hn le5 dX8_believe_37 (fun H locs cells slots I hn1 hn2 => ?_)
    have I : s_I G q2.2 s H locs := I
    have hn : cells + σ0.2.1 ≤ q2.2.2.1 ∧ slots + σ0.2.2.1 ≤ q2.2.2.2.1 := ⟨hn1, hn2⟩
    refine lv_iload_n hx hb dX8_believe_40 rfl (lv_at hl 2 rfl) ?_
    refine lv_ishr hx hb dX8_believe_41 ?_
    refine lv_iconst (v := 1) hx hb dX8_believe_42 (by decide) ?_
    refine lv_iand hx hb dX8_believe_43 ?_
    refine lv_iconst (v := 1) hx hb dX8_believe_44 (by decide) ?_
    rcases s_ite hf with ⟨c6, hf⟩ | ⟨c6, hf⟩
    · refine lv_icmp_ne (tgt := 52) hx hb dX8_believe_45 (by decide) (fun n => absurd c6 n) (fun _ => ?_)
      cases hf
      have k : s_V G (d + 3) M_X8_believe vs0 σ0 Y_X8_believe (53, [.ref v0, .int v1, .int v2, .int v3, .int 1], q2.2) (e_I r) := k
      refine lv_iconst (v := 1) hx hb dX8_believe_48 (by decide) ?_
      refine lv_goto (tgt := 53) hx hb dX8_believe_49 (by decide) ?_
      exact k.2 p e s m below meth c _ _ _ _ _ X I hn.1 hn.2 (lv_sub hl [0, 1, 2, 3] rfl)
    · refine lv_icmp_ne (tgt := 52) hx hb dX8_believe_45 (by decide) (fun _ => ?_) (fun n => absurd n c6)
      cases hf
      have k : s_V G (d + 3) M_X8_believe vs0 σ0 Y_X8_believe (53, [.ref v0, .int v1, .int v2, .int v3, .int 0], q2.2) (e_I r) := k
      refine lv_iconst (v := 0) hx hb dX8_believe_52 (by decide) ?_
      exact k.2 p e s m below meth c _ _ _ _ _ X I hn.1 hn.2 (lv_sub hl [0, 1, 2, 3] rfl)
  · refine lv_if_eq (tgt := 35) hx hb dX8_believe_30 (by decide) (fun n => absurd n c3) (fun _ => ?_)
    cases hf
    have k : _ = r := k
    subst k
    refine lv_iconst (v := 0) hx hb dX8_believe_33 (by decide) ?_
    exact r_iret X I rfl rfl rfl hn dX8_believe_34
set_option maxRecDepth 100000 in
set_option maxHeartbeats 4000000 in
theorem v_X8_believe_53 {G : sG} {d : Nat} {vs0 : List Value} {σ0 : sS} {v0 : Nat} {v1 : Int32} {v2 : Int32} {v3 : Int32} {w0 : Int32} {σ : sS} {z : sZ Int32} {r : Int32 × sS} (hf : T_X8_believe_53 v0 v1 v2 v3 w0 σ = some z) (k : s_K G (d + 3) M_X8_believe vs0 σ0 Y_X8_believe e_I z r) : s_V G (d + 3) M_X8_believe vs0 σ0 Y_X8_believe (53, [.ref v0, .int v1, .int v2, .int v3, .int w0], σ) (e_I r) := by
  have le0 : s_le σ (e_I r).2 := s_lek hem_I (l_X8_believe_53 hf) k
  refine ⟨le0, ?_⟩
  intro p e s m below meth c H locs cells slots ls X I hn1 hn2 hl
  have hn : cells + σ0.2.1 ≤ σ.2.1 ∧ slots + σ0.2.2.1 ≤ σ.2.2.1 := ⟨hn1, hn2⟩
  have hl : lv_has ls 5 [(0, .ref v0), (1, .int v1), (2, .int v2), (3, .int v3)] := hl
  have hx := X.1
  have hb : c.code = cX8_believe := X.2.1
  have hown : s.vm.findClass RX8 = some m.cls := X.2.2.2.2.2.1
  have hts := X.2.2.2.2.2.2.1
  refine W.eq (g2 := F0 m 53 ls [.int w0]) rfl ?_
  unfold T_X8_believe_53 at hf
  refine lv_istore (lv' := [(4, .int w0), (0, .ref v0), (1, .int v1), (2, .int v2), (3, .int v3)]) hx hb dX8_believe_53 hl (by decide) rfl (fun ls hl => ?_)
  refine lv_iload hx hb dX8_believe_55 (lv_at hl 0 rfl) ?_
  refine lv_iload_n hx hb dX8_believe_57 rfl (lv_at hl 4 rfl) ?_
  rcases s_ite hf with ⟨c1, hf⟩ | ⟨c1, hf⟩
  · refine lv_icmp_eq (tgt := 76) hx hb dX8_believe_58 (by decide) (fun _ => ?_) (fun n => absurd c1 n)
    cases hf
    have k : s_V G (d + 3) M_X8_believe vs0 σ0 Y_X8_believe (76, [.int v3, .int w0], σ) (e_I r) := k
    exact k.2 p e s m below meth c _ _ _ _ _ X I hn.1 hn.2 (lv_sub hl [4, 0] rfl)
  · refine lv_icmp_eq (tgt := 76) hx hb dX8_believe_58 (by decide) (fun n => absurd n c1) (fun _ => ?_)
    obtain ⟨x1, h2, hf⟩ := s_bind hf
    obtain ⟨x2, h3, hf⟩ := s_bind hf
    obtain ⟨σ3, h4, hf⟩ := s_bind hf
    cases hf
    have k : s_V G (d + 3) M_X8_believe vs0 σ0 Y_X8_believe (76, [.int v3, .int w0], σ3) (e_I r) := k
    have le5 : s_le σ3 (e_I r).2 := k.1
    refine lv_aload_n hx hb dX8_believe_61 rfl (lv_at hl 1 rfl) ?_
    refine r_gr X I fl_X8_13 h2 dX8_believe_62 ?_
    refine lv_bipush (v := 58) hx hb dX8_believe_65 (by decide) ?_
    refine lv_iload_n hx hb dX8_believe_67 rfl (lv_at hl 2 rfl) ?_
    refine lv_iadd hx hb dX8_believe_68 ?_
    refine lv_dup2_11 hx hb dX8_believe_69 rfl rfl ?_
    refine r_iald X I h3 dX8_believe_70 ?_
    refine lv_iconst (v := 1) hx hb dX8_believe_71 (by decide) ?_
    refine lv_iload_n hx hb dX8_believe_72 rfl (lv_at hl 3 rfl) ?_
    refine lv_ishl hx hb dX8_believe_73 ?_
    refine lv_ixor hx hb dX8_believe_74 ?_
    refine r_iast X I h4 dX8_believe_75 (fun H locs I => ?_)
    have hn := s_k2 (s_si_2 h4) hn
    exact k.2 p e s m below meth c _ _ _ _ _ X I hn.1 hn.2 (lv_sub hl [4, 0] rfl)
set_option maxRecDepth 100000 in
set_option maxHeartbeats 4000000 in
theorem v_X8_believe_76 {G : sG} {d : Nat} {vs0 : List Value} {σ0 : sS} {v3 : Int32} {v4 : Int32} {σ : sS} {z : sZ Int32} {r : Int32 × sS} (hf : T_X8_believe_76 v3 v4 σ = some z) (k : s_K G (d + 3) M_X8_believe vs0 σ0 Y_X8_believe e_I z r) : s_V G (d + 3) M_X8_believe vs0 σ0 Y_X8_believe (76, [.int v3, .int v4], σ) (e_I r) := by
  have le0 : s_le σ (e_I r).2 := s_lek hem_I (l_X8_believe_76 hf) k
  refine ⟨le0, ?_⟩
  intro p e s m below meth c H locs cells slots ls X I hn1 hn2 hl
  have hn : cells + σ0.2.1 ≤ σ.2.1 ∧ slots + σ0.2.2.1 ≤ σ.2.2.1 := ⟨hn1, hn2⟩
  have hl : lv_has ls 5 [(3, .int v3), (4, .int v4)] := hl
  have hx := X.1
  have hb : c.code = cX8_believe := X.2.1
  have hown : s.vm.findClass RX8 = some m.cls := X.2.2.2.2.2.1
  have hts := X.2.2.2.2.2.2.1
  refine W.eq (g2 := F0 m 76 ls []) rfl ?_
  unfold T_X8_believe_76 at hf
  refine lv_iload hx hb dX8_believe_76 (lv_at hl 1 rfl) ?_
  refine lv_iload_n hx hb dX8_believe_78 rfl (lv_at hl 0 rfl) ?_
  rcases s_ite hf with ⟨c1, hf⟩ | ⟨c1, hf⟩
  · refine lv_icmp_eq (tgt := 86) hx hb dX8_believe_79 (by decide) (fun _ => ?_) (fun n => absurd c1 n)
    cases hf
    have k : _ = r := k
    subst k
    refine lv_iconst (v := 0) hx hb dX8_believe_86 (by decide) ?_
    exact r_iret X I rfl rfl rfl hn dX8_believe_87
  · refine lv_icmp_eq (tgt := 86) hx hb dX8_believe_79 (by decide) (fun n => absurd n c1) (fun _ => ?_)
    cases hf
    have k : _ = r := k
    subst k
    refine lv_iconst (v := 1) hx hb dX8_believe_82 (by decide) ?_
    refine lv_goto (tgt := 87) hx hb dX8_believe_83 (by decide) ?_
    exact r_iret X I rfl rfl rfl hn dX8_believe_87
theorem v_X8_believe {G : sG} {d : Nat} {vs0 : List Value} {σ0 : sS} {x : sL} {z : sZ Int32} {r : Int32 × sS} (hs : S_X8_believe x = some z) (k : s_K G (d + 3) M_X8_believe vs0 σ0 Y_X8_believe e_I z r) : s_V G (d + 3) M_X8_believe vs0 σ0 Y_X8_believe x (e_I r) := by
  obtain ⟨pc, vs, σ⟩ := x
  unfold S_X8_believe at hs
  dsimp only at hs
  rcases s_ite hs with ⟨c, hs⟩ | ⟨-, hs⟩
  · subst c
    unfold U_X8_believe_0 at hs
    obtain ⟨a0, g0, hs⟩ := s_bind hs
    obtain ⟨a1, g1, hs⟩ := s_bind hs
    obtain ⟨a2, g2, hs⟩ := s_bind hs
    obtain ⟨a3, g3, hs⟩ := s_bind hs
    obtain ⟨u9, ge, hs⟩ := s_bind hs
    rw [g_r_to g0, g_i_to g1, g_i_to g2, g_i_to g3, g_e_to ge]
    exact v_X8_believe_0 hs k
  rcases s_ite hs with ⟨c, hs⟩ | ⟨-, hs⟩
  · subst c
    unfold U_X8_believe_21 at hs
    obtain ⟨a0, g0, hs⟩ := s_bind hs
    obtain ⟨a1, g1, hs⟩ := s_bind hs
    obtain ⟨a2, g2, hs⟩ := s_bind hs
    obtain ⟨a3, g3, hs⟩ := s_bind hs
    obtain ⟨a4, g4, hs⟩ := s_bind hs
    obtain ⟨u9, ge, hs⟩ := s_bind hs
    rw [g_r_to g0, g_i_to g1, g_i_to g2, g_i_to g3, g_r_to g4, g_e_to ge]
    exact v_X8_believe_21 hs k
  rcases s_ite hs with ⟨c, hs⟩ | ⟨-, hs⟩
  · subst c
    unfold U_X8_believe_26 at hs
    obtain ⟨a0, g0, hs⟩ := s_bind hs
    obtain ⟨a1, g1, hs⟩ := s_bind hs
    obtain ⟨a2, g2, hs⟩ := s_bind hs
    obtain ⟨a3, g3, hs⟩ := s_bind hs
    obtain ⟨a4, g4, hs⟩ := s_bind hs
    obtain ⟨a5, g5, hs⟩ := s_bind hs
    obtain ⟨u9, ge, hs⟩ := s_bind hs
    rw [g_r_to g0, g_i_to g1, g_i_to g2, g_i_to g3, g_i_to g4, g_r_to g5, g_e_to ge]
    exact v_X8_believe_26 hs k
  rcases s_ite hs with ⟨c, hs⟩ | ⟨-, hs⟩
  · subst c
    unfold U_X8_believe_53 at hs
    obtain ⟨a0, g0, hs⟩ := s_bind hs
    obtain ⟨a1, g1, hs⟩ := s_bind hs
    obtain ⟨a2, g2, hs⟩ := s_bind hs
    obtain ⟨a3, g3, hs⟩ := s_bind hs
    obtain ⟨a4, g4, hs⟩ := s_bind hs
    obtain ⟨u9, ge, hs⟩ := s_bind hs
    rw [g_r_to g0, g_i_to g1, g_i_to g2, g_i_to g3, g_i_to g4, g_e_to ge]
    exact v_X8_believe_53 hs k
  rcases s_ite hs with ⟨c, hs⟩ | ⟨-, hs⟩
  · subst c
    unfold U_X8_believe_76 at hs
    obtain ⟨a0, g0, hs⟩ := s_bind hs
    obtain ⟨a1, g1, hs⟩ := s_bind hs
    obtain ⟨u9, ge, hs⟩ := s_bind hs
    rw [g_i_to g0, g_i_to g1, g_e_to ge]
    exact v_X8_believe_76 hs k
  cases hs
theorem t_X8_believe {G : sG} {d : Nat} {v0 : Nat} {v1 : Int32} {v2 : Int32} {v3 : Int32} {σ : sS} {q : Int32 × sS} (h : F_X8_believe v0 v1 v2 v3 σ = some q) : s_T G (d + 3) M_X8_believe [.ref v0, .int v1, .int v2, .int v3] σ (e_I q) := by
  unfold F_X8_believe at h
  obtain ⟨-, -, h⟩ := s_bind h
  exact s_ofV rfl (by decide) (Nat.le_of_ble_eq_true rfl) rfl rfl (s_run_ind (V := fun x r => s_V G (d + 3) M_X8_believe [.ref v0, .int v1, .int v2, .int v3] σ Y_X8_believe x (e_I r)) (fun x z r hs hk => v_X8_believe hs (by cases z <;> exact hk)) h)
/-! X8_beliefs -/
noncomputable def T_X8_beliefs_0 (v0 : Nat) (v1 : Int32) (σ : sS) : Option (sZ Int32) :=
  (s_pf σ v0 8 0 (.int 0)).bind fun σ1 =>
  (F_X8_noCustomer v1 σ1).bind fun q2 =>
  (F_X8_throwsIf v0 q2.1 1 q2.2).bind fun q3 =>
  if q3.1 = 0 then ((F_X8_beliefsOf v0 v1 q3.2).bind fun q4 =>
  some (.inr (q4.1, q4.2)))
  else (some (.inr (0, q3.2)))
noncomputable def U_X8_beliefs_0 (vs : List Value) (σ : sS) : Option (sZ Int32) := (g_r vs).bind fun a0 => (g_i a0.2).bind fun a1 => (g_e a1.2).bind fun _ => T_X8_beliefs_0 a0.1 a1.1 σ
noncomputable def S_X8_beliefs (x : sL) : Option (sZ Int32) := if x.1 = 0 then U_X8_beliefs_0 x.2.1 x.2.2 else none
def Y_X8_beliefs (pc : Nat) : List Nat := if pc = 0 then [0, 1] else []
noncomputable def F_X8_beliefs (v0 : Nat) (v1 : Int32) (σ : sS) : Option (Int32 × sS) := (s_is σ v0 8).bind fun _ => s_run S_X8_beliefs (0, [.ref v0, .int v1], σ)
theorem l_X8_beliefs_0 {v0 : Nat} {v1 : Int32} {σ : sS} {z : sZ Int32} (hf : T_X8_beliefs_0 v0 v1 σ = some z) : s_lz σ z := by
  unfold T_X8_beliefs_0 at hf
  obtain ⟨σ1, hh, hf⟩ := s_bind hf
  refine s_lz.tr (s_le2 (s_pf_2 hh)) ?_
  obtain ⟨q2, hh, hf⟩ := s_bind hf
  refine s_lz.tr (l_X8_noCustomer hh) ?_
  obtain ⟨q3, hh, hf⟩ := s_bind hf
  refine s_lz.tr (l_X8_throwsIf hh) ?_
  rcases s_ite hf with ⟨-, hf⟩ | ⟨-, hf⟩
  · obtain ⟨q4, hh, hf⟩ := s_bind hf
    refine s_lz.tr (l_X8_beliefsOf hh) ?_
    cases hf
    exact s_le.rf
  · cases hf
    exact s_le.rf
theorem l_X8_beliefs_s {x : sL} {z : sZ Int32} (hs : S_X8_beliefs x = some z) : s_lz x.2.2 z := by
  obtain ⟨pc, vs, σ⟩ := x
  unfold S_X8_beliefs at hs
  dsimp only at hs ⊢
  rcases s_ite hs with ⟨c, hs⟩ | ⟨-, hs⟩
  · subst c
    unfold U_X8_beliefs_0 at hs
    obtain ⟨a0, g0, hs⟩ := s_bind hs
    obtain ⟨a1, g1, hs⟩ := s_bind hs
    obtain ⟨u9, ge, hs⟩ := s_bind hs
    exact l_X8_beliefs_0 hs
  cases hs
theorem l_X8_beliefs {v0 : Nat} {v1 : Int32} {σ : sS} {q : Int32 × sS} (h : F_X8_beliefs v0 v1 σ = some q) : s_le σ q.2 := by
  unfold F_X8_beliefs at h
  obtain ⟨-, -, h⟩ := s_bind h
  exact s_run_ind (V := fun x r => s_le x.2.2 r.2) (fun x z r hs hk => by
    have h9 := l_X8_beliefs_s hs
    cases z with
    | inl y => exact s_le.tr h9 hk
    | inr q => cases hk; exact h9) h
theorem b_X8_beliefs {v0 : Nat} {v1 : Int32} {σ : sS} {q : Int32 × sS} (h : F_X8_beliefs v0 v1 σ = some q) : ∃ fs, σ.1 v0 = some (.inr (8, fs)) := by
  unfold F_X8_beliefs at h
  obtain ⟨u, hu, -⟩ := s_bind h
  exact s_is_to hu
set_option maxRecDepth 100000 in
set_option maxHeartbeats 4000000 in
theorem v_X8_beliefs_0 {G : sG} {d : Nat} {vs0 : List Value} {σ0 : sS} {v0 : Nat} {v1 : Int32} {σ : sS} {z : sZ Int32} {r : Int32 × sS} (hf : T_X8_beliefs_0 v0 v1 σ = some z) (k : s_K G (d + 3) M_X8_beliefs vs0 σ0 Y_X8_beliefs e_I z r) : s_V G (d + 3) M_X8_beliefs vs0 σ0 Y_X8_beliefs (0, [.ref v0, .int v1], σ) (e_I r) := by
  have le0 : s_le σ (e_I r).2 := s_lek hem_I (l_X8_beliefs_0 hf) k
  refine ⟨le0, ?_⟩
  intro p e s m below meth c H locs cells slots ls X I hn1 hn2 hl
  have hn : cells + σ0.2.1 ≤ σ.2.1 ∧ slots + σ0.2.2.1 ≤ σ.2.2.1 := ⟨hn1, hn2⟩
  have hl : lv_has ls 2 [(0, .ref v0), (1, .int v1)] := hl
  have hx := X.1
  have hb : c.code = cX8_beliefs := X.2.1
  have hown : s.vm.findClass RX8 = some m.cls := X.2.2.2.2.2.1
  have hts := X.2.2.2.2.2.2.1
  refine W.eq (g2 := F0 m 0 ls []) rfl ?_
  unfold T_X8_beliefs_0 at hf
  obtain ⟨σ1, h1, hf⟩ := s_bind hf
  obtain ⟨q2, h2, hf⟩ := s_bind hf
  obtain ⟨q3, h3, hf⟩ := s_bind hf
  have le4 : s_le q3.2 (e_I r).2 := by
    refine s_lek hem_I ?_ k
    rcases s_ite hf with ⟨-, hf⟩ | ⟨-, hf⟩
    · obtain ⟨q4, hh, hf⟩ := s_bind hf
      refine s_lz.tr (l_X8_beliefsOf hh) ?_
      cases hf
      exact s_le.rf
    · cases hf
      exact s_le.rf
  have le5 := s_le.tr (l_X8_throwsIf h3) le4
  have le6 := s_le.tr (l_X8_noCustomer h2) le5
  refine lv_aload_n hx hb dX8_beliefs_0 rfl (lv_at hl 0 rfl) ?_
  refine lv_iconst (v := 0) hx hb dX8_beliefs_1 (by decide) ?_
  refine r_put X I fp_X8_3 (fun h => by cases h) h1 rfl rfl dX8_beliefs_2 (fun H locs I => ?_)
  have hn := s_k2 (s_pf_2 h1) hn
  refine lv_aload_n hx hb dX8_beliefs_5 rfl (lv_at hl 0 rfl) ?_
  refine lv_iload_n hx hb dX8_beliefs_6 rfl (lv_at hl 1 rfl) ?_
  refine r_callS (Y := M_X8_noCustomer) (v := some (.int q2.1)) X I w_1984 my_X8_noCustomer (by omega) (t_X8_noCustomer (G := G) (d := d + 0) h2) rfl rfl hl.1 rfl (Nat.le_of_ble_eq_true rfl) hn le5 dX8_beliefs_7 (fun H locs cells slots I hn1 hn2 => ?_)
  have I : s_I G q2.2 s H locs := I
  have hn : cells + σ0.2.1 ≤ q2.2.2.1 ∧ slots + σ0.2.2.1 ≤ q2.2.2.2.1 := ⟨hn1, hn2⟩
  refine lv_iconst (v := 1) hx hb dX8_beliefs_10 (by decide) ?_
  refine r_callV (Y := M_X8_throwsIf) (v := some (.int q3.1)) X I w_1897 my_X8_throwsIf (by omega) (t_X8_throwsIf (G := G) (d := d + 1) h3) (b_X8_throwsIf h3) rfl rfl hl.1 rfl (Nat.le_of_ble_eq_true rfl) hn le4 dX8_beliefs_11 (fun H locs cells slots I hn1 hn2 => ?_)
  have I : s_I G q3.2 s H locs := I
  have hn : cells + σ0.2.1 ≤ q3.2.2.1 ∧ slots + σ0.2.2.1 ≤ q3.2.2.2.1 := ⟨hn1, hn2⟩
  rcases s_ite hf with ⟨c7, hf⟩ | ⟨c7, hf⟩
  · refine lv_if_eq (tgt := 21) hx hb dX8_beliefs_14 (by decide) (fun _ => ?_) (fun n => absurd c7 n)
    obtain ⟨q4, h8, hf⟩ := s_bind hf
    cases hf
    have k : _ = r := k
    subst k
    have le9 : s_le q4.2 q4.2 := s_le.rf
    refine lv_aload_n hx hb dX8_beliefs_21 rfl (lv_at hl 0 rfl) ?_
    refine lv_iload_n hx hb dX8_beliefs_22 rfl (lv_at hl 1 rfl) ?_
    refine r_callV (Y := M_X8_beliefsOf) (v := some (.int q4.1)) X I w_1987 my_X8_beliefsOf (by omega) (t_X8_beliefsOf (G := G) (d := d + 1) h8) (b_X8_beliefsOf h8) rfl rfl hl.1 rfl (Nat.le_of_ble_eq_true rfl) hn le9 dX8_beliefs_23 (fun H locs cells slots I hn1 hn2 => ?_)
    have I : s_I G q4.2 s H locs := I
    have hn : cells + σ0.2.1 ≤ q4.2.2.1 ∧ slots + σ0.2.2.1 ≤ q4.2.2.2.1 := ⟨hn1, hn2⟩
    exact r_iret X I rfl rfl rfl hn dX8_beliefs_26
  · refine lv_if_eq (tgt := 21) hx hb dX8_beliefs_14 (by decide) (fun n => absurd n c7) (fun _ => ?_)
    cases hf
    have k : _ = r := k
    subst k
    refine lv_iconst (v := 0) hx hb dX8_beliefs_17 (by decide) ?_
    refine lv_goto (tgt := 26) hx hb dX8_beliefs_18 (by decide) ?_
    exact r_iret X I rfl rfl rfl hn dX8_beliefs_26
theorem v_X8_beliefs {G : sG} {d : Nat} {vs0 : List Value} {σ0 : sS} {x : sL} {z : sZ Int32} {r : Int32 × sS} (hs : S_X8_beliefs x = some z) (k : s_K G (d + 3) M_X8_beliefs vs0 σ0 Y_X8_beliefs e_I z r) : s_V G (d + 3) M_X8_beliefs vs0 σ0 Y_X8_beliefs x (e_I r) := by
  obtain ⟨pc, vs, σ⟩ := x
  unfold S_X8_beliefs at hs
  dsimp only at hs
  rcases s_ite hs with ⟨c, hs⟩ | ⟨-, hs⟩
  · subst c
    unfold U_X8_beliefs_0 at hs
    obtain ⟨a0, g0, hs⟩ := s_bind hs
    obtain ⟨a1, g1, hs⟩ := s_bind hs
    obtain ⟨u9, ge, hs⟩ := s_bind hs
    rw [g_r_to g0, g_i_to g1, g_e_to ge]
    exact v_X8_beliefs_0 hs k
  cases hs
theorem t_X8_beliefs {G : sG} {d : Nat} {v0 : Nat} {v1 : Int32} {σ : sS} {q : Int32 × sS} (h : F_X8_beliefs v0 v1 σ = some q) : s_T G (d + 3) M_X8_beliefs [.ref v0, .int v1] σ (e_I q) := by
  unfold F_X8_beliefs at h
  obtain ⟨-, -, h⟩ := s_bind h
  exact s_ofV rfl (by decide) (Nat.le_of_ble_eq_true rfl) rfl rfl (s_run_ind (V := fun x r => s_V G (d + 3) M_X8_beliefs [.ref v0, .int v1] σ Y_X8_beliefs x (e_I r)) (fun x z r hs hk => v_X8_beliefs hs (by cases z <;> exact hk)) h)
/-! X7_needPremise -/
noncomputable def T_X7_needPremise_0 (v0 : Nat) (v1 : Int32) (σ : sS) : Option (sZ (Unit ⊕ String)) :=
  if v1 = (-1) then (some (.inr (.inl (), σ)))
  else ((F_X7_needLine v0 v1 σ).bind fun q1 => s_sum q1.1 (fun x2 => some (.inr (.inl (), q1.2))) (fun E3 => some (.inr (.inr E3, q1.2))))
noncomputable def U_X7_needPremise_0 (vs : List Value) (σ : sS) : Option (sZ (Unit ⊕ String)) := (g_r vs).bind fun a0 => (g_i a0.2).bind fun a1 => (g_e a1.2).bind fun _ => T_X7_needPremise_0 a0.1 a1.1 σ
noncomputable def S_X7_needPremise (x : sL) : Option (sZ (Unit ⊕ String)) := if x.1 = 0 then U_X7_needPremise_0 x.2.1 x.2.2 else none
def Y_X7_needPremise (pc : Nat) : List Nat := if pc = 0 then [0, 1] else []
noncomputable def F_X7_needPremise (v0 : Nat) (v1 : Int32) (σ : sS) : Option ((Unit ⊕ String) × sS) := (s_is σ v0 7).bind fun _ => s_run S_X7_needPremise (0, [.ref v0, .int v1], σ)
theorem l_X7_needPremise_0 {v0 : Nat} {v1 : Int32} {σ : sS} {z : sZ (Unit ⊕ String)} (hf : T_X7_needPremise_0 v0 v1 σ = some z) : s_lz σ z := by
  unfold T_X7_needPremise_0 at hf
  rcases s_ite hf with ⟨-, hf⟩ | ⟨-, hf⟩
  · cases hf
    exact s_le.rf
  · obtain ⟨q1, hh, hf⟩ := s_bind hf
    refine s_lz.tr (l_X7_needLine hh) ?_
    rcases s_sum_some hf with ⟨x2, -, hf⟩ | ⟨E3, -, hf⟩
    · cases hf
      exact s_le.rf
    · cases hf
      exact s_le.rf
theorem l_X7_needPremise_s {x : sL} {z : sZ (Unit ⊕ String)} (hs : S_X7_needPremise x = some z) : s_lz x.2.2 z := by
  obtain ⟨pc, vs, σ⟩ := x
  unfold S_X7_needPremise at hs
  dsimp only at hs ⊢
  rcases s_ite hs with ⟨c, hs⟩ | ⟨-, hs⟩
  · subst c
    unfold U_X7_needPremise_0 at hs
    obtain ⟨a0, g0, hs⟩ := s_bind hs
    obtain ⟨a1, g1, hs⟩ := s_bind hs
    obtain ⟨u9, ge, hs⟩ := s_bind hs
    exact l_X7_needPremise_0 hs
  cases hs
theorem l_X7_needPremise {v0 : Nat} {v1 : Int32} {σ : sS} {q : (Unit ⊕ String) × sS} (h : F_X7_needPremise v0 v1 σ = some q) : s_le σ q.2 := by
  unfold F_X7_needPremise at h
  obtain ⟨-, -, h⟩ := s_bind h
  exact s_run_ind (V := fun x r => s_le x.2.2 r.2) (fun x z r hs hk => by
    have h9 := l_X7_needPremise_s hs
    cases z with
    | inl y => exact s_le.tr h9 hk
    | inr q => cases hk; exact h9) h
theorem b_X7_needPremise {v0 : Nat} {v1 : Int32} {σ : sS} {q : (Unit ⊕ String) × sS} (h : F_X7_needPremise v0 v1 σ = some q) : ∃ fs, σ.1 v0 = some (.inr (7, fs)) := by
  unfold F_X7_needPremise at h
  obtain ⟨u, hu, -⟩ := s_bind h
  exact s_is_to hu
set_option maxRecDepth 100000 in
set_option maxHeartbeats 4000000 in
theorem v_X7_needPremise_0 {G : sG} {d : Nat} {vs0 : List Value} {σ0 : sS} {v0 : Nat} {v1 : Int32} {σ : sS} {z : sZ (Unit ⊕ String)} {r : (Unit ⊕ String) × sS} (hf : T_X7_needPremise_0 v0 v1 σ = some z) (k : s_K G (d + 2) M_X7_needPremise vs0 σ0 Y_X7_needPremise e_VX z r) : s_V G (d + 2) M_X7_needPremise vs0 σ0 Y_X7_needPremise (0, [.ref v0, .int v1], σ) (e_VX r) := by
  have le0 : s_le σ (e_VX r).2 := s_lek hem_VX (l_X7_needPremise_0 hf) k
  refine ⟨le0, ?_⟩
  intro p e s m below meth c H locs cells slots ls X I hn1 hn2 hl
  have hn : cells + σ0.2.1 ≤ σ.2.1 ∧ slots + σ0.2.2.1 ≤ σ.2.2.1 := ⟨hn1, hn2⟩
  have hl : lv_has ls 2 [(0, .ref v0), (1, .int v1)] := hl
  have hx := X.1
  have hb : c.code = cX7_needPremise := X.2.1
  have hown : s.vm.findClass RX7 = some m.cls := X.2.2.2.2.2.1
  have hts := X.2.2.2.2.2.2.1
  refine W.eq (g2 := F0 m 0 ls []) rfl ?_
  unfold T_X7_needPremise_0 at hf
  refine lv_iload_n hx hb dX7_needPremise_0 rfl (lv_at hl 1 rfl) ?_
  refine lv_iconst (v := (-1)) hx hb dX7_needPremise_1 (by decide) ?_
  rcases s_ite hf with ⟨c1, hf⟩ | ⟨c1, hf⟩
  · refine lv_icmp_eq (tgt := 10) hx hb dX7_needPremise_2 (by decide) (fun _ => ?_) (fun n => absurd c1 n)
    cases hf
    have k : _ = r := k
    subst k
    exact r_vret X I rfl rfl hn dX7_needPremise_10
  · refine lv_icmp_eq (tgt := 10) hx hb dX7_needPremise_2 (by decide) (fun n => absurd n c1) (fun _ => ?_)
    obtain ⟨q1, h2, hf⟩ := s_bind hf
    refine lv_aload_n hx hb dX7_needPremise_5 rfl (lv_at hl 0 rfl) ?_
    refine lv_iload_n hx hb dX7_needPremise_6 rfl (lv_at hl 1 rfl) ?_
    rcases s_sum_some hf with ⟨x2, hq3, hf⟩ | ⟨E3, hq3, hf⟩
    · have le4 : s_le q1.2 (e_VX r).2 := by
        refine s_lek hem_VX ?_ k
        cases hf
        exact s_le.rf
      refine r_callV (Y := M_X7_needLine) (v := none) X I w_1138 my_X7_needLine (by omega) (t_X7_needLine (G := G) (d := d + 0) h2) (b_X7_needLine h2) (e_VX_l hq3) rfl hl.1 rfl (Nat.le_of_ble_eq_true rfl) hn le4 dX7_needPremise_7 (fun H locs cells slots I hn1 hn2 => ?_)
      have I : s_I G q1.2 s H locs := I
      have hn : cells + σ0.2.1 ≤ q1.2.2.1 ∧ slots + σ0.2.2.1 ≤ q1.2.2.2.1 := ⟨hn1, hn2⟩
      cases hf
      have k : _ = r := k
      subst k
      exact r_vret X I rfl rfl hn dX7_needPremise_10
    · cases hf
      have k : _ = r := k
      subst k
      exact r_callVx (Y := M_X7_needLine) X I rfl w_1138 my_X7_needLine (by omega) (t_X7_needLine (G := G) (d := d + 0) h2) (b_X7_needLine h2) (e_VX_r hq3) rfl hl.1 rfl (Nat.le_of_ble_eq_true rfl) hn rfl dX7_needPremise_7
theorem v_X7_needPremise {G : sG} {d : Nat} {vs0 : List Value} {σ0 : sS} {x : sL} {z : sZ (Unit ⊕ String)} {r : (Unit ⊕ String) × sS} (hs : S_X7_needPremise x = some z) (k : s_K G (d + 2) M_X7_needPremise vs0 σ0 Y_X7_needPremise e_VX z r) : s_V G (d + 2) M_X7_needPremise vs0 σ0 Y_X7_needPremise x (e_VX r) := by
  obtain ⟨pc, vs, σ⟩ := x
  unfold S_X7_needPremise at hs
  dsimp only at hs
  rcases s_ite hs with ⟨c, hs⟩ | ⟨-, hs⟩
  · subst c
    unfold U_X7_needPremise_0 at hs
    obtain ⟨a0, g0, hs⟩ := s_bind hs
    obtain ⟨a1, g1, hs⟩ := s_bind hs
    obtain ⟨u9, ge, hs⟩ := s_bind hs
    rw [g_r_to g0, g_i_to g1, g_e_to ge]
    exact v_X7_needPremise_0 hs k
  cases hs
theorem t_X7_needPremise {G : sG} {d : Nat} {v0 : Nat} {v1 : Int32} {σ : sS} {q : (Unit ⊕ String) × sS} (h : F_X7_needPremise v0 v1 σ = some q) : s_T G (d + 2) M_X7_needPremise [.ref v0, .int v1] σ (e_VX q) := by
  unfold F_X7_needPremise at h
  obtain ⟨-, -, h⟩ := s_bind h
  exact s_ofV rfl (by decide) (Nat.le_of_ble_eq_true rfl) rfl rfl (s_run_ind (V := fun x r => s_V G (d + 2) M_X7_needPremise [.ref v0, .int v1] σ Y_X7_needPremise x (e_VX r)) (fun x z r hs hk => v_X7_needPremise hs (by cases z <;> exact hk)) h)
